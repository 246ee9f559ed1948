set_option maxRecDepth 100000 in
set_option maxHeartbeats 4000000 in
theorem zM_give_b96 {p : Program} {l : Launch} {e : Env} {R : Room} {s0 : State} {m : MethodId} {args : Array Value} {below : List Frame} {meth : Method} {c : Code} {Q : State → Prop} {A : Nat → Prop} {D : va_G} {X : Nat → Nat} {cI cZ cJ : ClassId} {rv : Unit} {rs : mb_S}
    (Cx : mb_C p s0 m args meth c c_M_give 8 lw_w cnM (fun _ _ => True) vwCl D [(cI, .int), (cZ, .boolean), (cJ, .long)] A (WM X cI cZ cJ)) (hR : 3 ≤ R.frames ∧ 85 ≤ R.locals)
    (hret : mb_R p l e R s0 m args below meth c Q vwCl D A (WM X cI cZ cJ) c_M_give .return_ [] rs)  (x1 : Int32) (x2 : Int32) (x3 : Int32) (x4 : Int32) (x5 : Int32) (s : mb_S)
    (h : mM_give_b96  x1 x2 x3 x4 x5 s = some (rv, rs)) : mb_B p l e R s0 m args below meth c Q vwCl D A (WM X cI cZ cJ) 8 [(0, .ref (X 0)), (1, .int x1), (2, .int x2), (3, .int x3), (4, .int x4), (5, .int x5)] [] 96 s := by
  unfold mM_give_b96 at h
  intro ls H locs hl hP hS
  have Cx0 := Cx
  obtain ⟨⟨hx, hb, hml, hown, hts⟩, hK, hD, hA, hZ⟩ := Cx0
  refine lv_aload_n hx hb d_M_give_96 rfl (lv_at hl 0 rfl) ?_
  refine lv_iload_n hx hb d_M_give_97 rfl (lv_at hl 1 rfl) ?_
  refine lv_iload_n hx hb d_M_give_98 rfl (lv_at hl 2 rfl) ?_
  refine lv_iload_n hx hb d_M_give_99 rfl (lv_at hl 3 rfl) ?_
  refine lv_iload hx hb d_M_give_100 (lv_at hl 4 rfl) ?_
  refine lv_iload hx hb d_M_give_102 (lv_at hl 5 rfl) ?_
  obtain ⟨_u, s1, hs1, h⟩ := mb_cal_ex h
  refine mb_goV Cx (mb_runV (As := [.int x1, .int x2, .int x3, .int x4, .int x5]) (rest := []) mb_Z0ok Cx (w_M_back l D X cI cZ cJ hs1 H.size) (mb_cwV 5 hts wd_727 wd_729 sel_57 wd_7 wd_730 rfl rfl rfl (by decide +kernel) ⟨Nat.le_trans (by decide) hR.1, Nat.le_trans (by decide) hR.2⟩) hP hS 0 rfl rfl rfl hl.1 rfl (Nat.le_of_ble_eq_true rfl) d_M_give_104) hS (fun H locs hP hS => ?_)
  exact mb_eV hret h d_M_give_107 hP hS
set_option maxRecDepth 100000 in
set_option maxHeartbeats 4000000 in
theorem zM_give_b93 {p : Program} {l : Launch} {e : Env} {R : Room} {s0 : State} {m : MethodId} {args : Array Value} {below : List Frame} {meth : Method} {c : Code} {Q : State → Prop} {A : Nat → Prop} {D : va_G} {X : Nat → Nat} {cI cZ cJ : ClassId} {rv : Unit} {rs : mb_S}
    (Cx : mb_C p s0 m args meth c c_M_give 8 lw_w cnM (fun _ _ => True) vwCl D [(cI, .int), (cZ, .boolean), (cJ, .long)] A (WM X cI cZ cJ)) (hR : 3 ≤ R.frames ∧ 85 ≤ R.locals)
    (hret : mb_R p l e R s0 m args below meth c Q vwCl D A (WM X cI cZ cJ) c_M_give .return_ [] rs)  (x1 : Int32) (x2 : Int32) (x3 : Int32) (x4 : Int32) (x5 : Int32) (y0 : Int32) (s : mb_S)
    (h : mM_give_b93  x1 x2 x3 x4 x5 y0 s = some (rv, rs)) : mb_B p l e R s0 m args below meth c Q vwCl D A (WM X cI cZ cJ) 8 [(0, .ref (X 0)), (1, .int x1), (2, .int x2), (3, .int x3), (4, .int x4), (5, .int x5)] [.int y0, .ref (X 0)] 93 s := by
  unfold mM_give_b93 at h
  intro ls H locs hl hP hS
  have Cx0 := Cx
  obtain ⟨⟨hx, hb, hml, hown, hts⟩, hK, hD, hA, hZ⟩ := Cx0
  obtain ⟨hzs2, h⟩ := mb_putZ_ex h
  refine va_put (ci := 5) (v := .int y0) (ty := .boolean) (C := cnM) (T := fTM) (N := 30) hx hb hts uwM fyM fyM_ok fnM hown hK hP (hD _) hS 0 rfl rfl 8 (by decide) (hts _ wd_533) (fun _ h9 => h9) rfl (by decide +kernel) (mb_narZ hzs2) (mb_fitZ hzs2) (Nat.le_of_ble_eq_true rfl) d_M_give_93 (fun H locs hP _ hS => ?_)
  have hP : va_P D vwCl (WM X cI cZ cJ (mb_setF s 1 y0)) H := hP
  generalize mb_setF s 1 y0 = s2 at hP h
  exact zM_give_b96 Cx hR hret  x1 x2 x3 x4 x5 s2 h ls H locs (lv_sub hl [0, 1, 2, 3, 4, 5] rfl) hP hS
set_option maxRecDepth 100000 in
set_option maxHeartbeats 4000000 in
theorem zM_give_b88 {p : Program} {l : Launch} {e : Env} {R : Room} {s0 : State} {m : MethodId} {args : Array Value} {below : List Frame} {meth : Method} {c : Code} {Q : State → Prop} {A : Nat → Prop} {D : va_G} {X : Nat → Nat} {cI cZ cJ : ClassId} {rv : Unit} {rs : mb_S}
    (Cx : mb_C p s0 m args meth c c_M_give 8 lw_w cnM (fun _ _ => True) vwCl D [(cI, .int), (cZ, .boolean), (cJ, .long)] A (WM X cI cZ cJ)) (hR : 3 ≤ R.frames ∧ 85 ≤ R.locals)
    (hret : mb_R p l e R s0 m args below meth c Q vwCl D A (WM X cI cZ cJ) c_M_give .return_ [] rs)  (x1 : Int32) (x2 : Int32) (x3 : Int32) (x4 : Int32) (x5 : Int32) (s : mb_S)
    (h : mM_give_b88  x1 x2 x3 x4 x5 s = some (rv, rs)) : mb_B p l e R s0 m args below meth c Q vwCl D A (WM X cI cZ cJ) 8 [(0, .ref (X 0)), (1, .int x1), (2, .int x2), (3, .int x3), (4, .int x4), (5, .int x5)] [.ref (X 0)] 88 s := by
  unfold mM_give_b88 at h
  intro ls H locs hl hP hS
  have Cx0 := Cx
  obtain ⟨⟨hx, hb, hml, hown, hts⟩, hK, hD, hA, hZ⟩ := Cx0
  refine lv_iconst (v := (1 : Int32)) hx hb d_M_give_88 (by decide) ?_
  refine lv_goto hx hb d_M_give_89 rfl ?_
  exact zM_give_b93 Cx hR hret  x1 x2 x3 x4 x5 (1 : Int32) s h ls H locs (lv_sub hl [0, 1, 2, 3, 4, 5] rfl) hP hS
set_option maxRecDepth 100000 in
set_option maxHeartbeats 4000000 in
theorem zM_give_b30 {p : Program} {l : Launch} {e : Env} {R : Room} {s0 : State} {m : MethodId} {args : Array Value} {below : List Frame} {meth : Method} {c : Code} {Q : State → Prop} {A : Nat → Prop} {D : va_G} {X : Nat → Nat} {cI cZ cJ : ClassId} {rv : Unit} {rs : mb_S}
    (Cx : mb_C p s0 m args meth c c_M_give 8 lw_w cnM (fun _ _ => True) vwCl D [(cI, .int), (cZ, .boolean), (cJ, .long)] A (WM X cI cZ cJ)) (hR : 3 ≤ R.frames ∧ 85 ≤ R.locals)
    (hret : mb_R p l e R s0 m args below meth c Q vwCl D A (WM X cI cZ cJ) c_M_give .return_ [] rs)  (x1 : Int32) (x2 : Int32) (x3 : Int32) (x4 : Int32) (x5 : Int32) (y0 : Int32) (s : mb_S)
    (h : mM_give_b30  x1 x2 x3 x4 x5 y0 s = some (rv, rs)) : mb_B p l e R s0 m args below meth c Q vwCl D A (WM X cI cZ cJ) 8 [(0, .ref (X 0)), (1, .int x1), (2, .int x2), (3, .int x3), (4, .int x4), (5, .int x5)] [.int y0, .ref (X 0)] 30 s := by
  unfold mM_give_b30 at h
  intro ls H locs hl hP hS
  have Cx0 := Cx
  obtain ⟨⟨hx, hb, hml, hown, hts⟩, hK, hD, hA, hZ⟩ := Cx0
  obtain ⟨hzs3, h⟩ := mb_putZ_ex h
  refine va_put (ci := 5) (v := .int y0) (ty := .boolean) (C := cnM) (T := fTM) (N := 30) hx hb hts uwM fyM fyM_ok fnM hown hK hP (hD _) hS 0 rfl rfl 8 (by decide) (hts _ wd_533) (fun _ h9 => h9) rfl (by decide +kernel) (mb_narZ hzs3) (mb_fitZ hzs3) (Nat.le_of_ble_eq_true rfl) d_M_give_30 (fun H locs hP _ hS => ?_)
  have hP : va_P D vwCl (WM X cI cZ cJ (mb_setF s 1 y0)) H := hP
  generalize mb_setF s 1 y0 = s3 at hP h
  refine lv_aload_n hx hb d_M_give_33 rfl (lv_at hl 0 rfl) ?_
  refine va_get (ci := 5) (C := cnM) (T := fTM) (N := 30) hx hb hts uwM hown hK hP 0 rfl rfl 16 (by decide) (hts _ wd_541) (fun _ h9 => h9) rfl d_M_give_34 ?_
  refine lv_iload hx hb d_M_give_37 (lv_at hl 4 rfl) ?_
  refine lv_iconst (v := (1 : Int32)) hx hb d_M_give_39 (by decide) ?_
  refine mb_zast (WS := WM X cI cZ cJ) hx hb hK hP hD hS 15 1 rfl rfl h d_M_give_40 rfl (fun H locs s4 hP hS h => ?_)
  refine lv_goto hx hb d_M_give_41 rfl ?_
  exact zM_give_b96 Cx hR hret  x1 x2 x3 x4 x5 s4 h ls H locs (lv_sub hl [0, 1, 2, 3, 4, 5] rfl) hP hS
set_option maxRecDepth 100000 in
set_option maxHeartbeats 4000000 in
theorem zM_give_b25 {p : Program} {l : Launch} {e : Env} {R : Room} {s0 : State} {m : MethodId} {args : Array Value} {below : List Frame} {meth : Method} {c : Code} {Q : State → Prop} {A : Nat → Prop} {D : va_G} {X : Nat → Nat} {cI cZ cJ : ClassId} {rv : Unit} {rs : mb_S}
    (Cx : mb_C p s0 m args meth c c_M_give 8 lw_w cnM (fun _ _ => True) vwCl D [(cI, .int), (cZ, .boolean), (cJ, .long)] A (WM X cI cZ cJ)) (hR : 3 ≤ R.frames ∧ 85 ≤ R.locals)
    (hret : mb_R p l e R s0 m args below meth c Q vwCl D A (WM X cI cZ cJ) c_M_give .return_ [] rs)  (x1 : Int32) (x2 : Int32) (x3 : Int32) (x4 : Int32) (x5 : Int32) (s : mb_S)
    (h : mM_give_b25  x1 x2 x3 x4 x5 s = some (rv, rs)) : mb_B p l e R s0 m args below meth c Q vwCl D A (WM X cI cZ cJ) 8 [(0, .ref (X 0)), (1, .int x1), (2, .int x2), (3, .int x3), (4, .int x4), (5, .int x5)] [.ref (X 0)] 25 s := by
  unfold mM_give_b25 at h
  intro ls H locs hl hP hS
  have Cx0 := Cx
  obtain ⟨⟨hx, hb, hml, hown, hts⟩, hK, hD, hA, hZ⟩ := Cx0
  refine lv_iconst (v := (1 : Int32)) hx hb d_M_give_25 (by decide) ?_
  refine lv_goto hx hb d_M_give_26 rfl ?_
  exact zM_give_b30 Cx hR hret  x1 x2 x3 x4 x5 (1 : Int32) s h ls H locs (lv_sub hl [0, 1, 2, 3, 4, 5] rfl) hP hS
set_option maxRecDepth 100000 in
set_option maxHeartbeats 4000000 in
theorem w_M_give (l : Launch) (D : va_G) (X : Nat → Nat) (cI cZ cJ : ClassId) {x1 : Int32} {x2 : Int32} {x3 : Int32} {x4 : Int32} {x5 : Int32} {s : mb_S} {rv : Unit} {rs : mb_S}
    (h : mM_give x1 x2 x3 x4 x5 s = some (rv, rs)) : mb_MV l y_M_give ws_M_give rm_M_give (fun _ _ => True) vwCl D [(cI, .int), (cZ, .boolean), (cJ, .long)] (WM X cI cZ cJ) [.ref (X 0), .int x1, .int x2, .int x3, .int x4, .int x5] s rs := by
  refine mb_ofV mb_Z0ok (by decide) rfl (Nat.le_of_ble_eq_true rfl) mb_DMok ?_
  intro p e s0 m args below meth c Q A Cx hret
  have hR : 3 ≤ (rm_M_give).frames ∧ 85 ≤ (rm_M_give).locals := ⟨Nat.le_refl _, Nat.le_refl _⟩
  intro ls H locs hl hP hS
  have Cx0 := Cx
  obtain ⟨⟨hx, hb, hml, hown, hts⟩, hK, hD, hA, hZ⟩ := Cx0
  have hl : lv_has ls 8 [(0, .ref (X 0)), (1, .int x1), (2, .int x2), (3, .int x3), (4, .int x4), (5, .int x5)] := hl
  unfold mM_give at h
  refine lv_iload hx hb d_M_give_0 (lv_at hl 5 rfl) ?_
  refine lv_bipush (v := (64 : Int32)) hx hb d_M_give_2 (by decide) ?_
  refine lv_icmp_ne hx hb d_M_give_4 rfl (fun hc => ?_) (fun hc => ?_)
  · have h := mb_f hc h
    refine lv_aload_n hx hb d_M_give_44 rfl (lv_at hl 0 rfl) ?_
    refine va_get (ci := 5) (C := cnM) (T := fTM) (N := 30) hx hb hts uwM hown hK hP 0 rfl rfl 15 (by decide) (hts _ wd_540) (fun _ h9 => h9) rfl d_M_give_45 ?_
    refine lv_iload hx hb d_M_give_48 (lv_at hl 4 rfl) ?_
    refine mb_lald hx hb hK hP 14 2 rfl rfl h d_M_give_50 (fun v5 h => ?_)
    refine lv_lstore (lv' := [(6, .long v5), (0, .ref (X 0)), (1, .int x1), (2, .int x2), (3, .int x3), (4, .int x4), (5, .int x5)]) hx hb d_M_give_51 hl (by decide) rfl (fun ls hl => ?_)
    refine lv_aload_n hx hb d_M_give_53 rfl (lv_at hl 1 rfl) ?_
    refine va_get (ci := 5) (C := cnM) (T := fTM) (N := 30) hx hb hts uwM hown hK hP 0 rfl rfl 15 (by decide) (hts _ wd_540) (fun _ h9 => h9) rfl d_M_give_54 ?_
    refine lv_iload hx hb d_M_give_57 (lv_at hl 5 rfl) ?_
    refine lv_lload hx hb d_M_give_59 (lv_at hl 0 rfl) ?_
    refine lv_lconst (v := (1 : Int64)) hx hb d_M_give_61 (by decide) ?_
    refine lv_iload hx hb d_M_give_62 (lv_at hl 6 rfl) ?_
    refine lv_lshl hx hb d_M_give_64 rfl ?_
    refine lv_lor hx hb d_M_give_65 ?_
    refine mb_last (WS := WM X cI cZ cJ) hx hb hK hP hD hS 14 2 rfl rfl h d_M_give_66 rfl (fun H locs s6 hP hS h => ?_)
    refine lv_aload_n hx hb d_M_give_67 rfl (lv_at hl 1 rfl) ?_
    refine lv_aload_n hx hb d_M_give_68 rfl (lv_at hl 1 rfl) ?_
    refine va_get (ci := 5) (C := cnM) (T := fTM) (N := 30) hx hb hts uwM hown hK hP 0 rfl rfl 8 (by decide) (hts _ wd_533) (fun _ h9 => h9) rfl d_M_give_69 ?_
    refine lv_if_ne hx hb d_M_give_72 rfl (fun hc => ?_) (fun hc => ?_)
    · have h := mb_f hc h
      exact zM_give_b88 Cx hR hret  x1 x2 x3 x4 x5 s6 h ls H locs (lv_sub hl [1, 2, 3, 4, 5, 6] rfl) hP hS
    · have h := mb_t hc h
      refine lv_aload_n hx hb d_M_give_75 rfl (lv_at hl 1 rfl) ?_
      refine va_get (ci := 5) (C := cnM) (T := fTM) (N := 30) hx hb hts uwM hown hK hP 0 rfl rfl 15 (by decide) (hts _ wd_540) (fun _ h9 => h9) rfl d_M_give_76 ?_
      refine lv_iload hx hb d_M_give_79 (lv_at hl 5 rfl) ?_
      refine mb_lald hx hb hK hP 14 2 rfl rfl h d_M_give_81 (fun v7 h => ?_)
      refine lv_lload hx hb d_M_give_82 (lv_at hl 0 rfl) ?_
      refine W.lcmp hx hb d_M_give_84 ?_
      refine lv_if_eq hx hb d_M_give_85 rfl (fun hc => ?_) (fun hc => ?_)
      · have h := mb_t hc h
        refine lv_iconst (v := (0 : Int32)) hx hb d_M_give_92 (by decide) ?_
        exact zM_give_b93 Cx hR hret  x1 x2 x3 x4 x5 (0 : Int32) s6 h ls H locs (lv_sub hl [1, 2, 3, 4, 5, 6] rfl) hP hS
      · have h := mb_f hc h
        exact zM_give_b88 Cx hR hret  x1 x2 x3 x4 x5 s6 h ls H locs (lv_sub hl [1, 2, 3, 4, 5, 6] rfl) hP hS
  · have h := mb_t hc h
    refine lv_aload_n hx hb d_M_give_7 rfl (lv_at hl 0 rfl) ?_
    refine lv_aload_n hx hb d_M_give_8 rfl (lv_at hl 0 rfl) ?_
    refine va_get (ci := 5) (C := cnM) (T := fTM) (N := 30) hx hb hts uwM hown hK hP 0 rfl rfl 8 (by decide) (hts _ wd_533) (fun _ h9 => h9) rfl d_M_give_9 ?_
    refine lv_if_ne hx hb d_M_give_12 rfl (fun hc => ?_) (fun hc => ?_)
    · have h := mb_f hc h
      exact zM_give_b25 Cx hR hret  x1 x2 x3 x4 x5 s h ls H locs (lv_sub hl [0, 1, 2, 3, 4, 5] rfl) hP hS
    · have h := mb_t hc h
      refine lv_aload_n hx hb d_M_give_15 rfl (lv_at hl 0 rfl) ?_
      refine va_get (ci := 5) (C := cnM) (T := fTM) (N := 30) hx hb hts uwM hown hK hP 0 rfl rfl 16 (by decide) (hts _ wd_541) (fun _ h9 => h9) rfl d_M_give_16 ?_
      refine lv_iload hx hb d_M_give_19 (lv_at hl 4 rfl) ?_
      refine mb_zald hx hb hK hP 15 1 rfl rfl h d_M_give_21 (fun v8 h => ?_)
      refine lv_if_ne hx hb d_M_give_22 rfl (fun hc => ?_) (fun hc => ?_)
      · have h := mb_f hc h
        refine lv_iconst (v := (0 : Int32)) hx hb d_M_give_29 (by decide) ?_
        exact zM_give_b30 Cx hR hret  x1 x2 x3 x4 x5 (0 : Int32) s h ls H locs (lv_sub hl [0, 1, 2, 3, 4, 5] rfl) hP hS
      · have h := mb_t hc h
        exact zM_give_b25 Cx hR hret  x1 x2 x3 x4 x5 s h ls H locs (lv_sub hl [0, 1, 2, 3, 4, 5] rfl) hP hS
set_option maxRecDepth 100000 in
set_option maxHeartbeats 4000000 in
theorem zM_callFacts_b206 {p : Program} {l : Launch} {e : Env} {R : Room} {s0 : State} {m : MethodId} {args : Array Value} {below : List Frame} {meth : Method} {c : Code} {Q : State → Prop} {A : Nat → Prop} {D : va_G} {X : Nat → Nat} {cI cZ cJ : ClassId} {rv : Unit} {rs : mb_S}
    (Cx : mb_C p s0 m args meth c c_M_callFacts 9 lw_w cnM (fun _ _ => True) vwCl D [(cI, .int), (cZ, .boolean), (cJ, .long)] A (WM X cI cZ cJ)) (hR : 4 ≤ R.frames ∧ 112 ≤ R.locals)
    (hret : mb_R p l e R s0 m args below meth c Q vwCl D A (WM X cI cZ cJ) c_M_callFacts .return_ [] rs) (k67 : Int32 → Int32 → Int32 → Int32 → Int32 → Int32 → Int32 → mb_S → Option (Unit × mb_S)) (hk67 : ∀ (x1 : Int32) (x2 : Int32) (x3 : Int32) (x4 : Int32) (x5 : Int32) (x6 : Int32) (x7 : Int32) (s : mb_S), k67 x1 x2 x3 x4 x5 x6 x7 s = some (rv, rs) → mb_B p l e R s0 m args below meth c Q vwCl D A (WM X cI cZ cJ) 9 [(0, .ref (X 0)), (1, .int x1), (2, .int x2), (3, .int x3), (4, .int x4), (5, .int x5), (6, .int x6), (7, .int x7)] [] 67 s) (x1 : Int32) (x2 : Int32) (x3 : Int32) (x4 : Int32) (x5 : Int32) (x6 : Int32) (x7 : Int32) (s : mb_S)
    (h : mM_callFacts_b206 k67 x1 x2 x3 x4 x5 x6 x7 s = some (rv, rs)) : mb_B p l e R s0 m args below meth c Q vwCl D A (WM X cI cZ cJ) 9 [(0, .ref (X 0)), (1, .int x1), (2, .int x2), (3, .int x3), (4, .int x4), (5, .int x5), (6, .int x6), (7, .int x7)] [] 206 s := by
  unfold mM_callFacts_b206 at h
  intro ls H locs hl hP hS
  have Cx0 := Cx
  obtain ⟨⟨hx, hb, hml, hown, hts⟩, hK, hD, hA, hZ⟩ := Cx0
  obtain ⟨v1, ev1, h⟩ := mb_ex h
  refine lv_iinc (k := 7) (v := v1) (lv' := [(7, .int v1), (0, .ref (X 0)), (1, .int x1), (2, .int x2), (3, .int x3), (4, .int x4), (5, .int x5), (6, .int x6)]) hx hb d_M_callFacts_206 hl rfl ev1 (by decide) rfl (fun ls hl => ?_)
  refine lv_goto hx hb d_M_callFacts_209 rfl ?_
  exact hk67 x1 x2 x3 x4 x5 x6 v1 s h ls H locs (lv_sub hl [1, 2, 3, 4, 5, 6, 7, 0] rfl) hP hS
set_option maxRecDepth 100000 in
set_option maxHeartbeats 4000000 in
theorem zM_callFacts_b164 {p : Program} {l : Launch} {e : Env} {R : Room} {s0 : State} {m : MethodId} {args : Array Value} {below : List Frame} {meth : Method} {c : Code} {Q : State → Prop} {A : Nat → Prop} {D : va_G} {X : Nat → Nat} {cI cZ cJ : ClassId} {rv : Unit} {rs : mb_S}
    (Cx : mb_C p s0 m args meth c c_M_callFacts 9 lw_w cnM (fun _ _ => True) vwCl D [(cI, .int), (cZ, .boolean), (cJ, .long)] A (WM X cI cZ cJ)) (hR : 4 ≤ R.frames ∧ 112 ≤ R.locals)
    (hret : mb_R p l e R s0 m args below meth c Q vwCl D A (WM X cI cZ cJ) c_M_callFacts .return_ [] rs) (k67 : Int32 → Int32 → Int32 → Int32 → Int32 → Int32 → Int32 → mb_S → Option (Unit × mb_S)) (hk67 : ∀ (x1 : Int32) (x2 : Int32) (x3 : Int32) (x4 : Int32) (x5 : Int32) (x6 : Int32) (x7 : Int32) (s : mb_S), k67 x1 x2 x3 x4 x5 x6 x7 s = some (rv, rs) → mb_B p l e R s0 m args below meth c Q vwCl D A (WM X cI cZ cJ) 9 [(0, .ref (X 0)), (1, .int x1), (2, .int x2), (3, .int x3), (4, .int x4), (5, .int x5), (6, .int x6), (7, .int x7)] [] 67 s) (x1 : Int32) (x2 : Int32) (x3 : Int32) (x4 : Int32) (x5 : Int32) (x6 : Int32) (x7 : Int32) (x8 : Int32) (s : mb_S)
    (h : mM_callFacts_b164 k67 x1 x2 x3 x4 x5 x6 x7 x8 s = some (rv, rs)) : mb_B p l e R s0 m args below meth c Q vwCl D A (WM X cI cZ cJ) 9 [(0, .ref (X 0)), (1, .int x1), (2, .int x2), (3, .int x3), (4, .int x4), (5, .int x5), (6, .int x6), (7, .int x7), (8, .int x8)] [] 164 s := by
  unfold mM_callFacts_b164 at h
  intro ls H locs hl hP hS
  have Cx0 := Cx
  obtain ⟨⟨hx, hb, hml, hown, hts⟩, hK, hD, hA, hZ⟩ := Cx0
  refine lv_iload hx hb d_M_callFacts_164 (lv_at hl 8 rfl) ?_
  refine lv_if_eq hx hb d_M_callFacts_166 rfl (fun hc => ?_) (fun hc => ?_)
  · have h := mb_t hc h
    exact zM_callFacts_b206 Cx hR hret k67 hk67 x1 x2 x3 x4 x5 x6 x7 s h ls H locs (lv_sub hl [0, 1, 2, 3, 4, 5, 6, 7] rfl) hP hS
  · have h := mb_f hc h
    refine lv_iload hx hb d_M_callFacts_169 (lv_at hl 4 rfl) ?_
    refine lv_bipush (v := (64 : Int32)) hx hb d_M_callFacts_171 (by decide) ?_
    refine lv_icmp_eq hx hb d_M_callFacts_173 rfl (fun hc => ?_) (fun hc => ?_)
    · have h := mb_t hc h
      exact zM_callFacts_b206 Cx hR hret k67 hk67 x1 x2 x3 x4 x5 x6 x7 s h ls H locs (lv_sub hl [0, 1, 2, 3, 4, 5, 6, 7] rfl) hP hS
    · have h := mb_f hc h
      refine lv_iload hx hb d_M_callFacts_176 (lv_at hl 6 rfl) ?_
      refine lv_aload_n hx hb d_M_callFacts_178 rfl (lv_at hl 0 rfl) ?_
      refine va_get (ci := 5) (C := cnM) (T := fTM) (N := 30) hx hb hts uwM hown hK hP 0 rfl rfl 4 (by decide) (hts _ wd_529) (fun _ h9 => h9) rfl d_M_callFacts_179 ?_
      refine lv_iload hx hb d_M_callFacts_182 (lv_at hl 5 rfl) ?_
      refine mb_iald hx hb hK hP 5 0 rfl rfl h d_M_callFacts_184 (fun v2 h => ?_)
      refine lv_iconst (v := (4 : Int32)) hx hb d_M_callFacts_185 (by decide) ?_
      refine lv_irem hx hb d_M_callFacts_186 (by decide) ?_
      refine lv_icmp_ne hx hb d_M_callFacts_187 rfl (fun hc => ?_) (fun hc => ?_)
      · have h := mb_f hc h
        exact zM_callFacts_b206 Cx hR hret k67 hk67 x1 x2 x3 x4 x5 x6 x7 s h ls H locs (lv_sub hl [0, 1, 2, 3, 4, 5, 6, 7] rfl) hP hS
      · have h := mb_t hc h
        refine lv_aload_n hx hb d_M_callFacts_190 rfl (lv_at hl 0 rfl) ?_
        refine lv_iload_n hx hb d_M_callFacts_191 rfl (lv_at hl 1 rfl) ?_
        refine lv_iload_n hx hb d_M_callFacts_192 rfl (lv_at hl 2 rfl) ?_
        refine lv_iload_n hx hb d_M_callFacts_193 rfl (lv_at hl 3 rfl) ?_
        refine lv_iload hx hb d_M_callFacts_194 (lv_at hl 7 rfl) ?_
        refine lv_iload hx hb d_M_callFacts_196 (lv_at hl 4 rfl) ?_
        refine lv_iload hx hb d_M_callFacts_198 (lv_at hl 6 rfl) ?_
        refine lv_isub hx hb d_M_callFacts_200 ?_
        refine lv_iconst (v := (1 : Int32)) hx hb d_M_callFacts_201 (by decide) ?_
        refine lv_iadd hx hb d_M_callFacts_202 ?_
        obtain ⟨_u, s3, hs3, h⟩ := mb_cal_ex h
        refine mb_goV Cx (mb_runV (As := [.int x1, .int x2, .int x3, .int x7, .int ((x4 - x6) + (1 : Int32))]) (rest := []) mb_Z0ok Cx (w_M_give l D X cI cZ cJ hs3 H.size) (mb_cwV 5 hts wd_723 wd_725 sel_56 wd_7 wd_726 rfl rfl rfl (by decide +kernel) ⟨Nat.le_trans (by decide) hR.1, Nat.le_trans (by decide) hR.2⟩) hP hS 0 rfl rfl rfl hl.1 rfl (Nat.le_of_ble_eq_true rfl) d_M_callFacts_203) hS (fun H locs hP hS => ?_)
        exact zM_callFacts_b206 Cx hR hret k67 hk67 x1 x2 x3 x4 x5 x6 x7 s3 h ls H locs (lv_sub hl [0, 1, 2, 3, 4, 5, 6, 7] rfl) hP hS
set_option maxRecDepth 100000 in
set_option maxHeartbeats 4000000 in
theorem zM_callFacts_b126 {p : Program} {l : Launch} {e : Env} {R : Room} {s0 : State} {m : MethodId} {args : Array Value} {below : List Frame} {meth : Method} {c : Code} {Q : State → Prop} {A : Nat → Prop} {D : va_G} {X : Nat → Nat} {cI cZ cJ : ClassId} {rv : Unit} {rs : mb_S}
    (Cx : mb_C p s0 m args meth c c_M_callFacts 9 lw_w cnM (fun _ _ => True) vwCl D [(cI, .int), (cZ, .boolean), (cJ, .long)] A (WM X cI cZ cJ)) (hR : 4 ≤ R.frames ∧ 112 ≤ R.locals)
    (hret : mb_R p l e R s0 m args below meth c Q vwCl D A (WM X cI cZ cJ) c_M_callFacts .return_ [] rs) (k67 : Int32 → Int32 → Int32 → Int32 → Int32 → Int32 → Int32 → mb_S → Option (Unit × mb_S)) (hk67 : ∀ (x1 : Int32) (x2 : Int32) (x3 : Int32) (x4 : Int32) (x5 : Int32) (x6 : Int32) (x7 : Int32) (s : mb_S), k67 x1 x2 x3 x4 x5 x6 x7 s = some (rv, rs) → mb_B p l e R s0 m args below meth c Q vwCl D A (WM X cI cZ cJ) 9 [(0, .ref (X 0)), (1, .int x1), (2, .int x2), (3, .int x3), (4, .int x4), (5, .int x5), (6, .int x6), (7, .int x7)] [] 67 s) (x1 : Int32) (x2 : Int32) (x3 : Int32) (x4 : Int32) (x5 : Int32) (x6 : Int32) (x7 : Int32) (x8 : Int32) (s : mb_S)
    (h : mM_callFacts_b126 k67 x1 x2 x3 x4 x5 x6 x7 x8 s = some (rv, rs)) : mb_B p l e R s0 m args below meth c Q vwCl D A (WM X cI cZ cJ) 9 [(0, .ref (X 0)), (1, .int x1), (2, .int x2), (3, .int x3), (4, .int x4), (5, .int x5), (6, .int x6), (7, .int x7), (8, .int x8)] [] 126 s := by
  unfold mM_callFacts_b126 at h
  intro ls H locs hl hP hS
  have Cx0 := Cx
  obtain ⟨⟨hx, hb, hml, hown, hts⟩, hK, hD, hA, hZ⟩ := Cx0
  refine lv_iload hx hb d_M_callFacts_126 (lv_at hl 8 rfl) ?_
  refine lv_if_eq hx hb d_M_callFacts_128 rfl (fun hc => ?_) (fun hc => ?_)
  · have h := mb_t hc h
    exact zM_callFacts_b164 Cx hR hret k67 hk67 x1 x2 x3 x4 x5 x6 x7 x8 s h ls H locs (lv_sub hl [0, 1, 2, 3, 4, 5, 6, 7, 8] rfl) hP hS
  · have h := mb_f hc h
    refine lv_iload hx hb d_M_callFacts_131 (lv_at hl 4 rfl) ?_
    refine lv_bipush (v := (64 : Int32)) hx hb d_M_callFacts_133 (by decide) ?_
    refine lv_icmp_eq hx hb d_M_callFacts_135 rfl (fun hc => ?_) (fun hc => ?_)
    · have h := mb_t hc h
      exact zM_callFacts_b164 Cx hR hret k67 hk67 x1 x2 x3 x4 x5 x6 x7 x8 s h ls H locs (lv_sub hl [0, 1, 2, 3, 4, 5, 6, 7, 8] rfl) hP hS
    · have h := mb_f hc h
      refine lv_iload hx hb d_M_callFacts_138 (lv_at hl 6 rfl) ?_
      refine lv_aload_n hx hb d_M_callFacts_140 rfl (lv_at hl 0 rfl) ?_
      refine va_get (ci := 5) (C := cnM) (T := fTM) (N := 30) hx hb hts uwM hown hK hP 0 rfl rfl 3 (by decide) (hts _ wd_528) (fun _ h9 => h9) rfl d_M_callFacts_141 ?_
      refine lv_iload hx hb d_M_callFacts_144 (lv_at hl 5 rfl) ?_
      refine mb_iald hx hb hK hP 4 0 rfl rfl h d_M_callFacts_146 (fun v4 h => ?_)
      refine lv_icmp_ne hx hb d_M_callFacts_147 rfl (fun hc => ?_) (fun hc => ?_)
      · have h := mb_f hc h
        exact zM_callFacts_b164 Cx hR hret k67 hk67 x1 x2 x3 x4 x5 x6 x7 x8 s h ls H locs (lv_sub hl [0, 1, 2, 3, 4, 5, 6, 7, 8] rfl) hP hS
      · have h := mb_t hc h
        refine lv_aload_n hx hb d_M_callFacts_150 rfl (lv_at hl 0 rfl) ?_
        refine lv_iload_n hx hb d_M_callFacts_151 rfl (lv_at hl 1 rfl) ?_
        refine lv_iload_n hx hb d_M_callFacts_152 rfl (lv_at hl 2 rfl) ?_
        refine lv_iload_n hx hb d_M_callFacts_153 rfl (lv_at hl 3 rfl) ?_
        refine lv_iload hx hb d_M_callFacts_154 (lv_at hl 7 rfl) ?_
        refine lv_iload hx hb d_M_callFacts_156 (lv_at hl 4 rfl) ?_
        refine lv_iload hx hb d_M_callFacts_158 (lv_at hl 6 rfl) ?_
        refine lv_isub hx hb d_M_callFacts_160 ?_
        obtain ⟨_u, s5, hs5, h⟩ := mb_cal_ex h
        refine mb_goV Cx (mb_runV (As := [.int x1, .int x2, .int x3, .int x7, .int (x4 - x6)]) (rest := []) mb_Z0ok Cx (w_M_give l D X cI cZ cJ hs5 H.size) (mb_cwV 5 hts wd_723 wd_725 sel_56 wd_7 wd_726 rfl rfl rfl (by decide +kernel) ⟨Nat.le_trans (by decide) hR.1, Nat.le_trans (by decide) hR.2⟩) hP hS 0 rfl rfl rfl hl.1 rfl (Nat.le_of_ble_eq_true rfl) d_M_callFacts_161) hS (fun H locs hP hS => ?_)
        exact zM_callFacts_b164 Cx hR hret k67 hk67 x1 x2 x3 x4 x5 x6 x7 x8 s5 h ls H locs (lv_sub hl [0, 1, 2, 3, 4, 5, 6, 7, 8] rfl) hP hS
set_option maxRecDepth 100000 in
set_option maxHeartbeats 4000000 in
theorem zM_callFacts_b115 {p : Program} {l : Launch} {e : Env} {R : Room} {s0 : State} {m : MethodId} {args : Array Value} {below : List Frame} {meth : Method} {c : Code} {Q : State → Prop} {A : Nat → Prop} {D : va_G} {X : Nat → Nat} {cI cZ cJ : ClassId} {rv : Unit} {rs : mb_S}
    (Cx : mb_C p s0 m args meth c c_M_callFacts 9 lw_w cnM (fun _ _ => True) vwCl D [(cI, .int), (cZ, .boolean), (cJ, .long)] A (WM X cI cZ cJ)) (hR : 4 ≤ R.frames ∧ 112 ≤ R.locals)
    (hret : mb_R p l e R s0 m args below meth c Q vwCl D A (WM X cI cZ cJ) c_M_callFacts .return_ [] rs) (k67 : Int32 → Int32 → Int32 → Int32 → Int32 → Int32 → Int32 → mb_S → Option (Unit × mb_S)) (hk67 : ∀ (x1 : Int32) (x2 : Int32) (x3 : Int32) (x4 : Int32) (x5 : Int32) (x6 : Int32) (x7 : Int32) (s : mb_S), k67 x1 x2 x3 x4 x5 x6 x7 s = some (rv, rs) → mb_B p l e R s0 m args below meth c Q vwCl D A (WM X cI cZ cJ) 9 [(0, .ref (X 0)), (1, .int x1), (2, .int x2), (3, .int x3), (4, .int x4), (5, .int x5), (6, .int x6), (7, .int x7)] [] 67 s) (x1 : Int32) (x2 : Int32) (x3 : Int32) (x4 : Int32) (x5 : Int32) (x6 : Int32) (x7 : Int32) (x8 : Int32) (s : mb_S)
    (h : mM_callFacts_b115 k67 x1 x2 x3 x4 x5 x6 x7 x8 s = some (rv, rs)) : mb_B p l e R s0 m args below meth c Q vwCl D A (WM X cI cZ cJ) 9 [(0, .ref (X 0)), (1, .int x1), (2, .int x2), (3, .int x3), (4, .int x4), (5, .int x5), (6, .int x6), (7, .int x7), (8, .int x8)] [] 115 s := by
  unfold mM_callFacts_b115 at h
  intro ls H locs hl hP hS
  have Cx0 := Cx
  obtain ⟨⟨hx, hb, hml, hown, hts⟩, hK, hD, hA, hZ⟩ := Cx0
  refine lv_aload_n hx hb d_M_callFacts_115 rfl (lv_at hl 0 rfl) ?_
  refine lv_iload_n hx hb d_M_callFacts_116 rfl (lv_at hl 1 rfl) ?_
  refine lv_iload_n hx hb d_M_callFacts_117 rfl (lv_at hl 2 rfl) ?_
  refine lv_iload_n hx hb d_M_callFacts_118 rfl (lv_at hl 3 rfl) ?_
  refine lv_iload hx hb d_M_callFacts_119 (lv_at hl 7 rfl) ?_
  refine lv_iload hx hb d_M_callFacts_121 (lv_at hl 4 rfl) ?_
  obtain ⟨_u, s6, hs6, h⟩ := mb_cal_ex h
  refine mb_goV Cx (mb_runV (As := [.int x1, .int x2, .int x3, .int x7, .int x4]) (rest := []) mb_Z0ok Cx (w_M_give l D X cI cZ cJ hs6 H.size) (mb_cwV 5 hts wd_723 wd_725 sel_56 wd_7 wd_726 rfl rfl rfl (by decide +kernel) ⟨Nat.le_trans (by decide) hR.1, Nat.le_trans (by decide) hR.2⟩) hP hS 0 rfl rfl rfl hl.1 rfl (Nat.le_of_ble_eq_true rfl) d_M_callFacts_123) hS (fun H locs hP hS => ?_)
  exact zM_callFacts_b126 Cx hR hret k67 hk67 x1 x2 x3 x4 x5 x6 x7 x8 s6 h ls H locs (lv_sub hl [0, 1, 2, 3, 4, 5, 6, 7, 8] rfl) hP hS
set_option maxRecDepth 100000 in
set_option maxHeartbeats 4000000 in
theorem zM_callFacts_b95 {p : Program} {l : Launch} {e : Env} {R : Room} {s0 : State} {m : MethodId} {args : Array Value} {below : List Frame} {meth : Method} {c : Code} {Q : State → Prop} {A : Nat → Prop} {D : va_G} {X : Nat → Nat} {cI cZ cJ : ClassId} {rv : Unit} {rs : mb_S}
    (Cx : mb_C p s0 m args meth c c_M_callFacts 9 lw_w cnM (fun _ _ => True) vwCl D [(cI, .int), (cZ, .boolean), (cJ, .long)] A (WM X cI cZ cJ)) (hR : 4 ≤ R.frames ∧ 112 ≤ R.locals)
    (hret : mb_R p l e R s0 m args below meth c Q vwCl D A (WM X cI cZ cJ) c_M_callFacts .return_ [] rs) (k67 : Int32 → Int32 → Int32 → Int32 → Int32 → Int32 → Int32 → mb_S → Option (Unit × mb_S)) (hk67 : ∀ (x1 : Int32) (x2 : Int32) (x3 : Int32) (x4 : Int32) (x5 : Int32) (x6 : Int32) (x7 : Int32) (s : mb_S), k67 x1 x2 x3 x4 x5 x6 x7 s = some (rv, rs) → mb_B p l e R s0 m args below meth c Q vwCl D A (WM X cI cZ cJ) 9 [(0, .ref (X 0)), (1, .int x1), (2, .int x2), (3, .int x3), (4, .int x4), (5, .int x5), (6, .int x6), (7, .int x7)] [] 67 s) (x1 : Int32) (x2 : Int32) (x3 : Int32) (x4 : Int32) (x5 : Int32) (x6 : Int32) (x7 : Int32) (y0 : Int32) (s : mb_S)
    (h : mM_callFacts_b95 k67 x1 x2 x3 x4 x5 x6 x7 y0 s = some (rv, rs)) : mb_B p l e R s0 m args below meth c Q vwCl D A (WM X cI cZ cJ) 9 [(0, .ref (X 0)), (1, .int x1), (2, .int x2), (3, .int x3), (4, .int x4), (5, .int x5), (6, .int x6), (7, .int x7)] [.int y0] 95 s := by
  unfold mM_callFacts_b95 at h
  intro ls H locs hl hP hS
  have Cx0 := Cx
  obtain ⟨⟨hx, hb, hml, hown, hts⟩, hK, hD, hA, hZ⟩ := Cx0
  refine lv_istore (lv' := [(8, .int y0), (0, .ref (X 0)), (1, .int x1), (2, .int x2), (3, .int x3), (4, .int x4), (5, .int x5), (6, .int x6), (7, .int x7)]) hx hb d_M_callFacts_95 hl (by decide) rfl (fun ls hl => ?_)
  refine lv_iload hx hb d_M_callFacts_97 (lv_at hl 0 rfl) ?_
  refine lv_if_eq hx hb d_M_callFacts_99 rfl (fun hc => ?_) (fun hc => ?_)
  · have h := mb_t hc h
    exact zM_callFacts_b126 Cx hR hret k67 hk67 x1 x2 x3 x4 x5 x6 x7 y0 s h ls H locs (lv_sub hl [1, 2, 3, 4, 5, 6, 7, 8, 0] rfl) hP hS
  · have h := mb_f hc h
    refine lv_iload hx hb d_M_callFacts_102 (lv_at hl 5 rfl) ?_
    refine lv_bipush (v := (64 : Int32)) hx hb d_M_callFacts_104 (by decide) ?_
    refine lv_icmp_eq hx hb d_M_callFacts_106 rfl (fun hc => ?_) (fun hc => ?_)
    · have h := mb_t hc h
      exact zM_callFacts_b115 Cx hR hret k67 hk67 x1 x2 x3 x4 x5 x6 x7 y0 s h ls H locs (lv_sub hl [1, 2, 3, 4, 5, 6, 7, 8, 0] rfl) hP hS
    · have h := mb_f hc h
      refine lv_iload hx hb d_M_callFacts_109 (lv_at hl 7 rfl) ?_
      refine lv_iconst (v := (4 : Int32)) hx hb d_M_callFacts_111 (by decide) ?_
      refine lv_icmp_lt hx hb d_M_callFacts_112 rfl (fun hc => ?_) (fun hc => ?_)
      · have h := mb_t hc h
        exact zM_callFacts_b126 Cx hR hret k67 hk67 x1 x2 x3 x4 x5 x6 x7 y0 s h ls H locs (lv_sub hl [1, 2, 3, 4, 5, 6, 7, 8, 0] rfl) hP hS
      · have h := mb_f hc h
        exact zM_callFacts_b115 Cx hR hret k67 hk67 x1 x2 x3 x4 x5 x6 x7 y0 s h ls H locs (lv_sub hl [1, 2, 3, 4, 5, 6, 7, 8, 0] rfl) hP hS
set_option maxRecDepth 100000 in
set_option maxHeartbeats 4000000 in
theorem zM_callFacts_l67 {p : Program} {l : Launch} {e : Env} {R : Room} {s0 : State} {m : MethodId} {args : Array Value} {below : List Frame} {meth : Method} {c : Code} {Q : State → Prop} {A : Nat → Prop} {D : va_G} {X : Nat → Nat} {cI cZ cJ : ClassId} {rv : Unit} {rs : mb_S}
    (Cx : mb_C p s0 m args meth c c_M_callFacts 9 lw_w cnM (fun _ _ => True) vwCl D [(cI, .int), (cZ, .boolean), (cJ, .long)] A (WM X cI cZ cJ)) (hR : 4 ≤ R.frames ∧ 112 ≤ R.locals)
    (hret : mb_R p l e R s0 m args below meth c Q vwCl D A (WM X cI cZ cJ) c_M_callFacts .return_ [] rs)  :
    ∀ (n : Nat) (x1 : Int32) (x2 : Int32) (x3 : Int32) (x4 : Int32) (x5 : Int32) (x6 : Int32) (x7 : Int32) (s : mb_S), mM_callFacts_l67  n x1 x2 x3 x4 x5 x6 x7 s = some (rv, rs) → mb_B p l e R s0 m args below meth c Q vwCl D A (WM X cI cZ cJ) 9 [(0, .ref (X 0)), (1, .int x1), (2, .int x2), (3, .int x3), (4, .int x4), (5, .int x5), (6, .int x6), (7, .int x7)] [] 67 s := by
  intro n
  induction n with
  | zero => intro x1 x2 x3 x4 x5 x6 x7 s h; cases h
  | succ n ih =>
    intro x1 x2 x3 x4 x5 x6 x7 s h
    rw [mM_callFacts_l67_s] at h
    intro ls H locs hl hP hS
    have Cx0 := Cx
    obtain ⟨⟨hx, hb, hml, hown, hts⟩, hK, hD, hA, hZ⟩ := Cx0
    refine lv_iload hx hb d_M_callFacts_67 (lv_at hl 7 rfl) ?_
    refine lv_bipush (v := (6 : Int32)) hx hb d_M_callFacts_69 (by decide) ?_
    refine lv_icmp_ge hx hb d_M_callFacts_71 rfl (fun hc => ?_) (fun hc => ?_)
    · have h := mb_t hc h
      exact mb_eV hret h d_M_callFacts_212 hP hS
    · have h := mb_f hc h
      refine lv_aload_n hx hb d_M_callFacts_74 rfl (lv_at hl 0 rfl) ?_
      refine va_get (ci := 5) (C := cnM) (T := fTM) (N := 30) hx hb hts uwM hown hK hP 0 rfl rfl 12 (by decide) (hts _ wd_537) (fun _ h9 => h9) rfl d_M_callFacts_75 ?_
      refine lv_iload hx hb d_M_callFacts_78 (lv_at hl 5 rfl) ?_
      refine mb_iald hx hb hK hP 11 0 rfl rfl h d_M_callFacts_80 (fun v7 h => ?_)
      refine lv_iload hx hb d_M_callFacts_81 (lv_at hl 7 rfl) ?_
      refine lv_ishr hx hb d_M_callFacts_83 ?_
      refine lv_iconst (v := (1 : Int32)) hx hb d_M_callFacts_84 (by decide) ?_
      refine lv_iand hx hb d_M_callFacts_85 ?_
      refine lv_iconst (v := (1 : Int32)) hx hb d_M_callFacts_86 (by decide) ?_
      refine lv_icmp_ne hx hb d_M_callFacts_87 rfl (fun hc => ?_) (fun hc => ?_)
      · have h := mb_f hc h
        refine lv_iconst (v := (0 : Int32)) hx hb d_M_callFacts_94 (by decide) ?_
        exact zM_callFacts_b95 Cx hR hret (mM_callFacts_l67  n) ih x1 x2 x3 x4 x5 x6 x7 (0 : Int32) s h ls H locs (lv_sub hl [0, 1, 2, 3, 4, 5, 6, 7] rfl) hP hS
      · have h := mb_t hc h
        refine lv_iconst (v := (1 : Int32)) hx hb d_M_callFacts_90 (by decide) ?_
        refine lv_goto hx hb d_M_callFacts_91 rfl ?_
        exact zM_callFacts_b95 Cx hR hret (mM_callFacts_l67  n) ih x1 x2 x3 x4 x5 x6 x7 (1 : Int32) s h ls H locs (lv_sub hl [0, 1, 2, 3, 4, 5, 6, 7] rfl) hP hS
set_option maxRecDepth 100000 in
set_option maxHeartbeats 4000000 in
theorem zM_callFacts_b64 {p : Program} {l : Launch} {e : Env} {R : Room} {s0 : State} {m : MethodId} {args : Array Value} {below : List Frame} {meth : Method} {c : Code} {Q : State → Prop} {A : Nat → Prop} {D : va_G} {X : Nat → Nat} {cI cZ cJ : ClassId} {rv : Unit} {rs : mb_S}
    (Cx : mb_C p s0 m args meth c c_M_callFacts 9 lw_w cnM (fun _ _ => True) vwCl D [(cI, .int), (cZ, .boolean), (cJ, .long)] A (WM X cI cZ cJ)) (hR : 4 ≤ R.frames ∧ 112 ≤ R.locals)
    (hret : mb_R p l e R s0 m args below meth c Q vwCl D A (WM X cI cZ cJ) c_M_callFacts .return_ [] rs)  (x1 : Int32) (x2 : Int32) (x3 : Int32) (x4 : Int32) (x5 : Int32) (x6 : Int32) (s : mb_S)
    (h : mM_callFacts_b64  x1 x2 x3 x4 x5 x6 s = some (rv, rs)) : mb_B p l e R s0 m args below meth c Q vwCl D A (WM X cI cZ cJ) 9 [(0, .ref (X 0)), (1, .int x1), (2, .int x2), (3, .int x3), (4, .int x4), (5, .int x5), (6, .int x6)] [] 64 s := by
  unfold mM_callFacts_b64 at h
  intro ls H locs hl hP hS
  have Cx0 := Cx
  obtain ⟨⟨hx, hb, hml, hown, hts⟩, hK, hD, hA, hZ⟩ := Cx0
  refine lv_iconst (v := (0 : Int32)) hx hb d_M_callFacts_64 (by decide) ?_
  refine lv_istore (lv' := [(7, .int (0 : Int32)), (0, .ref (X 0)), (1, .int x1), (2, .int x2), (3, .int x3), (4, .int x4), (5, .int x5), (6, .int x6)]) hx hb d_M_callFacts_65 hl (by decide) rfl (fun ls hl => ?_)
  exact zM_callFacts_l67 Cx hR hret  mb_fuel x1 x2 x3 x4 x5 x6 (0 : Int32) s h ls H locs (lv_sub hl [1, 2, 3, 4, 5, 6, 7, 0] rfl) hP hS
set_option maxRecDepth 100000 in
set_option maxHeartbeats 4000000 in
theorem w_M_callFacts (l : Launch) (D : va_G) (X : Nat → Nat) (cI cZ cJ : ClassId) {x1 : Int32} {x2 : Int32} {x3 : Int32} {x4 : Int32} {s : mb_S} {rv : Unit} {rs : mb_S}
    (h : mM_callFacts x1 x2 x3 x4 s = some (rv, rs)) : mb_MV l y_M_callFacts ws_M_callFacts rm_M_callFacts (fun _ _ => True) vwCl D [(cI, .int), (cZ, .boolean), (cJ, .long)] (WM X cI cZ cJ) [.ref (X 0), .int x1, .int x2, .int x3, .int x4] s rs := by
  refine mb_ofV mb_Z0ok (by decide) rfl (Nat.le_of_ble_eq_true rfl) mb_DMok ?_
  intro p e s0 m args below meth c Q A Cx hret
  have hR : 4 ≤ (rm_M_callFacts).frames ∧ 112 ≤ (rm_M_callFacts).locals := ⟨Nat.le_refl _, Nat.le_refl _⟩
  intro ls H locs hl hP hS
  have Cx0 := Cx
  obtain ⟨⟨hx, hb, hml, hown, hts⟩, hK, hD, hA, hZ⟩ := Cx0
  have hl : lv_has ls 9 [(0, .ref (X 0)), (1, .int x1), (2, .int x2), (3, .int x3), (4, .int x4)] := hl
  unfold mM_callFacts at h
  refine lv_bipush (v := (12 : Int32)) hx hb d_M_callFacts_0 (by decide) ?_
  refine lv_iload_n hx hb d_M_callFacts_2 rfl (lv_at hl 1 rfl) ?_
  refine lv_imul hx hb d_M_callFacts_3 ?_
  refine lv_iload_n hx hb d_M_callFacts_4 rfl (lv_at hl 2 rfl) ?_
  refine lv_iadd hx hb d_M_callFacts_5 ?_
  refine lv_topi (fun v8 ev8 => ?_)
  have h := mb_at ev8 h
  refine lv_istore (lv' := [(5, .int v8), (0, .ref (X 0)), (1, .int x1), (2, .int x2), (3, .int x3), (4, .int x4)]) hx hb d_M_callFacts_6 hl (by decide) rfl (fun ls hl => ?_)
  refine lv_iload hx hb d_M_callFacts_8 (lv_at hl 5 rfl) ?_
  refine lv_bipush (v := (15 : Int32)) hx hb d_M_callFacts_10 (by decide) ?_
  refine lv_iand hx hb d_M_callFacts_12 ?_
  refine lv_topi (fun v9 ev9 => ?_)
  have h := mb_at ev9 h
  refine lv_istore (lv' := [(6, .int v9), (5, .int v8), (0, .ref (X 0)), (1, .int x1), (2, .int x2), (3, .int x3), (4, .int x4)]) hx hb d_M_callFacts_13 hl (by decide) rfl (fun ls hl => ?_)
  refine lv_iload hx hb d_M_callFacts_15 (lv_at hl 6 rfl) ?_
  refine lv_bipush (v := (64 : Int32)) hx hb d_M_callFacts_17 (by decide) ?_
  refine lv_icmp_ne hx hb d_M_callFacts_19 rfl (fun hc => ?_) (fun hc => ?_)
  · have h := mb_f hc h
    refine lv_iload hx hb d_M_callFacts_33 (lv_at hl 0 rfl) ?_
    refine lv_iconst (v := (4 : Int32)) hx hb d_M_callFacts_35 (by decide) ?_
    refine lv_icmp_ge hx hb d_M_callFacts_36 rfl (fun hc => ?_) (fun hc => ?_)
    · have h := mb_t hc h
      exact zM_callFacts_b64 Cx hR hret  x1 x2 x3 x4 v8 v9 s h ls H locs (lv_sub hl [2, 3, 4, 5, 6, 1, 0] rfl) hP hS
    · have h := mb_f hc h
      refine lv_iload hx hb d_M_callFacts_39 (lv_at hl 0 rfl) ?_
      refine lv_aload_n hx hb d_M_callFacts_41 rfl (lv_at hl 2 rfl) ?_
      refine va_get (ci := 5) (C := cnM) (T := fTM) (N := 30) hx hb hts uwM hown hK hP 0 rfl rfl 2 (by decide) (hts _ wd_527) (fun _ h9 => h9) rfl d_M_callFacts_42 ?_
      refine lv_iload hx hb d_M_callFacts_45 (lv_at hl 1 rfl) ?_
      refine mb_iald hx hb hK hP 3 0 rfl rfl h d_M_callFacts_47 (fun v10 h => ?_)
      refine lv_icmp_eq hx hb d_M_callFacts_48 rfl (fun hc => ?_) (fun hc => ?_)
      · have h := mb_t hc h
        exact zM_callFacts_b64 Cx hR hret  x1 x2 x3 x4 v8 v9 s h ls H locs (lv_sub hl [2, 3, 4, 5, 6, 1, 0] rfl) hP hS
      · have h := mb_f hc h
        refine lv_aload_n hx hb d_M_callFacts_51 rfl (lv_at hl 2 rfl) ?_
        refine lv_iload_n hx hb d_M_callFacts_52 rfl (lv_at hl 3 rfl) ?_
        refine lv_iload_n hx hb d_M_callFacts_53 rfl (lv_at hl 4 rfl) ?_
        refine lv_iconst (v := (1 : Int32)) hx hb d_M_callFacts_54 (by decide) ?_
        refine lv_iadd hx hb d_M_callFacts_55 ?_
        refine lv_iload_n hx hb d_M_callFacts_56 rfl (lv_at hl 5 rfl) ?_
        refine lv_lconst (v := (1 : Int64)) hx hb d_M_callFacts_57 (by decide) ?_
        refine lv_iload hx hb d_M_callFacts_58 (lv_at hl 6 rfl) ?_
        refine lv_lshl hx hb d_M_callFacts_60 rfl ?_
        obtain ⟨_u, s11, hs11, h⟩ := mb_cal_ex h
        refine mb_goV Cx (mb_runV (As := [.int x1, .int (x2 + (1 : Int32)), .int x3, .long ((1 : Int64) <<< (Int32.toInt64 x4 &&& 63))]) (rest := []) mb_Z0ok Cx (w_M_put l D X cI cZ cJ hs11 H.size) (mb_cwV 4 hts wd_707 wd_709 sel_52 wd_7 wd_710 rfl rfl rfl (by decide +kernel) ⟨Nat.le_trans (by decide) hR.1, Nat.le_trans (by decide) hR.2⟩) hP hS 0 rfl rfl rfl hl.1 rfl (Nat.le_of_ble_eq_true rfl) d_M_callFacts_61) hS (fun H locs hP hS => ?_)
        exact zM_callFacts_b64 Cx hR hret  x1 x2 x3 x4 v8 v9 s11 h ls H locs (lv_sub hl [2, 3, 4, 5, 6, 1, 0] rfl) hP hS
  · have h := mb_t hc h
    refine lv_aload_n hx hb d_M_callFacts_22 rfl (lv_at hl 2 rfl) ?_
    refine lv_iload_n hx hb d_M_callFacts_23 rfl (lv_at hl 3 rfl) ?_
    refine lv_iload_n hx hb d_M_callFacts_24 rfl (lv_at hl 4 rfl) ?_
    refine lv_iconst (v := (1 : Int32)) hx hb d_M_callFacts_25 (by decide) ?_
    refine lv_iadd hx hb d_M_callFacts_26 ?_
    obtain ⟨_u, s12, hs12, h⟩ := mb_cal_ex h
    refine mb_goV Cx (mb_runV (As := [.int x1, .int (x2 + (1 : Int32))]) (rest := []) mb_Z0ok Cx (w_M_putZero l D X cI cZ cJ hs12 H.size) (mb_cwV 2 hts wd_703 wd_705 sel_51 wd_7 wd_706 rfl rfl rfl (by decide +kernel) ⟨Nat.le_trans (by decide) hR.1, Nat.le_trans (by decide) hR.2⟩) hP hS 0 rfl rfl rfl hl.1 rfl (Nat.le_of_ble_eq_true rfl) d_M_callFacts_27) hS (fun H locs hP hS => ?_)
    refine lv_goto hx hb d_M_callFacts_30 rfl ?_
    exact zM_callFacts_b64 Cx hR hret  x1 x2 x3 x4 v8 v9 s12 h ls H locs (lv_sub hl [2, 3, 4, 5, 6, 1, 0] rfl) hP hS
set_option maxRecDepth 100000 in
set_option maxHeartbeats 4000000 in
theorem zM_followFact_b250 {p : Program} {l : Launch} {e : Env} {R : Room} {s0 : State} {m : MethodId} {args : Array Value} {below : List Frame} {meth : Method} {c : Code} {Q : State → Prop} {A : Nat → Prop} {D : va_G} {X : Nat → Nat} {cI cZ cJ : ClassId} {rv : Unit} {rs : mb_S}
    (Cx : mb_C p s0 m args meth c c_M_followFact 14 lw_w cnM (fun _ _ => True) vwCl D [(cI, .int), (cZ, .boolean), (cJ, .long)] A (WM X cI cZ cJ)) (hR : 3 ≤ R.frames ∧ 78 ≤ R.locals)
    (hret : mb_R p l e R s0 m args below meth c Q vwCl D A (WM X cI cZ cJ) c_M_followFact .return_ [] rs) (k134 : Int32 → Int32 → Int32 → Int32 → Int32 → Int32 → Int32 → Int32 → Int32 → Int32 → mb_S → Option (Unit × mb_S)) (hk134 : ∀ (x1 : Int32) (x2 : Int32) (x3 : Int32) (x5 : Int32) (x6 : Int32) (x7 : Int32) (x8 : Int32) (x9 : Int32) (x10 : Int32) (x12 : Int32) (s : mb_S), k134 x1 x2 x3 x5 x6 x7 x8 x9 x10 x12 s = some (rv, rs) → mb_B p l e R s0 m args below meth c Q vwCl D A (WM X cI cZ cJ) 14 [(0, .ref (X 0)), (1, .int x1), (2, .int x2), (3, .int x3), (5, .int x5), (6, .int x6), (7, .int x7), (8, .int x8), (9, .int x9), (10, .int x10), (12, .int x12)] [] 134 s) (x1 : Int32) (x2 : Int32) (x3 : Int32) (x5 : Int32) (x6 : Int32) (x7 : Int32) (x8 : Int32) (x9 : Int32) (x10 : Int32) (x12 : Int32) (s : mb_S)
    (h : mM_followFact_b250 k134 x1 x2 x3 x5 x6 x7 x8 x9 x10 x12 s = some (rv, rs)) : mb_B p l e R s0 m args below meth c Q vwCl D A (WM X cI cZ cJ) 14 [(0, .ref (X 0)), (1, .int x1), (2, .int x2), (3, .int x3), (5, .int x5), (6, .int x6), (7, .int x7), (8, .int x8), (9, .int x9), (10, .int x10), (12, .int x12)] [] 250 s := by
  unfold mM_followFact_b250 at h
  intro ls H locs hl hP hS
  have Cx0 := Cx
  obtain ⟨⟨hx, hb, hml, hown, hts⟩, hK, hD, hA, hZ⟩ := Cx0
  obtain ⟨v1, ev1, h⟩ := mb_ex h
  refine lv_iinc (k := 10) (v := v1) (lv' := [(12, .int v1), (0, .ref (X 0)), (1, .int x1), (2, .int x2), (3, .int x3), (5, .int x5), (6, .int x6), (7, .int x7), (8, .int x8), (9, .int x9), (10, .int x10)]) hx hb d_M_followFact_250 hl rfl ev1 (by decide) rfl (fun ls hl => ?_)
  refine lv_goto hx hb d_M_followFact_253 rfl ?_
  exact hk134 x1 x2 x3 x5 x6 x7 x8 x9 x10 v1 s h ls H locs (lv_sub hl [1, 2, 3, 4, 5, 6, 7, 8, 9, 10, 0] rfl) hP hS
set_option maxRecDepth 100000 in
set_option maxHeartbeats 4000000 in
theorem zM_followFact_b205 {p : Program} {l : Launch} {e : Env} {R : Room} {s0 : State} {m : MethodId} {args : Array Value} {below : List Frame} {meth : Method} {c : Code} {Q : State → Prop} {A : Nat → Prop} {D : va_G} {X : Nat → Nat} {cI cZ cJ : ClassId} {rv : Unit} {rs : mb_S}
    (Cx : mb_C p s0 m args meth c c_M_followFact 14 lw_w cnM (fun _ _ => True) vwCl D [(cI, .int), (cZ, .boolean), (cJ, .long)] A (WM X cI cZ cJ)) (hR : 3 ≤ R.frames ∧ 78 ≤ R.locals)
    (hret : mb_R p l e R s0 m args below meth c Q vwCl D A (WM X cI cZ cJ) c_M_followFact .return_ [] rs) (k134 : Int32 → Int32 → Int32 → Int32 → Int32 → Int32 → Int32 → Int32 → Int32 → Int32 → mb_S → Option (Unit × mb_S)) (hk134 : ∀ (x1 : Int32) (x2 : Int32) (x3 : Int32) (x5 : Int32) (x6 : Int32) (x7 : Int32) (x8 : Int32) (x9 : Int32) (x10 : Int32) (x12 : Int32) (s : mb_S), k134 x1 x2 x3 x5 x6 x7 x8 x9 x10 x12 s = some (rv, rs) → mb_B p l e R s0 m args below meth c Q vwCl D A (WM X cI cZ cJ) 14 [(0, .ref (X 0)), (1, .int x1), (2, .int x2), (3, .int x3), (5, .int x5), (6, .int x6), (7, .int x7), (8, .int x8), (9, .int x9), (10, .int x10), (12, .int x12)] [] 134 s) (x1 : Int32) (x2 : Int32) (x3 : Int32) (x5 : Int32) (x6 : Int32) (x7 : Int32) (x8 : Int32) (x9 : Int32) (x10 : Int32) (x12 : Int32) (x13 : Int32) (s : mb_S)
    (h : mM_followFact_b205 k134 x1 x2 x3 x5 x6 x7 x8 x9 x10 x12 x13 s = some (rv, rs)) : mb_B p l e R s0 m args below meth c Q vwCl D A (WM X cI cZ cJ) 14 [(0, .ref (X 0)), (1, .int x1), (2, .int x2), (3, .int x3), (5, .int x5), (6, .int x6), (7, .int x7), (8, .int x8), (9, .int x9), (10, .int x10), (12, .int x12), (13, .int x13)] [] 205 s := by
  unfold mM_followFact_b205 at h
  intro ls H locs hl hP hS
  have Cx0 := Cx
  obtain ⟨⟨hx, hb, hml, hown, hts⟩, hK, hD, hA, hZ⟩ := Cx0
  refine lv_iload hx hb d_M_followFact_205 (lv_at hl 5 rfl) ?_
  refine lv_iconst (v := (5 : Int32)) hx hb d_M_followFact_207 (by decide) ?_
  refine lv_icmp_ne hx hb d_M_followFact_208 rfl (fun hc => ?_) (fun hc => ?_)
  · have h := mb_f hc h
    exact zM_followFact_b250 Cx hR hret k134 hk134 x1 x2 x3 x5 x6 x7 x8 x9 x10 x12 s h ls H locs (lv_sub hl [0, 1, 2, 3, 4, 5, 6, 7, 8, 9, 10] rfl) hP hS
  · have h := mb_t hc h
    refine lv_iload hx hb d_M_followFact_211 (lv_at hl 8 rfl) ?_
    refine lv_iload hx hb d_M_followFact_213 (lv_at hl 11 rfl) ?_
    refine lv_icmp_ne hx hb d_M_followFact_215 rfl (fun hc => ?_) (fun hc => ?_)
    · have h := mb_f hc h
      exact zM_followFact_b250 Cx hR hret k134 hk134 x1 x2 x3 x5 x6 x7 x8 x9 x10 x12 s h ls H locs (lv_sub hl [0, 1, 2, 3, 4, 5, 6, 7, 8, 9, 10] rfl) hP hS
    · have h := mb_t hc h
      refine lv_aload_n hx hb d_M_followFact_218 rfl (lv_at hl 0 rfl) ?_
      refine va_get (ci := 5) (C := cnM) (T := fTM) (N := 30) hx hb hts uwM hown hK hP 0 rfl rfl 9 (by decide) (hts _ wd_534) (fun _ h9 => h9) rfl d_M_followFact_219 ?_
      refine lv_iconst (v := (4 : Int32)) hx hb d_M_followFact_222 (by decide) ?_
      refine lv_iload_n hx hb d_M_followFact_223 rfl (lv_at hl 1 rfl) ?_
      refine lv_imul hx hb d_M_followFact_224 ?_
      refine lv_iload hx hb d_M_followFact_225 (lv_at hl 7 rfl) ?_
      refine lv_iadd hx hb d_M_followFact_227 ?_
      refine mb_iald hx hb hK hP 8 0 rfl rfl h d_M_followFact_228 (fun v2 h => ?_)
      refine lv_iload hx hb d_M_followFact_229 (lv_at hl 10 rfl) ?_
      refine lv_ishr hx hb d_M_followFact_231 ?_
      refine lv_iconst (v := (1 : Int32)) hx hb d_M_followFact_232 (by decide) ?_
      refine lv_iand hx hb d_M_followFact_233 ?_
      refine lv_iconst (v := (1 : Int32)) hx hb d_M_followFact_234 (by decide) ?_
      refine lv_icmp_ne hx hb d_M_followFact_235 rfl (fun hc => ?_) (fun hc => ?_)
      · have h := mb_f hc h
        exact zM_followFact_b250 Cx hR hret k134 hk134 x1 x2 x3 x5 x6 x7 x8 x9 x10 x12 s h ls H locs (lv_sub hl [0, 1, 2, 3, 4, 5, 6, 7, 8, 9, 10] rfl) hP hS
      · have h := mb_t hc h
        refine lv_aload_n hx hb d_M_followFact_238 rfl (lv_at hl 0 rfl) ?_
        refine lv_iload_n hx hb d_M_followFact_239 rfl (lv_at hl 1 rfl) ?_
        refine lv_iload_n hx hb d_M_followFact_240 rfl (lv_at hl 2 rfl) ?_
        refine lv_iload_n hx hb d_M_followFact_241 rfl (lv_at hl 3 rfl) ?_
        refine lv_iload hx hb d_M_followFact_242 (lv_at hl 9 rfl) ?_
        refine lv_iload hx hb d_M_followFact_244 (lv_at hl 6 rfl) ?_
        refine lv_iadd hx hb d_M_followFact_246 ?_
        obtain ⟨_u, s3, hs3, h⟩ := mb_cal_ex h
        refine mb_goV Cx (mb_runV (As := [.int x1, .int x2, .int x3, .int (x10 + x7)]) (rest := []) mb_Z0ok Cx (w_M_onwards l D X cI cZ cJ hs3 H.size) (mb_cwV 4 hts wd_732 wd_734 sel_58 wd_7 wd_735 rfl rfl rfl (by decide +kernel) ⟨Nat.le_trans (by decide) hR.1, Nat.le_trans (by decide) hR.2⟩) hP hS 0 rfl rfl rfl hl.1 rfl (Nat.le_of_ble_eq_true rfl) d_M_followFact_247) hS (fun H locs hP hS => ?_)
        exact zM_followFact_b250 Cx hR hret k134 hk134 x1 x2 x3 x5 x6 x7 x8 x9 x10 x12 s3 h ls H locs (lv_sub hl [0, 1, 2, 3, 4, 5, 6, 7, 8, 9, 10] rfl) hP hS
set_option maxRecDepth 100000 in
set_option maxHeartbeats 4000000 in
theorem zM_followFact_l134 {p : Program} {l : Launch} {e : Env} {R : Room} {s0 : State} {m : MethodId} {args : Array Value} {below : List Frame} {meth : Method} {c : Code} {Q : State → Prop} {A : Nat → Prop} {D : va_G} {X : Nat → Nat} {cI cZ cJ : ClassId} {rv : Unit} {rs : mb_S}
    (Cx : mb_C p s0 m args meth c c_M_followFact 14 lw_w cnM (fun _ _ => True) vwCl D [(cI, .int), (cZ, .boolean), (cJ, .long)] A (WM X cI cZ cJ)) (hR : 3 ≤ R.frames ∧ 78 ≤ R.locals)
    (hret : mb_R p l e R s0 m args below meth c Q vwCl D A (WM X cI cZ cJ) c_M_followFact .return_ [] rs)  :
    ∀ (n : Nat) (x1 : Int32) (x2 : Int32) (x3 : Int32) (x5 : Int32) (x6 : Int32) (x7 : Int32) (x8 : Int32) (x9 : Int32) (x10 : Int32) (x12 : Int32) (s : mb_S), mM_followFact_l134  n x1 x2 x3 x5 x6 x7 x8 x9 x10 x12 s = some (rv, rs) → mb_B p l e R s0 m args below meth c Q vwCl D A (WM X cI cZ cJ) 14 [(0, .ref (X 0)), (1, .int x1), (2, .int x2), (3, .int x3), (5, .int x5), (6, .int x6), (7, .int x7), (8, .int x8), (9, .int x9), (10, .int x10), (12, .int x12)] [] 134 s := by
  intro n
  induction n with
  | zero => intro x1 x2 x3 x5 x6 x7 x8 x9 x10 x12 s h; cases h
  | succ n ih =>
    intro x1 x2 x3 x5 x6 x7 x8 x9 x10 x12 s h
    rw [mM_followFact_l134_s] at h
    intro ls H locs hl hP hS
    have Cx0 := Cx
    obtain ⟨⟨hx, hb, hml, hown, hts⟩, hK, hD, hA, hZ⟩ := Cx0
    refine lv_iload hx hb d_M_followFact_134 (lv_at hl 10 rfl) ?_
    refine lv_bipush (v := (6 : Int32)) hx hb d_M_followFact_136 (by decide) ?_
    refine lv_icmp_ge hx hb d_M_followFact_138 rfl (fun hc => ?_) (fun hc => ?_)
    · have h := mb_t hc h
      exact mb_eV hret h d_M_followFact_256 hP hS
    · have h := mb_f hc h
      refine lv_iconst (v := (4 : Int32)) hx hb d_M_followFact_141 (by decide) ?_
      refine lv_iconst (v := (2 : Int32)) hx hb d_M_followFact_142 (by decide) ?_
      refine lv_iload hx hb d_M_followFact_143 (lv_at hl 10 rfl) ?_
      refine lv_imul hx hb d_M_followFact_145 ?_
      refine lv_iadd hx hb d_M_followFact_146 ?_
      refine lv_aload_n hx hb d_M_followFact_147 rfl (lv_at hl 0 rfl) ?_
      refine va_get (ci := 5) (C := cnM) (T := fTM) (N := 30) hx hb hts uwM hown hK hP 0 rfl rfl 4 (by decide) (hts _ wd_529) (fun _ h9 => h9) rfl d_M_followFact_148 ?_
      refine lv_iload hx hb d_M_followFact_151 (lv_at hl 4 rfl) ?_
      refine mb_iald hx hb hK hP 5 0 rfl rfl h d_M_followFact_153 (fun v4 h => ?_)
      refine lv_iconst (v := (1 : Int32)) hx hb d_M_followFact_154 (by decide) ?_
      refine lv_iand hx hb d_M_followFact_155 ?_
      refine lv_iadd hx hb d_M_followFact_156 ?_
      refine lv_topi (fun v5 ev5 => ?_)
      have h := mb_at ev5 h
      refine lv_istore (lv' := [(13, .int v5), (0, .ref (X 0)), (1, .int x1), (2, .int x2), (3, .int x3), (5, .int x5), (6, .int x6), (7, .int x7), (8, .int x8), (9, .int x9), (10, .int x10), (12, .int x12)]) hx hb d_M_followFact_157 hl (by decide) rfl (fun ls hl => ?_)
      refine lv_iload hx hb d_M_followFact_159 (lv_at hl 6 rfl) ?_
      refine lv_bipush (v := (6 : Int32)) hx hb d_M_followFact_161 (by decide) ?_
      refine lv_icmp_ne hx hb d_M_followFact_163 rfl (fun hc => ?_) (fun hc => ?_)
      · have h := mb_f hc h
        exact zM_followFact_b205 Cx hR hret (mM_followFact_l134  n) ih x1 x2 x3 x5 x6 x7 x8 x9 x10 x12 v5 s h ls H locs (lv_sub hl [1, 2, 3, 4, 5, 6, 7, 8, 9, 10, 11, 0] rfl) hP hS
      · have h := mb_t hc h
        refine lv_iload hx hb d_M_followFact_166 (lv_at hl 9 rfl) ?_
        refine lv_iload hx hb d_M_followFact_168 (lv_at hl 8 rfl) ?_
        refine lv_icmp_ne hx hb d_M_followFact_170 rfl (fun hc => ?_) (fun hc => ?_)
        · have h := mb_f hc h
          exact zM_followFact_b205 Cx hR hret (mM_followFact_l134  n) ih x1 x2 x3 x5 x6 x7 x8 x9 x10 x12 v5 s h ls H locs (lv_sub hl [1, 2, 3, 4, 5, 6, 7, 8, 9, 10, 11, 0] rfl) hP hS
        · have h := mb_t hc h
          refine lv_aload_n hx hb d_M_followFact_173 rfl (lv_at hl 1 rfl) ?_
          refine va_get (ci := 5) (C := cnM) (T := fTM) (N := 30) hx hb hts uwM hown hK hP 0 rfl rfl 9 (by decide) (hts _ wd_534) (fun _ h9 => h9) rfl d_M_followFact_174 ?_
          refine lv_iconst (v := (4 : Int32)) hx hb d_M_followFact_177 (by decide) ?_
          refine lv_iload_n hx hb d_M_followFact_178 rfl (lv_at hl 2 rfl) ?_
          refine lv_imul hx hb d_M_followFact_179 ?_
          refine lv_iload hx hb d_M_followFact_180 (lv_at hl 7 rfl) ?_
          refine lv_iadd hx hb d_M_followFact_182 ?_
          refine mb_iald hx hb hK hP 8 0 rfl rfl h d_M_followFact_183 (fun v6 h => ?_)
          refine lv_iload hx hb d_M_followFact_184 (lv_at hl 11 rfl) ?_
          refine lv_ishr hx hb d_M_followFact_186 ?_
          refine lv_iconst (v := (1 : Int32)) hx hb d_M_followFact_187 (by decide) ?_
          refine lv_iand hx hb d_M_followFact_188 ?_
          refine lv_iconst (v := (1 : Int32)) hx hb d_M_followFact_189 (by decide) ?_
          refine lv_icmp_ne hx hb d_M_followFact_190 rfl (fun hc => ?_) (fun hc => ?_)
          · have h := mb_f hc h
            exact zM_followFact_b205 Cx hR hret (mM_followFact_l134  n) ih x1 x2 x3 x5 x6 x7 x8 x9 x10 x12 v5 s h ls H locs (lv_sub hl [1, 2, 3, 4, 5, 6, 7, 8, 9, 10, 11, 0] rfl) hP hS
          · have h := mb_t hc h
            refine lv_aload_n hx hb d_M_followFact_193 rfl (lv_at hl 1 rfl) ?_
            refine lv_iload_n hx hb d_M_followFact_194 rfl (lv_at hl 2 rfl) ?_
            refine lv_iload_n hx hb d_M_followFact_195 rfl (lv_at hl 3 rfl) ?_
            refine lv_iload_n hx hb d_M_followFact_196 rfl (lv_at hl 4 rfl) ?_
            refine lv_iload hx hb d_M_followFact_197 (lv_at hl 10 rfl) ?_
            refine lv_iload hx hb d_M_followFact_199 (lv_at hl 0 rfl) ?_
            refine lv_iadd hx hb d_M_followFact_201 ?_
            obtain ⟨_u, s7, hs7, h⟩ := mb_cal_ex h
            refine mb_goV Cx (mb_runV (As := [.int x1, .int x2, .int x3, .int (x10 + v5)]) (rest := []) mb_Z0ok Cx (w_M_onwards l D X cI cZ cJ hs7 H.size) (mb_cwV 4 hts wd_732 wd_734 sel_58 wd_7 wd_735 rfl rfl rfl (by decide +kernel) ⟨Nat.le_trans (by decide) hR.1, Nat.le_trans (by decide) hR.2⟩) hP hS 0 rfl rfl rfl hl.1 rfl (Nat.le_of_ble_eq_true rfl) d_M_followFact_202) hS (fun H locs hP hS => ?_)
            exact zM_followFact_b205 Cx hR hret (mM_followFact_l134  n) ih x1 x2 x3 x5 x6 x7 x8 x9 x10 x12 v5 s7 h ls H locs (lv_sub hl [1, 2, 3, 4, 5, 6, 7, 8, 9, 10, 11, 0] rfl) hP hS
set_option maxRecDepth 100000 in
set_option maxHeartbeats 4000000 in
theorem zM_followFact_b131 {p : Program} {l : Launch} {e : Env} {R : Room} {s0 : State} {m : MethodId} {args : Array Value} {below : List Frame} {meth : Method} {c : Code} {Q : State → Prop} {A : Nat → Prop} {D : va_G} {X : Nat → Nat} {cI cZ cJ : ClassId} {rv : Unit} {rs : mb_S}
    (Cx : mb_C p s0 m args meth c c_M_followFact 14 lw_w cnM (fun _ _ => True) vwCl D [(cI, .int), (cZ, .boolean), (cJ, .long)] A (WM X cI cZ cJ)) (hR : 3 ≤ R.frames ∧ 78 ≤ R.locals)
    (hret : mb_R p l e R s0 m args below meth c Q vwCl D A (WM X cI cZ cJ) c_M_followFact .return_ [] rs)  (x1 : Int32) (x2 : Int32) (x3 : Int32) (x5 : Int32) (x6 : Int32) (x7 : Int32) (x8 : Int32) (x9 : Int32) (x10 : Int32) (s : mb_S)
    (h : mM_followFact_b131  x1 x2 x3 x5 x6 x7 x8 x9 x10 s = some (rv, rs)) : mb_B p l e R s0 m args below meth c Q vwCl D A (WM X cI cZ cJ) 14 [(0, .ref (X 0)), (1, .int x1), (2, .int x2), (3, .int x3), (5, .int x5), (6, .int x6), (7, .int x7), (8, .int x8), (9, .int x9), (10, .int x10)] [] 131 s := by
  unfold mM_followFact_b131 at h
  intro ls H locs hl hP hS
  have Cx0 := Cx
  obtain ⟨⟨hx, hb, hml, hown, hts⟩, hK, hD, hA, hZ⟩ := Cx0
  refine lv_iconst (v := (0 : Int32)) hx hb d_M_followFact_131 (by decide) ?_
  refine lv_istore (lv' := [(12, .int (0 : Int32)), (0, .ref (X 0)), (1, .int x1), (2, .int x2), (3, .int x3), (5, .int x5), (6, .int x6), (7, .int x7), (8, .int x8), (9, .int x9), (10, .int x10)]) hx hb d_M_followFact_132 hl (by decide) rfl (fun ls hl => ?_)
  exact zM_followFact_l134 Cx hR hret  mb_fuel x1 x2 x3 x5 x6 x7 x8 x9 x10 (0 : Int32) s h ls H locs (lv_sub hl [1, 2, 3, 4, 5, 6, 7, 8, 9, 10, 0] rfl) hP hS
set_option maxRecDepth 100000 in
set_option maxHeartbeats 4000000 in
theorem zM_followFact_b112 {p : Program} {l : Launch} {e : Env} {R : Room} {s0 : State} {m : MethodId} {args : Array Value} {below : List Frame} {meth : Method} {c : Code} {Q : State → Prop} {A : Nat → Prop} {D : va_G} {X : Nat → Nat} {cI cZ cJ : ClassId} {rv : Unit} {rs : mb_S}
    (Cx : mb_C p s0 m args meth c c_M_followFact 14 lw_w cnM (fun _ _ => True) vwCl D [(cI, .int), (cZ, .boolean), (cJ, .long)] A (WM X cI cZ cJ)) (hR : 3 ≤ R.frames ∧ 78 ≤ R.locals)
    (hret : mb_R p l e R s0 m args below meth c Q vwCl D A (WM X cI cZ cJ) c_M_followFact .return_ [] rs)  (x1 : Int32) (x2 : Int32) (x3 : Int32) (x5 : Int32) (x6 : Int32) (x7 : Int32) (x8 : Int32) (x9 : Int32) (x10 : Int32) (s : mb_S)
    (h : mM_followFact_b112  x1 x2 x3 x5 x6 x7 x8 x9 x10 s = some (rv, rs)) : mb_B p l e R s0 m args below meth c Q vwCl D A (WM X cI cZ cJ) 14 [(0, .ref (X 0)), (1, .int x1), (2, .int x2), (3, .int x3), (5, .int x5), (6, .int x6), (7, .int x7), (8, .int x8), (9, .int x9), (10, .int x10)] [] 112 s := by
  unfold mM_followFact_b112 at h
  intro ls H locs hl hP hS
  have Cx0 := Cx
  obtain ⟨⟨hx, hb, hml, hown, hts⟩, hK, hD, hA, hZ⟩ := Cx0
  refine lv_iload hx hb d_M_followFact_112 (lv_at hl 8 rfl) ?_
  refine lv_iload hx hb d_M_followFact_114 (lv_at hl 7 rfl) ?_
  refine lv_icmp_ne hx hb d_M_followFact_116 rfl (fun hc => ?_) (fun hc => ?_)
  · have h := mb_f hc h
    exact zM_followFact_b131 Cx hR hret  x1 x2 x3 x5 x6 x7 x8 x9 x10 s h ls H locs (lv_sub hl [0, 1, 2, 3, 4, 5, 6, 7, 8, 9] rfl) hP hS
  · have h := mb_t hc h
    refine lv_aload_n hx hb d_M_followFact_119 rfl (lv_at hl 0 rfl) ?_
    refine lv_iload_n hx hb d_M_followFact_120 rfl (lv_at hl 1 rfl) ?_
    refine lv_iload_n hx hb d_M_followFact_121 rfl (lv_at hl 2 rfl) ?_
    refine lv_iload_n hx hb d_M_followFact_122 rfl (lv_at hl 3 rfl) ?_
    refine lv_iload hx hb d_M_followFact_123 (lv_at hl 9 rfl) ?_
    refine lv_iload hx hb d_M_followFact_125 (lv_at hl 6 rfl) ?_
    refine lv_iadd hx hb d_M_followFact_127 ?_
    obtain ⟨_u, s8, hs8, h⟩ := mb_cal_ex h
    refine mb_goV Cx (mb_runV (As := [.int x1, .int x2, .int x3, .int (x10 + x7)]) (rest := []) mb_Z0ok Cx (w_M_onwards l D X cI cZ cJ hs8 H.size) (mb_cwV 4 hts wd_732 wd_734 sel_58 wd_7 wd_735 rfl rfl rfl (by decide +kernel) ⟨Nat.le_trans (by decide) hR.1, Nat.le_trans (by decide) hR.2⟩) hP hS 0 rfl rfl rfl hl.1 rfl (Nat.le_of_ble_eq_true rfl) d_M_followFact_128) hS (fun H locs hP hS => ?_)
    exact zM_followFact_b131 Cx hR hret  x1 x2 x3 x5 x6 x7 x8 x9 x10 s8 h ls H locs (lv_sub hl [0, 1, 2, 3, 4, 5, 6, 7, 8, 9] rfl) hP hS
set_option maxRecDepth 100000 in
set_option maxHeartbeats 4000000 in
theorem zM_followFact_b100 {p : Program} {l : Launch} {e : Env} {R : Room} {s0 : State} {m : MethodId} {args : Array Value} {below : List Frame} {meth : Method} {c : Code} {Q : State → Prop} {A : Nat → Prop} {D : va_G} {X : Nat → Nat} {cI cZ cJ : ClassId} {rv : Unit} {rs : mb_S}
    (Cx : mb_C p s0 m args meth c c_M_followFact 14 lw_w cnM (fun _ _ => True) vwCl D [(cI, .int), (cZ, .boolean), (cJ, .long)] A (WM X cI cZ cJ)) (hR : 3 ≤ R.frames ∧ 78 ≤ R.locals)
    (hret : mb_R p l e R s0 m args below meth c Q vwCl D A (WM X cI cZ cJ) c_M_followFact .return_ [] rs)  (x1 : Int32) (x2 : Int32) (x3 : Int32) (x5 : Int32) (x6 : Int32) (x7 : Int32) (x8 : Int32) (x9 : Int32) (x10 : Int32) (s : mb_S)
    (h : mM_followFact_b100  x1 x2 x3 x5 x6 x7 x8 x9 x10 s = some (rv, rs)) : mb_B p l e R s0 m args below meth c Q vwCl D A (WM X cI cZ cJ) 14 [(0, .ref (X 0)), (1, .int x1), (2, .int x2), (3, .int x3), (5, .int x5), (6, .int x6), (7, .int x7), (8, .int x8), (9, .int x9), (10, .int x10)] [] 100 s := by
  unfold mM_followFact_b100 at h
  intro ls H locs hl hP hS
  have Cx0 := Cx
  obtain ⟨⟨hx, hb, hml, hown, hts⟩, hK, hD, hA, hZ⟩ := Cx0
  refine lv_iload hx hb d_M_followFact_100 (lv_at hl 5 rfl) ?_
  refine lv_iconst (v := (4 : Int32)) hx hb d_M_followFact_102 (by decide) ?_
  refine lv_icmp_eq hx hb d_M_followFact_103 rfl (fun hc => ?_) (fun hc => ?_)
  · have h := mb_t hc h
    exact zM_followFact_b112 Cx hR hret  x1 x2 x3 x5 x6 x7 x8 x9 x10 s h ls H locs (lv_sub hl [0, 1, 2, 3, 4, 5, 6, 7, 8, 9] rfl) hP hS
  · have h := mb_f hc h
    refine lv_iload hx hb d_M_followFact_106 (lv_at hl 5 rfl) ?_
    refine lv_iconst (v := (5 : Int32)) hx hb d_M_followFact_108 (by decide) ?_
    refine lv_icmp_ne hx hb d_M_followFact_109 rfl (fun hc => ?_) (fun hc => ?_)
    · have h := mb_f hc h
      exact zM_followFact_b131 Cx hR hret  x1 x2 x3 x5 x6 x7 x8 x9 x10 s h ls H locs (lv_sub hl [0, 1, 2, 3, 4, 5, 6, 7, 8, 9] rfl) hP hS
    · have h := mb_t hc h
      exact zM_followFact_b112 Cx hR hret  x1 x2 x3 x5 x6 x7 x8 x9 x10 s h ls H locs (lv_sub hl [0, 1, 2, 3, 4, 5, 6, 7, 8, 9] rfl) hP hS
set_option maxRecDepth 100000 in
set_option maxHeartbeats 4000000 in
theorem zM_followFact_b91 {p : Program} {l : Launch} {e : Env} {R : Room} {s0 : State} {m : MethodId} {args : Array Value} {below : List Frame} {meth : Method} {c : Code} {Q : State → Prop} {A : Nat → Prop} {D : va_G} {X : Nat → Nat} {cI cZ cJ : ClassId} {rv : Unit} {rs : mb_S}
    (Cx : mb_C p s0 m args meth c c_M_followFact 14 lw_w cnM (fun _ _ => True) vwCl D [(cI, .int), (cZ, .boolean), (cJ, .long)] A (WM X cI cZ cJ)) (hR : 3 ≤ R.frames ∧ 78 ≤ R.locals)
    (hret : mb_R p l e R s0 m args below meth c Q vwCl D A (WM X cI cZ cJ) c_M_followFact .return_ [] rs)  (x1 : Int32) (x2 : Int32) (x3 : Int32) (x4 : Int32) (x5 : Int32) (x6 : Int32) (x7 : Int32) (x8 : Int32) (x9 : Int32) (x10 : Int32) (s : mb_S)
    (h : mM_followFact_b91  x1 x2 x3 x4 x5 x6 x7 x8 x9 x10 s = some (rv, rs)) : mb_B p l e R s0 m args below meth c Q vwCl D A (WM X cI cZ cJ) 14 [(0, .ref (X 0)), (1, .int x1), (2, .int x2), (3, .int x3), (4, .int x4), (5, .int x5), (6, .int x6), (7, .int x7), (8, .int x8), (9, .int x9), (10, .int x10)] [] 91 s := by
  unfold mM_followFact_b91 at h
  intro ls H locs hl hP hS
  have Cx0 := Cx
  obtain ⟨⟨hx, hb, hml, hown, hts⟩, hK, hD, hA, hZ⟩ := Cx0
  refine lv_aload_n hx hb d_M_followFact_91 rfl (lv_at hl 0 rfl) ?_
  refine lv_iload_n hx hb d_M_followFact_92 rfl (lv_at hl 1 rfl) ?_
  refine lv_iload_n hx hb d_M_followFact_93 rfl (lv_at hl 2 rfl) ?_
  refine lv_iload_n hx hb d_M_followFact_94 rfl (lv_at hl 3 rfl) ?_
  refine lv_iload hx hb d_M_followFact_95 (lv_at hl 4 rfl) ?_
  obtain ⟨_u, s9, hs9, h⟩ := mb_cal_ex h
  refine mb_goV Cx (mb_runV (As := [.int x1, .int x2, .int x3, .int x4]) (rest := []) mb_Z0ok Cx (w_M_onwards l D X cI cZ cJ hs9 H.size) (mb_cwV 4 hts wd_732 wd_734 sel_58 wd_7 wd_735 rfl rfl rfl (by decide +kernel) ⟨Nat.le_trans (by decide) hR.1, Nat.le_trans (by decide) hR.2⟩) hP hS 0 rfl rfl rfl hl.1 rfl (Nat.le_of_ble_eq_true rfl) d_M_followFact_97) hS (fun H locs hP hS => ?_)
  exact zM_followFact_b100 Cx hR hret  x1 x2 x3 x5 x6 x7 x8 x9 x10 s9 h ls H locs (lv_sub hl [0, 1, 2, 3, 5, 6, 7, 8, 9, 10] rfl) hP hS
set_option maxRecDepth 100000 in
set_option maxHeartbeats 4000000 in
theorem zM_followFact_b77 {p : Program} {l : Launch} {e : Env} {R : Room} {s0 : State} {m : MethodId} {args : Array Value} {below : List Frame} {meth : Method} {c : Code} {Q : State → Prop} {A : Nat → Prop} {D : va_G} {X : Nat → Nat} {cI cZ cJ : ClassId} {rv : Unit} {rs : mb_S}
    (Cx : mb_C p s0 m args meth c c_M_followFact 14 lw_w cnM (fun _ _ => True) vwCl D [(cI, .int), (cZ, .boolean), (cJ, .long)] A (WM X cI cZ cJ)) (hR : 3 ≤ R.frames ∧ 78 ≤ R.locals)
    (hret : mb_R p l e R s0 m args below meth c Q vwCl D A (WM X cI cZ cJ) c_M_followFact .return_ [] rs)  (x1 : Int32) (x2 : Int32) (x3 : Int32) (x4 : Int32) (x5 : Int32) (x6 : Int32) (x7 : Int32) (x8 : Int32) (x9 : Int32) (x10 : Int32) (y0 : Int32) (s : mb_S)
    (h : mM_followFact_b77  x1 x2 x3 x4 x5 x6 x7 x8 x9 x10 y0 s = some (rv, rs)) : mb_B p l e R s0 m args below meth c Q vwCl D A (WM X cI cZ cJ) 14 [(0, .ref (X 0)), (1, .int x1), (2, .int x2), (3, .int x3), (4, .int x4), (5, .int x5), (6, .int x6), (7, .int x7), (8, .int x8), (9, .int x9), (10, .int x10)] [.int y0] 77 s := by
  unfold mM_followFact_b77 at h
  intro ls H locs hl hP hS
  have Cx0 := Cx
  obtain ⟨⟨hx, hb, hml, hown, hts⟩, hK, hD, hA, hZ⟩ := Cx0
  refine lv_istore (lv' := [(11, .int y0), (0, .ref (X 0)), (1, .int x1), (2, .int x2), (3, .int x3), (4, .int x4), (5, .int x5), (6, .int x6), (7, .int x7), (8, .int x8), (9, .int x9), (10, .int x10)]) hx hb d_M_followFact_77 hl (by decide) rfl (fun ls hl => ?_)
  refine lv_iload hx hb d_M_followFact_79 (lv_at hl 0 rfl) ?_
  refine lv_if_eq hx hb d_M_followFact_81 rfl (fun hc => ?_) (fun hc => ?_)
  · have h := mb_t hc h
    exact zM_followFact_b91 Cx hR hret  x1 x2 x3 x4 x5 x6 x7 x8 x9 x10 s h ls H locs (lv_sub hl [1, 2, 3, 4, 5, 6, 7, 8, 9, 10, 11] rfl) hP hS
  · have h := mb_f hc h
    refine lv_iload hx hb d_M_followFact_84 (lv_at hl 10 rfl) ?_
    refine lv_iload hx hb d_M_followFact_86 (lv_at hl 8 rfl) ?_
    refine lv_icmp_eq hx hb d_M_followFact_88 rfl (fun hc => ?_) (fun hc => ?_)
    · have h := mb_t hc h
      exact zM_followFact_b100 Cx hR hret  x1 x2 x3 x5 x6 x7 x8 x9 x10 s h ls H locs (lv_sub hl [1, 2, 3, 4, 6, 7, 8, 9, 10, 11] rfl) hP hS
    · have h := mb_f hc h
      exact zM_followFact_b91 Cx hR hret  x1 x2 x3 x4 x5 x6 x7 x8 x9 x10 s h ls H locs (lv_sub hl [1, 2, 3, 4, 5, 6, 7, 8, 9, 10, 11] rfl) hP hS
set_option maxRecDepth 100000 in
set_option maxHeartbeats 4000000 in
theorem zM_followFact_b76 {p : Program} {l : Launch} {e : Env} {R : Room} {s0 : State} {m : MethodId} {args : Array Value} {below : List Frame} {meth : Method} {c : Code} {Q : State → Prop} {A : Nat → Prop} {D : va_G} {X : Nat → Nat} {cI cZ cJ : ClassId} {rv : Unit} {rs : mb_S}
    (Cx : mb_C p s0 m args meth c c_M_followFact 14 lw_w cnM (fun _ _ => True) vwCl D [(cI, .int), (cZ, .boolean), (cJ, .long)] A (WM X cI cZ cJ)) (hR : 3 ≤ R.frames ∧ 78 ≤ R.locals)
    (hret : mb_R p l e R s0 m args below meth c Q vwCl D A (WM X cI cZ cJ) c_M_followFact .return_ [] rs)  (x1 : Int32) (x2 : Int32) (x3 : Int32) (x4 : Int32) (x5 : Int32) (x6 : Int32) (x7 : Int32) (x8 : Int32) (x9 : Int32) (x10 : Int32) (s : mb_S)
    (h : mM_followFact_b76  x1 x2 x3 x4 x5 x6 x7 x8 x9 x10 s = some (rv, rs)) : mb_B p l e R s0 m args below meth c Q vwCl D A (WM X cI cZ cJ) 14 [(0, .ref (X 0)), (1, .int x1), (2, .int x2), (3, .int x3), (4, .int x4), (5, .int x5), (6, .int x6), (7, .int x7), (8, .int x8), (9, .int x9), (10, .int x10)] [] 76 s := by
  unfold mM_followFact_b76 at h
  intro ls H locs hl hP hS
  have Cx0 := Cx
  obtain ⟨⟨hx, hb, hml, hown, hts⟩, hK, hD, hA, hZ⟩ := Cx0
  refine lv_iconst (v := (0 : Int32)) hx hb d_M_followFact_76 (by decide) ?_
  exact zM_followFact_b77 Cx hR hret  x1 x2 x3 x4 x5 x6 x7 x8 x9 x10 (0 : Int32) s h ls H locs (lv_sub hl [0, 1, 2, 3, 4, 5, 6, 7, 8, 9, 10] rfl) hP hS
set_option maxRecDepth 100000 in
set_option maxHeartbeats 4000000 in
theorem zM_followFact_b72 {p : Program} {l : Launch} {e : Env} {R : Room} {s0 : State} {m : MethodId} {args : Array Value} {below : List Frame} {meth : Method} {c : Code} {Q : State → Prop} {A : Nat → Prop} {D : va_G} {X : Nat → Nat} {cI cZ cJ : ClassId} {rv : Unit} {rs : mb_S}
    (Cx : mb_C p s0 m args meth c c_M_followFact 14 lw_w cnM (fun _ _ => True) vwCl D [(cI, .int), (cZ, .boolean), (cJ, .long)] A (WM X cI cZ cJ)) (hR : 3 ≤ R.frames ∧ 78 ≤ R.locals)
    (hret : mb_R p l e R s0 m args below meth c Q vwCl D A (WM X cI cZ cJ) c_M_followFact .return_ [] rs)  (x1 : Int32) (x2 : Int32) (x3 : Int32) (x4 : Int32) (x5 : Int32) (x6 : Int32) (x7 : Int32) (x8 : Int32) (x9 : Int32) (x10 : Int32) (s : mb_S)
    (h : mM_followFact_b72  x1 x2 x3 x4 x5 x6 x7 x8 x9 x10 s = some (rv, rs)) : mb_B p l e R s0 m args below meth c Q vwCl D A (WM X cI cZ cJ) 14 [(0, .ref (X 0)), (1, .int x1), (2, .int x2), (3, .int x3), (4, .int x4), (5, .int x5), (6, .int x6), (7, .int x7), (8, .int x8), (9, .int x9), (10, .int x10)] [] 72 s := by
  unfold mM_followFact_b72 at h
  intro ls H locs hl hP hS
  have Cx0 := Cx
  obtain ⟨⟨hx, hb, hml, hown, hts⟩, hK, hD, hA, hZ⟩ := Cx0
  refine lv_iconst (v := (1 : Int32)) hx hb d_M_followFact_72 (by decide) ?_
  refine lv_goto hx hb d_M_followFact_73 rfl ?_
  exact zM_followFact_b77 Cx hR hret  x1 x2 x3 x4 x5 x6 x7 x8 x9 x10 (1 : Int32) s h ls H locs (lv_sub hl [0, 1, 2, 3, 4, 5, 6, 7, 8, 9, 10] rfl) hP hS
set_option maxRecDepth 100000 in
set_option maxHeartbeats 4000000 in
theorem w_M_followFact (l : Launch) (D : va_G) (X : Nat → Nat) (cI cZ cJ : ClassId) {x1 : Int32} {x2 : Int32} {x3 : Int32} {x4 : Int32} {s : mb_S} {rv : Unit} {rs : mb_S}
    (h : mM_followFact x1 x2 x3 x4 s = some (rv, rs)) : mb_MV l y_M_followFact ws_M_followFact rm_M_followFact (fun _ _ => True) vwCl D [(cI, .int), (cZ, .boolean), (cJ, .long)] (WM X cI cZ cJ) [.ref (X 0), .int x1, .int x2, .int x3, .int x4] s rs := by
  refine mb_ofV mb_Z0ok (by decide) rfl (Nat.le_of_ble_eq_true rfl) mb_DMok ?_
  intro p e s0 m args below meth c Q A Cx hret
  have hR : 3 ≤ (rm_M_followFact).frames ∧ 78 ≤ (rm_M_followFact).locals := ⟨Nat.le_refl _, Nat.le_refl _⟩
  intro ls H locs hl hP hS
  have Cx0 := Cx
  obtain ⟨⟨hx, hb, hml, hown, hts⟩, hK, hD, hA, hZ⟩ := Cx0
  have hl : lv_has ls 14 [(0, .ref (X 0)), (1, .int x1), (2, .int x2), (3, .int x3), (4, .int x4)] := hl
  unfold mM_followFact at h
  refine lv_bipush (v := (12 : Int32)) hx hb d_M_followFact_0 (by decide) ?_
  refine lv_iload_n hx hb d_M_followFact_2 rfl (lv_at hl 1 rfl) ?_
  refine lv_imul hx hb d_M_followFact_3 ?_
  refine lv_iload_n hx hb d_M_followFact_4 rfl (lv_at hl 2 rfl) ?_
  refine lv_iadd hx hb d_M_followFact_5 ?_
  refine lv_topi (fun v10 ev10 => ?_)
  have h := mb_at ev10 h
  refine lv_istore (lv' := [(5, .int v10), (0, .ref (X 0)), (1, .int x1), (2, .int x2), (3, .int x3), (4, .int x4)]) hx hb d_M_followFact_6 hl (by decide) rfl (fun ls hl => ?_)
  refine lv_aload_n hx hb d_M_followFact_8 rfl (lv_at hl 1 rfl) ?_
  refine va_get (ci := 5) (C := cnM) (T := fTM) (N := 30) hx hb hts uwM hown hK hP 0 rfl rfl 1 (by decide) (hts _ wd_526) (fun _ h9 => h9) rfl d_M_followFact_9 ?_
  refine lv_iload hx hb d_M_followFact_12 (lv_at hl 0 rfl) ?_
  refine mb_iald hx hb hK hP 2 0 rfl rfl h d_M_followFact_14 (fun v11 h => ?_)
  refine lv_istore (lv' := [(6, .int v11), (5, .int v10), (0, .ref (X 0)), (1, .int x1), (2, .int x2), (3, .int x3), (4, .int x4)]) hx hb d_M_followFact_15 hl (by decide) rfl (fun ls hl => ?_)
  refine lv_aload_n hx hb d_M_followFact_17 rfl (lv_at hl 2 rfl) ?_
  refine va_get (ci := 5) (C := cnM) (T := fTM) (N := 30) hx hb hts uwM hown hK hP 0 rfl rfl 2 (by decide) (hts _ wd_527) (fun _ h9 => h9) rfl d_M_followFact_18 ?_
  refine lv_iload hx hb d_M_followFact_21 (lv_at hl 1 rfl) ?_
  refine mb_iald hx hb hK hP 3 0 rfl rfl h d_M_followFact_23 (fun v12 h => ?_)
  refine lv_istore (lv' := [(7, .int v12), (6, .int v11), (5, .int v10), (0, .ref (X 0)), (1, .int x1), (2, .int x2), (3, .int x3), (4, .int x4)]) hx hb d_M_followFact_24 hl (by decide) rfl (fun ls hl => ?_)
  refine lv_aload_n hx hb d_M_followFact_26 rfl (lv_at hl 3 rfl) ?_
  refine va_get (ci := 5) (C := cnM) (T := fTM) (N := 30) hx hb hts uwM hown hK hP 0 rfl rfl 3 (by decide) (hts _ wd_528) (fun _ h9 => h9) rfl d_M_followFact_27 ?_
  refine lv_iload hx hb d_M_followFact_30 (lv_at hl 2 rfl) ?_
  refine mb_iald hx hb hK hP 4 0 rfl rfl h d_M_followFact_32 (fun v13 h => ?_)
  refine lv_istore (lv' := [(8, .int v13), (7, .int v12), (6, .int v11), (5, .int v10), (0, .ref (X 0)), (1, .int x1), (2, .int x2), (3, .int x3), (4, .int x4)]) hx hb d_M_followFact_33 hl (by decide) rfl (fun ls hl => ?_)
  refine lv_iload hx hb d_M_followFact_35 (lv_at hl 8 rfl) ?_
  refine lv_bipush (v := (15 : Int32)) hx hb d_M_followFact_37 (by decide) ?_
  refine lv_iand hx hb d_M_followFact_39 ?_
  refine lv_topi (fun v14 ev14 => ?_)
  have h := mb_at ev14 h
  refine lv_istore (lv' := [(9, .int v14), (8, .int v13), (7, .int v12), (6, .int v11), (5, .int v10), (0, .ref (X 0)), (1, .int x1), (2, .int x2), (3, .int x3), (4, .int x4)]) hx hb d_M_followFact_40 hl (by decide) rfl (fun ls hl => ?_)
  refine lv_iload hx hb d_M_followFact_42 (lv_at hl 9 rfl) ?_
  refine lv_iload hx hb d_M_followFact_44 (lv_at hl 0 rfl) ?_
  refine lv_isub hx hb d_M_followFact_46 ?_
  refine lv_topi (fun v15 ev15 => ?_)
  have h := mb_at ev15 h
  refine lv_istore (lv' := [(10, .int v15), (9, .int v14), (8, .int v13), (7, .int v12), (6, .int v11), (5, .int v10), (0, .ref (X 0)), (1, .int x1), (2, .int x2), (3, .int x3), (4, .int x4)]) hx hb d_M_followFact_47 hl (by decide) rfl (fun ls hl => ?_)
  refine lv_iload hx hb d_M_followFact_49 (lv_at hl 4 rfl) ?_
  refine lv_if_eq hx hb d_M_followFact_51 rfl (fun hc => ?_) (fun hc => ?_)
  · have h := mb_t hc h
    exact zM_followFact_b72 Cx hR hret  x1 x2 x3 x4 v10 v11 v12 v13 v14 v15 s h ls H locs (lv_sub hl [6, 7, 8, 9, 10, 5, 4, 3, 2, 1, 0] rfl) hP hS
  · have h := mb_f hc h
    refine lv_iload hx hb d_M_followFact_54 (lv_at hl 4 rfl) ?_
    refine lv_iconst (v := (1 : Int32)) hx hb d_M_followFact_56 (by decide) ?_
    refine lv_icmp_eq hx hb d_M_followFact_57 rfl (fun hc => ?_) (fun hc => ?_)
    · have h := mb_t hc h
      exact zM_followFact_b72 Cx hR hret  x1 x2 x3 x4 v10 v11 v12 v13 v14 v15 s h ls H locs (lv_sub hl [6, 7, 8, 9, 10, 5, 4, 3, 2, 1, 0] rfl) hP hS
    · have h := mb_f hc h
      refine lv_iload hx hb d_M_followFact_60 (lv_at hl 4 rfl) ?_
      refine lv_iconst (v := (3 : Int32)) hx hb d_M_followFact_62 (by decide) ?_
      refine lv_icmp_lt hx hb d_M_followFact_63 rfl (fun hc => ?_) (fun hc => ?_)
      · have h := mb_t hc h
        exact zM_followFact_b76 Cx hR hret  x1 x2 x3 x4 v10 v11 v12 v13 v14 v15 s h ls H locs (lv_sub hl [6, 7, 8, 9, 10, 5, 4, 3, 2, 1, 0] rfl) hP hS
      · have h := mb_f hc h
        refine lv_iload hx hb d_M_followFact_66 (lv_at hl 4 rfl) ?_
        refine lv_iconst (v := (5 : Int32)) hx hb d_M_followFact_68 (by decide) ?_
        refine lv_icmp_gt hx hb d_M_followFact_69 rfl (fun hc => ?_) (fun hc => ?_)
        · have h := mb_t hc h
          exact zM_followFact_b76 Cx hR hret  x1 x2 x3 x4 v10 v11 v12 v13 v14 v15 s h ls H locs (lv_sub hl [6, 7, 8, 9, 10, 5, 4, 3, 2, 1, 0] rfl) hP hS
        · have h := mb_f hc h
          exact zM_followFact_b72 Cx hR hret  x1 x2 x3 x4 v10 v11 v12 v13 v14 v15 s h ls H locs (lv_sub hl [6, 7, 8, 9, 10, 5, 4, 3, 2, 1, 0] rfl) hP hS
set_option maxRecDepth 100000 in
set_option maxHeartbeats 4000000 in
theorem zM_follow_b113 {p : Program} {l : Launch} {e : Env} {R : Room} {s0 : State} {m : MethodId} {args : Array Value} {below : List Frame} {meth : Method} {c : Code} {Q : State → Prop} {A : Nat → Prop} {D : va_G} {X : Nat → Nat} {cI cZ cJ : ClassId} {rv : Unit} {rs : mb_S}
    (Cx : mb_C p s0 m args meth c c_M_follow 8 lw_w cnM (fun _ _ => True) vwCl D [(cI, .int), (cZ, .boolean), (cJ, .long)] A (WM X cI cZ cJ)) (hR : 5 ≤ R.frames ∧ 140 ≤ R.locals)
    (hret : mb_R p l e R s0 m args below meth c Q vwCl D A (WM X cI cZ cJ) c_M_follow .return_ [] rs)   (s : mb_S)
    (h : mM_follow_b113  s = some (rv, rs)) : mb_B p l e R s0 m args below meth c Q vwCl D A (WM X cI cZ cJ) 8 [] [] 113 s := by
  unfold mM_follow_b113 at h
  intro ls H locs hl hP hS
  have Cx0 := Cx
  obtain ⟨⟨hx, hb, hml, hown, hts⟩, hK, hD, hA, hZ⟩ := Cx0
  exact mb_eV hret h d_M_follow_113 hP hS
set_option maxRecDepth 100000 in
set_option maxHeartbeats 4000000 in
theorem zM_follow_b97 {p : Program} {l : Launch} {e : Env} {R : Room} {s0 : State} {m : MethodId} {args : Array Value} {below : List Frame} {meth : Method} {c : Code} {Q : State → Prop} {A : Nat → Prop} {D : va_G} {X : Nat → Nat} {cI cZ cJ : ClassId} {rv : Unit} {rs : mb_S}
    (Cx : mb_C p s0 m args meth c c_M_follow 8 lw_w cnM (fun _ _ => True) vwCl D [(cI, .int), (cZ, .boolean), (cJ, .long)] A (WM X cI cZ cJ)) (hR : 5 ≤ R.frames ∧ 140 ≤ R.locals)
    (hret : mb_R p l e R s0 m args below meth c Q vwCl D A (WM X cI cZ cJ) c_M_follow .return_ [] rs)  (x1 : Int32) (x2 : Int32) (x3 : Int32) (x4 : Int32) (x6 : Int32) (s : mb_S)
    (h : mM_follow_b97  x1 x2 x3 x4 x6 s = some (rv, rs)) : mb_B p l e R s0 m args below meth c Q vwCl D A (WM X cI cZ cJ) 8 [(0, .ref (X 0)), (1, .int x1), (2, .int x2), (3, .int x3), (4, .int x4), (6, .int x6)] [] 97 s := by
  unfold mM_follow_b97 at h
  intro ls H locs hl hP hS
  have Cx0 := Cx
  obtain ⟨⟨hx, hb, hml, hown, hts⟩, hK, hD, hA, hZ⟩ := Cx0
  refine lv_iload hx hb d_M_follow_97 (lv_at hl 5 rfl) ?_
  refine lv_bipush (v := (10 : Int32)) hx hb d_M_follow_99 (by decide) ?_
  refine lv_icmp_eq hx hb d_M_follow_101 rfl (fun hc => ?_) (fun hc => ?_)
  · have h := mb_t hc h
    exact zM_follow_b113 Cx hR hret  s h ls H locs (lv_sub hl [] rfl) hP hS
  · have h := mb_f hc h
    refine lv_aload_n hx hb d_M_follow_104 rfl (lv_at hl 0 rfl) ?_
    refine lv_iload_n hx hb d_M_follow_105 rfl (lv_at hl 1 rfl) ?_
    refine lv_iload_n hx hb d_M_follow_106 rfl (lv_at hl 2 rfl) ?_
    refine lv_iload_n hx hb d_M_follow_107 rfl (lv_at hl 3 rfl) ?_
    refine lv_iload hx hb d_M_follow_108 (lv_at hl 4 rfl) ?_
    obtain ⟨_u, s1, hs1, h⟩ := mb_cal_ex h
    refine mb_goV Cx (mb_runV (As := [.int x1, .int x2, .int x3, .int x4]) (rest := []) mb_Z0ok Cx (w_M_followFact l D X cI cZ cJ hs1 H.size) (mb_cwV 4 hts wd_736 wd_738 sel_59 wd_7 wd_739 rfl rfl rfl (by decide +kernel) ⟨Nat.le_trans (by decide) hR.1, Nat.le_trans (by decide) hR.2⟩) hP hS 0 rfl rfl rfl hl.1 rfl (Nat.le_of_ble_eq_true rfl) d_M_follow_110) hS (fun H locs hP hS => ?_)
    exact zM_follow_b113 Cx hR hret  s1 h ls H locs (lv_sub hl [] rfl) hP hS
set_option maxRecDepth 100000 in
set_option maxHeartbeats 4000000 in
theorem w_M_follow (l : Launch) (D : va_G) (X : Nat → Nat) (cI cZ cJ : ClassId) {x1 : Int32} {x2 : Int32} {x3 : Int32} {x4 : Int32} {s : mb_S} {rv : Unit} {rs : mb_S}
    (h : mM_follow x1 x2 x3 x4 s = some (rv, rs)) : mb_MV l y_M_follow ws_M_follow rm_M_follow (fun _ _ => True) vwCl D [(cI, .int), (cZ, .boolean), (cJ, .long)] (WM X cI cZ cJ) [.ref (X 0), .int x1, .int x2, .int x3, .int x4] s rs := by
  refine mb_ofV mb_Z0ok (by decide) rfl (Nat.le_of_ble_eq_true rfl) mb_DMok ?_
  intro p e s0 m args below meth c Q A Cx hret
  have hR : 5 ≤ (rm_M_follow).frames ∧ 140 ≤ (rm_M_follow).locals := ⟨Nat.le_refl _, Nat.le_refl _⟩
  intro ls H locs hl hP hS
  have Cx0 := Cx
  obtain ⟨⟨hx, hb, hml, hown, hts⟩, hK, hD, hA, hZ⟩ := Cx0
  have hl : lv_has ls 8 [(0, .ref (X 0)), (1, .int x1), (2, .int x2), (3, .int x3), (4, .int x4)] := hl
  unfold mM_follow at h
  refine lv_bipush (v := (12 : Int32)) hx hb d_M_follow_0 (by decide) ?_
  refine lv_iload_n hx hb d_M_follow_2 rfl (lv_at hl 1 rfl) ?_
  refine lv_imul hx hb d_M_follow_3 ?_
  refine lv_iload_n hx hb d_M_follow_4 rfl (lv_at hl 2 rfl) ?_
  refine lv_iadd hx hb d_M_follow_5 ?_
  refine lv_topi (fun v2 ev2 => ?_)
  have h := mb_at ev2 h
  refine lv_istore (lv' := [(5, .int v2), (0, .ref (X 0)), (1, .int x1), (2, .int x2), (3, .int x3), (4, .int x4)]) hx hb d_M_follow_6 hl (by decide) rfl (fun ls hl => ?_)
  refine lv_aload_n hx hb d_M_follow_8 rfl (lv_at hl 1 rfl) ?_
  refine va_get (ci := 5) (C := cnM) (T := fTM) (N := 30) hx hb hts uwM hown hK hP 0 rfl rfl 1 (by decide) (hts _ wd_526) (fun _ h9 => h9) rfl d_M_follow_9 ?_
  refine lv_iload hx hb d_M_follow_12 (lv_at hl 0 rfl) ?_
  refine mb_iald hx hb hK hP 2 0 rfl rfl h d_M_follow_14 (fun v3 h => ?_)
  refine lv_istore (lv' := [(6, .int v3), (5, .int v2), (0, .ref (X 0)), (1, .int x1), (2, .int x2), (3, .int x3), (4, .int x4)]) hx hb d_M_follow_15 hl (by decide) rfl (fun ls hl => ?_)
  refine lv_iload hx hb d_M_follow_17 (lv_at hl 0 rfl) ?_
  refine lv_bipush (v := (7 : Int32)) hx hb d_M_follow_19 (by decide) ?_
  refine lv_icmp_ne hx hb d_M_follow_21 rfl (fun hc => ?_) (fun hc => ?_)
  · have h := mb_f hc h
    refine lv_iload hx hb d_M_follow_36 (lv_at hl 0 rfl) ?_
    refine lv_bipush (v := (10 : Int32)) hx hb d_M_follow_38 (by decide) ?_
    refine lv_icmp_eq hx hb d_M_follow_40 rfl (fun hc => ?_) (fun hc => ?_)
    · have h := mb_t hc h
      exact zM_follow_b97 Cx hR hret  x1 x2 x3 x4 v3 s h ls H locs (lv_sub hl [2, 3, 4, 5, 6, 0] rfl) hP hS
    · have h := mb_f hc h
      refine lv_iload hx hb d_M_follow_43 (lv_at hl 6 rfl) ?_
      refine lv_bipush (v := (64 : Int32)) hx hb d_M_follow_45 (by decide) ?_
      refine lv_icmp_ne hx hb d_M_follow_47 rfl (fun hc => ?_) (fun hc => ?_)
      · have h := mb_f hc h
        exact zM_follow_b97 Cx hR hret  x1 x2 x3 x4 v3 s h ls H locs (lv_sub hl [2, 3, 4, 5, 6, 0] rfl) hP hS
      · have h := mb_t hc h
        refine lv_aload_n hx hb d_M_follow_50 rfl (lv_at hl 2 rfl) ?_
        refine lv_iload_n hx hb d_M_follow_51 rfl (lv_at hl 3 rfl) ?_
        refine lv_iload_n hx hb d_M_follow_52 rfl (lv_at hl 4 rfl) ?_
        refine lv_iload_n hx hb d_M_follow_53 rfl (lv_at hl 5 rfl) ?_
        refine lv_bipush (v := (64 : Int32)) hx hb d_M_follow_54 (by decide) ?_
        obtain ⟨_u, s4, hs4, h⟩ := mb_cal_ex h
        refine mb_goV Cx (mb_runV (As := [.int x1, .int x2, .int x3, .int (64 : Int32)]) (rest := []) mb_Z0ok Cx (w_M_onwards l D X cI cZ cJ hs4 H.size) (mb_cwV 4 hts wd_732 wd_734 sel_58 wd_7 wd_735 rfl rfl rfl (by decide +kernel) ⟨Nat.le_trans (by decide) hR.1, Nat.le_trans (by decide) hR.2⟩) hP hS 0 rfl rfl rfl hl.1 rfl (Nat.le_of_ble_eq_true rfl) d_M_follow_56) hS (fun H locs hP hS => ?_)
        refine lv_iload hx hb d_M_follow_59 (lv_at hl 0 rfl) ?_
        refine lv_iconst (v := (1 : Int32)) hx hb d_M_follow_61 (by decide) ?_
        refine lv_icmp_ne hx hb d_M_follow_62 rfl (fun hc => ?_) (fun hc => ?_)
        · have h := mb_f hc h
          exact zM_follow_b113 Cx hR hret  s4 h ls H locs (lv_sub hl [] rfl) hP hS
        · have h := mb_t hc h
          refine lv_aload_n hx hb d_M_follow_65 rfl (lv_at hl 2 rfl) ?_
          refine lv_iconst (v := (1 : Int32)) hx hb d_M_follow_66 (by decide) ?_
          refine lv_iload_n hx hb d_M_follow_67 rfl (lv_at hl 3 rfl) ?_
          refine lv_iload_n hx hb d_M_follow_68 rfl (lv_at hl 4 rfl) ?_
          obtain ⟨v5, s6, hs6, h⟩ := mb_cal_ex h
          refine mb_goI Cx (mb_runV (As := [.int (1 : Int32), .int x1, .int x2]) (rest := []) mb_Z0ok Cx (w_M_before l D X cI cZ cJ hs6 H.size) (mb_cwV 3 hts wd_628 wd_630 sel_39 wd_7 wd_631 rfl rfl rfl (by decide +kernel) ⟨Nat.le_trans (by decide) hR.1, Nat.le_trans (by decide) hR.2⟩) hP hS 0 rfl rfl rfl hl.1 rfl (Nat.le_of_ble_eq_true rfl) d_M_follow_69) hS (fun H locs hP hS => ?_)
          refine lv_istore (lv' := [(7, .int v5), (6, .int v3), (5, .int v2), (0, .ref (X 0)), (1, .int x1), (2, .int x2), (3, .int x3), (4, .int x4)]) hx hb d_M_follow_72 hl (by decide) rfl (fun ls hl => ?_)
          refine lv_aload_n hx hb d_M_follow_74 rfl (lv_at hl 3 rfl) ?_
          refine lv_iload_n hx hb d_M_follow_75 rfl (lv_at hl 4 rfl) ?_
          refine lv_iload_n hx hb d_M_follow_76 rfl (lv_at hl 5 rfl) ?_
          refine lv_iload_n hx hb d_M_follow_77 rfl (lv_at hl 6 rfl) ?_
          refine lv_bipush (v := (16 : Int32)) hx hb d_M_follow_78 (by decide) ?_
          refine lv_iload hx hb d_M_follow_80 (lv_at hl 0 rfl) ?_
          refine lv_imul hx hb d_M_follow_82 ?_
          refine lv_aload_n hx hb d_M_follow_83 rfl (lv_at hl 3 rfl) ?_
          refine va_get (ci := 5) (C := cnM) (T := fTM) (N := 30) hx hb hts uwM hown hK hP 0 rfl rfl 2 (by decide) (hts _ wd_527) (fun _ h9 => h9) rfl d_M_follow_84 ?_
          refine lv_iload hx hb d_M_follow_87 (lv_at hl 2 rfl) ?_
          refine mb_iald hx hb hK hP 3 0 rfl rfl h d_M_follow_89 (fun v7 h => ?_)
          refine lv_iadd hx hb d_M_follow_90 ?_
          obtain ⟨_u, s8, hs8, h⟩ := mb_cal_ex h
          refine mb_goV Cx (mb_runV (As := [.int x1, .int x2, .int x3, .int (((16 : Int32) * v5) + v7)]) (rest := []) mb_Z0ok Cx (w_M_onwards l D X cI cZ cJ hs8 H.size) (mb_cwV 4 hts wd_732 wd_734 sel_58 wd_7 wd_735 rfl rfl rfl (by decide +kernel) ⟨Nat.le_trans (by decide) hR.1, Nat.le_trans (by decide) hR.2⟩) hP hS 0 rfl rfl rfl hl.1 rfl (Nat.le_of_ble_eq_true rfl) d_M_follow_91) hS (fun H locs hP hS => ?_)
          refine lv_goto hx hb d_M_follow_94 rfl ?_
          exact zM_follow_b113 Cx hR hret  s8 h ls H locs (lv_sub hl [] rfl) hP hS
  · have h := mb_t hc h
    refine lv_aload_n hx hb d_M_follow_24 rfl (lv_at hl 2 rfl) ?_
    refine lv_iload_n hx hb d_M_follow_25 rfl (lv_at hl 3 rfl) ?_
    refine lv_iload_n hx hb d_M_follow_26 rfl (lv_at hl 4 rfl) ?_
    refine lv_iload_n hx hb d_M_follow_27 rfl (lv_at hl 5 rfl) ?_
    refine lv_iload hx hb d_M_follow_28 (lv_at hl 6 rfl) ?_
    obtain ⟨_u, s9, hs9, h⟩ := mb_cal_ex h
    refine mb_goV Cx (mb_runV (As := [.int x1, .int x2, .int x3, .int x4]) (rest := []) mb_Z0ok Cx (w_M_callFacts l D X cI cZ cJ hs9 H.size) (mb_cwV 4 hts wd_719 wd_721 sel_55 wd_7 wd_722 rfl rfl rfl (by decide +kernel) ⟨Nat.le_trans (by decide) hR.1, Nat.le_trans (by decide) hR.2⟩) hP hS 0 rfl rfl rfl hl.1 rfl (Nat.le_of_ble_eq_true rfl) d_M_follow_30) hS (fun H locs hP hS => ?_)
    refine lv_goto hx hb d_M_follow_33 rfl ?_
    exact zM_follow_b113 Cx hR hret  s9 h ls H locs (lv_sub hl [] rfl) hP hS
