set_option maxRecDepth 100000 in
set_option maxHeartbeats 4000000 in
theorem zM_classOf_b68 {p : Program} {l : Launch} {e : Env} {R : Room} {s0 : State} {m : MethodId} {args : Array Value} {below : List Frame} {meth : Method} {c : Code} {Q : State → Prop} {A : Nat → Prop} {D : va_G} {X : Nat → Nat} {cI cZ cJ : ClassId} {rv : Int32} {rs : mb_S}
    (Cx : mb_C p s0 m args meth c c_M_classOf 5 lw_w cnM (fun _ _ => True) vwCl D [(cI, .int), (cZ, .boolean), (cJ, .long)] A (WM X cI cZ cJ)) (hR : 1 ≤ R.frames ∧ 26 ≤ R.locals)
    (hret : mb_R p l e R s0 m args below meth c Q vwCl D A (WM X cI cZ cJ) c_M_classOf .ireturn [.int rv] rs) (k2 : Int32 → Int32 → mb_S → Option (Int32 × mb_S)) (hk2 : ∀ (x1 : Int32) (x2 : Int32) (s : mb_S), k2 x1 x2 s = some (rv, rs) → mb_B p l e R s0 m args below meth c Q vwCl D A (WM X cI cZ cJ) 5 [(0, .ref (X 0)), (1, .int x1), (2, .int x2)] [] 2 s) (x1 : Int32) (x2 : Int32) (s : mb_S)
    (h : mM_classOf_b68 k2 x1 x2 s = some (rv, rs)) : mb_B p l e R s0 m args below meth c Q vwCl D A (WM X cI cZ cJ) 5 [(0, .ref (X 0)), (1, .int x1), (2, .int x2)] [] 68 s := by
  unfold mM_classOf_b68 at h
  intro ls H locs hl hP hS
  have Cx0 := Cx
  obtain ⟨⟨hx, hb, hml, hown, hts⟩, hK, hD, hA, hZ⟩ := Cx0
  obtain ⟨v1, ev1, h⟩ := mb_ex h
  refine lv_iinc (k := 2) (v := v1) (lv' := [(2, .int v1), (0, .ref (X 0)), (1, .int x1)]) hx hb d_M_classOf_68 hl rfl ev1 (by decide) rfl (fun ls hl => ?_)
  refine lv_goto hx hb d_M_classOf_71 rfl ?_
  exact hk2 x1 v1 s h ls H locs (lv_sub hl [1, 2, 0] rfl) hP hS
set_option maxRecDepth 100000 in
set_option maxHeartbeats 4000000 in
theorem zM_classOf_b40 {p : Program} {l : Launch} {e : Env} {R : Room} {s0 : State} {m : MethodId} {args : Array Value} {below : List Frame} {meth : Method} {c : Code} {Q : State → Prop} {A : Nat → Prop} {D : va_G} {X : Nat → Nat} {cI cZ cJ : ClassId} {rv : Int32} {rs : mb_S}
    (Cx : mb_C p s0 m args meth c c_M_classOf 5 lw_w cnM (fun _ _ => True) vwCl D [(cI, .int), (cZ, .boolean), (cJ, .long)] A (WM X cI cZ cJ)) (hR : 1 ≤ R.frames ∧ 26 ≤ R.locals)
    (hret : mb_R p l e R s0 m args below meth c Q vwCl D A (WM X cI cZ cJ) c_M_classOf .ireturn [.int rv] rs) (k2 : Int32 → Int32 → mb_S → Option (Int32 × mb_S)) (hk2 : ∀ (x1 : Int32) (x2 : Int32) (s : mb_S), k2 x1 x2 s = some (rv, rs) → mb_B p l e R s0 m args below meth c Q vwCl D A (WM X cI cZ cJ) 5 [(0, .ref (X 0)), (1, .int x1), (2, .int x2)] [] 2 s) (x1 : Int32) (x2 : Int32) (x3 : Int32) (y0 : Int32) (s : mb_S)
    (h : mM_classOf_b40 k2 x1 x2 x3 y0 s = some (rv, rs)) : mb_B p l e R s0 m args below meth c Q vwCl D A (WM X cI cZ cJ) 5 [(0, .ref (X 0)), (1, .int x1), (2, .int x2), (3, .int x3)] [.int y0] 40 s := by
  unfold mM_classOf_b40 at h
  intro ls H locs hl hP hS
  have Cx0 := Cx
  obtain ⟨⟨hx, hb, hml, hown, hts⟩, hK, hD, hA, hZ⟩ := Cx0
  refine lv_istore (lv' := [(4, .int y0), (0, .ref (X 0)), (1, .int x1), (2, .int x2), (3, .int x3)]) hx hb d_M_classOf_40 hl (by decide) rfl (fun ls hl => ?_)
  refine lv_iload hx hb d_M_classOf_42 (lv_at hl 0 rfl) ?_
  refine lv_if_eq hx hb d_M_classOf_44 rfl (fun hc => ?_) (fun hc => ?_)
  · have h := mb_t hc h
    exact zM_classOf_b68 Cx hR hret k2 hk2 x1 x2 s h ls H locs (lv_sub hl [1, 2, 3] rfl) hP hS
  · have h := mb_f hc h
    refine lv_aload_n hx hb d_M_classOf_47 rfl (lv_at hl 1 rfl) ?_
    refine lv_iconst (v := (0 : Int32)) hx hb d_M_classOf_48 (by decide) ?_
    refine lv_iload_n hx hb d_M_classOf_49 rfl (lv_at hl 4 rfl) ?_
    refine lv_iload_n hx hb d_M_classOf_50 rfl (lv_at hl 3 rfl) ?_
    refine lv_bipush (v := (12 : Int32)) hx hb d_M_classOf_51 (by decide) ?_
    refine lv_irem hx hb d_M_classOf_53 (by decide) ?_
    obtain ⟨v2, s3, hs3, h⟩ := mb_cal_ex h
    refine mb_goI Cx (mb_runV (As := [.int (0 : Int32), .int x3, .int (x2 - x2 / (12 : Int32) * (12 : Int32))]) (rest := []) mb_Z0ok Cx (w_M_before l D X cI cZ cJ hs3 H.size) (mb_cwV 3 hts wd_628 wd_630 sel_39 wd_7 wd_631 rfl rfl rfl (by decide +kernel) ⟨Nat.le_trans (by decide) hR.1, Nat.le_trans (by decide) hR.2⟩) hP hS 0 rfl rfl rfl hl.1 rfl (Nat.le_of_ble_eq_true rfl) d_M_classOf_54) hS (fun H locs hP hS => ?_)
    refine lv_iload_n hx hb d_M_classOf_57 rfl (lv_at hl 2 rfl) ?_
    refine lv_icmp_ne hx hb d_M_classOf_58 rfl (fun hc => ?_) (fun hc => ?_)
    · have h := mb_f hc h
      exact zM_classOf_b68 Cx hR hret k2 hk2 x1 x2 s3 h ls H locs (lv_sub hl [1, 2, 3] rfl) hP hS
    · have h := mb_t hc h
      refine lv_aload_n hx hb d_M_classOf_61 rfl (lv_at hl 1 rfl) ?_
      refine va_get (ci := 5) (C := cnM) (T := fTM) (N := 30) hx hb hts uwM hown hK hP 0 rfl rfl 3 (by decide) (hts _ wd_528) (fun _ h9 => h9) rfl d_M_classOf_62 ?_
      refine lv_iload_n hx hb d_M_classOf_65 rfl (lv_at hl 3 rfl) ?_
      refine mb_iald hx hb hK hP 4 0 rfl rfl h d_M_classOf_66 (fun v4 h => ?_)
      exact mb_eI hret h d_M_classOf_67 hP hS
set_option maxRecDepth 100000 in
set_option maxHeartbeats 4000000 in
theorem zM_classOf_b39 {p : Program} {l : Launch} {e : Env} {R : Room} {s0 : State} {m : MethodId} {args : Array Value} {below : List Frame} {meth : Method} {c : Code} {Q : State → Prop} {A : Nat → Prop} {D : va_G} {X : Nat → Nat} {cI cZ cJ : ClassId} {rv : Int32} {rs : mb_S}
    (Cx : mb_C p s0 m args meth c c_M_classOf 5 lw_w cnM (fun _ _ => True) vwCl D [(cI, .int), (cZ, .boolean), (cJ, .long)] A (WM X cI cZ cJ)) (hR : 1 ≤ R.frames ∧ 26 ≤ R.locals)
    (hret : mb_R p l e R s0 m args below meth c Q vwCl D A (WM X cI cZ cJ) c_M_classOf .ireturn [.int rv] rs) (k2 : Int32 → Int32 → mb_S → Option (Int32 × mb_S)) (hk2 : ∀ (x1 : Int32) (x2 : Int32) (s : mb_S), k2 x1 x2 s = some (rv, rs) → mb_B p l e R s0 m args below meth c Q vwCl D A (WM X cI cZ cJ) 5 [(0, .ref (X 0)), (1, .int x1), (2, .int x2)] [] 2 s) (x1 : Int32) (x2 : Int32) (x3 : Int32) (s : mb_S)
    (h : mM_classOf_b39 k2 x1 x2 x3 s = some (rv, rs)) : mb_B p l e R s0 m args below meth c Q vwCl D A (WM X cI cZ cJ) 5 [(0, .ref (X 0)), (1, .int x1), (2, .int x2), (3, .int x3)] [] 39 s := by
  unfold mM_classOf_b39 at h
  intro ls H locs hl hP hS
  have Cx0 := Cx
  obtain ⟨⟨hx, hb, hml, hown, hts⟩, hK, hD, hA, hZ⟩ := Cx0
  refine lv_iconst (v := (0 : Int32)) hx hb d_M_classOf_39 (by decide) ?_
  exact zM_classOf_b40 Cx hR hret k2 hk2 x1 x2 x3 (0 : Int32) s h ls H locs (lv_sub hl [0, 1, 2, 3] rfl) hP hS
set_option maxRecDepth 100000 in
set_option maxHeartbeats 4000000 in
theorem zM_classOf_l2 {p : Program} {l : Launch} {e : Env} {R : Room} {s0 : State} {m : MethodId} {args : Array Value} {below : List Frame} {meth : Method} {c : Code} {Q : State → Prop} {A : Nat → Prop} {D : va_G} {X : Nat → Nat} {cI cZ cJ : ClassId} {rv : Int32} {rs : mb_S}
    (Cx : mb_C p s0 m args meth c c_M_classOf 5 lw_w cnM (fun _ _ => True) vwCl D [(cI, .int), (cZ, .boolean), (cJ, .long)] A (WM X cI cZ cJ)) (hR : 1 ≤ R.frames ∧ 26 ≤ R.locals)
    (hret : mb_R p l e R s0 m args below meth c Q vwCl D A (WM X cI cZ cJ) c_M_classOf .ireturn [.int rv] rs)  :
    ∀ (n : Nat) (x1 : Int32) (x2 : Int32) (s : mb_S), mM_classOf_l2  n x1 x2 s = some (rv, rs) → mb_B p l e R s0 m args below meth c Q vwCl D A (WM X cI cZ cJ) 5 [(0, .ref (X 0)), (1, .int x1), (2, .int x2)] [] 2 s := by
  intro n
  induction n with
  | zero => intro x1 x2 s h; cases h
  | succ n ih =>
    intro x1 x2 s h
    rw [mM_classOf_l2_s] at h
    intro ls H locs hl hP hS
    have Cx0 := Cx
    obtain ⟨⟨hx, hb, hml, hown, hts⟩, hK, hD, hA, hZ⟩ := Cx0
    refine lv_iload_n hx hb d_M_classOf_2 rfl (lv_at hl 2 rfl) ?_
    refine lv_bipush (v := (72 : Int32)) hx hb d_M_classOf_3 (by decide) ?_
    refine lv_icmp_ge hx hb d_M_classOf_5 rfl (fun hc => ?_) (fun hc => ?_)
    · have h := mb_t hc h
      refine lv_iconst (v := (-1 : Int32)) hx hb d_M_classOf_74 (by decide) ?_
      exact mb_eI hret h d_M_classOf_75 hP hS
    · have h := mb_f hc h
      refine lv_iload_n hx hb d_M_classOf_8 rfl (lv_at hl 2 rfl) ?_
      refine lv_bipush (v := (12 : Int32)) hx hb d_M_classOf_9 (by decide) ?_
      refine lv_idiv hx hb d_M_classOf_11 (by decide) ?_
      refine lv_topi (fun v5 ev5 => ?_)
      have h := mb_at ev5 h
      refine lv_istore_n (lv' := [(3, .int v5), (0, .ref (X 0)), (1, .int x1), (2, .int x2)]) hx hb d_M_classOf_12 rfl hl (by decide) rfl (fun ls hl => ?_)
      refine lv_iload_n hx hb d_M_classOf_13 rfl (lv_at hl 3 rfl) ?_
      refine lv_bipush (v := (12 : Int32)) hx hb d_M_classOf_14 (by decide) ?_
      refine lv_irem hx hb d_M_classOf_16 (by decide) ?_
      refine lv_aload_n hx hb d_M_classOf_17 rfl (lv_at hl 1 rfl) ?_
      refine va_get (ci := 5) (C := cnM) (T := fTM) (N := 30) hx hb hts uwM hown hK hP 0 rfl rfl 0 (by decide) (hts _ wd_525) (fun _ h9 => h9) rfl d_M_classOf_18 ?_
      refine lv_iload_n hx hb d_M_classOf_21 rfl (lv_at hl 0 rfl) ?_
      refine mb_iald hx hb hK hP 1 0 rfl rfl h d_M_classOf_22 (fun v6 h => ?_)
      refine lv_icmp_ge hx hb d_M_classOf_23 rfl (fun hc => ?_) (fun hc => ?_)
      · have h := mb_t hc h
        exact zM_classOf_b39 Cx hR hret (mM_classOf_l2  n) ih x1 x2 v5 s h ls H locs (lv_sub hl [1, 2, 3, 0] rfl) hP hS
      · have h := mb_f hc h
        refine lv_aload_n hx hb d_M_classOf_26 rfl (lv_at hl 1 rfl) ?_
        refine va_get (ci := 5) (C := cnM) (T := fTM) (N := 30) hx hb hts uwM hown hK hP 0 rfl rfl 1 (by decide) (hts _ wd_526) (fun _ h9 => h9) rfl d_M_classOf_27 ?_
        refine lv_iload_n hx hb d_M_classOf_30 rfl (lv_at hl 3 rfl) ?_
        refine mb_iald hx hb hK hP 2 0 rfl rfl h d_M_classOf_31 (fun v7 h => ?_)
        refine lv_if_ne hx hb d_M_classOf_32 rfl (fun hc => ?_) (fun hc => ?_)
        · have h := mb_f hc h
          exact zM_classOf_b39 Cx hR hret (mM_classOf_l2  n) ih x1 x2 v5 s h ls H locs (lv_sub hl [1, 2, 3, 0] rfl) hP hS
        · have h := mb_t hc h
          refine lv_iconst (v := (1 : Int32)) hx hb d_M_classOf_35 (by decide) ?_
          refine lv_goto hx hb d_M_classOf_36 rfl ?_
          exact zM_classOf_b40 Cx hR hret (mM_classOf_l2  n) ih x1 x2 v5 (1 : Int32) s h ls H locs (lv_sub hl [1, 2, 3, 0] rfl) hP hS
set_option maxRecDepth 100000 in
set_option maxHeartbeats 4000000 in
theorem w_M_classOf (l : Launch) (D : va_G) (X : Nat → Nat) (cI cZ cJ : ClassId) {x1 : Int32} {s : mb_S} {rv : Int32} {rs : mb_S}
    (h : mM_classOf x1 s = some (rv, rs)) : mb_MI l y_M_classOf ws_M_classOf rm_M_classOf (fun _ _ => True) vwCl D [(cI, .int), (cZ, .boolean), (cJ, .long)] (WM X cI cZ cJ) [.ref (X 0), .int x1] s rv rs := by
  refine mb_ofI mb_Z0ok (by decide) rfl (Nat.le_of_ble_eq_true rfl) mb_DMok ?_
  intro p e s0 m args below meth c Q A Cx hret
  have hR : 1 ≤ (rm_M_classOf).frames ∧ 26 ≤ (rm_M_classOf).locals := ⟨Nat.le_refl _, Nat.le_refl _⟩
  intro ls H locs hl hP hS
  have Cx0 := Cx
  obtain ⟨⟨hx, hb, hml, hown, hts⟩, hK, hD, hA, hZ⟩ := Cx0
  have hl : lv_has ls 5 [(0, .ref (X 0)), (1, .int x1)] := hl
  unfold mM_classOf at h
  refine lv_iconst (v := (0 : Int32)) hx hb d_M_classOf_0 (by decide) ?_
  refine lv_istore_n (lv' := [(2, .int (0 : Int32)), (0, .ref (X 0)), (1, .int x1)]) hx hb d_M_classOf_1 rfl hl (by decide) rfl (fun ls hl => ?_)
  exact zM_classOf_l2 Cx hR hret  mb_fuel x1 (0 : Int32) s h ls H locs (lv_sub hl [1, 2, 0] rfl) hP hS
set_option maxRecDepth 100000 in
set_option maxHeartbeats 4000000 in
theorem zM_calls_b61 {p : Program} {l : Launch} {e : Env} {R : Room} {s0 : State} {m : MethodId} {args : Array Value} {below : List Frame} {meth : Method} {c : Code} {Q : State → Prop} {A : Nat → Prop} {D : va_G} {X : Nat → Nat} {cI cZ cJ : ClassId} {rv : Int32} {rs : mb_S}
    (Cx : mb_C p s0 m args meth c c_M_calls 6 lw_w cnM (fun _ _ => True) vwCl D [(cI, .int), (cZ, .boolean), (cJ, .long)] A (WM X cI cZ cJ)) (hR : 2 ≤ R.frames ∧ 50 ≤ R.locals)
    (hret : (rv = 0 ∨ rv = 1) → mb_R p l e R s0 m args below meth c Q vwCl D A (WM X cI cZ cJ) c_M_calls .ireturn [.int rv] rs)  (y0 : Int32) (s : mb_S)
    (h : mM_calls_b61  y0 s = some (rv, rs)) : mb_B p l e R s0 m args below meth c Q vwCl D A (WM X cI cZ cJ) 6 [] [.int y0] 61 s := by
  unfold mM_calls_b61 at h
  intro ls H locs hl hP hS
  have Cx0 := Cx
  obtain ⟨⟨hx, hb, hml, hown, hts⟩, hK, hD, hA, hZ⟩ := Cx0
  exact mb_eZ hret h d_M_calls_61 hP hS
set_option maxRecDepth 100000 in
set_option maxHeartbeats 4000000 in
theorem w_M_calls (l : Launch) (D : va_G) (X : Nat → Nat) (cI cZ cJ : ClassId) {x1 : Int32} {x2 : Int32} {x3 : Int32} {s : mb_S} {rv : Int32} {rs : mb_S}
    (h : mM_calls x1 x2 x3 s = some (rv, rs)) : mb_MI l y_M_calls ws_M_calls rm_M_calls (fun _ _ => True) vwCl D [(cI, .int), (cZ, .boolean), (cJ, .long)] (WM X cI cZ cJ) [.ref (X 0), .int x1, .int x2, .int x3] s rv rs := by
  refine mb_ofZ mb_Z0ok (by decide) rfl (Nat.le_of_ble_eq_true rfl) mb_DMok ?_
  intro p e s0 m args below meth c Q A Cx hret
  have hR : 2 ≤ (rm_M_calls).frames ∧ 50 ≤ (rm_M_calls).locals := ⟨Nat.le_refl _, Nat.le_refl _⟩
  intro ls H locs hl hP hS
  have Cx0 := Cx
  obtain ⟨⟨hx, hb, hml, hown, hts⟩, hK, hD, hA, hZ⟩ := Cx0
  have hl : lv_has ls 6 [(0, .ref (X 0)), (1, .int x1), (2, .int x2), (3, .int x3)] := hl
  unfold mM_calls at h
  refine lv_aload_n hx hb d_M_calls_0 rfl (lv_at hl 0 rfl) ?_
  refine va_get (ci := 5) (C := cnM) (T := fTM) (N := 30) hx hb hts uwM hown hK hP 0 rfl rfl 9 (by decide) (hts _ wd_534) (fun _ h9 => h9) rfl d_M_calls_1 ?_
  refine lv_iconst (v := (4 : Int32)) hx hb d_M_calls_4 (by decide) ?_
  refine lv_iload_n hx hb d_M_calls_5 rfl (lv_at hl 1 rfl) ?_
  refine lv_bipush (v := (12 : Int32)) hx hb d_M_calls_6 (by decide) ?_
  refine lv_idiv hx hb d_M_calls_8 (by decide) ?_
  refine lv_imul hx hb d_M_calls_9 ?_
  refine lv_aload_n hx hb d_M_calls_10 rfl (lv_at hl 0 rfl) ?_
  refine va_get (ci := 5) (C := cnM) (T := fTM) (N := 30) hx hb hts uwM hown hK hP 0 rfl rfl 3 (by decide) (hts _ wd_528) (fun _ h9 => h9) rfl d_M_calls_11 ?_
  refine lv_iload_n hx hb d_M_calls_14 rfl (lv_at hl 1 rfl) ?_
  refine mb_iald hx hb hK hP 4 0 rfl rfl h d_M_calls_15 (fun v1 h => ?_)
  refine lv_iadd hx hb d_M_calls_16 ?_
  refine mb_iald hx hb hK hP 8 0 rfl rfl h d_M_calls_17 (fun v2 h => ?_)
  refine lv_istore (lv' := [(4, .int v2), (0, .ref (X 0)), (1, .int x1), (2, .int x2), (3, .int x3)]) hx hb d_M_calls_18 hl (by decide) rfl (fun ls hl => ?_)
  refine lv_iload hx hb d_M_calls_20 (lv_at hl 0 rfl) ?_
  refine lv_iload_n hx hb d_M_calls_22 rfl (lv_at hl 3 rfl) ?_
  refine lv_ishr hx hb d_M_calls_23 ?_
  refine lv_iconst (v := (1 : Int32)) hx hb d_M_calls_24 (by decide) ?_
  refine lv_iand hx hb d_M_calls_25 ?_
  refine lv_if_ne hx hb d_M_calls_26 rfl (fun hc => ?_) (fun hc => ?_)
  · have h := mb_f hc h
    refine lv_aload_n hx hb d_M_calls_31 rfl (lv_at hl 1 rfl) ?_
    refine lv_iload_n hx hb d_M_calls_32 rfl (lv_at hl 3 rfl) ?_
    obtain ⟨v3, s4, hs4, h⟩ := mb_cal_ex h
    refine mb_goI Cx (mb_runV (As := [.int x2]) (rest := []) mb_Z0ok Cx (w_M_classOf l D X cI cZ cJ hs4 H.size) (mb_cwV 1 hts wd_681 wd_683 sel_46 wd_7 wd_684 rfl rfl rfl (by decide +kernel) ⟨Nat.le_trans (by decide) hR.1, Nat.le_trans (by decide) hR.2⟩) hP hS 0 rfl rfl rfl hl.1 rfl (Nat.le_of_ble_eq_true rfl) d_M_calls_33) hS (fun H locs hP hS => ?_)
    refine lv_istore (lv' := [(5, .int v3), (4, .int v2), (0, .ref (X 0)), (1, .int x1), (2, .int x2), (3, .int x3)]) hx hb d_M_calls_36 hl (by decide) rfl (fun ls hl => ?_)
    refine lv_aload_n hx hb d_M_calls_38 rfl (lv_at hl 2 rfl) ?_
    refine lv_iload hx hb d_M_calls_39 (lv_at hl 0 rfl) ?_
    refine lv_aload_n hx hb d_M_calls_41 rfl (lv_at hl 2 rfl) ?_
    refine va_get (ci := 5) (C := cnM) (T := fTM) (N := 30) hx hb hts uwM hown hK hP 0 rfl rfl 4 (by decide) (hts _ wd_529) (fun _ h9 => h9) rfl d_M_calls_42 ?_
    refine lv_iload_n hx hb d_M_calls_45 rfl (lv_at hl 3 rfl) ?_
    refine mb_iald hx hb hK hP 5 0 rfl rfl h d_M_calls_46 (fun v5 h => ?_)
    refine lv_iconst (v := (4 : Int32)) hx hb d_M_calls_47 (by decide) ?_
    refine lv_idiv hx hb d_M_calls_48 (by decide) ?_
    obtain ⟨v6, s7, hs7, h⟩ := mb_cal_ex h
    refine mb_goI Cx (mb_runV (As := [.int v3, .int (v5 / (4 : Int32))]) (rest := []) mb_Z0ok Cx (w_M_target l D X cI cZ cJ hs7 H.size) (mb_cwV 2 hts wd_685 wd_649 wd_650 wd_7 wd_651 rfl rfl rfl (by decide +kernel) ⟨Nat.le_trans (by decide) hR.1, Nat.le_trans (by decide) hR.2⟩) hP hS 0 rfl rfl rfl hl.1 rfl (Nat.le_of_ble_eq_true rfl) d_M_calls_49) hS (fun H locs hP hS => ?_)
    refine lv_iload_n hx hb d_M_calls_52 rfl (lv_at hl 5 rfl) ?_
    refine lv_icmp_ne hx hb d_M_calls_53 rfl (fun hc => ?_) (fun hc => ?_)
    · have h := mb_f hc h
      refine lv_iconst (v := (0 : Int32)) hx hb d_M_calls_60 (by decide) ?_
      exact zM_calls_b61 Cx hR hret  (0 : Int32) s7 h ls H locs (lv_sub hl [] rfl) hP hS
    · have h := mb_t hc h
      refine lv_iconst (v := (1 : Int32)) hx hb d_M_calls_56 (by decide) ?_
      refine lv_goto hx hb d_M_calls_57 rfl ?_
      exact zM_calls_b61 Cx hR hret  (1 : Int32) s7 h ls H locs (lv_sub hl [] rfl) hP hS
  · have h := mb_t hc h
    refine lv_iconst (v := (0 : Int32)) hx hb d_M_calls_29 (by decide) ?_
    exact mb_eZ hret h d_M_calls_30 hP hS
set_option maxRecDepth 100000 in
set_option maxHeartbeats 4000000 in
theorem zM_grow_b48 {p : Program} {l : Launch} {e : Env} {R : Room} {s0 : State} {m : MethodId} {args : Array Value} {below : List Frame} {meth : Method} {c : Code} {Q : State → Prop} {A : Nat → Prop} {D : va_G} {X : Nat → Nat} {cI cZ cJ : ClassId} {rv : Unit} {rs : mb_S}
    (Cx : mb_C p s0 m args meth c c_M_grow 5 lw_w cnM (fun _ _ => True) vwCl D [(cI, .int), (cZ, .boolean), (cJ, .long)] A (WM X cI cZ cJ)) (hR : 0 ≤ R.frames ∧ 0 ≤ R.locals)
    (hret : mb_R p l e R s0 m args below meth c Q vwCl D A (WM X cI cZ cJ) c_M_grow .return_ [] rs)  (y0 : Int32) (s : mb_S)
    (h : mM_grow_b48  y0 s = some (rv, rs)) : mb_B p l e R s0 m args below meth c Q vwCl D A (WM X cI cZ cJ) 5 [] [.int y0, .ref (X 0)] 48 s := by
  unfold mM_grow_b48 at h
  intro ls H locs hl hP hS
  have Cx0 := Cx
  obtain ⟨⟨hx, hb, hml, hown, hts⟩, hK, hD, hA, hZ⟩ := Cx0
  obtain ⟨hzs1, h⟩ := mb_putZ_ex h
  refine va_put (ci := 5) (v := .int y0) (ty := .boolean) (C := cnM) (T := fTM) (N := 30) hx hb hts uwM fyM fyM_ok fnM hown hK hP (hD _) hS 0 rfl rfl 8 (by decide) (hts _ wd_533) (fun _ h9 => h9) rfl (by decide +kernel) (mb_narZ hzs1) (mb_fitZ hzs1) (Nat.le_of_ble_eq_true rfl) d_M_grow_48 (fun H locs hP _ hS => ?_)
  have hP : va_P D vwCl (WM X cI cZ cJ (mb_setF s 1 y0)) H := hP
  generalize mb_setF s 1 y0 = s1 at hP h
  exact mb_eV hret h d_M_grow_51 hP hS
set_option maxRecDepth 100000 in
set_option maxHeartbeats 4000000 in
theorem zM_grow_b43 {p : Program} {l : Launch} {e : Env} {R : Room} {s0 : State} {m : MethodId} {args : Array Value} {below : List Frame} {meth : Method} {c : Code} {Q : State → Prop} {A : Nat → Prop} {D : va_G} {X : Nat → Nat} {cI cZ cJ : ClassId} {rv : Unit} {rs : mb_S}
    (Cx : mb_C p s0 m args meth c c_M_grow 5 lw_w cnM (fun _ _ => True) vwCl D [(cI, .int), (cZ, .boolean), (cJ, .long)] A (WM X cI cZ cJ)) (hR : 0 ≤ R.frames ∧ 0 ≤ R.locals)
    (hret : mb_R p l e R s0 m args below meth c Q vwCl D A (WM X cI cZ cJ) c_M_grow .return_ [] rs)   (s : mb_S)
    (h : mM_grow_b43  s = some (rv, rs)) : mb_B p l e R s0 m args below meth c Q vwCl D A (WM X cI cZ cJ) 5 [] [.ref (X 0)] 43 s := by
  unfold mM_grow_b43 at h
  intro ls H locs hl hP hS
  have Cx0 := Cx
  obtain ⟨⟨hx, hb, hml, hown, hts⟩, hK, hD, hA, hZ⟩ := Cx0
  refine lv_iconst (v := (1 : Int32)) hx hb d_M_grow_43 (by decide) ?_
  refine lv_goto hx hb d_M_grow_44 rfl ?_
  exact zM_grow_b48 Cx hR hret  (1 : Int32) s h ls H locs (lv_sub hl [] rfl) hP hS
set_option maxRecDepth 100000 in
set_option maxHeartbeats 4000000 in
theorem w_M_grow (l : Launch) (D : va_G) (X : Nat → Nat) (cI cZ cJ : ClassId) {x1 : Int32} {x2 : Int32} {x3 : Int32} {s : mb_S} {rv : Unit} {rs : mb_S}
    (h : mM_grow x1 x2 x3 s = some (rv, rs)) : mb_MV l y_M_grow ws_M_grow rm_M_grow (fun _ _ => True) vwCl D [(cI, .int), (cZ, .boolean), (cJ, .long)] (WM X cI cZ cJ) [.ref (X 0), .int x1, .int x2, .int x3] s rs := by
  refine mb_ofV mb_Z0ok (by decide) rfl (Nat.le_of_ble_eq_true rfl) mb_DMok ?_
  intro p e s0 m args below meth c Q A Cx hret
  have hR : 0 ≤ (rm_M_grow).frames ∧ 0 ≤ (rm_M_grow).locals := ⟨Nat.le_refl _, Nat.le_refl _⟩
  intro ls H locs hl hP hS
  have Cx0 := Cx
  obtain ⟨⟨hx, hb, hml, hown, hts⟩, hK, hD, hA, hZ⟩ := Cx0
  have hl : lv_has ls 5 [(0, .ref (X 0)), (1, .int x1), (2, .int x2), (3, .int x3)] := hl
  unfold mM_grow at h
  refine lv_aload_n hx hb d_M_grow_0 rfl (lv_at hl 0 rfl) ?_
  refine va_get (ci := 5) (C := cnM) (T := fTM) (N := 30) hx hb hts uwM hown hK hP 0 rfl rfl 9 (by decide) (hts _ wd_534) (fun _ h9 => h9) rfl d_M_grow_1 ?_
  refine lv_iconst (v := (4 : Int32)) hx hb d_M_grow_4 (by decide) ?_
  refine lv_iload_n hx hb d_M_grow_5 rfl (lv_at hl 1 rfl) ?_
  refine lv_imul hx hb d_M_grow_6 ?_
  refine lv_iload_n hx hb d_M_grow_7 rfl (lv_at hl 2 rfl) ?_
  refine lv_iadd hx hb d_M_grow_8 ?_
  refine mb_iald hx hb hK hP 8 0 rfl rfl h d_M_grow_9 (fun v2 h => ?_)
  refine lv_istore (lv' := [(4, .int v2), (0, .ref (X 0)), (1, .int x1), (2, .int x2), (3, .int x3)]) hx hb d_M_grow_10 hl (by decide) rfl (fun ls hl => ?_)
  refine lv_aload_n hx hb d_M_grow_12 rfl (lv_at hl 1 rfl) ?_
  refine va_get (ci := 5) (C := cnM) (T := fTM) (N := 30) hx hb hts uwM hown hK hP 0 rfl rfl 9 (by decide) (hts _ wd_534) (fun _ h9 => h9) rfl d_M_grow_13 ?_
  refine lv_iconst (v := (4 : Int32)) hx hb d_M_grow_16 (by decide) ?_
  refine lv_iload_n hx hb d_M_grow_17 rfl (lv_at hl 2 rfl) ?_
  refine lv_imul hx hb d_M_grow_18 ?_
  refine lv_iload_n hx hb d_M_grow_19 rfl (lv_at hl 3 rfl) ?_
  refine lv_iadd hx hb d_M_grow_20 ?_
  refine lv_iload hx hb d_M_grow_21 (lv_at hl 0 rfl) ?_
  refine lv_iload_n hx hb d_M_grow_23 rfl (lv_at hl 4 rfl) ?_
  refine lv_ior hx hb d_M_grow_24 ?_
  refine mb_iast (WS := WM X cI cZ cJ) hx hb hK hP hD hS 8 0 rfl rfl h d_M_grow_25 rfl (fun H locs s3 hP hS h => ?_)
  refine lv_aload_n hx hb d_M_grow_26 rfl (lv_at hl 1 rfl) ?_
  refine lv_aload_n hx hb d_M_grow_27 rfl (lv_at hl 1 rfl) ?_
  refine va_get (ci := 5) (C := cnM) (T := fTM) (N := 30) hx hb hts uwM hown hK hP 0 rfl rfl 8 (by decide) (hts _ wd_533) (fun _ h9 => h9) rfl d_M_grow_28 ?_
  refine lv_if_ne hx hb d_M_grow_31 rfl (fun hc => ?_) (fun hc => ?_)
  · have h := mb_f hc h
    exact zM_grow_b43 Cx hR hret  s3 h ls H locs (lv_sub hl [] rfl) hP hS
  · have h := mb_t hc h
    refine lv_iload hx hb d_M_grow_34 (lv_at hl 0 rfl) ?_
    refine lv_iload_n hx hb d_M_grow_36 rfl (lv_at hl 4 rfl) ?_
    refine lv_ior hx hb d_M_grow_37 ?_
    refine lv_iload hx hb d_M_grow_38 (lv_at hl 0 rfl) ?_
    refine lv_icmp_eq hx hb d_M_grow_40 rfl (fun hc => ?_) (fun hc => ?_)
    · have h := mb_t hc h
      refine lv_iconst (v := (0 : Int32)) hx hb d_M_grow_47 (by decide) ?_
      exact zM_grow_b48 Cx hR hret  (0 : Int32) s3 h ls H locs (lv_sub hl [] rfl) hP hS
    · have h := mb_f hc h
      exact zM_grow_b43 Cx hR hret  s3 h ls H locs (lv_sub hl [] rfl) hP hS
set_option maxRecDepth 100000 in
set_option maxHeartbeats 4000000 in
theorem zM_callPoints_b170 {p : Program} {l : Launch} {e : Env} {R : Room} {s0 : State} {m : MethodId} {args : Array Value} {below : List Frame} {meth : Method} {c : Code} {Q : State → Prop} {A : Nat → Prop} {D : va_G} {X : Nat → Nat} {cI cZ cJ : ClassId} {rv : Unit} {rs : mb_S}
    (Cx : mb_C p s0 m args meth c c_M_callPoints 6 lw_w cnM (fun _ _ => True) vwCl D [(cI, .int), (cZ, .boolean), (cJ, .long)] A (WM X cI cZ cJ)) (hR : 3 ≤ R.frames ∧ 75 ≤ R.locals)
    (hret : mb_R p l e R s0 m args below meth c Q vwCl D A (WM X cI cZ cJ) c_M_callPoints .return_ [] rs) (k2 : Int32 → Int32 → Int32 → mb_S → Option (Unit × mb_S)) (hk2 : ∀ (x1 : Int32) (x2 : Int32) (x3 : Int32) (s : mb_S), k2 x1 x2 x3 s = some (rv, rs) → mb_B p l e R s0 m args below meth c Q vwCl D A (WM X cI cZ cJ) 6 [(0, .ref (X 0)), (1, .int x1), (2, .int x2), (3, .int x3)] [] 2 s) (k11 : Int32 → Int32 → Int32 → Int32 → mb_S → Option (Unit × mb_S)) (hk11 : ∀ (x1 : Int32) (x2 : Int32) (x3 : Int32) (x4 : Int32) (s : mb_S), k11 x1 x2 x3 x4 s = some (rv, rs) → mb_B p l e R s0 m args below meth c Q vwCl D A (WM X cI cZ cJ) 6 [(0, .ref (X 0)), (1, .int x1), (2, .int x2), (3, .int x3), (4, .int x4)] [] 11 s) (x1 : Int32) (x2 : Int32) (x3 : Int32) (x4 : Int32) (s : mb_S)
    (h : mM_callPoints_b170 k2 k11 x1 x2 x3 x4 s = some (rv, rs)) : mb_B p l e R s0 m args below meth c Q vwCl D A (WM X cI cZ cJ) 6 [(0, .ref (X 0)), (1, .int x1), (2, .int x2), (3, .int x3), (4, .int x4)] [] 170 s := by
  unfold mM_callPoints_b170 at h
  intro ls H locs hl hP hS
  have Cx0 := Cx
  obtain ⟨⟨hx, hb, hml, hown, hts⟩, hK, hD, hA, hZ⟩ := Cx0
  obtain ⟨v1, ev1, h⟩ := mb_ex h
  refine lv_iinc (k := 4) (v := v1) (lv' := [(4, .int v1), (0, .ref (X 0)), (1, .int x1), (2, .int x2), (3, .int x3)]) hx hb d_M_callPoints_170 hl rfl ev1 (by decide) rfl (fun ls hl => ?_)
  refine lv_goto hx hb d_M_callPoints_173 rfl ?_
  exact hk11 x1 x2 x3 v1 s h ls H locs (lv_sub hl [1, 2, 3, 4, 0] rfl) hP hS
set_option maxRecDepth 100000 in
set_option maxHeartbeats 4000000 in
theorem zM_callPoints_b164 {p : Program} {l : Launch} {e : Env} {R : Room} {s0 : State} {m : MethodId} {args : Array Value} {below : List Frame} {meth : Method} {c : Code} {Q : State → Prop} {A : Nat → Prop} {D : va_G} {X : Nat → Nat} {cI cZ cJ : ClassId} {rv : Unit} {rs : mb_S}
    (Cx : mb_C p s0 m args meth c c_M_callPoints 6 lw_w cnM (fun _ _ => True) vwCl D [(cI, .int), (cZ, .boolean), (cJ, .long)] A (WM X cI cZ cJ)) (hR : 3 ≤ R.frames ∧ 75 ≤ R.locals)
    (hret : mb_R p l e R s0 m args below meth c Q vwCl D A (WM X cI cZ cJ) c_M_callPoints .return_ [] rs) (k2 : Int32 → Int32 → Int32 → mb_S → Option (Unit × mb_S)) (hk2 : ∀ (x1 : Int32) (x2 : Int32) (x3 : Int32) (s : mb_S), k2 x1 x2 x3 s = some (rv, rs) → mb_B p l e R s0 m args below meth c Q vwCl D A (WM X cI cZ cJ) 6 [(0, .ref (X 0)), (1, .int x1), (2, .int x2), (3, .int x3)] [] 2 s) (k11 : Int32 → Int32 → Int32 → Int32 → mb_S → Option (Unit × mb_S)) (hk11 : ∀ (x1 : Int32) (x2 : Int32) (x3 : Int32) (x4 : Int32) (s : mb_S), k11 x1 x2 x3 x4 s = some (rv, rs) → mb_B p l e R s0 m args below meth c Q vwCl D A (WM X cI cZ cJ) 6 [(0, .ref (X 0)), (1, .int x1), (2, .int x2), (3, .int x3), (4, .int x4)] [] 11 s) (k100 : Int32 → Int32 → Int32 → Int32 → Int32 → mb_S → Option (Unit × mb_S)) (hk100 : ∀ (x1 : Int32) (x2 : Int32) (x3 : Int32) (x4 : Int32) (x5 : Int32) (s : mb_S), k100 x1 x2 x3 x4 x5 s = some (rv, rs) → mb_B p l e R s0 m args below meth c Q vwCl D A (WM X cI cZ cJ) 6 [(0, .ref (X 0)), (1, .int x1), (2, .int x2), (3, .int x3), (4, .int x4), (5, .int x5)] [] 100 s) (x1 : Int32) (x2 : Int32) (x3 : Int32) (x4 : Int32) (x5 : Int32) (s : mb_S)
    (h : mM_callPoints_b164 k2 k11 k100 x1 x2 x3 x4 x5 s = some (rv, rs)) : mb_B p l e R s0 m args below meth c Q vwCl D A (WM X cI cZ cJ) 6 [(0, .ref (X 0)), (1, .int x1), (2, .int x2), (3, .int x3), (4, .int x4), (5, .int x5)] [] 164 s := by
  unfold mM_callPoints_b164 at h
  intro ls H locs hl hP hS
  have Cx0 := Cx
  obtain ⟨⟨hx, hb, hml, hown, hts⟩, hK, hD, hA, hZ⟩ := Cx0
  obtain ⟨v2, ev2, h⟩ := mb_ex h
  refine lv_iinc (k := 5) (v := v2) (lv' := [(5, .int v2), (0, .ref (X 0)), (1, .int x1), (2, .int x2), (3, .int x3), (4, .int x4)]) hx hb d_M_callPoints_164 hl rfl ev2 (by decide) rfl (fun ls hl => ?_)
  refine lv_goto hx hb d_M_callPoints_167 rfl ?_
  exact hk100 x1 x2 x3 x4 v2 s h ls H locs (lv_sub hl [1, 2, 3, 4, 5, 0] rfl) hP hS
set_option maxRecDepth 100000 in
set_option maxHeartbeats 4000000 in
theorem zM_callPoints_l100 {p : Program} {l : Launch} {e : Env} {R : Room} {s0 : State} {m : MethodId} {args : Array Value} {below : List Frame} {meth : Method} {c : Code} {Q : State → Prop} {A : Nat → Prop} {D : va_G} {X : Nat → Nat} {cI cZ cJ : ClassId} {rv : Unit} {rs : mb_S}
    (Cx : mb_C p s0 m args meth c c_M_callPoints 6 lw_w cnM (fun _ _ => True) vwCl D [(cI, .int), (cZ, .boolean), (cJ, .long)] A (WM X cI cZ cJ)) (hR : 3 ≤ R.frames ∧ 75 ≤ R.locals)
    (hret : mb_R p l e R s0 m args below meth c Q vwCl D A (WM X cI cZ cJ) c_M_callPoints .return_ [] rs) (k2 : Int32 → Int32 → Int32 → mb_S → Option (Unit × mb_S)) (hk2 : ∀ (x1 : Int32) (x2 : Int32) (x3 : Int32) (s : mb_S), k2 x1 x2 x3 s = some (rv, rs) → mb_B p l e R s0 m args below meth c Q vwCl D A (WM X cI cZ cJ) 6 [(0, .ref (X 0)), (1, .int x1), (2, .int x2), (3, .int x3)] [] 2 s) (k11 : Int32 → Int32 → Int32 → Int32 → mb_S → Option (Unit × mb_S)) (hk11 : ∀ (x1 : Int32) (x2 : Int32) (x3 : Int32) (x4 : Int32) (s : mb_S), k11 x1 x2 x3 x4 s = some (rv, rs) → mb_B p l e R s0 m args below meth c Q vwCl D A (WM X cI cZ cJ) 6 [(0, .ref (X 0)), (1, .int x1), (2, .int x2), (3, .int x3), (4, .int x4)] [] 11 s) :
    ∀ (n : Nat) (x1 : Int32) (x2 : Int32) (x3 : Int32) (x4 : Int32) (x5 : Int32) (s : mb_S), mM_callPoints_l100 k2 k11 n x1 x2 x3 x4 x5 s = some (rv, rs) → mb_B p l e R s0 m args below meth c Q vwCl D A (WM X cI cZ cJ) 6 [(0, .ref (X 0)), (1, .int x1), (2, .int x2), (3, .int x3), (4, .int x4), (5, .int x5)] [] 100 s := by
  intro n
  induction n with
  | zero => intro x1 x2 x3 x4 x5 s h; cases h
  | succ n ih =>
    intro x1 x2 x3 x4 x5 s h
    rw [mM_callPoints_l100_s] at h
    intro ls H locs hl hP hS
    have Cx0 := Cx
    obtain ⟨⟨hx, hb, hml, hown, hts⟩, hK, hD, hA, hZ⟩ := Cx0
    refine lv_iload hx hb d_M_callPoints_100 (lv_at hl 5 rfl) ?_
    refine lv_aload_n hx hb d_M_callPoints_102 rfl (lv_at hl 0 rfl) ?_
    refine va_get (ci := 5) (C := cnM) (T := fTM) (N := 30) hx hb hts uwM hown hK hP 0 rfl rfl 0 (by decide) (hts _ wd_525) (fun _ h9 => h9) rfl d_M_callPoints_103 ?_
    refine lv_iload hx hb d_M_callPoints_106 (lv_at hl 4 rfl) ?_
    refine mb_iald hx hb hK hP 1 0 rfl rfl h d_M_callPoints_108 (fun v3 h => ?_)
    refine lv_icmp_ge hx hb d_M_callPoints_109 rfl (fun hc => ?_) (fun hc => ?_)
    · have h := mb_t hc h
      exact zM_callPoints_b170 Cx hR hret k2 hk2 k11 hk11 x1 x2 x3 x4 s h ls H locs (lv_sub hl [0, 1, 2, 3, 4] rfl) hP hS
    · have h := mb_f hc h
      refine lv_aload_n hx hb d_M_callPoints_112 rfl (lv_at hl 0 rfl) ?_
      refine va_get (ci := 5) (C := cnM) (T := fTM) (N := 30) hx hb hts uwM hown hK hP 0 rfl rfl 1 (by decide) (hts _ wd_526) (fun _ h9 => h9) rfl d_M_callPoints_113 ?_
      refine lv_bipush (v := (12 : Int32)) hx hb d_M_callPoints_116 (by decide) ?_
      refine lv_iload hx hb d_M_callPoints_118 (lv_at hl 4 rfl) ?_
      refine lv_imul hx hb d_M_callPoints_120 ?_
      refine lv_iload hx hb d_M_callPoints_121 (lv_at hl 5 rfl) ?_
      refine lv_iadd hx hb d_M_callPoints_123 ?_
      refine mb_iald hx hb hK hP 2 0 rfl rfl h d_M_callPoints_124 (fun v4 h => ?_)
      refine lv_bipush (v := (10 : Int32)) hx hb d_M_callPoints_125 (by decide) ?_
      refine lv_icmp_ne hx hb d_M_callPoints_127 rfl (fun hc => ?_) (fun hc => ?_)
      · have h := mb_f hc h
        exact zM_callPoints_b164 Cx hR hret k2 hk2 k11 hk11 (mM_callPoints_l100 k2 k11 n) ih x1 x2 x3 x4 x5 s h ls H locs (lv_sub hl [0, 1, 2, 3, 4, 5] rfl) hP hS
      · have h := mb_t hc h
        refine lv_aload_n hx hb d_M_callPoints_130 rfl (lv_at hl 0 rfl) ?_
        refine lv_iload_n hx hb d_M_callPoints_131 rfl (lv_at hl 1 rfl) ?_
        refine lv_aload_n hx hb d_M_callPoints_132 rfl (lv_at hl 0 rfl) ?_
        refine va_get (ci := 5) (C := cnM) (T := fTM) (N := 30) hx hb hts uwM hown hK hP 0 rfl rfl 2 (by decide) (hts _ wd_527) (fun _ h9 => h9) rfl d_M_callPoints_133 ?_
        refine lv_iload_n hx hb d_M_callPoints_136 rfl (lv_at hl 2 rfl) ?_
        refine mb_iald hx hb hK hP 3 0 rfl rfl h d_M_callPoints_137 (fun v5 h => ?_)
        refine lv_aload_n hx hb d_M_callPoints_138 rfl (lv_at hl 0 rfl) ?_
        refine va_get (ci := 5) (C := cnM) (T := fTM) (N := 30) hx hb hts uwM hown hK hP 0 rfl rfl 9 (by decide) (hts _ wd_534) (fun _ h9 => h9) rfl d_M_callPoints_139 ?_
        refine lv_iconst (v := (4 : Int32)) hx hb d_M_callPoints_142 (by decide) ?_
        refine lv_iload hx hb d_M_callPoints_143 (lv_at hl 4 rfl) ?_
        refine lv_imul hx hb d_M_callPoints_145 ?_
        refine lv_aload_n hx hb d_M_callPoints_146 rfl (lv_at hl 0 rfl) ?_
        refine va_get (ci := 5) (C := cnM) (T := fTM) (N := 30) hx hb hts uwM hown hK hP 0 rfl rfl 2 (by decide) (hts _ wd_527) (fun _ h9 => h9) rfl d_M_callPoints_147 ?_
        refine lv_bipush (v := (12 : Int32)) hx hb d_M_callPoints_150 (by decide) ?_
        refine lv_iload hx hb d_M_callPoints_152 (lv_at hl 4 rfl) ?_
        refine lv_imul hx hb d_M_callPoints_154 ?_
        refine lv_iload hx hb d_M_callPoints_155 (lv_at hl 5 rfl) ?_
        refine lv_iadd hx hb d_M_callPoints_157 ?_
        refine mb_iald hx hb hK hP 3 0 rfl rfl h d_M_callPoints_158 (fun v6 h => ?_)
        refine lv_iadd hx hb d_M_callPoints_159 ?_
        refine mb_iald hx hb hK hP 8 0 rfl rfl h d_M_callPoints_160 (fun v7 h => ?_)
        obtain ⟨_u, s8, hs8, h⟩ := mb_cal_ex h
        refine mb_goV Cx (mb_runV (As := [.int x1, .int v5, .int v7]) (rest := []) mb_Z0ok Cx (w_M_grow l D X cI cZ cJ hs8 H.size) (mb_cwV 3 hts wd_669 wd_671 sel_43 wd_7 wd_672 rfl rfl rfl (by decide +kernel) ⟨Nat.le_trans (by decide) hR.1, Nat.le_trans (by decide) hR.2⟩) hP hS 0 rfl rfl rfl hl.1 rfl (Nat.le_of_ble_eq_true rfl) d_M_callPoints_161) hS (fun H locs hP hS => ?_)
        exact zM_callPoints_b164 Cx hR hret k2 hk2 k11 hk11 (mM_callPoints_l100 k2 k11 n) ih x1 x2 x3 x4 x5 s8 h ls H locs (lv_sub hl [0, 1, 2, 3, 4, 5] rfl) hP hS
set_option maxRecDepth 100000 in
set_option maxHeartbeats 4000000 in
theorem zM_callPoints_b52 {p : Program} {l : Launch} {e : Env} {R : Room} {s0 : State} {m : MethodId} {args : Array Value} {below : List Frame} {meth : Method} {c : Code} {Q : State → Prop} {A : Nat → Prop} {D : va_G} {X : Nat → Nat} {cI cZ cJ : ClassId} {rv : Unit} {rs : mb_S}
    (Cx : mb_C p s0 m args meth c c_M_callPoints 6 lw_w cnM (fun _ _ => True) vwCl D [(cI, .int), (cZ, .boolean), (cJ, .long)] A (WM X cI cZ cJ)) (hR : 3 ≤ R.frames ∧ 75 ≤ R.locals)
    (hret : mb_R p l e R s0 m args below meth c Q vwCl D A (WM X cI cZ cJ) c_M_callPoints .return_ [] rs) (k2 : Int32 → Int32 → Int32 → mb_S → Option (Unit × mb_S)) (hk2 : ∀ (x1 : Int32) (x2 : Int32) (x3 : Int32) (s : mb_S), k2 x1 x2 x3 s = some (rv, rs) → mb_B p l e R s0 m args below meth c Q vwCl D A (WM X cI cZ cJ) 6 [(0, .ref (X 0)), (1, .int x1), (2, .int x2), (3, .int x3)] [] 2 s) (k11 : Int32 → Int32 → Int32 → Int32 → mb_S → Option (Unit × mb_S)) (hk11 : ∀ (x1 : Int32) (x2 : Int32) (x3 : Int32) (x4 : Int32) (s : mb_S), k11 x1 x2 x3 x4 s = some (rv, rs) → mb_B p l e R s0 m args below meth c Q vwCl D A (WM X cI cZ cJ) 6 [(0, .ref (X 0)), (1, .int x1), (2, .int x2), (3, .int x3), (4, .int x4)] [] 11 s) (x1 : Int32) (x2 : Int32) (x3 : Int32) (x4 : Int32) (y0 : Int32) (s : mb_S)
    (h : mM_callPoints_b52 k2 k11 x1 x2 x3 x4 y0 s = some (rv, rs)) : mb_B p l e R s0 m args below meth c Q vwCl D A (WM X cI cZ cJ) 6 [(0, .ref (X 0)), (1, .int x1), (2, .int x2), (3, .int x3), (4, .int x4)] [.int y0, .ref (X 0)] 52 s := by
  unfold mM_callPoints_b52 at h
  intro ls H locs hl hP hS
  have Cx0 := Cx
  obtain ⟨⟨hx, hb, hml, hown, hts⟩, hK, hD, hA, hZ⟩ := Cx0
  obtain ⟨hzs9, h⟩ := mb_putZ_ex h
  refine va_put (ci := 5) (v := .int y0) (ty := .boolean) (C := cnM) (T := fTM) (N := 30) hx hb hts uwM fyM fyM_ok fnM hown hK hP (hD _) hS 0 rfl rfl 8 (by decide) (hts _ wd_533) (fun _ h9 => h9) rfl (by decide +kernel) (mb_narZ hzs9) (mb_fitZ hzs9) (Nat.le_of_ble_eq_true rfl) d_M_callPoints_52 (fun H locs hP _ hS => ?_)
  have hP : va_P D vwCl (WM X cI cZ cJ (mb_setF s 1 y0)) H := hP
  generalize mb_setF s 1 y0 = s9 at hP h
  refine lv_aload_n hx hb d_M_callPoints_55 rfl (lv_at hl 0 rfl) ?_
  refine va_get (ci := 5) (C := cnM) (T := fTM) (N := 30) hx hb hts uwM hown hK hP 0 rfl rfl 11 (by decide) (hts _ wd_536) (fun _ h9 => h9) rfl d_M_callPoints_56 ?_
  refine lv_iload hx hb d_M_callPoints_59 (lv_at hl 4 rfl) ?_
  refine lv_iconst (v := (1 : Int32)) hx hb d_M_callPoints_61 (by decide) ?_
  refine mb_zast (WS := WM X cI cZ cJ) hx hb hK hP hD hS 10 1 rfl rfl h d_M_callPoints_62 rfl (fun H locs s10 hP hS h => ?_)
  refine lv_aload_n hx hb d_M_callPoints_63 rfl (lv_at hl 0 rfl) ?_
  refine lv_iload hx hb d_M_callPoints_64 (lv_at hl 4 rfl) ?_
  refine lv_iconst (v := (0 : Int32)) hx hb d_M_callPoints_66 (by decide) ?_
  refine lv_iconst (v := (1 : Int32)) hx hb d_M_callPoints_67 (by decide) ?_
  refine lv_iload_n hx hb d_M_callPoints_68 rfl (lv_at hl 3 rfl) ?_
  refine lv_ishl hx hb d_M_callPoints_69 ?_
  obtain ⟨_u, s11, hs11, h⟩ := mb_cal_ex h
  refine mb_goV Cx (mb_runV (As := [.int x4, .int (0 : Int32), .int ((1 : Int32) <<< (x3 &&& 31))]) (rest := []) mb_Z0ok Cx (w_M_grow l D X cI cZ cJ hs11 H.size) (mb_cwV 3 hts wd_669 wd_671 sel_43 wd_7 wd_672 rfl rfl rfl (by decide +kernel) ⟨Nat.le_trans (by decide) hR.1, Nat.le_trans (by decide) hR.2⟩) hP hS 0 rfl rfl rfl hl.1 rfl (Nat.le_of_ble_eq_true rfl) d_M_callPoints_70) hS (fun H locs hP hS => ?_)
  refine lv_aload_n hx hb d_M_callPoints_73 rfl (lv_at hl 0 rfl) ?_
  refine lv_iload hx hb d_M_callPoints_74 (lv_at hl 4 rfl) ?_
  refine lv_iconst (v := (1 : Int32)) hx hb d_M_callPoints_76 (by decide) ?_
  refine lv_aload_n hx hb d_M_callPoints_77 rfl (lv_at hl 0 rfl) ?_
  refine va_get (ci := 5) (C := cnM) (T := fTM) (N := 30) hx hb hts uwM hown hK hP 0 rfl rfl 9 (by decide) (hts _ wd_534) (fun _ h9 => h9) rfl d_M_callPoints_78 ?_
  refine lv_iconst (v := (4 : Int32)) hx hb d_M_callPoints_81 (by decide) ?_
  refine lv_iload_n hx hb d_M_callPoints_82 rfl (lv_at hl 1 rfl) ?_
  refine lv_imul hx hb d_M_callPoints_83 ?_
  refine lv_aload_n hx hb d_M_callPoints_84 rfl (lv_at hl 0 rfl) ?_
  refine va_get (ci := 5) (C := cnM) (T := fTM) (N := 30) hx hb hts uwM hown hK hP 0 rfl rfl 4 (by decide) (hts _ wd_529) (fun _ h9 => h9) rfl d_M_callPoints_85 ?_
  refine lv_iload_n hx hb d_M_callPoints_88 rfl (lv_at hl 2 rfl) ?_
  refine mb_iald hx hb hK hP 5 0 rfl rfl h d_M_callPoints_89 (fun v12 h => ?_)
  refine lv_iconst (v := (4 : Int32)) hx hb d_M_callPoints_90 (by decide) ?_
  refine lv_irem hx hb d_M_callPoints_91 (by decide) ?_
  refine lv_iadd hx hb d_M_callPoints_92 ?_
  refine mb_iald hx hb hK hP 8 0 rfl rfl h d_M_callPoints_93 (fun v13 h => ?_)
  obtain ⟨_u, s14, hs14, h⟩ := mb_cal_ex h
  refine mb_goV Cx (mb_runV (As := [.int x4, .int (1 : Int32), .int v13]) (rest := []) mb_Z0ok Cx (w_M_grow l D X cI cZ cJ hs14 H.size) (mb_cwV 3 hts wd_669 wd_671 sel_43 wd_7 wd_672 rfl rfl rfl (by decide +kernel) ⟨Nat.le_trans (by decide) hR.1, Nat.le_trans (by decide) hR.2⟩) hP hS 0 rfl rfl rfl hl.1 rfl (Nat.le_of_ble_eq_true rfl) d_M_callPoints_94) hS (fun H locs hP hS => ?_)
  refine lv_iconst (v := (0 : Int32)) hx hb d_M_callPoints_97 (by decide) ?_
  refine lv_istore (lv' := [(5, .int (0 : Int32)), (0, .ref (X 0)), (1, .int x1), (2, .int x2), (3, .int x3), (4, .int x4)]) hx hb d_M_callPoints_98 hl (by decide) rfl (fun ls hl => ?_)
  exact zM_callPoints_l100 Cx hR hret k2 hk2 k11 hk11 mb_fuel x1 x2 x3 x4 (0 : Int32) s14 h ls H locs (lv_sub hl [1, 2, 3, 4, 5, 0] rfl) hP hS
set_option maxRecDepth 100000 in
set_option maxHeartbeats 4000000 in
theorem zM_callPoints_b47 {p : Program} {l : Launch} {e : Env} {R : Room} {s0 : State} {m : MethodId} {args : Array Value} {below : List Frame} {meth : Method} {c : Code} {Q : State → Prop} {A : Nat → Prop} {D : va_G} {X : Nat → Nat} {cI cZ cJ : ClassId} {rv : Unit} {rs : mb_S}
    (Cx : mb_C p s0 m args meth c c_M_callPoints 6 lw_w cnM (fun _ _ => True) vwCl D [(cI, .int), (cZ, .boolean), (cJ, .long)] A (WM X cI cZ cJ)) (hR : 3 ≤ R.frames ∧ 75 ≤ R.locals)
    (hret : mb_R p l e R s0 m args below meth c Q vwCl D A (WM X cI cZ cJ) c_M_callPoints .return_ [] rs) (k2 : Int32 → Int32 → Int32 → mb_S → Option (Unit × mb_S)) (hk2 : ∀ (x1 : Int32) (x2 : Int32) (x3 : Int32) (s : mb_S), k2 x1 x2 x3 s = some (rv, rs) → mb_B p l e R s0 m args below meth c Q vwCl D A (WM X cI cZ cJ) 6 [(0, .ref (X 0)), (1, .int x1), (2, .int x2), (3, .int x3)] [] 2 s) (k11 : Int32 → Int32 → Int32 → Int32 → mb_S → Option (Unit × mb_S)) (hk11 : ∀ (x1 : Int32) (x2 : Int32) (x3 : Int32) (x4 : Int32) (s : mb_S), k11 x1 x2 x3 x4 s = some (rv, rs) → mb_B p l e R s0 m args below meth c Q vwCl D A (WM X cI cZ cJ) 6 [(0, .ref (X 0)), (1, .int x1), (2, .int x2), (3, .int x3), (4, .int x4)] [] 11 s) (x1 : Int32) (x2 : Int32) (x3 : Int32) (x4 : Int32) (s : mb_S)
    (h : mM_callPoints_b47 k2 k11 x1 x2 x3 x4 s = some (rv, rs)) : mb_B p l e R s0 m args below meth c Q vwCl D A (WM X cI cZ cJ) 6 [(0, .ref (X 0)), (1, .int x1), (2, .int x2), (3, .int x3), (4, .int x4)] [.ref (X 0)] 47 s := by
  unfold mM_callPoints_b47 at h
  intro ls H locs hl hP hS
  have Cx0 := Cx
  obtain ⟨⟨hx, hb, hml, hown, hts⟩, hK, hD, hA, hZ⟩ := Cx0
  refine lv_iconst (v := (1 : Int32)) hx hb d_M_callPoints_47 (by decide) ?_
  refine lv_goto hx hb d_M_callPoints_48 rfl ?_
  exact zM_callPoints_b52 Cx hR hret k2 hk2 k11 hk11 x1 x2 x3 x4 (1 : Int32) s h ls H locs (lv_sub hl [0, 1, 2, 3, 4] rfl) hP hS
set_option maxRecDepth 100000 in
set_option maxHeartbeats 4000000 in
theorem zM_callPoints_l11 {p : Program} {l : Launch} {e : Env} {R : Room} {s0 : State} {m : MethodId} {args : Array Value} {below : List Frame} {meth : Method} {c : Code} {Q : State → Prop} {A : Nat → Prop} {D : va_G} {X : Nat → Nat} {cI cZ cJ : ClassId} {rv : Unit} {rs : mb_S}
    (Cx : mb_C p s0 m args meth c c_M_callPoints 6 lw_w cnM (fun _ _ => True) vwCl D [(cI, .int), (cZ, .boolean), (cJ, .long)] A (WM X cI cZ cJ)) (hR : 3 ≤ R.frames ∧ 75 ≤ R.locals)
    (hret : mb_R p l e R s0 m args below meth c Q vwCl D A (WM X cI cZ cJ) c_M_callPoints .return_ [] rs) (k2 : Int32 → Int32 → Int32 → mb_S → Option (Unit × mb_S)) (hk2 : ∀ (x1 : Int32) (x2 : Int32) (x3 : Int32) (s : mb_S), k2 x1 x2 x3 s = some (rv, rs) → mb_B p l e R s0 m args below meth c Q vwCl D A (WM X cI cZ cJ) 6 [(0, .ref (X 0)), (1, .int x1), (2, .int x2), (3, .int x3)] [] 2 s) :
    ∀ (n : Nat) (x1 : Int32) (x2 : Int32) (x3 : Int32) (x4 : Int32) (s : mb_S), mM_callPoints_l11 k2 n x1 x2 x3 x4 s = some (rv, rs) → mb_B p l e R s0 m args below meth c Q vwCl D A (WM X cI cZ cJ) 6 [(0, .ref (X 0)), (1, .int x1), (2, .int x2), (3, .int x3), (4, .int x4)] [] 11 s := by
  intro n
  induction n with
  | zero => intro x1 x2 x3 x4 s h; cases h
  | succ n ih =>
    intro x1 x2 x3 x4 s h
    rw [mM_callPoints_l11_s] at h
    intro ls H locs hl hP hS
    have Cx0 := Cx
    obtain ⟨⟨hx, hb, hml, hown, hts⟩, hK, hD, hA, hZ⟩ := Cx0
    refine lv_iload hx hb d_M_callPoints_11 (lv_at hl 4 rfl) ?_
    refine lv_bipush (v := (6 : Int32)) hx hb d_M_callPoints_13 (by decide) ?_
    refine lv_icmp_ge hx hb d_M_callPoints_15 rfl (fun hc => ?_) (fun hc => ?_)
    · have h := mb_t hc h
      obtain ⟨v15, ev15, h⟩ := mb_ex h
      refine lv_iinc (k := 3) (v := v15) (lv' := [(3, .int v15), (0, .ref (X 0)), (1, .int x1), (2, .int x2), (4, .int x4)]) hx hb d_M_callPoints_176 hl rfl ev15 (by decide) rfl (fun ls hl => ?_)
      refine lv_goto hx hb d_M_callPoints_179 rfl ?_
      exact hk2 x1 x2 v15 s h ls H locs (lv_sub hl [1, 2, 3, 0] rfl) hP hS
    · have h := mb_f hc h
      refine lv_aload_n hx hb d_M_callPoints_18 rfl (lv_at hl 0 rfl) ?_
      refine lv_iload_n hx hb d_M_callPoints_19 rfl (lv_at hl 2 rfl) ?_
      refine lv_iload_n hx hb d_M_callPoints_20 rfl (lv_at hl 3 rfl) ?_
      refine lv_iload hx hb d_M_callPoints_21 (lv_at hl 4 rfl) ?_
      obtain ⟨v16, s17, hs17, h⟩ := mb_cal_ex h
      refine mb_goI Cx (mb_runV (As := [.int x2, .int x3, .int x4]) (rest := []) mb_Z0ok Cx (w_M_calls l D X cI cZ cJ hs17 H.size) (mb_cwV 3 hts wd_677 wd_679 sel_45 wd_7 wd_680 rfl rfl rfl (by decide +kernel) ⟨Nat.le_trans (by decide) hR.1, Nat.le_trans (by decide) hR.2⟩) hP hS 0 rfl rfl rfl hl.1 rfl (Nat.le_of_ble_eq_true rfl) d_M_callPoints_23) hS (fun H locs hP hS => ?_)
      refine lv_if_eq hx hb d_M_callPoints_26 rfl (fun hc => ?_) (fun hc => ?_)
      · have h := mb_t hc h
        exact zM_callPoints_b170 Cx hR hret k2 hk2 (mM_callPoints_l11 k2 n) ih x1 x2 x3 x4 s17 h ls H locs (lv_sub hl [0, 1, 2, 3, 4] rfl) hP hS
      · have h := mb_f hc h
        refine lv_aload_n hx hb d_M_callPoints_29 rfl (lv_at hl 0 rfl) ?_
        refine lv_aload_n hx hb d_M_callPoints_30 rfl (lv_at hl 0 rfl) ?_
        refine va_get (ci := 5) (C := cnM) (T := fTM) (N := 30) hx hb hts uwM hown hK hP 0 rfl rfl 8 (by decide) (hts _ wd_533) (fun _ h9 => h9) rfl d_M_callPoints_31 ?_
        refine lv_if_ne hx hb d_M_callPoints_34 rfl (fun hc => ?_) (fun hc => ?_)
        · have h := mb_f hc h
          exact zM_callPoints_b47 Cx hR hret k2 hk2 (mM_callPoints_l11 k2 n) ih x1 x2 x3 x4 s17 h ls H locs (lv_sub hl [0, 1, 2, 3, 4] rfl) hP hS
        · have h := mb_t hc h
          refine lv_aload_n hx hb d_M_callPoints_37 rfl (lv_at hl 0 rfl) ?_
          refine va_get (ci := 5) (C := cnM) (T := fTM) (N := 30) hx hb hts uwM hown hK hP 0 rfl rfl 11 (by decide) (hts _ wd_536) (fun _ h9 => h9) rfl d_M_callPoints_38 ?_
          refine lv_iload hx hb d_M_callPoints_41 (lv_at hl 4 rfl) ?_
          refine mb_zald hx hb hK hP 10 1 rfl rfl h d_M_callPoints_43 (fun v18 h => ?_)
          refine lv_if_ne hx hb d_M_callPoints_44 rfl (fun hc => ?_) (fun hc => ?_)
          · have h := mb_f hc h
            refine lv_iconst (v := (0 : Int32)) hx hb d_M_callPoints_51 (by decide) ?_
            exact zM_callPoints_b52 Cx hR hret k2 hk2 (mM_callPoints_l11 k2 n) ih x1 x2 x3 x4 (0 : Int32) s17 h ls H locs (lv_sub hl [0, 1, 2, 3, 4] rfl) hP hS
          · have h := mb_t hc h
            exact zM_callPoints_b47 Cx hR hret k2 hk2 (mM_callPoints_l11 k2 n) ih x1 x2 x3 x4 s17 h ls H locs (lv_sub hl [0, 1, 2, 3, 4] rfl) hP hS
set_option maxRecDepth 100000 in
set_option maxHeartbeats 4000000 in
theorem zM_callPoints_l2 {p : Program} {l : Launch} {e : Env} {R : Room} {s0 : State} {m : MethodId} {args : Array Value} {below : List Frame} {meth : Method} {c : Code} {Q : State → Prop} {A : Nat → Prop} {D : va_G} {X : Nat → Nat} {cI cZ cJ : ClassId} {rv : Unit} {rs : mb_S}
    (Cx : mb_C p s0 m args meth c c_M_callPoints 6 lw_w cnM (fun _ _ => True) vwCl D [(cI, .int), (cZ, .boolean), (cJ, .long)] A (WM X cI cZ cJ)) (hR : 3 ≤ R.frames ∧ 75 ≤ R.locals)
    (hret : mb_R p l e R s0 m args below meth c Q vwCl D A (WM X cI cZ cJ) c_M_callPoints .return_ [] rs)  :
    ∀ (n : Nat) (x1 : Int32) (x2 : Int32) (x3 : Int32) (s : mb_S), mM_callPoints_l2  n x1 x2 x3 s = some (rv, rs) → mb_B p l e R s0 m args below meth c Q vwCl D A (WM X cI cZ cJ) 6 [(0, .ref (X 0)), (1, .int x1), (2, .int x2), (3, .int x3)] [] 2 s := by
  intro n
  induction n with
  | zero => intro x1 x2 x3 s h; cases h
  | succ n ih =>
    intro x1 x2 x3 s h
    rw [mM_callPoints_l2_s] at h
    intro ls H locs hl hP hS
    have Cx0 := Cx
    obtain ⟨⟨hx, hb, hml, hown, hts⟩, hK, hD, hA, hZ⟩ := Cx0
    refine lv_iload_n hx hb d_M_callPoints_2 rfl (lv_at hl 3 rfl) ?_
    refine lv_bipush (v := (6 : Int32)) hx hb d_M_callPoints_3 (by decide) ?_
    refine lv_icmp_ge hx hb d_M_callPoints_5 rfl (fun hc => ?_) (fun hc => ?_)
    · have h := mb_t hc h
      exact mb_eV hret h d_M_callPoints_182 hP hS
    · have h := mb_f hc h
      refine lv_iconst (v := (0 : Int32)) hx hb d_M_callPoints_8 (by decide) ?_
      refine lv_istore (lv' := [(4, .int (0 : Int32)), (0, .ref (X 0)), (1, .int x1), (2, .int x2), (3, .int x3)]) hx hb d_M_callPoints_9 hl (by decide) rfl (fun ls hl => ?_)
      exact zM_callPoints_l11 Cx hR hret (mM_callPoints_l2  n) ih mb_fuel x1 x2 x3 (0 : Int32) s h ls H locs (lv_sub hl [1, 2, 3, 4, 0] rfl) hP hS
set_option maxRecDepth 100000 in
set_option maxHeartbeats 4000000 in
theorem w_M_callPoints (l : Launch) (D : va_G) (X : Nat → Nat) (cI cZ cJ : ClassId) {x1 : Int32} {x2 : Int32} {s : mb_S} {rv : Unit} {rs : mb_S}
    (h : mM_callPoints x1 x2 s = some (rv, rs)) : mb_MV l y_M_callPoints ws_M_callPoints rm_M_callPoints (fun _ _ => True) vwCl D [(cI, .int), (cZ, .boolean), (cJ, .long)] (WM X cI cZ cJ) [.ref (X 0), .int x1, .int x2] s rs := by
  refine mb_ofV mb_Z0ok (by decide) rfl (Nat.le_of_ble_eq_true rfl) mb_DMok ?_
  intro p e s0 m args below meth c Q A Cx hret
  have hR : 3 ≤ (rm_M_callPoints).frames ∧ 75 ≤ (rm_M_callPoints).locals := ⟨Nat.le_refl _, Nat.le_refl _⟩
  intro ls H locs hl hP hS
  have Cx0 := Cx
  obtain ⟨⟨hx, hb, hml, hown, hts⟩, hK, hD, hA, hZ⟩ := Cx0
  have hl : lv_has ls 6 [(0, .ref (X 0)), (1, .int x1), (2, .int x2)] := hl
  unfold mM_callPoints at h
  refine lv_iconst (v := (0 : Int32)) hx hb d_M_callPoints_0 (by decide) ?_
  refine lv_istore_n (lv' := [(3, .int (0 : Int32)), (0, .ref (X 0)), (1, .int x1), (2, .int x2)]) hx hb d_M_callPoints_1 rfl hl (by decide) rfl (fun ls hl => ?_)
  exact zM_callPoints_l2 Cx hR hret  mb_fuel x1 x2 (0 : Int32) s h ls H locs (lv_sub hl [1, 2, 3, 0] rfl) hP hS
set_option maxRecDepth 100000 in
set_option maxHeartbeats 4000000 in
theorem zM_pointsOf_b269 {p : Program} {l : Launch} {e : Env} {R : Room} {s0 : State} {m : MethodId} {args : Array Value} {below : List Frame} {meth : Method} {c : Code} {Q : State → Prop} {A : Nat → Prop} {D : va_G} {X : Nat → Nat} {cI cZ cJ : ClassId} {rv : Unit} {rs : mb_S}
    (Cx : mb_C p s0 m args meth c c_M_pointsOf 10 lw_w cnM (fun _ _ => True) vwCl D [(cI, .int), (cZ, .boolean), (cJ, .long)] A (WM X cI cZ cJ)) (hR : 4 ≤ R.frames ∧ 100 ≤ R.locals)
    (hret : mb_R p l e R s0 m args below meth c Q vwCl D A (WM X cI cZ cJ) c_M_pointsOf .return_ [] rs)   (s : mb_S)
    (h : mM_pointsOf_b269  s = some (rv, rs)) : mb_B p l e R s0 m args below meth c Q vwCl D A (WM X cI cZ cJ) 10 [] [] 269 s := by
  unfold mM_pointsOf_b269 at h
  intro ls H locs hl hP hS
  have Cx0 := Cx
  obtain ⟨⟨hx, hb, hml, hown, hts⟩, hK, hD, hA, hZ⟩ := Cx0
  exact mb_eV hret h d_M_pointsOf_269 hP hS
set_option maxRecDepth 100000 in
set_option maxHeartbeats 4000000 in
theorem zM_pointsOf_b263 {p : Program} {l : Launch} {e : Env} {R : Room} {s0 : State} {m : MethodId} {args : Array Value} {below : List Frame} {meth : Method} {c : Code} {Q : State → Prop} {A : Nat → Prop} {D : va_G} {X : Nat → Nat} {cI cZ cJ : ClassId} {rv : Unit} {rs : mb_S}
    (Cx : mb_C p s0 m args meth c c_M_pointsOf 10 lw_w cnM (fun _ _ => True) vwCl D [(cI, .int), (cZ, .boolean), (cJ, .long)] A (WM X cI cZ cJ)) (hR : 4 ≤ R.frames ∧ 100 ≤ R.locals)
    (hret : mb_R p l e R s0 m args below meth c Q vwCl D A (WM X cI cZ cJ) c_M_pointsOf .return_ [] rs) (k118 : Int32 → Int32 → Int32 → Int32 → Int32 → Int32 → mb_S → Option (Unit × mb_S)) (hk118 : ∀ (x1 : Int32) (x3 : Int32) (x4 : Int32) (x5 : Int32) (x6 : Int32) (x7 : Int32) (s : mb_S), k118 x1 x3 x4 x5 x6 x7 s = some (rv, rs) → mb_B p l e R s0 m args below meth c Q vwCl D A (WM X cI cZ cJ) 10 [(0, .ref (X 0)), (1, .int x1), (3, .int x3), (4, .int x4), (5, .int x5), (6, .int x6), (7, .int x7)] [] 118 s) (x1 : Int32) (x3 : Int32) (x4 : Int32) (x5 : Int32) (x6 : Int32) (x7 : Int32) (s : mb_S)
    (h : mM_pointsOf_b263 k118 x1 x3 x4 x5 x6 x7 s = some (rv, rs)) : mb_B p l e R s0 m args below meth c Q vwCl D A (WM X cI cZ cJ) 10 [(0, .ref (X 0)), (1, .int x1), (3, .int x3), (4, .int x4), (5, .int x5), (6, .int x6), (7, .int x7)] [] 263 s := by
  unfold mM_pointsOf_b263 at h
  intro ls H locs hl hP hS
  have Cx0 := Cx
  obtain ⟨⟨hx, hb, hml, hown, hts⟩, hK, hD, hA, hZ⟩ := Cx0
  obtain ⟨v1, ev1, h⟩ := mb_ex h
  refine lv_iinc (k := 6) (v := v1) (lv' := [(7, .int v1), (0, .ref (X 0)), (1, .int x1), (3, .int x3), (4, .int x4), (5, .int x5), (6, .int x6)]) hx hb d_M_pointsOf_263 hl rfl ev1 (by decide) rfl (fun ls hl => ?_)
  refine lv_goto hx hb d_M_pointsOf_266 rfl ?_
  exact hk118 x1 x3 x4 x5 x6 v1 s h ls H locs (lv_sub hl [1, 2, 3, 4, 5, 6, 0] rfl) hP hS
set_option maxRecDepth 100000 in
set_option maxHeartbeats 4000000 in
theorem zM_pointsOf_b260 {p : Program} {l : Launch} {e : Env} {R : Room} {s0 : State} {m : MethodId} {args : Array Value} {below : List Frame} {meth : Method} {c : Code} {Q : State → Prop} {A : Nat → Prop} {D : va_G} {X : Nat → Nat} {cI cZ cJ : ClassId} {rv : Unit} {rs : mb_S}
    (Cx : mb_C p s0 m args meth c c_M_pointsOf 10 lw_w cnM (fun _ _ => True) vwCl D [(cI, .int), (cZ, .boolean), (cJ, .long)] A (WM X cI cZ cJ)) (hR : 4 ≤ R.frames ∧ 100 ≤ R.locals)
    (hret : mb_R p l e R s0 m args below meth c Q vwCl D A (WM X cI cZ cJ) c_M_pointsOf .return_ [] rs) (k118 : Int32 → Int32 → Int32 → Int32 → Int32 → Int32 → mb_S → Option (Unit × mb_S)) (hk118 : ∀ (x1 : Int32) (x3 : Int32) (x4 : Int32) (x5 : Int32) (x6 : Int32) (x7 : Int32) (s : mb_S), k118 x1 x3 x4 x5 x6 x7 s = some (rv, rs) → mb_B p l e R s0 m args below meth c Q vwCl D A (WM X cI cZ cJ) 10 [(0, .ref (X 0)), (1, .int x1), (3, .int x3), (4, .int x4), (5, .int x5), (6, .int x6), (7, .int x7)] [] 118 s) (x1 : Int32) (x3 : Int32) (x4 : Int32) (x5 : Int32) (x6 : Int32) (x7 : Int32) (y0 : Int32) (s : mb_S)
    (h : mM_pointsOf_b260 k118 x1 x3 x4 x5 x6 x7 y0 s = some (rv, rs)) : mb_B p l e R s0 m args below meth c Q vwCl D A (WM X cI cZ cJ) 10 [(0, .ref (X 0)), (1, .int x1), (3, .int x3), (4, .int x4), (5, .int x5), (6, .int x6), (7, .int x7)] [.int y0, .ref (X 0)] 260 s := by
  unfold mM_pointsOf_b260 at h
  intro ls H locs hl hP hS
  have Cx0 := Cx
  obtain ⟨⟨hx, hb, hml, hown, hts⟩, hK, hD, hA, hZ⟩ := Cx0
  obtain ⟨hzs2, h⟩ := mb_putZ_ex h
  refine va_put (ci := 5) (v := .int y0) (ty := .boolean) (C := cnM) (T := fTM) (N := 30) hx hb hts uwM fyM fyM_ok fnM hown hK hP (hD _) hS 0 rfl rfl 8 (by decide) (hts _ wd_533) (fun _ h9 => h9) rfl (by decide +kernel) (mb_narZ hzs2) (mb_fitZ hzs2) (Nat.le_of_ble_eq_true rfl) d_M_pointsOf_260 (fun H locs hP _ hS => ?_)
  have hP : va_P D vwCl (WM X cI cZ cJ (mb_setF s 1 y0)) H := hP
  generalize mb_setF s 1 y0 = s2 at hP h
  exact zM_pointsOf_b263 Cx hR hret k118 hk118 x1 x3 x4 x5 x6 x7 s2 h ls H locs (lv_sub hl [0, 1, 2, 3, 4, 5, 6] rfl) hP hS
set_option maxRecDepth 100000 in
set_option maxHeartbeats 4000000 in
theorem zM_pointsOf_b255 {p : Program} {l : Launch} {e : Env} {R : Room} {s0 : State} {m : MethodId} {args : Array Value} {below : List Frame} {meth : Method} {c : Code} {Q : State → Prop} {A : Nat → Prop} {D : va_G} {X : Nat → Nat} {cI cZ cJ : ClassId} {rv : Unit} {rs : mb_S}
    (Cx : mb_C p s0 m args meth c c_M_pointsOf 10 lw_w cnM (fun _ _ => True) vwCl D [(cI, .int), (cZ, .boolean), (cJ, .long)] A (WM X cI cZ cJ)) (hR : 4 ≤ R.frames ∧ 100 ≤ R.locals)
    (hret : mb_R p l e R s0 m args below meth c Q vwCl D A (WM X cI cZ cJ) c_M_pointsOf .return_ [] rs) (k118 : Int32 → Int32 → Int32 → Int32 → Int32 → Int32 → mb_S → Option (Unit × mb_S)) (hk118 : ∀ (x1 : Int32) (x3 : Int32) (x4 : Int32) (x5 : Int32) (x6 : Int32) (x7 : Int32) (s : mb_S), k118 x1 x3 x4 x5 x6 x7 s = some (rv, rs) → mb_B p l e R s0 m args below meth c Q vwCl D A (WM X cI cZ cJ) 10 [(0, .ref (X 0)), (1, .int x1), (3, .int x3), (4, .int x4), (5, .int x5), (6, .int x6), (7, .int x7)] [] 118 s) (x1 : Int32) (x3 : Int32) (x4 : Int32) (x5 : Int32) (x6 : Int32) (x7 : Int32) (s : mb_S)
    (h : mM_pointsOf_b255 k118 x1 x3 x4 x5 x6 x7 s = some (rv, rs)) : mb_B p l e R s0 m args below meth c Q vwCl D A (WM X cI cZ cJ) 10 [(0, .ref (X 0)), (1, .int x1), (3, .int x3), (4, .int x4), (5, .int x5), (6, .int x6), (7, .int x7)] [.ref (X 0)] 255 s := by
  unfold mM_pointsOf_b255 at h
  intro ls H locs hl hP hS
  have Cx0 := Cx
  obtain ⟨⟨hx, hb, hml, hown, hts⟩, hK, hD, hA, hZ⟩ := Cx0
  refine lv_iconst (v := (1 : Int32)) hx hb d_M_pointsOf_255 (by decide) ?_
  refine lv_goto hx hb d_M_pointsOf_256 rfl ?_
  exact zM_pointsOf_b260 Cx hR hret k118 hk118 x1 x3 x4 x5 x6 x7 (1 : Int32) s h ls H locs (lv_sub hl [0, 1, 2, 3, 4, 5, 6] rfl) hP hS
set_option maxRecDepth 100000 in
set_option maxHeartbeats 4000000 in
theorem zM_pointsOf_b178 {p : Program} {l : Launch} {e : Env} {R : Room} {s0 : State} {m : MethodId} {args : Array Value} {below : List Frame} {meth : Method} {c : Code} {Q : State → Prop} {A : Nat → Prop} {D : va_G} {X : Nat → Nat} {cI cZ cJ : ClassId} {rv : Unit} {rs : mb_S}
    (Cx : mb_C p s0 m args meth c c_M_pointsOf 10 lw_w cnM (fun _ _ => True) vwCl D [(cI, .int), (cZ, .boolean), (cJ, .long)] A (WM X cI cZ cJ)) (hR : 4 ≤ R.frames ∧ 100 ≤ R.locals)
    (hret : mb_R p l e R s0 m args below meth c Q vwCl D A (WM X cI cZ cJ) c_M_pointsOf .return_ [] rs) (k118 : Int32 → Int32 → Int32 → Int32 → Int32 → Int32 → mb_S → Option (Unit × mb_S)) (hk118 : ∀ (x1 : Int32) (x3 : Int32) (x4 : Int32) (x5 : Int32) (x6 : Int32) (x7 : Int32) (s : mb_S), k118 x1 x3 x4 x5 x6 x7 s = some (rv, rs) → mb_B p l e R s0 m args below meth c Q vwCl D A (WM X cI cZ cJ) 10 [(0, .ref (X 0)), (1, .int x1), (3, .int x3), (4, .int x4), (5, .int x5), (6, .int x6), (7, .int x7)] [] 118 s) (x1 : Int32) (x3 : Int32) (x4 : Int32) (x5 : Int32) (x6 : Int32) (x7 : Int32) (x8 : Int32) (s : mb_S)
    (h : mM_pointsOf_b178 k118 x1 x3 x4 x5 x6 x7 x8 s = some (rv, rs)) : mb_B p l e R s0 m args below meth c Q vwCl D A (WM X cI cZ cJ) 10 [(0, .ref (X 0)), (1, .int x1), (3, .int x3), (4, .int x4), (5, .int x5), (6, .int x6), (7, .int x7), (8, .int x8)] [] 178 s := by
  unfold mM_pointsOf_b178 at h
  intro ls H locs hl hP hS
  have Cx0 := Cx
  obtain ⟨⟨hx, hb, hml, hown, hts⟩, hK, hD, hA, hZ⟩ := Cx0
  refine lv_iload hx hb d_M_pointsOf_178 (lv_at hl 3 rfl) ?_
  refine lv_bipush (v := (6 : Int32)) hx hb d_M_pointsOf_180 (by decide) ?_
  refine lv_icmp_ne hx hb d_M_pointsOf_182 rfl (fun hc => ?_) (fun hc => ?_)
  · have h := mb_f hc h
    exact zM_pointsOf_b263 Cx hR hret k118 hk118 x1 x3 x4 x5 x6 x7 s h ls H locs (lv_sub hl [0, 1, 2, 3, 4, 5, 6] rfl) hP hS
  · have h := mb_t hc h
    refine lv_aload_n hx hb d_M_pointsOf_185 rfl (lv_at hl 0 rfl) ?_
    refine va_get (ci := 5) (C := cnM) (T := fTM) (N := 30) hx hb hts uwM hown hK hP 0 rfl rfl 9 (by decide) (hts _ wd_534) (fun _ h9 => h9) rfl d_M_pointsOf_186 ?_
    refine lv_iconst (v := (4 : Int32)) hx hb d_M_pointsOf_189 (by decide) ?_
    refine lv_iload_n hx hb d_M_pointsOf_190 rfl (lv_at hl 1 rfl) ?_
    refine lv_imul hx hb d_M_pointsOf_191 ?_
    refine lv_iload hx hb d_M_pointsOf_192 (lv_at hl 4 rfl) ?_
    refine lv_iadd hx hb d_M_pointsOf_194 ?_
    refine mb_iald hx hb hK hP 8 0 rfl rfl h d_M_pointsOf_195 (fun v3 h => ?_)
    refine lv_iload hx hb d_M_pointsOf_196 (lv_at hl 6 rfl) ?_
    refine lv_ishr hx hb d_M_pointsOf_198 ?_
    refine lv_iconst (v := (1 : Int32)) hx hb d_M_pointsOf_199 (by decide) ?_
    refine lv_iand hx hb d_M_pointsOf_200 ?_
    refine lv_iconst (v := (1 : Int32)) hx hb d_M_pointsOf_201 (by decide) ?_
    refine lv_icmp_ne hx hb d_M_pointsOf_202 rfl (fun hc => ?_) (fun hc => ?_)
    · have h := mb_f hc h
      exact zM_pointsOf_b263 Cx hR hret k118 hk118 x1 x3 x4 x5 x6 x7 s h ls H locs (lv_sub hl [0, 1, 2, 3, 4, 5, 6] rfl) hP hS
    · have h := mb_t hc h
      refine lv_aload_n hx hb d_M_pointsOf_205 rfl (lv_at hl 0 rfl) ?_
      refine va_get (ci := 5) (C := cnM) (T := fTM) (N := 30) hx hb hts uwM hown hK hP 0 rfl rfl 10 (by decide) (hts _ wd_535) (fun _ h9 => h9) rfl d_M_pointsOf_206 ?_
      refine lv_iload hx hb d_M_pointsOf_209 (lv_at hl 7 rfl) ?_
      refine mb_iald hx hb hK hP 9 0 rfl rfl h d_M_pointsOf_211 (fun v4 h => ?_)
      refine lv_istore (lv' := [(9, .int v4), (0, .ref (X 0)), (1, .int x1), (3, .int x3), (4, .int x4), (5, .int x5), (6, .int x6), (7, .int x7), (8, .int x8)]) hx hb d_M_pointsOf_212 hl (by decide) rfl (fun ls hl => ?_)
      refine lv_aload_n hx hb d_M_pointsOf_214 rfl (lv_at hl 1 rfl) ?_
      refine va_get (ci := 5) (C := cnM) (T := fTM) (N := 30) hx hb hts uwM hown hK hP 0 rfl rfl 10 (by decide) (hts _ wd_535) (fun _ h9 => h9) rfl d_M_pointsOf_215 ?_
      refine lv_iload hx hb d_M_pointsOf_218 (lv_at hl 8 rfl) ?_
      refine lv_iload hx hb d_M_pointsOf_220 (lv_at hl 0 rfl) ?_
      refine lv_aload_n hx hb d_M_pointsOf_222 rfl (lv_at hl 1 rfl) ?_
      refine va_get (ci := 5) (C := cnM) (T := fTM) (N := 30) hx hb hts uwM hown hK hP 0 rfl rfl 9 (by decide) (hts _ wd_534) (fun _ h9 => h9) rfl d_M_pointsOf_223 ?_
      refine lv_iconst (v := (4 : Int32)) hx hb d_M_pointsOf_226 (by decide) ?_
      refine lv_iload_n hx hb d_M_pointsOf_227 rfl (lv_at hl 2 rfl) ?_
      refine lv_imul hx hb d_M_pointsOf_228 ?_
      refine lv_iload hx hb d_M_pointsOf_229 (lv_at hl 6 rfl) ?_
      refine lv_iadd hx hb d_M_pointsOf_231 ?_
      refine mb_iald hx hb hK hP 8 0 rfl rfl h d_M_pointsOf_232 (fun v5 h => ?_)
      refine lv_ior hx hb d_M_pointsOf_233 ?_
      refine mb_iast (WS := WM X cI cZ cJ) hx hb hK hP hD hS 9 0 rfl rfl h d_M_pointsOf_234 rfl (fun H locs s6 hP hS h => ?_)
      refine lv_aload_n hx hb d_M_pointsOf_235 rfl (lv_at hl 1 rfl) ?_
      refine lv_aload_n hx hb d_M_pointsOf_236 rfl (lv_at hl 1 rfl) ?_
      refine va_get (ci := 5) (C := cnM) (T := fTM) (N := 30) hx hb hts uwM hown hK hP 0 rfl rfl 8 (by decide) (hts _ wd_533) (fun _ h9 => h9) rfl d_M_pointsOf_237 ?_
      refine lv_if_ne hx hb d_M_pointsOf_240 rfl (fun hc => ?_) (fun hc => ?_)
      · have h := mb_f hc h
        exact zM_pointsOf_b255 Cx hR hret k118 hk118 x1 x3 x4 x5 x6 x7 s6 h ls H locs (lv_sub hl [1, 2, 3, 4, 5, 6, 7] rfl) hP hS
      · have h := mb_t hc h
        refine lv_aload_n hx hb d_M_pointsOf_243 rfl (lv_at hl 1 rfl) ?_
        refine va_get (ci := 5) (C := cnM) (T := fTM) (N := 30) hx hb hts uwM hown hK hP 0 rfl rfl 10 (by decide) (hts _ wd_535) (fun _ h9 => h9) rfl d_M_pointsOf_244 ?_
        refine lv_iload hx hb d_M_pointsOf_247 (lv_at hl 8 rfl) ?_
        refine mb_iald hx hb hK hP 9 0 rfl rfl h d_M_pointsOf_249 (fun v7 h => ?_)
        refine lv_iload hx hb d_M_pointsOf_250 (lv_at hl 0 rfl) ?_
        refine lv_icmp_eq hx hb d_M_pointsOf_252 rfl (fun hc => ?_) (fun hc => ?_)
        · have h := mb_t hc h
          refine lv_iconst (v := (0 : Int32)) hx hb d_M_pointsOf_259 (by decide) ?_
          exact zM_pointsOf_b260 Cx hR hret k118 hk118 x1 x3 x4 x5 x6 x7 (0 : Int32) s6 h ls H locs (lv_sub hl [1, 2, 3, 4, 5, 6, 7] rfl) hP hS
        · have h := mb_f hc h
          exact zM_pointsOf_b255 Cx hR hret k118 hk118 x1 x3 x4 x5 x6 x7 s6 h ls H locs (lv_sub hl [1, 2, 3, 4, 5, 6, 7] rfl) hP hS
set_option maxRecDepth 100000 in
set_option maxHeartbeats 4000000 in
theorem zM_pointsOf_l118 {p : Program} {l : Launch} {e : Env} {R : Room} {s0 : State} {m : MethodId} {args : Array Value} {below : List Frame} {meth : Method} {c : Code} {Q : State → Prop} {A : Nat → Prop} {D : va_G} {X : Nat → Nat} {cI cZ cJ : ClassId} {rv : Unit} {rs : mb_S}
    (Cx : mb_C p s0 m args meth c c_M_pointsOf 10 lw_w cnM (fun _ _ => True) vwCl D [(cI, .int), (cZ, .boolean), (cJ, .long)] A (WM X cI cZ cJ)) (hR : 4 ≤ R.frames ∧ 100 ≤ R.locals)
    (hret : mb_R p l e R s0 m args below meth c Q vwCl D A (WM X cI cZ cJ) c_M_pointsOf .return_ [] rs)  :
    ∀ (n : Nat) (x1 : Int32) (x3 : Int32) (x4 : Int32) (x5 : Int32) (x6 : Int32) (x7 : Int32) (s : mb_S), mM_pointsOf_l118  n x1 x3 x4 x5 x6 x7 s = some (rv, rs) → mb_B p l e R s0 m args below meth c Q vwCl D A (WM X cI cZ cJ) 10 [(0, .ref (X 0)), (1, .int x1), (3, .int x3), (4, .int x4), (5, .int x5), (6, .int x6), (7, .int x7)] [] 118 s := by
  intro n
  induction n with
  | zero => intro x1 x3 x4 x5 x6 x7 s h; cases h
  | succ n ih =>
    intro x1 x3 x4 x5 x6 x7 s h
    rw [mM_pointsOf_l118_s] at h
    intro ls H locs hl hP hS
    have Cx0 := Cx
    obtain ⟨⟨hx, hb, hml, hown, hts⟩, hK, hD, hA, hZ⟩ := Cx0
    refine lv_iload hx hb d_M_pointsOf_118 (lv_at hl 6 rfl) ?_
    refine lv_bipush (v := (6 : Int32)) hx hb d_M_pointsOf_120 (by decide) ?_
    refine lv_icmp_ge hx hb d_M_pointsOf_122 rfl (fun hc => ?_) (fun hc => ?_)
    · have h := mb_t hc h
      exact zM_pointsOf_b269 Cx hR hret  s h ls H locs (lv_sub hl [] rfl) hP hS
    · have h := mb_f hc h
      refine lv_iconst (v := (2 : Int32)) hx hb d_M_pointsOf_125 (by decide) ?_
      refine lv_iload hx hb d_M_pointsOf_126 (lv_at hl 6 rfl) ?_
      refine lv_imul hx hb d_M_pointsOf_128 ?_
      refine lv_aload_n hx hb d_M_pointsOf_129 rfl (lv_at hl 0 rfl) ?_
      refine va_get (ci := 5) (C := cnM) (T := fTM) (N := 30) hx hb hts uwM hown hK hP 0 rfl rfl 4 (by decide) (hts _ wd_529) (fun _ h9 => h9) rfl d_M_pointsOf_130 ?_
      refine lv_iload_n hx hb d_M_pointsOf_133 rfl (lv_at hl 2 rfl) ?_
      refine mb_iald hx hb hK hP 5 0 rfl rfl h d_M_pointsOf_134 (fun v8 h => ?_)
      refine lv_iadd hx hb d_M_pointsOf_135 ?_
      refine lv_topi (fun v9 ev9 => ?_)
      have h := mb_at ev9 h
      refine lv_istore (lv' := [(8, .int v9), (0, .ref (X 0)), (1, .int x1), (3, .int x3), (4, .int x4), (5, .int x5), (6, .int x6), (7, .int x7)]) hx hb d_M_pointsOf_136 hl (by decide) rfl (fun ls hl => ?_)
      refine lv_iload hx hb d_M_pointsOf_138 (lv_at hl 4 rfl) ?_
      refine lv_iconst (v := (5 : Int32)) hx hb d_M_pointsOf_140 (by decide) ?_
      refine lv_icmp_ne hx hb d_M_pointsOf_141 rfl (fun hc => ?_) (fun hc => ?_)
      · have h := mb_f hc h
        exact zM_pointsOf_b178 Cx hR hret (mM_pointsOf_l118  n) ih x1 x3 x4 x5 x6 x7 v9 s h ls H locs (lv_sub hl [1, 2, 3, 4, 5, 6, 7, 0] rfl) hP hS
      · have h := mb_t hc h
        refine lv_aload_n hx hb d_M_pointsOf_144 rfl (lv_at hl 1 rfl) ?_
        refine va_get (ci := 5) (C := cnM) (T := fTM) (N := 30) hx hb hts uwM hown hK hP 0 rfl rfl 9 (by decide) (hts _ wd_534) (fun _ h9 => h9) rfl d_M_pointsOf_145 ?_
        refine lv_iconst (v := (4 : Int32)) hx hb d_M_pointsOf_148 (by decide) ?_
        refine lv_iload_n hx hb d_M_pointsOf_149 rfl (lv_at hl 2 rfl) ?_
        refine lv_imul hx hb d_M_pointsOf_150 ?_
        refine lv_iload hx hb d_M_pointsOf_151 (lv_at hl 6 rfl) ?_
        refine lv_iadd hx hb d_M_pointsOf_153 ?_
        refine mb_iald hx hb hK hP 8 0 rfl rfl h d_M_pointsOf_154 (fun v10 h => ?_)
        refine lv_iload hx hb d_M_pointsOf_155 (lv_at hl 7 rfl) ?_
        refine lv_ishr hx hb d_M_pointsOf_157 ?_
        refine lv_iconst (v := (1 : Int32)) hx hb d_M_pointsOf_158 (by decide) ?_
        refine lv_iand hx hb d_M_pointsOf_159 ?_
        refine lv_iconst (v := (1 : Int32)) hx hb d_M_pointsOf_160 (by decide) ?_
        refine lv_icmp_ne hx hb d_M_pointsOf_161 rfl (fun hc => ?_) (fun hc => ?_)
        · have h := mb_f hc h
          exact zM_pointsOf_b178 Cx hR hret (mM_pointsOf_l118  n) ih x1 x3 x4 x5 x6 x7 v9 s h ls H locs (lv_sub hl [1, 2, 3, 4, 5, 6, 7, 0] rfl) hP hS
        · have h := mb_t hc h
          refine lv_aload_n hx hb d_M_pointsOf_164 rfl (lv_at hl 1 rfl) ?_
          refine lv_iload_n hx hb d_M_pointsOf_165 rfl (lv_at hl 2 rfl) ?_
          refine lv_iload hx hb d_M_pointsOf_166 (lv_at hl 5 rfl) ?_
          refine lv_aload_n hx hb d_M_pointsOf_168 rfl (lv_at hl 1 rfl) ?_
          refine va_get (ci := 5) (C := cnM) (T := fTM) (N := 30) hx hb hts uwM hown hK hP 0 rfl rfl 10 (by decide) (hts _ wd_535) (fun _ h9 => h9) rfl d_M_pointsOf_169 ?_
          refine lv_iload hx hb d_M_pointsOf_172 (lv_at hl 0 rfl) ?_
          refine mb_iald hx hb hK hP 9 0 rfl rfl h d_M_pointsOf_174 (fun v11 h => ?_)
          obtain ⟨_u, s12, hs12, h⟩ := mb_cal_ex h
          refine mb_goV Cx (mb_runV (As := [.int x1, .int x5, .int v11]) (rest := []) mb_Z0ok Cx (w_M_grow l D X cI cZ cJ hs12 H.size) (mb_cwV 3 hts wd_669 wd_671 sel_43 wd_7 wd_672 rfl rfl rfl (by decide +kernel) ⟨Nat.le_trans (by decide) hR.1, Nat.le_trans (by decide) hR.2⟩) hP hS 0 rfl rfl rfl hl.1 rfl (Nat.le_of_ble_eq_true rfl) d_M_pointsOf_175) hS (fun H locs hP hS => ?_)
          exact zM_pointsOf_b178 Cx hR hret (mM_pointsOf_l118  n) ih x1 x3 x4 x5 x6 x7 v9 s12 h ls H locs (lv_sub hl [1, 2, 3, 4, 5, 6, 7, 0] rfl) hP hS
set_option maxRecDepth 100000 in
set_option maxHeartbeats 4000000 in
theorem zM_pointsOf_b115 {p : Program} {l : Launch} {e : Env} {R : Room} {s0 : State} {m : MethodId} {args : Array Value} {below : List Frame} {meth : Method} {c : Code} {Q : State → Prop} {A : Nat → Prop} {D : va_G} {X : Nat → Nat} {cI cZ cJ : ClassId} {rv : Unit} {rs : mb_S}
    (Cx : mb_C p s0 m args meth c c_M_pointsOf 10 lw_w cnM (fun _ _ => True) vwCl D [(cI, .int), (cZ, .boolean), (cJ, .long)] A (WM X cI cZ cJ)) (hR : 4 ≤ R.frames ∧ 100 ≤ R.locals)
    (hret : mb_R p l e R s0 m args below meth c Q vwCl D A (WM X cI cZ cJ) c_M_pointsOf .return_ [] rs)  (x1 : Int32) (x3 : Int32) (x4 : Int32) (x5 : Int32) (x6 : Int32) (s : mb_S)
    (h : mM_pointsOf_b115  x1 x3 x4 x5 x6 s = some (rv, rs)) : mb_B p l e R s0 m args below meth c Q vwCl D A (WM X cI cZ cJ) 10 [(0, .ref (X 0)), (1, .int x1), (3, .int x3), (4, .int x4), (5, .int x5), (6, .int x6)] [] 115 s := by
  unfold mM_pointsOf_b115 at h
  intro ls H locs hl hP hS
  have Cx0 := Cx
  obtain ⟨⟨hx, hb, hml, hown, hts⟩, hK, hD, hA, hZ⟩ := Cx0
  refine lv_iconst (v := (0 : Int32)) hx hb d_M_pointsOf_115 (by decide) ?_
  refine lv_istore (lv' := [(7, .int (0 : Int32)), (0, .ref (X 0)), (1, .int x1), (3, .int x3), (4, .int x4), (5, .int x5), (6, .int x6)]) hx hb d_M_pointsOf_116 hl (by decide) rfl (fun ls hl => ?_)
  exact zM_pointsOf_l118 Cx hR hret  mb_fuel x1 x3 x4 x5 x6 (0 : Int32) s h ls H locs (lv_sub hl [1, 2, 3, 4, 5, 6, 0] rfl) hP hS
set_option maxRecDepth 100000 in
set_option maxHeartbeats 4000000 in
theorem w_M_pointsOf (l : Launch) (D : va_G) (X : Nat → Nat) (cI cZ cJ : ClassId) {x1 : Int32} {x2 : Int32} {s : mb_S} {rv : Unit} {rs : mb_S}
    (h : mM_pointsOf x1 x2 s = some (rv, rs)) : mb_MV l y_M_pointsOf ws_M_pointsOf rm_M_pointsOf (fun _ _ => True) vwCl D [(cI, .int), (cZ, .boolean), (cJ, .long)] (WM X cI cZ cJ) [.ref (X 0), .int x1, .int x2] s rs := by
  refine mb_ofV mb_Z0ok (by decide) rfl (Nat.le_of_ble_eq_true rfl) mb_DMok ?_
  intro p e s0 m args below meth c Q A Cx hret
  have hR : 4 ≤ (rm_M_pointsOf).frames ∧ 100 ≤ (rm_M_pointsOf).locals := ⟨Nat.le_refl _, Nat.le_refl _⟩
  intro ls H locs hl hP hS
  have Cx0 := Cx
  obtain ⟨⟨hx, hb, hml, hown, hts⟩, hK, hD, hA, hZ⟩ := Cx0
  have hl : lv_has ls 10 [(0, .ref (X 0)), (1, .int x1), (2, .int x2)] := hl
  unfold mM_pointsOf at h
  refine lv_bipush (v := (12 : Int32)) hx hb d_M_pointsOf_0 (by decide) ?_
  refine lv_iload_n hx hb d_M_pointsOf_2 rfl (lv_at hl 1 rfl) ?_
  refine lv_imul hx hb d_M_pointsOf_3 ?_
  refine lv_iload_n hx hb d_M_pointsOf_4 rfl (lv_at hl 2 rfl) ?_
  refine lv_iadd hx hb d_M_pointsOf_5 ?_
  refine lv_topi (fun v13 ev13 => ?_)
  have h := mb_at ev13 h
  refine lv_istore_n (lv' := [(3, .int v13), (0, .ref (X 0)), (1, .int x1), (2, .int x2)]) hx hb d_M_pointsOf_6 rfl hl (by decide) rfl (fun ls hl => ?_)
  refine lv_aload_n hx hb d_M_pointsOf_7 rfl (lv_at hl 1 rfl) ?_
  refine va_get (ci := 5) (C := cnM) (T := fTM) (N := 30) hx hb hts uwM hown hK hP 0 rfl rfl 1 (by decide) (hts _ wd_526) (fun _ h9 => h9) rfl d_M_pointsOf_8 ?_
  refine lv_iload_n hx hb d_M_pointsOf_11 rfl (lv_at hl 0 rfl) ?_
  refine mb_iald hx hb hK hP 2 0 rfl rfl h d_M_pointsOf_12 (fun v14 h => ?_)
  refine lv_istore (lv' := [(4, .int v14), (3, .int v13), (0, .ref (X 0)), (1, .int x1), (2, .int x2)]) hx hb d_M_pointsOf_13 hl (by decide) rfl (fun ls hl => ?_)
  refine lv_aload_n hx hb d_M_pointsOf_15 rfl (lv_at hl 2 rfl) ?_
  refine va_get (ci := 5) (C := cnM) (T := fTM) (N := 30) hx hb hts uwM hown hK hP 0 rfl rfl 2 (by decide) (hts _ wd_527) (fun _ h9 => h9) rfl d_M_pointsOf_16 ?_
  refine lv_iload_n hx hb d_M_pointsOf_19 rfl (lv_at hl 1 rfl) ?_
  refine mb_iald hx hb hK hP 3 0 rfl rfl h d_M_pointsOf_20 (fun v15 h => ?_)
  refine lv_istore (lv' := [(5, .int v15), (4, .int v14), (3, .int v13), (0, .ref (X 0)), (1, .int x1), (2, .int x2)]) hx hb d_M_pointsOf_21 hl (by decide) rfl (fun ls hl => ?_)
  refine lv_aload_n hx hb d_M_pointsOf_23 rfl (lv_at hl 3 rfl) ?_
  refine va_get (ci := 5) (C := cnM) (T := fTM) (N := 30) hx hb hts uwM hown hK hP 0 rfl rfl 3 (by decide) (hts _ wd_528) (fun _ h9 => h9) rfl d_M_pointsOf_24 ?_
  refine lv_iload_n hx hb d_M_pointsOf_27 rfl (lv_at hl 2 rfl) ?_
  refine mb_iald hx hb hK hP 4 0 rfl rfl h d_M_pointsOf_28 (fun v16 h => ?_)
  refine lv_istore (lv' := [(6, .int v16), (5, .int v15), (4, .int v14), (3, .int v13), (0, .ref (X 0)), (1, .int x1), (2, .int x2)]) hx hb d_M_pointsOf_29 hl (by decide) rfl (fun ls hl => ?_)
  refine lv_iload hx hb d_M_pointsOf_31 (lv_at hl 2 rfl) ?_
  refine lv_if_ne hx hb d_M_pointsOf_33 rfl (fun hc => ?_) (fun hc => ?_)
  · have h := mb_f hc h
    refine lv_iload hx hb d_M_pointsOf_59 (lv_at hl 2 rfl) ?_
    refine lv_iconst (v := (4 : Int32)) hx hb d_M_pointsOf_61 (by decide) ?_
    refine lv_icmp_ne hx hb d_M_pointsOf_62 rfl (fun hc => ?_) (fun hc => ?_)
    · have h := mb_f hc h
      refine lv_iload hx hb d_M_pointsOf_86 (lv_at hl 2 rfl) ?_
      refine lv_bipush (v := (7 : Int32)) hx hb d_M_pointsOf_88 (by decide) ?_
      refine lv_icmp_ne hx hb d_M_pointsOf_90 rfl (fun hc => ?_) (fun hc => ?_)
      · have h := mb_f hc h
        refine lv_iload hx hb d_M_pointsOf_102 (lv_at hl 2 rfl) ?_
        refine lv_iconst (v := (5 : Int32)) hx hb d_M_pointsOf_104 (by decide) ?_
        refine lv_icmp_eq hx hb d_M_pointsOf_105 rfl (fun hc => ?_) (fun hc => ?_)
        · have h := mb_t hc h
          exact zM_pointsOf_b115 Cx hR hret  x1 v13 v14 v15 v16 s h ls H locs (lv_sub hl [4, 5, 3, 2, 1, 0] rfl) hP hS
        · have h := mb_f hc h
          refine lv_iload hx hb d_M_pointsOf_108 (lv_at hl 2 rfl) ?_
          refine lv_bipush (v := (6 : Int32)) hx hb d_M_pointsOf_110 (by decide) ?_
          refine lv_icmp_ne hx hb d_M_pointsOf_112 rfl (fun hc => ?_) (fun hc => ?_)
          · have h := mb_f hc h
            exact zM_pointsOf_b269 Cx hR hret  s h ls H locs (lv_sub hl [] rfl) hP hS
          · have h := mb_t hc h
            exact zM_pointsOf_b115 Cx hR hret  x1 v13 v14 v15 v16 s h ls H locs (lv_sub hl [4, 5, 3, 2, 1, 0] rfl) hP hS
      · have h := mb_t hc h
        refine lv_aload_n hx hb d_M_pointsOf_93 rfl (lv_at hl 4 rfl) ?_
        refine lv_iload_n hx hb d_M_pointsOf_94 rfl (lv_at hl 5 rfl) ?_
        refine lv_iload_n hx hb d_M_pointsOf_95 rfl (lv_at hl 3 rfl) ?_
        obtain ⟨_u, s17, hs17, h⟩ := mb_cal_ex h
        refine mb_goV Cx (mb_runV (As := [.int x1, .int v13]) (rest := []) mb_Z0ok Cx (w_M_callPoints l D X cI cZ cJ hs17 H.size) (mb_cwV 2 hts wd_673 wd_675 sel_44 wd_7 wd_676 rfl rfl rfl (by decide +kernel) ⟨Nat.le_trans (by decide) hR.1, Nat.le_trans (by decide) hR.2⟩) hP hS 0 rfl rfl rfl hl.1 rfl (Nat.le_of_ble_eq_true rfl) d_M_pointsOf_96) hS (fun H locs hP hS => ?_)
        refine lv_goto hx hb d_M_pointsOf_99 rfl ?_
        exact zM_pointsOf_b269 Cx hR hret  s17 h ls H locs (lv_sub hl [] rfl) hP hS
    · have h := mb_t hc h
      refine lv_aload_n hx hb d_M_pointsOf_65 rfl (lv_at hl 4 rfl) ?_
      refine lv_iload_n hx hb d_M_pointsOf_66 rfl (lv_at hl 5 rfl) ?_
      refine lv_iload hx hb d_M_pointsOf_67 (lv_at hl 1 rfl) ?_
      refine lv_aload_n hx hb d_M_pointsOf_69 rfl (lv_at hl 4 rfl) ?_
      refine va_get (ci := 5) (C := cnM) (T := fTM) (N := 30) hx hb hts uwM hown hK hP 0 rfl rfl 9 (by decide) (hts _ wd_534) (fun _ h9 => h9) rfl d_M_pointsOf_70 ?_
      refine lv_iconst (v := (4 : Int32)) hx hb d_M_pointsOf_73 (by decide) ?_
      refine lv_iload_n hx hb d_M_pointsOf_74 rfl (lv_at hl 5 rfl) ?_
      refine lv_imul hx hb d_M_pointsOf_75 ?_
      refine lv_iload hx hb d_M_pointsOf_76 (lv_at hl 0 rfl) ?_
      refine lv_iadd hx hb d_M_pointsOf_78 ?_
      refine mb_iald hx hb hK hP 8 0 rfl rfl h d_M_pointsOf_79 (fun v18 h => ?_)
      obtain ⟨_u, s19, hs19, h⟩ := mb_cal_ex h
      refine mb_goV Cx (mb_runV (As := [.int x1, .int v15, .int v18]) (rest := []) mb_Z0ok Cx (w_M_grow l D X cI cZ cJ hs19 H.size) (mb_cwV 3 hts wd_669 wd_671 sel_43 wd_7 wd_672 rfl rfl rfl (by decide +kernel) ⟨Nat.le_trans (by decide) hR.1, Nat.le_trans (by decide) hR.2⟩) hP hS 0 rfl rfl rfl hl.1 rfl (Nat.le_of_ble_eq_true rfl) d_M_pointsOf_80) hS (fun H locs hP hS => ?_)
      refine lv_goto hx hb d_M_pointsOf_83 rfl ?_
      exact zM_pointsOf_b269 Cx hR hret  s19 h ls H locs (lv_sub hl [] rfl) hP hS
  · have h := mb_t hc h
    refine lv_aload_n hx hb d_M_pointsOf_36 rfl (lv_at hl 4 rfl) ?_
    refine lv_iconst (v := (0 : Int32)) hx hb d_M_pointsOf_37 (by decide) ?_
    refine lv_iload_n hx hb d_M_pointsOf_38 rfl (lv_at hl 5 rfl) ?_
    refine lv_iload_n hx hb d_M_pointsOf_39 rfl (lv_at hl 6 rfl) ?_
    obtain ⟨v20, s21, hs21, h⟩ := mb_cal_ex h
    refine mb_goI Cx (mb_runV (As := [.int (0 : Int32), .int x1, .int x2]) (rest := []) mb_Z0ok Cx (w_M_before l D X cI cZ cJ hs21 H.size) (mb_cwV 3 hts wd_628 wd_630 sel_39 wd_7 wd_631 rfl rfl rfl (by decide +kernel) ⟨Nat.le_trans (by decide) hR.1, Nat.le_trans (by decide) hR.2⟩) hP hS 0 rfl rfl rfl hl.1 rfl (Nat.le_of_ble_eq_true rfl) d_M_pointsOf_40) hS (fun H locs hP hS => ?_)
    refine lv_istore (lv' := [(7, .int v20), (6, .int v16), (5, .int v15), (4, .int v14), (3, .int v13), (0, .ref (X 0)), (1, .int x1), (2, .int x2)]) hx hb d_M_pointsOf_43 hl (by decide) rfl (fun ls hl => ?_)
    refine lv_aload_n hx hb d_M_pointsOf_45 rfl (lv_at hl 5 rfl) ?_
    refine lv_iload_n hx hb d_M_pointsOf_46 rfl (lv_at hl 6 rfl) ?_
    refine lv_iload hx hb d_M_pointsOf_47 (lv_at hl 2 rfl) ?_
    refine lv_iconst (v := (1 : Int32)) hx hb d_M_pointsOf_49 (by decide) ?_
    refine lv_iload hx hb d_M_pointsOf_50 (lv_at hl 0 rfl) ?_
    refine lv_ishl hx hb d_M_pointsOf_52 ?_
    obtain ⟨_u, s22, hs22, h⟩ := mb_cal_ex h
    refine mb_goV Cx (mb_runV (As := [.int x1, .int v15, .int ((1 : Int32) <<< (v20 &&& 31))]) (rest := []) mb_Z0ok Cx (w_M_grow l D X cI cZ cJ hs22 H.size) (mb_cwV 3 hts wd_669 wd_671 sel_43 wd_7 wd_672 rfl rfl rfl (by decide +kernel) ⟨Nat.le_trans (by decide) hR.1, Nat.le_trans (by decide) hR.2⟩) hP hS 0 rfl rfl rfl hl.1 rfl (Nat.le_of_ble_eq_true rfl) d_M_pointsOf_53) hS (fun H locs hP hS => ?_)
    refine lv_goto hx hb d_M_pointsOf_56 rfl ?_
    exact zM_pointsOf_b269 Cx hR hret  s22 h ls H locs (lv_sub hl [] rfl) hP hS
