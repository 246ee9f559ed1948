set_option maxRecDepth 100000 in
set_option maxHeartbeats 4000000 in
theorem zM_within_b15 {p : Program} {l : Launch} {e : Env} {R : Room} {s0 : State} {m : MethodId} {args : Array Value} {below : List Frame} {meth : Method} {c : Code} {Q : State → Prop} {A : Nat → Prop} {D : va_G} {rv : Int32}
    (Cx : mb_C p s0 m args meth c c_M_within 3 lw_w cnM (fun _ _ => True) vwCl D [] A (fun _ => [])) (hR : 0 ≤ R.frames ∧ 0 ≤ R.locals)
    (hret : (rv = 0 ∨ rv = 1) → mb_R p l e R s0 m args below meth c Q vwCl D A (fun _ => []) c_M_within .ireturn [.int rv] mb_0)  (y0 : Int32)
    (h : mM_within_b15  y0 = some rv) : mb_B p l e R s0 m args below meth c Q vwCl D A (fun _ => []) 3 [] [.int y0] 15 mb_0 := by
  unfold mM_within_b15 at h
  intro ls H locs hl hP hS
  have Cx0 := Cx
  obtain ⟨⟨hx, hb, hml, hown, hts⟩, hK, hD, hA, hZ⟩ := Cx0
  exact mb_eZ0 hret h d_M_within_15 hP hS
set_option maxRecDepth 100000 in
set_option maxHeartbeats 4000000 in
theorem zM_within_b14 {p : Program} {l : Launch} {e : Env} {R : Room} {s0 : State} {m : MethodId} {args : Array Value} {below : List Frame} {meth : Method} {c : Code} {Q : State → Prop} {A : Nat → Prop} {D : va_G} {rv : Int32}
    (Cx : mb_C p s0 m args meth c c_M_within 3 lw_w cnM (fun _ _ => True) vwCl D [] A (fun _ => [])) (hR : 0 ≤ R.frames ∧ 0 ≤ R.locals)
    (hret : (rv = 0 ∨ rv = 1) → mb_R p l e R s0 m args below meth c Q vwCl D A (fun _ => []) c_M_within .ireturn [.int rv] mb_0)
    (h : mM_within_b14   = some rv) : mb_B p l e R s0 m args below meth c Q vwCl D A (fun _ => []) 3 [] [] 14 mb_0 := by
  unfold mM_within_b14 at h
  intro ls H locs hl hP hS
  have Cx0 := Cx
  obtain ⟨⟨hx, hb, hml, hown, hts⟩, hK, hD, hA, hZ⟩ := Cx0
  refine lv_iconst (v := (0 : Int32)) hx hb d_M_within_14 (by decide) ?_
  exact zM_within_b15 Cx hR hret  (0 : Int32) h ls H locs (lv_sub hl [] rfl) hP hS
set_option maxRecDepth 100000 in
set_option maxHeartbeats 4000000 in
theorem w_M_within (l : Launch) (D : va_G) {x0 : Int32} {x1 : Int32} {x2 : Int32} {rv : Int32}
    (h : mM_within x0 x1 x2 = some rv) : mb_MI l y_M_within ws_M_within rm_M_within (fun _ _ => True) vwCl D [] (fun _ => []) [.int x0, .int x1, .int x2] mb_0 rv mb_0 := by
  refine mb_ofZ mb_Z0ok (by decide) rfl (Nat.le_of_ble_eq_true rfl) mb_D0ok ?_
  intro p e s0 m args below meth c Q A Cx hret
  have hR : 0 ≤ (rm_M_within).frames ∧ 0 ≤ (rm_M_within).locals := ⟨Nat.le_refl _, Nat.le_refl _⟩
  intro ls H locs hl hP hS
  have Cx0 := Cx
  obtain ⟨⟨hx, hb, hml, hown, hts⟩, hK, hD, hA, hZ⟩ := Cx0
  have hl : lv_has ls 3 [(0, .int x0), (1, .int x1), (2, .int x2)] := hl
  unfold mM_within at h
  refine lv_iload_n hx hb d_M_within_0 rfl (lv_at hl 0 rfl) ?_
  refine lv_iload_n hx hb d_M_within_1 rfl (lv_at hl 1 rfl) ?_
  refine lv_icmp_lt hx hb d_M_within_2 rfl (fun hc => ?_) (fun hc => ?_)
  · have h := mb_t hc h
    exact zM_within_b14 Cx hR hret   h ls H locs (lv_sub hl [] rfl) hP hS
  · have h := mb_f hc h
    refine lv_iload_n hx hb d_M_within_5 rfl (lv_at hl 0 rfl) ?_
    refine lv_iload_n hx hb d_M_within_6 rfl (lv_at hl 2 rfl) ?_
    refine lv_icmp_gt hx hb d_M_within_7 rfl (fun hc => ?_) (fun hc => ?_)
    · have h := mb_t hc h
      exact zM_within_b14 Cx hR hret   h ls H locs (lv_sub hl [] rfl) hP hS
    · have h := mb_f hc h
      refine lv_iconst (v := (1 : Int32)) hx hb d_M_within_10 (by decide) ?_
      refine lv_goto hx hb d_M_within_11 rfl ?_
      exact zM_within_b15 Cx hR hret  (1 : Int32) h ls H locs (lv_sub hl [] rfl) hP hS
set_option maxRecDepth 100000 in
set_option maxHeartbeats 4000000 in
theorem zM_before_b89 {p : Program} {l : Launch} {e : Env} {R : Room} {s0 : State} {m : MethodId} {args : Array Value} {below : List Frame} {meth : Method} {c : Code} {Q : State → Prop} {A : Nat → Prop} {D : va_G} {X : Nat → Nat} {cI cZ cJ : ClassId} {rv : Int32} {rs : mb_S}
    (Cx : mb_C p s0 m args meth c c_M_before 7 lw_w cnM (fun _ _ => True) vwCl D [(cI, .int), (cZ, .boolean), (cJ, .long)] A (WM X cI cZ cJ)) (hR : 0 ≤ R.frames ∧ 0 ≤ R.locals)
    (hret : mb_R p l e R s0 m args below meth c Q vwCl D A (WM X cI cZ cJ) c_M_before .ireturn [.int rv] rs)  (x4 : Int32) (s : mb_S)
    (h : mM_before_b89  x4 s = some (rv, rs)) : mb_B p l e R s0 m args below meth c Q vwCl D A (WM X cI cZ cJ) 7 [(4, .int x4)] [] 89 s := by
  unfold mM_before_b89 at h
  intro ls H locs hl hP hS
  have Cx0 := Cx
  obtain ⟨⟨hx, hb, hml, hown, hts⟩, hK, hD, hA, hZ⟩ := Cx0
  refine lv_iload hx hb d_M_before_89 (lv_at hl 0 rfl) ?_
  exact mb_eI hret h d_M_before_91 hP hS
set_option maxRecDepth 100000 in
set_option maxHeartbeats 4000000 in
theorem zM_before_b83 {p : Program} {l : Launch} {e : Env} {R : Room} {s0 : State} {m : MethodId} {args : Array Value} {below : List Frame} {meth : Method} {c : Code} {Q : State → Prop} {A : Nat → Prop} {D : va_G} {X : Nat → Nat} {cI cZ cJ : ClassId} {rv : Int32} {rs : mb_S}
    (Cx : mb_C p s0 m args meth c c_M_before 7 lw_w cnM (fun _ _ => True) vwCl D [(cI, .int), (cZ, .boolean), (cJ, .long)] A (WM X cI cZ cJ)) (hR : 0 ≤ R.frames ∧ 0 ≤ R.locals)
    (hret : mb_R p l e R s0 m args below meth c Q vwCl D A (WM X cI cZ cJ) c_M_before .ireturn [.int rv] rs) (k6 : Int32 → Int32 → Int32 → Int32 → Int32 → mb_S → Option (Int32 × mb_S)) (hk6 : ∀ (x1 : Int32) (x2 : Int32) (x3 : Int32) (x4 : Int32) (x5 : Int32) (s : mb_S), k6 x1 x2 x3 x4 x5 s = some (rv, rs) → mb_B p l e R s0 m args below meth c Q vwCl D A (WM X cI cZ cJ) 7 [(0, .ref (X 0)), (1, .int x1), (2, .int x2), (3, .int x3), (4, .int x4), (5, .int x5)] [] 6 s) (x1 : Int32) (x2 : Int32) (x3 : Int32) (x4 : Int32) (x5 : Int32) (s : mb_S)
    (h : mM_before_b83 k6 x1 x2 x3 x4 x5 s = some (rv, rs)) : mb_B p l e R s0 m args below meth c Q vwCl D A (WM X cI cZ cJ) 7 [(0, .ref (X 0)), (1, .int x1), (2, .int x2), (3, .int x3), (4, .int x4), (5, .int x5)] [] 83 s := by
  unfold mM_before_b83 at h
  intro ls H locs hl hP hS
  have Cx0 := Cx
  obtain ⟨⟨hx, hb, hml, hown, hts⟩, hK, hD, hA, hZ⟩ := Cx0
  obtain ⟨v1, ev1, h⟩ := mb_ex h
  refine lv_iinc (k := 5) (v := v1) (lv' := [(5, .int v1), (0, .ref (X 0)), (1, .int x1), (2, .int x2), (3, .int x3), (4, .int x4)]) hx hb d_M_before_83 hl rfl ev1 (by decide) rfl (fun ls hl => ?_)
  refine lv_goto hx hb d_M_before_86 rfl ?_
  exact hk6 x1 x2 x3 x4 v1 s h ls H locs (lv_sub hl [1, 2, 3, 4, 5, 0] rfl) hP hS
set_option maxRecDepth 100000 in
set_option maxHeartbeats 4000000 in
theorem zM_before_b74 {p : Program} {l : Launch} {e : Env} {R : Room} {s0 : State} {m : MethodId} {args : Array Value} {below : List Frame} {meth : Method} {c : Code} {Q : State → Prop} {A : Nat → Prop} {D : va_G} {X : Nat → Nat} {cI cZ cJ : ClassId} {rv : Int32} {rs : mb_S}
    (Cx : mb_C p s0 m args meth c c_M_before 7 lw_w cnM (fun _ _ => True) vwCl D [(cI, .int), (cZ, .boolean), (cJ, .long)] A (WM X cI cZ cJ)) (hR : 0 ≤ R.frames ∧ 0 ≤ R.locals)
    (hret : mb_R p l e R s0 m args below meth c Q vwCl D A (WM X cI cZ cJ) c_M_before .ireturn [.int rv] rs) (k6 : Int32 → Int32 → Int32 → Int32 → Int32 → mb_S → Option (Int32 × mb_S)) (hk6 : ∀ (x1 : Int32) (x2 : Int32) (x3 : Int32) (x4 : Int32) (x5 : Int32) (s : mb_S), k6 x1 x2 x3 x4 x5 s = some (rv, rs) → mb_B p l e R s0 m args below meth c Q vwCl D A (WM X cI cZ cJ) 7 [(0, .ref (X 0)), (1, .int x1), (2, .int x2), (3, .int x3), (4, .int x4), (5, .int x5)] [] 6 s) (k22 : Int32 → Int32 → Int32 → Int32 → Int32 → Int32 → mb_S → Option (Int32 × mb_S)) (hk22 : ∀ (x1 : Int32) (x2 : Int32) (x3 : Int32) (x4 : Int32) (x5 : Int32) (x6 : Int32) (s : mb_S), k22 x1 x2 x3 x4 x5 x6 s = some (rv, rs) → mb_B p l e R s0 m args below meth c Q vwCl D A (WM X cI cZ cJ) 7 [(0, .ref (X 0)), (1, .int x1), (2, .int x2), (3, .int x3), (4, .int x4), (5, .int x5), (6, .int x6)] [] 22 s) (x1 : Int32) (x2 : Int32) (x3 : Int32) (x5 : Int32) (x6 : Int32) (y0 : Int32) (y1 : Int32) (s : mb_S)
    (h : mM_before_b74 k6 k22 x1 x2 x3 x5 x6 y0 y1 s = some (rv, rs)) : mb_B p l e R s0 m args below meth c Q vwCl D A (WM X cI cZ cJ) 7 [(0, .ref (X 0)), (1, .int x1), (2, .int x2), (3, .int x3), (5, .int x5), (6, .int x6)] [.int y0, .int y1] 74 s := by
  unfold mM_before_b74 at h
  intro ls H locs hl hP hS
  have Cx0 := Cx
  obtain ⟨⟨hx, hb, hml, hown, hts⟩, hK, hD, hA, hZ⟩ := Cx0
  refine lv_iadd hx hb d_M_before_74 ?_
  refine lv_topi (fun v2 ev2 => ?_)
  have h := mb_at ev2 h
  refine lv_istore (lv' := [(4, .int v2), (0, .ref (X 0)), (1, .int x1), (2, .int x2), (3, .int x3), (5, .int x5), (6, .int x6)]) hx hb d_M_before_75 hl (by decide) rfl (fun ls hl => ?_)
  obtain ⟨v3, ev3, h⟩ := mb_ex h
  refine lv_iinc (k := 6) (v := v3) (lv' := [(6, .int v3), (4, .int v2), (0, .ref (X 0)), (1, .int x1), (2, .int x2), (3, .int x3), (5, .int x5)]) hx hb d_M_before_77 hl rfl ev3 (by decide) rfl (fun ls hl => ?_)
  refine lv_goto hx hb d_M_before_80 rfl ?_
  exact hk22 x1 x2 x3 v2 x5 v3 s h ls H locs (lv_sub hl [2, 3, 4, 5, 1, 6, 0] rfl) hP hS
set_option maxRecDepth 100000 in
set_option maxHeartbeats 4000000 in
theorem zM_before_b69 {p : Program} {l : Launch} {e : Env} {R : Room} {s0 : State} {m : MethodId} {args : Array Value} {below : List Frame} {meth : Method} {c : Code} {Q : State → Prop} {A : Nat → Prop} {D : va_G} {X : Nat → Nat} {cI cZ cJ : ClassId} {rv : Int32} {rs : mb_S}
    (Cx : mb_C p s0 m args meth c c_M_before 7 lw_w cnM (fun _ _ => True) vwCl D [(cI, .int), (cZ, .boolean), (cJ, .long)] A (WM X cI cZ cJ)) (hR : 0 ≤ R.frames ∧ 0 ≤ R.locals)
    (hret : mb_R p l e R s0 m args below meth c Q vwCl D A (WM X cI cZ cJ) c_M_before .ireturn [.int rv] rs) (k6 : Int32 → Int32 → Int32 → Int32 → Int32 → mb_S → Option (Int32 × mb_S)) (hk6 : ∀ (x1 : Int32) (x2 : Int32) (x3 : Int32) (x4 : Int32) (x5 : Int32) (s : mb_S), k6 x1 x2 x3 x4 x5 s = some (rv, rs) → mb_B p l e R s0 m args below meth c Q vwCl D A (WM X cI cZ cJ) 7 [(0, .ref (X 0)), (1, .int x1), (2, .int x2), (3, .int x3), (4, .int x4), (5, .int x5)] [] 6 s) (k22 : Int32 → Int32 → Int32 → Int32 → Int32 → Int32 → mb_S → Option (Int32 × mb_S)) (hk22 : ∀ (x1 : Int32) (x2 : Int32) (x3 : Int32) (x4 : Int32) (x5 : Int32) (x6 : Int32) (s : mb_S), k22 x1 x2 x3 x4 x5 x6 s = some (rv, rs) → mb_B p l e R s0 m args below meth c Q vwCl D A (WM X cI cZ cJ) 7 [(0, .ref (X 0)), (1, .int x1), (2, .int x2), (3, .int x3), (4, .int x4), (5, .int x5), (6, .int x6)] [] 22 s) (x1 : Int32) (x2 : Int32) (x3 : Int32) (x5 : Int32) (x6 : Int32) (y0 : Int32) (s : mb_S)
    (h : mM_before_b69 k6 k22 x1 x2 x3 x5 x6 y0 s = some (rv, rs)) : mb_B p l e R s0 m args below meth c Q vwCl D A (WM X cI cZ cJ) 7 [(0, .ref (X 0)), (1, .int x1), (2, .int x2), (3, .int x3), (5, .int x5), (6, .int x6)] [.int y0] 69 s := by
  unfold mM_before_b69 at h
  intro ls H locs hl hP hS
  have Cx0 := Cx
  obtain ⟨⟨hx, hb, hml, hown, hts⟩, hK, hD, hA, hZ⟩ := Cx0
  refine lv_iconst (v := (1 : Int32)) hx hb d_M_before_69 (by decide) ?_
  refine lv_goto hx hb d_M_before_70 rfl ?_
  exact zM_before_b74 Cx hR hret k6 hk6 k22 hk22 x1 x2 x3 x5 x6 (1 : Int32) y0 s h ls H locs (lv_sub hl [0, 1, 2, 3, 4, 5] rfl) hP hS
set_option maxRecDepth 100000 in
set_option maxHeartbeats 4000000 in
theorem zM_before_b46 {p : Program} {l : Launch} {e : Env} {R : Room} {s0 : State} {m : MethodId} {args : Array Value} {below : List Frame} {meth : Method} {c : Code} {Q : State → Prop} {A : Nat → Prop} {D : va_G} {X : Nat → Nat} {cI cZ cJ : ClassId} {rv : Int32} {rs : mb_S}
    (Cx : mb_C p s0 m args meth c c_M_before 7 lw_w cnM (fun _ _ => True) vwCl D [(cI, .int), (cZ, .boolean), (cJ, .long)] A (WM X cI cZ cJ)) (hR : 0 ≤ R.frames ∧ 0 ≤ R.locals)
    (hret : mb_R p l e R s0 m args below meth c Q vwCl D A (WM X cI cZ cJ) c_M_before .ireturn [.int rv] rs) (k6 : Int32 → Int32 → Int32 → Int32 → Int32 → mb_S → Option (Int32 × mb_S)) (hk6 : ∀ (x1 : Int32) (x2 : Int32) (x3 : Int32) (x4 : Int32) (x5 : Int32) (s : mb_S), k6 x1 x2 x3 x4 x5 s = some (rv, rs) → mb_B p l e R s0 m args below meth c Q vwCl D A (WM X cI cZ cJ) 7 [(0, .ref (X 0)), (1, .int x1), (2, .int x2), (3, .int x3), (4, .int x4), (5, .int x5)] [] 6 s) (k22 : Int32 → Int32 → Int32 → Int32 → Int32 → Int32 → mb_S → Option (Int32 × mb_S)) (hk22 : ∀ (x1 : Int32) (x2 : Int32) (x3 : Int32) (x4 : Int32) (x5 : Int32) (x6 : Int32) (s : mb_S), k22 x1 x2 x3 x4 x5 x6 s = some (rv, rs) → mb_B p l e R s0 m args below meth c Q vwCl D A (WM X cI cZ cJ) 7 [(0, .ref (X 0)), (1, .int x1), (2, .int x2), (3, .int x3), (4, .int x4), (5, .int x5), (6, .int x6)] [] 22 s) (x1 : Int32) (x2 : Int32) (x3 : Int32) (x4 : Int32) (x5 : Int32) (x6 : Int32) (s : mb_S)
    (h : mM_before_b46 k6 k22 x1 x2 x3 x4 x5 x6 s = some (rv, rs)) : mb_B p l e R s0 m args below meth c Q vwCl D A (WM X cI cZ cJ) 7 [(0, .ref (X 0)), (1, .int x1), (2, .int x2), (3, .int x3), (4, .int x4), (5, .int x5), (6, .int x6)] [] 46 s := by
  unfold mM_before_b46 at h
  intro ls H locs hl hP hS
  have Cx0 := Cx
  obtain ⟨⟨hx, hb, hml, hown, hts⟩, hK, hD, hA, hZ⟩ := Cx0
  refine lv_iload hx hb d_M_before_46 (lv_at hl 4 rfl) ?_
  refine lv_iload_n hx hb d_M_before_48 rfl (lv_at hl 1 rfl) ?_
  refine lv_if_lt hx hb d_M_before_49 rfl (fun hc => ?_) (fun hc => ?_)
  · have h := mb_t hc h
    exact zM_before_b69 Cx hR hret k6 hk6 k22 hk22 x1 x2 x3 x5 x6 x4 s h ls H locs (lv_sub hl [0, 1, 2, 3, 5, 6] rfl) hP hS
  · have h := mb_f hc h
    refine lv_aload_n hx hb d_M_before_52 rfl (lv_at hl 0 rfl) ?_
    refine va_get (ci := 5) (C := cnM) (T := fTM) (N := 30) hx hb hts uwM hown hK hP 0 rfl rfl 1 (by decide) (hts _ wd_526) (fun _ h9 => h9) rfl d_M_before_53 ?_
    refine lv_bipush (v := (12 : Int32)) hx hb d_M_before_56 (by decide) ?_
    refine lv_iload hx hb d_M_before_58 (lv_at hl 5 rfl) ?_
    refine lv_imul hx hb d_M_before_60 ?_
    refine lv_iload hx hb d_M_before_61 (lv_at hl 6 rfl) ?_
    refine lv_iadd hx hb d_M_before_63 ?_
    refine mb_iald hx hb hK hP 2 0 rfl rfl h d_M_before_64 (fun v4 h => ?_)
    refine lv_iload_n hx hb d_M_before_65 rfl (lv_at hl 1 rfl) ?_
    refine lv_icmp_ne hx hb d_M_before_66 rfl (fun hc => ?_) (fun hc => ?_)
    · have h := mb_f hc h
      refine lv_iconst (v := (0 : Int32)) hx hb d_M_before_73 (by decide) ?_
      exact zM_before_b74 Cx hR hret k6 hk6 k22 hk22 x1 x2 x3 x5 x6 (0 : Int32) x4 s h ls H locs (lv_sub hl [0, 1, 2, 3, 5, 6] rfl) hP hS
    · have h := mb_t hc h
      exact zM_before_b69 Cx hR hret k6 hk6 k22 hk22 x1 x2 x3 x5 x6 x4 s h ls H locs (lv_sub hl [0, 1, 2, 3, 5, 6] rfl) hP hS
set_option maxRecDepth 100000 in
set_option maxHeartbeats 4000000 in
theorem zM_before_l22 {p : Program} {l : Launch} {e : Env} {R : Room} {s0 : State} {m : MethodId} {args : Array Value} {below : List Frame} {meth : Method} {c : Code} {Q : State → Prop} {A : Nat → Prop} {D : va_G} {X : Nat → Nat} {cI cZ cJ : ClassId} {rv : Int32} {rs : mb_S}
    (Cx : mb_C p s0 m args meth c c_M_before 7 lw_w cnM (fun _ _ => True) vwCl D [(cI, .int), (cZ, .boolean), (cJ, .long)] A (WM X cI cZ cJ)) (hR : 0 ≤ R.frames ∧ 0 ≤ R.locals)
    (hret : mb_R p l e R s0 m args below meth c Q vwCl D A (WM X cI cZ cJ) c_M_before .ireturn [.int rv] rs) (k6 : Int32 → Int32 → Int32 → Int32 → Int32 → mb_S → Option (Int32 × mb_S)) (hk6 : ∀ (x1 : Int32) (x2 : Int32) (x3 : Int32) (x4 : Int32) (x5 : Int32) (s : mb_S), k6 x1 x2 x3 x4 x5 s = some (rv, rs) → mb_B p l e R s0 m args below meth c Q vwCl D A (WM X cI cZ cJ) 7 [(0, .ref (X 0)), (1, .int x1), (2, .int x2), (3, .int x3), (4, .int x4), (5, .int x5)] [] 6 s) :
    ∀ (n : Nat) (x1 : Int32) (x2 : Int32) (x3 : Int32) (x4 : Int32) (x5 : Int32) (x6 : Int32) (s : mb_S), mM_before_l22 k6 n x1 x2 x3 x4 x5 x6 s = some (rv, rs) → mb_B p l e R s0 m args below meth c Q vwCl D A (WM X cI cZ cJ) 7 [(0, .ref (X 0)), (1, .int x1), (2, .int x2), (3, .int x3), (4, .int x4), (5, .int x5), (6, .int x6)] [] 22 s := by
  intro n
  induction n with
  | zero => intro x1 x2 x3 x4 x5 x6 s h; cases h
  | succ n ih =>
    intro x1 x2 x3 x4 x5 x6 s h
    rw [mM_before_l22_s] at h
    intro ls H locs hl hP hS
    have Cx0 := Cx
    obtain ⟨⟨hx, hb, hml, hown, hts⟩, hK, hD, hA, hZ⟩ := Cx0
    refine lv_iload hx hb d_M_before_22 (lv_at hl 6 rfl) ?_
    refine lv_aload_n hx hb d_M_before_24 rfl (lv_at hl 0 rfl) ?_
    refine va_get (ci := 5) (C := cnM) (T := fTM) (N := 30) hx hb hts uwM hown hK hP 0 rfl rfl 0 (by decide) (hts _ wd_525) (fun _ h9 => h9) rfl d_M_before_25 ?_
    refine lv_iload hx hb d_M_before_28 (lv_at hl 5 rfl) ?_
    refine mb_iald hx hb hK hP 1 0 rfl rfl h d_M_before_30 (fun v5 h => ?_)
    refine lv_icmp_ge hx hb d_M_before_31 rfl (fun hc => ?_) (fun hc => ?_)
    · have h := mb_t hc h
      exact zM_before_b83 Cx hR hret k6 hk6 x1 x2 x3 x4 x5 s h ls H locs (lv_sub hl [0, 1, 2, 3, 4, 5] rfl) hP hS
    · have h := mb_f hc h
      refine lv_iload hx hb d_M_before_34 (lv_at hl 5 rfl) ?_
      refine lv_iload_n hx hb d_M_before_36 rfl (lv_at hl 2 rfl) ?_
      refine lv_icmp_lt hx hb d_M_before_37 rfl (fun hc => ?_) (fun hc => ?_)
      · have h := mb_t hc h
        exact zM_before_b46 Cx hR hret k6 hk6 (mM_before_l22 k6 n) ih x1 x2 x3 x4 x5 x6 s h ls H locs (lv_sub hl [0, 1, 2, 3, 4, 5, 6] rfl) hP hS
      · have h := mb_f hc h
        refine lv_iload hx hb d_M_before_40 (lv_at hl 6 rfl) ?_
        refine lv_iload_n hx hb d_M_before_42 rfl (lv_at hl 3 rfl) ?_
        refine lv_icmp_ge hx hb d_M_before_43 rfl (fun hc => ?_) (fun hc => ?_)
        · have h := mb_t hc h
          exact zM_before_b83 Cx hR hret k6 hk6 x1 x2 x3 x4 x5 s h ls H locs (lv_sub hl [0, 1, 2, 3, 4, 5] rfl) hP hS
        · have h := mb_f hc h
          exact zM_before_b46 Cx hR hret k6 hk6 (mM_before_l22 k6 n) ih x1 x2 x3 x4 x5 x6 s h ls H locs (lv_sub hl [0, 1, 2, 3, 4, 5, 6] rfl) hP hS
set_option maxRecDepth 100000 in
set_option maxHeartbeats 4000000 in
theorem zM_before_l6 {p : Program} {l : Launch} {e : Env} {R : Room} {s0 : State} {m : MethodId} {args : Array Value} {below : List Frame} {meth : Method} {c : Code} {Q : State → Prop} {A : Nat → Prop} {D : va_G} {X : Nat → Nat} {cI cZ cJ : ClassId} {rv : Int32} {rs : mb_S}
    (Cx : mb_C p s0 m args meth c c_M_before 7 lw_w cnM (fun _ _ => True) vwCl D [(cI, .int), (cZ, .boolean), (cJ, .long)] A (WM X cI cZ cJ)) (hR : 0 ≤ R.frames ∧ 0 ≤ R.locals)
    (hret : mb_R p l e R s0 m args below meth c Q vwCl D A (WM X cI cZ cJ) c_M_before .ireturn [.int rv] rs)  :
    ∀ (n : Nat) (x1 : Int32) (x2 : Int32) (x3 : Int32) (x4 : Int32) (x5 : Int32) (s : mb_S), mM_before_l6  n x1 x2 x3 x4 x5 s = some (rv, rs) → mb_B p l e R s0 m args below meth c Q vwCl D A (WM X cI cZ cJ) 7 [(0, .ref (X 0)), (1, .int x1), (2, .int x2), (3, .int x3), (4, .int x4), (5, .int x5)] [] 6 s := by
  intro n
  induction n with
  | zero => intro x1 x2 x3 x4 x5 s h; cases h
  | succ n ih =>
    intro x1 x2 x3 x4 x5 s h
    rw [mM_before_l6_s] at h
    intro ls H locs hl hP hS
    have Cx0 := Cx
    obtain ⟨⟨hx, hb, hml, hown, hts⟩, hK, hD, hA, hZ⟩ := Cx0
    refine lv_iload hx hb d_M_before_6 (lv_at hl 5 rfl) ?_
    refine lv_iload_n hx hb d_M_before_8 rfl (lv_at hl 2 rfl) ?_
    refine lv_icmp_gt hx hb d_M_before_9 rfl (fun hc => ?_) (fun hc => ?_)
    · have h := mb_t hc h
      exact zM_before_b89 Cx hR hret  x4 s h ls H locs (lv_sub hl [4] rfl) hP hS
    · have h := mb_f hc h
      refine lv_iload hx hb d_M_before_12 (lv_at hl 5 rfl) ?_
      refine lv_bipush (v := (6 : Int32)) hx hb d_M_before_14 (by decide) ?_
      refine lv_icmp_ge hx hb d_M_before_16 rfl (fun hc => ?_) (fun hc => ?_)
      · have h := mb_t hc h
        exact zM_before_b89 Cx hR hret  x4 s h ls H locs (lv_sub hl [4] rfl) hP hS
      · have h := mb_f hc h
        refine lv_iconst (v := (0 : Int32)) hx hb d_M_before_19 (by decide) ?_
        refine lv_istore (lv' := [(6, .int (0 : Int32)), (0, .ref (X 0)), (1, .int x1), (2, .int x2), (3, .int x3), (4, .int x4), (5, .int x5)]) hx hb d_M_before_20 hl (by decide) rfl (fun ls hl => ?_)
        exact zM_before_l22 Cx hR hret (mM_before_l6  n) ih mb_fuel x1 x2 x3 x4 x5 (0 : Int32) s h ls H locs (lv_sub hl [1, 2, 3, 4, 5, 6, 0] rfl) hP hS
set_option maxRecDepth 100000 in
set_option maxHeartbeats 4000000 in
theorem w_M_before (l : Launch) (D : va_G) (X : Nat → Nat) (cI cZ cJ : ClassId) {x1 : Int32} {x2 : Int32} {x3 : Int32} {s : mb_S} {rv : Int32} {rs : mb_S}
    (h : mM_before x1 x2 x3 s = some (rv, rs)) : mb_MI l y_M_before ws_M_before rm_M_before (fun _ _ => True) vwCl D [(cI, .int), (cZ, .boolean), (cJ, .long)] (WM X cI cZ cJ) [.ref (X 0), .int x1, .int x2, .int x3] s rv rs := by
  refine mb_ofI mb_Z0ok (by decide) rfl (Nat.le_of_ble_eq_true rfl) mb_DMok ?_
  intro p e s0 m args below meth c Q A Cx hret
  have hR : 0 ≤ (rm_M_before).frames ∧ 0 ≤ (rm_M_before).locals := ⟨Nat.le_refl _, Nat.le_refl _⟩
  intro ls H locs hl hP hS
  have Cx0 := Cx
  obtain ⟨⟨hx, hb, hml, hown, hts⟩, hK, hD, hA, hZ⟩ := Cx0
  have hl : lv_has ls 7 [(0, .ref (X 0)), (1, .int x1), (2, .int x2), (3, .int x3)] := hl
  unfold mM_before at h
  refine lv_iconst (v := (0 : Int32)) hx hb d_M_before_0 (by decide) ?_
  refine lv_istore (lv' := [(4, .int (0 : Int32)), (0, .ref (X 0)), (1, .int x1), (2, .int x2), (3, .int x3)]) hx hb d_M_before_1 hl (by decide) rfl (fun ls hl => ?_)
  refine lv_iconst (v := (0 : Int32)) hx hb d_M_before_3 (by decide) ?_
  refine lv_istore (lv' := [(5, .int (0 : Int32)), (4, .int (0 : Int32)), (0, .ref (X 0)), (1, .int x1), (2, .int x2), (3, .int x3)]) hx hb d_M_before_4 hl (by decide) rfl (fun ls hl => ?_)
  exact zM_before_l6 Cx hR hret  mb_fuel x1 x2 x3 (0 : Int32) (0 : Int32) s h ls H locs (lv_sub hl [2, 3, 4, 5, 1, 0] rfl) hP hS
set_option maxRecDepth 100000 in
set_option maxHeartbeats 4000000 in
theorem zM_operands_b109 {p : Program} {l : Launch} {e : Env} {R : Room} {s0 : State} {m : MethodId} {args : Array Value} {below : List Frame} {meth : Method} {c : Code} {Q : State → Prop} {A : Nat → Prop} {D : va_G} {rv : Int32}
    (Cx : mb_C p s0 m args meth c c_M_operands 5 lw_w cnM (fun _ _ => True) vwCl D [] A (fun _ => [])) (hR : 1 ≤ R.frames ∧ 22 ≤ R.locals)
    (hret : (rv = 0 ∨ rv = 1) → mb_R p l e R s0 m args below meth c Q vwCl D A (fun _ => []) c_M_operands .ireturn [.int rv] mb_0)  (x4 : Int32)
    (h : mM_operands_b109  x4 = some rv) : mb_B p l e R s0 m args below meth c Q vwCl D A (fun _ => []) 5 [(4, .int x4)] [] 109 mb_0 := by
  unfold mM_operands_b109 at h
  intro ls H locs hl hP hS
  have Cx0 := Cx
  obtain ⟨⟨hx, hb, hml, hown, hts⟩, hK, hD, hA, hZ⟩ := Cx0
  refine lv_iload hx hb d_M_operands_109 (lv_at hl 0 rfl) ?_
  exact mb_eZ0 hret h d_M_operands_111 hP hS
set_option maxRecDepth 100000 in
set_option maxHeartbeats 4000000 in
theorem zM_operands_b107 {p : Program} {l : Launch} {e : Env} {R : Room} {s0 : State} {m : MethodId} {args : Array Value} {below : List Frame} {meth : Method} {c : Code} {Q : State → Prop} {A : Nat → Prop} {D : va_G} {rv : Int32}
    (Cx : mb_C p s0 m args meth c c_M_operands 5 lw_w cnM (fun _ _ => True) vwCl D [] A (fun _ => [])) (hR : 1 ≤ R.frames ∧ 22 ≤ R.locals)
    (hret : (rv = 0 ∨ rv = 1) → mb_R p l e R s0 m args below meth c Q vwCl D A (fun _ => []) c_M_operands .ireturn [.int rv] mb_0)  (y0 : Int32)
    (h : mM_operands_b107  y0 = some rv) : mb_B p l e R s0 m args below meth c Q vwCl D A (fun _ => []) 5 [] [.int y0] 107 mb_0 := by
  unfold mM_operands_b107 at h
  intro ls H locs hl hP hS
  have Cx0 := Cx
  obtain ⟨⟨hx, hb, hml, hown, hts⟩, hK, hD, hA, hZ⟩ := Cx0
  refine lv_istore (lv' := [(4, .int y0)]) hx hb d_M_operands_107 hl (by decide) rfl (fun ls hl => ?_)
  exact zM_operands_b109 Cx hR hret  y0 h ls H locs (lv_sub hl [0] rfl) hP hS
set_option maxRecDepth 100000 in
set_option maxHeartbeats 4000000 in
theorem zM_operands_b106 {p : Program} {l : Launch} {e : Env} {R : Room} {s0 : State} {m : MethodId} {args : Array Value} {below : List Frame} {meth : Method} {c : Code} {Q : State → Prop} {A : Nat → Prop} {D : va_G} {rv : Int32}
    (Cx : mb_C p s0 m args meth c c_M_operands 5 lw_w cnM (fun _ _ => True) vwCl D [] A (fun _ => [])) (hR : 1 ≤ R.frames ∧ 22 ≤ R.locals)
    (hret : (rv = 0 ∨ rv = 1) → mb_R p l e R s0 m args below meth c Q vwCl D A (fun _ => []) c_M_operands .ireturn [.int rv] mb_0)
    (h : mM_operands_b106   = some rv) : mb_B p l e R s0 m args below meth c Q vwCl D A (fun _ => []) 5 [] [] 106 mb_0 := by
  unfold mM_operands_b106 at h
  intro ls H locs hl hP hS
  have Cx0 := Cx
  obtain ⟨⟨hx, hb, hml, hown, hts⟩, hK, hD, hA, hZ⟩ := Cx0
  refine lv_iconst (v := (0 : Int32)) hx hb d_M_operands_106 (by decide) ?_
  exact zM_operands_b107 Cx hR hret  (0 : Int32) h ls H locs (lv_sub hl [] rfl) hP hS
set_option maxRecDepth 100000 in
set_option maxHeartbeats 4000000 in
theorem zM_operands_b96 {p : Program} {l : Launch} {e : Env} {R : Room} {s0 : State} {m : MethodId} {args : Array Value} {below : List Frame} {meth : Method} {c : Code} {Q : State → Prop} {A : Nat → Prop} {D : va_G} {rv : Int32}
    (Cx : mb_C p s0 m args meth c c_M_operands 5 lw_w cnM (fun _ _ => True) vwCl D [] A (fun _ => [])) (hR : 1 ≤ R.frames ∧ 22 ≤ R.locals)
    (hret : (rv = 0 ∨ rv = 1) → mb_R p l e R s0 m args below meth c Q vwCl D A (fun _ => []) c_M_operands .ireturn [.int rv] mb_0)  (y0 : Int32) (y1 : Int32) (y2 : Int32)
    (h : mM_operands_b96  y0 y1 y2 = some rv) : mb_B p l e R s0 m args below meth c Q vwCl D A (fun _ => []) 5 [] [.int y0, .int y1, .int y2] 96 mb_0 := by
  unfold mM_operands_b96 at h
  intro ls H locs hl hP hS
  have Cx0 := Cx
  obtain ⟨⟨hx, hb, hml, hown, hts⟩, hK, hD, hA, hZ⟩ := Cx0
  obtain ⟨v1, hv1, h⟩ := mb_cal0_ex h
  refine mb_go0I (st := mb_0) Cx (mb_runS0 (As := [.int y2, .int y1, .int y0]) (rest := []) Cx (w_M_within l D hv1 H.size) (mb_cwS 3 hts wd_622 wd_623 wd_7 wd_624 rfl rfl rfl (by decide +kernel) ⟨Nat.le_trans (by decide) hR.1, Nat.le_trans (by decide) hR.2⟩) rfl hl.1 rfl (Nat.le_of_ble_eq_true rfl) d_M_operands_96) hP hS (fun H locs hP hS => ?_)
  refine lv_if_eq hx hb d_M_operands_99 rfl (fun hc => ?_) (fun hc => ?_)
  · have h := mb_t hc h
    exact zM_operands_b106 Cx hR hret   h ls H locs (lv_sub hl [] rfl) hP hS
  · have h := mb_f hc h
    refine lv_iconst (v := (1 : Int32)) hx hb d_M_operands_102 (by decide) ?_
    refine lv_goto hx hb d_M_operands_103 rfl ?_
    exact zM_operands_b107 Cx hR hret  (1 : Int32) h ls H locs (lv_sub hl [] rfl) hP hS
set_option maxRecDepth 100000 in
set_option maxHeartbeats 4000000 in
theorem zM_operands_b66 {p : Program} {l : Launch} {e : Env} {R : Room} {s0 : State} {m : MethodId} {args : Array Value} {below : List Frame} {meth : Method} {c : Code} {Q : State → Prop} {A : Nat → Prop} {D : va_G} {rv : Int32}
    (Cx : mb_C p s0 m args meth c c_M_operands 5 lw_w cnM (fun _ _ => True) vwCl D [] A (fun _ => [])) (hR : 1 ≤ R.frames ∧ 22 ≤ R.locals)
    (hret : (rv = 0 ∨ rv = 1) → mb_R p l e R s0 m args below meth c Q vwCl D A (fun _ => []) c_M_operands .ireturn [.int rv] mb_0)  (x0 : Int32) (x3 : Int32) (x4 : Int32)
    (h : mM_operands_b66  x0 x3 x4 = some rv) : mb_B p l e R s0 m args below meth c Q vwCl D A (fun _ => []) 5 [(0, .int x0), (3, .int x3), (4, .int x4)] [] 66 mb_0 := by
  unfold mM_operands_b66 at h
  intro ls H locs hl hP hS
  have Cx0 := Cx
  obtain ⟨⟨hx, hb, hml, hown, hts⟩, hK, hD, hA, hZ⟩ := Cx0
  refine lv_iload_n hx hb d_M_operands_66 rfl (lv_at hl 0 rfl) ?_
  refine lv_iconst (v := (5 : Int32)) hx hb d_M_operands_67 (by decide) ?_
  refine lv_icmp_lt hx hb d_M_operands_68 rfl (fun hc => ?_) (fun hc => ?_)
  · have h := mb_t hc h
    exact zM_operands_b109 Cx hR hret  x4 h ls H locs (lv_sub hl [2] rfl) hP hS
  · have h := mb_f hc h
    refine lv_iload_n hx hb d_M_operands_71 rfl (lv_at hl 0 rfl) ?_
    refine lv_bipush (v := (7 : Int32)) hx hb d_M_operands_72 (by decide) ?_
    refine lv_icmp_gt hx hb d_M_operands_74 rfl (fun hc => ?_) (fun hc => ?_)
    · have h := mb_t hc h
      exact zM_operands_b109 Cx hR hret  x4 h ls H locs (lv_sub hl [2] rfl) hP hS
    · have h := mb_f hc h
      refine lv_iload hx hb d_M_operands_77 (lv_at hl 2 rfl) ?_
      refine lv_if_eq hx hb d_M_operands_79 rfl (fun hc => ?_) (fun hc => ?_)
      · have h := mb_t hc h
        exact zM_operands_b106 Cx hR hret   h ls H locs (lv_sub hl [] rfl) hP hS
      · have h := mb_f hc h
        refine lv_iload_n hx hb d_M_operands_82 rfl (lv_at hl 1 rfl) ?_
        refine lv_iconst (v := (0 : Int32)) hx hb d_M_operands_83 (by decide) ?_
        refine lv_iload_n hx hb d_M_operands_84 rfl (lv_at hl 0 rfl) ?_
        refine lv_bipush (v := (7 : Int32)) hx hb d_M_operands_85 (by decide) ?_
        refine lv_icmp_ne hx hb d_M_operands_87 rfl (fun hc => ?_) (fun hc => ?_)
        · have h := mb_f hc h
          refine lv_iconst (v := (1 : Int32)) hx hb d_M_operands_95 (by decide) ?_
          exact zM_operands_b96 Cx hR hret  (1 : Int32) (0 : Int32) x3 h ls H locs (lv_sub hl [] rfl) hP hS
        · have h := mb_t hc h
          refine lv_bipush (v := (11 : Int32)) hx hb d_M_operands_90 (by decide) ?_
          refine lv_goto hx hb d_M_operands_92 rfl ?_
          exact zM_operands_b96 Cx hR hret  (11 : Int32) (0 : Int32) x3 h ls H locs (lv_sub hl [] rfl) hP hS
set_option maxRecDepth 100000 in
set_option maxHeartbeats 4000000 in
theorem zM_operands_b64 {p : Program} {l : Launch} {e : Env} {R : Room} {s0 : State} {m : MethodId} {args : Array Value} {below : List Frame} {meth : Method} {c : Code} {Q : State → Prop} {A : Nat → Prop} {D : va_G} {rv : Int32}
    (Cx : mb_C p s0 m args meth c c_M_operands 5 lw_w cnM (fun _ _ => True) vwCl D [] A (fun _ => [])) (hR : 1 ≤ R.frames ∧ 22 ≤ R.locals)
    (hret : (rv = 0 ∨ rv = 1) → mb_R p l e R s0 m args below meth c Q vwCl D A (fun _ => []) c_M_operands .ireturn [.int rv] mb_0)  (x0 : Int32) (x3 : Int32) (y0 : Int32)
    (h : mM_operands_b64  x0 x3 y0 = some rv) : mb_B p l e R s0 m args below meth c Q vwCl D A (fun _ => []) 5 [(0, .int x0), (3, .int x3)] [.int y0] 64 mb_0 := by
  unfold mM_operands_b64 at h
  intro ls H locs hl hP hS
  have Cx0 := Cx
  obtain ⟨⟨hx, hb, hml, hown, hts⟩, hK, hD, hA, hZ⟩ := Cx0
  refine lv_istore (lv' := [(4, .int y0), (0, .int x0), (3, .int x3)]) hx hb d_M_operands_64 hl (by decide) rfl (fun ls hl => ?_)
  exact zM_operands_b66 Cx hR hret  x0 x3 y0 h ls H locs (lv_sub hl [1, 2, 0] rfl) hP hS
set_option maxRecDepth 100000 in
set_option maxHeartbeats 4000000 in
theorem zM_operands_b63 {p : Program} {l : Launch} {e : Env} {R : Room} {s0 : State} {m : MethodId} {args : Array Value} {below : List Frame} {meth : Method} {c : Code} {Q : State → Prop} {A : Nat → Prop} {D : va_G} {rv : Int32}
    (Cx : mb_C p s0 m args meth c c_M_operands 5 lw_w cnM (fun _ _ => True) vwCl D [] A (fun _ => [])) (hR : 1 ≤ R.frames ∧ 22 ≤ R.locals)
    (hret : (rv = 0 ∨ rv = 1) → mb_R p l e R s0 m args below meth c Q vwCl D A (fun _ => []) c_M_operands .ireturn [.int rv] mb_0)  (x0 : Int32) (x3 : Int32)
    (h : mM_operands_b63  x0 x3 = some rv) : mb_B p l e R s0 m args below meth c Q vwCl D A (fun _ => []) 5 [(0, .int x0), (3, .int x3)] [] 63 mb_0 := by
  unfold mM_operands_b63 at h
  intro ls H locs hl hP hS
  have Cx0 := Cx
  obtain ⟨⟨hx, hb, hml, hown, hts⟩, hK, hD, hA, hZ⟩ := Cx0
  refine lv_iconst (v := (0 : Int32)) hx hb d_M_operands_63 (by decide) ?_
  exact zM_operands_b64 Cx hR hret  x0 x3 (0 : Int32) h ls H locs (lv_sub hl [0, 1] rfl) hP hS
set_option maxRecDepth 100000 in
set_option maxHeartbeats 4000000 in
theorem zM_operands_b45 {p : Program} {l : Launch} {e : Env} {R : Room} {s0 : State} {m : MethodId} {args : Array Value} {below : List Frame} {meth : Method} {c : Code} {Q : State → Prop} {A : Nat → Prop} {D : va_G} {rv : Int32}
    (Cx : mb_C p s0 m args meth c c_M_operands 5 lw_w cnM (fun _ _ => True) vwCl D [] A (fun _ => [])) (hR : 1 ≤ R.frames ∧ 22 ≤ R.locals)
    (hret : (rv = 0 ∨ rv = 1) → mb_R p l e R s0 m args below meth c Q vwCl D A (fun _ => []) c_M_operands .ireturn [.int rv] mb_0)  (x0 : Int32) (x2 : Int32) (x3 : Int32) (x4 : Int32)
    (h : mM_operands_b45  x0 x2 x3 x4 = some rv) : mb_B p l e R s0 m args below meth c Q vwCl D A (fun _ => []) 5 [(0, .int x0), (2, .int x2), (3, .int x3), (4, .int x4)] [] 45 mb_0 := by
  unfold mM_operands_b45 at h
  intro ls H locs hl hP hS
  have Cx0 := Cx
  obtain ⟨⟨hx, hb, hml, hown, hts⟩, hK, hD, hA, hZ⟩ := Cx0
  refine lv_iload hx hb d_M_operands_45 (lv_at hl 3 rfl) ?_
  refine lv_if_eq hx hb d_M_operands_47 rfl (fun hc => ?_) (fun hc => ?_)
  · have h := mb_t hc h
    exact zM_operands_b63 Cx hR hret  x0 x3 h ls H locs (lv_sub hl [0, 2] rfl) hP hS
  · have h := mb_f hc h
    refine lv_iload_n hx hb d_M_operands_50 rfl (lv_at hl 1 rfl) ?_
    refine lv_iconst (v := (0 : Int32)) hx hb d_M_operands_51 (by decide) ?_
    refine lv_iconst (v := (3 : Int32)) hx hb d_M_operands_52 (by decide) ?_
    obtain ⟨v2, hv2, h⟩ := mb_cal0_ex h
    refine mb_go0I (st := mb_0) Cx (mb_runS0 (As := [.int x2, .int (0 : Int32), .int (3 : Int32)]) (rest := []) Cx (w_M_within l D hv2 H.size) (mb_cwS 3 hts wd_622 wd_623 wd_7 wd_624 rfl rfl rfl (by decide +kernel) ⟨Nat.le_trans (by decide) hR.1, Nat.le_trans (by decide) hR.2⟩) rfl hl.1 rfl (Nat.le_of_ble_eq_true rfl) d_M_operands_53) hP hS (fun H locs hP hS => ?_)
    refine lv_if_eq hx hb d_M_operands_56 rfl (fun hc => ?_) (fun hc => ?_)
    · have h := mb_t hc h
      exact zM_operands_b63 Cx hR hret  x0 x3 h ls H locs (lv_sub hl [0, 2] rfl) hP hS
    · have h := mb_f hc h
      refine lv_iconst (v := (1 : Int32)) hx hb d_M_operands_59 (by decide) ?_
      refine lv_goto hx hb d_M_operands_60 rfl ?_
      exact zM_operands_b64 Cx hR hret  x0 x3 (1 : Int32) h ls H locs (lv_sub hl [0, 2] rfl) hP hS
set_option maxRecDepth 100000 in
set_option maxHeartbeats 4000000 in
theorem zM_operands_b28 {p : Program} {l : Launch} {e : Env} {R : Room} {s0 : State} {m : MethodId} {args : Array Value} {below : List Frame} {meth : Method} {c : Code} {Q : State → Prop} {A : Nat → Prop} {D : va_G} {rv : Int32}
    (Cx : mb_C p s0 m args meth c c_M_operands 5 lw_w cnM (fun _ _ => True) vwCl D [] A (fun _ => [])) (hR : 1 ≤ R.frames ∧ 22 ≤ R.locals)
    (hret : (rv = 0 ∨ rv = 1) → mb_R p l e R s0 m args below meth c Q vwCl D A (fun _ => []) c_M_operands .ireturn [.int rv] mb_0)  (x0 : Int32) (x2 : Int32) (x3 : Int32) (y0 : Int32)
    (h : mM_operands_b28  x0 x2 x3 y0 = some rv) : mb_B p l e R s0 m args below meth c Q vwCl D A (fun _ => []) 5 [(0, .int x0), (2, .int x2), (3, .int x3)] [.int y0] 28 mb_0 := by
  unfold mM_operands_b28 at h
  intro ls H locs hl hP hS
  have Cx0 := Cx
  obtain ⟨⟨hx, hb, hml, hown, hts⟩, hK, hD, hA, hZ⟩ := Cx0
  refine lv_istore (lv' := [(4, .int y0), (0, .int x0), (2, .int x2), (3, .int x3)]) hx hb d_M_operands_28 hl (by decide) rfl (fun ls hl => ?_)
  refine lv_iload_n hx hb d_M_operands_30 rfl (lv_at hl 1 rfl) ?_
  refine lv_if_eq hx hb d_M_operands_31 rfl (fun hc => ?_) (fun hc => ?_)
  · have h := mb_t hc h
    exact zM_operands_b45 Cx hR hret  x0 x2 x3 y0 h ls H locs (lv_sub hl [1, 2, 3, 0] rfl) hP hS
  · have h := mb_f hc h
    refine lv_iload_n hx hb d_M_operands_34 rfl (lv_at hl 1 rfl) ?_
    refine lv_iconst (v := (4 : Int32)) hx hb d_M_operands_35 (by decide) ?_
    refine lv_icmp_lt hx hb d_M_operands_36 rfl (fun hc => ?_) (fun hc => ?_)
    · have h := mb_t hc h
      exact zM_operands_b66 Cx hR hret  x0 x3 y0 h ls H locs (lv_sub hl [1, 3, 0] rfl) hP hS
    · have h := mb_f hc h
      refine lv_iload_n hx hb d_M_operands_39 rfl (lv_at hl 1 rfl) ?_
      refine lv_bipush (v := (7 : Int32)) hx hb d_M_operands_40 (by decide) ?_
      refine lv_icmp_gt hx hb d_M_operands_42 rfl (fun hc => ?_) (fun hc => ?_)
      · have h := mb_t hc h
        exact zM_operands_b66 Cx hR hret  x0 x3 y0 h ls H locs (lv_sub hl [1, 3, 0] rfl) hP hS
      · have h := mb_f hc h
        exact zM_operands_b45 Cx hR hret  x0 x2 x3 y0 h ls H locs (lv_sub hl [1, 2, 3, 0] rfl) hP hS
set_option maxRecDepth 100000 in
set_option maxHeartbeats 4000000 in
theorem zM_operands_b12 {p : Program} {l : Launch} {e : Env} {R : Room} {s0 : State} {m : MethodId} {args : Array Value} {below : List Frame} {meth : Method} {c : Code} {Q : State → Prop} {A : Nat → Prop} {D : va_G} {rv : Int32}
    (Cx : mb_C p s0 m args meth c c_M_operands 5 lw_w cnM (fun _ _ => True) vwCl D [] A (fun _ => [])) (hR : 1 ≤ R.frames ∧ 22 ≤ R.locals)
    (hret : (rv = 0 ∨ rv = 1) → mb_R p l e R s0 m args below meth c Q vwCl D A (fun _ => []) c_M_operands .ireturn [.int rv] mb_0)  (x0 : Int32) (x1 : Int32) (x2 : Int32) (x3 : Int32)
    (h : mM_operands_b12  x0 x1 x2 x3 = some rv) : mb_B p l e R s0 m args below meth c Q vwCl D A (fun _ => []) 5 [(0, .int x0), (1, .int x1), (2, .int x2), (3, .int x3)] [] 12 mb_0 := by
  unfold mM_operands_b12 at h
  intro ls H locs hl hP hS
  have Cx0 := Cx
  obtain ⟨⟨hx, hb, hml, hown, hts⟩, hK, hD, hA, hZ⟩ := Cx0
  refine lv_iload_n hx hb d_M_operands_12 rfl (lv_at hl 1 rfl) ?_
  refine lv_iconst (v := (0 : Int32)) hx hb d_M_operands_13 (by decide) ?_
  refine lv_bipush (v := (11 : Int32)) hx hb d_M_operands_14 (by decide) ?_
  obtain ⟨v3, hv3, h⟩ := mb_cal0_ex h
  refine mb_go0I (st := mb_0) Cx (mb_runS0 (As := [.int x1, .int (0 : Int32), .int (11 : Int32)]) (rest := []) Cx (w_M_within l D hv3 H.size) (mb_cwS 3 hts wd_622 wd_623 wd_7 wd_624 rfl rfl rfl (by decide +kernel) ⟨Nat.le_trans (by decide) hR.1, Nat.le_trans (by decide) hR.2⟩) rfl hl.1 rfl (Nat.le_of_ble_eq_true rfl) d_M_operands_16) hP hS (fun H locs hP hS => ?_)
  refine lv_goto hx hb d_M_operands_19 rfl ?_
  exact zM_operands_b28 Cx hR hret  x0 x2 x3 v3 h ls H locs (lv_sub hl [0, 2, 3] rfl) hP hS
set_option maxRecDepth 100000 in
set_option maxHeartbeats 4000000 in
theorem w_M_operands (l : Launch) (D : va_G) {x0 : Int32} {x1 : Int32} {x2 : Int32} {x3 : Int32} {rv : Int32}
    (h : mM_operands x0 x1 x2 x3 = some rv) : mb_MI l y_M_operands ws_M_operands rm_M_operands (fun _ _ => True) vwCl D [] (fun _ => []) [.int x0, .int x1, .int x2, .int x3] mb_0 rv mb_0 := by
  refine mb_ofZ mb_Z0ok (by decide) rfl (Nat.le_of_ble_eq_true rfl) mb_D0ok ?_
  intro p e s0 m args below meth c Q A Cx hret
  have hR : 1 ≤ (rm_M_operands).frames ∧ 22 ≤ (rm_M_operands).locals := ⟨Nat.le_refl _, Nat.le_refl _⟩
  intro ls H locs hl hP hS
  have Cx0 := Cx
  obtain ⟨⟨hx, hb, hml, hown, hts⟩, hK, hD, hA, hZ⟩ := Cx0
  have hl : lv_has ls 5 [(0, .int x0), (1, .int x1), (2, .int x2), (3, .int x3)] := hl
  unfold mM_operands at h
  refine lv_iload_n hx hb d_M_operands_0 rfl (lv_at hl 0 rfl) ?_
  refine lv_bipush (v := (8 : Int32)) hx hb d_M_operands_1 (by decide) ?_
  refine lv_icmp_eq hx hb d_M_operands_3 rfl (fun hc => ?_) (fun hc => ?_)
  · have h := mb_t hc h
    exact zM_operands_b12 Cx hR hret  x0 x1 x2 x3 h ls H locs (lv_sub hl [0, 1, 2, 3] rfl) hP hS
  · have h := mb_f hc h
    refine lv_iload_n hx hb d_M_operands_6 rfl (lv_at hl 0 rfl) ?_
    refine lv_bipush (v := (9 : Int32)) hx hb d_M_operands_7 (by decide) ?_
    refine lv_icmp_ne hx hb d_M_operands_9 rfl (fun hc => ?_) (fun hc => ?_)
    · have h := mb_f hc h
      refine lv_iload_n hx hb d_M_operands_22 rfl (lv_at hl 1 rfl) ?_
      refine lv_iconst (v := (0 : Int32)) hx hb d_M_operands_23 (by decide) ?_
      refine lv_iconst (v := (3 : Int32)) hx hb d_M_operands_24 (by decide) ?_
      obtain ⟨v4, hv4, h⟩ := mb_cal0_ex h
      refine mb_go0I (st := mb_0) Cx (mb_runS0 (As := [.int x1, .int (0 : Int32), .int (3 : Int32)]) (rest := []) Cx (w_M_within l D hv4 H.size) (mb_cwS 3 hts wd_622 wd_623 wd_7 wd_624 rfl rfl rfl (by decide +kernel) ⟨Nat.le_trans (by decide) hR.1, Nat.le_trans (by decide) hR.2⟩) rfl hl.1 rfl (Nat.le_of_ble_eq_true rfl) d_M_operands_25) hP hS (fun H locs hP hS => ?_)
      exact zM_operands_b28 Cx hR hret  x0 x2 x3 v4 h ls H locs (lv_sub hl [0, 2, 3] rfl) hP hS
    · have h := mb_t hc h
      exact zM_operands_b12 Cx hR hret  x0 x1 x2 x3 h ls H locs (lv_sub hl [0, 1, 2, 3] rfl) hP hS
set_option maxRecDepth 100000 in
set_option maxHeartbeats 4000000 in
theorem w_M_change (l : Launch) (D : va_G) (X : Nat → Nat) (cI cZ cJ : ClassId)  {s : mb_S} {rv : Unit} {rs : mb_S}
    (h : mM_change  s = some (rv, rs)) : mb_MV l y_M_change ws_M_change rm_M_change (fun _ _ => True) vwCl D [(cI, .int), (cZ, .boolean), (cJ, .long)] (WM X cI cZ cJ) [.ref (X 0)] s rs := by
  refine mb_ofV mb_Z0ok (by decide) rfl (Nat.le_of_ble_eq_true rfl) mb_DMok ?_
  intro p e s0 m args below meth c Q A Cx hret
  have hR : 0 ≤ (rm_M_change).frames ∧ 0 ≤ (rm_M_change).locals := ⟨Nat.le_refl _, Nat.le_refl _⟩
  intro ls H locs hl hP hS
  have Cx0 := Cx
  obtain ⟨⟨hx, hb, hml, hown, hts⟩, hK, hD, hA, hZ⟩ := Cx0
  have hl : lv_has ls 1 [(0, .ref (X 0))] := hl
  unfold mM_change at h
  refine lv_aload_n hx hb d_M_change_0 rfl (lv_at hl 0 rfl) ?_
  refine lv_iconst (v := (0 : Int32)) hx hb d_M_change_1 (by decide) ?_
  have h := mb_putF_ex h
  refine va_put (ci := 5) (v := .int (0 : Int32)) (ty := .int) (C := cnM) (T := fTM) (N := 30) hx hb hts uwM fyM fyM_ok fnM hown hK hP (hD _) hS 0 rfl rfl 7 (by decide) (hts _ wd_532) (fun _ h9 => h9) rfl (by decide +kernel) rfl rfl (Nat.le_of_ble_eq_true rfl) d_M_change_2 (fun H locs hP _ hS => ?_)
  have hP : va_P D vwCl (WM X cI cZ cJ (mb_setF s 0 (0 : Int32))) H := hP
  generalize mb_setF s 0 (0 : Int32) = s1 at hP h
  refine lv_aload_n hx hb d_M_change_5 rfl (lv_at hl 0 rfl) ?_
  refine lv_iconst (v := (0 : Int32)) hx hb d_M_change_6 (by decide) ?_
  have h := mb_putF_ex h
  refine va_put (ci := 5) (v := .int (0 : Int32)) (ty := .int) (C := cnM) (T := fTM) (N := 30) hx hb hts uwM fyM fyM_ok fnM hown hK hP (hD _) hS 0 rfl rfl 17 (by decide) (hts _ wd_542) (fun _ h9 => h9) rfl (by decide +kernel) rfl rfl (Nat.le_of_ble_eq_true rfl) d_M_change_7 (fun H locs hP _ hS => ?_)
  have hP : va_P D vwCl (WM X cI cZ cJ (mb_setF s1 2 (0 : Int32))) H := hP
  generalize mb_setF s1 2 (0 : Int32) = s2 at hP h
  exact mb_eV hret h d_M_change_10 hP hS
set_option maxRecDepth 100000 in
set_option maxHeartbeats 4000000 in
theorem zM_add_b92 {p : Program} {l : Launch} {e : Env} {R : Room} {s0 : State} {m : MethodId} {args : Array Value} {below : List Frame} {meth : Method} {c : Code} {Q : State → Prop} {A : Nat → Prop} {D : va_G} {X : Nat → Nat} {cI cZ cJ : ClassId} {rv : Int32} {rs : mb_S}
    (Cx : mb_C p s0 m args meth c c_M_add 8 lw_w cnM (fun _ _ => True) vwCl D [(cI, .int), (cZ, .boolean), (cJ, .long)] A (WM X cI cZ cJ)) (hR : 2 ≤ R.frames ∧ 46 ≤ R.locals)
    (hret : mb_R p l e R s0 m args below meth c Q vwCl D A (WM X cI cZ cJ) c_M_add .ireturn [.int rv] rs)   (s : mb_S)
    (h : mM_add_b92  s = some (rv, rs)) : mb_B p l e R s0 m args below meth c Q vwCl D A (WM X cI cZ cJ) 8 [] [] 92 s := by
  unfold mM_add_b92 at h
  intro ls H locs hl hP hS
  have Cx0 := Cx
  obtain ⟨⟨hx, hb, hml, hown, hts⟩, hK, hD, hA, hZ⟩ := Cx0
  refine lv_iconst (v := (-1 : Int32)) hx hb d_M_add_92 (by decide) ?_
  exact mb_eI hret h d_M_add_93 hP hS
set_option maxRecDepth 100000 in
set_option maxHeartbeats 4000000 in
theorem zM_add_b53 {p : Program} {l : Launch} {e : Env} {R : Room} {s0 : State} {m : MethodId} {args : Array Value} {below : List Frame} {meth : Method} {c : Code} {Q : State → Prop} {A : Nat → Prop} {D : va_G} {X : Nat → Nat} {cI cZ cJ : ClassId} {rv : Int32} {rs : mb_S}
    (Cx : mb_C p s0 m args meth c c_M_add 8 lw_w cnM (fun _ _ => True) vwCl D [(cI, .int), (cZ, .boolean), (cJ, .long)] A (WM X cI cZ cJ)) (hR : 2 ≤ R.frames ∧ 46 ≤ R.locals)
    (hret : mb_R p l e R s0 m args below meth c Q vwCl D A (WM X cI cZ cJ) c_M_add .ireturn [.int rv] rs)  (x1 : Int32) (x2 : Int32) (x3 : Int32) (x4 : Int32) (x5 : Int32) (y0 : Int32) (s : mb_S)
    (h : mM_add_b53  x1 x2 x3 x4 x5 y0 s = some (rv, rs)) : mb_B p l e R s0 m args below meth c Q vwCl D A (WM X cI cZ cJ) 8 [(0, .ref (X 0)), (1, .int x1), (2, .int x2), (3, .int x3), (4, .int x4), (5, .int x5)] [.int y0] 53 s := by
  unfold mM_add_b53 at h
  intro ls H locs hl hP hS
  have Cx0 := Cx
  obtain ⟨⟨hx, hb, hml, hown, hts⟩, hK, hD, hA, hZ⟩ := Cx0
  refine lv_istore (lv' := [(6, .int y0), (0, .ref (X 0)), (1, .int x1), (2, .int x2), (3, .int x3), (4, .int x4), (5, .int x5)]) hx hb d_M_add_53 hl (by decide) rfl (fun ls hl => ?_)
  refine lv_aload_n hx hb d_M_add_55 rfl (lv_at hl 1 rfl) ?_
  refine va_get (ci := 5) (C := cnM) (T := fTM) (N := 30) hx hb hts uwM hown hK hP 0 rfl rfl 0 (by decide) (hts _ wd_525) (fun _ h9 => h9) rfl d_M_add_56 ?_
  refine lv_iload_n hx hb d_M_add_59 rfl (lv_at hl 2 rfl) ?_
  refine mb_iald hx hb hK hP 1 0 rfl rfl h d_M_add_60 (fun v1 h => ?_)
  refine lv_bipush (v := (12 : Int32)) hx hb d_M_add_61 (by decide) ?_
  refine lv_icmp_eq hx hb d_M_add_63 rfl (fun hc => ?_) (fun hc => ?_)
  · have h := mb_t hc h
    exact zM_add_b92 Cx hR hret  s h ls H locs (lv_sub hl [] rfl) hP hS
  · have h := mb_f hc h
    refine lv_aload_n hx hb d_M_add_66 rfl (lv_at hl 1 rfl) ?_
    refine lv_iconst (v := (-1 : Int32)) hx hb d_M_add_67 (by decide) ?_
    refine lv_bipush (v := (6 : Int32)) hx hb d_M_add_68 (by decide) ?_
    refine lv_iconst (v := (0 : Int32)) hx hb d_M_add_70 (by decide) ?_
    obtain ⟨v2, s3, hs3, h⟩ := mb_cal_ex h
    refine mb_goI Cx (mb_runV (As := [.int (-1 : Int32), .int (6 : Int32), .int (0 : Int32)]) (rest := []) mb_Z0ok Cx (w_M_before l D X cI cZ cJ hs3 H.size) (mb_cwV 3 hts wd_628 wd_630 sel_39 wd_7 wd_631 rfl rfl rfl (by decide +kernel) ⟨Nat.le_trans (by decide) hR.1, Nat.le_trans (by decide) hR.2⟩) hP hS 0 rfl rfl rfl hl.1 rfl (Nat.le_of_ble_eq_true rfl) d_M_add_71) hS (fun H locs hP hS => ?_)
    refine lv_bipush (v := (32 : Int32)) hx hb d_M_add_74 (by decide) ?_
    refine lv_icmp_eq hx hb d_M_add_76 rfl (fun hc => ?_) (fun hc => ?_)
    · have h := mb_t hc h
      exact zM_add_b92 Cx hR hret  s3 h ls H locs (lv_sub hl [] rfl) hP hS
    · have h := mb_f hc h
      refine lv_aload_n hx hb d_M_add_79 rfl (lv_at hl 1 rfl) ?_
      refine lv_iload_n hx hb d_M_add_80 rfl (lv_at hl 3 rfl) ?_
      refine lv_bipush (v := (6 : Int32)) hx hb d_M_add_81 (by decide) ?_
      refine lv_iconst (v := (0 : Int32)) hx hb d_M_add_83 (by decide) ?_
      obtain ⟨v4, s5, hs5, h⟩ := mb_cal_ex h
      refine mb_goI Cx (mb_runV (As := [.int x2, .int (6 : Int32), .int (0 : Int32)]) (rest := []) mb_Z0ok Cx (w_M_before l D X cI cZ cJ hs5 H.size) (mb_cwV 3 hts wd_628 wd_630 sel_39 wd_7 wd_631 rfl rfl rfl (by decide +kernel) ⟨Nat.le_trans (by decide) hR.1, Nat.le_trans (by decide) hR.2⟩) hP hS 0 rfl rfl rfl hl.1 rfl (Nat.le_of_ble_eq_true rfl) d_M_add_84) hS (fun H locs hP hS => ?_)
      refine lv_iload hx hb d_M_add_87 (lv_at hl 0 rfl) ?_
      refine lv_icmp_ne hx hb d_M_add_89 rfl (fun hc => ?_) (fun hc => ?_)
      · have h := mb_f hc h
        refine lv_bipush (v := (12 : Int32)) hx hb d_M_add_94 (by decide) ?_
        refine lv_iload_n hx hb d_M_add_96 rfl (lv_at hl 2 rfl) ?_
        refine lv_imul hx hb d_M_add_97 ?_
        refine lv_aload_n hx hb d_M_add_98 rfl (lv_at hl 1 rfl) ?_
        refine va_get (ci := 5) (C := cnM) (T := fTM) (N := 30) hx hb hts uwM hown hK hP 0 rfl rfl 0 (by decide) (hts _ wd_525) (fun _ h9 => h9) rfl d_M_add_99 ?_
        refine lv_iload_n hx hb d_M_add_102 rfl (lv_at hl 2 rfl) ?_
        refine mb_iald hx hb hK hP 1 0 rfl rfl h d_M_add_103 (fun v6 h => ?_)
        refine lv_iadd hx hb d_M_add_104 ?_
        refine lv_topi (fun v7 ev7 => ?_)
        have h := mb_at ev7 h
        refine lv_istore (lv' := [(7, .int v7), (6, .int y0), (0, .ref (X 0)), (1, .int x1), (2, .int x2), (3, .int x3), (4, .int x4), (5, .int x5)]) hx hb d_M_add_105 hl (by decide) rfl (fun ls hl => ?_)
        refine lv_aload_n hx hb d_M_add_107 rfl (lv_at hl 2 rfl) ?_
        refine va_get (ci := 5) (C := cnM) (T := fTM) (N := 30) hx hb hts uwM hown hK hP 0 rfl rfl 1 (by decide) (hts _ wd_526) (fun _ h9 => h9) rfl d_M_add_108 ?_
        refine lv_iload hx hb d_M_add_111 (lv_at hl 0 rfl) ?_
        refine lv_iload_n hx hb d_M_add_113 rfl (lv_at hl 4 rfl) ?_
        refine mb_iast (WS := WM X cI cZ cJ) hx hb hK hP hD hS 2 0 rfl rfl h d_M_add_114 rfl (fun H locs s8 hP hS h => ?_)
        refine lv_aload_n hx hb d_M_add_115 rfl (lv_at hl 2 rfl) ?_
        refine va_get (ci := 5) (C := cnM) (T := fTM) (N := 30) hx hb hts uwM hown hK hP 0 rfl rfl 2 (by decide) (hts _ wd_527) (fun _ h9 => h9) rfl d_M_add_116 ?_
        refine lv_iload hx hb d_M_add_119 (lv_at hl 0 rfl) ?_
        refine lv_iload_n hx hb d_M_add_121 rfl (lv_at hl 5 rfl) ?_
        refine mb_iast (WS := WM X cI cZ cJ) hx hb hK hP hD hS 3 0 rfl rfl h d_M_add_122 rfl (fun H locs s9 hP hS h => ?_)
        refine lv_aload_n hx hb d_M_add_123 rfl (lv_at hl 2 rfl) ?_
        refine va_get (ci := 5) (C := cnM) (T := fTM) (N := 30) hx hb hts uwM hown hK hP 0 rfl rfl 3 (by decide) (hts _ wd_528) (fun _ h9 => h9) rfl d_M_add_124 ?_
        refine lv_iload hx hb d_M_add_127 (lv_at hl 0 rfl) ?_
        refine lv_iload hx hb d_M_add_129 (lv_at hl 6 rfl) ?_
        refine mb_iast (WS := WM X cI cZ cJ) hx hb hK hP hD hS 4 0 rfl rfl h d_M_add_131 rfl (fun H locs s10 hP hS h => ?_)
        refine lv_aload_n hx hb d_M_add_132 rfl (lv_at hl 2 rfl) ?_
        refine va_get (ci := 5) (C := cnM) (T := fTM) (N := 30) hx hb hts uwM hown hK hP 0 rfl rfl 4 (by decide) (hts _ wd_529) (fun _ h9 => h9) rfl d_M_add_133 ?_
        refine lv_iload hx hb d_M_add_136 (lv_at hl 0 rfl) ?_
        refine lv_iload hx hb d_M_add_138 (lv_at hl 7 rfl) ?_
        refine mb_iast (WS := WM X cI cZ cJ) hx hb hK hP hD hS 5 0 rfl rfl h d_M_add_140 rfl (fun H locs s11 hP hS h => ?_)
        refine lv_aload_n hx hb d_M_add_141 rfl (lv_at hl 2 rfl) ?_
        refine va_get (ci := 5) (C := cnM) (T := fTM) (N := 30) hx hb hts uwM hown hK hP 0 rfl rfl 0 (by decide) (hts _ wd_525) (fun _ h9 => h9) rfl d_M_add_142 ?_
        refine lv_iload_n hx hb d_M_add_145 rfl (lv_at hl 3 rfl) ?_
        refine lv_dup2_11 hx hb d_M_add_146 rfl rfl ?_
        refine mb_iald hx hb hK hP 1 0 rfl rfl h d_M_add_147 (fun v12 h => ?_)
        refine lv_iconst (v := (1 : Int32)) hx hb d_M_add_148 (by decide) ?_
        refine lv_iadd hx hb d_M_add_149 ?_
        refine mb_iast (WS := WM X cI cZ cJ) hx hb hK hP hD hS 1 0 rfl rfl h d_M_add_150 rfl (fun H locs s13 hP hS h => ?_)
        refine lv_aload_n hx hb d_M_add_151 rfl (lv_at hl 2 rfl) ?_
        obtain ⟨_u, s14, hs14, h⟩ := mb_cal_ex h
        refine mb_goV Cx (mb_runV (As := []) (rest := []) mb_Z0ok Cx (w_M_change l D X cI cZ cJ hs14 H.size) (mb_cwV 0 hts wd_632 wd_634 sel_40 wd_7 wd_635 rfl rfl rfl (by decide +kernel) ⟨Nat.le_trans (by decide) hR.1, Nat.le_trans (by decide) hR.2⟩) hP hS 0 rfl rfl rfl hl.1 rfl (Nat.le_of_ble_eq_true rfl) d_M_add_152) hS (fun H locs hP hS => ?_)
        refine lv_aload_n hx hb d_M_add_155 rfl (lv_at hl 2 rfl) ?_
        refine va_get (ci := 5) (C := cnM) (T := fTM) (N := 30) hx hb hts uwM hown hK hP 0 rfl rfl 0 (by decide) (hts _ wd_525) (fun _ h9 => h9) rfl d_M_add_156 ?_
        refine lv_iload_n hx hb d_M_add_159 rfl (lv_at hl 3 rfl) ?_
        refine mb_iald hx hb hK hP 1 0 rfl rfl h d_M_add_160 (fun v15 h => ?_)
        refine lv_iconst (v := (1 : Int32)) hx hb d_M_add_161 (by decide) ?_
        refine lv_isub hx hb d_M_add_162 ?_
        exact mb_eI hret h d_M_add_163 hP hS
      · have h := mb_t hc h
        exact zM_add_b92 Cx hR hret  s5 h ls H locs (lv_sub hl [] rfl) hP hS
set_option maxRecDepth 100000 in
set_option maxHeartbeats 4000000 in
theorem zM_add_b31 {p : Program} {l : Launch} {e : Env} {R : Room} {s0 : State} {m : MethodId} {args : Array Value} {below : List Frame} {meth : Method} {c : Code} {Q : State → Prop} {A : Nat → Prop} {D : va_G} {X : Nat → Nat} {cI cZ cJ : ClassId} {rv : Int32} {rs : mb_S}
    (Cx : mb_C p s0 m args meth c c_M_add 8 lw_w cnM (fun _ _ => True) vwCl D [(cI, .int), (cZ, .boolean), (cJ, .long)] A (WM X cI cZ cJ)) (hR : 2 ≤ R.frames ∧ 46 ≤ R.locals)
    (hret : mb_R p l e R s0 m args below meth c Q vwCl D A (WM X cI cZ cJ) c_M_add .ireturn [.int rv] rs)   (s : mb_S)
    (h : mM_add_b31  s = some (rv, rs)) : mb_B p l e R s0 m args below meth c Q vwCl D A (WM X cI cZ cJ) 8 [] [] 31 s := by
  unfold mM_add_b31 at h
  intro ls H locs hl hP hS
  have Cx0 := Cx
  obtain ⟨⟨hx, hb, hml, hown, hts⟩, hK, hD, hA, hZ⟩ := Cx0
  refine lv_iconst (v := (-1 : Int32)) hx hb d_M_add_31 (by decide) ?_
  exact mb_eI hret h d_M_add_32 hP hS
set_option maxRecDepth 100000 in
set_option maxHeartbeats 4000000 in
theorem w_M_add (l : Launch) (D : va_G) (X : Nat → Nat) (cI cZ cJ : ClassId) {x1 : Int32} {x2 : Int32} {x3 : Int32} {x4 : Int32} {x5 : Int32} {s : mb_S} {rv : Int32} {rs : mb_S}
    (h : mM_add x1 x2 x3 x4 x5 s = some (rv, rs)) : mb_MI l y_M_add ws_M_add rm_M_add (fun _ _ => True) vwCl D [(cI, .int), (cZ, .boolean), (cJ, .long)] (WM X cI cZ cJ) [.ref (X 0), .int x1, .int x2, .int x3, .int x4, .int x5] s rv rs := by
  refine mb_ofI mb_Z0ok (by decide) rfl (Nat.le_of_ble_eq_true rfl) mb_DMok ?_
  intro p e s0 m args below meth c Q A Cx hret
  have hR : 2 ≤ (rm_M_add).frames ∧ 46 ≤ (rm_M_add).locals := ⟨Nat.le_refl _, Nat.le_refl _⟩
  intro ls H locs hl hP hS
  have Cx0 := Cx
  obtain ⟨⟨hx, hb, hml, hown, hts⟩, hK, hD, hA, hZ⟩ := Cx0
  have hl : lv_has ls 8 [(0, .ref (X 0)), (1, .int x1), (2, .int x2), (3, .int x3), (4, .int x4), (5, .int x5)] := hl
  unfold mM_add at h
  refine lv_iload_n hx hb d_M_add_0 rfl (lv_at hl 1 rfl) ?_
  refine lv_iconst (v := (0 : Int32)) hx hb d_M_add_1 (by decide) ?_
  refine lv_iconst (v := (5 : Int32)) hx hb d_M_add_2 (by decide) ?_
  obtain ⟨v16, hv16, h⟩ := mb_cal0_ex h
  refine mb_go0I (st := s) Cx (mb_runS0 (As := [.int x1, .int (0 : Int32), .int (5 : Int32)]) (rest := []) Cx (w_M_within l D hv16 H.size) (mb_cwS 3 hts wd_622 wd_623 wd_7 wd_624 rfl rfl rfl (by decide +kernel) ⟨Nat.le_trans (by decide) hR.1, Nat.le_trans (by decide) hR.2⟩) rfl hl.1 rfl (Nat.le_of_ble_eq_true rfl) d_M_add_3) hP hS (fun H locs hP hS => ?_)
  refine lv_if_eq hx hb d_M_add_6 rfl (fun hc => ?_) (fun hc => ?_)
  · have h := mb_t hc h
    exact zM_add_b31 Cx hR hret  s h ls H locs (lv_sub hl [] rfl) hP hS
  · have h := mb_f hc h
    refine lv_iload_n hx hb d_M_add_9 rfl (lv_at hl 2 rfl) ?_
    refine lv_iconst (v := (0 : Int32)) hx hb d_M_add_10 (by decide) ?_
    refine lv_bipush (v := (10 : Int32)) hx hb d_M_add_11 (by decide) ?_
    obtain ⟨v17, hv17, h⟩ := mb_cal0_ex h
    refine mb_go0I (st := s) Cx (mb_runS0 (As := [.int x2, .int (0 : Int32), .int (10 : Int32)]) (rest := []) Cx (w_M_within l D hv17 H.size) (mb_cwS 3 hts wd_622 wd_623 wd_7 wd_624 rfl rfl rfl (by decide +kernel) ⟨Nat.le_trans (by decide) hR.1, Nat.le_trans (by decide) hR.2⟩) rfl hl.1 rfl (Nat.le_of_ble_eq_true rfl) d_M_add_13) hP hS (fun H locs hP hS => ?_)
    refine lv_if_eq hx hb d_M_add_16 rfl (fun hc => ?_) (fun hc => ?_)
    · have h := mb_t hc h
      exact zM_add_b31 Cx hR hret  s h ls H locs (lv_sub hl [] rfl) hP hS
    · have h := mb_f hc h
      refine lv_iload_n hx hb d_M_add_19 rfl (lv_at hl 2 rfl) ?_
      refine lv_iload_n hx hb d_M_add_20 rfl (lv_at hl 3 rfl) ?_
      refine lv_iload hx hb d_M_add_21 (lv_at hl 4 rfl) ?_
      refine lv_iload hx hb d_M_add_23 (lv_at hl 5 rfl) ?_
      obtain ⟨v18, hv18, h⟩ := mb_cal0_ex h
      refine mb_go0I (st := s) Cx (mb_runS0 (As := [.int x2, .int x3, .int x4, .int x5]) (rest := []) Cx (w_M_operands l D hv18 H.size) (mb_cwS 4 hts wd_625 wd_626 wd_7 wd_627 rfl rfl rfl (by decide +kernel) ⟨Nat.le_trans (by decide) hR.1, Nat.le_trans (by decide) hR.2⟩) rfl hl.1 rfl (Nat.le_of_ble_eq_true rfl) d_M_add_25) hP hS (fun H locs hP hS => ?_)
      refine lv_if_ne hx hb d_M_add_28 rfl (fun hc => ?_) (fun hc => ?_)
      · have h := mb_f hc h
        refine lv_iload_n hx hb d_M_add_33 rfl (lv_at hl 2 rfl) ?_
        refine lv_if_ne hx hb d_M_add_34 rfl (fun hc => ?_) (fun hc => ?_)
        · have h := mb_f hc h
          refine lv_iload_n hx hb d_M_add_42 rfl (lv_at hl 2 rfl) ?_
          refine lv_iconst (v := (2 : Int32)) hx hb d_M_add_43 (by decide) ?_
          refine lv_icmp_gt hx hb d_M_add_44 rfl (fun hc => ?_) (fun hc => ?_)
          · have h := mb_t hc h
            refine lv_bipush (v := (32 : Int32)) hx hb d_M_add_51 (by decide) ?_
            exact zM_add_b53 Cx hR hret  x1 x2 x3 x4 x5 (32 : Int32) s h ls H locs (lv_sub hl [0, 1, 2, 3, 4, 5] rfl) hP hS
          · have h := mb_f hc h
            refine lv_iconst (v := (4 : Int32)) hx hb d_M_add_47 (by decide) ?_
            refine lv_goto hx hb d_M_add_48 rfl ?_
            exact zM_add_b53 Cx hR hret  x1 x2 x3 x4 x5 (4 : Int32) s h ls H locs (lv_sub hl [0, 1, 2, 3, 4, 5] rfl) hP hS
        · have h := mb_t hc h
          refine lv_bipush (v := (6 : Int32)) hx hb d_M_add_37 (by decide) ?_
          refine lv_goto hx hb d_M_add_39 rfl ?_
          exact zM_add_b53 Cx hR hret  x1 x2 x3 x4 x5 (6 : Int32) s h ls H locs (lv_sub hl [0, 1, 2, 3, 4, 5] rfl) hP hS
      · have h := mb_t hc h
        exact zM_add_b31 Cx hR hret  s h ls H locs (lv_sub hl [] rfl) hP hS
set_option maxRecDepth 100000 in
set_option maxHeartbeats 4000000 in
theorem zM_drop_b18 {p : Program} {l : Launch} {e : Env} {R : Room} {s0 : State} {m : MethodId} {args : Array Value} {below : List Frame} {meth : Method} {c : Code} {Q : State → Prop} {A : Nat → Prop} {D : va_G} {X : Nat → Nat} {cI cZ cJ : ClassId} {rv : Int32} {rs : mb_S}
    (Cx : mb_C p s0 m args meth c c_M_drop 2 lw_w cnM (fun _ _ => True) vwCl D [(cI, .int), (cZ, .boolean), (cJ, .long)] A (WM X cI cZ cJ)) (hR : 1 ≤ R.frames ∧ 22 ≤ R.locals)
    (hret : (rv = 0 ∨ rv = 1) → mb_R p l e R s0 m args below meth c Q vwCl D A (WM X cI cZ cJ) c_M_drop .ireturn [.int rv] rs)   (s : mb_S)
    (h : mM_drop_b18  s = some (rv, rs)) : mb_B p l e R s0 m args below meth c Q vwCl D A (WM X cI cZ cJ) 2 [] [] 18 s := by
  unfold mM_drop_b18 at h
  intro ls H locs hl hP hS
  have Cx0 := Cx
  obtain ⟨⟨hx, hb, hml, hown, hts⟩, hK, hD, hA, hZ⟩ := Cx0
  refine lv_iconst (v := (0 : Int32)) hx hb d_M_drop_18 (by decide) ?_
  exact mb_eZ hret h d_M_drop_19 hP hS
set_option maxRecDepth 100000 in
set_option maxHeartbeats 4000000 in
theorem w_M_drop (l : Launch) (D : va_G) (X : Nat → Nat) (cI cZ cJ : ClassId) {x1 : Int32} {s : mb_S} {rv : Int32} {rs : mb_S}
    (h : mM_drop x1 s = some (rv, rs)) : mb_MI l y_M_drop ws_M_drop rm_M_drop (fun _ _ => True) vwCl D [(cI, .int), (cZ, .boolean), (cJ, .long)] (WM X cI cZ cJ) [.ref (X 0), .int x1] s rv rs := by
  refine mb_ofZ mb_Z0ok (by decide) rfl (Nat.le_of_ble_eq_true rfl) mb_DMok ?_
  intro p e s0 m args below meth c Q A Cx hret
  have hR : 1 ≤ (rm_M_drop).frames ∧ 22 ≤ (rm_M_drop).locals := ⟨Nat.le_refl _, Nat.le_refl _⟩
  intro ls H locs hl hP hS
  have Cx0 := Cx
  obtain ⟨⟨hx, hb, hml, hown, hts⟩, hK, hD, hA, hZ⟩ := Cx0
  have hl : lv_has ls 2 [(0, .ref (X 0)), (1, .int x1)] := hl
  unfold mM_drop at h
  refine lv_iload_n hx hb d_M_drop_0 rfl (lv_at hl 1 rfl) ?_
  refine lv_iconst (v := (0 : Int32)) hx hb d_M_drop_1 (by decide) ?_
  refine lv_iconst (v := (5 : Int32)) hx hb d_M_drop_2 (by decide) ?_
  obtain ⟨v1, hv1, h⟩ := mb_cal0_ex h
  refine mb_go0I (st := s) Cx (mb_runS0 (As := [.int x1, .int (0 : Int32), .int (5 : Int32)]) (rest := []) Cx (w_M_within l D hv1 H.size) (mb_cwS 3 hts wd_622 wd_623 wd_7 wd_624 rfl rfl rfl (by decide +kernel) ⟨Nat.le_trans (by decide) hR.1, Nat.le_trans (by decide) hR.2⟩) rfl hl.1 rfl (Nat.le_of_ble_eq_true rfl) d_M_drop_3) hP hS (fun H locs hP hS => ?_)
  refine lv_if_eq hx hb d_M_drop_6 rfl (fun hc => ?_) (fun hc => ?_)
  · have h := mb_t hc h
    exact zM_drop_b18 Cx hR hret  s h ls H locs (lv_sub hl [] rfl) hP hS
  · have h := mb_f hc h
    refine lv_aload_n hx hb d_M_drop_9 rfl (lv_at hl 0 rfl) ?_
    refine va_get (ci := 5) (C := cnM) (T := fTM) (N := 30) hx hb hts uwM hown hK hP 0 rfl rfl 0 (by decide) (hts _ wd_525) (fun _ h9 => h9) rfl d_M_drop_10 ?_
    refine lv_iload_n hx hb d_M_drop_13 rfl (lv_at hl 1 rfl) ?_
    refine mb_iald hx hb hK hP 1 0 rfl rfl h d_M_drop_14 (fun v2 h => ?_)
    refine lv_if_ne hx hb d_M_drop_15 rfl (fun hc => ?_) (fun hc => ?_)
    · have h := mb_f hc h
      refine lv_aload_n hx hb d_M_drop_20 rfl (lv_at hl 0 rfl) ?_
      refine va_get (ci := 5) (C := cnM) (T := fTM) (N := 30) hx hb hts uwM hown hK hP 0 rfl rfl 0 (by decide) (hts _ wd_525) (fun _ h9 => h9) rfl d_M_drop_21 ?_
      refine lv_iload_n hx hb d_M_drop_24 rfl (lv_at hl 1 rfl) ?_
      refine lv_dup2_11 hx hb d_M_drop_25 rfl rfl ?_
      refine mb_iald hx hb hK hP 1 0 rfl rfl h d_M_drop_26 (fun v3 h => ?_)
      refine lv_iconst (v := (1 : Int32)) hx hb d_M_drop_27 (by decide) ?_
      refine lv_isub hx hb d_M_drop_28 ?_
      refine mb_iast (WS := WM X cI cZ cJ) hx hb hK hP hD hS 1 0 rfl rfl h d_M_drop_29 rfl (fun H locs s4 hP hS h => ?_)
      refine lv_aload_n hx hb d_M_drop_30 rfl (lv_at hl 0 rfl) ?_
      obtain ⟨_u, s5, hs5, h⟩ := mb_cal_ex h
      refine mb_goV Cx (mb_runV (As := []) (rest := []) mb_Z0ok Cx (w_M_change l D X cI cZ cJ hs5 H.size) (mb_cwV 0 hts wd_632 wd_634 sel_40 wd_7 wd_635 rfl rfl rfl (by decide +kernel) ⟨Nat.le_trans (by decide) hR.1, Nat.le_trans (by decide) hR.2⟩) hP hS 0 rfl rfl rfl hl.1 rfl (Nat.le_of_ble_eq_true rfl) d_M_drop_31) hS (fun H locs hP hS => ?_)
      refine lv_iconst (v := (1 : Int32)) hx hb d_M_drop_34 (by decide) ?_
      exact mb_eZ hret h d_M_drop_35 hP hS
    · have h := mb_t hc h
      exact zM_drop_b18 Cx hR hret  s h ls H locs (lv_sub hl [] rfl) hP hS
set_option maxRecDepth 100000 in
set_option maxHeartbeats 4000000 in
theorem zM_derive_b20 {p : Program} {l : Launch} {e : Env} {R : Room} {s0 : State} {m : MethodId} {args : Array Value} {below : List Frame} {meth : Method} {c : Code} {Q : State → Prop} {A : Nat → Prop} {D : va_G} {X : Nat → Nat} {cI cZ cJ : ClassId} {rv : Int32} {rs : mb_S}
    (Cx : mb_C p s0 m args meth c c_M_derive 3 lw_w cnM (fun _ _ => True) vwCl D [(cI, .int), (cZ, .boolean), (cJ, .long)] A (WM X cI cZ cJ)) (hR : 1 ≤ R.frames ∧ 22 ≤ R.locals)
    (hret : (rv = 0 ∨ rv = 1) → mb_R p l e R s0 m args below meth c Q vwCl D A (WM X cI cZ cJ) c_M_derive .ireturn [.int rv] rs)   (s : mb_S)
    (h : mM_derive_b20  s = some (rv, rs)) : mb_B p l e R s0 m args below meth c Q vwCl D A (WM X cI cZ cJ) 3 [] [] 20 s := by
  unfold mM_derive_b20 at h
  intro ls H locs hl hP hS
  have Cx0 := Cx
  obtain ⟨⟨hx, hb, hml, hown, hts⟩, hK, hD, hA, hZ⟩ := Cx0
  refine lv_iconst (v := (0 : Int32)) hx hb d_M_derive_20 (by decide) ?_
  exact mb_eZ hret h d_M_derive_21 hP hS
set_option maxRecDepth 100000 in
set_option maxHeartbeats 4000000 in
theorem w_M_derive (l : Launch) (D : va_G) (X : Nat → Nat) (cI cZ cJ : ClassId) {x1 : Int32} {x2 : Int32} {s : mb_S} {rv : Int32} {rs : mb_S}
    (h : mM_derive x1 x2 s = some (rv, rs)) : mb_MI l y_M_derive ws_M_derive rm_M_derive (fun _ _ => True) vwCl D [(cI, .int), (cZ, .boolean), (cJ, .long)] (WM X cI cZ cJ) [.ref (X 0), .int x1, .int x2] s rv rs := by
  refine mb_ofZ mb_Z0ok (by decide) rfl (Nat.le_of_ble_eq_true rfl) mb_DMok ?_
  intro p e s0 m args below meth c Q A Cx hret
  have hR : 1 ≤ (rm_M_derive).frames ∧ 22 ≤ (rm_M_derive).locals := ⟨Nat.le_refl _, Nat.le_refl _⟩
  intro ls H locs hl hP hS
  have Cx0 := Cx
  obtain ⟨⟨hx, hb, hml, hown, hts⟩, hK, hD, hA, hZ⟩ := Cx0
  have hl : lv_has ls 3 [(0, .ref (X 0)), (1, .int x1), (2, .int x2)] := hl
  unfold mM_derive at h
  refine lv_iload_n hx hb d_M_derive_0 rfl (lv_at hl 1 rfl) ?_
  refine lv_iconst (v := (0 : Int32)) hx hb d_M_derive_1 (by decide) ?_
  refine lv_iconst (v := (3 : Int32)) hx hb d_M_derive_2 (by decide) ?_
  obtain ⟨v1, hv1, h⟩ := mb_cal0_ex h
  refine mb_go0I (st := s) Cx (mb_runS0 (As := [.int x1, .int (0 : Int32), .int (3 : Int32)]) (rest := []) Cx (w_M_within l D hv1 H.size) (mb_cwS 3 hts wd_622 wd_623 wd_7 wd_624 rfl rfl rfl (by decide +kernel) ⟨Nat.le_trans (by decide) hR.1, Nat.le_trans (by decide) hR.2⟩) rfl hl.1 rfl (Nat.le_of_ble_eq_true rfl) d_M_derive_3) hP hS (fun H locs hP hS => ?_)
  refine lv_if_eq hx hb d_M_derive_6 rfl (fun hc => ?_) (fun hc => ?_)
  · have h := mb_t hc h
    exact zM_derive_b20 Cx hR hret  s h ls H locs (lv_sub hl [] rfl) hP hS
  · have h := mb_f hc h
    refine lv_iload_n hx hb d_M_derive_9 rfl (lv_at hl 2 rfl) ?_
    refine lv_iconst (v := (-1 : Int32)) hx hb d_M_derive_10 (by decide) ?_
    refine lv_iload_n hx hb d_M_derive_11 rfl (lv_at hl 1 rfl) ?_
    refine lv_iconst (v := (1 : Int32)) hx hb d_M_derive_12 (by decide) ?_
    refine lv_isub hx hb d_M_derive_13 ?_
    obtain ⟨v2, hv2, h⟩ := mb_cal0_ex h
    refine mb_go0I (st := s) Cx (mb_runS0 (As := [.int x2, .int (-1 : Int32), .int (x1 - (1 : Int32))]) (rest := []) Cx (w_M_within l D hv2 H.size) (mb_cwS 3 hts wd_622 wd_623 wd_7 wd_624 rfl rfl rfl (by decide +kernel) ⟨Nat.le_trans (by decide) hR.1, Nat.le_trans (by decide) hR.2⟩) rfl hl.1 rfl (Nat.le_of_ble_eq_true rfl) d_M_derive_14) hP hS (fun H locs hP hS => ?_)
    refine lv_if_ne hx hb d_M_derive_17 rfl (fun hc => ?_) (fun hc => ?_)
    · have h := mb_f hc h
      refine lv_aload_n hx hb d_M_derive_22 rfl (lv_at hl 0 rfl) ?_
      refine va_get (ci := 5) (C := cnM) (T := fTM) (N := 30) hx hb hts uwM hown hK hP 0 rfl rfl 5 (by decide) (hts _ wd_530) (fun _ h9 => h9) rfl d_M_derive_23 ?_
      refine lv_iload_n hx hb d_M_derive_26 rfl (lv_at hl 1 rfl) ?_
      refine lv_iload_n hx hb d_M_derive_27 rfl (lv_at hl 2 rfl) ?_
      refine mb_iast (WS := WM X cI cZ cJ) hx hb hK hP hD hS 6 0 rfl rfl h d_M_derive_28 rfl (fun H locs s3 hP hS h => ?_)
      refine lv_aload_n hx hb d_M_derive_29 rfl (lv_at hl 0 rfl) ?_
      obtain ⟨_u, s4, hs4, h⟩ := mb_cal_ex h
      refine mb_goV Cx (mb_runV (As := []) (rest := []) mb_Z0ok Cx (w_M_change l D X cI cZ cJ hs4 H.size) (mb_cwV 0 hts wd_632 wd_634 sel_40 wd_7 wd_635 rfl rfl rfl (by decide +kernel) ⟨Nat.le_trans (by decide) hR.1, Nat.le_trans (by decide) hR.2⟩) hP hS 0 rfl rfl rfl hl.1 rfl (Nat.le_of_ble_eq_true rfl) d_M_derive_30) hS (fun H locs hP hS => ?_)
      refine lv_iconst (v := (1 : Int32)) hx hb d_M_derive_33 (by decide) ?_
      exact mb_eZ hret h d_M_derive_34 hP hS
    · have h := mb_t hc h
      exact zM_derive_b20 Cx hR hret  s h ls H locs (lv_sub hl [] rfl) hP hS
set_option maxRecDepth 100000 in
set_option maxHeartbeats 4000000 in
theorem zM_bind_b27 {p : Program} {l : Launch} {e : Env} {R : Room} {s0 : State} {m : MethodId} {args : Array Value} {below : List Frame} {meth : Method} {c : Code} {Q : State → Prop} {A : Nat → Prop} {D : va_G} {X : Nat → Nat} {cI cZ cJ : ClassId} {rv : Int32} {rs : mb_S}
    (Cx : mb_C p s0 m args meth c c_M_bind 4 lw_w cnM (fun _ _ => True) vwCl D [(cI, .int), (cZ, .boolean), (cJ, .long)] A (WM X cI cZ cJ)) (hR : 1 ≤ R.frames ∧ 22 ≤ R.locals)
    (hret : (rv = 0 ∨ rv = 1) → mb_R p l e R s0 m args below meth c Q vwCl D A (WM X cI cZ cJ) c_M_bind .ireturn [.int rv] rs)   (s : mb_S)
    (h : mM_bind_b27  s = some (rv, rs)) : mb_B p l e R s0 m args below meth c Q vwCl D A (WM X cI cZ cJ) 4 [] [] 27 s := by
  unfold mM_bind_b27 at h
  intro ls H locs hl hP hS
  have Cx0 := Cx
  obtain ⟨⟨hx, hb, hml, hown, hts⟩, hK, hD, hA, hZ⟩ := Cx0
  refine lv_iconst (v := (0 : Int32)) hx hb d_M_bind_27 (by decide) ?_
  exact mb_eZ hret h d_M_bind_28 hP hS
set_option maxRecDepth 100000 in
set_option maxHeartbeats 4000000 in
theorem w_M_bind (l : Launch) (D : va_G) (X : Nat → Nat) (cI cZ cJ : ClassId) {x1 : Int32} {x2 : Int32} {x3 : Int32} {s : mb_S} {rv : Int32} {rs : mb_S}
    (h : mM_bind x1 x2 x3 s = some (rv, rs)) : mb_MI l y_M_bind ws_M_bind rm_M_bind (fun _ _ => True) vwCl D [(cI, .int), (cZ, .boolean), (cJ, .long)] (WM X cI cZ cJ) [.ref (X 0), .int x1, .int x2, .int x3] s rv rs := by
  refine mb_ofZ mb_Z0ok (by decide) rfl (Nat.le_of_ble_eq_true rfl) mb_DMok ?_
  intro p e s0 m args below meth c Q A Cx hret
  have hR : 1 ≤ (rm_M_bind).frames ∧ 22 ≤ (rm_M_bind).locals := ⟨Nat.le_refl _, Nat.le_refl _⟩
  intro ls H locs hl hP hS
  have Cx0 := Cx
  obtain ⟨⟨hx, hb, hml, hown, hts⟩, hK, hD, hA, hZ⟩ := Cx0
  have hl : lv_has ls 4 [(0, .ref (X 0)), (1, .int x1), (2, .int x2), (3, .int x3)] := hl
  unfold mM_bind at h
  refine lv_iload_n hx hb d_M_bind_0 rfl (lv_at hl 1 rfl) ?_
  refine lv_iconst (v := (0 : Int32)) hx hb d_M_bind_1 (by decide) ?_
  refine lv_iconst (v := (3 : Int32)) hx hb d_M_bind_2 (by decide) ?_
  obtain ⟨v1, hv1, h⟩ := mb_cal0_ex h
  refine mb_go0I (st := s) Cx (mb_runS0 (As := [.int x1, .int (0 : Int32), .int (3 : Int32)]) (rest := []) Cx (w_M_within l D hv1 H.size) (mb_cwS 3 hts wd_622 wd_623 wd_7 wd_624 rfl rfl rfl (by decide +kernel) ⟨Nat.le_trans (by decide) hR.1, Nat.le_trans (by decide) hR.2⟩) rfl hl.1 rfl (Nat.le_of_ble_eq_true rfl) d_M_bind_3) hP hS (fun H locs hP hS => ?_)
  refine lv_if_eq hx hb d_M_bind_6 rfl (fun hc => ?_) (fun hc => ?_)
  · have h := mb_t hc h
    exact zM_bind_b27 Cx hR hret  s h ls H locs (lv_sub hl [] rfl) hP hS
  · have h := mb_f hc h
    refine lv_iload_n hx hb d_M_bind_9 rfl (lv_at hl 2 rfl) ?_
    refine lv_iconst (v := (0 : Int32)) hx hb d_M_bind_10 (by decide) ?_
    refine lv_iconst (v := (2 : Int32)) hx hb d_M_bind_11 (by decide) ?_
    obtain ⟨v2, hv2, h⟩ := mb_cal0_ex h
    refine mb_go0I (st := s) Cx (mb_runS0 (As := [.int x2, .int (0 : Int32), .int (2 : Int32)]) (rest := []) Cx (w_M_within l D hv2 H.size) (mb_cwS 3 hts wd_622 wd_623 wd_7 wd_624 rfl rfl rfl (by decide +kernel) ⟨Nat.le_trans (by decide) hR.1, Nat.le_trans (by decide) hR.2⟩) rfl hl.1 rfl (Nat.le_of_ble_eq_true rfl) d_M_bind_12) hP hS (fun H locs hP hS => ?_)
    refine lv_if_eq hx hb d_M_bind_15 rfl (fun hc => ?_) (fun hc => ?_)
    · have h := mb_t hc h
      exact zM_bind_b27 Cx hR hret  s h ls H locs (lv_sub hl [] rfl) hP hS
    · have h := mb_f hc h
      refine lv_iload_n hx hb d_M_bind_18 rfl (lv_at hl 3 rfl) ?_
      refine lv_iconst (v := (-1 : Int32)) hx hb d_M_bind_19 (by decide) ?_
      refine lv_iconst (v := (5 : Int32)) hx hb d_M_bind_20 (by decide) ?_
      obtain ⟨v3, hv3, h⟩ := mb_cal0_ex h
      refine mb_go0I (st := s) Cx (mb_runS0 (As := [.int x3, .int (-1 : Int32), .int (5 : Int32)]) (rest := []) Cx (w_M_within l D hv3 H.size) (mb_cwS 3 hts wd_622 wd_623 wd_7 wd_624 rfl rfl rfl (by decide +kernel) ⟨Nat.le_trans (by decide) hR.1, Nat.le_trans (by decide) hR.2⟩) rfl hl.1 rfl (Nat.le_of_ble_eq_true rfl) d_M_bind_21) hP hS (fun H locs hP hS => ?_)
      refine lv_if_ne hx hb d_M_bind_24 rfl (fun hc => ?_) (fun hc => ?_)
      · have h := mb_f hc h
        refine lv_aload_n hx hb d_M_bind_29 rfl (lv_at hl 0 rfl) ?_
        refine va_get (ci := 5) (C := cnM) (T := fTM) (N := 30) hx hb hts uwM hown hK hP 0 rfl rfl 6 (by decide) (hts _ wd_531) (fun _ h9 => h9) rfl d_M_bind_30 ?_
        refine lv_iconst (v := (3 : Int32)) hx hb d_M_bind_33 (by decide) ?_
        refine lv_iload_n hx hb d_M_bind_34 rfl (lv_at hl 1 rfl) ?_
        refine lv_imul hx hb d_M_bind_35 ?_
        refine lv_iload_n hx hb d_M_bind_36 rfl (lv_at hl 2 rfl) ?_
        refine lv_iadd hx hb d_M_bind_37 ?_
        refine lv_iload_n hx hb d_M_bind_38 rfl (lv_at hl 3 rfl) ?_
        refine mb_iast (WS := WM X cI cZ cJ) hx hb hK hP hD hS 7 0 rfl rfl h d_M_bind_39 rfl (fun H locs s4 hP hS h => ?_)
        refine lv_aload_n hx hb d_M_bind_40 rfl (lv_at hl 0 rfl) ?_
        obtain ⟨_u, s5, hs5, h⟩ := mb_cal_ex h
        refine mb_goV Cx (mb_runV (As := []) (rest := []) mb_Z0ok Cx (w_M_change l D X cI cZ cJ hs5 H.size) (mb_cwV 0 hts wd_632 wd_634 sel_40 wd_7 wd_635 rfl rfl rfl (by decide +kernel) ⟨Nat.le_trans (by decide) hR.1, Nat.le_trans (by decide) hR.2⟩) hP hS 0 rfl rfl rfl hl.1 rfl (Nat.le_of_ble_eq_true rfl) d_M_bind_41) hS (fun H locs hP hS => ?_)
        refine lv_iconst (v := (1 : Int32)) hx hb d_M_bind_44 (by decide) ?_
        exact mb_eZ hret h d_M_bind_45 hP hS
      · have h := mb_t hc h
        exact zM_bind_b27 Cx hR hret  s h ls H locs (lv_sub hl [] rfl) hP hS
set_option maxRecDepth 100000 in
set_option maxHeartbeats 4000000 in
theorem zM_target_b72 {p : Program} {l : Launch} {e : Env} {R : Room} {s0 : State} {m : MethodId} {args : Array Value} {below : List Frame} {meth : Method} {c : Code} {Q : State → Prop} {A : Nat → Prop} {D : va_G} {X : Nat → Nat} {cI cZ cJ : ClassId} {rv : Int32} {rs : mb_S}
    (Cx : mb_C p s0 m args meth c c_M_target 5 lw_w cnM (fun _ _ => True) vwCl D [(cI, .int), (cZ, .boolean), (cJ, .long)] A (WM X cI cZ cJ)) (hR : 1 ≤ R.frames ∧ 22 ≤ R.locals)
    (hret : mb_R p l e R s0 m args below meth c Q vwCl D A (WM X cI cZ cJ) c_M_target .ireturn [.int rv] rs)   (s : mb_S)
    (h : mM_target_b72  s = some (rv, rs)) : mb_B p l e R s0 m args below meth c Q vwCl D A (WM X cI cZ cJ) 5 [] [] 72 s := by
  unfold mM_target_b72 at h
  intro ls H locs hl hP hS
  have Cx0 := Cx
  obtain ⟨⟨hx, hb, hml, hown, hts⟩, hK, hD, hA, hZ⟩ := Cx0
  refine lv_iconst (v := (-1 : Int32)) hx hb d_M_target_72 (by decide) ?_
  exact mb_eI hret h d_M_target_73 hP hS
set_option maxRecDepth 100000 in
set_option maxHeartbeats 4000000 in
theorem zM_target_l25 {p : Program} {l : Launch} {e : Env} {R : Room} {s0 : State} {m : MethodId} {args : Array Value} {below : List Frame} {meth : Method} {c : Code} {Q : State → Prop} {A : Nat → Prop} {D : va_G} {X : Nat → Nat} {cI cZ cJ : ClassId} {rv : Int32} {rs : mb_S}
    (Cx : mb_C p s0 m args meth c c_M_target 5 lw_w cnM (fun _ _ => True) vwCl D [(cI, .int), (cZ, .boolean), (cJ, .long)] A (WM X cI cZ cJ)) (hR : 1 ≤ R.frames ∧ 22 ≤ R.locals)
    (hret : mb_R p l e R s0 m args below meth c Q vwCl D A (WM X cI cZ cJ) c_M_target .ireturn [.int rv] rs)  :
    ∀ (n : Nat) (x2 : Int32) (x3 : Int32) (x4 : Int32) (s : mb_S), mM_target_l25  n x2 x3 x4 s = some (rv, rs) → mb_B p l e R s0 m args below meth c Q vwCl D A (WM X cI cZ cJ) 5 [(0, .ref (X 0)), (2, .int x2), (3, .int x3), (4, .int x4)] [] 25 s := by
  intro n
  induction n with
  | zero => intro x2 x3 x4 s h; cases h
  | succ n ih =>
    intro x2 x3 x4 s h
    rw [mM_target_l25_s] at h
    intro ls H locs hl hP hS
    have Cx0 := Cx
    obtain ⟨⟨hx, hb, hml, hown, hts⟩, hK, hD, hA, hZ⟩ := Cx0
    refine lv_iload hx hb d_M_target_25 (lv_at hl 3 rfl) ?_
    refine lv_iconst (v := (4 : Int32)) hx hb d_M_target_27 (by decide) ?_
    refine lv_icmp_ge hx hb d_M_target_28 rfl (fun hc => ?_) (fun hc => ?_)
    · have h := mb_t hc h
      exact zM_target_b72 Cx hR hret  s h ls H locs (lv_sub hl [] rfl) hP hS
    · have h := mb_f hc h
      refine lv_iload_n hx hb d_M_target_31 rfl (lv_at hl 2 rfl) ?_
      refine lv_if_lt hx hb d_M_target_32 rfl (fun hc => ?_) (fun hc => ?_)
      · have h := mb_t hc h
        exact zM_target_b72 Cx hR hret  s h ls H locs (lv_sub hl [] rfl) hP hS
      · have h := mb_f hc h
        refine lv_aload_n hx hb d_M_target_35 rfl (lv_at hl 0 rfl) ?_
        refine va_get (ci := 5) (C := cnM) (T := fTM) (N := 30) hx hb hts uwM hown hK hP 0 rfl rfl 6 (by decide) (hts _ wd_531) (fun _ h9 => h9) rfl d_M_target_36 ?_
        refine lv_iconst (v := (3 : Int32)) hx hb d_M_target_39 (by decide) ?_
        refine lv_iload_n hx hb d_M_target_40 rfl (lv_at hl 2 rfl) ?_
        refine lv_imul hx hb d_M_target_41 ?_
        refine lv_iload_n hx hb d_M_target_42 rfl (lv_at hl 1 rfl) ?_
        refine lv_iadd hx hb d_M_target_43 ?_
        refine mb_iald hx hb hK hP 7 0 rfl rfl h d_M_target_44 (fun v1 h => ?_)
        refine lv_if_lt hx hb d_M_target_45 rfl (fun hc => ?_) (fun hc => ?_)
        · have h := mb_t hc h
          refine lv_aload_n hx hb d_M_target_59 rfl (lv_at hl 0 rfl) ?_
          refine va_get (ci := 5) (C := cnM) (T := fTM) (N := 30) hx hb hts uwM hown hK hP 0 rfl rfl 5 (by decide) (hts _ wd_530) (fun _ h9 => h9) rfl d_M_target_60 ?_
          refine lv_iload_n hx hb d_M_target_63 rfl (lv_at hl 2 rfl) ?_
          refine mb_iald hx hb hK hP 6 0 rfl rfl h d_M_target_64 (fun v2 h => ?_)
          refine lv_istore_n (lv' := [(3, .int v2), (0, .ref (X 0)), (2, .int x2), (4, .int x4)]) hx hb d_M_target_65 rfl hl (by decide) rfl (fun ls hl => ?_)
          obtain ⟨v3, ev3, h⟩ := mb_ex h
          refine lv_iinc (k := 3) (v := v3) (lv' := [(4, .int v3), (3, .int v2), (0, .ref (X 0)), (2, .int x2)]) hx hb d_M_target_66 hl rfl ev3 (by decide) rfl (fun ls hl => ?_)
          refine lv_goto hx hb d_M_target_69 rfl ?_
          exact ih x2 v2 v3 s h ls H locs (lv_sub hl [2, 3, 1, 0] rfl) hP hS
        · have h := mb_f hc h
          refine lv_aload_n hx hb d_M_target_48 rfl (lv_at hl 0 rfl) ?_
          refine va_get (ci := 5) (C := cnM) (T := fTM) (N := 30) hx hb hts uwM hown hK hP 0 rfl rfl 6 (by decide) (hts _ wd_531) (fun _ h9 => h9) rfl d_M_target_49 ?_
          refine lv_iconst (v := (3 : Int32)) hx hb d_M_target_52 (by decide) ?_
          refine lv_iload_n hx hb d_M_target_53 rfl (lv_at hl 2 rfl) ?_
          refine lv_imul hx hb d_M_target_54 ?_
          refine lv_iload_n hx hb d_M_target_55 rfl (lv_at hl 1 rfl) ?_
          refine lv_iadd hx hb d_M_target_56 ?_
          refine mb_iald hx hb hK hP 7 0 rfl rfl h d_M_target_57 (fun v4 h => ?_)
          exact mb_eI hret h d_M_target_58 hP hS
set_option maxRecDepth 100000 in
set_option maxHeartbeats 4000000 in
theorem zM_target_b18 {p : Program} {l : Launch} {e : Env} {R : Room} {s0 : State} {m : MethodId} {args : Array Value} {below : List Frame} {meth : Method} {c : Code} {Q : State → Prop} {A : Nat → Prop} {D : va_G} {X : Nat → Nat} {cI cZ cJ : ClassId} {rv : Int32} {rs : mb_S}
    (Cx : mb_C p s0 m args meth c c_M_target 5 lw_w cnM (fun _ _ => True) vwCl D [(cI, .int), (cZ, .boolean), (cJ, .long)] A (WM X cI cZ cJ)) (hR : 1 ≤ R.frames ∧ 22 ≤ R.locals)
    (hret : mb_R p l e R s0 m args below meth c Q vwCl D A (WM X cI cZ cJ) c_M_target .ireturn [.int rv] rs)   (s : mb_S)
    (h : mM_target_b18  s = some (rv, rs)) : mb_B p l e R s0 m args below meth c Q vwCl D A (WM X cI cZ cJ) 5 [] [] 18 s := by
  unfold mM_target_b18 at h
  intro ls H locs hl hP hS
  have Cx0 := Cx
  obtain ⟨⟨hx, hb, hml, hown, hts⟩, hK, hD, hA, hZ⟩ := Cx0
  refine lv_iconst (v := (-1 : Int32)) hx hb d_M_target_18 (by decide) ?_
  exact mb_eI hret h d_M_target_19 hP hS
set_option maxRecDepth 100000 in
set_option maxHeartbeats 4000000 in
theorem w_M_target (l : Launch) (D : va_G) (X : Nat → Nat) (cI cZ cJ : ClassId) {x1 : Int32} {x2 : Int32} {s : mb_S} {rv : Int32} {rs : mb_S}
    (h : mM_target x1 x2 s = some (rv, rs)) : mb_MI l y_M_target ws_M_target rm_M_target (fun _ _ => True) vwCl D [(cI, .int), (cZ, .boolean), (cJ, .long)] (WM X cI cZ cJ) [.ref (X 0), .int x1, .int x2] s rv rs := by
  refine mb_ofI mb_Z0ok (by decide) rfl (Nat.le_of_ble_eq_true rfl) mb_DMok ?_
  intro p e s0 m args below meth c Q A Cx hret
  have hR : 1 ≤ (rm_M_target).frames ∧ 22 ≤ (rm_M_target).locals := ⟨Nat.le_refl _, Nat.le_refl _⟩
  intro ls H locs hl hP hS
  have Cx0 := Cx
  obtain ⟨⟨hx, hb, hml, hown, hts⟩, hK, hD, hA, hZ⟩ := Cx0
  have hl : lv_has ls 5 [(0, .ref (X 0)), (1, .int x1), (2, .int x2)] := hl
  unfold mM_target at h
  refine lv_iload_n hx hb d_M_target_0 rfl (lv_at hl 1 rfl) ?_
  refine lv_iconst (v := (0 : Int32)) hx hb d_M_target_1 (by decide) ?_
  refine lv_iconst (v := (3 : Int32)) hx hb d_M_target_2 (by decide) ?_
  obtain ⟨v5, hv5, h⟩ := mb_cal0_ex h
  refine mb_go0I (st := s) Cx (mb_runS0 (As := [.int x1, .int (0 : Int32), .int (3 : Int32)]) (rest := []) Cx (w_M_within l D hv5 H.size) (mb_cwS 3 hts wd_622 wd_623 wd_7 wd_624 rfl rfl rfl (by decide +kernel) ⟨Nat.le_trans (by decide) hR.1, Nat.le_trans (by decide) hR.2⟩) rfl hl.1 rfl (Nat.le_of_ble_eq_true rfl) d_M_target_3) hP hS (fun H locs hP hS => ?_)
  refine lv_if_eq hx hb d_M_target_6 rfl (fun hc => ?_) (fun hc => ?_)
  · have h := mb_t hc h
    exact zM_target_b18 Cx hR hret  s h ls H locs (lv_sub hl [] rfl) hP hS
  · have h := mb_f hc h
    refine lv_iload_n hx hb d_M_target_9 rfl (lv_at hl 2 rfl) ?_
    refine lv_iconst (v := (0 : Int32)) hx hb d_M_target_10 (by decide) ?_
    refine lv_iconst (v := (2 : Int32)) hx hb d_M_target_11 (by decide) ?_
    obtain ⟨v6, hv6, h⟩ := mb_cal0_ex h
    refine mb_go0I (st := s) Cx (mb_runS0 (As := [.int x2, .int (0 : Int32), .int (2 : Int32)]) (rest := []) Cx (w_M_within l D hv6 H.size) (mb_cwS 3 hts wd_622 wd_623 wd_7 wd_624 rfl rfl rfl (by decide +kernel) ⟨Nat.le_trans (by decide) hR.1, Nat.le_trans (by decide) hR.2⟩) rfl hl.1 rfl (Nat.le_of_ble_eq_true rfl) d_M_target_12) hP hS (fun H locs hP hS => ?_)
    refine lv_if_ne hx hb d_M_target_15 rfl (fun hc => ?_) (fun hc => ?_)
    · have h := mb_f hc h
      refine lv_iload_n hx hb d_M_target_20 rfl (lv_at hl 1 rfl) ?_
      refine lv_istore_n (lv' := [(3, .int x1), (0, .ref (X 0)), (1, .int x1), (2, .int x2)]) hx hb d_M_target_21 rfl hl (by decide) rfl (fun ls hl => ?_)
      refine lv_iconst (v := (0 : Int32)) hx hb d_M_target_22 (by decide) ?_
      refine lv_istore (lv' := [(4, .int (0 : Int32)), (3, .int x1), (0, .ref (X 0)), (1, .int x1), (2, .int x2)]) hx hb d_M_target_23 hl (by decide) rfl (fun ls hl => ?_)
      exact zM_target_l25 Cx hR hret  mb_fuel x2 x1 (0 : Int32) s h ls H locs (lv_sub hl [2, 4, 1, 0] rfl) hP hS
    · have h := mb_t hc h
      exact zM_target_b18 Cx hR hret  s h ls H locs (lv_sub hl [] rfl) hP hS
set_option maxRecDepth 100000 in
set_option maxHeartbeats 4000000 in
theorem zM_size_b19 {p : Program} {l : Launch} {e : Env} {R : Room} {s0 : State} {m : MethodId} {args : Array Value} {below : List Frame} {meth : Method} {c : Code} {Q : State → Prop} {A : Nat → Prop} {D : va_G} {X : Nat → Nat} {cI cZ cJ : ClassId} {rv : Int32} {rs : mb_S}
    (Cx : mb_C p s0 m args meth c c_M_size 2 lw_w cnM (fun _ _ => True) vwCl D [(cI, .int), (cZ, .boolean), (cJ, .long)] A (WM X cI cZ cJ)) (hR : 1 ≤ R.frames ∧ 22 ≤ R.locals)
    (hret : mb_R p l e R s0 m args below meth c Q vwCl D A (WM X cI cZ cJ) c_M_size .ireturn [.int rv] rs)  (y0 : Int32) (s : mb_S)
    (h : mM_size_b19  y0 s = some (rv, rs)) : mb_B p l e R s0 m args below meth c Q vwCl D A (WM X cI cZ cJ) 2 [] [.int y0] 19 s := by
  unfold mM_size_b19 at h
  intro ls H locs hl hP hS
  have Cx0 := Cx
  obtain ⟨⟨hx, hb, hml, hown, hts⟩, hK, hD, hA, hZ⟩ := Cx0
  exact mb_eI hret h d_M_size_19 hP hS
set_option maxRecDepth 100000 in
set_option maxHeartbeats 4000000 in
theorem w_M_size (l : Launch) (D : va_G) (X : Nat → Nat) (cI cZ cJ : ClassId) {x1 : Int32} {s : mb_S} {rv : Int32} {rs : mb_S}
    (h : mM_size x1 s = some (rv, rs)) : mb_MI l y_M_size ws_M_size rm_M_size (fun _ _ => True) vwCl D [(cI, .int), (cZ, .boolean), (cJ, .long)] (WM X cI cZ cJ) [.ref (X 0), .int x1] s rv rs := by
  refine mb_ofI mb_Z0ok (by decide) rfl (Nat.le_of_ble_eq_true rfl) mb_DMok ?_
  intro p e s0 m args below meth c Q A Cx hret
  have hR : 1 ≤ (rm_M_size).frames ∧ 22 ≤ (rm_M_size).locals := ⟨Nat.le_refl _, Nat.le_refl _⟩
  intro ls H locs hl hP hS
  have Cx0 := Cx
  obtain ⟨⟨hx, hb, hml, hown, hts⟩, hK, hD, hA, hZ⟩ := Cx0
  have hl : lv_has ls 2 [(0, .ref (X 0)), (1, .int x1)] := hl
  unfold mM_size at h
  refine lv_iload_n hx hb d_M_size_0 rfl (lv_at hl 1 rfl) ?_
  refine lv_iconst (v := (0 : Int32)) hx hb d_M_size_1 (by decide) ?_
  refine lv_iconst (v := (5 : Int32)) hx hb d_M_size_2 (by decide) ?_
  obtain ⟨v1, hv1, h⟩ := mb_cal0_ex h
  refine mb_go0I (st := s) Cx (mb_runS0 (As := [.int x1, .int (0 : Int32), .int (5 : Int32)]) (rest := []) Cx (w_M_within l D hv1 H.size) (mb_cwS 3 hts wd_622 wd_623 wd_7 wd_624 rfl rfl rfl (by decide +kernel) ⟨Nat.le_trans (by decide) hR.1, Nat.le_trans (by decide) hR.2⟩) rfl hl.1 rfl (Nat.le_of_ble_eq_true rfl) d_M_size_3) hP hS (fun H locs hP hS => ?_)
  refine lv_if_eq hx hb d_M_size_6 rfl (fun hc => ?_) (fun hc => ?_)
  · have h := mb_t hc h
    refine lv_iconst (v := (0 : Int32)) hx hb d_M_size_18 (by decide) ?_
    exact zM_size_b19 Cx hR hret  (0 : Int32) s h ls H locs (lv_sub hl [] rfl) hP hS
  · have h := mb_f hc h
    refine lv_aload_n hx hb d_M_size_9 rfl (lv_at hl 0 rfl) ?_
    refine va_get (ci := 5) (C := cnM) (T := fTM) (N := 30) hx hb hts uwM hown hK hP 0 rfl rfl 0 (by decide) (hts _ wd_525) (fun _ h9 => h9) rfl d_M_size_10 ?_
    refine lv_iload_n hx hb d_M_size_13 rfl (lv_at hl 1 rfl) ?_
    refine mb_iald hx hb hK hP 1 0 rfl rfl h d_M_size_14 (fun v2 h => ?_)
    refine lv_goto hx hb d_M_size_15 rfl ?_
    exact zM_size_b19 Cx hR hret  v2 s h ls H locs (lv_sub hl [] rfl) hP hS
