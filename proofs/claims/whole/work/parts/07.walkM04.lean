set_option maxRecDepth 100000 in
set_option maxHeartbeats 4000000 in
theorem zM_isEntry_b35 {p : Program} {l : Launch} {e : Env} {R : Room} {s0 : State} {m : MethodId} {args : Array Value} {below : List Frame} {meth : Method} {c : Code} {Q : State → Prop} {A : Nat → Prop} {D : va_G} {X : Nat → Nat} {cI cZ cJ : ClassId} {rv : Int32} {rs : mb_S}
    (Cx : mb_C p s0 m args meth c c_M_isEntry 3 lw_w cnM (fun _ _ => True) vwCl D [(cI, .int), (cZ, .boolean), (cJ, .long)] A (WM X cI cZ cJ)) (hR : 0 ≤ R.frames ∧ 0 ≤ R.locals)
    (hret : (rv = 0 ∨ rv = 1) → mb_R p l e R s0 m args below meth c Q vwCl D A (WM X cI cZ cJ) c_M_isEntry .ireturn [.int rv] rs)  (y0 : Int32) (s : mb_S)
    (h : mM_isEntry_b35  y0 s = some (rv, rs)) : mb_B p l e R s0 m args below meth c Q vwCl D A (WM X cI cZ cJ) 3 [] [.int y0] 35 s := by
  unfold mM_isEntry_b35 at h
  intro ls H locs hl hP hS
  have Cx0 := Cx
  obtain ⟨⟨hx, hb, hml, hown, hts⟩, hK, hD, hA, hZ⟩ := Cx0
  exact mb_eZ hret h d_M_isEntry_35 hP hS
set_option maxRecDepth 100000 in
set_option maxHeartbeats 4000000 in
theorem w_M_isEntry (l : Launch) (D : va_G) (X : Nat → Nat) (cI cZ cJ : ClassId) {x1 : Int32} {x2 : Int32} {s : mb_S} {rv : Int32} {rs : mb_S}
    (h : mM_isEntry x1 x2 s = some (rv, rs)) : mb_MI l y_M_isEntry ws_M_isEntry rm_M_isEntry (fun _ _ => True) vwCl D [(cI, .int), (cZ, .boolean), (cJ, .long)] (WM X cI cZ cJ) [.ref (X 0), .int x1, .int x2] s rv rs := by
  refine mb_ofZ mb_Z0ok (by decide) rfl (Nat.le_of_ble_eq_true rfl) mb_DMok ?_
  intro p e s0 m args below meth c Q A Cx hret
  have hR : 0 ≤ (rm_M_isEntry).frames ∧ 0 ≤ (rm_M_isEntry).locals := ⟨Nat.le_refl _, Nat.le_refl _⟩
  intro ls H locs hl hP hS
  have Cx0 := Cx
  obtain ⟨⟨hx, hb, hml, hown, hts⟩, hK, hD, hA, hZ⟩ := Cx0
  have hl : lv_has ls 3 [(0, .ref (X 0)), (1, .int x1), (2, .int x2)] := hl
  unfold mM_isEntry at h
  refine lv_iload_n hx hb d_M_isEntry_0 rfl (lv_at hl 2 rfl) ?_
  refine lv_bipush (v := (64 : Int32)) hx hb d_M_isEntry_1 (by decide) ?_
  refine lv_icmp_ne hx hb d_M_isEntry_3 rfl (fun hc => ?_) (fun hc => ?_)
  · have h := mb_f hc h
    refine lv_aload_n hx hb d_M_isEntry_15 rfl (lv_at hl 0 rfl) ?_
    refine va_get (ci := 5) (C := cnM) (T := fTM) (N := 30) hx hb hts uwM hown hK hP 0 rfl rfl 15 (by decide) (hts _ wd_540) (fun _ h9 => h9) rfl d_M_isEntry_16 ?_
    refine lv_iload_n hx hb d_M_isEntry_19 rfl (lv_at hl 1 rfl) ?_
    refine mb_lald hx hb hK hP 14 2 rfl rfl h d_M_isEntry_20 (fun v1 h => ?_)
    refine lv_iload_n hx hb d_M_isEntry_21 rfl (lv_at hl 2 rfl) ?_
    refine lv_lshr hx hb d_M_isEntry_22 rfl ?_
    refine lv_lconst (v := (1 : Int64)) hx hb d_M_isEntry_23 (by decide) ?_
    refine lv_land hx hb d_M_isEntry_24 ?_
    refine lv_lconst (v := (1 : Int64)) hx hb d_M_isEntry_25 (by decide) ?_
    refine W.lcmp hx hb d_M_isEntry_26 ?_
    refine lv_if_ne hx hb d_M_isEntry_27 rfl (fun hc => ?_) (fun hc => ?_)
    · have h := mb_f hc h
      refine lv_iconst (v := (0 : Int32)) hx hb d_M_isEntry_34 (by decide) ?_
      exact zM_isEntry_b35 Cx hR hret  (0 : Int32) s h ls H locs (lv_sub hl [] rfl) hP hS
    · have h := mb_t hc h
      refine lv_iconst (v := (1 : Int32)) hx hb d_M_isEntry_30 (by decide) ?_
      refine lv_goto hx hb d_M_isEntry_31 rfl ?_
      exact zM_isEntry_b35 Cx hR hret  (1 : Int32) s h ls H locs (lv_sub hl [] rfl) hP hS
  · have h := mb_t hc h
    refine lv_aload_n hx hb d_M_isEntry_6 rfl (lv_at hl 0 rfl) ?_
    refine va_get (ci := 5) (C := cnM) (T := fTM) (N := 30) hx hb hts uwM hown hK hP 0 rfl rfl 16 (by decide) (hts _ wd_541) (fun _ h9 => h9) rfl d_M_isEntry_7 ?_
    refine lv_iload_n hx hb d_M_isEntry_10 rfl (lv_at hl 1 rfl) ?_
    refine mb_zald hx hb hK hP 15 1 rfl rfl h d_M_isEntry_11 (fun v2 h => ?_)
    refine lv_goto hx hb d_M_isEntry_12 rfl ?_
    exact zM_isEntry_b35 Cx hR hret  v2 s h ls H locs (lv_sub hl [] rfl) hP hS
set_option maxRecDepth 100000 in
set_option maxHeartbeats 4000000 in
theorem zM_allFrom_b111 {p : Program} {l : Launch} {e : Env} {R : Room} {s0 : State} {m : MethodId} {args : Array Value} {below : List Frame} {meth : Method} {c : Code} {Q : State → Prop} {A : Nat → Prop} {D : va_G} {X : Nat → Nat} {cI cZ cJ : ClassId} {rv : Unit} {rs : mb_S}
    (Cx : mb_C p s0 m args meth c c_M_allFrom 7 lw_w cnM (fun _ _ => True) vwCl D [(cI, .int), (cZ, .boolean), (cJ, .long)] A (WM X cI cZ cJ)) (hR : 6 ≤ R.frames ∧ 167 ≤ R.locals)
    (hret : mb_R p l e R s0 m args below meth c Q vwCl D A (WM X cI cZ cJ) c_M_allFrom .return_ [] rs) (k27 : Int32 → Int32 → Int32 → mb_S → Option (Unit × mb_S)) (hk27 : ∀ (x1 : Int32) (x2 : Int32) (x3 : Int32) (s : mb_S), k27 x1 x2 x3 s = some (rv, rs) → mb_B p l e R s0 m args below meth c Q vwCl D A (WM X cI cZ cJ) 7 [(0, .ref (X 0)), (1, .int x1), (2, .int x2), (3, .int x3)] [] 27 s) (k83 : Int32 → Int32 → Int32 → Int64 → Int32 → mb_S → Option (Unit × mb_S)) (hk83 : ∀ (x1 : Int32) (x2 : Int32) (x3 : Int32) (x4 : Int64) (x6 : Int32) (s : mb_S), k83 x1 x2 x3 x4 x6 s = some (rv, rs) → mb_B p l e R s0 m args below meth c Q vwCl D A (WM X cI cZ cJ) 7 [(0, .ref (X 0)), (1, .int x1), (2, .int x2), (3, .int x3), (4, .long x4), (6, .int x6)] [] 83 s) (x1 : Int32) (x2 : Int32) (x3 : Int32) (x4 : Int64) (x6 : Int32) (s : mb_S)
    (h : mM_allFrom_b111 k27 k83 x1 x2 x3 x4 x6 s = some (rv, rs)) : mb_B p l e R s0 m args below meth c Q vwCl D A (WM X cI cZ cJ) 7 [(0, .ref (X 0)), (1, .int x1), (2, .int x2), (3, .int x3), (4, .long x4), (6, .int x6)] [] 111 s := by
  unfold mM_allFrom_b111 at h
  intro ls H locs hl hP hS
  have Cx0 := Cx
  obtain ⟨⟨hx, hb, hml, hown, hts⟩, hK, hD, hA, hZ⟩ := Cx0
  obtain ⟨v1, ev1, h⟩ := mb_ex h
  refine lv_iinc (k := 5) (v := v1) (lv' := [(6, .int v1), (0, .ref (X 0)), (1, .int x1), (2, .int x2), (3, .int x3), (4, .long x4)]) hx hb d_M_allFrom_111 hl rfl ev1 (by decide) rfl (fun ls hl => ?_)
  refine lv_goto hx hb d_M_allFrom_114 rfl ?_
  exact hk83 x1 x2 x3 x4 v1 s h ls H locs (lv_sub hl [1, 2, 3, 4, 5, 0] rfl) hP hS
set_option maxRecDepth 100000 in
set_option maxHeartbeats 4000000 in
theorem zM_allFrom_l83 {p : Program} {l : Launch} {e : Env} {R : Room} {s0 : State} {m : MethodId} {args : Array Value} {below : List Frame} {meth : Method} {c : Code} {Q : State → Prop} {A : Nat → Prop} {D : va_G} {X : Nat → Nat} {cI cZ cJ : ClassId} {rv : Unit} {rs : mb_S}
    (Cx : mb_C p s0 m args meth c c_M_allFrom 7 lw_w cnM (fun _ _ => True) vwCl D [(cI, .int), (cZ, .boolean), (cJ, .long)] A (WM X cI cZ cJ)) (hR : 6 ≤ R.frames ∧ 167 ≤ R.locals)
    (hret : mb_R p l e R s0 m args below meth c Q vwCl D A (WM X cI cZ cJ) c_M_allFrom .return_ [] rs) (k27 : Int32 → Int32 → Int32 → mb_S → Option (Unit × mb_S)) (hk27 : ∀ (x1 : Int32) (x2 : Int32) (x3 : Int32) (s : mb_S), k27 x1 x2 x3 s = some (rv, rs) → mb_B p l e R s0 m args below meth c Q vwCl D A (WM X cI cZ cJ) 7 [(0, .ref (X 0)), (1, .int x1), (2, .int x2), (3, .int x3)] [] 27 s) :
    ∀ (n : Nat) (x1 : Int32) (x2 : Int32) (x3 : Int32) (x4 : Int64) (x6 : Int32) (s : mb_S), mM_allFrom_l83 k27 n x1 x2 x3 x4 x6 s = some (rv, rs) → mb_B p l e R s0 m args below meth c Q vwCl D A (WM X cI cZ cJ) 7 [(0, .ref (X 0)), (1, .int x1), (2, .int x2), (3, .int x3), (4, .long x4), (6, .int x6)] [] 83 s := by
  intro n
  induction n with
  | zero => intro x1 x2 x3 x4 x6 s h; cases h
  | succ n ih =>
    intro x1 x2 x3 x4 x6 s h
    rw [mM_allFrom_l83_s] at h
    intro ls H locs hl hP hS
    have Cx0 := Cx
    obtain ⟨⟨hx, hb, hml, hown, hts⟩, hK, hD, hA, hZ⟩ := Cx0
    refine lv_iload hx hb d_M_allFrom_83 (lv_at hl 5 rfl) ?_
    refine lv_bipush (v := (64 : Int32)) hx hb d_M_allFrom_85 (by decide) ?_
    refine lv_icmp_ge hx hb d_M_allFrom_87 rfl (fun hc => ?_) (fun hc => ?_)
    · have h := mb_t hc h
      obtain ⟨v2, ev2, h⟩ := mb_ex h
      refine lv_iinc (k := 3) (v := v2) (lv' := [(3, .int v2), (0, .ref (X 0)), (1, .int x1), (2, .int x2), (4, .long x4), (6, .int x6)]) hx hb d_M_allFrom_117 hl rfl ev2 (by decide) rfl (fun ls hl => ?_)
      refine lv_goto hx hb d_M_allFrom_120 rfl ?_
      exact hk27 x1 x2 v2 s h ls H locs (lv_sub hl [1, 2, 3, 0] rfl) hP hS
    · have h := mb_f hc h
      refine lv_lload hx hb d_M_allFrom_90 (lv_at hl 4 rfl) ?_
      refine lv_iload hx hb d_M_allFrom_92 (lv_at hl 5 rfl) ?_
      refine lv_lshr hx hb d_M_allFrom_94 rfl ?_
      refine lv_lconst (v := (1 : Int64)) hx hb d_M_allFrom_95 (by decide) ?_
      refine lv_land hx hb d_M_allFrom_96 ?_
      refine lv_lconst (v := (1 : Int64)) hx hb d_M_allFrom_97 (by decide) ?_
      refine W.lcmp hx hb d_M_allFrom_98 ?_
      refine lv_if_ne hx hb d_M_allFrom_99 rfl (fun hc => ?_) (fun hc => ?_)
      · have h := mb_f hc h
        exact zM_allFrom_b111 Cx hR hret k27 hk27 (mM_allFrom_l83 k27 n) ih x1 x2 x3 x4 x6 s h ls H locs (lv_sub hl [0, 1, 2, 3, 4, 5] rfl) hP hS
      · have h := mb_t hc h
        refine lv_aload_n hx hb d_M_allFrom_102 rfl (lv_at hl 0 rfl) ?_
        refine lv_iload_n hx hb d_M_allFrom_103 rfl (lv_at hl 1 rfl) ?_
        refine lv_iload_n hx hb d_M_allFrom_104 rfl (lv_at hl 3 rfl) ?_
        refine lv_iload_n hx hb d_M_allFrom_105 rfl (lv_at hl 2 rfl) ?_
        refine lv_iload hx hb d_M_allFrom_106 (lv_at hl 5 rfl) ?_
        obtain ⟨_u, s3, hs3, h⟩ := mb_cal_ex h
        refine mb_goV Cx (mb_runV (As := [.int x1, .int x3, .int x2, .int x6]) (rest := []) mb_Z0ok Cx (w_M_follow l D X cI cZ cJ hs3 H.size) (mb_cwV 4 hts wd_715 wd_717 sel_54 wd_7 wd_718 rfl rfl rfl (by decide +kernel) ⟨Nat.le_trans (by decide) hR.1, Nat.le_trans (by decide) hR.2⟩) hP hS 0 rfl rfl rfl hl.1 rfl (Nat.le_of_ble_eq_true rfl) d_M_allFrom_108) hS (fun H locs hP hS => ?_)
        exact zM_allFrom_b111 Cx hR hret k27 hk27 (mM_allFrom_l83 k27 n) ih x1 x2 x3 x4 x6 s3 h ls H locs (lv_sub hl [0, 1, 2, 3, 4, 5] rfl) hP hS
set_option maxRecDepth 100000 in
set_option maxHeartbeats 4000000 in
theorem zM_allFrom_b66 {p : Program} {l : Launch} {e : Env} {R : Room} {s0 : State} {m : MethodId} {args : Array Value} {below : List Frame} {meth : Method} {c : Code} {Q : State → Prop} {A : Nat → Prop} {D : va_G} {X : Nat → Nat} {cI cZ cJ : ClassId} {rv : Unit} {rs : mb_S}
    (Cx : mb_C p s0 m args meth c c_M_allFrom 7 lw_w cnM (fun _ _ => True) vwCl D [(cI, .int), (cZ, .boolean), (cJ, .long)] A (WM X cI cZ cJ)) (hR : 6 ≤ R.frames ∧ 167 ≤ R.locals)
    (hret : mb_R p l e R s0 m args below meth c Q vwCl D A (WM X cI cZ cJ) c_M_allFrom .return_ [] rs) (k27 : Int32 → Int32 → Int32 → mb_S → Option (Unit × mb_S)) (hk27 : ∀ (x1 : Int32) (x2 : Int32) (x3 : Int32) (s : mb_S), k27 x1 x2 x3 s = some (rv, rs) → mb_B p l e R s0 m args below meth c Q vwCl D A (WM X cI cZ cJ) 7 [(0, .ref (X 0)), (1, .int x1), (2, .int x2), (3, .int x3)] [] 27 s) (x1 : Int32) (x2 : Int32) (x3 : Int32) (s : mb_S)
    (h : mM_allFrom_b66 k27 x1 x2 x3 s = some (rv, rs)) : mb_B p l e R s0 m args below meth c Q vwCl D A (WM X cI cZ cJ) 7 [(0, .ref (X 0)), (1, .int x1), (2, .int x2), (3, .int x3)] [] 66 s := by
  unfold mM_allFrom_b66 at h
  intro ls H locs hl hP hS
  have Cx0 := Cx
  obtain ⟨⟨hx, hb, hml, hown, hts⟩, hK, hD, hA, hZ⟩ := Cx0
  refine lv_aload_n hx hb d_M_allFrom_66 rfl (lv_at hl 0 rfl) ?_
  refine va_get (ci := 5) (C := cnM) (T := fTM) (N := 30) hx hb hts uwM hown hK hP 0 rfl rfl 13 (by decide) (hts _ wd_538) (fun _ h9 => h9) rfl d_M_allFrom_67 ?_
  refine lv_aload_n hx hb d_M_allFrom_70 rfl (lv_at hl 0 rfl) ?_
  refine lv_iload_n hx hb d_M_allFrom_71 rfl (lv_at hl 1 rfl) ?_
  refine lv_iload_n hx hb d_M_allFrom_72 rfl (lv_at hl 3 rfl) ?_
  refine lv_iload_n hx hb d_M_allFrom_73 rfl (lv_at hl 2 rfl) ?_
  obtain ⟨v4, s5, hs5, h⟩ := mb_cal_ex h
  refine mb_goI Cx (mb_runV (As := [.int x1, .int x3, .int x2]) (rest := [.ref (X 12)]) mb_Z0ok Cx (w_M_cellOf l D X cI cZ cJ hs5 H.size) (mb_cwV 3 hts wd_711 wd_713 sel_53 wd_7 wd_714 rfl rfl rfl (by decide +kernel) ⟨Nat.le_trans (by decide) hR.1, Nat.le_trans (by decide) hR.2⟩) hP hS 0 rfl rfl rfl hl.1 rfl (Nat.le_of_ble_eq_true rfl) d_M_allFrom_74) hS (fun H locs hP hS => ?_)
  refine mb_lald hx hb hK hP 12 2 rfl rfl h d_M_allFrom_77 (fun v6 h => ?_)
  refine lv_lstore (lv' := [(4, .long v6), (0, .ref (X 0)), (1, .int x1), (2, .int x2), (3, .int x3)]) hx hb d_M_allFrom_78 hl (by decide) rfl (fun ls hl => ?_)
  refine lv_iconst (v := (0 : Int32)) hx hb d_M_allFrom_80 (by decide) ?_
  refine lv_istore (lv' := [(6, .int (0 : Int32)), (4, .long v6), (0, .ref (X 0)), (1, .int x1), (2, .int x2), (3, .int x3)]) hx hb d_M_allFrom_81 hl (by decide) rfl (fun ls hl => ?_)
  exact zM_allFrom_l83 Cx hR hret k27 hk27 mb_fuel x1 x2 x3 v6 (0 : Int32) s5 h ls H locs (lv_sub hl [2, 3, 4, 5, 1, 0] rfl) hP hS
set_option maxRecDepth 100000 in
set_option maxHeartbeats 4000000 in
theorem zM_allFrom_l27 {p : Program} {l : Launch} {e : Env} {R : Room} {s0 : State} {m : MethodId} {args : Array Value} {below : List Frame} {meth : Method} {c : Code} {Q : State → Prop} {A : Nat → Prop} {D : va_G} {X : Nat → Nat} {cI cZ cJ : ClassId} {rv : Unit} {rs : mb_S}
    (Cx : mb_C p s0 m args meth c c_M_allFrom 7 lw_w cnM (fun _ _ => True) vwCl D [(cI, .int), (cZ, .boolean), (cJ, .long)] A (WM X cI cZ cJ)) (hR : 6 ≤ R.frames ∧ 167 ≤ R.locals)
    (hret : mb_R p l e R s0 m args below meth c Q vwCl D A (WM X cI cZ cJ) c_M_allFrom .return_ [] rs)  :
    ∀ (n : Nat) (x1 : Int32) (x2 : Int32) (x3 : Int32) (s : mb_S), mM_allFrom_l27  n x1 x2 x3 s = some (rv, rs) → mb_B p l e R s0 m args below meth c Q vwCl D A (WM X cI cZ cJ) 7 [(0, .ref (X 0)), (1, .int x1), (2, .int x2), (3, .int x3)] [] 27 s := by
  intro n
  induction n with
  | zero => intro x1 x2 x3 s h; cases h
  | succ n ih =>
    intro x1 x2 x3 s h
    rw [mM_allFrom_l27_s] at h
    intro ls H locs hl hP hS
    have Cx0 := Cx
    obtain ⟨⟨hx, hb, hml, hown, hts⟩, hK, hD, hA, hZ⟩ := Cx0
    refine lv_iload_n hx hb d_M_allFrom_27 rfl (lv_at hl 3 rfl) ?_
    refine lv_aload_n hx hb d_M_allFrom_28 rfl (lv_at hl 0 rfl) ?_
    refine va_get (ci := 5) (C := cnM) (T := fTM) (N := 30) hx hb hts uwM hown hK hP 0 rfl rfl 0 (by decide) (hts _ wd_525) (fun _ h9 => h9) rfl d_M_allFrom_29 ?_
    refine lv_iload_n hx hb d_M_allFrom_32 rfl (lv_at hl 1 rfl) ?_
    refine mb_iald hx hb hK hP 1 0 rfl rfl h d_M_allFrom_33 (fun v7 h => ?_)
    refine lv_icmp_ge hx hb d_M_allFrom_34 rfl (fun hc => ?_) (fun hc => ?_)
    · have h := mb_t hc h
      exact mb_eV hret h d_M_allFrom_123 hP hS
    · have h := mb_f hc h
      refine lv_iload_n hx hb d_M_allFrom_37 rfl (lv_at hl 2 rfl) ?_
      refine lv_bipush (v := (64 : Int32)) hx hb d_M_allFrom_38 (by decide) ?_
      refine lv_icmp_ne hx hb d_M_allFrom_40 rfl (fun hc => ?_) (fun hc => ?_)
      · have h := mb_f hc h
        exact zM_allFrom_b66 Cx hR hret (mM_allFrom_l27  n) ih x1 x2 x3 s h ls H locs (lv_sub hl [0, 1, 2, 3] rfl) hP hS
      · have h := mb_t hc h
        refine lv_aload_n hx hb d_M_allFrom_43 rfl (lv_at hl 0 rfl) ?_
        refine va_get (ci := 5) (C := cnM) (T := fTM) (N := 30) hx hb hts uwM hown hK hP 0 rfl rfl 14 (by decide) (hts _ wd_539) (fun _ h9 => h9) rfl d_M_allFrom_44 ?_
        refine lv_bipush (v := (13 : Int32)) hx hb d_M_allFrom_47 (by decide) ?_
        refine lv_iload_n hx hb d_M_allFrom_49 rfl (lv_at hl 1 rfl) ?_
        refine lv_imul hx hb d_M_allFrom_50 ?_
        refine lv_iload_n hx hb d_M_allFrom_51 rfl (lv_at hl 3 rfl) ?_
        refine lv_iadd hx hb d_M_allFrom_52 ?_
        refine mb_zald hx hb hK hP 13 1 rfl rfl h d_M_allFrom_53 (fun v8 h => ?_)
        refine lv_if_eq hx hb d_M_allFrom_54 rfl (fun hc => ?_) (fun hc => ?_)
        · have h := mb_t hc h
          exact zM_allFrom_b66 Cx hR hret (mM_allFrom_l27  n) ih x1 x2 x3 s h ls H locs (lv_sub hl [0, 1, 2, 3] rfl) hP hS
        · have h := mb_f hc h
          refine lv_aload_n hx hb d_M_allFrom_57 rfl (lv_at hl 0 rfl) ?_
          refine lv_iload_n hx hb d_M_allFrom_58 rfl (lv_at hl 1 rfl) ?_
          refine lv_iload_n hx hb d_M_allFrom_59 rfl (lv_at hl 3 rfl) ?_
          refine lv_iload_n hx hb d_M_allFrom_60 rfl (lv_at hl 2 rfl) ?_
          refine lv_bipush (v := (64 : Int32)) hx hb d_M_allFrom_61 (by decide) ?_
          obtain ⟨_u, s9, hs9, h⟩ := mb_cal_ex h
          refine mb_goV Cx (mb_runV (As := [.int x1, .int x3, .int x2, .int (64 : Int32)]) (rest := []) mb_Z0ok Cx (w_M_follow l D X cI cZ cJ hs9 H.size) (mb_cwV 4 hts wd_715 wd_717 sel_54 wd_7 wd_718 rfl rfl rfl (by decide +kernel) ⟨Nat.le_trans (by decide) hR.1, Nat.le_trans (by decide) hR.2⟩) hP hS 0 rfl rfl rfl hl.1 rfl (Nat.le_of_ble_eq_true rfl) d_M_allFrom_63) hS (fun H locs hP hS => ?_)
          exact zM_allFrom_b66 Cx hR hret (mM_allFrom_l27  n) ih x1 x2 x3 s9 h ls H locs (lv_sub hl [0, 1, 2, 3] rfl) hP hS
set_option maxRecDepth 100000 in
set_option maxHeartbeats 4000000 in
theorem zM_allFrom_b25 {p : Program} {l : Launch} {e : Env} {R : Room} {s0 : State} {m : MethodId} {args : Array Value} {below : List Frame} {meth : Method} {c : Code} {Q : State → Prop} {A : Nat → Prop} {D : va_G} {X : Nat → Nat} {cI cZ cJ : ClassId} {rv : Unit} {rs : mb_S}
    (Cx : mb_C p s0 m args meth c c_M_allFrom 7 lw_w cnM (fun _ _ => True) vwCl D [(cI, .int), (cZ, .boolean), (cJ, .long)] A (WM X cI cZ cJ)) (hR : 6 ≤ R.frames ∧ 167 ≤ R.locals)
    (hret : mb_R p l e R s0 m args below meth c Q vwCl D A (WM X cI cZ cJ) c_M_allFrom .return_ [] rs)  (x1 : Int32) (x2 : Int32) (s : mb_S)
    (h : mM_allFrom_b25  x1 x2 s = some (rv, rs)) : mb_B p l e R s0 m args below meth c Q vwCl D A (WM X cI cZ cJ) 7 [(0, .ref (X 0)), (1, .int x1), (2, .int x2)] [] 25 s := by
  unfold mM_allFrom_b25 at h
  intro ls H locs hl hP hS
  have Cx0 := Cx
  obtain ⟨⟨hx, hb, hml, hown, hts⟩, hK, hD, hA, hZ⟩ := Cx0
  refine lv_iconst (v := (0 : Int32)) hx hb d_M_allFrom_25 (by decide) ?_
  refine lv_istore_n (lv' := [(3, .int (0 : Int32)), (0, .ref (X 0)), (1, .int x1), (2, .int x2)]) hx hb d_M_allFrom_26 rfl hl (by decide) rfl (fun ls hl => ?_)
  exact zM_allFrom_l27 Cx hR hret  mb_fuel x1 x2 (0 : Int32) s h ls H locs (lv_sub hl [1, 2, 3, 0] rfl) hP hS
set_option maxRecDepth 100000 in
set_option maxHeartbeats 4000000 in
theorem w_M_allFrom (l : Launch) (D : va_G) (X : Nat → Nat) (cI cZ cJ : ClassId) {x1 : Int32} {x2 : Int32} {s : mb_S} {rv : Unit} {rs : mb_S}
    (h : mM_allFrom x1 x2 s = some (rv, rs)) : mb_MV l y_M_allFrom ws_M_allFrom rm_M_allFrom (fun _ _ => True) vwCl D [(cI, .int), (cZ, .boolean), (cJ, .long)] (WM X cI cZ cJ) [.ref (X 0), .int x1, .int x2] s rs := by
  refine mb_ofV mb_Z0ok (by decide) rfl (Nat.le_of_ble_eq_true rfl) mb_DMok ?_
  intro p e s0 m args below meth c Q A Cx hret
  have hR : 6 ≤ (rm_M_allFrom).frames ∧ 167 ≤ (rm_M_allFrom).locals := ⟨Nat.le_refl _, Nat.le_refl _⟩
  intro ls H locs hl hP hS
  have Cx0 := Cx
  obtain ⟨⟨hx, hb, hml, hown, hts⟩, hK, hD, hA, hZ⟩ := Cx0
  have hl : lv_has ls 7 [(0, .ref (X 0)), (1, .int x1), (2, .int x2)] := hl
  unfold mM_allFrom at h
  refine lv_iload_n hx hb d_M_allFrom_0 rfl (lv_at hl 2 rfl) ?_
  refine lv_bipush (v := (64 : Int32)) hx hb d_M_allFrom_1 (by decide) ?_
  refine lv_icmp_ne hx hb d_M_allFrom_3 rfl (fun hc => ?_) (fun hc => ?_)
  · have h := mb_f hc h
    refine lv_aload_n hx hb d_M_allFrom_15 rfl (lv_at hl 0 rfl) ?_
    refine lv_iload_n hx hb d_M_allFrom_16 rfl (lv_at hl 1 rfl) ?_
    refine lv_iconst (v := (0 : Int32)) hx hb d_M_allFrom_17 (by decide) ?_
    refine lv_iload_n hx hb d_M_allFrom_18 rfl (lv_at hl 2 rfl) ?_
    refine lv_lconst (v := (1 : Int64)) hx hb d_M_allFrom_19 (by decide) ?_
    refine lv_iload_n hx hb d_M_allFrom_20 rfl (lv_at hl 2 rfl) ?_
    refine lv_lshl hx hb d_M_allFrom_21 rfl ?_
    obtain ⟨_u, s10, hs10, h⟩ := mb_cal_ex h
    refine mb_goV Cx (mb_runV (As := [.int x1, .int (0 : Int32), .int x2, .long ((1 : Int64) <<< (Int32.toInt64 x2 &&& 63))]) (rest := []) mb_Z0ok Cx (w_M_put l D X cI cZ cJ hs10 H.size) (mb_cwV 4 hts wd_707 wd_709 sel_52 wd_7 wd_710 rfl rfl rfl (by decide +kernel) ⟨Nat.le_trans (by decide) hR.1, Nat.le_trans (by decide) hR.2⟩) hP hS 0 rfl rfl rfl hl.1 rfl (Nat.le_of_ble_eq_true rfl) d_M_allFrom_22) hS (fun H locs hP hS => ?_)
    exact zM_allFrom_b25 Cx hR hret  x1 x2 s10 h ls H locs (lv_sub hl [0, 1, 2] rfl) hP hS
  · have h := mb_t hc h
    refine lv_aload_n hx hb d_M_allFrom_6 rfl (lv_at hl 0 rfl) ?_
    refine lv_iload_n hx hb d_M_allFrom_7 rfl (lv_at hl 1 rfl) ?_
    refine lv_iconst (v := (0 : Int32)) hx hb d_M_allFrom_8 (by decide) ?_
    obtain ⟨_u, s11, hs11, h⟩ := mb_cal_ex h
    refine mb_goV Cx (mb_runV (As := [.int x1, .int (0 : Int32)]) (rest := []) mb_Z0ok Cx (w_M_putZero l D X cI cZ cJ hs11 H.size) (mb_cwV 2 hts wd_703 wd_705 sel_51 wd_7 wd_706 rfl rfl rfl (by decide +kernel) ⟨Nat.le_trans (by decide) hR.1, Nat.le_trans (by decide) hR.2⟩) hP hS 0 rfl rfl rfl hl.1 rfl (Nat.le_of_ble_eq_true rfl) d_M_allFrom_9) hS (fun H locs hP hS => ?_)
    refine lv_goto hx hb d_M_allFrom_12 rfl ?_
    exact zM_allFrom_b25 Cx hR hret  x1 x2 s11 h ls H locs (lv_sub hl [0, 1, 2] rfl) hP hS
set_option maxRecDepth 100000 in
set_option maxHeartbeats 4000000 in
theorem zM_workFacts_b153 {p : Program} {l : Launch} {e : Env} {R : Room} {s0 : State} {m : MethodId} {args : Array Value} {below : List Frame} {meth : Method} {c : Code} {Q : State → Prop} {A : Nat → Prop} {D : va_G} {X : Nat → Nat} {cI cZ cJ : ClassId} {rv : Unit} {rs : mb_S}
    (Cx : mb_C p s0 m args meth c c_M_workFacts 4 lw_w cnM (fun _ _ => True) vwCl D [(cI, .int), (cZ, .boolean), (cJ, .long)] A (WM X cI cZ cJ)) (hR : 7 ≤ R.frames ∧ 193 ≤ R.locals)
    (hret : mb_R p l e R s0 m args below meth c Q vwCl D A (WM X cI cZ cJ) c_M_workFacts .return_ [] rs)   (s : mb_S)
    (h : mM_workFacts_b153  s = some (rv, rs)) : mb_B p l e R s0 m args below meth c Q vwCl D A (WM X cI cZ cJ) 4 [] [] 153 s := by
  unfold mM_workFacts_b153 at h
  intro ls H locs hl hP hS
  have Cx0 := Cx
  obtain ⟨⟨hx, hb, hml, hown, hts⟩, hK, hD, hA, hZ⟩ := Cx0
  exact mb_eV hret h d_M_workFacts_153 hP hS
set_option maxRecDepth 100000 in
set_option maxHeartbeats 4000000 in
theorem zM_workFacts_b135 {p : Program} {l : Launch} {e : Env} {R : Room} {s0 : State} {m : MethodId} {args : Array Value} {below : List Frame} {meth : Method} {c : Code} {Q : State → Prop} {A : Nat → Prop} {D : va_G} {X : Nat → Nat} {cI cZ cJ : ClassId} {rv : Unit} {rs : mb_S}
    (Cx : mb_C p s0 m args meth c c_M_workFacts 4 lw_w cnM (fun _ _ => True) vwCl D [(cI, .int), (cZ, .boolean), (cJ, .long)] A (WM X cI cZ cJ)) (hR : 7 ≤ R.frames ∧ 193 ≤ R.locals)
    (hret : mb_R p l e R s0 m args below meth c Q vwCl D A (WM X cI cZ cJ) c_M_workFacts .return_ [] rs) (k86 : Int32 → mb_S → Option (Unit × mb_S)) (hk86 : ∀ (x1 : Int32) (s : mb_S), k86 x1 s = some (rv, rs) → mb_B p l e R s0 m args below meth c Q vwCl D A (WM X cI cZ cJ) 4 [(0, .ref (X 0)), (1, .int x1)] [] 86 s) (k106 : Int32 → Int32 → mb_S → Option (Unit × mb_S)) (hk106 : ∀ (x1 : Int32) (x2 : Int32) (s : mb_S), k106 x1 x2 s = some (rv, rs) → mb_B p l e R s0 m args below meth c Q vwCl D A (WM X cI cZ cJ) 4 [(0, .ref (X 0)), (1, .int x1), (2, .int x2)] [] 106 s) (k114 : Int32 → Int32 → Int32 → mb_S → Option (Unit × mb_S)) (hk114 : ∀ (x1 : Int32) (x2 : Int32) (x3 : Int32) (s : mb_S), k114 x1 x2 x3 s = some (rv, rs) → mb_B p l e R s0 m args below meth c Q vwCl D A (WM X cI cZ cJ) 4 [(0, .ref (X 0)), (1, .int x1), (2, .int x2), (3, .int x3)] [] 114 s) (x1 : Int32) (x2 : Int32) (x3 : Int32) (s : mb_S)
    (h : mM_workFacts_b135 k86 k106 k114 x1 x2 x3 s = some (rv, rs)) : mb_B p l e R s0 m args below meth c Q vwCl D A (WM X cI cZ cJ) 4 [(0, .ref (X 0)), (1, .int x1), (2, .int x2), (3, .int x3)] [] 135 s := by
  unfold mM_workFacts_b135 at h
  intro ls H locs hl hP hS
  have Cx0 := Cx
  obtain ⟨⟨hx, hb, hml, hown, hts⟩, hK, hD, hA, hZ⟩ := Cx0
  obtain ⟨v1, ev1, h⟩ := mb_ex h
  refine lv_iinc (k := 3) (v := v1) (lv' := [(3, .int v1), (0, .ref (X 0)), (1, .int x1), (2, .int x2)]) hx hb d_M_workFacts_135 hl rfl ev1 (by decide) rfl (fun ls hl => ?_)
  refine lv_goto hx hb d_M_workFacts_138 rfl ?_
  exact hk114 x1 x2 v1 s h ls H locs (lv_sub hl [1, 2, 3, 0] rfl) hP hS
set_option maxRecDepth 100000 in
set_option maxHeartbeats 4000000 in
theorem zM_workFacts_l114 {p : Program} {l : Launch} {e : Env} {R : Room} {s0 : State} {m : MethodId} {args : Array Value} {below : List Frame} {meth : Method} {c : Code} {Q : State → Prop} {A : Nat → Prop} {D : va_G} {X : Nat → Nat} {cI cZ cJ : ClassId} {rv : Unit} {rs : mb_S}
    (Cx : mb_C p s0 m args meth c c_M_workFacts 4 lw_w cnM (fun _ _ => True) vwCl D [(cI, .int), (cZ, .boolean), (cJ, .long)] A (WM X cI cZ cJ)) (hR : 7 ≤ R.frames ∧ 193 ≤ R.locals)
    (hret : mb_R p l e R s0 m args below meth c Q vwCl D A (WM X cI cZ cJ) c_M_workFacts .return_ [] rs) (k86 : Int32 → mb_S → Option (Unit × mb_S)) (hk86 : ∀ (x1 : Int32) (s : mb_S), k86 x1 s = some (rv, rs) → mb_B p l e R s0 m args below meth c Q vwCl D A (WM X cI cZ cJ) 4 [(0, .ref (X 0)), (1, .int x1)] [] 86 s) (k106 : Int32 → Int32 → mb_S → Option (Unit × mb_S)) (hk106 : ∀ (x1 : Int32) (x2 : Int32) (s : mb_S), k106 x1 x2 s = some (rv, rs) → mb_B p l e R s0 m args below meth c Q vwCl D A (WM X cI cZ cJ) 4 [(0, .ref (X 0)), (1, .int x1), (2, .int x2)] [] 106 s) :
    ∀ (n : Nat) (x1 : Int32) (x2 : Int32) (x3 : Int32) (s : mb_S), mM_workFacts_l114 k86 k106 n x1 x2 x3 s = some (rv, rs) → mb_B p l e R s0 m args below meth c Q vwCl D A (WM X cI cZ cJ) 4 [(0, .ref (X 0)), (1, .int x1), (2, .int x2), (3, .int x3)] [] 114 s := by
  intro n
  induction n with
  | zero => intro x1 x2 x3 s h; cases h
  | succ n ih =>
    intro x1 x2 x3 s h
    rw [mM_workFacts_l114_s] at h
    intro ls H locs hl hP hS
    have Cx0 := Cx
    obtain ⟨⟨hx, hb, hml, hown, hts⟩, hK, hD, hA, hZ⟩ := Cx0
    refine lv_iload_n hx hb d_M_workFacts_114 rfl (lv_at hl 3 rfl) ?_
    refine lv_bipush (v := (64 : Int32)) hx hb d_M_workFacts_115 (by decide) ?_
    refine lv_icmp_gt hx hb d_M_workFacts_117 rfl (fun hc => ?_) (fun hc => ?_)
    · have h := mb_t hc h
      obtain ⟨v2, ev2, h⟩ := mb_ex h
      refine lv_iinc (k := 2) (v := v2) (lv' := [(2, .int v2), (0, .ref (X 0)), (1, .int x1), (3, .int x3)]) hx hb d_M_workFacts_141 hl rfl ev2 (by decide) rfl (fun ls hl => ?_)
      refine lv_goto hx hb d_M_workFacts_144 rfl ?_
      exact hk106 x1 v2 s h ls H locs (lv_sub hl [1, 2, 0] rfl) hP hS
    · have h := mb_f hc h
      refine lv_aload_n hx hb d_M_workFacts_120 rfl (lv_at hl 0 rfl) ?_
      refine lv_iload_n hx hb d_M_workFacts_121 rfl (lv_at hl 2 rfl) ?_
      refine lv_iload_n hx hb d_M_workFacts_122 rfl (lv_at hl 3 rfl) ?_
      obtain ⟨v3, s4, hs4, h⟩ := mb_cal_ex h
      refine mb_goI Cx (mb_runV (As := [.int x2, .int x3]) (rest := []) mb_Z0ok Cx (w_M_isEntry l D X cI cZ cJ hs4 H.size) (mb_cwV 2 hts wd_695 wd_697 sel_49 wd_7 wd_698 rfl rfl rfl (by decide +kernel) ⟨Nat.le_trans (by decide) hR.1, Nat.le_trans (by decide) hR.2⟩) hP hS 0 rfl rfl rfl hl.1 rfl (Nat.le_of_ble_eq_true rfl) d_M_workFacts_123) hS (fun H locs hP hS => ?_)
      refine lv_if_eq hx hb d_M_workFacts_126 rfl (fun hc => ?_) (fun hc => ?_)
      · have h := mb_t hc h
        exact zM_workFacts_b135 Cx hR hret k86 hk86 k106 hk106 (mM_workFacts_l114 k86 k106 n) ih x1 x2 x3 s4 h ls H locs (lv_sub hl [0, 1, 2, 3] rfl) hP hS
      · have h := mb_f hc h
        refine lv_aload_n hx hb d_M_workFacts_129 rfl (lv_at hl 0 rfl) ?_
        refine lv_iload_n hx hb d_M_workFacts_130 rfl (lv_at hl 2 rfl) ?_
        refine lv_iload_n hx hb d_M_workFacts_131 rfl (lv_at hl 3 rfl) ?_
        obtain ⟨_u, s5, hs5, h⟩ := mb_cal_ex h
        refine mb_goV Cx (mb_runV (As := [.int x2, .int x3]) (rest := []) mb_Z0ok Cx (w_M_allFrom l D X cI cZ cJ hs5 H.size) (mb_cwV 2 hts wd_699 wd_701 sel_50 wd_7 wd_702 rfl rfl rfl (by decide +kernel) ⟨Nat.le_trans (by decide) hR.1, Nat.le_trans (by decide) hR.2⟩) hP hS 0 rfl rfl rfl hl.1 rfl (Nat.le_of_ble_eq_true rfl) d_M_workFacts_132) hS (fun H locs hP hS => ?_)
        exact zM_workFacts_b135 Cx hR hret k86 hk86 k106 hk106 (mM_workFacts_l114 k86 k106 n) ih x1 x2 x3 s5 h ls H locs (lv_sub hl [0, 1, 2, 3] rfl) hP hS
set_option maxRecDepth 100000 in
set_option maxHeartbeats 4000000 in
theorem zM_workFacts_l106 {p : Program} {l : Launch} {e : Env} {R : Room} {s0 : State} {m : MethodId} {args : Array Value} {below : List Frame} {meth : Method} {c : Code} {Q : State → Prop} {A : Nat → Prop} {D : va_G} {X : Nat → Nat} {cI cZ cJ : ClassId} {rv : Unit} {rs : mb_S}
    (Cx : mb_C p s0 m args meth c c_M_workFacts 4 lw_w cnM (fun _ _ => True) vwCl D [(cI, .int), (cZ, .boolean), (cJ, .long)] A (WM X cI cZ cJ)) (hR : 7 ≤ R.frames ∧ 193 ≤ R.locals)
    (hret : mb_R p l e R s0 m args below meth c Q vwCl D A (WM X cI cZ cJ) c_M_workFacts .return_ [] rs) (k86 : Int32 → mb_S → Option (Unit × mb_S)) (hk86 : ∀ (x1 : Int32) (s : mb_S), k86 x1 s = some (rv, rs) → mb_B p l e R s0 m args below meth c Q vwCl D A (WM X cI cZ cJ) 4 [(0, .ref (X 0)), (1, .int x1)] [] 86 s) :
    ∀ (n : Nat) (x1 : Int32) (x2 : Int32) (s : mb_S), mM_workFacts_l106 k86 n x1 x2 s = some (rv, rs) → mb_B p l e R s0 m args below meth c Q vwCl D A (WM X cI cZ cJ) 4 [(0, .ref (X 0)), (1, .int x1), (2, .int x2)] [] 106 s := by
  intro n
  induction n with
  | zero => intro x1 x2 s h; cases h
  | succ n ih =>
    intro x1 x2 s h
    rw [mM_workFacts_l106_s] at h
    intro ls H locs hl hP hS
    have Cx0 := Cx
    obtain ⟨⟨hx, hb, hml, hown, hts⟩, hK, hD, hA, hZ⟩ := Cx0
    refine lv_iload_n hx hb d_M_workFacts_106 rfl (lv_at hl 2 rfl) ?_
    refine lv_bipush (v := (6 : Int32)) hx hb d_M_workFacts_107 (by decide) ?_
    refine lv_icmp_ge hx hb d_M_workFacts_109 rfl (fun hc => ?_) (fun hc => ?_)
    · have h := mb_t hc h
      obtain ⟨v6, ev6, h⟩ := mb_ex h
      refine lv_iinc (k := 1) (v := v6) (lv' := [(1, .int v6), (0, .ref (X 0)), (2, .int x2)]) hx hb d_M_workFacts_147 hl rfl ev6 (by decide) rfl (fun ls hl => ?_)
      refine lv_goto hx hb d_M_workFacts_150 rfl ?_
      exact hk86 v6 s h ls H locs (lv_sub hl [1, 0] rfl) hP hS
    · have h := mb_f hc h
      refine lv_iconst (v := (0 : Int32)) hx hb d_M_workFacts_112 (by decide) ?_
      refine lv_istore_n (lv' := [(3, .int (0 : Int32)), (0, .ref (X 0)), (1, .int x1), (2, .int x2)]) hx hb d_M_workFacts_113 rfl hl (by decide) rfl (fun ls hl => ?_)
      exact zM_workFacts_l114 Cx hR hret k86 hk86 (mM_workFacts_l106 k86 n) ih mb_fuel x1 x2 (0 : Int32) s h ls H locs (lv_sub hl [1, 2, 3, 0] rfl) hP hS
set_option maxRecDepth 100000 in
set_option maxHeartbeats 4000000 in
theorem zM_workFacts_l86 {p : Program} {l : Launch} {e : Env} {R : Room} {s0 : State} {m : MethodId} {args : Array Value} {below : List Frame} {meth : Method} {c : Code} {Q : State → Prop} {A : Nat → Prop} {D : va_G} {X : Nat → Nat} {cI cZ cJ : ClassId} {rv : Unit} {rs : mb_S}
    (Cx : mb_C p s0 m args meth c c_M_workFacts 4 lw_w cnM (fun _ _ => True) vwCl D [(cI, .int), (cZ, .boolean), (cJ, .long)] A (WM X cI cZ cJ)) (hR : 7 ≤ R.frames ∧ 193 ≤ R.locals)
    (hret : mb_R p l e R s0 m args below meth c Q vwCl D A (WM X cI cZ cJ) c_M_workFacts .return_ [] rs)  :
    ∀ (n : Nat) (x1 : Int32) (s : mb_S), mM_workFacts_l86  n x1 s = some (rv, rs) → mb_B p l e R s0 m args below meth c Q vwCl D A (WM X cI cZ cJ) 4 [(0, .ref (X 0)), (1, .int x1)] [] 86 s := by
  intro n
  induction n with
  | zero => intro x1 s h; cases h
  | succ n ih =>
    intro x1 s h
    rw [mM_workFacts_l86_s] at h
    intro ls H locs hl hP hS
    have Cx0 := Cx
    obtain ⟨⟨hx, hb, hml, hown, hts⟩, hK, hD, hA, hZ⟩ := Cx0
    refine lv_iload_n hx hb d_M_workFacts_86 rfl (lv_at hl 1 rfl) ?_
    refine lv_ldc (v := (1000000 : Int32)) hx hb hown (hts _ wd_694) d_M_workFacts_87 ?_
    refine lv_icmp_ge hx hb d_M_workFacts_89 rfl (fun hc => ?_) (fun hc => ?_)
    · have h := mb_t hc h
      exact zM_workFacts_b153 Cx hR hret  s h ls H locs (lv_sub hl [] rfl) hP hS
    · have h := mb_f hc h
      refine lv_aload_n hx hb d_M_workFacts_92 rfl (lv_at hl 0 rfl) ?_
      refine va_get (ci := 5) (C := cnM) (T := fTM) (N := 30) hx hb hts uwM hown hK hP 0 rfl rfl 8 (by decide) (hts _ wd_533) (fun _ h9 => h9) rfl d_M_workFacts_93 ?_
      refine lv_if_eq hx hb d_M_workFacts_96 rfl (fun hc => ?_) (fun hc => ?_)
      · have h := mb_t hc h
        exact zM_workFacts_b153 Cx hR hret  s h ls H locs (lv_sub hl [] rfl) hP hS
      · have h := mb_f hc h
        refine lv_aload_n hx hb d_M_workFacts_99 rfl (lv_at hl 0 rfl) ?_
        refine lv_iconst (v := (0 : Int32)) hx hb d_M_workFacts_100 (by decide) ?_
        obtain ⟨hzs7, h⟩ := mb_putZ_ex h
        refine va_put (ci := 5) (v := .int (0 : Int32)) (ty := .boolean) (C := cnM) (T := fTM) (N := 30) hx hb hts uwM fyM fyM_ok fnM hown hK hP (hD _) hS 0 rfl rfl 8 (by decide) (hts _ wd_533) (fun _ h9 => h9) rfl (by decide +kernel) (mb_narZ hzs7) (mb_fitZ hzs7) (Nat.le_of_ble_eq_true rfl) d_M_workFacts_101 (fun H locs hP _ hS => ?_)
        have hP : va_P D vwCl (WM X cI cZ cJ (mb_setF s 1 (0 : Int32))) H := hP
        generalize mb_setF s 1 (0 : Int32) = s7 at hP h
        refine lv_iconst (v := (0 : Int32)) hx hb d_M_workFacts_104 (by decide) ?_
        refine lv_istore_n (lv' := [(2, .int (0 : Int32)), (0, .ref (X 0)), (1, .int x1)]) hx hb d_M_workFacts_105 rfl hl (by decide) rfl (fun ls hl => ?_)
        exact zM_workFacts_l106 Cx hR hret (mM_workFacts_l86  n) ih mb_fuel x1 (0 : Int32) s7 h ls H locs (lv_sub hl [1, 2, 0] rfl) hP hS
set_option maxRecDepth 100000 in
set_option maxHeartbeats 4000000 in
theorem zM_workFacts_b72 {p : Program} {l : Launch} {e : Env} {R : Room} {s0 : State} {m : MethodId} {args : Array Value} {below : List Frame} {meth : Method} {c : Code} {Q : State → Prop} {A : Nat → Prop} {D : va_G} {X : Nat → Nat} {cI cZ cJ : ClassId} {rv : Unit} {rs : mb_S}
    (Cx : mb_C p s0 m args meth c c_M_workFacts 4 lw_w cnM (fun _ _ => True) vwCl D [(cI, .int), (cZ, .boolean), (cJ, .long)] A (WM X cI cZ cJ)) (hR : 7 ≤ R.frames ∧ 193 ≤ R.locals)
    (hret : mb_R p l e R s0 m args below meth c Q vwCl D A (WM X cI cZ cJ) c_M_workFacts .return_ [] rs) (k45 : Int32 → mb_S → Option (Unit × mb_S)) (hk45 : ∀ (x1 : Int32) (s : mb_S), k45 x1 s = some (rv, rs) → mb_B p l e R s0 m args below meth c Q vwCl D A (WM X cI cZ cJ) 4 [(0, .ref (X 0)), (1, .int x1)] [] 45 s) (x1 : Int32) (y0 : Int32) (y1 : Int32) (s : mb_S)
    (h : mM_workFacts_b72 k45 x1 y0 y1 s = some (rv, rs)) : mb_B p l e R s0 m args below meth c Q vwCl D A (WM X cI cZ cJ) 4 [(0, .ref (X 0)), (1, .int x1)] [.int y0, .int y1, .ref (X 15)] 72 s := by
  unfold mM_workFacts_b72 at h
  intro ls H locs hl hP hS
  have Cx0 := Cx
  obtain ⟨⟨hx, hb, hml, hown, hts⟩, hK, hD, hA, hZ⟩ := Cx0
  refine mb_zast (WS := WM X cI cZ cJ) hx hb hK hP hD hS 15 1 rfl rfl h d_M_workFacts_72 rfl (fun H locs s8 hP hS h => ?_)
  obtain ⟨v9, ev9, h⟩ := mb_ex h
  refine lv_iinc (k := 1) (v := v9) (lv' := [(1, .int v9), (0, .ref (X 0))]) hx hb d_M_workFacts_73 hl rfl ev9 (by decide) rfl (fun ls hl => ?_)
  refine lv_goto hx hb d_M_workFacts_76 rfl ?_
  exact hk45 v9 s8 h ls H locs (lv_sub hl [1, 0] rfl) hP hS
set_option maxRecDepth 100000 in
set_option maxHeartbeats 4000000 in
theorem zM_workFacts_l45 {p : Program} {l : Launch} {e : Env} {R : Room} {s0 : State} {m : MethodId} {args : Array Value} {below : List Frame} {meth : Method} {c : Code} {Q : State → Prop} {A : Nat → Prop} {D : va_G} {X : Nat → Nat} {cI cZ cJ : ClassId} {rv : Unit} {rs : mb_S}
    (Cx : mb_C p s0 m args meth c c_M_workFacts 4 lw_w cnM (fun _ _ => True) vwCl D [(cI, .int), (cZ, .boolean), (cJ, .long)] A (WM X cI cZ cJ)) (hR : 7 ≤ R.frames ∧ 193 ≤ R.locals)
    (hret : mb_R p l e R s0 m args below meth c Q vwCl D A (WM X cI cZ cJ) c_M_workFacts .return_ [] rs)  :
    ∀ (n : Nat) (x1 : Int32) (s : mb_S), mM_workFacts_l45  n x1 s = some (rv, rs) → mb_B p l e R s0 m args below meth c Q vwCl D A (WM X cI cZ cJ) 4 [(0, .ref (X 0)), (1, .int x1)] [] 45 s := by
  intro n
  induction n with
  | zero => intro x1 s h; cases h
  | succ n ih =>
    intro x1 s h
    rw [mM_workFacts_l45_s] at h
    intro ls H locs hl hP hS
    have Cx0 := Cx
    obtain ⟨⟨hx, hb, hml, hown, hts⟩, hK, hD, hA, hZ⟩ := Cx0
    refine lv_iload_n hx hb d_M_workFacts_45 rfl (lv_at hl 1 rfl) ?_
    refine lv_bipush (v := (6 : Int32)) hx hb d_M_workFacts_46 (by decide) ?_
    refine lv_icmp_ge hx hb d_M_workFacts_48 rfl (fun hc => ?_) (fun hc => ?_)
    · have h := mb_t hc h
      refine lv_aload_n hx hb d_M_workFacts_79 rfl (lv_at hl 0 rfl) ?_
      refine lv_iconst (v := (1 : Int32)) hx hb d_M_workFacts_80 (by decide) ?_
      obtain ⟨hzs10, h⟩ := mb_putZ_ex h
      refine va_put (ci := 5) (v := .int (1 : Int32)) (ty := .boolean) (C := cnM) (T := fTM) (N := 30) hx hb hts uwM fyM fyM_ok fnM hown hK hP (hD _) hS 0 rfl rfl 8 (by decide) (hts _ wd_533) (fun _ h9 => h9) rfl (by decide +kernel) (mb_narZ hzs10) (mb_fitZ hzs10) (Nat.le_of_ble_eq_true rfl) d_M_workFacts_81 (fun H locs hP _ hS => ?_)
      have hP : va_P D vwCl (WM X cI cZ cJ (mb_setF s 1 (1 : Int32))) H := hP
      generalize mb_setF s 1 (1 : Int32) = s10 at hP h
      refine lv_iconst (v := (0 : Int32)) hx hb d_M_workFacts_84 (by decide) ?_
      refine lv_istore_n (lv' := [(1, .int (0 : Int32)), (0, .ref (X 0))]) hx hb d_M_workFacts_85 rfl hl (by decide) rfl (fun ls hl => ?_)
      exact zM_workFacts_l86 Cx hR hret  mb_fuel (0 : Int32) s10 h ls H locs (lv_sub hl [1, 0] rfl) hP hS
    · have h := mb_f hc h
      refine lv_aload_n hx hb d_M_workFacts_51 rfl (lv_at hl 0 rfl) ?_
      refine va_get (ci := 5) (C := cnM) (T := fTM) (N := 30) hx hb hts uwM hown hK hP 0 rfl rfl 15 (by decide) (hts _ wd_540) (fun _ h9 => h9) rfl d_M_workFacts_52 ?_
      refine lv_iload_n hx hb d_M_workFacts_55 rfl (lv_at hl 1 rfl) ?_
      refine lv_lconst (v := (0 : Int64)) hx hb d_M_workFacts_56 (by decide) ?_
      refine mb_last (WS := WM X cI cZ cJ) hx hb hK hP hD hS 14 2 rfl rfl h d_M_workFacts_57 rfl (fun H locs s11 hP hS h => ?_)
      refine lv_aload_n hx hb d_M_workFacts_58 rfl (lv_at hl 0 rfl) ?_
      refine va_get (ci := 5) (C := cnM) (T := fTM) (N := 30) hx hb hts uwM hown hK hP 0 rfl rfl 16 (by decide) (hts _ wd_541) (fun _ h9 => h9) rfl d_M_workFacts_59 ?_
      refine lv_iload_n hx hb d_M_workFacts_62 rfl (lv_at hl 1 rfl) ?_
      refine lv_iload_n hx hb d_M_workFacts_63 rfl (lv_at hl 1 rfl) ?_
      refine lv_if_ne hx hb d_M_workFacts_64 rfl (fun hc => ?_) (fun hc => ?_)
      · have h := mb_f hc h
        refine lv_iconst (v := (0 : Int32)) hx hb d_M_workFacts_71 (by decide) ?_
        exact zM_workFacts_b72 Cx hR hret (mM_workFacts_l45  n) ih x1 (0 : Int32) x1 s11 h ls H locs (lv_sub hl [0, 1] rfl) hP hS
      · have h := mb_t hc h
        refine lv_iconst (v := (1 : Int32)) hx hb d_M_workFacts_67 (by decide) ?_
        refine lv_goto hx hb d_M_workFacts_68 rfl ?_
        exact zM_workFacts_b72 Cx hR hret (mM_workFacts_l45  n) ih x1 (1 : Int32) x1 s11 h ls H locs (lv_sub hl [0, 1] rfl) hP hS
set_option maxRecDepth 100000 in
set_option maxHeartbeats 4000000 in
theorem zM_workFacts_l24 {p : Program} {l : Launch} {e : Env} {R : Room} {s0 : State} {m : MethodId} {args : Array Value} {below : List Frame} {meth : Method} {c : Code} {Q : State → Prop} {A : Nat → Prop} {D : va_G} {X : Nat → Nat} {cI cZ cJ : ClassId} {rv : Unit} {rs : mb_S}
    (Cx : mb_C p s0 m args meth c c_M_workFacts 4 lw_w cnM (fun _ _ => True) vwCl D [(cI, .int), (cZ, .boolean), (cJ, .long)] A (WM X cI cZ cJ)) (hR : 7 ≤ R.frames ∧ 193 ≤ R.locals)
    (hret : mb_R p l e R s0 m args below meth c Q vwCl D A (WM X cI cZ cJ) c_M_workFacts .return_ [] rs)  :
    ∀ (n : Nat) (x1 : Int32) (s : mb_S), mM_workFacts_l24  n x1 s = some (rv, rs) → mb_B p l e R s0 m args below meth c Q vwCl D A (WM X cI cZ cJ) 4 [(0, .ref (X 0)), (1, .int x1)] [] 24 s := by
  intro n
  induction n with
  | zero => intro x1 s h; cases h
  | succ n ih =>
    intro x1 s h
    rw [mM_workFacts_l24_s] at h
    intro ls H locs hl hP hS
    have Cx0 := Cx
    obtain ⟨⟨hx, hb, hml, hown, hts⟩, hK, hD, hA, hZ⟩ := Cx0
    refine lv_iload_n hx hb d_M_workFacts_24 rfl (lv_at hl 1 rfl) ?_
    refine lv_bipush (v := (78 : Int32)) hx hb d_M_workFacts_25 (by decide) ?_
    refine lv_icmp_ge hx hb d_M_workFacts_27 rfl (fun hc => ?_) (fun hc => ?_)
    · have h := mb_t hc h
      refine lv_iconst (v := (0 : Int32)) hx hb d_M_workFacts_43 (by decide) ?_
      refine lv_istore_n (lv' := [(1, .int (0 : Int32)), (0, .ref (X 0))]) hx hb d_M_workFacts_44 rfl hl (by decide) rfl (fun ls hl => ?_)
      exact zM_workFacts_l45 Cx hR hret  mb_fuel (0 : Int32) s h ls H locs (lv_sub hl [1, 0] rfl) hP hS
    · have h := mb_f hc h
      refine lv_aload_n hx hb d_M_workFacts_30 rfl (lv_at hl 0 rfl) ?_
      refine va_get (ci := 5) (C := cnM) (T := fTM) (N := 30) hx hb hts uwM hown hK hP 0 rfl rfl 14 (by decide) (hts _ wd_539) (fun _ h9 => h9) rfl d_M_workFacts_31 ?_
      refine lv_iload_n hx hb d_M_workFacts_34 rfl (lv_at hl 1 rfl) ?_
      refine lv_iconst (v := (0 : Int32)) hx hb d_M_workFacts_35 (by decide) ?_
      refine mb_zast (WS := WM X cI cZ cJ) hx hb hK hP hD hS 13 1 rfl rfl h d_M_workFacts_36 rfl (fun H locs s12 hP hS h => ?_)
      obtain ⟨v13, ev13, h⟩ := mb_ex h
      refine lv_iinc (k := 1) (v := v13) (lv' := [(1, .int v13), (0, .ref (X 0))]) hx hb d_M_workFacts_37 hl rfl ev13 (by decide) rfl (fun ls hl => ?_)
      refine lv_goto hx hb d_M_workFacts_40 rfl ?_
      exact ih v13 s12 h ls H locs (lv_sub hl [1, 0] rfl) hP hS
set_option maxRecDepth 100000 in
set_option maxHeartbeats 4000000 in
theorem zM_workFacts_l2 {p : Program} {l : Launch} {e : Env} {R : Room} {s0 : State} {m : MethodId} {args : Array Value} {below : List Frame} {meth : Method} {c : Code} {Q : State → Prop} {A : Nat → Prop} {D : va_G} {X : Nat → Nat} {cI cZ cJ : ClassId} {rv : Unit} {rs : mb_S}
    (Cx : mb_C p s0 m args meth c c_M_workFacts 4 lw_w cnM (fun _ _ => True) vwCl D [(cI, .int), (cZ, .boolean), (cJ, .long)] A (WM X cI cZ cJ)) (hR : 7 ≤ R.frames ∧ 193 ≤ R.locals)
    (hret : mb_R p l e R s0 m args below meth c Q vwCl D A (WM X cI cZ cJ) c_M_workFacts .return_ [] rs)  :
    ∀ (n : Nat) (x1 : Int32) (s : mb_S), mM_workFacts_l2  n x1 s = some (rv, rs) → mb_B p l e R s0 m args below meth c Q vwCl D A (WM X cI cZ cJ) 4 [(0, .ref (X 0)), (1, .int x1)] [] 2 s := by
  intro n
  induction n with
  | zero => intro x1 s h; cases h
  | succ n ih =>
    intro x1 s h
    rw [mM_workFacts_l2_s] at h
    intro ls H locs hl hP hS
    have Cx0 := Cx
    obtain ⟨⟨hx, hb, hml, hown, hts⟩, hK, hD, hA, hZ⟩ := Cx0
    refine lv_iload_n hx hb d_M_workFacts_2 rfl (lv_at hl 1 rfl) ?_
    refine lv_sipush (v := (5070 : Int32)) hx hb d_M_workFacts_3 (by decide) ?_
    refine lv_icmp_ge hx hb d_M_workFacts_6 rfl (fun hc => ?_) (fun hc => ?_)
    · have h := mb_t hc h
      refine lv_iconst (v := (0 : Int32)) hx hb d_M_workFacts_22 (by decide) ?_
      refine lv_istore_n (lv' := [(1, .int (0 : Int32)), (0, .ref (X 0))]) hx hb d_M_workFacts_23 rfl hl (by decide) rfl (fun ls hl => ?_)
      exact zM_workFacts_l24 Cx hR hret  mb_fuel (0 : Int32) s h ls H locs (lv_sub hl [1, 0] rfl) hP hS
    · have h := mb_f hc h
      refine lv_aload_n hx hb d_M_workFacts_9 rfl (lv_at hl 0 rfl) ?_
      refine va_get (ci := 5) (C := cnM) (T := fTM) (N := 30) hx hb hts uwM hown hK hP 0 rfl rfl 13 (by decide) (hts _ wd_538) (fun _ h9 => h9) rfl d_M_workFacts_10 ?_
      refine lv_iload_n hx hb d_M_workFacts_13 rfl (lv_at hl 1 rfl) ?_
      refine lv_lconst (v := (0 : Int64)) hx hb d_M_workFacts_14 (by decide) ?_
      refine mb_last (WS := WM X cI cZ cJ) hx hb hK hP hD hS 12 2 rfl rfl h d_M_workFacts_15 rfl (fun H locs s14 hP hS h => ?_)
      obtain ⟨v15, ev15, h⟩ := mb_ex h
      refine lv_iinc (k := 1) (v := v15) (lv' := [(1, .int v15), (0, .ref (X 0))]) hx hb d_M_workFacts_16 hl rfl ev15 (by decide) rfl (fun ls hl => ?_)
      refine lv_goto hx hb d_M_workFacts_19 rfl ?_
      exact ih v15 s14 h ls H locs (lv_sub hl [1, 0] rfl) hP hS
set_option maxRecDepth 100000 in
set_option maxHeartbeats 4000000 in
theorem w_M_workFacts (l : Launch) (D : va_G) (X : Nat → Nat) (cI cZ cJ : ClassId)  {s : mb_S} {rv : Unit} {rs : mb_S}
    (h : mM_workFacts  s = some (rv, rs)) : mb_MV l y_M_workFacts ws_M_workFacts rm_M_workFacts (fun _ _ => True) vwCl D [(cI, .int), (cZ, .boolean), (cJ, .long)] (WM X cI cZ cJ) [.ref (X 0)] s rs := by
  refine mb_ofV mb_Z0ok (by decide) rfl (Nat.le_of_ble_eq_true rfl) mb_DMok ?_
  intro p e s0 m args below meth c Q A Cx hret
  have hR : 7 ≤ (rm_M_workFacts).frames ∧ 193 ≤ (rm_M_workFacts).locals := ⟨Nat.le_refl _, Nat.le_refl _⟩
  intro ls H locs hl hP hS
  have Cx0 := Cx
  obtain ⟨⟨hx, hb, hml, hown, hts⟩, hK, hD, hA, hZ⟩ := Cx0
  have hl : lv_has ls 4 [(0, .ref (X 0))] := hl
  unfold mM_workFacts at h
  refine lv_iconst (v := (0 : Int32)) hx hb d_M_workFacts_0 (by decide) ?_
  refine lv_istore_n (lv' := [(1, .int (0 : Int32)), (0, .ref (X 0))]) hx hb d_M_workFacts_1 rfl hl (by decide) rfl (fun ls hl => ?_)
  exact zM_workFacts_l2 Cx hR hret  mb_fuel (0 : Int32) s h ls H locs (lv_sub hl [1, 0] rfl) hP hS
set_option maxRecDepth 100000 in
set_option maxHeartbeats 4000000 in
theorem zM_bits_l4 {p : Program} {l : Launch} {e : Env} {R : Room} {s0 : State} {m : MethodId} {args : Array Value} {below : List Frame} {meth : Method} {c : Code} {Q : State → Prop} {A : Nat → Prop} {D : va_G} {rv : Int32}
    (Cx : mb_C p s0 m args meth c c_M_bits 4 lw_w cnM (fun _ _ => True) vwCl D [] A (fun _ => [])) (hR : 0 ≤ R.frames ∧ 0 ≤ R.locals)
    (hret : mb_R p l e R s0 m args below meth c Q vwCl D A (fun _ => []) c_M_bits .ireturn [.int rv] mb_0)  :
    ∀ (n : Nat) (x0 : Int64) (x2 : Int32) (x3 : Int32), mM_bits_l4  n x0 x2 x3 = some rv → mb_B p l e R s0 m args below meth c Q vwCl D A (fun _ => []) 4 [(0, .long x0), (2, .int x2), (3, .int x3)] [] 4 mb_0 := by
  intro n
  induction n with
  | zero => intro x0 x2 x3 h; cases h
  | succ n ih =>
    intro x0 x2 x3 h
    rw [mM_bits_l4_s] at h
    intro ls H locs hl hP hS
    have Cx0 := Cx
    obtain ⟨⟨hx, hb, hml, hown, hts⟩, hK, hD, hA, hZ⟩ := Cx0
    refine lv_iload_n hx hb d_M_bits_4 rfl (lv_at hl 2 rfl) ?_
    refine lv_bipush (v := (64 : Int32)) hx hb d_M_bits_5 (by decide) ?_
    refine lv_icmp_ge hx hb d_M_bits_7 rfl (fun hc => ?_) (fun hc => ?_)
    · have h := mb_t hc h
      refine lv_iload_n hx hb d_M_bits_25 rfl (lv_at hl 1 rfl) ?_
      exact mb_eI0 hret h d_M_bits_26 hP hS
    · have h := mb_f hc h
      refine lv_iload_n hx hb d_M_bits_10 rfl (lv_at hl 1 rfl) ?_
      refine lv_lload_n hx hb d_M_bits_11 rfl (lv_at hl 0 rfl) ?_
      refine lv_iload_n hx hb d_M_bits_12 rfl (lv_at hl 2 rfl) ?_
      refine lv_lshr hx hb d_M_bits_13 rfl ?_
      refine lv_lconst (v := (1 : Int64)) hx hb d_M_bits_14 (by decide) ?_
      refine lv_land hx hb d_M_bits_15 ?_
      refine lv_l2i hx hb d_M_bits_16 rfl ?_
      refine lv_iadd hx hb d_M_bits_17 ?_
      refine lv_topi (fun v1 ev1 => ?_)
      have h := mb_at ev1 h
      refine lv_istore_n (lv' := [(2, .int v1), (0, .long x0), (3, .int x3)]) hx hb d_M_bits_18 rfl hl (by decide) rfl (fun ls hl => ?_)
      obtain ⟨v2, ev2, h⟩ := mb_ex h
      refine lv_iinc (k := 2) (v := v2) (lv' := [(3, .int v2), (2, .int v1), (0, .long x0)]) hx hb d_M_bits_19 hl rfl ev2 (by decide) rfl (fun ls hl => ?_)
      refine lv_goto hx hb d_M_bits_22 rfl ?_
      exact ih x0 v1 v2 h ls H locs (lv_sub hl [2, 1, 0] rfl) hP hS
set_option maxRecDepth 100000 in
set_option maxHeartbeats 4000000 in
theorem w_M_bits (l : Launch) (D : va_G) {x0 : Int64} {rv : Int32}
    (h : mM_bits x0 = some rv) : mb_MI l y_M_bits ws_M_bits rm_M_bits (fun _ _ => True) vwCl D [] (fun _ => []) [.long x0] mb_0 rv mb_0 := by
  refine mb_ofI mb_Z0ok (by decide) rfl (Nat.le_of_ble_eq_true rfl) mb_D0ok ?_
  intro p e s0 m args below meth c Q A Cx hret
  have hR : 0 ≤ (rm_M_bits).frames ∧ 0 ≤ (rm_M_bits).locals := ⟨Nat.le_refl _, Nat.le_refl _⟩
  intro ls H locs hl hP hS
  have Cx0 := Cx
  obtain ⟨⟨hx, hb, hml, hown, hts⟩, hK, hD, hA, hZ⟩ := Cx0
  have hl : lv_has ls 4 [(0, .long x0)] := hl
  unfold mM_bits at h
  refine lv_iconst (v := (0 : Int32)) hx hb d_M_bits_0 (by decide) ?_
  refine lv_istore_n (lv' := [(2, .int (0 : Int32)), (0, .long x0)]) hx hb d_M_bits_1 rfl hl (by decide) rfl (fun ls hl => ?_)
  refine lv_iconst (v := (0 : Int32)) hx hb d_M_bits_2 (by decide) ?_
  refine lv_istore_n (lv' := [(3, .int (0 : Int32)), (2, .int (0 : Int32)), (0, .long x0)]) hx hb d_M_bits_3 rfl hl (by decide) rfl (fun ls hl => ?_)
  exact zM_bits_l4 Cx hR hret  mb_fuel x0 (0 : Int32) (0 : Int32) h ls H locs (lv_sub hl [2, 1, 0] rfl) hP hS
set_option maxRecDepth 100000 in
set_option maxHeartbeats 4000000 in
theorem zM_analyse_b114 {p : Program} {l : Launch} {e : Env} {R : Room} {s0 : State} {m : MethodId} {args : Array Value} {below : List Frame} {meth : Method} {c : Code} {Q : State → Prop} {A : Nat → Prop} {D : va_G} {X : Nat → Nat} {cI cZ cJ : ClassId} {rv : Int32} {rs : mb_S}
    (Cx : mb_C p s0 m args meth c c_M_analyse 4 lw_w cnM (fun _ _ => True) vwCl D [(cI, .int), (cZ, .boolean), (cJ, .long)] A (WM X cI cZ cJ)) (hR : 8 ≤ R.frames ∧ 216 ≤ R.locals)
    (hret : mb_R p l e R s0 m args below meth c Q vwCl D A (WM X cI cZ cJ) c_M_analyse .ireturn [.int rv] rs)  (y0 : Int32) (s : mb_S)
    (h : mM_analyse_b114  y0 s = some (rv, rs)) : mb_B p l e R s0 m args below meth c Q vwCl D A (WM X cI cZ cJ) 4 [] [.int y0] 114 s := by
  unfold mM_analyse_b114 at h
  intro ls H locs hl hP hS
  have Cx0 := Cx
  obtain ⟨⟨hx, hb, hml, hown, hts⟩, hK, hD, hA, hZ⟩ := Cx0
  exact mb_eI hret h d_M_analyse_114 hP hS
set_option maxRecDepth 100000 in
set_option maxHeartbeats 4000000 in
theorem zM_analyse_b98 {p : Program} {l : Launch} {e : Env} {R : Room} {s0 : State} {m : MethodId} {args : Array Value} {below : List Frame} {meth : Method} {c : Code} {Q : State → Prop} {A : Nat → Prop} {D : va_G} {X : Nat → Nat} {cI cZ cJ : ClassId} {rv : Int32} {rs : mb_S}
    (Cx : mb_C p s0 m args meth c c_M_analyse 4 lw_w cnM (fun _ _ => True) vwCl D [(cI, .int), (cZ, .boolean), (cJ, .long)] A (WM X cI cZ cJ)) (hR : 8 ≤ R.frames ∧ 216 ≤ R.locals)
    (hret : mb_R p l e R s0 m args below meth c Q vwCl D A (WM X cI cZ cJ) c_M_analyse .ireturn [.int rv] rs)  (x2 : Int32) (y0 : Int32) (s : mb_S)
    (h : mM_analyse_b98  x2 y0 s = some (rv, rs)) : mb_B p l e R s0 m args below meth c Q vwCl D A (WM X cI cZ cJ) 4 [(0, .ref (X 0)), (2, .int x2)] [.int y0, .ref (X 0)] 98 s := by
  unfold mM_analyse_b98 at h
  intro ls H locs hl hP hS
  have Cx0 := Cx
  obtain ⟨⟨hx, hb, hml, hown, hts⟩, hK, hD, hA, hZ⟩ := Cx0
  have h := mb_putF_ex h
  refine va_put (ci := 5) (v := .int y0) (ty := .int) (C := cnM) (T := fTM) (N := 30) hx hb hts uwM fyM fyM_ok fnM hown hK hP (hD _) hS 0 rfl rfl 7 (by decide) (hts _ wd_532) (fun _ h9 => h9) rfl (by decide +kernel) rfl rfl (Nat.le_of_ble_eq_true rfl) d_M_analyse_98 (fun H locs hP _ hS => ?_)
  have hP : va_P D vwCl (WM X cI cZ cJ (mb_setF s 0 y0)) H := hP
  generalize mb_setF s 0 y0 = s1 at hP h
  refine lv_aload_n hx hb d_M_analyse_101 rfl (lv_at hl 0 rfl) ?_
  refine va_get (ci := 5) (C := cnM) (T := fTM) (N := 30) hx hb hts uwM hown hK hP 0 rfl rfl 7 (by decide) (hts _ wd_532) (fun _ h9 => h9) rfl d_M_analyse_102 ?_
  refine lv_iconst (v := (1 : Int32)) hx hb d_M_analyse_105 (by decide) ?_
  refine lv_icmp_ne hx hb d_M_analyse_106 rfl (fun hc => ?_) (fun hc => ?_)
  · have h := mb_f hc h
    refine lv_iconst (v := (-1 : Int32)) hx hb d_M_analyse_113 (by decide) ?_
    exact zM_analyse_b114 Cx hR hret  (-1 : Int32) s1 h ls H locs (lv_sub hl [] rfl) hP hS
  · have h := mb_t hc h
    refine lv_iload_n hx hb d_M_analyse_109 rfl (lv_at hl 1 rfl) ?_
    refine lv_goto hx hb d_M_analyse_110 rfl ?_
    exact zM_analyse_b114 Cx hR hret  x2 s1 h ls H locs (lv_sub hl [] rfl) hP hS
set_option maxRecDepth 100000 in
set_option maxHeartbeats 4000000 in
theorem zM_analyse_b79 {p : Program} {l : Launch} {e : Env} {R : Room} {s0 : State} {m : MethodId} {args : Array Value} {below : List Frame} {meth : Method} {c : Code} {Q : State → Prop} {A : Nat → Prop} {D : va_G} {X : Nat → Nat} {cI cZ cJ : ClassId} {rv : Int32} {rs : mb_S}
    (Cx : mb_C p s0 m args meth c c_M_analyse 4 lw_w cnM (fun _ _ => True) vwCl D [(cI, .int), (cZ, .boolean), (cJ, .long)] A (WM X cI cZ cJ)) (hR : 8 ≤ R.frames ∧ 216 ≤ R.locals)
    (hret : mb_R p l e R s0 m args below meth c Q vwCl D A (WM X cI cZ cJ) c_M_analyse .ireturn [.int rv] rs) (k58 : Int32 → Int32 → Int32 → mb_S → Option (Int32 × mb_S)) (hk58 : ∀ (x1 : Int32) (x2 : Int32) (x3 : Int32) (s : mb_S), k58 x1 x2 x3 s = some (rv, rs) → mb_B p l e R s0 m args below meth c Q vwCl D A (WM X cI cZ cJ) 4 [(0, .ref (X 0)), (1, .int x1), (2, .int x2), (3, .int x3)] [] 58 s) (x1 : Int32) (x3 : Int32) (y0 : Int32) (y1 : Int32) (s : mb_S)
    (h : mM_analyse_b79 k58 x1 x3 y0 y1 s = some (rv, rs)) : mb_B p l e R s0 m args below meth c Q vwCl D A (WM X cI cZ cJ) 4 [(0, .ref (X 0)), (1, .int x1), (3, .int x3)] [.int y0, .int y1] 79 s := by
  unfold mM_analyse_b79 at h
  intro ls H locs hl hP hS
  have Cx0 := Cx
  obtain ⟨⟨hx, hb, hml, hown, hts⟩, hK, hD, hA, hZ⟩ := Cx0
  refine lv_iadd hx hb d_M_analyse_79 ?_
  refine lv_topi (fun v2 ev2 => ?_)
  have h := mb_at ev2 h
  refine lv_istore_n (lv' := [(2, .int v2), (0, .ref (X 0)), (1, .int x1), (3, .int x3)]) hx hb d_M_analyse_80 rfl hl (by decide) rfl (fun ls hl => ?_)
  obtain ⟨v3, ev3, h⟩ := mb_ex h
  refine lv_iinc (k := 3) (v := v3) (lv' := [(3, .int v3), (2, .int v2), (0, .ref (X 0)), (1, .int x1)]) hx hb d_M_analyse_81 hl rfl ev3 (by decide) rfl (fun ls hl => ?_)
  refine lv_goto hx hb d_M_analyse_84 rfl ?_
  exact hk58 x1 v2 v3 s h ls H locs (lv_sub hl [2, 3, 1, 0] rfl) hP hS
set_option maxRecDepth 100000 in
set_option maxHeartbeats 4000000 in
theorem zM_analyse_l58 {p : Program} {l : Launch} {e : Env} {R : Room} {s0 : State} {m : MethodId} {args : Array Value} {below : List Frame} {meth : Method} {c : Code} {Q : State → Prop} {A : Nat → Prop} {D : va_G} {X : Nat → Nat} {cI cZ cJ : ClassId} {rv : Int32} {rs : mb_S}
    (Cx : mb_C p s0 m args meth c c_M_analyse 4 lw_w cnM (fun _ _ => True) vwCl D [(cI, .int), (cZ, .boolean), (cJ, .long)] A (WM X cI cZ cJ)) (hR : 8 ≤ R.frames ∧ 216 ≤ R.locals)
    (hret : mb_R p l e R s0 m args below meth c Q vwCl D A (WM X cI cZ cJ) c_M_analyse .ireturn [.int rv] rs)  :
    ∀ (n : Nat) (x1 : Int32) (x2 : Int32) (x3 : Int32) (s : mb_S), mM_analyse_l58  n x1 x2 x3 s = some (rv, rs) → mb_B p l e R s0 m args below meth c Q vwCl D A (WM X cI cZ cJ) 4 [(0, .ref (X 0)), (1, .int x1), (2, .int x2), (3, .int x3)] [] 58 s := by
  intro n
  induction n with
  | zero => intro x1 x2 x3 s h; cases h
  | succ n ih =>
    intro x1 x2 x3 s h
    rw [mM_analyse_l58_s] at h
    intro ls H locs hl hP hS
    have Cx0 := Cx
    obtain ⟨⟨hx, hb, hml, hown, hts⟩, hK, hD, hA, hZ⟩ := Cx0
    refine lv_iload_n hx hb d_M_analyse_58 rfl (lv_at hl 3 rfl) ?_
    refine lv_bipush (v := (78 : Int32)) hx hb d_M_analyse_59 (by decide) ?_
    refine lv_icmp_ge hx hb d_M_analyse_61 rfl (fun hc => ?_) (fun hc => ?_)
    · have h := mb_t hc h
      refine lv_aload_n hx hb d_M_analyse_87 rfl (lv_at hl 0 rfl) ?_
      refine lv_iload_n hx hb d_M_analyse_88 rfl (lv_at hl 2 rfl) ?_
      refine lv_iload_n hx hb d_M_analyse_89 rfl (lv_at hl 1 rfl) ?_
      refine lv_icmp_gt hx hb d_M_analyse_90 rfl (fun hc => ?_) (fun hc => ?_)
      · have h := mb_t hc h
        refine lv_iconst (v := (2 : Int32)) hx hb d_M_analyse_97 (by decide) ?_
        exact zM_analyse_b98 Cx hR hret  x2 (2 : Int32) s h ls H locs (lv_sub hl [0, 2] rfl) hP hS
      · have h := mb_f hc h
        refine lv_iconst (v := (1 : Int32)) hx hb d_M_analyse_93 (by decide) ?_
        refine lv_goto hx hb d_M_analyse_94 rfl ?_
        exact zM_analyse_b98 Cx hR hret  x2 (1 : Int32) s h ls H locs (lv_sub hl [0, 2] rfl) hP hS
    · have h := mb_f hc h
      refine lv_iload_n hx hb d_M_analyse_64 rfl (lv_at hl 2 rfl) ?_
      refine lv_aload_n hx hb d_M_analyse_65 rfl (lv_at hl 0 rfl) ?_
      refine va_get (ci := 5) (C := cnM) (T := fTM) (N := 30) hx hb hts uwM hown hK hP 0 rfl rfl 14 (by decide) (hts _ wd_539) (fun _ h9 => h9) rfl d_M_analyse_66 ?_
      refine lv_iload_n hx hb d_M_analyse_69 rfl (lv_at hl 3 rfl) ?_
      refine mb_zald hx hb hK hP 13 1 rfl rfl h d_M_analyse_70 (fun v4 h => ?_)
      refine lv_if_eq hx hb d_M_analyse_71 rfl (fun hc => ?_) (fun hc => ?_)
      · have h := mb_t hc h
        refine lv_iconst (v := (0 : Int32)) hx hb d_M_analyse_78 (by decide) ?_
        exact zM_analyse_b79 Cx hR hret (mM_analyse_l58  n) ih x1 x3 (0 : Int32) x2 s h ls H locs (lv_sub hl [0, 1, 3] rfl) hP hS
      · have h := mb_f hc h
        refine lv_iconst (v := (1 : Int32)) hx hb d_M_analyse_74 (by decide) ?_
        refine lv_goto hx hb d_M_analyse_75 rfl ?_
        exact zM_analyse_b79 Cx hR hret (mM_analyse_l58  n) ih x1 x3 (1 : Int32) x2 s h ls H locs (lv_sub hl [0, 1, 3] rfl) hP hS
set_option maxRecDepth 100000 in
set_option maxHeartbeats 4000000 in
theorem zM_analyse_b48 {p : Program} {l : Launch} {e : Env} {R : Room} {s0 : State} {m : MethodId} {args : Array Value} {below : List Frame} {meth : Method} {c : Code} {Q : State → Prop} {A : Nat → Prop} {D : va_G} {X : Nat → Nat} {cI cZ cJ : ClassId} {rv : Int32} {rs : mb_S}
    (Cx : mb_C p s0 m args meth c c_M_analyse 4 lw_w cnM (fun _ _ => True) vwCl D [(cI, .int), (cZ, .boolean), (cJ, .long)] A (WM X cI cZ cJ)) (hR : 8 ≤ R.frames ∧ 216 ≤ R.locals)
    (hret : mb_R p l e R s0 m args below meth c Q vwCl D A (WM X cI cZ cJ) c_M_analyse .ireturn [.int rv] rs) (k16 : Int32 → Int32 → Int32 → mb_S → Option (Int32 × mb_S)) (hk16 : ∀ (x1 : Int32) (x2 : Int32) (x3 : Int32) (s : mb_S), k16 x1 x2 x3 s = some (rv, rs) → mb_B p l e R s0 m args below meth c Q vwCl D A (WM X cI cZ cJ) 4 [(0, .ref (X 0)), (1, .int x1), (2, .int x2), (3, .int x3)] [] 16 s) (x1 : Int32) (x3 : Int32) (y0 : Int32) (y1 : Int32) (s : mb_S)
    (h : mM_analyse_b48 k16 x1 x3 y0 y1 s = some (rv, rs)) : mb_B p l e R s0 m args below meth c Q vwCl D A (WM X cI cZ cJ) 4 [(0, .ref (X 0)), (1, .int x1), (3, .int x3)] [.int y0, .int y1] 48 s := by
  unfold mM_analyse_b48 at h
  intro ls H locs hl hP hS
  have Cx0 := Cx
  obtain ⟨⟨hx, hb, hml, hown, hts⟩, hK, hD, hA, hZ⟩ := Cx0
  refine lv_iadd hx hb d_M_analyse_48 ?_
  refine lv_topi (fun v5 ev5 => ?_)
  have h := mb_at ev5 h
  refine lv_istore_n (lv' := [(2, .int v5), (0, .ref (X 0)), (1, .int x1), (3, .int x3)]) hx hb d_M_analyse_49 rfl hl (by decide) rfl (fun ls hl => ?_)
  obtain ⟨v6, ev6, h⟩ := mb_ex h
  refine lv_iinc (k := 3) (v := v6) (lv' := [(3, .int v6), (2, .int v5), (0, .ref (X 0)), (1, .int x1)]) hx hb d_M_analyse_50 hl rfl ev6 (by decide) rfl (fun ls hl => ?_)
  refine lv_goto hx hb d_M_analyse_53 rfl ?_
  exact hk16 x1 v5 v6 s h ls H locs (lv_sub hl [2, 3, 1, 0] rfl) hP hS
set_option maxRecDepth 100000 in
set_option maxHeartbeats 4000000 in
theorem zM_analyse_l16 {p : Program} {l : Launch} {e : Env} {R : Room} {s0 : State} {m : MethodId} {args : Array Value} {below : List Frame} {meth : Method} {c : Code} {Q : State → Prop} {A : Nat → Prop} {D : va_G} {X : Nat → Nat} {cI cZ cJ : ClassId} {rv : Int32} {rs : mb_S}
    (Cx : mb_C p s0 m args meth c c_M_analyse 4 lw_w cnM (fun _ _ => True) vwCl D [(cI, .int), (cZ, .boolean), (cJ, .long)] A (WM X cI cZ cJ)) (hR : 8 ≤ R.frames ∧ 216 ≤ R.locals)
    (hret : mb_R p l e R s0 m args below meth c Q vwCl D A (WM X cI cZ cJ) c_M_analyse .ireturn [.int rv] rs)  :
    ∀ (n : Nat) (x1 : Int32) (x2 : Int32) (x3 : Int32) (s : mb_S), mM_analyse_l16  n x1 x2 x3 s = some (rv, rs) → mb_B p l e R s0 m args below meth c Q vwCl D A (WM X cI cZ cJ) 4 [(0, .ref (X 0)), (1, .int x1), (2, .int x2), (3, .int x3)] [] 16 s := by
  intro n
  induction n with
  | zero => intro x1 x2 x3 s h; cases h
  | succ n ih =>
    intro x1 x2 x3 s h
    rw [mM_analyse_l16_s] at h
    intro ls H locs hl hP hS
    have Cx0 := Cx
    obtain ⟨⟨hx, hb, hml, hown, hts⟩, hK, hD, hA, hZ⟩ := Cx0
    refine lv_iload_n hx hb d_M_analyse_16 rfl (lv_at hl 3 rfl) ?_
    refine lv_sipush (v := (5070 : Int32)) hx hb d_M_analyse_17 (by decide) ?_
    refine lv_icmp_ge hx hb d_M_analyse_20 rfl (fun hc => ?_) (fun hc => ?_)
    · have h := mb_t hc h
      refine lv_iconst (v := (0 : Int32)) hx hb d_M_analyse_56 (by decide) ?_
      refine lv_istore_n (lv' := [(3, .int (0 : Int32)), (0, .ref (X 0)), (1, .int x1), (2, .int x2)]) hx hb d_M_analyse_57 rfl hl (by decide) rfl (fun ls hl => ?_)
      exact zM_analyse_l58 Cx hR hret  mb_fuel x1 x2 (0 : Int32) s h ls H locs (lv_sub hl [1, 2, 3, 0] rfl) hP hS
    · have h := mb_f hc h
      refine lv_iload_n hx hb d_M_analyse_23 rfl (lv_at hl 2 rfl) ?_
      refine lv_aload_n hx hb d_M_analyse_24 rfl (lv_at hl 0 rfl) ?_
      refine va_get (ci := 5) (C := cnM) (T := fTM) (N := 30) hx hb hts uwM hown hK hP 0 rfl rfl 13 (by decide) (hts _ wd_538) (fun _ h9 => h9) rfl d_M_analyse_25 ?_
      refine lv_iload_n hx hb d_M_analyse_28 rfl (lv_at hl 3 rfl) ?_
      refine mb_lald hx hb hK hP 12 2 rfl rfl h d_M_analyse_29 (fun v7 h => ?_)
      refine lv_lconst (v := (0 : Int64)) hx hb d_M_analyse_30 (by decide) ?_
      refine W.lcmp hx hb d_M_analyse_31 ?_
      refine lv_if_ne hx hb d_M_analyse_32 rfl (fun hc => ?_) (fun hc => ?_)
      · have h := mb_f hc h
        refine lv_aload_n hx hb d_M_analyse_39 rfl (lv_at hl 0 rfl) ?_
        refine va_get (ci := 5) (C := cnM) (T := fTM) (N := 30) hx hb hts uwM hown hK hP 0 rfl rfl 13 (by decide) (hts _ wd_538) (fun _ h9 => h9) rfl d_M_analyse_40 ?_
        refine lv_iload_n hx hb d_M_analyse_43 rfl (lv_at hl 3 rfl) ?_
        refine mb_lald hx hb hK hP 12 2 rfl rfl h d_M_analyse_44 (fun v8 h => ?_)
        obtain ⟨v9, hv9, h⟩ := mb_cal0_ex h
        refine mb_go0I (st := s) Cx (mb_runS0 (As := [.long v8]) (rest := [.int x2]) Cx (w_M_bits l D hv9 H.size) (mb_cwS 1 hts wd_740 wd_741 wd_7 wd_742 rfl rfl rfl (by decide +kernel) ⟨Nat.le_trans (by decide) hR.1, Nat.le_trans (by decide) hR.2⟩) rfl hl.1 rfl (Nat.le_of_ble_eq_true rfl) d_M_analyse_45) hP hS (fun H locs hP hS => ?_)
        exact zM_analyse_b48 Cx hR hret (mM_analyse_l16  n) ih x1 x3 v9 x2 s h ls H locs (lv_sub hl [0, 1, 3] rfl) hP hS
      · have h := mb_t hc h
        refine lv_iconst (v := (0 : Int32)) hx hb d_M_analyse_35 (by decide) ?_
        refine lv_goto hx hb d_M_analyse_36 rfl ?_
        exact zM_analyse_b48 Cx hR hret (mM_analyse_l16  n) ih x1 x3 (0 : Int32) x2 s h ls H locs (lv_sub hl [0, 1, 3] rfl) hP hS
set_option maxRecDepth 100000 in
set_option maxHeartbeats 4000000 in
theorem w_M_analyse (l : Launch) (D : va_G) (X : Nat → Nat) (cI cZ cJ : ClassId) {x1 : Int32} {s : mb_S} {rv : Int32} {rs : mb_S}
    (h : mM_analyse x1 s = some (rv, rs)) : mb_MI l y_M_analyse ws_M_analyse rm_M_analyse (fun _ _ => True) vwCl D [(cI, .int), (cZ, .boolean), (cJ, .long)] (WM X cI cZ cJ) [.ref (X 0), .int x1] s rv rs := by
  refine mb_ofI mb_Z0ok (by decide) rfl (Nat.le_of_ble_eq_true rfl) mb_DMok ?_
  intro p e s0 m args below meth c Q A Cx hret
  have hR : 8 ≤ (rm_M_analyse).frames ∧ 216 ≤ (rm_M_analyse).locals := ⟨Nat.le_refl _, Nat.le_refl _⟩
  intro ls H locs hl hP hS
  have Cx0 := Cx
  obtain ⟨⟨hx, hb, hml, hown, hts⟩, hK, hD, hA, hZ⟩ := Cx0
  have hl : lv_has ls 4 [(0, .ref (X 0)), (1, .int x1)] := hl
  unfold mM_analyse at h
  refine lv_aload_n hx hb d_M_analyse_0 rfl (lv_at hl 0 rfl) ?_
  obtain ⟨_u, s10, hs10, h⟩ := mb_cal_ex h
  refine mb_goV Cx (mb_runV (As := []) (rest := []) mb_Z0ok Cx (w_M_workPoints l D X cI cZ cJ hs10 H.size) (mb_cwV 0 hts wd_660 wd_662 sel_41 wd_7 wd_663 rfl rfl rfl (by decide +kernel) ⟨Nat.le_trans (by decide) hR.1, Nat.le_trans (by decide) hR.2⟩) hP hS 0 rfl rfl rfl hl.1 rfl (Nat.le_of_ble_eq_true rfl) d_M_analyse_1) hS (fun H locs hP hS => ?_)
  refine lv_aload_n hx hb d_M_analyse_4 rfl (lv_at hl 0 rfl) ?_
  obtain ⟨_u, s11, hs11, h⟩ := mb_cal_ex h
  refine mb_goV Cx (mb_runV (As := []) (rest := []) mb_Z0ok Cx (w_M_workTargets l D X cI cZ cJ hs11 H.size) (mb_cwV 0 hts wd_686 wd_688 sel_47 wd_7 wd_689 rfl rfl rfl (by decide +kernel) ⟨Nat.le_trans (by decide) hR.1, Nat.le_trans (by decide) hR.2⟩) hP hS 0 rfl rfl rfl hl.1 rfl (Nat.le_of_ble_eq_true rfl) d_M_analyse_5) hS (fun H locs hP hS => ?_)
  refine lv_aload_n hx hb d_M_analyse_8 rfl (lv_at hl 0 rfl) ?_
  obtain ⟨_u, s12, hs12, h⟩ := mb_cal_ex h
  refine mb_goV Cx (mb_runV (As := []) (rest := []) mb_Z0ok Cx (w_M_workFacts l D X cI cZ cJ hs12 H.size) (mb_cwV 0 hts wd_690 wd_692 sel_48 wd_7 wd_693 rfl rfl rfl (by decide +kernel) ⟨Nat.le_trans (by decide) hR.1, Nat.le_trans (by decide) hR.2⟩) hP hS 0 rfl rfl rfl hl.1 rfl (Nat.le_of_ble_eq_true rfl) d_M_analyse_9) hS (fun H locs hP hS => ?_)
  refine lv_iconst (v := (0 : Int32)) hx hb d_M_analyse_12 (by decide) ?_
  refine lv_istore_n (lv' := [(2, .int (0 : Int32)), (0, .ref (X 0)), (1, .int x1)]) hx hb d_M_analyse_13 rfl hl (by decide) rfl (fun ls hl => ?_)
  refine lv_iconst (v := (0 : Int32)) hx hb d_M_analyse_14 (by decide) ?_
  refine lv_istore_n (lv' := [(3, .int (0 : Int32)), (2, .int (0 : Int32)), (0, .ref (X 0)), (1, .int x1)]) hx hb d_M_analyse_15 rfl hl (by decide) rfl (fun ls hl => ?_)
  exact zM_analyse_l16 Cx hR hret  mb_fuel x1 (0 : Int32) (0 : Int32) s12 h ls H locs (lv_sub hl [2, 3, 1, 0] rfl) hP hS
set_option maxRecDepth 100000 in
set_option maxHeartbeats 4000000 in
theorem w_M_verdict (l : Launch) (D : va_G) (X : Nat → Nat) (cI cZ cJ : ClassId)  {s : mb_S} {rv : Int32} {rs : mb_S}
    (h : mM_verdict  s = some (rv, rs)) : mb_MI l y_M_verdict ws_M_verdict rm_M_verdict (fun _ _ => True) vwCl D [(cI, .int), (cZ, .boolean), (cJ, .long)] (WM X cI cZ cJ) [.ref (X 0)] s rv rs := by
  refine mb_ofI mb_Z0ok (by decide) rfl (Nat.le_of_ble_eq_true rfl) mb_DMok ?_
  intro p e s0 m args below meth c Q A Cx hret
  have hR : 0 ≤ (rm_M_verdict).frames ∧ 0 ≤ (rm_M_verdict).locals := ⟨Nat.le_refl _, Nat.le_refl _⟩
  intro ls H locs hl hP hS
  have Cx0 := Cx
  obtain ⟨⟨hx, hb, hml, hown, hts⟩, hK, hD, hA, hZ⟩ := Cx0
  have hl : lv_has ls 1 [(0, .ref (X 0))] := hl
  unfold mM_verdict at h
  refine lv_aload_n hx hb d_M_verdict_0 rfl (lv_at hl 0 rfl) ?_
  refine va_get (ci := 5) (C := cnM) (T := fTM) (N := 30) hx hb hts uwM hown hK hP 0 rfl rfl 7 (by decide) (hts _ wd_532) (fun _ h9 => h9) rfl d_M_verdict_1 ?_
  exact mb_eI hret h d_M_verdict_4 hP hS
set_option maxRecDepth 100000 in
set_option maxHeartbeats 4000000 in
theorem zM_may_b123 {p : Program} {l : Launch} {e : Env} {R : Room} {s0 : State} {m : MethodId} {args : Array Value} {below : List Frame} {meth : Method} {c : Code} {Q : State → Prop} {A : Nat → Prop} {D : va_G} {X : Nat → Nat} {cI cZ cJ : ClassId} {rv : Int32} {rs : mb_S}
    (Cx : mb_C p s0 m args meth c c_M_may 10 lw_w cnM (fun _ _ => True) vwCl D [(cI, .int), (cZ, .boolean), (cJ, .long)] A (WM X cI cZ cJ)) (hR : 1 ≤ R.frames ∧ 26 ≤ R.locals)
    (hret : (rv = 0 ∨ rv = 1) → mb_R p l e R s0 m args below meth c Q vwCl D A (WM X cI cZ cJ) c_M_may .ireturn [.int rv] rs) (k74 : Int32 → Int32 → Int32 → Int32 → Int32 → Int32 → mb_S → Option (Int32 × mb_S)) (hk74 : ∀ (x1 : Int32) (x2 : Int32) (x3 : Int32) (x4 : Int32) (x6 : Int32) (x7 : Int32) (s : mb_S), k74 x1 x2 x3 x4 x6 x7 s = some (rv, rs) → mb_B p l e R s0 m args below meth c Q vwCl D A (WM X cI cZ cJ) 10 [(0, .ref (X 0)), (1, .int x1), (2, .int x2), (3, .int x3), (4, .int x4), (6, .int x6), (7, .int x7)] [] 74 s) (x1 : Int32) (x2 : Int32) (x3 : Int32) (x4 : Int32) (x7 : Int32) (y0 : Int32) (s : mb_S)
    (h : mM_may_b123 k74 x1 x2 x3 x4 x7 y0 s = some (rv, rs)) : mb_B p l e R s0 m args below meth c Q vwCl D A (WM X cI cZ cJ) 10 [(0, .ref (X 0)), (1, .int x1), (2, .int x2), (3, .int x3), (4, .int x4), (7, .int x7)] [.int y0] 123 s := by
  unfold mM_may_b123 at h
  intro ls H locs hl hP hS
  have Cx0 := Cx
  obtain ⟨⟨hx, hb, hml, hown, hts⟩, hK, hD, hA, hZ⟩ := Cx0
  refine lv_istore (lv' := [(6, .int y0), (0, .ref (X 0)), (1, .int x1), (2, .int x2), (3, .int x3), (4, .int x4), (7, .int x7)]) hx hb d_M_may_123 hl (by decide) rfl (fun ls hl => ?_)
  obtain ⟨v1, ev1, h⟩ := mb_ex h
  refine lv_iinc (k := 6) (v := v1) (lv' := [(7, .int v1), (6, .int y0), (0, .ref (X 0)), (1, .int x1), (2, .int x2), (3, .int x3), (4, .int x4)]) hx hb d_M_may_125 hl rfl ev1 (by decide) rfl (fun ls hl => ?_)
  refine lv_goto hx hb d_M_may_128 rfl ?_
  exact hk74 x1 x2 x3 x4 y0 v1 s h ls H locs (lv_sub hl [2, 3, 4, 5, 6, 1, 0] rfl) hP hS
set_option maxRecDepth 100000 in
set_option maxHeartbeats 4000000 in
theorem zM_may_b118 {p : Program} {l : Launch} {e : Env} {R : Room} {s0 : State} {m : MethodId} {args : Array Value} {below : List Frame} {meth : Method} {c : Code} {Q : State → Prop} {A : Nat → Prop} {D : va_G} {X : Nat → Nat} {cI cZ cJ : ClassId} {rv : Int32} {rs : mb_S}
    (Cx : mb_C p s0 m args meth c c_M_may 10 lw_w cnM (fun _ _ => True) vwCl D [(cI, .int), (cZ, .boolean), (cJ, .long)] A (WM X cI cZ cJ)) (hR : 1 ≤ R.frames ∧ 26 ≤ R.locals)
    (hret : (rv = 0 ∨ rv = 1) → mb_R p l e R s0 m args below meth c Q vwCl D A (WM X cI cZ cJ) c_M_may .ireturn [.int rv] rs) (k74 : Int32 → Int32 → Int32 → Int32 → Int32 → Int32 → mb_S → Option (Int32 × mb_S)) (hk74 : ∀ (x1 : Int32) (x2 : Int32) (x3 : Int32) (x4 : Int32) (x6 : Int32) (x7 : Int32) (s : mb_S), k74 x1 x2 x3 x4 x6 x7 s = some (rv, rs) → mb_B p l e R s0 m args below meth c Q vwCl D A (WM X cI cZ cJ) 10 [(0, .ref (X 0)), (1, .int x1), (2, .int x2), (3, .int x3), (4, .int x4), (6, .int x6), (7, .int x7)] [] 74 s) (x1 : Int32) (x2 : Int32) (x3 : Int32) (x4 : Int32) (x7 : Int32) (s : mb_S)
    (h : mM_may_b118 k74 x1 x2 x3 x4 x7 s = some (rv, rs)) : mb_B p l e R s0 m args below meth c Q vwCl D A (WM X cI cZ cJ) 10 [(0, .ref (X 0)), (1, .int x1), (2, .int x2), (3, .int x3), (4, .int x4), (7, .int x7)] [] 118 s := by
  unfold mM_may_b118 at h
  intro ls H locs hl hP hS
  have Cx0 := Cx
  obtain ⟨⟨hx, hb, hml, hown, hts⟩, hK, hD, hA, hZ⟩ := Cx0
  refine lv_iconst (v := (1 : Int32)) hx hb d_M_may_118 (by decide) ?_
  refine lv_goto hx hb d_M_may_119 rfl ?_
  exact zM_may_b123 Cx hR hret k74 hk74 x1 x2 x3 x4 x7 (1 : Int32) s h ls H locs (lv_sub hl [0, 1, 2, 3, 4, 5] rfl) hP hS
set_option maxRecDepth 100000 in
set_option maxHeartbeats 4000000 in
theorem zM_may_l74 {p : Program} {l : Launch} {e : Env} {R : Room} {s0 : State} {m : MethodId} {args : Array Value} {below : List Frame} {meth : Method} {c : Code} {Q : State → Prop} {A : Nat → Prop} {D : va_G} {X : Nat → Nat} {cI cZ cJ : ClassId} {rv : Int32} {rs : mb_S}
    (Cx : mb_C p s0 m args meth c c_M_may 10 lw_w cnM (fun _ _ => True) vwCl D [(cI, .int), (cZ, .boolean), (cJ, .long)] A (WM X cI cZ cJ)) (hR : 1 ≤ R.frames ∧ 26 ≤ R.locals)
    (hret : (rv = 0 ∨ rv = 1) → mb_R p l e R s0 m args below meth c Q vwCl D A (WM X cI cZ cJ) c_M_may .ireturn [.int rv] rs)  :
    ∀ (n : Nat) (x1 : Int32) (x2 : Int32) (x3 : Int32) (x4 : Int32) (x6 : Int32) (x7 : Int32) (s : mb_S), mM_may_l74  n x1 x2 x3 x4 x6 x7 s = some (rv, rs) → mb_B p l e R s0 m args below meth c Q vwCl D A (WM X cI cZ cJ) 10 [(0, .ref (X 0)), (1, .int x1), (2, .int x2), (3, .int x3), (4, .int x4), (6, .int x6), (7, .int x7)] [] 74 s := by
  intro n
  induction n with
  | zero => intro x1 x2 x3 x4 x6 x7 s h; cases h
  | succ n ih =>
    intro x1 x2 x3 x4 x6 x7 s h
    rw [mM_may_l74_s] at h
    intro ls H locs hl hP hS
    have Cx0 := Cx
    obtain ⟨⟨hx, hb, hml, hown, hts⟩, hK, hD, hA, hZ⟩ := Cx0
    refine lv_iload hx hb d_M_may_74 (lv_at hl 6 rfl) ?_
    refine lv_bipush (v := (64 : Int32)) hx hb d_M_may_76 (by decide) ?_
    refine lv_icmp_gt hx hb d_M_may_78 rfl (fun hc => ?_) (fun hc => ?_)
    · have h := mb_t hc h
      refine lv_iload hx hb d_M_may_131 (lv_at hl 5 rfl) ?_
      exact mb_eZ hret h d_M_may_133 hP hS
    · have h := mb_f hc h
      refine lv_aload_n hx hb d_M_may_81 rfl (lv_at hl 0 rfl) ?_
      refine va_get (ci := 5) (C := cnM) (T := fTM) (N := 30) hx hb hts uwM hown hK hP 0 rfl rfl 13 (by decide) (hts _ wd_538) (fun _ h9 => h9) rfl d_M_may_82 ?_
      refine lv_aload_n hx hb d_M_may_85 rfl (lv_at hl 0 rfl) ?_
      refine lv_iload_n hx hb d_M_may_86 rfl (lv_at hl 1 rfl) ?_
      refine lv_iload_n hx hb d_M_may_87 rfl (lv_at hl 2 rfl) ?_
      refine lv_iload hx hb d_M_may_88 (lv_at hl 6 rfl) ?_
      obtain ⟨v2, s3, hs3, h⟩ := mb_cal_ex h
      refine mb_goI Cx (mb_runV (As := [.int x1, .int x2, .int x7]) (rest := [.ref (X 12)]) mb_Z0ok Cx (w_M_cellOf l D X cI cZ cJ hs3 H.size) (mb_cwV 3 hts wd_711 wd_713 sel_53 wd_7 wd_714 rfl rfl rfl (by decide +kernel) ⟨Nat.le_trans (by decide) hR.1, Nat.le_trans (by decide) hR.2⟩) hP hS 0 rfl rfl rfl hl.1 rfl (Nat.le_of_ble_eq_true rfl) d_M_may_90) hS (fun H locs hP hS => ?_)
      refine mb_lald hx hb hK hP 12 2 rfl rfl h d_M_may_93 (fun v4 h => ?_)
      refine lv_lstore (lv' := [(8, .long v4), (0, .ref (X 0)), (1, .int x1), (2, .int x2), (3, .int x3), (4, .int x4), (6, .int x6), (7, .int x7)]) hx hb d_M_may_94 hl (by decide) rfl (fun ls hl => ?_)
      refine lv_iload hx hb d_M_may_96 (lv_at hl 6 rfl) ?_
      refine lv_if_ne hx hb d_M_may_98 rfl (fun hc => ?_) (fun hc => ?_)
      · have h := mb_f hc h
        exact zM_may_b118 Cx hR hret (mM_may_l74  n) ih x1 x2 x3 x4 x7 s3 h ls H locs (lv_sub hl [1, 2, 3, 4, 5, 7] rfl) hP hS
      · have h := mb_t hc h
        refine lv_lload hx hb d_M_may_101 (lv_at hl 0 rfl) ?_
        refine lv_bipush (v := (16 : Int32)) hx hb d_M_may_103 (by decide) ?_
        refine lv_iload hx hb d_M_may_105 (lv_at hl 5 rfl) ?_
        refine lv_imul hx hb d_M_may_107 ?_
        refine lv_iload_n hx hb d_M_may_108 rfl (lv_at hl 4 rfl) ?_
        refine lv_iadd hx hb d_M_may_109 ?_
        refine lv_lshr hx hb d_M_may_110 rfl ?_
        refine lv_lconst (v := (1 : Int64)) hx hb d_M_may_111 (by decide) ?_
        refine lv_land hx hb d_M_may_112 ?_
        refine lv_lconst (v := (1 : Int64)) hx hb d_M_may_113 (by decide) ?_
        refine W.lcmp hx hb d_M_may_114 ?_
        refine lv_if_ne hx hb d_M_may_115 rfl (fun hc => ?_) (fun hc => ?_)
        · have h := mb_f hc h
          refine lv_iconst (v := (0 : Int32)) hx hb d_M_may_122 (by decide) ?_
          exact zM_may_b123 Cx hR hret (mM_may_l74  n) ih x1 x2 x3 x4 x7 (0 : Int32) s3 h ls H locs (lv_sub hl [1, 2, 3, 4, 5, 7] rfl) hP hS
        · have h := mb_t hc h
          exact zM_may_b118 Cx hR hret (mM_may_l74  n) ih x1 x2 x3 x4 x7 s3 h ls H locs (lv_sub hl [1, 2, 3, 4, 5, 7] rfl) hP hS
set_option maxRecDepth 100000 in
set_option maxHeartbeats 4000000 in
theorem zM_may_b66 {p : Program} {l : Launch} {e : Env} {R : Room} {s0 : State} {m : MethodId} {args : Array Value} {below : List Frame} {meth : Method} {c : Code} {Q : State → Prop} {A : Nat → Prop} {D : va_G} {X : Nat → Nat} {cI cZ cJ : ClassId} {rv : Int32} {rs : mb_S}
    (Cx : mb_C p s0 m args meth c c_M_may 10 lw_w cnM (fun _ _ => True) vwCl D [(cI, .int), (cZ, .boolean), (cJ, .long)] A (WM X cI cZ cJ)) (hR : 1 ≤ R.frames ∧ 26 ≤ R.locals)
    (hret : (rv = 0 ∨ rv = 1) → mb_R p l e R s0 m args below meth c Q vwCl D A (WM X cI cZ cJ) c_M_may .ireturn [.int rv] rs)   (s : mb_S)
    (h : mM_may_b66  s = some (rv, rs)) : mb_B p l e R s0 m args below meth c Q vwCl D A (WM X cI cZ cJ) 10 [] [] 66 s := by
  unfold mM_may_b66 at h
  intro ls H locs hl hP hS
  have Cx0 := Cx
  obtain ⟨⟨hx, hb, hml, hown, hts⟩, hK, hD, hA, hZ⟩ := Cx0
  refine lv_iconst (v := (0 : Int32)) hx hb d_M_may_66 (by decide) ?_
  exact mb_eZ hret h d_M_may_67 hP hS
set_option maxRecDepth 100000 in
set_option maxHeartbeats 4000000 in
theorem zM_may_b27 {p : Program} {l : Launch} {e : Env} {R : Room} {s0 : State} {m : MethodId} {args : Array Value} {below : List Frame} {meth : Method} {c : Code} {Q : State → Prop} {A : Nat → Prop} {D : va_G} {X : Nat → Nat} {cI cZ cJ : ClassId} {rv : Int32} {rs : mb_S}
    (Cx : mb_C p s0 m args meth c c_M_may 10 lw_w cnM (fun _ _ => True) vwCl D [(cI, .int), (cZ, .boolean), (cJ, .long)] A (WM X cI cZ cJ)) (hR : 1 ≤ R.frames ∧ 26 ≤ R.locals)
    (hret : (rv = 0 ∨ rv = 1) → mb_R p l e R s0 m args below meth c Q vwCl D A (WM X cI cZ cJ) c_M_may .ireturn [.int rv] rs)   (s : mb_S)
    (h : mM_may_b27  s = some (rv, rs)) : mb_B p l e R s0 m args below meth c Q vwCl D A (WM X cI cZ cJ) 10 [] [] 27 s := by
  unfold mM_may_b27 at h
  intro ls H locs hl hP hS
  have Cx0 := Cx
  obtain ⟨⟨hx, hb, hml, hown, hts⟩, hK, hD, hA, hZ⟩ := Cx0
  refine lv_iconst (v := (0 : Int32)) hx hb d_M_may_27 (by decide) ?_
  exact mb_eZ hret h d_M_may_28 hP hS
set_option maxRecDepth 100000 in
set_option maxHeartbeats 4000000 in
theorem w_M_may (l : Launch) (D : va_G) (X : Nat → Nat) (cI cZ cJ : ClassId) {x1 : Int32} {x2 : Int32} {x3 : Int32} {x4 : Int32} {s : mb_S} {rv : Int32} {rs : mb_S}
    (h : mM_may x1 x2 x3 x4 s = some (rv, rs)) : mb_MI l y_M_may ws_M_may rm_M_may (fun _ _ => True) vwCl D [(cI, .int), (cZ, .boolean), (cJ, .long)] (WM X cI cZ cJ) [.ref (X 0), .int x1, .int x2, .int x3, .int x4] s rv rs := by
  refine mb_ofZ mb_Z0ok (by decide) rfl (Nat.le_of_ble_eq_true rfl) mb_DMok ?_
  intro p e s0 m args below meth c Q A Cx hret
  have hR : 1 ≤ (rm_M_may).frames ∧ 26 ≤ (rm_M_may).locals := ⟨Nat.le_refl _, Nat.le_refl _⟩
  intro ls H locs hl hP hS
  have Cx0 := Cx
  obtain ⟨⟨hx, hb, hml, hown, hts⟩, hK, hD, hA, hZ⟩ := Cx0
  have hl : lv_has ls 10 [(0, .ref (X 0)), (1, .int x1), (2, .int x2), (3, .int x3), (4, .int x4)] := hl
  unfold mM_may at h
  refine lv_aload_n hx hb d_M_may_0 rfl (lv_at hl 0 rfl) ?_
  refine va_get (ci := 5) (C := cnM) (T := fTM) (N := 30) hx hb hts uwM hown hK hP 0 rfl rfl 7 (by decide) (hts _ wd_532) (fun _ h9 => h9) rfl d_M_may_1 ?_
  refine lv_iconst (v := (1 : Int32)) hx hb d_M_may_4 (by decide) ?_
  refine lv_icmp_ne hx hb d_M_may_5 rfl (fun hc => ?_) (fun hc => ?_)
  · have h := mb_f hc h
    exact zM_may_b27 Cx hR hret  s h ls H locs (lv_sub hl [] rfl) hP hS
  · have h := mb_t hc h
    refine lv_iload_n hx hb d_M_may_8 rfl (lv_at hl 1 rfl) ?_
    refine lv_iconst (v := (0 : Int32)) hx hb d_M_may_9 (by decide) ?_
    refine lv_iconst (v := (5 : Int32)) hx hb d_M_may_10 (by decide) ?_
    obtain ⟨v5, hv5, h⟩ := mb_cal0_ex h
    refine mb_go0I (st := s) Cx (mb_runS0 (As := [.int x1, .int (0 : Int32), .int (5 : Int32)]) (rest := []) Cx (w_M_within l D hv5 H.size) (mb_cwS 3 hts wd_622 wd_623 wd_7 wd_624 rfl rfl rfl (by decide +kernel) ⟨Nat.le_trans (by decide) hR.1, Nat.le_trans (by decide) hR.2⟩) rfl hl.1 rfl (Nat.le_of_ble_eq_true rfl) d_M_may_11) hP hS (fun H locs hP hS => ?_)
    refine lv_if_eq hx hb d_M_may_14 rfl (fun hc => ?_) (fun hc => ?_)
    · have h := mb_t hc h
      exact zM_may_b27 Cx hR hret  s h ls H locs (lv_sub hl [] rfl) hP hS
    · have h := mb_f hc h
      refine lv_iload_n hx hb d_M_may_17 rfl (lv_at hl 3 rfl) ?_
      refine lv_iconst (v := (0 : Int32)) hx hb d_M_may_18 (by decide) ?_
      refine lv_bipush (v := (15 : Int32)) hx hb d_M_may_19 (by decide) ?_
      obtain ⟨v6, hv6, h⟩ := mb_cal0_ex h
      refine mb_go0I (st := s) Cx (mb_runS0 (As := [.int x3, .int (0 : Int32), .int (15 : Int32)]) (rest := []) Cx (w_M_within l D hv6 H.size) (mb_cwS 3 hts wd_622 wd_623 wd_7 wd_624 rfl rfl rfl (by decide +kernel) ⟨Nat.le_trans (by decide) hR.1, Nat.le_trans (by decide) hR.2⟩) rfl hl.1 rfl (Nat.le_of_ble_eq_true rfl) d_M_may_21) hP hS (fun H locs hP hS => ?_)
      refine lv_if_ne hx hb d_M_may_24 rfl (fun hc => ?_) (fun hc => ?_)
      · have h := mb_f hc h
        refine lv_aload_n hx hb d_M_may_29 rfl (lv_at hl 0 rfl) ?_
        refine lv_iconst (v := (1 : Int32)) hx hb d_M_may_30 (by decide) ?_
        refine lv_bipush (v := (6 : Int32)) hx hb d_M_may_31 (by decide) ?_
        refine lv_iconst (v := (0 : Int32)) hx hb d_M_may_33 (by decide) ?_
        obtain ⟨v7, s8, hs8, h⟩ := mb_cal_ex h
        refine mb_goI Cx (mb_runV (As := [.int (1 : Int32), .int (6 : Int32), .int (0 : Int32)]) (rest := []) mb_Z0ok Cx (w_M_before l D X cI cZ cJ hs8 H.size) (mb_cwV 3 hts wd_628 wd_630 sel_39 wd_7 wd_631 rfl rfl rfl (by decide +kernel) ⟨Nat.le_trans (by decide) hR.1, Nat.le_trans (by decide) hR.2⟩) hP hS 0 rfl rfl rfl hl.1 rfl (Nat.le_of_ble_eq_true rfl) d_M_may_34) hS (fun H locs hP hS => ?_)
        refine lv_istore (lv' := [(5, .int v7), (0, .ref (X 0)), (1, .int x1), (2, .int x2), (3, .int x3), (4, .int x4)]) hx hb d_M_may_37 hl (by decide) rfl (fun ls hl => ?_)
        refine lv_iload_n hx hb d_M_may_39 rfl (lv_at hl 3 rfl) ?_
        refine lv_iconst (v := (0 : Int32)) hx hb d_M_may_40 (by decide) ?_
        refine lv_aload_n hx hb d_M_may_41 rfl (lv_at hl 1 rfl) ?_
        refine va_get (ci := 5) (C := cnM) (T := fTM) (N := 30) hx hb hts uwM hown hK hP 0 rfl rfl 0 (by decide) (hts _ wd_525) (fun _ h9 => h9) rfl d_M_may_42 ?_
        refine lv_iload_n hx hb d_M_may_45 rfl (lv_at hl 2 rfl) ?_
        refine mb_iald hx hb hK hP 1 0 rfl rfl h d_M_may_46 (fun v9 h => ?_)
        obtain ⟨v10, hv10, h⟩ := mb_cal0_ex h
        refine mb_go0I (st := s8) Cx (mb_runS0 (As := [.int x2, .int (0 : Int32), .int v9]) (rest := []) Cx (w_M_within l D hv10 H.size) (mb_cwS 3 hts wd_622 wd_623 wd_7 wd_624 rfl rfl rfl (by decide +kernel) ⟨Nat.le_trans (by decide) hR.1, Nat.le_trans (by decide) hR.2⟩) rfl hl.1 rfl (Nat.le_of_ble_eq_true rfl) d_M_may_47) hP hS (fun H locs hP hS => ?_)
        refine lv_if_eq hx hb d_M_may_50 rfl (fun hc => ?_) (fun hc => ?_)
        · have h := mb_t hc h
          exact zM_may_b66 Cx hR hret  s8 h ls H locs (lv_sub hl [] rfl) hP hS
        · have h := mb_f hc h
          refine lv_iload hx hb d_M_may_53 (lv_at hl 5 rfl) ?_
          refine lv_iconst (v := (0 : Int32)) hx hb d_M_may_55 (by decide) ?_
          refine lv_iload hx hb d_M_may_56 (lv_at hl 0 rfl) ?_
          refine lv_iconst (v := (1 : Int32)) hx hb d_M_may_58 (by decide) ?_
          refine lv_isub hx hb d_M_may_59 ?_
          obtain ⟨v11, hv11, h⟩ := mb_cal0_ex h
          refine mb_go0I (st := s8) Cx (mb_runS0 (As := [.int x4, .int (0 : Int32), .int (v7 - (1 : Int32))]) (rest := []) Cx (w_M_within l D hv11 H.size) (mb_cwS 3 hts wd_622 wd_623 wd_7 wd_624 rfl rfl rfl (by decide +kernel) ⟨Nat.le_trans (by decide) hR.1, Nat.le_trans (by decide) hR.2⟩) rfl hl.1 rfl (Nat.le_of_ble_eq_true rfl) d_M_may_60) hP hS (fun H locs hP hS => ?_)
          refine lv_if_ne hx hb d_M_may_63 rfl (fun hc => ?_) (fun hc => ?_)
          · have h := mb_f hc h
            refine lv_iconst (v := (0 : Int32)) hx hb d_M_may_68 (by decide) ?_
            refine lv_istore (lv' := [(6, .int (0 : Int32)), (5, .int v7), (0, .ref (X 0)), (1, .int x1), (2, .int x2), (3, .int x3), (4, .int x4)]) hx hb d_M_may_69 hl (by decide) rfl (fun ls hl => ?_)
            refine lv_iconst (v := (0 : Int32)) hx hb d_M_may_71 (by decide) ?_
            refine lv_istore (lv' := [(7, .int (0 : Int32)), (6, .int (0 : Int32)), (5, .int v7), (0, .ref (X 0)), (1, .int x1), (2, .int x2), (3, .int x3), (4, .int x4)]) hx hb d_M_may_72 hl (by decide) rfl (fun ls hl => ?_)
            exact zM_may_l74 Cx hR hret  mb_fuel x1 x2 x3 x4 (0 : Int32) (0 : Int32) s8 h ls H locs (lv_sub hl [3, 4, 5, 6, 7, 1, 0] rfl) hP hS
          · have h := mb_t hc h
            exact zM_may_b66 Cx hR hret  s8 h ls H locs (lv_sub hl [] rfl) hP hS
      · have h := mb_t hc h
        exact zM_may_b27 Cx hR hret  s h ls H locs (lv_sub hl [] rfl) hP hS
set_option maxRecDepth 100000 in
set_option maxHeartbeats 4000000 in
theorem zM_finding_b97 {p : Program} {l : Launch} {e : Env} {R : Room} {s0 : State} {m : MethodId} {args : Array Value} {below : List Frame} {meth : Method} {c : Code} {Q : State → Prop} {A : Nat → Prop} {D : va_G} {X : Nat → Nat} {cI cZ cJ : ClassId} {rv : Int32} {rs : mb_S}
    (Cx : mb_C p s0 m args meth c c_M_finding 8 lw_w cnM (fun _ _ => True) vwCl D [(cI, .int), (cZ, .boolean), (cJ, .long)] A (WM X cI cZ cJ)) (hR : 2 ≤ R.frames ∧ 55 ≤ R.locals)
    (hret : (rv = 0 ∨ rv = 1) → mb_R p l e R s0 m args below meth c Q vwCl D A (WM X cI cZ cJ) c_M_finding .ireturn [.int rv] rs) (k8 : Int32 → Int32 → Int32 → Int32 → Int32 → mb_S → Option (Int32 × mb_S)) (hk8 : ∀ (x1 : Int32) (x2 : Int32) (x3 : Int32) (x4 : Int32) (x5 : Int32) (s : mb_S), k8 x1 x2 x3 x4 x5 s = some (rv, rs) → mb_B p l e R s0 m args below meth c Q vwCl D A (WM X cI cZ cJ) 8 [(0, .ref (X 0)), (1, .int x1), (2, .int x2), (3, .int x3), (4, .int x4), (5, .int x5)] [] 8 s) (x1 : Int32) (x2 : Int32) (x4 : Int32) (x5 : Int32) (y0 : Int32) (y1 : Int32) (s : mb_S)
    (h : mM_finding_b97 k8 x1 x2 x4 x5 y0 y1 s = some (rv, rs)) : mb_B p l e R s0 m args below meth c Q vwCl D A (WM X cI cZ cJ) 8 [(0, .ref (X 0)), (1, .int x1), (2, .int x2), (4, .int x4), (5, .int x5)] [.int y0, .int y1] 97 s := by
  unfold mM_finding_b97 at h
  intro ls H locs hl hP hS
  have Cx0 := Cx
  obtain ⟨⟨hx, hb, hml, hown, hts⟩, hK, hD, hA, hZ⟩ := Cx0
  refine lv_iadd hx hb d_M_finding_97 ?_
  refine lv_topi (fun v1 ev1 => ?_)
  have h := mb_at ev1 h
  refine lv_istore_n (lv' := [(3, .int v1), (0, .ref (X 0)), (1, .int x1), (2, .int x2), (4, .int x4), (5, .int x5)]) hx hb d_M_finding_98 rfl hl (by decide) rfl (fun ls hl => ?_)
  obtain ⟨v2, ev2, h⟩ := mb_ex h
  refine lv_iinc (k := 5) (v := v2) (lv' := [(5, .int v2), (3, .int v1), (0, .ref (X 0)), (1, .int x1), (2, .int x2), (4, .int x4)]) hx hb d_M_finding_99 hl rfl ev2 (by decide) rfl (fun ls hl => ?_)
  refine lv_goto hx hb d_M_finding_102 rfl ?_
  exact hk8 x1 x2 v1 x4 v2 s h ls H locs (lv_sub hl [2, 3, 4, 1, 5, 0] rfl) hP hS
set_option maxRecDepth 100000 in
set_option maxHeartbeats 4000000 in
theorem zM_finding_b86 {p : Program} {l : Launch} {e : Env} {R : Room} {s0 : State} {m : MethodId} {args : Array Value} {below : List Frame} {meth : Method} {c : Code} {Q : State → Prop} {A : Nat → Prop} {D : va_G} {X : Nat → Nat} {cI cZ cJ : ClassId} {rv : Int32} {rs : mb_S}
    (Cx : mb_C p s0 m args meth c c_M_finding 8 lw_w cnM (fun _ _ => True) vwCl D [(cI, .int), (cZ, .boolean), (cJ, .long)] A (WM X cI cZ cJ)) (hR : 2 ≤ R.frames ∧ 55 ≤ R.locals)
    (hret : (rv = 0 ∨ rv = 1) → mb_R p l e R s0 m args below meth c Q vwCl D A (WM X cI cZ cJ) c_M_finding .ireturn [.int rv] rs) (k8 : Int32 → Int32 → Int32 → Int32 → Int32 → mb_S → Option (Int32 × mb_S)) (hk8 : ∀ (x1 : Int32) (x2 : Int32) (x3 : Int32) (x4 : Int32) (x5 : Int32) (s : mb_S), k8 x1 x2 x3 x4 x5 s = some (rv, rs) → mb_B p l e R s0 m args below meth c Q vwCl D A (WM X cI cZ cJ) 8 [(0, .ref (X 0)), (1, .int x1), (2, .int x2), (3, .int x3), (4, .int x4), (5, .int x5)] [] 8 s) (x1 : Int32) (x2 : Int32) (x3 : Int32) (x4 : Int32) (x5 : Int32) (x7 : Int32) (s : mb_S)
    (h : mM_finding_b86 k8 x1 x2 x3 x4 x5 x7 s = some (rv, rs)) : mb_B p l e R s0 m args below meth c Q vwCl D A (WM X cI cZ cJ) 8 [(0, .ref (X 0)), (1, .int x1), (2, .int x2), (3, .int x3), (4, .int x4), (5, .int x5), (7, .int x7)] [] 86 s := by
  unfold mM_finding_b86 at h
  intro ls H locs hl hP hS
  have Cx0 := Cx
  obtain ⟨⟨hx, hb, hml, hown, hts⟩, hK, hD, hA, hZ⟩ := Cx0
  refine lv_iload_n hx hb d_M_finding_86 rfl (lv_at hl 3 rfl) ?_
  refine lv_iload hx hb d_M_finding_87 (lv_at hl 6 rfl) ?_
  refine lv_if_eq hx hb d_M_finding_89 rfl (fun hc => ?_) (fun hc => ?_)
  · have h := mb_t hc h
    refine lv_iconst (v := (0 : Int32)) hx hb d_M_finding_96 (by decide) ?_
    exact zM_finding_b97 Cx hR hret k8 hk8 x1 x2 x4 x5 (0 : Int32) x3 s h ls H locs (lv_sub hl [0, 1, 2, 4, 5] rfl) hP hS
  · have h := mb_f hc h
    refine lv_iconst (v := (1 : Int32)) hx hb d_M_finding_92 (by decide) ?_
    refine lv_goto hx hb d_M_finding_93 rfl ?_
    exact zM_finding_b97 Cx hR hret k8 hk8 x1 x2 x4 x5 (1 : Int32) x3 s h ls H locs (lv_sub hl [0, 1, 2, 4, 5] rfl) hP hS
set_option maxRecDepth 100000 in
set_option maxHeartbeats 4000000 in
theorem zM_finding_b53 {p : Program} {l : Launch} {e : Env} {R : Room} {s0 : State} {m : MethodId} {args : Array Value} {below : List Frame} {meth : Method} {c : Code} {Q : State → Prop} {A : Nat → Prop} {D : va_G} {X : Nat → Nat} {cI cZ cJ : ClassId} {rv : Int32} {rs : mb_S}
    (Cx : mb_C p s0 m args meth c c_M_finding 8 lw_w cnM (fun _ _ => True) vwCl D [(cI, .int), (cZ, .boolean), (cJ, .long)] A (WM X cI cZ cJ)) (hR : 2 ≤ R.frames ∧ 55 ≤ R.locals)
    (hret : (rv = 0 ∨ rv = 1) → mb_R p l e R s0 m args below meth c Q vwCl D A (WM X cI cZ cJ) c_M_finding .ireturn [.int rv] rs) (k8 : Int32 → Int32 → Int32 → Int32 → Int32 → mb_S → Option (Int32 × mb_S)) (hk8 : ∀ (x1 : Int32) (x2 : Int32) (x3 : Int32) (x4 : Int32) (x5 : Int32) (s : mb_S), k8 x1 x2 x3 x4 x5 s = some (rv, rs) → mb_B p l e R s0 m args below meth c Q vwCl D A (WM X cI cZ cJ) 8 [(0, .ref (X 0)), (1, .int x1), (2, .int x2), (3, .int x3), (4, .int x4), (5, .int x5)] [] 8 s) (x1 : Int32) (x2 : Int32) (x3 : Int32) (x4 : Int32) (x5 : Int32) (x6 : Int32) (y0 : Int32) (s : mb_S)
    (h : mM_finding_b53 k8 x1 x2 x3 x4 x5 x6 y0 s = some (rv, rs)) : mb_B p l e R s0 m args below meth c Q vwCl D A (WM X cI cZ cJ) 8 [(0, .ref (X 0)), (1, .int x1), (2, .int x2), (3, .int x3), (4, .int x4), (5, .int x5), (6, .int x6)] [.int y0] 53 s := by
  unfold mM_finding_b53 at h
  intro ls H locs hl hP hS
  have Cx0 := Cx
  obtain ⟨⟨hx, hb, hml, hown, hts⟩, hK, hD, hA, hZ⟩ := Cx0
  refine lv_istore (lv' := [(7, .int y0), (0, .ref (X 0)), (1, .int x1), (2, .int x2), (3, .int x3), (4, .int x4), (5, .int x5), (6, .int x6)]) hx hb d_M_finding_53 hl (by decide) rfl (fun ls hl => ?_)
  refine lv_iload hx hb d_M_finding_55 (lv_at hl 0 rfl) ?_
  refine lv_if_eq hx hb d_M_finding_57 rfl (fun hc => ?_) (fun hc => ?_)
  · have h := mb_t hc h
    exact zM_finding_b86 Cx hR hret k8 hk8 x1 x2 x3 x4 x5 y0 s h ls H locs (lv_sub hl [1, 2, 3, 4, 5, 6, 0] rfl) hP hS
  · have h := mb_f hc h
    refine lv_iload_n hx hb d_M_finding_60 rfl (lv_at hl 4 rfl) ?_
    refine lv_iload_n hx hb d_M_finding_61 rfl (lv_at hl 3 rfl) ?_
    refine lv_icmp_ne hx hb d_M_finding_62 rfl (fun hc => ?_) (fun hc => ?_)
    · have h := mb_f hc h
      exact zM_finding_b86 Cx hR hret k8 hk8 x1 x2 x3 x4 x5 y0 s h ls H locs (lv_sub hl [1, 2, 3, 4, 5, 6, 0] rfl) hP hS
    · have h := mb_t hc h
      refine lv_aload_n hx hb d_M_finding_65 rfl (lv_at hl 1 rfl) ?_
      refine lv_iload hx hb d_M_finding_66 (lv_at hl 7 rfl) ?_
      refine lv_iload hx hb d_M_finding_68 (lv_at hl 6 rfl) ?_
      refine lv_bipush (v := (12 : Int32)) hx hb d_M_finding_70 (by decide) ?_
      refine lv_irem hx hb d_M_finding_72 (by decide) ?_
      refine lv_aload_n hx hb d_M_finding_73 rfl (lv_at hl 1 rfl) ?_
      refine va_get (ci := 5) (C := cnM) (T := fTM) (N := 30) hx hb hts uwM hown hK hP 0 rfl rfl 2 (by decide) (hts _ wd_527) (fun _ h9 => h9) rfl d_M_finding_74 ?_
      refine lv_iload hx hb d_M_finding_77 (lv_at hl 6 rfl) ?_
      refine mb_iald hx hb hK hP 3 0 rfl rfl h d_M_finding_79 (fun v3 h => ?_)
      refine lv_iload_n hx hb d_M_finding_80 rfl (lv_at hl 2 rfl) ?_
      obtain ⟨v4, s5, hs5, h⟩ := mb_cal_ex h
      refine mb_goI Cx (mb_runV (As := [.int x6, .int (x5 - x5 / (12 : Int32) * (12 : Int32)), .int v3, .int x1]) (rest := []) mb_Z0ok Cx (w_M_may l D X cI cZ cJ hs5 H.size) (mb_cwV 4 hts wd_751 wd_752 wd_753 wd_7 wd_754 rfl rfl rfl (by decide +kernel) ⟨Nat.le_trans (by decide) hR.1, Nat.le_trans (by decide) hR.2⟩) hP hS 0 rfl rfl rfl hl.1 rfl (Nat.le_of_ble_eq_true rfl) d_M_finding_81) hS (fun H locs hP hS => ?_)
      refine lv_istore (lv' := [(4, .int v4), (7, .int y0), (0, .ref (X 0)), (1, .int x1), (2, .int x2), (3, .int x3), (5, .int x5), (6, .int x6)]) hx hb d_M_finding_84 hl (by decide) rfl (fun ls hl => ?_)
      exact zM_finding_b86 Cx hR hret k8 hk8 x1 x2 x3 v4 x5 y0 s5 h ls H locs (lv_sub hl [2, 3, 4, 5, 0, 6, 1] rfl) hP hS
set_option maxRecDepth 100000 in
set_option maxHeartbeats 4000000 in
theorem zM_finding_b52 {p : Program} {l : Launch} {e : Env} {R : Room} {s0 : State} {m : MethodId} {args : Array Value} {below : List Frame} {meth : Method} {c : Code} {Q : State → Prop} {A : Nat → Prop} {D : va_G} {X : Nat → Nat} {cI cZ cJ : ClassId} {rv : Int32} {rs : mb_S}
    (Cx : mb_C p s0 m args meth c c_M_finding 8 lw_w cnM (fun _ _ => True) vwCl D [(cI, .int), (cZ, .boolean), (cJ, .long)] A (WM X cI cZ cJ)) (hR : 2 ≤ R.frames ∧ 55 ≤ R.locals)
    (hret : (rv = 0 ∨ rv = 1) → mb_R p l e R s0 m args below meth c Q vwCl D A (WM X cI cZ cJ) c_M_finding .ireturn [.int rv] rs) (k8 : Int32 → Int32 → Int32 → Int32 → Int32 → mb_S → Option (Int32 × mb_S)) (hk8 : ∀ (x1 : Int32) (x2 : Int32) (x3 : Int32) (x4 : Int32) (x5 : Int32) (s : mb_S), k8 x1 x2 x3 x4 x5 s = some (rv, rs) → mb_B p l e R s0 m args below meth c Q vwCl D A (WM X cI cZ cJ) 8 [(0, .ref (X 0)), (1, .int x1), (2, .int x2), (3, .int x3), (4, .int x4), (5, .int x5)] [] 8 s) (x1 : Int32) (x2 : Int32) (x3 : Int32) (x4 : Int32) (x5 : Int32) (x6 : Int32) (s : mb_S)
    (h : mM_finding_b52 k8 x1 x2 x3 x4 x5 x6 s = some (rv, rs)) : mb_B p l e R s0 m args below meth c Q vwCl D A (WM X cI cZ cJ) 8 [(0, .ref (X 0)), (1, .int x1), (2, .int x2), (3, .int x3), (4, .int x4), (5, .int x5), (6, .int x6)] [] 52 s := by
  unfold mM_finding_b52 at h
  intro ls H locs hl hP hS
  have Cx0 := Cx
  obtain ⟨⟨hx, hb, hml, hown, hts⟩, hK, hD, hA, hZ⟩ := Cx0
  refine lv_iconst (v := (0 : Int32)) hx hb d_M_finding_52 (by decide) ?_
  exact zM_finding_b53 Cx hR hret k8 hk8 x1 x2 x3 x4 x5 x6 (0 : Int32) s h ls H locs (lv_sub hl [0, 1, 2, 3, 4, 5, 6] rfl) hP hS
set_option maxRecDepth 100000 in
set_option maxHeartbeats 4000000 in
theorem zM_finding_l8 {p : Program} {l : Launch} {e : Env} {R : Room} {s0 : State} {m : MethodId} {args : Array Value} {below : List Frame} {meth : Method} {c : Code} {Q : State → Prop} {A : Nat → Prop} {D : va_G} {X : Nat → Nat} {cI cZ cJ : ClassId} {rv : Int32} {rs : mb_S}
    (Cx : mb_C p s0 m args meth c c_M_finding 8 lw_w cnM (fun _ _ => True) vwCl D [(cI, .int), (cZ, .boolean), (cJ, .long)] A (WM X cI cZ cJ)) (hR : 2 ≤ R.frames ∧ 55 ≤ R.locals)
    (hret : (rv = 0 ∨ rv = 1) → mb_R p l e R s0 m args below meth c Q vwCl D A (WM X cI cZ cJ) c_M_finding .ireturn [.int rv] rs)  :
    ∀ (n : Nat) (x1 : Int32) (x2 : Int32) (x3 : Int32) (x4 : Int32) (x5 : Int32) (s : mb_S), mM_finding_l8  n x1 x2 x3 x4 x5 s = some (rv, rs) → mb_B p l e R s0 m args below meth c Q vwCl D A (WM X cI cZ cJ) 8 [(0, .ref (X 0)), (1, .int x1), (2, .int x2), (3, .int x3), (4, .int x4), (5, .int x5)] [] 8 s := by
  intro n
  induction n with
  | zero => intro x1 x2 x3 x4 x5 s h; cases h
  | succ n ih =>
    intro x1 x2 x3 x4 x5 s h
    rw [mM_finding_l8_s] at h
    intro ls H locs hl hP hS
    have Cx0 := Cx
    obtain ⟨⟨hx, hb, hml, hown, hts⟩, hK, hD, hA, hZ⟩ := Cx0
    refine lv_iload hx hb d_M_finding_8 (lv_at hl 5 rfl) ?_
    refine lv_bipush (v := (72 : Int32)) hx hb d_M_finding_10 (by decide) ?_
    refine lv_icmp_ge hx hb d_M_finding_12 rfl (fun hc => ?_) (fun hc => ?_)
    · have h := mb_t hc h
      refine lv_iload hx hb d_M_finding_105 (lv_at hl 4 rfl) ?_
      exact mb_eZ hret h d_M_finding_107 hP hS
    · have h := mb_f hc h
      refine lv_iload hx hb d_M_finding_15 (lv_at hl 5 rfl) ?_
      refine lv_bipush (v := (12 : Int32)) hx hb d_M_finding_17 (by decide) ?_
      refine lv_idiv hx hb d_M_finding_19 (by decide) ?_
      refine lv_topi (fun v6 ev6 => ?_)
      have h := mb_at ev6 h
      refine lv_istore (lv' := [(6, .int v6), (0, .ref (X 0)), (1, .int x1), (2, .int x2), (3, .int x3), (4, .int x4), (5, .int x5)]) hx hb d_M_finding_20 hl (by decide) rfl (fun ls hl => ?_)
      refine lv_iload hx hb d_M_finding_22 (lv_at hl 6 rfl) ?_
      refine lv_bipush (v := (12 : Int32)) hx hb d_M_finding_24 (by decide) ?_
      refine lv_irem hx hb d_M_finding_26 (by decide) ?_
      refine lv_aload_n hx hb d_M_finding_27 rfl (lv_at hl 1 rfl) ?_
      refine va_get (ci := 5) (C := cnM) (T := fTM) (N := 30) hx hb hts uwM hown hK hP 0 rfl rfl 0 (by decide) (hts _ wd_525) (fun _ h9 => h9) rfl d_M_finding_28 ?_
      refine lv_iload hx hb d_M_finding_31 (lv_at hl 0 rfl) ?_
      refine mb_iald hx hb hK hP 1 0 rfl rfl h d_M_finding_33 (fun v7 h => ?_)
      refine lv_icmp_ge hx hb d_M_finding_34 rfl (fun hc => ?_) (fun hc => ?_)
      · have h := mb_t hc h
        exact zM_finding_b52 Cx hR hret (mM_finding_l8  n) ih x1 x2 x3 x4 x5 v6 s h ls H locs (lv_sub hl [1, 2, 3, 4, 5, 6, 0] rfl) hP hS
      · have h := mb_f hc h
        refine lv_aload_n hx hb d_M_finding_37 rfl (lv_at hl 1 rfl) ?_
        refine va_get (ci := 5) (C := cnM) (T := fTM) (N := 30) hx hb hts uwM hown hK hP 0 rfl rfl 1 (by decide) (hts _ wd_526) (fun _ h9 => h9) rfl d_M_finding_38 ?_
        refine lv_iload hx hb d_M_finding_41 (lv_at hl 6 rfl) ?_
        refine mb_iald hx hb hK hP 2 0 rfl rfl h d_M_finding_43 (fun v8 h => ?_)
        refine lv_iconst (v := (2 : Int32)) hx hb d_M_finding_44 (by decide) ?_
        refine lv_icmp_ne hx hb d_M_finding_45 rfl (fun hc => ?_) (fun hc => ?_)
        · have h := mb_f hc h
          exact zM_finding_b52 Cx hR hret (mM_finding_l8  n) ih x1 x2 x3 x4 x5 v6 s h ls H locs (lv_sub hl [1, 2, 3, 4, 5, 6, 0] rfl) hP hS
        · have h := mb_t hc h
          refine lv_iconst (v := (1 : Int32)) hx hb d_M_finding_48 (by decide) ?_
          refine lv_goto hx hb d_M_finding_49 rfl ?_
          exact zM_finding_b53 Cx hR hret (mM_finding_l8  n) ih x1 x2 x3 x4 x5 v6 (1 : Int32) s h ls H locs (lv_sub hl [1, 2, 3, 4, 5, 6, 0] rfl) hP hS
set_option maxRecDepth 100000 in
set_option maxHeartbeats 4000000 in
theorem w_M_finding (l : Launch) (D : va_G) (X : Nat → Nat) (cI cZ cJ : ClassId) {x1 : Int32} {x2 : Int32} {s : mb_S} {rv : Int32} {rs : mb_S}
    (h : mM_finding x1 x2 s = some (rv, rs)) : mb_MI l y_M_finding ws_M_finding rm_M_finding (fun _ _ => True) vwCl D [(cI, .int), (cZ, .boolean), (cJ, .long)] (WM X cI cZ cJ) [.ref (X 0), .int x1, .int x2] s rv rs := by
  refine mb_ofZ mb_Z0ok (by decide) rfl (Nat.le_of_ble_eq_true rfl) mb_DMok ?_
  intro p e s0 m args below meth c Q A Cx hret
  have hR : 2 ≤ (rm_M_finding).frames ∧ 55 ≤ (rm_M_finding).locals := ⟨Nat.le_refl _, Nat.le_refl _⟩
  intro ls H locs hl hP hS
  have Cx0 := Cx
  obtain ⟨⟨hx, hb, hml, hown, hts⟩, hK, hD, hA, hZ⟩ := Cx0
  have hl : lv_has ls 8 [(0, .ref (X 0)), (1, .int x1), (2, .int x2)] := hl
  unfold mM_finding at h
  refine lv_iconst (v := (0 : Int32)) hx hb d_M_finding_0 (by decide) ?_
  refine lv_istore_n (lv' := [(3, .int (0 : Int32)), (0, .ref (X 0)), (1, .int x1), (2, .int x2)]) hx hb d_M_finding_1 rfl hl (by decide) rfl (fun ls hl => ?_)
  refine lv_iconst (v := (0 : Int32)) hx hb d_M_finding_2 (by decide) ?_
  refine lv_istore (lv' := [(4, .int (0 : Int32)), (3, .int (0 : Int32)), (0, .ref (X 0)), (1, .int x1), (2, .int x2)]) hx hb d_M_finding_3 hl (by decide) rfl (fun ls hl => ?_)
  refine lv_iconst (v := (0 : Int32)) hx hb d_M_finding_5 (by decide) ?_
  refine lv_istore (lv' := [(5, .int (0 : Int32)), (4, .int (0 : Int32)), (3, .int (0 : Int32)), (0, .ref (X 0)), (1, .int x1), (2, .int x2)]) hx hb d_M_finding_6 hl (by decide) rfl (fun ls hl => ?_)
  exact zM_finding_l8 Cx hR hret  mb_fuel x1 x2 (0 : Int32) (0 : Int32) (0 : Int32) s h ls H locs (lv_sub hl [3, 4, 5, 2, 1, 0] rfl) hP hS
