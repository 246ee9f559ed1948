set_option maxRecDepth 100000 in
set_option maxHeartbeats 4000000 in
theorem zF_sweep_b85 {p : Program} {l : Launch} {e : Env} {R : Room} {s0 : State} {m : MethodId} {args : Array Value} {below : List Frame} {meth : Method} {c : Code} {Q : State → Prop} {A : Nat → Prop} {D : va_G} {X : Nat → Nat} {cI cZ cJ : ClassId} {rv : Unit} {rs : mb_S}
    (Cx : mb_C p s0 m args meth c c_F_sweep 7 lw_w cnF mb_ZX vwCl D [(cI, .int), (cZ, .boolean), (cJ, .long)] A (WX X cI cZ cJ)) (hR : 4 ≤ R.frames ∧ 100 ≤ R.locals)
    (hret : mb_R p l e R s0 m args below meth c Q vwCl D A (WX X cI cZ cJ) c_F_sweep .return_ [] rs) (k12 : Int32 → Int32 → Int32 → mb_S → Option (Unit × mb_S)) (hk12 : ∀ (x1 : Int32) (x2 : Int32) (x3 : Int32) (s : mb_S), k12 x1 x2 x3 s = some (rv, rs) → mb_B p l e R s0 m args below meth c Q vwCl D A (WX X cI cZ cJ) 7 [(0, .ref (X 3)), (1, .int x1), (2, .int x2), (3, .int x3)] [] 12 s) (k47 : Int32 → Int32 → Int32 → Int32 → Int32 → mb_S → Option (Unit × mb_S)) (hk47 : ∀ (x1 : Int32) (x2 : Int32) (x3 : Int32) (x4 : Int32) (x5 : Int32) (s : mb_S), k47 x1 x2 x3 x4 x5 s = some (rv, rs) → mb_B p l e R s0 m args below meth c Q vwCl D A (WX X cI cZ cJ) 7 [(0, .ref (X 3)), (1, .int x1), (2, .int x2), (3, .int x3), (4, .int x4), (5, .int x5)] [] 47 s) (x1 : Int32) (x2 : Int32) (x3 : Int32) (x4 : Int32) (x5 : Int32) (s : mb_S)
    (h : mF_sweep_b85 k12 k47 x1 x2 x3 x4 x5 s = some (rv, rs)) : mb_B p l e R s0 m args below meth c Q vwCl D A (WX X cI cZ cJ) 7 [(0, .ref (X 3)), (1, .int x1), (2, .int x2), (3, .int x3), (4, .int x4), (5, .int x5)] [] 85 s := by
  unfold mF_sweep_b85 at h
  intro ls H locs hl hP hS
  have Cx0 := Cx
  obtain ⟨⟨hx, hb, hml, hown, hts⟩, hK, hD, hA, hZ⟩ := Cx0
  obtain ⟨v1, ev1, h⟩ := mb_ex h
  refine lv_iinc (k := 5) (v := v1) (lv' := [(5, .int v1), (0, .ref (X 3)), (1, .int x1), (2, .int x2), (3, .int x3), (4, .int x4)]) hx hb d_F_sweep_85 hl rfl ev1 (by decide) rfl (fun ls hl => ?_)
  refine lv_goto hx hb d_F_sweep_88 rfl ?_
  exact hk47 x1 x2 x3 x4 v1 s h ls H locs (lv_sub hl [1, 2, 3, 4, 5, 0] rfl) hP hS
set_option maxRecDepth 100000 in
set_option maxHeartbeats 4000000 in
theorem zF_sweep_l47 {p : Program} {l : Launch} {e : Env} {R : Room} {s0 : State} {m : MethodId} {args : Array Value} {below : List Frame} {meth : Method} {c : Code} {Q : State → Prop} {A : Nat → Prop} {D : va_G} {X : Nat → Nat} {cI cZ cJ : ClassId} {rv : Unit} {rs : mb_S}
    (Cx : mb_C p s0 m args meth c c_F_sweep 7 lw_w cnF mb_ZX vwCl D [(cI, .int), (cZ, .boolean), (cJ, .long)] A (WX X cI cZ cJ)) (hR : 4 ≤ R.frames ∧ 100 ≤ R.locals)
    (hret : mb_R p l e R s0 m args below meth c Q vwCl D A (WX X cI cZ cJ) c_F_sweep .return_ [] rs) (k12 : Int32 → Int32 → Int32 → mb_S → Option (Unit × mb_S)) (hk12 : ∀ (x1 : Int32) (x2 : Int32) (x3 : Int32) (s : mb_S), k12 x1 x2 x3 s = some (rv, rs) → mb_B p l e R s0 m args below meth c Q vwCl D A (WX X cI cZ cJ) 7 [(0, .ref (X 3)), (1, .int x1), (2, .int x2), (3, .int x3)] [] 12 s) :
    ∀ (n : Nat) (x1 : Int32) (x2 : Int32) (x3 : Int32) (x4 : Int32) (x5 : Int32) (s : mb_S), mF_sweep_l47 k12 n x1 x2 x3 x4 x5 s = some (rv, rs) → mb_B p l e R s0 m args below meth c Q vwCl D A (WX X cI cZ cJ) 7 [(0, .ref (X 3)), (1, .int x1), (2, .int x2), (3, .int x3), (4, .int x4), (5, .int x5)] [] 47 s := by
  intro n
  induction n with
  | zero => intro x1 x2 x3 x4 x5 s h; cases h
  | succ n ih =>
    intro x1 x2 x3 x4 x5 s h
    rw [mF_sweep_l47_s] at h
    intro ls H locs hl hP hS
    have Cx0 := Cx
    obtain ⟨⟨hx, hb, hml, hown, hts⟩, hK, hD, hA, hZ⟩ := Cx0
    refine lv_iload hx hb d_F_sweep_47 (lv_at hl 5 rfl) ?_
    refine lv_bipush (v := (20 : Int32)) hx hb d_F_sweep_49 (by decide) ?_
    refine lv_icmp_ge hx hb d_F_sweep_51 rfl (fun hc => ?_) (fun hc => ?_)
    · have h := mb_t hc h
      obtain ⟨v2, ev2, h⟩ := mb_ex h
      refine lv_iinc (k := 3) (v := v2) (lv' := [(3, .int v2), (0, .ref (X 3)), (1, .int x1), (2, .int x2), (4, .int x4), (5, .int x5)]) hx hb d_F_sweep_91 hl rfl ev2 (by decide) rfl (fun ls hl => ?_)
      refine lv_goto hx hb d_F_sweep_94 rfl ?_
      exact hk12 x1 x2 v2 s h ls H locs (lv_sub hl [1, 2, 3, 0] rfl) hP hS
    · have h := mb_f hc h
      refine lv_aload_n hx hb d_F_sweep_54 rfl (lv_at hl 0 rfl) ?_
      refine va_get (ci := 3) (C := cnF) (T := fTF) (N := 7) hx hb hts uwF hown hK hP 3 rfl rfl 2 (by decide) (hts _ wd_127) (fun _ h9 => h9) rfl d_F_sweep_55 ?_
      refine lv_iload hx hb d_F_sweep_58 (lv_at hl 4 rfl) ?_
      refine lv_bipush (v := (20 : Int32)) hx hb d_F_sweep_60 (by decide) ?_
      refine lv_imul hx hb d_F_sweep_62 ?_
      refine lv_iload hx hb d_F_sweep_63 (lv_at hl 5 rfl) ?_
      refine lv_iadd hx hb d_F_sweep_65 ?_
      refine mb_iald hx hb hK hP 19 0 rfl rfl h d_F_sweep_66 (fun v3 h => ?_)
      refine lv_istore (lv' := [(6, .int v3), (0, .ref (X 3)), (1, .int x1), (2, .int x2), (3, .int x3), (4, .int x4), (5, .int x5)]) hx hb d_F_sweep_67 hl (by decide) rfl (fun ls hl => ?_)
      refine lv_iload hx hb d_F_sweep_69 (lv_at hl 0 rfl) ?_
      refine lv_if_eq hx hb d_F_sweep_71 rfl (fun hc => ?_) (fun hc => ?_)
      · have h := mb_t hc h
        exact zF_sweep_b85 Cx hR hret k12 hk12 (mF_sweep_l47 k12 n) ih x1 x2 x3 x4 x5 s h ls H locs (lv_sub hl [1, 2, 3, 4, 5, 6] rfl) hP hS
      · have h := mb_f hc h
        refine lv_aload_n hx hb d_F_sweep_74 rfl (lv_at hl 1 rfl) ?_
        refine lv_iload_n hx hb d_F_sweep_75 rfl (lv_at hl 2 rfl) ?_
        refine lv_iload hx hb d_F_sweep_76 (lv_at hl 5 rfl) ?_
        refine lv_iload hx hb d_F_sweep_78 (lv_at hl 6 rfl) ?_
        refine lv_iload hx hb d_F_sweep_80 (lv_at hl 0 rfl) ?_
        obtain ⟨_u, s4, hs4, h⟩ := mb_cal_ex h
        refine mb_goV Cx (mb_runV (As := [.int x1, .int x4, .int x5, .int v3]) (rest := []) mb_ZXok Cx (w_F_pass l D X cI cZ cJ hs4 H.size) (mb_cwV 4 hts wd_358 wd_360 sel_17 wd_5 wd_361 rfl rfl rfl (by decide +kernel) ⟨Nat.le_trans (by decide) hR.1, Nat.le_trans (by decide) hR.2⟩) hP hS 3 rfl rfl rfl hl.1 rfl (Nat.le_of_ble_eq_true rfl) d_F_sweep_82) hS (fun H locs hP hS => ?_)
        exact zF_sweep_b85 Cx hR hret k12 hk12 (mF_sweep_l47 k12 n) ih x1 x2 x3 x4 x5 s4 h ls H locs (lv_sub hl [1, 2, 3, 4, 5, 6] rfl) hP hS
set_option maxRecDepth 100000 in
set_option maxHeartbeats 4000000 in
theorem zF_sweep_b36 {p : Program} {l : Launch} {e : Env} {R : Room} {s0 : State} {m : MethodId} {args : Array Value} {below : List Frame} {meth : Method} {c : Code} {Q : State → Prop} {A : Nat → Prop} {D : va_G} {X : Nat → Nat} {cI cZ cJ : ClassId} {rv : Unit} {rs : mb_S}
    (Cx : mb_C p s0 m args meth c c_F_sweep 7 lw_w cnF mb_ZX vwCl D [(cI, .int), (cZ, .boolean), (cJ, .long)] A (WX X cI cZ cJ)) (hR : 4 ≤ R.frames ∧ 100 ≤ R.locals)
    (hret : mb_R p l e R s0 m args below meth c Q vwCl D A (WX X cI cZ cJ) c_F_sweep .return_ [] rs) (k12 : Int32 → Int32 → Int32 → mb_S → Option (Unit × mb_S)) (hk12 : ∀ (x1 : Int32) (x2 : Int32) (x3 : Int32) (s : mb_S), k12 x1 x2 x3 s = some (rv, rs) → mb_B p l e R s0 m args below meth c Q vwCl D A (WX X cI cZ cJ) 7 [(0, .ref (X 3)), (1, .int x1), (2, .int x2), (3, .int x3)] [] 12 s) (x1 : Int32) (x2 : Int32) (x3 : Int32) (s : mb_S)
    (h : mF_sweep_b36 k12 x1 x2 x3 s = some (rv, rs)) : mb_B p l e R s0 m args below meth c Q vwCl D A (WX X cI cZ cJ) 7 [(0, .ref (X 3)), (1, .int x1), (2, .int x2), (3, .int x3)] [] 36 s := by
  unfold mF_sweep_b36 at h
  intro ls H locs hl hP hS
  have Cx0 := Cx
  obtain ⟨⟨hx, hb, hml, hown, hts⟩, hK, hD, hA, hZ⟩ := Cx0
  refine lv_iload_n hx hb d_F_sweep_36 rfl (lv_at hl 1 rfl) ?_
  refine lv_bipush (v := (13 : Int32)) hx hb d_F_sweep_37 (by decide) ?_
  refine lv_imul hx hb d_F_sweep_39 ?_
  refine lv_iload_n hx hb d_F_sweep_40 rfl (lv_at hl 3 rfl) ?_
  refine lv_iadd hx hb d_F_sweep_41 ?_
  refine lv_topi (fun v5 ev5 => ?_)
  have h := mb_at ev5 h
  refine lv_istore (lv' := [(4, .int v5), (0, .ref (X 3)), (1, .int x1), (2, .int x2), (3, .int x3)]) hx hb d_F_sweep_42 hl (by decide) rfl (fun ls hl => ?_)
  refine lv_iconst (v := (0 : Int32)) hx hb d_F_sweep_44 (by decide) ?_
  refine lv_istore (lv' := [(5, .int (0 : Int32)), (4, .int v5), (0, .ref (X 3)), (1, .int x1), (2, .int x2), (3, .int x3)]) hx hb d_F_sweep_45 hl (by decide) rfl (fun ls hl => ?_)
  exact zF_sweep_l47 Cx hR hret k12 hk12 mb_fuel x1 x2 x3 v5 (0 : Int32) s h ls H locs (lv_sub hl [2, 3, 4, 5, 1, 0] rfl) hP hS
set_option maxRecDepth 100000 in
set_option maxHeartbeats 4000000 in
theorem zF_sweep_l12 {p : Program} {l : Launch} {e : Env} {R : Room} {s0 : State} {m : MethodId} {args : Array Value} {below : List Frame} {meth : Method} {c : Code} {Q : State → Prop} {A : Nat → Prop} {D : va_G} {X : Nat → Nat} {cI cZ cJ : ClassId} {rv : Unit} {rs : mb_S}
    (Cx : mb_C p s0 m args meth c c_F_sweep 7 lw_w cnF mb_ZX vwCl D [(cI, .int), (cZ, .boolean), (cJ, .long)] A (WX X cI cZ cJ)) (hR : 4 ≤ R.frames ∧ 100 ≤ R.locals)
    (hret : mb_R p l e R s0 m args below meth c Q vwCl D A (WX X cI cZ cJ) c_F_sweep .return_ [] rs)  :
    ∀ (n : Nat) (x1 : Int32) (x2 : Int32) (x3 : Int32) (s : mb_S), mF_sweep_l12  n x1 x2 x3 s = some (rv, rs) → mb_B p l e R s0 m args below meth c Q vwCl D A (WX X cI cZ cJ) 7 [(0, .ref (X 3)), (1, .int x1), (2, .int x2), (3, .int x3)] [] 12 s := by
  intro n
  induction n with
  | zero => intro x1 x2 x3 s h; cases h
  | succ n ih =>
    intro x1 x2 x3 s h
    rw [mF_sweep_l12_s] at h
    intro ls H locs hl hP hS
    have Cx0 := Cx
    obtain ⟨⟨hx, hb, hml, hown, hts⟩, hK, hD, hA, hZ⟩ := Cx0
    refine lv_iload_n hx hb d_F_sweep_12 rfl (lv_at hl 3 rfl) ?_
    refine lv_iload_n hx hb d_F_sweep_13 rfl (lv_at hl 2 rfl) ?_
    refine lv_icmp_ge hx hb d_F_sweep_14 rfl (fun hc => ?_) (fun hc => ?_)
    · have h := mb_t hc h
      refine lv_aload_n hx hb d_F_sweep_97 rfl (lv_at hl 0 rfl) ?_
      refine lv_iload_n hx hb d_F_sweep_98 rfl (lv_at hl 1 rfl) ?_
      refine lv_iload_n hx hb d_F_sweep_99 rfl (lv_at hl 1 rfl) ?_
      refine lv_bipush (v := (13 : Int32)) hx hb d_F_sweep_100 (by decide) ?_
      refine lv_imul hx hb d_F_sweep_102 ?_
      refine lv_iload_n hx hb d_F_sweep_103 rfl (lv_at hl 2 rfl) ?_
      refine lv_iadd hx hb d_F_sweep_104 ?_
      obtain ⟨_u, s6, hs6, h⟩ := mb_cal_ex h
      refine mb_goV Cx (mb_runV (As := [.int x1, .int ((x1 * (13 : Int32)) + x2)]) (rest := []) mb_ZXok Cx (w_F_endAll l D X cI cZ cJ hs6 H.size) (mb_cwV 2 hts wd_385 wd_387 sel_23 wd_5 wd_388 rfl rfl rfl (by decide +kernel) ⟨Nat.le_trans (by decide) hR.1, Nat.le_trans (by decide) hR.2⟩) hP hS 3 rfl rfl rfl hl.1 rfl (Nat.le_of_ble_eq_true rfl) d_F_sweep_105) hS (fun H locs hP hS => ?_)
      exact mb_eV hret h d_F_sweep_108 hP hS
    · have h := mb_f hc h
      refine lv_aload_n hx hb d_F_sweep_17 rfl (lv_at hl 0 rfl) ?_
      refine va_get (ci := 3) (C := cnF) (T := fTF) (N := 7) hx hb hts uwF hown hK hP 3 rfl rfl 5 (by decide) (hts _ wd_130) (fun _ h9 => h9) rfl d_F_sweep_18 ?_
      refine lv_iload_n hx hb d_F_sweep_21 rfl (lv_at hl 1 rfl) ?_
      refine mb_iald hx hb hK hP 22 0 rfl rfl h d_F_sweep_22 (fun v7 h => ?_)
      refine lv_iload_n hx hb d_F_sweep_23 rfl (lv_at hl 3 rfl) ?_
      obtain ⟨v8, hv8, h⟩ := mb_cal0_ex h
      refine mb_go0I (st := s) Cx (mb_runSN0 (As := [.int v7, .int x3]) (rest := []) Cx (w_X_has l D hv8 H.size) (mb_cn 2 hts wd_329 wd_284 wd_1 wd_285 rfl rfl rfl (by decide +kernel) ⟨Nat.le_trans (by decide) hR.1, Nat.le_trans (by decide) hR.2⟩) rfl hl.1 rfl (Nat.le_of_ble_eq_true rfl) d_F_sweep_24) hP hS (fun H locs hP hS => ?_)
      refine lv_if_eq hx hb d_F_sweep_27 rfl (fun hc => ?_) (fun hc => ?_)
      · have h := mb_t hc h
        exact zF_sweep_b36 Cx hR hret (mF_sweep_l12  n) ih x1 x2 x3 s h ls H locs (lv_sub hl [0, 1, 2, 3] rfl) hP hS
      · have h := mb_f hc h
        refine lv_aload_n hx hb d_F_sweep_30 rfl (lv_at hl 0 rfl) ?_
        refine lv_iload_n hx hb d_F_sweep_31 rfl (lv_at hl 1 rfl) ?_
        refine lv_iload_n hx hb d_F_sweep_32 rfl (lv_at hl 3 rfl) ?_
        obtain ⟨_u, s9, hs9, h⟩ := mb_cal_ex h
        refine mb_goV Cx (mb_runV (As := [.int x1, .int x3]) (rest := []) mb_ZXok Cx (w_F_passZero l D X cI cZ cJ hs9 H.size) (mb_cwV 2 hts wd_330 wd_332 sel_12 wd_5 wd_333 rfl rfl rfl (by decide +kernel) ⟨Nat.le_trans (by decide) hR.1, Nat.le_trans (by decide) hR.2⟩) hP hS 3 rfl rfl rfl hl.1 rfl (Nat.le_of_ble_eq_true rfl) d_F_sweep_33) hS (fun H locs hP hS => ?_)
        exact zF_sweep_b36 Cx hR hret (mF_sweep_l12  n) ih x1 x2 x3 s9 h ls H locs (lv_sub hl [0, 1, 2, 3] rfl) hP hS
set_option maxRecDepth 100000 in
set_option maxHeartbeats 4000000 in
theorem w_F_sweep (l : Launch) (D : va_G) (X : Nat → Nat) (cI cZ cJ : ClassId) {x1 : Int32} {s : mb_S} {rv : Unit} {rs : mb_S}
    (h : mF_sweep x1 s = some (rv, rs)) : mb_MV l y_F_sweep ws_F_sweep rm_F_sweep mb_ZX vwCl D [(cI, .int), (cZ, .boolean), (cJ, .long)] (WX X cI cZ cJ) [.ref (X 3), .int x1] s rs := by
  refine mb_ofV mb_ZXok (by decide) rfl (Nat.le_of_ble_eq_true rfl) mb_DXok ?_
  intro p e s0 m args below meth c Q A Cx hret
  have hR : 4 ≤ (rm_F_sweep).frames ∧ 100 ≤ (rm_F_sweep).locals := ⟨Nat.le_refl _, Nat.le_refl _⟩
  intro ls H locs hl hP hS
  have Cx0 := Cx
  obtain ⟨⟨hx, hb, hml, hown, hts⟩, hK, hD, hA, hZ⟩ := Cx0
  have hl : lv_has ls 7 [(0, .ref (X 3)), (1, .int x1)] := hl
  unfold mF_sweep at h
  refine lv_aload_n hx hb d_F_sweep_0 rfl (lv_at hl 0 rfl) ?_
  refine va_get (ci := 3) (C := cnF) (T := fTF) (N := 7) hx hb hts uwF hown hK hP 3 rfl rfl 0 (by decide) (hts _ wd_125) (fun _ h9 => h9) rfl d_F_sweep_1 ?_
  refine va_get (ci := 1) (C := cnP) (T := fTP) (N := 12) hx hb hts uwP hown hK hP 1 rfl rfl 5 (by decide) (hts _ wd_51) (fun _ h9 => h9) rfl d_F_sweep_4 ?_
  refine lv_iload_n hx hb d_F_sweep_7 rfl (lv_at hl 1 rfl) ?_
  refine mb_iald hx hb hK hP 10 0 rfl rfl h d_F_sweep_8 (fun v10 h => ?_)
  refine lv_istore_n (lv' := [(2, .int v10), (0, .ref (X 3)), (1, .int x1)]) hx hb d_F_sweep_9 rfl hl (by decide) rfl (fun ls hl => ?_)
  refine lv_iconst (v := (0 : Int32)) hx hb d_F_sweep_10 (by decide) ?_
  refine lv_istore_n (lv' := [(3, .int (0 : Int32)), (2, .int v10), (0, .ref (X 3)), (1, .int x1)]) hx hb d_F_sweep_11 rfl hl (by decide) rfl (fun ls hl => ?_)
  exact zF_sweep_l12 Cx hR hret  mb_fuel x1 v10 (0 : Int32) s h ls H locs (lv_sub hl [2, 3, 1, 0] rfl) hP hS
set_option maxRecDepth 100000 in
set_option maxHeartbeats 4000000 in
theorem zF_workOut_b61 {p : Program} {l : Launch} {e : Env} {R : Room} {s0 : State} {m : MethodId} {args : Array Value} {below : List Frame} {meth : Method} {c : Code} {Q : State → Prop} {A : Nat → Prop} {D : va_G} {X : Nat → Nat} {cI cZ cJ : ClassId} {rv : Unit} {rs : mb_S}
    (Cx : mb_C p s0 m args meth c c_F_workOut 3 lw_w cnF mb_ZX vwCl D [(cI, .int), (cZ, .boolean), (cJ, .long)] A (WX X cI cZ cJ)) (hR : 5 ≤ R.frames ∧ 126 ≤ R.locals)
    (hret : mb_R p l e R s0 m args below meth c Q vwCl D A (WX X cI cZ cJ) c_F_workOut .return_ [] rs)   (s : mb_S)
    (h : mF_workOut_b61  s = some (rv, rs)) : mb_B p l e R s0 m args below meth c Q vwCl D A (WX X cI cZ cJ) 3 [] [] 61 s := by
  unfold mF_workOut_b61 at h
  intro ls H locs hl hP hS
  have Cx0 := Cx
  obtain ⟨⟨hx, hb, hml, hown, hts⟩, hK, hD, hA, hZ⟩ := Cx0
  exact mb_eV hret h d_F_workOut_61 hP hS
set_option maxRecDepth 100000 in
set_option maxHeartbeats 4000000 in
theorem zF_workOut_l38 {p : Program} {l : Launch} {e : Env} {R : Room} {s0 : State} {m : MethodId} {args : Array Value} {below : List Frame} {meth : Method} {c : Code} {Q : State → Prop} {A : Nat → Prop} {D : va_G} {X : Nat → Nat} {cI cZ cJ : ClassId} {rv : Unit} {rs : mb_S}
    (Cx : mb_C p s0 m args meth c c_F_workOut 3 lw_w cnF mb_ZX vwCl D [(cI, .int), (cZ, .boolean), (cJ, .long)] A (WX X cI cZ cJ)) (hR : 5 ≤ R.frames ∧ 126 ≤ R.locals)
    (hret : mb_R p l e R s0 m args below meth c Q vwCl D A (WX X cI cZ cJ) c_F_workOut .return_ [] rs) (k18 : Int32 → mb_S → Option (Unit × mb_S)) (hk18 : ∀ (x1 : Int32) (s : mb_S), k18 x1 s = some (rv, rs) → mb_B p l e R s0 m args below meth c Q vwCl D A (WX X cI cZ cJ) 3 [(0, .ref (X 3)), (1, .int x1)] [] 18 s) :
    ∀ (n : Nat) (x1 : Int32) (x2 : Int32) (s : mb_S), mF_workOut_l38 k18 n x1 x2 s = some (rv, rs) → mb_B p l e R s0 m args below meth c Q vwCl D A (WX X cI cZ cJ) 3 [(0, .ref (X 3)), (1, .int x1), (2, .int x2)] [] 38 s := by
  intro n
  induction n with
  | zero => intro x1 x2 s h; cases h
  | succ n ih =>
    intro x1 x2 s h
    rw [mF_workOut_l38_s] at h
    intro ls H locs hl hP hS
    have Cx0 := Cx
    obtain ⟨⟨hx, hb, hml, hown, hts⟩, hK, hD, hA, hZ⟩ := Cx0
    refine lv_iload_n hx hb d_F_workOut_38 rfl (lv_at hl 2 rfl) ?_
    refine lv_bipush (v := (6 : Int32)) hx hb d_F_workOut_39 (by decide) ?_
    refine lv_icmp_ge hx hb d_F_workOut_41 rfl (fun hc => ?_) (fun hc => ?_)
    · have h := mb_t hc h
      obtain ⟨v1, ev1, h⟩ := mb_ex h
      refine lv_iinc (k := 1) (v := v1) (lv' := [(1, .int v1), (0, .ref (X 3)), (2, .int x2)]) hx hb d_F_workOut_55 hl rfl ev1 (by decide) rfl (fun ls hl => ?_)
      refine lv_goto hx hb d_F_workOut_58 rfl ?_
      exact hk18 v1 s h ls H locs (lv_sub hl [1, 0] rfl) hP hS
    · have h := mb_f hc h
      refine lv_aload_n hx hb d_F_workOut_44 rfl (lv_at hl 0 rfl) ?_
      refine lv_iload_n hx hb d_F_workOut_45 rfl (lv_at hl 2 rfl) ?_
      obtain ⟨_u, s2, hs2, h⟩ := mb_cal_ex h
      refine mb_goV Cx (mb_runV (As := [.int x2]) (rest := []) mb_ZXok Cx (w_F_sweep l D X cI cZ cJ hs2 H.size) (mb_cwV 1 hts wd_325 wd_327 sel_11 wd_5 wd_328 rfl rfl rfl (by decide +kernel) ⟨Nat.le_trans (by decide) hR.1, Nat.le_trans (by decide) hR.2⟩) hP hS 3 rfl rfl rfl hl.1 rfl (Nat.le_of_ble_eq_true rfl) d_F_workOut_46) hS (fun H locs hP hS => ?_)
      obtain ⟨v3, ev3, h⟩ := mb_ex h
      refine lv_iinc (k := 2) (v := v3) (lv' := [(2, .int v3), (0, .ref (X 3)), (1, .int x1)]) hx hb d_F_workOut_49 hl rfl ev3 (by decide) rfl (fun ls hl => ?_)
      refine lv_goto hx hb d_F_workOut_52 rfl ?_
      exact ih x1 v3 s2 h ls H locs (lv_sub hl [1, 2, 0] rfl) hP hS
set_option maxRecDepth 100000 in
set_option maxHeartbeats 4000000 in
theorem zF_workOut_l18 {p : Program} {l : Launch} {e : Env} {R : Room} {s0 : State} {m : MethodId} {args : Array Value} {below : List Frame} {meth : Method} {c : Code} {Q : State → Prop} {A : Nat → Prop} {D : va_G} {X : Nat → Nat} {cI cZ cJ : ClassId} {rv : Unit} {rs : mb_S}
    (Cx : mb_C p s0 m args meth c c_F_workOut 3 lw_w cnF mb_ZX vwCl D [(cI, .int), (cZ, .boolean), (cJ, .long)] A (WX X cI cZ cJ)) (hR : 5 ≤ R.frames ∧ 126 ≤ R.locals)
    (hret : mb_R p l e R s0 m args below meth c Q vwCl D A (WX X cI cZ cJ) c_F_workOut .return_ [] rs)  :
    ∀ (n : Nat) (x1 : Int32) (s : mb_S), mF_workOut_l18  n x1 s = some (rv, rs) → mb_B p l e R s0 m args below meth c Q vwCl D A (WX X cI cZ cJ) 3 [(0, .ref (X 3)), (1, .int x1)] [] 18 s := by
  intro n
  induction n with
  | zero => intro x1 s h; cases h
  | succ n ih =>
    intro x1 s h
    rw [mF_workOut_l18_s] at h
    intro ls H locs hl hP hS
    have Cx0 := Cx
    obtain ⟨⟨hx, hb, hml, hown, hts⟩, hK, hD, hA, hZ⟩ := Cx0
    refine lv_aload_n hx hb d_F_workOut_18 rfl (lv_at hl 0 rfl) ?_
    refine va_get (ci := 3) (C := cnF) (T := fTF) (N := 7) hx hb hts uwF hown hK hP 3 rfl rfl 6 (by decide) (hts _ wd_131) (fun _ h9 => h9) rfl d_F_workOut_19 ?_
    refine lv_if_eq hx hb d_F_workOut_22 rfl (fun hc => ?_) (fun hc => ?_)
    · have h := mb_t hc h
      exact zF_workOut_b61 Cx hR hret  s h ls H locs (lv_sub hl [] rfl) hP hS
    · have h := mb_f hc h
      refine lv_iload_n hx hb d_F_workOut_25 rfl (lv_at hl 1 rfl) ?_
      refine lv_ldc (v := (1000000 : Int32)) hx hb hown (hts _ wd_324) d_F_workOut_26 ?_
      refine lv_icmp_ge hx hb d_F_workOut_28 rfl (fun hc => ?_) (fun hc => ?_)
      · have h := mb_t hc h
        exact zF_workOut_b61 Cx hR hret  s h ls H locs (lv_sub hl [] rfl) hP hS
      · have h := mb_f hc h
        refine lv_aload_n hx hb d_F_workOut_31 rfl (lv_at hl 0 rfl) ?_
        refine lv_iconst (v := (0 : Int32)) hx hb d_F_workOut_32 (by decide) ?_
        obtain ⟨hzs4, h⟩ := mb_putZ_ex h
        refine va_put (ci := 3) (v := .int (0 : Int32)) (ty := .boolean) (C := cnF) (T := fTF) (N := 7) hx hb hts uwF fyF fyF_ok fnF hown hK hP (hD _) hS 3 rfl rfl 6 (by decide) (hts _ wd_131) (fun _ h9 => h9) rfl (by decide +kernel) (mb_narZ hzs4) (mb_fitZ hzs4) (Nat.le_of_ble_eq_true rfl) d_F_workOut_33 (fun H locs hP _ hS => ?_)
        have hP : va_P D vwCl (WX X cI cZ cJ (mb_setF s 4 (0 : Int32))) H := hP
        generalize mb_setF s 4 (0 : Int32) = s4 at hP h
        refine lv_iconst (v := (0 : Int32)) hx hb d_F_workOut_36 (by decide) ?_
        refine lv_istore_n (lv' := [(2, .int (0 : Int32)), (0, .ref (X 3)), (1, .int x1)]) hx hb d_F_workOut_37 rfl hl (by decide) rfl (fun ls hl => ?_)
        exact zF_workOut_l38 Cx hR hret (mF_workOut_l18  n) ih mb_fuel x1 (0 : Int32) s4 h ls H locs (lv_sub hl [1, 2, 0] rfl) hP hS
set_option maxRecDepth 100000 in
set_option maxHeartbeats 4000000 in
theorem w_F_workOut (l : Launch) (D : va_G) (X : Nat → Nat) (cI cZ cJ : ClassId)  {s : mb_S} {rv : Unit} {rs : mb_S}
    (h : mF_workOut  s = some (rv, rs)) : mb_MV l y_F_workOut ws_F_workOut rm_F_workOut mb_ZX vwCl D [(cI, .int), (cZ, .boolean), (cJ, .long)] (WX X cI cZ cJ) [.ref (X 3)] s rs := by
  refine mb_ofV mb_ZXok (by decide) rfl (Nat.le_of_ble_eq_true rfl) mb_DXok ?_
  intro p e s0 m args below meth c Q A Cx hret
  have hR : 5 ≤ (rm_F_workOut).frames ∧ 126 ≤ (rm_F_workOut).locals := ⟨Nat.le_refl _, Nat.le_refl _⟩
  intro ls H locs hl hP hS
  have Cx0 := Cx
  obtain ⟨⟨hx, hb, hml, hown, hts⟩, hK, hD, hA, hZ⟩ := Cx0
  have hl : lv_has ls 3 [(0, .ref (X 3))] := hl
  unfold mF_workOut at h
  refine lv_aload_n hx hb d_F_workOut_0 rfl (lv_at hl 0 rfl) ?_
  obtain ⟨_u, s5, hs5, h⟩ := mb_cal_ex h
  refine mb_goV Cx (mb_runV (As := []) (rest := []) mb_ZXok Cx (w_F_clear l D X cI cZ cJ hs5 H.size) (mb_cwV 0 hts wd_319 wd_321 sel_10 wd_5 wd_322 rfl rfl rfl (by decide +kernel) ⟨Nat.le_trans (by decide) hR.1, Nat.le_trans (by decide) hR.2⟩) hP hS 3 rfl rfl rfl hl.1 rfl (Nat.le_of_ble_eq_true rfl) d_F_workOut_1) hS (fun H locs hP hS => ?_)
  refine lv_aload_n hx hb d_F_workOut_4 rfl (lv_at hl 0 rfl) ?_
  refine va_get (ci := 3) (C := cnF) (T := fTF) (N := 7) hx hb hts uwF hown hK hP 3 rfl rfl 5 (by decide) (hts _ wd_130) (fun _ h9 => h9) rfl d_F_workOut_5 ?_
  refine lv_iconst (v := (0 : Int32)) hx hb d_F_workOut_8 (by decide) ?_
  refine lv_iconst (v := (1 : Int32)) hx hb d_F_workOut_9 (by decide) ?_
  refine mb_iast (WS := WX X cI cZ cJ) hx hb hK hP hD hS 22 0 rfl rfl h d_F_workOut_10 rfl (fun H locs s6 hP hS h => ?_)
  refine lv_aload_n hx hb d_F_workOut_11 rfl (lv_at hl 0 rfl) ?_
  refine lv_iconst (v := (1 : Int32)) hx hb d_F_workOut_12 (by decide) ?_
  obtain ⟨hzs7, h⟩ := mb_putZ_ex h
  refine va_put (ci := 3) (v := .int (1 : Int32)) (ty := .boolean) (C := cnF) (T := fTF) (N := 7) hx hb hts uwF fyF fyF_ok fnF hown hK hP (hD _) hS 3 rfl rfl 6 (by decide) (hts _ wd_131) (fun _ h9 => h9) rfl (by decide +kernel) (mb_narZ hzs7) (mb_fitZ hzs7) (Nat.le_of_ble_eq_true rfl) d_F_workOut_13 (fun H locs hP _ hS => ?_)
  have hP : va_P D vwCl (WX X cI cZ cJ (mb_setF s6 4 (1 : Int32))) H := hP
  generalize mb_setF s6 4 (1 : Int32) = s7 at hP h
  refine lv_iconst (v := (0 : Int32)) hx hb d_F_workOut_16 (by decide) ?_
  refine lv_istore_n (lv' := [(1, .int (0 : Int32)), (0, .ref (X 3))]) hx hb d_F_workOut_17 rfl hl (by decide) rfl (fun ls hl => ?_)
  exact zF_workOut_l18 Cx hR hret  mb_fuel (0 : Int32) s7 h ls H locs (lv_sub hl [1, 0] rfl) hP hS
set_option maxRecDepth 100000 in
set_option maxHeartbeats 4000000 in
theorem zF_countHeld_l5 {p : Program} {l : Launch} {e : Env} {R : Room} {s0 : State} {m : MethodId} {args : Array Value} {below : List Frame} {meth : Method} {c : Code} {Q : State → Prop} {A : Nat → Prop} {D : va_G} {X : Nat → Nat} {cI cZ cJ : ClassId} {rv : Int32} {rs : mb_S}
    (Cx : mb_C p s0 m args meth c c_F_countHeld 5 lw_w cnF mb_ZX vwCl D [(cI, .int), (cZ, .boolean), (cJ, .long)] A (WX X cI cZ cJ)) (hR : 1 ≤ R.frames ∧ 20 ≤ R.locals)
    (hret : mb_R p l e R s0 m args below meth c Q vwCl D A (WX X cI cZ cJ) c_F_countHeld .ireturn [.int rv] rs)  :
    ∀ (n : Nat) (x1 : Int32) (x2 : Int32) (x3 : Int32) (x4 : Int32) (s : mb_S), mF_countHeld_l5  n x1 x2 x3 x4 s = some (rv, rs) → mb_B p l e R s0 m args below meth c Q vwCl D A (WX X cI cZ cJ) 5 [(0, .ref (X 3)), (1, .int x1), (2, .int x2), (3, .int x3), (4, .int x4)] [] 5 s := by
  intro n
  induction n with
  | zero => intro x1 x2 x3 x4 s h; cases h
  | succ n ih =>
    intro x1 x2 x3 x4 s h
    rw [mF_countHeld_l5_s] at h
    intro ls H locs hl hP hS
    have Cx0 := Cx
    obtain ⟨⟨hx, hb, hml, hown, hts⟩, hK, hD, hA, hZ⟩ := Cx0
    refine lv_iload hx hb d_F_countHeld_5 (lv_at hl 4 rfl) ?_
    refine lv_aload_n hx hb d_F_countHeld_7 rfl (lv_at hl 0 rfl) ?_
    refine va_get (ci := 3) (C := cnF) (T := fTF) (N := 7) hx hb hts uwF hown hK hP 3 rfl rfl 0 (by decide) (hts _ wd_125) (fun _ h9 => h9) rfl d_F_countHeld_8 ?_
    refine va_get (ci := 1) (C := cnP) (T := fTP) (N := 12) hx hb hts uwP hown hK hP 1 rfl rfl 5 (by decide) (hts _ wd_51) (fun _ h9 => h9) rfl d_F_countHeld_11 ?_
    refine lv_iload_n hx hb d_F_countHeld_14 rfl (lv_at hl 1 rfl) ?_
    refine mb_iald hx hb hK hP 10 0 rfl rfl h d_F_countHeld_15 (fun v1 h => ?_)
    refine lv_icmp_gt hx hb d_F_countHeld_16 rfl (fun hc => ?_) (fun hc => ?_)
    · have h := mb_t hc h
      refine lv_iload_n hx hb d_F_countHeld_48 rfl (lv_at hl 3 rfl) ?_
      exact mb_eI hret h d_F_countHeld_49 hP hS
    · have h := mb_f hc h
      refine lv_iload_n hx hb d_F_countHeld_19 rfl (lv_at hl 3 rfl) ?_
      refine lv_aload_n hx hb d_F_countHeld_20 rfl (lv_at hl 0 rfl) ?_
      refine va_get (ci := 3) (C := cnF) (T := fTF) (N := 7) hx hb hts uwF hown hK hP 3 rfl rfl 2 (by decide) (hts _ wd_127) (fun _ h9 => h9) rfl d_F_countHeld_21 ?_
      refine lv_iload_n hx hb d_F_countHeld_24 rfl (lv_at hl 1 rfl) ?_
      refine lv_bipush (v := (13 : Int32)) hx hb d_F_countHeld_25 (by decide) ?_
      refine lv_imul hx hb d_F_countHeld_27 ?_
      refine lv_iload hx hb d_F_countHeld_28 (lv_at hl 4 rfl) ?_
      refine lv_iadd hx hb d_F_countHeld_30 ?_
      refine lv_bipush (v := (20 : Int32)) hx hb d_F_countHeld_31 (by decide) ?_
      refine lv_imul hx hb d_F_countHeld_33 ?_
      refine lv_iload_n hx hb d_F_countHeld_34 rfl (lv_at hl 2 rfl) ?_
      refine lv_iadd hx hb d_F_countHeld_35 ?_
      refine mb_iald hx hb hK hP 19 0 rfl rfl h d_F_countHeld_36 (fun v2 h => ?_)
      obtain ⟨v3, hv3, h⟩ := mb_cal0_ex h
      refine mb_go0I (st := s) Cx (mb_runS0 (As := [.int v2]) (rest := [.int x3]) Cx (w_J_bitCount l D hv3 H.size) (mb_cwS 1 hts wd_393 wd_394 wd_9 wd_395 rfl rfl rfl (by decide +kernel) ⟨Nat.le_trans (by decide) hR.1, Nat.le_trans (by decide) hR.2⟩) rfl hl.1 rfl (Nat.le_of_ble_eq_true rfl) d_F_countHeld_37) hP hS (fun H locs hP hS => ?_)
      refine lv_iadd hx hb d_F_countHeld_40 ?_
      refine lv_topi (fun v4 ev4 => ?_)
      have h := mb_at ev4 h
      refine lv_istore_n (lv' := [(3, .int v4), (0, .ref (X 3)), (1, .int x1), (2, .int x2), (4, .int x4)]) hx hb d_F_countHeld_41 rfl hl (by decide) rfl (fun ls hl => ?_)
      obtain ⟨v5, ev5, h⟩ := mb_ex h
      refine lv_iinc (k := 4) (v := v5) (lv' := [(4, .int v5), (3, .int v4), (0, .ref (X 3)), (1, .int x1), (2, .int x2)]) hx hb d_F_countHeld_42 hl rfl ev5 (by decide) rfl (fun ls hl => ?_)
      refine lv_goto hx hb d_F_countHeld_45 rfl ?_
      exact ih x1 x2 v4 v5 s h ls H locs (lv_sub hl [2, 3, 4, 1, 0] rfl) hP hS
set_option maxRecDepth 100000 in
set_option maxHeartbeats 4000000 in
theorem w_F_countHeld (l : Launch) (D : va_G) (X : Nat → Nat) (cI cZ cJ : ClassId) {x1 : Int32} {x2 : Int32} {s : mb_S} {rv : Int32} {rs : mb_S}
    (h : mF_countHeld x1 x2 s = some (rv, rs)) : mb_MI l y_F_countHeld ws_F_countHeld rm_F_countHeld mb_ZX vwCl D [(cI, .int), (cZ, .boolean), (cJ, .long)] (WX X cI cZ cJ) [.ref (X 3), .int x1, .int x2] s rv rs := by
  refine mb_ofI mb_ZXok (by decide) rfl (Nat.le_of_ble_eq_true rfl) mb_DXok ?_
  intro p e s0 m args below meth c Q A Cx hret
  have hR : 1 ≤ (rm_F_countHeld).frames ∧ 20 ≤ (rm_F_countHeld).locals := ⟨Nat.le_refl _, Nat.le_refl _⟩
  intro ls H locs hl hP hS
  have Cx0 := Cx
  obtain ⟨⟨hx, hb, hml, hown, hts⟩, hK, hD, hA, hZ⟩ := Cx0
  have hl : lv_has ls 5 [(0, .ref (X 3)), (1, .int x1), (2, .int x2)] := hl
  unfold mF_countHeld at h
  refine lv_iconst (v := (0 : Int32)) hx hb d_F_countHeld_0 (by decide) ?_
  refine lv_istore_n (lv' := [(3, .int (0 : Int32)), (0, .ref (X 3)), (1, .int x1), (2, .int x2)]) hx hb d_F_countHeld_1 rfl hl (by decide) rfl (fun ls hl => ?_)
  refine lv_iconst (v := (0 : Int32)) hx hb d_F_countHeld_2 (by decide) ?_
  refine lv_istore (lv' := [(4, .int (0 : Int32)), (3, .int (0 : Int32)), (0, .ref (X 3)), (1, .int x1), (2, .int x2)]) hx hb d_F_countHeld_3 hl (by decide) rfl (fun ls hl => ?_)
  exact zF_countHeld_l5 Cx hR hret  mb_fuel x1 x2 (0 : Int32) (0 : Int32) s h ls H locs (lv_sub hl [2, 3, 4, 1, 0] rfl) hP hS
set_option maxRecDepth 100000 in
set_option maxHeartbeats 4000000 in
theorem zF_countPaths_b63 {p : Program} {l : Launch} {e : Env} {R : Room} {s0 : State} {m : MethodId} {args : Array Value} {below : List Frame} {meth : Method} {c : Code} {Q : State → Prop} {A : Nat → Prop} {D : va_G} {X : Nat → Nat} {cI cZ cJ : ClassId} {rv : Int32} {rs : mb_S}
    (Cx : mb_C p s0 m args meth c c_F_countPaths 5 lw_w cnF mb_ZX vwCl D [(cI, .int), (cZ, .boolean), (cJ, .long)] A (WX X cI cZ cJ)) (hR : 2 ≤ R.frames ∧ 44 ≤ R.locals)
    (hret : mb_R p l e R s0 m args below meth c Q vwCl D A (WX X cI cZ cJ) c_F_countPaths .ireturn [.int rv] rs) (k4 : Int32 → Int32 → mb_S → Option (Int32 × mb_S)) (hk4 : ∀ (x1 : Int32) (x2 : Int32) (s : mb_S), k4 x1 x2 s = some (rv, rs) → mb_B p l e R s0 m args below meth c Q vwCl D A (WX X cI cZ cJ) 5 [(0, .ref (X 3)), (1, .int x1), (2, .int x2)] [] 4 s) (k24 : Int32 → Int32 → Int32 → mb_S → Option (Int32 × mb_S)) (hk24 : ∀ (x1 : Int32) (x2 : Int32) (x3 : Int32) (s : mb_S), k24 x1 x2 x3 s = some (rv, rs) → mb_B p l e R s0 m args below meth c Q vwCl D A (WX X cI cZ cJ) 5 [(0, .ref (X 3)), (1, .int x1), (2, .int x2), (3, .int x3)] [] 24 s) (x1 : Int32) (x2 : Int32) (x3 : Int32) (s : mb_S)
    (h : mF_countPaths_b63 k4 k24 x1 x2 x3 s = some (rv, rs)) : mb_B p l e R s0 m args below meth c Q vwCl D A (WX X cI cZ cJ) 5 [(0, .ref (X 3)), (1, .int x1), (2, .int x2), (3, .int x3)] [] 63 s := by
  unfold mF_countPaths_b63 at h
  intro ls H locs hl hP hS
  have Cx0 := Cx
  obtain ⟨⟨hx, hb, hml, hown, hts⟩, hK, hD, hA, hZ⟩ := Cx0
  obtain ⟨v1, ev1, h⟩ := mb_ex h
  refine lv_iinc (k := 3) (v := v1) (lv' := [(3, .int v1), (0, .ref (X 3)), (1, .int x1), (2, .int x2)]) hx hb d_F_countPaths_63 hl rfl ev1 (by decide) rfl (fun ls hl => ?_)
  refine lv_goto hx hb d_F_countPaths_66 rfl ?_
  exact hk24 x1 x2 v1 s h ls H locs (lv_sub hl [1, 2, 3, 0] rfl) hP hS
set_option maxRecDepth 100000 in
set_option maxHeartbeats 4000000 in
theorem zF_countPaths_l24 {p : Program} {l : Launch} {e : Env} {R : Room} {s0 : State} {m : MethodId} {args : Array Value} {below : List Frame} {meth : Method} {c : Code} {Q : State → Prop} {A : Nat → Prop} {D : va_G} {X : Nat → Nat} {cI cZ cJ : ClassId} {rv : Int32} {rs : mb_S}
    (Cx : mb_C p s0 m args meth c c_F_countPaths 5 lw_w cnF mb_ZX vwCl D [(cI, .int), (cZ, .boolean), (cJ, .long)] A (WX X cI cZ cJ)) (hR : 2 ≤ R.frames ∧ 44 ≤ R.locals)
    (hret : mb_R p l e R s0 m args below meth c Q vwCl D A (WX X cI cZ cJ) c_F_countPaths .ireturn [.int rv] rs) (k4 : Int32 → Int32 → mb_S → Option (Int32 × mb_S)) (hk4 : ∀ (x1 : Int32) (x2 : Int32) (s : mb_S), k4 x1 x2 s = some (rv, rs) → mb_B p l e R s0 m args below meth c Q vwCl D A (WX X cI cZ cJ) 5 [(0, .ref (X 3)), (1, .int x1), (2, .int x2)] [] 4 s) :
    ∀ (n : Nat) (x1 : Int32) (x2 : Int32) (x3 : Int32) (s : mb_S), mF_countPaths_l24 k4 n x1 x2 x3 s = some (rv, rs) → mb_B p l e R s0 m args below meth c Q vwCl D A (WX X cI cZ cJ) 5 [(0, .ref (X 3)), (1, .int x1), (2, .int x2), (3, .int x3)] [] 24 s := by
  intro n
  induction n with
  | zero => intro x1 x2 x3 s h; cases h
  | succ n ih =>
    intro x1 x2 x3 s h
    rw [mF_countPaths_l24_s] at h
    intro ls H locs hl hP hS
    have Cx0 := Cx
    obtain ⟨⟨hx, hb, hml, hown, hts⟩, hK, hD, hA, hZ⟩ := Cx0
    refine lv_iload_n hx hb d_F_countPaths_24 rfl (lv_at hl 3 rfl) ?_
    refine lv_bipush (v := (20 : Int32)) hx hb d_F_countPaths_25 (by decide) ?_
    refine lv_icmp_ge hx hb d_F_countPaths_27 rfl (fun hc => ?_) (fun hc => ?_)
    · have h := mb_t hc h
      obtain ⟨v2, ev2, h⟩ := mb_ex h
      refine lv_iinc (k := 2) (v := v2) (lv' := [(2, .int v2), (0, .ref (X 3)), (1, .int x1), (3, .int x3)]) hx hb d_F_countPaths_69 hl rfl ev2 (by decide) rfl (fun ls hl => ?_)
      refine lv_goto hx hb d_F_countPaths_72 rfl ?_
      exact hk4 x1 v2 s h ls H locs (lv_sub hl [1, 2, 0] rfl) hP hS
    · have h := mb_f hc h
      refine lv_aload_n hx hb d_F_countPaths_30 rfl (lv_at hl 0 rfl) ?_
      refine va_get (ci := 3) (C := cnF) (T := fTF) (N := 7) hx hb hts uwF hown hK hP 3 rfl rfl 4 (by decide) (hts _ wd_129) (fun _ h9 => h9) rfl d_F_countPaths_31 ?_
      refine lv_iload_n hx hb d_F_countPaths_34 rfl (lv_at hl 2 rfl) ?_
      refine lv_bipush (v := (20 : Int32)) hx hb d_F_countPaths_35 (by decide) ?_
      refine lv_imul hx hb d_F_countPaths_37 ?_
      refine lv_iload_n hx hb d_F_countPaths_38 rfl (lv_at hl 3 rfl) ?_
      refine lv_iadd hx hb d_F_countPaths_39 ?_
      refine mb_iald hx hb hK hP 21 0 rfl rfl h d_F_countPaths_40 (fun v3 h => ?_)
      obtain ⟨v4, hv4, h⟩ := mb_cal0_ex h
      refine mb_go0I (st := s) Cx (mb_runS0 (As := [.int v3]) (rest := []) Cx (w_J_bitCount l D hv4 H.size) (mb_cwS 1 hts wd_393 wd_394 wd_9 wd_395 rfl rfl rfl (by decide +kernel) ⟨Nat.le_trans (by decide) hR.1, Nat.le_trans (by decide) hR.2⟩) rfl hl.1 rfl (Nat.le_of_ble_eq_true rfl) d_F_countPaths_41) hP hS (fun H locs hP hS => ?_)
      refine lv_istore (lv' := [(4, .int v4), (0, .ref (X 3)), (1, .int x1), (2, .int x2), (3, .int x3)]) hx hb d_F_countPaths_44 hl (by decide) rfl (fun ls hl => ?_)
      refine lv_iload hx hb d_F_countPaths_46 (lv_at hl 0 rfl) ?_
      refine lv_if_eq hx hb d_F_countPaths_48 rfl (fun hc => ?_) (fun hc => ?_)
      · have h := mb_t hc h
        exact zF_countPaths_b63 Cx hR hret k4 hk4 (mF_countPaths_l24 k4 n) ih x1 x2 x3 s h ls H locs (lv_sub hl [1, 2, 3, 4] rfl) hP hS
      · have h := mb_f hc h
        refine lv_iload_n hx hb d_F_countPaths_51 rfl (lv_at hl 2 rfl) ?_
        refine lv_iload hx hb d_F_countPaths_52 (lv_at hl 0 rfl) ?_
        refine lv_aload_n hx hb d_F_countPaths_54 rfl (lv_at hl 1 rfl) ?_
        refine lv_iload_n hx hb d_F_countPaths_55 rfl (lv_at hl 3 rfl) ?_
        refine lv_iload_n hx hb d_F_countPaths_56 rfl (lv_at hl 4 rfl) ?_
        obtain ⟨v5, s6, hs6, h⟩ := mb_cal_ex h
        refine mb_goI Cx (mb_runV (As := [.int x2, .int x3]) (rest := [.int v4, .int x1]) mb_ZXok Cx (w_F_countHeld l D X cI cZ cJ hs6 H.size) (mb_cwV 2 hts wd_399 wd_401 sel_24 wd_5 wd_402 rfl rfl rfl (by decide +kernel) ⟨Nat.le_trans (by decide) hR.1, Nat.le_trans (by decide) hR.2⟩) hP hS 3 rfl rfl rfl hl.1 rfl (Nat.le_of_ble_eq_true rfl) d_F_countPaths_57) hS (fun H locs hP hS => ?_)
        refine lv_imul hx hb d_F_countPaths_60 ?_
        refine lv_iadd hx hb d_F_countPaths_61 ?_
        refine lv_topi (fun v7 ev7 => ?_)
        have h := mb_at ev7 h
        refine lv_istore_n (lv' := [(1, .int v7), (4, .int v4), (0, .ref (X 3)), (2, .int x2), (3, .int x3)]) hx hb d_F_countPaths_62 rfl hl (by decide) rfl (fun ls hl => ?_)
        exact zF_countPaths_b63 Cx hR hret k4 hk4 (mF_countPaths_l24 k4 n) ih v7 x2 x3 s6 h ls H locs (lv_sub hl [2, 0, 3, 4] rfl) hP hS
set_option maxRecDepth 100000 in
set_option maxHeartbeats 4000000 in
theorem zF_countPaths_l4 {p : Program} {l : Launch} {e : Env} {R : Room} {s0 : State} {m : MethodId} {args : Array Value} {below : List Frame} {meth : Method} {c : Code} {Q : State → Prop} {A : Nat → Prop} {D : va_G} {X : Nat → Nat} {cI cZ cJ : ClassId} {rv : Int32} {rs : mb_S}
    (Cx : mb_C p s0 m args meth c c_F_countPaths 5 lw_w cnF mb_ZX vwCl D [(cI, .int), (cZ, .boolean), (cJ, .long)] A (WX X cI cZ cJ)) (hR : 2 ≤ R.frames ∧ 44 ≤ R.locals)
    (hret : mb_R p l e R s0 m args below meth c Q vwCl D A (WX X cI cZ cJ) c_F_countPaths .ireturn [.int rv] rs)  :
    ∀ (n : Nat) (x1 : Int32) (x2 : Int32) (s : mb_S), mF_countPaths_l4  n x1 x2 s = some (rv, rs) → mb_B p l e R s0 m args below meth c Q vwCl D A (WX X cI cZ cJ) 5 [(0, .ref (X 3)), (1, .int x1), (2, .int x2)] [] 4 s := by
  intro n
  induction n with
  | zero => intro x1 x2 s h; cases h
  | succ n ih =>
    intro x1 x2 s h
    rw [mF_countPaths_l4_s] at h
    intro ls H locs hl hP hS
    have Cx0 := Cx
    obtain ⟨⟨hx, hb, hml, hown, hts⟩, hK, hD, hA, hZ⟩ := Cx0
    refine lv_iload_n hx hb d_F_countPaths_4 rfl (lv_at hl 2 rfl) ?_
    refine lv_bipush (v := (6 : Int32)) hx hb d_F_countPaths_5 (by decide) ?_
    refine lv_icmp_ge hx hb d_F_countPaths_7 rfl (fun hc => ?_) (fun hc => ?_)
    · have h := mb_t hc h
      refine lv_iload_n hx hb d_F_countPaths_75 rfl (lv_at hl 1 rfl) ?_
      exact mb_eI hret h d_F_countPaths_76 hP hS
    · have h := mb_f hc h
      refine lv_iload_n hx hb d_F_countPaths_10 rfl (lv_at hl 1 rfl) ?_
      refine lv_aload_n hx hb d_F_countPaths_11 rfl (lv_at hl 0 rfl) ?_
      refine va_get (ci := 3) (C := cnF) (T := fTF) (N := 7) hx hb hts uwF hown hK hP 3 rfl rfl 5 (by decide) (hts _ wd_130) (fun _ h9 => h9) rfl d_F_countPaths_12 ?_
      refine lv_iload_n hx hb d_F_countPaths_15 rfl (lv_at hl 2 rfl) ?_
      refine mb_iald hx hb hK hP 22 0 rfl rfl h d_F_countPaths_16 (fun v8 h => ?_)
      obtain ⟨v9, hv9, h⟩ := mb_cal0_ex h
      refine mb_go0I (st := s) Cx (mb_runS0 (As := [.int v8]) (rest := [.int x1]) Cx (w_J_bitCount l D hv9 H.size) (mb_cwS 1 hts wd_393 wd_394 wd_9 wd_395 rfl rfl rfl (by decide +kernel) ⟨Nat.le_trans (by decide) hR.1, Nat.le_trans (by decide) hR.2⟩) rfl hl.1 rfl (Nat.le_of_ble_eq_true rfl) d_F_countPaths_17) hP hS (fun H locs hP hS => ?_)
      refine lv_iadd hx hb d_F_countPaths_20 ?_
      refine lv_topi (fun v10 ev10 => ?_)
      have h := mb_at ev10 h
      refine lv_istore_n (lv' := [(1, .int v10), (0, .ref (X 3)), (2, .int x2)]) hx hb d_F_countPaths_21 rfl hl (by decide) rfl (fun ls hl => ?_)
      refine lv_iconst (v := (0 : Int32)) hx hb d_F_countPaths_22 (by decide) ?_
      refine lv_istore_n (lv' := [(3, .int (0 : Int32)), (1, .int v10), (0, .ref (X 3)), (2, .int x2)]) hx hb d_F_countPaths_23 rfl hl (by decide) rfl (fun ls hl => ?_)
      exact zF_countPaths_l24 Cx hR hret (mF_countPaths_l4  n) ih mb_fuel v10 x2 (0 : Int32) s h ls H locs (lv_sub hl [2, 1, 3, 0] rfl) hP hS
set_option maxRecDepth 100000 in
set_option maxHeartbeats 4000000 in
theorem w_F_countPaths (l : Launch) (D : va_G) (X : Nat → Nat) (cI cZ cJ : ClassId)  {s : mb_S} {rv : Int32} {rs : mb_S}
    (h : mF_countPaths  s = some (rv, rs)) : mb_MI l y_F_countPaths ws_F_countPaths rm_F_countPaths mb_ZX vwCl D [(cI, .int), (cZ, .boolean), (cJ, .long)] (WX X cI cZ cJ) [.ref (X 3)] s rv rs := by
  refine mb_ofI mb_ZXok (by decide) rfl (Nat.le_of_ble_eq_true rfl) mb_DXok ?_
  intro p e s0 m args below meth c Q A Cx hret
  have hR : 2 ≤ (rm_F_countPaths).frames ∧ 44 ≤ (rm_F_countPaths).locals := ⟨Nat.le_refl _, Nat.le_refl _⟩
  intro ls H locs hl hP hS
  have Cx0 := Cx
  obtain ⟨⟨hx, hb, hml, hown, hts⟩, hK, hD, hA, hZ⟩ := Cx0
  have hl : lv_has ls 5 [(0, .ref (X 3))] := hl
  unfold mF_countPaths at h
  refine lv_iconst (v := (0 : Int32)) hx hb d_F_countPaths_0 (by decide) ?_
  refine lv_istore_n (lv' := [(1, .int (0 : Int32)), (0, .ref (X 3))]) hx hb d_F_countPaths_1 rfl hl (by decide) rfl (fun ls hl => ?_)
  refine lv_iconst (v := (0 : Int32)) hx hb d_F_countPaths_2 (by decide) ?_
  refine lv_istore_n (lv' := [(2, .int (0 : Int32)), (1, .int (0 : Int32)), (0, .ref (X 3))]) hx hb d_F_countPaths_3 rfl hl (by decide) rfl (fun ls hl => ?_)
  exact zF_countPaths_l4 Cx hR hret  mb_fuel (0 : Int32) (0 : Int32) s h ls H locs (lv_sub hl [2, 1, 0] rfl) hP hS
set_option maxRecDepth 100000 in
set_option maxHeartbeats 4000000 in
theorem w_X_analyse (l : Launch) (D : va_G) (X : Nat → Nat) (cI cZ cJ : ClassId) {x1 : Int32} {s : mb_S} {rv : Int32} {rs : mb_S}
    (h : mX_analyse x1 s = some (rv, rs)) : mb_MI l y_X_analyse ws_X_analyse rm_X_analyse mb_ZX vwCl D [(cI, .int), (cZ, .boolean), (cJ, .long)] (WX X cI cZ cJ) [.ref (X 0), .int x1] s rv rs := by
  refine mb_ofI mb_ZXok (by decide) rfl (Nat.le_of_ble_eq_true rfl) mb_DXok ?_
  intro p e s0 m args below meth c Q A Cx hret
  have hR : 6 ≤ (rm_X_analyse).frames ∧ 148 ≤ (rm_X_analyse).locals := ⟨Nat.le_refl _, Nat.le_refl _⟩
  intro ls H locs hl hP hS
  have Cx0 := Cx
  obtain ⟨⟨hx, hb, hml, hown, hts⟩, hK, hD, hA, hZ⟩ := Cx0
  have hl : lv_has ls 3 [(0, .ref (X 0)), (1, .int x1)] := hl
  unfold mX_analyse at h
  refine lv_aload_n hx hb d_X_analyse_0 rfl (lv_at hl 0 rfl) ?_
  refine va_get (ci := 0) (C := cnX) (T := fTX) (N := 5) hx hb hts uwX hown hK hP 0 rfl rfl 1 (by decide) (hts _ wd_197) (fun _ h9 => h9) rfl d_X_analyse_1 ?_
  obtain ⟨_u, s1, hs1, h⟩ := mb_cal_ex h
  refine mb_goV Cx (mb_runV (As := []) (rest := []) mb_ZXok Cx (w_Q_workOut l D X cI cZ cJ hs1 H.size) (mb_cwV 0 hts wd_273 wd_274 wd_275 wd_4 wd_276 rfl rfl rfl (by decide +kernel) ⟨Nat.le_trans (by decide) hR.1, Nat.le_trans (by decide) hR.2⟩) hP hS 2 rfl rfl rfl hl.1 rfl (Nat.le_of_ble_eq_true rfl) d_X_analyse_4) hS (fun H locs hP hS => ?_)
  refine lv_aload_n hx hb d_X_analyse_7 rfl (lv_at hl 0 rfl) ?_
  refine va_get (ci := 0) (C := cnX) (T := fTX) (N := 5) hx hb hts uwX hown hK hP 0 rfl rfl 2 (by decide) (hts _ wd_198) (fun _ h9 => h9) rfl d_X_analyse_8 ?_
  obtain ⟨_u, s2, hs2, h⟩ := mb_cal_ex h
  refine mb_goV Cx (mb_runV (As := []) (rest := []) mb_ZXok Cx (w_F_workOut l D X cI cZ cJ hs2 H.size) (mb_cwV 0 hts wd_315 wd_316 wd_317 wd_5 wd_318 rfl rfl rfl (by decide +kernel) ⟨Nat.le_trans (by decide) hR.1, Nat.le_trans (by decide) hR.2⟩) hP hS 3 rfl rfl rfl hl.1 rfl (Nat.le_of_ble_eq_true rfl) d_X_analyse_11) hS (fun H locs hP hS => ?_)
  refine lv_aload_n hx hb d_X_analyse_14 rfl (lv_at hl 0 rfl) ?_
  refine va_get (ci := 0) (C := cnX) (T := fTX) (N := 5) hx hb hts uwX hown hK hP 0 rfl rfl 2 (by decide) (hts _ wd_198) (fun _ h9 => h9) rfl d_X_analyse_15 ?_
  obtain ⟨v3, s4, hs4, h⟩ := mb_cal_ex h
  refine mb_goI Cx (mb_runV (As := []) (rest := []) mb_ZXok Cx (w_F_countPaths l D X cI cZ cJ hs4 H.size) (mb_cwV 0 hts wd_389 wd_390 wd_391 wd_5 wd_392 rfl rfl rfl (by decide +kernel) ⟨Nat.le_trans (by decide) hR.1, Nat.le_trans (by decide) hR.2⟩) hP hS 3 rfl rfl rfl hl.1 rfl (Nat.le_of_ble_eq_true rfl) d_X_analyse_18) hS (fun H locs hP hS => ?_)
  refine lv_istore_n (lv' := [(2, .int v3), (0, .ref (X 0)), (1, .int x1)]) hx hb d_X_analyse_21 rfl hl (by decide) rfl (fun ls hl => ?_)
  refine lv_iload_n hx hb d_X_analyse_22 rfl (lv_at hl 0 rfl) ?_
  refine lv_iload_n hx hb d_X_analyse_23 rfl (lv_at hl 2 rfl) ?_
  refine lv_icmp_le hx hb d_X_analyse_24 rfl (fun hc => ?_) (fun hc => ?_)
  · have h := mb_t hc h
    refine lv_aload_n hx hb d_X_analyse_34 rfl (lv_at hl 1 rfl) ?_
    refine lv_iconst (v := (1 : Int32)) hx hb d_X_analyse_35 (by decide) ?_
    have h := mb_putF_ex h
    refine va_put (ci := 0) (v := .int (1 : Int32)) (ty := .int) (C := cnX) (T := fTX) (N := 5) hx hb hts uwX fyX fyX_ok fnX hown hK hP (hD _) hS 0 rfl rfl 4 (by decide) (hts _ wd_200) (fun _ h9 => h9) rfl (by decide +kernel) rfl rfl (Nat.le_of_ble_eq_true rfl) d_X_analyse_36 (fun H locs hP _ hS => ?_)
    have hP : va_P D vwCl (WX X cI cZ cJ (mb_setF s4 0 (1 : Int32))) H := hP
    generalize mb_setF s4 0 (1 : Int32) = s5 at hP h
    refine lv_iload_n hx hb d_X_analyse_39 rfl (lv_at hl 0 rfl) ?_
    exact mb_eI hret h d_X_analyse_40 hP hS
  · have h := mb_f hc h
    refine lv_aload_n hx hb d_X_analyse_27 rfl (lv_at hl 1 rfl) ?_
    refine lv_iconst (v := (2 : Int32)) hx hb d_X_analyse_28 (by decide) ?_
    have h := mb_putF_ex h
    refine va_put (ci := 0) (v := .int (2 : Int32)) (ty := .int) (C := cnX) (T := fTX) (N := 5) hx hb hts uwX fyX fyX_ok fnX hown hK hP (hD _) hS 0 rfl rfl 4 (by decide) (hts _ wd_200) (fun _ h9 => h9) rfl (by decide +kernel) rfl rfl (Nat.le_of_ble_eq_true rfl) d_X_analyse_29 (fun H locs hP _ hS => ?_)
    have hP : va_P D vwCl (WX X cI cZ cJ (mb_setF s4 0 (2 : Int32))) H := hP
    generalize mb_setF s4 0 (2 : Int32) = s6 at hP h
    refine lv_iconst (v := (-1 : Int32)) hx hb d_X_analyse_32 (by decide) ?_
    exact mb_eI hret h d_X_analyse_33 hP hS
set_option maxRecDepth 100000 in
set_option maxHeartbeats 4000000 in
theorem w_X_verdict (l : Launch) (D : va_G) (X : Nat → Nat) (cI cZ cJ : ClassId)  {s : mb_S} {rv : Int32} {rs : mb_S}
    (h : mX_verdict  s = some (rv, rs)) : mb_MI l y_X_verdict ws_X_verdict rm_X_verdict mb_ZX vwCl D [(cI, .int), (cZ, .boolean), (cJ, .long)] (WX X cI cZ cJ) [.ref (X 0)] s rv rs := by
  refine mb_ofI mb_ZXok (by decide) rfl (Nat.le_of_ble_eq_true rfl) mb_DXok ?_
  intro p e s0 m args below meth c Q A Cx hret
  have hR : 0 ≤ (rm_X_verdict).frames ∧ 0 ≤ (rm_X_verdict).locals := ⟨Nat.le_refl _, Nat.le_refl _⟩
  intro ls H locs hl hP hS
  have Cx0 := Cx
  obtain ⟨⟨hx, hb, hml, hown, hts⟩, hK, hD, hA, hZ⟩ := Cx0
  have hl : lv_has ls 1 [(0, .ref (X 0))] := hl
  unfold mX_verdict at h
  refine lv_aload_n hx hb d_X_verdict_0 rfl (lv_at hl 0 rfl) ?_
  refine va_get (ci := 0) (C := cnX) (T := fTX) (N := 5) hx hb hts uwX hown hK hP 0 rfl rfl 4 (by decide) (hts _ wd_200) (fun _ h9 => h9) rfl d_X_verdict_1 ?_
  exact mb_eI hret h d_X_verdict_4 hP hS
set_option maxRecDepth 100000 in
set_option maxHeartbeats 4000000 in
theorem w_X_isSource (l : Launch) (D : va_G) (X : Nat → Nat) (cI cZ cJ : ClassId) {x1 : Int32} {s : mb_S} {rv : Int32} {rs : mb_S}
    (h : mX_isSource x1 s = some (rv, rs)) : mb_MI l y_X_isSource ws_X_isSource rm_X_isSource mb_ZX vwCl D [(cI, .int), (cZ, .boolean), (cJ, .long)] (WX X cI cZ cJ) [.ref (X 0), .int x1] s rv rs := by
  refine mb_ofZ mb_ZXok (by decide) rfl (Nat.le_of_ble_eq_true rfl) mb_DXok ?_
  intro p e s0 m args below meth c Q A Cx hret
  have hR : 1 ≤ (rm_X_isSource).frames ∧ 21 ≤ (rm_X_isSource).locals := ⟨Nat.le_refl _, Nat.le_refl _⟩
  intro ls H locs hl hP hS
  have Cx0 := Cx
  obtain ⟨⟨hx, hb, hml, hown, hts⟩, hK, hD, hA, hZ⟩ := Cx0
  have hl : lv_has ls 2 [(0, .ref (X 0)), (1, .int x1)] := hl
  unfold mX_isSource at h
  refine lv_iload_n hx hb d_X_isSource_0 rfl (lv_at hl 1 rfl) ?_
  refine lv_aload_n hx hb d_X_isSource_1 rfl (lv_at hl 0 rfl) ?_
  refine va_get (ci := 0) (C := cnX) (T := fTX) (N := 5) hx hb hts uwX hown hK hP 0 rfl rfl 0 (by decide) (hts _ wd_196) (fun _ h9 => h9) rfl d_X_isSource_2 ?_
  refine va_get (ci := 1) (C := cnP) (T := fTP) (N := 12) hx hb hts uwP hown hK hP 1 rfl rfl 6 (by decide) (hts _ wd_54) (fun _ h9 => h9) rfl d_X_isSource_5 ?_
  refine lv_iconst (v := (1 : Int32)) hx hb d_X_isSource_8 (by decide) ?_
  refine mb_iald hx hb hK hP 11 0 rfl rfl h d_X_isSource_9 (fun v1 h => ?_)
  obtain ⟨v2, hv2, h⟩ := mb_cal0_ex h
  refine mb_go0I (st := s) Cx (mb_runS0 (As := [.int x1, .int v1]) (rest := []) Cx (w_X_isBelow l D hv2 H.size) (mb_cwS 2 hts wd_228 wd_221 wd_1 wd_222 rfl rfl rfl (by decide +kernel) ⟨Nat.le_trans (by decide) hR.1, Nat.le_trans (by decide) hR.2⟩) rfl hl.1 rfl (Nat.le_of_ble_eq_true rfl) d_X_isSource_10) hP hS (fun H locs hP hS => ?_)
  exact mb_eZ hret h d_X_isSource_13 hP hS
set_option maxRecDepth 100000 in
set_option maxHeartbeats 4000000 in
theorem w_X_isSink (l : Launch) (D : va_G) (X : Nat → Nat) (cI cZ cJ : ClassId) {x1 : Int32} {s : mb_S} {rv : Int32} {rs : mb_S}
    (h : mX_isSink x1 s = some (rv, rs)) : mb_MI l y_X_isSink ws_X_isSink rm_X_isSink mb_ZX vwCl D [(cI, .int), (cZ, .boolean), (cJ, .long)] (WX X cI cZ cJ) [.ref (X 0), .int x1] s rv rs := by
  refine mb_ofZ mb_ZXok (by decide) rfl (Nat.le_of_ble_eq_true rfl) mb_DXok ?_
  intro p e s0 m args below meth c Q A Cx hret
  have hR : 1 ≤ (rm_X_isSink).frames ∧ 21 ≤ (rm_X_isSink).locals := ⟨Nat.le_refl _, Nat.le_refl _⟩
  intro ls H locs hl hP hS
  have Cx0 := Cx
  obtain ⟨⟨hx, hb, hml, hown, hts⟩, hK, hD, hA, hZ⟩ := Cx0
  have hl : lv_has ls 2 [(0, .ref (X 0)), (1, .int x1)] := hl
  unfold mX_isSink at h
  refine lv_iload_n hx hb d_X_isSink_0 rfl (lv_at hl 1 rfl) ?_
  refine lv_aload_n hx hb d_X_isSink_1 rfl (lv_at hl 0 rfl) ?_
  refine va_get (ci := 0) (C := cnX) (T := fTX) (N := 5) hx hb hts uwX hown hK hP 0 rfl rfl 0 (by decide) (hts _ wd_196) (fun _ h9 => h9) rfl d_X_isSink_2 ?_
  refine va_get (ci := 1) (C := cnP) (T := fTP) (N := 12) hx hb hts uwP hown hK hP 1 rfl rfl 6 (by decide) (hts _ wd_54) (fun _ h9 => h9) rfl d_X_isSink_5 ?_
  refine lv_iconst (v := (2 : Int32)) hx hb d_X_isSink_8 (by decide) ?_
  refine mb_iald hx hb hK hP 11 0 rfl rfl h d_X_isSink_9 (fun v1 h => ?_)
  obtain ⟨v2, hv2, h⟩ := mb_cal0_ex h
  refine mb_go0I (st := s) Cx (mb_runS0 (As := [.int x1, .int v1]) (rest := []) Cx (w_X_isBelow l D hv2 H.size) (mb_cwS 2 hts wd_228 wd_221 wd_1 wd_222 rfl rfl rfl (by decide +kernel) ⟨Nat.le_trans (by decide) hR.1, Nat.le_trans (by decide) hR.2⟩) rfl hl.1 rfl (Nat.le_of_ble_eq_true rfl) d_X_isSink_10) hP hS (fun H locs hP hS => ?_)
  exact mb_eZ hret h d_X_isSink_13 hP hS
set_option maxRecDepth 100000 in
set_option maxHeartbeats 4000000 in
theorem zF_mayHold_b51 {p : Program} {l : Launch} {e : Env} {R : Room} {s0 : State} {m : MethodId} {args : Array Value} {below : List Frame} {meth : Method} {c : Code} {Q : State → Prop} {A : Nat → Prop} {D : va_G} {X : Nat → Nat} {cI cZ cJ : ClassId} {rv : Int32} {rs : mb_S}
    (Cx : mb_C p s0 m args meth c c_F_mayHold 6 lw_w cnF mb_ZX vwCl D [(cI, .int), (cZ, .boolean), (cJ, .long)] A (WX X cI cZ cJ)) (hR : 1 ≤ R.frames ∧ 21 ≤ R.locals)
    (hret : (rv = 0 ∨ rv = 1) → mb_R p l e R s0 m args below meth c Q vwCl D A (WX X cI cZ cJ) c_F_mayHold .ireturn [.int rv] rs) (k3 : Int32 → Int32 → Int32 → Int32 → Int32 → mb_S → Option (Int32 × mb_S)) (hk3 : ∀ (x1 : Int32) (x2 : Int32) (x3 : Int32) (x4 : Int32) (x5 : Int32) (s : mb_S), k3 x1 x2 x3 x4 x5 s = some (rv, rs) → mb_B p l e R s0 m args below meth c Q vwCl D A (WX X cI cZ cJ) 6 [(0, .ref (X 3)), (1, .int x1), (2, .int x2), (3, .int x3), (4, .int x4), (5, .int x5)] [] 3 s) (x1 : Int32) (x2 : Int32) (x3 : Int32) (x4 : Int32) (x5 : Int32) (s : mb_S)
    (h : mF_mayHold_b51 k3 x1 x2 x3 x4 x5 s = some (rv, rs)) : mb_B p l e R s0 m args below meth c Q vwCl D A (WX X cI cZ cJ) 6 [(0, .ref (X 3)), (1, .int x1), (2, .int x2), (3, .int x3), (4, .int x4), (5, .int x5)] [] 51 s := by
  unfold mF_mayHold_b51 at h
  intro ls H locs hl hP hS
  have Cx0 := Cx
  obtain ⟨⟨hx, hb, hml, hown, hts⟩, hK, hD, hA, hZ⟩ := Cx0
  obtain ⟨v1, ev1, h⟩ := mb_ex h
  refine lv_iinc (k := 5) (v := v1) (lv' := [(5, .int v1), (0, .ref (X 3)), (1, .int x1), (2, .int x2), (3, .int x3), (4, .int x4)]) hx hb d_F_mayHold_51 hl rfl ev1 (by decide) rfl (fun ls hl => ?_)
  refine lv_goto hx hb d_F_mayHold_54 rfl ?_
  exact hk3 x1 x2 x3 x4 v1 s h ls H locs (lv_sub hl [1, 2, 3, 4, 5, 0] rfl) hP hS
set_option maxRecDepth 100000 in
set_option maxHeartbeats 4000000 in
theorem zF_mayHold_l3 {p : Program} {l : Launch} {e : Env} {R : Room} {s0 : State} {m : MethodId} {args : Array Value} {below : List Frame} {meth : Method} {c : Code} {Q : State → Prop} {A : Nat → Prop} {D : va_G} {X : Nat → Nat} {cI cZ cJ : ClassId} {rv : Int32} {rs : mb_S}
    (Cx : mb_C p s0 m args meth c c_F_mayHold 6 lw_w cnF mb_ZX vwCl D [(cI, .int), (cZ, .boolean), (cJ, .long)] A (WX X cI cZ cJ)) (hR : 1 ≤ R.frames ∧ 21 ≤ R.locals)
    (hret : (rv = 0 ∨ rv = 1) → mb_R p l e R s0 m args below meth c Q vwCl D A (WX X cI cZ cJ) c_F_mayHold .ireturn [.int rv] rs)  :
    ∀ (n : Nat) (x1 : Int32) (x2 : Int32) (x3 : Int32) (x4 : Int32) (x5 : Int32) (s : mb_S), mF_mayHold_l3  n x1 x2 x3 x4 x5 s = some (rv, rs) → mb_B p l e R s0 m args below meth c Q vwCl D A (WX X cI cZ cJ) 6 [(0, .ref (X 3)), (1, .int x1), (2, .int x2), (3, .int x3), (4, .int x4), (5, .int x5)] [] 3 s := by
  intro n
  induction n with
  | zero => intro x1 x2 x3 x4 x5 s h; cases h
  | succ n ih =>
    intro x1 x2 x3 x4 x5 s h
    rw [mF_mayHold_l3_s] at h
    intro ls H locs hl hP hS
    have Cx0 := Cx
    obtain ⟨⟨hx, hb, hml, hown, hts⟩, hK, hD, hA, hZ⟩ := Cx0
    refine lv_iload hx hb d_F_mayHold_3 (lv_at hl 5 rfl) ?_
    refine lv_bipush (v := (20 : Int32)) hx hb d_F_mayHold_5 (by decide) ?_
    refine lv_icmp_ge hx hb d_F_mayHold_7 rfl (fun hc => ?_) (fun hc => ?_)
    · have h := mb_t hc h
      refine lv_iconst (v := (0 : Int32)) hx hb d_F_mayHold_57 (by decide) ?_
      exact mb_eZ hret h d_F_mayHold_58 hP hS
    · have h := mb_f hc h
      refine lv_aload_n hx hb d_F_mayHold_10 rfl (lv_at hl 0 rfl) ?_
      refine va_get (ci := 3) (C := cnF) (T := fTF) (N := 7) hx hb hts uwF hown hK hP 3 rfl rfl 4 (by decide) (hts _ wd_129) (fun _ h9 => h9) rfl d_F_mayHold_11 ?_
      refine lv_iload_n hx hb d_F_mayHold_14 rfl (lv_at hl 1 rfl) ?_
      refine lv_bipush (v := (20 : Int32)) hx hb d_F_mayHold_15 (by decide) ?_
      refine lv_imul hx hb d_F_mayHold_17 ?_
      refine lv_iload hx hb d_F_mayHold_18 (lv_at hl 5 rfl) ?_
      refine lv_iadd hx hb d_F_mayHold_20 ?_
      refine mb_iald hx hb hK hP 21 0 rfl rfl h d_F_mayHold_21 (fun v2 h => ?_)
      refine lv_iload hx hb d_F_mayHold_22 (lv_at hl 4 rfl) ?_
      obtain ⟨v3, hv3, h⟩ := mb_cal0_ex h
      refine mb_go0I (st := s) Cx (mb_runSN0 (As := [.int v2, .int x4]) (rest := []) Cx (w_X_has l D hv3 H.size) (mb_cn 2 hts wd_329 wd_284 wd_1 wd_285 rfl rfl rfl (by decide +kernel) ⟨Nat.le_trans (by decide) hR.1, Nat.le_trans (by decide) hR.2⟩) rfl hl.1 rfl (Nat.le_of_ble_eq_true rfl) d_F_mayHold_24) hP hS (fun H locs hP hS => ?_)
      refine lv_if_eq hx hb d_F_mayHold_27 rfl (fun hc => ?_) (fun hc => ?_)
      · have h := mb_t hc h
        exact zF_mayHold_b51 Cx hR hret (mF_mayHold_l3  n) ih x1 x2 x3 x4 x5 s h ls H locs (lv_sub hl [0, 1, 2, 3, 4, 5] rfl) hP hS
      · have h := mb_f hc h
        refine lv_aload_n hx hb d_F_mayHold_30 rfl (lv_at hl 0 rfl) ?_
        refine va_get (ci := 3) (C := cnF) (T := fTF) (N := 7) hx hb hts uwF hown hK hP 3 rfl rfl 2 (by decide) (hts _ wd_127) (fun _ h9 => h9) rfl d_F_mayHold_31 ?_
        refine lv_iload_n hx hb d_F_mayHold_34 rfl (lv_at hl 2 rfl) ?_
        refine lv_bipush (v := (20 : Int32)) hx hb d_F_mayHold_35 (by decide) ?_
        refine lv_imul hx hb d_F_mayHold_37 ?_
        refine lv_iload hx hb d_F_mayHold_38 (lv_at hl 5 rfl) ?_
        refine lv_iadd hx hb d_F_mayHold_40 ?_
        refine mb_iald hx hb hK hP 19 0 rfl rfl h d_F_mayHold_41 (fun v4 h => ?_)
        refine lv_iload_n hx hb d_F_mayHold_42 rfl (lv_at hl 3 rfl) ?_
        obtain ⟨v5, hv5, h⟩ := mb_cal0_ex h
        refine mb_go0I (st := s) Cx (mb_runSN0 (As := [.int v4, .int x3]) (rest := []) Cx (w_X_has l D hv5 H.size) (mb_cn 2 hts wd_329 wd_284 wd_1 wd_285 rfl rfl rfl (by decide +kernel) ⟨Nat.le_trans (by decide) hR.1, Nat.le_trans (by decide) hR.2⟩) rfl hl.1 rfl (Nat.le_of_ble_eq_true rfl) d_F_mayHold_43) hP hS (fun H locs hP hS => ?_)
        refine lv_if_eq hx hb d_F_mayHold_46 rfl (fun hc => ?_) (fun hc => ?_)
        · have h := mb_t hc h
          exact zF_mayHold_b51 Cx hR hret (mF_mayHold_l3  n) ih x1 x2 x3 x4 x5 s h ls H locs (lv_sub hl [0, 1, 2, 3, 4, 5] rfl) hP hS
        · have h := mb_f hc h
          refine lv_iconst (v := (1 : Int32)) hx hb d_F_mayHold_49 (by decide) ?_
          exact mb_eZ hret h d_F_mayHold_50 hP hS
set_option maxRecDepth 100000 in
set_option maxHeartbeats 4000000 in
theorem w_F_mayHold (l : Launch) (D : va_G) (X : Nat → Nat) (cI cZ cJ : ClassId) {x1 : Int32} {x2 : Int32} {x3 : Int32} {x4 : Int32} {s : mb_S} {rv : Int32} {rs : mb_S}
    (h : mF_mayHold x1 x2 x3 x4 s = some (rv, rs)) : mb_MI l y_F_mayHold ws_F_mayHold rm_F_mayHold mb_ZX vwCl D [(cI, .int), (cZ, .boolean), (cJ, .long)] (WX X cI cZ cJ) [.ref (X 3), .int x1, .int x2, .int x3, .int x4] s rv rs := by
  refine mb_ofZ mb_ZXok (by decide) rfl (Nat.le_of_ble_eq_true rfl) mb_DXok ?_
  intro p e s0 m args below meth c Q A Cx hret
  have hR : 1 ≤ (rm_F_mayHold).frames ∧ 21 ≤ (rm_F_mayHold).locals := ⟨Nat.le_refl _, Nat.le_refl _⟩
  intro ls H locs hl hP hS
  have Cx0 := Cx
  obtain ⟨⟨hx, hb, hml, hown, hts⟩, hK, hD, hA, hZ⟩ := Cx0
  have hl : lv_has ls 6 [(0, .ref (X 3)), (1, .int x1), (2, .int x2), (3, .int x3), (4, .int x4)] := hl
  unfold mF_mayHold at h
  refine lv_iconst (v := (0 : Int32)) hx hb d_F_mayHold_0 (by decide) ?_
  refine lv_istore (lv' := [(5, .int (0 : Int32)), (0, .ref (X 3)), (1, .int x1), (2, .int x2), (3, .int x3), (4, .int x4)]) hx hb d_F_mayHold_1 hl (by decide) rfl (fun ls hl => ?_)
  exact zF_mayHold_l3 Cx hR hret  mb_fuel x1 x2 x3 x4 (0 : Int32) s h ls H locs (lv_sub hl [1, 2, 3, 4, 5, 0] rfl) hP hS
set_option maxRecDepth 100000 in
set_option maxHeartbeats 4000000 in
theorem zX_finding_b24 {p : Program} {l : Launch} {e : Env} {R : Room} {s0 : State} {m : MethodId} {args : Array Value} {below : List Frame} {meth : Method} {c : Code} {Q : State → Prop} {A : Nat → Prop} {D : va_G} {X : Nat → Nat} {cI cZ cJ : ClassId} {rv : Int32} {rs : mb_S}
    (Cx : mb_C p s0 m args meth c c_X_finding 4 lw_w cnX mb_ZX vwCl D [(cI, .int), (cZ, .boolean), (cJ, .long)] A (WX X cI cZ cJ)) (hR : 2 ≤ R.frames ∧ 46 ≤ R.locals)
    (hret : (rv = 0 ∨ rv = 1) → mb_R p l e R s0 m args below meth c Q vwCl D A (WX X cI cZ cJ) c_X_finding .ireturn [.int rv] rs)   (s : mb_S)
    (h : mX_finding_b24  s = some (rv, rs)) : mb_B p l e R s0 m args below meth c Q vwCl D A (WX X cI cZ cJ) 4 [] [] 24 s := by
  unfold mX_finding_b24 at h
  intro ls H locs hl hP hS
  have Cx0 := Cx
  obtain ⟨⟨hx, hb, hml, hown, hts⟩, hK, hD, hA, hZ⟩ := Cx0
  refine lv_iconst (v := (0 : Int32)) hx hb d_X_finding_24 (by decide) ?_
  exact mb_eZ hret h d_X_finding_25 hP hS
set_option maxRecDepth 100000 in
set_option maxHeartbeats 4000000 in
theorem w_X_finding (l : Launch) (D : va_G) (X : Nat → Nat) (cI cZ cJ : ClassId) {x1 : Int32} {x2 : Int32} {s : mb_S} {rv : Int32} {rs : mb_S}
    (h : mX_finding x1 x2 s = some (rv, rs)) : mb_MI l y_X_finding ws_X_finding rm_X_finding mb_ZX vwCl D [(cI, .int), (cZ, .boolean), (cJ, .long)] (WX X cI cZ cJ) [.ref (X 0), .int x1, .int x2] s rv rs := by
  refine mb_ofZ mb_ZXok (by decide) rfl (Nat.le_of_ble_eq_true rfl) mb_DXok ?_
  intro p e s0 m args below meth c Q A Cx hret
  have hR : 2 ≤ (rm_X_finding).frames ∧ 46 ≤ (rm_X_finding).locals := ⟨Nat.le_refl _, Nat.le_refl _⟩
  intro ls H locs hl hP hS
  have Cx0 := Cx
  obtain ⟨⟨hx, hb, hml, hown, hts⟩, hK, hD, hA, hZ⟩ := Cx0
  have hl : lv_has ls 4 [(0, .ref (X 0)), (1, .int x1), (2, .int x2)] := hl
  unfold mX_finding at h
  refine lv_aload_n hx hb d_X_finding_0 rfl (lv_at hl 0 rfl) ?_
  refine va_get (ci := 0) (C := cnX) (T := fTX) (N := 5) hx hb hts uwX hown hK hP 0 rfl rfl 4 (by decide) (hts _ wd_200) (fun _ h9 => h9) rfl d_X_finding_1 ?_
  refine lv_iconst (v := (1 : Int32)) hx hb d_X_finding_4 (by decide) ?_
  refine lv_icmp_ne hx hb d_X_finding_5 rfl (fun hc => ?_) (fun hc => ?_)
  · have h := mb_f hc h
    exact zX_finding_b24 Cx hR hret  s h ls H locs (lv_sub hl [] rfl) hP hS
  · have h := mb_t hc h
    refine lv_aload_n hx hb d_X_finding_8 rfl (lv_at hl 0 rfl) ?_
    refine lv_iload_n hx hb d_X_finding_9 rfl (lv_at hl 1 rfl) ?_
    obtain ⟨v1, s2, hs2, h⟩ := mb_cal_ex h
    refine mb_goI Cx (mb_runV (As := [.int x1]) (rest := []) mb_ZXok Cx (w_X_isSource l D X cI cZ cJ hs2 H.size) (mb_cwV 1 hts wd_411 wd_413 sel_25 wd_1 wd_414 rfl rfl rfl (by decide +kernel) ⟨Nat.le_trans (by decide) hR.1, Nat.le_trans (by decide) hR.2⟩) hP hS 0 rfl rfl rfl hl.1 rfl (Nat.le_of_ble_eq_true rfl) d_X_finding_10) hS (fun H locs hP hS => ?_)
    refine lv_if_eq hx hb d_X_finding_13 rfl (fun hc => ?_) (fun hc => ?_)
    · have h := mb_t hc h
      exact zX_finding_b24 Cx hR hret  s2 h ls H locs (lv_sub hl [] rfl) hP hS
    · have h := mb_f hc h
      refine lv_aload_n hx hb d_X_finding_16 rfl (lv_at hl 0 rfl) ?_
      refine lv_iload_n hx hb d_X_finding_17 rfl (lv_at hl 2 rfl) ?_
      obtain ⟨v3, s4, hs4, h⟩ := mb_cal_ex h
      refine mb_goI Cx (mb_runV (As := [.int x2]) (rest := []) mb_ZXok Cx (w_X_isSink l D X cI cZ cJ hs4 H.size) (mb_cwV 1 hts wd_415 wd_417 sel_26 wd_1 wd_418 rfl rfl rfl (by decide +kernel) ⟨Nat.le_trans (by decide) hR.1, Nat.le_trans (by decide) hR.2⟩) hP hS 0 rfl rfl rfl hl.1 rfl (Nat.le_of_ble_eq_true rfl) d_X_finding_18) hS (fun H locs hP hS => ?_)
      refine lv_if_ne hx hb d_X_finding_21 rfl (fun hc => ?_) (fun hc => ?_)
      · have h := mb_f hc h
        refine lv_aload_n hx hb d_X_finding_26 rfl (lv_at hl 0 rfl) ?_
        refine va_get (ci := 0) (C := cnX) (T := fTX) (N := 5) hx hb hts uwX hown hK hP 0 rfl rfl 0 (by decide) (hts _ wd_196) (fun _ h9 => h9) rfl d_X_finding_27 ?_
        refine va_get (ci := 1) (C := cnP) (T := fTP) (N := 12) hx hb hts uwP hown hK hP 1 rfl rfl 8 (by decide) (hts _ wd_58) (fun _ h9 => h9) rfl d_X_finding_30 ?_
        refine lv_iload_n hx hb d_X_finding_33 rfl (lv_at hl 2 rfl) ?_
        refine mb_iald hx hb hK hP 13 0 rfl rfl h d_X_finding_34 (fun v5 h => ?_)
        refine lv_istore_n (lv' := [(3, .int v5), (0, .ref (X 0)), (1, .int x1), (2, .int x2)]) hx hb d_X_finding_35 rfl hl (by decide) rfl (fun ls hl => ?_)
        refine lv_aload_n hx hb d_X_finding_36 rfl (lv_at hl 1 rfl) ?_
        refine va_get (ci := 0) (C := cnX) (T := fTX) (N := 5) hx hb hts uwX hown hK hP 0 rfl rfl 2 (by decide) (hts _ wd_198) (fun _ h9 => h9) rfl d_X_finding_37 ?_
        refine lv_iload_n hx hb d_X_finding_40 rfl (lv_at hl 0 rfl) ?_
        refine lv_bipush (v := (13 : Int32)) hx hb d_X_finding_41 (by decide) ?_
        refine lv_idiv hx hb d_X_finding_43 (by decide) ?_
        refine lv_iload_n hx hb d_X_finding_44 rfl (lv_at hl 0 rfl) ?_
        refine lv_aload_n hx hb d_X_finding_45 rfl (lv_at hl 1 rfl) ?_
        refine va_get (ci := 0) (C := cnX) (T := fTX) (N := 5) hx hb hts uwX hown hK hP 0 rfl rfl 0 (by decide) (hts _ wd_196) (fun _ h9 => h9) rfl d_X_finding_46 ?_
        refine va_get (ci := 1) (C := cnP) (T := fTP) (N := 12) hx hb hts uwP hown hK hP 1 rfl rfl 1 (by decide) (hts _ wd_35) (fun _ h9 => h9) rfl d_X_finding_49 ?_
        refine lv_iload_n hx hb d_X_finding_52 rfl (lv_at hl 0 rfl) ?_
        refine mb_iald hx hb hK hP 6 0 rfl rfl h d_X_finding_53 (fun v6 h => ?_)
        refine lv_iload_n hx hb d_X_finding_54 rfl (lv_at hl 2 rfl) ?_
        obtain ⟨v7, s8, hs8, h⟩ := mb_cal_ex h
        refine mb_goI Cx (mb_runV (As := [.int (v5 / (13 : Int32)), .int v5, .int v6, .int x1]) (rest := []) mb_ZXok Cx (w_F_mayHold l D X cI cZ cJ hs8 H.size) (mb_cwV 4 hts wd_419 wd_420 wd_421 wd_5 wd_422 rfl rfl rfl (by decide +kernel) ⟨Nat.le_trans (by decide) hR.1, Nat.le_trans (by decide) hR.2⟩) hP hS 3 rfl rfl rfl hl.1 rfl (Nat.le_of_ble_eq_true rfl) d_X_finding_55) hS (fun H locs hP hS => ?_)
        exact mb_eZ hret h d_X_finding_58 hP hS
      · have h := mb_t hc h
        exact zX_finding_b24 Cx hR hret  s4 h ls H locs (lv_sub hl [] rfl) hP hS
set_option maxRecDepth 100000 in
set_option maxHeartbeats 4000000 in
theorem zX_may_b55 {p : Program} {l : Launch} {e : Env} {R : Room} {s0 : State} {m : MethodId} {args : Array Value} {below : List Frame} {meth : Method} {c : Code} {Q : State → Prop} {A : Nat → Prop} {D : va_G} {X : Nat → Nat} {cI cZ cJ : ClassId} {rv : Int32} {rs : mb_S}
    (Cx : mb_C p s0 m args meth c c_X_may 5 lw_w cnX mb_ZX vwCl D [(cI, .int), (cZ, .boolean), (cJ, .long)] A (WX X cI cZ cJ)) (hR : 2 ≤ R.frames ∧ 46 ≤ R.locals)
    (hret : (rv = 0 ∨ rv = 1) → mb_R p l e R s0 m args below meth c Q vwCl D A (WX X cI cZ cJ) c_X_may .ireturn [.int rv] rs)   (s : mb_S)
    (h : mX_may_b55  s = some (rv, rs)) : mb_B p l e R s0 m args below meth c Q vwCl D A (WX X cI cZ cJ) 5 [] [] 55 s := by
  unfold mX_may_b55 at h
  intro ls H locs hl hP hS
  have Cx0 := Cx
  obtain ⟨⟨hx, hb, hml, hown, hts⟩, hK, hD, hA, hZ⟩ := Cx0
  refine lv_iconst (v := (0 : Int32)) hx hb d_X_may_55 (by decide) ?_
  exact mb_eZ hret h d_X_may_56 hP hS
set_option maxRecDepth 100000 in
set_option maxHeartbeats 4000000 in
theorem zX_may_b26 {p : Program} {l : Launch} {e : Env} {R : Room} {s0 : State} {m : MethodId} {args : Array Value} {below : List Frame} {meth : Method} {c : Code} {Q : State → Prop} {A : Nat → Prop} {D : va_G} {X : Nat → Nat} {cI cZ cJ : ClassId} {rv : Int32} {rs : mb_S}
    (Cx : mb_C p s0 m args meth c c_X_may 5 lw_w cnX mb_ZX vwCl D [(cI, .int), (cZ, .boolean), (cJ, .long)] A (WX X cI cZ cJ)) (hR : 2 ≤ R.frames ∧ 46 ≤ R.locals)
    (hret : (rv = 0 ∨ rv = 1) → mb_R p l e R s0 m args below meth c Q vwCl D A (WX X cI cZ cJ) c_X_may .ireturn [.int rv] rs)   (s : mb_S)
    (h : mX_may_b26  s = some (rv, rs)) : mb_B p l e R s0 m args below meth c Q vwCl D A (WX X cI cZ cJ) 5 [] [] 26 s := by
  unfold mX_may_b26 at h
  intro ls H locs hl hP hS
  have Cx0 := Cx
  obtain ⟨⟨hx, hb, hml, hown, hts⟩, hK, hD, hA, hZ⟩ := Cx0
  refine lv_iconst (v := (0 : Int32)) hx hb d_X_may_26 (by decide) ?_
  exact mb_eZ hret h d_X_may_27 hP hS
set_option maxRecDepth 100000 in
set_option maxHeartbeats 4000000 in
theorem w_X_may (l : Launch) (D : va_G) (X : Nat → Nat) (cI cZ cJ : ClassId) {x1 : Int32} {x2 : Int32} {x3 : Int32} {x4 : Int32} {s : mb_S} {rv : Int32} {rs : mb_S}
    (h : mX_may x1 x2 x3 x4 s = some (rv, rs)) : mb_MI l y_X_may ws_X_may rm_X_may mb_ZX vwCl D [(cI, .int), (cZ, .boolean), (cJ, .long)] (WX X cI cZ cJ) [.ref (X 0), .int x1, .int x2, .int x3, .int x4] s rv rs := by
  refine mb_ofZ mb_ZXok (by decide) rfl (Nat.le_of_ble_eq_true rfl) mb_DXok ?_
  intro p e s0 m args below meth c Q A Cx hret
  have hR : 2 ≤ (rm_X_may).frames ∧ 46 ≤ (rm_X_may).locals := ⟨Nat.le_refl _, Nat.le_refl _⟩
  intro ls H locs hl hP hS
  have Cx0 := Cx
  obtain ⟨⟨hx, hb, hml, hown, hts⟩, hK, hD, hA, hZ⟩ := Cx0
  have hl : lv_has ls 5 [(0, .ref (X 0)), (1, .int x1), (2, .int x2), (3, .int x3), (4, .int x4)] := hl
  unfold mX_may at h
  refine lv_aload_n hx hb d_X_may_0 rfl (lv_at hl 0 rfl) ?_
  refine va_get (ci := 0) (C := cnX) (T := fTX) (N := 5) hx hb hts uwX hown hK hP 0 rfl rfl 4 (by decide) (hts _ wd_200) (fun _ h9 => h9) rfl d_X_may_1 ?_
  refine lv_iconst (v := (1 : Int32)) hx hb d_X_may_4 (by decide) ?_
  refine lv_icmp_ne hx hb d_X_may_5 rfl (fun hc => ?_) (fun hc => ?_)
  · have h := mb_f hc h
    exact zX_may_b26 Cx hR hret  s h ls H locs (lv_sub hl [] rfl) hP hS
  · have h := mb_t hc h
    refine lv_iload_n hx hb d_X_may_8 rfl (lv_at hl 1 rfl) ?_
    refine lv_bipush (v := (6 : Int32)) hx hb d_X_may_9 (by decide) ?_
    obtain ⟨v1, hv1, h⟩ := mb_cal0_ex h
    refine mb_go0I (st := s) Cx (mb_runS0 (As := [.int x1, .int (6 : Int32)]) (rest := []) Cx (w_X_isBelow l D hv1 H.size) (mb_cwS 2 hts wd_228 wd_221 wd_1 wd_222 rfl rfl rfl (by decide +kernel) ⟨Nat.le_trans (by decide) hR.1, Nat.le_trans (by decide) hR.2⟩) rfl hl.1 rfl (Nat.le_of_ble_eq_true rfl) d_X_may_11) hP hS (fun H locs hP hS => ?_)
    refine lv_if_eq hx hb d_X_may_14 rfl (fun hc => ?_) (fun hc => ?_)
    · have h := mb_t hc h
      exact zX_may_b26 Cx hR hret  s h ls H locs (lv_sub hl [] rfl) hP hS
    · have h := mb_f hc h
      refine lv_aload_n hx hb d_X_may_17 rfl (lv_at hl 0 rfl) ?_
      refine lv_iload hx hb d_X_may_18 (lv_at hl 4 rfl) ?_
      obtain ⟨v2, s3, hs3, h⟩ := mb_cal_ex h
      refine mb_goI Cx (mb_runV (As := [.int x4]) (rest := []) mb_ZXok Cx (w_X_isSource l D X cI cZ cJ hs3 H.size) (mb_cwV 1 hts wd_411 wd_413 sel_25 wd_1 wd_414 rfl rfl rfl (by decide +kernel) ⟨Nat.le_trans (by decide) hR.1, Nat.le_trans (by decide) hR.2⟩) hP hS 0 rfl rfl rfl hl.1 rfl (Nat.le_of_ble_eq_true rfl) d_X_may_20) hS (fun H locs hP hS => ?_)
      refine lv_if_ne hx hb d_X_may_23 rfl (fun hc => ?_) (fun hc => ?_)
      · have h := mb_f hc h
        refine lv_iload_n hx hb d_X_may_28 rfl (lv_at hl 2 rfl) ?_
        refine lv_aload_n hx hb d_X_may_29 rfl (lv_at hl 0 rfl) ?_
        refine va_get (ci := 0) (C := cnX) (T := fTX) (N := 5) hx hb hts uwX hown hK hP 0 rfl rfl 0 (by decide) (hts _ wd_196) (fun _ h9 => h9) rfl d_X_may_30 ?_
        refine va_get (ci := 1) (C := cnP) (T := fTP) (N := 12) hx hb hts uwP hown hK hP 1 rfl rfl 5 (by decide) (hts _ wd_49) (fun _ h9 => h9) rfl d_X_may_33 ?_
        refine lv_iload_n hx hb d_X_may_36 rfl (lv_at hl 1 rfl) ?_
        refine mb_iald hx hb hK hP 10 0 rfl rfl h d_X_may_37 (fun v4 h => ?_)
        refine lv_iconst (v := (1 : Int32)) hx hb d_X_may_38 (by decide) ?_
        refine lv_iadd hx hb d_X_may_39 ?_
        obtain ⟨v5, hv5, h⟩ := mb_cal0_ex h
        refine mb_go0I (st := s3) Cx (mb_runS0 (As := [.int x2, .int (v4 + (1 : Int32))]) (rest := []) Cx (w_X_isBelow l D hv5 H.size) (mb_cwS 2 hts wd_228 wd_221 wd_1 wd_222 rfl rfl rfl (by decide +kernel) ⟨Nat.le_trans (by decide) hR.1, Nat.le_trans (by decide) hR.2⟩) rfl hl.1 rfl (Nat.le_of_ble_eq_true rfl) d_X_may_40) hP hS (fun H locs hP hS => ?_)
        refine lv_if_eq hx hb d_X_may_43 rfl (fun hc => ?_) (fun hc => ?_)
        · have h := mb_t hc h
          exact zX_may_b55 Cx hR hret  s3 h ls H locs (lv_sub hl [] rfl) hP hS
        · have h := mb_f hc h
          refine lv_iload_n hx hb d_X_may_46 rfl (lv_at hl 3 rfl) ?_
          refine lv_bipush (v := (16 : Int32)) hx hb d_X_may_47 (by decide) ?_
          obtain ⟨v6, hv6, h⟩ := mb_cal0_ex h
          refine mb_go0I (st := s3) Cx (mb_runS0 (As := [.int x3, .int (16 : Int32)]) (rest := []) Cx (w_X_isBelow l D hv6 H.size) (mb_cwS 2 hts wd_228 wd_221 wd_1 wd_222 rfl rfl rfl (by decide +kernel) ⟨Nat.le_trans (by decide) hR.1, Nat.le_trans (by decide) hR.2⟩) rfl hl.1 rfl (Nat.le_of_ble_eq_true rfl) d_X_may_49) hP hS (fun H locs hP hS => ?_)
          refine lv_if_ne hx hb d_X_may_52 rfl (fun hc => ?_) (fun hc => ?_)
          · have h := mb_f hc h
            refine lv_aload_n hx hb d_X_may_57 rfl (lv_at hl 0 rfl) ?_
            refine va_get (ci := 0) (C := cnX) (T := fTX) (N := 5) hx hb hts uwX hown hK hP 0 rfl rfl 2 (by decide) (hts _ wd_198) (fun _ h9 => h9) rfl d_X_may_58 ?_
            refine lv_iload_n hx hb d_X_may_61 rfl (lv_at hl 1 rfl) ?_
            refine lv_iload_n hx hb d_X_may_62 rfl (lv_at hl 1 rfl) ?_
            refine lv_bipush (v := (13 : Int32)) hx hb d_X_may_63 (by decide) ?_
            refine lv_imul hx hb d_X_may_65 ?_
            refine lv_iload_n hx hb d_X_may_66 rfl (lv_at hl 2 rfl) ?_
            refine lv_iadd hx hb d_X_may_67 ?_
            refine lv_iload_n hx hb d_X_may_68 rfl (lv_at hl 3 rfl) ?_
            refine lv_iload hx hb d_X_may_69 (lv_at hl 4 rfl) ?_
            obtain ⟨v7, s8, hs8, h⟩ := mb_cal_ex h
            refine mb_goI Cx (mb_runV (As := [.int x1, .int ((x1 * (13 : Int32)) + x2), .int x3, .int x4]) (rest := []) mb_ZXok Cx (w_F_mayHold l D X cI cZ cJ hs8 H.size) (mb_cwV 4 hts wd_419 wd_420 wd_421 wd_5 wd_422 rfl rfl rfl (by decide +kernel) ⟨Nat.le_trans (by decide) hR.1, Nat.le_trans (by decide) hR.2⟩) hP hS 3 rfl rfl rfl hl.1 rfl (Nat.le_of_ble_eq_true rfl) d_X_may_71) hS (fun H locs hP hS => ?_)
            exact mb_eZ hret h d_X_may_74 hP hS
          · have h := mb_t hc h
            exact zX_may_b55 Cx hR hret  s3 h ls H locs (lv_sub hl [] rfl) hP hS
      · have h := mb_t hc h
        exact zX_may_b26 Cx hR hret  s3 h ls H locs (lv_sub hl [] rfl) hP hS
set_option maxRecDepth 100000 in
set_option maxHeartbeats 4000000 in
theorem zF_countEntries_l11 {p : Program} {l : Launch} {e : Env} {R : Room} {s0 : State} {m : MethodId} {args : Array Value} {below : List Frame} {meth : Method} {c : Code} {Q : State → Prop} {A : Nat → Prop} {D : va_G} {X : Nat → Nat} {cI cZ cJ : ClassId} {rv : Int32} {rs : mb_S}
    (Cx : mb_C p s0 m args meth c c_F_countEntries 4 lw_w cnF mb_ZX vwCl D [(cI, .int), (cZ, .boolean), (cJ, .long)] A (WX X cI cZ cJ)) (hR : 1 ≤ R.frames ∧ 20 ≤ R.locals)
    (hret : mb_R p l e R s0 m args below meth c Q vwCl D A (WX X cI cZ cJ) c_F_countEntries .ireturn [.int rv] rs)  :
    ∀ (n : Nat) (x1 : Int32) (x2 : Int32) (x3 : Int32) (s : mb_S), mF_countEntries_l11  n x1 x2 x3 s = some (rv, rs) → mb_B p l e R s0 m args below meth c Q vwCl D A (WX X cI cZ cJ) 4 [(0, .ref (X 3)), (1, .int x1), (2, .int x2), (3, .int x3)] [] 11 s := by
  intro n
  induction n with
  | zero => intro x1 x2 x3 s h; cases h
  | succ n ih =>
    intro x1 x2 x3 s h
    rw [mF_countEntries_l11_s] at h
    intro ls H locs hl hP hS
    have Cx0 := Cx
    obtain ⟨⟨hx, hb, hml, hown, hts⟩, hK, hD, hA, hZ⟩ := Cx0
    refine lv_iload_n hx hb d_F_countEntries_11 rfl (lv_at hl 3 rfl) ?_
    refine lv_bipush (v := (16 : Int32)) hx hb d_F_countEntries_12 (by decide) ?_
    refine lv_icmp_ge hx hb d_F_countEntries_14 rfl (fun hc => ?_) (fun hc => ?_)
    · have h := mb_t hc h
      refine lv_iload_n hx hb d_F_countEntries_40 rfl (lv_at hl 2 rfl) ?_
      exact mb_eI hret h d_F_countEntries_41 hP hS
    · have h := mb_f hc h
      refine lv_iload_n hx hb d_F_countEntries_17 rfl (lv_at hl 2 rfl) ?_
      refine lv_aload_n hx hb d_F_countEntries_18 rfl (lv_at hl 0 rfl) ?_
      refine va_get (ci := 3) (C := cnF) (T := fTF) (N := 7) hx hb hts uwF hown hK hP 3 rfl rfl 4 (by decide) (hts _ wd_129) (fun _ h9 => h9) rfl d_F_countEntries_19 ?_
      refine lv_iload_n hx hb d_F_countEntries_22 rfl (lv_at hl 1 rfl) ?_
      refine lv_bipush (v := (20 : Int32)) hx hb d_F_countEntries_23 (by decide) ?_
      refine lv_imul hx hb d_F_countEntries_25 ?_
      refine lv_iload_n hx hb d_F_countEntries_26 rfl (lv_at hl 3 rfl) ?_
      refine lv_iadd hx hb d_F_countEntries_27 ?_
      refine mb_iald hx hb hK hP 21 0 rfl rfl h d_F_countEntries_28 (fun v1 h => ?_)
      obtain ⟨v2, hv2, h⟩ := mb_cal0_ex h
      refine mb_go0I (st := s) Cx (mb_runS0 (As := [.int v1]) (rest := [.int x2]) Cx (w_J_bitCount l D hv2 H.size) (mb_cwS 1 hts wd_393 wd_394 wd_9 wd_395 rfl rfl rfl (by decide +kernel) ⟨Nat.le_trans (by decide) hR.1, Nat.le_trans (by decide) hR.2⟩) rfl hl.1 rfl (Nat.le_of_ble_eq_true rfl) d_F_countEntries_29) hP hS (fun H locs hP hS => ?_)
      refine lv_iadd hx hb d_F_countEntries_32 ?_
      refine lv_topi (fun v3 ev3 => ?_)
      have h := mb_at ev3 h
      refine lv_istore_n (lv' := [(2, .int v3), (0, .ref (X 3)), (1, .int x1), (3, .int x3)]) hx hb d_F_countEntries_33 rfl hl (by decide) rfl (fun ls hl => ?_)
      obtain ⟨v4, ev4, h⟩ := mb_ex h
      refine lv_iinc (k := 3) (v := v4) (lv' := [(3, .int v4), (2, .int v3), (0, .ref (X 3)), (1, .int x1)]) hx hb d_F_countEntries_34 hl rfl ev4 (by decide) rfl (fun ls hl => ?_)
      refine lv_goto hx hb d_F_countEntries_37 rfl ?_
      exact ih x1 v3 v4 s h ls H locs (lv_sub hl [2, 3, 1, 0] rfl) hP hS
set_option maxRecDepth 100000 in
set_option maxHeartbeats 4000000 in
theorem w_F_countEntries (l : Launch) (D : va_G) (X : Nat → Nat) (cI cZ cJ : ClassId) {x1 : Int32} {s : mb_S} {rv : Int32} {rs : mb_S}
    (h : mF_countEntries x1 s = some (rv, rs)) : mb_MI l y_F_countEntries ws_F_countEntries rm_F_countEntries mb_ZX vwCl D [(cI, .int), (cZ, .boolean), (cJ, .long)] (WX X cI cZ cJ) [.ref (X 3), .int x1] s rv rs := by
  refine mb_ofI mb_ZXok (by decide) rfl (Nat.le_of_ble_eq_true rfl) mb_DXok ?_
  intro p e s0 m args below meth c Q A Cx hret
  have hR : 1 ≤ (rm_F_countEntries).frames ∧ 20 ≤ (rm_F_countEntries).locals := ⟨Nat.le_refl _, Nat.le_refl _⟩
  intro ls H locs hl hP hS
  have Cx0 := Cx
  obtain ⟨⟨hx, hb, hml, hown, hts⟩, hK, hD, hA, hZ⟩ := Cx0
  have hl : lv_has ls 4 [(0, .ref (X 3)), (1, .int x1)] := hl
  unfold mF_countEntries at h
  refine lv_aload_n hx hb d_F_countEntries_0 rfl (lv_at hl 0 rfl) ?_
  refine va_get (ci := 3) (C := cnF) (T := fTF) (N := 7) hx hb hts uwF hown hK hP 3 rfl rfl 5 (by decide) (hts _ wd_130) (fun _ h9 => h9) rfl d_F_countEntries_1 ?_
  refine lv_iload_n hx hb d_F_countEntries_4 rfl (lv_at hl 1 rfl) ?_
  refine mb_iald hx hb hK hP 22 0 rfl rfl h d_F_countEntries_5 (fun v5 h => ?_)
  refine lv_iconst (v := (1 : Int32)) hx hb d_F_countEntries_6 (by decide) ?_
  refine lv_iand hx hb d_F_countEntries_7 ?_
  refine lv_topi (fun v6 ev6 => ?_)
  have h := mb_at ev6 h
  refine lv_istore_n (lv' := [(2, .int v6), (0, .ref (X 3)), (1, .int x1)]) hx hb d_F_countEntries_8 rfl hl (by decide) rfl (fun ls hl => ?_)
  refine lv_iconst (v := (0 : Int32)) hx hb d_F_countEntries_9 (by decide) ?_
  refine lv_istore_n (lv' := [(3, .int (0 : Int32)), (2, .int v6), (0, .ref (X 3)), (1, .int x1)]) hx hb d_F_countEntries_10 rfl hl (by decide) rfl (fun ls hl => ?_)
  exact zF_countEntries_l11 Cx hR hret  mb_fuel x1 v6 (0 : Int32) s h ls H locs (lv_sub hl [2, 3, 1, 0] rfl) hP hS
