set_option maxRecDepth 100000 in
set_option maxHeartbeats 4000000 in
theorem zF_exitsOfAll_b36 {p : Program} {l : Launch} {e : Env} {R : Room} {s0 : State} {m : MethodId} {args : Array Value} {below : List Frame} {meth : Method} {c : Code} {Q : State → Prop} {A : Nat → Prop} {D : va_G} {X : Nat → Nat} {cI cZ cJ : ClassId} {rv : Int32} {rs : mb_S}
    (Cx : mb_C p s0 m args meth c c_F_exitsOfAll 5 lw_w cnF mb_ZX vwCl D [(cI, .int), (cZ, .boolean), (cJ, .long)] A (WX X cI cZ cJ)) (hR : 1 ≤ R.frames ∧ 21 ≤ R.locals)
    (hret : mb_R p l e R s0 m args below meth c Q vwCl D A (WX X cI cZ cJ) c_F_exitsOfAll .ireturn [.int rv] rs) (k5 : Int32 → Int32 → Int32 → Int32 → mb_S → Option (Int32 × mb_S)) (hk5 : ∀ (x1 : Int32) (x2 : Int32) (x3 : Int32) (x4 : Int32) (s : mb_S), k5 x1 x2 x3 x4 s = some (rv, rs) → mb_B p l e R s0 m args below meth c Q vwCl D A (WX X cI cZ cJ) 5 [(0, .ref (X 3)), (1, .int x1), (2, .int x2), (3, .int x3), (4, .int x4)] [] 5 s) (x1 : Int32) (x2 : Int32) (x3 : Int32) (x4 : Int32) (s : mb_S)
    (h : mF_exitsOfAll_b36 k5 x1 x2 x3 x4 s = some (rv, rs)) : mb_B p l e R s0 m args below meth c Q vwCl D A (WX X cI cZ cJ) 5 [(0, .ref (X 3)), (1, .int x1), (2, .int x2), (3, .int x3), (4, .int x4)] [] 36 s := by
  unfold mF_exitsOfAll_b36 at h
  intro ls H locs hl hP hS
  have Cx0 := Cx
  obtain ⟨⟨hx, hb, hml, hown, hts⟩, hK, hD, hA, hZ⟩ := Cx0
  obtain ⟨v1, ev1, h⟩ := mb_ex h
  refine lv_iinc (k := 4) (v := v1) (lv' := [(4, .int v1), (0, .ref (X 3)), (1, .int x1), (2, .int x2), (3, .int x3)]) hx hb d_F_exitsOfAll_36 hl rfl ev1 (by decide) rfl (fun ls hl => ?_)
  refine lv_goto hx hb d_F_exitsOfAll_39 rfl ?_
  exact hk5 x1 x2 x3 v1 s h ls H locs (lv_sub hl [1, 2, 3, 4, 0] rfl) hP hS
set_option maxRecDepth 100000 in
set_option maxHeartbeats 4000000 in
theorem zF_exitsOfAll_l5 {p : Program} {l : Launch} {e : Env} {R : Room} {s0 : State} {m : MethodId} {args : Array Value} {below : List Frame} {meth : Method} {c : Code} {Q : State → Prop} {A : Nat → Prop} {D : va_G} {X : Nat → Nat} {cI cZ cJ : ClassId} {rv : Int32} {rs : mb_S}
    (Cx : mb_C p s0 m args meth c c_F_exitsOfAll 5 lw_w cnF mb_ZX vwCl D [(cI, .int), (cZ, .boolean), (cJ, .long)] A (WX X cI cZ cJ)) (hR : 1 ≤ R.frames ∧ 21 ≤ R.locals)
    (hret : mb_R p l e R s0 m args below meth c Q vwCl D A (WX X cI cZ cJ) c_F_exitsOfAll .ireturn [.int rv] rs)  :
    ∀ (n : Nat) (x1 : Int32) (x2 : Int32) (x3 : Int32) (x4 : Int32) (s : mb_S), mF_exitsOfAll_l5  n x1 x2 x3 x4 s = some (rv, rs) → mb_B p l e R s0 m args below meth c Q vwCl D A (WX X cI cZ cJ) 5 [(0, .ref (X 3)), (1, .int x1), (2, .int x2), (3, .int x3), (4, .int x4)] [] 5 s := by
  intro n
  induction n with
  | zero => intro x1 x2 x3 x4 s h; cases h
  | succ n ih =>
    intro x1 x2 x3 x4 s h
    rw [mF_exitsOfAll_l5_s] at h
    intro ls H locs hl hP hS
    have Cx0 := Cx
    obtain ⟨⟨hx, hb, hml, hown, hts⟩, hK, hD, hA, hZ⟩ := Cx0
    refine lv_iload hx hb d_F_exitsOfAll_5 (lv_at hl 4 rfl) ?_
    refine lv_bipush (v := (16 : Int32)) hx hb d_F_exitsOfAll_7 (by decide) ?_
    refine lv_icmp_ge hx hb d_F_exitsOfAll_9 rfl (fun hc => ?_) (fun hc => ?_)
    · have h := mb_t hc h
      refine lv_iload_n hx hb d_F_exitsOfAll_42 rfl (lv_at hl 3 rfl) ?_
      exact mb_eI hret h d_F_exitsOfAll_43 hP hS
    · have h := mb_f hc h
      refine lv_iload_n hx hb d_F_exitsOfAll_12 rfl (lv_at hl 2 rfl) ?_
      refine lv_iload hx hb d_F_exitsOfAll_13 (lv_at hl 4 rfl) ?_
      obtain ⟨v2, hv2, h⟩ := mb_cal0_ex h
      refine mb_go0I (st := s) Cx (mb_runSN0 (As := [.int x2, .int x4]) (rest := []) Cx (w_X_has l D hv2 H.size) (mb_cn 2 hts wd_329 wd_284 wd_1 wd_285 rfl rfl rfl (by decide +kernel) ⟨Nat.le_trans (by decide) hR.1, Nat.le_trans (by decide) hR.2⟩) rfl hl.1 rfl (Nat.le_of_ble_eq_true rfl) d_F_exitsOfAll_15) hP hS (fun H locs hP hS => ?_)
      refine lv_if_eq hx hb d_F_exitsOfAll_18 rfl (fun hc => ?_) (fun hc => ?_)
      · have h := mb_t hc h
        exact zF_exitsOfAll_b36 Cx hR hret (mF_exitsOfAll_l5  n) ih x1 x2 x3 x4 s h ls H locs (lv_sub hl [0, 1, 2, 3, 4] rfl) hP hS
      · have h := mb_f hc h
        refine lv_iload_n hx hb d_F_exitsOfAll_21 rfl (lv_at hl 3 rfl) ?_
        refine lv_aload_n hx hb d_F_exitsOfAll_22 rfl (lv_at hl 0 rfl) ?_
        refine va_get (ci := 3) (C := cnF) (T := fTF) (N := 7) hx hb hts uwF hown hK hP 3 rfl rfl 3 (by decide) (hts _ wd_128) (fun _ h9 => h9) rfl d_F_exitsOfAll_23 ?_
        refine lv_iload_n hx hb d_F_exitsOfAll_26 rfl (lv_at hl 1 rfl) ?_
        refine lv_bipush (v := (20 : Int32)) hx hb d_F_exitsOfAll_27 (by decide) ?_
        refine lv_imul hx hb d_F_exitsOfAll_29 ?_
        refine lv_iload hx hb d_F_exitsOfAll_30 (lv_at hl 4 rfl) ?_
        refine lv_iadd hx hb d_F_exitsOfAll_32 ?_
        refine mb_iald hx hb hK hP 20 0 rfl rfl h d_F_exitsOfAll_33 (fun v3 h => ?_)
        refine lv_ior hx hb d_F_exitsOfAll_34 ?_
        refine lv_topi (fun v4 ev4 => ?_)
        have h := mb_at ev4 h
        refine lv_istore_n (lv' := [(3, .int v4), (0, .ref (X 3)), (1, .int x1), (2, .int x2), (4, .int x4)]) hx hb d_F_exitsOfAll_35 rfl hl (by decide) rfl (fun ls hl => ?_)
        exact zF_exitsOfAll_b36 Cx hR hret (mF_exitsOfAll_l5  n) ih x1 x2 v4 x4 s h ls H locs (lv_sub hl [1, 2, 3, 0, 4] rfl) hP hS
set_option maxRecDepth 100000 in
set_option maxHeartbeats 4000000 in
theorem w_F_exitsOfAll (l : Launch) (D : va_G) (X : Nat → Nat) (cI cZ cJ : ClassId) {x1 : Int32} {x2 : Int32} {s : mb_S} {rv : Int32} {rs : mb_S}
    (h : mF_exitsOfAll x1 x2 s = some (rv, rs)) : mb_MI l y_F_exitsOfAll ws_F_exitsOfAll rm_F_exitsOfAll mb_ZX vwCl D [(cI, .int), (cZ, .boolean), (cJ, .long)] (WX X cI cZ cJ) [.ref (X 3), .int x1, .int x2] s rv rs := by
  refine mb_ofI mb_ZXok (by decide) rfl (Nat.le_of_ble_eq_true rfl) mb_DXok ?_
  intro p e s0 m args below meth c Q A Cx hret
  have hR : 1 ≤ (rm_F_exitsOfAll).frames ∧ 21 ≤ (rm_F_exitsOfAll).locals := ⟨Nat.le_refl _, Nat.le_refl _⟩
  intro ls H locs hl hP hS
  have Cx0 := Cx
  obtain ⟨⟨hx, hb, hml, hown, hts⟩, hK, hD, hA, hZ⟩ := Cx0
  have hl : lv_has ls 5 [(0, .ref (X 3)), (1, .int x1), (2, .int x2)] := hl
  unfold mF_exitsOfAll at h
  refine lv_iconst (v := (0 : Int32)) hx hb d_F_exitsOfAll_0 (by decide) ?_
  refine lv_istore_n (lv' := [(3, .int (0 : Int32)), (0, .ref (X 3)), (1, .int x1), (2, .int x2)]) hx hb d_F_exitsOfAll_1 rfl hl (by decide) rfl (fun ls hl => ?_)
  refine lv_iconst (v := (0 : Int32)) hx hb d_F_exitsOfAll_2 (by decide) ?_
  refine lv_istore (lv' := [(4, .int (0 : Int32)), (3, .int (0 : Int32)), (0, .ref (X 3)), (1, .int x1), (2, .int x2)]) hx hb d_F_exitsOfAll_3 hl (by decide) rfl (fun ls hl => ?_)
  exact zF_exitsOfAll_l5 Cx hR hret  mb_fuel x1 x2 (0 : Int32) (0 : Int32) s h ls H locs (lv_sub hl [2, 3, 4, 1, 0] rfl) hP hS
set_option maxRecDepth 100000 in
set_option maxHeartbeats 4000000 in
theorem zF_call_b142 {p : Program} {l : Launch} {e : Env} {R : Room} {s0 : State} {m : MethodId} {args : Array Value} {below : List Frame} {meth : Method} {c : Code} {Q : State → Prop} {A : Nat → Prop} {D : va_G} {X : Nat → Nat} {cI cZ cJ : ClassId} {rv : Unit} {rs : mb_S}
    (Cx : mb_C p s0 m args meth c c_F_call 7 lw_w cnF mb_ZX vwCl D [(cI, .int), (cZ, .boolean), (cJ, .long)] A (WX X cI cZ cJ)) (hR : 2 ≤ R.frames ∧ 48 ≤ R.locals)
    (hret : mb_R p l e R s0 m args below meth c Q vwCl D A (WX X cI cZ cJ) c_F_call .return_ [] rs) (k85 : Int32 → Int32 → Int32 → Int32 → Int32 → mb_S → Option (Unit × mb_S)) (hk85 : ∀ (x1 : Int32) (x2 : Int32) (x3 : Int32) (x5 : Int32) (x6 : Int32) (s : mb_S), k85 x1 x2 x3 x5 x6 s = some (rv, rs) → mb_B p l e R s0 m args below meth c Q vwCl D A (WX X cI cZ cJ) 7 [(0, .ref (X 3)), (1, .int x1), (2, .int x2), (3, .int x3), (5, .int x5), (6, .int x6)] [] 85 s) (x1 : Int32) (x2 : Int32) (x3 : Int32) (x5 : Int32) (x6 : Int32) (s : mb_S)
    (h : mF_call_b142 k85 x1 x2 x3 x5 x6 s = some (rv, rs)) : mb_B p l e R s0 m args below meth c Q vwCl D A (WX X cI cZ cJ) 7 [(0, .ref (X 3)), (1, .int x1), (2, .int x2), (3, .int x3), (5, .int x5), (6, .int x6)] [] 142 s := by
  unfold mF_call_b142 at h
  intro ls H locs hl hP hS
  have Cx0 := Cx
  obtain ⟨⟨hx, hb, hml, hown, hts⟩, hK, hD, hA, hZ⟩ := Cx0
  obtain ⟨v1, ev1, h⟩ := mb_ex h
  refine lv_iinc (k := 5) (v := v1) (lv' := [(6, .int v1), (0, .ref (X 3)), (1, .int x1), (2, .int x2), (3, .int x3), (5, .int x5)]) hx hb d_F_call_142 hl rfl ev1 (by decide) rfl (fun ls hl => ?_)
  refine lv_goto hx hb d_F_call_145 rfl ?_
  exact hk85 x1 x2 x3 x5 v1 s h ls H locs (lv_sub hl [1, 2, 3, 4, 5, 0] rfl) hP hS
set_option maxRecDepth 100000 in
set_option maxHeartbeats 4000000 in
theorem zF_call_l85 {p : Program} {l : Launch} {e : Env} {R : Room} {s0 : State} {m : MethodId} {args : Array Value} {below : List Frame} {meth : Method} {c : Code} {Q : State → Prop} {A : Nat → Prop} {D : va_G} {X : Nat → Nat} {cI cZ cJ : ClassId} {rv : Unit} {rs : mb_S}
    (Cx : mb_C p s0 m args meth c c_F_call 7 lw_w cnF mb_ZX vwCl D [(cI, .int), (cZ, .boolean), (cJ, .long)] A (WX X cI cZ cJ)) (hR : 2 ≤ R.frames ∧ 48 ≤ R.locals)
    (hret : mb_R p l e R s0 m args below meth c Q vwCl D A (WX X cI cZ cJ) c_F_call .return_ [] rs)  :
    ∀ (n : Nat) (x1 : Int32) (x2 : Int32) (x3 : Int32) (x5 : Int32) (x6 : Int32) (s : mb_S), mF_call_l85  n x1 x2 x3 x5 x6 s = some (rv, rs) → mb_B p l e R s0 m args below meth c Q vwCl D A (WX X cI cZ cJ) 7 [(0, .ref (X 3)), (1, .int x1), (2, .int x2), (3, .int x3), (5, .int x5), (6, .int x6)] [] 85 s := by
  intro n
  induction n with
  | zero => intro x1 x2 x3 x5 x6 s h; cases h
  | succ n ih =>
    intro x1 x2 x3 x5 x6 s h
    rw [mF_call_l85_s] at h
    intro ls H locs hl hP hS
    have Cx0 := Cx
    obtain ⟨⟨hx, hb, hml, hown, hts⟩, hK, hD, hA, hZ⟩ := Cx0
    refine lv_iload hx hb d_F_call_85 (lv_at hl 5 rfl) ?_
    refine lv_bipush (v := (6 : Int32)) hx hb d_F_call_87 (by decide) ?_
    refine lv_icmp_ge hx hb d_F_call_89 rfl (fun hc => ?_) (fun hc => ?_)
    · have h := mb_t hc h
      exact mb_eV hret h d_F_call_148 hP hS
    · have h := mb_f hc h
      refine lv_aload_n hx hb d_F_call_92 rfl (lv_at hl 0 rfl) ?_
      refine va_get (ci := 3) (C := cnF) (T := fTF) (N := 7) hx hb hts uwF hown hK hP 3 rfl rfl 1 (by decide) (hts _ wd_126) (fun _ h9 => h9) rfl d_F_call_93 ?_
      refine va_get (ci := 2) (C := cnQ) (T := fTQ) (N := 6) hx hb hts uwQ hown hK hP 2 rfl rfl 3 (by decide) (hts _ wd_103) (fun _ h9 => h9) rfl d_F_call_96 ?_
      refine lv_iload_n hx hb d_F_call_99 rfl (lv_at hl 2 rfl) ?_
      refine mb_iald hx hb hK hP 18 0 rfl rfl h d_F_call_100 (fun v2 h => ?_)
      refine lv_iload hx hb d_F_call_101 (lv_at hl 5 rfl) ?_
      obtain ⟨v3, hv3, h⟩ := mb_cal0_ex h
      refine mb_go0I (st := s) Cx (mb_runSN0 (As := [.int v2, .int x6]) (rest := []) Cx (w_X_has l D hv3 H.size) (mb_cn 2 hts wd_329 wd_284 wd_1 wd_285 rfl rfl rfl (by decide +kernel) ⟨Nat.le_trans (by decide) hR.1, Nat.le_trans (by decide) hR.2⟩) rfl hl.1 rfl (Nat.le_of_ble_eq_true rfl) d_F_call_103) hP hS (fun H locs hP hS => ?_)
      refine lv_if_eq hx hb d_F_call_106 rfl (fun hc => ?_) (fun hc => ?_)
      · have h := mb_t hc h
        exact zF_call_b142 Cx hR hret (mF_call_l85  n) ih x1 x2 x3 x5 x6 s h ls H locs (lv_sub hl [0, 1, 2, 3, 4, 5] rfl) hP hS
      · have h := mb_f hc h
        refine lv_aload_n hx hb d_F_call_109 rfl (lv_at hl 0 rfl) ?_
        refine lv_iload hx hb d_F_call_110 (lv_at hl 5 rfl) ?_
        refine lv_iload hx hb d_F_call_112 (lv_at hl 4 rfl) ?_
        refine lv_aload_n hx hb d_F_call_114 rfl (lv_at hl 0 rfl) ?_
        refine va_get (ci := 3) (C := cnF) (T := fTF) (N := 7) hx hb hts uwF hown hK hP 3 rfl rfl 4 (by decide) (hts _ wd_129) (fun _ h9 => h9) rfl d_F_call_115 ?_
        refine lv_iload_n hx hb d_F_call_118 rfl (lv_at hl 1 rfl) ?_
        refine lv_bipush (v := (20 : Int32)) hx hb d_F_call_119 (by decide) ?_
        refine lv_imul hx hb d_F_call_121 ?_
        refine lv_iload_n hx hb d_F_call_122 rfl (lv_at hl 3 rfl) ?_
        refine lv_iadd hx hb d_F_call_123 ?_
        refine mb_iald hx hb hK hP 21 0 rfl rfl h d_F_call_124 (fun v4 h => ?_)
        obtain ⟨_u, s5, hs5, h⟩ := mb_cal_ex h
        refine mb_goV Cx (mb_runV (As := [.int x6, .int x5, .int v4]) (rest := []) mb_ZXok Cx (w_F_enter l D X cI cZ cJ hs5 H.size) (mb_cwV 3 hts wd_366 wd_368 sel_19 wd_5 wd_369 rfl rfl rfl (by decide +kernel) ⟨Nat.le_trans (by decide) hR.1, Nat.le_trans (by decide) hR.2⟩) hP hS 3 rfl rfl rfl hl.1 rfl (Nat.le_of_ble_eq_true rfl) d_F_call_125) hS (fun H locs hP hS => ?_)
        refine lv_aload_n hx hb d_F_call_128 rfl (lv_at hl 0 rfl) ?_
        refine lv_iload_n hx hb d_F_call_129 rfl (lv_at hl 2 rfl) ?_
        refine lv_iload_n hx hb d_F_call_130 rfl (lv_at hl 3 rfl) ?_
        refine lv_aload_n hx hb d_F_call_131 rfl (lv_at hl 0 rfl) ?_
        refine lv_iload hx hb d_F_call_132 (lv_at hl 5 rfl) ?_
        refine lv_iload hx hb d_F_call_134 (lv_at hl 4 rfl) ?_
        obtain ⟨v6, s7, hs7, h⟩ := mb_cal_ex h
        refine mb_goI Cx (mb_runV (As := [.int x6, .int x5]) (rest := [.int x3, .int x2, .ref (X 3)]) mb_ZXok Cx (w_F_exitsOfAll l D X cI cZ cJ hs7 H.size) (mb_cwV 2 hts wd_370 wd_372 sel_20 wd_5 wd_373 rfl rfl rfl (by decide +kernel) ⟨Nat.le_trans (by decide) hR.1, Nat.le_trans (by decide) hR.2⟩) hP hS 3 rfl rfl rfl hl.1 rfl (Nat.le_of_ble_eq_true rfl) d_F_call_136) hS (fun H locs hP hS => ?_)
        obtain ⟨_u, s8, hs8, h⟩ := mb_cal_ex h
        refine mb_goV Cx (mb_runV (As := [.int x2, .int x3, .int v6]) (rest := []) mb_ZXok Cx (w_F_comeBack l D X cI cZ cJ hs8 H.size) (mb_cwV 3 hts wd_353 wd_355 sel_16 wd_5 wd_356 rfl rfl rfl (by decide +kernel) ⟨Nat.le_trans (by decide) hR.1, Nat.le_trans (by decide) hR.2⟩) hP hS 3 rfl rfl rfl hl.1 rfl (Nat.le_of_ble_eq_true rfl) d_F_call_139) hS (fun H locs hP hS => ?_)
        exact zF_call_b142 Cx hR hret (mF_call_l85  n) ih x1 x2 x3 x5 x6 s8 h ls H locs (lv_sub hl [0, 1, 2, 3, 4, 5] rfl) hP hS
set_option maxRecDepth 100000 in
set_option maxHeartbeats 4000000 in
theorem zF_call_b82 {p : Program} {l : Launch} {e : Env} {R : Room} {s0 : State} {m : MethodId} {args : Array Value} {below : List Frame} {meth : Method} {c : Code} {Q : State → Prop} {A : Nat → Prop} {D : va_G} {X : Nat → Nat} {cI cZ cJ : ClassId} {rv : Unit} {rs : mb_S}
    (Cx : mb_C p s0 m args meth c c_F_call 7 lw_w cnF mb_ZX vwCl D [(cI, .int), (cZ, .boolean), (cJ, .long)] A (WX X cI cZ cJ)) (hR : 2 ≤ R.frames ∧ 48 ≤ R.locals)
    (hret : mb_R p l e R s0 m args below meth c Q vwCl D A (WX X cI cZ cJ) c_F_call .return_ [] rs)  (x1 : Int32) (x2 : Int32) (x3 : Int32) (x5 : Int32) (s : mb_S)
    (h : mF_call_b82  x1 x2 x3 x5 s = some (rv, rs)) : mb_B p l e R s0 m args below meth c Q vwCl D A (WX X cI cZ cJ) 7 [(0, .ref (X 3)), (1, .int x1), (2, .int x2), (3, .int x3), (5, .int x5)] [] 82 s := by
  unfold mF_call_b82 at h
  intro ls H locs hl hP hS
  have Cx0 := Cx
  obtain ⟨⟨hx, hb, hml, hown, hts⟩, hK, hD, hA, hZ⟩ := Cx0
  refine lv_iconst (v := (0 : Int32)) hx hb d_F_call_82 (by decide) ?_
  refine lv_istore (lv' := [(6, .int (0 : Int32)), (0, .ref (X 3)), (1, .int x1), (2, .int x2), (3, .int x3), (5, .int x5)]) hx hb d_F_call_83 hl (by decide) rfl (fun ls hl => ?_)
  exact zF_call_l85 Cx hR hret  mb_fuel x1 x2 x3 x5 (0 : Int32) s h ls H locs (lv_sub hl [1, 2, 3, 4, 5, 0] rfl) hP hS
set_option maxRecDepth 100000 in
set_option maxHeartbeats 4000000 in
theorem zF_call_b57 {p : Program} {l : Launch} {e : Env} {R : Room} {s0 : State} {m : MethodId} {args : Array Value} {below : List Frame} {meth : Method} {c : Code} {Q : State → Prop} {A : Nat → Prop} {D : va_G} {X : Nat → Nat} {cI cZ cJ : ClassId} {rv : Unit} {rs : mb_S}
    (Cx : mb_C p s0 m args meth c c_F_call 7 lw_w cnF mb_ZX vwCl D [(cI, .int), (cZ, .boolean), (cJ, .long)] A (WX X cI cZ cJ)) (hR : 2 ≤ R.frames ∧ 48 ≤ R.locals)
    (hret : mb_R p l e R s0 m args below meth c Q vwCl D A (WX X cI cZ cJ) c_F_call .return_ [] rs)  (x1 : Int32) (x2 : Int32) (x3 : Int32) (x4 : Int32) (x5 : Int32) (s : mb_S)
    (h : mF_call_b57  x1 x2 x3 x4 x5 s = some (rv, rs)) : mb_B p l e R s0 m args below meth c Q vwCl D A (WX X cI cZ cJ) 7 [(0, .ref (X 3)), (1, .int x1), (2, .int x2), (3, .int x3), (4, .int x4), (5, .int x5)] [] 57 s := by
  unfold mF_call_b57 at h
  intro ls H locs hl hP hS
  have Cx0 := Cx
  obtain ⟨⟨hx, hb, hml, hown, hts⟩, hK, hD, hA, hZ⟩ := Cx0
  refine lv_iload hx hb d_F_call_57 (lv_at hl 4 rfl) ?_
  refine lv_aload_n hx hb d_F_call_59 rfl (lv_at hl 0 rfl) ?_
  refine va_get (ci := 3) (C := cnF) (T := fTF) (N := 7) hx hb hts uwF hown hK hP 3 rfl rfl 0 (by decide) (hts _ wd_125) (fun _ h9 => h9) rfl d_F_call_60 ?_
  refine va_get (ci := 1) (C := cnP) (T := fTP) (N := 12) hx hb hts uwP hown hK hP 1 rfl rfl 3 (by decide) (hts _ wd_42) (fun _ h9 => h9) rfl d_F_call_63 ?_
  refine lv_iload_n hx hb d_F_call_66 rfl (lv_at hl 2 rfl) ?_
  refine mb_iald hx hb hK hP 8 0 rfl rfl h d_F_call_67 (fun v9 h => ?_)
  refine lv_iconst (v := (4 : Int32)) hx hb d_F_call_68 (by decide) ?_
  refine lv_irem hx hb d_F_call_69 (by decide) ?_
  obtain ⟨v10, hv10, h⟩ := mb_cal0_ex h
  refine mb_go0I (st := s) Cx (mb_runSN0 (As := [.int x4, .int (v9 - v9 / (4 : Int32) * (4 : Int32))]) (rest := []) Cx (w_X_has l D hv10 H.size) (mb_cn 2 hts wd_329 wd_284 wd_1 wd_285 rfl rfl rfl (by decide +kernel) ⟨Nat.le_trans (by decide) hR.1, Nat.le_trans (by decide) hR.2⟩) rfl hl.1 rfl (Nat.le_of_ble_eq_true rfl) d_F_call_70) hP hS (fun H locs hP hS => ?_)
  refine lv_if_eq hx hb d_F_call_73 rfl (fun hc => ?_) (fun hc => ?_)
  · have h := mb_t hc h
    exact zF_call_b82 Cx hR hret  x1 x2 x3 x5 s h ls H locs (lv_sub hl [0, 1, 2, 3, 5] rfl) hP hS
  · have h := mb_f hc h
    refine lv_iload hx hb d_F_call_76 (lv_at hl 5 rfl) ?_
    refine lv_iconst (v := (2 : Int32)) hx hb d_F_call_78 (by decide) ?_
    refine lv_ior hx hb d_F_call_79 ?_
    refine lv_topi (fun v11 ev11 => ?_)
    have h := mb_at ev11 h
    refine lv_istore (lv' := [(5, .int v11), (0, .ref (X 3)), (1, .int x1), (2, .int x2), (3, .int x3), (4, .int x4)]) hx hb d_F_call_80 hl (by decide) rfl (fun ls hl => ?_)
    exact zF_call_b82 Cx hR hret  x1 x2 x3 v11 s h ls H locs (lv_sub hl [1, 2, 3, 4, 0] rfl) hP hS
set_option maxRecDepth 100000 in
set_option maxHeartbeats 4000000 in
theorem w_F_call (l : Launch) (D : va_G) (X : Nat → Nat) (cI cZ cJ : ClassId) {x1 : Int32} {x2 : Int32} {x3 : Int32} {x4 : Int32} {s : mb_S} {rv : Unit} {rs : mb_S}
    (h : mF_call x1 x2 x3 x4 s = some (rv, rs)) : mb_MV l y_F_call ws_F_call rm_F_call mb_ZX vwCl D [(cI, .int), (cZ, .boolean), (cJ, .long)] (WX X cI cZ cJ) [.ref (X 3), .int x1, .int x2, .int x3, .int x4] s rs := by
  refine mb_ofV mb_ZXok (by decide) rfl (Nat.le_of_ble_eq_true rfl) mb_DXok ?_
  intro p e s0 m args below meth c Q A Cx hret
  have hR : 2 ≤ (rm_F_call).frames ∧ 48 ≤ (rm_F_call).locals := ⟨Nat.le_refl _, Nat.le_refl _⟩
  intro ls H locs hl hP hS
  have Cx0 := Cx
  obtain ⟨⟨hx, hb, hml, hown, hts⟩, hK, hD, hA, hZ⟩ := Cx0
  have hl : lv_has ls 7 [(0, .ref (X 3)), (1, .int x1), (2, .int x2), (3, .int x3), (4, .int x4)] := hl
  unfold mF_call at h
  refine lv_aload_n hx hb d_F_call_0 rfl (lv_at hl 0 rfl) ?_
  refine lv_iload_n hx hb d_F_call_1 rfl (lv_at hl 2 rfl) ?_
  refine lv_iconst (v := (1 : Int32)) hx hb d_F_call_2 (by decide) ?_
  refine lv_iadd hx hb d_F_call_3 ?_
  refine lv_iload_n hx hb d_F_call_4 rfl (lv_at hl 3 rfl) ?_
  refine lv_iload hx hb d_F_call_5 (lv_at hl 4 rfl) ?_
  refine lv_bipush (v := (15 : Int32)) hx hb d_F_call_7 (by decide) ?_
  refine lv_iand hx hb d_F_call_9 ?_
  refine lv_iconst (v := (1 : Int32)) hx hb d_F_call_10 (by decide) ?_
  refine lv_aload_n hx hb d_F_call_11 rfl (lv_at hl 0 rfl) ?_
  refine va_get (ci := 3) (C := cnF) (T := fTF) (N := 7) hx hb hts uwF hown hK hP 3 rfl rfl 0 (by decide) (hts _ wd_125) (fun _ h9 => h9) rfl d_F_call_12 ?_
  refine va_get (ci := 1) (C := cnP) (T := fTP) (N := 12) hx hb hts uwP hown hK hP 1 rfl rfl 1 (by decide) (hts _ wd_33) (fun _ h9 => h9) rfl d_F_call_15 ?_
  refine lv_iload_n hx hb d_F_call_18 rfl (lv_at hl 2 rfl) ?_
  refine mb_iald hx hb hK hP 6 0 rfl rfl h d_F_call_19 (fun v12 h => ?_)
  refine lv_ishl hx hb d_F_call_20 ?_
  refine lv_iconst (v := (-1 : Int32)) hx hb d_F_call_21 (by decide) ?_
  refine lv_ixor hx hb d_F_call_22 ?_
  refine lv_iand hx hb d_F_call_23 ?_
  obtain ⟨_u, s13, hs13, h⟩ := mb_cal_ex h
  refine mb_goV Cx (mb_runV (As := [.int (x2 + (1 : Int32)), .int x3, .int ((x4 &&& (15 : Int32)) &&& (((1 : Int32) <<< (v12 &&& 31)) ^^^ (-1 : Int32)))]) (rest := []) mb_ZXok Cx (w_F_growHeld l D X cI cZ cJ hs13 H.size) (mb_cwV 3 hts wd_345 wd_347 sel_14 wd_5 wd_348 rfl rfl rfl (by decide +kernel) ⟨Nat.le_trans (by decide) hR.1, Nat.le_trans (by decide) hR.2⟩) hP hS 3 rfl rfl rfl hl.1 rfl (Nat.le_of_ble_eq_true rfl) d_F_call_24) hS (fun H locs hP hS => ?_)
  refine lv_iload hx hb d_F_call_27 (lv_at hl 4 rfl) ?_
  refine lv_ldc (v := (65520 : Int32)) hx hb hown (hts _ wd_357) d_F_call_29 ?_
  refine lv_iand hx hb d_F_call_31 ?_
  refine lv_topi (fun v14 ev14 => ?_)
  have h := mb_at ev14 h
  refine lv_istore (lv' := [(5, .int v14), (0, .ref (X 3)), (1, .int x1), (2, .int x2), (3, .int x3), (4, .int x4)]) hx hb d_F_call_32 hl (by decide) rfl (fun ls hl => ?_)
  refine lv_iload hx hb d_F_call_34 (lv_at hl 5 rfl) ?_
  refine lv_aload_n hx hb d_F_call_36 rfl (lv_at hl 1 rfl) ?_
  refine va_get (ci := 3) (C := cnF) (T := fTF) (N := 7) hx hb hts uwF hown hK hP 3 rfl rfl 0 (by decide) (hts _ wd_125) (fun _ h9 => h9) rfl d_F_call_37 ?_
  refine va_get (ci := 1) (C := cnP) (T := fTP) (N := 12) hx hb hts uwP hown hK hP 1 rfl rfl 2 (by decide) (hts _ wd_39) (fun _ h9 => h9) rfl d_F_call_40 ?_
  refine lv_iload_n hx hb d_F_call_43 rfl (lv_at hl 3 rfl) ?_
  refine mb_iald hx hb hK hP 7 0 rfl rfl h d_F_call_44 (fun v15 h => ?_)
  obtain ⟨v16, hv16, h⟩ := mb_cal0_ex h
  refine mb_go0I (st := s13) Cx (mb_runSN0 (As := [.int x4, .int v15]) (rest := []) Cx (w_X_has l D hv16 H.size) (mb_cn 2 hts wd_329 wd_284 wd_1 wd_285 rfl rfl rfl (by decide +kernel) ⟨Nat.le_trans (by decide) hR.1, Nat.le_trans (by decide) hR.2⟩) rfl hl.1 rfl (Nat.le_of_ble_eq_true rfl) d_F_call_45) hP hS (fun H locs hP hS => ?_)
  refine lv_if_eq hx hb d_F_call_48 rfl (fun hc => ?_) (fun hc => ?_)
  · have h := mb_t hc h
    exact zF_call_b57 Cx hR hret  x1 x2 x3 x4 v14 s13 h ls H locs (lv_sub hl [1, 2, 3, 4, 5, 0] rfl) hP hS
  · have h := mb_f hc h
    refine lv_iload hx hb d_F_call_51 (lv_at hl 0 rfl) ?_
    refine lv_iconst (v := (1 : Int32)) hx hb d_F_call_53 (by decide) ?_
    refine lv_ior hx hb d_F_call_54 ?_
    refine lv_topi (fun v17 ev17 => ?_)
    have h := mb_at ev17 h
    refine lv_istore (lv' := [(5, .int v17), (0, .ref (X 3)), (1, .int x1), (2, .int x2), (3, .int x3), (4, .int x4)]) hx hb d_F_call_55 hl (by decide) rfl (fun ls hl => ?_)
    exact zF_call_b57 Cx hR hret  x1 x2 x3 x4 v17 s13 h ls H locs (lv_sub hl [1, 2, 3, 4, 5, 0] rfl) hP hS
set_option maxRecDepth 100000 in
set_option maxHeartbeats 4000000 in
theorem zF_growExit_b38 {p : Program} {l : Launch} {e : Env} {R : Room} {s0 : State} {m : MethodId} {args : Array Value} {below : List Frame} {meth : Method} {c : Code} {Q : State → Prop} {A : Nat → Prop} {D : va_G} {X : Nat → Nat} {cI cZ cJ : ClassId} {rv : Unit} {rs : mb_S}
    (Cx : mb_C p s0 m args meth c c_F_growExit 5 lw_w cnF mb_ZX vwCl D [(cI, .int), (cZ, .boolean), (cJ, .long)] A (WX X cI cZ cJ)) (hR : 0 ≤ R.frames ∧ 0 ≤ R.locals)
    (hret : mb_R p l e R s0 m args below meth c Q vwCl D A (WX X cI cZ cJ) c_F_growExit .return_ [] rs)   (s : mb_S)
    (h : mF_growExit_b38  s = some (rv, rs)) : mb_B p l e R s0 m args below meth c Q vwCl D A (WX X cI cZ cJ) 5 [] [] 38 s := by
  unfold mF_growExit_b38 at h
  intro ls H locs hl hP hS
  have Cx0 := Cx
  obtain ⟨⟨hx, hb, hml, hown, hts⟩, hK, hD, hA, hZ⟩ := Cx0
  exact mb_eV hret h d_F_growExit_38 hP hS
set_option maxRecDepth 100000 in
set_option maxHeartbeats 4000000 in
theorem w_F_growExit (l : Launch) (D : va_G) (X : Nat → Nat) (cI cZ cJ : ClassId) {x1 : Int32} {x2 : Int32} {x3 : Int32} {s : mb_S} {rv : Unit} {rs : mb_S}
    (h : mF_growExit x1 x2 x3 s = some (rv, rs)) : mb_MV l y_F_growExit ws_F_growExit rm_F_growExit mb_ZX vwCl D [(cI, .int), (cZ, .boolean), (cJ, .long)] (WX X cI cZ cJ) [.ref (X 3), .int x1, .int x2, .int x3] s rs := by
  refine mb_ofV mb_ZXok (by decide) rfl (Nat.le_of_ble_eq_true rfl) mb_DXok ?_
  intro p e s0 m args below meth c Q A Cx hret
  have hR : 0 ≤ (rm_F_growExit).frames ∧ 0 ≤ (rm_F_growExit).locals := ⟨Nat.le_refl _, Nat.le_refl _⟩
  intro ls H locs hl hP hS
  have Cx0 := Cx
  obtain ⟨⟨hx, hb, hml, hown, hts⟩, hK, hD, hA, hZ⟩ := Cx0
  have hl : lv_has ls 5 [(0, .ref (X 3)), (1, .int x1), (2, .int x2), (3, .int x3)] := hl
  unfold mF_growExit at h
  refine lv_iload_n hx hb d_F_growExit_0 rfl (lv_at hl 1 rfl) ?_
  refine lv_bipush (v := (20 : Int32)) hx hb d_F_growExit_1 (by decide) ?_
  refine lv_imul hx hb d_F_growExit_3 ?_
  refine lv_iload_n hx hb d_F_growExit_4 rfl (lv_at hl 2 rfl) ?_
  refine lv_iadd hx hb d_F_growExit_5 ?_
  refine lv_topi (fun v1 ev1 => ?_)
  have h := mb_at ev1 h
  refine lv_istore (lv' := [(4, .int v1), (0, .ref (X 3)), (1, .int x1), (2, .int x2), (3, .int x3)]) hx hb d_F_growExit_6 hl (by decide) rfl (fun ls hl => ?_)
  refine lv_iload_n hx hb d_F_growExit_8 rfl (lv_at hl 4 rfl) ?_
  refine lv_aload_n hx hb d_F_growExit_9 rfl (lv_at hl 1 rfl) ?_
  refine va_get (ci := 3) (C := cnF) (T := fTF) (N := 7) hx hb hts uwF hown hK hP 3 rfl rfl 3 (by decide) (hts _ wd_128) (fun _ h9 => h9) rfl d_F_growExit_10 ?_
  refine lv_iload hx hb d_F_growExit_13 (lv_at hl 0 rfl) ?_
  refine mb_iald hx hb hK hP 20 0 rfl rfl h d_F_growExit_15 (fun v2 h => ?_)
  refine lv_iconst (v := (-1 : Int32)) hx hb d_F_growExit_16 (by decide) ?_
  refine lv_ixor hx hb d_F_growExit_17 ?_
  refine lv_iand hx hb d_F_growExit_18 ?_
  refine lv_if_eq hx hb d_F_growExit_19 rfl (fun hc => ?_) (fun hc => ?_)
  · have h := mb_t hc h
    exact zF_growExit_b38 Cx hR hret  s h ls H locs (lv_sub hl [] rfl) hP hS
  · have h := mb_f hc h
    refine lv_aload_n hx hb d_F_growExit_22 rfl (lv_at hl 1 rfl) ?_
    refine va_get (ci := 3) (C := cnF) (T := fTF) (N := 7) hx hb hts uwF hown hK hP 3 rfl rfl 3 (by decide) (hts _ wd_128) (fun _ h9 => h9) rfl d_F_growExit_23 ?_
    refine lv_iload hx hb d_F_growExit_26 (lv_at hl 0 rfl) ?_
    refine lv_dup2_11 hx hb d_F_growExit_28 rfl rfl ?_
    refine mb_iald hx hb hK hP 20 0 rfl rfl h d_F_growExit_29 (fun v3 h => ?_)
    refine lv_iload_n hx hb d_F_growExit_30 rfl (lv_at hl 4 rfl) ?_
    refine lv_ior hx hb d_F_growExit_31 ?_
    refine mb_iast (WS := WX X cI cZ cJ) hx hb hK hP hD hS 20 0 rfl rfl h d_F_growExit_32 rfl (fun H locs s4 hP hS h => ?_)
    refine lv_aload_n hx hb d_F_growExit_33 rfl (lv_at hl 1 rfl) ?_
    refine lv_iconst (v := (1 : Int32)) hx hb d_F_growExit_34 (by decide) ?_
    obtain ⟨hzs5, h⟩ := mb_putZ_ex h
    refine va_put (ci := 3) (v := .int (1 : Int32)) (ty := .boolean) (C := cnF) (T := fTF) (N := 7) hx hb hts uwF fyF fyF_ok fnF hown hK hP (hD _) hS 3 rfl rfl 6 (by decide) (hts _ wd_131) (fun _ h9 => h9) rfl (by decide +kernel) (mb_narZ hzs5) (mb_fitZ hzs5) (Nat.le_of_ble_eq_true rfl) d_F_growExit_35 (fun H locs hP _ hS => ?_)
    have hP : va_P D vwCl (WX X cI cZ cJ (mb_setF s4 4 (1 : Int32))) H := hP
    generalize mb_setF s4 4 (1 : Int32) = s5 at hP h
    exact zF_growExit_b38 Cx hR hret  s5 h ls H locs (lv_sub hl [] rfl) hP hS
set_option maxRecDepth 100000 in
set_option maxHeartbeats 4000000 in
theorem zF_fieldsOf_b30 {p : Program} {l : Launch} {e : Env} {R : Room} {s0 : State} {m : MethodId} {args : Array Value} {below : List Frame} {meth : Method} {c : Code} {Q : State → Prop} {A : Nat → Prop} {D : va_G} {rv : Int32}
    (Cx : mb_C p s0 m args meth c c_F_fieldsOf 4 lw_w cnF (fun _ _ => True) vwCl D [] A (fun _ => [])) (hR : 1 ≤ R.frames ∧ 21 ≤ R.locals)
    (hret : mb_R p l e R s0 m args below meth c Q vwCl D A (fun _ => []) c_F_fieldsOf .ireturn [.int rv] mb_0) (k4 : Int32 → Int32 → Int32 → Int32 → Option Int32) (hk4 : ∀ (x0 : Int32) (x1 : Int32) (x2 : Int32) (x3 : Int32), k4 x0 x1 x2 x3 = some rv → mb_B p l e R s0 m args below meth c Q vwCl D A (fun _ => []) 4 [(0, .int x0), (1, .int x1), (2, .int x2), (3, .int x3)] [] 4 mb_0) (x0 : Int32) (x1 : Int32) (x2 : Int32) (x3 : Int32)
    (h : mF_fieldsOf_b30 k4 x0 x1 x2 x3 = some rv) : mb_B p l e R s0 m args below meth c Q vwCl D A (fun _ => []) 4 [(0, .int x0), (1, .int x1), (2, .int x2), (3, .int x3)] [] 30 mb_0 := by
  unfold mF_fieldsOf_b30 at h
  intro ls H locs hl hP hS
  have Cx0 := Cx
  obtain ⟨⟨hx, hb, hml, hown, hts⟩, hK, hD, hA, hZ⟩ := Cx0
  obtain ⟨v1, ev1, h⟩ := mb_ex h
  refine lv_iinc (k := 3) (v := v1) (lv' := [(3, .int v1), (0, .int x0), (1, .int x1), (2, .int x2)]) hx hb d_F_fieldsOf_30 hl rfl ev1 (by decide) rfl (fun ls hl => ?_)
  refine lv_goto hx hb d_F_fieldsOf_33 rfl ?_
  exact hk4 x0 x1 x2 v1 h ls H locs (lv_sub hl [1, 2, 3, 0] rfl) hP hS
set_option maxRecDepth 100000 in
set_option maxHeartbeats 4000000 in
theorem zF_fieldsOf_l4 {p : Program} {l : Launch} {e : Env} {R : Room} {s0 : State} {m : MethodId} {args : Array Value} {below : List Frame} {meth : Method} {c : Code} {Q : State → Prop} {A : Nat → Prop} {D : va_G} {rv : Int32}
    (Cx : mb_C p s0 m args meth c c_F_fieldsOf 4 lw_w cnF (fun _ _ => True) vwCl D [] A (fun _ => [])) (hR : 1 ≤ R.frames ∧ 21 ≤ R.locals)
    (hret : mb_R p l e R s0 m args below meth c Q vwCl D A (fun _ => []) c_F_fieldsOf .ireturn [.int rv] mb_0)  :
    ∀ (n : Nat) (x0 : Int32) (x1 : Int32) (x2 : Int32) (x3 : Int32), mF_fieldsOf_l4  n x0 x1 x2 x3 = some rv → mb_B p l e R s0 m args below meth c Q vwCl D A (fun _ => []) 4 [(0, .int x0), (1, .int x1), (2, .int x2), (3, .int x3)] [] 4 mb_0 := by
  intro n
  induction n with
  | zero => intro x0 x1 x2 x3 h; cases h
  | succ n ih =>
    intro x0 x1 x2 x3 h
    rw [mF_fieldsOf_l4_s] at h
    intro ls H locs hl hP hS
    have Cx0 := Cx
    obtain ⟨⟨hx, hb, hml, hown, hts⟩, hK, hD, hA, hZ⟩ := Cx0
    refine lv_iload_n hx hb d_F_fieldsOf_4 rfl (lv_at hl 3 rfl) ?_
    refine lv_bipush (v := (6 : Int32)) hx hb d_F_fieldsOf_5 (by decide) ?_
    refine lv_icmp_ge hx hb d_F_fieldsOf_7 rfl (fun hc => ?_) (fun hc => ?_)
    · have h := mb_t hc h
      refine lv_iload_n hx hb d_F_fieldsOf_36 rfl (lv_at hl 2 rfl) ?_
      exact mb_eI0 hret h d_F_fieldsOf_37 hP hS
    · have h := mb_f hc h
      refine lv_iload_n hx hb d_F_fieldsOf_10 rfl (lv_at hl 0 rfl) ?_
      refine lv_iload_n hx hb d_F_fieldsOf_11 rfl (lv_at hl 3 rfl) ?_
      obtain ⟨v2, hv2, h⟩ := mb_cal0_ex h
      refine mb_go0I (st := mb_0) Cx (mb_runSN0 (As := [.int x0, .int x3]) (rest := []) Cx (w_X_has l D hv2 H.size) (mb_cn 2 hts wd_329 wd_284 wd_1 wd_285 rfl rfl rfl (by decide +kernel) ⟨Nat.le_trans (by decide) hR.1, Nat.le_trans (by decide) hR.2⟩) rfl hl.1 rfl (Nat.le_of_ble_eq_true rfl) d_F_fieldsOf_12) hP hS (fun H locs hP hS => ?_)
      refine lv_if_eq hx hb d_F_fieldsOf_15 rfl (fun hc => ?_) (fun hc => ?_)
      · have h := mb_t hc h
        exact zF_fieldsOf_b30 Cx hR hret (mF_fieldsOf_l4  n) ih x0 x1 x2 x3 h ls H locs (lv_sub hl [0, 1, 2, 3] rfl) hP hS
      · have h := mb_f hc h
        refine lv_iload_n hx hb d_F_fieldsOf_18 rfl (lv_at hl 2 rfl) ?_
        refine lv_iconst (v := (1 : Int32)) hx hb d_F_fieldsOf_19 (by decide) ?_
        refine lv_iconst (v := (4 : Int32)) hx hb d_F_fieldsOf_20 (by decide) ?_
        refine lv_iload_n hx hb d_F_fieldsOf_21 rfl (lv_at hl 3 rfl) ?_
        refine lv_iconst (v := (2 : Int32)) hx hb d_F_fieldsOf_22 (by decide) ?_
        refine lv_imul hx hb d_F_fieldsOf_23 ?_
        refine lv_iadd hx hb d_F_fieldsOf_24 ?_
        refine lv_iload_n hx hb d_F_fieldsOf_25 rfl (lv_at hl 1 rfl) ?_
        refine lv_iadd hx hb d_F_fieldsOf_26 ?_
        refine lv_ishl hx hb d_F_fieldsOf_27 ?_
        refine lv_ior hx hb d_F_fieldsOf_28 ?_
        refine lv_topi (fun v3 ev3 => ?_)
        have h := mb_at ev3 h
        refine lv_istore_n (lv' := [(2, .int v3), (0, .int x0), (1, .int x1), (3, .int x3)]) hx hb d_F_fieldsOf_29 rfl hl (by decide) rfl (fun ls hl => ?_)
        exact zF_fieldsOf_b30 Cx hR hret (mF_fieldsOf_l4  n) ih x0 x1 v3 x3 h ls H locs (lv_sub hl [1, 2, 0, 3] rfl) hP hS
set_option maxRecDepth 100000 in
set_option maxHeartbeats 4000000 in
theorem w_F_fieldsOf (l : Launch) (D : va_G) {x0 : Int32} {x1 : Int32} {rv : Int32}
    (h : mF_fieldsOf x0 x1 = some rv) : mb_MI l y_F_fieldsOf ws_F_fieldsOf rm_F_fieldsOf (fun _ _ => True) vwCl D [] (fun _ => []) [.int x0, .int x1] mb_0 rv mb_0 := by
  refine mb_ofI mb_Z0ok (by decide) rfl (Nat.le_of_ble_eq_true rfl) mb_D0ok ?_
  intro p e s0 m args below meth c Q A Cx hret
  have hR : 1 ≤ (rm_F_fieldsOf).frames ∧ 21 ≤ (rm_F_fieldsOf).locals := ⟨Nat.le_refl _, Nat.le_refl _⟩
  intro ls H locs hl hP hS
  have Cx0 := Cx
  obtain ⟨⟨hx, hb, hml, hown, hts⟩, hK, hD, hA, hZ⟩ := Cx0
  have hl : lv_has ls 4 [(0, .int x0), (1, .int x1)] := hl
  unfold mF_fieldsOf at h
  refine lv_iconst (v := (0 : Int32)) hx hb d_F_fieldsOf_0 (by decide) ?_
  refine lv_istore_n (lv' := [(2, .int (0 : Int32)), (0, .int x0), (1, .int x1)]) hx hb d_F_fieldsOf_1 rfl hl (by decide) rfl (fun ls hl => ?_)
  refine lv_iconst (v := (0 : Int32)) hx hb d_F_fieldsOf_2 (by decide) ?_
  refine lv_istore_n (lv' := [(3, .int (0 : Int32)), (2, .int (0 : Int32)), (0, .int x0), (1, .int x1)]) hx hb d_F_fieldsOf_3 rfl hl (by decide) rfl (fun ls hl => ?_)
  exact zF_fieldsOf_l4 Cx hR hret  mb_fuel x0 x1 (0 : Int32) (0 : Int32) h ls H locs (lv_sub hl [2, 3, 1, 0] rfl) hP hS
set_option maxRecDepth 100000 in
set_option maxHeartbeats 4000000 in
theorem zF_changed_b206 {p : Program} {l : Launch} {e : Env} {R : Room} {s0 : State} {m : MethodId} {args : Array Value} {below : List Frame} {meth : Method} {c : Code} {Q : State → Prop} {A : Nat → Prop} {D : va_G} {X : Nat → Nat} {cI cZ cJ : ClassId} {rv : Int32} {rs : mb_S}
    (Cx : mb_C p s0 m args meth c c_F_changed 10 lw_w cnF mb_ZX vwCl D [(cI, .int), (cZ, .boolean), (cJ, .long)] A (WX X cI cZ cJ)) (hR : 2 ≤ R.frames ∧ 44 ≤ R.locals)
    (hret : mb_R p l e R s0 m args below meth c Q vwCl D A (WX X cI cZ cJ) c_F_changed .ireturn [.int rv] rs)  (x3 : Int32) (s : mb_S)
    (h : mF_changed_b206  x3 s = some (rv, rs)) : mb_B p l e R s0 m args below meth c Q vwCl D A (WX X cI cZ cJ) 10 [(3, .int x3)] [] 206 s := by
  unfold mF_changed_b206 at h
  intro ls H locs hl hP hS
  have Cx0 := Cx
  obtain ⟨⟨hx, hb, hml, hown, hts⟩, hK, hD, hA, hZ⟩ := Cx0
  refine lv_iload_n hx hb d_F_changed_206 rfl (lv_at hl 0 rfl) ?_
  exact mb_eI hret h d_F_changed_207 hP hS
set_option maxRecDepth 100000 in
set_option maxHeartbeats 4000000 in
theorem zF_changed_b205 {p : Program} {l : Launch} {e : Env} {R : Room} {s0 : State} {m : MethodId} {args : Array Value} {below : List Frame} {meth : Method} {c : Code} {Q : State → Prop} {A : Nat → Prop} {D : va_G} {X : Nat → Nat} {cI cZ cJ : ClassId} {rv : Int32} {rs : mb_S}
    (Cx : mb_C p s0 m args meth c c_F_changed 10 lw_w cnF mb_ZX vwCl D [(cI, .int), (cZ, .boolean), (cJ, .long)] A (WX X cI cZ cJ)) (hR : 2 ≤ R.frames ∧ 44 ≤ R.locals)
    (hret : mb_R p l e R s0 m args below meth c Q vwCl D A (WX X cI cZ cJ) c_F_changed .ireturn [.int rv] rs)  (y0 : Int32) (s : mb_S)
    (h : mF_changed_b205  y0 s = some (rv, rs)) : mb_B p l e R s0 m args below meth c Q vwCl D A (WX X cI cZ cJ) 10 [] [.int y0] 205 s := by
  unfold mF_changed_b205 at h
  intro ls H locs hl hP hS
  have Cx0 := Cx
  obtain ⟨⟨hx, hb, hml, hown, hts⟩, hK, hD, hA, hZ⟩ := Cx0
  exact mb_eI hret h d_F_changed_205 hP hS
set_option maxRecDepth 100000 in
set_option maxHeartbeats 4000000 in
theorem zF_changed_b166 {p : Program} {l : Launch} {e : Env} {R : Room} {s0 : State} {m : MethodId} {args : Array Value} {below : List Frame} {meth : Method} {c : Code} {Q : State → Prop} {A : Nat → Prop} {D : va_G} {X : Nat → Nat} {cI cZ cJ : ClassId} {rv : Int32} {rs : mb_S}
    (Cx : mb_C p s0 m args meth c c_F_changed 10 lw_w cnF mb_ZX vwCl D [(cI, .int), (cZ, .boolean), (cJ, .long)] A (WX X cI cZ cJ)) (hR : 2 ≤ R.frames ∧ 44 ≤ R.locals)
    (hret : mb_R p l e R s0 m args below meth c Q vwCl D A (WX X cI cZ cJ) c_F_changed .ireturn [.int rv] rs)  (y0 : Int32) (s : mb_S)
    (h : mF_changed_b166  y0 s = some (rv, rs)) : mb_B p l e R s0 m args below meth c Q vwCl D A (WX X cI cZ cJ) 10 [] [.int y0] 166 s := by
  unfold mF_changed_b166 at h
  intro ls H locs hl hP hS
  have Cx0 := Cx
  obtain ⟨⟨hx, hb, hml, hown, hts⟩, hK, hD, hA, hZ⟩ := Cx0
  exact mb_eI hret h d_F_changed_166 hP hS
set_option maxRecDepth 100000 in
set_option maxHeartbeats 4000000 in
theorem zF_changed_b120 {p : Program} {l : Launch} {e : Env} {R : Room} {s0 : State} {m : MethodId} {args : Array Value} {below : List Frame} {meth : Method} {c : Code} {Q : State → Prop} {A : Nat → Prop} {D : va_G} {X : Nat → Nat} {cI cZ cJ : ClassId} {rv : Int32} {rs : mb_S}
    (Cx : mb_C p s0 m args meth c c_F_changed 10 lw_w cnF mb_ZX vwCl D [(cI, .int), (cZ, .boolean), (cJ, .long)] A (WX X cI cZ cJ)) (hR : 2 ≤ R.frames ∧ 44 ≤ R.locals)
    (hret : mb_R p l e R s0 m args below meth c Q vwCl D A (WX X cI cZ cJ) c_F_changed .ireturn [.int rv] rs)  (y0 : Int32) (s : mb_S)
    (h : mF_changed_b120  y0 s = some (rv, rs)) : mb_B p l e R s0 m args below meth c Q vwCl D A (WX X cI cZ cJ) 10 [] [.int y0] 120 s := by
  unfold mF_changed_b120 at h
  intro ls H locs hl hP hS
  have Cx0 := Cx
  obtain ⟨⟨hx, hb, hml, hown, hts⟩, hK, hD, hA, hZ⟩ := Cx0
  exact mb_eI hret h d_F_changed_120 hP hS
set_option maxRecDepth 100000 in
set_option maxHeartbeats 4000000 in
theorem zF_changed_b96 {p : Program} {l : Launch} {e : Env} {R : Room} {s0 : State} {m : MethodId} {args : Array Value} {below : List Frame} {meth : Method} {c : Code} {Q : State → Prop} {A : Nat → Prop} {D : va_G} {X : Nat → Nat} {cI cZ cJ : ClassId} {rv : Int32} {rs : mb_S}
    (Cx : mb_C p s0 m args meth c c_F_changed 10 lw_w cnF mb_ZX vwCl D [(cI, .int), (cZ, .boolean), (cJ, .long)] A (WX X cI cZ cJ)) (hR : 2 ≤ R.frames ∧ 44 ≤ R.locals)
    (hret : mb_R p l e R s0 m args below meth c Q vwCl D A (WX X cI cZ cJ) c_F_changed .ireturn [.int rv] rs)  (x7 : Int32) (s : mb_S)
    (h : mF_changed_b96  x7 s = some (rv, rs)) : mb_B p l e R s0 m args below meth c Q vwCl D A (WX X cI cZ cJ) 10 [(7, .int x7)] [] 96 s := by
  unfold mF_changed_b96 at h
  intro ls H locs hl hP hS
  have Cx0 := Cx
  obtain ⟨⟨hx, hb, hml, hown, hts⟩, hK, hD, hA, hZ⟩ := Cx0
  refine lv_iload hx hb d_F_changed_96 (lv_at hl 0 rfl) ?_
  exact mb_eI hret h d_F_changed_98 hP hS
set_option maxRecDepth 100000 in
set_option maxHeartbeats 4000000 in
theorem w_F_changed (l : Launch) (D : va_G) (X : Nat → Nat) (cI cZ cJ : ClassId) {x1 : Int32} {x2 : Int32} {x3 : Int32} {s : mb_S} {rv : Int32} {rs : mb_S}
    (h : mF_changed x1 x2 x3 s = some (rv, rs)) : mb_MI l y_F_changed ws_F_changed rm_F_changed mb_ZX vwCl D [(cI, .int), (cZ, .boolean), (cJ, .long)] (WX X cI cZ cJ) [.ref (X 3), .int x1, .int x2, .int x3] s rv rs := by
  refine mb_ofI mb_ZXok (by decide) rfl (Nat.le_of_ble_eq_true rfl) mb_DXok ?_
  intro p e s0 m args below meth c Q A Cx hret
  have hR : 2 ≤ (rm_F_changed).frames ∧ 44 ≤ (rm_F_changed).locals := ⟨Nat.le_refl _, Nat.le_refl _⟩
  intro ls H locs hl hP hS
  have Cx0 := Cx
  obtain ⟨⟨hx, hb, hml, hown, hts⟩, hK, hD, hA, hZ⟩ := Cx0
  have hl : lv_has ls 10 [(0, .ref (X 3)), (1, .int x1), (2, .int x2), (3, .int x3)] := hl
  unfold mF_changed at h
  refine lv_aload_n hx hb d_F_changed_0 rfl (lv_at hl 0 rfl) ?_
  refine va_get (ci := 3) (C := cnF) (T := fTF) (N := 7) hx hb hts uwF hown hK hP 3 rfl rfl 0 (by decide) (hts _ wd_125) (fun _ h9 => h9) rfl d_F_changed_1 ?_
  refine va_get (ci := 1) (C := cnP) (T := fTP) (N := 12) hx hb hts uwP hown hK hP 1 rfl rfl 1 (by decide) (hts _ wd_33) (fun _ h9 => h9) rfl d_F_changed_4 ?_
  refine lv_iload_n hx hb d_F_changed_7 rfl (lv_at hl 2 rfl) ?_
  refine mb_iald hx hb hK hP 6 0 rfl rfl h d_F_changed_8 (fun v1 h => ?_)
  refine lv_istore (lv' := [(4, .int v1), (0, .ref (X 3)), (1, .int x1), (2, .int x2), (3, .int x3)]) hx hb d_F_changed_9 hl (by decide) rfl (fun ls hl => ?_)
  refine lv_aload_n hx hb d_F_changed_11 rfl (lv_at hl 1 rfl) ?_
  refine va_get (ci := 3) (C := cnF) (T := fTF) (N := 7) hx hb hts uwF hown hK hP 3 rfl rfl 0 (by decide) (hts _ wd_125) (fun _ h9 => h9) rfl d_F_changed_12 ?_
  refine va_get (ci := 1) (C := cnP) (T := fTP) (N := 12) hx hb hts uwP hown hK hP 1 rfl rfl 2 (by decide) (hts _ wd_39) (fun _ h9 => h9) rfl d_F_changed_15 ?_
  refine lv_iload_n hx hb d_F_changed_18 rfl (lv_at hl 3 rfl) ?_
  refine mb_iald hx hb hK hP 7 0 rfl rfl h d_F_changed_19 (fun v2 h => ?_)
  refine lv_istore (lv' := [(5, .int v2), (4, .int v1), (0, .ref (X 3)), (1, .int x1), (2, .int x2), (3, .int x3)]) hx hb d_F_changed_20 hl (by decide) rfl (fun ls hl => ?_)
  refine lv_aload_n hx hb d_F_changed_22 rfl (lv_at hl 2 rfl) ?_
  refine va_get (ci := 3) (C := cnF) (T := fTF) (N := 7) hx hb hts uwF hown hK hP 3 rfl rfl 0 (by decide) (hts _ wd_125) (fun _ h9 => h9) rfl d_F_changed_23 ?_
  refine va_get (ci := 1) (C := cnP) (T := fTP) (N := 12) hx hb hts uwP hown hK hP 1 rfl rfl 3 (by decide) (hts _ wd_42) (fun _ h9 => h9) rfl d_F_changed_26 ?_
  refine lv_iload_n hx hb d_F_changed_29 rfl (lv_at hl 4 rfl) ?_
  refine mb_iald hx hb hK hP 8 0 rfl rfl h d_F_changed_30 (fun v3 h => ?_)
  refine lv_istore (lv' := [(6, .int v3), (5, .int v2), (4, .int v1), (0, .ref (X 3)), (1, .int x1), (2, .int x2), (3, .int x3)]) hx hb d_F_changed_31 hl (by decide) rfl (fun ls hl => ?_)
  refine lv_iload_n hx hb d_F_changed_33 rfl (lv_at hl 6 rfl) ?_
  refine lv_iconst (v := (1 : Int32)) hx hb d_F_changed_34 (by decide) ?_
  refine lv_iload hx hb d_F_changed_35 (lv_at hl 2 rfl) ?_
  refine lv_ishl hx hb d_F_changed_37 ?_
  refine lv_iconst (v := (-1 : Int32)) hx hb d_F_changed_38 (by decide) ?_
  refine lv_ixor hx hb d_F_changed_39 ?_
  refine lv_iand hx hb d_F_changed_40 ?_
  refine lv_topi (fun v4 ev4 => ?_)
  have h := mb_at ev4 h
  refine lv_istore (lv' := [(7, .int v4), (6, .int v3), (5, .int v2), (4, .int v1), (0, .ref (X 3)), (1, .int x1), (2, .int x2), (3, .int x3)]) hx hb d_F_changed_41 hl (by decide) rfl (fun ls hl => ?_)
  refine lv_aload_n hx hb d_F_changed_43 rfl (lv_at hl 4 rfl) ?_
  refine va_get (ci := 3) (C := cnF) (T := fTF) (N := 7) hx hb hts uwF hown hK hP 3 rfl rfl 0 (by decide) (hts _ wd_125) (fun _ h9 => h9) rfl d_F_changed_44 ?_
  refine va_get (ci := 1) (C := cnP) (T := fTP) (N := 12) hx hb hts uwP hown hK hP 1 rfl rfl 0 (by decide) (hts _ wd_29) (fun _ h9 => h9) rfl d_F_changed_47 ?_
  refine lv_iload_n hx hb d_F_changed_50 rfl (lv_at hl 6 rfl) ?_
  refine mb_iald hx hb hK hP 5 0 rfl rfl h d_F_changed_51 (fun v5 h => ?_)
  by_cases hc0 : v5 = (0 : Int32)
  · have h := mb_t hc0 h
    refine lv_tableIn (tgt := 96) hx hb d_F_changed_52 (by rw [hc0]; decide) (by rw [hc0]; decide) (by rw [hc0]; rfl) rfl ?_
    exact zF_changed_b96 Cx hR hret  v4 s h ls H locs (lv_sub hl [0] rfl) hP hS
  have h := mb_f hc0 h
  by_cases hc1 : v5 = (1 : Int32)
  · have h := mb_t hc1 h
    refine lv_tableIn (tgt := 96) hx hb d_F_changed_52 (by rw [hc1]; decide) (by rw [hc1]; decide) (by rw [hc1]; rfl) rfl ?_
    exact zF_changed_b96 Cx hR hret  v4 s h ls H locs (lv_sub hl [0] rfl) hP hS
  have h := mb_f hc1 h
  by_cases hc3 : v5 = (3 : Int32)
  · have h := mb_t hc3 h
    refine lv_tableIn (tgt := 96) hx hb d_F_changed_52 (by rw [hc3]; decide) (by rw [hc3]; decide) (by rw [hc3]; rfl) rfl ?_
    exact zF_changed_b96 Cx hR hret  v4 s h ls H locs (lv_sub hl [0] rfl) hP hS
  have h := mb_f hc3 h
  by_cases hc4 : v5 = (4 : Int32)
  · have h := mb_t hc4 h
    refine lv_tableIn (tgt := 99) hx hb d_F_changed_52 (by rw [hc4]; decide) (by rw [hc4]; decide) (by rw [hc4]; rfl) rfl ?_
    refine lv_iload_n hx hb d_F_changed_99 rfl (lv_at hl 7 rfl) ?_
    refine lv_iload hx hb d_F_changed_100 (lv_at hl 2 rfl) ?_
    obtain ⟨v6, hv6, h⟩ := mb_cal0_ex h
    refine mb_go0I (st := s) Cx (mb_runSN0 (As := [.int x3, .int v2]) (rest := []) Cx (w_X_has l D hv6 H.size) (mb_cn 2 hts wd_329 wd_284 wd_1 wd_285 rfl rfl rfl (by decide +kernel) ⟨Nat.le_trans (by decide) hR.1, Nat.le_trans (by decide) hR.2⟩) rfl hl.1 rfl (Nat.le_of_ble_eq_true rfl) d_F_changed_102) hP hS (fun H locs hP hS => ?_)
    refine lv_if_eq hx hb d_F_changed_105 rfl (fun hc => ?_) (fun hc => ?_)
    · have h := mb_t hc h
      refine lv_iload hx hb d_F_changed_118 (lv_at hl 0 rfl) ?_
      exact zF_changed_b120 Cx hR hret  v4 s h ls H locs (lv_sub hl [] rfl) hP hS
    · have h := mb_f hc h
      refine lv_iload hx hb d_F_changed_108 (lv_at hl 0 rfl) ?_
      refine lv_iconst (v := (1 : Int32)) hx hb d_F_changed_110 (by decide) ?_
      refine lv_iload hx hb d_F_changed_111 (lv_at hl 3 rfl) ?_
      refine lv_ishl hx hb d_F_changed_113 ?_
      refine lv_ior hx hb d_F_changed_114 ?_
      refine lv_goto hx hb d_F_changed_115 rfl ?_
      exact zF_changed_b120 Cx hR hret  (v4 ||| ((1 : Int32) <<< (v1 &&& 31))) s h ls H locs (lv_sub hl [] rfl) hP hS
  have h := mb_f hc4 h
  by_cases hc5 : v5 = (5 : Int32)
  · have h := mb_t hc5 h
    refine lv_tableIn (tgt := 121) hx hb d_F_changed_52 (by rw [hc5]; decide) (by rw [hc5]; decide) (by rw [hc5]; rfl) rfl ?_
    refine lv_iconst (v := (1 : Int32)) hx hb d_F_changed_121 (by decide) ?_
    refine lv_iload hx hb d_F_changed_122 (lv_at hl 2 rfl) ?_
    refine lv_ishl hx hb d_F_changed_124 ?_
    refine lv_aload_n hx hb d_F_changed_125 rfl (lv_at hl 4 rfl) ?_
    refine va_get (ci := 3) (C := cnF) (T := fTF) (N := 7) hx hb hts uwF hown hK hP 3 rfl rfl 1 (by decide) (hts _ wd_126) (fun _ h9 => h9) rfl d_F_changed_126 ?_
    refine va_get (ci := 2) (C := cnQ) (T := fTQ) (N := 6) hx hb hts uwQ hown hK hP 2 rfl rfl 1 (by decide) (hts _ wd_98) (fun _ h9 => h9) rfl d_F_changed_129 ?_
    refine lv_iload_n hx hb d_F_changed_132 rfl (lv_at hl 5 rfl) ?_
    refine lv_iconst (v := (4 : Int32)) hx hb d_F_changed_133 (by decide) ?_
    refine lv_imul hx hb d_F_changed_134 ?_
    refine lv_iload hx hb d_F_changed_135 (lv_at hl 2 rfl) ?_
    refine lv_iadd hx hb d_F_changed_137 ?_
    refine mb_iald hx hb hK hP 16 0 rfl rfl h d_F_changed_138 (fun v7 h => ?_)
    refine lv_iload hx hb d_F_changed_139 (lv_at hl 1 rfl) ?_
    obtain ⟨v8, hv8, h⟩ := mb_cal0_ex h
    refine mb_go0I (st := s) Cx (mb_runS0 (As := [.int v7, .int v3]) (rest := [.int ((1 : Int32) <<< (v2 &&& 31))]) Cx (w_F_fieldsOf l D hv8 H.size) (mb_cwS 2 hts wd_382 wd_383 wd_5 wd_384 rfl rfl rfl (by decide +kernel) ⟨Nat.le_trans (by decide) hR.1, Nat.le_trans (by decide) hR.2⟩) rfl hl.1 rfl (Nat.le_of_ble_eq_true rfl) d_F_changed_141) hP hS (fun H locs hP hS => ?_)
    refine lv_ior hx hb d_F_changed_144 ?_
    refine lv_topi (fun v9 ev9 => ?_)
    have h := mb_at ev9 h
    refine lv_istore (lv' := [(8, .int v9), (7, .int v4), (6, .int v3), (5, .int v2), (4, .int v1), (0, .ref (X 3)), (1, .int x1), (2, .int x2), (3, .int x3)]) hx hb d_F_changed_145 hl (by decide) rfl (fun ls hl => ?_)
    refine lv_iload_n hx hb d_F_changed_147 rfl (lv_at hl 8 rfl) ?_
    refine lv_iload hx hb d_F_changed_148 (lv_at hl 0 rfl) ?_
    refine lv_iand hx hb d_F_changed_150 ?_
    refine lv_if_eq hx hb d_F_changed_151 rfl (fun hc => ?_) (fun hc => ?_)
    · have h := mb_t hc h
      refine lv_iload hx hb d_F_changed_164 (lv_at hl 1 rfl) ?_
      exact zF_changed_b166 Cx hR hret  v4 s h ls H locs (lv_sub hl [] rfl) hP hS
    · have h := mb_f hc h
      refine lv_iload hx hb d_F_changed_154 (lv_at hl 1 rfl) ?_
      refine lv_iconst (v := (1 : Int32)) hx hb d_F_changed_156 (by decide) ?_
      refine lv_iload hx hb d_F_changed_157 (lv_at hl 4 rfl) ?_
      refine lv_ishl hx hb d_F_changed_159 ?_
      refine lv_ior hx hb d_F_changed_160 ?_
      refine lv_goto hx hb d_F_changed_161 rfl ?_
      exact zF_changed_b166 Cx hR hret  (v4 ||| ((1 : Int32) <<< (v1 &&& 31))) s h ls H locs (lv_sub hl [] rfl) hP hS
  have h := mb_f hc5 h
  by_cases hc6 : v5 = (6 : Int32)
  · have h := mb_t hc6 h
    refine lv_tableIn (tgt := 167) hx hb d_F_changed_52 (by rw [hc6]; decide) (by rw [hc6]; decide) (by rw [hc6]; rfl) rfl ?_
    refine lv_aload_n hx hb d_F_changed_167 rfl (lv_at hl 4 rfl) ?_
    refine va_get (ci := 3) (C := cnF) (T := fTF) (N := 7) hx hb hts uwF hown hK hP 3 rfl rfl 1 (by decide) (hts _ wd_126) (fun _ h9 => h9) rfl d_F_changed_168 ?_
    refine va_get (ci := 2) (C := cnQ) (T := fTQ) (N := 6) hx hb hts uwQ hown hK hP 2 rfl rfl 1 (by decide) (hts _ wd_98) (fun _ h9 => h9) rfl d_F_changed_171 ?_
    refine lv_iload_n hx hb d_F_changed_174 rfl (lv_at hl 5 rfl) ?_
    refine lv_iconst (v := (4 : Int32)) hx hb d_F_changed_175 (by decide) ?_
    refine lv_imul hx hb d_F_changed_176 ?_
    refine lv_iload hx hb d_F_changed_177 (lv_at hl 3 rfl) ?_
    refine lv_iadd hx hb d_F_changed_179 ?_
    refine mb_iald hx hb hK hP 16 0 rfl rfl h d_F_changed_180 (fun v10 h => ?_)
    refine lv_istore (lv' := [(9, .int v10), (7, .int v4), (6, .int v3), (5, .int v2), (4, .int v1), (0, .ref (X 3)), (1, .int x1), (2, .int x2), (3, .int x3)]) hx hb d_F_changed_181 hl (by decide) rfl (fun ls hl => ?_)
    refine lv_iload_n hx hb d_F_changed_183 rfl (lv_at hl 8 rfl) ?_
    refine lv_iload hx hb d_F_changed_184 (lv_at hl 3 rfl) ?_
    obtain ⟨v11, hv11, h⟩ := mb_cal0_ex h
    refine mb_go0I (st := s) Cx (mb_runSN0 (As := [.int x3, .int v2]) (rest := []) Cx (w_X_has l D hv11 H.size) (mb_cn 2 hts wd_329 wd_284 wd_1 wd_285 rfl rfl rfl (by decide +kernel) ⟨Nat.le_trans (by decide) hR.1, Nat.le_trans (by decide) hR.2⟩) rfl hl.1 rfl (Nat.le_of_ble_eq_true rfl) d_F_changed_186) hP hS (fun H locs hP hS => ?_)
    refine lv_if_eq hx hb d_F_changed_189 rfl (fun hc => ?_) (fun hc => ?_)
    · have h := mb_t hc h
      refine lv_iload_n hx hb d_F_changed_204 rfl (lv_at hl 8 rfl) ?_
      exact zF_changed_b205 Cx hR hret  x3 s h ls H locs (lv_sub hl [] rfl) hP hS
    · have h := mb_f hc h
      refine lv_iload_n hx hb d_F_changed_192 rfl (lv_at hl 8 rfl) ?_
      refine lv_iload hx hb d_F_changed_193 (lv_at hl 0 rfl) ?_
      refine lv_iload hx hb d_F_changed_195 (lv_at hl 2 rfl) ?_
      obtain ⟨v12, hv12, h⟩ := mb_cal0_ex h
      refine mb_go0I (st := s) Cx (mb_runS0 (As := [.int v10, .int v3]) (rest := [.int x3]) Cx (w_F_fieldsOf l D hv12 H.size) (mb_cwS 2 hts wd_382 wd_383 wd_5 wd_384 rfl rfl rfl (by decide +kernel) ⟨Nat.le_trans (by decide) hR.1, Nat.le_trans (by decide) hR.2⟩) rfl hl.1 rfl (Nat.le_of_ble_eq_true rfl) d_F_changed_197) hP hS (fun H locs hP hS => ?_)
      refine lv_ior hx hb d_F_changed_200 ?_
      refine lv_goto hx hb d_F_changed_201 rfl ?_
      exact zF_changed_b205 Cx hR hret  (x3 ||| v12) s h ls H locs (lv_sub hl [] rfl) hP hS
  have h := mb_f hc6 h
  have hn0 : ¬ Int32.toInt v5 = 0 := lv_neT hc0 (by decide)
  have hn1 : ¬ Int32.toInt v5 = 1 := lv_neT hc1 (by decide)
  have hn3 : ¬ Int32.toInt v5 = 3 := lv_neT hc3 (by decide)
  have hn4 : ¬ Int32.toInt v5 = 4 := lv_neT hc4 (by decide)
  have hn5 : ¬ Int32.toInt v5 = 5 := lv_neT hc5 (by decide)
  have hn6 : ¬ Int32.toInt v5 = 6 := lv_neT hc6 (by decide)
  refine mb_tabD (tgt := 206) hx hb d_F_changed_52 (fun h1 h2 => by rcases (show Int32.toInt v5 = 2 by omega) with q <;> (rw [q]; rfl)) rfl ?_
  exact zF_changed_b206 Cx hR hret  x3 s h ls H locs (lv_sub hl [7] rfl) hP hS
set_option maxRecDepth 100000 in
set_option maxHeartbeats 4000000 in
theorem zF_pass_b131 {p : Program} {l : Launch} {e : Env} {R : Room} {s0 : State} {m : MethodId} {args : Array Value} {below : List Frame} {meth : Method} {c : Code} {Q : State → Prop} {A : Nat → Prop} {D : va_G} {X : Nat → Nat} {cI cZ cJ : ClassId} {rv : Unit} {rs : mb_S}
    (Cx : mb_C p s0 m args meth c c_F_pass 7 lw_w cnF mb_ZX vwCl D [(cI, .int), (cZ, .boolean), (cJ, .long)] A (WX X cI cZ cJ)) (hR : 3 ≤ R.frames ∧ 74 ≤ R.locals)
    (hret : mb_R p l e R s0 m args below meth c Q vwCl D A (WX X cI cZ cJ) c_F_pass .return_ [] rs)   (s : mb_S)
    (h : mF_pass_b131  s = some (rv, rs)) : mb_B p l e R s0 m args below meth c Q vwCl D A (WX X cI cZ cJ) 7 [] [] 131 s := by
  unfold mF_pass_b131 at h
  intro ls H locs hl hP hS
  have Cx0 := Cx
  obtain ⟨⟨hx, hb, hml, hown, hts⟩, hK, hD, hA, hZ⟩ := Cx0
  exact mb_eV hret h d_F_pass_131 hP hS
set_option maxRecDepth 100000 in
set_option maxHeartbeats 4000000 in
theorem zF_pass_b115 {p : Program} {l : Launch} {e : Env} {R : Room} {s0 : State} {m : MethodId} {args : Array Value} {below : List Frame} {meth : Method} {c : Code} {Q : State → Prop} {A : Nat → Prop} {D : va_G} {X : Nat → Nat} {cI cZ cJ : ClassId} {rv : Unit} {rs : mb_S}
    (Cx : mb_C p s0 m args meth c c_F_pass 7 lw_w cnF mb_ZX vwCl D [(cI, .int), (cZ, .boolean), (cJ, .long)] A (WX X cI cZ cJ)) (hR : 3 ≤ R.frames ∧ 74 ≤ R.locals)
    (hret : mb_R p l e R s0 m args below meth c Q vwCl D A (WX X cI cZ cJ) c_F_pass .return_ [] rs)  (x1 : Int32) (x2 : Int32) (x3 : Int32) (x6 : Int32) (s : mb_S)
    (h : mF_pass_b115  x1 x2 x3 x6 s = some (rv, rs)) : mb_B p l e R s0 m args below meth c Q vwCl D A (WX X cI cZ cJ) 7 [(0, .ref (X 3)), (1, .int x1), (2, .int x2), (3, .int x3), (6, .int x6)] [] 115 s := by
  unfold mF_pass_b115 at h
  intro ls H locs hl hP hS
  have Cx0 := Cx
  obtain ⟨⟨hx, hb, hml, hown, hts⟩, hK, hD, hA, hZ⟩ := Cx0
  refine lv_aload_n hx hb d_F_pass_115 rfl (lv_at hl 0 rfl) ?_
  refine lv_aload_n hx hb d_F_pass_116 rfl (lv_at hl 0 rfl) ?_
  refine va_get (ci := 3) (C := cnF) (T := fTF) (N := 7) hx hb hts uwF hown hK hP 3 rfl rfl 0 (by decide) (hts _ wd_125) (fun _ h9 => h9) rfl d_F_pass_117 ?_
  refine lv_iload_n hx hb d_F_pass_120 rfl (lv_at hl 1 rfl) ?_
  refine lv_iload_n hx hb d_F_pass_121 rfl (lv_at hl 2 rfl) ?_
  obtain ⟨v1, s2, hs2, h⟩ := mb_cal_ex h
  refine mb_goI Cx (mb_runV (As := [.int x1, .int x2]) (rest := [.ref (X 3)]) mb_ZXok Cx (w_P_jumpSpot l D X cI cZ cJ hs2 H.size) (mb_cwV 2 hts wd_338 wd_339 wd_340 wd_2 wd_341 rfl rfl rfl (by decide +kernel) ⟨Nat.le_trans (by decide) hR.1, Nat.le_trans (by decide) hR.2⟩) hP hS 1 rfl rfl rfl hl.1 rfl (Nat.le_of_ble_eq_true rfl) d_F_pass_122) hS (fun H locs hP hS => ?_)
  refine lv_iload_n hx hb d_F_pass_125 rfl (lv_at hl 3 rfl) ?_
  refine lv_iload hx hb d_F_pass_126 (lv_at hl 4 rfl) ?_
  obtain ⟨_u, s3, hs3, h⟩ := mb_cal_ex h
  refine mb_goV Cx (mb_runV (As := [.int v1, .int x3, .int x6]) (rest := []) mb_ZXok Cx (w_F_growHeld l D X cI cZ cJ hs3 H.size) (mb_cwV 3 hts wd_345 wd_347 sel_14 wd_5 wd_348 rfl rfl rfl (by decide +kernel) ⟨Nat.le_trans (by decide) hR.1, Nat.le_trans (by decide) hR.2⟩) hP hS 3 rfl rfl rfl hl.1 rfl (Nat.le_of_ble_eq_true rfl) d_F_pass_128) hS (fun H locs hP hS => ?_)
  exact zF_pass_b131 Cx hR hret  s3 h ls H locs (lv_sub hl [] rfl) hP hS
set_option maxRecDepth 100000 in
set_option maxHeartbeats 4000000 in
theorem zF_pass_b101 {p : Program} {l : Launch} {e : Env} {R : Room} {s0 : State} {m : MethodId} {args : Array Value} {below : List Frame} {meth : Method} {c : Code} {Q : State → Prop} {A : Nat → Prop} {D : va_G} {X : Nat → Nat} {cI cZ cJ : ClassId} {rv : Unit} {rs : mb_S}
    (Cx : mb_C p s0 m args meth c c_F_pass 7 lw_w cnF mb_ZX vwCl D [(cI, .int), (cZ, .boolean), (cJ, .long)] A (WX X cI cZ cJ)) (hR : 3 ≤ R.frames ∧ 74 ≤ R.locals)
    (hret : mb_R p l e R s0 m args below meth c Q vwCl D A (WX X cI cZ cJ) c_F_pass .return_ [] rs)  (x1 : Int32) (x2 : Int32) (x3 : Int32) (x5 : Int32) (x6 : Int32) (s : mb_S)
    (h : mF_pass_b101  x1 x2 x3 x5 x6 s = some (rv, rs)) : mb_B p l e R s0 m args below meth c Q vwCl D A (WX X cI cZ cJ) 7 [(0, .ref (X 3)), (1, .int x1), (2, .int x2), (3, .int x3), (5, .int x5), (6, .int x6)] [] 101 s := by
  unfold mF_pass_b101 at h
  intro ls H locs hl hP hS
  have Cx0 := Cx
  obtain ⟨⟨hx, hb, hml, hown, hts⟩, hK, hD, hA, hZ⟩ := Cx0
  refine lv_iload hx hb d_F_pass_101 (lv_at hl 4 rfl) ?_
  refine lv_bipush (v := (9 : Int32)) hx hb d_F_pass_103 (by decide) ?_
  refine lv_icmp_eq hx hb d_F_pass_105 rfl (fun hc => ?_) (fun hc => ?_)
  · have h := mb_t hc h
    exact zF_pass_b115 Cx hR hret  x1 x2 x3 x6 s h ls H locs (lv_sub hl [0, 1, 2, 3, 5] rfl) hP hS
  · have h := mb_f hc h
    refine lv_iload hx hb d_F_pass_108 (lv_at hl 4 rfl) ?_
    refine lv_bipush (v := (8 : Int32)) hx hb d_F_pass_110 (by decide) ?_
    refine lv_icmp_ne hx hb d_F_pass_112 rfl (fun hc => ?_) (fun hc => ?_)
    · have h := mb_f hc h
      exact zF_pass_b131 Cx hR hret  s h ls H locs (lv_sub hl [] rfl) hP hS
    · have h := mb_t hc h
      exact zF_pass_b115 Cx hR hret  x1 x2 x3 x6 s h ls H locs (lv_sub hl [0, 1, 2, 3, 5] rfl) hP hS
set_option maxRecDepth 100000 in
set_option maxHeartbeats 4000000 in
theorem zF_pass_b57 {p : Program} {l : Launch} {e : Env} {R : Room} {s0 : State} {m : MethodId} {args : Array Value} {below : List Frame} {meth : Method} {c : Code} {Q : State → Prop} {A : Nat → Prop} {D : va_G} {X : Nat → Nat} {cI cZ cJ : ClassId} {rv : Unit} {rs : mb_S}
    (Cx : mb_C p s0 m args meth c c_F_pass 7 lw_w cnF mb_ZX vwCl D [(cI, .int), (cZ, .boolean), (cJ, .long)] A (WX X cI cZ cJ)) (hR : 3 ≤ R.frames ∧ 74 ≤ R.locals)
    (hret : mb_R p l e R s0 m args below meth c Q vwCl D A (WX X cI cZ cJ) c_F_pass .return_ [] rs)  (x1 : Int32) (x3 : Int32) (x4 : Int32) (y0 : Int32) (s : mb_S)
    (h : mF_pass_b57  x1 x3 x4 y0 s = some (rv, rs)) : mb_B p l e R s0 m args below meth c Q vwCl D A (WX X cI cZ cJ) 7 [(0, .ref (X 3)), (1, .int x1), (3, .int x3), (4, .int x4)] [.int y0] 57 s := by
  unfold mF_pass_b57 at h
  intro ls H locs hl hP hS
  have Cx0 := Cx
  obtain ⟨⟨hx, hb, hml, hown, hts⟩, hK, hD, hA, hZ⟩ := Cx0
  refine lv_istore (lv' := [(6, .int y0), (0, .ref (X 3)), (1, .int x1), (3, .int x3), (4, .int x4)]) hx hb d_F_pass_57 hl (by decide) rfl (fun ls hl => ?_)
  refine lv_aload_n hx hb d_F_pass_59 rfl (lv_at hl 1 rfl) ?_
  refine lv_iload_n hx hb d_F_pass_60 rfl (lv_at hl 2 rfl) ?_
  refine lv_iload_n hx hb d_F_pass_61 rfl (lv_at hl 3 rfl) ?_
  refine lv_iload hx hb d_F_pass_62 (lv_at hl 4 rfl) ?_
  refine lv_ldc (v := (65520 : Int32)) hx hb hown (hts _ wd_357) d_F_pass_64 ?_
  refine lv_iand hx hb d_F_pass_66 ?_
  refine lv_iload hx hb d_F_pass_67 (lv_at hl 0 rfl) ?_
  refine lv_ior hx hb d_F_pass_69 ?_
  obtain ⟨_u, s4, hs4, h⟩ := mb_cal_ex h
  refine mb_goV Cx (mb_runV (As := [.int x1, .int x3, .int ((x4 &&& (65520 : Int32)) ||| y0)]) (rest := []) mb_ZXok Cx (w_F_growExit l D X cI cZ cJ hs4 H.size) (mb_cwV 3 hts wd_374 wd_376 sel_21 wd_5 wd_377 rfl rfl rfl (by decide +kernel) ⟨Nat.le_trans (by decide) hR.1, Nat.le_trans (by decide) hR.2⟩) hP hS 3 rfl rfl rfl hl.1 rfl (Nat.le_of_ble_eq_true rfl) d_F_pass_70) hS (fun H locs hP hS => ?_)
  exact mb_eV hret h d_F_pass_73 hP hS
set_option maxRecDepth 100000 in
set_option maxHeartbeats 4000000 in
theorem w_F_pass (l : Launch) (D : va_G) (X : Nat → Nat) (cI cZ cJ : ClassId) {x1 : Int32} {x2 : Int32} {x3 : Int32} {x4 : Int32} {s : mb_S} {rv : Unit} {rs : mb_S}
    (h : mF_pass x1 x2 x3 x4 s = some (rv, rs)) : mb_MV l y_F_pass ws_F_pass rm_F_pass mb_ZX vwCl D [(cI, .int), (cZ, .boolean), (cJ, .long)] (WX X cI cZ cJ) [.ref (X 3), .int x1, .int x2, .int x3, .int x4] s rs := by
  refine mb_ofV mb_ZXok (by decide) rfl (Nat.le_of_ble_eq_true rfl) mb_DXok ?_
  intro p e s0 m args below meth c Q A Cx hret
  have hR : 3 ≤ (rm_F_pass).frames ∧ 74 ≤ (rm_F_pass).locals := ⟨Nat.le_refl _, Nat.le_refl _⟩
  intro ls H locs hl hP hS
  have Cx0 := Cx
  obtain ⟨⟨hx, hb, hml, hown, hts⟩, hK, hD, hA, hZ⟩ := Cx0
  have hl : lv_has ls 7 [(0, .ref (X 3)), (1, .int x1), (2, .int x2), (3, .int x3), (4, .int x4)] := hl
  unfold mF_pass at h
  refine lv_aload_n hx hb d_F_pass_0 rfl (lv_at hl 0 rfl) ?_
  refine va_get (ci := 3) (C := cnF) (T := fTF) (N := 7) hx hb hts uwF hown hK hP 3 rfl rfl 0 (by decide) (hts _ wd_125) (fun _ h9 => h9) rfl d_F_pass_1 ?_
  refine va_get (ci := 1) (C := cnP) (T := fTP) (N := 12) hx hb hts uwP hown hK hP 1 rfl rfl 0 (by decide) (hts _ wd_29) (fun _ h9 => h9) rfl d_F_pass_4 ?_
  refine lv_iload_n hx hb d_F_pass_7 rfl (lv_at hl 2 rfl) ?_
  refine mb_iald hx hb hK hP 5 0 rfl rfl h d_F_pass_8 (fun v5 h => ?_)
  refine lv_istore (lv' := [(5, .int v5), (0, .ref (X 3)), (1, .int x1), (2, .int x2), (3, .int x3), (4, .int x4)]) hx hb d_F_pass_9 hl (by decide) rfl (fun ls hl => ?_)
  refine lv_iload hx hb d_F_pass_11 (lv_at hl 0 rfl) ?_
  refine lv_bipush (v := (7 : Int32)) hx hb d_F_pass_13 (by decide) ?_
  refine lv_icmp_ne hx hb d_F_pass_15 rfl (fun hc => ?_) (fun hc => ?_)
  · have h := mb_f hc h
    refine lv_iload hx hb d_F_pass_28 (lv_at hl 0 rfl) ?_
    refine lv_bipush (v := (10 : Int32)) hx hb d_F_pass_30 (by decide) ?_
    refine lv_icmp_ne hx hb d_F_pass_32 rfl (fun hc => ?_) (fun hc => ?_)
    · have h := mb_f hc h
      refine lv_aload_n hx hb d_F_pass_74 rfl (lv_at hl 1 rfl) ?_
      refine lv_iload_n hx hb d_F_pass_75 rfl (lv_at hl 2 rfl) ?_
      refine lv_iload_n hx hb d_F_pass_76 rfl (lv_at hl 3 rfl) ?_
      refine lv_iload hx hb d_F_pass_77 (lv_at hl 5 rfl) ?_
      obtain ⟨v6, s7, hs7, h⟩ := mb_cal_ex h
      refine mb_goI Cx (mb_runV (As := [.int x1, .int x2, .int x4]) (rest := []) mb_ZXok Cx (w_F_changed l D X cI cZ cJ hs7 H.size) (mb_cwV 3 hts wd_378 wd_380 sel_22 wd_5 wd_381 rfl rfl rfl (by decide +kernel) ⟨Nat.le_trans (by decide) hR.1, Nat.le_trans (by decide) hR.2⟩) hP hS 3 rfl rfl rfl hl.1 rfl (Nat.le_of_ble_eq_true rfl) d_F_pass_79) hS (fun H locs hP hS => ?_)
      refine lv_istore (lv' := [(6, .int v6), (5, .int v5), (0, .ref (X 3)), (1, .int x1), (2, .int x2), (3, .int x3), (4, .int x4)]) hx hb d_F_pass_82 hl (by decide) rfl (fun ls hl => ?_)
      refine lv_iload hx hb d_F_pass_84 (lv_at hl 1 rfl) ?_
      refine lv_bipush (v := (9 : Int32)) hx hb d_F_pass_86 (by decide) ?_
      refine lv_icmp_eq hx hb d_F_pass_88 rfl (fun hc => ?_) (fun hc => ?_)
      · have h := mb_t hc h
        exact zF_pass_b101 Cx hR hret  x1 x2 x3 v5 v6 s7 h ls H locs (lv_sub hl [2, 3, 4, 5, 1, 0] rfl) hP hS
      · have h := mb_f hc h
        refine lv_aload_n hx hb d_F_pass_91 rfl (lv_at hl 2 rfl) ?_
        refine lv_iload_n hx hb d_F_pass_92 rfl (lv_at hl 4 rfl) ?_
        refine lv_iconst (v := (1 : Int32)) hx hb d_F_pass_93 (by decide) ?_
        refine lv_iadd hx hb d_F_pass_94 ?_
        refine lv_iload_n hx hb d_F_pass_95 rfl (lv_at hl 5 rfl) ?_
        refine lv_iload hx hb d_F_pass_96 (lv_at hl 0 rfl) ?_
        obtain ⟨_u, s8, hs8, h⟩ := mb_cal_ex h
        refine mb_goV Cx (mb_runV (As := [.int (x2 + (1 : Int32)), .int x3, .int v6]) (rest := []) mb_ZXok Cx (w_F_growHeld l D X cI cZ cJ hs8 H.size) (mb_cwV 3 hts wd_345 wd_347 sel_14 wd_5 wd_348 rfl rfl rfl (by decide +kernel) ⟨Nat.le_trans (by decide) hR.1, Nat.le_trans (by decide) hR.2⟩) hP hS 3 rfl rfl rfl hl.1 rfl (Nat.le_of_ble_eq_true rfl) d_F_pass_98) hS (fun H locs hP hS => ?_)
        exact zF_pass_b101 Cx hR hret  x1 x2 x3 v5 v6 s8 h ls H locs (lv_sub hl [2, 3, 4, 5, 1, 0] rfl) hP hS
    · have h := mb_t hc h
      refine lv_iload hx hb d_F_pass_35 (lv_at hl 5 rfl) ?_
      refine lv_aload_n hx hb d_F_pass_37 rfl (lv_at hl 1 rfl) ?_
      refine va_get (ci := 3) (C := cnF) (T := fTF) (N := 7) hx hb hts uwF hown hK hP 3 rfl rfl 0 (by decide) (hts _ wd_125) (fun _ h9 => h9) rfl d_F_pass_38 ?_
      refine va_get (ci := 1) (C := cnP) (T := fTP) (N := 12) hx hb hts uwP hown hK hP 1 rfl rfl 1 (by decide) (hts _ wd_33) (fun _ h9 => h9) rfl d_F_pass_41 ?_
      refine lv_iload_n hx hb d_F_pass_44 rfl (lv_at hl 3 rfl) ?_
      refine mb_iald hx hb hK hP 6 0 rfl rfl h d_F_pass_45 (fun v9 h => ?_)
      obtain ⟨v10, hv10, h⟩ := mb_cal0_ex h
      refine mb_go0I (st := s) Cx (mb_runSN0 (As := [.int x4, .int v9]) (rest := []) Cx (w_X_has l D hv10 H.size) (mb_cn 2 hts wd_329 wd_284 wd_1 wd_285 rfl rfl rfl (by decide +kernel) ⟨Nat.le_trans (by decide) hR.1, Nat.le_trans (by decide) hR.2⟩) rfl hl.1 rfl (Nat.le_of_ble_eq_true rfl) d_F_pass_46) hP hS (fun H locs hP hS => ?_)
      refine lv_if_eq hx hb d_F_pass_49 rfl (fun hc => ?_) (fun hc => ?_)
      · have h := mb_t hc h
        refine lv_iconst (v := (0 : Int32)) hx hb d_F_pass_56 (by decide) ?_
        exact zF_pass_b57 Cx hR hret  x1 x3 x4 (0 : Int32) s h ls H locs (lv_sub hl [1, 2, 4, 5] rfl) hP hS
      · have h := mb_f hc h
        refine lv_iconst (v := (1 : Int32)) hx hb d_F_pass_52 (by decide) ?_
        refine lv_goto hx hb d_F_pass_53 rfl ?_
        exact zF_pass_b57 Cx hR hret  x1 x3 x4 (1 : Int32) s h ls H locs (lv_sub hl [1, 2, 4, 5] rfl) hP hS
  · have h := mb_t hc h
    refine lv_aload_n hx hb d_F_pass_18 rfl (lv_at hl 1 rfl) ?_
    refine lv_iload_n hx hb d_F_pass_19 rfl (lv_at hl 2 rfl) ?_
    refine lv_iload_n hx hb d_F_pass_20 rfl (lv_at hl 3 rfl) ?_
    refine lv_iload_n hx hb d_F_pass_21 rfl (lv_at hl 4 rfl) ?_
    refine lv_iload hx hb d_F_pass_22 (lv_at hl 5 rfl) ?_
    obtain ⟨_u, s11, hs11, h⟩ := mb_cal_ex h
    refine mb_goV Cx (mb_runV (As := [.int x1, .int x2, .int x3, .int x4]) (rest := []) mb_ZXok Cx (w_F_call l D X cI cZ cJ hs11 H.size) (mb_cwV 4 hts wd_362 wd_364 sel_18 wd_5 wd_365 rfl rfl rfl (by decide +kernel) ⟨Nat.le_trans (by decide) hR.1, Nat.le_trans (by decide) hR.2⟩) hP hS 3 rfl rfl rfl hl.1 rfl (Nat.le_of_ble_eq_true rfl) d_F_pass_24) hS (fun H locs hP hS => ?_)
    exact mb_eV hret h d_F_pass_27 hP hS
set_option maxRecDepth 100000 in
set_option maxHeartbeats 4000000 in
theorem zF_endAll_l2 {p : Program} {l : Launch} {e : Env} {R : Room} {s0 : State} {m : MethodId} {args : Array Value} {below : List Frame} {meth : Method} {c : Code} {Q : State → Prop} {A : Nat → Prop} {D : va_G} {X : Nat → Nat} {cI cZ cJ : ClassId} {rv : Unit} {rs : mb_S}
    (Cx : mb_C p s0 m args meth c c_F_endAll 4 lw_w cnF mb_ZX vwCl D [(cI, .int), (cZ, .boolean), (cJ, .long)] A (WX X cI cZ cJ)) (hR : 1 ≤ R.frames ∧ 24 ≤ R.locals)
    (hret : mb_R p l e R s0 m args below meth c Q vwCl D A (WX X cI cZ cJ) c_F_endAll .return_ [] rs)  :
    ∀ (n : Nat) (x1 : Int32) (x2 : Int32) (x3 : Int32) (s : mb_S), mF_endAll_l2  n x1 x2 x3 s = some (rv, rs) → mb_B p l e R s0 m args below meth c Q vwCl D A (WX X cI cZ cJ) 4 [(0, .ref (X 3)), (1, .int x1), (2, .int x2), (3, .int x3)] [] 2 s := by
  intro n
  induction n with
  | zero => intro x1 x2 x3 s h; cases h
  | succ n ih =>
    intro x1 x2 x3 s h
    rw [mF_endAll_l2_s] at h
    intro ls H locs hl hP hS
    have Cx0 := Cx
    obtain ⟨⟨hx, hb, hml, hown, hts⟩, hK, hD, hA, hZ⟩ := Cx0
    refine lv_iload_n hx hb d_F_endAll_2 rfl (lv_at hl 3 rfl) ?_
    refine lv_bipush (v := (20 : Int32)) hx hb d_F_endAll_3 (by decide) ?_
    refine lv_icmp_ge hx hb d_F_endAll_5 rfl (fun hc => ?_) (fun hc => ?_)
    · have h := mb_t hc h
      exact mb_eV hret h d_F_endAll_34 hP hS
    · have h := mb_f hc h
      refine lv_aload_n hx hb d_F_endAll_8 rfl (lv_at hl 0 rfl) ?_
      refine lv_iload_n hx hb d_F_endAll_9 rfl (lv_at hl 1 rfl) ?_
      refine lv_iload_n hx hb d_F_endAll_10 rfl (lv_at hl 3 rfl) ?_
      refine lv_aload_n hx hb d_F_endAll_11 rfl (lv_at hl 0 rfl) ?_
      refine va_get (ci := 3) (C := cnF) (T := fTF) (N := 7) hx hb hts uwF hown hK hP 3 rfl rfl 2 (by decide) (hts _ wd_127) (fun _ h9 => h9) rfl d_F_endAll_12 ?_
      refine lv_iload_n hx hb d_F_endAll_15 rfl (lv_at hl 2 rfl) ?_
      refine lv_bipush (v := (20 : Int32)) hx hb d_F_endAll_16 (by decide) ?_
      refine lv_imul hx hb d_F_endAll_18 ?_
      refine lv_iload_n hx hb d_F_endAll_19 rfl (lv_at hl 3 rfl) ?_
      refine lv_iadd hx hb d_F_endAll_20 ?_
      refine mb_iald hx hb hK hP 19 0 rfl rfl h d_F_endAll_21 (fun v1 h => ?_)
      refine lv_ldc (v := (65520 : Int32)) hx hb hown (hts _ wd_357) d_F_endAll_22 ?_
      refine lv_iand hx hb d_F_endAll_24 ?_
      obtain ⟨_u, s2, hs2, h⟩ := mb_cal_ex h
      refine mb_goV Cx (mb_runV (As := [.int x1, .int x3, .int (v1 &&& (65520 : Int32))]) (rest := []) mb_ZXok Cx (w_F_growExit l D X cI cZ cJ hs2 H.size) (mb_cwV 3 hts wd_374 wd_376 sel_21 wd_5 wd_377 rfl rfl rfl (by decide +kernel) ⟨Nat.le_trans (by decide) hR.1, Nat.le_trans (by decide) hR.2⟩) hP hS 3 rfl rfl rfl hl.1 rfl (Nat.le_of_ble_eq_true rfl) d_F_endAll_25) hS (fun H locs hP hS => ?_)
      obtain ⟨v3, ev3, h⟩ := mb_ex h
      refine lv_iinc (k := 3) (v := v3) (lv' := [(3, .int v3), (0, .ref (X 3)), (1, .int x1), (2, .int x2)]) hx hb d_F_endAll_28 hl rfl ev3 (by decide) rfl (fun ls hl => ?_)
      refine lv_goto hx hb d_F_endAll_31 rfl ?_
      exact ih x1 x2 v3 s2 h ls H locs (lv_sub hl [1, 2, 3, 0] rfl) hP hS
set_option maxRecDepth 100000 in
set_option maxHeartbeats 4000000 in
theorem w_F_endAll (l : Launch) (D : va_G) (X : Nat → Nat) (cI cZ cJ : ClassId) {x1 : Int32} {x2 : Int32} {s : mb_S} {rv : Unit} {rs : mb_S}
    (h : mF_endAll x1 x2 s = some (rv, rs)) : mb_MV l y_F_endAll ws_F_endAll rm_F_endAll mb_ZX vwCl D [(cI, .int), (cZ, .boolean), (cJ, .long)] (WX X cI cZ cJ) [.ref (X 3), .int x1, .int x2] s rs := by
  refine mb_ofV mb_ZXok (by decide) rfl (Nat.le_of_ble_eq_true rfl) mb_DXok ?_
  intro p e s0 m args below meth c Q A Cx hret
  have hR : 1 ≤ (rm_F_endAll).frames ∧ 24 ≤ (rm_F_endAll).locals := ⟨Nat.le_refl _, Nat.le_refl _⟩
  intro ls H locs hl hP hS
  have Cx0 := Cx
  obtain ⟨⟨hx, hb, hml, hown, hts⟩, hK, hD, hA, hZ⟩ := Cx0
  have hl : lv_has ls 4 [(0, .ref (X 3)), (1, .int x1), (2, .int x2)] := hl
  unfold mF_endAll at h
  refine lv_iconst (v := (0 : Int32)) hx hb d_F_endAll_0 (by decide) ?_
  refine lv_istore_n (lv' := [(3, .int (0 : Int32)), (0, .ref (X 3)), (1, .int x1), (2, .int x2)]) hx hb d_F_endAll_1 rfl hl (by decide) rfl (fun ls hl => ?_)
  exact zF_endAll_l2 Cx hR hret  mb_fuel x1 x2 (0 : Int32) s h ls H locs (lv_sub hl [1, 2, 3, 0] rfl) hP hS
