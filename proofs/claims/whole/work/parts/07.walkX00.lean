set_option maxRecDepth 100000 in
set_option maxHeartbeats 4000000 in
theorem zX_isBelow_b14 {p : Program} {l : Launch} {e : Env} {R : Room} {s0 : State} {m : MethodId} {args : Array Value} {below : List Frame} {meth : Method} {c : Code} {Q : State → Prop} {A : Nat → Prop} {D : va_G} {rv : Int32}
    (Cx : mb_C p s0 m args meth c c_X_isBelow 2 lw_w cnX (fun _ _ => True) vwCl D [] A (fun _ => [])) (hR : 0 ≤ R.frames ∧ 0 ≤ R.locals)
    (hret : (rv = 0 ∨ rv = 1) → mb_R p l e R s0 m args below meth c Q vwCl D A (fun _ => []) c_X_isBelow .ireturn [.int rv] mb_0)  (y0 : Int32)
    (h : mX_isBelow_b14  y0 = some rv) : mb_B p l e R s0 m args below meth c Q vwCl D A (fun _ => []) 2 [] [.int y0] 14 mb_0 := by
  unfold mX_isBelow_b14 at h
  intro ls H locs hl hP hS
  have Cx0 := Cx
  obtain ⟨⟨hx, hb, hml, hown, hts⟩, hK, hD, hA, hZ⟩ := Cx0
  exact mb_eZ0 hret h d_X_isBelow_14 hP hS
set_option maxRecDepth 100000 in
set_option maxHeartbeats 4000000 in
theorem zX_isBelow_b13 {p : Program} {l : Launch} {e : Env} {R : Room} {s0 : State} {m : MethodId} {args : Array Value} {below : List Frame} {meth : Method} {c : Code} {Q : State → Prop} {A : Nat → Prop} {D : va_G} {rv : Int32}
    (Cx : mb_C p s0 m args meth c c_X_isBelow 2 lw_w cnX (fun _ _ => True) vwCl D [] A (fun _ => [])) (hR : 0 ≤ R.frames ∧ 0 ≤ R.locals)
    (hret : (rv = 0 ∨ rv = 1) → mb_R p l e R s0 m args below meth c Q vwCl D A (fun _ => []) c_X_isBelow .ireturn [.int rv] mb_0)
    (h : mX_isBelow_b13   = some rv) : mb_B p l e R s0 m args below meth c Q vwCl D A (fun _ => []) 2 [] [] 13 mb_0 := by
  unfold mX_isBelow_b13 at h
  intro ls H locs hl hP hS
  have Cx0 := Cx
  obtain ⟨⟨hx, hb, hml, hown, hts⟩, hK, hD, hA, hZ⟩ := Cx0
  refine lv_iconst (v := (0 : Int32)) hx hb d_X_isBelow_13 (by decide) ?_
  exact zX_isBelow_b14 Cx hR hret  (0 : Int32) h ls H locs (lv_sub hl [] rfl) hP hS
set_option maxRecDepth 100000 in
set_option maxHeartbeats 4000000 in
theorem w_X_isBelow (l : Launch) (D : va_G) {x0 : Int32} {x1 : Int32} {rv : Int32}
    (h : mX_isBelow x0 x1 = some rv) : mb_MI l y_X_isBelow ws_X_isBelow rm_X_isBelow (fun _ _ => True) vwCl D [] (fun _ => []) [.int x0, .int x1] mb_0 rv mb_0 := by
  refine mb_ofZ mb_Z0ok (by decide) rfl (Nat.le_of_ble_eq_true rfl) mb_D0ok ?_
  intro p e s0 m args below meth c Q A Cx hret
  have hR : 0 ≤ (rm_X_isBelow).frames ∧ 0 ≤ (rm_X_isBelow).locals := ⟨Nat.le_refl _, Nat.le_refl _⟩
  intro ls H locs hl hP hS
  have Cx0 := Cx
  obtain ⟨⟨hx, hb, hml, hown, hts⟩, hK, hD, hA, hZ⟩ := Cx0
  have hl : lv_has ls 2 [(0, .int x0), (1, .int x1)] := hl
  unfold mX_isBelow at h
  refine lv_iload_n hx hb d_X_isBelow_0 rfl (lv_at hl 0 rfl) ?_
  refine lv_if_lt hx hb d_X_isBelow_1 rfl (fun hc => ?_) (fun hc => ?_)
  · have h := mb_t hc h
    exact zX_isBelow_b13 Cx hR hret   h ls H locs (lv_sub hl [] rfl) hP hS
  · have h := mb_f hc h
    refine lv_iload_n hx hb d_X_isBelow_4 rfl (lv_at hl 0 rfl) ?_
    refine lv_iload_n hx hb d_X_isBelow_5 rfl (lv_at hl 1 rfl) ?_
    refine lv_icmp_ge hx hb d_X_isBelow_6 rfl (fun hc => ?_) (fun hc => ?_)
    · have h := mb_t hc h
      exact zX_isBelow_b13 Cx hR hret   h ls H locs (lv_sub hl [] rfl) hP hS
    · have h := mb_f hc h
      refine lv_iconst (v := (1 : Int32)) hx hb d_X_isBelow_9 (by decide) ?_
      refine lv_goto hx hb d_X_isBelow_10 rfl ?_
      exact zX_isBelow_b14 Cx hR hret  (1 : Int32) h ls H locs (lv_sub hl [] rfl) hP hS
set_option maxRecDepth 100000 in
set_option maxHeartbeats 4000000 in
theorem zP_takes_b57 {p : Program} {l : Launch} {e : Env} {R : Room} {s0 : State} {m : MethodId} {args : Array Value} {below : List Frame} {meth : Method} {c : Code} {Q : State → Prop} {A : Nat → Prop} {D : va_G} {X : Nat → Nat} {cI cZ cJ : ClassId} {rv : Int32} {rs : mb_S}
    (Cx : mb_C p s0 m args meth c c_P_takes 3 lw_w cnP mb_ZX vwCl D [(cI, .int), (cZ, .boolean), (cJ, .long)] A (WX X cI cZ cJ)) (hR : 1 ≤ R.frames ∧ 21 ≤ R.locals)
    (hret : (rv = 0 ∨ rv = 1) → mb_R p l e R s0 m args below meth c Q vwCl D A (WX X cI cZ cJ) c_P_takes .ireturn [.int rv] rs)  (y0 : Int32) (s : mb_S)
    (h : mP_takes_b57  y0 s = some (rv, rs)) : mb_B p l e R s0 m args below meth c Q vwCl D A (WX X cI cZ cJ) 3 [] [.int y0] 57 s := by
  unfold mP_takes_b57 at h
  intro ls H locs hl hP hS
  have Cx0 := Cx
  obtain ⟨⟨hx, hb, hml, hown, hts⟩, hK, hD, hA, hZ⟩ := Cx0
  exact mb_eZ hret h d_P_takes_57 hP hS
set_option maxRecDepth 100000 in
set_option maxHeartbeats 4000000 in
theorem zP_takes_b56 {p : Program} {l : Launch} {e : Env} {R : Room} {s0 : State} {m : MethodId} {args : Array Value} {below : List Frame} {meth : Method} {c : Code} {Q : State → Prop} {A : Nat → Prop} {D : va_G} {X : Nat → Nat} {cI cZ cJ : ClassId} {rv : Int32} {rs : mb_S}
    (Cx : mb_C p s0 m args meth c c_P_takes 3 lw_w cnP mb_ZX vwCl D [(cI, .int), (cZ, .boolean), (cJ, .long)] A (WX X cI cZ cJ)) (hR : 1 ≤ R.frames ∧ 21 ≤ R.locals)
    (hret : (rv = 0 ∨ rv = 1) → mb_R p l e R s0 m args below meth c Q vwCl D A (WX X cI cZ cJ) c_P_takes .ireturn [.int rv] rs)   (s : mb_S)
    (h : mP_takes_b56  s = some (rv, rs)) : mb_B p l e R s0 m args below meth c Q vwCl D A (WX X cI cZ cJ) 3 [] [] 56 s := by
  unfold mP_takes_b56 at h
  intro ls H locs hl hP hS
  have Cx0 := Cx
  obtain ⟨⟨hx, hb, hml, hown, hts⟩, hK, hD, hA, hZ⟩ := Cx0
  refine lv_iconst (v := (0 : Int32)) hx hb d_P_takes_56 (by decide) ?_
  exact zP_takes_b57 Cx hR hret  (0 : Int32) s h ls H locs (lv_sub hl [] rfl) hP hS
set_option maxRecDepth 100000 in
set_option maxHeartbeats 4000000 in
theorem w_P_takes (l : Launch) (D : va_G) (X : Nat → Nat) (cI cZ cJ : ClassId) {x1 : Int32} {x2 : Int32} {s : mb_S} {rv : Int32} {rs : mb_S}
    (h : mP_takes x1 x2 s = some (rv, rs)) : mb_MI l y_P_takes ws_P_takes rm_P_takes mb_ZX vwCl D [(cI, .int), (cZ, .boolean), (cJ, .long)] (WX X cI cZ cJ) [.ref (X 1), .int x1, .int x2] s rv rs := by
  refine mb_ofZ mb_ZXok (by decide) rfl (Nat.le_of_ble_eq_true rfl) mb_DXok ?_
  intro p e s0 m args below meth c Q A Cx hret
  have hR : 1 ≤ (rm_P_takes).frames ∧ 21 ≤ (rm_P_takes).locals := ⟨Nat.le_refl _, Nat.le_refl _⟩
  intro ls H locs hl hP hS
  have Cx0 := Cx
  obtain ⟨⟨hx, hb, hml, hown, hts⟩, hK, hD, hA, hZ⟩ := Cx0
  have hl : lv_has ls 3 [(0, .ref (X 1)), (1, .int x1), (2, .int x2)] := hl
  unfold mP_takes at h
  refine lv_iload_n hx hb d_P_takes_0 rfl (lv_at hl 1 rfl) ?_
  refine lv_bipush (v := (6 : Int32)) hx hb d_P_takes_1 (by decide) ?_
  obtain ⟨v1, hv1, h⟩ := mb_cal0_ex h
  refine mb_go0I (st := s) Cx (mb_runSN0 (As := [.int x1, .int (6 : Int32)]) (rest := []) Cx (w_X_isBelow l D hv1 H.size) (mb_cn 2 hts wd_220 wd_221 wd_1 wd_222 rfl rfl rfl (by decide +kernel) ⟨Nat.le_trans (by decide) hR.1, Nat.le_trans (by decide) hR.2⟩) rfl hl.1 rfl (Nat.le_of_ble_eq_true rfl) d_P_takes_3) hP hS (fun H locs hP hS => ?_)
  refine lv_if_eq hx hb d_P_takes_6 rfl (fun hc => ?_) (fun hc => ?_)
  · have h := mb_t hc h
    exact zP_takes_b56 Cx hR hret  s h ls H locs (lv_sub hl [] rfl) hP hS
  · have h := mb_f hc h
    refine lv_iload_n hx hb d_P_takes_9 rfl (lv_at hl 2 rfl) ?_
    refine lv_bipush (v := (11 : Int32)) hx hb d_P_takes_10 (by decide) ?_
    obtain ⟨v2, hv2, h⟩ := mb_cal0_ex h
    refine mb_go0I (st := s) Cx (mb_runSN0 (As := [.int x2, .int (11 : Int32)]) (rest := []) Cx (w_X_isBelow l D hv2 H.size) (mb_cn 2 hts wd_220 wd_221 wd_1 wd_222 rfl rfl rfl (by decide +kernel) ⟨Nat.le_trans (by decide) hR.1, Nat.le_trans (by decide) hR.2⟩) rfl hl.1 rfl (Nat.le_of_ble_eq_true rfl) d_P_takes_12) hP hS (fun H locs hP hS => ?_)
    refine lv_if_eq hx hb d_P_takes_15 rfl (fun hc => ?_) (fun hc => ?_)
    · have h := mb_t hc h
      exact zP_takes_b56 Cx hR hret  s h ls H locs (lv_sub hl [] rfl) hP hS
    · have h := mb_f hc h
      refine lv_aload_n hx hb d_P_takes_18 rfl (lv_at hl 0 rfl) ?_
      refine va_get (ci := 1) (C := cnP) (T := fTP) (N := 12) hx hb hts uwP hown hK hP 1 rfl rfl 5 (by decide) (hts _ wd_48) (fun _ h9 => h9) rfl d_P_takes_19 ?_
      refine lv_iload_n hx hb d_P_takes_22 rfl (lv_at hl 1 rfl) ?_
      refine mb_iald hx hb hK hP 10 0 rfl rfl h d_P_takes_23 (fun v3 h => ?_)
      refine lv_bipush (v := (12 : Int32)) hx hb d_P_takes_24 (by decide) ?_
      refine lv_icmp_ge hx hb d_P_takes_26 rfl (fun hc => ?_) (fun hc => ?_)
      · have h := mb_t hc h
        exact zP_takes_b56 Cx hR hret  s h ls H locs (lv_sub hl [] rfl) hP hS
      · have h := mb_f hc h
        refine lv_aload_n hx hb d_P_takes_29 rfl (lv_at hl 0 rfl) ?_
        refine va_get (ci := 1) (C := cnP) (T := fTP) (N := 12) hx hb hts uwP hown hK hP 1 rfl rfl 11 (by decide) (hts _ wd_63) (fun _ h9 => h9) rfl d_P_takes_30 ?_
        refine lv_bipush (v := (32 : Int32)) hx hb d_P_takes_33 (by decide) ?_
        refine lv_icmp_ge hx hb d_P_takes_35 rfl (fun hc => ?_) (fun hc => ?_)
        · have h := mb_t hc h
          exact zP_takes_b56 Cx hR hret  s h ls H locs (lv_sub hl [] rfl) hP hS
        · have h := mb_f hc h
          refine lv_aload_n hx hb d_P_takes_38 rfl (lv_at hl 0 rfl) ?_
          refine va_get (ci := 1) (C := cnP) (T := fTP) (N := 12) hx hb hts uwP hown hK hP 1 rfl rfl 6 (by decide) (hts _ wd_53) (fun _ h9 => h9) rfl d_P_takes_39 ?_
          refine lv_iload_n hx hb d_P_takes_42 rfl (lv_at hl 2 rfl) ?_
          refine mb_iald hx hb hK hP 11 0 rfl rfl h d_P_takes_43 (fun v4 h => ?_)
          obtain ⟨tz, hz1, hz2⟩ := hZ
          refine va_gets hx hb hz1 hS hown (hts _ wd_223) (fun _ h9 => h9) d_P_takes_44 ?_
          refine lv_iload_n hx hb d_P_takes_47 rfl (lv_at hl 2 rfl) ?_
          obtain ⟨hiv5, h⟩ := mb_ld_ex h
          refine va_ti hx hb hz2 hS hiv5 rfl d_P_takes_48 ?_
          refine lv_topi (fun v5 ev5 => ?_)
          rw [← ev5] at h
          refine lv_icmp_ge hx hb d_P_takes_49 rfl (fun hc => ?_) (fun hc => ?_)
          · have h := mb_t hc h
            exact zP_takes_b56 Cx hR hret  s h ls H locs (lv_sub hl [] rfl) hP hS
          · have h := mb_f hc h
            refine lv_iconst (v := (1 : Int32)) hx hb d_P_takes_52 (by decide) ?_
            refine lv_goto hx hb d_P_takes_53 rfl ?_
            exact zP_takes_b57 Cx hR hret  (1 : Int32) s h ls H locs (lv_sub hl [] rfl) hP hS
set_option maxRecDepth 100000 in
set_option maxHeartbeats 4000000 in
theorem zX_operandsFit_b168 {p : Program} {l : Launch} {e : Env} {R : Room} {s0 : State} {m : MethodId} {args : Array Value} {below : List Frame} {meth : Method} {c : Code} {Q : State → Prop} {A : Nat → Prop} {D : va_G} {rv : Int32}
    (Cx : mb_C p s0 m args meth c c_X_operandsFit 4 lw_w cnX (fun _ _ => True) vwCl D [] A (fun _ => [])) (hR : 1 ≤ R.frames ∧ 21 ≤ R.locals)
    (hret : (rv = 0 ∨ rv = 1) → mb_R p l e R s0 m args below meth c Q vwCl D A (fun _ => []) c_X_operandsFit .ireturn [.int rv] mb_0)  (x1 : Int32)
    (h : mX_operandsFit_b168  x1 = some rv) : mb_B p l e R s0 m args below meth c Q vwCl D A (fun _ => []) 4 [(1, .int x1)] [] 168 mb_0 := by
  unfold mX_operandsFit_b168 at h
  intro ls H locs hl hP hS
  have Cx0 := Cx
  obtain ⟨⟨hx, hb, hml, hown, hts⟩, hK, hD, hA, hZ⟩ := Cx0
  refine lv_iload_n hx hb d_X_operandsFit_168 rfl (lv_at hl 0 rfl) ?_
  refine lv_iconst (v := (4 : Int32)) hx hb d_X_operandsFit_169 (by decide) ?_
  obtain ⟨v1, hv1, h⟩ := mb_cal0_ex h
  refine mb_go0I (st := mb_0) Cx (mb_runS0 (As := [.int x1, .int (4 : Int32)]) (rest := []) Cx (w_X_isBelow l D hv1 H.size) (mb_cwS 2 hts wd_228 wd_221 wd_1 wd_222 rfl rfl rfl (by decide +kernel) ⟨Nat.le_trans (by decide) hR.1, Nat.le_trans (by decide) hR.2⟩) rfl hl.1 rfl (Nat.le_of_ble_eq_true rfl) d_X_operandsFit_170) hP hS (fun H locs hP hS => ?_)
  exact mb_eZ0 hret h d_X_operandsFit_173 hP hS
set_option maxRecDepth 100000 in
set_option maxHeartbeats 4000000 in
theorem zX_operandsFit_b161 {p : Program} {l : Launch} {e : Env} {R : Room} {s0 : State} {m : MethodId} {args : Array Value} {below : List Frame} {meth : Method} {c : Code} {Q : State → Prop} {A : Nat → Prop} {D : va_G} {rv : Int32}
    (Cx : mb_C p s0 m args meth c c_X_operandsFit 4 lw_w cnX (fun _ _ => True) vwCl D [] A (fun _ => [])) (hR : 1 ≤ R.frames ∧ 21 ≤ R.locals)
    (hret : (rv = 0 ∨ rv = 1) → mb_R p l e R s0 m args below meth c Q vwCl D A (fun _ => []) c_X_operandsFit .ireturn [.int rv] mb_0)  (x1 : Int32)
    (h : mX_operandsFit_b161  x1 = some rv) : mb_B p l e R s0 m args below meth c Q vwCl D A (fun _ => []) 4 [(1, .int x1)] [] 161 mb_0 := by
  unfold mX_operandsFit_b161 at h
  intro ls H locs hl hP hS
  have Cx0 := Cx
  obtain ⟨⟨hx, hb, hml, hown, hts⟩, hK, hD, hA, hZ⟩ := Cx0
  refine lv_iload_n hx hb d_X_operandsFit_161 rfl (lv_at hl 0 rfl) ?_
  refine lv_bipush (v := (12 : Int32)) hx hb d_X_operandsFit_162 (by decide) ?_
  obtain ⟨v2, hv2, h⟩ := mb_cal0_ex h
  refine mb_go0I (st := mb_0) Cx (mb_runS0 (As := [.int x1, .int (12 : Int32)]) (rest := []) Cx (w_X_isBelow l D hv2 H.size) (mb_cwS 2 hts wd_228 wd_221 wd_1 wd_222 rfl rfl rfl (by decide +kernel) ⟨Nat.le_trans (by decide) hR.1, Nat.le_trans (by decide) hR.2⟩) rfl hl.1 rfl (Nat.le_of_ble_eq_true rfl) d_X_operandsFit_164) hP hS (fun H locs hP hS => ?_)
  exact mb_eZ0 hret h d_X_operandsFit_167 hP hS
set_option maxRecDepth 100000 in
set_option maxHeartbeats 4000000 in
theorem zX_operandsFit_b160 {p : Program} {l : Launch} {e : Env} {R : Room} {s0 : State} {m : MethodId} {args : Array Value} {below : List Frame} {meth : Method} {c : Code} {Q : State → Prop} {A : Nat → Prop} {D : va_G} {rv : Int32}
    (Cx : mb_C p s0 m args meth c c_X_operandsFit 4 lw_w cnX (fun _ _ => True) vwCl D [] A (fun _ => [])) (hR : 1 ≤ R.frames ∧ 21 ≤ R.locals)
    (hret : (rv = 0 ∨ rv = 1) → mb_R p l e R s0 m args below meth c Q vwCl D A (fun _ => []) c_X_operandsFit .ireturn [.int rv] mb_0)  (y0 : Int32)
    (h : mX_operandsFit_b160  y0 = some rv) : mb_B p l e R s0 m args below meth c Q vwCl D A (fun _ => []) 4 [] [.int y0] 160 mb_0 := by
  unfold mX_operandsFit_b160 at h
  intro ls H locs hl hP hS
  have Cx0 := Cx
  obtain ⟨⟨hx, hb, hml, hown, hts⟩, hK, hD, hA, hZ⟩ := Cx0
  exact mb_eZ0 hret h d_X_operandsFit_160 hP hS
set_option maxRecDepth 100000 in
set_option maxHeartbeats 4000000 in
theorem zX_operandsFit_b159 {p : Program} {l : Launch} {e : Env} {R : Room} {s0 : State} {m : MethodId} {args : Array Value} {below : List Frame} {meth : Method} {c : Code} {Q : State → Prop} {A : Nat → Prop} {D : va_G} {rv : Int32}
    (Cx : mb_C p s0 m args meth c c_X_operandsFit 4 lw_w cnX (fun _ _ => True) vwCl D [] A (fun _ => [])) (hR : 1 ≤ R.frames ∧ 21 ≤ R.locals)
    (hret : (rv = 0 ∨ rv = 1) → mb_R p l e R s0 m args below meth c Q vwCl D A (fun _ => []) c_X_operandsFit .ireturn [.int rv] mb_0)
    (h : mX_operandsFit_b159   = some rv) : mb_B p l e R s0 m args below meth c Q vwCl D A (fun _ => []) 4 [] [] 159 mb_0 := by
  unfold mX_operandsFit_b159 at h
  intro ls H locs hl hP hS
  have Cx0 := Cx
  obtain ⟨⟨hx, hb, hml, hown, hts⟩, hK, hD, hA, hZ⟩ := Cx0
  refine lv_iconst (v := (0 : Int32)) hx hb d_X_operandsFit_159 (by decide) ?_
  exact zX_operandsFit_b160 Cx hR hret  (0 : Int32) h ls H locs (lv_sub hl [] rfl) hP hS
set_option maxRecDepth 100000 in
set_option maxHeartbeats 4000000 in
theorem zX_operandsFit_b129 {p : Program} {l : Launch} {e : Env} {R : Room} {s0 : State} {m : MethodId} {args : Array Value} {below : List Frame} {meth : Method} {c : Code} {Q : State → Prop} {A : Nat → Prop} {D : va_G} {rv : Int32}
    (Cx : mb_C p s0 m args meth c c_X_operandsFit 4 lw_w cnX (fun _ _ => True) vwCl D [] A (fun _ => [])) (hR : 1 ≤ R.frames ∧ 21 ≤ R.locals)
    (hret : (rv = 0 ∨ rv = 1) → mb_R p l e R s0 m args below meth c Q vwCl D A (fun _ => []) c_X_operandsFit .ireturn [.int rv] mb_0)  (y0 : Int32)
    (h : mX_operandsFit_b129  y0 = some rv) : mb_B p l e R s0 m args below meth c Q vwCl D A (fun _ => []) 4 [] [.int y0] 129 mb_0 := by
  unfold mX_operandsFit_b129 at h
  intro ls H locs hl hP hS
  have Cx0 := Cx
  obtain ⟨⟨hx, hb, hml, hown, hts⟩, hK, hD, hA, hZ⟩ := Cx0
  exact mb_eZ0 hret h d_X_operandsFit_129 hP hS
set_option maxRecDepth 100000 in
set_option maxHeartbeats 4000000 in
theorem zX_operandsFit_b128 {p : Program} {l : Launch} {e : Env} {R : Room} {s0 : State} {m : MethodId} {args : Array Value} {below : List Frame} {meth : Method} {c : Code} {Q : State → Prop} {A : Nat → Prop} {D : va_G} {rv : Int32}
    (Cx : mb_C p s0 m args meth c c_X_operandsFit 4 lw_w cnX (fun _ _ => True) vwCl D [] A (fun _ => [])) (hR : 1 ≤ R.frames ∧ 21 ≤ R.locals)
    (hret : (rv = 0 ∨ rv = 1) → mb_R p l e R s0 m args below meth c Q vwCl D A (fun _ => []) c_X_operandsFit .ireturn [.int rv] mb_0)
    (h : mX_operandsFit_b128   = some rv) : mb_B p l e R s0 m args below meth c Q vwCl D A (fun _ => []) 4 [] [] 128 mb_0 := by
  unfold mX_operandsFit_b128 at h
  intro ls H locs hl hP hS
  have Cx0 := Cx
  obtain ⟨⟨hx, hb, hml, hown, hts⟩, hK, hD, hA, hZ⟩ := Cx0
  refine lv_iconst (v := (0 : Int32)) hx hb d_X_operandsFit_128 (by decide) ?_
  exact zX_operandsFit_b129 Cx hR hret  (0 : Int32) h ls H locs (lv_sub hl [] rfl) hP hS
set_option maxRecDepth 100000 in
set_option maxHeartbeats 4000000 in
theorem zX_operandsFit_b100 {p : Program} {l : Launch} {e : Env} {R : Room} {s0 : State} {m : MethodId} {args : Array Value} {below : List Frame} {meth : Method} {c : Code} {Q : State → Prop} {A : Nat → Prop} {D : va_G} {rv : Int32}
    (Cx : mb_C p s0 m args meth c c_X_operandsFit 4 lw_w cnX (fun _ _ => True) vwCl D [] A (fun _ => [])) (hR : 1 ≤ R.frames ∧ 21 ≤ R.locals)
    (hret : (rv = 0 ∨ rv = 1) → mb_R p l e R s0 m args below meth c Q vwCl D A (fun _ => []) c_X_operandsFit .ireturn [.int rv] mb_0)  (x1 : Int32) (x2 : Int32) (x3 : Int32)
    (h : mX_operandsFit_b100  x1 x2 x3 = some rv) : mb_B p l e R s0 m args below meth c Q vwCl D A (fun _ => []) 4 [(1, .int x1), (2, .int x2), (3, .int x3)] [] 100 mb_0 := by
  unfold mX_operandsFit_b100 at h
  intro ls H locs hl hP hS
  have Cx0 := Cx
  obtain ⟨⟨hx, hb, hml, hown, hts⟩, hK, hD, hA, hZ⟩ := Cx0
  refine lv_iload_n hx hb d_X_operandsFit_100 rfl (lv_at hl 0 rfl) ?_
  refine lv_iconst (v := (4 : Int32)) hx hb d_X_operandsFit_101 (by decide) ?_
  obtain ⟨v3, hv3, h⟩ := mb_cal0_ex h
  refine mb_go0I (st := mb_0) Cx (mb_runS0 (As := [.int x1, .int (4 : Int32)]) (rest := []) Cx (w_X_isBelow l D hv3 H.size) (mb_cwS 2 hts wd_228 wd_221 wd_1 wd_222 rfl rfl rfl (by decide +kernel) ⟨Nat.le_trans (by decide) hR.1, Nat.le_trans (by decide) hR.2⟩) rfl hl.1 rfl (Nat.le_of_ble_eq_true rfl) d_X_operandsFit_102) hP hS (fun H locs hP hS => ?_)
  refine lv_if_eq hx hb d_X_operandsFit_105 rfl (fun hc => ?_) (fun hc => ?_)
  · have h := mb_t hc h
    exact zX_operandsFit_b128 Cx hR hret   h ls H locs (lv_sub hl [] rfl) hP hS
  · have h := mb_f hc h
    refine lv_iload_n hx hb d_X_operandsFit_108 rfl (lv_at hl 1 rfl) ?_
    refine lv_iconst (v := (4 : Int32)) hx hb d_X_operandsFit_109 (by decide) ?_
    obtain ⟨v4, hv4, h⟩ := mb_cal0_ex h
    refine mb_go0I (st := mb_0) Cx (mb_runS0 (As := [.int x2, .int (4 : Int32)]) (rest := []) Cx (w_X_isBelow l D hv4 H.size) (mb_cwS 2 hts wd_228 wd_221 wd_1 wd_222 rfl rfl rfl (by decide +kernel) ⟨Nat.le_trans (by decide) hR.1, Nat.le_trans (by decide) hR.2⟩) rfl hl.1 rfl (Nat.le_of_ble_eq_true rfl) d_X_operandsFit_110) hP hS (fun H locs hP hS => ?_)
    refine lv_if_eq hx hb d_X_operandsFit_113 rfl (fun hc => ?_) (fun hc => ?_)
    · have h := mb_t hc h
      exact zX_operandsFit_b128 Cx hR hret   h ls H locs (lv_sub hl [] rfl) hP hS
    · have h := mb_f hc h
      refine lv_iload_n hx hb d_X_operandsFit_116 rfl (lv_at hl 2 rfl) ?_
      refine lv_iconst (v := (2 : Int32)) hx hb d_X_operandsFit_117 (by decide) ?_
      obtain ⟨v5, hv5, h⟩ := mb_cal0_ex h
      refine mb_go0I (st := mb_0) Cx (mb_runS0 (As := [.int x3, .int (2 : Int32)]) (rest := []) Cx (w_X_isBelow l D hv5 H.size) (mb_cwS 2 hts wd_228 wd_221 wd_1 wd_222 rfl rfl rfl (by decide +kernel) ⟨Nat.le_trans (by decide) hR.1, Nat.le_trans (by decide) hR.2⟩) rfl hl.1 rfl (Nat.le_of_ble_eq_true rfl) d_X_operandsFit_118) hP hS (fun H locs hP hS => ?_)
      refine lv_if_eq hx hb d_X_operandsFit_121 rfl (fun hc => ?_) (fun hc => ?_)
      · have h := mb_t hc h
        exact zX_operandsFit_b128 Cx hR hret   h ls H locs (lv_sub hl [] rfl) hP hS
      · have h := mb_f hc h
        refine lv_iconst (v := (1 : Int32)) hx hb d_X_operandsFit_124 (by decide) ?_
        refine lv_goto hx hb d_X_operandsFit_125 rfl ?_
        exact zX_operandsFit_b129 Cx hR hret  (1 : Int32) h ls H locs (lv_sub hl [] rfl) hP hS
set_option maxRecDepth 100000 in
set_option maxHeartbeats 4000000 in
theorem zX_operandsFit_b99 {p : Program} {l : Launch} {e : Env} {R : Room} {s0 : State} {m : MethodId} {args : Array Value} {below : List Frame} {meth : Method} {c : Code} {Q : State → Prop} {A : Nat → Prop} {D : va_G} {rv : Int32}
    (Cx : mb_C p s0 m args meth c c_X_operandsFit 4 lw_w cnX (fun _ _ => True) vwCl D [] A (fun _ => [])) (hR : 1 ≤ R.frames ∧ 21 ≤ R.locals)
    (hret : (rv = 0 ∨ rv = 1) → mb_R p l e R s0 m args below meth c Q vwCl D A (fun _ => []) c_X_operandsFit .ireturn [.int rv] mb_0)  (y0 : Int32)
    (h : mX_operandsFit_b99  y0 = some rv) : mb_B p l e R s0 m args below meth c Q vwCl D A (fun _ => []) 4 [] [.int y0] 99 mb_0 := by
  unfold mX_operandsFit_b99 at h
  intro ls H locs hl hP hS
  have Cx0 := Cx
  obtain ⟨⟨hx, hb, hml, hown, hts⟩, hK, hD, hA, hZ⟩ := Cx0
  exact mb_eZ0 hret h d_X_operandsFit_99 hP hS
set_option maxRecDepth 100000 in
set_option maxHeartbeats 4000000 in
theorem zX_operandsFit_b98 {p : Program} {l : Launch} {e : Env} {R : Room} {s0 : State} {m : MethodId} {args : Array Value} {below : List Frame} {meth : Method} {c : Code} {Q : State → Prop} {A : Nat → Prop} {D : va_G} {rv : Int32}
    (Cx : mb_C p s0 m args meth c c_X_operandsFit 4 lw_w cnX (fun _ _ => True) vwCl D [] A (fun _ => [])) (hR : 1 ≤ R.frames ∧ 21 ≤ R.locals)
    (hret : (rv = 0 ∨ rv = 1) → mb_R p l e R s0 m args below meth c Q vwCl D A (fun _ => []) c_X_operandsFit .ireturn [.int rv] mb_0)
    (h : mX_operandsFit_b98   = some rv) : mb_B p l e R s0 m args below meth c Q vwCl D A (fun _ => []) 4 [] [] 98 mb_0 := by
  unfold mX_operandsFit_b98 at h
  intro ls H locs hl hP hS
  have Cx0 := Cx
  obtain ⟨⟨hx, hb, hml, hown, hts⟩, hK, hD, hA, hZ⟩ := Cx0
  refine lv_iconst (v := (0 : Int32)) hx hb d_X_operandsFit_98 (by decide) ?_
  exact zX_operandsFit_b99 Cx hR hret  (0 : Int32) h ls H locs (lv_sub hl [] rfl) hP hS
set_option maxRecDepth 100000 in
set_option maxHeartbeats 4000000 in
theorem zX_operandsFit_b77 {p : Program} {l : Launch} {e : Env} {R : Room} {s0 : State} {m : MethodId} {args : Array Value} {below : List Frame} {meth : Method} {c : Code} {Q : State → Prop} {A : Nat → Prop} {D : va_G} {rv : Int32}
    (Cx : mb_C p s0 m args meth c c_X_operandsFit 4 lw_w cnX (fun _ _ => True) vwCl D [] A (fun _ => [])) (hR : 1 ≤ R.frames ∧ 21 ≤ R.locals)
    (hret : (rv = 0 ∨ rv = 1) → mb_R p l e R s0 m args below meth c Q vwCl D A (fun _ => []) c_X_operandsFit .ireturn [.int rv] mb_0)  (y0 : Int32)
    (h : mX_operandsFit_b77  y0 = some rv) : mb_B p l e R s0 m args below meth c Q vwCl D A (fun _ => []) 4 [] [.int y0] 77 mb_0 := by
  unfold mX_operandsFit_b77 at h
  intro ls H locs hl hP hS
  have Cx0 := Cx
  obtain ⟨⟨hx, hb, hml, hown, hts⟩, hK, hD, hA, hZ⟩ := Cx0
  exact mb_eZ0 hret h d_X_operandsFit_77 hP hS
set_option maxRecDepth 100000 in
set_option maxHeartbeats 4000000 in
theorem zX_operandsFit_b76 {p : Program} {l : Launch} {e : Env} {R : Room} {s0 : State} {m : MethodId} {args : Array Value} {below : List Frame} {meth : Method} {c : Code} {Q : State → Prop} {A : Nat → Prop} {D : va_G} {rv : Int32}
    (Cx : mb_C p s0 m args meth c c_X_operandsFit 4 lw_w cnX (fun _ _ => True) vwCl D [] A (fun _ => [])) (hR : 1 ≤ R.frames ∧ 21 ≤ R.locals)
    (hret : (rv = 0 ∨ rv = 1) → mb_R p l e R s0 m args below meth c Q vwCl D A (fun _ => []) c_X_operandsFit .ireturn [.int rv] mb_0)
    (h : mX_operandsFit_b76   = some rv) : mb_B p l e R s0 m args below meth c Q vwCl D A (fun _ => []) 4 [] [] 76 mb_0 := by
  unfold mX_operandsFit_b76 at h
  intro ls H locs hl hP hS
  have Cx0 := Cx
  obtain ⟨⟨hx, hb, hml, hown, hts⟩, hK, hD, hA, hZ⟩ := Cx0
  refine lv_iconst (v := (0 : Int32)) hx hb d_X_operandsFit_76 (by decide) ?_
  exact zX_operandsFit_b77 Cx hR hret  (0 : Int32) h ls H locs (lv_sub hl [] rfl) hP hS
set_option maxRecDepth 100000 in
set_option maxHeartbeats 4000000 in
theorem w_X_operandsFit (l : Launch) (D : va_G) {x0 : Int32} {x1 : Int32} {x2 : Int32} {x3 : Int32} {rv : Int32}
    (h : mX_operandsFit x0 x1 x2 x3 = some rv) : mb_MI l y_X_operandsFit ws_X_operandsFit rm_X_operandsFit (fun _ _ => True) vwCl D [] (fun _ => []) [.int x0, .int x1, .int x2, .int x3] mb_0 rv mb_0 := by
  refine mb_ofZ mb_Z0ok (by decide) rfl (Nat.le_of_ble_eq_true rfl) mb_D0ok ?_
  intro p e s0 m args below meth c Q A Cx hret
  have hR : 1 ≤ (rm_X_operandsFit).frames ∧ 21 ≤ (rm_X_operandsFit).locals := ⟨Nat.le_refl _, Nat.le_refl _⟩
  intro ls H locs hl hP hS
  have Cx0 := Cx
  obtain ⟨⟨hx, hb, hml, hown, hts⟩, hK, hD, hA, hZ⟩ := Cx0
  have hl : lv_has ls 4 [(0, .int x0), (1, .int x1), (2, .int x2), (3, .int x3)] := hl
  unfold mX_operandsFit at h
  refine lv_iload_n hx hb d_X_operandsFit_0 rfl (lv_at hl 0 rfl) ?_
  by_cases hc0 : x0 = (0 : Int32)
  · have h := mb_t hc0 h
    refine lv_tableIn (tgt := 56) hx hb d_X_operandsFit_1 (by rw [hc0]; decide) (by rw [hc0]; decide) (by rw [hc0]; rfl) rfl ?_
    refine lv_iload_n hx hb d_X_operandsFit_56 rfl (lv_at hl 1 rfl) ?_
    refine lv_iconst (v := (4 : Int32)) hx hb d_X_operandsFit_57 (by decide) ?_
    obtain ⟨v6, hv6, h⟩ := mb_cal0_ex h
    refine mb_go0I (st := mb_0) Cx (mb_runS0 (As := [.int x1, .int (4 : Int32)]) (rest := []) Cx (w_X_isBelow l D hv6 H.size) (mb_cwS 2 hts wd_228 wd_221 wd_1 wd_222 rfl rfl rfl (by decide +kernel) ⟨Nat.le_trans (by decide) hR.1, Nat.le_trans (by decide) hR.2⟩) rfl hl.1 rfl (Nat.le_of_ble_eq_true rfl) d_X_operandsFit_58) hP hS (fun H locs hP hS => ?_)
    refine lv_if_eq hx hb d_X_operandsFit_61 rfl (fun hc => ?_) (fun hc => ?_)
    · have h := mb_t hc h
      exact zX_operandsFit_b76 Cx hR hret   h ls H locs (lv_sub hl [] rfl) hP hS
    · have h := mb_f hc h
      refine lv_iload_n hx hb d_X_operandsFit_64 rfl (lv_at hl 2 rfl) ?_
      refine lv_iconst (v := (4 : Int32)) hx hb d_X_operandsFit_65 (by decide) ?_
      obtain ⟨v7, hv7, h⟩ := mb_cal0_ex h
      refine mb_go0I (st := mb_0) Cx (mb_runS0 (As := [.int x2, .int (4 : Int32)]) (rest := []) Cx (w_X_isBelow l D hv7 H.size) (mb_cwS 2 hts wd_228 wd_221 wd_1 wd_222 rfl rfl rfl (by decide +kernel) ⟨Nat.le_trans (by decide) hR.1, Nat.le_trans (by decide) hR.2⟩) rfl hl.1 rfl (Nat.le_of_ble_eq_true rfl) d_X_operandsFit_66) hP hS (fun H locs hP hS => ?_)
      refine lv_if_eq hx hb d_X_operandsFit_69 rfl (fun hc => ?_) (fun hc => ?_)
      · have h := mb_t hc h
        exact zX_operandsFit_b76 Cx hR hret   h ls H locs (lv_sub hl [] rfl) hP hS
      · have h := mb_f hc h
        refine lv_iconst (v := (1 : Int32)) hx hb d_X_operandsFit_72 (by decide) ?_
        refine lv_goto hx hb d_X_operandsFit_73 rfl ?_
        exact zX_operandsFit_b77 Cx hR hret  (1 : Int32) h ls H locs (lv_sub hl [] rfl) hP hS
  have h := mb_f hc0 h
  by_cases hc4 : x0 = (4 : Int32)
  · have h := mb_t hc4 h
    refine lv_tableIn (tgt := 78) hx hb d_X_operandsFit_1 (by rw [hc4]; decide) (by rw [hc4]; decide) (by rw [hc4]; rfl) rfl ?_
    refine lv_iload_n hx hb d_X_operandsFit_78 rfl (lv_at hl 1 rfl) ?_
    refine lv_iconst (v := (4 : Int32)) hx hb d_X_operandsFit_79 (by decide) ?_
    obtain ⟨v8, hv8, h⟩ := mb_cal0_ex h
    refine mb_go0I (st := mb_0) Cx (mb_runS0 (As := [.int x1, .int (4 : Int32)]) (rest := []) Cx (w_X_isBelow l D hv8 H.size) (mb_cwS 2 hts wd_228 wd_221 wd_1 wd_222 rfl rfl rfl (by decide +kernel) ⟨Nat.le_trans (by decide) hR.1, Nat.le_trans (by decide) hR.2⟩) rfl hl.1 rfl (Nat.le_of_ble_eq_true rfl) d_X_operandsFit_80) hP hS (fun H locs hP hS => ?_)
    refine lv_if_eq hx hb d_X_operandsFit_83 rfl (fun hc => ?_) (fun hc => ?_)
    · have h := mb_t hc h
      exact zX_operandsFit_b98 Cx hR hret   h ls H locs (lv_sub hl [] rfl) hP hS
    · have h := mb_f hc h
      refine lv_iload_n hx hb d_X_operandsFit_86 rfl (lv_at hl 2 rfl) ?_
      refine lv_iconst (v := (4 : Int32)) hx hb d_X_operandsFit_87 (by decide) ?_
      obtain ⟨v9, hv9, h⟩ := mb_cal0_ex h
      refine mb_go0I (st := mb_0) Cx (mb_runS0 (As := [.int x2, .int (4 : Int32)]) (rest := []) Cx (w_X_isBelow l D hv9 H.size) (mb_cwS 2 hts wd_228 wd_221 wd_1 wd_222 rfl rfl rfl (by decide +kernel) ⟨Nat.le_trans (by decide) hR.1, Nat.le_trans (by decide) hR.2⟩) rfl hl.1 rfl (Nat.le_of_ble_eq_true rfl) d_X_operandsFit_88) hP hS (fun H locs hP hS => ?_)
      refine lv_if_eq hx hb d_X_operandsFit_91 rfl (fun hc => ?_) (fun hc => ?_)
      · have h := mb_t hc h
        exact zX_operandsFit_b98 Cx hR hret   h ls H locs (lv_sub hl [] rfl) hP hS
      · have h := mb_f hc h
        refine lv_iconst (v := (1 : Int32)) hx hb d_X_operandsFit_94 (by decide) ?_
        refine lv_goto hx hb d_X_operandsFit_95 rfl ?_
        exact zX_operandsFit_b99 Cx hR hret  (1 : Int32) h ls H locs (lv_sub hl [] rfl) hP hS
  have h := mb_f hc4 h
  by_cases hc5 : x0 = (5 : Int32)
  · have h := mb_t hc5 h
    refine lv_tableIn (tgt := 100) hx hb d_X_operandsFit_1 (by rw [hc5]; decide) (by rw [hc5]; decide) (by rw [hc5]; rfl) rfl ?_
    exact zX_operandsFit_b100 Cx hR hret  x1 x2 x3 h ls H locs (lv_sub hl [1, 2, 3] rfl) hP hS
  have h := mb_f hc5 h
  by_cases hc6 : x0 = (6 : Int32)
  · have h := mb_t hc6 h
    refine lv_tableIn (tgt := 100) hx hb d_X_operandsFit_1 (by rw [hc6]; decide) (by rw [hc6]; decide) (by rw [hc6]; rfl) rfl ?_
    exact zX_operandsFit_b100 Cx hR hret  x1 x2 x3 h ls H locs (lv_sub hl [1, 2, 3] rfl) hP hS
  have h := mb_f hc6 h
  by_cases hc7 : x0 = (7 : Int32)
  · have h := mb_t hc7 h
    refine lv_tableIn (tgt := 130) hx hb d_X_operandsFit_1 (by rw [hc7]; decide) (by rw [hc7]; decide) (by rw [hc7]; rfl) rfl ?_
    refine lv_iload_n hx hb d_X_operandsFit_130 rfl (lv_at hl 1 rfl) ?_
    refine lv_iconst (v := (4 : Int32)) hx hb d_X_operandsFit_131 (by decide) ?_
    obtain ⟨v10, hv10, h⟩ := mb_cal0_ex h
    refine mb_go0I (st := mb_0) Cx (mb_runS0 (As := [.int x1, .int (4 : Int32)]) (rest := []) Cx (w_X_isBelow l D hv10 H.size) (mb_cwS 2 hts wd_228 wd_221 wd_1 wd_222 rfl rfl rfl (by decide +kernel) ⟨Nat.le_trans (by decide) hR.1, Nat.le_trans (by decide) hR.2⟩) rfl hl.1 rfl (Nat.le_of_ble_eq_true rfl) d_X_operandsFit_132) hP hS (fun H locs hP hS => ?_)
    refine lv_if_eq hx hb d_X_operandsFit_135 rfl (fun hc => ?_) (fun hc => ?_)
    · have h := mb_t hc h
      exact zX_operandsFit_b159 Cx hR hret   h ls H locs (lv_sub hl [] rfl) hP hS
    · have h := mb_f hc h
      refine lv_iload_n hx hb d_X_operandsFit_138 rfl (lv_at hl 2 rfl) ?_
      refine lv_iconst (v := (4 : Int32)) hx hb d_X_operandsFit_139 (by decide) ?_
      obtain ⟨v11, hv11, h⟩ := mb_cal0_ex h
      refine mb_go0I (st := mb_0) Cx (mb_runS0 (As := [.int x2, .int (4 : Int32)]) (rest := []) Cx (w_X_isBelow l D hv11 H.size) (mb_cwS 2 hts wd_228 wd_221 wd_1 wd_222 rfl rfl rfl (by decide +kernel) ⟨Nat.le_trans (by decide) hR.1, Nat.le_trans (by decide) hR.2⟩) rfl hl.1 rfl (Nat.le_of_ble_eq_true rfl) d_X_operandsFit_140) hP hS (fun H locs hP hS => ?_)
      refine lv_if_eq hx hb d_X_operandsFit_143 rfl (fun hc => ?_) (fun hc => ?_)
      · have h := mb_t hc h
        exact zX_operandsFit_b159 Cx hR hret   h ls H locs (lv_sub hl [] rfl) hP hS
      · have h := mb_f hc h
        refine lv_iload_n hx hb d_X_operandsFit_146 rfl (lv_at hl 3 rfl) ?_
        refine lv_bipush (v := (12 : Int32)) hx hb d_X_operandsFit_147 (by decide) ?_
        obtain ⟨v12, hv12, h⟩ := mb_cal0_ex h
        refine mb_go0I (st := mb_0) Cx (mb_runS0 (As := [.int x3, .int (12 : Int32)]) (rest := []) Cx (w_X_isBelow l D hv12 H.size) (mb_cwS 2 hts wd_228 wd_221 wd_1 wd_222 rfl rfl rfl (by decide +kernel) ⟨Nat.le_trans (by decide) hR.1, Nat.le_trans (by decide) hR.2⟩) rfl hl.1 rfl (Nat.le_of_ble_eq_true rfl) d_X_operandsFit_149) hP hS (fun H locs hP hS => ?_)
        refine lv_if_eq hx hb d_X_operandsFit_152 rfl (fun hc => ?_) (fun hc => ?_)
        · have h := mb_t hc h
          exact zX_operandsFit_b159 Cx hR hret   h ls H locs (lv_sub hl [] rfl) hP hS
        · have h := mb_f hc h
          refine lv_iconst (v := (1 : Int32)) hx hb d_X_operandsFit_155 (by decide) ?_
          refine lv_goto hx hb d_X_operandsFit_156 rfl ?_
          exact zX_operandsFit_b160 Cx hR hret  (1 : Int32) h ls H locs (lv_sub hl [] rfl) hP hS
  have h := mb_f hc7 h
  by_cases hc8 : x0 = (8 : Int32)
  · have h := mb_t hc8 h
    refine lv_tableIn (tgt := 161) hx hb d_X_operandsFit_1 (by rw [hc8]; decide) (by rw [hc8]; decide) (by rw [hc8]; rfl) rfl ?_
    exact zX_operandsFit_b161 Cx hR hret  x1 h ls H locs (lv_sub hl [1] rfl) hP hS
  have h := mb_f hc8 h
  by_cases hc9 : x0 = (9 : Int32)
  · have h := mb_t hc9 h
    refine lv_tableIn (tgt := 161) hx hb d_X_operandsFit_1 (by rw [hc9]; decide) (by rw [hc9]; decide) (by rw [hc9]; rfl) rfl ?_
    exact zX_operandsFit_b161 Cx hR hret  x1 h ls H locs (lv_sub hl [1] rfl) hP hS
  have h := mb_f hc9 h
  have hn0 : ¬ Int32.toInt x0 = 0 := lv_neT hc0 (by decide)
  have hn4 : ¬ Int32.toInt x0 = 4 := lv_neT hc4 (by decide)
  have hn5 : ¬ Int32.toInt x0 = 5 := lv_neT hc5 (by decide)
  have hn6 : ¬ Int32.toInt x0 = 6 := lv_neT hc6 (by decide)
  have hn7 : ¬ Int32.toInt x0 = 7 := lv_neT hc7 (by decide)
  have hn8 : ¬ Int32.toInt x0 = 8 := lv_neT hc8 (by decide)
  have hn9 : ¬ Int32.toInt x0 = 9 := lv_neT hc9 (by decide)
  refine mb_tabD (tgt := 168) hx hb d_X_operandsFit_1 (fun h1 h2 => by rcases (show Int32.toInt x0 = 1 ∨ Int32.toInt x0 = 2 ∨ Int32.toInt x0 = 3 by omega) with q | q | q <;> (rw [q]; rfl)) rfl ?_
  exact zX_operandsFit_b168 Cx hR hret  x1 h ls H locs (lv_sub hl [1] rfl) hP hS
set_option maxRecDepth 100000 in
set_option maxHeartbeats 4000000 in
theorem zP_renumber_b106 {p : Program} {l : Launch} {e : Env} {R : Room} {s0 : State} {m : MethodId} {args : Array Value} {below : List Frame} {meth : Method} {c : Code} {Q : State → Prop} {A : Nat → Prop} {D : va_G} {X : Nat → Nat} {cI cZ cJ : ClassId} {rv : Unit} {rs : mb_S}
    (Cx : mb_C p s0 m args meth c c_P_renumber 6 lw_w cnP mb_ZX vwCl D [(cI, .int), (cZ, .boolean), (cJ, .long)] A (WX X cI cZ cJ)) (hR : 1 ≤ R.frames ∧ 23 ≤ R.locals)
    (hret : mb_R p l e R s0 m args below meth c Q vwCl D A (WX X cI cZ cJ) c_P_renumber .return_ [] rs) (k10 : Int32 → mb_S → Option (Unit × mb_S)) (hk10 : ∀ (x1 : Int32) (s : mb_S), k10 x1 s = some (rv, rs) → mb_B p l e R s0 m args below meth c Q vwCl D A (WX X cI cZ cJ) 6 [(0, .ref (X 1)), (1, .int x1)] [] 10 s) (k18 : Int32 → Int32 → mb_S → Option (Unit × mb_S)) (hk18 : ∀ (x1 : Int32) (x2 : Int32) (s : mb_S), k18 x1 x2 s = some (rv, rs) → mb_B p l e R s0 m args below meth c Q vwCl D A (WX X cI cZ cJ) 6 [(0, .ref (X 1)), (1, .int x1), (2, .int x2)] [] 18 s) (x1 : Int32) (x2 : Int32) (s : mb_S)
    (h : mP_renumber_b106 k10 k18 x1 x2 s = some (rv, rs)) : mb_B p l e R s0 m args below meth c Q vwCl D A (WX X cI cZ cJ) 6 [(0, .ref (X 1)), (1, .int x1), (2, .int x2)] [] 106 s := by
  unfold mP_renumber_b106 at h
  intro ls H locs hl hP hS
  have Cx0 := Cx
  obtain ⟨⟨hx, hb, hml, hown, hts⟩, hK, hD, hA, hZ⟩ := Cx0
  obtain ⟨v1, ev1, h⟩ := mb_ex h
  refine lv_iinc (k := 2) (v := v1) (lv' := [(2, .int v1), (0, .ref (X 1)), (1, .int x1)]) hx hb d_P_renumber_106 hl rfl ev1 (by decide) rfl (fun ls hl => ?_)
  refine lv_goto hx hb d_P_renumber_109 rfl ?_
  exact hk18 x1 v1 s h ls H locs (lv_sub hl [1, 2, 0] rfl) hP hS
set_option maxRecDepth 100000 in
set_option maxHeartbeats 4000000 in
theorem zP_renumber_l18 {p : Program} {l : Launch} {e : Env} {R : Room} {s0 : State} {m : MethodId} {args : Array Value} {below : List Frame} {meth : Method} {c : Code} {Q : State → Prop} {A : Nat → Prop} {D : va_G} {X : Nat → Nat} {cI cZ cJ : ClassId} {rv : Unit} {rs : mb_S}
    (Cx : mb_C p s0 m args meth c c_P_renumber 6 lw_w cnP mb_ZX vwCl D [(cI, .int), (cZ, .boolean), (cJ, .long)] A (WX X cI cZ cJ)) (hR : 1 ≤ R.frames ∧ 23 ≤ R.locals)
    (hret : mb_R p l e R s0 m args below meth c Q vwCl D A (WX X cI cZ cJ) c_P_renumber .return_ [] rs) (k10 : Int32 → mb_S → Option (Unit × mb_S)) (hk10 : ∀ (x1 : Int32) (s : mb_S), k10 x1 s = some (rv, rs) → mb_B p l e R s0 m args below meth c Q vwCl D A (WX X cI cZ cJ) 6 [(0, .ref (X 1)), (1, .int x1)] [] 10 s) :
    ∀ (n : Nat) (x1 : Int32) (x2 : Int32) (s : mb_S), mP_renumber_l18 k10 n x1 x2 s = some (rv, rs) → mb_B p l e R s0 m args below meth c Q vwCl D A (WX X cI cZ cJ) 6 [(0, .ref (X 1)), (1, .int x1), (2, .int x2)] [] 18 s := by
  intro n
  induction n with
  | zero => intro x1 x2 s h; cases h
  | succ n ih =>
    intro x1 x2 s h
    rw [mP_renumber_l18_s] at h
    intro ls H locs hl hP hS
    have Cx0 := Cx
    obtain ⟨⟨hx, hb, hml, hown, hts⟩, hK, hD, hA, hZ⟩ := Cx0
    refine lv_iload_n hx hb d_P_renumber_18 rfl (lv_at hl 2 rfl) ?_
    refine lv_aload_n hx hb d_P_renumber_19 rfl (lv_at hl 0 rfl) ?_
    refine va_get (ci := 1) (C := cnP) (T := fTP) (N := 12) hx hb hts uwP hown hK hP 1 rfl rfl 5 (by decide) (hts _ wd_48) (fun _ h9 => h9) rfl d_P_renumber_20 ?_
    refine lv_iload_n hx hb d_P_renumber_23 rfl (lv_at hl 1 rfl) ?_
    refine mb_iald hx hb hK hP 10 0 rfl rfl h d_P_renumber_24 (fun v2 h => ?_)
    refine lv_icmp_ge hx hb d_P_renumber_25 rfl (fun hc => ?_) (fun hc => ?_)
    · have h := mb_t hc h
      obtain ⟨v3, ev3, h⟩ := mb_ex h
      refine lv_iinc (k := 1) (v := v3) (lv' := [(1, .int v3), (0, .ref (X 1)), (2, .int x2)]) hx hb d_P_renumber_112 hl rfl ev3 (by decide) rfl (fun ls hl => ?_)
      refine lv_goto hx hb d_P_renumber_115 rfl ?_
      exact hk10 v3 s h ls H locs (lv_sub hl [1, 0] rfl) hP hS
    · have h := mb_f hc h
      refine lv_iload_n hx hb d_P_renumber_28 rfl (lv_at hl 1 rfl) ?_
      refine lv_bipush (v := (13 : Int32)) hx hb d_P_renumber_29 (by decide) ?_
      refine lv_imul hx hb d_P_renumber_31 ?_
      refine lv_iload_n hx hb d_P_renumber_32 rfl (lv_at hl 2 rfl) ?_
      refine lv_iadd hx hb d_P_renumber_33 ?_
      refine lv_topi (fun v4 ev4 => ?_)
      have h := mb_at ev4 h
      refine lv_istore_n (lv' := [(3, .int v4), (0, .ref (X 1)), (1, .int x1), (2, .int x2)]) hx hb d_P_renumber_34 rfl hl (by decide) rfl (fun ls hl => ?_)
      refine lv_aload_n hx hb d_P_renumber_35 rfl (lv_at hl 1 rfl) ?_
      refine va_get (ci := 1) (C := cnP) (T := fTP) (N := 12) hx hb hts uwP hown hK hP 1 rfl rfl 0 (by decide) (hts _ wd_27) (fun _ h9 => h9) rfl d_P_renumber_36 ?_
      refine lv_iload_n hx hb d_P_renumber_39 rfl (lv_at hl 0 rfl) ?_
      refine mb_iald hx hb hK hP 5 0 rfl rfl h d_P_renumber_40 (fun v5 h => ?_)
      refine lv_istore (lv' := [(4, .int v5), (3, .int v4), (0, .ref (X 1)), (1, .int x1), (2, .int x2)]) hx hb d_P_renumber_41 hl (by decide) rfl (fun ls hl => ?_)
      refine lv_aload_n hx hb d_P_renumber_43 rfl (lv_at hl 2 rfl) ?_
      refine va_get (ci := 1) (C := cnP) (T := fTP) (N := 12) hx hb hts uwP hown hK hP 1 rfl rfl 6 (by decide) (hts _ wd_53) (fun _ h9 => h9) rfl d_P_renumber_44 ?_
      refine lv_iload hx hb d_P_renumber_47 (lv_at hl 0 rfl) ?_
      refine mb_iald hx hb hK hP 11 0 rfl rfl h d_P_renumber_49 (fun v6 h => ?_)
      refine lv_istore (lv' := [(5, .int v6), (4, .int v5), (3, .int v4), (0, .ref (X 1)), (1, .int x1), (2, .int x2)]) hx hb d_P_renumber_50 hl (by decide) rfl (fun ls hl => ?_)
      refine lv_aload_n hx hb d_P_renumber_52 rfl (lv_at hl 3 rfl) ?_
      refine va_get (ci := 1) (C := cnP) (T := fTP) (N := 12) hx hb hts uwP hown hK hP 1 rfl rfl 6 (by decide) (hts _ wd_53) (fun _ h9 => h9) rfl d_P_renumber_53 ?_
      refine lv_iload hx hb d_P_renumber_56 (lv_at hl 1 rfl) ?_
      refine lv_dup2_11 hx hb d_P_renumber_58 rfl rfl ?_
      refine mb_iald hx hb hK hP 11 0 rfl rfl h d_P_renumber_59 (fun v7 h => ?_)
      refine lv_iconst (v := (1 : Int32)) hx hb d_P_renumber_60 (by decide) ?_
      refine lv_iadd hx hb d_P_renumber_61 ?_
      refine mb_iast (WS := WX X cI cZ cJ) hx hb hK hP hD hS 11 0 rfl rfl h d_P_renumber_62 rfl (fun H locs s8 hP hS h => ?_)
      refine lv_aload_n hx hb d_P_renumber_63 rfl (lv_at hl 3 rfl) ?_
      refine va_get (ci := 1) (C := cnP) (T := fTP) (N := 12) hx hb hts uwP hown hK hP 1 rfl rfl 4 (by decide) (hts _ wd_44) (fun _ h9 => h9) rfl d_P_renumber_64 ?_
      refine lv_iload_n hx hb d_P_renumber_67 rfl (lv_at hl 2 rfl) ?_
      refine lv_iload hx hb d_P_renumber_68 (lv_at hl 0 rfl) ?_
      refine mb_iast (WS := WX X cI cZ cJ) hx hb hK hP hD hS 9 0 rfl rfl h d_P_renumber_70 rfl (fun H locs s9 hP hS h => ?_)
      refine lv_iload hx hb d_P_renumber_71 (lv_at hl 1 rfl) ?_
      refine lv_if_ne hx hb d_P_renumber_73 rfl (fun hc => ?_) (fun hc => ?_)
      · have h := mb_f hc h
        refine lv_iload hx hb d_P_renumber_92 (lv_at hl 1 rfl) ?_
        refine lv_iconst (v := (2 : Int32)) hx hb d_P_renumber_94 (by decide) ?_
        refine lv_icmp_ne hx hb d_P_renumber_95 rfl (fun hc => ?_) (fun hc => ?_)
        · have h := mb_f hc h
          exact zP_renumber_b106 Cx hR hret k10 hk10 (mP_renumber_l18 k10 n) ih x1 x2 s9 h ls H locs (lv_sub hl [3, 4, 5] rfl) hP hS
        · have h := mb_t hc h
          refine lv_aload_n hx hb d_P_renumber_98 rfl (lv_at hl 3 rfl) ?_
          refine va_get (ci := 1) (C := cnP) (T := fTP) (N := 12) hx hb hts uwP hown hK hP 1 rfl rfl 8 (by decide) (hts _ wd_57) (fun _ h9 => h9) rfl d_P_renumber_99 ?_
          refine lv_iload hx hb d_P_renumber_102 (lv_at hl 0 rfl) ?_
          refine lv_iload_n hx hb d_P_renumber_104 rfl (lv_at hl 2 rfl) ?_
          refine mb_iast (WS := WX X cI cZ cJ) hx hb hK hP hD hS 13 0 rfl rfl h d_P_renumber_105 rfl (fun H locs s10 hP hS h => ?_)
          exact zP_renumber_b106 Cx hR hret k10 hk10 (mP_renumber_l18 k10 n) ih x1 x2 s10 h ls H locs (lv_sub hl [3, 4, 5] rfl) hP hS
      · have h := mb_t hc h
        refine lv_aload_n hx hb d_P_renumber_76 rfl (lv_at hl 3 rfl) ?_
        refine va_get (ci := 1) (C := cnP) (T := fTP) (N := 12) hx hb hts uwP hown hK hP 1 rfl rfl 7 (by decide) (hts _ wd_55) (fun _ h9 => h9) rfl d_P_renumber_77 ?_
        refine lv_iload hx hb d_P_renumber_80 (lv_at hl 0 rfl) ?_
        refine lv_aload_n hx hb d_P_renumber_82 rfl (lv_at hl 3 rfl) ?_
        refine va_get (ci := 1) (C := cnP) (T := fTP) (N := 12) hx hb hts uwP hown hK hP 1 rfl rfl 2 (by decide) (hts _ wd_36) (fun _ h9 => h9) rfl d_P_renumber_83 ?_
        refine lv_iload_n hx hb d_P_renumber_86 rfl (lv_at hl 2 rfl) ?_
        refine mb_iald hx hb hK hP 7 0 rfl rfl h d_P_renumber_87 (fun v11 h => ?_)
        refine mb_iast (WS := WX X cI cZ cJ) hx hb hK hP hD hS 12 0 rfl rfl h d_P_renumber_88 rfl (fun H locs s12 hP hS h => ?_)
        refine lv_goto hx hb d_P_renumber_89 rfl ?_
        exact zP_renumber_b106 Cx hR hret k10 hk10 (mP_renumber_l18 k10 n) ih x1 x2 s12 h ls H locs (lv_sub hl [3, 4, 5] rfl) hP hS
set_option maxRecDepth 100000 in
set_option maxHeartbeats 4000000 in
theorem zP_renumber_l10 {p : Program} {l : Launch} {e : Env} {R : Room} {s0 : State} {m : MethodId} {args : Array Value} {below : List Frame} {meth : Method} {c : Code} {Q : State → Prop} {A : Nat → Prop} {D : va_G} {X : Nat → Nat} {cI cZ cJ : ClassId} {rv : Unit} {rs : mb_S}
    (Cx : mb_C p s0 m args meth c c_P_renumber 6 lw_w cnP mb_ZX vwCl D [(cI, .int), (cZ, .boolean), (cJ, .long)] A (WX X cI cZ cJ)) (hR : 1 ≤ R.frames ∧ 23 ≤ R.locals)
    (hret : mb_R p l e R s0 m args below meth c Q vwCl D A (WX X cI cZ cJ) c_P_renumber .return_ [] rs)  :
    ∀ (n : Nat) (x1 : Int32) (s : mb_S), mP_renumber_l10  n x1 s = some (rv, rs) → mb_B p l e R s0 m args below meth c Q vwCl D A (WX X cI cZ cJ) 6 [(0, .ref (X 1)), (1, .int x1)] [] 10 s := by
  intro n
  induction n with
  | zero => intro x1 s h; cases h
  | succ n ih =>
    intro x1 s h
    rw [mP_renumber_l10_s] at h
    intro ls H locs hl hP hS
    have Cx0 := Cx
    obtain ⟨⟨hx, hb, hml, hown, hts⟩, hK, hD, hA, hZ⟩ := Cx0
    refine lv_iload_n hx hb d_P_renumber_10 rfl (lv_at hl 1 rfl) ?_
    refine lv_bipush (v := (6 : Int32)) hx hb d_P_renumber_11 (by decide) ?_
    refine lv_icmp_ge hx hb d_P_renumber_13 rfl (fun hc => ?_) (fun hc => ?_)
    · have h := mb_t hc h
      exact mb_eV hret h d_P_renumber_118 hP hS
    · have h := mb_f hc h
      refine lv_iconst (v := (0 : Int32)) hx hb d_P_renumber_16 (by decide) ?_
      refine lv_istore_n (lv' := [(2, .int (0 : Int32)), (0, .ref (X 1)), (1, .int x1)]) hx hb d_P_renumber_17 rfl hl (by decide) rfl (fun ls hl => ?_)
      exact zP_renumber_l18 Cx hR hret (mP_renumber_l10  n) ih mb_fuel x1 (0 : Int32) s h ls H locs (lv_sub hl [1, 2, 0] rfl) hP hS
set_option maxRecDepth 100000 in
set_option maxHeartbeats 4000000 in
theorem w_P_renumber (l : Launch) (D : va_G) (X : Nat → Nat) (cI cZ cJ : ClassId)  {s : mb_S} {rv : Unit} {rs : mb_S}
    (h : mP_renumber  s = some (rv, rs)) : mb_MV l y_P_renumber ws_P_renumber rm_P_renumber mb_ZX vwCl D [(cI, .int), (cZ, .boolean), (cJ, .long)] (WX X cI cZ cJ) [.ref (X 1)] s rs := by
  refine mb_ofV mb_ZXok (by decide) rfl (Nat.le_of_ble_eq_true rfl) mb_DXok ?_
  intro p e s0 m args below meth c Q A Cx hret
  have hR : 1 ≤ (rm_P_renumber).frames ∧ 23 ≤ (rm_P_renumber).locals := ⟨Nat.le_refl _, Nat.le_refl _⟩
  intro ls H locs hl hP hS
  have Cx0 := Cx
  obtain ⟨⟨hx, hb, hml, hown, hts⟩, hK, hD, hA, hZ⟩ := Cx0
  have hl : lv_has ls 6 [(0, .ref (X 1))] := hl
  unfold mP_renumber at h
  refine lv_aload_n hx hb d_P_renumber_0 rfl (lv_at hl 0 rfl) ?_
  refine va_get (ci := 1) (C := cnP) (T := fTP) (N := 12) hx hb hts uwP hown hK hP 1 rfl rfl 6 (by decide) (hts _ wd_53) (fun _ h9 => h9) rfl d_P_renumber_1 ?_
  refine lv_iconst (v := (0 : Int32)) hx hb d_P_renumber_4 (by decide) ?_
  refine mb_kfill (WS := WX X cI cZ cJ) Cx hP hS 11 rfl rfl h (mb_cwS 2 hts wd_24 wd_25 wd_3 wd_26 rfl rfl rfl (by decide +kernel) ⟨Nat.le_trans (by decide) hR.1, Nat.le_trans (by decide) hR.2⟩) (rest := []) hl.1 rfl (Nat.le_of_ble_eq_true rfl) d_P_renumber_5 (by decide) rfl (fun H locs s13 hP hS h => ?_)
  refine lv_iconst (v := (0 : Int32)) hx hb d_P_renumber_8 (by decide) ?_
  refine lv_istore_n (lv' := [(1, .int (0 : Int32)), (0, .ref (X 1))]) hx hb d_P_renumber_9 rfl hl (by decide) rfl (fun ls hl => ?_)
  exact zP_renumber_l10 Cx hR hret  mb_fuel (0 : Int32) s13 h ls H locs (lv_sub hl [1, 0] rfl) hP hS
set_option maxRecDepth 100000 in
set_option maxHeartbeats 4000000 in
theorem w_P_append (l : Launch) (D : va_G) (X : Nat → Nat) (cI cZ cJ : ClassId) {x1 : Int32} {x2 : Int32} {x3 : Int32} {x4 : Int32} {x5 : Int32} {s : mb_S} {rv : Int32} {rs : mb_S}
    (h : mP_append x1 x2 x3 x4 x5 s = some (rv, rs)) : mb_MI l y_P_append ws_P_append rm_P_append mb_ZX vwCl D [(cI, .int), (cZ, .boolean), (cJ, .long)] (WX X cI cZ cJ) [.ref (X 1), .int x1, .int x2, .int x3, .int x4, .int x5] s rv rs := by
  refine mb_ofI mb_ZXok (by decide) rfl (Nat.le_of_ble_eq_true rfl) mb_DXok ?_
  intro p e s0 m args below meth c Q A Cx hret
  have hR : 2 ≤ (rm_P_append).frames ∧ 48 ≤ (rm_P_append).locals := ⟨Nat.le_refl _, Nat.le_refl _⟩
  intro ls H locs hl hP hS
  have Cx0 := Cx
  obtain ⟨⟨hx, hb, hml, hown, hts⟩, hK, hD, hA, hZ⟩ := Cx0
  have hl : lv_has ls 8 [(0, .ref (X 1)), (1, .int x1), (2, .int x2), (3, .int x3), (4, .int x4), (5, .int x5)] := hl
  unfold mP_append at h
  refine lv_aload_n hx hb d_P_append_0 rfl (lv_at hl 0 rfl) ?_
  refine va_get (ci := 1) (C := cnP) (T := fTP) (N := 12) hx hb hts uwP hown hK hP 1 rfl rfl 5 (by decide) (hts _ wd_48) (fun _ h9 => h9) rfl d_P_append_1 ?_
  refine lv_iload_n hx hb d_P_append_4 rfl (lv_at hl 1 rfl) ?_
  refine mb_iald hx hb hK hP 10 0 rfl rfl h d_P_append_5 (fun v1 h => ?_)
  refine lv_istore (lv' := [(6, .int v1), (0, .ref (X 1)), (1, .int x1), (2, .int x2), (3, .int x3), (4, .int x4), (5, .int x5)]) hx hb d_P_append_6 hl (by decide) rfl (fun ls hl => ?_)
  refine lv_iload_n hx hb d_P_append_8 rfl (lv_at hl 2 rfl) ?_
  refine lv_bipush (v := (13 : Int32)) hx hb d_P_append_9 (by decide) ?_
  refine lv_imul hx hb d_P_append_11 ?_
  refine lv_iload hx hb d_P_append_12 (lv_at hl 0 rfl) ?_
  refine lv_iadd hx hb d_P_append_14 ?_
  refine lv_topi (fun v2 ev2 => ?_)
  have h := mb_at ev2 h
  refine lv_istore (lv' := [(7, .int v2), (6, .int v1), (0, .ref (X 1)), (1, .int x1), (2, .int x2), (3, .int x3), (4, .int x4), (5, .int x5)]) hx hb d_P_append_15 hl (by decide) rfl (fun ls hl => ?_)
  refine lv_aload_n hx hb d_P_append_17 rfl (lv_at hl 2 rfl) ?_
  refine va_get (ci := 1) (C := cnP) (T := fTP) (N := 12) hx hb hts uwP hown hK hP 1 rfl rfl 0 (by decide) (hts _ wd_27) (fun _ h9 => h9) rfl d_P_append_18 ?_
  refine lv_iload hx hb d_P_append_21 (lv_at hl 0 rfl) ?_
  refine lv_iload_n hx hb d_P_append_23 rfl (lv_at hl 4 rfl) ?_
  refine mb_iast (WS := WX X cI cZ cJ) hx hb hK hP hD hS 5 0 rfl rfl h d_P_append_24 rfl (fun H locs s3 hP hS h => ?_)
  refine lv_aload_n hx hb d_P_append_25 rfl (lv_at hl 2 rfl) ?_
  refine va_get (ci := 1) (C := cnP) (T := fTP) (N := 12) hx hb hts uwP hown hK hP 1 rfl rfl 1 (by decide) (hts _ wd_31) (fun _ h9 => h9) rfl d_P_append_26 ?_
  refine lv_iload hx hb d_P_append_29 (lv_at hl 0 rfl) ?_
  refine lv_iload_n hx hb d_P_append_31 rfl (lv_at hl 5 rfl) ?_
  refine mb_iast (WS := WX X cI cZ cJ) hx hb hK hP hD hS 6 0 rfl rfl h d_P_append_32 rfl (fun H locs s4 hP hS h => ?_)
  refine lv_aload_n hx hb d_P_append_33 rfl (lv_at hl 2 rfl) ?_
  refine va_get (ci := 1) (C := cnP) (T := fTP) (N := 12) hx hb hts uwP hown hK hP 1 rfl rfl 2 (by decide) (hts _ wd_36) (fun _ h9 => h9) rfl d_P_append_34 ?_
  refine lv_iload hx hb d_P_append_37 (lv_at hl 0 rfl) ?_
  refine lv_iload hx hb d_P_append_39 (lv_at hl 6 rfl) ?_
  refine mb_iast (WS := WX X cI cZ cJ) hx hb hK hP hD hS 7 0 rfl rfl h d_P_append_41 rfl (fun H locs s5 hP hS h => ?_)
  refine lv_aload_n hx hb d_P_append_42 rfl (lv_at hl 2 rfl) ?_
  refine va_get (ci := 1) (C := cnP) (T := fTP) (N := 12) hx hb hts uwP hown hK hP 1 rfl rfl 3 (by decide) (hts _ wd_40) (fun _ h9 => h9) rfl d_P_append_43 ?_
  refine lv_iload hx hb d_P_append_46 (lv_at hl 0 rfl) ?_
  refine lv_iload hx hb d_P_append_48 (lv_at hl 7 rfl) ?_
  refine mb_iast (WS := WX X cI cZ cJ) hx hb hK hP hD hS 8 0 rfl rfl h d_P_append_50 rfl (fun H locs s6 hP hS h => ?_)
  refine lv_aload_n hx hb d_P_append_51 rfl (lv_at hl 2 rfl) ?_
  refine va_get (ci := 1) (C := cnP) (T := fTP) (N := 12) hx hb hts uwP hown hK hP 1 rfl rfl 5 (by decide) (hts _ wd_48) (fun _ h9 => h9) rfl d_P_append_52 ?_
  refine lv_iload_n hx hb d_P_append_55 rfl (lv_at hl 3 rfl) ?_
  refine lv_dup2_11 hx hb d_P_append_56 rfl rfl ?_
  refine mb_iald hx hb hK hP 10 0 rfl rfl h d_P_append_57 (fun v7 h => ?_)
  refine lv_iconst (v := (1 : Int32)) hx hb d_P_append_58 (by decide) ?_
  refine lv_iadd hx hb d_P_append_59 ?_
  refine mb_iast (WS := WX X cI cZ cJ) hx hb hK hP hD hS 10 0 rfl rfl h d_P_append_60 rfl (fun H locs s8 hP hS h => ?_)
  refine lv_aload_n hx hb d_P_append_61 rfl (lv_at hl 2 rfl) ?_
  refine lv_dup hx hb d_P_append_62 rfl ?_
  refine va_get (ci := 1) (C := cnP) (T := fTP) (N := 12) hx hb hts uwP hown hK hP 1 rfl rfl 11 (by decide) (hts _ wd_63) (fun _ h9 => h9) rfl d_P_append_63 ?_
  refine lv_iconst (v := (1 : Int32)) hx hb d_P_append_66 (by decide) ?_
  refine lv_iadd hx hb d_P_append_67 ?_
  have h := mb_putF_ex h
  refine va_put (ci := 1) (v := .int ((mb_F s8 1) + (1 : Int32))) (ty := .int) (C := cnP) (T := fTP) (N := 12) hx hb hts uwP fyP fyP_ok fnP hown hK hP (hD _) hS 1 rfl rfl 11 (by decide) (hts _ wd_63) (fun _ h9 => h9) rfl (by decide +kernel) rfl rfl (Nat.le_of_ble_eq_true rfl) d_P_append_68 (fun H locs hP _ hS => ?_)
  have hP : va_P D vwCl (WX X cI cZ cJ (mb_setF s8 1 ((mb_F s8 1) + (1 : Int32)))) H := hP
  generalize mb_setF s8 1 ((mb_F s8 1) + (1 : Int32)) = s9 at hP h
  refine lv_aload_n hx hb d_P_append_71 rfl (lv_at hl 2 rfl) ?_
  obtain ⟨_u, s10, hs10, h⟩ := mb_cal_ex h
  refine mb_goV Cx (mb_runV (As := []) (rest := []) mb_ZXok Cx (w_P_renumber l D X cI cZ cJ hs10 H.size) (mb_cwV 0 hts wd_233 wd_235 sel_0 wd_2 wd_236 rfl rfl rfl (by decide +kernel) ⟨Nat.le_trans (by decide) hR.1, Nat.le_trans (by decide) hR.2⟩) hP hS 1 rfl rfl rfl hl.1 rfl (Nat.le_of_ble_eq_true rfl) d_P_append_72) hS (fun H locs hP hS => ?_)
  refine lv_iload hx hb d_P_append_75 (lv_at hl 1 rfl) ?_
  exact mb_eI hret h d_P_append_77 hP hS
set_option maxRecDepth 100000 in
set_option maxHeartbeats 4000000 in
theorem w_X_forget (l : Launch) (D : va_G) (X : Nat → Nat) (cI cZ cJ : ClassId)  {s : mb_S} {rv : Unit} {rs : mb_S}
    (h : mX_forget  s = some (rv, rs)) : mb_MV l y_X_forget ws_X_forget rm_X_forget mb_ZX vwCl D [(cI, .int), (cZ, .boolean), (cJ, .long)] (WX X cI cZ cJ) [.ref (X 0)] s rs := by
  refine mb_ofV mb_ZXok (by decide) rfl (Nat.le_of_ble_eq_true rfl) mb_DXok ?_
  intro p e s0 m args below meth c Q A Cx hret
  have hR : 0 ≤ (rm_X_forget).frames ∧ 0 ≤ (rm_X_forget).locals := ⟨Nat.le_refl _, Nat.le_refl _⟩
  intro ls H locs hl hP hS
  have Cx0 := Cx
  obtain ⟨⟨hx, hb, hml, hown, hts⟩, hK, hD, hA, hZ⟩ := Cx0
  have hl : lv_has ls 1 [(0, .ref (X 0))] := hl
  unfold mX_forget at h
  refine lv_aload_n hx hb d_X_forget_0 rfl (lv_at hl 0 rfl) ?_
  refine lv_iconst (v := (0 : Int32)) hx hb d_X_forget_1 (by decide) ?_
  have h := mb_putF_ex h
  refine va_put (ci := 0) (v := .int (0 : Int32)) (ty := .int) (C := cnX) (T := fTX) (N := 5) hx hb hts uwX fyX fyX_ok fnX hown hK hP (hD _) hS 0 rfl rfl 4 (by decide) (hts _ wd_200) (fun _ h9 => h9) rfl (by decide +kernel) rfl rfl (Nat.le_of_ble_eq_true rfl) d_X_forget_2 (fun H locs hP _ hS => ?_)
  have hP : va_P D vwCl (WX X cI cZ cJ (mb_setF s 0 (0 : Int32))) H := hP
  generalize mb_setF s 0 (0 : Int32) = s1 at hP h
  refine lv_aload_n hx hb d_X_forget_5 rfl (lv_at hl 0 rfl) ?_
  refine va_get (ci := 0) (C := cnX) (T := fTX) (N := 5) hx hb hts uwX hown hK hP 0 rfl rfl 3 (by decide) (hts _ wd_199) (fun _ h9 => h9) rfl d_X_forget_6 ?_
  refine lv_iconst (v := (0 : Int32)) hx hb d_X_forget_9 (by decide) ?_
  have h := mb_putF_ex h
  refine va_put (ci := 4) (v := .int (0 : Int32)) (ty := .int) (C := cnA) (T := fTA) (N := 13) hx hb hts uwA fyA fyA_ok fnA hown hK hP (hD _) hS 4 rfl rfl 12 (by decide) (hts _ wd_168) (fun _ h9 => h9) rfl (by decide +kernel) rfl rfl (Nat.le_of_ble_eq_true rfl) d_X_forget_10 (fun H locs hP _ hS => ?_)
  have hP : va_P D vwCl (WX X cI cZ cJ (mb_setF s1 10 (0 : Int32))) H := hP
  generalize mb_setF s1 10 (0 : Int32) = s2 at hP h
  exact mb_eV hret h d_X_forget_13 hP hS
set_option maxRecDepth 100000 in
set_option maxHeartbeats 4000000 in
theorem zX_add_b24 {p : Program} {l : Launch} {e : Env} {R : Room} {s0 : State} {m : MethodId} {args : Array Value} {below : List Frame} {meth : Method} {c : Code} {Q : State → Prop} {A : Nat → Prop} {D : va_G} {X : Nat → Nat} {cI cZ cJ : ClassId} {rv : Int32} {rs : mb_S}
    (Cx : mb_C p s0 m args meth c c_X_add 7 lw_w cnX mb_ZX vwCl D [(cI, .int), (cZ, .boolean), (cJ, .long)] A (WX X cI cZ cJ)) (hR : 3 ≤ R.frames ∧ 75 ≤ R.locals)
    (hret : mb_R p l e R s0 m args below meth c Q vwCl D A (WX X cI cZ cJ) c_X_add .ireturn [.int rv] rs)   (s : mb_S)
    (h : mX_add_b24  s = some (rv, rs)) : mb_B p l e R s0 m args below meth c Q vwCl D A (WX X cI cZ cJ) 7 [] [] 24 s := by
  unfold mX_add_b24 at h
  intro ls H locs hl hP hS
  have Cx0 := Cx
  obtain ⟨⟨hx, hb, hml, hown, hts⟩, hK, hD, hA, hZ⟩ := Cx0
  refine lv_iconst (v := (-1 : Int32)) hx hb d_X_add_24 (by decide) ?_
  exact mb_eI hret h d_X_add_25 hP hS
set_option maxRecDepth 100000 in
set_option maxHeartbeats 4000000 in
theorem w_X_add (l : Launch) (D : va_G) (X : Nat → Nat) (cI cZ cJ : ClassId) {x1 : Int32} {x2 : Int32} {x3 : Int32} {x4 : Int32} {x5 : Int32} {s : mb_S} {rv : Int32} {rs : mb_S}
    (h : mX_add x1 x2 x3 x4 x5 s = some (rv, rs)) : mb_MI l y_X_add ws_X_add rm_X_add mb_ZX vwCl D [(cI, .int), (cZ, .boolean), (cJ, .long)] (WX X cI cZ cJ) [.ref (X 0), .int x1, .int x2, .int x3, .int x4, .int x5] s rv rs := by
  refine mb_ofI mb_ZXok (by decide) rfl (Nat.le_of_ble_eq_true rfl) mb_DXok ?_
  intro p e s0 m args below meth c Q A Cx hret
  have hR : 3 ≤ (rm_X_add).frames ∧ 75 ≤ (rm_X_add).locals := ⟨Nat.le_refl _, Nat.le_refl _⟩
  intro ls H locs hl hP hS
  have Cx0 := Cx
  obtain ⟨⟨hx, hb, hml, hown, hts⟩, hK, hD, hA, hZ⟩ := Cx0
  have hl : lv_has ls 7 [(0, .ref (X 0)), (1, .int x1), (2, .int x2), (3, .int x3), (4, .int x4), (5, .int x5)] := hl
  unfold mX_add at h
  refine lv_aload_n hx hb d_X_add_0 rfl (lv_at hl 0 rfl) ?_
  refine va_get (ci := 0) (C := cnX) (T := fTX) (N := 5) hx hb hts uwX hown hK hP 0 rfl rfl 0 (by decide) (hts _ wd_196) (fun _ h9 => h9) rfl d_X_add_1 ?_
  refine lv_iload_n hx hb d_X_add_4 rfl (lv_at hl 1 rfl) ?_
  refine lv_iload_n hx hb d_X_add_5 rfl (lv_at hl 2 rfl) ?_
  obtain ⟨v1, s2, hs2, h⟩ := mb_cal_ex h
  refine mb_goI Cx (mb_runV (As := [.int x1, .int x2]) (rest := []) mb_ZXok Cx (w_P_takes l D X cI cZ cJ hs2 H.size) (mb_cwV 2 hts wd_216 wd_217 wd_218 wd_2 wd_219 rfl rfl rfl (by decide +kernel) ⟨Nat.le_trans (by decide) hR.1, Nat.le_trans (by decide) hR.2⟩) hP hS 1 rfl rfl rfl hl.1 rfl (Nat.le_of_ble_eq_true rfl) d_X_add_6) hS (fun H locs hP hS => ?_)
  refine lv_if_eq hx hb d_X_add_9 rfl (fun hc => ?_) (fun hc => ?_)
  · have h := mb_t hc h
    exact zX_add_b24 Cx hR hret  s2 h ls H locs (lv_sub hl [] rfl) hP hS
  · have h := mb_f hc h
    refine lv_iload_n hx hb d_X_add_12 rfl (lv_at hl 2 rfl) ?_
    refine lv_iload_n hx hb d_X_add_13 rfl (lv_at hl 3 rfl) ?_
    refine lv_iload hx hb d_X_add_14 (lv_at hl 4 rfl) ?_
    refine lv_iload hx hb d_X_add_16 (lv_at hl 5 rfl) ?_
    obtain ⟨v3, hv3, h⟩ := mb_cal0_ex h
    refine mb_go0I (st := s2) Cx (mb_runS0 (As := [.int x2, .int x3, .int x4, .int x5]) (rest := []) Cx (w_X_operandsFit l D hv3 H.size) (mb_cwS 4 hts wd_225 wd_226 wd_1 wd_227 rfl rfl rfl (by decide +kernel) ⟨Nat.le_trans (by decide) hR.1, Nat.le_trans (by decide) hR.2⟩) rfl hl.1 rfl (Nat.le_of_ble_eq_true rfl) d_X_add_18) hP hS (fun H locs hP hS => ?_)
    refine lv_if_ne hx hb d_X_add_21 rfl (fun hc => ?_) (fun hc => ?_)
    · have h := mb_f hc h
      refine lv_aload_n hx hb d_X_add_26 rfl (lv_at hl 0 rfl) ?_
      refine va_get (ci := 0) (C := cnX) (T := fTX) (N := 5) hx hb hts uwX hown hK hP 0 rfl rfl 0 (by decide) (hts _ wd_196) (fun _ h9 => h9) rfl d_X_add_27 ?_
      refine lv_iload_n hx hb d_X_add_30 rfl (lv_at hl 1 rfl) ?_
      refine lv_iload_n hx hb d_X_add_31 rfl (lv_at hl 2 rfl) ?_
      refine lv_iload_n hx hb d_X_add_32 rfl (lv_at hl 3 rfl) ?_
      refine lv_iload hx hb d_X_add_33 (lv_at hl 4 rfl) ?_
      refine lv_iload hx hb d_X_add_35 (lv_at hl 5 rfl) ?_
      obtain ⟨v4, s5, hs5, h⟩ := mb_cal_ex h
      refine mb_goI Cx (mb_runV (As := [.int x1, .int x2, .int x3, .int x4, .int x5]) (rest := []) mb_ZXok Cx (w_P_append l D X cI cZ cJ hs5 H.size) (mb_cwV 5 hts wd_229 wd_230 wd_231 wd_2 wd_232 rfl rfl rfl (by decide +kernel) ⟨Nat.le_trans (by decide) hR.1, Nat.le_trans (by decide) hR.2⟩) hP hS 1 rfl rfl rfl hl.1 rfl (Nat.le_of_ble_eq_true rfl) d_X_add_37) hS (fun H locs hP hS => ?_)
      refine lv_istore (lv' := [(6, .int v4), (0, .ref (X 0)), (1, .int x1), (2, .int x2), (3, .int x3), (4, .int x4), (5, .int x5)]) hx hb d_X_add_40 hl (by decide) rfl (fun ls hl => ?_)
      refine lv_aload_n hx hb d_X_add_42 rfl (lv_at hl 1 rfl) ?_
      obtain ⟨_u, s6, hs6, h⟩ := mb_cal_ex h
      refine mb_goV Cx (mb_runV (As := []) (rest := []) mb_ZXok Cx (w_X_forget l D X cI cZ cJ hs6 H.size) (mb_cwV 0 hts wd_237 wd_239 sel_1 wd_1 wd_240 rfl rfl rfl (by decide +kernel) ⟨Nat.le_trans (by decide) hR.1, Nat.le_trans (by decide) hR.2⟩) hP hS 0 rfl rfl rfl hl.1 rfl (Nat.le_of_ble_eq_true rfl) d_X_add_43) hS (fun H locs hP hS => ?_)
      refine lv_iload hx hb d_X_add_46 (lv_at hl 0 rfl) ?_
      exact mb_eI hret h d_X_add_48 hP hS
    · have h := mb_t hc h
      exact zX_add_b24 Cx hR hret  s2 h ls H locs (lv_sub hl [] rfl) hP hS
set_option maxRecDepth 100000 in
set_option maxHeartbeats 4000000 in
theorem w_P_cutLast (l : Launch) (D : va_G) (X : Nat → Nat) (cI cZ cJ : ClassId) {x1 : Int32} {s : mb_S} {rv : Unit} {rs : mb_S}
    (h : mP_cutLast x1 s = some (rv, rs)) : mb_MV l y_P_cutLast ws_P_cutLast rm_P_cutLast mb_ZX vwCl D [(cI, .int), (cZ, .boolean), (cJ, .long)] (WX X cI cZ cJ) [.ref (X 1), .int x1] s rs := by
  refine mb_ofV mb_ZXok (by decide) rfl (Nat.le_of_ble_eq_true rfl) mb_DXok ?_
  intro p e s0 m args below meth c Q A Cx hret
  have hR : 2 ≤ (rm_P_cutLast).frames ∧ 48 ≤ (rm_P_cutLast).locals := ⟨Nat.le_refl _, Nat.le_refl _⟩
  intro ls H locs hl hP hS
  have Cx0 := Cx
  obtain ⟨⟨hx, hb, hml, hown, hts⟩, hK, hD, hA, hZ⟩ := Cx0
  have hl : lv_has ls 2 [(0, .ref (X 1)), (1, .int x1)] := hl
  unfold mP_cutLast at h
  refine lv_aload_n hx hb d_P_cutLast_0 rfl (lv_at hl 0 rfl) ?_
  refine va_get (ci := 1) (C := cnP) (T := fTP) (N := 12) hx hb hts uwP hown hK hP 1 rfl rfl 5 (by decide) (hts _ wd_48) (fun _ h9 => h9) rfl d_P_cutLast_1 ?_
  refine lv_iload_n hx hb d_P_cutLast_4 rfl (lv_at hl 1 rfl) ?_
  refine lv_dup2_11 hx hb d_P_cutLast_5 rfl rfl ?_
  refine mb_iald hx hb hK hP 10 0 rfl rfl h d_P_cutLast_6 (fun v1 h => ?_)
  refine lv_iconst (v := (1 : Int32)) hx hb d_P_cutLast_7 (by decide) ?_
  refine lv_isub hx hb d_P_cutLast_8 ?_
  refine mb_iast (WS := WX X cI cZ cJ) hx hb hK hP hD hS 10 0 rfl rfl h d_P_cutLast_9 rfl (fun H locs s2 hP hS h => ?_)
  refine lv_aload_n hx hb d_P_cutLast_10 rfl (lv_at hl 0 rfl) ?_
  refine lv_dup hx hb d_P_cutLast_11 rfl ?_
  refine va_get (ci := 1) (C := cnP) (T := fTP) (N := 12) hx hb hts uwP hown hK hP 1 rfl rfl 11 (by decide) (hts _ wd_63) (fun _ h9 => h9) rfl d_P_cutLast_12 ?_
  refine lv_iconst (v := (1 : Int32)) hx hb d_P_cutLast_15 (by decide) ?_
  refine lv_isub hx hb d_P_cutLast_16 ?_
  have h := mb_putF_ex h
  refine va_put (ci := 1) (v := .int ((mb_F s2 1) - (1 : Int32))) (ty := .int) (C := cnP) (T := fTP) (N := 12) hx hb hts uwP fyP fyP_ok fnP hown hK hP (hD _) hS 1 rfl rfl 11 (by decide) (hts _ wd_63) (fun _ h9 => h9) rfl (by decide +kernel) rfl rfl (Nat.le_of_ble_eq_true rfl) d_P_cutLast_17 (fun H locs hP _ hS => ?_)
  have hP : va_P D vwCl (WX X cI cZ cJ (mb_setF s2 1 ((mb_F s2 1) - (1 : Int32)))) H := hP
  generalize mb_setF s2 1 ((mb_F s2 1) - (1 : Int32)) = s3 at hP h
  refine lv_aload_n hx hb d_P_cutLast_20 rfl (lv_at hl 0 rfl) ?_
  obtain ⟨_u, s4, hs4, h⟩ := mb_cal_ex h
  refine mb_goV Cx (mb_runV (As := []) (rest := []) mb_ZXok Cx (w_P_renumber l D X cI cZ cJ hs4 H.size) (mb_cwV 0 hts wd_233 wd_235 sel_0 wd_2 wd_236 rfl rfl rfl (by decide +kernel) ⟨Nat.le_trans (by decide) hR.1, Nat.le_trans (by decide) hR.2⟩) hP hS 1 rfl rfl rfl hl.1 rfl (Nat.le_of_ble_eq_true rfl) d_P_cutLast_21) hS (fun H locs hP hS => ?_)
  exact mb_eV hret h d_P_cutLast_24 hP hS
set_option maxRecDepth 100000 in
set_option maxHeartbeats 4000000 in
theorem zX_drop_b21 {p : Program} {l : Launch} {e : Env} {R : Room} {s0 : State} {m : MethodId} {args : Array Value} {below : List Frame} {meth : Method} {c : Code} {Q : State → Prop} {A : Nat → Prop} {D : va_G} {X : Nat → Nat} {cI cZ cJ : ClassId} {rv : Int32} {rs : mb_S}
    (Cx : mb_C p s0 m args meth c c_X_drop 2 lw_w cnX mb_ZX vwCl D [(cI, .int), (cZ, .boolean), (cJ, .long)] A (WX X cI cZ cJ)) (hR : 3 ≤ R.frames ∧ 69 ≤ R.locals)
    (hret : (rv = 0 ∨ rv = 1) → mb_R p l e R s0 m args below meth c Q vwCl D A (WX X cI cZ cJ) c_X_drop .ireturn [.int rv] rs)   (s : mb_S)
    (h : mX_drop_b21  s = some (rv, rs)) : mb_B p l e R s0 m args below meth c Q vwCl D A (WX X cI cZ cJ) 2 [] [] 21 s := by
  unfold mX_drop_b21 at h
  intro ls H locs hl hP hS
  have Cx0 := Cx
  obtain ⟨⟨hx, hb, hml, hown, hts⟩, hK, hD, hA, hZ⟩ := Cx0
  refine lv_iconst (v := (0 : Int32)) hx hb d_X_drop_21 (by decide) ?_
  exact mb_eZ hret h d_X_drop_22 hP hS
set_option maxRecDepth 100000 in
set_option maxHeartbeats 4000000 in
theorem w_X_drop (l : Launch) (D : va_G) (X : Nat → Nat) (cI cZ cJ : ClassId) {x1 : Int32} {s : mb_S} {rv : Int32} {rs : mb_S}
    (h : mX_drop x1 s = some (rv, rs)) : mb_MI l y_X_drop ws_X_drop rm_X_drop mb_ZX vwCl D [(cI, .int), (cZ, .boolean), (cJ, .long)] (WX X cI cZ cJ) [.ref (X 0), .int x1] s rv rs := by
  refine mb_ofZ mb_ZXok (by decide) rfl (Nat.le_of_ble_eq_true rfl) mb_DXok ?_
  intro p e s0 m args below meth c Q A Cx hret
  have hR : 3 ≤ (rm_X_drop).frames ∧ 69 ≤ (rm_X_drop).locals := ⟨Nat.le_refl _, Nat.le_refl _⟩
  intro ls H locs hl hP hS
  have Cx0 := Cx
  obtain ⟨⟨hx, hb, hml, hown, hts⟩, hK, hD, hA, hZ⟩ := Cx0
  have hl : lv_has ls 2 [(0, .ref (X 0)), (1, .int x1)] := hl
  unfold mX_drop at h
  refine lv_iload_n hx hb d_X_drop_0 rfl (lv_at hl 1 rfl) ?_
  refine lv_bipush (v := (6 : Int32)) hx hb d_X_drop_1 (by decide) ?_
  obtain ⟨v1, hv1, h⟩ := mb_cal0_ex h
  refine mb_go0I (st := s) Cx (mb_runS0 (As := [.int x1, .int (6 : Int32)]) (rest := []) Cx (w_X_isBelow l D hv1 H.size) (mb_cwS 2 hts wd_228 wd_221 wd_1 wd_222 rfl rfl rfl (by decide +kernel) ⟨Nat.le_trans (by decide) hR.1, Nat.le_trans (by decide) hR.2⟩) rfl hl.1 rfl (Nat.le_of_ble_eq_true rfl) d_X_drop_3) hP hS (fun H locs hP hS => ?_)
  refine lv_if_eq hx hb d_X_drop_6 rfl (fun hc => ?_) (fun hc => ?_)
  · have h := mb_t hc h
    exact zX_drop_b21 Cx hR hret  s h ls H locs (lv_sub hl [] rfl) hP hS
  · have h := mb_f hc h
    refine lv_aload_n hx hb d_X_drop_9 rfl (lv_at hl 0 rfl) ?_
    refine va_get (ci := 0) (C := cnX) (T := fTX) (N := 5) hx hb hts uwX hown hK hP 0 rfl rfl 0 (by decide) (hts _ wd_196) (fun _ h9 => h9) rfl d_X_drop_10 ?_
    refine va_get (ci := 1) (C := cnP) (T := fTP) (N := 12) hx hb hts uwP hown hK hP 1 rfl rfl 5 (by decide) (hts _ wd_49) (fun _ h9 => h9) rfl d_X_drop_13 ?_
    refine lv_iload_n hx hb d_X_drop_16 rfl (lv_at hl 1 rfl) ?_
    refine mb_iald hx hb hK hP 10 0 rfl rfl h d_X_drop_17 (fun v2 h => ?_)
    refine lv_if_ne hx hb d_X_drop_18 rfl (fun hc => ?_) (fun hc => ?_)
    · have h := mb_f hc h
      refine lv_aload_n hx hb d_X_drop_23 rfl (lv_at hl 0 rfl) ?_
      refine va_get (ci := 0) (C := cnX) (T := fTX) (N := 5) hx hb hts uwX hown hK hP 0 rfl rfl 0 (by decide) (hts _ wd_196) (fun _ h9 => h9) rfl d_X_drop_24 ?_
      refine lv_iload_n hx hb d_X_drop_27 rfl (lv_at hl 1 rfl) ?_
      obtain ⟨_u, s3, hs3, h⟩ := mb_cal_ex h
      refine mb_goV Cx (mb_runV (As := [.int x1]) (rest := []) mb_ZXok Cx (w_P_cutLast l D X cI cZ cJ hs3 H.size) (mb_cwV 1 hts wd_245 wd_246 wd_247 wd_2 wd_248 rfl rfl rfl (by decide +kernel) ⟨Nat.le_trans (by decide) hR.1, Nat.le_trans (by decide) hR.2⟩) hP hS 1 rfl rfl rfl hl.1 rfl (Nat.le_of_ble_eq_true rfl) d_X_drop_28) hS (fun H locs hP hS => ?_)
      refine lv_aload_n hx hb d_X_drop_31 rfl (lv_at hl 0 rfl) ?_
      obtain ⟨_u, s4, hs4, h⟩ := mb_cal_ex h
      refine mb_goV Cx (mb_runV (As := []) (rest := []) mb_ZXok Cx (w_X_forget l D X cI cZ cJ hs4 H.size) (mb_cwV 0 hts wd_237 wd_239 sel_1 wd_1 wd_240 rfl rfl rfl (by decide +kernel) ⟨Nat.le_trans (by decide) hR.1, Nat.le_trans (by decide) hR.2⟩) hP hS 0 rfl rfl rfl hl.1 rfl (Nat.le_of_ble_eq_true rfl) d_X_drop_32) hS (fun H locs hP hS => ?_)
      refine lv_iconst (v := (1 : Int32)) hx hb d_X_drop_35 (by decide) ?_
      exact mb_eZ hret h d_X_drop_36 hP hS
    · have h := mb_t hc h
      exact zX_drop_b21 Cx hR hret  s h ls H locs (lv_sub hl [] rfl) hP hS
set_option maxRecDepth 100000 in
set_option maxHeartbeats 4000000 in
theorem zX_derive_b23 {p : Program} {l : Launch} {e : Env} {R : Room} {s0 : State} {m : MethodId} {args : Array Value} {below : List Frame} {meth : Method} {c : Code} {Q : State → Prop} {A : Nat → Prop} {D : va_G} {X : Nat → Nat} {cI cZ cJ : ClassId} {rv : Int32} {rs : mb_S}
    (Cx : mb_C p s0 m args meth c c_X_derive 3 lw_w cnX mb_ZX vwCl D [(cI, .int), (cZ, .boolean), (cJ, .long)] A (WX X cI cZ cJ)) (hR : 1 ≤ R.frames ∧ 21 ≤ R.locals)
    (hret : (rv = 0 ∨ rv = 1) → mb_R p l e R s0 m args below meth c Q vwCl D A (WX X cI cZ cJ) c_X_derive .ireturn [.int rv] rs)  (x1 : Int32) (x2 : Int32) (s : mb_S)
    (h : mX_derive_b23  x1 x2 s = some (rv, rs)) : mb_B p l e R s0 m args below meth c Q vwCl D A (WX X cI cZ cJ) 3 [(0, .ref (X 0)), (1, .int x1), (2, .int x2)] [] 23 s := by
  unfold mX_derive_b23 at h
  intro ls H locs hl hP hS
  have Cx0 := Cx
  obtain ⟨⟨hx, hb, hml, hown, hts⟩, hK, hD, hA, hZ⟩ := Cx0
  refine lv_aload_n hx hb d_X_derive_23 rfl (lv_at hl 0 rfl) ?_
  refine va_get (ci := 0) (C := cnX) (T := fTX) (N := 5) hx hb hts uwX hown hK hP 0 rfl rfl 0 (by decide) (hts _ wd_196) (fun _ h9 => h9) rfl d_X_derive_24 ?_
  refine va_get (ci := 1) (C := cnP) (T := fTP) (N := 12) hx hb hts uwP hown hK hP 1 rfl rfl 9 (by decide) (hts _ wd_60) (fun _ h9 => h9) rfl d_X_derive_27 ?_
  refine lv_iload_n hx hb d_X_derive_30 rfl (lv_at hl 1 rfl) ?_
  refine lv_iload_n hx hb d_X_derive_31 rfl (lv_at hl 2 rfl) ?_
  refine mb_iast (WS := WX X cI cZ cJ) hx hb hK hP hD hS 14 0 rfl rfl h d_X_derive_32 rfl (fun H locs s1 hP hS h => ?_)
  refine lv_aload_n hx hb d_X_derive_33 rfl (lv_at hl 0 rfl) ?_
  obtain ⟨_u, s2, hs2, h⟩ := mb_cal_ex h
  refine mb_goV Cx (mb_runV (As := []) (rest := []) mb_ZXok Cx (w_X_forget l D X cI cZ cJ hs2 H.size) (mb_cwV 0 hts wd_237 wd_239 sel_1 wd_1 wd_240 rfl rfl rfl (by decide +kernel) ⟨Nat.le_trans (by decide) hR.1, Nat.le_trans (by decide) hR.2⟩) hP hS 0 rfl rfl rfl hl.1 rfl (Nat.le_of_ble_eq_true rfl) d_X_derive_34) hS (fun H locs hP hS => ?_)
  refine lv_iconst (v := (1 : Int32)) hx hb d_X_derive_37 (by decide) ?_
  exact mb_eZ hret h d_X_derive_38 hP hS
set_option maxRecDepth 100000 in
set_option maxHeartbeats 4000000 in
theorem zX_derive_b21 {p : Program} {l : Launch} {e : Env} {R : Room} {s0 : State} {m : MethodId} {args : Array Value} {below : List Frame} {meth : Method} {c : Code} {Q : State → Prop} {A : Nat → Prop} {D : va_G} {X : Nat → Nat} {cI cZ cJ : ClassId} {rv : Int32} {rs : mb_S}
    (Cx : mb_C p s0 m args meth c c_X_derive 3 lw_w cnX mb_ZX vwCl D [(cI, .int), (cZ, .boolean), (cJ, .long)] A (WX X cI cZ cJ)) (hR : 1 ≤ R.frames ∧ 21 ≤ R.locals)
    (hret : (rv = 0 ∨ rv = 1) → mb_R p l e R s0 m args below meth c Q vwCl D A (WX X cI cZ cJ) c_X_derive .ireturn [.int rv] rs)   (s : mb_S)
    (h : mX_derive_b21  s = some (rv, rs)) : mb_B p l e R s0 m args below meth c Q vwCl D A (WX X cI cZ cJ) 3 [] [] 21 s := by
  unfold mX_derive_b21 at h
  intro ls H locs hl hP hS
  have Cx0 := Cx
  obtain ⟨⟨hx, hb, hml, hown, hts⟩, hK, hD, hA, hZ⟩ := Cx0
  refine lv_iconst (v := (0 : Int32)) hx hb d_X_derive_21 (by decide) ?_
  exact mb_eZ hret h d_X_derive_22 hP hS
set_option maxRecDepth 100000 in
set_option maxHeartbeats 4000000 in
theorem w_X_derive (l : Launch) (D : va_G) (X : Nat → Nat) (cI cZ cJ : ClassId) {x1 : Int32} {x2 : Int32} {s : mb_S} {rv : Int32} {rs : mb_S}
    (h : mX_derive x1 x2 s = some (rv, rs)) : mb_MI l y_X_derive ws_X_derive rm_X_derive mb_ZX vwCl D [(cI, .int), (cZ, .boolean), (cJ, .long)] (WX X cI cZ cJ) [.ref (X 0), .int x1, .int x2] s rv rs := by
  refine mb_ofZ mb_ZXok (by decide) rfl (Nat.le_of_ble_eq_true rfl) mb_DXok ?_
  intro p e s0 m args below meth c Q A Cx hret
  have hR : 1 ≤ (rm_X_derive).frames ∧ 21 ≤ (rm_X_derive).locals := ⟨Nat.le_refl _, Nat.le_refl _⟩
  intro ls H locs hl hP hS
  have Cx0 := Cx
  obtain ⟨⟨hx, hb, hml, hown, hts⟩, hK, hD, hA, hZ⟩ := Cx0
  have hl : lv_has ls 3 [(0, .ref (X 0)), (1, .int x1), (2, .int x2)] := hl
  unfold mX_derive at h
  refine lv_iload_n hx hb d_X_derive_0 rfl (lv_at hl 1 rfl) ?_
  refine lv_iconst (v := (4 : Int32)) hx hb d_X_derive_1 (by decide) ?_
  obtain ⟨v3, hv3, h⟩ := mb_cal0_ex h
  refine mb_go0I (st := s) Cx (mb_runS0 (As := [.int x1, .int (4 : Int32)]) (rest := []) Cx (w_X_isBelow l D hv3 H.size) (mb_cwS 2 hts wd_228 wd_221 wd_1 wd_222 rfl rfl rfl (by decide +kernel) ⟨Nat.le_trans (by decide) hR.1, Nat.le_trans (by decide) hR.2⟩) rfl hl.1 rfl (Nat.le_of_ble_eq_true rfl) d_X_derive_2) hP hS (fun H locs hP hS => ?_)
  refine lv_if_eq hx hb d_X_derive_5 rfl (fun hc => ?_) (fun hc => ?_)
  · have h := mb_t hc h
    exact zX_derive_b21 Cx hR hret  s h ls H locs (lv_sub hl [] rfl) hP hS
  · have h := mb_f hc h
    refine lv_iload_n hx hb d_X_derive_8 rfl (lv_at hl 2 rfl) ?_
    refine lv_iconst (v := (-1 : Int32)) hx hb d_X_derive_9 (by decide) ?_
    refine lv_icmp_eq hx hb d_X_derive_10 rfl (fun hc => ?_) (fun hc => ?_)
    · have h := mb_t hc h
      exact zX_derive_b23 Cx hR hret  x1 x2 s h ls H locs (lv_sub hl [0, 1, 2] rfl) hP hS
    · have h := mb_f hc h
      refine lv_iload_n hx hb d_X_derive_13 rfl (lv_at hl 2 rfl) ?_
      refine lv_iload_n hx hb d_X_derive_14 rfl (lv_at hl 1 rfl) ?_
      obtain ⟨v4, hv4, h⟩ := mb_cal0_ex h
      refine mb_go0I (st := s) Cx (mb_runS0 (As := [.int x2, .int x1]) (rest := []) Cx (w_X_isBelow l D hv4 H.size) (mb_cwS 2 hts wd_228 wd_221 wd_1 wd_222 rfl rfl rfl (by decide +kernel) ⟨Nat.le_trans (by decide) hR.1, Nat.le_trans (by decide) hR.2⟩) rfl hl.1 rfl (Nat.le_of_ble_eq_true rfl) d_X_derive_15) hP hS (fun H locs hP hS => ?_)
      refine lv_if_ne hx hb d_X_derive_18 rfl (fun hc => ?_) (fun hc => ?_)
      · have h := mb_f hc h
        exact zX_derive_b23 Cx hR hret  x1 x2 s h ls H locs (lv_sub hl [0, 1, 2] rfl) hP hS
      · have h := mb_t hc h
        exact zX_derive_b21 Cx hR hret  s h ls H locs (lv_sub hl [] rfl) hP hS
set_option maxRecDepth 100000 in
set_option maxHeartbeats 4000000 in
theorem zX_bind_b32 {p : Program} {l : Launch} {e : Env} {R : Room} {s0 : State} {m : MethodId} {args : Array Value} {below : List Frame} {meth : Method} {c : Code} {Q : State → Prop} {A : Nat → Prop} {D : va_G} {X : Nat → Nat} {cI cZ cJ : ClassId} {rv : Int32} {rs : mb_S}
    (Cx : mb_C p s0 m args meth c c_X_bind 4 lw_w cnX mb_ZX vwCl D [(cI, .int), (cZ, .boolean), (cJ, .long)] A (WX X cI cZ cJ)) (hR : 1 ≤ R.frames ∧ 21 ≤ R.locals)
    (hret : (rv = 0 ∨ rv = 1) → mb_R p l e R s0 m args below meth c Q vwCl D A (WX X cI cZ cJ) c_X_bind .ireturn [.int rv] rs)  (x1 : Int32) (x2 : Int32) (x3 : Int32) (s : mb_S)
    (h : mX_bind_b32  x1 x2 x3 s = some (rv, rs)) : mb_B p l e R s0 m args below meth c Q vwCl D A (WX X cI cZ cJ) 4 [(0, .ref (X 0)), (1, .int x1), (2, .int x2), (3, .int x3)] [] 32 s := by
  unfold mX_bind_b32 at h
  intro ls H locs hl hP hS
  have Cx0 := Cx
  obtain ⟨⟨hx, hb, hml, hown, hts⟩, hK, hD, hA, hZ⟩ := Cx0
  refine lv_aload_n hx hb d_X_bind_32 rfl (lv_at hl 0 rfl) ?_
  refine va_get (ci := 0) (C := cnX) (T := fTX) (N := 5) hx hb hts uwX hown hK hP 0 rfl rfl 0 (by decide) (hts _ wd_196) (fun _ h9 => h9) rfl d_X_bind_33 ?_
  refine va_get (ci := 1) (C := cnP) (T := fTP) (N := 12) hx hb hts uwP hown hK hP 1 rfl rfl 10 (by decide) (hts _ wd_62) (fun _ h9 => h9) rfl d_X_bind_36 ?_
  refine lv_iload_n hx hb d_X_bind_39 rfl (lv_at hl 1 rfl) ?_
  refine lv_iconst (v := (3 : Int32)) hx hb d_X_bind_40 (by decide) ?_
  refine lv_imul hx hb d_X_bind_41 ?_
  refine lv_iload_n hx hb d_X_bind_42 rfl (lv_at hl 2 rfl) ?_
  refine lv_iadd hx hb d_X_bind_43 ?_
  refine lv_iload_n hx hb d_X_bind_44 rfl (lv_at hl 3 rfl) ?_
  refine mb_iast (WS := WX X cI cZ cJ) hx hb hK hP hD hS 15 0 rfl rfl h d_X_bind_45 rfl (fun H locs s1 hP hS h => ?_)
  refine lv_aload_n hx hb d_X_bind_46 rfl (lv_at hl 0 rfl) ?_
  obtain ⟨_u, s2, hs2, h⟩ := mb_cal_ex h
  refine mb_goV Cx (mb_runV (As := []) (rest := []) mb_ZXok Cx (w_X_forget l D X cI cZ cJ hs2 H.size) (mb_cwV 0 hts wd_237 wd_239 sel_1 wd_1 wd_240 rfl rfl rfl (by decide +kernel) ⟨Nat.le_trans (by decide) hR.1, Nat.le_trans (by decide) hR.2⟩) hP hS 0 rfl rfl rfl hl.1 rfl (Nat.le_of_ble_eq_true rfl) d_X_bind_47) hS (fun H locs hP hS => ?_)
  refine lv_iconst (v := (1 : Int32)) hx hb d_X_bind_50 (by decide) ?_
  exact mb_eZ hret h d_X_bind_51 hP hS
set_option maxRecDepth 100000 in
set_option maxHeartbeats 4000000 in
theorem zX_bind_b30 {p : Program} {l : Launch} {e : Env} {R : Room} {s0 : State} {m : MethodId} {args : Array Value} {below : List Frame} {meth : Method} {c : Code} {Q : State → Prop} {A : Nat → Prop} {D : va_G} {X : Nat → Nat} {cI cZ cJ : ClassId} {rv : Int32} {rs : mb_S}
    (Cx : mb_C p s0 m args meth c c_X_bind 4 lw_w cnX mb_ZX vwCl D [(cI, .int), (cZ, .boolean), (cJ, .long)] A (WX X cI cZ cJ)) (hR : 1 ≤ R.frames ∧ 21 ≤ R.locals)
    (hret : (rv = 0 ∨ rv = 1) → mb_R p l e R s0 m args below meth c Q vwCl D A (WX X cI cZ cJ) c_X_bind .ireturn [.int rv] rs)   (s : mb_S)
    (h : mX_bind_b30  s = some (rv, rs)) : mb_B p l e R s0 m args below meth c Q vwCl D A (WX X cI cZ cJ) 4 [] [] 30 s := by
  unfold mX_bind_b30 at h
  intro ls H locs hl hP hS
  have Cx0 := Cx
  obtain ⟨⟨hx, hb, hml, hown, hts⟩, hK, hD, hA, hZ⟩ := Cx0
  refine lv_iconst (v := (0 : Int32)) hx hb d_X_bind_30 (by decide) ?_
  exact mb_eZ hret h d_X_bind_31 hP hS
set_option maxRecDepth 100000 in
set_option maxHeartbeats 4000000 in
theorem w_X_bind (l : Launch) (D : va_G) (X : Nat → Nat) (cI cZ cJ : ClassId) {x1 : Int32} {x2 : Int32} {x3 : Int32} {s : mb_S} {rv : Int32} {rs : mb_S}
    (h : mX_bind x1 x2 x3 s = some (rv, rs)) : mb_MI l y_X_bind ws_X_bind rm_X_bind mb_ZX vwCl D [(cI, .int), (cZ, .boolean), (cJ, .long)] (WX X cI cZ cJ) [.ref (X 0), .int x1, .int x2, .int x3] s rv rs := by
  refine mb_ofZ mb_ZXok (by decide) rfl (Nat.le_of_ble_eq_true rfl) mb_DXok ?_
  intro p e s0 m args below meth c Q A Cx hret
  have hR : 1 ≤ (rm_X_bind).frames ∧ 21 ≤ (rm_X_bind).locals := ⟨Nat.le_refl _, Nat.le_refl _⟩
  intro ls H locs hl hP hS
  have Cx0 := Cx
  obtain ⟨⟨hx, hb, hml, hown, hts⟩, hK, hD, hA, hZ⟩ := Cx0
  have hl : lv_has ls 4 [(0, .ref (X 0)), (1, .int x1), (2, .int x2), (3, .int x3)] := hl
  unfold mX_bind at h
  refine lv_iload_n hx hb d_X_bind_0 rfl (lv_at hl 1 rfl) ?_
  refine lv_iconst (v := (4 : Int32)) hx hb d_X_bind_1 (by decide) ?_
  obtain ⟨v3, hv3, h⟩ := mb_cal0_ex h
  refine mb_go0I (st := s) Cx (mb_runS0 (As := [.int x1, .int (4 : Int32)]) (rest := []) Cx (w_X_isBelow l D hv3 H.size) (mb_cwS 2 hts wd_228 wd_221 wd_1 wd_222 rfl rfl rfl (by decide +kernel) ⟨Nat.le_trans (by decide) hR.1, Nat.le_trans (by decide) hR.2⟩) rfl hl.1 rfl (Nat.le_of_ble_eq_true rfl) d_X_bind_2) hP hS (fun H locs hP hS => ?_)
  refine lv_if_eq hx hb d_X_bind_5 rfl (fun hc => ?_) (fun hc => ?_)
  · have h := mb_t hc h
    exact zX_bind_b30 Cx hR hret  s h ls H locs (lv_sub hl [] rfl) hP hS
  · have h := mb_f hc h
    refine lv_iload_n hx hb d_X_bind_8 rfl (lv_at hl 2 rfl) ?_
    refine lv_iconst (v := (3 : Int32)) hx hb d_X_bind_9 (by decide) ?_
    obtain ⟨v4, hv4, h⟩ := mb_cal0_ex h
    refine mb_go0I (st := s) Cx (mb_runS0 (As := [.int x2, .int (3 : Int32)]) (rest := []) Cx (w_X_isBelow l D hv4 H.size) (mb_cwS 2 hts wd_228 wd_221 wd_1 wd_222 rfl rfl rfl (by decide +kernel) ⟨Nat.le_trans (by decide) hR.1, Nat.le_trans (by decide) hR.2⟩) rfl hl.1 rfl (Nat.le_of_ble_eq_true rfl) d_X_bind_10) hP hS (fun H locs hP hS => ?_)
    refine lv_if_eq hx hb d_X_bind_13 rfl (fun hc => ?_) (fun hc => ?_)
    · have h := mb_t hc h
      exact zX_bind_b30 Cx hR hret  s h ls H locs (lv_sub hl [] rfl) hP hS
    · have h := mb_f hc h
      refine lv_iload_n hx hb d_X_bind_16 rfl (lv_at hl 3 rfl) ?_
      refine lv_iconst (v := (-1 : Int32)) hx hb d_X_bind_17 (by decide) ?_
      refine lv_icmp_eq hx hb d_X_bind_18 rfl (fun hc => ?_) (fun hc => ?_)
      · have h := mb_t hc h
        exact zX_bind_b32 Cx hR hret  x1 x2 x3 s h ls H locs (lv_sub hl [0, 1, 2, 3] rfl) hP hS
      · have h := mb_f hc h
        refine lv_iload_n hx hb d_X_bind_21 rfl (lv_at hl 3 rfl) ?_
        refine lv_bipush (v := (6 : Int32)) hx hb d_X_bind_22 (by decide) ?_
        obtain ⟨v5, hv5, h⟩ := mb_cal0_ex h
        refine mb_go0I (st := s) Cx (mb_runS0 (As := [.int x3, .int (6 : Int32)]) (rest := []) Cx (w_X_isBelow l D hv5 H.size) (mb_cwS 2 hts wd_228 wd_221 wd_1 wd_222 rfl rfl rfl (by decide +kernel) ⟨Nat.le_trans (by decide) hR.1, Nat.le_trans (by decide) hR.2⟩) rfl hl.1 rfl (Nat.le_of_ble_eq_true rfl) d_X_bind_24) hP hS (fun H locs hP hS => ?_)
        refine lv_if_ne hx hb d_X_bind_27 rfl (fun hc => ?_) (fun hc => ?_)
        · have h := mb_f hc h
          exact zX_bind_b32 Cx hR hret  x1 x2 x3 s h ls H locs (lv_sub hl [0, 1, 2, 3] rfl) hP hS
        · have h := mb_t hc h
          exact zX_bind_b30 Cx hR hret  s h ls H locs (lv_sub hl [] rfl) hP hS
set_option maxRecDepth 100000 in
set_option maxHeartbeats 4000000 in
theorem zP_targetOf_b50 {p : Program} {l : Launch} {e : Env} {R : Room} {s0 : State} {m : MethodId} {args : Array Value} {below : List Frame} {meth : Method} {c : Code} {Q : State → Prop} {A : Nat → Prop} {D : va_G} {X : Nat → Nat} {cI cZ cJ : ClassId} {rv : Int32} {rs : mb_S}
    (Cx : mb_C p s0 m args meth c c_P_targetOf 6 lw_w cnP mb_ZX vwCl D [(cI, .int), (cZ, .boolean), (cJ, .long)] A (WX X cI cZ cJ)) (hR : 0 ≤ R.frames ∧ 0 ≤ R.locals)
    (hret : mb_R p l e R s0 m args below meth c Q vwCl D A (WX X cI cZ cJ) c_P_targetOf .ireturn [.int rv] rs)   (s : mb_S)
    (h : mP_targetOf_b50  s = some (rv, rs)) : mb_B p l e R s0 m args below meth c Q vwCl D A (WX X cI cZ cJ) 6 [] [] 50 s := by
  unfold mP_targetOf_b50 at h
  intro ls H locs hl hP hS
  have Cx0 := Cx
  obtain ⟨⟨hx, hb, hml, hown, hts⟩, hK, hD, hA, hZ⟩ := Cx0
  refine lv_iconst (v := (-1 : Int32)) hx hb d_P_targetOf_50 (by decide) ?_
  exact mb_eI hret h d_P_targetOf_51 hP hS
set_option maxRecDepth 100000 in
set_option maxHeartbeats 4000000 in
theorem zP_targetOf_l5 {p : Program} {l : Launch} {e : Env} {R : Room} {s0 : State} {m : MethodId} {args : Array Value} {below : List Frame} {meth : Method} {c : Code} {Q : State → Prop} {A : Nat → Prop} {D : va_G} {X : Nat → Nat} {cI cZ cJ : ClassId} {rv : Int32} {rs : mb_S}
    (Cx : mb_C p s0 m args meth c c_P_targetOf 6 lw_w cnP mb_ZX vwCl D [(cI, .int), (cZ, .boolean), (cJ, .long)] A (WX X cI cZ cJ)) (hR : 0 ≤ R.frames ∧ 0 ≤ R.locals)
    (hret : mb_R p l e R s0 m args below meth c Q vwCl D A (WX X cI cZ cJ) c_P_targetOf .ireturn [.int rv] rs)  :
    ∀ (n : Nat) (x2 : Int32) (x3 : Int32) (x4 : Int32) (s : mb_S), mP_targetOf_l5  n x2 x3 x4 s = some (rv, rs) → mb_B p l e R s0 m args below meth c Q vwCl D A (WX X cI cZ cJ) 6 [(0, .ref (X 1)), (2, .int x2), (3, .int x3), (4, .int x4)] [] 5 s := by
  intro n
  induction n with
  | zero => intro x2 x3 x4 s h; cases h
  | succ n ih =>
    intro x2 x3 x4 s h
    rw [mP_targetOf_l5_s] at h
    intro ls H locs hl hP hS
    have Cx0 := Cx
    obtain ⟨⟨hx, hb, hml, hown, hts⟩, hK, hD, hA, hZ⟩ := Cx0
    refine lv_iload hx hb d_P_targetOf_5 (lv_at hl 3 rfl) ?_
    refine lv_iconst (v := (4 : Int32)) hx hb d_P_targetOf_7 (by decide) ?_
    refine lv_icmp_ge hx hb d_P_targetOf_8 rfl (fun hc => ?_) (fun hc => ?_)
    · have h := mb_t hc h
      exact zP_targetOf_b50 Cx hR hret  s h ls H locs (lv_sub hl [] rfl) hP hS
    · have h := mb_f hc h
      refine lv_iload_n hx hb d_P_targetOf_11 rfl (lv_at hl 2 rfl) ?_
      refine lv_iconst (v := (-1 : Int32)) hx hb d_P_targetOf_12 (by decide) ?_
      refine lv_icmp_eq hx hb d_P_targetOf_13 rfl (fun hc => ?_) (fun hc => ?_)
      · have h := mb_t hc h
        exact zP_targetOf_b50 Cx hR hret  s h ls H locs (lv_sub hl [] rfl) hP hS
      · have h := mb_f hc h
        refine lv_aload_n hx hb d_P_targetOf_16 rfl (lv_at hl 0 rfl) ?_
        refine va_get (ci := 1) (C := cnP) (T := fTP) (N := 12) hx hb hts uwP hown hK hP 1 rfl rfl 10 (by decide) (hts _ wd_61) (fun _ h9 => h9) rfl d_P_targetOf_17 ?_
        refine lv_iload_n hx hb d_P_targetOf_20 rfl (lv_at hl 2 rfl) ?_
        refine lv_iconst (v := (3 : Int32)) hx hb d_P_targetOf_21 (by decide) ?_
        refine lv_imul hx hb d_P_targetOf_22 ?_
        refine lv_iload_n hx hb d_P_targetOf_23 rfl (lv_at hl 1 rfl) ?_
        refine lv_iadd hx hb d_P_targetOf_24 ?_
        refine mb_iald hx hb hK hP 15 0 rfl rfl h d_P_targetOf_25 (fun v1 h => ?_)
        refine lv_istore (lv' := [(5, .int v1), (0, .ref (X 1)), (2, .int x2), (3, .int x3), (4, .int x4)]) hx hb d_P_targetOf_26 hl (by decide) rfl (fun ls hl => ?_)
        refine lv_iload hx hb d_P_targetOf_28 (lv_at hl 0 rfl) ?_
        refine lv_iconst (v := (-1 : Int32)) hx hb d_P_targetOf_30 (by decide) ?_
        refine lv_icmp_eq hx hb d_P_targetOf_31 rfl (fun hc => ?_) (fun hc => ?_)
        · have h := mb_t hc h
          refine lv_aload_n hx hb d_P_targetOf_37 rfl (lv_at hl 1 rfl) ?_
          refine va_get (ci := 1) (C := cnP) (T := fTP) (N := 12) hx hb hts uwP hown hK hP 1 rfl rfl 9 (by decide) (hts _ wd_59) (fun _ h9 => h9) rfl d_P_targetOf_38 ?_
          refine lv_iload_n hx hb d_P_targetOf_41 rfl (lv_at hl 3 rfl) ?_
          refine mb_iald hx hb hK hP 14 0 rfl rfl h d_P_targetOf_42 (fun v2 h => ?_)
          refine lv_istore_n (lv' := [(3, .int v2), (5, .int v1), (0, .ref (X 1)), (2, .int x2), (4, .int x4)]) hx hb d_P_targetOf_43 rfl hl (by decide) rfl (fun ls hl => ?_)
          obtain ⟨v3, ev3, h⟩ := mb_ex h
          refine lv_iinc (k := 4) (v := v3) (lv' := [(4, .int v3), (3, .int v2), (5, .int v1), (0, .ref (X 1)), (2, .int x2)]) hx hb d_P_targetOf_44 hl rfl ev3 (by decide) rfl (fun ls hl => ?_)
          refine lv_goto hx hb d_P_targetOf_47 rfl ?_
          exact ih x2 v2 v3 s h ls H locs (lv_sub hl [3, 4, 1, 0] rfl) hP hS
        · have h := mb_f hc h
          refine lv_iload hx hb d_P_targetOf_34 (lv_at hl 0 rfl) ?_
          exact mb_eI hret h d_P_targetOf_36 hP hS
set_option maxRecDepth 100000 in
set_option maxHeartbeats 4000000 in
theorem w_P_targetOf (l : Launch) (D : va_G) (X : Nat → Nat) (cI cZ cJ : ClassId) {x1 : Int32} {x2 : Int32} {s : mb_S} {rv : Int32} {rs : mb_S}
    (h : mP_targetOf x1 x2 s = some (rv, rs)) : mb_MI l y_P_targetOf ws_P_targetOf rm_P_targetOf mb_ZX vwCl D [(cI, .int), (cZ, .boolean), (cJ, .long)] (WX X cI cZ cJ) [.ref (X 1), .int x1, .int x2] s rv rs := by
  refine mb_ofI mb_ZXok (by decide) rfl (Nat.le_of_ble_eq_true rfl) mb_DXok ?_
  intro p e s0 m args below meth c Q A Cx hret
  have hR : 0 ≤ (rm_P_targetOf).frames ∧ 0 ≤ (rm_P_targetOf).locals := ⟨Nat.le_refl _, Nat.le_refl _⟩
  intro ls H locs hl hP hS
  have Cx0 := Cx
  obtain ⟨⟨hx, hb, hml, hown, hts⟩, hK, hD, hA, hZ⟩ := Cx0
  have hl : lv_has ls 6 [(0, .ref (X 1)), (1, .int x1), (2, .int x2)] := hl
  unfold mP_targetOf at h
  refine lv_iload_n hx hb d_P_targetOf_0 rfl (lv_at hl 1 rfl) ?_
  refine lv_istore_n (lv' := [(3, .int x1), (0, .ref (X 1)), (1, .int x1), (2, .int x2)]) hx hb d_P_targetOf_1 rfl hl (by decide) rfl (fun ls hl => ?_)
  refine lv_iconst (v := (0 : Int32)) hx hb d_P_targetOf_2 (by decide) ?_
  refine lv_istore (lv' := [(4, .int (0 : Int32)), (3, .int x1), (0, .ref (X 1)), (1, .int x1), (2, .int x2)]) hx hb d_P_targetOf_3 hl (by decide) rfl (fun ls hl => ?_)
  exact zP_targetOf_l5 Cx hR hret  mb_fuel x2 x1 (0 : Int32) s h ls H locs (lv_sub hl [2, 4, 1, 0] rfl) hP hS
