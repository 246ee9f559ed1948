set_option maxRecDepth 100000 in
set_option maxHeartbeats 4000000 in
theorem w_A_makeObject (l : Launch) (D : va_G) (X : Nat → Nat) (cI cZ cJ : ClassId) {x1 : Int32} {s : mb_S} {rv : Int32} {rs : mb_S}
    (h : mA_makeObject x1 s = some (rv, rs)) : mb_MI l y_A_makeObject ws_A_makeObject rm_A_makeObject mb_ZX vwCl D [(cI, .int), (cZ, .boolean), (cJ, .long)] (WX X cI cZ cJ) [.ref (X 4), .int x1] s rv rs := by
  refine mb_ofI mb_ZXok (by decide) rfl (Nat.le_of_ble_eq_true rfl) mb_DXok ?_
  intro p e s0 m args below meth c Q A Cx hret
  have hR : 0 ≤ (rm_A_makeObject).frames ∧ 0 ≤ (rm_A_makeObject).locals := ⟨Nat.le_refl _, Nat.le_refl _⟩
  intro ls H locs hl hP hS
  have Cx0 := Cx
  obtain ⟨⟨hx, hb, hml, hown, hts⟩, hK, hD, hA, hZ⟩ := Cx0
  have hl : lv_has ls 2 [(0, .ref (X 4)), (1, .int x1)] := hl
  unfold mA_makeObject at h
  refine lv_aload_n hx hb d_A_makeObject_0 rfl (lv_at hl 0 rfl) ?_
  refine va_get (ci := 4) (C := cnA) (T := fTA) (N := 13) hx hb hts uwA hown hK hP 4 rfl rfl 5 (by decide) (hts _ wd_158) (fun _ h9 => h9) rfl d_A_makeObject_1 ?_
  refine lv_aload_n hx hb d_A_makeObject_4 rfl (lv_at hl 0 rfl) ?_
  refine va_get (ci := 4) (C := cnA) (T := fTA) (N := 13) hx hb hts uwA hown hK hP 4 rfl rfl 10 (by decide) (hts _ wd_163) (fun _ h9 => h9) rfl d_A_makeObject_5 ?_
  refine lv_iload_n hx hb d_A_makeObject_8 rfl (lv_at hl 1 rfl) ?_
  refine mb_iast (WS := WX X cI cZ cJ) hx hb hK hP hD hS 26 0 rfl rfl h d_A_makeObject_9 rfl (fun H locs s1 hP hS h => ?_)
  refine lv_aload_n hx hb d_A_makeObject_10 rfl (lv_at hl 0 rfl) ?_
  refine va_get (ci := 4) (C := cnA) (T := fTA) (N := 13) hx hb hts uwA hown hK hP 4 rfl rfl 6 (by decide) (hts _ wd_159) (fun _ h9 => h9) rfl d_A_makeObject_11 ?_
  refine lv_aload_n hx hb d_A_makeObject_14 rfl (lv_at hl 0 rfl) ?_
  refine va_get (ci := 4) (C := cnA) (T := fTA) (N := 13) hx hb hts uwA hown hK hP 4 rfl rfl 10 (by decide) (hts _ wd_163) (fun _ h9 => h9) rfl d_A_makeObject_15 ?_
  refine lv_iconst (v := (2 : Int32)) hx hb d_A_makeObject_18 (by decide) ?_
  refine lv_imul hx hb d_A_makeObject_19 ?_
  refine lv_iconst (v := (0 : Int32)) hx hb d_A_makeObject_20 (by decide) ?_
  refine mb_iast (WS := WX X cI cZ cJ) hx hb hK hP hD hS 27 0 rfl rfl h d_A_makeObject_21 rfl (fun H locs s2 hP hS h => ?_)
  refine lv_aload_n hx hb d_A_makeObject_22 rfl (lv_at hl 0 rfl) ?_
  refine va_get (ci := 4) (C := cnA) (T := fTA) (N := 13) hx hb hts uwA hown hK hP 4 rfl rfl 6 (by decide) (hts _ wd_159) (fun _ h9 => h9) rfl d_A_makeObject_23 ?_
  refine lv_aload_n hx hb d_A_makeObject_26 rfl (lv_at hl 0 rfl) ?_
  refine va_get (ci := 4) (C := cnA) (T := fTA) (N := 13) hx hb hts uwA hown hK hP 4 rfl rfl 10 (by decide) (hts _ wd_163) (fun _ h9 => h9) rfl d_A_makeObject_27 ?_
  refine lv_iconst (v := (2 : Int32)) hx hb d_A_makeObject_30 (by decide) ?_
  refine lv_imul hx hb d_A_makeObject_31 ?_
  refine lv_iconst (v := (1 : Int32)) hx hb d_A_makeObject_32 (by decide) ?_
  refine lv_iadd hx hb d_A_makeObject_33 ?_
  refine lv_iconst (v := (0 : Int32)) hx hb d_A_makeObject_34 (by decide) ?_
  refine mb_iast (WS := WX X cI cZ cJ) hx hb hK hP hD hS 27 0 rfl rfl h d_A_makeObject_35 rfl (fun H locs s3 hP hS h => ?_)
  refine lv_aload_n hx hb d_A_makeObject_36 rfl (lv_at hl 0 rfl) ?_
  refine lv_dup hx hb d_A_makeObject_37 rfl ?_
  refine va_get (ci := 4) (C := cnA) (T := fTA) (N := 13) hx hb hts uwA hown hK hP 4 rfl rfl 10 (by decide) (hts _ wd_163) (fun _ h9 => h9) rfl d_A_makeObject_38 ?_
  refine lv_iconst (v := (1 : Int32)) hx hb d_A_makeObject_41 (by decide) ?_
  refine lv_iadd hx hb d_A_makeObject_42 ?_
  have h := mb_putF_ex h
  refine va_put (ci := 4) (v := .int ((mb_F s3 9) + (1 : Int32))) (ty := .int) (C := cnA) (T := fTA) (N := 13) hx hb hts uwA fyA fyA_ok fnA hown hK hP (hD _) hS 4 rfl rfl 10 (by decide) (hts _ wd_163) (fun _ h9 => h9) rfl (by decide +kernel) rfl rfl (Nat.le_of_ble_eq_true rfl) d_A_makeObject_43 (fun H locs hP _ hS => ?_)
  have hP : va_P D vwCl (WX X cI cZ cJ (mb_setF s3 9 ((mb_F s3 9) + (1 : Int32)))) H := hP
  generalize mb_setF s3 9 ((mb_F s3 9) + (1 : Int32)) = s4 at hP h
  refine lv_aload_n hx hb d_A_makeObject_46 rfl (lv_at hl 0 rfl) ?_
  refine va_get (ci := 4) (C := cnA) (T := fTA) (N := 13) hx hb hts uwA hown hK hP 4 rfl rfl 10 (by decide) (hts _ wd_163) (fun _ h9 => h9) rfl d_A_makeObject_47 ?_
  refine lv_iconst (v := (4 : Int32)) hx hb d_A_makeObject_50 (by decide) ?_
  refine lv_ishl hx hb d_A_makeObject_51 ?_
  exact mb_eI hret h d_A_makeObject_52 hP hS
set_option maxRecDepth 100000 in
set_option maxHeartbeats 4000000 in
theorem zA_countHits_b29 {p : Program} {l : Launch} {e : Env} {R : Room} {s0 : State} {m : MethodId} {args : Array Value} {below : List Frame} {meth : Method} {c : Code} {Q : State → Prop} {A : Nat → Prop} {D : va_G} {X : Nat → Nat} {cI cZ cJ : ClassId} {rv : Unit} {rs : mb_S}
    (Cx : mb_C p s0 m args meth c c_A_countHits 4 lw_w cnA mb_ZX vwCl D [(cI, .int), (cZ, .boolean), (cJ, .long)] A (WX X cI cZ cJ)) (hR : 1 ≤ R.frames ∧ 21 ≤ R.locals)
    (hret : mb_R p l e R s0 m args below meth c Q vwCl D A (WX X cI cZ cJ) c_A_countHits .return_ [] rs) (k2 : Int32 → Int32 → Int32 → mb_S → Option (Unit × mb_S)) (hk2 : ∀ (x1 : Int32) (x2 : Int32) (x3 : Int32) (s : mb_S), k2 x1 x2 x3 s = some (rv, rs) → mb_B p l e R s0 m args below meth c Q vwCl D A (WX X cI cZ cJ) 4 [(0, .ref (X 4)), (1, .int x1), (2, .int x2), (3, .int x3)] [] 2 s) (x1 : Int32) (x2 : Int32) (x3 : Int32) (s : mb_S)
    (h : mA_countHits_b29 k2 x1 x2 x3 s = some (rv, rs)) : mb_B p l e R s0 m args below meth c Q vwCl D A (WX X cI cZ cJ) 4 [(0, .ref (X 4)), (1, .int x1), (2, .int x2), (3, .int x3)] [] 29 s := by
  unfold mA_countHits_b29 at h
  intro ls H locs hl hP hS
  have Cx0 := Cx
  obtain ⟨⟨hx, hb, hml, hown, hts⟩, hK, hD, hA, hZ⟩ := Cx0
  obtain ⟨v1, ev1, h⟩ := mb_ex h
  refine lv_iinc (k := 3) (v := v1) (lv' := [(3, .int v1), (0, .ref (X 4)), (1, .int x1), (2, .int x2)]) hx hb d_A_countHits_29 hl rfl ev1 (by decide) rfl (fun ls hl => ?_)
  refine lv_goto hx hb d_A_countHits_32 rfl ?_
  exact hk2 x1 x2 v1 s h ls H locs (lv_sub hl [1, 2, 3, 0] rfl) hP hS
set_option maxRecDepth 100000 in
set_option maxHeartbeats 4000000 in
theorem zA_countHits_l2 {p : Program} {l : Launch} {e : Env} {R : Room} {s0 : State} {m : MethodId} {args : Array Value} {below : List Frame} {meth : Method} {c : Code} {Q : State → Prop} {A : Nat → Prop} {D : va_G} {X : Nat → Nat} {cI cZ cJ : ClassId} {rv : Unit} {rs : mb_S}
    (Cx : mb_C p s0 m args meth c c_A_countHits 4 lw_w cnA mb_ZX vwCl D [(cI, .int), (cZ, .boolean), (cJ, .long)] A (WX X cI cZ cJ)) (hR : 1 ≤ R.frames ∧ 21 ≤ R.locals)
    (hret : mb_R p l e R s0 m args below meth c Q vwCl D A (WX X cI cZ cJ) c_A_countHits .return_ [] rs)  :
    ∀ (n : Nat) (x1 : Int32) (x2 : Int32) (x3 : Int32) (s : mb_S), mA_countHits_l2  n x1 x2 x3 s = some (rv, rs) → mb_B p l e R s0 m args below meth c Q vwCl D A (WX X cI cZ cJ) 4 [(0, .ref (X 4)), (1, .int x1), (2, .int x2), (3, .int x3)] [] 2 s := by
  intro n
  induction n with
  | zero => intro x1 x2 x3 s h; cases h
  | succ n ih =>
    intro x1 x2 x3 s h
    rw [mA_countHits_l2_s] at h
    intro ls H locs hl hP hS
    have Cx0 := Cx
    obtain ⟨⟨hx, hb, hml, hown, hts⟩, hK, hD, hA, hZ⟩ := Cx0
    refine lv_iload_n hx hb d_A_countHits_2 rfl (lv_at hl 3 rfl) ?_
    refine lv_iconst (v := (4 : Int32)) hx hb d_A_countHits_3 (by decide) ?_
    refine lv_icmp_ge hx hb d_A_countHits_4 rfl (fun hc => ?_) (fun hc => ?_)
    · have h := mb_t hc h
      exact mb_eV hret h d_A_countHits_35 hP hS
    · have h := mb_f hc h
      refine lv_iload_n hx hb d_A_countHits_7 rfl (lv_at hl 2 rfl) ?_
      refine lv_iload_n hx hb d_A_countHits_8 rfl (lv_at hl 3 rfl) ?_
      obtain ⟨v2, hv2, h⟩ := mb_cal0_ex h
      refine mb_go0I (st := s) Cx (mb_runSN0 (As := [.int x2, .int x3]) (rest := []) Cx (w_X_has l D hv2 H.size) (mb_cn 2 hts wd_493 wd_284 wd_1 wd_285 rfl rfl rfl (by decide +kernel) ⟨Nat.le_trans (by decide) hR.1, Nat.le_trans (by decide) hR.2⟩) rfl hl.1 rfl (Nat.le_of_ble_eq_true rfl) d_A_countHits_9) hP hS (fun H locs hP hS => ?_)
      refine lv_if_eq hx hb d_A_countHits_12 rfl (fun hc => ?_) (fun hc => ?_)
      · have h := mb_t hc h
        exact zA_countHits_b29 Cx hR hret (mA_countHits_l2  n) ih x1 x2 x3 s h ls H locs (lv_sub hl [0, 1, 2, 3] rfl) hP hS
      · have h := mb_f hc h
        refine lv_aload_n hx hb d_A_countHits_15 rfl (lv_at hl 0 rfl) ?_
        refine va_get (ci := 4) (C := cnA) (T := fTA) (N := 13) hx hb hts uwA hown hK hP 4 rfl rfl 11 (by decide) (hts _ wd_165) (fun _ h9 => h9) rfl d_A_countHits_16 ?_
        refine lv_iload_n hx hb d_A_countHits_19 rfl (lv_at hl 3 rfl) ?_
        refine lv_iconst (v := (4 : Int32)) hx hb d_A_countHits_20 (by decide) ?_
        refine lv_imul hx hb d_A_countHits_21 ?_
        refine lv_iload_n hx hb d_A_countHits_22 rfl (lv_at hl 1 rfl) ?_
        refine lv_iadd hx hb d_A_countHits_23 ?_
        refine lv_dup2_11 hx hb d_A_countHits_24 rfl rfl ?_
        refine mb_iald hx hb hK hP 28 0 rfl rfl h d_A_countHits_25 (fun v3 h => ?_)
        refine lv_iconst (v := (1 : Int32)) hx hb d_A_countHits_26 (by decide) ?_
        refine lv_iadd hx hb d_A_countHits_27 ?_
        refine mb_iast (WS := WX X cI cZ cJ) hx hb hK hP hD hS 28 0 rfl rfl h d_A_countHits_28 rfl (fun H locs s4 hP hS h => ?_)
        exact zA_countHits_b29 Cx hR hret (mA_countHits_l2  n) ih x1 x2 x3 s4 h ls H locs (lv_sub hl [0, 1, 2, 3] rfl) hP hS
set_option maxRecDepth 100000 in
set_option maxHeartbeats 4000000 in
theorem w_A_countHits (l : Launch) (D : va_G) (X : Nat → Nat) (cI cZ cJ : ClassId) {x1 : Int32} {x2 : Int32} {s : mb_S} {rv : Unit} {rs : mb_S}
    (h : mA_countHits x1 x2 s = some (rv, rs)) : mb_MV l y_A_countHits ws_A_countHits rm_A_countHits mb_ZX vwCl D [(cI, .int), (cZ, .boolean), (cJ, .long)] (WX X cI cZ cJ) [.ref (X 4), .int x1, .int x2] s rs := by
  refine mb_ofV mb_ZXok (by decide) rfl (Nat.le_of_ble_eq_true rfl) mb_DXok ?_
  intro p e s0 m args below meth c Q A Cx hret
  have hR : 1 ≤ (rm_A_countHits).frames ∧ 21 ≤ (rm_A_countHits).locals := ⟨Nat.le_refl _, Nat.le_refl _⟩
  intro ls H locs hl hP hS
  have Cx0 := Cx
  obtain ⟨⟨hx, hb, hml, hown, hts⟩, hK, hD, hA, hZ⟩ := Cx0
  have hl : lv_has ls 4 [(0, .ref (X 4)), (1, .int x1), (2, .int x2)] := hl
  unfold mA_countHits at h
  refine lv_iconst (v := (0 : Int32)) hx hb d_A_countHits_0 (by decide) ?_
  refine lv_istore_n (lv' := [(3, .int (0 : Int32)), (0, .ref (X 4)), (1, .int x1), (2, .int x2)]) hx hb d_A_countHits_1 rfl hl (by decide) rfl (fun ls hl => ?_)
  exact zA_countHits_l2 Cx hR hret  mb_fuel x1 x2 (0 : Int32) s h ls H locs (lv_sub hl [1, 2, 3, 0] rfl) hP hS
set_option maxRecDepth 100000 in
set_option maxHeartbeats 4000000 in
theorem zA_changeValues_b238 {p : Program} {l : Launch} {e : Env} {R : Room} {s0 : State} {m : MethodId} {args : Array Value} {below : List Frame} {meth : Method} {c : Code} {Q : State → Prop} {A : Nat → Prop} {D : va_G} {X : Nat → Nat} {cI cZ cJ : ClassId} {rv : Unit} {rs : mb_S}
    (Cx : mb_C p s0 m args meth c c_A_changeValues 6 lw_w cnA mb_ZX vwCl D [(cI, .int), (cZ, .boolean), (cJ, .long)] A (WX X cI cZ cJ)) (hR : 2 ≤ R.frames ∧ 44 ≤ R.locals)
    (hret : mb_R p l e R s0 m args below meth c Q vwCl D A (WX X cI cZ cJ) c_A_changeValues .return_ [] rs)   (s : mb_S)
    (h : mA_changeValues_b238  s = some (rv, rs)) : mb_B p l e R s0 m args below meth c Q vwCl D A (WX X cI cZ cJ) 6 [] [] 238 s := by
  unfold mA_changeValues_b238 at h
  intro ls H locs hl hP hS
  have Cx0 := Cx
  obtain ⟨⟨hx, hb, hml, hown, hts⟩, hK, hD, hA, hZ⟩ := Cx0
  exact mb_eV hret h d_A_changeValues_238 hP hS
set_option maxRecDepth 100000 in
set_option maxHeartbeats 4000000 in
theorem w_A_changeValues (l : Launch) (D : va_G) (X : Nat → Nat) (cI cZ cJ : ClassId) {x1 : Int32} {x2 : Int32} {x3 : Int32} {s : mb_S} {rv : Unit} {rs : mb_S}
    (h : mA_changeValues x1 x2 x3 s = some (rv, rs)) : mb_MV l y_A_changeValues ws_A_changeValues rm_A_changeValues mb_ZX vwCl D [(cI, .int), (cZ, .boolean), (cJ, .long)] (WX X cI cZ cJ) [.ref (X 4), .int x1, .int x2, .int x3] s rs := by
  refine mb_ofV mb_ZXok (by decide) rfl (Nat.le_of_ble_eq_true rfl) mb_DXok ?_
  intro p e s0 m args below meth c Q A Cx hret
  have hR : 2 ≤ (rm_A_changeValues).frames ∧ 44 ≤ (rm_A_changeValues).locals := ⟨Nat.le_refl _, Nat.le_refl _⟩
  intro ls H locs hl hP hS
  have Cx0 := Cx
  obtain ⟨⟨hx, hb, hml, hown, hts⟩, hK, hD, hA, hZ⟩ := Cx0
  have hl : lv_has ls 6 [(0, .ref (X 4)), (1, .int x1), (2, .int x2), (3, .int x3)] := hl
  unfold mA_changeValues at h
  refine lv_aload_n hx hb d_A_changeValues_0 rfl (lv_at hl 0 rfl) ?_
  refine va_get (ci := 4) (C := cnA) (T := fTA) (N := 13) hx hb hts uwA hown hK hP 4 rfl rfl 0 (by decide) (hts _ wd_153) (fun _ h9 => h9) rfl d_A_changeValues_1 ?_
  refine va_get (ci := 1) (C := cnP) (T := fTP) (N := 12) hx hb hts uwP hown hK hP 1 rfl rfl 2 (by decide) (hts _ wd_38) (fun _ h9 => h9) rfl d_A_changeValues_4 ?_
  refine lv_iload_n hx hb d_A_changeValues_7 rfl (lv_at hl 1 rfl) ?_
  refine mb_iald hx hb hK hP 7 0 rfl rfl h d_A_changeValues_8 (fun v1 h => ?_)
  refine lv_istore (lv' := [(4, .int v1), (0, .ref (X 4)), (1, .int x1), (2, .int x2), (3, .int x3)]) hx hb d_A_changeValues_9 hl (by decide) rfl (fun ls hl => ?_)
  refine lv_aload_n hx hb d_A_changeValues_11 rfl (lv_at hl 1 rfl) ?_
  refine va_get (ci := 4) (C := cnA) (T := fTA) (N := 13) hx hb hts uwA hown hK hP 4 rfl rfl 0 (by decide) (hts _ wd_153) (fun _ h9 => h9) rfl d_A_changeValues_12 ?_
  refine va_get (ci := 1) (C := cnP) (T := fTP) (N := 12) hx hb hts uwP hown hK hP 1 rfl rfl 3 (by decide) (hts _ wd_43) (fun _ h9 => h9) rfl d_A_changeValues_15 ?_
  refine lv_iload_n hx hb d_A_changeValues_18 rfl (lv_at hl 2 rfl) ?_
  refine mb_iald hx hb hK hP 8 0 rfl rfl h d_A_changeValues_19 (fun v2 h => ?_)
  refine lv_istore (lv' := [(5, .int v2), (4, .int v1), (0, .ref (X 4)), (1, .int x1), (2, .int x2), (3, .int x3)]) hx hb d_A_changeValues_20 hl (by decide) rfl (fun ls hl => ?_)
  refine lv_aload_n hx hb d_A_changeValues_22 rfl (lv_at hl 2 rfl) ?_
  refine va_get (ci := 4) (C := cnA) (T := fTA) (N := 13) hx hb hts uwA hown hK hP 4 rfl rfl 0 (by decide) (hts _ wd_153) (fun _ h9 => h9) rfl d_A_changeValues_23 ?_
  refine va_get (ci := 1) (C := cnP) (T := fTP) (N := 12) hx hb hts uwP hown hK hP 1 rfl rfl 0 (by decide) (hts _ wd_30) (fun _ h9 => h9) rfl d_A_changeValues_26 ?_
  refine lv_iload_n hx hb d_A_changeValues_29 rfl (lv_at hl 3 rfl) ?_
  refine mb_iald hx hb hK hP 5 0 rfl rfl h d_A_changeValues_30 (fun v3 h => ?_)
  by_cases hc0 : v3 = (0 : Int32)
  · have h := mb_t hc0 h
    refine lv_tableIn (tgt := 72) hx hb d_A_changeValues_31 (by rw [hc0]; decide) (by rw [hc0]; decide) (by rw [hc0]; rfl) rfl ?_
    refine lv_aload_n hx hb d_A_changeValues_72 rfl (lv_at hl 2 rfl) ?_
    refine va_get (ci := 4) (C := cnA) (T := fTA) (N := 13) hx hb hts uwA hown hK hP 4 rfl rfl 4 (by decide) (hts _ wd_157) (fun _ h9 => h9) rfl d_A_changeValues_73 ?_
    refine lv_iload_n hx hb d_A_changeValues_76 rfl (lv_at hl 4 rfl) ?_
    refine lv_iload_n hx hb d_A_changeValues_77 rfl (lv_at hl 5 rfl) ?_
    refine lv_iadd hx hb d_A_changeValues_78 ?_
    refine lv_aload_n hx hb d_A_changeValues_79 rfl (lv_at hl 2 rfl) ?_
    refine lv_iload hx hb d_A_changeValues_80 (lv_at hl 1 rfl) ?_
    obtain ⟨v4, s5, hs5, h⟩ := mb_cal_ex h
    refine mb_goI Cx (mb_runV (As := [.int v1]) (rest := [.int (x2 + x3), .ref (X 25)]) mb_ZXok Cx (w_A_makeObject l D X cI cZ cJ hs5 H.size) (mb_cwV 1 hts wd_499 wd_501 sel_37 wd_6 wd_502 rfl rfl rfl (by decide +kernel) ⟨Nat.le_trans (by decide) hR.1, Nat.le_trans (by decide) hR.2⟩) hP hS 4 rfl rfl rfl hl.1 rfl (Nat.le_of_ble_eq_true rfl) d_A_changeValues_82) hS (fun H locs hP hS => ?_)
    refine mb_iast (WS := WX X cI cZ cJ) hx hb hK hP hD hS 25 0 rfl rfl h d_A_changeValues_85 rfl (fun H locs s6 hP hS h => ?_)
    refine lv_goto hx hb d_A_changeValues_86 rfl ?_
    exact zA_changeValues_b238 Cx hR hret  s6 h ls H locs (lv_sub hl [] rfl) hP hS
  have h := mb_f hc0 h
  by_cases hc1 : v3 = (1 : Int32)
  · have h := mb_t hc1 h
    refine lv_tableIn (tgt := 89) hx hb d_A_changeValues_31 (by rw [hc1]; decide) (by rw [hc1]; decide) (by rw [hc1]; rfl) rfl ?_
    refine lv_aload_n hx hb d_A_changeValues_89 rfl (lv_at hl 2 rfl) ?_
    refine va_get (ci := 4) (C := cnA) (T := fTA) (N := 13) hx hb hts uwA hown hK hP 4 rfl rfl 4 (by decide) (hts _ wd_157) (fun _ h9 => h9) rfl d_A_changeValues_90 ?_
    refine lv_iload_n hx hb d_A_changeValues_93 rfl (lv_at hl 4 rfl) ?_
    refine lv_iload_n hx hb d_A_changeValues_94 rfl (lv_at hl 5 rfl) ?_
    refine lv_iadd hx hb d_A_changeValues_95 ?_
    refine lv_iconst (v := (1 : Int32)) hx hb d_A_changeValues_96 (by decide) ?_
    refine lv_aload_n hx hb d_A_changeValues_97 rfl (lv_at hl 2 rfl) ?_
    refine va_get (ci := 4) (C := cnA) (T := fTA) (N := 13) hx hb hts uwA hown hK hP 4 rfl rfl 0 (by decide) (hts _ wd_153) (fun _ h9 => h9) rfl d_A_changeValues_98 ?_
    refine va_get (ci := 1) (C := cnP) (T := fTP) (N := 12) hx hb hts uwP hown hK hP 1 rfl rfl 4 (by decide) (hts _ wd_47) (fun _ h9 => h9) rfl d_A_changeValues_101 ?_
    refine lv_iload_n hx hb d_A_changeValues_104 rfl (lv_at hl 3 rfl) ?_
    refine mb_iald hx hb hK hP 9 0 rfl rfl h d_A_changeValues_105 (fun v7 h => ?_)
    refine lv_ishl hx hb d_A_changeValues_106 ?_
    refine mb_iast (WS := WX X cI cZ cJ) hx hb hK hP hD hS 25 0 rfl rfl h d_A_changeValues_107 rfl (fun H locs s8 hP hS h => ?_)
    refine lv_goto hx hb d_A_changeValues_108 rfl ?_
    exact zA_changeValues_b238 Cx hR hret  s8 h ls H locs (lv_sub hl [] rfl) hP hS
  have h := mb_f hc1 h
  by_cases hc2 : v3 = (2 : Int32)
  · have h := mb_t hc2 h
    refine lv_tableIn (tgt := 111) hx hb d_A_changeValues_31 (by rw [hc2]; decide) (by rw [hc2]; decide) (by rw [hc2]; rfl) rfl ?_
    refine lv_aload_n hx hb d_A_changeValues_111 rfl (lv_at hl 2 rfl) ?_
    refine lv_aload_n hx hb d_A_changeValues_112 rfl (lv_at hl 2 rfl) ?_
    refine va_get (ci := 4) (C := cnA) (T := fTA) (N := 13) hx hb hts uwA hown hK hP 4 rfl rfl 0 (by decide) (hts _ wd_153) (fun _ h9 => h9) rfl d_A_changeValues_113 ?_
    refine va_get (ci := 1) (C := cnP) (T := fTP) (N := 12) hx hb hts uwP hown hK hP 1 rfl rfl 4 (by decide) (hts _ wd_47) (fun _ h9 => h9) rfl d_A_changeValues_116 ?_
    refine lv_iload_n hx hb d_A_changeValues_119 rfl (lv_at hl 3 rfl) ?_
    refine mb_iald hx hb hK hP 9 0 rfl rfl h d_A_changeValues_120 (fun v9 h => ?_)
    refine lv_aload_n hx hb d_A_changeValues_121 rfl (lv_at hl 2 rfl) ?_
    refine va_get (ci := 4) (C := cnA) (T := fTA) (N := 13) hx hb hts uwA hown hK hP 4 rfl rfl 4 (by decide) (hts _ wd_157) (fun _ h9 => h9) rfl d_A_changeValues_122 ?_
    refine lv_iload_n hx hb d_A_changeValues_125 rfl (lv_at hl 4 rfl) ?_
    refine lv_iload_n hx hb d_A_changeValues_126 rfl (lv_at hl 5 rfl) ?_
    refine lv_iadd hx hb d_A_changeValues_127 ?_
    refine mb_iald hx hb hK hP 25 0 rfl rfl h d_A_changeValues_128 (fun v10 h => ?_)
    obtain ⟨_u, s11, hs11, h⟩ := mb_cal_ex h
    refine mb_goV Cx (mb_runV (As := [.int v9, .int v10]) (rest := []) mb_ZXok Cx (w_A_countHits l D X cI cZ cJ hs11 H.size) (mb_cwV 2 hts wd_503 wd_505 sel_38 wd_6 wd_506 rfl rfl rfl (by decide +kernel) ⟨Nat.le_trans (by decide) hR.1, Nat.le_trans (by decide) hR.2⟩) hP hS 4 rfl rfl rfl hl.1 rfl (Nat.le_of_ble_eq_true rfl) d_A_changeValues_129) hS (fun H locs hP hS => ?_)
    refine lv_goto hx hb d_A_changeValues_132 rfl ?_
    exact zA_changeValues_b238 Cx hR hret  s11 h ls H locs (lv_sub hl [] rfl) hP hS
  have h := mb_f hc2 h
  by_cases hc3 : v3 = (3 : Int32)
  · have h := mb_t hc3 h
    refine lv_tableIn (tgt := 135) hx hb d_A_changeValues_31 (by rw [hc3]; decide) (by rw [hc3]; decide) (by rw [hc3]; rfl) rfl ?_
    refine lv_aload_n hx hb d_A_changeValues_135 rfl (lv_at hl 2 rfl) ?_
    refine va_get (ci := 4) (C := cnA) (T := fTA) (N := 13) hx hb hts uwA hown hK hP 4 rfl rfl 4 (by decide) (hts _ wd_157) (fun _ h9 => h9) rfl d_A_changeValues_136 ?_
    refine lv_iload_n hx hb d_A_changeValues_139 rfl (lv_at hl 4 rfl) ?_
    refine lv_iload_n hx hb d_A_changeValues_140 rfl (lv_at hl 5 rfl) ?_
    refine lv_iadd hx hb d_A_changeValues_141 ?_
    refine lv_dup2_11 hx hb d_A_changeValues_142 rfl rfl ?_
    refine mb_iald hx hb hK hP 25 0 rfl rfl h d_A_changeValues_143 (fun v12 h => ?_)
    refine lv_bipush (v := (-16 : Int32)) hx hb d_A_changeValues_144 (by decide) ?_
    refine lv_iand hx hb d_A_changeValues_146 ?_
    refine mb_iast (WS := WX X cI cZ cJ) hx hb hK hP hD hS 25 0 rfl rfl h d_A_changeValues_147 rfl (fun H locs s13 hP hS h => ?_)
    refine lv_goto hx hb d_A_changeValues_148 rfl ?_
    exact zA_changeValues_b238 Cx hR hret  s13 h ls H locs (lv_sub hl [] rfl) hP hS
  have h := mb_f hc3 h
  by_cases hc4 : v3 = (4 : Int32)
  · have h := mb_t hc4 h
    refine lv_tableIn (tgt := 151) hx hb d_A_changeValues_31 (by rw [hc4]; decide) (by rw [hc4]; decide) (by rw [hc4]; rfl) rfl ?_
    refine lv_aload_n hx hb d_A_changeValues_151 rfl (lv_at hl 2 rfl) ?_
    refine va_get (ci := 4) (C := cnA) (T := fTA) (N := 13) hx hb hts uwA hown hK hP 4 rfl rfl 4 (by decide) (hts _ wd_157) (fun _ h9 => h9) rfl d_A_changeValues_152 ?_
    refine lv_iload_n hx hb d_A_changeValues_155 rfl (lv_at hl 4 rfl) ?_
    refine lv_iload_n hx hb d_A_changeValues_156 rfl (lv_at hl 5 rfl) ?_
    refine lv_iadd hx hb d_A_changeValues_157 ?_
    refine lv_aload_n hx hb d_A_changeValues_158 rfl (lv_at hl 2 rfl) ?_
    refine va_get (ci := 4) (C := cnA) (T := fTA) (N := 13) hx hb hts uwA hown hK hP 4 rfl rfl 4 (by decide) (hts _ wd_157) (fun _ h9 => h9) rfl d_A_changeValues_159 ?_
    refine lv_iload_n hx hb d_A_changeValues_162 rfl (lv_at hl 4 rfl) ?_
    refine lv_iload hx hb d_A_changeValues_163 (lv_at hl 1 rfl) ?_
    refine lv_iadd hx hb d_A_changeValues_165 ?_
    refine mb_iald hx hb hK hP 25 0 rfl rfl h d_A_changeValues_166 (fun v14 h => ?_)
    refine mb_iast (WS := WX X cI cZ cJ) hx hb hK hP hD hS 25 0 rfl rfl h d_A_changeValues_167 rfl (fun H locs s15 hP hS h => ?_)
    refine lv_goto hx hb d_A_changeValues_168 rfl ?_
    exact zA_changeValues_b238 Cx hR hret  s15 h ls H locs (lv_sub hl [] rfl) hP hS
  have h := mb_f hc4 h
  by_cases hc5 : v3 = (5 : Int32)
  · have h := mb_t hc5 h
    refine lv_tableIn (tgt := 171) hx hb d_A_changeValues_31 (by rw [hc5]; decide) (by rw [hc5]; decide) (by rw [hc5]; rfl) rfl ?_
    refine lv_aload_n hx hb d_A_changeValues_171 rfl (lv_at hl 2 rfl) ?_
    refine va_get (ci := 4) (C := cnA) (T := fTA) (N := 13) hx hb hts uwA hown hK hP 4 rfl rfl 4 (by decide) (hts _ wd_157) (fun _ h9 => h9) rfl d_A_changeValues_172 ?_
    refine lv_iload_n hx hb d_A_changeValues_175 rfl (lv_at hl 4 rfl) ?_
    refine lv_iload_n hx hb d_A_changeValues_176 rfl (lv_at hl 5 rfl) ?_
    refine lv_iadd hx hb d_A_changeValues_177 ?_
    refine lv_aload_n hx hb d_A_changeValues_178 rfl (lv_at hl 2 rfl) ?_
    refine va_get (ci := 4) (C := cnA) (T := fTA) (N := 13) hx hb hts uwA hown hK hP 4 rfl rfl 6 (by decide) (hts _ wd_159) (fun _ h9 => h9) rfl d_A_changeValues_179 ?_
    refine lv_aload_n hx hb d_A_changeValues_182 rfl (lv_at hl 2 rfl) ?_
    refine lv_iload hx hb d_A_changeValues_183 (lv_at hl 1 rfl) ?_
    obtain ⟨v16, s17, hs17, h⟩ := mb_cal_ex h
    refine mb_goI Cx (mb_runV (As := [.int v1]) (rest := [.ref (X 27), .int (x2 + x3), .ref (X 25)]) mb_ZXok Cx (w_A_objectOf l D X cI cZ cJ hs17 H.size) (mb_cwV 1 hts wd_480 wd_482 sel_33 wd_6 wd_483 rfl rfl rfl (by decide +kernel) ⟨Nat.le_trans (by decide) hR.1, Nat.le_trans (by decide) hR.2⟩) hP hS 4 rfl rfl rfl hl.1 rfl (Nat.le_of_ble_eq_true rfl) d_A_changeValues_185) hS (fun H locs hP hS => ?_)
    refine lv_iconst (v := (2 : Int32)) hx hb d_A_changeValues_188 (by decide) ?_
    refine lv_imul hx hb d_A_changeValues_189 ?_
    refine lv_iload hx hb d_A_changeValues_190 (lv_at hl 0 rfl) ?_
    refine lv_iadd hx hb d_A_changeValues_192 ?_
    refine mb_iald hx hb hK hP 27 0 rfl rfl h d_A_changeValues_193 (fun v18 h => ?_)
    refine lv_aload_n hx hb d_A_changeValues_194 rfl (lv_at hl 2 rfl) ?_
    refine va_get (ci := 4) (C := cnA) (T := fTA) (N := 13) hx hb hts uwA hown hK hP 4 rfl rfl 4 (by decide) (hts _ wd_157) (fun _ h9 => h9) rfl d_A_changeValues_195 ?_
    refine lv_iload_n hx hb d_A_changeValues_198 rfl (lv_at hl 4 rfl) ?_
    refine lv_iload hx hb d_A_changeValues_199 (lv_at hl 1 rfl) ?_
    refine lv_iadd hx hb d_A_changeValues_201 ?_
    refine mb_iald hx hb hK hP 25 0 rfl rfl h d_A_changeValues_202 (fun v19 h => ?_)
    refine lv_bipush (v := (15 : Int32)) hx hb d_A_changeValues_203 (by decide) ?_
    refine lv_iand hx hb d_A_changeValues_205 ?_
    refine lv_ior hx hb d_A_changeValues_206 ?_
    refine mb_iast (WS := WX X cI cZ cJ) hx hb hK hP hD hS 25 0 rfl rfl h d_A_changeValues_207 rfl (fun H locs s20 hP hS h => ?_)
    refine lv_goto hx hb d_A_changeValues_208 rfl ?_
    exact zA_changeValues_b238 Cx hR hret  s20 h ls H locs (lv_sub hl [] rfl) hP hS
  have h := mb_f hc5 h
  by_cases hc6 : v3 = (6 : Int32)
  · have h := mb_t hc6 h
    refine lv_tableIn (tgt := 211) hx hb d_A_changeValues_31 (by rw [hc6]; decide) (by rw [hc6]; decide) (by rw [hc6]; rfl) rfl ?_
    refine lv_aload_n hx hb d_A_changeValues_211 rfl (lv_at hl 2 rfl) ?_
    refine va_get (ci := 4) (C := cnA) (T := fTA) (N := 13) hx hb hts uwA hown hK hP 4 rfl rfl 6 (by decide) (hts _ wd_159) (fun _ h9 => h9) rfl d_A_changeValues_212 ?_
    refine lv_aload_n hx hb d_A_changeValues_215 rfl (lv_at hl 2 rfl) ?_
    refine lv_iload_n hx hb d_A_changeValues_216 rfl (lv_at hl 5 rfl) ?_
    obtain ⟨v21, s22, hs22, h⟩ := mb_cal_ex h
    refine mb_goI Cx (mb_runV (As := [.int x3]) (rest := [.ref (X 27)]) mb_ZXok Cx (w_A_objectOf l D X cI cZ cJ hs22 H.size) (mb_cwV 1 hts wd_480 wd_482 sel_33 wd_6 wd_483 rfl rfl rfl (by decide +kernel) ⟨Nat.le_trans (by decide) hR.1, Nat.le_trans (by decide) hR.2⟩) hP hS 4 rfl rfl rfl hl.1 rfl (Nat.le_of_ble_eq_true rfl) d_A_changeValues_217) hS (fun H locs hP hS => ?_)
    refine lv_iconst (v := (2 : Int32)) hx hb d_A_changeValues_220 (by decide) ?_
    refine lv_imul hx hb d_A_changeValues_221 ?_
    refine lv_iload hx hb d_A_changeValues_222 (lv_at hl 0 rfl) ?_
    refine lv_iadd hx hb d_A_changeValues_224 ?_
    refine lv_aload_n hx hb d_A_changeValues_225 rfl (lv_at hl 2 rfl) ?_
    refine va_get (ci := 4) (C := cnA) (T := fTA) (N := 13) hx hb hts uwA hown hK hP 4 rfl rfl 4 (by decide) (hts _ wd_157) (fun _ h9 => h9) rfl d_A_changeValues_226 ?_
    refine lv_iload_n hx hb d_A_changeValues_229 rfl (lv_at hl 4 rfl) ?_
    refine lv_iload hx hb d_A_changeValues_230 (lv_at hl 1 rfl) ?_
    refine lv_iadd hx hb d_A_changeValues_232 ?_
    refine mb_iald hx hb hK hP 25 0 rfl rfl h d_A_changeValues_233 (fun v23 h => ?_)
    refine mb_iast (WS := WX X cI cZ cJ) hx hb hK hP hD hS 27 0 rfl rfl h d_A_changeValues_234 rfl (fun H locs s24 hP hS h => ?_)
    refine lv_goto hx hb d_A_changeValues_235 rfl ?_
    exact zA_changeValues_b238 Cx hR hret  s24 h ls H locs (lv_sub hl [] rfl) hP hS
  have h := mb_f hc6 h
  have hn0 : ¬ Int32.toInt v3 = 0 := lv_neT hc0 (by decide)
  have hn1 : ¬ Int32.toInt v3 = 1 := lv_neT hc1 (by decide)
  have hn2 : ¬ Int32.toInt v3 = 2 := lv_neT hc2 (by decide)
  have hn3 : ¬ Int32.toInt v3 = 3 := lv_neT hc3 (by decide)
  have hn4 : ¬ Int32.toInt v3 = 4 := lv_neT hc4 (by decide)
  have hn5 : ¬ Int32.toInt v3 = 5 := lv_neT hc5 (by decide)
  have hn6 : ¬ Int32.toInt v3 = 6 := lv_neT hc6 (by decide)
  refine mb_tabD (tgt := 238) hx hb d_A_changeValues_31 (fun h1 h2 => by omega) rfl ?_
  exact zA_changeValues_b238 Cx hR hret  s h ls H locs (lv_sub hl [] rfl) hP hS
set_option maxRecDepth 100000 in
set_option maxHeartbeats 4000000 in
theorem zA_step_b259 {p : Program} {l : Launch} {e : Env} {R : Room} {s0 : State} {m : MethodId} {args : Array Value} {below : List Frame} {meth : Method} {c : Code} {Q : State → Prop} {A : Nat → Prop} {D : va_G} {X : Nat → Nat} {cI cZ cJ : ClassId} {rv : Unit} {rs : mb_S}
    (Cx : mb_C p s0 m args meth c c_A_step 6 lw_w cnA mb_ZX vwCl D [(cI, .int), (cZ, .boolean), (cJ, .long)] A (WX X cI cZ cJ)) (hR : 3 ≤ R.frames ∧ 69 ≤ R.locals)
    (hret : mb_R p l e R s0 m args below meth c Q vwCl D A (WX X cI cZ cJ) c_A_step .return_ [] rs)   (s : mb_S)
    (h : mA_step_b259  s = some (rv, rs)) : mb_B p l e R s0 m args below meth c Q vwCl D A (WX X cI cZ cJ) 6 [] [] 259 s := by
  unfold mA_step_b259 at h
  intro ls H locs hl hP hS
  have Cx0 := Cx
  obtain ⟨⟨hx, hb, hml, hown, hts⟩, hK, hD, hA, hZ⟩ := Cx0
  exact mb_eV hret h d_A_step_259 hP hS
set_option maxRecDepth 100000 in
set_option maxHeartbeats 4000000 in
theorem zA_step_b194 {p : Program} {l : Launch} {e : Env} {R : Room} {s0 : State} {m : MethodId} {args : Array Value} {below : List Frame} {meth : Method} {c : Code} {Q : State → Prop} {A : Nat → Prop} {D : va_G} {X : Nat → Nat} {cI cZ cJ : ClassId} {rv : Unit} {rs : mb_S}
    (Cx : mb_C p s0 m args meth c c_A_step 6 lw_w cnA mb_ZX vwCl D [(cI, .int), (cZ, .boolean), (cJ, .long)] A (WX X cI cZ cJ)) (hR : 3 ≤ R.frames ∧ 69 ≤ R.locals)
    (hret : mb_R p l e R s0 m args below meth c Q vwCl D A (WX X cI cZ cJ) c_A_step .return_ [] rs)  (y0 : Int32) (y1 : Int32) (s : mb_S)
    (h : mA_step_b194  y0 y1 s = some (rv, rs)) : mb_B p l e R s0 m args below meth c Q vwCl D A (WX X cI cZ cJ) 6 [] [.int y0, .int y1, .ref (X 24)] 194 s := by
  unfold mA_step_b194 at h
  intro ls H locs hl hP hS
  have Cx0 := Cx
  obtain ⟨⟨hx, hb, hml, hown, hts⟩, hK, hD, hA, hZ⟩ := Cx0
  refine mb_iast (WS := WX X cI cZ cJ) hx hb hK hP hD hS 24 0 rfl rfl h d_A_step_194 rfl (fun H locs s1 hP hS h => ?_)
  refine lv_goto hx hb d_A_step_195 rfl ?_
  exact zA_step_b259 Cx hR hret  s1 h ls H locs (lv_sub hl [] rfl) hP hS
set_option maxRecDepth 100000 in
set_option maxHeartbeats 4000000 in
theorem w_A_step (l : Launch) (D : va_G) (X : Nat → Nat) (cI cZ cJ : ClassId)  {s : mb_S} {rv : Unit} {rs : mb_S}
    (h : mA_step  s = some (rv, rs)) : mb_MV l y_A_step ws_A_step rm_A_step mb_ZX vwCl D [(cI, .int), (cZ, .boolean), (cJ, .long)] (WX X cI cZ cJ) [.ref (X 4)] s rs := by
  refine mb_ofV mb_ZXok (by decide) rfl (Nat.le_of_ble_eq_true rfl) mb_DXok ?_
  intro p e s0 m args below meth c Q A Cx hret
  have hR : 3 ≤ (rm_A_step).frames ∧ 69 ≤ (rm_A_step).locals := ⟨Nat.le_refl _, Nat.le_refl _⟩
  intro ls H locs hl hP hS
  have Cx0 := Cx
  obtain ⟨⟨hx, hb, hml, hown, hts⟩, hK, hD, hA, hZ⟩ := Cx0
  have hl : lv_has ls 6 [(0, .ref (X 4))] := hl
  unfold mA_step at h
  refine lv_aload_n hx hb d_A_step_0 rfl (lv_at hl 0 rfl) ?_
  refine lv_dup hx hb d_A_step_1 rfl ?_
  refine va_get (ci := 4) (C := cnA) (T := fTA) (N := 13) hx hb hts uwA hown hK hP 4 rfl rfl 9 (by decide) (hts _ wd_162) (fun _ h9 => h9) rfl d_A_step_2 ?_
  refine lv_iconst (v := (1 : Int32)) hx hb d_A_step_5 (by decide) ?_
  refine lv_iadd hx hb d_A_step_6 ?_
  have h := mb_putF_ex h
  refine va_put (ci := 4) (v := .int ((mb_F s 8) + (1 : Int32))) (ty := .int) (C := cnA) (T := fTA) (N := 13) hx hb hts uwA fyA fyA_ok fnA hown hK hP (hD _) hS 4 rfl rfl 9 (by decide) (hts _ wd_162) (fun _ h9 => h9) rfl (by decide +kernel) rfl rfl (Nat.le_of_ble_eq_true rfl) d_A_step_7 (fun H locs hP _ hS => ?_)
  have hP : va_P D vwCl (WX X cI cZ cJ (mb_setF s 8 ((mb_F s 8) + (1 : Int32)))) H := hP
  generalize mb_setF s 8 ((mb_F s 8) + (1 : Int32)) = s2 at hP h
  refine lv_aload_n hx hb d_A_step_10 rfl (lv_at hl 0 rfl) ?_
  refine va_get (ci := 4) (C := cnA) (T := fTA) (N := 13) hx hb hts uwA hown hK hP 4 rfl rfl 1 (by decide) (hts _ wd_154) (fun _ h9 => h9) rfl d_A_step_11 ?_
  refine lv_aload_n hx hb d_A_step_14 rfl (lv_at hl 0 rfl) ?_
  refine va_get (ci := 4) (C := cnA) (T := fTA) (N := 13) hx hb hts uwA hown hK hP 4 rfl rfl 3 (by decide) (hts _ wd_156) (fun _ h9 => h9) rfl d_A_step_15 ?_
  refine lv_iconst (v := (1 : Int32)) hx hb d_A_step_18 (by decide) ?_
  refine lv_isub hx hb d_A_step_19 ?_
  refine mb_iald hx hb hK hP 23 0 rfl rfl h d_A_step_20 (fun v3 h => ?_)
  refine lv_istore_n (lv' := [(1, .int v3), (0, .ref (X 4))]) hx hb d_A_step_21 rfl hl (by decide) rfl (fun ls hl => ?_)
  refine lv_aload_n hx hb d_A_step_22 rfl (lv_at hl 1 rfl) ?_
  refine va_get (ci := 4) (C := cnA) (T := fTA) (N := 13) hx hb hts uwA hown hK hP 4 rfl rfl 2 (by decide) (hts _ wd_155) (fun _ h9 => h9) rfl d_A_step_23 ?_
  refine lv_aload_n hx hb d_A_step_26 rfl (lv_at hl 1 rfl) ?_
  refine va_get (ci := 4) (C := cnA) (T := fTA) (N := 13) hx hb hts uwA hown hK hP 4 rfl rfl 3 (by decide) (hts _ wd_156) (fun _ h9 => h9) rfl d_A_step_27 ?_
  refine lv_iconst (v := (1 : Int32)) hx hb d_A_step_30 (by decide) ?_
  refine lv_isub hx hb d_A_step_31 ?_
  refine mb_iald hx hb hK hP 24 0 rfl rfl h d_A_step_32 (fun v4 h => ?_)
  refine lv_istore_n (lv' := [(2, .int v4), (1, .int v3), (0, .ref (X 4))]) hx hb d_A_step_33 rfl hl (by decide) rfl (fun ls hl => ?_)
  refine lv_aload_n hx hb d_A_step_34 rfl (lv_at hl 2 rfl) ?_
  refine va_get (ci := 4) (C := cnA) (T := fTA) (N := 13) hx hb hts uwA hown hK hP 4 rfl rfl 3 (by decide) (hts _ wd_156) (fun _ h9 => h9) rfl d_A_step_35 ?_
  refine lv_iconst (v := (1 : Int32)) hx hb d_A_step_38 (by decide) ?_
  refine lv_isub hx hb d_A_step_39 ?_
  refine lv_iconst (v := (4 : Int32)) hx hb d_A_step_40 (by decide) ?_
  refine lv_imul hx hb d_A_step_41 ?_
  refine lv_topi (fun v5 ev5 => ?_)
  have h := mb_at ev5 h
  refine lv_istore_n (lv' := [(3, .int v5), (2, .int v4), (1, .int v3), (0, .ref (X 4))]) hx hb d_A_step_42 rfl hl (by decide) rfl (fun ls hl => ?_)
  refine lv_aload_n hx hb d_A_step_43 rfl (lv_at hl 3 rfl) ?_
  refine va_get (ci := 4) (C := cnA) (T := fTA) (N := 13) hx hb hts uwA hown hK hP 4 rfl rfl 0 (by decide) (hts _ wd_153) (fun _ h9 => h9) rfl d_A_step_44 ?_
  refine va_get (ci := 1) (C := cnP) (T := fTP) (N := 12) hx hb hts uwP hown hK hP 1 rfl rfl 1 (by decide) (hts _ wd_34) (fun _ h9 => h9) rfl d_A_step_47 ?_
  refine lv_iload_n hx hb d_A_step_50 rfl (lv_at hl 1 rfl) ?_
  refine mb_iald hx hb hK hP 6 0 rfl rfl h d_A_step_51 (fun v6 h => ?_)
  refine lv_istore (lv' := [(4, .int v6), (3, .int v5), (2, .int v4), (1, .int v3), (0, .ref (X 4))]) hx hb d_A_step_52 hl (by decide) rfl (fun ls hl => ?_)
  refine lv_aload_n hx hb d_A_step_54 rfl (lv_at hl 4 rfl) ?_
  refine va_get (ci := 4) (C := cnA) (T := fTA) (N := 13) hx hb hts uwA hown hK hP 4 rfl rfl 0 (by decide) (hts _ wd_153) (fun _ h9 => h9) rfl d_A_step_55 ?_
  refine va_get (ci := 1) (C := cnP) (T := fTP) (N := 12) hx hb hts uwP hown hK hP 1 rfl rfl 0 (by decide) (hts _ wd_30) (fun _ h9 => h9) rfl d_A_step_58 ?_
  refine lv_iload_n hx hb d_A_step_61 rfl (lv_at hl 2 rfl) ?_
  refine mb_iald hx hb hK hP 5 0 rfl rfl h d_A_step_62 (fun v7 h => ?_)
  by_cases hc7 : v7 = (7 : Int32)
  · have h := mb_t hc7 h
    refine lv_tableIn (tgt := 92) hx hb d_A_step_63 (by rw [hc7]; decide) (by rw [hc7]; decide) (by rw [hc7]; rfl) rfl ?_
    refine lv_aload_n hx hb d_A_step_92 rfl (lv_at hl 4 rfl) ?_
    refine lv_aload_n hx hb d_A_step_93 rfl (lv_at hl 4 rfl) ?_
    refine lv_iload_n hx hb d_A_step_94 rfl (lv_at hl 2 rfl) ?_
    obtain ⟨v8, s9, hs9, h⟩ := mb_cal_ex h
    refine mb_goI Cx (mb_runV (As := [.int v4]) (rest := [.ref (X 4)]) mb_ZXok Cx (w_A_calledMethod l D X cI cZ cJ hs9 H.size) (mb_cwV 1 hts wd_484 wd_486 sel_34 wd_6 wd_487 rfl rfl rfl (by decide +kernel) ⟨Nat.le_trans (by decide) hR.1, Nat.le_trans (by decide) hR.2⟩) hP hS 4 rfl rfl rfl hl.1 rfl (Nat.le_of_ble_eq_true rfl) d_A_step_95) hS (fun H locs hP hS => ?_)
    refine lv_aload_n hx hb d_A_step_98 rfl (lv_at hl 4 rfl) ?_
    refine va_get (ci := 4) (C := cnA) (T := fTA) (N := 13) hx hb hts uwA hown hK hP 4 rfl rfl 4 (by decide) (hts _ wd_157) (fun _ h9 => h9) rfl d_A_step_99 ?_
    refine lv_iload_n hx hb d_A_step_102 rfl (lv_at hl 1 rfl) ?_
    refine lv_aload_n hx hb d_A_step_103 rfl (lv_at hl 4 rfl) ?_
    refine va_get (ci := 4) (C := cnA) (T := fTA) (N := 13) hx hb hts uwA hown hK hP 4 rfl rfl 0 (by decide) (hts _ wd_153) (fun _ h9 => h9) rfl d_A_step_104 ?_
    refine va_get (ci := 1) (C := cnP) (T := fTP) (N := 12) hx hb hts uwP hown hK hP 1 rfl rfl 2 (by decide) (hts _ wd_38) (fun _ h9 => h9) rfl d_A_step_107 ?_
    refine lv_iload_n hx hb d_A_step_110 rfl (lv_at hl 2 rfl) ?_
    refine mb_iald hx hb hK hP 7 0 rfl rfl h d_A_step_111 (fun v10 h => ?_)
    refine lv_iadd hx hb d_A_step_112 ?_
    refine mb_iald hx hb hK hP 25 0 rfl rfl h d_A_step_113 (fun v11 h => ?_)
    refine lv_aload_n hx hb d_A_step_114 rfl (lv_at hl 4 rfl) ?_
    refine va_get (ci := 4) (C := cnA) (T := fTA) (N := 13) hx hb hts uwA hown hK hP 4 rfl rfl 4 (by decide) (hts _ wd_157) (fun _ h9 => h9) rfl d_A_step_115 ?_
    refine lv_iload_n hx hb d_A_step_118 rfl (lv_at hl 1 rfl) ?_
    refine lv_aload_n hx hb d_A_step_119 rfl (lv_at hl 4 rfl) ?_
    refine va_get (ci := 4) (C := cnA) (T := fTA) (N := 13) hx hb hts uwA hown hK hP 4 rfl rfl 0 (by decide) (hts _ wd_153) (fun _ h9 => h9) rfl d_A_step_120 ?_
    refine va_get (ci := 1) (C := cnP) (T := fTP) (N := 12) hx hb hts uwP hown hK hP 1 rfl rfl 3 (by decide) (hts _ wd_43) (fun _ h9 => h9) rfl d_A_step_123 ?_
    refine lv_iload_n hx hb d_A_step_126 rfl (lv_at hl 2 rfl) ?_
    refine mb_iald hx hb hK hP 8 0 rfl rfl h d_A_step_127 (fun v12 h => ?_)
    refine lv_iconst (v := (4 : Int32)) hx hb d_A_step_128 (by decide) ?_
    refine lv_irem hx hb d_A_step_129 (by decide) ?_
    refine lv_iadd hx hb d_A_step_130 ?_
    refine mb_iald hx hb hK hP 25 0 rfl rfl h d_A_step_131 (fun v13 h => ?_)
    obtain ⟨_u, s14, hs14, h⟩ := mb_cal_ex h
    refine mb_goV Cx (mb_runV (As := [.int v8, .int v11, .int v13]) (rest := []) mb_ZXok Cx (w_A_begin l D X cI cZ cJ hs14 H.size) (mb_cwV 3 hts wd_460 wd_462 sel_28 wd_6 wd_463 rfl rfl rfl (by decide +kernel) ⟨Nat.le_trans (by decide) hR.1, Nat.le_trans (by decide) hR.2⟩) hP hS 4 rfl rfl rfl hl.1 rfl (Nat.le_of_ble_eq_true rfl) d_A_step_132) hS (fun H locs hP hS => ?_)
    refine lv_goto hx hb d_A_step_135 rfl ?_
    exact zA_step_b259 Cx hR hret  s14 h ls H locs (lv_sub hl [] rfl) hP hS
  have h := mb_f hc7 h
  by_cases hc8 : v7 = (8 : Int32)
  · have h := mb_t hc8 h
    refine lv_tableIn (tgt := 138) hx hb d_A_step_63 (by rw [hc8]; decide) (by rw [hc8]; decide) (by rw [hc8]; rfl) rfl ?_
    refine lv_aload_n hx hb d_A_step_138 rfl (lv_at hl 4 rfl) ?_
    refine va_get (ci := 4) (C := cnA) (T := fTA) (N := 13) hx hb hts uwA hown hK hP 4 rfl rfl 7 (by decide) (hts _ wd_160) (fun _ h9 => h9) rfl d_A_step_139 ?_
    refine lv_aload_n hx hb d_A_step_142 rfl (lv_at hl 4 rfl) ?_
    refine va_get (ci := 4) (C := cnA) (T := fTA) (N := 13) hx hb hts uwA hown hK hP 4 rfl rfl 8 (by decide) (hts _ wd_161) (fun _ h9 => h9) rfl d_A_step_143 ?_
    refine lv_bipush (v := (32 : Int32)) hx hb d_A_step_146 (by decide) ?_
    refine lv_irem hx hb d_A_step_148 (by decide) ?_
    obtain ⟨v15, hv15, h⟩ := mb_cal0_ex h
    refine mb_go0I (st := s2) Cx (mb_runSN0 (As := [.int (mb_F s2 6), .int ((mb_F s2 7) - (mb_F s2 7) / (32 : Int32) * (32 : Int32))]) (rest := []) Cx (w_X_has l D hv15 H.size) (mb_cn 2 hts wd_493 wd_284 wd_1 wd_285 rfl rfl rfl (by decide +kernel) ⟨Nat.le_trans (by decide) hR.1, Nat.le_trans (by decide) hR.2⟩) rfl hl.1 rfl (Nat.le_of_ble_eq_true rfl) d_A_step_149) hP hS (fun H locs hP hS => ?_)
    refine lv_istore (lv' := [(5, .int v15), (4, .int v6), (3, .int v5), (2, .int v4), (1, .int v3), (0, .ref (X 4))]) hx hb d_A_step_152 hl (by decide) rfl (fun ls hl => ?_)
    refine lv_aload_n hx hb d_A_step_154 rfl (lv_at hl 5 rfl) ?_
    refine lv_dup hx hb d_A_step_155 rfl ?_
    refine va_get (ci := 4) (C := cnA) (T := fTA) (N := 13) hx hb hts uwA hown hK hP 4 rfl rfl 8 (by decide) (hts _ wd_161) (fun _ h9 => h9) rfl d_A_step_156 ?_
    refine lv_iconst (v := (1 : Int32)) hx hb d_A_step_159 (by decide) ?_
    refine lv_iadd hx hb d_A_step_160 ?_
    have h := mb_putF_ex h
    refine va_put (ci := 4) (v := .int ((mb_F s2 7) + (1 : Int32))) (ty := .int) (C := cnA) (T := fTA) (N := 13) hx hb hts uwA fyA fyA_ok fnA hown hK hP (hD _) hS 4 rfl rfl 8 (by decide) (hts _ wd_161) (fun _ h9 => h9) rfl (by decide +kernel) rfl rfl (Nat.le_of_ble_eq_true rfl) d_A_step_161 (fun H locs hP _ hS => ?_)
    have hP : va_P D vwCl (WX X cI cZ cJ (mb_setF s2 7 ((mb_F s2 7) + (1 : Int32)))) H := hP
    generalize mb_setF s2 7 ((mb_F s2 7) + (1 : Int32)) = s16 at hP h
    refine lv_aload_n hx hb d_A_step_164 rfl (lv_at hl 5 rfl) ?_
    refine va_get (ci := 4) (C := cnA) (T := fTA) (N := 13) hx hb hts uwA hown hK hP 4 rfl rfl 2 (by decide) (hts _ wd_155) (fun _ h9 => h9) rfl d_A_step_165 ?_
    refine lv_aload_n hx hb d_A_step_168 rfl (lv_at hl 5 rfl) ?_
    refine va_get (ci := 4) (C := cnA) (T := fTA) (N := 13) hx hb hts uwA hown hK hP 4 rfl rfl 3 (by decide) (hts _ wd_156) (fun _ h9 => h9) rfl d_A_step_169 ?_
    refine lv_iconst (v := (1 : Int32)) hx hb d_A_step_172 (by decide) ?_
    refine lv_isub hx hb d_A_step_173 ?_
    refine lv_iload hx hb d_A_step_174 (lv_at hl 0 rfl) ?_
    refine lv_if_eq hx hb d_A_step_176 rfl (fun hc => ?_) (fun hc => ?_)
    · have h := mb_t hc h
      refine lv_iload_n hx hb d_A_step_191 rfl (lv_at hl 3 rfl) ?_
      refine lv_iconst (v := (1 : Int32)) hx hb d_A_step_192 (by decide) ?_
      refine lv_iadd hx hb d_A_step_193 ?_
      exact zA_step_b194 Cx hR hret  (v4 + (1 : Int32)) ((mb_F s16 5) - (1 : Int32)) s16 h ls H locs (lv_sub hl [] rfl) hP hS
    · have h := mb_f hc h
      refine lv_aload_n hx hb d_A_step_179 rfl (lv_at hl 5 rfl) ?_
      refine va_get (ci := 4) (C := cnA) (T := fTA) (N := 13) hx hb hts uwA hown hK hP 4 rfl rfl 0 (by decide) (hts _ wd_153) (fun _ h9 => h9) rfl d_A_step_180 ?_
      refine lv_iload_n hx hb d_A_step_183 rfl (lv_at hl 4 rfl) ?_
      refine lv_iload_n hx hb d_A_step_184 rfl (lv_at hl 3 rfl) ?_
      obtain ⟨v17, s18, hs18, h⟩ := mb_cal_ex h
      refine mb_goI Cx (mb_runV (As := [.int v3, .int v4]) (rest := [.int ((mb_F s16 5) - (1 : Int32)), .ref (X 24)]) mb_ZXok Cx (w_P_jumpSpot l D X cI cZ cJ hs18 H.size) (mb_cwV 2 hts wd_494 wd_339 wd_340 wd_2 wd_341 rfl rfl rfl (by decide +kernel) ⟨Nat.le_trans (by decide) hR.1, Nat.le_trans (by decide) hR.2⟩) hP hS 1 rfl rfl rfl hl.1 rfl (Nat.le_of_ble_eq_true rfl) d_A_step_185) hS (fun H locs hP hS => ?_)
      refine lv_goto hx hb d_A_step_188 rfl ?_
      exact zA_step_b194 Cx hR hret  v17 ((mb_F s16 5) - (1 : Int32)) s18 h ls H locs (lv_sub hl [] rfl) hP hS
  have h := mb_f hc8 h
  by_cases hc9 : v7 = (9 : Int32)
  · have h := mb_t hc9 h
    refine lv_tableIn (tgt := 198) hx hb d_A_step_63 (by rw [hc9]; decide) (by rw [hc9]; decide) (by rw [hc9]; rfl) rfl ?_
    refine lv_aload_n hx hb d_A_step_198 rfl (lv_at hl 4 rfl) ?_
    refine va_get (ci := 4) (C := cnA) (T := fTA) (N := 13) hx hb hts uwA hown hK hP 4 rfl rfl 2 (by decide) (hts _ wd_155) (fun _ h9 => h9) rfl d_A_step_199 ?_
    refine lv_aload_n hx hb d_A_step_202 rfl (lv_at hl 4 rfl) ?_
    refine va_get (ci := 4) (C := cnA) (T := fTA) (N := 13) hx hb hts uwA hown hK hP 4 rfl rfl 3 (by decide) (hts _ wd_156) (fun _ h9 => h9) rfl d_A_step_203 ?_
    refine lv_iconst (v := (1 : Int32)) hx hb d_A_step_206 (by decide) ?_
    refine lv_isub hx hb d_A_step_207 ?_
    refine lv_aload_n hx hb d_A_step_208 rfl (lv_at hl 4 rfl) ?_
    refine va_get (ci := 4) (C := cnA) (T := fTA) (N := 13) hx hb hts uwA hown hK hP 4 rfl rfl 0 (by decide) (hts _ wd_153) (fun _ h9 => h9) rfl d_A_step_209 ?_
    refine lv_iload_n hx hb d_A_step_212 rfl (lv_at hl 3 rfl) ?_
    refine lv_iload_n hx hb d_A_step_213 rfl (lv_at hl 2 rfl) ?_
    obtain ⟨v19, s20, hs20, h⟩ := mb_cal_ex h
    refine mb_goI Cx (mb_runV (As := [.int v3, .int v4]) (rest := [.int ((mb_F s2 5) - (1 : Int32)), .ref (X 24)]) mb_ZXok Cx (w_P_jumpSpot l D X cI cZ cJ hs20 H.size) (mb_cwV 2 hts wd_494 wd_339 wd_340 wd_2 wd_341 rfl rfl rfl (by decide +kernel) ⟨Nat.le_trans (by decide) hR.1, Nat.le_trans (by decide) hR.2⟩) hP hS 1 rfl rfl rfl hl.1 rfl (Nat.le_of_ble_eq_true rfl) d_A_step_214) hS (fun H locs hP hS => ?_)
    refine mb_iast (WS := WX X cI cZ cJ) hx hb hK hP hD hS 24 0 rfl rfl h d_A_step_217 rfl (fun H locs s21 hP hS h => ?_)
    refine lv_goto hx hb d_A_step_218 rfl ?_
    exact zA_step_b259 Cx hR hret  s21 h ls H locs (lv_sub hl [] rfl) hP hS
  have h := mb_f hc9 h
  by_cases hc10 : v7 = (10 : Int32)
  · have h := mb_t hc10 h
    refine lv_tableIn (tgt := 221) hx hb d_A_step_63 (by rw [hc10]; decide) (by rw [hc10]; decide) (by rw [hc10]; rfl) rfl ?_
    refine lv_aload_n hx hb d_A_step_221 rfl (lv_at hl 4 rfl) ?_
    refine lv_aload_n hx hb d_A_step_222 rfl (lv_at hl 4 rfl) ?_
    refine va_get (ci := 4) (C := cnA) (T := fTA) (N := 13) hx hb hts uwA hown hK hP 4 rfl rfl 4 (by decide) (hts _ wd_157) (fun _ h9 => h9) rfl d_A_step_223 ?_
    refine lv_iload_n hx hb d_A_step_226 rfl (lv_at hl 1 rfl) ?_
    refine lv_iload hx hb d_A_step_227 (lv_at hl 0 rfl) ?_
    refine lv_iadd hx hb d_A_step_229 ?_
    refine mb_iald hx hb hK hP 25 0 rfl rfl h d_A_step_230 (fun v22 h => ?_)
    obtain ⟨_u, s23, hs23, h⟩ := mb_cal_ex h
    refine mb_goV Cx (mb_runV (As := [.int v22]) (rest := []) mb_ZXok Cx (w_A_endMethod l D X cI cZ cJ hs23 H.size) (mb_cwV 1 hts wd_472 wd_474 sel_31 wd_6 wd_475 rfl rfl rfl (by decide +kernel) ⟨Nat.le_trans (by decide) hR.1, Nat.le_trans (by decide) hR.2⟩) hP hS 4 rfl rfl rfl hl.1 rfl (Nat.le_of_ble_eq_true rfl) d_A_step_231) hS (fun H locs hP hS => ?_)
    refine lv_goto hx hb d_A_step_234 rfl ?_
    exact zA_step_b259 Cx hR hret  s23 h ls H locs (lv_sub hl [] rfl) hP hS
  have h := mb_f hc10 h
  have hn7 : ¬ Int32.toInt v7 = 7 := lv_neT hc7 (by decide)
  have hn8 : ¬ Int32.toInt v7 = 8 := lv_neT hc8 (by decide)
  have hn9 : ¬ Int32.toInt v7 = 9 := lv_neT hc9 (by decide)
  have hn10 : ¬ Int32.toInt v7 = 10 := lv_neT hc10 (by decide)
  refine mb_tabD (tgt := 237) hx hb d_A_step_63 (fun h1 h2 => by omega) rfl ?_
  refine lv_aload_n hx hb d_A_step_237 rfl (lv_at hl 4 rfl) ?_
  refine lv_iload_n hx hb d_A_step_238 rfl (lv_at hl 2 rfl) ?_
  refine lv_iload_n hx hb d_A_step_239 rfl (lv_at hl 1 rfl) ?_
  refine lv_iload hx hb d_A_step_240 (lv_at hl 0 rfl) ?_
  obtain ⟨_u, s24, hs24, h⟩ := mb_cal_ex h
  refine mb_goV Cx (mb_runV (As := [.int v4, .int v5, .int v6]) (rest := []) mb_ZXok Cx (w_A_changeValues l D X cI cZ cJ hs24 H.size) (mb_cwV 3 hts wd_495 wd_497 sel_36 wd_6 wd_498 rfl rfl rfl (by decide +kernel) ⟨Nat.le_trans (by decide) hR.1, Nat.le_trans (by decide) hR.2⟩) hP hS 4 rfl rfl rfl hl.1 rfl (Nat.le_of_ble_eq_true rfl) d_A_step_242) hS (fun H locs hP hS => ?_)
  refine lv_aload_n hx hb d_A_step_245 rfl (lv_at hl 4 rfl) ?_
  refine va_get (ci := 4) (C := cnA) (T := fTA) (N := 13) hx hb hts uwA hown hK hP 4 rfl rfl 2 (by decide) (hts _ wd_155) (fun _ h9 => h9) rfl d_A_step_246 ?_
  refine lv_aload_n hx hb d_A_step_249 rfl (lv_at hl 4 rfl) ?_
  refine va_get (ci := 4) (C := cnA) (T := fTA) (N := 13) hx hb hts uwA hown hK hP 4 rfl rfl 3 (by decide) (hts _ wd_156) (fun _ h9 => h9) rfl d_A_step_250 ?_
  refine lv_iconst (v := (1 : Int32)) hx hb d_A_step_253 (by decide) ?_
  refine lv_isub hx hb d_A_step_254 ?_
  refine lv_iload_n hx hb d_A_step_255 rfl (lv_at hl 2 rfl) ?_
  refine lv_iconst (v := (1 : Int32)) hx hb d_A_step_256 (by decide) ?_
  refine lv_iadd hx hb d_A_step_257 ?_
  refine mb_iast (WS := WX X cI cZ cJ) hx hb hK hP hD hS 24 0 rfl rfl h d_A_step_258 rfl (fun H locs s25 hP hS h => ?_)
  exact zA_step_b259 Cx hR hret  s25 h ls H locs (lv_sub hl [] rfl) hP hS
set_option maxRecDepth 100000 in
set_option maxHeartbeats 4000000 in
theorem zA_start_b65 {p : Program} {l : Launch} {e : Env} {R : Room} {s0 : State} {m : MethodId} {args : Array Value} {below : List Frame} {meth : Method} {c : Code} {Q : State → Prop} {A : Nat → Prop} {D : va_G} {X : Nat → Nat} {cI cZ cJ : ClassId} {rv : Int32} {rs : mb_S}
    (Cx : mb_C p s0 m args meth c c_A_start 5 lw_w cnA mb_ZX vwCl D [(cI, .int), (cZ, .boolean), (cJ, .long)] A (WX X cI cZ cJ)) (hR : 4 ≤ R.frames ∧ 94 ≤ R.locals)
    (hret : mb_R p l e R s0 m args below meth c Q vwCl D A (WX X cI cZ cJ) c_A_start .ireturn [.int rv] rs)   (s : mb_S)
    (h : mA_start_b65  s = some (rv, rs)) : mb_B p l e R s0 m args below meth c Q vwCl D A (WX X cI cZ cJ) 5 [(0, .ref (X 4))] [] 65 s := by
  unfold mA_start_b65 at h
  intro ls H locs hl hP hS
  have Cx0 := Cx
  obtain ⟨⟨hx, hb, hml, hown, hts⟩, hK, hD, hA, hZ⟩ := Cx0
  refine lv_aload_n hx hb d_A_start_65 rfl (lv_at hl 0 rfl) ?_
  refine va_get (ci := 4) (C := cnA) (T := fTA) (N := 13) hx hb hts uwA hown hK hP 4 rfl rfl 9 (by decide) (hts _ wd_162) (fun _ h9 => h9) rfl d_A_start_66 ?_
  exact mb_eI hret h d_A_start_69 hP hS
set_option maxRecDepth 100000 in
set_option maxHeartbeats 4000000 in
theorem zA_start_b59 {p : Program} {l : Launch} {e : Env} {R : Room} {s0 : State} {m : MethodId} {args : Array Value} {below : List Frame} {meth : Method} {c : Code} {Q : State → Prop} {A : Nat → Prop} {D : va_G} {X : Nat → Nat} {cI cZ cJ : ClassId} {rv : Int32} {rs : mb_S}
    (Cx : mb_C p s0 m args meth c c_A_start 5 lw_w cnA mb_ZX vwCl D [(cI, .int), (cZ, .boolean), (cJ, .long)] A (WX X cI cZ cJ)) (hR : 4 ≤ R.frames ∧ 94 ≤ R.locals)
    (hret : mb_R p l e R s0 m args below meth c Q vwCl D A (WX X cI cZ cJ) c_A_start .ireturn [.int rv] rs) (k20 : Int32 → Int32 → mb_S → Option (Int32 × mb_S)) (hk20 : ∀ (x3 : Int32) (x4 : Int32) (s : mb_S), k20 x3 x4 s = some (rv, rs) → mb_B p l e R s0 m args below meth c Q vwCl D A (WX X cI cZ cJ) 5 [(0, .ref (X 4)), (3, .int x3), (4, .int x4)] [] 20 s) (x3 : Int32) (x4 : Int32) (s : mb_S)
    (h : mA_start_b59 k20 x3 x4 s = some (rv, rs)) : mb_B p l e R s0 m args below meth c Q vwCl D A (WX X cI cZ cJ) 5 [(0, .ref (X 4)), (3, .int x3), (4, .int x4)] [] 59 s := by
  unfold mA_start_b59 at h
  intro ls H locs hl hP hS
  have Cx0 := Cx
  obtain ⟨⟨hx, hb, hml, hown, hts⟩, hK, hD, hA, hZ⟩ := Cx0
  obtain ⟨v1, ev1, h⟩ := mb_ex h
  refine lv_iinc (k := 2) (v := v1) (lv' := [(4, .int v1), (0, .ref (X 4)), (3, .int x3)]) hx hb d_A_start_59 hl rfl ev1 (by decide) rfl (fun ls hl => ?_)
  refine lv_goto hx hb d_A_start_62 rfl ?_
  exact hk20 x3 v1 s h ls H locs (lv_sub hl [1, 2, 0] rfl) hP hS
set_option maxRecDepth 100000 in
set_option maxHeartbeats 4000000 in
theorem zA_start_l20 {p : Program} {l : Launch} {e : Env} {R : Room} {s0 : State} {m : MethodId} {args : Array Value} {below : List Frame} {meth : Method} {c : Code} {Q : State → Prop} {A : Nat → Prop} {D : va_G} {X : Nat → Nat} {cI cZ cJ : ClassId} {rv : Int32} {rs : mb_S}
    (Cx : mb_C p s0 m args meth c c_A_start 5 lw_w cnA mb_ZX vwCl D [(cI, .int), (cZ, .boolean), (cJ, .long)] A (WX X cI cZ cJ)) (hR : 4 ≤ R.frames ∧ 94 ≤ R.locals)
    (hret : mb_R p l e R s0 m args below meth c Q vwCl D A (WX X cI cZ cJ) c_A_start .ireturn [.int rv] rs)  :
    ∀ (n : Nat) (x3 : Int32) (x4 : Int32) (s : mb_S), mA_start_l20  n x3 x4 s = some (rv, rs) → mb_B p l e R s0 m args below meth c Q vwCl D A (WX X cI cZ cJ) 5 [(0, .ref (X 4)), (3, .int x3), (4, .int x4)] [] 20 s := by
  intro n
  induction n with
  | zero => intro x3 x4 s h; cases h
  | succ n ih =>
    intro x3 x4 s h
    rw [mA_start_l20_s] at h
    intro ls H locs hl hP hS
    have Cx0 := Cx
    obtain ⟨⟨hx, hb, hml, hown, hts⟩, hK, hD, hA, hZ⟩ := Cx0
    refine lv_iload hx hb d_A_start_20 (lv_at hl 2 rfl) ?_
    refine lv_sipush (v := (200 : Int32)) hx hb d_A_start_22 (by decide) ?_
    refine lv_icmp_gt hx hb d_A_start_25 rfl (fun hc => ?_) (fun hc => ?_)
    · have h := mb_t hc h
      exact zA_start_b65 Cx hR hret  s h ls H locs (lv_sub hl [0] rfl) hP hS
    · have h := mb_f hc h
      refine lv_aload_n hx hb d_A_start_28 rfl (lv_at hl 0 rfl) ?_
      refine va_get (ci := 4) (C := cnA) (T := fTA) (N := 13) hx hb hts uwA hown hK hP 4 rfl rfl 12 (by decide) (hts _ wd_167) (fun _ h9 => h9) rfl d_A_start_29 ?_
      refine lv_if_ne hx hb d_A_start_32 rfl (fun hc => ?_) (fun hc => ?_)
      · have h := mb_f hc h
        exact zA_start_b65 Cx hR hret  s h ls H locs (lv_sub hl [0] rfl) hP hS
      · have h := mb_t hc h
        refine lv_aload_n hx hb d_A_start_35 rfl (lv_at hl 0 rfl) ?_
        obtain ⟨_u, s2, hs2, h⟩ := mb_cal_ex h
        refine mb_goV Cx (mb_runV (As := []) (rest := []) mb_ZXok Cx (w_A_endMethods l D X cI cZ cJ hs2 H.size) (mb_cwV 0 hts wd_464 wd_466 sel_29 wd_6 wd_467 rfl rfl rfl (by decide +kernel) ⟨Nat.le_trans (by decide) hR.1, Nat.le_trans (by decide) hR.2⟩) hP hS 4 rfl rfl rfl hl.1 rfl (Nat.le_of_ble_eq_true rfl) d_A_start_36) hS (fun H locs hP hS => ?_)
        refine lv_aload_n hx hb d_A_start_39 rfl (lv_at hl 0 rfl) ?_
        refine lv_aload_n hx hb d_A_start_40 rfl (lv_at hl 0 rfl) ?_
        refine lv_iload_n hx hb d_A_start_41 rfl (lv_at hl 1 rfl) ?_
        obtain ⟨v3, s4, hs4, h⟩ := mb_cal_ex h
        refine mb_goI Cx (mb_runV (As := [.int x3]) (rest := [.ref (X 4)]) mb_ZXok Cx (w_A_endingBeforeStep l D X cI cZ cJ hs4 H.size) (mb_cwV 1 hts wd_476 wd_478 sel_32 wd_6 wd_479 rfl rfl rfl (by decide +kernel) ⟨Nat.le_trans (by decide) hR.1, Nat.le_trans (by decide) hR.2⟩) hP hS 4 rfl rfl rfl hl.1 rfl (Nat.le_of_ble_eq_true rfl) d_A_start_42) hS (fun H locs hP hS => ?_)
        have h := mb_putF_ex h
        refine va_put (ci := 4) (v := .int v3) (ty := .int) (C := cnA) (T := fTA) (N := 13) hx hb hts uwA fyA fyA_ok fnA hown hK hP (hD _) hS 4 rfl rfl 12 (by decide) (hts _ wd_167) (fun _ h9 => h9) rfl (by decide +kernel) rfl rfl (Nat.le_of_ble_eq_true rfl) d_A_start_45 (fun H locs hP _ hS => ?_)
        have hP : va_P D vwCl (WX X cI cZ cJ (mb_setF s4 10 v3)) H := hP
        generalize mb_setF s4 10 v3 = s5 at hP h
        refine lv_aload_n hx hb d_A_start_48 rfl (lv_at hl 0 rfl) ?_
        refine va_get (ci := 4) (C := cnA) (T := fTA) (N := 13) hx hb hts uwA hown hK hP 4 rfl rfl 12 (by decide) (hts _ wd_167) (fun _ h9 => h9) rfl d_A_start_49 ?_
        refine lv_if_ne hx hb d_A_start_52 rfl (fun hc => ?_) (fun hc => ?_)
        · have h := mb_f hc h
          exact zA_start_b59 Cx hR hret (mA_start_l20  n) ih x3 x4 s5 h ls H locs (lv_sub hl [0, 1, 2] rfl) hP hS
        · have h := mb_t hc h
          refine lv_aload_n hx hb d_A_start_55 rfl (lv_at hl 0 rfl) ?_
          obtain ⟨_u, s6, hs6, h⟩ := mb_cal_ex h
          refine mb_goV Cx (mb_runV (As := []) (rest := []) mb_ZXok Cx (w_A_step l D X cI cZ cJ hs6 H.size) (mb_cwV 0 hts wd_489 wd_491 sel_35 wd_6 wd_492 rfl rfl rfl (by decide +kernel) ⟨Nat.le_trans (by decide) hR.1, Nat.le_trans (by decide) hR.2⟩) hP hS 4 rfl rfl rfl hl.1 rfl (Nat.le_of_ble_eq_true rfl) d_A_start_56) hS (fun H locs hP hS => ?_)
          exact zA_start_b59 Cx hR hret (mA_start_l20  n) ih x3 x4 s6 h ls H locs (lv_sub hl [0, 1, 2] rfl) hP hS
set_option maxRecDepth 100000 in
set_option maxHeartbeats 4000000 in
theorem w_A_start (l : Launch) (D : va_G) (X : Nat → Nat) (cI cZ cJ : ClassId) {x1 : Int32} {x2 : Int32} {s : mb_S} {rv : Int32} {rs : mb_S}
    (h : mA_start x1 x2 s = some (rv, rs)) : mb_MI l y_A_start ws_A_start rm_A_start mb_ZX vwCl D [(cI, .int), (cZ, .boolean), (cJ, .long)] (WX X cI cZ cJ) [.ref (X 4), .int x1, .int x2] s rv rs := by
  refine mb_ofI mb_ZXok (by decide) rfl (Nat.le_of_ble_eq_true rfl) mb_DXok ?_
  intro p e s0 m args below meth c Q A Cx hret
  have hR : 4 ≤ (rm_A_start).frames ∧ 94 ≤ (rm_A_start).locals := ⟨Nat.le_refl _, Nat.le_refl _⟩
  intro ls H locs hl hP hS
  have Cx0 := Cx
  obtain ⟨⟨hx, hb, hml, hown, hts⟩, hK, hD, hA, hZ⟩ := Cx0
  have hl : lv_has ls 5 [(0, .ref (X 4)), (1, .int x1), (2, .int x2)] := hl
  unfold mA_start at h
  refine lv_iconst (v := (0 : Int32)) hx hb d_A_start_0 (by decide) ?_
  refine lv_iload_n hx hb d_A_start_1 rfl (lv_at hl 2 rfl) ?_
  refine lv_sipush (v := (200 : Int32)) hx hb d_A_start_2 (by decide) ?_
  refine va_mmin hx hb (hml.trans hl.1.symm) hown (hts _ wd_451) (hts _ wd_343) (hts _ wd_8) (hts _ wd_344) (Nat.le_trans (by decide) hR.1) (Nat.le_trans (Nat.le_of_ble_eq_true rfl) hR.2) (Nat.zero_le _) (Nat.zero_le _) d_A_start_5 ?_
  refine va_mmax hx hb (hml.trans hl.1.symm) hown (hts _ wd_452) (hts _ wd_453) (hts _ wd_8) (hts _ wd_454) (Nat.le_trans (by decide) hR.1) (Nat.le_trans (Nat.le_of_ble_eq_true rfl) hR.2) (Nat.zero_le _) (Nat.zero_le _) d_A_start_8 ?_
  refine lv_topi (fun v7 ev7 => ?_)
  have h := mb_at ev7 h
  refine lv_istore_n (lv' := [(3, .int v7), (0, .ref (X 4)), (1, .int x1), (2, .int x2)]) hx hb d_A_start_11 rfl hl (by decide) rfl (fun ls hl => ?_)
  refine lv_aload_n hx hb d_A_start_12 rfl (lv_at hl 1 rfl) ?_
  refine lv_iload_n hx hb d_A_start_13 rfl (lv_at hl 2 rfl) ?_
  obtain ⟨_u, s8, hs8, h⟩ := mb_cal_ex h
  refine mb_goV Cx (mb_runV (As := [.int x1]) (rest := []) mb_ZXok Cx (w_A_reset l D X cI cZ cJ hs8 H.size) (mb_cwV 1 hts wd_455 wd_457 sel_27 wd_6 wd_458 rfl rfl rfl (by decide +kernel) ⟨Nat.le_trans (by decide) hR.1, Nat.le_trans (by decide) hR.2⟩) hP hS 4 rfl rfl rfl hl.1 rfl (Nat.le_of_ble_eq_true rfl) d_A_start_14) hS (fun H locs hP hS => ?_)
  refine lv_iconst (v := (0 : Int32)) hx hb d_A_start_17 (by decide) ?_
  refine lv_istore (lv' := [(4, .int (0 : Int32)), (3, .int v7), (0, .ref (X 4)), (1, .int x1), (2, .int x2)]) hx hb d_A_start_18 hl (by decide) rfl (fun ls hl => ?_)
  exact zA_start_l20 Cx hR hret  mb_fuel v7 (0 : Int32) s8 h ls H locs (lv_sub hl [2, 1, 0] rfl) hP hS
