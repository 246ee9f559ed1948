set_option maxRecDepth 100000 in
set_option maxHeartbeats 4000000 in
theorem zM_workPoints_b126 {p : Program} {l : Launch} {e : Env} {R : Room} {s0 : State} {m : MethodId} {args : Array Value} {below : List Frame} {meth : Method} {c : Code} {Q : State → Prop} {A : Nat → Prop} {D : va_G} {X : Nat → Nat} {cI cZ cJ : ClassId} {rv : Unit} {rs : mb_S}
    (Cx : mb_C p s0 m args meth c c_M_workPoints 4 lw_w cnM (fun _ _ => True) vwCl D [(cI, .int), (cZ, .boolean), (cJ, .long)] A (WM X cI cZ cJ)) (hR : 5 ≤ R.frames ∧ 129 ≤ R.locals)
    (hret : mb_R p l e R s0 m args below meth c Q vwCl D A (WM X cI cZ cJ) c_M_workPoints .return_ [] rs)   (s : mb_S)
    (h : mM_workPoints_b126  s = some (rv, rs)) : mb_B p l e R s0 m args below meth c Q vwCl D A (WM X cI cZ cJ) 4 [] [] 126 s := by
  unfold mM_workPoints_b126 at h
  intro ls H locs hl hP hS
  have Cx0 := Cx
  obtain ⟨⟨hx, hb, hml, hown, hts⟩, hK, hD, hA, hZ⟩ := Cx0
  exact mb_eV hret h d_M_workPoints_126 hP hS
set_option maxRecDepth 100000 in
set_option maxHeartbeats 4000000 in
theorem zM_workPoints_b114 {p : Program} {l : Launch} {e : Env} {R : Room} {s0 : State} {m : MethodId} {args : Array Value} {below : List Frame} {meth : Method} {c : Code} {Q : State → Prop} {A : Nat → Prop} {D : va_G} {X : Nat → Nat} {cI cZ cJ : ClassId} {rv : Unit} {rs : mb_S}
    (Cx : mb_C p s0 m args meth c c_M_workPoints 4 lw_w cnM (fun _ _ => True) vwCl D [(cI, .int), (cZ, .boolean), (cJ, .long)] A (WM X cI cZ cJ)) (hR : 5 ≤ R.frames ∧ 129 ≤ R.locals)
    (hret : mb_R p l e R s0 m args below meth c Q vwCl D A (WM X cI cZ cJ) c_M_workPoints .return_ [] rs) (k55 : Int32 → mb_S → Option (Unit × mb_S)) (hk55 : ∀ (x1 : Int32) (s : mb_S), k55 x1 s = some (rv, rs) → mb_B p l e R s0 m args below meth c Q vwCl D A (WM X cI cZ cJ) 4 [(0, .ref (X 0)), (1, .int x1)] [] 55 s) (k75 : Int32 → Int32 → mb_S → Option (Unit × mb_S)) (hk75 : ∀ (x1 : Int32) (x2 : Int32) (s : mb_S), k75 x1 x2 s = some (rv, rs) → mb_B p l e R s0 m args below meth c Q vwCl D A (WM X cI cZ cJ) 4 [(0, .ref (X 0)), (1, .int x1), (2, .int x2)] [] 75 s) (x1 : Int32) (x2 : Int32) (s : mb_S)
    (h : mM_workPoints_b114 k55 k75 x1 x2 s = some (rv, rs)) : mb_B p l e R s0 m args below meth c Q vwCl D A (WM X cI cZ cJ) 4 [(0, .ref (X 0)), (1, .int x1), (2, .int x2)] [] 114 s := by
  unfold mM_workPoints_b114 at h
  intro ls H locs hl hP hS
  have Cx0 := Cx
  obtain ⟨⟨hx, hb, hml, hown, hts⟩, hK, hD, hA, hZ⟩ := Cx0
  obtain ⟨v1, ev1, h⟩ := mb_ex h
  refine lv_iinc (k := 2) (v := v1) (lv' := [(2, .int v1), (0, .ref (X 0)), (1, .int x1)]) hx hb d_M_workPoints_114 hl rfl ev1 (by decide) rfl (fun ls hl => ?_)
  refine lv_goto hx hb d_M_workPoints_117 rfl ?_
  exact hk75 x1 v1 s h ls H locs (lv_sub hl [1, 2, 0] rfl) hP hS
set_option maxRecDepth 100000 in
set_option maxHeartbeats 4000000 in
theorem zM_workPoints_l83 {p : Program} {l : Launch} {e : Env} {R : Room} {s0 : State} {m : MethodId} {args : Array Value} {below : List Frame} {meth : Method} {c : Code} {Q : State → Prop} {A : Nat → Prop} {D : va_G} {X : Nat → Nat} {cI cZ cJ : ClassId} {rv : Unit} {rs : mb_S}
    (Cx : mb_C p s0 m args meth c c_M_workPoints 4 lw_w cnM (fun _ _ => True) vwCl D [(cI, .int), (cZ, .boolean), (cJ, .long)] A (WM X cI cZ cJ)) (hR : 5 ≤ R.frames ∧ 129 ≤ R.locals)
    (hret : mb_R p l e R s0 m args below meth c Q vwCl D A (WM X cI cZ cJ) c_M_workPoints .return_ [] rs) (k55 : Int32 → mb_S → Option (Unit × mb_S)) (hk55 : ∀ (x1 : Int32) (s : mb_S), k55 x1 s = some (rv, rs) → mb_B p l e R s0 m args below meth c Q vwCl D A (WM X cI cZ cJ) 4 [(0, .ref (X 0)), (1, .int x1)] [] 55 s) (k75 : Int32 → Int32 → mb_S → Option (Unit × mb_S)) (hk75 : ∀ (x1 : Int32) (x2 : Int32) (s : mb_S), k75 x1 x2 s = some (rv, rs) → mb_B p l e R s0 m args below meth c Q vwCl D A (WM X cI cZ cJ) 4 [(0, .ref (X 0)), (1, .int x1), (2, .int x2)] [] 75 s) :
    ∀ (n : Nat) (x1 : Int32) (x2 : Int32) (x3 : Int32) (s : mb_S), mM_workPoints_l83 k55 k75 n x1 x2 x3 s = some (rv, rs) → mb_B p l e R s0 m args below meth c Q vwCl D A (WM X cI cZ cJ) 4 [(0, .ref (X 0)), (1, .int x1), (2, .int x2), (3, .int x3)] [] 83 s := by
  intro n
  induction n with
  | zero => intro x1 x2 x3 s h; cases h
  | succ n ih =>
    intro x1 x2 x3 s h
    rw [mM_workPoints_l83_s] at h
    intro ls H locs hl hP hS
    have Cx0 := Cx
    obtain ⟨⟨hx, hb, hml, hown, hts⟩, hK, hD, hA, hZ⟩ := Cx0
    refine lv_iload_n hx hb d_M_workPoints_83 rfl (lv_at hl 3 rfl) ?_
    refine lv_aload_n hx hb d_M_workPoints_84 rfl (lv_at hl 0 rfl) ?_
    refine va_get (ci := 5) (C := cnM) (T := fTM) (N := 30) hx hb hts uwM hown hK hP 0 rfl rfl 0 (by decide) (hts _ wd_525) (fun _ h9 => h9) rfl d_M_workPoints_85 ?_
    refine lv_iload_n hx hb d_M_workPoints_88 rfl (lv_at hl 2 rfl) ?_
    refine mb_iald hx hb hK hP 1 0 rfl rfl h d_M_workPoints_89 (fun v2 h => ?_)
    refine lv_icmp_ge hx hb d_M_workPoints_90 rfl (fun hc => ?_) (fun hc => ?_)
    · have h := mb_t hc h
      exact zM_workPoints_b114 Cx hR hret k55 hk55 k75 hk75 x1 x2 s h ls H locs (lv_sub hl [0, 1, 2] rfl) hP hS
    · have h := mb_f hc h
      refine lv_aload_n hx hb d_M_workPoints_93 rfl (lv_at hl 0 rfl) ?_
      refine va_get (ci := 5) (C := cnM) (T := fTM) (N := 30) hx hb hts uwM hown hK hP 0 rfl rfl 11 (by decide) (hts _ wd_536) (fun _ h9 => h9) rfl d_M_workPoints_94 ?_
      refine lv_iload_n hx hb d_M_workPoints_97 rfl (lv_at hl 2 rfl) ?_
      refine mb_zald hx hb hK hP 10 1 rfl rfl h d_M_workPoints_98 (fun v3 h => ?_)
      refine lv_if_eq hx hb d_M_workPoints_99 rfl (fun hc => ?_) (fun hc => ?_)
      · have h := mb_t hc h
        exact zM_workPoints_b114 Cx hR hret k55 hk55 k75 hk75 x1 x2 s h ls H locs (lv_sub hl [0, 1, 2] rfl) hP hS
      · have h := mb_f hc h
        refine lv_aload_n hx hb d_M_workPoints_102 rfl (lv_at hl 0 rfl) ?_
        refine lv_iload_n hx hb d_M_workPoints_103 rfl (lv_at hl 2 rfl) ?_
        refine lv_iload_n hx hb d_M_workPoints_104 rfl (lv_at hl 3 rfl) ?_
        obtain ⟨_u, s4, hs4, h⟩ := mb_cal_ex h
        refine mb_goV Cx (mb_runV (As := [.int x2, .int x3]) (rest := []) mb_Z0ok Cx (w_M_pointsOf l D X cI cZ cJ hs4 H.size) (mb_cwV 2 hts wd_665 wd_667 sel_42 wd_7 wd_668 rfl rfl rfl (by decide +kernel) ⟨Nat.le_trans (by decide) hR.1, Nat.le_trans (by decide) hR.2⟩) hP hS 0 rfl rfl rfl hl.1 rfl (Nat.le_of_ble_eq_true rfl) d_M_workPoints_105) hS (fun H locs hP hS => ?_)
        obtain ⟨v5, ev5, h⟩ := mb_ex h
        refine lv_iinc (k := 3) (v := v5) (lv' := [(3, .int v5), (0, .ref (X 0)), (1, .int x1), (2, .int x2)]) hx hb d_M_workPoints_108 hl rfl ev5 (by decide) rfl (fun ls hl => ?_)
        refine lv_goto hx hb d_M_workPoints_111 rfl ?_
        exact ih x1 x2 v5 s4 h ls H locs (lv_sub hl [1, 2, 3, 0] rfl) hP hS
set_option maxRecDepth 100000 in
set_option maxHeartbeats 4000000 in
theorem zM_workPoints_l75 {p : Program} {l : Launch} {e : Env} {R : Room} {s0 : State} {m : MethodId} {args : Array Value} {below : List Frame} {meth : Method} {c : Code} {Q : State → Prop} {A : Nat → Prop} {D : va_G} {X : Nat → Nat} {cI cZ cJ : ClassId} {rv : Unit} {rs : mb_S}
    (Cx : mb_C p s0 m args meth c c_M_workPoints 4 lw_w cnM (fun _ _ => True) vwCl D [(cI, .int), (cZ, .boolean), (cJ, .long)] A (WM X cI cZ cJ)) (hR : 5 ≤ R.frames ∧ 129 ≤ R.locals)
    (hret : mb_R p l e R s0 m args below meth c Q vwCl D A (WM X cI cZ cJ) c_M_workPoints .return_ [] rs) (k55 : Int32 → mb_S → Option (Unit × mb_S)) (hk55 : ∀ (x1 : Int32) (s : mb_S), k55 x1 s = some (rv, rs) → mb_B p l e R s0 m args below meth c Q vwCl D A (WM X cI cZ cJ) 4 [(0, .ref (X 0)), (1, .int x1)] [] 55 s) :
    ∀ (n : Nat) (x1 : Int32) (x2 : Int32) (s : mb_S), mM_workPoints_l75 k55 n x1 x2 s = some (rv, rs) → mb_B p l e R s0 m args below meth c Q vwCl D A (WM X cI cZ cJ) 4 [(0, .ref (X 0)), (1, .int x1), (2, .int x2)] [] 75 s := by
  intro n
  induction n with
  | zero => intro x1 x2 s h; cases h
  | succ n ih =>
    intro x1 x2 s h
    rw [mM_workPoints_l75_s] at h
    intro ls H locs hl hP hS
    have Cx0 := Cx
    obtain ⟨⟨hx, hb, hml, hown, hts⟩, hK, hD, hA, hZ⟩ := Cx0
    refine lv_iload_n hx hb d_M_workPoints_75 rfl (lv_at hl 2 rfl) ?_
    refine lv_bipush (v := (6 : Int32)) hx hb d_M_workPoints_76 (by decide) ?_
    refine lv_icmp_ge hx hb d_M_workPoints_78 rfl (fun hc => ?_) (fun hc => ?_)
    · have h := mb_t hc h
      obtain ⟨v6, ev6, h⟩ := mb_ex h
      refine lv_iinc (k := 1) (v := v6) (lv' := [(1, .int v6), (0, .ref (X 0)), (2, .int x2)]) hx hb d_M_workPoints_120 hl rfl ev6 (by decide) rfl (fun ls hl => ?_)
      refine lv_goto hx hb d_M_workPoints_123 rfl ?_
      exact hk55 v6 s h ls H locs (lv_sub hl [1, 0] rfl) hP hS
    · have h := mb_f hc h
      refine lv_iconst (v := (0 : Int32)) hx hb d_M_workPoints_81 (by decide) ?_
      refine lv_istore_n (lv' := [(3, .int (0 : Int32)), (0, .ref (X 0)), (1, .int x1), (2, .int x2)]) hx hb d_M_workPoints_82 rfl hl (by decide) rfl (fun ls hl => ?_)
      exact zM_workPoints_l83 Cx hR hret k55 hk55 (mM_workPoints_l75 k55 n) ih mb_fuel x1 x2 (0 : Int32) s h ls H locs (lv_sub hl [1, 2, 3, 0] rfl) hP hS
set_option maxRecDepth 100000 in
set_option maxHeartbeats 4000000 in
theorem zM_workPoints_l55 {p : Program} {l : Launch} {e : Env} {R : Room} {s0 : State} {m : MethodId} {args : Array Value} {below : List Frame} {meth : Method} {c : Code} {Q : State → Prop} {A : Nat → Prop} {D : va_G} {X : Nat → Nat} {cI cZ cJ : ClassId} {rv : Unit} {rs : mb_S}
    (Cx : mb_C p s0 m args meth c c_M_workPoints 4 lw_w cnM (fun _ _ => True) vwCl D [(cI, .int), (cZ, .boolean), (cJ, .long)] A (WM X cI cZ cJ)) (hR : 5 ≤ R.frames ∧ 129 ≤ R.locals)
    (hret : mb_R p l e R s0 m args below meth c Q vwCl D A (WM X cI cZ cJ) c_M_workPoints .return_ [] rs)  :
    ∀ (n : Nat) (x1 : Int32) (s : mb_S), mM_workPoints_l55  n x1 s = some (rv, rs) → mb_B p l e R s0 m args below meth c Q vwCl D A (WM X cI cZ cJ) 4 [(0, .ref (X 0)), (1, .int x1)] [] 55 s := by
  intro n
  induction n with
  | zero => intro x1 s h; cases h
  | succ n ih =>
    intro x1 s h
    rw [mM_workPoints_l55_s] at h
    intro ls H locs hl hP hS
    have Cx0 := Cx
    obtain ⟨⟨hx, hb, hml, hown, hts⟩, hK, hD, hA, hZ⟩ := Cx0
    refine lv_iload_n hx hb d_M_workPoints_55 rfl (lv_at hl 1 rfl) ?_
    refine lv_ldc (v := (100000 : Int32)) hx hb hown (hts _ wd_664) d_M_workPoints_56 ?_
    refine lv_icmp_ge hx hb d_M_workPoints_58 rfl (fun hc => ?_) (fun hc => ?_)
    · have h := mb_t hc h
      exact zM_workPoints_b126 Cx hR hret  s h ls H locs (lv_sub hl [] rfl) hP hS
    · have h := mb_f hc h
      refine lv_aload_n hx hb d_M_workPoints_61 rfl (lv_at hl 0 rfl) ?_
      refine va_get (ci := 5) (C := cnM) (T := fTM) (N := 30) hx hb hts uwM hown hK hP 0 rfl rfl 8 (by decide) (hts _ wd_533) (fun _ h9 => h9) rfl d_M_workPoints_62 ?_
      refine lv_if_eq hx hb d_M_workPoints_65 rfl (fun hc => ?_) (fun hc => ?_)
      · have h := mb_t hc h
        exact zM_workPoints_b126 Cx hR hret  s h ls H locs (lv_sub hl [] rfl) hP hS
      · have h := mb_f hc h
        refine lv_aload_n hx hb d_M_workPoints_68 rfl (lv_at hl 0 rfl) ?_
        refine lv_iconst (v := (0 : Int32)) hx hb d_M_workPoints_69 (by decide) ?_
        obtain ⟨hzs7, h⟩ := mb_putZ_ex h
        refine va_put (ci := 5) (v := .int (0 : Int32)) (ty := .boolean) (C := cnM) (T := fTM) (N := 30) hx hb hts uwM fyM fyM_ok fnM hown hK hP (hD _) hS 0 rfl rfl 8 (by decide) (hts _ wd_533) (fun _ h9 => h9) rfl (by decide +kernel) (mb_narZ hzs7) (mb_fitZ hzs7) (Nat.le_of_ble_eq_true rfl) d_M_workPoints_70 (fun H locs hP _ hS => ?_)
        have hP : va_P D vwCl (WM X cI cZ cJ (mb_setF s 1 (0 : Int32))) H := hP
        generalize mb_setF s 1 (0 : Int32) = s7 at hP h
        refine lv_iconst (v := (0 : Int32)) hx hb d_M_workPoints_73 (by decide) ?_
        refine lv_istore_n (lv' := [(2, .int (0 : Int32)), (0, .ref (X 0)), (1, .int x1)]) hx hb d_M_workPoints_74 rfl hl (by decide) rfl (fun ls hl => ?_)
        exact zM_workPoints_l75 Cx hR hret (mM_workPoints_l55  n) ih mb_fuel x1 (0 : Int32) s7 h ls H locs (lv_sub hl [1, 2, 0] rfl) hP hS
set_option maxRecDepth 100000 in
set_option maxHeartbeats 4000000 in
theorem zM_workPoints_b41 {p : Program} {l : Launch} {e : Env} {R : Room} {s0 : State} {m : MethodId} {args : Array Value} {below : List Frame} {meth : Method} {c : Code} {Q : State → Prop} {A : Nat → Prop} {D : va_G} {X : Nat → Nat} {cI cZ cJ : ClassId} {rv : Unit} {rs : mb_S}
    (Cx : mb_C p s0 m args meth c c_M_workPoints 4 lw_w cnM (fun _ _ => True) vwCl D [(cI, .int), (cZ, .boolean), (cJ, .long)] A (WM X cI cZ cJ)) (hR : 5 ≤ R.frames ∧ 129 ≤ R.locals)
    (hret : mb_R p l e R s0 m args below meth c Q vwCl D A (WM X cI cZ cJ) c_M_workPoints .return_ [] rs) (k2 : Int32 → mb_S → Option (Unit × mb_S)) (hk2 : ∀ (x1 : Int32) (s : mb_S), k2 x1 s = some (rv, rs) → mb_B p l e R s0 m args below meth c Q vwCl D A (WM X cI cZ cJ) 4 [(0, .ref (X 0)), (1, .int x1)] [] 2 s) (x1 : Int32) (y0 : Int32) (y1 : Int32) (s : mb_S)
    (h : mM_workPoints_b41 k2 x1 y0 y1 s = some (rv, rs)) : mb_B p l e R s0 m args below meth c Q vwCl D A (WM X cI cZ cJ) 4 [(0, .ref (X 0)), (1, .int x1)] [.int y0, .int y1, .ref (X 10)] 41 s := by
  unfold mM_workPoints_b41 at h
  intro ls H locs hl hP hS
  have Cx0 := Cx
  obtain ⟨⟨hx, hb, hml, hown, hts⟩, hK, hD, hA, hZ⟩ := Cx0
  refine mb_zast (WS := WM X cI cZ cJ) hx hb hK hP hD hS 10 1 rfl rfl h d_M_workPoints_41 rfl (fun H locs s8 hP hS h => ?_)
  obtain ⟨v9, ev9, h⟩ := mb_ex h
  refine lv_iinc (k := 1) (v := v9) (lv' := [(1, .int v9), (0, .ref (X 0))]) hx hb d_M_workPoints_42 hl rfl ev9 (by decide) rfl (fun ls hl => ?_)
  refine lv_goto hx hb d_M_workPoints_45 rfl ?_
  exact hk2 v9 s8 h ls H locs (lv_sub hl [1, 0] rfl) hP hS
set_option maxRecDepth 100000 in
set_option maxHeartbeats 4000000 in
theorem zM_workPoints_l2 {p : Program} {l : Launch} {e : Env} {R : Room} {s0 : State} {m : MethodId} {args : Array Value} {below : List Frame} {meth : Method} {c : Code} {Q : State → Prop} {A : Nat → Prop} {D : va_G} {X : Nat → Nat} {cI cZ cJ : ClassId} {rv : Unit} {rs : mb_S}
    (Cx : mb_C p s0 m args meth c c_M_workPoints 4 lw_w cnM (fun _ _ => True) vwCl D [(cI, .int), (cZ, .boolean), (cJ, .long)] A (WM X cI cZ cJ)) (hR : 5 ≤ R.frames ∧ 129 ≤ R.locals)
    (hret : mb_R p l e R s0 m args below meth c Q vwCl D A (WM X cI cZ cJ) c_M_workPoints .return_ [] rs)  :
    ∀ (n : Nat) (x1 : Int32) (s : mb_S), mM_workPoints_l2  n x1 s = some (rv, rs) → mb_B p l e R s0 m args below meth c Q vwCl D A (WM X cI cZ cJ) 4 [(0, .ref (X 0)), (1, .int x1)] [] 2 s := by
  intro n
  induction n with
  | zero => intro x1 s h; cases h
  | succ n ih =>
    intro x1 s h
    rw [mM_workPoints_l2_s] at h
    intro ls H locs hl hP hS
    have Cx0 := Cx
    obtain ⟨⟨hx, hb, hml, hown, hts⟩, hK, hD, hA, hZ⟩ := Cx0
    refine lv_iload_n hx hb d_M_workPoints_2 rfl (lv_at hl 1 rfl) ?_
    refine lv_bipush (v := (24 : Int32)) hx hb d_M_workPoints_3 (by decide) ?_
    refine lv_icmp_ge hx hb d_M_workPoints_5 rfl (fun hc => ?_) (fun hc => ?_)
    · have h := mb_t hc h
      refine lv_aload_n hx hb d_M_workPoints_48 rfl (lv_at hl 0 rfl) ?_
      refine lv_iconst (v := (1 : Int32)) hx hb d_M_workPoints_49 (by decide) ?_
      obtain ⟨hzs10, h⟩ := mb_putZ_ex h
      refine va_put (ci := 5) (v := .int (1 : Int32)) (ty := .boolean) (C := cnM) (T := fTM) (N := 30) hx hb hts uwM fyM fyM_ok fnM hown hK hP (hD _) hS 0 rfl rfl 8 (by decide) (hts _ wd_533) (fun _ h9 => h9) rfl (by decide +kernel) (mb_narZ hzs10) (mb_fitZ hzs10) (Nat.le_of_ble_eq_true rfl) d_M_workPoints_50 (fun H locs hP _ hS => ?_)
      have hP : va_P D vwCl (WM X cI cZ cJ (mb_setF s 1 (1 : Int32))) H := hP
      generalize mb_setF s 1 (1 : Int32) = s10 at hP h
      refine lv_iconst (v := (0 : Int32)) hx hb d_M_workPoints_53 (by decide) ?_
      refine lv_istore_n (lv' := [(1, .int (0 : Int32)), (0, .ref (X 0))]) hx hb d_M_workPoints_54 rfl hl (by decide) rfl (fun ls hl => ?_)
      exact zM_workPoints_l55 Cx hR hret  mb_fuel (0 : Int32) s10 h ls H locs (lv_sub hl [1, 0] rfl) hP hS
    · have h := mb_f hc h
      refine lv_aload_n hx hb d_M_workPoints_8 rfl (lv_at hl 0 rfl) ?_
      refine va_get (ci := 5) (C := cnM) (T := fTM) (N := 30) hx hb hts uwM hown hK hP 0 rfl rfl 9 (by decide) (hts _ wd_534) (fun _ h9 => h9) rfl d_M_workPoints_9 ?_
      refine lv_iload_n hx hb d_M_workPoints_12 rfl (lv_at hl 1 rfl) ?_
      refine lv_iconst (v := (0 : Int32)) hx hb d_M_workPoints_13 (by decide) ?_
      refine mb_iast (WS := WM X cI cZ cJ) hx hb hK hP hD hS 8 0 rfl rfl h d_M_workPoints_14 rfl (fun H locs s11 hP hS h => ?_)
      refine lv_aload_n hx hb d_M_workPoints_15 rfl (lv_at hl 0 rfl) ?_
      refine va_get (ci := 5) (C := cnM) (T := fTM) (N := 30) hx hb hts uwM hown hK hP 0 rfl rfl 10 (by decide) (hts _ wd_535) (fun _ h9 => h9) rfl d_M_workPoints_16 ?_
      refine lv_iload_n hx hb d_M_workPoints_19 rfl (lv_at hl 1 rfl) ?_
      refine lv_iconst (v := (2 : Int32)) hx hb d_M_workPoints_20 (by decide) ?_
      refine lv_idiv hx hb d_M_workPoints_21 (by decide) ?_
      refine lv_iconst (v := (0 : Int32)) hx hb d_M_workPoints_22 (by decide) ?_
      refine mb_iast (WS := WM X cI cZ cJ) hx hb hK hP hD hS 9 0 rfl rfl h d_M_workPoints_23 rfl (fun H locs s12 hP hS h => ?_)
      refine lv_aload_n hx hb d_M_workPoints_24 rfl (lv_at hl 0 rfl) ?_
      refine va_get (ci := 5) (C := cnM) (T := fTM) (N := 30) hx hb hts uwM hown hK hP 0 rfl rfl 11 (by decide) (hts _ wd_536) (fun _ h9 => h9) rfl d_M_workPoints_25 ?_
      refine lv_iload_n hx hb d_M_workPoints_28 rfl (lv_at hl 1 rfl) ?_
      refine lv_iconst (v := (4 : Int32)) hx hb d_M_workPoints_29 (by decide) ?_
      refine lv_idiv hx hb d_M_workPoints_30 (by decide) ?_
      refine lv_iload_n hx hb d_M_workPoints_31 rfl (lv_at hl 1 rfl) ?_
      refine lv_iconst (v := (4 : Int32)) hx hb d_M_workPoints_32 (by decide) ?_
      refine lv_icmp_ge hx hb d_M_workPoints_33 rfl (fun hc => ?_) (fun hc => ?_)
      · have h := mb_t hc h
        refine lv_iconst (v := (0 : Int32)) hx hb d_M_workPoints_40 (by decide) ?_
        exact zM_workPoints_b41 Cx hR hret (mM_workPoints_l2  n) ih x1 (0 : Int32) (x1 / (4 : Int32)) s12 h ls H locs (lv_sub hl [0, 1] rfl) hP hS
      · have h := mb_f hc h
        refine lv_iconst (v := (1 : Int32)) hx hb d_M_workPoints_36 (by decide) ?_
        refine lv_goto hx hb d_M_workPoints_37 rfl ?_
        exact zM_workPoints_b41 Cx hR hret (mM_workPoints_l2  n) ih x1 (1 : Int32) (x1 / (4 : Int32)) s12 h ls H locs (lv_sub hl [0, 1] rfl) hP hS
set_option maxRecDepth 100000 in
set_option maxHeartbeats 4000000 in
theorem w_M_workPoints (l : Launch) (D : va_G) (X : Nat → Nat) (cI cZ cJ : ClassId)  {s : mb_S} {rv : Unit} {rs : mb_S}
    (h : mM_workPoints  s = some (rv, rs)) : mb_MV l y_M_workPoints ws_M_workPoints rm_M_workPoints (fun _ _ => True) vwCl D [(cI, .int), (cZ, .boolean), (cJ, .long)] (WM X cI cZ cJ) [.ref (X 0)] s rs := by
  refine mb_ofV mb_Z0ok (by decide) rfl (Nat.le_of_ble_eq_true rfl) mb_DMok ?_
  intro p e s0 m args below meth c Q A Cx hret
  have hR : 5 ≤ (rm_M_workPoints).frames ∧ 129 ≤ (rm_M_workPoints).locals := ⟨Nat.le_refl _, Nat.le_refl _⟩
  intro ls H locs hl hP hS
  have Cx0 := Cx
  obtain ⟨⟨hx, hb, hml, hown, hts⟩, hK, hD, hA, hZ⟩ := Cx0
  have hl : lv_has ls 4 [(0, .ref (X 0))] := hl
  unfold mM_workPoints at h
  refine lv_iconst (v := (0 : Int32)) hx hb d_M_workPoints_0 (by decide) ?_
  refine lv_istore_n (lv' := [(1, .int (0 : Int32)), (0, .ref (X 0))]) hx hb d_M_workPoints_1 rfl hl (by decide) rfl (fun ls hl => ?_)
  exact zM_workPoints_l2 Cx hR hret  mb_fuel (0 : Int32) s h ls H locs (lv_sub hl [1, 0] rfl) hP hS
set_option maxRecDepth 100000 in
set_option maxHeartbeats 4000000 in
theorem zM_workTargets_b97 {p : Program} {l : Launch} {e : Env} {R : Room} {s0 : State} {m : MethodId} {args : Array Value} {below : List Frame} {meth : Method} {c : Code} {Q : State → Prop} {A : Nat → Prop} {D : va_G} {X : Nat → Nat} {cI cZ cJ : ClassId} {rv : Unit} {rs : mb_S}
    (Cx : mb_C p s0 m args meth c c_M_workTargets 4 lw_w cnM (fun _ _ => True) vwCl D [(cI, .int), (cZ, .boolean), (cJ, .long)] A (WM X cI cZ cJ)) (hR : 3 ≤ R.frames ∧ 75 ≤ R.locals)
    (hret : mb_R p l e R s0 m args below meth c Q vwCl D A (WM X cI cZ cJ) c_M_workTargets .return_ [] rs) (k2 : Int32 → mb_S → Option (Unit × mb_S)) (hk2 : ∀ (x1 : Int32) (s : mb_S), k2 x1 s = some (rv, rs) → mb_B p l e R s0 m args below meth c Q vwCl D A (WM X cI cZ cJ) 4 [(0, .ref (X 0)), (1, .int x1)] [] 2 s) (x1 : Int32) (s : mb_S)
    (h : mM_workTargets_b97 k2 x1 s = some (rv, rs)) : mb_B p l e R s0 m args below meth c Q vwCl D A (WM X cI cZ cJ) 4 [(0, .ref (X 0)), (1, .int x1)] [] 97 s := by
  unfold mM_workTargets_b97 at h
  intro ls H locs hl hP hS
  have Cx0 := Cx
  obtain ⟨⟨hx, hb, hml, hown, hts⟩, hK, hD, hA, hZ⟩ := Cx0
  obtain ⟨v1, ev1, h⟩ := mb_ex h
  refine lv_iinc (k := 1) (v := v1) (lv' := [(1, .int v1), (0, .ref (X 0))]) hx hb d_M_workTargets_97 hl rfl ev1 (by decide) rfl (fun ls hl => ?_)
  refine lv_goto hx hb d_M_workTargets_100 rfl ?_
  exact hk2 v1 s h ls H locs (lv_sub hl [1, 0] rfl) hP hS
set_option maxRecDepth 100000 in
set_option maxHeartbeats 4000000 in
theorem zM_workTargets_b91 {p : Program} {l : Launch} {e : Env} {R : Room} {s0 : State} {m : MethodId} {args : Array Value} {below : List Frame} {meth : Method} {c : Code} {Q : State → Prop} {A : Nat → Prop} {D : va_G} {X : Nat → Nat} {cI cZ cJ : ClassId} {rv : Unit} {rs : mb_S}
    (Cx : mb_C p s0 m args meth c c_M_workTargets 4 lw_w cnM (fun _ _ => True) vwCl D [(cI, .int), (cZ, .boolean), (cJ, .long)] A (WM X cI cZ cJ)) (hR : 3 ≤ R.frames ∧ 75 ≤ R.locals)
    (hret : mb_R p l e R s0 m args below meth c Q vwCl D A (WM X cI cZ cJ) c_M_workTargets .return_ [] rs) (k2 : Int32 → mb_S → Option (Unit × mb_S)) (hk2 : ∀ (x1 : Int32) (s : mb_S), k2 x1 s = some (rv, rs) → mb_B p l e R s0 m args below meth c Q vwCl D A (WM X cI cZ cJ) 4 [(0, .ref (X 0)), (1, .int x1)] [] 2 s) (k50 : Int32 → Int32 → Int32 → mb_S → Option (Unit × mb_S)) (hk50 : ∀ (x1 : Int32) (x2 : Int32) (x3 : Int32) (s : mb_S), k50 x1 x2 x3 s = some (rv, rs) → mb_B p l e R s0 m args below meth c Q vwCl D A (WM X cI cZ cJ) 4 [(0, .ref (X 0)), (1, .int x1), (2, .int x2), (3, .int x3)] [] 50 s) (x1 : Int32) (x2 : Int32) (x3 : Int32) (s : mb_S)
    (h : mM_workTargets_b91 k2 k50 x1 x2 x3 s = some (rv, rs)) : mb_B p l e R s0 m args below meth c Q vwCl D A (WM X cI cZ cJ) 4 [(0, .ref (X 0)), (1, .int x1), (2, .int x2), (3, .int x3)] [] 91 s := by
  unfold mM_workTargets_b91 at h
  intro ls H locs hl hP hS
  have Cx0 := Cx
  obtain ⟨⟨hx, hb, hml, hown, hts⟩, hK, hD, hA, hZ⟩ := Cx0
  obtain ⟨v2, ev2, h⟩ := mb_ex h
  refine lv_iinc (k := 3) (v := v2) (lv' := [(3, .int v2), (0, .ref (X 0)), (1, .int x1), (2, .int x2)]) hx hb d_M_workTargets_91 hl rfl ev2 (by decide) rfl (fun ls hl => ?_)
  refine lv_goto hx hb d_M_workTargets_94 rfl ?_
  exact hk50 x1 x2 v2 s h ls H locs (lv_sub hl [1, 2, 3, 0] rfl) hP hS
set_option maxRecDepth 100000 in
set_option maxHeartbeats 4000000 in
theorem zM_workTargets_l50 {p : Program} {l : Launch} {e : Env} {R : Room} {s0 : State} {m : MethodId} {args : Array Value} {below : List Frame} {meth : Method} {c : Code} {Q : State → Prop} {A : Nat → Prop} {D : va_G} {X : Nat → Nat} {cI cZ cJ : ClassId} {rv : Unit} {rs : mb_S}
    (Cx : mb_C p s0 m args meth c c_M_workTargets 4 lw_w cnM (fun _ _ => True) vwCl D [(cI, .int), (cZ, .boolean), (cJ, .long)] A (WM X cI cZ cJ)) (hR : 3 ≤ R.frames ∧ 75 ≤ R.locals)
    (hret : mb_R p l e R s0 m args below meth c Q vwCl D A (WM X cI cZ cJ) c_M_workTargets .return_ [] rs) (k2 : Int32 → mb_S → Option (Unit × mb_S)) (hk2 : ∀ (x1 : Int32) (s : mb_S), k2 x1 s = some (rv, rs) → mb_B p l e R s0 m args below meth c Q vwCl D A (WM X cI cZ cJ) 4 [(0, .ref (X 0)), (1, .int x1)] [] 2 s) :
    ∀ (n : Nat) (x1 : Int32) (x2 : Int32) (x3 : Int32) (s : mb_S), mM_workTargets_l50 k2 n x1 x2 x3 s = some (rv, rs) → mb_B p l e R s0 m args below meth c Q vwCl D A (WM X cI cZ cJ) 4 [(0, .ref (X 0)), (1, .int x1), (2, .int x2), (3, .int x3)] [] 50 s := by
  intro n
  induction n with
  | zero => intro x1 x2 x3 s h; cases h
  | succ n ih =>
    intro x1 x2 x3 s h
    rw [mM_workTargets_l50_s] at h
    intro ls H locs hl hP hS
    have Cx0 := Cx
    obtain ⟨⟨hx, hb, hml, hown, hts⟩, hK, hD, hA, hZ⟩ := Cx0
    refine lv_iload_n hx hb d_M_workTargets_50 rfl (lv_at hl 3 rfl) ?_
    refine lv_bipush (v := (36 : Int32)) hx hb d_M_workTargets_51 (by decide) ?_
    refine lv_icmp_ge hx hb d_M_workTargets_53 rfl (fun hc => ?_) (fun hc => ?_)
    · have h := mb_t hc h
      exact zM_workTargets_b97 Cx hR hret k2 hk2 x1 s h ls H locs (lv_sub hl [0, 1] rfl) hP hS
    · have h := mb_f hc h
      refine lv_iload_n hx hb d_M_workTargets_56 rfl (lv_at hl 2 rfl) ?_
      refine lv_if_eq hx hb d_M_workTargets_57 rfl (fun hc => ?_) (fun hc => ?_)
      · have h := mb_t hc h
        exact zM_workTargets_b97 Cx hR hret k2 hk2 x1 s h ls H locs (lv_sub hl [0, 1] rfl) hP hS
      · have h := mb_f hc h
        refine lv_aload_n hx hb d_M_workTargets_60 rfl (lv_at hl 0 rfl) ?_
        refine lv_iload_n hx hb d_M_workTargets_61 rfl (lv_at hl 1 rfl) ?_
        refine lv_iload_n hx hb d_M_workTargets_62 rfl (lv_at hl 3 rfl) ?_
        refine lv_bipush (v := (6 : Int32)) hx hb d_M_workTargets_63 (by decide) ?_
        refine lv_idiv hx hb d_M_workTargets_65 (by decide) ?_
        refine lv_iload_n hx hb d_M_workTargets_66 rfl (lv_at hl 3 rfl) ?_
        refine lv_bipush (v := (6 : Int32)) hx hb d_M_workTargets_67 (by decide) ?_
        refine lv_irem hx hb d_M_workTargets_69 (by decide) ?_
        obtain ⟨v3, s4, hs4, h⟩ := mb_cal_ex h
        refine mb_goI Cx (mb_runV (As := [.int x1, .int (x3 / (6 : Int32)), .int (x3 - x3 / (6 : Int32) * (6 : Int32))]) (rest := []) mb_Z0ok Cx (w_M_calls l D X cI cZ cJ hs4 H.size) (mb_cwV 3 hts wd_677 wd_679 sel_45 wd_7 wd_680 rfl rfl rfl (by decide +kernel) ⟨Nat.le_trans (by decide) hR.1, Nat.le_trans (by decide) hR.2⟩) hP hS 0 rfl rfl rfl hl.1 rfl (Nat.le_of_ble_eq_true rfl) d_M_workTargets_70) hS (fun H locs hP hS => ?_)
        refine lv_if_eq hx hb d_M_workTargets_73 rfl (fun hc => ?_) (fun hc => ?_)
        · have h := mb_t hc h
          exact zM_workTargets_b91 Cx hR hret k2 hk2 (mM_workTargets_l50 k2 n) ih x1 x2 x3 s4 h ls H locs (lv_sub hl [0, 1, 2, 3] rfl) hP hS
        · have h := mb_f hc h
          refine lv_aload_n hx hb d_M_workTargets_76 rfl (lv_at hl 0 rfl) ?_
          refine va_get (ci := 5) (C := cnM) (T := fTM) (N := 30) hx hb hts uwM hown hK hP 0 rfl rfl 12 (by decide) (hts _ wd_537) (fun _ h9 => h9) rfl d_M_workTargets_77 ?_
          refine lv_iload_n hx hb d_M_workTargets_80 rfl (lv_at hl 1 rfl) ?_
          refine lv_dup2_11 hx hb d_M_workTargets_81 rfl rfl ?_
          refine mb_iald hx hb hK hP 11 0 rfl rfl h d_M_workTargets_82 (fun v5 h => ?_)
          refine lv_iconst (v := (1 : Int32)) hx hb d_M_workTargets_83 (by decide) ?_
          refine lv_iload_n hx hb d_M_workTargets_84 rfl (lv_at hl 3 rfl) ?_
          refine lv_bipush (v := (6 : Int32)) hx hb d_M_workTargets_85 (by decide) ?_
          refine lv_irem hx hb d_M_workTargets_87 (by decide) ?_
          refine lv_ishl hx hb d_M_workTargets_88 ?_
          refine lv_ior hx hb d_M_workTargets_89 ?_
          refine mb_iast (WS := WM X cI cZ cJ) hx hb hK hP hD hS 11 0 rfl rfl h d_M_workTargets_90 rfl (fun H locs s6 hP hS h => ?_)
          exact zM_workTargets_b91 Cx hR hret k2 hk2 (mM_workTargets_l50 k2 n) ih x1 x2 x3 s6 h ls H locs (lv_sub hl [0, 1, 2, 3] rfl) hP hS
set_option maxRecDepth 100000 in
set_option maxHeartbeats 4000000 in
theorem zM_workTargets_b47 {p : Program} {l : Launch} {e : Env} {R : Room} {s0 : State} {m : MethodId} {args : Array Value} {below : List Frame} {meth : Method} {c : Code} {Q : State → Prop} {A : Nat → Prop} {D : va_G} {X : Nat → Nat} {cI cZ cJ : ClassId} {rv : Unit} {rs : mb_S}
    (Cx : mb_C p s0 m args meth c c_M_workTargets 4 lw_w cnM (fun _ _ => True) vwCl D [(cI, .int), (cZ, .boolean), (cJ, .long)] A (WM X cI cZ cJ)) (hR : 3 ≤ R.frames ∧ 75 ≤ R.locals)
    (hret : mb_R p l e R s0 m args below meth c Q vwCl D A (WM X cI cZ cJ) c_M_workTargets .return_ [] rs) (k2 : Int32 → mb_S → Option (Unit × mb_S)) (hk2 : ∀ (x1 : Int32) (s : mb_S), k2 x1 s = some (rv, rs) → mb_B p l e R s0 m args below meth c Q vwCl D A (WM X cI cZ cJ) 4 [(0, .ref (X 0)), (1, .int x1)] [] 2 s) (x1 : Int32) (y0 : Int32) (s : mb_S)
    (h : mM_workTargets_b47 k2 x1 y0 s = some (rv, rs)) : mb_B p l e R s0 m args below meth c Q vwCl D A (WM X cI cZ cJ) 4 [(0, .ref (X 0)), (1, .int x1)] [.int y0] 47 s := by
  unfold mM_workTargets_b47 at h
  intro ls H locs hl hP hS
  have Cx0 := Cx
  obtain ⟨⟨hx, hb, hml, hown, hts⟩, hK, hD, hA, hZ⟩ := Cx0
  refine lv_istore_n (lv' := [(2, .int y0), (0, .ref (X 0)), (1, .int x1)]) hx hb d_M_workTargets_47 rfl hl (by decide) rfl (fun ls hl => ?_)
  refine lv_iconst (v := (0 : Int32)) hx hb d_M_workTargets_48 (by decide) ?_
  refine lv_istore_n (lv' := [(3, .int (0 : Int32)), (2, .int y0), (0, .ref (X 0)), (1, .int x1)]) hx hb d_M_workTargets_49 rfl hl (by decide) rfl (fun ls hl => ?_)
  exact zM_workTargets_l50 Cx hR hret k2 hk2 mb_fuel x1 y0 (0 : Int32) s h ls H locs (lv_sub hl [2, 3, 1, 0] rfl) hP hS
set_option maxRecDepth 100000 in
set_option maxHeartbeats 4000000 in
theorem zM_workTargets_b46 {p : Program} {l : Launch} {e : Env} {R : Room} {s0 : State} {m : MethodId} {args : Array Value} {below : List Frame} {meth : Method} {c : Code} {Q : State → Prop} {A : Nat → Prop} {D : va_G} {X : Nat → Nat} {cI cZ cJ : ClassId} {rv : Unit} {rs : mb_S}
    (Cx : mb_C p s0 m args meth c c_M_workTargets 4 lw_w cnM (fun _ _ => True) vwCl D [(cI, .int), (cZ, .boolean), (cJ, .long)] A (WM X cI cZ cJ)) (hR : 3 ≤ R.frames ∧ 75 ≤ R.locals)
    (hret : mb_R p l e R s0 m args below meth c Q vwCl D A (WM X cI cZ cJ) c_M_workTargets .return_ [] rs) (k2 : Int32 → mb_S → Option (Unit × mb_S)) (hk2 : ∀ (x1 : Int32) (s : mb_S), k2 x1 s = some (rv, rs) → mb_B p l e R s0 m args below meth c Q vwCl D A (WM X cI cZ cJ) 4 [(0, .ref (X 0)), (1, .int x1)] [] 2 s) (x1 : Int32) (s : mb_S)
    (h : mM_workTargets_b46 k2 x1 s = some (rv, rs)) : mb_B p l e R s0 m args below meth c Q vwCl D A (WM X cI cZ cJ) 4 [(0, .ref (X 0)), (1, .int x1)] [] 46 s := by
  unfold mM_workTargets_b46 at h
  intro ls H locs hl hP hS
  have Cx0 := Cx
  obtain ⟨⟨hx, hb, hml, hown, hts⟩, hK, hD, hA, hZ⟩ := Cx0
  refine lv_iconst (v := (0 : Int32)) hx hb d_M_workTargets_46 (by decide) ?_
  exact zM_workTargets_b47 Cx hR hret k2 hk2 x1 (0 : Int32) s h ls H locs (lv_sub hl [0, 1] rfl) hP hS
set_option maxRecDepth 100000 in
set_option maxHeartbeats 4000000 in
theorem zM_workTargets_l2 {p : Program} {l : Launch} {e : Env} {R : Room} {s0 : State} {m : MethodId} {args : Array Value} {below : List Frame} {meth : Method} {c : Code} {Q : State → Prop} {A : Nat → Prop} {D : va_G} {X : Nat → Nat} {cI cZ cJ : ClassId} {rv : Unit} {rs : mb_S}
    (Cx : mb_C p s0 m args meth c c_M_workTargets 4 lw_w cnM (fun _ _ => True) vwCl D [(cI, .int), (cZ, .boolean), (cJ, .long)] A (WM X cI cZ cJ)) (hR : 3 ≤ R.frames ∧ 75 ≤ R.locals)
    (hret : mb_R p l e R s0 m args below meth c Q vwCl D A (WM X cI cZ cJ) c_M_workTargets .return_ [] rs)  :
    ∀ (n : Nat) (x1 : Int32) (s : mb_S), mM_workTargets_l2  n x1 s = some (rv, rs) → mb_B p l e R s0 m args below meth c Q vwCl D A (WM X cI cZ cJ) 4 [(0, .ref (X 0)), (1, .int x1)] [] 2 s := by
  intro n
  induction n with
  | zero => intro x1 s h; cases h
  | succ n ih =>
    intro x1 s h
    rw [mM_workTargets_l2_s] at h
    intro ls H locs hl hP hS
    have Cx0 := Cx
    obtain ⟨⟨hx, hb, hml, hown, hts⟩, hK, hD, hA, hZ⟩ := Cx0
    refine lv_iload_n hx hb d_M_workTargets_2 rfl (lv_at hl 1 rfl) ?_
    refine lv_bipush (v := (72 : Int32)) hx hb d_M_workTargets_3 (by decide) ?_
    refine lv_icmp_ge hx hb d_M_workTargets_5 rfl (fun hc => ?_) (fun hc => ?_)
    · have h := mb_t hc h
      exact mb_eV hret h d_M_workTargets_103 hP hS
    · have h := mb_f hc h
      refine lv_aload_n hx hb d_M_workTargets_8 rfl (lv_at hl 0 rfl) ?_
      refine va_get (ci := 5) (C := cnM) (T := fTM) (N := 30) hx hb hts uwM hown hK hP 0 rfl rfl 12 (by decide) (hts _ wd_537) (fun _ h9 => h9) rfl d_M_workTargets_9 ?_
      refine lv_iload_n hx hb d_M_workTargets_12 rfl (lv_at hl 1 rfl) ?_
      refine lv_iconst (v := (0 : Int32)) hx hb d_M_workTargets_13 (by decide) ?_
      refine mb_iast (WS := WM X cI cZ cJ) hx hb hK hP hD hS 11 0 rfl rfl h d_M_workTargets_14 rfl (fun H locs s7 hP hS h => ?_)
      refine lv_iload_n hx hb d_M_workTargets_15 rfl (lv_at hl 1 rfl) ?_
      refine lv_bipush (v := (12 : Int32)) hx hb d_M_workTargets_16 (by decide) ?_
      refine lv_irem hx hb d_M_workTargets_18 (by decide) ?_
      refine lv_aload_n hx hb d_M_workTargets_19 rfl (lv_at hl 0 rfl) ?_
      refine va_get (ci := 5) (C := cnM) (T := fTM) (N := 30) hx hb hts uwM hown hK hP 0 rfl rfl 0 (by decide) (hts _ wd_525) (fun _ h9 => h9) rfl d_M_workTargets_20 ?_
      refine lv_iload_n hx hb d_M_workTargets_23 rfl (lv_at hl 1 rfl) ?_
      refine lv_bipush (v := (12 : Int32)) hx hb d_M_workTargets_24 (by decide) ?_
      refine lv_idiv hx hb d_M_workTargets_26 (by decide) ?_
      refine mb_iald hx hb hK hP 1 0 rfl rfl h d_M_workTargets_27 (fun v8 h => ?_)
      refine lv_icmp_ge hx hb d_M_workTargets_28 rfl (fun hc => ?_) (fun hc => ?_)
      · have h := mb_t hc h
        exact zM_workTargets_b46 Cx hR hret (mM_workTargets_l2  n) ih x1 s7 h ls H locs (lv_sub hl [0, 1] rfl) hP hS
      · have h := mb_f hc h
        refine lv_aload_n hx hb d_M_workTargets_31 rfl (lv_at hl 0 rfl) ?_
        refine va_get (ci := 5) (C := cnM) (T := fTM) (N := 30) hx hb hts uwM hown hK hP 0 rfl rfl 1 (by decide) (hts _ wd_526) (fun _ h9 => h9) rfl d_M_workTargets_32 ?_
        refine lv_iload_n hx hb d_M_workTargets_35 rfl (lv_at hl 1 rfl) ?_
        refine mb_iald hx hb hK hP 2 0 rfl rfl h d_M_workTargets_36 (fun v9 h => ?_)
        refine lv_bipush (v := (7 : Int32)) hx hb d_M_workTargets_37 (by decide) ?_
        refine lv_icmp_ne hx hb d_M_workTargets_39 rfl (fun hc => ?_) (fun hc => ?_)
        · have h := mb_f hc h
          exact zM_workTargets_b46 Cx hR hret (mM_workTargets_l2  n) ih x1 s7 h ls H locs (lv_sub hl [0, 1] rfl) hP hS
        · have h := mb_t hc h
          refine lv_iconst (v := (1 : Int32)) hx hb d_M_workTargets_42 (by decide) ?_
          refine lv_goto hx hb d_M_workTargets_43 rfl ?_
          exact zM_workTargets_b47 Cx hR hret (mM_workTargets_l2  n) ih x1 (1 : Int32) s7 h ls H locs (lv_sub hl [0, 1] rfl) hP hS
set_option maxRecDepth 100000 in
set_option maxHeartbeats 4000000 in
theorem w_M_workTargets (l : Launch) (D : va_G) (X : Nat → Nat) (cI cZ cJ : ClassId)  {s : mb_S} {rv : Unit} {rs : mb_S}
    (h : mM_workTargets  s = some (rv, rs)) : mb_MV l y_M_workTargets ws_M_workTargets rm_M_workTargets (fun _ _ => True) vwCl D [(cI, .int), (cZ, .boolean), (cJ, .long)] (WM X cI cZ cJ) [.ref (X 0)] s rs := by
  refine mb_ofV mb_Z0ok (by decide) rfl (Nat.le_of_ble_eq_true rfl) mb_DMok ?_
  intro p e s0 m args below meth c Q A Cx hret
  have hR : 3 ≤ (rm_M_workTargets).frames ∧ 75 ≤ (rm_M_workTargets).locals := ⟨Nat.le_refl _, Nat.le_refl _⟩
  intro ls H locs hl hP hS
  have Cx0 := Cx
  obtain ⟨⟨hx, hb, hml, hown, hts⟩, hK, hD, hA, hZ⟩ := Cx0
  have hl : lv_has ls 4 [(0, .ref (X 0))] := hl
  unfold mM_workTargets at h
  refine lv_iconst (v := (0 : Int32)) hx hb d_M_workTargets_0 (by decide) ?_
  refine lv_istore_n (lv' := [(1, .int (0 : Int32)), (0, .ref (X 0))]) hx hb d_M_workTargets_1 rfl hl (by decide) rfl (fun ls hl => ?_)
  exact zM_workTargets_l2 Cx hR hret  mb_fuel (0 : Int32) s h ls H locs (lv_sub hl [1, 0] rfl) hP hS
set_option maxRecDepth 100000 in
set_option maxHeartbeats 4000000 in
theorem w_M_cellOf (l : Launch) (D : va_G) (X : Nat → Nat) (cI cZ cJ : ClassId) {x1 : Int32} {x2 : Int32} {x3 : Int32} {s : mb_S} {rv : Int32} {rs : mb_S}
    (h : mM_cellOf x1 x2 x3 s = some (rv, rs)) : mb_MI l y_M_cellOf ws_M_cellOf rm_M_cellOf (fun _ _ => True) vwCl D [(cI, .int), (cZ, .boolean), (cJ, .long)] (WM X cI cZ cJ) [.ref (X 0), .int x1, .int x2, .int x3] s rv rs := by
  refine mb_ofI mb_Z0ok (by decide) rfl (Nat.le_of_ble_eq_true rfl) mb_DMok ?_
  intro p e s0 m args below meth c Q A Cx hret
  have hR : 0 ≤ (rm_M_cellOf).frames ∧ 0 ≤ (rm_M_cellOf).locals := ⟨Nat.le_refl _, Nat.le_refl _⟩
  intro ls H locs hl hP hS
  have Cx0 := Cx
  obtain ⟨⟨hx, hb, hml, hown, hts⟩, hK, hD, hA, hZ⟩ := Cx0
  have hl : lv_has ls 4 [(0, .ref (X 0)), (1, .int x1), (2, .int x2), (3, .int x3)] := hl
  unfold mM_cellOf at h
  refine lv_bipush (v := (13 : Int32)) hx hb d_M_cellOf_0 (by decide) ?_
  refine lv_iload_n hx hb d_M_cellOf_2 rfl (lv_at hl 1 rfl) ?_
  refine lv_imul hx hb d_M_cellOf_3 ?_
  refine lv_iload_n hx hb d_M_cellOf_4 rfl (lv_at hl 2 rfl) ?_
  refine lv_iadd hx hb d_M_cellOf_5 ?_
  refine lv_bipush (v := (65 : Int32)) hx hb d_M_cellOf_6 (by decide) ?_
  refine lv_imul hx hb d_M_cellOf_8 ?_
  refine lv_iload_n hx hb d_M_cellOf_9 rfl (lv_at hl 3 rfl) ?_
  refine lv_iadd hx hb d_M_cellOf_10 ?_
  exact mb_eI hret h d_M_cellOf_11 hP hS
set_option maxRecDepth 100000 in
set_option maxHeartbeats 4000000 in
theorem zM_put_b79 {p : Program} {l : Launch} {e : Env} {R : Room} {s0 : State} {m : MethodId} {args : Array Value} {below : List Frame} {meth : Method} {c : Code} {Q : State → Prop} {A : Nat → Prop} {D : va_G} {X : Nat → Nat} {cI cZ cJ : ClassId} {rv : Unit} {rs : mb_S}
    (Cx : mb_C p s0 m args meth c c_M_put 10 lw_w cnM (fun _ _ => True) vwCl D [(cI, .int), (cZ, .boolean), (cJ, .long)] A (WM X cI cZ cJ)) (hR : 1 ≤ R.frames ∧ 23 ≤ R.locals)
    (hret : mb_R p l e R s0 m args below meth c Q vwCl D A (WM X cI cZ cJ) c_M_put .return_ [] rs)  (y0 : Int32) (s : mb_S)
    (h : mM_put_b79  y0 s = some (rv, rs)) : mb_B p l e R s0 m args below meth c Q vwCl D A (WM X cI cZ cJ) 10 [] [.int y0, .ref (X 0)] 79 s := by
  unfold mM_put_b79 at h
  intro ls H locs hl hP hS
  have Cx0 := Cx
  obtain ⟨⟨hx, hb, hml, hown, hts⟩, hK, hD, hA, hZ⟩ := Cx0
  obtain ⟨hzs1, h⟩ := mb_putZ_ex h
  refine va_put (ci := 5) (v := .int y0) (ty := .boolean) (C := cnM) (T := fTM) (N := 30) hx hb hts uwM fyM fyM_ok fnM hown hK hP (hD _) hS 0 rfl rfl 8 (by decide) (hts _ wd_533) (fun _ h9 => h9) rfl (by decide +kernel) (mb_narZ hzs1) (mb_fitZ hzs1) (Nat.le_of_ble_eq_true rfl) d_M_put_79 (fun H locs hP _ hS => ?_)
  have hP : va_P D vwCl (WM X cI cZ cJ (mb_setF s 1 y0)) H := hP
  generalize mb_setF s 1 y0 = s1 at hP h
  exact mb_eV hret h d_M_put_82 hP hS
set_option maxRecDepth 100000 in
set_option maxHeartbeats 4000000 in
theorem zM_put_b74 {p : Program} {l : Launch} {e : Env} {R : Room} {s0 : State} {m : MethodId} {args : Array Value} {below : List Frame} {meth : Method} {c : Code} {Q : State → Prop} {A : Nat → Prop} {D : va_G} {X : Nat → Nat} {cI cZ cJ : ClassId} {rv : Unit} {rs : mb_S}
    (Cx : mb_C p s0 m args meth c c_M_put 10 lw_w cnM (fun _ _ => True) vwCl D [(cI, .int), (cZ, .boolean), (cJ, .long)] A (WM X cI cZ cJ)) (hR : 1 ≤ R.frames ∧ 23 ≤ R.locals)
    (hret : mb_R p l e R s0 m args below meth c Q vwCl D A (WM X cI cZ cJ) c_M_put .return_ [] rs)   (s : mb_S)
    (h : mM_put_b74  s = some (rv, rs)) : mb_B p l e R s0 m args below meth c Q vwCl D A (WM X cI cZ cJ) 10 [] [.ref (X 0)] 74 s := by
  unfold mM_put_b74 at h
  intro ls H locs hl hP hS
  have Cx0 := Cx
  obtain ⟨⟨hx, hb, hml, hown, hts⟩, hK, hD, hA, hZ⟩ := Cx0
  refine lv_iconst (v := (1 : Int32)) hx hb d_M_put_74 (by decide) ?_
  refine lv_goto hx hb d_M_put_75 rfl ?_
  exact zM_put_b79 Cx hR hret  (1 : Int32) s h ls H locs (lv_sub hl [] rfl) hP hS
set_option maxRecDepth 100000 in
set_option maxHeartbeats 4000000 in
theorem zM_put_b20 {p : Program} {l : Launch} {e : Env} {R : Room} {s0 : State} {m : MethodId} {args : Array Value} {below : List Frame} {meth : Method} {c : Code} {Q : State → Prop} {A : Nat → Prop} {D : va_G} {X : Nat → Nat} {cI cZ cJ : ClassId} {rv : Unit} {rs : mb_S}
    (Cx : mb_C p s0 m args meth c c_M_put 10 lw_w cnM (fun _ _ => True) vwCl D [(cI, .int), (cZ, .boolean), (cJ, .long)] A (WM X cI cZ cJ)) (hR : 1 ≤ R.frames ∧ 23 ≤ R.locals)
    (hret : mb_R p l e R s0 m args below meth c Q vwCl D A (WM X cI cZ cJ) c_M_put .return_ [] rs)  (x1 : Int32) (x3 : Int32) (x4 : Int64) (y0 : Int32) (s : mb_S)
    (h : mM_put_b20  x1 x3 x4 y0 s = some (rv, rs)) : mb_B p l e R s0 m args below meth c Q vwCl D A (WM X cI cZ cJ) 10 [(0, .ref (X 0)), (1, .int x1), (3, .int x3), (4, .long x4)] [.int y0] 20 s := by
  unfold mM_put_b20 at h
  intro ls H locs hl hP hS
  have Cx0 := Cx
  obtain ⟨⟨hx, hb, hml, hown, hts⟩, hK, hD, hA, hZ⟩ := Cx0
  refine lv_istore (lv' := [(6, .int y0), (0, .ref (X 0)), (1, .int x1), (3, .int x3), (4, .long x4)]) hx hb d_M_put_20 hl (by decide) rfl (fun ls hl => ?_)
  refine lv_aload_n hx hb d_M_put_22 rfl (lv_at hl 1 rfl) ?_
  refine lv_iload_n hx hb d_M_put_23 rfl (lv_at hl 2 rfl) ?_
  refine lv_iload hx hb d_M_put_24 (lv_at hl 0 rfl) ?_
  refine lv_iload_n hx hb d_M_put_26 rfl (lv_at hl 3 rfl) ?_
  obtain ⟨v2, s3, hs3, h⟩ := mb_cal_ex h
  refine mb_goI Cx (mb_runV (As := [.int x1, .int y0, .int x3]) (rest := []) mb_Z0ok Cx (w_M_cellOf l D X cI cZ cJ hs3 H.size) (mb_cwV 3 hts wd_711 wd_713 sel_53 wd_7 wd_714 rfl rfl rfl (by decide +kernel) ⟨Nat.le_trans (by decide) hR.1, Nat.le_trans (by decide) hR.2⟩) hP hS 0 rfl rfl rfl hl.1 rfl (Nat.le_of_ble_eq_true rfl) d_M_put_27) hS (fun H locs hP hS => ?_)
  refine lv_istore (lv' := [(7, .int v2), (6, .int y0), (0, .ref (X 0)), (1, .int x1), (3, .int x3), (4, .long x4)]) hx hb d_M_put_30 hl (by decide) rfl (fun ls hl => ?_)
  refine lv_aload_n hx hb d_M_put_32 rfl (lv_at hl 2 rfl) ?_
  refine va_get (ci := 5) (C := cnM) (T := fTM) (N := 30) hx hb hts uwM hown hK hP 0 rfl rfl 13 (by decide) (hts _ wd_538) (fun _ h9 => h9) rfl d_M_put_33 ?_
  refine lv_iload hx hb d_M_put_36 (lv_at hl 0 rfl) ?_
  refine mb_lald hx hb hK hP 12 2 rfl rfl h d_M_put_38 (fun v4 h => ?_)
  refine lv_lstore (lv' := [(8, .long v4), (7, .int v2), (6, .int y0), (0, .ref (X 0)), (1, .int x1), (3, .int x3), (4, .long x4)]) hx hb d_M_put_39 hl (by decide) rfl (fun ls hl => ?_)
  refine lv_aload_n hx hb d_M_put_41 rfl (lv_at hl 3 rfl) ?_
  refine va_get (ci := 5) (C := cnM) (T := fTM) (N := 30) hx hb hts uwM hown hK hP 0 rfl rfl 13 (by decide) (hts _ wd_538) (fun _ h9 => h9) rfl d_M_put_42 ?_
  refine lv_iload hx hb d_M_put_45 (lv_at hl 1 rfl) ?_
  refine lv_lload hx hb d_M_put_47 (lv_at hl 0 rfl) ?_
  refine lv_lload hx hb d_M_put_49 (lv_at hl 6 rfl) ?_
  refine lv_lor hx hb d_M_put_51 ?_
  refine mb_last (WS := WM X cI cZ cJ) hx hb hK hP hD hS 12 2 rfl rfl h d_M_put_52 rfl (fun H locs s5 hP hS h => ?_)
  refine lv_aload_n hx hb d_M_put_53 rfl (lv_at hl 3 rfl) ?_
  refine lv_aload_n hx hb d_M_put_54 rfl (lv_at hl 3 rfl) ?_
  refine va_get (ci := 5) (C := cnM) (T := fTM) (N := 30) hx hb hts uwM hown hK hP 0 rfl rfl 8 (by decide) (hts _ wd_533) (fun _ h9 => h9) rfl d_M_put_55 ?_
  refine lv_if_ne hx hb d_M_put_58 rfl (fun hc => ?_) (fun hc => ?_)
  · have h := mb_f hc h
    exact zM_put_b74 Cx hR hret  s5 h ls H locs (lv_sub hl [] rfl) hP hS
  · have h := mb_t hc h
    refine lv_aload_n hx hb d_M_put_61 rfl (lv_at hl 3 rfl) ?_
    refine va_get (ci := 5) (C := cnM) (T := fTM) (N := 30) hx hb hts uwM hown hK hP 0 rfl rfl 13 (by decide) (hts _ wd_538) (fun _ h9 => h9) rfl d_M_put_62 ?_
    refine lv_iload hx hb d_M_put_65 (lv_at hl 1 rfl) ?_
    refine mb_lald hx hb hK hP 12 2 rfl rfl h d_M_put_67 (fun v6 h => ?_)
    refine lv_lload hx hb d_M_put_68 (lv_at hl 0 rfl) ?_
    refine W.lcmp hx hb d_M_put_70 ?_
    refine lv_if_eq hx hb d_M_put_71 rfl (fun hc => ?_) (fun hc => ?_)
    · have h := mb_t hc h
      refine lv_iconst (v := (0 : Int32)) hx hb d_M_put_78 (by decide) ?_
      exact zM_put_b79 Cx hR hret  (0 : Int32) s5 h ls H locs (lv_sub hl [] rfl) hP hS
    · have h := mb_f hc h
      exact zM_put_b74 Cx hR hret  s5 h ls H locs (lv_sub hl [] rfl) hP hS
set_option maxRecDepth 100000 in
set_option maxHeartbeats 4000000 in
theorem w_M_put (l : Launch) (D : va_G) (X : Nat → Nat) (cI cZ cJ : ClassId) {x1 : Int32} {x2 : Int32} {x3 : Int32} {x4 : Int64} {s : mb_S} {rv : Unit} {rs : mb_S}
    (h : mM_put x1 x2 x3 x4 s = some (rv, rs)) : mb_MV l y_M_put ws_M_put rm_M_put (fun _ _ => True) vwCl D [(cI, .int), (cZ, .boolean), (cJ, .long)] (WM X cI cZ cJ) [.ref (X 0), .int x1, .int x2, .int x3, .long x4] s rs := by
  refine mb_ofV mb_Z0ok (by decide) rfl (Nat.le_of_ble_eq_true rfl) mb_DMok ?_
  intro p e s0 m args below meth c Q A Cx hret
  have hR : 1 ≤ (rm_M_put).frames ∧ 23 ≤ (rm_M_put).locals := ⟨Nat.le_refl _, Nat.le_refl _⟩
  intro ls H locs hl hP hS
  have Cx0 := Cx
  obtain ⟨⟨hx, hb, hml, hown, hts⟩, hK, hD, hA, hZ⟩ := Cx0
  have hl : lv_has ls 10 [(0, .ref (X 0)), (1, .int x1), (2, .int x2), (3, .int x3), (4, .long x4)] := hl
  unfold mM_put at h
  refine lv_iload_n hx hb d_M_put_0 rfl (lv_at hl 2 rfl) ?_
  refine lv_aload_n hx hb d_M_put_1 rfl (lv_at hl 0 rfl) ?_
  refine va_get (ci := 5) (C := cnM) (T := fTM) (N := 30) hx hb hts uwM hown hK hP 0 rfl rfl 0 (by decide) (hts _ wd_525) (fun _ h9 => h9) rfl d_M_put_2 ?_
  refine lv_iload_n hx hb d_M_put_5 rfl (lv_at hl 1 rfl) ?_
  refine mb_iald hx hb hK hP 1 0 rfl rfl h d_M_put_6 (fun v7 h => ?_)
  refine lv_icmp_le hx hb d_M_put_7 rfl (fun hc => ?_) (fun hc => ?_)
  · have h := mb_t hc h
    refine lv_iload_n hx hb d_M_put_19 rfl (lv_at hl 2 rfl) ?_
    exact zM_put_b20 Cx hR hret  x1 x3 x4 x2 s h ls H locs (lv_sub hl [0, 1, 3, 4] rfl) hP hS
  · have h := mb_f hc h
    refine lv_aload_n hx hb d_M_put_10 rfl (lv_at hl 0 rfl) ?_
    refine va_get (ci := 5) (C := cnM) (T := fTM) (N := 30) hx hb hts uwM hown hK hP 0 rfl rfl 0 (by decide) (hts _ wd_525) (fun _ h9 => h9) rfl d_M_put_11 ?_
    refine lv_iload_n hx hb d_M_put_14 rfl (lv_at hl 1 rfl) ?_
    refine mb_iald hx hb hK hP 1 0 rfl rfl h d_M_put_15 (fun v8 h => ?_)
    refine lv_goto hx hb d_M_put_16 rfl ?_
    exact zM_put_b20 Cx hR hret  x1 x3 x4 v8 s h ls H locs (lv_sub hl [0, 1, 3, 4] rfl) hP hS
set_option maxRecDepth 100000 in
set_option maxHeartbeats 4000000 in
theorem zM_putZero_b48 {p : Program} {l : Launch} {e : Env} {R : Room} {s0 : State} {m : MethodId} {args : Array Value} {below : List Frame} {meth : Method} {c : Code} {Q : State → Prop} {A : Nat → Prop} {D : va_G} {X : Nat → Nat} {cI cZ cJ : ClassId} {rv : Unit} {rs : mb_S}
    (Cx : mb_C p s0 m args meth c c_M_putZero 4 lw_w cnM (fun _ _ => True) vwCl D [(cI, .int), (cZ, .boolean), (cJ, .long)] A (WM X cI cZ cJ)) (hR : 0 ≤ R.frames ∧ 0 ≤ R.locals)
    (hret : mb_R p l e R s0 m args below meth c Q vwCl D A (WM X cI cZ cJ) c_M_putZero .return_ [] rs)  (x1 : Int32) (x3 : Int32) (y0 : Int32) (s : mb_S)
    (h : mM_putZero_b48  x1 x3 y0 s = some (rv, rs)) : mb_B p l e R s0 m args below meth c Q vwCl D A (WM X cI cZ cJ) 4 [(0, .ref (X 0)), (1, .int x1), (3, .int x3)] [.int y0, .ref (X 0)] 48 s := by
  unfold mM_putZero_b48 at h
  intro ls H locs hl hP hS
  have Cx0 := Cx
  obtain ⟨⟨hx, hb, hml, hown, hts⟩, hK, hD, hA, hZ⟩ := Cx0
  obtain ⟨hzs1, h⟩ := mb_putZ_ex h
  refine va_put (ci := 5) (v := .int y0) (ty := .boolean) (C := cnM) (T := fTM) (N := 30) hx hb hts uwM fyM fyM_ok fnM hown hK hP (hD _) hS 0 rfl rfl 8 (by decide) (hts _ wd_533) (fun _ h9 => h9) rfl (by decide +kernel) (mb_narZ hzs1) (mb_fitZ hzs1) (Nat.le_of_ble_eq_true rfl) d_M_putZero_48 (fun H locs hP _ hS => ?_)
  have hP : va_P D vwCl (WM X cI cZ cJ (mb_setF s 1 y0)) H := hP
  generalize mb_setF s 1 y0 = s1 at hP h
  refine lv_aload_n hx hb d_M_putZero_51 rfl (lv_at hl 0 rfl) ?_
  refine va_get (ci := 5) (C := cnM) (T := fTM) (N := 30) hx hb hts uwM hown hK hP 0 rfl rfl 14 (by decide) (hts _ wd_539) (fun _ h9 => h9) rfl d_M_putZero_52 ?_
  refine lv_bipush (v := (13 : Int32)) hx hb d_M_putZero_55 (by decide) ?_
  refine lv_iload_n hx hb d_M_putZero_57 rfl (lv_at hl 1 rfl) ?_
  refine lv_imul hx hb d_M_putZero_58 ?_
  refine lv_iload_n hx hb d_M_putZero_59 rfl (lv_at hl 2 rfl) ?_
  refine lv_iadd hx hb d_M_putZero_60 ?_
  refine lv_iconst (v := (1 : Int32)) hx hb d_M_putZero_61 (by decide) ?_
  refine mb_zast (WS := WM X cI cZ cJ) hx hb hK hP hD hS 13 1 rfl rfl h d_M_putZero_62 rfl (fun H locs s2 hP hS h => ?_)
  exact mb_eV hret h d_M_putZero_63 hP hS
set_option maxRecDepth 100000 in
set_option maxHeartbeats 4000000 in
theorem zM_putZero_b43 {p : Program} {l : Launch} {e : Env} {R : Room} {s0 : State} {m : MethodId} {args : Array Value} {below : List Frame} {meth : Method} {c : Code} {Q : State → Prop} {A : Nat → Prop} {D : va_G} {X : Nat → Nat} {cI cZ cJ : ClassId} {rv : Unit} {rs : mb_S}
    (Cx : mb_C p s0 m args meth c c_M_putZero 4 lw_w cnM (fun _ _ => True) vwCl D [(cI, .int), (cZ, .boolean), (cJ, .long)] A (WM X cI cZ cJ)) (hR : 0 ≤ R.frames ∧ 0 ≤ R.locals)
    (hret : mb_R p l e R s0 m args below meth c Q vwCl D A (WM X cI cZ cJ) c_M_putZero .return_ [] rs)  (x1 : Int32) (x3 : Int32) (s : mb_S)
    (h : mM_putZero_b43  x1 x3 s = some (rv, rs)) : mb_B p l e R s0 m args below meth c Q vwCl D A (WM X cI cZ cJ) 4 [(0, .ref (X 0)), (1, .int x1), (3, .int x3)] [.ref (X 0)] 43 s := by
  unfold mM_putZero_b43 at h
  intro ls H locs hl hP hS
  have Cx0 := Cx
  obtain ⟨⟨hx, hb, hml, hown, hts⟩, hK, hD, hA, hZ⟩ := Cx0
  refine lv_iconst (v := (1 : Int32)) hx hb d_M_putZero_43 (by decide) ?_
  refine lv_goto hx hb d_M_putZero_44 rfl ?_
  exact zM_putZero_b48 Cx hR hret  x1 x3 (1 : Int32) s h ls H locs (lv_sub hl [0, 1, 2] rfl) hP hS
set_option maxRecDepth 100000 in
set_option maxHeartbeats 4000000 in
theorem zM_putZero_b20 {p : Program} {l : Launch} {e : Env} {R : Room} {s0 : State} {m : MethodId} {args : Array Value} {below : List Frame} {meth : Method} {c : Code} {Q : State → Prop} {A : Nat → Prop} {D : va_G} {X : Nat → Nat} {cI cZ cJ : ClassId} {rv : Unit} {rs : mb_S}
    (Cx : mb_C p s0 m args meth c c_M_putZero 4 lw_w cnM (fun _ _ => True) vwCl D [(cI, .int), (cZ, .boolean), (cJ, .long)] A (WM X cI cZ cJ)) (hR : 0 ≤ R.frames ∧ 0 ≤ R.locals)
    (hret : mb_R p l e R s0 m args below meth c Q vwCl D A (WM X cI cZ cJ) c_M_putZero .return_ [] rs)  (x1 : Int32) (y0 : Int32) (s : mb_S)
    (h : mM_putZero_b20  x1 y0 s = some (rv, rs)) : mb_B p l e R s0 m args below meth c Q vwCl D A (WM X cI cZ cJ) 4 [(0, .ref (X 0)), (1, .int x1)] [.int y0] 20 s := by
  unfold mM_putZero_b20 at h
  intro ls H locs hl hP hS
  have Cx0 := Cx
  obtain ⟨⟨hx, hb, hml, hown, hts⟩, hK, hD, hA, hZ⟩ := Cx0
  refine lv_istore_n (lv' := [(3, .int y0), (0, .ref (X 0)), (1, .int x1)]) hx hb d_M_putZero_20 rfl hl (by decide) rfl (fun ls hl => ?_)
  refine lv_aload_n hx hb d_M_putZero_21 rfl (lv_at hl 1 rfl) ?_
  refine lv_aload_n hx hb d_M_putZero_22 rfl (lv_at hl 1 rfl) ?_
  refine va_get (ci := 5) (C := cnM) (T := fTM) (N := 30) hx hb hts uwM hown hK hP 0 rfl rfl 8 (by decide) (hts _ wd_533) (fun _ h9 => h9) rfl d_M_putZero_23 ?_
  refine lv_if_ne hx hb d_M_putZero_26 rfl (fun hc => ?_) (fun hc => ?_)
  · have h := mb_f hc h
    exact zM_putZero_b43 Cx hR hret  x1 y0 s h ls H locs (lv_sub hl [1, 2, 0] rfl) hP hS
  · have h := mb_t hc h
    refine lv_aload_n hx hb d_M_putZero_29 rfl (lv_at hl 1 rfl) ?_
    refine va_get (ci := 5) (C := cnM) (T := fTM) (N := 30) hx hb hts uwM hown hK hP 0 rfl rfl 14 (by decide) (hts _ wd_539) (fun _ h9 => h9) rfl d_M_putZero_30 ?_
    refine lv_bipush (v := (13 : Int32)) hx hb d_M_putZero_33 (by decide) ?_
    refine lv_iload_n hx hb d_M_putZero_35 rfl (lv_at hl 2 rfl) ?_
    refine lv_imul hx hb d_M_putZero_36 ?_
    refine lv_iload_n hx hb d_M_putZero_37 rfl (lv_at hl 0 rfl) ?_
    refine lv_iadd hx hb d_M_putZero_38 ?_
    refine mb_zald hx hb hK hP 13 1 rfl rfl h d_M_putZero_39 (fun v3 h => ?_)
    refine lv_if_ne hx hb d_M_putZero_40 rfl (fun hc => ?_) (fun hc => ?_)
    · have h := mb_f hc h
      refine lv_iconst (v := (0 : Int32)) hx hb d_M_putZero_47 (by decide) ?_
      exact zM_putZero_b48 Cx hR hret  x1 y0 (0 : Int32) s h ls H locs (lv_sub hl [1, 2, 0] rfl) hP hS
    · have h := mb_t hc h
      exact zM_putZero_b43 Cx hR hret  x1 y0 s h ls H locs (lv_sub hl [1, 2, 0] rfl) hP hS
set_option maxRecDepth 100000 in
set_option maxHeartbeats 4000000 in
theorem w_M_putZero (l : Launch) (D : va_G) (X : Nat → Nat) (cI cZ cJ : ClassId) {x1 : Int32} {x2 : Int32} {s : mb_S} {rv : Unit} {rs : mb_S}
    (h : mM_putZero x1 x2 s = some (rv, rs)) : mb_MV l y_M_putZero ws_M_putZero rm_M_putZero (fun _ _ => True) vwCl D [(cI, .int), (cZ, .boolean), (cJ, .long)] (WM X cI cZ cJ) [.ref (X 0), .int x1, .int x2] s rs := by
  refine mb_ofV mb_Z0ok (by decide) rfl (Nat.le_of_ble_eq_true rfl) mb_DMok ?_
  intro p e s0 m args below meth c Q A Cx hret
  have hR : 0 ≤ (rm_M_putZero).frames ∧ 0 ≤ (rm_M_putZero).locals := ⟨Nat.le_refl _, Nat.le_refl _⟩
  intro ls H locs hl hP hS
  have Cx0 := Cx
  obtain ⟨⟨hx, hb, hml, hown, hts⟩, hK, hD, hA, hZ⟩ := Cx0
  have hl : lv_has ls 4 [(0, .ref (X 0)), (1, .int x1), (2, .int x2)] := hl
  unfold mM_putZero at h
  refine lv_iload_n hx hb d_M_putZero_0 rfl (lv_at hl 2 rfl) ?_
  refine lv_aload_n hx hb d_M_putZero_1 rfl (lv_at hl 0 rfl) ?_
  refine va_get (ci := 5) (C := cnM) (T := fTM) (N := 30) hx hb hts uwM hown hK hP 0 rfl rfl 0 (by decide) (hts _ wd_525) (fun _ h9 => h9) rfl d_M_putZero_2 ?_
  refine lv_iload_n hx hb d_M_putZero_5 rfl (lv_at hl 1 rfl) ?_
  refine mb_iald hx hb hK hP 1 0 rfl rfl h d_M_putZero_6 (fun v4 h => ?_)
  refine lv_icmp_le hx hb d_M_putZero_7 rfl (fun hc => ?_) (fun hc => ?_)
  · have h := mb_t hc h
    refine lv_iload_n hx hb d_M_putZero_19 rfl (lv_at hl 2 rfl) ?_
    exact zM_putZero_b20 Cx hR hret  x1 x2 s h ls H locs (lv_sub hl [0, 1] rfl) hP hS
  · have h := mb_f hc h
    refine lv_aload_n hx hb d_M_putZero_10 rfl (lv_at hl 0 rfl) ?_
    refine va_get (ci := 5) (C := cnM) (T := fTM) (N := 30) hx hb hts uwM hown hK hP 0 rfl rfl 0 (by decide) (hts _ wd_525) (fun _ h9 => h9) rfl d_M_putZero_11 ?_
    refine lv_iload_n hx hb d_M_putZero_14 rfl (lv_at hl 1 rfl) ?_
    refine mb_iald hx hb hK hP 1 0 rfl rfl h d_M_putZero_15 (fun v5 h => ?_)
    refine lv_goto hx hb d_M_putZero_16 rfl ?_
    exact zM_putZero_b20 Cx hR hret  x1 v5 s h ls H locs (lv_sub hl [0, 1] rfl) hP hS
set_option maxRecDepth 100000 in
set_option maxHeartbeats 4000000 in
theorem zM_onwards_b107 {p : Program} {l : Launch} {e : Env} {R : Room} {s0 : State} {m : MethodId} {args : Array Value} {below : List Frame} {meth : Method} {c : Code} {Q : State → Prop} {A : Nat → Prop} {D : va_G} {X : Nat → Nat} {cI cZ cJ : ClassId} {rv : Unit} {rs : mb_S}
    (Cx : mb_C p s0 m args meth c c_M_onwards 7 lw_w cnM (fun _ _ => True) vwCl D [(cI, .int), (cZ, .boolean), (cJ, .long)] A (WM X cI cZ cJ)) (hR : 2 ≤ R.frames ∧ 52 ≤ R.locals)
    (hret : mb_R p l e R s0 m args below meth c Q vwCl D A (WM X cI cZ cJ) c_M_onwards .return_ [] rs)   (s : mb_S)
    (h : mM_onwards_b107  s = some (rv, rs)) : mb_B p l e R s0 m args below meth c Q vwCl D A (WM X cI cZ cJ) 7 [] [] 107 s := by
  unfold mM_onwards_b107 at h
  intro ls H locs hl hP hS
  have Cx0 := Cx
  obtain ⟨⟨hx, hb, hml, hown, hts⟩, hK, hD, hA, hZ⟩ := Cx0
  exact mb_eV hret h d_M_onwards_107 hP hS
set_option maxRecDepth 100000 in
set_option maxHeartbeats 4000000 in
theorem zM_onwards_b69 {p : Program} {l : Launch} {e : Env} {R : Room} {s0 : State} {m : MethodId} {args : Array Value} {below : List Frame} {meth : Method} {c : Code} {Q : State → Prop} {A : Nat → Prop} {D : va_G} {X : Nat → Nat} {cI cZ cJ : ClassId} {rv : Unit} {rs : mb_S}
    (Cx : mb_C p s0 m args meth c c_M_onwards 7 lw_w cnM (fun _ _ => True) vwCl D [(cI, .int), (cZ, .boolean), (cJ, .long)] A (WM X cI cZ cJ)) (hR : 2 ≤ R.frames ∧ 52 ≤ R.locals)
    (hret : mb_R p l e R s0 m args below meth c Q vwCl D A (WM X cI cZ cJ) c_M_onwards .return_ [] rs)  (x1 : Int32) (x2 : Int32) (x3 : Int32) (x4 : Int32) (x5 : Int32) (s : mb_S)
    (h : mM_onwards_b69  x1 x2 x3 x4 x5 s = some (rv, rs)) : mb_B p l e R s0 m args below meth c Q vwCl D A (WM X cI cZ cJ) 7 [(0, .ref (X 0)), (1, .int x1), (2, .int x2), (3, .int x3), (4, .int x4), (5, .int x5)] [] 69 s := by
  unfold mM_onwards_b69 at h
  intro ls H locs hl hP hS
  have Cx0 := Cx
  obtain ⟨⟨hx, hb, hml, hown, hts⟩, hK, hD, hA, hZ⟩ := Cx0
  refine lv_iload hx hb d_M_onwards_69 (lv_at hl 5 rfl) ?_
  refine lv_bipush (v := (9 : Int32)) hx hb d_M_onwards_71 (by decide) ?_
  refine lv_icmp_eq hx hb d_M_onwards_73 rfl (fun hc => ?_) (fun hc => ?_)
  · have h := mb_t hc h
    exact zM_onwards_b107 Cx hR hret  s h ls H locs (lv_sub hl [] rfl) hP hS
  · have h := mb_f hc h
    refine lv_iload hx hb d_M_onwards_76 (lv_at hl 4 rfl) ?_
    refine lv_bipush (v := (64 : Int32)) hx hb d_M_onwards_78 (by decide) ?_
    refine lv_icmp_ne hx hb d_M_onwards_80 rfl (fun hc => ?_) (fun hc => ?_)
    · have h := mb_f hc h
      refine lv_aload_n hx hb d_M_onwards_94 rfl (lv_at hl 0 rfl) ?_
      refine lv_iload_n hx hb d_M_onwards_95 rfl (lv_at hl 1 rfl) ?_
      refine lv_iload_n hx hb d_M_onwards_96 rfl (lv_at hl 2 rfl) ?_
      refine lv_iconst (v := (1 : Int32)) hx hb d_M_onwards_97 (by decide) ?_
      refine lv_iadd hx hb d_M_onwards_98 ?_
      refine lv_iload_n hx hb d_M_onwards_99 rfl (lv_at hl 3 rfl) ?_
      refine lv_lconst (v := (1 : Int64)) hx hb d_M_onwards_100 (by decide) ?_
      refine lv_iload hx hb d_M_onwards_101 (lv_at hl 4 rfl) ?_
      refine lv_lshl hx hb d_M_onwards_103 rfl ?_
      obtain ⟨_u, s1, hs1, h⟩ := mb_cal_ex h
      refine mb_goV Cx (mb_runV (As := [.int x1, .int (x2 + (1 : Int32)), .int x3, .long ((1 : Int64) <<< (Int32.toInt64 x4 &&& 63))]) (rest := []) mb_Z0ok Cx (w_M_put l D X cI cZ cJ hs1 H.size) (mb_cwV 4 hts wd_707 wd_709 sel_52 wd_7 wd_710 rfl rfl rfl (by decide +kernel) ⟨Nat.le_trans (by decide) hR.1, Nat.le_trans (by decide) hR.2⟩) hP hS 0 rfl rfl rfl hl.1 rfl (Nat.le_of_ble_eq_true rfl) d_M_onwards_104) hS (fun H locs hP hS => ?_)
      exact zM_onwards_b107 Cx hR hret  s1 h ls H locs (lv_sub hl [] rfl) hP hS
    · have h := mb_t hc h
      refine lv_aload_n hx hb d_M_onwards_83 rfl (lv_at hl 0 rfl) ?_
      refine lv_iload_n hx hb d_M_onwards_84 rfl (lv_at hl 1 rfl) ?_
      refine lv_iload_n hx hb d_M_onwards_85 rfl (lv_at hl 2 rfl) ?_
      refine lv_iconst (v := (1 : Int32)) hx hb d_M_onwards_86 (by decide) ?_
      refine lv_iadd hx hb d_M_onwards_87 ?_
      obtain ⟨_u, s2, hs2, h⟩ := mb_cal_ex h
      refine mb_goV Cx (mb_runV (As := [.int x1, .int (x2 + (1 : Int32))]) (rest := []) mb_Z0ok Cx (w_M_putZero l D X cI cZ cJ hs2 H.size) (mb_cwV 2 hts wd_703 wd_705 sel_51 wd_7 wd_706 rfl rfl rfl (by decide +kernel) ⟨Nat.le_trans (by decide) hR.1, Nat.le_trans (by decide) hR.2⟩) hP hS 0 rfl rfl rfl hl.1 rfl (Nat.le_of_ble_eq_true rfl) d_M_onwards_88) hS (fun H locs hP hS => ?_)
      refine lv_goto hx hb d_M_onwards_91 rfl ?_
      exact zM_onwards_b107 Cx hR hret  s2 h ls H locs (lv_sub hl [] rfl) hP hS
set_option maxRecDepth 100000 in
set_option maxHeartbeats 4000000 in
theorem zM_onwards_b40 {p : Program} {l : Launch} {e : Env} {R : Room} {s0 : State} {m : MethodId} {args : Array Value} {below : List Frame} {meth : Method} {c : Code} {Q : State → Prop} {A : Nat → Prop} {D : va_G} {X : Nat → Nat} {cI cZ cJ : ClassId} {rv : Unit} {rs : mb_S}
    (Cx : mb_C p s0 m args meth c c_M_onwards 7 lw_w cnM (fun _ _ => True) vwCl D [(cI, .int), (cZ, .boolean), (cJ, .long)] A (WM X cI cZ cJ)) (hR : 2 ≤ R.frames ∧ 52 ≤ R.locals)
    (hret : mb_R p l e R s0 m args below meth c Q vwCl D A (WM X cI cZ cJ) c_M_onwards .return_ [] rs)  (x1 : Int32) (x2 : Int32) (x3 : Int32) (x4 : Int32) (x5 : Int32) (x6 : Int32) (s : mb_S)
    (h : mM_onwards_b40  x1 x2 x3 x4 x5 x6 s = some (rv, rs)) : mb_B p l e R s0 m args below meth c Q vwCl D A (WM X cI cZ cJ) 7 [(0, .ref (X 0)), (1, .int x1), (2, .int x2), (3, .int x3), (4, .int x4), (5, .int x5), (6, .int x6)] [] 40 s := by
  unfold mM_onwards_b40 at h
  intro ls H locs hl hP hS
  have Cx0 := Cx
  obtain ⟨⟨hx, hb, hml, hown, hts⟩, hK, hD, hA, hZ⟩ := Cx0
  refine lv_iload hx hb d_M_onwards_40 (lv_at hl 4 rfl) ?_
  refine lv_bipush (v := (64 : Int32)) hx hb d_M_onwards_42 (by decide) ?_
  refine lv_icmp_ne hx hb d_M_onwards_44 rfl (fun hc => ?_) (fun hc => ?_)
  · have h := mb_f hc h
    refine lv_aload_n hx hb d_M_onwards_57 rfl (lv_at hl 0 rfl) ?_
    refine lv_iload_n hx hb d_M_onwards_58 rfl (lv_at hl 1 rfl) ?_
    refine lv_iload hx hb d_M_onwards_59 (lv_at hl 6 rfl) ?_
    refine lv_iload_n hx hb d_M_onwards_61 rfl (lv_at hl 3 rfl) ?_
    refine lv_lconst (v := (1 : Int64)) hx hb d_M_onwards_62 (by decide) ?_
    refine lv_iload hx hb d_M_onwards_63 (lv_at hl 4 rfl) ?_
    refine lv_lshl hx hb d_M_onwards_65 rfl ?_
    obtain ⟨_u, s3, hs3, h⟩ := mb_cal_ex h
    refine mb_goV Cx (mb_runV (As := [.int x1, .int x6, .int x3, .long ((1 : Int64) <<< (Int32.toInt64 x4 &&& 63))]) (rest := []) mb_Z0ok Cx (w_M_put l D X cI cZ cJ hs3 H.size) (mb_cwV 4 hts wd_707 wd_709 sel_52 wd_7 wd_710 rfl rfl rfl (by decide +kernel) ⟨Nat.le_trans (by decide) hR.1, Nat.le_trans (by decide) hR.2⟩) hP hS 0 rfl rfl rfl hl.1 rfl (Nat.le_of_ble_eq_true rfl) d_M_onwards_66) hS (fun H locs hP hS => ?_)
    exact zM_onwards_b69 Cx hR hret  x1 x2 x3 x4 x5 s3 h ls H locs (lv_sub hl [0, 1, 2, 3, 4, 5] rfl) hP hS
  · have h := mb_t hc h
    refine lv_aload_n hx hb d_M_onwards_47 rfl (lv_at hl 0 rfl) ?_
    refine lv_iload_n hx hb d_M_onwards_48 rfl (lv_at hl 1 rfl) ?_
    refine lv_iload hx hb d_M_onwards_49 (lv_at hl 6 rfl) ?_
    obtain ⟨_u, s4, hs4, h⟩ := mb_cal_ex h
    refine mb_goV Cx (mb_runV (As := [.int x1, .int x6]) (rest := []) mb_Z0ok Cx (w_M_putZero l D X cI cZ cJ hs4 H.size) (mb_cwV 2 hts wd_703 wd_705 sel_51 wd_7 wd_706 rfl rfl rfl (by decide +kernel) ⟨Nat.le_trans (by decide) hR.1, Nat.le_trans (by decide) hR.2⟩) hP hS 0 rfl rfl rfl hl.1 rfl (Nat.le_of_ble_eq_true rfl) d_M_onwards_51) hS (fun H locs hP hS => ?_)
    refine lv_goto hx hb d_M_onwards_54 rfl ?_
    exact zM_onwards_b69 Cx hR hret  x1 x2 x3 x4 x5 s4 h ls H locs (lv_sub hl [0, 1, 2, 3, 4, 5] rfl) hP hS
set_option maxRecDepth 100000 in
set_option maxHeartbeats 4000000 in
theorem w_M_onwards (l : Launch) (D : va_G) (X : Nat → Nat) (cI cZ cJ : ClassId) {x1 : Int32} {x2 : Int32} {x3 : Int32} {x4 : Int32} {s : mb_S} {rv : Unit} {rs : mb_S}
    (h : mM_onwards x1 x2 x3 x4 s = some (rv, rs)) : mb_MV l y_M_onwards ws_M_onwards rm_M_onwards (fun _ _ => True) vwCl D [(cI, .int), (cZ, .boolean), (cJ, .long)] (WM X cI cZ cJ) [.ref (X 0), .int x1, .int x2, .int x3, .int x4] s rs := by
  refine mb_ofV mb_Z0ok (by decide) rfl (Nat.le_of_ble_eq_true rfl) mb_DMok ?_
  intro p e s0 m args below meth c Q A Cx hret
  have hR : 2 ≤ (rm_M_onwards).frames ∧ 52 ≤ (rm_M_onwards).locals := ⟨Nat.le_refl _, Nat.le_refl _⟩
  intro ls H locs hl hP hS
  have Cx0 := Cx
  obtain ⟨⟨hx, hb, hml, hown, hts⟩, hK, hD, hA, hZ⟩ := Cx0
  have hl : lv_has ls 7 [(0, .ref (X 0)), (1, .int x1), (2, .int x2), (3, .int x3), (4, .int x4)] := hl
  unfold mM_onwards at h
  refine lv_aload_n hx hb d_M_onwards_0 rfl (lv_at hl 0 rfl) ?_
  refine va_get (ci := 5) (C := cnM) (T := fTM) (N := 30) hx hb hts uwM hown hK hP 0 rfl rfl 1 (by decide) (hts _ wd_526) (fun _ h9 => h9) rfl d_M_onwards_1 ?_
  refine lv_bipush (v := (12 : Int32)) hx hb d_M_onwards_4 (by decide) ?_
  refine lv_iload_n hx hb d_M_onwards_6 rfl (lv_at hl 1 rfl) ?_
  refine lv_imul hx hb d_M_onwards_7 ?_
  refine lv_iload_n hx hb d_M_onwards_8 rfl (lv_at hl 2 rfl) ?_
  refine lv_iadd hx hb d_M_onwards_9 ?_
  refine mb_iald hx hb hK hP 2 0 rfl rfl h d_M_onwards_10 (fun v5 h => ?_)
  refine lv_istore (lv' := [(5, .int v5), (0, .ref (X 0)), (1, .int x1), (2, .int x2), (3, .int x3), (4, .int x4)]) hx hb d_M_onwards_11 hl (by decide) rfl (fun ls hl => ?_)
  refine lv_aload_n hx hb d_M_onwards_13 rfl (lv_at hl 1 rfl) ?_
  refine va_get (ci := 5) (C := cnM) (T := fTM) (N := 30) hx hb hts uwM hown hK hP 0 rfl rfl 2 (by decide) (hts _ wd_527) (fun _ h9 => h9) rfl d_M_onwards_14 ?_
  refine lv_bipush (v := (12 : Int32)) hx hb d_M_onwards_17 (by decide) ?_
  refine lv_iload_n hx hb d_M_onwards_19 rfl (lv_at hl 2 rfl) ?_
  refine lv_imul hx hb d_M_onwards_20 ?_
  refine lv_iload_n hx hb d_M_onwards_21 rfl (lv_at hl 3 rfl) ?_
  refine lv_iadd hx hb d_M_onwards_22 ?_
  refine mb_iald hx hb hK hP 3 0 rfl rfl h d_M_onwards_23 (fun v6 h => ?_)
  refine lv_istore (lv' := [(6, .int v6), (5, .int v5), (0, .ref (X 0)), (1, .int x1), (2, .int x2), (3, .int x3), (4, .int x4)]) hx hb d_M_onwards_24 hl (by decide) rfl (fun ls hl => ?_)
  refine lv_iload hx hb d_M_onwards_26 (lv_at hl 1 rfl) ?_
  refine lv_bipush (v := (8 : Int32)) hx hb d_M_onwards_28 (by decide) ?_
  refine lv_icmp_eq hx hb d_M_onwards_30 rfl (fun hc => ?_) (fun hc => ?_)
  · have h := mb_t hc h
    exact zM_onwards_b40 Cx hR hret  x1 x2 x3 x4 v5 v6 s h ls H locs (lv_sub hl [2, 3, 4, 5, 6, 1, 0] rfl) hP hS
  · have h := mb_f hc h
    refine lv_iload hx hb d_M_onwards_33 (lv_at hl 1 rfl) ?_
    refine lv_bipush (v := (9 : Int32)) hx hb d_M_onwards_35 (by decide) ?_
    refine lv_icmp_ne hx hb d_M_onwards_37 rfl (fun hc => ?_) (fun hc => ?_)
    · have h := mb_f hc h
      exact zM_onwards_b69 Cx hR hret  x1 x2 x3 x4 v5 s h ls H locs (lv_sub hl [2, 3, 4, 5, 6, 1] rfl) hP hS
    · have h := mb_t hc h
      exact zM_onwards_b40 Cx hR hret  x1 x2 x3 x4 v5 v6 s h ls H locs (lv_sub hl [2, 3, 4, 5, 6, 1, 0] rfl) hP hS
set_option maxRecDepth 100000 in
set_option maxHeartbeats 4000000 in
theorem zM_back_b191 {p : Program} {l : Launch} {e : Env} {R : Room} {s0 : State} {m : MethodId} {args : Array Value} {below : List Frame} {meth : Method} {c : Code} {Q : State → Prop} {A : Nat → Prop} {D : va_G} {X : Nat → Nat} {cI cZ cJ : ClassId} {rv : Unit} {rs : mb_S}
    (Cx : mb_C p s0 m args meth c c_M_back 14 lw_w cnM (fun _ _ => True) vwCl D [(cI, .int), (cZ, .boolean), (cJ, .long)] A (WM X cI cZ cJ)) (hR : 2 ≤ R.frames ∧ 52 ≤ R.locals)
    (hret : mb_R p l e R s0 m args below meth c Q vwCl D A (WM X cI cZ cJ) c_M_back .return_ [] rs) (k16 : Int32 → Int32 → Int32 → Int32 → Int32 → Int32 → Int32 → mb_S → Option (Unit × mb_S)) (hk16 : ∀ (x1 : Int32) (x2 : Int32) (x3 : Int32) (x4 : Int32) (x5 : Int32) (x6 : Int32) (x7 : Int32) (s : mb_S), k16 x1 x2 x3 x4 x5 x6 x7 s = some (rv, rs) → mb_B p l e R s0 m args below meth c Q vwCl D A (WM X cI cZ cJ) 14 [(0, .ref (X 0)), (1, .int x1), (2, .int x2), (3, .int x3), (4, .int x4), (5, .int x5), (6, .int x6), (7, .int x7)] [] 16 s) (x1 : Int32) (x2 : Int32) (x3 : Int32) (x4 : Int32) (x5 : Int32) (x6 : Int32) (x7 : Int32) (s : mb_S)
    (h : mM_back_b191 k16 x1 x2 x3 x4 x5 x6 x7 s = some (rv, rs)) : mb_B p l e R s0 m args below meth c Q vwCl D A (WM X cI cZ cJ) 14 [(0, .ref (X 0)), (1, .int x1), (2, .int x2), (3, .int x3), (4, .int x4), (5, .int x5), (6, .int x6), (7, .int x7)] [] 191 s := by
  unfold mM_back_b191 at h
  intro ls H locs hl hP hS
  have Cx0 := Cx
  obtain ⟨⟨hx, hb, hml, hown, hts⟩, hK, hD, hA, hZ⟩ := Cx0
  obtain ⟨v1, ev1, h⟩ := mb_ex h
  refine lv_iinc (k := 7) (v := v1) (lv' := [(7, .int v1), (0, .ref (X 0)), (1, .int x1), (2, .int x2), (3, .int x3), (4, .int x4), (5, .int x5), (6, .int x6)]) hx hb d_M_back_191 hl rfl ev1 (by decide) rfl (fun ls hl => ?_)
  refine lv_goto hx hb d_M_back_194 rfl ?_
  exact hk16 x1 x2 x3 x4 x5 x6 v1 s h ls H locs (lv_sub hl [1, 2, 3, 4, 5, 6, 7, 0] rfl) hP hS
set_option maxRecDepth 100000 in
set_option maxHeartbeats 4000000 in
theorem zM_back_b185 {p : Program} {l : Launch} {e : Env} {R : Room} {s0 : State} {m : MethodId} {args : Array Value} {below : List Frame} {meth : Method} {c : Code} {Q : State → Prop} {A : Nat → Prop} {D : va_G} {X : Nat → Nat} {cI cZ cJ : ClassId} {rv : Unit} {rs : mb_S}
    (Cx : mb_C p s0 m args meth c c_M_back 14 lw_w cnM (fun _ _ => True) vwCl D [(cI, .int), (cZ, .boolean), (cJ, .long)] A (WM X cI cZ cJ)) (hR : 2 ≤ R.frames ∧ 52 ≤ R.locals)
    (hret : mb_R p l e R s0 m args below meth c Q vwCl D A (WM X cI cZ cJ) c_M_back .return_ [] rs) (k16 : Int32 → Int32 → Int32 → Int32 → Int32 → Int32 → Int32 → mb_S → Option (Unit × mb_S)) (hk16 : ∀ (x1 : Int32) (x2 : Int32) (x3 : Int32) (x4 : Int32) (x5 : Int32) (x6 : Int32) (x7 : Int32) (s : mb_S), k16 x1 x2 x3 x4 x5 x6 x7 s = some (rv, rs) → mb_B p l e R s0 m args below meth c Q vwCl D A (WM X cI cZ cJ) 14 [(0, .ref (X 0)), (1, .int x1), (2, .int x2), (3, .int x3), (4, .int x4), (5, .int x5), (6, .int x6), (7, .int x7)] [] 16 s) (k122 : Int32 → Int32 → Int32 → Int32 → Int32 → Int32 → Int32 → Int64 → Int32 → Int32 → mb_S → Option (Unit × mb_S)) (hk122 : ∀ (x1 : Int32) (x2 : Int32) (x3 : Int32) (x4 : Int32) (x5 : Int32) (x6 : Int32) (x7 : Int32) (x8 : Int64) (x11 : Int32) (x12 : Int32) (s : mb_S), k122 x1 x2 x3 x4 x5 x6 x7 x8 x11 x12 s = some (rv, rs) → mb_B p l e R s0 m args below meth c Q vwCl D A (WM X cI cZ cJ) 14 [(0, .ref (X 0)), (1, .int x1), (2, .int x2), (3, .int x3), (4, .int x4), (5, .int x5), (6, .int x6), (7, .int x7), (8, .long x8), (11, .int x11), (12, .int x12)] [] 122 s) (x1 : Int32) (x2 : Int32) (x3 : Int32) (x4 : Int32) (x5 : Int32) (x6 : Int32) (x7 : Int32) (x8 : Int64) (x11 : Int32) (x12 : Int32) (s : mb_S)
    (h : mM_back_b185 k16 k122 x1 x2 x3 x4 x5 x6 x7 x8 x11 x12 s = some (rv, rs)) : mb_B p l e R s0 m args below meth c Q vwCl D A (WM X cI cZ cJ) 14 [(0, .ref (X 0)), (1, .int x1), (2, .int x2), (3, .int x3), (4, .int x4), (5, .int x5), (6, .int x6), (7, .int x7), (8, .long x8), (11, .int x11), (12, .int x12)] [] 185 s := by
  unfold mM_back_b185 at h
  intro ls H locs hl hP hS
  have Cx0 := Cx
  obtain ⟨⟨hx, hb, hml, hown, hts⟩, hK, hD, hA, hZ⟩ := Cx0
  obtain ⟨v2, ev2, h⟩ := mb_ex h
  refine lv_iinc (k := 10) (v := v2) (lv' := [(12, .int v2), (0, .ref (X 0)), (1, .int x1), (2, .int x2), (3, .int x3), (4, .int x4), (5, .int x5), (6, .int x6), (7, .int x7), (8, .long x8), (11, .int x11)]) hx hb d_M_back_185 hl rfl ev2 (by decide) rfl (fun ls hl => ?_)
  refine lv_goto hx hb d_M_back_188 rfl ?_
  exact hk122 x1 x2 x3 x4 x5 x6 x7 x8 x11 v2 s h ls H locs (lv_sub hl [1, 2, 3, 4, 5, 6, 7, 8, 9, 10, 0] rfl) hP hS
set_option maxRecDepth 100000 in
set_option maxHeartbeats 4000000 in
theorem zM_back_l122 {p : Program} {l : Launch} {e : Env} {R : Room} {s0 : State} {m : MethodId} {args : Array Value} {below : List Frame} {meth : Method} {c : Code} {Q : State → Prop} {A : Nat → Prop} {D : va_G} {X : Nat → Nat} {cI cZ cJ : ClassId} {rv : Unit} {rs : mb_S}
    (Cx : mb_C p s0 m args meth c c_M_back 14 lw_w cnM (fun _ _ => True) vwCl D [(cI, .int), (cZ, .boolean), (cJ, .long)] A (WM X cI cZ cJ)) (hR : 2 ≤ R.frames ∧ 52 ≤ R.locals)
    (hret : mb_R p l e R s0 m args below meth c Q vwCl D A (WM X cI cZ cJ) c_M_back .return_ [] rs) (k16 : Int32 → Int32 → Int32 → Int32 → Int32 → Int32 → Int32 → mb_S → Option (Unit × mb_S)) (hk16 : ∀ (x1 : Int32) (x2 : Int32) (x3 : Int32) (x4 : Int32) (x5 : Int32) (x6 : Int32) (x7 : Int32) (s : mb_S), k16 x1 x2 x3 x4 x5 x6 x7 s = some (rv, rs) → mb_B p l e R s0 m args below meth c Q vwCl D A (WM X cI cZ cJ) 14 [(0, .ref (X 0)), (1, .int x1), (2, .int x2), (3, .int x3), (4, .int x4), (5, .int x5), (6, .int x6), (7, .int x7)] [] 16 s) :
    ∀ (n : Nat) (x1 : Int32) (x2 : Int32) (x3 : Int32) (x4 : Int32) (x5 : Int32) (x6 : Int32) (x7 : Int32) (x8 : Int64) (x11 : Int32) (x12 : Int32) (s : mb_S), mM_back_l122 k16 n x1 x2 x3 x4 x5 x6 x7 x8 x11 x12 s = some (rv, rs) → mb_B p l e R s0 m args below meth c Q vwCl D A (WM X cI cZ cJ) 14 [(0, .ref (X 0)), (1, .int x1), (2, .int x2), (3, .int x3), (4, .int x4), (5, .int x5), (6, .int x6), (7, .int x7), (8, .long x8), (11, .int x11), (12, .int x12)] [] 122 s := by
  intro n
  induction n with
  | zero => intro x1 x2 x3 x4 x5 x6 x7 x8 x11 x12 s h; cases h
  | succ n ih =>
    intro x1 x2 x3 x4 x5 x6 x7 x8 x11 x12 s h
    rw [mM_back_l122_s] at h
    intro ls H locs hl hP hS
    have Cx0 := Cx
    obtain ⟨⟨hx, hb, hml, hown, hts⟩, hK, hD, hA, hZ⟩ := Cx0
    refine lv_iload hx hb d_M_back_122 (lv_at hl 10 rfl) ?_
    refine lv_iconst (v := (4 : Int32)) hx hb d_M_back_124 (by decide) ?_
    refine lv_icmp_ge hx hb d_M_back_125 rfl (fun hc => ?_) (fun hc => ?_)
    · have h := mb_t hc h
      exact zM_back_b191 Cx hR hret k16 hk16 x1 x2 x3 x4 x5 x6 x7 s h ls H locs (lv_sub hl [0, 1, 2, 3, 4, 5, 6, 7] rfl) hP hS
    · have h := mb_f hc h
      refine lv_iload hx hb d_M_back_128 (lv_at hl 9 rfl) ?_
      refine lv_if_eq hx hb d_M_back_130 rfl (fun hc => ?_) (fun hc => ?_)
      · have h := mb_t hc h
        exact zM_back_b191 Cx hR hret k16 hk16 x1 x2 x3 x4 x5 x6 x7 s h ls H locs (lv_sub hl [0, 1, 2, 3, 4, 5, 6, 7] rfl) hP hS
      · have h := mb_f hc h
        refine lv_aload_n hx hb d_M_back_133 rfl (lv_at hl 0 rfl) ?_
        refine va_get (ci := 5) (C := cnM) (T := fTM) (N := 30) hx hb hts uwM hown hK hP 0 rfl rfl 2 (by decide) (hts _ wd_527) (fun _ h9 => h9) rfl d_M_back_134 ?_
        refine lv_bipush (v := (12 : Int32)) hx hb d_M_back_137 (by decide) ?_
        refine lv_iload hx hb d_M_back_139 (lv_at hl 4 rfl) ?_
        refine lv_imul hx hb d_M_back_141 ?_
        refine lv_iload hx hb d_M_back_142 (lv_at hl 7 rfl) ?_
        refine lv_iadd hx hb d_M_back_144 ?_
        refine mb_iald hx hb hK hP 3 0 rfl rfl h d_M_back_145 (fun v3 h => ?_)
        refine lv_istore (lv' := [(13, .int v3), (0, .ref (X 0)), (1, .int x1), (2, .int x2), (3, .int x3), (4, .int x4), (5, .int x5), (6, .int x6), (7, .int x7), (8, .long x8), (11, .int x11), (12, .int x12)]) hx hb d_M_back_146 hl (by decide) rfl (fun ls hl => ?_)
        refine lv_lload hx hb d_M_back_148 (lv_at hl 9 rfl) ?_
        refine lv_bipush (v := (16 : Int32)) hx hb d_M_back_150 (by decide) ?_
        refine lv_iload hx hb d_M_back_152 (lv_at hl 11 rfl) ?_
        refine lv_imul hx hb d_M_back_154 ?_
        refine lv_iload hx hb d_M_back_155 (lv_at hl 0 rfl) ?_
        refine lv_iadd hx hb d_M_back_157 ?_
        refine lv_lshr hx hb d_M_back_158 rfl ?_
        refine lv_lconst (v := (1 : Int64)) hx hb d_M_back_159 (by decide) ?_
        refine lv_land hx hb d_M_back_160 ?_
        refine lv_lconst (v := (1 : Int64)) hx hb d_M_back_161 (by decide) ?_
        refine W.lcmp hx hb d_M_back_162 ?_
        refine lv_if_ne hx hb d_M_back_163 rfl (fun hc => ?_) (fun hc => ?_)
        · have h := mb_f hc h
          exact zM_back_b185 Cx hR hret k16 hk16 (mM_back_l122 k16 n) ih x1 x2 x3 x4 x5 x6 x7 x8 x11 x12 s h ls H locs (lv_sub hl [1, 2, 3, 4, 5, 6, 7, 8, 9, 10, 11] rfl) hP hS
        · have h := mb_t hc h
          refine lv_aload_n hx hb d_M_back_166 rfl (lv_at hl 1 rfl) ?_
          refine lv_iload_n hx hb d_M_back_167 rfl (lv_at hl 2 rfl) ?_
          refine lv_iload_n hx hb d_M_back_168 rfl (lv_at hl 3 rfl) ?_
          refine lv_iconst (v := (1 : Int32)) hx hb d_M_back_169 (by decide) ?_
          refine lv_iadd hx hb d_M_back_170 ?_
          refine lv_iload_n hx hb d_M_back_171 rfl (lv_at hl 4 rfl) ?_
          refine lv_lconst (v := (1 : Int64)) hx hb d_M_back_172 (by decide) ?_
          refine lv_bipush (v := (16 : Int32)) hx hb d_M_back_173 (by decide) ?_
          refine lv_iload hx hb d_M_back_175 (lv_at hl 11 rfl) ?_
          refine lv_imul hx hb d_M_back_177 ?_
          refine lv_iload hx hb d_M_back_178 (lv_at hl 7 rfl) ?_
          refine lv_iadd hx hb d_M_back_180 ?_
          refine lv_lshl hx hb d_M_back_181 rfl ?_
          obtain ⟨_u, s4, hs4, h⟩ := mb_cal_ex h
          refine mb_goV Cx (mb_runV (As := [.int x1, .int (x2 + (1 : Int32)), .int x3, .long ((1 : Int64) <<< (Int32.toInt64 (((16 : Int32) * x12) + x6) &&& 63))]) (rest := []) mb_Z0ok Cx (w_M_put l D X cI cZ cJ hs4 H.size) (mb_cwV 4 hts wd_707 wd_709 sel_52 wd_7 wd_710 rfl rfl rfl (by decide +kernel) ⟨Nat.le_trans (by decide) hR.1, Nat.le_trans (by decide) hR.2⟩) hP hS 0 rfl rfl rfl hl.1 rfl (Nat.le_of_ble_eq_true rfl) d_M_back_182) hS (fun H locs hP hS => ?_)
          exact zM_back_b185 Cx hR hret k16 hk16 (mM_back_l122 k16 n) ih x1 x2 x3 x4 x5 x6 x7 x8 x11 x12 s4 h ls H locs (lv_sub hl [1, 2, 3, 4, 5, 6, 7, 8, 9, 10, 11] rfl) hP hS
set_option maxRecDepth 100000 in
set_option maxHeartbeats 4000000 in
theorem zM_back_b119 {p : Program} {l : Launch} {e : Env} {R : Room} {s0 : State} {m : MethodId} {args : Array Value} {below : List Frame} {meth : Method} {c : Code} {Q : State → Prop} {A : Nat → Prop} {D : va_G} {X : Nat → Nat} {cI cZ cJ : ClassId} {rv : Unit} {rs : mb_S}
    (Cx : mb_C p s0 m args meth c c_M_back 14 lw_w cnM (fun _ _ => True) vwCl D [(cI, .int), (cZ, .boolean), (cJ, .long)] A (WM X cI cZ cJ)) (hR : 2 ≤ R.frames ∧ 52 ≤ R.locals)
    (hret : mb_R p l e R s0 m args below meth c Q vwCl D A (WM X cI cZ cJ) c_M_back .return_ [] rs) (k16 : Int32 → Int32 → Int32 → Int32 → Int32 → Int32 → Int32 → mb_S → Option (Unit × mb_S)) (hk16 : ∀ (x1 : Int32) (x2 : Int32) (x3 : Int32) (x4 : Int32) (x5 : Int32) (x6 : Int32) (x7 : Int32) (s : mb_S), k16 x1 x2 x3 x4 x5 x6 x7 s = some (rv, rs) → mb_B p l e R s0 m args below meth c Q vwCl D A (WM X cI cZ cJ) 14 [(0, .ref (X 0)), (1, .int x1), (2, .int x2), (3, .int x3), (4, .int x4), (5, .int x5), (6, .int x6), (7, .int x7)] [] 16 s) (x1 : Int32) (x2 : Int32) (x3 : Int32) (x4 : Int32) (x5 : Int32) (x6 : Int32) (x7 : Int32) (x8 : Int64) (x11 : Int32) (s : mb_S)
    (h : mM_back_b119 k16 x1 x2 x3 x4 x5 x6 x7 x8 x11 s = some (rv, rs)) : mb_B p l e R s0 m args below meth c Q vwCl D A (WM X cI cZ cJ) 14 [(0, .ref (X 0)), (1, .int x1), (2, .int x2), (3, .int x3), (4, .int x4), (5, .int x5), (6, .int x6), (7, .int x7), (8, .long x8), (11, .int x11)] [] 119 s := by
  unfold mM_back_b119 at h
  intro ls H locs hl hP hS
  have Cx0 := Cx
  obtain ⟨⟨hx, hb, hml, hown, hts⟩, hK, hD, hA, hZ⟩ := Cx0
  refine lv_iconst (v := (0 : Int32)) hx hb d_M_back_119 (by decide) ?_
  refine lv_istore (lv' := [(12, .int (0 : Int32)), (0, .ref (X 0)), (1, .int x1), (2, .int x2), (3, .int x3), (4, .int x4), (5, .int x5), (6, .int x6), (7, .int x7), (8, .long x8), (11, .int x11)]) hx hb d_M_back_120 hl (by decide) rfl (fun ls hl => ?_)
  exact zM_back_l122 Cx hR hret k16 hk16 mb_fuel x1 x2 x3 x4 x5 x6 x7 x8 x11 (0 : Int32) s h ls H locs (lv_sub hl [1, 2, 3, 4, 5, 6, 7, 8, 9, 10, 0] rfl) hP hS
set_option maxRecDepth 100000 in
set_option maxHeartbeats 4000000 in
theorem zM_back_b104 {p : Program} {l : Launch} {e : Env} {R : Room} {s0 : State} {m : MethodId} {args : Array Value} {below : List Frame} {meth : Method} {c : Code} {Q : State → Prop} {A : Nat → Prop} {D : va_G} {X : Nat → Nat} {cI cZ cJ : ClassId} {rv : Unit} {rs : mb_S}
    (Cx : mb_C p s0 m args meth c c_M_back 14 lw_w cnM (fun _ _ => True) vwCl D [(cI, .int), (cZ, .boolean), (cJ, .long)] A (WM X cI cZ cJ)) (hR : 2 ≤ R.frames ∧ 52 ≤ R.locals)
    (hret : mb_R p l e R s0 m args below meth c Q vwCl D A (WM X cI cZ cJ) c_M_back .return_ [] rs) (k16 : Int32 → Int32 → Int32 → Int32 → Int32 → Int32 → Int32 → mb_S → Option (Unit × mb_S)) (hk16 : ∀ (x1 : Int32) (x2 : Int32) (x3 : Int32) (x4 : Int32) (x5 : Int32) (x6 : Int32) (x7 : Int32) (s : mb_S), k16 x1 x2 x3 x4 x5 x6 x7 s = some (rv, rs) → mb_B p l e R s0 m args below meth c Q vwCl D A (WM X cI cZ cJ) 14 [(0, .ref (X 0)), (1, .int x1), (2, .int x2), (3, .int x3), (4, .int x4), (5, .int x5), (6, .int x6), (7, .int x7)] [] 16 s) (x1 : Int32) (x2 : Int32) (x3 : Int32) (x4 : Int32) (x5 : Int32) (x6 : Int32) (x7 : Int32) (x8 : Int64) (x11 : Int32) (s : mb_S)
    (h : mM_back_b104 k16 x1 x2 x3 x4 x5 x6 x7 x8 x11 s = some (rv, rs)) : mb_B p l e R s0 m args below meth c Q vwCl D A (WM X cI cZ cJ) 14 [(0, .ref (X 0)), (1, .int x1), (2, .int x2), (3, .int x3), (4, .int x4), (5, .int x5), (6, .int x6), (7, .int x7), (8, .long x8), (11, .int x11)] [] 104 s := by
  unfold mM_back_b104 at h
  intro ls H locs hl hP hS
  have Cx0 := Cx
  obtain ⟨⟨hx, hb, hml, hown, hts⟩, hK, hD, hA, hZ⟩ := Cx0
  refine lv_aload_n hx hb d_M_back_104 rfl (lv_at hl 0 rfl) ?_
  refine lv_iload_n hx hb d_M_back_105 rfl (lv_at hl 1 rfl) ?_
  refine lv_iload_n hx hb d_M_back_106 rfl (lv_at hl 2 rfl) ?_
  refine lv_iconst (v := (1 : Int32)) hx hb d_M_back_107 (by decide) ?_
  refine lv_iadd hx hb d_M_back_108 ?_
  refine lv_iload_n hx hb d_M_back_109 rfl (lv_at hl 3 rfl) ?_
  refine lv_lload hx hb d_M_back_110 (lv_at hl 8 rfl) ?_
  refine lv_ldc2 (v := (-4222189076152336 : Int64)) hx hb hown (hts _ wd_731) d_M_back_112 ?_
  refine lv_land hx hb d_M_back_115 ?_
  obtain ⟨_u, s5, hs5, h⟩ := mb_cal_ex h
  refine mb_goV Cx (mb_runV (As := [.int x1, .int (x2 + (1 : Int32)), .int x3, .long (x8 &&& (-4222189076152336 : Int64))]) (rest := []) mb_Z0ok Cx (w_M_put l D X cI cZ cJ hs5 H.size) (mb_cwV 4 hts wd_707 wd_709 sel_52 wd_7 wd_710 rfl rfl rfl (by decide +kernel) ⟨Nat.le_trans (by decide) hR.1, Nat.le_trans (by decide) hR.2⟩) hP hS 0 rfl rfl rfl hl.1 rfl (Nat.le_of_ble_eq_true rfl) d_M_back_116) hS (fun H locs hP hS => ?_)
  exact zM_back_b119 Cx hR hret k16 hk16 x1 x2 x3 x4 x5 x6 x7 x8 x11 s5 h ls H locs (lv_sub hl [0, 1, 2, 3, 4, 5, 6, 7, 8, 9] rfl) hP hS
set_option maxRecDepth 100000 in
set_option maxHeartbeats 4000000 in
theorem zM_back_b92 {p : Program} {l : Launch} {e : Env} {R : Room} {s0 : State} {m : MethodId} {args : Array Value} {below : List Frame} {meth : Method} {c : Code} {Q : State → Prop} {A : Nat → Prop} {D : va_G} {X : Nat → Nat} {cI cZ cJ : ClassId} {rv : Unit} {rs : mb_S}
    (Cx : mb_C p s0 m args meth c c_M_back 14 lw_w cnM (fun _ _ => True) vwCl D [(cI, .int), (cZ, .boolean), (cJ, .long)] A (WM X cI cZ cJ)) (hR : 2 ≤ R.frames ∧ 52 ≤ R.locals)
    (hret : mb_R p l e R s0 m args below meth c Q vwCl D A (WM X cI cZ cJ) c_M_back .return_ [] rs) (k16 : Int32 → Int32 → Int32 → Int32 → Int32 → Int32 → Int32 → mb_S → Option (Unit × mb_S)) (hk16 : ∀ (x1 : Int32) (x2 : Int32) (x3 : Int32) (x4 : Int32) (x5 : Int32) (x6 : Int32) (x7 : Int32) (s : mb_S), k16 x1 x2 x3 x4 x5 x6 x7 s = some (rv, rs) → mb_B p l e R s0 m args below meth c Q vwCl D A (WM X cI cZ cJ) 14 [(0, .ref (X 0)), (1, .int x1), (2, .int x2), (3, .int x3), (4, .int x4), (5, .int x5), (6, .int x6), (7, .int x7)] [] 16 s) (x1 : Int32) (x2 : Int32) (x3 : Int32) (x4 : Int32) (x5 : Int32) (x6 : Int32) (x7 : Int32) (x8 : Int64) (x10 : Int32) (y0 : Int32) (s : mb_S)
    (h : mM_back_b92 k16 x1 x2 x3 x4 x5 x6 x7 x8 x10 y0 s = some (rv, rs)) : mb_B p l e R s0 m args below meth c Q vwCl D A (WM X cI cZ cJ) 14 [(0, .ref (X 0)), (1, .int x1), (2, .int x2), (3, .int x3), (4, .int x4), (5, .int x5), (6, .int x6), (7, .int x7), (8, .long x8), (10, .int x10)] [.int y0] 92 s := by
  unfold mM_back_b92 at h
  intro ls H locs hl hP hS
  have Cx0 := Cx
  obtain ⟨⟨hx, hb, hml, hown, hts⟩, hK, hD, hA, hZ⟩ := Cx0
  refine lv_istore (lv' := [(11, .int y0), (0, .ref (X 0)), (1, .int x1), (2, .int x2), (3, .int x3), (4, .int x4), (5, .int x5), (6, .int x6), (7, .int x7), (8, .long x8), (10, .int x10)]) hx hb d_M_back_92 hl (by decide) rfl (fun ls hl => ?_)
  refine lv_iload hx hb d_M_back_94 (lv_at hl 10 rfl) ?_
  refine lv_if_ne hx hb d_M_back_96 rfl (fun hc => ?_) (fun hc => ?_)
  · have h := mb_f hc h
    exact zM_back_b104 Cx hR hret k16 hk16 x1 x2 x3 x4 x5 x6 x7 x8 y0 s h ls H locs (lv_sub hl [1, 2, 3, 4, 5, 6, 7, 8, 9, 0] rfl) hP hS
  · have h := mb_t hc h
    refine lv_iload hx hb d_M_back_99 (lv_at hl 0 rfl) ?_
    refine lv_if_eq hx hb d_M_back_101 rfl (fun hc => ?_) (fun hc => ?_)
    · have h := mb_t hc h
      exact zM_back_b119 Cx hR hret k16 hk16 x1 x2 x3 x4 x5 x6 x7 x8 y0 s h ls H locs (lv_sub hl [1, 2, 3, 4, 5, 6, 7, 8, 9, 0] rfl) hP hS
    · have h := mb_f hc h
      exact zM_back_b104 Cx hR hret k16 hk16 x1 x2 x3 x4 x5 x6 x7 x8 y0 s h ls H locs (lv_sub hl [1, 2, 3, 4, 5, 6, 7, 8, 9, 0] rfl) hP hS
set_option maxRecDepth 100000 in
set_option maxHeartbeats 4000000 in
theorem zM_back_b91 {p : Program} {l : Launch} {e : Env} {R : Room} {s0 : State} {m : MethodId} {args : Array Value} {below : List Frame} {meth : Method} {c : Code} {Q : State → Prop} {A : Nat → Prop} {D : va_G} {X : Nat → Nat} {cI cZ cJ : ClassId} {rv : Unit} {rs : mb_S}
    (Cx : mb_C p s0 m args meth c c_M_back 14 lw_w cnM (fun _ _ => True) vwCl D [(cI, .int), (cZ, .boolean), (cJ, .long)] A (WM X cI cZ cJ)) (hR : 2 ≤ R.frames ∧ 52 ≤ R.locals)
    (hret : mb_R p l e R s0 m args below meth c Q vwCl D A (WM X cI cZ cJ) c_M_back .return_ [] rs) (k16 : Int32 → Int32 → Int32 → Int32 → Int32 → Int32 → Int32 → mb_S → Option (Unit × mb_S)) (hk16 : ∀ (x1 : Int32) (x2 : Int32) (x3 : Int32) (x4 : Int32) (x5 : Int32) (x6 : Int32) (x7 : Int32) (s : mb_S), k16 x1 x2 x3 x4 x5 x6 x7 s = some (rv, rs) → mb_B p l e R s0 m args below meth c Q vwCl D A (WM X cI cZ cJ) 14 [(0, .ref (X 0)), (1, .int x1), (2, .int x2), (3, .int x3), (4, .int x4), (5, .int x5), (6, .int x6), (7, .int x7)] [] 16 s) (x1 : Int32) (x2 : Int32) (x3 : Int32) (x4 : Int32) (x5 : Int32) (x6 : Int32) (x7 : Int32) (x8 : Int64) (x10 : Int32) (s : mb_S)
    (h : mM_back_b91 k16 x1 x2 x3 x4 x5 x6 x7 x8 x10 s = some (rv, rs)) : mb_B p l e R s0 m args below meth c Q vwCl D A (WM X cI cZ cJ) 14 [(0, .ref (X 0)), (1, .int x1), (2, .int x2), (3, .int x3), (4, .int x4), (5, .int x5), (6, .int x6), (7, .int x7), (8, .long x8), (10, .int x10)] [] 91 s := by
  unfold mM_back_b91 at h
  intro ls H locs hl hP hS
  have Cx0 := Cx
  obtain ⟨⟨hx, hb, hml, hown, hts⟩, hK, hD, hA, hZ⟩ := Cx0
  refine lv_iconst (v := (0 : Int32)) hx hb d_M_back_91 (by decide) ?_
  exact zM_back_b92 Cx hR hret k16 hk16 x1 x2 x3 x4 x5 x6 x7 x8 x10 (0 : Int32) s h ls H locs (lv_sub hl [0, 1, 2, 3, 4, 5, 6, 7, 8, 9] rfl) hP hS
set_option maxRecDepth 100000 in
set_option maxHeartbeats 4000000 in
theorem zM_back_b62 {p : Program} {l : Launch} {e : Env} {R : Room} {s0 : State} {m : MethodId} {args : Array Value} {below : List Frame} {meth : Method} {c : Code} {Q : State → Prop} {A : Nat → Prop} {D : va_G} {X : Nat → Nat} {cI cZ cJ : ClassId} {rv : Unit} {rs : mb_S}
    (Cx : mb_C p s0 m args meth c c_M_back 14 lw_w cnM (fun _ _ => True) vwCl D [(cI, .int), (cZ, .boolean), (cJ, .long)] A (WM X cI cZ cJ)) (hR : 2 ≤ R.frames ∧ 52 ≤ R.locals)
    (hret : mb_R p l e R s0 m args below meth c Q vwCl D A (WM X cI cZ cJ) c_M_back .return_ [] rs) (k16 : Int32 → Int32 → Int32 → Int32 → Int32 → Int32 → Int32 → mb_S → Option (Unit × mb_S)) (hk16 : ∀ (x1 : Int32) (x2 : Int32) (x3 : Int32) (x4 : Int32) (x5 : Int32) (x6 : Int32) (x7 : Int32) (s : mb_S), k16 x1 x2 x3 x4 x5 x6 x7 s = some (rv, rs) → mb_B p l e R s0 m args below meth c Q vwCl D A (WM X cI cZ cJ) 14 [(0, .ref (X 0)), (1, .int x1), (2, .int x2), (3, .int x3), (4, .int x4), (5, .int x5), (6, .int x6), (7, .int x7)] [] 16 s) (x1 : Int32) (x2 : Int32) (x3 : Int32) (x4 : Int32) (x5 : Int32) (x6 : Int32) (x7 : Int32) (x8 : Int64) (y0 : Int32) (s : mb_S)
    (h : mM_back_b62 k16 x1 x2 x3 x4 x5 x6 x7 x8 y0 s = some (rv, rs)) : mb_B p l e R s0 m args below meth c Q vwCl D A (WM X cI cZ cJ) 14 [(0, .ref (X 0)), (1, .int x1), (2, .int x2), (3, .int x3), (4, .int x4), (5, .int x5), (6, .int x6), (7, .int x7), (8, .long x8)] [.int y0] 62 s := by
  unfold mM_back_b62 at h
  intro ls H locs hl hP hS
  have Cx0 := Cx
  obtain ⟨⟨hx, hb, hml, hown, hts⟩, hK, hD, hA, hZ⟩ := Cx0
  refine lv_istore (lv' := [(10, .int y0), (0, .ref (X 0)), (1, .int x1), (2, .int x2), (3, .int x3), (4, .int x4), (5, .int x5), (6, .int x6), (7, .int x7), (8, .long x8)]) hx hb d_M_back_62 hl (by decide) rfl (fun ls hl => ?_)
  refine lv_iload hx hb d_M_back_64 (lv_at hl 0 rfl) ?_
  refine lv_if_ne hx hb d_M_back_66 rfl (fun hc => ?_) (fun hc => ?_)
  · have h := mb_f hc h
    exact zM_back_b91 Cx hR hret k16 hk16 x1 x2 x3 x4 x5 x6 x7 x8 y0 s h ls H locs (lv_sub hl [1, 2, 3, 4, 5, 6, 7, 8, 9, 0] rfl) hP hS
  · have h := mb_t hc h
    refine lv_aload_n hx hb d_M_back_69 rfl (lv_at hl 1 rfl) ?_
    refine va_get (ci := 5) (C := cnM) (T := fTM) (N := 30) hx hb hts uwM hown hK hP 0 rfl rfl 1 (by decide) (hts _ wd_526) (fun _ h9 => h9) rfl d_M_back_70 ?_
    refine lv_bipush (v := (12 : Int32)) hx hb d_M_back_73 (by decide) ?_
    refine lv_iload hx hb d_M_back_75 (lv_at hl 5 rfl) ?_
    refine lv_imul hx hb d_M_back_77 ?_
    refine lv_iload hx hb d_M_back_78 (lv_at hl 8 rfl) ?_
    refine lv_iadd hx hb d_M_back_80 ?_
    refine mb_iald hx hb hK hP 2 0 rfl rfl h d_M_back_81 (fun v6 h => ?_)
    refine lv_bipush (v := (10 : Int32)) hx hb d_M_back_82 (by decide) ?_
    refine lv_icmp_ne hx hb d_M_back_84 rfl (fun hc => ?_) (fun hc => ?_)
    · have h := mb_f hc h
      exact zM_back_b91 Cx hR hret k16 hk16 x1 x2 x3 x4 x5 x6 x7 x8 y0 s h ls H locs (lv_sub hl [1, 2, 3, 4, 5, 6, 7, 8, 9, 0] rfl) hP hS
    · have h := mb_t hc h
      refine lv_iconst (v := (1 : Int32)) hx hb d_M_back_87 (by decide) ?_
      refine lv_goto hx hb d_M_back_88 rfl ?_
      exact zM_back_b92 Cx hR hret k16 hk16 x1 x2 x3 x4 x5 x6 x7 x8 y0 (1 : Int32) s h ls H locs (lv_sub hl [1, 2, 3, 4, 5, 6, 7, 8, 9, 0] rfl) hP hS
set_option maxRecDepth 100000 in
set_option maxHeartbeats 4000000 in
theorem zM_back_l16 {p : Program} {l : Launch} {e : Env} {R : Room} {s0 : State} {m : MethodId} {args : Array Value} {below : List Frame} {meth : Method} {c : Code} {Q : State → Prop} {A : Nat → Prop} {D : va_G} {X : Nat → Nat} {cI cZ cJ : ClassId} {rv : Unit} {rs : mb_S}
    (Cx : mb_C p s0 m args meth c c_M_back 14 lw_w cnM (fun _ _ => True) vwCl D [(cI, .int), (cZ, .boolean), (cJ, .long)] A (WM X cI cZ cJ)) (hR : 2 ≤ R.frames ∧ 52 ≤ R.locals)
    (hret : mb_R p l e R s0 m args below meth c Q vwCl D A (WM X cI cZ cJ) c_M_back .return_ [] rs)  :
    ∀ (n : Nat) (x1 : Int32) (x2 : Int32) (x3 : Int32) (x4 : Int32) (x5 : Int32) (x6 : Int32) (x7 : Int32) (s : mb_S), mM_back_l16  n x1 x2 x3 x4 x5 x6 x7 s = some (rv, rs) → mb_B p l e R s0 m args below meth c Q vwCl D A (WM X cI cZ cJ) 14 [(0, .ref (X 0)), (1, .int x1), (2, .int x2), (3, .int x3), (4, .int x4), (5, .int x5), (6, .int x6), (7, .int x7)] [] 16 s := by
  intro n
  induction n with
  | zero => intro x1 x2 x3 x4 x5 x6 x7 s h; cases h
  | succ n ih =>
    intro x1 x2 x3 x4 x5 x6 x7 s h
    rw [mM_back_l16_s] at h
    intro ls H locs hl hP hS
    have Cx0 := Cx
    obtain ⟨⟨hx, hb, hml, hown, hts⟩, hK, hD, hA, hZ⟩ := Cx0
    refine lv_iload hx hb d_M_back_16 (lv_at hl 7 rfl) ?_
    refine lv_aload_n hx hb d_M_back_18 rfl (lv_at hl 0 rfl) ?_
    refine va_get (ci := 5) (C := cnM) (T := fTM) (N := 30) hx hb hts uwM hown hK hP 0 rfl rfl 0 (by decide) (hts _ wd_525) (fun _ h9 => h9) rfl d_M_back_19 ?_
    refine lv_iload hx hb d_M_back_22 (lv_at hl 4 rfl) ?_
    refine mb_iald hx hb hK hP 1 0 rfl rfl h d_M_back_24 (fun v7 h => ?_)
    refine lv_icmp_gt hx hb d_M_back_25 rfl (fun hc => ?_) (fun hc => ?_)
    · have h := mb_t hc h
      exact mb_eV hret h d_M_back_197 hP hS
    · have h := mb_f hc h
      refine lv_aload_n hx hb d_M_back_28 rfl (lv_at hl 0 rfl) ?_
      refine va_get (ci := 5) (C := cnM) (T := fTM) (N := 30) hx hb hts uwM hown hK hP 0 rfl rfl 13 (by decide) (hts _ wd_538) (fun _ h9 => h9) rfl d_M_back_29 ?_
      refine lv_aload_n hx hb d_M_back_32 rfl (lv_at hl 0 rfl) ?_
      refine lv_iload hx hb d_M_back_33 (lv_at hl 4 rfl) ?_
      refine lv_iload hx hb d_M_back_35 (lv_at hl 7 rfl) ?_
      refine lv_iload hx hb d_M_back_37 (lv_at hl 5 rfl) ?_
      obtain ⟨v8, s9, hs9, h⟩ := mb_cal_ex h
      refine mb_goI Cx (mb_runV (As := [.int x4, .int x7, .int x5]) (rest := [.ref (X 12)]) mb_Z0ok Cx (w_M_cellOf l D X cI cZ cJ hs9 H.size) (mb_cwV 3 hts wd_711 wd_713 sel_53 wd_7 wd_714 rfl rfl rfl (by decide +kernel) ⟨Nat.le_trans (by decide) hR.1, Nat.le_trans (by decide) hR.2⟩) hP hS 0 rfl rfl rfl hl.1 rfl (Nat.le_of_ble_eq_true rfl) d_M_back_39) hS (fun H locs hP hS => ?_)
      refine mb_lald hx hb hK hP 12 2 rfl rfl h d_M_back_42 (fun v10 h => ?_)
      refine lv_lstore (lv' := [(8, .long v10), (0, .ref (X 0)), (1, .int x1), (2, .int x2), (3, .int x3), (4, .int x4), (5, .int x5), (6, .int x6), (7, .int x7)]) hx hb d_M_back_43 hl (by decide) rfl (fun ls hl => ?_)
      refine lv_iload hx hb d_M_back_45 (lv_at hl 8 rfl) ?_
      refine lv_aload_n hx hb d_M_back_47 rfl (lv_at hl 1 rfl) ?_
      refine va_get (ci := 5) (C := cnM) (T := fTM) (N := 30) hx hb hts uwM hown hK hP 0 rfl rfl 0 (by decide) (hts _ wd_525) (fun _ h9 => h9) rfl d_M_back_48 ?_
      refine lv_iload hx hb d_M_back_51 (lv_at hl 5 rfl) ?_
      refine mb_iald hx hb hK hP 1 0 rfl rfl h d_M_back_53 (fun v11 h => ?_)
      refine lv_icmp_ne hx hb d_M_back_54 rfl (fun hc => ?_) (fun hc => ?_)
      · have h := mb_f hc h
        refine lv_iconst (v := (0 : Int32)) hx hb d_M_back_61 (by decide) ?_
        exact zM_back_b62 Cx hR hret (mM_back_l16  n) ih x1 x2 x3 x4 x5 x6 x7 v10 (0 : Int32) s9 h ls H locs (lv_sub hl [1, 2, 3, 4, 5, 6, 7, 8, 0] rfl) hP hS
      · have h := mb_t hc h
        refine lv_iconst (v := (1 : Int32)) hx hb d_M_back_57 (by decide) ?_
        refine lv_goto hx hb d_M_back_58 rfl ?_
        exact zM_back_b62 Cx hR hret (mM_back_l16  n) ih x1 x2 x3 x4 x5 x6 x7 v10 (1 : Int32) s9 h ls H locs (lv_sub hl [1, 2, 3, 4, 5, 6, 7, 8, 0] rfl) hP hS
set_option maxRecDepth 100000 in
set_option maxHeartbeats 4000000 in
theorem w_M_back (l : Launch) (D : va_G) (X : Nat → Nat) (cI cZ cJ : ClassId) {x1 : Int32} {x2 : Int32} {x3 : Int32} {x4 : Int32} {x5 : Int32} {s : mb_S} {rv : Unit} {rs : mb_S}
    (h : mM_back x1 x2 x3 x4 x5 s = some (rv, rs)) : mb_MV l y_M_back ws_M_back rm_M_back (fun _ _ => True) vwCl D [(cI, .int), (cZ, .boolean), (cJ, .long)] (WM X cI cZ cJ) [.ref (X 0), .int x1, .int x2, .int x3, .int x4, .int x5] s rs := by
  refine mb_ofV mb_Z0ok (by decide) rfl (Nat.le_of_ble_eq_true rfl) mb_DMok ?_
  intro p e s0 m args below meth c Q A Cx hret
  have hR : 2 ≤ (rm_M_back).frames ∧ 52 ≤ (rm_M_back).locals := ⟨Nat.le_refl _, Nat.le_refl _⟩
  intro ls H locs hl hP hS
  have Cx0 := Cx
  obtain ⟨⟨hx, hb, hml, hown, hts⟩, hK, hD, hA, hZ⟩ := Cx0
  have hl : lv_has ls 14 [(0, .ref (X 0)), (1, .int x1), (2, .int x2), (3, .int x3), (4, .int x4), (5, .int x5)] := hl
  unfold mM_back at h
  refine lv_aload_n hx hb d_M_back_0 rfl (lv_at hl 0 rfl) ?_
  refine va_get (ci := 5) (C := cnM) (T := fTM) (N := 30) hx hb hts uwM hown hK hP 0 rfl rfl 2 (by decide) (hts _ wd_527) (fun _ h9 => h9) rfl d_M_back_1 ?_
  refine lv_bipush (v := (12 : Int32)) hx hb d_M_back_4 (by decide) ?_
  refine lv_iload_n hx hb d_M_back_6 rfl (lv_at hl 1 rfl) ?_
  refine lv_imul hx hb d_M_back_7 ?_
  refine lv_iload_n hx hb d_M_back_8 rfl (lv_at hl 2 rfl) ?_
  refine lv_iadd hx hb d_M_back_9 ?_
  refine mb_iald hx hb hK hP 3 0 rfl rfl h d_M_back_10 (fun v12 h => ?_)
  refine lv_istore (lv' := [(6, .int v12), (0, .ref (X 0)), (1, .int x1), (2, .int x2), (3, .int x3), (4, .int x4), (5, .int x5)]) hx hb d_M_back_11 hl (by decide) rfl (fun ls hl => ?_)
  refine lv_iconst (v := (0 : Int32)) hx hb d_M_back_13 (by decide) ?_
  refine lv_istore (lv' := [(7, .int (0 : Int32)), (6, .int v12), (0, .ref (X 0)), (1, .int x1), (2, .int x2), (3, .int x3), (4, .int x4), (5, .int x5)]) hx hb d_M_back_14 hl (by decide) rfl (fun ls hl => ?_)
  exact zM_back_l16 Cx hR hret  mb_fuel x1 x2 x3 x4 x5 v12 (0 : Int32) s h ls H locs (lv_sub hl [2, 3, 4, 5, 6, 7, 1, 0] rfl) hP hS
