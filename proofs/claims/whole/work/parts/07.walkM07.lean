set_option maxRecDepth 100000 in
set_option maxHeartbeats 4000000 in
theorem zM_run_b214 {p : Program} {l : Launch} {e : Env} {R : Room} {s0 : State} {m : MethodId} {args : Array Value} {below : List Frame} {meth : Method} {c : Code} {Q : State → Prop} {A : Nat → Prop} {D : va_G} {X : Nat → Nat} {cI cZ cJ : ClassId} {rv : Int32} {rs : mb_S}
    (Cx : mb_C p s0 m args meth c c_M_run 6 lw_w cnM (fun _ _ => True) vwCl D [(cI, .int), (cZ, .boolean), (cJ, .long)] A (WM X cI cZ cJ)) (hR : 3 ≤ R.frames ∧ 83 ≤ R.locals)
    (hret : mb_R p l e R s0 m args below meth c Q vwCl D A (WM X cI cZ cJ) c_M_run .ireturn [.int rv] rs)   (s : mb_S)
    (h : mM_run_b214  s = some (rv, rs)) : mb_B p l e R s0 m args below meth c Q vwCl D A (WM X cI cZ cJ) 6 [(0, .ref (X 0))] [] 214 s := by
  unfold mM_run_b214 at h
  intro ls H locs hl hP hS
  have Cx0 := Cx
  obtain ⟨⟨hx, hb, hml, hown, hts⟩, hK, hD, hA, hZ⟩ := Cx0
  refine lv_aload_n hx hb d_M_run_214 rfl (lv_at hl 0 rfl) ?_
  refine va_get (ci := 5) (C := cnM) (T := fTM) (N := 30) hx hb hts uwM hown hK hP 0 rfl rfl 20 (by decide) (hts _ wd_545) (fun _ h9 => h9) rfl d_M_run_215 ?_
  exact mb_eI hret h d_M_run_218 hP hS
set_option maxRecDepth 100000 in
set_option maxHeartbeats 4000000 in
theorem zM_run_b208 {p : Program} {l : Launch} {e : Env} {R : Room} {s0 : State} {m : MethodId} {args : Array Value} {below : List Frame} {meth : Method} {c : Code} {Q : State → Prop} {A : Nat → Prop} {D : va_G} {X : Nat → Nat} {cI cZ cJ : ClassId} {rv : Int32} {rs : mb_S}
    (Cx : mb_C p s0 m args meth c c_M_run 6 lw_w cnM (fun _ _ => True) vwCl D [(cI, .int), (cZ, .boolean), (cJ, .long)] A (WM X cI cZ cJ)) (hR : 3 ≤ R.frames ∧ 83 ≤ R.locals)
    (hret : mb_R p l e R s0 m args below meth c Q vwCl D A (WM X cI cZ cJ) c_M_run .ireturn [.int rv] rs) (k82 : Int32 → Int32 → Int32 → mb_S → Option (Int32 × mb_S)) (hk82 : ∀ (x1 : Int32) (x3 : Int32) (x4 : Int32) (s : mb_S), k82 x1 x3 x4 s = some (rv, rs) → mb_B p l e R s0 m args below meth c Q vwCl D A (WM X cI cZ cJ) 6 [(0, .ref (X 0)), (1, .int x1), (3, .int x3), (4, .int x4)] [] 82 s) (x1 : Int32) (x3 : Int32) (x4 : Int32) (s : mb_S)
    (h : mM_run_b208 k82 x1 x3 x4 s = some (rv, rs)) : mb_B p l e R s0 m args below meth c Q vwCl D A (WM X cI cZ cJ) 6 [(0, .ref (X 0)), (1, .int x1), (3, .int x3), (4, .int x4)] [] 208 s := by
  unfold mM_run_b208 at h
  intro ls H locs hl hP hS
  have Cx0 := Cx
  obtain ⟨⟨hx, hb, hml, hown, hts⟩, hK, hD, hA, hZ⟩ := Cx0
  obtain ⟨v1, ev1, h⟩ := mb_ex h
  refine lv_iinc (k := 3) (v := v1) (lv' := [(4, .int v1), (0, .ref (X 0)), (1, .int x1), (3, .int x3)]) hx hb d_M_run_208 hl rfl ev1 (by decide) rfl (fun ls hl => ?_)
  refine lv_goto hx hb d_M_run_211 rfl ?_
  exact hk82 x1 x3 v1 s h ls H locs (lv_sub hl [1, 2, 3, 0] rfl) hP hS
set_option maxRecDepth 100000 in
set_option maxHeartbeats 4000000 in
theorem zM_run_b183 {p : Program} {l : Launch} {e : Env} {R : Room} {s0 : State} {m : MethodId} {args : Array Value} {below : List Frame} {meth : Method} {c : Code} {Q : State → Prop} {A : Nat → Prop} {D : va_G} {X : Nat → Nat} {cI cZ cJ : ClassId} {rv : Int32} {rs : mb_S}
    (Cx : mb_C p s0 m args meth c c_M_run 6 lw_w cnM (fun _ _ => True) vwCl D [(cI, .int), (cZ, .boolean), (cJ, .long)] A (WM X cI cZ cJ)) (hR : 3 ≤ R.frames ∧ 83 ≤ R.locals)
    (hret : mb_R p l e R s0 m args below meth c Q vwCl D A (WM X cI cZ cJ) c_M_run .ireturn [.int rv] rs) (k82 : Int32 → Int32 → Int32 → mb_S → Option (Int32 × mb_S)) (hk82 : ∀ (x1 : Int32) (x3 : Int32) (x4 : Int32) (s : mb_S), k82 x1 x3 x4 s = some (rv, rs) → mb_B p l e R s0 m args below meth c Q vwCl D A (WM X cI cZ cJ) 6 [(0, .ref (X 0)), (1, .int x1), (3, .int x3), (4, .int x4)] [] 82 s) (x1 : Int32) (x3 : Int32) (x4 : Int32) (y0 : Int32) (s : mb_S)
    (h : mM_run_b183 k82 x1 x3 x4 y0 s = some (rv, rs)) : mb_B p l e R s0 m args below meth c Q vwCl D A (WM X cI cZ cJ) 6 [(0, .ref (X 0)), (1, .int x1), (3, .int x3), (4, .int x4)] [.int y0, .ref (X 0)] 183 s := by
  unfold mM_run_b183 at h
  intro ls H locs hl hP hS
  have Cx0 := Cx
  obtain ⟨⟨hx, hb, hml, hown, hts⟩, hK, hD, hA, hZ⟩ := Cx0
  have h := mb_putF_ex h
  refine va_put (ci := 5) (v := .int y0) (ty := .int) (C := cnM) (T := fTM) (N := 30) hx hb hts uwM fyM fyM_ok fnM hown hK hP (hD _) hS 0 rfl rfl 17 (by decide) (hts _ wd_542) (fun _ h9 => h9) rfl (by decide +kernel) rfl rfl (Nat.le_of_ble_eq_true rfl) d_M_run_183 (fun H locs hP _ hS => ?_)
  have hP : va_P D vwCl (WM X cI cZ cJ (mb_setF s 2 y0)) H := hP
  generalize mb_setF s 2 y0 = s2 at hP h
  refine lv_aload_n hx hb d_M_run_186 rfl (lv_at hl 0 rfl) ?_
  refine va_get (ci := 5) (C := cnM) (T := fTM) (N := 30) hx hb hts uwM hown hK hP 0 rfl rfl 17 (by decide) (hts _ wd_542) (fun _ h9 => h9) rfl d_M_run_187 ?_
  refine lv_if_ne hx hb d_M_run_190 rfl (fun hc => ?_) (fun hc => ?_)
  · have h := mb_f hc h
    exact zM_run_b208 Cx hR hret k82 hk82 x1 x3 x4 s2 h ls H locs (lv_sub hl [0, 1, 2, 3] rfl) hP hS
  · have h := mb_t hc h
    refine lv_aload_n hx hb d_M_run_193 rfl (lv_at hl 0 rfl) ?_
    refine lv_iload_n hx hb d_M_run_194 rfl (lv_at hl 1 rfl) ?_
    obtain ⟨_u, s3, hs3, h⟩ := mb_cal_ex h
    refine mb_goV Cx (mb_runV (As := [.int x1]) (rest := []) mb_Z0ok Cx (w_M_step l D X cI cZ cJ hs3 H.size) (mb_cwV 1 hts wd_788 wd_790 sel_64 wd_7 wd_791 rfl rfl rfl (by decide +kernel) ⟨Nat.le_trans (by decide) hR.1, Nat.le_trans (by decide) hR.2⟩) hP hS 0 rfl rfl rfl hl.1 rfl (Nat.le_of_ble_eq_true rfl) d_M_run_195) hS (fun H locs hP hS => ?_)
    refine lv_aload_n hx hb d_M_run_198 rfl (lv_at hl 0 rfl) ?_
    refine lv_dup hx hb d_M_run_199 rfl ?_
    refine va_get (ci := 5) (C := cnM) (T := fTM) (N := 30) hx hb hts uwM hown hK hP 0 rfl rfl 20 (by decide) (hts _ wd_545) (fun _ h9 => h9) rfl d_M_run_200 ?_
    refine lv_iconst (v := (1 : Int32)) hx hb d_M_run_203 (by decide) ?_
    refine lv_iadd hx hb d_M_run_204 ?_
    have h := mb_putF_ex h
    refine va_put (ci := 5) (v := .int ((mb_F s3 4) + (1 : Int32))) (ty := .int) (C := cnM) (T := fTM) (N := 30) hx hb hts uwM fyM fyM_ok fnM hown hK hP (hD _) hS 0 rfl rfl 20 (by decide) (hts _ wd_545) (fun _ h9 => h9) rfl (by decide +kernel) rfl rfl (Nat.le_of_ble_eq_true rfl) d_M_run_205 (fun H locs hP _ hS => ?_)
    have hP : va_P D vwCl (WM X cI cZ cJ (mb_setF s3 4 ((mb_F s3 4) + (1 : Int32)))) H := hP
    generalize mb_setF s3 4 ((mb_F s3 4) + (1 : Int32)) = s4 at hP h
    exact zM_run_b208 Cx hR hret k82 hk82 x1 x3 x4 s4 h ls H locs (lv_sub hl [0, 1, 2, 3] rfl) hP hS
set_option maxRecDepth 100000 in
set_option maxHeartbeats 4000000 in
theorem zM_run_b149 {p : Program} {l : Launch} {e : Env} {R : Room} {s0 : State} {m : MethodId} {args : Array Value} {below : List Frame} {meth : Method} {c : Code} {Q : State → Prop} {A : Nat → Prop} {D : va_G} {X : Nat → Nat} {cI cZ cJ : ClassId} {rv : Int32} {rs : mb_S}
    (Cx : mb_C p s0 m args meth c c_M_run 6 lw_w cnM (fun _ _ => True) vwCl D [(cI, .int), (cZ, .boolean), (cJ, .long)] A (WM X cI cZ cJ)) (hR : 3 ≤ R.frames ∧ 83 ≤ R.locals)
    (hret : mb_R p l e R s0 m args below meth c Q vwCl D A (WM X cI cZ cJ) c_M_run .ireturn [.int rv] rs) (k82 : Int32 → Int32 → Int32 → mb_S → Option (Int32 × mb_S)) (hk82 : ∀ (x1 : Int32) (x3 : Int32) (x4 : Int32) (s : mb_S), k82 x1 x3 x4 s = some (rv, rs) → mb_B p l e R s0 m args below meth c Q vwCl D A (WM X cI cZ cJ) 6 [(0, .ref (X 0)), (1, .int x1), (3, .int x3), (4, .int x4)] [] 82 s) (k100 : Int32 → Int32 → Int32 → Int32 → mb_S → Option (Int32 × mb_S)) (hk100 : ∀ (x1 : Int32) (x3 : Int32) (x4 : Int32) (x5 : Int32) (s : mb_S), k100 x1 x3 x4 x5 s = some (rv, rs) → mb_B p l e R s0 m args below meth c Q vwCl D A (WM X cI cZ cJ) 6 [(0, .ref (X 0)), (1, .int x1), (3, .int x3), (4, .int x4), (5, .int x5)] [] 100 s) (x1 : Int32) (x3 : Int32) (x4 : Int32) (x5 : Int32) (s : mb_S)
    (h : mM_run_b149 k82 k100 x1 x3 x4 x5 s = some (rv, rs)) : mb_B p l e R s0 m args below meth c Q vwCl D A (WM X cI cZ cJ) 6 [(0, .ref (X 0)), (1, .int x1), (3, .int x3), (4, .int x4), (5, .int x5)] [] 149 s := by
  unfold mM_run_b149 at h
  intro ls H locs hl hP hS
  have Cx0 := Cx
  obtain ⟨⟨hx, hb, hml, hown, hts⟩, hK, hD, hA, hZ⟩ := Cx0
  obtain ⟨v5, ev5, h⟩ := mb_ex h
  refine lv_iinc (k := 4) (v := v5) (lv' := [(5, .int v5), (0, .ref (X 0)), (1, .int x1), (3, .int x3), (4, .int x4)]) hx hb d_M_run_149 hl rfl ev5 (by decide) rfl (fun ls hl => ?_)
  refine lv_goto hx hb d_M_run_152 rfl ?_
  exact hk100 x1 x3 x4 v5 s h ls H locs (lv_sub hl [1, 2, 3, 4, 0] rfl) hP hS
set_option maxRecDepth 100000 in
set_option maxHeartbeats 4000000 in
theorem zM_run_l100 {p : Program} {l : Launch} {e : Env} {R : Room} {s0 : State} {m : MethodId} {args : Array Value} {below : List Frame} {meth : Method} {c : Code} {Q : State → Prop} {A : Nat → Prop} {D : va_G} {X : Nat → Nat} {cI cZ cJ : ClassId} {rv : Int32} {rs : mb_S}
    (Cx : mb_C p s0 m args meth c c_M_run 6 lw_w cnM (fun _ _ => True) vwCl D [(cI, .int), (cZ, .boolean), (cJ, .long)] A (WM X cI cZ cJ)) (hR : 3 ≤ R.frames ∧ 83 ≤ R.locals)
    (hret : mb_R p l e R s0 m args below meth c Q vwCl D A (WM X cI cZ cJ) c_M_run .ireturn [.int rv] rs) (k82 : Int32 → Int32 → Int32 → mb_S → Option (Int32 × mb_S)) (hk82 : ∀ (x1 : Int32) (x3 : Int32) (x4 : Int32) (s : mb_S), k82 x1 x3 x4 s = some (rv, rs) → mb_B p l e R s0 m args below meth c Q vwCl D A (WM X cI cZ cJ) 6 [(0, .ref (X 0)), (1, .int x1), (3, .int x3), (4, .int x4)] [] 82 s) :
    ∀ (n : Nat) (x1 : Int32) (x3 : Int32) (x4 : Int32) (x5 : Int32) (s : mb_S), mM_run_l100 k82 n x1 x3 x4 x5 s = some (rv, rs) → mb_B p l e R s0 m args below meth c Q vwCl D A (WM X cI cZ cJ) 6 [(0, .ref (X 0)), (1, .int x1), (3, .int x3), (4, .int x4), (5, .int x5)] [] 100 s := by
  intro n
  induction n with
  | zero => intro x1 x3 x4 x5 s h; cases h
  | succ n ih =>
    intro x1 x3 x4 x5 s h
    rw [mM_run_l100_s] at h
    intro ls H locs hl hP hS
    have Cx0 := Cx
    obtain ⟨⟨hx, hb, hml, hown, hts⟩, hK, hD, hA, hZ⟩ := Cx0
    refine lv_iload hx hb d_M_run_100 (lv_at hl 4 rfl) ?_
    refine lv_bipush (v := (6 : Int32)) hx hb d_M_run_102 (by decide) ?_
    refine lv_icmp_ge hx hb d_M_run_104 rfl (fun hc => ?_) (fun hc => ?_)
    · have h := mb_t hc h
      refine lv_aload_n hx hb d_M_run_155 rfl (lv_at hl 0 rfl) ?_
      refine lv_aload_n hx hb d_M_run_156 rfl (lv_at hl 0 rfl) ?_
      refine va_get (ci := 5) (C := cnM) (T := fTM) (N := 30) hx hb hts uwM hown hK hP 0 rfl rfl 22 (by decide) (hts _ wd_547) (fun _ h9 => h9) rfl d_M_run_157 ?_
      refine lv_if_ne hx hb d_M_run_160 rfl (fun hc => ?_) (fun hc => ?_)
      · have h := mb_f hc h
        refine lv_aload_n hx hb d_M_run_167 rfl (lv_at hl 0 rfl) ?_
        refine va_get (ci := 5) (C := cnM) (T := fTM) (N := 30) hx hb hts uwM hown hK hP 0 rfl rfl 20 (by decide) (hts _ wd_545) (fun _ h9 => h9) rfl d_M_run_168 ?_
        refine lv_iload_n hx hb d_M_run_171 rfl (lv_at hl 2 rfl) ?_
        refine lv_icmp_ne hx hb d_M_run_172 rfl (fun hc => ?_) (fun hc => ?_)
        · have h := mb_f hc h
          refine lv_aload_n hx hb d_M_run_179 rfl (lv_at hl 0 rfl) ?_
          obtain ⟨v6, s7, hs7, h⟩ := mb_cal_ex h
          refine mb_goI Cx (mb_runV (As := []) (rest := [.ref (X 0)]) mb_Z0ok Cx (w_M_hindrance l D X cI cZ cJ hs7 H.size) (mb_cwV 0 hts wd_784 wd_786 sel_63 wd_7 wd_787 rfl rfl rfl (by decide +kernel) ⟨Nat.le_trans (by decide) hR.1, Nat.le_trans (by decide) hR.2⟩) hP hS 0 rfl rfl rfl hl.1 rfl (Nat.le_of_ble_eq_true rfl) d_M_run_180) hS (fun H locs hP hS => ?_)
          exact zM_run_b183 Cx hR hret k82 hk82 x1 x3 x4 v6 s7 h ls H locs (lv_sub hl [0, 1, 2, 3] rfl) hP hS
        · have h := mb_t hc h
          refine lv_iconst (v := (2 : Int32)) hx hb d_M_run_175 (by decide) ?_
          refine lv_goto hx hb d_M_run_176 rfl ?_
          exact zM_run_b183 Cx hR hret k82 hk82 x1 x3 x4 (2 : Int32) s h ls H locs (lv_sub hl [0, 1, 2, 3] rfl) hP hS
      · have h := mb_t hc h
        refine lv_iconst (v := (1 : Int32)) hx hb d_M_run_163 (by decide) ?_
        refine lv_goto hx hb d_M_run_164 rfl ?_
        exact zM_run_b183 Cx hR hret k82 hk82 x1 x3 x4 (1 : Int32) s h ls H locs (lv_sub hl [0, 1, 2, 3] rfl) hP hS
    · have h := mb_f hc h
      refine lv_aload_n hx hb d_M_run_107 rfl (lv_at hl 0 rfl) ?_
      refine va_get (ci := 5) (C := cnM) (T := fTM) (N := 30) hx hb hts uwM hown hK hP 0 rfl rfl 22 (by decide) (hts _ wd_547) (fun _ h9 => h9) rfl d_M_run_108 ?_
      refine lv_if_le hx hb d_M_run_111 rfl (fun hc => ?_) (fun hc => ?_)
      · have h := mb_t hc h
        exact zM_run_b149 Cx hR hret k82 hk82 (mM_run_l100 k82 n) ih x1 x3 x4 x5 s h ls H locs (lv_sub hl [0, 1, 2, 3, 4] rfl) hP hS
      · have h := mb_f hc h
        refine lv_aload_n hx hb d_M_run_114 rfl (lv_at hl 0 rfl) ?_
        refine va_get (ci := 5) (C := cnM) (T := fTM) (N := 30) hx hb hts uwM hown hK hP 0 rfl rfl 24 (by decide) (hts _ wd_549) (fun _ h9 => h9) rfl d_M_run_115 ?_
        refine lv_aload_n hx hb d_M_run_118 rfl (lv_at hl 0 rfl) ?_
        refine va_get (ci := 5) (C := cnM) (T := fTM) (N := 30) hx hb hts uwM hown hK hP 0 rfl rfl 22 (by decide) (hts _ wd_547) (fun _ h9 => h9) rfl d_M_run_119 ?_
        refine lv_iconst (v := (1 : Int32)) hx hb d_M_run_122 (by decide) ?_
        refine lv_isub hx hb d_M_run_123 ?_
        refine mb_iald hx hb hK hP 18 0 rfl rfl h d_M_run_124 (fun v8 h => ?_)
        refine lv_aload_n hx hb d_M_run_125 rfl (lv_at hl 0 rfl) ?_
        refine va_get (ci := 5) (C := cnM) (T := fTM) (N := 30) hx hb hts uwM hown hK hP 0 rfl rfl 0 (by decide) (hts _ wd_525) (fun _ h9 => h9) rfl d_M_run_126 ?_
        refine lv_aload_n hx hb d_M_run_129 rfl (lv_at hl 0 rfl) ?_
        refine va_get (ci := 5) (C := cnM) (T := fTM) (N := 30) hx hb hts uwM hown hK hP 0 rfl rfl 23 (by decide) (hts _ wd_548) (fun _ h9 => h9) rfl d_M_run_130 ?_
        refine lv_aload_n hx hb d_M_run_133 rfl (lv_at hl 0 rfl) ?_
        refine va_get (ci := 5) (C := cnM) (T := fTM) (N := 30) hx hb hts uwM hown hK hP 0 rfl rfl 22 (by decide) (hts _ wd_547) (fun _ h9 => h9) rfl d_M_run_134 ?_
        refine lv_iconst (v := (1 : Int32)) hx hb d_M_run_137 (by decide) ?_
        refine lv_isub hx hb d_M_run_138 ?_
        refine mb_iald hx hb hK hP 17 0 rfl rfl h d_M_run_139 (fun v9 h => ?_)
        refine mb_iald hx hb hK hP 1 0 rfl rfl h d_M_run_140 (fun v10 h => ?_)
        refine lv_icmp_ne hx hb d_M_run_141 rfl (fun hc => ?_) (fun hc => ?_)
        · have h := mb_f hc h
          exact zM_run_b149 Cx hR hret k82 hk82 (mM_run_l100 k82 n) ih x1 x3 x4 x5 s h ls H locs (lv_sub hl [0, 1, 2, 3, 4] rfl) hP hS
        · have h := mb_t hc h
          refine lv_aload_n hx hb d_M_run_144 rfl (lv_at hl 0 rfl) ?_
          refine lv_iconst (v := (-1 : Int32)) hx hb d_M_run_145 (by decide) ?_
          obtain ⟨_u, s11, hs11, h⟩ := mb_cal_ex h
          refine mb_goV Cx (mb_runV (As := [.int (-1 : Int32)]) (rest := []) mb_Z0ok Cx (w_M_leave l D X cI cZ cJ hs11 H.size) (mb_cwV 1 hts wd_780 wd_782 sel_62 wd_7 wd_783 rfl rfl rfl (by decide +kernel) ⟨Nat.le_trans (by decide) hR.1, Nat.le_trans (by decide) hR.2⟩) hP hS 0 rfl rfl rfl hl.1 rfl (Nat.le_of_ble_eq_true rfl) d_M_run_146) hS (fun H locs hP hS => ?_)
          exact zM_run_b149 Cx hR hret k82 hk82 (mM_run_l100 k82 n) ih x1 x3 x4 x5 s11 h ls H locs (lv_sub hl [0, 1, 2, 3, 4] rfl) hP hS
set_option maxRecDepth 100000 in
set_option maxHeartbeats 4000000 in
theorem zM_run_l82 {p : Program} {l : Launch} {e : Env} {R : Room} {s0 : State} {m : MethodId} {args : Array Value} {below : List Frame} {meth : Method} {c : Code} {Q : State → Prop} {A : Nat → Prop} {D : va_G} {X : Nat → Nat} {cI cZ cJ : ClassId} {rv : Int32} {rs : mb_S}
    (Cx : mb_C p s0 m args meth c c_M_run 6 lw_w cnM (fun _ _ => True) vwCl D [(cI, .int), (cZ, .boolean), (cJ, .long)] A (WM X cI cZ cJ)) (hR : 3 ≤ R.frames ∧ 83 ≤ R.locals)
    (hret : mb_R p l e R s0 m args below meth c Q vwCl D A (WM X cI cZ cJ) c_M_run .ireturn [.int rv] rs)  :
    ∀ (n : Nat) (x1 : Int32) (x3 : Int32) (x4 : Int32) (s : mb_S), mM_run_l82  n x1 x3 x4 s = some (rv, rs) → mb_B p l e R s0 m args below meth c Q vwCl D A (WM X cI cZ cJ) 6 [(0, .ref (X 0)), (1, .int x1), (3, .int x3), (4, .int x4)] [] 82 s := by
  intro n
  induction n with
  | zero => intro x1 x3 x4 s h; cases h
  | succ n ih =>
    intro x1 x3 x4 s h
    rw [mM_run_l82_s] at h
    intro ls H locs hl hP hS
    have Cx0 := Cx
    obtain ⟨⟨hx, hb, hml, hown, hts⟩, hK, hD, hA, hZ⟩ := Cx0
    refine lv_iload hx hb d_M_run_82 (lv_at hl 3 rfl) ?_
    refine lv_sipush (v := (200 : Int32)) hx hb d_M_run_84 (by decide) ?_
    refine lv_icmp_gt hx hb d_M_run_87 rfl (fun hc => ?_) (fun hc => ?_)
    · have h := mb_t hc h
      exact zM_run_b214 Cx hR hret  s h ls H locs (lv_sub hl [0] rfl) hP hS
    · have h := mb_f hc h
      refine lv_aload_n hx hb d_M_run_90 rfl (lv_at hl 0 rfl) ?_
      refine va_get (ci := 5) (C := cnM) (T := fTM) (N := 30) hx hb hts uwM hown hK hP 0 rfl rfl 17 (by decide) (hts _ wd_542) (fun _ h9 => h9) rfl d_M_run_91 ?_
      refine lv_if_ne hx hb d_M_run_94 rfl (fun hc => ?_) (fun hc => ?_)
      · have h := mb_f hc h
        exact zM_run_b214 Cx hR hret  s h ls H locs (lv_sub hl [0] rfl) hP hS
      · have h := mb_t hc h
        refine lv_iconst (v := (0 : Int32)) hx hb d_M_run_97 (by decide) ?_
        refine lv_istore (lv' := [(5, .int (0 : Int32)), (0, .ref (X 0)), (1, .int x1), (3, .int x3), (4, .int x4)]) hx hb d_M_run_98 hl (by decide) rfl (fun ls hl => ?_)
        exact zM_run_l100 Cx hR hret (mM_run_l82  n) ih mb_fuel x1 x3 x4 (0 : Int32) s h ls H locs (lv_sub hl [1, 2, 3, 4, 0] rfl) hP hS
set_option maxRecDepth 100000 in
set_option maxHeartbeats 4000000 in
theorem zM_run_l51 {p : Program} {l : Launch} {e : Env} {R : Room} {s0 : State} {m : MethodId} {args : Array Value} {below : List Frame} {meth : Method} {c : Code} {Q : State → Prop} {A : Nat → Prop} {D : va_G} {X : Nat → Nat} {cI cZ cJ : ClassId} {rv : Int32} {rs : mb_S}
    (Cx : mb_C p s0 m args meth c c_M_run 6 lw_w cnM (fun _ _ => True) vwCl D [(cI, .int), (cZ, .boolean), (cJ, .long)] A (WM X cI cZ cJ)) (hR : 3 ≤ R.frames ∧ 83 ≤ R.locals)
    (hret : mb_R p l e R s0 m args below meth c Q vwCl D A (WM X cI cZ cJ) c_M_run .ireturn [.int rv] rs)  :
    ∀ (n : Nat) (x1 : Int32) (x3 : Int32) (x4 : Int32) (s : mb_S), mM_run_l51  n x1 x3 x4 s = some (rv, rs) → mb_B p l e R s0 m args below meth c Q vwCl D A (WM X cI cZ cJ) 6 [(0, .ref (X 0)), (1, .int x1), (3, .int x3), (4, .int x4)] [] 51 s := by
  intro n
  induction n with
  | zero => intro x1 x3 x4 s h; cases h
  | succ n ih =>
    intro x1 x3 x4 s h
    rw [mM_run_l51_s] at h
    intro ls H locs hl hP hS
    have Cx0 := Cx
    obtain ⟨⟨hx, hb, hml, hown, hts⟩, hK, hD, hA, hZ⟩ := Cx0
    refine lv_iload hx hb d_M_run_51 (lv_at hl 3 rfl) ?_
    refine lv_bipush (v := (16 : Int32)) hx hb d_M_run_53 (by decide) ?_
    refine lv_icmp_ge hx hb d_M_run_55 rfl (fun hc => ?_) (fun hc => ?_)
    · have h := mb_t hc h
      refine lv_aload_n hx hb d_M_run_72 rfl (lv_at hl 0 rfl) ?_
      refine lv_iconst (v := (0 : Int32)) hx hb d_M_run_73 (by decide) ?_
      refine lv_iconst (v := (-1 : Int32)) hx hb d_M_run_74 (by decide) ?_
      refine lv_iconst (v := (-1 : Int32)) hx hb d_M_run_75 (by decide) ?_
      obtain ⟨_u, s12, hs12, h⟩ := mb_cal_ex h
      refine mb_goV Cx (mb_runV (As := [.int (0 : Int32), .int (-1 : Int32), .int (-1 : Int32)]) (rest := []) mb_Z0ok Cx (w_M_enter l D X cI cZ cJ hs12 H.size) (mb_cwV 3 hts wd_772 wd_774 sel_60 wd_7 wd_775 rfl rfl rfl (by decide +kernel) ⟨Nat.le_trans (by decide) hR.1, Nat.le_trans (by decide) hR.2⟩) hP hS 0 rfl rfl rfl hl.1 rfl (Nat.le_of_ble_eq_true rfl) d_M_run_76) hS (fun H locs hP hS => ?_)
      refine lv_iconst (v := (0 : Int32)) hx hb d_M_run_79 (by decide) ?_
      refine lv_istore (lv' := [(4, .int (0 : Int32)), (0, .ref (X 0)), (1, .int x1), (3, .int x3)]) hx hb d_M_run_80 hl (by decide) rfl (fun ls hl => ?_)
      exact zM_run_l82 Cx hR hret  mb_fuel x1 x3 (0 : Int32) s12 h ls H locs (lv_sub hl [1, 2, 3, 0] rfl) hP hS
    · have h := mb_f hc h
      refine lv_aload_n hx hb d_M_run_58 rfl (lv_at hl 0 rfl) ?_
      refine va_get (ci := 5) (C := cnM) (T := fTM) (N := 30) hx hb hts uwM hown hK hP 0 rfl rfl 19 (by decide) (hts _ wd_544) (fun _ h9 => h9) rfl d_M_run_59 ?_
      refine lv_iload hx hb d_M_run_62 (lv_at hl 3 rfl) ?_
      refine lv_iconst (v := (0 : Int32)) hx hb d_M_run_64 (by decide) ?_
      refine mb_iast (WS := WM X cI cZ cJ) hx hb hK hP hD hS 16 0 rfl rfl h d_M_run_65 rfl (fun H locs s13 hP hS h => ?_)
      obtain ⟨v14, ev14, h⟩ := mb_ex h
      refine lv_iinc (k := 3) (v := v14) (lv' := [(4, .int v14), (0, .ref (X 0)), (1, .int x1), (3, .int x3)]) hx hb d_M_run_66 hl rfl ev14 (by decide) rfl (fun ls hl => ?_)
      refine lv_goto hx hb d_M_run_69 rfl ?_
      exact ih x1 x3 v14 s13 h ls H locs (lv_sub hl [1, 2, 3, 0] rfl) hP hS
set_option maxRecDepth 100000 in
set_option maxHeartbeats 4000000 in
theorem zM_run_b22 {p : Program} {l : Launch} {e : Env} {R : Room} {s0 : State} {m : MethodId} {args : Array Value} {below : List Frame} {meth : Method} {c : Code} {Q : State → Prop} {A : Nat → Prop} {D : va_G} {X : Nat → Nat} {cI cZ cJ : ClassId} {rv : Int32} {rs : mb_S}
    (Cx : mb_C p s0 m args meth c c_M_run 6 lw_w cnM (fun _ _ => True) vwCl D [(cI, .int), (cZ, .boolean), (cJ, .long)] A (WM X cI cZ cJ)) (hR : 3 ≤ R.frames ∧ 83 ≤ R.locals)
    (hret : mb_R p l e R s0 m args below meth c Q vwCl D A (WM X cI cZ cJ) c_M_run .ireturn [.int rv] rs)  (x1 : Int32) (y0 : Int32) (s : mb_S)
    (h : mM_run_b22  x1 y0 s = some (rv, rs)) : mb_B p l e R s0 m args below meth c Q vwCl D A (WM X cI cZ cJ) 6 [(0, .ref (X 0)), (1, .int x1)] [.int y0] 22 s := by
  unfold mM_run_b22 at h
  intro ls H locs hl hP hS
  have Cx0 := Cx
  obtain ⟨⟨hx, hb, hml, hown, hts⟩, hK, hD, hA, hZ⟩ := Cx0
  refine lv_istore_n (lv' := [(3, .int y0), (0, .ref (X 0)), (1, .int x1)]) hx hb d_M_run_22 rfl hl (by decide) rfl (fun ls hl => ?_)
  refine lv_aload_n hx hb d_M_run_23 rfl (lv_at hl 1 rfl) ?_
  refine lv_iconst (v := (0 : Int32)) hx hb d_M_run_24 (by decide) ?_
  have h := mb_putF_ex h
  refine va_put (ci := 5) (v := .int (0 : Int32)) (ty := .int) (C := cnM) (T := fTM) (N := 30) hx hb hts uwM fyM fyM_ok fnM hown hK hP (hD _) hS 0 rfl rfl 18 (by decide) (hts _ wd_543) (fun _ h9 => h9) rfl (by decide +kernel) rfl rfl (Nat.le_of_ble_eq_true rfl) d_M_run_25 (fun H locs hP _ hS => ?_)
  have hP : va_P D vwCl (WM X cI cZ cJ (mb_setF s 3 (0 : Int32))) H := hP
  generalize mb_setF s 3 (0 : Int32) = s15 at hP h
  refine lv_aload_n hx hb d_M_run_28 rfl (lv_at hl 1 rfl) ?_
  refine lv_iconst (v := (0 : Int32)) hx hb d_M_run_29 (by decide) ?_
  have h := mb_putF_ex h
  refine va_put (ci := 5) (v := .int (0 : Int32)) (ty := .int) (C := cnM) (T := fTM) (N := 30) hx hb hts uwM fyM fyM_ok fnM hown hK hP (hD _) hS 0 rfl rfl 20 (by decide) (hts _ wd_545) (fun _ h9 => h9) rfl (by decide +kernel) rfl rfl (Nat.le_of_ble_eq_true rfl) d_M_run_30 (fun H locs hP _ hS => ?_)
  have hP : va_P D vwCl (WM X cI cZ cJ (mb_setF s15 4 (0 : Int32))) H := hP
  generalize mb_setF s15 4 (0 : Int32) = s16 at hP h
  refine lv_aload_n hx hb d_M_run_33 rfl (lv_at hl 1 rfl) ?_
  refine lv_iconst (v := (0 : Int32)) hx hb d_M_run_34 (by decide) ?_
  have h := mb_putF_ex h
  refine va_put (ci := 5) (v := .int (0 : Int32)) (ty := .int) (C := cnM) (T := fTM) (N := 30) hx hb hts uwM fyM fyM_ok fnM hown hK hP (hD _) hS 0 rfl rfl 21 (by decide) (hts _ wd_546) (fun _ h9 => h9) rfl (by decide +kernel) rfl rfl (Nat.le_of_ble_eq_true rfl) d_M_run_35 (fun H locs hP _ hS => ?_)
  have hP : va_P D vwCl (WM X cI cZ cJ (mb_setF s16 5 (0 : Int32))) H := hP
  generalize mb_setF s16 5 (0 : Int32) = s17 at hP h
  refine lv_aload_n hx hb d_M_run_38 rfl (lv_at hl 1 rfl) ?_
  refine lv_iconst (v := (0 : Int32)) hx hb d_M_run_39 (by decide) ?_
  have h := mb_putF_ex h
  refine va_put (ci := 5) (v := .int (0 : Int32)) (ty := .int) (C := cnM) (T := fTM) (N := 30) hx hb hts uwM fyM fyM_ok fnM hown hK hP (hD _) hS 0 rfl rfl 22 (by decide) (hts _ wd_547) (fun _ h9 => h9) rfl (by decide +kernel) rfl rfl (Nat.le_of_ble_eq_true rfl) d_M_run_40 (fun H locs hP _ hS => ?_)
  have hP : va_P D vwCl (WM X cI cZ cJ (mb_setF s17 6 (0 : Int32))) H := hP
  generalize mb_setF s17 6 (0 : Int32) = s18 at hP h
  refine lv_aload_n hx hb d_M_run_43 rfl (lv_at hl 1 rfl) ?_
  refine lv_iconst (v := (0 : Int32)) hx hb d_M_run_44 (by decide) ?_
  have h := mb_putF_ex h
  refine va_put (ci := 5) (v := .int (0 : Int32)) (ty := .int) (C := cnM) (T := fTM) (N := 30) hx hb hts uwM fyM fyM_ok fnM hown hK hP (hD _) hS 0 rfl rfl 17 (by decide) (hts _ wd_542) (fun _ h9 => h9) rfl (by decide +kernel) rfl rfl (Nat.le_of_ble_eq_true rfl) d_M_run_45 (fun H locs hP _ hS => ?_)
  have hP : va_P D vwCl (WM X cI cZ cJ (mb_setF s18 2 (0 : Int32))) H := hP
  generalize mb_setF s18 2 (0 : Int32) = s19 at hP h
  refine lv_iconst (v := (0 : Int32)) hx hb d_M_run_48 (by decide) ?_
  refine lv_istore (lv' := [(4, .int (0 : Int32)), (3, .int y0), (0, .ref (X 0)), (1, .int x1)]) hx hb d_M_run_49 hl (by decide) rfl (fun ls hl => ?_)
  exact zM_run_l51 Cx hR hret  mb_fuel x1 y0 (0 : Int32) s19 h ls H locs (lv_sub hl [2, 3, 1, 0] rfl) hP hS
set_option maxRecDepth 100000 in
set_option maxHeartbeats 4000000 in
theorem w_M_run (l : Launch) (D : va_G) (X : Nat → Nat) (cI cZ cJ : ClassId) {x1 : Int32} {x2 : Int32} {s : mb_S} {rv : Int32} {rs : mb_S}
    (h : mM_run x1 x2 s = some (rv, rs)) : mb_MI l y_M_run ws_M_run rm_M_run (fun _ _ => True) vwCl D [(cI, .int), (cZ, .boolean), (cJ, .long)] (WM X cI cZ cJ) [.ref (X 0), .int x1, .int x2] s rv rs := by
  refine mb_ofI mb_Z0ok (by decide) rfl (Nat.le_of_ble_eq_true rfl) mb_DMok ?_
  intro p e s0 m args below meth c Q A Cx hret
  have hR : 3 ≤ (rm_M_run).frames ∧ 83 ≤ (rm_M_run).locals := ⟨Nat.le_refl _, Nat.le_refl _⟩
  intro ls H locs hl hP hS
  have Cx0 := Cx
  obtain ⟨⟨hx, hb, hml, hown, hts⟩, hK, hD, hA, hZ⟩ := Cx0
  have hl : lv_has ls 6 [(0, .ref (X 0)), (1, .int x1), (2, .int x2)] := hl
  unfold mM_run at h
  refine lv_iload_n hx hb d_M_run_0 rfl (lv_at hl 2 rfl) ?_
  refine lv_if_ge hx hb d_M_run_1 rfl (fun hc => ?_) (fun hc => ?_)
  · have h := mb_t hc h
    refine lv_iload_n hx hb d_M_run_8 rfl (lv_at hl 2 rfl) ?_
    refine lv_sipush (v := (200 : Int32)) hx hb d_M_run_9 (by decide) ?_
    refine lv_icmp_le hx hb d_M_run_12 rfl (fun hc => ?_) (fun hc => ?_)
    · have h := mb_t hc h
      refine lv_iload_n hx hb d_M_run_21 rfl (lv_at hl 2 rfl) ?_
      exact zM_run_b22 Cx hR hret  x1 x2 s h ls H locs (lv_sub hl [0, 1] rfl) hP hS
    · have h := mb_f hc h
      refine lv_sipush (v := (200 : Int32)) hx hb d_M_run_15 (by decide) ?_
      refine lv_goto hx hb d_M_run_18 rfl ?_
      exact zM_run_b22 Cx hR hret  x1 (200 : Int32) s h ls H locs (lv_sub hl [0, 1] rfl) hP hS
  · have h := mb_f hc h
    refine lv_iconst (v := (0 : Int32)) hx hb d_M_run_4 (by decide) ?_
    refine lv_goto hx hb d_M_run_5 rfl ?_
    exact zM_run_b22 Cx hR hret  x1 (0 : Int32) s h ls H locs (lv_sub hl [0, 1] rfl) hP hS
set_option maxRecDepth 100000 in
set_option maxHeartbeats 4000000 in
theorem w_M_outcome (l : Launch) (D : va_G) (X : Nat → Nat) (cI cZ cJ : ClassId)  {s : mb_S} {rv : Int32} {rs : mb_S}
    (h : mM_outcome  s = some (rv, rs)) : mb_MI l y_M_outcome ws_M_outcome rm_M_outcome (fun _ _ => True) vwCl D [(cI, .int), (cZ, .boolean), (cJ, .long)] (WM X cI cZ cJ) [.ref (X 0)] s rv rs := by
  refine mb_ofI mb_Z0ok (by decide) rfl (Nat.le_of_ble_eq_true rfl) mb_DMok ?_
  intro p e s0 m args below meth c Q A Cx hret
  have hR : 0 ≤ (rm_M_outcome).frames ∧ 0 ≤ (rm_M_outcome).locals := ⟨Nat.le_refl _, Nat.le_refl _⟩
  intro ls H locs hl hP hS
  have Cx0 := Cx
  obtain ⟨⟨hx, hb, hml, hown, hts⟩, hK, hD, hA, hZ⟩ := Cx0
  have hl : lv_has ls 1 [(0, .ref (X 0))] := hl
  unfold mM_outcome at h
  refine lv_aload_n hx hb d_M_outcome_0 rfl (lv_at hl 0 rfl) ?_
  refine va_get (ci := 5) (C := cnM) (T := fTM) (N := 30) hx hb hts uwM hown hK hP 0 rfl rfl 17 (by decide) (hts _ wd_542) (fun _ h9 => h9) rfl d_M_outcome_1 ?_
  exact mb_eI hret h d_M_outcome_4 hP hS
set_option maxRecDepth 100000 in
set_option maxHeartbeats 4000000 in
theorem zM_hits_b63 {p : Program} {l : Launch} {e : Env} {R : Room} {s0 : State} {m : MethodId} {args : Array Value} {below : List Frame} {meth : Method} {c : Code} {Q : State → Prop} {A : Nat → Prop} {D : va_G} {X : Nat → Nat} {cI cZ cJ : ClassId} {rv : Int32} {rs : mb_S}
    (Cx : mb_C p s0 m args meth c c_M_hits 5 lw_w cnM (fun _ _ => True) vwCl D [(cI, .int), (cZ, .boolean), (cJ, .long)] A (WM X cI cZ cJ)) (hR : 1 ≤ R.frames ∧ 26 ≤ R.locals)
    (hret : mb_R p l e R s0 m args below meth c Q vwCl D A (WM X cI cZ cJ) c_M_hits .ireturn [.int rv] rs)  (y0 : Int32) (s : mb_S)
    (h : mM_hits_b63  y0 s = some (rv, rs)) : mb_B p l e R s0 m args below meth c Q vwCl D A (WM X cI cZ cJ) 5 [] [.int y0] 63 s := by
  unfold mM_hits_b63 at h
  intro ls H locs hl hP hS
  have Cx0 := Cx
  obtain ⟨⟨hx, hb, hml, hown, hts⟩, hK, hD, hA, hZ⟩ := Cx0
  exact mb_eI hret h d_M_hits_63 hP hS
set_option maxRecDepth 100000 in
set_option maxHeartbeats 4000000 in
theorem zM_hits_b62 {p : Program} {l : Launch} {e : Env} {R : Room} {s0 : State} {m : MethodId} {args : Array Value} {below : List Frame} {meth : Method} {c : Code} {Q : State → Prop} {A : Nat → Prop} {D : va_G} {X : Nat → Nat} {cI cZ cJ : ClassId} {rv : Int32} {rs : mb_S}
    (Cx : mb_C p s0 m args meth c c_M_hits 5 lw_w cnM (fun _ _ => True) vwCl D [(cI, .int), (cZ, .boolean), (cJ, .long)] A (WM X cI cZ cJ)) (hR : 1 ≤ R.frames ∧ 26 ≤ R.locals)
    (hret : mb_R p l e R s0 m args below meth c Q vwCl D A (WM X cI cZ cJ) c_M_hits .ireturn [.int rv] rs)   (s : mb_S)
    (h : mM_hits_b62  s = some (rv, rs)) : mb_B p l e R s0 m args below meth c Q vwCl D A (WM X cI cZ cJ) 5 [] [] 62 s := by
  unfold mM_hits_b62 at h
  intro ls H locs hl hP hS
  have Cx0 := Cx
  obtain ⟨⟨hx, hb, hml, hown, hts⟩, hK, hD, hA, hZ⟩ := Cx0
  refine lv_iconst (v := (0 : Int32)) hx hb d_M_hits_62 (by decide) ?_
  exact zM_hits_b63 Cx hR hret  (0 : Int32) s h ls H locs (lv_sub hl [] rfl) hP hS
set_option maxRecDepth 100000 in
set_option maxHeartbeats 4000000 in
theorem w_M_hits (l : Launch) (D : va_G) (X : Nat → Nat) (cI cZ cJ : ClassId) {x1 : Int32} {x2 : Int32} {s : mb_S} {rv : Int32} {rs : mb_S}
    (h : mM_hits x1 x2 s = some (rv, rs)) : mb_MI l y_M_hits ws_M_hits rm_M_hits (fun _ _ => True) vwCl D [(cI, .int), (cZ, .boolean), (cJ, .long)] (WM X cI cZ cJ) [.ref (X 0), .int x1, .int x2] s rv rs := by
  refine mb_ofI mb_Z0ok (by decide) rfl (Nat.le_of_ble_eq_true rfl) mb_DMok ?_
  intro p e s0 m args below meth c Q A Cx hret
  have hR : 1 ≤ (rm_M_hits).frames ∧ 26 ≤ (rm_M_hits).locals := ⟨Nat.le_refl _, Nat.le_refl _⟩
  intro ls H locs hl hP hS
  have Cx0 := Cx
  obtain ⟨⟨hx, hb, hml, hown, hts⟩, hK, hD, hA, hZ⟩ := Cx0
  have hl : lv_has ls 5 [(0, .ref (X 0)), (1, .int x1), (2, .int x2)] := hl
  unfold mM_hits at h
  refine lv_aload_n hx hb d_M_hits_0 rfl (lv_at hl 0 rfl) ?_
  refine lv_iconst (v := (1 : Int32)) hx hb d_M_hits_1 (by decide) ?_
  refine lv_bipush (v := (6 : Int32)) hx hb d_M_hits_2 (by decide) ?_
  refine lv_iconst (v := (0 : Int32)) hx hb d_M_hits_4 (by decide) ?_
  obtain ⟨v1, s2, hs2, h⟩ := mb_cal_ex h
  refine mb_goI Cx (mb_runV (As := [.int (1 : Int32), .int (6 : Int32), .int (0 : Int32)]) (rest := []) mb_Z0ok Cx (w_M_before l D X cI cZ cJ hs2 H.size) (mb_cwV 3 hts wd_628 wd_630 sel_39 wd_7 wd_631 rfl rfl rfl (by decide +kernel) ⟨Nat.le_trans (by decide) hR.1, Nat.le_trans (by decide) hR.2⟩) hP hS 0 rfl rfl rfl hl.1 rfl (Nat.le_of_ble_eq_true rfl) d_M_hits_5) hS (fun H locs hP hS => ?_)
  refine lv_istore_n (lv' := [(3, .int v1), (0, .ref (X 0)), (1, .int x1), (2, .int x2)]) hx hb d_M_hits_8 rfl hl (by decide) rfl (fun ls hl => ?_)
  refine lv_aload_n hx hb d_M_hits_9 rfl (lv_at hl 1 rfl) ?_
  refine lv_iconst (v := (2 : Int32)) hx hb d_M_hits_10 (by decide) ?_
  refine lv_bipush (v := (6 : Int32)) hx hb d_M_hits_11 (by decide) ?_
  refine lv_iconst (v := (0 : Int32)) hx hb d_M_hits_13 (by decide) ?_
  obtain ⟨v3, s4, hs4, h⟩ := mb_cal_ex h
  refine mb_goI Cx (mb_runV (As := [.int (2 : Int32), .int (6 : Int32), .int (0 : Int32)]) (rest := []) mb_Z0ok Cx (w_M_before l D X cI cZ cJ hs4 H.size) (mb_cwV 3 hts wd_628 wd_630 sel_39 wd_7 wd_631 rfl rfl rfl (by decide +kernel) ⟨Nat.le_trans (by decide) hR.1, Nat.le_trans (by decide) hR.2⟩) hP hS 0 rfl rfl rfl hl.1 rfl (Nat.le_of_ble_eq_true rfl) d_M_hits_14) hS (fun H locs hP hS => ?_)
  refine lv_istore (lv' := [(4, .int v3), (3, .int v1), (0, .ref (X 0)), (1, .int x1), (2, .int x2)]) hx hb d_M_hits_17 hl (by decide) rfl (fun ls hl => ?_)
  refine lv_aload_n hx hb d_M_hits_19 rfl (lv_at hl 2 rfl) ?_
  refine va_get (ci := 5) (C := cnM) (T := fTM) (N := 30) hx hb hts uwM hown hK hP 0 rfl rfl 17 (by decide) (hts _ wd_542) (fun _ h9 => h9) rfl d_M_hits_20 ?_
  refine lv_if_le hx hb d_M_hits_23 rfl (fun hc => ?_) (fun hc => ?_)
  · have h := mb_t hc h
    exact zM_hits_b62 Cx hR hret  s4 h ls H locs (lv_sub hl [] rfl) hP hS
  · have h := mb_f hc h
    refine lv_iload_n hx hb d_M_hits_26 rfl (lv_at hl 3 rfl) ?_
    refine lv_iconst (v := (0 : Int32)) hx hb d_M_hits_27 (by decide) ?_
    refine lv_iload_n hx hb d_M_hits_28 rfl (lv_at hl 1 rfl) ?_
    refine lv_iconst (v := (1 : Int32)) hx hb d_M_hits_29 (by decide) ?_
    refine lv_isub hx hb d_M_hits_30 ?_
    obtain ⟨v5, hv5, h⟩ := mb_cal0_ex h
    refine mb_go0I (st := s4) Cx (mb_runS0 (As := [.int x1, .int (0 : Int32), .int (v1 - (1 : Int32))]) (rest := []) Cx (w_M_within l D hv5 H.size) (mb_cwS 3 hts wd_622 wd_623 wd_7 wd_624 rfl rfl rfl (by decide +kernel) ⟨Nat.le_trans (by decide) hR.1, Nat.le_trans (by decide) hR.2⟩) rfl hl.1 rfl (Nat.le_of_ble_eq_true rfl) d_M_hits_31) hP hS (fun H locs hP hS => ?_)
    refine lv_if_eq hx hb d_M_hits_34 rfl (fun hc => ?_) (fun hc => ?_)
    · have h := mb_t hc h
      exact zM_hits_b62 Cx hR hret  s4 h ls H locs (lv_sub hl [] rfl) hP hS
    · have h := mb_f hc h
      refine lv_iload_n hx hb d_M_hits_37 rfl (lv_at hl 4 rfl) ?_
      refine lv_iconst (v := (0 : Int32)) hx hb d_M_hits_38 (by decide) ?_
      refine lv_iload hx hb d_M_hits_39 (lv_at hl 0 rfl) ?_
      refine lv_iconst (v := (1 : Int32)) hx hb d_M_hits_41 (by decide) ?_
      refine lv_isub hx hb d_M_hits_42 ?_
      obtain ⟨v6, hv6, h⟩ := mb_cal0_ex h
      refine mb_go0I (st := s4) Cx (mb_runS0 (As := [.int x2, .int (0 : Int32), .int (v3 - (1 : Int32))]) (rest := []) Cx (w_M_within l D hv6 H.size) (mb_cwS 3 hts wd_622 wd_623 wd_7 wd_624 rfl rfl rfl (by decide +kernel) ⟨Nat.le_trans (by decide) hR.1, Nat.le_trans (by decide) hR.2⟩) rfl hl.1 rfl (Nat.le_of_ble_eq_true rfl) d_M_hits_43) hP hS (fun H locs hP hS => ?_)
      refine lv_if_eq hx hb d_M_hits_46 rfl (fun hc => ?_) (fun hc => ?_)
      · have h := mb_t hc h
        exact zM_hits_b62 Cx hR hret  s4 h ls H locs (lv_sub hl [] rfl) hP hS
      · have h := mb_f hc h
        refine lv_aload_n hx hb d_M_hits_49 rfl (lv_at hl 2 rfl) ?_
        refine va_get (ci := 5) (C := cnM) (T := fTM) (N := 30) hx hb hts uwM hown hK hP 0 rfl rfl 19 (by decide) (hts _ wd_544) (fun _ h9 => h9) rfl d_M_hits_50 ?_
        refine lv_iconst (v := (4 : Int32)) hx hb d_M_hits_53 (by decide) ?_
        refine lv_iload_n hx hb d_M_hits_54 rfl (lv_at hl 3 rfl) ?_
        refine lv_imul hx hb d_M_hits_55 ?_
        refine lv_iload_n hx hb d_M_hits_56 rfl (lv_at hl 4 rfl) ?_
        refine lv_iadd hx hb d_M_hits_57 ?_
        refine mb_iald hx hb hK hP 16 0 rfl rfl h d_M_hits_58 (fun v7 h => ?_)
        refine lv_goto hx hb d_M_hits_59 rfl ?_
        exact zM_hits_b63 Cx hR hret  v7 s4 h ls H locs (lv_sub hl [] rfl) hP hS
set_option maxRecDepth 100000 in
set_option maxHeartbeats 4000000 in
theorem zM_made_b15 {p : Program} {l : Launch} {e : Env} {R : Room} {s0 : State} {m : MethodId} {args : Array Value} {below : List Frame} {meth : Method} {c : Code} {Q : State → Prop} {A : Nat → Prop} {D : va_G} {X : Nat → Nat} {cI cZ cJ : ClassId} {rv : Int32} {rs : mb_S}
    (Cx : mb_C p s0 m args meth c c_M_made 1 lw_w cnM (fun _ _ => True) vwCl D [(cI, .int), (cZ, .boolean), (cJ, .long)] A (WM X cI cZ cJ)) (hR : 0 ≤ R.frames ∧ 0 ≤ R.locals)
    (hret : mb_R p l e R s0 m args below meth c Q vwCl D A (WM X cI cZ cJ) c_M_made .ireturn [.int rv] rs)  (y0 : Int32) (s : mb_S)
    (h : mM_made_b15  y0 s = some (rv, rs)) : mb_B p l e R s0 m args below meth c Q vwCl D A (WM X cI cZ cJ) 1 [] [.int y0] 15 s := by
  unfold mM_made_b15 at h
  intro ls H locs hl hP hS
  have Cx0 := Cx
  obtain ⟨⟨hx, hb, hml, hown, hts⟩, hK, hD, hA, hZ⟩ := Cx0
  exact mb_eI hret h d_M_made_15 hP hS
set_option maxRecDepth 100000 in
set_option maxHeartbeats 4000000 in
theorem w_M_made (l : Launch) (D : va_G) (X : Nat → Nat) (cI cZ cJ : ClassId)  {s : mb_S} {rv : Int32} {rs : mb_S}
    (h : mM_made  s = some (rv, rs)) : mb_MI l y_M_made ws_M_made rm_M_made (fun _ _ => True) vwCl D [(cI, .int), (cZ, .boolean), (cJ, .long)] (WM X cI cZ cJ) [.ref (X 0)] s rv rs := by
  refine mb_ofI mb_Z0ok (by decide) rfl (Nat.le_of_ble_eq_true rfl) mb_DMok ?_
  intro p e s0 m args below meth c Q A Cx hret
  have hR : 0 ≤ (rm_M_made).frames ∧ 0 ≤ (rm_M_made).locals := ⟨Nat.le_refl _, Nat.le_refl _⟩
  intro ls H locs hl hP hS
  have Cx0 := Cx
  obtain ⟨⟨hx, hb, hml, hown, hts⟩, hK, hD, hA, hZ⟩ := Cx0
  have hl : lv_has ls 1 [(0, .ref (X 0))] := hl
  unfold mM_made at h
  refine lv_aload_n hx hb d_M_made_0 rfl (lv_at hl 0 rfl) ?_
  refine va_get (ci := 5) (C := cnM) (T := fTM) (N := 30) hx hb hts uwM hown hK hP 0 rfl rfl 17 (by decide) (hts _ wd_542) (fun _ h9 => h9) rfl d_M_made_1 ?_
  refine lv_if_le hx hb d_M_made_4 rfl (fun hc => ?_) (fun hc => ?_)
  · have h := mb_t hc h
    refine lv_iconst (v := (0 : Int32)) hx hb d_M_made_14 (by decide) ?_
    exact zM_made_b15 Cx hR hret  (0 : Int32) s h ls H locs (lv_sub hl [] rfl) hP hS
  · have h := mb_f hc h
    refine lv_aload_n hx hb d_M_made_7 rfl (lv_at hl 0 rfl) ?_
    refine va_get (ci := 5) (C := cnM) (T := fTM) (N := 30) hx hb hts uwM hown hK hP 0 rfl rfl 18 (by decide) (hts _ wd_543) (fun _ h9 => h9) rfl d_M_made_8 ?_
    refine lv_goto hx hb d_M_made_11 rfl ?_
    exact zM_made_b15 Cx hR hret  (mb_F s 3) s h ls H locs (lv_sub hl [] rfl) hP hS
