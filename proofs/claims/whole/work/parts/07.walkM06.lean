set_option maxRecDepth 100000 in
set_option maxHeartbeats 4000000 in
theorem zM_plain_b368 {p : Program} {l : Launch} {e : Env} {R : Room} {s0 : State} {m : MethodId} {args : Array Value} {below : List Frame} {meth : Method} {c : Code} {Q : State → Prop} {A : Nat → Prop} {D : va_G} {X : Nat → Nat} {cI cZ cJ : ClassId} {rv : Unit} {rs : mb_S}
    (Cx : mb_C p s0 m args meth c c_M_plain 9 lw_w cnM (fun _ _ => True) vwCl D [(cI, .int), (cZ, .boolean), (cJ, .long)] A (WM X cI cZ cJ)) (hR : 1 ≤ R.frames ∧ 26 ≤ R.locals)
    (hret : mb_R p l e R s0 m args below meth c Q vwCl D A (WM X cI cZ cJ) c_M_plain .return_ [] rs)   (s : mb_S)
    (h : mM_plain_b368  s = some (rv, rs)) : mb_B p l e R s0 m args below meth c Q vwCl D A (WM X cI cZ cJ) 9 [] [] 368 s := by
  unfold mM_plain_b368 at h
  intro ls H locs hl hP hS
  have Cx0 := Cx
  obtain ⟨⟨hx, hb, hml, hown, hts⟩, hK, hD, hA, hZ⟩ := Cx0
  exact mb_eV hret h d_M_plain_368 hP hS
set_option maxRecDepth 100000 in
set_option maxHeartbeats 4000000 in
theorem zM_plain_l164 {p : Program} {l : Launch} {e : Env} {R : Room} {s0 : State} {m : MethodId} {args : Array Value} {below : List Frame} {meth : Method} {c : Code} {Q : State → Prop} {A : Nat → Prop} {D : va_G} {X : Nat → Nat} {cI cZ cJ : ClassId} {rv : Unit} {rs : mb_S}
    (Cx : mb_C p s0 m args meth c c_M_plain 9 lw_w cnM (fun _ _ => True) vwCl D [(cI, .int), (cZ, .boolean), (cJ, .long)] A (WM X cI cZ cJ)) (hR : 1 ≤ R.frames ∧ 26 ≤ R.locals)
    (hret : mb_R p l e R s0 m args below meth c Q vwCl D A (WM X cI cZ cJ) c_M_plain .return_ [] rs)  :
    ∀ (n : Nat) (x2 : Int32) (x4 : Int32) (x7 : Int32) (x8 : Int32) (s : mb_S), mM_plain_l164  n x2 x4 x7 x8 s = some (rv, rs) → mb_B p l e R s0 m args below meth c Q vwCl D A (WM X cI cZ cJ) 9 [(0, .ref (X 0)), (2, .int x2), (4, .int x4), (7, .int x7), (8, .int x8)] [] 164 s := by
  intro n
  induction n with
  | zero => intro x2 x4 x7 x8 s h; cases h
  | succ n ih =>
    intro x2 x4 x7 x8 s h
    rw [mM_plain_l164_s] at h
    intro ls H locs hl hP hS
    have Cx0 := Cx
    obtain ⟨⟨hx, hb, hml, hown, hts⟩, hK, hD, hA, hZ⟩ := Cx0
    refine lv_iload hx hb d_M_plain_164 (lv_at hl 4 rfl) ?_
    refine lv_iconst (v := (4 : Int32)) hx hb d_M_plain_166 (by decide) ?_
    refine lv_icmp_ge hx hb d_M_plain_167 rfl (fun hc => ?_) (fun hc => ?_)
    · have h := mb_t hc h
      refine lv_goto hx hb d_M_plain_205 rfl ?_
      exact zM_plain_b368 Cx hR hret  s h ls H locs (lv_sub hl [] rfl) hP hS
    · have h := mb_f hc h
      refine lv_aload_n hx hb d_M_plain_170 rfl (lv_at hl 0 rfl) ?_
      refine va_get (ci := 5) (C := cnM) (T := fTM) (N := 30) hx hb hts uwM hown hK hP 0 rfl rfl 19 (by decide) (hts _ wd_544) (fun _ h9 => h9) rfl d_M_plain_171 ?_
      refine lv_iconst (v := (4 : Int32)) hx hb d_M_plain_174 (by decide) ?_
      refine lv_iload hx hb d_M_plain_175 (lv_at hl 4 rfl) ?_
      refine lv_imul hx hb d_M_plain_177 ?_
      refine lv_iload hx hb d_M_plain_178 (lv_at hl 3 rfl) ?_
      refine lv_iadd hx hb d_M_plain_180 ?_
      refine lv_dup2_11 hx hb d_M_plain_181 rfl rfl ?_
      refine mb_iald hx hb hK hP 16 0 rfl rfl h d_M_plain_182 (fun v1 h => ?_)
      refine lv_aload_n hx hb d_M_plain_183 rfl (lv_at hl 0 rfl) ?_
      refine va_get (ci := 5) (C := cnM) (T := fTM) (N := 30) hx hb hts uwM hown hK hP 0 rfl rfl 26 (by decide) (hts _ wd_551) (fun _ h9 => h9) rfl d_M_plain_184 ?_
      refine lv_iload_n hx hb d_M_plain_187 rfl (lv_at hl 1 rfl) ?_
      refine lv_iload hx hb d_M_plain_188 (lv_at hl 2 rfl) ?_
      refine lv_iadd hx hb d_M_plain_190 ?_
      refine mb_iald hx hb hK hP 20 0 rfl rfl h d_M_plain_191 (fun v2 h => ?_)
      refine lv_iload hx hb d_M_plain_192 (lv_at hl 4 rfl) ?_
      refine lv_ishr hx hb d_M_plain_194 ?_
      refine lv_iconst (v := (1 : Int32)) hx hb d_M_plain_195 (by decide) ?_
      refine lv_iand hx hb d_M_plain_196 ?_
      refine lv_iadd hx hb d_M_plain_197 ?_
      refine mb_iast (WS := WM X cI cZ cJ) hx hb hK hP hD hS 16 0 rfl rfl h d_M_plain_198 rfl (fun H locs s3 hP hS h => ?_)
      obtain ⟨v4, ev4, h⟩ := mb_ex h
      refine lv_iinc (k := 4) (v := v4) (lv' := [(8, .int v4), (0, .ref (X 0)), (2, .int x2), (4, .int x4), (7, .int x7)]) hx hb d_M_plain_199 hl rfl ev4 (by decide) rfl (fun ls hl => ?_)
      refine lv_goto hx hb d_M_plain_202 rfl ?_
      exact ih x2 x4 x7 v4 s3 h ls H locs (lv_sub hl [1, 2, 3, 4, 0] rfl) hP hS
set_option maxRecDepth 100000 in
set_option maxHeartbeats 4000000 in
theorem zM_plain_l52 {p : Program} {l : Launch} {e : Env} {R : Room} {s0 : State} {m : MethodId} {args : Array Value} {below : List Frame} {meth : Method} {c : Code} {Q : State → Prop} {A : Nat → Prop} {D : va_G} {X : Nat → Nat} {cI cZ cJ : ClassId} {rv : Unit} {rs : mb_S}
    (Cx : mb_C p s0 m args meth c c_M_plain 9 lw_w cnM (fun _ _ => True) vwCl D [(cI, .int), (cZ, .boolean), (cJ, .long)] A (WM X cI cZ cJ)) (hR : 1 ≤ R.frames ∧ 26 ≤ R.locals)
    (hret : mb_R p l e R s0 m args below meth c Q vwCl D A (WM X cI cZ cJ) c_M_plain .return_ [] rs)  :
    ∀ (n : Nat) (x4 : Int32) (x7 : Int32) (s : mb_S), mM_plain_l52  n x4 x7 s = some (rv, rs) → mb_B p l e R s0 m args below meth c Q vwCl D A (WM X cI cZ cJ) 9 [(0, .ref (X 0)), (4, .int x4), (7, .int x7)] [] 52 s := by
  intro n
  induction n with
  | zero => intro x4 x7 s h; cases h
  | succ n ih =>
    intro x4 x7 s h
    rw [mM_plain_l52_s] at h
    intro ls H locs hl hP hS
    have Cx0 := Cx
    obtain ⟨⟨hx, hb, hml, hown, hts⟩, hK, hD, hA, hZ⟩ := Cx0
    refine lv_iload hx hb d_M_plain_52 (lv_at hl 2 rfl) ?_
    refine lv_iconst (v := (2 : Int32)) hx hb d_M_plain_54 (by decide) ?_
    refine lv_aload_n hx hb d_M_plain_55 rfl (lv_at hl 0 rfl) ?_
    refine va_get (ci := 5) (C := cnM) (T := fTM) (N := 30) hx hb hts uwM hown hK hP 0 rfl rfl 18 (by decide) (hts _ wd_543) (fun _ h9 => h9) rfl d_M_plain_56 ?_
    refine lv_imul hx hb d_M_plain_59 ?_
    refine lv_iconst (v := (2 : Int32)) hx hb d_M_plain_60 (by decide) ?_
    refine lv_iadd hx hb d_M_plain_61 ?_
    refine lv_icmp_ge hx hb d_M_plain_62 rfl (fun hc => ?_) (fun hc => ?_)
    · have h := mb_t hc h
      refine lv_aload_n hx hb d_M_plain_87 rfl (lv_at hl 0 rfl) ?_
      refine lv_iload hx hb d_M_plain_88 (lv_at hl 1 rfl) ?_
      refine lv_aload_n hx hb d_M_plain_90 rfl (lv_at hl 0 rfl) ?_
      refine va_get (ci := 5) (C := cnM) (T := fTM) (N := 30) hx hb hts uwM hown hK hP 0 rfl rfl 18 (by decide) (hts _ wd_543) (fun _ h9 => h9) rfl d_M_plain_91 ?_
      refine lv_iconst (v := (0 : Int32)) hx hb d_M_plain_94 (by decide) ?_
      obtain ⟨_u, s5, hs5, h⟩ := mb_cal_ex h
      refine mb_goV Cx (mb_runV (As := [.int x4, .int (mb_F s 3), .int (0 : Int32)]) (rest := []) mb_Z0ok Cx (w_M_assign l D X cI cZ cJ hs5 H.size) (mb_cwV 3 hts wd_776 wd_778 sel_61 wd_7 wd_779 rfl rfl rfl (by decide +kernel) ⟨Nat.le_trans (by decide) hR.1, Nat.le_trans (by decide) hR.2⟩) hP hS 0 rfl rfl rfl hl.1 rfl (Nat.le_of_ble_eq_true rfl) d_M_plain_95) hS (fun H locs hP hS => ?_)
      refine lv_aload_n hx hb d_M_plain_98 rfl (lv_at hl 0 rfl) ?_
      refine lv_dup hx hb d_M_plain_99 rfl ?_
      refine va_get (ci := 5) (C := cnM) (T := fTM) (N := 30) hx hb hts uwM hown hK hP 0 rfl rfl 18 (by decide) (hts _ wd_543) (fun _ h9 => h9) rfl d_M_plain_100 ?_
      refine lv_iconst (v := (1 : Int32)) hx hb d_M_plain_103 (by decide) ?_
      refine lv_iadd hx hb d_M_plain_104 ?_
      have h := mb_putF_ex h
      refine va_put (ci := 5) (v := .int ((mb_F s5 3) + (1 : Int32))) (ty := .int) (C := cnM) (T := fTM) (N := 30) hx hb hts uwM fyM fyM_ok fnM hown hK hP (hD _) hS 0 rfl rfl 18 (by decide) (hts _ wd_543) (fun _ h9 => h9) rfl (by decide +kernel) rfl rfl (Nat.le_of_ble_eq_true rfl) d_M_plain_105 (fun H locs hP _ hS => ?_)
      have hP : va_P D vwCl (WM X cI cZ cJ (mb_setF s5 3 ((mb_F s5 3) + (1 : Int32)))) H := hP
      generalize mb_setF s5 3 ((mb_F s5 3) + (1 : Int32)) = s6 at hP h
      refine lv_goto hx hb d_M_plain_108 rfl ?_
      exact zM_plain_b368 Cx hR hret  s6 h ls H locs (lv_sub hl [] rfl) hP hS
    · have h := mb_f hc h
      refine lv_aload_n hx hb d_M_plain_65 rfl (lv_at hl 0 rfl) ?_
      refine va_get (ci := 5) (C := cnM) (T := fTM) (N := 30) hx hb hts uwM hown hK hP 0 rfl rfl 28 (by decide) (hts _ wd_553) (fun _ h9 => h9) rfl d_M_plain_66 ?_
      refine lv_iload hx hb d_M_plain_69 (lv_at hl 2 rfl) ?_
      refine lv_iconst (v := (-1 : Int32)) hx hb d_M_plain_71 (by decide) ?_
      refine mb_iast (WS := WM X cI cZ cJ) hx hb hK hP hD hS 22 0 rfl rfl h d_M_plain_72 rfl (fun H locs s7 hP hS h => ?_)
      refine lv_aload_n hx hb d_M_plain_73 rfl (lv_at hl 0 rfl) ?_
      refine va_get (ci := 5) (C := cnM) (T := fTM) (N := 30) hx hb hts uwM hown hK hP 0 rfl rfl 29 (by decide) (hts _ wd_554) (fun _ h9 => h9) rfl d_M_plain_74 ?_
      refine lv_iload hx hb d_M_plain_77 (lv_at hl 2 rfl) ?_
      refine lv_iconst (v := (0 : Int32)) hx hb d_M_plain_79 (by decide) ?_
      refine mb_iast (WS := WM X cI cZ cJ) hx hb hK hP hD hS 23 0 rfl rfl h d_M_plain_80 rfl (fun H locs s8 hP hS h => ?_)
      obtain ⟨v9, ev9, h⟩ := mb_ex h
      refine lv_iinc (k := 2) (v := v9) (lv' := [(7, .int v9), (0, .ref (X 0)), (4, .int x4)]) hx hb d_M_plain_81 hl rfl ev9 (by decide) rfl (fun ls hl => ?_)
      refine lv_goto hx hb d_M_plain_84 rfl ?_
      exact ih x4 v9 s8 h ls H locs (lv_sub hl [1, 2, 0] rfl) hP hS
set_option maxRecDepth 100000 in
set_option maxHeartbeats 4000000 in
theorem w_M_plain (l : Launch) (D : va_G) (X : Nat → Nat) (cI cZ cJ : ClassId) {x1 : Int32} {x2 : Int32} {s : mb_S} {rv : Unit} {rs : mb_S}
    (h : mM_plain x1 x2 s = some (rv, rs)) : mb_MV l y_M_plain ws_M_plain rm_M_plain (fun _ _ => True) vwCl D [(cI, .int), (cZ, .boolean), (cJ, .long)] (WM X cI cZ cJ) [.ref (X 0), .int x1, .int x2] s rs := by
  refine mb_ofV mb_Z0ok (by decide) rfl (Nat.le_of_ble_eq_true rfl) mb_DMok ?_
  intro p e s0 m args below meth c Q A Cx hret
  have hR : 1 ≤ (rm_M_plain).frames ∧ 26 ≤ (rm_M_plain).locals := ⟨Nat.le_refl _, Nat.le_refl _⟩
  intro ls H locs hl hP hS
  have Cx0 := Cx
  obtain ⟨⟨hx, hb, hml, hown, hts⟩, hK, hD, hA, hZ⟩ := Cx0
  have hl : lv_has ls 9 [(0, .ref (X 0)), (1, .int x1), (2, .int x2)] := hl
  unfold mM_plain at h
  refine lv_aload_n hx hb d_M_plain_0 rfl (lv_at hl 0 rfl) ?_
  refine va_get (ci := 5) (C := cnM) (T := fTM) (N := 30) hx hb hts uwM hown hK hP 0 rfl rfl 1 (by decide) (hts _ wd_526) (fun _ h9 => h9) rfl d_M_plain_1 ?_
  refine lv_iload_n hx hb d_M_plain_4 rfl (lv_at hl 1 rfl) ?_
  refine mb_iald hx hb hK hP 2 0 rfl rfl h d_M_plain_5 (fun v10 h => ?_)
  refine lv_istore_n (lv' := [(3, .int v10), (0, .ref (X 0)), (1, .int x1), (2, .int x2)]) hx hb d_M_plain_6 rfl hl (by decide) rfl (fun ls hl => ?_)
  refine lv_aload_n hx hb d_M_plain_7 rfl (lv_at hl 1 rfl) ?_
  refine va_get (ci := 5) (C := cnM) (T := fTM) (N := 30) hx hb hts uwM hown hK hP 0 rfl rfl 2 (by decide) (hts _ wd_527) (fun _ h9 => h9) rfl d_M_plain_8 ?_
  refine lv_iload_n hx hb d_M_plain_11 rfl (lv_at hl 2 rfl) ?_
  refine mb_iald hx hb hK hP 3 0 rfl rfl h d_M_plain_12 (fun v11 h => ?_)
  refine lv_istore (lv' := [(4, .int v11), (3, .int v10), (0, .ref (X 0)), (1, .int x1), (2, .int x2)]) hx hb d_M_plain_13 hl (by decide) rfl (fun ls hl => ?_)
  refine lv_aload_n hx hb d_M_plain_15 rfl (lv_at hl 2 rfl) ?_
  refine va_get (ci := 5) (C := cnM) (T := fTM) (N := 30) hx hb hts uwM hown hK hP 0 rfl rfl 3 (by decide) (hts _ wd_528) (fun _ h9 => h9) rfl d_M_plain_16 ?_
  refine lv_iload_n hx hb d_M_plain_19 rfl (lv_at hl 3 rfl) ?_
  refine mb_iald hx hb hK hP 4 0 rfl rfl h d_M_plain_20 (fun v12 h => ?_)
  refine lv_istore (lv' := [(5, .int v12), (4, .int v11), (3, .int v10), (0, .ref (X 0)), (1, .int x1), (2, .int x2)]) hx hb d_M_plain_21 hl (by decide) rfl (fun ls hl => ?_)
  refine lv_iload_n hx hb d_M_plain_23 rfl (lv_at hl 4 rfl) ?_
  refine lv_bipush (v := (12 : Int32)) hx hb d_M_plain_24 (by decide) ?_
  refine lv_irem hx hb d_M_plain_26 (by decide) ?_
  refine lv_topi (fun v13 ev13 => ?_)
  have h := mb_at ev13 h
  refine lv_istore (lv' := [(6, .int v13), (5, .int v12), (4, .int v11), (3, .int v10), (0, .ref (X 0)), (1, .int x1), (2, .int x2)]) hx hb d_M_plain_27 hl (by decide) rfl (fun ls hl => ?_)
  refine lv_iload_n hx hb d_M_plain_29 rfl (lv_at hl 3 rfl) ?_
  refine lv_if_ne hx hb d_M_plain_30 rfl (fun hc => ?_) (fun hc => ?_)
  · have h := mb_f hc h
    refine lv_iload_n hx hb d_M_plain_111 rfl (lv_at hl 3 rfl) ?_
    refine lv_iconst (v := (1 : Int32)) hx hb d_M_plain_112 (by decide) ?_
    refine lv_icmp_ne hx hb d_M_plain_113 rfl (fun hc => ?_) (fun hc => ?_)
    · have h := mb_f hc h
      refine lv_iload_n hx hb d_M_plain_143 rfl (lv_at hl 3 rfl) ?_
      refine lv_iconst (v := (2 : Int32)) hx hb d_M_plain_144 (by decide) ?_
      refine lv_icmp_ne hx hb d_M_plain_145 rfl (fun hc => ?_) (fun hc => ?_)
      · have h := mb_f hc h
        refine lv_iload_n hx hb d_M_plain_208 rfl (lv_at hl 3 rfl) ?_
        refine lv_iconst (v := (3 : Int32)) hx hb d_M_plain_209 (by decide) ?_
        refine lv_icmp_ne hx hb d_M_plain_210 rfl (fun hc => ?_) (fun hc => ?_)
        · have h := mb_f hc h
          refine lv_iload_n hx hb d_M_plain_226 rfl (lv_at hl 3 rfl) ?_
          refine lv_iconst (v := (4 : Int32)) hx hb d_M_plain_227 (by decide) ?_
          refine lv_icmp_ne hx hb d_M_plain_228 rfl (fun hc => ?_) (fun hc => ?_)
          · have h := mb_f hc h
            refine lv_iload_n hx hb d_M_plain_258 rfl (lv_at hl 3 rfl) ?_
            refine lv_iconst (v := (5 : Int32)) hx hb d_M_plain_259 (by decide) ?_
            refine lv_icmp_ne hx hb d_M_plain_260 rfl (fun hc => ?_) (fun hc => ?_)
            · have h := mb_f hc h
              refine lv_iconst (v := (2 : Int32)) hx hb d_M_plain_316 (by decide) ?_
              refine lv_aload_n hx hb d_M_plain_317 rfl (lv_at hl 4 rfl) ?_
              refine va_get (ci := 5) (C := cnM) (T := fTM) (N := 30) hx hb hts uwM hown hK hP 0 rfl rfl 25 (by decide) (hts _ wd_550) (fun _ h9 => h9) rfl d_M_plain_318 ?_
              refine lv_iload_n hx hb d_M_plain_321 rfl (lv_at hl 6 rfl) ?_
              refine lv_iload hx hb d_M_plain_322 (lv_at hl 2 rfl) ?_
              refine lv_iadd hx hb d_M_plain_324 ?_
              refine mb_iald hx hb hK hP 19 0 rfl rfl h d_M_plain_325 (fun v14 h => ?_)
              refine lv_imul hx hb d_M_plain_326 ?_
              refine lv_aload_n hx hb d_M_plain_327 rfl (lv_at hl 4 rfl) ?_
              refine va_get (ci := 5) (C := cnM) (T := fTM) (N := 30) hx hb hts uwM hown hK hP 0 rfl rfl 4 (by decide) (hts _ wd_529) (fun _ h9 => h9) rfl d_M_plain_328 ?_
              refine lv_iload_n hx hb d_M_plain_331 rfl (lv_at hl 5 rfl) ?_
              refine mb_iald hx hb hK hP 5 0 rfl rfl h d_M_plain_332 (fun v15 h => ?_)
              refine lv_iadd hx hb d_M_plain_333 ?_
              refine lv_topi (fun v16 ev16 => ?_)
              have h := mb_at ev16 h
              refine lv_istore (lv' := [(7, .int v16), (6, .int v13), (5, .int v12), (4, .int v11), (3, .int v10), (0, .ref (X 0)), (1, .int x1), (2, .int x2)]) hx hb d_M_plain_334 hl (by decide) rfl (fun ls hl => ?_)
              refine lv_aload_n hx hb d_M_plain_336 rfl (lv_at hl 5 rfl) ?_
              refine va_get (ci := 5) (C := cnM) (T := fTM) (N := 30) hx hb hts uwM hown hK hP 0 rfl rfl 28 (by decide) (hts _ wd_553) (fun _ h9 => h9) rfl d_M_plain_337 ?_
              refine lv_iload hx hb d_M_plain_340 (lv_at hl 0 rfl) ?_
              refine lv_aload_n hx hb d_M_plain_342 rfl (lv_at hl 5 rfl) ?_
              refine va_get (ci := 5) (C := cnM) (T := fTM) (N := 30) hx hb hts uwM hown hK hP 0 rfl rfl 25 (by decide) (hts _ wd_550) (fun _ h9 => h9) rfl d_M_plain_343 ?_
              refine lv_iload_n hx hb d_M_plain_346 rfl (lv_at hl 7 rfl) ?_
              refine lv_iload hx hb d_M_plain_347 (lv_at hl 2 rfl) ?_
              refine lv_iadd hx hb d_M_plain_349 ?_
              refine mb_iald hx hb hK hP 19 0 rfl rfl h d_M_plain_350 (fun v17 h => ?_)
              refine mb_iast (WS := WM X cI cZ cJ) hx hb hK hP hD hS 22 0 rfl rfl h d_M_plain_351 rfl (fun H locs s18 hP hS h => ?_)
              refine lv_aload_n hx hb d_M_plain_352 rfl (lv_at hl 5 rfl) ?_
              refine va_get (ci := 5) (C := cnM) (T := fTM) (N := 30) hx hb hts uwM hown hK hP 0 rfl rfl 29 (by decide) (hts _ wd_554) (fun _ h9 => h9) rfl d_M_plain_353 ?_
              refine lv_iload hx hb d_M_plain_356 (lv_at hl 0 rfl) ?_
              refine lv_aload_n hx hb d_M_plain_358 rfl (lv_at hl 5 rfl) ?_
              refine va_get (ci := 5) (C := cnM) (T := fTM) (N := 30) hx hb hts uwM hown hK hP 0 rfl rfl 26 (by decide) (hts _ wd_551) (fun _ h9 => h9) rfl d_M_plain_359 ?_
              refine lv_iload_n hx hb d_M_plain_362 rfl (lv_at hl 7 rfl) ?_
              refine lv_iload hx hb d_M_plain_363 (lv_at hl 2 rfl) ?_
              refine lv_iadd hx hb d_M_plain_365 ?_
              refine mb_iald hx hb hK hP 20 0 rfl rfl h d_M_plain_366 (fun v19 h => ?_)
              refine mb_iast (WS := WM X cI cZ cJ) hx hb hK hP hD hS 23 0 rfl rfl h d_M_plain_367 rfl (fun H locs s20 hP hS h => ?_)
              exact zM_plain_b368 Cx hR hret  s20 h ls H locs (lv_sub hl [] rfl) hP hS
            · have h := mb_t hc h
              refine lv_iconst (v := (2 : Int32)) hx hb d_M_plain_263 (by decide) ?_
              refine lv_aload_n hx hb d_M_plain_264 rfl (lv_at hl 4 rfl) ?_
              refine va_get (ci := 5) (C := cnM) (T := fTM) (N := 30) hx hb hts uwM hown hK hP 0 rfl rfl 25 (by decide) (hts _ wd_550) (fun _ h9 => h9) rfl d_M_plain_265 ?_
              refine lv_iload_n hx hb d_M_plain_268 rfl (lv_at hl 6 rfl) ?_
              refine lv_iload hx hb d_M_plain_269 (lv_at hl 1 rfl) ?_
              refine lv_iadd hx hb d_M_plain_271 ?_
              refine mb_iald hx hb hK hP 19 0 rfl rfl h d_M_plain_272 (fun v21 h => ?_)
              refine lv_imul hx hb d_M_plain_273 ?_
              refine lv_aload_n hx hb d_M_plain_274 rfl (lv_at hl 4 rfl) ?_
              refine va_get (ci := 5) (C := cnM) (T := fTM) (N := 30) hx hb hts uwM hown hK hP 0 rfl rfl 4 (by decide) (hts _ wd_529) (fun _ h9 => h9) rfl d_M_plain_275 ?_
              refine lv_iload_n hx hb d_M_plain_278 rfl (lv_at hl 5 rfl) ?_
              refine mb_iald hx hb hK hP 5 0 rfl rfl h d_M_plain_279 (fun v22 h => ?_)
              refine lv_iadd hx hb d_M_plain_280 ?_
              refine lv_topi (fun v23 ev23 => ?_)
              have h := mb_at ev23 h
              refine lv_istore (lv' := [(7, .int v23), (6, .int v13), (5, .int v12), (4, .int v11), (3, .int v10), (0, .ref (X 0)), (1, .int x1), (2, .int x2)]) hx hb d_M_plain_281 hl (by decide) rfl (fun ls hl => ?_)
              refine lv_aload_n hx hb d_M_plain_283 rfl (lv_at hl 5 rfl) ?_
              refine lv_iload hx hb d_M_plain_284 (lv_at hl 3 rfl) ?_
              refine lv_aload_n hx hb d_M_plain_286 rfl (lv_at hl 5 rfl) ?_
              refine va_get (ci := 5) (C := cnM) (T := fTM) (N := 30) hx hb hts uwM hown hK hP 0 rfl rfl 28 (by decide) (hts _ wd_553) (fun _ h9 => h9) rfl d_M_plain_287 ?_
              refine lv_iload hx hb d_M_plain_290 (lv_at hl 0 rfl) ?_
              refine mb_iald hx hb hK hP 22 0 rfl rfl h d_M_plain_292 (fun v24 h => ?_)
              refine lv_aload_n hx hb d_M_plain_293 rfl (lv_at hl 5 rfl) ?_
              refine va_get (ci := 5) (C := cnM) (T := fTM) (N := 30) hx hb hts uwM hown hK hP 0 rfl rfl 29 (by decide) (hts _ wd_554) (fun _ h9 => h9) rfl d_M_plain_294 ?_
              refine lv_iload hx hb d_M_plain_297 (lv_at hl 0 rfl) ?_
              refine mb_iald hx hb hK hP 23 0 rfl rfl h d_M_plain_299 (fun v25 h => ?_)
              refine lv_aload_n hx hb d_M_plain_300 rfl (lv_at hl 5 rfl) ?_
              refine va_get (ci := 5) (C := cnM) (T := fTM) (N := 30) hx hb hts uwM hown hK hP 0 rfl rfl 26 (by decide) (hts _ wd_551) (fun _ h9 => h9) rfl d_M_plain_301 ?_
              refine lv_iload_n hx hb d_M_plain_304 rfl (lv_at hl 7 rfl) ?_
              refine lv_iload hx hb d_M_plain_305 (lv_at hl 2 rfl) ?_
              refine lv_iadd hx hb d_M_plain_307 ?_
              refine mb_iald hx hb hK hP 20 0 rfl rfl h d_M_plain_308 (fun v26 h => ?_)
              refine lv_ior hx hb d_M_plain_309 ?_
              obtain ⟨_u, s27, hs27, h⟩ := mb_cal_ex h
              refine mb_goV Cx (mb_runV (As := [.int v11, .int v24, .int (v25 ||| v26)]) (rest := []) mb_Z0ok Cx (w_M_assign l D X cI cZ cJ hs27 H.size) (mb_cwV 3 hts wd_776 wd_778 sel_61 wd_7 wd_779 rfl rfl rfl (by decide +kernel) ⟨Nat.le_trans (by decide) hR.1, Nat.le_trans (by decide) hR.2⟩) hP hS 0 rfl rfl rfl hl.1 rfl (Nat.le_of_ble_eq_true rfl) d_M_plain_310) hS (fun H locs hP hS => ?_)
              refine lv_goto hx hb d_M_plain_313 rfl ?_
              exact zM_plain_b368 Cx hR hret  s27 h ls H locs (lv_sub hl [] rfl) hP hS
          · have h := mb_t hc h
            refine lv_aload_n hx hb d_M_plain_231 rfl (lv_at hl 4 rfl) ?_
            refine lv_iload hx hb d_M_plain_232 (lv_at hl 2 rfl) ?_
            refine lv_aload_n hx hb d_M_plain_234 rfl (lv_at hl 4 rfl) ?_
            refine va_get (ci := 5) (C := cnM) (T := fTM) (N := 30) hx hb hts uwM hown hK hP 0 rfl rfl 25 (by decide) (hts _ wd_550) (fun _ h9 => h9) rfl d_M_plain_235 ?_
            refine lv_iload_n hx hb d_M_plain_238 rfl (lv_at hl 6 rfl) ?_
            refine lv_iload hx hb d_M_plain_239 (lv_at hl 1 rfl) ?_
            refine lv_iadd hx hb d_M_plain_241 ?_
            refine mb_iald hx hb hK hP 19 0 rfl rfl h d_M_plain_242 (fun v28 h => ?_)
            refine lv_aload_n hx hb d_M_plain_243 rfl (lv_at hl 4 rfl) ?_
            refine va_get (ci := 5) (C := cnM) (T := fTM) (N := 30) hx hb hts uwM hown hK hP 0 rfl rfl 26 (by decide) (hts _ wd_551) (fun _ h9 => h9) rfl d_M_plain_244 ?_
            refine lv_iload_n hx hb d_M_plain_247 rfl (lv_at hl 6 rfl) ?_
            refine lv_iload hx hb d_M_plain_248 (lv_at hl 1 rfl) ?_
            refine lv_iadd hx hb d_M_plain_250 ?_
            refine mb_iald hx hb hK hP 20 0 rfl rfl h d_M_plain_251 (fun v29 h => ?_)
            obtain ⟨_u, s30, hs30, h⟩ := mb_cal_ex h
            refine mb_goV Cx (mb_runV (As := [.int v11, .int v28, .int v29]) (rest := []) mb_Z0ok Cx (w_M_assign l D X cI cZ cJ hs30 H.size) (mb_cwV 3 hts wd_776 wd_778 sel_61 wd_7 wd_779 rfl rfl rfl (by decide +kernel) ⟨Nat.le_trans (by decide) hR.1, Nat.le_trans (by decide) hR.2⟩) hP hS 0 rfl rfl rfl hl.1 rfl (Nat.le_of_ble_eq_true rfl) d_M_plain_252) hS (fun H locs hP hS => ?_)
            refine lv_goto hx hb d_M_plain_255 rfl ?_
            exact zM_plain_b368 Cx hR hret  s30 h ls H locs (lv_sub hl [] rfl) hP hS
        · have h := mb_t hc h
          refine lv_aload_n hx hb d_M_plain_213 rfl (lv_at hl 4 rfl) ?_
          refine va_get (ci := 5) (C := cnM) (T := fTM) (N := 30) hx hb hts uwM hown hK hP 0 rfl rfl 26 (by decide) (hts _ wd_551) (fun _ h9 => h9) rfl d_M_plain_214 ?_
          refine lv_iload_n hx hb d_M_plain_217 rfl (lv_at hl 6 rfl) ?_
          refine lv_iload hx hb d_M_plain_218 (lv_at hl 2 rfl) ?_
          refine lv_iadd hx hb d_M_plain_220 ?_
          refine lv_iconst (v := (0 : Int32)) hx hb d_M_plain_221 (by decide) ?_
          refine mb_iast (WS := WM X cI cZ cJ) hx hb hK hP hD hS 20 0 rfl rfl h d_M_plain_222 rfl (fun H locs s31 hP hS h => ?_)
          refine lv_goto hx hb d_M_plain_223 rfl ?_
          exact zM_plain_b368 Cx hR hret  s31 h ls H locs (lv_sub hl [] rfl) hP hS
      · have h := mb_t hc h
        refine lv_aload_n hx hb d_M_plain_148 rfl (lv_at hl 4 rfl) ?_
        refine lv_iconst (v := (2 : Int32)) hx hb d_M_plain_149 (by decide) ?_
        refine lv_iload_n hx hb d_M_plain_150 rfl (lv_at hl 5 rfl) ?_
        refine lv_bipush (v := (12 : Int32)) hx hb d_M_plain_151 (by decide) ?_
        refine lv_idiv hx hb d_M_plain_153 (by decide) ?_
        refine lv_iload hx hb d_M_plain_154 (lv_at hl 0 rfl) ?_
        obtain ⟨v32, s33, hs33, h⟩ := mb_cal_ex h
        refine mb_goI Cx (mb_runV (As := [.int (2 : Int32), .int (x1 / (12 : Int32)), .int v13]) (rest := []) mb_Z0ok Cx (w_M_before l D X cI cZ cJ hs33 H.size) (mb_cwV 3 hts wd_628 wd_630 sel_39 wd_7 wd_631 rfl rfl rfl (by decide +kernel) ⟨Nat.le_trans (by decide) hR.1, Nat.le_trans (by decide) hR.2⟩) hP hS 0 rfl rfl rfl hl.1 rfl (Nat.le_of_ble_eq_true rfl) d_M_plain_156) hS (fun H locs hP hS => ?_)
        refine lv_istore (lv' := [(7, .int v32), (6, .int v13), (5, .int v12), (4, .int v11), (3, .int v10), (0, .ref (X 0)), (1, .int x1), (2, .int x2)]) hx hb d_M_plain_159 hl (by decide) rfl (fun ls hl => ?_)
        refine lv_iconst (v := (0 : Int32)) hx hb d_M_plain_161 (by decide) ?_
        refine lv_istore (lv' := [(8, .int (0 : Int32)), (7, .int v32), (6, .int v13), (5, .int v12), (4, .int v11), (3, .int v10), (0, .ref (X 0)), (1, .int x1), (2, .int x2)]) hx hb d_M_plain_162 hl (by decide) rfl (fun ls hl => ?_)
        exact zM_plain_l164 Cx hR hret  mb_fuel x2 v11 v32 (0 : Int32) s33 h ls H locs (lv_sub hl [6, 8, 4, 1, 0] rfl) hP hS
    · have h := mb_t hc h
      refine lv_aload_n hx hb d_M_plain_116 rfl (lv_at hl 4 rfl) ?_
      refine lv_iconst (v := (1 : Int32)) hx hb d_M_plain_117 (by decide) ?_
      refine lv_iload_n hx hb d_M_plain_118 rfl (lv_at hl 5 rfl) ?_
      refine lv_bipush (v := (12 : Int32)) hx hb d_M_plain_119 (by decide) ?_
      refine lv_idiv hx hb d_M_plain_121 (by decide) ?_
      refine lv_iload hx hb d_M_plain_122 (lv_at hl 0 rfl) ?_
      obtain ⟨v34, s35, hs35, h⟩ := mb_cal_ex h
      refine mb_goI Cx (mb_runV (As := [.int (1 : Int32), .int (x1 / (12 : Int32)), .int v13]) (rest := []) mb_Z0ok Cx (w_M_before l D X cI cZ cJ hs35 H.size) (mb_cwV 3 hts wd_628 wd_630 sel_39 wd_7 wd_631 rfl rfl rfl (by decide +kernel) ⟨Nat.le_trans (by decide) hR.1, Nat.le_trans (by decide) hR.2⟩) hP hS 0 rfl rfl rfl hl.1 rfl (Nat.le_of_ble_eq_true rfl) d_M_plain_124) hS (fun H locs hP hS => ?_)
      refine lv_istore (lv' := [(7, .int v34), (6, .int v13), (5, .int v12), (4, .int v11), (3, .int v10), (0, .ref (X 0)), (1, .int x1), (2, .int x2)]) hx hb d_M_plain_127 hl (by decide) rfl (fun ls hl => ?_)
      refine lv_aload_n hx hb d_M_plain_129 rfl (lv_at hl 5 rfl) ?_
      refine lv_iload hx hb d_M_plain_130 (lv_at hl 3 rfl) ?_
      refine lv_iconst (v := (-1 : Int32)) hx hb d_M_plain_132 (by decide) ?_
      refine lv_iconst (v := (1 : Int32)) hx hb d_M_plain_133 (by decide) ?_
      refine lv_iload hx hb d_M_plain_134 (lv_at hl 0 rfl) ?_
      refine lv_ishl hx hb d_M_plain_136 ?_
      obtain ⟨_u, s36, hs36, h⟩ := mb_cal_ex h
      refine mb_goV Cx (mb_runV (As := [.int v11, .int (-1 : Int32), .int ((1 : Int32) <<< (v34 &&& 31))]) (rest := []) mb_Z0ok Cx (w_M_assign l D X cI cZ cJ hs36 H.size) (mb_cwV 3 hts wd_776 wd_778 sel_61 wd_7 wd_779 rfl rfl rfl (by decide +kernel) ⟨Nat.le_trans (by decide) hR.1, Nat.le_trans (by decide) hR.2⟩) hP hS 0 rfl rfl rfl hl.1 rfl (Nat.le_of_ble_eq_true rfl) d_M_plain_137) hS (fun H locs hP hS => ?_)
      refine lv_goto hx hb d_M_plain_140 rfl ?_
      exact zM_plain_b368 Cx hR hret  s36 h ls H locs (lv_sub hl [] rfl) hP hS
  · have h := mb_t hc h
    refine lv_aload_n hx hb d_M_plain_33 rfl (lv_at hl 4 rfl) ?_
    refine va_get (ci := 5) (C := cnM) (T := fTM) (N := 30) hx hb hts uwM hown hK hP 0 rfl rfl 27 (by decide) (hts _ wd_552) (fun _ h9 => h9) rfl d_M_plain_34 ?_
    refine lv_aload_n hx hb d_M_plain_37 rfl (lv_at hl 4 rfl) ?_
    refine va_get (ci := 5) (C := cnM) (T := fTM) (N := 30) hx hb hts uwM hown hK hP 0 rfl rfl 18 (by decide) (hts _ wd_543) (fun _ h9 => h9) rfl d_M_plain_38 ?_
    refine lv_iload hx hb d_M_plain_41 (lv_at hl 1 rfl) ?_
    refine mb_iast (WS := WM X cI cZ cJ) hx hb hK hP hD hS 21 0 rfl rfl h d_M_plain_43 rfl (fun H locs s37 hP hS h => ?_)
    refine lv_iconst (v := (2 : Int32)) hx hb d_M_plain_44 (by decide) ?_
    refine lv_aload_n hx hb d_M_plain_45 rfl (lv_at hl 4 rfl) ?_
    refine va_get (ci := 5) (C := cnM) (T := fTM) (N := 30) hx hb hts uwM hown hK hP 0 rfl rfl 18 (by decide) (hts _ wd_543) (fun _ h9 => h9) rfl d_M_plain_46 ?_
    refine lv_imul hx hb d_M_plain_49 ?_
    refine lv_topi (fun v38 ev38 => ?_)
    have h := mb_at ev38 h
    refine lv_istore (lv' := [(7, .int v38), (6, .int v13), (5, .int v12), (4, .int v11), (3, .int v10), (0, .ref (X 0)), (1, .int x1), (2, .int x2)]) hx hb d_M_plain_50 hl (by decide) rfl (fun ls hl => ?_)
    exact zM_plain_l52 Cx hR hret  mb_fuel v11 v38 s37 h ls H locs (lv_sub hl [5, 3, 0] rfl) hP hS
set_option maxRecDepth 100000 in
set_option maxHeartbeats 4000000 in
theorem zM_step_b283 {p : Program} {l : Launch} {e : Env} {R : Room} {s0 : State} {m : MethodId} {args : Array Value} {below : List Frame} {meth : Method} {c : Code} {Q : State → Prop} {A : Nat → Prop} {D : va_G} {X : Nat → Nat} {cI cZ cJ : ClassId} {rv : Unit} {rs : mb_S}
    (Cx : mb_C p s0 m args meth c c_M_step 10 lw_w cnM (fun _ _ => True) vwCl D [(cI, .int), (cZ, .boolean), (cJ, .long)] A (WM X cI cZ cJ)) (hR : 2 ≤ R.frames ∧ 54 ≤ R.locals)
    (hret : mb_R p l e R s0 m args below meth c Q vwCl D A (WM X cI cZ cJ) c_M_step .return_ [] rs)   (s : mb_S)
    (h : mM_step_b283  s = some (rv, rs)) : mb_B p l e R s0 m args below meth c Q vwCl D A (WM X cI cZ cJ) 10 [] [] 283 s := by
  unfold mM_step_b283 at h
  intro ls H locs hl hP hS
  have Cx0 := Cx
  obtain ⟨⟨hx, hb, hml, hown, hts⟩, hK, hD, hA, hZ⟩ := Cx0
  exact mb_eV hret h d_M_step_283 hP hS
set_option maxRecDepth 100000 in
set_option maxHeartbeats 4000000 in
theorem zM_step_b256 {p : Program} {l : Launch} {e : Env} {R : Room} {s0 : State} {m : MethodId} {args : Array Value} {below : List Frame} {meth : Method} {c : Code} {Q : State → Prop} {A : Nat → Prop} {D : va_G} {X : Nat → Nat} {cI cZ cJ : ClassId} {rv : Unit} {rs : mb_S}
    (Cx : mb_C p s0 m args meth c c_M_step 10 lw_w cnM (fun _ _ => True) vwCl D [(cI, .int), (cZ, .boolean), (cJ, .long)] A (WM X cI cZ cJ)) (hR : 2 ≤ R.frames ∧ 54 ≤ R.locals)
    (hret : mb_R p l e R s0 m args below meth c Q vwCl D A (WM X cI cZ cJ) c_M_step .return_ [] rs)  (y0 : Int32) (y1 : Int32) (s : mb_S)
    (h : mM_step_b256  y0 y1 s = some (rv, rs)) : mb_B p l e R s0 m args below meth c Q vwCl D A (WM X cI cZ cJ) 10 [] [.int y0, .int y1, .ref (X 18)] 256 s := by
  unfold mM_step_b256 at h
  intro ls H locs hl hP hS
  have Cx0 := Cx
  obtain ⟨⟨hx, hb, hml, hown, hts⟩, hK, hD, hA, hZ⟩ := Cx0
  refine mb_iast (WS := WM X cI cZ cJ) hx hb hK hP hD hS 18 0 rfl rfl h d_M_step_256 rfl (fun H locs s1 hP hS h => ?_)
  refine lv_goto hx hb d_M_step_257 rfl ?_
  exact zM_step_b283 Cx hR hret  s1 h ls H locs (lv_sub hl [] rfl) hP hS
set_option maxRecDepth 100000 in
set_option maxHeartbeats 4000000 in
theorem zM_step_b222 {p : Program} {l : Launch} {e : Env} {R : Room} {s0 : State} {m : MethodId} {args : Array Value} {below : List Frame} {meth : Method} {c : Code} {Q : State → Prop} {A : Nat → Prop} {D : va_G} {X : Nat → Nat} {cI cZ cJ : ClassId} {rv : Unit} {rs : mb_S}
    (Cx : mb_C p s0 m args meth c c_M_step 10 lw_w cnM (fun _ _ => True) vwCl D [(cI, .int), (cZ, .boolean), (cJ, .long)] A (WM X cI cZ cJ)) (hR : 2 ≤ R.frames ∧ 54 ≤ R.locals)
    (hret : mb_R p l e R s0 m args below meth c Q vwCl D A (WM X cI cZ cJ) c_M_step .return_ [] rs)  (x2 : Int32) (y0 : Int32) (s : mb_S)
    (h : mM_step_b222  x2 y0 s = some (rv, rs)) : mb_B p l e R s0 m args below meth c Q vwCl D A (WM X cI cZ cJ) 10 [(0, .ref (X 0)), (2, .int x2)] [.int y0] 222 s := by
  unfold mM_step_b222 at h
  intro ls H locs hl hP hS
  have Cx0 := Cx
  obtain ⟨⟨hx, hb, hml, hown, hts⟩, hK, hD, hA, hZ⟩ := Cx0
  refine lv_istore (lv' := [(9, .int y0), (0, .ref (X 0)), (2, .int x2)]) hx hb d_M_step_222 hl (by decide) rfl (fun ls hl => ?_)
  refine lv_aload_n hx hb d_M_step_224 rfl (lv_at hl 1 rfl) ?_
  refine va_get (ci := 5) (C := cnM) (T := fTM) (N := 30) hx hb hts uwM hown hK hP 0 rfl rfl 24 (by decide) (hts _ wd_549) (fun _ h9 => h9) rfl d_M_step_225 ?_
  refine lv_aload_n hx hb d_M_step_228 rfl (lv_at hl 1 rfl) ?_
  refine va_get (ci := 5) (C := cnM) (T := fTM) (N := 30) hx hb hts uwM hown hK hP 0 rfl rfl 22 (by decide) (hts _ wd_547) (fun _ h9 => h9) rfl d_M_step_229 ?_
  refine lv_iconst (v := (1 : Int32)) hx hb d_M_step_232 (by decide) ?_
  refine lv_isub hx hb d_M_step_233 ?_
  refine lv_iload hx hb d_M_step_234 (lv_at hl 0 rfl) ?_
  refine lv_aload_n hx hb d_M_step_236 rfl (lv_at hl 1 rfl) ?_
  refine va_get (ci := 5) (C := cnM) (T := fTM) (N := 30) hx hb hts uwM hown hK hP 0 rfl rfl 0 (by decide) (hts _ wd_525) (fun _ h9 => h9) rfl d_M_step_237 ?_
  refine lv_iload_n hx hb d_M_step_240 rfl (lv_at hl 2 rfl) ?_
  refine mb_iald hx hb hK hP 1 0 rfl rfl h d_M_step_241 (fun v2 h => ?_)
  refine lv_icmp_le hx hb d_M_step_242 rfl (fun hc => ?_) (fun hc => ?_)
  · have h := mb_t hc h
    refine lv_iload hx hb d_M_step_254 (lv_at hl 0 rfl) ?_
    exact zM_step_b256 Cx hR hret  y0 ((mb_F s 6) - (1 : Int32)) s h ls H locs (lv_sub hl [] rfl) hP hS
  · have h := mb_f hc h
    refine lv_aload_n hx hb d_M_step_245 rfl (lv_at hl 1 rfl) ?_
    refine va_get (ci := 5) (C := cnM) (T := fTM) (N := 30) hx hb hts uwM hown hK hP 0 rfl rfl 0 (by decide) (hts _ wd_525) (fun _ h9 => h9) rfl d_M_step_246 ?_
    refine lv_iload_n hx hb d_M_step_249 rfl (lv_at hl 2 rfl) ?_
    refine mb_iald hx hb hK hP 1 0 rfl rfl h d_M_step_250 (fun v3 h => ?_)
    refine lv_goto hx hb d_M_step_251 rfl ?_
    exact zM_step_b256 Cx hR hret  v3 ((mb_F s 6) - (1 : Int32)) s h ls H locs (lv_sub hl [] rfl) hP hS
set_option maxRecDepth 100000 in
set_option maxHeartbeats 4000000 in
theorem zM_step_b205 {p : Program} {l : Launch} {e : Env} {R : Room} {s0 : State} {m : MethodId} {args : Array Value} {below : List Frame} {meth : Method} {c : Code} {Q : State → Prop} {A : Nat → Prop} {D : va_G} {X : Nat → Nat} {cI cZ cJ : ClassId} {rv : Unit} {rs : mb_S}
    (Cx : mb_C p s0 m args meth c c_M_step 10 lw_w cnM (fun _ _ => True) vwCl D [(cI, .int), (cZ, .boolean), (cJ, .long)] A (WM X cI cZ cJ)) (hR : 2 ≤ R.frames ∧ 54 ≤ R.locals)
    (hret : mb_R p l e R s0 m args below meth c Q vwCl D A (WM X cI cZ cJ) c_M_step .return_ [] rs)  (x2 : Int32) (x3 : Int32) (x6 : Int32) (x8 : Int32) (y0 : Int32) (y1 : Int32) (s : mb_S)
    (h : mM_step_b205  x2 x3 x6 x8 y0 y1 s = some (rv, rs)) : mb_B p l e R s0 m args below meth c Q vwCl D A (WM X cI cZ cJ) 10 [(0, .ref (X 0)), (2, .int x2), (3, .int x3), (6, .int x6), (8, .int x8)] [.int y0, .int y1, .ref (X 0)] 205 s := by
  unfold mM_step_b205 at h
  intro ls H locs hl hP hS
  have Cx0 := Cx
  obtain ⟨⟨hx, hb, hml, hown, hts⟩, hK, hD, hA, hZ⟩ := Cx0
  refine lv_iadd hx hb d_M_step_205 ?_
  have h := mb_putF_ex h
  refine va_put (ci := 5) (v := .int (y1 + y0)) (ty := .int) (C := cnM) (T := fTM) (N := 30) hx hb hts uwM fyM fyM_ok fnM hown hK hP (hD _) hS 0 rfl rfl 21 (by decide) (hts _ wd_546) (fun _ h9 => h9) rfl (by decide +kernel) rfl rfl (Nat.le_of_ble_eq_true rfl) d_M_step_206 (fun H locs hP _ hS => ?_)
  have hP : va_P D vwCl (WM X cI cZ cJ (mb_setF s 5 (y1 + y0))) H := hP
  generalize mb_setF s 5 (y1 + y0) = s4 at hP h
  refine lv_iload hx hb d_M_step_209 (lv_at hl 4 rfl) ?_
  refine lv_if_eq hx hb d_M_step_211 rfl (fun hc => ?_) (fun hc => ?_)
  · have h := mb_t hc h
    refine lv_iload_n hx hb d_M_step_219 rfl (lv_at hl 2 rfl) ?_
    refine lv_iconst (v := (1 : Int32)) hx hb d_M_step_220 (by decide) ?_
    refine lv_iadd hx hb d_M_step_221 ?_
    exact zM_step_b222 Cx hR hret  x2 (x3 + (1 : Int32)) s4 h ls H locs (lv_sub hl [0, 1] rfl) hP hS
  · have h := mb_f hc h
    refine lv_iload hx hb d_M_step_214 (lv_at hl 3 rfl) ?_
    refine lv_goto hx hb d_M_step_216 rfl ?_
    exact zM_step_b222 Cx hR hret  x2 x6 s4 h ls H locs (lv_sub hl [0, 1] rfl) hP hS
set_option maxRecDepth 100000 in
set_option maxHeartbeats 4000000 in
theorem zM_step_b186 {p : Program} {l : Launch} {e : Env} {R : Room} {s0 : State} {m : MethodId} {args : Array Value} {below : List Frame} {meth : Method} {c : Code} {Q : State → Prop} {A : Nat → Prop} {D : va_G} {X : Nat → Nat} {cI cZ cJ : ClassId} {rv : Unit} {rs : mb_S}
    (Cx : mb_C p s0 m args meth c c_M_step 10 lw_w cnM (fun _ _ => True) vwCl D [(cI, .int), (cZ, .boolean), (cJ, .long)] A (WM X cI cZ cJ)) (hR : 2 ≤ R.frames ∧ 54 ≤ R.locals)
    (hret : mb_R p l e R s0 m args below meth c Q vwCl D A (WM X cI cZ cJ) c_M_step .return_ [] rs)  (x2 : Int32) (x3 : Int32) (x5 : Int32) (x6 : Int32) (y0 : Int32) (s : mb_S)
    (h : mM_step_b186  x2 x3 x5 x6 y0 s = some (rv, rs)) : mb_B p l e R s0 m args below meth c Q vwCl D A (WM X cI cZ cJ) 10 [(0, .ref (X 0)), (2, .int x2), (3, .int x3), (5, .int x5), (6, .int x6)] [.int y0] 186 s := by
  unfold mM_step_b186 at h
  intro ls H locs hl hP hS
  have Cx0 := Cx
  obtain ⟨⟨hx, hb, hml, hown, hts⟩, hK, hD, hA, hZ⟩ := Cx0
  refine lv_istore (lv' := [(8, .int y0), (0, .ref (X 0)), (2, .int x2), (3, .int x3), (5, .int x5), (6, .int x6)]) hx hb d_M_step_186 hl (by decide) rfl (fun ls hl => ?_)
  refine lv_aload_n hx hb d_M_step_188 rfl (lv_at hl 1 rfl) ?_
  refine lv_dup hx hb d_M_step_189 rfl ?_
  refine va_get (ci := 5) (C := cnM) (T := fTM) (N := 30) hx hb hts uwM hown hK hP 0 rfl rfl 21 (by decide) (hts _ wd_546) (fun _ h9 => h9) rfl d_M_step_190 ?_
  refine lv_iload hx hb d_M_step_193 (lv_at hl 4 rfl) ?_
  refine lv_bipush (v := (8 : Int32)) hx hb d_M_step_195 (by decide) ?_
  refine lv_icmp_ne hx hb d_M_step_197 rfl (fun hc => ?_) (fun hc => ?_)
  · have h := mb_f hc h
    refine lv_iconst (v := (0 : Int32)) hx hb d_M_step_204 (by decide) ?_
    exact zM_step_b205 Cx hR hret  x2 x3 x6 y0 (0 : Int32) (mb_F s 5) s h ls H locs (lv_sub hl [1, 2, 3, 5, 0] rfl) hP hS
  · have h := mb_t hc h
    refine lv_iconst (v := (1 : Int32)) hx hb d_M_step_200 (by decide) ?_
    refine lv_goto hx hb d_M_step_201 rfl ?_
    exact zM_step_b205 Cx hR hret  x2 x3 x6 y0 (1 : Int32) (mb_F s 5) s h ls H locs (lv_sub hl [1, 2, 3, 5, 0] rfl) hP hS
set_option maxRecDepth 100000 in
set_option maxHeartbeats 4000000 in
theorem zM_step_b181 {p : Program} {l : Launch} {e : Env} {R : Room} {s0 : State} {m : MethodId} {args : Array Value} {below : List Frame} {meth : Method} {c : Code} {Q : State → Prop} {A : Nat → Prop} {D : va_G} {X : Nat → Nat} {cI cZ cJ : ClassId} {rv : Unit} {rs : mb_S}
    (Cx : mb_C p s0 m args meth c c_M_step 10 lw_w cnM (fun _ _ => True) vwCl D [(cI, .int), (cZ, .boolean), (cJ, .long)] A (WM X cI cZ cJ)) (hR : 2 ≤ R.frames ∧ 54 ≤ R.locals)
    (hret : mb_R p l e R s0 m args below meth c Q vwCl D A (WM X cI cZ cJ) c_M_step .return_ [] rs)  (x2 : Int32) (x3 : Int32) (x5 : Int32) (x6 : Int32) (s : mb_S)
    (h : mM_step_b181  x2 x3 x5 x6 s = some (rv, rs)) : mb_B p l e R s0 m args below meth c Q vwCl D A (WM X cI cZ cJ) 10 [(0, .ref (X 0)), (2, .int x2), (3, .int x3), (5, .int x5), (6, .int x6)] [] 181 s := by
  unfold mM_step_b181 at h
  intro ls H locs hl hP hS
  have Cx0 := Cx
  obtain ⟨⟨hx, hb, hml, hown, hts⟩, hK, hD, hA, hZ⟩ := Cx0
  refine lv_iconst (v := (1 : Int32)) hx hb d_M_step_181 (by decide) ?_
  refine lv_goto hx hb d_M_step_182 rfl ?_
  exact zM_step_b186 Cx hR hret  x2 x3 x5 x6 (1 : Int32) s h ls H locs (lv_sub hl [0, 1, 2, 3, 4] rfl) hP hS
set_option maxRecDepth 100000 in
set_option maxHeartbeats 4000000 in
theorem zM_step_b159 {p : Program} {l : Launch} {e : Env} {R : Room} {s0 : State} {m : MethodId} {args : Array Value} {below : List Frame} {meth : Method} {c : Code} {Q : State → Prop} {A : Nat → Prop} {D : va_G} {X : Nat → Nat} {cI cZ cJ : ClassId} {rv : Unit} {rs : mb_S}
    (Cx : mb_C p s0 m args meth c c_M_step 10 lw_w cnM (fun _ _ => True) vwCl D [(cI, .int), (cZ, .boolean), (cJ, .long)] A (WM X cI cZ cJ)) (hR : 2 ≤ R.frames ∧ 54 ≤ R.locals)
    (hret : mb_R p l e R s0 m args below meth c Q vwCl D A (WM X cI cZ cJ) c_M_step .return_ [] rs)  (x1 : Int32) (x2 : Int32) (x3 : Int32) (x5 : Int32) (x6 : Int32) (s : mb_S)
    (h : mM_step_b159  x1 x2 x3 x5 x6 s = some (rv, rs)) : mb_B p l e R s0 m args below meth c Q vwCl D A (WM X cI cZ cJ) 10 [(0, .ref (X 0)), (1, .int x1), (2, .int x2), (3, .int x3), (5, .int x5), (6, .int x6)] [] 159 s := by
  unfold mM_step_b159 at h
  intro ls H locs hl hP hS
  have Cx0 := Cx
  obtain ⟨⟨hx, hb, hml, hown, hts⟩, hK, hD, hA, hZ⟩ := Cx0
  refine lv_iload hx hb d_M_step_159 (lv_at hl 4 rfl) ?_
  refine lv_bipush (v := (9 : Int32)) hx hb d_M_step_161 (by decide) ?_
  refine lv_icmp_eq hx hb d_M_step_163 rfl (fun hc => ?_) (fun hc => ?_)
  · have h := mb_t hc h
    exact zM_step_b181 Cx hR hret  x2 x3 x5 x6 s h ls H locs (lv_sub hl [0, 2, 3, 4, 5] rfl) hP hS
  · have h := mb_f hc h
    refine lv_iload_n hx hb d_M_step_166 rfl (lv_at hl 1 rfl) ?_
    refine lv_aload_n hx hb d_M_step_167 rfl (lv_at hl 0 rfl) ?_
    refine va_get (ci := 5) (C := cnM) (T := fTM) (N := 30) hx hb hts uwM hown hK hP 0 rfl rfl 21 (by decide) (hts _ wd_546) (fun _ h9 => h9) rfl d_M_step_168 ?_
    refine lv_bipush (v := (31 : Int32)) hx hb d_M_step_171 (by decide) ?_
    refine lv_iand hx hb d_M_step_173 ?_
    refine lv_ishr hx hb d_M_step_174 ?_
    refine lv_iconst (v := (1 : Int32)) hx hb d_M_step_175 (by decide) ?_
    refine lv_iand hx hb d_M_step_176 ?_
    refine lv_iconst (v := (1 : Int32)) hx hb d_M_step_177 (by decide) ?_
    refine lv_icmp_ne hx hb d_M_step_178 rfl (fun hc => ?_) (fun hc => ?_)
    · have h := mb_f hc h
      refine lv_iconst (v := (0 : Int32)) hx hb d_M_step_185 (by decide) ?_
      exact zM_step_b186 Cx hR hret  x2 x3 x5 x6 (0 : Int32) s h ls H locs (lv_sub hl [0, 2, 3, 4, 5] rfl) hP hS
    · have h := mb_t hc h
      exact zM_step_b181 Cx hR hret  x2 x3 x5 x6 s h ls H locs (lv_sub hl [0, 2, 3, 4, 5] rfl) hP hS
set_option maxRecDepth 100000 in
set_option maxHeartbeats 4000000 in
theorem w_M_step (l : Launch) (D : va_G) (X : Nat → Nat) (cI cZ cJ : ClassId) {x1 : Int32} {s : mb_S} {rv : Unit} {rs : mb_S}
    (h : mM_step x1 s = some (rv, rs)) : mb_MV l y_M_step ws_M_step rm_M_step (fun _ _ => True) vwCl D [(cI, .int), (cZ, .boolean), (cJ, .long)] (WM X cI cZ cJ) [.ref (X 0), .int x1] s rs := by
  refine mb_ofV mb_Z0ok (by decide) rfl (Nat.le_of_ble_eq_true rfl) mb_DMok ?_
  intro p e s0 m args below meth c Q A Cx hret
  have hR : 2 ≤ (rm_M_step).frames ∧ 54 ≤ (rm_M_step).locals := ⟨Nat.le_refl _, Nat.le_refl _⟩
  intro ls H locs hl hP hS
  have Cx0 := Cx
  obtain ⟨⟨hx, hb, hml, hown, hts⟩, hK, hD, hA, hZ⟩ := Cx0
  have hl : lv_has ls 10 [(0, .ref (X 0)), (1, .int x1)] := hl
  unfold mM_step at h
  refine lv_aload_n hx hb d_M_step_0 rfl (lv_at hl 0 rfl) ?_
  refine va_get (ci := 5) (C := cnM) (T := fTM) (N := 30) hx hb hts uwM hown hK hP 0 rfl rfl 23 (by decide) (hts _ wd_548) (fun _ h9 => h9) rfl d_M_step_1 ?_
  refine lv_aload_n hx hb d_M_step_4 rfl (lv_at hl 0 rfl) ?_
  refine va_get (ci := 5) (C := cnM) (T := fTM) (N := 30) hx hb hts uwM hown hK hP 0 rfl rfl 22 (by decide) (hts _ wd_547) (fun _ h9 => h9) rfl d_M_step_5 ?_
  refine lv_iconst (v := (1 : Int32)) hx hb d_M_step_8 (by decide) ?_
  refine lv_isub hx hb d_M_step_9 ?_
  refine mb_iald hx hb hK hP 17 0 rfl rfl h d_M_step_10 (fun v5 h => ?_)
  refine lv_istore_n (lv' := [(2, .int v5), (0, .ref (X 0)), (1, .int x1)]) hx hb d_M_step_11 rfl hl (by decide) rfl (fun ls hl => ?_)
  refine lv_aload_n hx hb d_M_step_12 rfl (lv_at hl 1 rfl) ?_
  refine va_get (ci := 5) (C := cnM) (T := fTM) (N := 30) hx hb hts uwM hown hK hP 0 rfl rfl 24 (by decide) (hts _ wd_549) (fun _ h9 => h9) rfl d_M_step_13 ?_
  refine lv_aload_n hx hb d_M_step_16 rfl (lv_at hl 1 rfl) ?_
  refine va_get (ci := 5) (C := cnM) (T := fTM) (N := 30) hx hb hts uwM hown hK hP 0 rfl rfl 22 (by decide) (hts _ wd_547) (fun _ h9 => h9) rfl d_M_step_17 ?_
  refine lv_iconst (v := (1 : Int32)) hx hb d_M_step_20 (by decide) ?_
  refine lv_isub hx hb d_M_step_21 ?_
  refine mb_iald hx hb hK hP 18 0 rfl rfl h d_M_step_22 (fun v6 h => ?_)
  refine lv_istore_n (lv' := [(3, .int v6), (2, .int v5), (0, .ref (X 0)), (1, .int x1)]) hx hb d_M_step_23 rfl hl (by decide) rfl (fun ls hl => ?_)
  refine lv_bipush (v := (12 : Int32)) hx hb d_M_step_24 (by decide) ?_
  refine lv_iload_n hx hb d_M_step_26 rfl (lv_at hl 1 rfl) ?_
  refine lv_imul hx hb d_M_step_27 ?_
  refine lv_iload_n hx hb d_M_step_28 rfl (lv_at hl 0 rfl) ?_
  refine lv_iadd hx hb d_M_step_29 ?_
  refine lv_topi (fun v7 ev7 => ?_)
  have h := mb_at ev7 h
  refine lv_istore (lv' := [(4, .int v7), (3, .int v6), (2, .int v5), (0, .ref (X 0)), (1, .int x1)]) hx hb d_M_step_30 hl (by decide) rfl (fun ls hl => ?_)
  refine lv_aload_n hx hb d_M_step_32 rfl (lv_at hl 3 rfl) ?_
  refine va_get (ci := 5) (C := cnM) (T := fTM) (N := 30) hx hb hts uwM hown hK hP 0 rfl rfl 1 (by decide) (hts _ wd_526) (fun _ h9 => h9) rfl d_M_step_33 ?_
  refine lv_iload hx hb d_M_step_36 (lv_at hl 0 rfl) ?_
  refine mb_iald hx hb hK hP 2 0 rfl rfl h d_M_step_38 (fun v8 h => ?_)
  refine lv_istore (lv' := [(5, .int v8), (4, .int v7), (3, .int v6), (2, .int v5), (0, .ref (X 0)), (1, .int x1)]) hx hb d_M_step_39 hl (by decide) rfl (fun ls hl => ?_)
  refine lv_aload_n hx hb d_M_step_41 rfl (lv_at hl 4 rfl) ?_
  refine va_get (ci := 5) (C := cnM) (T := fTM) (N := 30) hx hb hts uwM hown hK hP 0 rfl rfl 2 (by decide) (hts _ wd_527) (fun _ h9 => h9) rfl d_M_step_42 ?_
  refine lv_iload hx hb d_M_step_45 (lv_at hl 1 rfl) ?_
  refine mb_iald hx hb hK hP 3 0 rfl rfl h d_M_step_47 (fun v9 h => ?_)
  refine lv_istore (lv' := [(6, .int v9), (5, .int v8), (4, .int v7), (3, .int v6), (2, .int v5), (0, .ref (X 0)), (1, .int x1)]) hx hb d_M_step_48 hl (by decide) rfl (fun ls hl => ?_)
  refine lv_iconst (v := (4 : Int32)) hx hb d_M_step_50 (by decide) ?_
  refine lv_aload_n hx hb d_M_step_51 rfl (lv_at hl 5 rfl) ?_
  refine va_get (ci := 5) (C := cnM) (T := fTM) (N := 30) hx hb hts uwM hown hK hP 0 rfl rfl 22 (by decide) (hts _ wd_547) (fun _ h9 => h9) rfl d_M_step_52 ?_
  refine lv_iconst (v := (1 : Int32)) hx hb d_M_step_55 (by decide) ?_
  refine lv_isub hx hb d_M_step_56 ?_
  refine lv_imul hx hb d_M_step_57 ?_
  refine lv_topi (fun v10 ev10 => ?_)
  have h := mb_at ev10 h
  refine lv_istore (lv' := [(7, .int v10), (6, .int v9), (5, .int v8), (4, .int v7), (3, .int v6), (2, .int v5), (0, .ref (X 0)), (1, .int x1)]) hx hb d_M_step_58 hl (by decide) rfl (fun ls hl => ?_)
  refine lv_iload hx hb d_M_step_60 (lv_at hl 2 rfl) ?_
  refine lv_bipush (v := (7 : Int32)) hx hb d_M_step_62 (by decide) ?_
  refine lv_icmp_ne hx hb d_M_step_64 rfl (fun hc => ?_) (fun hc => ?_)
  · have h := mb_f hc h
    refine lv_iload hx hb d_M_step_129 (lv_at hl 2 rfl) ?_
    refine lv_bipush (v := (10 : Int32)) hx hb d_M_step_131 (by decide) ?_
    refine lv_icmp_ne hx hb d_M_step_133 rfl (fun hc => ?_) (fun hc => ?_)
    · have h := mb_f hc h
      refine lv_iload hx hb d_M_step_145 (lv_at hl 2 rfl) ?_
      refine lv_bipush (v := (8 : Int32)) hx hb d_M_step_147 (by decide) ?_
      refine lv_icmp_eq hx hb d_M_step_149 rfl (fun hc => ?_) (fun hc => ?_)
      · have h := mb_t hc h
        exact zM_step_b159 Cx hR hret  x1 v5 v6 v8 v9 s h ls H locs (lv_sub hl [6, 7, 5, 4, 2, 1] rfl) hP hS
      · have h := mb_f hc h
        refine lv_iload hx hb d_M_step_152 (lv_at hl 2 rfl) ?_
        refine lv_bipush (v := (9 : Int32)) hx hb d_M_step_154 (by decide) ?_
        refine lv_icmp_ne hx hb d_M_step_156 rfl (fun hc => ?_) (fun hc => ?_)
        · have h := mb_f hc h
          refine lv_aload_n hx hb d_M_step_260 rfl (lv_at hl 6 rfl) ?_
          refine lv_iload hx hb d_M_step_261 (lv_at hl 3 rfl) ?_
          refine lv_iload hx hb d_M_step_263 (lv_at hl 0 rfl) ?_
          obtain ⟨_u, s11, hs11, h⟩ := mb_cal_ex h
          refine mb_goV Cx (mb_runV (As := [.int v7, .int v10]) (rest := []) mb_Z0ok Cx (w_M_plain l D X cI cZ cJ hs11 H.size) (mb_cwV 2 hts wd_792 wd_794 sel_65 wd_7 wd_795 rfl rfl rfl (by decide +kernel) ⟨Nat.le_trans (by decide) hR.1, Nat.le_trans (by decide) hR.2⟩) hP hS 0 rfl rfl rfl hl.1 rfl (Nat.le_of_ble_eq_true rfl) d_M_step_265) hS (fun H locs hP hS => ?_)
          refine lv_aload_n hx hb d_M_step_268 rfl (lv_at hl 6 rfl) ?_
          refine va_get (ci := 5) (C := cnM) (T := fTM) (N := 30) hx hb hts uwM hown hK hP 0 rfl rfl 24 (by decide) (hts _ wd_549) (fun _ h9 => h9) rfl d_M_step_269 ?_
          refine lv_aload_n hx hb d_M_step_272 rfl (lv_at hl 6 rfl) ?_
          refine va_get (ci := 5) (C := cnM) (T := fTM) (N := 30) hx hb hts uwM hown hK hP 0 rfl rfl 22 (by decide) (hts _ wd_547) (fun _ h9 => h9) rfl d_M_step_273 ?_
          refine lv_iconst (v := (1 : Int32)) hx hb d_M_step_276 (by decide) ?_
          refine lv_isub hx hb d_M_step_277 ?_
          refine lv_dup2_11 hx hb d_M_step_278 rfl rfl ?_
          refine mb_iald hx hb hK hP 18 0 rfl rfl h d_M_step_279 (fun v12 h => ?_)
          refine lv_iconst (v := (1 : Int32)) hx hb d_M_step_280 (by decide) ?_
          refine lv_iadd hx hb d_M_step_281 ?_
          refine mb_iast (WS := WM X cI cZ cJ) hx hb hK hP hD hS 18 0 rfl rfl h d_M_step_282 rfl (fun H locs s13 hP hS h => ?_)
          exact zM_step_b283 Cx hR hret  s13 h ls H locs (lv_sub hl [] rfl) hP hS
        · have h := mb_t hc h
          exact zM_step_b159 Cx hR hret  x1 v5 v6 v8 v9 s h ls H locs (lv_sub hl [6, 7, 5, 4, 2, 1] rfl) hP hS
    · have h := mb_t hc h
      refine lv_aload_n hx hb d_M_step_136 rfl (lv_at hl 6 rfl) ?_
      refine lv_iload hx hb d_M_step_137 (lv_at hl 1 rfl) ?_
      obtain ⟨_u, s14, hs14, h⟩ := mb_cal_ex h
      refine mb_goV Cx (mb_runV (As := [.int v9]) (rest := []) mb_Z0ok Cx (w_M_leave l D X cI cZ cJ hs14 H.size) (mb_cwV 1 hts wd_780 wd_782 sel_62 wd_7 wd_783 rfl rfl rfl (by decide +kernel) ⟨Nat.le_trans (by decide) hR.1, Nat.le_trans (by decide) hR.2⟩) hP hS 0 rfl rfl rfl hl.1 rfl (Nat.le_of_ble_eq_true rfl) d_M_step_139) hS (fun H locs hP hS => ?_)
      refine lv_goto hx hb d_M_step_142 rfl ?_
      exact zM_step_b283 Cx hR hret  s14 h ls H locs (lv_sub hl [] rfl) hP hS
  · have h := mb_t hc h
    refine lv_iload hx hb d_M_step_67 (lv_at hl 0 rfl) ?_
    refine lv_aload_n hx hb d_M_step_69 rfl (lv_at hl 6 rfl) ?_
    refine va_get (ci := 5) (C := cnM) (T := fTM) (N := 30) hx hb hts uwM hown hK hP 0 rfl rfl 3 (by decide) (hts _ wd_528) (fun _ h9 => h9) rfl d_M_step_70 ?_
    refine lv_iload hx hb d_M_step_73 (lv_at hl 3 rfl) ?_
    refine mb_iald hx hb hK hP 4 0 rfl rfl h d_M_step_75 (fun v15 h => ?_)
    refine lv_iadd hx hb d_M_step_76 ?_
    refine lv_topi (fun v16 ev16 => ?_)
    have h := mb_at ev16 h
    refine lv_istore (lv' := [(8, .int v16), (7, .int v10), (6, .int v9), (5, .int v8), (4, .int v7), (3, .int v6), (2, .int v5), (0, .ref (X 0)), (1, .int x1)]) hx hb d_M_step_77 hl (by decide) rfl (fun ls hl => ?_)
    refine lv_aload_n hx hb d_M_step_79 rfl (lv_at hl 7 rfl) ?_
    refine lv_aload_n hx hb d_M_step_80 rfl (lv_at hl 7 rfl) ?_
    refine va_get (ci := 5) (C := cnM) (T := fTM) (N := 30) hx hb hts uwM hown hK hP 0 rfl rfl 27 (by decide) (hts _ wd_552) (fun _ h9 => h9) rfl d_M_step_81 ?_
    refine lv_aload_n hx hb d_M_step_84 rfl (lv_at hl 7 rfl) ?_
    refine va_get (ci := 5) (C := cnM) (T := fTM) (N := 30) hx hb hts uwM hown hK hP 0 rfl rfl 25 (by decide) (hts _ wd_550) (fun _ h9 => h9) rfl d_M_step_85 ?_
    refine lv_iload hx hb d_M_step_88 (lv_at hl 0 rfl) ?_
    refine mb_iald hx hb hK hP 19 0 rfl rfl h d_M_step_90 (fun v17 h => ?_)
    refine mb_iald hx hb hK hP 21 0 rfl rfl h d_M_step_91 (fun v18 h => ?_)
    refine lv_aload_n hx hb d_M_step_92 rfl (lv_at hl 7 rfl) ?_
    refine va_get (ci := 5) (C := cnM) (T := fTM) (N := 30) hx hb hts uwM hown hK hP 0 rfl rfl 4 (by decide) (hts _ wd_529) (fun _ h9 => h9) rfl d_M_step_93 ?_
    refine lv_iload hx hb d_M_step_96 (lv_at hl 4 rfl) ?_
    refine mb_iald hx hb hK hP 5 0 rfl rfl h d_M_step_98 (fun v19 h => ?_)
    refine lv_iconst (v := (4 : Int32)) hx hb d_M_step_99 (by decide) ?_
    refine lv_idiv hx hb d_M_step_100 (by decide) ?_
    obtain ⟨v20, s21, hs21, h⟩ := mb_cal_ex h
    refine mb_goI Cx (mb_runV (As := [.int v18, .int (v19 / (4 : Int32))]) (rest := []) mb_Z0ok Cx (w_M_target l D X cI cZ cJ hs21 H.size) (mb_cwV 2 hts wd_685 wd_649 wd_650 wd_7 wd_651 rfl rfl rfl (by decide +kernel) ⟨Nat.le_trans (by decide) hR.1, Nat.le_trans (by decide) hR.2⟩) hP hS 0 rfl rfl rfl hl.1 rfl (Nat.le_of_ble_eq_true rfl) d_M_step_101) hS (fun H locs hP hS => ?_)
    refine lv_istore (lv' := [(9, .int v20), (8, .int v16), (7, .int v10), (6, .int v9), (5, .int v8), (4, .int v7), (3, .int v6), (2, .int v5), (0, .ref (X 0)), (1, .int x1)]) hx hb d_M_step_104 hl (by decide) rfl (fun ls hl => ?_)
    refine lv_aload_n hx hb d_M_step_106 rfl (lv_at hl 8 rfl) ?_
    refine lv_iload hx hb d_M_step_107 (lv_at hl 0 rfl) ?_
    refine lv_iload hx hb d_M_step_109 (lv_at hl 1 rfl) ?_
    refine lv_iload hx hb d_M_step_111 (lv_at hl 2 rfl) ?_
    refine lv_aload_n hx hb d_M_step_113 rfl (lv_at hl 8 rfl) ?_
    refine va_get (ci := 5) (C := cnM) (T := fTM) (N := 30) hx hb hts uwM hown hK hP 0 rfl rfl 4 (by decide) (hts _ wd_529) (fun _ h9 => h9) rfl d_M_step_114 ?_
    refine lv_iload hx hb d_M_step_117 (lv_at hl 5 rfl) ?_
    refine mb_iald hx hb hK hP 5 0 rfl rfl h d_M_step_119 (fun v22 h => ?_)
    refine lv_iconst (v := (4 : Int32)) hx hb d_M_step_120 (by decide) ?_
    refine lv_irem hx hb d_M_step_121 (by decide) ?_
    refine lv_iadd hx hb d_M_step_122 ?_
    obtain ⟨_u, s23, hs23, h⟩ := mb_cal_ex h
    refine mb_goV Cx (mb_runV (As := [.int v20, .int v16, .int (v10 + (v22 - v22 / (4 : Int32) * (4 : Int32)))]) (rest := []) mb_Z0ok Cx (w_M_enter l D X cI cZ cJ hs23 H.size) (mb_cwV 3 hts wd_772 wd_774 sel_60 wd_7 wd_775 rfl rfl rfl (by decide +kernel) ⟨Nat.le_trans (by decide) hR.1, Nat.le_trans (by decide) hR.2⟩) hP hS 0 rfl rfl rfl hl.1 rfl (Nat.le_of_ble_eq_true rfl) d_M_step_123) hS (fun H locs hP hS => ?_)
    refine lv_goto hx hb d_M_step_126 rfl ?_
    exact zM_step_b283 Cx hR hret  s23 h ls H locs (lv_sub hl [] rfl) hP hS
