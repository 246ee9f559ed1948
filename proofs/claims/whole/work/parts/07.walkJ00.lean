set_option maxRecDepth 100000 in
set_option maxHeartbeats 4000000 in
theorem w_J_bitCount (l : Launch) (D : va_G) {x0 : Int32} {rv : Int32}
    (h : mJ_bitCount x0 = some rv) : mb_MI l y_J_bitCount ws_J_bitCount rm_J_bitCount (fun _ _ => True) vwCl D [] (fun _ => []) [.int x0] mb_0 rv mb_0 := by
  refine mb_ofI mb_Z0ok (by decide) rfl (Nat.le_of_ble_eq_true rfl) mb_D0ok ?_
  intro p e s0 m args below meth c Q A Cx hret
  have hR : 0 ≤ (rm_J_bitCount).frames ∧ 0 ≤ (rm_J_bitCount).locals := ⟨Nat.le_refl _, Nat.le_refl _⟩
  intro ls H locs hl hP hS
  have Cx0 := Cx
  obtain ⟨⟨hx, hb, hml, hown, hts⟩, hK, hD, hA, hZ⟩ := Cx0
  have hl : lv_has ls 1 [(0, .int x0)] := hl
  unfold mJ_bitCount at h
  refine lv_iload_n hx hb d_J_bitCount_0 rfl (lv_at hl 0 rfl) ?_
  refine lv_iload_n hx hb d_J_bitCount_1 rfl (lv_at hl 0 rfl) ?_
  refine lv_iconst (v := (1 : Int32)) hx hb d_J_bitCount_2 (by decide) ?_
  refine lv_iushr hx hb d_J_bitCount_3 rfl ?_
  refine lv_ldcw (v := (1431655765 : Int32)) hx hb hown (hts _ wd_396) d_J_bitCount_4 ?_
  refine lv_iand hx hb d_J_bitCount_7 ?_
  refine lv_isub hx hb d_J_bitCount_8 ?_
  refine lv_topi (fun v1 ev1 => ?_)
  have h := mb_at ev1 h
  refine lv_istore_n (lv' := [(0, .int v1)]) hx hb d_J_bitCount_9 rfl hl (by decide) rfl (fun ls hl => ?_)
  refine lv_iload_n hx hb d_J_bitCount_10 rfl (lv_at hl 0 rfl) ?_
  refine lv_ldcw (v := (858993459 : Int32)) hx hb hown (hts _ wd_397) d_J_bitCount_11 ?_
  refine lv_iand hx hb d_J_bitCount_14 ?_
  refine lv_iload_n hx hb d_J_bitCount_15 rfl (lv_at hl 0 rfl) ?_
  refine lv_iconst (v := (2 : Int32)) hx hb d_J_bitCount_16 (by decide) ?_
  refine lv_iushr hx hb d_J_bitCount_17 rfl ?_
  refine lv_ldcw (v := (858993459 : Int32)) hx hb hown (hts _ wd_397) d_J_bitCount_18 ?_
  refine lv_iand hx hb d_J_bitCount_21 ?_
  refine lv_iadd hx hb d_J_bitCount_22 ?_
  refine lv_topi (fun v2 ev2 => ?_)
  have h := mb_at ev2 h
  refine lv_istore_n (lv' := [(0, .int v2)]) hx hb d_J_bitCount_23 rfl hl (by decide) rfl (fun ls hl => ?_)
  refine lv_iload_n hx hb d_J_bitCount_24 rfl (lv_at hl 0 rfl) ?_
  refine lv_iload_n hx hb d_J_bitCount_25 rfl (lv_at hl 0 rfl) ?_
  refine lv_iconst (v := (4 : Int32)) hx hb d_J_bitCount_26 (by decide) ?_
  refine lv_iushr hx hb d_J_bitCount_27 rfl ?_
  refine lv_iadd hx hb d_J_bitCount_28 ?_
  refine lv_ldcw (v := (252645135 : Int32)) hx hb hown (hts _ wd_398) d_J_bitCount_29 ?_
  refine lv_iand hx hb d_J_bitCount_32 ?_
  refine lv_topi (fun v3 ev3 => ?_)
  have h := mb_at ev3 h
  refine lv_istore_n (lv' := [(0, .int v3)]) hx hb d_J_bitCount_33 rfl hl (by decide) rfl (fun ls hl => ?_)
  refine lv_iload_n hx hb d_J_bitCount_34 rfl (lv_at hl 0 rfl) ?_
  refine lv_iload_n hx hb d_J_bitCount_35 rfl (lv_at hl 0 rfl) ?_
  refine lv_bipush (v := (8 : Int32)) hx hb d_J_bitCount_36 (by decide) ?_
  refine lv_iushr hx hb d_J_bitCount_38 rfl ?_
  refine lv_iadd hx hb d_J_bitCount_39 ?_
  refine lv_topi (fun v4 ev4 => ?_)
  have h := mb_at ev4 h
  refine lv_istore_n (lv' := [(0, .int v4)]) hx hb d_J_bitCount_40 rfl hl (by decide) rfl (fun ls hl => ?_)
  refine lv_iload_n hx hb d_J_bitCount_41 rfl (lv_at hl 0 rfl) ?_
  refine lv_iload_n hx hb d_J_bitCount_42 rfl (lv_at hl 0 rfl) ?_
  refine lv_bipush (v := (16 : Int32)) hx hb d_J_bitCount_43 (by decide) ?_
  refine lv_iushr hx hb d_J_bitCount_45 rfl ?_
  refine lv_iadd hx hb d_J_bitCount_46 ?_
  refine lv_topi (fun v5 ev5 => ?_)
  have h := mb_at ev5 h
  refine lv_istore_n (lv' := [(0, .int v5)]) hx hb d_J_bitCount_47 rfl hl (by decide) rfl (fun ls hl => ?_)
  refine lv_iload_n hx hb d_J_bitCount_48 rfl (lv_at hl 0 rfl) ?_
  refine lv_bipush (v := (63 : Int32)) hx hb d_J_bitCount_49 (by decide) ?_
  refine lv_iand hx hb d_J_bitCount_51 ?_
  exact mb_eI0 hret h d_J_bitCount_52 hP hS
