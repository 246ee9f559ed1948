set_option maxRecDepth 100000 in
set_option maxHeartbeats 4000000 in
theorem lc_0 {p : Program} {l : Launch} {e : Env} {s : State} {m : MethodId} {below : List Frame} {meth : Method} {c : Code} {H : Heap} {locs : List Loc} {Q : State → Prop} {D : va_G} {X Y : Nat → Nat} {cI cZ cJ : ClassId} {b L : Nat} {xs : Nat → Int32} {i : Nat} {sx sm : mb_S} {ls : Array Slot} (G : lc_G p s m c b L xs D X Y cI cZ cJ) (hi : i + 6 ≤ L) (hl : lv_has ls 4 [(3, .int (nI i)), (2, .ref (Y 0)), (1, .ref (X 0)), (0, .ref b)]) (hr : lf_rel sm sx) (hPx : va_P D vwCl (WX X cI cZ cJ sx) H) (hPm : va_P D vwCl (WM Y cI cZ cJ sm) H) (hS : va_S (lc_A s) s.heap H locs)
    (kk : ∀ (H : Heap) (locs : List Loc) (sx sm : mb_S), lf_rel sm sx → va_P D vwCl (WX X cI cZ cJ sx) H → va_P D vwCl (WM Y cI cZ cJ sm) H → va_S (lc_A s) s.heap H locs → W p l e room_1 s m #[Value.ref b] below meth c H locs 53 8234 Q (F0 m 637 ls [])) : W p l e room_1 s m #[Value.ref b] below meth c H locs 53 8234 Q (F0 m 116 ls []) := by
  obtain ⟨S, hK, hDx, hDm, hDis, hZ, hX, hbl, hLN⟩ := G
  have S0 := S
  obtain ⟨hx, hb, hml, hown, hts⟩ := S0
  have hA : ∀ q : Nat, s.heap.size ≤ q → lc_A s q := fun _ h => h
  have hbA : ¬ lc_A s b := Nat.not_le.mpr hbl
  obtain ⟨r, sm1, sx1, e1, e2, hr1⟩ := lf_st_add hr (xs (nI i + (1 : Int32)).toNatClampNeg) (xs (nI i + (2 : Int32)).toNatClampNeg) (xs (nI i + (3 : Int32)).toNatClampNeg) (xs (nI i + (4 : Int32)).toNatClampNeg) (xs (nI i + (5 : Int32)).toNatClampNeg)
  refine lv_aload_n hx hb d_L_116 rfl (lv_at hl 2 rfl) ?_
  refine lv_aload_n hx hb d_L_117 rfl (lv_at hl 3 rfl) ?_
  refine lv_iload_n hx hb d_L_118 rfl (lv_at hl 0 rfl) ?_
  refine lv_iconst (v := (1 : Int32)) hx hb d_L_119 (by decide) ?_
  refine lv_iadd hx hb d_L_120 ?_
  refine va_sld (i := nI i + (1 : Int32)) hx hb hX hbl hbA hS (lw_in (k := 1) (by omega) (by omega)) d_L_121 ?_
  refine lv_aload_n hx hb d_L_122 rfl (lv_at hl 3 rfl) ?_
  refine lv_iload_n hx hb d_L_123 rfl (lv_at hl 0 rfl) ?_
  refine lv_iconst (v := (2 : Int32)) hx hb d_L_124 (by decide) ?_
  refine lv_iadd hx hb d_L_125 ?_
  refine va_sld (i := nI i + (2 : Int32)) hx hb hX hbl hbA hS (lw_in (k := 2) (by omega) (by omega)) d_L_126 ?_
  refine lv_aload_n hx hb d_L_127 rfl (lv_at hl 3 rfl) ?_
  refine lv_iload_n hx hb d_L_128 rfl (lv_at hl 0 rfl) ?_
  refine lv_iconst (v := (3 : Int32)) hx hb d_L_129 (by decide) ?_
  refine lv_iadd hx hb d_L_130 ?_
  refine va_sld (i := nI i + (3 : Int32)) hx hb hX hbl hbA hS (lw_in (k := 3) (by omega) (by omega)) d_L_131 ?_
  refine lv_aload_n hx hb d_L_132 rfl (lv_at hl 3 rfl) ?_
  refine lv_iload_n hx hb d_L_133 rfl (lv_at hl 0 rfl) ?_
  refine lv_iconst (v := (4 : Int32)) hx hb d_L_134 (by decide) ?_
  refine lv_iadd hx hb d_L_135 ?_
  refine va_sld (i := nI i + (4 : Int32)) hx hb hX hbl hbA hS (lw_in (k := 4) (by omega) (by omega)) d_L_136 ?_
  refine lv_aload_n hx hb d_L_137 rfl (lv_at hl 3 rfl) ?_
  refine lv_iload_n hx hb d_L_138 rfl (lv_at hl 0 rfl) ?_
  refine lv_iconst (v := (5 : Int32)) hx hb d_L_139 (by decide) ?_
  refine lv_iadd hx hb d_L_140 ?_
  refine va_sld (i := nI i + (5 : Int32)) hx hb hX hbl hbA hS (lw_in (k := 5) (by omega) (by omega)) d_L_141 ?_
  refine lw_callI (WS := WX X cI cZ cJ) (wo := WM Y cI cZ cJ sm) (As := [.int (xs (nI i + (1 : Int32)).toNatClampNeg), .int (xs (nI i + (2 : Int32)).toNatClampNeg), .int (xs (nI i + (3 : Int32)).toNatClampNeg), .int (xs (nI i + (4 : Int32)).toNatClampNeg), .int (xs (nI i + (5 : Int32)).toNatClampNeg)]) (rest := []) mb_ZXok S (w_X_add l D X cI cZ cJ e2) (mb_cwV 5 hts wd_212 wd_213 wd_214 wd_1 wd_215 rfl rfl rfl (by decide +kernel) ⟨Nat.le_of_ble_eq_true rfl, Nat.le_of_ble_eq_true rfl⟩) hK hPx hPm hDx (hDis sx sm) hA hZ hS 0 rfl rfl rfl hl.1 rfl (Nat.le_of_ble_eq_true rfl) d_L_142 ⟨Nat.le_of_ble_eq_true rfl, Nat.le_of_ble_eq_true rfl⟩ (fun H locs hPx hPm hS => ?_)
  refine lv_aload_n hx hb d_L_145 rfl (lv_at hl 1 rfl) ?_
  refine lv_aload_n hx hb d_L_146 rfl (lv_at hl 3 rfl) ?_
  refine lv_iload_n hx hb d_L_147 rfl (lv_at hl 0 rfl) ?_
  refine lv_iconst (v := (1 : Int32)) hx hb d_L_148 (by decide) ?_
  refine lv_iadd hx hb d_L_149 ?_
  refine va_sld (i := nI i + (1 : Int32)) hx hb hX hbl hbA hS (lw_in (k := 1) (by omega) (by omega)) d_L_150 ?_
  refine lv_aload_n hx hb d_L_151 rfl (lv_at hl 3 rfl) ?_
  refine lv_iload_n hx hb d_L_152 rfl (lv_at hl 0 rfl) ?_
  refine lv_iconst (v := (2 : Int32)) hx hb d_L_153 (by decide) ?_
  refine lv_iadd hx hb d_L_154 ?_
  refine va_sld (i := nI i + (2 : Int32)) hx hb hX hbl hbA hS (lw_in (k := 2) (by omega) (by omega)) d_L_155 ?_
  refine lv_aload_n hx hb d_L_156 rfl (lv_at hl 3 rfl) ?_
  refine lv_iload_n hx hb d_L_157 rfl (lv_at hl 0 rfl) ?_
  refine lv_iconst (v := (3 : Int32)) hx hb d_L_158 (by decide) ?_
  refine lv_iadd hx hb d_L_159 ?_
  refine va_sld (i := nI i + (3 : Int32)) hx hb hX hbl hbA hS (lw_in (k := 3) (by omega) (by omega)) d_L_160 ?_
  refine lv_aload_n hx hb d_L_161 rfl (lv_at hl 3 rfl) ?_
  refine lv_iload_n hx hb d_L_162 rfl (lv_at hl 0 rfl) ?_
  refine lv_iconst (v := (4 : Int32)) hx hb d_L_163 (by decide) ?_
  refine lv_iadd hx hb d_L_164 ?_
  refine va_sld (i := nI i + (4 : Int32)) hx hb hX hbl hbA hS (lw_in (k := 4) (by omega) (by omega)) d_L_165 ?_
  refine lv_aload_n hx hb d_L_166 rfl (lv_at hl 3 rfl) ?_
  refine lv_iload_n hx hb d_L_167 rfl (lv_at hl 0 rfl) ?_
  refine lv_iconst (v := (5 : Int32)) hx hb d_L_168 (by decide) ?_
  refine lv_iadd hx hb d_L_169 ?_
  refine va_sld (i := nI i + (5 : Int32)) hx hb hX hbl hbA hS (lw_in (k := 5) (by omega) (by omega)) d_L_170 ?_
  refine lw_callI (WS := WM Y cI cZ cJ) (wo := WX X cI cZ cJ sx1) (As := [.int (xs (nI i + (1 : Int32)).toNatClampNeg), .int (xs (nI i + (2 : Int32)).toNatClampNeg), .int (xs (nI i + (3 : Int32)).toNatClampNeg), .int (xs (nI i + (4 : Int32)).toNatClampNeg), .int (xs (nI i + (5 : Int32)).toNatClampNeg)]) (rest := [.int r]) mb_Z0ok S (w_M_add l D Y cI cZ cJ e1) (mb_cwV 5 hts wd_618 wd_619 wd_620 wd_7 wd_621 rfl rfl rfl (by decide +kernel) ⟨Nat.le_of_ble_eq_true rfl, Nat.le_of_ble_eq_true rfl⟩) hK hPm hPx hDm (fun i j x y h1 h2 e => hDis sx1 sm j i y x h2 h1 e.symm) hA trivial hS 0 rfl rfl rfl hl.1 rfl (Nat.le_of_ble_eq_true rfl) d_L_171 ⟨Nat.le_of_ble_eq_true rfl, Nat.le_of_ble_eq_true rfl⟩ (fun H locs hPm hPx hS => ?_)
  refine lv_icmp_eq hx hb d_L_174 rfl (fun hc => ?_) (fun hc => absurd rfl hc)
  exact kk H locs sx1 sm1 hr1 hPx hPm hS
set_option maxRecDepth 100000 in
set_option maxHeartbeats 4000000 in
theorem lc_1 {p : Program} {l : Launch} {e : Env} {s : State} {m : MethodId} {below : List Frame} {meth : Method} {c : Code} {H : Heap} {locs : List Loc} {Q : State → Prop} {D : va_G} {X Y : Nat → Nat} {cI cZ cJ : ClassId} {b L : Nat} {xs : Nat → Int32} {i : Nat} {sx sm : mb_S} {ls : Array Slot} (G : lc_G p s m c b L xs D X Y cI cZ cJ) (hi : i + 6 ≤ L) (hl : lv_has ls 4 [(3, .int (nI i)), (2, .ref (Y 0)), (1, .ref (X 0)), (0, .ref b)]) (hr : lf_rel sm sx) (hPx : va_P D vwCl (WX X cI cZ cJ sx) H) (hPm : va_P D vwCl (WM Y cI cZ cJ sm) H) (hS : va_S (lc_A s) s.heap H locs)
    (kk : ∀ (H : Heap) (locs : List Loc) (sx sm : mb_S), lf_rel sm sx → va_P D vwCl (WX X cI cZ cJ sx) H → va_P D vwCl (WM Y cI cZ cJ sm) H → va_S (lc_A s) s.heap H locs → W p l e room_1 s m #[Value.ref b] below meth c H locs 53 8234 Q (F0 m 637 ls [])) : W p l e room_1 s m #[Value.ref b] below meth c H locs 53 8234 Q (F0 m 179 ls []) := by
  obtain ⟨S, hK, hDx, hDm, hDis, hZ, hX, hbl, hLN⟩ := G
  have S0 := S
  obtain ⟨hx, hb, hml, hown, hts⟩ := S0
  have hA : ∀ q : Nat, s.heap.size ≤ q → lc_A s q := fun _ h => h
  have hbA : ¬ lc_A s b := Nat.not_le.mpr hbl
  obtain ⟨r, sm1, sx1, e1, e2, hr1⟩ := lf_st_drop hr (xs (nI i + (1 : Int32)).toNatClampNeg)
  refine lv_aload_n hx hb d_L_179 rfl (lv_at hl 2 rfl) ?_
  refine lv_aload_n hx hb d_L_180 rfl (lv_at hl 3 rfl) ?_
  refine lv_iload_n hx hb d_L_181 rfl (lv_at hl 0 rfl) ?_
  refine lv_iconst (v := (1 : Int32)) hx hb d_L_182 (by decide) ?_
  refine lv_iadd hx hb d_L_183 ?_
  refine va_sld (i := nI i + (1 : Int32)) hx hb hX hbl hbA hS (lw_in (k := 1) (by omega) (by omega)) d_L_184 ?_
  refine lw_callI (WS := WX X cI cZ cJ) (wo := WM Y cI cZ cJ sm) (As := [.int (xs (nI i + (1 : Int32)).toNatClampNeg)]) (rest := []) mb_ZXok S (w_X_drop l D X cI cZ cJ e2) (mb_cwV 1 hts wd_241 wd_242 wd_243 wd_1 wd_244 rfl rfl rfl (by decide +kernel) ⟨Nat.le_of_ble_eq_true rfl, Nat.le_of_ble_eq_true rfl⟩) hK hPx hPm hDx (hDis sx sm) hA hZ hS 0 rfl rfl rfl hl.1 rfl (Nat.le_of_ble_eq_true rfl) d_L_185 ⟨Nat.le_of_ble_eq_true rfl, Nat.le_of_ble_eq_true rfl⟩ (fun H locs hPx hPm hS => ?_)
  refine lv_aload_n hx hb d_L_188 rfl (lv_at hl 1 rfl) ?_
  refine lv_aload_n hx hb d_L_189 rfl (lv_at hl 3 rfl) ?_
  refine lv_iload_n hx hb d_L_190 rfl (lv_at hl 0 rfl) ?_
  refine lv_iconst (v := (1 : Int32)) hx hb d_L_191 (by decide) ?_
  refine lv_iadd hx hb d_L_192 ?_
  refine va_sld (i := nI i + (1 : Int32)) hx hb hX hbl hbA hS (lw_in (k := 1) (by omega) (by omega)) d_L_193 ?_
  refine lw_callI (WS := WM Y cI cZ cJ) (wo := WX X cI cZ cJ sx1) (As := [.int (xs (nI i + (1 : Int32)).toNatClampNeg)]) (rest := [.int r]) mb_Z0ok S (w_M_drop l D Y cI cZ cJ e1) (mb_cwV 1 hts wd_636 wd_637 wd_638 wd_7 wd_639 rfl rfl rfl (by decide +kernel) ⟨Nat.le_of_ble_eq_true rfl, Nat.le_of_ble_eq_true rfl⟩) hK hPm hPx hDm (fun i j x y h1 h2 e => hDis sx1 sm j i y x h2 h1 e.symm) hA trivial hS 0 rfl rfl rfl hl.1 rfl (Nat.le_of_ble_eq_true rfl) d_L_194 ⟨Nat.le_of_ble_eq_true rfl, Nat.le_of_ble_eq_true rfl⟩ (fun H locs hPm hPx hS => ?_)
  refine lv_icmp_eq hx hb d_L_197 rfl (fun hc => ?_) (fun hc => absurd rfl hc)
  exact kk H locs sx1 sm1 hr1 hPx hPm hS
set_option maxRecDepth 100000 in
set_option maxHeartbeats 4000000 in
theorem lc_2 {p : Program} {l : Launch} {e : Env} {s : State} {m : MethodId} {below : List Frame} {meth : Method} {c : Code} {H : Heap} {locs : List Loc} {Q : State → Prop} {D : va_G} {X Y : Nat → Nat} {cI cZ cJ : ClassId} {b L : Nat} {xs : Nat → Int32} {i : Nat} {sx sm : mb_S} {ls : Array Slot} (G : lc_G p s m c b L xs D X Y cI cZ cJ) (hi : i + 6 ≤ L) (hl : lv_has ls 4 [(3, .int (nI i)), (2, .ref (Y 0)), (1, .ref (X 0)), (0, .ref b)]) (hr : lf_rel sm sx) (hPx : va_P D vwCl (WX X cI cZ cJ sx) H) (hPm : va_P D vwCl (WM Y cI cZ cJ sm) H) (hS : va_S (lc_A s) s.heap H locs)
    (kk : ∀ (H : Heap) (locs : List Loc) (sx sm : mb_S), lf_rel sm sx → va_P D vwCl (WX X cI cZ cJ sx) H → va_P D vwCl (WM Y cI cZ cJ sm) H → va_S (lc_A s) s.heap H locs → W p l e room_1 s m #[Value.ref b] below meth c H locs 53 8234 Q (F0 m 637 ls [])) : W p l e room_1 s m #[Value.ref b] below meth c H locs 53 8234 Q (F0 m 202 ls []) := by
  obtain ⟨S, hK, hDx, hDm, hDis, hZ, hX, hbl, hLN⟩ := G
  have S0 := S
  obtain ⟨hx, hb, hml, hown, hts⟩ := S0
  have hA : ∀ q : Nat, s.heap.size ≤ q → lc_A s q := fun _ h => h
  have hbA : ¬ lc_A s b := Nat.not_le.mpr hbl
  obtain ⟨r, sm1, sx1, e1, e2, hr1⟩ := lf_st_derive hr (xs (nI i + (1 : Int32)).toNatClampNeg) (xs (nI i + (2 : Int32)).toNatClampNeg)
  refine lv_aload_n hx hb d_L_202 rfl (lv_at hl 2 rfl) ?_
  refine lv_aload_n hx hb d_L_203 rfl (lv_at hl 3 rfl) ?_
  refine lv_iload_n hx hb d_L_204 rfl (lv_at hl 0 rfl) ?_
  refine lv_iconst (v := (1 : Int32)) hx hb d_L_205 (by decide) ?_
  refine lv_iadd hx hb d_L_206 ?_
  refine va_sld (i := nI i + (1 : Int32)) hx hb hX hbl hbA hS (lw_in (k := 1) (by omega) (by omega)) d_L_207 ?_
  refine lv_aload_n hx hb d_L_208 rfl (lv_at hl 3 rfl) ?_
  refine lv_iload_n hx hb d_L_209 rfl (lv_at hl 0 rfl) ?_
  refine lv_iconst (v := (2 : Int32)) hx hb d_L_210 (by decide) ?_
  refine lv_iadd hx hb d_L_211 ?_
  refine va_sld (i := nI i + (2 : Int32)) hx hb hX hbl hbA hS (lw_in (k := 2) (by omega) (by omega)) d_L_212 ?_
  refine lw_callI (WS := WX X cI cZ cJ) (wo := WM Y cI cZ cJ sm) (As := [.int (xs (nI i + (1 : Int32)).toNatClampNeg), .int (xs (nI i + (2 : Int32)).toNatClampNeg)]) (rest := []) mb_ZXok S (w_X_derive l D X cI cZ cJ e2) (mb_cwV 2 hts wd_249 wd_250 wd_251 wd_1 wd_252 rfl rfl rfl (by decide +kernel) ⟨Nat.le_of_ble_eq_true rfl, Nat.le_of_ble_eq_true rfl⟩) hK hPx hPm hDx (hDis sx sm) hA hZ hS 0 rfl rfl rfl hl.1 rfl (Nat.le_of_ble_eq_true rfl) d_L_213 ⟨Nat.le_of_ble_eq_true rfl, Nat.le_of_ble_eq_true rfl⟩ (fun H locs hPx hPm hS => ?_)
  refine lv_aload_n hx hb d_L_216 rfl (lv_at hl 1 rfl) ?_
  refine lv_aload_n hx hb d_L_217 rfl (lv_at hl 3 rfl) ?_
  refine lv_iload_n hx hb d_L_218 rfl (lv_at hl 0 rfl) ?_
  refine lv_iconst (v := (1 : Int32)) hx hb d_L_219 (by decide) ?_
  refine lv_iadd hx hb d_L_220 ?_
  refine va_sld (i := nI i + (1 : Int32)) hx hb hX hbl hbA hS (lw_in (k := 1) (by omega) (by omega)) d_L_221 ?_
  refine lv_aload_n hx hb d_L_222 rfl (lv_at hl 3 rfl) ?_
  refine lv_iload_n hx hb d_L_223 rfl (lv_at hl 0 rfl) ?_
  refine lv_iconst (v := (2 : Int32)) hx hb d_L_224 (by decide) ?_
  refine lv_iadd hx hb d_L_225 ?_
  refine va_sld (i := nI i + (2 : Int32)) hx hb hX hbl hbA hS (lw_in (k := 2) (by omega) (by omega)) d_L_226 ?_
  refine lw_callI (WS := WM Y cI cZ cJ) (wo := WX X cI cZ cJ sx1) (As := [.int (xs (nI i + (1 : Int32)).toNatClampNeg), .int (xs (nI i + (2 : Int32)).toNatClampNeg)]) (rest := [.int r]) mb_Z0ok S (w_M_derive l D Y cI cZ cJ e1) (mb_cwV 2 hts wd_640 wd_641 wd_642 wd_7 wd_643 rfl rfl rfl (by decide +kernel) ⟨Nat.le_of_ble_eq_true rfl, Nat.le_of_ble_eq_true rfl⟩) hK hPm hPx hDm (fun i j x y h1 h2 e => hDis sx1 sm j i y x h2 h1 e.symm) hA trivial hS 0 rfl rfl rfl hl.1 rfl (Nat.le_of_ble_eq_true rfl) d_L_227 ⟨Nat.le_of_ble_eq_true rfl, Nat.le_of_ble_eq_true rfl⟩ (fun H locs hPm hPx hS => ?_)
  refine lv_icmp_eq hx hb d_L_230 rfl (fun hc => ?_) (fun hc => absurd rfl hc)
  exact kk H locs sx1 sm1 hr1 hPx hPm hS
set_option maxRecDepth 100000 in
set_option maxHeartbeats 4000000 in
theorem lc_3 {p : Program} {l : Launch} {e : Env} {s : State} {m : MethodId} {below : List Frame} {meth : Method} {c : Code} {H : Heap} {locs : List Loc} {Q : State → Prop} {D : va_G} {X Y : Nat → Nat} {cI cZ cJ : ClassId} {b L : Nat} {xs : Nat → Int32} {i : Nat} {sx sm : mb_S} {ls : Array Slot} (G : lc_G p s m c b L xs D X Y cI cZ cJ) (hi : i + 6 ≤ L) (hl : lv_has ls 4 [(3, .int (nI i)), (2, .ref (Y 0)), (1, .ref (X 0)), (0, .ref b)]) (hr : lf_rel sm sx) (hPx : va_P D vwCl (WX X cI cZ cJ sx) H) (hPm : va_P D vwCl (WM Y cI cZ cJ sm) H) (hS : va_S (lc_A s) s.heap H locs)
    (kk : ∀ (H : Heap) (locs : List Loc) (sx sm : mb_S), lf_rel sm sx → va_P D vwCl (WX X cI cZ cJ sx) H → va_P D vwCl (WM Y cI cZ cJ sm) H → va_S (lc_A s) s.heap H locs → W p l e room_1 s m #[Value.ref b] below meth c H locs 53 8234 Q (F0 m 637 ls [])) : W p l e room_1 s m #[Value.ref b] below meth c H locs 53 8234 Q (F0 m 235 ls []) := by
  obtain ⟨S, hK, hDx, hDm, hDis, hZ, hX, hbl, hLN⟩ := G
  have S0 := S
  obtain ⟨hx, hb, hml, hown, hts⟩ := S0
  have hA : ∀ q : Nat, s.heap.size ≤ q → lc_A s q := fun _ h => h
  have hbA : ¬ lc_A s b := Nat.not_le.mpr hbl
  obtain ⟨r, sm1, sx1, e1, e2, hr1⟩ := lf_st_bind hr (xs (nI i + (1 : Int32)).toNatClampNeg) (xs (nI i + (2 : Int32)).toNatClampNeg) (xs (nI i + (3 : Int32)).toNatClampNeg)
  refine lv_aload_n hx hb d_L_235 rfl (lv_at hl 2 rfl) ?_
  refine lv_aload_n hx hb d_L_236 rfl (lv_at hl 3 rfl) ?_
  refine lv_iload_n hx hb d_L_237 rfl (lv_at hl 0 rfl) ?_
  refine lv_iconst (v := (1 : Int32)) hx hb d_L_238 (by decide) ?_
  refine lv_iadd hx hb d_L_239 ?_
  refine va_sld (i := nI i + (1 : Int32)) hx hb hX hbl hbA hS (lw_in (k := 1) (by omega) (by omega)) d_L_240 ?_
  refine lv_aload_n hx hb d_L_241 rfl (lv_at hl 3 rfl) ?_
  refine lv_iload_n hx hb d_L_242 rfl (lv_at hl 0 rfl) ?_
  refine lv_iconst (v := (2 : Int32)) hx hb d_L_243 (by decide) ?_
  refine lv_iadd hx hb d_L_244 ?_
  refine va_sld (i := nI i + (2 : Int32)) hx hb hX hbl hbA hS (lw_in (k := 2) (by omega) (by omega)) d_L_245 ?_
  refine lv_aload_n hx hb d_L_246 rfl (lv_at hl 3 rfl) ?_
  refine lv_iload_n hx hb d_L_247 rfl (lv_at hl 0 rfl) ?_
  refine lv_iconst (v := (3 : Int32)) hx hb d_L_248 (by decide) ?_
  refine lv_iadd hx hb d_L_249 ?_
  refine va_sld (i := nI i + (3 : Int32)) hx hb hX hbl hbA hS (lw_in (k := 3) (by omega) (by omega)) d_L_250 ?_
  refine lw_callI (WS := WX X cI cZ cJ) (wo := WM Y cI cZ cJ sm) (As := [.int (xs (nI i + (1 : Int32)).toNatClampNeg), .int (xs (nI i + (2 : Int32)).toNatClampNeg), .int (xs (nI i + (3 : Int32)).toNatClampNeg)]) (rest := []) mb_ZXok S (w_X_bind l D X cI cZ cJ e2) (mb_cwV 3 hts wd_253 wd_254 wd_255 wd_1 wd_256 rfl rfl rfl (by decide +kernel) ⟨Nat.le_of_ble_eq_true rfl, Nat.le_of_ble_eq_true rfl⟩) hK hPx hPm hDx (hDis sx sm) hA hZ hS 0 rfl rfl rfl hl.1 rfl (Nat.le_of_ble_eq_true rfl) d_L_251 ⟨Nat.le_of_ble_eq_true rfl, Nat.le_of_ble_eq_true rfl⟩ (fun H locs hPx hPm hS => ?_)
  refine lv_aload_n hx hb d_L_254 rfl (lv_at hl 1 rfl) ?_
  refine lv_aload_n hx hb d_L_255 rfl (lv_at hl 3 rfl) ?_
  refine lv_iload_n hx hb d_L_256 rfl (lv_at hl 0 rfl) ?_
  refine lv_iconst (v := (1 : Int32)) hx hb d_L_257 (by decide) ?_
  refine lv_iadd hx hb d_L_258 ?_
  refine va_sld (i := nI i + (1 : Int32)) hx hb hX hbl hbA hS (lw_in (k := 1) (by omega) (by omega)) d_L_259 ?_
  refine lv_aload_n hx hb d_L_260 rfl (lv_at hl 3 rfl) ?_
  refine lv_iload_n hx hb d_L_261 rfl (lv_at hl 0 rfl) ?_
  refine lv_iconst (v := (2 : Int32)) hx hb d_L_262 (by decide) ?_
  refine lv_iadd hx hb d_L_263 ?_
  refine va_sld (i := nI i + (2 : Int32)) hx hb hX hbl hbA hS (lw_in (k := 2) (by omega) (by omega)) d_L_264 ?_
  refine lv_aload_n hx hb d_L_265 rfl (lv_at hl 3 rfl) ?_
  refine lv_iload_n hx hb d_L_266 rfl (lv_at hl 0 rfl) ?_
  refine lv_iconst (v := (3 : Int32)) hx hb d_L_267 (by decide) ?_
  refine lv_iadd hx hb d_L_268 ?_
  refine va_sld (i := nI i + (3 : Int32)) hx hb hX hbl hbA hS (lw_in (k := 3) (by omega) (by omega)) d_L_269 ?_
  refine lw_callI (WS := WM Y cI cZ cJ) (wo := WX X cI cZ cJ sx1) (As := [.int (xs (nI i + (1 : Int32)).toNatClampNeg), .int (xs (nI i + (2 : Int32)).toNatClampNeg), .int (xs (nI i + (3 : Int32)).toNatClampNeg)]) (rest := [.int r]) mb_Z0ok S (w_M_bind l D Y cI cZ cJ e1) (mb_cwV 3 hts wd_644 wd_645 wd_646 wd_7 wd_647 rfl rfl rfl (by decide +kernel) ⟨Nat.le_of_ble_eq_true rfl, Nat.le_of_ble_eq_true rfl⟩) hK hPm hPx hDm (fun i j x y h1 h2 e => hDis sx1 sm j i y x h2 h1 e.symm) hA trivial hS 0 rfl rfl rfl hl.1 rfl (Nat.le_of_ble_eq_true rfl) d_L_270 ⟨Nat.le_of_ble_eq_true rfl, Nat.le_of_ble_eq_true rfl⟩ (fun H locs hPm hPx hS => ?_)
  refine lv_icmp_eq hx hb d_L_273 rfl (fun hc => ?_) (fun hc => absurd rfl hc)
  exact kk H locs sx1 sm1 hr1 hPx hPm hS
set_option maxRecDepth 100000 in
set_option maxHeartbeats 4000000 in
theorem lc_4 {p : Program} {l : Launch} {e : Env} {s : State} {m : MethodId} {below : List Frame} {meth : Method} {c : Code} {H : Heap} {locs : List Loc} {Q : State → Prop} {D : va_G} {X Y : Nat → Nat} {cI cZ cJ : ClassId} {b L : Nat} {xs : Nat → Int32} {i : Nat} {sx sm : mb_S} {ls : Array Slot} (G : lc_G p s m c b L xs D X Y cI cZ cJ) (hi : i + 6 ≤ L) (hl : lv_has ls 4 [(3, .int (nI i)), (2, .ref (Y 0)), (1, .ref (X 0)), (0, .ref b)]) (hr : lf_rel sm sx) (hPx : va_P D vwCl (WX X cI cZ cJ sx) H) (hPm : va_P D vwCl (WM Y cI cZ cJ sm) H) (hS : va_S (lc_A s) s.heap H locs)
    (kk : ∀ (H : Heap) (locs : List Loc) (sx sm : mb_S), lf_rel sm sx → va_P D vwCl (WX X cI cZ cJ sx) H → va_P D vwCl (WM Y cI cZ cJ sm) H → va_S (lc_A s) s.heap H locs → W p l e room_1 s m #[Value.ref b] below meth c H locs 53 8234 Q (F0 m 637 ls [])) : W p l e room_1 s m #[Value.ref b] below meth c H locs 53 8234 Q (F0 m 278 ls []) := by
  obtain ⟨S, hK, hDx, hDm, hDis, hZ, hX, hbl, hLN⟩ := G
  have S0 := S
  obtain ⟨hx, hb, hml, hown, hts⟩ := S0
  have hA : ∀ q : Nat, s.heap.size ≤ q → lc_A s q := fun _ h => h
  have hbA : ¬ lc_A s b := Nat.not_le.mpr hbl
  obtain ⟨r, sm1, sx1, e1, e2, hr1⟩ := lf_st_target hr (xs (nI i + (1 : Int32)).toNatClampNeg) (xs (nI i + (2 : Int32)).toNatClampNeg)
  refine lv_aload_n hx hb d_L_278 rfl (lv_at hl 2 rfl) ?_
  refine lv_aload_n hx hb d_L_279 rfl (lv_at hl 3 rfl) ?_
  refine lv_iload_n hx hb d_L_280 rfl (lv_at hl 0 rfl) ?_
  refine lv_iconst (v := (1 : Int32)) hx hb d_L_281 (by decide) ?_
  refine lv_iadd hx hb d_L_282 ?_
  refine va_sld (i := nI i + (1 : Int32)) hx hb hX hbl hbA hS (lw_in (k := 1) (by omega) (by omega)) d_L_283 ?_
  refine lv_aload_n hx hb d_L_284 rfl (lv_at hl 3 rfl) ?_
  refine lv_iload_n hx hb d_L_285 rfl (lv_at hl 0 rfl) ?_
  refine lv_iconst (v := (2 : Int32)) hx hb d_L_286 (by decide) ?_
  refine lv_iadd hx hb d_L_287 ?_
  refine va_sld (i := nI i + (2 : Int32)) hx hb hX hbl hbA hS (lw_in (k := 2) (by omega) (by omega)) d_L_288 ?_
  refine lw_callI (WS := WX X cI cZ cJ) (wo := WM Y cI cZ cJ sm) (As := [.int (xs (nI i + (1 : Int32)).toNatClampNeg), .int (xs (nI i + (2 : Int32)).toNatClampNeg)]) (rest := []) mb_ZXok S (w_X_target l D X cI cZ cJ e2) (mb_cwV 2 hts wd_257 wd_258 wd_259 wd_1 wd_260 rfl rfl rfl (by decide +kernel) ⟨Nat.le_of_ble_eq_true rfl, Nat.le_of_ble_eq_true rfl⟩) hK hPx hPm hDx (hDis sx sm) hA hZ hS 0 rfl rfl rfl hl.1 rfl (Nat.le_of_ble_eq_true rfl) d_L_289 ⟨Nat.le_of_ble_eq_true rfl, Nat.le_of_ble_eq_true rfl⟩ (fun H locs hPx hPm hS => ?_)
  refine lv_aload_n hx hb d_L_292 rfl (lv_at hl 1 rfl) ?_
  refine lv_aload_n hx hb d_L_293 rfl (lv_at hl 3 rfl) ?_
  refine lv_iload_n hx hb d_L_294 rfl (lv_at hl 0 rfl) ?_
  refine lv_iconst (v := (1 : Int32)) hx hb d_L_295 (by decide) ?_
  refine lv_iadd hx hb d_L_296 ?_
  refine va_sld (i := nI i + (1 : Int32)) hx hb hX hbl hbA hS (lw_in (k := 1) (by omega) (by omega)) d_L_297 ?_
  refine lv_aload_n hx hb d_L_298 rfl (lv_at hl 3 rfl) ?_
  refine lv_iload_n hx hb d_L_299 rfl (lv_at hl 0 rfl) ?_
  refine lv_iconst (v := (2 : Int32)) hx hb d_L_300 (by decide) ?_
  refine lv_iadd hx hb d_L_301 ?_
  refine va_sld (i := nI i + (2 : Int32)) hx hb hX hbl hbA hS (lw_in (k := 2) (by omega) (by omega)) d_L_302 ?_
  refine lw_callI (WS := WM Y cI cZ cJ) (wo := WX X cI cZ cJ sx1) (As := [.int (xs (nI i + (1 : Int32)).toNatClampNeg), .int (xs (nI i + (2 : Int32)).toNatClampNeg)]) (rest := [.int r]) mb_Z0ok S (w_M_target l D Y cI cZ cJ e1) (mb_cwV 2 hts wd_648 wd_649 wd_650 wd_7 wd_651 rfl rfl rfl (by decide +kernel) ⟨Nat.le_of_ble_eq_true rfl, Nat.le_of_ble_eq_true rfl⟩) hK hPm hPx hDm (fun i j x y h1 h2 e => hDis sx1 sm j i y x h2 h1 e.symm) hA trivial hS 0 rfl rfl rfl hl.1 rfl (Nat.le_of_ble_eq_true rfl) d_L_303 ⟨Nat.le_of_ble_eq_true rfl, Nat.le_of_ble_eq_true rfl⟩ (fun H locs hPm hPx hS => ?_)
  refine lv_icmp_eq hx hb d_L_306 rfl (fun hc => ?_) (fun hc => absurd rfl hc)
  exact kk H locs sx1 sm1 hr1 hPx hPm hS
set_option maxRecDepth 100000 in
set_option maxHeartbeats 4000000 in
theorem lc_5 {p : Program} {l : Launch} {e : Env} {s : State} {m : MethodId} {below : List Frame} {meth : Method} {c : Code} {H : Heap} {locs : List Loc} {Q : State → Prop} {D : va_G} {X Y : Nat → Nat} {cI cZ cJ : ClassId} {b L : Nat} {xs : Nat → Int32} {i : Nat} {sx sm : mb_S} {ls : Array Slot} (G : lc_G p s m c b L xs D X Y cI cZ cJ) (hi : i + 6 ≤ L) (hl : lv_has ls 4 [(3, .int (nI i)), (2, .ref (Y 0)), (1, .ref (X 0)), (0, .ref b)]) (hr : lf_rel sm sx) (hPx : va_P D vwCl (WX X cI cZ cJ sx) H) (hPm : va_P D vwCl (WM Y cI cZ cJ sm) H) (hS : va_S (lc_A s) s.heap H locs)
    (kk : ∀ (H : Heap) (locs : List Loc) (sx sm : mb_S), lf_rel sm sx → va_P D vwCl (WX X cI cZ cJ sx) H → va_P D vwCl (WM Y cI cZ cJ sm) H → va_S (lc_A s) s.heap H locs → W p l e room_1 s m #[Value.ref b] below meth c H locs 53 8234 Q (F0 m 637 ls [])) : W p l e room_1 s m #[Value.ref b] below meth c H locs 53 8234 Q (F0 m 311 ls []) := by
  obtain ⟨S, hK, hDx, hDm, hDis, hZ, hX, hbl, hLN⟩ := G
  have S0 := S
  obtain ⟨hx, hb, hml, hown, hts⟩ := S0
  have hA : ∀ q : Nat, s.heap.size ≤ q → lc_A s q := fun _ h => h
  have hbA : ¬ lc_A s b := Nat.not_le.mpr hbl
  obtain ⟨r, sm1, sx1, e1, e2, hr1⟩ := lf_st_size hr (xs (nI i + (1 : Int32)).toNatClampNeg)
  refine lv_aload_n hx hb d_L_311 rfl (lv_at hl 2 rfl) ?_
  refine lv_aload_n hx hb d_L_312 rfl (lv_at hl 3 rfl) ?_
  refine lv_iload_n hx hb d_L_313 rfl (lv_at hl 0 rfl) ?_
  refine lv_iconst (v := (1 : Int32)) hx hb d_L_314 (by decide) ?_
  refine lv_iadd hx hb d_L_315 ?_
  refine va_sld (i := nI i + (1 : Int32)) hx hb hX hbl hbA hS (lw_in (k := 1) (by omega) (by omega)) d_L_316 ?_
  refine lw_callI (WS := WX X cI cZ cJ) (wo := WM Y cI cZ cJ sm) (As := [.int (xs (nI i + (1 : Int32)).toNatClampNeg)]) (rest := []) mb_ZXok S (w_X_size l D X cI cZ cJ e2) (mb_cwV 1 hts wd_265 wd_266 wd_267 wd_1 wd_268 rfl rfl rfl (by decide +kernel) ⟨Nat.le_of_ble_eq_true rfl, Nat.le_of_ble_eq_true rfl⟩) hK hPx hPm hDx (hDis sx sm) hA hZ hS 0 rfl rfl rfl hl.1 rfl (Nat.le_of_ble_eq_true rfl) d_L_317 ⟨Nat.le_of_ble_eq_true rfl, Nat.le_of_ble_eq_true rfl⟩ (fun H locs hPx hPm hS => ?_)
  refine lv_aload_n hx hb d_L_320 rfl (lv_at hl 1 rfl) ?_
  refine lv_aload_n hx hb d_L_321 rfl (lv_at hl 3 rfl) ?_
  refine lv_iload_n hx hb d_L_322 rfl (lv_at hl 0 rfl) ?_
  refine lv_iconst (v := (1 : Int32)) hx hb d_L_323 (by decide) ?_
  refine lv_iadd hx hb d_L_324 ?_
  refine va_sld (i := nI i + (1 : Int32)) hx hb hX hbl hbA hS (lw_in (k := 1) (by omega) (by omega)) d_L_325 ?_
  refine lw_callI (WS := WM Y cI cZ cJ) (wo := WX X cI cZ cJ sx1) (As := [.int (xs (nI i + (1 : Int32)).toNatClampNeg)]) (rest := [.int r]) mb_Z0ok S (w_M_size l D Y cI cZ cJ e1) (mb_cwV 1 hts wd_652 wd_653 wd_654 wd_7 wd_655 rfl rfl rfl (by decide +kernel) ⟨Nat.le_of_ble_eq_true rfl, Nat.le_of_ble_eq_true rfl⟩) hK hPm hPx hDm (fun i j x y h1 h2 e => hDis sx1 sm j i y x h2 h1 e.symm) hA trivial hS 0 rfl rfl rfl hl.1 rfl (Nat.le_of_ble_eq_true rfl) d_L_326 ⟨Nat.le_of_ble_eq_true rfl, Nat.le_of_ble_eq_true rfl⟩ (fun H locs hPm hPx hS => ?_)
  refine lv_icmp_eq hx hb d_L_329 rfl (fun hc => ?_) (fun hc => absurd rfl hc)
  exact kk H locs sx1 sm1 hr1 hPx hPm hS
set_option maxRecDepth 100000 in
set_option maxHeartbeats 4000000 in
theorem lc_6 {p : Program} {l : Launch} {e : Env} {s : State} {m : MethodId} {below : List Frame} {meth : Method} {c : Code} {H : Heap} {locs : List Loc} {Q : State → Prop} {D : va_G} {X Y : Nat → Nat} {cI cZ cJ : ClassId} {b L : Nat} {xs : Nat → Int32} {i : Nat} {sx sm : mb_S} {ls : Array Slot} (G : lc_G p s m c b L xs D X Y cI cZ cJ) (hi : i + 6 ≤ L) (hl : lv_has ls 4 [(3, .int (nI i)), (2, .ref (Y 0)), (1, .ref (X 0)), (0, .ref b)]) (hr : lf_rel sm sx) (hPx : va_P D vwCl (WX X cI cZ cJ sx) H) (hPm : va_P D vwCl (WM Y cI cZ cJ sm) H) (hS : va_S (lc_A s) s.heap H locs)
    (kk : ∀ (H : Heap) (locs : List Loc) (sx sm : mb_S), lf_rel sm sx → va_P D vwCl (WX X cI cZ cJ sx) H → va_P D vwCl (WM Y cI cZ cJ sm) H → va_S (lc_A s) s.heap H locs → W p l e room_1 s m #[Value.ref b] below meth c H locs 53 8234 Q (F0 m 637 ls [])) : W p l e room_1 s m #[Value.ref b] below meth c H locs 53 8234 Q (F0 m 334 ls []) := by
  obtain ⟨S, hK, hDx, hDm, hDis, hZ, hX, hbl, hLN⟩ := G
  have S0 := S
  obtain ⟨hx, hb, hml, hown, hts⟩ := S0
  have hA : ∀ q : Nat, s.heap.size ≤ q → lc_A s q := fun _ h => h
  have hbA : ¬ lc_A s b := Nat.not_le.mpr hbl
  obtain ⟨r, sm1, sx1, e1, e2, hr1⟩ := lf_st_analyse hr (xs (nI i + (1 : Int32)).toNatClampNeg)
  refine lv_aload_n hx hb d_L_334 rfl (lv_at hl 2 rfl) ?_
  refine lv_aload_n hx hb d_L_335 rfl (lv_at hl 3 rfl) ?_
  refine lv_iload_n hx hb d_L_336 rfl (lv_at hl 0 rfl) ?_
  refine lv_iconst (v := (1 : Int32)) hx hb d_L_337 (by decide) ?_
  refine lv_iadd hx hb d_L_338 ?_
  refine va_sld (i := nI i + (1 : Int32)) hx hb hX hbl hbA hS (lw_in (k := 1) (by omega) (by omega)) d_L_339 ?_
  refine lw_callI (WS := WX X cI cZ cJ) (wo := WM Y cI cZ cJ sm) (As := [.int (xs (nI i + (1 : Int32)).toNatClampNeg)]) (rest := []) mb_ZXok S (w_X_analyse l D X cI cZ cJ e2) (mb_cwV 1 hts wd_269 wd_270 wd_271 wd_1 wd_272 rfl rfl rfl (by decide +kernel) ⟨Nat.le_of_ble_eq_true rfl, Nat.le_of_ble_eq_true rfl⟩) hK hPx hPm hDx (hDis sx sm) hA hZ hS 0 rfl rfl rfl hl.1 rfl (Nat.le_of_ble_eq_true rfl) d_L_340 ⟨Nat.le_of_ble_eq_true rfl, Nat.le_of_ble_eq_true rfl⟩ (fun H locs hPx hPm hS => ?_)
  refine lv_aload_n hx hb d_L_343 rfl (lv_at hl 1 rfl) ?_
  refine lv_aload_n hx hb d_L_344 rfl (lv_at hl 3 rfl) ?_
  refine lv_iload_n hx hb d_L_345 rfl (lv_at hl 0 rfl) ?_
  refine lv_iconst (v := (1 : Int32)) hx hb d_L_346 (by decide) ?_
  refine lv_iadd hx hb d_L_347 ?_
  refine va_sld (i := nI i + (1 : Int32)) hx hb hX hbl hbA hS (lw_in (k := 1) (by omega) (by omega)) d_L_348 ?_
  refine lw_callI (WS := WM Y cI cZ cJ) (wo := WX X cI cZ cJ sx1) (As := [.int (xs (nI i + (1 : Int32)).toNatClampNeg)]) (rest := [.int r]) mb_Z0ok S (w_M_analyse l D Y cI cZ cJ e1) (mb_cwV 1 hts wd_656 wd_657 wd_658 wd_7 wd_659 rfl rfl rfl (by decide +kernel) ⟨Nat.le_of_ble_eq_true rfl, Nat.le_of_ble_eq_true rfl⟩) hK hPm hPx hDm (fun i j x y h1 h2 e => hDis sx1 sm j i y x h2 h1 e.symm) hA trivial hS 0 rfl rfl rfl hl.1 rfl (Nat.le_of_ble_eq_true rfl) d_L_349 ⟨Nat.le_of_ble_eq_true rfl, Nat.le_of_ble_eq_true rfl⟩ (fun H locs hPm hPx hS => ?_)
  refine lv_icmp_eq hx hb d_L_352 rfl (fun hc => ?_) (fun hc => absurd rfl hc)
  exact kk H locs sx1 sm1 hr1 hPx hPm hS
set_option maxRecDepth 100000 in
set_option maxHeartbeats 4000000 in
theorem lc_7 {p : Program} {l : Launch} {e : Env} {s : State} {m : MethodId} {below : List Frame} {meth : Method} {c : Code} {H : Heap} {locs : List Loc} {Q : State → Prop} {D : va_G} {X Y : Nat → Nat} {cI cZ cJ : ClassId} {b L : Nat} {xs : Nat → Int32} {i : Nat} {sx sm : mb_S} {ls : Array Slot} (G : lc_G p s m c b L xs D X Y cI cZ cJ) (hi : i + 6 ≤ L) (hl : lv_has ls 4 [(3, .int (nI i)), (2, .ref (Y 0)), (1, .ref (X 0)), (0, .ref b)]) (hr : lf_rel sm sx) (hPx : va_P D vwCl (WX X cI cZ cJ sx) H) (hPm : va_P D vwCl (WM Y cI cZ cJ sm) H) (hS : va_S (lc_A s) s.heap H locs)
    (kk : ∀ (H : Heap) (locs : List Loc) (sx sm : mb_S), lf_rel sm sx → va_P D vwCl (WX X cI cZ cJ sx) H → va_P D vwCl (WM Y cI cZ cJ sm) H → va_S (lc_A s) s.heap H locs → W p l e room_1 s m #[Value.ref b] below meth c H locs 53 8234 Q (F0 m 637 ls [])) : W p l e room_1 s m #[Value.ref b] below meth c H locs 53 8234 Q (F0 m 357 ls []) := by
  obtain ⟨S, hK, hDx, hDm, hDis, hZ, hX, hbl, hLN⟩ := G
  have S0 := S
  obtain ⟨hx, hb, hml, hown, hts⟩ := S0
  have hA : ∀ q : Nat, s.heap.size ≤ q → lc_A s q := fun _ h => h
  have hbA : ¬ lc_A s b := Nat.not_le.mpr hbl
  obtain ⟨r, sm1, sx1, e1, e2, hr1⟩ := lf_st_verdict hr
  refine lv_aload_n hx hb d_L_357 rfl (lv_at hl 2 rfl) ?_
  refine lw_callI (WS := WX X cI cZ cJ) (wo := WM Y cI cZ cJ sm) (As := []) (rest := []) mb_ZXok S (w_X_verdict l D X cI cZ cJ e2) (mb_cwV 0 hts wd_403 wd_404 wd_405 wd_1 wd_406 rfl rfl rfl (by decide +kernel) ⟨Nat.le_of_ble_eq_true rfl, Nat.le_of_ble_eq_true rfl⟩) hK hPx hPm hDx (hDis sx sm) hA hZ hS 0 rfl rfl rfl hl.1 rfl (Nat.le_of_ble_eq_true rfl) d_L_358 ⟨Nat.le_of_ble_eq_true rfl, Nat.le_of_ble_eq_true rfl⟩ (fun H locs hPx hPm hS => ?_)
  refine lv_aload_n hx hb d_L_361 rfl (lv_at hl 1 rfl) ?_
  refine lw_callI (WS := WM Y cI cZ cJ) (wo := WX X cI cZ cJ sx1) (As := []) (rest := [.int r]) mb_Z0ok S (w_M_verdict l D Y cI cZ cJ e1) (mb_cwV 0 hts wd_743 wd_744 wd_745 wd_7 wd_746 rfl rfl rfl (by decide +kernel) ⟨Nat.le_of_ble_eq_true rfl, Nat.le_of_ble_eq_true rfl⟩) hK hPm hPx hDm (fun i j x y h1 h2 e => hDis sx1 sm j i y x h2 h1 e.symm) hA trivial hS 0 rfl rfl rfl hl.1 rfl (Nat.le_of_ble_eq_true rfl) d_L_362 ⟨Nat.le_of_ble_eq_true rfl, Nat.le_of_ble_eq_true rfl⟩ (fun H locs hPm hPx hS => ?_)
  refine lv_icmp_eq hx hb d_L_365 rfl (fun hc => ?_) (fun hc => absurd rfl hc)
  exact kk H locs sx1 sm1 hr1 hPx hPm hS
set_option maxRecDepth 100000 in
set_option maxHeartbeats 4000000 in
theorem lc_8 {p : Program} {l : Launch} {e : Env} {s : State} {m : MethodId} {below : List Frame} {meth : Method} {c : Code} {H : Heap} {locs : List Loc} {Q : State → Prop} {D : va_G} {X Y : Nat → Nat} {cI cZ cJ : ClassId} {b L : Nat} {xs : Nat → Int32} {i : Nat} {sx sm : mb_S} {ls : Array Slot} (G : lc_G p s m c b L xs D X Y cI cZ cJ) (hi : i + 6 ≤ L) (hl : lv_has ls 4 [(3, .int (nI i)), (2, .ref (Y 0)), (1, .ref (X 0)), (0, .ref b)]) (hr : lf_rel sm sx) (hPx : va_P D vwCl (WX X cI cZ cJ sx) H) (hPm : va_P D vwCl (WM Y cI cZ cJ sm) H) (hS : va_S (lc_A s) s.heap H locs)
    (kk : ∀ (H : Heap) (locs : List Loc) (sx sm : mb_S), lf_rel sm sx → va_P D vwCl (WX X cI cZ cJ sx) H → va_P D vwCl (WM Y cI cZ cJ sm) H → va_S (lc_A s) s.heap H locs → W p l e room_1 s m #[Value.ref b] below meth c H locs 53 8234 Q (F0 m 637 ls [])) : W p l e room_1 s m #[Value.ref b] below meth c H locs 53 8234 Q (F0 m 370 ls []) := by
  obtain ⟨S, hK, hDx, hDm, hDis, hZ, hX, hbl, hLN⟩ := G
  have S0 := S
  obtain ⟨hx, hb, hml, hown, hts⟩ := S0
  have hA : ∀ q : Nat, s.heap.size ≤ q → lc_A s q := fun _ h => h
  have hbA : ¬ lc_A s b := Nat.not_le.mpr hbl
  obtain ⟨r, sm1, sx1, e1, e2, hr1⟩ := lf_st_finding hr (xs (nI i + (1 : Int32)).toNatClampNeg) (xs (nI i + (2 : Int32)).toNatClampNeg)
  refine lv_aload_n hx hb d_L_370 rfl (lv_at hl 2 rfl) ?_
  refine lv_aload_n hx hb d_L_371 rfl (lv_at hl 3 rfl) ?_
  refine lv_iload_n hx hb d_L_372 rfl (lv_at hl 0 rfl) ?_
  refine lv_iconst (v := (1 : Int32)) hx hb d_L_373 (by decide) ?_
  refine lv_iadd hx hb d_L_374 ?_
  refine va_sld (i := nI i + (1 : Int32)) hx hb hX hbl hbA hS (lw_in (k := 1) (by omega) (by omega)) d_L_375 ?_
  refine lv_aload_n hx hb d_L_376 rfl (lv_at hl 3 rfl) ?_
  refine lv_iload_n hx hb d_L_377 rfl (lv_at hl 0 rfl) ?_
  refine lv_iconst (v := (2 : Int32)) hx hb d_L_378 (by decide) ?_
  refine lv_iadd hx hb d_L_379 ?_
  refine va_sld (i := nI i + (2 : Int32)) hx hb hX hbl hbA hS (lw_in (k := 2) (by omega) (by omega)) d_L_380 ?_
  refine lw_callI (WS := WX X cI cZ cJ) (wo := WM Y cI cZ cJ sm) (As := [.int (xs (nI i + (1 : Int32)).toNatClampNeg), .int (xs (nI i + (2 : Int32)).toNatClampNeg)]) (rest := []) mb_ZXok S (w_X_finding l D X cI cZ cJ e2) (mb_cwV 2 hts wd_407 wd_408 wd_409 wd_1 wd_410 rfl rfl rfl (by decide +kernel) ⟨Nat.le_of_ble_eq_true rfl, Nat.le_of_ble_eq_true rfl⟩) hK hPx hPm hDx (hDis sx sm) hA hZ hS 0 rfl rfl rfl hl.1 rfl (Nat.le_of_ble_eq_true rfl) d_L_381 ⟨Nat.le_of_ble_eq_true rfl, Nat.le_of_ble_eq_true rfl⟩ (fun H locs hPx hPm hS => ?_)
  refine lv_aload_n hx hb d_L_384 rfl (lv_at hl 1 rfl) ?_
  refine lv_aload_n hx hb d_L_385 rfl (lv_at hl 3 rfl) ?_
  refine lv_iload_n hx hb d_L_386 rfl (lv_at hl 0 rfl) ?_
  refine lv_iconst (v := (1 : Int32)) hx hb d_L_387 (by decide) ?_
  refine lv_iadd hx hb d_L_388 ?_
  refine va_sld (i := nI i + (1 : Int32)) hx hb hX hbl hbA hS (lw_in (k := 1) (by omega) (by omega)) d_L_389 ?_
  refine lv_aload_n hx hb d_L_390 rfl (lv_at hl 3 rfl) ?_
  refine lv_iload_n hx hb d_L_391 rfl (lv_at hl 0 rfl) ?_
  refine lv_iconst (v := (2 : Int32)) hx hb d_L_392 (by decide) ?_
  refine lv_iadd hx hb d_L_393 ?_
  refine va_sld (i := nI i + (2 : Int32)) hx hb hX hbl hbA hS (lw_in (k := 2) (by omega) (by omega)) d_L_394 ?_
  refine lw_callI (WS := WM Y cI cZ cJ) (wo := WX X cI cZ cJ sx1) (As := [.int (xs (nI i + (1 : Int32)).toNatClampNeg), .int (xs (nI i + (2 : Int32)).toNatClampNeg)]) (rest := [.int r]) mb_Z0ok S (w_M_finding l D Y cI cZ cJ e1) (mb_cwV 2 hts wd_747 wd_748 wd_749 wd_7 wd_750 rfl rfl rfl (by decide +kernel) ⟨Nat.le_of_ble_eq_true rfl, Nat.le_of_ble_eq_true rfl⟩) hK hPm hPx hDm (fun i j x y h1 h2 e => hDis sx1 sm j i y x h2 h1 e.symm) hA trivial hS 0 rfl rfl rfl hl.1 rfl (Nat.le_of_ble_eq_true rfl) d_L_395 ⟨Nat.le_of_ble_eq_true rfl, Nat.le_of_ble_eq_true rfl⟩ (fun H locs hPm hPx hS => ?_)
  refine lv_icmp_eq hx hb d_L_398 rfl (fun hc => ?_) (fun hc => absurd rfl hc)
  exact kk H locs sx1 sm1 hr1 hPx hPm hS
set_option maxRecDepth 100000 in
set_option maxHeartbeats 4000000 in
theorem lc_9 {p : Program} {l : Launch} {e : Env} {s : State} {m : MethodId} {below : List Frame} {meth : Method} {c : Code} {H : Heap} {locs : List Loc} {Q : State → Prop} {D : va_G} {X Y : Nat → Nat} {cI cZ cJ : ClassId} {b L : Nat} {xs : Nat → Int32} {i : Nat} {sx sm : mb_S} {ls : Array Slot} (G : lc_G p s m c b L xs D X Y cI cZ cJ) (hi : i + 6 ≤ L) (hl : lv_has ls 4 [(3, .int (nI i)), (2, .ref (Y 0)), (1, .ref (X 0)), (0, .ref b)]) (hr : lf_rel sm sx) (hPx : va_P D vwCl (WX X cI cZ cJ sx) H) (hPm : va_P D vwCl (WM Y cI cZ cJ sm) H) (hS : va_S (lc_A s) s.heap H locs)
    (kk : ∀ (H : Heap) (locs : List Loc) (sx sm : mb_S), lf_rel sm sx → va_P D vwCl (WX X cI cZ cJ sx) H → va_P D vwCl (WM Y cI cZ cJ sm) H → va_S (lc_A s) s.heap H locs → W p l e room_1 s m #[Value.ref b] below meth c H locs 53 8234 Q (F0 m 637 ls [])) : W p l e room_1 s m #[Value.ref b] below meth c H locs 53 8234 Q (F0 m 403 ls []) := by
  obtain ⟨S, hK, hDx, hDm, hDis, hZ, hX, hbl, hLN⟩ := G
  have S0 := S
  obtain ⟨hx, hb, hml, hown, hts⟩ := S0
  have hA : ∀ q : Nat, s.heap.size ≤ q → lc_A s q := fun _ h => h
  have hbA : ¬ lc_A s b := Nat.not_le.mpr hbl
  obtain ⟨r, sm1, sx1, e1, e2, hr1⟩ := lf_st_may hr (xs (nI i + (1 : Int32)).toNatClampNeg) (xs (nI i + (2 : Int32)).toNatClampNeg) (xs (nI i + (3 : Int32)).toNatClampNeg) (xs (nI i + (4 : Int32)).toNatClampNeg)
  refine lv_aload_n hx hb d_L_403 rfl (lv_at hl 2 rfl) ?_
  refine lv_aload_n hx hb d_L_404 rfl (lv_at hl 3 rfl) ?_
  refine lv_iload_n hx hb d_L_405 rfl (lv_at hl 0 rfl) ?_
  refine lv_iconst (v := (1 : Int32)) hx hb d_L_406 (by decide) ?_
  refine lv_iadd hx hb d_L_407 ?_
  refine va_sld (i := nI i + (1 : Int32)) hx hb hX hbl hbA hS (lw_in (k := 1) (by omega) (by omega)) d_L_408 ?_
  refine lv_aload_n hx hb d_L_409 rfl (lv_at hl 3 rfl) ?_
  refine lv_iload_n hx hb d_L_410 rfl (lv_at hl 0 rfl) ?_
  refine lv_iconst (v := (2 : Int32)) hx hb d_L_411 (by decide) ?_
  refine lv_iadd hx hb d_L_412 ?_
  refine va_sld (i := nI i + (2 : Int32)) hx hb hX hbl hbA hS (lw_in (k := 2) (by omega) (by omega)) d_L_413 ?_
  refine lv_aload_n hx hb d_L_414 rfl (lv_at hl 3 rfl) ?_
  refine lv_iload_n hx hb d_L_415 rfl (lv_at hl 0 rfl) ?_
  refine lv_iconst (v := (3 : Int32)) hx hb d_L_416 (by decide) ?_
  refine lv_iadd hx hb d_L_417 ?_
  refine va_sld (i := nI i + (3 : Int32)) hx hb hX hbl hbA hS (lw_in (k := 3) (by omega) (by omega)) d_L_418 ?_
  refine lv_aload_n hx hb d_L_419 rfl (lv_at hl 3 rfl) ?_
  refine lv_iload_n hx hb d_L_420 rfl (lv_at hl 0 rfl) ?_
  refine lv_iconst (v := (4 : Int32)) hx hb d_L_421 (by decide) ?_
  refine lv_iadd hx hb d_L_422 ?_
  refine va_sld (i := nI i + (4 : Int32)) hx hb hX hbl hbA hS (lw_in (k := 4) (by omega) (by omega)) d_L_423 ?_
  refine lw_callI (WS := WX X cI cZ cJ) (wo := WM Y cI cZ cJ sm) (As := [.int (xs (nI i + (1 : Int32)).toNatClampNeg), .int (xs (nI i + (2 : Int32)).toNatClampNeg), .int (xs (nI i + (3 : Int32)).toNatClampNeg), .int (xs (nI i + (4 : Int32)).toNatClampNeg)]) (rest := []) mb_ZXok S (w_X_may l D X cI cZ cJ e2) (mb_cwV 4 hts wd_423 wd_424 wd_425 wd_1 wd_426 rfl rfl rfl (by decide +kernel) ⟨Nat.le_of_ble_eq_true rfl, Nat.le_of_ble_eq_true rfl⟩) hK hPx hPm hDx (hDis sx sm) hA hZ hS 0 rfl rfl rfl hl.1 rfl (Nat.le_of_ble_eq_true rfl) d_L_424 ⟨Nat.le_of_ble_eq_true rfl, Nat.le_of_ble_eq_true rfl⟩ (fun H locs hPx hPm hS => ?_)
  refine lv_aload_n hx hb d_L_427 rfl (lv_at hl 1 rfl) ?_
  refine lv_aload_n hx hb d_L_428 rfl (lv_at hl 3 rfl) ?_
  refine lv_iload_n hx hb d_L_429 rfl (lv_at hl 0 rfl) ?_
  refine lv_iconst (v := (1 : Int32)) hx hb d_L_430 (by decide) ?_
  refine lv_iadd hx hb d_L_431 ?_
  refine va_sld (i := nI i + (1 : Int32)) hx hb hX hbl hbA hS (lw_in (k := 1) (by omega) (by omega)) d_L_432 ?_
  refine lv_aload_n hx hb d_L_433 rfl (lv_at hl 3 rfl) ?_
  refine lv_iload_n hx hb d_L_434 rfl (lv_at hl 0 rfl) ?_
  refine lv_iconst (v := (2 : Int32)) hx hb d_L_435 (by decide) ?_
  refine lv_iadd hx hb d_L_436 ?_
  refine va_sld (i := nI i + (2 : Int32)) hx hb hX hbl hbA hS (lw_in (k := 2) (by omega) (by omega)) d_L_437 ?_
  refine lv_aload_n hx hb d_L_438 rfl (lv_at hl 3 rfl) ?_
  refine lv_iload_n hx hb d_L_439 rfl (lv_at hl 0 rfl) ?_
  refine lv_iconst (v := (3 : Int32)) hx hb d_L_440 (by decide) ?_
  refine lv_iadd hx hb d_L_441 ?_
  refine va_sld (i := nI i + (3 : Int32)) hx hb hX hbl hbA hS (lw_in (k := 3) (by omega) (by omega)) d_L_442 ?_
  refine lv_aload_n hx hb d_L_443 rfl (lv_at hl 3 rfl) ?_
  refine lv_iload_n hx hb d_L_444 rfl (lv_at hl 0 rfl) ?_
  refine lv_iconst (v := (4 : Int32)) hx hb d_L_445 (by decide) ?_
  refine lv_iadd hx hb d_L_446 ?_
  refine va_sld (i := nI i + (4 : Int32)) hx hb hX hbl hbA hS (lw_in (k := 4) (by omega) (by omega)) d_L_447 ?_
  refine lw_callI (WS := WM Y cI cZ cJ) (wo := WX X cI cZ cJ sx1) (As := [.int (xs (nI i + (1 : Int32)).toNatClampNeg), .int (xs (nI i + (2 : Int32)).toNatClampNeg), .int (xs (nI i + (3 : Int32)).toNatClampNeg), .int (xs (nI i + (4 : Int32)).toNatClampNeg)]) (rest := [.int r]) mb_Z0ok S (w_M_may l D Y cI cZ cJ e1) (mb_cwV 4 hts wd_755 wd_752 wd_753 wd_7 wd_754 rfl rfl rfl (by decide +kernel) ⟨Nat.le_of_ble_eq_true rfl, Nat.le_of_ble_eq_true rfl⟩) hK hPm hPx hDm (fun i j x y h1 h2 e => hDis sx1 sm j i y x h2 h1 e.symm) hA trivial hS 0 rfl rfl rfl hl.1 rfl (Nat.le_of_ble_eq_true rfl) d_L_448 ⟨Nat.le_of_ble_eq_true rfl, Nat.le_of_ble_eq_true rfl⟩ (fun H locs hPm hPx hS => ?_)
  refine lv_icmp_eq hx hb d_L_451 rfl (fun hc => ?_) (fun hc => absurd rfl hc)
  exact kk H locs sx1 sm1 hr1 hPx hPm hS
set_option maxRecDepth 100000 in
set_option maxHeartbeats 4000000 in
theorem lc_10 {p : Program} {l : Launch} {e : Env} {s : State} {m : MethodId} {below : List Frame} {meth : Method} {c : Code} {H : Heap} {locs : List Loc} {Q : State → Prop} {D : va_G} {X Y : Nat → Nat} {cI cZ cJ : ClassId} {b L : Nat} {xs : Nat → Int32} {i : Nat} {sx sm : mb_S} {ls : Array Slot} (G : lc_G p s m c b L xs D X Y cI cZ cJ) (hi : i + 6 ≤ L) (hl : lv_has ls 4 [(3, .int (nI i)), (2, .ref (Y 0)), (1, .ref (X 0)), (0, .ref b)]) (hr : lf_rel sm sx) (hPx : va_P D vwCl (WX X cI cZ cJ sx) H) (hPm : va_P D vwCl (WM Y cI cZ cJ sm) H) (hS : va_S (lc_A s) s.heap H locs)
    (kk : ∀ (H : Heap) (locs : List Loc) (sx sm : mb_S), lf_rel sm sx → va_P D vwCl (WX X cI cZ cJ sx) H → va_P D vwCl (WM Y cI cZ cJ sm) H → va_S (lc_A s) s.heap H locs → W p l e room_1 s m #[Value.ref b] below meth c H locs 53 8234 Q (F0 m 637 ls [])) : W p l e room_1 s m #[Value.ref b] below meth c H locs 53 8234 Q (F0 m 456 ls []) := by
  obtain ⟨S, hK, hDx, hDm, hDis, hZ, hX, hbl, hLN⟩ := G
  have S0 := S
  obtain ⟨hx, hb, hml, hown, hts⟩ := S0
  have hA : ∀ q : Nat, s.heap.size ≤ q → lc_A s q := fun _ h => h
  have hbA : ¬ lc_A s b := Nat.not_le.mpr hbl
  obtain ⟨r, sm1, sx1, e1, e2, hr1⟩ := lf_st_entries hr (xs (nI i + (1 : Int32)).toNatClampNeg)
  refine lv_aload_n hx hb d_L_456 rfl (lv_at hl 2 rfl) ?_
  refine lv_aload_n hx hb d_L_457 rfl (lv_at hl 3 rfl) ?_
  refine lv_iload_n hx hb d_L_458 rfl (lv_at hl 0 rfl) ?_
  refine lv_iconst (v := (1 : Int32)) hx hb d_L_459 (by decide) ?_
  refine lv_iadd hx hb d_L_460 ?_
  refine va_sld (i := nI i + (1 : Int32)) hx hb hX hbl hbA hS (lw_in (k := 1) (by omega) (by omega)) d_L_461 ?_
  refine lw_callI (WS := WX X cI cZ cJ) (wo := WM Y cI cZ cJ sm) (As := [.int (xs (nI i + (1 : Int32)).toNatClampNeg)]) (rest := []) mb_ZXok S (w_X_entries l D X cI cZ cJ e2) (mb_cwV 1 hts wd_427 wd_428 wd_429 wd_1 wd_430 rfl rfl rfl (by decide +kernel) ⟨Nat.le_of_ble_eq_true rfl, Nat.le_of_ble_eq_true rfl⟩) hK hPx hPm hDx (hDis sx sm) hA hZ hS 0 rfl rfl rfl hl.1 rfl (Nat.le_of_ble_eq_true rfl) d_L_462 ⟨Nat.le_of_ble_eq_true rfl, Nat.le_of_ble_eq_true rfl⟩ (fun H locs hPx hPm hS => ?_)
  refine lv_aload_n hx hb d_L_465 rfl (lv_at hl 1 rfl) ?_
  refine lv_aload_n hx hb d_L_466 rfl (lv_at hl 3 rfl) ?_
  refine lv_iload_n hx hb d_L_467 rfl (lv_at hl 0 rfl) ?_
  refine lv_iconst (v := (1 : Int32)) hx hb d_L_468 (by decide) ?_
  refine lv_iadd hx hb d_L_469 ?_
  refine va_sld (i := nI i + (1 : Int32)) hx hb hX hbl hbA hS (lw_in (k := 1) (by omega) (by omega)) d_L_470 ?_
  refine lw_callI (WS := WM Y cI cZ cJ) (wo := WX X cI cZ cJ sx1) (As := [.int (xs (nI i + (1 : Int32)).toNatClampNeg)]) (rest := [.int r]) mb_Z0ok S (w_M_entries l D Y cI cZ cJ e1) (mb_cwV 1 hts wd_756 wd_757 wd_758 wd_7 wd_759 rfl rfl rfl (by decide +kernel) ⟨Nat.le_of_ble_eq_true rfl, Nat.le_of_ble_eq_true rfl⟩) hK hPm hPx hDm (fun i j x y h1 h2 e => hDis sx1 sm j i y x h2 h1 e.symm) hA trivial hS 0 rfl rfl rfl hl.1 rfl (Nat.le_of_ble_eq_true rfl) d_L_471 ⟨Nat.le_of_ble_eq_true rfl, Nat.le_of_ble_eq_true rfl⟩ (fun H locs hPm hPx hS => ?_)
  refine lv_icmp_eq hx hb d_L_474 rfl (fun hc => ?_) (fun hc => absurd rfl hc)
  exact kk H locs sx1 sm1 hr1 hPx hPm hS
set_option maxRecDepth 100000 in
set_option maxHeartbeats 4000000 in
theorem lc_11 {p : Program} {l : Launch} {e : Env} {s : State} {m : MethodId} {below : List Frame} {meth : Method} {c : Code} {H : Heap} {locs : List Loc} {Q : State → Prop} {D : va_G} {X Y : Nat → Nat} {cI cZ cJ : ClassId} {b L : Nat} {xs : Nat → Int32} {i : Nat} {sx sm : mb_S} {ls : Array Slot} (G : lc_G p s m c b L xs D X Y cI cZ cJ) (hi : i + 6 ≤ L) (hl : lv_has ls 4 [(3, .int (nI i)), (2, .ref (Y 0)), (1, .ref (X 0)), (0, .ref b)]) (hr : lf_rel sm sx) (hPx : va_P D vwCl (WX X cI cZ cJ sx) H) (hPm : va_P D vwCl (WM Y cI cZ cJ sm) H) (hS : va_S (lc_A s) s.heap H locs)
    (kk : ∀ (H : Heap) (locs : List Loc) (sx sm : mb_S), lf_rel sm sx → va_P D vwCl (WX X cI cZ cJ sx) H → va_P D vwCl (WM Y cI cZ cJ sm) H → va_S (lc_A s) s.heap H locs → W p l e room_1 s m #[Value.ref b] below meth c H locs 53 8234 Q (F0 m 637 ls [])) : W p l e room_1 s m #[Value.ref b] below meth c H locs 53 8234 Q (F0 m 479 ls []) := by
  obtain ⟨S, hK, hDx, hDm, hDis, hZ, hX, hbl, hLN⟩ := G
  have S0 := S
  obtain ⟨hx, hb, hml, hown, hts⟩ := S0
  have hA : ∀ q : Nat, s.heap.size ≤ q → lc_A s q := fun _ h => h
  have hbA : ¬ lc_A s b := Nat.not_le.mpr hbl
  obtain ⟨r, sm1, sx1, e1, e2, hr1⟩ := lf_st_points hr (xs (nI i + (1 : Int32)).toNatClampNeg) (xs (nI i + (2 : Int32)).toNatClampNeg)
  refine lv_aload_n hx hb d_L_479 rfl (lv_at hl 2 rfl) ?_
  refine lv_aload_n hx hb d_L_480 rfl (lv_at hl 3 rfl) ?_
  refine lv_iload_n hx hb d_L_481 rfl (lv_at hl 0 rfl) ?_
  refine lv_iconst (v := (1 : Int32)) hx hb d_L_482 (by decide) ?_
  refine lv_iadd hx hb d_L_483 ?_
  refine va_sld (i := nI i + (1 : Int32)) hx hb hX hbl hbA hS (lw_in (k := 1) (by omega) (by omega)) d_L_484 ?_
  refine lv_aload_n hx hb d_L_485 rfl (lv_at hl 3 rfl) ?_
  refine lv_iload_n hx hb d_L_486 rfl (lv_at hl 0 rfl) ?_
  refine lv_iconst (v := (2 : Int32)) hx hb d_L_487 (by decide) ?_
  refine lv_iadd hx hb d_L_488 ?_
  refine va_sld (i := nI i + (2 : Int32)) hx hb hX hbl hbA hS (lw_in (k := 2) (by omega) (by omega)) d_L_489 ?_
  refine lw_callI (WS := WX X cI cZ cJ) (wo := WM Y cI cZ cJ sm) (As := [.int (xs (nI i + (1 : Int32)).toNatClampNeg), .int (xs (nI i + (2 : Int32)).toNatClampNeg)]) (rest := []) mb_ZXok S (w_X_points l D X cI cZ cJ e2) (mb_cwV 2 hts wd_435 wd_436 wd_437 wd_1 wd_438 rfl rfl rfl (by decide +kernel) ⟨Nat.le_of_ble_eq_true rfl, Nat.le_of_ble_eq_true rfl⟩) hK hPx hPm hDx (hDis sx sm) hA hZ hS 0 rfl rfl rfl hl.1 rfl (Nat.le_of_ble_eq_true rfl) d_L_490 ⟨Nat.le_of_ble_eq_true rfl, Nat.le_of_ble_eq_true rfl⟩ (fun H locs hPx hPm hS => ?_)
  refine lv_aload_n hx hb d_L_493 rfl (lv_at hl 1 rfl) ?_
  refine lv_aload_n hx hb d_L_494 rfl (lv_at hl 3 rfl) ?_
  refine lv_iload_n hx hb d_L_495 rfl (lv_at hl 0 rfl) ?_
  refine lv_iconst (v := (1 : Int32)) hx hb d_L_496 (by decide) ?_
  refine lv_iadd hx hb d_L_497 ?_
  refine va_sld (i := nI i + (1 : Int32)) hx hb hX hbl hbA hS (lw_in (k := 1) (by omega) (by omega)) d_L_498 ?_
  refine lv_aload_n hx hb d_L_499 rfl (lv_at hl 3 rfl) ?_
  refine lv_iload_n hx hb d_L_500 rfl (lv_at hl 0 rfl) ?_
  refine lv_iconst (v := (2 : Int32)) hx hb d_L_501 (by decide) ?_
  refine lv_iadd hx hb d_L_502 ?_
  refine va_sld (i := nI i + (2 : Int32)) hx hb hX hbl hbA hS (lw_in (k := 2) (by omega) (by omega)) d_L_503 ?_
  refine lw_callI (WS := WM Y cI cZ cJ) (wo := WX X cI cZ cJ sx1) (As := [.int (xs (nI i + (1 : Int32)).toNatClampNeg), .int (xs (nI i + (2 : Int32)).toNatClampNeg)]) (rest := [.int r]) mb_Z0ok S (w_M_points l D Y cI cZ cJ e1) (mb_cwV 2 hts wd_760 wd_761 wd_762 wd_7 wd_763 rfl rfl rfl (by decide +kernel) ⟨Nat.le_of_ble_eq_true rfl, Nat.le_of_ble_eq_true rfl⟩) hK hPm hPx hDm (fun i j x y h1 h2 e => hDis sx1 sm j i y x h2 h1 e.symm) hA trivial hS 0 rfl rfl rfl hl.1 rfl (Nat.le_of_ble_eq_true rfl) d_L_504 ⟨Nat.le_of_ble_eq_true rfl, Nat.le_of_ble_eq_true rfl⟩ (fun H locs hPm hPx hS => ?_)
  refine lv_icmp_eq hx hb d_L_507 rfl (fun hc => ?_) (fun hc => absurd rfl hc)
  exact kk H locs sx1 sm1 hr1 hPx hPm hS
set_option maxRecDepth 100000 in
set_option maxHeartbeats 4000000 in
theorem lc_12 {p : Program} {l : Launch} {e : Env} {s : State} {m : MethodId} {below : List Frame} {meth : Method} {c : Code} {H : Heap} {locs : List Loc} {Q : State → Prop} {D : va_G} {X Y : Nat → Nat} {cI cZ cJ : ClassId} {b L : Nat} {xs : Nat → Int32} {i : Nat} {sx sm : mb_S} {ls : Array Slot} (G : lc_G p s m c b L xs D X Y cI cZ cJ) (hi : i + 6 ≤ L) (hl : lv_has ls 4 [(3, .int (nI i)), (2, .ref (Y 0)), (1, .ref (X 0)), (0, .ref b)]) (hr : lf_rel sm sx) (hPx : va_P D vwCl (WX X cI cZ cJ sx) H) (hPm : va_P D vwCl (WM Y cI cZ cJ sm) H) (hS : va_S (lc_A s) s.heap H locs)
    (kk : ∀ (H : Heap) (locs : List Loc) (sx sm : mb_S), lf_rel sm sx → va_P D vwCl (WX X cI cZ cJ sx) H → va_P D vwCl (WM Y cI cZ cJ sm) H → va_S (lc_A s) s.heap H locs → W p l e room_1 s m #[Value.ref b] below meth c H locs 53 8234 Q (F0 m 637 ls [])) : W p l e room_1 s m #[Value.ref b] below meth c H locs 53 8234 Q (F0 m 512 ls []) := by
  obtain ⟨S, hK, hDx, hDm, hDis, hZ, hX, hbl, hLN⟩ := G
  have S0 := S
  obtain ⟨hx, hb, hml, hown, hts⟩ := S0
  have hA : ∀ q : Nat, s.heap.size ≤ q → lc_A s q := fun _ h => h
  have hbA : ¬ lc_A s b := Nat.not_le.mpr hbl
  obtain ⟨r, sm1, sx1, e1, e2, hr1⟩ := lf_st_cell hr (xs (nI i + (1 : Int32)).toNatClampNeg) (xs (nI i + (2 : Int32)).toNatClampNeg)
  refine lv_aload_n hx hb d_L_512 rfl (lv_at hl 2 rfl) ?_
  refine lv_aload_n hx hb d_L_513 rfl (lv_at hl 3 rfl) ?_
  refine lv_iload_n hx hb d_L_514 rfl (lv_at hl 0 rfl) ?_
  refine lv_iconst (v := (1 : Int32)) hx hb d_L_515 (by decide) ?_
  refine lv_iadd hx hb d_L_516 ?_
  refine va_sld (i := nI i + (1 : Int32)) hx hb hX hbl hbA hS (lw_in (k := 1) (by omega) (by omega)) d_L_517 ?_
  refine lv_aload_n hx hb d_L_518 rfl (lv_at hl 3 rfl) ?_
  refine lv_iload_n hx hb d_L_519 rfl (lv_at hl 0 rfl) ?_
  refine lv_iconst (v := (2 : Int32)) hx hb d_L_520 (by decide) ?_
  refine lv_iadd hx hb d_L_521 ?_
  refine va_sld (i := nI i + (2 : Int32)) hx hb hX hbl hbA hS (lw_in (k := 2) (by omega) (by omega)) d_L_522 ?_
  refine lw_callI (WS := WX X cI cZ cJ) (wo := WM Y cI cZ cJ sm) (As := [.int (xs (nI i + (1 : Int32)).toNatClampNeg), .int (xs (nI i + (2 : Int32)).toNatClampNeg)]) (rest := []) mb_ZXok S (w_X_cell l D X cI cZ cJ e2) (mb_cwV 2 hts wd_439 wd_440 wd_441 wd_1 wd_442 rfl rfl rfl (by decide +kernel) ⟨Nat.le_of_ble_eq_true rfl, Nat.le_of_ble_eq_true rfl⟩) hK hPx hPm hDx (hDis sx sm) hA hZ hS 0 rfl rfl rfl hl.1 rfl (Nat.le_of_ble_eq_true rfl) d_L_523 ⟨Nat.le_of_ble_eq_true rfl, Nat.le_of_ble_eq_true rfl⟩ (fun H locs hPx hPm hS => ?_)
  refine lv_aload_n hx hb d_L_526 rfl (lv_at hl 1 rfl) ?_
  refine lv_aload_n hx hb d_L_527 rfl (lv_at hl 3 rfl) ?_
  refine lv_iload_n hx hb d_L_528 rfl (lv_at hl 0 rfl) ?_
  refine lv_iconst (v := (1 : Int32)) hx hb d_L_529 (by decide) ?_
  refine lv_iadd hx hb d_L_530 ?_
  refine va_sld (i := nI i + (1 : Int32)) hx hb hX hbl hbA hS (lw_in (k := 1) (by omega) (by omega)) d_L_531 ?_
  refine lv_aload_n hx hb d_L_532 rfl (lv_at hl 3 rfl) ?_
  refine lv_iload_n hx hb d_L_533 rfl (lv_at hl 0 rfl) ?_
  refine lv_iconst (v := (2 : Int32)) hx hb d_L_534 (by decide) ?_
  refine lv_iadd hx hb d_L_535 ?_
  refine va_sld (i := nI i + (2 : Int32)) hx hb hX hbl hbA hS (lw_in (k := 2) (by omega) (by omega)) d_L_536 ?_
  refine lw_callI (WS := WM Y cI cZ cJ) (wo := WX X cI cZ cJ sx1) (As := [.int (xs (nI i + (1 : Int32)).toNatClampNeg), .int (xs (nI i + (2 : Int32)).toNatClampNeg)]) (rest := [.int r]) mb_Z0ok S (w_M_cell l D Y cI cZ cJ e1) (mb_cwV 2 hts wd_764 wd_765 wd_766 wd_7 wd_767 rfl rfl rfl (by decide +kernel) ⟨Nat.le_of_ble_eq_true rfl, Nat.le_of_ble_eq_true rfl⟩) hK hPm hPx hDm (fun i j x y h1 h2 e => hDis sx1 sm j i y x h2 h1 e.symm) hA trivial hS 0 rfl rfl rfl hl.1 rfl (Nat.le_of_ble_eq_true rfl) d_L_537 ⟨Nat.le_of_ble_eq_true rfl, Nat.le_of_ble_eq_true rfl⟩ (fun H locs hPm hPx hS => ?_)
  refine lv_icmp_eq hx hb d_L_540 rfl (fun hc => ?_) (fun hc => absurd rfl hc)
  exact kk H locs sx1 sm1 hr1 hPx hPm hS
set_option maxRecDepth 100000 in
set_option maxHeartbeats 4000000 in
theorem lc_13 {p : Program} {l : Launch} {e : Env} {s : State} {m : MethodId} {below : List Frame} {meth : Method} {c : Code} {H : Heap} {locs : List Loc} {Q : State → Prop} {D : va_G} {X Y : Nat → Nat} {cI cZ cJ : ClassId} {b L : Nat} {xs : Nat → Int32} {i : Nat} {sx sm : mb_S} {ls : Array Slot} (G : lc_G p s m c b L xs D X Y cI cZ cJ) (hi : i + 6 ≤ L) (hl : lv_has ls 4 [(3, .int (nI i)), (2, .ref (Y 0)), (1, .ref (X 0)), (0, .ref b)]) (hr : lf_rel sm sx) (hPx : va_P D vwCl (WX X cI cZ cJ sx) H) (hPm : va_P D vwCl (WM Y cI cZ cJ sm) H) (hS : va_S (lc_A s) s.heap H locs)
    (kk : ∀ (H : Heap) (locs : List Loc) (sx sm : mb_S), lf_rel sm sx → va_P D vwCl (WX X cI cZ cJ sx) H → va_P D vwCl (WM Y cI cZ cJ sm) H → va_S (lc_A s) s.heap H locs → W p l e room_1 s m #[Value.ref b] below meth c H locs 53 8234 Q (F0 m 637 ls [])) : W p l e room_1 s m #[Value.ref b] below meth c H locs 53 8234 Q (F0 m 545 ls []) := by
  obtain ⟨S, hK, hDx, hDm, hDis, hZ, hX, hbl, hLN⟩ := G
  have S0 := S
  obtain ⟨hx, hb, hml, hown, hts⟩ := S0
  have hA : ∀ q : Nat, s.heap.size ≤ q → lc_A s q := fun _ h => h
  have hbA : ¬ lc_A s b := Nat.not_le.mpr hbl
  obtain ⟨r, sm1, sx1, e1, e2, hr1⟩ := lf_st_run hr (xs (nI i + (1 : Int32)).toNatClampNeg) (xs (nI i + (2 : Int32)).toNatClampNeg)
  refine lv_aload_n hx hb d_L_545 rfl (lv_at hl 2 rfl) ?_
  refine lv_aload_n hx hb d_L_546 rfl (lv_at hl 3 rfl) ?_
  refine lv_iload_n hx hb d_L_547 rfl (lv_at hl 0 rfl) ?_
  refine lv_iconst (v := (1 : Int32)) hx hb d_L_548 (by decide) ?_
  refine lv_iadd hx hb d_L_549 ?_
  refine va_sld (i := nI i + (1 : Int32)) hx hb hX hbl hbA hS (lw_in (k := 1) (by omega) (by omega)) d_L_550 ?_
  refine lv_aload_n hx hb d_L_551 rfl (lv_at hl 3 rfl) ?_
  refine lv_iload_n hx hb d_L_552 rfl (lv_at hl 0 rfl) ?_
  refine lv_iconst (v := (2 : Int32)) hx hb d_L_553 (by decide) ?_
  refine lv_iadd hx hb d_L_554 ?_
  refine va_sld (i := nI i + (2 : Int32)) hx hb hX hbl hbA hS (lw_in (k := 2) (by omega) (by omega)) d_L_555 ?_
  refine lw_callI (WS := WX X cI cZ cJ) (wo := WM Y cI cZ cJ sm) (As := [.int (xs (nI i + (1 : Int32)).toNatClampNeg), .int (xs (nI i + (2 : Int32)).toNatClampNeg)]) (rest := []) mb_ZXok S (w_X_run l D X cI cZ cJ e2) (mb_cwV 2 hts wd_443 wd_444 wd_445 wd_1 wd_446 rfl rfl rfl (by decide +kernel) ⟨Nat.le_of_ble_eq_true rfl, Nat.le_of_ble_eq_true rfl⟩) hK hPx hPm hDx (hDis sx sm) hA hZ hS 0 rfl rfl rfl hl.1 rfl (Nat.le_of_ble_eq_true rfl) d_L_556 ⟨Nat.le_of_ble_eq_true rfl, Nat.le_of_ble_eq_true rfl⟩ (fun H locs hPx hPm hS => ?_)
  refine lv_aload_n hx hb d_L_559 rfl (lv_at hl 1 rfl) ?_
  refine lv_aload_n hx hb d_L_560 rfl (lv_at hl 3 rfl) ?_
  refine lv_iload_n hx hb d_L_561 rfl (lv_at hl 0 rfl) ?_
  refine lv_iconst (v := (1 : Int32)) hx hb d_L_562 (by decide) ?_
  refine lv_iadd hx hb d_L_563 ?_
  refine va_sld (i := nI i + (1 : Int32)) hx hb hX hbl hbA hS (lw_in (k := 1) (by omega) (by omega)) d_L_564 ?_
  refine lv_aload_n hx hb d_L_565 rfl (lv_at hl 3 rfl) ?_
  refine lv_iload_n hx hb d_L_566 rfl (lv_at hl 0 rfl) ?_
  refine lv_iconst (v := (2 : Int32)) hx hb d_L_567 (by decide) ?_
  refine lv_iadd hx hb d_L_568 ?_
  refine va_sld (i := nI i + (2 : Int32)) hx hb hX hbl hbA hS (lw_in (k := 2) (by omega) (by omega)) d_L_569 ?_
  refine lw_callI (WS := WM Y cI cZ cJ) (wo := WX X cI cZ cJ sx1) (As := [.int (xs (nI i + (1 : Int32)).toNatClampNeg), .int (xs (nI i + (2 : Int32)).toNatClampNeg)]) (rest := [.int r]) mb_Z0ok S (w_M_run l D Y cI cZ cJ e1) (mb_cwV 2 hts wd_768 wd_769 wd_770 wd_7 wd_771 rfl rfl rfl (by decide +kernel) ⟨Nat.le_of_ble_eq_true rfl, Nat.le_of_ble_eq_true rfl⟩) hK hPm hPx hDm (fun i j x y h1 h2 e => hDis sx1 sm j i y x h2 h1 e.symm) hA trivial hS 0 rfl rfl rfl hl.1 rfl (Nat.le_of_ble_eq_true rfl) d_L_570 ⟨Nat.le_of_ble_eq_true rfl, Nat.le_of_ble_eq_true rfl⟩ (fun H locs hPm hPx hS => ?_)
  refine lv_icmp_eq hx hb d_L_573 rfl (fun hc => ?_) (fun hc => absurd rfl hc)
  exact kk H locs sx1 sm1 hr1 hPx hPm hS
set_option maxRecDepth 100000 in
set_option maxHeartbeats 4000000 in
theorem lc_14 {p : Program} {l : Launch} {e : Env} {s : State} {m : MethodId} {below : List Frame} {meth : Method} {c : Code} {H : Heap} {locs : List Loc} {Q : State → Prop} {D : va_G} {X Y : Nat → Nat} {cI cZ cJ : ClassId} {b L : Nat} {xs : Nat → Int32} {i : Nat} {sx sm : mb_S} {ls : Array Slot} (G : lc_G p s m c b L xs D X Y cI cZ cJ) (hi : i + 6 ≤ L) (hl : lv_has ls 4 [(3, .int (nI i)), (2, .ref (Y 0)), (1, .ref (X 0)), (0, .ref b)]) (hr : lf_rel sm sx) (hPx : va_P D vwCl (WX X cI cZ cJ sx) H) (hPm : va_P D vwCl (WM Y cI cZ cJ sm) H) (hS : va_S (lc_A s) s.heap H locs)
    (kk : ∀ (H : Heap) (locs : List Loc) (sx sm : mb_S), lf_rel sm sx → va_P D vwCl (WX X cI cZ cJ sx) H → va_P D vwCl (WM Y cI cZ cJ sm) H → va_S (lc_A s) s.heap H locs → W p l e room_1 s m #[Value.ref b] below meth c H locs 53 8234 Q (F0 m 637 ls [])) : W p l e room_1 s m #[Value.ref b] below meth c H locs 53 8234 Q (F0 m 578 ls []) := by
  obtain ⟨S, hK, hDx, hDm, hDis, hZ, hX, hbl, hLN⟩ := G
  have S0 := S
  obtain ⟨hx, hb, hml, hown, hts⟩ := S0
  have hA : ∀ q : Nat, s.heap.size ≤ q → lc_A s q := fun _ h => h
  have hbA : ¬ lc_A s b := Nat.not_le.mpr hbl
  obtain ⟨r, sm1, sx1, e1, e2, hr1⟩ := lf_st_outcome hr
  refine lv_aload_n hx hb d_L_578 rfl (lv_at hl 2 rfl) ?_
  refine lw_callI (WS := WX X cI cZ cJ) (wo := WM Y cI cZ cJ sm) (As := []) (rest := []) mb_ZXok S (w_X_outcome l D X cI cZ cJ e2) (mb_cwV 0 hts wd_507 wd_508 wd_509 wd_1 wd_510 rfl rfl rfl (by decide +kernel) ⟨Nat.le_of_ble_eq_true rfl, Nat.le_of_ble_eq_true rfl⟩) hK hPx hPm hDx (hDis sx sm) hA hZ hS 0 rfl rfl rfl hl.1 rfl (Nat.le_of_ble_eq_true rfl) d_L_579 ⟨Nat.le_of_ble_eq_true rfl, Nat.le_of_ble_eq_true rfl⟩ (fun H locs hPx hPm hS => ?_)
  refine lv_aload_n hx hb d_L_582 rfl (lv_at hl 1 rfl) ?_
  refine lw_callI (WS := WM Y cI cZ cJ) (wo := WX X cI cZ cJ sx1) (As := []) (rest := [.int r]) mb_Z0ok S (w_M_outcome l D Y cI cZ cJ e1) (mb_cwV 0 hts wd_796 wd_797 wd_798 wd_7 wd_799 rfl rfl rfl (by decide +kernel) ⟨Nat.le_of_ble_eq_true rfl, Nat.le_of_ble_eq_true rfl⟩) hK hPm hPx hDm (fun i j x y h1 h2 e => hDis sx1 sm j i y x h2 h1 e.symm) hA trivial hS 0 rfl rfl rfl hl.1 rfl (Nat.le_of_ble_eq_true rfl) d_L_583 ⟨Nat.le_of_ble_eq_true rfl, Nat.le_of_ble_eq_true rfl⟩ (fun H locs hPm hPx hS => ?_)
  refine lv_icmp_eq hx hb d_L_586 rfl (fun hc => ?_) (fun hc => absurd rfl hc)
  exact kk H locs sx1 sm1 hr1 hPx hPm hS
set_option maxRecDepth 100000 in
set_option maxHeartbeats 4000000 in
theorem lc_15 {p : Program} {l : Launch} {e : Env} {s : State} {m : MethodId} {below : List Frame} {meth : Method} {c : Code} {H : Heap} {locs : List Loc} {Q : State → Prop} {D : va_G} {X Y : Nat → Nat} {cI cZ cJ : ClassId} {b L : Nat} {xs : Nat → Int32} {i : Nat} {sx sm : mb_S} {ls : Array Slot} (G : lc_G p s m c b L xs D X Y cI cZ cJ) (hi : i + 6 ≤ L) (hl : lv_has ls 4 [(3, .int (nI i)), (2, .ref (Y 0)), (1, .ref (X 0)), (0, .ref b)]) (hr : lf_rel sm sx) (hPx : va_P D vwCl (WX X cI cZ cJ sx) H) (hPm : va_P D vwCl (WM Y cI cZ cJ sm) H) (hS : va_S (lc_A s) s.heap H locs)
    (kk : ∀ (H : Heap) (locs : List Loc) (sx sm : mb_S), lf_rel sm sx → va_P D vwCl (WX X cI cZ cJ sx) H → va_P D vwCl (WM Y cI cZ cJ sm) H → va_S (lc_A s) s.heap H locs → W p l e room_1 s m #[Value.ref b] below meth c H locs 53 8234 Q (F0 m 637 ls [])) : W p l e room_1 s m #[Value.ref b] below meth c H locs 53 8234 Q (F0 m 591 ls []) := by
  obtain ⟨S, hK, hDx, hDm, hDis, hZ, hX, hbl, hLN⟩ := G
  have S0 := S
  obtain ⟨hx, hb, hml, hown, hts⟩ := S0
  have hA : ∀ q : Nat, s.heap.size ≤ q → lc_A s q := fun _ h => h
  have hbA : ¬ lc_A s b := Nat.not_le.mpr hbl
  obtain ⟨r, sm1, sx1, e1, e2, hr1⟩ := lf_st_hits hr (xs (nI i + (1 : Int32)).toNatClampNeg) (xs (nI i + (2 : Int32)).toNatClampNeg)
  refine lv_aload_n hx hb d_L_591 rfl (lv_at hl 2 rfl) ?_
  refine lv_aload_n hx hb d_L_592 rfl (lv_at hl 3 rfl) ?_
  refine lv_iload_n hx hb d_L_593 rfl (lv_at hl 0 rfl) ?_
  refine lv_iconst (v := (1 : Int32)) hx hb d_L_594 (by decide) ?_
  refine lv_iadd hx hb d_L_595 ?_
  refine va_sld (i := nI i + (1 : Int32)) hx hb hX hbl hbA hS (lw_in (k := 1) (by omega) (by omega)) d_L_596 ?_
  refine lv_aload_n hx hb d_L_597 rfl (lv_at hl 3 rfl) ?_
  refine lv_iload_n hx hb d_L_598 rfl (lv_at hl 0 rfl) ?_
  refine lv_iconst (v := (2 : Int32)) hx hb d_L_599 (by decide) ?_
  refine lv_iadd hx hb d_L_600 ?_
  refine va_sld (i := nI i + (2 : Int32)) hx hb hX hbl hbA hS (lw_in (k := 2) (by omega) (by omega)) d_L_601 ?_
  refine lw_callI (WS := WX X cI cZ cJ) (wo := WM Y cI cZ cJ sm) (As := [.int (xs (nI i + (1 : Int32)).toNatClampNeg), .int (xs (nI i + (2 : Int32)).toNatClampNeg)]) (rest := []) mb_ZXok S (w_X_hits l D X cI cZ cJ e2) (mb_cwV 2 hts wd_511 wd_512 wd_513 wd_1 wd_514 rfl rfl rfl (by decide +kernel) ⟨Nat.le_of_ble_eq_true rfl, Nat.le_of_ble_eq_true rfl⟩) hK hPx hPm hDx (hDis sx sm) hA hZ hS 0 rfl rfl rfl hl.1 rfl (Nat.le_of_ble_eq_true rfl) d_L_602 ⟨Nat.le_of_ble_eq_true rfl, Nat.le_of_ble_eq_true rfl⟩ (fun H locs hPx hPm hS => ?_)
  refine lv_aload_n hx hb d_L_605 rfl (lv_at hl 1 rfl) ?_
  refine lv_aload_n hx hb d_L_606 rfl (lv_at hl 3 rfl) ?_
  refine lv_iload_n hx hb d_L_607 rfl (lv_at hl 0 rfl) ?_
  refine lv_iconst (v := (1 : Int32)) hx hb d_L_608 (by decide) ?_
  refine lv_iadd hx hb d_L_609 ?_
  refine va_sld (i := nI i + (1 : Int32)) hx hb hX hbl hbA hS (lw_in (k := 1) (by omega) (by omega)) d_L_610 ?_
  refine lv_aload_n hx hb d_L_611 rfl (lv_at hl 3 rfl) ?_
  refine lv_iload_n hx hb d_L_612 rfl (lv_at hl 0 rfl) ?_
  refine lv_iconst (v := (2 : Int32)) hx hb d_L_613 (by decide) ?_
  refine lv_iadd hx hb d_L_614 ?_
  refine va_sld (i := nI i + (2 : Int32)) hx hb hX hbl hbA hS (lw_in (k := 2) (by omega) (by omega)) d_L_615 ?_
  refine lw_callI (WS := WM Y cI cZ cJ) (wo := WX X cI cZ cJ sx1) (As := [.int (xs (nI i + (1 : Int32)).toNatClampNeg), .int (xs (nI i + (2 : Int32)).toNatClampNeg)]) (rest := [.int r]) mb_Z0ok S (w_M_hits l D Y cI cZ cJ e1) (mb_cwV 2 hts wd_800 wd_801 wd_802 wd_7 wd_803 rfl rfl rfl (by decide +kernel) ⟨Nat.le_of_ble_eq_true rfl, Nat.le_of_ble_eq_true rfl⟩) hK hPm hPx hDm (fun i j x y h1 h2 e => hDis sx1 sm j i y x h2 h1 e.symm) hA trivial hS 0 rfl rfl rfl hl.1 rfl (Nat.le_of_ble_eq_true rfl) d_L_616 ⟨Nat.le_of_ble_eq_true rfl, Nat.le_of_ble_eq_true rfl⟩ (fun H locs hPm hPx hS => ?_)
  refine lv_icmp_eq hx hb d_L_619 rfl (fun hc => ?_) (fun hc => absurd rfl hc)
  exact kk H locs sx1 sm1 hr1 hPx hPm hS
set_option maxRecDepth 100000 in
set_option maxHeartbeats 4000000 in
theorem lc_16 {p : Program} {l : Launch} {e : Env} {s : State} {m : MethodId} {below : List Frame} {meth : Method} {c : Code} {H : Heap} {locs : List Loc} {Q : State → Prop} {D : va_G} {X Y : Nat → Nat} {cI cZ cJ : ClassId} {b L : Nat} {xs : Nat → Int32} {i : Nat} {sx sm : mb_S} {ls : Array Slot} (G : lc_G p s m c b L xs D X Y cI cZ cJ) (hi : i + 6 ≤ L) (hl : lv_has ls 4 [(3, .int (nI i)), (2, .ref (Y 0)), (1, .ref (X 0)), (0, .ref b)]) (hr : lf_rel sm sx) (hPx : va_P D vwCl (WX X cI cZ cJ sx) H) (hPm : va_P D vwCl (WM Y cI cZ cJ sm) H) (hS : va_S (lc_A s) s.heap H locs)
    (kk : ∀ (H : Heap) (locs : List Loc) (sx sm : mb_S), lf_rel sm sx → va_P D vwCl (WX X cI cZ cJ sx) H → va_P D vwCl (WM Y cI cZ cJ sm) H → va_S (lc_A s) s.heap H locs → W p l e room_1 s m #[Value.ref b] below meth c H locs 53 8234 Q (F0 m 637 ls [])) : W p l e room_1 s m #[Value.ref b] below meth c H locs 53 8234 Q (F0 m 624 ls []) := by
  obtain ⟨S, hK, hDx, hDm, hDis, hZ, hX, hbl, hLN⟩ := G
  have S0 := S
  obtain ⟨hx, hb, hml, hown, hts⟩ := S0
  have hA : ∀ q : Nat, s.heap.size ≤ q → lc_A s q := fun _ h => h
  have hbA : ¬ lc_A s b := Nat.not_le.mpr hbl
  obtain ⟨r, sm1, sx1, e1, e2, hr1⟩ := lf_st_made hr
  refine lv_aload_n hx hb d_L_624 rfl (lv_at hl 2 rfl) ?_
  refine lw_callI (WS := WX X cI cZ cJ) (wo := WM Y cI cZ cJ sm) (As := []) (rest := []) mb_ZXok S (w_X_made l D X cI cZ cJ e2) (mb_cwV 0 hts wd_515 wd_516 wd_517 wd_1 wd_518 rfl rfl rfl (by decide +kernel) ⟨Nat.le_of_ble_eq_true rfl, Nat.le_of_ble_eq_true rfl⟩) hK hPx hPm hDx (hDis sx sm) hA hZ hS 0 rfl rfl rfl hl.1 rfl (Nat.le_of_ble_eq_true rfl) d_L_625 ⟨Nat.le_of_ble_eq_true rfl, Nat.le_of_ble_eq_true rfl⟩ (fun H locs hPx hPm hS => ?_)
  refine lv_aload_n hx hb d_L_628 rfl (lv_at hl 1 rfl) ?_
  refine lw_callI (WS := WM Y cI cZ cJ) (wo := WX X cI cZ cJ sx1) (As := []) (rest := [.int r]) mb_Z0ok S (w_M_made l D Y cI cZ cJ e1) (mb_cwV 0 hts wd_804 wd_805 wd_806 wd_7 wd_807 rfl rfl rfl (by decide +kernel) ⟨Nat.le_of_ble_eq_true rfl, Nat.le_of_ble_eq_true rfl⟩) hK hPm hPx hDm (fun i j x y h1 h2 e => hDis sx1 sm j i y x h2 h1 e.symm) hA trivial hS 0 rfl rfl rfl hl.1 rfl (Nat.le_of_ble_eq_true rfl) d_L_629 ⟨Nat.le_of_ble_eq_true rfl, Nat.le_of_ble_eq_true rfl⟩ (fun H locs hPm hPx hS => ?_)
  refine lv_icmp_eq hx hb d_L_632 rfl (fun hc => ?_) (fun hc => absurd rfl hc)
  exact kk H locs sx1 sm1 hr1 hPx hPm hS
