set_option maxRecDepth 100000 in
set_option maxHeartbeats 4000000 in
theorem whole_start {p : Program} {e : Env} {s : State} {m : MethodId} {below : List Frame} {meth : Method} {c : Code} (l : Launch) {b L : Nat} {xs : Nat → Int32} (hL : L ≤ 3072) (C0 : lw_At p s m meth c b L xs) : W p l e room_1 s m #[Value.ref b] below meth c s.heap [] 0 0 (lw_Z below #[Value.ref b] s) (entryFrame m ([Value.ref b] : List Value).toArray 4) := by
  obtain ⟨hx, hb, hr, hml, hown, htsT, hX, hbl, hlocks, hgv⟩ := C0
  have hts : ∀ w ∈ lw_w, w.before #[Value.ref b] s = true := fun w h => htsT w (List.mem_filter.mp h).1
  obtain ⟨c0, i0, k0⟩ := u_known hts uwX (hts _ la_inst_X)
  obtain ⟨c1, i1, k1⟩ := u_known hts uwP (hts _ la_inst_P)
  obtain ⟨c2, i2, k2⟩ := u_known hts uwQ (hts _ la_inst_Q)
  obtain ⟨c3, i3, k3⟩ := u_known hts uwF (hts _ la_inst_F)
  obtain ⟨c4, i4, k4⟩ := u_known hts uwA (hts _ la_inst_A)
  obtain ⟨c5, i5, k5⟩ := u_known hts uwM (hts _ la_inst_M)
  obtain ⟨cI, hI⟩ := ct_arr (Or.inl rfl) (hts _ la_arr_I)
  obtain ⟨cZ, hZ⟩ := ct_arr (Or.inr (Or.inl rfl)) (hts _ la_arr_Z)
  obtain ⟨cJ, hJ⟩ := ct_arr (Or.inr (Or.inr rfl)) (hts _ la_arr_J)
  have hK := ct_K k0 k1 k2 k3 k4 k5 hI hZ hJ
  generalize ct_D c0 c1 c2 c3 c4 c5 i0 i1 i2 i3 i4 i5 = D at hK
  have hA : ∀ q : Nat, s.heap.size ≤ q → lc_A s q := fun _ h => h
  have hZX : mb_ZX (lc_A s) s := lw_ZX htsT hgv
  have hl := lv_entry ([.ref b]) (n := 4) (Nat.le_of_ble_eq_true rfl)
  rw [lg_entry_eq]
  generalize (lg_sl ([.ref b]) ++ List.replicate (4 - (lg_sl ([.ref b])).length) Slot.unset).toArray = ls at hl ⊢
  have hl : lv_has ls 4 [(0, .ref b)] := hl
  have hS : va_S (lc_A s) s.heap s.heap [] := va_S.rf
  have hP : va_P D vwCl [] s.heap := fun k q h => (by cases h)
  have hD : va_D (lc_A s) [] := ⟨fun i j x y h => (by cases h), fun k q h => (by cases h)⟩
  refine va_new (ci := 0) (fs := [.null, .null, .null, .null, .int 0]) (C := cnX) (T := fTX) (N := 5) hx hb hts uwX fyX fyX_ok hown (hts _ la_X_cl) (hts _ la_X_in) (hts _ la_X_ini) hK hP hD hS hA rfl (fun j hj => by rcases (show j = 0 ∨ j = 1 ∨ j = 2 ∨ j = 3 ∨ j = 4 by omega) with rfl | rfl | rfl | rfl | rfl <;> rfl) (Nat.le_of_ble_eq_true rfl) (Nat.le_of_ble_eq_true rfl) d_L_0 (fun b0 H hP hD hS => ?_)
  have hP : va_P D vwCl [(b0, .inr (0, [.null, .null, .null, .null, .int 0]))] H := hP
  have hD : va_D (lc_A s) [(b0, .inr (0, [.null, .null, .null, .null, .int 0]))] := hD
  refine W.widen (k := 1) (n := 5) (Nat.le_of_ble_eq_true rfl) (Nat.le_of_ble_eq_true rfl) ?_
  refine lv_dup hx hb d_L_3 rfl ?_
  have hFc := va_free (wc := [(b0, .inr (0, [.null, .null, .null, .null, .int 0]))]) hD hS hA [0] rfl
  refine va_callv (va_runI (cells := 1) (slots := 5) (As := []) (rest := [.ref b0]) ⟨hx, hb, hml, hown, hts⟩ (k_X_init l D cI cZ cJ b0 H.size) ⟨mb_cwB 0 hts la_X_ml la_X_ini la_X_co rfl rfl rfl (by decide +kernel) ⟨Nat.le_of_ble_eq_true rfl, Nat.le_of_ble_eq_true rfl⟩, rfl, hts _ la_X_im⟩ ⟨ct_blind, fun U hU hW => ⟨rfl, by rw [hU], by rw [hU]; exact hP, va_K.moved hW.alike hK, hD.weaken (fun _ _ _ _ => trivial)⟩⟩ rfl rfl hl.1 rfl (lv_room (Nat.le_of_ble_eq_true rfl)) d_L_4 ⟨Nat.le_of_ble_eq_true rfl, Nat.le_of_ble_eq_true rfl⟩) hS (fun q _ h => hFc q h) hFc (fun X t H1 locs ht hvm hX0 hB hz1 hk1 hS => ?_)
  obtain ⟨hP1, -, hD1⟩ := hB
  rw [ht] at hP1
  have hPX : va_P D vwCl (WX X cI cZ cJ lf_XN) H1 := hP1
  have hDX : va_D (lc_A s) (WX X cI cZ cJ lf_XN) := ⟨hD1.1, fun k q h => hFc _ (hD1.2 k q h)⟩
  have hX0 : X 0 = b0 := hX0
  subst hX0
  clear hP1 hD1 hFc hk1 hz1 hP hD
  have hP := hPX
  have hD := hDX
  generalize H1 = H at hP hS ⊢
  refine W.widen (k := 29) (n := 2484) (Nat.le_of_ble_eq_true rfl) (Nat.le_of_ble_eq_true rfl) ?_
  refine lv_astore_n (lv' := [(1, .ref (X 0)), (0, .ref b)]) hx hb d_L_7 rfl hl (by decide) rfl (fun ls hl => ?_)
  refine va_new (ci := 5) (fs := [.null, .null, .null, .null, .null, .null, .null, .int 0, .int 0, .null, .null, .null, .null, .null, .null, .null, .null, .int 0, .int 0, .null, .int 0, .int 0, .int 0, .null, .null, .null, .null, .null, .null, .null]) (C := cnM) (T := fTM) (N := 30) hx hb hts uwM fyM fyM_ok hown (hts _ la_M_cl) (hts _ la_M_in) (hts _ la_M_ini) hK hP hD hS hA rfl (fun j hj => by rcases (show j = 0 ∨ j = 1 ∨ j = 2 ∨ j = 3 ∨ j = 4 ∨ j = 5 ∨ j = 6 ∨ j = 7 ∨ j = 8 ∨ j = 9 ∨ j = 10 ∨ j = 11 ∨ j = 12 ∨ j = 13 ∨ j = 14 ∨ j = 15 ∨ j = 16 ∨ j = 17 ∨ j = 18 ∨ j = 19 ∨ j = 20 ∨ j = 21 ∨ j = 22 ∨ j = 23 ∨ j = 24 ∨ j = 25 ∨ j = 26 ∨ j = 27 ∨ j = 28 ∨ j = 29 by omega) with rfl | rfl | rfl | rfl | rfl | rfl | rfl | rfl | rfl | rfl | rfl | rfl | rfl | rfl | rfl | rfl | rfl | rfl | rfl | rfl | rfl | rfl | rfl | rfl | rfl | rfl | rfl | rfl | rfl | rfl <;> rfl) (Nat.le_of_ble_eq_true rfl) (Nat.le_of_ble_eq_true rfl) d_L_8 (fun b1 H hP hD hS => ?_)
  refine W.widen (k := 30) (n := 2514) (Nat.le_of_ble_eq_true rfl) (Nat.le_of_ble_eq_true rfl) ?_
  refine lv_dup hx hb d_L_11 rfl ?_
  have hPc := lw_right hP
  have hDc := lw_Dright hD
  have hFc := va_free (wc := [(b1, .inr (5, [.null, .null, .null, .null, .null, .null, .null, .int 0, .int 0, .null, .null, .null, .null, .null, .null, .null, .null, .int 0, .int 0, .null, .int 0, .int 0, .int 0, .null, .null, .null, .null, .null, .null, .null]))]) hD hS hA [29] rfl
  refine va_callv (va_runI (cells := 30) (slots := 2514) (As := []) (rest := [.ref b1]) ⟨hx, hb, hml, hown, hts⟩ (k_M_init l D cI cZ cJ b1 H.size) ⟨mb_cwB 0 hts la_M_ml la_M_ini la_M_co rfl rfl rfl (by decide +kernel) ⟨Nat.le_of_ble_eq_true rfl, Nat.le_of_ble_eq_true rfl⟩, rfl, hts _ la_M_im⟩ ⟨ct_blind, fun U hU hW => ⟨rfl, by rw [hU], by rw [hU]; exact hPc, va_K.moved hW.alike hK, hDc.weaken (fun _ _ _ _ => trivial)⟩⟩ rfl rfl hl.1 rfl (lv_room (Nat.le_of_ble_eq_true rfl)) d_L_12 ⟨Nat.le_of_ble_eq_true rfl, Nat.le_of_ble_eq_true rfl⟩) hS (fun q _ h => hFc q h) hFc (fun z t H1 locs ht hvm hz hB hz1 hk1 hS => ?_)
  obtain ⟨Y, st⟩ := z
  obtain ⟨hY0, hmi⟩ := hz
  obtain ⟨hP1, -, hD1⟩ := hB
  rw [ht] at hP1
  obtain ⟨hPX, hDX⟩ := va_join (wr := WX X cI cZ cJ lf_XN) (w1 := WM Y cI cZ cJ st) hP hD [29] [0, 1, 2, 3, 4, 5, 6, 7, 8, 9, 10, 11, 12, 13, 14, 15, 16, 17, 18, 19, 20, 21, 22, 23, 24, 25, 26, 27, 28] rfl rfl (by decide) (by decide) hk1 hFc hP1 hD1
  have hY0 : Y 0 = b1 := hY0
  subst hY0
  clear hP1 hD1 hFc hk1 hz1 hPc hDc hP hD
  have hP := hPX
  have hD := hDX
  generalize H1 = H at hP hS ⊢
  refine W.widen (k := 53) (n := 8234) (Nat.le_of_ble_eq_true rfl) (Nat.le_of_ble_eq_true rfl) ?_
  refine lv_astore_n (lv' := [(2, .ref (Y 0)), (1, .ref (X 0)), (0, .ref b)]) hx hb d_L_15 rfl hl (by decide) rfl (fun ls hl => ?_)
  refine lv_iconst (v := (0 : Int32)) hx hb d_L_16 (by decide) ?_
  refine lv_istore_n (lv' := [(3, .int (nI 0)), (2, .ref (Y 0)), (1, .ref (X 0)), (0, .ref b)]) hx hb d_L_17 rfl hl (by decide) rfl (fun ls hl => ?_)
  exact lc_loop hr hlocks ⟨⟨hx, hb, hml, hown, hts⟩, hK, fun st => mb_DXok _ _ st (lw_Dleft hD), fun st => mb_DMok _ _ st (lw_Dright hD), lw_dis hD, hZX, hX, hbl, hL⟩ (L + 6) 0 lf_XN st ls H locs (by omega) (by omega) hl (lf_rel_0 hmi) (lw_left hP) (lw_right hP) hS
