set_option maxRecDepth 100000 in
set_option maxHeartbeats 4000000 in
theorem lc_loop {p : Program} {l : Launch} {e : Env} {s : State} {m : MethodId} {below : List Frame} {meth : Method} {c : Code} {D : va_G} {X Y : Nat → Nat} {cI cZ cJ : ClassId} {b L : Nat} {xs : Nat → Int32} (hr0 : meth.sig.returnType = ret) (hlocks : meth.locks = false) (G : lc_G p s m c b L xs D X Y cI cZ cJ) :
    ∀ (n i : Nat) (sx sm : mb_S) (ls : Array Slot) (H : Heap) (locs : List Loc), L + 6 ≤ n + i → i ≤ L + 5 → lv_has ls 4 [(3, .int (nI i)), (2, .ref (Y 0)), (1, .ref (X 0)), (0, .ref b)] → lf_rel sm sx → va_P D vwCl (WX X cI cZ cJ sx) H → va_P D vwCl (WM Y cI cZ cJ sm) H → va_S (lc_A s) s.heap H locs → W p l e room_1 s m #[Value.ref b] below meth c H locs 53 8234 (lw_Z below #[Value.ref b] s) (F0 m 18 ls []) := by
  have G0 := G
  obtain ⟨S, hK, hDx, hDm, hDis, hZ, hX, hbl, hLN⟩ := G
  obtain ⟨hx, hb, hml, hown, hts⟩ := S
  have hbA : ¬ lc_A s b := Nat.not_le.mpr hbl
  intro n
  induction n with
  | zero => intro i sx sm ls H locs h1 h2; omega
  | succ n ih =>
    intro i sx sm ls H locs h1 h2 hl hr hPx hPm hS
    refine lv_iload_n hx hb d_L_18 rfl (lv_at hl 0 rfl) ?_
    refine lv_aload_n hx hb d_L_19 rfl (lv_at hl 3 rfl) ?_
    refine va_slen hx hb hX hbl hbA hS d_L_20 ?_
    refine lv_bipush (v := (6 : Int32)) hx hb d_L_21 (by decide) ?_
    refine lv_isub hx hb d_L_23 ?_
    refine lv_icmp_gt hx hb d_L_24 rfl (fun hc => ?_) (fun hc => ?_)
    · refine va_forget (fun q hq => hS.2.2 q hq) ?_
      refine lv_iconst (v := (1 : Int32)) hx hb d_L_643 (by decide) ?_
      exact lw_ret hx hb hr0 hlocks d_L_644
    · have hi : i + 6 ≤ L := lw_cond (by omega) (by omega) hc
      have next : ∀ (H : Heap) (locs : List Loc) (sx sm : mb_S), lf_rel sm sx → va_P D vwCl (WX X cI cZ cJ sx) H → va_P D vwCl (WM Y cI cZ cJ sm) H → va_S (lc_A s) s.heap H locs → W p l e room_1 s m #[Value.ref b] below meth c H locs 53 8234 (lw_Z below #[Value.ref b] s) (F0 m 637 ls []) := by
        intro H locs sx sm hr hPx hPm hS
        refine lv_iinc (k := 0) (v := nI (i + 6)) (lv' := [(3, .int (nI (i + 6))), (2, .ref (Y 0)), (1, .ref (X 0)), (0, .ref b)]) hx hb d_L_637 hl rfl (nI_add i 6) (by decide) rfl (fun ls hl => ?_)
        refine lv_goto hx hb d_L_640 rfl ?_
        exact ih (i + 6) sx sm ls H locs (by omega) (by omega) hl hr hPx hPm hS
      refine lv_aload_n hx hb d_L_27 rfl (lv_at hl 3 rfl) ?_
      refine lv_iload_n hx hb d_L_28 rfl (lv_at hl 0 rfl) ?_
      refine va_sld (i := nI i) hx hb hX hbl hbA hS (nI_in (show i < L by omega) (by omega)) d_L_29 ?_
      refine lv_bipush (v := (31 : Int32)) hx hb d_L_30 (by decide) ?_
      refine lv_iand hx hb d_L_32 ?_
      generalize xs (nI i).toNatClampNeg &&& (31 : Int32) = v
      by_cases hc0 : v = (0 : Int32)
      · refine lv_tableIn (tgt := 116) hx hb d_L_33 (by rw [hc0]; decide) (by rw [hc0]; decide) (by rw [hc0]; rfl) rfl ?_
        exact lc_0 G0 hi hl hr hPx hPm hS next
      by_cases hc1 : v = (1 : Int32)
      · refine lv_tableIn (tgt := 179) hx hb d_L_33 (by rw [hc1]; decide) (by rw [hc1]; decide) (by rw [hc1]; rfl) rfl ?_
        exact lc_1 G0 hi hl hr hPx hPm hS next
      by_cases hc2 : v = (2 : Int32)
      · refine lv_tableIn (tgt := 202) hx hb d_L_33 (by rw [hc2]; decide) (by rw [hc2]; decide) (by rw [hc2]; rfl) rfl ?_
        exact lc_2 G0 hi hl hr hPx hPm hS next
      by_cases hc3 : v = (3 : Int32)
      · refine lv_tableIn (tgt := 235) hx hb d_L_33 (by rw [hc3]; decide) (by rw [hc3]; decide) (by rw [hc3]; rfl) rfl ?_
        exact lc_3 G0 hi hl hr hPx hPm hS next
      by_cases hc4 : v = (4 : Int32)
      · refine lv_tableIn (tgt := 278) hx hb d_L_33 (by rw [hc4]; decide) (by rw [hc4]; decide) (by rw [hc4]; rfl) rfl ?_
        exact lc_4 G0 hi hl hr hPx hPm hS next
      by_cases hc5 : v = (5 : Int32)
      · refine lv_tableIn (tgt := 311) hx hb d_L_33 (by rw [hc5]; decide) (by rw [hc5]; decide) (by rw [hc5]; rfl) rfl ?_
        exact lc_5 G0 hi hl hr hPx hPm hS next
      by_cases hc6 : v = (6 : Int32)
      · refine lv_tableIn (tgt := 334) hx hb d_L_33 (by rw [hc6]; decide) (by rw [hc6]; decide) (by rw [hc6]; rfl) rfl ?_
        exact lc_6 G0 hi hl hr hPx hPm hS next
      by_cases hc7 : v = (7 : Int32)
      · refine lv_tableIn (tgt := 357) hx hb d_L_33 (by rw [hc7]; decide) (by rw [hc7]; decide) (by rw [hc7]; rfl) rfl ?_
        exact lc_7 G0 hi hl hr hPx hPm hS next
      by_cases hc8 : v = (8 : Int32)
      · refine lv_tableIn (tgt := 370) hx hb d_L_33 (by rw [hc8]; decide) (by rw [hc8]; decide) (by rw [hc8]; rfl) rfl ?_
        exact lc_8 G0 hi hl hr hPx hPm hS next
      by_cases hc9 : v = (9 : Int32)
      · refine lv_tableIn (tgt := 403) hx hb d_L_33 (by rw [hc9]; decide) (by rw [hc9]; decide) (by rw [hc9]; rfl) rfl ?_
        exact lc_9 G0 hi hl hr hPx hPm hS next
      by_cases hc10 : v = (10 : Int32)
      · refine lv_tableIn (tgt := 456) hx hb d_L_33 (by rw [hc10]; decide) (by rw [hc10]; decide) (by rw [hc10]; rfl) rfl ?_
        exact lc_10 G0 hi hl hr hPx hPm hS next
      by_cases hc11 : v = (11 : Int32)
      · refine lv_tableIn (tgt := 479) hx hb d_L_33 (by rw [hc11]; decide) (by rw [hc11]; decide) (by rw [hc11]; rfl) rfl ?_
        exact lc_11 G0 hi hl hr hPx hPm hS next
      by_cases hc12 : v = (12 : Int32)
      · refine lv_tableIn (tgt := 512) hx hb d_L_33 (by rw [hc12]; decide) (by rw [hc12]; decide) (by rw [hc12]; rfl) rfl ?_
        exact lc_12 G0 hi hl hr hPx hPm hS next
      by_cases hc13 : v = (13 : Int32)
      · refine lv_tableIn (tgt := 545) hx hb d_L_33 (by rw [hc13]; decide) (by rw [hc13]; decide) (by rw [hc13]; rfl) rfl ?_
        exact lc_13 G0 hi hl hr hPx hPm hS next
      by_cases hc14 : v = (14 : Int32)
      · refine lv_tableIn (tgt := 578) hx hb d_L_33 (by rw [hc14]; decide) (by rw [hc14]; decide) (by rw [hc14]; rfl) rfl ?_
        exact lc_14 G0 hi hl hr hPx hPm hS next
      by_cases hc15 : v = (15 : Int32)
      · refine lv_tableIn (tgt := 591) hx hb d_L_33 (by rw [hc15]; decide) (by rw [hc15]; decide) (by rw [hc15]; rfl) rfl ?_
        exact lc_15 G0 hi hl hr hPx hPm hS next
      by_cases hc16 : v = (16 : Int32)
      · refine lv_tableIn (tgt := 624) hx hb d_L_33 (by rw [hc16]; decide) (by rw [hc16]; decide) (by rw [hc16]; rfl) rfl ?_
        exact lc_16 G0 hi hl hr hPx hPm hS next
      have hn0 : ¬ Int32.toInt v = 0 := lv_neT hc0 (by decide)
      have hn1 : ¬ Int32.toInt v = 1 := lv_neT hc1 (by decide)
      have hn2 : ¬ Int32.toInt v = 2 := lv_neT hc2 (by decide)
      have hn3 : ¬ Int32.toInt v = 3 := lv_neT hc3 (by decide)
      have hn4 : ¬ Int32.toInt v = 4 := lv_neT hc4 (by decide)
      have hn5 : ¬ Int32.toInt v = 5 := lv_neT hc5 (by decide)
      have hn6 : ¬ Int32.toInt v = 6 := lv_neT hc6 (by decide)
      have hn7 : ¬ Int32.toInt v = 7 := lv_neT hc7 (by decide)
      have hn8 : ¬ Int32.toInt v = 8 := lv_neT hc8 (by decide)
      have hn9 : ¬ Int32.toInt v = 9 := lv_neT hc9 (by decide)
      have hn10 : ¬ Int32.toInt v = 10 := lv_neT hc10 (by decide)
      have hn11 : ¬ Int32.toInt v = 11 := lv_neT hc11 (by decide)
      have hn12 : ¬ Int32.toInt v = 12 := lv_neT hc12 (by decide)
      have hn13 : ¬ Int32.toInt v = 13 := lv_neT hc13 (by decide)
      have hn14 : ¬ Int32.toInt v = 14 := lv_neT hc14 (by decide)
      have hn15 : ¬ Int32.toInt v = 15 := lv_neT hc15 (by decide)
      have hn16 : ¬ Int32.toInt v = 16 := lv_neT hc16 (by decide)
      refine mb_tabD (tgt := 637) hx hb d_L_33 (fun h1 h2 => by omega) rfl ?_
      exact next H locs sx sm hr hPx hPm hS
