def xf_gn (P : lf_P) (m k : Nat) (f : Int32) (j : Nat) : Prop := (4 ≤ j ∧ j < 16 ∧ pu_b f j = true) ∨ (j = 0 ∧ pu_b f (lf_b P m k) = true) ∨ (j = 1 ∧ pu_b f (lf_c P m k % 4) = true)
def xf_cl (P : lf_P) (T : Nat → Nat → Nat → Prop) (m k w : Nat) (f : Int32) (g : mb_S) : Prop := (∀ i, i < 4 → pu_b f i = true → i ≠ lf_a P m k → pu_b (mb_I g 14 ((13 * m + (k + 1)) * 20 + w)) i = true) ∧ ∀ t, t < 6 → T m k t → ∀ j, xf_gn P m k f j → (∀ i, pu_b (mb_I g 16 (20 * m + w)) i = true → pu_b (mb_I g 16 (20 * t + j)) i = true) ∧ xf_cb P m k w (mb_I g 15 (20 * t + j)) g
section FX3
variable {P : lf_P} {q : lf_Q} {L T : Nat → Nat → Nat → Prop} {H : Nat → Nat → Nat → Nat → Prop} {Z E : Nat → Nat → Prop} {N : Nat → Prop}
theorem mb_FIF (s : mb_S) (a j : Nat) (x v w : Int32) : mb_setF (mb_setI (mb_setF s 4 v) a j x) 4 w = mb_setF (mb_setI s a j x) 4 w := by
  have e : va_up (va_up s.1 4 v) 4 w = va_up s.1 4 w := by
    funext i
    unfold va_up
    by_cases h : i = 4
    · rw [if_pos h, if_pos h]
    · rw [if_neg h, if_neg h, if_neg h]
  show (va_up (va_up s.1 4 v) 4 w, _) = (va_up s.1 4 w, _)
  rw [e]; rfl
theorem mF_enter_l (hC : lf_FC P L T H Z E N) {t : Nat} (ht : t < 6) {v x : Int32} (hv : ∀ w, w < 16 → pu_b v w = true → ∀ i, pu_b x i = true → i < 4 ∧ E t (16 * i + w)) {s0 : mb_S} :
    ∀ (d w n : Nat) (s : mb_S), w + d = 16 → d < n → xf_W P q L T H Z E N s → xf_op (fun g => ∀ w', w' < w → pu_b v w' = true → mb_I g 16 (20 * t + w') ||| x = mb_I g 16 (20 * t + w')) s0 s → ∃ u, mF_enter_l3 n (nI t) v x (nI w) s = some ((), u) ∧ xf_W P q L T H Z E N u ∧ xf_op (fun g => ∀ w', w' < 16 → pu_b v w' = true → mb_I g 16 (20 * t + w') ||| x = mb_I g 16 (20 * t + w')) s0 u := by
  intro d
  induction d with
  | zero =>
    intro w n s hwd hn hW hop
    obtain ⟨n, rfl⟩ : ∃ z, n = z + 1 := ⟨n - 1, by omega⟩
    rw [mF_enter_l3_s, pu_l16, if_pos ((nI_leI (by omega) (by omega)).mpr (by omega))]
    exact ⟨s, rfl, hW, xf_wk hop (fun z w' h => z w' (by omega))⟩
  | succ d ih =>
    intro w n s hwd hn hW hop
    obtain ⟨n, rfl⟩ : ∃ z, n = z + 1 := ⟨n - 1, by omega⟩
    have hw : w < 16 := by omega
    rw [mF_enter_l3_s, pu_l16, if_neg (fun z => absurd ((nI_leI (a := 16) (b := w) (by omega) (by omega)).mp z) (by omega)), me_20, me_bnd, mX_has_e _ (show w < 32 by omega), me_cal0]
    unfold mF_enter_b80
    by_cases c : pu_b v w = true
    · rw [if_pos c, if_neg me_10, me_ld (by omega) (by decide)]
      by_cases c2 : (x &&& (mb_I s 16 (20 * t + w) ^^^ (-1))) = 0
      · rw [if_pos c2, me_bnd, nI_1]
        refine ih (w + 1) n s (by omega) (by omega) hW (xf_wk (xf_seq hop (xf_rf (C := fun g => mb_I g 16 (20 * t + w) ||| x = mb_I g 16 (20 * t + w)) hW.2.2.1 (by rw [xf_16]; exact xp_new.mp c2))) (fun z w' h1 h2 => ?_))
        by_cases e : w' = w
        · rw [e]; exact z.2
        · exact z.1 w' (by omega) h2
      · have c3 : mb_I s 16 (20 * t + w) ||| x ≠ mb_I s 16 (20 * t + w) := fun z => c2 (xp_new.mpr z)
        have ei : nI t * (13 : Int32) * (20 : Int32) + nI w = nI ((13 * t + 0) * 20 + w) := by rw [me_13o, me_20r]; rfl
        have hj : (13 * t + 0) * 20 + w < 1560 := by omega
        rw [if_neg c2, me_ld (by omega) (by decide), me_stI (by omega) (by decide), ei, me_ld hj (by decide), me_stI hj (by decide), me_putZ1, me_bnd, nI_1]
        obtain ⟨w1, w2, w3, w4, w5⟩ := hW
        have hf1 : xf_Fr s (mb_setF (mb_setI s 16 (20 * t + w) (mb_I s 16 (20 * t + w) ||| x)) 4 1) := (lf_fr.rf.setI ⟨by decide, by decide⟩).setF rfl
        have hop1 : xf_op (fun g => mb_I g 16 (20 * t + w) ||| x = mb_I g 16 (20 * t + w)) s (mb_setF (mb_setI s 16 (20 * t + w) (mb_I s 16 (20 * t + w) ||| x)) 4 1) := eg_growI (by decide) (by decide) (by decide) (by omega) (Or.inr rfl) (fun z => absurd z (by decide)) (fun _ _ => c3) (fun z => z) hf1
        have hf2 : xf_Fr (mb_setF (mb_setI s 16 (20 * t + w) (mb_I s 16 (20 * t + w) ||| x)) 4 1) (mb_setF (mb_setI (mb_setF (mb_setI s 16 (20 * t + w) (mb_I s 16 (20 * t + w) ||| x)) 4 1) 14 ((13 * t + 0) * 20 + w) (mb_I s 14 ((13 * t + 0) * 20 + w) ||| ((1 : Int32) <<< (nI w &&& 31)))) 4 1) := (lf_fr.rf.setI ⟨by decide, by decide⟩).setF rfl
        have hop2 : xf_op (fun g => mb_I g 14 ((13 * t + 0) * 20 + w) ||| ((1 : Int32) <<< (nI w &&& 31)) = mb_I g 14 ((13 * t + 0) * 20 + w)) (mb_setF (mb_setI s 16 (20 * t + w) (mb_I s 16 (20 * t + w) ||| x)) 4 1) (mb_setF (mb_setI (mb_setF (mb_setI s 16 (20 * t + w) (mb_I s 16 (20 * t + w) ||| x)) 4 1) 14 ((13 * t + 0) * 20 + w) (mb_I s 14 ((13 * t + 0) * 20 + w) ||| ((1 : Int32) <<< (nI w &&& 31)))) 4 1) := eg_growI (s := mb_setF (mb_setI s 16 (20 * t + w) (mb_I s 16 (20 * t + w) ||| x)) 4 1) (a := 14) (by decide) (by decide) (by decide) hj (Or.inr rfl) (fun z => absurd z (by decide)) (fun z _ => absurd (show (1 : Int32) = 0 from z) (by decide)) (fun z => z) hf2
        have hfx := hf1.tr hf2
        rw [mb_FIF] at hop2 hfx
        have e14 : mb_I (mb_setI s 16 (20 * t + w) (mb_I s 16 (20 * t + w) ||| x)) 14 = mb_I s 14 := rfl
        rw [e14]
        refine ih (w + 1) n _ (by omega) (by omega) ⟨hfx.X w1, hfx.PT w2, Or.inr rfl, ⟨fun m i hm hi j => ?_, fun m w' i hm hw' z => ?_, w4.2.2⟩, ⟨fun m k' w' i hm hk' hw' z => ?_, w5.2.1, fun m w' i hm hw' z => ?_, w5.2.2.2⟩⟩ (xf_wk (xf_seq hop (xf_seq hop1 hop2)) (fun z w' h1 h2 => ?_))
        · show pu_b (upd (mb_I s 16) (20 * t + w) (mb_I s 16 (20 * t + w) ||| x) (20 * m + (16 + i))) j = _
          rw [pu_upd, if_neg (by omega)]
          exact w4.1 m i hm hi j
        · have z2 : pu_b (upd (mb_I s 16) (20 * t + w) (mb_I s 16 (20 * t + w) ||| x) (20 * m + w')) i = true := z
          show pu_b (upd (mb_I s 14) ((13 * t + 0) * 20 + w) (mb_I s 14 ((13 * t + 0) * 20 + w) ||| ((1 : Int32) <<< (nI w &&& 31))) ((13 * m + 0) * 20 + w')) w' = true
          rw [pu_upd] at z2 ⊢
          by_cases e : (13 * m + 0) * 20 + w' = (13 * t + 0) * 20 + w
          · rw [if_pos e, show w' = w by omega]
            exact pu_or_t.mpr (Or.inr ((pu_1l_t (by omega)).mpr rfl))
          · rw [if_neg e]
            rw [if_neg (by omega)] at z2
            exact w4.2.1 m w' i hm hw' z2
        · have z2 : pu_b (upd (mb_I s 14) ((13 * t + 0) * 20 + w) (mb_I s 14 ((13 * t + 0) * 20 + w) ||| ((1 : Int32) <<< (nI w &&& 31))) ((13 * m + k') * 20 + w')) i = true := z
          rw [pu_upd] at z2
          by_cases e : (13 * m + k') * 20 + w' = (13 * t + 0) * 20 + w
          · rw [if_pos e] at z2
            rw [show m = t by omega, show k' = 0 by omega, show w' = w by omega]
            rcases pu_or_t.mp z2 with z | z
            · exact w5.1 t 0 w i ht (by omega) (by omega) z
            · rw [(pu_1l_t (by omega)).mp z]
              refine ⟨hw, fun h => by omega, fun s' e' hs' he' => ?_⟩
              rcases he' with ⟨-, h1, h2⟩ | ⟨h1, -⟩
              · have := hC.2.2.1 t e' ht (by omega) h2
                rw [← h1]; exact this
              · omega
          · rw [if_neg e] at z2
            exact w5.1 m k' w' i hm hk' hw' z2
        · have z2 : pu_b (upd (mb_I s 16) (20 * t + w) (mb_I s 16 (20 * t + w) ||| x) (20 * m + w')) i = true := z
          rw [pu_upd] at z2
          by_cases e : 20 * m + w' = 20 * t + w
          · rw [if_pos e] at z2
            rw [show m = t by omega, show w' = w by omega]
            rcases pu_or_t.mp z2 with z | z
            · exact w5.2.2.1 t w i ht hw z
            · exact hv w hw c i z
          · rw [if_neg e] at z2
            exact w5.2.2.1 m w' i hm hw' z2
        · by_cases e : w' = w
          · rw [e]; exact z.2.1
          · exact z.1 w' (by omega) h2
    · rw [if_neg c, if_pos rfl, me_bnd, nI_1]
      refine ih (w + 1) n s (by omega) (by omega) hW (xf_wk hop (fun z w' h1 h2 => ?_))
      by_cases e : w' = w
      · rw [e] at h2; exact absurd h2 c
      · exact z w' (by omega) h2
theorem mF_exits_l {s : mb_S} {t : Nat} (ht : t < 6) {v : Int32} : ∀ (d w n : Nat) (x : Int32), w + d = 16 → d < n → ∃ r, mF_exitsOfAll_l5 n (nI t) v x (nI w) s = some (r, s) ∧ ∀ p, pu_b r p = true ↔ (pu_b x p = true ∨ ∃ w', w ≤ w' ∧ w' < 16 ∧ pu_b v w' = true ∧ pu_b (mb_I s 15 (20 * t + w')) p = true) := by
  intro d
  induction d with
  | zero =>
    intro w n x hwd hn
    obtain ⟨n, rfl⟩ : ∃ z, n = z + 1 := ⟨n - 1, by omega⟩
    rw [mF_exitsOfAll_l5_s, pu_l16, if_pos ((nI_leI (by omega) (by omega)).mpr (by omega))]
    refine ⟨x, rfl, fun p => ⟨Or.inl, fun z => ?_⟩⟩
    rcases z with z | ⟨o', h1, h2, -⟩
    · exact z
    · omega
  | succ d ih =>
    intro w n x hwd hn
    obtain ⟨n, rfl⟩ : ∃ z, n = z + 1 := ⟨n - 1, by omega⟩
    rw [mF_exitsOfAll_l5_s, pu_l16, if_neg (fun z => absurd ((nI_leI (a := 16) (b := w) (by omega) (by omega)).mp z) (by omega)), mX_has_e _ (show w < 32 by omega), me_cal0]
    unfold mF_exitsOfAll_b36
    by_cases c : pu_b v w = true
    · rw [if_pos c, if_neg me_10, me_20, me_ld (by omega) (by decide), me_bnd, me_bnd, nI_1]
      obtain ⟨r, e1, e2⟩ := ih (w + 1) n (x ||| mb_I s 15 (20 * t + w)) (by omega) (by omega)
      refine ⟨r, e1, fun p => (e2 p).trans ?_⟩
      rw [pu_b_or, Bool.or_eq_true_iff]
      constructor
      · rintro ((z | z) | ⟨o', h1, h2, h3⟩)
        · exact Or.inl z
        · exact Or.inr ⟨w, Nat.le_refl _, by omega, c, z⟩
        · exact Or.inr ⟨o', by omega, h2, h3⟩
      · rintro (z | ⟨o', h1, h2, h3, h4⟩)
        · exact Or.inl (Or.inl z)
        · by_cases e : o' = w
          · rw [e] at h4; exact Or.inl (Or.inr h4)
          · exact Or.inr ⟨o', by omega, h2, h3, h4⟩
    · rw [if_neg c, if_pos rfl, me_bnd, nI_1]
      obtain ⟨r, e1, e2⟩ := ih (w + 1) n x (by omega) (by omega)
      refine ⟨r, e1, fun p => (e2 p).trans ?_⟩
      constructor
      · rintro (z | ⟨o', h1, h2, h3⟩)
        · exact Or.inl z
        · exact Or.inr ⟨o', by omega, h2, h3⟩
      · rintro (z | ⟨o', h1, h2, h3, h4⟩)
        · exact Or.inl z
        · by_cases e : o' = w
          · rw [e] at h3; exact absurd h3 c
          · exact Or.inr ⟨o', by omega, h2, h3, h4⟩
theorem xf_give (hpo : lf_ok P q) (hC : lf_FC P L T H Z E N) {m k w t j : Nat} (hm : m < 6) (hk : k < lf_len P m) (c7 : lf_kd P m k = 7) (ht : t < 6) (hT : T m k t) {f : Int32} (hf : ∀ i, pu_b f i = true → xf_hs H E N m k w i) (hj : xf_gn P m k f j) {s e : Nat} (hs : s < 4) (he : xf_ent E m w s e) : lf_gv P H E N m k e t (16 * s + j) := by
  obtain ⟨o1, o2, o3, o4, o5, o6⟩ := hpo.2.1 _ hm _ hk
  have hb : lf_b P m k < 4 := o4 (by omega)
  have key : ∀ i, pu_b f i = true → i < 16 ∧ ∀ t, t < 6 → T m k t → (4 ≤ i → lf_gv P H E N m k e t (16 * s + i)) ∧ (i = lf_b P m k → lf_gv P H E N m k e t (16 * s)) ∧ (i = lf_c P m k % 4 → lf_gv P H E N m k e t (16 * s + 1)) := by
    intro i hi
    obtain ⟨h16, hN, hH⟩ := hf i hi
    have hh := hH s e hs he
    have hin : e ≤ 64 ∧ (e = 64 → N m) ∧ (e ≠ 64 → E m e) := by
      rcases he with ⟨h1, h2, h3⟩ | ⟨h1, h2⟩
      · exact ⟨by omega, fun h => by omega, fun _ => h3⟩
      · exact ⟨by omega, fun _ => hN (by omega), fun h => absurd h2 h⟩
    have r := ((hC.2.2.2.2 m k e (16 * s + i) hm hk hin.1 (by omega) hin.2.1 hin.2.2 hh).2 c7).2
    refine ⟨h16, fun t ht hT => ?_⟩
    obtain ⟨r1, r2, r3⟩ := r t ht hT
    have e1 : (16 * s + i) % 16 = i := by omega
    have e2 : 16 * s + i - i = 16 * s := by omega
    rw [e1] at r1 r2 r3
    rw [e2] at r2 r3
    exact ⟨r1, r2, r3⟩
  rcases hj with ⟨h1, h2, h3⟩ | ⟨h1, h2⟩ | ⟨h1, h2⟩
  · exact ((key j h3).2 t ht hT).1 h1
  · rw [h1]; exact ((key _ h2).2 t ht hT).2.1 rfl
  · rw [h1]; exact ((key _ h2).2 t ht hT).2.2 rfl
theorem mF_call_l (hpo : lf_ok P q) (hC : lf_FC P L T H Z E N) {m k w : Nat} (hm : m < 6) (hk : k < lf_len P m) (c7 : lf_kd P m k = 7) (hw : w < 20) {f v : Int32} (hf : ∀ i, pu_b f i = true → xf_hs H E N m k w i) (hf0 : ∃ i, pu_b f i = true) (hv : ∀ j, pu_b v j = true ↔ xf_gn P m k f j) {s0 : mb_S} {C0 : mb_S → Prop} :
    ∀ (d t n : Nat) (s : mb_S), t + d = 6 → d < n → xf_W P q L T H Z E N s → xf_op (fun g => C0 g ∧ ∀ t', t' < t → T m k t' → ∀ j, xf_gn P m k f j → (∀ i, pu_b (mb_I g 16 (20 * m + w)) i = true → pu_b (mb_I g 16 (20 * t' + j)) i = true) ∧ xf_cb P m k w (mb_I g 15 (20 * t' + j)) g) s0 s → ∃ u, mF_call_l85 n (nI m) (nI (13 * m + k)) (nI w) v (nI t) s = some ((), u) ∧ xf_W P q L T H Z E N u ∧ xf_op (fun g => C0 g ∧ ∀ t', t' < 6 → T m k t' → ∀ j, xf_gn P m k f j → (∀ i, pu_b (mb_I g 16 (20 * m + w)) i = true → pu_b (mb_I g 16 (20 * t' + j)) i = true) ∧ xf_cb P m k w (mb_I g 15 (20 * t' + j)) g) s0 u := by
  have hl := hpo.1 m hm
  have ha : lf_a P m k < 4 := (hpo.2.1 _ hm _ hk).2.2.1 (by omega)
  obtain ⟨i0, hi0⟩ := hf0
  have hNw : 16 ≤ w → N m := (hf i0 hi0).2.1
  intro d
  induction d with
  | zero =>
    intro t n s htd hn hW hop
    obtain ⟨n, rfl⟩ : ∃ z, n = z + 1 := ⟨n - 1, by omega⟩
    rw [mF_call_l85_s, pu_l6, if_pos ((nI_leI (by omega) (by omega)).mpr (by omega))]
    exact ⟨s, rfl, hW, xf_wk hop (fun z => ⟨z.1, fun t' h => z.2 t' (by omega)⟩)⟩
  | succ d ih =>
    intro t n s htd hn hW hop
    obtain ⟨n, rfl⟩ : ∃ z, n = z + 1 := ⟨n - 1, by omega⟩
    have ht : t < 6 := by omega
    have hb := hW.2.1.2.1 m k t hm hk c7
    rw [mF_call_l85_s, pu_l6, if_neg (fun z => absurd ((nI_leI (a := 6) (b := t) (by omega) (by omega)).mp z) (by omega)), me_ld (by omega) (by decide), mX_has_e _ (show t < 32 by omega), me_cal0]
    unfold mF_call_b142
    by_cases c : pu_b (mb_I s 13 (13 * m + k)) t = true
    · have hT := hb.mp c
      have j16 : ∀ j, xf_gn P m k f j → j < 16 := fun j hj => by
        rcases hj with ⟨-, h, -⟩ | ⟨h, -⟩ | ⟨h, -⟩ <;> omega
      have hlab : ∀ i, pu_b (mb_I s 16 (20 * m + w)) i = true → i < 4 ∧ ∃ e, xf_ent E m w i e := fun i hi => by
        by_cases c16 : w < 16
        · obtain ⟨h1, h2⟩ := hW.2.2.2.2.2.2.1 m w i hm c16 hi
          exact ⟨h1, _, Or.inl ⟨c16, rfl, h2⟩⟩
        · have h := hW.2.2.2.1.1 m (w - 16) hm (by omega) i
          rw [show 16 + (w - 16) = w by omega, hi] at h
          have := of_decide_eq_true h.symm
          exact ⟨by omega, 64, Or.inr ⟨by omega, rfl⟩⟩
      obtain ⟨u1, e1, e2, e3⟩ := mF_enter_l (q := q) hC ht (v := v) (x := mb_I s 16 (20 * m + w)) (fun w' hw' hv' i hi => by
        obtain ⟨h4, e, he⟩ := hlab i hi
        have gv := xf_give hpo hC hm hk c7 ht hT hf ((hv w').mp hv') h4 he
        exact ⟨h4, gv.2.1 (by omega)⟩) (s0 := s) 16 0 mb_fuel s rfl (by unfold mb_fuel; omega) hW (xf_rf hW.2.2.1 (fun w' h => absurd h (Nat.not_lt_zero _)))
      have e1 : mF_enter (nI t) v (mb_I s 16 (20 * m + w)) s = some ((), u1) := e1
      obtain ⟨r, r1, r2⟩ := mF_exits_l (s := u1) ht (v := v) 16 0 mb_fuel 0 rfl (by unfold mb_fuel; omega)
      have r1 : mF_exitsOfAll (nI t) v u1 = some (r, u1) := r1
      obtain ⟨u2, e4, e5, e6⟩ := mF_comeBack_e hpo e2 hm hk ha hw (x := r) (fun i hi => by
        rcases (r2 i).mp hi with z | ⟨w', -, hw', hvw, hx⟩
        · rw [pu_b_0] at z; cases z
        · have hj := (hv w').mp hvw
          have hbk := xf_back (P := P) (H := H) (E := E) (N := N) (m := m) (k := k) (t := t) (w := w) (w' := w') (i := i) hNw ha (fun s' e hs he => by
            have gv := xf_give hpo hC hm hk c7 ht hT hf hj hs he
            exact ⟨16 * s' + w', Or.inl ⟨hw', rfl, gv.2.1 (by omega)⟩, gv⟩) (e2.2.2.2.2.2.1 t w' i ht (by omega) hx)
          exact ⟨hbk.1, fun h0 => hbk.2 h0 ha (fun p hp hp10 => (hpo.2.1 _ ht _ hp).2.2.1 (by omega))⟩)
      rw [if_pos c, if_neg me_10, me_20, me_ld (by omega) (by decide), e1, me_cal, r1, me_cal, e4, me_cal, me_bnd, nI_1]
      refine ih (t + 1) n u2 (by omega) (by omega) e5 (xf_wk (xf_seq hop (xf_seq (xf_wk (C2 := fun g => ∀ j, xf_gn P m k f j → ∀ i, pu_b (mb_I g 16 (20 * m + w)) i = true → pu_b (mb_I g 16 (20 * t + j)) i = true) e3 (fun z j hj i hi => ?_)) (xf_wk (C2 := fun g => ∀ j, xf_gn P m k f j → xf_cb P m k w (mb_I g 15 (20 * t + j)) g) e6 (fun z j hj => ?_)))) (fun z => ⟨z.1.1, fun t' h1 h2 j hj => ?_⟩))
      · have := z j (j16 j hj) ((hv j).mpr hj)
        rw [xf_16] at this hi ⊢
        exact xp_or this hi
      · rw [xf_15]
        exact ⟨fun i h4 h16 hb => z.1 i h4 h16 ((r2 i).mpr (Or.inr ⟨j, Nat.zero_le _, j16 j hj, (hv j).mpr hj, hb⟩)), fun hb => z.2 ((r2 0).mpr (Or.inr ⟨j, Nat.zero_le _, j16 j hj, (hv j).mpr hj, hb⟩))⟩
      · by_cases e : t' = t
        · rw [e]; exact ⟨z.2.1 j hj, z.2.2 j hj⟩
        · exact z.1.2 t' (by omega) h2 j hj
    · rw [if_neg c, if_pos rfl, me_bnd, nI_1]
      refine ih (t + 1) n s (by omega) (by omega) hW (xf_wk hop (fun z => ⟨z.1, fun t' h1 h2 => ?_⟩))
      by_cases e : t' = t
      · rw [e] at h2; exact absurd (hb.mpr h2) c
      · exact z.2 t' (by omega) h2
theorem mF_call_e (hpo : lf_ok P q) (hC : lf_FC P L T H Z E N) {s : mb_S} (hW : xf_W P q L T H Z E N s) {m k w : Nat} (hm : m < 6) (hk : k < lf_len P m) (c7 : lf_kd P m k = 7) (hw : w < 20) {f : Int32} (hf : ∀ i, pu_b f i = true → xf_hs H E N m k w i) (hf0 : ∃ i, pu_b f i = true) : ∃ u, mF_call (nI m) (nI (13 * m + k)) (nI w) f s = some ((), u) ∧ xf_W P q L T H Z E N u ∧ xf_op (xf_cl P T m k w f) s u := by
  have hl := hpo.1 m hm
  obtain ⟨-, a1, a2, a3, -⟩ := hW.1.2.1 _ hm _ hk
  obtain ⟨o1, o2, o3, o4, o5, o6⟩ := hpo.2.1 _ hm _ hk
  have ha : lf_a P m k < 4 := o3 (by omega)
  have hb : lf_b P m k < 4 := o4 (by omega)
  have hc := o6 c7
  obtain ⟨u1, e1, e2, e3⟩ := mF_growHeld_e hW hm (k := k + 1) (by omega) hw (v := (f &&& 15) &&& (((1 : Int32) <<< (nI (lf_a P m k) &&& 31)) ^^^ (-1))) (fun i hi => by
    obtain ⟨h1, h2⟩ := pu_and_t.mp hi
    obtain ⟨h3, h4⟩ := pu_and_t.mp h1
    rw [pu_b_loc] at h4
    have h5 := of_decide_eq_true h4
    have h6 : i ≠ lf_a P m k := fun e => (pu_not_t.mp h2).2 ((pu_1l_t (by omega)).mpr e)
    obtain ⟨g1, g2, g3⟩ := hf i h3
    refine ⟨g1, g2, fun s' e hs he => ?_⟩
    have hin : e ≤ 64 ∧ (e = 64 → N m) ∧ (e ≠ 64 → E m e) := by
      rcases he with ⟨h1, h2, h3⟩ | ⟨h1, h2⟩
      · exact ⟨by omega, fun h => by omega, fun _ => h3⟩
      · exact ⟨by omega, fun _ => g2 (by omega), fun h => absurd h2 h⟩
    exact ((hC.2.2.2.2 m k e (16 * s' + i) hm hk hin.1 (by omega) hin.2.1 hin.2.2 (g3 s' e hs he)).2 c7).1 (by omega) (by omega))
  obtain ⟨-, a1', a2', a3', -⟩ := e2.1.2.1 _ hm _ hk
  have fin : ∀ v : Int32, (∀ j, pu_b v j = true ↔ xf_gn P m k f j) → ∃ u, mF_call_b82 (nI m) (nI (13 * m + k)) (nI w) v u1 = some ((), u) ∧ xf_W P q L T H Z E N u ∧ xf_op (xf_cl P T m k w f) s u := by
    intro v hv
    obtain ⟨u, g1, g2, g3⟩ := mF_call_l hpo hC hm hk c7 hw hf hf0 hv (s0 := s) (C0 := fun g => mb_I g 14 ((13 * m + (k + 1)) * 20 + w) ||| ((f &&& 15) &&& (((1 : Int32) <<< (nI (lf_a P m k) &&& 31)) ^^^ (-1))) = mb_I g 14 ((13 * m + (k + 1)) * 20 + w)) 6 0 mb_fuel u1 rfl (by unfold mb_fuel; omega) e2 (xf_wk e3 (fun z => ⟨z, fun t' h => absurd h (Nat.not_lt_zero _)⟩))
    refine ⟨u, g1, g2, xf_wk g3 (fun z => ⟨fun i h4 hi hn => xp_or z.1 (pu_and_t.mpr ⟨pu_and_t.mpr ⟨hi, ?_⟩, pu_not_t.mpr ⟨by omega, fun y => hn ((pu_1l_t (by omega)).mp y)⟩⟩), z.2⟩)⟩
    rw [pu_b_loc]; exact decide_eq_true h4
  have b57 : ∀ v : Int32, (∀ j, pu_b v j = true ↔ ((4 ≤ j ∧ j < 16 ∧ pu_b f j = true) ∨ (j = 0 ∧ pu_b f (lf_b P m k) = true))) → ∃ u, mF_call_b57 (nI m) (nI (13 * m + k)) (nI w) f v u1 = some ((), u) ∧ xf_W P q L T H Z E N u ∧ xf_op (xf_cl P T m k w f) s u := by
    intro v hv
    unfold mF_call_b57
    rw [me_ld (by omega) (by decide), a3', me_m4 (by omega), mX_has_e _ (show lf_c P m k % 4 < 32 by omega), me_cal0]
    by_cases c : pu_b f (lf_c P m k % 4) = true
    · rw [if_pos c, if_neg me_10, me_bnd]
      refine fin _ (fun j => ?_)
      rw [pu_or_t, hv j, pu_b_two, decide_eq_true_iff]
      constructor
      · rintro ((h | h) | h)
        · exact Or.inl h
        · exact Or.inr (Or.inl h)
        · exact Or.inr (Or.inr ⟨h, c⟩)
      · rintro (h | h | h)
        · exact Or.inl (Or.inl h)
        · exact Or.inl (Or.inr h)
        · exact Or.inr h.1
    · rw [if_neg c, if_pos rfl]
      refine fin _ (fun j => (hv j).trans ?_)
      constructor
      · rintro (h | h)
        · exact Or.inl h
        · exact Or.inr (Or.inl h)
      · rintro (h | h | h)
        · exact Or.inl h
        · exact Or.inr h
        · exact absurd h.2 c
  have hfl : ∀ j, pu_b (f &&& 65520) j = true ↔ (4 ≤ j ∧ j < 16 ∧ pu_b f j = true) := fun j => by
    rw [pu_and_t, pu_fld_t]
    exact ⟨fun h => ⟨h.2.1, h.2.2, h.1⟩, fun h => ⟨h.2.2, h.1, h.2.1⟩⟩
  unfold mF_call
  rw [me_ld (by omega) (by decide), a1, nI_1, show 13 * m + k + 1 = 13 * m + (k + 1) from rfl, e1, me_cal, me_bnd, me_ld (by omega) (by decide), a2', mX_has_e _ (show lf_b P m k < 32 by omega), me_cal0]
  by_cases c : pu_b f (lf_b P m k) = true
  · rw [if_pos c, if_neg me_10, me_bnd]
    refine b57 _ (fun j => ?_)
    rw [pu_or_t, hfl j, pu_b_one, decide_eq_true_iff]
    exact ⟨fun h => h.elim Or.inl (fun h => Or.inr ⟨h, c⟩), fun h => h.elim Or.inl (fun h => Or.inr h.1)⟩
  · rw [if_neg c, if_pos rfl]
    refine b57 _ (fun j => (hfl j).trans ?_)
    exact ⟨Or.inl, fun h => h.elim id (fun h => absurd h.2 c)⟩
end FX3
