def xf_cb (P : lf_P) (m k w : Nat) (x : Int32) (g : mb_S) : Prop := (∀ i, 4 ≤ i → i < 16 → pu_b x i = true → pu_b (mb_I g 14 ((13 * m + (k + 1)) * 20 + w)) i = true) ∧ (pu_b x 0 = true → pu_b (mb_I g 14 ((13 * m + (k + 1)) * 20 + w)) (lf_a P m k) = true)
def xf_zt (P : lf_P) (m k t : Nat) (g : mb_S) : Prop := pu_b (mb_I g 17 t) 0 = true ∧ ∀ w, 16 ≤ w → w < 20 → xf_cb P m k w (mb_I g 15 (20 * t + w)) g
def xf_pz (P : lf_P) (T : Nat → Nat → Nat → Prop) (m k : Nat) (g : mb_S) : Prop := lf_kd P m k ≠ 10 → (lf_kd P m k ≠ 9 → pu_b (mb_I g 17 m) (k + 1) = true) ∧ ((lf_kd P m k = 8 ∨ lf_kd P m k = 9) → pu_b (mb_I g 17 m) (min (lf_a P m k) (lf_len P m)) = true) ∧ (lf_kd P m k = 1 → pu_b (mb_I g 14 ((13 * m + (k + 1)) * 20 + (16 + lf_bef P 1 m k))) (lf_a P m k) = true) ∧ (lf_kd P m k = 7 → ∀ t, t < 6 → T m k t → xf_zt P m k t g)
section FX2
variable {P : lf_P} {q : lf_Q} {L T : Nat → Nat → Nat → Prop} {H : Nat → Nat → Nat → Nat → Prop} {Z E : Nat → Nat → Prop} {N : Nat → Prop} {s : mb_S}
theorem mF_comeBack_e (hpo : lf_ok P q) (hW : xf_W P q L T H Z E N s) {m k w : Nat} (hm : m < 6) (hk : k < lf_len P m) (ha : lf_a P m k < 4) (hw : w < 20) {x : Int32} (hx : ∀ i, pu_b x i = true → (4 ≤ i → i < 16 → xf_hs H E N m (k + 1) w i) ∧ (i = 0 → xf_hs H E N m (k + 1) w (lf_a P m k))) : ∃ t, mF_comeBack (nI (13 * m + k)) (nI w) x s = some ((), t) ∧ xf_W P q L T H Z E N t ∧ xf_op (xf_cb P m k w x) s t := by
  have hl := hpo.1 m hm
  have a1 := (hW.1.2.1 _ hm _ hk).2.1
  unfold mF_comeBack mF_comeBack_b21
  by_cases c : pu_b x 0 = true
  · obtain ⟨t, e1, e2, e3⟩ := mF_growHeld_e hW hm (k := k + 1) (by omega) hw (v := (x &&& 65520) ||| ((1 : Int32) <<< (nI (lf_a P m k) &&& 31))) (fun i hi => by
      rcases pu_or_t.mp hi with z | z
      · obtain ⟨z1, z2⟩ := pu_and_t.mp z
        obtain ⟨z3, z4⟩ := pu_fld_t.mp z2
        exact (hx i z1).1 z3 z4
      · rw [(pu_1l_t (by omega)).mp z]; exact (hx 0 c).2 rfl)
    rw [if_neg (fun z => pu_and1.mp z c), me_ld (by omega) (by decide), a1, nI_1, show 13 * m + k + 1 = 13 * m + (k + 1) from rfl, e1, me_cal]
    exact ⟨t, rfl, e2, xf_wk e3 (fun z => ⟨fun i h4 h16 hb => xp_or z (pu_or_t.mpr (Or.inl (pu_and_t.mpr ⟨hb, pu_fld_t.mpr ⟨h4, h16⟩⟩))), fun _ => xp_or z (pu_or_t.mpr (Or.inr ((pu_1l_t (by omega)).mpr rfl)))⟩)⟩
  · obtain ⟨t, e1, e2, e3⟩ := mF_growHeld_e hW hm (k := k + 1) (by omega) hw (v := (x &&& 65520) ||| 0) (fun i hi => by
      rcases pu_or_t.mp hi with z | z
      · obtain ⟨z1, z2⟩ := pu_and_t.mp z
        obtain ⟨z3, z4⟩ := pu_fld_t.mp z2
        exact (hx i z1).1 z3 z4
      · rw [pu_b_0] at z; cases z)
    rw [if_pos (pu_and1.mpr c), nI_1, show 13 * m + k + 1 = 13 * m + (k + 1) from rfl, e1, me_cal]
    exact ⟨t, rfl, e2, xf_wk e3 (fun z => ⟨fun i h4 h16 hb => xp_or z (pu_or_t.mpr (Or.inl (pu_and_t.mpr ⟨hb, pu_fld_t.mpr ⟨h4, h16⟩⟩))), fun h => absurd h c⟩)⟩
theorem xf_back {m k t w w' i : Nat} (hN : 16 ≤ w → N m) (ha : lf_a P m k < 4) (hg : ∀ s e, s < 4 → xf_ent E m w s e → ∃ g, xf_ent E t w' s g ∧ lf_gv P H E N m k e t g) (hx : xf_xs P H E N t w' i) : (4 ≤ i → i < 16 → xf_hs H E N m (k + 1) w i) ∧ (i = 0 → lf_a P m k < 4 → (∀ p, p < lf_len P t → lf_kd P t p = 10 → lf_a P t p < 4) → xf_hs H E N m (k + 1) w (lf_a P m k)) := by
  refine ⟨fun h4 h16 => ⟨h16, hN, fun s e hs he => ?_⟩, fun h0 ha hp4 => ⟨by omega, hN, fun s e hs he => ?_⟩⟩
  · obtain ⟨g, hgt, gv⟩ := hg s e hs he
    obtain ⟨p, hp, hpe, hH⟩ := (hx.2.2 s g hs hgt).2 h4
    have := (gv.2.2 p (16 * s + i) hp (by omega) hH).1 hpe (by omega)
    exact this
  · obtain ⟨g, hgt, gv⟩ := hg s e hs he
    obtain ⟨p, hp, hpe, hH⟩ := (hx.2.2 s g hs hgt).1 h0
    have h4 := hp4 p hp hpe
    have := (gv.2.2 p (16 * s + lf_a P t p) (by omega) (by omega) hH).2 hp hpe (by omega)
    rw [show 16 * s + lf_a P t p - (16 * s + lf_a P t p) % 16 + lf_a P m k = 16 * s + lf_a P m k by omega] at this
    exact this
theorem mF_callZero_33 (hpo : lf_ok P q) (hC : lf_FC P L T H Z E N) {m k t : Nat} (hm : m < 6) (hk : k < lf_len P m) (c7 : lf_kd P m k = 7) (ht : t < 6) (hT : T m k t) (hN : N m) (hZ : Z m k) (k2 : Int32 → Int32 → mb_S → Option (Unit × mb_S)) (Q : Unit × mb_S → Prop) {C0 : mb_S → Prop} {s0 : mb_S} (hk2 : ∀ s, xf_W P q L T H Z E N s → xf_op (fun g => C0 g ∧ ∀ w, 16 ≤ w → w < 20 → xf_cb P m k w (mb_I g 15 (20 * t + w)) g) s0 s → pu_wp (k2 (nI (13 * m + k)) (nI (t + 1)) s) Q) :
    ∀ (d w n : Nat) (s : mb_S), w + d = 20 → d < n → 16 ≤ w → xf_W P q L T H Z E N s → xf_op (fun g => C0 g ∧ ∀ w', 16 ≤ w' → w' < w → xf_cb P m k w' (mb_I g 15 (20 * t + w')) g) s0 s → pu_wp (mF_callZero_l33 k2 n (nI (13 * m + k)) (nI t) (nI w) s) Q := by
  have ha : lf_a P m k < 4 := (hpo.2.1 _ hm _ hk).2.2.1 (by omega)
  intro d
  induction d with
  | zero =>
    intro w n s hwd hn h16 hW hop
    obtain ⟨n, rfl⟩ : ∃ z, n = z + 1 := ⟨n - 1, by omega⟩
    rw [mF_callZero_l33_s, pu_l20, if_pos ((nI_leI (by omega) (by omega)).mpr (by omega))]
    unfold mF_callZero_b62
    rw [me_bnd, nI_1]
    refine hk2 s hW (xf_wk hop (fun z => ⟨z.1, fun w' h1 h2 => z.2 w' h1 (by omega)⟩))
  | succ d ih =>
    intro w n s hwd hn h16 hW hop
    obtain ⟨n, rfl⟩ : ∃ z, n = z + 1 := ⟨n - 1, by omega⟩
    have gv := ((hC.2.2.2.1 m k hm hk hN hZ).2 c7).2 t ht hT
    obtain ⟨u, e1, e2, e3⟩ := mF_comeBack_e hpo hW hm hk ha (w := w) (by omega) (x := mb_I s 15 (20 * t + w)) (fun i hi => by
      have hb := xf_back (P := P) (H := H) (E := E) (N := N) (m := m) (k := k) (t := t) (w := w) (w' := w) (i := i) (fun _ => hN) ha (fun s' e hs he => by
        rcases he with ⟨h, -⟩ | ⟨h1, h2⟩
        · omega
        · subst h2
          exact ⟨64, Or.inr ⟨h1, rfl⟩, gv⟩) (hW.2.2.2.2.2.1 t w i ht (by omega) hi)
      exact ⟨hb.1, fun h0 => hb.2 h0 ha (fun p hp hp10 => (hpo.2.1 _ ht _ hp).2.2.1 (by omega))⟩)
    rw [mF_callZero_l33_s, pu_l20, if_neg (fun z => absurd ((nI_leI (a := 20) (b := w) (by omega) (by omega)).mp z) (by omega)), ← pu_l20, me_20, me_ld (by omega) (by decide), e1, me_cal, me_bnd, nI_1]
    refine ih (w + 1) n u (by omega) (by omega) (by omega) e2 (xf_wk (xf_seq hop (xf_wk (C2 := fun g => xf_cb P m k w (mb_I g 15 (20 * t + w)) g) e3 (fun z => by rw [xf_15]; exact z))) (fun z => ⟨z.1.1, fun w' h1 h2 => ?_⟩))
    by_cases e : w' = w
    · rw [e]; exact z.2
    · exact z.1.2 w' h1 (by omega)
theorem mF_callZero_l (hpo : lf_ok P q) (hC : lf_FC P L T H Z E N) {m k : Nat} (hm : m < 6) (hk : k < lf_len P m) (c7 : lf_kd P m k = 7) (hN : N m) (hZ : Z m k) {s0 : mb_S} :
    ∀ (d t n : Nat) (s : mb_S), t + d = 6 → d < n → xf_W P q L T H Z E N s → xf_op (fun g => ∀ t', t' < t → T m k t' → xf_zt P m k t' g) s0 s → pu_wp (mF_callZero_l2 n (nI (13 * m + k)) (nI t) s) (fun z => xf_W P q L T H Z E N z.2 ∧ xf_op (fun g => ∀ t', t' < 6 → T m k t' → xf_zt P m k t' g) s0 z.2) := by
  have hl := hpo.1 m hm
  intro d
  induction d with
  | zero =>
    intro t n s htd hn hW hop
    obtain ⟨n, rfl⟩ : ∃ z, n = z + 1 := ⟨n - 1, by omega⟩
    rw [mF_callZero_l2_s, pu_l6, if_pos ((nI_leI (by omega) (by omega)).mpr (by omega)), pu_some]
    exact ⟨hW, xf_wk hop (fun z t' h => z t' (by omega))⟩
  | succ d ih =>
    intro t n s htd hn hW hop
    obtain ⟨n, rfl⟩ : ∃ z, n = z + 1 := ⟨n - 1, by omega⟩
    have ht : t < 6 := by omega
    have hb := hW.2.1.2.1 m k t hm hk c7
    rw [mF_callZero_l2_s, pu_l6, if_neg (fun z => absurd ((nI_leI (a := 6) (b := t) (by omega) (by omega)).mp z) (by omega)), me_ld (by omega) (by decide), mX_has_e _ (show t < 32 by omega), me_cal0]
    by_cases c : pu_b (mb_I s 13 (13 * m + k)) t = true
    · have hT := hb.mp c
      have gv := ((hC.2.2.2.1 m k hm hk hN hZ).2 c7).2 t ht hT
      have hNt : N t := gv.1 rfl
      obtain ⟨u, e1, e2, e3⟩ := mF_growZero_e hW ht (k := 0) (by omega) hNt (hC.2.1 t ht hNt)
      rw [nI_0] at e1
      rw [if_pos c, if_neg me_10, e1, me_cal, show (16 : Int32) = nI 16 from rfl]
      refine mF_callZero_33 hpo hC hm hk c7 ht hT hN hZ (mF_callZero_l2 n) _ (C0 := fun g => (∀ t', t' < t → T m k t' → xf_zt P m k t' g) ∧ pu_b (mb_I g 17 t) 0 = true) (s0 := s0) (fun y hy hoy => ?_) 4 16 mb_fuel u rfl (by unfold mb_fuel; omega) (Nat.le_refl _) e2 (xf_wk (xf_seq hop e3) (fun z => ⟨z, fun w' h1 h2 => by omega⟩))
      refine ih (t + 1) n y (by omega) (by omega) hy (xf_wk hoy (fun z t' h1 h2 => ?_))
      by_cases e : t' = t
      · rw [e]; exact ⟨z.1.2, z.2⟩
      · exact z.1.1 t' (by omega) h2
    · rw [if_neg c, if_pos rfl]
      unfold mF_callZero_b62
      rw [me_bnd, nI_1]
      refine ih (t + 1) n s (by omega) (by omega) hW (xf_wk hop (fun z t' h1 h2 => ?_))
      by_cases e : t' = t
      · rw [e] at h2; exact absurd (hb.mpr h2) c
      · exact z t' (by omega) h2
theorem mF_passZero_e (hpo : lf_ok P q) (hC : lf_FC P L T H Z E N) {m k : Nat} (hm : m < 6) (hk : k < lf_len P m) (hN : N m) (hZ : Z m k) (hW : xf_W P q L T H Z E N s) : ∃ t, mF_passZero (nI m) (nI k) s = some ((), t) ∧ xf_W P q L T H Z E N t ∧ xf_op (xf_pz P T m k) s t := by
  have hl := hpo.1 m hm
  obtain ⟨o1, o2, o3, o4, o5, o6⟩ := hpo.2.1 _ hm _ hk
  have rl := hC.2.2.2.1 m k hm hk hN hZ
  have a0 := (hW.1.2.1 _ hm _ hk).1
  have h110 : ∀ u, xf_W P q L T H Z E N u → ∃ t, mF_passZero_b110 (nI (13 * m + k)) (nI (lf_kd P m k)) u = some ((), t) ∧ xf_W P q L T H Z E N t ∧ xf_op (fun g => lf_kd P m k = 7 → ∀ t, t < 6 → T m k t → xf_zt P m k t g) u t := by
    intro u hu
    unfold mF_passZero_b110 mF_passZero_b122
    rw [pu_l7]
    by_cases c7 : lf_kd P m k = 7
    · rw [if_pos ((nI_eq (by omega) (by omega)).mpr c7)]
      obtain ⟨⟨⟨⟩, t⟩, e1, e2, e3⟩ := mF_callZero_l hpo hC hm hk c7 hN hZ (s0 := u) 6 0 mb_fuel u rfl (by unfold mb_fuel; omega) hu (xf_rf hu.2.2.1 (fun t' h => absurd h (Nat.not_lt_zero _)))
      have e1 : mF_callZero (nI (13 * m + k)) u = some ((), t) := e1
      rw [e1, me_cal]
      exact ⟨t, rfl, e2, xf_wk e3 (fun z _ => z)⟩
    · rw [if_neg (fun z => c7 ((nI_eq (by omega) (by omega)).mp z))]
      exact ⟨u, rfl, hu, xf_rf hu.2.2.1 (fun z => absurd z c7)⟩
  have h74 : ∀ u, xf_W P q L T H Z E N u → ∃ t, mF_passZero_b74 (nI (13 * m + k)) (nI (lf_kd P m k)) u = some ((), t) ∧ xf_W P q L T H Z E N t ∧ xf_op (fun g => (lf_kd P m k = 1 → pu_b (mb_I g 14 ((13 * m + (k + 1)) * 20 + (16 + lf_bef P 1 m k))) (lf_a P m k) = true) ∧ (lf_kd P m k = 7 → ∀ t, t < 6 → T m k t → xf_zt P m k t g)) u t := by
    intro u hu
    unfold mF_passZero_b74
    by_cases c1 : lf_kd P m k = 1
    · obtain ⟨-, b1, -, -, b4⟩ := hu.1.2.1 _ hm _ hk
      have hbl := lf_bef_lt P hm hk
      rw [c1] at hbl b4
      have h4 := hpo.2.2.2.1
      have ha : lf_a P m k < 4 := o3 (by omega)
      obtain ⟨t, e1, e2, e3⟩ := mF_growHeld_e hu hm (k := k + 1) (by omega) (w := 16 + lf_bef P 1 m k) (by omega) (v := (1 : Int32) <<< (nI (lf_a P m k) &&& 31)) (fun i hi => by
        rw [(pu_1l_t (by omega)).mp hi]
        refine ⟨by omega, fun _ => hN, fun s e hs he => ?_⟩
        rcases he with ⟨h, -⟩ | ⟨h1, h2⟩
        · omega
        · subst h2
          rw [show s = lf_bef P 1 m k by omega]
          exact (rl.1 (by omega) (by omega) (k + 1) (Or.inr ⟨by omega, rfl⟩)).2 c1)
      obtain ⟨t2, e4, e5, e6⟩ := h110 t e2
      rw [if_pos ((pu_eq1 (by omega)).mpr c1), me_ld (by omega) (by decide), b4, me_ld (by omega) (by decide), b1, nI_1, show 13 * m + k + 1 = 13 * m + (k + 1) from rfl, show (16 : Int32) + nI (lf_bef P 1 m k) = nI (16 + lf_bef P 1 m k) from nI_add 16 _, e1, me_cal]
      refine ⟨t2, e4, e5, xf_wk (xf_seq e3 e6) (fun z => ⟨fun _ => xp_or z.1 ((pu_1l_t (by omega)).mpr rfl), z.2⟩)⟩
    · rw [if_neg (fun z => c1 ((pu_eq1 (by omega)).mp z))]
      obtain ⟨t2, e4, e5, e6⟩ := h110 u hu
      exact ⟨t2, e4, e5, xf_wk e6 (fun z => ⟨fun h => absurd h c1, z⟩)⟩
  have h41 : ∀ u, lf_kd P m k ≠ 10 → xf_W P q L T H Z E N u → ∃ t, mF_passZero_b41 (nI m) (nI (13 * m + k)) (nI (lf_kd P m k)) u = some ((), t) ∧ xf_W P q L T H Z E N t ∧ xf_op (fun g => ((lf_kd P m k = 8 ∨ lf_kd P m k = 9) → pu_b (mb_I g 17 m) (min (lf_a P m k) (lf_len P m)) = true) ∧ (lf_kd P m k = 1 → pu_b (mb_I g 14 ((13 * m + (k + 1)) * 20 + (16 + lf_bef P 1 m k))) (lf_a P m k) = true) ∧ (lf_kd P m k = 7 → ∀ t, t < 6 → T m k t → xf_zt P m k t g)) u t := by
    intro u n10 hu
    have h55 : (lf_kd P m k = 8 ∨ lf_kd P m k = 9) → ∃ t, mF_passZero_b55 (nI m) (nI (13 * m + k)) (nI (lf_kd P m k)) u = some ((), t) ∧ xf_W P q L T H Z E N t ∧ xf_op (fun g => ((lf_kd P m k = 8 ∨ lf_kd P m k = 9) → pu_b (mb_I g 17 m) (min (lf_a P m k) (lf_len P m)) = true) ∧ (lf_kd P m k = 1 → pu_b (mb_I g 14 ((13 * m + (k + 1)) * 20 + (16 + lf_bef P 1 m k))) (lf_a P m k) = true) ∧ (lf_kd P m k = 7 → ∀ t, t < 6 → T m k t → xf_zt P m k t g)) u t := by
      intro h89
      have hmin := Nat.min_le_right (lf_a P m k) (lf_len P m)
      obtain ⟨t, e1, e2, e3⟩ := mF_growZero_e hu hm (k := min (lf_a P m k) (lf_len P m)) (by omega) hN (rl.1 (by omega) n10 _ (Or.inl ⟨h89, rfl⟩)).1
      obtain ⟨t2, e4, e5, e6⟩ := h74 t e2
      unfold mF_passZero_b55
      rw [mP_jump_e hu.1 hpo hm hk h89, me_cal, me_13o, me_sub _ _ (by omega), Nat.add_sub_cancel_left, e1, me_cal]
      exact ⟨t2, e4, e5, xf_wk (xf_seq e3 e6) (fun z => ⟨fun _ => z.1, z.2⟩)⟩
    unfold mF_passZero_b41
    rw [pu_l9, pu_l8]
    by_cases c9 : lf_kd P m k = 9
    · rw [if_pos ((nI_eq (by omega) (by omega)).mpr c9)]
      exact h55 (Or.inr c9)
    · rw [if_neg (fun z => c9 ((nI_eq (by omega) (by omega)).mp z))]
      by_cases c8 : lf_kd P m k = 8
      · rw [if_pos ((nI_eq (by omega) (by omega)).mpr c8)]
        exact h55 (Or.inl c8)
      · rw [if_neg (fun z => c8 ((nI_eq (by omega) (by omega)).mp z))]
        obtain ⟨t2, e4, e5, e6⟩ := h74 u hu
        exact ⟨t2, e4, e5, xf_wk e6 (fun z => ⟨fun h => by omega, z⟩)⟩
  unfold mF_passZero
  rw [me_13, me_bnd, me_ld (by omega) (by decide), a0, pu_l10, pu_l9]
  by_cases c10 : lf_kd P m k = 10
  · rw [if_pos ((nI_eq (by omega) (by omega)).mpr c10)]
    exact ⟨s, rfl, hW, xf_rf hW.2.2.1 (fun h => absurd c10 h)⟩
  · rw [if_neg (fun z => c10 ((nI_eq (by omega) (by omega)).mp z))]
    by_cases c9 : lf_kd P m k = 9
    · rw [if_pos ((nI_eq (by omega) (by omega)).mpr c9)]
      obtain ⟨t, e1, e2, e3⟩ := h41 s c10 hW
      exact ⟨t, e1, e2, xf_wk e3 (fun z _ => ⟨fun h => absurd c9 h, z⟩)⟩
    · rw [if_neg (fun z => c9 ((nI_eq (by omega) (by omega)).mp z))]
      have hZ1 : Z m (k + 1) := by
        by_cases c7 : lf_kd P m k = 7
        · exact (rl.2 c7).1
        · exact (rl.1 c7 c10 (k + 1) (Or.inr ⟨c9, rfl⟩)).1
      obtain ⟨t, e1, e2, e3⟩ := mF_growZero_e hW hm (k := k + 1) (by omega) hN hZ1
      obtain ⟨t2, e4, e5, e6⟩ := h41 t c10 e2
      rw [nI_1, e1, me_cal]
      exact ⟨t2, e4, e5, xf_wk (xf_seq e3 e6) (fun z _ => ⟨fun _ => z.1, z.2⟩)⟩
end FX2
