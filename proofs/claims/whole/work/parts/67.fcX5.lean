def xf_en (P : lf_P) (m : Nat) (g : mb_S) : Prop := ∀ w, w < 20 → ∀ i, 4 ≤ i → i < 16 → pu_b (mb_I g 14 ((13 * m + lf_len P m) * 20 + w)) i = true → pu_b (mb_I g 15 (20 * m + w)) i = true
def xf_pl (P : lf_P) (L T : Nat → Nat → Nat → Prop) (m k : Nat) (g : mb_S) : Prop := (pu_b (mb_I g 17 m) k = true → xf_pz P T m k g) ∧ ∀ w, w < 20 → xf_ps P L T m k w (mb_I g 14 ((13 * m + k) * 20 + w)) g
def xf_mt (P : lf_P) (L T : Nat → Nat → Nat → Prop) (m : Nat) (g : mb_S) : Prop := (∀ k, k < lf_len P m → xf_pl P L T m k g) ∧ xf_en P m g
section FX5
variable {P : lf_P} {q : lf_Q} {L T : Nat → Nat → Nat → Prop} {H : Nat → Nat → Nat → Nat → Prop} {Z E : Nat → Nat → Prop} {N : Nat → Prop}
theorem xf_ps_0 {m k w : Nat} {g : mb_S} : xf_ps P L T m k w 0 g := by
  have n : ∀ i, ¬ pu_b (0 : Int32) i = true := fun i h => by rw [pu_b_0] at h; cases h
  refine ⟨fun _ => ⟨fun i _ h => absurd h (n i), fun t _ _ j hj => ?_⟩, fun _ => ⟨fun i _ _ h => absurd h (n i), fun h => absurd h (n _)⟩, fun _ _ i _ _ h => absurd h (n i)⟩
  rcases hj with ⟨-, -, h⟩ | ⟨-, h⟩ | ⟨-, h⟩
  · exact absurd h (n _)
  · exact absurd h (n _)
  · exact absurd h (n _)
theorem mF_endAll_l (hpo : lf_ok P q) {m : Nat} (hm : m < 6) {s0 : mb_S} {C0 : mb_S → Prop} : ∀ (d w n : Nat) (s : mb_S), w + d = 20 → d < n → xf_W P q L T H Z E N s → xf_op (fun g => C0 g ∧ ∀ w', w' < w → ∀ i, 4 ≤ i → i < 16 → pu_b (mb_I g 14 ((13 * m + lf_len P m) * 20 + w')) i = true → pu_b (mb_I g 15 (20 * m + w')) i = true) s0 s → ∃ u, mF_endAll_l2 n (nI m) (nI (13 * m + lf_len P m)) (nI w) s = some ((), u) ∧ xf_W P q L T H Z E N u ∧ xf_op (fun g => C0 g ∧ xf_en P m g) s0 u := by
  have hl := hpo.1 m hm
  intro d
  induction d with
  | zero =>
    intro w n s hwd hn hW hop
    obtain ⟨n, rfl⟩ : ∃ z, n = z + 1 := ⟨n - 1, by omega⟩
    rw [mF_endAll_l2_s, pu_l20, if_pos ((nI_leI (by omega) (by omega)).mpr (by omega))]
    exact ⟨s, rfl, hW, xf_wk hop (fun z => ⟨z.1, fun w' h => z.2 w' (by omega)⟩)⟩
  | succ d ih =>
    intro w n s hwd hn hW hop
    obtain ⟨n, rfl⟩ : ∃ z, n = z + 1 := ⟨n - 1, by omega⟩
    obtain ⟨u, e1, e2, e3⟩ := mF_growExit_e hW hm (w := w) (by omega) (v := mb_I s 14 ((13 * m + lf_len P m) * 20 + w) &&& 65520) (fun i hi => by
      obtain ⟨h1, h2⟩ := pu_and_t.mp hi
      obtain ⟨h3, h4⟩ := pu_fld_t.mp h2
      obtain ⟨g1, g2, g3⟩ := hW.2.2.2.2.1 m (lf_len P m) w i hm (by omega) (by omega) h1
      exact ⟨g2, Or.inr ⟨h3, h4⟩, fun s' e hs he => ⟨fun h => by omega, fun _ => ⟨lf_len P m, Nat.le_refl _, Or.inl rfl, g3 s' e hs he⟩⟩⟩)
    rw [mF_endAll_l2_s, pu_l20, if_neg (fun z => absurd ((nI_leI (a := 20) (b := w) (by omega) (by omega)).mp z) (by omega)), ← pu_l20, me_20r, me_ld (by omega) (by decide), e1, me_cal, me_bnd, nI_1]
    refine ih (w + 1) n u (by omega) (by omega) e2 (xf_wk (xf_seq hop (xf_wk (C2 := fun g => ∀ i, 4 ≤ i → i < 16 → pu_b (mb_I g 14 ((13 * m + lf_len P m) * 20 + w)) i = true → pu_b (mb_I g 15 (20 * m + w)) i = true) e3 (fun z i h4 h16 hb => ?_))) (fun z => ⟨z.1.1, fun w' h => ?_⟩))
    · rw [xf_14] at hb
      exact xp_or z (pu_and_t.mpr ⟨hb, pu_fld_t.mpr ⟨h4, h16⟩⟩)
    · by_cases e : w' = w
      · rw [e]; exact z.2
      · exact z.1.2 w' (by omega)
theorem mF_sweep_47 (hpo : lf_ok P q) (hC : lf_FC P L T H Z E N) {m k : Nat} (hm : m < 6) (hk : k < lf_len P m) (k12 : Int32 → Int32 → Int32 → mb_S → Option (Unit × mb_S)) (Q : Unit × mb_S → Prop) {s0 : mb_S} {C0 : mb_S → Prop} (hk2 : ∀ s, xf_W P q L T H Z E N s → xf_op (fun g => C0 g ∧ ∀ w, w < 20 → xf_ps P L T m k w (mb_I g 14 ((13 * m + k) * 20 + w)) g) s0 s → pu_wp (k12 (nI m) (nI (lf_len P m)) (nI (k + 1)) s) Q) :
    ∀ (d w n : Nat) (s : mb_S), w + d = 20 → d < n → xf_W P q L T H Z E N s → xf_op (fun g => C0 g ∧ ∀ w', w' < w → xf_ps P L T m k w' (mb_I g 14 ((13 * m + k) * 20 + w')) g) s0 s → pu_wp (mF_sweep_l47 k12 n (nI m) (nI (lf_len P m)) (nI k) (nI (13 * m + k)) (nI w) s) Q := by
  have hl := hpo.1 m hm
  intro d
  induction d with
  | zero =>
    intro w n s hwd hn hW hop
    obtain ⟨n, rfl⟩ : ∃ z, n = z + 1 := ⟨n - 1, by omega⟩
    rw [mF_sweep_l47_s, pu_l20, if_pos ((nI_leI (by omega) (by omega)).mpr (by omega)), me_bnd, nI_1]
    exact hk2 s hW (xf_wk hop (fun z => ⟨z.1, fun w' h => z.2 w' (by omega)⟩))
  | succ d ih =>
    intro w n s hwd hn hW hop
    obtain ⟨n, rfl⟩ : ∃ z, n = z + 1 := ⟨n - 1, by omega⟩
    rw [mF_sweep_l47_s, pu_l20, if_neg (fun z => absurd ((nI_leI (a := 20) (b := w) (by omega) (by omega)).mp z) (by omega)), ← pu_l20, me_20r, me_ld (by omega) (by decide)]
    unfold mF_sweep_b85
    have fin : ∀ u, xf_W P q L T H Z E N u → xf_op (fun g => xf_ps P L T m k w (mb_I g 14 ((13 * m + k) * 20 + w)) g) s u → pu_wp (mF_sweep_l47 k12 n (nI m) (nI (lf_len P m)) (nI k) (nI (13 * m + k)) (nI (w + 1)) u) Q := by
      intro u hu ho
      refine ih (w + 1) n u (by omega) (by omega) hu (xf_wk (xf_seq hop ho) (fun z => ⟨z.1.1, fun w' h => ?_⟩))
      by_cases e : w' = w
      · rw [e]; exact z.2
      · exact z.1.2 w' (by omega)
    by_cases c : mb_I s 14 ((13 * m + k) * 20 + w) = 0
    · rw [if_pos c, me_bnd, nI_1]
      exact fin s hW (xf_rf hW.2.2.1 (by rw [xf_14, c]; exact xf_ps_0))
    · have hf0 : ∃ i, pu_b (mb_I s 14 ((13 * m + k) * 20 + w)) i = true := by
        apply Classical.byContradiction
        intro hno
        refine c (pu_b_ext (fun i _ => ?_))
        rw [pu_b_0]
        cases hb : pu_b (mb_I s 14 ((13 * m + k) * 20 + w)) i with
        | false => rfl
        | true => exact absurd ⟨i, hb⟩ hno
      obtain ⟨u, e1, e2, e3⟩ := mF_pass_e hpo hC hW hm hk (w := w) (by omega) (fun i hi => hW.2.2.2.2.1 m k w i hm (by omega) (by omega) hi) hf0
      rw [if_neg c, e1, me_cal, me_bnd, nI_1]
      exact fin u e2 (xf_wk e3 (fun z => by rw [xf_14]; exact z))
theorem mF_sweep_12 (hpo : lf_ok P q) (hC : lf_FC P L T H Z E N) {m : Nat} (hm : m < 6) {s0 : mb_S} {C0 : mb_S → Prop} : ∀ (d k n : Nat) (s : mb_S), k + d = lf_len P m → d < n → xf_W P q L T H Z E N s → xf_op (fun g => C0 g ∧ ∀ k', k' < k → xf_pl P L T m k' g) s0 s → pu_wp (mF_sweep_l12 n (nI m) (nI (lf_len P m)) (nI k) s) (fun z => xf_W P q L T H Z E N z.2 ∧ xf_op (fun g => C0 g ∧ xf_mt P L T m g) s0 z.2) := by
  have hl := hpo.1 m hm
  intro d
  induction d with
  | zero =>
    intro k n s hkd hn hW hop
    obtain ⟨n, rfl⟩ : ∃ z, n = z + 1 := ⟨n - 1, by omega⟩
    obtain ⟨u, e1, e2, e3⟩ := mF_endAll_l hpo hm (s0 := s0) (C0 := fun g => C0 g ∧ ∀ k', k' < k → xf_pl P L T m k' g) 20 0 mb_fuel s rfl (by unfold mb_fuel; omega) hW (xf_wk hop (fun z => ⟨z, fun w' h => absurd h (Nat.not_lt_zero _)⟩))
    have e1 : mF_endAll (nI m) (nI (13 * m + lf_len P m)) s = some ((), u) := e1
    rw [mF_sweep_l12_s, if_pos ((nI_leI (by omega) (by omega)).mpr (by omega)), me_13, e1, me_cal, pu_some]
    exact ⟨e2, xf_wk e3 (fun z => ⟨z.1.1, fun k' h => z.1.2 k' (by omega), z.2⟩)⟩
  | succ d ih =>
    intro k n s hkd hn hW hop
    obtain ⟨n, rfl⟩ : ∃ z, n = z + 1 := ⟨n - 1, by omega⟩
    have hk : k < lf_len P m := by omega
    rw [mF_sweep_l12_s, if_neg (fun z => absurd ((nI_leI (by omega) (by omega)).mp z) (by omega)), me_ld hm (by decide), mX_has_e _ (show k < 32 by omega), me_cal0]
    unfold mF_sweep_b36
    have fin : ∀ u, xf_W P q L T H Z E N u → xf_op (fun g => pu_b (mb_I g 17 m) k = true → xf_pz P T m k g) s u → pu_wp (mF_sweep_l47 (mF_sweep_l12 n) mb_fuel (nI m) (nI (lf_len P m)) (nI k) (nI (13 * m + k)) (nI 0) u) (fun z => xf_W P q L T H Z E N z.2 ∧ xf_op (fun g => C0 g ∧ xf_mt P L T m g) s0 z.2) := by
      intro u hu ho
      refine mF_sweep_47 hpo hC hm hk (mF_sweep_l12 n) _ (s0 := s0) (C0 := fun g => (C0 g ∧ ∀ k', k' < k → xf_pl P L T m k' g) ∧ (pu_b (mb_I g 17 m) k = true → xf_pz P T m k g)) (fun y hy hoy => ?_) 20 0 mb_fuel u rfl (by unfold mb_fuel; omega) hu (xf_wk (xf_seq hop ho) (fun z => ⟨z, fun w' h => absurd h (Nat.not_lt_zero _)⟩))
      refine ih (k + 1) n y (by omega) (by omega) hy (xf_wk hoy (fun z => ⟨z.1.1.1, fun k' h => ?_⟩))
      by_cases e : k' = k
      · rw [e]; exact ⟨z.1.2, z.2⟩
      · exact z.1.1.2 k' (by omega)
    by_cases c : pu_b (mb_I s 17 m) k = true
    · obtain ⟨-, hN, hZ⟩ := hW.2.2.2.2.2.2.2 m k hm c
      obtain ⟨u, e1, e2, e3⟩ := mF_passZero_e hpo hC hm hk hN hZ hW
      rw [if_pos c, if_neg me_10, e1, me_cal, me_13, me_bnd, ← nI_0]
      exact fin u e2 (xf_wk e3 (fun z _ => z))
    · rw [if_neg c, if_pos rfl, me_13, me_bnd, ← nI_0]
      exact fin s hW (xf_rf hW.2.2.1 (fun h => by rw [xf_17] at h; exact absurd h c))
theorem mF_sweep_e (hpo : lf_ok P q) (hC : lf_FC P L T H Z E N) {m : Nat} (hm : m < 6) {s0 s : mb_S} {C0 : mb_S → Prop} (hW : xf_W P q L T H Z E N s) (hop : xf_op C0 s0 s) : pu_wp (mF_sweep (nI m) s) (fun z => xf_W P q L T H Z E N z.2 ∧ xf_op (fun g => C0 g ∧ xf_mt P L T m g) s0 z.2) := by
  have hl := hpo.1 m hm
  unfold mF_sweep
  rw [me_ld hm (by decide), hW.1.1 m hm, ← nI_0]
  exact mF_sweep_12 hpo hC hm (lf_len P m) 0 mb_fuel s (Nat.zero_add _) (by unfold mb_fuel; omega) hW (xf_wk hop (fun z => ⟨z, fun k' h => absurd h (Nat.not_lt_zero _)⟩))
theorem mF_workOut_38 (hpo : lf_ok P q) (hC : lf_FC P L T H Z E N) (i : Nat) (k18 : Int32 → mb_S → Option (Unit × mb_S)) (Q : Unit × mb_S → Prop) {s0 : mb_S} (hk2 : ∀ s, xf_W P q L T H Z E N s → xf_op (fun g => ∀ m, m < 6 → xf_mt P L T m g) s0 s → pu_wp (k18 (nI (i + 1)) s) Q) :
    ∀ (d m n : Nat) (s : mb_S), m + d = 6 → d < n → xf_W P q L T H Z E N s → xf_op (fun g => ∀ m', m' < m → xf_mt P L T m' g) s0 s → pu_wp (mF_workOut_l38 k18 n (nI i) (nI m) s) Q := by
  intro d
  induction d with
  | zero =>
    intro m n s hmd hn hW hop
    obtain ⟨n, rfl⟩ : ∃ z, n = z + 1 := ⟨n - 1, by omega⟩
    rw [mF_workOut_l38_s, pu_l6, if_pos ((nI_leI (by omega) (by omega)).mpr (by omega)), me_bnd, nI_1]
    exact hk2 s hW (xf_wk hop (fun z m' h => z m' (by omega)))
  | succ d ih =>
    intro m n s hmd hn hW hop
    obtain ⟨n, rfl⟩ : ∃ z, n = z + 1 := ⟨n - 1, by omega⟩
    rw [mF_workOut_l38_s, pu_l6, if_neg (fun z => absurd ((nI_leI (a := 6) (b := m) (by omega) (by omega)).mp z) (by omega)), pu_cal]
    refine pu_mono (mF_sweep_e hpo hC (show m < 6 by omega) hW hop) (fun z hz => ?_)
    rw [me_bnd, nI_1]
    refine ih (m + 1) n z.2 (by omega) (by omega) hz.1 (xf_wk hz.2 (fun y m' h => ?_))
    by_cases e : m' = m
    · rw [e]; exact y.2
    · exact y.1 m' (by omega)
theorem xf_mu_le (g : mb_S) : eg_mu 1560 0 (eg_sg mp_K0 xf_KI mp_K0 g) ≤ 11 * 32 + 199680 := by
  unfold eg_mu
  have h1 : pu_sum (fun k => pu_pc (mb_F (eg_sg mp_K0 xf_KI mp_K0 g) k).toBitVec) 11 ≤ 11 * 32 := pu_sum_bd (fun k _ => pu_pc_le _)
  have h3 : pu_sum (fun a => pu_sum (fun j => pu_pc (mb_L (eg_sg mp_K0 xf_KI mp_K0 g) a j).toBitVec) 0) 2 = 0 := rfl
  have h2 : pu_sum (fun a => pu_sum (fun j => pu_pc (mb_I (eg_sg mp_K0 xf_KI mp_K0 g) a j).toBitVec) 1560) 24 ≤ pu_sum (fun a => if 14 ≤ a ∧ a ≤ 17 then 49920 else 0) 24 := by
    refine pu_sum_le (fun a _ => ?_)
    by_cases c : 14 ≤ a ∧ a ≤ 17
    · rw [if_pos c]
      exact pu_sum_bd (c := 32) (n := 1560) (fun j _ => pu_pc_le _)
    · rw [if_neg c]
      have e : mb_I (eg_sg mp_K0 xf_KI mp_K0 g) a = fun _ => 0 := if_neg (fun z => c (of_decide_eq_true z))
      rw [e]
      have e2 : ∀ j, j < 1560 → pu_pc ((0 : Int32)).toBitVec = 0 := fun _ _ => by decide +kernel
      have h := pu_sum_congr (f := fun _ => pu_pc ((0 : Int32)).toBitVec) (g := fun _ => 0) (n := 1560) e2
      rw [pu_sum_0] at h
      exact Nat.le_of_eq h
  have h4 : pu_sum (fun a => if 14 ≤ a ∧ a ≤ 17 then 49920 else 0) 24 = 199680 := by decide +kernel
  omega
theorem mF_workOut_l (hpo : lf_ok P q) (hC : lf_FC P L T H Z E N) {s0 : mb_S} : ∀ (d i n : Nat) (s : mb_S), i + d = 1000000 → d < n → xf_W P q L T H Z E N s → xf_Fr s0 s → (mb_F s 4 = 1 → i ≤ eg_mu 1560 0 (eg_sg mp_K0 xf_KI mp_K0 s)) → (mb_F s 4 = 0 → ∀ m, m < 6 → xf_mt P L T m (eg_sg mp_K0 xf_KI mp_K0 s)) → pu_wp (mF_workOut_l18 n (nI i) s) (fun z => xf_W P q L T H Z E N z.2 ∧ (∀ m, m < 6 → xf_mt P L T m (eg_sg mp_K0 xf_KI mp_K0 z.2)) ∧ xf_Fr s0 z.2) := by
  intro d
  induction d with
  | zero =>
    intro i n s hid hn hW hf hmu hup
    obtain ⟨n, rfl⟩ : ∃ z, n = z + 1 := ⟨n - 1, by omega⟩
    have h0 : mb_F s 4 = 0 := by
      rcases hW.2.2.1 with z | z
      · exact z
      · have := hmu z
        have := xf_mu_le s
        omega
    rw [mF_workOut_l18_s, if_pos h0]
    unfold mF_workOut_b61
    rw [pu_some]
    exact ⟨hW, hup h0, hf⟩
  | succ d ih =>
    intro i n s hid hn hW hf hmu hup
    obtain ⟨n, rfl⟩ : ∃ z, n = z + 1 := ⟨n - 1, by omega⟩
    rw [mF_workOut_l18_s]
    unfold mF_workOut_b61
    by_cases c : mb_F s 4 = 0
    · rw [if_pos c, pu_some]
      exact ⟨hW, hup c, hf⟩
    · rw [if_neg c, show (1000000 : Int32) = nI 1000000 from rfl, if_neg (fun z => absurd ((nI_leI (a := 1000000) (b := i) (by omega) (by omega)).mp z) (by omega)), me_putZ0, ← nI_0]
      have hW0 : xf_W P q L T H Z E N (mb_setF s 4 (nI 0)) := ⟨hW.1, hW.2.1, Or.inl rfl, hW.2.2.2⟩
      have h1 : mb_F s 4 = 1 := by
        rcases hW.2.2.1 with z | z
        · exact absurd z c
        · exact z
      have hm0 := hmu h1
      have esg : eg_sg mp_K0 xf_KI mp_K0 (mb_setF s 4 (nI 0)) = eg_sg mp_K0 xf_KI mp_K0 s := eg_flag (by decide) _
      refine mF_workOut_38 hpo hC i (mF_workOut_l18 n) _ (s0 := mb_setF s 4 (nI 0)) (fun y hy hoy => ?_) 6 0 mb_fuel (mb_setF s 4 (nI 0)) rfl (by unfold mb_fuel; omega) hW0 (xf_rf (Or.inl rfl) (fun m' h => absurd h (Nat.not_lt_zero _)))
      obtain ⟨e1, e2, e3, e4, e5, e6⟩ := hoy
      refine ih (i + 1) n y (by omega) (by omega) hy (xf_Fr.tr (lf_fr.setF hf rfl) e1) (fun z => ?_) (fun z => ?_)
      · have := e6 rfl z
        rw [esg] at this
        omega
      · obtain ⟨-, z2, z3⟩ := e5 z
        rw [z2]; exact z3
theorem mF_clear_42 {s0 : mb_S} {m : Nat} (hm : m < 6) (k34 : Int32 → mb_S → Option (Unit × mb_S)) (Q : Unit × mb_S → Prop) (I0 : mb_S → Prop) (hI : ∀ s j v, I0 s → I0 (mb_setI s 16 j v)) (hk2 : ∀ s, I0 s → (∀ j, (¬ ∃ i, i < 4 ∧ j = 20 * m + (16 + i)) → mb_I s 16 j = mb_I s0 16 j) → (∀ i, i < 4 → mb_I s 16 (20 * m + (16 + i)) = (1 : Int32) <<< (nI i &&& 31)) → pu_wp (k34 (nI (m + 1)) s) Q) :
    ∀ (d i n : Nat) (s : mb_S), i + d = 4 → d < n → I0 s → (∀ j, (¬ ∃ i', i' < i ∧ j = 20 * m + (16 + i')) → mb_I s 16 j = mb_I s0 16 j) → (∀ i', i' < i → mb_I s 16 (20 * m + (16 + i')) = (1 : Int32) <<< (nI i' &&& 31)) → pu_wp (mF_clear_l42 k34 n (nI m) (nI i) s) Q := by
  intro d
  induction d with
  | zero =>
    intro i n s hid hn h0 h1 h2
    obtain ⟨n, rfl⟩ : ∃ z, n = z + 1 := ⟨n - 1, by omega⟩
    rw [mF_clear_l42_s, pu_l4, if_pos ((nI_leI (by omega) (by omega)).mpr (by omega)), me_bnd, nI_1]
    rw [show i = 4 by omega] at h1 h2
    exact hk2 s h0 h1 h2
  | succ d ih =>
    intro i n s hid hn h0 h1 h2
    obtain ⟨n, rfl⟩ : ∃ z, n = z + 1 := ⟨n - 1, by omega⟩
    have ei : ((nI m * (20 : Int32)) + (16 : Int32)) + nI i = nI (20 * m + (16 + i)) := by
      rw [show (16 : Int32) = nI 16 from rfl, me_20, nI_add, Nat.add_assoc]
    rw [mF_clear_l42_s, pu_l4, if_neg (fun z => absurd ((nI_leI (a := 4) (b := i) (by omega) (by omega)).mp z) (by omega)), ei, me_stI (by omega) (by decide), me_bnd, nI_1]
    refine ih (i + 1) n _ (by omega) (by omega) (hI _ _ _ h0) (fun j hj => ?_) (fun i' hi' => ?_)
    · show upd (mb_I s 16) (20 * m + (16 + i)) _ j = _
      rw [pu_upd, if_neg (fun e => hj ⟨i, by omega, e⟩)]
      exact h1 j (fun ⟨i', h3, h4⟩ => hj ⟨i', by omega, h4⟩)
    · show upd (mb_I s 16) (20 * m + (16 + i)) ((1 : Int32) <<< (nI i &&& 31)) (20 * m + (16 + i')) = _
      rw [pu_upd]
      by_cases e : i' = i
      · rw [e, if_pos rfl]
      · rw [if_neg (by omega)]; exact h2 i' (by omega)
def xf_c0 (s0 s : mb_S) : Prop := xf_Fr s0 s ∧ (∀ j, j < 1560 → mb_I s 14 j = 0) ∧ (∀ j, j < 120 → mb_I s 15 j = 0) ∧ (∀ j, j < 6 → mb_I s 17 j = 0)
theorem mF_clear_34 {s0 : mb_S} : ∀ (d m n : Nat) (s : mb_S), m + d = 6 → d < n → xf_c0 s0 s → (∀ m' w, m' < 6 → w < 16 → mb_I s 16 (20 * m' + w) = 0) → (∀ m' i, m' < m → i < 4 → mb_I s 16 (20 * m' + (16 + i)) = (1 : Int32) <<< (nI i &&& 31)) → pu_wp (mF_clear_l34 n (nI m) s) (fun z => xf_c0 s0 z.2 ∧ (∀ m' w, m' < 6 → w < 16 → mb_I z.2 16 (20 * m' + w) = 0) ∧ (∀ m' i, m' < 6 → i < 4 → mb_I z.2 16 (20 * m' + (16 + i)) = (1 : Int32) <<< (nI i &&& 31))) := by
  intro d
  induction d with
  | zero =>
    intro m n s hmd hn h0 h1 h2
    obtain ⟨n, rfl⟩ : ∃ z, n = z + 1 := ⟨n - 1, by omega⟩
    rw [mF_clear_l34_s, pu_l6, if_pos ((nI_leI (by omega) (by omega)).mpr (by omega)), pu_some]
    exact ⟨h0, h1, fun m' i hm' => h2 m' i (by omega)⟩
  | succ d ih =>
    intro m n s hmd hn h0 h1 h2
    obtain ⟨n, rfl⟩ : ∃ z, n = z + 1 := ⟨n - 1, by omega⟩
    rw [mF_clear_l34_s, pu_l6, if_neg (fun z => absurd ((nI_leI (a := 6) (b := m) (by omega) (by omega)).mp z) (by omega)), ← nI_0]
    refine mF_clear_42 (s0 := s) (show m < 6 by omega) (mF_clear_l34 n) _ (xf_c0 s0) (fun s j v h => ⟨lf_fr.setI h.1 ⟨by decide, by decide⟩, h.2⟩) (fun u hu g1 g2 => ?_) 4 0 mb_fuel s rfl (by unfold mb_fuel; omega) h0 (fun _ _ => rfl) (fun i' h => absurd h (Nat.not_lt_zero _))
    refine ih (m + 1) n u (by omega) (by omega) hu (fun m' w hm' hw => ?_) (fun m' i hm' hi => ?_)
    · rw [g1 _ (fun ⟨i, h3, h4⟩ => by omega)]; exact h1 m' w hm' hw
    · by_cases e : m' = m
      · rw [e]; exact g2 i hi
      · rw [g1 _ (fun ⟨i', h3, h4⟩ => by omega)]; exact h2 m' i (by omega) hi
theorem mF_clear_e (s : mb_S) : pu_wp (mF_clear s) (fun z => xf_c0 s z.2 ∧ (∀ m' w, m' < 6 → w < 16 → mb_I z.2 16 (20 * m' + w) = 0) ∧ (∀ m' i, m' < 6 → i < 4 → mb_I z.2 16 (20 * m' + (16 + i)) = (1 : Int32) <<< (nI i &&& 31))) := by
  unfold mF_clear
  rw [pu_fill, pu_fill, pu_fill, pu_fill, ← nI_0]
  refine mF_clear_34 6 0 mb_fuel _ rfl (by unfold mb_fuel; omega) ⟨(((lf_fr.rf.fil ⟨by decide, by decide⟩).fil ⟨by decide, by decide⟩).fil ⟨by decide, by decide⟩).fil ⟨by decide, by decide⟩, fun j hj => ?_, fun j hj => ?_, fun j hj => ?_⟩ (fun m' w hm' hw => ?_) (fun m' i h => absurd h (Nat.not_lt_zero _))
  · show (if j < 1560 then nI 0 else mb_I s 14 j) = 0
    rw [if_pos hj, nI_0]
  · show (if j < 120 then nI 0 else mb_I s 15 j) = 0
    rw [if_pos hj, nI_0]
  · show (if j < 6 then nI 0 else mb_I s 17 j) = 0
    rw [if_pos hj, nI_0]
  · show (if 20 * m' + w < 120 then nI 0 else mb_I s 16 (20 * m' + w)) = 0
    rw [if_pos (by omega), nI_0]
theorem mF_workOut_g (hpo : lf_ok P q) (hC : lf_FC P L T H Z E N) {s : mb_S} (hX : lf_X P q s) (hPT : xf_PT P L T s) : pu_wp (mF_workOut s) (fun z => xf_W P q L T H Z E N z.2 ∧ (∀ m, m < 6 → xf_mt P L T m (eg_sg mp_K0 xf_KI mp_K0 z.2)) ∧ xf_Fr s z.2) := by
  unfold mF_workOut
  rw [pu_cal]
  refine pu_mono (mF_clear_e s) (fun z hz => ?_)
  obtain ⟨⟨f0, f14, f15, f17⟩, g1, g2⟩ := hz
  rw [← nI_0, me_stI (by omega) (by decide), me_putZ1]
  have hf : xf_Fr s (mb_setF (mb_setI z.2 17 0 1) 4 1) := lf_fr.setF (lf_fr.setI f0 ⟨by decide, by decide⟩) rfl
  refine mF_workOut_l hpo hC (s0 := s) 1000000 0 mb_fuel _ rfl (by unfold mb_fuel; omega) ⟨hf.X hX, hf.PT hPT, Or.inr rfl, ⟨fun m i hm hi j => ?_, fun m w i hm hw y => ?_, ?_⟩, ⟨fun m k w i hm hk hw y => ?_, fun m w i hm hw y => ?_, fun m w i hm hw y => ?_, fun m i hm y => ?_⟩⟩ hf (fun _ => Nat.zero_le _) (fun y => absurd (show (1 : Int32) = 0 from y) (by decide))
  · show pu_b (mb_I z.2 16 (20 * m + (16 + i))) j = _
    rw [g2 m i hm hi, pu_b_1l (by omega)]
  · have y2 : pu_b (mb_I z.2 16 (20 * m + w)) i = true := y
    rw [g1 m w hm hw, pu_b_0] at y2; cases y2
  · show pu_b (upd (mb_I z.2 17) 0 1 0) 0 = true
    rw [pu_upd, if_pos rfl, pu_b_one]; rfl
  · have y2 : pu_b (mb_I z.2 14 ((13 * m + k) * 20 + w)) i = true := y
    rw [f14 _ (by omega), pu_b_0] at y2; cases y2
  · have y2 : pu_b (mb_I z.2 15 (20 * m + w)) i = true := y
    rw [f15 _ (by omega), pu_b_0] at y2; cases y2
  · have y2 : pu_b (mb_I z.2 16 (20 * m + w)) i = true := y
    rw [g1 m w hm hw, pu_b_0] at y2; cases y2
  · have y2 : pu_b (upd (mb_I z.2 17) 0 1 m) i = true := y
    rw [pu_upd] at y2
    by_cases e : m = 0
    · rw [if_pos e, pu_b_one] at y2
      rw [e, of_decide_eq_true y2]
      exact ⟨by omega, hC.1, hC.2.1 0 (by omega) hC.1⟩
    · rw [if_neg e, f17 m hm, pu_b_0] at y2; cases y2
end FX5
