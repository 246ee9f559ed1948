section PM3
variable {P : lf_P} {q : lf_Q} {L F : Nat → Nat → Nat → Prop} {R : Nat → Prop}
def mp_cl (P : lf_P) (q : lf_Q) (m k : Nat) (g : mb_S) : Prop :=
  (lf_kd P m k = 0 → mb_I g 7 (4 * m + lf_a P m k) ||| ((1 : Int32) <<< (nI (lf_bef P 0 m k) &&& 31)) = mb_I g 7 (4 * m + lf_a P m k)) ∧
  (lf_kd P m k = 4 → mb_I g 7 (4 * m + lf_a P m k) ||| mb_I g 7 (4 * m + lf_b P m k) = mb_I g 7 (4 * m + lf_a P m k)) ∧
  (lf_kd P m k = 5 → ∀ o, o < 6 → pu_b (mb_I g 7 (4 * m + lf_b P m k)) o = true → mb_I g 7 (4 * m + lf_a P m k) ||| mb_I g 8 (2 * o + lf_c P m k) = mb_I g 7 (4 * m + lf_a P m k)) ∧
  (lf_kd P m k = 6 → ∀ o, o < 6 → pu_b (mb_I g 7 (4 * m + lf_a P m k)) o = true → mb_I g 8 (2 * o + lf_c P m k) ||| mb_I g 7 (4 * m + lf_b P m k) = mb_I g 8 (2 * o + lf_c P m k)) ∧
  (lf_kd P m k = 7 → ∀ o t, o < 6 → t < 6 → mp_pair P q m k o t g)
theorem mM_po_5 (hpo : lf_ok P q) (hC : lf_PC P q L F R) {m k : Nat} (hm : m < 6) (hk : k < lf_len P m) (c5 : lf_kd P m k = 5) (hRm : R m) {s0 : mb_S} : ∀ (d o n : Nat) (s : mb_S), o + d = 6 → d < n → mp_W P q L F R s → mp_op (fun g _ => ∀ o', o' < o → pu_b (mb_I g 7 (4 * m + lf_b P m k)) o' = true → mb_I g 7 (4 * m + lf_a P m k) ||| mb_I g 8 (2 * o' + lf_c P m k) = mb_I g 7 (4 * m + lf_a P m k)) s0 s → pu_wp (mM_pointsOf_l118 n (nI m) (nI (12 * m + k)) (nI (lf_kd P m k)) (nI (lf_a P m k)) (nI (lf_b P m k)) (nI o) s) (fun z => mp_W P q L F R z.2 ∧ mp_op (fun g _ => mp_cl P q m k g) s0 z.2) := by
  have hl := hpo.1 _ hm
  obtain ⟨o1, o2, o3, o4, o5, o6⟩ := hpo.2.1 _ hm _ hk
  have ha : lf_a P m k < 4 := o3 (by omega)
  have hb := o4 (by omega)
  have hc := o5 (by omega)
  intro d
  induction d with
  | zero =>
    intro o n s hod hn hW hop
    obtain ⟨n, rfl⟩ : ∃ z, n = z + 1 := ⟨n - 1, by omega⟩
    rw [mM_pointsOf_l118_s, pu_l6, if_pos ((nI_leI (by omega) (by omega)).mpr (by omega))]
    unfold mM_pointsOf_b269
    rw [pu_some]
    rw [show o = 6 by omega] at hop
    exact ⟨hW, mp_wk hop (fun z => ⟨fun e => by omega, fun e => by omega, fun _ => z, fun e => by omega, fun e => by omega⟩)⟩
  | succ d ih =>
    intro o n s hod hn hW hop
    obtain ⟨n, rfl⟩ : ∃ z, n = z + 1 := ⟨n - 1, by omega⟩
    have next : ∀ u, mp_W P q L F R u → mp_op (fun g _ => (∀ o', o' < o → pu_b (mb_I g 7 (4 * m + lf_b P m k)) o' = true → mb_I g 7 (4 * m + lf_a P m k) ||| mb_I g 8 (2 * o' + lf_c P m k) = mb_I g 7 (4 * m + lf_a P m k)) ∧ (pu_b (mb_I g 7 (4 * m + lf_b P m k)) o = true → mb_I g 7 (4 * m + lf_a P m k) ||| mb_I g 8 (2 * o + lf_c P m k) = mb_I g 7 (4 * m + lf_a P m k))) s0 u → pu_wp (mM_pointsOf_b178 (mM_pointsOf_l118 n) (nI m) (nI (12 * m + k)) (nI (lf_kd P m k)) (nI (lf_a P m k)) (nI (lf_b P m k)) (nI o) (nI (2 * o + lf_c P m k)) u) (fun z => mp_W P q L F R z.2 ∧ mp_op (fun g _ => mp_cl P q m k g) s0 z.2) := by
      intro u hu hou
      unfold mM_pointsOf_b178 mM_pointsOf_b263
      rw [pu_l6, if_neg (fun z => absurd ((nI_eq (by omega) (by omega)).mp z) (by omega)), me_bnd, nI_1]
      refine ih (o + 1) n u (by omega) (by omega) hu (mp_wk hou (fun z o' ho' => ?_))
      by_cases e : o' = o
      · rw [e]; exact z.2
      · exact z.1 o' (by omega)
    rw [mM_pointsOf_l118_s, pu_l6, if_neg (fun z => absurd ((nI_leI (a := 6) (b := o) (by omega) (by omega)).mp z) (by omega)), me_ld (by omega) (by decide), (hW.1.2.1 _ hm _ hk).2.2.2, me_2, me_bnd, pu_l5, if_pos ((nI_eq (by omega) (by omega)).mpr c5), me_4, me_ld (by omega) (by decide), pu_b_shr (show o < 32 by omega)]
    by_cases hbit : pu_b (mb_I s 7 (4 * m + lf_b P m k)) o = true
    · rw [if_pos hbit, if_pos rfl, me_ld (by omega) (by decide)]
      obtain ⟨u, u1, u2, u3⟩ := mM_grow_e hW hm ha (v := mb_I s 8 (2 * o + lf_c P m k)) (fun p hp => (hC.2 m k hm hk hRm).2.2.1 c5 o p (hW.2.2.2.1 m _ o hm hb hbit) (hW.2.2.2.2.1 o _ p (by omega) hc hp))
      rw [u1, me_cal]
      refine next u u2 (mp_seq hop (mp_wk (C2 := fun g => pu_b (mb_I g 7 (4 * m + lf_b P m k)) o = true → mb_I g 7 (4 * m + lf_a P m k) ||| mb_I g 8 (2 * o + lf_c P m k) = mb_I g 7 (4 * m + lf_a P m k)) u3 (fun z _ => ?_)))
      rw [mp_7] at z ⊢
      rw [mp_8]; exact z
    · rw [if_neg hbit, if_neg (by decide)]
      refine next s hW (mp_seq hop (mp_rf (C := fun g => pu_b (mb_I g 7 (4 * m + lf_b P m k)) o = true → mb_I g 7 (4 * m + lf_a P m k) ||| mb_I g 8 (2 * o + lf_c P m k) = mb_I g 7 (4 * m + lf_a P m k)) (mp_flag hop) (fun z => ?_)))
      rw [mp_7] at z
      exact absurd z hbit
theorem mM_po_6 (hpo : lf_ok P q) (hC : lf_PC P q L F R) {m k : Nat} (hm : m < 6) (hk : k < lf_len P m) (c6 : lf_kd P m k = 6) (hRm : R m) {s0 : mb_S} : ∀ (d o n : Nat) (s : mb_S), o + d = 6 → d < n → mp_W P q L F R s → mp_op (fun g _ => ∀ o', o' < o → pu_b (mb_I g 7 (4 * m + lf_a P m k)) o' = true → mb_I g 8 (2 * o' + lf_c P m k) ||| mb_I g 7 (4 * m + lf_b P m k) = mb_I g 8 (2 * o' + lf_c P m k)) s0 s → pu_wp (mM_pointsOf_l118 n (nI m) (nI (12 * m + k)) (nI (lf_kd P m k)) (nI (lf_a P m k)) (nI (lf_b P m k)) (nI o) s) (fun z => mp_W P q L F R z.2 ∧ mp_op (fun g _ => mp_cl P q m k g) s0 z.2) := by
  have hl := hpo.1 _ hm
  obtain ⟨o1, o2, o3, o4, o5, o6⟩ := hpo.2.1 _ hm _ hk
  have ha : lf_a P m k < 4 := o3 (by omega)
  have hb := o4 (by omega)
  have hc := o5 (by omega)
  intro d
  induction d with
  | zero =>
    intro o n s hod hn hW hop
    obtain ⟨n, rfl⟩ : ∃ z, n = z + 1 := ⟨n - 1, by omega⟩
    rw [mM_pointsOf_l118_s, pu_l6, if_pos ((nI_leI (by omega) (by omega)).mpr (by omega))]
    unfold mM_pointsOf_b269
    rw [pu_some]
    rw [show o = 6 by omega] at hop
    exact ⟨hW, mp_wk hop (fun z => ⟨fun e => by omega, fun e => by omega, fun e => by omega, fun _ => z, fun e => by omega⟩)⟩
  | succ d ih =>
    intro o n s hod hn hW hop
    obtain ⟨n, rfl⟩ : ∃ z, n = z + 1 := ⟨n - 1, by omega⟩
    have ho : o < 6 := by omega
    have next : ∀ u, mp_W P q L F R u → mp_op (fun g _ => (∀ o', o' < o → pu_b (mb_I g 7 (4 * m + lf_a P m k)) o' = true → mb_I g 8 (2 * o' + lf_c P m k) ||| mb_I g 7 (4 * m + lf_b P m k) = mb_I g 8 (2 * o' + lf_c P m k)) ∧ (pu_b (mb_I g 7 (4 * m + lf_a P m k)) o = true → mb_I g 8 (2 * o + lf_c P m k) ||| mb_I g 7 (4 * m + lf_b P m k) = mb_I g 8 (2 * o + lf_c P m k))) s0 u → pu_wp (mM_pointsOf_b263 (mM_pointsOf_l118 n) (nI m) (nI (12 * m + k)) (nI (lf_kd P m k)) (nI (lf_a P m k)) (nI (lf_b P m k)) (nI o) u) (fun z => mp_W P q L F R z.2 ∧ mp_op (fun g _ => mp_cl P q m k g) s0 z.2) := by
      intro u hu hou
      unfold mM_pointsOf_b263
      rw [me_bnd, nI_1]
      refine ih (o + 1) n u (by omega) (by omega) hu (mp_wk hou (fun z o' ho' => ?_))
      by_cases e : o' = o
      · rw [e]; exact z.2
      · exact z.1 o' (by omega)
    rw [mM_pointsOf_l118_s, pu_l6, if_neg (fun z => absurd ((nI_leI (a := 6) (b := o) (by omega) (by omega)).mp z) (by omega)), me_ld (by omega) (by decide), (hW.1.2.1 _ hm _ hk).2.2.2, me_2, me_bnd, pu_l5, if_neg (fun z => absurd ((nI_eq (by omega) (by omega)).mp z) (by omega))]
    unfold mM_pointsOf_b178 mM_pointsOf_b255 mM_pointsOf_b260
    rw [pu_l6, if_pos ((nI_eq (by omega) (by omega)).mpr c6), me_4, me_ld (by omega) (by decide), pu_b_shr (show o < 32 by omega)]
    by_cases hbit : pu_b (mb_I s 7 (4 * m + lf_a P m k)) o = true
    · rw [if_pos hbit, if_pos rfl, me_ld (by omega) (by decide), me_4, me_ld (by omega) (by decide), me_stI (by omega) (by decide), show ∀ v : Int32, mb_F (mb_setI s 8 (2 * o + lf_c P m k) v) 1 = mb_F s 1 from fun _ => rfl, me_ld (by omega) (by decide)]
      have key : ∀ w : Int32, (w = 0 ∨ w = 1) → (w = 0 → mb_F s 1 = 0 ∧ mb_I s 8 (2 * o + lf_c P m k) ||| mb_I s 7 (4 * m + lf_b P m k) = mb_I s 8 (2 * o + lf_c P m k)) → (mb_F s 1 = 0 → w = 1 → mb_I s 8 (2 * o + lf_c P m k) ||| mb_I s 7 (4 * m + lf_b P m k) ≠ mb_I s 8 (2 * o + lf_c P m k)) → pu_wp (mM_pointsOf_b263 (mM_pointsOf_l118 n) (nI m) (nI (12 * m + k)) (nI (lf_kd P m k)) (nI (lf_a P m k)) (nI (lf_b P m k)) (nI o) (mb_setF (mb_setI s 8 (2 * o + lf_c P m k) (mb_I s 8 (2 * o + lf_c P m k) ||| mb_I s 7 (4 * m + lf_b P m k))) 1 w)) (fun z => mp_W P q L F R z.2 ∧ mp_op (fun g _ => mp_cl P q m k g) s0 z.2) := by
        intro w hw h0 h1
        obtain ⟨w1, w2, w3, w4⟩ := hW
        have hf : mp_Fr s (mb_setF (mb_setI s 8 (2 * o + lf_c P m k) (mb_I s 8 (2 * o + lf_c P m k) ||| mb_I s 7 (4 * m + lf_b P m k))) 1 w) := (lf_fr.rf.setI ⟨by decide, by decide⟩).setF rfl
        have u3 : mp_op (fun g _ => mb_I g 8 (2 * o + lf_c P m k) ||| mb_I s 7 (4 * m + lf_b P m k) = mb_I g 8 (2 * o + lf_c P m k)) s (mb_setF (mb_setI s 8 (2 * o + lf_c P m k) (mb_I s 8 (2 * o + lf_c P m k) ||| mb_I s 7 (4 * m + lf_b P m k))) 1 w) := eg_growI (by decide) (by decide) (by decide) (by omega) hw h0 h1 (fun z => z) hf
        refine next _ ⟨hf.M w1, hw, w3, ⟨w4.1, fun o' f p ho' hf' hp => ?_, w4.2.2⟩⟩ (mp_seq hop (mp_wk (C2 := fun g => pu_b (mb_I g 7 (4 * m + lf_a P m k)) o = true → mb_I g 8 (2 * o + lf_c P m k) ||| mb_I g 7 (4 * m + lf_b P m k) = mb_I g 8 (2 * o + lf_c P m k)) u3 (fun z _ => ?_)))
        · have hp2 : pu_b (upd (mb_I s 8) (2 * o + lf_c P m k) (mb_I s 8 (2 * o + lf_c P m k) ||| mb_I s 7 (4 * m + lf_b P m k)) (2 * o' + f)) p = true := hp
          rw [pu_upd] at hp2
          by_cases e : 2 * o' + f = 2 * o + lf_c P m k
          · rw [if_pos e, pu_b_or] at hp2
            have e1 : o' = o := by omega
            have e2 : f = lf_c P m k := by omega
            rw [e1, e2]
            rcases Bool.or_eq_true_iff.mp hp2 with z | z
            · exact w4.2.1 o _ p ho hc z
            · exact (hC.2 m k hm hk hRm).2.2.2.1 c6 o p (w4.1 m _ o hm ha hbit) (w4.1 m _ p hm hb z)
          · rw [if_neg e] at hp2
            exact w4.2.1 o' f p ho' hf' hp2
        · rw [mp_8] at z ⊢
          rw [mp_7]; exact z
      have e8 : mb_I (mb_setI s 8 (2 * o + lf_c P m k) (mb_I s 8 (2 * o + lf_c P m k) ||| mb_I s 7 (4 * m + lf_b P m k))) 8 (2 * o + lf_c P m k) = mb_I s 8 (2 * o + lf_c P m k) ||| mb_I s 7 (4 * m + lf_b P m k) := by
        rw [pu_II, if_pos rfl, pu_upd, if_pos rfl]
      rw [e8]
      by_cases c : mb_F s 1 = 0
      · rw [if_pos c]
        by_cases c2 : mb_I s 8 (2 * o + lf_c P m k) ||| mb_I s 7 (4 * m + lf_b P m k) = mb_I s 8 (2 * o + lf_c P m k)
        · rw [if_pos c2, me_putZ0]
          exact key 0 (Or.inl rfl) (fun _ => ⟨c, c2⟩) (fun _ z => absurd z (by decide))
        · rw [if_neg c2, me_putZ1]
          exact key 1 (Or.inr rfl) (fun z => absurd z (by decide)) (fun _ _ => c2)
      · rw [if_neg c, me_putZ1]
        exact key 1 (Or.inr rfl) (fun z => absurd z (by decide)) (fun z _ => absurd z c)
    · rw [if_neg hbit, if_neg (by decide)]
      refine next s hW (mp_seq hop (mp_rf (C := fun g => pu_b (mb_I g 7 (4 * m + lf_a P m k)) o = true → mb_I g 8 (2 * o + lf_c P m k) ||| mb_I g 7 (4 * m + lf_b P m k) = mb_I g 8 (2 * o + lf_c P m k)) (mp_flag hop) (fun z => ?_)))
      rw [mp_7] at z
      exact absurd z hbit
theorem mM_pointsOf_e (hpo : lf_ok P q) (hC : lf_PC P q L F R) {m k : Nat} (hm : m < 6) (hk : k < lf_len P m) (hRm : R m) {s : mb_S} (hW : mp_W P q L F R s) : pu_wp (mM_pointsOf (nI m) (nI k) s) (fun z => mp_W P q L F R z.2 ∧ mp_op (fun g _ => mp_cl P q m k g) s z.2) := by
  have hl := hpo.1 _ hm
  obtain ⟨a1, a2, a3, a4⟩ := hW.1.2.1 _ hm _ hk
  obtain ⟨o1, o2, o3, o4, o5, o6⟩ := hpo.2.1 _ hm _ hk
  unfold mM_pointsOf mM_pointsOf_b115 mM_pointsOf_b269
  rw [me_12, me_bnd, me_ld (by omega) (by decide), a1, me_ld (by omega) (by decide), a2, me_ld (by omega) (by decide), a3]
  by_cases c0 : lf_kd P m k = 0
  · have hbl := lf_bef_lt P hm hk
    rw [c0] at hbl
    have h6 := hpo.2.2.1
    have hbe := mM_before_k hW.1 hpo (kk := 0) (by omega) hm (Nat.le_of_lt hk)
    rw [nI_0] at hbe
    obtain ⟨u, u1, u2, u3⟩ := mM_grow_e hW hm (show lf_a P m k < 4 from o3 (by omega)) (v := (1 : Int32) <<< (nI (lf_bef P 0 m k) &&& 31)) (fun p hp => by
      rw [pu_b_1l (by omega)] at hp
      rw [of_decide_eq_true hp]; exact (hC.2 m k hm hk hRm).1 c0)
    rw [if_pos ((pu_eq0 (by omega)).mpr c0), hbe, me_cal, u1, me_cal, pu_some]
    exact ⟨u2, mp_wk u3 (fun z => ⟨fun _ => z, fun e => by omega, fun e => by omega, fun e => by omega, fun e => by omega⟩)⟩
  rw [if_neg (fun z => c0 ((pu_eq0 (by omega)).mp z)), pu_l4]
  by_cases c4 : lf_kd P m k = 4
  · have hb := o4 (by omega)
    obtain ⟨u, u1, u2, u3⟩ := mM_grow_e hW hm (show lf_a P m k < 4 from o3 (by omega)) (v := mb_I s 7 (4 * m + lf_b P m k)) (fun p hp => (hC.2 m k hm hk hRm).2.1 c4 p (hW.2.2.2.1 m _ p hm hb hp))
    rw [if_pos ((nI_eq (by omega) (by omega)).mpr c4), pk_mul, nI_add, me_ld (by omega) (by decide), u1, me_cal, pu_some]
    exact ⟨u2, mp_wk u3 (fun z => ⟨fun e => by omega, fun _ => by rw [mp_7] at z ⊢; exact z, fun e => by omega, fun e => by omega, fun e => by omega⟩)⟩
  rw [if_neg (fun z => c4 ((nI_eq (by omega) (by omega)).mp z)), pu_l7]
  by_cases c7 : lf_kd P m k = 7
  · rw [if_pos ((nI_eq (by omega) (by omega)).mpr c7)]
    unfold mM_callPoints
    rw [pu_cal, ← nI_0]
    refine pu_mono (mM_callPoints_e hpo hC hm hk c7 hRm (s0 := s) 6 0 mb_fuel s rfl (by unfold mb_fuel; omega) hW (mp_rf (C := fun g => ∀ o' t, o' < 0 → t < 6 → mp_pair P q m k o' t g) hW.2.1 (fun o' t h => absurd h (Nat.not_lt_zero _)))) (fun z hz => ?_)
    rw [pu_some]
    exact ⟨hz.1, mp_wk hz.2 (fun w => ⟨fun e => by omega, fun e => by omega, fun e => by omega, fun e => by omega, fun _ => w⟩)⟩
  rw [if_neg (fun z => c7 ((nI_eq (by omega) (by omega)).mp z)), pu_l5]
  by_cases c5 : lf_kd P m k = 5
  · rw [if_pos ((nI_eq (by omega) (by omega)).mpr c5), ← nI_0]
    exact mM_po_5 hpo hC hm hk c5 hRm (s0 := s) 6 0 mb_fuel s rfl (by unfold mb_fuel; omega) hW (mp_rf (C := fun g => ∀ o', o' < 0 → pu_b (mb_I g 7 (4 * m + lf_b P m k)) o' = true → mb_I g 7 (4 * m + lf_a P m k) ||| mb_I g 8 (2 * o' + lf_c P m k) = mb_I g 7 (4 * m + lf_a P m k)) hW.2.1 (fun o' h => absurd h (Nat.not_lt_zero _)))
  rw [if_neg (fun z => c5 ((nI_eq (by omega) (by omega)).mp z)), pu_l6]
  by_cases c6 : lf_kd P m k = 6
  · rw [if_pos ((nI_eq (by omega) (by omega)).mpr c6), ← nI_0]
    exact mM_po_6 hpo hC hm hk c6 hRm (s0 := s) 6 0 mb_fuel s rfl (by unfold mb_fuel; omega) hW (mp_rf (C := fun g => ∀ o', o' < 0 → pu_b (mb_I g 7 (4 * m + lf_a P m k)) o' = true → mb_I g 8 (2 * o' + lf_c P m k) ||| mb_I g 7 (4 * m + lf_b P m k) = mb_I g 8 (2 * o' + lf_c P m k)) hW.2.1 (fun o' h => absurd h (Nat.not_lt_zero _)))
  rw [if_neg (fun z => c6 ((nI_eq (by omega) (by omega)).mp z)), pu_some]
  exact ⟨hW, mp_rf (C := mp_cl P q m k) hW.2.1 ⟨fun e => absurd e c0, fun e => absurd e c4, fun e => absurd e c5, fun e => absurd e c6, fun e => absurd e c7⟩⟩
end PM3
