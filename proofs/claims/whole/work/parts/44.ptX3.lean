section PX3
variable {P : lf_P} {q : lf_Q} {L F : Nat → Nat → Nat → Prop} {R : Nat → Prop}
def xp_cl (P : lf_P) (q : lf_Q) (m k : Nat) (g a : mb_S) : Prop :=
  (lf_kd P m k = 0 → pu_b (mb_I g 11 (4 * m + lf_a P m k)) (lf_bef P 0 m k) = true) ∧
  (lf_kd P m k = 4 → ∀ p, pu_b (mb_I g 11 (4 * m + lf_b P m k)) p = true → pu_b (mb_I g 11 (4 * m + lf_a P m k)) p = true) ∧
  (lf_kd P m k = 5 → ∀ o p, o < 6 → pu_b (mb_I g 11 (4 * m + lf_b P m k)) o = true → pu_b (mb_I g 12 (2 * o + lf_c P m k)) p = true → pu_b (mb_I g 11 (4 * m + lf_a P m k)) p = true) ∧
  (lf_kd P m k = 6 → ∀ o p, o < 6 → pu_b (mb_I g 11 (4 * m + lf_a P m k)) o = true → pu_b (mb_I g 11 (4 * m + lf_b P m k)) p = true → pu_b (mb_I g 12 (2 * o + lf_c P m k)) p = true) ∧
  (lf_kd P m k = 7 → ∀ o, o < 6 → xp_pair P q m k (mb_I g 11 (4 * m + lf_b P m k)) o g a)
theorem xp_cl_st {m k : Nat} : xp_st (xp_cl P q m k) := fun g a b hf h => ⟨h.1, h.2.1, h.2.2.1, h.2.2.2.1, fun e o ho => xp_pair_st g a b hf (h.2.2.2.2 e o ho)⟩
theorem mQ_follow_e (hpo : lf_ok P q) (hC : lf_PC P q L F R) (hS : ∀ m x o, L m x o → ∃ c, lf_site P o c) {m k : Nat} (hm : m < 6) (hk : k < lf_len P m) (hRm : R m) {s : mb_S} (hW : xp_W P q L F R s) : ∃ t, mQ_follow (nI m) (nI (13 * m + k)) s = some ((), t) ∧ xp_W P q L F R t ∧ xp_op (xp_cl P q m k) s t := by
  have hl := hpo.1 m hm
  obtain ⟨a0, a1, a2, a3, a4⟩ := hW.1.2.1 _ hm _ hk
  obtain ⟨o1, o2, o3, o4, o5, o6⟩ := hpo.2.1 _ hm _ hk
  have rl := hC.2 m k hm hk hRm
  unfold mQ_follow mQ_follow_b193
  rw [me_ld (by omega) (by decide), a1, me_ld (by omega) (by decide), a2, me_ld (by omega) (by decide), a3, me_ld (by omega) (by decide), a0]
  by_cases c0 : lf_kd P m k = 0
  · have hbl := lf_bef_lt P hm hk
    rw [c0] at hbl a4
    have h6 := hpo.2.2.1
    obtain ⟨u, e, hu, p⟩ := mQ_growLocal_e hW hm (show lf_a P m k < 4 from o3 (by omega)) (v := (1 : Int32) <<< (nI (lf_bef P 0 m k) &&& 31)) (fun p hp => by
      rw [pu_b_1l (by omega)] at hp
      rw [of_decide_eq_true hp]; exact rl.1 c0)
    rw [if_pos ((pu_eq0 (by omega)).mpr c0), me_ld (by omega) (by decide), a4, e, me_cal]
    refine ⟨u, rfl, hu, xp_wk p (fun z => ⟨fun _ => xp_or z ?_, fun e => by omega, fun e => by omega, fun e => by omega, fun e => by omega⟩)⟩
    rw [pu_b_1l (by omega)]; exact decide_eq_true rfl
  rw [if_neg (fun z => c0 ((pu_eq0 (by omega)).mp z)), pu_l4]
  by_cases c4 : lf_kd P m k = 4
  · have hb := o4 (by omega)
    obtain ⟨u, e, hu, p⟩ := mQ_growLocal_e hW hm (show lf_a P m k < 4 from o3 (by omega)) (v := mb_I s 11 (4 * m + lf_b P m k)) (fun p hp => rl.2.1 c4 p (hW.2.2.1 m _ p hm hb hp))
    rw [if_pos ((nI_eq (by omega) (by omega)).mpr c4), ← pu_l4, me_4r, me_ld (by omega) (by decide), e, me_cal]
    refine ⟨u, rfl, hu, xp_wk p (fun z => ⟨fun e => by omega, fun _ p hp => ?_, fun e => by omega, fun e => by omega, fun e => by omega⟩)⟩
    rw [xp_11] at z hp ⊢
    exact xp_or z hp
  rw [if_neg (fun z => c4 ((nI_eq (by omega) (by omega)).mp z)), pu_l5]
  by_cases c5 : lf_kd P m k = 5
  · have hb := o4 (by omega)
    have hc := o5 (by omega)
    obtain ⟨v, ev, hv⟩ := mQ_fieldOfAll_l (s := s) (w := mb_I s 11 (4 * m + lf_b P m k)) hc 6 0 mb_fuel 0 rfl (by unfold mb_fuel; omega)
    have ev : mQ_fieldOfAll (mb_I s 11 (4 * m + lf_b P m k)) (nI (lf_c P m k)) s = some (v, s) := ev
    obtain ⟨u, e, hu, p⟩ := mQ_growLocal_e hW hm (show lf_a P m k < 4 from o3 (by omega)) (v := v) (fun p hp => by
      rcases (hv p).mp hp with z | ⟨o, -, ho, hbo, hbp⟩
      · rw [pu_b_0] at z; cases z
      · exact rl.2.2.1 c5 o p (hW.2.2.1 m _ o hm hb hbo) (hW.2.2.2.1 o _ p ho hc hbp))
    rw [if_pos ((nI_eq (by omega) (by omega)).mpr c5), ← pu_l4, me_4r, me_ld (by omega) (by decide), ev, me_cal, e, me_cal]
    refine ⟨u, rfl, hu, xp_wk p (fun z => ⟨fun e => by omega, fun e => by omega, fun _ o p ho hbo hbp => ?_, fun e => by omega, fun e => by omega⟩)⟩
    rw [xp_11] at z hbo ⊢
    rw [xp_12] at hbp
    exact xp_or z ((hv p).mpr (Or.inr ⟨o, Nat.zero_le _, ho, hbo, hbp⟩))
  rw [if_neg (fun z => c5 ((nI_eq (by omega) (by omega)).mp z)), pu_l6]
  by_cases c6 : lf_kd P m k = 6
  · have hb := o4 (by omega)
    have hc := o5 (by omega)
    have ha : lf_a P m k < 4 := o3 (by omega)
    obtain ⟨u, e, hu, p⟩ := mQ_growFields_l (P := P) (q := q) (L := L) (F := F) (R := R) (w := mb_I s 11 (4 * m + lf_a P m k)) (v := mb_I s 11 (4 * m + lf_b P m k)) hc (fun o p ho hbo hbp => rl.2.2.2.1 c6 o p (hW.2.2.1 m _ o hm ha hbo) (hW.2.2.1 m _ p hm hb hbp)) (s0 := s) 6 0 mb_fuel s rfl (by unfold mb_fuel; omega) hW (xp_rf hW.2.1 (fun o' h => absurd h (Nat.not_lt_zero _)))
    have e : mQ_growFields (mb_I s 11 (4 * m + lf_a P m k)) (nI (lf_c P m k)) (mb_I s 11 (4 * m + lf_b P m k)) s = some ((), u) := e
    rw [if_pos ((nI_eq (by omega) (by omega)).mpr c6), ← pu_l4, me_4r, me_ld (by omega) (by decide), me_4r, me_ld (by omega) (by decide), e, me_cal]
    refine ⟨u, rfl, hu, xp_wk p (fun z => ⟨fun e => by omega, fun e => by omega, fun e => by omega, fun _ o p ho hbo hbp => ?_, fun e => by omega⟩)⟩
    rw [xp_11] at hbo hbp
    exact xp_or (z o ho hbo) hbp
  rw [if_neg (fun z => c6 ((nI_eq (by omega) (by omega)).mp z)), pu_l7]
  by_cases c7 : lf_kd P m k = 7
  · have hb := o4 (by omega)
    have hc := o6 c7
    obtain ⟨u, e, hu, p⟩ := mQ_followCall_l hpo hC hS hm hk c7 hRm (w := mb_I s 11 (4 * m + lf_b P m k)) (fun o hbo => hW.2.2.1 m _ o hm hb hbo) (s0 := s) 6 0 mb_fuel s rfl (by unfold mb_fuel; omega) hW (xp_rf hW.2.1 (fun o' h => absurd h (Nat.not_lt_zero _)))
    rw [if_pos ((nI_eq (by omega) (by omega)).mpr c7)]
    unfold mQ_followCall
    rw [me_ld (by omega) (by decide), a3, me_d4 (by omega), me_bnd, me_ld (by omega) (by decide), a3, me_m4 (by omega), me_bnd, me_ld (by omega) (by decide), a2, me_4r, me_ld (by omega) (by decide), ← nI_0, e, me_cal]
    refine ⟨u, rfl, hu, xp_wk p (fun z => ⟨fun e => by omega, fun e => by omega, fun e => by omega, fun e => by omega, fun _ o ho => ?_⟩)⟩
    rw [xp_11]; exact z o ho
  rw [if_neg (fun z => c7 ((nI_eq (by omega) (by omega)).mp z))]
  exact ⟨s, rfl, hW, xp_rf hW.2.1 ⟨fun e => absurd e c0, fun e => absurd e c4, fun e => absurd e c5, fun e => absurd e c6, fun e => absurd e c7⟩⟩
def xp_up (P : lf_P) (q : lf_Q) (m k : Nat) (g a : mb_S) : Prop := ∀ i j, i < 6 → j < lf_len P i → (i < m ∨ (i = m ∧ j < k)) → pu_b (mb_F g 2) i = true → xp_cl P q i j g a
theorem xp_up_st {m k : Nat} : xp_st (xp_up P q m k) := fun g a b hf h i j hi hj hlt h2 => xp_cl_st g a b hf (h i j hi hj hlt h2)
theorem mQ_sweep_21 (hpo : lf_ok P q) (hC : lf_PC P q L F R) (hS : ∀ m x o, L m x o → ∃ c, lf_site P o c) {m : Nat} (hm : m < 6) (hRm : R m) (k2 : Int32 → mb_S → Option (Unit × mb_S)) (Q : Unit × mb_S → Prop) {s0 : mb_S} (hk2 : ∀ s, xp_W P q L F R s → xp_op (xp_up P q (m + 1) 0) s0 s → pu_wp (k2 (nI (m + 1)) s) Q) :
    ∀ (d k n : Nat) (s : mb_S), k + d = lf_len P m → d < n → xp_W P q L F R s → xp_op (xp_up P q m k) s0 s → pu_wp (mQ_sweep_l21 k2 n (nI m) (nI k) s) Q := by
  have hl := hpo.1 m hm
  intro d
  induction d with
  | zero =>
    intro k n s hkd hn hW hop
    obtain ⟨n, rfl⟩ : ∃ z, n = z + 1 := ⟨n - 1, by omega⟩
    rw [mQ_sweep_l21_s, me_ld hm (by decide), hW.1.1 _ hm, if_pos ((nI_leI (by omega) (by omega)).mpr (by omega))]
    unfold mQ_sweep_b51
    rw [me_bnd, nI_1]
    refine hk2 s hW (xp_wk hop (fun z i j hi hj hlt h9 => z i j hi hj ?_ h9))
    by_cases e : i = m
    · subst e; exact Or.inr ⟨rfl, by omega⟩
    · exact Or.inl (by omega)
  | succ d ih =>
    intro k n s hkd hn hW hop
    obtain ⟨n, rfl⟩ : ∃ z, n = z + 1 := ⟨n - 1, by omega⟩
    have hk : k < lf_len P m := by omega
    obtain ⟨u, e, hu, p⟩ := mQ_follow_e hpo hC hS hm hk hRm hW
    rw [mQ_sweep_l21_s, me_ld hm (by decide), hW.1.1 _ hm, if_neg (fun z => absurd ((nI_leI (by omega) (by omega)).mp z) (by omega)), me_13, e, me_cal, me_bnd, nI_1]
    refine ih (k + 1) n u (by omega) (by omega) hu (xp_wk (xp_seq xp_up_st hop p) (fun w i j hi hj hlt h9 => ?_))
    by_cases e : i = m ∧ j = k
    · rw [e.1, e.2]; exact w.2
    · exact w.1 i j hi hj (by omega) h9
theorem mQ_sweep_l (hpo : lf_ok P q) (hC : lf_PC P q L F R) (hS : ∀ m x o, L m x o → ∃ c, lf_site P o c) {s0 : mb_S} : ∀ (d m n : Nat) (s : mb_S), m + d = 6 → d < n → xp_W P q L F R s → xp_op (xp_up P q m 0) s0 s → pu_wp (mQ_sweep_l2 n (nI m) s) (fun z => xp_W P q L F R z.2 ∧ xp_op (xp_up P q 6 0) s0 z.2) := by
  intro d
  induction d with
  | zero =>
    intro m n s hmd hn hW hop
    obtain ⟨n, rfl⟩ : ∃ z, n = z + 1 := ⟨n - 1, by omega⟩
    rw [mQ_sweep_l2_s, pu_l6, if_pos ((nI_leI (by omega) (by omega)).mpr (by omega)), pu_some]
    rw [show m = 6 by omega] at hop
    exact ⟨hW, hop⟩
  | succ d ih =>
    intro m n s hmd hn hW hop
    obtain ⟨n, rfl⟩ : ∃ z, n = z + 1 := ⟨n - 1, by omega⟩
    have hm : m < 6 := by omega
    have hl := hpo.1 m hm
    rw [mQ_sweep_l2_s, pu_l6, if_neg (fun z => absurd ((nI_leI (a := 6) (b := m) (by omega) (by omega)).mp z) (by omega)), mX_has_e _ (show m < 32 by omega), me_cal0]
    by_cases c : pu_b (mb_F s 2) m = true
    · rw [if_pos c, if_neg me_10, ← nI_0]
      exact mQ_sweep_21 hpo hC hS hm (hW.2.2.2.2.1 m c) (mQ_sweep_l2 n) _ (s0 := s0) (fun u hu hou => ih (m + 1) n u (by omega) (by omega) hu hou) (lf_len P m) 0 mb_fuel s (Nat.zero_add _) (by unfold mb_fuel; omega) hW hop
    · rw [if_neg c, if_pos rfl]
      unfold mQ_sweep_b51
      rw [me_bnd, nI_1]
      refine ih (m + 1) n s (by omega) (by omega) hW (xp_wk (xp_seq xp_up_st hop (xp_rf (C := fun g _ => ¬ pu_b (mb_F g 2) m = true) hW.2.1 (by rw [xp_2]; exact c))) (fun z i j hi hj hlt h9 => ?_))
      by_cases e : i = m
      · subst e; exact absurd h9 z.2
      · exact z.1 i j hi hj (Or.inl (by omega)) h9
theorem xp_mu_le (g : mb_S) : eg_mu 24 0 (eg_sg xp_KF xp_KI mp_K0 g) ≤ 11 * 32 + 24 * (24 * 32) := by
  unfold eg_mu
  have h1 : pu_sum (fun k => pu_pc (mb_F (eg_sg xp_KF xp_KI mp_K0 g) k).toBitVec) 11 ≤ 11 * 32 := pu_sum_bd (fun k _ => pu_pc_le _)
  have h3 : pu_sum (fun a => pu_sum (fun j => pu_pc (mb_L (eg_sg xp_KF xp_KI mp_K0 g) a j).toBitVec) 0) 2 = 0 := rfl
  have h2 : pu_sum (fun a => pu_sum (fun j => pu_pc (mb_I (eg_sg xp_KF xp_KI mp_K0 g) a j).toBitVec) 24) 24 ≤ 24 * (24 * 32) := pu_sum_bd (fun a _ => pu_sum_bd (fun j _ => pu_pc_le _))
  omega
theorem mQ_workOut_l (hpo : lf_ok P q) (hC : lf_PC P q L F R) (hS : ∀ m x o, L m x o → ∃ c, lf_site P o c) {s0 : mb_S} : ∀ (d i n : Nat) (s : mb_S), i + d = 1000000 → d < n → xp_W P q L F R s → lf_fr (fun k => k = 2 ∨ k = 3) (fun k => 11 ≤ k ∧ k ≤ 13) (fun _ => False) s0 s → (mb_F s 3 = 1 → i ≤ eg_mu 24 0 (eg_sg xp_KF xp_KI mp_K0 s)) → (mb_F s 3 = 0 → xp_up P q 6 0 s s) → pu_wp (mQ_workOut_l36 n (nI i) s) (fun z => xp_W P q L F R z.2 ∧ xp_up P q 6 0 z.2 z.2 ∧ lf_fr (fun k => k = 2 ∨ k = 3) (fun k => 11 ≤ k ∧ k ≤ 13) (fun _ => False) s0 z.2) := by
  intro d
  induction d with
  | zero =>
    intro i n s hid hn hW hf hmu hup
    obtain ⟨n, rfl⟩ : ∃ z, n = z + 1 := ⟨n - 1, by omega⟩
    have h0 : mb_F s 3 = 0 := by
      rcases hW.2.1 with z | z
      · exact z
      · have := hmu z
        have := xp_mu_le s
        omega
    rw [mQ_workOut_l36_s, if_pos h0]
    unfold mQ_workOut_b64
    rw [pu_some]
    exact ⟨hW, hup h0, hf⟩
  | succ d ih =>
    intro i n s hid hn hW hf hmu hup
    obtain ⟨n, rfl⟩ : ∃ z, n = z + 1 := ⟨n - 1, by omega⟩
    rw [mQ_workOut_l36_s]
    unfold mQ_workOut_b64
    by_cases c : mb_F s 3 = 0
    · rw [if_pos c, pu_some]
      exact ⟨hW, hup c, hf⟩
    · rw [if_neg c, show (1000000 : Int32) = nI 1000000 from rfl, if_neg (fun z => absurd ((nI_leI (a := 1000000) (b := i) (by omega) (by omega)).mp z) (by omega)), me_putZ0]
      have hW0 : xp_W P q L F R (mb_setF s 3 0) := ⟨hW.1, Or.inl rfl, hW.2.2⟩
      have h1 : mb_F s 3 = 1 := by
        rcases hW.2.1 with z | z
        · exact absurd z c
        · exact z
      have hm0 := hmu h1
      have esg : eg_sg xp_KF xp_KI mp_K0 (mb_setF s 3 0) = eg_sg xp_KF xp_KI mp_K0 s := eg_flag (by decide) 0
      rw [pu_cal]
      unfold mQ_sweep
      refine pu_mono (mQ_sweep_l hpo hC hS (s0 := mb_setF s 3 0) 6 0 mb_fuel (mb_setF s 3 0) rfl (by unfold mb_fuel; omega) hW0 (xp_rf (Or.inl rfl) (fun a b _ _ hlt => by omega))) (fun z hz => ?_)
      obtain ⟨hu, e1, e2, e3, e4, e5, e6⟩ := hz
      rw [me_bnd, nI_1]
      refine ih (i + 1) n z.2 (by omega) (by omega) hu (lf_fr.tr (lf_fr.setF hf (Or.inr rfl)) e1.1) (fun y => ?_) (fun y => ?_)
      · have := e6 rfl y
        rw [esg] at this
        omega
      · obtain ⟨-, z2, z3⟩ := e5 y
        rw [← z2] at z3
        intro a b ha hb hlt h9
        have hcl := z3 a b ha hb hlt (by rw [xp_2]; exact h9)
        unfold xp_cl xp_pair at hcl ⊢
        rw [xp_11, xp_12, xp_2] at hcl
        exact hcl
end PX3
