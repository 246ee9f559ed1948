section RX4
variable {P : lf_P} {q : lf_Q} {r : lf_R} {s : mb_S}
theorem mP_jump_e (hX : lf_X P q s) (hpo : lf_ok P q) {m k : Nat} (hm : m < 6) (hk : k < lf_len P m) (h8 : lf_kd P m k = 8 ∨ lf_kd P m k = 9) : mP_jumpSpot (nI m) (nI (13 * m + k)) s = some (nI (13 * m + min (lf_a P m k) (lf_len P m)), s) := by
  have hl := hpo.1 _ hm
  obtain ⟨a0, a1, a2, a3, a4⟩ := hX.2.1 _ hm _ hk
  have ha := (hpo.2.1 _ hm _ hk).2.1 h8
  unfold mP_jumpSpot
  rw [me_ld (by omega) (by decide), a1, me_ld hm (by decide), hX.1 _ hm, me_min (by omega) (by omega), me_13]
theorem lr_go_sst (x p : Nat) : lr_go (lr_sst r x) p = lr_sst (lr_go r p) x := Eq.trans rfl rfl
theorem lr_sbr_sst (x b : Nat) : lr_sbr (lr_sst r x) b = lr_sst (lr_sbr r b) x := Eq.trans rfl rfl
theorem lr_put_sst (x a : Nat) (w : lf_V) : lr_put (lr_sst r x) a w = lr_sst (lr_put r a w) x := Eq.trans rfl rfl
theorem lr_sd_sst (x a : Nat) : lr_sd (lr_sst r x) a = lr_sst (lr_sd r a) x := Eq.trans rfl rfl
theorem lr_smt_sst (x : Nat) (f : Nat → Nat) : lr_smt (lr_sst r x) f = lr_sst (lr_smt r f) x := Eq.trans rfl rfl
theorem lr_spl_sst (x : Nat) (f : Nat → Nat) : lr_spl (lr_sst r x) f = lr_sst (lr_spl r f) x := Eq.trans rfl rfl
theorem lr_d_sst (x : Nat) : lr_d (lr_sst r x) = lr_d r := Eq.trans rfl rfl
theorem lr_mt_sst (x : Nat) : lr_mt (lr_sst r x) = lr_mt r := Eq.trans rfl rfl
theorem lr_pl_sst (x : Nat) : lr_pl (lr_sst r x) = lr_pl r := Eq.trans rfl rfl
theorem lr_enter_sst (x m : Nat) (v0 v1 : lf_V) : lr_enter (lr_sst r x) m v0 v1 = lr_sst (lr_enter r m v0 v1) x := by
  unfold lr_enter
  rw [lr_d_sst, lr_mt_sst, lr_pl_sst, lr_smt_sst, lr_spl_sst, lr_sd_sst, lr_put_sst, lr_put_sst, lr_put_sst, lr_put_sst]
theorem lr_leave_sst (x : Nat) (w : lf_V) : lr_leave P (lr_sst r x) w = lr_sst (lr_leave P r w) x := by
  unfold lr_leave
  by_cases c : lr_d r - 1 = 0
  · have c' : lr_d (lr_sst r x) - 1 = 0 := c
    rw [if_pos c, if_pos c', lr_sd_sst]
  · have c' : ¬ lr_d (lr_sst r x) - 1 = 0 := c
    rw [if_neg c, if_neg c', lr_d_sst, lr_mt_sst, lr_pl_sst, lr_sd_sst, lr_put_sst, lr_go_sst]
theorem mA_step_e (hX : lf_X P q s) (hpo : lf_ok P q) (h : lr_X r s) (hok : lr_ok P r) (ht : lr_top P r) (hh : lr_hind P q r = 0) {ch : Int32} (hch : mb_F s 6 = ch) (hst : lr_st r < 201) : ∃ s', mA_step s = some ((), s') ∧ lr_X (lr_sst (lr_step P q ch r) (lr_st r + 1)) s' ∧ lf_frX s s' := by
  have ht0 := ht
  obtain ⟨hd, hp⟩ := ht
  have hd6 := hok.1
  have hm : lr_tm r < 6 := (hok.2.1 (lr_d r - 1) (by omega)).1
  have hl := hpo.1 _ hm
  obtain ⟨a0, a1, a2, a3, a4⟩ := hX.2.1 _ hm _ hp
  obtain ⟨o1, o2, o3, o4, o5, o6⟩ := hpo.2.1 _ hm _ hp
  have hu := lr_unhind hh hok.2.2.2.2.1
  have hbr := hok.2.2.2.2.2.2.2.2
  have hn := hok.2.2.2.2.1
  have h2 := lr_X_st h (lr_st r + 1)
  have hX2 : lf_X P q (mb_setF s 8 (nI (lr_st r + 1))) := hX
  have hok2 : lr_ok P (lr_sst r (lr_st r + 1)) := lr_ok_sst (br := lr_br r) hok (by omega) (by omega)
  have hf2 : lf_frX s (mb_setF s 8 (nI (lr_st r + 1))) := lf_fr.rf.setF (Or.inr (Or.inr (Or.inl rfl)))
  have e18 : mb_I s 18 (lr_d r - 1) = nI (lr_tm r) := (h.2.2.2.2.1 (lr_d r - 1) (by omega)).1
  have e19 : mb_I s 19 (lr_d r - 1) = nI (13 * lr_tm r + lr_tp r) := (h.2.2.2.2.1 (lr_d r - 1) (by omega)).2
  have hval : ∀ x, x < 4 → mb_I s 20 (4 * (lr_d r - 1) + x) = nI (lr_pk (lr_tv r x)) := fun x hx => h.2.2.2.2.2.1 _ (by omega)
  unfold mA_step mA_step_b194 mA_step_b259
  rw [h.2.2.1, nI_1, me_putF]
  rw [show mb_F (mb_setF s 8 (nI (lr_st r + 1))) 5 = mb_F s 5 from rfl, h.1, me_sub1 hd, me_ld (by omega) (by decide), show mb_I (mb_setF s 8 (nI (lr_st r + 1))) 18 = mb_I s 18 from rfl, e18, me_ld (by omega) (by decide), show mb_I (mb_setF s 8 (nI (lr_st r + 1))) 19 = mb_I s 19 from rfl, e19, me_4ro, me_bnd, me_ld (by omega) (by decide), show mb_I (mb_setF s 8 (nI (lr_st r + 1))) 1 = mb_I s 1 from rfl, a1, me_ld (by omega) (by decide), show mb_I (mb_setF s 8 (nI (lr_st r + 1))) 0 = mb_I s 0 from rfl, a0]
  unfold lr_step
  rw [pu_l7]
  by_cases c7 : lf_kd P (lr_tm r) (lr_tp r) = 7
  · obtain ⟨o, t, e1, e2, e3⟩ := hu.2 c7
    have hb := o4 (by omega)
    have hc := o6 c7
    have hcm := mA_calledMethod_e hX2 hpo h2 hok2 ht0 c7
    have hcm : mA_calledMethod (nI (13 * lr_tm r + lr_tp r)) (mb_setF s 8 (nI (lr_st r + 1))) = some (lf_o (match (lr_tv r (lf_b P (lr_tm r) (lr_tp r))).1 with
      | none => none
      | some o => lf_tgt q (lr_k r o) (lf_c P (lr_tm r) (lr_tp r) / 4)), mb_setF s 8 (nI (lr_st r + 1))) := hcm
    rw [e1] at hcm
    have hcm : mA_calledMethod (nI (13 * lr_tm r + lr_tp r)) (mb_setF s 8 (nI (lr_st r + 1))) = some (lf_o (lf_tgt q (lr_k r o) (lf_c P (lr_tm r) (lr_tp r) / 4)), mb_setF s 8 (nI (lr_st r + 1))) := hcm
    rw [e2] at hcm
    rw [if_pos ((nI_eq (by omega) (by omega)).mpr c7), if_pos c7, hcm, me_cal, me_ld (by omega) (by decide), show mb_I (mb_setF s 8 (nI (lr_st r + 1))) 2 = mb_I s 2 from rfl, a2, nI_add, me_ld (by omega) (by decide), show mb_I (mb_setF s 8 (nI (lr_st r + 1))) 20 = mb_I s 20 from rfl, hval _ hb, me_ld (by omega) (by decide), show mb_I (mb_setF s 8 (nI (lr_st r + 1))) 3 = mb_I s 3 from rfl, a3, me_m4 (by omega), nI_add, me_ld (by omega) (by decide), hval _ (show lf_c P (lr_tm r) (lr_tp r) % 4 < 4 by omega), e1]
    show ∃ s', _ ∧ lr_X (lr_sst (match lf_tgt q (lr_k r o) (lf_c P (lr_tm r) (lr_tp r) / 4) with
      | none => r
      | some t => lr_enter r t (lr_tv r (lf_b P (lr_tm r) (lr_tp r))) (lr_tv r (lf_c P (lr_tm r) (lr_tp r) % 4))) (lr_st r + 1)) s' ∧ _
    rw [e2]
    obtain ⟨u, u1, u2, u3⟩ := mA_begin_e h2 (show lr_d r < 6 by omega) t (lr_tv r (lf_b P (lr_tm r) (lr_tp r))) (lr_tv r (lf_c P (lr_tm r) (lr_tp r) % 4))
    rw [lr_enter_sst] at u2
    rw [show mA_begin (lf_o (some t)) (nI (lr_pk (lr_tv r (lf_b P (lr_tm r) (lr_tp r))))) (nI (lr_pk (lr_tv r (lf_c P (lr_tm r) (lr_tp r) % 4)))) (mb_setF s 8 (nI (lr_st r + 1))) = some ((), u) from u1, me_cal]
    exact ⟨u, rfl, u2, hf2.tr u3⟩
  rw [if_neg (fun z => c7 ((nI_eq (by omega) (by omega)).mp z)), if_neg c7, pu_l8]
  by_cases c8 : lf_kd P (lr_tm r) (lr_tp r) = 8
  · have h3 := lr_X_br h2 (lr_br r + 1)
    have hf3 : lf_frX s (mb_setF (mb_setF s 8 (nI (lr_st r + 1))) 7 (nI (lr_br r + 1))) := lf_fr.setF hf2 (Or.inr (Or.inl rfl))
    rw [if_pos ((nI_eq (by omega) (by omega)).mpr c8), if_neg (show ¬ lf_kd P (lr_tm r) (lr_tp r) = 10 by omega), if_pos c8]
    rw [show mb_F (mb_setF s 8 (nI (lr_st r + 1))) 6 = mb_F s 6 from rfl, hch, show mb_F (mb_setF s 8 (nI (lr_st r + 1))) 7 = mb_F s 7 from rfl, h.2.2.2.1, me_m32 (by omega), mX_has_e _ (show lr_br r % 32 < 32 by omega), me_cal0, nI_1, me_putF]
    rw [show mb_F (mb_setF (mb_setF s 8 (nI (lr_st r + 1))) 7 (nI (lr_br r + 1))) 5 = mb_F s 5 from rfl, h.1, me_sub1 hd]
    by_cases c : pu_b ch (lr_br r % 32) = true
    · rw [if_pos c, if_neg me_10, mP_jump_e (s := mb_setF (mb_setF s 8 (nI (lr_st r + 1))) 7 (nI (lr_br r + 1))) hX hpo hm hp (Or.inl c8), me_cal, me_stI (by omega) (by decide), if_pos c]
      exact ⟨_, rfl, (by have z := lr_X_go h3 (min (lf_a P (lr_tm r) (lr_tp r)) (lf_len P (lr_tm r))); rw [lr_sbr_sst, lr_go_sst] at z; exact z), lf_fr.setI hf3 ⟨by decide, by decide⟩⟩
    · rw [if_neg c, if_pos rfl, nI_1, me_stI (by omega) (by decide), if_neg c]
      exact ⟨_, rfl, (by have z := lr_X_go h3 (lr_tp r + 1); rw [lr_sbr_sst, lr_go_sst] at z; exact z), lf_fr.setI hf3 ⟨by decide, by decide⟩⟩
  rw [if_neg (fun z => c8 ((nI_eq (by omega) (by omega)).mp z)), pu_l9]
  by_cases c9 : lf_kd P (lr_tm r) (lr_tp r) = 9
  · rw [if_pos ((nI_eq (by omega) (by omega)).mpr c9), if_neg (show ¬ lf_kd P (lr_tm r) (lr_tp r) = 10 by omega), if_neg c8, if_pos c9, mP_jump_e hX2 hpo hm hp (Or.inr c9), me_cal, me_stI (by omega) (by decide)]
    exact ⟨_, rfl, (by have z := lr_X_go h2 (min (lf_a P (lr_tm r) (lr_tp r)) (lf_len P (lr_tm r))); rw [lr_go_sst] at z; exact z), lf_fr.setI hf2 ⟨by decide, by decide⟩⟩
  rw [if_neg (fun z => c9 ((nI_eq (by omega) (by omega)).mp z)), pu_l10]
  by_cases c10 : lf_kd P (lr_tm r) (lr_tp r) = 10
  · have ha : lf_a P (lr_tm r) (lr_tp r) < 4 := o3 (by omega)
    obtain ⟨u, u1, u2, u3⟩ := mA_endMethod_e hX2 hpo h2 hok2 hd (lr_tv r (lf_a P (lr_tm r) (lr_tp r)))
    rw [if_pos ((nI_eq (by omega) (by omega)).mpr c10), if_pos c10, nI_add, me_ld (by omega) (by decide), show mb_I (mb_setF s 8 (nI (lr_st r + 1))) 20 = mb_I s 20 from rfl, hval _ ha, u1, me_cal]
    rw [lr_leave_sst] at u2
    exact ⟨u, rfl, u2, hf2.tr u3⟩
  rw [if_neg (fun z => c10 ((nI_eq (by omega) (by omega)).mp z)), if_neg c10, if_neg c8, if_neg c9]
  have hpl2 : lr_pln P (lr_sst r (lr_st r + 1)) := hu.1 (by omega)
  obtain ⟨u, u1, u2, u3⟩ := mA_change_e hX2 hpo h2 hok2 ht0 hpl2
  have u1 : mA_changeValues (nI (13 * lr_tm r + lr_tp r)) (nI (4 * (lr_d r - 1))) (nI (lf_a P (lr_tm r) (lr_tp r))) (mb_setF s 8 (nI (lr_st r + 1))) = some ((), u) := u1
  obtain ⟨s1, s2, s3, s4, s5⟩ := lr_plain_same (P := P) (r := r)
  rw [lr_plain_sst] at u2
  have hg := lr_X_go u2 (lr_tp r + 1)
  rw [lr_go_sst] at hg
  have hg : lr_X (lr_sst (lr_go (lr_plain P r) (lr_tp r + 1)) (lr_st r + 1)) (mb_setI u 19 (lr_d (lr_plain P r) - 1) (nI (13 * lr_mt (lr_plain P r) (lr_d (lr_plain P r) - 1) + (lr_tp r + 1)))) := hg
  rw [s1, s2] at hg
  have e5 : mb_F u 5 = nI (lr_d r) := by
    have := u2.1
    have : mb_F u 5 = nI (lr_d (lr_plain P r)) := this
    rw [s1] at this
    exact this
  rw [u1, me_cal, e5, me_sub1 hd, nI_1, me_stI (by omega) (by decide)]
  exact ⟨_, rfl, hg, lf_fr.setI (hf2.tr u3) ⟨by decide, by decide⟩⟩
end RX4
