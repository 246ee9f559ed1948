section RS
variable {P : lf_P} {q : lf_Q} {r : lf_R} {s : mb_S}
theorem lr_unhind (hh : lr_hind P q r = 0) (hn : lr_n r ≤ 12) : (lf_kd P (lr_tm r) (lr_tp r) ≤ 6 → lr_pln P r) ∧ (lf_kd P (lr_tm r) (lr_tp r) = 7 → ∃ o t, (lr_tv r (lf_b P (lr_tm r) (lr_tp r))).1 = some o ∧ lf_tgt q (lr_k r o) (lf_c P (lr_tm r) (lr_tp r) / 4) = some t ∧ lr_d r ≠ 6) := by
  unfold lr_hind at hh
  by_cases c0 : lf_kd P (lr_tm r) (lr_tp r) = 0
  · rw [if_pos c0] at hh
    refine ⟨fun _ => ⟨by omega, fun _ => ?_, fun z => by omega, fun z => by omega⟩, fun z => by omega⟩
    by_cases c : lr_n r = 12
    · rw [if_pos c] at hh; omega
    · omega
  · rw [if_neg c0] at hh
    by_cases c5 : lf_kd P (lr_tm r) (lr_tp r) = 5
    · rw [if_pos c5] at hh
      refine ⟨fun _ => ⟨by omega, fun z => by omega, fun _ => ?_, fun z => by omega⟩, fun z => by omega⟩
      cases hv : (lr_tv r (lf_b P (lr_tm r) (lr_tp r))).1 with
      | none => rw [hv] at hh; cases hh
      | some o => exact ⟨o, rfl⟩
    · rw [if_neg c5] at hh
      by_cases c6 : lf_kd P (lr_tm r) (lr_tp r) = 6
      · rw [if_pos c6] at hh
        refine ⟨fun _ => ⟨by omega, fun z => by omega, fun z => by omega, fun _ => ?_⟩, fun z => by omega⟩
        cases hv : (lr_tv r (lf_a P (lr_tm r) (lr_tp r))).1 with
        | none => rw [hv] at hh; cases hh
        | some o => exact ⟨o, rfl⟩
      · rw [if_neg c6] at hh
        refine ⟨fun _ => ⟨by omega, fun z => by omega, fun z => by omega, fun z => by omega⟩, fun c7 => ?_⟩
        rw [if_pos c7] at hh
        cases hv : (lr_tv r (lf_b P (lr_tm r) (lr_tp r))).1 with
        | none => rw [hv] at hh; cases hh
        | some o =>
          rw [hv] at hh
          have hh : (match lf_tgt q (lr_k r o) (lf_c P (lr_tm r) (lr_tp r) / 4) with
            | none => 3
            | some _ => if lr_d r = 6 then 4 else 0) = 0 := hh
          cases ht : lf_tgt q (lr_k r o) (lf_c P (lr_tm r) (lr_tp r) / 4) with
          | none => rw [ht] at hh; cases hh
          | some t =>
            rw [ht] at hh
            have hh : (if lr_d r = 6 then 4 else 0) = 0 := hh
            refine ⟨o, t, rfl, ht, fun z => ?_⟩
            rw [if_pos z] at hh; cases hh
theorem lr_plain_same : lr_d (lr_plain P r) = lr_d r ∧ lr_mt (lr_plain P r) = lr_mt r ∧ lr_pl (lr_plain P r) = lr_pl r ∧ lr_st (lr_plain P r) = lr_st r ∧ lr_br (lr_plain P r) = lr_br r := by
  unfold lr_plain
  by_cases c0 : lf_kd P (lr_tm r) (lr_tp r) = 0
  · rw [if_pos c0]; exact ⟨rfl, rfl, rfl, rfl, rfl⟩
  rw [if_neg c0]
  by_cases c1 : lf_kd P (lr_tm r) (lr_tp r) = 1
  · rw [if_pos c1]; exact ⟨rfl, rfl, rfl, rfl, rfl⟩
  rw [if_neg c1]
  by_cases c2 : lf_kd P (lr_tm r) (lr_tp r) = 2
  · rw [if_pos c2]; exact ⟨rfl, rfl, rfl, rfl, rfl⟩
  rw [if_neg c2]
  by_cases c3 : lf_kd P (lr_tm r) (lr_tp r) = 3
  · rw [if_pos c3]; exact ⟨rfl, rfl, rfl, rfl, rfl⟩
  rw [if_neg c3]
  by_cases c4 : lf_kd P (lr_tm r) (lr_tp r) = 4
  · rw [if_pos c4]; exact ⟨rfl, rfl, rfl, rfl, rfl⟩
  rw [if_neg c4]
  by_cases c5 : lf_kd P (lr_tm r) (lr_tp r) = 5
  · rw [if_pos c5]
    cases (lr_tv r (lf_b P (lr_tm r) (lr_tp r))).1 with
    | none => exact ⟨rfl, rfl, rfl, rfl, rfl⟩
    | some o => exact ⟨rfl, rfl, rfl, rfl, rfl⟩
  rw [if_neg c5]
  cases (lr_tv r (lf_a P (lr_tm r) (lr_tp r))).1 with
  | none => exact ⟨rfl, rfl, rfl, rfl, rfl⟩
  | some o => exact ⟨rfl, rfl, rfl, rfl, rfl⟩
theorem lr_plain_ok (hpo : lf_ok P q) (hok : lr_ok P r) (ht : lr_top P r) (hpl : lr_pln P r) : lr_ok P (lr_plain P r) := by
  obtain ⟨hd, hp⟩ := ht
  obtain ⟨p6, p0, p5, p6'⟩ := hpl
  have hd6 := hok.1
  have hm : lr_tm r < 6 := (hok.2.1 (lr_d r - 1) (by omega)).1
  obtain ⟨o1, o2, o3, o4, o5, o6⟩ := hpo.2.1 _ hm _ hp
  have ha : lf_a P (lr_tm r) (lr_tp r) < 4 := o3 (by omega)
  unfold lr_plain
  by_cases c0 : lf_kd P (lr_tm r) (lr_tp r) = 0
  · rw [if_pos c0]
    have hn12 := p0 c0
    have hb := o4 (Or.inl c0)
    obtain ⟨h1, h2, h3, h4, h5, h6, h7, h8, h9⟩ := hok
    refine ⟨h1, h2, h3, fun j hj => ?_, ?_, fun o ho => ?_, fun j hj => ?_, h8, h9⟩
    · show (va_up (lr_v r) (4 * (lr_d r - 1) + lf_a P (lr_tm r) (lr_tp r)) (some (lr_n r), 0) j).2 < 16 ∧ ∀ o, (va_up (lr_v r) (4 * (lr_d r - 1) + lf_a P (lr_tm r) (lr_tp r)) (some (lr_n r), 0) j).1 = some o → o < lr_n r + 1
      rw [va_up_e]
      by_cases e : j = 4 * (lr_d r - 1) + lf_a P (lr_tm r) (lr_tp r)
      · rw [if_pos e]; exact ⟨show 0 < 16 by decide, fun o z => by cases z; omega⟩
      · rw [if_neg e]
        obtain ⟨z1, z2⟩ := h4 j hj
        exact ⟨z1, fun o z => by have := z2 o z; omega⟩
    · show lr_n r + 1 ≤ 12; omega
    · have ho' : o < lr_n r + 1 := ho
      show va_up (lr_k r) (lr_n r) (lf_b P (lr_tm r) (lr_tp r)) o < 4
      rw [va_up_e]
      by_cases e : o = lr_n r
      · rw [if_pos e]; exact hb
      · rw [if_neg e]; exact h6 o (by omega)
    · have hj' : j < 2 * (lr_n r + 1) := hj
      show (va_up (va_up (lr_h r) (2 * lr_n r) (none, 0)) (2 * lr_n r + 1) (none, 0) j).2 < 16 ∧ ∀ o, (va_up (va_up (lr_h r) (2 * lr_n r) (none, 0)) (2 * lr_n r + 1) (none, 0) j).1 = some o → o < lr_n r + 1
      rw [va_up_e, va_up_e]
      by_cases e : j = 2 * lr_n r + 1
      · rw [if_pos e]; exact ⟨by decide, fun o z => by cases z⟩
      · rw [if_neg e]
        by_cases e2 : j = 2 * lr_n r
        · rw [if_pos e2]; exact ⟨by decide, fun o z => by cases z⟩
        · rw [if_neg e2]
          obtain ⟨z1, z2⟩ := h7 j (by omega)
          exact ⟨z1, fun o z => by have := z2 o z; omega⟩
  rw [if_neg c0]
  by_cases c1 : lf_kd P (lr_tm r) (lr_tp r) = 1
  · rw [if_pos c1]
    have hb := lf_bef_lt P hm hp
    rw [c1] at hb
    have h4 := hpo.2.2.2.1
    exact lr_ok_put hok _ ⟨(by decide : ∀ b, b < 4 → 2 ^ b < 16) _ (by omega), fun o z => by cases z⟩
  rw [if_neg c1]
  by_cases c2 : lf_kd P (lr_tm r) (lr_tp r) = 2
  · rw [if_pos c2]; exact hok
  rw [if_neg c2]
  by_cases c3 : lf_kd P (lr_tm r) (lr_tp r) = 3
  · rw [if_pos c3]; exact lr_ok_put hok _ ⟨show 0 < 16 by decide, (lr_ok_tv hok hd ha).2⟩
  rw [if_neg c3]
  have hb : lf_b P (lr_tm r) (lr_tp r) < 4 := o4 (by omega)
  by_cases c4 : lf_kd P (lr_tm r) (lr_tp r) = 4
  · rw [if_pos c4]; exact lr_ok_put hok _ (lr_ok_tv hok hd hb)
  rw [if_neg c4]
  have hc : lf_c P (lr_tm r) (lr_tp r) < 2 := o5 (by omega)
  by_cases c5 : lf_kd P (lr_tm r) (lr_tp r) = 5
  · rw [if_pos c5]
    obtain ⟨o, ho⟩ := p5 c5
    have hon := (lr_ok_tv hok hd hb).2 o ho
    rw [ho]
    obtain ⟨z1, z2⟩ := hok.2.2.2.2.2.2.1 (2 * o + lf_c P (lr_tm r) (lr_tp r)) (by omega)
    exact lr_ok_put hok _ ⟨Nat.or_lt_two_pow (n := 4) z1 (lr_ok_tv hok hd hb).1, z2⟩
  rw [if_neg c5]
  obtain ⟨o, ho⟩ := p6' (by omega)
  have hon := (lr_ok_tv hok hd ha).2 o ho
  rw [ho]
  have hv := lr_ok_tv hok hd hb
  obtain ⟨h1, h2, h3, h4, h5, h6, h7, h8, h9⟩ := hok
  refine ⟨h1, h2, h3, h4, h5, h6, fun j hj => ?_, h8, h9⟩
  show (va_up (lr_h r) (2 * o + lf_c P (lr_tm r) (lr_tp r)) (lr_tv r (lf_b P (lr_tm r) (lr_tp r))) j).2 < 16 ∧ ∀ o', (va_up (lr_h r) (2 * o + lf_c P (lr_tm r) (lr_tp r)) (lr_tv r (lf_b P (lr_tm r) (lr_tp r))) j).1 = some o' → o' < lr_n r
  rw [va_up_e]
  by_cases e : j = 2 * o + lf_c P (lr_tm r) (lr_tp r)
  · rw [if_pos e]; exact hv
  · rw [if_neg e]; exact h7 j hj
theorem lr_ok_sst (h : lr_ok P r) {st br : Nat} (h1 : st ≤ 201) (h2 : br ≤ st) : lr_ok P (lr_sst (lr_sbr r br) st) := by
  obtain ⟨a1, a2, a3, a4, a5, a6, a7, a8, a9⟩ := h
  exact ⟨a1, a2, a3, a4, a5, a6, a7, h1, h2⟩
theorem lr_step_ok (hpo : lf_ok P q) (hok : lr_ok P r) (ht : lr_top P r) (hh : lr_hind P q r = 0) (ch : Int32) (hst : lr_st r < 201) : lr_ok P (lr_sst (lr_step P q ch r) (lr_st r + 1)) := by
  have ht0 := ht
  obtain ⟨hd, hp⟩ := ht
  have hd6 := hok.1
  have hm : lr_tm r < 6 := (hok.2.1 (lr_d r - 1) (by omega)).1
  obtain ⟨o1, o2, o3, o4, o5, o6⟩ := hpo.2.1 _ hm _ hp
  have hu := lr_unhind hh hok.2.2.2.2.1
  have hbr := hok.2.2.2.2.2.2.2.2
  have keep : ∀ {r' : lf_R}, lr_ok P r' → lr_br r' = lr_br r → lr_ok P (lr_sst r' (lr_st r + 1)) := fun {r'} h e => lr_ok_sst (br := lr_br r') h (by omega) (by omega)
  unfold lr_step
  by_cases c7 : lf_kd P (lr_tm r) (lr_tp r) = 7
  · rw [if_pos c7]
    obtain ⟨o, t, e1, e2, e3⟩ := hu.2 c7
    rw [e1]
    show lr_ok P (lr_sst (match lf_tgt q (lr_k r o) (lf_c P (lr_tm r) (lr_tp r) / 4) with
      | none => r
      | some t => lr_enter r t (lr_tv r (lf_b P (lr_tm r) (lr_tp r))) (lr_tv r (lf_c P (lr_tm r) (lr_tp r) % 4))) (lr_st r + 1))
    rw [e2]
    have hb := o4 (by omega)
    have hc := o6 c7
    have hon := (lr_ok_tv hok hd hb).2 o e1
    have ht6 := lf_tgt_lt hpo (hok.2.2.2.2.2.1 o hon) (show lf_c P (lr_tm r) (lr_tp r) / 4 < 3 by omega) e2
    exact keep (lr_ok_enter hok (by omega) ht6 (lr_ok_tv hok hd hb) (lr_ok_tv hok hd (by omega)) (fun _ => ⟨hp, c7⟩)) rfl
  rw [if_neg c7]
  by_cases c10 : lf_kd P (lr_tm r) (lr_tp r) = 10
  · rw [if_pos c10]
    have e : lr_br (lr_leave P r (lr_tv r (lf_a P (lr_tm r) (lr_tp r)))) = lr_br r := by
      unfold lr_leave
      by_cases c : lr_d r - 1 = 0
      · rw [if_pos c]; rfl
      · rw [if_neg c]; rfl
    exact keep (lr_ok_leave hok hd (lr_ok_tv hok hd (o3 (by omega)))) e
  rw [if_neg c10]
  by_cases c8 : lf_kd P (lr_tm r) (lr_tp r) = 8
  · rw [if_pos c8]
    have h1 := lr_ok_sst (st := lr_st r + 1) (br := lr_br r + 1) hok (by omega) (by omega)
    refine lr_ok_go h1 hd ?_
    by_cases c : pu_b ch (lr_br r % 32) = true
    · rw [if_pos c]; exact Nat.min_le_right _ _
    · rw [if_neg c]; exact hp
  rw [if_neg c8]
  by_cases c9 : lf_kd P (lr_tm r) (lr_tp r) = 9
  · rw [if_pos c9]
    exact keep (lr_ok_go hok hd (Nat.min_le_right _ _)) rfl
  rw [if_neg c9]
  obtain ⟨s1, s2, s3, s4, s5⟩ := lr_plain_same (P := P) (r := r)
  refine keep (lr_ok_go (lr_plain_ok hpo hok ht0 (hu.1 (by omega))) (by rw [s1]; exact hd) ?_) s5
  show lr_tp r + 1 ≤ lf_len P (lr_mt (lr_plain P r) (lr_d (lr_plain P r) - 1))
  rw [s1, s2]
  exact hp
theorem lr_step_st (ch : Int32) (hst : True) : lr_st (lr_sst (lr_step P q ch r) (lr_st r + 1)) = lr_st r + 1 := rfl
theorem mM_step_222 (hM : lf_M P q s) (hpo : lf_ok P q) (h : lr_M r s) (hok : lr_ok P r) (hd : 0 < lr_d r) {p : Nat} (hp : p ≤ 12) : ∃ s', mM_step_b222 (nI (lr_tm r)) (nI p) s = some ((), s') ∧ lr_M (lr_go r (min p (lf_len P (lr_tm r)))) s' ∧ lf_frR s s' := by
  have hd6 := hok.1
  have hm : lr_tm r < 6 := (hok.2.1 (lr_d r - 1) (by omega)).1
  have hl := hpo.1 _ hm
  unfold mM_step_b222 mM_step_b256 mM_step_b283
  rw [me_ld hm (by decide), hM.1 _ hm, h.1, me_sub1 hd]
  by_cases c : p ≤ lf_len P (lr_tm r)
  · rw [if_pos ((nI_leI (by omega) (by omega)).mpr c), me_stI (by omega) (by decide), Nat.min_eq_left c]
    exact ⟨_, rfl, lr_M_go h p, lf_fr.rf.setI ⟨by decide, by decide⟩⟩
  · rw [if_neg (fun z => c ((nI_leI (by omega) (by omega)).mp z)), me_ld hm (by decide), hM.1 _ hm, me_stI (by omega) (by decide), Nat.min_eq_right (by omega)]
    exact ⟨_, rfl, lr_M_go h _, lf_fr.rf.setI ⟨by decide, by decide⟩⟩
theorem lr_M_br (h : lr_M r s) (b : Nat) : lr_M (lr_sbr r b) (mb_setF s 5 (nI b)) := by
  obtain ⟨h1, h2, h3, h4, h5, h6, h7, h8, h9⟩ := h
  exact ⟨h1, h2, h3, rfl, h5, h6, h7, h8, h9⟩
theorem lr_sbr_self : lr_sbr r (lr_br r) = r := rfl
theorem mM_step_e (hM : lf_M P q s) (hpo : lf_ok P q) (h : lr_M r s) (hok : lr_ok P r) (ht : lr_top P r) (hh : lr_hind P q r = 0) (ch : Int32) : ∃ s', mM_step ch s = some ((), s') ∧ lr_M (lr_step P q ch r) s' ∧ lf_frR s s' := by
  have ht0 := ht
  obtain ⟨hd, hp⟩ := ht
  have hd6 := hok.1
  have hm : lr_tm r < 6 := (hok.2.1 (lr_d r - 1) (by omega)).1
  have hl := hpo.1 _ hm
  obtain ⟨a1, a2, a3, a4⟩ := hM.2.1 _ hm _ hp
  obtain ⟨o1, o2, o3, o4, o5, o6⟩ := hpo.2.1 _ hm _ hp
  have hu := lr_unhind hh hok.2.2.2.2.1
  have hst := hok.2.2.2.2.2.2.2.1
  have hbr := hok.2.2.2.2.2.2.2.2
  have e14 : mb_I s 14 (lr_d r - 1) = nI (lr_tm r) := (h.2.2.2.2.1 (lr_d r - 1) (by omega)).1
  have e15 : mb_I s 15 (lr_d r - 1) = nI (lr_tp r) := (h.2.2.2.2.1 (lr_d r - 1) (by omega)).2
  have hn := hok.2.2.2.2.1
  unfold mM_step mM_step_b283
  rw [h.1, me_sub1 hd, me_ld (by omega) (by decide), e14, me_ld (by omega) (by decide), e15, me_bnd, me_12, me_ld (by omega) (by decide), a1, me_ld (by omega) (by decide), a2, me_bnd, me_4o]
  unfold lr_step
  rw [pu_l7]
  by_cases c7 : lf_kd P (lr_tm r) (lr_tp r) = 7
  · obtain ⟨o, t, e1, e2, e3⟩ := hu.2 c7
    have hb := o4 (by omega)
    have hc := o6 c7
    have hon := (lr_ok_tv hok hd hb).2 o e1
    have hk4 := hok.2.2.2.2.2.1 o hon
    have e16 : mb_I s 16 (4 * (lr_d r - 1) + lf_b P (lr_tm r) (lr_tp r)) = nI o := by
      rw [(h.2.2.2.2.2.1 (4 * (lr_d r - 1) + lf_b P (lr_tm r) (lr_tp r)) (by omega)).1]
      show lf_o (lr_tv r (lf_b P (lr_tm r) (lr_tp r))).1 = _
      rw [e1]; rfl
    rw [if_pos ((nI_eq (by omega) (by omega)).mpr c7), if_pos c7, me_ld (by omega) (by decide), a3, me_bnd, nI_add, me_ld (by omega) (by decide), e16, me_ld (by omega) (by decide), h.2.2.2.2.2.2.1 o hon, me_ld (by omega) (by decide), a4, me_d4 (by omega), mM_target_e hM hpo hk4 (show lf_c P (lr_tm r) (lr_tp r) / 4 < 3 by omega), e2, me_cal, me_ld (by omega) (by decide), a4, me_m4 (by omega), nI_add, e1]
    show ∃ s', _ ∧ lr_M (match lf_tgt q (lr_k r o) (lf_c P (lr_tm r) (lr_tp r) / 4) with
      | none => r
      | some t => lr_enter r t (lr_tv r (lf_b P (lr_tm r) (lr_tp r))) (lr_tv r (lf_c P (lr_tm r) (lr_tp r) % 4))) s' ∧ _
    rw [e2]
    obtain ⟨u, u1, u2, u3⟩ := mM_enter_e h hok (by omega) t (i0 := some (4 * (lr_d r - 1) + lf_b P (lr_tm r) (lr_tp r))) (i1 := some (4 * (lr_d r - 1) + lf_c P (lr_tm r) (lr_tp r) % 4)) (fun j z => by cases z; omega) (fun j z => by cases z; omega)
    rw [show mM_enter (lf_o (some t)) (nI (4 * (lr_d r - 1) + lf_b P (lr_tm r) (lr_tp r))) (nI (4 * (lr_d r - 1) + lf_c P (lr_tm r) (lr_tp r) % 4)) s = some ((), u) from u1, me_cal]
    exact ⟨u, rfl, u2, u3⟩
  rw [if_neg (fun z => c7 ((nI_eq (by omega) (by omega)).mp z)), if_neg c7, pu_l10]
  by_cases c10 : lf_kd P (lr_tm r) (lr_tp r) = 10
  · obtain ⟨u, u1, u2, u3⟩ := mM_leave_v hM hpo h hok hd (show lf_a P (lr_tm r) (lr_tp r) < 4 from o3 (by omega))
    rw [if_pos ((nI_eq (by omega) (by omega)).mpr c10), if_pos c10, u1, me_cal]
    exact ⟨u, rfl, u2, u3⟩
  rw [if_neg (fun z => c10 ((nI_eq (by omega) (by omega)).mp z)), if_neg c10, pu_l8]
  by_cases c8 : lf_kd P (lr_tm r) (lr_tp r) = 8
  · have ha := o2 (Or.inl c8)
    have e31 : nI (lr_br r) &&& 31 = nI (lr_br r % 32) := pk_andN (n := lr_br r) (by omega) (m := 31) 5 (by decide)
    have e31' : nI (lr_br r % 32) &&& 31 = nI (lr_br r % 32 % 32) := pk_andN (n := lr_br r % 32) (by omega) (m := 31) 5 (by decide)
    have h5 := lr_M_br h (lr_br r + 1)
    have hok5 : lr_ok P (lr_sst (lr_sbr r (lr_br r + 1)) (lr_br r + 1 + lr_st r)) ∨ True := Or.inr trivial
    rw [if_pos ((nI_eq (by omega) (by omega)).mpr c8), if_pos c8]
    unfold mM_step_b159 mM_step_b181 mM_step_b186 mM_step_b205
    rw [pu_l9, if_neg (fun z => absurd ((nI_eq (by omega) (by omega)).mp z) (by omega)), h.2.2.2.1, e31, pu_b_shr (show lr_br r % 32 < 32 by omega), pu_l8]
    have go : ∀ p, p ≤ 12 → ∃ s', mM_step_b222 (nI (lr_tm r)) (nI p) (mb_setF s 5 (nI (lr_br r + 1))) = some ((), s') ∧ lr_M (lr_go (lr_sbr r (lr_br r + 1)) (min p (lf_len P (lr_tm r)))) s' ∧ lf_frR s s' := by
      intro p hp12
      unfold mM_step_b222 mM_step_b256 mM_step_b283
      rw [me_ld hm (by decide), show mb_I (mb_setF s 5 (nI (lr_br r + 1))) 0 = mb_I s 0 from rfl, hM.1 _ hm, show mb_F (mb_setF s 5 (nI (lr_br r + 1))) 6 = mb_F s 6 from rfl, h.1, me_sub1 hd]
      by_cases c : p ≤ lf_len P (lr_tm r)
      · rw [if_pos ((nI_leI (by omega) (by omega)).mpr c), me_stI (by omega) (by decide), Nat.min_eq_left c]
        exact ⟨_, rfl, lr_M_go h5 p, (lf_fr.rf.setF ⟨by decide, by decide⟩).setI ⟨by decide, by decide⟩⟩
      · rw [if_neg (fun z => c ((nI_leI (by omega) (by omega)).mp z)), me_ld hm (by decide), hM.1 _ hm, me_stI (by omega) (by decide), Nat.min_eq_right (by omega)]
        exact ⟨_, rfl, lr_M_go h5 _, (lf_fr.rf.setF ⟨by decide, by decide⟩).setI ⟨by decide, by decide⟩⟩
    by_cases c : pu_b ch (lr_br r % 32) = true
    · rw [if_pos c, if_pos c, if_pos rfl, if_pos ((nI_eq (by omega) (by omega)).mpr c8), nI_1, me_putF, if_neg me_10]
      exact go _ (by omega)
    · rw [if_neg c, if_neg c, if_neg (by decide), if_pos ((nI_eq (by omega) (by omega)).mpr c8), nI_1, me_putF, if_pos rfl, nI_1]
      have := go (lr_tp r + 1) (by omega)
      rw [Nat.min_eq_left (by omega)] at this
      exact this
  rw [if_neg (fun z => c8 ((nI_eq (by omega) (by omega)).mp z)), if_neg c8, pu_l9]
  by_cases c9 : lf_kd P (lr_tm r) (lr_tp r) = 9
  · have ha := o2 (Or.inr c9)
    rw [if_pos ((nI_eq (by omega) (by omega)).mpr c9), if_pos c9]
    unfold mM_step_b159 mM_step_b181 mM_step_b186 mM_step_b205
    rw [pu_l9, if_pos ((nI_eq (by omega) (by omega)).mpr c9), pu_l8, if_neg (fun z => absurd ((nI_eq (by omega) (by omega)).mp z) (by omega)), h.2.2.2.1, ← nI_0, nI_add, Nat.add_zero, me_putF, nI_0, if_neg me_10]
    have h5 := lr_M_br h (lr_br r)
    rw [lr_sbr_self] at h5
    obtain ⟨u, u1, u2, u3⟩ := mM_step_222 (s := mb_setF s 5 (nI (lr_br r))) hM hpo h5 hok hd (show lf_a P (lr_tm r) (lr_tp r) ≤ 12 by omega)
    exact ⟨u, u1, u2, (show lf_frR s (mb_setF s 5 (nI (lr_br r))) from lf_fr.rf.setF ⟨by decide, by decide⟩).tr u3⟩
  rw [if_neg (fun z => c9 ((nI_eq (by omega) (by omega)).mp z)), if_neg c9]
  obtain ⟨u, u1, u2, u3⟩ := mM_plain_e hM hpo h hok ht0 (hu.1 (by omega))
  obtain ⟨s1, s2, s3, s4, s5⟩ := lr_plain_same (P := P) (r := r)
  have e15u : mb_I u 15 (lr_d r - 1) = nI (lr_tp r) := by
    have := (u2.2.2.2.2.1 (lr_d r - 1) (by rw [s1]; omega)).2
    rw [s3] at this
    exact this
  have hg := lr_M_go u2 (lr_tp r + 1)
  rw [s1] at hg
  rw [u1, me_cal, u2.1, s1, me_sub1 hd, me_ld (by omega) (by decide), e15u, nI_1, me_stI (by omega) (by decide)]
  exact ⟨_, rfl, hg, u3.setI ⟨by decide, by decide⟩⟩
end RS
