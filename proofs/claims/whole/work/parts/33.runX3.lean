section RX3
variable {P : lf_P} {q : lf_Q} {r : lf_R} {s : mb_S}
theorem mA_change_e (hX : lf_X P q s) (hpo : lf_ok P q) (h : lr_X r s) (hok : lr_ok P r) (ht : lr_top P r) (hpl : lr_pln P r) : ∃ s', mA_changeValues (nI (13 * lr_tm r + lr_tp r)) (nI (4 * (lr_d r - 1))) (nI (lf_a P (lr_tm r) (lr_tp r))) s = some ((), s') ∧ lr_X (lr_plain P r) s' ∧ lf_frX s s' := by
  obtain ⟨hd, hp⟩ := ht
  obtain ⟨p6, p0, p5, p6'⟩ := hpl
  have hd6 := hok.1
  have hm : lr_tm r < 6 := (hok.2.1 (lr_d r - 1) (by omega)).1
  have hl := hpo.1 _ hm
  obtain ⟨a0, a1, a2, a3, a4⟩ := hX.2.1 _ hm _ hp
  obtain ⟨o1, o2, o3, o4, o5, o6⟩ := hpo.2.1 _ hm _ hp
  have hn := hok.2.2.2.2.1
  have ha : lf_a P (lr_tm r) (lr_tp r) < 4 := o3 (by omega)
  have hval : ∀ x, x < 4 → mb_I s 20 (4 * (lr_d r - 1) + x) = nI (lr_pk (lr_tv r x)) := fun x hx => h.2.2.2.2.2.1 _ (by omega)
  unfold mA_changeValues mA_changeValues_b238
  rw [me_ld (by omega) (by decide), a2, me_ld (by omega) (by decide), a3, me_ld (by omega) (by decide), a0]
  unfold lr_plain
  by_cases c0 : lf_kd P (lr_tm r) (lr_tp r) = 0
  · have hn12 := p0 c0
    rw [if_pos ((pu_eq0 (by omega)).mpr c0), if_pos c0]
    unfold mA_makeObject
    rw [h.2.1, me_stI hn12 (by decide), show mb_F (mb_setI s 21 (lr_n r) (nI (lf_b P (lr_tm r) (lr_tp r)))) 9 = mb_F s 9 from rfl, h.2.1, me_2ro, me_stI (by omega) (by decide)]
    rw [show ∀ (j : Nat) (v : Int32), mb_F (mb_setI (mb_setI s 21 (lr_n r) (nI (lf_b P (lr_tm r) (lr_tp r)))) 22 j v) 9 = mb_F s 9 from fun _ _ => rfl, h.2.1, me_2ro, nI_1, me_stI (by omega) (by decide), me_putF]
    rw [show ∀ (j k : Nat) (v w : Int32), mb_F (mb_setI (mb_setI (mb_setI s 21 (lr_n r) (nI (lf_b P (lr_tm r) (lr_tp r)))) 22 j v) 22 k w) 9 = mb_F s 9 from fun _ _ _ _ => rfl, h.2.1, nI_1]
    rw [show ∀ (u : mb_S) (v : Int32), mb_F (mb_setF u 9 v) 9 = v from fun _ _ => rfl, lx_shl _ (by omega), me_cal, nI_add, me_stI (by omega) (by decide)]
    refine ⟨_, rfl, ?_, ?_⟩
    · obtain ⟨h1, h2, h3, h4, h5, h6, h7, h8, h9⟩ := h
      refine ⟨h1, rfl, h3, h4, h5, fun j hj => ?_, fun o ho => ?_, fun j hj => ?_, h9⟩
      · show upd (mb_I s 20) (4 * (lr_d r - 1) + lf_a P (lr_tm r) (lr_tp r)) (nI (16 * (lr_n r + 1))) j = nI (lr_pk (va_up (lr_v r) (4 * (lr_d r - 1) + lf_a P (lr_tm r) (lr_tp r)) (some (lr_n r), 0) j))
        rw [pu_upd, va_up_e]
        by_cases e : j = 4 * (lr_d r - 1) + lf_a P (lr_tm r) (lr_tp r)
        · rw [if_pos e, if_pos e]; rfl
        · rw [if_neg e, if_neg e]; exact h6 j hj
      · have ho' : o < lr_n r + 1 := ho
        show upd (mb_I s 21) (lr_n r) (nI (lf_b P (lr_tm r) (lr_tp r))) o = nI (va_up (lr_k r) (lr_n r) (lf_b P (lr_tm r) (lr_tp r)) o)
        rw [pu_upd, va_up_e]
        by_cases e : o = lr_n r
        · rw [if_pos e, if_pos e]
        · rw [if_neg e, if_neg e]; exact h7 o (by omega)
      · have hj' : j < 2 * (lr_n r + 1) := hj
        show upd (upd (mb_I s 22) (2 * lr_n r) 0) (2 * lr_n r + 1) 0 j = nI (lr_pk (va_up (va_up (lr_h r) (2 * lr_n r) (none, 0)) (2 * lr_n r + 1) (none, 0) j))
        simp only [pu_upd, va_up_e]
        by_cases e : j = 2 * lr_n r + 1
        · rw [if_pos e, if_pos e]; rfl
        · rw [if_neg e, if_neg e]
          by_cases e2 : j = 2 * lr_n r
          · rw [if_pos e2, if_pos e2]; rfl
          · rw [if_neg e2, if_neg e2]; exact h8 j (by omega)
    · exact ((((lf_fr.rf.setI ⟨by decide, by decide⟩).setI ⟨by decide, by decide⟩).setI ⟨by decide, by decide⟩).setF (Or.inr (Or.inr (Or.inr rfl)))).setI ⟨by decide, by decide⟩
  rw [if_neg (fun z => c0 ((pu_eq0 (by omega)).mp z)), if_neg c0]
  by_cases c1 : lf_kd P (lr_tm r) (lr_tp r) = 1
  · have hb := lf_bef_lt P hm hp
    rw [c1] at hb a4
    have h4 := hpo.2.2.2.1
    rw [if_pos ((pu_eq1 (by omega)).mpr c1), if_pos c1, me_ld (by omega) (by decide), a4, me_pow _ (by omega), nI_add, me_stI (by omega) (by decide)]
    exact ⟨_, rfl, lr_X_put h _ (none, 2 ^ lf_bef P 1 (lr_tm r) (lr_tp r)), lf_fr.rf.setI ⟨by decide, by decide⟩⟩
  rw [if_neg (fun z => c1 ((pu_eq1 (by omega)).mp z)), if_neg c1, pu_l2]
  by_cases c2 : lf_kd P (lr_tm r) (lr_tp r) = 2
  · have hb := lf_bef_lt P hm hp
    rw [c2] at hb a4
    have h4 := hpo.2.2.2.2.1
    rw [if_pos ((nI_eq (by omega) (by omega)).mpr c2), if_pos c2, me_ld (by omega) (by decide), a4, nI_add, me_ld (by omega) (by decide), hval _ ha]
    unfold mA_countHits
    rw [← nI_0]
    obtain ⟨u, e1, e2, e3⟩ := mA_countHits_l (lab := (lr_tv r (lf_a P (lr_tm r) (lr_tp r))).2) (tt := lf_bef P 2 (lr_tm r) (lr_tp r)) (k := lr_pk (lr_tv r (lf_a P (lr_tm r) (lr_tp r)))) (by omega) (lr_pk_lt (lr_ok_tv hok hd ha) hn) (lr_pk_mod (lr_ok_tv hok hd ha)) (hit := lr_hit r) 4 0 mb_fuel s rfl (by unfold mb_fuel; omega) (fun j hj => by rw [if_neg (by omega)]; exact h.2.2.2.2.2.2.2.2 j hj)
    rw [e1, me_cal]
    obtain ⟨h1, h2, h3, h4, h5, h6, h7, h8, h9⟩ := h
    refine ⟨u, rfl, ⟨(e3.1 5 (fun z => z)).trans h1, (e3.1 9 (fun z => z)).trans h2, (e3.1 8 (fun z => z)).trans h3, (e3.1 7 (fun z => z)).trans h4, fun i hi => ?_, fun j hj => ?_, fun o ho => ?_, fun j hj => ?_, fun j hj => ?_⟩, e3.wk (fun _ z => z.elim) (fun k z => by rw [z]; exact ⟨by decide, by decide⟩) (fun _ z => z)⟩
    · rw [e3.2.1 18 (by decide), e3.2.1 19 (by decide)]; exact h5 i hi
    · rw [e3.2.1 20 (by decide)]; exact h6 j hj
    · rw [e3.2.1 21 (by decide)]; exact h7 o ho
    · rw [e3.2.1 22 (by decide)]; exact h8 j hj
    · rw [e2 j hj]
      show _ = nI (if j % 4 = lf_bef P 2 (lr_tm r) (lr_tp r) ∧ j < 16 then lr_hit r j + (lr_tv r (lf_a P (lr_tm r) (lr_tp r))).2 / 2 ^ (j / 4) % 2 else lr_hit r j)
      by_cases c : j % 4 = lf_bef P 2 (lr_tm r) (lr_tp r)
      · rw [if_pos ⟨c, by omega⟩, if_pos ⟨c, hj⟩]
      · rw [if_neg (fun z => c z.1), if_neg (fun z => c z.1)]
  rw [if_neg (fun z => c2 ((nI_eq (by omega) (by omega)).mp z)), if_neg c2, pu_l3]
  by_cases c3 : lf_kd P (lr_tm r) (lr_tp r) = 3
  · rw [if_pos ((nI_eq (by omega) (by omega)).mpr c3), if_pos c3, nI_add, me_ld (by omega) (by decide), hval _ ha, me_stI (by omega) (by decide), lx_cln _ (lr_pk_lt (lr_ok_tv hok hd ha) hn), lr_pk_cln (lr_ok_tv hok hd ha)]
    exact ⟨_, rfl, lr_X_put h _ ((lr_tv r (lf_a P (lr_tm r) (lr_tp r))).1, 0), lf_fr.rf.setI ⟨by decide, by decide⟩⟩
  rw [if_neg (fun z => c3 ((nI_eq (by omega) (by omega)).mp z)), if_neg c3, pu_l4]
  have hb : lf_b P (lr_tm r) (lr_tp r) < 4 := o4 (by omega)
  by_cases c4 : lf_kd P (lr_tm r) (lr_tp r) = 4
  · rw [if_pos ((nI_eq (by omega) (by omega)).mpr c4), if_pos c4, nI_add, me_ld (by omega) (by decide), hval _ hb, nI_add, me_stI (by omega) (by decide)]
    exact ⟨_, rfl, lr_X_put h _ (lr_tv r (lf_b P (lr_tm r) (lr_tp r))), lf_fr.rf.setI ⟨by decide, by decide⟩⟩
  rw [if_neg (fun z => c4 ((nI_eq (by omega) (by omega)).mp z)), if_neg c4, pu_l5]
  have hc : lf_c P (lr_tm r) (lr_tp r) < 2 := o5 (by omega)
  by_cases c5 : lf_kd P (lr_tm r) (lr_tp r) = 5
  · obtain ⟨o, ho⟩ := p5 c5
    have hon := (lr_ok_tv hok hd hb).2 o ho
    have hfv := hok.2.2.2.2.2.2.1 (2 * o + lf_c P (lr_tm r) (lr_tp r)) (by omega)
    rw [if_pos ((nI_eq (by omega) (by omega)).mpr c5), if_pos c5, mA_objectOf_e h hok hd hb, me_cal, ho, lf_o_some, pk_mul, nI_add, Nat.mul_comm o 2, me_ld (by omega) (by decide), h.2.2.2.2.2.2.2.1 _ (by omega), nI_add, me_ld (by omega) (by decide), hval _ hb, lx_lab _ (lr_pk_lt (lr_ok_tv hok hd hb) hn), lr_pk_mod (lr_ok_tv hok hd hb), me_or, lr_pk_or (r := r) hfv hn (lr_ok_tv hok hd hb).1, nI_add, me_stI (by omega) (by decide)]
    exact ⟨_, rfl, lr_X_put h _ ((lr_h r (2 * o + lf_c P (lr_tm r) (lr_tp r))).1, (lr_h r (2 * o + lf_c P (lr_tm r) (lr_tp r))).2 ||| (lr_tv r (lf_b P (lr_tm r) (lr_tp r))).2), lf_fr.rf.setI ⟨by decide, by decide⟩⟩
  rw [if_neg (fun z => c5 ((nI_eq (by omega) (by omega)).mp z)), if_neg c5, pu_l6]
  have c6 : lf_kd P (lr_tm r) (lr_tp r) = 6 := by omega
  obtain ⟨o, ho⟩ := p6' c6
  have hon := (lr_ok_tv hok hd ha).2 o ho
  rw [if_pos ((nI_eq (by omega) (by omega)).mpr c6), mA_objectOf_e h hok hd ha, me_cal, ho, lf_o_some, nI_add, me_ld (by omega) (by decide), hval _ hb, pk_mul, nI_add, Nat.mul_comm o 2, me_stI (by omega) (by decide)]
  refine ⟨_, rfl, ?_, lf_fr.rf.setI ⟨by decide, by decide⟩⟩
  obtain ⟨h1, h2, h3, h4, h5, h6, h7, h8, h9⟩ := h
  refine ⟨h1, h2, h3, h4, h5, h6, h7, fun j hj => ?_, h9⟩
  show upd (mb_I s 22) (2 * o + lf_c P (lr_tm r) (lr_tp r)) (nI (lr_pk (lr_tv r (lf_b P (lr_tm r) (lr_tp r))))) j = nI (lr_pk (va_up (lr_h r) (2 * o + lf_c P (lr_tm r) (lr_tp r)) (lr_tv r (lf_b P (lr_tm r) (lr_tp r))) j))
  rw [pu_upd, va_up_e]
  by_cases e : j = 2 * o + lf_c P (lr_tm r) (lr_tp r)
  · rw [if_pos e, if_pos e]
  · rw [if_neg e, if_neg e]; exact h8 j hj
theorem lr_X_st (h : lr_X r s) (st : Nat) : lr_X (lr_sst r st) (mb_setF s 8 (nI st)) := by
  obtain ⟨h1, h2, h3, h4, h5, h6, h7, h8, h9⟩ := h
  exact ⟨h1, h2, rfl, h4, h5, h6, h7, h8, h9⟩
theorem lr_X_br (h : lr_X r s) (b : Nat) : lr_X (lr_sbr r b) (mb_setF s 7 (nI b)) := by
  obtain ⟨h1, h2, h3, h4, h5, h6, h7, h8, h9⟩ := h
  exact ⟨h1, h2, h3, rfl, h5, h6, h7, h8, h9⟩
theorem lr_plain_sst (x : Nat) : lr_plain P (lr_sst r x) = lr_sst (lr_plain P r) x := by
  unfold lr_plain
  show (if lf_kd P (lr_tm r) (lr_tp r) = 0 then _ else _) = _
  by_cases c0 : lf_kd P (lr_tm r) (lr_tp r) = 0
  · rw [if_pos c0, if_pos c0]; rfl
  rw [if_neg c0, if_neg c0]
  show (if lf_kd P (lr_tm r) (lr_tp r) = 1 then _ else _) = _
  by_cases c1 : lf_kd P (lr_tm r) (lr_tp r) = 1
  · rw [if_pos c1, if_pos c1]; rfl
  rw [if_neg c1, if_neg c1]
  show (if lf_kd P (lr_tm r) (lr_tp r) = 2 then _ else _) = _
  by_cases c2 : lf_kd P (lr_tm r) (lr_tp r) = 2
  · rw [if_pos c2, if_pos c2]; rfl
  rw [if_neg c2, if_neg c2]
  show (if lf_kd P (lr_tm r) (lr_tp r) = 3 then _ else _) = _
  by_cases c3 : lf_kd P (lr_tm r) (lr_tp r) = 3
  · rw [if_pos c3, if_pos c3]; rfl
  rw [if_neg c3, if_neg c3]
  show (if lf_kd P (lr_tm r) (lr_tp r) = 4 then _ else _) = _
  by_cases c4 : lf_kd P (lr_tm r) (lr_tp r) = 4
  · rw [if_pos c4, if_pos c4]; rfl
  rw [if_neg c4, if_neg c4]
  show (if lf_kd P (lr_tm r) (lr_tp r) = 5 then _ else _) = _
  by_cases c5 : lf_kd P (lr_tm r) (lr_tp r) = 5
  · rw [if_pos c5, if_pos c5]
    show (match (lr_tv r (lf_b P (lr_tm r) (lr_tp r))).1 with
      | none => _
      | some o => _) = _
    cases (lr_tv r (lf_b P (lr_tm r) (lr_tp r))).1 with
    | none => rfl
    | some o => rfl
  rw [if_neg c5, if_neg c5]
  show (match (lr_tv r (lf_a P (lr_tm r) (lr_tp r))).1 with
    | none => _
    | some o => _) = _
  cases (lr_tv r (lf_a P (lr_tm r) (lr_tp r))).1 with
  | none => rfl
  | some o => rfl
end RX3
