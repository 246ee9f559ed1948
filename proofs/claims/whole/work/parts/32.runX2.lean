section RX2
variable {P : lf_P} {q : lf_Q} {r : lf_R} {s : mb_S}
theorem mA_objectOf_e (h : lr_X r s) (hok : lr_ok P r) (hd : 0 < lr_d r) {x : Nat} (hx : x < 4) : mA_objectOf (nI x) s = some (lf_o (lr_tv r x).1, s) := by
  have hd6 := hok.1
  unfold mA_objectOf
  rw [h.1, me_sub1 hd, me_4r, me_ld (by omega) (by decide), h.2.2.2.2.2.1 _ (by omega)]
  show some ((nI (lr_pk (lr_tv r x)) >>> ((4 : Int32) &&& 31)) - 1, s) = _
  rw [lr_pk_obj (lr_ok_tv hok hd hx) hok.2.2.2.2.1]
theorem mA_calledMethod_e (hX : lf_X P q s) (hpo : lf_ok P q) (h : lr_X r s) (hok : lr_ok P r) (ht : lr_top P r) (c7 : lf_kd P (lr_tm r) (lr_tp r) = 7) : mA_calledMethod (nI (13 * lr_tm r + lr_tp r)) s = some (lf_o (match (lr_tv r (lf_b P (lr_tm r) (lr_tp r))).1 with
    | none => none
    | some o => lf_tgt q (lr_k r o) (lf_c P (lr_tm r) (lr_tp r) / 4)), s) := by
  obtain ⟨hd, hp⟩ := ht
  have hd6 := hok.1
  have hm : lr_tm r < 6 := (hok.2.1 (lr_d r - 1) (by omega)).1
  have hl := hpo.1 _ hm
  obtain ⟨a0, a1, a2, a3, a4⟩ := hX.2.1 _ hm _ hp
  obtain ⟨o1, o2, o3, o4, o5, o6⟩ := hpo.2.1 _ hm _ hp
  have hb := o4 (by omega)
  have hc := o6 c7
  have hn := hok.2.2.2.2.1
  unfold mA_calledMethod
  rw [me_ld (by omega) (by decide), a2, mA_objectOf_e h hok hd hb, me_cal]
  cases hv : (lr_tv r (lf_b P (lr_tm r) (lr_tp r))).1 with
  | none => rw [lf_o_none, if_pos rfl]
  | some o =>
    have hon := (lr_ok_tv hok hd hb).2 o hv
    have hk4 := hok.2.2.2.2.2.1 o hon
    rw [lf_o_some, if_neg (pu_ne (by omega)), me_ld (by omega) (by decide), h.2.2.2.2.2.2.1 o hon, me_ld (by omega) (by decide), a3, me_d4 (by omega), mP_targetOf_e hX hpo hk4 (show lf_c P (lr_tm r) (lr_tp r) / 4 < 3 by omega), me_cal]
theorem mA_ending_e (hX : lf_X P q s) (hpo : lf_ok P q) (h : lr_X r s) (hok : lr_ok P r) (hend : ¬ (0 < lr_d r ∧ lr_tp r = lf_len P (lr_tm r))) {L : Nat} (hL : L ≤ 200) (hs : lr_st r ≤ L) : mA_endingBeforeStep (nI L) s = some (nI (lr_out P q L r), s) := by
  have hd6 := hok.1
  have hn := hok.2.2.2.2.1
  unfold mA_endingBeforeStep lr_out mA_endingBeforeStep_b102 mA_endingBeforeStep_b125 mA_endingBeforeStep_b148 mA_endingBeforeStep_b174 mA_endingBeforeStep_b175
  rw [h.1]
  by_cases c : lr_d r = 0
  · rw [if_pos ((pu_eq0 (by omega)).mpr c), if_pos c]; rfl
  rw [if_neg (fun z => c ((pu_eq0 (by omega)).mp z)), if_neg c, h.2.2.1]
  by_cases c2 : lr_st r = L
  · rw [if_neg (fun z => absurd ((nI_ltI (by omega) (by omega)).mp z) (by omega)), if_pos c2]; rfl
  rw [if_pos ((nI_ltI (by omega) (by omega)).mpr (by omega)), if_neg c2]
  have hd : 0 < lr_d r := by omega
  have htp : lr_tp r ≤ lf_len P (lr_tm r) := (hok.2.1 (lr_d r - 1) (by omega)).2
  have hp : lr_tp r < lf_len P (lr_tm r) := by
    have : lr_tp r ≠ lf_len P (lr_tm r) := fun w => hend ⟨hd, w⟩
    omega
  have hm : lr_tm r < 6 := (hok.2.1 (lr_d r - 1) (by omega)).1
  have hl := hpo.1 _ hm
  obtain ⟨a0, a1, a2, a3, a4⟩ := hX.2.1 _ hm _ hp
  obtain ⟨o1, o2, o3, o4, o5, o6⟩ := hpo.2.1 _ hm _ hp
  have e19 : mb_I s 19 (lr_d r - 1) = nI (13 * lr_tm r + lr_tp r) := (h.2.2.2.2.1 (lr_d r - 1) (by omega)).2
  rw [me_sub1 hd, me_ld (by omega) (by decide), e19, me_ld (by omega) (by decide), a0]
  unfold lr_hind
  by_cases c0 : lf_kd P (lr_tm r) (lr_tp r) = 0
  · rw [if_pos ((pu_eq0 (by omega)).mpr c0), if_pos c0, h.2.1, pu_l12]
    by_cases e : lr_n r = 12
    · rw [if_pos ((nI_eq (by omega) (by omega)).mpr e), if_pos e]; rfl
    · rw [if_neg (fun z => e ((nI_eq (by omega) (by omega)).mp z)), if_neg e]; rfl
  rw [if_neg (fun z => c0 ((pu_eq0 (by omega)).mp z)), if_neg c0, pu_l5]
  by_cases c5 : lf_kd P (lr_tm r) (lr_tp r) = 5
  · have hb := o4 (by omega)
    rw [if_pos ((nI_eq (by omega) (by omega)).mpr c5), if_pos c5, me_ld (by omega) (by decide), a2, mA_objectOf_e h hok hd hb, me_cal]
    cases hv : (lr_tv r (lf_b P (lr_tm r) (lr_tp r))).1 with
    | none => rw [lf_o_none, if_pos rfl]; rfl
    | some o =>
      have := (lr_ok_tv hok hd hb).2 o hv
      rw [lf_o_some, if_neg (pu_ne (by omega))]; rfl
  rw [if_neg (fun z => c5 ((nI_eq (by omega) (by omega)).mp z)), if_neg c5, pu_l6]
  by_cases c6 : lf_kd P (lr_tm r) (lr_tp r) = 6
  · have ha : lf_a P (lr_tm r) (lr_tp r) < 4 := o3 (by omega)
    rw [if_pos ((nI_eq (by omega) (by omega)).mpr c6), if_pos c6, me_ld (by omega) (by decide), a1, mA_objectOf_e h hok hd ha, me_cal]
    cases hv : (lr_tv r (lf_a P (lr_tm r) (lr_tp r))).1 with
    | none => rw [lf_o_none, if_pos rfl]; rfl
    | some o =>
      have := (lr_ok_tv hok hd ha).2 o hv
      rw [lf_o_some, if_neg (pu_ne (by omega))]; rfl
  rw [if_neg (fun z => c6 ((nI_eq (by omega) (by omega)).mp z)), if_neg c6, pu_l7]
  by_cases c7 : lf_kd P (lr_tm r) (lr_tp r) = 7
  · have hb := o4 (by omega)
    have hc := o6 c7
    rw [if_pos ((nI_eq (by omega) (by omega)).mpr c7), if_pos c7, mA_calledMethod_e hX hpo h hok ⟨hd, hp⟩ c7, me_cal]
    cases hv : (lr_tv r (lf_b P (lr_tm r) (lr_tp r))).1 with
    | none =>
      show (if lf_o none = -1 then _ else _) = _
      rw [lf_o_none, if_pos rfl]; rfl
    | some o =>
      have hon := (lr_ok_tv hok hd hb).2 o hv
      have hk4 := hok.2.2.2.2.2.1 o hon
      show (if lf_o (lf_tgt q (lr_k r o) (lf_c P (lr_tm r) (lr_tp r) / 4)) = -1 then _ else _) = some (nI (match lf_tgt q (lr_k r o) (lf_c P (lr_tm r) (lr_tp r) / 4) with
        | none => 3
        | some _ => if lr_d r = 6 then 4 else 0), s)
      cases htg : lf_tgt q (lr_k r o) (lf_c P (lr_tm r) (lr_tp r) / 4) with
      | none => rw [lf_o_none, if_pos rfl]; rfl
      | some t =>
        have ht6 := lf_tgt_lt hpo hk4 (show lf_c P (lr_tm r) (lr_tp r) / 4 < 3 by omega) htg
        rw [lf_o_some, if_neg (pu_ne (by omega)), h.1]
        show _ = some (nI (if lr_d r = 6 then 4 else 0), s)
        by_cases e : lr_d r = 6
        · rw [if_pos ((nI_eq (by omega) (by omega)).mpr e), if_pos e]; rfl
        · rw [if_neg (fun z => e ((nI_eq (by omega) (by omega)).mp z)), if_neg e]; rfl
  rw [if_neg (fun z => c7 ((nI_eq (by omega) (by omega)).mp z)), if_neg c7]; rfl
theorem mA_endMethods_l (hpo : lf_ok P q) {s0 : mb_S} : ∀ (e i n : Nat) (r : lf_R) (s : mb_S), i + e = 6 → e < n → lf_X P q s → lr_X r s → lr_ok P r → lf_frX s0 s → ∃ s', mA_endMethods_l2 n (nI i) s = some ((), s') ∧ lr_X (lr_settle P e r) s' ∧ lf_frX s0 s' := by
  intro e
  induction e with
  | zero =>
    intro i n r s hi hn hX h hok hf
    obtain ⟨n, rfl⟩ : ∃ z, n = z + 1 := ⟨n - 1, by omega⟩
    rw [mA_endMethods_l2_s, pu_l6, if_pos ((nI_leI (by omega) (by omega)).mpr (by omega))]
    exact ⟨s, rfl, h, hf⟩
  | succ e ih =>
    intro i n r s hi hn hX h hok hf
    obtain ⟨n, rfl⟩ : ∃ z, n = z + 1 := ⟨n - 1, by omega⟩
    have hd6 := hok.1
    unfold lr_settle
    rw [mA_endMethods_l2_s, pu_l6, if_neg (fun z => absurd ((nI_leI (a := 6) (b := i) (by omega) (by omega)).mp z) (by omega)), h.1]
    unfold mA_endMethods_b33
    by_cases c : lr_d r = 0
    · rw [if_pos (by rw [c]; decide), if_neg (fun z => by omega)]
      exact ⟨s, rfl, h, hf⟩
    have hd : 0 < lr_d r := by omega
    have e18 : mb_I s 18 (lr_d r - 1) = nI (lr_tm r) := (h.2.2.2.2.1 (lr_d r - 1) (by omega)).1
    have e19 : mb_I s 19 (lr_d r - 1) = nI (13 * lr_tm r + lr_tp r) := (h.2.2.2.2.1 (lr_d r - 1) (by omega)).2
    have hm : lr_tm r < 6 := (hok.2.1 (lr_d r - 1) (by omega)).1
    have hl := hpo.1 _ hm
    have hpl : lr_tp r ≤ lf_len P (lr_tm r) := (hok.2.1 (lr_d r - 1) (by omega)).2
    have hs : mA_standsAtEnd s = some (if lr_tp r = lf_len P (lr_tm r) then 1 else 0, s) := by
      unfold mA_standsAtEnd mA_standsAtEnd_b45
      rw [h.1, me_sub1 hd, me_ld (by omega) (by decide), e18, me_ld (by omega) (by decide), e19, me_ld hm (by decide), hX.1 _ hm, me_13]
      by_cases c2 : lr_tp r = lf_len P (lr_tm r)
      · rw [if_pos ((nI_eq (by omega) (by omega)).mpr (by omega)), if_pos c2, me_rZ1]
      · rw [if_neg (fun z => c2 (by have := (nI_eq (by omega) (by omega)).mp z; omega)), if_neg c2, me_rZ0]
    rw [if_neg (nI_nle hd (by omega)), hs, me_cal]
    by_cases c2 : lr_tp r = lf_len P (lr_tm r)
    · rw [if_pos c2, if_neg me_10, if_pos ⟨hd, c2⟩]
      obtain ⟨t, t1, t2, t3⟩ := mA_endMethod_e hX hpo h hok hd (none, 0)
      rw [show mA_endMethod 0 s = some ((), t) from t1, me_cal, me_bnd, nI_1]
      exact ih (i + 1) n _ t (by omega) (by omega) (t3.X hX) t2 (lr_ok_leave hok hd (lr_vok0 r)) (hf.tr t3)
    · rw [if_neg c2, if_pos rfl, if_neg (fun z => c2 z.2)]
      exact ⟨s, rfl, h, hf⟩
theorem mA_countHits_l {lab tt k : Nat} (htt : tt < 4) (hk : k < 208) (hlab : k % 16 = lab) {hit : Nat → Nat} : ∀ (e i n : Nat) (s : mb_S), i + e = 4 → e < n → (∀ j, j < 16 → mb_I s 23 j = nI (if j % 4 = tt ∧ j / 4 < i then hit j + lab / 2 ^ (j / 4) % 2 else hit j)) → (∃ u, mA_countHits_l2 n (nI tt) (nI k) (nI i) s = some ((), u) ∧ (∀ j, j < 16 → mb_I u 23 j = nI (if j % 4 = tt ∧ j / 4 < 4 then hit j + lab / 2 ^ (j / 4) % 2 else hit j)) ∧ lf_fr (fun _ => False) (fun k => k = 23) (fun _ => False) s u) := by
  intro e
  induction e with
  | zero =>
    intro i n s hi hn hh
    obtain ⟨n, rfl⟩ : ∃ z, n = z + 1 := ⟨n - 1, by omega⟩
    rw [mA_countHits_l2_s, pu_l4, if_pos ((nI_leI (by omega) (by omega)).mpr (by omega))]
    rw [show i = 4 by omega] at hh
    exact ⟨s, rfl, hh, lf_fr.rf⟩
  | succ e ih =>
    intro i n s hi hn hh
    obtain ⟨n, rfl⟩ : ∃ z, n = z + 1 := ⟨n - 1, by omega⟩
    rw [mA_countHits_l2_s, pu_l4, if_neg (fun z => absurd ((nI_leI (a := 4) (b := i) (by omega) (by omega)).mp z) (by omega)), mX_has_e _ (show i < 32 by omega), me_cal0, lx_bit k hk i (by omega), hlab]
    unfold mA_countHits_b29
    by_cases cb : lab / 2 ^ i % 2 = 1
    · rw [if_pos (decide_eq_true cb), if_neg me_10, ← pu_l4, me_4r, me_ld (by omega) (by decide), hh (4 * i + tt) (by omega), if_neg (by omega), nI_1, me_stI (by omega) (by decide), me_bnd, nI_1]
      obtain ⟨u, e1, e2, e3⟩ := ih (i + 1) n (mb_setI s 23 (4 * i + tt) (nI (hit (4 * i + tt) + 1))) (by omega) (by omega) (fun j hj => by
        show upd (mb_I s 23) (4 * i + tt) (nI (hit (4 * i + tt) + 1)) j = _
        rw [pu_upd]
        by_cases c : j = 4 * i + tt
        · subst c
          rw [if_pos rfl, if_pos (by omega), show (4 * i + tt) / 4 = i by omega, cb]
        · rw [if_neg c, hh j hj]
          by_cases c2 : j % 4 = tt ∧ j / 4 < i
          · rw [if_pos c2, if_pos (by omega)]
          · rw [if_neg c2, if_neg (by omega)])
      exact ⟨u, e1, e2, (show lf_fr (fun _ => False) (fun k => k = 23) (fun _ => False) s (mb_setI s 23 (4 * i + tt) (nI (hit (4 * i + tt) + 1))) from lf_fr.setI lf_fr.rf rfl).tr e3⟩
    · rw [decide_eq_false cb, if_neg (show ¬ false = true by decide), if_pos rfl, me_bnd, nI_1]
      refine ih (i + 1) n s (by omega) (by omega) (fun j hj => ?_)
      rw [hh j hj]
      by_cases c2 : j % 4 = tt ∧ j / 4 < i
      · rw [if_pos c2, if_pos (by omega)]
      · rw [if_neg c2]
        by_cases c3 : j % 4 = tt ∧ j / 4 < i + 1
        · rw [if_pos c3, show j / 4 = i by omega, show lab / 2 ^ i % 2 = 0 by omega, Nat.add_zero]
        · rw [if_neg c3]
end RX2
