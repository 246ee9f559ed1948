section RM2
variable {P : lf_P} {q : lf_Q} {r : lf_R} {s : mb_S}
def lr_top (P : lf_P) (r : lf_R) : Prop := 0 < lr_d r ∧ lr_tp r < lf_len P (lr_tm r)
theorem mM_hindrance_e (hM : lf_M P q s) (hpo : lf_ok P q) (h : lr_M r s) (hok : lr_ok P r) (ht : lr_top P r) : mM_hindrance s = some (nI (lr_hind P q r), s) := by
  obtain ⟨hd, hp⟩ := ht
  have hd6 := hok.1
  have hm : lr_tm r < 6 := (hok.2.1 (lr_d r - 1) (by omega)).1
  have hl := hpo.1 _ hm
  obtain ⟨a1, a2, a3, a4⟩ := hM.2.1 _ hm _ hp
  obtain ⟨o1, o2, o3, o4, o5, o6⟩ := hpo.2.1 _ hm _ hp
  have e14 : mb_I s 14 (lr_d r - 1) = nI (lr_tm r) := (h.2.2.2.2.1 (lr_d r - 1) (by omega)).1
  have e15 : mb_I s 15 (lr_d r - 1) = nI (lr_tp r) := (h.2.2.2.2.1 (lr_d r - 1) (by omega)).2
  have hn := hok.2.2.2.2.1
  unfold mM_hindrance mM_hindrance_b61 mM_hindrance_b73
  rw [h.1, me_sub1 hd, me_ld (by omega) (by decide), me_ld (by omega) (by decide), e14, e15, me_bnd, me_12, me_ld (by omega) (by decide), a1, me_bnd, me_4o, me_ld (by omega) (by decide), me_ld (by omega) (by decide), a2, a3, h.2.1]
  unfold lr_hind
  by_cases c0 : lf_kd P (lr_tm r) (lr_tp r) = 0
  · rw [if_pos ((pu_eq0 (by omega)).mpr c0), if_pos c0, pu_l12]
    by_cases c : lr_n r = 12
    · rw [if_pos ((nI_eq (by omega) (by omega)).mpr c), if_pos c]; rfl
    · rw [if_neg (fun z => c ((nI_eq (by omega) (by omega)).mp z)), if_neg c]; rfl
  · rw [if_neg (fun z => c0 ((pu_eq0 (by omega)).mp z)), if_neg c0, pu_l5, pu_l7, pu_l6]
    by_cases c5 : lf_kd P (lr_tm r) (lr_tp r) < 5
    · rw [if_pos ((nI_ltI (by omega) (by omega)).mpr c5), if_neg (by omega), if_neg (by omega), if_neg (by omega)]; rfl
    · rw [if_neg (fun z => c5 ((nI_ltI (by omega) (by omega)).mp z))]
      by_cases c7 : lf_kd P (lr_tm r) (lr_tp r) ≤ 7
      · rw [if_pos ((nI_leI (by omega) (by omega)).mpr c7)]
        unfold mM_hindrance_b101 mM_hindrance_b138 mM_hindrance_b140 mM_hindrance_b159 mM_hindrance_b160
        by_cases c6 : lf_kd P (lr_tm r) (lr_tp r) = 6
        · rw [if_pos ((nI_eq (by omega) (by omega)).mpr c6), if_neg (show ¬ lf_kd P (lr_tm r) (lr_tp r) = 5 by omega), if_pos c6, nI_add]
          have ha : lf_a P (lr_tm r) (lr_tp r) < 4 := o3 (by omega)
          have e16 := (h.2.2.2.2.2.1 (4 * (lr_d r - 1) + lf_a P (lr_tm r) (lr_tp r)) (by omega)).1
          have hv := (hok.2.2.2.1 (4 * (lr_d r - 1) + lf_a P (lr_tm r) (lr_tp r)) (by omega)).2
          rw [me_ld (by omega) (by decide), e16]
          show _ = some (nI (match (lr_v r (4 * (lr_d r - 1) + lf_a P (lr_tm r) (lr_tp r))).1 with
            | none => 3
            | some _ => 0), s)
          cases hv1 : (lr_v r (4 * (lr_d r - 1) + lf_a P (lr_tm r) (lr_tp r))).1 with
          | none => rw [lf_o_none, if_pos (by decide)]; rfl
          | some o =>
            have := hv o hv1
            rw [lf_o_some, if_neg (nI_pos (by omega)), pu_l7, if_neg (fun z => absurd ((nI_eq (by omega) (by omega)).mp z) (by omega)), if_neg (fun z => absurd ((nI_eq (by omega) (by omega)).mp z) (by omega))]; rfl
        · rw [if_neg (fun z => c6 ((nI_eq (by omega) (by omega)).mp z)), nI_add]
          have hb : lf_b P (lr_tm r) (lr_tp r) < 4 := o4 (by omega)
          have e16 := (h.2.2.2.2.2.1 (4 * (lr_d r - 1) + lf_b P (lr_tm r) (lr_tp r)) (by omega)).1
          have hv := (hok.2.2.2.1 (4 * (lr_d r - 1) + lf_b P (lr_tm r) (lr_tp r)) (by omega)).2
          rw [me_ld (by omega) (by decide), e16]
          by_cases c5' : lf_kd P (lr_tm r) (lr_tp r) = 5
          · rw [if_pos c5']
            show _ = some (nI (match (lr_v r (4 * (lr_d r - 1) + lf_b P (lr_tm r) (lr_tp r))).1 with
              | none => 3
              | some _ => 0), s)
            cases hv1 : (lr_v r (4 * (lr_d r - 1) + lf_b P (lr_tm r) (lr_tp r))).1 with
            | none => rw [lf_o_none, if_pos (by decide)]; rfl
            | some o =>
              have := hv o hv1
              rw [lf_o_some, if_neg (nI_pos (by omega)), pu_l7, if_neg (fun z => absurd ((nI_eq (by omega) (by omega)).mp z) (by omega)), if_neg (fun z => absurd ((nI_eq (by omega) (by omega)).mp z) (by omega))]; rfl
          · have c7' : lf_kd P (lr_tm r) (lr_tp r) = 7 := by omega
            rw [if_neg c5', if_neg c6, if_pos c7']
            show _ = some (nI (match (lr_v r (4 * (lr_d r - 1) + lf_b P (lr_tm r) (lr_tp r))).1 with
              | none => 3
              | some o => match lf_tgt q (lr_k r o) (lf_c P (lr_tm r) (lr_tp r) / 4) with
                | none => 3
                | some _ => if lr_d r = 6 then 4 else 0), s)
            cases hv1 : (lr_v r (4 * (lr_d r - 1) + lf_b P (lr_tm r) (lr_tp r))).1 with
            | none => rw [lf_o_none, if_pos (by decide)]; rfl
            | some o =>
              have ho := hv o hv1
              have hk4 := hok.2.2.2.2.2.1 o ho
              have hc12 := o6 c7'
              rw [lf_o_some, if_neg (nI_pos (by omega)), pu_l7, if_pos ((nI_eq (by omega) (by omega)).mpr c7'), me_ld (by omega) (by decide), h.2.2.2.2.2.2.1 o ho, me_ld (by omega) (by decide), a4, me_d4 (by omega), mM_target_e hM hpo hk4 (show lf_c P (lr_tm r) (lr_tp r) / 4 < 3 by omega), me_cal]
              show _ = some (nI (match lf_tgt q (lr_k r o) (lf_c P (lr_tm r) (lr_tp r) / 4) with
                | none => 3
                | some _ => if lr_d r = 6 then 4 else 0), s)
              cases htg : lf_tgt q (lr_k r o) (lf_c P (lr_tm r) (lr_tp r) / 4) with
              | none => rw [lf_o_none, if_neg (by decide)]; rfl
              | some t =>
                have ht6 := lf_tgt_lt hpo hk4 (show lf_c P (lr_tm r) (lr_tp r) / 4 < 3 by omega) htg
                rw [lf_o_some, if_pos (nI_pos' (by omega)), if_pos ((nI_eq (by omega) (by omega)).mpr c7'), h.1, pu_l6]
                by_cases c : lr_d r = 6
                · rw [if_pos ((nI_eq (by omega) (by omega)).mpr c)]
                  show _ = some (nI (if lr_d r = 6 then 4 else 0), s)
                  rw [if_pos c]; rfl
                · rw [if_neg (fun z => c ((nI_eq (by omega) (by omega)).mp z))]
                  show _ = some (nI (if lr_d r = 6 then 4 else 0), s)
                  rw [if_neg c]; rfl
      · rw [if_neg (fun z => c7 ((nI_leI (by omega) (by omega)).mp z)), if_neg (by omega), if_neg (by omega), if_neg (by omega)]; rfl
end RM2
