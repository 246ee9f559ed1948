theorem me_or (a b : Nat) : nI a ||| nI b = nI (a ||| b) := by
  apply Int32.toBitVec_inj.1
  show BitVec.ofNat 32 a ||| BitVec.ofNat 32 b = BitVec.ofNat 32 (a ||| b)
  apply BitVec.eq_of_getLsbD_eq
  intro i hi
  simp [hi]
theorem me_pow : ∀ b, b < 4 → (1 : Int32) <<< (nI b &&& 31) = nI (2 ^ b) := by decide +kernel
theorem me_bit : ∀ l, l < 16 → ∀ i, i < 4 → (nI l >>> (nI i &&& 31)) &&& 1 = nI (l / 2 ^ i % 2) := by decide +kernel
section RM3
variable {P : lf_P} {q : lf_Q} {r : lf_R} {s : mb_S}
def lr_pln (P : lf_P) (r : lf_R) : Prop := lf_kd P (lr_tm r) (lr_tp r) ≤ 6 ∧ (lf_kd P (lr_tm r) (lr_tp r) = 0 → lr_n r < 12) ∧ (lf_kd P (lr_tm r) (lr_tp r) = 5 → ∃ o, (lr_tv r (lf_b P (lr_tm r) (lr_tp r))).1 = some o) ∧ (lf_kd P (lr_tm r) (lr_tp r) = 6 → ∃ o, (lr_tv r (lf_a P (lr_tm r) (lr_tp r))).1 = some o)
theorem mM_plain_hits {x t lab d : Nat} (hd : x + t < 24) {tt : Nat} (htt : tt < 4) (hlab : lab < 16) {hit : Nat → Nat} : ∀ (e i n : Nat) (s : mb_S), i + e = 4 → e < n → mb_I s 17 (x + t) = nI lab → (∀ j, j < 16 → mb_I s 13 j = nI (if j % 4 = tt ∧ j / 4 < i then hit j + lab / 2 ^ (j / 4) % 2 else hit j)) → (∃ u, mM_plain_l164 n (nI x) (nI t) (nI tt) (nI i) s = some ((), u) ∧ (∀ j, j < 16 → mb_I u 13 j = nI (if j % 4 = tt ∧ j / 4 < 4 then hit j + lab / 2 ^ (j / 4) % 2 else hit j)) ∧ lf_fr (fun _ => False) (fun k => k = 13) (fun _ => False) s u) := by
  intro e
  induction e with
  | zero =>
    intro i n s hi hn h17 hh
    obtain ⟨n, rfl⟩ : ∃ z, n = z + 1 := ⟨n - 1, by omega⟩
    rw [mM_plain_l164_s, pu_l4, if_pos ((nI_leI (by omega) (by omega)).mpr (by omega))]
    rw [show i = 4 by omega] at hh
    exact ⟨s, rfl, hh, lf_fr.rf⟩
  | succ e ih =>
    intro i n s hi hn h17 hh
    obtain ⟨n, rfl⟩ : ∃ z, n = z + 1 := ⟨n - 1, by omega⟩
    rw [mM_plain_l164_s, pu_l4, if_neg (fun z => absurd ((nI_leI (a := 4) (b := i) (by omega) (by omega)).mp z) (by omega)), ← pu_l4, me_4, me_ld (by omega) (by decide), hh (4 * i + tt) (by omega), if_neg (by omega), nI_add, me_ld hd (by decide), h17, me_bit lab hlab i (by omega), nI_add, me_stI (by omega) (by decide), me_bnd, nI_1]
    obtain ⟨u, e1, e2, e3⟩ := ih (i + 1) n (mb_setI s 13 (4 * i + tt) (nI (hit (4 * i + tt) + lab / 2 ^ i % 2))) (by omega) (by omega) h17 (fun j hj => by
      show upd (mb_I s 13) (4 * i + tt) (nI (hit (4 * i + tt) + lab / 2 ^ i % 2)) j = _
      rw [pu_upd]
      by_cases c : j = 4 * i + tt
      · subst c
        rw [if_pos rfl, if_pos (by omega), show (4 * i + tt) / 4 = i by omega]
      · rw [if_neg c, hh j hj]
        by_cases c2 : j % 4 = tt ∧ j / 4 < i
        · rw [if_pos c2, if_pos (by omega)]
        · rw [if_neg c2, if_neg (by omega)])
    exact ⟨u, e1, e2, (show lf_fr (fun _ => False) (fun k => k = 13) (fun _ => False) s (mb_setI s 13 (4 * i + tt) (nI (hit (4 * i + tt) + lab / 2 ^ i % 2))) from lf_fr.setI lf_fr.rf rfl).tr e3⟩
theorem mM_plain_e (hM : lf_M P q s) (hpo : lf_ok P q) (h : lr_M r s) (hok : lr_ok P r) (ht : lr_top P r) (hpl : lr_pln P r) : ∃ s', mM_plain (nI (12 * lr_tm r + lr_tp r)) (nI (4 * (lr_d r - 1))) s = some ((), s') ∧ lr_M (lr_plain P r) s' ∧ lf_frR s s' := by
  obtain ⟨hd, hp⟩ := ht
  obtain ⟨p6, p0, p5, p6'⟩ := hpl
  have hd6 := hok.1
  have hm : lr_tm r < 6 := (hok.2.1 (lr_d r - 1) (by omega)).1
  have hl := hpo.1 _ hm
  obtain ⟨a1, a2, a3, a4⟩ := hM.2.1 _ hm _ hp
  obtain ⟨o1, o2, o3, o4, o5, o6⟩ := hpo.2.1 _ hm _ hp
  have hn := hok.2.2.2.2.1
  have ha : lf_a P (lr_tm r) (lr_tp r) < 4 := o3 (by omega)
  have ediv : (12 * lr_tm r + lr_tp r) / 12 = lr_tm r := by omega
  have emod : (12 * lr_tm r + lr_tp r) % 12 = lr_tp r := by omega
  have hval : ∀ x, x < 4 → mb_I s 16 (4 * (lr_d r - 1) + x) = lf_o (lr_tv r x).1 ∧ mb_I s 17 (4 * (lr_d r - 1) + x) = nI (lr_tv r x).2 := fun x hx => h.2.2.2.2.2.1 _ (by omega)
  have hfl : ∀ o c, o < lr_n r → c < 2 → mb_I s 19 (2 * o + c) = lf_o (lr_h r (2 * o + c)).1 ∧ mb_I s 20 (2 * o + c) = nI (lr_h r (2 * o + c)).2 := fun o c ho hc => h.2.2.2.2.2.2.2.1 _ (by omega)
  have hmm : nI (12 * lr_tm r + lr_tp r) - nI (12 * lr_tm r + lr_tp r) / 12 * 12 = nI (lr_tp r) := by rw [me_m12 (by omega), emod]
  unfold mM_plain mM_plain_b368
  rw [me_ld (by omega) (by decide), a1, me_ld (by omega) (by decide), a2, me_ld (by omega) (by decide), a3, me_bnd, hmm, me_d12 (by omega), ediv]
  unfold lr_plain
  by_cases c0 : lf_kd P (lr_tm r) (lr_tp r) = 0
  · have hn12 := p0 c0
    rw [if_pos ((pu_eq0 (by omega)).mpr c0), if_pos c0, h.2.1, me_stI hn12 (by decide), show mb_F (mb_setI s 18 (lr_n r) (nI (lf_b P (lr_tm r) (lr_tp r)))) 3 = mb_F s 3 from rfl, h.2.1, me_2o, me_bnd, show mb_fuel = 4294967293 + 1 + 1 + 1 from rfl]
    rw [mM_plain_l52_s, show mb_F (mb_setI s 18 (lr_n r) (nI (lf_b P (lr_tm r) (lr_tp r)))) 3 = mb_F s 3 from rfl, h.2.1, pu_l2, pk_mul, nI_add, if_neg (fun z => absurd ((nI_leI (by omega) (by omega)).mp z) (by omega)), me_stI (by omega) (by decide), me_stI (by omega) (by decide), me_bnd, nI_1]
    rw [mM_plain_l52_s, show ∀ (u : mb_S) (v w : Int32) (j k : Nat), mb_F (mb_setI (mb_setI u 19 j v) 20 k w) 3 = mb_F u 3 from fun _ _ _ _ _ => rfl, show mb_F (mb_setI s 18 (lr_n r) (nI (lf_b P (lr_tm r) (lr_tp r)))) 3 = mb_F s 3 from rfl, h.2.1, pu_l2, pk_mul, nI_add, if_neg (fun z => absurd ((nI_leI (by omega) (by omega)).mp z) (by omega)), me_stI (by omega) (by decide), me_stI (by omega) (by decide), me_bnd, nI_1]
    rw [mM_plain_l52_s, show ∀ (u : mb_S) (v w v' w' : Int32) (j k j' k' : Nat), mb_F (mb_setI (mb_setI (mb_setI (mb_setI u 19 j v) 20 k w) 19 j' v') 20 k' w') 3 = mb_F u 3 from fun _ _ _ _ _ _ _ _ _ => rfl, show mb_F (mb_setI s 18 (lr_n r) (nI (lf_b P (lr_tm r) (lr_tp r)))) 3 = mb_F s 3 from rfl, h.2.1, pu_l2, pk_mul, nI_add, if_pos ((nI_leI (by omega) (by omega)).mpr (by omega))]
    rw [mM_assign_raw (d := lr_d r) (by exact h.1) hd hd6 ha, me_cal, me_putF]
    refine ⟨_, rfl, ?_, ?_⟩
    · obtain ⟨h1, h2, h3, h4, h5, h6, h7, h8, h9⟩ := h
      refine ⟨h1, ?_, h3, h4, h5, fun j hj => ?_, fun o ho => ?_, fun j hj => ?_, h9⟩
      · show mb_F s 3 + 1 = nI (lr_n r + 1)
        rw [h2, nI_1]
      · show upd (mb_I s 16) (4 * (lr_d r - 1) + lf_a P (lr_tm r) (lr_tp r)) (nI (lr_n r)) j = lf_o (va_up (lr_v r) (4 * (lr_d r - 1) + lf_a P (lr_tm r) (lr_tp r)) (some (lr_n r), 0) j).1 ∧ upd (mb_I s 17) (4 * (lr_d r - 1) + lf_a P (lr_tm r) (lr_tp r)) 0 j = nI (va_up (lr_v r) (4 * (lr_d r - 1) + lf_a P (lr_tm r) (lr_tp r)) (some (lr_n r), 0) j).2
        rw [pu_upd, pu_upd, va_up_e]
        by_cases e : j = 4 * (lr_d r - 1) + lf_a P (lr_tm r) (lr_tp r)
        · rw [if_pos e, if_pos e, if_pos e]; exact ⟨rfl, rfl⟩
        · rw [if_neg e, if_neg e, if_neg e]; exact h6 j hj
      · have ho' : o < lr_n r + 1 := ho
        show upd (mb_I s 18) (lr_n r) (nI (lf_b P (lr_tm r) (lr_tp r))) o = nI (va_up (lr_k r) (lr_n r) (lf_b P (lr_tm r) (lr_tp r)) o)
        rw [pu_upd, va_up_e]
        by_cases e : o = lr_n r
        · rw [if_pos e, if_pos e]
        · rw [if_neg e, if_neg e]; exact h7 o (by omega)
      · have hj' : j < 2 * (lr_n r + 1) := hj
        show upd (upd (mb_I s 19) (2 * lr_n r) (-1)) (2 * lr_n r + 1) (-1) j = lf_o (va_up (va_up (lr_h r) (2 * lr_n r) (none, 0)) (2 * lr_n r + 1) (none, 0) j).1 ∧ upd (upd (mb_I s 20) (2 * lr_n r) 0) (2 * lr_n r + 1) 0 j = nI (va_up (va_up (lr_h r) (2 * lr_n r) (none, 0)) (2 * lr_n r + 1) (none, 0) j).2
        simp only [pu_upd, va_up_e]
        by_cases e : j = 2 * lr_n r + 1
        · rw [if_pos e, if_pos e, if_pos e]; exact ⟨rfl, rfl⟩
        · rw [if_neg e, if_neg e, if_neg e]
          by_cases e2 : j = 2 * lr_n r
          · rw [if_pos e2, if_pos e2, if_pos e2]; exact ⟨rfl, rfl⟩
          · rw [if_neg e2, if_neg e2, if_neg e2]; exact h8 j (by omega)
    · exact (((((((lf_fr.rf.setI ⟨by decide, by decide⟩).setI ⟨by decide, by decide⟩).setI ⟨by decide, by decide⟩).setI ⟨by decide, by decide⟩).setI ⟨by decide, by decide⟩).setI ⟨by decide, by decide⟩).setI ⟨by decide, by decide⟩).setF ⟨by decide, by decide⟩
  · rw [if_neg (fun z => c0 ((pu_eq0 (by omega)).mp z)), if_neg c0]
    by_cases c1 : lf_kd P (lr_tm r) (lr_tp r) = 1
    · have hb := lf_bef_lt P hm hp
      rw [c1] at hb
      have h4 := hpo.2.2.2.1
      rw [if_pos ((pu_eq1 (by omega)).mpr c1), if_pos c1, show (1 : Int32) = nI 1 from rfl, mM_before_k hM hpo (kk := 1) (by omega) hm (Nat.le_of_lt hp), me_cal, show nI 1 = (1 : Int32) from rfl, me_pow _ (by omega)]
      obtain ⟨t, e1, e2, e3⟩ := mM_assign_e h hok hd ha (none, 2 ^ lf_bef P 1 (lr_tm r) (lr_tp r))
      rw [show mM_assign (nI (lf_a P (lr_tm r) (lr_tp r))) (-1) (nI (2 ^ lf_bef P 1 (lr_tm r) (lr_tp r))) s = some ((), t) from e1, me_cal]
      exact ⟨t, rfl, e2, e3⟩
    · rw [if_neg (fun z => c1 ((pu_eq1 (by omega)).mp z)), if_neg c1, pu_l2]
      by_cases c2 : lf_kd P (lr_tm r) (lr_tp r) = 2
      · have hb := lf_bef_lt P hm hp
        rw [c2] at hb
        have h4 := hpo.2.2.2.2.1
        rw [if_pos ((nI_eq (by omega) (by omega)).mpr c2), if_pos c2, mM_before_k hM hpo (kk := 2) (by omega) hm (Nat.le_of_lt hp), me_cal, ← nI_0]
        obtain ⟨u, e1, e2, e3⟩ := mM_plain_hits (x := 4 * (lr_d r - 1)) (t := lf_a P (lr_tm r) (lr_tp r)) (lab := (lr_tv r (lf_a P (lr_tm r) (lr_tp r))).2) (d := 0) (by omega) (tt := lf_bef P 2 (lr_tm r) (lr_tp r)) (by omega) (lr_ok_tv hok hd ha).1 (hit := lr_hit r) 4 0 mb_fuel s rfl (by unfold mb_fuel; omega) (hval _ ha).2 (fun j hj => by rw [if_neg (by omega)]; exact h.2.2.2.2.2.2.2.2 j hj)
        rw [e1]
        obtain ⟨h1, h2, h3, h4, h5, h6, h7, h8, h9⟩ := h
        refine ⟨u, rfl, ⟨(e3.1 6 (fun z => z)).trans h1, (e3.1 3 (fun z => z)).trans h2, (e3.1 4 (fun z => z)).trans h3, (e3.1 5 (fun z => z)).trans h4, fun i hi => ?_, fun j hj => ?_, fun o ho => ?_, fun j hj => ?_, fun j hj => ?_⟩, e3.wk (fun _ z => z.elim) (fun k z => by rw [z]; exact ⟨by decide, by decide⟩) (fun _ z => z)⟩
        · rw [e3.2.1 14 (by decide), e3.2.1 15 (by decide)]; exact h5 i hi
        · rw [e3.2.1 16 (by decide), e3.2.1 17 (by decide)]; exact h6 j hj
        · rw [e3.2.1 18 (by decide)]; exact h7 o ho
        · rw [e3.2.1 19 (by decide), e3.2.1 20 (by decide)]; exact h8 j hj
        · rw [e2 j hj]
          show _ = nI (if j % 4 = lf_bef P 2 (lr_tm r) (lr_tp r) ∧ j < 16 then lr_hit r j + (lr_tv r (lf_a P (lr_tm r) (lr_tp r))).2 / 2 ^ (j / 4) % 2 else lr_hit r j)
          by_cases c : j % 4 = lf_bef P 2 (lr_tm r) (lr_tp r)
          · rw [if_pos ⟨c, by omega⟩, if_pos ⟨c, hj⟩]
          · rw [if_neg (fun z => c z.1), if_neg (fun z => c z.1)]
      · rw [if_neg (fun z => c2 ((nI_eq (by omega) (by omega)).mp z)), if_neg c2, pu_l3]
        by_cases c3 : lf_kd P (lr_tm r) (lr_tp r) = 3
        · rw [if_pos ((nI_eq (by omega) (by omega)).mpr c3), if_pos c3, nI_add, me_stI (by omega) (by decide)]
          refine ⟨_, rfl, ?_, lf_fr.rf.setI ⟨by decide, by decide⟩⟩
          obtain ⟨h1, h2, h3, h4, h5, h6, h7, h8, h9⟩ := h
          refine ⟨h1, h2, h3, h4, h5, fun j hj => ?_, h7, h8, h9⟩
          show mb_I s 16 j = lf_o (va_up (lr_v r) (4 * (lr_d r - 1) + lf_a P (lr_tm r) (lr_tp r)) ((lr_tv r (lf_a P (lr_tm r) (lr_tp r))).1, 0) j).1 ∧ upd (mb_I s 17) (4 * (lr_d r - 1) + lf_a P (lr_tm r) (lr_tp r)) 0 j = nI (va_up (lr_v r) (4 * (lr_d r - 1) + lf_a P (lr_tm r) (lr_tp r)) ((lr_tv r (lf_a P (lr_tm r) (lr_tp r))).1, 0) j).2
          rw [pu_upd, va_up_e]
          by_cases e : j = 4 * (lr_d r - 1) + lf_a P (lr_tm r) (lr_tp r)
          · rw [if_pos e, if_pos e, e]; exact ⟨(hval _ ha).1, rfl⟩
          · rw [if_neg e, if_neg e]; exact h6 j hj
        · rw [if_neg (fun z => c3 ((nI_eq (by omega) (by omega)).mp z)), if_neg c3, pu_l4]
          have hb : lf_b P (lr_tm r) (lr_tp r) < 4 := o4 (by omega)
          by_cases c4 : lf_kd P (lr_tm r) (lr_tp r) = 4
          · rw [if_pos ((nI_eq (by omega) (by omega)).mpr c4), if_pos c4, nI_add, me_ld (by omega) (by decide), me_ld (by omega) (by decide), (hval _ hb).1, (hval _ hb).2]
            obtain ⟨t, e1, e2, e3⟩ := mM_assign_e h hok hd ha (lr_tv r (lf_b P (lr_tm r) (lr_tp r)))
            rw [e1, me_cal]
            exact ⟨t, rfl, e2, e3⟩
          · rw [if_neg (fun z => c4 ((nI_eq (by omega) (by omega)).mp z)), if_neg c4, pu_l5]
            have hc : lf_c P (lr_tm r) (lr_tp r) < 2 := o5 (by omega)
            by_cases c5 : lf_kd P (lr_tm r) (lr_tp r) = 5
            · obtain ⟨o, ho⟩ := p5 c5
              have hon := (lr_ok_tv hok hd hb).2 o ho
              rw [if_pos ((nI_eq (by omega) (by omega)).mpr c5), if_pos c5, nI_add, me_ld (by omega) (by decide), (hval _ hb).1, ho, lf_o_some, me_ld (by omega) (by decide), a4, pk_mul, nI_add, me_bnd, me_ld (by omega) (by decide), (hfl o _ hon hc).1, me_ld (by omega) (by decide), (hfl o _ hon hc).2, me_ld (by omega) (by decide), (hval _ hb).2, me_or]
              obtain ⟨t, e1, e2, e3⟩ := mM_assign_e h hok hd ha ((lr_h r (2 * o + lf_c P (lr_tm r) (lr_tp r))).1, (lr_h r (2 * o + lf_c P (lr_tm r) (lr_tp r))).2 ||| (lr_tv r (lf_b P (lr_tm r) (lr_tp r))).2)
              rw [e1, me_cal]
              exact ⟨t, rfl, e2, e3⟩
            · have c6 : lf_kd P (lr_tm r) (lr_tp r) = 6 := by omega
              obtain ⟨o, ho⟩ := p6' c6
              have hon := (lr_ok_tv hok hd ha).2 o ho
              rw [if_neg (fun z => c5 ((nI_eq (by omega) (by omega)).mp z)), if_neg c5, nI_add, nI_add, me_ld (by omega) (by decide), (hval _ ha).1, ho, lf_o_some, me_ld (by omega) (by decide), a4, pk_mul, nI_add, me_bnd, me_ld (by omega) (by decide), (hval _ hb).1, me_stI (by omega) (by decide), me_ld (by omega) (by decide)]
              rw [show mb_I (mb_setI s 19 (2 * o + lf_c P (lr_tm r) (lr_tp r)) (lf_o (lr_tv r (lf_b P (lr_tm r) (lr_tp r))).1)) 17 = mb_I s 17 from rfl, (hval _ hb).2, me_stI (by omega) (by decide)]
              refine ⟨_, rfl, ?_, (lf_fr.rf.setI ⟨by decide, by decide⟩).setI ⟨by decide, by decide⟩⟩
              obtain ⟨h1, h2, h3, h4, h5, h6, h7, h8, h9⟩ := h
              refine ⟨h1, h2, h3, h4, h5, h6, h7, fun j hj => ?_, h9⟩
              show upd (mb_I s 19) (2 * o + lf_c P (lr_tm r) (lr_tp r)) (lf_o (lr_tv r (lf_b P (lr_tm r) (lr_tp r))).1) j = lf_o (va_up (lr_h r) (2 * o + lf_c P (lr_tm r) (lr_tp r)) (lr_tv r (lf_b P (lr_tm r) (lr_tp r))) j).1 ∧ upd (mb_I s 20) (2 * o + lf_c P (lr_tm r) (lr_tp r)) (nI (lr_tv r (lf_b P (lr_tm r) (lr_tp r))).2) j = nI (va_up (lr_h r) (2 * o + lf_c P (lr_tm r) (lr_tp r)) (lr_tv r (lf_b P (lr_tm r) (lr_tp r))) j).2
              rw [pu_upd, pu_upd, va_up_e]
              by_cases e : j = 2 * o + lf_c P (lr_tm r) (lr_tp r)
              · rw [if_pos e, if_pos e, if_pos e]; exact ⟨rfl, rfl⟩
              · rw [if_neg e, if_neg e, if_neg e]; exact h8 j hj
end RM3
