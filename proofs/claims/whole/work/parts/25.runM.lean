def lf_frR : mb_S → mb_S → Prop := lf_fr (fun k => 3 ≤ k ∧ k ≤ 6) (fun k => 13 ≤ k ∧ k ≤ 20) (fun _ => False)
theorem lf_frR.M {P : lf_P} {q : lf_Q} {s t : mb_S} (hf : lf_frR s t) (h : lf_M P q s) : lf_M P q t := h.fr (fun k hk => hf.2.1 k (fun z => by omega))
theorem me_sub1 {d : Nat} (h : 0 < d) : nI d - 1 = nI (d - 1) := by
  obtain ⟨z, rfl⟩ : ∃ z, d = z + 1 := ⟨d - 1, by omega⟩
  rw [nI_pred]; rfl
theorem me_4o (i : Nat) : (4 : Int32) * nI i = nI (4 * i) := by
  show nI 4 * nI i = _
  rw [pk_mul]
theorem me_2 (i j : Nat) : (2 : Int32) * nI i + nI j = nI (2 * i + j) := by
  show nI 2 * nI i + nI j = _
  rw [pk_mul, nI_add]
theorem me_2o (i : Nat) : (2 : Int32) * nI i = nI (2 * i) := by
  show nI 2 * nI i = _
  rw [pk_mul]
section RM
variable {P : lf_P} {q : lf_Q} {r : lf_R} {s : mb_S}
theorem mM_assign_raw {d : Nat} (hF : mb_F s 6 = nI d) (hd : 0 < d) (hd6 : d ≤ 6) {x : Nat} (hx : x < 4) (o l : Int32) : mM_assign (nI x) o l s = some ((), mb_setI (mb_setI s 16 (4 * (d - 1) + x) o) 17 (4 * (d - 1) + x) l) := by
  unfold mM_assign
  rw [hF, me_sub1 hd, me_4, me_stI (by omega) (by decide), show mb_F (mb_setI s 16 (4 * (d - 1) + x) o) 6 = mb_F s 6 from rfl, hF, me_sub1 hd, me_4, me_stI (by omega) (by decide)]
theorem lr_M_put (h : lr_M r s) (x : Nat) (o : Option Nat) (l : Nat) : lr_M (lr_put r x (o, l)) (mb_setI (mb_setI s 16 (4 * (lr_d r - 1) + x) (lf_o o)) 17 (4 * (lr_d r - 1) + x) (nI l)) := by
  obtain ⟨h1, h2, h3, h4, h5, h6, h7, h8, h9⟩ := h
  refine ⟨h1, h2, h3, h4, h5, fun j hj => ?_, h7, h8, h9⟩
  show upd (mb_I s 16) (4 * (lr_d r - 1) + x) (lf_o o) j = lf_o (va_up (lr_v r) (4 * (lr_d r - 1) + x) (o, l) j).1 ∧ upd (mb_I s 17) (4 * (lr_d r - 1) + x) (nI l) j = nI (va_up (lr_v r) (4 * (lr_d r - 1) + x) (o, l) j).2
  rw [pu_upd, pu_upd, va_up_e]
  by_cases e : j = 4 * (lr_d r - 1) + x
  · rw [if_pos e, if_pos e, if_pos e]; exact ⟨rfl, rfl⟩
  · rw [if_neg e, if_neg e, if_neg e]; exact h6 j hj
theorem mM_assign_e (h : lr_M r s) (hok : lr_ok P r) (hd : 0 < lr_d r) {x : Nat} (hx : x < 4) (w : lf_V) : ∃ s', mM_assign (nI x) (lf_o w.1) (nI w.2) s = some ((), s') ∧ lr_M (lr_put r x w) s' ∧ lf_frR s s' :=
  ⟨_, mM_assign_raw h.1 hd hok.1 hx _ _, lr_M_put h x w.1 w.2, (lf_fr.rf.setI ⟨by decide, by decide⟩).setI ⟨by decide, by decide⟩⟩
def lr_at (r : lf_R) (i : Option Nat) : lf_V := match i with
  | none => (none, 0)
  | some j => lr_v r j
theorem mM_enter_62 (h : lr_M r s) (hok : lr_ok P r) (hd : lr_d r < 6) (m : Nat) (v0 v1 : lf_V) : ∃ s', mM_enter_b62 (nI m) (lf_o v0.1) (nI v0.2) (lf_o v1.1) (nI v1.2) s = some ((), s') ∧ lr_M (lr_enter r m v0 v1) s' ∧ lf_frR s s' := by
  obtain ⟨h1, h2, h3, h4, h5, h6, h7, h8, h9⟩ := h
  unfold mM_enter_b62
  rw [h1, me_stI hd (by decide), show mb_F (mb_setI s 14 (lr_d r) (nI m)) 6 = mb_F s 6 from rfl, h1, me_stI hd (by decide), me_putF, show mb_F (mb_setI (mb_setI s 14 (lr_d r) (nI m)) 15 (lr_d r) 0) 6 = mb_F s 6 from rfl, h1, nI_1, ← nI_0]
  rw [mM_assign_raw (d := lr_d r + 1) rfl (by omega) (by omega) (x := 0) (by decide), me_cal]
  rw [show (1 : Int32) = nI 1 from rfl, mM_assign_raw (d := lr_d r + 1) rfl (by omega) (by omega) (x := 1) (by decide), me_cal]
  rw [pu_l2, mM_assign_raw (d := lr_d r + 1) rfl (by omega) (by omega) (x := 2) (by decide), me_cal]
  rw [pu_l3, mM_assign_raw (d := lr_d r + 1) rfl (by omega) (by omega) (x := 3) (by decide), me_cal]
  refine ⟨_, rfl, ⟨rfl, h2, h3, h4, fun i hi => ?_, fun j hj => ?_, h7, h8, h9⟩, ?_⟩
  · show upd (mb_I s 14) (lr_d r) (nI m) i = nI (va_up (lr_mt r) (lr_d r) m i) ∧ upd (mb_I s 15) (lr_d r) (nI 0) i = nI (va_up (lr_pl r) (lr_d r) 0 i)
    have hi' : i < lr_d r + 1 := hi
    rw [pu_upd, pu_upd, va_up_e, va_up_e]
    by_cases e : i = lr_d r
    · rw [if_pos e, if_pos e, if_pos e, if_pos e]; exact ⟨rfl, rfl⟩
    · rw [if_neg e, if_neg e, if_neg e, if_neg e]; exact h5 i (by omega)
  · have hj' : j < 4 * (lr_d r + 1) := hj
    show upd (upd (upd (upd (mb_I s 16) (4 * (lr_d r + 1 - 1) + 0) (lf_o v0.1)) (4 * (lr_d r + 1 - 1) + 1) (lf_o v1.1)) (4 * (lr_d r + 1 - 1) + 2) (-1)) (4 * (lr_d r + 1 - 1) + 3) (-1) j = lf_o (va_up (va_up (va_up (va_up (lr_v r) (4 * (lr_d r + 1 - 1) + 0) v0) (4 * (lr_d r + 1 - 1) + 1) v1) (4 * (lr_d r + 1 - 1) + 2) (none, 0)) (4 * (lr_d r + 1 - 1) + 3) (none, 0) j).1 ∧ upd (upd (upd (upd (mb_I s 17) (4 * (lr_d r + 1 - 1) + 0) (nI v0.2)) (4 * (lr_d r + 1 - 1) + 1) (nI v1.2)) (4 * (lr_d r + 1 - 1) + 2) (nI 0)) (4 * (lr_d r + 1 - 1) + 3) (nI 0) j = nI (va_up (va_up (va_up (va_up (lr_v r) (4 * (lr_d r + 1 - 1) + 0) v0) (4 * (lr_d r + 1 - 1) + 1) v1) (4 * (lr_d r + 1 - 1) + 2) (none, 0)) (4 * (lr_d r + 1 - 1) + 3) (none, 0) j).2
    simp only [pu_upd, va_up_e]
    by_cases e3 : j = 4 * (lr_d r + 1 - 1) + 3
    · rw [if_pos e3, if_pos e3, if_pos e3]; exact ⟨rfl, rfl⟩
    · rw [if_neg e3, if_neg e3, if_neg e3]
      by_cases e2 : j = 4 * (lr_d r + 1 - 1) + 2
      · rw [if_pos e2, if_pos e2, if_pos e2]; exact ⟨rfl, rfl⟩
      · rw [if_neg e2, if_neg e2, if_neg e2]
        by_cases e1 : j = 4 * (lr_d r + 1 - 1) + 1
        · rw [if_pos e1, if_pos e1, if_pos e1]; exact ⟨rfl, rfl⟩
        · rw [if_neg e1, if_neg e1, if_neg e1]
          by_cases e0 : j = 4 * (lr_d r + 1 - 1) + 0
          · rw [if_pos e0, if_pos e0, if_pos e0]; exact ⟨rfl, rfl⟩
          · rw [if_neg e0, if_neg e0, if_neg e0]; exact h6 j (by omega)
  · have b16 : 13 ≤ 16 ∧ 16 ≤ 20 := by decide
    have b17 : 13 ≤ 17 ∧ 17 ≤ 20 := by decide
    exact (((((((((((lf_fr.rf.setI ⟨by decide, by decide⟩).setI ⟨by decide, by decide⟩).setF ⟨by decide, by decide⟩).setI b16).setI b17).setI b16).setI b17).setI b16).setI b17).setI b16).setI b17)
theorem mM_enter_e (h : lr_M r s) (hok : lr_ok P r) (hd : lr_d r < 6) (m : Nat) {i0 i1 : Option Nat} (h0 : ∀ j, i0 = some j → j < 4 * lr_d r) (h1 : ∀ j, i1 = some j → j < 4 * lr_d r) : ∃ s', mM_enter (nI m) (lf_o i0) (lf_o i1) s = some ((), s') ∧ lr_M (lr_enter r m (lr_at r i0) (lr_at r i1)) s' ∧ lf_frR s s' := by
  have n1 : ¬ (0 : Int32) ≤ -1 := by decide
  have e : mM_enter (nI m) (lf_o i0) (lf_o i1) s = mM_enter_b62 (nI m) (lf_o (lr_at r i0).1) (nI (lr_at r i0).2) (lf_o (lr_at r i1).1) (nI (lr_at r i1).2) s := by
    unfold mM_enter mM_enter_b14 mM_enter_b30 mM_enter_b46
    cases i0 with
    | none =>
      cases i1 with
      | none => rw [lf_o_none, if_neg n1, if_neg n1, if_neg n1, if_neg n1]; rfl
      | some j =>
        have hj := h1 j rfl
        rw [lf_o_none, lf_o_some, if_neg n1, if_neg n1, if_pos (nI_pos' (by omega)), me_ld (by omega) (by decide), if_pos (nI_pos' (by omega)), me_ld (by omega) (by decide), (h.2.2.2.2.2.1 j hj).1, (h.2.2.2.2.2.1 j hj).2]; rfl
    | some i =>
      have hi := h0 i rfl
      rw [lf_o_some, if_pos (nI_pos' (by omega)), me_ld (by omega) (by decide), if_pos (nI_pos' (by omega)), me_ld (by omega) (by decide), (h.2.2.2.2.2.1 i hi).1, (h.2.2.2.2.2.1 i hi).2]
      cases i1 with
      | none => rw [lf_o_none, if_neg n1, if_neg n1]; rfl
      | some j =>
        have hj := h1 j rfl
        rw [lf_o_some, if_pos (nI_pos' (by omega)), me_ld (by omega) (by decide), if_pos (nI_pos' (by omega)), me_ld (by omega) (by decide), (h.2.2.2.2.2.1 j hj).1, (h.2.2.2.2.2.1 j hj).2]; rfl
  rw [e]
  exact mM_enter_62 h hok hd m _ _
theorem lr_M_sd (h : lr_M r s) {d : Nat} (hd : d ≤ lr_d r) : lr_M (lr_sd r d) (mb_setF s 6 (nI d)) := by
  obtain ⟨h1, h2, h3, h4, h5, h6, h7, h8, h9⟩ := h
  exact ⟨rfl, h2, h3, h4, fun i hi => h5 i (Nat.lt_of_lt_of_le hi hd), fun j hj => h6 j (Nat.lt_of_lt_of_le hj (Nat.mul_le_mul_left 4 hd)), h7, h8, h9⟩
theorem lr_M_go (h : lr_M r s) (p : Nat) : lr_M (lr_go r p) (mb_setI s 15 (lr_d r - 1) (nI p)) := by
  obtain ⟨h1, h2, h3, h4, h5, h6, h7, h8, h9⟩ := h
  refine ⟨h1, h2, h3, h4, fun i hi => ⟨(h5 i hi).1, ?_⟩, h6, h7, h8, h9⟩
  show upd (mb_I s 15) (lr_d r - 1) (nI p) i = nI (va_up (lr_pl r) (lr_d r - 1) p i)
  rw [pu_upd, va_up_e]
  by_cases e : i = lr_d r - 1
  · rw [if_pos e, if_pos e]
  · rw [if_neg e, if_neg e]; exact (h5 i hi).2
theorem mM_leave_47 (hM : lf_M P q s) (hpo : lf_ok P q) (h : lr_M r s) (hok : lr_ok P r) (hd : 0 < lr_d r) (w : lf_V) : ∃ s', mM_leave_b47 (lf_o w.1) (nI w.2) s = some ((), s') ∧ lr_M (lr_leave P r w) s' ∧ lf_frR s s' := by
  have hd6 := hok.1
  have hs := lr_M_sd h (d := lr_d r - 1) (Nat.sub_le _ _)
  have hoks := lr_ok_sd hok (d := lr_d r - 1) (Nat.sub_le _ _)
  unfold mM_leave_b47 mM_leave_b121 lr_leave
  rw [h.1, me_sub1 hd, me_putF, show mb_F (mb_setF s 6 (nI (lr_d r - 1))) 6 = nI (lr_d r - 1) from rfl]
  by_cases e : lr_d r - 1 = 0
  · rw [if_pos e, e, if_pos (show nI 0 ≤ 0 from by decide)]
    rw [e] at hs
    exact ⟨_, rfl, hs, lf_fr.rf.setF ⟨by decide, by decide⟩⟩
  · rw [if_neg e, if_neg (nI_nle (by omega) (by omega)), me_sub1 (by omega), me_ld (by omega) (by decide), me_ld (by omega) (by decide)]
    have hi : lr_d r - 2 < lr_d r := by omega
    have e14 : mb_I (mb_setF s 6 (nI (lr_d r - 1))) 14 (lr_d r - 1 - 1) = nI (lr_mt r (lr_d r - 2)) := (h.2.2.2.2.1 (lr_d r - 2) hi).1
    have e15 : mb_I (mb_setF s 6 (nI (lr_d r - 1))) 15 (lr_d r - 1 - 1) = nI (lr_pl r (lr_d r - 2)) := (h.2.2.2.2.1 (lr_d r - 2) hi).2
    have hm := (hok.2.1 (lr_d r - 2) hi).1
    obtain ⟨hp, hkd⟩ := hok.2.2.1 (lr_d r - 2) (by omega)
    have hl := hpo.1 _ hm
    have hop := hpo.2.1 _ hm _ hp
    have e2 : mb_I (mb_setF s 6 (nI (lr_d r - 1))) 2 (12 * lr_mt r (lr_d r - 2) + lr_pl r (lr_d r - 2)) = nI (lf_a P (lr_mt r (lr_d r - 2)) (lr_pl r (lr_d r - 2))) := (hM.2.1 _ hm _ hp).2.1
    have ha : lf_a P (lr_mt r (lr_d r - 2)) (lr_pl r (lr_d r - 2)) < 4 := hop.2.2.1 (by rw [hkd]; omega)
    rw [e14, e15, me_bnd, me_12, me_ld (by omega) (by decide), e2]
    obtain ⟨t, et, ht, hft⟩ := mM_assign_e hs hoks (show 0 < lr_d r - 1 by omega) ha w
    rw [et, me_cal, ht.1, show lr_d (lr_put (lr_sd r (lr_d r - 1)) (lf_a P (lr_mt r (lr_d r - 2)) (lr_pl r (lr_d r - 2))) w) = lr_d r - 1 from rfl, me_sub1 (by omega), me_ld (by omega) (by decide)]
    have e15' : mb_I t 15 (lr_d r - 1 - 1) = nI (lr_pl r (lr_d r - 2)) := (ht.2.2.2.2.1 (lr_d r - 2) (show lr_d r - 2 < lr_d r - 1 by omega)).2
    rw [e15', nI_1, me_stI (by omega) (by decide)]
    exact ⟨_, rfl, lr_M_go ht _, ((lf_fr.rf.setF ⟨by decide, by decide⟩).tr hft).setI ⟨by decide, by decide⟩⟩
theorem mM_leave_n (hM : lf_M P q s) (hpo : lf_ok P q) (h : lr_M r s) (hok : lr_ok P r) (hd : 0 < lr_d r) : ∃ s', mM_leave (-1) s = some ((), s') ∧ lr_M (lr_leave P r (none, 0)) s' ∧ lf_frR s s' := by
  unfold mM_leave mM_leave_b23
  rw [if_neg (by decide), if_neg (by decide)]
  exact mM_leave_47 hM hpo h hok hd (none, 0)
theorem mM_leave_v (hM : lf_M P q s) (hpo : lf_ok P q) (h : lr_M r s) (hok : lr_ok P r) (hd : 0 < lr_d r) {x : Nat} (hx : x < 4) : ∃ s', mM_leave (nI x) s = some ((), s') ∧ lr_M (lr_leave P r (lr_tv r x)) s' ∧ lf_frR s s' := by
  have hd6 := hok.1
  unfold mM_leave mM_leave_b23
  obtain ⟨e1, e2⟩ := h.2.2.2.2.2.1 (4 * (lr_d r - 1) + x) (by omega)
  rw [if_pos (nI_pos' (by omega)), h.1, me_sub1 hd, me_4, me_ld (by omega) (by decide), if_pos (nI_pos' (by omega)), me_ld (by omega) (by decide), e1, e2]
  exact mM_leave_47 hM hpo h hok hd (lr_tv r x)
end RM
