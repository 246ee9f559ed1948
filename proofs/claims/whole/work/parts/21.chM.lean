def lf_acc (P : lf_P) (x1 x2 x3 x4 x5 : Int32) (m kd a b c : Nat) : Prop := x1 = nI m ∧ x2 = nI kd ∧ x3 = nI a ∧ x4 = nI b ∧ x5 = nI c ∧ m < 6 ∧ kd ≤ 10 ∧ lf_opOk kd a b c ∧ lf_len P m < 12 ∧ lf_tot P < 32 ∧ lf_cnt P kd < lf_most kd
theorem lf_op_fit {kd a b c : Nat} (h : lf_opOk kd a b c) : lf_fit kd (nI a) (nI b) (nI c) := by
  obtain ⟨h1, h2, h3, h4, h5, h6⟩ := h
  exact ⟨fun e => ⟨a, h2 e, rfl⟩, fun e => ⟨a, h3 e, rfl⟩, fun e => ⟨b, h4 e, rfl⟩, fun e => ⟨c, h5 e, rfl⟩, fun e => ⟨c, h6 e, rfl⟩⟩
theorem lf_cnt_most {P : lf_P} {q : lf_Q} (h : lf_ok P q) (kd : Nat) : lf_cnt P kd ≤ lf_most kd := by
  have h1 := lf_cnt_le P kd
  obtain ⟨-, -, h3, h4, h5, h6, -, -⟩ := h
  unfold lf_most
  by_cases e0 : kd = 0
  · subst e0; rw [if_pos rfl]; exact h3
  · rw [if_neg e0]
    by_cases e1 : kd < 3
    · rw [if_pos e1]
      have : kd = 1 ∨ kd = 2 := by omega
      rcases this with e | e <;> subst e <;> assumption
    · rw [if_neg e1]; omega
section CHM
variable {P : lf_P} {q : lf_Q} {s : mb_S}
theorem mM_change_e : mM_change s = some ((), mb_setF (mb_setF s 0 0) 2 0) := rfl
theorem lf_M_add (h : lf_M P q s) (hok : lf_ok P q) {m : Nat} (hm : m < 6) (hl : lf_len P m < 12) (kd a b c : Nat) : lf_M (lf_add P m kd a b c) q (mb_setF (mb_setF (mb_setI (mb_setI (mb_setI (mb_setI (mb_setI s 1 (12 * m + lf_len P m) (nI kd)) 2 (12 * m + lf_len P m) (nI a)) 3 (12 * m + lf_len P m) (nI b)) 4 (12 * m + lf_len P m) (nI c)) 0 m (nI (lf_len P m + 1))) 0 0) 2 0) := by
  obtain ⟨h1, h2, h3, h4⟩ := h
  have hx : ∀ i, i < 6 → ∀ k, k < lf_len (lf_add P m kd a b c) i → (12 * i + k = 12 * m + lf_len P m ↔ i = m ∧ k = lf_len P m) ∧ (¬ (i = m ∧ k = lf_len P m) → k < lf_len P i) := by
    intro i hi k hk
    rw [lf_add_len] at hk
    have := hok.1 i hi
    by_cases e : i = m
    · subst e; rw [if_pos rfl] at hk; omega
    · rw [if_neg e] at hk; omega
  refine ⟨fun i hi => ?_, fun i hi k hk => ?_, h3, h4⟩
  · rw [lf_add_len]
    show upd (mb_I s 0) m (nI (lf_len P m + 1)) i = _
    rw [pu_upd]
    by_cases e : i = m
    · rw [if_pos e, if_pos e]
    · rw [if_neg e, if_neg e]; exact h1 i hi
  · obtain ⟨e1, e2⟩ := hx i hi k hk
    show upd (mb_I s 1) (12 * m + lf_len P m) (nI kd) (12 * i + k) = nI (if i = m ∧ k = lf_len P m then kd else lf_kd P i k) ∧ upd (mb_I s 2) (12 * m + lf_len P m) (nI a) (12 * i + k) = nI (if i = m ∧ k = lf_len P m then a else lf_a P i k) ∧ upd (mb_I s 3) (12 * m + lf_len P m) (nI b) (12 * i + k) = nI (if i = m ∧ k = lf_len P m then b else lf_b P i k) ∧ upd (mb_I s 4) (12 * m + lf_len P m) (nI c) (12 * i + k) = nI (if i = m ∧ k = lf_len P m then c else lf_c P i k)
    rw [pu_upd, pu_upd, pu_upd, pu_upd]
    by_cases e : i = m ∧ k = lf_len P m
    · rw [if_pos e, if_pos e, if_pos e, if_pos e, if_pos (e1.mpr e), if_pos (e1.mpr e), if_pos (e1.mpr e), if_pos (e1.mpr e)]
      exact ⟨rfl, rfl, rfl, rfl⟩
    · rw [if_neg e, if_neg e, if_neg e, if_neg e, if_neg (fun z => e (e1.mp z)), if_neg (fun z => e (e1.mp z)), if_neg (fun z => e (e1.mp z)), if_neg (fun z => e (e1.mp z))]
      exact h2 i hi k (e2 e)
theorem mM_add_53 (h : lf_M P q s) (hok : lf_ok P q) {m kd : Nat} (hm : m < 6) (hkd : kd ≤ 10) (a b c : Nat) :
    (lf_len P m < 12 ∧ lf_tot P < 32 ∧ lf_cnt P kd < lf_most kd → ∃ s', mM_add_b53 (nI m) (nI kd) (nI a) (nI b) (nI c) (nI (lf_most kd)) s = some (nI (lf_len P m), s') ∧ lf_M (lf_add P m kd a b c) q s' ∧ mb_F s' 0 = 0 ∧ mb_F s' 2 = 0) ∧
    (¬ (lf_len P m < 12 ∧ lf_tot P < 32 ∧ lf_cnt P kd < lf_most kd) → mM_add_b53 (nI m) (nI kd) (nI a) (nI b) (nI c) (nI (lf_most kd)) s = some (-1, s)) := by
  have hl := hok.1 m hm
  have ht := hok.2.2.2.2.2.1
  have hc := lf_cnt_most hok kd
  have hc2 := lf_cnt_le P kd
  have hmo : lf_most kd ≤ 32 := by
    unfold lf_most
    by_cases e0 : kd = 0
    · rw [if_pos e0]; omega
    · rw [if_neg e0]
      by_cases e1 : kd < 3
      · rw [if_pos e1]; omega
      · rw [if_neg e1]; omega
  unfold mM_add_b53 mM_add_b92
  rw [me_ld hm (by decide), h.1 m hm, mM_before_t h hok, me_cal, mM_before_c h hok hkd, me_cal, pu_l12, pu_l32]
  by_cases c1 : lf_len P m = 12
  · rw [if_pos ((nI_eq (by omega) (by omega)).mpr c1)]
    exact ⟨fun z => by omega, fun _ => rfl⟩
  · rw [if_neg (fun z => c1 ((nI_eq (by omega) (by omega)).mp z))]
    by_cases c2 : lf_tot P = 32
    · rw [if_pos ((nI_eq (by omega) (by omega)).mpr c2)]
      exact ⟨fun z => by omega, fun _ => rfl⟩
    · rw [if_neg (fun z => c2 ((nI_eq (by omega) (by omega)).mp z))]
      by_cases c3 : lf_cnt P kd = lf_most kd
      · rw [if_pos ((nI_eq (by omega) (by omega)).mpr c3)]
        exact ⟨fun z => by omega, fun _ => rfl⟩
      · rw [if_neg (fun z => c3 ((nI_eq (by omega) (by omega)).mp z))]
        refine ⟨fun _ => ?_, fun z => absurd ⟨by omega, by omega, by omega⟩ z⟩
        rw [me_ld hm (by decide), h.1 m hm, me_bnd, ← pu_l12, me_12, me_stI (by omega) (by decide), me_stI (by omega) (by decide), me_stI (by omega) (by decide), me_stI (by omega) (by decide), me_ld hm (by decide)]
        rw [show mb_I (mb_setI (mb_setI (mb_setI (mb_setI s 1 (12 * m + lf_len P m) (nI kd)) 2 (12 * m + lf_len P m) (nI a)) 3 (12 * m + lf_len P m) (nI b)) 4 (12 * m + lf_len P m) (nI c)) 0 m = mb_I s 0 m from rfl, h.1 m hm, nI_1, me_stI hm (by decide), mM_change_e, me_cal, me_ld hm (by decide)]
        refine ⟨_, ?_, lf_M_add h hok hm (by omega) kd a b c, rfl, rfl⟩
        have e : mb_I (mb_setF (mb_setF (mb_setI (mb_setI (mb_setI (mb_setI (mb_setI s 1 (12 * m + lf_len P m) (nI kd)) 2 (12 * m + lf_len P m) (nI a)) 3 (12 * m + lf_len P m) (nI b)) 4 (12 * m + lf_len P m) (nI c)) 0 m (nI (lf_len P m + 1))) 0 0) 2 0) 0 m = nI (lf_len P m + 1) := by
          show upd (mb_I s 0) m (nI (lf_len P m + 1)) m = _
          rw [pu_upd, if_pos rfl]
        rw [e, nI_pred]
theorem mM_add_head {m kd a b c : Nat} (hm : m < 6) (hkd : kd ≤ 10) (hop : lf_opOk kd a b c) : mM_add (nI m) (nI kd) (nI a) (nI b) (nI c) s = mM_add_b53 (nI m) (nI kd) (nI a) (nI b) (nI c) (nI (lf_most kd)) s := by
  unfold mM_add
  rcases mM_w5 (nI m) with ⟨-, e1⟩ | ⟨n1, -⟩
  · rcases mM_w10 (nI kd) with ⟨-, e2⟩ | ⟨n2, -⟩
    · rcases mM_operands_c hkd (nI a) (nI b) (nI c) with ⟨-, e3⟩ | ⟨n3, -⟩
      · rw [e1, me_cal0, if_neg me_10, e2, me_cal0, if_neg me_10, e3, me_cal0, if_neg me_10]
        unfold lf_most
        by_cases c0 : kd = 0
        · rw [if_pos c0, if_pos ((pu_eq0 (by omega)).mpr c0)]; rfl
        · rw [if_neg c0, if_neg (fun z => c0 ((pu_eq0 (by omega)).mp z)), pu_l2]
          by_cases c1 : kd < 3
          · rw [if_pos c1, if_neg (fun z => absurd ((nI_ltI (by omega) (by omega)).mp z) (by omega))]; rfl
          · rw [if_neg c1, if_pos ((nI_ltI (by omega) (by omega)).mpr (by omega))]; rfl
      · exact absurd (lf_op_fit hop) n3
    · exact absurd ⟨kd, by omega, rfl⟩ n2
  · exact absurd ⟨m, hm, rfl⟩ n1
theorem mM_add_yes (h : lf_M P q s) (hok : lf_ok P q) {x1 x2 x3 x4 x5 : Int32} {m kd a b c : Nat} (ha : lf_acc P x1 x2 x3 x4 x5 m kd a b c) : ∃ s', mM_add x1 x2 x3 x4 x5 s = some (nI (lf_len P m), s') ∧ lf_M (lf_add P m kd a b c) q s' ∧ mb_F s' 0 = 0 ∧ mb_F s' 2 = 0 := by
  obtain ⟨rfl, rfl, rfl, rfl, rfl, hm, hkd, hop, hl, ht, hc⟩ := ha
  rw [mM_add_head hm hkd hop]
  exact (mM_add_53 h hok hm hkd a b c).1 ⟨hl, ht, hc⟩
theorem mM_add_no (h : lf_M P q s) (hok : lf_ok P q) {x1 x2 x3 x4 x5 : Int32} (ha : ∀ m kd a b c, ¬ lf_acc P x1 x2 x3 x4 x5 m kd a b c) : mM_add x1 x2 x3 x4 x5 s = some (-1, s) := by
  by_cases hv : lf_is x1 6 ∧ lf_is x2 11
  · obtain ⟨⟨m, hm, rfl⟩, ⟨kd, hkd, rfl⟩⟩ := hv
    by_cases hf : lf_fit kd x3 x4 x5
    · obtain ⟨a, b, c, rfl, rfl, rfl, hop⟩ := lf_fit_op (by omega) hf
      rw [mM_add_head hm (by omega) hop]
      exact (mM_add_53 h hok hm (by omega) a b c).2 (fun z => ha m kd a b c ⟨rfl, rfl, rfl, rfl, rfl, hm, by omega, hop, z⟩)
    · unfold mM_add mM_add_b31
      rcases mM_w5 (nI m) with ⟨-, e1⟩ | ⟨n1, e1⟩
      · rcases mM_w10 (nI kd) with ⟨-, e2⟩ | ⟨n2, e2⟩
        · rcases mM_operands_c (show kd ≤ 10 by omega) x3 x4 x5 with ⟨z, -⟩ | ⟨-, e3⟩
          · exact absurd z hf
          · rw [e1, me_cal0, if_neg me_10, e2, me_cal0, if_neg me_10, e3, me_cal0, if_pos rfl]
        · rw [e1, me_cal0, if_neg me_10, e2, me_cal0, if_pos rfl]
      · rw [e1, me_cal0, if_pos rfl]
  · unfold mM_add mM_add_b31
    rcases mM_w5 x1 with ⟨p1, e1⟩ | ⟨n1, e1⟩
    · rcases mM_w10 x2 with ⟨p2, e2⟩ | ⟨n2, e2⟩
      · exact absurd ⟨p1, p2⟩ hv
      · rw [e1, me_cal0, if_neg me_10, e2, me_cal0, if_pos rfl]
    · rw [e1, me_cal0, if_pos rfl]
theorem mM_drop_yes (h : lf_M P q s) (hok : lf_ok P q) {m : Nat} (hm : m < 6) (h0 : 0 < lf_len P m) : ∃ s', mM_drop (nI m) s = some (1, s') ∧ lf_M (lf_drop P m) q s' ∧ mb_F s' 0 = 0 ∧ mb_F s' 2 = 0 := by
  have hl := hok.1 m hm
  unfold mM_drop
  rcases mM_w5 (nI m) with ⟨-, e1⟩ | ⟨n1, -⟩
  · rw [e1, me_cal0, if_neg me_10, me_ld hm (by decide), h.1 m hm, if_neg (nI_ne0 h0 (by omega)), me_ld hm (by decide), h.1 m hm, me_stI hm (by decide), mM_change_e, me_cal, me_rZ1]
    refine ⟨_, rfl, ⟨fun i hi => ?_, fun i hi k hk => ?_, h.2.2⟩, rfl, rfl⟩
    · rw [lf_drop_len]
      show upd (mb_I s 0) m (nI (lf_len P m) - 1) i = _
      rw [pu_upd]
      by_cases e : i = m
      · rw [if_pos e, if_pos e]
        obtain ⟨z, hz⟩ : ∃ z, lf_len P m = z + 1 := ⟨lf_len P m - 1, by omega⟩
        rw [hz, nI_pred]; rfl
      · rw [if_neg e, if_neg e]; exact h.1 i hi
    · refine h.2.1 i hi k ?_
      rw [lf_drop_len] at hk
      by_cases e : i = m
      · subst e; rw [if_pos rfl] at hk; omega
      · rw [if_neg e] at hk; exact hk
  · exact absurd ⟨m, hm, rfl⟩ n1
theorem mM_drop_no (h : lf_M P q s) {x : Int32} (hx : ∀ m, m < 6 → x = nI m → lf_len P m = 0) : mM_drop x s = some (0, s) := by
  unfold mM_drop mM_drop_b18
  rcases mM_w5 x with ⟨⟨m, hm, rfl⟩, e1⟩ | ⟨n1, e1⟩
  · rw [e1, me_cal0, if_neg me_10, me_ld hm (by decide), h.1 m hm, hx m hm rfl, nI_0, if_pos rfl, me_rZ0]
  · rw [e1, me_cal0, if_pos rfl, me_rZ0]
theorem mM_derive_yes (h : lf_M P q s) {c : Nat} (hc : c < 4) {p : Option Nat} (hp : ∀ n, p = some n → n < c) : ∃ s', mM_derive (nI c) (lf_o p) s = some (1, s') ∧ lf_M P (lf_der q c p) s' ∧ mb_F s' 0 = 0 ∧ mb_F s' 2 = 0 := by
  unfold mM_derive
  rcases mM_w3 (nI c) with ⟨-, e1⟩ | ⟨n1, -⟩
  · have hh : (nI c - 1).toInt = (c : Int) - 1 := by
      show (nI c - nI 1).toInt = _
      rw [pk_sub_toInt (by omega) (by omega)]; rfl
    rcases mM_within_o (lf_o p) (nI c - 1) (N := c) (by omega) hh with ⟨-, e2⟩ | ⟨n2, -⟩
    · rw [e1, me_cal0, if_neg me_10, e2, me_cal0, if_neg me_10, me_stI hc (by decide), mM_change_e, me_cal, me_rZ1]
      refine ⟨_, rfl, ⟨h.1, h.2.1, fun i hi => ?_, h.2.2.2⟩, rfl, rfl⟩
      show upd (mb_I s 5) c (lf_o p) i = lf_o (if i = c then p else lf_par q i)
      rw [pu_upd]
      by_cases e : i = c
      · rw [if_pos e, if_pos e]
      · rw [if_neg e, if_neg e]; exact h.2.2.1 i hi
    · exact absurd ⟨p, rfl, hp⟩ n2
  · exact absurd ⟨c, hc, rfl⟩ n1
theorem mM_derive_no {x y : Int32} (hx : ∀ c, c < 4 → x = nI c → ¬ lf_io y c) : mM_derive x y s = some (0, s) := by
  unfold mM_derive mM_derive_b20
  rcases mM_w3 x with ⟨⟨c, hc, rfl⟩, e1⟩ | ⟨n1, e1⟩
  · have hh : (nI c - 1).toInt = (c : Int) - 1 := by
      show (nI c - nI 1).toInt = _
      rw [pk_sub_toInt (by omega) (by omega)]; rfl
    rcases mM_within_o y (nI c - 1) (N := c) (by omega) hh with ⟨p2, -⟩ | ⟨-, e2⟩
    · exact absurd p2 (hx c hc rfl)
    · rw [e1, me_cal0, if_neg me_10, e2, me_cal0, if_pos rfl, me_rZ0]
  · rw [e1, me_cal0, if_pos rfl, me_rZ0]
theorem mM_wo5 (x : Int32) : (lf_io x 6 ∧ mM_within x (-1) 5 = some 1) ∨ (¬ lf_io x 6 ∧ mM_within x (-1) 5 = some 0) := mM_within_o x 5 (by decide) (by decide)
theorem mM_bind_yes (h : lf_M P q s) {c g : Nat} (hc : c < 4) (hg : g < 3) {t : Option Nat} (ht : ∀ n, t = some n → n < 6) : ∃ s', mM_bind (nI c) (nI g) (lf_o t) s = some (1, s') ∧ lf_M P (lf_bin q c g t) s' ∧ mb_F s' 0 = 0 ∧ mb_F s' 2 = 0 := by
  unfold mM_bind
  rcases mM_w3 (nI c) with ⟨-, e1⟩ | ⟨n1, -⟩
  · rcases mM_w2 (nI g) with ⟨-, e2⟩ | ⟨n2, -⟩
    · rcases mM_wo5 (lf_o t) with ⟨-, e3⟩ | ⟨n3, -⟩
      · rw [e1, me_cal0, if_neg me_10, e2, me_cal0, if_neg me_10, e3, me_cal0, if_neg me_10, me_3, me_stI (by omega) (by decide), mM_change_e, me_cal, me_rZ1]
        refine ⟨_, rfl, ⟨h.1, h.2.1, h.2.2.1, fun i hi j hj => ?_⟩, rfl, rfl⟩
        show upd (mb_I s 6) (3 * c + g) (lf_o t) (3 * i + j) = lf_o (if i = c ∧ j = g then t else lf_bd q i j)
        rw [pu_upd]
        by_cases e : i = c ∧ j = g
        · rw [if_pos e, if_pos (by omega)]
        · rw [if_neg e, if_neg (by omega)]; exact h.2.2.2 i hi j hj
      · exact absurd ⟨t, rfl, ht⟩ n3
    · exact absurd ⟨g, hg, rfl⟩ n2
  · exact absurd ⟨c, hc, rfl⟩ n1
theorem mM_bind_no {x y z : Int32} (hx : ¬ (lf_is x 4 ∧ lf_is y 3 ∧ lf_io z 6)) : mM_bind x y z s = some (0, s) := by
  unfold mM_bind mM_bind_b27
  rcases mM_w3 x with ⟨p1, e1⟩ | ⟨n1, e1⟩
  · rcases mM_w2 y with ⟨p2, e2⟩ | ⟨n2, e2⟩
    · rcases mM_wo5 z with ⟨p3, e3⟩ | ⟨n3, e3⟩
      · exact absurd ⟨p1, p2, p3⟩ hx
      · rw [e1, me_cal0, if_neg me_10, e2, me_cal0, if_neg me_10, e3, me_cal0, if_pos rfl, me_rZ0]
    · rw [e1, me_cal0, if_neg me_10, e2, me_cal0, if_pos rfl, me_rZ0]
  · rw [e1, me_cal0, if_pos rfl, me_rZ0]
theorem mM_size_yes (h : lf_M P q s) {m : Nat} (hm : m < 6) : mM_size (nI m) s = some (nI (lf_len P m), s) := by
  unfold mM_size mM_size_b19
  rcases mM_w5 (nI m) with ⟨-, e1⟩ | ⟨n1, -⟩
  · rw [e1, me_cal0, if_neg me_10, me_ld hm (by decide), h.1 m hm]
  · exact absurd ⟨m, hm, rfl⟩ n1
theorem mM_size_no {x : Int32} (hx : ¬ lf_is x 6) : mM_size x s = some (0, s) := by
  unfold mM_size mM_size_b19
  rcases mM_w5 x with ⟨p1, -⟩ | ⟨-, e1⟩
  · exact absurd p1 hx
  · rw [e1, me_cal0, if_pos rfl]
end CHM
