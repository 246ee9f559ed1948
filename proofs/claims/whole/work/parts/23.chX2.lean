section CHX
variable {P : lf_P} {q : lf_Q} {s : mb_S}
theorem mX_forget_e : mX_forget s = some ((), mb_setF (mb_setF s 0 0) 10 0) := rfl
theorem lf_X.forget (h : lf_X P q s) : lf_X P q (mb_setF (mb_setF s 0 0) 10 0) := h
theorem mb_most_e {j : Nat} (h : j < 11) : mb_most j = nI (lf_most j) := by
  unfold mb_most lf_most
  by_cases e0 : j = 0
  · rw [if_pos e0, if_pos e0]; rfl
  · rw [if_neg e0, if_neg e0]
    by_cases e1 : j < 3
    · rw [if_pos e1, if_pos e1]; rfl
    · rw [if_neg e1, if_neg e1]; rfl
theorem lf_most_le (kd : Nat) : lf_most kd ≤ 32 := by
  unfold lf_most
  by_cases e0 : kd = 0
  · rw [if_pos e0]; omega
  · rw [if_neg e0]
    by_cases e1 : kd < 3
    · rw [if_pos e1]; omega
    · rw [if_neg e1]; omega
theorem mP_takes_e (h : lf_X P q s) (hok : lf_ok P q) {m kd : Nat} (hm : m < 6) (hkd : kd ≤ 10) : mP_takes (nI m) (nI kd) s = some (if lf_len P m < 12 ∧ lf_tot P < 32 ∧ lf_cnt P kd < lf_most kd then 1 else 0, s) := by
  have hl := hok.1 m hm
  have ht := hok.2.2.2.2.2.1
  have hc := lf_cnt_most hok kd
  have hmo := lf_most_le kd
  unfold mP_takes mP_takes_b56 mP_takes_b57
  rcases mX_i6 (nI m) with ⟨-, e1⟩ | ⟨n1, -⟩
  · rcases mX_i11 (nI kd) with ⟨-, e2⟩ | ⟨n2, -⟩
    · rw [e1, me_cal0, if_neg me_10, e2, me_cal0, if_neg me_10, me_ld hm (by decide), h.1 m hm, me_ld (by omega) (by decide), h.2.2.2.2.1 kd (by omega), me_ld (by omega) (by decide), mb_most_e (by omega), h.2.2.2.2.2.2.2, pu_l12, pu_l32]
      by_cases c1 : 12 ≤ lf_len P m
      · rw [if_pos ((nI_leI (by omega) (by omega)).mpr c1), if_neg (by omega), me_rZ0]
      · rw [if_neg (fun z => c1 ((nI_leI (by omega) (by omega)).mp z))]
        by_cases c2 : 32 ≤ lf_tot P
        · rw [if_pos ((nI_leI (by omega) (by omega)).mpr c2), if_neg (by omega), me_rZ0]
        · rw [if_neg (fun z => c2 ((nI_leI (by omega) (by omega)).mp z))]
          by_cases c3 : lf_most kd ≤ lf_cnt P kd
          · rw [if_pos ((nI_leI (by omega) (by omega)).mpr c3), if_neg (by omega), me_rZ0]
          · rw [if_neg (fun z => c3 ((nI_leI (by omega) (by omega)).mp z)), if_pos ⟨by omega, by omega, by omega⟩, me_rZ1]
    · exact absurd ⟨kd, by omega, rfl⟩ n2
  · exact absurd ⟨m, hm, rfl⟩ n1
theorem mP_takes_n {x y : Int32} (hn : ¬ (lf_is x 6 ∧ lf_is y 11)) : mP_takes x y s = some (0, s) := by
  unfold mP_takes mP_takes_b56 mP_takes_b57
  rcases mX_i6 x with ⟨p1, e1⟩ | ⟨n1, e1⟩
  · rcases mX_i11 y with ⟨p2, e2⟩ | ⟨n2, e2⟩
    · exact absurd ⟨p1, p2⟩ hn
    · rw [e1, me_cal0, if_neg me_10, e2, me_cal0, if_pos rfl, me_rZ0]
  · rw [e1, me_cal0, if_pos rfl, me_rZ0]
theorem lf_X0_add (h : lf_X P q s) (hok : lf_ok P q) {m : Nat} (hm : m < 6) (hl : lf_len P m < 12) (kd a b c : Nat) : lf_X0 (lf_add P m kd a b c) q (mb_setF (mb_setI (mb_setI (mb_setI (mb_setI (mb_setI s 0 (13 * m + lf_len P m) (nI kd)) 1 (13 * m + lf_len P m) (nI a)) 2 (13 * m + lf_len P m) (nI b)) 3 (13 * m + lf_len P m) (nI c)) 5 m (nI (lf_len P m + 1))) 1 (nI (lf_tot P + 1))) := by
  obtain ⟨h1, h2, h3, h4, -⟩ := h.x0
  have hx : ∀ i, i < 6 → ∀ k, k < lf_len (lf_add P m kd a b c) i → (13 * i + k = 13 * m + lf_len P m ↔ i = m ∧ k = lf_len P m) ∧ (¬ (i = m ∧ k = lf_len P m) → k < lf_len P i) := by
    intro i hi k hk
    rw [lf_add_len] at hk
    have := hok.1 i hi
    by_cases e : i = m
    · subst e; rw [if_pos rfl] at hk; omega
    · rw [if_neg e] at hk; omega
  refine ⟨fun i hi => ?_, fun i hi k hk => ?_, h3, h4, ?_⟩
  · rw [lf_add_len]
    show upd (mb_I s 5) m (nI (lf_len P m + 1)) i = _
    rw [pu_upd]
    by_cases e : i = m
    · rw [if_pos e, if_pos e]
    · rw [if_neg e, if_neg e]; exact h1 i hi
  · obtain ⟨e1, e2⟩ := hx i hi k hk
    show upd (mb_I s 0) (13 * m + lf_len P m) (nI kd) (13 * i + k) = nI (if i = m ∧ k = lf_len P m then kd else lf_kd P i k) ∧ upd (mb_I s 1) (13 * m + lf_len P m) (nI a) (13 * i + k) = nI (if i = m ∧ k = lf_len P m then a else lf_a P i k) ∧ upd (mb_I s 2) (13 * m + lf_len P m) (nI b) (13 * i + k) = nI (if i = m ∧ k = lf_len P m then b else lf_b P i k) ∧ upd (mb_I s 3) (13 * m + lf_len P m) (nI c) (13 * i + k) = nI (if i = m ∧ k = lf_len P m then c else lf_c P i k)
    rw [pu_upd, pu_upd, pu_upd, pu_upd]
    by_cases e : i = m ∧ k = lf_len P m
    · rw [if_pos e, if_pos e, if_pos e, if_pos e, if_pos (e1.mpr e), if_pos (e1.mpr e), if_pos (e1.mpr e), if_pos (e1.mpr e)]
      exact ⟨rfl, rfl, rfl, rfl⟩
    · rw [if_neg e, if_neg e, if_neg e, if_neg e, if_neg (fun z => e (e1.mp z)), if_neg (fun z => e (e1.mp z)), if_neg (fun z => e (e1.mp z)), if_neg (fun z => e (e1.mp z))]
      exact h2 i hi k (e2 e)
  · rw [lf_add_tot P kd a b c hm]; rfl
theorem mP_append_e (h : lf_X P q s) (hok : lf_ok P q) {m kd a b c : Nat} (hm : m < 6) (hl : lf_len P m < 12) (hok' : lf_ok (lf_add P m kd a b c) q) : pu_wp (mP_append (nI m) (nI kd) (nI a) (nI b) (nI c) s) (fun r => r.1 = nI (lf_len P m) ∧ lf_X (lf_add P m kd a b c) q r.2) := by
  unfold mP_append
  rw [me_ld hm (by decide), h.1 m hm, me_bnd, me_13, me_stI (by omega) (by decide), me_stI (by omega) (by decide), me_stI (by omega) (by decide), me_stI (by omega) (by decide), me_ld hm (by decide)]
  rw [show mb_I (mb_setI (mb_setI (mb_setI (mb_setI s 0 (13 * m + lf_len P m) (nI kd)) 1 (13 * m + lf_len P m) (nI a)) 2 (13 * m + lf_len P m) (nI b)) 3 (13 * m + lf_len P m) (nI c)) 5 = mb_I s 5 from rfl, h.1 m hm, nI_1, me_stI hm (by decide), me_putF]
  rw [show mb_F (mb_setI (mb_setI (mb_setI (mb_setI (mb_setI s 0 (13 * m + lf_len P m) (nI kd)) 1 (13 * m + lf_len P m) (nI a)) 2 (13 * m + lf_len P m) (nI b)) 3 (13 * m + lf_len P m) (nI c)) 5 m (nI (lf_len P m + 1))) 1 = mb_F s 1 from rfl, h.2.2.2.2.2.2.2, nI_1, pu_cal]
  refine pu_mono (mP_renumber_e hok' (lf_X0_add h hok hm hl kd a b c)) (fun r hr => ?_)
  rw [pu_some]
  exact ⟨rfl, hr.1⟩
theorem mX_add_yes (h : lf_X P q s) (hok : lf_ok P q) {x1 x2 x3 x4 x5 : Int32} {m kd a b c : Nat} (ha : lf_acc P x1 x2 x3 x4 x5 m kd a b c) : ∃ s', mX_add x1 x2 x3 x4 x5 s = some (nI (lf_len P m), s') ∧ lf_X (lf_add P m kd a b c) q s' ∧ mb_F s' 0 = 0 ∧ mb_F s' 10 = 0 := by
  obtain ⟨rfl, rfl, rfl, rfl, rfl, hm, hkd, hop, hl, ht, hc⟩ := ha
  unfold mX_add
  rw [mP_takes_e h hok hm hkd, if_pos ⟨hl, ht, hc⟩, me_cal, if_neg me_10]
  rcases mX_operandsFit_c hkd (nI a) (nI b) (nI c) with ⟨-, e3⟩ | ⟨n3, -⟩
  · rw [e3, me_cal0, if_neg me_10]
    obtain ⟨⟨v, t⟩, e, hv, hX⟩ := mP_append_e h hok hm hl (lf_add_ok hok hm hl ht hc hop)
    rw [e, me_cal, mX_forget_e, me_cal]
    exact ⟨_, by rw [show v = nI (lf_len P m) from hv], hX.forget, rfl, rfl⟩
  · exact absurd (lf_op_fit hop) n3
theorem mX_add_no (h : lf_X P q s) (hok : lf_ok P q) {x1 x2 x3 x4 x5 : Int32} (ha : ∀ m kd a b c, ¬ lf_acc P x1 x2 x3 x4 x5 m kd a b c) : mX_add x1 x2 x3 x4 x5 s = some (-1, s) := by
  unfold mX_add mX_add_b24
  by_cases hv : lf_is x1 6 ∧ lf_is x2 11
  · obtain ⟨⟨m, hm, rfl⟩, ⟨kd, hkd, rfl⟩⟩ := hv
    rw [mP_takes_e h hok hm (by omega), me_cal]
    by_cases hc : lf_len P m < 12 ∧ lf_tot P < 32 ∧ lf_cnt P kd < lf_most kd
    · rw [if_pos hc, if_neg me_10]
      rcases mX_operandsFit_c (show kd ≤ 10 by omega) x3 x4 x5 with ⟨hf, -⟩ | ⟨-, e3⟩
      · obtain ⟨a, b, c, rfl, rfl, rfl, hop⟩ := lf_fit_op (by omega) hf
        exact absurd ⟨rfl, rfl, rfl, rfl, rfl, hm, by omega, hop, hc⟩ (ha m kd a b c)
      · rw [e3, me_cal0, if_pos rfl]
    · rw [if_neg hc, if_pos rfl]
  · rw [mP_takes_n hv, me_cal, if_pos rfl]
theorem mX_drop_yes (h : lf_X P q s) (hok : lf_ok P q) {m : Nat} (hm : m < 6) (h0 : 0 < lf_len P m) : ∃ s', mX_drop (nI m) s = some (1, s') ∧ lf_X (lf_drop P m) q s' ∧ mb_F s' 0 = 0 ∧ mb_F s' 10 = 0 := by
  have hl := hok.1 m hm
  unfold mX_drop mP_cutLast
  rcases mX_i6 (nI m) with ⟨-, e1⟩ | ⟨n1, -⟩
  · rw [e1, me_cal0, if_neg me_10, me_ld hm (by decide), h.1 m hm, if_neg (nI_ne0 h0 (by omega)), me_ld hm (by decide), h.1 m hm, me_stI hm (by decide), me_putF, show mb_F (mb_setI s 5 m (nI (lf_len P m) - 1)) 1 = mb_F s 1 from rfl, h.2.2.2.2.2.2.2]
    have hX0 : lf_X0 (lf_drop P m) q (mb_setF (mb_setI s 5 m (nI (lf_len P m) - 1)) 1 (nI (lf_tot P) - 1)) := by
      refine ⟨fun i hi => ?_, fun i hi k hk => ?_, h.2.2.1, h.2.2.2.1, ?_⟩
      · rw [lf_drop_len]
        show upd (mb_I s 5) m (nI (lf_len P m) - 1) i = _
        rw [pu_upd]
        by_cases e : i = m
        · rw [if_pos e, if_pos e]
          obtain ⟨z, hz⟩ : ∃ z, lf_len P m = z + 1 := ⟨lf_len P m - 1, by omega⟩
          rw [hz, nI_pred]; rfl
        · rw [if_neg e, if_neg e]; exact h.1 i hi
      · refine h.x0.2.1 i hi k ?_
        rw [lf_drop_len] at hk
        by_cases e : i = m
        · subst e; rw [if_pos rfl] at hk; omega
        · rw [if_neg e] at hk; exact hk
      · show nI (lf_tot P) - 1 = _
        rw [← lf_drop_tot P hm h0, nI_pred]
    obtain ⟨⟨v, t⟩, e, hX, -⟩ := mP_renumber_e (lf_drop_ok hok hm h0) hX0
    rw [e, me_cal, me_cal, mX_forget_e, me_cal, me_rZ1]
    exact ⟨_, rfl, hX.forget, rfl, rfl⟩
  · exact absurd ⟨m, hm, rfl⟩ n1
theorem mX_drop_no (h : lf_X P q s) {x : Int32} (hx : ∀ m, m < 6 → x = nI m → lf_len P m = 0) : mX_drop x s = some (0, s) := by
  unfold mX_drop mX_drop_b21
  rcases mX_i6 x with ⟨⟨m, hm, rfl⟩, e1⟩ | ⟨n1, e1⟩
  · rw [e1, me_cal0, if_neg me_10, me_ld hm (by decide), h.1 m hm, hx m hm rfl, nI_0, if_pos rfl, me_rZ0]
  · rw [e1, me_cal0, if_pos rfl, me_rZ0]
theorem mX_derive_yes (h : lf_X P q s) {c : Nat} (hc : c < 4) {p : Option Nat} (hp : ∀ n, p = some n → n < c) : ∃ s', mX_derive (nI c) (lf_o p) s = some (1, s') ∧ lf_X P (lf_der q c p) s' ∧ mb_F s' 0 = 0 ∧ mb_F s' 10 = 0 := by
  unfold mX_derive
  have hr : ∃ s', mX_derive_b23 (nI c) (lf_o p) s = some (1, s') ∧ lf_X P (lf_der q c p) s' ∧ mb_F s' 0 = 0 ∧ mb_F s' 10 = 0 := by
    unfold mX_derive_b23
    rw [me_stI hc (by decide), mX_forget_e, me_cal, me_rZ1]
    refine ⟨_, rfl, ⟨h.1, h.2.1, fun i hi => ?_, h.2.2.2⟩, rfl, rfl⟩
    show upd (mb_I s 9) c (lf_o p) i = lf_o (if i = c then p else lf_par q i)
    rw [pu_upd]
    by_cases e : i = c
    · rw [if_pos e, if_pos e]
    · rw [if_neg e, if_neg e]; exact h.2.2.1 i hi
  rcases mX_i4 (nI c) with ⟨-, e1⟩ | ⟨n1, -⟩
  · rw [e1, me_cal0, if_neg me_10]
    cases p with
    | none => rw [lf_o_none, if_pos rfl]; exact hr
    | some n =>
      have hn := hp n rfl
      rw [lf_o_some, if_neg (pu_ne (by omega))]
      rcases mX_isBelow_c (nI n) (N := c) (by omega) with ⟨-, e2⟩ | ⟨n2, -⟩
      · rw [e2, me_cal0, if_neg me_10]; exact hr
      · exact absurd ⟨n, hn, rfl⟩ n2
  · exact absurd ⟨c, hc, rfl⟩ n1
theorem mX_derive_no {x y : Int32} (hx : ∀ c, c < 4 → x = nI c → ¬ lf_io y c) : mX_derive x y s = some (0, s) := by
  unfold mX_derive mX_derive_b21
  rcases mX_i4 x with ⟨⟨c, hc, rfl⟩, e1⟩ | ⟨n1, e1⟩
  · have hn := hx c hc rfl
    rw [lf_io_iff] at hn
    rw [e1, me_cal0, if_neg me_10, if_neg (fun z => hn (Or.inl z))]
    rcases mX_isBelow_c y (N := c) (by omega) with ⟨p2, -⟩ | ⟨-, e2⟩
    · exact absurd (Or.inr p2) hn
    · rw [e2, me_cal0, if_pos rfl, me_rZ0]
  · rw [e1, me_cal0, if_pos rfl, me_rZ0]
theorem mX_bind_yes (h : lf_X P q s) {c g : Nat} (hc : c < 4) (hg : g < 3) {t : Option Nat} (ht : ∀ n, t = some n → n < 6) : ∃ s', mX_bind (nI c) (nI g) (lf_o t) s = some (1, s') ∧ lf_X P (lf_bin q c g t) s' ∧ mb_F s' 0 = 0 ∧ mb_F s' 10 = 0 := by
  unfold mX_bind
  have hr : ∃ s', mX_bind_b32 (nI c) (nI g) (lf_o t) s = some (1, s') ∧ lf_X P (lf_bin q c g t) s' ∧ mb_F s' 0 = 0 ∧ mb_F s' 10 = 0 := by
    unfold mX_bind_b32
    rw [me_3r, me_stI (by omega) (by decide), mX_forget_e, me_cal, me_rZ1]
    refine ⟨_, rfl, ⟨h.1, h.2.1, h.2.2.1, fun i hi j hj => ?_, h.2.2.2.2⟩, rfl, rfl⟩
    show upd (mb_I s 10) (3 * c + g) (lf_o t) (3 * i + j) = lf_o (if i = c ∧ j = g then t else lf_bd q i j)
    rw [pu_upd]
    by_cases e : i = c ∧ j = g
    · rw [if_pos e, if_pos (by omega)]
    · rw [if_neg e, if_neg (by omega)]; exact h.2.2.2.1 i hi j hj
  rcases mX_i4 (nI c) with ⟨-, e1⟩ | ⟨n1, -⟩
  · rcases mX_i3 (nI g) with ⟨-, e2⟩ | ⟨n2, -⟩
    · rw [e1, me_cal0, if_neg me_10, e2, me_cal0, if_neg me_10]
      cases t with
      | none => rw [lf_o_none, if_pos rfl]; exact hr
      | some n =>
        have hn := ht n rfl
        rw [lf_o_some, if_neg (pu_ne (by omega))]
        rcases mX_i6 (nI n) with ⟨-, e3⟩ | ⟨n3, -⟩
        · rw [e3, me_cal0, if_neg me_10]; exact hr
        · exact absurd ⟨n, hn, rfl⟩ n3
    · exact absurd ⟨g, hg, rfl⟩ n2
  · exact absurd ⟨c, hc, rfl⟩ n1
theorem mX_bind_no {x y z : Int32} (hx : ¬ (lf_is x 4 ∧ lf_is y 3 ∧ lf_io z 6)) : mX_bind x y z s = some (0, s) := by
  unfold mX_bind mX_bind_b30
  rcases mX_i4 x with ⟨p1, e1⟩ | ⟨n1, e1⟩
  · rcases mX_i3 y with ⟨p2, e2⟩ | ⟨n2, e2⟩
    · have hn : ¬ lf_io z 6 := fun w => hx ⟨p1, p2, w⟩
      rw [lf_io_iff] at hn
      rw [e1, me_cal0, if_neg me_10, e2, me_cal0, if_neg me_10, if_neg (fun w => hn (Or.inl w))]
      rcases mX_i6 z with ⟨p3, e3⟩ | ⟨n3, e3⟩
      · exact absurd (Or.inr p3) hn
      · rw [e3, me_cal0, if_pos rfl, me_rZ0]
    · rw [e1, me_cal0, if_neg me_10, e2, me_cal0, if_pos rfl, me_rZ0]
  · rw [e1, me_cal0, if_pos rfl, me_rZ0]
theorem mX_size_yes (h : lf_X P q s) {m : Nat} (hm : m < 6) : mX_size (nI m) s = some (nI (lf_len P m), s) := by
  unfold mX_size mX_size_b22
  rcases mX_i6 (nI m) with ⟨-, e1⟩ | ⟨n1, -⟩
  · rw [e1, me_cal0, if_neg me_10, me_ld hm (by decide), h.1 m hm]
  · exact absurd ⟨m, hm, rfl⟩ n1
theorem mX_size_no {x : Int32} (hx : ¬ lf_is x 6) : mX_size x s = some (0, s) := by
  unfold mX_size mX_size_b22
  rcases mX_i6 x with ⟨p1, -⟩ | ⟨-, e1⟩
  · exact absurd p1 hx
  · rw [e1, me_cal0, if_pos rfl]
theorem mX_target_e (h : lf_X P q s) (hok : lf_ok P q) {c g : Nat} (hc : c < 4) (hg : g < 3) : mX_target (nI c) (nI g) s = some (lf_o (lf_tgt q c g), s) := by
  unfold mX_target
  rcases mX_i4 (nI c) with ⟨-, e1⟩ | ⟨n1, -⟩
  · rcases mX_i3 (nI g) with ⟨-, e2⟩ | ⟨n2, -⟩
    · rw [e1, me_cal0, if_neg me_10, e2, me_cal0, if_neg me_10, mP_targetOf_e h hok hc hg, me_cal]
    · exact absurd ⟨g, hg, rfl⟩ n2
  · exact absurd ⟨c, hc, rfl⟩ n1
theorem mX_target_n {x y : Int32} (hn : ¬ (lf_is x 4 ∧ lf_is y 3)) : mX_target x y s = some (-1, s) := by
  unfold mX_target mX_target_b16
  rcases mX_i4 x with ⟨p1, e1⟩ | ⟨p1, e1⟩
  · rcases mX_i3 y with ⟨p2, e2⟩ | ⟨p2, e2⟩
    · exact absurd ⟨p1, p2⟩ hn
    · rw [e1, me_cal0, if_neg me_10, e2, me_cal0, if_pos rfl]
  · rw [e1, me_cal0, if_pos rfl]
end CHX
