theorem lx_shr : ∀ k, k < 208 → (nI k >>> ((4 : Int32) &&& 31)) - 1 = (if k < 16 then -1 else nI (k / 16 - 1)) := by decide +kernel
theorem lx_cln : ∀ k, k < 208 → nI k &&& (-16) = nI (k / 16 * 16) := by decide +kernel
theorem lx_lab : ∀ k, k < 208 → nI k &&& 15 = nI (k % 16) := by decide +kernel
theorem lx_or : ∀ k, k < 13 → ∀ a, a < 16 → ∀ b, b < 16 → (16 * k + a) ||| b = 16 * k + (a ||| b) := by decide +kernel
theorem lx_bit : ∀ k, k < 208 → ∀ i, i < 4 → pu_b (nI k) i = decide (k % 16 / 2 ^ i % 2 = 1) := by decide +kernel
theorem lx_shl : ∀ n, n < 13 → nI n <<< ((4 : Int32) &&& 31) = nI (16 * n) := by decide +kernel
theorem me_m32 {a : Nat} (h : a < 2 ^ 31) : nI a - nI a / (32 : Int32) * (32 : Int32) = nI (a % 32) := pk_rem (d := 32) h (by decide) (by decide)
theorem me_min {a b : Nat} (ha : a < 2 ^ 31) (hb : b < 2 ^ 31) : mb_min (nI a) (nI b) = nI (min a b) := by
  unfold mb_min
  by_cases c : b < a
  · rw [if_pos ((nI_ltI hb ha).mpr c), Nat.min_eq_right (by omega)]
  · rw [if_neg (fun z => c ((nI_ltI hb ha).mp z)), Nat.min_eq_left (by omega)]
theorem me_13o (i : Nat) : nI i * (13 : Int32) = nI (13 * i) := by
  show nI i * nI 13 = _
  rw [pk_mul, Nat.mul_comm]
theorem me_4ro (i : Nat) : nI i * (4 : Int32) = nI (4 * i) := by
  show nI i * nI 4 = _
  rw [pk_mul, Nat.mul_comm]
theorem me_2ro (i : Nat) : nI i * (2 : Int32) = nI (2 * i) := by
  show nI i * nI 2 = _
  rw [pk_mul, Nat.mul_comm]
def lf_frX : mb_S → mb_S → Prop := lf_fr (fun k => k = 5 ∨ k = 7 ∨ k = 8 ∨ k = 9) (fun k => 18 ≤ k ∧ k ≤ 23) (fun _ => False)
theorem lf_frX.X {P : lf_P} {q : lf_Q} {s t : mb_S} (hf : lf_frX s t) (h : lf_X P q s) : lf_X P q t := h.fr (fun k hk => hf.2.1 k (fun z => by omega)) (hf.1 1 (by decide))
section RX
variable {P : lf_P} {q : lf_Q} {r : lf_R} {s : mb_S}
theorem lr_pk_lt {w : lf_V} (hw : lr_vok r w) (hn : lr_n r ≤ 12) : lr_pk w < 208 := by
  obtain ⟨h1, h2⟩ := hw
  unfold lr_pk
  cases e : w.1 with
  | none => show w.2 < 208; omega
  | some o =>
    have := h2 o e
    show 16 * (o + 1) + w.2 < 208
    omega
theorem lr_pk_obj {w : lf_V} (hw : lr_vok r w) (hn : lr_n r ≤ 12) : (nI (lr_pk w) >>> ((4 : Int32) &&& 31)) - 1 = lf_o w.1 := by
  rw [lx_shr _ (lr_pk_lt hw hn)]
  obtain ⟨h1, h2⟩ := hw
  unfold lr_pk
  cases e : w.1 with
  | none =>
    show (if w.2 < 16 then (-1 : Int32) else _) = _
    rw [if_pos h1]; rfl
  | some o =>
    show (if 16 * (o + 1) + w.2 < 16 then (-1 : Int32) else nI ((16 * (o + 1) + w.2) / 16 - 1)) = nI o
    rw [if_neg (by omega), show (16 * (o + 1) + w.2) / 16 - 1 = o by omega]
theorem lr_pk_mod {w : lf_V} (hw : lr_vok r w) : lr_pk w % 16 = w.2 := by
  obtain ⟨h1, h2⟩ := hw
  unfold lr_pk
  cases e : w.1 with
  | none => show w.2 % 16 = w.2; omega
  | some o => show (16 * (o + 1) + w.2) % 16 = w.2; omega
theorem lr_pk_cln {w : lf_V} (hw : lr_vok r w) : lr_pk w / 16 * 16 = lr_pk (w.1, 0) := by
  obtain ⟨h1, h2⟩ := hw
  unfold lr_pk
  cases e : w.1 with
  | none => show w.2 / 16 * 16 = 0; omega
  | some o => show (16 * (o + 1) + w.2) / 16 * 16 = 16 * (o + 1) + 0; omega
theorem lr_pk_or {w : lf_V} (hw : lr_vok r w) (hn : lr_n r ≤ 12) {l : Nat} (hl : l < 16) : lr_pk w ||| l = lr_pk (w.1, w.2 ||| l) := by
  obtain ⟨h1, h2⟩ := hw
  unfold lr_pk
  cases e : w.1 with
  | none => rfl
  | some o =>
    have := h2 o e
    exact lx_or (o + 1) (by omega) w.2 h1 l hl
theorem mA_begin_e (h : lr_X r s) (hd : lr_d r < 6) (m : Nat) (v0 v1 : lf_V) : ∃ s', mA_begin (nI m) (nI (lr_pk v0)) (nI (lr_pk v1)) s = some ((), s') ∧ lr_X (lr_enter r m v0 v1) s' ∧ lf_frX s s' := by
  obtain ⟨h1, h2, h3, h4, h5, h6, h7, h8, h9⟩ := h
  unfold mA_begin
  rw [h1, me_stI hd (by decide), show mb_F (mb_setI s 18 (lr_d r) (nI m)) 5 = mb_F s 5 from rfl, h1, me_stI hd (by decide), me_13o]
  rw [show mb_F (mb_setI (mb_setI s 18 (lr_d r) (nI m)) 19 (lr_d r) (nI (13 * m))) 5 = mb_F s 5 from rfl, h1, me_4ro, me_stI (by omega) (by decide)]
  rw [show ∀ (u : mb_S) (j : Nat) (v : Int32), mb_F (mb_setI u 20 j v) 5 = mb_F u 5 from fun _ _ _ => rfl, show mb_F (mb_setI (mb_setI s 18 (lr_d r) (nI m)) 19 (lr_d r) (nI (13 * m))) 5 = mb_F s 5 from rfl, h1, me_4ro, nI_1, me_stI (by omega) (by decide)]
  rw [show ∀ (u : mb_S) (j k : Nat) (v w : Int32), mb_F (mb_setI (mb_setI u 20 j v) 20 k w) 5 = mb_F u 5 from fun _ _ _ _ _ => rfl, show mb_F (mb_setI (mb_setI s 18 (lr_d r) (nI m)) 19 (lr_d r) (nI (13 * m))) 5 = mb_F s 5 from rfl, h1, me_4ro, pu_l2, nI_add, me_stI (by omega) (by decide)]
  rw [show ∀ (u : mb_S) (j k l : Nat) (v w x : Int32), mb_F (mb_setI (mb_setI (mb_setI u 20 j v) 20 k w) 20 l x) 5 = mb_F u 5 from fun _ _ _ _ _ _ _ => rfl, show mb_F (mb_setI (mb_setI s 18 (lr_d r) (nI m)) 19 (lr_d r) (nI (13 * m))) 5 = mb_F s 5 from rfl, h1, me_4ro, pu_l3, nI_add, me_stI (by omega) (by decide), me_putF]
  refine ⟨_, rfl, ⟨?_, h2, h3, h4, fun i hi => ?_, fun j hj => ?_, h7, h8, h9⟩, ?_⟩
  · show mb_F s 5 + 1 = nI (lr_d r + 1)
    rw [h1, nI_1]
  · show upd (mb_I s 18) (lr_d r) (nI m) i = nI (va_up (lr_mt r) (lr_d r) m i) ∧ upd (mb_I s 19) (lr_d r) (nI (13 * m)) i = nI (13 * va_up (lr_mt r) (lr_d r) m i + va_up (lr_pl r) (lr_d r) 0 i)
    have hi' : i < lr_d r + 1 := hi
    rw [pu_upd, pu_upd, va_up_e, va_up_e]
    by_cases e : i = lr_d r
    · rw [if_pos e, if_pos e, if_pos e, if_pos e]; exact ⟨rfl, rfl⟩
    · rw [if_neg e, if_neg e, if_neg e, if_neg e]; exact h5 i (by omega)
  · have hj' : j < 4 * (lr_d r + 1) := hj
    show upd (upd (upd (upd (mb_I s 20) (4 * lr_d r) (nI (lr_pk v0))) (4 * lr_d r + 1) (nI (lr_pk v1))) (4 * lr_d r + 2) 0) (4 * lr_d r + 3) 0 j = nI (lr_pk (va_up (va_up (va_up (va_up (lr_v r) (4 * (lr_d r + 1 - 1) + 0) v0) (4 * (lr_d r + 1 - 1) + 1) v1) (4 * (lr_d r + 1 - 1) + 2) (none, 0)) (4 * (lr_d r + 1 - 1) + 3) (none, 0) j))
    rw [Nat.add_sub_cancel]
    simp only [pu_upd, va_up_e, Nat.add_zero]
    by_cases e3 : j = 4 * lr_d r + 3
    · rw [if_pos e3, if_pos e3]; rfl
    · rw [if_neg e3, if_neg e3]
      by_cases e2 : j = 4 * lr_d r + 2
      · rw [if_pos e2, if_pos e2]; rfl
      · rw [if_neg e2, if_neg e2]
        by_cases e1 : j = 4 * lr_d r + 1
        · rw [if_pos e1, if_pos e1]
        · rw [if_neg e1, if_neg e1]
          by_cases e0 : j = 4 * lr_d r
          · rw [if_pos e0, if_pos e0]
          · rw [if_neg e0, if_neg e0]; exact h6 j (by omega)
  · have b20 : 18 ≤ 20 ∧ 20 ≤ 23 := by decide
    exact ((((((lf_fr.rf.setI ⟨by decide, by decide⟩).setI ⟨by decide, by decide⟩).setI b20).setI b20).setI b20).setI b20).setF (Or.inl rfl)
theorem lr_X_sd (h : lr_X r s) {d : Nat} (hd : d ≤ lr_d r) : lr_X (lr_sd r d) (mb_setF s 5 (nI d)) := by
  obtain ⟨h1, h2, h3, h4, h5, h6, h7, h8, h9⟩ := h
  exact ⟨rfl, h2, h3, h4, fun i hi => h5 i (Nat.lt_of_lt_of_le hi hd), fun j hj => h6 j (Nat.lt_of_lt_of_le hj (Nat.mul_le_mul_left 4 hd)), h7, h8, h9⟩
theorem lr_X_go (h : lr_X r s) (p : Nat) : lr_X (lr_go r p) (mb_setI s 19 (lr_d r - 1) (nI (13 * lr_tm r + p))) := by
  obtain ⟨h1, h2, h3, h4, h5, h6, h7, h8, h9⟩ := h
  refine ⟨h1, h2, h3, h4, fun i hi => ⟨(h5 i hi).1, ?_⟩, h6, h7, h8, h9⟩
  show upd (mb_I s 19) (lr_d r - 1) (nI (13 * lr_tm r + p)) i = nI (13 * lr_mt r i + va_up (lr_pl r) (lr_d r - 1) p i)
  rw [pu_upd, va_up_e]
  by_cases e : i = lr_d r - 1
  · rw [if_pos e, if_pos e, e]; rfl
  · rw [if_neg e, if_neg e]; exact (h5 i hi).2
theorem lr_X_put (h : lr_X r s) (x : Nat) (w : lf_V) : lr_X (lr_put r x w) (mb_setI s 20 (4 * (lr_d r - 1) + x) (nI (lr_pk w))) := by
  obtain ⟨h1, h2, h3, h4, h5, h6, h7, h8, h9⟩ := h
  refine ⟨h1, h2, h3, h4, h5, fun j hj => ?_, h7, h8, h9⟩
  show upd (mb_I s 20) (4 * (lr_d r - 1) + x) (nI (lr_pk w)) j = nI (lr_pk (va_up (lr_v r) (4 * (lr_d r - 1) + x) w j))
  rw [pu_upd, va_up_e]
  by_cases e : j = 4 * (lr_d r - 1) + x
  · rw [if_pos e, if_pos e]
  · rw [if_neg e, if_neg e]; exact h6 j hj
theorem mA_endMethod_e (hX : lf_X P q s) (hpo : lf_ok P q) (h : lr_X r s) (hok : lr_ok P r) (hd : 0 < lr_d r) (w : lf_V) : ∃ s', mA_endMethod (nI (lr_pk w)) s = some ((), s') ∧ lr_X (lr_leave P r w) s' ∧ lf_frX s s' := by
  have hd6 := hok.1
  have hs := lr_X_sd h (d := lr_d r - 1) (Nat.sub_le _ _)
  unfold mA_endMethod mA_endMethod_b68 lr_leave
  rw [h.1, me_sub1 hd, me_putF, show mb_F (mb_setF s 5 (nI (lr_d r - 1))) 5 = nI (lr_d r - 1) from rfl]
  by_cases e : lr_d r - 1 = 0
  · rw [if_pos e, e, if_pos (show nI 0 ≤ 0 from by decide)]
    rw [e] at hs
    exact ⟨_, rfl, hs, lf_fr.rf.setF (Or.inl rfl)⟩
  · have hi : lr_d r - 2 < lr_d r := by omega
    have e19 : mb_I (mb_setF s 5 (nI (lr_d r - 1))) 19 (lr_d r - 1 - 1) = nI (13 * lr_mt r (lr_d r - 2) + lr_pl r (lr_d r - 2)) := (h.2.2.2.2.1 (lr_d r - 2) hi).2
    have hm := (hok.2.1 (lr_d r - 2) hi).1
    obtain ⟨hp, hkd⟩ := hok.2.2.1 (lr_d r - 2) (by omega)
    have hl := hpo.1 _ hm
    have hop := hpo.2.1 _ hm _ hp
    have e1 : mb_I (mb_setF s 5 (nI (lr_d r - 1))) 1 (13 * lr_mt r (lr_d r - 2) + lr_pl r (lr_d r - 2)) = nI (lf_a P (lr_mt r (lr_d r - 2)) (lr_pl r (lr_d r - 2))) := (hX.2.1 _ hm _ hp).2.1
    have ha : lf_a P (lr_mt r (lr_d r - 2)) (lr_pl r (lr_d r - 2)) < 4 := hop.2.2.1 (by rw [hkd]; omega)
    rw [if_neg e, if_neg (nI_nle (by omega) (by omega)), me_sub1 (by omega), me_ld (by omega) (by decide), e19, me_ld (by omega) (by decide), e1, me_4r, me_stI (by omega) (by decide)]
    have ht := lr_X_put hs (lf_a P (lr_mt r (lr_d r - 2)) (lr_pl r (lr_d r - 2))) w
    have ht : lr_X (lr_put (lr_sd r (lr_d r - 1)) (lf_a P (lr_mt r (lr_d r - 2)) (lr_pl r (lr_d r - 2))) w) (mb_setI (mb_setF s 5 (nI (lr_d r - 1))) 20 (4 * (lr_d r - 1 - 1) + lf_a P (lr_mt r (lr_d r - 2)) (lr_pl r (lr_d r - 2))) (nI (lr_pk w))) := ht
    rw [show ∀ (j : Nat) (v : Int32), mb_F (mb_setI (mb_setF s 5 (nI (lr_d r - 1))) 20 j v) 5 = nI (lr_d r - 1) from fun _ _ => rfl, me_sub1 (by omega), me_ld (by omega) (by decide)]
    rw [show ∀ (j : Nat) (v : Int32), mb_I (mb_setI (mb_setF s 5 (nI (lr_d r - 1))) 20 j v) 19 (lr_d r - 1 - 1) = nI (13 * lr_mt r (lr_d r - 2) + lr_pl r (lr_d r - 2)) from fun _ _ => e19, nI_1, me_stI (by omega) (by decide)]
    have hg := lr_X_go ht (lr_pl r (lr_d r - 2) + 1)
    exact ⟨_, rfl, hg, ((lf_fr.rf.setF (Or.inl rfl)).setI ⟨by decide, by decide⟩).setI ⟨by decide, by decide⟩⟩
end RX
