theorem va_up_e {α : Type} (f : Nat → α) (k j : Nat) (v : α) : va_up f k v j = if j = k then v else f j := rfl
def lr_vok (r : lf_R) (w : lf_V) : Prop := w.2 < 16 ∧ ∀ o, w.1 = some o → o < lr_n r
theorem lr_vok0 (r : lf_R) : lr_vok r (none, 0) := ⟨by decide, fun o e => by cases e⟩
section RA
variable {P : lf_P} {q : lf_Q} {r : lf_R}
theorem lr_ok_put (h : lr_ok P r) (x : Nat) {w : lf_V} (hw : lr_vok r w) : lr_ok P (lr_put r x w) := by
  obtain ⟨h1, h2, h3, h4, h5, h6, h7, h8, h9⟩ := h
  refine ⟨h1, h2, h3, fun j hj => ?_, h5, h6, h7, h8, h9⟩
  show (va_up (lr_v r) (4 * (lr_d r - 1) + x) w j).2 < 16 ∧ ∀ o, (va_up (lr_v r) (4 * (lr_d r - 1) + x) w j).1 = some o → o < lr_n r
  rw [va_up_e]
  by_cases e : j = 4 * (lr_d r - 1) + x
  · rw [if_pos e]; exact hw
  · rw [if_neg e]; exact h4 j hj
theorem lr_ok_tv (h : lr_ok P r) (hd : 0 < lr_d r) {x : Nat} (hx : x < 4) : lr_vok r (lr_tv r x) := h.2.2.2.1 _ (by omega)
theorem lr_ok_go (h : lr_ok P r) (hd : 0 < lr_d r) {p : Nat} (hp : p ≤ lf_len P (lr_tm r)) : lr_ok P (lr_go r p) := by
  obtain ⟨h1, h2, h3, h4, h5, h6, h7, h8, h9⟩ := h
  refine ⟨h1, fun i hi => ?_, fun i hi => ?_, h4, h5, h6, h7, h8, h9⟩
  · refine ⟨(h2 i hi).1, ?_⟩
    show va_up (lr_pl r) (lr_d r - 1) p i ≤ lf_len P (lr_mt r i)
    rw [va_up_e]
    by_cases e : i = lr_d r - 1
    · rw [if_pos e, e]; exact hp
    · rw [if_neg e]; exact (h2 i hi).2
  · have hi' : i + 1 < lr_d r := hi
    show va_up (lr_pl r) (lr_d r - 1) p i < lf_len P (lr_mt r i) ∧ lf_kd P (lr_mt r i) (va_up (lr_pl r) (lr_d r - 1) p i) = 7
    rw [va_up_e, if_neg (by omega)]
    exact h3 i hi
theorem lr_ok_enter (h : lr_ok P r) (hd : lr_d r < 6) {m : Nat} (hm : m < 6) {v0 v1 : lf_V} (hv0 : lr_vok r v0) (hv1 : lr_vok r v1) (htop : 0 < lr_d r → lr_tp r < lf_len P (lr_tm r) ∧ lf_kd P (lr_tm r) (lr_tp r) = 7) : lr_ok P (lr_enter r m v0 v1) := by
  obtain ⟨h1, h2, h3, h4, h5, h6, h7, h8, h9⟩ := h
  refine ⟨?_, fun i hi => ?_, fun i hi => ?_, fun j hj => ?_, h5, h6, h7, h8, h9⟩
  · show lr_d r + 1 ≤ 6; omega
  · have hi' : i < lr_d r + 1 := hi
    show va_up (lr_mt r) (lr_d r) m i < 6 ∧ va_up (lr_pl r) (lr_d r) 0 i ≤ lf_len P (va_up (lr_mt r) (lr_d r) m i)
    rw [va_up_e, va_up_e]
    by_cases e : i = lr_d r
    · rw [if_pos e, if_pos e]; exact ⟨hm, Nat.zero_le _⟩
    · rw [if_neg e, if_neg e]; exact h2 i (by omega)
  · have hi' : i + 1 < lr_d r + 1 := hi
    show va_up (lr_pl r) (lr_d r) 0 i < lf_len P (va_up (lr_mt r) (lr_d r) m i) ∧ lf_kd P (va_up (lr_mt r) (lr_d r) m i) (va_up (lr_pl r) (lr_d r) 0 i) = 7
    rw [va_up_e, va_up_e, if_neg (by omega), if_neg (by omega)]
    by_cases e : i = lr_d r - 1
    · rw [e]; exact htop (by omega)
    · exact h3 i (by omega)
  · have hj' : j < 4 * (lr_d r + 1) := hj
    show lr_vok r (va_up (va_up (va_up (va_up (lr_v r) (4 * (lr_d r + 1 - 1) + 0) v0) (4 * (lr_d r + 1 - 1) + 1) v1) (4 * (lr_d r + 1 - 1) + 2) (none, 0)) (4 * (lr_d r + 1 - 1) + 3) (none, 0) j)
    rw [va_up_e, va_up_e, va_up_e, va_up_e]
    by_cases e3 : j = 4 * (lr_d r + 1 - 1) + 3
    · rw [if_pos e3]; exact lr_vok0 r
    · rw [if_neg e3]
      by_cases e2 : j = 4 * (lr_d r + 1 - 1) + 2
      · rw [if_pos e2]; exact lr_vok0 r
      · rw [if_neg e2]
        by_cases e1 : j = 4 * (lr_d r + 1 - 1) + 1
        · rw [if_pos e1]; exact hv1
        · rw [if_neg e1]
          by_cases e0 : j = 4 * (lr_d r + 1 - 1) + 0
          · rw [if_pos e0]; exact hv0
          · rw [if_neg e0]; exact h4 j (by omega)
theorem lr_ok_sd (h : lr_ok P r) {d : Nat} (hd : d ≤ lr_d r) : lr_ok P (lr_sd r d) := by
  obtain ⟨h1, h2, h3, h4, h5, h6, h7, h8, h9⟩ := h
  exact ⟨Nat.le_trans hd h1, fun i hi => h2 i (Nat.lt_of_lt_of_le hi hd), fun i hi => h3 i (Nat.lt_of_lt_of_le hi hd), fun j hj => h4 j (Nat.lt_of_lt_of_le hj (Nat.mul_le_mul_left 4 hd)), h5, h6, h7, h8, h9⟩
theorem lr_ok_leave (h : lr_ok P r) (hd : 0 < lr_d r) {w : lf_V} (hw : lr_vok r w) : lr_ok P (lr_leave P r w) := by
  unfold lr_leave
  by_cases e : lr_d r - 1 = 0
  · rw [if_pos e]; exact lr_ok_sd h (Nat.zero_le _)
  · rw [if_neg e]
    have h1 := lr_ok_sd h (d := lr_d r - 1) (Nat.sub_le _ _)
    have h2 := lr_ok_put h1 (lf_a P (lr_mt r (lr_d r - 2)) (lr_pl r (lr_d r - 2))) (w := w) hw
    refine lr_ok_go h2 (show 0 < lr_d r - 1 by omega) ?_
    show lr_pl r (lr_d r - 2) + 1 ≤ lf_len P (lr_mt r (lr_d r - 1 - 1))
    rw [show lr_d r - 1 - 1 = lr_d r - 2 by omega]
    exact (h.2.2.1 (lr_d r - 2) (by omega)).1
theorem lr_leave_d (w : lf_V) : lr_d (lr_leave P r w) = lr_d r - 1 := by
  unfold lr_leave
  by_cases e : lr_d r - 1 = 0
  · rw [if_pos e, e]; rfl
  · rw [if_neg e]; rfl
theorem lr_leave_n (w : lf_V) : lr_n (lr_leave P r w) = lr_n r := by
  unfold lr_leave
  by_cases e : lr_d r - 1 = 0
  · rw [if_pos e]; rfl
  · rw [if_neg e]; rfl
theorem lr_leave_st (w : lf_V) : lr_st (lr_leave P r w) = lr_st r := by
  unfold lr_leave
  by_cases e : lr_d r - 1 = 0
  · rw [if_pos e]; rfl
  · rw [if_neg e]; rfl
theorem lr_settle_ok : ∀ (n : Nat) {r : lf_R}, lr_ok P r → lr_ok P (lr_settle P n r)
  | 0, r, h => h
  | n + 1, r, h => by
    unfold lr_settle
    by_cases c : 0 < lr_d r ∧ lr_tp r = lf_len P (lr_tm r)
    · rw [if_pos c]; exact lr_settle_ok n (lr_ok_leave h c.1 (lr_vok0 r))
    · rw [if_neg c]; exact h
theorem lr_settle_st : ∀ (n : Nat) {r : lf_R}, lr_st (lr_settle P n r) = lr_st r
  | 0, r => rfl
  | n + 1, r => by
    unfold lr_settle
    by_cases c : 0 < lr_d r ∧ lr_tp r = lf_len P (lr_tm r)
    · rw [if_pos c, lr_settle_st n, lr_leave_st]
    · rw [if_neg c]
theorem lr_settle_end : ∀ (n : Nat) {r : lf_R}, lr_d r ≤ n → ¬ (0 < lr_d (lr_settle P n r) ∧ lr_tp (lr_settle P n r) = lf_len P (lr_tm (lr_settle P n r)))
  | 0, r, h => fun z => absurd z.1 (by show ¬ 0 < lr_d r; omega)
  | n + 1, r, h => by
    unfold lr_settle
    by_cases c : 0 < lr_d r ∧ lr_tp r = lf_len P (lr_tm r)
    · rw [if_pos c]; exact lr_settle_end n (by rw [lr_leave_d]; omega)
    · rw [if_neg c]; exact c
end RA
