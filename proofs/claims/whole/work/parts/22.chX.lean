def lf_X0 (P : lf_P) (q : lf_Q) (s : mb_S) : Prop :=
  (∀ m, m < 6 → mb_I s 5 m = nI (lf_len P m)) ∧
  (∀ m, m < 6 → ∀ k, k < lf_len P m → mb_I s 0 (13 * m + k) = nI (lf_kd P m k) ∧ mb_I s 1 (13 * m + k) = nI (lf_a P m k) ∧ mb_I s 2 (13 * m + k) = nI (lf_b P m k) ∧ mb_I s 3 (13 * m + k) = nI (lf_c P m k)) ∧
  (∀ c, c < 4 → mb_I s 9 c = lf_o (lf_par q c)) ∧ (∀ c, c < 4 → ∀ g, g < 3 → mb_I s 10 (3 * c + g) = lf_o (lf_bd q c g)) ∧ mb_F s 1 = nI (lf_tot P)
theorem lf_X.x0 {P : lf_P} {q : lf_Q} {s : mb_S} (h : lf_X P q s) : lf_X0 P q s :=
  ⟨h.1, fun m hm k hk => ⟨(h.2.1 m hm k hk).1, (h.2.1 m hm k hk).2.1, (h.2.1 m hm k hk).2.2.1, (h.2.1 m hm k hk).2.2.2.1⟩, h.2.2.1, h.2.2.2.1, h.2.2.2.2.2.2.2⟩
def lf_rn (P : lf_P) (m k : Nat) (s : mb_S) : Prop :=
  (∀ j, j < 11 → mb_I s 6 j = nI (lf_bef P j m k)) ∧ ∀ i j, i < 6 → j < lf_len P i → (i < m ∨ (i = m ∧ j < k)) → mb_I s 4 (13 * i + j) = nI (lf_bef P (lf_kd P i j) i j) ∧ (lf_kd P i j = 0 → mb_I s 7 (lf_bef P 0 i j) = nI (lf_b P i j)) ∧ (lf_kd P i j = 2 → mb_I s 8 (lf_bef P 2 i j) = nI (13 * i + j))
theorem lf_bef_s (P : lf_P) (j m k : Nat) : lf_bef P j m (k + 1) = lf_bef P j m k + if lf_kd P m k = j then 1 else 0 := by
  unfold lf_bef
  rw [lf_row_s, Nat.add_assoc]
theorem lf_bef_60 (P : lf_P) (j : Nat) : lf_bef P j 6 0 = lf_cnt P j := rfl
theorem lf_bef_m (P : lf_P) (j m : Nat) : lf_bef P j (m + 1) 0 = lf_bef P j m (lf_len P m) := rfl
theorem lf_rn_step {P : lf_P} {q : lf_Q} (hok : lf_ok P q) {m k : Nat} (hm : m < 6) (hk : k < lf_len P m) {s t : mb_S} (h : lf_rn P m k s) (h6 : mb_I t 6 = upd (mb_I s 6) (lf_kd P m k) (nI (lf_bef P (lf_kd P m k) m k + 1))) (h4 : mb_I t 4 = upd (mb_I s 4) (13 * m + k) (nI (lf_bef P (lf_kd P m k) m k)))
    (h7 : mb_I t 7 = if lf_kd P m k = 0 then upd (mb_I s 7) (lf_bef P 0 m k) (nI (lf_b P m k)) else mb_I s 7) (h8 : mb_I t 8 = if lf_kd P m k = 2 then upd (mb_I s 8) (lf_bef P 2 m k) (nI (13 * m + k)) else mb_I s 8) : lf_rn P m (k + 1) t := by
  refine ⟨fun j hj => ?_, fun i j hi hj hlt => ?_⟩
  · rw [h6, pu_upd, lf_bef_s]
    by_cases e : j = lf_kd P m k
    · subst e; rw [if_pos rfl, if_pos rfl]
    · rw [if_neg e, if_neg (fun z => e z.symm), h.1 j hj, Nat.add_zero]
  · have hl := hok.1 i hi
    have hl2 := hok.1 m hm
    rw [h4, h7, h8, pu_upd]
    by_cases e : i = m ∧ j = k
    · obtain ⟨rfl, rfl⟩ := e
      rw [if_pos rfl]
      refine ⟨rfl, fun e0 => ?_, fun e2 => ?_⟩
      · rw [if_pos e0, pu_upd, if_pos rfl]
      · rw [if_pos e2, pu_upd, if_pos rfl]
    · rw [if_neg (by omega)]
      obtain ⟨a1, a2, a3⟩ := h.2 i j hi hj (by omega)
      refine ⟨a1, fun e0 => ?_, fun e2 => ?_⟩
      · by_cases c0 : lf_kd P m k = 0
        · rw [if_pos c0, pu_upd, if_neg (fun z => e (lf_bef_inj P hi hj e0 hm hk c0 z))]
          exact a2 e0
        · rw [if_neg c0]; exact a2 e0
      · by_cases c2 : lf_kd P m k = 2
        · rw [if_pos c2, pu_upd, if_neg (fun z => e (lf_bef_inj P hi hj e2 hm hk c2 z))]
          exact a3 e2
        · rw [if_neg c2]; exact a3 e2
theorem lf_rn_end {P : lf_P} {q : lf_Q} {s : mb_S} (h0 : lf_X0 P q s) (h : lf_rn P 6 0 s) : lf_X P q s := by
  refine ⟨h0.1, fun m hm k hk => ?_, h0.2.2.1, h0.2.2.2.1, h.1, ?_, fun m hm k hk e => (h.2 m k hm hk (Or.inl hm)).2.2 e, h0.2.2.2.2⟩
  · obtain ⟨a1, a2, a3, a4⟩ := h0.2.1 m hm k hk
    exact ⟨a1, a2, a3, a4, (h.2 m k hm hk (Or.inl hm)).1⟩
  · rintro o c ⟨m, k, hm, hk, e0, rfl, rfl⟩
    exact (h.2 m k hm hk (Or.inl hm)).2.1 e0
theorem lf_rn_next {P : lf_P} {m : Nat} {s : mb_S} (h : lf_rn P m (lf_len P m) s) : lf_rn P (m + 1) 0 s := by
  refine ⟨h.1, fun i j hi hj z => h.2 i j hi hj ?_⟩
  by_cases e : i = m
  · subst e; exact Or.inr ⟨rfl, hj⟩
  · exact Or.inl (by omega)
section REN
variable {P : lf_P} {q : lf_Q} {s0 : mb_S}
def lf_frN : mb_S → mb_S → Prop := lf_fr (fun _ => False) (fun k => k = 4 ∨ k = 6 ∨ k = 7 ∨ k = 8) (fun _ => False)
theorem mP_renumber_in (hok : lf_ok P q) (k10 : Int32 → mb_S → Option (Unit × mb_S)) (Q : Unit × mb_S → Prop) {m : Nat} (hm : m < 6) (hk10 : ∀ s, lf_X0 P q s → lf_rn P m (lf_len P m) s → lf_frN s0 s → pu_wp (k10 (nI (m + 1)) s) Q) :
    ∀ (d k n : Nat) (s : mb_S), k + d = lf_len P m → d < n → lf_X0 P q s → lf_rn P m k s → lf_frN s0 s → pu_wp (mP_renumber_l18 k10 n (nI m) (nI k) s) Q := by
  have hl := hok.1 m hm
  intro d
  induction d with
  | zero =>
    intro k n s hk hn hX hr hf
    obtain ⟨n, rfl⟩ : ∃ z, n = z + 1 := ⟨n - 1, by omega⟩
    rw [mP_renumber_l18_s, me_ld hm (by decide), hX.1 m hm, if_pos ((nI_leI (by omega) (by omega)).mpr (by omega)), me_bnd, nI_1]
    exact hk10 s hX (by rw [← hk]; exact hr) hf
  | succ d ih =>
    intro k n s hk hn hX hr hf
    obtain ⟨n, rfl⟩ : ∃ z, n = z + 1 := ⟨n - 1, by omega⟩
    have hkl : k < lf_len P m := by omega
    obtain ⟨a1, a2, a3, a4⟩ := hX.2.1 m hm k hkl
    have hkd := (hok.2.1 m hm k hkl).1
    have hb := lf_bef_lt P hm hkl
    have hc := lf_cnt_le P (lf_kd P m k)
    have ht := hok.2.2.2.2.2.1
    rw [mP_renumber_l18_s, me_ld hm (by decide), hX.1 m hm, if_neg (fun z => absurd ((nI_leI (by omega) (by omega)).mp z) (by omega)), me_bnd, me_13, me_ld (by omega) (by decide), a1, me_ld (by omega) (by decide), me_ld (by omega) (by decide), hr.1 _ (by omega), nI_1, me_stI (by omega) (by decide), me_stI (by omega) (by decide)]
    unfold mP_renumber_b106
    by_cases c0 : lf_kd P m k = 0
    · have h6 := hok.2.2.1
      rw [c0] at hb
      rw [if_pos ((pu_eq0 (by omega)).mpr c0), me_ld (by omega) (by decide)]
      rw [show mb_I (mb_setI (mb_setI s 6 (lf_kd P m k) (nI (lf_bef P (lf_kd P m k) m k + 1))) 4 (13 * m + k) (nI (lf_bef P (lf_kd P m k) m k))) 2 = mb_I s 2 from rfl, a3, me_stI (by rw [c0]; omega) (by decide), me_bnd, nI_1]
      refine ih (k + 1) n _ (by omega) (by omega) hX (lf_rn_step hok hm hkl hr rfl rfl ?_ ?_) (((hf.setI (Or.inr (Or.inl rfl))).setI (Or.inl rfl)).setI (Or.inr (Or.inr (Or.inl rfl))))
      · rw [if_pos c0]
        show upd (mb_I s 7) (lf_bef P (lf_kd P m k) m k) (nI (lf_b P m k)) = _
        rw [c0]
      · rw [if_neg (by omega)]; rfl
    · rw [if_neg (fun z => c0 ((pu_eq0 (by omega)).mp z)), pu_l2]
      by_cases c2 : lf_kd P m k = 2
      · have h6 := hok.2.2.2.2.1
        rw [c2] at hb
        rw [if_pos ((nI_eq (by omega) (by omega)).mpr c2), me_stI (by rw [c2]; omega) (by decide), me_bnd, nI_1]
        refine ih (k + 1) n _ (by omega) (by omega) hX (lf_rn_step hok hm hkl hr rfl rfl ?_ ?_) (((hf.setI (Or.inr (Or.inl rfl))).setI (Or.inl rfl)).setI (Or.inr (Or.inr (Or.inr rfl))))
        · rw [if_neg c0]; rfl
        · rw [if_pos c2]
          show upd (mb_I s 8) (lf_bef P (lf_kd P m k) m k) (nI (13 * m + k)) = _
          rw [c2]
      · rw [if_neg (fun z => c2 ((nI_eq (by omega) (by omega)).mp z)), me_bnd, nI_1]
        refine ih (k + 1) n _ (by omega) (by omega) hX (lf_rn_step hok hm hkl hr rfl rfl ?_ ?_) ((hf.setI (Or.inr (Or.inl rfl))).setI (Or.inl rfl))
        · rw [if_neg c0]; rfl
        · rw [if_neg c2]; rfl
theorem mP_renumber_out (hok : lf_ok P q) : ∀ (d m n : Nat) (s : mb_S), m + d = 6 → d < n → lf_X0 P q s → lf_rn P m 0 s → lf_frN s0 s → pu_wp (mP_renumber_l10 n (nI m) s) (fun r => lf_X P q r.2 ∧ lf_frN s0 r.2) := by
  intro d
  induction d with
  | zero =>
    intro m n s hm hn hX hr hf
    obtain ⟨n, rfl⟩ : ∃ z, n = z + 1 := ⟨n - 1, by omega⟩
    rw [mP_renumber_l10_s, pu_l6, if_pos ((nI_leI (by omega) (by omega)).mpr (by omega)), pu_some]
    rw [show m = 6 by omega] at hr
    exact ⟨lf_rn_end hX hr, hf⟩
  | succ d ih =>
    intro m n s hm hn hX hr hf
    obtain ⟨n, rfl⟩ : ∃ z, n = z + 1 := ⟨n - 1, by omega⟩
    have hl := hok.1 m (by omega)
    rw [mP_renumber_l10_s, pu_l6, if_neg (fun z => absurd ((nI_leI (a := 6) (b := m) (by omega) (by omega)).mp z) (by omega))]
    exact mP_renumber_in hok (mP_renumber_l10 n) _ (by omega) (fun s hX hr hf => ih (m + 1) n s (by omega) (by omega) hX (lf_rn_next hr) hf) (lf_len P m) 0 mb_fuel s (Nat.zero_add _) (by unfold mb_fuel; omega) hX hr hf
theorem mP_renumber_e (hok : lf_ok P q) {s : mb_S} (hX : lf_X0 P q s) : pu_wp (mP_renumber s) (fun r => lf_X P q r.2 ∧ lf_frN s r.2) := by
  unfold mP_renumber
  rw [pu_fill]
  refine mP_renumber_out hok 6 0 mb_fuel _ rfl (by unfold mb_fuel; omega) hX ⟨fun j hj => ?_, fun i j hi hj z => by omega⟩ (lf_fr.rf.fil (Or.inr (Or.inl rfl)))
  show (if j < 11 then (0 : Int32) else mb_I s 6 j) = nI (lf_bef P j 0 0)
  rw [if_pos hj]; rfl
end REN
