def mf_H (s : mb_S) (m k e d : Nat) : Prop := m < 6 ∧ k < 13 ∧ e ≤ 64 ∧ d < 64 ∧ pu_c (mb_L s 0 ((13 * m + k) * 65 + e)) d = true
def mf_Z (s : mb_S) (m k : Nat) : Prop := m < 6 ∧ k < 13 ∧ mb_I s 11 (13 * m + k) = 1
def mf_E (s : mb_S) (m e : Nat) : Prop := m < 6 ∧ e < 64 ∧ pu_c (mb_L s 1 m) e = true
def mf_N (s : mb_S) (m : Nat) : Prop := m < 6 ∧ mb_I s 12 m = 1
section FM13
variable {P : lf_P} {q : lf_Q} {L T : Nat → Nat → Nat → Prop}
theorem mf_gv_cl (hpo : lf_ok P q) {s : mb_S} {m k e t g : Nat} (hm : m < 6) (hk : k < lf_len P m) (c7 : lf_kd P m k = 7) (he : e ≤ 64) (ht : t < 6) (hg : g ≤ 64) (h : mf_gv P m k e t g s) : lf_gv P (mf_H s) (mf_E s) (mf_N s) m k e t g := by
  have hl := hpo.1 m hm
  have ha : lf_a P m k < 4 := (hpo.2.1 _ hm _ hk).2.2.1 (by omega)
  refine ⟨fun e1 => ⟨ht, h.1 e1⟩, fun e1 => ⟨ht, by omega, h.2.1 e1⟩, fun p d hp hd hH => ⟨fun h1 h2 => ⟨hm, by omega, he, hd, ((h.2.2 p hp) d hd hH.2.2.2.2).1 h1 h2⟩, fun h1 h2 h3 => ⟨hm, by omega, he, by omega, ((h.2.2 p hp) d hd hH.2.2.2.2).2 h1 h2 h3⟩⟩⟩
theorem mf_closed (hpo : lf_ok P q) {s : mb_S} (h0 : mb_I s 12 0 = 1) (hup : mf_up P L T 6 0 s) : lf_FC P L T (mf_H s) (mf_Z s) (mf_E s) (mf_N s) := by
  have nx13 : ∀ m k p, m < 6 → k < lf_len P m → lf_nx P m k p → p < 13 := fun m k p hm hk hp => by
    have hl := hpo.1 m hm
    rcases hp with ⟨-, hp⟩ | ⟨-, hp⟩
    · have := Nat.min_le_right (lf_a P m k) (lf_len P m); omega
    · omega
  refine ⟨⟨by omega, h0⟩, fun m hm hN => ?_, fun m e hm he hE => ?_, fun m k hm hk hN hZ => ?_, fun m k e d hm hk he hd hN hE hH => ?_⟩
  · have h := hup m 64 hm (by omega) (Or.inl hm) ⟨fun _ => hN.2, fun z => absurd rfl z⟩
    exact ⟨hm, by omega, h.1.1 rfl⟩
  · have h := hup m e hm (by omega) (Or.inl hm) ⟨fun z => by omega, fun _ => hE.2.2⟩
    exact ⟨hm, by omega, by omega, he, h.1.2 (by omega)⟩
  · have h := ((hup m 64 hm (by omega) (Or.inl hm) ⟨fun _ => hN.2, fun z => absurd rfl z⟩).2 k hk).1 rfl hZ.2.2
    have hl := hpo.1 m hm
    refine ⟨fun n7 n10 p hp => ⟨⟨hm, nx13 m k p hm hk hp, (h.2 n7 n10).1 p hp⟩, fun c1 => ?_⟩, fun c7 => ⟨⟨hm, by omega, (h.1 c7).1 rfl⟩, fun t ht hT => mf_gv_cl hpo hm hk c7 (by omega) ht (by omega) (((h.1 c7).2.2 t ht hT).1 (Or.inl rfl))⟩⟩
    have hb := lf_bef_lt P hm hk
    rw [c1] at hb
    have h4 := hpo.2.2.2.1
    have ha : lf_a P m k < 4 := (hpo.2.1 _ hm _ hk).2.2.1 (by omega)
    exact ⟨hm, nx13 m k p hm hk hp, by omega, by omega, (h.2 n7 n10).2 c1 p hp⟩
  · have hl := hpo.1 m hm
    have h := ((hup m e hm he (Or.inl hm) ⟨fun z => (hN z).2, fun z => (hE z).2.2⟩).2 k hk).2 d hd hH.2.2.2.2
    have o := hpo.2.1 _ hm _ hk
    refine ⟨fun n7 n10 d' p htr hp => ⟨hm, nx13 m k p hm hk hp, he, ?_, h.2 n7 n10 d' htr p hp⟩, fun c7 => ?_⟩
    · rcases htr with ⟨-, e1⟩ | ⟨e0, -, e1⟩ | ⟨e0, -, o', ho', -, e1⟩ | ⟨e0, o', ho', -, -, e1⟩
      · omega
      · have := o.2.2.1 (by omega); omega
      · have := o.2.2.2.2.1 (by omega); omega
      · have := o.2.2.1 (by omega); omega
    · obtain ⟨-, z2, z3⟩ := h.1 c7
      refine ⟨fun h1 h2 => ⟨hm, by omega, he, hd, z2 (by omega) h1 h2⟩, fun t ht hT => ⟨fun h1 => mf_gv_cl hpo hm hk c7 he ht (by omega) ((z3 t ht hT).1 (Or.inr h1)), fun h1 => mf_gv_cl hpo hm hk c7 he ht (by omega) ((z3 t ht hT).2.1 (by omega) h1), fun h1 => ?_⟩⟩
      have hc := o.2.2.2.2.2 c7
      exact mf_gv_cl hpo hm hk c7 he ht (by omega) ((z3 t ht hT).2.2 (by omega) h1)
end FM13
