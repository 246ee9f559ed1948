section FM8
variable {P : lf_P} {q : lf_Q} {L T : Nat → Nat → Nat → Prop} {H : Nat → Nat → Nat → Nat → Prop} {Z E : Nat → Nat → Prop} {N : Nat → Prop} {s : mb_S}
def mf_fo (P : lf_P) (L T : Nat → Nat → Nat → Prop) (m k e d : Nat) (gs : mb_S) : Prop := (lf_kd P m k = 7 → mf_cf P T m k e d gs) ∧ (lf_kd P m k ≠ 7 → lf_kd P m k ≠ 10 → ∀ d', lf_tr P L m k d d' → mf_at P m k e d' gs)
def mf_fz (P : lf_P) (T : Nat → Nat → Nat → Prop) (m k : Nat) (gs : mb_S) : Prop := (lf_kd P m k = 7 → mf_cf P T m k 64 64 gs) ∧ (lf_kd P m k ≠ 7 → lf_kd P m k ≠ 10 → (∀ p, lf_nx P m k p → mb_I gs 11 (13 * m + p) = 1) ∧ (lf_kd P m k = 1 → mf_at P m k 64 (16 * lf_bef P 1 m k + lf_a P m k) gs))
theorem mM_follow_d (hpo : lf_ok P q) (hC : lf_FC P L T H Z E N) {m k e d : Nat} (hm : m < 6) (hk : k < lf_len P m) (he : e ≤ 64) (hd : d < 64) (hN : e = 64 → N m) (hE : e ≠ 64 → E m e) (hHd : H m k e d) (hW : mf_W P q L T H Z E N s) : pu_wp (mM_follow (nI m) (nI k) (nI e) (nI d) s) (fun z => mf_W P q L T H Z E N z.2 ∧ mf_op (fun gs _ => mf_fo P L T m k e d gs) s z.2) := by
  have hl := hpo.1 m hm
  obtain ⟨a1, a2, a3, a4⟩ := hW.1.2.1 _ hm _ hk
  have hk10 := (hpo.2.1 _ hm _ hk).1
  obtain ⟨r1, r2⟩ := hC.2.2.2.2 m k e d hm hk he hd hN hE hHd
  unfold mM_follow mM_follow_b97 mM_follow_b113
  rw [me_12, me_bnd, me_ld (by omega) (by decide), a1, pu_l7]
  by_cases c7 : lf_kd P m k = 7
  · obtain ⟨r3, r4⟩ := r2 c7
    rw [if_pos ((nI_eq (by omega) (by omega)).mpr c7), pu_cal]
    refine pu_mono (mM_callFacts_e hpo hm hk c7 he (Nat.le_of_lt hd) (fun h => by omega) (fun _ h1 h2 => r3 h1 h2) (fun t ht hT => ⟨fun h => (r4 t ht hT).1 (by omega), fun _ h => (r4 t ht hT).2.1 h, fun _ h => (r4 t ht hT).2.2 h⟩) hW) (fun z hz => ?_)
    rw [pu_some]
    exact ⟨hz.1, mf_wk hz.2 (fun y => ⟨fun _ => y, fun h => absurd c7 h⟩)⟩
  · rw [if_neg (fun z => c7 ((nI_eq (by omega) (by omega)).mp z)), pu_l10]
    by_cases c10 : lf_kd P m k = 10
    · rw [if_pos ((nI_eq (by omega) (by omega)).mpr c10), if_pos ((nI_eq (by omega) (by omega)).mpr c10), pu_some]
      exact ⟨hW, mf_rf (C := fun gs => mf_fo P L T m k e d gs) hW.2.2.1 ⟨fun h => absurd h c7, fun _ h => absurd c10 h⟩⟩
    · have n10 : ¬ nI (lf_kd P m k) = nI 10 := fun z => c10 ((nI_eq (by omega) (by omega)).mp z)
      rw [if_neg n10, pu_l64, if_neg (fun z => absurd ((nI_eq (by omega) (by omega)).mp z) (by omega)), if_neg n10, pu_cal]
      refine pu_mono (mM_followFact_e hpo hm hk he hd c7 c10 (fun d' p htr hp => r1 c7 c10 d' p htr hp) hW) (fun z hz => ?_)
      rw [pu_some]
      exact ⟨hz.1, mf_wk hz.2 (fun y => ⟨fun h => absurd h c7, fun _ _ => y⟩)⟩
theorem mM_follow_z (hpo : lf_ok P q) (hC : lf_FC P L T H Z E N) {m k : Nat} (hm : m < 6) (hk : k < lf_len P m) (hN : N m) (hZ : Z m k) (hW : mf_W P q L T H Z E N s) : pu_wp (mM_follow (nI m) (nI k) (nI 64) (nI 64) s) (fun z => mf_W P q L T H Z E N z.2 ∧ mf_op (fun gs _ => mf_fz P T m k gs) s z.2) := by
  have hl := hpo.1 m hm
  obtain ⟨a1, a2, a3, a4⟩ := hW.1.2.1 _ hm _ hk
  obtain ⟨o1, o2, o3, o4, o5, o6⟩ := hpo.2.1 _ hm _ hk
  obtain ⟨r1, r2⟩ := hC.2.2.2.1 m k hm hk hN hZ
  unfold mM_follow mM_follow_b97 mM_follow_b113
  rw [me_12, me_bnd, me_ld (by omega) (by decide), a1, pu_l7]
  by_cases c7 : lf_kd P m k = 7
  · obtain ⟨r3, r4⟩ := r2 c7
    rw [if_pos ((nI_eq (by omega) (by omega)).mpr c7), pu_cal]
    refine pu_mono (mM_callFacts_e hpo hm hk c7 (e := 64) (d := 64) (by omega) (by omega) (fun _ => r3) (fun h => absurd rfl h) (fun t ht hT => ⟨fun _ => r4 t ht hT, fun h => absurd rfl h, fun h => absurd rfl h⟩) hW) (fun z hz => ?_)
    rw [pu_some]
    exact ⟨hz.1, mf_wk hz.2 (fun y => ⟨fun _ => y, fun h => absurd c7 h⟩)⟩
  · rw [if_neg (fun z => c7 ((nI_eq (by omega) (by omega)).mp z)), pu_l10]
    by_cases c10 : lf_kd P m k = 10
    · rw [if_pos ((nI_eq (by omega) (by omega)).mpr c10), if_pos ((nI_eq (by omega) (by omega)).mpr c10), pu_some]
      exact ⟨hW, mf_rf (C := fun gs => mf_fz P T m k gs) hW.2.2.1 ⟨fun h => absurd h c7, fun _ h => absurd c10 h⟩⟩
    · have n10 : ¬ nI (lf_kd P m k) = nI 10 := fun z => c10 ((nI_eq (by omega) (by omega)).mp z)
      obtain ⟨u, e1, e2, e3⟩ := mM_onw_z hpo hW (nI 64) hm hk (fun p hp => (r1 c7 c10 p hp).1)
      rw [if_neg n10, if_pos (show nI 64 = (64 : Int32) from rfl), show mM_onwards (nI m) (nI k) (nI 64) 64 s = some ((), u) from e1, me_cal]
      by_cases c1 : lf_kd P m k = 1
      · have ha : lf_a P m k < 4 := o3 (by omega)
        have hb := lf_bef_lt P hm hk
        rw [c1] at hb
        have h4 := hpo.2.2.2.1
        have hbe := mM_before_k e2.1 hpo (kk := 1) (by omega) hm (Nat.le_of_lt hk)
        rw [if_pos ((pu_eq1 (by omega)).mpr c1), show mM_before 1 (nI m) (nI k) u = some (nI (lf_bef P 1 m k), u) from hbe, me_cal, me_ld (by omega) (by decide), (e2.1.2.1 _ hm _ hk).2.1, me_16]
        obtain ⟨v, v1, v2, v3⟩ := mM_onw_d hpo e2 hm hk (e := 64) (by omega) (d := 16 * lf_bef P 1 m k + lf_a P m k) (by omega) (fun p hp => (r1 c7 c10 p hp).2 c1)
        rw [v1, me_cal, pu_some]
        exact ⟨v2, mf_wk (mf_seq e3 v3) (fun y => ⟨fun h => absurd h c7, fun _ _ => ⟨y.1, fun _ => y.2⟩⟩)⟩
      · rw [if_neg (fun z => c1 ((pu_eq1 (by omega)).mp z)), pu_some]
        exact ⟨e2, mf_wk e3 (fun y => ⟨fun h => absurd h c7, fun _ _ => ⟨y, fun h => absurd h c1⟩⟩)⟩
end FM8
