section FM7
variable {P : lf_P} {q : lf_Q} {L T : Nat → Nat → Nat → Prop} {H : Nat → Nat → Nat → Nat → Prop} {Z E : Nat → Nat → Prop} {N : Nat → Prop} {s : mb_S}
theorem mM_followFact_e (hpo : lf_ok P q) {m k e d : Nat} (hm : m < 6) (hk : k < lf_len P m) (he : e ≤ 64) (hd : d < 64) (hn7 : lf_kd P m k ≠ 7) (hn10 : lf_kd P m k ≠ 10) (hv : ∀ d' p, lf_tr P L m k d d' → lf_nx P m k p → H m p e d') (hW : mf_W P q L T H Z E N s) : pu_wp (mM_followFact (nI m) (nI k) (nI e) (nI d) s) (fun z => mf_W P q L T H Z E N z.2 ∧ mf_op (fun gs _ => ∀ d', lf_tr P L m k d d' → mf_at P m k e d' gs) s z.2) := by
  have hl := hpo.1 m hm
  obtain ⟨a1, a2, a3, a4⟩ := hW.1.2.1 _ hm _ hk
  obtain ⟨o1, o2, o3, o4, o5, o6⟩ := hpo.2.1 _ hm _ hk
  have ha12 : lf_a P m k < 12 := by
    by_cases h : lf_kd P m k = 8 ∨ lf_kd P m k = 9
    · exact o2 h
    · have := o3 h; omega
  have h131 : ∀ u, mf_W P q L T H Z E N u → mf_op (fun gs _ => (¬ ((lf_kd P m k = 0 ∨ lf_kd P m k = 1 ∨ (3 ≤ lf_kd P m k ∧ lf_kd P m k ≤ 5)) ∧ d % 16 = lf_a P m k) → mf_at P m k e d gs) ∧ ((lf_kd P m k = 4 ∨ lf_kd P m k = 5) → d % 16 = lf_b P m k → mf_at P m k e (d - d % 16 + lf_a P m k) gs)) s u → pu_wp (mM_followFact_b131 (nI m) (nI k) (nI e) (nI (12 * m + k)) (nI (lf_kd P m k)) (nI (lf_a P m k)) (nI (lf_b P m k)) (nI (d % 16)) (nI (d - d % 16)) u) (fun z => mf_W P q L T H Z E N z.2 ∧ mf_op (fun gs _ => ∀ d', lf_tr P L m k d d' → mf_at P m k e d' gs) s z.2) := by
    intro u hu hou
    unfold mM_followFact_b131
    rw [← nI_0]
    refine pu_mono (mM_ff_134 hpo hm hk he hd hv (s0 := s) (C0 := fun gs => (¬ ((lf_kd P m k = 0 ∨ lf_kd P m k = 1 ∨ (3 ≤ lf_kd P m k ∧ lf_kd P m k ≤ 5)) ∧ d % 16 = lf_a P m k) → mf_at P m k e d gs) ∧ ((lf_kd P m k = 4 ∨ lf_kd P m k = 5) → d % 16 = lf_b P m k → mf_at P m k e (d - d % 16 + lf_a P m k) gs)) 6 0 mb_fuel u rfl (by unfold mb_fuel; omega) hu (mf_wk hou (fun z => ⟨z, fun o' h => absurd h (Nat.not_lt_zero _)⟩))) (fun z hz => ⟨hz.1, mf_wk hz.2 (fun y d' htr => ?_)⟩)
    rcases htr with ⟨h1, h2⟩ | ⟨h1, h2, h3⟩ | ⟨h1, h2, o, ho, hL, h3⟩ | ⟨h1, o, ho, h2, hL, h3⟩
    · rw [h2]; exact y.1.1 h1
    · rw [h3]; exact y.1.2 h1 h2
    · rw [h3]; exact (y.2 o ho).1 h1 h2 hL
    · rw [h3]; exact (y.2 o ho).2 h1 h2 hL
  have h100 : ∀ u, mf_W P q L T H Z E N u → mf_op (fun gs _ => ¬ ((lf_kd P m k = 0 ∨ lf_kd P m k = 1 ∨ (3 ≤ lf_kd P m k ∧ lf_kd P m k ≤ 5)) ∧ d % 16 = lf_a P m k) → mf_at P m k e d gs) s u → pu_wp (mM_followFact_b100 (nI m) (nI k) (nI e) (nI (12 * m + k)) (nI (lf_kd P m k)) (nI (lf_a P m k)) (nI (lf_b P m k)) (nI (d % 16)) (nI (d - d % 16)) u) (fun z => mf_W P q L T H Z E N z.2 ∧ mf_op (fun gs _ => ∀ d', lf_tr P L m k d d' → mf_at P m k e d' gs) s z.2) := by
    intro u hu hou
    have h112 : (lf_kd P m k = 4 ∨ lf_kd P m k = 5) → pu_wp (mM_followFact_b112 (nI m) (nI k) (nI e) (nI (12 * m + k)) (nI (lf_kd P m k)) (nI (lf_a P m k)) (nI (lf_b P m k)) (nI (d % 16)) (nI (d - d % 16)) u) (fun z => mf_W P q L T H Z E N z.2 ∧ mf_op (fun gs _ => ∀ d', lf_tr P L m k d d' → mf_at P m k e d' gs) s z.2) := by
      intro h45
      have ha : lf_a P m k < 4 := o3 (by omega)
      have hb := o4 (by omega)
      unfold mM_followFact_b112
      by_cases cx : d % 16 = lf_b P m k
      · rw [if_pos ((nI_eq (by omega) (by omega)).mpr cx), nI_add]
        obtain ⟨t, e1, e2, e3⟩ := mM_onw_d hpo hu hm hk he (d := d - d % 16 + lf_a P m k) (by omega) (fun p hp => hv _ p (Or.inr (Or.inl ⟨h45, cx, rfl⟩)) hp)
        rw [e1, me_cal]
        exact h131 t e2 (mf_wk (mf_seq hou e3) (fun z => ⟨z.1, fun _ _ => z.2⟩))
      · rw [if_neg (fun z => cx ((nI_eq (by omega) (by omega)).mp z))]
        exact h131 u hu (mf_wk hou (fun z => ⟨z, fun _ h => absurd h cx⟩))
    unfold mM_followFact_b100
    rw [pu_l4]
    by_cases c4 : lf_kd P m k = 4
    · rw [if_pos ((nI_eq (by omega) (by omega)).mpr c4)]; exact h112 (Or.inl c4)
    · rw [if_neg (fun z => c4 ((nI_eq (by omega) (by omega)).mp z)), pu_l5]
      by_cases c5 : lf_kd P m k = 5
      · rw [if_pos ((nI_eq (by omega) (by omega)).mpr c5)]; exact h112 (Or.inr c5)
      · rw [if_neg (fun z => c5 ((nI_eq (by omega) (by omega)).mp z))]
        exact h131 u hu (mf_wk hou (fun z => ⟨z, fun h => by omega⟩))
  have h91 : ¬ ((lf_kd P m k = 0 ∨ lf_kd P m k = 1 ∨ (3 ≤ lf_kd P m k ∧ lf_kd P m k ≤ 5)) ∧ d % 16 = lf_a P m k) → pu_wp (mM_followFact_b91 (nI m) (nI k) (nI e) (nI d) (nI (12 * m + k)) (nI (lf_kd P m k)) (nI (lf_a P m k)) (nI (lf_b P m k)) (nI (d % 16)) (nI (d - d % 16)) s) (fun z => mf_W P q L T H Z E N z.2 ∧ mf_op (fun gs _ => ∀ d', lf_tr P L m k d d' → mf_at P m k e d' gs) s z.2) := by
    intro hno
    unfold mM_followFact_b91
    obtain ⟨t, e1, e2, e3⟩ := mM_onw_d hpo hW hm hk he hd (fun p hp => hv d p (Or.inl ⟨hno, rfl⟩) hp)
    rw [e1, me_cal]
    exact h100 t e2 (mf_wk e3 (fun z _ => z))
  have h72 : (lf_kd P m k = 0 ∨ lf_kd P m k = 1 ∨ (3 ≤ lf_kd P m k ∧ lf_kd P m k ≤ 5)) → pu_wp (mM_followFact_b72 (nI m) (nI k) (nI e) (nI d) (nI (12 * m + k)) (nI (lf_kd P m k)) (nI (lf_a P m k)) (nI (lf_b P m k)) (nI (d % 16)) (nI (d - d % 16)) s) (fun z => mf_W P q L T H Z E N z.2 ∧ mf_op (fun gs _ => ∀ d', lf_tr P L m k d d' → mf_at P m k e d' gs) s z.2) := by
    intro hs
    unfold mM_followFact_b72 mM_followFact_b77
    rw [if_neg me_10]
    by_cases cx : d % 16 = lf_a P m k
    · rw [if_pos ((nI_eq (by omega) (by omega)).mpr cx)]
      exact h100 s hW (mf_rf (C := fun gs => ¬ ((lf_kd P m k = 0 ∨ lf_kd P m k = 1 ∨ (3 ≤ lf_kd P m k ∧ lf_kd P m k ≤ 5)) ∧ d % 16 = lf_a P m k) → mf_at P m k e d gs) hW.2.2.1 (fun h => absurd ⟨hs, cx⟩ h))
    · rw [if_neg (fun z => cx ((nI_eq (by omega) (by omega)).mp z))]
      exact h91 (fun z => cx z.2)
  have h76 : ¬ (lf_kd P m k = 0 ∨ lf_kd P m k = 1 ∨ (3 ≤ lf_kd P m k ∧ lf_kd P m k ≤ 5)) → pu_wp (mM_followFact_b76 (nI m) (nI k) (nI e) (nI d) (nI (12 * m + k)) (nI (lf_kd P m k)) (nI (lf_a P m k)) (nI (lf_b P m k)) (nI (d % 16)) (nI (d - d % 16)) s) (fun z => mf_W P q L T H Z E N z.2 ∧ mf_op (fun gs _ => ∀ d', lf_tr P L m k d d' → mf_at P m k e d' gs) s z.2) := by
    intro hs
    unfold mM_followFact_b76 mM_followFact_b77
    rw [if_pos rfl]
    exact h91 (fun z => hs z.1)
  unfold mM_followFact
  rw [me_12, me_bnd, me_ld (by omega) (by decide), a1, me_ld (by omega) (by decide), a2, me_ld (by omega) (by decide), a3, me_a15 (by omega), me_bnd, me_sub d (d % 16) (by omega), me_bnd]
  by_cases c0 : lf_kd P m k = 0
  · rw [if_pos ((pu_eq0 (by omega)).mpr c0)]; exact h72 (Or.inl c0)
  rw [if_neg (fun z => c0 ((pu_eq0 (by omega)).mp z))]
  by_cases c1 : lf_kd P m k = 1
  · rw [if_pos ((pu_eq1 (by omega)).mpr c1)]; exact h72 (Or.inr (Or.inl c1))
  rw [if_neg (fun z => c1 ((pu_eq1 (by omega)).mp z)), pu_l3]
  by_cases c3 : lf_kd P m k < 3
  · rw [if_pos ((nI_ltI (by omega) (by omega)).mpr c3)]; exact h76 (by omega)
  rw [if_neg (fun z => c3 ((nI_ltI (by omega) (by omega)).mp z)), pu_l5]
  by_cases c5 : 5 < lf_kd P m k
  · rw [if_pos ((nI_ltI (by omega) (by omega)).mpr c5)]; exact h76 (by omega)
  rw [if_neg (fun z => c5 ((nI_ltI (by omega) (by omega)).mp z))]
  exact h72 (by omega)
end FM7
