section PTS
variable {P : lf_P} {q : lf_Q}
theorem me_d6 {a : Nat} (h : a < 2 ^ 31) : nI a / (6 : Int32) = nI (a / 6) := pk_div (d := 6) h (by decide) (by decide)
theorem me_m6 {a : Nat} (h : a < 2 ^ 31) : nI a - nI a / (6 : Int32) * (6 : Int32) = nI (a % 6) := pk_rem (d := 6) h (by decide) (by decide)
def mt_fr : mb_S → mb_S → Prop := lf_fr (fun _ => False) (fun k => k = 10) (fun _ => False)
theorem mM_wt_50 (hpo : lf_ok P q) {m k : Nat} (hm : m < 6) (hk : k < lf_len P m) (c7 : lf_kd P m k = 7) (k2 : Int32 → mb_S → Option (Unit × mb_S)) (Q : Unit × mb_S → Prop) {s0 : mb_S}
    (hk2 : ∀ s, lf_M P q s → mt_fr s0 s → (∀ i, i ≠ 12 * m + k → mb_I s 10 i = mb_I s0 10 i) → (∀ t, pu_b (mb_I s 10 (12 * m + k)) t = true ↔ (t < 6 ∧ ∃ o, o < 6 ∧ pu_b (mb_I s0 7 (4 * m + lf_b P m k)) o = true ∧ lf_ct P q o (lf_c P m k / 4) t)) → pu_wp (k2 (nI (12 * m + k + 1)) s) Q) :
    ∀ (d j n : Nat) (s : mb_S), j + d = 36 → d < n → lf_M P q s → mt_fr s0 s → (∀ i, i ≠ 12 * m + k → mb_I s 10 i = mb_I s0 10 i) → (∀ t, pu_b (mb_I s 10 (12 * m + k)) t = true ↔ ∃ i, i < j ∧ i % 6 = t ∧ pu_b (mb_I s0 7 (4 * m + lf_b P m k)) (i / 6) = true ∧ lf_ct P q (i / 6) (lf_c P m k / 4) t) → pu_wp (mM_workTargets_l50 k2 n (nI (12 * m + k)) 1 (nI j) s) Q := by
  have hl := hpo.1 m hm
  intro d
  induction d with
  | zero =>
    intro j n s hjd hn hM hf ho hb
    obtain ⟨n, rfl⟩ : ∃ z, n = z + 1 := ⟨n - 1, by omega⟩
    rw [mM_workTargets_l50_s, pu_l36, if_pos ((nI_leI (by omega) (by omega)).mpr (by omega))]
    unfold mM_workTargets_b97
    rw [me_bnd, nI_1]
    refine hk2 s hM hf ho (fun t => (hb t).trans ⟨?_, ?_⟩)
    · rintro ⟨i, h1, h2, h3, h4⟩
      exact ⟨by omega, i / 6, by omega, h3, h4⟩
    · rintro ⟨ht, o, h1, h2, h3⟩
      refine ⟨6 * o + t, by omega, by omega, ?_, ?_⟩
      · rw [show (6 * o + t) / 6 = o by omega]; exact h2
      · rw [show (6 * o + t) / 6 = o by omega]; exact h3
  | succ d ih =>
    intro j n s hjd hn hM hf ho hb
    obtain ⟨n, rfl⟩ : ∃ z, n = z + 1 := ⟨n - 1, by omega⟩
    rw [mM_workTargets_l50_s, pu_l36, if_neg (fun z => absurd ((nI_leI (a := 36) (b := j) (by omega) (by omega)).mp z) (by omega)), if_neg me_10, me_m6 (by omega), me_d6 (by omega)]
    unfold mM_workTargets_b91
    have e7 : mb_I s 7 = mb_I s0 7 := hf.2.1 7 (by decide)
    rcases mM_calls_e hM hpo hm hk c7 (show j / 6 < 6 by omega) (show j % 6 < 6 by omega) with ⟨⟨h1, h2⟩, ec⟩ | ⟨hno, ec⟩
    · rw [e7] at h1
      rw [ec, me_cal, if_neg me_10, me_ld (by omega) (by decide), me_stI (by omega) (by decide), me_bnd, nI_1]
      refine ih (j + 1) n _ (by omega) (by omega) hM (lf_fr.setI hf rfl) (fun i hi => ?_) (fun t => ?_)
      · show upd (mb_I s 10) (12 * m + k) _ i = _
        rw [pu_upd, if_neg hi]; exact ho i hi
      · show pu_b (upd (mb_I s 10) (12 * m + k) (mb_I s 10 (12 * m + k) ||| ((1 : Int32) <<< (nI (j % 6) &&& 31))) (12 * m + k)) t = true ↔ _
        rw [pu_upd, if_pos rfl, pu_b_or, Bool.or_eq_true_iff, hb t, pu_b_1l (by omega)]
        constructor
        · rintro (⟨i, a1, a2⟩ | z)
          · exact ⟨i, by omega, a2⟩
          · have := of_decide_eq_true z
            subst this
            exact ⟨j, by omega, rfl, h1, h2⟩
        · rintro ⟨i, a1, a2, a3⟩
          by_cases e : i = j
          · rw [e] at a2; exact Or.inr (decide_eq_true a2.symm)
          · exact Or.inl ⟨i, by omega, a2, a3⟩
    · rw [e7] at hno
      rw [ec, me_cal, if_pos rfl, me_bnd, nI_1]
      refine ih (j + 1) n s (by omega) (by omega) hM hf ho (fun t => (hb t).trans ⟨?_, ?_⟩)
      · rintro ⟨i, a1, a2⟩
        exact ⟨i, by omega, a2⟩
      · rintro ⟨i, a1, a2, a3, a4⟩
        by_cases e : i = j
        · rw [e] at a2 a3 a4
          rw [← a2] at a4
          exact absurd ⟨a3, a4⟩ hno
        · exact ⟨i, by omega, a2, a3, a4⟩
def mt_ok (P : lf_P) (q : lf_Q) (s0 s : mb_S) (m k : Nat) : Prop := ∀ t, pu_b (mb_I s 10 (12 * m + k)) t = true ↔ (lf_kd P m k = 7 ∧ t < 6 ∧ ∃ o, o < 6 ∧ pu_b (mb_I s0 7 (4 * m + lf_b P m k)) o = true ∧ lf_ct P q o (lf_c P m k / 4) t)
theorem mM_wt_l (hpo : lf_ok P q) {s0 : mb_S} : ∀ (d j n : Nat) (s : mb_S), j + d = 72 → d < n → lf_M P q s → mt_fr s0 s → (∀ m k, m < 6 → k < lf_len P m → 12 * m + k < j → mt_ok P q s0 s m k) → pu_wp (mM_workTargets_l2 n (nI j) s) (fun z => lf_M P q z.2 ∧ mt_fr s0 z.2 ∧ ∀ m k, m < 6 → k < lf_len P m → mt_ok P q s0 z.2 m k) := by
  intro d
  induction d with
  | zero =>
    intro j n s hjd hn hM hf h
    obtain ⟨n, rfl⟩ : ∃ z, n = z + 1 := ⟨n - 1, by omega⟩
    rw [mM_workTargets_l2_s, pu_l72, if_pos ((nI_leI (by omega) (by omega)).mpr (by omega)), pu_some]
    refine ⟨hM, hf, fun m k hm hk => h m k hm hk ?_⟩
    have := hpo.1 m hm
    omega
  | succ d ih =>
    intro j n s hjd hn hM hf h
    obtain ⟨n, rfl⟩ : ∃ z, n = z + 1 := ⟨n - 1, by omega⟩
    have hm : j / 12 < 6 := by omega
    have hl := hpo.1 (j / 12) hm
    have hj12 : 12 * (j / 12) + j % 12 = j := by omega
    have hM1 : lf_M P q (mb_setI s 10 j 0) := hM
    have hf1 : mt_fr s0 (mb_setI s 10 j 0) := lf_fr.setI hf rfl
    have huniq : ∀ m k, m < 6 → k < lf_len P m → 12 * m + k = j → m = j / 12 ∧ k = j % 12 := fun m k hm hk e => by
      have := hpo.1 m hm
      omega
    have hself : ∀ i, i ≠ j → mb_I (mb_setI s 10 j 0) 10 i = mb_I s 10 i := fun i hi => by
      show upd (mb_I s 10) j 0 i = _
      rw [pu_upd, if_neg hi]
    have h0 : mb_I (mb_setI s 10 j 0) 10 j = 0 := by
      show upd (mb_I s 10) j 0 j = 0
      rw [pu_upd, if_pos rfl]
    have skip : (∀ m k, m < 6 → k < lf_len P m → 12 * m + k = j → lf_kd P m k ≠ 7) → pu_wp (mM_workTargets_b46 (mM_workTargets_l2 n) (nI j) (mb_setI s 10 j 0)) (fun z => lf_M P q z.2 ∧ mt_fr s0 z.2 ∧ ∀ m k, m < 6 → k < lf_len P m → mt_ok P q s0 z.2 m k) := by
      intro hno
      unfold mM_workTargets_b46 mM_workTargets_b47
      rw [show mb_fuel = 4294967295 + 1 from rfl, mM_workTargets_l50_s, pu_l36, if_neg (show ¬ nI 36 ≤ 0 by decide), if_pos rfl]
      unfold mM_workTargets_b97
      rw [me_bnd, nI_1]
      refine ih (j + 1) n _ (by omega) (by omega) hM1 hf1 (fun m k hm hk hlt t => ?_)
      by_cases e : 12 * m + k = j
      · rw [e, h0, pu_b_0]
        exact ⟨fun z => (by cases z), fun z => absurd z.1 (hno m k hm hk e)⟩
      · rw [hself _ e]; exact h m k hm hk (by omega) t
    rw [mM_workTargets_l2_s, pu_l72, if_neg (fun z => absurd ((nI_leI (a := 72) (b := j) (by omega) (by omega)).mp z) (by omega)), me_stI (by omega) (by decide), me_m12 (by omega), me_d12 (by omega), me_ld hm (by decide), hM1.1 _ hm]
    by_cases c1 : lf_len P (j / 12) ≤ j % 12
    · rw [if_pos ((nI_leI (by omega) (by omega)).mpr c1)]
      refine skip (fun m k hm hk e => ?_)
      obtain ⟨e1, e2⟩ := huniq m k hm hk e
      rw [e1, e2] at hk
      omega
    · have hkl : j % 12 < lf_len P (j / 12) := by omega
      have hkd := (hM1.2.1 _ hm (j % 12) hkl).1
      rw [hj12] at hkd
      have hk10 := (hpo.2.1 _ hm _ hkl).1
      rw [if_neg (fun z => c1 ((nI_leI (by omega) (by omega)).mp z)), me_ld (by omega) (by decide), hkd, pu_l7]
      by_cases c7 : lf_kd P (j / 12) (j % 12) = 7
      · rw [if_pos ((nI_eq (by omega) (by omega)).mpr c7)]
        unfold mM_workTargets_b47
        rw [← nI_0]
        have key := mM_wt_50 hpo hm hkl c7 (mM_workTargets_l2 n) (fun z => lf_M P q z.2 ∧ mt_fr s0 z.2 ∧ ∀ m k, m < 6 → k < lf_len P m → mt_ok P q s0 z.2 m k) (s0 := mb_setI s 10 j 0) (fun u hu hfu hou hbu => by
          rw [hj12] at hou hbu ⊢
          refine ih (j + 1) n u (by omega) (by omega) hu (lf_fr.tr hf1 hfu) (fun m k hm' hk' hlt t => ?_)
          by_cases e : 12 * m + k = j
          · obtain ⟨e1, e2⟩ := huniq m k hm' hk' e
            rw [e, hbu t, e1, e2, show mb_I (mb_setI s 10 j 0) 7 = mb_I s0 7 from hf.2.1 7 (by decide)]
            exact ⟨fun z => ⟨c7, z⟩, fun z => z.2⟩
          · rw [hou _ e, hself _ e]; exact h m k hm' hk' (by omega) t) 36 0 mb_fuel (mb_setI s 10 j 0) rfl (by unfold mb_fuel; omega) hM1 lf_fr.rf (fun _ _ => rfl) (fun t => by
          rw [hj12, h0, pu_b_0]
          exact ⟨fun z => (by cases z), fun ⟨i, hi, _⟩ => absurd hi (Nat.not_lt_zero _)⟩)
        rw [hj12] at key
        exact key
      · rw [if_neg (fun z => c7 ((nI_eq (by omega) (by omega)).mp z))]
        refine skip (fun m k hm hk e => ?_)
        obtain ⟨e1, e2⟩ := huniq m k hm hk e
        rw [e1, e2]; exact c7
theorem mM_workTargets_e (hpo : lf_ok P q) {s : mb_S} (hM : lf_M P q s) : pu_wp (mM_workTargets s) (fun z => lf_M P q z.2 ∧ mt_fr s z.2 ∧ ∀ m k, m < 6 → k < lf_len P m → mt_ok P q s z.2 m k) := by
  unfold mM_workTargets
  rw [← nI_0]
  exact mM_wt_l hpo (s0 := s) 72 0 mb_fuel s rfl (by unfold mb_fuel; omega) hM lf_fr.rf (fun m k _ _ hlt => absurd hlt (Nat.not_lt_zero _))
end PTS
