section FM5
variable {P : lf_P} {q : lf_Q} {L T : Nat → Nat → Nat → Prop} {H : Nat → Nat → Nat → Nat → Prop} {Z E : Nat → Nat → Prop} {N : Nat → Prop}
def mf_ct (P : lf_P) (T : Nat → Nat → Nat → Prop) (m k e d t : Nat) (gs : mb_S) : Prop := T m k t → ((d = 64 ∨ 4 ≤ d % 16) → mf_gv P m k e t d gs) ∧ (d ≠ 64 → d % 16 = lf_b P m k → mf_gv P m k e t (d - d % 16) gs) ∧ (d ≠ 64 → d % 16 = lf_c P m k % 4 → mf_gv P m k e t (d - d % 16 + 1) gs)
theorem me_sub (a b : Nat) (h : b ≤ a) : nI a - nI b = nI (a - b) := pk_sub h
theorem mM_cf_67 (hpo : lf_ok P q) {m k e d : Nat} (hm : m < 6) (hk : k < lf_len P m) (c7 : lf_kd P m k = 7) (he : e ≤ 64) (hd : d ≤ 64) (hcl : ∀ t, t < 6 → T m k t → ((d = 64 ∨ 4 ≤ d % 16) → lf_gv P H E N m k e t d) ∧ (d ≠ 64 → d % 16 = lf_b P m k → lf_gv P H E N m k e t (d - d % 16)) ∧ (d ≠ 64 → d % 16 = lf_c P m k % 4 → lf_gv P H E N m k e t (d - d % 16 + 1))) {s0 : mb_S} {C0 : mb_S → Prop} :
    ∀ (f t n : Nat) (s : mb_S), t + f = 6 → f < n → mf_W P q L T H Z E N s → mf_op (fun gs _ => C0 gs ∧ ∀ t', t' < t → mf_ct P T m k e d t' gs) s0 s → pu_wp (mM_callFacts_l67 n (nI m) (nI k) (nI e) (nI d) (nI (12 * m + k)) (nI (d % 16)) (nI t) s) (fun z => mf_W P q L T H Z E N z.2 ∧ mf_op (fun gs _ => C0 gs ∧ ∀ t', t' < 6 → mf_ct P T m k e d t' gs) s0 z.2) := by
  have hl := hpo.1 m hm
  obtain ⟨o1, o2, o3, o4, o5, o6⟩ := hpo.2.1 _ hm _ hk
  have hb := o4 (by omega)
  have hc12 := o6 c7
  intro f
  induction f with
  | zero =>
    intro t n s htd hn hW hop
    obtain ⟨n, rfl⟩ : ∃ z, n = z + 1 := ⟨n - 1, by omega⟩
    rw [mM_callFacts_l67_s, pu_l6, if_pos ((nI_leI (by omega) (by omega)).mpr (by omega)), pu_some]
    rw [show t = 6 by omega] at hop
    exact ⟨hW, hop⟩
  | succ f ih =>
    intro t n s htd hn hW hop
    obtain ⟨n, rfl⟩ : ∃ z, n = z + 1 := ⟨n - 1, by omega⟩
    have ht : t < 6 := by omega
    have h206 : ∀ u, mf_W P q L T H Z E N u → mf_op (fun gs _ => (C0 gs ∧ ∀ t', t' < t → mf_ct P T m k e d t' gs) ∧ mf_ct P T m k e d t gs) s0 u → pu_wp (mM_callFacts_b206 (mM_callFacts_l67 n) (nI m) (nI k) (nI e) (nI d) (nI (12 * m + k)) (nI (d % 16)) (nI t) u) (fun z => mf_W P q L T H Z E N z.2 ∧ mf_op (fun gs _ => C0 gs ∧ ∀ t', t' < 6 → mf_ct P T m k e d t' gs) s0 z.2) := by
      intro u hu hou
      unfold mM_callFacts_b206
      rw [me_bnd, nI_1]
      refine ih (t + 1) n u (by omega) (by omega) hu (mf_wk hou (fun z => ⟨z.1.1, fun t' ht' => ?_⟩))
      by_cases e : t' = t
      · rw [e]; exact z.2
      · exact z.1.2 t' (by omega)
    have n64 : d ≠ 64 → ¬ nI d = nI 64 := fun h z => h ((nI_eq (by omega) (by omega)).mp z)
    rw [mM_callFacts_l67_s, pu_l6, if_neg (fun z => absurd ((nI_leI (a := 6) (b := t) (by omega) (by omega)).mp z) (by omega)), me_ld (by omega) (by decide), pu_b_shr (show t < 32 by omega)]
    by_cases hbit : pu_b (mb_I s 10 (12 * m + k)) t = true
    · have hT := (hW.2.1.2 m k t hm hk c7).mp hbit
      obtain ⟨g1, g2, g3⟩ := hcl t ht hT
      rw [if_pos hbit, if_pos rfl]
      have h164 : ∀ u, mf_W P q L T H Z E N u → mf_op (fun gs _ => (C0 gs ∧ ∀ t', t' < t → mf_ct P T m k e d t' gs) ∧ ((d = 64 ∨ 4 ≤ d % 16) → mf_gv P m k e t d gs) ∧ (d ≠ 64 → d % 16 = lf_b P m k → mf_gv P m k e t (d - d % 16) gs)) s0 u → pu_wp (mM_callFacts_b164 (mM_callFacts_l67 n) (nI m) (nI k) (nI e) (nI d) (nI (12 * m + k)) (nI (d % 16)) (nI t) 1 u) (fun z => mf_W P q L T H Z E N z.2 ∧ mf_op (fun gs _ => C0 gs ∧ ∀ t', t' < 6 → mf_ct P T m k e d t' gs) s0 z.2) := by
        intro u hu hou
        unfold mM_callFacts_b164
        rw [if_neg me_10, pu_l64]
        by_cases c64 : d = 64
        · rw [if_pos ((nI_eq (by omega) (by omega)).mpr c64)]
          exact h206 u hu (mf_wk hou (fun z => ⟨z.1, fun _ => ⟨z.2.1, z.2.2, fun h => absurd c64 h⟩⟩))
        · rw [if_neg (n64 c64), me_ld (by omega) (by decide), (hu.1.2.1 _ hm _ hk).2.2.2, me_m4 (by omega)]
          by_cases cx : d % 16 = lf_c P m k % 4
          · rw [if_pos ((nI_eq (by omega) (by omega)).mpr cx), me_sub d (d % 16) (by omega), nI_1, pu_cal]
            refine pu_mono (mM_give_e hpo hm hk c7 he ht (by omega) (g3 c64 cx) hu) (fun z hz => ?_)
            exact h206 z.2 hz.1 (mf_wk (mf_seq hou hz.2) (fun y => ⟨y.1.1, fun _ => ⟨y.1.2.1, y.1.2.2, fun _ _ => y.2⟩⟩))
          · rw [if_neg (fun z => cx ((nI_eq (by omega) (by omega)).mp z))]
            exact h206 u hu (mf_wk hou (fun z => ⟨z.1, fun _ => ⟨z.2.1, z.2.2, fun _ h => absurd h cx⟩⟩))
      have h126 : ∀ u, mf_W P q L T H Z E N u → mf_op (fun gs _ => (C0 gs ∧ ∀ t', t' < t → mf_ct P T m k e d t' gs) ∧ ((d = 64 ∨ 4 ≤ d % 16) → mf_gv P m k e t d gs)) s0 u → pu_wp (mM_callFacts_b126 (mM_callFacts_l67 n) (nI m) (nI k) (nI e) (nI d) (nI (12 * m + k)) (nI (d % 16)) (nI t) 1 u) (fun z => mf_W P q L T H Z E N z.2 ∧ mf_op (fun gs _ => C0 gs ∧ ∀ t', t' < 6 → mf_ct P T m k e d t' gs) s0 z.2) := by
        intro u hu hou
        unfold mM_callFacts_b126
        rw [if_neg me_10, pu_l64]
        by_cases c64 : d = 64
        · rw [if_pos ((nI_eq (by omega) (by omega)).mpr c64)]
          exact h164 u hu (mf_wk hou (fun z => ⟨z.1, z.2, fun h => absurd c64 h⟩))
        · rw [if_neg (n64 c64), me_ld (by omega) (by decide), (hu.1.2.1 _ hm _ hk).2.2.1]
          by_cases cx : d % 16 = lf_b P m k
          · rw [if_pos ((nI_eq (by omega) (by omega)).mpr cx), me_sub d (d % 16) (by omega), pu_cal]
            refine pu_mono (mM_give_e hpo hm hk c7 he ht (by omega) (g2 c64 cx) hu) (fun z hz => ?_)
            exact h164 z.2 hz.1 (mf_wk (mf_seq hou hz.2) (fun y => ⟨y.1.1, y.1.2, fun _ _ => y.2⟩))
          · rw [if_neg (fun z => cx ((nI_eq (by omega) (by omega)).mp z))]
            exact h164 u hu (mf_wk hou (fun z => ⟨z.1, z.2, fun _ h => absurd h cx⟩))
      have h115 : (d = 64 ∨ 4 ≤ d % 16) → pu_wp (mM_callFacts_b115 (mM_callFacts_l67 n) (nI m) (nI k) (nI e) (nI d) (nI (12 * m + k)) (nI (d % 16)) (nI t) 1 s) (fun z => mf_W P q L T H Z E N z.2 ∧ mf_op (fun gs _ => C0 gs ∧ ∀ t', t' < 6 → mf_ct P T m k e d t' gs) s0 z.2) := by
        intro hx
        unfold mM_callFacts_b115
        rw [pu_cal]
        refine pu_mono (mM_give_e hpo hm hk c7 he ht hd (g1 hx) hW) (fun z hz => ?_)
        exact h126 z.2 hz.1 (mf_wk (mf_seq hop hz.2) (fun y => ⟨y.1, fun _ => y.2⟩))
      unfold mM_callFacts_b95
      rw [if_neg me_10, pu_l64]
      by_cases c64 : d = 64
      · rw [if_pos ((nI_eq (by omega) (by omega)).mpr c64)]
        exact h115 (Or.inl c64)
      · rw [if_neg (n64 c64), pu_l4]
        by_cases c4 : d % 16 < 4
        · rw [if_pos ((nI_ltI (by omega) (by omega)).mpr c4)]
          exact h126 s hW (mf_wk hop (fun z => ⟨z, fun h => by omega⟩))
        · rw [if_neg (fun z => c4 ((nI_ltI (by omega) (by omega)).mp z))]
          exact h115 (Or.inr (by omega))
    · have hT : ¬ T m k t := fun z => hbit ((hW.2.1.2 m k t hm hk c7).mpr z)
      rw [if_neg hbit, if_neg (by decide)]
      unfold mM_callFacts_b95 mM_callFacts_b126 mM_callFacts_b164
      rw [if_pos rfl, if_pos rfl, if_pos rfl]
      exact h206 s hW (mf_wk hop (fun z => ⟨z, fun h => absurd h hT⟩))
end FM5
