section FM11
variable {P : lf_P} {q : lf_Q} {L T : Nat → Nat → Nat → Prop} {H : Nat → Nat → Nat → Nat → Prop} {Z E : Nat → Nat → Prop} {N : Nat → Prop}
theorem mf_mu_le (g : mb_S) : eg_mu 78 5070 (eg_sg mp_K0 mf_KI mf_KL g) ≤ 11 * 32 + 24 * (78 * 32) + 2 * (5070 * 64) := by
  unfold eg_mu
  have h1 : pu_sum (fun k => pu_pc (mb_F (eg_sg mp_K0 mf_KI mf_KL g) k).toBitVec) 11 ≤ 11 * 32 := pu_sum_bd (fun k _ => pu_pc_le _)
  have h2 : pu_sum (fun a => pu_sum (fun j => pu_pc (mb_I (eg_sg mp_K0 mf_KI mf_KL g) a j).toBitVec) 78) 24 ≤ 24 * (78 * 32) := pu_sum_bd (fun a _ => pu_sum_bd (fun j _ => pu_pc_le _))
  have h3 : pu_sum (fun a => pu_sum (fun j => pu_pc (mb_L (eg_sg mp_K0 mf_KI mf_KL g) a j).toBitVec) 5070) 2 ≤ 2 * (5070 * 64) := pu_sum_bd (fun a _ => pu_sum_bd (fun j _ => pu_pc_le _))
  omega
theorem mf_up_sg {s : mb_S} {m e : Nat} (h : mf_up P L T m e (eg_sg mp_K0 mf_KI mf_KL s)) : mf_up P L T m e s := by
  unfold mf_up mf_en mf_se mf_af mf_fz mf_fo mf_cf mf_ct mf_gv mf_bk mf_at at h ⊢
  rw [mf_11, mf_12, mf_l0, mf_l1] at h
  exact h
theorem mM_wf_86 (hpo : lf_ok P q) (hC : lf_FC P L T H Z E N) {s0 : mb_S} : ∀ (d i n : Nat) (s : mb_S), i + d = 1000000 → d < n → mf_W P q L T H Z E N s → mf_Fr s0 s → (mb_F s 1 = 1 → i ≤ eg_mu 78 5070 (eg_sg mp_K0 mf_KI mf_KL s)) → (mb_F s 1 = 0 → mf_up P L T 6 0 s) → pu_wp (mM_workFacts_l86 n (nI i) s) (fun z => mf_W P q L T H Z E N z.2 ∧ mf_up P L T 6 0 z.2 ∧ mf_Fr s0 z.2) := by
  intro d
  induction d with
  | zero =>
    intro i n s hid hn hW hf hmu hup
    obtain ⟨n, rfl⟩ : ∃ z, n = z + 1 := ⟨n - 1, by omega⟩
    rw [mM_workFacts_l86_s, show (1000000 : Int32) = nI 1000000 from rfl, if_pos ((nI_leI (by omega) (by omega)).mpr (by omega))]
    unfold mM_workFacts_b153
    rw [pu_some]
    rcases hW.2.2.1 with z | z
    · exact ⟨hW, hup z, hf⟩
    · have := hmu z
      have := mf_mu_le s
      omega
  | succ d ih =>
    intro i n s hid hn hW hf hmu hup
    obtain ⟨n, rfl⟩ : ∃ z, n = z + 1 := ⟨n - 1, by omega⟩
    rw [mM_workFacts_l86_s, show (1000000 : Int32) = nI 1000000 from rfl, if_neg (fun z => absurd ((nI_leI (a := 1000000) (b := i) (by omega) (by omega)).mp z) (by omega))]
    unfold mM_workFacts_b153
    by_cases c : mb_F s 1 = 0
    · rw [if_pos c, pu_some]
      exact ⟨hW, hup c, hf⟩
    · rw [if_neg c, me_putZ0, ← nI_0]
      have hf1 : mf_Fr s (mb_setF s 1 0) := lf_fr.rf.setF rfl
      have hW0 : mf_W P q L T H Z E N (mb_setF s 1 0) := ⟨hW.1, hW.2.1, Or.inl rfl, hW.2.2.2.1, hW.2.2.2.2.1, hW.2.2.2.2.2⟩
      have h1 : mb_F s 1 = 1 := by
        rcases hW.2.2.1 with z | z
        · exact absurd z c
        · exact z
      have hm0 := hmu h1
      have esg : eg_sg mp_K0 mf_KI mf_KL (mb_setF s 1 0) = eg_sg mp_K0 mf_KI mf_KL s := eg_flag (by decide) 0
      refine mM_wf_106 hpo hC (mM_workFacts_l86 n) _ (s0 := mb_setF s 1 0) (fun u hu hou => ?_) 6 0 mb_fuel (mb_setF s 1 0) rfl (by unfold mb_fuel; omega) hW0 (mf_rf (C := fun gs => mf_up P L T 0 0 gs) (Or.inl rfl) (fun a b _ _ hlt => by omega))
      obtain ⟨e1, e2, e3, e4, e5, e6⟩ := hou
      refine ih (i + 1) n u (by omega) (by omega) hu (mf_Fr.tr (mf_Fr.tr hf hf1) e1) (fun z => ?_) (fun z => ?_)
      · have := e6 rfl z
        rw [esg] at this
        omega
      · obtain ⟨-, z2, z3⟩ := e5 z
        have z3 : mf_up P L T 6 0 (eg_sg mp_K0 mf_KI mf_KL (mb_setF s 1 0)) := z3
        rw [← z2] at z3
        exact mf_up_sg z3
end FM11
