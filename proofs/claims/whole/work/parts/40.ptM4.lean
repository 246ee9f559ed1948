section PM4
variable {P : lf_P} {q : lf_Q} {L F : Nat → Nat → Nat → Prop} {R : Nat → Prop}
def mp_up (P : lf_P) (q : lf_Q) (m k : Nat) (g : mb_S) : Prop := ∀ i j, i < 6 → j < lf_len P i → (i < m ∨ (i = m ∧ j < k)) → mb_I g 9 i = 1 → mp_cl P q i j g
theorem mM_wp_83 (hpo : lf_ok P q) (hC : lf_PC P q L F R) {m : Nat} (hm : m < 6) (k55 : Int32 → mb_S → Option (Unit × mb_S)) (k75 : Int32 → Int32 → mb_S → Option (Unit × mb_S)) (x1 : Int32) (Q : Unit × mb_S → Prop) {s0 : mb_S}
    (hk75 : ∀ s, mp_W P q L F R s → mp_op (fun g _ => mp_up P q (m + 1) 0 g) s0 s → pu_wp (k75 x1 (nI (m + 1)) s) Q) :
    ∀ (d k n : Nat) (s : mb_S), k + d = lf_len P m → d < n → mp_W P q L F R s → mp_op (fun g _ => mp_up P q m k g) s0 s → pu_wp (mM_workPoints_l83 k55 k75 n x1 (nI m) (nI k) s) Q := by
  have hl := hpo.1 _ hm
  intro d
  induction d with
  | zero =>
    intro k n s hkd hn hW hop
    obtain ⟨n, rfl⟩ : ∃ z, n = z + 1 := ⟨n - 1, by omega⟩
    rw [mM_workPoints_l83_s, me_ld hm (by decide), hW.1.1 _ hm, if_pos ((nI_leI (by omega) (by omega)).mpr (by omega))]
    unfold mM_workPoints_b114
    rw [me_bnd, nI_1]
    refine hk75 s hW (mp_wk hop (fun z i j hi hj hlt h9 => z i j hi hj ?_ h9))
    by_cases e : i = m
    · subst e; exact Or.inr ⟨rfl, by omega⟩
    · exact Or.inl (by omega)
  | succ d ih =>
    intro k n s hkd hn hW hop
    obtain ⟨n, rfl⟩ : ∃ z, n = z + 1 := ⟨n - 1, by omega⟩
    have hk : k < lf_len P m := by omega
    rw [mM_workPoints_l83_s, me_ld hm (by decide), hW.1.1 _ hm, if_neg (fun z => absurd ((nI_leI (by omega) (by omega)).mp z) (by omega)), me_ld hm (by decide)]
    by_cases c9 : mb_I s 9 m = 0
    · rw [if_pos c9]
      unfold mM_workPoints_b114
      rw [me_bnd, nI_1]
      refine hk75 s hW (mp_wk (mp_seq hop (mp_rf (C := fun g => mb_I g 9 m = 0) (mp_flag hop) (by rw [mp_9]; exact c9))) (fun z i j hi hj hlt h9 => ?_))
      by_cases e : i = m
      · subst e
        rw [z.2] at h9
        exact absurd h9 (by decide)
      · exact z.1 i j hi hj (Or.inl (by omega)) h9
    · rw [if_neg c9]
      have h91 : mb_I s 9 m = 1 := by
        rcases hW.2.2.1 m hm with z | z
        · exact absurd z c9
        · exact z
      rw [pu_cal]
      refine pu_mono (mM_pointsOf_e hpo hC hm hk (hW.2.2.2.2.2.1 m hm h91) hW) (fun z hz => ?_)
      rw [me_bnd, nI_1]
      refine ih (k + 1) n z.2 (by omega) (by omega) hz.1 (mp_wk (mp_seq hop hz.2) (fun w i j hi hj hlt h9 => ?_))
      by_cases e : i = m ∧ j = k
      · rw [e.1, e.2]; exact w.2
      · exact w.1 i j hi hj (by omega) h9
theorem mM_wp_75 (hpo : lf_ok P q) (hC : lf_PC P q L F R) (k55 : Int32 → mb_S → Option (Unit × mb_S)) {i : Nat} (Q : Unit × mb_S → Prop) {s0 : mb_S}
    (hk55 : ∀ s, mp_W P q L F R s → mp_op (fun g _ => mp_up P q 6 0 g) s0 s → pu_wp (k55 (nI (i + 1)) s) Q) :
    ∀ (d m n : Nat) (s : mb_S), m + d = 6 → d < n → mp_W P q L F R s → mp_op (fun g _ => mp_up P q m 0 g) s0 s → pu_wp (mM_workPoints_l75 k55 n (nI i) (nI m) s) Q := by
  intro d
  induction d with
  | zero =>
    intro m n s hmd hn hW hop
    obtain ⟨n, rfl⟩ : ∃ z, n = z + 1 := ⟨n - 1, by omega⟩
    rw [mM_workPoints_l75_s, pu_l6, if_pos ((nI_leI (by omega) (by omega)).mpr (by omega)), me_bnd, nI_1]
    rw [show m = 6 by omega] at hop
    exact hk55 s hW hop
  | succ d ih =>
    intro m n s hmd hn hW hop
    obtain ⟨n, rfl⟩ : ∃ z, n = z + 1 := ⟨n - 1, by omega⟩
    have hl := hpo.1 m (by omega)
    rw [mM_workPoints_l75_s, pu_l6, if_neg (fun z => absurd ((nI_leI (a := 6) (b := m) (by omega) (by omega)).mp z) (by omega)), ← nI_0]
    exact mM_wp_83 hpo hC (show m < 6 by omega) k55 (mM_workPoints_l75 k55 n) (nI i) Q (s0 := s0) (fun u hu hou => ih (m + 1) n u (by omega) (by omega) hu hou) (lf_len P m) 0 mb_fuel s (Nat.zero_add _) (by unfold mb_fuel; omega) hW hop
theorem mp_mu_le (g : mb_S) : eg_mu 24 0 (eg_sg mp_K0 mp_KI mp_K0 g) ≤ 24 * 24 * 32 := by
  unfold eg_mu
  have h1 : pu_sum (fun k => pu_pc (mb_F (eg_sg mp_K0 mp_KI mp_K0 g) k).toBitVec) 11 = 0 := by
    rw [← pu_sum_0 11]
    refine pu_sum_congr (fun k _ => ?_)
    show pu_pc (0 : Int32).toBitVec = 0
    decide +kernel
  have h3 : pu_sum (fun a => pu_sum (fun j => pu_pc (mb_L (eg_sg mp_K0 mp_KI mp_K0 g) a j).toBitVec) 0) 2 = 0 := rfl
  have h2 : pu_sum (fun a => pu_sum (fun j => pu_pc (mb_I (eg_sg mp_K0 mp_KI mp_K0 g) a j).toBitVec) 24) 24 ≤ 24 * (24 * 32) := pu_sum_bd (fun a _ => pu_sum_bd (fun j _ => pu_pc_le _))
  omega
theorem mM_wp_55 (hpo : lf_ok P q) (hC : lf_PC P q L F R) {s0 : mb_S} : ∀ (d i n : Nat) (s : mb_S), i + d = 100000 → d < n → mp_W P q L F R s → mp_Fr s0 s → (mb_F s 1 = 1 → i ≤ eg_mu 24 0 (eg_sg mp_K0 mp_KI mp_K0 s)) → (mb_F s 1 = 0 → mp_up P q 6 0 s) → pu_wp (mM_workPoints_l55 n (nI i) s) (fun z => mp_W P q L F R z.2 ∧ mp_up P q 6 0 z.2 ∧ mp_Fr s0 z.2) := by
  intro d
  induction d with
  | zero =>
    intro i n s hid hn hW hf hmu hup
    obtain ⟨n, rfl⟩ : ∃ z, n = z + 1 := ⟨n - 1, by omega⟩
    rw [mM_workPoints_l55_s, show (100000 : Int32) = nI 100000 from rfl, if_pos ((nI_leI (by omega) (by omega)).mpr (by omega))]
    unfold mM_workPoints_b126
    rw [pu_some]
    rcases hW.2.1 with z | z
    · exact ⟨hW, hup z, hf⟩
    · have := hmu z
      have := mp_mu_le s
      omega
  | succ d ih =>
    intro i n s hid hn hW hf hmu hup
    obtain ⟨n, rfl⟩ : ∃ z, n = z + 1 := ⟨n - 1, by omega⟩
    rw [mM_workPoints_l55_s, show (100000 : Int32) = nI 100000 from rfl, if_neg (fun z => absurd ((nI_leI (a := 100000) (b := i) (by omega) (by omega)).mp z) (by omega))]
    unfold mM_workPoints_b126
    by_cases c : mb_F s 1 = 0
    · rw [if_pos c, pu_some]
      exact ⟨hW, hup c, hf⟩
    · rw [if_neg c, me_putZ0, ← nI_0]
      have hW0 : mp_W P q L F R (mb_setF s 1 0) := ⟨hW.1, Or.inl rfl, hW.2.2.1, hW.2.2.2⟩
      have hf0 : mp_Fr s0 (mb_setF s 1 0) := lf_fr.setF hf rfl
      have h1 : mb_F s 1 = 1 := by
        rcases hW.2.1 with z | z
        · exact absurd z c
        · exact z
      have hm0 := hmu h1
      have esg : eg_sg mp_K0 mp_KI mp_K0 (mb_setF s 1 0) = eg_sg mp_K0 mp_KI mp_K0 s := eg_flag (by decide) 0
      refine mM_wp_75 hpo hC (mM_workPoints_l55 n) _ (s0 := mb_setF s 1 0) (fun u hu hou => ?_) 6 0 mb_fuel (mb_setF s 1 0) rfl (by unfold mb_fuel; omega) hW0 (mp_rf (C := mp_up P q 0 0) (Or.inl rfl) (fun a b _ _ hlt => by omega))
      obtain ⟨e1, e2, e3, e4, e5, e6⟩ := hou
      refine ih (i + 1) n u (by omega) (by omega) hu (mp_Fr.tr hf0 e1) (fun z => ?_) (fun z => ?_)
      · have := e6 rfl z
        rw [esg] at this
        omega
      · obtain ⟨-, z2, z3⟩ := e5 z
        have z3 : mp_up P q 6 0 (eg_sg mp_K0 mp_KI mp_K0 (mb_setF s 1 0)) := z3
        rw [← z2] at z3
        intro a b ha hb hlt h9
        have hcl := z3 a b ha hb hlt (by rw [mp_9]; exact h9)
        unfold mp_cl mp_pair at hcl ⊢
        rw [mp_7, mp_8, mp_9] at hcl
        exact hcl
end PM4
