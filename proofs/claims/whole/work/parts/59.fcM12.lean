section FM12
variable {P : lf_P} {q : lf_Q} {L T : Nat → Nat → Nat → Prop} {H : Nat → Nat → Nat → Nat → Prop} {Z E : Nat → Nat → Prop} {N : Nat → Prop}
theorem mM_wf_45 (hpo : lf_ok P q) (hC : lf_FC P L T H Z E N) {s0 : mb_S} (hM0 : lf_M P q s0) (hPT : mf_PT P L T s0) : ∀ (d k n : Nat) (s : mb_S), k + d = 6 → d < n → mf_Fr s0 s → (∀ j, j < 5070 → mb_L s 0 j = 0) → (∀ j, j < 78 → mb_I s 11 j = 0) → (∀ j, j < k → mb_L s 1 j = 0 ∧ mb_I s 12 j = if j = 0 then 1 else 0) → pu_wp (mM_workFacts_l45 n (nI k) s) (fun z => mf_W P q L T H Z E N z.2 ∧ mf_up P L T 6 0 z.2 ∧ mf_Fr s0 z.2) := by
  intro d
  induction d with
  | zero =>
    intro k n s hkd hn hf h0 h11 h
    obtain ⟨n, rfl⟩ : ∃ z, n = z + 1 := ⟨n - 1, by omega⟩
    rw [mM_workFacts_l45_s, pu_l6, if_pos ((nI_leI (by omega) (by omega)).mpr (by omega)), me_putZ1, ← nI_0]
    have hf1 : mf_Fr s0 (mb_setF s 1 1) := lf_fr.setF hf rfl
    refine mM_wf_86 hpo hC (s0 := s0) 1000000 0 mb_fuel _ rfl (by unfold mb_fuel; omega) ⟨hf1.M hM0, hf1.PT hPT, Or.inr rfl, fun j hj => Or.inl (h11 j hj), fun j hj => ?_, ⟨fun m k' e d hm hk he hd z => ?_, fun m k' hm hk z => ?_, fun m e hm he z => ?_, fun m hm z => ?_, ?_⟩⟩ hf1 (fun _ => Nat.zero_le _) (fun z => absurd (show (1 : Int32) = 0 from z) (by decide))
    · show mb_I s 12 j = 0 ∨ mb_I s 12 j = 1
      rw [(h j (by omega)).2]
      by_cases e : j = 0
      · rw [if_pos e]; exact Or.inr rfl
      · rw [if_neg e]; exact Or.inl rfl
    · have z2 : pu_c (mb_L s 0 ((13 * m + k') * 65 + e)) d = true := z
      rw [h0 _ (by omega), pu_c_0] at z2; cases z2
    · have z2 : mb_I s 11 (13 * m + k') = 1 := z
      rw [h11 _ (by omega)] at z2; exact absurd z2 (by decide)
    · have z2 : pu_c (mb_L s 1 m) e = true := z
      rw [(h m (by omega)).1, pu_c_0] at z2; cases z2
    · have z2 : mb_I s 12 m = 1 := z
      rw [(h m (by omega)).2] at z2
      by_cases e : m = 0
      · rw [e]; exact hC.1
      · rw [if_neg e] at z2; exact absurd z2 (by decide)
    · show mb_I s 12 0 = 1
      rw [(h 0 (by omega)).2]; rfl
  | succ d ih =>
    intro k n s hkd hn hf h0 h11 h
    obtain ⟨n, rfl⟩ : ∃ z, n = z + 1 := ⟨n - 1, by omega⟩
    rw [mM_workFacts_l45_s, pu_l6, if_neg (fun z => absurd ((nI_leI (a := 6) (b := k) (by omega) (by omega)).mp z) (by omega)), me_stL (by omega) (by decide)]
    unfold mM_workFacts_b72
    have key : ∀ y : Int32, (y = if k = 0 then 1 else 0) → pu_wp (mM_workFacts_l45 n (nI (k + 1)) (mb_setI (mb_setL s 1 k 0) 12 k y)) (fun z => mf_W P q L T H Z E N z.2 ∧ mf_up P L T 6 0 z.2 ∧ mf_Fr s0 z.2) := by
      intro y hy
      refine ih (k + 1) n _ (by omega) (by omega) (lf_fr.setI (lf_fr.setL hf (Or.inr rfl)) (Or.inr rfl)) h0 h11 (fun j hj => ?_)
      show vp_updL (mb_L s 1) k 0 j = 0 ∧ upd (mb_I s 12) k y j = if j = 0 then 1 else 0
      rw [pu_updL, pu_upd]
      by_cases e : j = k
      · rw [if_pos e, if_pos e, hy, e]; exact ⟨rfl, rfl⟩
      · rw [if_neg e, if_neg e]; exact h j (by omega)
    by_cases c : k = 0
    · rw [if_pos ((pu_eq0 (by omega)).mpr c), me_stZ1 (by omega) (by decide), me_bnd, nI_1]
      exact key 1 (by rw [if_pos c])
    · rw [if_neg (fun z => c ((pu_eq0 (by omega)).mp z)), me_stZ0 (by omega) (by decide), me_bnd, nI_1]
      exact key 0 (by rw [if_neg c])
theorem mM_wf_24 (hpo : lf_ok P q) (hC : lf_FC P L T H Z E N) {s0 : mb_S} (hM0 : lf_M P q s0) (hPT : mf_PT P L T s0) : ∀ (d k n : Nat) (s : mb_S), k + d = 78 → d < n → mf_Fr s0 s → (∀ j, j < 5070 → mb_L s 0 j = 0) → (∀ j, j < k → mb_I s 11 j = 0) → pu_wp (mM_workFacts_l24 n (nI k) s) (fun z => mf_W P q L T H Z E N z.2 ∧ mf_up P L T 6 0 z.2 ∧ mf_Fr s0 z.2) := by
  intro d
  induction d with
  | zero =>
    intro k n s hkd hn hf h0 h
    obtain ⟨n, rfl⟩ : ∃ z, n = z + 1 := ⟨n - 1, by omega⟩
    rw [mM_workFacts_l24_s, pu_l78, if_pos ((nI_leI (by omega) (by omega)).mpr (by omega)), ← nI_0]
    exact mM_wf_45 hpo hC hM0 hPT 6 0 mb_fuel s rfl (by unfold mb_fuel; omega) hf h0 (fun j hj => h j (by omega)) (fun j hj => absurd hj (Nat.not_lt_zero _))
  | succ d ih =>
    intro k n s hkd hn hf h0 h
    obtain ⟨n, rfl⟩ : ∃ z, n = z + 1 := ⟨n - 1, by omega⟩
    rw [mM_workFacts_l24_s, pu_l78, if_neg (fun z => absurd ((nI_leI (a := 78) (b := k) (by omega) (by omega)).mp z) (by omega)), me_stZ0 (by omega) (by decide), me_bnd, nI_1]
    refine ih (k + 1) n _ (by omega) (by omega) (lf_fr.setI hf (Or.inl rfl)) h0 (fun j hj => ?_)
    show upd (mb_I s 11) k 0 j = 0
    rw [pu_upd]
    by_cases e : j = k
    · rw [if_pos e]
    · rw [if_neg e]; exact h j (by omega)
theorem mM_wf_2 (hpo : lf_ok P q) (hC : lf_FC P L T H Z E N) {s0 : mb_S} (hM0 : lf_M P q s0) (hPT : mf_PT P L T s0) : ∀ (d k n : Nat) (s : mb_S), k + d = 5070 → d < n → mf_Fr s0 s → (∀ j, j < k → mb_L s 0 j = 0) → pu_wp (mM_workFacts_l2 n (nI k) s) (fun z => mf_W P q L T H Z E N z.2 ∧ mf_up P L T 6 0 z.2 ∧ mf_Fr s0 z.2) := by
  intro d
  induction d with
  | zero =>
    intro k n s hkd hn hf h
    obtain ⟨n, rfl⟩ : ∃ z, n = z + 1 := ⟨n - 1, by omega⟩
    rw [mM_workFacts_l2_s, pu_l5070, if_pos ((nI_leI (by omega) (by omega)).mpr (by omega)), ← nI_0]
    exact mM_wf_24 hpo hC hM0 hPT 78 0 mb_fuel s rfl (by unfold mb_fuel; omega) hf (fun j hj => h j (by omega)) (fun j hj => absurd hj (Nat.not_lt_zero _))
  | succ d ih =>
    intro k n s hkd hn hf h
    obtain ⟨n, rfl⟩ : ∃ z, n = z + 1 := ⟨n - 1, by omega⟩
    rw [mM_workFacts_l2_s, pu_l5070, if_neg (fun z => absurd ((nI_leI (a := 5070) (b := k) (by omega) (by omega)).mp z) (by omega)), me_stL (by omega) (by decide), me_bnd, nI_1]
    refine ih (k + 1) n _ (by omega) (by omega) (lf_fr.setL hf (Or.inl rfl)) (fun j hj => ?_)
    show vp_updL (mb_L s 0) k 0 j = 0
    rw [pu_updL]
    by_cases e : j = k
    · rw [if_pos e]
    · rw [if_neg e]; exact h j (by omega)
theorem mM_workFacts_g (hpo : lf_ok P q) (hC : lf_FC P L T H Z E N) {s : mb_S} (hM : lf_M P q s) (hPT : mf_PT P L T s) : pu_wp (mM_workFacts s) (fun z => mf_W P q L T H Z E N z.2 ∧ mf_up P L T 6 0 z.2 ∧ mf_Fr s z.2) := by
  unfold mM_workFacts
  rw [← nI_0]
  exact mM_wf_2 hpo hC hM hPT 5070 0 mb_fuel s rfl (by unfold mb_fuel; omega) lf_fr.rf (fun j hj => absurd hj (Nat.not_lt_zero _))
end FM12
