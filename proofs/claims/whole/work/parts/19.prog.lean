section TGT
variable {P : lf_P} {q : lf_Q} {s : mb_S}
theorem mM_target_l (h : lf_M P q s) (hok : lf_ok P q) {g : Nat} (hg : g < 3) : ∀ (d k n : Nat) (c : Option Nat), k + d = 4 → d < n → (∀ x, c = some x → x < 4) → mM_target_l25 n (nI g) (lf_o c) (nI k) s = some (lf_o (lf_up q g d c), s) := by
  intro d
  induction d with
  | zero =>
    intro k n c hk hn hc
    obtain ⟨n, rfl⟩ : ∃ z, n = z + 1 := ⟨n - 1, by omega⟩
    rw [mM_target_l25_s, pu_l4, if_pos ((nI_leI (by omega) (by omega)).mpr (by omega))]
    rfl
  | succ d ih =>
    intro k n c hk hn hc
    obtain ⟨n, rfl⟩ : ∃ z, n = z + 1 := ⟨n - 1, by omega⟩
    rw [mM_target_l25_s, pu_l4, if_neg (fun z => absurd ((nI_leI (a := 4) (b := k) (by omega) (by omega)).mp z) (by omega))]
    cases c with
    | none =>
      rw [if_pos (by decide)]
      rfl
    | some c =>
      have h4 := hc c rfl
      have hb : ∀ t, lf_bd q c g = some t → t < 2 ^ 31 := fun t e => by have := hok.2.2.2.2.2.2.2 c h4 g hg t e; omega
      rw [lf_o_some, if_neg (nI_pos (by omega)), me_3, me_ld (by omega) (by decide), h.2.2.2 c h4 g hg, me_ld h4 (by decide), h.2.2.1 c h4, me_bnd, nI_1, me_ld (by omega) (by decide), h.2.2.2 c h4 g hg]
      unfold lf_up
      cases hbd : lf_bd q c g with
      | none =>
        rw [lf_o_none, if_pos (by decide)]
        exact ih (k + 1) n (lf_par q c) (by omega) (by omega) (fun x hx => by have := hok.2.2.2.2.2.2.1 c h4 x hx; omega)
      | some t =>
        rw [lf_o_some, if_neg (nI_pos (hb t hbd))]
theorem mM_target_e (h : lf_M P q s) (hok : lf_ok P q) {c g : Nat} (hc : c < 4) (hg : g < 3) : mM_target (nI c) (nI g) s = some (lf_o (lf_tgt q c g), s) := by
  unfold mM_target
  have h1 : mM_within (nI c) 0 3 = some 1 := by
    rcases mM_within_c (nI c) (N := 3) (by decide) with ⟨_, e⟩ | ⟨n, _⟩
    · exact e
    · exact absurd ⟨c, hc, rfl⟩ n
  have h2 : mM_within (nI g) 0 2 = some 1 := by
    rcases mM_within_c (nI g) (N := 2) (by decide) with ⟨_, e⟩ | ⟨n, _⟩
    · exact e
    · exact absurd ⟨g, hg, rfl⟩ n
  rw [h1, me_cal0, if_neg me_10, h2, me_cal0, if_neg me_10]
  exact mM_target_l h hok hg 4 0 mb_fuel (some c) rfl (by unfold mb_fuel; omega) (fun x hx => by cases hx; exact hc)
theorem mM_target_n {x y : Int32} (hn : ¬ (lf_is x 4 ∧ lf_is y 3)) : mM_target x y s = some (-1, s) := by
  unfold mM_target mM_target_b18
  rcases mM_w3 x with ⟨p1, e1⟩ | ⟨p1, e1⟩
  · rw [e1, me_cal0, if_neg me_10]
    rcases mM_w2 y with ⟨p2, e2⟩ | ⟨p2, e2⟩
    · exact absurd ⟨p1, p2⟩ hn
    · rw [e2, me_cal0, if_pos rfl]
  · rw [e1, me_cal0, if_pos rfl]
theorem mP_targetOf_l (h : lf_X P q s) (hok : lf_ok P q) {g : Nat} (hg : g < 3) : ∀ (d k n : Nat) (c : Option Nat), k + d = 4 → d < n → (∀ x, c = some x → x < 4) → mP_targetOf_l5 n (nI g) (lf_o c) (nI k) s = some (lf_o (lf_up q g d c), s) := by
  intro d
  induction d with
  | zero =>
    intro k n c hk hn hc
    obtain ⟨n, rfl⟩ : ∃ z, n = z + 1 := ⟨n - 1, by omega⟩
    rw [mP_targetOf_l5_s, pu_l4, if_pos ((nI_leI (by omega) (by omega)).mpr (by omega))]
    rfl
  | succ d ih =>
    intro k n c hk hn hc
    obtain ⟨n, rfl⟩ : ∃ z, n = z + 1 := ⟨n - 1, by omega⟩
    rw [mP_targetOf_l5_s, pu_l4, if_neg (fun z => absurd ((nI_leI (a := 4) (b := k) (by omega) (by omega)).mp z) (by omega))]
    cases c with
    | none =>
      rw [lf_o_none, if_pos rfl]
      rfl
    | some c =>
      have h4 := hc c rfl
      have hb : ∀ t, lf_bd q c g = some t → t < 2 ^ 31 := fun t e => by have := hok.2.2.2.2.2.2.2 c h4 g hg t e; omega
      rw [lf_o_some, if_neg (pu_ne (by omega)), me_3r, me_ld (by omega) (by decide), h.2.2.2.1 c h4 g hg, me_ld h4 (by decide), h.2.2.1 c h4, me_bnd, nI_1]
      unfold lf_up
      cases hbd : lf_bd q c g with
      | none =>
        rw [lf_o_none, if_pos rfl]
        exact ih (k + 1) n (lf_par q c) (by omega) (by omega) (fun x hx => by have := hok.2.2.2.2.2.2.1 c h4 x hx; omega)
      | some t =>
        rw [lf_o_some, if_neg (pu_ne (hb t hbd))]
theorem mP_targetOf_e (h : lf_X P q s) (hok : lf_ok P q) {c g : Nat} (hc : c < 4) (hg : g < 3) : mP_targetOf (nI c) (nI g) s = some (lf_o (lf_tgt q c g), s) :=
  mP_targetOf_l h hok hg 4 0 mb_fuel (some c) rfl (by unfold mb_fuel; omega) (fun x hx => by cases hx; exact hc)
theorem mM_classOf_l (h : lf_M P q s) (hok : lf_ok P q) {o : Nat} (ho : o < 2 ^ 31) : ∀ (d j n : Nat), j + d = 72 → d < n → (∀ m k, m < 6 → k < lf_len P m → 12 * m + k < j → lf_kd P m k = 0 → lf_bef P 0 m k ≠ o) → ∃ z : Option Nat, mM_classOf_l2 n (nI o) (nI j) s = some (lf_o z, s) ∧ ∀ c, z = some c ↔ lf_site P o c := by
  intro d
  induction d with
  | zero =>
    intro j n hj hn hno
    obtain ⟨n, rfl⟩ : ∃ z, n = z + 1 := ⟨n - 1, by omega⟩
    refine ⟨none, ?_, fun c => ⟨fun z => (by cases z), ?_⟩⟩
    · rw [mM_classOf_l2_s, pu_l72, if_pos ((nI_leI (by omega) (by omega)).mpr (by omega))]
      rfl
    · rintro ⟨m, k, hm, hk, hkd, hb, _⟩
      have hl := hok.1 m hm
      exact absurd hb (hno m k hm hk (by omega) hkd)
  | succ d ih =>
    intro j n hj hn hno
    obtain ⟨n, rfl⟩ : ∃ z, n = z + 1 := ⟨n - 1, by omega⟩
    have hm : j / 12 < 6 := by omega
    have hj12 : 12 * (j / 12) + j % 12 = j := by omega
    have hl := hok.1 (j / 12) hm
    rw [mM_classOf_l2_s, pu_l72, if_neg (fun z => absurd ((nI_leI (a := 72) (b := j) (by omega) (by omega)).mp z) (by omega)), me_bnd, me_d12 (by omega), me_ld hm (by decide), h.1 _ hm]
    have hnext : (∀ m k, m < 6 → k < lf_len P m → 12 * m + k = j → lf_kd P m k = 0 → lf_bef P 0 m k ≠ o) → ∃ z : Option Nat, mM_classOf_b68 (mM_classOf_l2 n) (nI o) (nI j) s = some (lf_o z, s) ∧ ∀ c, z = some c ↔ lf_site P o c := by
      intro hz
      unfold mM_classOf_b68
      rw [me_bnd, nI_1]
      refine ih (j + 1) n (by omega) (by omega) (fun m k hm hk hlt hkd => ?_)
      by_cases e : 12 * m + k = j
      · exact hz m k hm hk e hkd
      · exact hno m k hm hk (by omega) hkd
    have huniq : ∀ m k, m < 6 → k < lf_len P m → 12 * m + k = j → m = j / 12 ∧ k = j % 12 := fun m k hm hk e => by
      have := hok.1 m hm
      omega
    have hm12 : nI j - nI (j / 12) * 12 = nI (j % 12) := by
      have := me_m12 (a := j) (by omega)
      rw [me_d12 (by omega)] at this
      exact this
    rw [hm12]
    by_cases c1 : lf_len P (j / 12) ≤ j % 12
    · rw [if_pos ((nI_leI (by omega) (by omega)).mpr c1)]
      unfold mM_classOf_b39 mM_classOf_b40
      rw [if_pos rfl]
      refine hnext (fun m k hm hk e hkd => ?_)
      obtain ⟨e1, e2⟩ := huniq m k hm hk e
      subst e1; subst e2
      omega
    · rw [if_neg (fun z => c1 ((nI_leI (by omega) (by omega)).mp z)), me_ld (by omega) (by decide)]
      have hkd := (h.2.1 _ hm (j % 12) (by omega)).1
      have hb := (h.2.1 _ hm (j % 12) (by omega)).2.2.1
      rw [hj12] at hkd hb
      have hkk := (hok.2.1 _ hm (j % 12) (by omega)).1
      rw [hkd]
      by_cases c2 : lf_kd P (j / 12) (j % 12) = 0
      · rw [if_pos ((pu_eq0 (by omega)).mpr c2)]
        unfold mM_classOf_b40
        have hbe := mM_before_k h hok (kk := 0) (by omega) hm (show j % 12 ≤ lf_len P (j / 12) by omega)
        rw [nI_0] at hbe
        rw [if_neg me_10, me_d12 (by omega), hm12, hbe, me_cal]
        have hbl := lf_bef_lt P hm (show j % 12 < lf_len P (j / 12) by omega)
        rw [c2] at hbl
        have hc6 := hok.2.2.1
        by_cases c3 : lf_bef P 0 (j / 12) (j % 12) = o
        · rw [if_pos ((nI_eq (by omega) ho).mpr c3), me_ld (by omega) (by decide), hb]
          refine ⟨some (lf_b P (j / 12) (j % 12)), rfl, fun c => ⟨fun z => ?_, fun z => ?_⟩⟩
          · cases z
            exact ⟨j / 12, j % 12, hm, by omega, c2, c3, rfl⟩
          · rw [lf_site_fun z ⟨j / 12, j % 12, hm, by omega, c2, c3, rfl⟩]
        · rw [if_neg (fun z => c3 ((nI_eq (by omega) ho).mp z))]
          refine hnext (fun m k hm hk e hkd => ?_)
          obtain ⟨e1, e2⟩ := huniq m k hm hk e
          subst e1; subst e2
          exact c3
      · rw [if_neg (fun z => c2 ((pu_eq0 (by omega)).mp z))]
        unfold mM_classOf_b39 mM_classOf_b40
        rw [if_pos rfl]
        refine hnext (fun m k hm hk e hkd => ?_)
        obtain ⟨e1, e2⟩ := huniq m k hm hk e
        subst e1; subst e2
        exact absurd hkd c2
theorem mM_classOf_e (h : lf_M P q s) (hok : lf_ok P q) {o : Nat} (ho : o < 2 ^ 31) : ∃ z : Option Nat, mM_classOf (nI o) s = some (lf_o z, s) ∧ ∀ c, z = some c ↔ lf_site P o c :=
  mM_classOf_l h hok ho 72 0 mb_fuel rfl (by unfold mb_fuel; omega) (fun m k _ _ hlt => absurd hlt (Nat.not_lt_zero _))
end TGT
