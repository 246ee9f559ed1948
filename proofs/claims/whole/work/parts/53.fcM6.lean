section FM6
variable {P : lf_P} {q : lf_Q} {L T : Nat → Nat → Nat → Prop} {H : Nat → Nat → Nat → Nat → Prop} {Z E : Nat → Nat → Prop} {N : Nat → Prop} {s : mb_S}
theorem me_a15 {a : Nat} (h : a < 2 ^ 32) : nI a &&& 15 = nI (a % 16) := pk_andN (n := a) h (m := 15) 4 (by decide)
def mf_cf (P : lf_P) (T : Nat → Nat → Nat → Prop) (m k e d : Nat) (gs : mb_S) : Prop := (d = 64 → mb_I gs 11 (13 * m + (k + 1)) = 1) ∧ (d ≠ 64 → d % 16 < 4 → d % 16 ≠ lf_a P m k → pu_c (mb_L gs 0 ((13 * m + (k + 1)) * 65 + e)) d = true) ∧ ∀ t, t < 6 → mf_ct P T m k e d t gs
theorem mM_callFacts_e (hpo : lf_ok P q) {m k e d : Nat} (hm : m < 6) (hk : k < lf_len P m) (c7 : lf_kd P m k = 7) (he : e ≤ 64) (hd : d ≤ 64) (hZ : d = 64 → Z m (k + 1)) (hH : d ≠ 64 → d % 16 < 4 → d % 16 ≠ lf_a P m k → H m (k + 1) e d) (hcl : ∀ t, t < 6 → T m k t → ((d = 64 ∨ 4 ≤ d % 16) → lf_gv P H E N m k e t d) ∧ (d ≠ 64 → d % 16 = lf_b P m k → lf_gv P H E N m k e t (d - d % 16)) ∧ (d ≠ 64 → d % 16 = lf_c P m k % 4 → lf_gv P H E N m k e t (d - d % 16 + 1))) (hW : mf_W P q L T H Z E N s) : pu_wp (mM_callFacts (nI m) (nI k) (nI e) (nI d) s) (fun z => mf_W P q L T H Z E N z.2 ∧ mf_op (fun gs _ => mf_cf P T m k e d gs) s z.2) := by
  have hl := hpo.1 m hm
  have ha : lf_a P m k < 4 := (hpo.2.1 _ hm _ hk).2.2.1 (by omega)
  have hmin : min (k + 1) (lf_len P m) = k + 1 := Nat.min_eq_left hk
  have fin : ∀ u, mf_W P q L T H Z E N u → mf_op (fun gs _ => (d = 64 → mb_I gs 11 (13 * m + (k + 1)) = 1) ∧ (d ≠ 64 → d % 16 < 4 → d % 16 ≠ lf_a P m k → pu_c (mb_L gs 0 ((13 * m + (k + 1)) * 65 + e)) d = true)) s u → pu_wp (mM_callFacts_b64 (nI m) (nI k) (nI e) (nI d) (nI (12 * m + k)) (nI (d % 16)) u) (fun z => mf_W P q L T H Z E N z.2 ∧ mf_op (fun gs _ => mf_cf P T m k e d gs) s z.2) := by
    intro u hu hou
    unfold mM_callFacts_b64
    rw [← nI_0]
    refine pu_mono (mM_cf_67 hpo hm hk c7 he hd hcl (s0 := s) (C0 := fun gs => (d = 64 → mb_I gs 11 (13 * m + (k + 1)) = 1) ∧ (d ≠ 64 → d % 16 < 4 → d % 16 ≠ lf_a P m k → pu_c (mb_L gs 0 ((13 * m + (k + 1)) * 65 + e)) d = true)) 6 0 mb_fuel u rfl (by unfold mb_fuel; omega) hu (mf_wk hou (fun z => ⟨z, fun t' h => absurd h (Nat.not_lt_zero _)⟩))) (fun z hz => ⟨hz.1, mf_wk hz.2 (fun y => ⟨y.1.1, y.1.2, y.2⟩)⟩)
  unfold mM_callFacts
  rw [me_12, me_bnd, me_a15 (by omega), me_bnd, pu_l64, nI_1]
  by_cases c64 : d = 64
  · rw [if_pos ((nI_eq (by omega) (by omega)).mpr c64)]
    obtain ⟨u, e1, e2, e3⟩ := mM_putZero_e hpo hW hm (k := k + 1) (by omega) (by rw [hmin]; exact hZ c64)
    rw [e1, me_cal]
    refine fin u e2 (mf_wk e3 (fun z => ⟨fun _ => ?_, fun h => absurd c64 h⟩))
    rw [hmin] at z; exact z
  · have hd64 : d < 64 := by omega
    rw [if_neg (fun z => c64 ((nI_eq (by omega) (by omega)).mp z)), pu_l4]
    by_cases c4 : 4 ≤ d % 16
    · rw [if_pos ((nI_leI (by omega) (by omega)).mpr c4)]
      exact fin s hW (mf_rf (C := fun gs => (d = 64 → mb_I gs 11 (13 * m + (k + 1)) = 1) ∧ (d ≠ 64 → d % 16 < 4 → d % 16 ≠ lf_a P m k → pu_c (mb_L gs 0 ((13 * m + (k + 1)) * 65 + e)) d = true)) hW.2.2.1 ⟨fun h => absurd h c64, fun _ h => by omega⟩)
    · rw [if_neg (fun z => c4 ((nI_leI (by omega) (by omega)).mp z)), me_ld (by omega) (by decide), (hW.1.2.1 _ hm _ hk).2.1]
      by_cases ca : d % 16 = lf_a P m k
      · rw [if_pos ((nI_eq (by omega) (by omega)).mpr ca)]
        exact fin s hW (mf_rf (C := fun gs => (d = 64 → mb_I gs 11 (13 * m + (k + 1)) = 1) ∧ (d ≠ 64 → d % 16 < 4 → d % 16 ≠ lf_a P m k → pu_c (mb_L gs 0 ((13 * m + (k + 1)) * 65 + e)) d = true)) hW.2.2.1 ⟨fun h => absurd h c64, fun _ _ h => absurd ca h⟩)
      · rw [if_neg (fun z => ca ((nI_eq (by omega) (by omega)).mp z))]
        obtain ⟨u, e1, e2, e3⟩ := mM_put_e hpo hW hm (k := k + 1) (by omega) he (v := (1 : Int64) <<< (Int32.toInt64 (nI d) &&& 63)) (fun d' _ z => by
          rw [pl_1l hd64] at z
          rw [of_decide_eq_true z, hmin]; exact hH c64 (by omega) ca)
        rw [e1, me_cal]
        refine fin u e2 (mf_wk e3 (fun z => ⟨fun h => absurd h c64, fun _ _ _ => ?_⟩))
        rw [hmin] at z
        exact pl_or z (by rw [pl_1l hd64]; exact decide_eq_true rfl)
def mf_at (P : lf_P) (m k e d : Nat) (gs : mb_S) : Prop := ∀ p, lf_nx P m k p → pu_c (mb_L gs 0 ((13 * m + p) * 65 + e)) d = true
def mf_lo (P : lf_P) (L : Nat → Nat → Nat → Prop) (m k e d o : Nat) (gs : mb_S) : Prop := (lf_kd P m k = 6 → d % 16 = lf_b P m k → L m (lf_a P m k) o → mf_at P m k e (d - d % 16 + (4 + 2 * o + lf_c P m k)) gs) ∧ (lf_kd P m k = 5 → d % 16 = 4 + 2 * o + lf_c P m k → L m (lf_b P m k) o → mf_at P m k e (d - d % 16 + lf_a P m k) gs)
theorem mM_ff_134 (hpo : lf_ok P q) {m k e d : Nat} (hm : m < 6) (hk : k < lf_len P m) (he : e ≤ 64) (hd : d < 64) (hv : ∀ d' p, lf_tr P L m k d d' → lf_nx P m k p → H m p e d') {s0 : mb_S} {C0 : mb_S → Prop} :
    ∀ (f o n : Nat) (s : mb_S), o + f = 6 → f < n → mf_W P q L T H Z E N s → mf_op (fun gs _ => C0 gs ∧ ∀ o', o' < o → mf_lo P L m k e d o' gs) s0 s → pu_wp (mM_followFact_l134 n (nI m) (nI k) (nI e) (nI (12 * m + k)) (nI (lf_kd P m k)) (nI (lf_a P m k)) (nI (lf_b P m k)) (nI (d % 16)) (nI (d - d % 16)) (nI o) s) (fun z => mf_W P q L T H Z E N z.2 ∧ mf_op (fun gs _ => C0 gs ∧ ∀ o', o' < 6 → mf_lo P L m k e d o' gs) s0 z.2) := by
  have hl := hpo.1 m hm
  obtain ⟨o1, o2, o3, o4, o5, o6⟩ := hpo.2.1 _ hm _ hk
  intro f
  induction f with
  | zero =>
    intro o n s hod hn hW hop
    obtain ⟨n, rfl⟩ : ∃ z, n = z + 1 := ⟨n - 1, by omega⟩
    rw [mM_followFact_l134_s, pu_l6, if_pos ((nI_leI (by omega) (by omega)).mpr (by omega)), pu_some]
    rw [show o = 6 by omega] at hop
    exact ⟨hW, hop⟩
  | succ f ih =>
    intro o n s hod hn hW hop
    obtain ⟨n, rfl⟩ : ∃ z, n = z + 1 := ⟨n - 1, by omega⟩
    have ho : o < 6 := by omega
    have next : ∀ u, mf_W P q L T H Z E N u → mf_op (fun gs _ => (C0 gs ∧ ∀ o', o' < o → mf_lo P L m k e d o' gs) ∧ mf_lo P L m k e d o gs) s0 u → pu_wp (mM_followFact_b250 (mM_followFact_l134 n) (nI m) (nI k) (nI e) (nI (12 * m + k)) (nI (lf_kd P m k)) (nI (lf_a P m k)) (nI (lf_b P m k)) (nI (d % 16)) (nI (d - d % 16)) (nI o) u) (fun z => mf_W P q L T H Z E N z.2 ∧ mf_op (fun gs _ => C0 gs ∧ ∀ o', o' < 6 → mf_lo P L m k e d o' gs) s0 z.2) := by
      intro u hu hou
      unfold mM_followFact_b250
      rw [me_bnd, nI_1]
      refine ih (o + 1) n u (by omega) (by omega) hu (mf_wk hou (fun z => ⟨z.1.1, fun o' ho' => ?_⟩))
      by_cases e : o' = o
      · rw [e]; exact z.2
      · exact z.1.2 o' (by omega)
    have skip : (¬ (lf_kd P m k = 6 ∧ d % 16 = lf_b P m k ∧ L m (lf_a P m k) o)) → (¬ (lf_kd P m k = 5 ∧ d % 16 = 4 + 2 * o + lf_c P m k ∧ L m (lf_b P m k) o)) → pu_wp (mM_followFact_b250 (mM_followFact_l134 n) (nI m) (nI k) (nI e) (nI (12 * m + k)) (nI (lf_kd P m k)) (nI (lf_a P m k)) (nI (lf_b P m k)) (nI (d % 16)) (nI (d - d % 16)) (nI o) s) (fun z => mf_W P q L T H Z E N z.2 ∧ mf_op (fun gs _ => C0 gs ∧ ∀ o', o' < 6 → mf_lo P L m k e d o' gs) s0 z.2) := fun n6 n5 => next s hW (mf_wk hop (fun z => ⟨z, fun h1 h2 h3 => absurd ⟨h1, h2, h3⟩ n6, fun h1 h2 h3 => absurd ⟨h1, h2, h3⟩ n5⟩))
    rw [mM_followFact_l134_s, pu_l6, if_neg (fun z => absurd ((nI_leI (a := 6) (b := o) (by omega) (by omega)).mp z) (by omega)), me_ld (by omega) (by decide), (hW.1.2.1 _ hm _ hk).2.2.2, me_bnd]
    unfold mM_followFact_b205
    by_cases c6 : lf_kd P m k = 6
    · have ha : lf_a P m k < 4 := o3 (by omega)
      have hb := o4 (by omega)
      have hc := o5 (by omega)
      have ec : nI (lf_c P m k) &&& 1 = nI (lf_c P m k) := (by decide +kernel : ∀ x, x < 2 → nI x &&& 1 = nI x) _ hc
      have n5 : ¬ nI (lf_kd P m k) = nI 5 := fun z => absurd ((nI_eq (by omega) (by omega)).mp z) (by omega)
      rw [if_pos ((nI_eq (by omega) (by omega)).mpr c6), pu_l5, if_neg n5, ec, me_2o, pu_l4, nI_add, nI_add]
      by_cases cx : d % 16 = lf_b P m k
      · rw [if_pos ((nI_eq (by omega) (by omega)).mpr cx), ← pu_l4, me_4, me_ld (by omega) (by decide), pu_b_shr (show o < 32 by omega)]
        by_cases hbit : pu_b (mb_I s 7 (4 * m + lf_a P m k)) o = true
        · have hL := (hW.2.1.1 m _ o hm ha).mp hbit
          rw [if_pos hbit, if_pos rfl, nI_add]
          obtain ⟨u, e1, e2, e3⟩ := mM_onw_d hpo hW hm hk he (d := d - d % 16 + (4 + 2 * o + lf_c P m k)) (by omega) (fun p hp => hv _ p (Or.inr (Or.inr (Or.inl ⟨c6, cx, o, ho, hL, rfl⟩))) hp)
          rw [e1, me_cal, if_neg n5]
          exact next u e2 (mf_wk (mf_seq hop e3) (fun z => ⟨z.1, fun _ _ _ => z.2, fun h => by omega⟩))
        · rw [if_neg hbit, if_neg (by decide)]
          exact skip (fun z => hbit ((hW.2.1.1 m _ o hm ha).mpr z.2.2)) (fun z => by omega)
      · rw [if_neg (fun z => cx ((nI_eq (by omega) (by omega)).mp z))]
        exact skip (fun z => cx z.2.1) (fun z => by omega)
    · rw [if_neg (fun z => c6 ((nI_eq (by omega) (by omega)).mp z)), pu_l5]
      by_cases c5 : lf_kd P m k = 5
      · have ha : lf_a P m k < 4 := o3 (by omega)
        have hb := o4 (by omega)
        have hc := o5 (by omega)
        have ec : nI (lf_c P m k) &&& 1 = nI (lf_c P m k) := (by decide +kernel : ∀ x, x < 2 → nI x &&& 1 = nI x) _ hc
        rw [if_pos ((nI_eq (by omega) (by omega)).mpr c5), ec, me_2o, pu_l4, nI_add, nI_add]
        by_cases cx : d % 16 = 4 + 2 * o + lf_c P m k
        · rw [if_pos ((nI_eq (by omega) (by omega)).mpr cx), ← pu_l4, me_4, me_ld (by omega) (by decide), pu_b_shr (show o < 32 by omega)]
          by_cases hbit : pu_b (mb_I s 7 (4 * m + lf_b P m k)) o = true
          · have hL := (hW.2.1.1 m _ o hm hb).mp hbit
            rw [if_pos hbit, if_pos rfl, nI_add]
            obtain ⟨u, e1, e2, e3⟩ := mM_onw_d hpo hW hm hk he (d := d - d % 16 + lf_a P m k) (by omega) (fun p hp => hv _ p (Or.inr (Or.inr (Or.inr ⟨c5, o, ho, cx, hL, rfl⟩))) hp)
            rw [e1, me_cal]
            exact next u e2 (mf_wk (mf_seq hop e3) (fun z => ⟨z.1, fun h => by omega, fun _ _ _ => z.2⟩))
          · rw [if_neg hbit, if_neg (by decide)]
            exact skip (fun z => by omega) (fun z => hbit ((hW.2.1.1 m _ o hm hb).mpr z.2.2))
        · rw [if_neg (fun z => cx ((nI_eq (by omega) (by omega)).mp z))]
          exact skip (fun z => by omega) (fun z => cx z.2.1)
      · rw [if_neg (fun z => c5 ((nI_eq (by omega) (by omega)).mp z))]
        exact skip (fun z => c6 z.1) (fun z => c5 z.1)
end FM6
