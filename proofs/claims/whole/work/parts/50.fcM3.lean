theorem me_16 (i j : Nat) : (16 : Int32) * nI i + nI j = nI (16 * i + j) := by
  show nI 16 * nI i + nI j = _
  rw [pk_mul, nI_add]
section FM3
variable {P : lf_P} {q : lf_Q} {L T : Nat → Nat → Nat → Prop} {H : Nat → Nat → Nat → Nat → Prop} {Z E : Nat → Nat → Prop} {N : Nat → Prop}
def mf_bk (P : lf_P) (m k e t g p : Nat) (gs : mb_S) : Prop := ∀ d, d < 64 → pu_c (mb_L gs 0 ((13 * t + p) * 65 + g)) d = true →
  ((p = lf_len P t ∨ lf_kd P t p = 10) → 4 ≤ d % 16 → pu_c (mb_L gs 0 ((13 * m + (k + 1)) * 65 + e)) d = true) ∧
  (p < lf_len P t → lf_kd P t p = 10 → d % 16 = lf_a P t p → pu_c (mb_L gs 0 ((13 * m + (k + 1)) * 65 + e)) (d - d % 16 + lf_a P m k) = true)
theorem mM_back_122 (hpo : lf_ok P q) {m k e t p : Nat} (hm : m < 6) (hk : k < lf_len P m) (c7 : lf_kd P m k = 7) (he : e ≤ 64) (ht : t < 6) (hp : p < lf_len P t) (c10 : lf_kd P t p = 10) (x5 : Int32) {x8 : Int64} (hv : ∀ i, i < 4 → pu_c x8 (16 * i + lf_a P t p) = true → H m (k + 1) e (16 * i + lf_a P m k)) (k16 : Int32 → Int32 → Int32 → Int32 → Int32 → Int32 → Int32 → mb_S → Option (Unit × mb_S)) (Q : Unit × mb_S → Prop) (C0 : mb_S → Prop) {s0 : mb_S}
    (hk16 : ∀ s, mf_W P q L T H Z E N s → mf_op (fun g _ => C0 g ∧ ∀ i, i < 4 → pu_c x8 (16 * i + lf_a P t p) = true → pu_c (mb_L g 0 ((13 * m + (k + 1)) * 65 + e)) (16 * i + lf_a P m k) = true) s0 s → pu_wp (k16 (nI m) (nI k) (nI e) (nI t) x5 (nI (lf_a P m k)) (nI (p + 1)) s) Q) :
    ∀ (d i n : Nat) (s : mb_S), i + d = 4 → d < n → mf_W P q L T H Z E N s → mf_op (fun g _ => C0 g ∧ ∀ i', i' < i → pu_c x8 (16 * i' + lf_a P t p) = true → pu_c (mb_L g 0 ((13 * m + (k + 1)) * 65 + e)) (16 * i' + lf_a P m k) = true) s0 s → pu_wp (mM_back_l122 k16 n (nI m) (nI k) (nI e) (nI t) x5 (nI (lf_a P m k)) (nI p) x8 1 (nI i) s) Q := by
  have hl := hpo.1 m hm
  have hlt := hpo.1 t ht
  have ha : lf_a P m k < 4 := (hpo.2.1 _ hm _ hk).2.2.1 (by omega)
  have har : lf_a P t p < 4 := (hpo.2.1 _ ht _ hp).2.2.1 (by omega)
  have hmin : min (k + 1) (lf_len P m) = k + 1 := Nat.min_eq_left hk
  intro d
  induction d with
  | zero =>
    intro i n s hid hn hW hop
    obtain ⟨n, rfl⟩ : ∃ z, n = z + 1 := ⟨n - 1, by omega⟩
    rw [mM_back_l122_s, pu_l4, if_pos ((nI_leI (by omega) (by omega)).mpr (by omega))]
    unfold mM_back_b191
    rw [me_bnd, nI_1]
    rw [show i = 4 by omega] at hop
    exact hk16 s hW hop
  | succ d ih =>
    intro i n s hid hn hW hop
    obtain ⟨n, rfl⟩ : ∃ z, n = z + 1 := ⟨n - 1, by omega⟩
    rw [mM_back_l122_s, pu_l4, if_neg (fun z => absurd ((nI_leI (a := 4) (b := i) (by omega) (by omega)).mp z) (by omega)), if_neg me_10, me_12, me_ld (by omega) (by decide), (hW.1.2.1 _ ht _ hp).2.1, me_16, me_16]
    unfold mM_back_b185
    by_cases c : pu_c x8 (16 * i + lf_a P t p) = true
    · rw [if_pos ((pl_bit (by omega)).mpr c), nI_1]
      obtain ⟨u, e1, e2, e3⟩ := mM_put_e hpo hW hm (k := k + 1) (by omega) he (v := (1 : Int64) <<< (Int32.toInt64 (nI (16 * i + lf_a P m k)) &&& 63)) (fun d' _ z => by
        rw [pl_1l (by omega)] at z
        rw [of_decide_eq_true z, hmin]; exact hv i (by omega) c)
      rw [e1, me_cal, me_bnd, nI_1]
      refine ih (i + 1) n u (by omega) (by omega) e2 (mf_wk (mf_seq hop e3) (fun z => ⟨z.1.1, fun i' hi' hb => ?_⟩))
      by_cases e : i' = i
      · rw [e]
        have z2 := z.2
        rw [hmin] at z2
        exact pl_or z2 (by rw [pl_1l (by omega)]; exact decide_eq_true rfl)
      · exact z.1.2 i' (by omega) hb
    · rw [if_neg (fun z => c ((pl_bit (by omega)).mp z)), me_bnd, nI_1]
      refine ih (i + 1) n s (by omega) (by omega) hW (mf_wk hop (fun z => ⟨z.1, fun i' hi' hb => ?_⟩))
      by_cases e : i' = i
      · rw [e] at hb; exact absurd hb c
      · exact z.2 i' (by omega) hb
theorem mM_back_l (hpo : lf_ok P q) {m k e t g : Nat} (hm : m < 6) (hk : k < lf_len P m) (c7 : lf_kd P m k = 7) (he : e ≤ 64) (ht : t < 6) (hg : g ≤ 64) (hgv : ∀ p d, p ≤ lf_len P t → d < 64 → H t p g d → ((p = lf_len P t ∨ lf_kd P t p = 10) → 4 ≤ d % 16 → H m (k + 1) e d) ∧ (p < lf_len P t → lf_kd P t p = 10 → d % 16 = lf_a P t p → H m (k + 1) e (d - d % 16 + lf_a P m k))) {s0 : mb_S} :
    ∀ (d p n : Nat) (s : mb_S), p + d = lf_len P t + 1 → d < n → mf_W P q L T H Z E N s → mf_op (fun gs _ => ∀ p', p' < p → mf_bk P m k e t g p' gs) s0 s → pu_wp (mM_back_l16 n (nI m) (nI k) (nI e) (nI t) (nI g) (nI (lf_a P m k)) (nI p) s) (fun z => mf_W P q L T H Z E N z.2 ∧ mf_op (fun gs _ => ∀ p', p' ≤ lf_len P t → mf_bk P m k e t g p' gs) s0 z.2) := by
  have hl := hpo.1 m hm
  have hlt := hpo.1 t ht
  have ha : lf_a P m k < 4 := (hpo.2.1 _ hm _ hk).2.2.1 (by omega)
  have hmin : min (k + 1) (lf_len P m) = k + 1 := Nat.min_eq_left hk
  intro d
  induction d with
  | zero =>
    intro p n s hpd hn hW hop
    obtain ⟨n, rfl⟩ : ∃ z, n = z + 1 := ⟨n - 1, by omega⟩
    rw [mM_back_l16_s, me_ld ht (by decide), hW.1.1 _ ht, if_pos ((nI_ltI (by omega) (by omega)).mpr (by omega)), pu_some]
    exact ⟨hW, mf_wk hop (fun z p' hp' => z p' (by omega))⟩
  | succ d ih =>
    intro p n s hpd hn hW hop
    obtain ⟨n, rfl⟩ : ∃ z, n = z + 1 := ⟨n - 1, by omega⟩
    have hc : (13 * t + p) * 65 + g < 5070 := by omega
    have there : ∀ d', d' < 64 → pu_c (mb_L s 0 ((13 * t + p) * 65 + g)) d' = true → H t p g d' := fun d' hd' z => hW.2.2.2.2.2.1 t p g d' ht (by omega) hg hd' z
    have next : ∀ u, mf_W P q L T H Z E N u → mf_op (fun gs _ => (∀ p', p' < p → mf_bk P m k e t g p' gs) ∧ mf_bk P m k e t g p gs) s0 u → pu_wp (mM_back_l16 n (nI m) (nI k) (nI e) (nI t) (nI g) (nI (lf_a P m k)) (nI (p + 1)) u) (fun z => mf_W P q L T H Z E N z.2 ∧ mf_op (fun gs _ => ∀ p', p' ≤ lf_len P t → mf_bk P m k e t g p' gs) s0 z.2) := by
      intro u hu hou
      refine ih (p + 1) n u (by omega) (by omega) hu (mf_wk hou (fun z p' hp' => ?_))
      by_cases e : p' = p
      · rw [e]; exact z.2
      · exact z.1 p' (by omega)
    have fields : (p = lf_len P t ∨ lf_kd P t p = 10) → ∃ u, mM_put (nI m) (nI (k + 1)) (nI e) (mb_L s 0 ((13 * t + p) * 65 + g) &&& (-4222189076152336 : Int64)) s = some ((), u) ∧ mf_W P q L T H Z E N u ∧ mf_op (fun gs _ => ∀ d', d' < 64 → pu_c (mb_L gs 0 ((13 * t + p) * 65 + g)) d' = true → 4 ≤ d' % 16 → pu_c (mb_L gs 0 ((13 * m + (k + 1)) * 65 + e)) d' = true) s u := by
      intro hend
      obtain ⟨u, e1, e2, e3⟩ := mM_put_e hpo hW hm (k := k + 1) (by omega) he (v := mb_L s 0 ((13 * t + p) * 65 + g) &&& (-4222189076152336 : Int64)) (fun d' hd' z => by
        rw [pu_c_and, pl_fld hd', Bool.and_eq_true_iff] at z
        rw [hmin]
        exact (hgv p d' (by omega) hd' (there d' hd' z.1)).1 hend (of_decide_eq_true z.2))
      refine ⟨u, e1, e2, mf_wk e3 (fun z d' hd' hb h4 => ?_)⟩
      rw [hmin] at z
      rw [mf_l0] at z hb ⊢
      exact pl_or z (by rw [pu_c_and, hb, pl_fld hd', decide_eq_true h4]; rfl)
    rw [mM_back_l16_s, me_ld ht (by decide), hW.1.1 _ ht, if_neg (fun z => absurd ((nI_ltI (by omega) (by omega)).mp z) (by omega))]
    unfold mM_cellOf
    rw [me_cell, me_cal, me_ldL hc (by decide), me_ld ht (by decide), hW.1.1 _ ht]
    by_cases cend : p = lf_len P t
    · rw [if_pos ((nI_eq (by omega) (by omega)).mpr cend)]
      unfold mM_back_b62 mM_back_b91 mM_back_b92 mM_back_b104 mM_back_b119
      rw [if_neg me_10, if_neg me_10, nI_1]
      obtain ⟨u, e1, e2, e3⟩ := fields (Or.inl cend)
      rw [e1, me_cal, show mb_fuel = 4294967295 + 1 from rfl, mM_back_l122_s, if_neg (by decide), if_pos rfl]
      unfold mM_back_b191
      rw [me_bnd, nI_1]
      refine next u e2 (mf_wk (mf_seq hop e3) (fun z => ⟨z.1, fun d' hd' hb => ⟨fun _ h4 => z.2 d' hd' hb h4, fun h => by omega⟩⟩))
    · have hp : p < lf_len P t := by omega
      have hk10 := (hpo.2.1 _ ht _ hp).1
      rw [if_neg (fun z => cend ((nI_eq (by omega) (by omega)).mp z))]
      unfold mM_back_b62
      rw [if_pos rfl, me_12, me_ld (by omega) (by decide), (hW.1.2.1 _ ht _ hp).1, pu_l10]
      by_cases c10 : lf_kd P t p = 10
      · have har : lf_a P t p < 4 := (hpo.2.1 _ ht _ hp).2.2.1 (by omega)
        rw [if_pos ((nI_eq (by omega) (by omega)).mpr c10)]
        unfold mM_back_b92 mM_back_b104 mM_back_b119
        rw [if_pos rfl, if_neg me_10, nI_1]
        obtain ⟨u, e1, e2, e3⟩ := fields (Or.inr c10)
        rw [e1, me_cal, ← nI_0]
        refine mM_back_122 hpo hm hk c7 he ht hp c10 (nI g) (x8 := mb_L s 0 ((13 * t + p) * 65 + g)) (fun i hi hb => ?_) (mM_back_l16 n) _ (fun gs => ∀ d', d' < 64 → pu_c (mb_L gs 0 ((13 * t + p) * 65 + g)) d' = true → 4 ≤ d' % 16 → pu_c (mb_L gs 0 ((13 * m + (k + 1)) * 65 + e)) d' = true) (s0 := s) (fun y hy hoy => ?_) 4 0 mb_fuel u rfl (by unfold mb_fuel; omega) e2 (mf_wk e3 (fun z => ⟨z, fun i' hi' => absurd hi' (Nat.not_lt_zero _)⟩))
        · have h := (hgv p (16 * i + lf_a P t p) (by omega) (by omega) (there _ (by omega) hb)).2 hp c10 (by omega)
          rw [show 16 * i + lf_a P t p - (16 * i + lf_a P t p) % 16 + lf_a P m k = 16 * i + lf_a P m k by omega] at h
          exact h
        · refine next y hy (mf_seq hop (mf_wk hoy (fun z d' hd' hb => ⟨fun _ h4 => z.1 d' hd' hb h4, fun _ _ hr => ?_⟩)))
          rw [mf_l0] at hb
          have h := z.2 (d' / 16) (by omega) (by rw [show 16 * (d' / 16) + lf_a P t p = d' by omega]; exact hb)
          rw [show 16 * (d' / 16) + lf_a P m k = d' - d' % 16 + lf_a P m k by omega] at h
          exact h
      · rw [if_neg (fun z => c10 ((nI_eq (by omega) (by omega)).mp z))]
        unfold mM_back_b91 mM_back_b92 mM_back_b119
        rw [if_pos rfl, if_pos rfl, show mb_fuel = 4294967295 + 1 from rfl, mM_back_l122_s, if_neg (by decide), if_pos rfl]
        unfold mM_back_b191
        rw [me_bnd, nI_1]
        refine next s hW (mf_seq hop (mf_rf (C := fun gs => mf_bk P m k e t g p gs) hW.2.2.1 (fun d' _ _ => ⟨fun h => ?_, fun _ h => absurd h c10⟩)))
        rcases h with h | h
        · omega
        · exact absurd h c10
end FM3
