theorem mM_within_m (x : Int32) {N : Nat} (hN : N < 2 ^ 31) : (lf_is x N ∧ mM_within x 0 (nI N - 1) = some 1) ∨ (¬ lf_is x N ∧ mM_within x 0 (nI N - 1) = some 0) := by
  by_cases c : N = 0
  · subst c
    refine Or.inr ⟨fun ⟨j, hj, _⟩ => absurd hj (Nat.not_lt_zero _), ?_⟩
    unfold mM_within mM_within_b14 mM_within_b15
    by_cases h : x < 0
    · rw [if_pos h]; rfl
    · rw [if_neg h, if_pos]
      · rfl
      · obtain ⟨j, hj, rfl⟩ := nI_of h
        rw [Int32.lt_iff_toInt_lt, show (nI 0 - 1 : Int32).toInt = -1 by decide, nI_toInt hj]; omega
  · have e : nI N - 1 = nI (N - 1) := pk_sub (show 1 ≤ N by omega)
    have h := mM_within_c x (N := N - 1) (by omega)
    rw [show N - 1 + 1 = N by omega] at h
    rw [e]; exact h
section MAY
variable {P : lf_P} {q : lf_Q}
theorem mM_may_l {s : mb_S} {m k w l : Nat} (hm : m < 6) (hk : k < 13) (hw : w < 16) (hl : l < 4) : ∀ (d j n : Nat) (y : Int32), j + d = 65 → d < n → (y = 0 ∨ y = 1) → ∃ r, mM_may_l74 n (nI m) (nI k) (nI w) (nI l) y (nI j) s = some (r, s) ∧ (r = 0 ∨ r = 1) ∧ (r = 1 ↔ y = 1 ∨ ∃ e, j ≤ e ∧ e ≤ 64 ∧ pu_c (mb_L s 0 ((13 * m + k) * 65 + e)) (16 * l + w) = true) := by
  intro d
  induction d with
  | zero =>
    intro j n y hjd hn hy
    obtain ⟨n, rfl⟩ : ∃ z, n = z + 1 := ⟨n - 1, by omega⟩
    rw [mM_may_l74_s, pu_l64, if_pos ((nI_ltI (by omega) (by omega)).mpr (by omega))]
    unfold mb_retZ
    rw [if_pos hy]
    refine ⟨y, rfl, hy, ⟨Or.inl, fun h => ?_⟩⟩
    rcases h with h | ⟨e, h1, h2, -⟩
    · exact h
    · omega
  | succ d ih =>
    intro j n y hjd hn hy
    obtain ⟨n, rfl⟩ : ∃ z, n = z + 1 := ⟨n - 1, by omega⟩
    rw [mM_may_l74_s, pu_l64, if_neg (fun z => absurd ((nI_ltI (a := 64) (b := j) (by omega) (by omega)).mp z) (by omega))]
    unfold mM_cellOf mM_may_b118 mM_may_b123
    rw [me_cell, me_cal, me_ldL (by omega) (by decide), me_16, me_bnd, me_bnd, nI_1]
    by_cases cy : y = 0
    · rw [if_pos cy]
      by_cases c : pu_c (mb_L s 0 ((13 * m + k) * 65 + j)) (16 * l + w) = true
      · rw [if_pos ((pl_bit (by omega)).mpr c)]
        obtain ⟨r, e1, e2, e3⟩ := ih (j + 1) n 1 (by omega) (by omega) (Or.inr rfl)
        refine ⟨r, e1, e2, e3.trans ⟨fun _ => Or.inr ⟨j, Nat.le_refl _, by omega, c⟩, fun _ => Or.inl rfl⟩⟩
      · rw [if_neg (fun z => c ((pl_bit (by omega)).mp z))]
        obtain ⟨r, e1, e2, e3⟩ := ih (j + 1) n 0 (by omega) (by omega) (Or.inl rfl)
        refine ⟨r, e1, e2, e3.trans ⟨fun h => ?_, fun h => ?_⟩⟩
        · rcases h with h | ⟨e, h1, h2, h3⟩
          · exact absurd h (by decide)
          · exact Or.inr ⟨e, by omega, h2, h3⟩
        · rcases h with h | ⟨e, h1, h2, h3⟩
          · rw [cy] at h; exact absurd h (by decide)
          · by_cases ej : e = j
            · rw [ej] at h3; exact absurd h3 c
            · exact Or.inr ⟨e, by omega, h2, h3⟩
    · have hy1 : y = 1 := hy.elim (fun z => absurd z cy) id
      rw [if_neg cy]
      obtain ⟨r, e1, e2, e3⟩ := ih (j + 1) n 1 (by omega) (by omega) (Or.inr rfl)
      exact ⟨r, e1, e2, e3.trans ⟨fun _ => Or.inl hy1, fun _ => Or.inl rfl⟩⟩
theorem mF_may_l {s : mb_S} {m k w l : Nat} (hm : m < 6) (hk : k < 13) (hw : w < 16) (hl : l < 4) : ∀ (d j n : Nat), j + d = 20 → d < n → ∃ r, mF_mayHold_l3 n (nI m) (nI (13 * m + k)) (nI w) (nI l) (nI j) s = some (r, s) ∧ (r = 0 ∨ r = 1) ∧ (r = 1 ↔ ∃ e, j ≤ e ∧ e < 20 ∧ pu_b (mb_I s 16 (20 * m + e)) l = true ∧ pu_b (mb_I s 14 ((13 * m + k) * 20 + e)) w = true) := by
  intro d
  induction d with
  | zero =>
    intro j n hjd hn
    obtain ⟨n, rfl⟩ : ∃ z, n = z + 1 := ⟨n - 1, by omega⟩
    rw [mF_mayHold_l3_s, pu_l20, if_pos ((nI_leI (by omega) (by omega)).mpr (by omega)), me_rZ0]
    refine ⟨0, rfl, Or.inl rfl, ⟨fun h => absurd h (by decide), fun ⟨e, h1, h2, _⟩ => by omega⟩⟩
  | succ d ih =>
    intro j n hjd hn
    obtain ⟨n, rfl⟩ : ∃ z, n = z + 1 := ⟨n - 1, by omega⟩
    obtain ⟨r, e1, e2, e3⟩ := ih (j + 1) n (by omega) (by omega)
    rw [mF_mayHold_l3_s, pu_l20, if_neg (fun z => absurd ((nI_leI (a := 20) (b := j) (by omega) (by omega)).mp z) (by omega)), ← pu_l20, me_20, me_ld (by omega) (by decide), mX_has_e _ (show l < 32 by omega), me_cal0, me_20r, me_ld (by omega) (by decide), mX_has_e _ (show w < 32 by omega), me_cal0]
    unfold mF_mayHold_b51
    rw [me_bnd, nI_1]
    have skip : ¬ (pu_b (mb_I s 16 (20 * m + j)) l = true ∧ pu_b (mb_I s 14 ((13 * m + k) * 20 + j)) w = true) → (r = 1 ↔ ∃ e, j ≤ e ∧ e < 20 ∧ pu_b (mb_I s 16 (20 * m + e)) l = true ∧ pu_b (mb_I s 14 ((13 * m + k) * 20 + e)) w = true) := by
      intro hno
      refine e3.trans ⟨fun ⟨e, h1, h2, h3⟩ => ⟨e, by omega, h2, h3⟩, fun ⟨e, h1, h2, h3⟩ => ?_⟩
      by_cases ej : e = j
      · rw [ej] at h3; exact absurd h3 hno
      · exact ⟨e, by omega, h2, h3⟩
    by_cases c : pu_b (mb_I s 16 (20 * m + j)) l = true
    · rw [if_pos c, if_neg me_10]
      by_cases c2 : pu_b (mb_I s 14 ((13 * m + k) * 20 + j)) w = true
      · rw [if_pos c2, if_neg me_10, me_rZ1]
        exact ⟨1, rfl, Or.inr rfl, ⟨fun _ => ⟨j, Nat.le_refl _, by omega, c, c2⟩, fun _ => rfl⟩⟩
      · rw [if_neg c2, if_pos rfl]
        exact ⟨r, e1, e2, skip (fun z => c2 z.2)⟩
    · rw [if_neg c, if_pos rfl]
      exact ⟨r, e1, e2, skip (fun z => c z.1)⟩
theorem lf_may_iff {zm zx : mb_S} (hc : lf_fct P zm zx) {m k w l : Nat} (hm : m < 6) (hk : k < 13) (hw : w < 16) (hl : l < 4) : (∃ e, 0 ≤ e ∧ e ≤ 64 ∧ pu_c (mb_L zm 0 ((13 * m + k) * 65 + e)) (16 * l + w) = true) ↔ ∃ e, 0 ≤ e ∧ e < 20 ∧ pu_b (mb_I zx 16 (20 * m + e)) l = true ∧ pu_b (mb_I zx 14 ((13 * m + k) * 20 + e)) w = true := by
  have e1 : (16 * l + w) / 16 = l := by omega
  have e2 : (16 * l + w) % 16 = w := by omega
  constructor
  · rintro ⟨e, -, he, hb⟩
    rcases (hc.1 m k e (16 * l + w) hm hk he (by omega)).mp hb with ⟨h1, h2⟩ | ⟨h1, h2, h3, h4⟩
    · rw [e1, e2] at h2
      exact ⟨16 + l, Nat.zero_le _, by omega, by rw [hc.2.2.2.2.2.2.1 m l hm hl l]; exact decide_eq_true rfl, h2⟩
    · rw [e1] at h2
      rw [e2] at h4
      rw [h2] at h3
      exact ⟨e % 16, Nat.zero_le _, by omega, h3, h4⟩
  · rintro ⟨e, -, he, h1, h2⟩
    by_cases c : e < 16
    · refine ⟨16 * l + e, Nat.zero_le _, by omega, (hc.1 m k (16 * l + e) (16 * l + w) hm hk (by omega) (by omega)).mpr (Or.inr ⟨by omega, by omega, ?_, ?_⟩)⟩
      · rw [show (16 * l + e) % 16 = e by omega, show (16 * l + e) / 16 = l by omega]; exact h1
      · rw [e2, show (16 * l + e) % 16 = e by omega]; exact h2
    · have h3 := hc.2.2.2.2.2.2.1 m (e - 16) hm (by omega) l
      rw [show 16 + (e - 16) = e by omega, h1] at h3
      have h4 := of_decide_eq_true h3.symm
      refine ⟨64, Nat.zero_le _, by omega, (hc.1 m k 64 (16 * l + w) hm hk (by omega) (by omega)).mpr (Or.inl ⟨rfl, ?_⟩)⟩
      rw [e1, e2, h4, show 16 + (e - 16) = e by omega]; exact h2
theorem mM_src {s : mb_S} (hM : lf_M P q s) (hpo : lf_ok P q) : mM_before 1 6 0 s = some (nI (lf_cnt P 1), s) := mM_before_c hM hpo (kk := 1) (by omega)
theorem mM_snk {s : mb_S} (hM : lf_M P q s) (hpo : lf_ok P q) : mM_before 2 6 0 s = some (nI (lf_cnt P 2), s) := mM_before_c hM hpo (kk := 2) (by omega)
def lq_may (P : lf_P) (f : Int32) (x1 x2 x3 x4 : Int32) : Prop := f = 1 ∧ lf_is x3 16 ∧ lf_is x4 (lf_cnt P 1) ∧ ∃ m, m < 6 ∧ x1 = nI m ∧ lf_is x2 (lf_len P m + 1)
theorem mM_may_no {s : mb_S} (hM : lf_M P q s) (hpo : lf_ok P q) {x1 x2 x3 x4 : Int32} (h : ¬ lq_may P (mb_F s 0) x1 x2 x3 x4) : mM_may x1 x2 x3 x4 s = some (0, s) := by
  have h4 := hpo.2.2.2.1
  unfold mM_may mM_may_b27 mM_may_b66
  by_cases c : mb_F s 0 = 1
  · rw [if_pos c]
    rcases mM_w5 x1 with ⟨⟨m, hm, rfl⟩, e⟩ | ⟨-, e⟩
    · rw [e, me_cal0, if_neg me_10]
      have hl := hpo.1 m hm
      rcases mM_w15 x3 with ⟨h3, e⟩ | ⟨-, e⟩
      · rw [e, me_cal0, if_neg me_10, mM_src hM hpo, me_cal, me_ld hm (by decide), hM.1 m hm]
        rcases mM_within_c x2 (N := lf_len P m) (by omega) with ⟨h2, e⟩ | ⟨-, e⟩
        · rw [e, me_cal0, if_neg me_10]
          rcases mM_within_m x4 (N := lf_cnt P 1) (by omega) with ⟨h5, e⟩ | ⟨-, e⟩
          · exact absurd ⟨c, h3, h5, m, hm, rfl, h2⟩ h
          · rw [e, me_cal0, if_pos rfl]; rfl
        · rw [e, me_cal0, if_pos rfl]; rfl
      · rw [e, me_cal0, if_pos rfl]; rfl
    · rw [e, me_cal0, if_pos rfl]; rfl
  · rw [if_neg c]; rfl
theorem mX_src {s : mb_S} (hX : lf_X P q s) (hpo : lf_ok P q) (x : Int32) : (lf_is x (lf_cnt P 1) ∧ mX_isSource x s = some (1, s)) ∨ (¬ lf_is x (lf_cnt P 1) ∧ mX_isSource x s = some (0, s)) := by
  have h4 := hpo.2.2.2.1
  unfold mX_isSource
  rw [show (1 : Int32) = nI 1 from rfl, me_ld (by omega) (by decide), hX.2.2.2.2.1 1 (by omega)]
  rcases mX_isBelow_c x (N := lf_cnt P 1) (by omega) with ⟨h, e⟩ | ⟨h, e⟩
  · exact Or.inl ⟨h, by rw [e]; rfl⟩
  · exact Or.inr ⟨h, by rw [e]; rfl⟩
theorem mX_snk {s : mb_S} (hX : lf_X P q s) (hpo : lf_ok P q) (x : Int32) : (lf_is x (lf_cnt P 2) ∧ mX_isSink x s = some (1, s)) ∨ (¬ lf_is x (lf_cnt P 2) ∧ mX_isSink x s = some (0, s)) := by
  have h4 := hpo.2.2.2.2.1
  unfold mX_isSink
  rw [show (2 : Int32) = nI 2 from rfl, me_ld (by omega) (by decide), hX.2.2.2.2.1 2 (by omega)]
  rcases mX_isBelow_c x (N := lf_cnt P 2) (by omega) with ⟨h, e⟩ | ⟨h, e⟩
  · exact Or.inl ⟨h, by rw [e]; rfl⟩
  · exact Or.inr ⟨h, by rw [e]; rfl⟩
theorem mX_may_no {s : mb_S} (hX : lf_X P q s) (hpo : lf_ok P q) {x1 x2 x3 x4 : Int32} (h : ¬ lq_may P (mb_F s 0) x1 x2 x3 x4) : mX_may x1 x2 x3 x4 s = some (0, s) := by
  unfold mX_may mX_may_b26 mX_may_b55
  by_cases c : mb_F s 0 = 1
  · rw [if_pos c]
    rcases mX_i6 x1 with ⟨⟨m, hm, rfl⟩, e⟩ | ⟨-, e⟩
    · rw [e, me_cal0, if_neg me_10]
      have hl := hpo.1 m hm
      rcases mX_src hX hpo x4 with ⟨h3, e⟩ | ⟨-, e⟩
      · rw [e, me_cal, if_neg me_10, me_ld hm (by decide), hX.1 m hm, nI_1]
        rcases mX_isBelow_c x2 (N := lf_len P m + 1) (by omega) with ⟨h2, e⟩ | ⟨-, e⟩
        · rw [e, me_cal0, if_neg me_10]
          rcases mX_i16 x3 with ⟨h5, e⟩ | ⟨-, e⟩
          · exact absurd ⟨c, h5, h3, m, hm, rfl, h2⟩ h
          · rw [e, me_cal0, if_pos rfl]; rfl
        · rw [e, me_cal0, if_pos rfl]; rfl
      · rw [e, me_cal, if_pos rfl]; rfl
    · rw [e, me_cal0, if_pos rfl]; rfl
  · rw [if_neg c]; rfl
theorem lf_may_yes (hpo : lf_ok P q) {zm zx : mb_S} (hM : lf_M P q zm) (hX : lf_X P q zx) (hF : mb_F zm 0 = mb_F zx 0) (h1 : mb_F zm 0 = 1) (hs : lf_set P zm zx) {m k w l : Nat} (hm : m < 6) (hk : k ≤ lf_len P m) (hw : w < 16) (hl : l < lf_cnt P 1) : ∃ r, (r = 0 ∨ r = 1) ∧ mM_may (nI m) (nI k) (nI w) (nI l) zm = some (r, zm) ∧ mF_mayHold (nI m) (nI (13 * m + k)) (nI w) (nI l) zx = some (r, zx) ∧ mX_may (nI m) (nI k) (nI w) (nI l) zx = some (r, zx) := by
  have h4 := hpo.2.2.2.1
  have hlm := hpo.1 m hm
  obtain ⟨r, e1, e2, e3⟩ := mM_may_l (s := zm) (w := w) (l := l) hm (show k < 13 by omega) hw (by omega) 65 0 mb_fuel 0 rfl (by unfold mb_fuel; omega) (Or.inl rfl)
  obtain ⟨r', g1, g2, g3⟩ := mF_may_l (s := zx) (w := w) (l := l) hm (show k < 13 by omega) hw (by omega) 20 0 mb_fuel rfl (by unfold mb_fuel; omega)
  have hiff := lf_may_iff hs.1 hm (show k < 13 by omega) hw (show l < 4 by omega)
  have e3' : r = 1 ↔ ∃ e, 0 ≤ e ∧ e ≤ 64 ∧ pu_c (mb_L zm 0 ((13 * m + k) * 65 + e)) (16 * l + w) = true := e3.trans ⟨fun h => h.elim (fun z => absurd z (by decide)) id, Or.inr⟩
  have hrr : r = 1 ↔ r' = 1 := e3'.trans (hiff.trans g3.symm)
  have err : r' = r := by
    rcases e2 with z | z <;> rcases g2 with y | y
    · rw [z, y]
    · exact absurd (hrr.mpr y) (by rw [z]; decide)
    · exact absurd (hrr.mp z) (by rw [y]; decide)
    · rw [z, y]
  subst err
  have eF : mF_mayHold (nI m) (nI (13 * m + k)) (nI w) (nI l) zx = some (r', zx) := g1
  refine ⟨r', e2, ?_, eF, ?_⟩
  · unfold mM_may
    rw [if_pos h1]
    rcases mM_w5 (nI m) with ⟨-, e⟩ | ⟨h, -⟩
    · rw [e, me_cal0, if_neg me_10]
      rcases mM_w15 (nI w) with ⟨-, e⟩ | ⟨h, -⟩
      · rw [e, me_cal0, if_neg me_10, mM_src hM hpo, me_cal, me_ld hm (by decide), hM.1 m hm]
        rcases mM_within_c (nI k) (N := lf_len P m) (by omega) with ⟨-, e⟩ | ⟨h, -⟩
        · rw [e, me_cal0, if_neg me_10]
          rcases mM_within_m (nI l) (N := lf_cnt P 1) (by omega) with ⟨-, e⟩ | ⟨h, -⟩
          · rw [e, me_cal0, if_neg me_10, ← nI_0]; exact e1
          · exact absurd ⟨l, hl, rfl⟩ h
        · exact absurd ⟨k, by omega, rfl⟩ h
      · exact absurd ⟨w, hw, rfl⟩ h
    · exact absurd ⟨m, hm, rfl⟩ h
  · unfold mX_may
    rw [← hF, if_pos h1]
    rcases mX_i6 (nI m) with ⟨-, e⟩ | ⟨h, -⟩
    · rw [e, me_cal0, if_neg me_10]
      rcases mX_src hX hpo (nI l) with ⟨-, e⟩ | ⟨h, -⟩
      · rw [e, me_cal, if_neg me_10, me_ld hm (by decide), hX.1 m hm, nI_1]
        rcases mX_isBelow_c (nI k) (N := lf_len P m + 1) (by omega) with ⟨-, e⟩ | ⟨h, -⟩
        · rw [e, me_cal0, if_neg me_10]
          rcases mX_i16 (nI w) with ⟨-, e⟩ | ⟨h, -⟩
          · rw [e, me_cal0, if_neg me_10, me_13, eF, me_cal]
            unfold mb_retZ
            rw [if_pos e2]
          · exact absurd ⟨w, hw, rfl⟩ h
        · exact absurd ⟨k, by omega, rfl⟩ h
      · exact absurd ⟨l, hl, rfl⟩ h
    · exact absurd ⟨m, hm, rfl⟩ h
theorem lf_may_e (hpo : lf_ok P q) {zm zx : mb_S} (hM : lf_M P q zm) (hX : lf_X P q zx) (hF : mb_F zm 0 = mb_F zx 0) (hs : mb_F zm 0 = 1 → lf_set P zm zx) (x1 x2 x3 x4 : Int32) : ∃ r, mM_may x1 x2 x3 x4 zm = some (r, zm) ∧ mX_may x1 x2 x3 x4 zx = some (r, zx) := by
  by_cases c : lq_may P (mb_F zm 0) x1 x2 x3 x4
  · obtain ⟨h1, ⟨w, hw, rfl⟩, ⟨l, hl, rfl⟩, m, hm, rfl, ⟨k, hk, rfl⟩⟩ := c
    obtain ⟨r, -, e1, -, e2⟩ := lf_may_yes hpo hM hX hF h1 (hs h1) hm (show k ≤ lf_len P m by omega) hw hl
    exact ⟨r, e1, e2⟩
  · exact ⟨0, mM_may_no hM hpo c, mX_may_no hX hpo (by rw [← hF]; exact c)⟩
end MAY
