theorem pu_sum_sur {f : Nat → Nat} (hf : ∀ i, f i ≤ 1) : ∀ {N n : Nat}, n < pu_sum f N → ∃ i, i < N ∧ f i = 1 ∧ pu_sum f i = n
  | 0, n, h => absurd h (Nat.not_lt_zero _)
  | N + 1, n, h => by
    have h2 : n < pu_sum f N + f N := h
    by_cases c : n < pu_sum f N
    · obtain ⟨i, h1, h3⟩ := pu_sum_sur hf c
      exact ⟨i, by omega, h3⟩
    · have := hf N
      exact ⟨N, by omega, by omega, by omega⟩
section QRY
variable {P : lf_P} {q : lf_Q}
def lq_f (P : lf_P) (i : Nat) : Nat := if i % 12 < lf_len P (i / 12) ∧ lf_kd P (i / 12) (i % 12) = 2 then 1 else 0
def lq_c (P : lf_P) (j : Nat) : Nat := pu_sum (lq_f P) j
theorem lq_row {m : Nat} : ∀ (k : Nat), k ≤ lf_len P m → k ≤ 12 → pu_sum (fun i => lq_f P (m * 12 + i)) k = lf_row P 2 m k
  | 0, _, _ => rfl
  | k + 1, h, h12 => by
    show pu_sum (fun i => lq_f P (m * 12 + i)) k + lq_f P (m * 12 + k) = _
    rw [lq_row k (by omega) (by omega), lf_row_s]
    unfold lq_f
    rw [show (m * 12 + k) / 12 = m by omega, show (m * 12 + k) % 12 = k by omega]
    by_cases c : lf_kd P m k = 2
    · rw [if_pos ⟨by omega, c⟩, if_pos c]
    · rw [if_neg (fun z => c z.2), if_neg c]
theorem lq_pre (hpo : lf_ok P q) {m : Nat} (hm : m ≤ 6) : lq_c P (m * 12) = pu_sum (fun i => lf_row P 2 i (lf_len P i)) m := by
  unfold lq_c
  rw [pu_sum_prod]
  refine pu_sum_congr (fun i hi => ?_)
  have hl := hpo.1 i (by omega)
  have e := pu_sum_trunc (fun j => lq_f P (i * 12 + j)) (lf_len P i) (12 - lf_len P i) (fun j h1 h2 => by
    show lq_f P (i * 12 + j) = 0
    unfold lq_f
    rw [show (i * 12 + j) / 12 = i by omega, show (i * 12 + j) % 12 = j by omega, if_neg (fun z => by omega)])
  rw [show lf_len P i + (12 - lf_len P i) = 12 by omega] at e
  rw [e, lq_row _ (Nat.le_refl _) hl]
theorem lq_bef (hpo : lf_ok P q) {m k : Nat} (hm : m < 6) (hk : k ≤ lf_len P m) : lq_c P (m * 12 + k) = lf_bef P 2 m k := by
  have hl := hpo.1 m hm
  have e : lq_c P (m * 12 + k) = lq_c P (m * 12) + pu_sum (fun i => lq_f P (m * 12 + i)) k := pu_sum_app _ _ _
  rw [e, lq_pre hpo (by omega), lq_row k hk (by omega)]
  rfl
theorem lq_cnt (hpo : lf_ok P q) : lq_c P 72 = lf_cnt P 2 := lq_pre hpo (m := 6) (by omega)
theorem lq_sur (hpo : lf_ok P q) {n : Nat} (h : n < lf_cnt P 2) : ∃ m k, m < 6 ∧ k < lf_len P m ∧ lf_kd P m k = 2 ∧ lf_bef P 2 m k = n := by
  rw [← lq_cnt hpo] at h
  obtain ⟨i, h1, h2, h3⟩ := pu_sum_sur (f := lq_f P) (fun i => by
    unfold lq_f
    by_cases c : i % 12 < lf_len P (i / 12) ∧ lf_kd P (i / 12) (i % 12) = 2
    · rw [if_pos c]; exact Nat.le_refl _
    · rw [if_neg c]; exact Nat.zero_le _) h
  unfold lq_f at h2
  by_cases c : i % 12 < lf_len P (i / 12) ∧ lf_kd P (i / 12) (i % 12) = 2
  · refine ⟨i / 12, i % 12, by omega, c.1, c.2, ?_⟩
    rw [← lq_bef hpo (by omega) (Nat.le_of_lt c.1), show i / 12 * 12 + i % 12 = i by omega]
    exact h3
  · rw [if_neg c] at h2; omega
def lq_sk (P : lf_P) (x : Int32) (m k : Nat) : Prop := m < 6 ∧ k < lf_len P m ∧ lf_kd P m k = 2 ∧ x = nI (lf_bef P 2 m k)
theorem lq_c_le (j : Nat) : lq_c P j ≤ j := by
  have h := pu_sum_bd (f := lq_f P) (c := 1) (n := j) (fun i _ => by
    unfold lq_f
    by_cases c : i % 12 < lf_len P (i / 12) ∧ lf_kd P (i / 12) (i % 12) = 2
    · rw [if_pos c]; exact Nat.le_refl _
    · rw [if_neg c]; exact Nat.zero_le _)
  rw [Nat.mul_one] at h
  exact h
theorem mM_find_l (hpo : lf_ok P q) {s : mb_S} (hM : lf_M P q s) {x1 x2 r : Int32} (hr : r = 0 ∨ r = 1) (hA : ∀ m k, lq_sk P x2 m k → mM_may (nI m) (nI k) (nI (lf_a P m k)) x1 s = some (r, s)) : ∀ (d j n : Nat) (y : Int32), j + d = 72 → d < n → ((∃ m k, lq_sk P x2 m k ∧ m * 12 + k < j) → y = r) → ((¬ ∃ m k, lq_sk P x2 m k ∧ m * 12 + k < j) → y = 0) → ∃ z, mM_finding_l8 n x1 x2 (nI (lq_c P j)) y (nI j) s = some (z, s) ∧ ((∃ m k, lq_sk P x2 m k) → z = r) ∧ ((¬ ∃ m k, lq_sk P x2 m k) → z = 0) := by
  intro d
  induction d with
  | zero =>
    intro j n y hjd hn h1 h0
    obtain ⟨n, rfl⟩ : ∃ z, n = z + 1 := ⟨n - 1, by omega⟩
    have hall : ∀ m k, lq_sk P x2 m k → m * 12 + k < j := fun m k h => by
      have := hpo.1 m h.1
      have := h.1
      have := h.2.1
      omega
    have g1 : (∃ m k, lq_sk P x2 m k) → y = r := fun ⟨m, k, h⟩ => h1 ⟨m, k, h, hall m k h⟩
    have g0 : (¬ ∃ m k, lq_sk P x2 m k) → y = 0 := fun h => h0 (fun ⟨m, k, h', _⟩ => h ⟨m, k, h'⟩)
    have hy : y = 0 ∨ y = 1 := by
      by_cases c : ∃ m k, lq_sk P x2 m k
      · rw [g1 c]; exact hr
      · exact Or.inl (g0 c)
    rw [mM_finding_l8_s, pu_l72, if_pos ((nI_leI (by omega) (by omega)).mpr (by omega))]
    unfold mb_retZ
    rw [if_pos hy]
    exact ⟨y, rfl, g1, g0⟩
  | succ d ih =>
    intro j n y hjd hn h1 h0
    obtain ⟨n, rfl⟩ : ∃ z, n = z + 1 := ⟨n - 1, by omega⟩
    have hm : j / 12 < 6 := by omega
    have hl := hpo.1 _ hm
    have hj12 : 12 * (j / 12) + j % 12 = j := by omega
    have hcj := lq_c_le (P := P) j
    have ec : lq_c P (j + 1) = lq_c P j + lq_f P j := rfl
    have at_j : ∀ m k, lq_sk P x2 m k → (m * 12 + k < j + 1) → m * 12 + k < j ∨ (m = j / 12 ∧ k = j % 12) := fun m k h hlt => by
      have := hpo.1 m h.1
      have := h.2.1
      omega
    have next : ∀ y', (lq_sk P x2 (j / 12) (j % 12) → y' = r) → (¬ lq_sk P x2 (j / 12) (j % 12) → y' = y) → ∃ z, mM_finding_l8 n x1 x2 (nI (lq_c P (j + 1))) y' (nI (j + 1)) s = some (z, s) ∧ ((∃ m k, lq_sk P x2 m k) → z = r) ∧ ((¬ ∃ m k, lq_sk P x2 m k) → z = 0) := by
      intro y' g1 g0
      refine ih (j + 1) n y' (by omega) (by omega) (fun ⟨m, k, h, hlt⟩ => ?_) (fun hno => ?_)
      · by_cases c : lq_sk P x2 (j / 12) (j % 12)
        · exact g1 c
        · rw [g0 c]
          rcases at_j m k h hlt with z | ⟨z1, z2⟩
          · exact h1 ⟨m, k, h, z⟩
          · rw [z1, z2] at h; exact absurd h c
      · rw [g0 (fun c => hno ⟨_, _, c, by omega⟩)]
        exact h0 (fun ⟨m, k, h, hlt⟩ => hno ⟨m, k, h, by omega⟩)
    have no2 : ¬ (j % 12 < lf_len P (j / 12) ∧ lf_kd P (j / 12) (j % 12) = 2) → ∃ z, mM_finding_b52 (mM_finding_l8 n) x1 x2 (nI (lq_c P j)) y (nI j) (nI (j / 12)) s = some (z, s) ∧ ((∃ m k, lq_sk P x2 m k) → z = r) ∧ ((¬ ∃ m k, lq_sk P x2 m k) → z = 0) := by
      intro hno
      unfold mM_finding_b52 mM_finding_b53 mM_finding_b86 mM_finding_b97
      rw [if_pos rfl, if_pos rfl, me_bnd, me_bnd, nI_1, ← nI_0, nI_add]
      have e : lq_c P (j + 1) = lq_c P j + 0 := by
        rw [ec]; unfold lq_f; rw [if_neg hno]
      rw [← e]
      exact next y (fun h => absurd ⟨h.2.1, h.2.2.1⟩ hno) (fun _ => rfl)
    rw [mM_finding_l8_s, pu_l72, if_neg (fun z => absurd ((nI_leI (a := 72) (b := j) (by omega) (by omega)).mp z) (by omega)), me_d12 (by omega), me_bnd, me_ld hm (by decide), hM.1 _ hm]
    have em : nI j - nI (j / 12) * (12 : Int32) = nI (j % 12) := by rw [← me_d12 (by omega), me_m12 (by omega)]
    rw [em]
    by_cases c1 : lf_len P (j / 12) ≤ j % 12
    · rw [if_pos ((nI_leI (by omega) (by omega)).mpr c1)]
      exact no2 (fun z => by omega)
    · have hkl : j % 12 < lf_len P (j / 12) := by omega
      obtain ⟨b0, b1, -, -⟩ := hM.2.1 _ hm _ hkl
      rw [hj12] at b0 b1
      have ho := hpo.2.1 _ hm _ hkl
      rw [if_neg (fun z => c1 ((nI_leI (by omega) (by omega)).mp z)), me_ld (by omega) (by decide), b0, pu_l2]
      have hk10 := ho.1
      by_cases c2 : lf_kd P (j / 12) (j % 12) = 2
      · rw [if_pos ((nI_eq (by omega) (by omega)).mpr c2)]
        have e : lq_c P (j + 1) = lq_c P j + 1 := by
          rw [ec]; unfold lq_f; rw [if_pos ⟨hkl, c2⟩]
        have ebef : lq_c P j = lf_bef P 2 (j / 12) (j % 12) := by
          rw [← lq_bef hpo hm (Nat.le_of_lt hkl), show j / 12 * 12 + j % 12 = j by omega]
        unfold mM_finding_b53 mM_finding_b86 mM_finding_b97
        rw [if_neg me_10]
        by_cases cx : nI (lq_c P j) = x2
        · have hsk : lq_sk P x2 (j / 12) (j % 12) := ⟨hm, hkl, c2, by rw [← ebef]; exact cx.symm⟩
          rw [if_pos cx, me_ld (by omega) (by decide), b1, me_d12 (by omega), em, hA _ _ hsk, me_cal, if_neg me_10, me_bnd, me_bnd, nI_1, nI_1, ← e]
          exact next r (fun _ => rfl) (fun h => absurd hsk h)
        · rw [if_neg cx, if_neg me_10, me_bnd, me_bnd, nI_1, nI_1, ← e]
          exact next y (fun h => absurd (by rw [ebef]; exact h.2.2.2.symm) cx) (fun _ => rfl)
      · rw [if_neg (fun z => c2 ((nI_eq (by omega) (by omega)).mp z))]
        exact no2 (fun z => c2 z.2)
theorem me_d13 {a : Nat} (h : a < 2 ^ 31) : nI a / (13 : Int32) = nI (a / 13) := pk_div (d := 13) h (by decide) (by decide)
theorem lf_find_e (hpo : lf_ok P q) {zm zx : mb_S} (hM : lf_M P q zm) (hX : lf_X P q zx) (hF : mb_F zm 0 = mb_F zx 0) (hs : mb_F zm 0 = 1 → lf_set P zm zx) (x1 x2 : Int32) : ∃ r, mM_finding x1 x2 zm = some (r, zm) ∧ mX_finding x1 x2 zx = some (r, zx) := by
  have h4 := hpo.2.2.2.2.1
  have nosk : (¬ ∃ m k, lq_sk P x2 m k) → mM_finding x1 x2 zm = some (0, zm) := fun hno => by
    obtain ⟨z, e1, -, e3⟩ := mM_find_l hpo hM (x1 := x1) (x2 := x2) (r := 0) (Or.inl rfl) (fun m k h => absurd ⟨m, k, h⟩ hno) 72 0 mb_fuel 0 rfl (by unfold mb_fuel; omega) (fun ⟨m, k, h, _⟩ => absurd ⟨m, k, h⟩ hno) (fun _ => rfl)
    rw [e3 hno] at e1
    exact e1
  have no : (∀ m k, lq_sk P x2 m k → mM_may (nI m) (nI k) (nI (lf_a P m k)) x1 zm = some (0, zm)) → mM_finding x1 x2 zm = some (0, zm) := fun hA => by
    obtain ⟨z, e1, e2, e3⟩ := mM_find_l hpo hM (x1 := x1) (x2 := x2) (r := 0) (Or.inl rfl) hA 72 0 mb_fuel 0 rfl (by unfold mb_fuel; omega) (fun _ => rfl) (fun _ => rfl)
    have ez : z = 0 := by
      by_cases c : ∃ m k, lq_sk P x2 m k
      · exact e2 c
      · exact e3 c
    rw [ez] at e1
    exact e1
  by_cases c : mb_F zm 0 = 1
  · rcases mX_src hX hpo x1 with ⟨h1, e1⟩ | ⟨h1, e1⟩
    · rcases mX_snk hX hpo x2 with ⟨h2, e2⟩ | ⟨h2, e2⟩
      · obtain ⟨l, hl, rfl⟩ := h1
        obtain ⟨n, hn, rfl⟩ := h2
        obtain ⟨m, k, hm, hk, hkd, hbf⟩ := lq_sur hpo hn
        have hlm := hpo.1 m hm
        have ha : lf_a P m k < 4 := (hpo.2.1 _ hm _ hk).2.2.1 (by omega)
        obtain ⟨r, g0, g1, g2, -⟩ := lf_may_yes hpo hM hX hF c (hs c) hm (Nat.le_of_lt hk) (show lf_a P m k < 16 by omega) hl
        have hsk : lq_sk P (nI n) m k := ⟨hm, hk, hkd, by rw [hbf]⟩
        obtain ⟨z, f1, f2, f3⟩ := mM_find_l hpo hM (x1 := nI l) (x2 := nI n) (r := r) g0 (fun m' k' h => by
          have hb1 := lf_bef_lt P hm hk
          have hb2 := lf_bef_lt P h.1 h.2.1
          rw [hkd] at hb1
          rw [h.2.2.1] at hb2
          have he : n = lf_bef P 2 m' k' := (nI_eq (by omega) (by omega)).mp h.2.2.2
          obtain ⟨i1, i2⟩ := lf_bef_inj P hm hk hkd h.1 h.2.1 h.2.2.1 (by omega)
          rw [← i1, ← i2]; exact g1) 72 0 mb_fuel 0 rfl (by unfold mb_fuel; omega) (fun ⟨m', k', _, hlt⟩ => absurd hlt (Nat.not_lt_zero _)) (fun _ => rfl)
        rw [f2 ⟨m, k, hsk⟩] at f1
        refine ⟨r, f1, ?_⟩
        unfold mX_finding
        have hsp := hX.2.2.2.2.2.2.1 m hm k hk hkd
        rw [hbf] at hsp
        rw [← hF, if_pos c, e1, me_cal, if_neg me_10, e2, me_cal, if_neg me_10, me_ld (by omega) (by decide), hsp, me_ld (by omega) (by decide), (hX.2.1 _ hm _ hk).2.1, me_d13 (by omega), show (13 * m + k) / 13 = m by omega, g2, me_cal]
        unfold mb_retZ
        rw [if_pos g0]
      · refine ⟨0, nosk (fun ⟨m, k, h⟩ => h2 ?_), ?_⟩
        · have hb := lf_bef_lt P h.1 h.2.1
          rw [h.2.2.1] at hb
          exact ⟨_, hb, h.2.2.2⟩
        · unfold mX_finding mX_finding_b24
          rw [← hF, if_pos c, e1, me_cal, if_neg me_10, e2, me_cal, if_pos rfl]; rfl
    · refine ⟨0, no (fun m k _ => mM_may_no hM hpo (fun z => h1 z.2.2.1)), ?_⟩
      unfold mX_finding mX_finding_b24
      rw [← hF, if_pos c, e1, me_cal, if_pos rfl]; rfl
  · refine ⟨0, no (fun m k _ => mM_may_no hM hpo (fun z => c z.1)), ?_⟩
    unfold mX_finding mX_finding_b24
    rw [← hF, if_neg c]; rfl
theorem mF_ce_l {zm s : mb_S} (hc : lf_fct P zm s) {m : Nat} (hm : m < 6) (a : Nat) : ∀ (d w n : Nat), w + d = 16 → d < n → mF_countEntries_l11 n (nI m) (nI (a + pu_sum (fun w => pu_pc (mb_I s 16 (20 * m + w)).toBitVec) w)) (nI w) s = some (nI (a + pu_sum (fun w => pu_pc (mb_I s 16 (20 * m + w)).toBitVec) 16), s) := by
  intro d
  induction d with
  | zero =>
    intro w n hwd hn
    obtain ⟨n, rfl⟩ : ∃ z, n = z + 1 := ⟨n - 1, by omega⟩
    rw [mF_countEntries_l11_s, pu_l16, if_pos ((nI_leI (by omega) (by omega)).mpr (by omega)), show w = 16 by omega]
  | succ d ih =>
    intro w n hwd hn
    obtain ⟨n, rfl⟩ : ∃ z, n = z + 1 := ⟨n - 1, by omega⟩
    rw [mF_countEntries_l11_s, pu_l16, if_neg (fun z => absurd ((nI_leI (a := 16) (b := w) (by omega) (by omega)).mp z) (by omega)), me_20, me_ld (by omega) (by decide), mJ_bitCount_e (fun i hi => hc.2.2.2.2.2.2.2.2.1 m w hm (by omega) i (by omega)), me_cal0, nI_add, me_bnd, me_bnd, nI_1, Nat.add_assoc]
    exact ih (w + 1) n (by omega) (by omega)
theorem lf_ent_pc {zm zx : mb_S} (hc : lf_fct P zm zx) {m : Nat} (hm : m < 6) : pu_pc (mb_L zm 1 m).toBitVec = pu_sum (fun w => pu_pc (mb_I zx 16 (20 * m + w)).toBitVec) 16 := by
  rw [lf_pc64, pu_sum_swap]
  refine pu_sum_congr (fun w hw => ?_)
  rw [lf_pc4 (hc.2.2.2.2.2.2.2.2.1 m w hm hw)]
  refine pu_sum_congr (fun s hs => lf_tn ?_)
  rw [hc.2.2.1 m (s * 16 + w) hm (by omega), show (s * 16 + w) % 16 = w by omega, show (s * 16 + w) / 16 = s by omega]
theorem lf_entries_e {zm zx : mb_S} (hF : mb_F zm 0 = mb_F zx 0) (hs : mb_F zm 0 = 1 → lf_set P zm zx) (x1 : Int32) : ∃ r, mM_entries x1 zm = some (r, zm) ∧ mX_entries x1 zx = some (r, zx) := by
  unfold mM_entries mX_entries mM_entries_b17 mX_entries_b17
  rw [← hF]
  by_cases c : mb_F zm 0 = 1
  · have hc := (hs c).1
    rw [if_pos c, if_pos c]
    rcases mM_w5 x1 with ⟨⟨m, hm, rfl⟩, e⟩ | ⟨h, e⟩
    · rcases mX_i6 (nI m) with ⟨-, e'⟩ | ⟨h', -⟩
      · rw [e, e', me_cal0, me_cal0, if_neg me_10, if_neg me_10, me_ldL hm (by decide), mM_bits_e, me_cal0, me_ld hm (by decide)]
        have key : ∀ b : Nat, (mb_I zx 17 m &&& 1) = nI b → mF_countEntries (nI m) zx = some (nI (b + pu_sum (fun w => pu_pc (mb_I zx 16 (20 * m + w)).toBitVec) 16), zx) := by
          intro b hb
          unfold mF_countEntries
          rw [me_ld hm (by decide), me_bnd, hb, ← nI_0]
          exact mF_ce_l hc hm b 16 0 mb_fuel rfl (by unfold mb_fuel; omega)
        unfold mM_entries_b42
        rcases hc.2.2.2.2.2.1 m hm with z | z
        · have hb : ¬ pu_b (mb_I zx 17 m) 0 = true := fun y => by
            rw [(hc.2.2.2.1 m hm).mpr y] at z; exact absurd z (by decide)
          rw [if_pos z, key 0 (pu_and1.mpr hb), me_cal, ← nI_0, nI_add, lf_ent_pc hc hm, Nat.zero_add, Nat.add_zero]
          exact ⟨_, rfl, rfl⟩
        · have hb : pu_b (mb_I zx 17 m) 0 = true := (hc.2.2.2.1 m hm).mp z
          have h1 : (mb_I zx 17 m &&& 1) = nI 1 := by
            refine pu_b_ext (fun i _ => ?_)
            show pu_b (mb_I zx 17 m &&& 1) i = pu_b (1 : Int32) i
            rw [pu_b_and, pu_b_one]
            by_cases e : i = 0
            · rw [e, hb]; rfl
            · rw [decide_eq_false e, Bool.and_false]
          rw [if_neg (fun y => by rw [z] at y; exact absurd y (by decide)), key 1 h1, me_cal, nI_1, lf_ent_pc hc hm, Nat.add_comm 1]
          exact ⟨_, rfl, rfl⟩
      · exact absurd ⟨m, hm, rfl⟩ h'
    · rcases mX_i6 x1 with ⟨h', -⟩ | ⟨-, e'⟩
      · exact absurd h' h
      · rw [e, e', me_cal0, me_cal0, if_pos rfl, if_pos rfl]
        exact ⟨_, rfl, rfl⟩
  · rw [if_neg c, if_neg c]
    exact ⟨_, rfl, rfl⟩
theorem me_2l (i j : Nat) : (2 : Int32) * nI i + nI j = nI (2 * i + j) := by
  show nI 2 * nI i + nI j = _
  rw [pk_mul, nI_add]
theorem me_2rr (i j : Nat) : nI i * (2 : Int32) + nI j = nI (2 * i + j) := by
  show nI i * nI 2 + nI j = _
  rw [pk_mul, nI_add, Nat.mul_comm]
theorem lf_points_e {zm zx : mb_S} (hF : mb_F zm 0 = mb_F zx 0) (hs : mb_F zm 0 = 1 → lf_set P zm zx) (x1 x2 : Int32) : ∃ r, mM_points x1 x2 zm = some (r, zm) ∧ mX_points x1 x2 zx = some (r, zx) := by
  unfold mM_points mX_points mM_points_b39 mM_points_b40 mX_points_b25
  rw [← hF]
  by_cases c : mb_F zm 0 = 1
  · rw [if_pos c, if_pos c]
    rcases mM_w5 x1 with ⟨h, e⟩ | ⟨h, e⟩ <;> rcases mX_i6 x1 with ⟨h', e'⟩ | ⟨h', e'⟩
    · rw [e, e', me_cal0, me_cal0, if_neg me_10, if_neg me_10]
      rcases mM_w3 x2 with ⟨g, f⟩ | ⟨g, f⟩ <;> rcases mX_i4 x2 with ⟨g', f'⟩ | ⟨g', f'⟩
      · obtain ⟨m, hm, rfl⟩ := h
        obtain ⟨k, hk, rfl⟩ := g
        rw [f, f', me_cal0, me_cal0, if_neg me_10, if_neg me_10, me_4, me_4r, me_ld (by omega) (by decide), me_ld (by omega) (by decide), (hs c).2.1 m k hm hk]
        exact ⟨_, rfl, rfl⟩
      · exact absurd g g'
      · exact absurd g' g
      · rw [f, f', me_cal0, me_cal0, if_pos rfl, if_pos rfl]
        exact ⟨_, rfl, rfl⟩
    · exact absurd h h'
    · exact absurd h' h
    · rw [e, e', me_cal0, me_cal0, if_pos rfl, if_pos rfl]
      exact ⟨_, rfl, rfl⟩
  · rw [if_neg c, if_neg c]
    exact ⟨_, rfl, rfl⟩
theorem lf_cell_e {zm zx : mb_S} (hF : mb_F zm 0 = mb_F zx 0) (hs : mb_F zm 0 = 1 → lf_set P zm zx) (x1 x2 : Int32) : ∃ r, mM_cell x1 x2 zm = some (r, zm) ∧ mX_cell x1 x2 zx = some (r, zx) := by
  unfold mM_cell mX_cell mM_cell_b39 mM_cell_b40 mX_cell_b25
  rw [← hF]
  by_cases c : mb_F zm 0 = 1
  · rw [if_pos c, if_pos c]
    rcases mM_w5 x1 with ⟨h, e⟩ | ⟨h, e⟩ <;> rcases mX_i6 x1 with ⟨h', e'⟩ | ⟨h', e'⟩
    · rw [e, e', me_cal0, me_cal0, if_neg me_10, if_neg me_10]
      rcases mM_w1 x2 with ⟨g, f⟩ | ⟨g, f⟩ <;> rcases mX_i2 x2 with ⟨g', f'⟩ | ⟨g', f'⟩
      · obtain ⟨m, hm, rfl⟩ := h
        obtain ⟨k, hk, rfl⟩ := g
        rw [f, f', me_cal0, me_cal0, if_neg me_10, if_neg me_10, me_2l, me_2rr, me_ld (by omega) (by decide), me_ld (by omega) (by decide), (hs c).2.2 m k hm hk]
        exact ⟨_, rfl, rfl⟩
      · exact absurd g g'
      · exact absurd g' g
      · rw [f, f', me_cal0, me_cal0, if_pos rfl, if_pos rfl]
        exact ⟨_, rfl, rfl⟩
    · exact absurd h h'
    · exact absurd h' h
    · rw [e, e', me_cal0, me_cal0, if_pos rfl, if_pos rfl]
      exact ⟨_, rfl, rfl⟩
  · rw [if_neg c, if_neg c]
    exact ⟨_, rfl, rfl⟩
end QRY
