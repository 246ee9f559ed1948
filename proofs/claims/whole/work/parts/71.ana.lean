section ANA
variable {P : lf_P} {q : lf_Q}
def la_A (s : mb_S) (j : Nat) : Nat := pu_sum (fun i => pu_pc (mb_L s 0 i).toBitVec) j
def la_B (s : mb_S) (j : Nat) : Nat := pu_sum (fun i => if mb_I s 11 i = 0 then 0 else 1) j
def la_end (x : Int32) (n : Nat) (s : mb_S) : Option (Int32 × mb_S) := if x < nI n then some (-1, mb_setF s 0 2) else some (nI n, mb_setF s 0 1)
theorem mM_an_58 (x : Int32) (s : mb_S) (a : Nat) : ∀ (d j n : Nat), j + d = 78 → d < n → mM_analyse_l58 n x (nI (a + la_B s j)) (nI j) s = la_end x (a + la_B s 78) s := by
  intro d
  induction d with
  | zero =>
    intro j n hjd hn
    obtain ⟨n, rfl⟩ : ∃ z, n = z + 1 := ⟨n - 1, by omega⟩
    rw [mM_analyse_l58_s, pu_l78, if_pos ((nI_leI (by omega) (by omega)).mpr (by omega)), show j = 78 by omega]
    unfold mM_analyse_b98 mM_analyse_b114 la_end
    by_cases c : x < nI (a + la_B s 78)
    · rw [if_pos c, if_pos c, me_putF, if_neg (show ¬ mb_F (mb_setF s 0 2) 0 = 1 from show ¬ (2 : Int32) = 1 by decide)]
    · rw [if_neg c, if_neg c, me_putF, if_pos (show mb_F (mb_setF s 0 1) 0 = 1 from rfl)]
  | succ d ih =>
    intro j n hjd hn
    obtain ⟨n, rfl⟩ : ∃ z, n = z + 1 := ⟨n - 1, by omega⟩
    rw [mM_analyse_l58_s, pu_l78, if_neg (fun z => absurd ((nI_leI (a := 78) (b := j) (by omega) (by omega)).mp z) (by omega)), me_ld (by omega) (by decide)]
    unfold mM_analyse_b79
    have e : la_B s (j + 1) = la_B s j + (if mb_I s 11 j = 0 then 0 else 1) := rfl
    by_cases c : mb_I s 11 j = 0
    · rw [if_pos c, me_bnd, me_bnd, nI_1, ← nI_0, nI_add]
      rw [if_pos c] at e
      have := ih (j + 1) n (by omega) (by omega)
      rw [e] at this
      exact this
    · rw [if_neg c, me_bnd, me_bnd, nI_1, nI_1]
      rw [if_neg c] at e
      have := ih (j + 1) n (by omega) (by omega)
      rw [e] at this
      exact this
theorem mM_an_16 (x : Int32) (s : mb_S) : ∀ (d j n : Nat), j + d = 5070 → d < n → mM_analyse_l16 n x (nI (la_A s j)) (nI j) s = la_end x (la_A s 5070 + la_B s 78) s := by
  intro d
  induction d with
  | zero =>
    intro j n hjd hn
    obtain ⟨n, rfl⟩ : ∃ z, n = z + 1 := ⟨n - 1, by omega⟩
    rw [mM_analyse_l16_s, pu_l5070, if_pos ((nI_leI (by omega) (by omega)).mpr (by omega)), show j = 5070 by omega, ← nI_0]
    have h := mM_an_58 x s (la_A s 5070) 78 0 mb_fuel rfl (by unfold mb_fuel; omega)
    rw [show la_B s 0 = 0 from rfl, Nat.add_zero] at h
    exact h
  | succ d ih =>
    intro j n hjd hn
    obtain ⟨n, rfl⟩ : ∃ z, n = z + 1 := ⟨n - 1, by omega⟩
    rw [mM_analyse_l16_s, pu_l5070, if_neg (fun z => absurd ((nI_leI (a := 5070) (b := j) (by omega) (by omega)).mp z) (by omega)), me_ldL (by omega) (by decide)]
    unfold mM_analyse_b48
    have e : la_A s (j + 1) = la_A s j + pu_pc (mb_L s 0 j).toBitVec := rfl
    have key := ih (j + 1) n (by omega) (by omega)
    rw [e] at key
    by_cases c : mb_L s 0 j = 0
    · rw [if_pos (pl_cmp.mpr c), me_bnd, me_bnd, nI_1, ← nI_0, nI_add]
      rw [c, show pu_pc (0 : Int64).toBitVec = 0 by decide +kernel] at key
      exact key
    · rw [if_neg (fun z => c (pl_cmp.mp z)), me_ldL (by omega) (by decide), mM_bits_e, me_cal0, me_bnd, me_bnd, nI_1, nI_add]
      exact key
def la_h (P : lf_P) (s : mb_S) (m w n : Nat) : Nat := pu_sum (fun k => pu_pc (mb_I s 14 ((13 * m + k) * 20 + w)).toBitVec) n
def la_w (P : lf_P) (s : mb_S) (m n : Nat) : Nat := pu_sum (fun w => pu_pc (mb_I s 16 (20 * m + w)).toBitVec * la_h P s m w (lf_len P m + 1)) n
def la_m (P : lf_P) (s : mb_S) (n : Nat) : Nat := pu_sum (fun m => pu_pc (mb_I s 17 m).toBitVec + la_w P s m 20) n
theorem mF_ch_l (hpo : lf_ok P q) {s zm : mb_S} (hX : lf_X P q s) (hc : lf_fct P zm s) {m w : Nat} (hm : m < 6) (hw : w < 20) : ∀ (d k n : Nat), k + d = lf_len P m + 1 → d < n → mF_countHeld_l5 n (nI m) (nI w) (nI (la_h P s m w k)) (nI k) s = some (nI (la_h P s m w (lf_len P m + 1)), s) := by
  have hl := hpo.1 m hm
  intro d
  induction d with
  | zero =>
    intro k n hkd hn
    obtain ⟨n, rfl⟩ : ∃ z, n = z + 1 := ⟨n - 1, by omega⟩
    rw [mF_countHeld_l5_s, me_ld hm (by decide), hX.1 m hm, if_pos ((nI_ltI (by omega) (by omega)).mpr (by omega)), show k = lf_len P m + 1 by omega]
  | succ d ih =>
    intro k n hkd hn
    obtain ⟨n, rfl⟩ : ∃ z, n = z + 1 := ⟨n - 1, by omega⟩
    rw [mF_countHeld_l5_s, me_ld hm (by decide), hX.1 m hm, if_neg (fun z => absurd ((nI_ltI (by omega) (by omega)).mp z) (by omega)), me_13, me_20r, me_ld (by omega) (by decide), mJ_bitCount_e (hc.2.2.2.2.2.2.2.1 m k w hm (by omega) hw), me_cal0, me_bnd, me_bnd, nI_1, nI_add]
    exact ih (k + 1) n (by omega) (by omega)
theorem mF_cp_24 (hpo : lf_ok P q) {s zm : mb_S} (hX : lf_X P q s) (hc : lf_fct P zm s) {m : Nat} (hm : m < 6) (a : Nat) (k4 : Int32 → Int32 → mb_S → Option (Int32 × mb_S)) : ∀ (d w n : Nat), w + d = 20 → d < n → mF_countPaths_l24 k4 n (nI (a + la_w P s m w)) (nI m) (nI w) s = k4 (nI (a + la_w P s m 20)) (nI (m + 1)) s := by
  have hl := hpo.1 m hm
  intro d
  induction d with
  | zero =>
    intro w n hwd hn
    obtain ⟨n, rfl⟩ : ∃ z, n = z + 1 := ⟨n - 1, by omega⟩
    rw [mF_countPaths_l24_s, pu_l20, if_pos ((nI_leI (by omega) (by omega)).mpr (by omega)), me_bnd, nI_1, show w = 20 by omega]
  | succ d ih =>
    intro w n hwd hn
    obtain ⟨n, rfl⟩ : ∃ z, n = z + 1 := ⟨n - 1, by omega⟩
    have hl16 : ∀ i, 16 ≤ i → pu_b (mb_I s 16 (20 * m + w)) i = false := fun i hi => by
      by_cases c : w < 16
      · exact hc.2.2.2.2.2.2.2.2.1 m w hm c i (by omega)
      · have := hc.2.2.2.2.2.2.1 m (w - 16) hm (by omega) i
        rw [show 16 + (w - 16) = w by omega] at this
        rw [this, decide_eq_false (by omega)]
    rw [mF_countPaths_l24_s, pu_l20, if_neg (fun z => absurd ((nI_leI (a := 20) (b := w) (by omega) (by omega)).mp z) (by omega)), ← pu_l20, me_20, me_ld (by omega) (by decide), mJ_bitCount_e hl16, me_cal0]
    unfold mF_countPaths_b63
    have hle := pu_pc_le (mb_I s 16 (20 * m + w)).toBitVec
    have e : la_w P s m (w + 1) = la_w P s m w + pu_pc (mb_I s 16 (20 * m + w)).toBitVec * la_h P s m w (lf_len P m + 1) := rfl
    have key := ih (w + 1) n (by omega) (by omega)
    rw [e] at key
    by_cases c : pu_pc (mb_I s 16 (20 * m + w)).toBitVec = 0
    · rw [if_pos ((pu_eq0 (by omega)).mpr c), me_bnd, nI_1]
      rw [c, Nat.zero_mul] at key
      exact key
    · have ech : mF_countHeld (nI m) (nI w) s = some (nI (la_h P s m w (lf_len P m + 1)), s) := mF_ch_l hpo hX hc hm (show w < 20 by omega) (lf_len P m + 1) 0 mb_fuel (Nat.zero_add _) (by unfold mb_fuel; omega)
      rw [if_neg (fun z => c ((pu_eq0 (by omega)).mp z)), ech, me_cal, pk_mul, nI_add, me_bnd, me_bnd, nI_1, Nat.add_assoc]
      exact key
theorem mF_cp_4 (hpo : lf_ok P q) {s zm : mb_S} (hX : lf_X P q s) (hc : lf_fct P zm s) : ∀ (d m n : Nat), m + d = 6 → d < n → mF_countPaths_l4 n (nI (la_m P s m)) (nI m) s = some (nI (la_m P s 6), s) := by
  intro d
  induction d with
  | zero =>
    intro m n hmd hn
    obtain ⟨n, rfl⟩ : ∃ z, n = z + 1 := ⟨n - 1, by omega⟩
    rw [mF_countPaths_l4_s, pu_l6, if_pos ((nI_leI (by omega) (by omega)).mpr (by omega)), show m = 6 by omega]
  | succ d ih =>
    intro m n hmd hn
    obtain ⟨n, rfl⟩ : ∃ z, n = z + 1 := ⟨n - 1, by omega⟩
    have hm : m < 6 := by omega
    rw [mF_countPaths_l4_s, pu_l6, if_neg (fun z => absurd ((nI_leI (a := 6) (b := m) (by omega) (by omega)).mp z) (by omega)), me_ld hm (by decide), mJ_bitCount_e (fun i hi => hc.2.2.2.2.2.2.2.2.2.1 m hm i (by omega)), me_cal0, nI_add, me_bnd, ← nI_0]
    have h := mF_cp_24 hpo hX hc hm (la_m P s m + pu_pc (mb_I s 17 m).toBitVec) (mF_countPaths_l4 n) 20 0 mb_fuel rfl (by unfold mb_fuel; omega)
    have e : la_m P s m + pu_pc (mb_I s 17 m).toBitVec + la_w P s m 20 = la_m P s (m + 1) := Nat.add_assoc _ _ _
    rw [e, ih (m + 1) n (by omega) (by omega)] at h
    exact h
theorem la_same (hpo : lf_ok P q) {zm zx : mb_S} (hc : lf_fct P zm zx) : la_A zm 5070 + la_B zm 78 = la_m P zx 6 := by
  have e1 : la_A zm 5070 = pu_sum (fun m => la_w P zx m 20) 6 := lf_count (hold := mb_L zm 0) (held := mb_I zx 14) (labels := mb_I zx 16) (len := lf_len P) hpo.1 (fun m k e d hm hk he hd => hc.1 m k e d hm (by have := hpo.1 m hm; omega) he hd) hc.2.2.2.2.2.2.2.2.2.2 (fun m k w hm hk hw => hc.2.2.2.2.2.2.2.1 m k w hm (by have := hpo.1 m hm; omega) hw) hc.2.2.2.2.2.2.2.2.1 (fun m s hm hs => by
    rw [lf_pc4 (fun i hi => by rw [hc.2.2.2.2.2.2.1 m s hm hs i, decide_eq_false (by omega)])]
    rw [pu_sum_congr (g := fun w => (decide (w = s)).toNat) (fun w _ => by rw [hc.2.2.2.2.2.2.1 m s hm hs w])]
    exact (by decide : ∀ s, s < 4 → pu_sum (fun w => (decide (w = s)).toNat) 4 = 1) s hs)
  have e2 : la_B zm 78 = pu_sum (fun m => pu_pc (mb_I zx 17 m).toBitVec) 6 := by
    unfold la_B
    rw [show (78 : Nat) = 6 * 13 from rfl, pu_sum_prod]
    refine pu_sum_congr (fun m hm => ?_)
    rw [lf_pcn (n := 13) (by omega) (hc.2.2.2.2.2.2.2.2.2.1 m hm)]
    refine pu_sum_congr (fun k hk => ?_)
    rw [Nat.mul_comm m 13]
    have h := hc.2.1 m k hm hk
    rcases hc.2.2.2.2.1 (13 * m + k) (by omega) with z | z
    · rw [if_pos z, pu_bf (fun y => by rw [h.mpr y] at z; exact absurd z (by decide))]; rfl
    · rw [if_neg (fun y => by rw [z] at y; exact absurd y (by decide)), h.mp z]; rfl
  rw [e1, e2, Nat.add_comm]
  exact (pu_sum_add _ _ 6).symm
def lf_set (P : lf_P) (zm zx : mb_S) : Prop := lf_fct P zm zx ∧ (∀ m x, m < 6 → x < 4 → mb_I zm 7 (4 * m + x) = mb_I zx 11 (4 * m + x)) ∧ (∀ o f, o < 6 → f < 2 → mb_I zm 8 (2 * o + f) = mb_I zx 12 (2 * o + f))
theorem lf_set.fr {zm zx zm' zx' : mb_S} (h : lf_set P zm zx) (e7 : mb_I zm' 7 = mb_I zm 7) (e8 : mb_I zm' 8 = mb_I zm 8) (e11 : mb_I zm' 11 = mb_I zm 11) (e12 : mb_I zm' 12 = mb_I zm 12) (l0 : mb_L zm' 0 = mb_L zm 0) (l1 : mb_L zm' 1 = mb_L zm 1) (x11 : mb_I zx' 11 = mb_I zx 11) (x12 : mb_I zx' 12 = mb_I zx 12) (x14 : mb_I zx' 14 = mb_I zx 14) (x16 : mb_I zx' 16 = mb_I zx 16) (x17 : mb_I zx' 17 = mb_I zx 17) : lf_set P zm' zx' := by
  unfold lf_set lf_fct
  rw [e7, e8, e11, e12, l0, l1, x11, x12, x14, x16, x17]
  exact h
theorem lf_ana_e (hpo : lf_ok P q) {s x : mb_S} (hM : lf_M P q s) (hX : lf_X P q x) (b : Int32) : ∃ r zm zx, mM_analyse b s = some (r, zm) ∧ mX_analyse b x = some (r, zx) ∧ lf_M P q zm ∧ lf_X P q zx ∧ mb_F zm 0 = mb_F zx 0 ∧ lf_set P zm zx ∧ lf_fr (fun k => k = 0 ∨ k = 1) (fun k => 7 ≤ k ∧ k ≤ 12) (fun k => k = 0 ∨ k = 1) s zm ∧ lf_fr (fun k => k = 0 ∨ (2 ≤ k ∧ k ≤ 4)) (fun k => 11 ≤ k ∧ k ≤ 17) (fun _ => False) x zx := by
  obtain ⟨zp, zm, zx, ep, em, ex, hMm, hXx, hfm, hfx, L, T, hpts⟩ := lf_pts_e hpo hM hX
  obtain ⟨ym, yx, gm, gx, hMy, hXy, hfy, hfyx, hc⟩ := lf_fct_e hpo hMm hXx hpts
  have e1 : mM_analyse b s = la_end b (la_m P yx 6) ym := by
    unfold mM_analyse
    rw [ep, me_cal, em, me_cal, gm, me_cal, ← nI_0, ← la_same hpo hc]
    have h := mM_an_16 b ym 5070 0 mb_fuel rfl (by unfold mb_fuel; omega)
    rw [show la_A ym 0 = 0 from rfl] at h
    exact h
  have ecp : mF_countPaths yx = some (nI (la_m P yx 6), yx) := mF_cp_4 hpo hXy hc 6 0 mb_fuel rfl (by unfold mb_fuel; omega)
  have fm : lf_fr (fun k => k = 0 ∨ k = 1) (fun k => 7 ≤ k ∧ k ≤ 12) (fun k => k = 0 ∨ k = 1) s ym := (lf_fr.wk hfm (fun k z => Or.inr z) (fun k z => by omega) (fun _ z => z.elim)).tr (lf_fr.wk hfy (fun k z => Or.inr z) (fun k z => by omega) (fun k z => z))
  have fx : lf_fr (fun k => k = 0 ∨ (2 ≤ k ∧ k ≤ 4)) (fun k => 11 ≤ k ∧ k ≤ 17) (fun _ => False) x yx := (lf_fr.wk hfx (fun k z => by omega) (fun k z => by omega) (fun _ z => z)).tr (lf_fr.wk hfyx (fun k z => by omega) (fun k z => by omega) (fun _ z => z))
  have hset : lf_set P ym yx := by
    refine ⟨hc, fun m y hm hy => ?_, fun o f ho hf => ?_⟩
    · rw [hfy.2.1 7 (by decide), hfyx.2.1 11 (by decide)]; exact hpts.1 m y hm hy
    · rw [hfy.2.1 8 (by decide), hfyx.2.1 12 (by decide)]; exact hpts.2.1 o f ho hf
  have e2 : mX_analyse b x = if nI (la_m P yx 6) ≤ b then some (nI (la_m P yx 6), mb_setF yx 0 1) else some (-1, mb_setF yx 0 2) := by
    unfold mX_analyse
    rw [ex, me_cal, gx, me_cal, ecp, me_cal, me_putF, me_putF]
  by_cases c : b < nI (la_m P yx 6)
  · refine ⟨-1, mb_setF ym 0 2, mb_setF yx 0 2, ?_, ?_, hMy, hXy, rfl, hset, fm.setF (Or.inl rfl), fx.setF (Or.inl rfl)⟩
    · rw [e1]; unfold la_end; rw [if_pos c]
    · rw [e2, if_neg (fun z => absurd c (Int32.not_lt.mpr z))]
  · refine ⟨nI (la_m P yx 6), mb_setF ym 0 1, mb_setF yx 0 1, ?_, ?_, hMy, hXy, rfl, hset, fm.setF (Or.inl rfl), fx.setF (Or.inl rfl)⟩
    · rw [e1]; unfold la_end; rw [if_neg c]
    · rw [e2, if_pos (Int32.not_lt.mp c)]
end ANA
