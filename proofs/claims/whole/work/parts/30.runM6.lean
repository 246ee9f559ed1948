def lr_1 : lf_R := lr_enter lr_0 0 (none, 0) (none, 0)
def lr_lim (x : Int32) : Nat := if x < 0 then 0 else min x.toNatClampNeg 200
theorem lr_lim_le (x : Int32) : lr_lim x ≤ 200 := by
  unfold lr_lim
  by_cases h : x < 0
  · rw [if_pos h]; omega
  · rw [if_neg h]; omega
section RZ
variable {P : lf_P} {q : lf_Q} {s : mb_S}
theorem lr_ok_0 : lr_ok P lr_0 := ⟨by decide, fun i hi => absurd hi (Nat.not_lt_zero _), fun i hi => absurd hi (Nat.not_lt_zero _), fun j hj => absurd hj (Nat.not_lt_zero _), by decide, fun o ho => absurd ho (Nat.not_lt_zero _), fun j hj => absurd hj (Nat.not_lt_zero _), by decide, by decide⟩
theorem lr_ok_1 : lr_ok P lr_1 := lr_ok_enter lr_ok_0 (by decide) (by decide) (lr_vok0 _) (lr_vok0 _) (fun z => absurd z (Nat.not_lt_zero _))
theorem mM_run_51 {s0 : mb_S} (hM : lf_M P q s0) (hpo : lf_ok P q) (ch : Int32) {L : Nat} (hL : L ≤ 200) : ∀ (e i n : Nat) (s : mb_S), i + e = 16 → e < n → (∀ j, j < i → mb_I s 13 j = 0) → mb_F s 2 = 0 → mb_F s 3 = 0 → mb_F s 4 = 0 → mb_F s 5 = 0 → mb_F s 6 = 0 → lf_frQ s0 s →
    pu_wp (mM_run_l51 n ch (nI L) (nI i) s) (fun z => z.1 = nI (lr_st (lr_loop P q ch L 201 lr_1).1) ∧ lr_M (lr_loop P q ch L 201 lr_1).1 z.2 ∧ mb_F z.2 2 = nI (lr_loop P q ch L 201 lr_1).2 ∧ lf_frQ s0 z.2) := by
  intro e
  induction e with
  | zero =>
    intro i n s hi hn h13 h2 h3 h4 h5 h6 hf
    obtain ⟨n, rfl⟩ : ∃ z, n = z + 1 := ⟨n - 1, by omega⟩
    have h0 : lr_M lr_0 s := ⟨h6, h3, h4, h5, fun i hi => absurd hi (Nat.not_lt_zero _), fun j hj => absurd hj (Nat.not_lt_zero _), fun o ho => absurd ho (Nat.not_lt_zero _), fun j hj => absurd hj (Nat.not_lt_zero _), fun j hj => h13 j (by omega)⟩
    obtain ⟨t, t1, t2, t3⟩ := mM_enter_e (P := P) h0 lr_ok_0 (by decide) 0 (i0 := none) (i1 := none) (fun j z => by cases z) (fun j z => by cases z)
    rw [mM_run_l51_s, pu_l16, if_pos ((nI_leI (by omega) (by omega)).mpr (by omega)), show mM_enter 0 (-1) (-1) s = some ((), t) from t1, me_cal]
    exact mM_run_loop hpo ch hL 201 0 mb_fuel lr_1 t rfl (by unfold mb_fuel; omega) (lf_frQ.M (hf.tr t3.toQ) hM) t2 lr_ok_1 rfl (by rw [t3.1 2 (fun z => by omega)]; exact h2) (hf.tr t3.toQ)
  | succ e ih =>
    intro i n s hi hn h13 h2 h3 h4 h5 h6 hf
    obtain ⟨n, rfl⟩ : ∃ z, n = z + 1 := ⟨n - 1, by omega⟩
    rw [mM_run_l51_s, pu_l16, if_neg (fun z => absurd ((nI_leI (a := 16) (b := i) (by omega) (by omega)).mp z) (by omega)), me_stI (by omega) (by decide), me_bnd, nI_1]
    refine ih (i + 1) n _ (by omega) (by omega) (fun j hj => ?_) h2 h3 h4 h5 h6 (hf.setI ⟨by decide, by decide⟩)
    show upd (mb_I s 13) i 0 j = 0
    rw [pu_upd]
    by_cases e : j = i
    · rw [if_pos e]
    · rw [if_neg e]; exact h13 j (by omega)
theorem mM_run_e (hM : lf_M P q s) (hpo : lf_ok P q) (ch x : Int32) : pu_wp (mM_run ch x s) (fun z => z.1 = nI (lr_st (lr_loop P q ch (lr_lim x) 201 lr_1).1) ∧ lr_M (lr_loop P q ch (lr_lim x) 201 lr_1).1 z.2 ∧ mb_F z.2 2 = nI (lr_loop P q ch (lr_lim x) 201 lr_1).2 ∧ lf_frQ s z.2) := by
  have hb : ∀ L, L ≤ 200 → pu_wp (mM_run_b22 ch (nI L) s) (fun z => z.1 = nI (lr_st (lr_loop P q ch L 201 lr_1).1) ∧ lr_M (lr_loop P q ch L 201 lr_1).1 z.2 ∧ mb_F z.2 2 = nI (lr_loop P q ch L 201 lr_1).2 ∧ lf_frQ s z.2) := by
    intro L hL
    unfold mM_run_b22
    rw [me_putF, me_putF, me_putF, me_putF, me_putF, ← nI_0]
    exact mM_run_51 hM hpo ch hL 16 0 mb_fuel _ rfl (by unfold mb_fuel; omega) (fun j hj => absurd hj (Nat.not_lt_zero _)) rfl rfl rfl rfl rfl (((((lf_fr.rf.setF ⟨by decide, by decide⟩).setF ⟨by decide, by decide⟩).setF ⟨by decide, by decide⟩).setF ⟨by decide, by decide⟩).setF ⟨by decide, by decide⟩)
  unfold mM_run lr_lim
  rcases pu_cases x with h | ⟨j, hj, rfl⟩
  · rw [if_pos h, if_neg (fun z => absurd h (Int32.not_lt.mpr z))]
    exact hb 0 (by omega)
  · rw [if_neg (nI_pos hj), if_pos (nI_pos' hj), nI_clamp hj, pu_l200]
    by_cases c : j ≤ 200
    · rw [if_pos ((nI_leI (by omega) (by omega)).mpr c), Nat.min_eq_left c]
      exact hb j c
    · rw [if_neg (fun z => c ((nI_leI (by omega) (by omega)).mp z)), Nat.min_eq_right (by omega)]
      exact hb 200 (by omega)
end RZ
