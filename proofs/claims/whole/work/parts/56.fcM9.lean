section FM9
variable {P : lf_P} {q : lf_Q} {L T : Nat → Nat → Nat → Prop} {H : Nat → Nat → Nat → Nat → Prop} {Z E : Nat → Nat → Prop} {N : Nat → Prop}
theorem mM_af_83 (hpo : lf_ok P q) (hC : lf_FC P L T H Z E N) {m k e : Nat} (hm : m < 6) (hk : k < lf_len P m) (he : e ≤ 64) (hN : e = 64 → N m) (hE : e ≠ 64 → E m e) {x4 : Int64} (hx : ∀ d, d < 64 → pu_c x4 d = true → H m k e d) (k27 : Int32 → Int32 → Int32 → mb_S → Option (Unit × mb_S)) (Q : Unit × mb_S → Prop) {s0 : mb_S} {C0 : mb_S → Prop}
    (hk27 : ∀ s, mf_W P q L T H Z E N s → mf_op (fun gs _ => C0 gs ∧ ∀ d, d < 64 → pu_c x4 d = true → mf_fo P L T m k e d gs) s0 s → pu_wp (k27 (nI m) (nI e) (nI (k + 1)) s) Q) :
    ∀ (f d n : Nat) (s : mb_S), d + f = 64 → f < n → mf_W P q L T H Z E N s → mf_op (fun gs _ => C0 gs ∧ ∀ d', d' < d → pu_c x4 d' = true → mf_fo P L T m k e d' gs) s0 s → pu_wp (mM_allFrom_l83 k27 n (nI m) (nI e) (nI k) x4 (nI d) s) Q := by
  intro f
  induction f with
  | zero =>
    intro d n s hdd hn hW hop
    obtain ⟨n, rfl⟩ : ∃ z, n = z + 1 := ⟨n - 1, by omega⟩
    rw [mM_allFrom_l83_s, pu_l64, if_pos ((nI_leI (by omega) (by omega)).mpr (by omega)), me_bnd, nI_1]
    rw [show d = 64 by omega] at hop
    exact hk27 s hW hop
  | succ f ih =>
    intro d n s hdd hn hW hop
    obtain ⟨n, rfl⟩ : ∃ z, n = z + 1 := ⟨n - 1, by omega⟩
    have hd : d < 64 := by omega
    rw [mM_allFrom_l83_s, pu_l64, if_neg (fun z => absurd ((nI_leI (a := 64) (b := d) (by omega) (by omega)).mp z) (by omega))]
    unfold mM_allFrom_b111
    by_cases c : pu_c x4 d = true
    · rw [if_pos ((pl_bit hd).mpr c), pu_cal]
      refine pu_mono (mM_follow_d hpo hC hm hk he hd hN hE (hx d hd c) hW) (fun z hz => ?_)
      rw [me_bnd, nI_1]
      refine ih (d + 1) n z.2 (by omega) (by omega) hz.1 (mf_wk (mf_seq hop hz.2) (fun y => ⟨y.1.1, fun d' hd' hb => ?_⟩))
      by_cases e : d' = d
      · rw [e]; exact y.2
      · exact y.1.2 d' (by omega) hb
    · rw [if_neg (fun z => c ((pl_bit hd).mp z)), me_bnd, nI_1]
      refine ih (d + 1) n s (by omega) (by omega) hW (mf_wk hop (fun y => ⟨y.1, fun d' hd' hb => ?_⟩))
      by_cases e : d' = d
      · rw [e] at hb; exact absurd hb c
      · exact y.2 d' (by omega) hb
def mf_af (P : lf_P) (L T : Nat → Nat → Nat → Prop) (m e k : Nat) (gs : mb_S) : Prop := ∀ j, j < k → (e = 64 → mb_I gs 11 (13 * m + j) = 1 → mf_fz P T m j gs) ∧ ∀ d, d < 64 → pu_c (mb_L gs 0 ((13 * m + j) * 65 + e)) d = true → mf_fo P L T m j e d gs
theorem mM_af_27 (hpo : lf_ok P q) (hC : lf_FC P L T H Z E N) {m e : Nat} (hm : m < 6) (he : e ≤ 64) (hN : e = 64 → N m) (hE : e ≠ 64 → E m e) {s0 : mb_S} {C0 : mb_S → Prop} :
    ∀ (f k n : Nat) (s : mb_S), k + f = lf_len P m → f < n → mf_W P q L T H Z E N s → mf_op (fun gs _ => C0 gs ∧ mf_af P L T m e k gs) s0 s → pu_wp (mM_allFrom_l27 n (nI m) (nI e) (nI k) s) (fun z => mf_W P q L T H Z E N z.2 ∧ mf_op (fun gs _ => C0 gs ∧ mf_af P L T m e (lf_len P m) gs) s0 z.2) := by
  have hl := hpo.1 m hm
  intro f
  induction f with
  | zero =>
    intro k n s hkd hn hW hop
    obtain ⟨n, rfl⟩ : ∃ z, n = z + 1 := ⟨n - 1, by omega⟩
    rw [mM_allFrom_l27_s, me_ld hm (by decide), hW.1.1 _ hm, if_pos ((nI_leI (by omega) (by omega)).mpr (by omega)), pu_some]
    rw [show k = lf_len P m by omega] at hop
    exact ⟨hW, hop⟩
  | succ f ih =>
    intro k n s hkd hn hW hop
    obtain ⟨n, rfl⟩ : ∃ z, n = z + 1 := ⟨n - 1, by omega⟩
    have hk : k < lf_len P m := by omega
    have h66 : ∀ u, mf_W P q L T H Z E N u → mf_op (fun gs _ => (C0 gs ∧ mf_af P L T m e k gs) ∧ (e = 64 → mb_I gs 11 (13 * m + k) = 1 → mf_fz P T m k gs)) s0 u → pu_wp (mM_allFrom_b66 (mM_allFrom_l27 n) (nI m) (nI e) (nI k) u) (fun z => mf_W P q L T H Z E N z.2 ∧ mf_op (fun gs _ => C0 gs ∧ mf_af P L T m e (lf_len P m) gs) s0 z.2) := by
      intro u hu hou
      unfold mM_allFrom_b66 mM_cellOf
      have hc : (13 * m + k) * 65 + e < 5070 := by omega
      rw [me_cell, me_cal, me_ldL hc (by decide), ← nI_0]
      refine mM_af_83 hpo hC hm hk he hN hE (x4 := mb_L u 0 ((13 * m + k) * 65 + e)) (fun d hd hb => hu.2.2.2.2.2.1 m k e d hm (by omega) he hd hb) (mM_allFrom_l27 n) _ (s0 := u) (C0 := fun _ => True) (fun y hy hoy => ?_) 64 0 mb_fuel u rfl (by unfold mb_fuel; omega) hu (mf_rf (C := fun gs => True ∧ ∀ d', d' < 0 → pu_c (mb_L u 0 ((13 * m + k) * 65 + e)) d' = true → mf_fo P L T m k e d' gs) hu.2.2.1 ⟨trivial, fun d' h => absurd h (Nat.not_lt_zero _)⟩)
      have hoy2 : mf_op (fun gs _ => ∀ d, d < 64 → pu_c (mb_L gs 0 ((13 * m + k) * 65 + e)) d = true → mf_fo P L T m k e d gs) u y := mf_wk hoy (fun z d hd hb => by
        rw [mf_l0] at hb
        exact z.2 d hd hb)
      refine ih (k + 1) n y (by omega) (by omega) hy (mf_wk (mf_seq hou hoy2) (fun z => ⟨z.1.1.1, fun j hj => ?_⟩))
      by_cases ej : j = k
      · rw [ej]; exact ⟨z.1.2, z.2⟩
      · exact z.1.1.2 j (by omega)
    rw [mM_allFrom_l27_s, me_ld hm (by decide), hW.1.1 _ hm, if_neg (fun z => absurd ((nI_leI (by omega) (by omega)).mp z) (by omega)), pu_l64]
    by_cases c64 : e = 64
    · rw [if_pos ((nI_eq (by omega) (by omega)).mpr c64), me_13l, me_ld (by omega) (by decide)]
      by_cases c11 : mb_I s 11 (13 * m + k) = 0
      · rw [if_pos c11]
        refine h66 s hW (mf_seq hop (mf_rf (C := fun gs => e = 64 → mb_I gs 11 (13 * m + k) = 1 → mf_fz P T m k gs) hW.2.2.1 (fun _ h => ?_)))
        rw [mf_11, c11] at h
        exact absurd h (by decide)
      · have h1 : mb_I s 11 (13 * m + k) = 1 := by
          rcases hW.2.2.2.1 _ (show 13 * m + k < 78 by omega) with z | z
          · exact absurd z c11
          · exact z
        rw [if_neg c11, pu_cal]
        have hz := mM_follow_z hpo hC hm hk (hN c64) (hW.2.2.2.2.2.2.1 m k hm (by omega) h1) hW
        rw [← c64] at hz ⊢
        refine pu_mono hz (fun z hz => h66 z.2 hz.1 (mf_wk (mf_seq hop hz.2) (fun y => ⟨y.1, fun _ _ => y.2⟩)))
    · rw [if_neg (fun z => c64 ((nI_eq (by omega) (by omega)).mp z))]
      exact h66 s hW (mf_wk hop (fun z => ⟨z, fun h => absurd h c64⟩))
end FM9
