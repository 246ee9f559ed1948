section RR
variable {P : lf_P} {q : lf_Q} {r : lf_R} {s s0 : mb_S}
def lf_frQ : mb_S → mb_S → Prop := lf_fr (fun k => 2 ≤ k ∧ k ≤ 6) (fun k => 13 ≤ k ∧ k ≤ 20) (fun _ => False)
theorem lf_frR.toQ {s t : mb_S} (h : lf_frR s t) : lf_frQ s t := h.wk (fun k z => by omega) (fun _ z => z) (fun _ z => z)
theorem lf_frQ.M {P : lf_P} {q : lf_Q} {s t : mb_S} (hf : lf_frQ s t) (h : lf_M P q s) : lf_M P q t := h.fr (fun k hk => hf.2.1 k (fun z => by omega))
theorem lr_hind_le : lr_hind P q r ≤ 5 := by
  unfold lr_hind
  by_cases c0 : lf_kd P (lr_tm r) (lr_tp r) = 0
  · rw [if_pos c0]
    by_cases c : lr_n r = 12
    · rw [if_pos c]; omega
    · rw [if_neg c]; omega
  rw [if_neg c0]
  by_cases c5 : lf_kd P (lr_tm r) (lr_tp r) = 5
  · rw [if_pos c5]
    cases (lr_tv r (lf_b P (lr_tm r) (lr_tp r))).1 with
    | none => exact (by decide : 3 ≤ 5)
    | some o => exact Nat.zero_le _
  rw [if_neg c5]
  by_cases c6 : lf_kd P (lr_tm r) (lr_tp r) = 6
  · rw [if_pos c6]
    cases (lr_tv r (lf_a P (lr_tm r) (lr_tp r))).1 with
    | none => exact (by decide : 3 ≤ 5)
    | some o => exact Nat.zero_le _
  rw [if_neg c6]
  by_cases c7 : lf_kd P (lr_tm r) (lr_tp r) = 7
  · rw [if_pos c7]
    cases (lr_tv r (lf_b P (lr_tm r) (lr_tp r))).1 with
    | none => exact (by decide : 3 ≤ 5)
    | some o =>
      show (match lf_tgt q (lr_k r o) (lf_c P (lr_tm r) (lr_tp r) / 4) with
        | none => 3
        | some _ => if lr_d r = 6 then 4 else 0) ≤ 5
      cases lf_tgt q (lr_k r o) (lf_c P (lr_tm r) (lr_tp r) / 4) with
      | none => exact (by decide : 3 ≤ 5)
      | some t =>
        show (if lr_d r = 6 then 4 else 0) ≤ 5
        by_cases c : lr_d r = 6
        · rw [if_pos c]; omega
        · rw [if_neg c]; omega
  rw [if_neg c7]; omega
theorem lr_out_le (limit : Nat) : lr_out P q limit r ≤ 5 := by
  unfold lr_out
  by_cases c : lr_d r = 0
  · rw [if_pos c]; omega
  · rw [if_neg c]
    by_cases c2 : lr_st r = limit
    · rw [if_pos c2]; omega
    · rw [if_neg c2]; exact lr_hind_le
theorem mM_run_settle (hpo : lf_ok P q) (k82 : Int32 → Int32 → Int32 → mb_S → Option (Int32 × mb_S)) (x1 : Int32) {limit : Nat} (hlim : limit ≤ 200) (x4 : Int32) (Q : Int32 × mb_S → Prop) :
    ∀ (e i n : Nat) (r : lf_R) (s : mb_S), i + e = 6 → e < n → lf_M P q s → lr_M r s → lr_ok P r → lf_frR s0 s → lr_d r ≤ e ∨ ¬ (0 < lr_d r ∧ lr_tp r = lf_len P (lr_tm r)) →
    (∀ s', lf_M P q s' → lr_M (lr_settle P e r) s' → lf_frR s0 s' → pu_wp (mM_run_b183 k82 x1 (nI limit) x4 (nI (lr_out P q limit (lr_settle P e r))) s') Q) → pu_wp (mM_run_l100 k82 n x1 (nI limit) x4 (nI i) s) Q := by
  intro e
  induction e with
  | zero =>
    intro i n r s hi hn hM h hok hf hend hk
    obtain ⟨n, rfl⟩ : ∃ z, n = z + 1 := ⟨n - 1, by omega⟩
    have hk := hk s hM h hf
    have hk : pu_wp (mM_run_b183 k82 x1 (nI limit) x4 (nI (lr_out P q limit r)) s) Q := hk
    have hd6 := hok.1
    have hst := hok.2.2.2.2.2.2.2.1
    unfold lr_out at hk
    rw [mM_run_l100_s, pu_l6, if_pos ((nI_leI (by omega) (by omega)).mpr (by omega)), h.1]
    by_cases c : lr_d r = 0
    · rw [if_pos c] at hk
      rw [if_pos ((pu_eq0 (by omega)).mpr c)]; exact hk
    · rw [if_neg c] at hk
      rw [if_neg (fun z => c ((pu_eq0 (by omega)).mp z)), h.2.2.1]
      by_cases c2 : lr_st r = limit
      · rw [if_pos c2] at hk
        rw [if_pos ((nI_eq (by omega) (by omega)).mpr c2)]; exact hk
      · rw [if_neg c2] at hk
        have htop : lr_top P r := by
          refine ⟨by omega, ?_⟩
          have h1 := (hok.2.1 (lr_d r - 1) (by omega)).2
          have h2 : lr_tp r ≤ lf_len P (lr_tm r) := h1
          rcases hend with z | z
          · omega
          · have : lr_tp r ≠ lf_len P (lr_tm r) := fun w => z ⟨by omega, w⟩
            omega
        rw [if_neg (fun z => c2 ((nI_eq (by omega) (by omega)).mp z)), mM_hindrance_e hM hpo h hok htop, me_cal]
        exact hk
  | succ e ih =>
    intro i n r s hi hn hM h hok hf hend hk
    obtain ⟨n, rfl⟩ : ∃ z, n = z + 1 := ⟨n - 1, by omega⟩
    have hd6 := hok.1
    have hskip : ¬ (0 < lr_d r ∧ lr_tp r = lf_len P (lr_tm r)) → pu_wp (mM_run_b149 k82 (mM_run_l100 k82 n) x1 (nI limit) x4 (nI i) s) Q := by
      intro hno
      unfold mM_run_b149
      rw [me_bnd, nI_1]
      have e0 : ∀ z, lr_settle P z r = r := fun z => by
        cases z with
        | zero => rfl
        | succ z => unfold lr_settle; rw [if_neg hno]
      refine ih (i + 1) n r s (by omega) (by omega) hM h hok hf (Or.inr hno) (fun s' a1 a2 a3 => ?_)
      rw [e0] at a2 ⊢
      have := hk s' a1 (by rw [e0]; exact a2) a3
      rw [e0] at this
      exact this
    rw [mM_run_l100_s, pu_l6, if_neg (fun z => absurd ((nI_leI (a := 6) (b := i) (by omega) (by omega)).mp z) (by omega)), h.1]
    by_cases c : lr_d r = 0
    · rw [if_pos (by rw [c]; decide)]
      exact hskip (fun z => by omega)
    · have hd : 0 < lr_d r := by omega
      have e14 : mb_I s 14 (lr_d r - 1) = nI (lr_tm r) := (h.2.2.2.2.1 (lr_d r - 1) (by omega)).1
      have e15 : mb_I s 15 (lr_d r - 1) = nI (lr_tp r) := (h.2.2.2.2.1 (lr_d r - 1) (by omega)).2
      have hm : lr_tm r < 6 := (hok.2.1 (lr_d r - 1) (by omega)).1
      have hl := hpo.1 _ hm
      have hpl : lr_tp r ≤ lf_len P (lr_tm r) := (hok.2.1 (lr_d r - 1) (by omega)).2
      rw [if_neg (nI_nle hd (by omega)), me_sub1 hd, me_ld (by omega) (by decide), e15, me_ld (by omega) (by decide), e14, me_ld hm (by decide), hM.1 _ hm]
      by_cases c2 : lr_tp r = lf_len P (lr_tm r)
      · rw [if_pos ((nI_eq (by omega) (by omega)).mpr c2)]
        obtain ⟨t, t1, t2, t3⟩ := mM_leave_n hM hpo h hok hd
        rw [t1, me_cal]
        unfold mM_run_b149
        rw [me_bnd, nI_1]
        have es : lr_settle P (e + 1) r = lr_settle P e (lr_leave P r (none, 0)) := by
          conv => lhs; unfold lr_settle
          rw [if_pos ⟨hd, c2⟩]
        rw [es] at hk
        refine ih (i + 1) n _ t (by omega) (by omega) (t3.M hM) t2 (lr_ok_leave hok hd (lr_vok0 r)) (hf.tr t3) ?_ hk
        rcases hend with z | z
        · exact Or.inl (by rw [lr_leave_d]; omega)
        · exact absurd ⟨hd, c2⟩ z
      · rw [if_neg (fun z => c2 ((nI_eq (by omega) (by omega)).mp z))]
        exact hskip (fun z => c2 z.2)
theorem mM_run_loop (hpo : lf_ok P q) (ch : Int32) {limit : Nat} (hlim : limit ≤ 200) :
    ∀ (e i n : Nat) (r : lf_R) (s : mb_S), i + e = 201 → e < n → lf_M P q s → lr_M r s → lr_ok P r → lr_st r = i → mb_F s 2 = 0 → lf_frQ s0 s →
    pu_wp (mM_run_l82 n ch (nI limit) (nI i) s) (fun z => z.1 = nI (lr_st (lr_loop P q ch limit e r).1) ∧ lr_M (lr_loop P q ch limit e r).1 z.2 ∧ mb_F z.2 2 = nI (lr_loop P q ch limit e r).2 ∧ lf_frQ s0 z.2) := by
  intro e
  induction e with
  | zero =>
    intro i n r s hi hn hM h hok hst h2 hf
    obtain ⟨n, rfl⟩ : ∃ z, n = z + 1 := ⟨n - 1, by omega⟩
    rw [mM_run_l82_s, pu_l200, if_pos ((nI_ltI (by omega) (by omega)).mpr (by omega))]
    unfold mM_run_b214
    rw [pu_some]
    exact ⟨h.2.2.1, h, h2, hf⟩
  | succ e ih =>
    intro i n r s hi hn hM h hok hst h2 hf
    obtain ⟨n, rfl⟩ : ∃ z, n = z + 1 := ⟨n - 1, by omega⟩
    rw [mM_run_l82_s, pu_l200, if_neg (fun z => absurd ((nI_ltI (by omega) (by omega)).mp z) (by omega)), if_pos h2, ← nI_0]
    refine mM_run_settle (s0 := s) hpo (mM_run_l82 n) ch hlim (nI i) _ 6 0 mb_fuel r s rfl (by unfold mb_fuel; omega) hM h hok lf_fr.rf (Or.inl hok.1) (fun s1 hM1 hr1 hf1 => ?_)
    have hok1 := lr_settle_ok (P := P) 6 hok
    have hst1 := lr_settle_st (P := P) 6 (r := r)
    have hle := lr_out_le (P := P) (q := q) (r := lr_settle P 6 r) limit
    unfold mM_run_b183 mM_run_b208
    rw [me_putF]
    rw [show mb_F (mb_setF s1 2 (nI (lr_out P q limit (lr_settle P 6 r)))) 2 = nI (lr_out P q limit (lr_settle P 6 r)) from rfl]
    unfold lr_loop
    have hMF : lf_M P q (mb_setF s1 2 (nI (lr_out P q limit (lr_settle P 6 r)))) := hM1
    have hrF : lr_M (lr_settle P 6 r) (mb_setF s1 2 (nI (lr_out P q limit (lr_settle P 6 r)))) := hr1
    have hfF : lf_frQ s0 (mb_setF s1 2 (nI (lr_out P q limit (lr_settle P 6 r)))) := (hf.tr hf1.toQ).setF ⟨by decide, by decide⟩
    by_cases c : lr_out P q limit (lr_settle P 6 r) = 0
    · rw [if_pos ((pu_eq0 (by omega)).mpr c), if_pos c]
      have hd : ¬ lr_d (lr_settle P 6 r) = 0 := fun z => by unfold lr_out at c; rw [if_pos z] at c; omega
      have hs2 : ¬ lr_st (lr_settle P 6 r) = limit := fun z => by unfold lr_out at c; rw [if_neg hd, if_pos z] at c; omega
      have hh : lr_hind P q (lr_settle P 6 r) = 0 := by unfold lr_out at c; rw [if_neg hd, if_neg hs2] at c; exact c
      have hend := lr_settle_end (P := P) 6 (r := r) hok.1
      have htop : lr_top P (lr_settle P 6 r) := by
        refine ⟨by omega, ?_⟩
        have h1 : lr_tp (lr_settle P 6 r) ≤ lf_len P (lr_tm (lr_settle P 6 r)) := (hok1.2.1 (lr_d (lr_settle P 6 r) - 1) (by omega)).2
        have : lr_tp (lr_settle P 6 r) ≠ lf_len P (lr_tm (lr_settle P 6 r)) := fun w => hend ⟨by omega, w⟩
        omega
      obtain ⟨t, t1, t2, t3⟩ := mM_step_e hMF hpo hrF hok1 htop hh ch
      rw [t1, me_cal, me_putF]
      have e4 : mb_F t 4 = nI (lr_st r) ∨ True := Or.inr trivial
      have hs4 : mb_F t 4 + 1 = nI (lr_st r + 1) := by
        have : lr_st (lr_step P q ch (lr_settle P 6 r)) = lr_st r := by
          rw [← hst1]
          unfold lr_step
          generalize lr_settle P 6 r = r1
          by_cases c7 : lf_kd P (lr_tm r1) (lr_tp r1) = 7
          · rw [if_pos c7]
            cases (lr_tv r1 (lf_b P (lr_tm r1) (lr_tp r1))).1 with
            | none => rfl
            | some o =>
              show lr_st (match lf_tgt q (lr_k r1 o) (lf_c P (lr_tm r1) (lr_tp r1) / 4) with
                | none => r1
                | some t => lr_enter r1 t (lr_tv r1 (lf_b P (lr_tm r1) (lr_tp r1))) (lr_tv r1 (lf_c P (lr_tm r1) (lr_tp r1) % 4))) = _
              cases lf_tgt q (lr_k r1 o) (lf_c P (lr_tm r1) (lr_tp r1) / 4) with
              | none => rfl
              | some t => rfl
          rw [if_neg c7]
          by_cases c10 : lf_kd P (lr_tm r1) (lr_tp r1) = 10
          · rw [if_pos c10, lr_leave_st]
          rw [if_neg c10]
          by_cases c8 : lf_kd P (lr_tm r1) (lr_tp r1) = 8
          · rw [if_pos c8]; rfl
          rw [if_neg c8]
          by_cases c9 : lf_kd P (lr_tm r1) (lr_tp r1) = 9
          · rw [if_pos c9]; rfl
          rw [if_neg c9]
          exact (lr_plain_same (P := P) (r := r1)).2.2.2.1
        rw [t2.2.2.1, this, nI_1]
      rw [hs4, me_bnd, nI_1]
      have h2' : mb_F (mb_setF t 4 (nI (lr_st r + 1))) 2 = 0 := by
        show mb_F t 2 = 0
        rw [t3.1 2 (fun z => by omega)]
        show nI (lr_out P q limit (lr_settle P 6 r)) = 0
        rw [c]; rfl
      have hrn : lr_M (lr_sst (lr_step P q ch (lr_settle P 6 r)) (lr_st r + 1)) (mb_setF t 4 (nI (lr_st r + 1))) := by
        obtain ⟨z1, z2, z3, z4, z5, z6, z7, z8, z9⟩ := t2
        exact ⟨z1, z2, rfl, z4, z5, z6, z7, z8, z9⟩
      have hokn := lr_step_ok hpo hok1 htop hh ch (by rw [hst1]; omega)
      rw [hst1] at hokn
      exact ih (i + 1) n _ _ (by omega) (by omega) (t3.M hMF) hrn hokn (by show lr_st r + 1 = i + 1; omega) h2' ((hfF.tr t3.toQ).setF ⟨by decide, by decide⟩)
    · rw [if_neg (fun z => c ((pu_eq0 (by omega)).mp z)), if_neg c, me_bnd, nI_1]
      cases n with
      | zero => omega
      | succ n =>
        rw [mM_run_l82_s, pu_l200]
        unfold mM_run_b214
        rw [show mb_F (mb_setF s1 2 (nI (lr_out P q limit (lr_settle P 6 r)))) 2 = nI (lr_out P q limit (lr_settle P 6 r)) from rfl, if_neg (fun z => c ((pu_eq0 (by omega)).mp z))]
        have fin : pu_wp (some (mb_F (mb_setF s1 2 (nI (lr_out P q limit (lr_settle P 6 r)))) 4, mb_setF s1 2 (nI (lr_out P q limit (lr_settle P 6 r))))) (fun z => z.1 = nI (lr_st (lr_settle P 6 r, lr_out P q limit (lr_settle P 6 r)).1) ∧ lr_M (lr_settle P 6 r, lr_out P q limit (lr_settle P 6 r)).1 z.2 ∧ mb_F z.2 2 = nI (lr_settle P 6 r, lr_out P q limit (lr_settle P 6 r)).2 ∧ lf_frQ s0 z.2) := by
          rw [pu_some]
          exact ⟨hr1.2.2.1, hrF, rfl, hfF⟩
        by_cases c3 : nI 200 < nI (i + 1)
        · rw [if_pos c3]; exact fin
        · rw [if_neg c3]; exact fin
end RR
