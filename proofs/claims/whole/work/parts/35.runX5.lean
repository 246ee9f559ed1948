section RX5
variable {P : lf_P} {q : lf_Q} {r : lf_R} {s : mb_S}
def lf_frY : mb_S → mb_S → Prop := lf_fr (fun k => 5 ≤ k ∧ k ≤ 10) (fun k => 18 ≤ k ∧ k ≤ 23) (fun _ => False)
theorem lf_frX.toY {s t : mb_S} (h : lf_frX s t) : lf_frY s t := h.wk (fun k z => by omega) (fun _ z => z) (fun _ z => z)
theorem lf_frY.X {P : lf_P} {q : lf_Q} {s t : mb_S} (hf : lf_frY s t) (h : lf_X P q s) : lf_X P q t := h.fr (fun k hk => hf.2.1 k (fun z => by omega)) (hf.1 1 (fun z => by omega))
theorem mA_start_loop (hpo : lf_ok P q) (ch : Int32) {L : Nat} (hL : L ≤ 200) {s0 : mb_S} :
    ∀ (e i n : Nat) (r : lf_R) (s : mb_S), i + e = 201 → e < n → lf_X P q s → lr_X r s → lr_ok P r → lr_st r = i → lr_st r ≤ L → mb_F s 10 = 0 → mb_F s 6 = ch → lf_frY s0 s →
    pu_wp (mA_start_l20 n (nI L) (nI i) s) (fun z => z.1 = nI (lr_st (lr_loop P q ch L e r).1) ∧ lr_X (lr_loop P q ch L e r).1 z.2 ∧ mb_F z.2 10 = nI (lr_loop P q ch L e r).2 ∧ lf_frY s0 z.2) := by
  intro e
  induction e with
  | zero =>
    intro i n r s hi hn hX h hok hst hsl h10 h6 hf
    obtain ⟨n, rfl⟩ : ∃ z, n = z + 1 := ⟨n - 1, by omega⟩
    rw [mA_start_l20_s, pu_l200, if_pos ((nI_ltI (by omega) (by omega)).mpr (by omega))]
    unfold mA_start_b65
    rw [pu_some]
    exact ⟨h.2.2.1, h, h10, hf⟩
  | succ e ih =>
    intro i n r s hi hn hX h hok hst hsl h10 h6 hf
    obtain ⟨n, rfl⟩ : ∃ z, n = z + 1 := ⟨n - 1, by omega⟩
    obtain ⟨s1, e1, hr1, hf1⟩ := mA_endMethods_l hpo (s0 := s) 6 0 mb_fuel r s rfl (by unfold mb_fuel; omega) hX h hok lf_fr.rf
    have hX1 := lf_frX.X hf1 hX
    have hok1 := lr_settle_ok (P := P) 6 hok
    have hst1 := lr_settle_st (P := P) 6 (r := r)
    have hend := lr_settle_end (P := P) 6 (r := r) hok.1
    have hle := lr_out_le (P := P) (q := q) (r := lr_settle P 6 r) L
    have e1 : mA_endMethods s = some ((), s1) := e1
    rw [mA_start_l20_s, pu_l200, if_neg (fun z => absurd ((nI_ltI (by omega) (by omega)).mp z) (by omega)), if_pos h10, e1, me_cal, mA_ending_e hX1 hpo hr1 hok1 hend hL (by rw [hst1]; exact hsl), me_cal, me_putF]
    rw [show mb_F (mb_setF s1 10 (nI (lr_out P q L (lr_settle P 6 r)))) 10 = nI (lr_out P q L (lr_settle P 6 r)) from rfl]
    unfold lr_loop mA_start_b59
    have hXF : lf_X P q (mb_setF s1 10 (nI (lr_out P q L (lr_settle P 6 r)))) := hX1
    have hrF : lr_X (lr_settle P 6 r) (mb_setF s1 10 (nI (lr_out P q L (lr_settle P 6 r)))) := hr1
    have hfF : lf_frY s0 (mb_setF s1 10 (nI (lr_out P q L (lr_settle P 6 r)))) := lf_fr.setF (hf.tr hf1.toY) ⟨by decide, by decide⟩
    by_cases c : lr_out P q L (lr_settle P 6 r) = 0
    · rw [if_pos ((pu_eq0 (by omega)).mpr c), if_pos c]
      have hd : ¬ lr_d (lr_settle P 6 r) = 0 := fun z => by unfold lr_out at c; rw [if_pos z] at c; omega
      have hs2 : ¬ lr_st (lr_settle P 6 r) = L := fun z => by unfold lr_out at c; rw [if_neg hd, if_pos z] at c; omega
      have hh : lr_hind P q (lr_settle P 6 r) = 0 := by unfold lr_out at c; rw [if_neg hd, if_neg hs2] at c; exact c
      have htop : lr_top P (lr_settle P 6 r) := by
        refine ⟨by omega, ?_⟩
        have h1 : lr_tp (lr_settle P 6 r) ≤ lf_len P (lr_tm (lr_settle P 6 r)) := (hok1.2.1 (lr_d (lr_settle P 6 r) - 1) (by omega)).2
        have : lr_tp (lr_settle P 6 r) ≠ lf_len P (lr_tm (lr_settle P 6 r)) := fun w => hend ⟨by omega, w⟩
        omega
      have h6F : mb_F (mb_setF s1 10 (nI (lr_out P q L (lr_settle P 6 r)))) 6 = ch := by
        show mb_F s1 6 = ch
        rw [hf1.1 6 (by decide)]; exact h6
      obtain ⟨t, t1, t2, t3⟩ := mA_step_e hXF hpo hrF hok1 htop hh h6F (by rw [hst1]; omega)
      rw [t1, me_cal, me_bnd, nI_1]
      rw [hst1] at t2
      have hokn := lr_step_ok hpo hok1 htop hh ch (by rw [hst1]; omega)
      rw [hst1] at hokn hs2
      have h10' : mb_F t 10 = 0 := by
        rw [t3.1 10 (by decide)]
        show nI (lr_out P q L (lr_settle P 6 r)) = 0
        rw [c]; rfl
      exact ih (i + 1) n _ t (by omega) (by omega) (lf_frX.X t3 hXF) t2 hokn (by show lr_st r + 1 = i + 1; omega) (by show lr_st r + 1 ≤ L; omega) h10' (by rw [t3.1 6 (by decide)]; exact h6F) (hfF.tr t3.toY)
    · rw [if_neg (fun z => c ((pu_eq0 (by omega)).mp z)), if_neg c, me_bnd, nI_1]
      cases n with
      | zero => omega
      | succ n =>
        rw [mA_start_l20_s, pu_l200]
        unfold mA_start_b65
        rw [show mb_F (mb_setF s1 10 (nI (lr_out P q L (lr_settle P 6 r)))) 10 = nI (lr_out P q L (lr_settle P 6 r)) from rfl, if_neg (fun z => c ((pu_eq0 (by omega)).mp z))]
        have fin : pu_wp (some (mb_F (mb_setF s1 10 (nI (lr_out P q L (lr_settle P 6 r)))) 8, mb_setF s1 10 (nI (lr_out P q L (lr_settle P 6 r))))) (fun z => z.1 = nI (lr_st (lr_settle P 6 r, lr_out P q L (lr_settle P 6 r)).1) ∧ lr_X (lr_settle P 6 r, lr_out P q L (lr_settle P 6 r)).1 z.2 ∧ mb_F z.2 10 = nI (lr_settle P 6 r, lr_out P q L (lr_settle P 6 r)).2 ∧ lf_frY s0 z.2) := by
          rw [pu_some]
          exact ⟨hr1.2.2.1, hrF, rfl, hfF⟩
        by_cases c3 : nI 200 < nI (i + 1)
        · rw [if_pos c3]; exact fin
        · rw [if_neg c3]; exact fin
theorem mX_run_e (hX : lf_X P q s) (hpo : lf_ok P q) (ch x : Int32) : pu_wp (mX_run ch x s) (fun z => z.1 = nI (lr_st (lr_loop P q ch (lr_lim x) 201 lr_1).1) ∧ lr_X (lr_loop P q ch (lr_lim x) 201 lr_1).1 z.2 ∧ mb_F z.2 10 = nI (lr_loop P q ch (lr_lim x) 201 lr_1).2 ∧ lf_frY s z.2) := by
  have hlim : mb_max 0 (mb_min x 200) = nI (lr_lim x) := by
    unfold mb_max lr_lim
    rcases pu_cases x with h | ⟨j, hj, rfl⟩
    · have e : mb_min x 200 = x := by
        unfold mb_min
        rw [if_neg]
        intro z
        rw [Int32.lt_iff_toInt_lt] at z h
        have h0 : (0 : Int32).toInt = 0 := by decide
        have h2 : (200 : Int32).toInt = 200 := by decide
        omega
      rw [e, if_pos h, if_neg]
      · rfl
      · intro z
        rw [Int32.lt_iff_toInt_lt] at z h
        omega
    · rw [pu_l200, me_min hj (by omega), if_neg (nI_pos hj), nI_clamp hj]
      by_cases c : 0 < min j 200
      · rw [if_pos (show (0 : Int32) < nI (min j 200) from (nI_ltI (a := 0) (by omega) (by omega)).mpr c)]
      · rw [if_neg (show ¬ (0 : Int32) < nI (min j 200) from fun z => c ((nI_ltI (a := 0) (b := min j 200) (by omega) (by omega)).mp z)), show min j 200 = 0 by omega]; rfl
  unfold mX_run mA_start mA_reset
  rw [me_bnd, hlim]
  show pu_wp (mb_cal (mb_cal (mb_cal (mA_begin 0 0 0 (mb_setF (mb_setF (mb_setF (mb_setF (mb_setF (mb_setF (mb_filS s 23 16 0) 6 ch) 7 0) 8 0) 9 0) 10 0) 5 0)) fun _u s8 => some ((), s8)) fun _u s8 => mA_start_l20 mb_fuel (nI (lr_lim x)) 0 s8) fun v1 s2 => some (v1, s2)) _
  have h0 : lr_X lr_0 (mb_setF (mb_setF (mb_setF (mb_setF (mb_setF (mb_setF (mb_filS s 23 16 0) 6 ch) 7 0) 8 0) 9 0) 10 0) 5 0) := ⟨rfl, rfl, rfl, rfl, fun i hi => absurd hi (Nat.not_lt_zero _), fun j hj => absurd hj (Nat.not_lt_zero _), fun o ho => absurd ho (Nat.not_lt_zero _), fun j hj => absurd hj (Nat.not_lt_zero _), fun j hj => by
    show (if j < 16 then (0 : Int32) else mb_I s 23 j) = nI 0
    rw [if_pos hj]; rfl⟩
  obtain ⟨t, t1, t2, t3⟩ := mA_begin_e h0 (by decide) 0 (none, 0) (none, 0)
  have hf0 : lf_frY s (mb_setF (mb_setF (mb_setF (mb_setF (mb_setF (mb_setF (mb_filS s 23 16 0) 6 ch) 7 0) 8 0) 9 0) 10 0) 5 0) := ((((((lf_fr.rf.fil ⟨by decide, by decide⟩).setF ⟨by decide, by decide⟩).setF ⟨by decide, by decide⟩).setF ⟨by decide, by decide⟩).setF ⟨by decide, by decide⟩).setF ⟨by decide, by decide⟩).setF ⟨by decide, by decide⟩
  have hft : lf_frY s t := lf_fr.tr hf0 t3.toY
  rw [show mA_begin 0 0 0 (mb_setF (mb_setF (mb_setF (mb_setF (mb_setF (mb_setF (mb_filS s 23 16 0) 6 ch) 7 0) 8 0) 9 0) 10 0) 5 0) = some ((), t) from t1, me_cal, me_cal, ← nI_0, pu_cal]
  refine pu_mono (mA_start_loop hpo ch (lr_lim_le x) (s0 := s) 201 0 mb_fuel lr_1 t rfl (by unfold mb_fuel; omega) (lf_frY.X hft hX) t2 lr_ok_1 rfl (Nat.zero_le _) ?_ ?_ hft) (fun z hz => ?_)
  · rw [t3.1 10 (by decide)]; rfl
  · rw [t3.1 6 (by decide)]; rfl
  · rw [pu_some]; exact hz
end RX5
