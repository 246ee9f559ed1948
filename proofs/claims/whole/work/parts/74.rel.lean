def lf_rel (sm sx : mb_S) : Prop := ∃ (P : lf_P) (q : lf_Q), lf_ok P q ∧ lf_M P q sm ∧ lf_X P q sx ∧ mb_F sm 0 = mb_F sx 0 ∧ (mb_F sm 0 = 1 → lf_set P sm sx) ∧ ∃ o, o ≤ 5 ∧ mb_F sm 2 = nI o ∧ mb_F sx 10 = nI o ∧ (o ≠ 0 → mb_F sm 3 = mb_F sx 9 ∧ ∀ j, j < 16 → mb_I sm 13 j = mb_I sx 23 j)
def lf_both (cm cx : Option (Int32 × mb_S)) : Prop := ∃ r sm sx, cm = some (r, sm) ∧ cx = some (r, sx) ∧ lf_rel sm sx
theorem lf_rel_new {P : lf_P} {q : lf_Q} {sm sx : mb_S} (hpo : lf_ok P q) (hM : lf_M P q sm) (hX : lf_X P q sx) (m0 : mb_F sm 0 = 0) (m2 : mb_F sm 2 = 0) (x0 : mb_F sx 0 = 0) (x10 : mb_F sx 10 = 0) : lf_rel sm sx :=
  ⟨P, q, hpo, hM, hX, by rw [m0, x0], fun h => by rw [m0] at h; exact absurd h (by decide), 0, by omega, m2, x10, fun h => absurd rfl h⟩
section REL
variable {sm sx : mb_S}
theorem lf_st_add (h : lf_rel sm sx) (x1 x2 x3 x4 x5 : Int32) : lf_both (mM_add x1 x2 x3 x4 x5 sm) (mX_add x1 x2 x3 x4 x5 sx) := by
  obtain ⟨P, q, hpo, hM, hX, hF, hs, ho⟩ := h
  by_cases c : ∃ m kd a b c, lf_acc P x1 x2 x3 x4 x5 m kd a b c
  · obtain ⟨m, kd, a, b, c, ha⟩ := c
    obtain ⟨s1, e1, e2, e3, e4⟩ := mM_add_yes hM hpo ha
    obtain ⟨s2, g1, g2, g3, g4⟩ := mX_add_yes hX hpo ha
    obtain ⟨-, -, -, -, -, hm, hkd, hop, hl, ht, hc⟩ := ha
    exact ⟨_, s1, s2, e1, g1, lf_rel_new (lf_add_ok hpo hm hl ht hc hop) e2 g2 e3 e4 g3 g4⟩
  · have hn : ∀ m kd a b c, ¬ lf_acc P x1 x2 x3 x4 x5 m kd a b c := fun m kd a b c' h => c ⟨m, kd, a, b, c', h⟩
    exact ⟨_, sm, sx, mM_add_no hM hpo hn, mX_add_no hX hpo hn, P, q, hpo, hM, hX, hF, hs, ho⟩
theorem lf_st_drop (h : lf_rel sm sx) (x : Int32) : lf_both (mM_drop x sm) (mX_drop x sx) := by
  obtain ⟨P, q, hpo, hM, hX, hF, hs, ho⟩ := h
  by_cases c : ∃ m, m < 6 ∧ x = nI m ∧ 0 < lf_len P m
  · obtain ⟨m, hm, rfl, h0⟩ := c
    obtain ⟨s1, e1, e2, e3, e4⟩ := mM_drop_yes hM hpo hm h0
    obtain ⟨s2, g1, g2, g3, g4⟩ := mX_drop_yes hX hpo hm h0
    exact ⟨_, s1, s2, e1, g1, lf_rel_new (lf_drop_ok hpo hm h0) e2 g2 e3 e4 g3 g4⟩
  · have hn : ∀ m, m < 6 → x = nI m → lf_len P m = 0 := fun m hm e => by
      rcases Nat.eq_zero_or_pos (lf_len P m) with z | z
      · exact z
      · exact absurd ⟨m, hm, e, z⟩ c
    exact ⟨_, sm, sx, mM_drop_no hM hn, mX_drop_no hX hn, P, q, hpo, hM, hX, hF, hs, ho⟩
theorem lf_st_derive (h : lf_rel sm sx) (x y : Int32) : lf_both (mM_derive x y sm) (mX_derive x y sx) := by
  obtain ⟨P, q, hpo, hM, hX, hF, hs, ho⟩ := h
  by_cases c : ∃ c, c < 4 ∧ x = nI c ∧ lf_io y c
  · obtain ⟨c, hc, rfl, p, rfl, hp⟩ := c
    obtain ⟨s1, e1, e2, e3, e4⟩ := mM_derive_yes hM hc hp
    obtain ⟨s2, g1, g2, g3, g4⟩ := mX_derive_yes hX hc hp
    exact ⟨_, s1, s2, e1, g1, lf_rel_new (lf_der_ok hpo hp) e2 g2 e3 e4 g3 g4⟩
  · have hn : ∀ d, d < 4 → x = nI d → ¬ lf_io y d := fun d hd e z => c ⟨d, hd, e, z⟩
    exact ⟨_, sm, sx, mM_derive_no hn, mX_derive_no hn, P, q, hpo, hM, hX, hF, hs, ho⟩
theorem lf_st_bind (h : lf_rel sm sx) (x y z : Int32) : lf_both (mM_bind x y z sm) (mX_bind x y z sx) := by
  obtain ⟨P, q, hpo, hM, hX, hF, hs, ho⟩ := h
  by_cases c : lf_is x 4 ∧ lf_is y 3 ∧ lf_io z 6
  · obtain ⟨⟨c, hc, rfl⟩, ⟨g, hg, rfl⟩, t, rfl, ht⟩ := c
    obtain ⟨s1, e1, e2, e3, e4⟩ := mM_bind_yes hM hc hg ht
    obtain ⟨s2, g1, g2, g3, g4⟩ := mX_bind_yes hX hc hg ht
    exact ⟨_, s1, s2, e1, g1, lf_rel_new (lf_bin_ok hpo ht) e2 g2 e3 e4 g3 g4⟩
  · exact ⟨_, sm, sx, mM_bind_no c, mX_bind_no c, P, q, hpo, hM, hX, hF, hs, ho⟩
theorem lf_st_target (h : lf_rel sm sx) (x y : Int32) : lf_both (mM_target x y sm) (mX_target x y sx) := by
  have h0 := h
  obtain ⟨P, q, hpo, hM, hX, hF, hs, ho⟩ := h
  by_cases c : lf_is x 4 ∧ lf_is y 3
  · obtain ⟨⟨c, hc, rfl⟩, ⟨g, hg, rfl⟩⟩ := c
    exact ⟨_, sm, sx, mM_target_e hM hpo hc hg, mX_target_e hX hpo hc hg, h0⟩
  · exact ⟨_, sm, sx, mM_target_n c, mX_target_n c, h0⟩
theorem lf_st_size (h : lf_rel sm sx) (x : Int32) : lf_both (mM_size x sm) (mX_size x sx) := by
  have h0 := h
  obtain ⟨P, q, hpo, hM, hX, hF, hs, ho⟩ := h
  by_cases c : lf_is x 6
  · obtain ⟨m, hm, rfl⟩ := c
    exact ⟨_, sm, sx, mM_size_yes hM hm, mX_size_yes hX hm, h0⟩
  · exact ⟨_, sm, sx, mM_size_no c, mX_size_no c, h0⟩
theorem lf_st_analyse (h : lf_rel sm sx) (b : Int32) : lf_both (mM_analyse b sm) (mX_analyse b sx) := by
  obtain ⟨P, q, hpo, hM, hX, hF, hs, o, ho, h2, h10, hr⟩ := h
  obtain ⟨r, zm, zx, e1, e2, hMz, hXz, hFz, hset, fm, fx⟩ := lf_ana_e hpo hM hX b
  refine ⟨r, zm, zx, e1, e2, P, q, hpo, hMz, hXz, hFz, fun _ => hset, o, ho, ?_, ?_, fun hn => ?_⟩
  · rw [fm.1 2 (by decide)]; exact h2
  · rw [fx.1 10 (by decide)]; exact h10
  · rw [fm.1 3 (by decide), fx.1 9 (by decide), fm.2.1 13 (by decide), fx.2.1 23 (by decide)]; exact hr hn
theorem lf_st_verdict (h : lf_rel sm sx) : lf_both (mM_verdict sm) (mX_verdict sx) := by
  have h0 := h
  obtain ⟨P, q, hpo, hM, hX, hF, hs, ho⟩ := h
  refine ⟨mb_F sm 0, sm, sx, rfl, ?_, h0⟩
  rw [hF]; rfl
theorem lf_st_finding (h : lf_rel sm sx) (x y : Int32) : lf_both (mM_finding x y sm) (mX_finding x y sx) := by
  have h0 := h
  obtain ⟨P, q, hpo, hM, hX, hF, hs, ho⟩ := h
  obtain ⟨r, e1, e2⟩ := lf_find_e hpo hM hX hF hs x y
  exact ⟨r, sm, sx, e1, e2, h0⟩
theorem lf_st_may (h : lf_rel sm sx) (x y z w : Int32) : lf_both (mM_may x y z w sm) (mX_may x y z w sx) := by
  have h0 := h
  obtain ⟨P, q, hpo, hM, hX, hF, hs, ho⟩ := h
  obtain ⟨r, e1, e2⟩ := lf_may_e hpo hM hX hF hs x y z w
  exact ⟨r, sm, sx, e1, e2, h0⟩
theorem lf_st_entries (h : lf_rel sm sx) (x : Int32) : lf_both (mM_entries x sm) (mX_entries x sx) := by
  have h0 := h
  obtain ⟨P, q, hpo, hM, hX, hF, hs, ho⟩ := h
  obtain ⟨r, e1, e2⟩ := lf_entries_e hF hs x
  exact ⟨r, sm, sx, e1, e2, h0⟩
theorem lf_st_points (h : lf_rel sm sx) (x y : Int32) : lf_both (mM_points x y sm) (mX_points x y sx) := by
  have h0 := h
  obtain ⟨P, q, hpo, hM, hX, hF, hs, ho⟩ := h
  obtain ⟨r, e1, e2⟩ := lf_points_e hF hs x y
  exact ⟨r, sm, sx, e1, e2, h0⟩
theorem lf_st_cell (h : lf_rel sm sx) (x y : Int32) : lf_both (mM_cell x y sm) (mX_cell x y sx) := by
  have h0 := h
  obtain ⟨P, q, hpo, hM, hX, hF, hs, ho⟩ := h
  obtain ⟨r, e1, e2⟩ := lf_cell_e hF hs x y
  exact ⟨r, sm, sx, e1, e2, h0⟩
theorem lr_loop_le {P : lf_P} {q : lf_Q} (ch : Int32) (limit : Nat) : ∀ (n : Nat) (r : lf_R), (lr_loop P q ch limit n r).2 ≤ 5
  | 0, r => Nat.zero_le _
  | n + 1, r => by
    unfold lr_loop
    by_cases c : lr_out P q limit (lr_settle P 6 r) = 0
    · rw [if_pos c]; exact lr_loop_le ch limit n _
    · rw [if_neg c]; exact lr_out_le limit
theorem lf_st_run (h : lf_rel sm sx) (x y : Int32) : lf_both (mM_run x y sm) (mX_run x y sx) := by
  obtain ⟨P, q, hpo, hM, hX, hF, hs, -⟩ := h
  obtain ⟨⟨r1, zm⟩, e1, e2, e3, e4, e5⟩ := mM_run_e hM hpo x y
  obtain ⟨⟨r2, zx⟩, g1, g2, g3, g4, g5⟩ := mX_run_e hX hpo x y
  have e2 : r1 = nI (lr_st (lr_loop P q x (lr_lim y) 201 lr_1).1) := e2
  have g2 : r2 = nI (lr_st (lr_loop P q x (lr_lim y) 201 lr_1).1) := g2
  have e3 : lr_M (lr_loop P q x (lr_lim y) 201 lr_1).1 zm := e3
  have g3 : lr_X (lr_loop P q x (lr_lim y) 201 lr_1).1 zx := g3
  have e5 : lf_frQ sm zm := e5
  have g5 : lf_frY sx zx := g5
  refine ⟨r1, zm, zx, e1, by rw [e2, ← g2]; exact g1, P, q, hpo, hM.fr (fun k hk => e5.2.1 k (fun z => by omega)), hX.fr (fun k hk => g5.2.1 k (fun z => by omega)) (g5.1 1 (by decide)), ?_, fun h1 => ?_, (lr_loop P q x (lr_lim y) 201 lr_1).2, lr_loop_le x _ _ _, e4, g4, fun _ => ⟨?_, fun j hj => ?_⟩⟩
  · rw [e5.1 0 (by decide), g5.1 0 (by decide)]; exact hF
  · rw [e5.1 0 (by decide)] at h1
    exact (hs h1).fr (e5.2.1 7 (by decide)) (e5.2.1 8 (by decide)) (e5.2.1 11 (by decide)) (e5.2.1 12 (by decide)) (e5.2.2 0 (fun z => z)) (e5.2.2 1 (fun z => z)) (g5.2.1 11 (by decide)) (g5.2.1 12 (by decide)) (g5.2.1 14 (by decide)) (g5.2.1 16 (by decide)) (g5.2.1 17 (by decide))
  · rw [e3.2.1, g3.2.1]
  · rw [e3.2.2.2.2.2.2.2.2 j hj, g3.2.2.2.2.2.2.2.2 j hj]
theorem lf_st_outcome (h : lf_rel sm sx) : lf_both (mM_outcome sm) (mX_outcome sx) := by
  have h0 := h
  obtain ⟨P, q, hpo, hM, hX, hF, hs, o, ho, h2, h10, hr⟩ := h
  refine ⟨nI o, sm, sx, ?_, ?_, h0⟩
  · unfold mM_outcome; rw [h2]
  · unfold mX_outcome; rw [h10]
theorem lf_nI_le0 {o : Nat} (h : o < 2 ^ 31) : nI o ≤ 0 ↔ o = 0 := by
  rw [← nI_0, nI_leI h (by omega)]; omega
theorem lf_st_hits (h : lf_rel sm sx) (x y : Int32) : lf_both (mM_hits x y sm) (mX_hits x y sx) := by
  have h0 := h
  obtain ⟨P, q, hpo, hM, hX, hF, hs, o, ho, h2, h10, hr⟩ := h
  have c1 := hpo.2.2.2.1
  have c2 := hpo.2.2.2.2.1
  unfold mM_hits mX_hits mM_hits_b62 mM_hits_b63 mX_hits_b26
  rw [mM_src hM hpo, me_cal, mM_snk hM hpo, me_cal, h2, h10]
  by_cases c : o = 0
  · rw [if_pos ((lf_nI_le0 (by omega)).mpr c), if_pos ((pu_eq0 (by omega)).mpr c)]
    exact ⟨0, sm, sx, rfl, rfl, h0⟩
  · rw [if_neg (fun z => c ((lf_nI_le0 (by omega)).mp z)), if_neg (fun z => c ((pu_eq0 (by omega)).mp z))]
    rcases mM_within_m x (N := lf_cnt P 1) (by omega) with ⟨g, e⟩ | ⟨g, e⟩ <;> rcases mX_src hX hpo x with ⟨g', e'⟩ | ⟨g', e'⟩
    · rw [e, e', me_cal0, me_cal, if_neg me_10, if_neg me_10]
      rcases mM_within_m y (N := lf_cnt P 2) (by omega) with ⟨f, d⟩ | ⟨f, d⟩ <;> rcases mX_snk hX hpo y with ⟨f', d'⟩ | ⟨f', d'⟩
      · obtain ⟨a, ha, rfl⟩ := g
        obtain ⟨b, hb, rfl⟩ := f
        rw [d, d', me_cal0, me_cal, if_neg me_10, if_neg me_10, me_4, me_4r, me_ld (by omega) (by decide), me_ld (by omega) (by decide), (hr c).2 (4 * a + b) (by omega)]
        exact ⟨_, sm, sx, rfl, rfl, h0⟩
      · exact absurd f f'
      · exact absurd f' f
      · rw [d, d', me_cal0, me_cal, if_pos rfl, if_pos rfl]
        exact ⟨_, sm, sx, rfl, rfl, h0⟩
    · exact absurd g g'
    · exact absurd g' g
    · rw [e, e', me_cal0, me_cal, if_pos rfl, if_pos rfl]
      exact ⟨_, sm, sx, rfl, rfl, h0⟩
theorem lf_st_made (h : lf_rel sm sx) : lf_both (mM_made sm) (mX_made sx) := by
  have h0 := h
  obtain ⟨P, q, hpo, hM, hX, hF, hs, o, ho, h2, h10, hr⟩ := h
  unfold mM_made mX_made mM_made_b15 mX_made_b21
  rw [h2, h10]
  by_cases c : o = 0
  · rw [if_pos ((lf_nI_le0 (by omega)).mpr c), if_pos ((pu_eq0 (by omega)).mpr c)]
    exact ⟨0, sm, sx, rfl, rfl, h0⟩
  · rw [if_neg (fun z => c ((lf_nI_le0 (by omega)).mp z)), if_neg (fun z => c ((pu_eq0 (by omega)).mp z)), (hr c).1]
    exact ⟨_, sm, sx, rfl, rfl, h0⟩
def lf_P0 : lf_P := (fun _ => 0, fun _ _ => 0, fun _ _ => 0, fun _ _ => 0, fun _ _ => 0)
def lf_Q0 : lf_Q := (fun _ => none, fun _ _ => none)
end REL
