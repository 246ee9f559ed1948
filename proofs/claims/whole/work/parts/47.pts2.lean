section PTS2
variable {P : lf_P} {q : lf_Q}
def lf_pts (P : lf_P) (q : lf_Q) (zm zx : mb_S) (L T : Nat → Nat → Nat → Prop) : Prop :=
  (∀ m x, m < 6 → x < 4 → mb_I zm 7 (4 * m + x) = mb_I zx 11 (4 * m + x)) ∧ (∀ o f, o < 6 → f < 2 → mb_I zm 8 (2 * o + f) = mb_I zx 12 (2 * o + f)) ∧
  (∀ m x o, m < 6 → x < 4 → (pu_b (mb_I zm 7 (4 * m + x)) o = true ↔ L m x o)) ∧ (∀ m x o, L m x o → o < 6) ∧
  (∀ m k t, m < 6 → k < lf_len P m → lf_kd P m k = 7 → (pu_b (mb_I zm 10 (12 * m + k)) t = true ↔ T m k t) ∧ (pu_b (mb_I zx 13 (13 * m + k)) t = true ↔ T m k t)) ∧ (∀ m k t, T m k t → t < 6)
theorem lf_pts_e (hpo : lf_ok P q) {s x : mb_S} (hM : lf_M P q s) (hX : lf_X P q x) : ∃ zp zm zx, mM_workPoints s = some ((), zp) ∧ mM_workTargets zp = some ((), zm) ∧ mQ_workOut x = some ((), zx) ∧ lf_M P q zm ∧ lf_X P q zx ∧ lf_fr (fun k => k = 1) (fun k => 7 ≤ k ∧ k ≤ 10) (fun _ => False) s zm ∧ lf_fr (fun k => k = 2 ∨ k = 3) (fun k => 11 ≤ k ∧ k ≤ 13) (fun _ => False) x zx ∧ ∃ L T, lf_pts P q zm zx L T := by
  obtain ⟨⟨⟨⟩, zp⟩, ep, ⟨hMp, hfp, hCp, hp6, hpF⟩, hBp⟩ := mM_workPoints_e hpo hM
  obtain ⟨⟨⟨⟩, zm⟩, em, hMm, hfm, htm⟩ := mM_workTargets_e hpo hMp
  obtain ⟨⟨⟨⟩, zx⟩, ex, ⟨hXx, hfx, hCx, htx⟩, hBx⟩ := mQ_workOut_e hpo hX
  have hMp : lf_M P q zp := hMp
  have hCp : lf_PC P q (mp_L zp) (mp_F zp) (mp_R zp) := hCp
  have hp6 : ∀ m x o, mp_L zp m x o → o < 6 := hp6
  have hCx : lf_PC P q (xp_L zx) (xp_F zx) (xp_R zx) := hCx
  have bs : mp_Bl _ _ _ zp := hBp ⟨(fun _ _ o => ∃ c, lf_site P o c, fun _ _ p => ∃ c, lf_site P p c, fun _ => True), lf_PC_s⟩
  have bx : mp_Bl _ _ _ zp := hBp ⟨(xp_L zx, xp_F zx, xp_R zx), hCx⟩
  have br : mp_Bl _ _ _ zp := hBp ⟨(fun m x o => mp_L zp m x o ∧ mp_R zp m, mp_F zp, mp_R zp), lf_PC_r hCp⟩
  have bm : xp_Bl P q _ _ _ zx := hBx ⟨(mp_L zp, mp_F zp, mp_R zp), hCp, fun m x o h => bs.1 m x o h.1 h.2.1 h.2.2⟩
  have e7 : mb_I zm 7 = mb_I zp 7 := hfm.2.1 7 (by decide)
  have e8 : mb_I zm 8 = mb_I zp 8 := hfm.2.1 8 (by decide)
  have beq : ∀ (a b : Int32), (∀ i, pu_b a i = true ↔ pu_b b i = true) → a = b := fun a b h => pu_b_ext (fun i _ => Bool.eq_iff_iff.mpr (h i))
  refine ⟨zp, zm, zx, ep, em, ex, hMm, hXx, ?_, hfx, mp_L zp, fun m k t => m < 6 ∧ k < lf_len P m ∧ lf_kd P m k = 7 ∧ t < 6 ∧ lf_tg P q (mp_L zp) m k t, ?_⟩
  · exact (lf_fr.wk hfp (fun _ z => z) (fun k z => by omega) (fun _ z => z)).tr (lf_fr.wk hfm (fun _ z => z.elim) (fun k z => by omega) (fun _ z => z))
  · refine ⟨fun m x hm hx => ?_, fun o f ho hf => ?_, fun m x o hm hx => ?_, hp6, fun m k t hm hk c7 => ⟨?_, ?_⟩, fun m k t h => h.2.2.2.1⟩
    · rw [e7]
      exact beq _ _ (fun i => ⟨fun z => (bx.1 m x i hm hx z).2.2, fun z => (bm.1 m x i hm hx z).2.2⟩)
    · rw [e8]
      exact beq _ _ (fun i => ⟨fun z => (bx.2.1 o f i ho hf z).2.2, fun z => (bm.2.1 o f i ho hf z).2.2⟩)
    · rw [e7]
      exact ⟨fun z => ⟨hm, hx, z⟩, fun z => z.2.2⟩
    · have hb : lf_b P m k < 4 := (hpo.2.1 m hm k hk).2.2.2.1 (by omega)
      rw [htm m k hm hk t]
      constructor
      · rintro ⟨-, ht, o, ho, hbit, hct⟩
        exact ⟨hm, hk, c7, ht, o, ⟨hm, hb, hbit⟩, hct⟩
      · rintro ⟨-, -, -, ht, o, hL, hct⟩
        exact ⟨c7, ht, o, hp6 _ _ _ hL, hL.2.2, hct⟩
    · constructor
      · intro z
        obtain ⟨h1, -⟩ := bm.2.2.2.2 m k t hm hk z
        obtain ⟨o, hL, hct⟩ := h1
        have hc := (hpo.2.1 m hm k hk).2.2.2.2.2 c7
        obtain ⟨c, hs, htg⟩ := hct
        exact ⟨hm, hk, c7, lf_tgt_lt hpo (lf_site_lt hpo hs).2 (show lf_c P m k / 4 < 3 by omega) htg, o, hL, c, hs, htg⟩
      · rintro ⟨-, -, -, ht, o, hL, hct⟩
        have hR := (br.1 m _ o hL.1 hL.2.1 hL.2.2).2
        exact htx m k hm hk c7 (bx.2.2.1 m hR.1 hR.2) o t (bx.1 m _ o hL.1 hL.2.1 hL.2.2) hct
end PTS2
