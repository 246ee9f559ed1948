def xf_H (s : mb_S) (m k e d : Nat) : Prop := m < 6 ∧ k < 13 ∧ e ≤ 64 ∧ d < 64 ∧ lf_AH (mb_I s 14) (mb_I s 16) m k e d
def xf_Z (s : mb_S) (m k : Nat) : Prop := m < 6 ∧ k < 13 ∧ pu_b (mb_I s 17 m) k = true
def xf_E (s : mb_S) (m e : Nat) : Prop := m < 6 ∧ e < 64 ∧ pu_b (mb_I s 16 (20 * m + e % 16)) (e / 16) = true
def xf_N (s : mb_S) (m : Nat) : Prop := m < 6 ∧ pu_b (mb_I s 17 m) 0 = true
section FX6
variable {P : lf_P} {q : lf_Q} {L T : Nat → Nat → Nat → Prop}
theorem xf_md {s : mb_S} (hI : xf_I s) {m k e d : Nat} (hm : m < 6) (hd : d < 64) (h : lf_AH (mb_I s 14) (mb_I s 16) m k e d) : ∃ w, w < 20 ∧ pu_b (mb_I s 14 ((13 * m + k) * 20 + w)) (d % 16) = true ∧ pu_b (mb_I s 16 (20 * m + w)) (d / 16) = true ∧ ∀ k' d', d' / 16 = d / 16 → pu_b (mb_I s 14 ((13 * m + k') * 20 + w)) (d' % 16) = true → lf_AH (mb_I s 14) (mb_I s 16) m k' e d' := by
  rcases h with ⟨h1, h2⟩ | ⟨h1, h2, h3, h4⟩
  · refine ⟨16 + d / 16, by omega, h2, ?_, fun k' d' hd' hb => Or.inl ⟨h1, by rw [hd']; exact hb⟩⟩
    rw [hI.1 m (d / 16) hm (by omega)]; exact decide_eq_true rfl
  · refine ⟨e % 16, by omega, h4, by rw [← h2]; exact h3, fun k' d' hd' hb => Or.inr ⟨h1, by omega, h3, hb⟩⟩
theorem xf_gv_cl (hpo : lf_ok P q) {s : mb_S} (hup : ∀ m, m < 6 → xf_mt P L T m s) {m k e t w g w' : Nat} (hm : m < 6) (hk : k < lf_len P m) (ha : lf_a P m k < 4) (he : e ≤ 64) (ht : t < 6) (hg0 : g = 64 → xf_N s t) (hg1 : g ≠ 64 → xf_E s t g)
    (hw' : w' < 20) (hcb : xf_cb P m k w (mb_I s 15 (20 * t + w')) s) (sl : Nat) (hin : ∀ p d, d / 16 = sl → lf_AH (mb_I s 14) (mb_I s 16) t p g d → pu_b (mb_I s 14 ((13 * t + p) * 20 + w')) (d % 16) = true) (hsl : ∀ p d, lf_AH (mb_I s 14) (mb_I s 16) t p g d → d / 16 = sl)
    (hout : ∀ d', d' / 16 = sl → d' < 64 → pu_b (mb_I s 14 ((13 * m + (k + 1)) * 20 + w)) (d' % 16) = true → lf_AH (mb_I s 14) (mb_I s 16) m (k + 1) e d') : lf_gv P (xf_H s) (xf_E s) (xf_N s) m k e t g := by
  have hl := hpo.1 m hm
  refine ⟨hg0, hg1, fun p d hp hd hH => ⟨fun h1 h2 => ?_, fun h1 h2 h3 => ?_⟩⟩
  · have hs := hsl p d hH.2.2.2.2
    have hb := hin p d hs hH.2.2.2.2
    refine ⟨hm, by omega, he, hd, hout d hs hd (hcb.1 (d % 16) h2 (by omega) ?_)⟩
    by_cases c : p = lf_len P t
    · rw [c] at hb
      exact (hup t ht).2 w' hw' (d % 16) h2 (by omega) hb
    · have hpl : p < lf_len P t := by omega
      have h10 : lf_kd P t p = 10 := h1.elim (fun z => absurd z c) id
      exact (((hup t ht).1 p hpl).2 w' hw').2.1 h10 |>.1 (d % 16) h2 (by omega) hb
  · have hs := hsl p d hH.2.2.2.2
    have hb := hin p d hs hH.2.2.2.2
    have hx := ((((hup t ht).1 p h1).2 w' hw').2.1 h2).2 (by rw [← h3]; exact hb)
    have e1 : (d - d % 16 + lf_a P m k) / 16 = sl := by omega
    have e2 : (d - d % 16 + lf_a P m k) % 16 = lf_a P m k := by omega
    refine ⟨hm, by omega, he, by omega, hout _ e1 (by omega) ?_⟩
    rw [e2]; exact hcb.2 hx
theorem xf_closed (hpo : lf_ok P q) {s : mb_S} (hI : xf_I s) (hb13 : ∀ m i, m < 6 → pu_b (mb_I s 17 m) i = true → i < 13) (hh16 : ∀ m k w i, m < 6 → k < 13 → w < 20 → pu_b (mb_I s 14 ((13 * m + k) * 20 + w)) i = true → i < 16) (hl4 : ∀ m w i, m < 6 → w < 16 → pu_b (mb_I s 16 (20 * m + w)) i = true → i < 4) (hup : ∀ m, m < 6 → xf_mt P L T m s) : lf_FC P L T (xf_H s) (xf_Z s) (xf_E s) (xf_N s) := by
  have nx13 : ∀ m k p, m < 6 → k < lf_len P m → lf_nx P m k p → p < 13 := fun m k p hm hk hp => by
    have hl := hpo.1 m hm
    rcases hp with ⟨-, hp⟩ | ⟨-, hp⟩
    · have := Nat.min_le_right (lf_a P m k) (lf_len P m); omega
    · omega
  refine ⟨⟨by omega, hI.2.2⟩, fun m hm hN => ⟨hm, by omega, hN.2⟩, fun m e hm he hE => ?_, fun m k hm hk hN hZ => ?_, fun m k e d hm hk he hd hN hE hH => ?_⟩
  · exact ⟨hm, by omega, by omega, he, Or.inr ⟨he, rfl, hE.2.2, hI.2.1 m (e % 16) (e / 16) hm (by omega) hE.2.2⟩⟩
  · have hl := hpo.1 m hm
    have hz := ((hup m hm).1 k hk).1 hZ.2.2
    refine ⟨fun n7 n10 p hp => ⟨⟨hm, nx13 m k p hm hk hp, ?_⟩, fun c1 => ?_⟩, fun c7 => ⟨⟨hm, by omega, (hz (by omega)).1 (by omega)⟩, fun t ht hT => ?_⟩⟩
    · rcases hp with ⟨h1, h2⟩ | ⟨h1, h2⟩
      · rw [h2]; exact (hz n10).2.1 h1
      · rw [h2]; exact (hz n10).1 h1
    · have hbl := lf_bef_lt P hm hk
      rw [c1] at hbl
      have h4 := hpo.2.2.2.1
      have ha : lf_a P m k < 4 := (hpo.2.1 _ hm _ hk).2.2.1 (by omega)
      have hp1 : p = k + 1 := by
        rcases hp with ⟨h1, h2⟩ | ⟨h1, h2⟩
        · omega
        · exact h2
      have e1 : (16 * lf_bef P 1 m k + lf_a P m k) / 16 = lf_bef P 1 m k := by omega
      have e2 : (16 * lf_bef P 1 m k + lf_a P m k) % 16 = lf_a P m k := by omega
      refine ⟨hm, nx13 m k p hm hk hp, by omega, by omega, Or.inl ⟨rfl, ?_⟩⟩
      rw [e1, e2, hp1]; exact (hz n10).2.2.1 c1
    · have ha : lf_a P m k < 4 := (hpo.2.1 _ hm _ hk).2.2.1 (by omega)
      have hzt := (hz (by omega)).2.2.2 c7 t ht hT
      have gen : ∀ sl, sl < 4 → ∀ p d, d < 64 → d / 16 = sl → p ≤ lf_len P t → xf_H s t p 64 d → ((p = lf_len P t ∨ lf_kd P t p = 10) → 4 ≤ d % 16 → xf_H s m (k + 1) 64 d) ∧ (p < lf_len P t → lf_kd P t p = 10 → d % 16 = lf_a P t p → xf_H s m (k + 1) 64 (d - d % 16 + lf_a P m k)) := by
        intro sl hsl p d hd hds hp hH
        have hcb := hzt.2 (16 + sl) (by omega) (by omega)
        have hbit : pu_b (mb_I s 14 ((13 * t + p) * 20 + (16 + sl))) (d % 16) = true := by
          rcases hH.2.2.2.2 with ⟨-, h⟩ | ⟨h, -⟩
          · rw [hds] at h; exact h
          · omega
        have lift : ∀ d', d' < 64 → d' / 16 = sl → pu_b (mb_I s 14 ((13 * m + (k + 1)) * 20 + (16 + sl))) (d' % 16) = true → xf_H s m (k + 1) 64 d' := fun d' h1 h2 h3 => ⟨hm, by omega, by omega, h1, Or.inl ⟨rfl, by rw [h2]; exact h3⟩⟩
        refine ⟨fun h1 h2 => lift d hd hds (hcb.1 (d % 16) h2 (by omega) ?_), fun h1 h2 h3 => lift _ (by omega) (by omega) ?_⟩
        · by_cases c : p = lf_len P t
          · rw [c] at hbit
            exact (hup t ht).2 (16 + sl) (by omega) (d % 16) h2 (by omega) hbit
          · exact ((((hup t ht).1 p (by omega)).2 (16 + sl) (by omega)).2.1 (h1.elim (fun z => absurd z c) id)).1 (d % 16) h2 (by omega) hbit
        · rw [show (d - d % 16 + lf_a P m k) % 16 = lf_a P m k by omega]
          refine hcb.2 (((((hup t ht).1 p h1).2 (16 + sl) (by omega)).2.1 h2).2 ?_)
          rw [← h3]; exact hbit
      exact ⟨fun _ => ⟨ht, hzt.1⟩, fun h => absurd rfl h, fun p d hp hd hH => gen (d / 16) (by omega) p d hd rfl hp hH⟩
  · have hl := hpo.1 m hm
    have o := hpo.2.1 _ hm _ hk
    obtain ⟨w, hw, hbit, hlab, lift⟩ := xf_md hI hm hd hH.2.2.2.2
    have hps := ((hup m hm).1 k hk).2 w hw
    refine ⟨fun n7 n10 d' p htr hp => ?_, fun c7 => ?_⟩
    · have htr2 : lf_tr P L m k (16 * (d / 16) + d % 16) d' := by rw [show 16 * (d / 16) + d % 16 = d by omega]; exact htr
      obtain ⟨j, hj, hd'⟩ := (xf_tr_iff (d / 16) (show d % 16 < 16 by omega)).mp htr2
      have hbj := hps.2.2 n7 n10 (d % 16) j p hbit hj hp
      have hp13 := nx13 m k p hm hk hp
      have hj16 := hh16 m p w j hm hp13 hw hbj
      refine ⟨hm, hp13, he, by omega, lift p d' (by omega) ?_⟩
      rw [show d' % 16 = j by omega]; exact hbj
    · have ha : lf_a P m k < 4 := o.2.2.1 (by omega)
      have hcl := hps.1 c7
      refine ⟨fun h1 h2 => ⟨hm, by omega, he, hd, lift (k + 1) d rfl (hcl.1 (d % 16) h1 hbit h2)⟩, fun t ht hT => ?_⟩
      have gen : ∀ j, j < 16 → xf_gn P m k (mb_I s 14 ((13 * m + k) * 20 + w)) j → lf_gv P (xf_H s) (xf_E s) (xf_N s) m k e t (16 * (d / 16) + j) := by
        intro j hj16 hj
        obtain ⟨g1, g2⟩ := hcl.2 t ht hT j hj
        have e1 : (16 * (d / 16) + j) % 16 = j := by omega
        have e2 : (16 * (d / 16) + j) / 16 = d / 16 := by omega
        refine xf_gv_cl hpo hup hm hk ha he ht (fun h => by omega) (fun _ => ⟨ht, by omega, ?_⟩) (w := w) (w' := j) (by omega) g2 (d / 16) (fun p d2 hd2 h => ?_) (fun p d2 h => ?_) (fun d' h1 h2 h3 => lift (k + 1) d' h1 h3)
        · rw [e1, e2]; exact g1 (d / 16) hlab
        · rcases h with ⟨h, -⟩ | ⟨-, -, -, h⟩
          · omega
          · rw [e1] at h; exact h
        · rcases h with ⟨h, -⟩ | ⟨-, h, -, -⟩
          · omega
          · rw [e2] at h; exact h.symm
      refine ⟨fun h4 => ?_, fun hb => ?_, fun hc => ?_⟩
      · have := gen (d % 16) (by omega) (Or.inl ⟨h4, by omega, hbit⟩)
        rw [show 16 * (d / 16) + d % 16 = d by omega] at this
        exact this
      · have := gen 0 (by omega) (Or.inr (Or.inl ⟨rfl, by rw [← hb]; exact hbit⟩))
        rw [show 16 * (d / 16) + 0 = d - d % 16 by omega] at this
        exact this
      · have := gen 1 (by omega) (Or.inr (Or.inr ⟨rfl, by rw [← hc]; exact hbit⟩))
        rw [show 16 * (d / 16) + 1 = d - d % 16 + 1 by omega] at this
        exact this
theorem mF_workOut_e (hpo : lf_ok P q) {s : mb_S} (hX : lf_X P q s) (hPT : xf_PT P L T s) : pu_wp (mF_workOut s) (fun z => (lf_X P q z.2 ∧ xf_Fr s z.2 ∧ xf_I z.2 ∧ lf_FC P L T (xf_H z.2) (xf_Z z.2) (xf_E z.2) (xf_N z.2) ∧ xf_Bl P (fun m k _ _ => k ≤ lf_len P m) (fun m k => k ≤ lf_len P m) (fun _ _ => True) (fun _ => True) z.2) ∧ ∀ A : { A : (Nat → Nat → Nat → Nat → Prop) × (Nat → Nat → Prop) × (Nat → Nat → Prop) × (Nat → Prop) // lf_FC P L T A.1 A.2.1 A.2.2.1 A.2.2.2 }, xf_Bl P A.1.1 A.1.2.1 A.1.2.2.1 A.1.2.2.2 z.2) := by
  refine pu_all (pu_mono (mF_workOut_g hpo lf_FC_k hX hPT) (fun z hz => ?_)) (fun A => pu_mono (mF_workOut_g hpo A.2 hX hPT) (fun z hz => hz.1.2.2.2.2))
  obtain ⟨⟨h1, -, -, hI, hB⟩, h2, h3⟩ := hz
  refine ⟨h1, h3, hI, xf_closed hpo hI (fun m i hm hi => (hB.2.2.2 m i hm hi).1) (fun m k w i hm hk hw hi => (hB.1 m k w i hm hk hw hi).1) (fun m w i hm hw hi => (hB.2.2.1 m w i hm hw hi).1) (fun m hm => ?_), hB⟩
  have h := h2 m hm
  unfold xf_mt xf_pl xf_en xf_ps xf_pz xf_cl xf_zt xf_cb at h ⊢
  simp only [xf_14, xf_15, xf_16, xf_17] at h
  exact h
end FX6
