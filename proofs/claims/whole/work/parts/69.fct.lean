def lf_fct (P : lf_P) (zm zx : mb_S) : Prop :=
  (∀ m k e d, m < 6 → k < 13 → e ≤ 64 → d < 64 → (pu_c (mb_L zm 0 ((13 * m + k) * 65 + e)) d = true ↔ lf_AH (mb_I zx 14) (mb_I zx 16) m k e d)) ∧
  (∀ m k, m < 6 → k < 13 → (mb_I zm 11 (13 * m + k) = 1 ↔ pu_b (mb_I zx 17 m) k = true)) ∧
  (∀ m e, m < 6 → e < 64 → (pu_c (mb_L zm 1 m) e = true ↔ pu_b (mb_I zx 16 (20 * m + e % 16)) (e / 16) = true)) ∧
  (∀ m, m < 6 → (mb_I zm 12 m = 1 ↔ pu_b (mb_I zx 17 m) 0 = true)) ∧
  (∀ j, j < 78 → mb_I zm 11 j = 0 ∨ mb_I zm 11 j = 1) ∧ (∀ j, j < 6 → mb_I zm 12 j = 0 ∨ mb_I zm 12 j = 1) ∧
  (∀ m i, m < 6 → i < 4 → ∀ j, pu_b (mb_I zx 16 (20 * m + (16 + i))) j = decide (j = i)) ∧
  (∀ m k w, m < 6 → k < 13 → w < 20 → ∀ i, 16 ≤ i → pu_b (mb_I zx 14 ((13 * m + k) * 20 + w)) i = false) ∧
  (∀ m w, m < 6 → w < 16 → ∀ i, 4 ≤ i → pu_b (mb_I zx 16 (20 * m + w)) i = false) ∧
  (∀ m, m < 6 → ∀ i, 13 ≤ i → pu_b (mb_I zx 17 m) i = false) ∧
  (∀ m k e, m < 6 → k < 13 → lf_len P m < k → e ≤ 64 → mb_L zm 0 ((13 * m + k) * 65 + e) = 0)
section FCT
variable {P : lf_P} {q : lf_Q} {L T : Nat → Nat → Nat → Prop}
theorem pu_bf {x : Int32} {i : Nat} (h : pu_b x i = true → False) : pu_b x i = false := by
  cases hb : pu_b x i with
  | false => rfl
  | true => exact (h hb).elim
theorem lf_fct_e (hpo : lf_ok P q) {s x : mb_S} (hM : lf_M P q s) (hX : lf_X P q x) (hp : lf_pts P q s x L T) : ∃ zm zx, mM_workFacts s = some ((), zm) ∧ mF_workOut x = some ((), zx) ∧ lf_M P q zm ∧ lf_X P q zx ∧ mf_Fr s zm ∧ xf_Fr x zx ∧ lf_fct P zm zx := by
  obtain ⟨p1, p2, p3, p4, p5, p6⟩ := hp
  obtain ⟨⟨⟨⟩, zm⟩, em, ⟨hMm, hfm, hCm, hkm, hzm, hb11, hb12⟩, hBm⟩ := mM_workFacts_e (L := L) (T := T) hpo hM ⟨p3, fun m k t hm hk c7 => (p5 m k t hm hk c7).1⟩
  obtain ⟨⟨⟨⟩, zx⟩, ex, ⟨hXx, hfx, hI, hCx, hB⟩, hBx⟩ := mF_workOut_e (L := L) (T := T) hpo hX ⟨fun m y o hm hy => by rw [← p1 m y hm hy]; exact p3 m y o hm hy, fun m k t hm hk c7 => (p5 m k t hm hk c7).2, p4⟩
  have hCm : lf_FC P L T (mf_H zm) (mf_Z zm) (mf_E zm) (mf_N zm) := hCm
  have hCx : lf_FC P L T (xf_H zx) (xf_Z zx) (xf_E zx) (xf_N zx) := hCx
  have bm : mf_Bl (xf_H zx) (xf_Z zx) (xf_E zx) (xf_N zx) zm := hBm ⟨(xf_H zx, xf_Z zx, xf_E zx, xf_N zx), hCx⟩
  have bx : xf_Bl P (mf_H zm) (mf_Z zm) (mf_E zm) (mf_N zm) zx := hBx ⟨(mf_H zm, mf_Z zm, mf_E zm, mf_N zm), hCm⟩
  have hI : xf_I zx := hI
  have hkm : ∀ m k e d, mf_H zm m k e d → k ≤ lf_len P m := hkm
  have hB : xf_Bl P (fun m k _ _ => k ≤ lf_len P m) (fun m k => k ≤ lf_len P m) (fun _ _ => True) (fun _ => True) zx := hB
  refine ⟨zm, zx, em, ex, hMm, hXx, hfm, hfx, fun m k e d hm hk he hd => ⟨fun h => (bm.1 m k e d hm hk he hd h).2.2.2.2, fun h => ?_⟩, fun m k hm hk => ⟨fun h => (bm.2.1 m k hm hk h).2.2, fun h => (bx.2.2.2 m k hm h).2.2.2.2⟩, fun m e hm he => ⟨fun h => (bm.2.2.1 m e hm he h).2.2, fun h => ?_⟩, fun m hm => ⟨fun h => (bm.2.2.2.1 m hm h).2, fun h => (bx.2.2.2 m 0 hm h).2.1.2⟩, hb11, hb12, hI.1, fun m k w hm hk hw i hi => pu_bf (fun h => ?_), fun m w hm hw i hi => pu_bf (fun h => ?_), fun m hm i hi => pu_bf (fun h => ?_), fun m k e hm hk hlk he => ?_⟩
  · rcases h with ⟨h1, h2⟩ | ⟨h1, h2, h3, h4⟩
    · have hh := (bx.1 m k (16 + d / 16) (d % 16) hm hk (by omega) h2).2.2 (d / 16) 64 (by omega) (Or.inr ⟨rfl, rfl⟩)
      rw [show 16 * (d / 16) + d % 16 = d by omega] at hh
      rw [h1]; exact hh.2.2.2.2
    · have hE := (bx.2.2.1 m (e % 16) (e / 16) hm (by omega) h3).2
      rw [show 16 * (e / 16) + e % 16 = e by omega] at hE
      have hh := (bx.1 m k (e % 16) (d % 16) hm hk (by omega) h4).2.2 (e / 16) e (by omega) (Or.inl ⟨by omega, by omega, hE⟩)
      rw [show 16 * (e / 16) + d % 16 = d by omega] at hh
      exact hh.2.2.2.2
  · have hE := (bx.2.2.1 m (e % 16) (e / 16) hm (by omega) h).2
    rw [show 16 * (e / 16) + e % 16 = e by omega] at hE
    exact hE.2.2
  · have := (hB.1 m k w i hm hk hw h).1
    omega
  · have := (hB.2.2.1 m w i hm hw h).1
    omega
  · have := (hB.2.2.2 m i hm h).1
    omega
  · refine pu_c_ext (fun d hd => ?_)
    rw [pu_c_0]
    cases hb : pu_c (mb_L zm 0 ((13 * m + k) * 65 + e)) d with
    | false => rfl
    | true =>
      have := hkm m k e d ⟨hm, hk, he, hd, hb⟩
      omega
end FCT
