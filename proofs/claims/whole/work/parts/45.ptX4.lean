def xp_L (s : mb_S) (m x o : Nat) : Prop := m < 6 ∧ x < 4 ∧ pu_b (mb_I s 11 (4 * m + x)) o = true
def xp_F (s : mb_S) (o f p : Nat) : Prop := o < 6 ∧ f < 2 ∧ pu_b (mb_I s 12 (2 * o + f)) p = true
def xp_R (s : mb_S) (m : Nat) : Prop := m < 6 ∧ pu_b (mb_F s 2) m = true
section PX4
variable {P : lf_P} {q : lf_Q} {L F : Nat → Nat → Nat → Prop} {R : Nat → Prop}
theorem lf_PC_s : lf_PC P q (fun _ _ o => ∃ c, lf_site P o c) (fun _ _ p => ∃ c, lf_site P p c) (fun _ => True) :=
  ⟨trivial, fun m k hm hk _ => ⟨fun e => ⟨lf_b P m k, m, k, hm, hk, e, rfl, rfl⟩, fun _ o h => h, fun _ o p _ h => h, fun _ o p _ h => h, fun _ o t h _ => ⟨trivial, h, fun p hp => hp, fun j p _ _ hp => hp⟩⟩⟩
theorem lf_PC_r (h : lf_PC P q L F R) : lf_PC P q (fun m x o => L m x o ∧ R m) F R := by
  refine ⟨h.1, fun m k hm hk hR => ?_⟩
  obtain ⟨h0, h4, h5, h6, h7⟩ := h.2 m k hm hk hR
  refine ⟨fun e => ⟨h0 e, hR⟩, fun e o z => ⟨h4 e o z.1, hR⟩, fun e o p z1 z2 => ⟨h5 e o p z1.1 z2, hR⟩, fun e o p z1 z2 => h6 e o p z1.1 z2.1, fun e o t z1 z2 => ?_⟩
  obtain ⟨a1, a2, a3, a4⟩ := h7 e o t z1.1 z2
  exact ⟨a1, ⟨a2, a1⟩, fun p z => ⟨a3 p z.1, a1⟩, fun j p hj hj10 z => ⟨a4 j p hj hj10 z.1, hR⟩⟩
theorem xp_closed (hpo : lf_ok P q) {s : mb_S} (hW : xp_W P q (fun _ _ o => ∃ c, lf_site P o c) (fun _ _ p => ∃ c, lf_site P p c) (fun _ => True) s) (hup : xp_up P q 6 0 s s) : lf_PC P q (xp_L s) (xp_F s) (xp_R s) := by
  refine ⟨⟨by omega, hW.2.2.2.2.2.1⟩, fun m k hm hk hR => ?_⟩
  obtain ⟨h0, h4, h5, h6, h7⟩ := hup m k hm hk (Or.inl hm) hR.2
  obtain ⟨o1, o2, o3, o4, o5, o6⟩ := hpo.2.1 _ hm _ hk
  have six : ∀ m x o, xp_L s m x o → o < 6 := fun m x o h => by
    obtain ⟨c, hs⟩ := hW.2.2.1 m x o h.1 h.2.1 h.2.2
    exact (lf_site_lt hpo hs).1
  refine ⟨fun e => ⟨hm, o3 (by omega), h0 e⟩, fun e o ho => ⟨hm, o3 (by omega), h4 e o ho.2.2⟩, fun e o p ho hp => ⟨hm, o3 (by omega), h5 e o p (six m _ o ho) ho.2.2 hp.2.2⟩, fun e o p ho hp => ⟨six m _ o ho, o5 (by omega), h6 e o p (six m _ o ho) ho.2.2 hp.2.2⟩, fun e o t ho hct => ?_⟩
  obtain ⟨z1, -, z3, z4, z5⟩ := h7 e o (six m _ o ho) ho.2.2 t hct
  obtain ⟨c, hs, htg⟩ := hct
  have hc4 := (lf_site_lt hpo hs).2
  have hc12 := o6 e
  have ht6 := lf_tgt_lt hpo hc4 (show lf_c P m k / 4 < 3 by omega) htg
  exact ⟨⟨ht6, z1⟩, ⟨ht6, by omega, z3⟩, fun p hp => ⟨ht6, by omega, z4 p hp.2.2⟩, fun j p hj hj10 hp => ⟨hm, o3 (by omega), z5 j p hj hj10 hp.2.2⟩⟩
theorem mQ_workOut_g (hpo : lf_ok P q) (hC : lf_PC P q L F R) (hS : ∀ m x o, L m x o → ∃ c, lf_site P o c) {s : mb_S} (hX : lf_X P q s) : pu_wp (mQ_workOut s) (fun z => xp_W P q L F R z.2 ∧ xp_up P q 6 0 z.2 z.2 ∧ lf_fr (fun k => k = 2 ∨ k = 3) (fun k => 11 ≤ k ∧ k ≤ 13) (fun _ => False) s z.2) := by
  unfold mQ_workOut
  rw [pu_fill, pu_fill, pu_fill, me_putF, me_putZ1, ← nI_0]
  have hf : lf_fr (fun k => k = 2 ∨ k = 3) (fun k => 11 ≤ k ∧ k ≤ 13) (fun _ => False) s (mb_setF (mb_setF (mb_filS (mb_filS (mb_filS s 11 24 (nI 0)) 12 12 (nI 0)) 13 78 (nI 0)) 2 1) 3 1) := ((((lf_fr.rf.fil ⟨by decide, by decide⟩).fil ⟨by decide, by decide⟩).fil ⟨by decide, by decide⟩).setF (Or.inl rfl)).setF (Or.inr rfl)
  have e1 : ∀ i, pu_b (1 : Int32) i = true → i = 0 := fun i z => by
    rcases Nat.lt_or_ge i 32 with h | h
    · exact (by decide +kernel : ∀ i, i < 32 → pu_b (1 : Int32) i = true → i = 0) i h z
    · rw [pu_b_big h] at z; cases z
  refine mQ_workOut_l hpo hC hS (s0 := s) 1000000 0 mb_fuel _ rfl (by unfold mb_fuel; omega) ⟨hX, Or.inr rfl, ⟨fun m x o hm hx ho => ?_, fun o f p ho hf hp => ?_, fun m z => ?_, ?_, fun m k t hm hk z => ?_⟩⟩ hf (fun _ => Nat.zero_le _) (fun z => absurd (show (1 : Int32) = 0 from z) (by decide))
  · have ho2 : pu_b (if 4 * m + x < 24 then nI 0 else mb_I s 11 (4 * m + x)) o = true := ho
    rw [if_pos (by omega), nI_0, pu_b_0] at ho2; cases ho2
  · have hp2 : pu_b (if 2 * o + f < 12 then nI 0 else mb_I s 12 (2 * o + f)) p = true := hp
    rw [if_pos (by omega), nI_0, pu_b_0] at hp2; cases hp2
  · have z2 : pu_b (1 : Int32) m = true := z
    rw [e1 m z2]; exact hC.1
  · show pu_b (1 : Int32) 0 = true
    decide +kernel
  · have hl := hpo.1 m hm
    have z2 : pu_b (if 13 * m + k < 78 then nI 0 else mb_I s 13 (13 * m + k)) t = true := z
    rw [if_pos (by omega), nI_0, pu_b_0] at z2; cases z2
theorem mQ_workOut_e (hpo : lf_ok P q) {s : mb_S} (hX : lf_X P q s) : pu_wp (mQ_workOut s) (fun z => (lf_X P q z.2 ∧ lf_fr (fun k => k = 2 ∨ k = 3) (fun k => 11 ≤ k ∧ k ≤ 13) (fun _ => False) s z.2 ∧ lf_PC P q (xp_L z.2) (xp_F z.2) (xp_R z.2) ∧ (∀ m k, m < 6 → k < lf_len P m → lf_kd P m k = 7 → xp_R z.2 m → ∀ o t, xp_L z.2 m (lf_b P m k) o → lf_ct P q o (lf_c P m k / 4) t → pu_b (mb_I z.2 13 (13 * m + k)) t = true)) ∧ ∀ A : { A : (Nat → Nat → Nat → Prop) × (Nat → Nat → Nat → Prop) × (Nat → Prop) // lf_PC P q A.1 A.2.1 A.2.2 ∧ ∀ m x o, A.1 m x o → ∃ c, lf_site P o c }, xp_Bl P q A.1.1 A.1.2.1 A.1.2.2 z.2) := by
  refine pu_all (pu_mono (mQ_workOut_g hpo lf_PC_s (fun _ _ _ h => h) hX) (fun z hz => ?_)) (fun A => pu_mono (mQ_workOut_g hpo A.2.1 A.2.2 hX) (fun z hz => hz.1.2.2))
  refine ⟨hz.1.1, hz.2.2, xp_closed hpo hz.1 hz.2.1, fun m k hm hk c7 hR o t ho hct => ?_⟩
  obtain ⟨c, hs⟩ := hz.1.2.2.1 m _ o ho.1 ho.2.1 ho.2.2
  exact ((hz.2.1 m k hm hk (Or.inl hm) hR.2).2.2.2.2 c7 o (lf_site_lt hpo hs).1 ho.2.2 t hct).2.1
end PX4
