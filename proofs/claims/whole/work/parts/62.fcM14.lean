section FM14
variable {P : lf_P} {q : lf_Q} {L T : Nat → Nat → Nat → Prop}
theorem lf_FC_k : lf_FC P L T (fun m k _ _ => k ≤ lf_len P m) (fun m k => k ≤ lf_len P m) (fun _ _ => True) (fun _ => True) := by
  have nx : ∀ m k p, k < lf_len P m → lf_nx P m k p → p ≤ lf_len P m := fun m k p hk hp => by
    rcases hp with ⟨-, hp⟩ | ⟨-, hp⟩
    · rw [hp]; exact Nat.min_le_right _ _
    · omega
  have gv : ∀ m k e t g, k < lf_len P m → lf_gv P (fun m k _ _ => k ≤ lf_len P m) (fun _ _ => True) (fun _ => True) m k e t g := fun m k e t g hk => ⟨fun _ => trivial, fun _ => trivial, fun _ _ _ _ _ => ⟨fun _ _ => hk, fun _ _ _ => hk⟩⟩
  exact ⟨trivial, fun m _ _ => Nat.zero_le _, fun m e _ _ _ => Nat.zero_le _, fun m k hm hk _ _ => ⟨fun _ _ p hp => ⟨nx m k p hk hp, fun _ => nx m k p hk hp⟩, fun _ => ⟨hk, fun t _ _ => gv m k 64 t 64 hk⟩⟩, fun m k e d hm hk _ _ _ _ _ => ⟨fun _ _ d' p _ hp => nx m k p hk hp, fun _ => ⟨fun _ _ => hk, fun t _ _ => ⟨fun _ => gv m k e t _ hk, fun _ => gv m k e t _ hk, fun _ => gv m k e t _ hk⟩⟩⟩⟩
theorem mM_workFacts_e (hpo : lf_ok P q) {s : mb_S} (hM : lf_M P q s) (hPT : mf_PT P L T s) : pu_wp (mM_workFacts s) (fun z => (lf_M P q z.2 ∧ mf_Fr s z.2 ∧ lf_FC P L T (mf_H z.2) (mf_Z z.2) (mf_E z.2) (mf_N z.2) ∧ (∀ m k e d, mf_H z.2 m k e d → k ≤ lf_len P m) ∧ (∀ m k, mf_Z z.2 m k → k ≤ lf_len P m) ∧ (∀ j, j < 78 → mb_I z.2 11 j = 0 ∨ mb_I z.2 11 j = 1) ∧ (∀ j, j < 6 → mb_I z.2 12 j = 0 ∨ mb_I z.2 12 j = 1)) ∧ ∀ A : { A : (Nat → Nat → Nat → Nat → Prop) × (Nat → Nat → Prop) × (Nat → Nat → Prop) × (Nat → Prop) // lf_FC P L T A.1 A.2.1 A.2.2.1 A.2.2.2 }, mf_Bl A.1.1 A.1.2.1 A.1.2.2.1 A.1.2.2.2 z.2) := by
  refine pu_all (pu_mono (mM_workFacts_g hpo lf_FC_k hM hPT) (fun z hz => ?_)) (fun A => pu_mono (mM_workFacts_g hpo A.2 hM hPT) (fun z hz => hz.1.2.2.2.2.2))
  exact ⟨hz.1.1, hz.2.2, mf_closed hpo hz.1.2.2.2.2.2.2.2.2.2 hz.2.1, fun m k e d h => hz.1.2.2.2.2.2.1 m k e d h.1 h.2.1 h.2.2.1 h.2.2.2.1 h.2.2.2.2, fun m k h => hz.1.2.2.2.2.2.2.1 m k h.1 h.2.1 h.2.2, hz.1.2.2.2.1, hz.1.2.2.2.2.1⟩
end FM14
