theorem pu_two {β : Type} {c : Option β} {Q1 Q2 : β → Prop} (h1 : pu_wp c Q1) (h2 : pu_wp c Q2) : pu_wp c (fun r => Q1 r ∧ Q2 r) := by
  obtain ⟨r, e, h⟩ := h1
  obtain ⟨r', e', h'⟩ := h2
  rw [e] at e'
  cases e'
  exact ⟨r, e, h, h'⟩
theorem pu_all {β : Type} {ι : Sort _} {c : Option β} {Q : β → Prop} {A : ι → β → Prop} (h : pu_wp c Q) (h2 : ∀ i, pu_wp c (A i)) : pu_wp c (fun r => Q r ∧ ∀ i, A i r) := by
  obtain ⟨r, e, hq⟩ := h
  refine ⟨r, e, hq, fun i => ?_⟩
  obtain ⟨r', e', h'⟩ := h2 i
  rw [e] at e'
  cases e'
  exact h'
def mp_L (s : mb_S) (m x o : Nat) : Prop := m < 6 ∧ x < 4 ∧ pu_b (mb_I s 7 (4 * m + x)) o = true
def mp_F (s : mb_S) (o f p : Nat) : Prop := o < 6 ∧ f < 2 ∧ pu_b (mb_I s 8 (2 * o + f)) p = true
def mp_R (s : mb_S) (m : Nat) : Prop := m < 6 ∧ mb_I s 9 m = 1
section PM5
variable {P : lf_P} {q : lf_Q} {L F : Nat → Nat → Nat → Prop} {R : Nat → Prop}
theorem lf_PC_6 (hpo : lf_ok P q) : lf_PC P q (fun _ _ o => o < 6) (fun _ _ p => p < 6) (fun _ => True) := by
  refine ⟨trivial, fun m k hm hk _ => ⟨fun e => ?_, fun _ o h => h, fun _ o p _ h => h, fun _ o p _ h => h, fun _ o t h _ => ⟨trivial, h, fun p hp => hp, fun j p _ _ hp => hp⟩⟩⟩
  have hb := lf_bef_lt P hm hk
  rw [e] at hb
  have := hpo.2.2.1
  omega
theorem mp_or {x y : Int32} (h : x ||| y = x) {o : Nat} (ho : pu_b y o = true) : pu_b x o = true := by
  rcases Nat.lt_or_ge o 32 with h1 | h1
  · exact pu_or_iff.mp h o h1 ho
  · rw [pu_b_big h1] at ho; cases ho
theorem mp_closed (hpo : lf_ok P q) {s : mb_S} (hW : mp_W P q (fun _ _ o => o < 6) (fun _ _ p => p < 6) (fun _ => True) s) (hup : mp_up P q 6 0 s) : lf_PC P q (mp_L s) (mp_F s) (mp_R s) := by
  refine ⟨⟨by omega, hW.2.2.2.2.2.2⟩, fun m k hm hk hR => ?_⟩
  obtain ⟨h0, h4, h5, h6, h7⟩ := hup m k hm hk (Or.inl hm) hR.2
  obtain ⟨o1, o2, o3, o4, o5, o6⟩ := hpo.2.1 _ hm _ hk
  refine ⟨fun e => ?_, fun e o ho => ?_, fun e o p ho hp => ?_, fun e o p ho hp => ?_, fun e o t ho hct => ?_⟩
  · have hb := lf_bef_lt P hm hk
    rw [e] at hb
    have := hpo.2.2.1
    refine ⟨hm, o3 (by omega), mp_or (h0 e) ?_⟩
    rw [pu_b_1l (by omega)]
    exact decide_eq_true rfl
  · exact ⟨hm, o3 (by omega), mp_or (h4 e) ho.2.2⟩
  · have h := hW.2.2.2.1 m _ o hm ho.2.1 ho.2.2
    exact ⟨hm, o3 (by omega), mp_or (h5 e o h ho.2.2) hp.2.2⟩
  · have h := hW.2.2.2.1 m _ o hm ho.2.1 ho.2.2
    exact ⟨h, o5 (by omega), mp_or (h6 e o h ho.2.2) hp.2.2⟩
  · have h := hW.2.2.2.1 m _ o hm ho.2.1 ho.2.2
    obtain ⟨c, hs, htg⟩ := hct
    have hc4 := (lf_site_lt hpo hs).2
    have hc12 := o6 e
    have ht6 := lf_tgt_lt hpo hc4 (show lf_c P m k / 4 < 3 by omega) htg
    obtain ⟨z1, z2, z3, z4⟩ := h7 e o t h ht6 ho.2.2 ⟨c, hs, htg⟩
    refine ⟨⟨ht6, z1⟩, ⟨ht6, by omega, mp_or z2 ?_⟩, fun p hp => ⟨ht6, by omega, mp_or z3 hp.2.2⟩, fun j p hj hj10 hp => ⟨hm, o3 (by omega), mp_or (z4 j hj hj10) hp.2.2⟩⟩
    rw [pu_b_1l (by omega)]
    exact decide_eq_true rfl
theorem mM_wp_2 (hpo : lf_ok P q) (hC : lf_PC P q L F R) {s0 : mb_S} : ∀ (d k n : Nat) (s : mb_S), k + d = 24 → d < n → lf_M P q s → mp_Fr s0 s → (∀ j, j < k → mb_I s 7 j = 0 ∧ mb_I s 8 (j / 2) = 0 ∧ mb_I s 9 (j / 4) = if j < 4 then 1 else 0) → pu_wp (mM_workPoints_l2 n (nI k) s) (fun z => mp_W P q L F R z.2 ∧ mp_up P q 6 0 z.2 ∧ mp_Fr s0 z.2) := by
  intro d
  induction d with
  | zero =>
    intro k n s hkd hn hM hf h
    obtain ⟨n, rfl⟩ : ∃ z, n = z + 1 := ⟨n - 1, by omega⟩
    rw [mM_workPoints_l2_s, pu_l24, if_pos ((nI_leI (by omega) (by omega)).mpr (by omega)), me_putZ1, ← nI_0]
    have h7 : ∀ j, j < 24 → mb_I s 7 j = 0 := fun j hj => (h j (by omega)).1
    have h8 : ∀ j, j < 12 → mb_I s 8 j = 0 := fun j hj => by
      have := (h (2 * j) (by omega)).2.1
      rw [show 2 * j / 2 = j by omega] at this
      exact this
    have h9 : ∀ j, j < 6 → mb_I s 9 j = if j = 0 then 1 else 0 := fun j hj => by
      have := (h (4 * j) (by omega)).2.2
      rw [show 4 * j / 4 = j by omega] at this
      rw [this]
      by_cases e : j = 0
      · subst e; rfl
      · rw [if_neg (by omega), if_neg e]
    refine mM_wp_55 hpo hC (s0 := s0) 100000 0 mb_fuel _ rfl (by unfold mb_fuel; omega) ⟨hM, Or.inr rfl, fun m hm => ?_, ⟨fun m x o hm hx ho => ?_, fun o f p ho hf hp => ?_, fun m hm h1 => ?_, ?_⟩⟩ (lf_fr.setF hf rfl) (fun _ => Nat.zero_le _) (fun z => absurd (show (1 : Int32) = 0 from z) (by decide))
    · show mb_I s 9 m = 0 ∨ mb_I s 9 m = 1
      rw [h9 m hm]
      by_cases e : m = 0
      · rw [if_pos e]; exact Or.inr rfl
      · rw [if_neg e]; exact Or.inl rfl
    · have ho : pu_b (mb_I s 7 (4 * m + x)) o = true := ho
      rw [h7 _ (by omega), pu_b_0] at ho; cases ho
    · have hp : pu_b (mb_I s 8 (2 * o + f)) p = true := hp
      rw [h8 _ (by omega), pu_b_0] at hp; cases hp
    · have h1 : mb_I s 9 m = 1 := h1
      rw [h9 m hm] at h1
      by_cases e : m = 0
      · rw [e]; exact hC.1
      · rw [if_neg e] at h1; exact absurd h1 (by decide)
    · show mb_I s 9 0 = 1
      rw [h9 0 (by omega)]; rfl
  | succ d ih =>
    intro k n s hkd hn hM hf h
    obtain ⟨n, rfl⟩ : ∃ z, n = z + 1 := ⟨n - 1, by omega⟩
    have d2 : nI k / (2 : Int32) = nI (k / 2) := pk_div (d := 2) (by omega) (by decide) (by decide)
    rw [mM_workPoints_l2_s, pu_l24, if_neg (fun z => absurd ((nI_leI (a := 24) (b := k) (by omega) (by omega)).mp z) (by omega)), me_stI (by omega) (by decide), d2, me_stI (by omega) (by decide), me_d4 (by omega), pu_l4]
    unfold mM_workPoints_b41
    have key : ∀ y : Int32, (y = if k < 4 then 1 else 0) → pu_wp (mM_workPoints_l2 n (nI (k + 1)) (mb_setI (mb_setI (mb_setI s 7 k 0) 8 (k / 2) 0) 9 (k / 4) y)) (fun z => mp_W P q L F R z.2 ∧ mp_up P q 6 0 z.2 ∧ mp_Fr s0 z.2) := by
      intro y hy
      refine ih (k + 1) n _ (by omega) (by omega) hM (((lf_fr.setI hf ⟨by decide, by decide⟩).setI ⟨by decide, by decide⟩).setI ⟨by decide, by decide⟩) (fun j hj => ?_)
      show upd (mb_I s 7) k 0 j = 0 ∧ upd (mb_I s 8) (k / 2) 0 (j / 2) = 0 ∧ upd (mb_I s 9) (k / 4) y (j / 4) = if j < 4 then 1 else 0
      rw [pu_upd, pu_upd, pu_upd]
      refine ⟨?_, ?_, ?_⟩
      · by_cases e : j = k
        · rw [if_pos e]
        · rw [if_neg e]; exact (h j (by omega)).1
      · by_cases e : j / 2 = k / 2
        · rw [if_pos e]
        · rw [if_neg e]; exact (h j (by omega)).2.1
      · by_cases e : j / 4 = k / 4
        · rw [if_pos e, hy]
          by_cases c : k < 4
          · rw [if_pos c, if_pos (by omega)]
          · rw [if_neg c, if_neg (by omega)]
        · rw [if_neg e]; exact (h j (by omega)).2.2
    by_cases c : 4 ≤ k
    · rw [if_pos ((nI_leI (by omega) (by omega)).mpr c), me_stZ0 (by omega) (by decide), me_bnd, nI_1]
      exact key 0 (by rw [if_neg (by omega)])
    · rw [if_neg (fun z => c ((nI_leI (by omega) (by omega)).mp z)), me_stZ1 (by omega) (by decide), me_bnd, nI_1]
      exact key 1 (by rw [if_pos (by omega)])
theorem mM_workPoints_e (hpo : lf_ok P q) {s : mb_S} (hM : lf_M P q s) : pu_wp (mM_workPoints s) (fun z => (lf_M P q z.2 ∧ mp_Fr s z.2 ∧ lf_PC P q (mp_L z.2) (mp_F z.2) (mp_R z.2) ∧ (∀ m x o, mp_L z.2 m x o → o < 6) ∧ (∀ o f p, mp_F z.2 o f p → p < 6)) ∧ ∀ A : { A : (Nat → Nat → Nat → Prop) × (Nat → Nat → Nat → Prop) × (Nat → Prop) // lf_PC P q A.1 A.2.1 A.2.2 }, mp_Bl A.1.1 A.1.2.1 A.1.2.2 z.2) := by
  unfold mM_workPoints
  rw [← nI_0]
  have go : ∀ {L F : Nat → Nat → Nat → Prop} {R : Nat → Prop}, lf_PC P q L F R → pu_wp (mM_workPoints_l2 mb_fuel (nI 0) s) (fun z => mp_W P q L F R z.2 ∧ mp_up P q 6 0 z.2 ∧ mp_Fr s z.2) := fun hC => mM_wp_2 hpo hC (s0 := s) 24 0 mb_fuel s rfl (by unfold mb_fuel; omega) hM lf_fr.rf (fun j hj => absurd hj (Nat.not_lt_zero _))
  refine pu_all (pu_mono (go (lf_PC_6 hpo)) (fun z hz => ?_)) (fun A => pu_mono (go A.2) (fun z hz => hz.1.2.2.2))
  exact ⟨hz.1.1, hz.2.2, mp_closed hpo hz.1 hz.2.1, fun m x o h => hz.1.2.2.2.1 m x o h.1 h.2.1 h.2.2, fun o f p h => hz.1.2.2.2.2.1 o f p h.1 h.2.1 h.2.2⟩
end PM5
