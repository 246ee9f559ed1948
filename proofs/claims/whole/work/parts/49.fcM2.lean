section FM2
variable {P : lf_P} {q : lf_Q} {L T : Nat → Nat → Nat → Prop} {H : Nat → Nat → Nat → Nat → Prop} {Z E : Nat → Nat → Prop} {N : Nat → Prop} {s : mb_S}
theorem mM_pz_48 (hW : mf_W P q L T H Z E N s) {m p : Nat} (hm : m < 6) (hp : p < 13) (hZ : Z m p) {w : Int32} (hw : w = 0 ∨ w = 1) (h0 : w = 0 → mb_F s 1 = 0 ∧ mb_I s 11 (13 * m + p) = 1) (h1 : mb_F s 1 = 0 → w = 1 → mb_I s 11 (13 * m + p) ≠ 1) : mf_W P q L T H Z E N (mb_setI (mb_setF s 1 w) 11 (13 * m + p) 1) ∧ mf_op (fun g _ => mb_I g 11 (13 * m + p) = 1) s (mb_setI (mb_setF s 1 w) 11 (13 * m + p) 1) := by
  obtain ⟨w1, w2, w3, w4, w5, w6⟩ := hW
  have hj : 13 * m + p < 78 := by omega
  have e1 : mb_I s 11 (13 * m + p) ||| 1 = 1 := by
    rcases w4 _ hj with z | z <;> rw [z] <;> decide
  have e : mb_setI (mb_setF s 1 w) 11 (13 * m + p) 1 = mb_setF (mb_setI s 11 (13 * m + p) (mb_I s 11 (13 * m + p) ||| 1)) 1 w := by
    rw [e1]; rfl
  have hor : mb_I s 11 (13 * m + p) ||| 1 = mb_I s 11 (13 * m + p) ↔ mb_I s 11 (13 * m + p) = 1 := by
    rcases w4 _ hj with z | z <;> rw [z] <;> decide
  have hf : mf_Fr s (mb_setF (mb_setI s 11 (13 * m + p) (mb_I s 11 (13 * m + p) ||| 1)) 1 w) := (lf_fr.rf.setI (Or.inl rfl)).setF rfl
  have hop : mf_op (fun g _ => mb_I g 11 (13 * m + p) ||| 1 = mb_I g 11 (13 * m + p)) s (mb_setF (mb_setI s 11 (13 * m + p) (mb_I s 11 (13 * m + p) ||| 1)) 1 w) := eg_growI (by decide) (by decide) (by decide) hj hw (fun z => ⟨(h0 z).1, hor.mpr (h0 z).2⟩) (fun z0 z1 z2 => h1 z0 z1 (hor.mp z2)) (fun z => z) hf
  rw [e]
  refine ⟨⟨hf.M w1, hf.PT w2, hw, fun j hj => ?_, w5, ⟨w6.1, fun m' k' hm' hk' z => ?_, w6.2.2⟩⟩, mf_wk (C1 := fun g => mb_I g 11 (13 * m + p) ||| 1 = mb_I g 11 (13 * m + p)) hop (fun z => ?_)⟩
  · show upd (mb_I s 11) (13 * m + p) (mb_I s 11 (13 * m + p) ||| 1) j = 0 ∨ upd (mb_I s 11) (13 * m + p) (mb_I s 11 (13 * m + p) ||| 1) j = 1
    rw [pu_upd]
    by_cases c : j = 13 * m + p
    · rw [if_pos c, e1]; exact Or.inr rfl
    · rw [if_neg c]; exact w4 j hj
  · have z2 : upd (mb_I s 11) (13 * m + p) (mb_I s 11 (13 * m + p) ||| 1) (13 * m' + k') = 1 := z
    rw [pu_upd] at z2
    by_cases c : 13 * m' + k' = 13 * m + p
    · rw [show m' = m by omega, show k' = p by omega]; exact hZ
    · rw [if_neg c] at z2; exact w6.2.1 m' k' hm' hk' z2
  · rw [mf_11] at z ⊢; exact hor.mp z
theorem mM_putZero_e (hpo : lf_ok P q) (hW : mf_W P q L T H Z E N s) {m k : Nat} (hm : m < 6) (hk : k ≤ 13) (hZ : Z m (min k (lf_len P m))) : ∃ t, mM_putZero (nI m) (nI k) s = some ((), t) ∧ mf_W P q L T H Z E N t ∧ mf_op (fun g _ => mb_I g 11 (13 * m + min k (lf_len P m)) = 1) s t := by
  have hl := hpo.1 m hm
  have key : ∀ p, p < 13 → Z m p → ∃ t, mM_putZero_b20 (nI m) (nI p) s = some ((), t) ∧ mf_W P q L T H Z E N t ∧ mf_op (fun g _ => mb_I g 11 (13 * m + p) = 1) s t := by
    intro p hp hZp
    unfold mM_putZero_b20 mM_putZero_b43 mM_putZero_b48
    rw [me_13l]
    by_cases c : mb_F s 1 = 0
    · rw [if_pos c, me_ld (by omega) (by decide)]
      by_cases c2 : mb_I s 11 (13 * m + p) = 0
      · rw [if_pos c2, me_putZ1, me_stZ1 (by omega) (by decide)]
        exact ⟨_, rfl, mM_pz_48 hW hm hp hZp (Or.inr rfl) (fun z => absurd z (by decide)) (fun _ _ z => by rw [c2] at z; exact absurd z (by decide))⟩
      · have h1 : mb_I s 11 (13 * m + p) = 1 := by
          rcases hW.2.2.2.1 _ (show 13 * m + p < 78 by omega) with z | z
          · exact absurd z c2
          · exact z
        rw [if_neg c2, me_putZ0, me_stZ1 (by omega) (by decide)]
        exact ⟨_, rfl, mM_pz_48 hW hm hp hZp (Or.inl rfl) (fun _ => ⟨c, h1⟩) (fun _ z => absurd z (by decide))⟩
    · rw [if_neg c, me_putZ1, me_stZ1 (by omega) (by decide)]
      exact ⟨_, rfl, mM_pz_48 hW hm hp hZp (Or.inr rfl) (fun z => absurd z (by decide)) (fun z _ => absurd z c)⟩
  unfold mM_putZero
  rw [me_ld hm (by decide), hW.1.1 m hm]
  by_cases c : k ≤ lf_len P m
  · rw [Nat.min_eq_left c] at hZ ⊢
    rw [if_pos ((nI_leI (by omega) (by omega)).mpr c)]
    exact key k (by omega) hZ
  · rw [Nat.min_eq_right (by omega)] at hZ ⊢
    rw [if_neg (fun z => c ((nI_leI (by omega) (by omega)).mp z)), me_ld hm (by decide), hW.1.1 m hm]
    exact key (lf_len P m) (by omega) hZ
theorem mM_onw_d (hpo : lf_ok P q) (hW : mf_W P q L T H Z E N s) {m k e d : Nat} (hm : m < 6) (hk : k < lf_len P m) (he : e ≤ 64) (hd : d < 64) (hv : ∀ p, lf_nx P m k p → H m p e d) : ∃ t, mM_onwards (nI m) (nI k) (nI e) (nI d) s = some ((), t) ∧ mf_W P q L T H Z E N t ∧ mf_op (fun g _ => ∀ p, lf_nx P m k p → pu_c (mb_L g 0 ((13 * m + p) * 65 + e)) d = true) s t := by
  have hl := hpo.1 m hm
  obtain ⟨a1, a2, a3, a4⟩ := hW.1.2.1 _ hm _ hk
  obtain ⟨o1, o2, o3, o4, o5, o6⟩ := hpo.2.1 _ hm _ hk
  have bit : ∀ {x : Int64}, x ||| ((1 : Int64) <<< (Int32.toInt64 (nI d) &&& 63)) = x → pu_c x d = true := fun h => pl_or h (by rw [pl_1l hd]; exact decide_eq_true rfl)
  have hsing : ∀ d', pu_c ((1 : Int64) <<< (Int32.toInt64 (nI d) &&& 63)) d' = true → d' = d := fun d' z => by rw [pl_1l hd] at z; exact of_decide_eq_true z
  have n64 : ¬ nI d = (64 : Int32) := fun z => absurd ((nI_eq (by omega) (by omega)).mp (show nI d = nI 64 from z)) (by omega)
  have h69 : ∀ u, mf_W P q L T H Z E N u → ∃ t, mM_onwards_b69 (nI m) (nI k) (nI e) (nI d) (nI (lf_kd P m k)) u = some ((), t) ∧ mf_W P q L T H Z E N t ∧ mf_op (fun g _ => lf_kd P m k ≠ 9 → pu_c (mb_L g 0 ((13 * m + (k + 1)) * 65 + e)) d = true) u t := by
    intro u hu
    unfold mM_onwards_b69 mM_onwards_b107
    rw [pu_l9]
    by_cases c9 : lf_kd P m k = 9
    · rw [if_pos ((nI_eq (by omega) (by omega)).mpr c9)]
      exact ⟨u, rfl, hu, mf_rf (C := fun g => lf_kd P m k ≠ 9 → pu_c (mb_L g 0 ((13 * m + (k + 1)) * 65 + e)) d = true) hu.2.2.1 (fun z => absurd c9 z)⟩
    · rw [if_neg (fun z => c9 ((nI_eq (by omega) (by omega)).mp z)), if_neg n64, nI_1]
      have hmin : min (k + 1) (lf_len P m) = k + 1 := Nat.min_eq_left hk
      obtain ⟨t, e1, e2, e3⟩ := mM_put_e hpo hu hm (k := k + 1) (by omega) he (v := (1 : Int64) <<< (Int32.toInt64 (nI d) &&& 63)) (fun d' _ z => by rw [hsing d' z, hmin]; exact hv (k + 1) (Or.inr ⟨c9, rfl⟩))
      rw [e1, me_cal]
      refine ⟨t, rfl, e2, mf_wk e3 (fun z _ => ?_)⟩
      rw [hmin] at z
      exact bit z
  have h40 : (lf_kd P m k = 8 ∨ lf_kd P m k = 9) → ∃ t, mM_onwards_b40 (nI m) (nI k) (nI e) (nI d) (nI (lf_kd P m k)) (nI (lf_a P m k)) s = some ((), t) ∧ mf_W P q L T H Z E N t ∧ mf_op (fun g _ => ∀ p, lf_nx P m k p → pu_c (mb_L g 0 ((13 * m + p) * 65 + e)) d = true) s t := by
    intro h89
    have ha := o2 h89
    unfold mM_onwards_b40
    rw [if_neg n64]
    obtain ⟨t, e1, e2, e3⟩ := mM_put_e hpo hW hm (k := lf_a P m k) (by omega) he (v := (1 : Int64) <<< (Int32.toInt64 (nI d) &&& 63)) (fun d' _ z => by rw [hsing d' z]; exact hv _ (Or.inl ⟨h89, rfl⟩))
    rw [e1, me_cal]
    obtain ⟨u, u1, u2, u3⟩ := h69 t e2
    refine ⟨u, u1, u2, mf_wk (mf_seq e3 u3) (fun z p hp => ?_)⟩
    rcases hp with ⟨-, hp⟩ | ⟨h9, hp⟩
    · rw [hp]; exact bit z.1
    · rw [hp]; exact z.2 h9
  unfold mM_onwards
  rw [me_12, me_ld (by omega) (by decide), a1, me_ld (by omega) (by decide), a2, pu_l8]
  by_cases c8 : lf_kd P m k = 8
  · rw [if_pos ((nI_eq (by omega) (by omega)).mpr c8)]
    exact h40 (Or.inl c8)
  · rw [if_neg (fun z => c8 ((nI_eq (by omega) (by omega)).mp z)), pu_l9]
    by_cases c9 : lf_kd P m k = 9
    · rw [if_pos ((nI_eq (by omega) (by omega)).mpr c9)]
      exact h40 (Or.inr c9)
    · rw [if_neg (fun z => c9 ((nI_eq (by omega) (by omega)).mp z))]
      obtain ⟨u, u1, u2, u3⟩ := h69 s hW
      refine ⟨u, u1, u2, mf_wk u3 (fun z p hp => ?_)⟩
      rcases hp with ⟨h, -⟩ | ⟨h9, hp⟩
      · omega
      · rw [hp]; exact z h9
theorem mM_onw_z (hpo : lf_ok P q) (hW : mf_W P q L T H Z E N s) {m k : Nat} (x3 : Int32) (hm : m < 6) (hk : k < lf_len P m) (hv : ∀ p, lf_nx P m k p → Z m p) : ∃ t, mM_onwards (nI m) (nI k) x3 64 s = some ((), t) ∧ mf_W P q L T H Z E N t ∧ mf_op (fun g _ => ∀ p, lf_nx P m k p → mb_I g 11 (13 * m + p) = 1) s t := by
  have hl := hpo.1 m hm
  obtain ⟨a1, a2, a3, a4⟩ := hW.1.2.1 _ hm _ hk
  obtain ⟨o1, o2, o3, o4, o5, o6⟩ := hpo.2.1 _ hm _ hk
  have h69 : ∀ u, mf_W P q L T H Z E N u → ∃ t, mM_onwards_b69 (nI m) (nI k) x3 64 (nI (lf_kd P m k)) u = some ((), t) ∧ mf_W P q L T H Z E N t ∧ mf_op (fun g _ => lf_kd P m k ≠ 9 → mb_I g 11 (13 * m + (k + 1)) = 1) u t := by
    intro u hu
    unfold mM_onwards_b69 mM_onwards_b107
    rw [pu_l9]
    by_cases c9 : lf_kd P m k = 9
    · rw [if_pos ((nI_eq (by omega) (by omega)).mpr c9)]
      exact ⟨u, rfl, hu, mf_rf (C := fun g => lf_kd P m k ≠ 9 → mb_I g 11 (13 * m + (k + 1)) = 1) hu.2.2.1 (fun z => absurd c9 z)⟩
    · rw [if_neg (fun z => c9 ((nI_eq (by omega) (by omega)).mp z)), if_pos rfl, nI_1]
      have hmin : min (k + 1) (lf_len P m) = k + 1 := Nat.min_eq_left hk
      obtain ⟨t, e1, e2, e3⟩ := mM_putZero_e hpo hu hm (k := k + 1) (by omega) (by rw [hmin]; exact hv (k + 1) (Or.inr ⟨c9, rfl⟩))
      rw [e1, me_cal]
      refine ⟨t, rfl, e2, mf_wk e3 (fun z _ => ?_)⟩
      rw [hmin] at z
      exact z
  have h40 : (lf_kd P m k = 8 ∨ lf_kd P m k = 9) → ∃ t, mM_onwards_b40 (nI m) (nI k) x3 64 (nI (lf_kd P m k)) (nI (lf_a P m k)) s = some ((), t) ∧ mf_W P q L T H Z E N t ∧ mf_op (fun g _ => ∀ p, lf_nx P m k p → mb_I g 11 (13 * m + p) = 1) s t := by
    intro h89
    have ha := o2 h89
    unfold mM_onwards_b40
    rw [if_pos rfl]
    obtain ⟨t, e1, e2, e3⟩ := mM_putZero_e hpo hW hm (k := lf_a P m k) (by omega) (hv _ (Or.inl ⟨h89, rfl⟩))
    rw [e1, me_cal]
    obtain ⟨u, u1, u2, u3⟩ := h69 t e2
    refine ⟨u, u1, u2, mf_wk (mf_seq e3 u3) (fun z p hp => ?_)⟩
    rcases hp with ⟨-, hp⟩ | ⟨h9, hp⟩
    · rw [hp]; exact z.1
    · rw [hp]; exact z.2 h9
  unfold mM_onwards
  rw [me_12, me_ld (by omega) (by decide), a1, me_ld (by omega) (by decide), a2, pu_l8]
  by_cases c8 : lf_kd P m k = 8
  · rw [if_pos ((nI_eq (by omega) (by omega)).mpr c8)]
    exact h40 (Or.inl c8)
  · rw [if_neg (fun z => c8 ((nI_eq (by omega) (by omega)).mp z)), pu_l9]
    by_cases c9 : lf_kd P m k = 9
    · rw [if_pos ((nI_eq (by omega) (by omega)).mpr c9)]
      exact h40 (Or.inr c9)
    · rw [if_neg (fun z => c9 ((nI_eq (by omega) (by omega)).mp z))]
      obtain ⟨u, u1, u2, u3⟩ := h69 s hW
      refine ⟨u, u1, u2, mf_wk u3 (fun z p hp => ?_)⟩
      rcases hp with ⟨h, -⟩ | ⟨h9, hp⟩
      · omega
      · rw [hp]; exact z h9
end FM2
