section FM4
variable {P : lf_P} {q : lf_Q} {L T : Nat → Nat → Nat → Prop} {H : Nat → Nat → Nat → Nat → Prop} {Z E : Nat → Nat → Prop} {N : Nat → Prop} {s : mb_S}
def mf_gv (P : lf_P) (m k e t g : Nat) (gs : mb_S) : Prop := (g = 64 → mb_I gs 12 t = 1) ∧ (g ≠ 64 → pu_c (mb_L gs 1 t) g = true) ∧ ∀ p, p ≤ lf_len P t → mf_bk P m k e t g p gs
theorem mM_gz (hW : mf_W P q L T H Z E N s) {t : Nat} (ht : t < 6) (hN : N t) {w : Int32} (hw : w = 0 ∨ w = 1) (h0 : w = 0 → mb_F s 1 = 0 ∧ mb_I s 12 t = 1) (h1 : mb_F s 1 = 0 → w = 1 → mb_I s 12 t ≠ 1) : mf_W P q L T H Z E N (mb_setI (mb_setF s 1 w) 12 t 1) ∧ mf_op (fun g _ => mb_I g 12 t = 1) s (mb_setI (mb_setF s 1 w) 12 t 1) := by
  obtain ⟨w1, w2, w3, w4, w5, w6⟩ := hW
  have e1 : mb_I s 12 t ||| 1 = 1 := by
    rcases w5 _ ht with z | z <;> rw [z] <;> decide
  have e : mb_setI (mb_setF s 1 w) 12 t 1 = mb_setF (mb_setI s 12 t (mb_I s 12 t ||| 1)) 1 w := by
    rw [e1]; rfl
  have hor : mb_I s 12 t ||| 1 = mb_I s 12 t ↔ mb_I s 12 t = 1 := by
    rcases w5 _ ht with z | z <;> rw [z] <;> decide
  have hf : mf_Fr s (mb_setF (mb_setI s 12 t (mb_I s 12 t ||| 1)) 1 w) := (lf_fr.rf.setI (Or.inr rfl)).setF rfl
  have hop : mf_op (fun g _ => mb_I g 12 t ||| 1 = mb_I g 12 t) s (mb_setF (mb_setI s 12 t (mb_I s 12 t ||| 1)) 1 w) := eg_growI (by decide) (by decide) (by decide) (by omega) hw (fun z => ⟨(h0 z).1, hor.mpr (h0 z).2⟩) (fun z0 z1 z2 => h1 z0 z1 (hor.mp z2)) (fun z => z) hf
  rw [e]
  refine ⟨⟨hf.M w1, hf.PT w2, hw, w4, fun j hj => ?_, ⟨w6.1, w6.2.1, w6.2.2.1, fun m' hm' z => ?_, ?_⟩⟩, mf_wk (C1 := fun g => mb_I g 12 t ||| 1 = mb_I g 12 t) hop (fun z => ?_)⟩
  · show upd (mb_I s 12) t (mb_I s 12 t ||| 1) j = 0 ∨ upd (mb_I s 12) t (mb_I s 12 t ||| 1) j = 1
    rw [pu_upd]
    by_cases c : j = t
    · rw [if_pos c, e1]; exact Or.inr rfl
    · rw [if_neg c]; exact w5 j hj
  · have z2 : upd (mb_I s 12) t (mb_I s 12 t ||| 1) m' = 1 := z
    rw [pu_upd] at z2
    by_cases c : m' = t
    · rw [c]; exact hN
    · rw [if_neg c] at z2; exact w6.2.2.2.1 m' hm' z2
  · show upd (mb_I s 12) t (mb_I s 12 t ||| 1) 0 = 1
    rw [pu_upd]
    by_cases c : 0 = t
    · rw [if_pos c, e1]
    · rw [if_neg c]; exact w6.2.2.2.2
  · rw [mf_12] at z ⊢; exact hor.mp z
theorem mM_give_96 (hpo : lf_ok P q) {m k e t g : Nat} (hm : m < 6) (hk : k < lf_len P m) (c7 : lf_kd P m k = 7) (he : e ≤ 64) (ht : t < 6) (hg : g ≤ 64) (hgv : lf_gv P H E N m k e t g) {s0 : mb_S} {C0 : mb_S → Prop} (hW : mf_W P q L T H Z E N s) (hop : mf_op (fun gs _ => C0 gs) s0 s) : pu_wp (mM_give_b96 (nI m) (nI k) (nI e) (nI t) (nI g) s) (fun z => mf_W P q L T H Z E N z.2 ∧ mf_op (fun gs _ => C0 gs ∧ ∀ p, p ≤ lf_len P t → mf_bk P m k e t g p gs) s0 z.2) := by
  have hl := hpo.1 m hm
  have hlt := hpo.1 t ht
  unfold mM_give_b96 mM_back
  rw [pu_cal, me_12, me_ld (by omega) (by decide), (hW.1.2.1 _ hm _ hk).2.1, ← nI_0]
  refine pu_mono (mM_back_l hpo hm hk c7 he ht hg hgv.2.2 (s0 := s) (lf_len P t + 1) 0 mb_fuel s (Nat.zero_add _) (by unfold mb_fuel; omega) hW (mf_rf (C := fun gs => ∀ p', p' < 0 → mf_bk P m k e t g p' gs) hW.2.2.1 (fun p' h => absurd h (Nat.not_lt_zero _)))) (fun z hz => ?_)
  rw [pu_some]
  exact ⟨hz.1, mf_seq hop hz.2⟩
theorem mM_give_e (hpo : lf_ok P q) {m k e t g : Nat} (hm : m < 6) (hk : k < lf_len P m) (c7 : lf_kd P m k = 7) (he : e ≤ 64) (ht : t < 6) (hg : g ≤ 64) (hgv : lf_gv P H E N m k e t g) (hW : mf_W P q L T H Z E N s) : pu_wp (mM_give (nI m) (nI k) (nI e) (nI t) (nI g) s) (fun z => mf_W P q L T H Z E N z.2 ∧ mf_op (fun gs _ => mf_gv P m k e t g gs) s z.2) := by
  unfold mM_give
  rw [pu_l64]
  by_cases c64 : g = 64
  · rw [if_pos ((nI_eq (by omega) (by omega)).mpr c64)]
    unfold mM_give_b25 mM_give_b30
    have key : ∀ w : Int32, (w = 0 ∨ w = 1) → (w = 0 → mb_F s 1 = 0 ∧ mb_I s 12 t = 1) → (mb_F s 1 = 0 → w = 1 → mb_I s 12 t ≠ 1) → pu_wp (mM_give_b96 (nI m) (nI k) (nI e) (nI t) (nI g) (mb_setI (mb_setF s 1 w) 12 t 1)) (fun z => mf_W P q L T H Z E N z.2 ∧ mf_op (fun gs _ => mf_gv P m k e t g gs) s z.2) := by
      intro w hw h0 h1
      obtain ⟨v1, v2⟩ := mM_gz hW ht (hgv.1 c64) hw h0 h1
      exact pu_mono (mM_give_96 hpo hm hk c7 he ht hg hgv v1 v2) (fun z hz => ⟨hz.1, mf_wk hz.2 (fun y => ⟨fun _ => y.1, fun h => absurd c64 h, y.2⟩)⟩)
    by_cases c : mb_F s 1 = 0
    · rw [if_pos c, me_ld ht (by decide)]
      by_cases c2 : mb_I s 12 t = 0
      · rw [if_pos c2, me_putZ1, me_stZ1 ht (by decide)]
        exact key 1 (Or.inr rfl) (fun z => absurd z (by decide)) (fun _ _ z => by rw [c2] at z; exact absurd z (by decide))
      · have h1 : mb_I s 12 t = 1 := by
          rcases hW.2.2.2.2.1 t ht with z | z
          · exact absurd z c2
          · exact z
        rw [if_neg c2, me_putZ0, me_stZ1 ht (by decide)]
        exact key 0 (Or.inl rfl) (fun _ => ⟨c, h1⟩) (fun _ z => absurd z (by decide))
    · rw [if_neg c, me_putZ1, me_stZ1 ht (by decide)]
      exact key 1 (Or.inr rfl) (fun z => absurd z (by decide)) (fun z _ => absurd z c)
  · have hg64 : g < 64 := by omega
    rw [if_neg (fun z => c64 ((nI_eq (by omega) (by omega)).mp z)), me_ldL ht (by decide), me_stL ht (by decide), show ∀ x : Int64, mb_F (mb_setL s 1 t x) 1 = mb_F s 1 from fun _ => rfl, me_ldL ht (by decide)]
    unfold mM_give_b88 mM_give_b93
    have e0 : mb_L (mb_setL s 1 t (mb_L s 1 t ||| ((1 : Int64) <<< (Int32.toInt64 (nI g) &&& 63)))) 1 t = mb_L s 1 t ||| ((1 : Int64) <<< (Int32.toInt64 (nI g) &&& 63)) := by
      rw [pu_LL, if_pos rfl, pu_updL, if_pos rfl]
    rw [e0]
    have key : ∀ w : Int32, (w = 0 ∨ w = 1) → (w = 0 → mb_F s 1 = 0 ∧ mb_L s 1 t ||| ((1 : Int64) <<< (Int32.toInt64 (nI g) &&& 63)) = mb_L s 1 t) → (mb_F s 1 = 0 → w = 1 → mb_L s 1 t ||| ((1 : Int64) <<< (Int32.toInt64 (nI g) &&& 63)) ≠ mb_L s 1 t) → pu_wp (mM_give_b96 (nI m) (nI k) (nI e) (nI t) (nI g) (mb_setF (mb_setL s 1 t (mb_L s 1 t ||| ((1 : Int64) <<< (Int32.toInt64 (nI g) &&& 63)))) 1 w)) (fun z => mf_W P q L T H Z E N z.2 ∧ mf_op (fun gs _ => mf_gv P m k e t g gs) s z.2) := by
      intro w hw h0 h1
      obtain ⟨w1, w2, w3, w4, w5, w6⟩ := hW
      have hf : mf_Fr s (mb_setF (mb_setL s 1 t (mb_L s 1 t ||| ((1 : Int64) <<< (Int32.toInt64 (nI g) &&& 63)))) 1 w) := (lf_fr.rf.setL (Or.inr rfl)).setF rfl
      have v2 : mf_op (fun gs _ => mb_L gs 1 t ||| ((1 : Int64) <<< (Int32.toInt64 (nI g) &&& 63)) = mb_L gs 1 t) s (mb_setF (mb_setL s 1 t (mb_L s 1 t ||| ((1 : Int64) <<< (Int32.toInt64 (nI g) &&& 63)))) 1 w) := eg_growL (by decide) (by decide) (by decide) (by omega) hw h0 h1 (fun z => z) hf
      have v1 : mf_W P q L T H Z E N (mb_setF (mb_setL s 1 t (mb_L s 1 t ||| ((1 : Int64) <<< (Int32.toInt64 (nI g) &&& 63)))) 1 w) := by
        refine ⟨hf.M w1, hf.PT w2, hw, w4, w5, ⟨w6.1, w6.2.1, fun m' e' hm' he' z => ?_, w6.2.2.2⟩⟩
        have z2 : pu_c (vp_updL (mb_L s 1) t (mb_L s 1 t ||| ((1 : Int64) <<< (Int32.toInt64 (nI g) &&& 63))) m') e' = true := z
        rw [pu_updL] at z2
        by_cases c : m' = t
        · rw [if_pos c, pu_c_or] at z2
          rw [c]
          rcases Bool.or_eq_true_iff.mp z2 with y | y
          · exact w6.2.2.1 t e' ht he' y
          · rw [pl_1l hg64] at y
            rw [of_decide_eq_true y]; exact hgv.2.1 c64
        · rw [if_neg c] at z2; exact w6.2.2.1 m' e' hm' he' z2
      refine pu_mono (mM_give_96 hpo hm hk c7 he ht hg hgv v1 v2) (fun z hz => ⟨hz.1, mf_wk hz.2 (fun y => ⟨fun h => absurd h c64, fun _ => pl_or y.1 ?_, y.2⟩)⟩)
      rw [pl_1l hg64]; exact decide_eq_true rfl
    by_cases c : mb_F s 1 = 0
    · rw [if_pos c]
      by_cases c2 : mb_L s 1 t ||| ((1 : Int64) <<< (Int32.toInt64 (nI g) &&& 63)) = mb_L s 1 t
      · rw [if_pos (pl_cmp.mpr c2), me_putZ0]
        exact key 0 (Or.inl rfl) (fun _ => ⟨c, c2⟩) (fun _ z => absurd z (by decide))
      · rw [if_neg (fun z => c2 (pl_cmp.mp z)), me_putZ1]
        exact key 1 (Or.inr rfl) (fun z => absurd z (by decide)) (fun _ _ => c2)
    · rw [if_neg c, me_putZ1]
      exact key 1 (Or.inr rfl) (fun z => absurd z (by decide)) (fun z _ => absurd z c)
end FM4
