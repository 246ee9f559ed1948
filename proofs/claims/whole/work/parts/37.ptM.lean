def mp_K0 (_ : Nat) : Bool := false
def mp_KI (a : Nat) : Bool := decide (7 ≤ a ∧ a ≤ 9)
def mp_Fr : mb_S → mb_S → Prop := lf_fr (fun k => k = 1) (fun k => 7 ≤ k ∧ k ≤ 9) (fun _ => False)
def mp_op (C : mb_S → mb_S → Prop) (s t : mb_S) : Prop := en_op (fun s => mb_F s 1) (eg_sg mp_K0 mp_KI mp_K0) (eg_mu 24 0) (fun _ => True) mp_Fr C s t
def mp_Bl (L F : Nat → Nat → Nat → Prop) (R : Nat → Prop) (s : mb_S) : Prop := (∀ m x o, m < 6 → x < 4 → pu_b (mb_I s 7 (4 * m + x)) o = true → L m x o) ∧ (∀ o f p, o < 6 → f < 2 → pu_b (mb_I s 8 (2 * o + f)) p = true → F o f p) ∧ (∀ m, m < 6 → mb_I s 9 m = 1 → R m) ∧ mb_I s 9 0 = 1
def mp_W (P : lf_P) (q : lf_Q) (L F : Nat → Nat → Nat → Prop) (R : Nat → Prop) (s : mb_S) : Prop := lf_M P q s ∧ (mb_F s 1 = 0 ∨ mb_F s 1 = 1) ∧ (∀ m, m < 6 → mb_I s 9 m = 0 ∨ mb_I s 9 m = 1) ∧ mp_Bl L F R s
theorem mp_Fr.tr {a b c : mb_S} (h : mp_Fr a b) (h' : mp_Fr b c) : mp_Fr a c := lf_fr.tr h h'
theorem mp_Fr.M {P : lf_P} {q : lf_Q} {s t : mb_S} (hf : mp_Fr s t) (h : lf_M P q s) : lf_M P q t := h.fr (fun k hk => hf.2.1 k (fun z => by omega))
section PM
variable {P : lf_P} {q : lf_Q} {L F : Nat → Nat → Nat → Prop} {R : Nat → Prop} {s t u : mb_S} {C C1 C2 : mb_S → Prop}
theorem mp_rf (h : mb_F s 1 = 0 ∨ mb_F s 1 = 1) (hC : C (eg_sg mp_K0 mp_KI mp_K0 s)) : mp_op (fun g _ => C g) s s := en_rf (C := fun g _ => C g) lf_fr.rf h hC
theorem mp_wk (h : mp_op (fun g _ => C1 g) s t) (hw : C1 (eg_sg mp_K0 mp_KI mp_K0 s) → C2 (eg_sg mp_K0 mp_KI mp_K0 s)) : mp_op (fun g _ => C2 g) s t := en_wk (C1 := fun g _ => C1 g) (C2 := fun g _ => C2 g) h hw
theorem mp_seq (h1 : mp_op (fun g _ => C1 g) s t) (h2 : mp_op (fun g _ => C2 g) t u) : mp_op (fun g _ => C1 g ∧ C2 g) s u := en_seq (C1 := fun g _ => C1 g) (C2 := fun g _ => C2 g) (fun _ _ _ a b => mp_Fr.tr a b) (fun _ _ _ _ h => h) h1 h2
theorem mp_7 : mb_I (eg_sg mp_K0 mp_KI mp_K0 s) 7 = mb_I s 7 := eg_I (by decide)
theorem mp_8 : mb_I (eg_sg mp_K0 mp_KI mp_K0 s) 8 = mb_I s 8 := eg_I (by decide)
theorem mp_9 : mb_I (eg_sg mp_K0 mp_KI mp_K0 s) 9 = mb_I s 9 := eg_I (by decide)
theorem mM_grow_e (hW : mp_W P q L F R s) {m x : Nat} (hm : m < 6) (hx : x < 4) {v : Int32} (hv : ∀ o, pu_b v o = true → L m x o) : ∃ t, mM_grow (nI m) (nI x) v s = some ((), t) ∧ mp_W P q L F R t ∧ mp_op (fun g _ => mb_I g 7 (4 * m + x) ||| v = mb_I g 7 (4 * m + x)) s t := by
  obtain ⟨w1, w2, w3, w4⟩ := hW
  have key : ∀ w : Int32, (w = 0 ∨ w = 1) → (w = 0 → mb_F s 1 = 0 ∧ mb_I s 7 (4 * m + x) ||| v = mb_I s 7 (4 * m + x)) → (mb_F s 1 = 0 → w = 1 → mb_I s 7 (4 * m + x) ||| v ≠ mb_I s 7 (4 * m + x)) → ∃ t, some ((), mb_setF (mb_setI s 7 (4 * m + x) (mb_I s 7 (4 * m + x) ||| v)) 1 w) = some ((), t) ∧ mp_W P q L F R t ∧ mp_op (fun g _ => mb_I g 7 (4 * m + x) ||| v = mb_I g 7 (4 * m + x)) s t := by
    intro w hw h0 h1
    have hf : mp_Fr s (mb_setF (mb_setI s 7 (4 * m + x) (mb_I s 7 (4 * m + x) ||| v)) 1 w) := (lf_fr.rf.setI ⟨by decide, by decide⟩).setF rfl
    refine ⟨_, rfl, ⟨hf.M w1, hw, w3, ⟨fun m' x' o hm' hx' ho => ?_, w4.2.1, w4.2.2⟩⟩, eg_growI (by decide) (by decide) (by decide) (by omega) hw h0 h1 (fun z => z) hf⟩
    have ho : pu_b (upd (mb_I s 7) (4 * m + x) (mb_I s 7 (4 * m + x) ||| v) (4 * m' + x')) o = true := ho
    rw [pu_upd] at ho
    by_cases e : 4 * m' + x' = 4 * m + x
    · rw [if_pos e, pu_b_or] at ho
      have e1 : m' = m := by omega
      have e2 : x' = x := by omega
      subst e1; subst e2
      rcases Bool.or_eq_true_iff.mp ho with z | z
      · exact w4.1 m' x' o hm' hx' z
      · exact hv o z
    · rw [if_neg e] at ho
      exact w4.1 m' x' o hm' hx' ho
  unfold mM_grow mM_grow_b43 mM_grow_b48
  rw [me_4, me_ld (by omega) (by decide), me_stI (by omega) (by decide), show mb_F (mb_setI s 7 (4 * m + x) (mb_I s 7 (4 * m + x) ||| v)) 1 = mb_F s 1 from rfl]
  by_cases c : mb_F s 1 = 0
  · rw [if_pos c]
    by_cases c2 : mb_I s 7 (4 * m + x) ||| v = mb_I s 7 (4 * m + x)
    · rw [if_pos c2, me_putZ0]
      exact key 0 (Or.inl rfl) (fun _ => ⟨c, c2⟩) (fun _ z => absurd z (by decide))
    · rw [if_neg c2, me_putZ1]
      exact key 1 (Or.inr rfl) (fun z => absurd z (by decide)) (fun _ _ => c2)
  · rw [if_neg c, me_putZ1]
    exact key 1 (Or.inr rfl) (fun z => absurd z (by decide)) (fun z _ => absurd z c)
theorem mM_calls_e (hM : lf_M P q s) (hpo : lf_ok P q) {m k : Nat} (hm : m < 6) (hk : k < lf_len P m) (c7 : lf_kd P m k = 7) {o : Nat} (ho : o < 6) {t : Nat} (ht : t < 6) : ((pu_b (mb_I s 7 (4 * m + lf_b P m k)) o = true ∧ lf_ct P q o (lf_c P m k / 4) t) ∧ mM_calls (nI (12 * m + k)) (nI o) (nI t) s = some (1, s)) ∨ (¬ (pu_b (mb_I s 7 (4 * m + lf_b P m k)) o = true ∧ lf_ct P q o (lf_c P m k / 4) t) ∧ mM_calls (nI (12 * m + k)) (nI o) (nI t) s = some (0, s)) := by
  have hl := hpo.1 _ hm
  obtain ⟨a1, a2, a3, a4⟩ := hM.2.1 _ hm _ hk
  obtain ⟨o1, o2, o3, o4, o5, o6⟩ := hpo.2.1 _ hm _ hk
  have hb := o4 (by omega)
  have hc := o6 c7
  unfold mM_calls mM_calls_b61
  rw [me_ld (by omega) (by decide), a3, me_d12 (by omega), show (12 * m + k) / 12 = m by omega, me_4, me_ld (by omega) (by decide), pu_b_shr (show o < 32 by omega)]
  cases hbit : pu_b (mb_I s 7 (4 * m + lf_b P m k)) o with
  | false =>
    rw [if_neg (show ¬ false = true by decide), if_pos rfl]
    exact Or.inr ⟨fun z => absurd z.1 (by decide), me_rZ0⟩
  | true =>
    rw [if_pos rfl, if_neg me_10]
    obtain ⟨z, e1, e2⟩ := mM_classOf_e hM hpo (show o < 2 ^ 31 by omega)
    rw [e1, me_cal, me_ld (by omega) (by decide), a4, me_d4 (by omega)]
    cases z with
    | none =>
      rw [lf_o_none, mM_target_n (fun w => absurd w.1 (lf_is_neg (by omega) (by decide))), me_cal, if_neg (fun w => pu_ne (show t < 2 ^ 31 by omega) w.symm)]
      refine Or.inr ⟨fun w => ?_, me_rZ0⟩
      obtain ⟨-, c, hs, -⟩ := w
      have := (e2 c).mpr hs
      cases this
    | some c =>
      have hs := (e2 c).mp rfl
      have hc4 := (lf_site_lt hpo hs).2
      rw [lf_o_some, mM_target_e hM hpo hc4 (show lf_c P m k / 4 < 3 by omega), me_cal]
      by_cases e : lf_tgt q c (lf_c P m k / 4) = some t
      · rw [e, lf_o_some, if_pos rfl]
        exact Or.inl ⟨⟨rfl, c, hs, e⟩, me_rZ1⟩
      · rw [if_neg]
        · refine Or.inr ⟨fun w => ?_, me_rZ0⟩
          obtain ⟨-, c', hs', et⟩ := w
          rw [lf_site_fun hs hs'] at e
          exact e et
        · intro w
          apply e
          exact lf_o_inj (fun n hn => by have := lf_tgt_lt hpo hc4 (show lf_c P m k / 4 < 3 by omega) hn; omega) (fun n hn => by cases hn; omega) (w.trans (lf_o_some t).symm)
theorem mM_reach_e (hW : mp_W P q L F R s) {tt : Nat} (ht : tt < 6) (hR : R tt) {w : Int32} (hw : w = 0 ∨ w = 1) (h0 : w = 0 → mb_F s 1 = 0 ∧ mb_I s 9 tt = 1) (h1 : mb_F s 1 = 0 → w = 1 → mb_I s 9 tt ≠ 1) : mp_W P q L F R (mb_setI (mb_setF s 1 w) 9 tt 1) ∧ mp_op (fun g _ => mb_I g 9 tt = 1) s (mb_setI (mb_setF s 1 w) 9 tt 1) := by
  obtain ⟨w1, w2, w3, w4⟩ := hW
  have e : mb_setI (mb_setF s 1 w) 9 tt 1 = mb_setF (mb_setI s 9 tt (mb_I s 9 tt ||| 1)) 1 w := by
    have e1 : mb_I s 9 tt ||| 1 = 1 := by
      rcases w3 tt ht with z | z <;> rw [z] <;> decide
    rw [e1]; rfl
  have hor : mb_I s 9 tt ||| 1 = mb_I s 9 tt ↔ mb_I s 9 tt = 1 := by
    rcases w3 tt ht with z | z <;> rw [z] <;> decide
  have hf : mp_Fr s (mb_setF (mb_setI s 9 tt (mb_I s 9 tt ||| 1)) 1 w) := (lf_fr.rf.setI ⟨by decide, by decide⟩).setF rfl
  have hop : mp_op (fun g _ => mb_I g 9 tt ||| 1 = mb_I g 9 tt) s (mb_setF (mb_setI s 9 tt (mb_I s 9 tt ||| 1)) 1 w) := eg_growI (by decide) (by decide) (by decide) (by omega) hw (fun z => ⟨(h0 z).1, hor.mpr (h0 z).2⟩) (fun z0 z1 z2 => h1 z0 z1 (hor.mp z2)) (fun z => z) hf
  rw [e]
  refine ⟨⟨hf.M w1, hw, fun m hm => ?_, ⟨w4.1, w4.2.1, fun m hm hm1 => ?_, ?_⟩⟩, mp_wk (C1 := fun g => mb_I g 9 tt ||| 1 = mb_I g 9 tt) hop (fun z => ?_)⟩
  · show upd (mb_I s 9) tt (mb_I s 9 tt ||| 1) m = 0 ∨ upd (mb_I s 9) tt (mb_I s 9 tt ||| 1) m = 1
    rw [pu_upd]
    by_cases c : m = tt
    · rw [if_pos c]
      rcases w3 tt ht with z | z <;> rw [z] <;> decide
    · rw [if_neg c]; exact w3 m hm
  · have hm1 : upd (mb_I s 9) tt (mb_I s 9 tt ||| 1) m = 1 := hm1
    rw [pu_upd] at hm1
    by_cases c : m = tt
    · rw [c]; exact hR
    · rw [if_neg c] at hm1; exact w4.2.2.1 m hm hm1
  · show upd (mb_I s 9) tt (mb_I s 9 tt ||| 1) 0 = 1
    rw [pu_upd]
    by_cases c : 0 = tt
    · rw [if_pos c, ← c, w4.2.2.2]; decide
    · rw [if_neg c]; exact w4.2.2.2
  · rw [mp_9] at z ⊢; exact hor.mp z
end PM
