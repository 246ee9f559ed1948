section PX2
variable {P : lf_P} {q : lf_Q} {L F : Nat → Nat → Nat → Prop} {R : Nat → Prop}
theorem xp_or {x y : Int32} (h : x ||| y = x) {o : Nat} (ho : pu_b y o = true) : pu_b x o = true := mp_or h ho
theorem mQ_growFields_l {w v : Int32} {f : Nat} (hf2 : f < 2) (hv : ∀ o p, o < 6 → pu_b w o = true → pu_b v p = true → F o f p) {s0 : mb_S} : ∀ (d o n : Nat) (s : mb_S), o + d = 6 → d < n → xp_W P q L F R s → xp_op (fun g _ => ∀ o', o' < o → pu_b w o' = true → mb_I g 12 (2 * o' + f) ||| v = mb_I g 12 (2 * o' + f)) s0 s → ∃ t, mQ_growFields_l3 n w (nI f) v (nI o) s = some ((), t) ∧ xp_W P q L F R t ∧ xp_op (fun g _ => ∀ o', o' < 6 → pu_b w o' = true → mb_I g 12 (2 * o' + f) ||| v = mb_I g 12 (2 * o' + f)) s0 t := by
  intro d
  induction d with
  | zero =>
    intro o n s hod hn hW hop
    obtain ⟨n, rfl⟩ : ∃ z, n = z + 1 := ⟨n - 1, by omega⟩
    rw [mQ_growFields_l3_s, pu_l6, if_pos ((nI_leI (by omega) (by omega)).mpr (by omega))]
    rw [show o = 6 by omega] at hop
    exact ⟨s, rfl, hW, hop⟩
  | succ d ih =>
    intro o n s hod hn hW hop
    obtain ⟨n, rfl⟩ : ∃ z, n = z + 1 := ⟨n - 1, by omega⟩
    have ho : o < 6 := by omega
    have next : ∀ u, xp_W P q L F R u → xp_op (fun g _ => (∀ o', o' < o → pu_b w o' = true → mb_I g 12 (2 * o' + f) ||| v = mb_I g 12 (2 * o' + f)) ∧ (pu_b w o = true → mb_I g 12 (2 * o + f) ||| v = mb_I g 12 (2 * o + f))) s0 u → ∃ t, mQ_growFields_b57 (mQ_growFields_l3 n) w (nI f) v (nI o) u = some ((), t) ∧ xp_W P q L F R t ∧ xp_op (fun g _ => ∀ o', o' < 6 → pu_b w o' = true → mb_I g 12 (2 * o' + f) ||| v = mb_I g 12 (2 * o' + f)) s0 t := by
      intro u hu hou
      unfold mQ_growFields_b57
      rw [me_bnd, nI_1]
      refine ih (o + 1) n u (by omega) (by omega) hu (xp_wk hou (fun z o' ho' => ?_))
      by_cases e : o' = o
      · rw [e]; exact z.2
      · exact z.1 o' (by omega)
    have st : xp_st (fun g _ => ∀ o', o' < o → pu_b w o' = true → mb_I g 12 (2 * o' + f) ||| v = mb_I g 12 (2 * o' + f)) := fun _ _ _ _ z => z
    rw [mQ_growFields_l3_s, pu_l6, if_neg (fun z => absurd ((nI_leI (a := 6) (b := o) (by omega) (by omega)).mp z) (by omega)), show (nI o * 2 + nI f) = nI (2 * o + f) from by rw [me_2ro, nI_add], me_bnd, mX_has_e _ (show o < 32 by omega), me_cal0]
    by_cases c : pu_b w o = true
    · rw [if_pos c, if_neg me_10, me_ld (by omega) (by decide)]
      by_cases c2 : (v &&& (mb_I s 12 (2 * o + f) ^^^ (-1))) = 0
      · rw [if_pos c2]
        exact next s hW (xp_seq st hop (xp_rf (C := fun g _ => pu_b w o = true → mb_I g 12 (2 * o + f) ||| v = mb_I g 12 (2 * o + f)) hW.2.1 (fun _ => by rw [xp_12]; exact xp_new.mp c2)))
      · have c3 : mb_I s 12 (2 * o + f) ||| v ≠ mb_I s 12 (2 * o + f) := fun z => c2 (xp_new.mpr z)
        rw [if_neg c2, me_ld (by omega) (by decide), me_stI (by omega) (by decide), me_putZ1]
        have hf : xp_Fr s (mb_setF (mb_setI s 12 (2 * o + f) (mb_I s 12 (2 * o + f) ||| v)) 3 1) := ⟨(lf_fr.rf.setI ⟨by decide, by decide⟩).setF (Or.inr rfl), fun _ _ z => z⟩
        have hg : xp_op (fun g _ => mb_I g 12 (2 * o + f) ||| v = mb_I g 12 (2 * o + f)) s (mb_setF (mb_setI s 12 (2 * o + f) (mb_I s 12 (2 * o + f) ||| v)) 3 1) := eg_growI (by decide) (by decide) (by decide) (by omega) (Or.inr rfl) (fun z => absurd z (by decide)) (fun _ _ => c3) (fun z => z) hf
        refine next _ ⟨hf.X hW.1, Or.inr rfl, ⟨hW.2.2.1, fun o' f' p ho' hf' hp => ?_, hW.2.2.2.2⟩⟩ (xp_seq st hop (xp_wk hg (fun z _ => z)))
        have hp2 : pu_b (upd (mb_I s 12) (2 * o + f) (mb_I s 12 (2 * o + f) ||| v) (2 * o' + f')) p = true := hp
        rw [pu_upd] at hp2
        by_cases e : 2 * o' + f' = 2 * o + f
        · rw [if_pos e, pu_b_or] at hp2
          have e1 : o' = o := by omega
          have e2 : f' = f := by omega
          rw [e1, e2]
          rcases Bool.or_eq_true_iff.mp hp2 with z | z
          · exact hW.2.2.2.1 o f p ho hf2 z
          · exact hv o p ho c z
        · rw [if_neg e] at hp2
          exact hW.2.2.2.1 o' f' p ho' hf' hp2
    · rw [if_neg c, if_pos rfl]
      exact next s hW (xp_seq st hop (xp_rf (C := fun g _ => pu_b w o = true → mb_I g 12 (2 * o + f) ||| v = mb_I g 12 (2 * o + f)) hW.2.1 (fun z => absurd z c)))
def xp_pair (P : lf_P) (q : lf_Q) (m k : Nat) (w : Int32) (o : Nat) (g a : mb_S) : Prop := pu_b w o = true → ∀ t, lf_ct P q o (lf_c P m k / 4) t →
  pu_b (mb_F g 2) t = true ∧ pu_b (mb_I a 13 (13 * m + k)) t = true ∧ pu_b (mb_I g 11 (4 * t + 0)) o = true ∧ (∀ p, pu_b (mb_I g 11 (4 * m + lf_c P m k % 4)) p = true → pu_b (mb_I g 11 (4 * t + 1)) p = true) ∧
  ∀ i p, i < lf_len P t → lf_kd P t i = 10 → pu_b (mb_I g 11 (4 * t + lf_a P t i)) p = true → pu_b (mb_I g 11 (4 * m + lf_a P m k)) p = true
theorem xp_pair_st {m k : Nat} {w : Int32} {o : Nat} : xp_st (xp_pair P q m k w o) := fun g a b hf h z t ht => ⟨(h z t ht).1, hf.2 _ _ (h z t ht).2.1, (h z t ht).2.2⟩
theorem mQ_followCall_l (hpo : lf_ok P q) (hC : lf_PC P q L F R) (hS : ∀ m x o, L m x o → ∃ c, lf_site P o c) {m k : Nat} (hm : m < 6) (hk : k < lf_len P m) (c7 : lf_kd P m k = 7) (hRm : R m) {w : Int32} (hw : ∀ o, pu_b w o = true → L m (lf_b P m k) o) {s0 : mb_S} : ∀ (d o n : Nat) (s : mb_S), o + d = 6 → d < n → xp_W P q L F R s → xp_op (fun g a => ∀ o', o' < o → xp_pair P q m k w o' g a) s0 s → ∃ t, mQ_followCall_l48 n (nI m) (nI (13 * m + k)) (nI (lf_c P m k / 4)) (nI (lf_c P m k % 4)) w (nI o) s = some ((), t) ∧ xp_W P q L F R t ∧ xp_op (fun g a => ∀ o', o' < 6 → xp_pair P q m k w o' g a) s0 t := by
  have hl := hpo.1 m hm
  obtain ⟨o1, o2, o3, o4, o5, o6⟩ := hpo.2.1 _ hm _ hk
  have ha : lf_a P m k < 4 := o3 (by omega)
  have hc12 := o6 c7
  intro d
  induction d with
  | zero =>
    intro o n s hod hn hW hop
    obtain ⟨n, rfl⟩ : ∃ z, n = z + 1 := ⟨n - 1, by omega⟩
    rw [mQ_followCall_l48_s, pu_l6, if_pos ((nI_leI (by omega) (by omega)).mpr (by omega))]
    rw [show o = 6 by omega] at hop
    exact ⟨s, rfl, hW, hop⟩
  | succ d ih =>
    intro o n s hod hn hW hop
    obtain ⟨n, rfl⟩ : ∃ z, n = z + 1 := ⟨n - 1, by omega⟩
    have ho : o < 6 := by omega
    have st : xp_st (fun g a => ∀ o', o' < o → xp_pair P q m k w o' g a) := fun g a b hf z o' ho' => xp_pair_st g a b hf (z o' ho')
    have next : ∀ u, xp_W P q L F R u → xp_op (fun g a => (∀ o', o' < o → xp_pair P q m k w o' g a) ∧ xp_pair P q m k w o g a) s0 u → ∃ t, mQ_followCall_b151 (mQ_followCall_l48 n) (nI m) (nI (13 * m + k)) (nI (lf_c P m k / 4)) (nI (lf_c P m k % 4)) w (nI o) u = some ((), t) ∧ xp_W P q L F R t ∧ xp_op (fun g a => ∀ o', o' < 6 → xp_pair P q m k w o' g a) s0 t := by
      intro u hu hou
      unfold mQ_followCall_b151
      rw [me_bnd, nI_1]
      refine ih (o + 1) n u (by omega) (by omega) hu (xp_wk hou (fun z o' ho' => ?_))
      by_cases e : o' = o
      · rw [e]; exact z.2
      · exact z.1 o' (by omega)
    rw [mQ_followCall_l48_s, pu_l6, if_neg (fun z => absurd ((nI_leI (a := 6) (b := o) (by omega) (by omega)).mp z) (by omega)), mX_has_e _ (show o < 32 by omega), me_cal0]
    unfold mQ_followCall_b87
    by_cases c : pu_b w o = true
    · have hLo := hw o c
      obtain ⟨cc, hs⟩ := hS m _ o hLo
      have hc4 := (lf_site_lt hpo hs).2
      rw [if_pos c, if_neg me_10, me_ld ho (by decide), hW.1.2.2.2.2.2.1 o cc hs, mP_targetOf_e hW.1 hpo hc4 (show lf_c P m k / 4 < 3 by omega), me_cal]
      cases htg : lf_tgt q cc (lf_c P m k / 4) with
      | none =>
        rw [lf_o_none, if_pos rfl]
        refine next s hW (xp_seq st hop (xp_rf (C := xp_pair P q m k w o) hW.2.1 (fun _ t hct => ?_)))
        obtain ⟨c', hs', ht'⟩ := hct
        rw [← lf_site_fun hs hs', htg] at ht'
        cases ht'
      | some t =>
        have ht6 := lf_tgt_lt hpo hc4 (show lf_c P m k / 4 < 3 by omega) htg
        have hct : lf_ct P q o (lf_c P m k / 4) t := ⟨cc, hs, htg⟩
        obtain ⟨hRt, hL0, hL1, hL2⟩ := (hC.2 m k hm hk hRm).2.2.2.2 c7 o t hLo hct
        have hlt := hpo.1 t ht6
        obtain ⟨u1, e1, hu1, p1⟩ := mQ_reach_e hpo hW hm hk ht6 hRt ⟨o, hLo, hct⟩ c7
        obtain ⟨u2, e2, hu2, p2⟩ := mQ_growLocal_e hu1 ht6 (x := 0) (by decide) (v := (1 : Int32) <<< (nI o &&& 31)) (fun p hp => by
          rw [pu_b_1l (by omega)] at hp
          rw [of_decide_eq_true hp]; exact hL0)
        obtain ⟨u3, e3, hu3, p3⟩ := mQ_growLocal_e hu2 ht6 (x := 1) (by decide) (v := mb_I u2 11 (4 * m + lf_c P m k % 4)) (fun p hp => hL1 p (hu2.2.2.1 m _ p hm (by omega) hp))
        obtain ⟨v, e4, hv⟩ := mQ_returned_l hu3.1 hpo ht6 (lf_len P t) 0 mb_fuel 0 (Nat.zero_add _) (by unfold mb_fuel; omega)
        have e4 : mQ_returned (nI t) u3 = some (v, u3) := e4
        obtain ⟨u5, e5, hu5, p5⟩ := mQ_growLocal_e hu3 hm ha (v := v) (fun p hp => by
          rcases (hv p).mp hp with z | ⟨i, -, hi, hi10, hb⟩
          · rw [pu_b_0] at z; cases z
          · exact hL2 i p hi hi10 (hu3.2.2.1 t _ p ht6 ((hpo.2.1 t ht6 i hi).2.2.1 (by omega)) hb))
        rw [lf_o_some, if_neg (pu_ne (by omega)), e1, me_cal, show mQ_growLocal (nI t) 0 ((1 : Int32) <<< (nI o &&& 31)) u1 = some ((), u2) from e2, me_cal, me_4r, me_ld (by omega) (by decide), show mQ_growLocal (nI t) 1 (mb_I u2 11 (4 * m + lf_c P m k % 4)) u2 = some ((), u3) from e3, me_cal, me_ld (by omega) (by decide), (hu3.1.2.1 m hm k hk).2.1, e4, me_cal, e5, me_cal]
        have p3' : xp_op (fun g _ => ∀ p, pu_b (mb_I g 11 (4 * m + lf_c P m k % 4)) p = true → pu_b (mb_I g 11 (4 * t + 1)) p = true) u2 u3 := xp_wk p3 (fun z p hp => by
          rw [xp_11] at z hp ⊢
          exact xp_or z hp)
        have p5' : xp_op (fun g _ => ∀ i p, i < lf_len P t → lf_kd P t i = 10 → pu_b (mb_I g 11 (4 * t + lf_a P t i)) p = true → pu_b (mb_I g 11 (4 * m + lf_a P m k)) p = true) u3 u5 := xp_wk p5 (fun z i p hi hi10 hp => by
          rw [xp_11] at z hp ⊢
          exact xp_or z ((hv p).mpr (Or.inr ⟨i, Nat.zero_le _, hi, hi10, hp⟩)))
        have s1 : xp_st (fun g a => pu_b (mb_F g 2) t = true ∧ pu_b (mb_I a 13 (13 * m + k)) t = true) := fun g a b hf z => ⟨z.1, hf.2 _ _ z.2⟩
        have tot := xp_seq (C1 := fun g a => ((pu_b (mb_F g 2) t = true ∧ pu_b (mb_I a 13 (13 * m + k)) t = true) ∧ mb_I g 11 (4 * t + 0) ||| ((1 : Int32) <<< (nI o &&& 31)) = mb_I g 11 (4 * t + 0)) ∧ ∀ p, pu_b (mb_I g 11 (4 * m + lf_c P m k % 4)) p = true → pu_b (mb_I g 11 (4 * t + 1)) p = true) (fun g a b hf z => ⟨⟨s1 g a b hf z.1.1, z.1.2⟩, z.2⟩) (xp_seq (C1 := fun g a => (pu_b (mb_F g 2) t = true ∧ pu_b (mb_I a 13 (13 * m + k)) t = true) ∧ mb_I g 11 (4 * t + 0) ||| ((1 : Int32) <<< (nI o &&& 31)) = mb_I g 11 (4 * t + 0)) (fun g a b hf z => ⟨s1 g a b hf z.1, z.2⟩) (xp_seq s1 p1 p2) p3') p5'
        refine next u5 hu5 (xp_seq st hop (xp_wk tot (fun z _ t' hct' => ?_)))
        obtain ⟨c', hs', ht'⟩ := hct'
        rw [← lf_site_fun hs hs', htg] at ht'
        cases ht'
        refine ⟨z.1.1.1.1, z.1.1.1.2, xp_or z.1.1.2 ?_, z.1.2, z.2⟩
        rw [pu_b_1l (by omega)]; exact decide_eq_true rfl
    · rw [if_neg c, if_pos rfl, if_pos rfl]
      exact next s hW (xp_seq st hop (xp_rf (C := xp_pair P q m k w o) hW.2.1 (fun z => absurd z c)))
end PX2
