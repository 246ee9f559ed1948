def xp_KF (k : Nat) : Bool := decide (k = 2)
def xp_KI (a : Nat) : Bool := decide (a = 11 ∨ a = 12)
def xp_Fr (s t : mb_S) : Prop := lf_fr (fun k => k = 2 ∨ k = 3) (fun k => 11 ≤ k ∧ k ≤ 13) (fun _ => False) s t ∧ ∀ sp i, pu_b (mb_I s 13 sp) i = true → pu_b (mb_I t 13 sp) i = true
def xp_op (C : mb_S → mb_S → Prop) (s t : mb_S) : Prop := en_op (fun s => mb_F s 3) (eg_sg xp_KF xp_KI mp_K0) (eg_mu 24 0) (fun _ => True) xp_Fr C s t
def xp_Bl (P : lf_P) (q : lf_Q) (L F : Nat → Nat → Nat → Prop) (R : Nat → Prop) (s : mb_S) : Prop := (∀ m x o, m < 6 → x < 4 → pu_b (mb_I s 11 (4 * m + x)) o = true → L m x o) ∧ (∀ o f p, o < 6 → f < 2 → pu_b (mb_I s 12 (2 * o + f)) p = true → F o f p) ∧ (∀ m, pu_b (mb_F s 2) m = true → R m) ∧ pu_b (mb_F s 2) 0 = true ∧ (∀ m k t, m < 6 → k < lf_len P m → pu_b (mb_I s 13 (13 * m + k)) t = true → lf_tg P q L m k t ∧ lf_kd P m k = 7)
def xp_W (P : lf_P) (q : lf_Q) (L F : Nat → Nat → Nat → Prop) (R : Nat → Prop) (s : mb_S) : Prop := lf_X P q s ∧ (mb_F s 3 = 0 ∨ mb_F s 3 = 1) ∧ xp_Bl P q L F R s
theorem xp_Fr.tr {a b c : mb_S} (h : xp_Fr a b) (h' : xp_Fr b c) : xp_Fr a c := ⟨h.1.tr h'.1, fun sp i z => h'.2 sp i (h.2 sp i z)⟩
theorem xp_Fr.X {P : lf_P} {q : lf_Q} {s t : mb_S} (hf : xp_Fr s t) (h : lf_X P q s) : lf_X P q t := h.fr (fun k hk => hf.1.2.1 k (fun z => by omega)) (hf.1.1 1 (by decide))
section PX
variable {P : lf_P} {q : lf_Q} {L F : Nat → Nat → Nat → Prop} {R : Nat → Prop} {s t u : mb_S} {C C1 C2 : mb_S → mb_S → Prop}
theorem xp_rf (h : mb_F s 3 = 0 ∨ mb_F s 3 = 1) (hC : C (eg_sg xp_KF xp_KI mp_K0 s) s) : xp_op C s s := en_rf ⟨lf_fr.rf, fun _ _ z => z⟩ h hC
theorem xp_wk (h : xp_op C1 s t) (hw : C1 (eg_sg xp_KF xp_KI mp_K0 s) t → C2 (eg_sg xp_KF xp_KI mp_K0 s) t) : xp_op C2 s t := en_wk h hw
def xp_st (C : mb_S → mb_S → Prop) : Prop := ∀ x a b, xp_Fr a b → C x a → C x b
theorem xp_seq (hk : xp_st C1) (h1 : xp_op C1 s t) (h2 : xp_op C2 t u) : xp_op (fun x a => C1 x a ∧ C2 x a) s u := en_seq (fun _ _ _ a b => xp_Fr.tr a b) hk h1 h2
theorem xp_11 : mb_I (eg_sg xp_KF xp_KI mp_K0 s) 11 = mb_I s 11 := eg_I (by decide)
theorem xp_12 : mb_I (eg_sg xp_KF xp_KI mp_K0 s) 12 = mb_I s 12 := eg_I (by decide)
theorem xp_2 : mb_F (eg_sg xp_KF xp_KI mp_K0 s) 2 = mb_F s 2 := eg_F (by decide)
theorem xp_flag (h : xp_op C s t) : mb_F t 3 = 0 ∨ mb_F t 3 = 1 := h.2.2.1
theorem xp_new {x y : Int32} : (x &&& (y ^^^ (-1))) = 0 ↔ y ||| x = y := pu_b_new.trans pu_or_iff.symm
theorem mQ_growLocal_e (hW : xp_W P q L F R s) {m x : Nat} (hm : m < 6) (hx : x < 4) {v : Int32} (hv : ∀ o, pu_b v o = true → L m x o) : ∃ t, mQ_growLocal (nI m) (nI x) v s = some ((), t) ∧ xp_W P q L F R t ∧ xp_op (fun g _ => mb_I g 11 (4 * m + x) ||| v = mb_I g 11 (4 * m + x)) s t := by
  obtain ⟨w1, w2, w3⟩ := hW
  unfold mQ_growLocal mQ_growLocal_b37
  rw [me_4r, me_bnd, me_ld (by omega) (by decide)]
  by_cases c : (v &&& (mb_I s 11 (4 * m + x) ^^^ (-1))) = 0
  · rw [if_pos c]
    exact ⟨s, rfl, ⟨w1, w2, w3⟩, xp_rf (C := fun g _ => mb_I g 11 (4 * m + x) ||| v = mb_I g 11 (4 * m + x)) w2 (by rw [xp_11]; exact xp_new.mp c)⟩
  · have c2 : mb_I s 11 (4 * m + x) ||| v ≠ mb_I s 11 (4 * m + x) := fun z => c (xp_new.mpr z)
    rw [if_neg c, me_ld (by omega) (by decide), me_stI (by omega) (by decide), me_putZ1]
    have hf : xp_Fr s (mb_setF (mb_setI s 11 (4 * m + x) (mb_I s 11 (4 * m + x) ||| v)) 3 1) := ⟨(lf_fr.rf.setI ⟨by decide, by decide⟩).setF (Or.inr rfl), fun _ _ z => z⟩
    refine ⟨_, rfl, ⟨hf.X w1, Or.inr rfl, ⟨fun m' x' o hm' hx' ho => ?_, w3.2⟩⟩, eg_growI (by decide) (by decide) (by decide) (by omega) (Or.inr rfl) (fun z => absurd z (by decide)) (fun _ _ => c2) (fun z => z) hf⟩
    have ho2 : pu_b (upd (mb_I s 11) (4 * m + x) (mb_I s 11 (4 * m + x) ||| v) (4 * m' + x')) o = true := ho
    rw [pu_upd] at ho2
    by_cases e : 4 * m' + x' = 4 * m + x
    · rw [if_pos e, pu_b_or] at ho2
      have e1 : m' = m := by omega
      have e2 : x' = x := by omega
      rw [e1, e2]
      rcases Bool.or_eq_true_iff.mp ho2 with z | z
      · exact w3.1 m x o hm hx z
      · exact hv o z
    · rw [if_neg e] at ho2
      exact w3.1 m' x' o hm' hx' ho2
theorem eg_growF {KF KI KL : Nat → Bool} {NI NL fl a : Nat} {Bl : mb_S → Prop} {Fr : mb_S → mb_S → Prop} (hfl : KF fl = false) (hK : KF a = true) (ha : a < 11) {v : Int32} (h1 : mb_F s a ||| v ≠ mb_F s a) (hB : Bl s → Bl (mb_setF (mb_setF s a (mb_F s a ||| v)) fl 1)) (hF : Fr s (mb_setF (mb_setF s a (mb_F s a ||| v)) fl 1)) {C : mb_S → mb_S → Prop} :
    en_op (fun s => mb_F s fl) (eg_sg KF KI KL) (eg_mu NI NL) Bl Fr C s (mb_setF (mb_setF s a (mb_F s a ||| v)) fl 1) := by
  have e : mb_F (mb_setF (mb_setF s a (mb_F s a ||| v)) fl 1) fl = 1 := by rw [pu_FF, if_pos rfl]
  refine ⟨hF, hB, Or.inr e, ?_, fun z => ?_, fun z0 z1 => ?_⟩
  · rw [eg_flag hfl]; exact Nat.le_of_lt (eg_upF hK ha h1)
  · have z : mb_F (mb_setF (mb_setF s a (mb_F s a ||| v)) fl 1) fl = 0 := z
    rw [e] at z; exact absurd z (by decide)
  · rw [eg_flag hfl]; exact eg_upF hK ha h1
theorem xp_same {C : mb_S → mb_S → Prop} (hf : xp_Fr s t) (h3 : mb_F t 3 = mb_F s 3) (hw : mb_F s 3 = 0 ∨ mb_F s 3 = 1) (e : eg_sg xp_KF xp_KI mp_K0 t = eg_sg xp_KF xp_KI mp_K0 s) (hC : C (eg_sg xp_KF xp_KI mp_K0 s) t) : xp_op C s t := by
  refine ⟨hf, fun z => z, ?_, Nat.le_of_eq (by rw [e]), fun z => ⟨?_, e, hC⟩, fun z0 z1 => ?_⟩
  · show mb_F t 3 = 0 ∨ mb_F t 3 = 1
    rw [h3]; exact hw
  · show mb_F s 3 = 0
    rw [← h3]; exact z
  · have z0 : mb_F s 3 = 0 := z0
    have z1 : mb_F t 3 = 1 := z1
    rw [h3, z0] at z1; exact absurd z1 (by decide)
theorem mQ_reach_e (hpo : lf_ok P q) (hW : xp_W P q L F R s) {m k tt : Nat} (hm : m < 6) (hk : k < lf_len P m) (ht : tt < 6) (hR : R tt) (htg : lf_tg P q L m k tt) (c7 : lf_kd P m k = 7) : ∃ u, mQ_reach (nI (13 * m + k)) (nI tt) s = some ((), u) ∧ xp_W P q L F R u ∧ xp_op (fun g a => pu_b (mb_F g 2) tt = true ∧ pu_b (mb_I a 13 (13 * m + k)) tt = true) s u := by
  obtain ⟨w1, w2, w3⟩ := hW
  have hl := hpo.1 m hm
  unfold mQ_reach mQ_reach_b40
  rw [me_ld (by omega) (by decide), me_stI (by omega) (by decide), show ∀ v : Int32, mb_F (mb_setI s 13 (13 * m + k) v) 2 = mb_F s 2 from fun _ => rfl, mX_has_e _ (show tt < 32 by omega), me_cal0]
  have hmono : ∀ sp i, pu_b (mb_I s 13 sp) i = true → pu_b (upd (mb_I s 13) (13 * m + k) (mb_I s 13 (13 * m + k) ||| ((1 : Int32) <<< (nI tt &&& 31))) sp) i = true := by
    intro sp i z
    rw [pu_upd]
    by_cases e : sp = 13 * m + k
    · rw [if_pos e, pu_b_or, ← e, z]; rfl
    · rw [if_neg e]; exact z
  have hset : pu_b (upd (mb_I s 13) (13 * m + k) (mb_I s 13 (13 * m + k) ||| ((1 : Int32) <<< (nI tt &&& 31))) (13 * m + k)) tt = true := by
    rw [pu_upd, if_pos rfl, pu_b_or, pu_b_1l (by omega), decide_eq_true rfl, Bool.or_true]
  have hT : ∀ m' k' t', m' < 6 → k' < lf_len P m' → pu_b (upd (mb_I s 13) (13 * m + k) (mb_I s 13 (13 * m + k) ||| ((1 : Int32) <<< (nI tt &&& 31))) (13 * m' + k')) t' = true → lf_tg P q L m' k' t' ∧ lf_kd P m' k' = 7 := by
    intro m' k' t' hm' hk' z
    rw [pu_upd] at z
    by_cases e : 13 * m' + k' = 13 * m + k
    · rw [if_pos e, pu_b_or] at z
      have hl' := hpo.1 m' hm'
      have e1 : m' = m := by omega
      have e2 : k' = k := by omega
      rw [e1, e2]
      rcases Bool.or_eq_true_iff.mp z with z | z
      · exact w3.2.2.2.2 m k t' hm hk z
      · rw [pu_b_1l (by omega)] at z
        rw [of_decide_eq_true z]; exact ⟨htg, c7⟩
    · rw [if_neg e] at z; exact w3.2.2.2.2 m' k' t' hm' hk' z
  have hf1 : xp_Fr s (mb_setI s 13 (13 * m + k) (mb_I s 13 (13 * m + k) ||| ((1 : Int32) <<< (nI tt &&& 31)))) := ⟨lf_fr.rf.setI ⟨by decide, by decide⟩, hmono⟩
  have e1 : eg_sg xp_KF xp_KI mp_K0 (mb_setI s 13 (13 * m + k) (mb_I s 13 (13 * m + k) ||| ((1 : Int32) <<< (nI tt &&& 31)))) = eg_sg xp_KF xp_KI mp_K0 s := by
    refine eg_eq (fun _ _ => rfl) (fun a ha => ?_) (fun _ _ => rfl)
    rw [pu_II, if_neg]
    intro z
    rw [z] at ha
    exact absurd ha (by decide)
  by_cases c : pu_b (mb_F s 2) tt = true
  · rw [if_pos c, if_neg me_10]
    refine ⟨_, rfl, ⟨hf1.X w1, w2, ⟨w3.1, w3.2.1, w3.2.2.1, w3.2.2.2.1, hT⟩⟩, xp_same hf1 rfl w2 e1 ⟨?_, hset⟩⟩
    rw [xp_2]; exact c
  · rw [if_neg c, if_pos rfl, me_putF, me_putZ1]
    have hor : mb_F s 2 ||| ((1 : Int32) <<< (nI tt &&& 31)) ≠ mb_F s 2 := fun z => c (pu_or_iff.mp z tt (by omega) (by rw [pu_b_1l (by omega)]; exact decide_eq_true rfl))
    have hf2 : xp_Fr (mb_setI s 13 (13 * m + k) (mb_I s 13 (13 * m + k) ||| ((1 : Int32) <<< (nI tt &&& 31)))) (mb_setF (mb_setF (mb_setI s 13 (13 * m + k) (mb_I s 13 (13 * m + k) ||| ((1 : Int32) <<< (nI tt &&& 31)))) 2 (mb_F s 2 ||| ((1 : Int32) <<< (nI tt &&& 31)))) 3 1) := ⟨(lf_fr.rf.setF (Or.inl rfl)).setF (Or.inr rfl), fun _ _ z => z⟩
    have hb : ∀ i, pu_b (mb_F s 2 ||| ((1 : Int32) <<< (nI tt &&& 31))) i = true → pu_b (mb_F s 2) i = true ∨ i = tt := by
      intro i z
      rw [pu_b_or] at z
      rcases Bool.or_eq_true_iff.mp z with z | z
      · exact Or.inl z
      · rw [pu_b_1l (by omega)] at z; exact Or.inr (of_decide_eq_true z)
    have hg : xp_op (fun g a => pu_b (mb_F g 2) tt = true ∧ pu_b (mb_I a 13 (13 * m + k)) tt = true) (mb_setI s 13 (13 * m + k) (mb_I s 13 (13 * m + k) ||| ((1 : Int32) <<< (nI tt &&& 31)))) (mb_setF (mb_setF (mb_setI s 13 (13 * m + k) (mb_I s 13 (13 * m + k) ||| ((1 : Int32) <<< (nI tt &&& 31)))) 2 (mb_F s 2 ||| ((1 : Int32) <<< (nI tt &&& 31)))) 3 1) := eg_growF (s := mb_setI s 13 (13 * m + k) (mb_I s 13 (13 * m + k) ||| ((1 : Int32) <<< (nI tt &&& 31)))) (a := 2) (fl := 3) (by decide) (by decide) (by decide) hor (fun z => z) hf2
    refine ⟨_, rfl, ⟨(hf1.tr hf2).X w1, Or.inr rfl, ⟨w3.1, w3.2.1, fun i z => ?_, ?_, hT⟩⟩, xp_wk (xp_seq (C1 := fun _ _ => True) (C2 := fun g a => pu_b (mb_F g 2) tt = true ∧ pu_b (mb_I a 13 (13 * m + k)) tt = true) (fun _ _ _ _ _ => trivial) (xp_same hf1 rfl w2 e1 trivial) hg) (fun z => z.2)⟩
    · rcases hb i z with z | z
      · exact w3.2.2.1 i z
      · rw [z]; exact hR
    · show pu_b (mb_F s 2 ||| ((1 : Int32) <<< (nI tt &&& 31))) 0 = true
      rw [pu_b_or, w3.2.2.2.1]; rfl
theorem mQ_fieldOfAll_l {w : Int32} {f : Nat} (hf : f < 2) : ∀ (d o n : Nat) (x : Int32), o + d = 6 → d < n → ∃ v, mQ_fieldOfAll_l5 n w (nI f) x (nI o) s = some (v, s) ∧ ∀ p, pu_b v p = true ↔ (pu_b x p = true ∨ ∃ o', o ≤ o' ∧ o' < 6 ∧ pu_b w o' = true ∧ pu_b (mb_I s 12 (2 * o' + f)) p = true) := by
  intro d
  induction d with
  | zero =>
    intro o n x hod hn
    obtain ⟨n, rfl⟩ : ∃ z, n = z + 1 := ⟨n - 1, by omega⟩
    rw [mQ_fieldOfAll_l5_s, pu_l6, if_pos ((nI_leI (by omega) (by omega)).mpr (by omega))]
    refine ⟨x, rfl, fun p => ⟨Or.inl, fun z => ?_⟩⟩
    rcases z with z | ⟨o', h1, h2, -⟩
    · exact z
    · omega
  | succ d ih =>
    intro o n x hod hn
    obtain ⟨n, rfl⟩ : ∃ z, n = z + 1 := ⟨n - 1, by omega⟩
    rw [mQ_fieldOfAll_l5_s, pu_l6, if_neg (fun z => absurd ((nI_leI (a := 6) (b := o) (by omega) (by omega)).mp z) (by omega)), mX_has_e _ (show o < 32 by omega), me_cal0]
    unfold mQ_fieldOfAll_b35
    by_cases c : pu_b w o = true
    · rw [if_pos c, if_neg me_10, show (nI o * 2 + nI f) = nI (2 * o + f) from by rw [me_2ro, nI_add], me_ld (by omega) (by decide), me_bnd, me_bnd, nI_1]
      obtain ⟨v, e1, e2⟩ := ih (o + 1) n (x ||| mb_I s 12 (2 * o + f)) (by omega) (by omega)
      refine ⟨v, e1, fun p => (e2 p).trans ?_⟩
      rw [pu_b_or, Bool.or_eq_true_iff]
      constructor
      · rintro ((z | z) | ⟨o', h1, h2, h3⟩)
        · exact Or.inl z
        · exact Or.inr ⟨o, Nat.le_refl _, by omega, c, z⟩
        · exact Or.inr ⟨o', by omega, h2, h3⟩
      · rintro (z | ⟨o', h1, h2, h3, h4⟩)
        · exact Or.inl (Or.inl z)
        · by_cases e : o' = o
          · rw [e] at h4; exact Or.inl (Or.inr h4)
          · exact Or.inr ⟨o', by omega, h2, h3, h4⟩
    · rw [if_neg c, if_pos rfl, me_bnd, nI_1]
      obtain ⟨v, e1, e2⟩ := ih (o + 1) n x (by omega) (by omega)
      refine ⟨v, e1, fun p => (e2 p).trans ?_⟩
      constructor
      · rintro (z | ⟨o', h1, h2, h3⟩)
        · exact Or.inl z
        · exact Or.inr ⟨o', by omega, h2, h3⟩
      · rintro (z | ⟨o', h1, h2, h3, h4⟩)
        · exact Or.inl z
        · by_cases e : o' = o
          · rw [e] at h3; exact absurd h3 c
          · exact Or.inr ⟨o', by omega, h2, h3, h4⟩
theorem mQ_returned_l (hX : lf_X P q s) (hpo : lf_ok P q) {m : Nat} (hm : m < 6) : ∀ (d j n : Nat) (x : Int32), j + d = lf_len P m → d < n → ∃ v, mQ_returned_l4 n (nI m) x (nI j) s = some (v, s) ∧ ∀ p, pu_b v p = true ↔ (pu_b x p = true ∨ ∃ i, j ≤ i ∧ i < lf_len P m ∧ lf_kd P m i = 10 ∧ pu_b (mb_I s 11 (4 * m + lf_a P m i)) p = true) := by
  have hl := hpo.1 m hm
  intro d
  induction d with
  | zero =>
    intro j n x hjd hn
    obtain ⟨n, rfl⟩ : ∃ z, n = z + 1 := ⟨n - 1, by omega⟩
    rw [mQ_returned_l4_s, me_ld hm (by decide), hX.1 m hm, if_pos ((nI_leI (by omega) (by omega)).mpr (by omega))]
    refine ⟨x, rfl, fun p => ⟨Or.inl, fun z => ?_⟩⟩
    rcases z with z | ⟨i, h1, h2, -⟩
    · exact z
    · omega
  | succ d ih =>
    intro j n x hjd hn
    obtain ⟨n, rfl⟩ : ∃ z, n = z + 1 := ⟨n - 1, by omega⟩
    have hj : j < lf_len P m := by omega
    obtain ⟨a0, a1, a2, a3, a4⟩ := hX.2.1 _ hm _ hj
    obtain ⟨o1, o2, o3, o4, o5, o6⟩ := hpo.2.1 _ hm _ hj
    rw [mQ_returned_l4_s, me_ld hm (by decide), hX.1 m hm, if_neg (fun z => absurd ((nI_leI (by omega) (by omega)).mp z) (by omega)), me_13, me_bnd, me_ld (by omega) (by decide), a0, pu_l10]
    unfold mQ_returned_b62
    by_cases c : lf_kd P m j = 10
    · have ha : lf_a P m j < 4 := o3 (by omega)
      rw [if_pos ((nI_eq (by omega) (by omega)).mpr c), me_ld (by omega) (by decide), a1, me_4r, me_ld (by omega) (by decide), me_bnd, me_bnd, nI_1]
      obtain ⟨v, e1, e2⟩ := ih (j + 1) n (x ||| mb_I s 11 (4 * m + lf_a P m j)) (by omega) (by omega)
      refine ⟨v, e1, fun p => (e2 p).trans ?_⟩
      rw [pu_b_or, Bool.or_eq_true_iff]
      constructor
      · rintro ((z | z) | ⟨i, h1, h2, h3⟩)
        · exact Or.inl z
        · exact Or.inr ⟨j, Nat.le_refl _, hj, c, z⟩
        · exact Or.inr ⟨i, by omega, h2, h3⟩
      · rintro (z | ⟨i, h1, h2, h3, h4⟩)
        · exact Or.inl (Or.inl z)
        · by_cases e : i = j
          · rw [e] at h4; exact Or.inl (Or.inr h4)
          · exact Or.inr ⟨i, by omega, h2, h3, h4⟩
    · rw [if_neg (fun z => c ((nI_eq (by omega) (by omega)).mp z)), me_bnd, nI_1]
      obtain ⟨v, e1, e2⟩ := ih (j + 1) n x (by omega) (by omega)
      refine ⟨v, e1, fun p => (e2 p).trans ?_⟩
      constructor
      · rintro (z | ⟨i, h1, h2, h3⟩)
        · exact Or.inl z
        · exact Or.inr ⟨i, by omega, h2, h3⟩
      · rintro (z | ⟨i, h1, h2, h3, h4⟩)
        · exact Or.inl z
        · by_cases e : i = j
          · rw [e] at h3; exact absurd h3 c
          · exact Or.inr ⟨i, by omega, h2, h3, h4⟩
end PX
