theorem me_20 (i j : Nat) : nI i * (20 : Int32) + nI j = nI (20 * i + j) := by
  show nI i * nI 20 + nI j = _
  rw [pk_mul, nI_add, Nat.mul_comm]
theorem me_20r (i j : Nat) : nI i * (20 : Int32) + nI j = nI (i * 20 + j) := by
  show nI i * nI 20 + nI j = _
  rw [pk_mul, nI_add]
theorem pu_and0 {x y : Int32} : (x &&& y) = 0 ↔ ∀ i, pu_b x i = true → pu_b y i = true → False := by
  constructor
  · intro h i h1 h2
    have h3 : pu_b (x &&& y) i = false := by rw [h]; exact pu_b_0 i
    rw [pu_b_and, h1, h2] at h3
    cases h3
  · intro h
    apply pu_b_ext
    intro i _
    rw [pu_b_and, pu_b_0]
    cases hx : pu_b x i with
    | false => rfl
    | true =>
      cases hy : pu_b y i with
      | false => rfl
      | true => exact (h i hx hy).elim
theorem pu_b_one (i : Nat) : pu_b (1 : Int32) i = decide (i = 0) := by
  rcases Nat.lt_or_ge i 32 with h | h
  · exact (by decide +kernel : ∀ i, i < 32 → pu_b (1 : Int32) i = decide (i = 0)) i h
  · rw [pu_b_big h, decide_eq_false (by omega)]
theorem pu_b_two (i : Nat) : pu_b (2 : Int32) i = decide (i = 1) := by
  rcases Nat.lt_or_ge i 32 with h | h
  · exact (by decide +kernel : ∀ i, i < 32 → pu_b (2 : Int32) i = decide (i = 1)) i h
  · rw [pu_b_big h, decide_eq_false (by omega)]
theorem pu_b_fld (i : Nat) : pu_b (65520 : Int32) i = decide (4 ≤ i ∧ i < 16) := by
  rcases Nat.lt_or_ge i 32 with h | h
  · exact (by decide +kernel : ∀ i, i < 32 → pu_b (65520 : Int32) i = decide (4 ≤ i ∧ i < 16)) i h
  · rw [pu_b_big h, decide_eq_false (by omega)]
theorem pu_b_loc (i : Nat) : pu_b (15 : Int32) i = decide (i < 4) := by
  rcases Nat.lt_or_ge i 32 with h | h
  · exact (by decide +kernel : ∀ i, i < 32 → pu_b (15 : Int32) i = decide (i < 4)) i h
  · rw [pu_b_big h, decide_eq_false (by omega)]
theorem pu_and1 {x : Int32} : (x &&& 1) = 0 ↔ ¬ pu_b x 0 = true := by
  rw [pu_and0]
  constructor
  · intro h h0
    exact h 0 h0 (by rw [pu_b_one]; rfl)
  · intro h i h1 h2
    rw [pu_b_one] at h2
    rw [of_decide_eq_true h2] at h1
    exact h h1
theorem pu_and_t {x y : Int32} {i : Nat} : pu_b (x &&& y) i = true ↔ pu_b x i = true ∧ pu_b y i = true := by rw [pu_b_and, Bool.and_eq_true]
theorem pu_or_t {x y : Int32} {i : Nat} : pu_b (x ||| y) i = true ↔ pu_b x i = true ∨ pu_b y i = true := by rw [pu_b_or, Bool.or_eq_true_iff]
theorem pu_fld_t {i : Nat} : pu_b (65520 : Int32) i = true ↔ 4 ≤ i ∧ i < 16 := by rw [pu_b_fld, decide_eq_true_iff]
theorem pu_1l_t {n i : Nat} (hn : n < 32) : pu_b ((1 : Int32) <<< (nI n &&& 31)) i = true ↔ i = n := by rw [pu_b_1l hn, decide_eq_true_iff]
theorem pu_not_t {x : Int32} {i : Nat} : pu_b (x ^^^ (-1)) i = true ↔ i < 32 ∧ ¬ pu_b x i = true := by
  rcases Nat.lt_or_ge i 32 with h | h
  · rw [pu_b_not x i h]
    cases pu_b x i
    · exact ⟨fun _ => ⟨h, fun z => (by cases z)⟩, fun _ => rfl⟩
    · exact ⟨fun z => (by cases z), fun z => absurd rfl z.2⟩
  · rw [pu_b_big h]
    exact ⟨fun z => (by cases z), fun z => by omega⟩
def xf_ent (E : Nat → Nat → Prop) (m w s e : Nat) : Prop := (w < 16 ∧ e = 16 * s + w ∧ E m e) ∨ (w = 16 + s ∧ e = 64)
def xf_hs (H : Nat → Nat → Nat → Nat → Prop) (E : Nat → Nat → Prop) (N : Nat → Prop) (m k w i : Nat) : Prop := i < 16 ∧ (16 ≤ w → N m) ∧ ∀ s e, s < 4 → xf_ent E m w s e → H m k e (16 * s + i)
def xf_xs (P : lf_P) (H : Nat → Nat → Nat → Nat → Prop) (E : Nat → Nat → Prop) (N : Nat → Prop) (m w i : Nat) : Prop := (16 ≤ w → N m) ∧ (i = 0 ∨ (4 ≤ i ∧ i < 16)) ∧ ∀ s e, s < 4 → xf_ent E m w s e → (i = 0 → ∃ p, p < lf_len P m ∧ lf_kd P m p = 10 ∧ H m p e (16 * s + lf_a P m p)) ∧ (4 ≤ i → ∃ p, p ≤ lf_len P m ∧ (p = lf_len P m ∨ lf_kd P m p = 10) ∧ H m p e (16 * s + i))
def xf_Bl (P : lf_P) (H : Nat → Nat → Nat → Nat → Prop) (Z E : Nat → Nat → Prop) (N : Nat → Prop) (s : mb_S) : Prop :=
  (∀ m k w i, m < 6 → k < 13 → w < 20 → pu_b (mb_I s 14 ((13 * m + k) * 20 + w)) i = true → xf_hs H E N m k w i) ∧
  (∀ m w i, m < 6 → w < 20 → pu_b (mb_I s 15 (20 * m + w)) i = true → xf_xs P H E N m w i) ∧
  (∀ m w i, m < 6 → w < 16 → pu_b (mb_I s 16 (20 * m + w)) i = true → i < 4 ∧ E m (16 * i + w)) ∧
  (∀ m i, m < 6 → pu_b (mb_I s 17 m) i = true → i < 13 ∧ N m ∧ Z m i)
def xf_I (s : mb_S) : Prop := (∀ m i, m < 6 → i < 4 → ∀ j, pu_b (mb_I s 16 (20 * m + (16 + i))) j = decide (j = i)) ∧ (∀ m w i, m < 6 → w < 16 → pu_b (mb_I s 16 (20 * m + w)) i = true → pu_b (mb_I s 14 ((13 * m + 0) * 20 + w)) w = true) ∧ pu_b (mb_I s 17 0) 0 = true
def xf_PT (P : lf_P) (L T : Nat → Nat → Nat → Prop) (s : mb_S) : Prop := (∀ m x o, m < 6 → x < 4 → (pu_b (mb_I s 11 (4 * m + x)) o = true ↔ L m x o)) ∧ (∀ m k t, m < 6 → k < lf_len P m → lf_kd P m k = 7 → (pu_b (mb_I s 13 (13 * m + k)) t = true ↔ T m k t)) ∧ ∀ m x o, L m x o → o < 6
def xf_W (P : lf_P) (q : lf_Q) (L T : Nat → Nat → Nat → Prop) (H : Nat → Nat → Nat → Nat → Prop) (Z E : Nat → Nat → Prop) (N : Nat → Prop) (s : mb_S) : Prop := lf_X P q s ∧ xf_PT P L T s ∧ (mb_F s 4 = 0 ∨ mb_F s 4 = 1) ∧ xf_I s ∧ xf_Bl P H Z E N s
def xf_KI (a : Nat) : Bool := decide (14 ≤ a ∧ a ≤ 17)
def xf_Fr : mb_S → mb_S → Prop := lf_fr (fun k => k = 4) (fun k => 14 ≤ k ∧ k ≤ 17) (fun _ => False)
def xf_op (C : mb_S → Prop) (s t : mb_S) : Prop := en_op (fun s => mb_F s 4) (eg_sg mp_K0 xf_KI mp_K0) (eg_mu 1560 0) (fun _ => True) xf_Fr (fun g _ => C g) s t
theorem xf_Fr.tr {a b c : mb_S} (h : xf_Fr a b) (h' : xf_Fr b c) : xf_Fr a c := lf_fr.tr h h'
theorem xf_Fr.X {P : lf_P} {q : lf_Q} {s t : mb_S} (hf : xf_Fr s t) (h : lf_X P q s) : lf_X P q t := h.fr (fun k hk => hf.2.1 k (fun z => by omega)) (hf.1 1 (by decide))
theorem xf_Fr.PT {P : lf_P} {L T : Nat → Nat → Nat → Prop} {s t : mb_S} (hf : xf_Fr s t) (h : xf_PT P L T s) : xf_PT P L T t := by
  unfold xf_PT
  rw [hf.2.1 11 (by decide), hf.2.1 13 (by decide)]
  exact h
section FX
variable {P : lf_P} {q : lf_Q} {L T : Nat → Nat → Nat → Prop} {H : Nat → Nat → Nat → Nat → Prop} {Z E : Nat → Nat → Prop} {N : Nat → Prop} {s t u : mb_S} {C C1 C2 : mb_S → Prop}
theorem xf_rf (h : mb_F s 4 = 0 ∨ mb_F s 4 = 1) (hC : C (eg_sg mp_K0 xf_KI mp_K0 s)) : xf_op C s s := en_rf (C := fun g _ => C g) lf_fr.rf h hC
theorem xf_wk (h : xf_op C1 s t) (hw : C1 (eg_sg mp_K0 xf_KI mp_K0 s) → C2 (eg_sg mp_K0 xf_KI mp_K0 s)) : xf_op C2 s t := en_wk (C1 := fun g _ => C1 g) (C2 := fun g _ => C2 g) h hw
theorem xf_seq (h1 : xf_op C1 s t) (h2 : xf_op C2 t u) : xf_op (fun g => C1 g ∧ C2 g) s u := en_seq (C1 := fun g _ => C1 g) (C2 := fun g _ => C2 g) (fun _ _ _ a b => xf_Fr.tr a b) (fun _ _ _ _ h => h) h1 h2
theorem xf_14 : mb_I (eg_sg mp_K0 xf_KI mp_K0 s) 14 = mb_I s 14 := eg_I (by decide)
theorem xf_15 : mb_I (eg_sg mp_K0 xf_KI mp_K0 s) 15 = mb_I s 15 := eg_I (by decide)
theorem xf_16 : mb_I (eg_sg mp_K0 xf_KI mp_K0 s) 16 = mb_I s 16 := eg_I (by decide)
theorem xf_17 : mb_I (eg_sg mp_K0 xf_KI mp_K0 s) 17 = mb_I s 17 := eg_I (by decide)
theorem mF_growHeld_e (hW : xf_W P q L T H Z E N s) {m k w : Nat} (hm : m < 6) (hk : k < 13) (hw : w < 20) {v : Int32} (hv : ∀ i, pu_b v i = true → xf_hs H E N m k w i) : ∃ t, mF_growHeld (nI (13 * m + k)) (nI w) v s = some ((), t) ∧ xf_W P q L T H Z E N t ∧ xf_op (fun g => mb_I g 14 ((13 * m + k) * 20 + w) ||| v = mb_I g 14 ((13 * m + k) * 20 + w)) s t := by
  obtain ⟨w1, w2, w3, w4, w5⟩ := hW
  have hc : (13 * m + k) * 20 + w < 1560 := by omega
  unfold mF_growHeld mF_growHeld_b38
  rw [me_20r, me_bnd, me_ld hc (by decide)]
  by_cases c : (v &&& (mb_I s 14 ((13 * m + k) * 20 + w) ^^^ (-1))) = 0
  · rw [if_pos c]
    exact ⟨s, rfl, ⟨w1, w2, w3, w4, w5⟩, xf_rf w3 (by rw [xf_14]; exact xp_new.mp c)⟩
  · have c2 : mb_I s 14 ((13 * m + k) * 20 + w) ||| v ≠ mb_I s 14 ((13 * m + k) * 20 + w) := fun z => c (xp_new.mpr z)
    rw [if_neg c, me_ld hc (by decide), me_stI hc (by decide), me_putZ1]
    have hf : xf_Fr s (mb_setF (mb_setI s 14 ((13 * m + k) * 20 + w) (mb_I s 14 ((13 * m + k) * 20 + w) ||| v)) 4 1) := (lf_fr.rf.setI ⟨by decide, by decide⟩).setF rfl
    refine ⟨_, rfl, ⟨hf.X w1, hf.PT w2, Or.inr rfl, ⟨w4.1, fun m' w' i hm' hw' z => ?_, w4.2.2⟩, ⟨fun m' k' w' i hm' hk' hw' z => ?_, w5.2⟩⟩, eg_growI (by decide) (by decide) (by decide) hc (Or.inr rfl) (fun z => absurd z (by decide)) (fun _ _ => c2) (fun z => z) hf⟩
    · show pu_b (upd (mb_I s 14) ((13 * m + k) * 20 + w) (mb_I s 14 ((13 * m + k) * 20 + w) ||| v) ((13 * m' + 0) * 20 + w')) w' = true
      have h := w4.2.1 m' w' i hm' hw' z
      rw [pu_upd]
      by_cases e : (13 * m' + 0) * 20 + w' = (13 * m + k) * 20 + w
      · rw [if_pos e, pu_b_or, ← e, h]; rfl
      · rw [if_neg e]; exact h
    · have z2 : pu_b (upd (mb_I s 14) ((13 * m + k) * 20 + w) (mb_I s 14 ((13 * m + k) * 20 + w) ||| v) ((13 * m' + k') * 20 + w')) i = true := z
      rw [pu_upd] at z2
      by_cases e : (13 * m' + k') * 20 + w' = (13 * m + k) * 20 + w
      · rw [if_pos e, pu_b_or] at z2
        rw [show m' = m by omega, show k' = k by omega, show w' = w by omega]
        rcases Bool.or_eq_true_iff.mp z2 with z | z
        · exact w5.1 m k w i hm hk hw z
        · exact hv i z
      · rw [if_neg e] at z2
        exact w5.1 m' k' w' i hm' hk' hw' z2
theorem mF_growExit_e (hW : xf_W P q L T H Z E N s) {m w : Nat} (hm : m < 6) (hw : w < 20) {v : Int32} (hv : ∀ i, pu_b v i = true → xf_xs P H E N m w i) : ∃ t, mF_growExit (nI m) (nI w) v s = some ((), t) ∧ xf_W P q L T H Z E N t ∧ xf_op (fun g => mb_I g 15 (20 * m + w) ||| v = mb_I g 15 (20 * m + w)) s t := by
  obtain ⟨w1, w2, w3, w4, w5⟩ := hW
  have hc : 20 * m + w < 120 := by omega
  unfold mF_growExit mF_growExit_b38
  rw [me_20, me_bnd, me_ld hc (by decide)]
  by_cases c : (v &&& (mb_I s 15 (20 * m + w) ^^^ (-1))) = 0
  · rw [if_pos c]
    exact ⟨s, rfl, ⟨w1, w2, w3, w4, w5⟩, xf_rf w3 (by rw [xf_15]; exact xp_new.mp c)⟩
  · have c2 : mb_I s 15 (20 * m + w) ||| v ≠ mb_I s 15 (20 * m + w) := fun z => c (xp_new.mpr z)
    rw [if_neg c, me_ld hc (by decide), me_stI hc (by decide), me_putZ1]
    have hf : xf_Fr s (mb_setF (mb_setI s 15 (20 * m + w) (mb_I s 15 (20 * m + w) ||| v)) 4 1) := (lf_fr.rf.setI ⟨by decide, by decide⟩).setF rfl
    refine ⟨_, rfl, ⟨hf.X w1, hf.PT w2, Or.inr rfl, w4, ⟨w5.1, fun m' w' i hm' hw' z => ?_, w5.2.2⟩⟩, eg_growI (by decide) (by decide) (by decide) (by omega) (Or.inr rfl) (fun z => absurd z (by decide)) (fun _ _ => c2) (fun z => z) hf⟩
    have z2 : pu_b (upd (mb_I s 15) (20 * m + w) (mb_I s 15 (20 * m + w) ||| v) (20 * m' + w')) i = true := z
    rw [pu_upd] at z2
    by_cases e : 20 * m' + w' = 20 * m + w
    · rw [if_pos e, pu_b_or] at z2
      rw [show m' = m by omega, show w' = w by omega]
      rcases Bool.or_eq_true_iff.mp z2 with z | z
      · exact w5.2.1 m w i hm hw z
      · exact hv i z
    · rw [if_neg e] at z2
      exact w5.2.1 m' w' i hm' hw' z2
theorem mF_growZero_e (hW : xf_W P q L T H Z E N s) {m k : Nat} (hm : m < 6) (hk : k < 13) (hN : N m) (hZ : Z m k) : ∃ t, mF_growZero (nI m) (nI k) s = some ((), t) ∧ xf_W P q L T H Z E N t ∧ xf_op (fun g => pu_b (mb_I g 17 m) k = true) s t := by
  obtain ⟨w1, w2, w3, w4, w5⟩ := hW
  unfold mF_growZero mF_growZero_b30
  rw [me_ld hm (by decide), mX_has_e _ (show k < 32 by omega), me_cal0]
  by_cases c : pu_b (mb_I s 17 m) k = true
  · rw [if_pos c, if_neg me_10]
    exact ⟨s, rfl, ⟨w1, w2, w3, w4, w5⟩, xf_rf w3 (by rw [xf_17]; exact c)⟩
  · have hor : mb_I s 17 m ||| ((1 : Int32) <<< (nI k &&& 31)) ≠ mb_I s 17 m := fun z => c (xp_or z ((pu_1l_t (by omega)).mpr rfl))
    rw [if_neg c, if_pos rfl, me_ld hm (by decide), me_stI hm (by decide), me_putZ1]
    have hf : xf_Fr s (mb_setF (mb_setI s 17 m (mb_I s 17 m ||| ((1 : Int32) <<< (nI k &&& 31)))) 4 1) := (lf_fr.rf.setI ⟨by decide, by decide⟩).setF rfl
    have hop : xf_op (fun g => mb_I g 17 m ||| ((1 : Int32) <<< (nI k &&& 31)) = mb_I g 17 m) s (mb_setF (mb_setI s 17 m (mb_I s 17 m ||| ((1 : Int32) <<< (nI k &&& 31)))) 4 1) := eg_growI (by decide) (by decide) (by decide) (by omega) (Or.inr rfl) (fun z => absurd z (by decide)) (fun _ _ => hor) (fun z => z) hf
    refine ⟨_, rfl, ⟨hf.X w1, hf.PT w2, Or.inr rfl, ⟨w4.1, w4.2.1, ?_⟩, ⟨w5.1, w5.2.1, w5.2.2.1, fun m' i hm' z => ?_⟩⟩, xf_wk hop (fun z => xp_or z ((pu_1l_t (by omega)).mpr rfl))⟩
    · show pu_b (upd (mb_I s 17) m (mb_I s 17 m ||| ((1 : Int32) <<< (nI k &&& 31))) 0) 0 = true
      rw [pu_upd]
      by_cases e : 0 = m
      · rw [if_pos e, pu_b_or, ← e, w4.2.2]; rfl
      · rw [if_neg e]; exact w4.2.2
    · have z2 : pu_b (upd (mb_I s 17) m (mb_I s 17 m ||| ((1 : Int32) <<< (nI k &&& 31))) m') i = true := z
      rw [pu_upd] at z2
      by_cases e : m' = m
      · rw [if_pos e] at z2
        rw [e]
        rcases pu_or_t.mp z2 with z | z
        · exact w5.2.2.2 m i hm z
        · rw [(pu_1l_t (by omega)).mp z]; exact ⟨hk, hN, hZ⟩
      · rw [if_neg e] at z2
        exact w5.2.2.2 m' i hm' z2
end FX
