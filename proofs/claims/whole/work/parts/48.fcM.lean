theorem pl_s : ∀ n, n < 64 → ((Int32.toInt64 (nI n) &&& 63).toBitVec.smod 64).toNat = n := by decide +kernel
theorem pl_1l {d : Nat} (hd : d < 64) (i : Nat) : pu_c ((1 : Int64) <<< (Int32.toInt64 (nI d) &&& 63)) i = decide (i = d) := by
  rcases Nat.lt_or_ge i 64 with h | h
  · exact (by decide +kernel : ∀ d, d < 64 → ∀ i, i < 64 → pu_c ((1 : Int64) <<< (Int32.toInt64 (nI d) &&& 63)) i = decide (i = d)) d hd i h
  · rw [pu_c_big h, decide_eq_false (by omega)]
theorem pl_shr {x : Int64} {n : Nat} (hn : n < 64) : ((x >>> (Int32.toInt64 (nI n) &&& 63)) &&& 1) = if pu_c x n = true then 1 else 0 := by
  apply Int64.toBitVec_inj.mp
  rw [Int64.toBitVec_and, Int64.toBitVec_shiftRight]
  show (x.toBitVec.sshiftRight ((Int32.toInt64 (nI n) &&& 63).toBitVec.smod 64).toNat) &&& 1#64 = _
  rw [pl_s n hn, BitVec.and_one_eq_setWidth_ofBool_getLsbD, BitVec.getLsbD_sshiftRight]
  unfold pu_c
  have h0 : decide (64 ≤ 0) = false := rfl
  simp only [Nat.add_zero, hn, if_true, h0, Bool.not_false, Bool.true_and]
  cases x.toBitVec.getLsbD n <;> rfl
theorem pl_cmp {a b : Int64} : lg_cmp a b = 0 ↔ a = b := by
  unfold lg_cmp
  by_cases h : a > b
  · rw [if_pos h]
    refine ⟨fun z => absurd z (by decide), fun z => ?_⟩
    subst z
    exact absurd h (Int64.lt_irrefl)
  · rw [if_neg h]
    by_cases h2 : a = b
    · rw [if_pos h2]; exact ⟨fun _ => h2, fun _ => rfl⟩
    · rw [if_neg h2]; exact ⟨fun z => absurd z (by decide), fun z => absurd z h2⟩
theorem pl_bit {x : Int64} {n : Nat} (hn : n < 64) : lg_cmp ((x >>> (Int32.toInt64 (nI n) &&& 63)) &&& 1) 1 = 0 ↔ pu_c x n = true := by
  rw [pl_cmp, pl_shr hn]
  cases pu_c x n
  · exact ⟨fun z => absurd z (by decide), fun z => (by cases z)⟩
  · exact ⟨fun _ => rfl, fun _ => rfl⟩
theorem pl_fld {i : Nat} (h : i < 64) : pu_c (-4222189076152336 : Int64) i = decide (4 ≤ i % 16) := (by decide +kernel : ∀ i, i < 64 → pu_c (-4222189076152336 : Int64) i = decide (4 ≤ i % 16)) i h
theorem pl_or {x y : Int64} (h : x ||| y = x) {o : Nat} (ho : pu_c y o = true) : pu_c x o = true := by
  rcases Nat.lt_or_ge o 64 with h1 | h1
  · exact pu_cor_iff.mp h o h1 ho
  · rw [pu_c_big h1] at ho; cases ho
theorem me_cell (m k e : Nat) : ((13 : Int32) * nI m + nI k) * 65 + nI e = nI ((13 * m + k) * 65 + e) := by
  show (nI 13 * nI m + nI k) * nI 65 + nI e = _
  rw [pk_mul, nI_add, pk_mul, nI_add]
theorem me_13l (i j : Nat) : (13 : Int32) * nI i + nI j = nI (13 * i + j) := by
  show nI 13 * nI i + nI j = _
  rw [pk_mul, nI_add]
def mf_KI (a : Nat) : Bool := decide (a = 11 ∨ a = 12)
def mf_KL (a : Nat) : Bool := decide (a = 0 ∨ a = 1)
def mf_Fr : mb_S → mb_S → Prop := lf_fr (fun k => k = 1) (fun k => k = 11 ∨ k = 12) (fun k => k = 0 ∨ k = 1)
def mf_op (C : mb_S → mb_S → Prop) (s t : mb_S) : Prop := en_op (fun s => mb_F s 1) (eg_sg mp_K0 mf_KI mf_KL) (eg_mu 78 5070) (fun _ => True) mf_Fr C s t
def mf_Bl (H : Nat → Nat → Nat → Nat → Prop) (Z E : Nat → Nat → Prop) (N : Nat → Prop) (s : mb_S) : Prop := (∀ m k e d, m < 6 → k < 13 → e ≤ 64 → d < 64 → pu_c (mb_L s 0 ((13 * m + k) * 65 + e)) d = true → H m k e d) ∧ (∀ m k, m < 6 → k < 13 → mb_I s 11 (13 * m + k) = 1 → Z m k) ∧ (∀ m e, m < 6 → e < 64 → pu_c (mb_L s 1 m) e = true → E m e) ∧ (∀ m, m < 6 → mb_I s 12 m = 1 → N m) ∧ mb_I s 12 0 = 1
def mf_PT (P : lf_P) (L T : Nat → Nat → Nat → Prop) (s : mb_S) : Prop := (∀ m x o, m < 6 → x < 4 → (pu_b (mb_I s 7 (4 * m + x)) o = true ↔ L m x o)) ∧ ∀ m k t, m < 6 → k < lf_len P m → lf_kd P m k = 7 → (pu_b (mb_I s 10 (12 * m + k)) t = true ↔ T m k t)
def mf_W (P : lf_P) (q : lf_Q) (L T : Nat → Nat → Nat → Prop) (H : Nat → Nat → Nat → Nat → Prop) (Z E : Nat → Nat → Prop) (N : Nat → Prop) (s : mb_S) : Prop := lf_M P q s ∧ mf_PT P L T s ∧ (mb_F s 1 = 0 ∨ mb_F s 1 = 1) ∧ (∀ j, j < 78 → mb_I s 11 j = 0 ∨ mb_I s 11 j = 1) ∧ (∀ j, j < 6 → mb_I s 12 j = 0 ∨ mb_I s 12 j = 1) ∧ mf_Bl H Z E N s
theorem mf_Fr.tr {a b c : mb_S} (h : mf_Fr a b) (h' : mf_Fr b c) : mf_Fr a c := lf_fr.tr h h'
theorem mf_Fr.M {P : lf_P} {q : lf_Q} {s t : mb_S} (hf : mf_Fr s t) (h : lf_M P q s) : lf_M P q t := h.fr (fun k hk => hf.2.1 k (fun z => by omega))
theorem mf_Fr.PT {P : lf_P} {L T : Nat → Nat → Nat → Prop} {s t : mb_S} (hf : mf_Fr s t) (h : mf_PT P L T s) : mf_PT P L T t := by
  unfold mf_PT
  rw [hf.2.1 7 (by decide), hf.2.1 10 (by decide)]
  exact h
section FM
variable {P : lf_P} {q : lf_Q} {L T : Nat → Nat → Nat → Prop} {H : Nat → Nat → Nat → Nat → Prop} {Z E : Nat → Nat → Prop} {N : Nat → Prop} {s t u : mb_S} {C C1 C2 : mb_S → Prop}
theorem mf_rf (h : mb_F s 1 = 0 ∨ mb_F s 1 = 1) (hC : C (eg_sg mp_K0 mf_KI mf_KL s)) : mf_op (fun g _ => C g) s s := en_rf (C := fun g _ => C g) lf_fr.rf h hC
theorem mf_wk (h : mf_op (fun g _ => C1 g) s t) (hw : C1 (eg_sg mp_K0 mf_KI mf_KL s) → C2 (eg_sg mp_K0 mf_KI mf_KL s)) : mf_op (fun g _ => C2 g) s t := en_wk (C1 := fun g _ => C1 g) (C2 := fun g _ => C2 g) h hw
theorem mf_seq (h1 : mf_op (fun g _ => C1 g) s t) (h2 : mf_op (fun g _ => C2 g) t u) : mf_op (fun g _ => C1 g ∧ C2 g) s u := en_seq (C1 := fun g _ => C1 g) (C2 := fun g _ => C2 g) (fun _ _ _ a b => mf_Fr.tr a b) (fun _ _ _ _ h => h) h1 h2
theorem mf_11 : mb_I (eg_sg mp_K0 mf_KI mf_KL s) 11 = mb_I s 11 := eg_I (by decide)
theorem mf_12 : mb_I (eg_sg mp_K0 mf_KI mf_KL s) 12 = mb_I s 12 := eg_I (by decide)
theorem mf_l0 : mb_L (eg_sg mp_K0 mf_KI mf_KL s) 0 = mb_L s 0 := eg_L (by decide)
theorem mf_l1 : mb_L (eg_sg mp_K0 mf_KI mf_KL s) 1 = mb_L s 1 := eg_L (by decide)
theorem mf_flag {C : mb_S → mb_S → Prop} (h : mf_op C s t) : mb_F t 1 = 0 ∨ mb_F t 1 = 1 := h.2.2.1
theorem mM_put_20 (hW : mf_W P q L T H Z E N s) {m p e : Nat} (hm : m < 6) (hp : p < 13) (he : e ≤ 64) {v : Int64} (hv : ∀ d, d < 64 → pu_c v d = true → H m p e d) : ∃ t, mM_put_b20 (nI m) (nI e) v (nI p) s = some ((), t) ∧ mf_W P q L T H Z E N t ∧ mf_op (fun g _ => mb_L g 0 ((13 * m + p) * 65 + e) ||| v = mb_L g 0 ((13 * m + p) * 65 + e)) s t := by
  obtain ⟨w1, w2, w3, w4, w5, w6⟩ := hW
  have hc : (13 * m + p) * 65 + e < 5070 := by omega
  have key : ∀ w : Int32, (w = 0 ∨ w = 1) → (w = 0 → mb_F s 1 = 0 ∧ mb_L s 0 ((13 * m + p) * 65 + e) ||| v = mb_L s 0 ((13 * m + p) * 65 + e)) → (mb_F s 1 = 0 → w = 1 → mb_L s 0 ((13 * m + p) * 65 + e) ||| v ≠ mb_L s 0 ((13 * m + p) * 65 + e)) → ∃ t, some ((), mb_setF (mb_setL s 0 ((13 * m + p) * 65 + e) (mb_L s 0 ((13 * m + p) * 65 + e) ||| v)) 1 w) = some ((), t) ∧ mf_W P q L T H Z E N t ∧ mf_op (fun g _ => mb_L g 0 ((13 * m + p) * 65 + e) ||| v = mb_L g 0 ((13 * m + p) * 65 + e)) s t := by
    intro w hw h0 h1
    have hf : mf_Fr s (mb_setF (mb_setL s 0 ((13 * m + p) * 65 + e) (mb_L s 0 ((13 * m + p) * 65 + e) ||| v)) 1 w) := (lf_fr.rf.setL (Or.inl rfl)).setF rfl
    refine ⟨_, rfl, ⟨hf.M w1, hf.PT w2, hw, w4, w5, ⟨fun m' k' e' d hm' hk' he' hd hbit => ?_, w6.2⟩⟩, eg_growL (by decide) (by decide) (by decide) hc hw h0 h1 (fun z => z) hf⟩
    have hb2 : pu_c (vp_updL (mb_L s 0) ((13 * m + p) * 65 + e) (mb_L s 0 ((13 * m + p) * 65 + e) ||| v) ((13 * m' + k') * 65 + e')) d = true := hbit
    rw [pu_updL] at hb2
    by_cases c : (13 * m' + k') * 65 + e' = (13 * m + p) * 65 + e
    · rw [if_pos c, pu_c_or] at hb2
      have e3 : e' = e := by omega
      have e1 : m' = m := by omega
      have e2 : k' = p := by omega
      rw [e1, e2, e3]
      rcases Bool.or_eq_true_iff.mp hb2 with z | z
      · exact w6.1 m p e d hm hp he hd z
      · exact hv d hd z
    · rw [if_neg c] at hb2
      exact w6.1 m' k' e' d hm' hk' he' hd hb2
  unfold mM_put_b20 mM_put_b74 mM_put_b79 mM_cellOf
  rw [me_cell, me_cal, me_ldL hc (by decide), me_stL hc (by decide), show ∀ x : Int64, mb_F (mb_setL s 0 ((13 * m + p) * 65 + e) x) 1 = mb_F s 1 from fun _ => rfl, me_ldL hc (by decide)]
  have e0 : mb_L (mb_setL s 0 ((13 * m + p) * 65 + e) (mb_L s 0 ((13 * m + p) * 65 + e) ||| v)) 0 ((13 * m + p) * 65 + e) = mb_L s 0 ((13 * m + p) * 65 + e) ||| v := by
    rw [pu_LL, if_pos rfl, pu_updL, if_pos rfl]
  rw [e0]
  by_cases c : mb_F s 1 = 0
  · rw [if_pos c]
    by_cases c2 : mb_L s 0 ((13 * m + p) * 65 + e) ||| v = mb_L s 0 ((13 * m + p) * 65 + e)
    · rw [if_pos (pl_cmp.mpr c2), me_putZ0]
      exact key 0 (Or.inl rfl) (fun _ => ⟨c, c2⟩) (fun _ z => absurd z (by decide))
    · rw [if_neg (fun z => c2 (pl_cmp.mp z)), me_putZ1]
      exact key 1 (Or.inr rfl) (fun z => absurd z (by decide)) (fun _ _ => c2)
  · rw [if_neg c, me_putZ1]
    exact key 1 (Or.inr rfl) (fun z => absurd z (by decide)) (fun z _ => absurd z c)
theorem mM_put_e (hpo : lf_ok P q) (hW : mf_W P q L T H Z E N s) {m k e : Nat} (hm : m < 6) (hk : k ≤ 13) (he : e ≤ 64) {v : Int64} (hv : ∀ d, d < 64 → pu_c v d = true → H m (min k (lf_len P m)) e d) : ∃ t, mM_put (nI m) (nI k) (nI e) v s = some ((), t) ∧ mf_W P q L T H Z E N t ∧ mf_op (fun g _ => mb_L g 0 ((13 * m + min k (lf_len P m)) * 65 + e) ||| v = mb_L g 0 ((13 * m + min k (lf_len P m)) * 65 + e)) s t := by
  have hl := hpo.1 m hm
  unfold mM_put
  rw [me_ld hm (by decide), hW.1.1 m hm]
  by_cases c : k ≤ lf_len P m
  · rw [Nat.min_eq_left c] at hv ⊢
    rw [if_pos ((nI_leI (by omega) (by omega)).mpr c)]
    exact mM_put_20 hW hm (by omega) he hv
  · rw [Nat.min_eq_right (by omega)] at hv ⊢
    rw [if_neg (fun z => c ((nI_leI (by omega) (by omega)).mp z)), me_ld hm (by decide), hW.1.1 m hm]
    exact mM_put_20 hW hm (by omega) he hv
end FM
