section FM10
variable {P : lf_P} {q : lf_Q} {L T : Nat → Nat → Nat → Prop} {H : Nat → Nat → Nat → Nat → Prop} {Z E : Nat → Nat → Prop} {N : Nat → Prop}
def mf_se (P : lf_P) (L T : Nat → Nat → Nat → Prop) (m e : Nat) (gs : mb_S) : Prop := ((e = 64 → mb_I gs 11 (13 * m) = 1) ∧ (e ≠ 64 → pu_c (mb_L gs 0 ((13 * m) * 65 + e)) e = true)) ∧ mf_af P L T m e (lf_len P m) gs
theorem mM_allFrom_e (hpo : lf_ok P q) (hC : lf_FC P L T H Z E N) {m e : Nat} (hm : m < 6) (he : e ≤ 64) (hN : e = 64 → N m) (hE : e ≠ 64 → E m e) {s : mb_S} (hW : mf_W P q L T H Z E N s) : pu_wp (mM_allFrom (nI m) (nI e) s) (fun z => mf_W P q L T H Z E N z.2 ∧ mf_op (fun gs _ => mf_se P L T m e gs) s z.2) := by
  have hl := hpo.1 m hm
  have hmin : min 0 (lf_len P m) = 0 := Nat.min_eq_left (Nat.zero_le _)
  have fin : ∀ u, mf_W P q L T H Z E N u → mf_op (fun gs _ => (e = 64 → mb_I gs 11 (13 * m) = 1) ∧ (e ≠ 64 → pu_c (mb_L gs 0 ((13 * m) * 65 + e)) e = true)) s u → pu_wp (mM_allFrom_b25 (nI m) (nI e) u) (fun z => mf_W P q L T H Z E N z.2 ∧ mf_op (fun gs _ => mf_se P L T m e gs) s z.2) := by
    intro u hu hou
    unfold mM_allFrom_b25
    rw [← nI_0]
    exact mM_af_27 hpo hC hm he hN hE (s0 := s) (C0 := fun gs => (e = 64 → mb_I gs 11 (13 * m) = 1) ∧ (e ≠ 64 → pu_c (mb_L gs 0 ((13 * m) * 65 + e)) e = true)) (lf_len P m) 0 mb_fuel u (Nat.zero_add _) (by unfold mb_fuel; omega) hu (mf_wk hou (fun z => ⟨z, fun j h => absurd h (Nat.not_lt_zero _)⟩))
  unfold mM_allFrom
  rw [pu_l64]
  by_cases c64 : e = 64
  · rw [if_pos ((nI_eq (by omega) (by omega)).mpr c64)]
    obtain ⟨u, e1, e2, e3⟩ := mM_putZero_e hpo hW hm (k := 0) (by omega) (by rw [hmin]; exact hC.2.1 m hm (hN c64))
    rw [show mM_putZero (nI m) 0 s = some ((), u) from e1, me_cal]
    refine fin u e2 (mf_wk e3 (fun z => ⟨fun _ => ?_, fun h => absurd c64 h⟩))
    rw [hmin] at z; exact z
  · have he64 : e < 64 := by omega
    rw [if_neg (fun z => c64 ((nI_eq (by omega) (by omega)).mp z))]
    obtain ⟨u, e1, e2, e3⟩ := mM_put_e hpo hW hm (k := 0) (by omega) he (v := (1 : Int64) <<< (Int32.toInt64 (nI e) &&& 63)) (fun d' _ z => by
      rw [pl_1l he64] at z
      rw [of_decide_eq_true z, hmin]; exact hC.2.2.1 m e hm he64 (hE c64))
    rw [show mM_put (nI m) 0 (nI e) ((1 : Int64) <<< (Int32.toInt64 (nI e) &&& 63)) s = some ((), u) from e1, me_cal]
    refine fin u e2 (mf_wk e3 (fun z => ⟨fun h => absurd h c64, fun _ => ?_⟩))
    rw [hmin] at z
    exact pl_or z (by rw [pl_1l he64]; exact decide_eq_true rfl)
def mf_en (m e : Nat) (gs : mb_S) : Prop := (e = 64 → mb_I gs 12 m = 1) ∧ (e ≠ 64 → pu_c (mb_L gs 1 m) e = true)
theorem mM_isEntry_e {s : mb_S} (hW : mf_W P q L T H Z E N s) {m e : Nat} (hm : m < 6) (he : e ≤ 64) : (mf_en m e s ∧ mM_isEntry (nI m) (nI e) s = some (1, s)) ∨ (¬ mf_en m e s ∧ mM_isEntry (nI m) (nI e) s = some (0, s)) := by
  unfold mM_isEntry mM_isEntry_b35
  rw [pu_l64]
  by_cases c64 : e = 64
  · rw [if_pos ((nI_eq (by omega) (by omega)).mpr c64), me_ld hm (by decide)]
    rcases hW.2.2.2.2.1 m hm with z | z
    · rw [z, me_rZ0]
      exact Or.inr ⟨fun h => by have := h.1 c64; rw [z] at this; exact absurd this (by decide), rfl⟩
    · rw [z, me_rZ1]
      exact Or.inl ⟨⟨fun _ => z, fun h => absurd c64 h⟩, rfl⟩
  · rw [if_neg (fun z => c64 ((nI_eq (by omega) (by omega)).mp z)), me_ldL hm (by decide)]
    by_cases c : pu_c (mb_L s 1 m) e = true
    · rw [if_pos ((pl_bit (by omega)).mpr c), me_rZ1]
      exact Or.inl ⟨⟨fun h => absurd h c64, fun _ => c⟩, rfl⟩
    · rw [if_neg (fun z => c ((pl_bit (by omega)).mp z)), me_rZ0]
      exact Or.inr ⟨fun h => c (h.2 c64), rfl⟩
def mf_up (P : lf_P) (L T : Nat → Nat → Nat → Prop) (m e : Nat) (gs : mb_S) : Prop := ∀ i j, i < 6 → j ≤ 64 → (i < m ∨ (i = m ∧ j < e)) → mf_en i j gs → mf_se P L T i j gs
theorem mM_wf_114 (hpo : lf_ok P q) (hC : lf_FC P L T H Z E N) {m : Nat} (hm : m < 6) (k86 : Int32 → mb_S → Option (Unit × mb_S)) (k106 : Int32 → Int32 → mb_S → Option (Unit × mb_S)) (x1 : Int32) (Q : Unit × mb_S → Prop) {s0 : mb_S}
    (hk106 : ∀ s, mf_W P q L T H Z E N s → mf_op (fun gs _ => mf_up P L T (m + 1) 0 gs) s0 s → pu_wp (k106 x1 (nI (m + 1)) s) Q) :
    ∀ (f e n : Nat) (s : mb_S), e + f = 65 → f < n → mf_W P q L T H Z E N s → mf_op (fun gs _ => mf_up P L T m e gs) s0 s → pu_wp (mM_workFacts_l114 k86 k106 n x1 (nI m) (nI e) s) Q := by
  intro f
  induction f with
  | zero =>
    intro e n s hed hn hW hop
    obtain ⟨n, rfl⟩ : ∃ z, n = z + 1 := ⟨n - 1, by omega⟩
    rw [mM_workFacts_l114_s, pu_l64, if_pos ((nI_ltI (by omega) (by omega)).mpr (by omega)), me_bnd, nI_1]
    refine hk106 s hW (mf_wk hop (fun z i j hi hj hlt hen => z i j hi hj ?_ hen))
    by_cases ei : i = m
    · exact Or.inr ⟨ei, by omega⟩
    · exact Or.inl (by omega)
  | succ f ih =>
    intro e n s hed hn hW hop
    obtain ⟨n, rfl⟩ : ∃ z, n = z + 1 := ⟨n - 1, by omega⟩
    have he : e ≤ 64 := by omega
    rw [mM_workFacts_l114_s, pu_l64, if_neg (fun z => absurd ((nI_ltI (a := 64) (b := e) (by omega) (by omega)).mp z) (by omega))]
    unfold mM_workFacts_b135
    rcases mM_isEntry_e hW hm he with ⟨hen, ee⟩ | ⟨hno, ee⟩
    · rw [ee, me_cal, if_neg me_10, pu_cal]
      refine pu_mono (mM_allFrom_e hpo hC hm he (fun h => hW.2.2.2.2.2.2.2.2.1 m hm (hen.1 h)) (fun h => hW.2.2.2.2.2.2.2.1 m e hm (by omega) (hen.2 h)) hW) (fun z hz => ?_)
      rw [me_bnd, nI_1]
      refine ih (e + 1) n z.2 (by omega) (by omega) hz.1 (mf_wk (mf_seq hop hz.2) (fun y i j hi hj hlt hen' => ?_))
      by_cases ei : i = m ∧ j = e
      · rw [ei.1, ei.2]; exact y.2
      · exact y.1 i j hi hj (by omega) hen'
    · rw [ee, me_cal, if_pos rfl, me_bnd, nI_1]
      refine ih (e + 1) n s (by omega) (by omega) hW (mf_wk (mf_seq hop (mf_rf (C := fun gs => ¬ mf_en m e gs) hW.2.2.1 (fun h => hno (by unfold mf_en at h ⊢; rw [mf_12, mf_l1] at h; exact h)))) (fun y i j hi hj hlt hen' => ?_))
      by_cases ei : i = m ∧ j = e
      · rw [ei.1, ei.2] at hen'; exact absurd hen' y.2
      · exact y.1 i j hi hj (by omega) hen'
theorem mM_wf_106 (hpo : lf_ok P q) (hC : lf_FC P L T H Z E N) (k86 : Int32 → mb_S → Option (Unit × mb_S)) {i : Nat} (Q : Unit × mb_S → Prop) {s0 : mb_S}
    (hk86 : ∀ s, mf_W P q L T H Z E N s → mf_op (fun gs _ => mf_up P L T 6 0 gs) s0 s → pu_wp (k86 (nI (i + 1)) s) Q) :
    ∀ (f m n : Nat) (s : mb_S), m + f = 6 → f < n → mf_W P q L T H Z E N s → mf_op (fun gs _ => mf_up P L T m 0 gs) s0 s → pu_wp (mM_workFacts_l106 k86 n (nI i) (nI m) s) Q := by
  intro f
  induction f with
  | zero =>
    intro m n s hmd hn hW hop
    obtain ⟨n, rfl⟩ : ∃ z, n = z + 1 := ⟨n - 1, by omega⟩
    rw [mM_workFacts_l106_s, pu_l6, if_pos ((nI_leI (by omega) (by omega)).mpr (by omega)), me_bnd, nI_1]
    rw [show m = 6 by omega] at hop
    exact hk86 s hW hop
  | succ f ih =>
    intro m n s hmd hn hW hop
    obtain ⟨n, rfl⟩ : ∃ z, n = z + 1 := ⟨n - 1, by omega⟩
    rw [mM_workFacts_l106_s, pu_l6, if_neg (fun z => absurd ((nI_leI (a := 6) (b := m) (by omega) (by omega)).mp z) (by omega)), ← nI_0]
    exact mM_wf_114 hpo hC (show m < 6 by omega) k86 (mM_workFacts_l106 k86 n) (nI i) Q (s0 := s0) (fun u hu hou => ih (m + 1) n u (by omega) (by omega) hu hou) 65 0 mb_fuel s rfl (by unfold mb_fuel; omega) hW hop
end FM10
