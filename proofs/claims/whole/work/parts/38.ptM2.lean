section PM2
variable {P : lf_P} {q : lf_Q} {L F : Nat → Nat → Nat → Prop} {R : Nat → Prop}
def mp_pair (P : lf_P) (q : lf_Q) (m k o t : Nat) (g : mb_S) : Prop := pu_b (mb_I g 7 (4 * m + lf_b P m k)) o = true → lf_ct P q o (lf_c P m k / 4) t →
  mb_I g 9 t = 1 ∧ mb_I g 7 (4 * t + 0) ||| ((1 : Int32) <<< (nI o &&& 31)) = mb_I g 7 (4 * t + 0) ∧ mb_I g 7 (4 * t + 1) ||| mb_I g 7 (4 * m + lf_c P m k % 4) = mb_I g 7 (4 * t + 1) ∧
  ∀ i, i < lf_len P t → lf_kd P t i = 10 → mb_I g 7 (4 * m + lf_a P m k) ||| mb_I g 7 (4 * t + lf_a P t i) = mb_I g 7 (4 * m + lf_a P m k)
theorem mp_flag {C : mb_S → mb_S → Prop} {s t : mb_S} (h : mp_op C s t) : mb_F t 1 = 0 ∨ mb_F t 1 = 1 := h.2.2.1
theorem mM_cp_100 (hpo : lf_ok P q) (hC : lf_PC P q L F R) {m k o t : Nat} (hm : m < 6) (hk : k < lf_len P m) (c7 : lf_kd P m k = 7) (ht : t < 6) (hRm : R m) (hLo : L m (lf_b P m k) o) (hct : lf_ct P q o (lf_c P m k / 4) t) (k2 : Int32 → Int32 → Int32 → mb_S → Option (Unit × mb_S)) (k11 : Int32 → Int32 → Int32 → Int32 → mb_S → Option (Unit × mb_S)) (Q : Unit × mb_S → Prop) (C0 : mb_S → Prop) {s0 : mb_S}
    (hk11 : ∀ s, mp_W P q L F R s → mp_op (fun g _ => C0 g ∧ ∀ i, i < lf_len P t → lf_kd P t i = 10 → mb_I g 7 (4 * m + lf_a P m k) ||| mb_I g 7 (4 * t + lf_a P t i) = mb_I g 7 (4 * m + lf_a P m k)) s0 s → pu_wp (k11 (nI m) (nI (12 * m + k)) (nI o) (nI (t + 1)) s) Q) :
    ∀ (d j n : Nat) (s : mb_S), j + d = lf_len P t → d < n → mp_W P q L F R s → mp_op (fun g _ => C0 g ∧ ∀ i, i < j → lf_kd P t i = 10 → mb_I g 7 (4 * m + lf_a P m k) ||| mb_I g 7 (4 * t + lf_a P t i) = mb_I g 7 (4 * m + lf_a P m k)) s0 s → pu_wp (mM_callPoints_l100 k2 k11 n (nI m) (nI (12 * m + k)) (nI o) (nI t) (nI j) s) Q := by
  have hl := hpo.1 _ hm
  have hlt := hpo.1 _ ht
  obtain ⟨o1, o2, o3, o4, o5, o6⟩ := hpo.2.1 _ hm _ hk
  have ha : lf_a P m k < 4 := o3 (by omega)
  obtain ⟨-, -, -, hret⟩ := (hC.2 m k hm hk hRm).2.2.2.2 c7 o t hLo hct
  intro d
  induction d with
  | zero =>
    intro j n s hj hn hW hop
    obtain ⟨n, rfl⟩ : ∃ z, n = z + 1 := ⟨n - 1, by omega⟩
    rw [mM_callPoints_l100_s, me_ld ht (by decide), hW.1.1 _ ht, if_pos ((nI_leI (by omega) (by omega)).mpr (by omega))]
    unfold mM_callPoints_b170
    rw [me_bnd, nI_1]
    rw [show j = lf_len P t by omega] at hop
    exact hk11 s hW hop
  | succ d ih =>
    intro j n s hj hn hW hop
    obtain ⟨n, rfl⟩ : ∃ z, n = z + 1 := ⟨n - 1, by omega⟩
    have hjl : j < lf_len P t := by omega
    obtain ⟨b1, b2, b3, b4⟩ := hW.1.2.1 _ ht _ hjl
    obtain ⟨p1, p2, p3, p4, p5, p6⟩ := hpo.2.1 _ ht _ hjl
    rw [mM_callPoints_l100_s, me_ld ht (by decide), hW.1.1 _ ht, if_neg (fun z => absurd ((nI_leI (by omega) (by omega)).mp z) (by omega)), me_12, me_ld (by omega) (by decide), b1, pu_l10]
    unfold mM_callPoints_b164
    by_cases c10 : lf_kd P t j = 10
    · have haj : lf_a P t j < 4 := p3 (by omega)
      rw [if_pos ((nI_eq (by omega) (by omega)).mpr c10), me_ld (by omega) (by decide), (hW.1.2.1 _ hm _ hk).2.1, me_ld (by omega) (by decide), b2, me_4, me_ld (by omega) (by decide)]
      obtain ⟨u, u1, u2, u3⟩ := mM_grow_e hW hm ha (v := mb_I s 7 (4 * t + lf_a P t j)) (fun p hp => hret j p hjl c10 (hW.2.2.2.1 t (lf_a P t j) p ht haj hp))
      rw [u1, me_cal, me_bnd, nI_1]
      refine ih (j + 1) n u (by omega) (by omega) u2 (mp_wk (mp_seq hop (mp_wk (C2 := fun g => mb_I g 7 (4 * m + lf_a P m k) ||| mb_I g 7 (4 * t + lf_a P t j) = mb_I g 7 (4 * m + lf_a P m k)) u3 (fun z => ?_))) (fun z => ⟨z.1.1, fun i hi hi10 => ?_⟩))
      · rw [mp_7] at z ⊢; exact z
      · by_cases e : i = j
        · rw [e]; exact z.2
        · exact z.1.2 i (by omega) hi10
    · rw [if_neg (fun z => c10 ((nI_eq (by omega) (by omega)).mp z)), me_bnd, nI_1]
      refine ih (j + 1) n s (by omega) (by omega) hW (mp_wk hop (fun z => ⟨z.1, fun i hi hi10 => ?_⟩))
      by_cases e : i = j
      · rw [e] at hi10; exact absurd hi10 c10
      · exact z.2 i (by omega) hi10
theorem mM_cp_11 (hpo : lf_ok P q) (hC : lf_PC P q L F R) {m k o : Nat} (hm : m < 6) (hk : k < lf_len P m) (c7 : lf_kd P m k = 7) (ho : o < 6) (hRm : R m) (k2 : Int32 → Int32 → Int32 → mb_S → Option (Unit × mb_S)) (Q : Unit × mb_S → Prop) (C0 : mb_S → Prop) {s0 : mb_S}
    (hk2 : ∀ s, mp_W P q L F R s → mp_op (fun g _ => C0 g ∧ ∀ t, t < 6 → mp_pair P q m k o t g) s0 s → pu_wp (k2 (nI m) (nI (12 * m + k)) (nI (o + 1)) s) Q) :
    ∀ (d t n : Nat) (s : mb_S), t + d = 6 → d < n → mp_W P q L F R s → mp_op (fun g _ => C0 g ∧ ∀ t', t' < t → mp_pair P q m k o t' g) s0 s → pu_wp (mM_callPoints_l11 k2 n (nI m) (nI (12 * m + k)) (nI o) (nI t) s) Q := by
  have hl := hpo.1 _ hm
  obtain ⟨o1, o2, o3, o4, o5, o6⟩ := hpo.2.1 _ hm _ hk
  have hb := o4 (by omega)
  have hc := o6 c7
  intro d
  induction d with
  | zero =>
    intro t n s htd hn hW hop
    obtain ⟨n, rfl⟩ : ∃ z, n = z + 1 := ⟨n - 1, by omega⟩
    rw [mM_callPoints_l11_s, pu_l6, if_pos ((nI_leI (by omega) (by omega)).mpr (by omega)), me_bnd, nI_1]
    rw [show t = 6 by omega] at hop
    exact hk2 s hW hop
  | succ d ih =>
    intro t n s htd hn hW hop
    obtain ⟨n, rfl⟩ : ∃ z, n = z + 1 := ⟨n - 1, by omega⟩
    have ht : t < 6 := by omega
    have next : ∀ u, mp_W P q L F R u → mp_op (fun g _ => (C0 g ∧ ∀ t', t' < t → mp_pair P q m k o t' g) ∧ mp_pair P q m k o t g) s0 u → pu_wp (mM_callPoints_l11 k2 n (nI m) (nI (12 * m + k)) (nI o) (nI (t + 1)) u) Q := by
      intro u hu hou
      refine ih (t + 1) n u (by omega) (by omega) hu (mp_wk hou (fun z => ⟨z.1.1, fun t' ht' => ?_⟩))
      by_cases e : t' = t
      · rw [e]; exact z.2
      · exact z.1.2 t' (by omega)
    rw [mM_callPoints_l11_s, pu_l6, if_neg (fun z => absurd ((nI_leI (a := 6) (b := t) (by omega) (by omega)).mp z) (by omega))]
    rcases mM_calls_e hW.1 hpo hm hk c7 ho ht with ⟨⟨hbit, hct⟩, ec⟩ | ⟨hno, ec⟩
    · have hLo := hW.2.2.2.1 m _ o hm hb hbit
      obtain ⟨hRt, hL0, hL1, -⟩ := (hC.2 m k hm hk hRm).2.2.2.2 c7 o t hLo hct
      have main : ∀ w : Int32, (w = 0 ∨ w = 1) → (w = 0 → mb_F s 1 = 0 ∧ mb_I s 9 t = 1) → (mb_F s 1 = 0 → w = 1 → mb_I s 9 t ≠ 1) → pu_wp (mM_callPoints_b52 k2 (mM_callPoints_l11 k2 n) (nI m) (nI (12 * m + k)) (nI o) (nI t) w s) Q := by
        intro w hw h0 h1
        obtain ⟨v1, v2⟩ := mM_reach_e hW ht hRt hw h0 h1
        unfold mM_callPoints_b52
        have e1 : mb_putZ s 1 w (fun s9 => mb_stZ s9 9 6 (nI t) 1 fun s10 => mb_cal (mM_grow (nI t) 0 ((1 : Int32) <<< (nI o &&& 31)) s10) fun _u s11 => mb_ld (mb_I s11 4) 72 (nI (12 * m + k)) fun v12 => mb_ld (mb_I s11 7) 24 ((4 : Int32) * nI m + (v12 - v12 / 4 * 4)) fun v13 => mb_cal (mM_grow (nI t) 1 v13 s11) fun _u s14 => mM_callPoints_l100 k2 (mM_callPoints_l11 k2 n) mb_fuel (nI m) (nI (12 * m + k)) (nI o) (nI t) 0 s14) = mb_stZ (mb_setF s 1 w) 9 6 (nI t) 1 (fun s10 => mb_cal (mM_grow (nI t) 0 ((1 : Int32) <<< (nI o &&& 31)) s10) fun _u s11 => mb_ld (mb_I s11 4) 72 (nI (12 * m + k)) fun v12 => mb_ld (mb_I s11 7) 24 ((4 : Int32) * nI m + (v12 - v12 / 4 * 4)) fun v13 => mb_cal (mM_grow (nI t) 1 v13 s11) fun _u s14 => mM_callPoints_l100 k2 (mM_callPoints_l11 k2 n) mb_fuel (nI m) (nI (12 * m + k)) (nI o) (nI t) 0 s14) := by
          unfold mb_putZ
          rw [if_pos hw]
        rw [e1, me_stZ1 ht (by decide)]
        obtain ⟨u, u1, u2, u3⟩ := mM_grow_e v1 ht (x := 0) (by decide) (v := (1 : Int32) <<< (nI o &&& 31)) (fun p hp => by
          rw [pu_b_1l (by omega)] at hp
          rw [of_decide_eq_true hp]; exact hL0)
        rw [show mM_grow (nI t) 0 ((1 : Int32) <<< (nI o &&& 31)) (mb_setI (mb_setF s 1 w) 9 t 1) = some ((), u) from u1, me_cal, me_ld (by omega) (by decide), (u2.1.2.1 _ hm _ hk).2.2.2, me_m4 (by omega), me_4, me_ld (by omega) (by decide)]
        obtain ⟨x, x1, x2, x3⟩ := mM_grow_e u2 ht (x := 1) (by decide) (v := mb_I u 7 (4 * m + lf_c P m k % 4)) (fun p hp => hL1 p (u2.2.2.2.1 m _ p hm (by omega) hp))
        rw [show mM_grow (nI t) 1 (mb_I u 7 (4 * m + lf_c P m k % 4)) u = some ((), x) from x1, me_cal, ← nI_0]
        have x3' : mp_op (fun g _ => mb_I g 7 (4 * t + 1) ||| mb_I g 7 (4 * m + lf_c P m k % 4) = mb_I g 7 (4 * t + 1)) u x := mp_wk x3 (fun z => by rw [mp_7] at z ⊢; exact z)
        have hlt := hpo.1 _ ht
        refine mM_cp_100 hpo hC hm hk c7 ht hRm hLo hct k2 (mM_callPoints_l11 k2 n) Q (fun g => (mb_I g 9 t = 1 ∧ mb_I g 7 (4 * t + 0) ||| ((1 : Int32) <<< (nI o &&& 31)) = mb_I g 7 (4 * t + 0)) ∧ mb_I g 7 (4 * t + 1) ||| mb_I g 7 (4 * m + lf_c P m k % 4) = mb_I g 7 (4 * t + 1)) (s0 := s) (fun y hy hoy => ?_) (lf_len P t) 0 mb_fuel x (Nat.zero_add _) (by unfold mb_fuel; omega) x2 (mp_wk (mp_seq (mp_seq v2 u3) x3') (fun z => ⟨z, fun i hi => absurd hi (Nat.not_lt_zero _)⟩))
        refine next y hy (mp_wk (mp_seq hop hoy) (fun z => ⟨z.1, fun _ _ => ⟨z.2.1.1.1, z.2.1.1.2, z.2.1.2, z.2.2⟩⟩))
      rw [ec, me_cal, if_neg me_10]
      unfold mM_callPoints_b47
      by_cases cf : mb_F s 1 = 0
      · rw [if_pos cf, me_ld ht (by decide)]
        by_cases c9 : mb_I s 9 t = 0
        · rw [if_pos c9]
          exact main 1 (Or.inr rfl) (fun z => absurd z (by decide)) (fun _ _ z => by rw [c9] at z; exact absurd z (by decide))
        · rw [if_neg c9]
          have h91 : mb_I s 9 t = 1 := by
            rcases hW.2.2.1 t ht with z | z
            · exact absurd z c9
            · exact z
          exact main 0 (Or.inl rfl) (fun _ => ⟨cf, h91⟩) (fun _ z => absurd z (by decide))
      · rw [if_neg cf]
        exact main 1 (Or.inr rfl) (fun z => absurd z (by decide)) (fun z _ => absurd z cf)
    · rw [ec, me_cal, if_pos rfl]
      unfold mM_callPoints_b170
      rw [me_bnd, nI_1]
      refine next s hW (mp_seq hop (mp_rf (C := mp_pair P q m k o t) (mp_flag hop) (fun h1 h2 => ?_)))
      rw [mp_7] at h1
      exact absurd ⟨h1, h2⟩ hno
theorem mM_callPoints_e (hpo : lf_ok P q) (hC : lf_PC P q L F R) {m k : Nat} (hm : m < 6) (hk : k < lf_len P m) (c7 : lf_kd P m k = 7) (hRm : R m) {s0 : mb_S} : ∀ (d o n : Nat) (s : mb_S), o + d = 6 → d < n → mp_W P q L F R s → mp_op (fun g _ => ∀ o' t, o' < o → t < 6 → mp_pair P q m k o' t g) s0 s → pu_wp (mM_callPoints_l2 n (nI m) (nI (12 * m + k)) (nI o) s) (fun z => mp_W P q L F R z.2 ∧ mp_op (fun g _ => ∀ o t, o < 6 → t < 6 → mp_pair P q m k o t g) s0 z.2) := by
  intro d
  induction d with
  | zero =>
    intro o n s hod hn hW hop
    obtain ⟨n, rfl⟩ : ∃ z, n = z + 1 := ⟨n - 1, by omega⟩
    rw [mM_callPoints_l2_s, pu_l6, if_pos ((nI_leI (by omega) (by omega)).mpr (by omega)), pu_some]
    rw [show o = 6 by omega] at hop
    exact ⟨hW, hop⟩
  | succ d ih =>
    intro o n s hod hn hW hop
    obtain ⟨n, rfl⟩ : ∃ z, n = z + 1 := ⟨n - 1, by omega⟩
    rw [mM_callPoints_l2_s, pu_l6, if_neg (fun z => absurd ((nI_leI (a := 6) (b := o) (by omega) (by omega)).mp z) (by omega)), ← nI_0]
    refine mM_cp_11 hpo hC hm hk c7 (show o < 6 by omega) hRm (mM_callPoints_l2 n) _ (fun g => ∀ o' t, o' < o → t < 6 → mp_pair P q m k o' t g) (s0 := s0) (fun u hu hou => ih (o + 1) n u (by omega) (by omega) hu (mp_wk hou (fun z o' t ho' ht => ?_))) 6 0 mb_fuel s rfl (by unfold mb_fuel; omega) hW (mp_wk hop (fun z => ⟨z, fun t' ht' => absurd ht' (Nat.not_lt_zero _)⟩))
    by_cases e : o' = o
    · rw [e]; exact z.2 t ht
    · exact z.1 o' t (by omega) ht
end PM2
