def xf_tr (P : lf_P) (L : Nat → Nat → Nat → Prop) (m k i j : Nat) : Prop :=
  (¬ ((lf_kd P m k = 0 ∨ lf_kd P m k = 1 ∨ (3 ≤ lf_kd P m k ∧ lf_kd P m k ≤ 5)) ∧ i = lf_a P m k) ∧ j = i) ∨
  ((lf_kd P m k = 4 ∨ lf_kd P m k = 5) ∧ i = lf_b P m k ∧ j = lf_a P m k) ∨
  (lf_kd P m k = 6 ∧ i = lf_b P m k ∧ ∃ o, o < 6 ∧ L m (lf_a P m k) o ∧ j = 4 + 2 * o + lf_c P m k) ∨
  (lf_kd P m k = 5 ∧ ∃ o, o < 6 ∧ i = 4 + 2 * o + lf_c P m k ∧ L m (lf_b P m k) o ∧ j = lf_a P m k)
def xf_ps (P : lf_P) (L T : Nat → Nat → Nat → Prop) (m k w : Nat) (f : Int32) (g : mb_S) : Prop :=
  (lf_kd P m k = 7 → xf_cl P T m k w f g) ∧ (lf_kd P m k = 10 → (∀ i, 4 ≤ i → i < 16 → pu_b f i = true → pu_b (mb_I g 15 (20 * m + w)) i = true) ∧ (pu_b f (lf_a P m k) = true → pu_b (mb_I g 15 (20 * m + w)) 0 = true)) ∧
  (lf_kd P m k ≠ 7 → lf_kd P m k ≠ 10 → ∀ i j p, pu_b f i = true → xf_tr P L m k i j → lf_nx P m k p → pu_b (mb_I g 14 ((13 * m + p) * 20 + w)) j = true)
section FX4
variable {P : lf_P} {q : lf_Q} {L T : Nat → Nat → Nat → Prop} {H : Nat → Nat → Nat → Nat → Prop} {Z E : Nat → Nat → Prop} {N : Nat → Prop} {s : mb_S}
theorem xf_tr_iff (s : Nat) {m k i d' : Nat} (hi : i < 16) : lf_tr P L m k (16 * s + i) d' ↔ ∃ j, xf_tr P L m k i j ∧ d' = 16 * s + j := by
  have e1 : (16 * s + i) % 16 = i := by omega
  have e2 : 16 * s + i - i = 16 * s := by omega
  unfold lf_tr xf_tr
  rw [e1, e2]
  constructor
  · rintro (⟨h1, h2⟩ | ⟨h1, h2, h3⟩ | ⟨h1, h2, o, h3, h4, h5⟩ | ⟨h1, o, h2, h3, h4, h5⟩)
    · exact ⟨i, Or.inl ⟨h1, rfl⟩, h2⟩
    · exact ⟨_, Or.inr (Or.inl ⟨h1, h2, rfl⟩), h3⟩
    · exact ⟨_, Or.inr (Or.inr (Or.inl ⟨h1, h2, o, h3, h4, rfl⟩)), h5⟩
    · exact ⟨_, Or.inr (Or.inr (Or.inr ⟨h1, o, h2, h3, h4, rfl⟩)), h5⟩
  · rintro ⟨j, (⟨h1, h2⟩ | ⟨h1, h2, h3⟩ | ⟨h1, h2, o, h3, h4, h5⟩ | ⟨h1, o, h2, h3, h4, h5⟩), hd⟩
    · exact Or.inl ⟨h1, by omega⟩
    · exact Or.inr (Or.inl ⟨h1, h2, by omega⟩)
    · exact Or.inr (Or.inr (Or.inl ⟨h1, h2, o, h3, h4, by omega⟩))
    · exact Or.inr (Or.inr (Or.inr ⟨h1, o, h2, h3, h4, by omega⟩))
theorem mF_fieldsOf_l {v : Int32} {c : Nat} (hc : c < 2) : ∀ (d o n : Nat) (x : Int32), o + d = 6 → d < n → ∃ r, mF_fieldsOf_l4 n v (nI c) x (nI o) = some r ∧ ∀ p, pu_b r p = true ↔ (pu_b x p = true ∨ ∃ o', o ≤ o' ∧ o' < 6 ∧ pu_b v o' = true ∧ p = 4 + 2 * o' + c) := by
  intro d
  induction d with
  | zero =>
    intro o n x hod hn
    obtain ⟨n, rfl⟩ : ∃ z, n = z + 1 := ⟨n - 1, by omega⟩
    rw [mF_fieldsOf_l4_s, pu_l6, if_pos ((nI_leI (by omega) (by omega)).mpr (by omega))]
    refine ⟨x, rfl, fun p => ⟨Or.inl, fun z => ?_⟩⟩
    rcases z with z | ⟨o', h1, h2, -⟩
    · exact z
    · omega
  | succ d ih =>
    intro o n x hod hn
    obtain ⟨n, rfl⟩ : ∃ z, n = z + 1 := ⟨n - 1, by omega⟩
    rw [mF_fieldsOf_l4_s, pu_l6, if_neg (fun z => absurd ((nI_leI (a := 6) (b := o) (by omega) (by omega)).mp z) (by omega)), mX_has_e _ (show o < 32 by omega), me_cal0]
    unfold mF_fieldsOf_b30
    by_cases c1 : pu_b v o = true
    · have ei : ((4 : Int32) + nI o * (2 : Int32)) + nI c = nI (4 + 2 * o + c) := by
        rw [me_2ro, show (4 : Int32) + nI (2 * o) = nI (4 + 2 * o) from nI_add 4 _, nI_add]
      rw [if_pos c1, if_neg me_10, ei, me_bnd, me_bnd, nI_1]
      obtain ⟨r, e1, e2⟩ := ih (o + 1) n (x ||| ((1 : Int32) <<< (nI (4 + 2 * o + c) &&& 31))) (by omega) (by omega)
      refine ⟨r, e1, fun p => (e2 p).trans ?_⟩
      rw [pu_or_t, pu_1l_t (by omega)]
      constructor
      · rintro ((z | z) | ⟨o', h1, h2, h3⟩)
        · exact Or.inl z
        · exact Or.inr ⟨o, Nat.le_refl _, by omega, c1, z⟩
        · exact Or.inr ⟨o', by omega, h2, h3⟩
      · rintro (z | ⟨o', h1, h2, h3, h4⟩)
        · exact Or.inl (Or.inl z)
        · by_cases e : o' = o
          · rw [e] at h4; exact Or.inl (Or.inr h4)
          · exact Or.inr ⟨o', by omega, h2, h3, h4⟩
    · rw [if_neg c1, if_pos rfl, me_bnd, nI_1]
      obtain ⟨r, e1, e2⟩ := ih (o + 1) n x (by omega) (by omega)
      refine ⟨r, e1, fun p => (e2 p).trans ?_⟩
      constructor
      · rintro (z | ⟨o', h1, h2, h3⟩)
        · exact Or.inl z
        · exact Or.inr ⟨o', by omega, h2, h3⟩
      · rintro (z | ⟨o', h1, h2, h3, h4⟩)
        · exact Or.inl z
        · by_cases e : o' = o
          · rw [e] at h3; exact absurd h3 c1
          · exact Or.inr ⟨o', by omega, h2, h3, h4⟩
theorem mF_fieldsOf_e (v : Int32) {c : Nat} (hc : c < 2) : ∃ r, mF_fieldsOf v (nI c) = some r ∧ ∀ p, pu_b r p = true ↔ ∃ o, o < 6 ∧ pu_b v o = true ∧ p = 4 + 2 * o + c := by
  obtain ⟨r, e1, e2⟩ := mF_fieldsOf_l (v := v) hc 6 0 mb_fuel 0 rfl (by unfold mb_fuel; omega)
  refine ⟨r, e1, fun p => (e2 p).trans ?_⟩
  rw [pu_b_0]
  constructor
  · rintro (z | ⟨o, -, h⟩)
    · cases z
    · exact ⟨o, h⟩
  · rintro ⟨o, h⟩
    exact Or.inr ⟨o, Nat.zero_le _, h⟩
theorem mF_changed_e (hpo : lf_ok P q) (hW : xf_W P q L T H Z E N s) {m k : Nat} (hm : m < 6) (hk : k < lf_len P m) (n7 : lf_kd P m k ≠ 7) (n10 : lf_kd P m k ≠ 10) {f : Int32} : ∃ v, mF_changed (nI m) (nI (13 * m + k)) f s = some (v, s) ∧ ∀ j, pu_b v j = true ↔ ∃ i, pu_b f i = true ∧ xf_tr P L m k i j := by
  have hl := hpo.1 m hm
  obtain ⟨a0, a1, a2, a3, -⟩ := hW.1.2.1 _ hm _ hk
  obtain ⟨o1, o2, o3, o4, o5, o6⟩ := hpo.2.1 _ hm _ hk
  have ha12 : lf_a P m k < 12 := by
    by_cases c : lf_kd P m k = 8 ∨ lf_kd P m k = 9
    · exact o2 c
    · have := o3 c; omega
  have oth : ∀ j, pu_b (f &&& (((1 : Int32) <<< (nI (lf_a P m k) &&& 31)) ^^^ (-1))) j = true ↔ pu_b f j = true ∧ j ≠ lf_a P m k := fun j => by
    rw [pu_and_t, pu_not_t, pu_1l_t (by omega)]
    refine ⟨fun h => ⟨h.1, h.2.2⟩, fun h => ⟨h.1, ?_, h.2⟩⟩
    rcases Nat.lt_or_ge j 32 with z | z
    · exact z
    · have := h.1
      rw [pu_b_big z] at this; cases this
  unfold mF_changed mF_changed_b96 mF_changed_b120 mF_changed_b166 mF_changed_b205 mF_changed_b206
  rw [me_ld (by omega) (by decide), a1, me_ld (by omega) (by decide), a2, me_ld (by omega) (by decide), a3, me_bnd, me_ld (by omega) (by decide), a0]
  have kill : (lf_kd P m k = 0 ∨ lf_kd P m k = 1 ∨ lf_kd P m k = 3) → ∀ j, pu_b (f &&& (((1 : Int32) <<< (nI (lf_a P m k) &&& 31)) ^^^ (-1))) j = true ↔ ∃ i, pu_b f i = true ∧ xf_tr P L m k i j := by
    intro hk3 j
    rw [oth j]
    constructor
    · rintro ⟨h1, h2⟩
      exact ⟨j, h1, Or.inl ⟨fun z => h2 z.2, rfl⟩⟩
    · rintro ⟨i, h1, (⟨h2, h3⟩ | ⟨h2, h3⟩ | ⟨h2, h3⟩ | ⟨h2, h3⟩)⟩
      · rw [h3]; exact ⟨h1, fun z => h2 ⟨by omega, z⟩⟩
      · omega
      · omega
      · omega
  by_cases c0 : lf_kd P m k = 0
  · rw [if_pos ((pu_eq0 (by omega)).mpr c0)]
    exact ⟨_, rfl, kill (Or.inl c0)⟩
  rw [if_neg (fun z => c0 ((pu_eq0 (by omega)).mp z))]
  by_cases c1 : lf_kd P m k = 1
  · rw [if_pos ((pu_eq1 (by omega)).mpr c1)]
    exact ⟨_, rfl, kill (Or.inr (Or.inl c1))⟩
  rw [if_neg (fun z => c1 ((pu_eq1 (by omega)).mp z)), pu_l3]
  by_cases c3 : lf_kd P m k = 3
  · rw [if_pos ((nI_eq (by omega) (by omega)).mpr c3)]
    exact ⟨_, rfl, kill (Or.inr (Or.inr c3))⟩
  rw [if_neg (fun z => c3 ((nI_eq (by omega) (by omega)).mp z)), pu_l4]
  by_cases c4 : lf_kd P m k = 4
  · have hb : lf_b P m k < 4 := o4 (by omega)
    rw [if_pos ((nI_eq (by omega) (by omega)).mpr c4), mX_has_e _ (show lf_b P m k < 32 by omega), me_cal0]
    by_cases c : pu_b f (lf_b P m k) = true
    · rw [if_pos c, if_neg me_10]
      refine ⟨_, rfl, fun j => ?_⟩
      rw [pu_or_t, oth j, pu_1l_t (by omega)]
      constructor
      · rintro (⟨h1, h2⟩ | h)
        · exact ⟨j, h1, Or.inl ⟨fun z => h2 z.2, rfl⟩⟩
        · exact ⟨_, c, Or.inr (Or.inl ⟨Or.inl c4, rfl, h⟩)⟩
      · rintro ⟨i, h1, (⟨h2, h3⟩ | ⟨h2, h3, h4⟩ | ⟨h2, h3⟩ | ⟨h2, h3⟩)⟩
        · rw [h3]; exact Or.inl ⟨h1, fun z => h2 ⟨by omega, z⟩⟩
        · exact Or.inr h4
        · omega
        · omega
    · rw [if_neg c, if_pos rfl]
      refine ⟨_, rfl, fun j => ?_⟩
      rw [oth j]
      constructor
      · rintro ⟨h1, h2⟩
        exact ⟨j, h1, Or.inl ⟨fun z => h2 z.2, rfl⟩⟩
      · rintro ⟨i, h1, (⟨h2, h3⟩ | ⟨h2, h3, h4⟩ | ⟨h2, h3⟩ | ⟨h2, h3⟩)⟩
        · rw [h3]; exact ⟨h1, fun z => h2 ⟨by omega, z⟩⟩
        · rw [h3] at h1; exact absurd h1 c
        · omega
        · omega
  rw [if_neg (fun z => c4 ((nI_eq (by omega) (by omega)).mp z)), pu_l5]
  by_cases c5 : lf_kd P m k = 5
  · have hb : lf_b P m k < 4 := o4 (by omega)
    have hc : lf_c P m k < 2 := o5 (by omega)
    obtain ⟨r, r1, r2⟩ := mF_fieldsOf_e (mb_I s 11 (4 * m + lf_b P m k)) hc
    have hL : ∀ o, pu_b (mb_I s 11 (4 * m + lf_b P m k)) o = true ↔ L m (lf_b P m k) o := fun o => hW.2.1.1 m _ o hm hb
    rw [if_pos ((nI_eq (by omega) (by omega)).mpr c5), ← pu_l4, me_4r, me_ld (by omega) (by decide), r1, me_cal0, me_bnd]
    by_cases c : (f &&& (((1 : Int32) <<< (nI (lf_b P m k) &&& 31)) ||| r)) = 0
    · rw [if_pos c]
      have hno := pu_and0.mp c
      refine ⟨_, rfl, fun j => ?_⟩
      rw [oth j]
      constructor
      · rintro ⟨h1, h2⟩
        exact ⟨j, h1, Or.inl ⟨fun z => h2 z.2, rfl⟩⟩
      · rintro ⟨i, h1, (⟨h2, h3⟩ | ⟨h2, h3, h4⟩ | ⟨h2, h3⟩ | ⟨h2, o, h3, h4, h5, h6⟩)⟩
        · rw [h3]; exact ⟨h1, fun z => h2 ⟨by omega, z⟩⟩
        · exact (hno i h1 (pu_or_t.mpr (Or.inl ((pu_1l_t (by omega)).mpr h3)))).elim
        · omega
        · exact (hno i h1 (pu_or_t.mpr (Or.inr ((r2 i).mpr ⟨o, h3, (hL o).mpr h5, h4⟩)))).elim
    · rw [if_neg c]
      have hyes : ∃ i, pu_b f i = true ∧ (i = lf_b P m k ∨ ∃ o, o < 6 ∧ L m (lf_b P m k) o ∧ i = 4 + 2 * o + lf_c P m k) := by
        apply Classical.byContradiction
        intro hno
        refine c (pu_and0.mpr (fun i h1 h2 => hno ⟨i, h1, ?_⟩))
        rcases pu_or_t.mp h2 with z | z
        · exact Or.inl ((pu_1l_t (by omega)).mp z)
        · obtain ⟨o, g1, g2, g3⟩ := (r2 i).mp z
          exact Or.inr ⟨o, g1, (hL o).mp g2, g3⟩
      refine ⟨_, rfl, fun j => ?_⟩
      rw [pu_or_t, oth j, pu_1l_t (by omega)]
      constructor
      · rintro (⟨h1, h2⟩ | h)
        · exact ⟨j, h1, Or.inl ⟨fun z => h2 z.2, rfl⟩⟩
        · obtain ⟨i, g1, (g2 | ⟨o, g2, g3, g4⟩)⟩ := hyes
          · exact ⟨i, g1, Or.inr (Or.inl ⟨Or.inr c5, g2, h⟩)⟩
          · exact ⟨i, g1, Or.inr (Or.inr (Or.inr ⟨c5, o, g2, g4, g3, h⟩))⟩
      · rintro ⟨i, h1, (⟨h2, h3⟩ | ⟨h2, h3, h4⟩ | ⟨h2, h3⟩ | ⟨h2, o, h3, h4, h5, h6⟩)⟩
        · rw [h3]; exact Or.inl ⟨h1, fun z => h2 ⟨by omega, z⟩⟩
        · exact Or.inr h4
        · omega
        · exact Or.inr h6
  rw [if_neg (fun z => c5 ((nI_eq (by omega) (by omega)).mp z)), pu_l6]
  have keep : ∀ j, pu_b f j = true → ¬ lf_kd P m k = 6 → ∃ i, pu_b f i = true ∧ xf_tr P L m k i j := fun j h _ => ⟨j, h, Or.inl ⟨fun z => by omega, rfl⟩⟩
  by_cases c6 : lf_kd P m k = 6
  · have hb : lf_b P m k < 4 := o4 (by omega)
    have hc : lf_c P m k < 2 := o5 (by omega)
    have ha : lf_a P m k < 4 := o3 (by omega)
    obtain ⟨r, r1, r2⟩ := mF_fieldsOf_e (mb_I s 11 (4 * m + lf_a P m k)) hc
    have hL : ∀ o, pu_b (mb_I s 11 (4 * m + lf_a P m k)) o = true ↔ L m (lf_a P m k) o := fun o => hW.2.1.1 m _ o hm ha
    rw [if_pos ((nI_eq (by omega) (by omega)).mpr c6), ← pu_l4, me_4r, me_ld (by omega) (by decide), mX_has_e _ (show lf_b P m k < 32 by omega), me_cal0]
    by_cases c : pu_b f (lf_b P m k) = true
    · rw [if_pos c, if_neg me_10, r1, me_cal0]
      refine ⟨_, rfl, fun j => ?_⟩
      rw [pu_or_t, r2 j]
      constructor
      · rintro (h | ⟨o, g1, g2, g3⟩)
        · exact ⟨j, h, Or.inl ⟨fun z => by omega, rfl⟩⟩
        · exact ⟨_, c, Or.inr (Or.inr (Or.inl ⟨c6, rfl, o, g1, (hL o).mp g2, g3⟩))⟩
      · rintro ⟨i, h1, (⟨h2, h3⟩ | ⟨h2, h3, h4⟩ | ⟨h2, h3, o, g1, g2, g3⟩ | ⟨h2, h3⟩)⟩
        · rw [h3]; exact Or.inl h1
        · omega
        · exact Or.inr ⟨o, g1, (hL o).mpr g2, g3⟩
        · omega
    · rw [if_neg c, if_pos rfl]
      refine ⟨_, rfl, fun j => ?_⟩
      constructor
      · intro h
        exact ⟨j, h, Or.inl ⟨fun z => by omega, rfl⟩⟩
      · rintro ⟨i, h1, (⟨h2, h3⟩ | ⟨h2, h3, h4⟩ | ⟨h2, h3, h4⟩ | ⟨h2, h3⟩)⟩
        · rw [h3]; exact h1
        · omega
        · rw [h3] at h1; exact absurd h1 c
        · omega
  rw [if_neg (fun z => c6 ((nI_eq (by omega) (by omega)).mp z))]
  refine ⟨_, rfl, fun j => ⟨fun h => keep j h c6, ?_⟩⟩
  rintro ⟨i, h1, (⟨h2, h3⟩ | ⟨h2, h3⟩ | ⟨h2, h3⟩ | ⟨h2, h3⟩)⟩
  · rw [h3]; exact h1
  · omega
  · omega
  · omega
theorem xf_hs_tr (hpo : lf_ok P q) (hC : lf_FC P L T H Z E N) {m k w p i j : Nat} (hm : m < 6) (hk : k < lf_len P m) (n7 : lf_kd P m k ≠ 7) (n10 : lf_kd P m k ≠ 10) (hp : lf_nx P m k p) (h : xf_hs H E N m k w i) (ht : xf_tr P L m k i j) : xf_hs H E N m p w j := by
  obtain ⟨g1, g2, g3⟩ := h
  have o := hpo.2.1 _ hm _ hk
  refine ⟨?_, g2, fun s' e hs he => ?_⟩
  · rcases ht with ⟨h1, h2⟩ | ⟨h1, h2, h3⟩ | ⟨h1, h2, o', h3, h4, h5⟩ | ⟨h1, o', h2, h3, h4, h5⟩
    · omega
    · have := o.2.2.1 (by omega); omega
    · have := o.2.2.2.2.1 (by omega); omega
    · have := o.2.2.1 (by omega); omega
  · have hin : e ≤ 64 ∧ (e = 64 → N m) ∧ (e ≠ 64 → E m e) := by
      rcases he with ⟨h1, h2, h3⟩ | ⟨h1, h2⟩
      · exact ⟨by omega, fun h => by omega, fun _ => h3⟩
      · exact ⟨by omega, fun _ => g2 (by omega), fun h => absurd h2 h⟩
    exact (hC.2.2.2.2 m k e (16 * s' + i) hm hk hin.1 (by omega) hin.2.1 hin.2.2 (g3 s' e hs he)).1 n7 n10 (16 * s' + j) p ((xf_tr_iff s' g1).mpr ⟨j, ht, rfl⟩) hp
theorem mF_pass_e (hpo : lf_ok P q) (hC : lf_FC P L T H Z E N) (hW : xf_W P q L T H Z E N s) {m k w : Nat} (hm : m < 6) (hk : k < lf_len P m) (hw : w < 20) {f : Int32} (hf : ∀ i, pu_b f i = true → xf_hs H E N m k w i) (hf0 : ∃ i, pu_b f i = true) : ∃ u, mF_pass (nI m) (nI (13 * m + k)) (nI w) f s = some ((), u) ∧ xf_W P q L T H Z E N u ∧ xf_op (xf_ps P L T m k w f) s u := by
  have hl := hpo.1 m hm
  obtain ⟨a0, a1, -, -, -⟩ := hW.1.2.1 _ hm _ hk
  obtain ⟨o1, o2, o3, o4, o5, o6⟩ := hpo.2.1 _ hm _ hk
  unfold mF_pass
  rw [me_ld (by omega) (by decide), a0, pu_l7]
  by_cases c7 : lf_kd P m k = 7
  · obtain ⟨u, e1, e2, e3⟩ := mF_call_e hpo hC hW hm hk c7 hw hf hf0
    rw [if_pos ((nI_eq (by omega) (by omega)).mpr c7), e1, me_cal]
    exact ⟨u, rfl, e2, xf_wk e3 (fun z => ⟨fun _ => z, fun h => by omega, fun h => absurd c7 h⟩)⟩
  rw [if_neg (fun z => c7 ((nI_eq (by omega) (by omega)).mp z)), pu_l10]
  by_cases c10 : lf_kd P m k = 10
  · have ha : lf_a P m k < 4 := o3 (by omega)
    have hfx : ∀ i, pu_b f i = true → 4 ≤ i → i < 16 → xf_xs P H E N m w i := fun i hi h4 h16 => by
      obtain ⟨g1, g2, g3⟩ := hf i hi
      exact ⟨g2, Or.inr ⟨h4, h16⟩, fun s' e hs he => ⟨fun h => by omega, fun _ => ⟨k, by omega, Or.inr c10, g3 s' e hs he⟩⟩⟩
    rw [if_pos ((nI_eq (by omega) (by omega)).mpr c10), me_ld (by omega) (by decide), a1, mX_has_e _ (show lf_a P m k < 32 by omega), me_cal0]
    unfold mF_pass_b57
    by_cases c : pu_b f (lf_a P m k) = true
    · obtain ⟨u, e1, e2, e3⟩ := mF_growExit_e hW hm hw (v := (f &&& 65520) ||| 1) (fun i hi => by
        rcases pu_or_t.mp hi with z | z
        · obtain ⟨z1, z2⟩ := pu_and_t.mp z
          obtain ⟨z3, z4⟩ := pu_fld_t.mp z2
          exact hfx i z1 z3 z4
        · rw [pu_b_one] at z
          have h0 := of_decide_eq_true z
          obtain ⟨g1, g2, g3⟩ := hf _ c
          exact ⟨g2, Or.inl h0, fun s' e hs he => ⟨fun _ => ⟨k, hk, c10, g3 s' e hs he⟩, fun h => by omega⟩⟩)
      rw [if_pos c, if_neg me_10, e1, me_cal]
      refine ⟨u, rfl, e2, xf_wk e3 (fun z => ⟨fun h => absurd h c7, fun _ => ⟨fun i h4 h16 hi => xp_or z (pu_or_t.mpr (Or.inl (pu_and_t.mpr ⟨hi, pu_fld_t.mpr ⟨h4, h16⟩⟩))), fun _ => xp_or z (pu_or_t.mpr (Or.inr ?_))⟩, fun _ h => absurd c10 h⟩)⟩
      rw [pu_b_one]; rfl
    · obtain ⟨u, e1, e2, e3⟩ := mF_growExit_e hW hm hw (v := (f &&& 65520) ||| 0) (fun i hi => by
        rcases pu_or_t.mp hi with z | z
        · obtain ⟨z1, z2⟩ := pu_and_t.mp z
          obtain ⟨z3, z4⟩ := pu_fld_t.mp z2
          exact hfx i z1 z3 z4
        · rw [pu_b_0] at z; cases z)
      rw [if_neg c, if_pos rfl, e1, me_cal]
      exact ⟨u, rfl, e2, xf_wk e3 (fun z => ⟨fun h => absurd h c7, fun _ => ⟨fun i h4 h16 hi => xp_or z (pu_or_t.mpr (Or.inl (pu_and_t.mpr ⟨hi, pu_fld_t.mpr ⟨h4, h16⟩⟩))), fun h => absurd h c⟩, fun _ h => absurd c10 h⟩)⟩
  rw [if_neg (fun z => c10 ((nI_eq (by omega) (by omega)).mp z)), pu_l9]
  obtain ⟨v, v1, v2⟩ := mF_changed_e hpo hW hm hk c7 c10 (f := f)
  have hv : ∀ p, lf_nx P m k p → ∀ j, pu_b v j = true → xf_hs H E N m p w j := fun p hp j hj => by
    obtain ⟨i, hi, ht⟩ := (v2 j).mp hj
    exact xf_hs_tr hpo hC hm hk c7 c10 hp (hf i hi) ht
  rw [v1, me_cal]
  have h101 : ∀ u, xf_W P q L T H Z E N u → ∃ t, mF_pass_b101 (nI m) (nI (13 * m + k)) (nI w) (nI (lf_kd P m k)) v u = some ((), t) ∧ xf_W P q L T H Z E N t ∧ xf_op (fun g => (lf_kd P m k = 8 ∨ lf_kd P m k = 9) → mb_I g 14 ((13 * m + min (lf_a P m k) (lf_len P m)) * 20 + w) ||| v = mb_I g 14 ((13 * m + min (lf_a P m k) (lf_len P m)) * 20 + w)) u t := by
    intro u hu
    have hmin := Nat.min_le_right (lf_a P m k) (lf_len P m)
    have h115 : (lf_kd P m k = 8 ∨ lf_kd P m k = 9) → ∃ t, mF_pass_b115 (nI m) (nI (13 * m + k)) (nI w) v u = some ((), t) ∧ xf_W P q L T H Z E N t ∧ xf_op (fun g => (lf_kd P m k = 8 ∨ lf_kd P m k = 9) → mb_I g 14 ((13 * m + min (lf_a P m k) (lf_len P m)) * 20 + w) ||| v = mb_I g 14 ((13 * m + min (lf_a P m k) (lf_len P m)) * 20 + w)) u t := by
      intro h89
      obtain ⟨t, e1, e2, e3⟩ := mF_growHeld_e hu hm (k := min (lf_a P m k) (lf_len P m)) (by omega) hw (v := v) (hv _ (Or.inl ⟨h89, rfl⟩))
      unfold mF_pass_b115 mF_pass_b131
      rw [mP_jump_e hu.1 hpo hm hk h89, me_cal, e1, me_cal]
      exact ⟨t, rfl, e2, xf_wk e3 (fun z _ => z)⟩
    unfold mF_pass_b101
    rw [pu_l9, pu_l8]
    by_cases c9 : lf_kd P m k = 9
    · rw [if_pos ((nI_eq (by omega) (by omega)).mpr c9)]
      exact h115 (Or.inr c9)
    · rw [if_neg (fun z => c9 ((nI_eq (by omega) (by omega)).mp z))]
      by_cases c8 : lf_kd P m k = 8
      · rw [if_pos ((nI_eq (by omega) (by omega)).mpr c8)]
        exact h115 (Or.inl c8)
      · rw [if_neg (fun z => c8 ((nI_eq (by omega) (by omega)).mp z))]
        unfold mF_pass_b131
        exact ⟨u, rfl, hu, xf_rf hu.2.2.1 (fun h => by omega)⟩
  by_cases c9 : lf_kd P m k = 9
  · rw [if_pos ((nI_eq (by omega) (by omega)).mpr c9)]
    obtain ⟨u, e1, e2, e3⟩ := h101 s hW
    refine ⟨u, e1, e2, xf_wk e3 (fun z => ⟨fun h => absurd h c7, fun h => absurd h c10, fun _ _ i j p hi ht hp => ?_⟩)⟩
    rcases hp with ⟨h1, h2⟩ | ⟨h1, h2⟩
    · rw [h2]; exact xp_or (z h1) ((v2 j).mpr ⟨i, hi, ht⟩)
    · exact absurd c9 h1
  · rw [if_neg (fun z => c9 ((nI_eq (by omega) (by omega)).mp z))]
    obtain ⟨u1, g1, g2, g3⟩ := mF_growHeld_e hW hm (k := k + 1) (by omega) hw (v := v) (hv _ (Or.inr ⟨c9, rfl⟩))
    obtain ⟨u, e1, e2, e3⟩ := h101 u1 g2
    rw [nI_1, show 13 * m + k + 1 = 13 * m + (k + 1) from rfl, g1, me_cal]
    refine ⟨u, e1, e2, xf_wk (xf_seq g3 e3) (fun z => ⟨fun h => absurd h c7, fun h => absurd h c10, fun _ _ i j p hi ht hp => ?_⟩)⟩
    rcases hp with ⟨h1, h2⟩ | ⟨h1, h2⟩
    · rw [h2]; exact xp_or (z.2 h1) ((v2 j).mpr ⟨i, hi, ht⟩)
    · rw [h2]; exact xp_or z.1 ((v2 j).mpr ⟨i, hi, ht⟩)
end FX4
