abbrev lf_P : Type := (Nat → Nat) × (Nat → Nat → Nat) × (Nat → Nat → Nat) × (Nat → Nat → Nat) × (Nat → Nat → Nat)
def lf_len (P : lf_P) (m : Nat) : Nat := P.1 m
def lf_kd (P : lf_P) (m k : Nat) : Nat := P.2.1 m k
def lf_a (P : lf_P) (m k : Nat) : Nat := P.2.2.1 m k
def lf_b (P : lf_P) (m k : Nat) : Nat := P.2.2.2.1 m k
def lf_c (P : lf_P) (m k : Nat) : Nat := P.2.2.2.2 m k
abbrev lf_Q : Type := (Nat → Option Nat) × (Nat → Nat → Option Nat)
def lf_par (q : lf_Q) (c : Nat) : Option Nat := q.1 c
def lf_bd (q : lf_Q) (c g : Nat) : Option Nat := q.2 c g
def lf_o (x : Option Nat) : Int32 := match x with
  | none => -1
  | some n => nI n
theorem lf_o_some (n : Nat) : lf_o (some n) = nI n := rfl
theorem lf_o_none : lf_o none = -1 := rfl
def lf_row (P : lf_P) (kind m n : Nat) : Nat := pu_sum (fun j => if lf_kd P m j = kind then 1 else 0) n
def lf_bef (P : lf_P) (kind m k : Nat) : Nat := pu_sum (fun i => lf_row P kind i (lf_len P i)) m + lf_row P kind m k
def lf_cnt (P : lf_P) (kind : Nat) : Nat := pu_sum (fun i => lf_row P kind i (lf_len P i)) 6
def lf_tot (P : lf_P) : Nat := pu_sum (fun i => lf_len P i) 6
def lf_opOk (kd a b c : Nat) : Prop := kd ≤ 10 ∧ (kd = 8 ∨ kd = 9 → a < 12) ∧ (¬ (kd = 8 ∨ kd = 9) → a < 4) ∧ (kd = 0 ∨ (4 ≤ kd ∧ kd ≤ 7) → b < 4) ∧ (kd = 5 ∨ kd = 6 → c < 2) ∧ (kd = 7 → c < 12)
def lf_ok (P : lf_P) (q : lf_Q) : Prop := (∀ m, m < 6 → lf_len P m ≤ 12) ∧ (∀ m, m < 6 → ∀ k, k < lf_len P m → lf_opOk (lf_kd P m k) (lf_a P m k) (lf_b P m k) (lf_c P m k)) ∧ lf_cnt P 0 ≤ 6 ∧ lf_cnt P 1 ≤ 4 ∧ lf_cnt P 2 ≤ 4 ∧ lf_tot P ≤ 32
  ∧ (∀ c, c < 4 → ∀ p, lf_par q c = some p → p < c) ∧ (∀ c, c < 4 → ∀ g, g < 3 → ∀ t, lf_bd q c g = some t → t < 6)
def lf_up (q : lf_Q) (g : Nat) : Nat → Option Nat → Option Nat
  | 0, _ => none
  | _ + 1, none => none
  | n + 1, some c => match lf_bd q c g with
    | some t => some t
    | none => lf_up q g n (lf_par q c)
def lf_tgt (q : lf_Q) (c g : Nat) : Option Nat := lf_up q g 4 (some c)
theorem lf_up_lt {P : lf_P} {q : lf_Q} (h : lf_ok P q) {g : Nat} (hg : g < 3) : ∀ (n : Nat) (c : Option Nat), (∀ x, c = some x → x < 4) → ∀ t, lf_up q g n c = some t → t < 6
  | 0, _, _, t, e => by cases e
  | n + 1, none, _, t, e => by cases e
  | n + 1, some c, hc, t, e => by
    have h4 := hc c rfl
    unfold lf_up at e
    cases hb : lf_bd q c g with
    | some z =>
      rw [hb] at e
      cases e
      exact h.2.2.2.2.2.2.2 c h4 g hg t hb
    | none =>
      rw [hb] at e
      refine lf_up_lt h hg n (lf_par q c) (fun x hx => ?_) t e
      have := h.2.2.2.2.2.2.1 c h4 x hx
      omega
theorem lf_tgt_lt {P : lf_P} {q : lf_Q} (h : lf_ok P q) {c g t : Nat} (hc : c < 4) (hg : g < 3) (e : lf_tgt q c g = some t) : t < 6 :=
  lf_up_lt h hg 4 (some c) (fun x hx => by cases hx; exact hc) t e
theorem lf_row_s (P : lf_P) (kind m n : Nat) : lf_row P kind m (n + 1) = lf_row P kind m n + (if lf_kd P m n = kind then 1 else 0) := rfl
theorem lf_row_le (P : lf_P) (kind m : Nat) : ∀ (n : Nat), lf_row P kind m n ≤ n
  | 0 => Nat.le_refl _
  | n + 1 => by
    rw [lf_row_s]
    have := lf_row_le P kind m n
    by_cases h : lf_kd P m n = kind
    · rw [if_pos h]; omega
    · rw [if_neg h]; omega
theorem lf_row_mono (P : lf_P) (kind m a : Nat) : ∀ (b : Nat), a ≤ b → lf_row P kind m a ≤ lf_row P kind m b
  | 0, h => by rw [Nat.le_zero.mp h]; exact Nat.le_refl _
  | b + 1, h => by
    by_cases e : a = b + 1
    · rw [e]; exact Nat.le_refl _
    · rw [lf_row_s]
      have := lf_row_mono P kind m a b (by omega)
      omega
theorem lf_pre_mono (f : Nat → Nat) (a : Nat) : ∀ (b : Nat), a ≤ b → pu_sum f a ≤ pu_sum f b
  | 0, h => by rw [Nat.le_zero.mp h]; exact Nat.le_refl _
  | b + 1, h => by
    by_cases e : a = b + 1
    · rw [e]; exact Nat.le_refl _
    · show pu_sum f a ≤ pu_sum f b + f b
      have := lf_pre_mono f a b (by omega)
      omega
theorem lf_bef_next (P : lf_P) (kind m : Nat) : lf_bef P kind m (lf_len P m) = pu_sum (fun i => lf_row P kind i (lf_len P i)) (m + 1) := rfl
theorem lf_bef_lt (P : lf_P) {m k : Nat} (hm : m < 6) (hk : k < lf_len P m) : lf_bef P (lf_kd P m k) m k < lf_cnt P (lf_kd P m k) := by
  have h1 : lf_bef P (lf_kd P m k) m (k + 1) = lf_bef P (lf_kd P m k) m k + 1 := by
    unfold lf_bef
    rw [lf_row_s, if_pos rfl]; omega
  have h2 : lf_bef P (lf_kd P m k) m (k + 1) ≤ lf_bef P (lf_kd P m k) m (lf_len P m) := by
    unfold lf_bef
    have := lf_row_mono P (lf_kd P m k) m (k + 1) (lf_len P m) hk
    omega
  rw [lf_bef_next] at h2
  have h3 := lf_pre_mono (fun i => lf_row P (lf_kd P m k) i (lf_len P i)) (m + 1) 6 (by omega)
  unfold lf_cnt
  omega
theorem lf_bef_inj (P : lf_P) {kind m k m' k' : Nat} (hm : m < 6) (hk : k < lf_len P m) (hkd : lf_kd P m k = kind) (hm' : m' < 6) (hk' : k' < lf_len P m') (hkd' : lf_kd P m' k' = kind) (e : lf_bef P kind m k = lf_bef P kind m' k') : m = m' ∧ k = k' := by
  have up : ∀ {m k m' k' : Nat}, m < 6 → k < lf_len P m → lf_kd P m k = kind → (m < m' ∨ (m = m' ∧ k < k')) → lf_bef P kind m k < lf_bef P kind m' k' := by
    intro m k m' k' hm hk hkd hlt
    have h1 : lf_bef P kind m (k + 1) = lf_bef P kind m k + 1 := by
      unfold lf_bef
      rw [lf_row_s, if_pos hkd]; omega
    rcases hlt with h | ⟨h, h'⟩
    · have h2 : lf_bef P kind m (k + 1) ≤ lf_bef P kind m (lf_len P m) := by
        unfold lf_bef
        have := lf_row_mono P kind m (k + 1) (lf_len P m) hk
        omega
      rw [lf_bef_next] at h2
      have h3 := lf_pre_mono (fun i => lf_row P kind i (lf_len P i)) (m + 1) m' h
      have h4 : pu_sum (fun i => lf_row P kind i (lf_len P i)) m' ≤ lf_bef P kind m' k' := Nat.le_add_right _ _
      omega
    · subst h
      have h2 : lf_bef P kind m (k + 1) ≤ lf_bef P kind m k' := by
        unfold lf_bef
        have := lf_row_mono P kind m (k + 1) k' h'
        omega
      omega
  rcases Nat.lt_trichotomy m m' with h | h | h
  · have := up hm hk hkd (Or.inl h) (k' := k'); omega
  · subst h
    rcases Nat.lt_trichotomy k k' with h2 | h2 | h2
    · have := up hm hk hkd (Or.inr ⟨rfl, h2⟩); omega
    · exact ⟨rfl, h2⟩
    · have := up hm hk' hkd' (Or.inr ⟨rfl, h2⟩); omega
  · have := up hm' hk' hkd' (Or.inl h) (k' := k); omega
def lf_site (P : lf_P) (o c : Nat) : Prop := ∃ m k, m < 6 ∧ k < lf_len P m ∧ lf_kd P m k = 0 ∧ lf_bef P 0 m k = o ∧ lf_b P m k = c
theorem lf_site_fun {P : lf_P} {o c c' : Nat} (h : lf_site P o c) (h' : lf_site P o c') : c = c' := by
  obtain ⟨m, k, hm, hk, hkd, ho, hc⟩ := h
  obtain ⟨m', k', hm', hk', hkd', ho', hc'⟩ := h'
  obtain ⟨e1, e2⟩ := lf_bef_inj P hm hk hkd hm' hk' hkd' (by omega)
  subst e1; subst e2; omega
theorem lf_site_lt {P : lf_P} {q : lf_Q} (h : lf_ok P q) {o c : Nat} (hs : lf_site P o c) : o < 6 ∧ c < 4 := by
  obtain ⟨m, k, hm, hk, hkd, ho, hc⟩ := hs
  have h1 := lf_bef_lt P hm hk
  rw [hkd] at h1
  have h2 := (h.2.1 m hm k hk).2.2.2.1 (Or.inl hkd)
  have h3 := h.2.2.1
  omega
def lf_ct (P : lf_P) (q : lf_Q) (o g t : Nat) : Prop := ∃ c, lf_site P o c ∧ lf_tgt q c g = some t
def lf_PC (P : lf_P) (q : lf_Q) (L F : Nat → Nat → Nat → Prop) (R : Nat → Prop) : Prop :=
  R 0 ∧ ∀ m k, m < 6 → k < lf_len P m → R m →
    (lf_kd P m k = 0 → L m (lf_a P m k) (lf_bef P 0 m k)) ∧
    (lf_kd P m k = 4 → ∀ o, L m (lf_b P m k) o → L m (lf_a P m k) o) ∧
    (lf_kd P m k = 5 → ∀ o p, L m (lf_b P m k) o → F o (lf_c P m k) p → L m (lf_a P m k) p) ∧
    (lf_kd P m k = 6 → ∀ o p, L m (lf_a P m k) o → L m (lf_b P m k) p → F o (lf_c P m k) p) ∧
    (lf_kd P m k = 7 → ∀ o t, L m (lf_b P m k) o → lf_ct P q o (lf_c P m k / 4) t →
      R t ∧ L t 0 o ∧ (∀ p, L m (lf_c P m k % 4) p → L t 1 p) ∧ (∀ j p, j < lf_len P t → lf_kd P t j = 10 → L t (lf_a P t j) p → L m (lf_a P m k) p))
def lf_tg (P : lf_P) (q : lf_Q) (L : Nat → Nat → Nat → Prop) (m k t : Nat) : Prop := ∃ o, L m (lf_b P m k) o ∧ lf_ct P q o (lf_c P m k / 4) t
def lf_nx (P : lf_P) (m k p : Nat) : Prop := ((lf_kd P m k = 8 ∨ lf_kd P m k = 9) ∧ p = min (lf_a P m k) (lf_len P m)) ∨ (lf_kd P m k ≠ 9 ∧ p = k + 1)
def lf_tr (P : lf_P) (L : Nat → Nat → Nat → Prop) (m k d d' : Nat) : Prop :=
  (¬ ((lf_kd P m k = 0 ∨ lf_kd P m k = 1 ∨ (3 ≤ lf_kd P m k ∧ lf_kd P m k ≤ 5)) ∧ d % 16 = lf_a P m k) ∧ d' = d) ∨
  ((lf_kd P m k = 4 ∨ lf_kd P m k = 5) ∧ d % 16 = lf_b P m k ∧ d' = d - d % 16 + lf_a P m k) ∨
  (lf_kd P m k = 6 ∧ d % 16 = lf_b P m k ∧ ∃ o, o < 6 ∧ L m (lf_a P m k) o ∧ d' = d - d % 16 + (4 + 2 * o + lf_c P m k)) ∨
  (lf_kd P m k = 5 ∧ ∃ o, o < 6 ∧ d % 16 = 4 + 2 * o + lf_c P m k ∧ L m (lf_b P m k) o ∧ d' = d - d % 16 + lf_a P m k)
def lf_gv (P : lf_P) (H : Nat → Nat → Nat → Nat → Prop) (E : Nat → Nat → Prop) (N : Nat → Prop) (m k e t g : Nat) : Prop :=
  (g = 64 → N t) ∧ (g ≠ 64 → E t g) ∧ ∀ q d, q ≤ lf_len P t → d < 64 → H t q g d →
    ((q = lf_len P t ∨ lf_kd P t q = 10) → 4 ≤ d % 16 → H m (k + 1) e d) ∧
    (q < lf_len P t → lf_kd P t q = 10 → d % 16 = lf_a P t q → H m (k + 1) e (d - d % 16 + lf_a P m k))
def lf_FC (P : lf_P) (L T : Nat → Nat → Nat → Prop) (H : Nat → Nat → Nat → Nat → Prop) (Z : Nat → Nat → Prop) (E : Nat → Nat → Prop) (N : Nat → Prop) : Prop :=
  N 0 ∧ (∀ m, m < 6 → N m → Z m 0) ∧ (∀ m e, m < 6 → e < 64 → E m e → H m 0 e e) ∧
  (∀ m k, m < 6 → k < lf_len P m → N m → Z m k →
    (lf_kd P m k ≠ 7 → lf_kd P m k ≠ 10 → ∀ p, lf_nx P m k p → Z m p ∧ (lf_kd P m k = 1 → H m p 64 (16 * lf_bef P 1 m k + lf_a P m k))) ∧
    (lf_kd P m k = 7 → Z m (k + 1) ∧ ∀ t, t < 6 → T m k t → lf_gv P H E N m k 64 t 64)) ∧
  (∀ m k e d, m < 6 → k < lf_len P m → e ≤ 64 → d < 64 → (e = 64 → N m) → (e ≠ 64 → E m e) → H m k e d →
    (lf_kd P m k ≠ 7 → lf_kd P m k ≠ 10 → ∀ d' p, lf_tr P L m k d d' → lf_nx P m k p → H m p e d') ∧
    (lf_kd P m k = 7 → (d % 16 < 4 → d % 16 ≠ lf_a P m k → H m (k + 1) e d) ∧ ∀ t, t < 6 → T m k t →
      (4 ≤ d % 16 → lf_gv P H E N m k e t d) ∧ (d % 16 = lf_b P m k → lf_gv P H E N m k e t (d - d % 16)) ∧ (d % 16 = lf_c P m k % 4 → lf_gv P H E N m k e t (d - d % 16 + 1))))
