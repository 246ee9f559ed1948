def lf_add (P : lf_P) (m kd a b c : Nat) : lf_P :=
  (fun i => if i = m then lf_len P m + 1 else lf_len P i, fun i k => if i = m ∧ k = lf_len P m then kd else lf_kd P i k, fun i k => if i = m ∧ k = lf_len P m then a else lf_a P i k, fun i k => if i = m ∧ k = lf_len P m then b else lf_b P i k, fun i k => if i = m ∧ k = lf_len P m then c else lf_c P i k)
def lf_drop (P : lf_P) (m : Nat) : lf_P := (fun i => if i = m then lf_len P m - 1 else lf_len P i, P.2)
theorem lf_add_len (P : lf_P) (m kd a b c i : Nat) : lf_len (lf_add P m kd a b c) i = if i = m then lf_len P m + 1 else lf_len P i := rfl
theorem lf_add_kd (P : lf_P) (m kd a b c i k : Nat) : lf_kd (lf_add P m kd a b c) i k = if i = m ∧ k = lf_len P m then kd else lf_kd P i k := rfl
theorem lf_add_a (P : lf_P) (m kd a b c i k : Nat) : lf_a (lf_add P m kd a b c) i k = if i = m ∧ k = lf_len P m then a else lf_a P i k := rfl
theorem lf_add_b (P : lf_P) (m kd a b c i k : Nat) : lf_b (lf_add P m kd a b c) i k = if i = m ∧ k = lf_len P m then b else lf_b P i k := rfl
theorem lf_add_c (P : lf_P) (m kd a b c i k : Nat) : lf_c (lf_add P m kd a b c) i k = if i = m ∧ k = lf_len P m then c else lf_c P i k := rfl
theorem lf_drop_len (P : lf_P) (m i : Nat) : lf_len (lf_drop P m) i = if i = m then lf_len P m - 1 else lf_len P i := rfl
theorem lf_cnt_le (P : lf_P) (kk : Nat) : lf_cnt P kk ≤ lf_tot P := pu_sum_le (fun i _ => lf_row_le P kk i _)
theorem lf_add_cnt (P : lf_P) {m : Nat} (kd a b c kk : Nat) (hm : m < 6) : lf_cnt (lf_add P m kd a b c) kk = lf_cnt P kk + if kd = kk then 1 else 0 := by
  have hrow : ∀ i n, (i = m → n ≤ lf_len P m) → lf_row (lf_add P m kd a b c) kk i n = lf_row P kk i n := by
    intro i n hn
    refine pu_sum_congr (fun j hj => ?_)
    have ek : lf_kd (lf_add P m kd a b c) i j = lf_kd P i j := if_neg (fun z => by have := hn z.1; omega)
    rw [ek]
  have e : ∀ i, i < 6 → lf_row (lf_add P m kd a b c) kk i (lf_len (lf_add P m kd a b c) i) = lf_row P kk i (lf_len P i) + (if i = m then (if kd = kk then 1 else 0) else 0) := by
    intro i hi
    rw [lf_add_len]
    by_cases h : i = m
    · subst h
      have ek : lf_kd (lf_add P i kd a b c) i (lf_len P i) = kd := if_pos ⟨rfl, rfl⟩
      rw [if_pos rfl, if_pos rfl, lf_row_s, hrow i (lf_len P i) (fun _ => Nat.le_refl _), ek]
    · rw [if_neg h, if_neg h, hrow i (lf_len P i) (fun z => absurd z h), Nat.add_zero]
  unfold lf_cnt
  rw [pu_sum_congr e, pu_sum_add, pu_sum_one (fun i => if i = m then (if kd = kk then 1 else 0) else 0) m 6 hm (fun i _ hn => if_neg hn), if_pos rfl]
theorem lf_add_tot (P : lf_P) {m : Nat} (kd a b c : Nat) (hm : m < 6) : lf_tot (lf_add P m kd a b c) = lf_tot P + 1 := by
  have e : ∀ i, i < 6 → lf_len (lf_add P m kd a b c) i = lf_len P i + (if i = m then 1 else 0) := by
    intro i hi
    rw [lf_add_len]
    by_cases h : i = m
    · subst h; rw [if_pos rfl, if_pos rfl]
    · rw [if_neg h, if_neg h, Nat.add_zero]
  unfold lf_tot
  rw [pu_sum_congr e, pu_sum_add, pu_sum_one (fun i => if i = m then 1 else 0) m 6 hm (fun i _ hn => if_neg hn), if_pos rfl]
theorem lf_drop_tot (P : lf_P) {m : Nat} (hm : m < 6) (h0 : 0 < lf_len P m) : lf_tot (lf_drop P m) + 1 = lf_tot P := by
  have e : ∀ i, i < 6 → lf_len P i = lf_len (lf_drop P m) i + (if i = m then 1 else 0) := by
    intro i hi
    rw [lf_drop_len]
    by_cases h : i = m
    · subst h; rw [if_pos rfl, if_pos rfl]; omega
    · rw [if_neg h, if_neg h, Nat.add_zero]
  have e2 : lf_tot P = pu_sum (fun i => lf_len (lf_drop P m) i + (if i = m then 1 else 0)) 6 := pu_sum_congr e
  rw [e2, pu_sum_add, pu_sum_one (fun i => if i = m then 1 else 0) m 6 hm (fun i _ hn => if_neg hn), if_pos rfl]
  rfl
theorem lf_drop_cnt (P : lf_P) (m kk : Nat) : lf_cnt (lf_drop P m) kk ≤ lf_cnt P kk := by
  refine pu_sum_le (fun i _ => ?_)
  show lf_row P kk i (lf_len (lf_drop P m) i) ≤ lf_row P kk i (lf_len P i)
  refine lf_row_mono P kk i _ _ ?_
  rw [lf_drop_len]
  by_cases h : i = m
  · subst h; rw [if_pos rfl]; omega
  · rw [if_neg h]; exact Nat.le_refl _
def lf_most (kd : Nat) : Nat := if kd = 0 then 6 else if kd < 3 then 4 else 32
theorem lf_add_ok {P : lf_P} {q : lf_Q} (h : lf_ok P q) {m kd a b c : Nat} (hm : m < 6) (hl : lf_len P m < 12) (ht : lf_tot P < 32) (hc : lf_cnt P kd < lf_most kd) (hop : lf_opOk kd a b c) : lf_ok (lf_add P m kd a b c) q := by
  obtain ⟨h1, h2, h3, h4, h5, h6, h7, h8⟩ := h
  unfold lf_most at hc
  refine ⟨fun i hi => ?_, fun i hi k hk => ?_, ?_, ?_, ?_, ?_, h7, h8⟩
  · rw [lf_add_len]
    by_cases e : i = m
    · rw [if_pos e]; omega
    · rw [if_neg e]; exact h1 i hi
  · rw [lf_add_kd, lf_add_a, lf_add_b, lf_add_c]
    rw [lf_add_len] at hk
    by_cases e : i = m ∧ k = lf_len P m
    · rw [if_pos e, if_pos e, if_pos e, if_pos e]; exact hop
    · rw [if_neg e, if_neg e, if_neg e, if_neg e]
      refine h2 i hi k ?_
      by_cases e1 : i = m
      · subst e1
        rw [if_pos rfl] at hk
        have : k ≠ lf_len P i := fun z => e ⟨rfl, z⟩
        omega
      · rw [if_neg e1] at hk; exact hk
  · rw [lf_add_cnt P kd a b c 0 hm]
    by_cases e : kd = 0
    · subst e; rw [if_pos rfl] at hc ⊢; omega
    · rw [if_neg e]; omega
  · rw [lf_add_cnt P kd a b c 1 hm]
    by_cases e : kd = 1
    · subst e; rw [if_pos rfl]; rw [if_neg (by decide), if_pos (by decide)] at hc; omega
    · rw [if_neg e]; omega
  · rw [lf_add_cnt P kd a b c 2 hm]
    by_cases e : kd = 2
    · subst e; rw [if_pos rfl]; rw [if_neg (by decide), if_pos (by decide)] at hc; omega
    · rw [if_neg e]; omega
  · rw [lf_add_tot P kd a b c hm]; omega
theorem lf_drop_ok {P : lf_P} {q : lf_Q} (h : lf_ok P q) {m : Nat} (hm : m < 6) (h0 : 0 < lf_len P m) : lf_ok (lf_drop P m) q := by
  obtain ⟨h1, h2, h3, h4, h5, h6, h7, h8⟩ := h
  have hle : ∀ i, lf_len (lf_drop P m) i ≤ lf_len P i := fun i => by
    rw [lf_drop_len]
    by_cases e : i = m
    · subst e; rw [if_pos rfl]; omega
    · rw [if_neg e]; exact Nat.le_refl _
  have ht := lf_drop_tot P hm h0
  refine ⟨fun i hi => Nat.le_trans (hle i) (h1 i hi), fun i hi k hk => h2 i hi k (Nat.lt_of_lt_of_le hk (hle i)), Nat.le_trans (lf_drop_cnt P m 0) h3, Nat.le_trans (lf_drop_cnt P m 1) h4, Nat.le_trans (lf_drop_cnt P m 2) h5, by omega, h7, h8⟩
def lf_der (q : lf_Q) (c : Nat) (p : Option Nat) : lf_Q := (fun i => if i = c then p else lf_par q i, q.2)
def lf_bin (q : lf_Q) (c g : Nat) (t : Option Nat) : lf_Q := (q.1, fun i j => if i = c ∧ j = g then t else lf_bd q i j)
theorem lf_der_ok {P : lf_P} {q : lf_Q} (h : lf_ok P q) {c : Nat} {p : Option Nat} (hp : ∀ n, p = some n → n < c) : lf_ok P (lf_der q c p) := by
  obtain ⟨h1, h2, h3, h4, h5, h6, h7, h8⟩ := h
  refine ⟨h1, h2, h3, h4, h5, h6, fun i hi n hn => ?_, h8⟩
  have e : lf_par (lf_der q c p) i = if i = c then p else lf_par q i := rfl
  rw [e] at hn
  by_cases e1 : i = c
  · subst e1; rw [if_pos rfl] at hn; exact hp n hn
  · rw [if_neg e1] at hn; exact h7 i hi n hn
theorem lf_bin_ok {P : lf_P} {q : lf_Q} (h : lf_ok P q) {c g : Nat} {t : Option Nat} (ht : ∀ n, t = some n → n < 6) : lf_ok P (lf_bin q c g t) := by
  obtain ⟨h1, h2, h3, h4, h5, h6, h7, h8⟩ := h
  refine ⟨h1, h2, h3, h4, h5, h6, h7, fun i hi j hj n hn => ?_⟩
  have e : lf_bd (lf_bin q c g t) i j = if i = c ∧ j = g then t else lf_bd q i j := rfl
  rw [e] at hn
  by_cases e1 : i = c ∧ j = g
  · rw [if_pos e1] at hn; exact ht n hn
  · rw [if_neg e1] at hn; exact h8 i hi j hj n hn
theorem lf_any (x : Int32) : ∃ n : Nat, x = nI n := ⟨x.toBitVec.toNat, by
  apply Int32.toBitVec_inj.1
  show x.toBitVec = BitVec.ofNat 32 x.toBitVec.toNat
  simp⟩
theorem lf_fit_op {kd : Nat} (hk : kd ≤ 10) {a b c : Int32} (h : lf_fit kd a b c) : ∃ a' b' c' : Nat, a = nI a' ∧ b = nI b' ∧ c = nI c' ∧ lf_opOk kd a' b' c' := by
  obtain ⟨h1, h2, h3, h4, h5⟩ := h
  have ha : ∃ a' : Nat, a = nI a' ∧ (kd = 8 ∨ kd = 9 → a' < 12) ∧ (¬ (kd = 8 ∨ kd = 9) → a' < 4) := by
    by_cases e : kd = 8 ∨ kd = 9
    · obtain ⟨j, hj, z⟩ := h1 e
      exact ⟨j, z, fun _ => hj, fun n => absurd e n⟩
    · obtain ⟨j, hj, z⟩ := h2 e
      exact ⟨j, z, fun n => absurd n e, fun _ => hj⟩
  have hb : ∃ b' : Nat, b = nI b' ∧ (kd = 0 ∨ (4 ≤ kd ∧ kd ≤ 7) → b' < 4) := by
    by_cases e : kd = 0 ∨ (4 ≤ kd ∧ kd ≤ 7)
    · obtain ⟨j, hj, z⟩ := h3 e
      exact ⟨j, z, fun _ => hj⟩
    · obtain ⟨j, z⟩ := lf_any b
      exact ⟨j, z, fun n => absurd n e⟩
  have hc : ∃ c' : Nat, c = nI c' ∧ (kd = 5 ∨ kd = 6 → c' < 2) ∧ (kd = 7 → c' < 12) := by
    by_cases e : kd = 5 ∨ kd = 6
    · obtain ⟨j, hj, z⟩ := h4 e
      exact ⟨j, z, fun _ => hj, fun n => by omega⟩
    · by_cases e2 : kd = 7
      · obtain ⟨j, hj, z⟩ := h5 e2
        exact ⟨j, z, fun n => absurd n e, fun _ => hj⟩
      · obtain ⟨j, z⟩ := lf_any c
        exact ⟨j, z, fun n => absurd n e, fun n => absurd n e2⟩
  obtain ⟨a', ea, a1, a2⟩ := ha
  obtain ⟨b', eb, b1⟩ := hb
  obtain ⟨c', ec, c1, c2⟩ := hc
  exact ⟨a', b', c', ea, eb, ec, hk, a1, a2, b1, c1, c2⟩
