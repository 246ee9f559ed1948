theorem me_bnd {α β : Type} {v : α} {k : α → Option β} : mb_bnd v k = k v := rfl
theorem me_ld {β : Type} {f : Nat → Int32} {n j : Nat} {k : Int32 → Option β} (h : j < n) (hn : n < 2 ^ 31) : mb_ld f n (nI j) k = k (f j) := by
  unfold mb_ld
  rw [if_neg (nI_in h hn), nI_clamp (Nat.lt_trans h hn)]
theorem me_ldL {β : Type} {f : Nat → Int64} {n j : Nat} {k : Int64 → Option β} (h : j < n) (hn : n < 2 ^ 31) : mb_ldL f n (nI j) k = k (f j) := by
  unfold mb_ldL
  rw [if_neg (nI_in h hn), nI_clamp (Nat.lt_trans h hn)]
theorem me_stI {β : Type} {s : mb_S} {a n j : Nat} {v : Int32} {k : mb_S → Option β} (h : j < n) (hn : n < 2 ^ 31) : mb_stI s a n (nI j) v k = k (mb_setI s a j v) := by
  unfold mb_stI
  rw [if_neg (nI_in h hn), nI_clamp (Nat.lt_trans h hn)]
theorem me_stZ0 {β : Type} {s : mb_S} {a n j : Nat} {k : mb_S → Option β} (h : j < n) (hn : n < 2 ^ 31) : mb_stZ s a n (nI j) 0 k = k (mb_setI s a j 0) := by
  unfold mb_stZ
  rw [if_neg (nI_in h hn), if_pos (Or.inl rfl), nI_clamp (Nat.lt_trans h hn)]
theorem me_stZ1 {β : Type} {s : mb_S} {a n j : Nat} {k : mb_S → Option β} (h : j < n) (hn : n < 2 ^ 31) : mb_stZ s a n (nI j) 1 k = k (mb_setI s a j 1) := by
  unfold mb_stZ
  rw [if_neg (nI_in h hn), if_pos (Or.inr rfl), nI_clamp (Nat.lt_trans h hn)]
theorem me_stL {β : Type} {s : mb_S} {a n j : Nat} {v : Int64} {k : mb_S → Option β} (h : j < n) (hn : n < 2 ^ 31) : mb_stL s a n (nI j) v k = k (mb_setL s a j v) := by
  unfold mb_stL
  rw [if_neg (nI_in h hn), nI_clamp (Nat.lt_trans h hn)]
theorem me_putF {β : Type} {s : mb_S} {a : Nat} {v : Int32} {k : mb_S → Option β} : mb_putF s a v k = k (mb_setF s a v) := rfl
theorem me_putZ0 {β : Type} {s : mb_S} {a : Nat} {k : mb_S → Option β} : mb_putZ s a 0 k = k (mb_setF s a 0) := rfl
theorem me_putZ1 {β : Type} {s : mb_S} {a : Nat} {k : mb_S → Option β} : mb_putZ s a 1 k = k (mb_setF s a 1) := rfl
theorem me_cal {ρ β : Type} {v : ρ} {t : mb_S} {k : ρ → mb_S → Option β} : mb_cal (some (v, t)) k = k v t := rfl
theorem me_cal0 {ρ β : Type} {v : ρ} {k : ρ → Option β} : mb_cal0 (some v) k = k v := rfl
theorem me_rZ0 {s : mb_S} : mb_retZ 0 s = some (0, s) := rfl
theorem me_rZ1 {s : mb_S} : mb_retZ 1 s = some (1, s) := rfl
theorem me_r00 : mb_ret0 0 = some 0 := rfl
theorem me_r01 : mb_ret0 1 = some 1 := rfl
theorem me_fuel : mb_fuel = 4294967295 + 1 := rfl
theorem me_10 : ¬ (1 : Int32) = 0 := by decide
def lf_is (x : Int32) (N : Nat) : Prop := ∃ j : Nat, j < N ∧ x = nI j
theorem lf_is_neg {x : Int32} {N : Nat} (hN : N ≤ 2 ^ 31) (h : x < 0) : ¬ lf_is x N := by
  rintro ⟨j, hj, rfl⟩
  exact nI_pos (by omega) h
theorem lf_is_nI {j N : Nat} (hj : j < 2 ^ 31) (hN : N ≤ 2 ^ 31) : lf_is (nI j) N ↔ j < N := by
  constructor
  · rintro ⟨i, hi, e⟩
    rw [(nI_eq hj (by omega)).mp e]; exact hi
  · intro h; exact ⟨j, h, rfl⟩
theorem mM_within_c (x : Int32) {N : Nat} (hN : N < 2 ^ 31) : (lf_is x (N + 1) ∧ mM_within x 0 (nI N) = some 1) ∨ (¬ lf_is x (N + 1) ∧ mM_within x 0 (nI N) = some 0) := by
  unfold mM_within mM_within_b14 mM_within_b15
  rcases pu_cases x with h | ⟨j, hj, rfl⟩
  · exact Or.inr ⟨lf_is_neg (by omega) h, by rw [if_pos h]; rfl⟩
  · rw [if_neg (nI_pos hj), lf_is_nI hj (by omega)]
    by_cases hle : N < j
    · exact Or.inr ⟨by omega, by rw [if_pos ((nI_ltI hN hj).mpr hle)]; rfl⟩
    · exact Or.inl ⟨by omega, by rw [if_neg (fun z => hle ((nI_ltI hN hj).mp z))]; rfl⟩
theorem mX_isBelow_c (x : Int32) {N : Nat} (hN : N < 2 ^ 31) : (lf_is x N ∧ mX_isBelow x (nI N) = some 1) ∨ (¬ lf_is x N ∧ mX_isBelow x (nI N) = some 0) := by
  unfold mX_isBelow mX_isBelow_b13 mX_isBelow_b14
  rcases pu_cases x with h | ⟨j, hj, rfl⟩
  · exact Or.inr ⟨lf_is_neg (by omega) h, by rw [if_pos h]; rfl⟩
  · rw [if_neg (nI_pos hj), lf_is_nI hj (by omega)]
    by_cases hle : N ≤ j
    · exact Or.inr ⟨by omega, by rw [if_pos ((nI_leI hN hj).mpr hle)]; rfl⟩
    · exact Or.inl ⟨by omega, by rw [if_neg (fun z => hle ((nI_leI hN hj).mp z))]; rfl⟩
def lf_io (x : Int32) (N : Nat) : Prop := ∃ o : Option Nat, x = lf_o o ∧ ∀ n, o = some n → n < N
theorem lf_io_iff {x : Int32} {N : Nat} : lf_io x N ↔ x = -1 ∨ lf_is x N := by
  constructor
  · rintro ⟨o, e, h⟩
    cases o with
    | none => exact Or.inl e
    | some n => exact Or.inr ⟨n, h n rfl, e⟩
  · rintro (h | ⟨j, hj, e⟩)
    · exact ⟨none, h, fun n z => (by cases z)⟩
    · exact ⟨some j, e, fun n z => by cases z; exact hj⟩
theorem mM_within_o (x hi : Int32) {N : Nat} (hN : N < 2 ^ 31) (hhi : hi.toInt = (N : Int) - 1) : (lf_io x N ∧ mM_within x (-1) hi = some 1) ∨ (¬ lf_io x N ∧ mM_within x (-1) hi = some 0) := by
  unfold mM_within mM_within_b14 mM_within_b15
  have hm : (-1 : Int32).toInt = -1 := by decide
  rw [lf_io_iff]
  rcases pu_cases x with h | ⟨j, hj, rfl⟩
  · by_cases h1 : x = -1
    · subst h1
      refine Or.inl ⟨Or.inl rfl, ?_⟩
      rw [if_neg (by decide), if_neg]
      · rfl
      · rw [Int32.lt_iff_toInt_lt, hm, hhi]; omega
    · refine Or.inr ⟨?_, ?_⟩
      · rintro (z | z)
        · exact h1 z
        · exact lf_is_neg (by omega) h z
      · rw [if_pos]
        · rfl
        · rw [Int32.lt_iff_toInt_lt, hm]
          rw [Int32.lt_iff_toInt_lt] at h
          have h0 : (0 : Int32).toInt = 0 := by decide
          have hne : x.toInt ≠ -1 := fun e => h1 (Int32.toInt_inj.mp (e.trans hm.symm))
          omega
  · have hn1 : ¬ nI j < -1 := by
      rw [Int32.lt_iff_toInt_lt, hm, nI_toInt hj]; omega
    rw [if_neg hn1, lf_is_nI hj (by omega)]
    by_cases hle : N ≤ j
    · refine Or.inr ⟨?_, ?_⟩
      · rintro (z | z)
        · exact pu_ne hj z
        · omega
      · rw [if_pos]
        · rfl
        · rw [Int32.lt_iff_toInt_lt, hhi, nI_toInt hj]; omega
    · refine Or.inl ⟨Or.inr (by omega), ?_⟩
      rw [if_neg]
      · rfl
      · rw [Int32.lt_iff_toInt_lt, hhi, nI_toInt hj]; omega
theorem mX_has_e (x : Int32) {n : Nat} (hn : n < 32) : mX_has x (nI n) = some (if pu_b x n = true then 1 else 0) := by
  unfold mX_has mX_has_b13
  cases hb : pu_b x n with
  | false => rw [if_pos ((pu_b_ushr hn).mpr hb)]; rfl
  | true => rw [if_neg (fun z => by rw [(pu_b_ushr hn).mp z] at hb; cases hb)]; rfl
