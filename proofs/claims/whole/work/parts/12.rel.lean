def lf_M (P : lf_P) (q : lf_Q) (s : mb_S) : Prop :=
  (∀ m, m < 6 → mb_I s 0 m = nI (lf_len P m)) ∧
  (∀ m, m < 6 → ∀ k, k < lf_len P m → mb_I s 1 (12 * m + k) = nI (lf_kd P m k) ∧ mb_I s 2 (12 * m + k) = nI (lf_a P m k) ∧ mb_I s 3 (12 * m + k) = nI (lf_b P m k) ∧ mb_I s 4 (12 * m + k) = nI (lf_c P m k)) ∧
  (∀ c, c < 4 → mb_I s 5 c = lf_o (lf_par q c)) ∧ (∀ c, c < 4 → ∀ g, g < 3 → mb_I s 6 (3 * c + g) = lf_o (lf_bd q c g))
def lf_X (P : lf_P) (q : lf_Q) (s : mb_S) : Prop :=
  (∀ m, m < 6 → mb_I s 5 m = nI (lf_len P m)) ∧
  (∀ m, m < 6 → ∀ k, k < lf_len P m → mb_I s 0 (13 * m + k) = nI (lf_kd P m k) ∧ mb_I s 1 (13 * m + k) = nI (lf_a P m k) ∧ mb_I s 2 (13 * m + k) = nI (lf_b P m k) ∧ mb_I s 3 (13 * m + k) = nI (lf_c P m k) ∧ mb_I s 4 (13 * m + k) = nI (lf_bef P (lf_kd P m k) m k)) ∧
  (∀ c, c < 4 → mb_I s 9 c = lf_o (lf_par q c)) ∧ (∀ c, c < 4 → ∀ g, g < 3 → mb_I s 10 (3 * c + g) = lf_o (lf_bd q c g)) ∧
  (∀ j, j < 11 → mb_I s 6 j = nI (lf_cnt P j)) ∧ (∀ o c, lf_site P o c → mb_I s 7 o = nI c) ∧
  (∀ m, m < 6 → ∀ k, k < lf_len P m → lf_kd P m k = 2 → mb_I s 8 (lf_bef P 2 m k) = nI (13 * m + k)) ∧ mb_F s 1 = nI (lf_tot P)
def lf_fr (F I J : Nat → Prop) (s t : mb_S) : Prop := (∀ k, ¬ F k → mb_F t k = mb_F s k) ∧ (∀ k, ¬ I k → mb_I t k = mb_I s k) ∧ (∀ k, ¬ J k → mb_L t k = mb_L s k)
theorem lf_fr.rf {F I J : Nat → Prop} {s : mb_S} : lf_fr F I J s s := ⟨fun _ _ => rfl, fun _ _ => rfl, fun _ _ => rfl⟩
theorem lf_fr.tr {F I J : Nat → Prop} {s t u : mb_S} (h : lf_fr F I J s t) (h' : lf_fr F I J t u) : lf_fr F I J s u := ⟨fun k hk => (h'.1 k hk).trans (h.1 k hk), fun k hk => (h'.2.1 k hk).trans (h.2.1 k hk), fun k hk => (h'.2.2 k hk).trans (h.2.2 k hk)⟩
theorem lf_fr.wk {F I J F' I' J' : Nat → Prop} {s t : mb_S} (h : lf_fr F I J s t) (hF : ∀ k, F k → F' k) (hI : ∀ k, I k → I' k) (hJ : ∀ k, J k → J' k) : lf_fr F' I' J' s t := ⟨fun k hk => h.1 k (fun q => hk (hF k q)), fun k hk => h.2.1 k (fun q => hk (hI k q)), fun k hk => h.2.2 k (fun q => hk (hJ k q))⟩
theorem lf_fr.setF {F I J : Nat → Prop} {s t : mb_S} {j : Nat} {v : Int32} (h : lf_fr F I J s t) (hj : F j) : lf_fr F I J s (mb_setF t j v) := by
  refine h.tr ⟨fun k hk => ?_, fun _ _ => rfl, fun _ _ => rfl⟩
  rw [pu_FF, if_neg (fun e => hk (by rw [e]; exact hj))]
theorem lf_fr.setI {F I J : Nat → Prop} {s t : mb_S} {a j : Nat} {v : Int32} (h : lf_fr F I J s t) (hj : I a) : lf_fr F I J s (mb_setI t a j v) := by
  refine h.tr ⟨fun _ _ => rfl, fun k hk => ?_, fun _ _ => rfl⟩
  rw [pu_II, if_neg (fun e => hk (by rw [e]; exact hj))]
theorem lf_fr.setL {F I J : Nat → Prop} {s t : mb_S} {a j : Nat} {v : Int64} (h : lf_fr F I J s t) (hj : J a) : lf_fr F I J s (mb_setL t a j v) := by
  refine h.tr ⟨fun _ _ => rfl, fun _ _ => rfl, fun k hk => ?_⟩
  rw [pu_LL, if_neg (fun e => hk (by rw [e]; exact hj))]
theorem lf_fr.fil {F I J : Nat → Prop} {s t : mb_S} {a n : Nat} {v : Int32} (h : lf_fr F I J s t) (hj : I a) : lf_fr F I J s (mb_filS t a n v) := by
  refine h.tr ⟨fun _ _ => rfl, fun k hk => ?_, fun _ _ => rfl⟩
  rw [pu_IA, if_neg (fun e => hk (by rw [e]; exact hj))]
theorem lf_M.fr {P : lf_P} {q : lf_Q} {s t : mb_S} (h : lf_M P q s) (e : ∀ k, k < 7 → mb_I t k = mb_I s k) : lf_M P q t := by
  obtain ⟨h0, h1, h2, h3⟩ := h
  unfold lf_M
  rw [e 0 (by omega), e 1 (by omega), e 2 (by omega), e 3 (by omega), e 4 (by omega), e 5 (by omega), e 6 (by omega)]
  exact ⟨h0, h1, h2, h3⟩
theorem lf_X.fr {P : lf_P} {q : lf_Q} {s t : mb_S} (h : lf_X P q s) (e : ∀ k, k < 11 → mb_I t k = mb_I s k) (ef : mb_F t 1 = mb_F s 1) : lf_X P q t := by
  obtain ⟨h0, h1, h2, h3, h4, h5, h6, h7⟩ := h
  unfold lf_X
  rw [e 0 (by omega), e 1 (by omega), e 2 (by omega), e 3 (by omega), e 4 (by omega), e 5 (by omega), e 6 (by omega), e 7 (by omega), e 8 (by omega), e 9 (by omega), e 10 (by omega), ef]
  exact ⟨h0, h1, h2, h3, h4, h5, h6, h7⟩
theorem lf_o_neg {x : Option Nat} (h : ∀ n, x = some n → n < 2 ^ 31) : lf_o x < 0 ↔ x = none := by
  cases x with
  | none => exact ⟨fun _ => rfl, fun _ => by decide⟩
  | some n => exact ⟨fun z => absurd z (nI_pos (h n rfl)), fun z => by cases z⟩
theorem lf_o_m1 {x : Option Nat} (h : ∀ n, x = some n → n < 2 ^ 31) : lf_o x = -1 ↔ x = none := by
  cases x with
  | none => exact ⟨fun _ => rfl, fun _ => rfl⟩
  | some n => exact ⟨fun z => absurd z (pu_ne (h n rfl)), fun z => by cases z⟩
theorem lf_o_inj {x y : Option Nat} (h : ∀ n, x = some n → n < 2 ^ 31) (h' : ∀ n, y = some n → n < 2 ^ 31) (e : lf_o x = lf_o y) : x = y := by
  cases x with
  | none => exact (((lf_o_m1 h').mp e.symm)).symm
  | some n =>
    cases y with
    | none => exact absurd e (pu_ne (h n rfl))
    | some k => rw [(nI_eq (h n rfl) (h' k rfl)).mp e]
