theorem me_12 (i j : Nat) : (12 : Int32) * nI i + nI j = nI (12 * i + j) := by
  show nI 12 * nI i + nI j = _
  rw [pk_mul, nI_add]
theorem me_13 (i j : Nat) : nI i * (13 : Int32) + nI j = nI (13 * i + j) := by
  show nI i * nI 13 + nI j = _
  rw [pk_mul, nI_add, Nat.mul_comm]
theorem me_4 (i j : Nat) : (4 : Int32) * nI i + nI j = nI (4 * i + j) := by
  show nI 4 * nI i + nI j = _
  rw [pk_mul, nI_add]
theorem me_4r (i j : Nat) : nI i * (4 : Int32) + nI j = nI (4 * i + j) := by
  show nI i * nI 4 + nI j = _
  rw [pk_mul, nI_add, Nat.mul_comm]
theorem me_3 (i j : Nat) : (3 : Int32) * nI i + nI j = nI (3 * i + j) := by
  show nI 3 * nI i + nI j = _
  rw [pk_mul, nI_add]
theorem me_3r (i j : Nat) : nI i * (3 : Int32) + nI j = nI (3 * i + j) := by
  show nI i * nI 3 + nI j = _
  rw [pk_mul, nI_add, Nat.mul_comm]
theorem me_d12 {a : Nat} (h : a < 2 ^ 31) : nI a / (12 : Int32) = nI (a / 12) := pk_div (d := 12) h (by decide) (by decide)
theorem me_m12 {a : Nat} (h : a < 2 ^ 31) : nI a - nI a / (12 : Int32) * (12 : Int32) = nI (a % 12) := pk_rem (d := 12) h (by decide) (by decide)
theorem me_d4 {a : Nat} (h : a < 2 ^ 31) : nI a / (4 : Int32) = nI (a / 4) := pk_div (d := 4) h (by decide) (by decide)
theorem me_m4 {a : Nat} (h : a < 2 ^ 31) : nI a - nI a / (4 : Int32) * (4 : Int32) = nI (a % 4) := pk_rem (d := 4) h (by decide) (by decide)
section BEF
variable {P : lf_P} {q : lf_Q} {s : mb_S}
theorem mM_b46a (k6 : Int32 → Int32 → Int32 → Int32 → Int32 → mb_S → Option (Int32 × mb_S)) (k22 : Int32 → Int32 → Int32 → Int32 → Int32 → Int32 → mb_S → Option (Int32 × mb_S)) (x2 x3 : Int32) (x i j : Nat) : mM_before_b46 k6 k22 (-1) x2 x3 (nI x) (nI i) (nI j) s = k22 (-1) x2 x3 (nI (x + 1)) (nI i) (nI (j + 1)) s := by
  unfold mM_before_b46 mM_before_b69 mM_before_b74
  rw [if_pos (by decide), me_bnd, me_bnd, nI_1, nI_1]
theorem mM_b46b (h : lf_M P q s) (hok : lf_ok P q) (k6 : Int32 → Int32 → Int32 → Int32 → Int32 → mb_S → Option (Int32 × mb_S)) (k22 : Int32 → Int32 → Int32 → Int32 → Int32 → Int32 → mb_S → Option (Int32 × mb_S)) (x2 x3 : Int32) {kk : Nat} (hkk : kk ≤ 10) (x : Nat) {i j : Nat} (hi : i < 6) (hj : j < lf_len P i) :
    mM_before_b46 k6 k22 (nI kk) x2 x3 (nI x) (nI i) (nI j) s = k22 (nI kk) x2 x3 (nI (x + if lf_kd P i j = kk then 1 else 0)) (nI i) (nI (j + 1)) s := by
  have hl := hok.1 i hi
  have hkd := (hok.2.1 i hi j hj).1
  unfold mM_before_b46 mM_before_b69 mM_before_b74
  rw [if_neg (nI_pos (by omega)), me_12, me_ld (by omega) (by decide), (h.2.1 i hi j hj).1]
  by_cases e : lf_kd P i j = kk
  · rw [if_pos ((nI_eq (by omega) (by omega)).mpr e), me_bnd, me_bnd, nI_1, nI_1, if_pos e]
  · rw [if_neg (fun z => e ((nI_eq (by omega) (by omega)).mp z)), me_bnd, me_bnd, nI_1, if_neg e, Nat.add_zero, ← nI_0, nI_add, Nat.add_zero]
theorem mM_bef_in (h : lf_M P q s) (hok : lf_ok P q) (k6 : Int32 → Int32 → Int32 → Int32 → Int32 → mb_S → Option (Int32 × mb_S)) (x1 : Int32) (w : Nat → Nat → Nat) {m k i : Nat} (hm : m ≤ 6) (hk : k ≤ 12) (hi : i < 6) (him : i ≤ m) (y : Nat)
    (hw : ∀ (k22 : Int32 → Int32 → Int32 → Int32 → Int32 → Int32 → mb_S → Option (Int32 × mb_S)) (x j : Nat), j < lf_len P i → mM_before_b46 k6 k22 x1 (nI m) (nI k) (nI x) (nI i) (nI j) s = k22 x1 (nI m) (nI k) (nI (x + w i j)) (nI i) (nI (j + 1)) s) :
    ∀ (d j n : Nat), j + d = (if i < m then lf_len P i else min (lf_len P i) k) → d < n → mM_before_l22 k6 n x1 (nI m) (nI k) (nI (y + pu_sum (w i) j)) (nI i) (nI j) s = k6 x1 (nI m) (nI k) (nI (y + pu_sum (w i) (if i < m then lf_len P i else min (lf_len P i) k))) (nI (i + 1)) s := by
  have hl := hok.1 i hi
  intro d
  induction d with
  | zero =>
    intro j n hj hn
    obtain ⟨n, rfl⟩ : ∃ z, n = z + 1 := ⟨n - 1, by omega⟩
    rw [mM_before_l22_s, me_ld hi (by decide), h.1 i hi]
    by_cases c1 : i < m
    · rw [if_pos c1] at hj ⊢
      rw [if_pos ((nI_leI (by omega) (by omega)).mpr (by omega))]
      unfold mM_before_b83
      rw [me_bnd, nI_1, show j = lf_len P i by omega]
    · rw [if_neg c1] at hj ⊢
      by_cases c2 : lf_len P i ≤ j
      · rw [if_pos ((nI_leI (by omega) (by omega)).mpr c2)]
        unfold mM_before_b83
        rw [me_bnd, nI_1, show j = min (lf_len P i) k by omega]
      · rw [if_neg (fun z => c2 ((nI_leI (by omega) (by omega)).mp z)), if_neg (fun z => c1 ((nI_ltI (by omega) (by omega)).mp z)), if_pos ((nI_leI (by omega) (by omega)).mpr (by omega))]
        unfold mM_before_b83
        rw [me_bnd, nI_1, show j = min (lf_len P i) k by omega]
  | succ d ih =>
    intro j n hj hn
    obtain ⟨n, rfl⟩ : ∃ z, n = z + 1 := ⟨n - 1, by omega⟩
    have hjl : j < lf_len P i := by
      by_cases c1 : i < m
      · rw [if_pos c1] at hj; omega
      · rw [if_neg c1] at hj; omega
    have hnext : mM_before_b46 k6 (mM_before_l22 k6 n) x1 (nI m) (nI k) (nI (y + pu_sum (w i) j)) (nI i) (nI j) s = k6 x1 (nI m) (nI k) (nI (y + pu_sum (w i) (if i < m then lf_len P i else min (lf_len P i) k))) (nI (i + 1)) s := by
      rw [hw _ _ j hjl, Nat.add_assoc, show pu_sum (w i) j + w i j = pu_sum (w i) (j + 1) from rfl]
      exact ih (j + 1) n (by omega) (by omega)
    rw [mM_before_l22_s, me_ld hi (by decide), h.1 i hi, if_neg (fun z => absurd ((nI_leI (by omega) (by omega)).mp z) (by omega))]
    by_cases c1 : i < m
    · rw [if_pos ((nI_ltI (by omega) (by omega)).mpr c1)]
      exact hnext
    · rw [if_neg (fun z => c1 ((nI_ltI (by omega) (by omega)).mp z))]
      have hjk : j < k := by rw [if_neg c1] at hj; omega
      rw [if_neg (fun z => absurd ((nI_leI (by omega) (by omega)).mp z) (by omega))]
      exact hnext
theorem mM_bef_out (h : lf_M P q s) (hok : lf_ok P q) (x1 : Int32) (w : Nat → Nat → Nat) {m k : Nat} (hm : m ≤ 6) (hk : k ≤ 12)
    (hw : ∀ (k6 : Int32 → Int32 → Int32 → Int32 → Int32 → mb_S → Option (Int32 × mb_S)) (k22 : Int32 → Int32 → Int32 → Int32 → Int32 → Int32 → mb_S → Option (Int32 × mb_S)) (x i j : Nat), i < 6 → j < lf_len P i → mM_before_b46 k6 k22 x1 (nI m) (nI k) (nI x) (nI i) (nI j) s = k22 x1 (nI m) (nI k) (nI (x + w i j)) (nI i) (nI (j + 1)) s) :
    ∀ (d i n : Nat), i + d = min (m + 1) 6 → d < n → mM_before_l6 n x1 (nI m) (nI k) (nI (pu_sum (fun i => pu_sum (w i) (if i < m then lf_len P i else min (lf_len P i) k)) i)) (nI i) s = some (nI (pu_sum (fun i => pu_sum (w i) (if i < m then lf_len P i else min (lf_len P i) k)) (min (m + 1) 6)), s) := by
  intro d
  induction d with
  | zero =>
    intro i n hi hn
    obtain ⟨n, rfl⟩ : ∃ z, n = z + 1 := ⟨n - 1, by omega⟩
    rw [mM_before_l6_s, pu_l6]
    unfold mM_before_b89
    rw [show i = min (m + 1) 6 by omega]
    by_cases c1 : m < min (m + 1) 6
    · rw [if_pos ((nI_ltI (by omega) (by omega)).mpr c1)]
    · rw [if_neg (fun z => c1 ((nI_ltI (by omega) (by omega)).mp z)), if_pos ((nI_leI (a := 6) (by omega) (by omega)).mpr (by omega))]
  | succ d ih =>
    intro i n hi hn
    obtain ⟨n, rfl⟩ : ∃ z, n = z + 1 := ⟨n - 1, by omega⟩
    rw [mM_before_l6_s, pu_l6, if_neg (fun z => absurd ((nI_ltI (by omega) (by omega)).mp z) (by omega)), if_neg (fun z => absurd ((nI_leI (a := 6) (b := i) (by omega) (by omega)).mp z) (by omega))]
    have hl := hok.1 i (by omega)
    have e := mM_bef_in h hok (mM_before_l6 n) x1 w hm hk (show i < 6 by omega) (show i ≤ m by omega) (pu_sum (fun i => pu_sum (w i) (if i < m then lf_len P i else min (lf_len P i) k)) i) (fun k22 x j hj => hw _ k22 x i j (by omega) hj) (if i < m then lf_len P i else min (lf_len P i) k) 0 mb_fuel (Nat.zero_add _) (by
      unfold mb_fuel
      by_cases c1 : i < m
      · rw [if_pos c1]; omega
      · rw [if_neg c1]; omega)
    rw [show pu_sum (w i) 0 = 0 from rfl, Nat.add_zero, nI_0] at e
    rw [e]
    exact ih (i + 1) n (by omega) (by omega)
theorem mM_before_k (h : lf_M P q s) (hok : lf_ok P q) {kk m k : Nat} (hkk : kk ≤ 10) (hm : m < 6) (hk : k ≤ lf_len P m) : mM_before (nI kk) (nI m) (nI k) s = some (nI (lf_bef P kk m k), s) := by
  have hl := hok.1 m hm
  unfold mM_before
  have e := mM_bef_out h hok (nI kk) (fun i j => if lf_kd P i j = kk then 1 else 0) (m := m) (k := k) (by omega) (by omega) (fun k6 k22 x i j hi hj => mM_b46b h hok k6 k22 _ _ hkk x hi hj) (m + 1) 0 mb_fuel (by omega) (by unfold mb_fuel; omega)
  refine e.trans ?_
  rw [show min (m + 1) 6 = m + 1 by omega]
  show some (nI (pu_sum _ m + pu_sum (fun j => if lf_kd P m j = kk then 1 else 0) (if m < m then lf_len P m else min (lf_len P m) k)), s) = _
  rw [if_neg (Nat.lt_irrefl m), show min (lf_len P m) k = k by omega]
  unfold lf_bef lf_row
  rw [pu_sum_congr (g := fun i => pu_sum (fun j => if lf_kd P i j = kk then 1 else 0) (lf_len P i)) (fun i hi => by rw [if_pos hi])]
theorem mM_before_c (h : lf_M P q s) (hok : lf_ok P q) {kk : Nat} (hkk : kk ≤ 10) : mM_before (nI kk) 6 0 s = some (nI (lf_cnt P kk), s) := by
  unfold mM_before
  have e := mM_bef_out h hok (nI kk) (fun i j => if lf_kd P i j = kk then 1 else 0) (m := 6) (k := 0) (by omega) (by omega) (fun k6 k22 x i j hi hj => mM_b46b h hok k6 k22 _ _ hkk x hi hj) 6 0 mb_fuel (by omega) (by unfold mb_fuel; omega)
  refine e.trans ?_
  show some (nI (pu_sum _ 6), s) = _
  unfold lf_cnt lf_row
  rw [pu_sum_congr (g := fun i => pu_sum (fun j => if lf_kd P i j = kk then 1 else 0) (lf_len P i)) (fun i hi => by rw [if_pos hi])]
theorem pu_sum_1 : ∀ (n : Nat), pu_sum (fun _ => 1) n = n
  | 0 => rfl
  | n + 1 => by show pu_sum (fun _ => 1) n + 1 = n + 1; rw [pu_sum_1 n]
theorem mM_before_t (h : lf_M P q s) (hok : lf_ok P q) : mM_before (-1) 6 0 s = some (nI (lf_tot P), s) := by
  unfold mM_before
  have e := mM_bef_out h hok (-1) (fun _ _ => 1) (m := 6) (k := 0) (by omega) (by omega) (fun k6 k22 x i j hi hj => mM_b46a k6 k22 _ _ x i j) 6 0 mb_fuel (by omega) (by unfold mb_fuel; omega)
  refine e.trans ?_
  show some (nI (pu_sum _ 6), s) = _
  unfold lf_tot
  rw [pu_sum_congr (g := fun i => lf_len P i) (fun i hi => by rw [if_pos hi, pu_sum_1])]
end BEF
