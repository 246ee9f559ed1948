theorem pn_bit (x : Int64) (j : Nat) : Int64.toInt32 (if pu_c x j = true then (1 : Int64) else 0) = nI (pu_c x j).toNat := by
  cases pu_c x j <;> rfl
theorem mM_bits_l (x : Int64) : ∀ (d j n : Nat), j + d = 64 → d < n → mM_bits_l4 n x (nI (pu_sum (fun i => (pu_c x i).toNat) j)) (nI j) = some (nI (pu_sum (fun i => (pu_c x i).toNat) 64)) := by
  intro d
  induction d with
  | zero =>
    intro j n hjd hn
    obtain ⟨n, rfl⟩ : ∃ z, n = z + 1 := ⟨n - 1, by omega⟩
    rw [mM_bits_l4_s, pu_l64, if_pos ((nI_leI (by omega) (by omega)).mpr (by omega)), show j = 64 by omega]
  | succ d ih =>
    intro j n hjd hn
    obtain ⟨n, rfl⟩ : ∃ z, n = z + 1 := ⟨n - 1, by omega⟩
    rw [mM_bits_l4_s, pu_l64, if_neg (fun z => absurd ((nI_leI (a := 64) (b := j) (by omega) (by omega)).mp z) (by omega)), pl_shr (by omega), pn_bit, nI_add, me_bnd, me_bnd, nI_1]
    exact ih (j + 1) n (by omega) (by omega)
theorem mM_bits_e (x : Int64) : mM_bits x = some (nI (pu_pc x.toBitVec)) := mM_bits_l x 64 0 mb_fuel rfl (by unfold mb_fuel; omega)
def pn_v1 (x : Nat) : Nat := Nat.sub x (Nat.land (Nat.shiftRight x 1) 1431655765)
def pn_v2 (v : Nat) : Nat := Nat.add (Nat.land v 858993459) (Nat.land (Nat.shiftRight v 2) 858993459)
def pn_v3 (v : Nat) : Nat := Nat.land (Nat.add v (Nat.shiftRight v 4)) 252645135
def pn_v4 (v : Nat) : Nat := Nat.add v (Nat.shiftRight v 8)
def pn_v5 (v : Nat) : Nat := Nat.land (Nat.add v (Nat.shiftRight v 16)) 63
def pn_pc (x : Nat) : Nat := pu_sum (fun i => (Nat.testBit x i).toNat) 16
theorem pn_split (x y : Nat) : Nat.land x y = Nat.land (x / 256) (y / 256) * 256 + Nat.land (x % 256) (y % 256) := by
  have h1 : Nat.land x y / 256 = Nat.land (x / 256) (y / 256) := Nat.and_div_two_pow (a := x) (b := y) (n := 8)
  have h2 : Nat.land x y % 256 = Nat.land (x % 256) (y % 256) := Nat.and_mod_two_pow (a := x) (b := y) (n := 8)
  omega
theorem pn_d1 : ∀ a, a < 256 → Nat.land (a / 2) (1431655765 / 256) = Nat.land (Nat.shiftRight a 1) 1431655765 ∧ Nat.land (Nat.shiftRight a 1) 1431655765 ≤ a := by decide +kernel
theorem pn_d2 : ∀ b, b < 256 → ∀ c, c < 2 → Nat.land (b / 2 + 128 * c) (1431655765 % 256) = Nat.land (Nat.shiftRight b 1) 1431655765 := by decide +kernel
theorem pn_d3 : ∀ a, a < 256 → Nat.land a (858993459 / 256) = Nat.land a 858993459 ∧ Nat.land a (858993459 % 256) = Nat.land a 858993459 ∧ Nat.land (a / 4) (858993459 / 256) = Nat.land (Nat.shiftRight a 2) 858993459 := by decide +kernel
theorem pn_d4 : ∀ b, b < 256 → ∀ c, c < 4 → Nat.land (b / 4 + 64 * c) (858993459 % 256) = Nat.land (Nat.shiftRight b 2) 858993459 := by decide +kernel
theorem pn_sh (x k : Nat) : Nat.shiftRight x k = x / 2 ^ k := Nat.shiftRight_eq_div_pow x k
theorem pn_A1 {a b : Nat} (ha : a < 256) (hb : b < 256) : Nat.land (Nat.shiftRight (a * 256 + b) 1) 1431655765 = Nat.land (Nat.shiftRight a 1) 1431655765 * 256 + Nat.land (Nat.shiftRight b 1) 1431655765 := by
  rw [pn_split, pn_sh (a * 256 + b) 1]
  rw [show (a * 256 + b) / 2 ^ 1 / 256 = a / 2 by omega, show (a * 256 + b) / 2 ^ 1 % 256 = b / 2 + 128 * (a % 2) by omega, (pn_d1 a ha).1, pn_d2 b hb (a % 2) (by omega)]
theorem pn_A2 {a b : Nat} (ha : a < 256) (hb : b < 256) : pn_v2 (a * 256 + b) = pn_v2 a * 256 + pn_v2 b := by
  have e1 : Nat.land (a * 256 + b) 858993459 = Nat.land a 858993459 * 256 + Nat.land b 858993459 := by
    rw [pn_split, show (a * 256 + b) / 256 = a by omega, show (a * 256 + b) % 256 = b by omega, (pn_d3 a ha).1, (pn_d3 b hb).2.1]
  have e2 : Nat.land (Nat.shiftRight (a * 256 + b) 2) 858993459 = Nat.land (Nat.shiftRight a 2) 858993459 * 256 + Nat.land (Nat.shiftRight b 2) 858993459 := by
    rw [pn_split, pn_sh (a * 256 + b) 2]
    rw [show (a * 256 + b) / 2 ^ 2 / 256 = a / 4 by omega, show (a * 256 + b) / 2 ^ 2 % 256 = b / 4 + 64 * (a % 4) by omega, (pn_d3 a ha).2.2, pn_d4 b hb (a % 4) (by omega)]
  show Nat.land (a * 256 + b) 858993459 + Nat.land (Nat.shiftRight (a * 256 + b) 2) 858993459 = (Nat.land a 858993459 + Nat.land (Nat.shiftRight a 2) 858993459) * 256 + (Nat.land b 858993459 + Nat.land (Nat.shiftRight b 2) 858993459)
  rw [e1, e2]; omega
def pn_p8 (x : Nat) : Nat := pu_sum (fun i => (Nat.testBit x i).toNat) 8
theorem pn_B : ∀ b, b < 256 → pn_v2 (pn_v1 b) % 16 < 5 ∧ pn_v2 (pn_v1 b) / 16 < 5 ∧ pn_v2 (pn_v1 b) % 16 + pn_v2 (pn_v1 b) / 16 = pn_p8 b := by decide +kernel
theorem pn_C : ∀ i, i < 5 → ∀ j, j < 5 → ∀ k, k < 5 → ∀ l, l < 5 → pn_v5 (pn_v4 (pn_v3 ((16 * i + j) * 256 + (16 * k + l)))) = i + j + k + l := by decide +kernel
theorem pn_D {a b : Nat} (hb : b < 256) : pn_pc (a * 256 + b) = pn_p8 b + pn_p8 a := by
  have h : ∀ j, Nat.testBit (a * 256 + b) j = if j < 8 then Nat.testBit b j else Nat.testBit a (j - 8) := fun j => by
    have e := Nat.testBit_two_pow_mul_add a (i := 8) hb j
    rw [Nat.mul_comm a 256]
    exact e
  unfold pn_pc pn_p8
  rw [show (16 : Nat) = 8 + 8 from rfl, pu_sum_app]
  rw [pu_sum_congr (g := fun i => (Nat.testBit b i).toNat) (fun i hi => by rw [h i, if_pos hi])]
  rw [pu_sum_congr (f := fun i => (Nat.testBit (a * 256 + b) (8 + i)).toNat) (g := fun i => (Nat.testBit a i).toNat) (fun i hi => by rw [h (8 + i), if_neg (by omega), Nat.add_sub_cancel_left])]
theorem pn_eq {x : Nat} (h : x < 65536) : pn_v5 (pn_v4 (pn_v3 (pn_v2 (pn_v1 x)))) = pn_pc x ∧ Nat.land (Nat.shiftRight x 1) 1431655765 ≤ x := by
  obtain ⟨a, b, ha, hb, rfl⟩ : ∃ a b, a < 256 ∧ b < 256 ∧ x = a * 256 + b := ⟨x / 256, x % 256, by omega, by omega, by omega⟩
  have la := (pn_d1 a ha).2
  have lb := (pn_d1 b hb).2
  have e1 := pn_A1 ha hb
  have ev : pn_v1 (a * 256 + b) = pn_v1 a * 256 + pn_v1 b := by
    show (a * 256 + b) - Nat.land (Nat.shiftRight (a * 256 + b) 1) 1431655765 = (a - Nat.land (Nat.shiftRight a 1) 1431655765) * 256 + (b - Nat.land (Nat.shiftRight b 1) 1431655765)
    rw [e1]; omega
  have va : pn_v1 a < 256 := Nat.lt_of_le_of_lt (Nat.sub_le _ _) ha
  have vb : pn_v1 b < 256 := Nat.lt_of_le_of_lt (Nat.sub_le _ _) hb
  refine ⟨?_, by rw [e1]; omega⟩
  rw [ev, pn_A2 va vb, pn_D hb]
  obtain ⟨a1, a2, a3⟩ := pn_B a ha
  obtain ⟨b1, b2, b3⟩ := pn_B b hb
  have hc := pn_C _ a2 _ a1 _ b2 _ b1
  rw [show 16 * (pn_v2 (pn_v1 a) / 16) + pn_v2 (pn_v1 a) % 16 = pn_v2 (pn_v1 a) by omega, show 16 * (pn_v2 (pn_v1 b) / 16) + pn_v2 (pn_v1 b) % 16 = pn_v2 (pn_v1 b) by omega] at hc
  rw [hc]; omega
theorem pn_bv (n : Nat) : (nI n).toBitVec = BitVec.ofNat 32 n := rfl
theorem pn_and (a b : Nat) : nI a &&& nI b = nI (Nat.land a b) := by
  apply Int32.toBitVec_inj.mp
  rw [Int32.toBitVec_and, pn_bv, pn_bv, pn_bv]
  apply BitVec.eq_of_getLsbD_eq
  intro i hi
  rw [BitVec.getLsbD_and, BitVec.getLsbD_ofNat, BitVec.getLsbD_ofNat, BitVec.getLsbD_ofNat]
  show _ = (decide (i < 32) && Nat.testBit (a &&& b) i)
  rw [Nat.testBit_and, decide_eq_true hi]
  rfl
theorem pn_shr {n k : Nat} (hn : n < 2 ^ 32) (hk : k < 32) : (Int32.toUInt32 (nI n) >>> (Int32.toUInt32 (nI k) &&& Int32.toUInt32 31)).toInt32 = nI (Nat.shiftRight n k) := by
  apply Int32.toBitVec_inj.mp
  have e : ((Int32.toUInt32 (nI n) >>> (Int32.toUInt32 (nI k) &&& Int32.toUInt32 31)).toInt32).toBitVec = (nI n).toBitVec >>> k := by
    show (nI n).toBitVec >>> (((nI k).toUInt32 &&& Int32.toUInt32 31).toBitVec % 32) = (nI n).toBitVec >>> k
    rw [BitVec.ushiftRight_eq', pu_s_u k hk]
  rw [e, pn_bv, pn_bv]
  apply BitVec.eq_of_getLsbD_eq
  intro i hi
  rw [BitVec.getLsbD_ushiftRight, BitVec.getLsbD_ofNat, BitVec.getLsbD_ofNat]
  show _ = (decide (i < 32) && Nat.testBit (n >>> k) i)
  rw [Nat.testBit_shiftRight, decide_eq_true hi]
  by_cases c : k + i < 32
  · rw [decide_eq_true c]
  · rw [decide_eq_false c, Nat.testBit_lt_two_pow (Nat.lt_of_lt_of_le hn (Nat.pow_le_pow_right (by omega) (by omega)))]
    rfl
theorem mJ_bitCount_n {n : Nat} (h : n < 65536) : mJ_bitCount (nI n) = some (nI (pn_pc n)) := by
  obtain ⟨e1, e2⟩ := pn_eq h
  have b1 : pn_v1 n ≤ n := Nat.sub_le _ _
  have l2 : ∀ v m, Nat.land v m ≤ m := fun v m => Nat.and_le_right
  have s2 : ∀ v k, Nat.shiftRight v k ≤ v := fun v k => Nat.shiftRight_le v k
  have b2 : pn_v2 (pn_v1 n) ≤ 858993459 + 858993459 := Nat.add_le_add (l2 _ _) (l2 _ _)
  have b3 : pn_v3 (pn_v2 (pn_v1 n)) ≤ 252645135 := l2 _ _
  have b4 : pn_v4 (pn_v3 (pn_v2 (pn_v1 n))) ≤ 252645135 + 252645135 := Nat.add_le_add b3 (Nat.le_trans (s2 _ _) b3)
  unfold mJ_bitCount
  rw [show (1 : Int32) = nI 1 from rfl, show (2 : Int32) = nI 2 from rfl, show (4 : Int32) = nI 4 from rfl, show (8 : Int32) = nI 8 from rfl, show (16 : Int32) = nI 16 from rfl, show (1431655765 : Int32) = nI 1431655765 from rfl, show (858993459 : Int32) = nI 858993459 from rfl, show (252645135 : Int32) = nI 252645135 from rfl, show (63 : Int32) = nI 63 from rfl]
  rw [pn_shr (by omega) (by decide), pn_and, pk_sub e2, me_bnd]
  rw [show n - Nat.land (Nat.shiftRight n 1) 1431655765 = pn_v1 n from rfl]
  rw [pn_and, pn_shr (by omega) (by decide), pn_and, nI_add, me_bnd]
  rw [show Nat.land (pn_v1 n) 858993459 + Nat.land (Nat.shiftRight (pn_v1 n) 2) 858993459 = pn_v2 (pn_v1 n) from rfl]
  rw [pn_shr (by omega) (by decide), nI_add, pn_and, me_bnd]
  rw [show Nat.land (pn_v2 (pn_v1 n) + Nat.shiftRight (pn_v2 (pn_v1 n)) 4) 252645135 = pn_v3 (pn_v2 (pn_v1 n)) from rfl]
  rw [pn_shr (by omega) (by decide), nI_add, me_bnd]
  rw [show pn_v3 (pn_v2 (pn_v1 n)) + Nat.shiftRight (pn_v3 (pn_v2 (pn_v1 n))) 8 = pn_v4 (pn_v3 (pn_v2 (pn_v1 n))) from rfl]
  rw [pn_shr (by omega) (by decide), nI_add, me_bnd, pn_and]
  rw [show Nat.land (pn_v4 (pn_v3 (pn_v2 (pn_v1 n))) + Nat.shiftRight (pn_v4 (pn_v3 (pn_v2 (pn_v1 n)))) 16) 63 = pn_v5 (pn_v4 (pn_v3 (pn_v2 (pn_v1 n)))) from rfl, e1]
theorem mJ_bitCount_e {x : Int32} (h : ∀ i, 16 ≤ i → pu_b x i = false) : mJ_bitCount x = some (nI (pu_pc x.toBitVec)) := by
  have hx : nI x.toBitVec.toNat = x := by
    apply Int32.toBitVec_inj.mp
    rw [pn_bv]
    apply BitVec.eq_of_toNat_eq
    rw [BitVec.toNat_ofNat, Nat.mod_eq_of_lt x.toBitVec.isLt]
  have hb : ∀ i, Nat.testBit x.toBitVec.toNat i = pu_b x i := fun i => rfl
  have hlt : x.toBitVec.toNat < 65536 := by
    have := Nat.lt_pow_two_of_testBit (n := 16) x.toBitVec.toNat (fun i hi => by rw [hb]; exact h i hi)
    exact this
  have e := mJ_bitCount_n hlt
  rw [hx] at e
  rw [e, lf_pc16 h]
  rfl
theorem lf_pcn {x : Int32} {n : Nat} (hn : n ≤ 32) (h : ∀ i, n ≤ i → pu_b x i = false) : pu_pc x.toBitVec = pu_sum (fun w => (pu_b x w).toNat) n := by
  have e := pu_sum_trunc (fun i => (x.toBitVec.getLsbD i).toNat) n (32 - n) (fun i h1 _ => by
    have := h i h1
    unfold pu_b at this
    show (x.toBitVec.getLsbD i).toNat = 0
    rw [this]; rfl)
  rw [show n + (32 - n) = 32 by omega] at e
  exact e
