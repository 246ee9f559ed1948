def pu_wp {β : Type} (c : Option β) (Q : β → Prop) : Prop := ∃ r, c = some r ∧ Q r
theorem pu_some {β : Type} {r : β} {Q : β → Prop} : pu_wp (some r) Q ↔ Q r := by
  constructor
  · rintro ⟨x, e, h⟩; cases e; exact h
  · intro h; exact ⟨r, rfl, h⟩
theorem pu_bnd {α β : Type} {v : α} {k : α → Option β} {Q : β → Prop} : pu_wp (mb_bnd v k) Q ↔ pu_wp (k v) Q := Iff.rfl
theorem pu_ite {β : Type} {c : Prop} [Decidable c] {a b : Option β} {Q : β → Prop} : pu_wp (if c then a else b) Q ↔ (c → pu_wp a Q) ∧ (¬ c → pu_wp b Q) := by
  by_cases h : c
  · rw [if_pos h]; exact ⟨fun q => ⟨fun _ => q, fun n => absurd h n⟩, fun q => q.1 h⟩
  · rw [if_neg h]; exact ⟨fun q => ⟨fun n => absurd n h, fun _ => q⟩, fun q => q.2 h⟩
theorem pu_t {β : Type} {c : Prop} [Decidable c] {a b : Option β} {Q : β → Prop} (h : c) : pu_wp (if c then a else b) Q ↔ pu_wp a Q := by rw [if_pos h]
theorem pu_f {β : Type} {c : Prop} [Decidable c] {a b : Option β} {Q : β → Prop} (h : ¬ c) : pu_wp (if c then a else b) Q ↔ pu_wp b Q := by rw [if_neg h]
theorem pu_mono {β : Type} {c : Option β} {Q Q' : β → Prop} (h : pu_wp c Q) (hq : ∀ r, Q r → Q' r) : pu_wp c Q' := by
  obtain ⟨r, e, q⟩ := h
  exact ⟨r, e, hq r q⟩
theorem pu_eq {β : Type} {c : Option β} {r : β} {Q : β → Prop} (h : c = some r) : pu_wp c Q ↔ Q r := by rw [h]; exact pu_some
theorem pu_cal {ρ β : Type} {c : Option (ρ × mb_S)} {k : ρ → mb_S → Option β} {Q : β → Prop} : pu_wp (mb_cal c k) Q ↔ pu_wp c (fun r => pu_wp (k r.1 r.2) Q) := by
  cases c with
  | none => exact ⟨fun ⟨_, e, _⟩ => (by cases e), fun ⟨_, e, _⟩ => (by cases e)⟩
  | some q => rw [pu_some]; rfl
theorem pu_cal0 {ρ β : Type} {c : Option ρ} {k : ρ → Option β} {Q : β → Prop} : pu_wp (mb_cal0 c k) Q ↔ pu_wp c (fun r => pu_wp (k r) Q) := by
  cases c with
  | none => exact ⟨fun ⟨_, e, _⟩ => (by cases e), fun ⟨_, e, _⟩ => (by cases e)⟩
  | some q => rw [pu_some]; rfl
theorem pu_cale {ρ β : Type} {v : ρ} {t : mb_S} {c : Option (ρ × mb_S)} {k : ρ → mb_S → Option β} {Q : β → Prop} (h : c = some (v, t)) : pu_wp (mb_cal c k) Q ↔ pu_wp (k v t) Q := by rw [h]; rfl
theorem pu_cal0e {ρ β : Type} {v : ρ} {c : Option ρ} {k : ρ → Option β} {Q : β → Prop} (h : c = some v) : pu_wp (mb_cal0 c k) Q ↔ pu_wp (k v) Q := by rw [h]; rfl
theorem pu_ld {β : Type} {f : Nat → Int32} {n j : Nat} {k : Int32 → Option β} {Q : β → Prop} (h : j < n) (hn : n < 2 ^ 31) : pu_wp (mb_ld f n (nI j) k) Q ↔ pu_wp (k (f j)) Q := by
  unfold mb_ld
  rw [if_neg (nI_in h hn), nI_clamp (Nat.lt_trans h hn)]
theorem pu_ldL {β : Type} {f : Nat → Int64} {n j : Nat} {k : Int64 → Option β} {Q : β → Prop} (h : j < n) (hn : n < 2 ^ 31) : pu_wp (mb_ldL f n (nI j) k) Q ↔ pu_wp (k (f j)) Q := by
  unfold mb_ldL
  rw [if_neg (nI_in h hn), nI_clamp (Nat.lt_trans h hn)]
theorem pu_stI {β : Type} {s : mb_S} {a n j : Nat} {v : Int32} {k : mb_S → Option β} {Q : β → Prop} (h : j < n) (hn : n < 2 ^ 31) : pu_wp (mb_stI s a n (nI j) v k) Q ↔ pu_wp (k (mb_setI s a j v)) Q := by
  unfold mb_stI
  rw [if_neg (nI_in h hn), nI_clamp (Nat.lt_trans h hn)]
theorem pu_stZ {β : Type} {s : mb_S} {a n j : Nat} {v : Int32} {k : mb_S → Option β} {Q : β → Prop} (hv : v = 0 ∨ v = 1) (h : j < n) (hn : n < 2 ^ 31) : pu_wp (mb_stZ s a n (nI j) v k) Q ↔ pu_wp (k (mb_setI s a j v)) Q := by
  unfold mb_stZ
  rw [if_neg (nI_in h hn), if_pos hv, nI_clamp (Nat.lt_trans h hn)]
theorem pu_stL {β : Type} {s : mb_S} {a n j : Nat} {v : Int64} {k : mb_S → Option β} {Q : β → Prop} (h : j < n) (hn : n < 2 ^ 31) : pu_wp (mb_stL s a n (nI j) v k) Q ↔ pu_wp (k (mb_setL s a j v)) Q := by
  unfold mb_stL
  rw [if_neg (nI_in h hn), nI_clamp (Nat.lt_trans h hn)]
theorem pu_putF {β : Type} {s : mb_S} {a : Nat} {v : Int32} {k : mb_S → Option β} {Q : β → Prop} : pu_wp (mb_putF s a v k) Q ↔ pu_wp (k (mb_setF s a v)) Q := Iff.rfl
theorem pu_putZ {β : Type} {s : mb_S} {a : Nat} {v : Int32} {k : mb_S → Option β} {Q : β → Prop} (hv : v = 0 ∨ v = 1) : pu_wp (mb_putZ s a v k) Q ↔ pu_wp (k (mb_setF s a v)) Q := by
  unfold mb_putZ
  rw [if_pos hv]
theorem pu_retZ {v : Int32} {s : mb_S} {Q : Int32 × mb_S → Prop} (hv : v = 0 ∨ v = 1) : pu_wp (mb_retZ v s) Q ↔ Q (v, s) := by
  unfold mb_retZ
  rw [if_pos hv]; exact pu_some
theorem pu_ret0 {v : Int32} {Q : Int32 → Prop} (hv : v = 0 ∨ v = 1) : pu_wp (mb_ret0 v) Q ↔ Q v := by
  unfold mb_ret0
  rw [if_pos hv]; exact pu_some
theorem pu_fill {β : Type} {s : mb_S} {a n : Nat} {v : Int32} {k : mb_S → Option β} {Q : β → Prop} : pu_wp (mb_fill s a n v k) Q ↔ pu_wp (k (mb_filS s a n v)) Q := Iff.rfl
theorem pu_FA (s : mb_S) (a n k : Nat) (v : Int32) : mb_F (mb_filS s a n v) k = mb_F s k := rfl
theorem pu_IA (s : mb_S) (a n b : Nat) (v : Int32) : mb_I (mb_filS s a n v) b = if b = a then (fun j => if j < n then v else mb_I s a j) else mb_I s b := rfl
theorem pu_LA (s : mb_S) (a n b : Nat) (v : Int32) : mb_L (mb_filS s a n v) b = mb_L s b := rfl
theorem pu_FF (s : mb_S) (k j : Nat) (v : Int32) : mb_F (mb_setF s k v) j = if j = k then v else mb_F s j := rfl
theorem pu_FI (s : mb_S) (a j k : Nat) (v : Int32) : mb_F (mb_setI s a j v) k = mb_F s k := rfl
theorem pu_FL (s : mb_S) (a j k : Nat) (v : Int64) : mb_F (mb_setL s a j v) k = mb_F s k := rfl
theorem pu_IF (s : mb_S) (k b : Nat) (v : Int32) : mb_I (mb_setF s k v) b = mb_I s b := rfl
theorem pu_II (s : mb_S) (a j b : Nat) (v : Int32) : mb_I (mb_setI s a j v) b = if b = a then upd (mb_I s a) j v else mb_I s b := rfl
theorem pu_IL (s : mb_S) (a j b : Nat) (v : Int64) : mb_I (mb_setL s a j v) b = mb_I s b := rfl
theorem pu_LF (s : mb_S) (k b : Nat) (v : Int32) : mb_L (mb_setF s k v) b = mb_L s b := rfl
theorem pu_LI (s : mb_S) (a j b : Nat) (v : Int32) : mb_L (mb_setI s a j v) b = mb_L s b := rfl
theorem pu_LL (s : mb_S) (a j b : Nat) (v : Int64) : mb_L (mb_setL s a j v) b = if b = a then vp_updL (mb_L s a) j v else mb_L s b := rfl
theorem pu_upd (f : Nat → Int32) (j i : Nat) (v : Int32) : upd f j v i = if i = j then v else f i := rfl
theorem pu_updL (f : Nat → Int64) (j i : Nat) (v : Int64) : vp_updL f j v i = if i = j then v else f i := rfl
theorem pu_l2 : (2 : Int32) = nI 2 := rfl
theorem pu_l3 : (3 : Int32) = nI 3 := rfl
theorem pu_l4 : (4 : Int32) = nI 4 := rfl
theorem pu_l5 : (5 : Int32) = nI 5 := rfl
theorem pu_l6 : (6 : Int32) = nI 6 := rfl
theorem pu_l7 : (7 : Int32) = nI 7 := rfl
theorem pu_l8 : (8 : Int32) = nI 8 := rfl
theorem pu_l9 : (9 : Int32) = nI 9 := rfl
theorem pu_l10 : (10 : Int32) = nI 10 := rfl
theorem pu_l11 : (11 : Int32) = nI 11 := rfl
theorem pu_l12 : (12 : Int32) = nI 12 := rfl
theorem pu_l13 : (13 : Int32) = nI 13 := rfl
theorem pu_l15 : (15 : Int32) = nI 15 := rfl
theorem pu_l16 : (16 : Int32) = nI 16 := rfl
theorem pu_l20 : (20 : Int32) = nI 20 := rfl
theorem pu_l24 : (24 : Int32) = nI 24 := rfl
theorem pu_l32 : (32 : Int32) = nI 32 := rfl
theorem pu_l36 : (36 : Int32) = nI 36 := rfl
theorem pu_l64 : (64 : Int32) = nI 64 := rfl
theorem pu_l65 : (65 : Int32) = nI 65 := rfl
theorem pu_l72 : (72 : Int32) = nI 72 := rfl
theorem pu_l78 : (78 : Int32) = nI 78 := rfl
theorem pu_l200 : (200 : Int32) = nI 200 := rfl
theorem pu_l5070 : (5070 : Int32) = nI 5070 := rfl
theorem pu_eq0 {a : Nat} (h : a < 2 ^ 31) : nI a = 0 ↔ a = 0 := by
  rw [← nI_0]; exact nI_eq h (by omega)
theorem pu_eq1 {a : Nat} (h : a < 2 ^ 31) : nI a = 1 ↔ a = 1 := by
  exact nI_eq (b := 1) h (by omega)
theorem pu_ne {a : Nat} (h : a < 2 ^ 31) : ¬ nI a = -1 := by
  intro e
  have h1 := congrArg Int32.toInt e
  rw [nI_toInt h] at h1
  have h2 : (-1 : Int32).toInt = -1 := by decide
  rw [h2] at h1
  omega
theorem pu_lt0 {a : Nat} (h : a < 2 ^ 31) : ¬ nI a < 0 := nI_pos h
theorem pu_ge0 {a : Nat} (h : a < 2 ^ 31) : 0 ≤ nI a := nI_pos' h
theorem pu_cases (x : Int32) : x < 0 ∨ ∃ j : Nat, j < 2 ^ 31 ∧ x = nI j := by
  by_cases h : x < 0
  · exact Or.inl h
  · exact Or.inr (nI_of h)
def pu_sum (f : Nat → Nat) : Nat → Nat
  | 0 => 0
  | n + 1 => pu_sum f n + f n
theorem pu_sum_le {f g : Nat → Nat} : ∀ {n : Nat}, (∀ i, i < n → f i ≤ g i) → pu_sum f n ≤ pu_sum g n
  | 0, _ => Nat.le_refl _
  | n + 1, h => Nat.add_le_add (pu_sum_le (fun i hi => h i (Nat.lt_succ_of_lt hi))) (h n (Nat.lt_succ_self n))
theorem pu_sum_congr {f g : Nat → Nat} : ∀ {n : Nat}, (∀ i, i < n → f i = g i) → pu_sum f n = pu_sum g n
  | 0, _ => rfl
  | n + 1, h => by
    show pu_sum f n + f n = pu_sum g n + g n
    rw [pu_sum_congr (fun i hi => h i (Nat.lt_succ_of_lt hi)), h n (Nat.lt_succ_self n)]
theorem pu_sum_lt {f g : Nat → Nat} : ∀ {n j : Nat}, (∀ i, i < n → f i ≤ g i) → j < n → f j < g j → pu_sum f n < pu_sum g n
  | 0, _, _, hj, _ => absurd hj (Nat.not_lt_zero _)
  | n + 1, j, h, hj, hl => by
    show pu_sum f n + f n < pu_sum g n + g n
    have h1 := pu_sum_le (fun i hi => h i (Nat.lt_succ_of_lt hi))
    have h2 := h n (Nat.lt_succ_self n)
    by_cases e : j = n
    · subst e; omega
    · have h3 := pu_sum_lt (fun i hi => h i (Nat.lt_succ_of_lt hi)) (show j < n by omega) hl
      omega
theorem pu_sum_bd {f : Nat → Nat} {c : Nat} : ∀ {n : Nat}, (∀ i, i < n → f i ≤ c) → pu_sum f n ≤ n * c
  | 0, _ => Nat.zero_le _
  | n + 1, h => by
    show pu_sum f n + f n ≤ (n + 1) * c
    have h1 := pu_sum_bd (fun i hi => h i (Nat.lt_succ_of_lt hi))
    have h2 := h n (Nat.lt_succ_self n)
    rw [Nat.succ_mul]
    omega
theorem pu_sum_0 : ∀ (n : Nat), pu_sum (fun _ => 0) n = 0
  | 0 => rfl
  | n + 1 => by show pu_sum (fun _ => 0) n + 0 = 0; rw [pu_sum_0 n]
theorem pu_sum_add (f g : Nat → Nat) : ∀ (n : Nat), pu_sum (fun i => f i + g i) n = pu_sum f n + pu_sum g n
  | 0 => rfl
  | n + 1 => by
    show pu_sum (fun i => f i + g i) n + (f n + g n) = (pu_sum f n + f n) + (pu_sum g n + g n)
    rw [pu_sum_add f g n]; omega
theorem pu_sum_mul (c : Nat) (f : Nat → Nat) : ∀ (n : Nat), pu_sum (fun i => f i * c) n = pu_sum f n * c
  | 0 => (Nat.zero_mul c).symm
  | n + 1 => by
    show pu_sum (fun i => f i * c) n + f n * c = (pu_sum f n + f n) * c
    rw [pu_sum_mul c f n, Nat.add_mul]
theorem pu_sum_app (f : Nat → Nat) (a : Nat) : ∀ (b : Nat), pu_sum f (a + b) = pu_sum f a + pu_sum (fun i => f (a + i)) b
  | 0 => rfl
  | b + 1 => by
    show pu_sum f (a + b) + f (a + b) = pu_sum f a + (pu_sum (fun i => f (a + i)) b + f (a + b))
    rw [pu_sum_app f a b]; omega
theorem pu_sum_prod (f : Nat → Nat) (b : Nat) : ∀ (a : Nat), pu_sum f (a * b) = pu_sum (fun i => pu_sum (fun j => f (i * b + j)) b) a
  | 0 => by rw [Nat.zero_mul]; rfl
  | a + 1 => by
    show pu_sum f ((a + 1) * b) = pu_sum (fun i => pu_sum (fun j => f (i * b + j)) b) a + pu_sum (fun j => f (a * b + j)) b
    rw [Nat.succ_mul, pu_sum_app, pu_sum_prod f b a]
theorem pu_sum_swap (f : Nat → Nat → Nat) (b : Nat) : ∀ (a : Nat), pu_sum (fun i => pu_sum (fun j => f i j) b) a = pu_sum (fun j => pu_sum (fun i => f i j) a) b
  | 0 => (pu_sum_0 b).symm
  | a + 1 => by
    show pu_sum (fun i => pu_sum (fun j => f i j) b) a + pu_sum (fun j => f a j) b = pu_sum (fun j => pu_sum (fun i => f i j) a + f a j) b
    rw [pu_sum_add, pu_sum_swap f b a]
theorem pu_sum_trunc (f : Nat → Nat) (n : Nat) : ∀ (m : Nat), (∀ i, n ≤ i → i < n + m → f i = 0) → pu_sum f (n + m) = pu_sum f n
  | 0, _ => rfl
  | m + 1, h => by
    show pu_sum f (n + m) + f (n + m) = pu_sum f n
    rw [pu_sum_trunc f n m (fun i h1 h2 => h i h1 (by omega)), h (n + m) (by omega) (by omega), Nat.add_zero]
theorem pu_sum_one (f : Nat → Nat) (j : Nat) : ∀ (n : Nat), j < n → (∀ i, i < n → i ≠ j → f i = 0) → pu_sum f n = f j
  | 0, h, _ => absurd h (Nat.not_lt_zero _)
  | n + 1, h, hz => by
    show pu_sum f n + f n = f j
    by_cases e : j = n
    · subst e
      have h0 : pu_sum f j = pu_sum (fun _ => 0) j := pu_sum_congr (fun i hi => hz i (by omega) (by omega))
      rw [h0, pu_sum_0, Nat.zero_add]
    · rw [pu_sum_one f j n (by omega) (fun i hi hn => hz i (by omega) hn), hz n (by omega) (fun q => e q.symm), Nat.add_zero]
def pu_pc {w : Nat} (x : BitVec w) : Nat := pu_sum (fun i => (x.getLsbD i).toNat) w
theorem pu_pc_le {w : Nat} (x : BitVec w) : pu_pc x ≤ w := by
  have h := pu_sum_bd (f := fun i => (x.getLsbD i).toNat) (c := 1) (n := w) (fun i _ => by cases x.getLsbD i <;> decide)
  rw [Nat.mul_one] at h
  exact h
theorem pu_pc_mono {w : Nat} {x y : BitVec w} (h : ∀ i, i < w → x.getLsbD i = true → y.getLsbD i = true) : pu_pc x ≤ pu_pc y := by
  refine pu_sum_le (fun i hi => ?_)
  have h1 := h i hi
  revert h1
  cases x.getLsbD i <;> cases y.getLsbD i <;> decide
theorem pu_pc_lt {w : Nat} {x y : BitVec w} (h : ∀ i, i < w → x.getLsbD i = true → y.getLsbD i = true) (hn : x ≠ y) : pu_pc x < pu_pc y := by
  have hex : ∃ i, i < w ∧ x.getLsbD i = false ∧ y.getLsbD i = true := by
    apply Classical.byContradiction
    intro hno
    apply hn
    apply BitVec.eq_of_getLsbD_eq
    intro i hi
    have h1 := h i hi
    cases hx : x.getLsbD i with
    | true => rw [h1 hx]
    | false =>
      cases hy : y.getLsbD i with
      | false => rfl
      | true => exact absurd ⟨i, hi, hx, hy⟩ hno
  obtain ⟨i, hi, hx, hy⟩ := hex
  refine pu_sum_lt (fun j hj => ?_) hi ?_
  · have h1 := h j hj
    revert h1
    cases x.getLsbD j <;> cases y.getLsbD j <;> decide
  · show (x.getLsbD i).toNat < (y.getLsbD i).toNat
    rw [hx, hy]; decide
def pu_b (x : Int32) (i : Nat) : Bool := x.toBitVec.getLsbD i
def pu_c (x : Int64) (i : Nat) : Bool := x.toBitVec.getLsbD i
theorem pu_b_ext {x y : Int32} (h : ∀ i, i < 32 → pu_b x i = pu_b y i) : x = y := Int32.toBitVec_inj.mp (BitVec.eq_of_getLsbD_eq (fun i hi => h i hi))
theorem pu_c_ext {x y : Int64} (h : ∀ i, i < 64 → pu_c x i = pu_c y i) : x = y := Int64.toBitVec_inj.mp (BitVec.eq_of_getLsbD_eq (fun i hi => h i hi))
theorem pu_b_or (x y : Int32) (i : Nat) : pu_b (x ||| y) i = (pu_b x i || pu_b y i) := by unfold pu_b; rw [Int32.toBitVec_or, BitVec.getLsbD_or]
theorem pu_b_and (x y : Int32) (i : Nat) : pu_b (x &&& y) i = (pu_b x i && pu_b y i) := by unfold pu_b; rw [Int32.toBitVec_and, BitVec.getLsbD_and]
theorem pu_c_or (x y : Int64) (i : Nat) : pu_c (x ||| y) i = (pu_c x i || pu_c y i) := by unfold pu_c; rw [Int64.toBitVec_or, BitVec.getLsbD_or]
theorem pu_c_and (x y : Int64) (i : Nat) : pu_c (x &&& y) i = (pu_c x i && pu_c y i) := by unfold pu_c; rw [Int64.toBitVec_and, BitVec.getLsbD_and]
theorem pu_b_big {x : Int32} {i : Nat} (h : 32 ≤ i) : pu_b x i = false := BitVec.getLsbD_of_ge _ _ h
theorem pu_c_big {x : Int64} {i : Nat} (h : 64 ≤ i) : pu_c x i = false := BitVec.getLsbD_of_ge _ _ h
theorem pu_b_0 (i : Nat) : pu_b 0 i = false := BitVec.getLsbD_zero
theorem pu_c_0 (i : Nat) : pu_c 0 i = false := BitVec.getLsbD_zero
theorem pu_b_not (x : Int32) (i : Nat) (h : i < 32) : pu_b (x ^^^ (-1)) i = !(pu_b x i) := by
  unfold pu_b
  rw [Int32.toBitVec_xor, BitVec.getLsbD_xor, (by decide +kernel : ∀ i, i < 32 → (-1 : Int32).toBitVec.getLsbD i = true) i h]
  cases x.toBitVec.getLsbD i <;> rfl
theorem pu_s_l : ∀ n, n < 32 → ((nI n &&& 31).toBitVec.smod 32).toNat = n := by decide +kernel
theorem pu_s_u : ∀ n, n < 32 → (((nI n).toUInt32 &&& Int32.toUInt32 31).toBitVec % 32).toNat = n := by decide +kernel
theorem pu_b_1l {n : Nat} (hn : n < 32) (i : Nat) : pu_b ((1 : Int32) <<< (nI n &&& 31)) i = decide (i = n) := by
  rcases Nat.lt_or_ge i 32 with h | h
  · exact (by decide +kernel : ∀ n, n < 32 → ∀ i, i < 32 → pu_b ((1 : Int32) <<< (nI n &&& 31)) i = decide (i = n)) n hn i h
  · rw [pu_b_big h, decide_eq_false (by omega)]
theorem pu_b_ushr {x : Int32} {n : Nat} (hn : n < 32) : ((Int32.toUInt32 x >>> (Int32.toUInt32 (nI n) &&& Int32.toUInt32 31)).toInt32 &&& 1) = 0 ↔ pu_b x n = false := by
  have e : ((x.toUInt32 >>> ((nI n).toUInt32 &&& Int32.toUInt32 31)).toInt32).toBitVec = x.toBitVec >>> n := by
    show x.toBitVec >>> (((nI n).toUInt32 &&& Int32.toUInt32 31).toBitVec % 32) = x.toBitVec >>> n
    rw [BitVec.ushiftRight_eq', pu_s_u n hn]
  rw [← Int32.toBitVec_inj, Int32.toBitVec_and, e]
  show (x.toBitVec >>> n &&& 1#32) = 0#32 ↔ _
  rw [BitVec.and_one_eq_setWidth_ofBool_getLsbD, BitVec.getLsbD_ushiftRight, Nat.add_zero]
  unfold pu_b
  cases x.toBitVec.getLsbD n
  · exact ⟨fun _ => rfl, fun _ => by decide⟩
  · exact ⟨fun z => absurd z (by decide), fun z => by cases z⟩
theorem pu_b_shr {x : Int32} {n : Nat} (hn : n < 32) : ((x >>> (nI n &&& 31)) &&& 1) = if pu_b x n = true then 1 else 0 := by
  apply Int32.toBitVec_inj.mp
  rw [Int32.toBitVec_and, Int32.toBitVec_shiftRight]
  show (x.toBitVec.sshiftRight ((nI n &&& 31).toBitVec.smod 32).toNat) &&& 1#32 = _
  rw [pu_s_l n hn, BitVec.and_one_eq_setWidth_ofBool_getLsbD, BitVec.getLsbD_sshiftRight]
  unfold pu_b
  have h0 : decide (32 ≤ 0) = false := rfl
  simp only [Nat.add_zero, hn, if_true, h0, Bool.not_false, Bool.true_and]
  cases x.toBitVec.getLsbD n <;> rfl
theorem pu_b_new {x y : Int32} : (x &&& (y ^^^ (-1))) = 0 ↔ ∀ i, i < 32 → pu_b x i = true → pu_b y i = true := by
  constructor
  · intro h i hi hx
    have h1 : pu_b (x &&& (y ^^^ (-1))) i = false := by rw [h]; exact pu_b_0 i
    rw [pu_b_and, pu_b_not y i hi, hx] at h1
    cases hy : pu_b y i with
    | true => rfl
    | false => rw [hy] at h1; cases h1
  · intro h
    apply pu_b_ext
    intro i hi
    rw [pu_b_and, pu_b_not y i hi, pu_b_0]
    cases hx : pu_b x i with
    | false => rfl
    | true => rw [h i hi hx]; rfl
theorem pu_or_sub {x y : Int32} (h : ∀ i, i < 32 → pu_b x i = true → pu_b y i = true) : y ||| x = y := by
  apply pu_b_ext
  intro i hi
  rw [pu_b_or]
  cases hx : pu_b x i with
  | false => rw [Bool.or_false]
  | true => rw [h i hi hx]; rfl
theorem pu_or_iff {x y : Int32} : y ||| x = y ↔ ∀ i, i < 32 → pu_b x i = true → pu_b y i = true := by
  refine ⟨fun e i hi hx => ?_, pu_or_sub⟩
  have h1 := pu_b_or y x i
  rw [e, hx, Bool.or_true] at h1
  exact h1
theorem pu_cor_iff {x y : Int64} : y ||| x = y ↔ ∀ i, i < 64 → pu_c x i = true → pu_c y i = true := by
  constructor
  · intro e i hi hx
    have h1 := pu_c_or y x i
    rw [e, hx, Bool.or_true] at h1
    exact h1
  · intro h
    apply pu_c_ext
    intro i hi
    rw [pu_c_or]
    cases hx : pu_c x i with
    | false => rw [Bool.or_false]
    | true => rw [h i hi hx]; rfl
