def lf_AH (held labels : Nat → Int32) (m k e d : Nat) : Prop := (e = 64 ∧ pu_b (held ((13 * m + k) * 20 + (16 + d / 16))) (d % 16) = true) ∨ (e < 64 ∧ e / 16 = d / 16 ∧ pu_b (labels (20 * m + e % 16)) (e / 16) = true ∧ pu_b (held ((13 * m + k) * 20 + e % 16)) (d % 16) = true)
theorem lf_pc64 (x : Int64) : pu_pc x.toBitVec = pu_sum (fun s => pu_sum (fun w => (pu_c x (s * 16 + w)).toNat) 16) 4 := by
  show pu_sum (fun i => (x.toBitVec.getLsbD i).toNat) (4 * 16) = _
  rw [pu_sum_prod]; rfl
theorem lf_pc16 {x : Int32} (h : ∀ i, 16 ≤ i → pu_b x i = false) : pu_pc x.toBitVec = pu_sum (fun w => (pu_b x w).toNat) 16 := by
  refine pu_sum_trunc (fun i => (x.toBitVec.getLsbD i).toNat) 16 16 (fun i h1 _ => ?_)
  have := h i h1
  unfold pu_b at this
  show (x.toBitVec.getLsbD i).toNat = 0
  rw [this]; rfl
theorem lf_pc4 {x : Int32} (h : ∀ i, 4 ≤ i → pu_b x i = false) : pu_pc x.toBitVec = pu_sum (fun w => (pu_b x w).toNat) 4 := by
  refine pu_sum_trunc (fun i => (x.toBitVec.getLsbD i).toNat) 4 28 (fun i h1 _ => ?_)
  have := h i h1
  unfold pu_b at this
  show (x.toBitVec.getLsbD i).toNat = 0
  rw [this]; rfl
theorem lf_tn {b c : Bool} (h : b = true ↔ c = true) : b.toNat = c.toNat := by
  cases b <;> cases c <;> first | rfl | exact absurd (h.mp rfl) (by decide) | exact absurd (h.mpr rfl) (by decide)
theorem lf_tn0 {b : Bool} (h : ¬ b = true) : b.toNat = 0 := by
  cases b
  · rfl
  · exact absurd rfl h
section CNT
variable {hold : Nat → Int64} {held labels : Nat → Int32} {len : Nat → Nat} {m k : Nat}
theorem lf_cnt1 (hH : ∀ e d, e ≤ 64 → d < 64 → (pu_c (hold ((13 * m + k) * 65 + e)) d = true ↔ lf_AH held labels m k e d))
    (hh : ∀ w, w < 20 → ∀ i, 16 ≤ i → pu_b (held ((13 * m + k) * 20 + w)) i = false) (hl : ∀ w, w < 16 → ∀ i, 4 ≤ i → pu_b (labels (20 * m + w)) i = false) (hz : ∀ s, s < 4 → pu_pc (labels (20 * m + (16 + s))).toBitVec = 1) :
    pu_sum (fun e => pu_pc (hold ((13 * m + k) * 65 + e)).toBitVec) 65 = pu_sum (fun w => pu_pc (labels (20 * m + w)).toBitVec * pu_pc (held ((13 * m + k) * 20 + w)).toBitVec) 20 := by
  have h64 : pu_pc (hold ((13 * m + k) * 65 + 64)).toBitVec = pu_sum (fun s => pu_pc (labels (20 * m + (16 + s))).toBitVec * pu_pc (held ((13 * m + k) * 20 + (16 + s))).toBitVec) 4 := by
    rw [lf_pc64]
    refine pu_sum_congr (fun s hs => ?_)
    rw [hz s hs, Nat.one_mul, lf_pc16 (hh (16 + s) (by omega))]
    refine pu_sum_congr (fun w hw => lf_tn ?_)
    rw [hH 64 (s * 16 + w) (by omega) (by omega)]
    have e1 : (s * 16 + w) / 16 = s := by omega
    have e2 : (s * 16 + w) % 16 = w := by omega
    unfold lf_AH
    rw [e1, e2]
    constructor
    · rintro (⟨_, h⟩ | ⟨h, _⟩)
      · exact h
      · exact absurd h (by omega)
    · intro h
      exact Or.inl ⟨rfl, h⟩
  have hlow : ∀ s w, s < 4 → w < 16 → pu_pc (hold ((13 * m + k) * 65 + (s * 16 + w))).toBitVec = (pu_b (labels (20 * m + w)) s).toNat * pu_pc (held ((13 * m + k) * 20 + w)).toBitVec := by
    intro s w hs hw
    have e1 : (s * 16 + w) / 16 = s := by omega
    have e2 : (s * 16 + w) % 16 = w := by omega
    rw [lf_pc64, lf_pc16 (hh w (by omega))]
    rw [pu_sum_one (fun s' => pu_sum (fun w' => (pu_c (hold ((13 * m + k) * 65 + (s * 16 + w))) (s' * 16 + w')).toNat) 16) s 4 hs ?_]
    · cases hb : pu_b (labels (20 * m + w)) s with
      | false =>
        show pu_sum (fun w' => (pu_c (hold ((13 * m + k) * 65 + (s * 16 + w))) (s * 16 + w')).toNat) 16 = 0 * _
        rw [Nat.zero_mul, ← pu_sum_0 16]
        refine pu_sum_congr (fun w' hw' => lf_tn0 ?_)
        rw [hH (s * 16 + w) (s * 16 + w') (by omega) (by omega)]
        rintro (⟨h, _⟩ | ⟨_, _, h, _⟩)
        · omega
        · rw [e1, e2, hb] at h; cases h
      | true =>
        show pu_sum (fun w' => (pu_c (hold ((13 * m + k) * 65 + (s * 16 + w))) (s * 16 + w')).toNat) 16 = 1 * _
        rw [Nat.one_mul]
        refine pu_sum_congr (fun w' hw' => lf_tn ?_)
        have e3 : (s * 16 + w') / 16 = s := by omega
        have e4 : (s * 16 + w') % 16 = w' := by omega
        rw [hH (s * 16 + w) (s * 16 + w') (by omega) (by omega)]
        unfold lf_AH
        rw [e1, e2, e3, e4, hb]
        constructor
        · rintro (⟨h, _⟩ | ⟨_, _, _, h⟩)
          · omega
          · exact h
        · intro h
          exact Or.inr ⟨by omega, rfl, rfl, h⟩
    · intro s' hs' hn
      rw [← pu_sum_0 16]
      refine pu_sum_congr (fun w' hw' => lf_tn0 ?_)
      have e3 : (s' * 16 + w') / 16 = s' := by omega
      rw [hH (s * 16 + w) (s' * 16 + w') (by omega) (by omega)]
      rintro (⟨h, _⟩ | ⟨_, h, _, _⟩)
      · omega
      · rw [e1, e3] at h; exact hn h.symm
  have hsp : pu_sum (fun e => pu_pc (hold ((13 * m + k) * 65 + e)).toBitVec) (4 * 16) = pu_sum (fun w => pu_pc (labels (20 * m + w)).toBitVec * pu_pc (held ((13 * m + k) * 20 + w)).toBitVec) 16 := by
    rw [pu_sum_prod, pu_sum_swap]
    refine pu_sum_congr (fun w hw => ?_)
    rw [pu_sum_congr (g := fun s => (pu_b (labels (20 * m + w)) s).toNat * pu_pc (held ((13 * m + k) * 20 + w)).toBitVec) (fun s hs => hlow s w hs hw), pu_sum_mul, lf_pc4 (hl w hw)]
  show pu_sum (fun e => pu_pc (hold ((13 * m + k) * 65 + e)).toBitVec) 64 + pu_pc (hold ((13 * m + k) * 65 + 64)).toBitVec = pu_sum _ (16 + 4)
  rw [pu_sum_app _ 16 4, h64]
  show pu_sum (fun e => pu_pc (hold ((13 * m + k) * 65 + e)).toBitVec) (4 * 16) + _ = _
  rw [hsp]
end CNT
theorem lf_count {hold : Nat → Int64} {held labels : Nat → Int32} {len : Nat → Nat} (hlen : ∀ m, m < 6 → len m ≤ 12)
    (hH : ∀ m k e d, m < 6 → k ≤ len m → e ≤ 64 → d < 64 → (pu_c (hold ((13 * m + k) * 65 + e)) d = true ↔ lf_AH held labels m k e d))
    (h0 : ∀ m k e, m < 6 → k < 13 → len m < k → e ≤ 64 → hold ((13 * m + k) * 65 + e) = 0)
    (hh : ∀ m k w, m < 6 → k ≤ len m → w < 20 → ∀ i, 16 ≤ i → pu_b (held ((13 * m + k) * 20 + w)) i = false) (hl : ∀ m w, m < 6 → w < 16 → ∀ i, 4 ≤ i → pu_b (labels (20 * m + w)) i = false) (hz : ∀ m s, m < 6 → s < 4 → pu_pc (labels (20 * m + (16 + s))).toBitVec = 1) :
    pu_sum (fun j => pu_pc (hold j).toBitVec) 5070 = pu_sum (fun m => pu_sum (fun w => pu_pc (labels (20 * m + w)).toBitVec * pu_sum (fun k => pu_pc (held ((13 * m + k) * 20 + w)).toBitVec) (len m + 1)) 20) 6 := by
  have e1 : pu_sum (fun j => pu_pc (hold j).toBitVec) 5070 = pu_sum (fun m => pu_sum (fun k => pu_sum (fun e => pu_pc (hold ((13 * m + k) * 65 + e)).toBitVec) 65) 13) 6 := by
    rw [show (5070 : Nat) = 78 * 65 from rfl, pu_sum_prod, show (78 : Nat) = 6 * 13 from rfl, pu_sum_prod]
    refine pu_sum_congr (fun m hm => pu_sum_congr (fun k hk => ?_))
    rw [Nat.mul_comm m 13]
  rw [e1]
  refine pu_sum_congr (fun m hm => ?_)
  have hlm := hlen m hm
  have tr : ∀ (f : Nat → Nat), (∀ k, len m < k → k < 13 → f k = 0) → pu_sum f 13 = pu_sum f (len m + 1) := by
    intro f hf
    have e := pu_sum_trunc f (len m + 1) (12 - len m) (fun i h1 h2 => hf i (by omega) (by omega))
    rw [show len m + 1 + (12 - len m) = 13 by omega] at e
    exact e
  have e3 : pu_sum (fun k => pu_sum (fun e => pu_pc (hold ((13 * m + k) * 65 + e)).toBitVec) 65) 13 = pu_sum (fun k => pu_sum (fun e => pu_pc (hold ((13 * m + k) * 65 + e)).toBitVec) 65) (len m + 1) := by
    refine tr _ (fun k h1 h2 => ?_)
    rw [← pu_sum_0 65]
    refine pu_sum_congr (fun e he => ?_)
    rw [h0 m k e hm h2 h1 (by omega)]
    decide +kernel
  rw [e3]
  rw [pu_sum_congr (g := fun k => pu_sum (fun w => pu_pc (labels (20 * m + w)).toBitVec * pu_pc (held ((13 * m + k) * 20 + w)).toBitVec) 20) (fun k hk => lf_cnt1 (fun e d he hd => hH m k e d hm (by omega) he hd) (fun w hw => hh m k w hm (by omega) hw) (fun w hw => hl m w hm hw) (fun s hs => hz m s hm hs))]
  rw [pu_sum_swap]
  refine pu_sum_congr (fun w hw => ?_)
  rw [pu_sum_congr (g := fun k => pu_pc (held ((13 * m + k) * 20 + w)).toBitVec * pu_pc (labels (20 * m + w)).toBitVec) (fun k hk => Nat.mul_comm _ _), pu_sum_mul, Nat.mul_comm]
