def eg_sg (KF KI KL : Nat → Bool) (s : mb_S) : mb_S := (fun k => if KF k = true then mb_F s k else 0, fun a => if KI a = true then mb_I s a else fun _ => 0, fun a => if KL a = true then mb_L s a else fun _ => 0)
def eg_mu (NI NL : Nat) (g : mb_S) : Nat := pu_sum (fun k => pu_pc (mb_F g k).toBitVec) 11 + pu_sum (fun a => pu_sum (fun j => pu_pc (mb_I g a j).toBitVec) NI) 24 + pu_sum (fun a => pu_sum (fun j => pu_pc (mb_L g a j).toBitVec) NL) 2
section EG
variable {KF KI KL : Nat → Bool} {NI NL : Nat} {s t : mb_S}
theorem eg_F {k : Nat} (h : KF k = true) : mb_F (eg_sg KF KI KL s) k = mb_F s k := if_pos h
theorem eg_I {a : Nat} (h : KI a = true) : mb_I (eg_sg KF KI KL s) a = mb_I s a := if_pos h
theorem eg_L {a : Nat} (h : KL a = true) : mb_L (eg_sg KF KI KL s) a = mb_L s a := if_pos h
theorem eg_sameI {a : Nat} (h : KI a = true) (e : eg_sg KF KI KL t = eg_sg KF KI KL s) : mb_I t a = mb_I s a := by
  rw [← eg_I (KF := KF) (KL := KL) (s := t) h, e, eg_I h]
theorem eg_sameL {a : Nat} (h : KL a = true) (e : eg_sg KF KI KL t = eg_sg KF KI KL s) : mb_L t a = mb_L s a := by
  rw [← eg_L (KF := KF) (KI := KI) (s := t) h, e, eg_L h]
theorem eg_sameF {a : Nat} (h : KF a = true) (e : eg_sg KF KI KL t = eg_sg KF KI KL s) : mb_F t a = mb_F s a := by
  rw [← eg_F (KI := KI) (KL := KL) (s := t) h, e, eg_F h]
theorem eg_eq (hF : ∀ k, KF k = true → mb_F t k = mb_F s k) (hI : ∀ a, KI a = true → mb_I t a = mb_I s a) (hL : ∀ a, KL a = true → mb_L t a = mb_L s a) : eg_sg KF KI KL t = eg_sg KF KI KL s := by
  have e1 : (fun k => if KF k = true then mb_F t k else 0) = (fun k => if KF k = true then mb_F s k else 0) := by
    funext k
    by_cases h : KF k = true
    · rw [if_pos h, if_pos h, hF k h]
    · rw [if_neg h, if_neg h]
  have e2 : (fun a => if KI a = true then mb_I t a else fun _ => 0) = (fun a => if KI a = true then mb_I s a else fun _ => 0) := by
    funext a
    by_cases h : KI a = true
    · rw [if_pos h, if_pos h, hI a h]
    · rw [if_neg h, if_neg h]
  have e3 : (fun a => if KL a = true then mb_L t a else fun _ => 0) = (fun a => if KL a = true then mb_L s a else fun _ => 0) := by
    funext a
    by_cases h : KL a = true
    · rw [if_pos h, if_pos h, hL a h]
    · rw [if_neg h, if_neg h]
  unfold eg_sg
  rw [e1, e2, e3]
theorem eg_flag {fl : Nat} (h : KF fl = false) (w : Int32) : eg_sg KF KI KL (mb_setF s fl w) = eg_sg KF KI KL s := by
  refine eg_eq (fun k hk => ?_) (fun _ _ => rfl) (fun _ _ => rfl)
  rw [pu_FF, if_neg (fun e => by rw [e, h] at hk; cases hk)]
theorem eg_idI {a j : Nat} {x : Int32} (e : x = mb_I s a j) : eg_sg KF KI KL (mb_setI s a j x) = eg_sg KF KI KL s := by
  refine eg_eq (fun _ _ => rfl) (fun b hb => ?_) (fun _ _ => rfl)
  rw [pu_II]
  by_cases c : b = a
  · subst c
    rw [if_pos rfl]
    funext i
    rw [pu_upd]
    by_cases c2 : i = j
    · rw [if_pos c2, c2, e]
    · rw [if_neg c2]
  · rw [if_neg c]
theorem eg_idL {a j : Nat} {x : Int64} (e : x = mb_L s a j) : eg_sg KF KI KL (mb_setL s a j x) = eg_sg KF KI KL s := by
  refine eg_eq (fun _ _ => rfl) (fun _ _ => rfl) (fun b hb => ?_)
  rw [pu_LL]
  by_cases c : b = a
  · subst c
    rw [if_pos rfl]
    funext i
    rw [pu_updL]
    by_cases c2 : i = j
    · rw [if_pos c2, c2, e]
    · rw [if_neg c2]
  · rw [if_neg c]
theorem eg_idF {a : Nat} {x : Int32} (e : x = mb_F s a) : eg_sg KF KI KL (mb_setF s a x) = eg_sg KF KI KL s := by
  refine eg_eq (fun b hb => ?_) (fun _ _ => rfl) (fun _ _ => rfl)
  rw [pu_FF]
  by_cases c : b = a
  · rw [if_pos c, c, e]
  · rw [if_neg c]
theorem eg_pcI {x v : Int32} (h : x ||| v ≠ x) : pu_pc x.toBitVec < pu_pc (x ||| v).toBitVec := by
  refine pu_pc_lt (fun i _ hx => ?_) (fun e => h (Int32.toBitVec_inj.mp e).symm)
  rw [Int32.toBitVec_or, BitVec.getLsbD_or, hx]; rfl
theorem eg_pcL {x v : Int64} (h : x ||| v ≠ x) : pu_pc x.toBitVec < pu_pc (x ||| v).toBitVec := by
  refine pu_pc_lt (fun i _ hx => ?_) (fun e => h (Int64.toBitVec_inj.mp e).symm)
  rw [Int64.toBitVec_or, BitVec.getLsbD_or, hx]; rfl
theorem eg_upI {a j : Nat} (hK : KI a = true) (ha : a < 24) (hj : j < NI) {v : Int32} (h : mb_I s a j ||| v ≠ mb_I s a j) : eg_mu NI NL (eg_sg KF KI KL s) < eg_mu NI NL (eg_sg KF KI KL (mb_setI s a j (mb_I s a j ||| v))) := by
  have hc : ∀ b, KI b = true → ∀ i, pu_pc (mb_I s b i).toBitVec ≤ pu_pc (mb_I (mb_setI s a j (mb_I s a j ||| v)) b i).toBitVec := by
    intro b _ i
    rw [pu_II]
    by_cases c : b = a
    · subst c
      rw [if_pos rfl, pu_upd]
      by_cases c2 : i = j
      · rw [if_pos c2, c2]; exact Nat.le_of_lt (eg_pcI h)
      · rw [if_neg c2]; exact Nat.le_refl _
    · rw [if_neg c]; exact Nat.le_refl _
  have hle : ∀ b i, pu_pc (mb_I (eg_sg KF KI KL s) b i).toBitVec ≤ pu_pc (mb_I (eg_sg KF KI KL (mb_setI s a j (mb_I s a j ||| v))) b i).toBitVec := by
    intro b i
    by_cases c : KI b = true
    · rw [eg_I c, eg_I c]; exact hc b c i
    · show pu_pc ((if KI b = true then mb_I s b else fun _ => 0) i).toBitVec ≤ pu_pc ((if KI b = true then mb_I (mb_setI s a j (mb_I s a j ||| v)) b else fun _ => 0) i).toBitVec
      rw [if_neg c, if_neg c]; exact Nat.le_refl _
  have hlt : pu_pc (mb_I (eg_sg KF KI KL s) a j).toBitVec < pu_pc (mb_I (eg_sg KF KI KL (mb_setI s a j (mb_I s a j ||| v))) a j).toBitVec := by
    rw [eg_I hK, eg_I hK, pu_II, if_pos rfl, pu_upd, if_pos rfl]
    exact eg_pcI h
  unfold eg_mu
  have h2 : pu_sum (fun a => pu_sum (fun j => pu_pc (mb_I (eg_sg KF KI KL s) a j).toBitVec) NI) 24 < pu_sum (fun b => pu_sum (fun i => pu_pc (mb_I (eg_sg KF KI KL (mb_setI s a j (mb_I s a j ||| v))) b i).toBitVec) NI) 24 :=
    pu_sum_lt (fun b _ => pu_sum_le (fun i _ => hle b i)) ha (pu_sum_lt (fun i _ => hle a i) hj hlt)
  have h1 : pu_sum (fun k => pu_pc (mb_F (eg_sg KF KI KL s) k).toBitVec) 11 = pu_sum (fun k => pu_pc (mb_F (eg_sg KF KI KL (mb_setI s a j (mb_I s a j ||| v))) k).toBitVec) 11 := rfl
  have h3 : pu_sum (fun a => pu_sum (fun j => pu_pc (mb_L (eg_sg KF KI KL s) a j).toBitVec) NL) 2 = pu_sum (fun b => pu_sum (fun i => pu_pc (mb_L (eg_sg KF KI KL (mb_setI s a j (mb_I s a j ||| v))) b i).toBitVec) NL) 2 := rfl
  omega
theorem eg_upL {a j : Nat} (hK : KL a = true) (ha : a < 2) (hj : j < NL) {v : Int64} (h : mb_L s a j ||| v ≠ mb_L s a j) : eg_mu NI NL (eg_sg KF KI KL s) < eg_mu NI NL (eg_sg KF KI KL (mb_setL s a j (mb_L s a j ||| v))) := by
  have hc : ∀ b, KL b = true → ∀ i, pu_pc (mb_L s b i).toBitVec ≤ pu_pc (mb_L (mb_setL s a j (mb_L s a j ||| v)) b i).toBitVec := by
    intro b _ i
    rw [pu_LL]
    by_cases c : b = a
    · subst c
      rw [if_pos rfl, pu_updL]
      by_cases c2 : i = j
      · rw [if_pos c2, c2]; exact Nat.le_of_lt (eg_pcL h)
      · rw [if_neg c2]; exact Nat.le_refl _
    · rw [if_neg c]; exact Nat.le_refl _
  have hle : ∀ b i, pu_pc (mb_L (eg_sg KF KI KL s) b i).toBitVec ≤ pu_pc (mb_L (eg_sg KF KI KL (mb_setL s a j (mb_L s a j ||| v))) b i).toBitVec := by
    intro b i
    by_cases c : KL b = true
    · rw [eg_L c, eg_L c]; exact hc b c i
    · show pu_pc ((if KL b = true then mb_L s b else fun _ => 0) i).toBitVec ≤ pu_pc ((if KL b = true then mb_L (mb_setL s a j (mb_L s a j ||| v)) b else fun _ => 0) i).toBitVec
      rw [if_neg c, if_neg c]; exact Nat.le_refl _
  have hlt : pu_pc (mb_L (eg_sg KF KI KL s) a j).toBitVec < pu_pc (mb_L (eg_sg KF KI KL (mb_setL s a j (mb_L s a j ||| v))) a j).toBitVec := by
    rw [eg_L hK, eg_L hK, pu_LL, if_pos rfl, pu_updL, if_pos rfl]
    exact eg_pcL h
  unfold eg_mu
  have h2 : pu_sum (fun a => pu_sum (fun j => pu_pc (mb_L (eg_sg KF KI KL s) a j).toBitVec) NL) 2 < pu_sum (fun b => pu_sum (fun i => pu_pc (mb_L (eg_sg KF KI KL (mb_setL s a j (mb_L s a j ||| v))) b i).toBitVec) NL) 2 :=
    pu_sum_lt (fun b _ => pu_sum_le (fun i _ => hle b i)) ha (pu_sum_lt (fun i _ => hle a i) hj hlt)
  have h1 : pu_sum (fun k => pu_pc (mb_F (eg_sg KF KI KL s) k).toBitVec) 11 = pu_sum (fun k => pu_pc (mb_F (eg_sg KF KI KL (mb_setL s a j (mb_L s a j ||| v))) k).toBitVec) 11 := rfl
  have h3 : pu_sum (fun a => pu_sum (fun j => pu_pc (mb_I (eg_sg KF KI KL s) a j).toBitVec) NI) 24 = pu_sum (fun b => pu_sum (fun i => pu_pc (mb_I (eg_sg KF KI KL (mb_setL s a j (mb_L s a j ||| v))) b i).toBitVec) NI) 24 := rfl
  omega
theorem eg_upF {a : Nat} (hK : KF a = true) (ha : a < 11) {v : Int32} (h : mb_F s a ||| v ≠ mb_F s a) : eg_mu NI NL (eg_sg KF KI KL s) < eg_mu NI NL (eg_sg KF KI KL (mb_setF s a (mb_F s a ||| v))) := by
  have hle : ∀ b, pu_pc (mb_F (eg_sg KF KI KL s) b).toBitVec ≤ pu_pc (mb_F (eg_sg KF KI KL (mb_setF s a (mb_F s a ||| v))) b).toBitVec := by
    intro b
    by_cases c : KF b = true
    · rw [eg_F c, eg_F c, pu_FF]
      by_cases c2 : b = a
      · rw [if_pos c2, c2]; exact Nat.le_of_lt (eg_pcI h)
      · rw [if_neg c2]; exact Nat.le_refl _
    · show pu_pc (if KF b = true then mb_F s b else 0).toBitVec ≤ pu_pc (if KF b = true then mb_F (mb_setF s a (mb_F s a ||| v)) b else 0).toBitVec
      rw [if_neg c, if_neg c]; exact Nat.le_refl _
  have hlt : pu_pc (mb_F (eg_sg KF KI KL s) a).toBitVec < pu_pc (mb_F (eg_sg KF KI KL (mb_setF s a (mb_F s a ||| v))) a).toBitVec := by
    rw [eg_F hK, eg_F hK, pu_FF, if_pos rfl]
    exact eg_pcI h
  unfold eg_mu
  have h2 : pu_sum (fun k => pu_pc (mb_F (eg_sg KF KI KL s) k).toBitVec) 11 < pu_sum (fun k => pu_pc (mb_F (eg_sg KF KI KL (mb_setF s a (mb_F s a ||| v))) k).toBitVec) 11 := pu_sum_lt (fun b _ => hle b) ha hlt
  have h1 : pu_sum (fun a => pu_sum (fun j => pu_pc (mb_I (eg_sg KF KI KL s) a j).toBitVec) NI) 24 = pu_sum (fun b => pu_sum (fun i => pu_pc (mb_I (eg_sg KF KI KL (mb_setF s a (mb_F s a ||| v))) b i).toBitVec) NI) 24 := rfl
  have h3 : pu_sum (fun a => pu_sum (fun j => pu_pc (mb_L (eg_sg KF KI KL s) a j).toBitVec) NL) 2 = pu_sum (fun b => pu_sum (fun i => pu_pc (mb_L (eg_sg KF KI KL (mb_setF s a (mb_F s a ||| v))) b i).toBitVec) NL) 2 := rfl
  omega
end EG
section EG2
variable {KF KI KL : Nat → Bool} {NI NL fl : Nat} {s : mb_S} {Bl : mb_S → Prop} {Fr : mb_S → mb_S → Prop}
theorem eg_growI {a j : Nat} (hfl : KF fl = false) (hK : KI a = true) (ha : a < 24) (hj : j < NI) {v w : Int32} (hw : w = 0 ∨ w = 1) (h0 : w = 0 → mb_F s fl = 0 ∧ mb_I s a j ||| v = mb_I s a j) (h1 : mb_F s fl = 0 → w = 1 → mb_I s a j ||| v ≠ mb_I s a j)
    (hB : Bl s → Bl (mb_setF (mb_setI s a j (mb_I s a j ||| v)) fl w)) (hF : Fr s (mb_setF (mb_setI s a j (mb_I s a j ||| v)) fl w)) :
    en_op (fun s => mb_F s fl) (eg_sg KF KI KL) (eg_mu NI NL) Bl Fr (fun g _ => mb_I g a j ||| v = mb_I g a j) s (mb_setF (mb_setI s a j (mb_I s a j ||| v)) fl w) := by
  have e : mb_F (mb_setF (mb_setI s a j (mb_I s a j ||| v)) fl w) fl = w := by rw [pu_FF, if_pos rfl]
  refine ⟨hF, hB, by show mb_F _ fl = 0 ∨ mb_F _ fl = 1; rw [e]; exact hw, ?_, fun z => ?_, fun z0 z1 => ?_⟩
  · rw [eg_flag hfl]
    by_cases c : mb_I s a j ||| v = mb_I s a j
    · rw [eg_idI c]; exact Nat.le_refl _
    · exact Nat.le_of_lt (eg_upI hK ha hj c)
  · have z : mb_F (mb_setF (mb_setI s a j (mb_I s a j ||| v)) fl w) fl = 0 := z
    rw [e] at z
    obtain ⟨z1, z2⟩ := h0 z
    refine ⟨z1, by rw [eg_flag hfl, eg_idI z2], ?_⟩
    show mb_I (eg_sg KF KI KL s) a j ||| v = mb_I (eg_sg KF KI KL s) a j
    rw [eg_I hK]; exact z2
  · have z1 : mb_F (mb_setF (mb_setI s a j (mb_I s a j ||| v)) fl w) fl = 1 := z1
    rw [e] at z1
    rw [eg_flag hfl]
    exact eg_upI hK ha hj (h1 z0 z1)
theorem eg_growL {a j : Nat} (hfl : KF fl = false) (hK : KL a = true) (ha : a < 2) (hj : j < NL) {v : Int64} {w : Int32} (hw : w = 0 ∨ w = 1) (h0 : w = 0 → mb_F s fl = 0 ∧ mb_L s a j ||| v = mb_L s a j) (h1 : mb_F s fl = 0 → w = 1 → mb_L s a j ||| v ≠ mb_L s a j)
    (hB : Bl s → Bl (mb_setF (mb_setL s a j (mb_L s a j ||| v)) fl w)) (hF : Fr s (mb_setF (mb_setL s a j (mb_L s a j ||| v)) fl w)) :
    en_op (fun s => mb_F s fl) (eg_sg KF KI KL) (eg_mu NI NL) Bl Fr (fun g _ => mb_L g a j ||| v = mb_L g a j) s (mb_setF (mb_setL s a j (mb_L s a j ||| v)) fl w) := by
  have e : mb_F (mb_setF (mb_setL s a j (mb_L s a j ||| v)) fl w) fl = w := by rw [pu_FF, if_pos rfl]
  refine ⟨hF, hB, by show mb_F _ fl = 0 ∨ mb_F _ fl = 1; rw [e]; exact hw, ?_, fun z => ?_, fun z0 z1 => ?_⟩
  · rw [eg_flag hfl]
    by_cases c : mb_L s a j ||| v = mb_L s a j
    · rw [eg_idL c]; exact Nat.le_refl _
    · exact Nat.le_of_lt (eg_upL hK ha hj c)
  · have z : mb_F (mb_setF (mb_setL s a j (mb_L s a j ||| v)) fl w) fl = 0 := z
    rw [e] at z
    obtain ⟨z1, z2⟩ := h0 z
    refine ⟨z1, by rw [eg_flag hfl, eg_idL z2], ?_⟩
    show mb_L (eg_sg KF KI KL s) a j ||| v = mb_L (eg_sg KF KI KL s) a j
    rw [eg_L hK]; exact z2
  · have z1 : mb_F (mb_setF (mb_setL s a j (mb_L s a j ||| v)) fl w) fl = 1 := z1
    rw [e] at z1
    rw [eg_flag hfl]
    exact eg_upL hK ha hj (h1 z0 z1)
end EG2
