def en_op {G : Type} (ph : mb_S → Int32) (sg : mb_S → G) (mu : G → Nat) (Bl : mb_S → Prop) (Fr : mb_S → mb_S → Prop) (C : G → mb_S → Prop) (s t : mb_S) : Prop :=
  Fr s t ∧ (Bl s → Bl t) ∧ (ph t = 0 ∨ ph t = 1) ∧ mu (sg s) ≤ mu (sg t) ∧ (ph t = 0 → ph s = 0 ∧ sg t = sg s ∧ C (sg s) t) ∧ (ph s = 0 → ph t = 1 → mu (sg s) < mu (sg t))
section EN
variable {G : Type} {ph : mb_S → Int32} {sg : mb_S → G} {mu : G → Nat} {Bl : mb_S → Prop} {Fr : mb_S → mb_S → Prop} {C C1 C2 : G → mb_S → Prop} {s t u : mb_S}
theorem en_rf (hr : Fr s s) (h : ph s = 0 ∨ ph s = 1) (hC : C (sg s) s) : en_op ph sg mu Bl Fr C s s :=
  ⟨hr, fun q => q, h, Nat.le_refl _, fun q => ⟨q, rfl, hC⟩, fun h0 h1 => by rw [h0] at h1; exact absurd h1 (by decide)⟩
theorem en_wk (h : en_op ph sg mu Bl Fr C1 s t) (hw : C1 (sg s) t → C2 (sg s) t) : en_op ph sg mu Bl Fr C2 s t :=
  ⟨h.1, h.2.1, h.2.2.1, h.2.2.2.1, fun q => ⟨(h.2.2.2.2.1 q).1, (h.2.2.2.2.1 q).2.1, hw (h.2.2.2.2.1 q).2.2⟩, h.2.2.2.2.2⟩
theorem en_seq (ht : ∀ a b c, Fr a b → Fr b c → Fr a c) (hk : ∀ x a b, Fr a b → C1 x a → C1 x b) (h1 : en_op ph sg mu Bl Fr C1 s t) (h2 : en_op ph sg mu Bl Fr C2 t u) : en_op ph sg mu Bl Fr (fun x a => C1 x a ∧ C2 x a) s u := by
  obtain ⟨a1, b1, c1, d1, e1, f1⟩ := h1
  obtain ⟨a2, b2, c2, d2, e2, f2⟩ := h2
  refine ⟨ht _ _ _ a1 a2, fun q => b2 (b1 q), c2, Nat.le_trans d1 d2, fun q => ?_, fun h0 h1 => ?_⟩
  · obtain ⟨p1, p2, p3⟩ := e2 q
    obtain ⟨q1, q2, q3⟩ := e1 p1
    refine ⟨q1, p2.trans q2, hk _ _ _ a2 q3, ?_⟩
    rw [← q2]; exact p3
  · rcases c1 with c | c
    · exact Nat.lt_of_le_of_lt d1 (f2 c h1)
    · exact Nat.lt_of_lt_of_le (f1 h0 c) d2
end EN
