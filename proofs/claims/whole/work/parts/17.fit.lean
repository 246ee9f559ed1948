def lf_fit (kd : Nat) (a b c : Int32) : Prop := (kd = 8 ∨ kd = 9 → lf_is a 12) ∧ (¬ (kd = 8 ∨ kd = 9) → lf_is a 4) ∧ (kd = 0 ∨ (4 ≤ kd ∧ kd ≤ 7) → lf_is b 4) ∧ (kd = 5 ∨ kd = 6 → lf_is c 2) ∧ (kd = 7 → lf_is c 12)
set_option maxHeartbeats 4000000 in
theorem mM_operands_c {kd : Nat} (hk : kd ≤ 10) (a b c : Int32) : (lf_fit kd a b c ∧ mM_operands (nI kd) a b c = some 1) ∨ (¬ lf_fit kd a b c ∧ mM_operands (nI kd) a b c = some 0) := by
  have h11 : (lf_is a 12 ∧ mM_within a 0 11 = some 1) ∨ (¬ lf_is a 12 ∧ mM_within a 0 11 = some 0) := mM_within_c a (N := 11) (by decide)
  have h3 : (lf_is a 4 ∧ mM_within a 0 3 = some 1) ∨ (¬ lf_is a 4 ∧ mM_within a 0 3 = some 0) := mM_within_c a (N := 3) (by decide)
  have hb : (lf_is b 4 ∧ mM_within b 0 3 = some 1) ∨ (¬ lf_is b 4 ∧ mM_within b 0 3 = some 0) := mM_within_c b (N := 3) (by decide)
  have hc1 : (lf_is c 2 ∧ mM_within c 0 1 = some 1) ∨ (¬ lf_is c 2 ∧ mM_within c 0 1 = some 0) := mM_within_c c (N := 1) (by decide)
  have hc11 : (lf_is c 12 ∧ mM_within c 0 11 = some 1) ∨ (¬ lf_is c 12 ∧ mM_within c 0 11 = some 0) := mM_within_c c (N := 11) (by decide)
  unfold lf_fit mM_operands mM_operands_b12 mM_operands_b28 mM_operands_b45 mM_operands_b63 mM_operands_b64 mM_operands_b66 mM_operands_b96 mM_operands_b106 mM_operands_b107 mM_operands_b109
  have hcs : (kd = 1 ∨ kd = 2 ∨ kd = 3 ∨ kd = 10) ∨ (kd = 8 ∨ kd = 9) ∨ (kd = 0 ∨ kd = 4) ∨ (kd = 5 ∨ kd = 6) ∨ kd = 7 := by omega
  rcases hcs with (h | h | h | h) | (h | h) | (h | h) | (h | h) | h <;> subst h
  all_goals first
    | (rcases h3 with ⟨p1, e1⟩ | ⟨p1, e1⟩ <;> simp (decide := true) [e1, p1, me_cal0, me_r00, me_r01] <;> done)
    | (rcases h11 with ⟨p1, e1⟩ | ⟨p1, e1⟩ <;> simp (decide := true) [e1, p1, me_cal0, me_r00, me_r01] <;> done)
    | (rcases h3 with ⟨p1, e1⟩ | ⟨p1, e1⟩ <;> rcases hb with ⟨p2, e2⟩ | ⟨p2, e2⟩ <;> simp (decide := true) [e1, p1, e2, p2, me_cal0, me_r00, me_r01] <;> done)
    | (rcases h3 with ⟨p1, e1⟩ | ⟨p1, e1⟩ <;> rcases hb with ⟨p2, e2⟩ | ⟨p2, e2⟩ <;> rcases hc1 with ⟨p3, e3⟩ | ⟨p3, e3⟩ <;> simp (decide := true) [e1, p1, e2, p2, e3, p3, me_cal0, me_r00, me_r01] <;> done)
    | (rcases h3 with ⟨p1, e1⟩ | ⟨p1, e1⟩ <;> rcases hb with ⟨p2, e2⟩ | ⟨p2, e2⟩ <;> rcases hc11 with ⟨p3, e3⟩ | ⟨p3, e3⟩ <;> simp (decide := true) [e1, p1, e2, p2, e3, p3, me_cal0, me_r00, me_r01] <;> done)
set_option maxHeartbeats 4000000 in
theorem mX_operandsFit_c {kd : Nat} (hk : kd ≤ 10) (a b c : Int32) : (lf_fit kd a b c ∧ mX_operandsFit (nI kd) a b c = some 1) ∨ (¬ lf_fit kd a b c ∧ mX_operandsFit (nI kd) a b c = some 0) := by
  have h11 : (lf_is a 12 ∧ mX_isBelow a 12 = some 1) ∨ (¬ lf_is a 12 ∧ mX_isBelow a 12 = some 0) := mX_isBelow_c a (N := 12) (by decide)
  have h3 : (lf_is a 4 ∧ mX_isBelow a 4 = some 1) ∨ (¬ lf_is a 4 ∧ mX_isBelow a 4 = some 0) := mX_isBelow_c a (N := 4) (by decide)
  have hb : (lf_is b 4 ∧ mX_isBelow b 4 = some 1) ∨ (¬ lf_is b 4 ∧ mX_isBelow b 4 = some 0) := mX_isBelow_c b (N := 4) (by decide)
  have hc1 : (lf_is c 2 ∧ mX_isBelow c 2 = some 1) ∨ (¬ lf_is c 2 ∧ mX_isBelow c 2 = some 0) := mX_isBelow_c c (N := 2) (by decide)
  have hc11 : (lf_is c 12 ∧ mX_isBelow c 12 = some 1) ∨ (¬ lf_is c 12 ∧ mX_isBelow c 12 = some 0) := mX_isBelow_c c (N := 12) (by decide)
  unfold lf_fit mX_operandsFit mX_operandsFit_b76 mX_operandsFit_b98 mX_operandsFit_b100 mX_operandsFit_b128 mX_operandsFit_b159 mX_operandsFit_b161 mX_operandsFit_b168 mX_operandsFit_b77 mX_operandsFit_b99 mX_operandsFit_b129 mX_operandsFit_b160
  have hcs : (kd = 1 ∨ kd = 2 ∨ kd = 3 ∨ kd = 10) ∨ (kd = 8 ∨ kd = 9) ∨ (kd = 0 ∨ kd = 4) ∨ (kd = 5 ∨ kd = 6) ∨ kd = 7 := by omega
  rcases hcs with (h | h | h | h) | (h | h) | (h | h) | (h | h) | h <;> subst h
  all_goals first
    | (rcases h3 with ⟨p1, e1⟩ | ⟨p1, e1⟩ <;> simp (decide := true) [e1, p1, me_cal0, me_r00, me_r01] <;> done)
    | (rcases h11 with ⟨p1, e1⟩ | ⟨p1, e1⟩ <;> simp (decide := true) [e1, p1, me_cal0, me_r00, me_r01] <;> done)
    | (rcases h3 with ⟨p1, e1⟩ | ⟨p1, e1⟩ <;> rcases hb with ⟨p2, e2⟩ | ⟨p2, e2⟩ <;> simp (decide := true) [e1, p1, e2, p2, me_cal0, me_r00, me_r01] <;> done)
    | (rcases h3 with ⟨p1, e1⟩ | ⟨p1, e1⟩ <;> rcases hb with ⟨p2, e2⟩ | ⟨p2, e2⟩ <;> rcases hc1 with ⟨p3, e3⟩ | ⟨p3, e3⟩ <;> simp (decide := true) [e1, p1, e2, p2, e3, p3, me_cal0, me_r00, me_r01] <;> done)
    | (rcases h3 with ⟨p1, e1⟩ | ⟨p1, e1⟩ <;> rcases hb with ⟨p2, e2⟩ | ⟨p2, e2⟩ <;> rcases hc11 with ⟨p3, e3⟩ | ⟨p3, e3⟩ <;> simp (decide := true) [e1, p1, e2, p2, e3, p3, me_cal0, me_r00, me_r01] <;> done)
