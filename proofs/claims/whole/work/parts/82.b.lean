def lc_A (s : State) : Nat → Prop := fun q => s.heap.size ≤ q
def lc_G (p : Program) (s : State) (m : MethodId) (c : Code) (b L : Nat) (xs : Nat → Int32) (D : va_G) (X Y : Nat → Nat) (cI cZ cJ : ClassId) : Prop := CallFix p m c code 4 s #[Value.ref b] lw_w R_law ∧ va_K D vwCl [(cI, .int), (cZ, .boolean), (cJ, .long)] s ∧ (∀ st, va_D (lc_A s) (WX X cI cZ cJ st)) ∧ (∀ st, va_D (lc_A s) (WM Y cI cZ cJ st)) ∧ (∀ (st st' : mb_S) (i j : Nat) (x y : Nat × va_E), (WX X cI cZ cJ st)[i]? = some x → (WM Y cI cZ cJ st')[j]? = some y → x.1 ≠ y.1) ∧ mb_ZX (lc_A s) s ∧ va_X b L xs s s.heap ∧ b < s.heap.size ∧ L ≤ 3072
theorem lw_ZX {s : State} {b : Nat} (hts : ∀ w ∈ lw_tbl, w.before #[Value.ref b] s = true) (hgv : (Jvm.Cond.and given_1 narrow_1).before #[Value.ref b] s = true) : mb_ZX (lc_A s) s := by
  have hs := flat_of_before _ hgv
  have hA : ∀ a : Nat, a < s.heap.size → ¬ lc_A s a := fun a h => Nat.not_le.mpr h
  have harr : (Cond.arrayOf (.static "LabelledFlows$Program" "MOST_OF_KIND" "[I") .int).before #[Value.ref b] s = true := hs _ (by decide +kernel)
  have hlen : (Cond.eq (.length (.static "LabelledFlows$Program" "MOST_OF_KIND" "[I")) (.int 11)).before #[Value.ref b] s = true := hs _ (by decide +kernel)
  have e0 : (Cond.eq (.elem (.static "LabelledFlows$Program" "MOST_OF_KIND" "[I") (.int 0)) (.int 6)).before #[Value.ref b] s = true := hs _ (by decide +kernel)
  have e1 : (Cond.eq (.elem (.static "LabelledFlows$Program" "MOST_OF_KIND" "[I") (.int 1)) (.int 4)).before #[Value.ref b] s = true := hs _ (by decide +kernel)
  have e2 : (Cond.eq (.elem (.static "LabelledFlows$Program" "MOST_OF_KIND" "[I") (.int 2)) (.int 4)).before #[Value.ref b] s = true := hs _ (by decide +kernel)
  have e3 : (Cond.eq (.elem (.static "LabelledFlows$Program" "MOST_OF_KIND" "[I") (.int 3)) (.int 32)).before #[Value.ref b] s = true := hs _ (by decide +kernel)
  have e4 : (Cond.eq (.elem (.static "LabelledFlows$Program" "MOST_OF_KIND" "[I") (.int 4)) (.int 32)).before #[Value.ref b] s = true := hs _ (by decide +kernel)
  have e5 : (Cond.eq (.elem (.static "LabelledFlows$Program" "MOST_OF_KIND" "[I") (.int 5)) (.int 32)).before #[Value.ref b] s = true := hs _ (by decide +kernel)
  have e6 : (Cond.eq (.elem (.static "LabelledFlows$Program" "MOST_OF_KIND" "[I") (.int 6)) (.int 32)).before #[Value.ref b] s = true := hs _ (by decide +kernel)
  have e7 : (Cond.eq (.elem (.static "LabelledFlows$Program" "MOST_OF_KIND" "[I") (.int 7)) (.int 32)).before #[Value.ref b] s = true := hs _ (by decide +kernel)
  have e8 : (Cond.eq (.elem (.static "LabelledFlows$Program" "MOST_OF_KIND" "[I") (.int 8)) (.int 32)).before #[Value.ref b] s = true := hs _ (by decide +kernel)
  have e9 : (Cond.eq (.elem (.static "LabelledFlows$Program" "MOST_OF_KIND" "[I") (.int 9)) (.int 32)).before #[Value.ref b] s = true := hs _ (by decide +kernel)
  have e10 : (Cond.eq (.elem (.static "LabelledFlows$Program" "MOST_OF_KIND" "[I") (.int 10)) (.int 32)).before #[Value.ref b] s = true := hs _ (by decide +kernel)
  obtain ⟨t, ht, hT⟩ := va_Tof (f := fun j => .int (mb_most j)) (A := lc_A s) (N := 11) (by decide) harr (va_eqt hlen) (fun j hj => by
    rcases (show j = 0 ∨ j = 1 ∨ j = 2 ∨ j = 3 ∨ j = 4 ∨ j = 5 ∨ j = 6 ∨ j = 7 ∨ j = 8 ∨ j = 9 ∨ j = 10 by omega) with rfl | rfl | rfl | rfl | rfl | rfl | rfl | rfl | rfl | rfl | rfl
    · exact va_eqt e0
    · exact va_eqt e1
    · exact va_eqt e2
    · exact va_eqt e3
    · exact va_eqt e4
    · exact va_eqt e5
    · exact va_eqt e6
    · exact va_eqt e7
    · exact va_eqt e8
    · exact va_eqt e9
    · exact va_eqt e10) hA
  exact ⟨t, va_Zref (hts (.laysStatic "LabelledFlows$Program" "MOST_OF_KIND" "[I") (by decide +kernel)) (hts (.initialized "LabelledFlows$Program") (by decide +kernel)) ht hA, hT⟩
