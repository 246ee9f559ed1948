section LWR
variable {p : Program} {l : Launch} {e : Env} {R : Room} {s : State} {m : MethodId} {args : Array Value} {below : List Frame} {meth : Method} {c : Code} {H : Heap} {locs : List Loc} {Q : State → Prop}
variable {cc : ByteArray} {nL : Nat} {Ts : List Cond} {own : String} {Z : (Nat → Prop) → State → Prop} {cl : List vw_C} {D : va_G} {tys : List (ClassId × FieldType)} {A : Nat → Prop} {WS : mb_S → va_W} {wo : va_W} {pc : Nat} {ls : Array Slot} {stk rest : List Value} {st : mb_S} {cells slots : Nat}
theorem lw_fr (hD : ∀ st, va_D A (WS st)) (hA : ∀ q, s.heap.size ≤ q → A q) (hS : va_S A s.heap H locs) : ∀ q, va_A (WS st) H.size q → A q := by
  intro q h
  rcases h with ⟨k, e, hk⟩ | h
  · exact (hD st).2 k _ hk
  · exact hA q (Nat.le_trans hS.1 h)
theorem lw_other {H1 : Heap} (hPo : va_P D cl wo H) (hDo : ∀ (i j : Nat) (x y : Nat × va_E), (WS st)[i]? = some x → wo[j]? = some y → x.1 ≠ y.1) (hk : ∀ q : Nat, q < H.size → ¬ va_A (WS st) H.size q → H1[q]? = H[q]?) : va_P D cl wo H1 := by
  refine hPo.kept (fun k q hq => hk q.1 (hPo k q hq).lt (fun h => ?_))
  rcases h with ⟨j, e, hj⟩ | h
  · exact hDo j k _ q hj hq rfl
  · exact absurd (hPo k q hq).lt (Nat.not_lt.mpr h)
theorem lw_pre {av : List Value} (hZok : mb_Zok Z) (hK : va_K D cl tys s) (hP : va_P D cl (WS st) H) (hD : ∀ st, va_D A (WS st)) (hA : ∀ q, s.heap.size ≤ q → A q) (hZ : Z A s) (hS : va_S A s.heap H locs) : ∀ U : State, U.heap = H → s.WarmedH U.vm → mb_pre Z cl D tys WS av st H.size av.toArray U := fun U hU hW => by
  refine ⟨rfl, by rw [hU], by rw [hU]; exact hP, va_K.moved hW.alike hK, (hD st).weaken (fun _ _ _ _ => trivial), hZok A _ s U hZ hW.alike (lw_fr hD hA hS) (fun q h1 h2 => by rw [hU]; exact hS.2.1 q h1 h2)⟩
theorem lw_callI (hZok : mb_Zok Z) {y : MethodName} {wsy : List Cond} {rm : Room} {bytes : ByteArray} {maxL n index : Nat} {ret : Option FieldType} {C : String} {b : Nat} {As : List Value} {v : Int32} {st' : mb_S} (S : CallFix p m c cc nL s args Ts own) (hM : mb_MI l y wsy rm Z cl D tys WS (.ref b :: As) st v st') (cw : CallW R s args own C index y bytes maxL ret wsy rm 0 0 n)
    (hK : va_K D cl tys s) (hP : va_P D cl (WS st) H) (hPo : va_P D cl wo H) (hD : ∀ st, va_D A (WS st)) (hDo : ∀ (i j : Nat) (x y : Nat × va_E), (WS st)[i]? = some x → wo[j]? = some y → x.1 ≠ y.1) (hA : ∀ q, s.heap.size ≤ q → A q) (hZ : Z A s) (hS : va_S A s.heap H locs) (q0 : Nat) {ci : Nat} {fs : List Value} {T : u_T} {N : Nat} (he : (WS st)[q0]? = some (b, .inr (ci, fs))) (hc : cl[ci]? = some (C, T, N))
    (hn : As.length = n) (hl : ls.size = nL) (hst : stk = As.reverse ++ .ref b :: rest) (hW : (rest.map fun v => v.category).sum ≤ 8) (hdg : decode cc pc = .ok (.invokevirtual index, 3)) (hcs : cells + 0 ≤ R.cells ∧ slots + 0 ≤ R.slots)
    (kk : ∀ (H1 : Heap) (locs1 : List Loc), va_P D cl (WS st') H1 → va_P D cl wo H1 → va_S A s.heap H1 locs1 → W p l e R s m args below meth c H1 locs1 cells slots Q (F0 m (pc + 3) ls (.int v :: rest))) : W p l e R s m args below meth c H locs cells slots Q (F0 m pc ls stk) := by
  refine va_calli (va_runV S (hM H.size) cw ⟨mb_blind hZok, va_recv hK hP hc he, lw_pre hZok hK hP hD hA hZ hS⟩ rfl hn hl hst (lv_room hW) hdg hcs) hS (fun q _ h => lw_fr hD hA hS q h) (lw_fr hD hA hS) (fun r' u t H1 locs1 ht hvm hp hB hz hk hS1 => ?_)
  obtain ⟨e1, e2⟩ := hp
  obtain ⟨hP1, -, -⟩ := hB
  rw [ht, e2] at hP1
  rw [e1]
  exact kk H1 locs1 hP1 (lw_other hPo hDo hk) hS1
end LWR
theorem lw_in {i k L : Nat} (h : i + k < L) (hL : L < 2 ^ 31) : vp_in (nI i + nI k) L := by
  rw [nI_add]; exact nI_in h hL
theorem lw_small : ∀ L, L < 6 → (nI L - 6).toInt = (L : Int) - 6 := by decide
theorem lw_cond {i L : Nat} (hi : i < 2 ^ 30) (hL : L < 2 ^ 30) (h : ¬ (Int32.ofNat L - 6 < nI i)) : i + 6 ≤ L := by
  have e : (Int32.ofNat L - 6).toInt = (L : Int) - 6 := by
    show (nI L - 6).toInt = _
    by_cases c : L < 6
    · exact lw_small L c
    · have e2 : nI L - 6 = nI (L - 6) := pk_sub (show 6 ≤ L by omega)
      rw [e2, nI_toInt (by omega)]; omega
  rw [Int32.lt_iff_toInt_lt, e, nI_toInt (by omega)] at h
  omega
def ct_D (c0 c1 c2 c3 c4 c5 : ClassId) (i0 i1 i2 i3 i4 i5 : Nat → Nat) : va_G := (fun k => match k with
  | 0 => c0
  | 1 => c1
  | 2 => c2
  | 3 => c3
  | 4 => c4
  | _ => c5, fun k => match k with
  | 0 => i0
  | 1 => i1
  | 2 => i2
  | 3 => i3
  | 4 => i4
  | _ => i5)
theorem ct_K {s : State} {c0 c1 c2 c3 c4 c5 : ClassId} {i0 i1 i2 i3 i4 i5 : Nat → Nat} {cI cZ cJ : ClassId} (h0 : u_Kn s cnX fTX 5 c0 i0) (h1 : u_Kn s cnP fTP 12 c1 i1) (h2 : u_Kn s cnQ fTQ 6 c2 i2) (h3 : u_Kn s cnF fTF 7 c3 i3) (h4 : u_Kn s cnA fTA 13 c4 i4) (h5 : u_Kn s cnM fTM 30 c5 i5) (hI : ArrOfT s cI .int ∧ va_RA s cI .int) (hZ : ArrOfT s cZ .boolean ∧ va_RA s cZ .boolean) (hJ : ArrOfT s cJ .long ∧ va_RA s cJ .long) : va_K (ct_D c0 c1 c2 c3 c4 c5 i0 i1 i2 i3 i4 i5) vwCl [(cI, .int), (cZ, .boolean), (cJ, .long)] s := by
  refine ⟨fun c q hq => ?_, fun k q hk => ?_⟩
  · match c, hq with
    | 0, hq => cases hq; exact h0
    | 1, hq => cases hq; exact h1
    | 2, hq => cases hq; exact h2
    | 3, hq => cases hq; exact h3
    | 4, hq => cases hq; exact h4
    | 5, hq => cases hq; exact h5
    | n + 6, hq => cases hq
  · match k, hk with
    | 0, hk => cases hk; exact hI
    | 1, hk => cases hk; exact hZ
    | 2, hk => cases hk; exact hJ
    | n + 3, hk => cases hk
theorem lw_fst {w1 w2 : va_W} (e : w2.map Prod.fst = w1.map Prod.fst) {k : Nat} {q : Nat × va_E} (hq : w2[k]? = some q) : ∃ q' : Nat × va_E, w1[k]? = some q' ∧ q'.1 = q.1 := by
  have h1 : (w2.map Prod.fst)[k]? = some q.1 := by rw [List.getElem?_map, hq]; rfl
  rw [e, List.getElem?_map] at h1
  cases h2 : w1[k]? with
  | none => rw [h2] at h1; cases h1
  | some q' =>
    rw [h2] at h1
    exact ⟨q', rfl, Option.some.inj h1⟩
theorem lw_left {D : va_G} {cl : List vw_C} {a b : va_W} {H : Heap} (h : va_P D cl (a ++ b) H) : va_P D cl a H := fun k q hk => h k q (by
  have hl : k < a.length := (List.getElem?_eq_some_iff.mp hk).1
  rw [List.getElem?_append_left hl]; exact hk)
theorem lw_right {D : va_G} {cl : List vw_C} {a b : va_W} {H : Heap} (h : va_P D cl (a ++ b) H) : va_P D cl b H := fun k q hk => h (a.length + k) q (by
  rw [List.getElem?_append_right (Nat.le_add_right _ _), Nat.add_sub_cancel_left]; exact hk)
theorem lw_Dleft {A : Nat → Prop} {a b : va_W} (h : va_D A (a ++ b)) : va_D A a := by
  have up : ∀ (k : Nat) (q : Nat × va_E), a[k]? = some q → (a ++ b)[k]? = some q := fun k q hk => by
    rw [List.getElem?_append_left (List.getElem?_eq_some_iff.mp hk).1]; exact hk
  exact ⟨fun i j x y hx hy e => h.1 i j x y (up i x hx) (up j y hy) e, fun k q hk => h.2 k q (up k q hk)⟩
theorem lw_Dright {A : Nat → Prop} {a b : va_W} (h : va_D A (a ++ b)) : va_D A b := by
  have up : ∀ (k : Nat) (q : Nat × va_E), b[k]? = some q → (a ++ b)[a.length + k]? = some q := fun k q hk => by
    rw [List.getElem?_append_right (Nat.le_add_right _ _), Nat.add_sub_cancel_left]; exact hk
  exact ⟨fun i j x y hx hy e => by have := h.1 _ _ x y (up i x hx) (up j y hy) e; omega, fun k q hk => h.2 _ q (up k q hk)⟩
theorem lw_apart {A : Nat → Prop} {a b : va_W} (h : va_D A (a ++ b)) {i j : Nat} {x y : Nat × va_E} (hx : a[i]? = some x) (hy : b[j]? = some y) : x.1 ≠ y.1 := fun e => by
  have hl := (List.getElem?_eq_some_iff.mp hx).1
  have := h.1 i (a.length + j) x y (by rw [List.getElem?_append_left hl]; exact hx) (by rw [List.getElem?_append_right (Nat.le_add_right _ _), Nat.add_sub_cancel_left]; exact hy) e
  omega
theorem lw_dis {A : Nat → Prop} {X Y : Nat → Nat} {cI cZ cJ : ClassId} {a b : mb_S} (h : va_D A (WX X cI cZ cJ a ++ WM Y cI cZ cJ b)) (st st' : mb_S) (i j : Nat) (x y : Nat × va_E) (hx : (WX X cI cZ cJ st)[i]? = some x) (hy : (WM Y cI cZ cJ st')[j]? = some y) : x.1 ≠ y.1 := by
  obtain ⟨x', h1, e1⟩ := lw_fst (w1 := WX X cI cZ cJ a) (w2 := WX X cI cZ cJ st) rfl hx
  obtain ⟨y', h2, e2⟩ := lw_fst (w1 := WM Y cI cZ cJ b) (w2 := WM Y cI cZ cJ st') rfl hy
  rw [← e1, ← e2]
  exact lw_apart h h1 h2
