def WK (n a : Nat) (cI : ClassId) (s : mb_S) : va_W := [(a, .inl (cI, n, .inl (mb_I s 0)))]
theorem mb_DKok (n a : Nat) (cI : ClassId) : ∀ (A : Nat → Prop) (x y : mb_S), va_D A (WK n a cI x) → va_D A (WK n a cI y) := fun _ x y h => mb_Dmap (w1 := WK n a cI x) (w2 := WK n a cI y) rfl h
theorem mb_fil0 (s : mb_S) (a : Nat) (v : Int32) : mb_filS s a 0 v = s := by
  obtain ⟨s1, s2, s3⟩ := s
  unfold mb_filS
  have e : va_up s2 a (fun j => if j < 0 then v else s2 a j) = s2 := by
    funext k
    unfold va_up
    by_cases h : k = a
    · subst h
      rw [if_pos rfl]
      funext j
      rw [if_neg (Nat.not_lt_zero j)]
    · rw [if_neg h]
  show (s1, va_up s2 a (fun j => if j < 0 then v else s2 a j), s3) = (s1, s2, s3)
  rw [e]
theorem mb_fil1 (s : mb_S) (a j : Nat) (v : Int32) : mb_setI (mb_filS s a j v) a j v = mb_filS s a (j + 1) v := by
  obtain ⟨s1, s2, s3⟩ := s
  unfold mb_filS mb_setI
  have e : va_up (va_up s2 a (fun i => if i < j then v else s2 a i)) a (upd (va_up s2 a (fun i => if i < j then v else s2 a i) a) j v) = va_up s2 a (fun i => if i < j + 1 then v else s2 a i) := by
    funext k
    unfold va_up
    by_cases h : k = a
    · subst h
      simp only [if_true]
      funext i
      unfold upd
      by_cases h1 : i = j
      · subst h1
        rw [if_pos rfl, if_pos (Nat.lt_succ_self i)]
      · rw [if_neg h1]
        show (if i < j then v else s2 k i) = _
        by_cases h2 : i < j
        · rw [if_pos h2, if_pos (Nat.lt_succ_of_lt h2)]
        · rw [if_neg h2, if_neg (by omega)]
    · rw [if_neg h, if_neg h, if_neg h]
  show (s1, va_up (va_up s2 a (fun i => if i < j then v else s2 a i)) a (upd (va_up s2 a (fun i => if i < j then v else s2 a i) a) j v), s3) = (s1, va_up s2 a (fun i => if i < j + 1 then v else s2 a i), s3)
  rw [e]
set_option maxRecDepth 100000 in
set_option maxHeartbeats 4000000 in
theorem z_J_fill_l5 {p : Program} {l : Launch} {e : Env} {R : Room} {s0 : State} {m : MethodId} {args : Array Value} {below : List Frame} {meth : Method} {c : Code} {Q : State → Prop} {A : Nat → Prop} {D : va_G} {n a : Nat} {cI : ClassId} {v : Int32} {st : mb_S} (hn : n < 2 ^ 31)
    (Cx : mb_C p s0 m args meth c c_J_fill 4 lw_w "java/util/Arrays" (fun _ _ => True) vwCl D [(cI, .int)] A (WK n a cI))
    (hret : mb_R p l e R s0 m args below meth c Q vwCl D A (WK n a cI) c_J_fill .return_ [] (mb_filS st 0 n v)) :
    ∀ (k j : Nat), j + k = n → mb_B p l e R s0 m args below meth c Q vwCl D A (WK n a cI) 4 [(3, .int (nI n)), (2, .int (nI j)), (0, .ref a), (1, .int v)] [] 5 (mb_filS st 0 j v) := by
  intro k
  induction k with
  | zero =>
    intro j hj
    have e : j = n := hj
    subst e
    intro ls H locs hl hP hS
    have Cx0 := Cx
    obtain ⟨⟨hx, hb, hml, hown, hts⟩, hK, hD, hA, hZ⟩ := Cx0
    refine lv_iload_n hx hb d_J_fill_5 rfl (lv_at hl 1 rfl) ?_
    refine lv_iload_n hx hb d_J_fill_6 rfl (lv_at hl 0 rfl) ?_
    refine lv_icmp_ge hx hb d_J_fill_7 rfl (fun hc => ?_) (fun hc => ?_)
    · exact hret ls H locs 20 d_J_fill_20 hP hS
    · exact absurd (nI_le (Nat.le_refl j) hn) hc
  | succ k ih =>
    intro j hj ls H locs hl hP hS
    have hjn : j < n := by omega
    have Cx0 := Cx
    obtain ⟨⟨hx, hb, hml, hown, hts⟩, hK, hD, hA, hZ⟩ := Cx0
    refine lv_iload_n hx hb d_J_fill_5 rfl (lv_at hl 1 rfl) ?_
    refine lv_iload_n hx hb d_J_fill_6 rfl (lv_at hl 0 rfl) ?_
    refine lv_icmp_ge hx hb d_J_fill_7 rfl (fun hc => ?_) (fun hc => ?_)
    · exact absurd hc (nI_ge hjn hn)
    · refine lv_aload_n hx hb d_J_fill_10 rfl (lv_at hl 2 rfl) ?_
      refine lv_iload_n hx hb d_J_fill_11 rfl (lv_at hl 1 rfl) ?_
      refine lv_iload_n hx hb d_J_fill_12 rfl (lv_at hl 3 rfl) ?_
      refine va_iast hx hb hK hP (hD _) hS 0 0 rfl rfl (vp_in_nI hjn hn) d_J_fill_13 (fun H locs hP _ hS => ?_)
      rw [nI_clamp (Nat.lt_trans hjn hn)] at hP
      have hP : va_P D vwCl (WK n a cI (mb_setI (mb_filS st 0 j v) 0 j v)) H := hP
      rw [mb_fil1] at hP
      refine lv_iinc (k := 1) (v := nI (j + 1)) (lv' := [(2, .int (nI (j + 1))), (3, .int (nI n)), (0, .ref a), (1, .int v)]) hx hb d_J_fill_14 hl rfl (nI_succ j).symm (by decide) rfl (fun ls hl => ?_)
      refine lv_goto hx hb d_J_fill_17 rfl ?_
      exact ih (j + 1) (by omega) ls H locs (lv_sub hl [1, 0, 2, 3] rfl) hP hS
set_option maxRecDepth 100000 in
set_option maxHeartbeats 4000000 in
theorem w_J_fill (l : Launch) (D : va_G) {n a : Nat} {cI : ClassId} {v : Int32} (st : mb_S) (hn : n < 2 ^ 31) : mb_MV l y_J_fill ws_J_fill rm_J_fill (fun _ _ => True) vwCl D [(cI, .int)] (WK n a cI) [.ref a, .int v] st (mb_filS st 0 n v) := by
  refine mb_ofV (cc := c_J_fill) (maxL := 4) mb_Z0ok (by decide) rfl (by show 2 ≤ 4; decide) (mb_DKok n a cI) ?_
  intro p e s0 m args below meth c Q A Cx hret
  intro ls H locs hl hP hS
  have Cx0 := Cx
  obtain ⟨⟨hx, hb, hml, hown, hts⟩, hK, hD, hA, hZ⟩ := Cx0
  have hl : lv_has ls 4 [(0, .ref a), (1, .int v)] := hl
  refine lv_iconst (v := (0 : Int32)) hx hb d_J_fill_0 (by decide) ?_
  refine lv_istore_n (lv' := [(2, .int (0 : Int32)), (0, .ref a), (1, .int v)]) hx hb d_J_fill_1 rfl hl (by decide) rfl (fun ls hl => ?_)
  refine lv_aload_n hx hb d_J_fill_2 rfl (lv_at hl 1 rfl) ?_
  refine va_alen (v := nI n) hx hb hK hP 0 0 rfl rfl rfl d_J_fill_3 ?_
  refine lv_istore_n (lv' := [(3, .int (nI n)), (2, .int (0 : Int32)), (0, .ref a), (1, .int v)]) hx hb d_J_fill_4 rfl hl (by decide) rfl (fun ls hl => ?_)
  exact z_J_fill_l5 hn Cx hret n 0 (Nat.zero_add n) ls H locs hl (by rw [mb_fil0]; exact hP) hS
theorem mb_cfill {p : Program} {l : Launch} {e : Env} {R : Room} {s : State} {m : MethodId} {args : Array Value} {below : List Frame} {meth : Method} {c : Code} {H : Heap} {locs : List Loc} {Q : State → Prop} {cc : ByteArray} {nL : Nat} {Ts : List Cond} {own : String} {D : va_G} {tys : List (ClassId × FieldType)} {A : Nat → Prop} {ws : va_W} {pc : Nat} {ls : Array Slot} {stk rest : List Value} {a cells slots : Nat}
    (S : CallFix p m c cc nL s args Ts own) (hK : va_K D vwCl tys s) (hP : va_P D vwCl ws H) (hD : va_D A ws) (hA : ∀ q, s.heap.size ≤ q → A q) (hS : va_S A s.heap H locs) (q0 : Nat) {cA : ClassId} {n : Nat} {f : Nat → Int32} (ha : ws[q0]? = some (a, .inl (cA, n, .inl f))) (ht : tys[0]? = some (cA, .int)) {v : Int32} {index maxL : Nat} {bytes : ByteArray} {ret : Option FieldType} (cw : CallB R s args own index y_J_fill bytes maxL ret ws_J_fill rm_J_fill 0 0 2 ∧ (Cond.static y_J_fill).before args s = true)
    (hl : ls.size = nL) (hst : stk = [Value.ref a, .int v].reverse ++ rest) (hW : (rest.map fun v => v.category).sum ≤ 8) (hdg : decode cc pc = .ok (.invokestatic index, 3)) (hn : n < 2 ^ 31) (hcs : cells + 0 ≤ R.cells ∧ slots + 0 ≤ R.slots)
    (kk : ∀ (H1 : Heap) (locs1 : List Loc), va_P D vwCl (ws.set q0 (a, .inl (cA, n, .inl (fun j => if j < n then v else f j)))) H1 → va_S A s.heap H1 locs1 → W p l e R s m args below meth c H1 locs1 cells slots Q (F0 m (pc + 3) ls rest)) : W p l e R s m args below meth c H locs cells slots Q (F0 m pc ls stk) := by
  have hfree : ∀ q, va_A (WK n a cA (fun _ => 0, fun _ => f, fun _ _ => 0)) H.size q → A q := by
    intro q hq
    rcases hq with ⟨j, e2, hj⟩ | hq
    · cases j with
      | zero =>
        have e3 := Option.some.inj hj
        have e4 : a = q := congrArg Prod.fst e3
        rw [← e4]
        exact hD.2 q0 _ ha
      | succ j => cases hj
    · exact hA q (Nat.le_trans hS.1 hq)
  have hpre : ∀ U : State, U.heap = H → s.WarmedH U.vm → mb_pre (fun _ _ => True) vwCl D [(cA, .int)] (WK n a cA) [.ref a, .int v] (fun _ => 0, fun _ => f, fun _ _ => 0) H.size [Value.ref a, .int v].toArray U := fun U hU hW => by
    refine ⟨rfl, by rw [hU], fun k q hk => ?_, va_K.moved hW.alike (hK.sub [0] (by simp [ht])), ⟨fun i j x y hx hy _ => ?_, fun _ _ _ => trivial⟩, trivial⟩
    · cases k with
      | zero =>
        rw [hU]
        cases hk
        exact hP q0 _ ha
      | succ k => cases hk
    · cases i with
      | zero => cases j with
        | zero => rfl
        | succ j => cases hy
      | succ i => cases hx
  refine va_callv (va_runS S (w_J_fill l D (fun _ => 0, fun _ => f, fun _ _ => 0) hn H.size) cw ⟨mb_blind mb_Z0ok, hpre⟩ rfl rfl hl hst (lv_room hW) hdg hcs) hS (fun q _ hq => hfree q hq) hfree (fun u t H1 locs1 htH hvm hp hB hz hk hS1 => ?_)
  obtain ⟨hP1, -, -⟩ := hB
  rw [htH, hp] at hP1
  refine kk H1 locs1 ?_ hS1
  intro k q hq
  by_cases e : k = q0
  · subst e
    have hlt : k < ws.length := by
      rcases Nat.lt_or_ge k ws.length with h1 | h1
      · exact h1
      · rw [List.getElem?_eq_none h1] at ha; cases ha
    rw [List.getElem?_set_self hlt] at hq
    cases hq
    exact hP1 0 _ rfl
  · rw [List.getElem?_set_ne (fun z => e z.symm)] at hq
    refine (hP k q hq).kept (hk q.1 (hP k q hq).lt (fun hh => ?_))
    rcases hh with ⟨j, e2, hj⟩ | hh
    · cases j with
      | zero =>
        have e3 := Option.some.inj hj
        have e4 : a = q.1 := congrArg Prod.fst e3
        exact e (hD.1 k q0 q _ hq ha e4.symm)
      | succ j => cases hj
    · exact absurd (hP k q hq).lt (Nat.not_lt.mpr hh)
theorem mb_kfill {p : Program} {l : Launch} {e : Env} {R : Room} {s : State} {m : MethodId} {args : Array Value} {below : List Frame} {meth : Method} {c : Code} {H : Heap} {locs : List Loc} {Q : State → Prop} {cc : ByteArray} {nL : Nat} {Ts : List Cond} {own : String} {Z : (Nat → Prop) → State → Prop} {D : va_G} {tys : List (ClassId × FieldType)} {A : Nat → Prop} {WS : mb_S → va_W} {pc : Nat} {ls : Array Slot} {stk rest : List Value} {st : mb_S} {a : Nat}
    (Cx : mb_C p s m args meth c cc nL Ts own Z vwCl D tys A WS) (hP : va_P D vwCl (WS st) H) (hS : va_S A s.heap H locs) (q0 : Nat) {cA : ClassId} {n no : Nat} {f : Nat → Int32} (ha : (WS st)[q0]? = some (a, .inl (cA, n, .inl f))) (ht : tys[0]? = some (cA, .int)) {v : Int32} {β : Type} {k : mb_S → Option β} {r : β} (h : mb_fill st no n v k = some r) {index maxL : Nat} {bytes : ByteArray} {ret : Option FieldType} (cw : CallB R s args own index y_J_fill bytes maxL ret ws_J_fill rm_J_fill 0 0 2 ∧ (Cond.static y_J_fill).before args s = true)
    (hl : ls.size = nL) (hst : stk = [Value.ref a, .int v].reverse ++ rest) (hW : (rest.map fun v => v.category).sum ≤ 8) (hdg : decode cc pc = .ok (.invokestatic index, 3)) (hn : n < 2 ^ 31) (hw : (WS st).set q0 (a, .inl (cA, n, .inl (fun j => if j < n then v else f j))) = WS (mb_filS st no n v))
    (kk : ∀ (H1 : Heap) (locs1 : List Loc) (st' : mb_S), va_P D vwCl (WS st') H1 → va_S A s.heap H1 locs1 → k st' = some r → W p l e R s m args below meth c H1 locs1 0 0 Q (F0 m (pc + 3) ls rest)) : W p l e R s m args below meth c H locs 0 0 Q (F0 m pc ls stk) :=
  mb_cfill Cx.1 Cx.2.1 hP (Cx.2.2.1 st) Cx.2.2.2.1 hS q0 ha ht cw hl hst hW hdg hn ⟨Nat.zero_le _, Nat.zero_le _⟩ (fun H1 locs1 hP1 hS1 => kk H1 locs1 _ (hw ▸ hP1) hS1 h)
