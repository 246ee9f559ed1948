theorem mb_blind {Z : (Nat → Prop) → State → Prop} (hZ : mb_Zok Z) {cl : List vw_C} {D : va_G} {tys : List (ClassId × FieldType)} {WS : mb_S → va_W} {av : List Value} {st : mb_S} {sz : Nat} : FrameBlind (mb_pre Z cl D tys WS av st sz) := fun a U g mk q => by
  obtain ⟨q0, q1, qP, qK, qD, qZ⟩ := q
  exact ⟨q0, q1, qP, va_K.moved (u := U) (U := U.calling g mk a) (Vm.Alike.refl U.vm) qK, qD, hZ _ _ U (U.calling g mk a) qZ (Vm.Alike.refl U.vm) (fun _ h => h) (fun _ _ _ => rfl)⟩
section MBR
variable {p : Program} {l : Launch} {e : Env} {R : Room} {s : State} {m : MethodId} {args : Array Value} {below : List Frame} {meth : Method} {c : Code} {H : Heap} {locs : List Loc} {Q : State → Prop}
variable {cc : ByteArray} {nL : Nat} {Ts : List Cond} {own : String} {Z : (Nat → Prop) → State → Prop} {cl : List vw_C} {D : va_G} {tys : List (ClassId × FieldType)} {A : Nat → Prop} {WS : mb_S → va_W} {pc : Nat} {ls : Array Slot} {stk rest : List Value} {st : mb_S} {av : List Value} {a : Nat} {ws : va_W} {H0 : Heap} {cells slots : Nat}
theorem mb_iald (hexec : p.tables.exec = Jvm.exec) (hb : c.code = cc) (hK : va_K D cl tys s) (hP : va_P D cl ws H) (q0 t0 : Nat) {cA : ClassId} {n : Nat} {f : Nat → Int32} (ha : ws[q0]? = some (a, .inl (cA, n, .inl f))) (ht : tys[t0]? = some (cA, .int)) {i : Int32} {β : Type} {k : Int32 → Option β} {r : β} (h : mb_ld f n i k = some r) (hdg : decode cc pc = .ok (.iaload, 1))
    (kk : ∀ x : Int32, k x = some r → W p l e R s m args below meth c H locs cells slots Q (F0 m (pc + 1) ls (.int x :: rest))) : W p l e R s m args below meth c H locs cells slots Q (F0 m pc ls (.int i :: .ref a :: rest)) := by
  obtain ⟨hi, h⟩ := mb_ld_ex h
  exact va_iald hexec hb hK hP q0 t0 ha ht hi hdg (kk _ h)
theorem mb_zald (hexec : p.tables.exec = Jvm.exec) (hb : c.code = cc) (hK : va_K D cl tys s) (hP : va_P D cl ws H) (q0 t0 : Nat) {cA : ClassId} {n : Nat} {f : Nat → Int32} (ha : ws[q0]? = some (a, .inl (cA, n, .inl f))) (ht : tys[t0]? = some (cA, .boolean)) {i : Int32} {β : Type} {k : Int32 → Option β} {r : β} (h : mb_ld f n i k = some r) (hdg : decode cc pc = .ok (.baload, 1))
    (kk : ∀ x : Int32, k x = some r → W p l e R s m args below meth c H locs cells slots Q (F0 m (pc + 1) ls (.int x :: rest))) : W p l e R s m args below meth c H locs cells slots Q (F0 m pc ls (.int i :: .ref a :: rest)) := by
  obtain ⟨hi, h⟩ := mb_ld_ex h
  exact va_zald hexec hb hK hP q0 t0 ha ht hi hdg (kk _ h)
theorem mb_lald (hexec : p.tables.exec = Jvm.exec) (hb : c.code = cc) (hK : va_K D cl tys s) (hP : va_P D cl ws H) (q0 t0 : Nat) {cA : ClassId} {n : Nat} {f : Nat → Int64} (ha : ws[q0]? = some (a, .inl (cA, n, .inr (.inl f)))) (ht : tys[t0]? = some (cA, .long)) {i : Int32} {β : Type} {k : Int64 → Option β} {r : β} (h : mb_ldL f n i k = some r) (hdg : decode cc pc = .ok (.laload, 1))
    (kk : ∀ x : Int64, k x = some r → W p l e R s m args below meth c H locs cells slots Q (F0 m (pc + 1) ls (.long x :: rest))) : W p l e R s m args below meth c H locs cells slots Q (F0 m pc ls (.int i :: .ref a :: rest)) := by
  obtain ⟨hi, h⟩ := mb_ldL_ex h
  exact va_lald hexec hb hK hP q0 t0 ha ht hi hdg (kk _ h)
theorem mb_iast (hexec : p.tables.exec = Jvm.exec) (hb : c.code = cc) (hK : va_K D cl tys s) (hP : va_P D cl (WS st) H) (hD : ∀ st, va_D A (WS st)) (hS : va_S A H0 H locs) (q0 t0 : Nat) {cA : ClassId} {n no : Nat} {f : Nat → Int32} (ha : (WS st)[q0]? = some (a, .inl (cA, n, .inl f))) (ht : tys[t0]? = some (cA, .int)) {i x : Int32} {β : Type} {k : mb_S → Option β} {r : β} (h : mb_stI st no n i x k = some r) (hdg : decode cc pc = .ok (.iastore, 1))
    (hw : (WS st).set q0 (a, .inl (cA, n, .inl (upd f i.toNatClampNeg x))) = WS (mb_setI st no i.toNatClampNeg x))
    (kk : ∀ (H1 : Heap) (locs1 : List Loc) (st' : mb_S), va_P D cl (WS st') H1 → va_S A H0 H1 locs1 → k st' = some r → W p l e R s m args below meth c H1 locs1 cells slots Q (F0 m (pc + 1) ls rest)) : W p l e R s m args below meth c H locs cells slots Q (F0 m pc ls (.int x :: .int i :: .ref a :: rest)) := by
  obtain ⟨hi, h⟩ := mb_stI_ex h
  exact va_iast hexec hb hK hP (hD st) hS q0 t0 ha ht hi hdg (fun H1 locs1 hP1 _ hS1 => kk H1 locs1 _ (hw ▸ hP1) hS1 h)
theorem mb_zast (hexec : p.tables.exec = Jvm.exec) (hb : c.code = cc) (hK : va_K D cl tys s) (hP : va_P D cl (WS st) H) (hD : ∀ st, va_D A (WS st)) (hS : va_S A H0 H locs) (q0 t0 : Nat) {cA : ClassId} {n no : Nat} {f : Nat → Int32} (ha : (WS st)[q0]? = some (a, .inl (cA, n, .inl f))) (ht : tys[t0]? = some (cA, .boolean)) {i x : Int32} {β : Type} {k : mb_S → Option β} {r : β} (h : mb_stZ st no n i x k = some r) (hdg : decode cc pc = .ok (.bastore, 1))
    (hw : (WS st).set q0 (a, .inl (cA, n, .inl (upd f i.toNatClampNeg x))) = WS (mb_setI st no i.toNatClampNeg x))
    (kk : ∀ (H1 : Heap) (locs1 : List Loc) (st' : mb_S), va_P D cl (WS st') H1 → va_S A H0 H1 locs1 → k st' = some r → W p l e R s m args below meth c H1 locs1 cells slots Q (F0 m (pc + 1) ls rest)) : W p l e R s m args below meth c H locs cells slots Q (F0 m pc ls (.int x :: .int i :: .ref a :: rest)) := by
  obtain ⟨hi, hv, h⟩ := mb_stZ_ex h
  refine va_zast hexec hb hK hP (hD st) hS q0 t0 ha ht hi hdg (fun H1 locs1 hP1 _ hS1 => kk H1 locs1 _ ?_ hS1 h)
  rw [mb_vnZ hv] at hP1
  exact hw ▸ hP1
theorem mb_last (hexec : p.tables.exec = Jvm.exec) (hb : c.code = cc) (hK : va_K D cl tys s) (hP : va_P D cl (WS st) H) (hD : ∀ st, va_D A (WS st)) (hS : va_S A H0 H locs) (q0 t0 : Nat) {cA : ClassId} {n no : Nat} {f : Nat → Int64} (ha : (WS st)[q0]? = some (a, .inl (cA, n, .inr (.inl f)))) (ht : tys[t0]? = some (cA, .long)) {i : Int32} {x : Int64} {β : Type} {k : mb_S → Option β} {r : β} (h : mb_stL st no n i x k = some r) (hdg : decode cc pc = .ok (.lastore, 1))
    (hw : (WS st).set q0 (a, .inl (cA, n, .inr (.inl (vp_updL f i.toNatClampNeg x)))) = WS (mb_setL st no i.toNatClampNeg x))
    (kk : ∀ (H1 : Heap) (locs1 : List Loc) (st' : mb_S), va_P D cl (WS st') H1 → va_S A H0 H1 locs1 → k st' = some r → W p l e R s m args below meth c H1 locs1 cells slots Q (F0 m (pc + 1) ls rest)) : W p l e R s m args below meth c H locs cells slots Q (F0 m pc ls (.long x :: .int i :: .ref a :: rest)) := by
  obtain ⟨hi, h⟩ := mb_stL_ex h
  exact va_last hexec hb hK hP (hD st) hS q0 t0 ha ht hi hdg (fun H1 locs1 hP1 _ hS1 => kk H1 locs1 _ (hw ▸ hP1) hS1 h)
theorem mb_tabD (hexec : p.tables.exec = Jvm.exec) (hb : c.code = cc) {dflt lo hi : Int} {offs : Array Int} {len : Nat} {x : Int32} {tgt : Nat} (hdg : decode cc pc = .ok (.tableswitch dflt lo hi offs, len)) (hd : ¬ x.toInt < lo → ¬ hi < x.toInt → offs[(x.toInt - lo).toNat]? = some dflt) (ht : (pc : Int) + dflt = (tgt : Int))
    (kk : W p l e R s m args below meth c H locs cells slots Q (F0 m tgt ls rest)) : W p l e R s m args below meth c H locs cells slots Q (F0 m pc ls (.int x :: rest)) := by
  by_cases h1 : x.toInt < lo
  · exact lv_tableOut hexec hb hdg (Or.inl h1) ht kk
  · by_cases h2 : hi < x.toInt
    · exact lv_tableOut hexec hb hdg (Or.inr h2) ht kk
    · exact lv_tableIn hexec hb hdg h1 h2 (hd h1 h2) ht kk
theorem mb_eI {v rv : Int32} {rs : mb_S} (hret : mb_R p l e R s m args below meth c Q cl D A WS cc .ireturn [.int rv] rs) (h : some (v, st) = some (rv, rs)) (hd : decode cc pc = .ok (.ireturn, 1)) (hP : va_P D cl (WS st) H) (hS : va_S A s.heap H locs) : W p l e R s m args below meth c H locs 0 0 Q (F0 m pc ls [.int v]) := by cases h; exact hret ls H locs pc hd hP hS
theorem mb_eI0 {v rv : Int32} (hret : mb_R p l e R s m args below meth c Q cl D A WS cc .ireturn [.int rv] st) (h : some v = some rv) (hd : decode cc pc = .ok (.ireturn, 1)) (hP : va_P D cl (WS st) H) (hS : va_S A s.heap H locs) : W p l e R s m args below meth c H locs 0 0 Q (F0 m pc ls [.int v]) := by cases h; exact hret ls H locs pc hd hP hS
theorem mb_eZ {v rv : Int32} {rs : mb_S} (hret : (rv = 0 ∨ rv = 1) → mb_R p l e R s m args below meth c Q cl D A WS cc .ireturn [.int rv] rs) (h : mb_retZ v st = some (rv, rs)) (hd : decode cc pc = .ok (.ireturn, 1)) (hP : va_P D cl (WS st) H) (hS : va_S A s.heap H locs) : W p l e R s m args below meth c H locs 0 0 Q (F0 m pc ls [.int v]) := by
  obtain ⟨hz, e1⟩ := mb_retZ_ex h
  cases e1
  exact hret hz ls H locs pc hd hP hS
theorem mb_eZ0 {v rv : Int32} (hret : (rv = 0 ∨ rv = 1) → mb_R p l e R s m args below meth c Q cl D A WS cc .ireturn [.int rv] st) (h : mb_ret0 v = some rv) (hd : decode cc pc = .ok (.ireturn, 1)) (hP : va_P D cl (WS st) H) (hS : va_S A s.heap H locs) : W p l e R s m args below meth c H locs 0 0 Q (F0 m pc ls [.int v]) := by
  obtain ⟨hz, e1⟩ := mb_ret0_ex h
  subst e1
  exact hret hz ls H locs pc hd hP hS
theorem mb_eL {v rv : Int64} {rs : mb_S} (hret : mb_R p l e R s m args below meth c Q cl D A WS cc .lreturn [.long rv] rs) (h : some (v, st) = some (rv, rs)) (hd : decode cc pc = .ok (.lreturn, 1)) (hP : va_P D cl (WS st) H) (hS : va_S A s.heap H locs) : W p l e R s m args below meth c H locs 0 0 Q (F0 m pc ls [.long v]) := by cases h; exact hret ls H locs pc hd hP hS
theorem mb_eV {v rv : Unit} {rs : mb_S} (hret : mb_R p l e R s m args below meth c Q cl D A WS cc .return_ [] rs) (h : some (v, st) = some (rv, rs)) (hd : decode cc pc = .ok (.return_, 1)) (hP : va_P D cl (WS st) H) (hS : va_S A s.heap H locs) : W p l e R s m args below meth c H locs 0 0 Q (F0 m pc ls []) := by cases h; exact hret ls H locs pc hd hP hS
theorem mb_preU {B : Nat → Prop} (hZok : mb_Zok Z) (Cx : mb_C p s m args meth c cc nL Ts own Z cl D tys A WS) (hP : va_P D cl (WS st) H) (hS : va_S A s.heap H locs) : ∀ U : State, U.heap = H → s.WarmedH U.vm → mb_pre Z cl D tys WS av st H.size av.toArray U := fun U hU hW => by
  obtain ⟨-, hK, hD, hA, hZ⟩ := Cx
  refine ⟨rfl, by rw [hU], by rw [hU]; exact hP, va_K.moved hW.alike hK, (hD st).weaken (fun _ _ _ _ => trivial), hZok A _ s U hZ hW.alike ?_ (fun q h1 h2 => by rw [hU]; exact hS.2.1 q h1 h2)⟩
  intro q h
  rcases h with ⟨k, e, hk⟩ | h
  · exact (hD st).2 k _ hk
  · exact hA q (Nat.le_trans hS.1 h)
theorem mb_fr (Cx : mb_C p s m args meth c cc nL Ts own Z cl D tys A WS) (hS : va_S A s.heap H locs) : ∀ q, va_A (WS st) H.size q → A q := by
  obtain ⟨-, -, hD, hA, -⟩ := Cx
  intro q h
  rcases h with ⟨k, e, hk⟩ | h
  · exact (hD st).2 k _ hk
  · exact hA q (Nat.le_trans hS.1 h)
theorem mb_fr0 (Cx : mb_C p s m args meth c cc nL Ts own Z cl D tys A WS) (hS : va_S A s.heap H locs) : ∀ q, va_A [] H.size q → A q := by
  obtain ⟨-, -, -, hA, -⟩ := Cx
  intro q h
  rcases h with ⟨k, e, hk⟩ | h
  · cases hk
  · exact hA q (Nat.le_trans hS.1 h)
theorem mb_goI {v : Int32} {st' : mb_S} {av : Array Value} (Cx : mb_C p s m args meth c cc nL Ts own Z cl D tys A WS) (hr : va_Run p l e R s m args below meth c H locs 0 0 0 0 (F0 m pc ls stk) rest (mb_QI cl D tys WS st v st' H.size av) (va_A (WS st) H.size)) (hS : va_S A s.heap H locs)
    (kk : ∀ (H1 : Heap) (locs1 : List Loc), va_P D cl (WS st') H1 → va_S A s.heap H1 locs1 → W p l e R s m args below meth c H1 locs1 0 0 Q (F0 m (pc + 3) ls (.int v :: rest))) : W p l e R s m args below meth c H locs 0 0 Q (F0 m pc ls stk) := by
  refine va_calli hr hS (fun q _ h => mb_fr Cx hS q h) (mb_fr Cx hS) (fun r' u t H1 locs1 ht hvm hp hB hz hk hS1 => ?_)
  obtain ⟨e1, e2⟩ := hp
  obtain ⟨hP1, -, -⟩ := hB
  rw [ht, e2] at hP1
  rw [e1]
  exact kk H1 locs1 hP1 hS1
theorem mb_goL {v : Int64} {st' : mb_S} {av : Array Value} (Cx : mb_C p s m args meth c cc nL Ts own Z cl D tys A WS) (hr : va_Run p l e R s m args below meth c H locs 0 0 0 0 (F0 m pc ls stk) rest (mb_QL cl D tys WS st v st' H.size av) (va_A (WS st) H.size)) (hS : va_S A s.heap H locs)
    (kk : ∀ (H1 : Heap) (locs1 : List Loc), va_P D cl (WS st') H1 → va_S A s.heap H1 locs1 → W p l e R s m args below meth c H1 locs1 0 0 Q (F0 m (pc + 3) ls (.long v :: rest))) : W p l e R s m args below meth c H locs 0 0 Q (F0 m pc ls stk) := by
  refine va_calll hr hS (fun q _ h => mb_fr Cx hS q h) (mb_fr Cx hS) (fun r' u t H1 locs1 ht hvm hp hB hz hk hS1 => ?_)
  obtain ⟨e1, e2⟩ := hp
  obtain ⟨hP1, -, -⟩ := hB
  rw [ht, e2] at hP1
  rw [e1]
  exact kk H1 locs1 hP1 hS1
theorem mb_goV {st' : mb_S} {av : Array Value} (Cx : mb_C p s m args meth c cc nL Ts own Z cl D tys A WS) (hr : va_Run p l e R s m args below meth c H locs 0 0 0 0 (F0 m pc ls stk) rest (mb_QV cl D tys WS st st' H.size av) (va_A (WS st) H.size)) (hS : va_S A s.heap H locs)
    (kk : ∀ (H1 : Heap) (locs1 : List Loc), va_P D cl (WS st') H1 → va_S A s.heap H1 locs1 → W p l e R s m args below meth c H1 locs1 0 0 Q (F0 m (pc + 3) ls rest)) : W p l e R s m args below meth c H locs 0 0 Q (F0 m pc ls stk) := by
  refine va_callv hr hS (fun q _ h => mb_fr Cx hS q h) (mb_fr Cx hS) (fun u t H1 locs1 ht hvm hp hB hz hk hS1 => ?_)
  obtain ⟨hP1, -, -⟩ := hB
  rw [ht, hp] at hP1
  exact kk H1 locs1 hP1 hS1
theorem mb_go0I {v : Int32} {st0 st' : mb_S} {av : Array Value} (Cx : mb_C p s m args meth c cc nL Ts own Z cl D tys A WS) (hr : va_Run p l e R s m args below meth c H locs 0 0 0 0 (F0 m pc ls stk) rest (mb_QI cl D [] (fun _ => []) st0 v st' H.size av) (va_A [] H.size)) (hP : va_P D cl (WS st) H) (hS : va_S A s.heap H locs)
    (kk : ∀ (H1 : Heap) (locs1 : List Loc), va_P D cl (WS st) H1 → va_S A s.heap H1 locs1 → W p l e R s m args below meth c H1 locs1 0 0 Q (F0 m (pc + 3) ls (.int v :: rest))) : W p l e R s m args below meth c H locs 0 0 Q (F0 m pc ls stk) := by
  refine va_calli hr hS (fun q _ h => mb_fr0 Cx hS q h) (mb_fr0 Cx hS) (fun r' u t H1 locs1 ht hvm hp hB hz hk hS1 => ?_)
  rw [hp.1]
  refine kk H1 locs1 (hP.kept (fun k q hq => hk q.1 (hP k q hq).lt (fun h => ?_))) hS1
  rcases h with ⟨j, e, hj⟩ | h
  · cases hj
  · exact absurd (hP k q hq).lt (Nat.not_lt.mpr h)
theorem mb_runV (hZok : mb_Zok Z) {y : MethodName} {wsy : List Cond} {rm : Room} {Qc : Array Value → State → Outcome → State → Prop} {free : Addr → Prop} {bytes : ByteArray} {maxL n index : Nat} {ret : Option FieldType} {C : String} {b : Nat} {As : List Value} (Cx : mb_C p s m args meth c cc nL Ts own Z cl D tys A WS) (hM : Met l y wsy rm (mb_pre Z cl D tys WS (.ref b :: As) st H.size) Qc 0 0 free) (cw : CallW R s args own C index y bytes maxL ret wsy rm 0 0 n) (hP : va_P D cl (WS st) H) (hS : va_S A s.heap H locs) (q0 : Nat) {ci : Nat} {fs : List Value} {T : u_T} {N : Nat} (he : (WS st)[q0]? = some (b, .inr (ci, fs))) (hc : cl[ci]? = some (C, T, N))
    (hn : As.length = n) (hl : ls.size = nL) (hst : stk = As.reverse ++ .ref b :: rest) (hW : (rest.map fun v => v.category).sum ≤ 8) (hdg : decode cc pc = .ok (.invokevirtual index, 3)) : va_Run p l e R s m args below meth c H locs 0 0 0 0 (F0 m pc ls stk) rest (Qc (Value.ref b :: As).toArray) free :=
  va_runV Cx.1 hM cw ⟨mb_blind hZok, va_recv Cx.2.1 hP hc he, mb_preU (B := A) hZok Cx hP hS⟩ rfl hn hl hst (lv_room hW) hdg ⟨Nat.zero_le _, Nat.zero_le _⟩
theorem mb_pre0U {av : List Value} (Cx : mb_C p s m args meth c cc nL Ts own Z cl D tys A WS) : ∀ U : State, U.heap = H → s.WarmedH U.vm → mb_pre (fun _ _ => True) cl D [] (fun _ => []) av mb_0 H.size av.toArray U := fun U hU hW => ⟨rfl, by rw [hU], fun k q hk => (by cases hk), va_K.moved hW.alike (Cx.2.1.sub (tys' := []) [] rfl), ⟨fun i j p q hp => (by cases hp), fun k q hk => (by cases hk)⟩, trivial⟩
theorem mb_runS0 {y : MethodName} {wsy : List Cond} {rm : Room} {Qc : Array Value → State → Outcome → State → Prop} {free : Addr → Prop} {bytes : ByteArray} {maxL n index : Nat} {ret : Option FieldType} {As : List Value} (Cx : mb_C p s m args meth c cc nL Ts own Z cl D tys A WS) (hM : Met l y wsy rm (mb_pre (fun _ _ => True) cl D [] (fun _ => []) As mb_0 H.size) Qc 0 0 free) (cw : CallB R s args own index y bytes maxL ret wsy rm 0 0 n ∧ (Cond.static y).before args s = true)
    (hn : As.length = n) (hl : ls.size = nL) (hst : stk = As.reverse ++ rest) (hW : (rest.map fun v => v.category).sum ≤ 8) (hdg : decode cc pc = .ok (.invokestatic index, 3)) : va_Run p l e R s m args below meth c H locs 0 0 0 0 (F0 m pc ls stk) rest (Qc As.toArray) free :=
  va_runS Cx.1 hM cw ⟨mb_blind mb_Z0ok, mb_pre0U Cx⟩ rfl hn hl hst (lv_room hW) hdg ⟨Nat.zero_le _, Nat.zero_le _⟩
theorem mb_runSN0 {y : MethodName} {wsy : List Cond} {rm : Room} {Qc : Array Value → State → Outcome → State → Prop} {free : Addr → Prop} {bytes : ByteArray} {maxL n index : Nat} {ret : Option FieldType} {host : String} {As : List Value} (Cx : mb_C p s m args meth c cc nL Ts own Z cl D tys A WS) (hM : Met l y wsy rm (mb_pre (fun _ _ => True) cl D [] (fun _ => []) As mb_0 H.size) Qc 0 0 free) (cw : va_CN R s args own index y host bytes maxL ret wsy rm 0 0 n ∧ (Cond.static y).before args s = true ∧ True)
    (hn : As.length = n) (hl : ls.size = nL) (hst : stk = As.reverse ++ rest) (hW : (rest.map fun v => v.category).sum ≤ 8) (hdg : decode cc pc = .ok (.invokestatic index, 3)) : va_Run p l e R s m args below meth c H locs 0 0 0 0 (F0 m pc ls stk) rest (Qc As.toArray) free :=
  va_runSN Cx.1 hM cw ⟨mb_blind mb_Z0ok, mb_pre0U Cx⟩ rfl hn hl hst (lv_room hW) hdg ⟨Nat.zero_le _, Nat.zero_le _⟩
end MBR
theorem mb_ofI {Z : (Nat → Prop) → State → Prop} (hZok : mb_Zok Z) {l : Launch} {y : MethodName} {ws ws' : List Cond} {rm : Room} {cl : List vw_C} {D : va_G} {tys : List (ClassId × FieldType)} {WS : mb_S → va_W} {cc : ByteArray} {maxL : Nat} {av : List Value} {st st' : mb_S} {r : Int32} (hy : plainName y.cls = true) (hw : ws = Cond.code y cc maxL (some .int) :: ws') (hl : (lg_sl av).length ≤ maxL) (hWS : ∀ (A : Nat → Prop) (a b : mb_S), va_D A (WS a) → va_D A (WS b))
    (hb : ∀ (p : Program) (e : Env) (s : State) (m : MethodId) (args : Array Value) (below : List Frame) (meth : Method) (c : Code) (Q : State → Prop) (A : Nat → Prop), mb_C p s m args meth c cc maxL ws' y.cls Z cl D tys A WS → (mb_R p l e rm s m args below meth c Q cl D A WS cc .ireturn [.int r] st') → mb_B p l e rm s m args below meth c Q cl D A WS maxL (lv_args 0 av) [] 0 st) : mb_MI l y ws rm Z cl D tys WS av st r st' := by
  intro sz
  refine Met.ofW (cc := cc) (maxL := maxL) (ret := (some .int)) hy hw ?_
  intro p e s m args below meth c s₁ B hml hv
  obtain ⟨rfl, hsz, hP, hK, hD0, hZ⟩ := hv
  have hlocks := B.notSynchronized
  subst hsz
  have hD := hD0.self (sz := s.heap.size)
  have hr := B.returns
  have hown : s.vm.findClass y.cls = some m.cls := findClass_of_methodNamed B.named
  have hts : ∀ w ∈ ws', w.before av.toArray s = true := fun w h => atoms_spec (ws := ws) B.pre w (by rw [hw]; exact List.mem_cons_of_mem _ h)
  rw [lg_entry_eq]
  refine hb p e s m _ below meth c _ (va_A (WS st) s.heap.size) ⟨⟨B.exec, B.bytes, hml, hown, hts⟩, hK, fun _ => hWS _ _ _ hD, fun q h => Or.inr h, hZ⟩ ?_ _ _ [] (lv_entry av hl) hP va_S.rf
  intro ls H locs pc hd hP' hS
  exact W.iret B.exec B.bytes hr (fun t ht hW => ⟨⟨r, st', rfl, ⟨rfl, rfl⟩, by rw [ht]; exact hP', va_K.moved hW.alike hK, hWS _ _ _ hD⟩, hS.F ht⟩) hS.2.2 hd
theorem mb_ofZ {Z : (Nat → Prop) → State → Prop} (hZok : mb_Zok Z) {l : Launch} {y : MethodName} {ws ws' : List Cond} {rm : Room} {cl : List vw_C} {D : va_G} {tys : List (ClassId × FieldType)} {WS : mb_S → va_W} {cc : ByteArray} {maxL : Nat} {av : List Value} {st st' : mb_S} {r : Int32} (hy : plainName y.cls = true) (hw : ws = Cond.code y cc maxL (some .boolean) :: ws') (hl : (lg_sl av).length ≤ maxL) (hWS : ∀ (A : Nat → Prop) (a b : mb_S), va_D A (WS a) → va_D A (WS b))
    (hb : ∀ (p : Program) (e : Env) (s : State) (m : MethodId) (args : Array Value) (below : List Frame) (meth : Method) (c : Code) (Q : State → Prop) (A : Nat → Prop), mb_C p s m args meth c cc maxL ws' y.cls Z cl D tys A WS → ((r = 0 ∨ r = 1) → mb_R p l e rm s m args below meth c Q cl D A WS cc .ireturn [.int r] st') → mb_B p l e rm s m args below meth c Q cl D A WS maxL (lv_args 0 av) [] 0 st) : mb_MI l y ws rm Z cl D tys WS av st r st' := by
  intro sz
  refine Met.ofW (cc := cc) (maxL := maxL) (ret := (some .boolean)) hy hw ?_
  intro p e s m args below meth c s₁ B hml hv
  obtain ⟨rfl, hsz, hP, hK, hD0, hZ⟩ := hv
  have hlocks := B.notSynchronized
  subst hsz
  have hD := hD0.self (sz := s.heap.size)
  have hr := B.returns
  have hown : s.vm.findClass y.cls = some m.cls := findClass_of_methodNamed B.named
  have hts : ∀ w ∈ ws', w.before av.toArray s = true := fun w h => atoms_spec (ws := ws) B.pre w (by rw [hw]; exact List.mem_cons_of_mem _ h)
  rw [lg_entry_eq]
  refine hb p e s m _ below meth c _ (va_A (WS st) s.heap.size) ⟨⟨B.exec, B.bytes, hml, hown, hts⟩, hK, fun _ => hWS _ _ _ hD, fun q h => Or.inr h, hZ⟩ ?_ _ _ [] (lv_entry av hl) hP va_S.rf
  intro hz ls H locs pc hd hP' hS
  exact W.zret (ty := .boolean) B.exec B.bytes hr (mb_narZ hz) (fun t ht hW => ⟨⟨r, st', rfl, ⟨rfl, rfl⟩, by rw [ht]; exact hP', va_K.moved hW.alike hK, hWS _ _ _ hD⟩, hS.F ht⟩) hS.2.2 hd
theorem mb_ofL {Z : (Nat → Prop) → State → Prop} (hZok : mb_Zok Z) {l : Launch} {y : MethodName} {ws ws' : List Cond} {rm : Room} {cl : List vw_C} {D : va_G} {tys : List (ClassId × FieldType)} {WS : mb_S → va_W} {cc : ByteArray} {maxL : Nat} {av : List Value} {st st' : mb_S} {r : Int64} (hy : plainName y.cls = true) (hw : ws = Cond.code y cc maxL (some .long) :: ws') (hl : (lg_sl av).length ≤ maxL) (hWS : ∀ (A : Nat → Prop) (a b : mb_S), va_D A (WS a) → va_D A (WS b))
    (hb : ∀ (p : Program) (e : Env) (s : State) (m : MethodId) (args : Array Value) (below : List Frame) (meth : Method) (c : Code) (Q : State → Prop) (A : Nat → Prop), mb_C p s m args meth c cc maxL ws' y.cls Z cl D tys A WS → (mb_R p l e rm s m args below meth c Q cl D A WS cc .lreturn [.long r] st') → mb_B p l e rm s m args below meth c Q cl D A WS maxL (lv_args 0 av) [] 0 st) : mb_ML l y ws rm Z cl D tys WS av st r st' := by
  intro sz
  refine Met.ofW (cc := cc) (maxL := maxL) (ret := (some .long)) hy hw ?_
  intro p e s m args below meth c s₁ B hml hv
  obtain ⟨rfl, hsz, hP, hK, hD0, hZ⟩ := hv
  have hlocks := B.notSynchronized
  subst hsz
  have hD := hD0.self (sz := s.heap.size)
  have hr := B.returns
  have hown : s.vm.findClass y.cls = some m.cls := findClass_of_methodNamed B.named
  have hts : ∀ w ∈ ws', w.before av.toArray s = true := fun w h => atoms_spec (ws := ws) B.pre w (by rw [hw]; exact List.mem_cons_of_mem _ h)
  rw [lg_entry_eq]
  refine hb p e s m _ below meth c _ (va_A (WS st) s.heap.size) ⟨⟨B.exec, B.bytes, hml, hown, hts⟩, hK, fun _ => hWS _ _ _ hD, fun q h => Or.inr h, hZ⟩ ?_ _ _ [] (lv_entry av hl) hP va_S.rf
  intro ls H locs pc hd hP' hS
  exact W.lret B.exec B.bytes hr (fun t ht hW => ⟨⟨r, st', rfl, ⟨rfl, rfl⟩, by rw [ht]; exact hP', va_K.moved hW.alike hK, hWS _ _ _ hD⟩, hS.F ht⟩) hS.2.2 hd
theorem mb_ofV {Z : (Nat → Prop) → State → Prop} (hZok : mb_Zok Z) {l : Launch} {y : MethodName} {ws ws' : List Cond} {rm : Room} {cl : List vw_C} {D : va_G} {tys : List (ClassId × FieldType)} {WS : mb_S → va_W} {cc : ByteArray} {maxL : Nat} {av : List Value} {st st' : mb_S}  (hy : plainName y.cls = true) (hw : ws = Cond.code y cc maxL none :: ws') (hl : (lg_sl av).length ≤ maxL) (hWS : ∀ (A : Nat → Prop) (a b : mb_S), va_D A (WS a) → va_D A (WS b))
    (hb : ∀ (p : Program) (e : Env) (s : State) (m : MethodId) (args : Array Value) (below : List Frame) (meth : Method) (c : Code) (Q : State → Prop) (A : Nat → Prop), mb_C p s m args meth c cc maxL ws' y.cls Z cl D tys A WS → (mb_R p l e rm s m args below meth c Q cl D A WS cc .return_ [] st') → mb_B p l e rm s m args below meth c Q cl D A WS maxL (lv_args 0 av) [] 0 st) : mb_MV l y ws rm Z cl D tys WS av st st' := by
  intro sz
  refine Met.ofW (cc := cc) (maxL := maxL) (ret := none) hy hw ?_
  intro p e s m args below meth c s₁ B hml hv
  obtain ⟨rfl, hsz, hP, hK, hD0, hZ⟩ := hv
  have hlocks := B.notSynchronized
  subst hsz
  have hD := hD0.self (sz := s.heap.size)
  have hr := B.returns
  have hown : s.vm.findClass y.cls = some m.cls := findClass_of_methodNamed B.named
  have hts : ∀ w ∈ ws', w.before av.toArray s = true := fun w h => atoms_spec (ws := ws) B.pre w (by rw [hw]; exact List.mem_cons_of_mem _ h)
  rw [lg_entry_eq]
  refine hb p e s m _ below meth c _ (va_A (WS st) s.heap.size) ⟨⟨B.exec, B.bytes, hml, hown, hts⟩, hK, fun _ => hWS _ _ _ hD, fun q h => Or.inr h, hZ⟩ ?_ _ _ [] (lv_entry av hl) hP va_S.rf
  intro ls H locs pc hd hP' hS
  exact W.vret B.exec B.bytes hr (fun t ht hW => ⟨⟨st', rfl, rfl, by rw [ht]; exact hP', va_K.moved hW.alike hK, hWS _ _ _ hD⟩, hS.F ht⟩) hS.2.2 hd
