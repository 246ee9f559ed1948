def mb_l : List Nat → Nat → Nat
  | [], _ => 0
  | a :: _, 0 => a
  | _ :: l, k + 1 => mb_l l k
def lf_XN : mb_S := mb_filS (mb_filS mb_0 9 4 (-1)) 10 12 (-1)
def lf_mi (a b : Nat) (st : mb_S) : Prop := lf_fr (fun _ => False) (fun k => k = 5 ∨ k = 6) (fun _ => False) mb_0 st ∧ (∀ j, j < a → mb_I st 5 j = -1) ∧ ∀ j, j < b → mb_I st 6 j = -1
theorem lf_mi_0 : lf_mi 0 0 mb_0 := ⟨lf_fr.rf, fun _ h => absurd h (Nat.not_lt_zero _), fun _ h => absurd h (Nat.not_lt_zero _)⟩
theorem ct_blind {cl : List vw_C} {D : va_G} {tys : List (ClassId × FieldType)} {w : va_W} {av : List Value} {sz : Nat} : FrameBlind (va_Pc av (fun U => U.heap.size = sz ∧ va_P D cl w U.heap ∧ va_K D cl tys U ∧ va_D (fun _ => True) w)) := fun a U g mk q => by
  obtain ⟨q0, q1, qP, qK, qD⟩ := q
  exact ⟨q0, q1, qP, va_K.moved (u := U) (U := U.calling g mk a) (Vm.Alike.refl U.vm) qK, qD⟩
section CTR
variable {p : Program} {l : Launch} {e : Env} {R : Room} {s : State} {m : MethodId} {args : Array Value} {below : List Frame} {meth : Method} {c : Code} {H : Heap} {locs : List Loc} {Q : State → Prop}
variable {cc : ByteArray} {nL : Nat} {own : String} {cl : List vw_C} {D : va_G} {tys : List (ClassId × FieldType)} {A : Nat → Prop} {pc : Nat} {ls : Array Slot} {rest : List Value} {ws : va_W} {H0 : Heap} {cells slots : Nat}
theorem ct_arr {ty : FieldType} (hty : ty = .int ∨ ty = .boolean ∨ ty = .long) (h : (Cond.arrayClass ty).before args s = true) : ∃ cA : ClassId, ArrOfT s cA ty ∧ va_RA s cA ty := by
  obtain ⟨cA, kA, comp, hfind, hk, hkind⟩ := Cond.arrayClass_spec h
  refine ⟨cA, fun n z => ⟨fun k h => (by cases h), kA, hk, comp, hkind⟩, ?_⟩
  rcases hty with rfl | rfl | rfl <;> exact hfind
theorem ct_newa (hexec : p.tables.exec = Jvm.exec) (hb : c.code = cc) {atype : ArrayType} {ty : FieldType} (harr : (Cond.arrayClass ty).before args s = true) (hty : newarray.typeOf atype = ty) (hp : ty = .int ∨ ty = .boolean ∨ ty = .long) (hK : va_K D cl tys s) (hP : va_P D cl ws H) (hD : va_D A ws) (hS : va_S A H0 H locs) (hA : ∀ q, H0.size ≤ q → A q) (t0 : Nat) {cA : ClassId} (ht : tys[t0]? = some (cA, ty))
    {n : Int32} {N' : Nat} {a0 : vp_A} (ha : ∀ cA : ClassId, vp_cell cA a0 = arrV cA N' (fun _ => defaultValue ty)) (hn : ¬ n < 0) (hN : n.toNatClampNeg = N') (hbytes : N' * componentBytes ty ≤ 536870912) (hcells : cells + 1 ≤ R.cells) (hslots : slots + N' ≤ R.slots) (hdg : decode cc pc = .ok (.newarray atype, 2))
    (kk : ∀ (q : Nat) (H1 : Heap), va_P D cl (ws ++ [(q, .inl (cA, a0))]) H1 → va_D A (ws ++ [(q, .inl (cA, a0))]) → va_S A H0 H1 locs → W p l e R s m args below meth c H1 locs (cells + 1) (slots + N') Q (F0 m (pc + 2) ls (.ref q :: rest))) : W p l e R s m args below meth c H locs cells slots Q (F0 m pc ls (.int n :: rest)) := by
  refine va_newa hexec hb (by rw [hty]; exact harr) hty hK hP hD hS hA ha hn hN hbytes hcells hslots hdg (fun q cB H1 hK1 hP1 hD1 hS1 => ?_)
  have h1 := (hK1.2 tys.length (cB, ty) (by rw [List.getElem?_append_right (Nat.le_refl _), Nat.sub_self]; rfl)).2
  have h2 := (hK.2 t0 _ ht).2
  have e : cB = cA := by
    rcases hp with rfl | rfl | rfl <;> exact Option.some.inj ((show s.vm.findClass _ = some cB from h1).symm.trans h2)
  subst e
  exact kk q H1 hP1 hD1 hS1
variable {X : Nat → Nat} {cI cZ cJ : ClassId}
set_option maxRecDepth 100000 in
set_option maxHeartbeats 4000000 in
theorem zM_init_210 (S : CallFix p m c c_M_init 2 s args lw_w cnM) (hK : va_K D vwCl [(cI, .int), (cZ, .boolean), (cJ, .long)] s) (hD : ∀ st, va_D A (WM X cI cZ cJ st)) (hend : ∀ (ls : Array Slot) (H : Heap) (locs : List Loc) (st : mb_S), lf_mi 4 12 st → va_P D vwCl (WM X cI cZ cJ st) H → va_S A s.heap H locs → W p l e R s m args below meth c H locs cells slots Q (F0 m 229 ls [])) :
    ∀ (d k : Nat) (st : mb_S) (ls : Array Slot) (H : Heap) (locs : List Loc), k + d = 12 → lf_mi 4 k st → lv_has ls 2 [(1, .int (nI k)), (0, .ref (X 0))] → va_P D vwCl (WM X cI cZ cJ st) H → va_S A s.heap H locs → W p l e R s m args below meth c H locs cells slots Q (F0 m 210 ls []) := by
  obtain ⟨hx, hb, hml, hown, hts⟩ := S
  intro d
  induction d with
  | zero =>
    intro k st ls H locs hkd hmi hl hP hS
    refine lv_iload_n hx hb d_M_init_210 rfl (lv_at hl 0 rfl) ?_
    refine lv_bipush (v := (12 : Int32)) hx hb d_M_init_211 (by decide) ?_
    refine lv_icmp_ge hx hb d_M_init_213 rfl (fun hc => ?_) (fun hc => ?_)
    · rw [show k = 12 by omega] at hmi
      exact hend ls H locs st hmi hP hS
    · exact absurd ((nI_leI (a := 12) (b := k) (by omega) (by omega)).mpr (by omega)) hc
  | succ d ih =>
    intro k st ls H locs hkd hmi hl hP hS
    refine lv_iload_n hx hb d_M_init_210 rfl (lv_at hl 0 rfl) ?_
    refine lv_bipush (v := (12 : Int32)) hx hb d_M_init_211 (by decide) ?_
    refine lv_icmp_ge hx hb d_M_init_213 rfl (fun hc => ?_) (fun hc => ?_)
    · exact absurd ((nI_leI (a := 12) (b := k) (by omega) (by omega)).mp hc) (by omega)
    · refine lv_aload_n hx hb d_M_init_216 rfl (lv_at hl 1 rfl) ?_
      refine va_get (ci := 5) (C := cnM) (T := fTM) (N := 30) hx hb hts uwM hown hK hP 0 rfl rfl 6 (by decide) (hts _ ct_b28) (fun _ h9 => h9) rfl d_M_init_217 ?_
      refine lv_iload_n hx hb d_M_init_220 rfl (lv_at hl 0 rfl) ?_
      refine lv_iconst (v := (-1 : Int32)) hx hb d_M_init_221 (by decide) ?_
      refine va_iast hx hb hK hP (hD st) hS 7 0 rfl rfl (nI_in (show k < 12 by omega) (by decide)) d_M_init_222 (fun H locs hP _ hS => ?_)
      have hP : va_P D vwCl (WM X cI cZ cJ (mb_setI st 6 (nI k).toNatClampNeg (-1))) H := hP
      rw [nI_clamp (show k < 2 ^ 31 by omega)] at hP
      refine lv_iinc (k := 0) (v := nI (k + 1)) (lv' := [(1, .int (nI (k + 1))), (0, .ref (X 0))]) hx hb d_M_init_223 hl rfl (nI_1 k) (by decide) rfl (fun ls hl => ?_)
      refine lv_goto hx hb d_M_init_226 rfl ?_
      refine ih (k + 1) _ ls H locs (by omega) ⟨hmi.1.setI (Or.inr rfl), hmi.2.1, fun j hj => ?_⟩ hl hP hS
      show upd (mb_I st 6) k (-1) j = -1
      rw [pu_upd]
      by_cases ej : j = k
      · rw [if_pos ej]
      · rw [if_neg ej]; exact hmi.2.2 j (by omega)
set_option maxRecDepth 100000 in
set_option maxHeartbeats 4000000 in
theorem zM_init_190 (S : CallFix p m c c_M_init 2 s args lw_w cnM) (hK : va_K D vwCl [(cI, .int), (cZ, .boolean), (cJ, .long)] s) (hD : ∀ st, va_D A (WM X cI cZ cJ st)) (hend : ∀ (ls : Array Slot) (H : Heap) (locs : List Loc) (st : mb_S), lf_mi 4 12 st → va_P D vwCl (WM X cI cZ cJ st) H → va_S A s.heap H locs → W p l e R s m args below meth c H locs cells slots Q (F0 m 229 ls [])) :
    ∀ (d k : Nat) (st : mb_S) (ls : Array Slot) (H : Heap) (locs : List Loc), k + d = 4 → lf_mi k 0 st → lv_has ls 2 [(1, .int (nI k)), (0, .ref (X 0))] → va_P D vwCl (WM X cI cZ cJ st) H → va_S A s.heap H locs → W p l e R s m args below meth c H locs cells slots Q (F0 m 190 ls []) := by
  have S0 := S
  obtain ⟨hx, hb, hml, hown, hts⟩ := S
  intro d
  induction d with
  | zero =>
    intro k st ls H locs hkd hmi hl hP hS
    refine lv_iload_n hx hb d_M_init_190 rfl (lv_at hl 0 rfl) ?_
    refine lv_iconst (v := (4 : Int32)) hx hb d_M_init_191 (by decide) ?_
    refine lv_icmp_ge hx hb d_M_init_192 rfl (fun hc => ?_) (fun hc => ?_)
    · rw [show k = 4 by omega] at hmi
      refine lv_iconst (v := (0 : Int32)) hx hb d_M_init_208 (by decide) ?_
      refine lv_istore_n (lv' := [(1, .int (nI 0)), (0, .ref (X 0))]) hx hb d_M_init_209 rfl hl (by decide) rfl (fun ls hl => ?_)
      exact zM_init_210 S0 hK hD hend 12 0 st ls H locs rfl hmi hl hP hS
    · exact absurd ((nI_leI (a := 4) (b := k) (by omega) (by omega)).mpr (by omega)) hc
  | succ d ih =>
    intro k st ls H locs hkd hmi hl hP hS
    refine lv_iload_n hx hb d_M_init_190 rfl (lv_at hl 0 rfl) ?_
    refine lv_iconst (v := (4 : Int32)) hx hb d_M_init_191 (by decide) ?_
    refine lv_icmp_ge hx hb d_M_init_192 rfl (fun hc => ?_) (fun hc => ?_)
    · exact absurd ((nI_leI (a := 4) (b := k) (by omega) (by omega)).mp hc) (by omega)
    · refine lv_aload_n hx hb d_M_init_195 rfl (lv_at hl 1 rfl) ?_
      refine va_get (ci := 5) (C := cnM) (T := fTM) (N := 30) hx hb hts uwM hown hK hP 0 rfl rfl 5 (by decide) (hts _ ct_b25) (fun _ h9 => h9) rfl d_M_init_196 ?_
      refine lv_iload_n hx hb d_M_init_199 rfl (lv_at hl 0 rfl) ?_
      refine lv_iconst (v := (-1 : Int32)) hx hb d_M_init_200 (by decide) ?_
      refine va_iast hx hb hK hP (hD st) hS 6 0 rfl rfl (nI_in (show k < 4 by omega) (by decide)) d_M_init_201 (fun H locs hP _ hS => ?_)
      have hP : va_P D vwCl (WM X cI cZ cJ (mb_setI st 5 (nI k).toNatClampNeg (-1))) H := hP
      rw [nI_clamp (show k < 2 ^ 31 by omega)] at hP
      refine lv_iinc (k := 0) (v := nI (k + 1)) (lv' := [(1, .int (nI (k + 1))), (0, .ref (X 0))]) hx hb d_M_init_202 hl rfl (nI_1 k) (by decide) rfl (fun ls hl => ?_)
      refine lv_goto hx hb d_M_init_205 rfl ?_
      refine ih (k + 1) _ ls H locs (by omega) ⟨hmi.1.setI (Or.inl rfl), fun j hj => ?_, hmi.2.2⟩ hl hP hS
      show upd (mb_I st 5) k (-1) j = -1
      rw [pu_upd]
      by_cases ej : j = k
      · rw [if_pos ej]
      · rw [if_neg ej]; exact hmi.2.1 j (by omega)
end CTR
