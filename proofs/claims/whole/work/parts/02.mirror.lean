abbrev mb_S : Type := (Nat → Int32) × (Nat → Nat → Int32) × (Nat → Nat → Int64)
def mb_F (s : mb_S) (k : Nat) : Int32 := s.1 k
def mb_I (s : mb_S) (k : Nat) : Nat → Int32 := s.2.1 k
def mb_L (s : mb_S) (k : Nat) : Nat → Int64 := s.2.2 k
def mb_setF (s : mb_S) (k : Nat) (v : Int32) : mb_S := (va_up s.1 k v, s.2)
def mb_setI (s : mb_S) (k j : Nat) (v : Int32) : mb_S := (s.1, va_up s.2.1 k (upd (s.2.1 k) j v), s.2.2)
def mb_setL (s : mb_S) (k j : Nat) (v : Int64) : mb_S := (s.1, s.2.1, va_up s.2.2 k (vp_updL (s.2.2 k) j v))
def mb_0 : mb_S := (fun _ => 0, fun _ _ => 0, fun _ _ => 0)
def mb_fuel : Nat := 4294967296
def mb_bnd {α β : Type} (v : α) (k : α → Option β) : Option β := k v
def mb_ld {β : Type} (f : Nat → Int32) (n : Nat) (i : Int32) (k : Int32 → Option β) : Option β := if i < 0 ∨ n ≤ i.toNatClampNeg then none else k (f i.toNatClampNeg)
def mb_ldL {β : Type} (f : Nat → Int64) (n : Nat) (i : Int32) (k : Int64 → Option β) : Option β := if i < 0 ∨ n ≤ i.toNatClampNeg then none else k (f i.toNatClampNeg)
def mb_stI {β : Type} (s : mb_S) (a n : Nat) (i v : Int32) (k : mb_S → Option β) : Option β := if i < 0 ∨ n ≤ i.toNatClampNeg then none else k (mb_setI s a i.toNatClampNeg v)
def mb_stZ {β : Type} (s : mb_S) (a n : Nat) (i v : Int32) (k : mb_S → Option β) : Option β := if i < 0 ∨ n ≤ i.toNatClampNeg then none else if v = 0 ∨ v = 1 then k (mb_setI s a i.toNatClampNeg v) else none
def mb_stL {β : Type} (s : mb_S) (a n : Nat) (i : Int32) (v : Int64) (k : mb_S → Option β) : Option β := if i < 0 ∨ n ≤ i.toNatClampNeg then none else k (mb_setL s a i.toNatClampNeg v)
def mb_putF {β : Type} (s : mb_S) (a : Nat) (v : Int32) (k : mb_S → Option β) : Option β := k (mb_setF s a v)
def mb_putZ {β : Type} (s : mb_S) (a : Nat) (v : Int32) (k : mb_S → Option β) : Option β := if v = 0 ∨ v = 1 then k (mb_setF s a v) else none
def mb_cal {ρ β : Type} (c : Option (ρ × mb_S)) (k : ρ → mb_S → Option β) : Option β := match c with
  | none => none
  | some r => k r.1 r.2
def mb_cal0 {ρ β : Type} (c : Option ρ) (k : ρ → Option β) : Option β := match c with
  | none => none
  | some r => k r
def mb_retZ (v : Int32) (s : mb_S) : Option (Int32 × mb_S) := if v = 0 ∨ v = 1 then some (v, s) else none
def mb_ret0 (v : Int32) : Option Int32 := if v = 0 ∨ v = 1 then some v else none
def mb_filS (s : mb_S) (a n : Nat) (v : Int32) : mb_S := (s.1, va_up s.2.1 a (fun j => if j < n then v else s.2.1 a j), s.2.2)
def mb_fill {β : Type} (s : mb_S) (a n : Nat) (v : Int32) (k : mb_S → Option β) : Option β := k (mb_filS s a n v)
theorem mb_at {α β : Type} {v x : α} {k : α → Option β} {r : β} (e : x = v) (h : mb_bnd v k = some r) : k x = some r := by subst e; exact h
theorem mb_ex {α β : Type} {v : α} {k : α → Option β} {r : β} (h : mb_bnd v k = some r) : ∃ x, v = x ∧ k x = some r := ⟨v, rfl, h⟩
theorem mb_t {β : Type} {c : Prop} [Decidable c] {a b : Option β} {r : β} (hc : c) (h : (if c then a else b) = some r) : a = some r := by rw [if_pos hc] at h; exact h
theorem mb_f {β : Type} {c : Prop} [Decidable c] {a b : Option β} {r : β} (hc : ¬ c) (h : (if c then a else b) = some r) : b = some r := by rw [if_neg hc] at h; exact h
theorem mb_ld_ex {β : Type} {f : Nat → Int32} {n : Nat} {i : Int32} {k : Int32 → Option β} {r : β} (h : mb_ld f n i k = some r) : vp_in i n ∧ k (f i.toNatClampNeg) = some r := by
  unfold mb_ld at h
  by_cases hc : i < 0 ∨ n ≤ i.toNatClampNeg
  · rw [if_pos hc] at h; cases h
  · rw [if_neg hc] at h; exact ⟨hc, h⟩
theorem mb_ldL_ex {β : Type} {f : Nat → Int64} {n : Nat} {i : Int32} {k : Int64 → Option β} {r : β} (h : mb_ldL f n i k = some r) : vp_in i n ∧ k (f i.toNatClampNeg) = some r := by
  unfold mb_ldL at h
  by_cases hc : i < 0 ∨ n ≤ i.toNatClampNeg
  · rw [if_pos hc] at h; cases h
  · rw [if_neg hc] at h; exact ⟨hc, h⟩
theorem mb_stI_ex {β : Type} {s : mb_S} {a n : Nat} {i v : Int32} {k : mb_S → Option β} {r : β} (h : mb_stI s a n i v k = some r) : vp_in i n ∧ k (mb_setI s a i.toNatClampNeg v) = some r := by
  unfold mb_stI at h
  by_cases hc : i < 0 ∨ n ≤ i.toNatClampNeg
  · rw [if_pos hc] at h; cases h
  · rw [if_neg hc] at h; exact ⟨hc, h⟩
theorem mb_stL_ex {β : Type} {s : mb_S} {a n : Nat} {i : Int32} {v : Int64} {k : mb_S → Option β} {r : β} (h : mb_stL s a n i v k = some r) : vp_in i n ∧ k (mb_setL s a i.toNatClampNeg v) = some r := by
  unfold mb_stL at h
  by_cases hc : i < 0 ∨ n ≤ i.toNatClampNeg
  · rw [if_pos hc] at h; cases h
  · rw [if_neg hc] at h; exact ⟨hc, h⟩
theorem mb_stZ_ex {β : Type} {s : mb_S} {a n : Nat} {i v : Int32} {k : mb_S → Option β} {r : β} (h : mb_stZ s a n i v k = some r) : vp_in i n ∧ (v = 0 ∨ v = 1) ∧ k (mb_setI s a i.toNatClampNeg v) = some r := by
  unfold mb_stZ at h
  by_cases hc : i < 0 ∨ n ≤ i.toNatClampNeg
  · rw [if_pos hc] at h; cases h
  · rw [if_neg hc] at h
    by_cases hv : v = 0 ∨ v = 1
    · rw [if_pos hv] at h; exact ⟨hc, hv, h⟩
    · rw [if_neg hv] at h; cases h
theorem mb_putZ_ex {β : Type} {s : mb_S} {a : Nat} {v : Int32} {k : mb_S → Option β} {r : β} (h : mb_putZ s a v k = some r) : (v = 0 ∨ v = 1) ∧ k (mb_setF s a v) = some r := by
  unfold mb_putZ at h
  by_cases hv : v = 0 ∨ v = 1
  · rw [if_pos hv] at h; exact ⟨hv, h⟩
  · rw [if_neg hv] at h; cases h
theorem mb_cal_ex {ρ β : Type} {c : Option (ρ × mb_S)} {k : ρ → mb_S → Option β} {r : β} (h : mb_cal c k = some r) : ∃ (v : ρ) (s : mb_S), c = some (v, s) ∧ k v s = some r := by
  cases c with
  | none => cases h
  | some q => exact ⟨q.1, q.2, rfl, h⟩
theorem mb_cal0_ex {ρ β : Type} {c : Option ρ} {k : ρ → Option β} {r : β} (h : mb_cal0 c k = some r) : ∃ v : ρ, c = some v ∧ k v = some r := by
  cases c with
  | none => cases h
  | some q => exact ⟨q, rfl, h⟩
theorem mb_retZ_ex {v : Int32} {s : mb_S} {r : Int32 × mb_S} (h : mb_retZ v s = some r) : (v = 0 ∨ v = 1) ∧ r = (v, s) := by
  unfold mb_retZ at h
  by_cases hv : v = 0 ∨ v = 1
  · rw [if_pos hv] at h; cases h; exact ⟨hv, rfl⟩
  · rw [if_neg hv] at h; cases h
theorem mb_ret0_ex {v : Int32} {r : Int32} (h : mb_ret0 v = some r) : (v = 0 ∨ v = 1) ∧ r = v := by
  unfold mb_ret0 at h
  by_cases hv : v = 0 ∨ v = 1
  · rw [if_pos hv] at h; cases h; exact ⟨hv, rfl⟩
  · rw [if_neg hv] at h; cases h
theorem mb_narZ {v : Int32} (h : v = 0 ∨ v = 1) : narrow .boolean (.int v) = .int v := by
  rcases h with h | h <;> subst h <;> rfl
theorem mb_fitZ {v : Int32} (h : v = 0 ∨ v = 1) : fits .boolean (.int v) = true := by
  rcases h with h | h <;> subst h <;> rfl
theorem mb_vnZ {v : Int32} (h : v = 0 ∨ v = 1) : vp_nar .boolean v = v := by
  rcases h with h | h <;> subst h <;> rfl
theorem mb_putF_ex {β : Type} {s : mb_S} {a : Nat} {v : Int32} {k : mb_S → Option β} {r : β} (h : mb_putF s a v k = some r) : k (mb_setF s a v) = some r := h
def mb_min (x y : Int32) : Int32 := if y < x then y else x
def mb_max (x y : Int32) : Int32 := if x < y then y else x
def mb_most : Nat → Int32 := fun j => if j = 0 then 6 else if j < 3 then 4 else 32
def mb_Zok (Z : (Nat → Prop) → State → Prop) : Prop := ∀ (A B : Nat → Prop) (s U : State), Z A s → s.vm.Alike U.vm → (∀ q, B q → A q) → (∀ q : Nat, q < s.heap.size → ¬ A q → U.heap[q]? = s.heap[q]?) → Z B U
theorem mb_Z0ok : mb_Zok (fun _ _ => True) := fun _ _ _ _ _ _ _ _ => trivial
def mb_ZX (A : Nat → Prop) (U : State) : Prop := ∃ t : Nat, va_Z "LabelledFlows$Program" "MOST_OF_KIND" "[I" (.ref t) A U U.heap ∧ va_T .int t 11 (fun j => .int (mb_most j)) A U U.heap
theorem mb_ZXok : mb_Zok mb_ZX := by
  intro A B s U h hvm hAB hk
  obtain ⟨t, h1, h2⟩ := h
  exact ⟨t, ((h1.moved hvm).kept hk).narrow hAB, ((h2.moved hvm).kept hk).narrow hAB⟩
def mb_C (p : Program) (s : State) (m : MethodId) (args : Array Value) (meth : Method) (c : Code) (cc : ByteArray) (nL : Nat) (Ts : List Cond) (own : String) (Z : (Nat → Prop) → State → Prop) (cl : List vw_C) (D : va_G) (tys : List (ClassId × FieldType)) (A : Nat → Prop) (WS : mb_S → va_W) : Prop :=
  CallFix p m c cc nL s args Ts own ∧ va_K D cl tys s ∧ (∀ st, va_D A (WS st)) ∧ (∀ q, s.heap.size ≤ q → A q) ∧ Z A s
def mb_B (p : Program) (l : Launch) (e : Env) (R : Room) (s : State) (m : MethodId) (args : Array Value) (below : List Frame) (meth : Method) (c : Code) (Q : State → Prop) (cl : List vw_C) (D : va_G) (A : Nat → Prop) (WS : mb_S → va_W) (nL : Nat) (lv : List (Nat × Value)) (stk : List Value) (pc : Nat) (st : mb_S) : Prop :=
  ∀ (ls : Array Slot) (H : Heap) (locs : List Loc), lv_has ls nL lv → va_P D cl (WS st) H → va_S A s.heap H locs → W p l e R s m args below meth c H locs 0 0 Q (F0 m pc ls stk)
def mb_R (p : Program) (l : Launch) (e : Env) (R : Room) (s : State) (m : MethodId) (args : Array Value) (below : List Frame) (meth : Method) (c : Code) (Q : State → Prop) (cl : List vw_C) (D : va_G) (A : Nat → Prop) (WS : mb_S → va_W) (cc : ByteArray) (op : Instr) (vs : List Value) (st : mb_S) : Prop :=
  ∀ (ls : Array Slot) (H : Heap) (locs : List Loc) (pc : Nat), decode cc pc = .ok (op, 1) → va_P D cl (WS st) H → va_S A s.heap H locs → W p l e R s m args below meth c H locs 0 0 Q (F0 m pc ls vs)
def mb_pre (Z : (Nat → Prop) → State → Prop) (cl : List vw_C) (D : va_G) (tys : List (ClassId × FieldType)) (WS : mb_S → va_W) (av : List Value) (st : mb_S) (sz : Nat) : Array Value → State → Prop :=
  va_Pc av (fun U => U.heap.size = sz ∧ va_P D cl (WS st) U.heap ∧ va_K D cl tys U ∧ va_D (fun _ => True) (WS st) ∧ Z (va_A (WS st) sz) U)
def mb_end (cl : List vw_C) (D : va_G) (tys : List (ClassId × FieldType)) (WS : mb_S → va_W) (A : Nat → Prop) (u : mb_S) (t : State) : Prop := va_P D cl (WS u) t.heap ∧ va_K D cl tys t ∧ va_D A (WS u)
def mb_QI (cl : List vw_C) (D : va_G) (tys : List (ClassId × FieldType)) (WS : mb_S → va_W) (st : mb_S) (v : Int32) (st' : mb_S) (sz : Nat) : Array Value → State → Outcome → State → Prop := va_Qi (fun x (u : mb_S) => x = v ∧ u = st') (mb_end cl D tys WS (va_A (WS st) sz)) (va_A (WS st) sz)
def mb_QL (cl : List vw_C) (D : va_G) (tys : List (ClassId × FieldType)) (WS : mb_S → va_W) (st : mb_S) (v : Int64) (st' : mb_S) (sz : Nat) : Array Value → State → Outcome → State → Prop := va_Ql (fun x (u : mb_S) => x = v ∧ u = st') (mb_end cl D tys WS (va_A (WS st) sz)) (va_A (WS st) sz)
def mb_QV (cl : List vw_C) (D : va_G) (tys : List (ClassId × FieldType)) (WS : mb_S → va_W) (st st' : mb_S) (sz : Nat) : Array Value → State → Outcome → State → Prop := va_Qv (fun (u : mb_S) => u = st') (mb_end cl D tys WS (va_A (WS st) sz)) (va_A (WS st) sz)
def mb_MI (l : Launch) (y : MethodName) (ws : List Cond) (rm : Room) (Z : (Nat → Prop) → State → Prop) (cl : List vw_C) (D : va_G) (tys : List (ClassId × FieldType)) (WS : mb_S → va_W) (av : List Value) (st : mb_S) (v : Int32) (st' : mb_S) : Prop :=
  ∀ sz : Nat, Met l y ws rm (mb_pre Z cl D tys WS av st sz) (mb_QI cl D tys WS st v st' sz) 0 0 (va_A (WS st) sz)
def mb_ML (l : Launch) (y : MethodName) (ws : List Cond) (rm : Room) (Z : (Nat → Prop) → State → Prop) (cl : List vw_C) (D : va_G) (tys : List (ClassId × FieldType)) (WS : mb_S → va_W) (av : List Value) (st : mb_S) (v : Int64) (st' : mb_S) : Prop :=
  ∀ sz : Nat, Met l y ws rm (mb_pre Z cl D tys WS av st sz) (mb_QL cl D tys WS st v st' sz) 0 0 (va_A (WS st) sz)
def mb_MV (l : Launch) (y : MethodName) (ws : List Cond) (rm : Room) (Z : (Nat → Prop) → State → Prop) (cl : List vw_C) (D : va_G) (tys : List (ClassId × FieldType)) (WS : mb_S → va_W) (av : List Value) (st st' : mb_S) : Prop :=
  ∀ sz : Nat, Met l y ws rm (mb_pre Z cl D tys WS av st sz) (mb_QV cl D tys WS st st' sz) 0 0 (va_A (WS st) sz)
theorem mb_Dmap {A : Nat → Prop} {w1 w2 : va_W} (e : w2.map Prod.fst = w1.map Prod.fst) (h : va_D A w1) : va_D A w2 := by
  have key : ∀ (k : Nat) (q : Nat × va_E), w2[k]? = some q → ∃ q' : Nat × va_E, w1[k]? = some q' ∧ q'.1 = q.1 := by
    intro k q hq
    have h1 : (w2.map Prod.fst)[k]? = some q.1 := by rw [List.getElem?_map, hq]; rfl
    rw [e, List.getElem?_map] at h1
    cases hw : w1[k]? with
    | none => rw [hw] at h1; cases h1
    | some q' => rw [hw] at h1; exact ⟨q', rfl, Option.some.inj h1⟩
  refine ⟨fun i j p q hp hq he => ?_, fun k q hq => ?_⟩
  · obtain ⟨p', hp', ep⟩ := key i p hp
    obtain ⟨q', hq', eq⟩ := key j q hq
    exact h.1 i j p' q' hp' hq' (by rw [ep, eq]; exact he)
  · obtain ⟨q', hq', eq⟩ := key k q hq
    rw [← eq]
    exact h.2 k q' hq'
theorem mb_D0ok : ∀ (A : Nat → Prop) (a b : mb_S), va_D A ((fun _ : mb_S => ([] : va_W)) a) → va_D A ((fun _ : mb_S => ([] : va_W)) b) := fun _ _ _ h => h
theorem mb_pay {args a' : Array Value} {s U : State} {w : Cond} (hW : s.WarmedH U.vm) (h : mb_pw w = true) (hb : w.before args s = true) : w.before a' U = true := by
  by_cases hg : goodWord w = true
  · exact word_at hW (good_of_word hg) hb
  · cases w with
    | privateMethod x => exact va_tabs rfl (rfl : (s.setVm U.vm).vm = U.vm) (by rw [Cond.privateMethod_setVm hW.alike]; exact hb)
    | methodLinkNest a i x h' => exact va_Nw.use rfl (va_Nw.warmM hW (va_Nw.of rfl hb))
    | _ => exact absurd ((Bool.or_false _).symm.trans h) hg
theorem lw_good : ∀ w ∈ lw_w, mb_pw w = true := fun w h => (List.mem_filter.mp h).2
theorem mb_payC {y : MethodName} {bytes : ByteArray} {maxL : Nat} {ret : Option FieldType} {args : Array Value} {s : State} (hts : ∀ w ∈ lw_w, w.before args s = true) (h : Cond.code y bytes maxL ret ∈ lw_w) : ∀ w ∈ (Cond.code y bytes maxL ret :: lw_w), ∀ (a' : Array Value) (U : State), s.WarmedH U.vm → w.before a' U = true := fun w hw a' U hW => by
  have hm : w ∈ lw_w := by
    rcases List.mem_cons.mp hw with e | e
    · rw [e]; exact h
    · exact e
  exact mb_pay hW (lw_good w hm) (hts w hm)
theorem mb_len {y : MethodName} {n : Nat} (h2 : (parseMethodDescriptor y.desc).map (fun d => d.parameters.length) = some n) : ∀ sig, parseMethodDescriptor y.desc = some sig → n = sig.parameters.length := fun sig h => by
  rw [h] at h2
  exact (Option.some.inj h2).symm
theorem mb_cwB {R : Room} {s : State} {args : Array Value} {own : String} {index maxL mc ms : Nat} {y : MethodName} {bytes : ByteArray} {ret : Option FieldType} {ws : List Cond} {rm : Room} (n : Nat) (ht : ∀ w ∈ lw_w, w.before args s = true) (h1 : Cond.methodLink own index y ∈ lw_w) (h4 : Cond.initialized y.cls ∈ lw_w) (h5 : Cond.code y bytes maxL ret ∈ lw_w) (hw : ws = Cond.code y bytes maxL ret :: lw_w) (hrc : rm.cells = mc) (hrs : rm.slots = ms)
    (hd : y.cls ≠ "java/lang/invoke/MethodHandle" ∧ y.cls ≠ "java/lang/invoke/VarHandle" ∧ (parseMethodDescriptor y.desc).map (fun d => d.parameters.length) = some n) (hR : rm.frames + 1 ≤ R.frames ∧ 8 + (maxL + 11) + rm.locals ≤ R.locals) : CallB R s args own index y bytes maxL ret ws rm mc ms n := by
  subst hw
  exact ⟨hrc, hrs, hR.1, hR.2, mb_payC ht h5, List.mem_cons_self, ht _ h5, ht _ h4, ⟨hd.1, hd.2.1⟩, mb_len hd.2.2, ht _ h1⟩
theorem mb_cwV {R : Room} {s : State} {args : Array Value} {own C : String} {index maxL mc ms : Nat} {y : MethodName} {bytes : ByteArray} {ret : Option FieldType} {ws : List Cond} {rm : Room} (n : Nat) (ht : ∀ w ∈ lw_w, w.before args s = true) (h1 : Cond.methodLink own index y ∈ lw_w) (h2 : Cond.instanceMethod y ∈ lw_w) (h3 : Cond.selects C y y ∈ lw_w) (h4 : Cond.initialized y.cls ∈ lw_w) (h5 : Cond.code y bytes maxL ret ∈ lw_w) (hw : ws = Cond.code y bytes maxL ret :: lw_w) (hrc : rm.cells = mc) (hrs : rm.slots = ms)
    (hd : y.cls ≠ "java/lang/invoke/MethodHandle" ∧ y.cls ≠ "java/lang/invoke/VarHandle" ∧ (parseMethodDescriptor y.desc).map (fun d => d.parameters.length) = some n) (hR : rm.frames + 1 ≤ R.frames ∧ 8 + (maxL + 11) + rm.locals ≤ R.locals) : CallW R s args own C index y bytes maxL ret ws rm mc ms n :=
  ⟨mb_cwB n ht h1 h4 h5 hw hrc hrs hd hR, ht _ h2, ht _ h3⟩
theorem mb_cwS {R : Room} {s : State} {args : Array Value} {own : String} {index maxL mc ms : Nat} {y : MethodName} {bytes : ByteArray} {ret : Option FieldType} {ws : List Cond} {rm : Room} (n : Nat) (ht : ∀ w ∈ lw_w, w.before args s = true) (h1 : Cond.methodLink own index y ∈ lw_w) (h2 : Cond.static y ∈ lw_w) (h4 : Cond.initialized y.cls ∈ lw_w) (h5 : Cond.code y bytes maxL ret ∈ lw_w) (hw : ws = Cond.code y bytes maxL ret :: lw_w) (hrc : rm.cells = mc) (hrs : rm.slots = ms)
    (hd : y.cls ≠ "java/lang/invoke/MethodHandle" ∧ y.cls ≠ "java/lang/invoke/VarHandle" ∧ (parseMethodDescriptor y.desc).map (fun d => d.parameters.length) = some n) (hR : rm.frames + 1 ≤ R.frames ∧ 8 + (maxL + 11) + rm.locals ≤ R.locals) : CallB R s args own index y bytes maxL ret ws rm mc ms n ∧ (Cond.static y).before args s = true :=
  ⟨mb_cwB n ht h1 h4 h5 hw hrc hrs hd hR, ht _ h2⟩
theorem mb_cn {R : Room} {s : State} {args : Array Value} {own host : String} {index maxL mc ms : Nat} {y : MethodName} {bytes : ByteArray} {ret : Option FieldType} {ws : List Cond} {rm : Room} (n : Nat) (ht : ∀ w ∈ lw_w, w.before args s = true) (h1 : Cond.methodLinkNest own index y host ∈ lw_w) (h2 : Cond.static y ∈ lw_w) (h3 : Cond.initialized y.cls ∈ lw_w) (h5 : Cond.code y bytes maxL ret ∈ lw_w) (hw : ws = Cond.code y bytes maxL ret :: lw_w) (hrc : rm.cells = mc) (hrs : rm.slots = ms)
    (hd : y.cls ≠ "java/lang/invoke/MethodHandle" ∧ y.cls ≠ "java/lang/invoke/VarHandle" ∧ (parseMethodDescriptor y.desc).map (fun d => d.parameters.length) = some n) (hR : rm.frames + 1 ≤ R.frames ∧ 8 + (maxL + 11) + rm.locals ≤ R.locals) : va_CN R s args own index y host bytes maxL ret ws rm mc ms n ∧ (Cond.static y).before args s = true ∧ True := by
  subst hw
  exact ⟨⟨⟨hrc, hrs, hR.1, hR.2, mb_payC ht h5, List.mem_cons_self⟩, ht _ h5, ht _ h3, ⟨hd.1, hd.2.1⟩, mb_len hd.2.2, ht _ h1⟩, ht _ h2, trivial⟩
