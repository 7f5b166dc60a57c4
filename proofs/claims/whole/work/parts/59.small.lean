/-! the stepper once more, over worlds of N cells: for constructors (by wip/tools/small.py) -/
def g_stp (nW : Nat) (bm : Nat) (fld : Nat → Option e_F) (cal : Nat → Option e_C) (thr : Nat → Option String) (scr : Option (Nat × (Nat → Int32))) (J : Nat → Nat → e_L → List Value → e_H → Prop) (P : Nat → Nat → e_R → e_H → Prop) (pc : Nat) (ins : Instr) (tg : Nat) (vl : Int32) (nx b : Nat) (k : e_L → List Value → e_H → Prop) (lv : e_L) (st : List Value) (h : e_H) : Prop :=
  match ins with
  | .iconst _ => k lv (.int vl :: st) h
  | .bipush _ => k lv (.int vl :: st) h
  | .sipush _ => k lv (.int vl :: st) h
  | .ldc _ => cond (Nat.beq tg 0) (k lv (.int vl :: st) h) False
  | .iload_n _ => k_get lv tg fun v => k_int v fun a => k lv (.int a :: st) h
  | .iload n => k_get lv n fun v => k_int v fun a => k lv (.int a :: st) h
  | .aload_n _ => k_get lv tg fun v => k_ref v fun a => k lv (.ref a :: st) h
  | .aload n => k_get lv n fun v => k_ref v fun a => k lv (.ref a :: st) h
  | .istore_n _ => k_i1 st fun a r => k_put lv tg (.int a) fun lv' => k lv' r h
  | .istore n => k_i1 st fun a r => k_put lv n (.int a) fun lv' => k lv' r h
  | .lload_n _ => k_get lv tg fun v => k_lng v fun a => k lv (.long a :: st) h
  | .lload n => k_get lv n fun v => k_lng v fun a => k lv (.long a :: st) h
  | .lstore_n _ => k_l1 st fun a r => k_put lv tg (.long a) fun lv' => k lv' r h
  | .lstore n => k_l1 st fun a r => k_put lv n (.long a) fun lv' => k lv' r h
  | .lconst _ => k lv (.long vl.toInt64 :: st) h
  | .ldc2_w _ => k lv (.long vl.toInt64 :: st) h
  | .iinc n _ => k_get lv n fun v => k_int v fun a => k_put lv n (.int (a + vl)) fun lv' => k lv' st h
  | .iadd => k_i2 st fun a a2 r => k lv (.int (a + a2) :: r) h
  | .isub => k_i2 st fun a a2 r => k lv (.int (a - a2) :: r) h
  | .imul => k_i2 st fun a a2 r => k lv (.int (a * a2) :: r) h
  | .iand => k_i2 st fun a a2 r => k lv (.int (a &&& a2) :: r) h
  | .ior => k_i2 st fun a a2 r => k lv (.int (a ||| a2) :: r) h
  | .ixor => k_i2 st fun a a2 r => k lv (.int (a ^^^ a2) :: r) h
  | .ishl => k_i2 st fun a a2 r => k lv (.int (a <<< (a2 &&& 31)) :: r) h
  | .ishr => k_i2 st fun a a2 r => k lv (.int (a >>> (a2 &&& 31)) :: r) h
  | .iushr => k_i2 st fun a a2 r => k lv (.int ((a.toUInt32 >>> (a2.toUInt32 &&& Int32.toUInt32 31)).toInt32) :: r) h
  | .idiv => k_i2 st fun a a2 r => (¬ a2 = 0) ∧ J b nx lv (.int (a / a2) :: r) h
  | .irem => k_i2 st fun a a2 r => (¬ a2 = 0) ∧ J b nx lv (.int (a - a / a2 * a2) :: r) h
  | .ineg => k_i1 st fun a r => k lv (.int (-a) :: r) h
  | .i2l => k_i1 st fun a r => k lv (.long a.toInt64 :: r) h
  | .l2i => k_l1 st fun a r => k lv (.int a.toInt32 :: r) h
  | .lneg => k_l1 st fun a r => k lv (.long (-a) :: r) h
  | .ladd => k_l1 st fun y r => k_l1 r fun x r2 => k lv (.long (x + y) :: r2) h
  | .lcmp => k_l1 st fun y r => k_l1 r fun x r2 => k lv (.int (lg_cmp x y) :: r2) h
  | .dup => k_pop st fun v r => cond (Nat.beq v.category 1) (k lv (v :: v :: r) h) False
  | .pop => k_pop st fun v r => cond (Nat.beq v.category 1) (k lv r h) False
  | .dup_x1 => k_pop st fun v r => k_pop r fun w r2 => cond (Nat.beq v.category 1) (cond (Nat.beq w.category 1) (k lv (v :: w :: v :: r2) h) False) False
  | .dup2 => k_pop st fun v r => k_pop r fun w r2 => cond (Nat.beq v.category 1) (cond (Nat.beq w.category 1) (k lv (v :: w :: v :: w :: r2) h) False) False
  | .goto _ => J b tg lv st h
  | .ifCond c _ => k_i1 st fun a r => e_rel c a 0 (J b tg lv r h) (J b nx lv r h)
  | .if_icmp c _ => k_i2 st fun a a2 r => e_rel c a a2 (J b tg lv r h) (J b nx lv r h)
  | .getfield i => k_op0 (fld i) fun q => k_r1 st fun a r => cond (Nat.blt a nW) (k_obj (h a) fun ci fs => cond (Nat.beq ci q.1) (k_nth fs q.2.1 fun v => k lv (v :: r) h) False) False
  | .putfield i => k_op0 (fld i) fun q => k_i1 st fun v r => k_r1 r fun a r2 => cond (Nat.blt a nW) (k_obj (h a) fun ci fs => cond (Nat.beq ci q.1) (cond q.2.2.2 (k_fit q.2.2.1 v (k_upd fs q.2.1 (.int v) fun fs' => J b nx lv r2 (e_set h a (.inr (ci, fs'))))) False) False) False
  | .iaload => k_i1 st fun j r => k_r1 r fun a r2 => cond (Nat.blt a nW) (k_ia (h a) fun t n f => cond (Nat.beq t 0) (vp_in j n ∧ J b nx lv (.int (f j.toNatClampNeg) :: r2) h) False) (cond (Nat.beq a 99) (k_op0 scr fun sc => vp_in j sc.1 ∧ J b nx lv (.int (sc.2 j.toNatClampNeg) :: r2) h) False)
  | .baload => k_i1 st fun j r => k_r1 r fun a r2 => cond (Nat.blt a nW) (k_ia (h a) fun t n f => cond (Nat.beq t 1) (vp_in j n ∧ J b nx lv (.int (f j.toNatClampNeg) :: r2) h) False) False
  | .laload => k_i1 st fun j r => k_r1 r fun a r2 => cond (Nat.blt a nW) (k_la (h a) fun t n f => cond (Nat.beq t 2) (vp_in j n ∧ J b nx lv (.long (f j.toNatClampNeg) :: r2) h) False) False
  | .iastore => k_i1 st fun v r => k_i1 r fun j r1 => k_r1 r1 fun a r2 => cond (Nat.blt a nW) (k_ia (h a) fun t n f => cond (Nat.beq t 0) (vp_in j n ∧ J b nx lv r2 (e_set h a (.inl (t, n, .inl (upd f j.toNatClampNeg v))))) False) False
  | .bastore => k_i1 st fun v r => k_i1 r fun j r1 => k_r1 r1 fun a r2 => cond (Nat.blt a nW) (k_ia (h a) fun t n f => cond (Nat.beq t 1) (vp_in j n ∧ J b nx lv r2 (e_set h a (.inl (t, n, .inl (upd f j.toNatClampNeg (vp_nar .boolean v)))))) False) False
  | .lastore => k_l1 st fun v r => k_i1 r fun j r1 => k_r1 r1 fun a r2 => cond (Nat.blt a nW) (k_la (h a) fun t n f => cond (Nat.beq t 2) (vp_in j n ∧ J b nx lv r2 (e_set h a (.inl (t, n, .inr (.inl (vp_updL f j.toNatClampNeg v)))))) False) False
  | .arraylength => k_r1 st fun a r => cond (Nat.blt a nW) (k_len (h a) fun t n => cond (Nat.blt t 3) (k lv (.int (Int32.ofNat n) :: r) h) False) (cond (Nat.beq a 99) (k_op0 scr fun sc => k lv (.int (Int32.ofNat sc.1) :: r) h) False)
  | .invokestatic _ => k_opt (cal pc) fun C => k_take C.2.1 st [] fun as r => cond (e_dep r 8) (k_call bm b C as h (fun b' v h' => k_ov v (J b' nx lv r h') (fun w => J b' nx lv (w :: r) h')) (fun b' E h' => P b' pc (.inr E) h')) False
  | .invokevirtual _ => k_opt (cal pc) fun C => k_take C.2.1 st [] fun as r => cond (e_dep r 8) (k_call bm b C as h (fun b' v h' => k_ov v (J b' nx lv r h') (fun w => J b' nx lv (w :: r) h')) (fun b' E h' => P b' pc (.inr E) h')) False
  | .invokespecial _ => k_opt (cal pc) fun C => k_take C.2.1 st [] fun as r => cond (e_dep r 8) (k_call bm b C as h (fun b' v h' => k_ov v (J b' nx lv r h') (fun w => J b' nx lv (w :: r) h')) (fun b' E h' => P b' pc (.inr E) h')) False
  | .new _ => k_op0 (thr pc) fun E => cond (e_dep st 8) (k_le (b + 1) bm (P (b + 1) pc (.inr E) h)) False
  | .tableswitch _ lo hi offs => k_i1 st fun a r => ((a.toInt < lo ∨ hi < a.toInt) → J b tg lv r h) ∧ (¬ a.toInt < lo → ¬ hi < a.toInt → ∃ (o : Int) (t : Nat), offs[(a.toInt - lo).toNat]? = some o ∧ (pc : Int) + o = (t : Int) ∧ J b t lv r h)
  | .ireturn => k_i1 st fun a r => k_nil r (k_le b bm (P b pc (.inl (some (.int a))) h))
  | .return_ => k_nil st (k_le b bm (P b pc (.inl none) h))
  | _ => False

def g_blk (nW : Nat) (bm stop : Nat) (fld : Nat → Option e_F) (cal : Nat → Option e_C) (thr : Nat → Option String) (scr : Option (Nat × (Nat → Int32))) (J : Nat → Nat → e_L → List Value → e_H → Prop) (P : Nat → Nat → e_R → e_H → Prop) (b : Nat) : List e_I → e_L → List Value → e_H → Prop
  | [], _, _, _ => False
  | (pc, ins, tg, vl) :: rest, lv, st, h => k_hd rest (pc + e_len ins) fun nx => (g_stp nW) bm fld cal thr scr J P pc ins tg vl nx b (fun lv' st' h' => k_stop stop rest (fun q => J b q lv' st' h') ((g_blk nW) bm stop fld cal thr scr J P b rest lv' st' h')) lv st h

/-- what a method's stops must be closed under: the stepper's stretches; fewer known locals; more objects made -/
def g_Cl (nW : Nat) (bm : Nat) (fld : Nat → Option e_F) (cal : Nat → Option e_C) (thr : Nat → Option String) (scr : Option (Nat × (Nat → Int32))) (code : List e_I) (P : Nat → Nat → e_R → e_H → Prop) (J : Nat → Nat → e_L → List Value → e_H → Prop) : Prop :=
  (∀ stop b pc lv st h, (g_blk nW) bm stop fld cal thr scr J P b (e_at pc code) lv st h → J b pc lv st h) ∧ (∀ b pc lv lv' ks st h, lv_pick lv ks = lv' → e_lok lv' = true → J b pc lv' st h → J b pc lv st h) ∧ (∀ b b' pc lv st h, b ≤ b' → J b' pc lv st h → J b pc lv st h)
theorem g_run {nW : Nat} {bm : Nat} {fld : Nat → Option e_F} {cal : Nat → Option e_C} {thr : Nat → Option String} {scr : Option (Nat × (Nat → Int32))} {code : List e_I} {P : Nat → Nat → e_R → e_H → Prop} {J : Nat → Nat → e_L → List Value → e_H → Prop} (hC : (g_Cl nW) bm fld cal thr scr code P J) {b pc : Nat} {lv : e_L} {st : List Value} {h : e_H} (hb : (g_blk nW) bm 99999 fld cal thr scr J P b (e_at pc code) lv st h) : J b pc lv st h := hC.1 99999 b pc lv st h hb
theorem g_weak {nW : Nat} {bm : Nat} {fld : Nat → Option e_F} {cal : Nat → Option e_C} {thr : Nat → Option String} {scr : Option (Nat × (Nat → Int32))} {code : List e_I} {P : Nat → Nat → e_R → e_H → Prop} {J : Nat → Nat → e_L → List Value → e_H → Prop} (hC : (g_Cl nW) bm fld cal thr scr code P J) {b pc : Nat} {lv lv' : e_L} {st : List Value} {h : e_H} (ks : List Nat) (h1 : lv_pick lv ks = lv') (h2 : e_lok lv' = true) (hb : J b pc lv' st h) : J b pc lv st h := hC.2.1 b pc lv lv' ks st h h1 h2 hb
/-- a stretch up to the instruction at 'stop', a loop's head -/
theorem g_runTo {nW : Nat} (stop : Nat) {bm : Nat} {fld : Nat → Option e_F} {cal : Nat → Option e_C} {thr : Nat → Option String} {scr : Option (Nat × (Nat → Int32))} {code : List e_I} {P : Nat → Nat → e_R → e_H → Prop} {J : Nat → Nat → e_L → List Value → e_H → Prop} (hC : (g_Cl nW) bm fld cal thr scr code P J) {b pc : Nat} {lv : e_L} {st : List Value} {h : e_H} (hb : (g_blk nW) bm stop fld cal thr scr J P b (e_at pc code) lv st h) : J b pc lv st h := hC.1 stop b pc lv st h hb

def g_W (nW : Nat) (ad : Nat → Nat) (tc : Nat → ClassId) (h : e_H) : va_W := (List.range nW).map fun i => (ad i, e_cE ad tc (h i))

theorem g_W_at {nW : Nat} (ad : Nat → Nat) (tc : Nat → ClassId) (h : e_H) {i : Nat} (hi : i < nW) : ((g_W nW) ad tc h)[i]? = some (ad i, e_cE ad tc (h i)) := by
  unfold g_W
  rw [List.getElem?_map, List.getElem?_range hi]
  rfl
theorem g_W_set {nW : Nat} (ad : Nat → Nat) (tc : Nat → ClassId) (h : e_H) {i : Nat} (hi : i < nW) (x : va_E) : ((g_W nW) ad tc h).set i (ad i, e_cE ad tc x) = (g_W nW) ad tc (e_set h i x) := by
  apply List.ext_getElem?
  intro j
  by_cases hj : j < nW
  · rw [g_W_at ad tc _ hj]
    by_cases hji : i = j
    · subst hji
      rw [List.getElem?_set_self (by unfold g_W; simpa using hi)]
      simp [e_set]
    · rw [List.getElem?_set_ne hji, g_W_at ad tc _ hj]
      have : Nat.beq j i = false := by
        cases hq : Nat.beq j i with
        | false => rfl
        | true => exact absurd (Nat.eq_of_beq_eq_true hq).symm hji
      simp only [e_set, this, cond_false]
  · have h1 : (((g_W nW) ad tc h).set i (ad i, e_cE ad tc x)).length ≤ j := by
      rw [List.length_set]; unfold g_W; simp; omega
    have h2 : ((g_W nW) ad tc (e_set h i x)).length ≤ j := by
      unfold g_W; simp; omega
    rw [List.getElem?_eq_none h1, List.getElem?_eq_none h2]

def g_J (nW : Nat) (p : Program) (l : Launch) (e : Env) (R : Room) (s : State) (m : MethodId) (args : Array Value) (below : List Frame) (meth : Method) (c : Code) (Q : State → Prop) (D : va_G) (cl : List vw_C) (A : Nat → Prop) (nL : Nat) (ad : Nat → Nat) (tc : Nat → ClassId) (c0 s0 : Nat) (b pc : Nat) (lv : e_L) (st : List Value) (h : e_H) : Prop :=
  e_lok lv = true → ∀ (H : Heap) (locs : List Loc) (ls : Array Slot), va_P D cl ((g_W nW) ad tc h) H → va_D A ((g_W nW) ad tc h) → va_S A s.heap H locs → lv_has ls nL (e_cl ad lv) →
    W p l e R s m args below meth c H locs (c0 + b) (s0 + 6 * b) Q (F0 m pc ls (st.map (e_cV ad)))
/-- the frame g with the object at q thrown over it comes to a state with Q -/
def g_T (nW : Nat) (p : Program) (l : Launch) (e : Env) (R : Room) (s : State) (m : MethodId) (args : Array Value) (below : List Frame) (meth : Method) (c : Code) (H : Heap) (locs : List Loc) (cells slots : Nat) (Q : State → Prop) (g : JFrame) (q : Nat) : Prop :=
  ∀ T : State, T.heap = H → Stand p l e R s m args below meth c T locs cells slots → ∃ t, Steps p.tables e below ((T.setTop g).pushFrame (.throwing q)) t ∧ Q t
def g_X (nW : Nat) (p : Program) (l : Launch) (e : Env) (R : Room) (s : State) (m : MethodId) (args : Array Value) (below : List Frame) (meth : Method) (c : Code) (Q : State → Prop) (D : va_G) (cl : List vw_C) (A : Nat → Prop) (nL : Nat) (ad : Nat → Nat) (tc : Nat → ClassId) (c0 s0 : Nat) (b pc : Nat) (lv : e_L) (E : String) (h : e_H) : Prop :=
  e_lok lv = true → ∀ (H : Heap) (locs : List Loc) (ls : Array Slot) (q : Nat) (ce : Cell) (rest : List Value), va_P D cl ((g_W nW) ad tc h) H → va_D A ((g_W nW) ad tc h) → va_S A s.heap H locs → lv_has ls nL (e_cl ad lv) → H[q]? = some ce → ce.vm = .none → s.vm.findClass E = some ce.cls →
    (g_T nW) p l e R s m args below meth c H locs (c0 + b) (s0 + 6 * b) Q (F0 m pc ls rest) q

def g_Ctx (nW : Nat) (p : Program) (l : Launch) (e : Env) (R : Room) (s : State) (m : MethodId) (args : Array Value) (below : List Frame) (meth : Method) (c : Code) (Q : State → Prop) (D : va_G) (cl : List vw_C) (A : Nat → Prop) (nL : Nat) (ad : Nat → Nat) (tc : Nat → ClassId) (c0 s0 : Nat)
    (cc : ByteArray) (tys : List (ClassId × FieldType)) (own : String) (Ts : List Cond) (bm : Nat) (fld : Nat → Option e_F) (cst : Nat → Option Int32) (cal : Nat → Option e_C) (thr : Nat → Option String) (scr : Option (Nat × (Nat → Int32))) (P : Nat → Nat → e_R → e_H → Prop) : Prop :=
  p.tables.exec = Jvm.exec ∧ c.code = cc ∧ s.vm.findClass own = some m.cls ∧ (∀ w ∈ Ts, w.before args s = true) ∧ va_K D cl tys s ∧ tys[0]? = some (tc 0, .int) ∧ tys[1]? = some (tc 1, .boolean) ∧ tys[2]? = some (tc 2, .long) ∧
  (∀ i v, i < 100000 → cst i = some v → (Jvm.Cond.constant own i v).before args s = true) ∧ (∀ i v, cst (i + 100000) = some v → (Jvm.Cond.constantLong own i v.toInt64).before args s = true) ∧ (∀ i q, fld i = some q → e_fok s args cl own Ts i q) ∧
  (∀ pc C, cal pc = some C → ∀ (a : C.1) (b : Nat) (lv : e_L) (r : List Value), C.2.2.2.1 a → (C.2.2.2.2.1 a).length = C.2.1 → e_dep r 8 = true → b + C.2.2.1 a ≤ bm →
    (∀ v, C.2.2.2.2.2.2.1 a = .inl v → (g_J nW) p l e R s m args below meth c Q D cl A nL ad tc c0 s0 (b + C.2.2.1 a) (pc + 3) lv (v.toList ++ r) (C.2.2.2.2.2.2.2 a)) →
    (∀ E, C.2.2.2.2.2.2.1 a = .inr E → (g_X nW) p l e R s m args below meth c Q D cl A nL ad tc c0 s0 (b + C.2.2.1 a) pc lv E (C.2.2.2.2.2.2.2 a)) →
    (g_J nW) p l e R s m args below meth c Q D cl A nL ad tc c0 s0 b pc lv ((C.2.2.2.2.1 a).reverse ++ r) (C.2.2.2.2.2.1 a)) ∧
  (∀ pc E, thr pc = some E → ∀ b lv st h, e_dep st 8 = true → b + 1 ≤ bm → P (b + 1) pc (.inr E) h → (g_J nW) p l e R s m args below meth c Q D cl A nL ad tc c0 s0 b pc lv st h) ∧
  (∀ b pc E h lv, P b pc (.inr E) h → (g_X nW) p l e R s m args below meth c Q D cl A nL ad tc c0 s0 b pc lv E h) ∧
  (∀ b pc x h lv, decode cc pc = .ok (.ireturn, 1) → b ≤ bm → P b pc (.inl (some (.int x))) h → (g_J nW) p l e R s m args below meth c Q D cl A nL ad tc c0 s0 b pc lv [.int x] h) ∧
  (∀ b pc h lv, decode cc pc = .ok (.return_, 1) → b ≤ bm → P b pc (.inl none) h → (g_J nW) p l e R s m args below meth c Q D cl A nL ad tc c0 s0 b pc lv [] h) ∧
  (∀ sc, scr = some sc → va_X (ad 99) sc.1 sc.2 s s.heap ∧ ad 99 < s.heap.size ∧ ¬ A (ad 99))

section ESTEP
variable {p : Program} {l : Launch} {e : Env} {R : Room} {s : State} {m : MethodId} {args : Array Value} {below : List Frame} {meth : Method} {c : Code} {Q : State → Prop} {D : va_G} {cl : List vw_C} {A : Nat → Prop} {nL : Nat} {ad : Nat → Nat} {tc : Nat → ClassId} {c0 s0 : Nat} {cc : ByteArray} {tys : List (ClassId × FieldType)} {own : String} {Ts : List Cond} {bm : Nat} {fld : Nat → Option e_F} {cst : Nat → Option Int32} {cal : Nat → Option e_C} {thr : Nat → Option String} {scr : Option (Nat × (Nat → Int32))} {P : Nat → Nat → e_R → e_H → Prop}
theorem g_store {nW : Nat} {b nx : Nat} {lv : e_L} {h : e_H} {r : List Value} {i : Nat} {v : Int32} {k : e_L → List Value → e_H → Prop} (hk : ∀ lv st h, k lv st h → (g_J nW) p l e R s m args below meth c Q D cl A nL ad tc c0 s0 b nx lv st h)
    (hs : k_put lv i (.int v) fun lv' => k lv' r h) (hl0 : e_lok lv = true) {H : Heap} {locs : List Loc} (hP : va_P D cl ((g_W nW) ad tc h) H) (hD : va_D A ((g_W nW) ad tc h)) (hS : va_S A s.heap H locs) {ls' : Array Slot}
    (hl : lv_has ls' nL ((i, Value.int v) :: (e_cl ad lv).filter (fun q => !(q.1 == i) && !(q.1 + 1 == i && q.2.category == 2)))) :
    W p l e R s m args below meth c H locs (c0 + b) (s0 + 6 * b) Q (F0 m nx ls' (r.map (e_cV ad))) := by
  obtain ⟨lv', h1, h2, h3⟩ := s_put (lo := 0) hs hl0 (Nat.zero_le _)
  exact hk lv' r h h1 h2 H locs ls' hP hD hS (e_has (v := .int v) hl rfl h3)
theorem g_store2 {nW : Nat} {b nx : Nat} {lv : e_L} {h : e_H} {r : List Value} {i : Nat} {v : Int64} {k : e_L → List Value → e_H → Prop} (hk : ∀ lv st h, k lv st h → (g_J nW) p l e R s m args below meth c Q D cl A nL ad tc c0 s0 b nx lv st h)
    (hs : k_put lv i (.long v) fun lv' => k lv' r h) (hl0 : e_lok lv = true) {H : Heap} {locs : List Loc} (hP : va_P D cl ((g_W nW) ad tc h) H) (hD : va_D A ((g_W nW) ad tc h)) (hS : va_S A s.heap H locs) {ls' : Array Slot}
    (hl : lv_has ls' nL ((i, Value.long v) :: (e_cl ad lv).filter (fun q => !(q.1 == i) && (!(q.1 == i + 1) && !(q.1 + 1 == i && q.2.category == 2))))) :
    W p l e R s m args below meth c H locs (c0 + b) (s0 + 6 * b) Q (F0 m nx ls' (r.map (e_cV ad))) := by
  obtain ⟨lv', h1, h2, h3⟩ := s_put (lo := 0) hs hl0 (Nat.zero_le _)
  exact hk lv' r h h1 h2 H locs ls' hP hD hS (e_has2 (v := .long v) hl rfl h3)

set_option maxHeartbeats 4000000 in
set_option maxRecDepth 100000 in
theorem g_stp_ok {nW : Nat} (Γ : (g_Ctx nW) p l e R s m args below meth c Q D cl A nL ad tc c0 s0 cc tys own Ts bm fld cst cal thr scr P) (x : e_I) (hok : e_okI cc nL cst x = true) {nx b : Nat} (hnx : nx = e_nx x) {k : e_L → List Value → e_H → Prop} (hk : ∀ lv st h, k lv st h → (g_J nW) p l e R s m args below meth c Q D cl A nL ad tc c0 s0 b nx lv st h) {lv : e_L} {st : List Value} {h : e_H}
    (hs0 : (g_stp nW) bm fld cal thr scr ((g_J nW) p l e R s m args below meth c Q D cl A nL ad tc c0 s0) P x.1 x.2.1 x.2.2.1 x.2.2.2 nx b k lv st h) : (g_J nW) p l e R s m args below meth c Q D cl A nL ad tc c0 s0 b x.1 lv st h := by
  obtain ⟨hx, hb, hown, hts, hK, ht0, ht1, ht2, hcst, hcsl, hfld, hcal, hthr, hPX, hret, hrtv, hscr⟩ := Γ
  obtain ⟨pc, ins, tg, vl⟩ := x
  have hok' : (decide (decode cc pc = .ok (ins, e_len ins)) && e_okV nL cst pc ins tg vl) = true := hok
  rw [Bool.and_eq_true] at hok'
  obtain ⟨hd0, hv⟩ := hok'
  have hd := of_decide_eq_true hd0
  clear hd0 hok
  have hnx2 : nx = pc + e_len ins := hnx
  clear hnx
  subst hnx2
  show (g_J nW) p l e R s m args below meth c Q D cl A nL ad tc c0 s0 b pc lv st h
  have hs : (g_stp nW) bm fld cal thr scr ((g_J nW) p l e R s m args below meth c Q D cl A nL ad tc c0 s0) P pc ins tg vl (pc + e_len ins) b k lv st h := hs0
  clear hs0
  cases ins <;> first | exact False.elim hs | skip
  case iconst n =>
    intro hl0 H locs ls hP hD hS hl
    exact lv_iconst hx hb hd (of_decide_eq_true hv) (hk _ _ _ hs hl0 H locs ls hP hD hS hl)
  case bipush n =>
    intro hl0 H locs ls hP hD hS hl
    exact lv_bipush hx hb hd (of_decide_eq_true hv) (hk _ _ _ hs hl0 H locs ls hP hD hS hl)
  case sipush n =>
    intro hl0 H locs ls hP hD hS hl
    exact lv_sipush hx hb hd (of_decide_eq_true hv) (hk _ _ _ hs hl0 H locs ls hP hD hS hl)
  case ldc n =>
    obtain ⟨h1, hs1⟩ := s_cond hs
    intro hl0 H locs ls hP hD hS hl
    have hv1 : (!Nat.beq tg 0 || decide (cst n = some vl ∧ n < 100000)) = true := hv
    rw [h1] at hv1
    have hv := of_decide_eq_true hv1
    exact lv_ldc hx hb hown (hcst n vl hv.2 hv.1) hd (hk _ _ _ hs1 hl0 H locs ls hP hD hS hl)
  case lconst n =>
    intro hl0 H locs ls hP hD hS hl
    exact lv_lconst hx hb hd (of_decide_eq_true hv) (hk _ _ _ hs hl0 H locs ls hP hD hS hl)
  case ldc2_w n =>
    intro hl0 H locs ls hP hD hS hl
    exact lv_ldc2 hx hb hown (hcsl n vl (of_decide_eq_true hv)) hd (hk _ _ _ hs hl0 H locs ls hP hD hS hl)
  case lload_n n =>
    obtain ⟨v, h1, hs1⟩ := s_get hs
    obtain ⟨a, rfl, hs2⟩ := s_lng hs1
    intro hl0 H locs ls hP hD hS hl
    exact lv_lload_n hx hb hd (of_decide_eq_true hv) (e_loc hl h1) (hk _ _ _ hs2 hl0 H locs ls hP hD hS hl)
  case lload n =>
    obtain ⟨v, h1, hs1⟩ := s_get hs
    obtain ⟨a, rfl, hs2⟩ := s_lng hs1
    intro hl0 H locs ls hP hD hS hl
    exact lv_lload hx hb hd (e_loc hl h1) (hk _ _ _ hs2 hl0 H locs ls hP hD hS hl)
  case lstore_n n =>
    obtain ⟨a, r, rfl, hs1⟩ := s_l1 hs
    intro hl0 H locs ls hP hD hS hl
    have hv2 := of_decide_eq_true hv
    exact lv_lstore_n hx hb hd hv2.1 hl hv2.2 rfl (fun ls' hl' => g_store2 hk hs1 hl0 hP hD hS hl')
  case lstore n =>
    obtain ⟨a, r, rfl, hs1⟩ := s_l1 hs
    intro hl0 H locs ls hP hD hS hl
    exact lv_lstore hx hb hd hl (of_decide_eq_true hv) rfl (fun ls' hl' => g_store2 hk hs1 hl0 hP hD hS hl')
  case l2i =>
    obtain ⟨a, r, rfl, hs1⟩ := s_l1 hs
    intro hl0 H locs ls hP hD hS hl
    exact lv_l2i hx hb hd rfl (hk _ _ _ hs1 hl0 H locs ls hP hD hS hl)
  case lneg =>
    obtain ⟨a, r, rfl, hs1⟩ := s_l1 hs
    intro hl0 H locs ls hP hD hS hl
    exact lv_lneg hx hb hd (hk _ _ _ hs1 hl0 H locs ls hP hD hS hl)
  case ladd =>
    obtain ⟨a2, r, rfl, hs1⟩ := s_l1 hs
    obtain ⟨a, r2, rfl, hs2⟩ := s_l1 hs1
    intro hl0 H locs ls hP hD hS hl
    exact lv_ladd hx hb hd (hk _ _ _ hs2 hl0 H locs ls hP hD hS hl)
  case iload_n n =>
    obtain ⟨v, h1, hs1⟩ := s_get hs
    obtain ⟨a, rfl, hs2⟩ := s_int hs1
    intro hl0 H locs ls hP hD hS hl
    exact lv_iload_n hx hb hd (of_decide_eq_true hv) (e_loc hl h1) (hk _ _ _ hs2 hl0 H locs ls hP hD hS hl)
  case aload_n n =>
    obtain ⟨v, h1, hs1⟩ := s_get hs
    obtain ⟨a, rfl, hs2⟩ := s_ref hs1
    intro hl0 H locs ls hP hD hS hl
    exact lv_aload_n hx hb hd (of_decide_eq_true hv) (e_loc hl h1) (hk _ _ _ hs2 hl0 H locs ls hP hD hS hl)
  case iload n =>
    obtain ⟨v, h1, hs1⟩ := s_get hs
    obtain ⟨a, rfl, hs2⟩ := s_int hs1
    intro hl0 H locs ls hP hD hS hl
    exact lv_iload hx hb hd (e_loc hl h1) (hk _ _ _ hs2 hl0 H locs ls hP hD hS hl)
  case aload n =>
    obtain ⟨v, h1, hs1⟩ := s_get hs
    obtain ⟨a, rfl, hs2⟩ := s_ref hs1
    intro hl0 H locs ls hP hD hS hl
    exact lv_aload hx hb hd (e_loc hl h1) (hk _ _ _ hs2 hl0 H locs ls hP hD hS hl)
  case istore_n n =>
    obtain ⟨a, r, rfl, hs1⟩ := s_i1 hs
    intro hl0 H locs ls hP hD hS hl
    have hv2 := of_decide_eq_true hv
    exact lv_istore_n hx hb hd hv2.1 hl hv2.2 rfl (fun ls' hl' => g_store hk hs1 hl0 hP hD hS hl')
  case istore n =>
    obtain ⟨a, r, rfl, hs1⟩ := s_i1 hs
    intro hl0 H locs ls hP hD hS hl
    exact lv_istore hx hb hd hl (of_decide_eq_true hv) rfl (fun ls' hl' => g_store hk hs1 hl0 hP hD hS hl')
  case iinc n z =>
    obtain ⟨v, h1, hs1⟩ := s_get hs
    obtain ⟨a, rfl, hs2⟩ := s_int hs1
    intro hl0 H locs ls hP hD hS hl
    have hz : Int32.ofInt z = vl := of_decide_eq_true hv
    obtain ⟨j, hj⟩ := List.getElem?_of_mem (List.mem_map.mpr ⟨(n, Value.int a), h1, rfl⟩ : (n, e_cV ad (.int a)) ∈ e_cl ad lv)
    have hn : n < nL := by rw [← hl.1]; exact lv_lt (e_loc hl h1)
    exact lv_iinc hx hb hd hl hj (by rw [hz]) hn rfl (fun ls' hl' => g_store hk hs2 hl0 hP hD hS hl')
  case iadd =>
    obtain ⟨a, a2, r, rfl, hs1⟩ := s_i2 hs
    intro hl0 H locs ls hP hD hS hl
    exact lv_iadd hx hb hd (hk _ _ _ hs1 hl0 H locs ls hP hD hS hl)
  case isub =>
    obtain ⟨a, a2, r, rfl, hs1⟩ := s_i2 hs
    intro hl0 H locs ls hP hD hS hl
    exact lv_isub hx hb hd (hk _ _ _ hs1 hl0 H locs ls hP hD hS hl)
  case imul =>
    obtain ⟨a, a2, r, rfl, hs1⟩ := s_i2 hs
    intro hl0 H locs ls hP hD hS hl
    exact lv_imul hx hb hd (hk _ _ _ hs1 hl0 H locs ls hP hD hS hl)
  case iand =>
    obtain ⟨a, a2, r, rfl, hs1⟩ := s_i2 hs
    intro hl0 H locs ls hP hD hS hl
    exact lv_iand hx hb hd (hk _ _ _ hs1 hl0 H locs ls hP hD hS hl)
  case ior =>
    obtain ⟨a, a2, r, rfl, hs1⟩ := s_i2 hs
    intro hl0 H locs ls hP hD hS hl
    exact lv_ior hx hb hd (hk _ _ _ hs1 hl0 H locs ls hP hD hS hl)
  case ixor =>
    obtain ⟨a, a2, r, rfl, hs1⟩ := s_i2 hs
    intro hl0 H locs ls hP hD hS hl
    exact lv_ixor hx hb hd (hk _ _ _ hs1 hl0 H locs ls hP hD hS hl)
  case ishl =>
    obtain ⟨a, a2, r, rfl, hs1⟩ := s_i2 hs
    intro hl0 H locs ls hP hD hS hl
    exact lv_ishl hx hb hd (hk _ _ _ hs1 hl0 H locs ls hP hD hS hl)
  case ishr =>
    obtain ⟨a, a2, r, rfl, hs1⟩ := s_i2 hs
    intro hl0 H locs ls hP hD hS hl
    exact lv_ishr hx hb hd (hk _ _ _ hs1 hl0 H locs ls hP hD hS hl)
  case iushr =>
    obtain ⟨a, a2, r, rfl, hs1⟩ := s_i2 hs
    intro hl0 H locs ls hP hD hS hl
    exact lv_iushr hx hb hd rfl (hk _ _ _ hs1 hl0 H locs ls hP hD hS hl)
  case idiv =>
    obtain ⟨a, a2, r, rfl, hs1⟩ := s_i2 hs
    intro hl0 H locs ls hP hD hS hl
    exact lv_idiv hx hb hd hs1.1 (hs1.2 hl0 H locs ls hP hD hS hl)
  case irem =>
    obtain ⟨a, a2, r, rfl, hs1⟩ := s_i2 hs
    intro hl0 H locs ls hP hD hS hl
    exact lv_irem hx hb hd hs1.1 (hs1.2 hl0 H locs ls hP hD hS hl)
  case ineg =>
    obtain ⟨a, r, rfl, hs1⟩ := s_i1 hs
    intro hl0 H locs ls hP hD hS hl
    exact lv_ineg hx hb hd (hk _ _ _ hs1 hl0 H locs ls hP hD hS hl)
  case i2l =>
    obtain ⟨a, r, rfl, hs1⟩ := s_i1 hs
    intro hl0 H locs ls hP hD hS hl
    exact lv_i2l hx hb hd rfl (hk _ _ _ hs1 hl0 H locs ls hP hD hS hl)
  case lcmp =>
    obtain ⟨a2, r, rfl, hs1⟩ := s_l1 hs
    obtain ⟨a, r2, rfl, hs2⟩ := s_l1 hs1
    intro hl0 H locs ls hP hD hS hl
    exact W.lcmp hx hb hd (hk _ _ _ hs2 hl0 H locs ls hP hD hS hl)
  case dup =>
    obtain ⟨v, r, rfl, hs1⟩ := s_pop hs
    obtain ⟨h1, hs2⟩ := s_cond hs1
    intro hl0 H locs ls hP hD hS hl
    exact lv_dup hx hb hd ((e_cat ad v).trans (Nat.eq_of_beq_eq_true h1)) (hk _ _ _ hs2 hl0 H locs ls hP hD hS hl)
  case pop =>
    obtain ⟨v, r, rfl, hs1⟩ := s_pop hs
    obtain ⟨h1, hs2⟩ := s_cond hs1
    intro hl0 H locs ls hP hD hS hl
    exact lv_pop hx hb hd ((e_cat ad v).trans (Nat.eq_of_beq_eq_true h1)) (hk _ _ _ hs2 hl0 H locs ls hP hD hS hl)
  case dup_x1 =>
    obtain ⟨v, r, rfl, hs1⟩ := s_pop hs
    obtain ⟨w, r2, rfl, hs2⟩ := s_pop hs1
    obtain ⟨h1, hs3⟩ := s_cond hs2
    obtain ⟨h2, hs4⟩ := s_cond hs3
    intro hl0 H locs ls hP hD hS hl
    exact lv_dup_x1 hx hb hd ((e_cat ad v).trans (Nat.eq_of_beq_eq_true h1)) ((e_cat ad w).trans (Nat.eq_of_beq_eq_true h2)) (hk _ _ _ hs4 hl0 H locs ls hP hD hS hl)
  case dup2 =>
    obtain ⟨v, r, rfl, hs1⟩ := s_pop hs
    obtain ⟨w, r2, rfl, hs2⟩ := s_pop hs1
    obtain ⟨h1, hs3⟩ := s_cond hs2
    obtain ⟨h2, hs4⟩ := s_cond hs3
    intro hl0 H locs ls hP hD hS hl
    exact lv_dup2_11 hx hb hd ((e_cat ad v).trans (Nat.eq_of_beq_eq_true h1)) ((e_cat ad w).trans (Nat.eq_of_beq_eq_true h2)) (hk _ _ _ hs4 hl0 H locs ls hP hD hS hl)
  case goto o =>
    intro hl0 H locs ls hP hD hS hl
    exact lv_goto hx hb hd (of_decide_eq_true hv) (hs hl0 H locs ls hP hD hS hl)
  case ifCond q o =>
    obtain ⟨a, r, rfl, hs1⟩ := s_i1 hs
    have ht : (pc : Int) + o = (tg : Int) := of_decide_eq_true hv
    intro hl0 H locs ls hP hD hS hl
    cases q with
    | eq => exact lv_if_eq hx hb hd ht (fun z => hs1.1 z hl0 H locs ls hP hD hS hl) (fun z => hs1.2 z hl0 H locs ls hP hD hS hl)
    | ne => exact lv_if_ne hx hb hd ht (fun z => hs1.1 z hl0 H locs ls hP hD hS hl) (fun z => hs1.2 z hl0 H locs ls hP hD hS hl)
    | lt => exact lv_if_lt hx hb hd ht (fun z => hs1.1 z hl0 H locs ls hP hD hS hl) (fun z => hs1.2 z hl0 H locs ls hP hD hS hl)
    | ge => exact lv_if_ge hx hb hd ht (fun z => hs1.1 z hl0 H locs ls hP hD hS hl) (fun z => hs1.2 z hl0 H locs ls hP hD hS hl)
    | gt => exact lv_if_gt hx hb hd ht (fun z => hs1.1 z hl0 H locs ls hP hD hS hl) (fun z => hs1.2 z hl0 H locs ls hP hD hS hl)
    | le => exact lv_if_le hx hb hd ht (fun z => hs1.1 z hl0 H locs ls hP hD hS hl) (fun z => hs1.2 z hl0 H locs ls hP hD hS hl)
  case if_icmp q o =>
    obtain ⟨a, a2, r, rfl, hs1⟩ := s_i2 hs
    have ht : (pc : Int) + o = (tg : Int) := of_decide_eq_true hv
    intro hl0 H locs ls hP hD hS hl
    cases q with
    | eq => exact lv_icmp_eq hx hb hd ht (fun z => hs1.1 z hl0 H locs ls hP hD hS hl) (fun z => hs1.2 z hl0 H locs ls hP hD hS hl)
    | ne => exact lv_icmp_ne hx hb hd ht (fun z => hs1.1 z hl0 H locs ls hP hD hS hl) (fun z => hs1.2 z hl0 H locs ls hP hD hS hl)
    | lt => exact lv_icmp_lt hx hb hd ht (fun z => hs1.1 z hl0 H locs ls hP hD hS hl) (fun z => hs1.2 z hl0 H locs ls hP hD hS hl)
    | ge => exact lv_icmp_ge hx hb hd ht (fun z => hs1.1 z hl0 H locs ls hP hD hS hl) (fun z => hs1.2 z hl0 H locs ls hP hD hS hl)
    | gt => exact lv_icmp_gt hx hb hd ht (fun z => hs1.1 z hl0 H locs ls hP hD hS hl) (fun z => hs1.2 z hl0 H locs ls hP hD hS hl)
    | le => exact lv_icmp_le hx hb hd ht (fun z => hs1.1 z hl0 H locs ls hP hD hS hl) (fun z => hs1.2 z hl0 H locs ls hP hD hS hl)
  case getfield i =>
    obtain ⟨q, hq, hs1⟩ := s_op0 hs
    obtain ⟨a, r, rfl, hs2⟩ := s_r1 hs1
    obtain ⟨hn, hs3⟩ := s_cond hs2
    obtain ⟨ci, fs, ho, hs4⟩ := s_obj hs3
    obtain ⟨hc, hs5⟩ := s_cond hs4
    obtain ⟨v, hv1, hs6⟩ := s_nth hs5
    have hn : a < nW := Nat.le_of_ble_eq_true hn
    have hc : ci = q.1 := Nat.eq_of_beq_eq_true hc
    subst hc
    obtain ⟨C, T, N, ref, ty0, f1, f2, f3, f4, f5, f6, f7, f8, f9⟩ := hfld i q hq
    intro hl0 H locs ls hP hD hS hl
    have he : ((g_W nW) ad tc h)[a]? = some (ad a, .inr (q.1, fs.map (e_cV ad))) := by rw [g_W_at ad tc h hn, ho]; rfl
    exact va_get hx hb hts f3 hown hK hP a he f1 q.2.1 f2 f4 f5 (v := e_cV ad v) (by rw [List.getElem?_map, hv1]; rfl) hd (hk _ _ _ hs6 hl0 H locs ls hP hD hS hl)
  case putfield i =>
    obtain ⟨q, hq, hs1⟩ := s_op0 hs
    obtain ⟨v, r, rfl, hs2⟩ := s_i1 hs1
    obtain ⟨a, r2, rfl, hs3⟩ := s_r1 hs2
    obtain ⟨hn, hs4⟩ := s_cond hs3
    obtain ⟨ci, fs, ho, hs5⟩ := s_obj hs4
    obtain ⟨hc, hs6⟩ := s_cond hs5
    obtain ⟨hw, hs7⟩ := s_cond hs6
    obtain ⟨g1, g2, hs8⟩ := s_fit hs7
    obtain ⟨g3, hs9⟩ := s_upd hs8
    have hn : a < nW := Nat.le_of_ble_eq_true hn
    have hc : ci = q.1 := Nat.eq_of_beq_eq_true hc
    subst hc
    obtain ⟨C, T, N, ref, ty0, f1, f2, f3, f4, f5, f6, f7, f8, f9⟩ := hfld i q hq
    intro hl0 H locs ls hP hD hS hl
    have he : ((g_W nW) ad tc h)[a]? = some (ad a, .inr (q.1, fs.map (e_cV ad))) := by rw [g_W_at ad tc h hn, ho]; rfl
    have hset : ((g_W nW) ad tc h).set a (ad a, .inr (q.1, (fs.map (e_cV ad)).set q.2.1 (.int v))) = (g_W nW) ad tc (e_set h a (.inr (q.1, fs.set q.2.1 (.int v)))) := by
      rw [← g_W_set ad tc h hn (.inr (q.1, fs.set q.2.1 (.int v)))]
      simp only [e_cE, List.map_set, e_cV]
    refine va_put hx hb hts f3 ty0 f8 f9 hown hK hP hD hS a he f1 q.2.1 f2 f4 f5 (f7 hw) (v := .int v) f6 g1 g2 (by rw [List.length_map]; exact g3) hd (fun H1 locs1 hP1 hD1 hS1 => ?_)
    rw [hset] at hP1 hD1
    exact hs9 hl0 H1 locs1 ls hP1 hD1 hS1 hl
  case iaload =>
    obtain ⟨j, r, rfl, hs1⟩ := s_i1 hs
    obtain ⟨a, r2, rfl, hs2⟩ := s_r1 hs1
    rcases s_cond2 hs2 with ⟨hn, hs3⟩ | ⟨hn, hs3⟩
    · obtain ⟨t, n, f, ho, hs4⟩ := s_ia hs3
      obtain ⟨h2, hs5⟩ := s_cond hs4
      have h2 : t = 0 := Nat.eq_of_beq_eq_true h2
      subst h2
      have hn : a < nW := Nat.le_of_ble_eq_true hn
      intro hl0 H locs ls hP hD hS hl
      have he : ((g_W nW) ad tc h)[a]? = some (ad a, .inl (tc 0, n, .inl f)) := by rw [g_W_at ad tc h hn, ho]; rfl
      exact va_iald hx hb hK hP a 0 he ht0 hs5.1 hd (hs5.2 hl0 H locs ls hP hD hS hl)
    · obtain ⟨h2, hsb⟩ := s_cond hs3
      have h2 : a = 99 := Nat.eq_of_beq_eq_true h2
      subst h2
      obtain ⟨sc, hsc, hsc2⟩ := s_op0 hsb
      obtain ⟨x1, x2, x3⟩ := hscr sc hsc
      intro hl0 H locs ls hP hD hS hl
      exact va_sld hx hb x1 x2 x3 hS hsc2.1 hd (hsc2.2 hl0 H locs ls hP hD hS hl)
  case baload =>
    obtain ⟨j, r, rfl, hs1⟩ := s_i1 hs
    obtain ⟨a, r2, rfl, hs2⟩ := s_r1 hs1
    obtain ⟨hn, hs3⟩ := s_cond hs2
    obtain ⟨t, n, f, ho, hs4⟩ := s_ia hs3
    obtain ⟨h2, hs5⟩ := s_cond hs4
    have h2 : t = 1 := Nat.eq_of_beq_eq_true h2
    subst h2
    have hn : a < nW := Nat.le_of_ble_eq_true hn
    intro hl0 H locs ls hP hD hS hl
    have he : ((g_W nW) ad tc h)[a]? = some (ad a, .inl (tc 1, n, .inl f)) := by rw [g_W_at ad tc h hn, ho]; rfl
    exact va_zald hx hb hK hP a 1 he ht1 hs5.1 hd (hs5.2 hl0 H locs ls hP hD hS hl)
  case laload =>
    obtain ⟨j, r, rfl, hs1⟩ := s_i1 hs
    obtain ⟨a, r2, rfl, hs2⟩ := s_r1 hs1
    obtain ⟨hn, hs3⟩ := s_cond hs2
    obtain ⟨t, n, f, ho, hs4⟩ := s_la hs3
    obtain ⟨h2, hs5⟩ := s_cond hs4
    have h2 : t = 2 := Nat.eq_of_beq_eq_true h2
    subst h2
    have hn : a < nW := Nat.le_of_ble_eq_true hn
    intro hl0 H locs ls hP hD hS hl
    have he : ((g_W nW) ad tc h)[a]? = some (ad a, .inl (tc 2, n, .inr (.inl f))) := by rw [g_W_at ad tc h hn, ho]; rfl
    exact va_lald hx hb hK hP a 2 he ht2 hs5.1 hd (hs5.2 hl0 H locs ls hP hD hS hl)
  case iastore =>
    obtain ⟨v, r, rfl, hs1⟩ := s_i1 hs
    obtain ⟨j, r1, rfl, hs2⟩ := s_i1 hs1
    obtain ⟨a, r2, rfl, hs3⟩ := s_r1 hs2
    obtain ⟨hn, hs4⟩ := s_cond hs3
    obtain ⟨t, n, f, ho, hs5⟩ := s_ia hs4
    obtain ⟨h2, hs6⟩ := s_cond hs5
    have h2 : t = 0 := Nat.eq_of_beq_eq_true h2
    subst h2
    have hn : a < nW := Nat.le_of_ble_eq_true hn
    intro hl0 H locs ls hP hD hS hl
    have he : ((g_W nW) ad tc h)[a]? = some (ad a, .inl (tc 0, n, .inl f)) := by rw [g_W_at ad tc h hn, ho]; rfl
    have hset : ((g_W nW) ad tc h).set a (ad a, .inl (tc 0, n, .inl (upd f j.toNatClampNeg v))) = (g_W nW) ad tc (e_set h a (.inl (0, n, .inl (upd f j.toNatClampNeg v)))) := g_W_set ad tc h hn (.inl (0, n, .inl (upd f j.toNatClampNeg v)))
    refine va_iast hx hb hK hP hD hS a 0 he ht0 hs6.1 hd (fun H1 locs1 hP1 hD1 hS1 => ?_)
    rw [hset] at hP1 hD1
    exact hs6.2 hl0 H1 locs1 ls hP1 hD1 hS1 hl
  case bastore =>
    obtain ⟨v, r, rfl, hs1⟩ := s_i1 hs
    obtain ⟨j, r1, rfl, hs2⟩ := s_i1 hs1
    obtain ⟨a, r2, rfl, hs3⟩ := s_r1 hs2
    obtain ⟨hn, hs4⟩ := s_cond hs3
    obtain ⟨t, n, f, ho, hs5⟩ := s_ia hs4
    obtain ⟨h2, hs6⟩ := s_cond hs5
    have h2 : t = 1 := Nat.eq_of_beq_eq_true h2
    subst h2
    have hn : a < nW := Nat.le_of_ble_eq_true hn
    intro hl0 H locs ls hP hD hS hl
    have he : ((g_W nW) ad tc h)[a]? = some (ad a, .inl (tc 1, n, .inl f)) := by rw [g_W_at ad tc h hn, ho]; rfl
    have hset : ((g_W nW) ad tc h).set a (ad a, .inl (tc 1, n, .inl (upd f j.toNatClampNeg (vp_nar .boolean v)))) = (g_W nW) ad tc (e_set h a (.inl (1, n, .inl (upd f j.toNatClampNeg (vp_nar .boolean v))))) := g_W_set ad tc h hn (.inl (1, n, .inl (upd f j.toNatClampNeg (vp_nar .boolean v))))
    refine va_zast hx hb hK hP hD hS a 1 he ht1 hs6.1 hd (fun H1 locs1 hP1 hD1 hS1 => ?_)
    rw [hset] at hP1 hD1
    exact hs6.2 hl0 H1 locs1 ls hP1 hD1 hS1 hl
  case lastore =>
    obtain ⟨v, r, rfl, hs1⟩ := s_l1 hs
    obtain ⟨j, r1, rfl, hs2⟩ := s_i1 hs1
    obtain ⟨a, r2, rfl, hs3⟩ := s_r1 hs2
    obtain ⟨hn, hs4⟩ := s_cond hs3
    obtain ⟨t, n, f, ho, hs5⟩ := s_la hs4
    obtain ⟨h2, hs6⟩ := s_cond hs5
    have h2 : t = 2 := Nat.eq_of_beq_eq_true h2
    subst h2
    have hn : a < nW := Nat.le_of_ble_eq_true hn
    intro hl0 H locs ls hP hD hS hl
    have he : ((g_W nW) ad tc h)[a]? = some (ad a, .inl (tc 2, n, .inr (.inl f))) := by rw [g_W_at ad tc h hn, ho]; rfl
    have hset : ((g_W nW) ad tc h).set a (ad a, .inl (tc 2, n, .inr (.inl (vp_updL f j.toNatClampNeg v)))) = (g_W nW) ad tc (e_set h a (.inl (2, n, .inr (.inl (vp_updL f j.toNatClampNeg v))))) := g_W_set ad tc h hn (.inl (2, n, .inr (.inl (vp_updL f j.toNatClampNeg v))))
    refine va_last hx hb hK hP hD hS a 2 he ht2 hs6.1 hd (fun H1 locs1 hP1 hD1 hS1 => ?_)
    rw [hset] at hP1 hD1
    exact hs6.2 hl0 H1 locs1 ls hP1 hD1 hS1 hl
  case arraylength =>
    obtain ⟨a, r, rfl, hs1⟩ := s_r1 hs
    rcases s_cond2 hs1 with ⟨hn, hs2⟩ | ⟨hn, hs2⟩
    · obtain ⟨t, n, f, ho, hs3⟩ := s_len hs2
      obtain ⟨h2, hs4⟩ := s_cond hs3
      have h2 : t < 3 := Nat.le_of_ble_eq_true h2
      have hn : a < nW := Nat.le_of_ble_eq_true hn
      intro hl0 H locs ls hP hD hS hl
      have he : ((g_W nW) ad tc h)[a]? = some (ad a, .inl (tc t, n, f)) := by rw [g_W_at ad tc h hn, ho]; rfl
      have h3 : ∀ z : Nat, z < 3 → z = 0 ∨ z = 1 ∨ z = 2 := fun z hz => by omega
      rcases h3 t h2 with rfl | rfl | rfl
      · exact va_alen hx hb hK hP a 0 he ht0 rfl hd (hk _ _ _ hs4 hl0 H locs ls hP hD hS hl)
      · exact va_alen hx hb hK hP a 1 he ht1 rfl hd (hk _ _ _ hs4 hl0 H locs ls hP hD hS hl)
      · exact va_alen hx hb hK hP a 2 he ht2 rfl hd (hk _ _ _ hs4 hl0 H locs ls hP hD hS hl)
    · obtain ⟨h2, hsb⟩ := s_cond hs2
      have h2 : a = 99 := Nat.eq_of_beq_eq_true h2
      subst h2
      obtain ⟨sc, hsc, hsc2⟩ := s_op0 hsb
      obtain ⟨x1, x2, x3⟩ := hscr sc hsc
      intro hl0 H locs ls hP hD hS hl
      exact va_slen hx hb x1 x2 x3 hS hd (hk _ _ _ hsc2 hl0 H locs ls hP hD hS hl)
  case invokestatic i =>
    obtain ⟨C, hC, hs1⟩ := s_opt hs
    obtain ⟨as, r, rfl, hlen, hs2⟩ := s_take hs1
    obtain ⟨hdp, hs3⟩ := s_cond hs2
    obtain ⟨a, c1, c2, c3, c40⟩ := hs3
    obtain ⟨hbm, c4⟩ := s_le (s_plus c40)
    obtain ⟨d1, d2⟩ := s_res c4
    rw [List.append_nil] at c2
    subst c2
    subst c3
    exact hcal pc C hC a b lv r c1 hlen hdp hbm (fun v hv => s_ov (F := fun st => (g_J nW) p l e R s m args below meth c Q D cl A nL ad tc c0 s0 _ _ lv st _) (d1 v hv)) (fun E hE => hPX _ _ _ _ lv (d2 E hE))
  case invokevirtual i =>
    obtain ⟨C, hC, hs1⟩ := s_opt hs
    obtain ⟨as, r, rfl, hlen, hs2⟩ := s_take hs1
    obtain ⟨hdp, hs3⟩ := s_cond hs2
    obtain ⟨a, c1, c2, c3, c40⟩ := hs3
    obtain ⟨hbm, c4⟩ := s_le (s_plus c40)
    obtain ⟨d1, d2⟩ := s_res c4
    rw [List.append_nil] at c2
    subst c2
    subst c3
    exact hcal pc C hC a b lv r c1 hlen hdp hbm (fun v hv => s_ov (F := fun st => (g_J nW) p l e R s m args below meth c Q D cl A nL ad tc c0 s0 _ _ lv st _) (d1 v hv)) (fun E hE => hPX _ _ _ _ lv (d2 E hE))
  case invokespecial i =>
    obtain ⟨C, hC, hs1⟩ := s_opt hs
    obtain ⟨as, r, rfl, hlen, hs2⟩ := s_take hs1
    obtain ⟨hdp, hs3⟩ := s_cond hs2
    obtain ⟨a, c1, c2, c3, c40⟩ := hs3
    obtain ⟨hbm, c4⟩ := s_le (s_plus c40)
    obtain ⟨d1, d2⟩ := s_res c4
    rw [List.append_nil] at c2
    subst c2
    subst c3
    exact hcal pc C hC a b lv r c1 hlen hdp hbm (fun v hv => s_ov (F := fun st => (g_J nW) p l e R s m args below meth c Q D cl A nL ad tc c0 s0 _ _ lv st _) (d1 v hv)) (fun E hE => hPX _ _ _ _ lv (d2 E hE))
  case new i =>
    obtain ⟨E, hE, hs1⟩ := s_op0 hs
    obtain ⟨hdp, hs2⟩ := s_cond hs1
    obtain ⟨hbm, hs3⟩ := s_le hs2
    exact hthr pc E hE b lv st h hdp hbm hs3
  case tableswitch d lo hi offs =>
    obtain ⟨a, r, rfl, hs1⟩ := s_i1 hs
    have hv := of_decide_eq_true hv
    intro hl0 H locs ls hP hD hS hl
    by_cases h1 : a.toInt < lo
    · exact lv_tableOut hx hb hd (Or.inl h1) hv (hs1.1 (Or.inl h1) hl0 H locs ls hP hD hS hl)
    · by_cases h2 : hi < a.toInt
      · exact lv_tableOut hx hb hd (Or.inr h2) hv (hs1.1 (Or.inr h2) hl0 H locs ls hP hD hS hl)
      · obtain ⟨o, t, q1, q2, q3⟩ := hs1.2 h1 h2
        exact lv_tableIn hx hb hd h1 h2 q1 q2 (q3 hl0 H locs ls hP hD hS hl)
  case ireturn =>
    obtain ⟨a, r, rfl, hs1⟩ := s_i1 hs
    obtain ⟨rfl, hs2⟩ := s_nil hs1
    obtain ⟨hbm, hs3⟩ := s_le hs2
    exact hret b pc a h lv hd hbm hs3
  case return_ =>
    obtain ⟨rfl, hs1⟩ := s_nil hs
    obtain ⟨hbm, hs2⟩ := s_le hs1
    exact hrtv b pc h lv hd hbm hs2
end ESTEP

section ESOUND
variable {p : Program} {l : Launch} {e : Env} {R : Room} {s : State} {m : MethodId} {args : Array Value} {below : List Frame} {meth : Method} {c : Code} {Q : State → Prop} {D : va_G} {cl : List vw_C} {A : Nat → Prop} {nL : Nat} {ad : Nat → Nat} {tc : Nat → ClassId} {c0 s0 : Nat} {cc : ByteArray} {tys : List (ClassId × FieldType)} {own : String} {Ts : List Cond} {bm : Nat} {fld : Nat → Option e_F} {cst : Nat → Option Int32} {cal : Nat → Option e_C} {thr : Nat → Option String} {scr : Option (Nat × (Nat → Int32))} {P : Nat → Nat → e_R → e_H → Prop}
theorem g_blk_ok {nW : Nat} (Γ : (g_Ctx nW) p l e R s m args below meth c Q D cl A nL ad tc c0 s0 cc tys own Ts bm fld cst cal thr scr P) (stop b : Nat) : ∀ (code : List e_I), code.all (e_okI cc nL cst) = true → e_chain code = true → ∀ lv st h, (g_blk nW) bm stop fld cal thr scr ((g_J nW) p l e R s m args below meth c Q D cl A nL ad tc c0 s0) P b code lv st h → ∀ x t, code = x :: t → (g_J nW) p l e R s m args below meth c Q D cl A nL ad tc c0 s0 b x.1 lv st h := by
  intro code
  induction code with
  | nil => intro _ _ lv st h hs; exact hs.elim
  | cons y rest ih =>
    intro h1 h2 lv st h hs x t hxt
    cases hxt
    rw [List.all_cons, Bool.and_eq_true] at h1
    have h2' : (Nat.beq (e_hd rest (e_nx y)) (e_nx y) && e_chain rest) = true := h2
    rw [Bool.and_eq_true] at h2'
    have hs := s_hd hs
    refine g_stp_ok Γ y h1.1 (nx := e_hd rest (e_nx y)) (Nat.eq_of_beq_eq_true h2'.1) (k := fun lv' st' h' => k_stop stop rest (fun q => (g_J nW) p l e R s m args below meth c Q D cl A nL ad tc c0 s0 b q lv' st' h') ((g_blk nW) bm stop fld cal thr scr ((g_J nW) p l e R s m args below meth c Q D cl A nL ad tc c0 s0) P b rest lv' st' h')) ?_ hs
    intro lv' st' h' hs'
    cases rest with
    | nil => exact hs'.elim
    | cons z r =>
      obtain ⟨zpc, zi⟩ := z
      rcases s_cond2 (show cond (Nat.beq zpc stop) ((g_J nW) p l e R s m args below meth c Q D cl A nL ad tc c0 s0 b zpc lv' st' h') _ from hs') with ⟨-, q⟩ | ⟨-, q⟩
      · exact q
      · exact ih h1.2 h2'.2 lv' st' h' q (zpc, zi) r rfl
theorem g_sound {nW : Nat} (Γ : (g_Ctx nW) p l e R s m args below meth c Q D cl A nL ad tc c0 s0 cc tys own Ts bm fld cst cal thr scr P) {code : List e_I} (hc : e_okC cc nL cst code = true) : (g_Cl nW) bm fld cal thr scr code P ((g_J nW) p l e R s m args below meth c Q D cl A nL ad tc c0 s0) := by
  have hc' : (code.all (e_okI cc nL cst) && e_chain code) = true := hc
  rw [Bool.and_eq_true] at hc'
  refine ⟨fun stop b pc lv st h hs => ?_, fun b pc lv lv' ks st h h1 h2 hJ => ?_, fun b b' pc lv st h hb hJ => ?_⟩
  · obtain ⟨g1, g2, g3⟩ := e_at_ok pc code hc'.1 hc'.2
    cases hq : e_at pc code with
    | nil => rw [hq] at hs; exact hs.elim
    | cons x t =>
      have := g_blk_ok Γ stop b _ g1 g2 lv st h hs x t hq
      rw [g3 x t hq] at this
      exact this
  · intro hl0 H locs ls hP hD hS hl
    refine hJ h2 H locs ls hP hD hS ⟨hl.1, hl.2.1, fun q hq => hl.2.2 q ?_⟩
    obtain ⟨z, hz, rfl⟩ := List.mem_map.mp hq
    rw [← h1] at hz
    obtain ⟨k, -, hk⟩ := List.mem_filterMap.mp hz
    exact List.mem_map.mpr ⟨z, List.mem_of_getElem? hk, rfl⟩
  · intro hl0 H locs ls hP hD hS hl
    exact W.widen (by omega) (by omega) (hJ hl0 H locs ls hP hD hS hl)
end ESOUND

/-! Methods by contract: what a method asks and gives over the named cells, out of a run of the stepper; calls -/
def g_Pre (nW : Nat) (D : va_G) (ad : Nat → Nat) (tc : Nat → ClassId) (as : List Value) (h : e_H) (sz : Nat) : Array Value → State → Prop :=
  va_Pc (as.map (e_cV ad)) (fun U => U.heap.size = sz ∧ va_P D vwCl ((g_W nW) ad tc h) U.heap ∧ va_K D vwCl (e_tys tc) U ∧ va_D (fun _ => True) ((g_W nW) ad tc h))
def g_Post (nW : Nat) (D : va_G) (ad : Nat → Nat) (tc : Nat → ClassId) (A : Nat → Prop) (v : Option Value) (h' : e_H) : Array Value → State → Outcome → State → Prop := fun _ st oc t =>
  oc = .returned (v.map (e_cV ad)) ∧ va_P D vwCl ((g_W nW) ad tc h') t.heap ∧ va_F A st t
/-- a method that returns -/
def g_Met (nW : Nat) (l : Launch) (y : MethodName) (bytes : ByteArray) (maxL : Nat) (ret : Option FieldType) (lvl : Nat) (C : e_C) : Prop :=
  ∀ (D : va_G) (ad : Nat → Nat) (tc : Nat → ClassId) (sz : Nat) (a : C.1), C.2.2.2.1 a → ∃ v, C.2.2.2.2.2.2.1 a = .inl v ∧
    Met l y (e_ws y bytes maxL ret) (e_rm lvl 0) ((g_Pre nW) D ad tc (C.2.2.2.2.1 a) (C.2.2.2.2.2.1 a) sz) ((g_Post nW) D ad tc (va_A ((g_W nW) ad tc (C.2.2.2.2.2.1 a)) sz) v (C.2.2.2.2.2.2.2 a)) 0 0 (va_A ((g_W nW) ad tc (C.2.2.2.2.2.1 a)) sz)
theorem g_D {nW : Nat} {A B : Nat → Prop} {ad : Nat → Nat} {tc : Nat → ClassId} {h h' : e_H} (hD : va_D A ((g_W nW) ad tc h)) (hAB : ∀ i, i < nW → A (ad i) → B (ad i)) : va_D B ((g_W nW) ad tc h') := by
  have key : ∀ {h : e_H} (k : Nat) (q : Nat × va_E), ((g_W nW) ad tc h)[k]? = some q → k < nW ∧ q.1 = ad k := by
    intro h k q hk
    have hl := (List.getElem?_eq_some_iff.mp hk).1
    have hl : k < nW := by unfold g_W at hl; simpa using hl
    rw [g_W_at ad tc h hl] at hk
    cases hk
    exact ⟨hl, rfl⟩
  refine ⟨fun i j x y hi hj hxy => ?_, fun k q hk => ?_⟩
  · obtain ⟨a1, a2⟩ := key i x hi
    obtain ⟨b1, b2⟩ := key j y hj
    exact hD.1 i j _ _ (g_W_at ad tc h a1) (g_W_at ad tc h b1) (by rw [← a2, ← b2]; exact hxy)
  · obtain ⟨a1, a2⟩ := key k q hk
    rw [a2]
    exact hAB k a1 (hD.2 k _ (g_W_at ad tc h a1))
theorem g_free {nW : Nat} {A : Nat → Prop} {ad : Nat → Nat} {tc : Nat → ClassId} {h : e_H} {H0 H : Heap} {locs : List Loc} (hD : va_D A ((g_W nW) ad tc h)) (hS : va_S A H0 H locs) (hA : ∀ q, H0.size ≤ q → A q) : ∀ q, va_A ((g_W nW) ad tc h) H.size q → A q := by
  intro q hq
  rcases hq with ⟨k, x, hk⟩ | hq
  · exact hD.2 k (q, x) hk
  · exact hA q (Nat.le_trans hS.1 hq)
theorem g_blind {nW : Nat} {D : va_G} {ad : Nat → Nat} {tc : Nat → ClassId} {as : List Value} {h : e_H} {sz : Nat} : FrameBlind ((g_Pre nW) D ad tc as h sz) := by
  intro a U g mk q
  obtain ⟨q0, q1, qP, qK, qD⟩ := q
  exact ⟨q0, q1, qP, va_K.moved (u := U) (U := U.calling g mk a) (Vm.Alike.refl U.vm) qK, qD⟩
/-- what every body has at hand -/
def g_Base (nW : Nat) (p : Program) (l : Launch) (e : Env) (R : Room) (s : State) (m : MethodId) (args : Array Value) (below : List Frame) (meth : Method) (c : Code) (D : va_G) (A : Nat → Prop) (nL : Nat) (ad : Nat → Nat) (tc : Nat → ClassId) (c0 s0 : Nat) (cc : ByteArray) (own : String) (bm lvl : Nat) : Prop :=
  p.tables.exec = Jvm.exec ∧ c.code = cc ∧ c.maxLocals = nL ∧ s.vm.findClass own = some m.cls ∧ (∀ w ∈ e_wd, w.before args s = true) ∧ va_K D vwCl (e_tys tc) s ∧ (∀ q, s.heap.size ≤ q → A q) ∧ lvl ≤ R.frames ∧ 30 * lvl ≤ R.locals ∧ c0 + bm ≤ R.cells ∧ s0 + 6 * bm ≤ R.slots
/-- a call site in a body -/
def g_Site (nW : Nat) (cc : ByteArray) (own : String) (lvl pc : Nat) (C : e_C) : Prop :=
  ∀ (p : Program) (l : Launch) (e : Env) (R : Room) (s : State) (m : MethodId) (args : Array Value) (below : List Frame) (meth : Method) (c : Code) (Q : State → Prop) (D : va_G) (A : Nat → Prop) (nL : Nat) (ad : Nat → Nat) (tc : Nat → ClassId) (c0 s0 bm : Nat), l.stackTraces = false →
    (g_Base nW) p l e R s m args below meth c D A nL ad tc c0 s0 cc own bm lvl → ∀ (a : C.1) (b : Nat) (lv : e_L) (r : List Value), C.2.2.2.1 a → (C.2.2.2.2.1 a).length = C.2.1 → e_dep r 8 = true → b + C.2.2.1 a ≤ bm →
    (∀ v, C.2.2.2.2.2.2.1 a = .inl v → (g_J nW) p l e R s m args below meth c Q D vwCl A nL ad tc c0 s0 (b + C.2.2.1 a) (pc + 3) lv (v.toList ++ r) (C.2.2.2.2.2.2.2 a)) →
    (∀ E, C.2.2.2.2.2.2.1 a = .inr E → (g_X nW) p l e R s m args below meth c Q D vwCl A nL ad tc c0 s0 (b + C.2.2.1 a) pc lv E (C.2.2.2.2.2.2.2 a)) →
    (g_J nW) p l e R s m args below meth c Q D vwCl A nL ad tc c0 s0 b pc lv ((C.2.2.2.2.1 a).reverse ++ r) (C.2.2.2.2.2.1 a)
/-- out of a run of a callee that returns -/
theorem g_ofRun {nW : Nat} {p : Program} {l : Launch} {e : Env} {R : Room} {s : State} {m : MethodId} {args : Array Value} {below : List Frame} {meth : Method} {c : Code} {Q : State → Prop} {D : va_G} {A : Nat → Prop} {nL : Nat} {ad : Nat → Nat} {tc : Nat → ClassId} {c0 s0 b pc : Nat} {lv : e_L} {r st0 : List Value} {h h' : e_H} {v : Option Value} {H : Heap} {locs : List Loc} {ls : Array Slot} {a9 : Array Value}
    (hA : ∀ q, s.heap.size ≤ q → A q) (hl0 : e_lok lv = true) (hD : va_D A ((g_W nW) ad tc h)) (hS : va_S A s.heap H locs) (hl : lv_has ls nL (e_cl ad lv))
    (hr : va_Run p l e R s m args below meth c H locs (c0 + b) (s0 + 6 * b) 0 0 (F0 m pc ls st0) (r.map (e_cV ad)) ((g_Post nW) D ad tc (va_A ((g_W nW) ad tc h) H.size) v h' a9) (va_A ((g_W nW) ad tc h) H.size))
    (hJ : (g_J nW) p l e R s m args below meth c Q D vwCl A nL ad tc c0 s0 b (pc + 3) lv (v.toList ++ r) h') : W p l e R s m args below meth c H locs (c0 + b) (s0 + 6 * b) Q (F0 m pc ls st0) := by
  have hfr := g_free hD hS hA
  intro T hT X
  obtain ⟨v', st₀, t, T', L, h0, X', hL, e1, e2, ⟨hv, hP', hz, hk⟩, st⟩ := hr T hT X
  cases hv
  rw [h0] at hz hk
  have hst : (v.map (e_cV ad)).toList ++ r.map (e_cV ad) = (v.toList ++ r).map (e_cV ad) := by cases v <;> rfl
  rw [hst] at st
  obtain ⟨t2, a1, b1⟩ := hJ hl0 T'.heap (locs ++ L) ls (by rw [e1]; exact hP') (g_D hD (fun _ _ z => z))
    ⟨Nat.le_trans hS.1 (by rw [e1]; exact hz), fun q h1 h2 => by rw [e1, hk q (Nat.lt_of_lt_of_le h1 hS.1) (fun z => h2 (hfr q z))]; exact hS.2.1 q h1 h2, fun q hq => by
      rcases List.mem_append.mp hq with h | h
      · exact hS.2.2 q h
      · exact hfr _ (hL q h)⟩ hl T' rfl X'
  exact ⟨t2, st t2 a1, b1⟩
theorem g_siteS {nW : Nat} {y : MethodName} {bytes cc : ByteArray} {maxL : Nat} {ret : Option FieldType} {lv0 lvl : Nat} {C : e_C} {own : String} {pc i : Nat} (hM : ∀ l : Launch, l.stackTraces = false → (g_Met nW) l y bytes maxL ret lv0 C) (hlt : lv0 < lvl) (hmx : maxL ≤ 11) (hc : ∀ a, C.2.2.1 a = 0)
    (w1 : Cond.methodLink own i y ∈ e_wd) (w2 : Cond.static y ∈ e_wd) (w3 : Cond.initialized y.cls ∈ e_wd) (w4 : Cond.code y bytes maxL ret ∈ e_wd)
    (hd : y.cls ≠ "java/lang/invoke/MethodHandle" ∧ y.cls ≠ "java/lang/invoke/VarHandle" ∧ (parseMethodDescriptor y.desc).map (fun d => d.parameters.length) = some C.2.1) (hdg : decode cc pc = .ok (.invokestatic i, 3)) : (g_Site nW) cc own lvl pc C := by
  intro p l e R s m args below meth c Q D A nL ad tc c0 s0 bm hl9 hB a b lv r hpre hlen hdp hbm hret hthr hl0 H locs ls hP hD hS hl
  obtain ⟨hx, hb, hml, hown, hts, hK, hA, hf1, hf2, hf3, hf4⟩ := hB
  obtain ⟨v, hv, hMt⟩ := hM l hl9 D ad tc H.size a hpre
  rw [hc a] at hret hbm
  have hG : GoodIn e_wd (va_wsS own i y (e_ws y bytes maxL ret)) := e_good (by
    intro w hw
    simp only [va_wsS, e_ws, List.mem_append, List.mem_cons, List.not_mem_nil, or_false] at hw
    rcases hw with (rfl | rfl | rfl) | rfl | hw
    · exact w1
    · exact w2
    · exact w3
    · exact w4
    · exact hw)
  have cw := va_cwS (R := R) (s := s) (args := args) (rm := e_rm lv0 0) (mc := 0) (ms := 0) C.2.1 hts hG rfl rfl rfl hd ⟨by show lv0 + 1 ≤ _; omega, by show 8 + (maxL + 11) + 30 * lv0 ≤ _; omega⟩
  refine g_ofRun hA hl0 hD hS hl (va_runS (As := (C.2.2.2.2.1 a).map (e_cV ad)) ⟨hx, hb, hml, hown, hts⟩ hMt cw ⟨g_blind, fun U hU hW => ⟨rfl, by rw [hU], by rw [hU]; exact hP, va_K.moved hW.alike hK, g_D hD (fun _ _ _ => trivial)⟩⟩ rfl (by rw [List.length_map]; exact hlen) hl.1 (by simp) (lv_room (e_depC hdp)) hdg ⟨by omega, by omega⟩) (hret v hv)
theorem g_siteV {nW : Nat} {y : MethodName} {bytes cc : ByteArray} {maxL : Nat} {ret : Option FieldType} {lv0 lvl : Nat} {C : e_C} {own : String} {pc i ci n : Nat} {Tc : u_T} {Nc : Nat} (hM : ∀ l : Launch, l.stackTraces = false → (g_Met nW) l y bytes maxL ret lv0 C) (hlt : lv0 < lvl) (hmx : maxL ≤ 11) (hc : ∀ a, C.2.2.1 a = 0)
    (hci : vwCl[ci]? = some (y.cls, Tc, Nc)) (hob : ∀ a : C.1, C.2.2.2.1 a → ∃ (o : Nat) (ts fs : List Value), C.2.2.2.2.1 a = .ref o :: ts ∧ o < nW ∧ C.2.2.2.2.2.1 a o = .inr (ci, fs)) (hn : C.2.1 = n + 1)
    (w1 : Cond.methodLink own i y ∈ e_wd) (w2 : Cond.instanceMethod y ∈ e_wd) (w3 : Cond.initialized y.cls ∈ e_wd) (w4 : Cond.code y bytes maxL ret ∈ e_wd) (w5 : Cond.selects y.cls y y ∈ e_wd)
    (hd : y.cls ≠ "java/lang/invoke/MethodHandle" ∧ y.cls ≠ "java/lang/invoke/VarHandle" ∧ (parseMethodDescriptor y.desc).map (fun d => d.parameters.length) = some n) (hdg : decode cc pc = .ok (.invokevirtual i, 3)) : (g_Site nW) cc own lvl pc C := by
  intro p l e R s m args below meth c Q D A nL ad tc c0 s0 bm hl9 hB a b lv r hpre hlen hdp hbm hret hthr hl0 H locs ls hP hD hS hl
  obtain ⟨hx, hb, hml, hown, hts, hK, hA, hf1, hf2, hf3, hf4⟩ := hB
  obtain ⟨v, hv, hMt⟩ := hM l hl9 D ad tc H.size a hpre
  obtain ⟨o, ts, fs, ho1, ho2, ho3⟩ := hob a hpre
  rw [hc a] at hret hbm
  have hG : GoodIn e_wd (wsV own i y.cls y (e_ws y bytes maxL ret)) := e_good (by
    intro w hw
    simp only [wsV, e_ws, List.mem_append, List.mem_cons, List.not_mem_nil, or_false] at hw
    rcases hw with (rfl | rfl | rfl | rfl) | rfl | hw
    · exact w1
    · exact w2
    · exact w5
    · exact w3
    · exact w4
    · exact hw)
  have cw := cwV (R := R) (s := s) (args := args) (rm := e_rm lv0 0) (mc := 0) (ms := 0) n hts hG rfl rfl rfl ⟨rfl, hd⟩ ⟨by show lv0 + 1 ≤ _; omega, by show 8 + (maxL + 11) + 30 * lv0 ≤ _; omega⟩
  have he : ((g_W nW) ad tc (C.2.2.2.2.2.1 a))[o]? = some (ad o, .inr (ci, fs.map (e_cV ad))) := by rw [g_W_at ad tc _ ho2, ho3]; rfl
  have hrecv := va_recv hK hP hci he
  have hargs : (C.2.2.2.2.1 a).map (e_cV ad) = .ref (ad o) :: ts.map (e_cV ad) := by rw [ho1]; rfl
  have hlen2 : ts.length = n := by
    have := hlen
    rw [ho1, hn] at this
    simpa using this
  refine g_ofRun hA hl0 hD hS hl (va_runV (As := ts.map (e_cV ad)) (b := ad o) ⟨hx, hb, hml, hown, hts⟩ hMt cw ⟨g_blind, hrecv, fun U hU hW => ⟨by rw [hargs], by rw [hU], by rw [hU]; exact hP, va_K.moved hW.alike hK, g_D hD (fun _ _ _ => trivial)⟩⟩ rfl (by rw [List.length_map]; exact hlen2) hl.1 (by rw [ho1]; simp [e_cV]) (lv_room (e_depC hdp)) hdg ⟨by omega, by omega⟩) (hret v hv)
/-- a method that returns, out of a run of the stepper -/
theorem g_met {nW : Nat} {l : Launch} (hl9 : l.stackTraces = false) {y : MethodName} {cc : ByteArray} {nL : Nat} {ret : Option FieldType} {lvl : Nat} {C : e_C} (F : List (Nat × e_F)) (K : List (Nat × Int32)) (S : List (Nat × e_C)) (code : List e_I)
    (hy : plainFor y = true) (hF : e_Flds y.cls F) (hKc : (∀ x ∈ K, x.1 < 100000 → Jvm.Cond.constant y.cls x.1 x.2 ∈ e_wd) ∧ ∀ i v, (i + 100000, v) ∈ K → Jvm.Cond.constantLong y.cls i v.toInt64 ∈ e_wd) (hS0 : ∀ x ∈ S, (g_Site nW) cc y.cls lvl x.1 x.2) (hcode : e_okC cc nL (e_f0 K) code = true)
    (hsz : ∀ a, C.2.2.2.1 a → (lg_sl (C.2.2.2.2.1 a)).length ≤ nL ∧ e_lok (lv_args 0 (C.2.2.2.2.1 a)) = true)
    (pure : ∀ a, C.2.2.2.1 a → ∃ v, C.2.2.2.2.2.2.1 a = .inl v ∧ e_rok ret v ∧ ∀ J, (g_Cl nW) 0 (e_f0 F) (e_fd S) (fun _ => none) none code (fun _ _ r h => r = .inl v ∧ h = C.2.2.2.2.2.2.2 a) J → J 0 0 (lv_args 0 (C.2.2.2.2.1 a)) [] (C.2.2.2.2.2.1 a)) : (g_Met nW) l y cc nL ret lvl C := by
  intro D ad tc sz a hpre
  obtain ⟨v, hv, hrok, hpure⟩ := pure a hpre
  obtain ⟨hz1, hz2⟩ := hsz a hpre
  refine ⟨v, hv, va_MetF (cc := cc) (maxL := nL) (ret := ret) hy rfl ?_⟩
  intro p e s m args below meth c s₁ B hml hP0
  obtain ⟨rfl, hsz9, hP, hK, hD0⟩ := hP0
  have hx := B.exec
  have hb := B.bytes
  have hr := B.returns
  have hts0 := atoms_spec (ws := e_ws y cc nL ret) B.pre
  have hts : ∀ w ∈ e_wd, w.before ((C.2.2.2.2.1 a).map (e_cV ad)).toArray s = true := fun w hw => hts0 w (List.mem_cons_of_mem _ hw)
  have hown : s.vm.findClass y.cls = some m.cls := findClass_of_methodNamed B.named
  have hlocks := B.notSynchronized
  subst hsz9
  have hD := hD0.self (sz := s.heap.size)
  obtain ⟨A, hAe⟩ : ∃ A, A = va_A ((g_W nW) ad tc (C.2.2.2.2.2.1 a)) s.heap.size := ⟨_, rfl⟩
  rw [← hAe] at hD ⊢
  have hA : ∀ q : Nat, s.heap.size ≤ q → A q := fun q h => by rw [hAe]; exact Or.inr h
  have hS : va_S A s.heap s.heap [] := va_S.rf
  have hl := lv_entry ((C.2.2.2.2.1 a).map (e_cV ad)) (n := nL) (by rw [e_sl_cl]; exact hz1)
  rw [lg_entry_eq]
  generalize (lg_sl ((C.2.2.2.2.1 a).map (e_cV ad)) ++ List.replicate (nL - (lg_sl ((C.2.2.2.2.1 a).map (e_cV ad))).length) Slot.unset).toArray = ls at hl ⊢
  rw [e_args_cl] at hl
  have hBase : (g_Base nW) p l e (e_rm lvl 0) s m ((C.2.2.2.2.1 a).map (e_cV ad)).toArray below meth c D A nL ad tc 0 0 cc y.cls 0 lvl := ⟨hx, hb, hml, hown, hts, hK, hA, Nat.le_refl _, Nat.le_refl _, Nat.le_refl _, Nat.le_refl _⟩
  have Γ : (g_Ctx nW) p l e (e_rm lvl 0) s m ((C.2.2.2.2.1 a).map (e_cV ad)).toArray below meth c (MQ below ((g_Post nW) D ad tc A v (C.2.2.2.2.2.2.2 a)) ((C.2.2.2.2.1 a).map (e_cV ad)).toArray s 0 0 A) D vwCl A nL ad tc 0 0 cc (e_tys tc) y.cls e_wd 0 (e_f0 F) (e_f0 K) (e_fd S) (fun _ => none) none (fun _ _ r h => r = .inl v ∧ h = C.2.2.2.2.2.2.2 a) := by
    refine ⟨hx, hb, hown, hts, hK, rfl, rfl, rfl, fun i z hi hz => hts _ (hKc.1 _ (s_f0 hz) hi), fun i z hz => hts _ (hKc.2 _ _ (s_f0 hz)), fun i q hq => hF s _ hts _ (s_f0 hq), fun pc C9 hC9 => hS0 _ (s_fd hC9) p l e _ s m _ below meth c _ D A nL ad tc 0 0 0 hl9 hBase, fun pc E h => (nomatch h), fun b pc E h lv hP9 => (nomatch hP9.1), fun b pc x h lv hdr hb9 hP9 => ?_, fun b pc h lv hdr hb9 hP9 => ?_, fun sc h => (nomatch h)⟩
    · obtain ⟨q1, rfl⟩ := hP9
      cases q1
      intro hl0 H locs ls hP hD hS hl
      have hb0 : b = 0 := by omega
      subst hb0
      rcases hrok with ⟨-, q2⟩ | ⟨ty, x9, r1, r2, r3⟩
      · cases q2
      · cases r2
        exact W.zret hx hb (hr.trans r1) r3 (fun t ht hW => ⟨rfl, by rw [ht]; exact hP, hS.F ht⟩) hS.2.2 hdr
    · obtain ⟨q1, rfl⟩ := hP9
      cases q1
      intro hl0 H locs ls hP hD hS hl
      have hb0 : b = 0 := by omega
      subst hb0
      rcases hrok with ⟨q2, -⟩ | ⟨ty, x9, r1, r2, r3⟩
      · exact W.vret hx hb (hr.trans q2) (fun t ht hW => ⟨rfl, by rw [ht]; exact hP, hS.F ht⟩) hS.2.2 hdr
      · cases r2
  exact hpure _ (g_sound Γ hcode) hz2 s.heap [] ls hP hD hS hl

