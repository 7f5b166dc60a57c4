/-! The stepper: a pure reading of bytecode over named cells. A reference is a name (a number below e_N, or 99, the law's script); 'e_blk' runs a straight stretch and stops, with J, where there is something to show. -/
def e_N : Nat := 27
abbrev e_H : Type := Nat → va_E
abbrev e_L : Type := List (Nat × Value)
abbrev e_R : Type := Option Value ⊕ String
abbrev e_I : Type := Nat × Instr × Nat × Int32
abbrev e_F : Type := Nat × Nat × FieldType × Bool
def e_set (h : e_H) (i : Nat) (x : va_E) : e_H := fun j => cond (Nat.beq j i) x (h j)
def k_opt {α : Type 1} (o : Option α) (k : α → Prop) : Prop := match o with
  | some a => k a
  | none => False
def k_op0 {α : Type} (o : Option α) (k : α → Prop) : Prop := match o with
  | some a => k a
  | none => False
def k_get : e_L → Nat → (Value → Prop) → Prop
  | [], _, _ => False
  | (j, v) :: l, i, k => cond (Nat.beq j i) (k v) (k_get l i k)
def k_int (v : Value) (k : Int32 → Prop) : Prop := match v with
  | .int x => k x
  | _ => False
def k_lng (v : Value) (k : Int64 → Prop) : Prop := match v with
  | .long x => k x
  | _ => False
def k_ref (v : Value) (k : Nat → Prop) : Prop := match v with
  | .ref i => k i
  | _ => False
def k_pop (st : List Value) (k : Value → List Value → Prop) : Prop := match st with
  | v :: r => k v r
  | [] => False
def k_nil (st : List Value) (k : Prop) : Prop := match st with
  | [] => k
  | _ :: _ => False
def k_i1 (st : List Value) (k : Int32 → List Value → Prop) : Prop := k_pop st fun v r => k_int v fun x => k x r
def k_i2 (st : List Value) (k : Int32 → Int32 → List Value → Prop) : Prop := k_i1 st fun y r => k_i1 r fun x r2 => k x y r2
def k_l1 (st : List Value) (k : Int64 → List Value → Prop) : Prop := k_pop st fun v r => k_lng v fun x => k x r
def k_r1 (st : List Value) (k : Nat → List Value → Prop) : Prop := k_pop st fun v r => k_ref v fun i => k i r
def k_put : e_L → Nat → Value → (e_L → Prop) → Prop
  | [], i, v, k => k [(i, v)]
  | (j, w) :: l, i, v, k => cond (Nat.beq j i) (cond (Nat.beq w.category v.category) (k ((i, v) :: l)) False) (cond (Nat.blt i j) (cond (Nat.ble (i + v.category) j) (k ((i, v) :: (j, w) :: l)) False) (cond (Nat.ble (j + w.category) i) (k_put l i v fun l' => k ((j, w) :: l')) False))
def k_nth : List Value → Nat → (Value → Prop) → Prop
  | [], _, _ => False
  | v :: _, 0, k => k v
  | _ :: l, n + 1, k => k_nth l n k
def k_upd : List Value → Nat → Value → (List Value → Prop) → Prop
  | [], _, _, _ => False
  | _ :: l, 0, w, k => k (w :: l)
  | v :: l, n + 1, w, k => k_upd l n w fun l' => k (v :: l')
def k_obj (x : va_E) (k : Nat → List Value → Prop) : Prop := match x with
  | .inr (c, fs) => k c fs
  | .inl _ => False
def k_ia (x : va_E) (k : Nat → Nat → (Nat → Int32) → Prop) : Prop := match x with
  | .inl (t, n, .inl f) => k t n f
  | _ => False
def k_la (x : va_E) (k : Nat → Nat → (Nat → Int64) → Prop) : Prop := match x with
  | .inl (t, n, .inr (.inl f)) => k t n f
  | _ => False
def k_len (x : va_E) (k : Nat → Nat → Prop) : Prop := match x with
  | .inl (t, n, _) => k t n
  | .inr _ => False
def k_take : Nat → List Value → List Value → (List Value → List Value → Prop) → Prop
  | 0, st, acc, k => k acc st
  | n + 1, st, acc, k => k_pop st fun v r => k_take n r (v :: acc) k
def e_dep : List Value → Nat → Bool
  | [], _ => true
  | .long _ :: l, n + 2 => e_dep l n
  | .double _ :: l, n + 2 => e_dep l n
  | .int _ :: l, n + 1 => e_dep l n
  | .ref _ :: l, n + 1 => e_dep l n
  | .null :: l, n + 1 => e_dep l n
  | _, _ => false
def k_le (n m : Nat) (k : Prop) : Prop := match Nat.ble n m with
  | true => k
  | false => n ≤ m ∧ k
theorem k_le_of {n m : Nat} {k : Prop} (h : n ≤ m) (hk : k) : k_le n m k := by
  unfold k_le
  rw [Nat.ble_eq_true_of_le h]
  exact hk
def k_res (r : e_R) (kr : Option Value → Prop) (kx : String → Prop) : Prop := match r with
  | .inl v => kr v
  | .inr E => kx E
/-- a contract: its parameters; how many arguments; how many objects it may make (thrown ones); what it asks, its arguments, its heap; its answer, the heap behind it -/
abbrev e_C : Type 1 := (A : Type) × (Nat × (A → Nat) × (A → Prop) × (A → List Value) × (A → e_H) × (A → e_R) × (A → e_H))
def k_ov (v : Option Value) (k0 : Prop) (k : Value → Prop) : Prop := match v with
  | none => k0
  | some w => k w
def k_plus (b n : Nat) (k : Nat → Prop) : Prop := match n with
  | 0 => k b
  | m + 1 => k (b + (m + 1))
def k_call (bm b : Nat) (C : e_C) (as : List Value) (h : e_H) (kr : Nat → Option Value → e_H → Prop) (kx : Nat → String → e_H → Prop) : Prop :=
  ∃ a : C.1, C.2.2.2.1 a ∧ C.2.2.2.2.1 a = as ∧ C.2.2.2.2.2.1 a = h ∧ k_plus b (C.2.2.1 a) fun b' => k_le b' bm (k_res (C.2.2.2.2.2.2.1 a) (fun v => kr b' v (C.2.2.2.2.2.2.2 a)) (fun E => kx b' E (C.2.2.2.2.2.2.2 a)))
def k_fit (ty : FieldType) (v : Int32) (k : Prop) : Prop := match ty with
  | .int => k
  | t => (narrow t (.int v) = .int v ∧ fits t (.int v) = true) ∧ k
def e_rel (c : Jvm.ClassFile.Cond) (x y : Int32) (kt kf : Prop) : Prop := match c with
  | .eq => (x = y → kt) ∧ (¬ x = y → kf)
  | .ne => (¬ x = y → kt) ∧ (x = y → kf)
  | .lt => (x < y → kt) ∧ (¬ x < y → kf)
  | .ge => (y ≤ x → kt) ∧ (¬ y ≤ x → kf)
  | .gt => (y < x → kt) ∧ (¬ y < x → kf)
  | .le => (x ≤ y → kt) ∧ (¬ x ≤ y → kf)
def e_stp (bm : Nat) (fld : Nat → Option e_F) (cal : Nat → Option e_C) (thr : Nat → Option String) (scr : Option (Nat × (Nat → Int32))) (J : Nat → Nat → e_L → List Value → e_H → Prop) (P : Nat → Nat → e_R → e_H → Prop) (pc : Nat) (ins : Instr) (tg : Nat) (vl : Int32) (nx b : Nat) (k : e_L → List Value → e_H → Prop) (lv : e_L) (st : List Value) (h : e_H) : Prop :=
  match ins with
  | .iconst _ => k lv (.int vl :: st) h
  | .bipush _ => k lv (.int vl :: st) h
  | .sipush _ => k lv (.int vl :: st) h
  | .ldc _ => cond (Nat.beq tg 0) (k lv (.int vl :: st) h) False
  | .iload_n _ => k_get lv tg fun v => k_int v fun a => k lv (.int a :: st) h
  | .iload n => k_get lv n fun v => k_int v fun a => k lv (.int a :: st) h
  | .aload_n _ => k_get lv tg fun v => k_ref v fun a => k lv (.ref a :: st) h
  | .aload n => k_get lv n fun v => k_ref v fun a => k lv (.ref a :: st) h
  | .istore_n _ => k_i1 st fun a r => k_put lv tg (.int a) fun lv' => k lv' r h
  | .istore n => k_i1 st fun a r => k_put lv n (.int a) fun lv' => k lv' r h
  | .lload_n _ => k_get lv tg fun v => k_lng v fun a => k lv (.long a :: st) h
  | .lload n => k_get lv n fun v => k_lng v fun a => k lv (.long a :: st) h
  | .lstore_n _ => k_l1 st fun a r => k_put lv tg (.long a) fun lv' => k lv' r h
  | .lstore n => k_l1 st fun a r => k_put lv n (.long a) fun lv' => k lv' r h
  | .lconst _ => k lv (.long vl.toInt64 :: st) h
  | .ldc2_w _ => k lv (.long vl.toInt64 :: st) h
  | .iinc n _ => k_get lv n fun v => k_int v fun a => k_put lv n (.int (a + vl)) fun lv' => k lv' st h
  | .iadd => k_i2 st fun a a2 r => k lv (.int (a + a2) :: r) h
  | .isub => k_i2 st fun a a2 r => k lv (.int (a - a2) :: r) h
  | .imul => k_i2 st fun a a2 r => k lv (.int (a * a2) :: r) h
  | .iand => k_i2 st fun a a2 r => k lv (.int (a &&& a2) :: r) h
  | .ior => k_i2 st fun a a2 r => k lv (.int (a ||| a2) :: r) h
  | .ixor => k_i2 st fun a a2 r => k lv (.int (a ^^^ a2) :: r) h
  | .ishl => k_i2 st fun a a2 r => k lv (.int (a <<< (a2 &&& 31)) :: r) h
  | .ishr => k_i2 st fun a a2 r => k lv (.int (a >>> (a2 &&& 31)) :: r) h
  | .iushr => k_i2 st fun a a2 r => k lv (.int ((a.toUInt32 >>> (a2.toUInt32 &&& Int32.toUInt32 31)).toInt32) :: r) h
  | .idiv => k_i2 st fun a a2 r => (¬ a2 = 0) ∧ J b nx lv (.int (a / a2) :: r) h
  | .irem => k_i2 st fun a a2 r => (¬ a2 = 0) ∧ J b nx lv (.int (a - a / a2 * a2) :: r) h
  | .ineg => k_i1 st fun a r => k lv (.int (-a) :: r) h
  | .i2l => k_i1 st fun a r => k lv (.long a.toInt64 :: r) h
  | .l2i => k_l1 st fun a r => k lv (.int a.toInt32 :: r) h
  | .lneg => k_l1 st fun a r => k lv (.long (-a) :: r) h
  | .ladd => k_l1 st fun y r => k_l1 r fun x r2 => k lv (.long (x + y) :: r2) h
  | .lcmp => k_l1 st fun y r => k_l1 r fun x r2 => k lv (.int (lg_cmp x y) :: r2) h
  | .dup => k_pop st fun v r => cond (Nat.beq v.category 1) (k lv (v :: v :: r) h) False
  | .pop => k_pop st fun v r => cond (Nat.beq v.category 1) (k lv r h) False
  | .dup_x1 => k_pop st fun v r => k_pop r fun w r2 => cond (Nat.beq v.category 1) (cond (Nat.beq w.category 1) (k lv (v :: w :: v :: r2) h) False) False
  | .dup2 => k_pop st fun v r => k_pop r fun w r2 => cond (Nat.beq v.category 1) (cond (Nat.beq w.category 1) (k lv (v :: w :: v :: w :: r2) h) False) False
  | .goto _ => J b tg lv st h
  | .ifCond c _ => k_i1 st fun a r => e_rel c a 0 (J b tg lv r h) (J b nx lv r h)
  | .if_icmp c _ => k_i2 st fun a a2 r => e_rel c a a2 (J b tg lv r h) (J b nx lv r h)
  | .getfield i => k_op0 (fld i) fun q => k_r1 st fun a r => cond (Nat.blt a e_N) (k_obj (h a) fun ci fs => cond (Nat.beq ci q.1) (k_nth fs q.2.1 fun v => k lv (v :: r) h) False) False
  | .putfield i => k_op0 (fld i) fun q => k_i1 st fun v r => k_r1 r fun a r2 => cond (Nat.blt a e_N) (k_obj (h a) fun ci fs => cond (Nat.beq ci q.1) (cond q.2.2.2 (k_fit q.2.2.1 v (k_upd fs q.2.1 (.int v) fun fs' => J b nx lv r2 (e_set h a (.inr (ci, fs'))))) False) False) False
  | .iaload => k_i1 st fun j r => k_r1 r fun a r2 => cond (Nat.blt a e_N) (k_ia (h a) fun t n f => cond (Nat.beq t 0) (vp_in j n ∧ J b nx lv (.int (f j.toNatClampNeg) :: r2) h) False) (cond (Nat.beq a 99) (k_op0 scr fun sc => vp_in j sc.1 ∧ J b nx lv (.int (sc.2 j.toNatClampNeg) :: r2) h) False)
  | .baload => k_i1 st fun j r => k_r1 r fun a r2 => cond (Nat.blt a e_N) (k_ia (h a) fun t n f => cond (Nat.beq t 1) (vp_in j n ∧ J b nx lv (.int (f j.toNatClampNeg) :: r2) h) False) False
  | .laload => k_i1 st fun j r => k_r1 r fun a r2 => cond (Nat.blt a e_N) (k_la (h a) fun t n f => cond (Nat.beq t 2) (vp_in j n ∧ J b nx lv (.long (f j.toNatClampNeg) :: r2) h) False) False
  | .iastore => k_i1 st fun v r => k_i1 r fun j r1 => k_r1 r1 fun a r2 => cond (Nat.blt a e_N) (k_ia (h a) fun t n f => cond (Nat.beq t 0) (vp_in j n ∧ J b nx lv r2 (e_set h a (.inl (t, n, .inl (upd f j.toNatClampNeg v))))) False) False
  | .bastore => k_i1 st fun v r => k_i1 r fun j r1 => k_r1 r1 fun a r2 => cond (Nat.blt a e_N) (k_ia (h a) fun t n f => cond (Nat.beq t 1) (vp_in j n ∧ J b nx lv r2 (e_set h a (.inl (t, n, .inl (upd f j.toNatClampNeg (vp_nar .boolean v)))))) False) False
  | .lastore => k_l1 st fun v r => k_i1 r fun j r1 => k_r1 r1 fun a r2 => cond (Nat.blt a e_N) (k_la (h a) fun t n f => cond (Nat.beq t 2) (vp_in j n ∧ J b nx lv r2 (e_set h a (.inl (t, n, .inr (.inl (vp_updL f j.toNatClampNeg v)))))) False) False
  | .arraylength => k_r1 st fun a r => cond (Nat.blt a e_N) (k_len (h a) fun t n => cond (Nat.blt t 3) (k lv (.int (Int32.ofNat n) :: r) h) False) (cond (Nat.beq a 99) (k_op0 scr fun sc => k lv (.int (Int32.ofNat sc.1) :: r) h) False)
  | .invokestatic _ => k_opt (cal pc) fun C => k_take C.2.1 st [] fun as r => cond (e_dep r 8) (k_call bm b C as h (fun b' v h' => k_ov v (J b' nx lv r h') (fun w => J b' nx lv (w :: r) h')) (fun b' E h' => P b' pc (.inr E) h')) False
  | .invokevirtual _ => k_opt (cal pc) fun C => k_take C.2.1 st [] fun as r => cond (e_dep r 8) (k_call bm b C as h (fun b' v h' => k_ov v (J b' nx lv r h') (fun w => J b' nx lv (w :: r) h')) (fun b' E h' => P b' pc (.inr E) h')) False
  | .invokespecial _ => k_opt (cal pc) fun C => k_take C.2.1 st [] fun as r => cond (e_dep r 8) (k_call bm b C as h (fun b' v h' => k_ov v (J b' nx lv r h') (fun w => J b' nx lv (w :: r) h')) (fun b' E h' => P b' pc (.inr E) h')) False
  | .new _ => k_op0 (thr pc) fun E => cond (e_dep st 8) (k_le (b + 1) bm (P (b + 1) pc (.inr E) h)) False
  | .tableswitch _ lo hi offs => k_i1 st fun a r => ((a.toInt < lo ∨ hi < a.toInt) → J b tg lv r h) ∧ (¬ a.toInt < lo → ¬ hi < a.toInt → ∃ (o : Int) (t : Nat), offs[(a.toInt - lo).toNat]? = some o ∧ (pc : Int) + o = (t : Int) ∧ J b t lv r h)
  | .ireturn => k_i1 st fun a r => k_nil r (k_le b bm (P b pc (.inl (some (.int a))) h))
  | .return_ => k_nil st (k_le b bm (P b pc (.inl none) h))
  | _ => False
def e_len (i : Instr) : Nat := match i with
  | .bipush _ => 2
  | .sipush _ => 3
  | .ldc _ => 2
  | .ldc2_w _ => 3
  | .lload _ => 2
  | .lstore _ => 2
  | .iload _ => 2
  | .aload _ => 2
  | .istore _ => 2
  | .astore _ => 2
  | .iinc _ _ => 3
  | .goto _ => 3
  | .ifCond _ _ => 3
  | .if_icmp _ _ => 3
  | .getfield _ => 3
  | .putfield _ => 3
  | .invokestatic _ => 3
  | .invokevirtual _ => 3
  | .invokespecial _ => 3
  | .new _ => 3
  | .newarray _ => 2
  | .tableswitch _ _ _ _ => 85
  | _ => 1
def e_nx (x : e_I) : Nat := x.1 + e_len x.2.1
def e_hd (l : List e_I) (d : Nat) : Nat := match l with
  | [] => d
  | y :: _ => y.1
def k_hd (l : List e_I) (d : Nat) (k : Nat → Prop) : Prop := match l with
  | [] => k d
  | (pc, _) :: _ => k pc
def k_stop (stop : Nat) (l : List e_I) (j : Nat → Prop) (k : Prop) : Prop := match l with
  | [] => False
  | (pc, _) :: _ => cond (Nat.beq pc stop) (j pc) k
def e_blk (bm stop : Nat) (fld : Nat → Option e_F) (cal : Nat → Option e_C) (thr : Nat → Option String) (scr : Option (Nat × (Nat → Int32))) (J : Nat → Nat → e_L → List Value → e_H → Prop) (P : Nat → Nat → e_R → e_H → Prop) (b : Nat) : List e_I → e_L → List Value → e_H → Prop
  | [], _, _, _ => False
  | (pc, ins, tg, vl) :: rest, lv, st, h => k_hd rest (pc + e_len ins) fun nx => e_stp bm fld cal thr scr J P pc ins tg vl nx b (fun lv' st' h' => k_stop stop rest (fun q => J b q lv' st' h') (e_blk bm stop fld cal thr scr J P b rest lv' st' h')) lv st h
def e_fd {α : Type 1} : List (Nat × α) → Nat → Option α
  | [], _ => none
  | (j, a) :: l, i => cond (Nat.beq j i) (some a) (e_fd l i)
def e_f0 {α : Type} : List (Nat × α) → Nat → Option α
  | [], _ => none
  | (j, a) :: l, i => cond (Nat.beq j i) (some a) (e_f0 l i)
def e_at (pc : Nat) : List e_I → List e_I
  | [] => []
  | x :: l => cond (Nat.beq x.1 pc) (x :: l) (e_at pc l)
def e_lokA : Nat → e_L → Bool
  | _, [] => true
  | lo, (i, v) :: l => Nat.ble lo i && e_lokA (i + v.category) l
def e_lok (lv : e_L) : Bool := e_lokA 0 lv
/-- what a method's stops must be closed under: the stepper's stretches; fewer known locals; more objects made -/
def e_Cl (bm : Nat) (fld : Nat → Option e_F) (cal : Nat → Option e_C) (thr : Nat → Option String) (scr : Option (Nat × (Nat → Int32))) (code : List e_I) (P : Nat → Nat → e_R → e_H → Prop) (J : Nat → Nat → e_L → List Value → e_H → Prop) : Prop :=
  (∀ stop b pc lv st h, e_blk bm stop fld cal thr scr J P b (e_at pc code) lv st h → J b pc lv st h) ∧ (∀ b pc lv lv' ks st h, lv_pick lv ks = lv' → e_lok lv' = true → J b pc lv' st h → J b pc lv st h) ∧ (∀ b b' pc lv st h, b ≤ b' → J b' pc lv st h → J b pc lv st h)
theorem e_run {bm : Nat} {fld : Nat → Option e_F} {cal : Nat → Option e_C} {thr : Nat → Option String} {scr : Option (Nat × (Nat → Int32))} {code : List e_I} {P : Nat → Nat → e_R → e_H → Prop} {J : Nat → Nat → e_L → List Value → e_H → Prop} (hC : e_Cl bm fld cal thr scr code P J) {b pc : Nat} {lv : e_L} {st : List Value} {h : e_H} (hb : e_blk bm 99999 fld cal thr scr J P b (e_at pc code) lv st h) : J b pc lv st h := hC.1 99999 b pc lv st h hb
theorem e_weak {bm : Nat} {fld : Nat → Option e_F} {cal : Nat → Option e_C} {thr : Nat → Option String} {scr : Option (Nat × (Nat → Int32))} {code : List e_I} {P : Nat → Nat → e_R → e_H → Prop} {J : Nat → Nat → e_L → List Value → e_H → Prop} (hC : e_Cl bm fld cal thr scr code P J) {b pc : Nat} {lv lv' : e_L} {st : List Value} {h : e_H} (ks : List Nat) (h1 : lv_pick lv ks = lv') (h2 : e_lok lv' = true) (hb : J b pc lv' st h) : J b pc lv st h := hC.2.1 b pc lv lv' ks st h h1 h2 hb
/-- a stretch up to the instruction at 'stop', a loop's head -/
theorem e_runTo (stop : Nat) {bm : Nat} {fld : Nat → Option e_F} {cal : Nat → Option e_C} {thr : Nat → Option String} {scr : Option (Nat × (Nat → Int32))} {code : List e_I} {P : Nat → Nat → e_R → e_H → Prop} {J : Nat → Nat → e_L → List Value → e_H → Prop} (hC : e_Cl bm fld cal thr scr code P J) {b pc : Nat} {lv : e_L} {st : List Value} {h : e_H} (hb : e_blk bm stop fld cal thr scr J P b (e_at pc code) lv st h) : J b pc lv st h := hC.1 stop b pc lv st h hb
