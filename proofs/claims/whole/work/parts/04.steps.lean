/-! The machine's reading of a stop, of a thrown object; what a method's context gives; each step of the stepper is the machine's -/
def e_J (p : Program) (l : Launch) (e : Env) (R : Room) (s : State) (m : MethodId) (args : Array Value) (below : List Frame) (meth : Method) (c : Code) (Q : State → Prop) (D : va_G) (cl : List vw_C) (A : Nat → Prop) (nL : Nat) (ad : Nat → Nat) (tc : Nat → ClassId) (c0 s0 : Nat) (b pc : Nat) (lv : e_L) (st : List Value) (h : e_H) : Prop :=
  e_lok lv = true → ∀ (H : Heap) (locs : List Loc) (ls : Array Slot), va_P D cl (e_W ad tc h) H → va_D A (e_W ad tc h) → va_S A s.heap H locs → lv_has ls nL (e_cl ad lv) →
    W p l e R s m args below meth c H locs (c0 + b) (s0 + 6 * b) Q (F0 m pc ls (st.map (e_cV ad)))
/-- the frame g with the object at q thrown over it comes to a state with Q -/
def e_T (p : Program) (l : Launch) (e : Env) (R : Room) (s : State) (m : MethodId) (args : Array Value) (below : List Frame) (meth : Method) (c : Code) (H : Heap) (locs : List Loc) (cells slots : Nat) (Q : State → Prop) (g : JFrame) (q : Nat) : Prop :=
  ∀ T : State, T.heap = H → Stand p l e R s m args below meth c T locs cells slots → ∃ t, Steps p.tables e below ((T.setTop g).pushFrame (.throwing q)) t ∧ Q t
def e_X (p : Program) (l : Launch) (e : Env) (R : Room) (s : State) (m : MethodId) (args : Array Value) (below : List Frame) (meth : Method) (c : Code) (Q : State → Prop) (D : va_G) (cl : List vw_C) (A : Nat → Prop) (nL : Nat) (ad : Nat → Nat) (tc : Nat → ClassId) (c0 s0 : Nat) (b pc : Nat) (lv : e_L) (E : String) (h : e_H) : Prop :=
  e_lok lv = true → ∀ (H : Heap) (locs : List Loc) (ls : Array Slot) (q : Nat) (ce : Cell) (rest : List Value), va_P D cl (e_W ad tc h) H → va_D A (e_W ad tc h) → va_S A s.heap H locs → lv_has ls nL (e_cl ad lv) → H[q]? = some ce → ce.vm = .none → s.vm.findClass E = some ce.cls →
    e_T p l e R s m args below meth c H locs (c0 + b) (s0 + 6 * b) Q (F0 m pc ls rest) q
/-- what is known of a field that an instruction names -/
def e_fok (s : State) (args : Array Value) (cl : List vw_C) (own : String) (Ts : List Cond) (i : Nat) (q : e_F) : Prop :=
  ∃ (C : String) (T : u_T) (N : Nat) (ref : String) (ty0 : Nat → FieldType), cl[q.1]? = some (C, T, N) ∧ q.2.1 < N ∧ (∀ w ∈ u_ws C T N, w ∈ Ts) ∧ (Cond.fieldLink own i ref (T q.2.1).2.1 (T q.2.1).2.2.1).before args s = true ∧
    (∀ x, s.fieldFound? (T q.2.1).1 (T q.2.1).2.1 (T q.2.1).2.2.1 = some x → s.fieldFound? ref (T q.2.1).2.1 (T q.2.1).2.2.1 = some x) ∧ parseFieldDescriptor (T q.2.1).2.2.1 = some q.2.2.1 ∧ (q.2.2.2 = true → (T q.2.1).2.2.2 = false) ∧
    (∀ k, k < N → parseFieldDescriptor (T k).2.2.1 = some (ty0 k)) ∧ (∀ a, a < N → ∀ b, b < N → a ≠ b → (T a).2.1 ≠ (T b).2.1)
def e_Ctx (p : Program) (l : Launch) (e : Env) (R : Room) (s : State) (m : MethodId) (args : Array Value) (below : List Frame) (meth : Method) (c : Code) (Q : State → Prop) (D : va_G) (cl : List vw_C) (A : Nat → Prop) (nL : Nat) (ad : Nat → Nat) (tc : Nat → ClassId) (c0 s0 : Nat)
    (cc : ByteArray) (tys : List (ClassId × FieldType)) (own : String) (Ts : List Cond) (bm : Nat) (fld : Nat → Option e_F) (cst : Nat → Option Int32) (cal : Nat → Option e_C) (thr : Nat → Option String) (scr : Option (Nat × (Nat → Int32))) (P : Nat → Nat → e_R → e_H → Prop) : Prop :=
  p.tables.exec = Jvm.exec ∧ c.code = cc ∧ s.vm.findClass own = some m.cls ∧ (∀ w ∈ Ts, w.before args s = true) ∧ va_K D cl tys s ∧ tys[0]? = some (tc 0, .int) ∧ tys[1]? = some (tc 1, .boolean) ∧ tys[2]? = some (tc 2, .long) ∧
  (∀ i v, i < 100000 → cst i = some v → (Jvm.Cond.constant own i v).before args s = true) ∧ (∀ i v, cst (i + 100000) = some v → (Jvm.Cond.constantLong own i v.toInt64).before args s = true) ∧ (∀ i q, fld i = some q → e_fok s args cl own Ts i q) ∧
  (∀ pc C, cal pc = some C → ∀ (a : C.1) (b : Nat) (lv : e_L) (r : List Value), C.2.2.2.1 a → (C.2.2.2.2.1 a).length = C.2.1 → e_dep r 8 = true → b + C.2.2.1 a ≤ bm →
    (∀ v, C.2.2.2.2.2.2.1 a = .inl v → e_J p l e R s m args below meth c Q D cl A nL ad tc c0 s0 (b + C.2.2.1 a) (pc + 3) lv (v.toList ++ r) (C.2.2.2.2.2.2.2 a)) →
    (∀ E, C.2.2.2.2.2.2.1 a = .inr E → e_X p l e R s m args below meth c Q D cl A nL ad tc c0 s0 (b + C.2.2.1 a) pc lv E (C.2.2.2.2.2.2.2 a)) →
    e_J p l e R s m args below meth c Q D cl A nL ad tc c0 s0 b pc lv ((C.2.2.2.2.1 a).reverse ++ r) (C.2.2.2.2.2.1 a)) ∧
  (∀ pc E, thr pc = some E → ∀ b lv st h, e_dep st 8 = true → b + 1 ≤ bm → P (b + 1) pc (.inr E) h → e_J p l e R s m args below meth c Q D cl A nL ad tc c0 s0 b pc lv st h) ∧
  (∀ b pc E h lv, P b pc (.inr E) h → e_X p l e R s m args below meth c Q D cl A nL ad tc c0 s0 b pc lv E h) ∧
  (∀ b pc x h lv, decode cc pc = .ok (.ireturn, 1) → b ≤ bm → P b pc (.inl (some (.int x))) h → e_J p l e R s m args below meth c Q D cl A nL ad tc c0 s0 b pc lv [.int x] h) ∧
  (∀ b pc h lv, decode cc pc = .ok (.return_, 1) → b ≤ bm → P b pc (.inl none) h → e_J p l e R s m args below meth c Q D cl A nL ad tc c0 s0 b pc lv [] h) ∧
  (∀ sc, scr = some sc → va_X (ad 99) sc.1 sc.2 s s.heap ∧ ad 99 < s.heap.size ∧ ¬ A (ad 99))
def e_okV (nL : Nat) (cst : Nat → Option Int32) (pc : Nat) (i : Instr) (tg : Nat) (v : Int32) : Bool := match i with
  | .iconst n => decide (Int32.ofInt n = v)
  | .bipush n => decide ((Int8.ofInt n).toInt32 = v)
  | .sipush n => decide ((Int16.ofInt n).toInt32 = v)
  | .ldc n => !Nat.beq tg 0 || decide (cst n = some v ∧ n < 100000)
  | .iinc _ n => decide (Int32.ofInt n = v)
  | .lconst n => decide (Int64.ofNat (n : Nat) = v.toInt64)
  | .ldc2_w n => decide (cst (n + 100000) = some v)
  | .lstore n => decide (n + 1 < nL)
  | .lstore_n n => decide (n.val = tg ∧ tg + 1 < nL)
  | .istore n => decide (n < nL)
  | .iload_n n => decide (n.val = tg)
  | .aload_n n => decide (n.val = tg)
  | .lload_n n => decide (n.val = tg)
  | .istore_n n => decide (n.val = tg ∧ tg < nL)
  | .goto o => decide ((pc : Int) + o = (tg : Int))
  | .ifCond _ o => decide ((pc : Int) + o = (tg : Int))
  | .if_icmp _ o => decide ((pc : Int) + o = (tg : Int))
  | .tableswitch o _ _ _ => decide ((pc : Int) + o = (tg : Int))
  | _ => true
def e_okI (cc : ByteArray) (nL : Nat) (cst : Nat → Option Int32) (x : e_I) : Bool := decide (decode cc x.1 = .ok (x.2.1, e_len x.2.1)) && e_okV nL cst x.1 x.2.1 x.2.2.1 x.2.2.2
theorem e_has {ad : Nat → Nat} {lv lv' : e_L} {i nL : Nat} {v : Value} {ls : Array Slot} (h : lv_has ls nL ((i, e_cV ad v) :: (e_cl ad lv).filter (fun q => !(q.1 == i) && !(q.1 + 1 == i && q.2.category == 2)))) (hv : v.category = 1) (hm : ∀ q ∈ lv', q = (i, v) ∨ (q ∈ lv ∧ (q.1 + q.2.category ≤ i ∨ i + v.category ≤ q.1))) : lv_has ls nL (e_cl ad lv') := by
  refine ⟨h.1, h.2.1, fun q hq => h.2.2 q ?_⟩
  obtain ⟨z, hz, rfl⟩ := List.mem_map.mp hq
  rcases hm z hz with rfl | ⟨h1, h2⟩
  · exact List.mem_cons_self
  · refine List.mem_cons_of_mem _ (List.mem_filter.mpr ⟨List.mem_map.mpr ⟨z, h1, rfl⟩, ?_⟩)
    have h3 := s_cat z.2
    have h4 : z.1 ≠ i := by omega
    have h5 : ¬ (z.1 + 1 = i ∧ z.2.category = 2) := by omega
    simp only [e_cat, Bool.and_eq_true, Bool.not_eq_true', beq_eq_false_iff_ne, ne_eq, h4, not_false_eq_true, true_and, Bool.and_eq_false_imp, beq_iff_eq]
    intro q1 q2
    exact h5 ⟨q1, q2⟩
theorem e_has2 {ad : Nat → Nat} {lv lv' : e_L} {i nL : Nat} {v : Value} {ls : Array Slot} (h : lv_has ls nL ((i, e_cV ad v) :: (e_cl ad lv).filter (fun q => !(q.1 == i) && (!(q.1 == i + 1) && !(q.1 + 1 == i && q.2.category == 2))))) (hv : v.category = 2) (hm : ∀ q ∈ lv', q = (i, v) ∨ (q ∈ lv ∧ (q.1 + q.2.category ≤ i ∨ i + v.category ≤ q.1))) : lv_has ls nL (e_cl ad lv') := by
  refine ⟨h.1, h.2.1, fun q hq => h.2.2 q ?_⟩
  obtain ⟨z, hz, rfl⟩ := List.mem_map.mp hq
  rcases hm z hz with rfl | ⟨h1, h2⟩
  · exact List.mem_cons_self
  · refine List.mem_cons_of_mem _ (List.mem_filter.mpr ⟨List.mem_map.mpr ⟨z, h1, rfl⟩, ?_⟩)
    have h3 := s_cat z.2
    have h4 : z.1 ≠ i := by omega
    have h6 : z.1 ≠ i + 1 := by omega
    have h5 : ¬ (z.1 + 1 = i ∧ z.2.category = 2) := by omega
    simp only [e_cat, Bool.and_eq_true, Bool.not_eq_true', beq_eq_false_iff_ne, ne_eq, h4, h6, not_false_eq_true, true_and, Bool.and_eq_false_imp, beq_iff_eq]
    intro q1 q2
    exact h5 ⟨q1, q2⟩
theorem e_loc {ad : Nat → Nat} {lv : e_L} {ls : Array Slot} {nL i : Nat} {v : Value} (h : lv_has ls nL (e_cl ad lv)) (hi : (i, v) ∈ lv) : ls[i]? = some (.val (e_cV ad v)) := h.2.2 (i, e_cV ad v) (List.mem_map.mpr ⟨(i, v), hi, rfl⟩)
section ESTEP
variable {p : Program} {l : Launch} {e : Env} {R : Room} {s : State} {m : MethodId} {args : Array Value} {below : List Frame} {meth : Method} {c : Code} {Q : State → Prop} {D : va_G} {cl : List vw_C} {A : Nat → Prop} {nL : Nat} {ad : Nat → Nat} {tc : Nat → ClassId} {c0 s0 : Nat} {cc : ByteArray} {tys : List (ClassId × FieldType)} {own : String} {Ts : List Cond} {bm : Nat} {fld : Nat → Option e_F} {cst : Nat → Option Int32} {cal : Nat → Option e_C} {thr : Nat → Option String} {scr : Option (Nat × (Nat → Int32))} {P : Nat → Nat → e_R → e_H → Prop}
theorem e_store {b nx : Nat} {lv : e_L} {h : e_H} {r : List Value} {i : Nat} {v : Int32} {k : e_L → List Value → e_H → Prop} (hk : ∀ lv st h, k lv st h → e_J p l e R s m args below meth c Q D cl A nL ad tc c0 s0 b nx lv st h)
    (hs : k_put lv i (.int v) fun lv' => k lv' r h) (hl0 : e_lok lv = true) {H : Heap} {locs : List Loc} (hP : va_P D cl (e_W ad tc h) H) (hD : va_D A (e_W ad tc h)) (hS : va_S A s.heap H locs) {ls' : Array Slot}
    (hl : lv_has ls' nL ((i, Value.int v) :: (e_cl ad lv).filter (fun q => !(q.1 == i) && !(q.1 + 1 == i && q.2.category == 2)))) :
    W p l e R s m args below meth c H locs (c0 + b) (s0 + 6 * b) Q (F0 m nx ls' (r.map (e_cV ad))) := by
  obtain ⟨lv', h1, h2, h3⟩ := s_put (lo := 0) hs hl0 (Nat.zero_le _)
  exact hk lv' r h h1 h2 H locs ls' hP hD hS (e_has (v := .int v) hl rfl h3)
theorem e_store2 {b nx : Nat} {lv : e_L} {h : e_H} {r : List Value} {i : Nat} {v : Int64} {k : e_L → List Value → e_H → Prop} (hk : ∀ lv st h, k lv st h → e_J p l e R s m args below meth c Q D cl A nL ad tc c0 s0 b nx lv st h)
    (hs : k_put lv i (.long v) fun lv' => k lv' r h) (hl0 : e_lok lv = true) {H : Heap} {locs : List Loc} (hP : va_P D cl (e_W ad tc h) H) (hD : va_D A (e_W ad tc h)) (hS : va_S A s.heap H locs) {ls' : Array Slot}
    (hl : lv_has ls' nL ((i, Value.long v) :: (e_cl ad lv).filter (fun q => !(q.1 == i) && (!(q.1 == i + 1) && !(q.1 + 1 == i && q.2.category == 2))))) :
    W p l e R s m args below meth c H locs (c0 + b) (s0 + 6 * b) Q (F0 m nx ls' (r.map (e_cV ad))) := by
  obtain ⟨lv', h1, h2, h3⟩ := s_put (lo := 0) hs hl0 (Nat.zero_le _)
  exact hk lv' r h h1 h2 H locs ls' hP hD hS (e_has2 (v := .long v) hl rfl h3)
set_option maxHeartbeats 4000000 in
set_option maxRecDepth 100000 in
theorem e_stp_ok (Γ : e_Ctx p l e R s m args below meth c Q D cl A nL ad tc c0 s0 cc tys own Ts bm fld cst cal thr scr P) (x : e_I) (hok : e_okI cc nL cst x = true) {nx b : Nat} (hnx : nx = e_nx x) {k : e_L → List Value → e_H → Prop} (hk : ∀ lv st h, k lv st h → e_J p l e R s m args below meth c Q D cl A nL ad tc c0 s0 b nx lv st h) {lv : e_L} {st : List Value} {h : e_H}
    (hs0 : e_stp bm fld cal thr scr (e_J p l e R s m args below meth c Q D cl A nL ad tc c0 s0) P x.1 x.2.1 x.2.2.1 x.2.2.2 nx b k lv st h) : e_J p l e R s m args below meth c Q D cl A nL ad tc c0 s0 b x.1 lv st h := by
  obtain ⟨hx, hb, hown, hts, hK, ht0, ht1, ht2, hcst, hcsl, hfld, hcal, hthr, hPX, hret, hrtv, hscr⟩ := Γ
  obtain ⟨pc, ins, tg, vl⟩ := x
  have hok' : (decide (decode cc pc = .ok (ins, e_len ins)) && e_okV nL cst pc ins tg vl) = true := hok
  rw [Bool.and_eq_true] at hok'
  obtain ⟨hd0, hv⟩ := hok'
  have hd := of_decide_eq_true hd0
  clear hd0 hok
  have hnx2 : nx = pc + e_len ins := hnx
  clear hnx
  subst hnx2
  show e_J p l e R s m args below meth c Q D cl A nL ad tc c0 s0 b pc lv st h
  have hs : e_stp bm fld cal thr scr (e_J p l e R s m args below meth c Q D cl A nL ad tc c0 s0) P pc ins tg vl (pc + e_len ins) b k lv st h := hs0
  clear hs0
  cases ins <;> first | exact False.elim hs | skip
  case iconst n =>
    intro hl0 H locs ls hP hD hS hl
    exact lv_iconst hx hb hd (of_decide_eq_true hv) (hk _ _ _ hs hl0 H locs ls hP hD hS hl)
  case bipush n =>
    intro hl0 H locs ls hP hD hS hl
    exact lv_bipush hx hb hd (of_decide_eq_true hv) (hk _ _ _ hs hl0 H locs ls hP hD hS hl)
  case sipush n =>
    intro hl0 H locs ls hP hD hS hl
    exact lv_sipush hx hb hd (of_decide_eq_true hv) (hk _ _ _ hs hl0 H locs ls hP hD hS hl)
  case ldc n =>
    obtain ⟨h1, hs1⟩ := s_cond hs
    intro hl0 H locs ls hP hD hS hl
    have hv1 : (!Nat.beq tg 0 || decide (cst n = some vl ∧ n < 100000)) = true := hv
    rw [h1] at hv1
    have hv := of_decide_eq_true hv1
    exact lv_ldc hx hb hown (hcst n vl hv.2 hv.1) hd (hk _ _ _ hs1 hl0 H locs ls hP hD hS hl)
  case lconst n =>
    intro hl0 H locs ls hP hD hS hl
    exact lv_lconst hx hb hd (of_decide_eq_true hv) (hk _ _ _ hs hl0 H locs ls hP hD hS hl)
  case ldc2_w n =>
    intro hl0 H locs ls hP hD hS hl
    exact lv_ldc2 hx hb hown (hcsl n vl (of_decide_eq_true hv)) hd (hk _ _ _ hs hl0 H locs ls hP hD hS hl)
  case lload_n n =>
    obtain ⟨v, h1, hs1⟩ := s_get hs
    obtain ⟨a, rfl, hs2⟩ := s_lng hs1
    intro hl0 H locs ls hP hD hS hl
    exact lv_lload_n hx hb hd (of_decide_eq_true hv) (e_loc hl h1) (hk _ _ _ hs2 hl0 H locs ls hP hD hS hl)
  case lload n =>
    obtain ⟨v, h1, hs1⟩ := s_get hs
    obtain ⟨a, rfl, hs2⟩ := s_lng hs1
    intro hl0 H locs ls hP hD hS hl
    exact lv_lload hx hb hd (e_loc hl h1) (hk _ _ _ hs2 hl0 H locs ls hP hD hS hl)
  case lstore_n n =>
    obtain ⟨a, r, rfl, hs1⟩ := s_l1 hs
    intro hl0 H locs ls hP hD hS hl
    have hv2 := of_decide_eq_true hv
    exact lv_lstore_n hx hb hd hv2.1 hl hv2.2 rfl (fun ls' hl' => e_store2 hk hs1 hl0 hP hD hS hl')
  case lstore n =>
    obtain ⟨a, r, rfl, hs1⟩ := s_l1 hs
    intro hl0 H locs ls hP hD hS hl
    exact lv_lstore hx hb hd hl (of_decide_eq_true hv) rfl (fun ls' hl' => e_store2 hk hs1 hl0 hP hD hS hl')
  case l2i =>
    obtain ⟨a, r, rfl, hs1⟩ := s_l1 hs
    intro hl0 H locs ls hP hD hS hl
    exact lv_l2i hx hb hd rfl (hk _ _ _ hs1 hl0 H locs ls hP hD hS hl)
  case lneg =>
    obtain ⟨a, r, rfl, hs1⟩ := s_l1 hs
    intro hl0 H locs ls hP hD hS hl
    exact lv_lneg hx hb hd (hk _ _ _ hs1 hl0 H locs ls hP hD hS hl)
  case ladd =>
    obtain ⟨a2, r, rfl, hs1⟩ := s_l1 hs
    obtain ⟨a, r2, rfl, hs2⟩ := s_l1 hs1
    intro hl0 H locs ls hP hD hS hl
    exact lv_ladd hx hb hd (hk _ _ _ hs2 hl0 H locs ls hP hD hS hl)
  case iload_n n =>
    obtain ⟨v, h1, hs1⟩ := s_get hs
    obtain ⟨a, rfl, hs2⟩ := s_int hs1
    intro hl0 H locs ls hP hD hS hl
    exact lv_iload_n hx hb hd (of_decide_eq_true hv) (e_loc hl h1) (hk _ _ _ hs2 hl0 H locs ls hP hD hS hl)
  case aload_n n =>
    obtain ⟨v, h1, hs1⟩ := s_get hs
    obtain ⟨a, rfl, hs2⟩ := s_ref hs1
    intro hl0 H locs ls hP hD hS hl
    exact lv_aload_n hx hb hd (of_decide_eq_true hv) (e_loc hl h1) (hk _ _ _ hs2 hl0 H locs ls hP hD hS hl)
  case iload n =>
    obtain ⟨v, h1, hs1⟩ := s_get hs
    obtain ⟨a, rfl, hs2⟩ := s_int hs1
    intro hl0 H locs ls hP hD hS hl
    exact lv_iload hx hb hd (e_loc hl h1) (hk _ _ _ hs2 hl0 H locs ls hP hD hS hl)
  case aload n =>
    obtain ⟨v, h1, hs1⟩ := s_get hs
    obtain ⟨a, rfl, hs2⟩ := s_ref hs1
    intro hl0 H locs ls hP hD hS hl
    exact lv_aload hx hb hd (e_loc hl h1) (hk _ _ _ hs2 hl0 H locs ls hP hD hS hl)
  case istore_n n =>
    obtain ⟨a, r, rfl, hs1⟩ := s_i1 hs
    intro hl0 H locs ls hP hD hS hl
    have hv2 := of_decide_eq_true hv
    exact lv_istore_n hx hb hd hv2.1 hl hv2.2 rfl (fun ls' hl' => e_store hk hs1 hl0 hP hD hS hl')
  case istore n =>
    obtain ⟨a, r, rfl, hs1⟩ := s_i1 hs
    intro hl0 H locs ls hP hD hS hl
    exact lv_istore hx hb hd hl (of_decide_eq_true hv) rfl (fun ls' hl' => e_store hk hs1 hl0 hP hD hS hl')
  case iinc n z =>
    obtain ⟨v, h1, hs1⟩ := s_get hs
    obtain ⟨a, rfl, hs2⟩ := s_int hs1
    intro hl0 H locs ls hP hD hS hl
    have hz : Int32.ofInt z = vl := of_decide_eq_true hv
    obtain ⟨j, hj⟩ := List.getElem?_of_mem (List.mem_map.mpr ⟨(n, Value.int a), h1, rfl⟩ : (n, e_cV ad (.int a)) ∈ e_cl ad lv)
    have hn : n < nL := by rw [← hl.1]; exact lv_lt (e_loc hl h1)
    exact lv_iinc hx hb hd hl hj (by rw [hz]) hn rfl (fun ls' hl' => e_store hk hs2 hl0 hP hD hS hl')
  case iadd =>
    obtain ⟨a, a2, r, rfl, hs1⟩ := s_i2 hs
    intro hl0 H locs ls hP hD hS hl
    exact lv_iadd hx hb hd (hk _ _ _ hs1 hl0 H locs ls hP hD hS hl)
  case isub =>
    obtain ⟨a, a2, r, rfl, hs1⟩ := s_i2 hs
    intro hl0 H locs ls hP hD hS hl
    exact lv_isub hx hb hd (hk _ _ _ hs1 hl0 H locs ls hP hD hS hl)
  case imul =>
    obtain ⟨a, a2, r, rfl, hs1⟩ := s_i2 hs
    intro hl0 H locs ls hP hD hS hl
    exact lv_imul hx hb hd (hk _ _ _ hs1 hl0 H locs ls hP hD hS hl)
  case iand =>
    obtain ⟨a, a2, r, rfl, hs1⟩ := s_i2 hs
    intro hl0 H locs ls hP hD hS hl
    exact lv_iand hx hb hd (hk _ _ _ hs1 hl0 H locs ls hP hD hS hl)
  case ior =>
    obtain ⟨a, a2, r, rfl, hs1⟩ := s_i2 hs
    intro hl0 H locs ls hP hD hS hl
    exact lv_ior hx hb hd (hk _ _ _ hs1 hl0 H locs ls hP hD hS hl)
  case ixor =>
    obtain ⟨a, a2, r, rfl, hs1⟩ := s_i2 hs
    intro hl0 H locs ls hP hD hS hl
    exact lv_ixor hx hb hd (hk _ _ _ hs1 hl0 H locs ls hP hD hS hl)
  case ishl =>
    obtain ⟨a, a2, r, rfl, hs1⟩ := s_i2 hs
    intro hl0 H locs ls hP hD hS hl
    exact lv_ishl hx hb hd (hk _ _ _ hs1 hl0 H locs ls hP hD hS hl)
  case ishr =>
    obtain ⟨a, a2, r, rfl, hs1⟩ := s_i2 hs
    intro hl0 H locs ls hP hD hS hl
    exact lv_ishr hx hb hd (hk _ _ _ hs1 hl0 H locs ls hP hD hS hl)
  case iushr =>
    obtain ⟨a, a2, r, rfl, hs1⟩ := s_i2 hs
    intro hl0 H locs ls hP hD hS hl
    exact lv_iushr hx hb hd rfl (hk _ _ _ hs1 hl0 H locs ls hP hD hS hl)
  case idiv =>
    obtain ⟨a, a2, r, rfl, hs1⟩ := s_i2 hs
    intro hl0 H locs ls hP hD hS hl
    exact lv_idiv hx hb hd hs1.1 (hs1.2 hl0 H locs ls hP hD hS hl)
  case irem =>
    obtain ⟨a, a2, r, rfl, hs1⟩ := s_i2 hs
    intro hl0 H locs ls hP hD hS hl
    exact lv_irem hx hb hd hs1.1 (hs1.2 hl0 H locs ls hP hD hS hl)
  case ineg =>
    obtain ⟨a, r, rfl, hs1⟩ := s_i1 hs
    intro hl0 H locs ls hP hD hS hl
    exact lv_ineg hx hb hd (hk _ _ _ hs1 hl0 H locs ls hP hD hS hl)
  case i2l =>
    obtain ⟨a, r, rfl, hs1⟩ := s_i1 hs
    intro hl0 H locs ls hP hD hS hl
    exact lv_i2l hx hb hd rfl (hk _ _ _ hs1 hl0 H locs ls hP hD hS hl)
  case lcmp =>
    obtain ⟨a2, r, rfl, hs1⟩ := s_l1 hs
    obtain ⟨a, r2, rfl, hs2⟩ := s_l1 hs1
    intro hl0 H locs ls hP hD hS hl
    exact W.lcmp hx hb hd (hk _ _ _ hs2 hl0 H locs ls hP hD hS hl)
  case dup =>
    obtain ⟨v, r, rfl, hs1⟩ := s_pop hs
    obtain ⟨h1, hs2⟩ := s_cond hs1
    intro hl0 H locs ls hP hD hS hl
    exact lv_dup hx hb hd ((e_cat ad v).trans (Nat.eq_of_beq_eq_true h1)) (hk _ _ _ hs2 hl0 H locs ls hP hD hS hl)
  case pop =>
    obtain ⟨v, r, rfl, hs1⟩ := s_pop hs
    obtain ⟨h1, hs2⟩ := s_cond hs1
    intro hl0 H locs ls hP hD hS hl
    exact lv_pop hx hb hd ((e_cat ad v).trans (Nat.eq_of_beq_eq_true h1)) (hk _ _ _ hs2 hl0 H locs ls hP hD hS hl)
  case dup_x1 =>
    obtain ⟨v, r, rfl, hs1⟩ := s_pop hs
    obtain ⟨w, r2, rfl, hs2⟩ := s_pop hs1
    obtain ⟨h1, hs3⟩ := s_cond hs2
    obtain ⟨h2, hs4⟩ := s_cond hs3
    intro hl0 H locs ls hP hD hS hl
    exact lv_dup_x1 hx hb hd ((e_cat ad v).trans (Nat.eq_of_beq_eq_true h1)) ((e_cat ad w).trans (Nat.eq_of_beq_eq_true h2)) (hk _ _ _ hs4 hl0 H locs ls hP hD hS hl)
  case dup2 =>
    obtain ⟨v, r, rfl, hs1⟩ := s_pop hs
    obtain ⟨w, r2, rfl, hs2⟩ := s_pop hs1
    obtain ⟨h1, hs3⟩ := s_cond hs2
    obtain ⟨h2, hs4⟩ := s_cond hs3
    intro hl0 H locs ls hP hD hS hl
    exact lv_dup2_11 hx hb hd ((e_cat ad v).trans (Nat.eq_of_beq_eq_true h1)) ((e_cat ad w).trans (Nat.eq_of_beq_eq_true h2)) (hk _ _ _ hs4 hl0 H locs ls hP hD hS hl)
  case goto o =>
    intro hl0 H locs ls hP hD hS hl
    exact lv_goto hx hb hd (of_decide_eq_true hv) (hs hl0 H locs ls hP hD hS hl)
  case ifCond q o =>
    obtain ⟨a, r, rfl, hs1⟩ := s_i1 hs
    have ht : (pc : Int) + o = (tg : Int) := of_decide_eq_true hv
    intro hl0 H locs ls hP hD hS hl
    cases q with
    | eq => exact lv_if_eq hx hb hd ht (fun z => hs1.1 z hl0 H locs ls hP hD hS hl) (fun z => hs1.2 z hl0 H locs ls hP hD hS hl)
    | ne => exact lv_if_ne hx hb hd ht (fun z => hs1.1 z hl0 H locs ls hP hD hS hl) (fun z => hs1.2 z hl0 H locs ls hP hD hS hl)
    | lt => exact lv_if_lt hx hb hd ht (fun z => hs1.1 z hl0 H locs ls hP hD hS hl) (fun z => hs1.2 z hl0 H locs ls hP hD hS hl)
    | ge => exact lv_if_ge hx hb hd ht (fun z => hs1.1 z hl0 H locs ls hP hD hS hl) (fun z => hs1.2 z hl0 H locs ls hP hD hS hl)
    | gt => exact lv_if_gt hx hb hd ht (fun z => hs1.1 z hl0 H locs ls hP hD hS hl) (fun z => hs1.2 z hl0 H locs ls hP hD hS hl)
    | le => exact lv_if_le hx hb hd ht (fun z => hs1.1 z hl0 H locs ls hP hD hS hl) (fun z => hs1.2 z hl0 H locs ls hP hD hS hl)
  case if_icmp q o =>
    obtain ⟨a, a2, r, rfl, hs1⟩ := s_i2 hs
    have ht : (pc : Int) + o = (tg : Int) := of_decide_eq_true hv
    intro hl0 H locs ls hP hD hS hl
    cases q with
    | eq => exact lv_icmp_eq hx hb hd ht (fun z => hs1.1 z hl0 H locs ls hP hD hS hl) (fun z => hs1.2 z hl0 H locs ls hP hD hS hl)
    | ne => exact lv_icmp_ne hx hb hd ht (fun z => hs1.1 z hl0 H locs ls hP hD hS hl) (fun z => hs1.2 z hl0 H locs ls hP hD hS hl)
    | lt => exact lv_icmp_lt hx hb hd ht (fun z => hs1.1 z hl0 H locs ls hP hD hS hl) (fun z => hs1.2 z hl0 H locs ls hP hD hS hl)
    | ge => exact lv_icmp_ge hx hb hd ht (fun z => hs1.1 z hl0 H locs ls hP hD hS hl) (fun z => hs1.2 z hl0 H locs ls hP hD hS hl)
    | gt => exact lv_icmp_gt hx hb hd ht (fun z => hs1.1 z hl0 H locs ls hP hD hS hl) (fun z => hs1.2 z hl0 H locs ls hP hD hS hl)
    | le => exact lv_icmp_le hx hb hd ht (fun z => hs1.1 z hl0 H locs ls hP hD hS hl) (fun z => hs1.2 z hl0 H locs ls hP hD hS hl)
  case getfield i =>
    obtain ⟨q, hq, hs1⟩ := s_op0 hs
    obtain ⟨a, r, rfl, hs2⟩ := s_r1 hs1
    obtain ⟨hn, hs3⟩ := s_cond hs2
    obtain ⟨ci, fs, ho, hs4⟩ := s_obj hs3
    obtain ⟨hc, hs5⟩ := s_cond hs4
    obtain ⟨v, hv1, hs6⟩ := s_nth hs5
    have hn : a < e_N := Nat.le_of_ble_eq_true hn
    have hc : ci = q.1 := Nat.eq_of_beq_eq_true hc
    subst hc
    obtain ⟨C, T, N, ref, ty0, f1, f2, f3, f4, f5, f6, f7, f8, f9⟩ := hfld i q hq
    intro hl0 H locs ls hP hD hS hl
    have he : (e_W ad tc h)[a]? = some (ad a, .inr (q.1, fs.map (e_cV ad))) := by rw [e_W_at ad tc h hn, ho]; rfl
    exact va_get hx hb hts f3 hown hK hP a he f1 q.2.1 f2 f4 f5 (v := e_cV ad v) (by rw [List.getElem?_map, hv1]; rfl) hd (hk _ _ _ hs6 hl0 H locs ls hP hD hS hl)
  case putfield i =>
    obtain ⟨q, hq, hs1⟩ := s_op0 hs
    obtain ⟨v, r, rfl, hs2⟩ := s_i1 hs1
    obtain ⟨a, r2, rfl, hs3⟩ := s_r1 hs2
    obtain ⟨hn, hs4⟩ := s_cond hs3
    obtain ⟨ci, fs, ho, hs5⟩ := s_obj hs4
    obtain ⟨hc, hs6⟩ := s_cond hs5
    obtain ⟨hw, hs7⟩ := s_cond hs6
    obtain ⟨g1, g2, hs8⟩ := s_fit hs7
    obtain ⟨g3, hs9⟩ := s_upd hs8
    have hn : a < e_N := Nat.le_of_ble_eq_true hn
    have hc : ci = q.1 := Nat.eq_of_beq_eq_true hc
    subst hc
    obtain ⟨C, T, N, ref, ty0, f1, f2, f3, f4, f5, f6, f7, f8, f9⟩ := hfld i q hq
    intro hl0 H locs ls hP hD hS hl
    have he : (e_W ad tc h)[a]? = some (ad a, .inr (q.1, fs.map (e_cV ad))) := by rw [e_W_at ad tc h hn, ho]; rfl
    have hset : (e_W ad tc h).set a (ad a, .inr (q.1, (fs.map (e_cV ad)).set q.2.1 (.int v))) = e_W ad tc (e_set h a (.inr (q.1, fs.set q.2.1 (.int v)))) := by
      rw [← e_W_set ad tc h hn (.inr (q.1, fs.set q.2.1 (.int v)))]
      simp only [e_cE, List.map_set, e_cV]
    refine va_put hx hb hts f3 ty0 f8 f9 hown hK hP hD hS a he f1 q.2.1 f2 f4 f5 (f7 hw) (v := .int v) f6 g1 g2 (by rw [List.length_map]; exact g3) hd (fun H1 locs1 hP1 hD1 hS1 => ?_)
    rw [hset] at hP1 hD1
    exact hs9 hl0 H1 locs1 ls hP1 hD1 hS1 hl
  case iaload =>
    obtain ⟨j, r, rfl, hs1⟩ := s_i1 hs
    obtain ⟨a, r2, rfl, hs2⟩ := s_r1 hs1
    rcases s_cond2 hs2 with ⟨hn, hs3⟩ | ⟨hn, hs3⟩
    · obtain ⟨t, n, f, ho, hs4⟩ := s_ia hs3
      obtain ⟨h2, hs5⟩ := s_cond hs4
      have h2 : t = 0 := Nat.eq_of_beq_eq_true h2
      subst h2
      have hn : a < e_N := Nat.le_of_ble_eq_true hn
      intro hl0 H locs ls hP hD hS hl
      have he : (e_W ad tc h)[a]? = some (ad a, .inl (tc 0, n, .inl f)) := by rw [e_W_at ad tc h hn, ho]; rfl
      exact va_iald hx hb hK hP a 0 he ht0 hs5.1 hd (hs5.2 hl0 H locs ls hP hD hS hl)
    · obtain ⟨h2, hsb⟩ := s_cond hs3
      have h2 : a = 99 := Nat.eq_of_beq_eq_true h2
      subst h2
      obtain ⟨sc, hsc, hsc2⟩ := s_op0 hsb
      obtain ⟨x1, x2, x3⟩ := hscr sc hsc
      intro hl0 H locs ls hP hD hS hl
      exact va_sld hx hb x1 x2 x3 hS hsc2.1 hd (hsc2.2 hl0 H locs ls hP hD hS hl)
  case baload =>
    obtain ⟨j, r, rfl, hs1⟩ := s_i1 hs
    obtain ⟨a, r2, rfl, hs2⟩ := s_r1 hs1
    obtain ⟨hn, hs3⟩ := s_cond hs2
    obtain ⟨t, n, f, ho, hs4⟩ := s_ia hs3
    obtain ⟨h2, hs5⟩ := s_cond hs4
    have h2 : t = 1 := Nat.eq_of_beq_eq_true h2
    subst h2
    have hn : a < e_N := Nat.le_of_ble_eq_true hn
    intro hl0 H locs ls hP hD hS hl
    have he : (e_W ad tc h)[a]? = some (ad a, .inl (tc 1, n, .inl f)) := by rw [e_W_at ad tc h hn, ho]; rfl
    exact va_zald hx hb hK hP a 1 he ht1 hs5.1 hd (hs5.2 hl0 H locs ls hP hD hS hl)
  case laload =>
    obtain ⟨j, r, rfl, hs1⟩ := s_i1 hs
    obtain ⟨a, r2, rfl, hs2⟩ := s_r1 hs1
    obtain ⟨hn, hs3⟩ := s_cond hs2
    obtain ⟨t, n, f, ho, hs4⟩ := s_la hs3
    obtain ⟨h2, hs5⟩ := s_cond hs4
    have h2 : t = 2 := Nat.eq_of_beq_eq_true h2
    subst h2
    have hn : a < e_N := Nat.le_of_ble_eq_true hn
    intro hl0 H locs ls hP hD hS hl
    have he : (e_W ad tc h)[a]? = some (ad a, .inl (tc 2, n, .inr (.inl f))) := by rw [e_W_at ad tc h hn, ho]; rfl
    exact va_lald hx hb hK hP a 2 he ht2 hs5.1 hd (hs5.2 hl0 H locs ls hP hD hS hl)
  case iastore =>
    obtain ⟨v, r, rfl, hs1⟩ := s_i1 hs
    obtain ⟨j, r1, rfl, hs2⟩ := s_i1 hs1
    obtain ⟨a, r2, rfl, hs3⟩ := s_r1 hs2
    obtain ⟨hn, hs4⟩ := s_cond hs3
    obtain ⟨t, n, f, ho, hs5⟩ := s_ia hs4
    obtain ⟨h2, hs6⟩ := s_cond hs5
    have h2 : t = 0 := Nat.eq_of_beq_eq_true h2
    subst h2
    have hn : a < e_N := Nat.le_of_ble_eq_true hn
    intro hl0 H locs ls hP hD hS hl
    have he : (e_W ad tc h)[a]? = some (ad a, .inl (tc 0, n, .inl f)) := by rw [e_W_at ad tc h hn, ho]; rfl
    have hset : (e_W ad tc h).set a (ad a, .inl (tc 0, n, .inl (upd f j.toNatClampNeg v))) = e_W ad tc (e_set h a (.inl (0, n, .inl (upd f j.toNatClampNeg v)))) := e_W_set ad tc h hn (.inl (0, n, .inl (upd f j.toNatClampNeg v)))
    refine va_iast hx hb hK hP hD hS a 0 he ht0 hs6.1 hd (fun H1 locs1 hP1 hD1 hS1 => ?_)
    rw [hset] at hP1 hD1
    exact hs6.2 hl0 H1 locs1 ls hP1 hD1 hS1 hl
  case bastore =>
    obtain ⟨v, r, rfl, hs1⟩ := s_i1 hs
    obtain ⟨j, r1, rfl, hs2⟩ := s_i1 hs1
    obtain ⟨a, r2, rfl, hs3⟩ := s_r1 hs2
    obtain ⟨hn, hs4⟩ := s_cond hs3
    obtain ⟨t, n, f, ho, hs5⟩ := s_ia hs4
    obtain ⟨h2, hs6⟩ := s_cond hs5
    have h2 : t = 1 := Nat.eq_of_beq_eq_true h2
    subst h2
    have hn : a < e_N := Nat.le_of_ble_eq_true hn
    intro hl0 H locs ls hP hD hS hl
    have he : (e_W ad tc h)[a]? = some (ad a, .inl (tc 1, n, .inl f)) := by rw [e_W_at ad tc h hn, ho]; rfl
    have hset : (e_W ad tc h).set a (ad a, .inl (tc 1, n, .inl (upd f j.toNatClampNeg (vp_nar .boolean v)))) = e_W ad tc (e_set h a (.inl (1, n, .inl (upd f j.toNatClampNeg (vp_nar .boolean v))))) := e_W_set ad tc h hn (.inl (1, n, .inl (upd f j.toNatClampNeg (vp_nar .boolean v))))
    refine va_zast hx hb hK hP hD hS a 1 he ht1 hs6.1 hd (fun H1 locs1 hP1 hD1 hS1 => ?_)
    rw [hset] at hP1 hD1
    exact hs6.2 hl0 H1 locs1 ls hP1 hD1 hS1 hl
  case lastore =>
    obtain ⟨v, r, rfl, hs1⟩ := s_l1 hs
    obtain ⟨j, r1, rfl, hs2⟩ := s_i1 hs1
    obtain ⟨a, r2, rfl, hs3⟩ := s_r1 hs2
    obtain ⟨hn, hs4⟩ := s_cond hs3
    obtain ⟨t, n, f, ho, hs5⟩ := s_la hs4
    obtain ⟨h2, hs6⟩ := s_cond hs5
    have h2 : t = 2 := Nat.eq_of_beq_eq_true h2
    subst h2
    have hn : a < e_N := Nat.le_of_ble_eq_true hn
    intro hl0 H locs ls hP hD hS hl
    have he : (e_W ad tc h)[a]? = some (ad a, .inl (tc 2, n, .inr (.inl f))) := by rw [e_W_at ad tc h hn, ho]; rfl
    have hset : (e_W ad tc h).set a (ad a, .inl (tc 2, n, .inr (.inl (vp_updL f j.toNatClampNeg v)))) = e_W ad tc (e_set h a (.inl (2, n, .inr (.inl (vp_updL f j.toNatClampNeg v))))) := e_W_set ad tc h hn (.inl (2, n, .inr (.inl (vp_updL f j.toNatClampNeg v))))
    refine va_last hx hb hK hP hD hS a 2 he ht2 hs6.1 hd (fun H1 locs1 hP1 hD1 hS1 => ?_)
    rw [hset] at hP1 hD1
    exact hs6.2 hl0 H1 locs1 ls hP1 hD1 hS1 hl
  case arraylength =>
    obtain ⟨a, r, rfl, hs1⟩ := s_r1 hs
    rcases s_cond2 hs1 with ⟨hn, hs2⟩ | ⟨hn, hs2⟩
    · obtain ⟨t, n, f, ho, hs3⟩ := s_len hs2
      obtain ⟨h2, hs4⟩ := s_cond hs3
      have h2 : t < 3 := Nat.le_of_ble_eq_true h2
      have hn : a < e_N := Nat.le_of_ble_eq_true hn
      intro hl0 H locs ls hP hD hS hl
      have he : (e_W ad tc h)[a]? = some (ad a, .inl (tc t, n, f)) := by rw [e_W_at ad tc h hn, ho]; rfl
      have h3 : ∀ z : Nat, z < 3 → z = 0 ∨ z = 1 ∨ z = 2 := fun z hz => by omega
      rcases h3 t h2 with rfl | rfl | rfl
      · exact va_alen hx hb hK hP a 0 he ht0 rfl hd (hk _ _ _ hs4 hl0 H locs ls hP hD hS hl)
      · exact va_alen hx hb hK hP a 1 he ht1 rfl hd (hk _ _ _ hs4 hl0 H locs ls hP hD hS hl)
      · exact va_alen hx hb hK hP a 2 he ht2 rfl hd (hk _ _ _ hs4 hl0 H locs ls hP hD hS hl)
    · obtain ⟨h2, hsb⟩ := s_cond hs2
      have h2 : a = 99 := Nat.eq_of_beq_eq_true h2
      subst h2
      obtain ⟨sc, hsc, hsc2⟩ := s_op0 hsb
      obtain ⟨x1, x2, x3⟩ := hscr sc hsc
      intro hl0 H locs ls hP hD hS hl
      exact va_slen hx hb x1 x2 x3 hS hd (hk _ _ _ hsc2 hl0 H locs ls hP hD hS hl)
  case invokestatic i =>
    obtain ⟨C, hC, hs1⟩ := s_opt hs
    obtain ⟨as, r, rfl, hlen, hs2⟩ := s_take hs1
    obtain ⟨hdp, hs3⟩ := s_cond hs2
    obtain ⟨a, c1, c2, c3, c40⟩ := hs3
    obtain ⟨hbm, c4⟩ := s_le (s_plus c40)
    obtain ⟨d1, d2⟩ := s_res c4
    rw [List.append_nil] at c2
    subst c2
    subst c3
    exact hcal pc C hC a b lv r c1 hlen hdp hbm (fun v hv => s_ov (F := fun st => e_J p l e R s m args below meth c Q D cl A nL ad tc c0 s0 _ _ lv st _) (d1 v hv)) (fun E hE => hPX _ _ _ _ lv (d2 E hE))
  case invokevirtual i =>
    obtain ⟨C, hC, hs1⟩ := s_opt hs
    obtain ⟨as, r, rfl, hlen, hs2⟩ := s_take hs1
    obtain ⟨hdp, hs3⟩ := s_cond hs2
    obtain ⟨a, c1, c2, c3, c40⟩ := hs3
    obtain ⟨hbm, c4⟩ := s_le (s_plus c40)
    obtain ⟨d1, d2⟩ := s_res c4
    rw [List.append_nil] at c2
    subst c2
    subst c3
    exact hcal pc C hC a b lv r c1 hlen hdp hbm (fun v hv => s_ov (F := fun st => e_J p l e R s m args below meth c Q D cl A nL ad tc c0 s0 _ _ lv st _) (d1 v hv)) (fun E hE => hPX _ _ _ _ lv (d2 E hE))
  case invokespecial i =>
    obtain ⟨C, hC, hs1⟩ := s_opt hs
    obtain ⟨as, r, rfl, hlen, hs2⟩ := s_take hs1
    obtain ⟨hdp, hs3⟩ := s_cond hs2
    obtain ⟨a, c1, c2, c3, c40⟩ := hs3
    obtain ⟨hbm, c4⟩ := s_le (s_plus c40)
    obtain ⟨d1, d2⟩ := s_res c4
    rw [List.append_nil] at c2
    subst c2
    subst c3
    exact hcal pc C hC a b lv r c1 hlen hdp hbm (fun v hv => s_ov (F := fun st => e_J p l e R s m args below meth c Q D cl A nL ad tc c0 s0 _ _ lv st _) (d1 v hv)) (fun E hE => hPX _ _ _ _ lv (d2 E hE))
  case new i =>
    obtain ⟨E, hE, hs1⟩ := s_op0 hs
    obtain ⟨hdp, hs2⟩ := s_cond hs1
    obtain ⟨hbm, hs3⟩ := s_le hs2
    exact hthr pc E hE b lv st h hdp hbm hs3
  case tableswitch d lo hi offs =>
    obtain ⟨a, r, rfl, hs1⟩ := s_i1 hs
    have hv := of_decide_eq_true hv
    intro hl0 H locs ls hP hD hS hl
    by_cases h1 : a.toInt < lo
    · exact lv_tableOut hx hb hd (Or.inl h1) hv (hs1.1 (Or.inl h1) hl0 H locs ls hP hD hS hl)
    · by_cases h2 : hi < a.toInt
      · exact lv_tableOut hx hb hd (Or.inr h2) hv (hs1.1 (Or.inr h2) hl0 H locs ls hP hD hS hl)
      · obtain ⟨o, t, q1, q2, q3⟩ := hs1.2 h1 h2
        exact lv_tableIn hx hb hd h1 h2 q1 q2 (q3 hl0 H locs ls hP hD hS hl)
  case ireturn =>
    obtain ⟨a, r, rfl, hs1⟩ := s_i1 hs
    obtain ⟨rfl, hs2⟩ := s_nil hs1
    obtain ⟨hbm, hs3⟩ := s_le hs2
    exact hret b pc a h lv hd hbm hs3
  case return_ =>
    obtain ⟨rfl, hs1⟩ := s_nil hs
    obtain ⟨hbm, hs2⟩ := s_le hs1
    exact hrtv b pc h lv hd hbm hs2
end ESTEP
def e_chain : List e_I → Bool
  | [] => true
  | x :: l => Nat.beq (e_hd l (e_nx x)) (e_nx x) && e_chain l
def e_okC (cc : ByteArray) (nL : Nat) (cst : Nat → Option Int32) (code : List e_I) : Bool := code.all (e_okI cc nL cst) && e_chain code
section ESOUND
variable {p : Program} {l : Launch} {e : Env} {R : Room} {s : State} {m : MethodId} {args : Array Value} {below : List Frame} {meth : Method} {c : Code} {Q : State → Prop} {D : va_G} {cl : List vw_C} {A : Nat → Prop} {nL : Nat} {ad : Nat → Nat} {tc : Nat → ClassId} {c0 s0 : Nat} {cc : ByteArray} {tys : List (ClassId × FieldType)} {own : String} {Ts : List Cond} {bm : Nat} {fld : Nat → Option e_F} {cst : Nat → Option Int32} {cal : Nat → Option e_C} {thr : Nat → Option String} {scr : Option (Nat × (Nat → Int32))} {P : Nat → Nat → e_R → e_H → Prop}
theorem e_blk_ok (Γ : e_Ctx p l e R s m args below meth c Q D cl A nL ad tc c0 s0 cc tys own Ts bm fld cst cal thr scr P) (stop b : Nat) : ∀ (code : List e_I), code.all (e_okI cc nL cst) = true → e_chain code = true → ∀ lv st h, e_blk bm stop fld cal thr scr (e_J p l e R s m args below meth c Q D cl A nL ad tc c0 s0) P b code lv st h → ∀ x t, code = x :: t → e_J p l e R s m args below meth c Q D cl A nL ad tc c0 s0 b x.1 lv st h := by
  intro code
  induction code with
  | nil => intro _ _ lv st h hs; exact hs.elim
  | cons y rest ih =>
    intro h1 h2 lv st h hs x t hxt
    cases hxt
    rw [List.all_cons, Bool.and_eq_true] at h1
    have h2' : (Nat.beq (e_hd rest (e_nx y)) (e_nx y) && e_chain rest) = true := h2
    rw [Bool.and_eq_true] at h2'
    have hs := s_hd hs
    refine e_stp_ok Γ y h1.1 (nx := e_hd rest (e_nx y)) (Nat.eq_of_beq_eq_true h2'.1) (k := fun lv' st' h' => k_stop stop rest (fun q => e_J p l e R s m args below meth c Q D cl A nL ad tc c0 s0 b q lv' st' h') (e_blk bm stop fld cal thr scr (e_J p l e R s m args below meth c Q D cl A nL ad tc c0 s0) P b rest lv' st' h')) ?_ hs
    intro lv' st' h' hs'
    cases rest with
    | nil => exact hs'.elim
    | cons z r =>
      obtain ⟨zpc, zi⟩ := z
      rcases s_cond2 (show cond (Nat.beq zpc stop) (e_J p l e R s m args below meth c Q D cl A nL ad tc c0 s0 b zpc lv' st' h') _ from hs') with ⟨-, q⟩ | ⟨-, q⟩
      · exact q
      · exact ih h1.2 h2'.2 lv' st' h' q (zpc, zi) r rfl
theorem e_at_ok (pc : Nat) : ∀ (code : List e_I), code.all (e_okI cc nL cst) = true → e_chain code = true → (e_at pc code).all (e_okI cc nL cst) = true ∧ e_chain (e_at pc code) = true ∧ ∀ x t, e_at pc code = x :: t → x.1 = pc := by
  intro code
  induction code with
  | nil => intro h1 h2; exact ⟨h1, h2, fun x t h => by cases h⟩
  | cons y rest ih =>
    intro h1 h2
    show (cond (Nat.beq y.1 pc) (y :: rest) (e_at pc rest)).all (e_okI cc nL cst) = true ∧ e_chain (cond (Nat.beq y.1 pc) (y :: rest) (e_at pc rest)) = true ∧ ∀ x t, cond (Nat.beq y.1 pc) (y :: rest) (e_at pc rest) = x :: t → x.1 = pc
    cases hq : Nat.beq y.1 pc with
    | true =>
      rw [cond_true]
      exact ⟨h1, h2, fun x t h => by cases h; exact Nat.eq_of_beq_eq_true hq⟩
    | false =>
      rw [cond_false]
      rw [List.all_cons, Bool.and_eq_true] at h1
      have h2' : (Nat.beq (e_hd rest (e_nx y)) (e_nx y) && e_chain rest) = true := h2
      rw [Bool.and_eq_true] at h2'
      exact ih h1.2 h2'.2
theorem e_sound (Γ : e_Ctx p l e R s m args below meth c Q D cl A nL ad tc c0 s0 cc tys own Ts bm fld cst cal thr scr P) {code : List e_I} (hc : e_okC cc nL cst code = true) : e_Cl bm fld cal thr scr code P (e_J p l e R s m args below meth c Q D cl A nL ad tc c0 s0) := by
  have hc' : (code.all (e_okI cc nL cst) && e_chain code) = true := hc
  rw [Bool.and_eq_true] at hc'
  refine ⟨fun stop b pc lv st h hs => ?_, fun b pc lv lv' ks st h h1 h2 hJ => ?_, fun b b' pc lv st h hb hJ => ?_⟩
  · obtain ⟨g1, g2, g3⟩ := e_at_ok pc code hc'.1 hc'.2
    cases hq : e_at pc code with
    | nil => rw [hq] at hs; exact hs.elim
    | cons x t =>
      have := e_blk_ok Γ stop b _ g1 g2 lv st h hs x t hq
      rw [g3 x t hq] at this
      exact this
  · intro hl0 H locs ls hP hD hS hl
    refine hJ h2 H locs ls hP hD hS ⟨hl.1, hl.2.1, fun q hq => hl.2.2 q ?_⟩
    obtain ⟨z, hz, rfl⟩ := List.mem_map.mp hq
    rw [← h1] at hz
    obtain ⟨k, -, hk⟩ := List.mem_filterMap.mp hz
    exact List.mem_map.mpr ⟨z, List.mem_of_getElem? hk, rfl⟩
  · intro hl0 H locs ls hP hD hS hl
    exact W.widen (by omega) (by omega) (hJ hl0 H locs ls hP hD hS hl)
end ESOUND
