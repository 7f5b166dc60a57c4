/-! Methods that may throw: their contracts, calls of them, the throw itself, its way out -/
def x_End (st t : State) (L : List Loc) (k n : Nat) : Prop := st.WarmedH t.vm ∧ st.sameButNew ({ t with vm := st.vm } : State) L k n
def x_Q (Qc : State → Outcome → State → Prop) (mc ms : Nat) (free : Nat → Prop) : Array Value → State → Outcome → State → Prop := fun _ st o t => Qc st o t ∧ ∃ L, x_End st t L mc ms ∧ ∀ q ∈ L, free q.base
def x_MQ (below : List Frame) (Qc : State → Outcome → State → Prop) (s : State) (mc ms : Nat) (free : Nat → Prop) : State → Prop := fun t => ∃ o, t.status = .running ∧ Ended t below o ∧ x_Q Qc mc ms free #[] s o t
def x_Met (l : Launch) (y : MethodName) (rm : Room) (Pc : Array Value → State → Prop) (Qc : State → Outcome → State → Prop) (mc ms : Nat) (free : Nat → Prop) : Prop :=
  MetFree l y (headSpec e_wd rm) Pc (fun _ _ _ _ _ => True) (x_Q Qc mc ms free)
/-- what a callee's own code says of it -/
def x_Code (y : MethodName) (cc : ByteArray) (maxL : Nat) (ret : Option FieldType) (hh : List (Nat × Nat × Nat × Nat)) : Prop :=
  ∀ (s : State) (args : Array Value), (∀ w ∈ e_wd, w.before args s = true) → ∃ mk meth c, s.methodNamed? y = some mk ∧ s.vm.method? mk = some meth ∧ meth.code = some c ∧ c.code = cc ∧ c.maxLocals = maxL ∧ c.exceptionTable.toList.map (fun h => (h.startPc, h.endPc, h.handlerPc, h.catchType)) = hh ∧ meth.sig.returnType = ret ∧ meth.locks = false ∧ parseMethodDescriptor y.desc = some meth.sig
theorem x_code {y : MethodName} {cc : ByteArray} {maxL : Nat} {ret : Option FieldType} (w : Cond.code y cc maxL ret ∈ e_wd) : x_Code y cc maxL ret [] := by
  intro s args hts
  obtain ⟨mk, hn⟩ := Cond.code_named (hts _ w)
  obtain ⟨meth, c, h1, h2, h3, h4, h5, h6, h7, h8⟩ := Cond.code_spec hn (hts _ w)
  refine ⟨mk, meth, c, hn, h1, h2, h3, h4, ?_, h5, h6, h8⟩
  have : c.exceptionTable.toList = [] := by
    have := h7
    simpa using this
  rw [this]
  rfl
theorem x_codeW {y : MethodName} {cc : ByteArray} {maxL : Nat} {ret : Option FieldType} {hh : List (Nat × Nat × Nat × Nat)} (w : Cond.codeWith y cc maxL ret hh ∈ e_wd) : x_Code y cc maxL ret hh := by
  intro s args hts
  obtain ⟨mk, meth, c, h1, h2, h3, h4, h5, h6, h7, h8, h9⟩ := Cond.codeWith_spec (show (Cond.codeWith y cc maxL ret hh).holds args s none s [] = true from hts _ w)
  exact ⟨mk, meth, c, h1, h2, h3, h4, h5, h6, h7, h8, h9⟩
theorem x_at {args a' : Array Value} {s U : State} (hW : s.WarmedH U.vm) (hts : ∀ w ∈ e_wd, w.before args s = true) : ∀ w ∈ e_wd, w.before a' U = true :=
  fun w hw => word_at hW (good_of_word (List.mem_filter.mp hw).2) (hts w hw)
section XC
variable {p : Program} {l : Launch} {e : Env} {R : Room} {s : State} {m : MethodId} {args : Array Value} {below : List Frame} {meth : Method} {c : Code} {T U : State} {locs : List Loc} {cells slots : Nat}
/-- a call, behind the invoking instruction's own step: it comes back, or it throws -/
theorem x_call (X : Stand p l e R s m args below meth c U locs cells slots) {y : MethodName} {rm : Room} {Pc : Array Value → State → Prop} {Qc : State → Outcome → State → Prop} {mc ms : Nat} {free : Nat → Prop}
    (hM : x_Met l y rm Pc Qc mc ms free) {mk : MethodId} {methY : Method} {cY : Code} {kY : Class} {maxL : Nat} (hn : U.methodNamed? y = some mk) (hmY : U.vm.method? mk = some methY) (hcY : methY.code = some cY) (hlY : cY.maxLocals = maxL)
    (hkY : U.vm.classes[mk.cls]? = some kY) (hiY : kY.init = .initialized) {g : JFrame} (hg : g.method = m) (hsize : g.locals.size = c.maxLocals) {ig : Instr} {len : Nat} (hdg : decode c.code g.pc = .ok (ig, len))
    {Wd : Nat} (hW : 2 * g.monitorRoom + (g.stack.map fun v => v.category).sum ≤ Wd) (hframes : rm.frames + 1 ≤ R.frames) (hlocals : Wd + (maxL + 11) + rm.locals ≤ R.locals) (hcells : cells + rm.cells ≤ R.cells) (hslots : slots + rm.slots ≤ R.slots)
    {a : Array Value} (hts : ∀ w ∈ e_wd, w.before a U = true) (hP : Pc a (U.calling g mk a)) :
    ∃ (o : Outcome) (t B : State) (L : List Loc), B.heap = t.heap ∧ Stand p l e R s m args below meth c B (locs ++ L) (cells + mc) (slots + ms) ∧ (∀ q ∈ L, free q.base) ∧ Qc (U.calling g mk a) o t ∧
      (∀ v, o = .returned v → Steps p.tables e below (doInvoke e (U.setTop g) [] mk a).1 (B.setTop { g with pc := g.pc + len, stack := v.toList ++ g.stack })) ∧
      (∀ q, o = .threw q → Steps p.tables e below (doInvoke e (U.setTop g) [] mk a).1 ((B.setTop g).pushFrame (.throwing q))) := by
  have h : At U g.method c below := by rw [hg]; exact X.here
  have happ : (headSpec e_wd rm).appliesLoose y e.platform (U.calling g mk a) = true :=
    Spec.appliesLoose_calling (g := g) h hdg hn hkY hiY (X.room_calling (g := g) (R' := rm) hsize hmY hcY hframes (by rw [hlY]; omega) hcells hslots) (atoms_intro hts)
  obtain ⟨mid, hmid⟩ := h.above
  have hfr : (U.setTop g).frames = (.java g :: mid) ++ below := by rw [State.frames_setTop' g h.top, hmid]; rfl
  obtain ⟨o, t, hsteps, -, hend, hq, L, ⟨hW2, e2, q2, q3, q4, q5, q6⟩, hL⟩ := Steps.callFree hM p X.admits X.cas X.clock (acts := []) hfr happ hP trivial
  rw [State.frames_setTop' g h.top] at hend
  have hW' : U.WarmedH t.vm := hW2
  have e3 : t = ({ (U.calling g mk a).setFrames t.frames with heap := t.heap, slotsUsed := t.slotsUsed } : State).setVm t.vm := by
    have e9 : ({ t with vm := (U.calling g mk a).vm } : State) = ({ (U.calling g mk a).setFrames t.frames with heap := t.heap, slotsUsed := t.slotsUsed } : State) := e2
    have e8 := congrArg (fun z : State => z.setVm t.vm) e9
    exact e8
  obtain ⟨g0, hg0⟩ := Option.isSome_iff_exists.mp h.top
  obtain ⟨r, hr⟩ := State.topJava?_eq_some.mp hg0
  have hr' : (({ U with heap := t.heap, slotsUsed := t.slotsUsed } : State).setVm t.vm).frames = .java g0 :: r := hr
  have hsame : U.sameButNew ({ U with heap := t.heap, slotsUsed := t.slotsUsed } : State) L mc ms := by
    refine ⟨?_, q2, q3, q4, q5, q6⟩
    obtain ⟨z, hz, -⟩ := State.frames_cons hr
    show ({ U with heap := t.heap, slotsUsed := t.slotsUsed } : State) = { U.setFrames U.frames with heap := t.heap, slotsUsed := t.slotsUsed }
    rw [State.setFrames_self hz]
  refine ⟨o, t, ({ U with heap := t.heap, slotsUsed := t.slotsUsed } : State).setVm t.vm, L, rfl, ⟨X.admits, X.cas, X.clock, X.frames, X.room, X.hears, X.method, X.code, (X.here.setHeapUsed t.heap t.slotsUsed).setVm hW'.alike, X.tail, State.WarmedH.trans X.warmed hW', X.limits, X.bytes, X.same.trans (hsame.setVm s.vm)⟩, hL, hq, ?_, ?_⟩
  · rintro v rfl
    obtain ⟨c2, i2, len2, hc2, hd2, hf2⟩ := hend
    have hcc : c2 = c := by
      have h1 : t.code? g.method = U.code? g.method := by rw [State.code?_eq, State.code?_eq, hW'.alike.method?]
      exact Option.some.inj (hc2.symm.trans (h1.trans h.code))
    subst hcc
    have hlen : len2 = len := by rw [hdg] at hd2; cases hd2; rfl
    subst hlen
    have ht : t = (({ U with heap := t.heap, slotsUsed := t.slotsUsed } : State).setVm t.vm).setTop { g with pc := g.pc + len2, stack := v.toList ++ g.stack } := by
      refine e3.trans ?_
      rw [hf2, State.calling_eq h.top, State.setFrames_setFrames, State.setTop_of_frames _ hr', hr]
      rfl
    rw [← ht]
    exact hsteps
  · rintro q rfl
    have hf2 : t.frames = .throwing q :: .java g :: U.frames.tail := hend
    have ht : t = ((({ U with heap := t.heap, slotsUsed := t.slotsUsed } : State).setVm t.vm).setTop g).pushFrame (.throwing q) := by
      refine e3.trans ?_
      rw [State.pushFrame, State.frames_setTop _ hr', State.setTop_of_frames _ hr', State.setFrames_setFrames, hf2, State.calling_eq h.top, State.setFrames_setFrames, hr]
      rfl
    rw [← ht]
    exact hsteps
end XC

def e_PostX (D : va_G) (ad : Nat → Nat) (tc : Nat → ClassId) (A : Nat → Prop) (res : e_R) (h' : e_H) : State → Outcome → State → Prop := fun st oc t =>
  va_P D vwCl (e_W ad tc h') t.heap ∧ va_F A st t ∧ (∀ v, res = .inl v → oc = .returned (v.map (e_cV ad))) ∧ (∀ E, res = .inr E → ∃ (q : Nat) (ce : Cell), oc = .threw q ∧ t.heap[q]? = some ce ∧ ce.vm = .none ∧ st.vm.findClass E = some ce.cls)
def e_MetX (l : Launch) (y : MethodName) (lvl : Nat) (C : e_C) : Prop :=
  ∀ (D : va_G) (ad : Nat → Nat) (tc : Nat → ClassId) (sz : Nat) (a : C.1), C.2.2.2.1 a →
    x_Met l y (e_rm lvl (C.2.2.1 a)) (e_Pre D ad tc (C.2.2.2.2.1 a) (C.2.2.2.2.2.1 a) sz) (e_PostX D ad tc (va_A (e_W ad tc (C.2.2.2.2.2.1 a)) sz) (C.2.2.2.2.2.2.1 a) (C.2.2.2.2.2.2.2 a)) (C.2.2.1 a) (6 * C.2.2.1 a) (va_A (e_W ad tc (C.2.2.2.2.2.1 a)) sz)
/-- out of a call's end -/
theorem e_ofX {p : Program} {l : Launch} {e : Env} {R : Room} {s : State} {m : MethodId} {args : Array Value} {below : List Frame} {meth : Method} {c : Code} {Q : State → Prop} {D : va_G} {A : Nat → Prop} {nL : Nat} {ad : Nat → Nat} {tc : Nat → ClassId} {c0 s0 b n pc : Nat} {lv : e_L} {r : List Value} {h h' : e_H} {res : e_R} {H : Heap} {locs : List Loc} {ls : Array Slot} {st0 t B : State} {o : Outcome} {L : List Loc} {V : State}
    (hA : ∀ q, s.heap.size ≤ q → A q) (hl0 : e_lok lv = true) (hD : va_D A (e_W ad tc h)) (hS : va_S A s.heap H locs) (hl : lv_has ls nL (e_cl ad lv)) (hvm : ∀ C, s.vm.findClass C = st0.vm.findClass C) (hst : st0.heap = H)
    (hB : B.heap = t.heap) (X : Stand p l e R s m args below meth c B (locs ++ L) (c0 + b + n) (s0 + 6 * b + 6 * n)) (hL : ∀ q ∈ L, va_A (e_W ad tc h) H.size q.base) (hq : e_PostX D ad tc (va_A (e_W ad tc h) H.size) res h' st0 o t)
    (h1 : ∀ v, o = .returned v → Steps p.tables e below V (B.setTop (F0 m (pc + 3) ls (v.toList ++ r.map (e_cV ad))))) (h2 : ∀ q, o = .threw q → Steps p.tables e below V ((B.setTop (F0 m pc ls (r.map (e_cV ad)))).pushFrame (.throwing q)))
    (hJ : ∀ v, res = .inl v → e_J p l e R s m args below meth c Q D vwCl A nL ad tc c0 s0 (b + n) (pc + 3) lv (v.toList ++ r) h')
    (hX : ∀ E, res = .inr E → e_X p l e R s m args below meth c Q D vwCl A nL ad tc c0 s0 (b + n) pc lv E h') : ∃ t, Steps p.tables e below V t ∧ Q t := by
  have hfr := e_free hD hS hA
  obtain ⟨hP', ⟨hz, hk⟩, q1, q2⟩ := hq
  rw [hst] at hz hk
  rw [Nat.add_assoc c0, show s0 + 6 * b + 6 * n = s0 + 6 * (b + n) by omega] at X
  have hS' : va_S A s.heap B.heap (locs ++ L) := ⟨Nat.le_trans hS.1 (by rw [hB]; exact hz), fun q h1 h2 => by rw [hB, hk q (Nat.lt_of_lt_of_le h1 hS.1) (fun z => h2 (hfr q z))]; exact hS.2.1 q h1 h2, fun q hq => by
    rcases List.mem_append.mp hq with h | h
    · exact hS.2.2 q h
    · exact hfr _ (hL q h)⟩
  have hP'' : va_P D vwCl (e_W ad tc h') B.heap := by rw [hB]; exact hP'
  cases res with
  | inl v =>
    have ho := q1 v rfl
    have hst : (v.map (e_cV ad)).toList ++ r.map (e_cV ad) = (v.toList ++ r).map (e_cV ad) := by cases v <;> rfl
    obtain ⟨t2, a1, b1⟩ := hJ v rfl hl0 B.heap (locs ++ L) ls hP'' (e_D hD (fun _ _ z => z)) hS' hl B rfl X
    refine ⟨t2, (h1 _ ho).trans ?_, b1⟩
    rw [hst]
    exact a1
  | inr E =>
    obtain ⟨q, ce, ho, hce, hcv, hcl⟩ := q2 E rfl
    obtain ⟨t2, a1, b1⟩ := hX E rfl hl0 B.heap (locs ++ L) ls q ce (r.map (e_cV ad)) hP'' (e_D hD (fun _ _ z => z)) hS' hl (by rw [hB]; exact hce) hcv (by rw [hvm]; exact hcl) B rfl X
    exact ⟨t2, (h2 _ ho).trans a1, b1⟩
theorem e_siteSX {y : MethodName} {bytes cc : ByteArray} {maxL : Nat} {ret : Option FieldType} {hh : List (Nat × Nat × Nat × Nat)} {lv0 lvl : Nat} {C : e_C} {own : String} {pc i : Nat} (hM : ∀ l : Launch, l.stackTraces = false → e_MetX l y lv0 C) (hlt : lv0 < lvl) (hmx : maxL ≤ 11)
    (w1 : Cond.methodLink own i y ∈ e_wd) (w2 : Cond.static y ∈ e_wd) (w3 : Cond.initialized y.cls ∈ e_wd) (w4 : x_Code y bytes maxL ret hh)
    (hd : y.cls ≠ "java/lang/invoke/MethodHandle" ∧ y.cls ≠ "java/lang/invoke/VarHandle" ∧ (parseMethodDescriptor y.desc).map (fun d => d.parameters.length) = some C.2.1) (hdg : decode cc pc = .ok (.invokestatic i, 3)) : e_Site cc own lvl pc C := by
  intro p l e R s m args below meth c Q D A nL ad tc c0 s0 bm hl9 hB a b lv r hpre hlen hdp hbm hret hthr hl0 H locs ls hP hD hS hl T hT X
  obtain ⟨hx, hb, hml, hown, hts, hK, hA, hE, hf1, hf2, hf3, hf4⟩ := hB
  have hMt := hM l hl9 D ad tc H.size a hpre
  obtain ⟨mk, methM, cM, hnamed, hmethM, hcodeM, -, hlM, -, -, -, hsigM⟩ := w4 s args hts
  have hstatic : methM.isStatic = true := Cond.static_spec hnamed hmethM (hts _ w2)
  obtain ⟨kP, hkP, -⟩ := className_of_methodNamed hnamed
  have hinitP : kP.init = .initialized := Cond.initialized_spec (findClass_of_methodNamed hnamed) hkP (hts _ w3)
  have hps : methM.sig.parameters.length = C.2.1 := by
    have h9 := hd.2.2
    rw [hsigM] at h9
    exact Option.some.inj h9
  obtain ⟨vm1, X1, st1⟩ := X.invokestatic hx hown (hts _ w1) hnamed hmethM hstatic hkP hinitP ⟨hd.1, hd.2.1⟩ (g := F0 m pc ls (((C.2.2.2.2.1 a).reverse ++ r).map (e_cV ad))) rfl (argsL := (C.2.2.2.2.1 a).map (e_cV ad)) (rest := r.map (e_cV ad)) (by rw [List.length_map, hlen, hps]) (by show ((C.2.2.2.2.1 a).reverse ++ r).map (e_cV ad) = _; simp) (by rw [hb]; exact hdg)
  have hW1 := X1.warmed
  have hW1' : s.WarmedH vm1 := hW1
  obtain ⟨kP1, hkP1, heP1⟩ := hW1'.alike.2.2 _ _ hkP
  obtain ⟨o, t, B, L, hBh, XB, hL, hq, s1, s2⟩ := x_call X1 hMt (mk := mk) (methY := methM) (cY := cM) (kY := kP1) (maxL := maxL) (X1.named hnamed) (by show vm1.method? mk = _; rw [hW1'.alike.method?]; exact hmethM) hcodeM hlM hkP1 (by rw [heP1]; exact hinitP)
    (g := F0 m pc ls (r.map (e_cV ad))) rfl (by rw [hml]; exact hl.1) (ig := .invokestatic i) (len := 3) (by rw [hb]; exact hdg) (Wd := 8) (lv_room (e_depC hdp)) (by show lv0 + 1 ≤ _; omega) (by show 8 + (maxL + 11) + 30 * lv0 ≤ _; omega) (by show c0 + b + C.2.2.1 a ≤ _; omega) (by show s0 + 6 * b + 6 * C.2.2.1 a ≤ _; omega)
    (a := ((C.2.2.2.2.1 a).map (e_cV ad)).toArray) (x_at hW1' hts) (e_blind _ _ _ _ ⟨rfl, by show T.heap.size = _; rw [hT], by show va_P D vwCl _ T.heap; rw [hT]; exact hP, va_K.moved hW1'.alike hK, e_D hD (fun _ _ _ => trivial), e_env_to hE hS (show (T.setVm vm1).heap = H from hT) hW1 (e_free hD hS hA)⟩)
  refine e_ofX (V := T.setTop (F0 m pc ls (((C.2.2.2.2.1 a).reverse ++ r).map (e_cV ad)))) hA hl0 hD hS hl (fun C9 => ?_) ?_ hBh XB hL hq (fun v hv => st1 _ fun acts => ?_) (fun q hv => st1 _ fun acts => ?_) hret hthr
  · exact (hW1'.alike.findClass C9 _).symm
  · exact hT
  · rw [doInvoke_state]
    exact s1 v hv
  · rw [doInvoke_state]
    exact s2 q hv
theorem e_siteVX {y : MethodName} {bytes cc : ByteArray} {maxL : Nat} {ret : Option FieldType} {hh : List (Nat × Nat × Nat × Nat)} {lv0 lvl : Nat} {C : e_C} {own : String} {pc i ci n : Nat} {Tc : u_T} {Nc : Nat} (hM : ∀ l : Launch, l.stackTraces = false → e_MetX l y lv0 C) (hlt : lv0 < lvl) (hmx : maxL ≤ 11)
    (hci : vwCl[ci]? = some (y.cls, Tc, Nc)) (hob : ∀ a : C.1, C.2.2.2.1 a → ∃ (o : Nat) (ts fs : List Value), C.2.2.2.2.1 a = .ref o :: ts ∧ o < e_N ∧ C.2.2.2.2.2.1 a o = .inr (ci, fs)) (hn : C.2.1 = n + 1)
    (w1 : Cond.methodLink own i y ∈ e_wd) (w2 : Cond.instanceMethod y ∈ e_wd) (w3 : Cond.initialized y.cls ∈ e_wd) (w4 : x_Code y bytes maxL ret hh) (w5 : Cond.selects y.cls y y ∈ e_wd)
    (hd : y.cls ≠ "java/lang/invoke/MethodHandle" ∧ y.cls ≠ "java/lang/invoke/VarHandle" ∧ (parseMethodDescriptor y.desc).map (fun d => d.parameters.length) = some n) (hdg : decode cc pc = .ok (.invokevirtual i, 3)) : e_Site cc own lvl pc C := by
  intro p l e R s m args below meth c Q D A nL ad tc c0 s0 bm hl9 hB a b lv r hpre hlen hdp hbm hret hthr hl0 H locs ls hP hD hS hl T hT X
  obtain ⟨hx, hb, hml, hown, hts, hK, hA, hE, hf1, hf2, hf3, hf4⟩ := hB
  have hMt := hM l hl9 D ad tc H.size a hpre
  obtain ⟨o9, ts, fs, ho1, ho2, ho3⟩ := hob a hpre
  have he : (e_W ad tc (C.2.2.2.2.2.1 a))[o9]? = some (ad o9, .inr (ci, fs.map (e_cV ad))) := by rw [e_W_at ad tc _ ho2, ho3]; rfl
  obtain ⟨cellB, hcellB, hobjB, hclsB⟩ := va_recv hK hP hci he
  obtain ⟨mk, methM, cM, hnamed, hmethM, hcodeM, -, hlM, -, -, -, hsigM⟩ := w4 s args hts
  obtain ⟨mk2, methM2, hnamed2, hmethM2, hstM, habM⟩ := Cond.instanceMethod_spec (hts _ w2)
  cases hnamed.symm.trans hnamed2
  cases hmethM.symm.trans hmethM2
  obtain ⟨c2, r2, m2, q1, q2, q3, q4, kP, hkP, hkPi⟩ := Cond.selects_spec (hts _ w5)
  cases hclsB.symm.trans q1
  cases (State.methodFound?_of_named hnamed ⟨hd.1, hd.2.1⟩).symm.trans q2
  cases hnamed.symm.trans q3
  have hselP : selectMethod e.platform s.vm cellB.cls mk = .method mk := by rw [Launch.admits_selectMethod X.admits]; exact q4
  have hinitP : kP.init = .initialized := Cond.initialized_spec (findClass_of_methodNamed hnamed) hkP (hts _ w3)
  have hps : methM.sig.parameters.length = n := by
    have h9 := hd.2.2
    rw [hsigM] at h9
    exact Option.some.inj h9
  have hlen2 : ts.length = n := by
    have := hlen
    rw [ho1, hn] at this
    simpa using this
  have hargs : (C.2.2.2.2.1 a).map (e_cV ad) = .ref (ad o9) :: ts.map (e_cV ad) := by rw [ho1]; rfl
  obtain ⟨vm1, X1, st1⟩ := X.invokevirtual hx hown (hts _ w1) hnamed hmethM hstM hkP hkPi ⟨hd.1, hd.2.1⟩ (a := ad o9) (cell := cellB) (by rw [hT]; exact hcellB) (fun z h => by rw [h] at hobjB; cases hobjB) hselP hmethM habM hkP hkPi
    (g := F0 m pc ls (((C.2.2.2.2.1 a).reverse ++ r).map (e_cV ad))) rfl (argsL := ts.map (e_cV ad)) (rest := r.map (e_cV ad)) (by rw [List.length_map, hlen2, hps]) (by show ((C.2.2.2.2.1 a).reverse ++ r).map (e_cV ad) = _; rw [ho1]; simp [e_cV]) (by rw [hb]; exact hdg)
  have hW1 := X1.warmed
  have hW1' : s.WarmedH vm1 := hW1
  obtain ⟨kP1, hkP1, heP1⟩ := hW1'.alike.2.2 _ _ hkP
  obtain ⟨o, t, B, L, hBh, XB, hL, hq, s1, s2⟩ := x_call X1 hMt (mk := mk) (methY := methM) (cY := cM) (kY := kP1) (maxL := maxL) (X1.named hnamed) (by show vm1.method? mk = _; rw [hW1'.alike.method?]; exact hmethM) hcodeM hlM hkP1 (by rw [heP1]; exact hinitP)
    (g := F0 m pc ls (r.map (e_cV ad))) rfl (by rw [hml]; exact hl.1) (ig := .invokevirtual i) (len := 3) (by rw [hb]; exact hdg) (Wd := 8) (lv_room (e_depC hdp)) (by show lv0 + 1 ≤ _; omega) (by show 8 + (maxL + 11) + 30 * lv0 ≤ _; omega) (by show c0 + b + C.2.2.1 a ≤ _; omega) (by show s0 + 6 * b + 6 * C.2.2.1 a ≤ _; omega)
    (a := ((C.2.2.2.2.1 a).map (e_cV ad)).toArray) (x_at hW1' hts) (e_blind _ _ _ _ ⟨rfl, by show T.heap.size = _; rw [hT], by show va_P D vwCl _ T.heap; rw [hT]; exact hP, va_K.moved hW1'.alike hK, e_D hD (fun _ _ _ => trivial), e_env_to hE hS (show (T.setVm vm1).heap = H from hT) hW1 (e_free hD hS hA)⟩)
  refine e_ofX (V := T.setTop (F0 m pc ls (((C.2.2.2.2.1 a).reverse ++ r).map (e_cV ad)))) hA hl0 hD hS hl (fun C9 => ?_) ?_ hBh XB hL hq (fun v hv => st1 _ fun acts => ?_) (fun q hv => st1 _ fun acts => ?_) hret hthr
  · exact (hW1'.alike.findClass C9 _).symm
  · exact hT
  · rw [doInvoke_state, ← hargs]
    exact s1 v hv
  · rw [doInvoke_state, ← hargs]
    exact s2 q hv
