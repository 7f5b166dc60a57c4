/-! contracts of methods that may throw, and of methods that catch, out of a run of the stepper -/
section XM
variable {p : Program} {l : Launch} {e : Env} {R : Room} {s : State} {m : MethodId} {args : Array Value} {below : List Frame} {meth : Method} {c : Code} {T : State} {locs : List Loc} {cells slots : Nat} {H : Heap}
theorem x_iret {cc : ByteArray} {Qc : State → Outcome → State → Prop} {free : Nat → Prop} {v : Int32} {ty : FieldType} (hexec : p.tables.exec = Jvm.exec) (hb : c.code = cc) (hr : meth.sig.returnType = some ty) (hn : narrow ty (.int v) = .int v)
    (hq : ∀ t : State, t.heap = H → Qc s (.returned (some (.int v))) t) (hf : ∀ q ∈ locs, free q.base) {pc : Nat} {ls : Array Slot} (hdg : decode cc pc = .ok (.ireturn, 1)) (hlocks : meth.locks = false) {mc ms : Nat} (hmc : cells ≤ mc) (hms : slots ≤ ms) :
    W p l e R s m args below meth c H locs cells slots (x_MQ below Qc s mc ms free) (F0 m pc ls [.int v]) := by
  intro T hT X
  obtain ⟨t, a1, o, b1, b2, b3, L, ⟨-, b4, b5⟩, b6⟩ := W.zret (Qc := fun _ => Qc) hexec hb hr hn (fun t ht _ => hq t ht) hf hdg hlocks T hT X
  exact ⟨t, a1, o, b1, b2, b3, L, ⟨b4, b5.mono hmc hms⟩, b6⟩
theorem x_vret {cc : ByteArray} {Qc : State → Outcome → State → Prop} {free : Nat → Prop} (hexec : p.tables.exec = Jvm.exec) (hb : c.code = cc) (hr : meth.sig.returnType = none)
    (hq : ∀ t : State, t.heap = H → Qc s (.returned none) t) (hf : ∀ q ∈ locs, free q.base) {pc : Nat} {ls : Array Slot} (hdg : decode cc pc = .ok (.return_, 1)) (hlocks : meth.locks = false) {mc ms : Nat} (hmc : cells ≤ mc) (hms : slots ≤ ms) :
    W p l e R s m args below meth c H locs cells slots (x_MQ below Qc s mc ms free) (F0 m pc ls []) := by
  intro T hT X
  obtain ⟨t, a1, o, b1, b2, b3, L, ⟨-, b4, b5⟩, b6⟩ := W.vret (Qc := fun _ => Qc) hexec hb hr (fun t ht _ => hq t ht) hf hdg hlocks T hT X
  exact ⟨t, a1, o, b1, b2, b3, L, ⟨b4, b5.mono hmc hms⟩, b6⟩
/-- one entry of the table, its class looked up here or before -/
theorem x_go1 {Q : Handler → Pre} {E : CtlPost} {d : Bool} {acts : List Action} {st : State} {f : JFrame} {a : Addr} {x : ExceptionTableEntry} {t : List ExceptionTableEntry} {c9 : ClassId} {cell : Cell} (hx : covers x f.pc = true) (h0 : x.catchType ≠ 0)
    (hl : st.vm.ClassLinks e.platform f.method.cls x.catchType c9) (hcell : st.heap[a]? = some cell) (hobj : ∀ k, cell.vm ≠ .statics k) (hk : ∃ k, st.vm.classes[cell.cls]? = some k) (hc : ∃ k, st.vm.classes[c9]? = some k) :
    wp (findHandler.go f a (x :: t)) Q E e d acts st ↔ if st.vm.assignable cell.cls c9 = true then Q (.found x.handlerPc) d acts (st.setVm (st.vm.noted f.method.cls x.catchType (.cls c9))) else wp (findHandler.go f a t) Q E e d acts (st.setVm (st.vm.noted f.method.cls x.catchType (.cls c9))) := by
  simp only [covers] at hx
  obtain ⟨ha, ht⟩ := (resolveClass_links e.toSetting hl).op (op := VmOp.resolveClass f.method.cls x.catchType) rfl
  have hal : st.vm.Alike (st.vm.noted f.method.cls x.catchType (.cls c9)) := (Vm.Alike.refl st.vm).noted _ _ _
  obtain ⟨k1, hk1⟩ := hk
  obtain ⟨k2, hk2⟩ := hc
  obtain ⟨k1', hk1', -⟩ := hal.2.2 _ _ hk1
  obtain ⟨k2', hk2', -⟩ := hal.2.2 _ _ hk2
  cases hfit : st.vm.assignable cell.cls c9 with
  | true =>
    have hfit' : (st.vm.noted f.method.cls x.catchType (.cls c9)).assignable cell.cls c9 = true := by rw [hal.assignable]; exact hfit
    simp [findHandler.go, hx, h0, ha, ht, hcell, hobj, hk1', hk2', hfit', VmOp.dirties, VmOp.acts]
  | false =>
    have hfit' : (st.vm.noted f.method.cls x.catchType (.cls c9)).assignable cell.cls c9 = false := by rw [hal.assignable]; exact hfit
    simp [findHandler.go, hx, h0, ha, ht, hcell, hobj, hk1', hk2', hfit', VmOp.dirties, VmOp.acts]
/-- a handler: the object is laid aside, a number is answered -/
def x_Ent (cc : ByteArray) (nL hp : Nat) (kk : Int32) : Prop := ∃ (n la : Nat) (z : Int), ((decode cc hp = .ok (.astore n, 2) ∧ la = 2) ∨ ∃ k : Fin 4, (k : Nat) = n ∧ decode cc hp = .ok (.astore_n k, 1) ∧ la = 1) ∧ n < nL ∧ Int32.ofInt z = kk ∧ decode cc (hp + la) = .ok (.iconst z, 1) ∧ decode cc (hp + la + 1) = .ok (.ireturn, 1)
/-- the entries, with the names of the classes that they catch; E comes to the entry that names it -/
def x_Hs (cc : ByteArray) (nL pc : Nat) (E : String) (kk : Int32) : List (String × Nat × Nat × Nat × Nat) → Prop
  | [] => False
  | (N, a, b, hp, ct) :: r => (a ≤ pc ∧ pc < b ∧ ct ≠ 0) ∧ Cond.classLink "DumpDeskLaw" ct N ∈ e_wd ∧ ((N = E ∧ Cond.castable E E ∈ e_xw ∧ x_Ent cc nL hp kk) ∨ (Cond.not (.castable E N) ∈ e_xw ∧ x_Hs cc nL pc E kk r))
theorem x_find {cc : ByteArray} {nL : Nat} {E : String} {kk : Int32} {g : JFrame} {q : Nat} {ce : Cell} (hpl : e.platform.magicAccessors = ({} : Platform).magicAccessors) (hg : g.method = m) (hown : s.vm.findClass "DumpDeskLaw" = some m.cls) (hts : ∀ w ∈ e_wd, w.before args s = true) (hxs : ∀ w ∈ e_xw, w.before #[] s = true)
    (hcv : ce.vm = .none) (hcl : s.vm.findClass E = some ce.cls) : ∀ (Hs : List (String × Nat × Nat × Nat × Nat)) (xs : List ExceptionTableEntry), xs.map (fun h => (h.startPc, h.endPc, h.handlerPc, h.catchType)) = Hs.map (fun x => x.2) → x_Hs cc nL g.pc E kk Hs → ∀ st : State, s.WarmedH st.vm → st.heap[q]? = some ce →
    ∃ (vm' : Vm) (hp : Nat), s.WarmedH vm' ∧ x_Ent cc nL hp kk ∧ ∀ (Q : Handler → Pre) (Ex : CtlPost) (d : Bool) (acts : List Action), wp (findHandler.go g q xs) Q Ex e d acts st ↔ Q (.found hp) d acts (st.setVm vm') := by
  intro Hs
  induction Hs with
  | nil => intro xs _ h; exact h.elim
  | cons z r ih =>
    obtain ⟨N, a, b, hp, ct⟩ := z
    intro xs hxm h st hW hce
    cases xs with
    | nil => cases hxm
    | cons x t =>
      rw [List.map_cons, List.map_cons] at hxm
      obtain ⟨hx1, hx2⟩ := List.cons.inj hxm
      obtain ⟨h1, h2, h3⟩ := h
      have x1 : x.startPc = a := congrArg (fun z => z.1) hx1
      have x2 : x.endPc = b := congrArg (fun z => z.2.1) hx1
      have x3 : x.handlerPc = hp := congrArg (fun z => z.2.2.1) hx1
      have x4 : x.catchType = ct := congrArg (fun z => z.2.2.2) hx1
      have hcov : covers x g.pc = true := by rw [covers, x1, x2, decide_eq_true h1.1, decide_eq_true h1.2.1]; rfl
      obtain ⟨cN, hcN, hlk⟩ := Cond.classLink_spec hown (hts _ h2) e.platform hpl
      obtain ⟨dk, _, _, kt, hd, _, _, _, _, hkt, _, hopen⟩ := hlk.here
      have hlk0 := hW.classLinks hlk
      have hW' : s.WarmedH (st.vm.noted m.cls ct (.cls cN)) := hW.noted hd hopen (State.rightAt_cls hlk)
      obtain ⟨kt', hkt', -⟩ := hW.alike.2.2 _ _ hkt
      obtain ⟨kE, hkE⟩ := Vm.classAt_of_findClass hcl
      obtain ⟨kE', hkE', -⟩ := hW.alike.2.2 _ _ hkE
      have hob : ∀ k, ce.vm ≠ .statics k := fun k h => by rw [hcv] at h; cases h
      rw [← x4, ← hg] at hlk0 hW'
      rcases h3 with ⟨rfl, hw, hent⟩ | ⟨hw, hr⟩
      · obtain ⟨c3, c4, hc3, hc4, hasg⟩ := Cond.castable_spec (hxs _ hw)
        cases hcl.symm.trans hc3
        cases hcl.symm.trans hc4
        cases hcl.symm.trans hcN
        refine ⟨_, hp, hW', hent, fun Q Ex d acts => ?_⟩
        rw [x_go1 hcov (by rw [x4]; exact h1.2.2) hlk0 hce hob ⟨kE', hkE'⟩ ⟨kt', hkt'⟩, if_pos (by rw [hW.alike.assignable]; exact hasg), x3]
      · have hno : s.vm.assignable ce.cls cN = false := by
          have h9 := hxs _ hw
          simp only [Cond.before, Cond.holds, Cond.value, hcl, hcN] at h9
          cases h8 : s.vm.assignable ce.cls cN with
          | false => rfl
          | true => rw [h8] at h9; simp at h9
        obtain ⟨vm', hp', hW'', hent, hwp⟩ := ih t hx2 hr (st.setVm (st.vm.noted g.method.cls x.catchType (.cls cN))) hW' hce
        refine ⟨vm', hp', hW'', hent, fun Q Ex d acts => ?_⟩
        rw [x_go1 hcov (by rw [x4]; exact h1.2.2) hlk0 hce hob ⟨kE', hkE'⟩ ⟨kt', hkt'⟩, if_neg (by rw [hW.alike.assignable, hno]; decide)]
        exact hwp Q Ex d acts
theorem x_caught {g : JFrame} {q hp : Nat} {vm' : Vm} {target : State} (X : Stand p l e R s m args below meth c T locs cells slots) (hg : g.method = m)
    (hfind : ∀ (Q : Handler → Pre) (Ex : CtlPost) (d : Bool) (acts : List Action), wp (findHandler g q) Q Ex e d acts ((T.setTop g).pushFrame (.throwing q)) ↔ Q (.found hp) d acts (((T.setTop g).pushFrame (.throwing q)).setVm vm'))
    (hrest : Steps p.tables e below ((T.setVm vm').setTop { g with pc := hp, stack := [.ref q] }) target) : Steps p.tables e below ((T.setTop g).pushFrame (.throwing q)) target := by
  have h : At T g.method c below := by rw [hg]; exact X.here
  obtain ⟨hgo, hw⟩ := h.throwing q
  refine Steps.head hgo hw ?_
  have hstep : ∀ r, (stepThrowing e ((T.setTop g).pushFrame (.throwing q)) q (.java g :: r)).Is ((((T.setTop g).pushFrame (.throwing q)).setVm vm').setFrames (.java { g with pc := hp, stack := [.ref q] } :: r)) [] := by
    intro r
    simp only [stepThrowing, searchFrame, vmDo]
    generalize hr : Sem.go _ e false [] ((T.setTop g).pushFrame (.throwing q)) = res
    obtain ⟨as, rfl, ha⟩ := Sem.eq_ok_of hr (a := Handler.found hp) (s' := ((T.setTop g).pushFrame (.throwing q)).setVm vm') (acts' := []) (by simp [hfind _ _ _ _])
    exact ⟨rfl, ha⟩
  rw [stepThread_throwing (frames_entered h.top _), (hstep _).1]
  obtain ⟨g0, hg0⟩ := Option.isSome_iff_exists.mp h.top
  obtain ⟨r, hr⟩ := State.topJava?_eq_some.mp hg0
  have hr' : (T.setVm vm').frames = .java g0 :: r := hr
  rw [State.setTop_of_frames _ hr'] at hrest
  rw [hr, List.tail_cons, State.pushFrame, State.setTop_of_frames _ hr, State.setFrames_setFrames]
  have h8 : ∀ (F G : List Frame), ((T.setFrames F).setVm vm').setFrames G = (T.setVm vm').setFrames G := fun F G => by
    have h1 : (T.setFrames F).setVm vm' = (T.setVm vm').setFrames F := rfl
    rw [h1, State.setFrames_setFrames]
  rw [h8]
  exact hrest
end XM
def e_Thr (cc : ByteArray) (pc : Nat) (cls : String) : Prop := ∃ ik ic : Nat, Bundle.fit cls = true ∧ Cond.classLink "DumpDesk" ik cls ∈ e_wd ∧ Cond.initialized cls ∈ e_wd ∧
  (∀ w ∈ Bundle.ownAtoms0 "DumpDesk" ic cls ["java/lang/RuntimeException", "java/lang/Exception"], w ∈ e_wd ∨ w ∈ e_xw) ∧ decode cc pc = .ok (.new ik, 3) ∧ decode cc (pc + 3) = .ok (.dup, 1) ∧ decode cc (pc + 4) = .ok (.invokespecial ic, 3) ∧ decode cc (pc + 7) = .ok (.athrow, 1)
/-- what a body's proof begins with -/
theorem e_body {l : Launch} {y : MethodName} {cc : ByteArray} {nL : Nat} {ret : Option FieldType} {hh : List (Nat × Nat × Nat × Nat)} {lvl : Nat} {C : e_C} (hy : plainFor y = true) (hc9 : x_Code y cc nL ret hh)
    (body : ∀ (D : va_G) (ad : Nat → Nat) (tc : Nat → ClassId) (a : C.1) (p : Program) (e : Env) (s : State) (m : MethodId) (below : List Frame) (meth : Method) (c : Code) (A : Nat → Prop) (ls : Array Slot), C.2.2.2.1 a → (lg_sl (C.2.2.2.2.1 a)).length ≤ nL →
      e_Base p l e (e_rm lvl (C.2.2.1 a)) s m ((C.2.2.2.2.1 a).map (e_cV ad)).toArray below meth c D A nL ad tc 0 0 cc y.cls (C.2.2.1 a) lvl → l.admits e → meth.sig.returnType = ret → meth.locks = false → c.exceptionTable.toList.map (fun h => (h.startPc, h.endPc, h.handlerPc, h.catchType)) = hh →
      va_P D vwCl (e_W ad tc (C.2.2.2.2.2.1 a)) s.heap → va_D A (e_W ad tc (C.2.2.2.2.2.1 a)) → lv_has ls nL (e_cl ad (lv_args 0 (C.2.2.2.2.1 a))) →
      W p l e (e_rm lvl (C.2.2.1 a)) s m ((C.2.2.2.2.1 a).map (e_cV ad)).toArray below meth c s.heap [] 0 0 (x_MQ below (e_PostX D ad tc A (C.2.2.2.2.2.2.1 a) (C.2.2.2.2.2.2.2 a)) s (C.2.2.1 a) (6 * C.2.2.1 a) A) (F0 m 0 ls []))
    (hsz : ∀ a, C.2.2.2.1 a → (lg_sl (C.2.2.2.2.1 a)).length ≤ nL) : e_MetX l y lvl C := by
  intro D ad tc sz a hpre
  refine MetFree.of_bodySF (code := cc) (maxLocals := nL) (ret := ret) hy ?_ ?_
  · intro args s m h hn
    obtain ⟨mk, meth, c, h1, h2, h3, h4, h5, -, h6, h7, -⟩ := hc9 s args (atoms_spec (ws := e_wd) h)
    cases hn.symm.trans h1
    exact ⟨meth, c, h2, h3, h4, h5, h6, h7⟩
  · intro p e s m args below meth c s1 B hml hP0 _
    obtain ⟨rfl, hsz9, hP, hK, hD0, hE⟩ := hP0
    have hts : ∀ w ∈ e_wd, w.before ((C.2.2.2.2.1 a).map (e_cV ad)).toArray s = true := atoms_spec (ws := e_wd) B.pre
    have hown : s.vm.findClass y.cls = some m.cls := findClass_of_methodNamed B.named
    obtain ⟨mk, meth', c', h1, h2, h3, h4, h5, h6, -⟩ := hc9 s _ hts
    cases B.named.symm.trans h1
    cases B.method.symm.trans h2
    cases (Stand.of_body B).code.symm.trans h3
    have hh0 : s1.heap = s.heap := by rw [B.state]; rfl
    subst hsz9
    have hD := hD0.self (sz := s.heap.size)
    obtain ⟨A, hAe⟩ : ∃ A, A = va_A (e_W ad tc (C.2.2.2.2.2.1 a)) s.heap.size := ⟨_, rfl⟩
    rw [← hAe] at hD hE ⊢
    have hA : ∀ q : Nat, s.heap.size ≤ q → A q := fun q h => by rw [hAe]; exact Or.inr h
    have hl := lv_entry ((C.2.2.2.2.1 a).map (e_cV ad)) (n := nL) (by rw [e_sl_cl]; exact hsz a hpre)
    rw [lg_entry_eq]
    generalize (lg_sl ((C.2.2.2.2.1 a).map (e_cV ad)) ++ List.replicate (nL - (lg_sl ((C.2.2.2.2.1 a).map (e_cV ad))).length) Slot.unset).toArray = ls at hl ⊢
    rw [e_args_cl] at hl
    obtain ⟨t, a1, o, b1, b2, b3⟩ := body D ad tc a p e s m below meth c A ls hpre (hsz a hpre) ⟨B.exec, B.bytes, hml, hown, hts, hK, hA, hE, Nat.le_refl _, Nat.le_refl _, Nat.le_of_eq (Nat.zero_add _), Nat.le_of_eq (Nat.zero_add _)⟩ B.admits B.returns B.notSynchronized h6 hP hD hl s1 hh0 (Stand.of_body B)
    exact ⟨t, o, a1, b1, b2, b3⟩
/-- a method without handlers -/
theorem e_metX {l : Launch} (hl9 : l.stackTraces = false) {y : MethodName} {cc : ByteArray} {nL : Nat} {ret : Option FieldType} {lvl : Nat} {C : e_C} (F : List (Nat × e_F)) (K : List (Nat × Int32)) (S : List (Nat × e_C)) (Th : List (Nat × String)) (code : List e_I)
    (hy : plainFor y = true) (hyc : y.cls = "DumpDesk") (hlv : 6 ≤ lvl) (hF : e_Flds y.cls F) (hKc : (∀ x ∈ K, x.1 < 100000 → Jvm.Cond.constant y.cls x.1 x.2 ∈ e_wd) ∧ ∀ i v, (i + 100000, v) ∈ K → Jvm.Cond.constantLong y.cls i v.toInt64 ∈ e_wd) (hS0 : ∀ x ∈ S, e_Site cc y.cls lvl x.1 x.2) (hT0 : ∀ x ∈ Th, e_Thr cc x.1 x.2) (hcode : e_okC cc nL (e_f0 K) code = true) (hc9 : x_Code y cc nL ret [])
    (hsz : ∀ a, C.2.2.2.1 a → (lg_sl (C.2.2.2.2.1 a)).length ≤ nL ∧ e_lok (lv_args 0 (C.2.2.2.2.1 a)) = true)
    (pure : ∀ a, C.2.2.2.1 a → (∀ v, C.2.2.2.2.2.2.1 a = .inl v → e_rok ret v) ∧ ∀ J, e_Cl (C.2.2.1 a) (e_f0 F) (e_fd S) (e_f0 Th) none code (fun b _ r h => b ≤ C.2.2.1 a ∧ r = C.2.2.2.2.2.2.1 a ∧ h = C.2.2.2.2.2.2.2 a) J → J 0 0 (lv_args 0 (C.2.2.2.2.1 a)) [] (C.2.2.2.2.2.1 a)) : e_MetX l y lvl C := by
  refine e_body hy hc9 ?_ (fun a h => (hsz a h).1)
  intro D ad tc a p e s m below meth c A ls hpre hz1 hBase hadm hr hlocks hex hP hD hl
  have hB := hBase
  obtain ⟨hx, hb, hml, hown, hts, hK, hA, hE, hf1, hf2, hf3, hf4⟩ := hBase
  obtain ⟨hrok, hpure⟩ := pure a hpre
  have hex0 : c.exceptionTable.toList = [] := by simpa using hex
  have hQ : ∀ (H : Heap) (locs : List Loc) (t : State) (oc : Outcome), va_P D vwCl (e_W ad tc (C.2.2.2.2.2.2.2 a)) H → va_S A s.heap H locs → H.size ≤ t.heap.size → (∀ q : Nat, q < H.size → t.heap[q]? = H[q]?) → va_P D vwCl (e_W ad tc (C.2.2.2.2.2.2.2 a)) t.heap ∧ va_F A s t := by
    intro H locs t oc hP hS h1 h2
    refine ⟨hP.kept (fun k q hk => ?_), Nat.le_trans hS.1 h1, fun q h3 h4 => (h2 q (Nat.lt_of_lt_of_le h3 hS.1)).trans (hS.2.1 q h3 h4)⟩
    exact h2 _ (va_at.lt (hP k q hk))
  have Γ : e_Ctx p l e (e_rm lvl (C.2.2.1 a)) s m ((C.2.2.2.2.1 a).map (e_cV ad)).toArray below meth c (x_MQ below (e_PostX D ad tc A (C.2.2.2.2.2.2.1 a) (C.2.2.2.2.2.2.2 a)) s (C.2.2.1 a) (6 * C.2.2.1 a) A) D vwCl A nL ad tc 0 0 cc (e_tys tc) y.cls e_wd (C.2.2.1 a) (e_f0 F) (e_f0 K) (e_fd S) (e_f0 Th) none (fun b _ r h => b ≤ C.2.2.1 a ∧ r = C.2.2.2.2.2.2.1 a ∧ h = C.2.2.2.2.2.2.2 a) := by
    refine ⟨hx, hb, hown, hts, hK, rfl, rfl, rfl, fun i z hi hz => hts _ (hKc.1 _ (s_f0 hz) hi), fun i z hz => hts _ (hKc.2 _ _ (s_f0 hz)), fun i q hq => hF s _ hts _ (s_f0 hq), fun pc C9 hC9 => hS0 _ (s_fd hC9) p l e _ s m _ below meth c _ D A nL ad tc 0 0 _ hl9 hB, fun pc E h => ?_, fun b pc E h lv hP9 => ?_, fun b pc x h lv hdr hb9 hP9 => ?_, fun b pc h lv hdr hb9 hP9 => ?_, fun sc h => (nomatch h)⟩
    · intro b lv st h9 hdp hbm hP9 hl0 H locs ls hP hD hS hl
      obtain ⟨-, q1, rfl⟩ := hP9
      obtain ⟨ik, ic, g1, g2, g3, g4, g5, g6, g7, g8⟩ := hT0 _ (s_f0 h)
      have hown9 : s.vm.findClass "DumpDesk" = some m.cls := by rw [← hyc]; exact hown
      have hlo : (e_rm lvl (C.2.2.1 a)).locals = 30 * lvl := rfl
      have hdd := e_depC (ad := ad) hdp
      refine x_throw hx hl9 hb hown9 g1 hts hE g2 g3 g4 hS (by rw [hml]; exact hl.1) g5 g6 g7 g8 hex0 hlv (by rw [hlo]; omega) (by show 0 + b + 1 ≤ C.2.2.1 a; omega) (by show 0 + 6 * b + 6 ≤ 6 * C.2.2.1 a; omega) hlocks hS.2.2 (by omega) (by omega) (fun t q ce hW h1 h2 hce hcv hcl => ?_)
      obtain ⟨k1, k2⟩ := hQ H locs t (.threw q) hP hS h1 h2
      refine ⟨k1, k2, fun v hv => ?_, fun E' hE' => ⟨q, ce, rfl, hce, hcv, ?_⟩⟩
      · rw [← q1] at hv; cases hv
      · rw [← q1] at hE'; cases hE'; exact hcl
    · obtain ⟨hb9, q1, rfl⟩ := hP9
      intro hl0 H locs ls q ce rest hP hD hS hl hce hcv hcl T hT X
      obtain ⟨l1, l2, l3, l4, l5⟩ := X.leaveThrown q (g := F0 m pc ls rest) rfl rfl rfl (by rw [hex0]; intro x hx; cases hx) hlocks
      have hTh : (T.setFrames (.throwing q :: below)).heap = H := hT
      obtain ⟨k1, k2⟩ := hQ H locs (T.setFrames (.throwing q :: below)) (.threw q) hP hS (by rw [hTh]; exact Nat.le_refl _) (fun _ _ => by rw [hTh])
      refine ⟨_, l1, .threw q, l2, l3, ⟨k1, k2, fun v hv => ?_, fun E' hE' => ⟨q, ce, rfl, by rw [hTh]; exact hce, hcv, ?_⟩⟩, locs, ⟨l4, l5.mono (by omega) (by omega)⟩, hS.2.2⟩
      · rw [← q1] at hv; cases hv
      · rw [← q1] at hE'; cases hE'; exact hcl
    · obtain ⟨-, q1, rfl⟩ := hP9
      intro hl0 H locs ls hP hD hS hl
      rcases hrok _ q1.symm with ⟨-, q2⟩ | ⟨ty, x9, r1, r2, r3⟩
      · cases q2
      · cases r2
        refine x_iret hx hb (hr.trans r1) r3 (fun t ht => ?_) hS.2.2 hdr hlocks (by omega) (by omega)
        obtain ⟨k1, k2⟩ := hQ H locs t (.returned none) hP hS (by rw [ht]; exact Nat.le_refl _) (fun _ _ => by rw [ht])
        refine ⟨k1, k2, fun v hv => ?_, fun E' hE' => ?_⟩
        · rw [← q1] at hv; cases hv; rfl
        · rw [← q1] at hE'; cases hE'
    · obtain ⟨-, q1, rfl⟩ := hP9
      intro hl0 H locs ls hP hD hS hl
      rcases hrok _ q1.symm with ⟨q2, -⟩ | ⟨ty, x9, r1, r2, r3⟩
      · refine x_vret hx hb (hr.trans q2) (fun t ht => ?_) hS.2.2 hdr hlocks (by omega) (by omega)
        obtain ⟨k1, k2⟩ := hQ H locs t (.returned none) hP hS (by rw [ht]; exact Nat.le_refl _) (fun _ _ => by rw [ht])
        refine ⟨k1, k2, fun v hv => ?_, fun E' hE' => ?_⟩
        · rw [← q1] at hv; cases hv; rfl
        · rw [← q1] at hE'; cases hE'
      · cases r2
  exact hpure _ (e_sound Γ hcode) (hsz a hpre).2 s.heap [] ls hP hD va_S.rf hl
/-- a method of the law that catches what its one call throws -/
theorem e_metW {l : Launch} (hl9 : l.stackTraces = false) {y : MethodName} {cc : ByteArray} {nL : Nat} {lvl : Nat} {C : e_C} (S : List (Nat × e_C)) (Hs : List (String × Nat × Nat × Nat × Nat)) (code : List e_I)
    (hy : plainFor y = true) (hyc : y.cls = "DumpDeskLaw") (hS0 : ∀ x ∈ S, e_Site cc y.cls lvl x.1 x.2) (hcode : e_okC cc nL (fun _ => none) code = true) (hc9 : x_Code y cc nL (some .int) (Hs.map fun x => x.2))
    (hsz : ∀ a, C.2.2.2.1 a → (lg_sl (C.2.2.2.2.1 a)).length ≤ nL ∧ e_lok (lv_args 0 (C.2.2.2.2.1 a)) = true)
    (pure : ∀ a, C.2.2.2.1 a → ∃ v, C.2.2.2.2.2.2.1 a = .inl (some (.int v)) ∧ ∀ J, e_Cl (C.2.2.1 a) (fun _ => none) (e_fd S) (fun _ => none) none code (fun b pc r h => b ≤ C.2.2.1 a ∧ h = C.2.2.2.2.2.2.2 a ∧ (r = .inl (some (.int v)) ∨ ∃ E, r = .inr E ∧ x_Hs cc nL pc E v Hs)) J → J 0 0 (lv_args 0 (C.2.2.2.2.1 a)) [] (C.2.2.2.2.2.1 a)) : e_MetX l y lvl C := by
  refine e_body hy hc9 ?_ (fun a h => (hsz a h).1)
  intro D ad tc a p e s m below meth c A ls hpre hz1 hBase hadm hr hlocks hex hP hD hl
  have hB := hBase
  obtain ⟨hx, hb, hml, hown, hts, hK, hA, hE, hf1, hf2, hf3, hf4⟩ := hBase
  obtain ⟨v, hv, hpure⟩ := pure a hpre
  have hown9 : s.vm.findClass "DumpDeskLaw" = some m.cls := by rw [← hyc]; exact hown
  have hQ : ∀ (H : Heap) (locs : List Loc) (t : State), va_P D vwCl (e_W ad tc (C.2.2.2.2.2.2.2 a)) H → va_S A s.heap H locs → t.heap = H → e_PostX D ad tc A (C.2.2.2.2.2.2.1 a) (C.2.2.2.2.2.2.2 a) s (.returned (some (.int v))) t := by
    intro H locs t hP hS ht
    refine ⟨by rw [ht]; exact hP, hS.F ht, fun w hw => ?_, fun E hE => ?_⟩
    · rw [hv] at hw; cases hw; rfl
    · rw [hv] at hE; cases hE
  have Γ : e_Ctx p l e (e_rm lvl (C.2.2.1 a)) s m ((C.2.2.2.2.1 a).map (e_cV ad)).toArray below meth c (x_MQ below (e_PostX D ad tc A (C.2.2.2.2.2.2.1 a) (C.2.2.2.2.2.2.2 a)) s (C.2.2.1 a) (6 * C.2.2.1 a) A) D vwCl A nL ad tc 0 0 cc (e_tys tc) y.cls e_wd (C.2.2.1 a) (fun _ => none) (fun _ => none) (e_fd S) (fun _ => none) none (fun b pc r h => b ≤ C.2.2.1 a ∧ h = C.2.2.2.2.2.2.2 a ∧ (r = .inl (some (.int v)) ∨ ∃ E, r = .inr E ∧ x_Hs cc nL pc E v Hs)) := by
    refine ⟨hx, hb, hown, hts, hK, rfl, rfl, rfl, fun i z hi hz => (nomatch hz), fun i z hz => (nomatch hz), fun i q hq => (nomatch hq), fun pc C9 hC9 => hS0 _ (s_fd hC9) p l e _ s m _ below meth c _ D A nL ad tc 0 0 _ hl9 hB, fun pc E h => (nomatch h), fun b pc E h lv hP9 => ?_, fun b pc x h lv hdr hb9 hP9 => ?_, fun b pc h lv hdr hb9 hP9 => ?_, fun sc h => (nomatch h)⟩
    · obtain ⟨hb9, rfl, q1 | ⟨E', q1, hHs⟩⟩ := hP9
      · cases q1
      cases q1
      intro hl0 H locs ls q ce rest hP hD hS hl hce hcv hcl T hT X
      have hpl : e.platform.magicAccessors = ({} : Platform).magicAccessors := by rw [X.admits.platform]
      obtain ⟨vm', hp, hW', hent, hwp⟩ := x_find (args := ((C.2.2.2.2.1 a).map (e_cV ad)).toArray) (cc := cc) (nL := nL) (kk := v) (g := F0 m pc ls rest) (q := q) hpl rfl hown9 hts (e_env_self hE) hcv hcl Hs c.exceptionTable.toList hex hHs ((T.setTop (F0 m pc ls rest)).pushFrame (.throwing q)) X.warmed (by rw [← hT] at hce; exact hce)
      obtain ⟨n, la, z, hst, hn, hz, hd1, hd2⟩ := hent
      have X' := X.noted hW'
      have hgo : W p l e (e_rm lvl (C.2.2.1 a)) s m ((C.2.2.2.2.1 a).map (e_cV ad)).toArray below meth c H locs (0 + b) (0 + 6 * b) (x_MQ below (e_PostX D ad tc A (C.2.2.2.2.2.2.1 a) (C.2.2.2.2.2.2.2 a)) s (C.2.2.1 a) (6 * C.2.2.1 a) A) (F0 m hp ls [.ref q]) := by
        have hk : ∀ ls' : Array Slot, W p l e (e_rm lvl (C.2.2.1 a)) s m ((C.2.2.2.2.1 a).map (e_cV ad)).toArray below meth c H locs (0 + b) (0 + 6 * b) (x_MQ below (e_PostX D ad tc A (C.2.2.2.2.2.2.1 a) (C.2.2.2.2.2.2.2 a)) s (C.2.2.1 a) (6 * C.2.2.1 a) A) (F0 m (hp + la) ls' []) := by
          intro ls'
          refine lv_iconst hx hb hd1 hz ?_
          exact x_iret hx hb hr rfl (fun t ht => hQ H locs t hP hS ht) hS.2.2 hd2 hlocks (by omega) (by omega)
        rcases hst with ⟨d1, rfl⟩ | ⟨k, hk1, d1, rfl⟩
        · exact lv_astore hx hb d1 hl hn rfl (fun ls' _ => hk ls')
        · exact lv_astore_n hx hb d1 hk1 hl hn rfl (fun ls' _ => hk ls')
      obtain ⟨t2, a1, b1⟩ := hgo (T.setVm vm') hT X'
      refine ⟨t2, x_caught X rfl (fun Q Ex d acts => ?_) a1, b1⟩
      rw [← hwp Q Ex d acts]
      exact W.findHandler_eq X.method' X.code
    · obtain ⟨-, rfl, q1 | ⟨E', q1, -⟩⟩ := hP9
      · cases q1
        intro hl0 H locs ls hP hD hS hl
        exact x_iret hx hb hr rfl (fun t ht => hQ H locs t hP hS ht) hS.2.2 hdr hlocks (by omega) (by omega)
      · cases q1
    · obtain ⟨-, rfl, q1 | ⟨E', q1, -⟩⟩ := hP9
      · cases q1
      · cases q1
  exact hpure _ (e_sound Γ hcode) (hsz a hpre).2 s.heap [] ls hP hD va_S.rf hl
