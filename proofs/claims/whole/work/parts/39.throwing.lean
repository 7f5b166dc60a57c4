/-! the throw itself; the way out of a method without handlers -/
theorem x_xw {args : Array Value} {U : State} : ∀ w ∈ e_xw, w.before #[] U = true → w.before args U = true := by
  intro w hw h
  simp only [e_xw, List.mem_cons, List.not_mem_nil, or_false] at hw
  rcases hw with rfl | rfl | rfl | rfl | rfl | rfl | rfl | rfl | rfl | rfl | rfl | rfl | rfl | rfl | rfl | rfl | rfl | rfl | rfl | rfl | rfl <;> exact h
section XT
variable {p : Program} {l : Launch} {e : Env} {R : Room} {s : State} {m : MethodId} {args : Array Value} {below : List Frame} {meth : Method} {c : Code} {T : State} {locs : List Loc} {cells slots : Nat}
/-- the state here, taken as if the method began in it -/
def x_st (s T : State) (m : MethodId) (args : Array Value) (below : List Frame) : State := (T.setVm s.vm).setFrames (.invoking m args :: below)
theorem x_rest (X : Stand p l e R s m args below meth c T locs cells slots) {n k : Nat} (hc : cells + n ≤ R.cells) (hs : slots + k ≤ R.slots) :
    Stand p l e { R with cells := n, slots := k } (x_st s T m args below) m args below meth c T [] 0 0 := by
  obtain ⟨g0, hg0⟩ := Option.isSome_iff_exists.mp X.here.top
  obtain ⟨r, hr⟩ := State.topJava?_eq_some.mp hg0
  have hr9 : (T.setVm s.vm).frames = .java g0 :: r := hr
  have hF : (x_st s T m args below).frames = .invoking m args :: below := State.frames_setFrames _ (State.cur_lt_of_frames hr9)
  obtain ⟨t, ht, -⟩ := State.frames_cons hr9
  refine { admits := X.admits, cas := X.cas, clock := X.clock, frames := hF, room := ?_, hears := X.hears, method := X.method, code := X.code, here := X.here, tail := X.tail, warmed := X.warmed, limits := ?_, bytes := ?_, same := ?_ }
  · have hU : (x_st s T m args below).localsInUse = s.localsInUse := by rw [State.localsInUse_invoking hF (meth := meth) (c := c) X.method X.code, State.localsInUse_invoking X.frames X.method X.code]
    have h1 := X.room
    have h2 := X.heapSize
    have h3 := X.used
    have h4 : e.platform.stackLimits (T.setVm s.vm).me = e.platform.stackLimits s.me := X.limits
    have h5 : (T.setVm s.vm).me.stackBytes = s.me.stackBytes := X.bytes
    have h6 : (x_st s T m args below).heap = T.heap := rfl
    have h7 : (x_st s T m args below).slotsUsed = T.slotsUsed := rfl
    have h8 : e.platform.stackLimits (x_st s T m args below).me = e.platform.stackLimits s.me := by rw [← h4]; exact State.stackLimits_setFrames _ _ _
    have h9 : (x_st s T m args below).me.stackBytes = s.me.stackBytes := by rw [← h5]; exact State.stackBytes_setFrames _ _
    have hb : (x_st s T m args below).slotsTrue = true := X.book
    simp only [State.hasRoom, Bool.and_eq_true, decide_eq_true_eq, X.frames, List.length_cons] at h1
    simp only [State.hasRoom, Bool.and_eq_true, decide_eq_true_eq, hF, hU, h6, h7, h8, h9, hb, List.length_cons]
    obtain ⟨⟨⟨⟨a1, a2, a3, a4, a5, a6⟩, a7⟩, a8⟩, a9⟩ := h1
    have h7' : (x_st s T m args below).slotsUsed = T.slotsUsed := rfl
    refine ⟨⟨⟨⟨?_, ?_, ?_, ?_, ?_, a6⟩, ?_⟩, ?_⟩, trivial⟩ <;> omega
  · exact (State.stackLimits_setFrames _ _ _).symm
  · exact (State.stackBytes_setFrames _ _).symm
  · have hd : T.heap.toList.drop T.heap.size = [] := List.drop_eq_nil_of_le (Nat.le_of_eq Array.length_toList)
    refine ⟨?_, Nat.le_refl _, Nat.le_refl _, ?_, ?_, fun a c9 h9 => ⟨c9, h9, rfl, rfl, fun _ _ => rfl⟩⟩
    · show T.setVm s.vm = { (x_st s T m args below).setFrames (T.setVm s.vm).frames with heap := T.heap, slotsUsed := T.slotsUsed }
      rw [x_st, State.setFrames_setFrames, State.setFrames_self ht]
      rfl
    · show T.slotsUsed = T.slotsUsed + ((T.heap.toList.drop T.heap.size).map (·.slots.size)).sum
      rw [hd]
      rfl
    · show ((T.heap.toList.drop T.heap.size).map (·.slots.size)).sum ≤ 0
      rw [hd]
      exact Nat.le_refl _
theorem x_keep {s t : State} {k n : Nat} (h : s.sameButNew t [] k n) : s.heap.size ≤ t.heap.size ∧ ∀ q : Nat, q < s.heap.size → t.heap[q]? = s.heap[q]? := by
  obtain ⟨-, h2, -, -, -, h6⟩ := h
  refine ⟨h2, fun q hq => ?_⟩
  obtain ⟨c9, e1, e2, e3, e4⟩ := h6 q _ (Array.getElem?_eq_getElem hq)
  have h7 : c9.slots = (s.heap[q]).slots := Array.ext_getElem? fun i => e4 i (by simp)
  rw [e1, Array.getElem?_eq_getElem hq]
  rw [h7] at e2
  rw [e2]
/-- 'throw new E()' in a method without handlers: new; dup; invokespecial; athrow -/
theorem x_throw (hexec : p.tables.exec = Jvm.exec) (hl9 : l.stackTraces = false) {cls : String} {ik ic : Nat} {A : Nat → Prop} {H : Heap} {pc : Nat} {ls : Array Slot} {rest : List Value} {cc : ByteArray} (hb : c.code = cc)
    (hown : s.vm.findClass "DumpDesk" = some m.cls) (hcls : Bundle.fit cls = true) (hts : ∀ w ∈ e_wd, w.before args s = true) (hE : e_env A s) (w1 : Cond.classLink "DumpDesk" ik cls ∈ e_wd) (w2 : Cond.initialized cls ∈ e_wd)
    (hw : ∀ w ∈ Bundle.ownAtoms0 "DumpDesk" ic cls ["java/lang/RuntimeException", "java/lang/Exception"], w ∈ e_wd ∨ w ∈ e_xw) (hS : va_S A s.heap H locs) (hsize : ls.size = c.maxLocals)
    (d0 : decode cc pc = .ok (.new ik, 3)) (d3 : decode cc (pc + 3) = .ok (.dup, 1)) (d4 : decode cc (pc + 4) = .ok (.invokespecial ic, 3)) (d7 : decode cc (pc + 7) = .ok (.athrow, 1)) (hout : c.exceptionTable.toList = [])
    (hrf : 6 ≤ R.frames) (hrl : (rest.map fun v => v.category).sum + 81 ≤ R.locals) (hrc : cells + 1 ≤ R.cells) (hrs : slots + 6 ≤ R.slots) (hlocks : meth.locks = false) {Qc : State → Outcome → State → Prop} {free : Nat → Prop} (hf : ∀ z ∈ locs, free z.base) {mc ms : Nat} (hmc : cells + 1 ≤ mc) (hms : slots + 6 ≤ ms)
    (hq : ∀ (t : State) (q : Nat) (ce : Cell), s.WarmedH t.vm → H.size ≤ t.heap.size → (∀ q : Nat, q < H.size → t.heap[q]? = H[q]?) → t.heap[q]? = some ce → ce.vm = .none → s.vm.findClass cls = some ce.cls → Qc s (.threw q) t) :
    W p l e R s m args below meth c H locs cells slots (x_MQ below Qc s mc ms free) (F0 m pc ls rest) := by
  intro T hT X
  have htr : e.platform.stackTraces = false := (show e.platform.stackTraces = l.stackTraces by rw [X.admits.platform]).trans hl9
  have Y := x_rest X hrc hrs
  obtain ⟨s', hs'⟩ : ∃ z, z = x_st s T m args below := ⟨_, rfl⟩
  rw [← hs'] at Y
  have hvm : s'.vm = s.vm := by rw [hs']; rfl
  have hhp : s'.heap = H := by rw [hs']; exact hT
  have hW0 : s.WarmedH s'.vm := by rw [hvm]; exact State.WarmedH.refl s
  have hts' : ∀ w ∈ e_wd, w.before args s' = true := x_at hW0 hts
  have hxs : ∀ w ∈ e_xw, w.before #[] s' = true := hE s' hW0 (fun q h1 h2 => by rw [hhp]; exact hS.2.1 q h1 h2)
  have h : ∀ w ∈ Bundle.ownAtoms0 "DumpDesk" ic cls ["java/lang/RuntimeException", "java/lang/Exception"], w.before args s' = true := by
    intro w hw9
    rcases hw w hw9 with h9 | h9
    · exact hts' w h9
    · exact x_xw w h9 (hxs w h9)
  have hown' : s'.vm.findClass "DumpDesk" = some m.cls := by rw [hvm]; exact hown
  obtain ⟨vm1, cX, kX, hfX, hkX, -, -, X1, st1⟩ := Y.newCold hexec (own := "DumpDesk") (C := cls) (index := ik) (n := 6) hown' (hts' _ w1) (h _ (by simp [Bundle.ownAtoms0])) (hts' _ w2) (g := F0 m pc ls rest) rfl (by rw [hb]; exact d0) (Nat.le_refl _) (Nat.le_refl _)
  generalize hT1 : (T.setVm vm1).pushCell { cls := cX, slots := kX.instanceTypes.map defaultValue, vm := .none } = T1 at X1 st1
  have hcellA : T1.heap[T.heap.size]? = some (freshCell cX kX) := by rw [← hT1]; exact State.heap_pushCell_size _ _
  have d3' : decode c.code (pc + 3) = .ok (.dup, 1) := by rw [hb]; exact d3
  have hcat : (Value.ref T.heap.size).category = 1 := rfl
  obtain ⟨U, hsteps, hrun, hend, hW, hsame, ce, hce, hO⟩ := X1.ctorThrow0 hexec htr (own := "DumpDesk") (cls := cls) (names := ["java/lang/RuntimeException", "java/lang/Exception"]) (ic := ic) hown' hcls (by decide +kernel) h (fun x hx => nomatch hx) hfX hkX hcellA (by rw [hhp, hT]; exact Nat.le_refl _)
    (g := F0 m (pc + 4) ls (.ref T.heap.size :: .ref T.heap.size :: rest)) rfl hsize rfl rfl (rest := rest) rfl (by rw [hb]; exact d4) (by rw [hb]; exact d7) (by rw [hout]; intro x hx; cases hx)
    (by show 2 + 3 < R.frames; omega) (by show 2 * (F0 m (pc + 4) ls (.ref T.heap.size :: .ref T.heap.size :: rest)).monitorRoom + ((Value.ref T.heap.size :: rest).map fun v => v.category).sum + 80 ≤ R.locals; rw [List.map_cons, List.sum_cons, hcat]; show 0 + (1 + _) + 80 ≤ _; omega) hlocks
  obtain ⟨f1, f2⟩ := x_keep hsame
  rw [hhp] at f1 f2
  have hWs : s.WarmedH U.vm := State.WarmedH.trans hW0 hW
  have hcl : s.vm.findClass cls = some ce.cls := by
    have h9 := hO.cls
    rw [hvm] at h9
    exact h9
  have hall : s.sameButNew ({ U with vm := s.vm } : State) locs mc ms := by
    subst hs'
    obtain ⟨e1, e2⟩ := hsame
    rw [x_st, State.setFrames_setFrames] at e1
    have h2 : (T.setVm s.vm).sameButNew ({ U with vm := s.vm } : State) [] (0 + 1) (0 + 6) := ⟨e1, e2⟩
    have h3 := X.same.trans h2
    rw [List.append_nil] at h3
    exact h3.mono hmc hms
  refine ⟨U, ?_, .threw T.heap.size, hrun, hend, hq U T.heap.size ce hWs f1 f2 hce hO.vm hcl, locs, ⟨hWs, hall⟩, hf⟩
  refine st1 _ ?_
  show Steps p.tables e below (T1.setTop (F0 m (pc + 3) ls (.ref T.heap.size :: rest))) _
  jvm_step X1.here [X1.here.top, hexec, d3', Value.category]
  exact hsteps
end XT
