/-! Methods by contract: what a method asks and gives over the named cells, out of a run of the stepper; calls -/
def e_ws (y : MethodName) (bytes : ByteArray) (maxL : Nat) (ret : Option FieldType) : List Cond := Cond.code y bytes maxL ret :: e_wd
def e_rm (k n : Nat) : Room := { frames := k, cells := n, slots := 6 * n, locals := 30 * k }
def e_tys (tc : Nat → ClassId) : List (ClassId × FieldType) := [(tc 0, .int), (tc 1, .boolean), (tc 2, .long)]
/-- words that the tables' steady ones don't hold: they stand in every later state of the machine whose cells outside A are as they were -/
def e_env (A : Nat → Prop) (U : State) : Prop := ∀ U' : State, U.WarmedH U'.vm → (∀ q : Nat, q < U.heap.size → ¬ A q → U'.heap[q]? = U.heap[q]?) → ∀ w ∈ e_xw, w.before #[] U' = true
def e_Pre (D : va_G) (ad : Nat → Nat) (tc : Nat → ClassId) (as : List Value) (h : e_H) (sz : Nat) : Array Value → State → Prop :=
  va_Pc (as.map (e_cV ad)) (fun U => U.heap.size = sz ∧ va_P D vwCl (e_W ad tc h) U.heap ∧ va_K D vwCl (e_tys tc) U ∧ va_D (fun _ => True) (e_W ad tc h) ∧ e_env (va_A (e_W ad tc h) sz) U)
def e_Post (D : va_G) (ad : Nat → Nat) (tc : Nat → ClassId) (A : Nat → Prop) (v : Option Value) (h' : e_H) : Array Value → State → Outcome → State → Prop := fun _ st oc t =>
  oc = .returned (v.map (e_cV ad)) ∧ va_P D vwCl (e_W ad tc h') t.heap ∧ va_F A st t
/-- a method that returns -/
def e_Met (l : Launch) (y : MethodName) (bytes : ByteArray) (maxL : Nat) (ret : Option FieldType) (lvl : Nat) (C : e_C) : Prop :=
  ∀ (D : va_G) (ad : Nat → Nat) (tc : Nat → ClassId) (sz : Nat) (a : C.1), C.2.2.2.1 a → ∃ v, C.2.2.2.2.2.2.1 a = .inl v ∧
    Met l y (e_ws y bytes maxL ret) (e_rm lvl 0) (e_Pre D ad tc (C.2.2.2.2.1 a) (C.2.2.2.2.2.1 a) sz) (e_Post D ad tc (va_A (e_W ad tc (C.2.2.2.2.2.1 a)) sz) v (C.2.2.2.2.2.2.2 a)) 0 0 (va_A (e_W ad tc (C.2.2.2.2.2.1 a)) sz)
theorem e_good {ws : List Cond} (h : ∀ w ∈ ws, w ∈ e_wd) : GoodIn e_wd ws := fun w hw => ⟨h w hw, good_of_word (List.mem_filter.mp (h w hw)).2⟩
theorem e_D {A B : Nat → Prop} {ad : Nat → Nat} {tc : Nat → ClassId} {h h' : e_H} (hD : va_D A (e_W ad tc h)) (hAB : ∀ i, i < e_N → A (ad i) → B (ad i)) : va_D B (e_W ad tc h') := by
  have key : ∀ {h : e_H} (k : Nat) (q : Nat × va_E), (e_W ad tc h)[k]? = some q → k < e_N ∧ q.1 = ad k := by
    intro h k q hk
    have hl := (List.getElem?_eq_some_iff.mp hk).1
    have hl : k < e_N := by unfold e_W at hl; simpa using hl
    rw [e_W_at ad tc h hl] at hk
    cases hk
    exact ⟨hl, rfl⟩
  refine ⟨fun i j x y hi hj hxy => ?_, fun k q hk => ?_⟩
  · obtain ⟨a1, a2⟩ := key i x hi
    obtain ⟨b1, b2⟩ := key j y hj
    exact hD.1 i j _ _ (e_W_at ad tc h a1) (e_W_at ad tc h b1) (by rw [← a2, ← b2]; exact hxy)
  · obtain ⟨a1, a2⟩ := key k q hk
    rw [a2]
    exact hAB k a1 (hD.2 k _ (e_W_at ad tc h a1))
theorem e_free {A : Nat → Prop} {ad : Nat → Nat} {tc : Nat → ClassId} {h : e_H} {H0 H : Heap} {locs : List Loc} (hD : va_D A (e_W ad tc h)) (hS : va_S A H0 H locs) (hA : ∀ q, H0.size ≤ q → A q) : ∀ q, va_A (e_W ad tc h) H.size q → A q := by
  intro q hq
  rcases hq with ⟨k, x, hk⟩ | hq
  · exact hD.2 k (q, x) hk
  · exact hA q (Nat.le_trans hS.1 hq)
theorem e_env_to {A B : Nat → Prop} {s U : State} {H : Heap} {locs : List Loc} (hE : e_env A s) (hS : va_S A s.heap H locs) (hU : U.heap = H) (hW : s.WarmedH U.vm) (hAB : ∀ q, B q → A q) : e_env B U := by
  intro U' hW' hk w hw
  refine hE U' (State.WarmedH.trans hW hW') (fun q h1 h2 => ?_) w hw
  rw [hk q (by rw [hU]; exact Nat.lt_of_lt_of_le h1 hS.1) (fun z => h2 (hAB q z)), hU]
  exact hS.2.1 q h1 h2
theorem e_env_self {A : Nat → Prop} {s : State} (hE : e_env A s) : ∀ w ∈ e_xw, w.before #[] s = true := hE s (State.WarmedH.refl s) (fun _ _ _ => rfl)
theorem e_blind {D : va_G} {ad : Nat → Nat} {tc : Nat → ClassId} {as : List Value} {h : e_H} {sz : Nat} : FrameBlind (e_Pre D ad tc as h sz) := by
  intro a U g mk q
  obtain ⟨q0, q1, qP, qK, qD, qE⟩ := q
  refine ⟨q0, q1, qP, va_K.moved (u := U) (U := U.calling g mk a) (Vm.Alike.refl U.vm) qK, qD, ?_⟩
  exact fun U' hW hk => qE U' hW hk
/-- what every body has at hand -/
def e_Base (p : Program) (l : Launch) (e : Env) (R : Room) (s : State) (m : MethodId) (args : Array Value) (below : List Frame) (meth : Method) (c : Code) (D : va_G) (A : Nat → Prop) (nL : Nat) (ad : Nat → Nat) (tc : Nat → ClassId) (c0 s0 : Nat) (cc : ByteArray) (own : String) (bm lvl : Nat) : Prop :=
  p.tables.exec = Jvm.exec ∧ c.code = cc ∧ c.maxLocals = nL ∧ s.vm.findClass own = some m.cls ∧ (∀ w ∈ e_wd, w.before args s = true) ∧ va_K D vwCl (e_tys tc) s ∧ (∀ q, s.heap.size ≤ q → A q) ∧ e_env A s ∧ lvl ≤ R.frames ∧ 30 * lvl ≤ R.locals ∧ c0 + bm ≤ R.cells ∧ s0 + 6 * bm ≤ R.slots
/-- a call site in a body -/
def e_Site (cc : ByteArray) (own : String) (lvl pc : Nat) (C : e_C) : Prop :=
  ∀ (p : Program) (l : Launch) (e : Env) (R : Room) (s : State) (m : MethodId) (args : Array Value) (below : List Frame) (meth : Method) (c : Code) (Q : State → Prop) (D : va_G) (A : Nat → Prop) (nL : Nat) (ad : Nat → Nat) (tc : Nat → ClassId) (c0 s0 bm : Nat), l.stackTraces = false →
    e_Base p l e R s m args below meth c D A nL ad tc c0 s0 cc own bm lvl → ∀ (a : C.1) (b : Nat) (lv : e_L) (r : List Value), C.2.2.2.1 a → (C.2.2.2.2.1 a).length = C.2.1 → e_dep r 8 = true → b + C.2.2.1 a ≤ bm →
    (∀ v, C.2.2.2.2.2.2.1 a = .inl v → e_J p l e R s m args below meth c Q D vwCl A nL ad tc c0 s0 (b + C.2.2.1 a) (pc + 3) lv (v.toList ++ r) (C.2.2.2.2.2.2.2 a)) →
    (∀ E, C.2.2.2.2.2.2.1 a = .inr E → e_X p l e R s m args below meth c Q D vwCl A nL ad tc c0 s0 (b + C.2.2.1 a) pc lv E (C.2.2.2.2.2.2.2 a)) →
    e_J p l e R s m args below meth c Q D vwCl A nL ad tc c0 s0 b pc lv ((C.2.2.2.2.1 a).reverse ++ r) (C.2.2.2.2.2.1 a)
theorem e_depC {ad : Nat → Nat} {r : List Value} {n : Nat} (h : e_dep r n = true) : ((r.map (e_cV ad)).map fun v => v.category).sum ≤ n := by
  rw [List.map_map]
  have : ((fun v : Value => v.category) ∘ e_cV ad) = fun v => v.category := by
    funext v
    exact e_cat ad v
  rw [this]
  exact s_dep h
/-- out of a run of a callee that returns -/
theorem e_ofRun {p : Program} {l : Launch} {e : Env} {R : Room} {s : State} {m : MethodId} {args : Array Value} {below : List Frame} {meth : Method} {c : Code} {Q : State → Prop} {D : va_G} {A : Nat → Prop} {nL : Nat} {ad : Nat → Nat} {tc : Nat → ClassId} {c0 s0 b pc : Nat} {lv : e_L} {r st0 : List Value} {h h' : e_H} {v : Option Value} {H : Heap} {locs : List Loc} {ls : Array Slot} {a9 : Array Value}
    (hA : ∀ q, s.heap.size ≤ q → A q) (hl0 : e_lok lv = true) (hD : va_D A (e_W ad tc h)) (hS : va_S A s.heap H locs) (hl : lv_has ls nL (e_cl ad lv))
    (hr : va_Run p l e R s m args below meth c H locs (c0 + b) (s0 + 6 * b) 0 0 (F0 m pc ls st0) (r.map (e_cV ad)) (e_Post D ad tc (va_A (e_W ad tc h) H.size) v h' a9) (va_A (e_W ad tc h) H.size))
    (hJ : e_J p l e R s m args below meth c Q D vwCl A nL ad tc c0 s0 b (pc + 3) lv (v.toList ++ r) h') : W p l e R s m args below meth c H locs (c0 + b) (s0 + 6 * b) Q (F0 m pc ls st0) := by
  have hfr := e_free hD hS hA
  intro T hT X
  obtain ⟨v', st₀, t, T', L, h0, X', hL, e1, e2, ⟨hv, hP', hz, hk⟩, st⟩ := hr T hT X
  cases hv
  rw [h0] at hz hk
  have hst : (v.map (e_cV ad)).toList ++ r.map (e_cV ad) = (v.toList ++ r).map (e_cV ad) := by cases v <;> rfl
  rw [hst] at st
  obtain ⟨t2, a1, b1⟩ := hJ hl0 T'.heap (locs ++ L) ls (by rw [e1]; exact hP') (e_D hD (fun _ _ z => z))
    ⟨Nat.le_trans hS.1 (by rw [e1]; exact hz), fun q h1 h2 => by rw [e1, hk q (Nat.lt_of_lt_of_le h1 hS.1) (fun z => h2 (hfr q z))]; exact hS.2.1 q h1 h2, fun q hq => by
      rcases List.mem_append.mp hq with h | h
      · exact hS.2.2 q h
      · exact hfr _ (hL q h)⟩ hl T' rfl X'
  exact ⟨t2, st t2 a1, b1⟩
theorem e_siteS {y : MethodName} {bytes cc : ByteArray} {maxL : Nat} {ret : Option FieldType} {lv0 lvl : Nat} {C : e_C} {own : String} {pc i : Nat} (hM : ∀ l : Launch, l.stackTraces = false → e_Met l y bytes maxL ret lv0 C) (hlt : lv0 < lvl) (hmx : maxL ≤ 11) (hc : ∀ a, C.2.2.1 a = 0)
    (w1 : Cond.methodLink own i y ∈ e_wd) (w2 : Cond.static y ∈ e_wd) (w3 : Cond.initialized y.cls ∈ e_wd) (w4 : Cond.code y bytes maxL ret ∈ e_wd)
    (hd : y.cls ≠ "java/lang/invoke/MethodHandle" ∧ y.cls ≠ "java/lang/invoke/VarHandle" ∧ (parseMethodDescriptor y.desc).map (fun d => d.parameters.length) = some C.2.1) (hdg : decode cc pc = .ok (.invokestatic i, 3)) : e_Site cc own lvl pc C := by
  intro p l e R s m args below meth c Q D A nL ad tc c0 s0 bm hl9 hB a b lv r hpre hlen hdp hbm hret hthr hl0 H locs ls hP hD hS hl
  obtain ⟨hx, hb, hml, hown, hts, hK, hA, hE, hf1, hf2, hf3, hf4⟩ := hB
  obtain ⟨v, hv, hMt⟩ := hM l hl9 D ad tc H.size a hpre
  rw [hc a] at hret hbm
  have hG : GoodIn e_wd (va_wsS own i y (e_ws y bytes maxL ret)) := e_good (by
    intro w hw
    simp only [va_wsS, e_ws, List.mem_append, List.mem_cons, List.not_mem_nil, or_false] at hw
    rcases hw with (rfl | rfl | rfl) | rfl | hw
    · exact w1
    · exact w2
    · exact w3
    · exact w4
    · exact hw)
  have cw := va_cwS (R := R) (s := s) (args := args) (rm := e_rm lv0 0) (mc := 0) (ms := 0) C.2.1 hts hG rfl rfl rfl hd ⟨by show lv0 + 1 ≤ _; omega, by show 8 + (maxL + 11) + 30 * lv0 ≤ _; omega⟩
  refine e_ofRun hA hl0 hD hS hl (va_runS (As := (C.2.2.2.2.1 a).map (e_cV ad)) ⟨hx, hb, hml, hown, hts⟩ hMt cw ⟨e_blind, fun U hU hW => ⟨rfl, by rw [hU], by rw [hU]; exact hP, va_K.moved hW.alike hK, e_D hD (fun _ _ _ => trivial), e_env_to hE hS hU hW (e_free hD hS hA)⟩⟩ rfl (by rw [List.length_map]; exact hlen) hl.1 (by simp) (lv_room (e_depC hdp)) hdg ⟨by omega, by omega⟩) (hret v hv)
theorem e_siteSN {y : MethodName} {bytes cc : ByteArray} {maxL : Nat} {ret : Option FieldType} {lv0 lvl : Nat} {C : e_C} {own host : String} {pc i : Nat} (hM : ∀ l : Launch, l.stackTraces = false → e_Met l y bytes maxL ret lv0 C) (hlt : lv0 < lvl) (hmx : maxL ≤ 11) (hc : ∀ a, C.2.2.1 a = 0)
    (w1 : Cond.methodLinkNest own i y host ∈ e_xw) (w2 : Cond.static y ∈ e_wd) (w3 : Cond.initialized y.cls ∈ e_wd) (w4 : Cond.code y bytes maxL ret ∈ e_wd)
    (hd : y.cls ≠ "java/lang/invoke/MethodHandle" ∧ y.cls ≠ "java/lang/invoke/VarHandle" ∧ (parseMethodDescriptor y.desc).map (fun d => d.parameters.length) = some C.2.1) (hdg : decode cc pc = .ok (.invokestatic i, 3)) : e_Site cc own lvl pc C := by
  intro p l e R s m args below meth c Q D A nL ad tc c0 s0 bm hl9 hB a b lv r hpre hlen hdp hbm hret hthr hl0 H locs ls hP hD hS hl
  obtain ⟨hx, hb, hml, hown, hts, hK, hA, hE, hf1, hf2, hf3, hf4⟩ := hB
  obtain ⟨v, hv, hMt⟩ := hM l hl9 D ad tc H.size a hpre
  rw [hc a] at hret hbm
  have hG : GoodIn e_wd (e_ws y bytes maxL ret) := e_good (by
    intro w hw
    simp only [e_ws, List.mem_cons] at hw
    rcases hw with rfl | hw
    · exact w4
    · exact hw)
  have cw := va_cnB (R := R) (s := s) (args := args) (rm := e_rm lv0 0) (mc := 0) (ms := 0) C.2.1 hts hG rfl rfl rfl (e_env_self hE _ w1) (hts _ w3) hd ⟨by show lv0 + 1 ≤ _; omega, by show 8 + (maxL + 11) + 30 * lv0 ≤ _; omega⟩
  refine e_ofRun hA hl0 hD hS hl (va_runSN (As := (C.2.2.2.2.1 a).map (e_cV ad)) ⟨hx, hb, hml, hown, hts⟩ hMt ⟨cw, hts _ w2, trivial⟩ ⟨e_blind, fun U hU hW => ⟨rfl, by rw [hU], by rw [hU]; exact hP, va_K.moved hW.alike hK, e_D hD (fun _ _ _ => trivial), e_env_to hE hS hU hW (e_free hD hS hA)⟩⟩ rfl (by rw [List.length_map]; exact hlen) hl.1 (by simp) (lv_room (e_depC hdp)) hdg ⟨by omega, by omega⟩) (hret v hv)
theorem e_siteV {y : MethodName} {bytes cc : ByteArray} {maxL : Nat} {ret : Option FieldType} {lv0 lvl : Nat} {C : e_C} {own : String} {pc i ci n : Nat} {Tc : u_T} {Nc : Nat} (hM : ∀ l : Launch, l.stackTraces = false → e_Met l y bytes maxL ret lv0 C) (hlt : lv0 < lvl) (hmx : maxL ≤ 11) (hc : ∀ a, C.2.2.1 a = 0)
    (hci : vwCl[ci]? = some (y.cls, Tc, Nc)) (hob : ∀ a : C.1, C.2.2.2.1 a → ∃ (o : Nat) (ts fs : List Value), C.2.2.2.2.1 a = .ref o :: ts ∧ o < e_N ∧ C.2.2.2.2.2.1 a o = .inr (ci, fs)) (hn : C.2.1 = n + 1)
    (w1 : Cond.methodLink own i y ∈ e_wd) (w2 : Cond.instanceMethod y ∈ e_wd) (w3 : Cond.initialized y.cls ∈ e_wd) (w4 : Cond.code y bytes maxL ret ∈ e_wd) (w5 : Cond.selects y.cls y y ∈ e_wd)
    (hd : y.cls ≠ "java/lang/invoke/MethodHandle" ∧ y.cls ≠ "java/lang/invoke/VarHandle" ∧ (parseMethodDescriptor y.desc).map (fun d => d.parameters.length) = some n) (hdg : decode cc pc = .ok (.invokevirtual i, 3)) : e_Site cc own lvl pc C := by
  intro p l e R s m args below meth c Q D A nL ad tc c0 s0 bm hl9 hB a b lv r hpre hlen hdp hbm hret hthr hl0 H locs ls hP hD hS hl
  obtain ⟨hx, hb, hml, hown, hts, hK, hA, hE, hf1, hf2, hf3, hf4⟩ := hB
  obtain ⟨v, hv, hMt⟩ := hM l hl9 D ad tc H.size a hpre
  obtain ⟨o, ts, fs, ho1, ho2, ho3⟩ := hob a hpre
  rw [hc a] at hret hbm
  have hG : GoodIn e_wd (wsV own i y.cls y (e_ws y bytes maxL ret)) := e_good (by
    intro w hw
    simp only [wsV, e_ws, List.mem_append, List.mem_cons, List.not_mem_nil, or_false] at hw
    rcases hw with (rfl | rfl | rfl | rfl) | rfl | hw
    · exact w1
    · exact w2
    · exact w5
    · exact w3
    · exact w4
    · exact hw)
  have cw := cwV (R := R) (s := s) (args := args) (rm := e_rm lv0 0) (mc := 0) (ms := 0) n hts hG rfl rfl rfl ⟨rfl, hd⟩ ⟨by show lv0 + 1 ≤ _; omega, by show 8 + (maxL + 11) + 30 * lv0 ≤ _; omega⟩
  have he : (e_W ad tc (C.2.2.2.2.2.1 a))[o]? = some (ad o, .inr (ci, fs.map (e_cV ad))) := by rw [e_W_at ad tc _ ho2, ho3]; rfl
  have hrecv := va_recv hK hP hci he
  have hargs : (C.2.2.2.2.1 a).map (e_cV ad) = .ref (ad o) :: ts.map (e_cV ad) := by rw [ho1]; rfl
  have hlen2 : ts.length = n := by
    have := hlen
    rw [ho1, hn] at this
    simpa using this
  refine e_ofRun hA hl0 hD hS hl (va_runV (As := ts.map (e_cV ad)) (b := ad o) ⟨hx, hb, hml, hown, hts⟩ hMt cw ⟨e_blind, hrecv, fun U hU hW => ⟨by rw [hargs], by rw [hU], by rw [hU]; exact hP, va_K.moved hW.alike hK, e_D hD (fun _ _ _ => trivial), e_env_to hE hS hU hW (e_free hD hS hA)⟩⟩ rfl (by rw [List.length_map]; exact hlen2) hl.1 (by rw [ho1]; simp [e_cV]) (lv_room (e_depC hdp)) hdg ⟨by omega, by omega⟩) (hret v hv)
theorem e_args_cl (ad : Nat → Nat) (as : List Value) (i : Nat) : lv_args i (as.map (e_cV ad)) = e_cl ad (lv_args i as) := by
  induction as generalizing i with
  | nil => rfl
  | cons v t ih =>
    rw [List.map_cons]
    show (i, e_cV ad v) :: lv_args (if (e_cV ad v).category = 2 then i + 2 else i + 1) (t.map (e_cV ad)) = (i, e_cV ad v) :: e_cl ad (lv_args (if v.category = 2 then i + 2 else i + 1) t)
    rw [e_cat, ih]
theorem e_sl_cl (ad : Nat → Nat) (as : List Value) : (lg_sl (as.map (e_cV ad))).length = (lg_sl as).length := by
  induction as with
  | nil => rfl
  | cons v t ih =>
    have h1 : lg_sl ((v :: t).map (e_cV ad)) = (if (e_cV ad v).category = 2 then [.val (e_cV ad v), .second] else [.val (e_cV ad v)]) ++ lg_sl (t.map (e_cV ad)) := rfl
    have h2 : lg_sl (v :: t) = (if v.category = 2 then [.val v, .second] else [.val v]) ++ lg_sl t := rfl
    rw [h1, h2, List.length_append, List.length_append, ih, e_cat]
    split <;> rfl
/-- the fields and constants that a class's code names -/
def e_Flds (own : String) (F : List (Nat × e_F)) : Prop := ∀ (s : State) (args : Array Value), (∀ w ∈ e_wd, w.before args s = true) → ∀ x ∈ F, e_fok s args vwCl own e_wd x.1 x.2
def e_rok (ret : Option FieldType) (v : Option Value) : Prop := (ret = none ∧ v = none) ∨ ∃ ty x, ret = some ty ∧ v = some (.int x) ∧ narrow ty (.int x) = .int x
/-- a method that returns, out of a run of the stepper -/
theorem e_met {l : Launch} (hl9 : l.stackTraces = false) {y : MethodName} {cc : ByteArray} {nL : Nat} {ret : Option FieldType} {lvl : Nat} {C : e_C} (F : List (Nat × e_F)) (K : List (Nat × Int32)) (S : List (Nat × e_C)) (code : List e_I)
    (hy : plainFor y = true) (hF : e_Flds y.cls F) (hKc : (∀ x ∈ K, x.1 < 100000 → Jvm.Cond.constant y.cls x.1 x.2 ∈ e_wd) ∧ ∀ i v, (i + 100000, v) ∈ K → Jvm.Cond.constantLong y.cls i v.toInt64 ∈ e_wd) (hS0 : ∀ x ∈ S, e_Site cc y.cls lvl x.1 x.2) (hcode : e_okC cc nL (e_f0 K) code = true)
    (hsz : ∀ a, C.2.2.2.1 a → (lg_sl (C.2.2.2.2.1 a)).length ≤ nL ∧ e_lok (lv_args 0 (C.2.2.2.2.1 a)) = true)
    (pure : ∀ a, C.2.2.2.1 a → ∃ v, C.2.2.2.2.2.2.1 a = .inl v ∧ e_rok ret v ∧ ∀ J, e_Cl 0 (e_f0 F) (e_fd S) (fun _ => none) none code (fun _ _ r h => r = .inl v ∧ h = C.2.2.2.2.2.2.2 a) J → J 0 0 (lv_args 0 (C.2.2.2.2.1 a)) [] (C.2.2.2.2.2.1 a)) : e_Met l y cc nL ret lvl C := by
  intro D ad tc sz a hpre
  obtain ⟨v, hv, hrok, hpure⟩ := pure a hpre
  obtain ⟨hz1, hz2⟩ := hsz a hpre
  refine ⟨v, hv, va_MetF (cc := cc) (maxL := nL) (ret := ret) hy rfl ?_⟩
  intro p e s m args below meth c s₁ B hml hP0
  obtain ⟨rfl, hsz9, hP, hK, hD0, hE⟩ := hP0
  have hx := B.exec
  have hb := B.bytes
  have hr := B.returns
  have hts0 := atoms_spec (ws := e_ws y cc nL ret) B.pre
  have hts : ∀ w ∈ e_wd, w.before ((C.2.2.2.2.1 a).map (e_cV ad)).toArray s = true := fun w hw => hts0 w (List.mem_cons_of_mem _ hw)
  have hown : s.vm.findClass y.cls = some m.cls := findClass_of_methodNamed B.named
  have hlocks := B.notSynchronized
  subst hsz9
  have hD := hD0.self (sz := s.heap.size)
  obtain ⟨A, hAe⟩ : ∃ A, A = va_A (e_W ad tc (C.2.2.2.2.2.1 a)) s.heap.size := ⟨_, rfl⟩
  rw [← hAe] at hD hE ⊢
  have hA : ∀ q : Nat, s.heap.size ≤ q → A q := fun q h => by rw [hAe]; exact Or.inr h
  have hS : va_S A s.heap s.heap [] := va_S.rf
  have hl := lv_entry ((C.2.2.2.2.1 a).map (e_cV ad)) (n := nL) (by rw [e_sl_cl]; exact hz1)
  rw [lg_entry_eq]
  generalize (lg_sl ((C.2.2.2.2.1 a).map (e_cV ad)) ++ List.replicate (nL - (lg_sl ((C.2.2.2.2.1 a).map (e_cV ad))).length) Slot.unset).toArray = ls at hl ⊢
  rw [e_args_cl] at hl
  have hBase : e_Base p l e (e_rm lvl 0) s m ((C.2.2.2.2.1 a).map (e_cV ad)).toArray below meth c D A nL ad tc 0 0 cc y.cls 0 lvl := ⟨hx, hb, hml, hown, hts, hK, hA, hE, Nat.le_refl _, Nat.le_refl _, Nat.le_refl _, Nat.le_refl _⟩
  have Γ : e_Ctx p l e (e_rm lvl 0) s m ((C.2.2.2.2.1 a).map (e_cV ad)).toArray below meth c (MQ below (e_Post D ad tc A v (C.2.2.2.2.2.2.2 a)) ((C.2.2.2.2.1 a).map (e_cV ad)).toArray s 0 0 A) D vwCl A nL ad tc 0 0 cc (e_tys tc) y.cls e_wd 0 (e_f0 F) (e_f0 K) (e_fd S) (fun _ => none) none (fun _ _ r h => r = .inl v ∧ h = C.2.2.2.2.2.2.2 a) := by
    refine ⟨hx, hb, hown, hts, hK, rfl, rfl, rfl, fun i z hi hz => hts _ (hKc.1 _ (s_f0 hz) hi), fun i z hz => hts _ (hKc.2 _ _ (s_f0 hz)), fun i q hq => hF s _ hts _ (s_f0 hq), fun pc C9 hC9 => hS0 _ (s_fd hC9) p l e _ s m _ below meth c _ D A nL ad tc 0 0 0 hl9 hBase, fun pc E h => (nomatch h), fun b pc E h lv hP9 => (nomatch hP9.1), fun b pc x h lv hdr hb9 hP9 => ?_, fun b pc h lv hdr hb9 hP9 => ?_, fun sc h => (nomatch h)⟩
    · obtain ⟨q1, rfl⟩ := hP9
      cases q1
      intro hl0 H locs ls hP hD hS hl
      have hb0 : b = 0 := by omega
      subst hb0
      rcases hrok with ⟨-, q2⟩ | ⟨ty, x9, r1, r2, r3⟩
      · cases q2
      · cases r2
        exact W.zret hx hb (hr.trans r1) r3 (fun t ht hW => ⟨rfl, by rw [ht]; exact hP, hS.F ht⟩) hS.2.2 hdr
    · obtain ⟨q1, rfl⟩ := hP9
      cases q1
      intro hl0 H locs ls hP hD hS hl
      have hb0 : b = 0 := by omega
      subst hb0
      rcases hrok with ⟨q2, -⟩ | ⟨ty, x9, r1, r2, r3⟩
      · exact W.vret hx hb (hr.trans q2) (fun t ht hW => ⟨rfl, by rw [ht]; exact hP, hS.F ht⟩) hS.2.2 hdr
      · cases r2
  exact hpure _ (e_sound Γ hcode) hz2 s.heap [] ls hP hD hS hl
