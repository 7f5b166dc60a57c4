/-! constructors: what they begin with, how they end; a stretch of a constructor run by the stepper -/
theorem x_cA {D : va_G} {cl : List vw_C} {tys : List (ClassId × FieldType)} {s : State} {cA cB : ClassId} {ty : FieldType} {i j : Nat} (h : va_K D cl tys s) (hi : tys[i]? = some (cA, ty)) (hj : tys[j]? = some (cB, ty)) (hp : ∀ C, ty ≠ .object C) : cA = cB := by
  have h1 := (h.2 i _ hi).2
  have h2 := (h.2 j _ hj).2
  cases ty with
  | object C => exact absurd rfl (hp C)
  | _ => exact Option.some.inj (h1.symm.trans h2)
def c_Pre (D : va_G) (tc : Nat → ClassId) (as : List Value) (ws : va_W) (sz : Nat) (Z : State → Prop) : Array Value → State → Prop :=
  va_Pc as (fun U => U.heap.size = sz ∧ va_P D vwCl ws U.heap ∧ va_K D vwCl (e_tys tc) U ∧ va_D (fun _ => True) ws ∧ Z U)
def c_Post (D : va_G) (S : Type) (B : S → va_W) (A : Nat → Prop) : Array Value → State → Outcome → State → Prop := va_Qv (fun _ : S => True) (fun u t => va_P D vwCl (B u) t.heap ∧ va_D A (B u)) A
def cZ0 (_ : State) : Prop := True
theorem c_blind {D : va_G} {tc : Nat → ClassId} {as : List Value} {ws : va_W} {sz : Nat} {Z : State → Prop} (hZ : ∀ U U' : State, U'.vm = U.vm → Z U → Z U') : FrameBlind (c_Pre D tc as ws sz Z) := by
  intro a U g mk q
  obtain ⟨q0, q1, qP, qK, qD, qZ⟩ := q
  exact ⟨q0, q1, qP, va_K.moved (u := U) (U := U.calling g mk a) (Vm.Alike.refl U.vm) qK, qD, hZ U _ rfl qZ⟩
theorem g_tail {p : Program} {l : Launch} {e : Env} {R : Room} {s : State} {m : MethodId} {args : Array Value} {below : List Frame} {meth : Method} {c : Code} {Q : State → Prop} {D : va_G} {A : Nat → Prop} {nL nW : Nat} {ad : Nat → Nat} {tc : Nat → ClassId} {c0 s0 : Nat} {cc : ByteArray} {own : String} {lvl : Nat} (hl9 : l.stackTraces = false)
    (hB : g_Base nW p l e R s m args below meth c D A nL ad tc c0 s0 cc own 0 lvl) (F : List (Nat × e_F)) (K : List (Nat × Int32)) (S : List (Nat × e_C)) (code : List e_I) (hF : e_Flds own F) (hKc : (∀ x ∈ K, x.1 < 100000 → Jvm.Cond.constant own x.1 x.2 ∈ e_wd) ∧ ∀ i v, (i + 100000, v) ∈ K → Jvm.Cond.constantLong own i v.toInt64 ∈ e_wd) (hS0 : ∀ x ∈ S, g_Site nW cc own lvl x.1 x.2) (hcode : e_okC cc nL (e_f0 K) code = true)
    {h h' : e_H} {pc : Nat} {lv : e_L} {H : Heap} {locs : List Loc} {ls : Array Slot} (hl0 : e_lok lv = true) (hP : va_P D vwCl (g_W nW ad tc h) H) (hD : va_D A (g_W nW ad tc h)) (hS : va_S A s.heap H locs) (hl : lv_has ls nL (e_cl ad lv))
    (hend : ∀ (H : Heap) (locs : List Loc) (ls : Array Slot) (pc : Nat), va_P D vwCl (g_W nW ad tc h') H → va_D A (g_W nW ad tc h') → va_S A s.heap H locs → decode cc pc = .ok (.return_, 1) → W p l e R s m args below meth c H locs c0 s0 Q (F0 m pc ls []))
    (hpure : ∀ J, g_Cl nW 0 (e_f0 F) (e_fd S) (fun _ => none) none code (fun _ _ r h => r = .inl none ∧ h = h') J → J 0 pc lv [] h) : W p l e R s m args below meth c H locs c0 s0 Q (F0 m pc ls []) := by
  have hB0 := hB
  obtain ⟨hx, hb, hml, hown, hts, hK, hA, hf1, hf2, hf3, hf4⟩ := hB
  have Γ : g_Ctx nW p l e R s m args below meth c Q D vwCl A nL ad tc c0 s0 cc (e_tys tc) own e_wd 0 (e_f0 F) (e_f0 K) (e_fd S) (fun _ => none) none (fun _ _ r h => r = .inl none ∧ h = h') := by
    refine ⟨hx, hb, hown, hts, hK, rfl, rfl, rfl, fun i z hi hz => hts _ (hKc.1 _ (s_f0 hz) hi), fun i z hz => hts _ (hKc.2 _ _ (s_f0 hz)), fun i q hq => hF s _ hts _ (s_f0 hq), fun pc C9 hC9 => hS0 _ (s_fd hC9) p l e _ s m _ below meth c _ D A nL ad tc c0 s0 0 hl9 hB0, fun pc E h => (nomatch h), fun b pc E h lv hP9 => (nomatch hP9.1), fun b pc x h lv hdr hb9 hP9 => (nomatch hP9.1), fun b pc h lv hdr hb9 hP9 => ?_, fun sc h => (nomatch h)⟩
    obtain ⟨-, rfl⟩ := hP9
    intro hl0 H locs ls hP hD hS hl
    have hb0 : b = 0 := by omega
    subst hb0
    exact hend H locs ls pc hP hD hS hdr
  exact hpure _ (g_sound Γ hcode) hl0 H locs ls hP hD hS hl
