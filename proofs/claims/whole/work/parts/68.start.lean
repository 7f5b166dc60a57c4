/-! the start of the law: words, classes, the first state (by wip/tools/start68.py) -/
theorem n_in1 {w : Cond} (i : Nat) (h : tables_1_1[i]? = some w) : w ∈ lw_tbl := List.mem_append_right _ (List.mem_append_left _ (List.mem_of_getElem? h))
theorem n_in2 {w : Cond} (i : Nat) (h : tables_1_2[i]? = some w) : w ∈ lw_tbl := List.mem_append_right _ (List.mem_append_right _ (List.mem_append_left _ (List.mem_of_getElem? h)))
theorem n_in3 {w : Cond} (i : Nat) (h : tables_1_3[i]? = some w) : w ∈ lw_tbl := List.mem_append_right _ (List.mem_append_right _ (List.mem_append_right _ (List.mem_append_left _ (List.mem_of_getElem? h))))
theorem n_lays {C n d : String} {s : State} {a : Array Value} (h : (Cond.laysStatic C n d).before a s = true) : (Cond.laysStatic C n d).before #[] s = true := by
  simp only [Cond.before, Cond.holds, Cond.value] at h ⊢
  exact h
theorem n_isr {C n d : String} {s : State} {a : Array Value} (h : (Cond.isRef (.static C n d)).before a s = true) : (Cond.isRef (.static C n d)).before #[] s = true := by
  simp only [Cond.before, Cond.holds, Cond.value, Term.eval] at h ⊢
  exact h
theorem n_not {C T : String} {s : State} {a : Array Value} (h : (Cond.not (.castable C T)).before a s = true) : (Cond.not (.castable C T)).before #[] s = true := by
  simp only [Cond.before, Cond.holds, Cond.value] at h ⊢
  exact h
set_option maxRecDepth 100000 in
theorem n_env {s : State} {b : Nat} (hts : ∀ w ∈ lw_tbl, w.before #[Value.ref b] s = true) (hgv : (Jvm.Cond.and given_1 narrow_1).before #[Value.ref b] s = true) : e_env (fun q => s.heap.size ≤ q) s := by
  intro U hW hk
  have hh : ∀ q : Nat, q < s.heap.size → U.heap[q]? = s.heap[q]? := fun q h => hk q h (Nat.not_le.mpr h)
  have hg := flat_of_before _ hgv
  refine List.forall_mem_cons.mpr ⟨va_Nw.warmM hW (va_Nw.of rfl (hts _ (n_in2 101 rfl))), ?_⟩
  refine List.forall_mem_cons.mpr ⟨va_Nw.warmM hW (va_Nw.of rfl (hts _ (n_in3 96 rfl))), ?_⟩
  refine List.forall_mem_cons.mpr ⟨va_Nw.warmC hW (va_Nw.of rfl (hts _ (n_in2 15 rfl))), ?_⟩
  refine List.forall_mem_cons.mpr ⟨va_Nw.warmD hW (va_Nw.of rfl (hts _ (n_in2 16 rfl))), ?_⟩
  refine List.forall_mem_cons.mpr ⟨va_Nw.warmD hW (va_Nw.of rfl (hts _ (n_in2 17 rfl))), ?_⟩
  refine List.forall_mem_cons.mpr ⟨va_Nw.warmD hW (va_Nw.of rfl (hts _ (n_in2 18 rfl))), ?_⟩
  refine List.forall_mem_cons.mpr ⟨va_Nw.warmD hW (va_Nw.of rfl (hts _ (n_in2 19 rfl))), ?_⟩
  refine List.forall_mem_cons.mpr ⟨va_Nw.warmD hW (va_Nw.of rfl (hts _ (n_in2 20 rfl))), ?_⟩
  refine List.forall_mem_cons.mpr ⟨va_Nw.warmD hW (va_Nw.of rfl (hts _ (n_in2 21 rfl))), ?_⟩
  refine List.forall_mem_cons.mpr ⟨v_lays hW hh (n_lays (hts _ (n_in2 40 rfl))), ?_⟩
  refine List.forall_mem_cons.mpr ⟨v_isr hW hh (n_lays (hts _ (n_in2 40 rfl))) (n_isr (hg _ (by decide +kernel))), ?_⟩
  refine List.forall_mem_cons.mpr ⟨v_lays hW hh (n_lays (hts _ (n_in2 42 rfl))), ?_⟩
  refine List.forall_mem_cons.mpr ⟨v_isr hW hh (n_lays (hts _ (n_in2 42 rfl))) (n_isr (hg _ (by decide +kernel))), ?_⟩
  refine List.forall_mem_cons.mpr ⟨va_Nw.warmC hW (va_Nw.of rfl (hts _ (n_in2 122 rfl))), ?_⟩
  refine List.forall_mem_cons.mpr ⟨va_Nw.warmC hW (va_Nw.of rfl (hts _ (n_in2 164 rfl))), ?_⟩
  refine List.forall_mem_cons.mpr ⟨v_not hW (n_not (hg _ (by decide +kernel))), ?_⟩
  refine List.forall_mem_cons.mpr ⟨v_not hW (n_not (hg _ (by decide +kernel))), ?_⟩
  refine List.forall_mem_cons.mpr ⟨v_not hW (n_not (hg _ (by decide +kernel))), ?_⟩
  refine List.forall_mem_cons.mpr ⟨v_not hW (n_not (hg _ (by decide +kernel))), ?_⟩
  refine List.forall_mem_cons.mpr ⟨v_not hW (n_not (hg _ (by decide +kernel))), ?_⟩
  refine List.forall_mem_cons.mpr ⟨v_not hW (n_not (hg _ (by decide +kernel))), ?_⟩
  exact fun w hw => nomatch hw
theorem n_Z1 {s : State} {b : Nat} (hts : ∀ w ∈ lw_tbl, w.before #[Value.ref b] s = true) : cZ1 s := fun U hW => va_Nw.warmM hW (va_Nw.of rfl (hts _ (n_in1 83 rfl)))
theorem n_arr {ty : FieldType} {s : State} {a : Array Value} (h : (Cond.arrayClass ty).before a s = true) (hp : ∀ C, ty ≠ .object C) : ∃ c : ClassId, ArrOfT s c ty ∧ va_RA s c ty := by
  obtain ⟨c, k, comp, h1, h2, h3⟩ := Cond.arrayClass_spec h
  refine ⟨c, fun n z => ⟨fun k h => (by cases h), k, h2, comp, h3⟩, ?_⟩
  cases ty with
  | object C => exact absurd rfl (hp C)
  | _ => exact h1
theorem n_Kn {s : State} {a : Array Value} (hts : ∀ w ∈ e_wd, w.before a s = true) : ∃ (D : va_G) (tc : Nat → ClassId), va_K D vwCl (e_tys tc) s := by
  obtain ⟨c0, i0, k0⟩ := u_known hts u_D (hts _ (e_in1 20 rfl rfl))
  obtain ⟨c1, i1, k1⟩ := u_known hts u_K (hts _ (e_in1 28 rfl rfl))
  obtain ⟨c2, i2, k2⟩ := u_known hts u_S (hts _ (e_in1 59 rfl rfl))
  obtain ⟨c3, i3, k3⟩ := u_known hts u_V (hts _ (e_in1 122 rfl rfl))
  obtain ⟨c4, i4, k4⟩ := u_known hts u_U (hts _ (e_in1 144 rfl rfl))
  obtain ⟨c5, i5, k5⟩ := u_known hts u_Z (hts _ (e_in1 82 rfl rfl))
  obtain ⟨c6, i6, k6⟩ := u_known hts u_M (hts _ (e_in3 116 rfl rfl))
  obtain ⟨a0, p0⟩ := n_arr (hts _ (e_in1 57 rfl rfl)) (fun C h => by cases h)
  obtain ⟨a1, p1⟩ := n_arr (hts _ (e_in1 80 rfl rfl)) (fun C h => by cases h)
  obtain ⟨a2, p2⟩ := n_arr (hts _ (e_in4 112 rfl rfl)) (fun C h => by cases h)
  refine ⟨(fun c => match c with | 0 => c0 | 1 => c1 | 2 => c2 | 3 => c3 | 4 => c4 | 5 => c5 | _ => c6, fun c => match c with | 0 => i0 | 1 => i1 | 2 => i2 | 3 => i3 | 4 => i4 | 5 => i5 | _ => i6), fun c => match c with | 0 => a0 | 1 => a1 | _ => a2, fun c q hq => ?_, fun k q hk => ?_⟩
  · have hc : c < 7 := (List.getElem?_eq_some_iff.mp hq).1
    rcases (show c = 0 ∨ c = 1 ∨ c = 2 ∨ c = 3 ∨ c = 4 ∨ c = 5 ∨ c = 6 by omega) with rfl | rfl | rfl | rfl | rfl | rfl | rfl
    · cases hq; exact k0
    · cases hq; exact k1
    · cases hq; exact k2
    · cases hq; exact k3
    · cases hq; exact k4
    · cases hq; exact k5
    · cases hq; exact k6
  · have hc : k < 3 := (List.getElem?_eq_some_iff.mp hk).1
    rcases (show k = 0 ∨ k = 1 ∨ k = 2 by omega) with rfl | rfl | rfl
    · cases hk; exact p0
    · cases hk; exact p1
    · cases hk; exact p2
def u0 : St := (fun i => match i with | 11 => -1 | _ => 0, fun k => match k with | 0 => wK0 | 1 => wS0 | 20 => wM0 | 24 => wS0 | _ => z0, fun _ => 0)
def g0 : Nat → Nat := updN (updN (fun _ => 0) 0 1) 15 1
theorem w0_eq : wK0 = wM0 ∧ FG wM0 g0 := by
  have h0 : FG z0 (fun _ => 0) := ⟨fun _ => Nat.zero_le _, fun k hk => rfl⟩
  have h1 := st_eq h0 (p := 0) (f := 1) (by decide) (by decide)
  have h2 := st_eq h1.2 (p := 15) (f := 1) (by decide) (by decide)
  have hE : wK0 = wM0 := by
    show stF (stF z0 0 (nI 1)) 15 (nI 1) = mfl (mfl z0 0 (nI 1)) 15 (nI 1)
    rw [h2.1, h1.1]
  have h3 : FG wK0 g0 := h2.2
  rw [hE] at h3
  exact ⟨hE, h3⟩
theorem w0_at {a : Nat} (h8 : a ≠ 8) (h15 : a ≠ 15) : wM0 a = 0 := by
  unfold wM0 mfl upd
  rw [if_neg (show ¬ a = 8 + 15 / 2 from h15), if_neg (show ¬ a = 8 + 0 / 2 from h8)]
  rfl
theorem n_KI : KI 0 wM0 z0 (fun _ => []) g0 0 := by
  refine ⟨w0_eq.2, ⟨w0_at (by decide) (by decide), Nat.le_refl _⟩, fun l hl => ⟨w0_at (by omega) (by omega), List.nodup_nil, fun a h => (nomatch h)⟩, fun l l' _ _ _ a h => (nomatch h), fun a _ => ⟨fun h => absurd rfl h, fun h => ?_⟩, fun a h => ?_, fun a ha _ h => absurd (w0_at (by unfold gp at ha; omega) (by unfold gp at ha; omega)) h, fun q _ _ b h => (nomatch h), List.Pairwise.nil⟩
  · obtain ⟨l, -, h⟩ := h
    exact nomatch h
  · obtain ⟨l, -, h⟩ := h
    exact nomatch h
theorem n_Inv : Inv 0 u0 := by
  refine ⟨⟨⟨rfl, rfl, rfl⟩, w0_eq.1, fun _ => ⟨fun _ => [], g0, 0, n_KI, fun l hl => ⟨rfl, Nat.zero_le _, trivial⟩⟩⟩, ⟨rfl, rfl, rfl⟩, fun _ _ => rfl, fun _ _ _ _ _ => rfl, fun h => absurd rfl h, rfl, fun h => absurd rfl h⟩
