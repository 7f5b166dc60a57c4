/-! the law: its loop; what stands at its start -/
theorem Inv_up {t : Nat} {u : St} (h : Inv t u) : Inv (t + 1) u := ⟨I1_of h.1 (Nat.le_succ t) rfl rfl rfl rfl rfl rfl rfl rfl rfl rfl rfl, h.2⟩
set_option maxRecDepth 100000 in
theorem w_loop {L : Nat} {xs : Nat → Int32} (J : e_Jt) (hC : e_PL L xs J) (hL2 : L ≤ 1536) : ∀ n t b u, t + n = 512 → b ≤ t → Inv t u → J b 23 (lvt t) [] (Hp u) := by
  intro n
  induction n with
  | zero =>
    intro t b u hn hb hI
    refine e_run hC ?_
    conv => whnf
    refine ⟨fun h => ?_, fun h => absurd ?_ h⟩
    · refine e_run hC ?_
      conv => whnf
      exact k_le_of (by omega) rfl
    · rw [Int32.lt_iff_toInt_lt, Int32.toInt_sub, nI_toInt (by omega), show (Int32.ofNat L).toInt = (L : Int) from nI_toInt (n := L) (by omega), show ((3 : Int32)).toInt = 3 from rfl, Int.bmod_eq_of_le (by omega) (by omega)]
      omega
  | succ n ih =>
    intro t b u hn hb hI
    have nxt : ∀ b' u', b' ≤ t + 1 → Inv (t + 1) u' → J b' 1048 (lvt t) [] (Hp u') := by
      intro b' u' h1 h2
      refine e_run hC ?_
      conv => whnf
      rw [show (3 : Int32) = nI 3 from rfl, nI_add]
      exact ih (t + 1) b' u' (by omega) h1 h2
    refine e_run hC ?_
    conv => whnf
    refine ⟨fun h => ?_, fun h => ?_⟩
    · refine e_run hC ?_
      conv => whnf
      exact k_le_of (by omega) rfl
    · rw [Int32.lt_iff_toInt_lt, Int32.toInt_sub, nI_toInt (by omega), show (Int32.ofNat L).toInt = (L : Int) from nI_toInt (n := L) (by omega), show ((3 : Int32)).toInt = 3 from rfl, Int.bmod_eq_of_le (by omega) (by omega)] at h
      have hL : 3 * t + 3 ≤ L := by omega
      have ht : t < 512 := by omega
      refine e_run hC ?_
      conv => whnf
      refine ⟨vp_in_nI (by omega) (by omega), ?_⟩
      rw [nI_clamp (by omega)]
      refine e_run hC ?_
      conv => whnf
      generalize xs (3 * t) &&& 31 = a
      refine ⟨fun _ => nxt b u (by omega) (Inv_up hI), fun h1 h2 => ?_⟩
      obtain ⟨m, hm⟩ : ∃ m : Nat, a.toInt = (m : Int) := ⟨a.toInt.toNat, by omega⟩
      have hmm : (a.toInt - 0).toNat = m := by omega
      rw [hmm]
      have hm17 : m ≤ 17 := by omega
      have hcs : m = 0 ∨ m = 1 ∨ m = 2 ∨ m = 3 ∨ m = 4 ∨ m = 5 ∨ m = 6 ∨ m = 7 ∨ m = 8 ∨ m = 9 ∨ m = 10 ∨ m = 11 ∨ m = 12 ∨ m = 13 ∨ m = 14 ∨ m = 15 ∨ m = 16 ∨ m = 17 := by omega
      rcases hcs with rfl | rfl | rfl | rfl | rfl | rfl | rfl | rfl | rfl | rfl | rfl | rfl | rfl | rfl | rfl | rfl | rfl | rfl
      · exact ⟨85, 124, rfl, rfl, w_taskNew J hC hb ht hL hL2 hI nxt⟩
      · exact ⟨141, 180, rfl, rfl, w_taskEnd J hC hb ht hL hL2 hI nxt⟩
      · exact ⟨197, 236, rfl, rfl, w_waitOn J hC hb ht hL hL2 hI nxt⟩
      · exact ⟨245, 284, rfl, rfl, w_wake J hC hb ht hL hL2 hI nxt⟩
      · exact ⟨301, 340, rfl, rfl, w_timer J hC hb ht hL hL2 hI nxt⟩
      · exact ⟨337, 376, rfl, rfl, w_file J hC hb ht hL hL2 hI nxt⟩
      · exact ⟨421, 460, rfl, rfl, w_log J hC hb ht hL hL2 hI nxt⟩
      · exact ⟨457, 496, rfl, rfl, w_poke J hC hb ht hL hL2 hI nxt⟩
      · exact ⟨505, 544, rfl, rfl, w_memory J hC hb ht hL hL2 hI nxt⟩
      · exact ⟨561, 600, rfl, rfl, w_halt J hC hb ht hL hL2 hI nxt⟩
      · exact ⟨572, 611, rfl, rfl, w_sector J hC hb ht hL hL2 hI nxt⟩
      · exact ⟨636, 675, rfl, rfl, w_dump J hC hb ht hL hL2 hI nxt⟩
      · exact ⟨692, 731, rfl, rfl, w_area J hC hb ht hL hL2 hI nxt⟩
      · exact ⟨760, 799, rfl, rfl, w_attach J hC hb ht hL hL2 hI nxt⟩
      · exact ⟨773, 812, rfl, rfl, w_word J hC hb ht hL hL2 hI nxt⟩
      · exact ⟨829, 868, rfl, rfl, w_walk J hC hb ht hL hL2 hI nxt⟩
      · exact ⟨885, 924, rfl, rfl, w_broken J hC hb ht hL hL2 hI nxt⟩
      · exact ⟨941, 980, rfl, rfl, w_node J hC hb ht hL hL2 hI nxt⟩
/-! the words that stand in every later state -/
theorem v_not {C T : String} {s U : State} (hW : s.WarmedH U.vm) (h : (Cond.not (.castable C T)).before #[] s = true) : (Cond.not (.castable C T)).before #[] U = true := by
  have hf1 := hW.alike.findClass C none
  have hf2 := hW.alike.findClass T none
  simp only [Cond.before, Cond.holds, Cond.value] at h ⊢
  rw [hf1, hf2]
  cases h1 : s.vm.findClass C with
  | none => rw [h1] at h; simp at h
  | some c =>
    cases h2 : s.vm.findClass T with
    | none => rw [h1, h2] at h; simp at h
    | some d =>
      rw [h1, h2] at h
      simp only [hW.alike.assignable] at h ⊢
      exact h
theorem v_lays {C n d : String} {s U : State} (hW : s.WarmedH U.vm) (hh : ∀ q : Nat, q < s.heap.size → U.heap[q]? = s.heap[q]?) (h : (Cond.laysStatic C n d).before #[] s = true) : (Cond.laysStatic C n d).before #[] U = true := by
  obtain ⟨c, k, i, f, a, cell, h1, h2, h3, h4, h5, h6, h7, h8, h9⟩ := Cond.laysStatic_spec h
  obtain ⟨k', hi', he⟩ := State.fieldFound?_setVm hW.alike h2
  exact Cond.laysStatic_of (s := U) (by rw [hW.alike.findClass]; exact h1) hi' h3 (by rw [he]; exact h4) (by rw [hh a (Array.getElem?_eq_some_iff.mp h5).1]; exact h5) h6 h7 h8 (by rw [he]; exact h9)
theorem v_isr {C n d : String} {s U : State} (hW : s.WarmedH U.vm) (hh : ∀ q : Nat, q < s.heap.size → U.heap[q]? = s.heap[q]?) (hl : (Cond.laysStatic C n d).before #[] s = true) (h : (Cond.isRef (.static C n d)).before #[] s = true) : (Cond.isRef (.static C n d)).before #[] U = true := by
  obtain ⟨c, k, i, f, a, cell, h1, h2, h3, h4, h5, h6, h7, h8, h9⟩ := Cond.laysStatic_spec hl
  obtain ⟨k', hi', he⟩ := State.fieldFound?_setVm hW.alike h2
  have hi2 : U.fieldFound? C n d = some (c, k', i, f) := hi'
  have h5' : U.heap[a]? = some cell := by rw [hh a (Array.getElem?_eq_some_iff.mp h5).1]; exact h5
  have h4' : k'.statics = some a := by rw [he]; exact h4
  have es : (Term.static C n d).eval #[] s none [] s = cell.slots[f.slot]? := by
    simp [Term.eval, State.fieldNamed?, h2, h3, h4, h5, h6]
  have eu : (Term.static C n d).eval #[] U none [] U = cell.slots[f.slot]? := by
    simp [Term.eval, State.fieldNamed?, hi2, h3, h4', h5', h6]
  simp only [Cond.before, Cond.holds, Cond.value, es] at h
  simp only [Cond.before, Cond.holds, Cond.value, eu]
  exact h
