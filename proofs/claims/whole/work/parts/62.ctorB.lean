/-! constructors (by wip/tools/ctors62.py) -/
set_option maxHeartbeats 4000000 in
set_option maxRecDepth 100000 in
theorem c_V_init (l : Launch) (hl9 : l.stackTraces = false) (D : va_G) (tc : Nat → ClassId) (h0 h1 sz : Nat) : Met l y_V_init (e_ws y_V_init b_V_init 2 none) { frames := 1, cells := 1, slots := 40, locals := 12 } (c_Pre D tc [.ref h0, .ref h1] [(h0, .inr (3, [.null, .null, .int 0, .int 0, .int 0]))] sz cZ0) (c_Post D (Nat) (fun u => [(h0, .inr (3, [.ref h1, .ref u, .int 0, .int 0, .int 0])), (u, .inl (tc 0, 40, .inl z0))]) (va_A [(h0, .inr (3, [.null, .null, .int 0, .int 0, .int 0]))] sz)) 1 40 (va_A [(h0, .inr (3, [.null, .null, .int 0, .int 0, .int 0]))] sz) := by
  refine va_MetF (cc := b_V_init) (maxL := 2) (ret := none) (by decide +kernel) rfl ?_
  intro p e s m args below meth c s₁ B hml hv
  obtain ⟨rfl, hsz, hP, hK, hD0, -⟩ := hv
  have hx := B.exec
  have hb := B.bytes
  have hr := B.returns
  have hts0 := atoms_spec (ws := e_ws y_V_init b_V_init 2 none) B.pre
  have hts : ∀ w ∈ e_wd, w.before ([.ref h0, .ref h1] : List Value).toArray s = true := fun w hw => hts0 w (List.mem_cons_of_mem _ hw)
  have hown : s.vm.findClass "DumpDesk$Writer" = some m.cls := findClass_of_methodNamed B.named
  have hlocks := B.notSynchronized
  have hin : meth.name = "<init>" := (name_of_methodNamed B.named B.method).1
  subst hsz
  have hD := hD0.self (sz := s.heap.size)
  generalize hAe : va_A [(h0, .inr (3, [.null, .null, .int 0, .int 0, .int 0]))] s.heap.size = A at hD ⊢
  have hA : ∀ q : Nat, s.heap.size ≤ q → A q := fun q h => by rw [← hAe]; exact Or.inr h
  have hS : va_S A s.heap s.heap [] := va_S.rf
  have hP : va_P D vwCl [(h0, .inr (3, [.null, .null, .int 0, .int 0, .int 0]))] s.heap := hP
  have hl := lv_entry ([.ref h0, .ref h1]) (n := 2) (Nat.le_of_ble_eq_true rfl)
  rw [lg_entry_eq]
  generalize (lg_sl ([.ref h0, .ref h1]) ++ List.replicate (2 - (lg_sl ([.ref h0, .ref h1])).length) Slot.unset).toArray = ls at hl ⊢
  have hl : lv_has ls 2 [(0, .ref h0), (1, .ref h1)] := hl
  refine lv_aload_n hx hb (show decode b_V_init 0 = .ok (.aload_n 0, 1) by decide +kernel) rfl (lv_at hl 0 rfl) ?_
  refine W.objInit hx hb hown (hts _ (e_in1 126 rfl rfl)) (hts _ (e_in1 25 rfl rfl)) (hts _ (e_in1 26 rfl rfl)) rfl (by rw [hml]; exact hl.1) rfl (show decode b_V_init 1 = .ok (.invokespecial 3, 3) by decide +kernel) (Nat.le_of_ble_eq_true rfl) (Nat.le_of_ble_eq_true rfl) ?_
  refine W.eq (g2 := F0 m 4 ls []) rfl ?_
  refine lv_aload_n hx hb (show decode b_V_init 4 = .ok (.aload_n 0, 1) by decide +kernel) rfl (lv_at hl 0 rfl) ?_
  refine lv_bipush (v := 40) hx hb (show decode b_V_init 5 = .ok (.bipush 40, 2) by decide +kernel) (by decide) ?_
  refine va_newa (ty := .int) (a0 := (40, .inl z0)) hx hb (hts _ (e_in1 57 rfl rfl)) rfl hK hP hD hS hA (fun _ => rfl) (by decide) (by decide) (by decide) (Nat.le_of_ble_eq_true rfl) (Nat.le_of_ble_eq_true rfl) (show decode b_V_init 7 = .ok (.newarray .int, 2) by decide +kernel) (fun q1 cA H hK9 hP hD hS => ?_)
  obtain rfl : tc 0 = cA := x_cA hK9 (i := 0) (j := 3) rfl rfl (fun C h => by cases h)
  clear hK9
  have hP : va_P D vwCl [(h0, .inr (3, [.null, .null, .int 0, .int 0, .int 0])), (q1, .inl (tc 0, 40, .inl z0))] H := hP
  have hD : va_D A [(h0, .inr (3, [.null, .null, .int 0, .int 0, .int 0])), (q1, .inl (tc 0, 40, .inl z0))] := hD
  refine W.widen (k := 1) (n := 40) (Nat.le_of_ble_eq_true rfl) (Nat.le_of_ble_eq_true rfl) ?_
  refine va_putF (ci := 3) (v := .ref q1) (ty := .array .int) (C := "DumpDesk$Writer") (T := T_V) (N := 5) hx hb hts u_V t_V p_V n_V hown hK hP hD hS 0 rfl rfl 1 (by decide) (hts _ (e_in1 128 rfl rfl)) (fun _ h9 => h9) rfl hin rfl (by decide +kernel) rfl rfl (Nat.le_of_ble_eq_true rfl) (show decode b_V_init 9 = .ok (.putfield 9, 3) by decide +kernel) (fun H locs hP hD hS => ?_)
  have hP : va_P D vwCl [(h0, .inr (3, [.null, .ref q1, .int 0, .int 0, .int 0])), (q1, .inl (tc 0, 40, .inl z0))] H := hP
  have hD : va_D A [(h0, .inr (3, [.null, .ref q1, .int 0, .int 0, .int 0])), (q1, .inl (tc 0, 40, .inl z0))] := hD
  refine lv_aload_n hx hb (show decode b_V_init 12 = .ok (.aload_n 0, 1) by decide +kernel) rfl (lv_at hl 0 rfl) ?_
  refine lv_iconst (v := 0) hx hb (show decode b_V_init 13 = .ok (.iconst 0, 1) by decide +kernel) (by decide) ?_
  refine va_put (ci := 3) (v := .int 0) (ty := .int) (C := "DumpDesk$Writer") (T := T_V) (N := 5) hx hb hts u_V t_V p_V n_V hown hK hP hD hS 0 rfl rfl 2 (by decide) (hts _ (e_in1 129 rfl rfl)) (fun _ h9 => h9) rfl (by decide +kernel) rfl rfl (Nat.le_of_ble_eq_true rfl) (show decode b_V_init 14 = .ok (.putfield 15, 3) by decide +kernel) (fun H locs hP hD hS => ?_)
  have hP : va_P D vwCl [(h0, .inr (3, [.null, .ref q1, .int 0, .int 0, .int 0])), (q1, .inl (tc 0, 40, .inl z0))] H := hP
  have hD : va_D A [(h0, .inr (3, [.null, .ref q1, .int 0, .int 0, .int 0])), (q1, .inl (tc 0, 40, .inl z0))] := hD
  refine lv_aload_n hx hb (show decode b_V_init 17 = .ok (.aload_n 0, 1) by decide +kernel) rfl (lv_at hl 0 rfl) ?_
  refine lv_iconst (v := 0) hx hb (show decode b_V_init 18 = .ok (.iconst 0, 1) by decide +kernel) (by decide) ?_
  refine va_put (ci := 3) (v := .int 0) (ty := .int) (C := "DumpDesk$Writer") (T := T_V) (N := 5) hx hb hts u_V t_V p_V n_V hown hK hP hD hS 0 rfl rfl 3 (by decide) (hts _ (e_in1 130 rfl rfl)) (fun _ h9 => h9) rfl (by decide +kernel) rfl rfl (Nat.le_of_ble_eq_true rfl) (show decode b_V_init 19 = .ok (.putfield 19, 3) by decide +kernel) (fun H locs hP hD hS => ?_)
  have hP : va_P D vwCl [(h0, .inr (3, [.null, .ref q1, .int 0, .int 0, .int 0])), (q1, .inl (tc 0, 40, .inl z0))] H := hP
  have hD : va_D A [(h0, .inr (3, [.null, .ref q1, .int 0, .int 0, .int 0])), (q1, .inl (tc 0, 40, .inl z0))] := hD
  refine lv_aload_n hx hb (show decode b_V_init 22 = .ok (.aload_n 0, 1) by decide +kernel) rfl (lv_at hl 0 rfl) ?_
  refine lv_iconst (v := 0) hx hb (show decode b_V_init 23 = .ok (.iconst 0, 1) by decide +kernel) (by decide) ?_
  refine va_put (ci := 3) (v := .int 0) (ty := .int) (C := "DumpDesk$Writer") (T := T_V) (N := 5) hx hb hts u_V t_V p_V n_V hown hK hP hD hS 0 rfl rfl 4 (by decide) (hts _ (e_in1 131 rfl rfl)) (fun _ h9 => h9) rfl (by decide +kernel) rfl rfl (Nat.le_of_ble_eq_true rfl) (show decode b_V_init 24 = .ok (.putfield 22, 3) by decide +kernel) (fun H locs hP hD hS => ?_)
  have hP : va_P D vwCl [(h0, .inr (3, [.null, .ref q1, .int 0, .int 0, .int 0])), (q1, .inl (tc 0, 40, .inl z0))] H := hP
  have hD : va_D A [(h0, .inr (3, [.null, .ref q1, .int 0, .int 0, .int 0])), (q1, .inl (tc 0, 40, .inl z0))] := hD
  refine lv_aload_n hx hb (show decode b_V_init 27 = .ok (.aload_n 0, 1) by decide +kernel) rfl (lv_at hl 0 rfl) ?_
  refine lv_aload_n hx hb (show decode b_V_init 28 = .ok (.aload_n 1, 1) by decide +kernel) rfl (lv_at hl 1 rfl) ?_
  refine va_putF (ci := 3) (v := .ref h1) (ty := .object "DumpDesk$Sectors") (C := "DumpDesk$Writer") (T := T_V) (N := 5) hx hb hts u_V t_V p_V n_V hown hK hP hD hS 0 rfl rfl 0 (by decide) (hts _ (e_in1 127 rfl rfl)) (fun _ h9 => h9) rfl hin rfl (by decide +kernel) rfl rfl (Nat.le_of_ble_eq_true rfl) (show decode b_V_init 29 = .ok (.putfield 25, 3) by decide +kernel) (fun H locs hP hD hS => ?_)
  have hP : va_P D vwCl [(h0, .inr (3, [.ref h1, .ref q1, .int 0, .int 0, .int 0])), (q1, .inl (tc 0, 40, .inl z0))] H := hP
  have hD : va_D A [(h0, .inr (3, [.ref h1, .ref q1, .int 0, .int 0, .int 0])), (q1, .inl (tc 0, 40, .inl z0))] := hD
  exact W.vret hx hb hr (fun t ht hW => ⟨⟨q1, rfl, trivial, by rw [ht]; exact hP, hD⟩, hS.F ht⟩) hS.2.2 (show decode b_V_init 32 = .ok (.return_, 1) by decide +kernel)
set_option maxHeartbeats 4000000 in
set_option maxRecDepth 100000 in
theorem c_U_init (l : Launch) (hl9 : l.stackTraces = false) (D : va_G) (tc : Nat → ClassId) (h0 h1 h2 sz : Nat) : Met l y_U_init (e_ws y_U_init b_U_init 3 none) { frames := 1, cells := 1, slots := 40, locals := 12 } (c_Pre D tc [.ref h0, .ref h1, .ref h2] [(h0, .inr (4, [.null, .null, .null, .int 0]))] sz cZ0) (c_Post D (Nat) (fun u => [(h0, .inr (4, [.ref h1, .ref h2, .ref u, .int 0])), (u, .inl (tc 0, 40, .inl z0))]) (va_A [(h0, .inr (4, [.null, .null, .null, .int 0]))] sz)) 1 40 (va_A [(h0, .inr (4, [.null, .null, .null, .int 0]))] sz) := by
  refine va_MetF (cc := b_U_init) (maxL := 3) (ret := none) (by decide +kernel) rfl ?_
  intro p e s m args below meth c s₁ B hml hv
  obtain ⟨rfl, hsz, hP, hK, hD0, -⟩ := hv
  have hx := B.exec
  have hb := B.bytes
  have hr := B.returns
  have hts0 := atoms_spec (ws := e_ws y_U_init b_U_init 3 none) B.pre
  have hts : ∀ w ∈ e_wd, w.before ([.ref h0, .ref h1, .ref h2] : List Value).toArray s = true := fun w hw => hts0 w (List.mem_cons_of_mem _ hw)
  have hown : s.vm.findClass "DumpDesk$Reader" = some m.cls := findClass_of_methodNamed B.named
  have hlocks := B.notSynchronized
  have hin : meth.name = "<init>" := (name_of_methodNamed B.named B.method).1
  subst hsz
  have hD := hD0.self (sz := s.heap.size)
  generalize hAe : va_A [(h0, .inr (4, [.null, .null, .null, .int 0]))] s.heap.size = A at hD ⊢
  have hA : ∀ q : Nat, s.heap.size ≤ q → A q := fun q h => by rw [← hAe]; exact Or.inr h
  have hS : va_S A s.heap s.heap [] := va_S.rf
  have hP : va_P D vwCl [(h0, .inr (4, [.null, .null, .null, .int 0]))] s.heap := hP
  have hl := lv_entry ([.ref h0, .ref h1, .ref h2]) (n := 3) (Nat.le_of_ble_eq_true rfl)
  rw [lg_entry_eq]
  generalize (lg_sl ([.ref h0, .ref h1, .ref h2]) ++ List.replicate (3 - (lg_sl ([.ref h0, .ref h1, .ref h2])).length) Slot.unset).toArray = ls at hl ⊢
  have hl : lv_has ls 3 [(0, .ref h0), (1, .ref h1), (2, .ref h2)] := hl
  refine lv_aload_n hx hb (show decode b_U_init 0 = .ok (.aload_n 0, 1) by decide +kernel) rfl (lv_at hl 0 rfl) ?_
  refine W.objInit hx hb hown (hts _ (e_in1 148 rfl rfl)) (hts _ (e_in1 25 rfl rfl)) (hts _ (e_in1 26 rfl rfl)) rfl (by rw [hml]; exact hl.1) rfl (show decode b_U_init 1 = .ok (.invokespecial 3, 3) by decide +kernel) (Nat.le_of_ble_eq_true rfl) (Nat.le_of_ble_eq_true rfl) ?_
  refine W.eq (g2 := F0 m 4 ls []) rfl ?_
  refine lv_aload_n hx hb (show decode b_U_init 4 = .ok (.aload_n 0, 1) by decide +kernel) rfl (lv_at hl 0 rfl) ?_
  refine lv_bipush (v := 40) hx hb (show decode b_U_init 5 = .ok (.bipush 40, 2) by decide +kernel) (by decide) ?_
  refine va_newa (ty := .int) (a0 := (40, .inl z0)) hx hb (hts _ (e_in1 57 rfl rfl)) rfl hK hP hD hS hA (fun _ => rfl) (by decide) (by decide) (by decide) (Nat.le_of_ble_eq_true rfl) (Nat.le_of_ble_eq_true rfl) (show decode b_U_init 7 = .ok (.newarray .int, 2) by decide +kernel) (fun q1 cA H hK9 hP hD hS => ?_)
  obtain rfl : tc 0 = cA := x_cA hK9 (i := 0) (j := 3) rfl rfl (fun C h => by cases h)
  clear hK9
  have hP : va_P D vwCl [(h0, .inr (4, [.null, .null, .null, .int 0])), (q1, .inl (tc 0, 40, .inl z0))] H := hP
  have hD : va_D A [(h0, .inr (4, [.null, .null, .null, .int 0])), (q1, .inl (tc 0, 40, .inl z0))] := hD
  refine W.widen (k := 1) (n := 40) (Nat.le_of_ble_eq_true rfl) (Nat.le_of_ble_eq_true rfl) ?_
  refine va_putF (ci := 4) (v := .ref q1) (ty := .array .int) (C := "DumpDesk$Reader") (T := T_U) (N := 4) hx hb hts u_U t_U p_U n_U hown hK hP hD hS 0 rfl rfl 2 (by decide) (hts _ (e_in1 151 rfl rfl)) (fun _ h9 => h9) rfl hin rfl (by decide +kernel) rfl rfl (Nat.le_of_ble_eq_true rfl) (show decode b_U_init 9 = .ok (.putfield 9, 3) by decide +kernel) (fun H locs hP hD hS => ?_)
  have hP : va_P D vwCl [(h0, .inr (4, [.null, .null, .ref q1, .int 0])), (q1, .inl (tc 0, 40, .inl z0))] H := hP
  have hD : va_D A [(h0, .inr (4, [.null, .null, .ref q1, .int 0])), (q1, .inl (tc 0, 40, .inl z0))] := hD
  refine lv_aload_n hx hb (show decode b_U_init 12 = .ok (.aload_n 0, 1) by decide +kernel) rfl (lv_at hl 0 rfl) ?_
  refine lv_iconst (v := 0) hx hb (show decode b_U_init 13 = .ok (.iconst 0, 1) by decide +kernel) (by decide) ?_
  refine va_put (ci := 4) (v := .int 0) (ty := .int) (C := "DumpDesk$Reader") (T := T_U) (N := 4) hx hb hts u_U t_U p_U n_U hown hK hP hD hS 0 rfl rfl 3 (by decide) (hts _ (e_in1 152 rfl rfl)) (fun _ h9 => h9) rfl (by decide +kernel) rfl rfl (Nat.le_of_ble_eq_true rfl) (show decode b_U_init 14 = .ok (.putfield 15, 3) by decide +kernel) (fun H locs hP hD hS => ?_)
  have hP : va_P D vwCl [(h0, .inr (4, [.null, .null, .ref q1, .int 0])), (q1, .inl (tc 0, 40, .inl z0))] H := hP
  have hD : va_D A [(h0, .inr (4, [.null, .null, .ref q1, .int 0])), (q1, .inl (tc 0, 40, .inl z0))] := hD
  refine lv_aload_n hx hb (show decode b_U_init 17 = .ok (.aload_n 0, 1) by decide +kernel) rfl (lv_at hl 0 rfl) ?_
  refine lv_aload_n hx hb (show decode b_U_init 18 = .ok (.aload_n 1, 1) by decide +kernel) rfl (lv_at hl 1 rfl) ?_
  refine va_putF (ci := 4) (v := .ref h1) (ty := .object "DumpDesk$Sectors") (C := "DumpDesk$Reader") (T := T_U) (N := 4) hx hb hts u_U t_U p_U n_U hown hK hP hD hS 0 rfl rfl 0 (by decide) (hts _ (e_in1 149 rfl rfl)) (fun _ h9 => h9) rfl hin rfl (by decide +kernel) rfl rfl (Nat.le_of_ble_eq_true rfl) (show decode b_U_init 19 = .ok (.putfield 19, 3) by decide +kernel) (fun H locs hP hD hS => ?_)
  have hP : va_P D vwCl [(h0, .inr (4, [.ref h1, .null, .ref q1, .int 0])), (q1, .inl (tc 0, 40, .inl z0))] H := hP
  have hD : va_D A [(h0, .inr (4, [.ref h1, .null, .ref q1, .int 0])), (q1, .inl (tc 0, 40, .inl z0))] := hD
  refine lv_aload_n hx hb (show decode b_U_init 22 = .ok (.aload_n 0, 1) by decide +kernel) rfl (lv_at hl 0 rfl) ?_
  refine lv_aload_n hx hb (show decode b_U_init 23 = .ok (.aload_n 2, 1) by decide +kernel) rfl (lv_at hl 2 rfl) ?_
  refine va_putF (ci := 4) (v := .ref h2) (ty := .object "DumpDesk$Walker") (C := "DumpDesk$Reader") (T := T_U) (N := 4) hx hb hts u_U t_U p_U n_U hown hK hP hD hS 0 rfl rfl 1 (by decide) (hts _ (e_in1 150 rfl rfl)) (fun _ h9 => h9) rfl hin rfl (by decide +kernel) rfl rfl (Nat.le_of_ble_eq_true rfl) (show decode b_U_init 24 = .ok (.putfield 23, 3) by decide +kernel) (fun H locs hP hD hS => ?_)
  have hP : va_P D vwCl [(h0, .inr (4, [.ref h1, .ref h2, .ref q1, .int 0])), (q1, .inl (tc 0, 40, .inl z0))] H := hP
  have hD : va_D A [(h0, .inr (4, [.ref h1, .ref h2, .ref q1, .int 0])), (q1, .inl (tc 0, 40, .inl z0))] := hD
  exact W.vret hx hb hr (fun t ht hW => ⟨⟨q1, rfl, trivial, by rw [ht]; exact hP, hD⟩, hS.F ht⟩) hS.2.2 (show decode b_U_init 27 = .ok (.return_, 1) by decide +kernel)
set_option maxHeartbeats 4000000 in
set_option maxRecDepth 100000 in
theorem c_Z_init (l : Launch) (hl9 : l.stackTraces = false) (D : va_G) (tc : Nat → ClassId) (h0 sz : Nat) : Met l y_Z_init (e_ws y_Z_init b_Z_init 1 none) { frames := 1, cells := 3, slots := 329, locals := 12 } (c_Pre D tc [.ref h0] [(h0, .inr (5, [.null, .null, .int 0, .int 0, .null, .int 0, .int 0, .int 0]))] sz cZ0) (c_Post D (Nat × Nat × Nat) (fun u => [(h0, .inr (5, [.ref u.1, .ref u.2.1, .int 0, .int 0, .ref u.2.2, .int 0, .int 0, .int (-1)])), (u.1, .inl (tc 0, 256, .inl z0)), (u.2.1, .inl (tc 1, 16, .inl z0)), (u.2.2, .inl (tc 0, 57, .inl z0))]) (va_A [(h0, .inr (5, [.null, .null, .int 0, .int 0, .null, .int 0, .int 0, .int 0]))] sz)) 3 329 (va_A [(h0, .inr (5, [.null, .null, .int 0, .int 0, .null, .int 0, .int 0, .int 0]))] sz) := by
  refine va_MetF (cc := b_Z_init) (maxL := 1) (ret := none) (by decide +kernel) rfl ?_
  intro p e s m args below meth c s₁ B hml hv
  obtain ⟨rfl, hsz, hP, hK, hD0, -⟩ := hv
  have hx := B.exec
  have hb := B.bytes
  have hr := B.returns
  have hts0 := atoms_spec (ws := e_ws y_Z_init b_Z_init 1 none) B.pre
  have hts : ∀ w ∈ e_wd, w.before ([.ref h0] : List Value).toArray s = true := fun w hw => hts0 w (List.mem_cons_of_mem _ hw)
  have hown : s.vm.findClass "DumpDesk$Walker" = some m.cls := findClass_of_methodNamed B.named
  have hlocks := B.notSynchronized
  have hin : meth.name = "<init>" := (name_of_methodNamed B.named B.method).1
  subst hsz
  have hD := hD0.self (sz := s.heap.size)
  generalize hAe : va_A [(h0, .inr (5, [.null, .null, .int 0, .int 0, .null, .int 0, .int 0, .int 0]))] s.heap.size = A at hD ⊢
  have hA : ∀ q : Nat, s.heap.size ≤ q → A q := fun q h => by rw [← hAe]; exact Or.inr h
  have hS : va_S A s.heap s.heap [] := va_S.rf
  have hP : va_P D vwCl [(h0, .inr (5, [.null, .null, .int 0, .int 0, .null, .int 0, .int 0, .int 0]))] s.heap := hP
  have hl := lv_entry ([.ref h0]) (n := 1) (Nat.le_of_ble_eq_true rfl)
  rw [lg_entry_eq]
  generalize (lg_sl ([.ref h0]) ++ List.replicate (1 - (lg_sl ([.ref h0])).length) Slot.unset).toArray = ls at hl ⊢
  have hl : lv_has ls 1 [(0, .ref h0)] := hl
  refine lv_aload_n hx hb (show decode b_Z_init 0 = .ok (.aload_n 0, 1) by decide +kernel) rfl (lv_at hl 0 rfl) ?_
  refine W.objInit hx hb hown (hts _ (e_in1 86 rfl rfl)) (hts _ (e_in1 25 rfl rfl)) (hts _ (e_in1 26 rfl rfl)) rfl (by rw [hml]; exact hl.1) rfl (show decode b_Z_init 1 = .ok (.invokespecial 3, 3) by decide +kernel) (Nat.le_of_ble_eq_true rfl) (Nat.le_of_ble_eq_true rfl) ?_
  refine W.eq (g2 := F0 m 4 ls []) rfl ?_
  refine lv_aload_n hx hb (show decode b_Z_init 4 = .ok (.aload_n 0, 1) by decide +kernel) rfl (lv_at hl 0 rfl) ?_
  refine lv_sipush (v := 256) hx hb (show decode b_Z_init 5 = .ok (.sipush 256, 3) by decide +kernel) (by decide) ?_
  refine va_newa (ty := .int) (a0 := (256, .inl z0)) hx hb (hts _ (e_in1 57 rfl rfl)) rfl hK hP hD hS hA (fun _ => rfl) (by decide) (by decide) (by decide) (Nat.le_of_ble_eq_true rfl) (Nat.le_of_ble_eq_true rfl) (show decode b_Z_init 8 = .ok (.newarray .int, 2) by decide +kernel) (fun q1 cA H hK9 hP hD hS => ?_)
  obtain rfl : tc 0 = cA := x_cA hK9 (i := 0) (j := 3) rfl rfl (fun C h => by cases h)
  clear hK9
  have hP : va_P D vwCl [(h0, .inr (5, [.null, .null, .int 0, .int 0, .null, .int 0, .int 0, .int 0])), (q1, .inl (tc 0, 256, .inl z0))] H := hP
  have hD : va_D A [(h0, .inr (5, [.null, .null, .int 0, .int 0, .null, .int 0, .int 0, .int 0])), (q1, .inl (tc 0, 256, .inl z0))] := hD
  refine W.widen (k := 1) (n := 256) (Nat.le_of_ble_eq_true rfl) (Nat.le_of_ble_eq_true rfl) ?_
  refine va_putF (ci := 5) (v := .ref q1) (ty := .array .int) (C := "DumpDesk$Walker") (T := T_Z) (N := 8) hx hb hts u_Z t_Z p_Z n_Z hown hK hP hD hS 0 rfl rfl 0 (by decide) (hts _ (e_in1 87 rfl rfl)) (fun _ h9 => h9) rfl hin rfl (by decide +kernel) rfl rfl (Nat.le_of_ble_eq_true rfl) (show decode b_Z_init 10 = .ok (.putfield 9, 3) by decide +kernel) (fun H locs hP hD hS => ?_)
  have hP : va_P D vwCl [(h0, .inr (5, [.ref q1, .null, .int 0, .int 0, .null, .int 0, .int 0, .int 0])), (q1, .inl (tc 0, 256, .inl z0))] H := hP
  have hD : va_D A [(h0, .inr (5, [.ref q1, .null, .int 0, .int 0, .null, .int 0, .int 0, .int 0])), (q1, .inl (tc 0, 256, .inl z0))] := hD
  refine lv_aload_n hx hb (show decode b_Z_init 13 = .ok (.aload_n 0, 1) by decide +kernel) rfl (lv_at hl 0 rfl) ?_
  refine lv_bipush (v := 16) hx hb (show decode b_Z_init 14 = .ok (.bipush 16, 2) by decide +kernel) (by decide) ?_
  refine va_newa (ty := .boolean) (a0 := (16, .inl z0)) hx hb (hts _ (e_in1 80 rfl rfl)) rfl hK hP hD hS hA (fun _ => rfl) (by decide) (by decide) (by decide) (Nat.le_of_ble_eq_true rfl) (Nat.le_of_ble_eq_true rfl) (show decode b_Z_init 16 = .ok (.newarray .boolean, 2) by decide +kernel) (fun q2 cA H hK9 hP hD hS => ?_)
  obtain rfl : tc 1 = cA := x_cA hK9 (i := 1) (j := 3) rfl rfl (fun C h => by cases h)
  clear hK9
  have hP : va_P D vwCl [(h0, .inr (5, [.ref q1, .null, .int 0, .int 0, .null, .int 0, .int 0, .int 0])), (q1, .inl (tc 0, 256, .inl z0)), (q2, .inl (tc 1, 16, .inl z0))] H := hP
  have hD : va_D A [(h0, .inr (5, [.ref q1, .null, .int 0, .int 0, .null, .int 0, .int 0, .int 0])), (q1, .inl (tc 0, 256, .inl z0)), (q2, .inl (tc 1, 16, .inl z0))] := hD
  refine W.widen (k := 2) (n := 272) (Nat.le_of_ble_eq_true rfl) (Nat.le_of_ble_eq_true rfl) ?_
  refine va_putF (ci := 5) (v := .ref q2) (ty := .array .boolean) (C := "DumpDesk$Walker") (T := T_Z) (N := 8) hx hb hts u_Z t_Z p_Z n_Z hown hK hP hD hS 0 rfl rfl 1 (by decide) (hts _ (e_in1 90 rfl rfl)) (fun _ h9 => h9) rfl hin rfl (by decide +kernel) rfl rfl (Nat.le_of_ble_eq_true rfl) (show decode b_Z_init 18 = .ok (.putfield 15, 3) by decide +kernel) (fun H locs hP hD hS => ?_)
  have hP : va_P D vwCl [(h0, .inr (5, [.ref q1, .ref q2, .int 0, .int 0, .null, .int 0, .int 0, .int 0])), (q1, .inl (tc 0, 256, .inl z0)), (q2, .inl (tc 1, 16, .inl z0))] H := hP
  have hD : va_D A [(h0, .inr (5, [.ref q1, .ref q2, .int 0, .int 0, .null, .int 0, .int 0, .int 0])), (q1, .inl (tc 0, 256, .inl z0)), (q2, .inl (tc 1, 16, .inl z0))] := hD
  refine lv_aload_n hx hb (show decode b_Z_init 21 = .ok (.aload_n 0, 1) by decide +kernel) rfl (lv_at hl 0 rfl) ?_
  refine lv_iconst (v := 0) hx hb (show decode b_Z_init 22 = .ok (.iconst 0, 1) by decide +kernel) (by decide) ?_
  refine va_put (ci := 5) (v := .int 0) (ty := .int) (C := "DumpDesk$Walker") (T := T_Z) (N := 8) hx hb hts u_Z t_Z p_Z n_Z hown hK hP hD hS 0 rfl rfl 2 (by decide) (hts _ (e_in1 92 rfl rfl)) (fun _ h9 => h9) rfl (by decide +kernel) rfl rfl (Nat.le_of_ble_eq_true rfl) (show decode b_Z_init 23 = .ok (.putfield 19, 3) by decide +kernel) (fun H locs hP hD hS => ?_)
  have hP : va_P D vwCl [(h0, .inr (5, [.ref q1, .ref q2, .int 0, .int 0, .null, .int 0, .int 0, .int 0])), (q1, .inl (tc 0, 256, .inl z0)), (q2, .inl (tc 1, 16, .inl z0))] H := hP
  have hD : va_D A [(h0, .inr (5, [.ref q1, .ref q2, .int 0, .int 0, .null, .int 0, .int 0, .int 0])), (q1, .inl (tc 0, 256, .inl z0)), (q2, .inl (tc 1, 16, .inl z0))] := hD
  refine lv_aload_n hx hb (show decode b_Z_init 26 = .ok (.aload_n 0, 1) by decide +kernel) rfl (lv_at hl 0 rfl) ?_
  refine lv_iconst (v := 0) hx hb (show decode b_Z_init 27 = .ok (.iconst 0, 1) by decide +kernel) (by decide) ?_
  refine va_put (ci := 5) (v := .int 0) (ty := .boolean) (C := "DumpDesk$Walker") (T := T_Z) (N := 8) hx hb hts u_Z t_Z p_Z n_Z hown hK hP hD hS 0 rfl rfl 3 (by decide) (hts _ (e_in1 94 rfl rfl)) (fun _ h9 => h9) rfl (by decide +kernel) rfl rfl (Nat.le_of_ble_eq_true rfl) (show decode b_Z_init 28 = .ok (.putfield 23, 3) by decide +kernel) (fun H locs hP hD hS => ?_)
  have hP : va_P D vwCl [(h0, .inr (5, [.ref q1, .ref q2, .int 0, .int 0, .null, .int 0, .int 0, .int 0])), (q1, .inl (tc 0, 256, .inl z0)), (q2, .inl (tc 1, 16, .inl z0))] H := hP
  have hD : va_D A [(h0, .inr (5, [.ref q1, .ref q2, .int 0, .int 0, .null, .int 0, .int 0, .int 0])), (q1, .inl (tc 0, 256, .inl z0)), (q2, .inl (tc 1, 16, .inl z0))] := hD
  refine lv_aload_n hx hb (show decode b_Z_init 31 = .ok (.aload_n 0, 1) by decide +kernel) rfl (lv_at hl 0 rfl) ?_
  refine lv_bipush (v := 57) hx hb (show decode b_Z_init 32 = .ok (.bipush 57, 2) by decide +kernel) (by decide) ?_
  refine va_newa (ty := .int) (a0 := (57, .inl z0)) hx hb (hts _ (e_in1 57 rfl rfl)) rfl hK hP hD hS hA (fun _ => rfl) (by decide) (by decide) (by decide) (Nat.le_of_ble_eq_true rfl) (Nat.le_of_ble_eq_true rfl) (show decode b_Z_init 34 = .ok (.newarray .int, 2) by decide +kernel) (fun q3 cA H hK9 hP hD hS => ?_)
  obtain rfl : tc 0 = cA := x_cA hK9 (i := 0) (j := 3) rfl rfl (fun C h => by cases h)
  clear hK9
  have hP : va_P D vwCl [(h0, .inr (5, [.ref q1, .ref q2, .int 0, .int 0, .null, .int 0, .int 0, .int 0])), (q1, .inl (tc 0, 256, .inl z0)), (q2, .inl (tc 1, 16, .inl z0)), (q3, .inl (tc 0, 57, .inl z0))] H := hP
  have hD : va_D A [(h0, .inr (5, [.ref q1, .ref q2, .int 0, .int 0, .null, .int 0, .int 0, .int 0])), (q1, .inl (tc 0, 256, .inl z0)), (q2, .inl (tc 1, 16, .inl z0)), (q3, .inl (tc 0, 57, .inl z0))] := hD
  refine W.widen (k := 3) (n := 329) (Nat.le_of_ble_eq_true rfl) (Nat.le_of_ble_eq_true rfl) ?_
  refine va_putF (ci := 5) (v := .ref q3) (ty := .array .int) (C := "DumpDesk$Walker") (T := T_Z) (N := 8) hx hb hts u_Z t_Z p_Z n_Z hown hK hP hD hS 0 rfl rfl 4 (by decide) (hts _ (e_in1 96 rfl rfl)) (fun _ h9 => h9) rfl hin rfl (by decide +kernel) rfl rfl (Nat.le_of_ble_eq_true rfl) (show decode b_Z_init 36 = .ok (.putfield 27, 3) by decide +kernel) (fun H locs hP hD hS => ?_)
  have hP : va_P D vwCl [(h0, .inr (5, [.ref q1, .ref q2, .int 0, .int 0, .ref q3, .int 0, .int 0, .int 0])), (q1, .inl (tc 0, 256, .inl z0)), (q2, .inl (tc 1, 16, .inl z0)), (q3, .inl (tc 0, 57, .inl z0))] H := hP
  have hD : va_D A [(h0, .inr (5, [.ref q1, .ref q2, .int 0, .int 0, .ref q3, .int 0, .int 0, .int 0])), (q1, .inl (tc 0, 256, .inl z0)), (q2, .inl (tc 1, 16, .inl z0)), (q3, .inl (tc 0, 57, .inl z0))] := hD
  refine lv_aload_n hx hb (show decode b_Z_init 39 = .ok (.aload_n 0, 1) by decide +kernel) rfl (lv_at hl 0 rfl) ?_
  refine lv_iconst (v := 0) hx hb (show decode b_Z_init 40 = .ok (.iconst 0, 1) by decide +kernel) (by decide) ?_
  refine va_put (ci := 5) (v := .int 0) (ty := .int) (C := "DumpDesk$Walker") (T := T_Z) (N := 8) hx hb hts u_Z t_Z p_Z n_Z hown hK hP hD hS 0 rfl rfl 5 (by decide) (hts _ (e_in1 98 rfl rfl)) (fun _ h9 => h9) rfl (by decide +kernel) rfl rfl (Nat.le_of_ble_eq_true rfl) (show decode b_Z_init 41 = .ok (.putfield 30, 3) by decide +kernel) (fun H locs hP hD hS => ?_)
  have hP : va_P D vwCl [(h0, .inr (5, [.ref q1, .ref q2, .int 0, .int 0, .ref q3, .int 0, .int 0, .int 0])), (q1, .inl (tc 0, 256, .inl z0)), (q2, .inl (tc 1, 16, .inl z0)), (q3, .inl (tc 0, 57, .inl z0))] H := hP
  have hD : va_D A [(h0, .inr (5, [.ref q1, .ref q2, .int 0, .int 0, .ref q3, .int 0, .int 0, .int 0])), (q1, .inl (tc 0, 256, .inl z0)), (q2, .inl (tc 1, 16, .inl z0)), (q3, .inl (tc 0, 57, .inl z0))] := hD
  refine lv_aload_n hx hb (show decode b_Z_init 44 = .ok (.aload_n 0, 1) by decide +kernel) rfl (lv_at hl 0 rfl) ?_
  refine lv_iconst (v := 0) hx hb (show decode b_Z_init 45 = .ok (.iconst 0, 1) by decide +kernel) (by decide) ?_
  refine va_put (ci := 5) (v := .int 0) (ty := .int) (C := "DumpDesk$Walker") (T := T_Z) (N := 8) hx hb hts u_Z t_Z p_Z n_Z hown hK hP hD hS 0 rfl rfl 6 (by decide) (hts _ (e_in1 100 rfl rfl)) (fun _ h9 => h9) rfl (by decide +kernel) rfl rfl (Nat.le_of_ble_eq_true rfl) (show decode b_Z_init 46 = .ok (.putfield 33, 3) by decide +kernel) (fun H locs hP hD hS => ?_)
  have hP : va_P D vwCl [(h0, .inr (5, [.ref q1, .ref q2, .int 0, .int 0, .ref q3, .int 0, .int 0, .int 0])), (q1, .inl (tc 0, 256, .inl z0)), (q2, .inl (tc 1, 16, .inl z0)), (q3, .inl (tc 0, 57, .inl z0))] H := hP
  have hD : va_D A [(h0, .inr (5, [.ref q1, .ref q2, .int 0, .int 0, .ref q3, .int 0, .int 0, .int 0])), (q1, .inl (tc 0, 256, .inl z0)), (q2, .inl (tc 1, 16, .inl z0)), (q3, .inl (tc 0, 57, .inl z0))] := hD
  refine lv_aload_n hx hb (show decode b_Z_init 49 = .ok (.aload_n 0, 1) by decide +kernel) rfl (lv_at hl 0 rfl) ?_
  refine lv_iconst (v := (-1)) hx hb (show decode b_Z_init 50 = .ok (.iconst (-1), 1) by decide +kernel) (by decide) ?_
  refine va_put (ci := 5) (v := .int (-1)) (ty := .int) (C := "DumpDesk$Walker") (T := T_Z) (N := 8) hx hb hts u_Z t_Z p_Z n_Z hown hK hP hD hS 0 rfl rfl 7 (by decide) (hts _ (e_in1 102 rfl rfl)) (fun _ h9 => h9) rfl (by decide +kernel) rfl rfl (Nat.le_of_ble_eq_true rfl) (show decode b_Z_init 51 = .ok (.putfield 36, 3) by decide +kernel) (fun H locs hP hD hS => ?_)
  have hP : va_P D vwCl [(h0, .inr (5, [.ref q1, .ref q2, .int 0, .int 0, .ref q3, .int 0, .int 0, .int (-1)])), (q1, .inl (tc 0, 256, .inl z0)), (q2, .inl (tc 1, 16, .inl z0)), (q3, .inl (tc 0, 57, .inl z0))] H := hP
  have hD : va_D A [(h0, .inr (5, [.ref q1, .ref q2, .int 0, .int 0, .ref q3, .int 0, .int 0, .int (-1)])), (q1, .inl (tc 0, 256, .inl z0)), (q2, .inl (tc 1, 16, .inl z0)), (q3, .inl (tc 0, 57, .inl z0))] := hD
  exact W.vret hx hb hr (fun t ht hW => ⟨⟨(q1, q2, q3), rfl, trivial, by rw [ht]; exact hP, hD⟩, hS.F ht⟩) hS.2.2 (show decode b_Z_init 54 = .ok (.return_, 1) by decide +kernel)
def wK0 : Nat → Int32 := stF (stF z0 0 1) 15 1
def k_kinit : List e_I := [(13, .aload_n 0, 0, 0), (14, .iconst 0, 0, 0), (15, .putfield 15, 0, 0), (18, .aload_n 0, 0, 0), (19, .iconst 0, 0, 0), (20, .putfield 19, 0, 0), (23, .aload_n 0, 0, 0), (24, .iconst 0, 0, 0), (25, .putfield 22, 0, 0), (28, .aload_n 0, 0, 0), (29, .iconst 0, 0, 0), (30, .iconst 1, 0, 1), (31, .invokevirtual 26, 0, 0), (34, .aload_n 0, 0, 0), (35, .bipush 15, 0, 15), (37, .iconst 1, 0, 1), (38, .invokevirtual 26, 0, 0), (41, .return_, 0, 0)]
theorem o_kinit : e_okC b_K_init 1 (e_f0 C_K) k_kinit = true := by decide +kernel
def Sg_kinit : List (Nat × e_C) := [(31, C_ksetFlag), (38, C_ksetFlag)]
theorem sg_kinit : ∀ x ∈ Sg_kinit, g_Site 2 b_K_init "DumpDesk$Kernel" 2 x.1 x.2 := List.forall_mem_cons.mpr ⟨g_siteV (nW := 2) (y := y_K_setFlag) (i := 26) (ci := 1) mg_ksetFlag (by decide) (by decide) (fun _ => rfl) rfl (fun a _ => ⟨_, _, _, rfl, by decide, rfl⟩) rfl (e_in1 33 rfl rfl) (e_in1 34 rfl rfl) (e_in1 2 rfl rfl) (e_in1 36 rfl rfl) (e_in1 35 rfl rfl) ⟨by decide, by decide, rfl⟩ (by decide +kernel), List.forall_mem_cons.mpr ⟨g_siteV (nW := 2) (y := y_K_setFlag) (i := 26) (ci := 1) mg_ksetFlag (by decide) (by decide) (fun _ => rfl) rfl (fun a _ => ⟨_, _, _, rfl, by decide, rfl⟩) rfl (e_in1 33 rfl rfl) (e_in1 34 rfl rfl) (e_in1 2 rfl rfl) (e_in1 36 rfl rfl) (e_in1 35 rfl rfl) ⟨by decide, by decide, rfl⟩ (by decide +kernel), fun x hx => (by cases hx)⟩⟩
theorem vg_kinit (J : e_Jt) (hC : g_P0 2 F_K Sg_kinit k_kinit none (HK wK0) J) : J 0 13 [(0, .ref 0)] [] (HK z0) := by
  refine g_run hC ?_
  conv => whnf
  refine ⟨⟨rfl, rfl⟩, ?_⟩
  conv => whnf
  rw [hk_0]
  refine g_run hC ?_
  conv => whnf
  refine ⟨⟨rfl, rfl⟩, ?_⟩
  conv => whnf
  rw [hk_0]
  refine g_run hC ?_
  conv => whnf
  rw [hk_0]
  refine g_run hC ?_
  conv => whnf
  refine ⟨(z0, 0, 1), (by decide : 0 < 16), rfl, rfl, ?_⟩
  conv => whnf
  dsimp only [C_ksetFlag]
  refine g_run hC ?_
  conv => whnf
  refine ⟨(stF z0 0 1, 15, 1), (by decide : 15 < 16), rfl, rfl, ?_⟩
  conv => whnf
  dsimp only [C_ksetFlag]
  refine g_run hC ?_
  conv => whnf
  exact ⟨rfl, rfl⟩
set_option maxHeartbeats 4000000 in
set_option maxRecDepth 100000 in
theorem c_K_init (l : Launch) (hl9 : l.stackTraces = false) (D : va_G) (tc : Nat → ClassId) (h0 sz : Nat) : Met l y_K_init (e_ws y_K_init b_K_init 1 none) { frames := 2, cells := 1, slots := 256, locals := 60 } (c_Pre D tc [.ref h0] [(h0, .inr (1, [.null, .int 0, .int 0, .int 0]))] sz cZ0) (c_Post D (Nat) (fun u => [(h0, .inr (1, [.ref u, .int 0, .int 0, .int 0])), (u, .inl (tc 0, 256, .inl wK0))]) (va_A [(h0, .inr (1, [.null, .int 0, .int 0, .int 0]))] sz)) 1 256 (va_A [(h0, .inr (1, [.null, .int 0, .int 0, .int 0]))] sz) := by
  refine va_MetF (cc := b_K_init) (maxL := 1) (ret := none) (by decide +kernel) rfl ?_
  intro p e s m args below meth c s₁ B hml hv
  obtain ⟨rfl, hsz, hP, hK, hD0, -⟩ := hv
  have hx := B.exec
  have hb := B.bytes
  have hr := B.returns
  have hts0 := atoms_spec (ws := e_ws y_K_init b_K_init 1 none) B.pre
  have hts : ∀ w ∈ e_wd, w.before ([.ref h0] : List Value).toArray s = true := fun w hw => hts0 w (List.mem_cons_of_mem _ hw)
  have hown : s.vm.findClass "DumpDesk$Kernel" = some m.cls := findClass_of_methodNamed B.named
  have hlocks := B.notSynchronized
  have hin : meth.name = "<init>" := (name_of_methodNamed B.named B.method).1
  subst hsz
  have hD := hD0.self (sz := s.heap.size)
  generalize hAe : va_A [(h0, .inr (1, [.null, .int 0, .int 0, .int 0]))] s.heap.size = A at hD ⊢
  have hA : ∀ q : Nat, s.heap.size ≤ q → A q := fun q h => by rw [← hAe]; exact Or.inr h
  have hS : va_S A s.heap s.heap [] := va_S.rf
  have hP : va_P D vwCl [(h0, .inr (1, [.null, .int 0, .int 0, .int 0]))] s.heap := hP
  have hl := lv_entry ([.ref h0]) (n := 1) (Nat.le_of_ble_eq_true rfl)
  rw [lg_entry_eq]
  generalize (lg_sl ([.ref h0]) ++ List.replicate (1 - (lg_sl ([.ref h0])).length) Slot.unset).toArray = ls at hl ⊢
  have hl : lv_has ls 1 [(0, .ref h0)] := hl
  refine lv_aload_n hx hb (show decode b_K_init 0 = .ok (.aload_n 0, 1) by decide +kernel) rfl (lv_at hl 0 rfl) ?_
  refine W.objInit hx hb hown (hts _ (e_in1 32 rfl rfl)) (hts _ (e_in1 25 rfl rfl)) (hts _ (e_in1 26 rfl rfl)) rfl (by rw [hml]; exact hl.1) rfl (show decode b_K_init 1 = .ok (.invokespecial 3, 3) by decide +kernel) (Nat.le_of_ble_eq_true rfl) (Nat.le_of_ble_eq_true rfl) ?_
  refine W.eq (g2 := F0 m 4 ls []) rfl ?_
  refine lv_aload_n hx hb (show decode b_K_init 4 = .ok (.aload_n 0, 1) by decide +kernel) rfl (lv_at hl 0 rfl) ?_
  refine lv_sipush (v := 256) hx hb (show decode b_K_init 5 = .ok (.sipush 256, 3) by decide +kernel) (by decide) ?_
  refine va_newa (ty := .int) (a0 := (256, .inl z0)) hx hb (hts _ (e_in1 57 rfl rfl)) rfl hK hP hD hS hA (fun _ => rfl) (by decide) (by decide) (by decide) (Nat.le_of_ble_eq_true rfl) (Nat.le_of_ble_eq_true rfl) (show decode b_K_init 8 = .ok (.newarray .int, 2) by decide +kernel) (fun q1 cA H hK9 hP hD hS => ?_)
  obtain rfl : tc 0 = cA := x_cA hK9 (i := 0) (j := 3) rfl rfl (fun C h => by cases h)
  clear hK9
  have hP : va_P D vwCl [(h0, .inr (1, [.null, .int 0, .int 0, .int 0])), (q1, .inl (tc 0, 256, .inl z0))] H := hP
  have hD : va_D A [(h0, .inr (1, [.null, .int 0, .int 0, .int 0])), (q1, .inl (tc 0, 256, .inl z0))] := hD
  refine W.widen (k := 1) (n := 256) (Nat.le_of_ble_eq_true rfl) (Nat.le_of_ble_eq_true rfl) ?_
  refine va_putF (ci := 1) (v := .ref q1) (ty := .array .int) (C := "DumpDesk$Kernel") (T := T_K) (N := 4) hx hb hts u_K t_K p_K n_K hown hK hP hD hS 0 rfl rfl 0 (by decide) (hts _ (e_in1 40 rfl rfl)) (fun _ h9 => h9) rfl hin rfl (by decide +kernel) rfl rfl (Nat.le_of_ble_eq_true rfl) (show decode b_K_init 10 = .ok (.putfield 9, 3) by decide +kernel) (fun H locs hP hD hS => ?_)
  have hP : va_P D vwCl [(h0, .inr (1, [.ref q1, .int 0, .int 0, .int 0])), (q1, .inl (tc 0, 256, .inl z0))] H := hP
  have hD : va_D A [(h0, .inr (1, [.ref q1, .int 0, .int 0, .int 0])), (q1, .inl (tc 0, 256, .inl z0))] := hD
  exact g_tail (nW := 2) (ad := fun i => match i with | 0 => h0 | _ => q1) (tc := tc) (c0 := 1) (s0 := 256) (lvl := 2) (own := "DumpDesk$Kernel") (cc := b_K_init) (nL := 1) hl9 ⟨hx, hb, hml, hown, hts, hK, hA, Nat.le_of_ble_eq_true rfl, Nat.le_of_ble_eq_true rfl, Nat.le_of_ble_eq_true rfl, Nat.le_of_ble_eq_true rfl⟩ F_K C_K Sg_kinit k_kinit f_K c_K sg_kinit o_kinit (h := HK z0) (h' := HK wK0) (pc := 13) (lv := [(0, .ref 0)]) rfl hP hD hS hl (fun H locs ls pc hP hD hS hdr => W.vret hx hb hr (fun t ht hW => ⟨⟨q1, rfl, trivial, by rw [ht]; exact hP, hD⟩, hS.F ht⟩) hS.2.2 hdr) (fun J hC => vg_kinit J hC)
def wS0 : Nat → Int32 := ffl z0 0 768 (-1)
def k_sinit : List e_I := [(21, .aload_n 0, 0, 0), (22, .invokevirtual 19, 0, 0), (25, .return_, 0, 0)]
theorem o_sinit : e_okC b_S_init 1 (e_f0 C_S) k_sinit = true := by decide +kernel
def Sg_sinit : List (Nat × e_C) := [(22, C_seraseAll)]
theorem sg_sinit : ∀ x ∈ Sg_sinit, g_Site 3 b_S_init "DumpDesk$Sectors" 2 x.1 x.2 := List.forall_mem_cons.mpr ⟨g_siteV (nW := 3) (y := y_S_eraseAll) (i := 19) (ci := 2) mg_seraseAll (by decide) (by decide) (fun _ => rfl) rfl (fun a _ => ⟨_, _, _, rfl, by decide, rfl⟩) rfl (e_in1 64 rfl rfl) (e_in1 65 rfl rfl) (e_in1 3 rfl rfl) (e_in1 67 rfl rfl) (e_in1 66 rfl rfl) ⟨by decide, by decide, rfl⟩ (by decide +kernel), fun x hx => (by cases hx)⟩
theorem vg_sinit (J : e_Jt) (hC : g_P0 3 F_S Sg_sinit k_sinit none (HS wS0) J) : J 0 21 [(0, .ref 0)] [] (HS z0) := by
  refine g_run hC ?_
  conv => whnf
  refine ⟨z0, trivial, rfl, rfl, ?_⟩
  conv => whnf
  dsimp only [C_seraseAll]
  refine g_run hC ?_
  conv => whnf
  exact ⟨rfl, rfl⟩
set_option maxHeartbeats 4000000 in
set_option maxRecDepth 100000 in
theorem c_S_init (l : Launch) (hl9 : l.stackTraces = false) (D : va_G) (tc : Nat → ClassId) (h0 sz : Nat) : Met l y_S_init (e_ws y_S_init b_S_init 1 none) { frames := 2, cells := 2, slots := 864, locals := 60 } (c_Pre D tc [.ref h0] [(h0, .inr (2, [.null, .null]))] sz cZ0) (c_Post D (Nat × Nat) (fun u => [(h0, .inr (2, [.ref u.1, .ref u.2])), (u.1, .inl (tc 0, 768, .inl wS0)), (u.2, .inl (tc 1, 96, .inl z0))]) (va_A [(h0, .inr (2, [.null, .null]))] sz)) 2 864 (va_A [(h0, .inr (2, [.null, .null]))] sz) := by
  refine va_MetF (cc := b_S_init) (maxL := 1) (ret := none) (by decide +kernel) rfl ?_
  intro p e s m args below meth c s₁ B hml hv
  obtain ⟨rfl, hsz, hP, hK, hD0, -⟩ := hv
  have hx := B.exec
  have hb := B.bytes
  have hr := B.returns
  have hts0 := atoms_spec (ws := e_ws y_S_init b_S_init 1 none) B.pre
  have hts : ∀ w ∈ e_wd, w.before ([.ref h0] : List Value).toArray s = true := fun w hw => hts0 w (List.mem_cons_of_mem _ hw)
  have hown : s.vm.findClass "DumpDesk$Sectors" = some m.cls := findClass_of_methodNamed B.named
  have hlocks := B.notSynchronized
  have hin : meth.name = "<init>" := (name_of_methodNamed B.named B.method).1
  subst hsz
  have hD := hD0.self (sz := s.heap.size)
  generalize hAe : va_A [(h0, .inr (2, [.null, .null]))] s.heap.size = A at hD ⊢
  have hA : ∀ q : Nat, s.heap.size ≤ q → A q := fun q h => by rw [← hAe]; exact Or.inr h
  have hS : va_S A s.heap s.heap [] := va_S.rf
  have hP : va_P D vwCl [(h0, .inr (2, [.null, .null]))] s.heap := hP
  have hl := lv_entry ([.ref h0]) (n := 1) (Nat.le_of_ble_eq_true rfl)
  rw [lg_entry_eq]
  generalize (lg_sl ([.ref h0]) ++ List.replicate (1 - (lg_sl ([.ref h0])).length) Slot.unset).toArray = ls at hl ⊢
  have hl : lv_has ls 1 [(0, .ref h0)] := hl
  refine lv_aload_n hx hb (show decode b_S_init 0 = .ok (.aload_n 0, 1) by decide +kernel) rfl (lv_at hl 0 rfl) ?_
  refine W.objInit hx hb hown (hts _ (e_in1 63 rfl rfl)) (hts _ (e_in1 25 rfl rfl)) (hts _ (e_in1 26 rfl rfl)) rfl (by rw [hml]; exact hl.1) rfl (show decode b_S_init 1 = .ok (.invokespecial 3, 3) by decide +kernel) (Nat.le_of_ble_eq_true rfl) (Nat.le_of_ble_eq_true rfl) ?_
  refine W.eq (g2 := F0 m 4 ls []) rfl ?_
  refine lv_aload_n hx hb (show decode b_S_init 4 = .ok (.aload_n 0, 1) by decide +kernel) rfl (lv_at hl 0 rfl) ?_
  refine lv_sipush (v := 768) hx hb (show decode b_S_init 5 = .ok (.sipush 768, 3) by decide +kernel) (by decide) ?_
  refine va_newa (ty := .int) (a0 := (768, .inl z0)) hx hb (hts _ (e_in1 57 rfl rfl)) rfl hK hP hD hS hA (fun _ => rfl) (by decide) (by decide) (by decide) (Nat.le_of_ble_eq_true rfl) (Nat.le_of_ble_eq_true rfl) (show decode b_S_init 8 = .ok (.newarray .int, 2) by decide +kernel) (fun q1 cA H hK9 hP hD hS => ?_)
  obtain rfl : tc 0 = cA := x_cA hK9 (i := 0) (j := 3) rfl rfl (fun C h => by cases h)
  clear hK9
  have hP : va_P D vwCl [(h0, .inr (2, [.null, .null])), (q1, .inl (tc 0, 768, .inl z0))] H := hP
  have hD : va_D A [(h0, .inr (2, [.null, .null])), (q1, .inl (tc 0, 768, .inl z0))] := hD
  refine W.widen (k := 1) (n := 768) (Nat.le_of_ble_eq_true rfl) (Nat.le_of_ble_eq_true rfl) ?_
  refine va_putF (ci := 2) (v := .ref q1) (ty := .array .int) (C := "DumpDesk$Sectors") (T := T_S) (N := 2) hx hb hts u_S t_S p_S n_S hown hK hP hD hS 0 rfl rfl 0 (by decide) (hts _ (e_in1 71 rfl rfl)) (fun _ h9 => h9) rfl hin rfl (by decide +kernel) rfl rfl (Nat.le_of_ble_eq_true rfl) (show decode b_S_init 10 = .ok (.putfield 9, 3) by decide +kernel) (fun H locs hP hD hS => ?_)
  have hP : va_P D vwCl [(h0, .inr (2, [.ref q1, .null])), (q1, .inl (tc 0, 768, .inl z0))] H := hP
  have hD : va_D A [(h0, .inr (2, [.ref q1, .null])), (q1, .inl (tc 0, 768, .inl z0))] := hD
  refine lv_aload_n hx hb (show decode b_S_init 13 = .ok (.aload_n 0, 1) by decide +kernel) rfl (lv_at hl 0 rfl) ?_
  refine lv_bipush (v := 96) hx hb (show decode b_S_init 14 = .ok (.bipush 96, 2) by decide +kernel) (by decide) ?_
  refine va_newa (ty := .boolean) (a0 := (96, .inl z0)) hx hb (hts _ (e_in1 80 rfl rfl)) rfl hK hP hD hS hA (fun _ => rfl) (by decide) (by decide) (by decide) (Nat.le_of_ble_eq_true rfl) (Nat.le_of_ble_eq_true rfl) (show decode b_S_init 16 = .ok (.newarray .boolean, 2) by decide +kernel) (fun q2 cA H hK9 hP hD hS => ?_)
  obtain rfl : tc 1 = cA := x_cA hK9 (i := 1) (j := 3) rfl rfl (fun C h => by cases h)
  clear hK9
  have hP : va_P D vwCl [(h0, .inr (2, [.ref q1, .null])), (q1, .inl (tc 0, 768, .inl z0)), (q2, .inl (tc 1, 96, .inl z0))] H := hP
  have hD : va_D A [(h0, .inr (2, [.ref q1, .null])), (q1, .inl (tc 0, 768, .inl z0)), (q2, .inl (tc 1, 96, .inl z0))] := hD
  refine W.widen (k := 2) (n := 864) (Nat.le_of_ble_eq_true rfl) (Nat.le_of_ble_eq_true rfl) ?_
  refine va_putF (ci := 2) (v := .ref q2) (ty := .array .boolean) (C := "DumpDesk$Sectors") (T := T_S) (N := 2) hx hb hts u_S t_S p_S n_S hown hK hP hD hS 0 rfl rfl 1 (by decide) (hts _ (e_in1 73 rfl rfl)) (fun _ h9 => h9) rfl hin rfl (by decide +kernel) rfl rfl (Nat.le_of_ble_eq_true rfl) (show decode b_S_init 18 = .ok (.putfield 15, 3) by decide +kernel) (fun H locs hP hD hS => ?_)
  have hP : va_P D vwCl [(h0, .inr (2, [.ref q1, .ref q2])), (q1, .inl (tc 0, 768, .inl z0)), (q2, .inl (tc 1, 96, .inl z0))] H := hP
  have hD : va_D A [(h0, .inr (2, [.ref q1, .ref q2])), (q1, .inl (tc 0, 768, .inl z0)), (q2, .inl (tc 1, 96, .inl z0))] := hD
  exact g_tail (nW := 3) (ad := fun i => match i with | 0 => h0 | 1 => q1 | _ => q2) (tc := tc) (c0 := 2) (s0 := 864) (lvl := 2) (own := "DumpDesk$Sectors") (cc := b_S_init) (nL := 1) hl9 ⟨hx, hb, hml, hown, hts, hK, hA, Nat.le_of_ble_eq_true rfl, Nat.le_of_ble_eq_true rfl, Nat.le_of_ble_eq_true rfl, Nat.le_of_ble_eq_true rfl⟩ F_S C_S Sg_sinit k_sinit f_S c_S sg_sinit o_sinit (h := HS z0) (h' := HS wS0) (pc := 21) (lv := [(0, .ref 0)]) rfl hP hD hS hl (fun H locs ls pc hP hD hS hdr => W.vret hx hb hr (fun t ht hW => ⟨⟨(q1, q2), rfl, trivial, by rw [ht]; exact hP, hD⟩, hS.F ht⟩) hS.2.2 hdr) (fun J hC => vg_sinit J hC)
def wM0 : Nat → Int32 := mfl (mfl z0 0 1) 15 1
def k_minit : List e_I := [(97, .iconst 0, 0, 0), (98, .istore_n 1, 1, 0), (99, .iload_n 1, 1, 0), (100, .sipush 768, 0, 768), (103, .if_icmp .ge 16, 119, 0), (106, .aload_n 0, 0, 0), (107, .getfield 23, 0, 0), (110, .iload_n 1, 1, 0), (111, .iconst (-1), 0, (-1)), (112, .iastore, 0, 0), (113, .iinc 1 1, 0, 1), (116, .goto (-17), 99, 0), (119, .aload_n 0, 0, 0), (120, .iconst 0, 0, 0), (121, .iconst 1, 0, 1), (122, .invokevirtual 44, 0, 0), (125, .aload_n 0, 0, 0), (126, .bipush 15, 0, 15), (128, .iconst 1, 0, 1), (129, .invokevirtual 44, 0, 0), (132, .return_, 0, 0)]
theorem o_minit : e_okC b_M_init 2 (e_f0 C_M) k_minit = true := by decide +kernel
def Sg_minit : List (Nat × e_C) := [(122, C_mflag), (129, C_mflag)]
theorem sg_minit : ∀ x ∈ Sg_minit, g_Site 12 b_M_init "DumpDeskModel" 2 x.1 x.2 := List.forall_mem_cons.mpr ⟨g_siteV (nW := 12) (y := y_M_flag) (i := 44) (ci := 6) mg_mflag (by decide) (by decide) (fun _ => rfl) rfl (fun a _ => ⟨_, _, _, rfl, by decide, rfl⟩) rfl (e_in3 121 rfl rfl) (e_in3 123 rfl rfl) (e_in1 8 rfl rfl) (e_in3 124 rfl rfl) (e_inP 3 rfl rfl) ⟨by decide, by decide, rfl⟩ (by decide +kernel), List.forall_mem_cons.mpr ⟨g_siteV (nW := 12) (y := y_M_flag) (i := 44) (ci := 6) mg_mflag (by decide) (by decide) (fun _ => rfl) rfl (fun a _ => ⟨_, _, _, rfl, by decide, rfl⟩) rfl (e_in3 121 rfl rfl) (e_in3 123 rfl rfl) (e_in1 8 rfl rfl) (e_in3 124 rfl rfl) (e_inP 3 rfl rfl) ⟨by decide, by decide, rfl⟩ (by decide +kernel), fun x hx => (by cases hx)⟩⟩
theorem vg_minit (J : e_Jt) (hC : g_P0 12 F_M Sg_minit k_minit none (HM wM0 wS0) J) : J 0 97 [(0, .ref 0)] [] (HM z0 z0) := by
  have loop : ∀ n z f, z + n = 768 → ffl f z 768 (-1) = wS0 → J 0 99 [(0, .ref 0), (1, .int (nI z))] [] (HM z0 f) := by
    intro n
    induction n with
    | zero =>
      intro z f h3 h4
      have : z = 768 := by omega
      subst this
      refine g_run hC ?_
      conv => whnf
      refine ⟨fun _ => ?_, fun h5 => absurd (by decide : (768 : Int32) ≤ nI 768) h5⟩
      rw [ffl_end] at h4
      rw [h4]
      refine g_run hC ?_
      conv => whnf
      refine ⟨((z0, wS0), 0, 1), (by decide : 0 < 16), rfl, rfl, ?_⟩
      conv => whnf
      dsimp only [C_mflag]
      refine g_run hC ?_
      conv => whnf
      refine ⟨((mfl z0 0 1, wS0), 15, 1), (by decide : 15 < 16), rfl, rfl, ?_⟩
      conv => whnf
      dsimp only [C_mflag]
      refine g_run hC ?_
      conv => whnf
      exact ⟨rfl, rfl⟩
    | succ n ih =>
      intro z f h3 h4
      refine g_run hC ?_
      conv => whnf
      refine ⟨fun h5 => absurd h5 (nI_ge (a := z) (b := 768) (by omega) (by omega)), fun _ => ?_⟩
      refine g_run hC ?_
      conv => whnf
      refine ⟨vp_in_nI (by omega) (by decide), ?_⟩
      rw [nI_clamp (by omega), hm_5]
      refine g_run hC ?_
      conv => whnf
      rw [nI_1]
      refine ih (z + 1) _ (by omega) ?_
      rw [← h4]
      show ffl (upd f z (-1)) (z + 1) 768 (-1) = _
      rw [ffl_step _ _ _ _ (by omega)]
  refine g_runTo 99 hC ?_
  conv => whnf
  exact loop 768 0 z0 rfl rfl
set_option maxHeartbeats 4000000 in
set_option maxRecDepth 100000 in
theorem c_M_init (l : Launch) (hl9 : l.stackTraces = false) (D : va_G) (tc : Nat → ClassId) (h0 sz : Nat) : Met l y_M_init (e_ws y_M_init b_M_init 2 none) { frames := 2, cells := 11, slots := 2134, locals := 60 } (c_Pre D tc [.ref h0] [(h0, .inr (6, [.int 0, .null, .null, .null, .null, .int 0, .int 0, .int 0, .null, .null, .int 0, .null, .int 0, .int 0, .null, .null, .null, .int 0, .int 0, .null, .int 0, .int 0]))] sz cZ0) (c_Post D (Nat → Nat) (fun u => [(h0, .inr (6, [.int 0, .ref (u 1), .ref (u 2), .ref (u 3), .ref (u 4), .int 0, .int 0, .int 0, .ref (u 5), .ref (u 6), .int 0, .ref (u 7), .int 0, .int 0, .ref (u 8), .ref (u 9), .ref (u 10), .int 0, .int 0, .ref (u 11), .int 0, .int 0])), ((u 1), .inl (tc 0, 256, .inl wM0)), ((u 2), .inl (tc 0, 336, .inl z0)), ((u 3), .inl (tc 0, 6, .inl z0)), ((u 4), .inl (tc 1, 256, .inl z0)), ((u 5), .inl (tc 0, 768, .inl wS0)), ((u 6), .inl (tc 1, 96, .inl z0)), ((u 7), .inl (tc 0, 64, .inl z0)), ((u 8), .inl (tc 0, 256, .inl z0)), ((u 9), .inl (tc 1, 16, .inl z0)), ((u 10), .inl (tc 0, 16, .inl z0)), ((u 11), .inl (tc 0, 64, .inl z0))]) (va_A [(h0, .inr (6, [.int 0, .null, .null, .null, .null, .int 0, .int 0, .int 0, .null, .null, .int 0, .null, .int 0, .int 0, .null, .null, .null, .int 0, .int 0, .null, .int 0, .int 0]))] sz)) 11 2134 (va_A [(h0, .inr (6, [.int 0, .null, .null, .null, .null, .int 0, .int 0, .int 0, .null, .null, .int 0, .null, .int 0, .int 0, .null, .null, .null, .int 0, .int 0, .null, .int 0, .int 0]))] sz) := by
  refine va_MetF (cc := b_M_init) (maxL := 2) (ret := none) (by decide +kernel) rfl ?_
  intro p e s m args below meth c s₁ B hml hv
  obtain ⟨rfl, hsz, hP, hK, hD0, -⟩ := hv
  have hx := B.exec
  have hb := B.bytes
  have hr := B.returns
  have hts0 := atoms_spec (ws := e_ws y_M_init b_M_init 2 none) B.pre
  have hts : ∀ w ∈ e_wd, w.before ([.ref h0] : List Value).toArray s = true := fun w hw => hts0 w (List.mem_cons_of_mem _ hw)
  have hown : s.vm.findClass "DumpDeskModel" = some m.cls := findClass_of_methodNamed B.named
  have hlocks := B.notSynchronized
  have hin : meth.name = "<init>" := (name_of_methodNamed B.named B.method).1
  subst hsz
  have hD := hD0.self (sz := s.heap.size)
  generalize hAe : va_A [(h0, .inr (6, [.int 0, .null, .null, .null, .null, .int 0, .int 0, .int 0, .null, .null, .int 0, .null, .int 0, .int 0, .null, .null, .null, .int 0, .int 0, .null, .int 0, .int 0]))] s.heap.size = A at hD ⊢
  have hA : ∀ q : Nat, s.heap.size ≤ q → A q := fun q h => by rw [← hAe]; exact Or.inr h
  have hS : va_S A s.heap s.heap [] := va_S.rf
  have hP : va_P D vwCl [(h0, .inr (6, [.int 0, .null, .null, .null, .null, .int 0, .int 0, .int 0, .null, .null, .int 0, .null, .int 0, .int 0, .null, .null, .null, .int 0, .int 0, .null, .int 0, .int 0]))] s.heap := hP
  have hl := lv_entry ([.ref h0]) (n := 2) (Nat.le_of_ble_eq_true rfl)
  rw [lg_entry_eq]
  generalize (lg_sl ([.ref h0]) ++ List.replicate (2 - (lg_sl ([.ref h0])).length) Slot.unset).toArray = ls at hl ⊢
  have hl : lv_has ls 2 [(0, .ref h0)] := hl
  refine lv_aload_n hx hb (show decode b_M_init 0 = .ok (.aload_n 0, 1) by decide +kernel) rfl (lv_at hl 0 rfl) ?_
  refine W.objInit hx hb hown (hts _ (e_in3 120 rfl rfl)) (hts _ (e_in1 25 rfl rfl)) (hts _ (e_in1 26 rfl rfl)) rfl (by rw [hml]; exact hl.1) rfl (show decode b_M_init 1 = .ok (.invokespecial 1, 3) by decide +kernel) (Nat.le_of_ble_eq_true rfl) (Nat.le_of_ble_eq_true rfl) ?_
  refine W.eq (g2 := F0 m 4 ls []) rfl ?_
  refine lv_aload_n hx hb (show decode b_M_init 4 = .ok (.aload_n 0, 1) by decide +kernel) rfl (lv_at hl 0 rfl) ?_
  refine lv_sipush (v := 256) hx hb (show decode b_M_init 5 = .ok (.sipush 256, 3) by decide +kernel) (by decide) ?_
  refine va_newa (ty := .int) (a0 := (256, .inl z0)) hx hb (hts _ (e_in1 57 rfl rfl)) rfl hK hP hD hS hA (fun _ => rfl) (by decide) (by decide) (by decide) (Nat.le_of_ble_eq_true rfl) (Nat.le_of_ble_eq_true rfl) (show decode b_M_init 8 = .ok (.newarray .int, 2) by decide +kernel) (fun q1 cA H hK9 hP hD hS => ?_)
  obtain rfl : tc 0 = cA := x_cA hK9 (i := 0) (j := 3) rfl rfl (fun C h => by cases h)
  clear hK9
  have hP : va_P D vwCl [(h0, .inr (6, [.int 0, .null, .null, .null, .null, .int 0, .int 0, .int 0, .null, .null, .int 0, .null, .int 0, .int 0, .null, .null, .null, .int 0, .int 0, .null, .int 0, .int 0])), (q1, .inl (tc 0, 256, .inl z0))] H := hP
  have hD : va_D A [(h0, .inr (6, [.int 0, .null, .null, .null, .null, .int 0, .int 0, .int 0, .null, .null, .int 0, .null, .int 0, .int 0, .null, .null, .null, .int 0, .int 0, .null, .int 0, .int 0])), (q1, .inl (tc 0, 256, .inl z0))] := hD
  refine W.widen (k := 1) (n := 256) (Nat.le_of_ble_eq_true rfl) (Nat.le_of_ble_eq_true rfl) ?_
  refine va_putF (ci := 6) (v := .ref q1) (ty := .array .int) (C := "DumpDeskModel") (T := T_M) (N := 22) hx hb hts u_M t_M p_M n_M hown hK hP hD hS 0 rfl rfl 1 (by decide) (hts _ (e_in3 130 rfl rfl)) (fun _ h9 => h9) rfl hin rfl (by decide +kernel) rfl rfl (Nat.le_of_ble_eq_true rfl) (show decode b_M_init 10 = .ok (.putfield 7, 3) by decide +kernel) (fun H locs hP hD hS => ?_)
  have hP : va_P D vwCl [(h0, .inr (6, [.int 0, .ref q1, .null, .null, .null, .int 0, .int 0, .int 0, .null, .null, .int 0, .null, .int 0, .int 0, .null, .null, .null, .int 0, .int 0, .null, .int 0, .int 0])), (q1, .inl (tc 0, 256, .inl z0))] H := hP
  have hD : va_D A [(h0, .inr (6, [.int 0, .ref q1, .null, .null, .null, .int 0, .int 0, .int 0, .null, .null, .int 0, .null, .int 0, .int 0, .null, .null, .null, .int 0, .int 0, .null, .int 0, .int 0])), (q1, .inl (tc 0, 256, .inl z0))] := hD
  refine lv_aload_n hx hb (show decode b_M_init 13 = .ok (.aload_n 0, 1) by decide +kernel) rfl (lv_at hl 0 rfl) ?_
  refine lv_sipush (v := 336) hx hb (show decode b_M_init 14 = .ok (.sipush 336, 3) by decide +kernel) (by decide) ?_
  refine va_newa (ty := .int) (a0 := (336, .inl z0)) hx hb (hts _ (e_in1 57 rfl rfl)) rfl hK hP hD hS hA (fun _ => rfl) (by decide) (by decide) (by decide) (Nat.le_of_ble_eq_true rfl) (Nat.le_of_ble_eq_true rfl) (show decode b_M_init 17 = .ok (.newarray .int, 2) by decide +kernel) (fun q2 cA H hK9 hP hD hS => ?_)
  obtain rfl : tc 0 = cA := x_cA hK9 (i := 0) (j := 3) rfl rfl (fun C h => by cases h)
  clear hK9
  have hP : va_P D vwCl [(h0, .inr (6, [.int 0, .ref q1, .null, .null, .null, .int 0, .int 0, .int 0, .null, .null, .int 0, .null, .int 0, .int 0, .null, .null, .null, .int 0, .int 0, .null, .int 0, .int 0])), (q1, .inl (tc 0, 256, .inl z0)), (q2, .inl (tc 0, 336, .inl z0))] H := hP
  have hD : va_D A [(h0, .inr (6, [.int 0, .ref q1, .null, .null, .null, .int 0, .int 0, .int 0, .null, .null, .int 0, .null, .int 0, .int 0, .null, .null, .null, .int 0, .int 0, .null, .int 0, .int 0])), (q1, .inl (tc 0, 256, .inl z0)), (q2, .inl (tc 0, 336, .inl z0))] := hD
  refine W.widen (k := 2) (n := 592) (Nat.le_of_ble_eq_true rfl) (Nat.le_of_ble_eq_true rfl) ?_
  refine va_putF (ci := 6) (v := .ref q2) (ty := .array .int) (C := "DumpDeskModel") (T := T_M) (N := 22) hx hb hts u_M t_M p_M n_M hown hK hP hD hS 0 rfl rfl 2 (by decide) (hts _ (e_in3 131 rfl rfl)) (fun _ h9 => h9) rfl hin rfl (by decide +kernel) rfl rfl (Nat.le_of_ble_eq_true rfl) (show decode b_M_init 19 = .ok (.putfield 13, 3) by decide +kernel) (fun H locs hP hD hS => ?_)
  have hP : va_P D vwCl [(h0, .inr (6, [.int 0, .ref q1, .ref q2, .null, .null, .int 0, .int 0, .int 0, .null, .null, .int 0, .null, .int 0, .int 0, .null, .null, .null, .int 0, .int 0, .null, .int 0, .int 0])), (q1, .inl (tc 0, 256, .inl z0)), (q2, .inl (tc 0, 336, .inl z0))] H := hP
  have hD : va_D A [(h0, .inr (6, [.int 0, .ref q1, .ref q2, .null, .null, .int 0, .int 0, .int 0, .null, .null, .int 0, .null, .int 0, .int 0, .null, .null, .null, .int 0, .int 0, .null, .int 0, .int 0])), (q1, .inl (tc 0, 256, .inl z0)), (q2, .inl (tc 0, 336, .inl z0))] := hD
  refine lv_aload_n hx hb (show decode b_M_init 22 = .ok (.aload_n 0, 1) by decide +kernel) rfl (lv_at hl 0 rfl) ?_
  refine lv_bipush (v := 6) hx hb (show decode b_M_init 23 = .ok (.bipush 6, 2) by decide +kernel) (by decide) ?_
  refine va_newa (ty := .int) (a0 := (6, .inl z0)) hx hb (hts _ (e_in1 57 rfl rfl)) rfl hK hP hD hS hA (fun _ => rfl) (by decide) (by decide) (by decide) (Nat.le_of_ble_eq_true rfl) (Nat.le_of_ble_eq_true rfl) (show decode b_M_init 25 = .ok (.newarray .int, 2) by decide +kernel) (fun q3 cA H hK9 hP hD hS => ?_)
  obtain rfl : tc 0 = cA := x_cA hK9 (i := 0) (j := 3) rfl rfl (fun C h => by cases h)
  clear hK9
  have hP : va_P D vwCl [(h0, .inr (6, [.int 0, .ref q1, .ref q2, .null, .null, .int 0, .int 0, .int 0, .null, .null, .int 0, .null, .int 0, .int 0, .null, .null, .null, .int 0, .int 0, .null, .int 0, .int 0])), (q1, .inl (tc 0, 256, .inl z0)), (q2, .inl (tc 0, 336, .inl z0)), (q3, .inl (tc 0, 6, .inl z0))] H := hP
  have hD : va_D A [(h0, .inr (6, [.int 0, .ref q1, .ref q2, .null, .null, .int 0, .int 0, .int 0, .null, .null, .int 0, .null, .int 0, .int 0, .null, .null, .null, .int 0, .int 0, .null, .int 0, .int 0])), (q1, .inl (tc 0, 256, .inl z0)), (q2, .inl (tc 0, 336, .inl z0)), (q3, .inl (tc 0, 6, .inl z0))] := hD
  refine W.widen (k := 3) (n := 598) (Nat.le_of_ble_eq_true rfl) (Nat.le_of_ble_eq_true rfl) ?_
  refine va_putF (ci := 6) (v := .ref q3) (ty := .array .int) (C := "DumpDeskModel") (T := T_M) (N := 22) hx hb hts u_M t_M p_M n_M hown hK hP hD hS 0 rfl rfl 3 (by decide) (hts _ (e_in3 132 rfl rfl)) (fun _ h9 => h9) rfl hin rfl (by decide +kernel) rfl rfl (Nat.le_of_ble_eq_true rfl) (show decode b_M_init 27 = .ok (.putfield 16, 3) by decide +kernel) (fun H locs hP hD hS => ?_)
  have hP : va_P D vwCl [(h0, .inr (6, [.int 0, .ref q1, .ref q2, .ref q3, .null, .int 0, .int 0, .int 0, .null, .null, .int 0, .null, .int 0, .int 0, .null, .null, .null, .int 0, .int 0, .null, .int 0, .int 0])), (q1, .inl (tc 0, 256, .inl z0)), (q2, .inl (tc 0, 336, .inl z0)), (q3, .inl (tc 0, 6, .inl z0))] H := hP
  have hD : va_D A [(h0, .inr (6, [.int 0, .ref q1, .ref q2, .ref q3, .null, .int 0, .int 0, .int 0, .null, .null, .int 0, .null, .int 0, .int 0, .null, .null, .null, .int 0, .int 0, .null, .int 0, .int 0])), (q1, .inl (tc 0, 256, .inl z0)), (q2, .inl (tc 0, 336, .inl z0)), (q3, .inl (tc 0, 6, .inl z0))] := hD
  refine lv_aload_n hx hb (show decode b_M_init 30 = .ok (.aload_n 0, 1) by decide +kernel) rfl (lv_at hl 0 rfl) ?_
  refine lv_sipush (v := 256) hx hb (show decode b_M_init 31 = .ok (.sipush 256, 3) by decide +kernel) (by decide) ?_
  refine va_newa (ty := .boolean) (a0 := (256, .inl z0)) hx hb (hts _ (e_in1 80 rfl rfl)) rfl hK hP hD hS hA (fun _ => rfl) (by decide) (by decide) (by decide) (Nat.le_of_ble_eq_true rfl) (Nat.le_of_ble_eq_true rfl) (show decode b_M_init 34 = .ok (.newarray .boolean, 2) by decide +kernel) (fun q4 cA H hK9 hP hD hS => ?_)
  obtain rfl : tc 1 = cA := x_cA hK9 (i := 1) (j := 3) rfl rfl (fun C h => by cases h)
  clear hK9
  have hP : va_P D vwCl [(h0, .inr (6, [.int 0, .ref q1, .ref q2, .ref q3, .null, .int 0, .int 0, .int 0, .null, .null, .int 0, .null, .int 0, .int 0, .null, .null, .null, .int 0, .int 0, .null, .int 0, .int 0])), (q1, .inl (tc 0, 256, .inl z0)), (q2, .inl (tc 0, 336, .inl z0)), (q3, .inl (tc 0, 6, .inl z0)), (q4, .inl (tc 1, 256, .inl z0))] H := hP
  have hD : va_D A [(h0, .inr (6, [.int 0, .ref q1, .ref q2, .ref q3, .null, .int 0, .int 0, .int 0, .null, .null, .int 0, .null, .int 0, .int 0, .null, .null, .null, .int 0, .int 0, .null, .int 0, .int 0])), (q1, .inl (tc 0, 256, .inl z0)), (q2, .inl (tc 0, 336, .inl z0)), (q3, .inl (tc 0, 6, .inl z0)), (q4, .inl (tc 1, 256, .inl z0))] := hD
  refine W.widen (k := 4) (n := 854) (Nat.le_of_ble_eq_true rfl) (Nat.le_of_ble_eq_true rfl) ?_
  refine va_putF (ci := 6) (v := .ref q4) (ty := .array .boolean) (C := "DumpDeskModel") (T := T_M) (N := 22) hx hb hts u_M t_M p_M n_M hown hK hP hD hS 0 rfl rfl 4 (by decide) (hts _ (e_in3 133 rfl rfl)) (fun _ h9 => h9) rfl hin rfl (by decide +kernel) rfl rfl (Nat.le_of_ble_eq_true rfl) (show decode b_M_init 36 = .ok (.putfield 19, 3) by decide +kernel) (fun H locs hP hD hS => ?_)
  have hP : va_P D vwCl [(h0, .inr (6, [.int 0, .ref q1, .ref q2, .ref q3, .ref q4, .int 0, .int 0, .int 0, .null, .null, .int 0, .null, .int 0, .int 0, .null, .null, .null, .int 0, .int 0, .null, .int 0, .int 0])), (q1, .inl (tc 0, 256, .inl z0)), (q2, .inl (tc 0, 336, .inl z0)), (q3, .inl (tc 0, 6, .inl z0)), (q4, .inl (tc 1, 256, .inl z0))] H := hP
  have hD : va_D A [(h0, .inr (6, [.int 0, .ref q1, .ref q2, .ref q3, .ref q4, .int 0, .int 0, .int 0, .null, .null, .int 0, .null, .int 0, .int 0, .null, .null, .null, .int 0, .int 0, .null, .int 0, .int 0])), (q1, .inl (tc 0, 256, .inl z0)), (q2, .inl (tc 0, 336, .inl z0)), (q3, .inl (tc 0, 6, .inl z0)), (q4, .inl (tc 1, 256, .inl z0))] := hD
  refine lv_aload_n hx hb (show decode b_M_init 39 = .ok (.aload_n 0, 1) by decide +kernel) rfl (lv_at hl 0 rfl) ?_
  refine lv_sipush (v := 768) hx hb (show decode b_M_init 40 = .ok (.sipush 768, 3) by decide +kernel) (by decide) ?_
  refine va_newa (ty := .int) (a0 := (768, .inl z0)) hx hb (hts _ (e_in1 57 rfl rfl)) rfl hK hP hD hS hA (fun _ => rfl) (by decide) (by decide) (by decide) (Nat.le_of_ble_eq_true rfl) (Nat.le_of_ble_eq_true rfl) (show decode b_M_init 43 = .ok (.newarray .int, 2) by decide +kernel) (fun q5 cA H hK9 hP hD hS => ?_)
  obtain rfl : tc 0 = cA := x_cA hK9 (i := 0) (j := 3) rfl rfl (fun C h => by cases h)
  clear hK9
  have hP : va_P D vwCl [(h0, .inr (6, [.int 0, .ref q1, .ref q2, .ref q3, .ref q4, .int 0, .int 0, .int 0, .null, .null, .int 0, .null, .int 0, .int 0, .null, .null, .null, .int 0, .int 0, .null, .int 0, .int 0])), (q1, .inl (tc 0, 256, .inl z0)), (q2, .inl (tc 0, 336, .inl z0)), (q3, .inl (tc 0, 6, .inl z0)), (q4, .inl (tc 1, 256, .inl z0)), (q5, .inl (tc 0, 768, .inl z0))] H := hP
  have hD : va_D A [(h0, .inr (6, [.int 0, .ref q1, .ref q2, .ref q3, .ref q4, .int 0, .int 0, .int 0, .null, .null, .int 0, .null, .int 0, .int 0, .null, .null, .null, .int 0, .int 0, .null, .int 0, .int 0])), (q1, .inl (tc 0, 256, .inl z0)), (q2, .inl (tc 0, 336, .inl z0)), (q3, .inl (tc 0, 6, .inl z0)), (q4, .inl (tc 1, 256, .inl z0)), (q5, .inl (tc 0, 768, .inl z0))] := hD
  refine W.widen (k := 5) (n := 1622) (Nat.le_of_ble_eq_true rfl) (Nat.le_of_ble_eq_true rfl) ?_
  refine va_putF (ci := 6) (v := .ref q5) (ty := .array .int) (C := "DumpDeskModel") (T := T_M) (N := 22) hx hb hts u_M t_M p_M n_M hown hK hP hD hS 0 rfl rfl 8 (by decide) (hts _ (e_in3 137 rfl rfl)) (fun _ h9 => h9) rfl hin rfl (by decide +kernel) rfl rfl (Nat.le_of_ble_eq_true rfl) (show decode b_M_init 45 = .ok (.putfield 23, 3) by decide +kernel) (fun H locs hP hD hS => ?_)
  have hP : va_P D vwCl [(h0, .inr (6, [.int 0, .ref q1, .ref q2, .ref q3, .ref q4, .int 0, .int 0, .int 0, .ref q5, .null, .int 0, .null, .int 0, .int 0, .null, .null, .null, .int 0, .int 0, .null, .int 0, .int 0])), (q1, .inl (tc 0, 256, .inl z0)), (q2, .inl (tc 0, 336, .inl z0)), (q3, .inl (tc 0, 6, .inl z0)), (q4, .inl (tc 1, 256, .inl z0)), (q5, .inl (tc 0, 768, .inl z0))] H := hP
  have hD : va_D A [(h0, .inr (6, [.int 0, .ref q1, .ref q2, .ref q3, .ref q4, .int 0, .int 0, .int 0, .ref q5, .null, .int 0, .null, .int 0, .int 0, .null, .null, .null, .int 0, .int 0, .null, .int 0, .int 0])), (q1, .inl (tc 0, 256, .inl z0)), (q2, .inl (tc 0, 336, .inl z0)), (q3, .inl (tc 0, 6, .inl z0)), (q4, .inl (tc 1, 256, .inl z0)), (q5, .inl (tc 0, 768, .inl z0))] := hD
  refine lv_aload_n hx hb (show decode b_M_init 48 = .ok (.aload_n 0, 1) by decide +kernel) rfl (lv_at hl 0 rfl) ?_
  refine lv_bipush (v := 96) hx hb (show decode b_M_init 49 = .ok (.bipush 96, 2) by decide +kernel) (by decide) ?_
  refine va_newa (ty := .boolean) (a0 := (96, .inl z0)) hx hb (hts _ (e_in1 80 rfl rfl)) rfl hK hP hD hS hA (fun _ => rfl) (by decide) (by decide) (by decide) (Nat.le_of_ble_eq_true rfl) (Nat.le_of_ble_eq_true rfl) (show decode b_M_init 51 = .ok (.newarray .boolean, 2) by decide +kernel) (fun q6 cA H hK9 hP hD hS => ?_)
  obtain rfl : tc 1 = cA := x_cA hK9 (i := 1) (j := 3) rfl rfl (fun C h => by cases h)
  clear hK9
  have hP : va_P D vwCl [(h0, .inr (6, [.int 0, .ref q1, .ref q2, .ref q3, .ref q4, .int 0, .int 0, .int 0, .ref q5, .null, .int 0, .null, .int 0, .int 0, .null, .null, .null, .int 0, .int 0, .null, .int 0, .int 0])), (q1, .inl (tc 0, 256, .inl z0)), (q2, .inl (tc 0, 336, .inl z0)), (q3, .inl (tc 0, 6, .inl z0)), (q4, .inl (tc 1, 256, .inl z0)), (q5, .inl (tc 0, 768, .inl z0)), (q6, .inl (tc 1, 96, .inl z0))] H := hP
  have hD : va_D A [(h0, .inr (6, [.int 0, .ref q1, .ref q2, .ref q3, .ref q4, .int 0, .int 0, .int 0, .ref q5, .null, .int 0, .null, .int 0, .int 0, .null, .null, .null, .int 0, .int 0, .null, .int 0, .int 0])), (q1, .inl (tc 0, 256, .inl z0)), (q2, .inl (tc 0, 336, .inl z0)), (q3, .inl (tc 0, 6, .inl z0)), (q4, .inl (tc 1, 256, .inl z0)), (q5, .inl (tc 0, 768, .inl z0)), (q6, .inl (tc 1, 96, .inl z0))] := hD
  refine W.widen (k := 6) (n := 1718) (Nat.le_of_ble_eq_true rfl) (Nat.le_of_ble_eq_true rfl) ?_
  refine va_putF (ci := 6) (v := .ref q6) (ty := .array .boolean) (C := "DumpDeskModel") (T := T_M) (N := 22) hx hb hts u_M t_M p_M n_M hown hK hP hD hS 0 rfl rfl 9 (by decide) (hts _ (e_in3 138 rfl rfl)) (fun _ h9 => h9) rfl hin rfl (by decide +kernel) rfl rfl (Nat.le_of_ble_eq_true rfl) (show decode b_M_init 53 = .ok (.putfield 26, 3) by decide +kernel) (fun H locs hP hD hS => ?_)
  have hP : va_P D vwCl [(h0, .inr (6, [.int 0, .ref q1, .ref q2, .ref q3, .ref q4, .int 0, .int 0, .int 0, .ref q5, .ref q6, .int 0, .null, .int 0, .int 0, .null, .null, .null, .int 0, .int 0, .null, .int 0, .int 0])), (q1, .inl (tc 0, 256, .inl z0)), (q2, .inl (tc 0, 336, .inl z0)), (q3, .inl (tc 0, 6, .inl z0)), (q4, .inl (tc 1, 256, .inl z0)), (q5, .inl (tc 0, 768, .inl z0)), (q6, .inl (tc 1, 96, .inl z0))] H := hP
  have hD : va_D A [(h0, .inr (6, [.int 0, .ref q1, .ref q2, .ref q3, .ref q4, .int 0, .int 0, .int 0, .ref q5, .ref q6, .int 0, .null, .int 0, .int 0, .null, .null, .null, .int 0, .int 0, .null, .int 0, .int 0])), (q1, .inl (tc 0, 256, .inl z0)), (q2, .inl (tc 0, 336, .inl z0)), (q3, .inl (tc 0, 6, .inl z0)), (q4, .inl (tc 1, 256, .inl z0)), (q5, .inl (tc 0, 768, .inl z0)), (q6, .inl (tc 1, 96, .inl z0))] := hD
  refine lv_aload_n hx hb (show decode b_M_init 56 = .ok (.aload_n 0, 1) by decide +kernel) rfl (lv_at hl 0 rfl) ?_
  refine lv_bipush (v := 64) hx hb (show decode b_M_init 57 = .ok (.bipush 64, 2) by decide +kernel) (by decide) ?_
  refine va_newa (ty := .int) (a0 := (64, .inl z0)) hx hb (hts _ (e_in1 57 rfl rfl)) rfl hK hP hD hS hA (fun _ => rfl) (by decide) (by decide) (by decide) (Nat.le_of_ble_eq_true rfl) (Nat.le_of_ble_eq_true rfl) (show decode b_M_init 59 = .ok (.newarray .int, 2) by decide +kernel) (fun q7 cA H hK9 hP hD hS => ?_)
  obtain rfl : tc 0 = cA := x_cA hK9 (i := 0) (j := 3) rfl rfl (fun C h => by cases h)
  clear hK9
  have hP : va_P D vwCl [(h0, .inr (6, [.int 0, .ref q1, .ref q2, .ref q3, .ref q4, .int 0, .int 0, .int 0, .ref q5, .ref q6, .int 0, .null, .int 0, .int 0, .null, .null, .null, .int 0, .int 0, .null, .int 0, .int 0])), (q1, .inl (tc 0, 256, .inl z0)), (q2, .inl (tc 0, 336, .inl z0)), (q3, .inl (tc 0, 6, .inl z0)), (q4, .inl (tc 1, 256, .inl z0)), (q5, .inl (tc 0, 768, .inl z0)), (q6, .inl (tc 1, 96, .inl z0)), (q7, .inl (tc 0, 64, .inl z0))] H := hP
  have hD : va_D A [(h0, .inr (6, [.int 0, .ref q1, .ref q2, .ref q3, .ref q4, .int 0, .int 0, .int 0, .ref q5, .ref q6, .int 0, .null, .int 0, .int 0, .null, .null, .null, .int 0, .int 0, .null, .int 0, .int 0])), (q1, .inl (tc 0, 256, .inl z0)), (q2, .inl (tc 0, 336, .inl z0)), (q3, .inl (tc 0, 6, .inl z0)), (q4, .inl (tc 1, 256, .inl z0)), (q5, .inl (tc 0, 768, .inl z0)), (q6, .inl (tc 1, 96, .inl z0)), (q7, .inl (tc 0, 64, .inl z0))] := hD
  refine W.widen (k := 7) (n := 1782) (Nat.le_of_ble_eq_true rfl) (Nat.le_of_ble_eq_true rfl) ?_
  refine va_putF (ci := 6) (v := .ref q7) (ty := .array .int) (C := "DumpDeskModel") (T := T_M) (N := 22) hx hb hts u_M t_M p_M n_M hown hK hP hD hS 0 rfl rfl 11 (by decide) (hts _ (e_in3 140 rfl rfl)) (fun _ h9 => h9) rfl hin rfl (by decide +kernel) rfl rfl (Nat.le_of_ble_eq_true rfl) (show decode b_M_init 61 = .ok (.putfield 29, 3) by decide +kernel) (fun H locs hP hD hS => ?_)
  have hP : va_P D vwCl [(h0, .inr (6, [.int 0, .ref q1, .ref q2, .ref q3, .ref q4, .int 0, .int 0, .int 0, .ref q5, .ref q6, .int 0, .ref q7, .int 0, .int 0, .null, .null, .null, .int 0, .int 0, .null, .int 0, .int 0])), (q1, .inl (tc 0, 256, .inl z0)), (q2, .inl (tc 0, 336, .inl z0)), (q3, .inl (tc 0, 6, .inl z0)), (q4, .inl (tc 1, 256, .inl z0)), (q5, .inl (tc 0, 768, .inl z0)), (q6, .inl (tc 1, 96, .inl z0)), (q7, .inl (tc 0, 64, .inl z0))] H := hP
  have hD : va_D A [(h0, .inr (6, [.int 0, .ref q1, .ref q2, .ref q3, .ref q4, .int 0, .int 0, .int 0, .ref q5, .ref q6, .int 0, .ref q7, .int 0, .int 0, .null, .null, .null, .int 0, .int 0, .null, .int 0, .int 0])), (q1, .inl (tc 0, 256, .inl z0)), (q2, .inl (tc 0, 336, .inl z0)), (q3, .inl (tc 0, 6, .inl z0)), (q4, .inl (tc 1, 256, .inl z0)), (q5, .inl (tc 0, 768, .inl z0)), (q6, .inl (tc 1, 96, .inl z0)), (q7, .inl (tc 0, 64, .inl z0))] := hD
  refine lv_aload_n hx hb (show decode b_M_init 64 = .ok (.aload_n 0, 1) by decide +kernel) rfl (lv_at hl 0 rfl) ?_
  refine lv_sipush (v := 256) hx hb (show decode b_M_init 65 = .ok (.sipush 256, 3) by decide +kernel) (by decide) ?_
  refine va_newa (ty := .int) (a0 := (256, .inl z0)) hx hb (hts _ (e_in1 57 rfl rfl)) rfl hK hP hD hS hA (fun _ => rfl) (by decide) (by decide) (by decide) (Nat.le_of_ble_eq_true rfl) (Nat.le_of_ble_eq_true rfl) (show decode b_M_init 68 = .ok (.newarray .int, 2) by decide +kernel) (fun q8 cA H hK9 hP hD hS => ?_)
  obtain rfl : tc 0 = cA := x_cA hK9 (i := 0) (j := 3) rfl rfl (fun C h => by cases h)
  clear hK9
  have hP : va_P D vwCl [(h0, .inr (6, [.int 0, .ref q1, .ref q2, .ref q3, .ref q4, .int 0, .int 0, .int 0, .ref q5, .ref q6, .int 0, .ref q7, .int 0, .int 0, .null, .null, .null, .int 0, .int 0, .null, .int 0, .int 0])), (q1, .inl (tc 0, 256, .inl z0)), (q2, .inl (tc 0, 336, .inl z0)), (q3, .inl (tc 0, 6, .inl z0)), (q4, .inl (tc 1, 256, .inl z0)), (q5, .inl (tc 0, 768, .inl z0)), (q6, .inl (tc 1, 96, .inl z0)), (q7, .inl (tc 0, 64, .inl z0)), (q8, .inl (tc 0, 256, .inl z0))] H := hP
  have hD : va_D A [(h0, .inr (6, [.int 0, .ref q1, .ref q2, .ref q3, .ref q4, .int 0, .int 0, .int 0, .ref q5, .ref q6, .int 0, .ref q7, .int 0, .int 0, .null, .null, .null, .int 0, .int 0, .null, .int 0, .int 0])), (q1, .inl (tc 0, 256, .inl z0)), (q2, .inl (tc 0, 336, .inl z0)), (q3, .inl (tc 0, 6, .inl z0)), (q4, .inl (tc 1, 256, .inl z0)), (q5, .inl (tc 0, 768, .inl z0)), (q6, .inl (tc 1, 96, .inl z0)), (q7, .inl (tc 0, 64, .inl z0)), (q8, .inl (tc 0, 256, .inl z0))] := hD
  refine W.widen (k := 8) (n := 2038) (Nat.le_of_ble_eq_true rfl) (Nat.le_of_ble_eq_true rfl) ?_
  refine va_putF (ci := 6) (v := .ref q8) (ty := .array .int) (C := "DumpDeskModel") (T := T_M) (N := 22) hx hb hts u_M t_M p_M n_M hown hK hP hD hS 0 rfl rfl 14 (by decide) (hts _ (e_in3 143 rfl rfl)) (fun _ h9 => h9) rfl hin rfl (by decide +kernel) rfl rfl (Nat.le_of_ble_eq_true rfl) (show decode b_M_init 70 = .ok (.putfield 32, 3) by decide +kernel) (fun H locs hP hD hS => ?_)
  have hP : va_P D vwCl [(h0, .inr (6, [.int 0, .ref q1, .ref q2, .ref q3, .ref q4, .int 0, .int 0, .int 0, .ref q5, .ref q6, .int 0, .ref q7, .int 0, .int 0, .ref q8, .null, .null, .int 0, .int 0, .null, .int 0, .int 0])), (q1, .inl (tc 0, 256, .inl z0)), (q2, .inl (tc 0, 336, .inl z0)), (q3, .inl (tc 0, 6, .inl z0)), (q4, .inl (tc 1, 256, .inl z0)), (q5, .inl (tc 0, 768, .inl z0)), (q6, .inl (tc 1, 96, .inl z0)), (q7, .inl (tc 0, 64, .inl z0)), (q8, .inl (tc 0, 256, .inl z0))] H := hP
  have hD : va_D A [(h0, .inr (6, [.int 0, .ref q1, .ref q2, .ref q3, .ref q4, .int 0, .int 0, .int 0, .ref q5, .ref q6, .int 0, .ref q7, .int 0, .int 0, .ref q8, .null, .null, .int 0, .int 0, .null, .int 0, .int 0])), (q1, .inl (tc 0, 256, .inl z0)), (q2, .inl (tc 0, 336, .inl z0)), (q3, .inl (tc 0, 6, .inl z0)), (q4, .inl (tc 1, 256, .inl z0)), (q5, .inl (tc 0, 768, .inl z0)), (q6, .inl (tc 1, 96, .inl z0)), (q7, .inl (tc 0, 64, .inl z0)), (q8, .inl (tc 0, 256, .inl z0))] := hD
  refine lv_aload_n hx hb (show decode b_M_init 73 = .ok (.aload_n 0, 1) by decide +kernel) rfl (lv_at hl 0 rfl) ?_
  refine lv_bipush (v := 16) hx hb (show decode b_M_init 74 = .ok (.bipush 16, 2) by decide +kernel) (by decide) ?_
  refine va_newa (ty := .boolean) (a0 := (16, .inl z0)) hx hb (hts _ (e_in1 80 rfl rfl)) rfl hK hP hD hS hA (fun _ => rfl) (by decide) (by decide) (by decide) (Nat.le_of_ble_eq_true rfl) (Nat.le_of_ble_eq_true rfl) (show decode b_M_init 76 = .ok (.newarray .boolean, 2) by decide +kernel) (fun q9 cA H hK9 hP hD hS => ?_)
  obtain rfl : tc 1 = cA := x_cA hK9 (i := 1) (j := 3) rfl rfl (fun C h => by cases h)
  clear hK9
  have hP : va_P D vwCl [(h0, .inr (6, [.int 0, .ref q1, .ref q2, .ref q3, .ref q4, .int 0, .int 0, .int 0, .ref q5, .ref q6, .int 0, .ref q7, .int 0, .int 0, .ref q8, .null, .null, .int 0, .int 0, .null, .int 0, .int 0])), (q1, .inl (tc 0, 256, .inl z0)), (q2, .inl (tc 0, 336, .inl z0)), (q3, .inl (tc 0, 6, .inl z0)), (q4, .inl (tc 1, 256, .inl z0)), (q5, .inl (tc 0, 768, .inl z0)), (q6, .inl (tc 1, 96, .inl z0)), (q7, .inl (tc 0, 64, .inl z0)), (q8, .inl (tc 0, 256, .inl z0)), (q9, .inl (tc 1, 16, .inl z0))] H := hP
  have hD : va_D A [(h0, .inr (6, [.int 0, .ref q1, .ref q2, .ref q3, .ref q4, .int 0, .int 0, .int 0, .ref q5, .ref q6, .int 0, .ref q7, .int 0, .int 0, .ref q8, .null, .null, .int 0, .int 0, .null, .int 0, .int 0])), (q1, .inl (tc 0, 256, .inl z0)), (q2, .inl (tc 0, 336, .inl z0)), (q3, .inl (tc 0, 6, .inl z0)), (q4, .inl (tc 1, 256, .inl z0)), (q5, .inl (tc 0, 768, .inl z0)), (q6, .inl (tc 1, 96, .inl z0)), (q7, .inl (tc 0, 64, .inl z0)), (q8, .inl (tc 0, 256, .inl z0)), (q9, .inl (tc 1, 16, .inl z0))] := hD
  refine W.widen (k := 9) (n := 2054) (Nat.le_of_ble_eq_true rfl) (Nat.le_of_ble_eq_true rfl) ?_
  refine va_putF (ci := 6) (v := .ref q9) (ty := .array .boolean) (C := "DumpDeskModel") (T := T_M) (N := 22) hx hb hts u_M t_M p_M n_M hown hK hP hD hS 0 rfl rfl 15 (by decide) (hts _ (e_in3 144 rfl rfl)) (fun _ h9 => h9) rfl hin rfl (by decide +kernel) rfl rfl (Nat.le_of_ble_eq_true rfl) (show decode b_M_init 78 = .ok (.putfield 35, 3) by decide +kernel) (fun H locs hP hD hS => ?_)
  have hP : va_P D vwCl [(h0, .inr (6, [.int 0, .ref q1, .ref q2, .ref q3, .ref q4, .int 0, .int 0, .int 0, .ref q5, .ref q6, .int 0, .ref q7, .int 0, .int 0, .ref q8, .ref q9, .null, .int 0, .int 0, .null, .int 0, .int 0])), (q1, .inl (tc 0, 256, .inl z0)), (q2, .inl (tc 0, 336, .inl z0)), (q3, .inl (tc 0, 6, .inl z0)), (q4, .inl (tc 1, 256, .inl z0)), (q5, .inl (tc 0, 768, .inl z0)), (q6, .inl (tc 1, 96, .inl z0)), (q7, .inl (tc 0, 64, .inl z0)), (q8, .inl (tc 0, 256, .inl z0)), (q9, .inl (tc 1, 16, .inl z0))] H := hP
  have hD : va_D A [(h0, .inr (6, [.int 0, .ref q1, .ref q2, .ref q3, .ref q4, .int 0, .int 0, .int 0, .ref q5, .ref q6, .int 0, .ref q7, .int 0, .int 0, .ref q8, .ref q9, .null, .int 0, .int 0, .null, .int 0, .int 0])), (q1, .inl (tc 0, 256, .inl z0)), (q2, .inl (tc 0, 336, .inl z0)), (q3, .inl (tc 0, 6, .inl z0)), (q4, .inl (tc 1, 256, .inl z0)), (q5, .inl (tc 0, 768, .inl z0)), (q6, .inl (tc 1, 96, .inl z0)), (q7, .inl (tc 0, 64, .inl z0)), (q8, .inl (tc 0, 256, .inl z0)), (q9, .inl (tc 1, 16, .inl z0))] := hD
  refine lv_aload_n hx hb (show decode b_M_init 81 = .ok (.aload_n 0, 1) by decide +kernel) rfl (lv_at hl 0 rfl) ?_
  refine lv_bipush (v := 16) hx hb (show decode b_M_init 82 = .ok (.bipush 16, 2) by decide +kernel) (by decide) ?_
  refine va_newa (ty := .int) (a0 := (16, .inl z0)) hx hb (hts _ (e_in1 57 rfl rfl)) rfl hK hP hD hS hA (fun _ => rfl) (by decide) (by decide) (by decide) (Nat.le_of_ble_eq_true rfl) (Nat.le_of_ble_eq_true rfl) (show decode b_M_init 84 = .ok (.newarray .int, 2) by decide +kernel) (fun q10 cA H hK9 hP hD hS => ?_)
  obtain rfl : tc 0 = cA := x_cA hK9 (i := 0) (j := 3) rfl rfl (fun C h => by cases h)
  clear hK9
  have hP : va_P D vwCl [(h0, .inr (6, [.int 0, .ref q1, .ref q2, .ref q3, .ref q4, .int 0, .int 0, .int 0, .ref q5, .ref q6, .int 0, .ref q7, .int 0, .int 0, .ref q8, .ref q9, .null, .int 0, .int 0, .null, .int 0, .int 0])), (q1, .inl (tc 0, 256, .inl z0)), (q2, .inl (tc 0, 336, .inl z0)), (q3, .inl (tc 0, 6, .inl z0)), (q4, .inl (tc 1, 256, .inl z0)), (q5, .inl (tc 0, 768, .inl z0)), (q6, .inl (tc 1, 96, .inl z0)), (q7, .inl (tc 0, 64, .inl z0)), (q8, .inl (tc 0, 256, .inl z0)), (q9, .inl (tc 1, 16, .inl z0)), (q10, .inl (tc 0, 16, .inl z0))] H := hP
  have hD : va_D A [(h0, .inr (6, [.int 0, .ref q1, .ref q2, .ref q3, .ref q4, .int 0, .int 0, .int 0, .ref q5, .ref q6, .int 0, .ref q7, .int 0, .int 0, .ref q8, .ref q9, .null, .int 0, .int 0, .null, .int 0, .int 0])), (q1, .inl (tc 0, 256, .inl z0)), (q2, .inl (tc 0, 336, .inl z0)), (q3, .inl (tc 0, 6, .inl z0)), (q4, .inl (tc 1, 256, .inl z0)), (q5, .inl (tc 0, 768, .inl z0)), (q6, .inl (tc 1, 96, .inl z0)), (q7, .inl (tc 0, 64, .inl z0)), (q8, .inl (tc 0, 256, .inl z0)), (q9, .inl (tc 1, 16, .inl z0)), (q10, .inl (tc 0, 16, .inl z0))] := hD
  refine W.widen (k := 10) (n := 2070) (Nat.le_of_ble_eq_true rfl) (Nat.le_of_ble_eq_true rfl) ?_
  refine va_putF (ci := 6) (v := .ref q10) (ty := .array .int) (C := "DumpDeskModel") (T := T_M) (N := 22) hx hb hts u_M t_M p_M n_M hown hK hP hD hS 0 rfl rfl 16 (by decide) (hts _ (e_in3 145 rfl rfl)) (fun _ h9 => h9) rfl hin rfl (by decide +kernel) rfl rfl (Nat.le_of_ble_eq_true rfl) (show decode b_M_init 86 = .ok (.putfield 38, 3) by decide +kernel) (fun H locs hP hD hS => ?_)
  have hP : va_P D vwCl [(h0, .inr (6, [.int 0, .ref q1, .ref q2, .ref q3, .ref q4, .int 0, .int 0, .int 0, .ref q5, .ref q6, .int 0, .ref q7, .int 0, .int 0, .ref q8, .ref q9, .ref q10, .int 0, .int 0, .null, .int 0, .int 0])), (q1, .inl (tc 0, 256, .inl z0)), (q2, .inl (tc 0, 336, .inl z0)), (q3, .inl (tc 0, 6, .inl z0)), (q4, .inl (tc 1, 256, .inl z0)), (q5, .inl (tc 0, 768, .inl z0)), (q6, .inl (tc 1, 96, .inl z0)), (q7, .inl (tc 0, 64, .inl z0)), (q8, .inl (tc 0, 256, .inl z0)), (q9, .inl (tc 1, 16, .inl z0)), (q10, .inl (tc 0, 16, .inl z0))] H := hP
  have hD : va_D A [(h0, .inr (6, [.int 0, .ref q1, .ref q2, .ref q3, .ref q4, .int 0, .int 0, .int 0, .ref q5, .ref q6, .int 0, .ref q7, .int 0, .int 0, .ref q8, .ref q9, .ref q10, .int 0, .int 0, .null, .int 0, .int 0])), (q1, .inl (tc 0, 256, .inl z0)), (q2, .inl (tc 0, 336, .inl z0)), (q3, .inl (tc 0, 6, .inl z0)), (q4, .inl (tc 1, 256, .inl z0)), (q5, .inl (tc 0, 768, .inl z0)), (q6, .inl (tc 1, 96, .inl z0)), (q7, .inl (tc 0, 64, .inl z0)), (q8, .inl (tc 0, 256, .inl z0)), (q9, .inl (tc 1, 16, .inl z0)), (q10, .inl (tc 0, 16, .inl z0))] := hD
  refine lv_aload_n hx hb (show decode b_M_init 89 = .ok (.aload_n 0, 1) by decide +kernel) rfl (lv_at hl 0 rfl) ?_
  refine lv_bipush (v := 64) hx hb (show decode b_M_init 90 = .ok (.bipush 64, 2) by decide +kernel) (by decide) ?_
  refine va_newa (ty := .int) (a0 := (64, .inl z0)) hx hb (hts _ (e_in1 57 rfl rfl)) rfl hK hP hD hS hA (fun _ => rfl) (by decide) (by decide) (by decide) (Nat.le_of_ble_eq_true rfl) (Nat.le_of_ble_eq_true rfl) (show decode b_M_init 92 = .ok (.newarray .int, 2) by decide +kernel) (fun q11 cA H hK9 hP hD hS => ?_)
  obtain rfl : tc 0 = cA := x_cA hK9 (i := 0) (j := 3) rfl rfl (fun C h => by cases h)
  clear hK9
  have hP : va_P D vwCl [(h0, .inr (6, [.int 0, .ref q1, .ref q2, .ref q3, .ref q4, .int 0, .int 0, .int 0, .ref q5, .ref q6, .int 0, .ref q7, .int 0, .int 0, .ref q8, .ref q9, .ref q10, .int 0, .int 0, .null, .int 0, .int 0])), (q1, .inl (tc 0, 256, .inl z0)), (q2, .inl (tc 0, 336, .inl z0)), (q3, .inl (tc 0, 6, .inl z0)), (q4, .inl (tc 1, 256, .inl z0)), (q5, .inl (tc 0, 768, .inl z0)), (q6, .inl (tc 1, 96, .inl z0)), (q7, .inl (tc 0, 64, .inl z0)), (q8, .inl (tc 0, 256, .inl z0)), (q9, .inl (tc 1, 16, .inl z0)), (q10, .inl (tc 0, 16, .inl z0)), (q11, .inl (tc 0, 64, .inl z0))] H := hP
  have hD : va_D A [(h0, .inr (6, [.int 0, .ref q1, .ref q2, .ref q3, .ref q4, .int 0, .int 0, .int 0, .ref q5, .ref q6, .int 0, .ref q7, .int 0, .int 0, .ref q8, .ref q9, .ref q10, .int 0, .int 0, .null, .int 0, .int 0])), (q1, .inl (tc 0, 256, .inl z0)), (q2, .inl (tc 0, 336, .inl z0)), (q3, .inl (tc 0, 6, .inl z0)), (q4, .inl (tc 1, 256, .inl z0)), (q5, .inl (tc 0, 768, .inl z0)), (q6, .inl (tc 1, 96, .inl z0)), (q7, .inl (tc 0, 64, .inl z0)), (q8, .inl (tc 0, 256, .inl z0)), (q9, .inl (tc 1, 16, .inl z0)), (q10, .inl (tc 0, 16, .inl z0)), (q11, .inl (tc 0, 64, .inl z0))] := hD
  refine W.widen (k := 11) (n := 2134) (Nat.le_of_ble_eq_true rfl) (Nat.le_of_ble_eq_true rfl) ?_
  refine va_putF (ci := 6) (v := .ref q11) (ty := .array .int) (C := "DumpDeskModel") (T := T_M) (N := 22) hx hb hts u_M t_M p_M n_M hown hK hP hD hS 0 rfl rfl 19 (by decide) (hts _ (e_in3 148 rfl rfl)) (fun _ h9 => h9) rfl hin rfl (by decide +kernel) rfl rfl (Nat.le_of_ble_eq_true rfl) (show decode b_M_init 94 = .ok (.putfield 41, 3) by decide +kernel) (fun H locs hP hD hS => ?_)
  have hP : va_P D vwCl [(h0, .inr (6, [.int 0, .ref q1, .ref q2, .ref q3, .ref q4, .int 0, .int 0, .int 0, .ref q5, .ref q6, .int 0, .ref q7, .int 0, .int 0, .ref q8, .ref q9, .ref q10, .int 0, .int 0, .ref q11, .int 0, .int 0])), (q1, .inl (tc 0, 256, .inl z0)), (q2, .inl (tc 0, 336, .inl z0)), (q3, .inl (tc 0, 6, .inl z0)), (q4, .inl (tc 1, 256, .inl z0)), (q5, .inl (tc 0, 768, .inl z0)), (q6, .inl (tc 1, 96, .inl z0)), (q7, .inl (tc 0, 64, .inl z0)), (q8, .inl (tc 0, 256, .inl z0)), (q9, .inl (tc 1, 16, .inl z0)), (q10, .inl (tc 0, 16, .inl z0)), (q11, .inl (tc 0, 64, .inl z0))] H := hP
  have hD : va_D A [(h0, .inr (6, [.int 0, .ref q1, .ref q2, .ref q3, .ref q4, .int 0, .int 0, .int 0, .ref q5, .ref q6, .int 0, .ref q7, .int 0, .int 0, .ref q8, .ref q9, .ref q10, .int 0, .int 0, .ref q11, .int 0, .int 0])), (q1, .inl (tc 0, 256, .inl z0)), (q2, .inl (tc 0, 336, .inl z0)), (q3, .inl (tc 0, 6, .inl z0)), (q4, .inl (tc 1, 256, .inl z0)), (q5, .inl (tc 0, 768, .inl z0)), (q6, .inl (tc 1, 96, .inl z0)), (q7, .inl (tc 0, 64, .inl z0)), (q8, .inl (tc 0, 256, .inl z0)), (q9, .inl (tc 1, 16, .inl z0)), (q10, .inl (tc 0, 16, .inl z0)), (q11, .inl (tc 0, 64, .inl z0))] := hD
  exact g_tail (nW := 12) (ad := fun i => match i with | 0 => h0 | 1 => q1 | 2 => q2 | 3 => q3 | 4 => q4 | 5 => q5 | 6 => q6 | 7 => q7 | 8 => q8 | 9 => q9 | 10 => q10 | _ => q11) (tc := tc) (c0 := 11) (s0 := 2134) (lvl := 2) (own := "DumpDeskModel") (cc := b_M_init) (nL := 2) hl9 ⟨hx, hb, hml, hown, hts, hK, hA, Nat.le_of_ble_eq_true rfl, Nat.le_of_ble_eq_true rfl, Nat.le_of_ble_eq_true rfl, Nat.le_of_ble_eq_true rfl⟩ F_M C_M Sg_minit k_minit f_M c_M sg_minit o_minit (h := HM z0 z0) (h' := HM wM0 wS0) (pc := 97) (lv := [(0, .ref 0)]) rfl hP hD hS hl (fun H locs ls pc hP hD hS hdr => W.vret hx hb hr (fun t ht hW => ⟨⟨fun i => match i with | 1 => q1 | 2 => q2 | 3 => q3 | 4 => q4 | 5 => q5 | 6 => q6 | 7 => q7 | 8 => q8 | 9 => q9 | 10 => q10 | _ => q11, rfl, trivial, by rw [ht]; exact hP, hD⟩, hS.F ht⟩) hS.2.2 hdr) (fun J hC => vg_minit J hC)
