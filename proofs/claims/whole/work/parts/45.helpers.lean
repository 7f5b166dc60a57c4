/-! the helpers of the law: they catch (by wip/tools/law.py) -/
def oX (k : Nat) (u : St) (v : Int32) : St := match k with
  | 0 => uO u (vp_updL u.2.2 0 v.toInt64)
  | _ => u
def C_L_taskNew : e_C := ⟨Nat × St × Int32, 3, fun a => c01 a.1, fun a => C_D_taskNew.2.2.2.1 a ∧ a.1 ≤ 1, fun a => [.ref 0, .int a.2.2, .ref 14], fun a => Hp a.2.1, fun a => .inl (some (.int (nI a.1))), fun a => Hp (oX a.1 (dTN a.2.1 a.2.2).2.2 (dTN a.2.1 a.2.2).2.1)⟩
def S_L_taskNew : List (Nat × e_C) := [(4, C_D_taskNew)]
theorem s_L_taskNew : ∀ x ∈ S_L_taskNew, e_Site b_L_taskNew "DumpDeskLaw" 8 x.1 x.2 := List.forall_mem_cons.mpr ⟨e_siteVX (y := y_D_taskNew) (i := 7) (ci := 0) m_D_taskNew (by decide) (by decide) rfl (fun a _ => ⟨_, _, _, rfl, by decide, rfl⟩) rfl (e_in2 5 rfl rfl) (e_in2 6 rfl rfl) (e_in1 1 rfl rfl) (x_code (e_in2 8 rfl rfl)) (e_in2 7 rfl rfl) ⟨by decide, by decide, rfl⟩ (by decide +kernel), fun x hx => (by cases hx)⟩
def Hs_L_taskNew : List (String × Nat × Nat × Nat × Nat) := [("java/lang/IllegalStateException", 0, 9, 12, 13)]
theorem hx_L_taskNew_1 : x_Hs b_L_taskNew 4 4 "java/lang/IllegalStateException" (nI 1) Hs_L_taskNew := ⟨⟨by decide, by decide, by decide⟩, (e_in2 4 rfl rfl), Or.inl ⟨rfl, by decide +kernel, 3, 1, 1, Or.inr ⟨3, rfl, by decide +kernel, rfl⟩, by decide, rfl, by decide +kernel, by decide +kernel⟩⟩
theorem v_L_taskNew (a : Nat × St × Int32) (hp : C_D_taskNew.2.2.2.1 a ∧ a.1 ≤ 1) (J : e_Jt) (hC : e_Cl (c01 a.1) (fun _ => none) (e_fd S_L_taskNew) (fun _ => none) none k_L_taskNew (fun b pc r h => b ≤ c01 a.1 ∧ h = Hp (oX a.1 (dTN a.2.1 a.2.2).2.2 (dTN a.2.1 a.2.2).2.1) ∧ (r = .inl (some (.int (nI a.1))) ∨ ∃ E, r = .inr E ∧ x_Hs b_L_taskNew 4 pc E (nI a.1) Hs_L_taskNew)) J) : J 0 0 [(0, .ref 0), (1, .int a.2.2), (2, .ref 14)] [] (Hp a.2.1) := by
  obtain ⟨k, a⟩ := a
  obtain ⟨hp, hk⟩ := hp
  dsimp only at hk hC ⊢
  rcases k with _ | _ | k
  · refine e_run hC ?_
    conv => whnf
    refine ⟨(0, a), hp, rfl, rfl, ?_⟩
    conv => whnf
    dsimp only [C_D_taskNew]
    refine e_run hC ?_
    conv => whnf
    refine ⟨vp_in_nI (n := 0) (by decide) (by decide), ?_⟩
    rw [h_o]
    refine e_run hC ?_
    conv => whnf
    refine e_run hC ?_
    conv => whnf
    exact ⟨Nat.le_refl _, rfl, Or.inl rfl⟩
  · refine e_run hC ?_
    conv => whnf
    refine ⟨(1, a), hp, rfl, rfl, ?_⟩
    conv => whnf
    exact ⟨Nat.le_refl _, rfl, Or.inr ⟨_, rfl, hx_L_taskNew_1⟩⟩
  · omega
theorem m_L_taskNew (l : Launch) (hl : l.stackTraces = false) : e_MetX l y_L_taskNew 8 C_L_taskNew :=
  e_metW hl S_L_taskNew Hs_L_taskNew k_L_taskNew (by decide +kernel) rfl s_L_taskNew o_L_taskNew (x_codeW (e_in2 3 rfl rfl)) (fun a _ => ⟨Nat.le_of_ble_eq_true rfl, rfl⟩) (fun a hp => ⟨nI a.1, rfl, v_L_taskNew a hp⟩)
def C_L_taskEnd : e_C := ⟨Nat × St × Int32, 3, fun a => c01 a.1, fun a => C_D_taskEnd.2.2.2.1 a ∧ a.1 ≤ 2, fun a => [.ref 0, .int a.2.2, .ref 14], fun a => Hp a.2.1, fun a => .inl (some (.int (nI a.1))), fun a => Hp (oX a.1 (dTE a.2.1 a.2.2).2.2 (dTE a.2.1 a.2.2).2.1)⟩
def S_L_taskEnd : List (Nat × e_C) := [(4, C_D_taskEnd)]
theorem s_L_taskEnd : ∀ x ∈ S_L_taskEnd, e_Site b_L_taskEnd "DumpDeskLaw" 8 x.1 x.2 := List.forall_mem_cons.mpr ⟨e_siteVX (y := y_D_taskEnd) (i := 15) (ci := 0) m_D_taskEnd (by decide) (by decide) rfl (fun a _ => ⟨_, _, _, rfl, by decide, rfl⟩) rfl (e_in2 112 rfl rfl) (e_in2 113 rfl rfl) (e_in1 1 rfl rfl) (x_code (e_in2 115 rfl rfl)) (e_in2 114 rfl rfl) ⟨by decide, by decide, rfl⟩ (by decide +kernel), fun x hx => (by cases hx)⟩
def Hs_L_taskEnd : List (String × Nat × Nat × Nat × Nat) := [("java/util/NoSuchElementException", 0, 9, 12, 18), ("java/lang/IllegalStateException", 0, 9, 15, 13)]
theorem hx_L_taskEnd_1 : x_Hs b_L_taskEnd 4 4 "java/util/NoSuchElementException" (nI 1) Hs_L_taskEnd := ⟨⟨by decide, by decide, by decide⟩, (e_in2 111 rfl rfl), Or.inl ⟨rfl, by decide +kernel, 3, 1, 1, Or.inr ⟨3, rfl, by decide +kernel, rfl⟩, by decide, rfl, by decide +kernel, by decide +kernel⟩⟩
theorem hx_L_taskEnd_2 : x_Hs b_L_taskEnd 4 4 "java/lang/IllegalStateException" (nI 2) Hs_L_taskEnd := ⟨⟨by decide, by decide, by decide⟩, (e_in2 111 rfl rfl), Or.inr ⟨by decide +kernel, ⟨⟨by decide, by decide, by decide⟩, (e_in2 4 rfl rfl), Or.inl ⟨rfl, by decide +kernel, 3, 1, 2, Or.inr ⟨3, rfl, by decide +kernel, rfl⟩, by decide, rfl, by decide +kernel, by decide +kernel⟩⟩⟩⟩
theorem v_L_taskEnd (a : Nat × St × Int32) (hp : C_D_taskEnd.2.2.2.1 a ∧ a.1 ≤ 2) (J : e_Jt) (hC : e_Cl (c01 a.1) (fun _ => none) (e_fd S_L_taskEnd) (fun _ => none) none k_L_taskEnd (fun b pc r h => b ≤ c01 a.1 ∧ h = Hp (oX a.1 (dTE a.2.1 a.2.2).2.2 (dTE a.2.1 a.2.2).2.1) ∧ (r = .inl (some (.int (nI a.1))) ∨ ∃ E, r = .inr E ∧ x_Hs b_L_taskEnd 4 pc E (nI a.1) Hs_L_taskEnd)) J) : J 0 0 [(0, .ref 0), (1, .int a.2.2), (2, .ref 14)] [] (Hp a.2.1) := by
  obtain ⟨k, a⟩ := a
  obtain ⟨hp, hk⟩ := hp
  dsimp only at hk hC ⊢
  rcases k with _ | _ | _ | k
  · refine e_run hC ?_
    conv => whnf
    refine ⟨(0, a), hp, rfl, rfl, ?_⟩
    conv => whnf
    dsimp only [C_D_taskEnd]
    refine e_run hC ?_
    conv => whnf
    refine ⟨vp_in_nI (n := 0) (by decide) (by decide), ?_⟩
    rw [h_o]
    refine e_run hC ?_
    conv => whnf
    refine e_run hC ?_
    conv => whnf
    exact ⟨Nat.le_refl _, rfl, Or.inl rfl⟩
  · refine e_run hC ?_
    conv => whnf
    refine ⟨(1, a), hp, rfl, rfl, ?_⟩
    conv => whnf
    exact ⟨Nat.le_refl _, rfl, Or.inr ⟨_, rfl, hx_L_taskEnd_1⟩⟩
  · refine e_run hC ?_
    conv => whnf
    refine ⟨(2, a), hp, rfl, rfl, ?_⟩
    conv => whnf
    exact ⟨Nat.le_refl _, rfl, Or.inr ⟨_, rfl, hx_L_taskEnd_2⟩⟩
  · omega
theorem m_L_taskEnd (l : Launch) (hl : l.stackTraces = false) : e_MetX l y_L_taskEnd 8 C_L_taskEnd :=
  e_metW hl S_L_taskEnd Hs_L_taskEnd k_L_taskEnd (by decide +kernel) rfl s_L_taskEnd o_L_taskEnd (x_codeW (e_in2 110 rfl rfl)) (fun a _ => ⟨Nat.le_of_ble_eq_true rfl, rfl⟩) (fun a hp => ⟨nI a.1, rfl, v_L_taskEnd a hp⟩)
def C_L_waitOn : e_C := ⟨Nat × St × Int32 × Int32, 3, fun a => c01 a.1, fun a => C_D_waitOn.2.2.2.1 a ∧ a.1 ≤ 3, fun a => [.ref 0, .int a.2.2.1, .int a.2.2.2], fun a => Hp a.2.1, fun a => .inl (some (.int (nI a.1))), fun a => Hp (dWO a.2.1 a.2.2.1 a.2.2.2).2⟩
def S_L_waitOn : List (Nat × e_C) := [(3, C_D_waitOn)]
theorem s_L_waitOn : ∀ x ∈ S_L_waitOn, e_Site b_L_waitOn "DumpDeskLaw" 8 x.1 x.2 := List.forall_mem_cons.mpr ⟨e_siteVX (y := y_D_waitOn) (i := 20) (ci := 0) m_D_waitOn (by decide) (by decide) rfl (fun a _ => ⟨_, _, _, rfl, by decide, rfl⟩) rfl (e_in2 152 rfl rfl) (e_in2 153 rfl rfl) (e_in1 1 rfl rfl) (x_code (e_in2 155 rfl rfl)) (e_in2 154 rfl rfl) ⟨by decide, by decide, rfl⟩ (by decide +kernel), fun x hx => (by cases hx)⟩
def Hs_L_waitOn : List (String × Nat × Nat × Nat × Nat) := [("java/lang/IllegalArgumentException", 0, 6, 9, 24), ("java/util/NoSuchElementException", 0, 6, 12, 18), ("java/lang/IllegalStateException", 0, 6, 15, 13)]
theorem hx_L_waitOn_1 : x_Hs b_L_waitOn 4 3 "java/lang/IllegalArgumentException" (nI 1) Hs_L_waitOn := ⟨⟨by decide, by decide, by decide⟩, (e_in2 151 rfl rfl), Or.inl ⟨rfl, by decide +kernel, 3, 1, 1, Or.inr ⟨3, rfl, by decide +kernel, rfl⟩, by decide, rfl, by decide +kernel, by decide +kernel⟩⟩
theorem hx_L_waitOn_2 : x_Hs b_L_waitOn 4 3 "java/util/NoSuchElementException" (nI 2) Hs_L_waitOn := ⟨⟨by decide, by decide, by decide⟩, (e_in2 151 rfl rfl), Or.inr ⟨by decide +kernel, ⟨⟨by decide, by decide, by decide⟩, (e_in2 111 rfl rfl), Or.inl ⟨rfl, by decide +kernel, 3, 1, 2, Or.inr ⟨3, rfl, by decide +kernel, rfl⟩, by decide, rfl, by decide +kernel, by decide +kernel⟩⟩⟩⟩
theorem hx_L_waitOn_3 : x_Hs b_L_waitOn 4 3 "java/lang/IllegalStateException" (nI 3) Hs_L_waitOn := ⟨⟨by decide, by decide, by decide⟩, (e_in2 151 rfl rfl), Or.inr ⟨by decide +kernel, ⟨⟨by decide, by decide, by decide⟩, (e_in2 111 rfl rfl), Or.inr ⟨by decide +kernel, ⟨⟨by decide, by decide, by decide⟩, (e_in2 4 rfl rfl), Or.inl ⟨rfl, by decide +kernel, 3, 1, 3, Or.inr ⟨3, rfl, by decide +kernel, rfl⟩, by decide, rfl, by decide +kernel, by decide +kernel⟩⟩⟩⟩⟩⟩
theorem v_L_waitOn (a : Nat × St × Int32 × Int32) (hp : C_D_waitOn.2.2.2.1 a ∧ a.1 ≤ 3) (J : e_Jt) (hC : e_Cl (c01 a.1) (fun _ => none) (e_fd S_L_waitOn) (fun _ => none) none k_L_waitOn (fun b pc r h => b ≤ c01 a.1 ∧ h = Hp (dWO a.2.1 a.2.2.1 a.2.2.2).2 ∧ (r = .inl (some (.int (nI a.1))) ∨ ∃ E, r = .inr E ∧ x_Hs b_L_waitOn 4 pc E (nI a.1) Hs_L_waitOn)) J) : J 0 0 [(0, .ref 0), (1, .int a.2.2.1), (2, .int a.2.2.2)] [] (Hp a.2.1) := by
  obtain ⟨k, a⟩ := a
  obtain ⟨hp, hk⟩ := hp
  dsimp only at hk hC ⊢
  rcases k with _ | _ | _ | _ | k
  · refine e_run hC ?_
    conv => whnf
    refine ⟨(0, a), hp, rfl, rfl, ?_⟩
    conv => whnf
    refine e_run hC ?_
    conv => whnf
    refine e_run hC ?_
    conv => whnf
    exact ⟨Nat.le_refl _, rfl, Or.inl rfl⟩
  · refine e_run hC ?_
    conv => whnf
    refine ⟨(1, a), hp, rfl, rfl, ?_⟩
    conv => whnf
    exact ⟨Nat.le_refl _, rfl, Or.inr ⟨_, rfl, hx_L_waitOn_1⟩⟩
  · refine e_run hC ?_
    conv => whnf
    refine ⟨(2, a), hp, rfl, rfl, ?_⟩
    conv => whnf
    exact ⟨Nat.le_refl _, rfl, Or.inr ⟨_, rfl, hx_L_waitOn_2⟩⟩
  · refine e_run hC ?_
    conv => whnf
    refine ⟨(3, a), hp, rfl, rfl, ?_⟩
    conv => whnf
    exact ⟨Nat.le_refl _, rfl, Or.inr ⟨_, rfl, hx_L_waitOn_3⟩⟩
  · omega
theorem m_L_waitOn (l : Launch) (hl : l.stackTraces = false) : e_MetX l y_L_waitOn 8 C_L_waitOn :=
  e_metW hl S_L_waitOn Hs_L_waitOn k_L_waitOn (by decide +kernel) rfl s_L_waitOn o_L_waitOn (x_codeW (e_in2 150 rfl rfl)) (fun a _ => ⟨Nat.le_of_ble_eq_true rfl, rfl⟩) (fun a hp => ⟨nI a.1, rfl, v_L_waitOn a hp⟩)
def C_L_wake : e_C := ⟨Nat × St × Int32, 3, fun a => c01 a.1, fun a => C_D_wake.2.2.2.1 a ∧ a.1 ≤ 3, fun a => [.ref 0, .int a.2.2, .ref 14], fun a => Hp a.2.1, fun a => .inl (some (.int (nI a.1))), fun a => Hp (oX a.1 (dWK a.2.1 a.2.2).2.2 (dWK a.2.1 a.2.2).2.1)⟩
def S_L_wake : List (Nat × e_C) := [(4, C_D_wake)]
theorem s_L_wake : ∀ x ∈ S_L_wake, e_Site b_L_wake "DumpDeskLaw" 8 x.1 x.2 := List.forall_mem_cons.mpr ⟨e_siteVX (y := y_D_wake) (i := 26) (ci := 0) m_D_wake (by decide) (by decide) rfl (fun a _ => ⟨_, _, _, rfl, by decide, rfl⟩) rfl (e_in2 184 rfl rfl) (e_in2 185 rfl rfl) (e_in1 1 rfl rfl) (x_code (e_in2 187 rfl rfl)) (e_in2 186 rfl rfl) ⟨by decide, by decide, rfl⟩ (by decide +kernel), fun x hx => (by cases hx)⟩
def Hs_L_wake : List (String × Nat × Nat × Nat × Nat) := [("java/lang/IllegalArgumentException", 0, 9, 12, 24), ("java/util/NoSuchElementException", 0, 9, 15, 18), ("java/lang/IllegalStateException", 0, 9, 18, 13)]
theorem hx_L_wake_1 : x_Hs b_L_wake 4 4 "java/lang/IllegalArgumentException" (nI 1) Hs_L_wake := ⟨⟨by decide, by decide, by decide⟩, (e_in2 151 rfl rfl), Or.inl ⟨rfl, by decide +kernel, 3, 1, 1, Or.inr ⟨3, rfl, by decide +kernel, rfl⟩, by decide, rfl, by decide +kernel, by decide +kernel⟩⟩
theorem hx_L_wake_2 : x_Hs b_L_wake 4 4 "java/util/NoSuchElementException" (nI 2) Hs_L_wake := ⟨⟨by decide, by decide, by decide⟩, (e_in2 151 rfl rfl), Or.inr ⟨by decide +kernel, ⟨⟨by decide, by decide, by decide⟩, (e_in2 111 rfl rfl), Or.inl ⟨rfl, by decide +kernel, 3, 1, 2, Or.inr ⟨3, rfl, by decide +kernel, rfl⟩, by decide, rfl, by decide +kernel, by decide +kernel⟩⟩⟩⟩
theorem hx_L_wake_3 : x_Hs b_L_wake 4 4 "java/lang/IllegalStateException" (nI 3) Hs_L_wake := ⟨⟨by decide, by decide, by decide⟩, (e_in2 151 rfl rfl), Or.inr ⟨by decide +kernel, ⟨⟨by decide, by decide, by decide⟩, (e_in2 111 rfl rfl), Or.inr ⟨by decide +kernel, ⟨⟨by decide, by decide, by decide⟩, (e_in2 4 rfl rfl), Or.inl ⟨rfl, by decide +kernel, 3, 1, 3, Or.inr ⟨3, rfl, by decide +kernel, rfl⟩, by decide, rfl, by decide +kernel, by decide +kernel⟩⟩⟩⟩⟩⟩
theorem v_L_wake (a : Nat × St × Int32) (hp : C_D_wake.2.2.2.1 a ∧ a.1 ≤ 3) (J : e_Jt) (hC : e_Cl (c01 a.1) (fun _ => none) (e_fd S_L_wake) (fun _ => none) none k_L_wake (fun b pc r h => b ≤ c01 a.1 ∧ h = Hp (oX a.1 (dWK a.2.1 a.2.2).2.2 (dWK a.2.1 a.2.2).2.1) ∧ (r = .inl (some (.int (nI a.1))) ∨ ∃ E, r = .inr E ∧ x_Hs b_L_wake 4 pc E (nI a.1) Hs_L_wake)) J) : J 0 0 [(0, .ref 0), (1, .int a.2.2), (2, .ref 14)] [] (Hp a.2.1) := by
  obtain ⟨k, a⟩ := a
  obtain ⟨hp, hk⟩ := hp
  dsimp only at hk hC ⊢
  rcases k with _ | _ | _ | _ | k
  · refine e_run hC ?_
    conv => whnf
    refine ⟨(0, a), hp, rfl, rfl, ?_⟩
    conv => whnf
    dsimp only [C_D_wake]
    refine e_run hC ?_
    conv => whnf
    refine ⟨vp_in_nI (n := 0) (by decide) (by decide), ?_⟩
    rw [h_o]
    refine e_run hC ?_
    conv => whnf
    refine e_run hC ?_
    conv => whnf
    exact ⟨Nat.le_refl _, rfl, Or.inl rfl⟩
  · refine e_run hC ?_
    conv => whnf
    refine ⟨(1, a), hp, rfl, rfl, ?_⟩
    conv => whnf
    exact ⟨Nat.le_refl _, rfl, Or.inr ⟨_, rfl, hx_L_wake_1⟩⟩
  · refine e_run hC ?_
    conv => whnf
    refine ⟨(2, a), hp, rfl, rfl, ?_⟩
    conv => whnf
    exact ⟨Nat.le_refl _, rfl, Or.inr ⟨_, rfl, hx_L_wake_2⟩⟩
  · refine e_run hC ?_
    conv => whnf
    refine ⟨(3, a), hp, rfl, rfl, ?_⟩
    conv => whnf
    exact ⟨Nat.le_refl _, rfl, Or.inr ⟨_, rfl, hx_L_wake_3⟩⟩
  · omega
theorem m_L_wake (l : Launch) (hl : l.stackTraces = false) : e_MetX l y_L_wake 8 C_L_wake :=
  e_metW hl S_L_wake Hs_L_wake k_L_wake (by decide +kernel) rfl s_L_wake o_L_wake (x_codeW (e_in2 183 rfl rfl)) (fun a _ => ⟨Nat.le_of_ble_eq_true rfl, rfl⟩) (fun a hp => ⟨nI a.1, rfl, v_L_wake a hp⟩)
def C_L_timer : e_C := ⟨Nat × St × Int32, 2, fun a => c01 a.1, fun a => C_D_timer.2.2.2.1 a ∧ a.1 ≤ 1, fun a => [.ref 0, .int a.2.2], fun a => Hp a.2.1, fun a => .inl (some (.int (nI a.1))), fun a => Hp (dTM a.2.1 a.2.2).2⟩
def S_L_timer : List (Nat × e_C) := [(2, C_D_timer)]
theorem s_L_timer : ∀ x ∈ S_L_timer, e_Site b_L_timer "DumpDeskLaw" 8 x.1 x.2 := List.forall_mem_cons.mpr ⟨e_siteVX (y := y_D_timer) (i := 29) (ci := 0) m_D_timer (by decide) (by decide) rfl (fun a _ => ⟨_, _, _, rfl, by decide, rfl⟩) rfl (e_in2 199 rfl rfl) (e_in2 200 rfl rfl) (e_in1 1 rfl rfl) (x_code (e_in2 202 rfl rfl)) (e_in2 201 rfl rfl) ⟨by decide, by decide, rfl⟩ (by decide +kernel), fun x hx => (by cases hx)⟩
def Hs_L_timer : List (String × Nat × Nat × Nat × Nat) := [("java/lang/IllegalStateException", 0, 5, 8, 13)]
theorem hx_L_timer_1 : x_Hs b_L_timer 3 2 "java/lang/IllegalStateException" (nI 1) Hs_L_timer := ⟨⟨by decide, by decide, by decide⟩, (e_in2 4 rfl rfl), Or.inl ⟨rfl, by decide +kernel, 2, 1, 1, Or.inr ⟨2, rfl, by decide +kernel, rfl⟩, by decide, rfl, by decide +kernel, by decide +kernel⟩⟩
theorem v_L_timer (a : Nat × St × Int32) (hp : C_D_timer.2.2.2.1 a ∧ a.1 ≤ 1) (J : e_Jt) (hC : e_Cl (c01 a.1) (fun _ => none) (e_fd S_L_timer) (fun _ => none) none k_L_timer (fun b pc r h => b ≤ c01 a.1 ∧ h = Hp (dTM a.2.1 a.2.2).2 ∧ (r = .inl (some (.int (nI a.1))) ∨ ∃ E, r = .inr E ∧ x_Hs b_L_timer 3 pc E (nI a.1) Hs_L_timer)) J) : J 0 0 [(0, .ref 0), (1, .int a.2.2)] [] (Hp a.2.1) := by
  obtain ⟨k, a⟩ := a
  obtain ⟨hp, hk⟩ := hp
  dsimp only at hk hC ⊢
  rcases k with _ | _ | k
  · refine e_run hC ?_
    conv => whnf
    refine ⟨(0, a), hp, rfl, rfl, ?_⟩
    conv => whnf
    refine e_run hC ?_
    conv => whnf
    refine e_run hC ?_
    conv => whnf
    exact ⟨Nat.le_refl _, rfl, Or.inl rfl⟩
  · refine e_run hC ?_
    conv => whnf
    refine ⟨(1, a), hp, rfl, rfl, ?_⟩
    conv => whnf
    exact ⟨Nat.le_refl _, rfl, Or.inr ⟨_, rfl, hx_L_timer_1⟩⟩
  · omega
theorem m_L_timer (l : Launch) (hl : l.stackTraces = false) : e_MetX l y_L_timer 8 C_L_timer :=
  e_metW hl S_L_timer Hs_L_timer k_L_timer (by decide +kernel) rfl s_L_timer o_L_timer (x_codeW (e_in2 198 rfl rfl)) (fun a _ => ⟨Nat.le_of_ble_eq_true rfl, rfl⟩) (fun a hp => ⟨nI a.1, rfl, v_L_timer a hp⟩)
def C_L_file : e_C := ⟨Nat × St × Bool × Int32, 4, fun a => c01 a.1, fun a => C_D_file.2.2.2.1 a ∧ a.1 ≤ 1, fun a => [.ref 0, .int (bi a.2.2.1), .int a.2.2.2, .ref 14], fun a => Hp a.2.1, fun a => .inl (some (.int (nI a.1))), fun a => Hp (oX a.1 (dFI a.2.1 a.2.2.1 a.2.2.2).2.2 (dFI a.2.1 a.2.2.1 a.2.2.2).2.1)⟩
def S_L_file : List (Nat × e_C) := [(5, C_D_file)]
theorem s_L_file : ∀ x ∈ S_L_file, e_Site b_L_file "DumpDeskLaw" 8 x.1 x.2 := List.forall_mem_cons.mpr ⟨e_siteVX (y := y_D_file) (i := 33) (ci := 0) m_D_file (by decide) (by decide) rfl (fun a _ => ⟨_, _, _, rfl, by decide, rfl⟩) rfl (e_in2 210 rfl rfl) (e_in2 211 rfl rfl) (e_in1 1 rfl rfl) (x_code (e_in2 213 rfl rfl)) (e_in2 212 rfl rfl) ⟨by decide, by decide, rfl⟩ (by decide +kernel), fun x hx => (by cases hx)⟩
def Hs_L_file : List (String × Nat × Nat × Nat × Nat) := [("java/lang/IllegalStateException", 0, 10, 13, 13)]
theorem hx_L_file_1 : x_Hs b_L_file 5 5 "java/lang/IllegalStateException" (nI 1) Hs_L_file := ⟨⟨by decide, by decide, by decide⟩, (e_in2 4 rfl rfl), Or.inl ⟨rfl, by decide +kernel, 4, 2, 1, Or.inl ⟨by decide +kernel, rfl⟩, by decide, rfl, by decide +kernel, by decide +kernel⟩⟩
theorem v_L_file (a : Nat × St × Bool × Int32) (hp : C_D_file.2.2.2.1 a ∧ a.1 ≤ 1) (J : e_Jt) (hC : e_Cl (c01 a.1) (fun _ => none) (e_fd S_L_file) (fun _ => none) none k_L_file (fun b pc r h => b ≤ c01 a.1 ∧ h = Hp (oX a.1 (dFI a.2.1 a.2.2.1 a.2.2.2).2.2 (dFI a.2.1 a.2.2.1 a.2.2.2).2.1) ∧ (r = .inl (some (.int (nI a.1))) ∨ ∃ E, r = .inr E ∧ x_Hs b_L_file 5 pc E (nI a.1) Hs_L_file)) J) : J 0 0 [(0, .ref 0), (1, .int (bi a.2.2.1)), (2, .int a.2.2.2), (3, .ref 14)] [] (Hp a.2.1) := by
  obtain ⟨k, a⟩ := a
  obtain ⟨hp, hk⟩ := hp
  dsimp only at hk hC ⊢
  rcases k with _ | _ | k
  · refine e_run hC ?_
    conv => whnf
    refine ⟨(0, a), hp, rfl, rfl, ?_⟩
    conv => whnf
    dsimp only [C_D_file]
    refine e_run hC ?_
    conv => whnf
    refine ⟨vp_in_nI (n := 0) (by decide) (by decide), ?_⟩
    rw [h_o]
    refine e_run hC ?_
    conv => whnf
    refine e_run hC ?_
    conv => whnf
    exact ⟨Nat.le_refl _, rfl, Or.inl rfl⟩
  · refine e_run hC ?_
    conv => whnf
    refine ⟨(1, a), hp, rfl, rfl, ?_⟩
    conv => whnf
    exact ⟨Nat.le_refl _, rfl, Or.inr ⟨_, rfl, hx_L_file_1⟩⟩
  · omega
theorem m_L_file (l : Launch) (hl : l.stackTraces = false) : e_MetX l y_L_file 8 C_L_file :=
  e_metW hl S_L_file Hs_L_file k_L_file (by decide +kernel) rfl s_L_file o_L_file (x_codeW (e_in2 209 rfl rfl)) (fun a _ => ⟨Nat.le_of_ble_eq_true rfl, rfl⟩) (fun a hp => ⟨nI a.1, rfl, v_L_file a hp⟩)
def C_L_log : e_C := ⟨Nat × St × Int32 × Nat, 2, fun a => c01 a.1, fun a => C_D_log.2.2.2.1 a ∧ a.1 ≤ 1, fun a => [.ref 0, .int a.2.2.1], fun a => Hp a.2.1, fun a => .inl (some (.int (nI a.1))), fun a => Hp (dLG a.2.1 a.2.2.1 a.2.2.2).2⟩
def S_L_log : List (Nat × e_C) := [(2, C_D_log)]
theorem s_L_log : ∀ x ∈ S_L_log, e_Site b_L_log "DumpDeskLaw" 8 x.1 x.2 := List.forall_mem_cons.mpr ⟨e_siteVX (y := y_D_log) (i := 37) (ci := 0) m_D_log (by decide) (by decide) rfl (fun a _ => ⟨_, _, _, rfl, by decide, rfl⟩) rfl (e_in2 222 rfl rfl) (e_in2 223 rfl rfl) (e_in1 1 rfl rfl) (x_code (e_in2 225 rfl rfl)) (e_in2 224 rfl rfl) ⟨by decide, by decide, rfl⟩ (by decide +kernel), fun x hx => (by cases hx)⟩
def Hs_L_log : List (String × Nat × Nat × Nat × Nat) := [("java/lang/IllegalStateException", 0, 5, 8, 13)]
theorem hx_L_log_1 : x_Hs b_L_log 3 2 "java/lang/IllegalStateException" (nI 1) Hs_L_log := ⟨⟨by decide, by decide, by decide⟩, (e_in2 4 rfl rfl), Or.inl ⟨rfl, by decide +kernel, 2, 1, 1, Or.inr ⟨2, rfl, by decide +kernel, rfl⟩, by decide, rfl, by decide +kernel, by decide +kernel⟩⟩
theorem v_L_log (a : Nat × St × Int32 × Nat) (hp : C_D_log.2.2.2.1 a ∧ a.1 ≤ 1) (J : e_Jt) (hC : e_Cl (c01 a.1) (fun _ => none) (e_fd S_L_log) (fun _ => none) none k_L_log (fun b pc r h => b ≤ c01 a.1 ∧ h = Hp (dLG a.2.1 a.2.2.1 a.2.2.2).2 ∧ (r = .inl (some (.int (nI a.1))) ∨ ∃ E, r = .inr E ∧ x_Hs b_L_log 3 pc E (nI a.1) Hs_L_log)) J) : J 0 0 [(0, .ref 0), (1, .int a.2.2.1)] [] (Hp a.2.1) := by
  obtain ⟨k, a⟩ := a
  obtain ⟨hp, hk⟩ := hp
  dsimp only at hk hC ⊢
  rcases k with _ | _ | k
  · refine e_run hC ?_
    conv => whnf
    refine ⟨(0, a), hp, rfl, rfl, ?_⟩
    conv => whnf
    refine e_run hC ?_
    conv => whnf
    refine e_run hC ?_
    conv => whnf
    exact ⟨Nat.le_refl _, rfl, Or.inl rfl⟩
  · refine e_run hC ?_
    conv => whnf
    refine ⟨(1, a), hp, rfl, rfl, ?_⟩
    conv => whnf
    exact ⟨Nat.le_refl _, rfl, Or.inr ⟨_, rfl, hx_L_log_1⟩⟩
  · omega
theorem m_L_log (l : Launch) (hl : l.stackTraces = false) : e_MetX l y_L_log 8 C_L_log :=
  e_metW hl S_L_log Hs_L_log k_L_log (by decide +kernel) rfl s_L_log o_L_log (x_codeW (e_in2 221 rfl rfl)) (fun a _ => ⟨Nat.le_of_ble_eq_true rfl, rfl⟩) (fun a hp => ⟨nI a.1, rfl, v_L_log a hp⟩)
def C_L_poke : e_C := ⟨Nat × St × Int32 × Int32, 3, fun a => c01 a.1, fun a => C_D_poke.2.2.2.1 a ∧ a.1 ≤ 2, fun a => [.ref 0, .int a.2.2.1, .int a.2.2.2], fun a => Hp a.2.1, fun a => .inl (some (.int (nI a.1))), fun a => Hp (dPK a.2.1 a.2.2.1 a.2.2.2).2⟩
def S_L_poke : List (Nat × e_C) := [(3, C_D_poke)]
theorem s_L_poke : ∀ x ∈ S_L_poke, e_Site b_L_poke "DumpDeskLaw" 8 x.1 x.2 := List.forall_mem_cons.mpr ⟨e_siteVX (y := y_D_poke) (i := 40) (ci := 0) m_D_poke (by decide) (by decide) rfl (fun a _ => ⟨_, _, _, rfl, by decide, rfl⟩) rfl (e_in2 236 rfl rfl) (e_in2 237 rfl rfl) (e_in1 1 rfl rfl) (x_code (e_in2 239 rfl rfl)) (e_in2 238 rfl rfl) ⟨by decide, by decide, rfl⟩ (by decide +kernel), fun x hx => (by cases hx)⟩
def Hs_L_poke : List (String × Nat × Nat × Nat × Nat) := [("java/lang/IllegalArgumentException", 0, 6, 9, 24), ("java/lang/IllegalStateException", 0, 6, 12, 13)]
theorem hx_L_poke_1 : x_Hs b_L_poke 4 3 "java/lang/IllegalArgumentException" (nI 1) Hs_L_poke := ⟨⟨by decide, by decide, by decide⟩, (e_in2 151 rfl rfl), Or.inl ⟨rfl, by decide +kernel, 3, 1, 1, Or.inr ⟨3, rfl, by decide +kernel, rfl⟩, by decide, rfl, by decide +kernel, by decide +kernel⟩⟩
theorem hx_L_poke_2 : x_Hs b_L_poke 4 3 "java/lang/IllegalStateException" (nI 2) Hs_L_poke := ⟨⟨by decide, by decide, by decide⟩, (e_in2 151 rfl rfl), Or.inr ⟨by decide +kernel, ⟨⟨by decide, by decide, by decide⟩, (e_in2 4 rfl rfl), Or.inl ⟨rfl, by decide +kernel, 3, 1, 2, Or.inr ⟨3, rfl, by decide +kernel, rfl⟩, by decide, rfl, by decide +kernel, by decide +kernel⟩⟩⟩⟩
theorem v_L_poke (a : Nat × St × Int32 × Int32) (hp : C_D_poke.2.2.2.1 a ∧ a.1 ≤ 2) (J : e_Jt) (hC : e_Cl (c01 a.1) (fun _ => none) (e_fd S_L_poke) (fun _ => none) none k_L_poke (fun b pc r h => b ≤ c01 a.1 ∧ h = Hp (dPK a.2.1 a.2.2.1 a.2.2.2).2 ∧ (r = .inl (some (.int (nI a.1))) ∨ ∃ E, r = .inr E ∧ x_Hs b_L_poke 4 pc E (nI a.1) Hs_L_poke)) J) : J 0 0 [(0, .ref 0), (1, .int a.2.2.1), (2, .int a.2.2.2)] [] (Hp a.2.1) := by
  obtain ⟨k, a⟩ := a
  obtain ⟨hp, hk⟩ := hp
  dsimp only at hk hC ⊢
  rcases k with _ | _ | _ | k
  · refine e_run hC ?_
    conv => whnf
    refine ⟨(0, a), hp, rfl, rfl, ?_⟩
    conv => whnf
    refine e_run hC ?_
    conv => whnf
    refine e_run hC ?_
    conv => whnf
    exact ⟨Nat.le_refl _, rfl, Or.inl rfl⟩
  · refine e_run hC ?_
    conv => whnf
    refine ⟨(1, a), hp, rfl, rfl, ?_⟩
    conv => whnf
    exact ⟨Nat.le_refl _, rfl, Or.inr ⟨_, rfl, hx_L_poke_1⟩⟩
  · refine e_run hC ?_
    conv => whnf
    refine ⟨(2, a), hp, rfl, rfl, ?_⟩
    conv => whnf
    exact ⟨Nat.le_refl _, rfl, Or.inr ⟨_, rfl, hx_L_poke_2⟩⟩
  · omega
theorem m_L_poke (l : Launch) (hl : l.stackTraces = false) : e_MetX l y_L_poke 8 C_L_poke :=
  e_metW hl S_L_poke Hs_L_poke k_L_poke (by decide +kernel) rfl s_L_poke o_L_poke (x_codeW (e_in2 235 rfl rfl)) (fun a _ => ⟨Nat.le_of_ble_eq_true rfl, rfl⟩) (fun a hp => ⟨nI a.1, rfl, v_L_poke a hp⟩)
def C_L_memory : e_C := ⟨Nat × St × Int32, 3, fun a => c01 a.1, fun a => C_D_memory.2.2.2.1 a ∧ a.1 ≤ 1, fun a => [.ref 0, .int a.2.2, .ref 14], fun a => Hp a.2.1, fun a => .inl (some (.int (nI a.1))), fun a => Hp (oX a.1 a.2.1 (dME a.2.1 a.2.2).2)⟩
def S_L_memory : List (Nat × e_C) := [(4, C_D_memory)]
theorem s_L_memory : ∀ x ∈ S_L_memory, e_Site b_L_memory "DumpDeskLaw" 8 x.1 x.2 := List.forall_mem_cons.mpr ⟨e_siteVX (y := y_D_memory) (i := 43) (ci := 0) m_D_memory (by decide) (by decide) rfl (fun a _ => ⟨_, _, _, rfl, by decide, rfl⟩) rfl (e_in3 3 rfl rfl) (e_in3 4 rfl rfl) (e_in1 1 rfl rfl) (x_code (e_in3 6 rfl rfl)) (e_in3 5 rfl rfl) ⟨by decide, by decide, rfl⟩ (by decide +kernel), fun x hx => (by cases hx)⟩
def Hs_L_memory : List (String × Nat × Nat × Nat × Nat) := [("java/lang/IllegalArgumentException", 0, 9, 12, 24)]
theorem hx_L_memory_1 : x_Hs b_L_memory 4 4 "java/lang/IllegalArgumentException" (nI 1) Hs_L_memory := ⟨⟨by decide, by decide, by decide⟩, (e_in2 151 rfl rfl), Or.inl ⟨rfl, by decide +kernel, 3, 1, 1, Or.inr ⟨3, rfl, by decide +kernel, rfl⟩, by decide, rfl, by decide +kernel, by decide +kernel⟩⟩
theorem v_L_memory (a : Nat × St × Int32) (hp : C_D_memory.2.2.2.1 a ∧ a.1 ≤ 1) (J : e_Jt) (hC : e_Cl (c01 a.1) (fun _ => none) (e_fd S_L_memory) (fun _ => none) none k_L_memory (fun b pc r h => b ≤ c01 a.1 ∧ h = Hp (oX a.1 a.2.1 (dME a.2.1 a.2.2).2) ∧ (r = .inl (some (.int (nI a.1))) ∨ ∃ E, r = .inr E ∧ x_Hs b_L_memory 4 pc E (nI a.1) Hs_L_memory)) J) : J 0 0 [(0, .ref 0), (1, .int a.2.2), (2, .ref 14)] [] (Hp a.2.1) := by
  obtain ⟨k, a⟩ := a
  obtain ⟨hp, hk⟩ := hp
  dsimp only at hk hC ⊢
  rcases k with _ | _ | k
  · refine e_run hC ?_
    conv => whnf
    refine ⟨(0, a), hp, rfl, rfl, ?_⟩
    conv => whnf
    dsimp only [C_D_memory]
    refine e_run hC ?_
    conv => whnf
    refine ⟨vp_in_nI (n := 0) (by decide) (by decide), ?_⟩
    rw [h_o]
    refine e_run hC ?_
    conv => whnf
    refine e_run hC ?_
    conv => whnf
    exact ⟨Nat.le_refl _, rfl, Or.inl rfl⟩
  · refine e_run hC ?_
    conv => whnf
    refine ⟨(1, a), hp, rfl, rfl, ?_⟩
    conv => whnf
    exact ⟨Nat.le_refl _, rfl, Or.inr ⟨_, rfl, hx_L_memory_1⟩⟩
  · omega
theorem m_L_memory (l : Launch) (hl : l.stackTraces = false) : e_MetX l y_L_memory 8 C_L_memory :=
  e_metW hl S_L_memory Hs_L_memory k_L_memory (by decide +kernel) rfl s_L_memory o_L_memory (x_codeW (e_in3 2 rfl rfl)) (fun a _ => ⟨Nat.le_of_ble_eq_true rfl, rfl⟩) (fun a hp => ⟨nI a.1, rfl, v_L_memory a hp⟩)
def C_L_sector : e_C := ⟨Nat × St × Int32 × Bool, 3, fun a => c01 a.1, fun a => C_D_sector.2.2.2.1 a ∧ a.1 ≤ 1, fun a => [.ref 0, .int a.2.2.1, .int (bi a.2.2.2)], fun a => Hp a.2.1, fun a => .inl (some (.int (nI a.1))), fun a => Hp (dSE a.2.1 a.2.2.1 a.2.2.2).2⟩
def S_L_sector : List (Nat × e_C) := [(3, C_D_sector)]
theorem s_L_sector : ∀ x ∈ S_L_sector, e_Site b_L_sector "DumpDeskLaw" 8 x.1 x.2 := List.forall_mem_cons.mpr ⟨e_siteVX (y := y_D_sector) (i := 46) (ci := 0) m_D_sector (by decide) (by decide) rfl (fun a _ => ⟨_, _, _, rfl, by decide, rfl⟩) rfl (e_in3 10 rfl rfl) (e_in3 11 rfl rfl) (e_in1 1 rfl rfl) (x_code (e_in3 13 rfl rfl)) (e_in3 12 rfl rfl) ⟨by decide, by decide, rfl⟩ (by decide +kernel), fun x hx => (by cases hx)⟩
def Hs_L_sector : List (String × Nat × Nat × Nat × Nat) := [("java/lang/IllegalArgumentException", 0, 6, 9, 24)]
theorem hx_L_sector_1 : x_Hs b_L_sector 4 3 "java/lang/IllegalArgumentException" (nI 1) Hs_L_sector := ⟨⟨by decide, by decide, by decide⟩, (e_in2 151 rfl rfl), Or.inl ⟨rfl, by decide +kernel, 3, 1, 1, Or.inr ⟨3, rfl, by decide +kernel, rfl⟩, by decide, rfl, by decide +kernel, by decide +kernel⟩⟩
theorem v_L_sector (a : Nat × St × Int32 × Bool) (hp : C_D_sector.2.2.2.1 a ∧ a.1 ≤ 1) (J : e_Jt) (hC : e_Cl (c01 a.1) (fun _ => none) (e_fd S_L_sector) (fun _ => none) none k_L_sector (fun b pc r h => b ≤ c01 a.1 ∧ h = Hp (dSE a.2.1 a.2.2.1 a.2.2.2).2 ∧ (r = .inl (some (.int (nI a.1))) ∨ ∃ E, r = .inr E ∧ x_Hs b_L_sector 4 pc E (nI a.1) Hs_L_sector)) J) : J 0 0 [(0, .ref 0), (1, .int a.2.2.1), (2, .int (bi a.2.2.2))] [] (Hp a.2.1) := by
  obtain ⟨k, a⟩ := a
  obtain ⟨hp, hk⟩ := hp
  dsimp only at hk hC ⊢
  rcases k with _ | _ | k
  · refine e_run hC ?_
    conv => whnf
    refine ⟨(0, a), hp, rfl, rfl, ?_⟩
    conv => whnf
    refine e_run hC ?_
    conv => whnf
    refine e_run hC ?_
    conv => whnf
    exact ⟨Nat.le_refl _, rfl, Or.inl rfl⟩
  · refine e_run hC ?_
    conv => whnf
    refine ⟨(1, a), hp, rfl, rfl, ?_⟩
    conv => whnf
    exact ⟨Nat.le_refl _, rfl, Or.inr ⟨_, rfl, hx_L_sector_1⟩⟩
  · omega
theorem m_L_sector (l : Launch) (hl : l.stackTraces = false) : e_MetX l y_L_sector 8 C_L_sector :=
  e_metW hl S_L_sector Hs_L_sector k_L_sector (by decide +kernel) rfl s_L_sector o_L_sector (x_codeW (e_in3 9 rfl rfl)) (fun a _ => ⟨Nat.le_of_ble_eq_true rfl, rfl⟩) (fun a hp => ⟨nI a.1, rfl, v_L_sector a hp⟩)
def C_L_dump : e_C := ⟨Nat × St × Int32, 3, fun a => c01 a.1, fun a => C_D_dump.2.2.2.1 a ∧ a.1 ≤ 2, fun a => [.ref 0, .int a.2.2, .ref 14], fun a => Hp a.2.1, fun a => .inl (some (.int (nI a.1))), fun a => Hp (oX a.1 (dDU a.2.1 a.2.2).2.2 (dDU a.2.1 a.2.2).2.1)⟩
def S_L_dump : List (Nat × e_C) := [(4, C_D_dump)]
theorem s_L_dump : ∀ x ∈ S_L_dump, e_Site b_L_dump "DumpDeskLaw" 8 x.1 x.2 := List.forall_mem_cons.mpr ⟨e_siteVX (y := y_D_dump) (i := 50) (ci := 0) m_D_dump (by decide) (by decide) rfl (fun a _ => ⟨_, _, _, rfl, by decide, rfl⟩) rfl (e_in3 17 rfl rfl) (e_in3 18 rfl rfl) (e_in1 1 rfl rfl) (x_code (e_in3 20 rfl rfl)) (e_in3 19 rfl rfl) ⟨by decide, by decide, rfl⟩ (by decide +kernel), fun x hx => (by cases hx)⟩
def Hs_L_dump : List (String × Nat × Nat × Nat × Nat) := [("java/lang/IllegalArgumentException", 0, 9, 12, 24), ("java/lang/IllegalStateException", 0, 9, 15, 13)]
theorem hx_L_dump_1 : x_Hs b_L_dump 4 4 "java/lang/IllegalArgumentException" (nI 1) Hs_L_dump := ⟨⟨by decide, by decide, by decide⟩, (e_in2 151 rfl rfl), Or.inl ⟨rfl, by decide +kernel, 3, 1, 1, Or.inr ⟨3, rfl, by decide +kernel, rfl⟩, by decide, rfl, by decide +kernel, by decide +kernel⟩⟩
theorem hx_L_dump_2 : x_Hs b_L_dump 4 4 "java/lang/IllegalStateException" (nI 2) Hs_L_dump := ⟨⟨by decide, by decide, by decide⟩, (e_in2 151 rfl rfl), Or.inr ⟨by decide +kernel, ⟨⟨by decide, by decide, by decide⟩, (e_in2 4 rfl rfl), Or.inl ⟨rfl, by decide +kernel, 3, 1, 2, Or.inr ⟨3, rfl, by decide +kernel, rfl⟩, by decide, rfl, by decide +kernel, by decide +kernel⟩⟩⟩⟩
theorem v_L_dump (a : Nat × St × Int32) (hp : C_D_dump.2.2.2.1 a ∧ a.1 ≤ 2) (J : e_Jt) (hC : e_Cl (c01 a.1) (fun _ => none) (e_fd S_L_dump) (fun _ => none) none k_L_dump (fun b pc r h => b ≤ c01 a.1 ∧ h = Hp (oX a.1 (dDU a.2.1 a.2.2).2.2 (dDU a.2.1 a.2.2).2.1) ∧ (r = .inl (some (.int (nI a.1))) ∨ ∃ E, r = .inr E ∧ x_Hs b_L_dump 4 pc E (nI a.1) Hs_L_dump)) J) : J 0 0 [(0, .ref 0), (1, .int a.2.2), (2, .ref 14)] [] (Hp a.2.1) := by
  obtain ⟨k, a⟩ := a
  obtain ⟨hp, hk⟩ := hp
  dsimp only at hk hC ⊢
  rcases k with _ | _ | _ | k
  · refine e_run hC ?_
    conv => whnf
    refine ⟨(0, a), hp, rfl, rfl, ?_⟩
    conv => whnf
    dsimp only [C_D_dump]
    refine e_run hC ?_
    conv => whnf
    refine ⟨vp_in_nI (n := 0) (by decide) (by decide), ?_⟩
    rw [h_o]
    refine e_run hC ?_
    conv => whnf
    refine e_run hC ?_
    conv => whnf
    exact ⟨Nat.le_refl _, rfl, Or.inl rfl⟩
  · refine e_run hC ?_
    conv => whnf
    refine ⟨(1, a), hp, rfl, rfl, ?_⟩
    conv => whnf
    exact ⟨Nat.le_refl _, rfl, Or.inr ⟨_, rfl, hx_L_dump_1⟩⟩
  · refine e_run hC ?_
    conv => whnf
    refine ⟨(2, a), hp, rfl, rfl, ?_⟩
    conv => whnf
    exact ⟨Nat.le_refl _, rfl, Or.inr ⟨_, rfl, hx_L_dump_2⟩⟩
  · omega
theorem m_L_dump (l : Launch) (hl : l.stackTraces = false) : e_MetX l y_L_dump 8 C_L_dump :=
  e_metW hl S_L_dump Hs_L_dump k_L_dump (by decide +kernel) rfl s_L_dump o_L_dump (x_codeW (e_in3 16 rfl rfl)) (fun a _ => ⟨Nat.le_of_ble_eq_true rfl, rfl⟩) (fun a hp => ⟨nI a.1, rfl, v_L_dump a hp⟩)
def C_L_area : e_C := ⟨Nat × St × Int32 × Int32, 4, fun a => c01 a.1, fun a => C_D_area.2.2.2.1 a ∧ a.1 ≤ 1, fun a => [.ref 0, .int a.2.2.1, .int a.2.2.2, .ref 14], fun a => Hp a.2.1, fun a => .inl (some (.int (nI a.1))), fun a => Hp (oX a.1 a.2.1 (dAR a.2.1 a.2.2.1 a.2.2.2).2)⟩
def S_L_area : List (Nat × e_C) := [(5, C_D_area)]
theorem s_L_area : ∀ x ∈ S_L_area, e_Site b_L_area "DumpDeskLaw" 8 x.1 x.2 := List.forall_mem_cons.mpr ⟨e_siteVX (y := y_D_area) (i := 53) (ci := 0) m_D_area (by decide) (by decide) rfl (fun a _ => ⟨_, _, _, rfl, by decide, rfl⟩) rfl (e_in3 67 rfl rfl) (e_in3 68 rfl rfl) (e_in1 1 rfl rfl) (x_code (e_in3 70 rfl rfl)) (e_in3 69 rfl rfl) ⟨by decide, by decide, rfl⟩ (by decide +kernel), fun x hx => (by cases hx)⟩
def Hs_L_area : List (String × Nat × Nat × Nat × Nat) := [("java/lang/IllegalArgumentException", 0, 10, 13, 24)]
theorem hx_L_area_1 : x_Hs b_L_area 5 5 "java/lang/IllegalArgumentException" (nI 1) Hs_L_area := ⟨⟨by decide, by decide, by decide⟩, (e_in2 151 rfl rfl), Or.inl ⟨rfl, by decide +kernel, 4, 2, 1, Or.inl ⟨by decide +kernel, rfl⟩, by decide, rfl, by decide +kernel, by decide +kernel⟩⟩
theorem v_L_area (a : Nat × St × Int32 × Int32) (hp : C_D_area.2.2.2.1 a ∧ a.1 ≤ 1) (J : e_Jt) (hC : e_Cl (c01 a.1) (fun _ => none) (e_fd S_L_area) (fun _ => none) none k_L_area (fun b pc r h => b ≤ c01 a.1 ∧ h = Hp (oX a.1 a.2.1 (dAR a.2.1 a.2.2.1 a.2.2.2).2) ∧ (r = .inl (some (.int (nI a.1))) ∨ ∃ E, r = .inr E ∧ x_Hs b_L_area 5 pc E (nI a.1) Hs_L_area)) J) : J 0 0 [(0, .ref 0), (1, .int a.2.2.1), (2, .int a.2.2.2), (3, .ref 14)] [] (Hp a.2.1) := by
  obtain ⟨k, a⟩ := a
  obtain ⟨hp, hk⟩ := hp
  dsimp only at hk hC ⊢
  rcases k with _ | _ | k
  · refine e_run hC ?_
    conv => whnf
    refine ⟨(0, a), hp, rfl, rfl, ?_⟩
    conv => whnf
    dsimp only [C_D_area]
    refine e_run hC ?_
    conv => whnf
    refine ⟨vp_in_nI (n := 0) (by decide) (by decide), ?_⟩
    rw [h_o]
    refine e_run hC ?_
    conv => whnf
    refine e_run hC ?_
    conv => whnf
    exact ⟨Nat.le_refl _, rfl, Or.inl rfl⟩
  · refine e_run hC ?_
    conv => whnf
    refine ⟨(1, a), hp, rfl, rfl, ?_⟩
    conv => whnf
    exact ⟨Nat.le_refl _, rfl, Or.inr ⟨_, rfl, hx_L_area_1⟩⟩
  · omega
theorem m_L_area (l : Launch) (hl : l.stackTraces = false) : e_MetX l y_L_area 8 C_L_area :=
  e_metW hl S_L_area Hs_L_area k_L_area (by decide +kernel) rfl s_L_area o_L_area (x_codeW (e_in3 66 rfl rfl)) (fun a _ => ⟨Nat.le_of_ble_eq_true rfl, rfl⟩) (fun a hp => ⟨nI a.1, rfl, v_L_area a hp⟩)
def C_L_word : e_C := ⟨Nat × St × Int32, 3, fun a => c01 a.1, fun a => C_D_word.2.2.2.1 a ∧ a.1 ≤ 2, fun a => [.ref 0, .int a.2.2, .ref 14], fun a => Hp a.2.1, fun a => .inl (some (.int (nI a.1))), fun a => Hp (oX a.1 a.2.1 (dWD a.2.1 a.2.2).2)⟩
def S_L_word : List (Nat × e_C) := [(4, C_D_word)]
theorem s_L_word : ∀ x ∈ S_L_word, e_Site b_L_word "DumpDeskLaw" 8 x.1 x.2 := List.forall_mem_cons.mpr ⟨e_siteVX (y := y_D_word) (i := 57) (ci := 0) m_D_word (by decide) (by decide) rfl (fun a _ => ⟨_, _, _, rfl, by decide, rfl⟩) rfl (e_in3 74 rfl rfl) (e_in3 75 rfl rfl) (e_in1 1 rfl rfl) (x_code (e_in3 77 rfl rfl)) (e_in3 76 rfl rfl) ⟨by decide, by decide, rfl⟩ (by decide +kernel), fun x hx => (by cases hx)⟩
def Hs_L_word : List (String × Nat × Nat × Nat × Nat) := [("java/util/NoSuchElementException", 0, 9, 12, 18), ("java/lang/IllegalArgumentException", 0, 9, 15, 24)]
theorem hx_L_word_1 : x_Hs b_L_word 4 4 "java/util/NoSuchElementException" (nI 1) Hs_L_word := ⟨⟨by decide, by decide, by decide⟩, (e_in2 111 rfl rfl), Or.inl ⟨rfl, by decide +kernel, 3, 1, 1, Or.inr ⟨3, rfl, by decide +kernel, rfl⟩, by decide, rfl, by decide +kernel, by decide +kernel⟩⟩
theorem hx_L_word_2 : x_Hs b_L_word 4 4 "java/lang/IllegalArgumentException" (nI 2) Hs_L_word := ⟨⟨by decide, by decide, by decide⟩, (e_in2 111 rfl rfl), Or.inr ⟨by decide +kernel, ⟨⟨by decide, by decide, by decide⟩, (e_in2 151 rfl rfl), Or.inl ⟨rfl, by decide +kernel, 3, 1, 2, Or.inr ⟨3, rfl, by decide +kernel, rfl⟩, by decide, rfl, by decide +kernel, by decide +kernel⟩⟩⟩⟩
theorem v_L_word (a : Nat × St × Int32) (hp : C_D_word.2.2.2.1 a ∧ a.1 ≤ 2) (J : e_Jt) (hC : e_Cl (c01 a.1) (fun _ => none) (e_fd S_L_word) (fun _ => none) none k_L_word (fun b pc r h => b ≤ c01 a.1 ∧ h = Hp (oX a.1 a.2.1 (dWD a.2.1 a.2.2).2) ∧ (r = .inl (some (.int (nI a.1))) ∨ ∃ E, r = .inr E ∧ x_Hs b_L_word 4 pc E (nI a.1) Hs_L_word)) J) : J 0 0 [(0, .ref 0), (1, .int a.2.2), (2, .ref 14)] [] (Hp a.2.1) := by
  obtain ⟨k, a⟩ := a
  obtain ⟨hp, hk⟩ := hp
  dsimp only at hk hC ⊢
  rcases k with _ | _ | _ | k
  · refine e_run hC ?_
    conv => whnf
    refine ⟨(0, a), hp, rfl, rfl, ?_⟩
    conv => whnf
    dsimp only [C_D_word]
    refine e_run hC ?_
    conv => whnf
    refine ⟨vp_in_nI (n := 0) (by decide) (by decide), ?_⟩
    rw [h_o]
    refine e_run hC ?_
    conv => whnf
    refine e_run hC ?_
    conv => whnf
    exact ⟨Nat.le_refl _, rfl, Or.inl rfl⟩
  · refine e_run hC ?_
    conv => whnf
    refine ⟨(1, a), hp, rfl, rfl, ?_⟩
    conv => whnf
    exact ⟨Nat.le_refl _, rfl, Or.inr ⟨_, rfl, hx_L_word_1⟩⟩
  · refine e_run hC ?_
    conv => whnf
    refine ⟨(2, a), hp, rfl, rfl, ?_⟩
    conv => whnf
    exact ⟨Nat.le_refl _, rfl, Or.inr ⟨_, rfl, hx_L_word_2⟩⟩
  · omega
theorem m_L_word (l : Launch) (hl : l.stackTraces = false) : e_MetX l y_L_word 8 C_L_word :=
  e_metW hl S_L_word Hs_L_word k_L_word (by decide +kernel) rfl s_L_word o_L_word (x_codeW (e_in3 73 rfl rfl)) (fun a _ => ⟨Nat.le_of_ble_eq_true rfl, rfl⟩) (fun a hp => ⟨nI a.1, rfl, v_L_word a hp⟩)
def C_L_walk : e_C := ⟨Nat × St × Int32, 3, fun a => c01 a.1, fun a => C_D_walk.2.2.2.1 a ∧ a.1 ≤ 2, fun a => [.ref 0, .int a.2.2, .ref 14], fun a => Hp a.2.1, fun a => .inl (some (.int (nI a.1))), fun a => Hp (oX a.1 (dWA a.2.1 a.2.2).2.2 (dWA a.2.1 a.2.2).2.1)⟩
def S_L_walk : List (Nat × e_C) := [(4, C_D_walk)]
theorem s_L_walk : ∀ x ∈ S_L_walk, e_Site b_L_walk "DumpDeskLaw" 8 x.1 x.2 := List.forall_mem_cons.mpr ⟨e_siteVX (y := y_D_walk) (i := 60) (ci := 0) m_D_walk (by decide) (by decide) rfl (fun a _ => ⟨_, _, _, rfl, by decide, rfl⟩) rfl (e_in3 81 rfl rfl) (e_in3 82 rfl rfl) (e_in1 1 rfl rfl) (x_code (e_in3 84 rfl rfl)) (e_in3 83 rfl rfl) ⟨by decide, by decide, rfl⟩ (by decide +kernel), fun x hx => (by cases hx)⟩
def Hs_L_walk : List (String × Nat × Nat × Nat × Nat) := [("java/lang/IllegalArgumentException", 0, 9, 12, 24), ("java/lang/IllegalStateException", 0, 9, 15, 13)]
theorem hx_L_walk_1 : x_Hs b_L_walk 4 4 "java/lang/IllegalArgumentException" (nI 1) Hs_L_walk := ⟨⟨by decide, by decide, by decide⟩, (e_in2 151 rfl rfl), Or.inl ⟨rfl, by decide +kernel, 3, 1, 1, Or.inr ⟨3, rfl, by decide +kernel, rfl⟩, by decide, rfl, by decide +kernel, by decide +kernel⟩⟩
theorem hx_L_walk_2 : x_Hs b_L_walk 4 4 "java/lang/IllegalStateException" (nI 2) Hs_L_walk := ⟨⟨by decide, by decide, by decide⟩, (e_in2 151 rfl rfl), Or.inr ⟨by decide +kernel, ⟨⟨by decide, by decide, by decide⟩, (e_in2 4 rfl rfl), Or.inl ⟨rfl, by decide +kernel, 3, 1, 2, Or.inr ⟨3, rfl, by decide +kernel, rfl⟩, by decide, rfl, by decide +kernel, by decide +kernel⟩⟩⟩⟩
theorem v_L_walk (a : Nat × St × Int32) (hp : C_D_walk.2.2.2.1 a ∧ a.1 ≤ 2) (J : e_Jt) (hC : e_Cl (c01 a.1) (fun _ => none) (e_fd S_L_walk) (fun _ => none) none k_L_walk (fun b pc r h => b ≤ c01 a.1 ∧ h = Hp (oX a.1 (dWA a.2.1 a.2.2).2.2 (dWA a.2.1 a.2.2).2.1) ∧ (r = .inl (some (.int (nI a.1))) ∨ ∃ E, r = .inr E ∧ x_Hs b_L_walk 4 pc E (nI a.1) Hs_L_walk)) J) : J 0 0 [(0, .ref 0), (1, .int a.2.2), (2, .ref 14)] [] (Hp a.2.1) := by
  obtain ⟨k, a⟩ := a
  obtain ⟨hp, hk⟩ := hp
  dsimp only at hk hC ⊢
  rcases k with _ | _ | _ | k
  · refine e_run hC ?_
    conv => whnf
    refine ⟨(0, a), hp, rfl, rfl, ?_⟩
    conv => whnf
    dsimp only [C_D_walk]
    refine e_run hC ?_
    conv => whnf
    refine ⟨vp_in_nI (n := 0) (by decide) (by decide), ?_⟩
    rw [h_o]
    refine e_run hC ?_
    conv => whnf
    refine e_run hC ?_
    conv => whnf
    exact ⟨Nat.le_refl _, rfl, Or.inl rfl⟩
  · refine e_run hC ?_
    conv => whnf
    refine ⟨(1, a), hp, rfl, rfl, ?_⟩
    conv => whnf
    exact ⟨Nat.le_refl _, rfl, Or.inr ⟨_, rfl, hx_L_walk_1⟩⟩
  · refine e_run hC ?_
    conv => whnf
    refine ⟨(2, a), hp, rfl, rfl, ?_⟩
    conv => whnf
    exact ⟨Nat.le_refl _, rfl, Or.inr ⟨_, rfl, hx_L_walk_2⟩⟩
  · omega
theorem m_L_walk (l : Launch) (hl : l.stackTraces = false) : e_MetX l y_L_walk 8 C_L_walk :=
  e_metW hl S_L_walk Hs_L_walk k_L_walk (by decide +kernel) rfl s_L_walk o_L_walk (x_codeW (e_in3 80 rfl rfl)) (fun a _ => ⟨Nat.le_of_ble_eq_true rfl, rfl⟩) (fun a hp => ⟨nI a.1, rfl, v_L_walk a hp⟩)
def C_L_broken : e_C := ⟨Nat × St × Int32, 3, fun a => c01 a.1, fun a => C_D_broken.2.2.2.1 a ∧ a.1 ≤ 2, fun a => [.ref 0, .int a.2.2, .ref 14], fun a => Hp a.2.1, fun a => .inl (some (.int (nI a.1))), fun a => Hp (oX a.1 a.2.1 (dBR a.2.1 a.2.2).2)⟩
def S_L_broken : List (Nat × e_C) := [(4, C_D_broken)]
theorem s_L_broken : ∀ x ∈ S_L_broken, e_Site b_L_broken "DumpDeskLaw" 8 x.1 x.2 := List.forall_mem_cons.mpr ⟨e_siteVX (y := y_D_broken) (i := 63) (ci := 0) m_D_broken (by decide) (by decide) rfl (fun a _ => ⟨_, _, _, rfl, by decide, rfl⟩) rfl (e_in3 104 rfl rfl) (e_in3 105 rfl rfl) (e_in1 1 rfl rfl) (x_code (e_in3 107 rfl rfl)) (e_in3 106 rfl rfl) ⟨by decide, by decide, rfl⟩ (by decide +kernel), fun x hx => (by cases hx)⟩
def Hs_L_broken : List (String × Nat × Nat × Nat × Nat) := [("java/lang/IllegalArgumentException", 0, 9, 12, 24), ("java/lang/IllegalStateException", 0, 9, 15, 13)]
theorem hx_L_broken_1 : x_Hs b_L_broken 4 4 "java/lang/IllegalArgumentException" (nI 1) Hs_L_broken := ⟨⟨by decide, by decide, by decide⟩, (e_in2 151 rfl rfl), Or.inl ⟨rfl, by decide +kernel, 3, 1, 1, Or.inr ⟨3, rfl, by decide +kernel, rfl⟩, by decide, rfl, by decide +kernel, by decide +kernel⟩⟩
theorem hx_L_broken_2 : x_Hs b_L_broken 4 4 "java/lang/IllegalStateException" (nI 2) Hs_L_broken := ⟨⟨by decide, by decide, by decide⟩, (e_in2 151 rfl rfl), Or.inr ⟨by decide +kernel, ⟨⟨by decide, by decide, by decide⟩, (e_in2 4 rfl rfl), Or.inl ⟨rfl, by decide +kernel, 3, 1, 2, Or.inr ⟨3, rfl, by decide +kernel, rfl⟩, by decide, rfl, by decide +kernel, by decide +kernel⟩⟩⟩⟩
theorem v_L_broken (a : Nat × St × Int32) (hp : C_D_broken.2.2.2.1 a ∧ a.1 ≤ 2) (J : e_Jt) (hC : e_Cl (c01 a.1) (fun _ => none) (e_fd S_L_broken) (fun _ => none) none k_L_broken (fun b pc r h => b ≤ c01 a.1 ∧ h = Hp (oX a.1 a.2.1 (dBR a.2.1 a.2.2).2) ∧ (r = .inl (some (.int (nI a.1))) ∨ ∃ E, r = .inr E ∧ x_Hs b_L_broken 4 pc E (nI a.1) Hs_L_broken)) J) : J 0 0 [(0, .ref 0), (1, .int a.2.2), (2, .ref 14)] [] (Hp a.2.1) := by
  obtain ⟨k, a⟩ := a
  obtain ⟨hp, hk⟩ := hp
  dsimp only at hk hC ⊢
  rcases k with _ | _ | _ | k
  · refine e_run hC ?_
    conv => whnf
    refine ⟨(0, a), hp, rfl, rfl, ?_⟩
    conv => whnf
    dsimp only [C_D_broken]
    refine e_run hC ?_
    conv => whnf
    refine ⟨vp_in_nI (n := 0) (by decide) (by decide), ?_⟩
    rw [h_o]
    refine e_run hC ?_
    conv => whnf
    refine e_run hC ?_
    conv => whnf
    exact ⟨Nat.le_refl _, rfl, Or.inl rfl⟩
  · refine e_run hC ?_
    conv => whnf
    refine ⟨(1, a), hp, rfl, rfl, ?_⟩
    conv => whnf
    exact ⟨Nat.le_refl _, rfl, Or.inr ⟨_, rfl, hx_L_broken_1⟩⟩
  · refine e_run hC ?_
    conv => whnf
    refine ⟨(2, a), hp, rfl, rfl, ?_⟩
    conv => whnf
    exact ⟨Nat.le_refl _, rfl, Or.inr ⟨_, rfl, hx_L_broken_2⟩⟩
  · omega
theorem m_L_broken (l : Launch) (hl : l.stackTraces = false) : e_MetX l y_L_broken 8 C_L_broken :=
  e_metW hl S_L_broken Hs_L_broken k_L_broken (by decide +kernel) rfl s_L_broken o_L_broken (x_codeW (e_in3 103 rfl rfl)) (fun a _ => ⟨Nat.le_of_ble_eq_true rfl, rfl⟩) (fun a hp => ⟨nI a.1, rfl, v_L_broken a hp⟩)
def C_L_node : e_C := ⟨Nat × St × Int32 × Int32 × Nat, 4, fun a => c01 a.1, fun a => C_D_node.2.2.2.1 a ∧ a.1 ≤ 3, fun a => [.ref 0, .int a.2.2.1, .int a.2.2.2.1, .ref 14], fun a => Hp a.2.1, fun a => .inl (some (.int (nI a.1))), fun a => Hp (oX a.1 a.2.1 (dND a.2.1 a.2.2.1 a.2.2.2.1 a.2.2.2.2).2)⟩
def S_L_node : List (Nat × e_C) := [(5, C_D_node)]
theorem s_L_node : ∀ x ∈ S_L_node, e_Site b_L_node "DumpDeskLaw" 8 x.1 x.2 := List.forall_mem_cons.mpr ⟨e_siteVX (y := y_D_node) (i := 66) (ci := 0) m_D_node (by decide) (by decide) rfl (fun a _ => ⟨_, _, _, rfl, by decide, rfl⟩) rfl (e_in3 111 rfl rfl) (e_in3 112 rfl rfl) (e_in1 1 rfl rfl) (x_code (e_in3 114 rfl rfl)) (e_in3 113 rfl rfl) ⟨by decide, by decide, rfl⟩ (by decide +kernel), fun x hx => (by cases hx)⟩
def Hs_L_node : List (String × Nat × Nat × Nat × Nat) := [("java/lang/IllegalArgumentException", 0, 10, 13, 24), ("java/lang/IllegalStateException", 0, 10, 17, 13), ("java/util/NoSuchElementException", 0, 10, 21, 18)]
theorem hx_L_node_1 : x_Hs b_L_node 5 5 "java/lang/IllegalArgumentException" (nI 1) Hs_L_node := ⟨⟨by decide, by decide, by decide⟩, (e_in2 151 rfl rfl), Or.inl ⟨rfl, by decide +kernel, 4, 2, 1, Or.inl ⟨by decide +kernel, rfl⟩, by decide, rfl, by decide +kernel, by decide +kernel⟩⟩
theorem hx_L_node_2 : x_Hs b_L_node 5 5 "java/lang/IllegalStateException" (nI 2) Hs_L_node := ⟨⟨by decide, by decide, by decide⟩, (e_in2 151 rfl rfl), Or.inr ⟨by decide +kernel, ⟨⟨by decide, by decide, by decide⟩, (e_in2 4 rfl rfl), Or.inl ⟨rfl, by decide +kernel, 4, 2, 2, Or.inl ⟨by decide +kernel, rfl⟩, by decide, rfl, by decide +kernel, by decide +kernel⟩⟩⟩⟩
theorem hx_L_node_3 : x_Hs b_L_node 5 5 "java/util/NoSuchElementException" (nI 3) Hs_L_node := ⟨⟨by decide, by decide, by decide⟩, (e_in2 151 rfl rfl), Or.inr ⟨by decide +kernel, ⟨⟨by decide, by decide, by decide⟩, (e_in2 4 rfl rfl), Or.inr ⟨by decide +kernel, ⟨⟨by decide, by decide, by decide⟩, (e_in2 111 rfl rfl), Or.inl ⟨rfl, by decide +kernel, 4, 2, 3, Or.inl ⟨by decide +kernel, rfl⟩, by decide, rfl, by decide +kernel, by decide +kernel⟩⟩⟩⟩⟩⟩
theorem v_L_node (a : Nat × St × Int32 × Int32 × Nat) (hp : C_D_node.2.2.2.1 a ∧ a.1 ≤ 3) (J : e_Jt) (hC : e_Cl (c01 a.1) (fun _ => none) (e_fd S_L_node) (fun _ => none) none k_L_node (fun b pc r h => b ≤ c01 a.1 ∧ h = Hp (oX a.1 a.2.1 (dND a.2.1 a.2.2.1 a.2.2.2.1 a.2.2.2.2).2) ∧ (r = .inl (some (.int (nI a.1))) ∨ ∃ E, r = .inr E ∧ x_Hs b_L_node 5 pc E (nI a.1) Hs_L_node)) J) : J 0 0 [(0, .ref 0), (1, .int a.2.2.1), (2, .int a.2.2.2.1), (3, .ref 14)] [] (Hp a.2.1) := by
  obtain ⟨k, a⟩ := a
  obtain ⟨hp, hk⟩ := hp
  dsimp only at hk hC ⊢
  rcases k with _ | _ | _ | _ | k
  · refine e_run hC ?_
    conv => whnf
    refine ⟨(0, a), hp, rfl, rfl, ?_⟩
    conv => whnf
    dsimp only [C_D_node]
    refine e_run hC ?_
    conv => whnf
    refine ⟨vp_in_nI (n := 0) (by decide) (by decide), ?_⟩
    rw [h_o]
    refine e_run hC ?_
    conv => whnf
    refine e_run hC ?_
    conv => whnf
    exact ⟨Nat.le_refl _, rfl, Or.inl rfl⟩
  · refine e_run hC ?_
    conv => whnf
    refine ⟨(1, a), hp, rfl, rfl, ?_⟩
    conv => whnf
    exact ⟨Nat.le_refl _, rfl, Or.inr ⟨_, rfl, hx_L_node_1⟩⟩
  · refine e_run hC ?_
    conv => whnf
    refine ⟨(2, a), hp, rfl, rfl, ?_⟩
    conv => whnf
    exact ⟨Nat.le_refl _, rfl, Or.inr ⟨_, rfl, hx_L_node_2⟩⟩
  · refine e_run hC ?_
    conv => whnf
    refine ⟨(3, a), hp, rfl, rfl, ?_⟩
    conv => whnf
    exact ⟨Nat.le_refl _, rfl, Or.inr ⟨_, rfl, hx_L_node_3⟩⟩
  · omega
theorem m_L_node (l : Launch) (hl : l.stackTraces = false) : e_MetX l y_L_node 8 C_L_node :=
  e_metW hl S_L_node Hs_L_node k_L_node (by decide +kernel) rfl s_L_node o_L_node (x_codeW (e_in3 110 rfl rfl)) (fun a _ => ⟨Nat.le_of_ble_eq_true rfl, rfl⟩) (fun a hp => ⟨nI a.1, rfl, v_L_node a hp⟩)
