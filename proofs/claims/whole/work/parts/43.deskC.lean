/-! DumpDesk: taskEnd, waitOn, wake, timer, file, log -/
def nAt (u : St) (i : Int32) : Bool := decide (tkA (u.2.1 0) i = 0)
def dTE (u : St) (i : Int32) : Nat × Int32 × St := cond (rnc u) (cond (nAt u i) (1, 0, u) (0, u.2.1 0 (na (tkA (u.2.1 0) i) + 3), uA u 0 (remN (fRQ (tkA (u.2.1 0) i) 4 2 (u.2.1 0)) (fslot (fRQ (tkA (u.2.1 0) i) 4 2 (u.2.1 0)) (steps56 i) 0)))) (2, 0, u)
def C_D_taskEnd : e_C := ⟨Nat × St × Int32, 2, fun a => c01 a.1, fun a => (dTE a.2.1 a.2.2).1 = a.1, fun a => [.ref 0, .int a.2.2], fun a => Hp a.2.1, fun a => rX2 sN sS (some (.int (dTE a.2.1 a.2.2).2.1)) a.1, fun a => Hp (dTE a.2.1 a.2.2).2.2⟩
def S_D_taskEnd : List (Nat × e_C) := [(1, C_D_refuseUnlessRunning), (9, C_K_taskAt), (28, C_K_endTask)]
theorem s_D_taskEnd : ∀ x ∈ S_D_taskEnd, e_Site b_D_taskEnd "DumpDesk" 7 x.1 x.2 := List.forall_mem_cons.mpr ⟨e_siteVX (y := y_D_refuseUnlessRunning) (i := 48) (ci := 0) m_D_refuseUnlessRunning (by decide) (by decide) rfl (fun a _ => ⟨_, _, _, rfl, by decide, rfl⟩) rfl (e_in2 9 rfl rfl) (e_in2 11 rfl rfl) (e_in1 1 rfl rfl) (x_code (e_in2 12 rfl rfl)) (e_inP 0 rfl rfl) ⟨by decide, by decide, rfl⟩ (by decide +kernel), List.forall_mem_cons.mpr ⟨e_siteV (y := y_K_taskAt) (i := 59) (ci := 1) m_K_taskAt (by decide) (by decide) (fun _ => rfl) rfl (fun a _ => ⟨_, _, _, rfl, by decide, rfl⟩) rfl (e_in2 116 rfl rfl) (e_in2 117 rfl rfl) (e_in1 2 rfl rfl) (e_in2 119 rfl rfl) (e_in2 118 rfl rfl) ⟨by decide, by decide, rfl⟩ (by decide +kernel), List.forall_mem_cons.mpr ⟨e_siteV (y := y_K_endTask) (i := 66) (ci := 1) m_K_endTask (by decide) (by decide) (fun _ => rfl) rfl (fun a _ => ⟨_, _, _, rfl, by decide, rfl⟩) rfl (e_in2 135 rfl rfl) (e_in2 136 rfl rfl) (e_in1 2 rfl rfl) (e_in2 138 rfl rfl) (e_in2 137 rfl rfl) ⟨by decide, by decide, rfl⟩ (by decide +kernel), fun x hx => (by cases hx)⟩⟩⟩
def Th_D_taskEnd : List (Nat × String) := [(15, "java/util/NoSuchElementException")]
theorem th_D_taskEnd : ∀ x ∈ Th_D_taskEnd, e_Thr b_D_taskEnd x.1 x.2 := List.forall_mem_cons.mpr ⟨⟨63, 65, by decide +kernel, (e_in2 120 rfl rfl), (e_in1 13 rfl rfl), x_own_N, by decide +kernel, by decide +kernel, by decide +kernel, by decide +kernel⟩, fun x hx => (by cases hx)⟩
theorem v_D_taskEnd (k : Nat) (u : St) (i : Int32) (hp : (dTE u i).1 = k) (J : e_Jt) (hC : e_PX (c01 k) F_D S_D_taskEnd Th_D_taskEnd k_D_taskEnd (rX2 sN sS (some (.int (dTE u i).2.1)) k) (Hp (dTE u i).2.2) J) : J 0 0 [(0, .ref 0), (1, .int i)] [] (Hp u) := by
  unfold dTE at hp hC
  cases h1 : rnc u with
  | false =>
    rw [h1] at hp hC
    dsimp only [cond_false] at hp hC
    subst hp
    refine e_run hC ?_
    conv => whnf
    refine ⟨(false, u), h1, rfl, rfl, ?_⟩
    conv => whnf
    exact ⟨Nat.le_refl _, rfl, rfl⟩
  | true =>
    rw [h1] at hp hC
    dsimp only [cond_true] at hp hC
    refine e_run hC ?_
    conv => whnf
    refine ⟨(true, u), h1, rfl, rfl, ?_⟩
    conv => whnf
    refine e_run hC ?_
    conv => whnf
    refine ⟨(u, i), trivial, rfl, rfl, ?_⟩
    conv => whnf
    dsimp only [C_K_taskAt]
    refine e_run hC ?_
    conv => whnf
    cases h2 : nAt u i with
    | true =>
      rw [h2] at hp hC
      dsimp only [cond_true] at hp hC
      subst hp
      refine ⟨fun h3 => absurd (of_decide_eq_true h2) h3, fun _ => ?_⟩
      refine e_run hC ?_
      conv => whnf
      exact ⟨Nat.le_refl _, rfl, rfl⟩
    | false =>
      rw [h2] at hp hC
      dsimp only [cond_false] at hp hC
      subst hp
      refine ⟨fun _ => ?_, fun h3 => absurd h3 (of_decide_eq_false h2)⟩
      refine e_run hC ?_
      conv => whnf
      refine ⟨(u, i), trivial, rfl, rfl, ?_⟩
      conv => whnf
      dsimp only [C_K_endTask]
      refine e_run hC ?_
      conv => whnf
      exact ⟨Nat.le_refl _, rfl, rfl⟩
theorem m_D_taskEnd (l : Launch) (hl : l.stackTraces = false) : e_MetX l y_D_taskEnd 7 C_D_taskEnd :=
  e_metX hl F_D C_D S_D_taskEnd Th_D_taskEnd k_D_taskEnd (by decide +kernel) rfl (by decide) f_D c_D s_D_taskEnd th_D_taskEnd o_D_taskEnd (x_code (e_in2 115 rfl rfl)) (fun a _ => ⟨Nat.le_of_ble_eq_true rfl, rfl⟩) (fun a hp => ⟨(fun v hv => by rw [rX2_ok hv]; exact Or.inr ⟨.int, _, rfl, rfl, rfl⟩), v_D_taskEnd a.1 a.2.1 a.2.2 hp⟩)
def dWO (u : St) (i q : Int32) : Nat × St := cond (rnc u) (cond (bel q 4) (cond (nAt u i) (2, u) (cond (full u) (3, u) (0, uA u 0 (insN (tkP (u.2.1 0)).2 (fslot (tkP (u.2.1 0)).2 56 (2 + na q)) (tkP (u.2.1 0)).1 7003 (tkA (u.2.1 0) i) 0)))) (1, u)) (3, u)
def C_D_waitOn : e_C := ⟨Nat × St × Int32 × Int32, 3, fun a => c01 a.1, fun a => (dWO a.2.1 a.2.2.1 a.2.2.2).1 = a.1, fun a => [.ref 0, .int a.2.2.1, .int a.2.2.2], fun a => Hp a.2.1, fun a => rX3 sA sN sS none a.1, fun a => Hp (dWO a.2.1 a.2.2.1 a.2.2.2).2⟩
def S_D_waitOn : List (Nat × e_C) := [(1, C_D_refuseUnlessRunning), (6, C_D_requireBelow), (14, C_K_taskAt), (35, C_D_takePlaceUnlessFull), (40, C_K_addWaiter)]
theorem s_D_waitOn : ∀ x ∈ S_D_waitOn, e_Site b_D_waitOn "DumpDesk" 7 x.1 x.2 := List.forall_mem_cons.mpr ⟨e_siteVX (y := y_D_refuseUnlessRunning) (i := 48) (ci := 0) m_D_refuseUnlessRunning (by decide) (by decide) rfl (fun a _ => ⟨_, _, _, rfl, by decide, rfl⟩) rfl (e_in2 9 rfl rfl) (e_in2 11 rfl rfl) (e_in1 1 rfl rfl) (x_code (e_in2 12 rfl rfl)) (e_inP 0 rfl rfl) ⟨by decide, by decide, rfl⟩ (by decide +kernel), List.forall_mem_cons.mpr ⟨e_siteSX (y := y_D_requireBelow) (i := 69) m_D_requireBelow (by decide) (by decide) (e_in2 156 rfl rfl) (e_in2 157 rfl rfl) (e_in1 1 rfl rfl) (x_code (e_in2 158 rfl rfl)) ⟨by decide, by decide, rfl⟩ (by decide +kernel), List.forall_mem_cons.mpr ⟨e_siteV (y := y_K_taskAt) (i := 59) (ci := 1) m_K_taskAt (by decide) (by decide) (fun _ => rfl) rfl (fun a _ => ⟨_, _, _, rfl, by decide, rfl⟩) rfl (e_in2 116 rfl rfl) (e_in2 117 rfl rfl) (e_in1 2 rfl rfl) (e_in2 119 rfl rfl) (e_in2 118 rfl rfl) ⟨by decide, by decide, rfl⟩ (by decide +kernel), List.forall_mem_cons.mpr ⟨e_siteVX (y := y_D_takePlaceUnlessFull) (i := 51) (ci := 0) m_D_takePlaceUnlessFull (by decide) (by decide) rfl (fun a _ => ⟨_, _, _, rfl, by decide, rfl⟩) rfl (e_in2 76 rfl rfl) (e_in2 78 rfl rfl) (e_in1 1 rfl rfl) (x_code (e_in2 79 rfl rfl)) (e_inP 2 rfl rfl) ⟨by decide, by decide, rfl⟩ (by decide +kernel), List.forall_mem_cons.mpr ⟨e_siteV (y := y_K_addWaiter) (i := 73) (ci := 1) m_K_addWaiter (by decide) (by decide) (fun _ => rfl) rfl (fun a _ => ⟨_, _, _, rfl, by decide, rfl⟩) rfl (e_in2 177 rfl rfl) (e_in2 178 rfl rfl) (e_in1 2 rfl rfl) (e_in2 180 rfl rfl) (e_in2 179 rfl rfl) ⟨by decide, by decide, rfl⟩ (by decide +kernel), fun x hx => (by cases hx)⟩⟩⟩⟩⟩
def Th_D_waitOn : List (Nat × String) := [(22, "java/util/NoSuchElementException")]
theorem th_D_waitOn : ∀ x ∈ Th_D_waitOn, e_Thr b_D_waitOn x.1 x.2 := List.forall_mem_cons.mpr ⟨⟨63, 65, by decide +kernel, (e_in2 120 rfl rfl), (e_in1 13 rfl rfl), x_own_N, by decide +kernel, by decide +kernel, by decide +kernel, by decide +kernel⟩, fun x hx => (by cases hx)⟩
theorem v_D_waitOn (k : Nat) (u : St) (i q : Int32) (hp : (dWO u i q).1 = k) (J : e_Jt) (hC : e_PX (c01 k) F_D S_D_waitOn Th_D_waitOn k_D_waitOn (rX3 sA sN sS none k) (Hp (dWO u i q).2) J) : J 0 0 [(0, .ref 0), (1, .int i), (2, .int q)] [] (Hp u) := by
  unfold dWO at hp hC
  cases h1 : rnc u with
  | false =>
    rw [h1] at hp hC
    dsimp only [cond_false] at hp hC
    subst hp
    refine e_run hC ?_
    conv => whnf
    refine ⟨(false, u), h1, rfl, rfl, ?_⟩
    conv => whnf
    exact ⟨Nat.le_refl _, rfl, rfl⟩
  | true =>
    rw [h1] at hp hC
    dsimp only [cond_true] at hp hC
    refine e_run hC ?_
    conv => whnf
    refine ⟨(true, u), h1, rfl, rfl, ?_⟩
    conv => whnf
    refine e_run hC ?_
    conv => whnf
    cases h2 : bel q 4 with
    | false =>
      rw [h2] at hp hC
      dsimp only [cond_false] at hp hC
      subst hp
      refine ⟨(false, Hp u, q, 4), h2, rfl, rfl, ?_⟩
      conv => whnf
      exact ⟨Nat.le_refl _, rfl, rfl⟩
    | true =>
      rw [h2] at hp hC
      dsimp only [cond_true] at hp hC
      refine ⟨(true, Hp u, q, 4), h2, rfl, rfl, ?_⟩
      conv => whnf
      obtain ⟨b1, b2⟩ := bel_ix (n := 4) (by decide) h2
      refine e_run hC ?_
      conv => whnf
      refine ⟨(u, i), trivial, rfl, rfl, ?_⟩
      conv => whnf
      dsimp only [C_K_taskAt]
      refine e_run hC ?_
      conv => whnf
      cases h3 : nAt u i with
      | true =>
        rw [h3] at hp hC
        dsimp only [cond_true] at hp hC
        subst hp
        refine ⟨fun h4 => absurd (of_decide_eq_true h3) h4, fun _ => ?_⟩
        refine e_run hC ?_
        conv => whnf
        exact ⟨Nat.le_refl _, rfl, rfl⟩
      | false =>
        rw [h3] at hp hC
        dsimp only [cond_false] at hp hC
        refine ⟨fun _ => ?_, fun h4 => absurd h4 (of_decide_eq_false h3)⟩
        refine e_run hC ?_
        conv => whnf
        cases h4 : full u with
        | true =>
          rw [h4] at hp hC
          dsimp only [cond_true] at hp hC
          subst hp
          refine ⟨(true, u), h4, rfl, rfl, ?_⟩
          conv => whnf
          exact ⟨Nat.le_refl _, rfl, rfl⟩
        | false =>
          rw [h4] at hp hC
          dsimp only [cond_false] at hp hC
          subst hp
          refine ⟨(false, u), h4, rfl, rfl, ?_⟩
          conv => whnf
          refine e_run hC ?_
          conv => whnf
          refine ⟨(uA u 0 (tkP (u.2.1 0)).2, (tkP (u.2.1 0)).1, tkA (u.2.1 0) i, na q), ⟨tkP_lt _, b2⟩, by dsimp only [C_K_addWaiter]; rw [← b1], rfl, ?_⟩
          conv => whnf
          dsimp only [C_K_addWaiter]
          refine e_run hC ?_
          conv => whnf
          refine ⟨Nat.le_refl _, rfl, ?_⟩
          rw [uA_uA]
          rfl
theorem m_D_waitOn (l : Launch) (hl : l.stackTraces = false) : e_MetX l y_D_waitOn 7 C_D_waitOn :=
  e_metX hl F_D C_D S_D_waitOn Th_D_waitOn k_D_waitOn (by decide +kernel) rfl (by decide) f_D c_D s_D_waitOn th_D_waitOn o_D_waitOn (x_code (e_in2 155 rfl rfl)) (fun a _ => ⟨Nat.le_of_ble_eq_true rfl, rfl⟩) (fun a hp => ⟨(fun v hv => by rw [rX3_ok hv]; exact Or.inl ⟨rfl, rfl⟩), v_D_waitOn a.1 a.2.1 a.2.2.1 a.2.2.2 hp⟩)
def dWK (u : St) (q : Int32) : Nat × Int32 × St := cond (rnc u) (cond (bel q 4) (cond (pl (u.2.1 0 (2 + na q))) (0, wkA (u.2.1 0) (na q), uA u 0 (remN (u.2.1 0) (2 + na q))) (2, 0, u)) (1, 0, u)) (3, 0, u)
def C_D_wake : e_C := ⟨Nat × St × Int32, 2, fun a => c01 a.1, fun a => (dWK a.2.1 a.2.2).1 = a.1, fun a => [.ref 0, .int a.2.2], fun a => Hp a.2.1, fun a => rX3 sA sN sS (some (.int (dWK a.2.1 a.2.2).2.1)) a.1, fun a => Hp (dWK a.2.1 a.2.2).2.2⟩
def S_D_wake : List (Nat × e_C) := [(1, C_D_refuseUnlessRunning), (6, C_D_requireBelow), (14, C_K_hasWaiter), (33, C_K_wakeFirst)]
theorem s_D_wake : ∀ x ∈ S_D_wake, e_Site b_D_wake "DumpDesk" 7 x.1 x.2 := List.forall_mem_cons.mpr ⟨e_siteVX (y := y_D_refuseUnlessRunning) (i := 48) (ci := 0) m_D_refuseUnlessRunning (by decide) (by decide) rfl (fun a _ => ⟨_, _, _, rfl, by decide, rfl⟩) rfl (e_in2 9 rfl rfl) (e_in2 11 rfl rfl) (e_in1 1 rfl rfl) (x_code (e_in2 12 rfl rfl)) (e_inP 0 rfl rfl) ⟨by decide, by decide, rfl⟩ (by decide +kernel), List.forall_mem_cons.mpr ⟨e_siteSX (y := y_D_requireBelow) (i := 69) m_D_requireBelow (by decide) (by decide) (e_in2 156 rfl rfl) (e_in2 157 rfl rfl) (e_in1 1 rfl rfl) (x_code (e_in2 158 rfl rfl)) ⟨by decide, by decide, rfl⟩ (by decide +kernel), List.forall_mem_cons.mpr ⟨e_siteV (y := y_K_hasWaiter) (i := 77) (ci := 1) m_K_hasWaiter (by decide) (by decide) (fun _ => rfl) rfl (fun a _ => ⟨_, _, _, rfl, by decide, rfl⟩) rfl (e_in2 188 rfl rfl) (e_in2 189 rfl rfl) (e_in1 2 rfl rfl) (e_in2 191 rfl rfl) (e_in2 190 rfl rfl) ⟨by decide, by decide, rfl⟩ (by decide +kernel), List.forall_mem_cons.mpr ⟨e_siteV (y := y_K_wakeFirst) (i := 81) (ci := 1) m_K_wakeFirst (by decide) (by decide) (fun _ => rfl) rfl (fun a _ => ⟨_, _, _, rfl, by decide, rfl⟩) rfl (e_in2 192 rfl rfl) (e_in2 193 rfl rfl) (e_in1 2 rfl rfl) (e_in2 195 rfl rfl) (e_in2 194 rfl rfl) ⟨by decide, by decide, rfl⟩ (by decide +kernel), fun x hx => (by cases hx)⟩⟩⟩⟩
def Th_D_wake : List (Nat × String) := [(20, "java/util/NoSuchElementException")]
theorem th_D_wake : ∀ x ∈ Th_D_wake, e_Thr b_D_wake x.1 x.2 := List.forall_mem_cons.mpr ⟨⟨63, 65, by decide +kernel, (e_in2 120 rfl rfl), (e_in1 13 rfl rfl), x_own_N, by decide +kernel, by decide +kernel, by decide +kernel, by decide +kernel⟩, fun x hx => (by cases hx)⟩
theorem v_D_wake (k : Nat) (u : St) (q : Int32) (hp : (dWK u q).1 = k) (J : e_Jt) (hC : e_PX (c01 k) F_D S_D_wake Th_D_wake k_D_wake (rX3 sA sN sS (some (.int (dWK u q).2.1)) k) (Hp (dWK u q).2.2) J) : J 0 0 [(0, .ref 0), (1, .int q)] [] (Hp u) := by
  unfold dWK at hp hC
  cases h1 : rnc u with
  | false =>
    rw [h1] at hp hC
    dsimp only [cond_false] at hp hC
    subst hp
    refine e_run hC ?_
    conv => whnf
    refine ⟨(false, u), h1, rfl, rfl, ?_⟩
    conv => whnf
    exact ⟨Nat.le_refl _, rfl, rfl⟩
  | true =>
    rw [h1] at hp hC
    dsimp only [cond_true] at hp hC
    refine e_run hC ?_
    conv => whnf
    refine ⟨(true, u), h1, rfl, rfl, ?_⟩
    conv => whnf
    refine e_run hC ?_
    conv => whnf
    cases h2 : bel q 4 with
    | false =>
      rw [h2] at hp hC
      dsimp only [cond_false] at hp hC
      subst hp
      refine ⟨(false, Hp u, q, 4), h2, rfl, rfl, ?_⟩
      conv => whnf
      exact ⟨Nat.le_refl _, rfl, rfl⟩
    | true =>
      rw [h2] at hp hC
      dsimp only [cond_true] at hp hC
      refine ⟨(true, Hp u, q, 4), h2, rfl, rfl, ?_⟩
      conv => whnf
      obtain ⟨b1, b2⟩ := bel_ix (n := 4) (by decide) h2
      refine e_run hC ?_
      conv => whnf
      refine ⟨(u, na q), b2, by dsimp only [C_K_hasWaiter]; rw [← b1], rfl, ?_⟩
      conv => whnf
      dsimp only [C_K_hasWaiter]
      refine e_run hC ?_
      conv => whnf
      cases h3 : pl (u.2.1 0 (2 + na q)) with
      | false =>
        rw [h3] at hp hC
        dsimp only [cond_false] at hp hC
        subst hp
        refine ⟨fun h4 => absurd rfl h4, fun _ => ?_⟩
        refine e_run hC ?_
        conv => whnf
        exact ⟨Nat.le_refl _, rfl, rfl⟩
      | true =>
        rw [h3] at hp hC
        dsimp only [cond_true] at hp hC
        subst hp
        refine ⟨fun _ => ?_, fun h4 => absurd h4 (by decide)⟩
        refine e_run hC ?_
        conv => whnf
        refine ⟨(u, na q), ⟨b2, h3⟩, by dsimp only [C_K_wakeFirst]; rw [← b1], rfl, ?_⟩
        conv => whnf
        dsimp only [C_K_wakeFirst]
        refine e_run hC ?_
        conv => whnf
        exact ⟨Nat.le_refl _, rfl, rfl⟩
theorem m_D_wake (l : Launch) (hl : l.stackTraces = false) : e_MetX l y_D_wake 7 C_D_wake :=
  e_metX hl F_D C_D S_D_wake Th_D_wake k_D_wake (by decide +kernel) rfl (by decide) f_D c_D s_D_wake th_D_wake o_D_wake (x_code (e_in2 187 rfl rfl)) (fun a _ => ⟨Nat.le_of_ble_eq_true rfl, rfl⟩) (fun a hp => ⟨(fun v hv => by rw [rX3_ok hv]; exact Or.inr ⟨.int, _, rfl, rfl, rfl⟩), v_D_wake a.1 a.2.1 a.2.2 hp⟩)
def dTM (u : St) (d : Int32) : Nat × St := cond (rnc u) (cond (full u) (1, u) (0, uA u 0 (insN (tkP (u.2.1 0)).2 (fTm (tkP (u.2.1 0)).2 d 56 1) (tkP (u.2.1 0)).1 7002 d 0))) (1, u)
def C_D_timer : e_C := ⟨Nat × St × Int32, 2, fun a => c01 a.1, fun a => (dTM a.2.1 a.2.2).1 = a.1, fun a => [.ref 0, .int a.2.2], fun a => Hp a.2.1, fun a => rX1 sS none a.1, fun a => Hp (dTM a.2.1 a.2.2).2⟩
def S_D_timer : List (Nat × e_C) := [(1, C_D_refuseUnlessRunning), (9, C_D_takePlaceUnlessFull), (13, C_K_addTimer)]
theorem s_D_timer : ∀ x ∈ S_D_timer, e_Site b_D_timer "DumpDesk" 7 x.1 x.2 := List.forall_mem_cons.mpr ⟨e_siteVX (y := y_D_refuseUnlessRunning) (i := 48) (ci := 0) m_D_refuseUnlessRunning (by decide) (by decide) rfl (fun a _ => ⟨_, _, _, rfl, by decide, rfl⟩) rfl (e_in2 9 rfl rfl) (e_in2 11 rfl rfl) (e_in1 1 rfl rfl) (x_code (e_in2 12 rfl rfl)) (e_inP 0 rfl rfl) ⟨by decide, by decide, rfl⟩ (by decide +kernel), List.forall_mem_cons.mpr ⟨e_siteVX (y := y_D_takePlaceUnlessFull) (i := 51) (ci := 0) m_D_takePlaceUnlessFull (by decide) (by decide) rfl (fun a _ => ⟨_, _, _, rfl, by decide, rfl⟩) rfl (e_in2 76 rfl rfl) (e_in2 78 rfl rfl) (e_in1 1 rfl rfl) (x_code (e_in2 79 rfl rfl)) (e_inP 2 rfl rfl) ⟨by decide, by decide, rfl⟩ (by decide +kernel), List.forall_mem_cons.mpr ⟨e_siteV (y := y_K_addTimer) (i := 84) (ci := 1) m_K_addTimer (by decide) (by decide) (fun _ => rfl) rfl (fun a _ => ⟨_, _, _, rfl, by decide, rfl⟩) rfl (e_in2 203 rfl rfl) (e_in2 204 rfl rfl) (e_in1 2 rfl rfl) (e_in2 206 rfl rfl) (e_in2 205 rfl rfl) ⟨by decide, by decide, rfl⟩ (by decide +kernel), fun x hx => (by cases hx)⟩⟩⟩
def Th_D_timer : List (Nat × String) := []
theorem th_D_timer : ∀ x ∈ Th_D_timer, e_Thr b_D_timer x.1 x.2 := fun x hx => (by cases hx)
theorem v_D_timer (k : Nat) (u : St) (d : Int32) (hp : (dTM u d).1 = k) (J : e_Jt) (hC : e_PX (c01 k) F_D S_D_timer Th_D_timer k_D_timer (rX1 sS none k) (Hp (dTM u d).2) J) : J 0 0 [(0, .ref 0), (1, .int d)] [] (Hp u) := by
  unfold dTM at hp hC
  cases h1 : rnc u with
  | false =>
    rw [h1] at hp hC
    dsimp only [cond_false] at hp hC
    subst hp
    refine e_run hC ?_
    conv => whnf
    refine ⟨(false, u), h1, rfl, rfl, ?_⟩
    conv => whnf
    exact ⟨Nat.le_refl _, rfl, rfl⟩
  | true =>
    rw [h1] at hp hC
    dsimp only [cond_true] at hp hC
    refine e_run hC ?_
    conv => whnf
    refine ⟨(true, u), h1, rfl, rfl, ?_⟩
    conv => whnf
    refine e_run hC ?_
    conv => whnf
    cases h4 : full u with
    | true =>
      rw [h4] at hp hC
      dsimp only [cond_true] at hp hC
      subst hp
      refine ⟨(true, u), h4, rfl, rfl, ?_⟩
      conv => whnf
      exact ⟨Nat.le_refl _, rfl, rfl⟩
    | false =>
      rw [h4] at hp hC
      dsimp only [cond_false] at hp hC
      subst hp
      refine ⟨(false, u), h4, rfl, rfl, ?_⟩
      conv => whnf
      refine e_run hC ?_
      conv => whnf
      refine ⟨(uA u 0 (tkP (u.2.1 0)).2, (tkP (u.2.1 0)).1, d), tkP_lt _, rfl, rfl, ?_⟩
      conv => whnf
      dsimp only [C_K_addTimer]
      refine e_run hC ?_
      conv => whnf
      refine ⟨Nat.le_refl _, rfl, ?_⟩
      rw [uA_uA]
      rfl
theorem m_D_timer (l : Launch) (hl : l.stackTraces = false) : e_MetX l y_D_timer 7 C_D_timer :=
  e_metX hl F_D C_D S_D_timer Th_D_timer k_D_timer (by decide +kernel) rfl (by decide) f_D c_D s_D_timer th_D_timer o_D_timer (x_code (e_in2 202 rfl rfl)) (fun a _ => ⟨Nat.le_of_ble_eq_true rfl, rfl⟩) (fun a hp => ⟨(fun v hv => by rw [rX1_ok hv]; exact Or.inl ⟨rfl, rfl⟩), v_D_timer a.1 a.2.1 a.2.2 hp⟩)
def noF (u : St) : Bool := decide (lowF (u.2.1 0) = 0)
def dFI (u : St) (b : Bool) (x : Int32) : Nat × Int32 × St := cond (rnc u) (cond (noF u) (1, 0, u) (0, nI (lowF (u.2.1 0)), uA u 0 (fsd (stF (u.2.1 0) (lowF (u.2.1 0)) (cond b 3 2)) (16 * lowF (u.2.1 0)) 16 x))) (1, 0, u)
def C_D_file : e_C := ⟨Nat × St × Bool × Int32, 3, fun a => c01 a.1, fun a => (dFI a.2.1 a.2.2.1 a.2.2.2).1 = a.1, fun a => [.ref 0, .int (bi a.2.2.1), .int a.2.2.2], fun a => Hp a.2.1, fun a => rX1 sS (some (.int (dFI a.2.1 a.2.2.1 a.2.2.2).2.1)) a.1, fun a => Hp (dFI a.2.1 a.2.2.1 a.2.2.2).2.2⟩
def S_D_file : List (Nat × e_C) := [(1, C_D_refuseUnlessRunning), (8, C_K_lowestFreePage), (31, C_K_fillFilePage)]
theorem s_D_file : ∀ x ∈ S_D_file, e_Site b_D_file "DumpDesk" 7 x.1 x.2 := List.forall_mem_cons.mpr ⟨e_siteVX (y := y_D_refuseUnlessRunning) (i := 48) (ci := 0) m_D_refuseUnlessRunning (by decide) (by decide) rfl (fun a _ => ⟨_, _, _, rfl, by decide, rfl⟩) rfl (e_in2 9 rfl rfl) (e_in2 11 rfl rfl) (e_in1 1 rfl rfl) (x_code (e_in2 12 rfl rfl)) (e_inP 0 rfl rfl) ⟨by decide, by decide, rfl⟩ (by decide +kernel), List.forall_mem_cons.mpr ⟨e_siteV (y := y_K_lowestFreePage) (i := 87) (ci := 1) m_K_lowestFreePage (by decide) (by decide) (fun _ => rfl) rfl (fun a _ => ⟨_, _, _, rfl, by decide, rfl⟩) rfl (e_in2 214 rfl rfl) (e_in2 89 rfl rfl) (e_in1 2 rfl rfl) (e_in2 91 rfl rfl) (e_in2 90 rfl rfl) ⟨by decide, by decide, rfl⟩ (by decide +kernel), List.forall_mem_cons.mpr ⟨e_siteV (y := y_K_fillFilePage) (i := 93) (ci := 1) m_K_fillFilePage (by decide) (by decide) (fun _ => rfl) rfl (fun a _ => ⟨_, _, _, rfl, by decide, rfl⟩) rfl (e_in2 215 rfl rfl) (e_in2 216 rfl rfl) (e_in1 2 rfl rfl) (e_in2 218 rfl rfl) (e_in2 217 rfl rfl) ⟨by decide, by decide, rfl⟩ (by decide +kernel), fun x hx => (by cases hx)⟩⟩⟩
def Th_D_file : List (Nat × String) := [(16, "java/lang/IllegalStateException")]
theorem th_D_file : ∀ x ∈ Th_D_file, e_Thr b_D_file x.1 x.2 := List.forall_mem_cons.mpr ⟨⟨90, 92, by decide +kernel, (e_in2 13 rfl rfl), (e_in1 12 rfl rfl), x_own_S, by decide +kernel, by decide +kernel, by decide +kernel, by decide +kernel⟩, fun x hx => (by cases hx)⟩
theorem v_D_file (k : Nat) (u : St) (b : Bool) (x : Int32) (hp : (dFI u b x).1 = k) (J : e_Jt) (hC : e_PX (c01 k) F_D S_D_file Th_D_file k_D_file (rX1 sS (some (.int (dFI u b x).2.1)) k) (Hp (dFI u b x).2.2) J) : J 0 0 [(0, .ref 0), (1, .int (bi b)), (2, .int x)] [] (Hp u) := by
  unfold dFI at hp hC
  cases h1 : rnc u with
  | false =>
    rw [h1] at hp hC
    dsimp only [cond_false] at hp hC
    subst hp
    refine e_run hC ?_
    conv => whnf
    refine ⟨(false, u), h1, rfl, rfl, ?_⟩
    conv => whnf
    exact ⟨Nat.le_refl _, rfl, rfl⟩
  | true =>
    rw [h1] at hp hC
    dsimp only [cond_true] at hp hC
    refine e_run hC ?_
    conv => whnf
    refine ⟨(true, u), h1, rfl, rfl, ?_⟩
    conv => whnf
    refine e_run hC ?_
    conv => whnf
    refine ⟨u, trivial, rfl, rfl, ?_⟩
    conv => whnf
    dsimp only [C_K_lowestFreePage]
    refine e_run hC ?_
    conv => whnf
    have hz : nI (lowF (u.2.1 0)) = 0 ↔ lowF (u.2.1 0) = 0 := ⟨fun h => by
      have h9 := congrArg na h
      have h8 : na (nI (lowF (u.2.1 0))) = lowF (u.2.1 0) := nI_clamp (by have := lowF_lt (u.2.1 0); omega)
      rw [h8] at h9
      exact h9, fun h => by rw [h]; rfl⟩
    cases h2 : noF u with
    | true =>
      rw [h2] at hp hC
      dsimp only [cond_true] at hp hC
      subst hp
      refine ⟨fun h3 => absurd (hz.mpr (of_decide_eq_true h2)) h3, fun _ => ?_⟩
      refine e_run hC ?_
      conv => whnf
      exact ⟨Nat.le_refl _, rfl, rfl⟩
    | false =>
      rw [h2] at hp hC
      dsimp only [cond_false] at hp hC
      subst hp
      refine ⟨fun _ => ?_, fun h3 => absurd (hz.mp h3) (of_decide_eq_false h2)⟩
      refine e_run hC ?_
      conv => whnf
      refine ⟨(u, lowF (u.2.1 0), b, x), (by have := lowF_lt (u.2.1 0); omega : lowF (u.2.1 0) < 16), rfl, rfl, ?_⟩
      conv => whnf
      dsimp only [C_K_fillFilePage]
      refine e_run hC ?_
      conv => whnf
      exact ⟨Nat.le_refl _, rfl, rfl⟩
theorem m_D_file (l : Launch) (hl : l.stackTraces = false) : e_MetX l y_D_file 7 C_D_file :=
  e_metX hl F_D C_D S_D_file Th_D_file k_D_file (by decide +kernel) rfl (by decide) f_D c_D s_D_file th_D_file o_D_file (x_code (e_in2 213 rfl rfl)) (fun a _ => ⟨Nat.le_of_ble_eq_true rfl, rfl⟩) (fun a hp => ⟨(fun v hv => by rw [rX1_ok hv]; exact Or.inr ⟨.int, _, rfl, rfl, rfl⟩), v_D_file a.1 a.2.1 a.2.2.1 a.2.2.2 hp⟩)
def dLG (u : St) (x : Int32) (n : Nat) : Nat × St := cond (rnc u) (0, uA u 0 (upd (upd (u.2.1 0) (240 + n % 16) x) 6 (nI (n + 1)))) (1, u)
def C_D_log : e_C := ⟨Nat × St × Int32 × Nat, 2, fun a => c01 a.1, fun a => (dLG a.2.1 a.2.2.1 a.2.2.2).1 = a.1 ∧ (rnc a.2.1 = true → a.2.2.2 < 1024 ∧ a.2.1.2.1 0 6 = nI a.2.2.2), fun a => [.ref 0, .int a.2.2.1], fun a => Hp a.2.1, fun a => rX1 sS none a.1, fun a => Hp (dLG a.2.1 a.2.2.1 a.2.2.2).2⟩
def S_D_log : List (Nat × e_C) := [(1, C_D_refuseUnlessRunning), (9, C_K_logWord)]
theorem s_D_log : ∀ x ∈ S_D_log, e_Site b_D_log "DumpDesk" 7 x.1 x.2 := List.forall_mem_cons.mpr ⟨e_siteVX (y := y_D_refuseUnlessRunning) (i := 48) (ci := 0) m_D_refuseUnlessRunning (by decide) (by decide) rfl (fun a _ => ⟨_, _, _, rfl, by decide, rfl⟩) rfl (e_in2 9 rfl rfl) (e_in2 11 rfl rfl) (e_in1 1 rfl rfl) (x_code (e_in2 12 rfl rfl)) (e_inP 0 rfl rfl) ⟨by decide, by decide, rfl⟩ (by decide +kernel), List.forall_mem_cons.mpr ⟨e_siteV (y := y_K_logWord) (i := 97) (ci := 1) m_K_logWord (by decide) (by decide) (fun _ => rfl) rfl (fun a _ => ⟨_, _, _, rfl, by decide, rfl⟩) rfl (e_in2 226 rfl rfl) (e_in2 227 rfl rfl) (e_in1 2 rfl rfl) (e_in2 229 rfl rfl) (e_in2 228 rfl rfl) ⟨by decide, by decide, rfl⟩ (by decide +kernel), fun x hx => (by cases hx)⟩⟩
def Th_D_log : List (Nat × String) := []
theorem th_D_log : ∀ x ∈ Th_D_log, e_Thr b_D_log x.1 x.2 := fun x hx => (by cases hx)
theorem v_D_log (k : Nat) (u : St) (x : Int32) (n : Nat) (hp9 : (dLG u x n).1 = k ∧ (rnc u = true → n < 1024 ∧ u.2.1 0 6 = nI n)) (J : e_Jt) (hC : e_PX (c01 k) F_D S_D_log Th_D_log k_D_log (rX1 sS none k) (Hp (dLG u x n).2) J) : J 0 0 [(0, .ref 0), (1, .int x)] [] (Hp u) := by
  obtain ⟨hp, hn⟩ := hp9
  unfold dLG at hp hC
  cases h1 : rnc u with
  | false =>
    rw [h1] at hp hC
    dsimp only [cond_false] at hp hC
    subst hp
    refine e_run hC ?_
    conv => whnf
    refine ⟨(false, u), h1, rfl, rfl, ?_⟩
    conv => whnf
    exact ⟨Nat.le_refl _, rfl, rfl⟩
  | true =>
    rw [h1] at hp hC
    dsimp only [cond_true] at hp hC
    subst hp
    refine e_run hC ?_
    conv => whnf
    refine ⟨(true, u), h1, rfl, rfl, ?_⟩
    conv => whnf
    refine e_run hC ?_
    conv => whnf
    refine ⟨(u, n, x), hn h1, rfl, rfl, ?_⟩
    conv => whnf
    dsimp only [C_K_logWord]
    refine e_run hC ?_
    conv => whnf
    exact ⟨Nat.le_refl _, rfl, rfl⟩
theorem m_D_log (l : Launch) (hl : l.stackTraces = false) : e_MetX l y_D_log 7 C_D_log :=
  e_metX hl F_D C_D S_D_log Th_D_log k_D_log (by decide +kernel) rfl (by decide) f_D c_D s_D_log th_D_log o_D_log (x_code (e_in2 225 rfl rfl)) (fun a _ => ⟨Nat.le_of_ble_eq_true rfl, rfl⟩) (fun a hp => ⟨(fun v hv => by rw [rX1_ok hv]; exact Or.inl ⟨rfl, rfl⟩), v_D_log a.1 a.2.1 a.2.2.1 a.2.2.2 hp⟩)
