/-! DumpDesk: poke, memory, halt, sector, dump, area, attach, word, walk, broken, node -/
def dPK (u : St) (a x : Int32) : Nat × St := cond (bel a 256) (cond (decide (u.1 0 = 0)) (0, uS (uA u 0 (upd (u.2.1 0) (na a) x)) 1 1) (2, u)) (1, u)
def C_D_poke : e_C := ⟨Nat × St × Int32 × Int32, 3, fun a => c01 a.1, fun a => (dPK a.2.1 a.2.2.1 a.2.2.2).1 = a.1, fun a => [.ref 0, .int a.2.2.1, .int a.2.2.2], fun a => Hp a.2.1, fun a => rX2 sA sS none a.1, fun a => Hp (dPK a.2.1 a.2.2.1 a.2.2.2).2⟩
def S_D_poke : List (Nat × e_C) := [(4, C_D_requireBelow)]
theorem s_D_poke : ∀ x ∈ S_D_poke, e_Site b_D_poke "DumpDesk" 7 x.1 x.2 := List.forall_mem_cons.mpr ⟨e_siteSX (y := y_D_requireBelow) (i := 69) m_D_requireBelow (by decide) (by decide) (e_in2 156 rfl rfl) (e_in2 157 rfl rfl) (e_in1 1 rfl rfl) (x_code (e_in2 158 rfl rfl)) ⟨by decide, by decide, rfl⟩ (by decide +kernel), fun x hx => (by cases hx)⟩
def Th_D_poke : List (Nat × String) := [(17, "java/lang/IllegalStateException")]
theorem th_D_poke : ∀ x ∈ Th_D_poke, e_Thr b_D_poke x.1 x.2 := List.forall_mem_cons.mpr ⟨⟨90, 92, by decide +kernel, (e_in2 13 rfl rfl), (e_in1 12 rfl rfl), x_own_S, by decide +kernel, by decide +kernel, by decide +kernel, by decide +kernel⟩, fun x hx => (by cases hx)⟩
theorem v_D_poke (k : Nat) (u : St) (a x : Int32) (hp : (dPK u a x).1 = k) (J : e_Jt) (hC : e_PX (c01 k) F_D S_D_poke Th_D_poke k_D_poke (rX2 sA sS none k) (Hp (dPK u a x).2) J) : J 0 0 [(0, .ref 0), (1, .int a), (2, .int x)] [] (Hp u) := by
  unfold dPK at hp hC
  refine e_run hC ?_
  conv => whnf
  cases h2 : bel a 256 with
  | false =>
    rw [h2] at hp hC
    dsimp only [cond_false] at hp hC
    subst hp
    refine ⟨(false, Hp u, a, 256), h2, rfl, rfl, ?_⟩
    conv => whnf
    exact ⟨Nat.le_refl _, rfl, rfl⟩
  | true =>
    rw [h2] at hp hC
    dsimp only [cond_true] at hp hC
    refine ⟨(true, Hp u, a, 256), h2, rfl, rfl, ?_⟩
    conv => whnf
    dsimp only [C_D_requireBelow]
    obtain ⟨b1, b2⟩ := bel_ix (n := 256) (by decide) h2
    refine e_run hC ?_
    conv => whnf
    cases h3 : decide (u.1 0 = 0) with
    | false =>
      rw [h3] at hp hC
      dsimp only [cond_false] at hp hC
      subst hp
      refine ⟨fun h4 => absurd h4 (of_decide_eq_false h3), fun _ => ?_⟩
      refine e_run hC ?_
      conv => whnf
      exact ⟨Nat.le_refl _, rfl, rfl⟩
    | true =>
      rw [h3] at hp hC
      dsimp only [cond_true] at hp hC
      subst hp
      refine ⟨fun _ => ?_, fun h4 => absurd (of_decide_eq_true h3) h4⟩
      generalize na a = p at b1 b2 hC
      subst b1
      refine e_run hC ?_
      conv => whnf
      refine ⟨vp_in_nI (by omega) (by decide), ?_⟩
      rw [nI_clamp (by omega), h_a0]
      refine e_run hC ?_
      conv => whnf
      refine ⟨⟨rfl, rfl⟩, ?_⟩
      conv => whnf
      rw [h_s1]
      refine e_run hC ?_
      conv => whnf
      exact ⟨Nat.le_refl _, rfl, rfl⟩
theorem m_D_poke (l : Launch) (hl : l.stackTraces = false) : e_MetX l y_D_poke 7 C_D_poke :=
  e_metX hl F_D C_D S_D_poke Th_D_poke k_D_poke (by decide +kernel) rfl (by decide) f_D c_D s_D_poke th_D_poke o_D_poke (x_code (e_in2 239 rfl rfl)) (fun a _ => ⟨Nat.le_of_ble_eq_true rfl, rfl⟩) (fun a hp => ⟨(fun v hv => by rw [rX2_ok hv]; exact Or.inl ⟨rfl, rfl⟩), v_D_poke a.1 a.2.1 a.2.2.1 a.2.2.2 hp⟩)
def dME (u : St) (a : Int32) : Nat × Int32 := cond (bel a 256) (0, u.2.1 0 (na a)) (1, 0)
def C_D_memory : e_C := ⟨Nat × St × Int32, 2, fun a => c01 a.1, fun a => (dME a.2.1 a.2.2).1 = a.1, fun a => [.ref 0, .int a.2.2], fun a => Hp a.2.1, fun a => rX1 sA (some (.int (dME a.2.1 a.2.2).2)) a.1, fun a => Hp a.2.1⟩
def S_D_memory : List (Nat × e_C) := [(4, C_D_requireBelow)]
theorem s_D_memory : ∀ x ∈ S_D_memory, e_Site b_D_memory "DumpDesk" 7 x.1 x.2 := List.forall_mem_cons.mpr ⟨e_siteSX (y := y_D_requireBelow) (i := 69) m_D_requireBelow (by decide) (by decide) (e_in2 156 rfl rfl) (e_in2 157 rfl rfl) (e_in1 1 rfl rfl) (x_code (e_in2 158 rfl rfl)) ⟨by decide, by decide, rfl⟩ (by decide +kernel), fun x hx => (by cases hx)⟩
def Th_D_memory : List (Nat × String) := []
theorem th_D_memory : ∀ x ∈ Th_D_memory, e_Thr b_D_memory x.1 x.2 := fun x hx => (by cases hx)
theorem v_D_memory (k : Nat) (u : St) (a : Int32) (hp : (dME u a).1 = k) (J : e_Jt) (hC : e_PX (c01 k) F_D S_D_memory Th_D_memory k_D_memory (rX1 sA (some (.int (dME u a).2)) k) (Hp u) J) : J 0 0 [(0, .ref 0), (1, .int a)] [] (Hp u) := by
  unfold dME at hp hC
  refine e_run hC ?_
  conv => whnf
  cases h2 : bel a 256 with
  | false =>
    rw [h2] at hp hC
    dsimp only [cond_false] at hp hC
    subst hp
    refine ⟨(false, Hp u, a, 256), h2, rfl, rfl, ?_⟩
    conv => whnf
    exact ⟨Nat.le_refl _, rfl, rfl⟩
  | true =>
    rw [h2] at hp hC
    dsimp only [cond_true] at hp hC
    subst hp
    refine ⟨(true, Hp u, a, 256), h2, rfl, rfl, ?_⟩
    conv => whnf
    dsimp only [C_D_requireBelow]
    obtain ⟨b1, b2⟩ := bel_ix (n := 256) (by decide) h2
    generalize na a = p at b1 b2 hC
    subst b1
    refine e_run hC ?_
    conv => whnf
    refine ⟨vp_in_nI (by omega) (by decide), ?_⟩
    rw [nI_clamp (by omega)]
    refine e_run hC ?_
    conv => whnf
    exact ⟨Nat.le_refl _, rfl, rfl⟩
theorem m_D_memory (l : Launch) (hl : l.stackTraces = false) : e_MetX l y_D_memory 7 C_D_memory :=
  e_metX hl F_D C_D S_D_memory Th_D_memory k_D_memory (by decide +kernel) rfl (by decide) f_D c_D s_D_memory th_D_memory o_D_memory (x_code (e_in3 6 rfl rfl)) (fun a _ => ⟨Nat.le_of_ble_eq_true rfl, rfl⟩) (fun a hp => ⟨(fun v hv => by rw [rX1_ok hv]; exact Or.inr ⟨.int, _, rfl, rfl, rfl⟩), v_D_memory a.1 a.2.1 a.2.2 hp⟩)
def C_D_halt : e_C := ⟨St, 1, fun _ => 0, fun _ => True, fun _ => [.ref 0], fun a => Hp a, fun _ => .inl none, fun a => Hp (uS a 0 1)⟩
def S_D_halt : List (Nat × e_C) := []
theorem s_D_halt : ∀ x ∈ S_D_halt, e_Site b_D_halt "DumpDesk" 0 x.1 x.2 := fun x hx => (by cases hx)
theorem v_D_halt (u : St) (J : e_Jt) (hC : e_P0 F_D S_D_halt k_D_halt none (Hp (uS u 0 1)) J) : J 0 0 [(0, .ref 0)] [] (Hp u) := by
  refine e_run hC ?_
  conv => whnf
  refine ⟨⟨rfl, rfl⟩, ?_⟩
  conv => whnf
  rw [h_s0]
  refine e_run hC ?_
  conv => whnf
  exact ⟨rfl, rfl⟩
theorem m_D_halt (l : Launch) (hl : l.stackTraces = false) : e_Met l y_D_halt b_D_halt 1 none 0 C_D_halt :=
  e_met hl F_D C_D S_D_halt k_D_halt (by decide +kernel) f_D c_D s_D_halt o_D_halt (fun a _ => ⟨Nat.le_of_ble_eq_true rfl, rfl⟩) (fun a hp => ⟨_, rfl, Or.inl ⟨rfl, rfl⟩, v_D_halt a⟩)
def dSE (u : St) (s : Int32) (b : Bool) : Nat × St := cond (bel s 96) (0, uA u 2 (upd (u.2.1 2) (na s) (bi b))) (1, u)
def C_D_sector : e_C := ⟨Nat × St × Int32 × Bool, 3, fun a => c01 a.1, fun a => (dSE a.2.1 a.2.2.1 a.2.2.2).1 = a.1, fun a => [.ref 0, .int a.2.2.1, .int (bi a.2.2.2)], fun a => Hp a.2.1, fun a => rX1 sA none a.1, fun a => Hp (dSE a.2.1 a.2.2.1 a.2.2.2).2⟩
def S_D_sector : List (Nat × e_C) := [(3, C_D_requireBelow)]
theorem s_D_sector : ∀ x ∈ S_D_sector, e_Site b_D_sector "DumpDesk" 7 x.1 x.2 := List.forall_mem_cons.mpr ⟨e_siteSX (y := y_D_requireBelow) (i := 69) m_D_requireBelow (by decide) (by decide) (e_in2 156 rfl rfl) (e_in2 157 rfl rfl) (e_in1 1 rfl rfl) (x_code (e_in2 158 rfl rfl)) ⟨by decide, by decide, rfl⟩ (by decide +kernel), fun x hx => (by cases hx)⟩
def Th_D_sector : List (Nat × String) := []
theorem th_D_sector : ∀ x ∈ Th_D_sector, e_Thr b_D_sector x.1 x.2 := fun x hx => (by cases hx)
theorem v_D_sector (k : Nat) (u : St) (s : Int32) (b : Bool) (hp : (dSE u s b).1 = k) (J : e_Jt) (hC : e_PX (c01 k) F_D S_D_sector Th_D_sector k_D_sector (rX1 sA none k) (Hp (dSE u s b).2) J) : J 0 0 [(0, .ref 0), (1, .int s), (2, .int (bi b))] [] (Hp u) := by
  unfold dSE at hp hC
  refine e_run hC ?_
  conv => whnf
  cases h2 : bel s 96 with
  | false =>
    rw [h2] at hp hC
    dsimp only [cond_false] at hp hC
    subst hp
    refine ⟨(false, Hp u, s, 96), h2, rfl, rfl, ?_⟩
    conv => whnf
    exact ⟨Nat.le_refl _, rfl, rfl⟩
  | true =>
    rw [h2] at hp hC
    dsimp only [cond_true] at hp hC
    subst hp
    refine ⟨(true, Hp u, s, 96), h2, rfl, rfl, ?_⟩
    conv => whnf
    dsimp only [C_D_requireBelow]
    obtain ⟨b1, b2⟩ := bel_ix (n := 96) (by decide) h2
    generalize na s = p at b1 b2 hC
    subst b1
    refine e_run hC ?_
    conv => whnf
    refine ⟨vp_in_nI (by omega) (by decide), ?_⟩
    rw [nI_clamp (by omega), nar_bi, h_a2]
    refine e_run hC ?_
    conv => whnf
    exact ⟨Nat.le_refl _, rfl, rfl⟩
theorem m_D_sector (l : Launch) (hl : l.stackTraces = false) : e_MetX l y_D_sector 7 C_D_sector :=
  e_metX hl F_D C_D S_D_sector Th_D_sector k_D_sector (by decide +kernel) rfl (by decide) f_D c_D s_D_sector th_D_sector o_D_sector (x_code (e_in3 13 rfl rfl)) (fun a _ => ⟨Nat.le_of_ble_eq_true rfl, rfl⟩) (fun a hp => ⟨(fun v hv => by rw [rX1_ok hv]; exact Or.inl ⟨rfl, rfl⟩), v_D_sector a.1 a.2.1 a.2.2.1 a.2.2.2 hp⟩)
def dDU (u : St) (p : Int32) : Nat × Int32 × St := cond (bel p 201) (cond (decide (u.1 0 = 0)) (2, 0, u) (0, nI (wal 16 0 0 (w0 u (na p))).1, (wal 16 0 0 (w0 u (na p))).2)) (1, 0, u)
def C_D_dump : e_C := ⟨Nat × St × Int32, 2, fun a => c01 a.1, fun a => (dDU a.2.1 a.2.2).1 = a.1, fun a => [.ref 0, .int a.2.2], fun a => Hp a.2.1, fun a => rX2 sA sS (some (.int (dDU a.2.1 a.2.2).2.1)) a.1, fun a => Hp (dDU a.2.1 a.2.2).2.2⟩
def S_D_dump : List (Nat × e_C) := [(4, C_D_requireBelow), (34, C_V_writeAll)]
theorem s_D_dump : ∀ x ∈ S_D_dump, e_Site b_D_dump "DumpDesk" 7 x.1 x.2 := List.forall_mem_cons.mpr ⟨e_siteSX (y := y_D_requireBelow) (i := 69) m_D_requireBelow (by decide) (by decide) (e_in2 156 rfl rfl) (e_in2 157 rfl rfl) (e_in1 1 rfl rfl) (x_code (e_in2 158 rfl rfl)) ⟨by decide, by decide, rfl⟩ (by decide +kernel), List.forall_mem_cons.mpr ⟨e_siteV (y := y_V_writeAll) (i := 116) (ci := 3) m_V_writeAll (by decide) (by decide) (fun _ => rfl) rfl (fun a _ => ⟨_, _, _, rfl, by decide, rfl⟩) rfl (e_in3 21 rfl rfl) (e_in3 22 rfl rfl) (e_in1 6 rfl rfl) (e_in3 24 rfl rfl) (e_in3 23 rfl rfl) ⟨by decide, by decide, rfl⟩ (by decide +kernel), fun x hx => (by cases hx)⟩⟩
def Th_D_dump : List (Nat × String) := [(17, "java/lang/IllegalStateException")]
theorem th_D_dump : ∀ x ∈ Th_D_dump, e_Thr b_D_dump x.1 x.2 := List.forall_mem_cons.mpr ⟨⟨90, 92, by decide +kernel, (e_in2 13 rfl rfl), (e_in1 12 rfl rfl), x_own_S, by decide +kernel, by decide +kernel, by decide +kernel, by decide +kernel⟩, fun x hx => (by cases hx)⟩
theorem v_D_dump (k : Nat) (u : St) (p : Int32) (hp : (dDU u p).1 = k) (J : e_Jt) (hC : e_PX (c01 k) F_D S_D_dump Th_D_dump k_D_dump (rX2 sA sS (some (.int (dDU u p).2.1)) k) (Hp (dDU u p).2.2) J) : J 0 0 [(0, .ref 0), (1, .int p)] [] (Hp u) := by
  unfold dDU at hp hC
  refine e_run hC ?_
  conv => whnf
  cases h2 : bel p 201 with
  | false =>
    rw [h2] at hp hC
    dsimp only [cond_false] at hp hC
    subst hp
    refine ⟨(false, Hp u, p, 201), h2, rfl, rfl, ?_⟩
    conv => whnf
    exact ⟨Nat.le_refl _, rfl, rfl⟩
  | true =>
    rw [h2] at hp hC
    dsimp only [cond_true] at hp hC
    refine ⟨(true, Hp u, p, 201), h2, rfl, rfl, ?_⟩
    conv => whnf
    obtain ⟨b1, b2⟩ := bel_ix (n := 201) (by decide) h2
    refine e_run hC ?_
    conv => whnf
    cases h3 : decide (u.1 0 = 0) with
    | true =>
      rw [h3] at hp hC
      dsimp only [cond_true] at hp hC
      subst hp
      refine ⟨fun h4 => absurd (of_decide_eq_true h3) h4, fun _ => ?_⟩
      refine e_run hC ?_
      conv => whnf
      exact ⟨Nat.le_refl _, rfl, rfl⟩
    | false =>
      rw [h3] at hp hC
      dsimp only [cond_false] at hp hC
      subst hp
      refine ⟨fun _ => ?_, fun h4 => absurd h4 (of_decide_eq_false h3)⟩
      generalize na p = q at b1 b2 hC
      subst b1
      refine e_run hC ?_
      conv => whnf
      refine ⟨(u, q), (by omega : q ≤ 200), rfl, rfl, ?_⟩
      conv => whnf
      dsimp only [C_V_writeAll]
      refine e_run hC ?_
      conv => whnf
      exact ⟨Nat.le_refl _, rfl, rfl⟩
theorem m_D_dump (l : Launch) (hl : l.stackTraces = false) : e_MetX l y_D_dump 7 C_D_dump :=
  e_metX hl F_D C_D S_D_dump Th_D_dump k_D_dump (by decide +kernel) rfl (by decide) f_D c_D s_D_dump th_D_dump o_D_dump (x_code (e_in3 20 rfl rfl)) (fun a _ => ⟨Nat.le_of_ble_eq_true rfl, rfl⟩) (fun a hp => ⟨(fun v hv => by rw [rX2_ok hv]; exact Or.inr ⟨.int, _, rfl, rfl, rfl⟩), v_D_dump a.1 a.2.1 a.2.2 hp⟩)
def dAR (u : St) (s w : Int32) : Nat × Int32 := cond (bel s 96) (cond (bel w 8) (0, u.2.1 1 (8 * na s + na w)) (1, 0)) (1, 0)
def C_D_area : e_C := ⟨Nat × St × Int32 × Int32, 3, fun a => c01 a.1, fun a => (dAR a.2.1 a.2.2.1 a.2.2.2).1 = a.1, fun a => [.ref 0, .int a.2.2.1, .int a.2.2.2], fun a => Hp a.2.1, fun a => rX1 sA (some (.int (dAR a.2.1 a.2.2.1 a.2.2.2).2)) a.1, fun a => Hp a.2.1⟩
def S_D_area : List (Nat × e_C) := [(3, C_D_requireBelow), (9, C_D_requireBelow)]
theorem s_D_area : ∀ x ∈ S_D_area, e_Site b_D_area "DumpDesk" 7 x.1 x.2 := List.forall_mem_cons.mpr ⟨e_siteSX (y := y_D_requireBelow) (i := 69) m_D_requireBelow (by decide) (by decide) (e_in2 156 rfl rfl) (e_in2 157 rfl rfl) (e_in1 1 rfl rfl) (x_code (e_in2 158 rfl rfl)) ⟨by decide, by decide, rfl⟩ (by decide +kernel), List.forall_mem_cons.mpr ⟨e_siteSX (y := y_D_requireBelow) (i := 69) m_D_requireBelow (by decide) (by decide) (e_in2 156 rfl rfl) (e_in2 157 rfl rfl) (e_in1 1 rfl rfl) (x_code (e_in2 158 rfl rfl)) ⟨by decide, by decide, rfl⟩ (by decide +kernel), fun x hx => (by cases hx)⟩⟩
def Th_D_area : List (Nat × String) := []
theorem th_D_area : ∀ x ∈ Th_D_area, e_Thr b_D_area x.1 x.2 := fun x hx => (by cases hx)
theorem v_D_area (k : Nat) (u : St) (s w : Int32) (hp : (dAR u s w).1 = k) (J : e_Jt) (hC : e_PX (c01 k) F_D S_D_area Th_D_area k_D_area (rX1 sA (some (.int (dAR u s w).2)) k) (Hp u) J) : J 0 0 [(0, .ref 0), (1, .int s), (2, .int w)] [] (Hp u) := by
  unfold dAR at hp hC
  refine e_run hC ?_
  conv => whnf
  cases h2 : bel s 96 with
  | false =>
    rw [h2] at hp hC
    dsimp only [cond_false] at hp hC
    subst hp
    refine ⟨(false, Hp u, s, 96), h2, rfl, rfl, ?_⟩
    conv => whnf
    exact ⟨Nat.le_refl _, rfl, rfl⟩
  | true =>
    rw [h2] at hp hC
    dsimp only [cond_true] at hp hC
    refine ⟨(true, Hp u, s, 96), h2, rfl, rfl, ?_⟩
    conv => whnf
    dsimp only [C_D_requireBelow]
    obtain ⟨b1, b2⟩ := bel_ix (n := 96) (by decide) h2
    refine e_run hC ?_
    conv => whnf
    cases h3 : bel w 8 with
    | false =>
      rw [h3] at hp hC
      dsimp only [cond_false] at hp hC
      subst hp
      refine ⟨(false, Hp u, w, 8), h3, rfl, rfl, ?_⟩
      conv => whnf
      exact ⟨Nat.le_refl _, rfl, rfl⟩
    | true =>
      rw [h3] at hp hC
      dsimp only [cond_true] at hp hC
      subst hp
      refine ⟨(true, Hp u, w, 8), h3, rfl, rfl, ?_⟩
      conv => whnf
      obtain ⟨b3, b4⟩ := bel_ix (n := 8) (by decide) h3
      generalize na s = p at b1 b2 hC
      generalize na w = q at b3 b4 hC
      subst b1
      subst b3
      refine e_run hC ?_
      conv => whnf
      rw [show (8 : Int32) = nI 8 from rfl, pk_mul, nI_add]
      refine ⟨vp_in_nI (by omega) (by decide), ?_⟩
      rw [nI_clamp (by omega), Nat.mul_comm p 8]
      refine e_run hC ?_
      conv => whnf
      exact ⟨Nat.le_refl _, rfl, rfl⟩
theorem m_D_area (l : Launch) (hl : l.stackTraces = false) : e_MetX l y_D_area 7 C_D_area :=
  e_metX hl F_D C_D S_D_area Th_D_area k_D_area (by decide +kernel) rfl (by decide) f_D c_D s_D_area th_D_area o_D_area (x_code (e_in3 70 rfl rfl)) (fun a _ => ⟨Nat.le_of_ble_eq_true rfl, rfl⟩) (fun a hp => ⟨(fun v hv => by rw [rX1_ok hv]; exact Or.inr ⟨.int, _, rfl, rfl, rfl⟩), v_D_area a.1 a.2.1 a.2.2.1 a.2.2.2 hp⟩)
def dAT (u : St) : Int32 × St := (cond (rA 17 0 (-1) (uS (fgt u) 6 0)).1 ((rA 17 0 (-1) (uS (fgt u) 6 0)).2.1 7 + 100) ((rA 17 0 (-1) (uS (fgt u) 6 0)).2.1 7), (rA 17 0 (-1) (uS (fgt u) 6 0)).2)
def C_D_attach : e_C := ⟨St, 1, fun _ => 0, fun _ => True, fun _ => [.ref 0], fun a => Hp a, fun a => .inl (some (.int (dAT a).1)), fun a => Hp (dAT a).2⟩
def S_D_attach : List (Nat × e_C) := [(4, C_U_readAll)]
theorem s_D_attach : ∀ x ∈ S_D_attach, e_Site b_D_attach "DumpDesk" 6 x.1 x.2 := List.forall_mem_cons.mpr ⟨e_siteV (y := y_U_readAll) (i := 121) (ci := 4) m_U_readAll (by decide) (by decide) (fun _ => rfl) rfl (fun a _ => ⟨_, _, _, rfl, by decide, rfl⟩) rfl (e_in1 186 rfl rfl) (e_in1 187 rfl rfl) (e_in1 7 rfl rfl) (e_in1 189 rfl rfl) (e_in1 188 rfl rfl) ⟨by decide, by decide, rfl⟩ (by decide +kernel), fun x hx => (by cases hx)⟩
theorem v_D_attach (u : St) (J : e_Jt) (hC : e_P0 F_D S_D_attach k_D_attach (some (.int (dAT u).1)) (Hp (dAT u).2) J) : J 0 0 [(0, .ref 0)] [] (Hp u) := by
  unfold dAT at hC
  refine e_run hC ?_
  conv => whnf
  refine ⟨u, trivial, rfl, rfl, ?_⟩
  conv => whnf
  dsimp only [C_U_readAll]
  generalize rA 17 0 (-1) (uS (fgt u) 6 0) = B at hC ⊢
  refine e_run hC ?_
  conv => whnf
  refine ⟨fun h1 => ?_, fun h1 => ?_⟩
  · rw [bi0.mp h1] at hC
    refine e_run hC ?_
    conv => whnf
    exact ⟨rfl, rfl⟩
  · rw [bi1 h1] at hC
    refine e_run hC ?_
    conv => whnf
    refine e_run hC ?_
    conv => whnf
    exact ⟨rfl, rfl⟩
theorem m_D_attach (l : Launch) (hl : l.stackTraces = false) : e_Met l y_D_attach b_D_attach 2 (some .int) 6 C_D_attach :=
  e_met hl F_D C_D S_D_attach k_D_attach (by decide +kernel) f_D c_D s_D_attach o_D_attach (fun a _ => ⟨Nat.le_of_ble_eq_true rfl, rfl⟩) (fun a hp => ⟨_, rfl, Or.inr ⟨.int, _, rfl, rfl, rfl⟩, v_D_attach a⟩)
def dWD (u : St) (a : Int32) : Nat × Int32 := cond (bel a 256) (cond (decide (u.2.1 6 (na a / 16) = 0)) (1, 0) (0, u.2.1 5 (na a))) (2, 0)
def C_D_word : e_C := ⟨Nat × St × Int32, 2, fun a => c01 a.1, fun a => (dWD a.2.1 a.2.2).1 = a.1, fun a => [.ref 0, .int a.2.2], fun a => Hp a.2.1, fun a => rX2 sN sA (some (.int (dWD a.2.1 a.2.2).2)) a.1, fun a => Hp a.2.1⟩
def S_D_word : List (Nat × e_C) := [(4, C_D_requireBelow)]
theorem s_D_word : ∀ x ∈ S_D_word, e_Site b_D_word "DumpDesk" 7 x.1 x.2 := List.forall_mem_cons.mpr ⟨e_siteSX (y := y_D_requireBelow) (i := 69) m_D_requireBelow (by decide) (by decide) (e_in2 156 rfl rfl) (e_in2 157 rfl rfl) (e_in1 1 rfl rfl) (x_code (e_in2 158 rfl rfl)) ⟨by decide, by decide, rfl⟩ (by decide +kernel), fun x hx => (by cases hx)⟩
def Th_D_word : List (Nat × String) := [(22, "java/util/NoSuchElementException")]
theorem th_D_word : ∀ x ∈ Th_D_word, e_Thr b_D_word x.1 x.2 := List.forall_mem_cons.mpr ⟨⟨63, 65, by decide +kernel, (e_in2 120 rfl rfl), (e_in1 13 rfl rfl), x_own_N, by decide +kernel, by decide +kernel, by decide +kernel, by decide +kernel⟩, fun x hx => (by cases hx)⟩
theorem v_D_word (k : Nat) (u : St) (a : Int32) (hp : (dWD u a).1 = k) (J : e_Jt) (hC : e_PX (c01 k) F_D S_D_word Th_D_word k_D_word (rX2 sN sA (some (.int (dWD u a).2)) k) (Hp u) J) : J 0 0 [(0, .ref 0), (1, .int a)] [] (Hp u) := by
  unfold dWD at hp hC
  refine e_run hC ?_
  conv => whnf
  cases h2 : bel a 256 with
  | false =>
    rw [h2] at hp hC
    dsimp only [cond_false] at hp hC
    subst hp
    refine ⟨(false, Hp u, a, 256), h2, rfl, rfl, ?_⟩
    conv => whnf
    exact ⟨Nat.le_refl _, rfl, rfl⟩
  | true =>
    rw [h2] at hp hC
    dsimp only [cond_true] at hp hC
    refine ⟨(true, Hp u, a, 256), h2, rfl, rfl, ?_⟩
    conv => whnf
    dsimp only [C_D_requireBelow]
    obtain ⟨b1, b2⟩ := bel_ix (n := 256) (by decide) h2
    generalize na a = p at b1 b2 hp hC
    subst b1
    refine e_run hC ?_
    conv => whnf
    refine ⟨by decide, ?_⟩
    rw [show (16 : Int32) = nI 16 from rfl, pk_div (by omega) (by decide) (by decide)]
    refine e_run hC ?_
    conv => whnf
    refine ⟨vp_in_nI (by omega) (by decide), ?_⟩
    rw [nI_clamp (by omega)]
    refine e_run hC ?_
    conv => whnf
    cases h3 : decide (u.2.1 6 (p / 16) = 0) with
    | true =>
      rw [h3] at hp hC
      dsimp only [cond_true] at hp hC
      subst hp
      refine ⟨fun h4 => absurd (of_decide_eq_true h3) h4, fun _ => ?_⟩
      refine e_run hC ?_
      conv => whnf
      exact ⟨Nat.le_refl _, rfl, rfl⟩
    | false =>
      rw [h3] at hp hC
      dsimp only [cond_false] at hp hC
      subst hp
      refine ⟨fun _ => ?_, fun h4 => absurd h4 (of_decide_eq_false h3)⟩
      refine e_run hC ?_
      conv => whnf
      refine ⟨vp_in_nI (by omega) (by decide), ?_⟩
      rw [nI_clamp (by omega)]
      refine e_run hC ?_
      conv => whnf
      exact ⟨Nat.le_refl _, rfl, rfl⟩
theorem m_D_word (l : Launch) (hl : l.stackTraces = false) : e_MetX l y_D_word 7 C_D_word :=
  e_metX hl F_D C_D S_D_word Th_D_word k_D_word (by decide +kernel) rfl (by decide) f_D c_D s_D_word th_D_word o_D_word (x_code (e_in3 77 rfl rfl)) (fun a _ => ⟨Nat.le_of_ble_eq_true rfl, rfl⟩) (fun a hp => ⟨(fun v hv => by rw [rX2_ok hv]; exact Or.inr ⟨.int, _, rfl, rfl, rfl⟩), v_D_word a.1 a.2.1 a.2.2 hp⟩)
def dWA (u : St) (x : Int32) : Nat × Int32 × St := cond (bel x 6) (cond (decide (u.2.1 6 0 = 0)) (2, 0, u) (0, nI (wkl u (na x)).1, zS u (nI (wkl u (na x)).1) (nI (wkl u (na x)).2.1) (wkl u (na x)).2.2.1 (wkl u (na x)).2.2.2)) (1, 0, u)
def C_D_walk : e_C := ⟨Nat × St × Int32, 2, fun a => c01 a.1, fun a => (dWA a.2.1 a.2.2).1 = a.1, fun a => [.ref 0, .int a.2.2], fun a => Hp a.2.1, fun a => rX2 sA sS (some (.int (dWA a.2.1 a.2.2).2.1)) a.1, fun a => Hp (dWA a.2.1 a.2.2).2.2⟩
def S_D_walk : List (Nat × e_C) := [(3, C_D_requireBelow), (31, C_Z_walkList)]
theorem s_D_walk : ∀ x ∈ S_D_walk, e_Site b_D_walk "DumpDesk" 7 x.1 x.2 := List.forall_mem_cons.mpr ⟨e_siteSX (y := y_D_requireBelow) (i := 69) m_D_requireBelow (by decide) (by decide) (e_in2 156 rfl rfl) (e_in2 157 rfl rfl) (e_in1 1 rfl rfl) (x_code (e_in2 158 rfl rfl)) ⟨by decide, by decide, rfl⟩ (by decide +kernel), List.forall_mem_cons.mpr ⟨e_siteV (y := y_Z_walkList) (i := 133) (ci := 5) m_Z_walkList (by decide) (by decide) (fun _ => rfl) rfl (fun a _ => ⟨_, _, _, rfl, by decide, rfl⟩) rfl (e_in3 85 rfl rfl) (e_in3 86 rfl rfl) (e_in1 5 rfl rfl) (e_in3 88 rfl rfl) (e_in3 87 rfl rfl) ⟨by decide, by decide, rfl⟩ (by decide +kernel), fun x hx => (by cases hx)⟩⟩
def Th_D_walk : List (Nat × String) := [(18, "java/lang/IllegalStateException")]
theorem th_D_walk : ∀ x ∈ Th_D_walk, e_Thr b_D_walk x.1 x.2 := List.forall_mem_cons.mpr ⟨⟨90, 92, by decide +kernel, (e_in2 13 rfl rfl), (e_in1 12 rfl rfl), x_own_S, by decide +kernel, by decide +kernel, by decide +kernel, by decide +kernel⟩, fun x hx => (by cases hx)⟩
theorem v_D_walk (k : Nat) (u : St) (x : Int32) (hp : (dWA u x).1 = k) (J : e_Jt) (hC : e_PX (c01 k) F_D S_D_walk Th_D_walk k_D_walk (rX2 sA sS (some (.int (dWA u x).2.1)) k) (Hp (dWA u x).2.2) J) : J 0 0 [(0, .ref 0), (1, .int x)] [] (Hp u) := by
  unfold dWA at hp hC
  refine e_run hC ?_
  conv => whnf
  cases h2 : bel x 6 with
  | false =>
    rw [h2] at hp hC
    dsimp only [cond_false] at hp hC
    subst hp
    refine ⟨(false, Hp u, x, 6), h2, rfl, rfl, ?_⟩
    conv => whnf
    exact ⟨Nat.le_refl _, rfl, rfl⟩
  | true =>
    rw [h2] at hp hC
    dsimp only [cond_true] at hp hC
    refine ⟨(true, Hp u, x, 6), h2, rfl, rfl, ?_⟩
    conv => whnf
    obtain ⟨b1, b2⟩ := bel_ix (n := 6) (by decide) h2
    generalize na x = p at b1 b2 hp hC
    subst b1
    refine e_run hC ?_
    conv => whnf
    refine ⟨vp_in_nI (n := 0) (by decide) (by decide), ?_⟩
    rw [show (0 : Int32).toNatClampNeg = 0 from rfl]
    refine e_run hC ?_
    conv => whnf
    cases h3 : decide (u.2.1 6 0 = 0) with
    | true =>
      rw [h3] at hp hC
      dsimp only [cond_true] at hp hC
      subst hp
      refine ⟨fun h4 => absurd (of_decide_eq_true h3) h4, fun _ => ?_⟩
      refine e_run hC ?_
      conv => whnf
      exact ⟨Nat.le_refl _, rfl, rfl⟩
    | false =>
      rw [h3] at hp hC
      dsimp only [cond_false] at hp hC
      subst hp
      refine ⟨fun _ => ?_, fun h4 => absurd h4 (of_decide_eq_false h3)⟩
      refine e_run hC ?_
      conv => whnf
      refine ⟨(u, p), b2, rfl, rfl, ?_⟩
      conv => whnf
      dsimp only [C_Z_walkList]
      refine e_run hC ?_
      conv => whnf
      exact ⟨Nat.le_refl _, rfl, rfl⟩
theorem m_D_walk (l : Launch) (hl : l.stackTraces = false) : e_MetX l y_D_walk 7 C_D_walk :=
  e_metX hl F_D C_D S_D_walk Th_D_walk k_D_walk (by decide +kernel) rfl (by decide) f_D c_D s_D_walk th_D_walk o_D_walk (x_code (e_in3 84 rfl rfl)) (fun a _ => ⟨Nat.le_of_ble_eq_true rfl, rfl⟩) (fun a hp => ⟨(fun v hv => by rw [rX2_ok hv]; exact Or.inr ⟨.int, _, rfl, rfl, rfl⟩), v_D_walk a.1 a.2.1 a.2.2 hp⟩)
def dBR (u : St) (x : Int32) : Nat × Int32 := cond (bel x 2) (cond (decide (u.1 8 = 0)) (2, 0) (0, if x = 0 then u.1 10 else u.1 11)) (1, 0)
def C_D_broken : e_C := ⟨Nat × St × Int32, 2, fun a => c01 a.1, fun a => (dBR a.2.1 a.2.2).1 = a.1, fun a => [.ref 0, .int a.2.2], fun a => Hp a.2.1, fun a => rX2 sA sS (some (.int (dBR a.2.1 a.2.2).2)) a.1, fun a => Hp a.2.1⟩
def S_D_broken : List (Nat × e_C) := [(2, C_D_requireBelow)]
theorem s_D_broken : ∀ x ∈ S_D_broken, e_Site b_D_broken "DumpDesk" 7 x.1 x.2 := List.forall_mem_cons.mpr ⟨e_siteSX (y := y_D_requireBelow) (i := 69) m_D_requireBelow (by decide) (by decide) (e_in2 156 rfl rfl) (e_in2 157 rfl rfl) (e_in1 1 rfl rfl) (x_code (e_in2 158 rfl rfl)) ⟨by decide, by decide, rfl⟩ (by decide +kernel), fun x hx => (by cases hx)⟩
def Th_D_broken : List (Nat × String) := [(15, "java/lang/IllegalStateException")]
theorem th_D_broken : ∀ x ∈ Th_D_broken, e_Thr b_D_broken x.1 x.2 := List.forall_mem_cons.mpr ⟨⟨90, 92, by decide +kernel, (e_in2 13 rfl rfl), (e_in1 12 rfl rfl), x_own_S, by decide +kernel, by decide +kernel, by decide +kernel, by decide +kernel⟩, fun x hx => (by cases hx)⟩
theorem v_D_broken (k : Nat) (u : St) (x : Int32) (hp : (dBR u x).1 = k) (J : e_Jt) (hC : e_PX (c01 k) F_D S_D_broken Th_D_broken k_D_broken (rX2 sA sS (some (.int (dBR u x).2)) k) (Hp u) J) : J 0 0 [(0, .ref 0), (1, .int x)] [] (Hp u) := by
  unfold dBR at hp hC
  refine e_run hC ?_
  conv => whnf
  cases h2 : bel x 2 with
  | false =>
    rw [h2] at hp hC
    dsimp only [cond_false] at hp hC
    subst hp
    refine ⟨(false, Hp u, x, 2), h2, rfl, rfl, ?_⟩
    conv => whnf
    exact ⟨Nat.le_refl _, rfl, rfl⟩
  | true =>
    rw [h2] at hp hC
    dsimp only [cond_true] at hp hC
    refine ⟨(true, Hp u, x, 2), h2, rfl, rfl, ?_⟩
    conv => whnf
    refine e_run hC ?_
    conv => whnf
    cases h3 : decide (u.1 8 = 0) with
    | true =>
      rw [h3] at hp hC
      dsimp only [cond_true] at hp hC
      subst hp
      refine ⟨fun h4 => absurd (of_decide_eq_true h3) h4, fun _ => ?_⟩
      refine e_run hC ?_
      conv => whnf
      exact ⟨Nat.le_refl _, rfl, rfl⟩
    | false =>
      rw [h3] at hp hC
      dsimp only [cond_false] at hp hC
      subst hp
      refine ⟨fun _ => ?_, fun h4 => absurd h4 (of_decide_eq_false h3)⟩
      refine e_run hC ?_
      conv => whnf
      refine ⟨fun h5 => ?_, fun h5 => ?_⟩
      · rw [if_neg h5] at hC
        refine e_run hC ?_
        conv => whnf
        exact ⟨Nat.le_refl _, rfl, rfl⟩
      · rw [if_pos h5] at hC
        refine e_run hC ?_
        conv => whnf
        refine e_run hC ?_
        conv => whnf
        exact ⟨Nat.le_refl _, rfl, rfl⟩
theorem m_D_broken (l : Launch) (hl : l.stackTraces = false) : e_MetX l y_D_broken 7 C_D_broken :=
  e_metX hl F_D C_D S_D_broken Th_D_broken k_D_broken (by decide +kernel) rfl (by decide) f_D c_D s_D_broken th_D_broken o_D_broken (x_code (e_in3 107 rfl rfl)) (fun a _ => ⟨Nat.le_of_ble_eq_true rfl, rfl⟩) (fun a hp => ⟨(fun v hv => by rw [rX2_ok hv]; exact Or.inr ⟨.int, _, rfl, rfl, rfl⟩), v_D_broken a.1 a.2.1 a.2.2 hp⟩)
def dND (u : St) (k w : Int32) (c : Nat) : Nat × Int32 := cond (bel w 3) (cond (decide (u.1 8 = 0)) (2, 0) (cond (bel k (nI c)) (0, if w = 0 then u.2.1 7 (na k) else u.2.1 5 (na (u.2.1 7 (na k)) + 1 + na w)) (3, 0))) (1, 0)
def C_D_node : e_C := ⟨Nat × St × Int32 × Int32 × Nat, 3, fun a => c01 a.1, fun a => (dND a.2.1 a.2.2.1 a.2.2.2.1 a.2.2.2.2).1 = a.1 ∧ (¬ a.2.1.1 8 = 0 → a.2.2.2.2 ≤ 57 ∧ a.2.1.1 9 = nI a.2.2.2.2 ∧ ∀ j, j < a.2.2.2.2 → pl (a.2.1.2.1 7 j) = true), fun a => [.ref 0, .int a.2.2.1, .int a.2.2.2.1], fun a => Hp a.2.1, fun a => rX3 sA sS sN (some (.int (dND a.2.1 a.2.2.1 a.2.2.2.1 a.2.2.2.2).2)) a.1, fun a => Hp a.2.1⟩
def S_D_node : List (Nat × e_C) := [(2, C_D_requireBelow), (31, C_D_isBelow)]
theorem s_D_node : ∀ x ∈ S_D_node, e_Site b_D_node "DumpDesk" 7 x.1 x.2 := List.forall_mem_cons.mpr ⟨e_siteSX (y := y_D_requireBelow) (i := 69) m_D_requireBelow (by decide) (by decide) (e_in2 156 rfl rfl) (e_in2 157 rfl rfl) (e_in1 1 rfl rfl) (x_code (e_in2 158 rfl rfl)) ⟨by decide, by decide, rfl⟩ (by decide +kernel), List.forall_mem_cons.mpr ⟨e_siteS (y := y_D_isBelow) (i := 148) m_D_isBelow (by decide) (by decide) (fun _ => rfl) (e_in2 159 rfl rfl) (e_in2 160 rfl rfl) (e_in1 1 rfl rfl) (e_in2 161 rfl rfl) ⟨by decide, by decide, rfl⟩ (by decide +kernel), fun x hx => (by cases hx)⟩⟩
def Th_D_node : List (Nat × String) := [(15, "java/lang/IllegalStateException"), (37, "java/util/NoSuchElementException")]
theorem th_D_node : ∀ x ∈ Th_D_node, e_Thr b_D_node x.1 x.2 := List.forall_mem_cons.mpr ⟨⟨90, 92, by decide +kernel, (e_in2 13 rfl rfl), (e_in1 12 rfl rfl), x_own_S, by decide +kernel, by decide +kernel, by decide +kernel, by decide +kernel⟩, List.forall_mem_cons.mpr ⟨⟨63, 65, by decide +kernel, (e_in2 120 rfl rfl), (e_in1 13 rfl rfl), x_own_N, by decide +kernel, by decide +kernel, by decide +kernel, by decide +kernel⟩, fun x hx => (by cases hx)⟩⟩
theorem v_D_node (n : Nat) (u : St) (k w : Int32) (c : Nat) (hp9 : (dND u k w c).1 = n ∧ (¬ u.1 8 = 0 → c ≤ 57 ∧ u.1 9 = nI c ∧ ∀ j, j < c → pl (u.2.1 7 j) = true)) (J : e_Jt) (hC : e_PX (c01 n) F_D S_D_node Th_D_node k_D_node (rX3 sA sS sN (some (.int (dND u k w c).2)) n) (Hp u) J) : J 0 0 [(0, .ref 0), (1, .int k), (2, .int w)] [] (Hp u) := by
  obtain ⟨hp, hi⟩ := hp9
  unfold dND at hp hC
  refine e_run hC ?_
  conv => whnf
  cases h2 : bel w 3 with
  | false =>
    rw [h2] at hp hC
    dsimp only [cond_false] at hp hC
    subst hp
    refine ⟨(false, Hp u, w, 3), h2, rfl, rfl, ?_⟩
    conv => whnf
    exact ⟨Nat.le_refl _, rfl, rfl⟩
  | true =>
    rw [h2] at hp hC
    dsimp only [cond_true] at hp hC
    refine ⟨(true, Hp u, w, 3), h2, rfl, rfl, ?_⟩
    conv => whnf
    obtain ⟨b1, b2⟩ := bel_ix (n := 3) (by decide) h2
    refine e_run hC ?_
    conv => whnf
    cases h3 : decide (u.1 8 = 0) with
    | true =>
      rw [h3] at hp hC
      dsimp only [cond_true] at hp hC
      subst hp
      refine ⟨fun h4 => absurd (of_decide_eq_true h3) h4, fun _ => ?_⟩
      refine e_run hC ?_
      conv => whnf
      exact ⟨Nat.le_refl _, rfl, rfl⟩
    | false =>
      rw [h3] at hp hC
      dsimp only [cond_false] at hp hC
      refine ⟨fun _ => ?_, fun h4 => absurd h4 (of_decide_eq_false h3)⟩
      obtain ⟨c1, c2, c3⟩ := hi (of_decide_eq_false h3)
      refine e_run hC ?_
      conv => whnf
      rw [c2]
      refine ⟨(Hp u, k, nI c), trivial, rfl, rfl, ?_⟩
      conv => whnf
      dsimp only [C_D_isBelow]
      refine e_run hC ?_
      conv => whnf
      cases h5 : bel k (nI c) with
      | false =>
        rw [h5] at hp hC
        dsimp only [cond_false] at hp hC
        subst hp
        refine ⟨fun h4 => absurd rfl h4, fun _ => ?_⟩
        refine e_run hC ?_
        conv => whnf
        exact ⟨Nat.le_refl _, rfl, rfl⟩
      | true =>
        rw [h5] at hp hC
        dsimp only [cond_true] at hp hC
        subst hp
        refine ⟨fun _ => ?_, fun h4 => absurd h4 (by decide)⟩
        obtain ⟨k1, k2⟩ := bel_ix (by omega) h5
        generalize na k = r at k1 k2 hC
        generalize na w = p at b1 b2 hC
        subst k1
        subst b1
        refine e_run hC ?_
        conv => whnf
        refine ⟨vp_in_nI (by omega) (by decide), ?_⟩
        rw [nI_clamp (by omega)]
        refine e_run hC ?_
        conv => whnf
        refine ⟨fun h6 => ?_, fun h6 => ?_⟩
        · rw [if_neg h6] at hC
          obtain ⟨g1, g2, g3, g4⟩ := pl_na (c3 r k2)
          generalize na (u.2.1 7 r) = a at g1 g2 g3 g4 hC
          rw [g1]
          refine e_run hC ?_
          conv => whnf
          rw [nI_1, nI_add]
          refine ⟨vp_in_nI (by omega) (by decide), ?_⟩
          rw [nI_clamp (by omega)]
          refine e_run hC ?_
          conv => whnf
          exact ⟨Nat.le_refl _, rfl, rfl⟩
        · rw [if_pos h6] at hC
          refine e_run hC ?_
          conv => whnf
          refine e_run hC ?_
          conv => whnf
          exact ⟨Nat.le_refl _, rfl, rfl⟩
theorem m_D_node (l : Launch) (hl : l.stackTraces = false) : e_MetX l y_D_node 7 C_D_node :=
  e_metX hl F_D C_D S_D_node Th_D_node k_D_node (by decide +kernel) rfl (by decide) f_D c_D s_D_node th_D_node o_D_node (x_code (e_in3 114 rfl rfl)) (fun a _ => ⟨Nat.le_of_ble_eq_true rfl, rfl⟩) (fun a hp => ⟨(fun v hv => by rw [rX3_ok hv]; exact Or.inr ⟨.int, _, rfl, rfl, rfl⟩), v_D_node a.1 a.2.1 a.2.2.1 a.2.2.2.1 a.2.2.2.2 hp⟩)
