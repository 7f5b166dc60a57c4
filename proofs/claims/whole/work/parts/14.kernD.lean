/-! the kernel: tasks, waiters, timers -/
theorem bi1 {b : Bool} (h : ¬ bi b = 0) : b = true := by
  cases b with
  | true => rfl
  | false => exact absurd rfl h
def tkA (w : Nat → Int32) (i : Int32) : Int32 := if i < 0 then 0 else cond (pl (w (fslot w (steps56 i) 0))) (w (fslot w (steps56 i) 0)) 0
def C_K_taskAt : e_C := ⟨St × Int32, 2, fun _ => 0, fun _ => True, fun a => [.ref 1, .int a.2], fun a => Hp a.1, fun a => .inl (some (.int (tkA (a.1.2.1 0) a.2))), fun a => Hp a.1⟩
def S_K_taskAt : List (Nat × e_C) := [(15, C_K_slotOf), (21, C_D_isPlace)]
theorem s_K_taskAt : ∀ x ∈ S_K_taskAt, e_Site b_K_taskAt "DumpDesk$Kernel" 2 x.1 x.2 := List.forall_mem_cons.mpr ⟨e_siteV (y := y_K_slotOf) (i := 51) (ci := 1) m_K_slotOf (by decide) (by decide) (fun _ => rfl) rfl (fun a _ => ⟨_, _, _, rfl, by decide, rfl⟩) rfl (e_in2 97 rfl rfl) (e_in2 98 rfl rfl) (e_in1 2 rfl rfl) (e_in2 100 rfl rfl) (e_in2 99 rfl rfl) ⟨by decide, by decide, rfl⟩ (by decide +kernel), List.forall_mem_cons.mpr ⟨e_siteSN (y := y_D_isPlace) (host := "DumpDesk") (i := 47) m_D_isPlace (by decide) (by decide) (fun _ => rfl) (by decide +kernel) (e_in2 102 rfl rfl) (e_in1 1 rfl rfl) (e_in2 103 rfl rfl) ⟨by decide, by decide, rfl⟩ (by decide +kernel), fun x hx => (by cases hx)⟩⟩
theorem v_K_taskAt (u : St) (i : Int32) (J : e_Jt) (hC : e_P0 F_K S_K_taskAt k_K_taskAt (some (.int (tkA (u.2.1 0) i))) (Hp u) J) : J 0 0 [(0, .ref 1), (1, .int i)] [] (Hp u) := by
  have fin : ∀ x : Int32, cond (pl x) x 0 = tkA (u.2.1 0) i → J 0 19 [(0, .ref 1), (1, .int i)] [.int x] (Hp u) := by
    intro x hx
    refine e_run hC ?_
    conv => whnf
    refine ⟨(Hp u, x), trivial, rfl, rfl, ?_⟩
    conv => whnf
    dsimp only [C_D_isPlace]
    refine e_run hC ?_
    conv => whnf
    refine ⟨fun h1 => ?_, fun h1 => ?_⟩
    · refine e_run hC ?_
      conv => whnf
      refine ⟨?_, rfl⟩
      rw [← hx, bi0.mp h1]
      rfl
    · refine e_run hC ?_
      conv => whnf
      refine e_run hC ?_
      conv => whnf
      refine ⟨?_, rfl⟩
      rw [← hx, bi1 h1]
      rfl
  refine e_run hC ?_
  conv => whnf
  refine ⟨fun h1 => ?_, fun h1 => ?_⟩
  · have h2 : ¬ i < 0 := Int32.not_lt.mpr h1
    refine e_run hC ?_
    conv => whnf
    refine ⟨(u, 0, i), (by decide : 0 < 256), rfl, rfl, ?_⟩
    conv => whnf
    dsimp only [C_K_slotOf]
    have h3 := fslot_lt (u.2.1 0) (steps56 i) 0 (by decide)
    refine e_run hC ?_
    conv => whnf
    refine ⟨vp_in_nI h3 (by decide), ?_⟩
    rw [nI_clamp (by omega)]
    refine fin _ ?_
    unfold tkA
    rw [if_neg h2]
  · refine e_run hC ?_
    conv => whnf
    refine fin 0 ?_
    unfold tkA
    rw [if_pos (Int32.not_le.mp h1)]
    rfl
theorem m_K_taskAt (l : Launch) (hl : l.stackTraces = false) : e_Met l y_K_taskAt b_K_taskAt 3 (some .int) 2 C_K_taskAt :=
  e_met hl F_K C_K S_K_taskAt k_K_taskAt (by decide +kernel) f_K c_K s_K_taskAt o_K_taskAt (fun a _ => ⟨Nat.le_of_ble_eq_true rfl, rfl⟩) (fun a hp => ⟨_, rfl, Or.inr ⟨.int, _, rfl, rfl, rfl⟩, v_K_taskAt a.1 a.2⟩)
def insN (w : Nat → Int32) (s p : Nat) (t x y : Int32) : Nat → Int32 := upd (upd (upd (upd (upd w p t) (p + 1) (upd w p t s)) (p + 2) x) (p + 3) y) s (nI p)
def C_K_insertNode : e_C := ⟨St × Nat × Nat × Int32 × Int32 × Int32, 6, fun _ => 0, fun a => a.2.1 < 256 ∧ a.2.2.1 < 253, fun a => [.ref 1, .int (nI a.2.1), .int (nI a.2.2.1), .int a.2.2.2.1, .int a.2.2.2.2.1, .int a.2.2.2.2.2], fun a => Hp a.1, fun _ => .inl none, fun a => Hp (uA a.1 0 (insN (a.1.2.1 0) a.2.1 a.2.2.1 a.2.2.2.1 a.2.2.2.2.1 a.2.2.2.2.2))⟩
def S_K_insertNode : List (Nat × e_C) := []
theorem s_K_insertNode : ∀ x ∈ S_K_insertNode, e_Site b_K_insertNode "DumpDesk$Kernel" 0 x.1 x.2 := fun x hx => (by cases hx)
theorem v_K_insertNode (u : St) (s p : Nat) (t x y : Int32) (hp : s < 256 ∧ p < 253) (J : e_Jt) (hC : e_P0 F_K S_K_insertNode k_K_insertNode none (Hp (uA u 0 (insN (u.2.1 0) s p t x y))) J) : J 0 0 [(0, .ref 1), (1, .int (nI s)), (2, .int (nI p)), (3, .int t), (4, .int x), (5, .int y)] [] (Hp u) := by
  obtain ⟨h1, h2⟩ := hp
  refine e_run hC ?_
  conv => whnf
  refine ⟨vp_in_nI (by omega) (by decide), ?_⟩
  rw [nI_clamp (by omega), h_a0]
  refine e_run hC ?_
  conv => whnf
  refine ⟨vp_in_nI (by omega) (by decide), ?_⟩
  rw [nI_clamp (by omega), nI_1]
  refine e_run hC ?_
  conv => whnf
  refine ⟨vp_in_nI (by omega) (by decide), ?_⟩
  rw [nI_clamp (by omega), h_a0, uA_uA]
  refine e_run hC ?_
  conv => whnf
  rw [show (2 : Int32) = nI 2 from rfl, nI_add]
  refine ⟨vp_in_nI (by omega) (by decide), ?_⟩
  rw [nI_clamp (by omega), h_a0, uA_uA]
  refine e_run hC ?_
  conv => whnf
  rw [show (3 : Int32) = nI 3 from rfl, nI_add]
  refine ⟨vp_in_nI (by omega) (by decide), ?_⟩
  rw [nI_clamp (by omega), h_a0, uA_uA]
  refine e_run hC ?_
  conv => whnf
  refine ⟨vp_in_nI (by omega) (by decide), ?_⟩
  rw [nI_clamp (by omega), h_a0, uA_uA]
  refine e_run hC ?_
  conv => whnf
  exact ⟨rfl, rfl⟩
theorem m_K_insertNode (l : Launch) (hl : l.stackTraces = false) : e_Met l y_K_insertNode b_K_insertNode 6 none 0 C_K_insertNode :=
  e_met hl F_K C_K S_K_insertNode k_K_insertNode (by decide +kernel) f_K c_K s_K_insertNode o_K_insertNode (fun a _ => ⟨Nat.le_of_ble_eq_true rfl, rfl⟩) (fun a hp => ⟨_, rfl, Or.inl ⟨rfl, rfl⟩, v_K_insertNode a.1 a.2.1 a.2.2.1 a.2.2.2.1 a.2.2.2.2.1 a.2.2.2.2.2 hp⟩)
def remN (w : Nat → Int32) (s : Nat) : Nat → Int32 := cond (pl (w s)) (ffl (upd w s (w (na (w s) + 1))) (na (w s)) (na (w s) + 4) 0) w
def C_K_removeNode : e_C := ⟨St × Nat, 2, fun _ => 0, fun a => a.2 < 256, fun a => [.ref 1, .int (nI a.2)], fun a => Hp a.1, fun _ => .inl none, fun a => Hp (uA a.1 0 (remN (a.1.2.1 0) a.2))⟩
def S_K_removeNode : List (Nat × e_C) := [(8, C_D_isPlace), (37, C_A_fill4_2)]
theorem s_K_removeNode : ∀ x ∈ S_K_removeNode, e_Site b_K_removeNode "DumpDesk$Kernel" 2 x.1 x.2 := List.forall_mem_cons.mpr ⟨e_siteSN (y := y_D_isPlace) (host := "DumpDesk") (i := 47) m_D_isPlace (by decide) (by decide) (fun _ => rfl) (by decide +kernel) (e_in2 102 rfl rfl) (e_in1 1 rfl rfl) (e_in2 103 rfl rfl) ⟨by decide, by decide, rfl⟩ (by decide +kernel), List.forall_mem_cons.mpr ⟨e_siteS (y := y_A_fill4) (i := 41) m_A_fill4_2 (by decide) (by decide) (fun _ => rfl) (e_in2 92 rfl rfl) (e_in1 231 rfl rfl) (e_in1 4 rfl rfl) (e_in1 232 rfl rfl) ⟨by decide, by decide, rfl⟩ (by decide +kernel), fun x hx => (by cases hx)⟩⟩
theorem v_K_removeNode (u : St) (s : Nat) (hp : s < 256) (J : e_Jt) (hC : e_P0 F_K S_K_removeNode k_K_removeNode none (Hp (uA u 0 (remN (u.2.1 0) s))) J) : J 0 0 [(0, .ref 1), (1, .int (nI s))] [] (Hp u) := by
  refine e_run hC ?_
  conv => whnf
  refine ⟨vp_in_nI (by omega) (by decide), ?_⟩
  rw [nI_clamp (by omega)]
  refine e_run hC ?_
  conv => whnf
  refine ⟨(Hp u, u.2.1 0 s), trivial, rfl, rfl, ?_⟩
  conv => whnf
  dsimp only [C_D_isPlace]
  refine e_run hC ?_
  conv => whnf
  refine ⟨fun h1 => ?_, fun h1 => ?_⟩
  · refine e_run hC ?_
    conv => whnf
    refine ⟨rfl, ?_⟩
    unfold remN
    rw [bi0.mp h1, cond_false, uA_self]
  · have h2 := bi1 h1
    obtain ⟨g1, g2, g3, g4⟩ := pl_na h2
    rw [g1]
    refine e_run hC ?_
    conv => whnf
    rw [nI_1]
    refine ⟨vp_in_nI (by omega) (by decide), ?_⟩
    rw [nI_clamp (by omega)]
    refine e_run hC ?_
    conv => whnf
    refine ⟨vp_in_nI (by omega) (by decide), ?_⟩
    rw [nI_clamp (by omega), h_a0]
    refine e_run hC ?_
    conv => whnf
    refine ⟨(uA u 0 (upd (u.2.1 0) s (u.2.1 0 (na (u.2.1 0 s) + 1))), na (u.2.1 0 s), na (u.2.1 0 s) + 4, 0), ⟨Nat.le_add_right _ _, by show na (u.2.1 0 s) + 4 ≤ 256; omega⟩, ?_, rfl, ?_⟩
    · show [Value.ref 2, .int (nI (na (u.2.1 0 s))), .int (nI (na (u.2.1 0 s) + 4)), .int 0] = [Value.ref 2, .int (nI (na (u.2.1 0 s))), .int (nI (na (u.2.1 0 s)) + 4), .int 0]
      rw [show (4 : Int32) = nI 4 from rfl, nI_add]
    conv => whnf
    dsimp only [C_A_fill4_2]
    refine e_run hC ?_
    conv => whnf
    refine ⟨rfl, ?_⟩
    rw [uA_uA]
    unfold remN
    rw [h2, cond_true]
    rfl
theorem m_K_removeNode (l : Launch) (hl : l.stackTraces = false) : e_Met l y_K_removeNode b_K_removeNode 3 none 2 C_K_removeNode :=
  e_met hl F_K C_K S_K_removeNode k_K_removeNode (by decide +kernel) f_K c_K s_K_removeNode o_K_removeNode (fun a _ => ⟨Nat.le_of_ble_eq_true rfl, rfl⟩) (fun a hp => ⟨_, rfl, Or.inl ⟨rfl, rfl⟩, v_K_removeNode a.1 a.2 hp⟩)
def fRW (t : Int32) : Nat → Nat → (Nat → Int32) → (Nat → Int32)
  | 0, _, w => w
  | n + 1, s, w => cond (pl (w s)) (if w (na (w s) + 2) = t then fRW t n s (remN w s) else fRW t n (na (w s) + 1) w) w
def C_K_removeWaiters : e_C := ⟨St × Nat × Int32, 3, fun _ => 0, fun a => a.2.1 < 256, fun a => [.ref 1, .int (nI a.2.1), .int a.2.2], fun a => Hp a.1, fun _ => .inl none, fun a => Hp (uA a.1 0 (fRW a.2.2 56 a.2.1 (a.1.2.1 0)))⟩
def S_K_removeWaiters : List (Nat × e_C) := [(18, C_D_isPlace), (47, C_K_removeNode)]
theorem s_K_removeWaiters : ∀ x ∈ S_K_removeWaiters, e_Site b_K_removeWaiters "DumpDesk$Kernel" 3 x.1 x.2 := List.forall_mem_cons.mpr ⟨e_siteSN (y := y_D_isPlace) (host := "DumpDesk") (i := 47) m_D_isPlace (by decide) (by decide) (fun _ => rfl) (by decide +kernel) (e_in2 102 rfl rfl) (e_in1 1 rfl rfl) (e_in2 103 rfl rfl) ⟨by decide, by decide, rfl⟩ (by decide +kernel), List.forall_mem_cons.mpr ⟨e_siteV (y := y_K_removeNode) (i := 65) (ci := 1) m_K_removeNode (by decide) (by decide) (fun _ => rfl) rfl (fun a _ => ⟨_, _, _, rfl, by decide, rfl⟩) rfl (e_in2 144 rfl rfl) (e_in2 145 rfl rfl) (e_in1 2 rfl rfl) (e_in2 147 rfl rfl) (e_in2 146 rfl rfl) ⟨by decide, by decide, rfl⟩ (by decide +kernel), fun x hx => (by cases hx)⟩⟩
theorem v_K_removeWaiters (u : St) (hd : Nat) (t : Int32) (hp : hd < 256) (J : e_Jt) (hC : e_P0 F_K S_K_removeWaiters k_K_removeWaiters none (Hp (uA u 0 (fRW t 56 hd (u.2.1 0)))) J) : J 0 0 [(0, .ref 1), (1, .int (nI hd)), (2, .int t)] [] (Hp u) := by
  have out : ∀ (u1 : St) s k, Hp u1 = Hp (uA u 0 (fRW t 56 hd (u.2.1 0))) → J 0 64 [(0, .ref 1), (1, .int (nI hd)), (2, .int t), (3, .int (nI s)), (4, .int (nI k))] [] (Hp u1) := by
    intro u1 s k h1
    refine e_run hC ?_
    conv => whnf
    exact ⟨rfl, h1⟩
  have loop : ∀ n k s (u1 : St), k + n = 56 → s < 256 → Hp (uA u1 0 (fRW t n s (u1.2.1 0))) = Hp (uA u 0 (fRW t 56 hd (u.2.1 0))) → J 0 5 [(0, .ref 1), (1, .int (nI hd)), (2, .int t), (3, .int (nI s)), (4, .int (nI k))] [] (Hp u1) := by
    intro n
    induction n with
    | zero =>
      intro k s u1 h1 h2 h3
      refine e_run hC ?_
      conv => whnf
      refine ⟨fun _ => out u1 s k ?_, fun h4 => absurd (nI_le (a := 56) (by omega) (by omega)) h4⟩
      rw [← h3]
      show Hp u1 = Hp (uA u1 0 (u1.2.1 0))
      rw [uA_self]
    | succ n ih =>
      intro k s u1 h1 h2 h3
      refine e_run hC ?_
      conv => whnf
      refine ⟨fun h4 => absurd h4 (nI_ge (b := 56) (by omega) (by decide)), fun _ => ?_⟩
      refine e_run hC ?_
      conv => whnf
      refine ⟨vp_in_nI (by omega) (by decide), ?_⟩
      rw [nI_clamp (by omega)]
      refine e_run hC ?_
      conv => whnf
      refine ⟨(Hp u1, u1.2.1 0 s), trivial, rfl, rfl, ?_⟩
      conv => whnf
      dsimp only [C_D_isPlace]
      have eq : fRW t (n + 1) s (u1.2.1 0) = cond (pl (u1.2.1 0 s)) (if u1.2.1 0 (na (u1.2.1 0 s) + 2) = t then fRW t n s (remN (u1.2.1 0) s) else fRW t n (na (u1.2.1 0 s) + 1) (u1.2.1 0)) (u1.2.1 0) := rfl
      refine e_run hC ?_
      conv => whnf
      refine ⟨fun h5 => out u1 s k ?_, fun h5 => ?_⟩
      · rw [← h3, eq, bi0.mp h5, cond_false, uA_self]
      have h6 := bi1 h5
      obtain ⟨g1, g2, g3, g4⟩ := pl_na h6
      rw [eq, h6, cond_true] at h3
      refine e_run hC ?_
      conv => whnf
      refine ⟨vp_in_nI (by omega) (by decide), ?_⟩
      rw [nI_clamp (by omega)]
      refine e_run hC ?_
      conv => whnf
      rw [g1, show (2 : Int32) = nI 2 from rfl, nI_add]
      refine ⟨vp_in_nI (by omega) (by decide), ?_⟩
      rw [nI_clamp (by omega)]
      refine e_run hC ?_
      conv => whnf
      refine ⟨fun h7 => ?_, fun h7 => ?_⟩
      · rw [if_neg h7] at h3
        refine e_run hC ?_
        conv => whnf
        rw [nI_1, nI_1]
        exact e_weak hC [0, 1, 2, 3, 4] rfl rfl (ih (k + 1) (na (u1.2.1 0 s) + 1) u1 (by omega) (by omega) h3)
      · rw [if_pos h7] at h3
        refine e_run hC ?_
        conv => whnf
        refine ⟨(u1, s), h2, rfl, rfl, ?_⟩
        conv => whnf
        dsimp only [C_K_removeNode]
        refine e_run hC ?_
        conv => whnf
        refine e_run hC ?_
        conv => whnf
        rw [nI_1]
        refine e_weak hC [0, 1, 2, 3, 4] rfl rfl (ih (k + 1) s _ (by omega) h2 ?_)
        rw [← h3, uA_uA]
        rfl
  refine e_runTo 5 hC ?_
  conv => whnf
  exact loop 56 0 hd u rfl hp rfl
theorem m_K_removeWaiters (l : Launch) (hl : l.stackTraces = false) : e_Met l y_K_removeWaiters b_K_removeWaiters 6 none 3 C_K_removeWaiters :=
  e_met hl F_K C_K S_K_removeWaiters k_K_removeWaiters (by decide +kernel) f_K c_K s_K_removeWaiters o_K_removeWaiters (fun a _ => ⟨Nat.le_of_ble_eq_true rfl, rfl⟩) (fun a hp => ⟨_, rfl, Or.inl ⟨rfl, rfl⟩, v_K_removeWaiters a.1 a.2.1 a.2.2 hp⟩)
