/-! the kernel's calls -/
theorem st56 : steps56 56 = 56 := by decide +kernel
theorem uS_get (u : St) (k : Nat) (x : Int32) : (uS u k x).2 = u.2 := rfl
def C_K_addTask : e_C := ⟨St × Nat × Int32, 3, fun _ => 0, fun a => a.2.1 < 253, fun a => [.ref 1, .int (nI a.2.1), .int a.2.2], fun a => Hp a.1, fun a => .inl (some (.int (a.1.1 2))), fun a => Hp (uS (uA a.1 0 (insN (a.1.2.1 0) (fslot (a.1.2.1 0) 56 0) a.2.1 7001 a.2.2 (a.1.1 2))) 2 (a.1.1 2 + 1))⟩
def S_K_addTask : List (Nat × e_C) := [(10, C_K_slotOf), (19, C_K_insertNode)]
theorem s_K_addTask : ∀ x ∈ S_K_addTask, e_Site b_K_addTask "DumpDesk$Kernel" 2 x.1 x.2 := List.forall_mem_cons.mpr ⟨e_siteV (y := y_K_slotOf) (i := 51) (ci := 1) m_K_slotOf (by decide) (by decide) (fun _ => rfl) rfl (fun a _ => ⟨_, _, _, rfl, by decide, rfl⟩) rfl (e_in2 97 rfl rfl) (e_in2 98 rfl rfl) (e_in1 2 rfl rfl) (e_in2 100 rfl rfl) (e_in2 99 rfl rfl) ⟨by decide, by decide, rfl⟩ (by decide +kernel), List.forall_mem_cons.mpr ⟨e_siteV (y := y_K_insertNode) (i := 55) (ci := 1) m_K_insertNode (by decide) (by decide) (fun _ => rfl) rfl (fun a _ => ⟨_, _, _, rfl, by decide, rfl⟩) rfl (e_in2 104 rfl rfl) (e_in2 105 rfl rfl) (e_in1 2 rfl rfl) (e_in2 107 rfl rfl) (e_in2 106 rfl rfl) ⟨by decide, by decide, rfl⟩ (by decide +kernel), fun x hx => (by cases hx)⟩⟩
theorem v_K_addTask (u : St) (p : Nat) (x : Int32) (hp : p < 253) (J : e_Jt) (hC : e_P0 F_K S_K_addTask k_K_addTask (some (.int (u.1 2))) (Hp (uS (uA u 0 (insN (u.2.1 0) (fslot (u.2.1 0) 56 0) p 7001 x (u.1 2))) 2 (u.1 2 + 1))) J) : J 0 0 [(0, .ref 1), (1, .int (nI p)), (2, .int x)] [] (Hp u) := by
  have h3 := fslot_lt (u.2.1 0) 56 0 (by decide)
  refine e_run hC ?_
  conv => whnf
  refine ⟨(u, 0, 56), (by decide : 0 < 256), rfl, rfl, ?_⟩
  conv => whnf
  dsimp only [C_K_slotOf]
  rw [st56]
  refine e_run hC ?_
  conv => whnf
  refine ⟨(u, fslot (u.2.1 0) 56 0, p, 7001, x, u.1 2), ⟨h3, hp⟩, rfl, rfl, ?_⟩
  conv => whnf
  dsimp only [C_K_insertNode]
  refine e_run hC ?_
  conv => whnf
  rw [h_s2]
  refine e_run hC ?_
  conv => whnf
  exact ⟨rfl, rfl⟩
theorem m_K_addTask (l : Launch) (hl : l.stackTraces = false) : e_Met l y_K_addTask b_K_addTask 4 (some .int) 2 C_K_addTask :=
  e_met hl F_K C_K S_K_addTask k_K_addTask (by decide +kernel) f_K c_K s_K_addTask o_K_addTask (fun a _ => ⟨Nat.le_of_ble_eq_true rfl, rfl⟩) (fun a hp => ⟨_, rfl, Or.inr ⟨.int, _, rfl, rfl, rfl⟩, v_K_addTask a.1 a.2.1 a.2.2 hp⟩)
def fRQ (t : Int32) : Nat → Nat → (Nat → Int32) → (Nat → Int32)
  | 0, _, w => w
  | n + 1, q, w => fRQ t n (q + 1) (fRW t 56 q w)
theorem tkA_or (w : Nat → Int32) (i : Int32) : tkA w i = 0 ∨ pl (tkA w i) = true := by
  unfold tkA
  split
  · exact Or.inl rfl
  · cases h : pl (w (fslot w (steps56 i) 0)) with
    | false => exact Or.inl rfl
    | true => exact Or.inr h
theorem tkA_na (w : Nat → Int32) (i : Int32) : tkA w i = nI (na (tkA w i)) ∧ na (tkA w i) ≤ 236 := by
  rcases tkA_or w i with h | h
  · rw [h]; exact ⟨rfl, by decide⟩
  · exact ⟨(pl_na h).1, (pl_na h).2.2.1⟩
def C_K_endTask : e_C := ⟨St × Int32, 2, fun _ => 0, fun _ => True, fun a => [.ref 1, .int a.2], fun a => Hp a.1, fun a => .inl (some (.int (a.1.2.1 0 (na (tkA (a.1.2.1 0) a.2) + 3)))), fun a => Hp (uA a.1 0 (remN (fRQ (tkA (a.1.2.1 0) a.2) 4 2 (a.1.2.1 0)) (fslot (fRQ (tkA (a.1.2.1 0) a.2) 4 2 (a.1.2.1 0)) (steps56 a.2) 0)))⟩
def S_K_endTask : List (Nat × e_C) := [(2, C_K_taskAt), (30, C_K_removeWaiters), (43, C_K_slotOf), (46, C_K_removeNode)]
theorem s_K_endTask : ∀ x ∈ S_K_endTask, e_Site b_K_endTask "DumpDesk$Kernel" 4 x.1 x.2 := List.forall_mem_cons.mpr ⟨e_siteV (y := y_K_taskAt) (i := 59) (ci := 1) m_K_taskAt (by decide) (by decide) (fun _ => rfl) rfl (fun a _ => ⟨_, _, _, rfl, by decide, rfl⟩) rfl (e_in2 139 rfl rfl) (e_in2 117 rfl rfl) (e_in1 2 rfl rfl) (e_in2 119 rfl rfl) (e_in2 118 rfl rfl) ⟨by decide, by decide, rfl⟩ (by decide +kernel), List.forall_mem_cons.mpr ⟨e_siteV (y := y_K_removeWaiters) (i := 62) (ci := 1) m_K_removeWaiters (by decide) (by decide) (fun _ => rfl) rfl (fun a _ => ⟨_, _, _, rfl, by decide, rfl⟩) rfl (e_in2 140 rfl rfl) (e_in2 141 rfl rfl) (e_in1 2 rfl rfl) (e_in2 143 rfl rfl) (e_in2 142 rfl rfl) ⟨by decide, by decide, rfl⟩ (by decide +kernel), List.forall_mem_cons.mpr ⟨e_siteV (y := y_K_slotOf) (i := 51) (ci := 1) m_K_slotOf (by decide) (by decide) (fun _ => rfl) rfl (fun a _ => ⟨_, _, _, rfl, by decide, rfl⟩) rfl (e_in2 97 rfl rfl) (e_in2 98 rfl rfl) (e_in1 2 rfl rfl) (e_in2 100 rfl rfl) (e_in2 99 rfl rfl) ⟨by decide, by decide, rfl⟩ (by decide +kernel), List.forall_mem_cons.mpr ⟨e_siteV (y := y_K_removeNode) (i := 65) (ci := 1) m_K_removeNode (by decide) (by decide) (fun _ => rfl) rfl (fun a _ => ⟨_, _, _, rfl, by decide, rfl⟩) rfl (e_in2 144 rfl rfl) (e_in2 145 rfl rfl) (e_in1 2 rfl rfl) (e_in2 147 rfl rfl) (e_in2 146 rfl rfl) ⟨by decide, by decide, rfl⟩ (by decide +kernel), fun x hx => (by cases hx)⟩⟩⟩⟩
theorem v_K_endTask (u : St) (i : Int32) (J : e_Jt) (hC : e_P0 F_K S_K_endTask k_K_endTask (some (.int (u.2.1 0 (na (tkA (u.2.1 0) i) + 3)))) (Hp (uA u 0 (remN (fRQ (tkA (u.2.1 0) i) 4 2 (u.2.1 0)) (fslot (fRQ (tkA (u.2.1 0) i) 4 2 (u.2.1 0)) (steps56 i) 0)))) J) : J 0 0 [(0, .ref 1), (1, .int i)] [] (Hp u) := by
  obtain ⟨ht1, ht2⟩ := tkA_na (u.2.1 0) i
  have loop : ∀ n q (u1 : St), q + n = 4 → Hp (uA u1 0 (fRQ (tkA (u.2.1 0) i) n (2 + q) (u1.2.1 0))) = Hp (uA u 0 (fRQ (tkA (u.2.1 0) i) 4 2 (u.2.1 0))) → (uA u1 0 (fRQ (tkA (u.2.1 0) i) n (2 + q) (u1.2.1 0))) = (uA u 0 (fRQ (tkA (u.2.1 0) i) 4 2 (u.2.1 0))) → J 0 18 [(0, .ref 1), (1, .int i), (2, .int (tkA (u.2.1 0) i)), (3, .int (u.2.1 0 (na (tkA (u.2.1 0) i) + 3))), (4, .int (nI q))] [] (Hp u1) := by
    intro n
    induction n with
    | zero =>
      intro q u1 h1 h2 h2'
      refine e_run hC ?_
      conv => whnf
      refine ⟨fun _ => ?_, fun h4 => absurd (nI_le (a := 4) (by omega) (by omega)) h4⟩
      have h3 : u1 = uA u 0 (fRQ (tkA (u.2.1 0) i) 4 2 (u.2.1 0)) := by
        rw [← h2']
        show u1 = uA u1 0 (u1.2.1 0)
        rw [uA_self]
      subst h3
      have h5 := fslot_lt (fRQ (tkA (u.2.1 0) i) 4 2 (u.2.1 0)) (steps56 i) 0 (by decide)
      refine e_run hC ?_
      conv => whnf
      refine ⟨(uA u 0 (fRQ (tkA (u.2.1 0) i) 4 2 (u.2.1 0)), 0, i), (by decide : 0 < 256), rfl, rfl, ?_⟩
      conv => whnf
      dsimp only [C_K_slotOf]
      refine e_run hC ?_
      conv => whnf
      refine ⟨(uA u 0 (fRQ (tkA (u.2.1 0) i) 4 2 (u.2.1 0)), fslot (fRQ (tkA (u.2.1 0) i) 4 2 (u.2.1 0)) (steps56 i) 0), h5, rfl, rfl, ?_⟩
      conv => whnf
      dsimp only [C_K_removeNode]
      refine e_run hC ?_
      conv => whnf
      rw [uA_uA]
      exact ⟨rfl, rfl⟩
    | succ n ih =>
      intro q u1 h1 h2 h2'
      refine e_run hC ?_
      conv => whnf
      refine ⟨fun h4 => absurd h4 (nI_ge (b := 4) (by omega) (by decide)), fun _ => ?_⟩
      refine e_run hC ?_
      conv => whnf
      refine ⟨(u1, 2 + q, tkA (u.2.1 0) i), (by omega : 2 + q < 256), ?_, rfl, ?_⟩
      · show [Value.ref 1, .int (nI (2 + q)), .int (tkA (u.2.1 0) i)] = [Value.ref 1, .int (2 + nI q), .int (tkA (u.2.1 0) i)]
        rw [show (2 : Int32) = nI 2 from rfl, nI_add]
      conv => whnf
      dsimp only [C_K_removeWaiters]
      refine e_run hC ?_
      conv => whnf
      rw [nI_1]
      have e1 : uA (uA u1 0 (fRW (tkA (u.2.1 0) i) 56 (2 + q) (u1.2.1 0))) 0 (fRQ (tkA (u.2.1 0) i) n (2 + (q + 1)) ((uA u1 0 (fRW (tkA (u.2.1 0) i) 56 (2 + q) (u1.2.1 0))).2.1 0)) = uA u 0 (fRQ (tkA (u.2.1 0) i) 4 2 (u.2.1 0)) := by
        rw [uA_uA, ← h2']
        rfl
      exact ih (q + 1) _ (by omega) (by rw [e1]) e1
  refine e_run hC ?_
  conv => whnf
  refine ⟨(u, i), trivial, rfl, rfl, ?_⟩
  conv => whnf
  dsimp only [C_K_taskAt]
  refine e_run hC ?_
  conv => whnf
  have e3 : tkA (u.2.1 0) i + 3 = nI (na (tkA (u.2.1 0) i) + 3) := by
    rw [show (3 : Int32) = nI 3 from rfl, ← nI_add, ← ht1]
  rw [e3]
  refine ⟨vp_in_nI (by omega) (by decide), ?_⟩
  rw [nI_clamp (by omega)]
  refine e_runTo 18 hC ?_
  conv => whnf
  exact loop 4 0 u rfl rfl rfl
theorem m_K_endTask (l : Launch) (hl : l.stackTraces = false) : e_Met l y_K_endTask b_K_endTask 5 (some .int) 4 C_K_endTask :=
  e_met hl F_K C_K S_K_endTask k_K_endTask (by decide +kernel) f_K c_K s_K_endTask o_K_endTask (fun a _ => ⟨Nat.le_of_ble_eq_true rfl, rfl⟩) (fun a hp => ⟨_, rfl, Or.inr ⟨.int, _, rfl, rfl, rfl⟩, v_K_endTask a.1 a.2⟩)
def C_K_addWaiter : e_C := ⟨St × Nat × Int32 × Nat, 4, fun _ => 0, fun a => a.2.1 < 253 ∧ a.2.2.2 < 4, fun a => [.ref 1, .int (nI a.2.1), .int a.2.2.1, .int (nI a.2.2.2)], fun a => Hp a.1, fun _ => .inl none, fun a => Hp (uA a.1 0 (insN (a.1.2.1 0) (fslot (a.1.2.1 0) 56 (2 + a.2.2.2)) a.2.1 7003 a.2.2.1 0))⟩
def S_K_addWaiter : List (Nat × e_C) := [(7, C_K_slotOf), (16, C_K_insertNode)]
theorem s_K_addWaiter : ∀ x ∈ S_K_addWaiter, e_Site b_K_addWaiter "DumpDesk$Kernel" 2 x.1 x.2 := List.forall_mem_cons.mpr ⟨e_siteV (y := y_K_slotOf) (i := 51) (ci := 1) m_K_slotOf (by decide) (by decide) (fun _ => rfl) rfl (fun a _ => ⟨_, _, _, rfl, by decide, rfl⟩) rfl (e_in2 97 rfl rfl) (e_in2 98 rfl rfl) (e_in1 2 rfl rfl) (e_in2 100 rfl rfl) (e_in2 99 rfl rfl) ⟨by decide, by decide, rfl⟩ (by decide +kernel), List.forall_mem_cons.mpr ⟨e_siteV (y := y_K_insertNode) (i := 55) (ci := 1) m_K_insertNode (by decide) (by decide) (fun _ => rfl) rfl (fun a _ => ⟨_, _, _, rfl, by decide, rfl⟩) rfl (e_in2 104 rfl rfl) (e_in2 105 rfl rfl) (e_in1 2 rfl rfl) (e_in2 107 rfl rfl) (e_in2 106 rfl rfl) ⟨by decide, by decide, rfl⟩ (by decide +kernel), fun x hx => (by cases hx)⟩⟩
theorem v_K_addWaiter (u : St) (p : Nat) (x : Int32) (q : Nat) (hp : p < 253 ∧ q < 4) (J : e_Jt) (hC : e_P0 F_K S_K_addWaiter k_K_addWaiter none (Hp (uA u 0 (insN (u.2.1 0) (fslot (u.2.1 0) 56 (2 + q)) p 7003 x 0))) J) : J 0 0 [(0, .ref 1), (1, .int (nI p)), (2, .int x), (3, .int (nI q))] [] (Hp u) := by
  obtain ⟨h1, h2⟩ := hp
  have h3 := fslot_lt (u.2.1 0) 56 (2 + q) (by omega)
  refine e_run hC ?_
  conv => whnf
  refine ⟨(u, 2 + q, 56), (by omega : 2 + q < 256), ?_, rfl, ?_⟩
  · show [Value.ref 1, .int (nI (2 + q)), .int 56] = [Value.ref 1, .int (2 + nI q), .int 56]
    rw [show (2 : Int32) = nI 2 from rfl, nI_add]
  conv => whnf
  dsimp only [C_K_slotOf]
  rw [st56]
  refine e_run hC ?_
  conv => whnf
  refine ⟨(u, fslot (u.2.1 0) 56 (2 + q), p, 7003, x, 0), ⟨h3, h1⟩, rfl, rfl, ?_⟩
  conv => whnf
  dsimp only [C_K_insertNode]
  refine e_run hC ?_
  conv => whnf
  exact ⟨rfl, rfl⟩
theorem m_K_addWaiter (l : Launch) (hl : l.stackTraces = false) : e_Met l y_K_addWaiter b_K_addWaiter 4 none 2 C_K_addWaiter :=
  e_met hl F_K C_K S_K_addWaiter k_K_addWaiter (by decide +kernel) f_K c_K s_K_addWaiter o_K_addWaiter (fun a _ => ⟨Nat.le_of_ble_eq_true rfl, rfl⟩) (fun a hp => ⟨_, rfl, Or.inl ⟨rfl, rfl⟩, v_K_addWaiter a.1 a.2.1 a.2.2.1 a.2.2.2 hp⟩)
def C_K_hasWaiter : e_C := ⟨St × Nat, 2, fun _ => 0, fun a => a.2 < 4, fun a => [.ref 1, .int (nI a.2)], fun a => Hp a.1, fun a => .inl (some (.int (bi (pl (a.1.2.1 0 (2 + a.2)))))), fun a => Hp a.1⟩
def S_K_hasWaiter : List (Nat × e_C) := [(8, C_D_isPlace)]
theorem s_K_hasWaiter : ∀ x ∈ S_K_hasWaiter, e_Site b_K_hasWaiter "DumpDesk$Kernel" 1 x.1 x.2 := List.forall_mem_cons.mpr ⟨e_siteSN (y := y_D_isPlace) (host := "DumpDesk") (i := 47) m_D_isPlace (by decide) (by decide) (fun _ => rfl) (by decide +kernel) (e_in2 102 rfl rfl) (e_in1 1 rfl rfl) (e_in2 103 rfl rfl) ⟨by decide, by decide, rfl⟩ (by decide +kernel), fun x hx => (by cases hx)⟩
theorem v_K_hasWaiter (u : St) (q : Nat) (hp : q < 4) (J : e_Jt) (hC : e_P0 F_K S_K_hasWaiter k_K_hasWaiter (some (.int (bi (pl (u.2.1 0 (2 + q)))))) (Hp u) J) : J 0 0 [(0, .ref 1), (1, .int (nI q))] [] (Hp u) := by
  refine e_run hC ?_
  conv => whnf
  rw [show (2 : Int32) = nI 2 from rfl, nI_add]
  refine ⟨vp_in_nI (by omega) (by decide), ?_⟩
  rw [nI_clamp (by omega)]
  refine e_run hC ?_
  conv => whnf
  refine ⟨(Hp u, u.2.1 0 (2 + q)), trivial, rfl, rfl, ?_⟩
  conv => whnf
  dsimp only [C_D_isPlace]
  refine e_run hC ?_
  conv => whnf
  exact ⟨rfl, rfl⟩
theorem m_K_hasWaiter (l : Launch) (hl : l.stackTraces = false) : e_Met l y_K_hasWaiter b_K_hasWaiter 2 (some .boolean) 1 C_K_hasWaiter :=
  e_met hl F_K C_K S_K_hasWaiter k_K_hasWaiter (by decide +kernel) f_K c_K s_K_hasWaiter o_K_hasWaiter (fun a _ => ⟨Nat.le_of_ble_eq_true rfl, rfl⟩) (fun a hp => ⟨_, rfl, Or.inr ⟨.boolean, _, rfl, rfl, bi_ok _⟩, v_K_hasWaiter a.1 a.2 hp⟩)
/-- what wakeFirst answers -/
def wkA (w : Nat → Int32) (q : Nat) : Int32 := cond (pl (w (na (w (2 + q)) + 2))) (remN w (2 + q) (na (w (na (w (2 + q)) + 2)) + 3)) 0
def C_K_wakeFirst : e_C := ⟨St × Nat, 2, fun _ => 0, fun a => a.2 < 4 ∧ pl (a.1.2.1 0 (2 + a.2)) = true, fun a => [.ref 1, .int (nI a.2)], fun a => Hp a.1, fun a => .inl (some (.int (wkA (a.1.2.1 0) a.2))), fun a => Hp (uA a.1 0 (remN (a.1.2.1 0) (2 + a.2)))⟩
def S_K_wakeFirst : List (Nat × e_C) := [(20, C_K_removeNode), (24, C_D_isPlace)]
theorem s_K_wakeFirst : ∀ x ∈ S_K_wakeFirst, e_Site b_K_wakeFirst "DumpDesk$Kernel" 3 x.1 x.2 := List.forall_mem_cons.mpr ⟨e_siteV (y := y_K_removeNode) (i := 65) (ci := 1) m_K_removeNode (by decide) (by decide) (fun _ => rfl) rfl (fun a _ => ⟨_, _, _, rfl, by decide, rfl⟩) rfl (e_in2 144 rfl rfl) (e_in2 145 rfl rfl) (e_in1 2 rfl rfl) (e_in2 147 rfl rfl) (e_in2 146 rfl rfl) ⟨by decide, by decide, rfl⟩ (by decide +kernel), List.forall_mem_cons.mpr ⟨e_siteSN (y := y_D_isPlace) (host := "DumpDesk") (i := 47) m_D_isPlace (by decide) (by decide) (fun _ => rfl) (by decide +kernel) (e_in2 102 rfl rfl) (e_in1 1 rfl rfl) (e_in2 103 rfl rfl) ⟨by decide, by decide, rfl⟩ (by decide +kernel), fun x hx => (by cases hx)⟩⟩
theorem v_K_wakeFirst (u : St) (q : Nat) (hp : q < 4 ∧ pl (u.2.1 0 (2 + q)) = true) (J : e_Jt) (hC : e_P0 F_K S_K_wakeFirst k_K_wakeFirst (some (.int (wkA (u.2.1 0) q))) (Hp (uA u 0 (remN (u.2.1 0) (2 + q)))) J) : J 0 0 [(0, .ref 1), (1, .int (nI q))] [] (Hp u) := by
  obtain ⟨h1, h2⟩ := hp
  obtain ⟨g1, g2, g3, g4⟩ := pl_na h2
  have e2 : (2 : Int32) + nI q = nI (2 + q) := by rw [show (2 : Int32) = nI 2 from rfl, nI_add]
  refine e_run hC ?_
  conv => whnf
  rw [e2]
  refine ⟨vp_in_nI (by omega) (by decide), ?_⟩
  rw [nI_clamp (by omega)]
  refine e_run hC ?_
  conv => whnf
  rw [g1, show (2 : Int32) = nI 2 from rfl, nI_add]
  refine ⟨vp_in_nI (by omega) (by decide), ?_⟩
  rw [nI_clamp (by omega)]
  refine e_run hC ?_
  conv => whnf
  refine ⟨(u, 2 + q), (by omega : 2 + q < 256), ?_, rfl, ?_⟩
  · show [Value.ref 1, .int (nI (2 + q))] = [Value.ref 1, .int (2 + nI q)]
    rw [e2]
  conv => whnf
  dsimp only [C_K_removeNode]
  refine e_run hC ?_
  conv => whnf
  refine ⟨(Hp (uA u 0 (remN (u.2.1 0) (2 + q))), u.2.1 0 (na (u.2.1 0 (2 + q)) + 2)), trivial, rfl, rfl, ?_⟩
  conv => whnf
  dsimp only [C_D_isPlace]
  refine e_run hC ?_
  conv => whnf
  refine ⟨fun h3 => ?_, fun h3 => ?_⟩
  · refine e_run hC ?_
    conv => whnf
    refine ⟨?_, rfl⟩
    unfold wkA
    rw [bi0.mp h3]
    rfl
  · have h4 := bi1 h3
    obtain ⟨k1, k2, k3, k4⟩ := pl_na h4
    refine e_run hC ?_
    conv => whnf
    have e4 : u.2.1 0 (na (u.2.1 0 (2 + q)) + 2) + 3 = nI (na (u.2.1 0 (na (u.2.1 0 (2 + q)) + 2)) + 3) := by
      rw [show (3 : Int32) = nI 3 from rfl, ← nI_add, ← k1]
    rw [e4]
    refine ⟨vp_in_nI (by omega) (by decide), ?_⟩
    rw [nI_clamp (by omega)]
    refine e_run hC ?_
    conv => whnf
    refine e_run hC ?_
    conv => whnf
    refine ⟨?_, rfl⟩
    unfold wkA
    rw [h4]
    rfl
theorem m_K_wakeFirst (l : Launch) (hl : l.stackTraces = false) : e_Met l y_K_wakeFirst b_K_wakeFirst 3 (some .int) 3 C_K_wakeFirst :=
  e_met hl F_K C_K S_K_wakeFirst k_K_wakeFirst (by decide +kernel) f_K c_K s_K_wakeFirst o_K_wakeFirst (fun a _ => ⟨Nat.le_of_ble_eq_true rfl, rfl⟩) (fun a hp => ⟨_, rfl, Or.inr ⟨.int, _, rfl, rfl, rfl⟩, v_K_wakeFirst a.1 a.2 hp⟩)
