/-! the sectors, sums -/
def C_A_fill2_4 : e_C := ⟨St × Int32, 2, fun _ => 0, fun _ => True, fun a => [.ref 4, .int a.2], fun a => Hp a.1, fun _ => .inl none, fun a => Hp (uA a.1 1 (ffl (a.1.2.1 1) 0 768 a.2))⟩
def S_A_fill2_4 : List (Nat × e_C) := []
theorem s_A_fill2_4 : ∀ x ∈ S_A_fill2_4, e_Site b_A_fill2 "java/util/Arrays" 0 x.1 x.2 := fun x hx => (by cases hx)
theorem v_A_fill2_4 (u : St) (v : Int32) (J : e_Jt) (G : Nat → Int32) (hG : ffl (u.2.1 1) 0 768 v = G) (hC : e_P0 F_A S_A_fill2_4 k_A_fill2 none (Hp (uA u 1 G)) J) : J 0 0 [(0, .ref 4), (1, .int v)] [] (Hp u) := by
  have loop : ∀ n z f, z + n = 768 → ffl f z 768 v = G → J 0 5 [(0, .ref 4), (1, .int v), (2, .int (nI z)), (3, .int (nI 768))] [] (Hp (uA u 1 f)) := by
    intro n
    induction n with
    | zero =>
      intro z f h3 h4
      refine e_run hC ?_
      conv => whnf
      refine ⟨fun _ => ?_, fun h5 => absurd (nI_le (by omega) (by omega)) h5⟩
      refine e_run hC ?_
      conv => whnf
      refine ⟨rfl, ?_⟩
      rw [← h4, show z = 768 by omega, ffl_end]
    | succ n ih =>
      intro z f h3 h4
      refine e_run hC ?_
      conv => whnf
      refine ⟨fun h5 => absurd h5 (nI_ge (by omega) (by omega)), fun _ => ?_⟩
      refine e_run hC ?_
      conv => whnf
      refine ⟨vp_in_nI (by omega) (by decide), ?_⟩
      rw [nI_clamp (by omega), h_a1, uA_uA]
      refine e_run hC ?_
      conv => whnf
      rw [nI_1]
      refine ih (z + 1) _ (by omega) ?_
      rw [← h4]
      show ffl (upd f z v) (z + 1) 768 v = _
      rw [ffl_step _ _ _ _ (by omega)]
  refine e_runTo 5 hC ?_
  conv => whnf
  have h0 := loop 768 0 (u.2.1 1) rfl hG
  rw [uA_self] at h0
  exact h0
theorem m_A_fill2_4 (l : Launch) (hl : l.stackTraces = false) : e_Met l y_A_fill2 b_A_fill2 4 none 0 C_A_fill2_4 :=
  e_met hl F_A C_A S_A_fill2_4 k_A_fill2 (by decide +kernel) f_A c_A s_A_fill2_4 o_A_fill2 (fun a _ => ⟨Nat.le_of_ble_eq_true rfl, rfl⟩) (fun a hp => ⟨_, rfl, Or.inl ⟨rfl, rfl⟩, fun J hC => v_A_fill2_4 a.1 a.2 J _ rfl hC⟩)
def C_S_eraseAll : e_C := ⟨St, 1, fun _ => 0, fun _ => True, fun _ => [.ref 3], fun a => Hp a, fun _ => .inl none, fun a => Hp (uA a 1 (ffl (a.2.1 1) 0 768 (-1)))⟩
def S_S_eraseAll : List (Nat × e_C) := [(5, C_A_fill2_4)]
theorem s_S_eraseAll : ∀ x ∈ S_S_eraseAll, e_Site b_S_eraseAll "DumpDesk$Sectors" 1 x.1 x.2 := List.forall_mem_cons.mpr ⟨e_siteS (y := y_A_fill2) (i := 22) m_A_fill2_4 (by decide) (by decide) (fun _ => rfl) (e_in1 68 rfl rfl) (e_in1 69 rfl rfl) (e_in1 4 rfl rfl) (e_in1 70 rfl rfl) ⟨by decide, by decide, rfl⟩ (by decide +kernel), fun x hx => (by cases hx)⟩
theorem v_S_eraseAll (u : St) (J : e_Jt) (hC : e_P0 F_S S_S_eraseAll k_S_eraseAll none (Hp (uA u 1 (ffl (u.2.1 1) 0 768 (-1)))) J) : J 0 0 [(0, .ref 3)] [] (Hp u) := by
  refine e_run hC ?_
  conv => whnf
  refine ⟨(u, -1), trivial, rfl, rfl, ?_⟩
  conv => whnf
  dsimp only [C_A_fill2_4]
  refine e_run hC ?_
  conv => whnf
  exact ⟨rfl, rfl⟩
theorem m_S_eraseAll (l : Launch) (hl : l.stackTraces = false) : e_Met l y_S_eraseAll b_S_eraseAll 1 none 1 C_S_eraseAll :=
  e_met hl F_S C_S S_S_eraseAll k_S_eraseAll (by decide +kernel) f_S c_S s_S_eraseAll o_S_eraseAll (fun a _ => ⟨Nat.le_of_ble_eq_true rfl, rfl⟩) (fun a hp => ⟨_, rfl, Or.inl ⟨rfl, rfl⟩, v_S_eraseAll a⟩)
/-- the next sector that isn't bad, from s on, n of them left -/
def fNG (bd : Nat → Int32) : Nat → Nat → Nat
  | 0, s => s
  | n + 1, s => if bd s = 0 then s else fNG bd n (s + 1)
def C_S_nextGood : e_C := ⟨St × Nat, 2, fun _ => 0, fun a => a.2 ≤ 96, fun a => [.ref 3, .int (nI a.2)], fun a => Hp a.1, fun a => .inl (some (.int (nI (fNG (a.1.2.1 2) (96 - a.2) a.2)))), fun a => Hp a.1⟩
def S_S_nextGood : List (Nat × e_C) := []
theorem s_S_nextGood : ∀ x ∈ S_S_nextGood, e_Site b_S_nextGood "DumpDesk$Sectors" 0 x.1 x.2 := fun x hx => (by cases hx)
theorem v_S_nextGood (u : St) (s0 : Nat) (hp : s0 ≤ 96) (J : e_Jt) (B : Nat) (hB : fNG (u.2.1 2) (96 - s0) s0 = B) (hC : e_P0 F_S S_S_nextGood k_S_nextGood (some (.int (nI B))) (Hp u) J) : J 0 0 [(0, .ref 3), (1, .int (nI s0))] [] (Hp u) := by
  have loop : ∀ n s, s + n = 96 → fNG (u.2.1 2) n s = B → J 0 2 [(0, .ref 3), (1, .int (nI s0)), (2, .int (nI s))] [] (Hp u) := by
    intro n
    induction n with
    | zero =>
      intro s h1 h2
      refine e_run hC ?_
      conv => whnf
      refine ⟨fun _ => ?_, fun h4 => absurd (nI_le (a := 96) (by omega) (by omega)) h4⟩
      refine e_run hC ?_
      conv => whnf
      exact ⟨by rw [← h2]; rfl, rfl⟩
    | succ n ih =>
      intro s h1 h2
      have h2 : (if u.2.1 2 s = 0 then s else fNG (u.2.1 2) n (s + 1)) = B := h2
      refine e_run hC ?_
      conv => whnf
      refine ⟨fun h4 => absurd h4 (nI_ge (b := 96) (by omega) (by decide)), fun _ => ?_⟩
      refine e_run hC ?_
      conv => whnf
      refine ⟨vp_in_nI (by omega) (by decide), ?_⟩
      rw [nI_clamp (by omega)]
      refine e_run hC ?_
      conv => whnf
      refine ⟨fun h5 => ?_, fun h5 => ?_⟩
      · rw [if_pos h5] at h2
        refine e_run hC ?_
        conv => whnf
        exact ⟨by rw [← h2], rfl⟩
      · rw [if_neg h5] at h2
        refine e_run hC ?_
        conv => whnf
        rw [nI_1]
        exact ih (s + 1) (by omega) h2
  refine e_runTo 2 hC ?_
  conv => whnf
  exact loop (96 - s0) s0 (by omega) hB
theorem m_S_nextGood (l : Launch) (hl : l.stackTraces = false) : e_Met l y_S_nextGood b_S_nextGood 3 (some .int) 0 C_S_nextGood :=
  e_met hl F_S C_S S_S_nextGood k_S_nextGood (by decide +kernel) f_S c_S s_S_nextGood o_S_nextGood (fun a _ => ⟨Nat.le_of_ble_eq_true rfl, rfl⟩) (fun a hp => ⟨_, rfl, Or.inr ⟨.int, _, rfl, rfl, rfl⟩, fun J hC => v_S_nextGood a.1 a.2 hp J _ rfl hC⟩)
/-- how many of n sectors from s on aren't bad -/
def cg (bd : Nat → Int32) : Nat → Nat → Nat
  | 0, _ => 0
  | n + 1, s => (if bd s = 0 then 1 else 0) + cg bd n (s + 1)
theorem cg_le (bd : Nat → Int32) : ∀ n s, cg bd n s ≤ n := by
  intro n
  induction n with
  | zero => intro s; exact Nat.le_refl _
  | succ n ih =>
    intro s
    have := ih (s + 1)
    show (if bd s = 0 then 1 else 0) + cg bd n (s + 1) ≤ n + 1
    split <;> omega
def C_S_countGood : e_C := ⟨St × Nat, 2, fun _ => 0, fun a => a.2 ≤ 96, fun a => [.ref 3, .int (nI a.2)], fun a => Hp a.1, fun a => .inl (some (.int (nI (cg (a.1.2.1 2) (96 - a.2) a.2)))), fun a => Hp a.1⟩
def S_S_countGood : List (Nat × e_C) := []
theorem s_S_countGood : ∀ x ∈ S_S_countGood, e_Site b_S_countGood "DumpDesk$Sectors" 0 x.1 x.2 := fun x hx => (by cases hx)
theorem v_S_countGood (u : St) (s0 : Nat) (hp : s0 ≤ 96) (J : e_Jt) (B : Nat) (hB : cg (u.2.1 2) (96 - s0) s0 = B) (hC : e_P0 F_S S_S_countGood k_S_countGood (some (.int (nI B))) (Hp u) J) : J 0 0 [(0, .ref 3), (1, .int (nI s0))] [] (Hp u) := by
  have loop : ∀ n s c, s + n = 96 → c + cg (u.2.1 2) n s = B → J 0 4 [(0, .ref 3), (1, .int (nI s0)), (2, .int (nI c)), (3, .int (nI s))] [] (Hp u) := by
    intro n
    induction n with
    | zero =>
      intro s c h1 h2
      refine e_run hC ?_
      conv => whnf
      refine ⟨fun _ => ?_, fun h4 => absurd (nI_le (a := 96) (by omega) (by omega)) h4⟩
      refine e_run hC ?_
      conv => whnf
      refine ⟨?_, rfl⟩
      rw [← h2]
      rfl
    | succ n ih =>
      intro s c h1 h2
      have h2 : c + ((if u.2.1 2 s = 0 then 1 else 0) + cg (u.2.1 2) n (s + 1)) = B := h2
      refine e_run hC ?_
      conv => whnf
      refine ⟨fun h4 => absurd h4 (nI_ge (b := 96) (by omega) (by decide)), fun _ => ?_⟩
      refine e_run hC ?_
      conv => whnf
      refine ⟨vp_in_nI (by omega) (by decide), ?_⟩
      rw [nI_clamp (by omega)]
      refine e_run hC ?_
      conv => whnf
      refine ⟨fun h5 => ?_, fun h5 => ?_⟩
      · rw [if_neg h5] at h2
        refine e_run hC ?_
        conv => whnf
        rw [nI_1]
        exact ih (s + 1) c (by omega) (by omega)
      · rw [if_pos h5] at h2
        refine e_run hC ?_
        conv => whnf
        rw [nI_1, nI_1]
        exact ih (s + 1) (c + 1) (by omega) (by omega)
  refine e_runTo 4 hC ?_
  conv => whnf
  exact loop (96 - s0) s0 0 (by omega) (by omega)
theorem m_S_countGood (l : Launch) (hl : l.stackTraces = false) : e_Met l y_S_countGood b_S_countGood 4 (some .int) 0 C_S_countGood :=
  e_met hl F_S C_S S_S_countGood k_S_countGood (by decide +kernel) f_S c_S s_S_countGood o_S_countGood (fun a _ => ⟨Nat.le_of_ble_eq_true rfl, rfl⟩) (fun a hp => ⟨_, rfl, Or.inr ⟨.int, _, rfl, rfl, rfl⟩, fun J hC => v_S_countGood a.1 a.2 hp J _ rfl hC⟩)
theorem m8 (x : Nat) : nI x * 8 = nI (8 * x) := by rw [show (8 : Int32) = nI 8 from rfl, pk_mul, Nat.mul_comm]
def C_S_put : e_C := ⟨St × Nat × Nat, 4, fun _ => 0, fun a => a.2.1 < 96 ∧ a.2.2 + 8 ≤ 40, fun a => [.ref 3, .int (nI a.2.1), .ref 7, .int (nI a.2.2)], fun a => Hp a.1, fun _ => .inl none, fun a => Hp (uA a.1 1 (va_cpy (a.1.2.1 3) (a.1.2.1 1) a.2.2 (8 * a.2.1) 8))⟩
def S_S_put : List (Nat × e_C) := [(12, C_cp_7_4)]
theorem s_S_put : ∀ x ∈ S_S_put, e_Site b_S_put "DumpDesk$Sectors" 2 x.1 x.2 := List.forall_mem_cons.mpr ⟨e_siteCP (i := 28) (n0 := 7) (n1 := 4) (by decide) (by decide) (by decide) (fun _ => rfl) r_cp_7_4 (e_in1 210 rfl rfl) (e_in1 212 rfl rfl) (e_in1 211 rfl rfl) (e_in1 17 rfl rfl) (by decide +kernel), fun x hx => (by cases hx)⟩
theorem v_S_put (u : St) (s k : Nat) (hp : s < 96 ∧ k + 8 ≤ 40) (J : e_Jt) (hC : e_P0 F_S S_S_put k_S_put none (Hp (uA u 1 (va_cpy (u.2.1 3) (u.2.1 1) k (8 * s) 8))) J) : J 0 0 [(0, .ref 3), (1, .int (nI s)), (2, .ref 7), (3, .int (nI k))] [] (Hp u) := by
  obtain ⟨h1, h2⟩ := hp
  refine e_run hC ?_
  conv => whnf
  refine ⟨(u, k, 8 * s, 8), ⟨h2, by show 8 * s + 8 ≤ 768; omega⟩, ?_, rfl, ?_⟩
  · show [Value.ref 7, .int (nI k), .ref 4, .int (nI (8 * s)), .int (nI 8)] = [Value.ref 7, .int (nI k), .ref 4, .int (nI s * 8), .int 8]
    rw [m8]
    rfl
  conv => whnf
  dsimp only [C_cp_7_4]
  refine e_run hC ?_
  conv => whnf
  exact ⟨rfl, rfl⟩
theorem m_S_put (l : Launch) (hl : l.stackTraces = false) : e_Met l y_S_put b_S_put 4 none 2 C_S_put :=
  e_met hl F_S C_S S_S_put k_S_put (by decide +kernel) f_S c_S s_S_put o_S_put (fun a _ => ⟨Nat.le_of_ble_eq_true rfl, rfl⟩) (fun a hp => ⟨_, rfl, Or.inl ⟨rfl, rfl⟩, v_S_put a.1 a.2.1 a.2.2 hp⟩)
def C_S_fetch : e_C := ⟨St × Nat × Nat, 4, fun _ => 0, fun a => a.2.1 < 96 ∧ a.2.2 + 8 ≤ 40, fun a => [.ref 3, .int (nI a.2.1), .ref 9, .int (nI a.2.2)], fun a => Hp a.1, fun _ => .inl none, fun a => Hp (uA a.1 4 (va_cpy (a.1.2.1 1) (a.1.2.1 4) (8 * a.2.1) a.2.2 8))⟩
def S_S_fetch : List (Nat × e_C) := [(12, C_cp_4_9)]
theorem s_S_fetch : ∀ x ∈ S_S_fetch, e_Site b_S_fetch "DumpDesk$Sectors" 2 x.1 x.2 := List.forall_mem_cons.mpr ⟨e_siteCP (i := 28) (n0 := 4) (n1 := 9) (by decide) (by decide) (by decide) (fun _ => rfl) r_cp_4_9 (e_in1 210 rfl rfl) (e_in1 212 rfl rfl) (e_in1 211 rfl rfl) (e_in1 17 rfl rfl) (by decide +kernel), fun x hx => (by cases hx)⟩
theorem v_S_fetch (u : St) (s k : Nat) (hp : s < 96 ∧ k + 8 ≤ 40) (J : e_Jt) (hC : e_P0 F_S S_S_fetch k_S_fetch none (Hp (uA u 4 (va_cpy (u.2.1 1) (u.2.1 4) (8 * s) k 8))) J) : J 0 0 [(0, .ref 3), (1, .int (nI s)), (2, .ref 9), (3, .int (nI k))] [] (Hp u) := by
  obtain ⟨h1, h2⟩ := hp
  refine e_run hC ?_
  conv => whnf
  refine ⟨(u, 8 * s, k, 8), ⟨by show 8 * s + 8 ≤ 768; omega, h2⟩, ?_, rfl, ?_⟩
  · show [Value.ref 4, .int (nI (8 * s)), .ref 9, .int (nI k), .int (nI 8)] = [Value.ref 4, .int (nI s * 8), .ref 9, .int (nI k), .int 8]
    rw [m8]
    rfl
  conv => whnf
  dsimp only [C_cp_4_9]
  refine e_run hC ?_
  conv => whnf
  exact ⟨rfl, rfl⟩
theorem m_S_fetch (l : Launch) (hl : l.stackTraces = false) : e_Met l y_S_fetch b_S_fetch 4 none 2 C_S_fetch :=
  e_met hl F_S C_S S_S_fetch k_S_fetch (by decide +kernel) f_S c_S s_S_fetch o_S_fetch (fun a _ => ⟨Nat.le_of_ble_eq_true rfl, rfl⟩) (fun a hp => ⟨_, rfl, Or.inl ⟨rfl, rfl⟩, v_S_fetch a.1 a.2.1 a.2.2 hp⟩)
def C_G_sectorsFor : e_C := ⟨e_H × Nat, 1, fun _ => 0, fun a => a.2 ≤ 32, fun a => [.int (nI a.2)], fun a => a.1, fun a => .inl (some (.int (nI ((a.2 + 11) / 8)))), fun a => a.1⟩
def S_G_sectorsFor : List (Nat × e_C) := []
theorem s_G_sectorsFor : ∀ x ∈ S_G_sectorsFor, e_Site b_G_sectorsFor "DumpDesk$Chunks" 0 x.1 x.2 := fun x hx => (by cases hx)
theorem v_G_sectorsFor (h : e_H) (n : Nat) (hp : n ≤ 32) (J : e_Jt) (hC : e_P0 F_G S_G_sectorsFor k_G_sectorsFor (some (.int (nI ((n + 11) / 8)))) h J) : J 0 0 [(0, .int (nI n))] [] h := by
  refine e_run hC ?_
  conv => whnf
  refine ⟨by decide, ?_⟩
  refine e_run hC ?_
  conv => whnf
  refine ⟨?_, rfl⟩
  rw [show (3 : Int32) = nI 3 from rfl, show (8 : Int32) = nI 8 from rfl, nI_add, nI_add, pk_div (by omega) (by decide) (by decide), show 3 + n + 8 = n + 11 by omega]
theorem m_G_sectorsFor (l : Launch) (hl : l.stackTraces = false) : e_Met l y_G_sectorsFor b_G_sectorsFor 1 (some .int) 0 C_G_sectorsFor :=
  e_met hl F_G C_G S_G_sectorsFor k_G_sectorsFor (by decide +kernel) f_G c_G s_G_sectorsFor o_G_sectorsFor (fun a _ => ⟨Nat.le_of_ble_eq_true rfl, rfl⟩) (fun a hp => ⟨_, rfl, Or.inr ⟨.int, _, rfl, rfl, rfl⟩, v_G_sectorsFor a.1 a.2 hp⟩)
/-- s becomes 31 s + word -/
def sm (f : Nat → Int32) : Nat → Int32
  | 0 => 0
  | k + 1 => 31 * sm f k + f k
def C_G_sumOf_7 : e_C := ⟨St × Nat, 2, fun _ => 0, fun a => a.2 ≤ 40, fun a => [.ref 7, .int (nI a.2)], fun a => Hp a.1, fun a => .inl (some (.int (sm (a.1.2.1 3) a.2))), fun a => Hp a.1⟩
def S_G_sumOf_7 : List (Nat × e_C) := []
theorem s_G_sumOf_7 : ∀ x ∈ S_G_sumOf_7, e_Site b_G_sumOf "DumpDesk$Chunks" 0 x.1 x.2 := fun x hx => (by cases hx)
theorem v_G_sumOf_7 (u : St) (m : Nat) (hp : m ≤ 40) (J : e_Jt) (B : Int32) (hB : sm (u.2.1 3) m = B) (hC : e_P0 F_G S_G_sumOf_7 k_G_sumOf (some (.int B)) (Hp u) J) : J 0 0 [(0, .ref 7), (1, .int (nI m))] [] (Hp u) := by
  have loop : ∀ n k, k + n = m → J 0 4 [(0, .ref 7), (1, .int (nI m)), (2, .int (sm (u.2.1 3) k)), (3, .int (nI k))] [] (Hp u) := by
    intro n
    induction n with
    | zero =>
      intro k h1
      refine e_run hC ?_
      conv => whnf
      refine ⟨fun _ => ?_, fun h4 => absurd (nI_le (by omega) (by omega)) h4⟩
      refine e_run hC ?_
      conv => whnf
      refine ⟨?_, rfl⟩
      rw [← hB, show k = m by omega]
    | succ n ih =>
      intro k h1
      refine e_run hC ?_
      conv => whnf
      refine ⟨fun h4 => absurd h4 (nI_ge (by omega) (by omega)), fun _ => ?_⟩
      refine e_run hC ?_
      conv => whnf
      refine ⟨vp_in_nI (by omega) (by decide), ?_⟩
      rw [nI_clamp (by omega)]
      refine e_run hC ?_
      conv => whnf
      rw [nI_1]
      exact ih (k + 1) (by omega)
  refine e_runTo 4 hC ?_
  conv => whnf
  exact loop m 0 (by omega)
theorem m_G_sumOf_7 (l : Launch) (hl : l.stackTraces = false) : e_Met l y_G_sumOf b_G_sumOf 4 (some .int) 0 C_G_sumOf_7 :=
  e_met hl F_G C_G S_G_sumOf_7 k_G_sumOf (by decide +kernel) f_G c_G s_G_sumOf_7 o_G_sumOf (fun a _ => ⟨Nat.le_of_ble_eq_true rfl, rfl⟩) (fun a hp => ⟨_, rfl, Or.inr ⟨.int, _, rfl, rfl, rfl⟩, fun J hC => v_G_sumOf_7 a.1 a.2 hp J _ rfl hC⟩)
def C_G_sumOf_9 : e_C := ⟨St × Nat, 2, fun _ => 0, fun a => a.2 ≤ 40, fun a => [.ref 9, .int (nI a.2)], fun a => Hp a.1, fun a => .inl (some (.int (sm (a.1.2.1 4) a.2))), fun a => Hp a.1⟩
def S_G_sumOf_9 : List (Nat × e_C) := []
theorem s_G_sumOf_9 : ∀ x ∈ S_G_sumOf_9, e_Site b_G_sumOf "DumpDesk$Chunks" 0 x.1 x.2 := fun x hx => (by cases hx)
theorem v_G_sumOf_9 (u : St) (m : Nat) (hp : m ≤ 40) (J : e_Jt) (B : Int32) (hB : sm (u.2.1 4) m = B) (hC : e_P0 F_G S_G_sumOf_9 k_G_sumOf (some (.int B)) (Hp u) J) : J 0 0 [(0, .ref 9), (1, .int (nI m))] [] (Hp u) := by
  have loop : ∀ n k, k + n = m → J 0 4 [(0, .ref 9), (1, .int (nI m)), (2, .int (sm (u.2.1 4) k)), (3, .int (nI k))] [] (Hp u) := by
    intro n
    induction n with
    | zero =>
      intro k h1
      refine e_run hC ?_
      conv => whnf
      refine ⟨fun _ => ?_, fun h4 => absurd (nI_le (by omega) (by omega)) h4⟩
      refine e_run hC ?_
      conv => whnf
      refine ⟨?_, rfl⟩
      rw [← hB, show k = m by omega]
    | succ n ih =>
      intro k h1
      refine e_run hC ?_
      conv => whnf
      refine ⟨fun h4 => absurd h4 (nI_ge (by omega) (by omega)), fun _ => ?_⟩
      refine e_run hC ?_
      conv => whnf
      refine ⟨vp_in_nI (by omega) (by decide), ?_⟩
      rw [nI_clamp (by omega)]
      refine e_run hC ?_
      conv => whnf
      rw [nI_1]
      exact ih (k + 1) (by omega)
  refine e_runTo 4 hC ?_
  conv => whnf
  exact loop m 0 (by omega)
theorem m_G_sumOf_9 (l : Launch) (hl : l.stackTraces = false) : e_Met l y_G_sumOf b_G_sumOf 4 (some .int) 0 C_G_sumOf_9 :=
  e_met hl F_G C_G S_G_sumOf_9 k_G_sumOf (by decide +kernel) f_G c_G s_G_sumOf_9 o_G_sumOf (fun a _ => ⟨Nat.le_of_ble_eq_true rfl, rfl⟩) (fun a hp => ⟨_, rfl, Or.inr ⟨.int, _, rfl, rfl, rfl⟩, fun J hC => v_G_sumOf_9 a.1 a.2 hp J _ rfl hC⟩)
