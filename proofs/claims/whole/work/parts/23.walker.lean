/-! the walker -/
def fgt (u : St) : St := uS (uS (uA u 6 (ffl (u.2.1 6) 0 16 0)) 7 0) 8 0
def C_Z_forgetAll : e_C := ⟨St, 1, fun _ => 0, fun _ => True, fun _ => [.ref 10], fun a => Hp a, fun _ => .inl none, fun a => Hp (fgt a)⟩
def S_Z_forgetAll : List (Nat × e_C) := []
theorem s_Z_forgetAll : ∀ x ∈ S_Z_forgetAll, e_Site b_Z_forgetAll "DumpDesk$Walker" 0 x.1 x.2 := fun x hx => (by cases hx)
theorem v_Z_forgetAll (u : St) (J : e_Jt) (hC : e_P0 F_Z S_Z_forgetAll k_Z_forgetAll none (Hp (fgt u)) J) : J 0 0 [(0, .ref 10)] [] (Hp u) := by
  have loop : ∀ n z f, z + n = 16 → ffl f z 16 0 = ffl (u.2.1 6) 0 16 0 → J 0 2 [(0, .ref 10), (1, .int (nI z))] [] (Hp (uA u 6 f)) := by
    intro n
    induction n with
    | zero =>
      intro z f h3 h4
      refine e_run hC ?_
      conv => whnf
      refine ⟨fun _ => ?_, fun h5 => absurd (nI_le (a := 16) (by omega) (by omega)) h5⟩
      refine e_run hC ?_
      conv => whnf
      rw [h_s7]
      refine e_run hC ?_
      conv => whnf
      refine ⟨⟨rfl, rfl⟩, ?_⟩
      conv => whnf
      rw [h_s8]
      refine e_run hC ?_
      conv => whnf
      refine ⟨rfl, ?_⟩
      unfold fgt
      rw [← h4, show z = 16 by omega, ffl_end]
    | succ n ih =>
      intro z f h3 h4
      refine e_run hC ?_
      conv => whnf
      refine ⟨fun h5 => absurd h5 (nI_ge (b := 16) (by omega) (by decide)), fun _ => ?_⟩
      refine e_run hC ?_
      conv => whnf
      refine ⟨vp_in_nI (by omega) (by decide), ?_⟩
      rw [nI_clamp (by omega), h_a6, uA_uA]
      refine e_run hC ?_
      conv => whnf
      rw [nI_1]
      refine ih (z + 1) _ (by omega) ?_
      rw [← h4]
      show ffl (upd f z 0) (z + 1) 16 0 = _
      rw [ffl_step _ _ _ _ (by omega)]
  refine e_runTo 2 hC ?_
  conv => whnf
  have h0 := loop 16 0 (u.2.1 6) rfl rfl
  rw [uA_self] at h0
  exact h0
theorem m_Z_forgetAll (l : Launch) (hl : l.stackTraces = false) : e_Met l y_Z_forgetAll b_Z_forgetAll 2 none 0 C_Z_forgetAll :=
  e_met hl F_Z C_Z S_Z_forgetAll k_Z_forgetAll (by decide +kernel) f_Z c_Z s_Z_forgetAll o_Z_forgetAll (fun a _ => ⟨Nat.le_of_ble_eq_true rfl, rfl⟩) (fun a hp => ⟨_, rfl, Or.inl ⟨rfl, rfl⟩, v_Z_forgetAll a⟩)
def adp (u : St) (p : Nat) : St := uS (uA u 6 (upd (u.2.1 6) p 1)) 7 (u.1 7 + 1)
def C_Z_addPage : e_C := ⟨St × Nat, 2, fun _ => 0, fun a => a.2 < 16, fun a => [.ref 10, .int (nI a.2)], fun a => Hp a.1, fun _ => .inl none, fun a => Hp (adp a.1 a.2)⟩
def S_Z_addPage : List (Nat × e_C) := []
theorem s_Z_addPage : ∀ x ∈ S_Z_addPage, e_Site b_Z_addPage "DumpDesk$Walker" 0 x.1 x.2 := fun x hx => (by cases hx)
theorem v_Z_addPage (u : St) (p : Nat) (hp : p < 16) (J : e_Jt) (hC : e_P0 F_Z S_Z_addPage k_Z_addPage none (Hp (adp u p)) J) : J 0 0 [(0, .ref 10), (1, .int (nI p))] [] (Hp u) := by
  refine e_run hC ?_
  conv => whnf
  refine ⟨vp_in_nI (by omega) (by decide), ?_⟩
  rw [nI_clamp (by omega), h_a6]
  refine e_run hC ?_
  conv => whnf
  rw [h_s7]
  refine e_run hC ?_
  conv => whnf
  exact ⟨rfl, rfl⟩
theorem m_Z_addPage (l : Launch) (hl : l.stackTraces = false) : e_Met l y_Z_addPage b_Z_addPage 2 none 0 C_Z_addPage :=
  e_met hl F_Z C_Z S_Z_addPage k_Z_addPage (by decide +kernel) f_Z c_Z s_Z_addPage o_Z_addPage (fun a _ => ⟨Nat.le_of_ble_eq_true rfl, rfl⟩) (fun a hp => ⟨_, rfl, Or.inl ⟨rfl, rfl⟩, v_Z_addPage a.1 a.2 hp⟩)
def tg (l : Nat) : Int32 := if l = 0 then 7001 else if l = 1 then 7002 else 7003
def C_Z_tagOf : e_C := ⟨e_H × Nat, 1, fun _ => 0, fun a => a.2 < 6, fun a => [.int (nI a.2)], fun a => a.1, fun a => .inl (some (.int (tg a.2))), fun a => a.1⟩
def S_Z_tagOf : List (Nat × e_C) := []
theorem s_Z_tagOf : ∀ x ∈ S_Z_tagOf, e_Site b_Z_tagOf "DumpDesk$Walker" 0 x.1 x.2 := fun x hx => (by cases hx)
theorem v_Z_tagOf (h : e_H) (l : Nat) (hp : l < 6) (J : e_Jt) (B : Int32) (hB : tg l = B) (hC : e_P0 F_Z S_Z_tagOf k_Z_tagOf (some (.int B)) h J) : J 0 0 [(0, .int (nI l))] [] h := by
  unfold tg at hB
  refine e_run hC ?_
  conv => whnf
  refine ⟨fun h1 => ?_, fun h1 => ?_⟩
  · have h1 : l ≠ 0 := fun z => h1 (by rw [z]; rfl)
    rw [if_neg h1] at hB
    refine e_run hC ?_
    conv => whnf
    refine ⟨fun h2 => ?_, fun h2 => ?_⟩
    · have h2 : l ≠ 1 := fun z => h2 (by rw [z]; rfl)
      rw [if_neg h2] at hB
      refine e_run hC ?_
      conv => whnf
      exact ⟨by rw [← hB], rfl⟩
    · have h2 : l = 1 := (nI_eq (b := 1) (by omega) (by decide)).mp h2
      rw [if_pos h2] at hB
      refine e_run hC ?_
      conv => whnf
      refine e_run hC ?_
      conv => whnf
      exact ⟨by rw [← hB], rfl⟩
  · have h1 : l = 0 := (nI_eq (b := 0) (by omega) (by decide)).mp h1
    rw [if_pos h1] at hB
    refine e_run hC ?_
    conv => whnf
    exact ⟨by rw [← hB], rfl⟩
theorem m_Z_tagOf (l : Launch) (hl : l.stackTraces = false) : e_Met l y_Z_tagOf b_Z_tagOf 1 (some .int) 0 C_Z_tagOf :=
  e_met hl F_Z C_Z S_Z_tagOf k_Z_tagOf (by decide +kernel) f_Z c_Z s_Z_tagOf o_Z_tagOf (fun a _ => ⟨Nat.le_of_ble_eq_true rfl, rfl⟩) (fun a hp => ⟨_, rfl, Or.inr ⟨.int, _, rfl, rfl, rfl⟩, fun J hC => v_Z_tagOf a.1 a.2 hp J _ rfl hC⟩)
/-- x is among n entries from k on -/
def was (f : Nat → Int32) (x : Int32) : Nat → Nat → Bool
  | 0, _ => false
  | n + 1, k => if f k = x then true else was f x n (k + 1)
def C_Z_wasWalked : e_C := ⟨St × Int32 × Nat, 2, fun _ => 0, fun a => a.2.2 ≤ 57 ∧ a.1.1 9 = nI a.2.2, fun a => [.ref 10, .int a.2.1], fun a => Hp a.1, fun a => .inl (some (.int (bi (was (a.1.2.1 7) a.2.1 a.2.2 0)))), fun a => Hp a.1⟩
def S_Z_wasWalked : List (Nat × e_C) := []
theorem s_Z_wasWalked : ∀ x ∈ S_Z_wasWalked, e_Site b_Z_wasWalked "DumpDesk$Walker" 0 x.1 x.2 := fun x hx => (by cases hx)
theorem v_Z_wasWalked (u : St) (x : Int32) (c : Nat) (hp : c ≤ 57 ∧ u.1 9 = nI c) (J : e_Jt) (B : Bool) (hB : was (u.2.1 7) x c 0 = B) (hC : e_P0 F_Z S_Z_wasWalked k_Z_wasWalked (some (.int (bi B))) (Hp u) J) : J 0 0 [(0, .ref 10), (1, .int x)] [] (Hp u) := by
  obtain ⟨h1, h2⟩ := hp
  have loop : ∀ n k, k + n = c → was (u.2.1 7) x n k = B → J 0 2 [(0, .ref 10), (1, .int x), (2, .int (nI k))] [] (Hp u) := by
    intro n
    induction n with
    | zero =>
      intro k h3 h4
      refine e_run hC ?_
      conv => whnf
      rw [h2]
      refine ⟨fun _ => ?_, fun h5 => absurd (nI_le (by omega) (by omega)) h5⟩
      refine e_run hC ?_
      conv => whnf
      refine ⟨?_, rfl⟩
      rw [← h4]
      rfl
    | succ n ih =>
      intro k h3 h4
      have h4 : (if u.2.1 7 k = x then true else was (u.2.1 7) x n (k + 1)) = B := h4
      refine e_run hC ?_
      conv => whnf
      rw [h2]
      refine ⟨fun h5 => absurd h5 (nI_ge (by omega) (by omega)), fun _ => ?_⟩
      refine e_run hC ?_
      conv => whnf
      refine ⟨vp_in_nI (by omega) (by decide), ?_⟩
      rw [nI_clamp (by omega)]
      refine e_run hC ?_
      conv => whnf
      refine ⟨fun h5 => ?_, fun h5 => ?_⟩
      · rw [if_neg h5] at h4
        refine e_run hC ?_
        conv => whnf
        rw [nI_1]
        exact ih (k + 1) (by omega) h4
      · rw [if_pos h5] at h4
        refine e_run hC ?_
        conv => whnf
        refine ⟨?_, rfl⟩
        rw [← h4]
        rfl
  refine e_runTo 2 hC ?_
  conv => whnf
  exact loop c 0 (by omega) hB
theorem m_Z_wasWalked (l : Launch) (hl : l.stackTraces = false) : e_Met l y_Z_wasWalked b_Z_wasWalked 3 (some .boolean) 0 C_Z_wasWalked :=
  e_met hl F_Z C_Z S_Z_wasWalked k_Z_wasWalked (by decide +kernel) f_Z c_Z s_Z_wasWalked o_Z_wasWalked (fun a _ => ⟨Nat.le_of_ble_eq_true rfl, rfl⟩) (fun a hp => ⟨_, rfl, Or.inr ⟨.boolean, _, rfl, rfl, bi_ok _⟩, fun J hC => v_Z_wasWalked a.1 a.2.1 a.2.2 hp J _ rfl hC⟩)
/-- how a link x breaks a list -/
def brk (w pr pls : Nat → Int32) (c : Nat) (x t : Int32) : Nat := if pl x = false then 1 else if pr (na x / 16) = 0 then 2 else if w (na x) = t then (if was pls x c 0 = true then 4 else 0) else 3
def C_Z_breakOf : e_C := ⟨St × Int32 × Int32 × Nat, 3, fun _ => 0, fun a => a.2.2.2 ≤ 57 ∧ a.1.1 9 = nI a.2.2.2, fun a => [.ref 10, .int a.2.1, .int a.2.2.1], fun a => Hp a.1, fun a => .inl (some (.int (nI (brk (a.1.2.1 5) (a.1.2.1 6) (a.1.2.1 7) a.2.2.2 a.2.1 a.2.2.1)))), fun a => Hp a.1⟩
def S_Z_breakOf : List (Nat × e_C) := [(1, C_D_isPlace), (37, C_Z_wasWalked)]
theorem s_Z_breakOf : ∀ x ∈ S_Z_breakOf, e_Site b_Z_breakOf "DumpDesk$Walker" 1 x.1 x.2 := List.forall_mem_cons.mpr ⟨e_siteSN (y := y_D_isPlace) (host := "DumpDesk") (i := 47) m_D_isPlace (by decide) (by decide) (fun _ => rfl) (by decide +kernel) (e_in2 102 rfl rfl) (e_in1 1 rfl rfl) (e_in2 103 rfl rfl) ⟨by decide, by decide, rfl⟩ (by decide +kernel), List.forall_mem_cons.mpr ⟨e_siteV (y := y_Z_wasWalked) (i := 51) (ci := 5) m_Z_wasWalked (by decide) (by decide) (fun _ => rfl) rfl (fun a _ => ⟨_, _, _, rfl, by decide, rfl⟩) rfl (e_in3 97 rfl rfl) (e_in3 98 rfl rfl) (e_in1 5 rfl rfl) (e_in3 100 rfl rfl) (e_in3 99 rfl rfl) ⟨by decide, by decide, rfl⟩ (by decide +kernel), fun x hx => (by cases hx)⟩⟩
theorem v_Z_breakOf (u : St) (x t : Int32) (c : Nat) (hp : c ≤ 57 ∧ u.1 9 = nI c) (J : e_Jt) (B : Nat) (hB : brk (u.2.1 5) (u.2.1 6) (u.2.1 7) c x t = B) (hC : e_P0 F_Z S_Z_breakOf k_Z_breakOf (some (.int (nI B))) (Hp u) J) : J 0 0 [(0, .ref 10), (1, .int x), (2, .int t)] [] (Hp u) := by
  unfold brk at hB
  refine e_run hC ?_
  conv => whnf
  refine ⟨(Hp u, x), trivial, rfl, rfl, ?_⟩
  conv => whnf
  dsimp only [C_D_isPlace]
  refine e_run hC ?_
  conv => whnf
  refine ⟨fun h1 => ?_, fun h1 => ?_⟩
  · have h1 := bi1 h1
    rw [if_neg (by rw [h1]; decide)] at hB
    obtain ⟨g1, g2, g3, g4⟩ := pl_na h1
    have ed : x / 16 = nI (na x / 16) := by
      conv => lhs; rw [g1]
      rw [show (16 : Int32) = nI 16 from rfl, pk_div (by omega) (by decide) (by decide)]
    refine e_run hC ?_
    conv => whnf
    refine ⟨by decide, ?_⟩
    rw [ed]
    refine e_run hC ?_
    conv => whnf
    refine ⟨vp_in_nI (by omega) (by decide), ?_⟩
    rw [nI_clamp (by omega)]
    refine e_run hC ?_
    conv => whnf
    refine ⟨fun h2 => ?_, fun h2 => ?_⟩
    · rw [if_neg h2] at hB
      refine e_run hC ?_
      conv => whnf
      refine ⟨by rw [g1]; exact vp_in_nI (by omega) (by decide), ?_⟩
      refine e_run hC ?_
      conv => whnf
      refine ⟨fun h3 => ?_, fun h3 => ?_⟩
      · rw [if_pos h3] at hB
        refine e_run hC ?_
        conv => whnf
        refine ⟨(u, x, c), hp, rfl, rfl, ?_⟩
        conv => whnf
        dsimp only [C_Z_wasWalked]
        refine e_run hC ?_
        conv => whnf
        refine ⟨fun h4 => ?_, fun h4 => ?_⟩
        · rw [if_neg (by rw [bi0.mp h4]; decide)] at hB
          refine e_run hC ?_
          conv => whnf
          exact ⟨by rw [← hB]; rfl, rfl⟩
        · rw [if_pos (bi1 h4)] at hB
          refine e_run hC ?_
          conv => whnf
          refine e_run hC ?_
          conv => whnf
          exact ⟨by rw [← hB]; rfl, rfl⟩
      · rw [if_neg h3] at hB
        refine e_run hC ?_
        conv => whnf
        exact ⟨by rw [← hB]; rfl, rfl⟩
    · rw [if_pos h2] at hB
      refine e_run hC ?_
      conv => whnf
      exact ⟨by rw [← hB]; rfl, rfl⟩
  · rw [if_pos (bi0.mp h1)] at hB
    refine e_run hC ?_
    conv => whnf
    exact ⟨by rw [← hB]; rfl, rfl⟩
theorem m_Z_breakOf (l : Launch) (hl : l.stackTraces = false) : e_Met l y_Z_breakOf b_Z_breakOf 3 (some .int) 1 C_Z_breakOf :=
  e_met hl F_Z C_Z S_Z_breakOf k_Z_breakOf (by decide +kernel) f_Z c_Z s_Z_breakOf o_Z_breakOf (fun a _ => ⟨Nat.le_of_ble_eq_true rfl, rfl⟩) (fun a hp => ⟨_, rfl, Or.inr ⟨.int, _, rfl, rfl, rfl⟩, fun J hC => v_Z_breakOf a.1 a.2.1 a.2.2.1 a.2.2.2 hp J _ rfl hC⟩)
