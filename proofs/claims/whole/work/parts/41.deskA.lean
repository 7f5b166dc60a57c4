/-! DumpDesk: what may throw -/
def bel (x b : Int32) : Bool := decide (0 ≤ x) && decide (x < b)
theorem bel_ix {x : Int32} {n : Nat} (hn : n < 2 ^ 30) (h : bel x (nI n) = true) : x = nI (na x) ∧ na x < n := by
  unfold bel at h
  rw [Bool.and_eq_true] at h
  have h1 := of_decide_eq_true h.1
  have h2 := of_decide_eq_true h.2
  refine inn_ix hn ?_
  unfold inn
  rw [decide_eq_true h1]
  have h3 : x ≤ nI n - 1 := by
    rw [Int32.le_iff_toInt_le]
    rw [Int32.lt_iff_toInt_lt] at h2
    rw [Int32.toInt_sub]
    have e1 : (nI n).toInt = (n : Int) := nI_toInt (by omega)
    rw [e1] at h2 ⊢
    have e2 : ((1 : Int32)).toInt = 1 := rfl
    rw [e2, Int.bmod_eq_of_le (by omega) (by omega)]
    omega
  rw [decide_eq_true h3]
  rfl
def C_D_isBelow : e_C := ⟨e_H × Int32 × Int32, 2, fun _ => 0, fun _ => True, fun a => [.int a.2.1, .int a.2.2], fun a => a.1, fun a => .inl (some (.int (bi (bel a.2.1 a.2.2)))), fun a => a.1⟩
def S_D_isBelow : List (Nat × e_C) := []
theorem s_D_isBelow : ∀ x ∈ S_D_isBelow, e_Site b_D_isBelow "DumpDesk" 0 x.1 x.2 := fun x hx => (by cases hx)
theorem v_D_isBelow (h : e_H) (x b : Int32) (J : e_Jt) (hC : e_P0 F_D S_D_isBelow k_D_isBelow (some (.int (bi (bel x b)))) h J) : J 0 0 [(0, .int x), (1, .int b)] [] h := by
  have no : bel x b = false → J 0 13 [(0, .int x), (1, .int b)] [] h := by
    intro h1
    refine e_run hC ?_
    conv => whnf
    exact ⟨by rw [h1]; rfl, rfl⟩
  refine e_run hC ?_
  conv => whnf
  refine ⟨fun h1 => no ?_, fun h1 => ?_⟩
  · unfold bel
    rw [decide_eq_false (Int32.not_le.mpr h1)]
    rfl
  refine e_run hC ?_
  conv => whnf
  refine ⟨fun h2 => no ?_, fun h2 => ?_⟩
  · unfold bel
    rw [decide_eq_false (Int32.not_lt.mpr h2), Bool.and_false]
  refine e_run hC ?_
  conv => whnf
  refine e_run hC ?_
  conv => whnf
  refine ⟨?_, rfl⟩
  have e1 : bel x b = true := by
    unfold bel
    rw [decide_eq_true (Int32.not_lt.mp h1), decide_eq_true (Int32.not_le.mp h2)]
    rfl
  rw [e1]
  rfl
theorem m_D_isBelow (l : Launch) (hl : l.stackTraces = false) : e_Met l y_D_isBelow b_D_isBelow 2 (some .boolean) 0 C_D_isBelow :=
  e_met hl F_D C_D S_D_isBelow k_D_isBelow (by decide +kernel) f_D c_D s_D_isBelow o_D_isBelow (fun a _ => ⟨Nat.le_of_ble_eq_true rfl, rfl⟩) (fun a hp => ⟨_, rfl, Or.inr ⟨.boolean, _, rfl, rfl, bi_ok _⟩, v_D_isBelow a.1 a.2.1 a.2.2⟩)
abbrev e_PX (n : Nat) (F : List (Nat × e_F)) (S : List (Nat × e_C)) (Th : List (Nat × String)) (code : List e_I) (r0 : e_R) (h : e_H) (J : e_Jt) : Prop := e_Cl n (e_f0 F) (e_fd S) (e_f0 Th) none code (fun b _ r h' => b ≤ n ∧ r = r0 ∧ h' = h) J
def C_D_requireBelow : e_C := ⟨Bool × e_H × Int32 × Int32, 2, fun a => cond a.1 0 1, fun a => bel a.2.2.1 a.2.2.2 = a.1, fun a => [.int a.2.2.1, .int a.2.2.2], fun a => a.2.1, fun a => cond a.1 (.inl none) (.inr "java/lang/IllegalArgumentException"), fun a => a.2.1⟩
def S_D_requireBelow : List (Nat × e_C) := [(2, C_D_isBelow)]
theorem s_D_requireBelow : ∀ x ∈ S_D_requireBelow, e_Site b_D_requireBelow "DumpDesk" 6 x.1 x.2 := List.forall_mem_cons.mpr ⟨e_siteS (y := y_D_isBelow) (i := 148) m_D_isBelow (by decide) (by decide) (fun _ => rfl) (e_in2 159 rfl rfl) (e_in2 160 rfl rfl) (e_in1 1 rfl rfl) (e_in2 161 rfl rfl) ⟨by decide, by decide, rfl⟩ (by decide +kernel), fun x hx => (by cases hx)⟩
def Th_D_requireBelow : List (Nat × String) := [(8, "java/lang/IllegalArgumentException")]
theorem th_D_requireBelow : ∀ x ∈ Th_D_requireBelow, e_Thr b_D_requireBelow x.1 x.2 := List.forall_mem_cons.mpr ⟨⟨158, 160, by decide +kernel, (e_in2 162 rfl rfl), (e_in1 14 rfl rfl), x_own_A, by decide +kernel, by decide +kernel, by decide +kernel, by decide +kernel⟩, fun x hx => (by cases hx)⟩
theorem v_D_requireBelow (k : Bool) (h : e_H) (x b : Int32) (hp : bel x b = k) (J : e_Jt) (hC : e_PX (cond k 0 1) F_D S_D_requireBelow Th_D_requireBelow k_D_requireBelow (cond k (.inl none) (.inr "java/lang/IllegalArgumentException")) h J) : J 0 0 [(0, .int x), (1, .int b)] [] h := by
  refine e_run hC ?_
  conv => whnf
  refine ⟨(h, x, b), trivial, rfl, rfl, ?_⟩
  conv => whnf
  dsimp only [C_D_isBelow]
  refine e_run hC ?_
  conv => whnf
  cases k with
  | true =>
    rw [hp]
    refine ⟨fun _ => ?_, fun h1 => absurd h1 (by decide)⟩
    refine e_run hC ?_
    conv => whnf
    exact ⟨Nat.le_refl _, rfl, rfl⟩
  | false =>
    rw [hp]
    refine ⟨fun h1 => absurd (by decide) h1, fun _ => ?_⟩
    refine e_run hC ?_
    conv => whnf
    exact ⟨Nat.le_refl _, rfl, rfl⟩
theorem m_D_requireBelow (l : Launch) (hl : l.stackTraces = false) : e_MetX l y_D_requireBelow 6 C_D_requireBelow :=
  e_metX hl F_D C_D S_D_requireBelow Th_D_requireBelow k_D_requireBelow (by decide +kernel) rfl (by decide) f_D c_D s_D_requireBelow th_D_requireBelow o_D_requireBelow (x_code (e_in2 158 rfl rfl)) (fun a _ => ⟨Nat.le_of_ble_eq_true rfl, rfl⟩) (fun a hp => ⟨(by intro v hv; rcases a with ⟨k, a⟩; rcases k with _ | _ | _ | _ | k <;> first | (cases hv; exact Or.inl ⟨rfl, rfl⟩) | (cases hv)), v_D_requireBelow a.1 a.2.1 a.2.2.1 a.2.2.2 hp⟩)
