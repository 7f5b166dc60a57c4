/-! leaves -/
def bi (b : Bool) : Int32 := cond b 1 0
def pl (x : Int32) : Bool := decide (16 ≤ x) && (decide (x ≤ 236) && decide (x - x / 4 * 4 = 0))
theorem bi_ok (b : Bool) : narrow .boolean (.int (bi b)) = .int (bi b) := by cases b <;> rfl
def C_D_isPlace : e_C := ⟨e_H × Int32, 1, fun _ => 0, fun _ => True, fun a => [.int a.2], fun a => a.1, fun a => .inl (some (.int (bi (pl a.2)))), fun a => a.1⟩
theorem v_D_isPlace (h : e_H) (x : Int32) (J : Nat → Nat → e_L → List Value → e_H → Prop) (hC : e_Cl 0 (e_f0 F_D) (e_fd []) (fun _ => none) none k_D_isPlace (fun _ _ r h' => r = .inl (some (.int (bi (pl x)))) ∧ h' = h) J) : J 0 0 [(0, .int x)] [] h := by
  have no : pl x = false → J 0 23 [(0, .int x)] [] h := by
    intro h1
    refine e_run hC ?_
    conv => whnf
    exact ⟨by rw [h1]; rfl, rfl⟩
  refine e_run hC ?_
  conv => whnf
  refine ⟨fun h1 => no ?_, fun h1 => ?_⟩
  · unfold pl
    rw [decide_eq_false (Int32.not_le.mpr h1)]
    rfl
  refine e_run hC ?_
  conv => whnf
  refine ⟨fun h2 => no ?_, fun h2 => ?_⟩
  · unfold pl
    rw [decide_eq_false (Int32.not_le.mpr h2), Bool.false_and, Bool.and_false]
  refine e_run hC ?_
  conv => whnf
  refine ⟨by decide, ?_⟩
  refine e_run hC ?_
  conv => whnf
  refine ⟨fun h3 => no ?_, fun h3 => ?_⟩
  · unfold pl
    rw [decide_eq_false h3, Bool.and_false, Bool.and_false]
  refine e_run hC ?_
  conv => whnf
  refine e_run hC ?_
  conv => whnf
  refine ⟨?_, rfl⟩
  have e1 : pl x = true := by
    unfold pl
    rw [decide_eq_true (Int32.not_lt.mp h1), decide_eq_true (Int32.not_lt.mp h2), decide_eq_true h3]
    rfl
  rw [e1]
  rfl
theorem m_D_isPlace (l : Launch) (hl : l.stackTraces = false) : e_Met l y_D_isPlace b_D_isPlace 1 (some .boolean) 0 C_D_isPlace :=
  e_met hl F_D C_D [] k_D_isPlace (by decide) f_D c_D (fun x hx => by cases hx) o_D_isPlace (fun a _ => ⟨Nat.le_refl _, rfl⟩) (fun a _ => ⟨_, rfl, Or.inr ⟨.boolean, _, rfl, rfl, bi_ok _⟩, v_D_isPlace a.1 a.2⟩)
