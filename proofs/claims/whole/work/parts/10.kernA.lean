/-! the kernel's memory: flags -/
abbrev e_Jt : Type := Nat → Nat → e_L → List Value → e_H → Prop
abbrev e_P0 (F : List (Nat × e_F)) (S : List (Nat × e_C)) (code : List e_I) (v : Option Value) (h : e_H) (J : e_Jt) : Prop := e_Cl 0 (e_f0 F) (e_fd S) (fun _ => none) none code (fun _ _ r h' => r = .inl v ∧ h' = h) J
theorem i2 : (2 : Int32) = nI 2 := rfl
theorem i8 : (8 : Int32) = nI 8 := rfl
def C_K_flagShift : e_C := ⟨e_H × Nat, 1, fun _ => 0, fun a => a.2 < 16, fun a => [.int (nI a.2)], fun a => a.1, fun a => .inl (some (.int (nI (a.2 % 2 * 8)))), fun a => a.1⟩
def S_K_flagShift : List (Nat × e_C) := []
theorem s_K_flagShift : ∀ x ∈ S_K_flagShift, e_Site b_K_flagShift "DumpDesk$Kernel" 0 x.1 x.2 := fun x hx => (by cases hx)
theorem v_K_flagShift (h : e_H) (p : Nat) (hp : p < 16) (J : e_Jt) (hC : e_P0 F_K S_K_flagShift k_K_flagShift (some (.int (nI (p % 2 * 8)))) h J) : J 0 0 [(0, .int (nI p))] [] h := by
  refine e_run hC ?_
  conv => whnf
  refine ⟨by decide, ?_⟩
  refine e_run hC ?_
  conv => whnf
  refine ⟨?_, rfl⟩
  rw [i2, pk_rem (by omega) (by decide) (by decide), i8, pk_mul]
theorem m_K_flagShift (l : Launch) (hl : l.stackTraces = false) : e_Met l y_K_flagShift b_K_flagShift 1 (some .int) 0 C_K_flagShift :=
  e_met hl F_K C_K S_K_flagShift k_K_flagShift (by decide +kernel) f_K c_K s_K_flagShift o_K_flagShift (fun a _ => ⟨Nat.le_of_ble_eq_true rfl, rfl⟩) (fun a hp => ⟨_, rfl, Or.inr ⟨.int, _, rfl, rfl, rfl⟩, v_K_flagShift a.1 a.2 hp⟩)
/-- the flag of page p -/
def fl (w : Nat → Int32) (p : Nat) : Int32 := ((w (8 + p / 2)).toUInt32 >>> ((nI (p % 2 * 8)).toUInt32 &&& Int32.toUInt32 31)).toInt32 &&& 255
def C_K_flagOf : e_C := ⟨St × Nat, 2, fun _ => 0, fun a => a.2 < 16, fun a => [.ref 1, .int (nI a.2)], fun a => Hp a.1, fun a => .inl (some (.int (fl (a.1.2.1 0) a.2))), fun a => Hp a.1⟩
def S_K_flagOf : List (Nat × e_C) := [(12, C_K_flagShift)]
theorem s_K_flagOf : ∀ x ∈ S_K_flagOf, e_Site b_K_flagOf "DumpDesk$Kernel" 1 x.1 x.2 := List.forall_mem_cons.mpr ⟨e_siteS (y := y_K_flagShift) (i := 30) m_K_flagShift (by decide) (by decide) (fun _ => rfl) (e_in1 37 rfl rfl) (e_in1 38 rfl rfl) (e_in1 2 rfl rfl) (e_in1 39 rfl rfl) ⟨by decide, by decide, rfl⟩ (by decide +kernel), fun x hx => (by cases hx)⟩
theorem ix8 {p : Nat} (hp : p < 16) : (8 : Int32) + nI p / 2 = nI (8 + p / 2) := by rw [i2, pk_div (by omega) (by decide) (by decide), i8, nI_add]
theorem v_K_flagOf (u : St) (p : Nat) (hp : p < 16) (J : e_Jt) (hC : e_P0 F_K S_K_flagOf k_K_flagOf (some (.int (fl (u.2.1 0) p))) (Hp u) J) : J 0 0 [(0, .ref 1), (1, .int (nI p))] [] (Hp u) := by
  refine e_run hC ?_
  conv => whnf
  refine ⟨by decide, ?_⟩
  refine e_run hC ?_
  conv => whnf
  rw [ix8 hp]
  refine ⟨vp_in_nI (by omega) (by decide), ?_⟩
  rw [nI_clamp (by omega)]
  refine e_run hC ?_
  conv => whnf
  refine ⟨(Hp u, p), hp, rfl, rfl, ?_⟩
  conv => whnf
  refine e_run hC ?_
  conv => whnf
  exact ⟨rfl, rfl⟩
theorem m_K_flagOf (l : Launch) (hl : l.stackTraces = false) : e_Met l y_K_flagOf b_K_flagOf 2 (some .int) 1 C_K_flagOf :=
  e_met hl F_K C_K S_K_flagOf k_K_flagOf (by decide +kernel) f_K c_K s_K_flagOf o_K_flagOf (fun a _ => ⟨Nat.le_of_ble_eq_true rfl, rfl⟩) (fun a hp => ⟨_, rfl, Or.inr ⟨.int, _, rfl, rfl, rfl⟩, v_K_flagOf a.1 a.2 hp⟩)
