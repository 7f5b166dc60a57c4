/-! java.util.Arrays.fill, over the rows that are filled -/
def C_A_rangeCheck : e_C := ⟨e_H × Nat × Nat × Nat, 3, fun _ => 0, fun a => a.2.2.1 ≤ a.2.2.2 ∧ a.2.2.2 ≤ a.2.1 ∧ a.2.1 < 2 ^ 31, fun a => [.int (nI a.2.1), .int (nI a.2.2.1), .int (nI a.2.2.2)], fun a => a.1, fun _ => .inl none, fun a => a.1⟩
def S_A_rangeCheck : List (Nat × e_C) := []
theorem s_A_rangeCheck : ∀ x ∈ S_A_rangeCheck, e_Site b_A_rangeCheck "java/util/Arrays" 0 x.1 x.2 := fun x hx => (by cases hx)
theorem v_A_rangeCheck (h : e_H) (n x y : Nat) (hp : x ≤ y ∧ y ≤ n ∧ n < 2 ^ 31) (J : e_Jt) (hC : e_P0 F_A S_A_rangeCheck k_A_rangeCheck none h J) : J 0 0 [(0, .int (nI n)), (1, .int (nI x)), (2, .int (nI y))] [] h := by
  refine e_run hC ?_
  conv => whnf
  refine ⟨fun _ => ?_, fun h1 => absurd (nI_le hp.1 (by omega)) h1⟩
  refine e_run hC ?_
  conv => whnf
  refine ⟨fun _ => ?_, fun h1 => absurd (nI_pos' (by omega)) h1⟩
  refine e_run hC ?_
  conv => whnf
  refine ⟨fun _ => ?_, fun h1 => absurd (nI_le hp.2.1 (by omega)) h1⟩
  refine e_run hC ?_
  conv => whnf
  exact ⟨rfl, rfl⟩
theorem m_A_rangeCheck (l : Launch) (hl : l.stackTraces = false) : e_Met l y_A_rangeCheck b_A_rangeCheck 3 none 0 C_A_rangeCheck :=
  e_met hl F_A C_A S_A_rangeCheck k_A_rangeCheck (by decide +kernel) f_A c_A s_A_rangeCheck o_A_rangeCheck (fun a _ => ⟨Nat.le_of_ble_eq_true rfl, rfl⟩) (fun a hp => ⟨_, rfl, Or.inl ⟨rfl, rfl⟩, v_A_rangeCheck a.1 a.2.1 a.2.2.1 a.2.2.2 hp⟩)
/-- v laid into the places from x on, before y -/
def ffl (f : Nat → Int32) (x y : Nat) (v : Int32) : Nat → Int32 := fun j => if x ≤ j ∧ j < y then v else f j
theorem ffl_end (f : Nat → Int32) (y : Nat) (v : Int32) : ffl f y y v = f := by
  funext j
  unfold ffl
  rw [if_neg (by omega)]
theorem ffl_step (f : Nat → Int32) (x y : Nat) (v : Int32) (h : x < y) : ffl (upd f x v) (x + 1) y v = ffl f x y v := by
  funext j
  unfold ffl upd
  by_cases h1 : j = x
  · subst h1
    rw [if_neg (by omega), if_pos rfl, if_pos (by omega)]
  · by_cases h2 : x + 1 ≤ j ∧ j < y
    · rw [if_pos h2, if_pos (by omega)]
    · rw [if_neg h2, if_neg h1, if_neg (by omega)]
theorem uA_uA (u : St) (k : Nat) (f g : Nat → Int32) : uA (uA u k f) k g = uA u k g := by
  unfold uA
  congr 2
  funext j
  show cond (Nat.beq j k) g (cond (Nat.beq j k) f (u.2.1 j)) = cond (Nat.beq j k) g (u.2.1 j)
  cases Nat.beq j k <;> rfl
theorem uA_self (u : St) (k : Nat) : uA u k (u.2.1 k) = u := by
  unfold uA
  congr 2
  funext j
  cases h : Nat.beq j k with
  | false => rfl
  | true => rw [Nat.eq_of_beq_eq_true h]; rfl
def C_A_fill4_2 : e_C := ⟨St × Nat × Nat × Int32, 4, fun _ => 0, fun a => a.2.1 ≤ a.2.2.1 ∧ a.2.2.1 ≤ 256, fun a => [.ref 2, .int (nI a.2.1), .int (nI a.2.2.1), .int a.2.2.2], fun a => Hp a.1, fun _ => .inl none, fun a => Hp (uA a.1 0 (ffl (a.1.2.1 0) a.2.1 a.2.2.1 a.2.2.2))⟩
def S_A_fill4_2 : List (Nat × e_C) := [(4, C_A_rangeCheck)]
theorem s_A_fill4_2 : ∀ x ∈ S_A_fill4_2, e_Site b_A_fill4 "java/util/Arrays" 1 x.1 x.2 := List.forall_mem_cons.mpr ⟨e_siteS (y := y_A_rangeCheck) (i := 13) m_A_rangeCheck (by decide) (by decide) (fun _ => rfl) (e_in1 233 rfl rfl) (e_in1 234 rfl rfl) (e_in1 4 rfl rfl) (e_in1 235 rfl rfl) ⟨by decide, by decide, rfl⟩ (by decide +kernel), fun x hx => (by cases hx)⟩
theorem v_A_fill4_2 (u : St) (x y : Nat) (v : Int32) (hp : x ≤ y ∧ y ≤ 256) (J : e_Jt) (hC : e_P0 F_A S_A_fill4_2 k_A_fill4 none (Hp (uA u 0 (ffl (u.2.1 0) x y v))) J) : J 0 0 [(0, .ref 2), (1, .int (nI x)), (2, .int (nI y)), (3, .int v)] [] (Hp u) := by
  obtain ⟨h1, h2⟩ := hp
  have loop : ∀ n z (u1 : St), z + n = y → Hp (uA u1 0 (ffl (u1.2.1 0) z y v)) = Hp (uA u 0 (ffl (u.2.1 0) x y v)) → J 0 10 [(0, .ref 2), (1, .int (nI x)), (2, .int (nI y)), (3, .int v), (4, .int (nI z))] [] (Hp u1) := by
    intro n
    induction n with
    | zero =>
      intro z u1 h3 h4
      refine e_run hC ?_
      conv => whnf
      refine ⟨fun _ => ?_, fun h5 => absurd (nI_le (by omega) (by omega)) h5⟩
      refine e_run hC ?_
      conv => whnf
      refine ⟨rfl, ?_⟩
      rw [← h4, show z = y by omega, ffl_end, uA_self]
    | succ n ih =>
      intro z u1 h3 h4
      refine e_run hC ?_
      conv => whnf
      refine ⟨fun h5 => absurd h5 (nI_ge (by omega) (by omega)), fun _ => ?_⟩
      refine e_run hC ?_
      conv => whnf
      refine ⟨vp_in_nI (by omega) (by decide), ?_⟩
      rw [nI_clamp (by omega), h_a0]
      refine e_run hC ?_
      conv => whnf
      rw [nI_1]
      refine ih (z + 1) _ (by omega) ?_
      rw [← h4, uA_uA]
      show Hp (uA u1 0 (ffl (upd (u1.2.1 0) z v) (z + 1) y v)) = _
      rw [ffl_step _ _ _ _ (by omega)]
  refine e_run hC ?_
  conv => whnf
  refine ⟨(Hp u, 256, x, y), ⟨h1, h2, (by decide : 256 < 2 ^ 31)⟩, rfl, rfl, ?_⟩
  conv => whnf
  refine e_runTo 10 hC ?_
  conv => whnf
  exact loop (y - x) x u (by omega) rfl
theorem m_A_fill4_2 (l : Launch) (hl : l.stackTraces = false) : e_Met l y_A_fill4 b_A_fill4 5 none 1 C_A_fill4_2 :=
  e_met hl F_A C_A S_A_fill4_2 k_A_fill4 (by decide +kernel) f_A c_A s_A_fill4_2 o_A_fill4 (fun a _ => ⟨Nat.le_of_ble_eq_true rfl, rfl⟩) (fun a hp => ⟨_, rfl, Or.inl ⟨rfl, rfl⟩, v_A_fill4_2 a.1 a.2.1 a.2.2.1 a.2.2.2 hp⟩)
def C_A_fill4_7 : e_C := ⟨St × Nat × Nat × Int32, 4, fun _ => 0, fun a => a.2.1 ≤ a.2.2.1 ∧ a.2.2.1 ≤ 40, fun a => [.ref 7, .int (nI a.2.1), .int (nI a.2.2.1), .int a.2.2.2], fun a => Hp a.1, fun _ => .inl none, fun a => Hp (uA a.1 3 (ffl (a.1.2.1 3) a.2.1 a.2.2.1 a.2.2.2))⟩
def S_A_fill4_7 : List (Nat × e_C) := [(4, C_A_rangeCheck)]
theorem s_A_fill4_7 : ∀ x ∈ S_A_fill4_7, e_Site b_A_fill4 "java/util/Arrays" 1 x.1 x.2 := List.forall_mem_cons.mpr ⟨e_siteS (y := y_A_rangeCheck) (i := 13) m_A_rangeCheck (by decide) (by decide) (fun _ => rfl) (e_in1 233 rfl rfl) (e_in1 234 rfl rfl) (e_in1 4 rfl rfl) (e_in1 235 rfl rfl) ⟨by decide, by decide, rfl⟩ (by decide +kernel), fun x hx => (by cases hx)⟩
theorem v_A_fill4_7 (u : St) (x y : Nat) (v : Int32) (hp : x ≤ y ∧ y ≤ 40) (J : e_Jt) (hC : e_P0 F_A S_A_fill4_7 k_A_fill4 none (Hp (uA u 3 (ffl (u.2.1 3) x y v))) J) : J 0 0 [(0, .ref 7), (1, .int (nI x)), (2, .int (nI y)), (3, .int v)] [] (Hp u) := by
  obtain ⟨h1, h2⟩ := hp
  have loop : ∀ n z (u1 : St), z + n = y → Hp (uA u1 3 (ffl (u1.2.1 3) z y v)) = Hp (uA u 3 (ffl (u.2.1 3) x y v)) → J 0 10 [(0, .ref 7), (1, .int (nI x)), (2, .int (nI y)), (3, .int v), (4, .int (nI z))] [] (Hp u1) := by
    intro n
    induction n with
    | zero =>
      intro z u1 h3 h4
      refine e_run hC ?_
      conv => whnf
      refine ⟨fun _ => ?_, fun h5 => absurd (nI_le (by omega) (by omega)) h5⟩
      refine e_run hC ?_
      conv => whnf
      refine ⟨rfl, ?_⟩
      rw [← h4, show z = y by omega, ffl_end, uA_self]
    | succ n ih =>
      intro z u1 h3 h4
      refine e_run hC ?_
      conv => whnf
      refine ⟨fun h5 => absurd h5 (nI_ge (by omega) (by omega)), fun _ => ?_⟩
      refine e_run hC ?_
      conv => whnf
      refine ⟨vp_in_nI (by omega) (by decide), ?_⟩
      rw [nI_clamp (by omega), h_a3]
      refine e_run hC ?_
      conv => whnf
      rw [nI_1]
      refine ih (z + 1) _ (by omega) ?_
      rw [← h4, uA_uA]
      show Hp (uA u1 3 (ffl (upd (u1.2.1 3) z v) (z + 1) y v)) = _
      rw [ffl_step _ _ _ _ (by omega)]
  refine e_run hC ?_
  conv => whnf
  refine ⟨(Hp u, 40, x, y), ⟨h1, h2, (by decide : 40 < 2 ^ 31)⟩, rfl, rfl, ?_⟩
  conv => whnf
  refine e_runTo 10 hC ?_
  conv => whnf
  exact loop (y - x) x u (by omega) rfl
theorem m_A_fill4_7 (l : Launch) (hl : l.stackTraces = false) : e_Met l y_A_fill4 b_A_fill4 5 none 1 C_A_fill4_7 :=
  e_met hl F_A C_A S_A_fill4_7 k_A_fill4 (by decide +kernel) f_A c_A s_A_fill4_7 o_A_fill4 (fun a _ => ⟨Nat.le_of_ble_eq_true rfl, rfl⟩) (fun a hp => ⟨_, rfl, Or.inl ⟨rfl, rfl⟩, v_A_fill4_7 a.1 a.2.1 a.2.2.1 a.2.2.2 hp⟩)
def C_A_fill4_11 : e_C := ⟨St × Nat × Nat × Int32, 4, fun _ => 0, fun a => a.2.1 ≤ a.2.2.1 ∧ a.2.2.1 ≤ 256, fun a => [.ref 11, .int (nI a.2.1), .int (nI a.2.2.1), .int a.2.2.2], fun a => Hp a.1, fun _ => .inl none, fun a => Hp (uA a.1 5 (ffl (a.1.2.1 5) a.2.1 a.2.2.1 a.2.2.2))⟩
def S_A_fill4_11 : List (Nat × e_C) := [(4, C_A_rangeCheck)]
theorem s_A_fill4_11 : ∀ x ∈ S_A_fill4_11, e_Site b_A_fill4 "java/util/Arrays" 1 x.1 x.2 := List.forall_mem_cons.mpr ⟨e_siteS (y := y_A_rangeCheck) (i := 13) m_A_rangeCheck (by decide) (by decide) (fun _ => rfl) (e_in1 233 rfl rfl) (e_in1 234 rfl rfl) (e_in1 4 rfl rfl) (e_in1 235 rfl rfl) ⟨by decide, by decide, rfl⟩ (by decide +kernel), fun x hx => (by cases hx)⟩
theorem v_A_fill4_11 (u : St) (x y : Nat) (v : Int32) (hp : x ≤ y ∧ y ≤ 256) (J : e_Jt) (hC : e_P0 F_A S_A_fill4_11 k_A_fill4 none (Hp (uA u 5 (ffl (u.2.1 5) x y v))) J) : J 0 0 [(0, .ref 11), (1, .int (nI x)), (2, .int (nI y)), (3, .int v)] [] (Hp u) := by
  obtain ⟨h1, h2⟩ := hp
  have loop : ∀ n z (u1 : St), z + n = y → Hp (uA u1 5 (ffl (u1.2.1 5) z y v)) = Hp (uA u 5 (ffl (u.2.1 5) x y v)) → J 0 10 [(0, .ref 11), (1, .int (nI x)), (2, .int (nI y)), (3, .int v), (4, .int (nI z))] [] (Hp u1) := by
    intro n
    induction n with
    | zero =>
      intro z u1 h3 h4
      refine e_run hC ?_
      conv => whnf
      refine ⟨fun _ => ?_, fun h5 => absurd (nI_le (by omega) (by omega)) h5⟩
      refine e_run hC ?_
      conv => whnf
      refine ⟨rfl, ?_⟩
      rw [← h4, show z = y by omega, ffl_end, uA_self]
    | succ n ih =>
      intro z u1 h3 h4
      refine e_run hC ?_
      conv => whnf
      refine ⟨fun h5 => absurd h5 (nI_ge (by omega) (by omega)), fun _ => ?_⟩
      refine e_run hC ?_
      conv => whnf
      refine ⟨vp_in_nI (by omega) (by decide), ?_⟩
      rw [nI_clamp (by omega), h_a5]
      refine e_run hC ?_
      conv => whnf
      rw [nI_1]
      refine ih (z + 1) _ (by omega) ?_
      rw [← h4, uA_uA]
      show Hp (uA u1 5 (ffl (upd (u1.2.1 5) z v) (z + 1) y v)) = _
      rw [ffl_step _ _ _ _ (by omega)]
  refine e_run hC ?_
  conv => whnf
  refine ⟨(Hp u, 256, x, y), ⟨h1, h2, (by decide : 256 < 2 ^ 31)⟩, rfl, rfl, ?_⟩
  conv => whnf
  refine e_runTo 10 hC ?_
  conv => whnf
  exact loop (y - x) x u (by omega) rfl
theorem m_A_fill4_11 (l : Launch) (hl : l.stackTraces = false) : e_Met l y_A_fill4 b_A_fill4 5 none 1 C_A_fill4_11 :=
  e_met hl F_A C_A S_A_fill4_11 k_A_fill4 (by decide +kernel) f_A c_A s_A_fill4_11 o_A_fill4 (fun a _ => ⟨Nat.le_of_ble_eq_true rfl, rfl⟩) (fun a hp => ⟨_, rfl, Or.inl ⟨rfl, rfl⟩, v_A_fill4_11 a.1 a.2.1 a.2.2.1 a.2.2.2 hp⟩)
