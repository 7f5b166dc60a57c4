/-! unpacking -/
def ab (x : Int32) : Nat := x.toInt.natAbs
theorem ab_neg {x : Int32} (h1 : x < 0) (h2 : ¬ x < -16) : -x = nI (ab x) ∧ 1 ≤ ab x ∧ ab x ≤ 16 := by
  have a1 : x.toInt < 0 := Int32.lt_iff_toInt_lt.mp h1
  have a2 : ¬ x.toInt < -16 := fun z => h2 (Int32.lt_iff_toInt_lt.mpr z)
  have a3 : x = -nI (ab x) := by
    rw [← Int32.toInt_inj, sb_negT (by unfold ab; omega)]
    unfold ab
    omega
  refine ⟨?_, by unfold ab; omega, by unfold ab; omega⟩
  rw [a3, Int32.neg_neg, ← a3]
theorem ab_pos {x : Int32} (h1 : ¬ x < 0) (h2 : x ≤ 16) : x = nI (ab x) ∧ ab x ≤ 16 := by
  have a1 : ¬ x.toInt < 0 := fun z => h1 (Int32.lt_iff_toInt_lt.mpr z)
  have a2 : x.toInt ≤ 16 := (le_nI (k := 16) (by decide)).mp h2
  refine ⟨(eq_nI (by unfold ab; omega)).mpr (by unfold ab; omega), by unfold ab; omega⟩
theorem ab_ne0 {x : Int32} (h : ¬ x = 0) : ab x ≠ 0 := by
  intro z
  unfold ab at z
  exact h ((eq_nI (k := 0) (by decide)).mpr (by omega))
/-- whether the packing from t on, before e, gives 16 words, g of them behind it -/
def iop (f : Nat → Int32) (e : Nat) : Nat → Nat → Nat → Bool
  | 0, _, _ => false
  | n + 1, t, g => if t < e then (if f t = 0 ∨ f t < -16 ∨ 16 < f t then false else if f t < 0 then iop f e n (t + 2) (g + ab (f t)) else iop f e n (t + 1 + ab (f t)) (g + ab (f t))) else (decide (t = e) && decide (g = 16))
def C_Q_isOfPage : e_C := ⟨St × Nat, 2, fun _ => 0, fun a => a.2 ≤ 32, fun a => [.ref 9, .int (nI a.2)], fun a => Hp a.1, fun a => .inl (some (.int (bi (iop (a.1.2.1 4) (3 + a.2) 20 3 0)))), fun a => Hp a.1⟩
def S_Q_isOfPage : List (Nat × e_C) := []
theorem s_Q_isOfPage : ∀ x ∈ S_Q_isOfPage, e_Site b_Q_isOfPage "DumpDesk$Packing" 0 x.1 x.2 := fun x hx => (by cases hx)
theorem v_Q_isOfPage (u : St) (m : Nat) (hp : m ≤ 32) (J : e_Jt) (B : Bool) (hB : iop (u.2.1 4) (3 + m) 20 3 0 = B) (hC : e_P0 F_Q S_Q_isOfPage k_Q_isOfPage (some (.int (bi B))) (Hp u) J) : J 0 0 [(0, .ref 9), (1, .int (nI m))] [] (Hp u) := by
  have no : ∀ lv, B = false → lv_pick lv [0] = [(0, .ref 9)] → J 0 93 lv [] (Hp u) := by
    intro lv h1 h2
    refine e_weak hC [0] h2 rfl ?_
    refine e_run hC ?_
    conv => whnf
    exact ⟨by rw [h1]; rfl, rfl⟩
  have no2 : ∀ lv, B = false → lv_pick lv [0] = [(0, .ref 9)] → J 0 38 lv [] (Hp u) := by
    intro lv h1 h2
    refine e_weak hC [0] h2 rfl ?_
    refine e_run hC ?_
    conv => whnf
    exact ⟨by rw [h1]; rfl, rfl⟩
  have loop : ∀ n t g, 3 + m < t + 2 * n → 3 ≤ t → t ≤ 100 → g + 16 * n ≤ 320 → iop (u.2.1 4) (3 + m) n t g = B → J 0 9 [(0, .ref 9), (1, .int (nI m)), (2, .int (nI (3 + m))), (3, .int (nI t)), (4, .int (nI g))] [] (Hp u) := by
    intro n
    induction n with
    | zero =>
      intro t g h1 h2 h2' h3 h4
      refine e_run hC ?_
      conv => whnf
      refine ⟨fun _ => ?_, fun h5 => absurd (nI_le (by omega) (by omega)) h5⟩
      refine e_run hC ?_
      conv => whnf
      refine ⟨fun _ => no _ h4.symm rfl, fun h5 => ?_⟩
      have h5 := (nI_eq (by omega) (by omega)).mp h5
      omega
    | succ n ih =>
      intro t g h1 h2 h2' h3 h4
      unfold iop at h4
      by_cases h5 : t < 3 + m
      · rw [if_pos h5] at h4
        refine e_run hC ?_
        conv => whnf
        refine ⟨fun h6 => absurd h6 (nI_ge (by omega) (by omega)), fun _ => ?_⟩
        refine e_run hC ?_
        conv => whnf
        refine ⟨vp_in_nI (by omega) (by decide), ?_⟩
        rw [nI_clamp (by omega)]
        refine e_run hC ?_
        conv => whnf
        refine ⟨fun h6 => no2 _ (by rw [if_pos (Or.inl h6)] at h4; exact h4.symm) rfl, fun h6 => ?_⟩
        refine e_run hC ?_
        conv => whnf
        refine ⟨fun h7 => no2 _ (by rw [if_pos (Or.inr (Or.inl h7))] at h4; exact h4.symm) rfl, fun h7 => ?_⟩
        refine e_run hC ?_
        conv => whnf
        refine ⟨fun h8 => ?_, fun h8 => no2 _ (by rw [if_pos (Or.inr (Or.inr (Int32.not_le.mp h8)))] at h4; exact h4.symm) rfl⟩
        rw [if_neg (by
          rintro (z | z | z)
          · exact h6 z
          · exact h7 z
          · exact Int32.not_le.mpr z h8)] at h4
        have a0 := ab_ne0 h6
        by_cases h9 : u.2.1 4 t < 0
        · rw [if_pos h9] at h4
          obtain ⟨a1, a2, a3⟩ := ab_neg h9 h7
          refine e_run hC ?_
          conv => whnf
          refine ⟨fun z => absurd h9 (Int32.not_lt.mpr z), fun _ => ?_⟩
          refine e_run hC ?_
          conv => whnf
          refine e_run hC ?_
          conv => whnf
          refine ⟨fun z => absurd h9 (Int32.not_lt.mpr z), fun _ => ?_⟩
          refine e_run hC ?_
          conv => whnf
          refine e_run hC ?_
          conv => whnf
          rw [a1, nI_add, show (2 : Int32) = nI 2 from rfl, nI_add]
          exact e_weak hC [0, 1, 2, 3, 4] rfl rfl (ih (t + 2) (g + ab (u.2.1 4 t)) (by omega) (by omega) (by omega) (by omega) h4)
        · rw [if_neg h9] at h4
          obtain ⟨a1, a3⟩ := ab_pos h9 h8
          refine e_run hC ?_
          conv => whnf
          refine ⟨fun _ => ?_, fun z => absurd (Int32.not_lt.mp h9) z⟩
          refine e_run hC ?_
          conv => whnf
          refine ⟨fun _ => ?_, fun z => absurd (Int32.not_lt.mp h9) z⟩
          refine e_run hC ?_
          conv => whnf
          refine e_weak hC [0, 1, 2, 3, 4] rfl rfl ?_
          rw [a1, nI_add, show (1 : Int32) = nI 1 from rfl, nI_add, nI_add, ← Nat.add_assoc]
          exact ih (t + 1 + ab (u.2.1 4 t)) (g + ab (u.2.1 4 t)) (by omega) (by omega) (by omega) (by omega) h4
      · rw [if_neg h5] at h4
        refine e_run hC ?_
        conv => whnf
        refine ⟨fun _ => ?_, fun h6 => absurd (nI_le (by omega) (by omega)) h6⟩
        refine e_run hC ?_
        conv => whnf
        refine ⟨fun h6 => no _ ?_ rfl, fun h6 => ?_⟩
        · rw [← h4, decide_eq_false (fun z => h6 (by rw [z])), Bool.false_and]
        · have h6 := (nI_eq (by omega) (by omega)).mp h6
          refine e_run hC ?_
          conv => whnf
          refine ⟨fun h7 => no _ ?_ rfl, fun h7 => ?_⟩
          · rw [← h4, decide_eq_false (p := g = 16) (fun z => h7 (by rw [z]; rfl)), Bool.and_false]
          · have h7 := (nI_eq (b := 16) (by omega) (by decide)).mp h7
            refine e_run hC ?_
            conv => whnf
            refine e_run hC ?_
            conv => whnf
            refine ⟨?_, rfl⟩
            rw [← h4, decide_eq_true h6, decide_eq_true h7]
            rfl
  refine e_runTo 9 hC ?_
  conv => whnf
  rw [show (3 : Int32) = nI 3 from rfl, nI_add]
  exact loop 20 3 0 (by omega) (by omega) (by omega) (by omega) hB
theorem m_Q_isOfPage (l : Launch) (hl : l.stackTraces = false) : e_Met l y_Q_isOfPage b_Q_isOfPage 6 (some .boolean) 0 C_Q_isOfPage :=
  e_met hl F_Q C_Q S_Q_isOfPage k_Q_isOfPage (by decide +kernel) f_Q c_Q s_Q_isOfPage o_Q_isOfPage (fun a _ => ⟨Nat.le_of_ble_eq_true rfl, rfl⟩) (fun a hp => ⟨_, rfl, Or.inr ⟨.boolean, _, rfl, rfl, bi_ok _⟩, fun J hC => v_Q_isOfPage a.1 a.2 hp J _ rfl hC⟩)
theorem iop_in (f : Nat → Int32) (e : Nat) : ∀ n t g, iop f e n t g = true → t ≤ e ∧ g ≤ 16 := by
  intro n
  induction n with
  | zero => intro t g h; cases h
  | succ n ih =>
    intro t g h
    unfold iop at h
    split at h
    next h1 =>
      split at h
      next h2 => cases h
      next h2 =>
        split at h
        next h3 => have := ih _ _ h; omega
        next h3 => have := ih _ _ h; omega
    next h1 =>
      simp only [Bool.and_eq_true, decide_eq_true_eq] at h
      omega
theorem iop_step {f : Nat → Int32} {e n t g : Nat} (h : iop f e (n + 1) t g = true) (ht : t < e) : ¬ f t = 0 ∧ ¬ f t < -16 ∧ f t ≤ 16 ∧ (f t < 0 → iop f e n (t + 2) (g + ab (f t)) = true) ∧ (¬ f t < 0 → iop f e n (t + 1 + ab (f t)) (g + ab (f t)) = true) := by
  unfold iop at h
  rw [if_pos ht] at h
  split at h
  next h2 => cases h
  next h2 =>
    refine ⟨fun z => h2 (Or.inl z), fun z => h2 (Or.inr (Or.inl z)), Int32.not_lt.mp (fun z => h2 (Or.inr (Or.inr z))), fun z => ?_, fun z => ?_⟩
    · rw [if_pos z] at h
      exact h
    · rw [if_neg z] at h
      exact h
def upk (f : Nat → Int32) (e : Nat) : Nat → Nat → Nat → (Nat → Int32) → (Nat → Int32)
  | 0, _, _, w => w
  | n + 1, t, o, w => if t < e then (if f t < 0 then upk f e n (t + 2) (o + ab (f t)) (ffl w o (o + ab (f t)) (f (t + 1))) else upk f e n (t + 1 + ab (f t)) (o + ab (f t)) (va_cpy f w (t + 1) o (ab (f t)))) else w
def C_Q_unpackPage : e_C := ⟨St × Nat × Nat, 4, fun _ => 0, fun a => a.2.1 ≤ 32 ∧ a.2.2 < 16 ∧ iop (a.1.2.1 4) (3 + a.2.1) 20 3 0 = true, fun a => [.ref 9, .int (nI a.2.1), .ref 11, .int (nI a.2.2)], fun a => Hp a.1, fun _ => .inl none, fun a => Hp (uA a.1 5 (upk (a.1.2.1 4) (3 + a.2.1) 20 3 (16 * a.2.2) (a.1.2.1 5)))⟩
def S_Q_unpackPage : List (Nat × e_C) := [(46, C_A_fill4_11), (72, C_cp_9_11)]
theorem s_Q_unpackPage : ∀ x ∈ S_Q_unpackPage, e_Site b_Q_unpackPage "DumpDesk$Packing" 2 x.1 x.2 := List.forall_mem_cons.mpr ⟨e_siteS (y := y_A_fill4) (i := 24) m_A_fill4_11 (by decide) (by decide) (fun _ => rfl) (e_in1 230 rfl rfl) (e_in1 231 rfl rfl) (e_in1 4 rfl rfl) (e_in1 232 rfl rfl) ⟨by decide, by decide, rfl⟩ (by decide +kernel), List.forall_mem_cons.mpr ⟨e_siteCP (i := 18) (n0 := 9) (n1 := 11) (by decide) (by decide) (by decide) (fun _ => rfl) r_cp_9_11 (e_in1 236 rfl rfl) (e_in1 212 rfl rfl) (e_in1 211 rfl rfl) (e_in1 17 rfl rfl) (by decide +kernel), fun x hx => (by cases hx)⟩⟩
theorem v_Q_unpackPage (u : St) (m p : Nat) (hp : m ≤ 32 ∧ p < 16 ∧ iop (u.2.1 4) (3 + m) 20 3 0 = true) (J : e_Jt) (G : Nat → Int32) (hG : upk (u.2.1 4) (3 + m) 20 3 (16 * p) (u.2.1 5) = G) (hC : e_P0 F_Q S_Q_unpackPage k_Q_unpackPage none (Hp (uA u 5 G)) J) : J 0 0 [(0, .ref 9), (1, .int (nI m)), (2, .ref 11), (3, .int (nI p))] [] (Hp u) := by
  obtain ⟨h01, h02, h03⟩ := hp
  have loop : ∀ n t g w, iop (u.2.1 4) (3 + m) n t g = true → 3 ≤ t → upk (u.2.1 4) (3 + m) n t (16 * p + g) w = G → J 0 14 [(0, .ref 9), (1, .int (nI m)), (2, .ref 11), (3, .int (nI p)), (4, .int (nI (3 + m))), (5, .int (nI t)), (6, .int (nI (16 * p + g)))] [] (Hp (uA u 5 w)) := by
    intro n
    induction n with
    | zero => intro t g w h1; cases h1
    | succ n ih =>
      intro t g w h1 h2 h3
      have hb := iop_in _ _ _ _ _ h1
      unfold upk at h3
      by_cases h5 : t < 3 + m
      · rw [if_pos h5] at h3
        obtain ⟨b1, b2, b3, b4, b5⟩ := iop_step h1 h5
        refine e_run hC ?_
        conv => whnf
        refine ⟨fun h6 => absurd h6 (nI_ge (by omega) (by omega)), fun _ => ?_⟩
        refine e_run hC ?_
        conv => whnf
        refine ⟨vp_in_nI (by omega) (by decide), ?_⟩
        rw [nI_clamp (by omega)]
        refine e_run hC ?_
        conv => whnf
        refine ⟨fun h6 => ?_, fun h6 => ?_⟩
        · have h6' : ¬ u.2.1 4 t < 0 := Int32.not_lt.mpr h6
          rw [if_neg h6'] at h3
          have hn := iop_in _ _ _ _ _ (b5 h6')
          obtain ⟨a1, a3⟩ := ab_pos h6' b3
          refine e_run hC ?_
          conv => whnf
          refine ⟨(uA u 5 w, t + 1, 16 * p + g, ab (u.2.1 4 t)), ⟨by show t + 1 + ab (u.2.1 4 t) ≤ 40; omega, by show 16 * p + g + ab (u.2.1 4 t) ≤ 256; omega⟩, ?_, rfl, ?_⟩
          · show [Value.ref 9, .int (nI (t + 1)), .ref 11, .int (nI (16 * p + g)), .int (nI (ab (u.2.1 4 t)))] = [Value.ref 9, .int (nI t + 1), .ref 11, .int (nI (16 * p + g)), .int (u.2.1 4 t)]
            rw [nI_1, ← a1]
          conv => whnf
          dsimp only [C_cp_9_11]
          rw [uA_uA]
          refine e_run hC ?_
          conv => whnf
          refine e_weak hC [0, 1, 2, 3, 4, 5, 6] rfl rfl ?_
          have e5 : nI (16 * p + g) + u.2.1 4 t = nI (16 * p + (g + ab (u.2.1 4 t))) := by
            conv => lhs; rw [a1]
            rw [nI_add, Nat.add_assoc]
          have e6 : nI t + (1 + u.2.1 4 t) = nI (t + 1 + ab (u.2.1 4 t)) := by
            conv => lhs; rw [a1]
            rw [show (1 : Int32) = nI 1 from rfl, nI_add, nI_add, ← Nat.add_assoc]
          rw [show (uA u 5 w).2.1 4 t = u.2.1 4 t from rfl, e5, e6]
          rw [Nat.add_assoc (16 * p) g] at h3
          exact ih (t + 1 + ab (u.2.1 4 t)) (g + ab (u.2.1 4 t)) _ (b5 h6') (by omega) h3
        · have h6' : u.2.1 4 t < 0 := Int32.not_le.mp h6
          rw [if_pos h6'] at h3
          have hn := iop_in _ _ _ _ _ (b4 h6')
          obtain ⟨a1, a2, a3⟩ := ab_neg h6' b2
          have a4 : nI (16 * p + g) - u.2.1 4 t = nI (16 * p + g + ab (u.2.1 4 t)) := by
            rw [Int32.sub_eq_add_neg, a1, nI_add]
          refine e_run hC ?_
          conv => whnf
          rw [nI_1]
          refine ⟨vp_in_nI (by omega) (by decide), ?_⟩
          rw [nI_clamp (by omega)]
          refine e_run hC ?_
          conv => whnf
          refine ⟨(uA u 5 w, 16 * p + g, 16 * p + g + ab (u.2.1 4 t), u.2.1 4 (t + 1)), ⟨Nat.le_add_right _ _, by show 16 * p + g + ab (u.2.1 4 t) ≤ 256; omega⟩, ?_, rfl, ?_⟩
          · show [Value.ref 11, .int (nI (16 * p + g)), .int (nI (16 * p + g + ab (u.2.1 4 t))), .int (u.2.1 4 (t + 1))] = [Value.ref 11, .int (nI (16 * p + g)), .int (nI (16 * p + g) - u.2.1 4 t), .int (u.2.1 4 (t + 1))]
            rw [a4]
          conv => whnf
          dsimp only [C_A_fill4_11]
          rw [uA_uA]
          refine e_run hC ?_
          conv => whnf
          refine e_run hC ?_
          conv => whnf
          refine e_weak hC [0, 1, 2, 3, 4, 5, 6] rfl rfl ?_
          rw [show (uA u 5 w).2.1 4 t = u.2.1 4 t from rfl, a4, show (2 : Int32) = nI 2 from rfl, nI_add]
          rw [Nat.add_assoc] at h3 ⊢
          exact ih (t + 2) (g + ab (u.2.1 4 t)) _ (b4 h6') (by omega) h3
      · rw [if_neg h5] at h3
        refine e_run hC ?_
        conv => whnf
        refine ⟨fun _ => ?_, fun h6 => absurd (nI_le (by omega) (by omega)) h6⟩
        refine e_run hC ?_
        conv => whnf
        exact ⟨rfl, by rw [h3]⟩
  refine e_runTo 14 hC ?_
  conv => whnf
  rw [show (3 : Int32) = nI 3 from rfl, nI_add, m16]
  have h0 := loop 20 3 0 (u.2.1 5) h03 (by omega) hG
  rw [uA_self] at h0
  exact h0
theorem m_Q_unpackPage (l : Launch) (hl : l.stackTraces = false) : e_Met l y_Q_unpackPage b_Q_unpackPage 8 none 2 C_Q_unpackPage :=
  e_met hl F_Q C_Q S_Q_unpackPage k_Q_unpackPage (by decide +kernel) f_Q c_Q s_Q_unpackPage o_Q_unpackPage (fun a _ => ⟨Nat.le_of_ble_eq_true rfl, rfl⟩) (fun a hp => ⟨_, rfl, Or.inl ⟨rfl, rfl⟩, fun J hC => v_Q_unpackPage a.1 a.2.1 a.2.2 hp J _ rfl hC⟩)
