/-! packing: how long a run is, how long a stretch without one -/
/-- from k on, at most n words are x: the first place that isn't -/
def sr (w : Nat → Int32) (x : Int32) : Nat → Nat → Nat
  | 0, k => k
  | n + 1, k => if w k = x then sr w x n (k + 1) else k
theorem sr_le (w : Nat → Int32) (x : Int32) : ∀ n k, k ≤ sr w x n k ∧ sr w x n k ≤ k + n := by
  intro n
  induction n with
  | zero => intro k; exact ⟨Nat.le_refl _, Nat.le_refl _⟩
  | succ n ih =>
    intro k
    show k ≤ (if w k = x then sr w x n (k + 1) else k) ∧ (if w k = x then sr w x n (k + 1) else k) ≤ k + (n + 1)
    have := ih (k + 1)
    split <;> omega
def same (w : Nat → Int32) (k e : Nat) : Nat := sr w (w k) (e - (k + 1)) (k + 1) - k
theorem same_in (w : Nat → Int32) {k e : Nat} (h : k < e) : 1 ≤ same w k e ∧ k + same w k e ≤ e := by
  have := sr_le w (w k) (e - (k + 1)) (k + 1)
  unfold same
  omega
def C_Q_sameFrom : e_C := ⟨St × Nat × Nat, 3, fun _ => 0, fun a => a.2.1 < a.2.2 ∧ a.2.2 ≤ 256, fun a => [.ref 2, .int (nI a.2.1), .int (nI a.2.2)], fun a => Hp a.1, fun a => .inl (some (.int (nI (same (a.1.2.1 0) a.2.1 a.2.2)))), fun a => Hp a.1⟩
def S_Q_sameFrom : List (Nat × e_C) := []
theorem s_Q_sameFrom : ∀ x ∈ S_Q_sameFrom, e_Site b_Q_sameFrom "DumpDesk$Packing" 0 x.1 x.2 := fun x hx => (by cases hx)
theorem v_Q_sameFrom (u : St) (k0 e : Nat) (hp : k0 < e ∧ e ≤ 256) (J : e_Jt) (hC : e_P0 F_Q S_Q_sameFrom k_Q_sameFrom (some (.int (nI (same (u.2.1 0) k0 e)))) (Hp u) J) : J 0 0 [(0, .ref 2), (1, .int (nI k0)), (2, .int (nI e))] [] (Hp u) := by
  obtain ⟨h1, h2⟩ := hp
  have out : ∀ k, k = sr (u.2.1 0) (u.2.1 0 k0) (e - (k0 + 1)) (k0 + 1) → k0 ≤ k → J 0 24 [(0, .ref 2), (1, .int (nI k0)), (2, .int (nI e)), (3, .int (nI k))] [] (Hp u) := by
    intro k hk hk2
    refine e_run hC ?_
    conv => whnf
    refine ⟨?_, rfl⟩
    unfold same
    rw [pk_sub hk2, hk]
  have loop : ∀ n k, k + n = e → k0 < k → sr (u.2.1 0) (u.2.1 0 k0) n k = sr (u.2.1 0) (u.2.1 0 k0) (e - (k0 + 1)) (k0 + 1) → J 0 4 [(0, .ref 2), (1, .int (nI k0)), (2, .int (nI e)), (3, .int (nI k))] [] (Hp u) := by
    intro n
    induction n with
    | zero =>
      intro k h3 h4 h5
      refine e_run hC ?_
      conv => whnf
      exact ⟨fun _ => out k h5 (by omega), fun h6 => absurd (nI_le (by omega) (by omega)) h6⟩
    | succ n ih =>
      intro k h3 h4 h5
      have h5 : (if u.2.1 0 k = u.2.1 0 k0 then sr (u.2.1 0) (u.2.1 0 k0) n (k + 1) else k) = sr (u.2.1 0) (u.2.1 0 k0) (e - (k0 + 1)) (k0 + 1) := h5
      refine e_run hC ?_
      conv => whnf
      refine ⟨fun h6 => absurd h6 (nI_ge (by omega) (by omega)), fun _ => ?_⟩
      refine e_run hC ?_
      conv => whnf
      refine ⟨vp_in_nI (by omega) (by decide), ?_⟩
      rw [nI_clamp (by omega)]
      refine e_run hC ?_
      conv => whnf
      refine ⟨vp_in_nI (by omega) (by decide), ?_⟩
      rw [nI_clamp (by omega)]
      refine e_run hC ?_
      conv => whnf
      refine ⟨fun h6 => ?_, fun h6 => ?_⟩
      · rw [if_neg h6] at h5
        exact out k h5 (by omega)
      · rw [if_pos h6] at h5
        refine e_run hC ?_
        conv => whnf
        rw [nI_1]
        exact ih (k + 1) (by omega) (by omega) h5
  refine e_runTo 4 hC ?_
  conv => whnf
  rw [nI_1]
  exact loop (e - (k0 + 1)) (k0 + 1) (by omega) (by omega) rfl
theorem m_Q_sameFrom (l : Launch) (hl : l.stackTraces = false) : e_Met l y_Q_sameFrom b_Q_sameFrom 4 (some .int) 0 C_Q_sameFrom :=
  e_met hl F_Q C_Q S_Q_sameFrom k_Q_sameFrom (by decide +kernel) f_Q c_Q s_Q_sameFrom o_Q_sameFrom (fun a _ => ⟨Nat.le_of_ble_eq_true rfl, rfl⟩) (fun a hp => ⟨_, rfl, Or.inr ⟨.int, _, rfl, rfl, rfl⟩, v_Q_sameFrom a.1 a.2.1 a.2.2 hp⟩)
/-- from k on, at most n places: the first where a run of three begins -/
def mx (w : Nat → Int32) (e : Nat) : Nat → Nat → Nat
  | 0, k => k
  | n + 1, k => if same w k e < 3 then mx w e n (k + 1) else k
theorem mx_le (w : Nat → Int32) (e : Nat) : ∀ n k, k ≤ mx w e n k ∧ mx w e n k ≤ k + n := by
  intro n
  induction n with
  | zero => intro k; exact ⟨Nat.le_refl _, Nat.le_refl _⟩
  | succ n ih =>
    intro k
    show k ≤ (if same w k e < 3 then mx w e n (k + 1) else k) ∧ (if same w k e < 3 then mx w e n (k + 1) else k) ≤ k + (n + 1)
    have := ih (k + 1)
    split <;> omega
def mixed (w : Nat → Int32) (k e : Nat) : Nat := mx w e (e - (k + 1)) (k + 1) - k
theorem mixed_in (w : Nat → Int32) {k e : Nat} (h : k < e) : 1 ≤ mixed w k e ∧ k + mixed w k e ≤ e := by
  have := mx_le w e (e - (k + 1)) (k + 1)
  unfold mixed
  omega
def C_Q_mixedFrom : e_C := ⟨St × Nat × Nat, 3, fun _ => 0, fun a => a.2.1 < a.2.2 ∧ a.2.2 ≤ 256, fun a => [.ref 2, .int (nI a.2.1), .int (nI a.2.2)], fun a => Hp a.1, fun a => .inl (some (.int (nI (mixed (a.1.2.1 0) a.2.1 a.2.2)))), fun a => Hp a.1⟩
def S_Q_mixedFrom : List (Nat × e_C) := [(12, C_Q_sameFrom)]
theorem s_Q_mixedFrom : ∀ x ∈ S_Q_mixedFrom, e_Site b_Q_mixedFrom "DumpDesk$Packing" 1 x.1 x.2 := List.forall_mem_cons.mpr ⟨e_siteS (y := y_Q_sameFrom) (i := 9) m_Q_sameFrom (by decide) (by decide) (fun _ => rfl) (e_in3 37 rfl rfl) (e_in3 38 rfl rfl) (e_in1 16 rfl rfl) (e_in3 39 rfl rfl) ⟨by decide, by decide, rfl⟩ (by decide +kernel), fun x hx => (by cases hx)⟩
theorem v_Q_mixedFrom (u : St) (k0 e : Nat) (hp : k0 < e ∧ e ≤ 256) (J : e_Jt) (hC : e_P0 F_Q S_Q_mixedFrom k_Q_mixedFrom (some (.int (nI (mixed (u.2.1 0) k0 e)))) (Hp u) J) : J 0 0 [(0, .ref 2), (1, .int (nI k0)), (2, .int (nI e))] [] (Hp u) := by
  obtain ⟨h1, h2⟩ := hp
  have out : ∀ k, k = mx (u.2.1 0) e (e - (k0 + 1)) (k0 + 1) → k0 ≤ k → J 0 25 [(0, .ref 2), (1, .int (nI k0)), (2, .int (nI e)), (3, .int (nI k))] [] (Hp u) := by
    intro k hk hk2
    refine e_run hC ?_
    conv => whnf
    refine ⟨?_, rfl⟩
    unfold mixed
    rw [pk_sub hk2, hk]
  have loop : ∀ n k, k + n = e → k0 < k → mx (u.2.1 0) e n k = mx (u.2.1 0) e (e - (k0 + 1)) (k0 + 1) → J 0 4 [(0, .ref 2), (1, .int (nI k0)), (2, .int (nI e)), (3, .int (nI k))] [] (Hp u) := by
    intro n
    induction n with
    | zero =>
      intro k h3 h4 h5
      refine e_run hC ?_
      conv => whnf
      exact ⟨fun _ => out k h5 (by omega), fun h6 => absurd (nI_le (by omega) (by omega)) h6⟩
    | succ n ih =>
      intro k h3 h4 h5
      have h5 : (if same (u.2.1 0) k e < 3 then mx (u.2.1 0) e n (k + 1) else k) = mx (u.2.1 0) e (e - (k0 + 1)) (k0 + 1) := h5
      have h7 := same_in (u.2.1 0) (show k < e by omega)
      refine e_run hC ?_
      conv => whnf
      refine ⟨fun h6 => absurd h6 (nI_ge (by omega) (by omega)), fun _ => ?_⟩
      refine e_run hC ?_
      conv => whnf
      refine ⟨(u, k, e), ⟨(by omega : k < e), h2⟩, rfl, rfl, ?_⟩
      conv => whnf
      dsimp only [C_Q_sameFrom]
      refine e_run hC ?_
      conv => whnf
      refine ⟨fun h6 => ?_, fun h6 => ?_⟩
      · have h6 : 3 ≤ same (u.2.1 0) k e := (nI_leI (a := 3) (by decide) (by omega)).mp h6
        rw [if_neg (by omega)] at h5
        exact out k h5 (by omega)
      · have h6 : ¬ 3 ≤ same (u.2.1 0) k e := fun z => h6 ((nI_leI (a := 3) (by decide) (by omega)).mpr z)
        rw [if_pos (by omega)] at h5
        refine e_run hC ?_
        conv => whnf
        rw [nI_1]
        exact ih (k + 1) (by omega) (by omega) h5
  refine e_runTo 4 hC ?_
  conv => whnf
  rw [nI_1]
  exact loop (e - (k0 + 1)) (k0 + 1) (by omega) (by omega) rfl
theorem m_Q_mixedFrom (l : Launch) (hl : l.stackTraces = false) : e_Met l y_Q_mixedFrom b_Q_mixedFrom 4 (some .int) 1 C_Q_mixedFrom :=
  e_met hl F_Q C_Q S_Q_mixedFrom k_Q_mixedFrom (by decide +kernel) f_Q c_Q s_Q_mixedFrom o_Q_mixedFrom (fun a _ => ⟨Nat.le_of_ble_eq_true rfl, rfl⟩) (fun a hp => ⟨_, rfl, Or.inr ⟨.int, _, rfl, rfl, rfl⟩, v_Q_mixedFrom a.1 a.2.1 a.2.2 hp⟩)
/-- packs the words from k on, before e, into f from t on: where the packing ends, and f -/
def pkg (w : Nat → Int32) (e : Nat) : Nat → Nat → Nat → (Nat → Int32) → Nat × (Nat → Int32)
  | 0, _, t, f => (t, f)
  | n + 1, k, t, f => if k < e then (if 3 ≤ same w k e then pkg w e n (k + same w k e) (t + 2) (upd (upd f t (-nI (same w k e))) (t + 1) (w k)) else pkg w e n (k + mixed w k e) (t + 1 + mixed w k e) (va_cpy w (upd f t (nI (mixed w k e))) k (t + 1) (mixed w k e))) else (t, f)
theorem pkg_le (w : Nat → Int32) (e : Nat) : ∀ n k t f, k ≤ e → t ≤ (pkg w e n k t f).1 ∧ (pkg w e n k t f).1 ≤ t + 2 * (e - k) := by
  intro n
  induction n with
  | zero => intro k t f h; exact ⟨Nat.le_refl _, Nat.le_add_right _ _⟩
  | succ n ih =>
    intro k t f h
    unfold pkg
    split
    next h1 =>
      have a1 := same_in w h1
      have a2 := mixed_in w h1
      split
      next h2 =>
        have := ih (k + same w k e) (t + 2) (upd (upd f t (-nI (same w k e))) (t + 1) (w k)) a1.2
        omega
      next h2 =>
        have := ih (k + mixed w k e) (t + 1 + mixed w k e) (va_cpy w (upd f t (nI (mixed w k e))) k (t + 1) (mixed w k e)) a2.2
        omega
    next h1 => exact ⟨Nat.le_refl _, Nat.le_add_right _ _⟩
def C_Q_packPage : e_C := ⟨St × Nat, 3, fun _ => 0, fun a => a.2 < 16, fun a => [.ref 2, .int (nI a.2), .ref 7], fun a => Hp a.1, fun a => .inl (some (.int (nI ((pkg (a.1.2.1 0) (16 * a.2 + 16) 16 (16 * a.2) 3 (a.1.2.1 3)).1 - 3)))), fun a => Hp (uA a.1 3 (pkg (a.1.2.1 0) (16 * a.2 + 16) 16 (16 * a.2) 3 (a.1.2.1 3)).2)⟩
def S_Q_packPage : List (Nat × e_C) := [(26, C_Q_sameFrom), (71, C_Q_mixedFrom), (92, C_cp_2_7)]
theorem s_Q_packPage : ∀ x ∈ S_Q_packPage, e_Site b_Q_packPage "DumpDesk$Packing" 2 x.1 x.2 := List.forall_mem_cons.mpr ⟨e_siteS (y := y_Q_sameFrom) (i := 9) m_Q_sameFrom (by decide) (by decide) (fun _ => rfl) (e_in3 37 rfl rfl) (e_in3 38 rfl rfl) (e_in1 16 rfl rfl) (e_in3 39 rfl rfl) ⟨by decide, by decide, rfl⟩ (by decide +kernel), List.forall_mem_cons.mpr ⟨e_siteS (y := y_Q_mixedFrom) (i := 15) m_Q_mixedFrom (by decide) (by decide) (fun _ => rfl) (e_in3 40 rfl rfl) (e_in3 41 rfl rfl) (e_in1 16 rfl rfl) (e_in3 42 rfl rfl) ⟨by decide, by decide, rfl⟩ (by decide +kernel), List.forall_mem_cons.mpr ⟨e_siteCP (i := 18) (n0 := 2) (n1 := 7) (by decide) (by decide) (by decide) (fun _ => rfl) r_cp_2_7 (e_in1 236 rfl rfl) (e_in1 212 rfl rfl) (e_in1 211 rfl rfl) (e_in1 17 rfl rfl) (by decide +kernel), fun x hx => (by cases hx)⟩⟩⟩
theorem v_Q_packPage (u : St) (p : Nat) (hp : p < 16) (J : e_Jt) (B : Nat × (Nat → Int32)) (hB : pkg (u.2.1 0) (16 * p + 16) 16 (16 * p) 3 (u.2.1 3) = B) (hC : e_P0 F_Q S_Q_packPage k_Q_packPage (some (.int (nI (B.1 - 3)))) (Hp (uA u 3 B.2)) J) : J 0 0 [(0, .ref 2), (1, .int (nI p)), (2, .ref 7)] [] (Hp u) := by
  have out : ∀ k t f, B = (t, f) → 3 ≤ t → J 0 114 [(0, .ref 2), (1, .int (nI p)), (2, .ref 7), (3, .int (nI (16 * p + 16))), (4, .int (nI k)), (5, .int (nI t))] [] (Hp (uA u 3 f)) := by
    intro k t f h1 h2
    refine e_run hC ?_
    conv => whnf
    rw [h1]
    refine ⟨?_, rfl⟩
    rw [show (3 : Int32) = nI 3 from rfl, pk_sub h2]
  have loop : ∀ n k t f, 16 * p + 16 ≤ k + n → k ≤ 16 * p + 16 → 16 * p ≤ k → 3 ≤ t → t ≤ 3 + 2 * (k - 16 * p) → pkg (u.2.1 0) (16 * p + 16) n k t f = B → J 0 16 [(0, .ref 2), (1, .int (nI p)), (2, .ref 7), (3, .int (nI (16 * p + 16))), (4, .int (nI k)), (5, .int (nI t))] [] (Hp (uA u 3 f)) := by
    intro n
    induction n with
    | zero =>
      intro k t f h1 h2 h3 h4 h5 h6
      refine e_run hC ?_
      conv => whnf
      exact ⟨fun _ => out k t f h6.symm h4, fun h7 => absurd (nI_le (by omega) (by omega)) h7⟩
    | succ n ih =>
      intro k t f h1 h2 h3 h4 h5 h6
      unfold pkg at h6
      by_cases h7 : k < 16 * p + 16
      · rw [if_pos h7] at h6
        have a1 := same_in (u.2.1 0) h7
        have a2 := mixed_in (u.2.1 0) h7
        refine e_run hC ?_
        conv => whnf
        refine ⟨fun h8 => absurd h8 (nI_ge (by omega) (by omega)), fun _ => ?_⟩
        refine e_run hC ?_
        conv => whnf
        refine ⟨(uA u 3 f, k, 16 * p + 16), ⟨h7, by show 16 * p + 16 ≤ 256; omega⟩, rfl, rfl, ?_⟩
        conv => whnf
        dsimp only [C_Q_sameFrom]
        rw [show (uA u 3 f).2.1 0 = u.2.1 0 from rfl]
        refine e_run hC ?_
        conv => whnf
        refine ⟨fun h8 => ?_, fun h8 => ?_⟩
        · have h8 : same (u.2.1 0) k (16 * p + 16) < 3 := (nI_ltI (b := 3) (by omega) (by decide)).mp h8
          rw [if_neg (by omega)] at h6
          refine e_run hC ?_
          conv => whnf
          refine ⟨(uA u 3 f, k, 16 * p + 16), ⟨h7, by show 16 * p + 16 ≤ 256; omega⟩, rfl, rfl, ?_⟩
          conv => whnf
          dsimp only [C_Q_mixedFrom]
          rw [show (uA u 3 f).2.1 0 = u.2.1 0 from rfl]
          refine e_run hC ?_
          conv => whnf
          refine ⟨vp_in_nI (by omega) (by decide), ?_⟩
          rw [nI_clamp (by omega), h_a3, uA_uA]
          refine e_run hC ?_
          conv => whnf
          refine ⟨(uA u 3 (upd f t (nI (mixed (u.2.1 0) k (16 * p + 16)))), k, t + 1, mixed (u.2.1 0) k (16 * p + 16)), ⟨by show k + mixed (u.2.1 0) k (16 * p + 16) ≤ 256; omega, by show t + 1 + mixed (u.2.1 0) k (16 * p + 16) ≤ 40; omega⟩, ?_, rfl, ?_⟩
          · show [Value.ref 2, .int (nI k), .ref 7, .int (nI (t + 1)), .int (nI (mixed (u.2.1 0) k (16 * p + 16)))] = [Value.ref 2, .int (nI k), .ref 7, .int (nI t + 1), .int (nI (mixed (u.2.1 0) k (16 * p + 16)))]
            rw [nI_1]
          conv => whnf
          dsimp only [C_cp_2_7]
          rw [uA_uA]
          refine e_run hC ?_
          conv => whnf
          rw [show (1 : Int32) = nI 1 from rfl, nI_add, nI_add, nI_add, ← Nat.add_assoc]
          refine e_weak hC [0, 1, 2, 3, 4, 5] rfl rfl ?_
          exact ih (k + mixed (u.2.1 0) k (16 * p + 16)) (t + 1 + mixed (u.2.1 0) k (16 * p + 16)) _ (by omega) (by omega) (by omega) (by omega) (by omega) h6
        · have h8 : ¬ same (u.2.1 0) k (16 * p + 16) < 3 := fun z => h8 ((nI_ltI (b := 3) (by omega) (by decide)).mpr z)
          rw [if_pos (by omega)] at h6
          refine e_run hC ?_
          conv => whnf
          refine ⟨vp_in_nI (by omega) (by decide), ?_⟩
          rw [nI_clamp (by omega), h_a3, uA_uA]
          refine e_run hC ?_
          conv => whnf
          refine ⟨vp_in_nI (by omega) (by decide), ?_⟩
          rw [nI_clamp (by omega), nI_1]
          refine e_run hC ?_
          conv => whnf
          refine ⟨vp_in_nI (by omega) (by decide), ?_⟩
          rw [nI_clamp (by omega), h_a3, uA_uA]
          refine e_run hC ?_
          conv => whnf
          refine e_run hC ?_
          conv => whnf
          rw [show (2 : Int32) = nI 2 from rfl, nI_add, nI_add]
          exact e_weak hC [0, 1, 2, 3, 4, 5] rfl rfl (ih (k + same (u.2.1 0) k (16 * p + 16)) (t + 2) _ (by omega) (by omega) (by omega) (by omega) (by omega) h6)
      · rw [if_neg h7] at h6
        refine e_run hC ?_
        conv => whnf
        exact ⟨fun _ => out k t f h6.symm h4, fun h8 => absurd (nI_le (by omega) (by omega)) h8⟩
  refine e_runTo 16 hC ?_
  conv => whnf
  rw [m16, m16s]
  have h0 := loop 16 (16 * p) 3 (u.2.1 3) (by omega) (by omega) (by omega) (by omega) (by omega) hB
  rw [uA_self] at h0
  exact h0
theorem m_Q_packPage (l : Launch) (hl : l.stackTraces = false) : e_Met l y_Q_packPage b_Q_packPage 8 (some .int) 2 C_Q_packPage :=
  e_met hl F_Q C_Q S_Q_packPage k_Q_packPage (by decide +kernel) f_Q c_Q s_Q_packPage o_Q_packPage (fun a _ => ⟨Nat.le_of_ble_eq_true rfl, rfl⟩) (fun a hp => ⟨_, rfl, Or.inr ⟨.int, _, rfl, rfl, rfl⟩, fun J hC => v_Q_packPage a.1 a.2 hp J _ rfl hC⟩)
