/-! the reader: a sector, a head, a chunk -/
def rs (u : St) (s k : Nat) : Bool × St := if fNG (u.2.1 2) (96 - s) s < 96 then (true, uS (uA u 4 (va_cpy (u.2.1 1) (u.2.1 4) (8 * fNG (u.2.1 2) (96 - s) s) (8 * k) 8)) 6 (nI (fNG (u.2.1 2) (96 - s) s + 1))) else (false, u)
theorem fNG_le (bd : Nat → Int32) : ∀ n s, s ≤ fNG bd n s ∧ fNG bd n s ≤ s + n := by
  intro n
  induction n with
  | zero => intro s; exact ⟨Nat.le_refl _, Nat.le_refl _⟩
  | succ n ih =>
    intro s
    show s ≤ (if bd s = 0 then s else fNG bd n (s + 1)) ∧ (if bd s = 0 then s else fNG bd n (s + 1)) ≤ s + (n + 1)
    have := ih (s + 1)
    split <;> omega
def C_U_readSector : e_C := ⟨St × Nat × Nat, 2, fun _ => 0, fun a => a.2.1 ≤ 96 ∧ a.2.2 < 5 ∧ a.1.1 6 = nI a.2.1, fun a => [.ref 8, .int (nI a.2.2)], fun a => Hp a.1, fun a => .inl (some (.int (bi (rs a.1 a.2.1 a.2.2).1))), fun a => Hp (rs a.1 a.2.1 a.2.2).2⟩
def S_U_readSector : List (Nat × e_C) := [(8, C_S_nextGood), (33, C_S_fetch)]
theorem s_U_readSector : ∀ x ∈ S_U_readSector, e_Site b_U_readSector "DumpDesk$Reader" 3 x.1 x.2 := List.forall_mem_cons.mpr ⟨e_siteV (y := y_S_nextGood) (i := 71) (ci := 2) m_S_nextGood (by decide) (by decide) (fun _ => rfl) rfl (fun a _ => ⟨_, _, _, rfl, by decide, rfl⟩) rfl (e_in1 202 rfl rfl) (e_in1 203 rfl rfl) (e_in1 3 rfl rfl) (e_in1 205 rfl rfl) (e_in1 204 rfl rfl) ⟨by decide, by decide, rfl⟩ (by decide +kernel), List.forall_mem_cons.mpr ⟨e_siteV (y := y_S_fetch) (i := 76) (ci := 2) m_S_fetch (by decide) (by decide) (fun _ => rfl) rfl (fun a _ => ⟨_, _, _, rfl, by decide, rfl⟩) rfl (e_in1 206 rfl rfl) (e_in1 207 rfl rfl) (e_in1 3 rfl rfl) (e_in1 209 rfl rfl) (e_in1 208 rfl rfl) ⟨by decide, by decide, rfl⟩ (by decide +kernel), fun x hx => (by cases hx)⟩⟩
theorem v_U_readSector (u : St) (s k : Nat) (hp : s ≤ 96 ∧ k < 5 ∧ u.1 6 = nI s) (J : e_Jt) (B : Bool × St) (hB : rs u s k = B) (hC : e_P0 F_U S_U_readSector k_U_readSector (some (.int (bi B.1))) (Hp B.2) J) : J 0 0 [(0, .ref 8), (1, .int (nI k))] [] (Hp u) := by
  obtain ⟨h1, h2, h3⟩ := hp
  have hg := fNG_le (u.2.1 2) (96 - s) s
  unfold rs at hB
  refine e_run hC ?_
  conv => whnf
  refine ⟨(u, s), h1, ?_, rfl, ?_⟩
  · show [Value.ref 3, .int (nI s)] = [Value.ref 3, .int (u.1 6)]
    rw [h3]
  conv => whnf
  dsimp only [C_S_nextGood]
  generalize fNG (u.2.1 2) (96 - s) s = g at hB hg ⊢
  refine e_run hC ?_
  conv => whnf
  refine ⟨fun h4 => ?_, fun h4 => ?_⟩
  · have h4 : g < 96 := (nI_ltI (b := 96) (by omega) (by decide)).mp h4
    rw [if_pos h4] at hB
    refine e_run hC ?_
    conv => whnf
    refine ⟨(u, g, 8 * k), ⟨h4, by show 8 * k + 8 ≤ 40; omega⟩, ?_, rfl, ?_⟩
    · show [Value.ref 3, .int (nI g), .ref 9, .int (nI (8 * k))] = [Value.ref 3, .int (nI g), .ref 9, .int (nI k * 8)]
      rw [m8]
    conv => whnf
    dsimp only [C_S_fetch]
    refine e_run hC ?_
    conv => whnf
    rw [h_s6, nI_1]
    refine e_run hC ?_
    conv => whnf
    rw [← hB]
    exact ⟨rfl, rfl⟩
  · have h4 : ¬ g < 96 := fun z => h4 ((nI_ltI (b := 96) (by omega) (by decide)).mpr z)
    rw [if_neg h4] at hB
    refine e_run hC ?_
    conv => whnf
    rw [← hB]
    exact ⟨rfl, rfl⟩
theorem m_U_readSector (l : Launch) (hl : l.stackTraces = false) : e_Met l y_U_readSector b_U_readSector 3 (some .boolean) 3 C_U_readSector :=
  e_met hl F_U C_U S_U_readSector k_U_readSector (by decide +kernel) f_U c_U s_U_readSector o_U_readSector (fun a _ => ⟨Nat.le_of_ble_eq_true rfl, rfl⟩) (fun a hp => ⟨_, rfl, Or.inr ⟨.boolean, _, rfl, rfl, bi_ok _⟩, fun J hC => v_U_readSector a.1 a.2.1 a.2.2 hp J _ rfl hC⟩)
/-- page and length fit -/
def hft (f : Nat → Int32) (b : Int32) : Bool := if f 1 = -1 then decide (f 2 = 2) else (decide (b < f 1) && (decide (f 1 < 16) && (decide (1 ≤ f 2) && decide (f 2 ≤ 32))))
def C_U_headFits : e_C := ⟨St × Int32, 2, fun _ => 0, fun _ => True, fun a => [.ref 8, .int a.2], fun a => Hp a.1, fun a => .inl (some (.int (bi (hft (a.1.2.1 4) a.2)))), fun a => Hp a.1⟩
def S_U_headFits : List (Nat × e_C) := []
theorem s_U_headFits : ∀ x ∈ S_U_headFits, e_Site b_U_headFits "DumpDesk$Reader" 0 x.1 x.2 := fun x hx => (by cases hx)
theorem v_U_headFits (u : St) (b : Int32) (J : e_Jt) (B : Bool) (hB : hft (u.2.1 4) b = B) (hC : e_P0 F_U S_U_headFits k_U_headFits (some (.int (bi B))) (Hp u) J) : J 0 0 [(0, .ref 8), (1, .int b)] [] (Hp u) := by
  unfold hft at hB
  have no : B = false → J 0 56 [(0, .ref 8), (1, .int b), (2, .int (u.2.1 4 1)), (3, .int (u.2.1 4 2))] [] (Hp u) := by
    intro h
    refine e_run hC ?_
    conv => whnf
    exact ⟨by rw [h]; rfl, rfl⟩
  refine e_run hC ?_
  conv => whnf
  refine ⟨vp_in_nI (n := 1) (by decide) (by decide), ?_⟩
  rw [show (1 : Int32).toNatClampNeg = 1 from rfl]
  refine e_run hC ?_
  conv => whnf
  refine ⟨vp_in_nI (n := 2) (by decide) (by decide), ?_⟩
  rw [show (2 : Int32).toNatClampNeg = 2 from rfl]
  refine e_run hC ?_
  conv => whnf
  refine ⟨fun h1 => ?_, fun h1 => ?_⟩
  · rw [if_neg h1] at hB
    refine e_run hC ?_
    conv => whnf
    refine ⟨fun h2 => no (by rw [← hB, decide_eq_false (Int32.not_lt.mpr h2), Bool.false_and]), fun h2 => ?_⟩
    rw [decide_eq_true (Int32.not_le.mp h2), Bool.true_and] at hB
    refine e_run hC ?_
    conv => whnf
    refine ⟨fun h3 => no (by rw [← hB, decide_eq_false (Int32.not_lt.mpr h3), Bool.false_and]), fun h3 => ?_⟩
    rw [decide_eq_true (Int32.not_le.mp h3), Bool.true_and] at hB
    refine e_run hC ?_
    conv => whnf
    refine ⟨fun h4 => no (by rw [← hB, decide_eq_false (Int32.not_le.mpr h4), Bool.false_and]), fun h4 => ?_⟩
    rw [decide_eq_true (Int32.not_lt.mp h4), Bool.true_and] at hB
    refine e_run hC ?_
    conv => whnf
    refine ⟨fun h5 => no (by rw [← hB, decide_eq_false (Int32.not_le.mpr h5)]), fun h5 => ?_⟩
    rw [decide_eq_true (Int32.not_lt.mp h5)] at hB
    refine e_run hC ?_
    conv => whnf
    refine e_run hC ?_
    conv => whnf
    exact ⟨by rw [← hB]; rfl, rfl⟩
  · rw [if_pos h1] at hB
    refine e_run hC ?_
    conv => whnf
    refine ⟨fun h2 => ?_, fun h2 => ?_⟩
    · rw [decide_eq_false h2] at hB
      refine e_run hC ?_
      conv => whnf
      exact ⟨by rw [← hB]; rfl, rfl⟩
    · rw [decide_eq_true h2] at hB
      refine e_run hC ?_
      conv => whnf
      refine e_run hC ?_
      conv => whnf
      exact ⟨by rw [← hB]; rfl, rfl⟩
theorem m_U_headFits (l : Launch) (hl : l.stackTraces = false) : e_Met l y_U_headFits b_U_headFits 4 (some .boolean) 0 C_U_headFits :=
  e_met hl F_U C_U S_U_headFits k_U_headFits (by decide +kernel) f_U c_U s_U_headFits o_U_headFits (fun a _ => ⟨Nat.le_of_ble_eq_true rfl, rfl⟩) (fun a hp => ⟨_, rfl, Or.inr ⟨.boolean, _, rfl, rfl, bi_ok _⟩, fun J hC => v_U_headFits a.1 a.2 J _ rfl hC⟩)
