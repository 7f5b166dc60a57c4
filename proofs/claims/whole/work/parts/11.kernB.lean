/-! numbers; the slot of a list, the lowest free page -/
theorem le_nI {x : Int32} {k : Nat} (hk : k < 2 ^ 31) : x ≤ nI k ↔ x.toInt ≤ k := by rw [Int32.le_iff_toInt_le, nI_toInt hk]
theorem nI_le2 {x : Int32} {k : Nat} (hk : k < 2 ^ 31) : nI k ≤ x ↔ (k : Int) ≤ x.toInt := by rw [Int32.le_iff_toInt_le, nI_toInt hk]
theorem lt_nI {x : Int32} {k : Nat} (hk : k < 2 ^ 31) : x < nI k ↔ x.toInt < k := by rw [Int32.lt_iff_toInt_lt, nI_toInt hk]
theorem nI_lt2 {x : Int32} {k : Nat} (hk : k < 2 ^ 31) : nI k < x ↔ (k : Int) < x.toInt := by rw [Int32.lt_iff_toInt_lt, nI_toInt hk]
theorem eq_nI {x : Int32} {k : Nat} (hk : k < 2 ^ 31) : x = nI k ↔ x.toInt = k := by rw [← Int32.toInt_inj, nI_toInt hk]
theorem bi0 {b : Bool} : bi b = 0 ↔ b = false := by cases b <;> decide
theorem pl_of {x : Int32} (h : pl x = true) : ∃ p : Nat, x = nI p ∧ 16 ≤ p ∧ p ≤ 236 ∧ p % 4 = 0 := by
  unfold pl at h
  simp only [Bool.and_eq_true, decide_eq_true_eq] at h
  obtain ⟨h1, h2, h3⟩ := h
  have h1 : (16 : Int) ≤ x.toInt := (nI_le2 (k := 16) (by decide)).mp h1
  have h2 : x.toInt ≤ 236 := (le_nI (k := 236) (by decide)).mp h2
  obtain ⟨p, hp, rfl⟩ : ∃ p : Nat, p < 2 ^ 31 ∧ x = nI p := ⟨x.toInt.toNat, by omega, (eq_nI (by omega)).mpr (by omega)⟩
  rw [nI_toInt hp] at h1 h2
  refine ⟨p, rfl, by omega, by omega, ?_⟩
  rw [show (4 : Int32) = nI 4 from rfl, pk_rem hp (by decide) (by decide)] at h3
  have h4 := (nI_eq (a := p % 4) (b := 0) (by omega) (by decide)).mp h3
  exact h4
theorem pl_nI {p : Nat} (hp : p < 2 ^ 31) : pl (nI p) = (decide (16 ≤ p) && (decide (p ≤ 236) && decide (p % 4 = 0))) := by
  unfold pl
  rw [show (4 : Int32) = nI 4 from rfl, pk_rem hp (by decide) (by decide), show (16 : Int32) = nI 16 from rfl, show (236 : Int32) = nI 236 from rfl, show (0 : Int32) = nI 0 from rfl]
  simp only [nI_leI (by decide : 16 < 2 ^ 31) hp, nI_leI hp (by decide : 236 < 2 ^ 31), nI_eq (show p % 4 < 2 ^ 31 by omega) (by decide : 0 < 2 ^ 31)]
/-- the word x as a place -/
abbrev na (x : Int32) : Nat := x.toNatClampNeg
theorem pl_na {x : Int32} (h : pl x = true) : x = nI (na x) ∧ 16 ≤ na x ∧ na x ≤ 236 ∧ na x % 4 = 0 := by
  obtain ⟨p, rfl, h1, h2, h3⟩ := pl_of h
  rw [na, nI_clamp (by omega)]
  exact ⟨rfl, h1, h2, h3⟩
/-- n links along from a slot -/
def fslot (w : Nat → Int32) : Nat → Nat → Nat
  | 0, s => s
  | n + 1, s => cond (pl (w s)) (fslot w n (na (w s) + 1)) s
theorem fslot_lt (w : Nat → Int32) : ∀ n s, s < 256 → fslot w n s < 256 := by
  intro n
  induction n with
  | zero => intro s h; exact h
  | succ n ih =>
    intro s h
    show cond (pl (w s)) (fslot w n (na (w s) + 1)) s < 256
    cases hp : pl (w s) with
    | false => exact h
    | true =>
      obtain ⟨-, h1, h2, h3⟩ := pl_na hp
      exact ih _ (by omega)
def steps56 (i : Int32) : Nat := (min i.toInt 56).toNat
def C_K_slotOf : e_C := ⟨St × Nat × Int32, 3, fun _ => 0, fun a => a.2.1 < 256, fun a => [.ref 1, .int (nI a.2.1), .int a.2.2], fun a => Hp a.1, fun a => .inl (some (.int (nI (fslot (a.1.2.1 0) (steps56 a.2.2) a.2.1)))), fun a => Hp a.1⟩
def S_K_slotOf : List (Nat × e_C) := [(24, C_D_isPlace)]
theorem s_K_slotOf : ∀ x ∈ S_K_slotOf, e_Site b_K_slotOf "DumpDesk$Kernel" 1 x.1 x.2 := List.forall_mem_cons.mpr ⟨e_siteSN (y := y_D_isPlace) (host := "DumpDesk") (i := 47) m_D_isPlace (by decide) (by decide) (fun _ => rfl) (by decide +kernel) (e_in2 102 rfl rfl) (e_in1 1 rfl rfl) (e_in2 103 rfl rfl) ⟨by decide, by decide, rfl⟩ (by decide +kernel), fun x hx => (by cases hx)⟩
theorem v_K_slotOf (u : St) (hd : Nat) (i : Int32) (hh : hd < 256) (J : e_Jt) (hC : e_P0 F_K S_K_slotOf k_K_slotOf (some (.int (nI (fslot (u.2.1 0) (steps56 i) hd)))) (Hp u) J) : J 0 0 [(0, .ref 1), (1, .int (nI hd)), (2, .int i)] [] (Hp u) := by
  have hm : steps56 i ≤ 56 := by unfold steps56; omega
  have out : ∀ s k, s = fslot (u.2.1 0) (steps56 i) hd → J 0 45 [(0, .ref 1), (1, .int (nI hd)), (2, .int i), (3, .int (nI s)), (4, .int (nI k))] [] (Hp u) := by
    intro s k hs
    refine e_run hC ?_
    conv => whnf
    exact ⟨by rw [hs], rfl⟩
  have loop : ∀ n k s, k + n = steps56 i → s < 256 → fslot (u.2.1 0) n s = fslot (u.2.1 0) (steps56 i) hd → J 0 5 [(0, .ref 1), (1, .int (nI hd)), (2, .int i), (3, .int (nI s)), (4, .int (nI k))] [] (Hp u) := by
    intro n
    induction n with
    | zero =>
      intro k s h1 h2 h3
      refine e_run hC ?_
      conv => whnf
      refine ⟨fun _ => out s k h3, fun h4 => ?_⟩
      refine e_run hC ?_
      conv => whnf
      refine ⟨fun _ => out s k h3, fun h5 => ?_⟩
      exfalso
      rw [le_nI (by omega)] at h4
      have h5 : ¬ (56 : Int) ≤ (nI k).toInt := fun z => h5 ((nI_le2 (k := 56) (by decide)).mpr z)
      rw [nI_toInt (by omega)] at h5
      unfold steps56 at h1
      omega
    | succ n ih =>
      intro k s h1 h2 h3
      have hk : k < 56 := by omega
      refine e_run hC ?_
      conv => whnf
      refine ⟨fun h4 => ?_, fun h4 => ?_⟩
      · exfalso
        rw [le_nI (by omega)] at h4
        unfold steps56 at h1
        omega
      refine e_run hC ?_
      conv => whnf
      refine ⟨fun h5 => ?_, fun h5 => ?_⟩
      · exfalso
        have h5 := (nI_le2 (k := 56) (by decide)).mp h5
        rw [nI_toInt (by omega)] at h5
        omega
      refine e_run hC ?_
      conv => whnf
      refine ⟨vp_in_nI h2 (by decide), ?_⟩
      rw [nI_clamp (by omega)]
      refine e_run hC ?_
      conv => whnf
      refine ⟨(Hp u, u.2.1 0 s), trivial, rfl, rfl, ?_⟩
      conv => whnf
      refine e_run hC ?_
      conv => whnf
      refine ⟨fun h6 => out s k ?_, fun h6 => ?_⟩
      · rw [← h3]
        show s = cond (pl (u.2.1 0 s)) _ s
        rw [bi0.mp h6]
        rfl
      have h7 : pl (u.2.1 0 s) = true := by
        cases h : pl (u.2.1 0 s) with
        | true => rfl
        | false => exact absurd (bi0.mpr h) h6
      obtain ⟨g1, g2, g3, g4⟩ := pl_na h7
      refine e_run hC ?_
      conv => whnf
      refine ⟨vp_in_nI h2 (by decide), ?_⟩
      rw [nI_clamp (by omega)]
      refine e_run hC ?_
      conv => whnf
      rw [g1, nI_1, nI_1]
      refine ih (k + 1) (na (u.2.1 0 s) + 1) (by omega) (by omega) ?_
      rw [← h3]
      show _ = cond (pl (u.2.1 0 s)) (fslot (u.2.1 0) n (na (u.2.1 0 s) + 1)) s
      rw [h7]
      rfl
  refine e_runTo 5 hC ?_
  conv => whnf
  exact loop (steps56 i) 0 hd (by omega) hh rfl
theorem m_K_slotOf (l : Launch) (hl : l.stackTraces = false) : e_Met l y_K_slotOf b_K_slotOf 5 (some .int) 1 C_K_slotOf :=
  e_met hl F_K C_K S_K_slotOf k_K_slotOf (by decide +kernel) f_K c_K s_K_slotOf o_K_slotOf (fun a _ => ⟨Nat.le_of_ble_eq_true rfl, rfl⟩) (fun a hp => ⟨_, rfl, Or.inr ⟨.int, _, rfl, rfl, rfl⟩, v_K_slotOf a.1 a.2.1 a.2.2 hp⟩)
