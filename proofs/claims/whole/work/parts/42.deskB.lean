/-! DumpDesk: calls of a running kernel -/
def rnc (u : St) : Bool := decide (u.1 0 = 0) && decide (u.1 1 = 0)
abbrev ISE : e_R := .inr "java/lang/IllegalStateException"
abbrev NSE : e_R := .inr "java/util/NoSuchElementException"
abbrev IAE : e_R := .inr "java/lang/IllegalArgumentException"
def C_D_refuseUnlessRunning : e_C := ⟨Bool × St, 1, fun a => cond a.1 0 1, fun a => rnc a.2 = a.1, fun _ => [.ref 0], fun a => Hp a.2, fun a => cond a.1 (.inl none) ISE, fun a => Hp a.2⟩
def S_D_refuseUnlessRunning : List (Nat × e_C) := []
theorem s_D_refuseUnlessRunning : ∀ x ∈ S_D_refuseUnlessRunning, e_Site b_D_refuseUnlessRunning "DumpDesk" 6 x.1 x.2 := fun x hx => (by cases hx)
def Th_D_refuseUnlessRunning : List (Nat × String) := [(20, "java/lang/IllegalStateException")]
theorem th_D_refuseUnlessRunning : ∀ x ∈ Th_D_refuseUnlessRunning, e_Thr b_D_refuseUnlessRunning x.1 x.2 := List.forall_mem_cons.mpr ⟨⟨90, 92, by decide +kernel, (e_in2 13 rfl rfl), (e_in1 12 rfl rfl), x_own_S, by decide +kernel, by decide +kernel, by decide +kernel, by decide +kernel⟩, fun x hx => (by cases hx)⟩
theorem v_D_refuseUnlessRunning (k : Bool) (u : St) (hp : rnc u = k) (J : e_Jt) (hC : e_PX (cond k 0 1) F_D S_D_refuseUnlessRunning Th_D_refuseUnlessRunning k_D_refuseUnlessRunning (cond k (.inl none) ISE) (Hp u) J) : J 0 0 [(0, .ref 0)] [] (Hp u) := by
  have no : rnc u = false → J 0 20 [(0, .ref 0)] [] (Hp u) := by
    intro h1
    rw [hp] at h1
    subst h1
    refine e_run hC ?_
    conv => whnf
    exact ⟨Nat.le_refl _, rfl, rfl⟩
  refine e_run hC ?_
  conv => whnf
  refine ⟨fun h1 => no ?_, fun h1 => ?_⟩
  · unfold rnc
    rw [decide_eq_false h1]
    rfl
  refine e_run hC ?_
  conv => whnf
  refine ⟨fun h2 => ?_, fun h2 => ?_⟩
  · have h3 : rnc u = true := by
      unfold rnc
      rw [decide_eq_true h1, decide_eq_true h2]
      rfl
    rw [hp] at h3
    subst h3
    refine e_run hC ?_
    conv => whnf
    exact ⟨Nat.le_refl _, rfl, rfl⟩
  · exact no (by unfold rnc; rw [decide_eq_false h2, Bool.and_false])
theorem m_D_refuseUnlessRunning (l : Launch) (hl : l.stackTraces = false) : e_MetX l y_D_refuseUnlessRunning 6 C_D_refuseUnlessRunning :=
  e_metX hl F_D C_D S_D_refuseUnlessRunning Th_D_refuseUnlessRunning k_D_refuseUnlessRunning (by decide +kernel) rfl (by decide) f_D c_D s_D_refuseUnlessRunning th_D_refuseUnlessRunning o_D_refuseUnlessRunning (x_code (e_in2 12 rfl rfl)) (fun a _ => ⟨Nat.le_of_ble_eq_true rfl, rfl⟩) (fun a hp => ⟨(by intro v hv; rcases a with ⟨k, a⟩; rcases k with _ | _ | _ | _ | k <;> first | (cases hv; exact Or.inl ⟨rfl, rfl⟩) | (cases hv)), v_D_refuseUnlessRunning a.1 a.2 hp⟩)
theorem tkP_0 (w : Nat → Int32) (h : (tkP w).1 = 0) : (tkP w).2 = w := by
  unfold tkP at h ⊢
  split
  · rfl
  · split
    · rfl
    · next h1 h2 =>
      rw [if_neg h1, if_neg h2] at h
      have : 16 * lowF w = 0 := h
      omega
theorem uA_id (u : St) (k : Nat) : uA u k (u.2.1 k) = u := by
  refine Prod.ext rfl (Prod.ext ?_ rfl)
  funext j
  show cond (Nat.beq j k) (u.2.1 k) (u.2.1 j) = u.2.1 j
  cases h : Nat.beq j k with
  | true => rw [Nat.eq_of_beq_eq_true h]; rfl
  | false => rfl
def full (u : St) : Bool := decide ((tkP (u.2.1 0)).1 = 0)
def C_D_takePlaceUnlessFull : e_C := ⟨Bool × St, 1, fun a => cond a.1 1 0, fun a => full a.2 = a.1, fun _ => [.ref 0], fun a => Hp a.2, fun a => cond a.1 ISE (.inl (some (.int (nI (tkP (a.2.2.1 0)).1)))), fun a => cond a.1 (Hp a.2) (Hp (uA a.2 0 (tkP (a.2.2.1 0)).2))⟩
def S_D_takePlaceUnlessFull : List (Nat × e_C) := [(4, C_K_takePlace)]
theorem s_D_takePlaceUnlessFull : ∀ x ∈ S_D_takePlaceUnlessFull, e_Site b_D_takePlaceUnlessFull "DumpDesk" 6 x.1 x.2 := List.forall_mem_cons.mpr ⟨e_siteV (y := y_K_takePlace) (i := 155) (ci := 1) m_K_takePlace (by decide) (by decide) (fun _ => rfl) rfl (fun a _ => ⟨_, _, _, rfl, by decide, rfl⟩) rfl (e_in2 80 rfl rfl) (e_in2 81 rfl rfl) (e_in1 2 rfl rfl) (e_in2 83 rfl rfl) (e_in2 82 rfl rfl) ⟨by decide, by decide, rfl⟩ (by decide +kernel), fun x hx => (by cases hx)⟩
def Th_D_takePlaceUnlessFull : List (Nat × String) := [(12, "java/lang/IllegalStateException")]
theorem th_D_takePlaceUnlessFull : ∀ x ∈ Th_D_takePlaceUnlessFull, e_Thr b_D_takePlaceUnlessFull x.1 x.2 := List.forall_mem_cons.mpr ⟨⟨90, 92, by decide +kernel, (e_in2 13 rfl rfl), (e_in1 12 rfl rfl), x_own_S, by decide +kernel, by decide +kernel, by decide +kernel, by decide +kernel⟩, fun x hx => (by cases hx)⟩
theorem tkP_lt (w : Nat → Int32) : (tkP w).1 < 253 := by
  have hf : ∀ n a, (∀ k, k < n → a + 4 * k < 253) → fPl w n a < 253 := by
    intro n
    induction n with
    | zero => intro a _; show 0 < 253; omega
    | succ n ih =>
      intro a h
      show (if w a = 0 ∧ fl w (a / 16) = 1 then a else fPl w n (a + 4)) < 253
      split
      · have := h 0 (by omega); omega
      · exact ih _ (fun k hk => by have := h (k + 1) (by omega); omega)
  have hl : ∀ n p, p + n ≤ 15 → fFree w n p < 15 := by
    intro n
    induction n with
    | zero => intro p _; show 0 < 15; omega
    | succ n ih =>
      intro p h
      unfold fFree
      split
      · omega
      · exact ih _ (by omega)
  unfold tkP
  split
  · exact hf 56 16 (fun k hk => by omega)
  · split
    · show 0 < 253; omega
    · have := hl 14 1 (by omega)
      show 16 * lowF w < 253
      unfold lowF
      omega
theorem v_D_takePlaceUnlessFull (k : Bool) (u : St) (hp : full u = k) (J : e_Jt) (hC : e_PX (cond k 1 0) F_D S_D_takePlaceUnlessFull Th_D_takePlaceUnlessFull k_D_takePlaceUnlessFull (cond k ISE (.inl (some (.int (nI (tkP (u.2.1 0)).1))))) (cond k (Hp u) (Hp (uA u 0 (tkP (u.2.1 0)).2))) J) : J 0 0 [(0, .ref 0)] [] (Hp u) := by
  refine e_run hC ?_
  conv => whnf
  refine ⟨u, trivial, rfl, rfl, ?_⟩
  conv => whnf
  dsimp only [C_K_takePlace]
  refine e_run hC ?_
  conv => whnf
  have hz : nI (tkP (u.2.1 0)).1 = 0 ↔ (tkP (u.2.1 0)).1 = 0 := ⟨fun h => by
    have h9 := congrArg na h
    have h8 : na (nI (tkP (u.2.1 0)).1) = (tkP (u.2.1 0)).1 := nI_clamp (by have := tkP_lt (u.2.1 0); omega)
    rw [h8] at h9
    exact h9, fun h => by rw [h]; rfl⟩
  cases k with
  | true =>
    have h0 := of_decide_eq_true hp
    refine ⟨fun h1 => absurd (hz.mpr h0) h1, fun _ => ?_⟩
    refine e_run hC ?_
    conv => whnf
    refine ⟨Nat.le_refl _, rfl, ?_⟩
    rw [tkP_0 _ h0, uA_id]
    rfl
  | false =>
    have h0 := of_decide_eq_false hp
    refine ⟨fun _ => ?_, fun h1 => absurd (hz.mp h1) h0⟩
    refine e_run hC ?_
    conv => whnf
    exact ⟨Nat.le_refl _, rfl, rfl⟩
theorem m_D_takePlaceUnlessFull (l : Launch) (hl : l.stackTraces = false) : e_MetX l y_D_takePlaceUnlessFull 6 C_D_takePlaceUnlessFull :=
  e_metX hl F_D C_D S_D_takePlaceUnlessFull Th_D_takePlaceUnlessFull k_D_takePlaceUnlessFull (by decide +kernel) rfl (by decide) f_D c_D s_D_takePlaceUnlessFull th_D_takePlaceUnlessFull o_D_takePlaceUnlessFull (x_code (e_in2 79 rfl rfl)) (fun a _ => ⟨Nat.le_of_ble_eq_true rfl, rfl⟩) (fun a hp => ⟨(by intro v hv; rcases a with ⟨k, a⟩; rcases k with _ | _ | _ | _ | k <;> first | (cases hv; exact Or.inr ⟨.int, _, rfl, rfl, rfl⟩) | (cases hv)), v_D_takePlaceUnlessFull a.1 a.2 hp⟩)
def dTN (u : St) (p : Int32) : Nat × Int32 × St := cond (rnc u) (cond (full u) (1, 0, u) (0, u.1 2, uS (uA u 0 (insN (tkP (u.2.1 0)).2 (fslot (tkP (u.2.1 0)).2 56 0) (tkP (u.2.1 0)).1 7001 p (u.1 2))) 2 (u.1 2 + 1))) (1, 0, u)
def c01 (k : Nat) : Nat := match k with
  | 0 => 0
  | _ => 1
def rX1 (E1 : String) (v : Option Value) (k : Nat) : e_R := match k with
  | 0 => .inl v
  | _ => .inr E1
def rX2 (E1 E2 : String) (v : Option Value) (k : Nat) : e_R := match k with
  | 0 => .inl v
  | 1 => .inr E1
  | _ => .inr E2
def rX3 (E1 E2 E3 : String) (v : Option Value) (k : Nat) : e_R := match k with
  | 0 => .inl v
  | 1 => .inr E1
  | 2 => .inr E2
  | _ => .inr E3
abbrev sS : String := "java/lang/IllegalStateException"
abbrev sN : String := "java/util/NoSuchElementException"
abbrev sA : String := "java/lang/IllegalArgumentException"
theorem rX1_ok {E1 : String} {v w : Option Value} {k : Nat} (h : rX1 E1 v k = .inl w) : w = v := by
  rcases k with _ | k
  · cases h; rfl
  · cases h
theorem rX2_ok {E1 E2 : String} {v w : Option Value} {k : Nat} (h : rX2 E1 E2 v k = .inl w) : w = v := by
  rcases k with _ | _ | k
  · cases h; rfl
  · cases h
  · cases h
theorem rX3_ok {E1 E2 E3 : String} {v w : Option Value} {k : Nat} (h : rX3 E1 E2 E3 v k = .inl w) : w = v := by
  rcases k with _ | _ | _ | k
  · cases h; rfl
  · cases h
  · cases h
  · cases h
def C_D_taskNew : e_C := ⟨Nat × St × Int32, 2, fun a => c01 a.1, fun a => (dTN a.2.1 a.2.2).1 = a.1, fun a => [.ref 0, .int a.2.2], fun a => Hp a.2.1, fun a => rX1 sS (some (.int (dTN a.2.1 a.2.2).2.1)) a.1, fun a => Hp (dTN a.2.1 a.2.2).2.2⟩
def S_D_taskNew : List (Nat × e_C) := [(1, C_D_refuseUnlessRunning), (9, C_D_takePlaceUnlessFull), (13, C_K_addTask)]
theorem s_D_taskNew : ∀ x ∈ S_D_taskNew, e_Site b_D_taskNew "DumpDesk" 7 x.1 x.2 := List.forall_mem_cons.mpr ⟨e_siteVX (y := y_D_refuseUnlessRunning) (i := 48) (ci := 0) m_D_refuseUnlessRunning (by decide) (by decide) rfl (fun a _ => ⟨_, _, _, rfl, by decide, rfl⟩) rfl (e_in2 9 rfl rfl) (e_in2 11 rfl rfl) (e_in1 1 rfl rfl) (x_code (e_in2 12 rfl rfl)) (e_inP 0 rfl rfl) ⟨by decide, by decide, rfl⟩ (by decide +kernel), List.forall_mem_cons.mpr ⟨e_siteVX (y := y_D_takePlaceUnlessFull) (i := 51) (ci := 0) m_D_takePlaceUnlessFull (by decide) (by decide) rfl (fun a _ => ⟨_, _, _, rfl, by decide, rfl⟩) rfl (e_in2 76 rfl rfl) (e_in2 78 rfl rfl) (e_in1 1 rfl rfl) (x_code (e_in2 79 rfl rfl)) (e_inP 2 rfl rfl) ⟨by decide, by decide, rfl⟩ (by decide +kernel), List.forall_mem_cons.mpr ⟨e_siteV (y := y_K_addTask) (i := 55) (ci := 1) m_K_addTask (by decide) (by decide) (fun _ => rfl) rfl (fun a _ => ⟨_, _, _, rfl, by decide, rfl⟩) rfl (e_in2 93 rfl rfl) (e_in2 94 rfl rfl) (e_in1 2 rfl rfl) (e_in2 96 rfl rfl) (e_in2 95 rfl rfl) ⟨by decide, by decide, rfl⟩ (by decide +kernel), fun x hx => (by cases hx)⟩⟩⟩
def Th_D_taskNew : List (Nat × String) := []
theorem th_D_taskNew : ∀ x ∈ Th_D_taskNew, e_Thr b_D_taskNew x.1 x.2 := fun x hx => (by cases hx)
theorem v_D_taskNew (k : Nat) (u : St) (p : Int32) (hp : (dTN u p).1 = k) (J : e_Jt) (hC : e_PX (c01 k) F_D S_D_taskNew Th_D_taskNew k_D_taskNew (rX1 sS (some (.int (dTN u p).2.1)) k) (Hp (dTN u p).2.2) J) : J 0 0 [(0, .ref 0), (1, .int p)] [] (Hp u) := by
  unfold dTN at hp hC
  cases h1 : rnc u with
  | false =>
    rw [h1] at hp hC
    dsimp only [cond_false] at hp hC
    subst hp
    refine e_run hC ?_
    conv => whnf
    refine ⟨(false, u), h1, rfl, rfl, ?_⟩
    conv => whnf
    exact ⟨Nat.le_refl _, rfl, rfl⟩
  | true =>
    rw [h1] at hp hC
    dsimp only [cond_true] at hp hC
    cases h2 : full u with
    | true =>
      rw [h2] at hp hC
      dsimp only [cond_true] at hp hC
      subst hp
      refine e_run hC ?_
      conv => whnf
      refine ⟨(true, u), h1, rfl, rfl, ?_⟩
      conv => whnf
      refine e_run hC ?_
      conv => whnf
      refine ⟨(true, u), h2, rfl, rfl, ?_⟩
      conv => whnf
      exact ⟨Nat.le_refl _, rfl, rfl⟩
    | false =>
      rw [h2] at hp hC
      dsimp only [cond_false] at hp hC
      subst hp
      refine e_run hC ?_
      conv => whnf
      refine ⟨(true, u), h1, rfl, rfl, ?_⟩
      conv => whnf
      refine e_run hC ?_
      conv => whnf
      refine ⟨(false, u), h2, rfl, rfl, ?_⟩
      conv => whnf
      refine e_run hC ?_
      conv => whnf
      refine ⟨(uA u 0 (tkP (u.2.1 0)).2, (tkP (u.2.1 0)).1, p), tkP_lt _, rfl, rfl, ?_⟩
      conv => whnf
      dsimp only [C_K_addTask]
      refine e_run hC ?_
      conv => whnf
      refine ⟨Nat.le_refl _, rfl, ?_⟩
      rw [uA_uA]
      rfl
theorem m_D_taskNew (l : Launch) (hl : l.stackTraces = false) : e_MetX l y_D_taskNew 7 C_D_taskNew :=
  e_metX hl F_D C_D S_D_taskNew Th_D_taskNew k_D_taskNew (by decide +kernel) rfl (by decide) f_D c_D s_D_taskNew th_D_taskNew o_D_taskNew (x_code (e_in2 8 rfl rfl)) (fun a _ => ⟨Nat.le_of_ble_eq_true rfl, rfl⟩) (fun a hp => ⟨(fun v hv => by rw [rX1_ok hv]; exact Or.inr ⟨.int, _, rfl, rfl, rfl⟩), v_D_taskNew a.1 a.2.1 a.2.2 hp⟩)
