theorem m16 (x : Nat) : nI x * 16 = nI (16 * x) := by rw [show (16 : Int32) = nI 16 from rfl, pk_mul, Nat.mul_comm]
theorem m16s (x : Nat) : (nI x + 1) * 16 = nI (16 * x + 16) := by rw [nI_1, m16, Nat.mul_add, Nat.mul_one]
/-! the kernel: flags are set, free pages and places are found, nodes come and go -/
def stF (w : Nat → Int32) (p : Nat) (f : Int32) : Nat → Int32 := upd w (8 + p / 2) ((w (8 + p / 2) &&& (((255 : Int32) <<< (nI (p % 2 * 8) &&& 31)) ^^^ (-1))) ||| (f <<< (nI (p % 2 * 8) &&& 31)))
def C_K_setFlag : e_C := ⟨St × Nat × Int32, 3, fun _ => 0, fun a => a.2.1 < 16, fun a => [.ref 1, .int (nI a.2.1), .int a.2.2], fun a => Hp a.1, fun _ => .inl none, fun a => Hp (uA a.1 0 (stF (a.1.2.1 0) a.2.1 a.2.2))⟩
def S_K_setFlag : List (Nat × e_C) := [(15, C_K_flagShift), (36, C_K_flagShift)]
theorem s_K_setFlag : ∀ x ∈ S_K_setFlag, e_Site b_K_setFlag "DumpDesk$Kernel" 1 x.1 x.2 := List.forall_mem_cons.mpr ⟨e_siteS (y := y_K_flagShift) (i := 30) m_K_flagShift (by decide) (by decide) (fun _ => rfl) (e_in1 37 rfl rfl) (e_in1 38 rfl rfl) (e_in1 2 rfl rfl) (e_in1 39 rfl rfl) ⟨by decide, by decide, rfl⟩ (by decide +kernel), List.forall_mem_cons.mpr ⟨e_siteS (y := y_K_flagShift) (i := 30) m_K_flagShift (by decide) (by decide) (fun _ => rfl) (e_in1 37 rfl rfl) (e_in1 38 rfl rfl) (e_in1 2 rfl rfl) (e_in1 39 rfl rfl) ⟨by decide, by decide, rfl⟩ (by decide +kernel), fun x hx => (by cases hx)⟩⟩
theorem v_K_setFlag (u : St) (p : Nat) (f : Int32) (hp : p < 16) (J : e_Jt) (hC : e_P0 F_K S_K_setFlag k_K_setFlag none (Hp (uA u 0 (stF (u.2.1 0) p f))) J) : J 0 0 [(0, .ref 1), (1, .int (nI p)), (2, .int f)] [] (Hp u) := by
  refine e_run hC ?_
  conv => whnf
  refine ⟨by decide, ?_⟩
  refine e_run hC ?_
  conv => whnf
  rw [ix8 hp]
  refine ⟨vp_in_nI (by omega) (by decide), ?_⟩
  rw [nI_clamp (by omega)]
  refine e_run hC ?_
  conv => whnf
  refine ⟨(Hp u, p), hp, rfl, rfl, ?_⟩
  conv => whnf
  dsimp only [C_K_flagShift]
  refine e_run hC ?_
  conv => whnf
  refine ⟨by decide, ?_⟩
  refine e_run hC ?_
  conv => whnf
  refine ⟨(Hp u, p), hp, rfl, rfl, ?_⟩
  conv => whnf
  dsimp only [C_K_flagShift]
  refine e_run hC ?_
  conv => whnf
  rw [ix8 hp]
  refine ⟨vp_in_nI (by omega) (by decide), ?_⟩
  rw [nI_clamp (by omega), h_a0]
  refine e_run hC ?_
  conv => whnf
  exact ⟨rfl, rfl⟩
theorem m_K_setFlag (l : Launch) (hl : l.stackTraces = false) : e_Met l y_K_setFlag b_K_setFlag 4 none 1 C_K_setFlag :=
  e_met hl F_K C_K S_K_setFlag k_K_setFlag (by decide +kernel) f_K c_K s_K_setFlag o_K_setFlag (fun a _ => ⟨Nat.le_of_ble_eq_true rfl, rfl⟩) (fun a hp => ⟨_, rfl, Or.inl ⟨rfl, rfl⟩, v_K_setFlag a.1 a.2.1 a.2.2 hp⟩)
/-- the lowest free page from p on, n of them; 0: none -/
def fFree (w : Nat → Int32) : Nat → Nat → Nat
  | 0, _ => 0
  | n + 1, p => if fl w p = 0 then p else fFree w n (p + 1)
def lowF (w : Nat → Int32) : Nat := fFree w 14 1
def C_K_lowestFreePage : e_C := ⟨St, 1, fun _ => 0, fun _ => True, fun _ => [.ref 1], fun a => Hp a, fun a => .inl (some (.int (nI (lowF (a.2.1 0))))), fun a => Hp a⟩
def S_K_lowestFreePage : List (Nat × e_C) := [(10, C_K_flagOf)]
theorem s_K_lowestFreePage : ∀ x ∈ S_K_lowestFreePage, e_Site b_K_lowestFreePage "DumpDesk$Kernel" 2 x.1 x.2 := List.forall_mem_cons.mpr ⟨e_siteV (y := y_K_flagOf) (i := 34) (ci := 1) m_K_flagOf (by decide) (by decide) (fun _ => rfl) rfl (fun a _ => ⟨_, _, _, rfl, by decide, rfl⟩) rfl (e_in2 84 rfl rfl) (e_in2 85 rfl rfl) (e_in1 2 rfl rfl) (e_in2 87 rfl rfl) (e_in2 86 rfl rfl) ⟨by decide, by decide, rfl⟩ (by decide +kernel), fun x hx => (by cases hx)⟩
theorem v_K_lowestFreePage (u : St) (J : e_Jt) (hC : e_P0 F_K S_K_lowestFreePage k_K_lowestFreePage (some (.int (nI (lowF (u.2.1 0))))) (Hp u) J) : J 0 0 [(0, .ref 1)] [] (Hp u) := by
  have loop : ∀ n p, p + n = 15 → fFree (u.2.1 0) n p = lowF (u.2.1 0) → J 0 2 [(0, .ref 1), (1, .int (nI p))] [] (Hp u) := by
    intro n
    induction n with
    | zero =>
      intro p h1 h2
      refine e_run hC ?_
      conv => whnf
      refine ⟨fun _ => ?_, fun h5 => absurd (nI_le (a := 15) (by omega) (by omega)) h5⟩
      refine e_run hC ?_
      conv => whnf
      exact ⟨by rw [← h2]; rfl, rfl⟩
    | succ n ih =>
      intro p h1 h2
      refine e_run hC ?_
      conv => whnf
      refine ⟨fun h5 => absurd h5 (nI_ge (b := 15) (by omega) (by decide)), fun _ => ?_⟩
      refine e_run hC ?_
      conv => whnf
      refine ⟨(u, p), (by omega : p < 16), rfl, rfl, ?_⟩
      conv => whnf
      refine e_run hC ?_
      conv => whnf
      refine ⟨fun h6 => ?_, fun h6 => ?_⟩
      · refine e_run hC ?_
        conv => whnf
        rw [nI_1]
        refine ih (p + 1) (by omega) ?_
        rw [← h2]
        show _ = if fl (u.2.1 0) p = 0 then p else fFree (u.2.1 0) n (p + 1)
        rw [if_neg h6]
      · refine e_run hC ?_
        conv => whnf
        refine ⟨?_, rfl⟩
        rw [← h2]
        show _ = Sum.inl (some (Value.int (nI (if fl (u.2.1 0) p = 0 then p else fFree (u.2.1 0) n (p + 1)))))
        rw [if_pos h6]
  refine e_runTo 2 hC ?_
  conv => whnf
  exact loop 14 1 rfl rfl
theorem m_K_lowestFreePage (l : Launch) (hl : l.stackTraces = false) : e_Met l y_K_lowestFreePage b_K_lowestFreePage 2 (some .int) 2 C_K_lowestFreePage :=
  e_met hl F_K C_K S_K_lowestFreePage k_K_lowestFreePage (by decide +kernel) f_K c_K s_K_lowestFreePage o_K_lowestFreePage (fun a _ => ⟨Nat.le_of_ble_eq_true rfl, rfl⟩) (fun a hp => ⟨_, rfl, Or.inr ⟨.int, _, rfl, rfl, rfl⟩, v_K_lowestFreePage a⟩)
theorem fFree_lt (w : Nat → Int32) : ∀ n p, fFree w n p < p + n ∨ fFree w n p = 0 := by
  intro n
  induction n with
  | zero => intro p; exact Or.inr rfl
  | succ n ih =>
    intro p
    show (if fl w p = 0 then p else fFree w n (p + 1)) < _ ∨ (if fl w p = 0 then p else fFree w n (p + 1)) = 0
    split
    · exact Or.inl (by omega)
    · rcases ih (p + 1) with h | h
      · exact Or.inl (by omega)
      · exact Or.inr h
theorem lowF_lt (w : Nat → Int32) : lowF w < 15 := by
  rcases fFree_lt w 14 1 with h | h
  · exact h
  · unfold lowF; omega
/-- the lowest place that is free in a used page, from a on, n of them; 0: none -/
def fPl (w : Nat → Int32) : Nat → Nat → Nat
  | 0, _ => 0
  | n + 1, a => if w a = 0 ∧ fl w (a / 16) = 1 then a else fPl w n (a + 4)
/-- a place is taken: where, and the memory behind it (0: full) -/
def tkP (w : Nat → Int32) : Nat × (Nat → Int32) :=
  if fPl w 56 16 ≠ 0 then (fPl w 56 16, w) else if lowF w = 0 then (0, w) else (16 * lowF w, ffl (stF w (lowF w) 1) (16 * lowF w) (16 * lowF w + 16) 0)
def C_K_takePlace : e_C := ⟨St, 1, fun _ => 0, fun _ => True, fun _ => [.ref 1], fun a => Hp a, fun a => .inl (some (.int (nI (tkP (a.2.1 0)).1))), fun a => Hp (uA a 0 (tkP (a.2.1 0)).2)⟩
def S_K_takePlace : List (Nat × e_C) := [(24, C_K_flagOf), (40, C_K_lowestFreePage), (53, C_K_setFlag), (71, C_A_fill4_2)]
theorem s_K_takePlace : ∀ x ∈ S_K_takePlace, e_Site b_K_takePlace "DumpDesk$Kernel" 3 x.1 x.2 := List.forall_mem_cons.mpr ⟨e_siteV (y := y_K_flagOf) (i := 34) (ci := 1) m_K_flagOf (by decide) (by decide) (fun _ => rfl) rfl (fun a _ => ⟨_, _, _, rfl, by decide, rfl⟩) rfl (e_in2 84 rfl rfl) (e_in2 85 rfl rfl) (e_in1 2 rfl rfl) (e_in2 87 rfl rfl) (e_in2 86 rfl rfl) ⟨by decide, by decide, rfl⟩ (by decide +kernel), List.forall_mem_cons.mpr ⟨e_siteV (y := y_K_lowestFreePage) (i := 37) (ci := 1) m_K_lowestFreePage (by decide) (by decide) (fun _ => rfl) rfl (fun a _ => ⟨_, _, _, rfl, by decide, rfl⟩) rfl (e_in2 88 rfl rfl) (e_in2 89 rfl rfl) (e_in1 2 rfl rfl) (e_in2 91 rfl rfl) (e_in2 90 rfl rfl) ⟨by decide, by decide, rfl⟩ (by decide +kernel), List.forall_mem_cons.mpr ⟨e_siteV (y := y_K_setFlag) (i := 26) (ci := 1) m_K_setFlag (by decide) (by decide) (fun _ => rfl) rfl (fun a _ => ⟨_, _, _, rfl, by decide, rfl⟩) rfl (e_in1 33 rfl rfl) (e_in1 34 rfl rfl) (e_in1 2 rfl rfl) (e_in1 36 rfl rfl) (e_in1 35 rfl rfl) ⟨by decide, by decide, rfl⟩ (by decide +kernel), List.forall_mem_cons.mpr ⟨e_siteS (y := y_A_fill4) (i := 41) m_A_fill4_2 (by decide) (by decide) (fun _ => rfl) (e_in2 92 rfl rfl) (e_in1 231 rfl rfl) (e_in1 4 rfl rfl) (e_in1 232 rfl rfl) ⟨by decide, by decide, rfl⟩ (by decide +kernel), fun x hx => (by cases hx)⟩⟩⟩⟩
theorem v_K_takePlace (u : St) (J : e_Jt) (hC : e_P0 F_K S_K_takePlace k_K_takePlace (some (.int (nI (tkP (u.2.1 0)).1))) (Hp (uA u 0 (tkP (u.2.1 0)).2)) J) : J 0 0 [(0, .ref 1)] [] (Hp u) := by
  have tail : fPl (u.2.1 0) 56 16 = 0 → J 0 39 [(0, .ref 1)] [] (Hp u) := by
    intro h0
    refine e_run hC ?_
    conv => whnf
    refine ⟨u, trivial, rfl, rfl, ?_⟩
    conv => whnf
    refine e_run hC ?_
    conv => whnf
    refine ⟨fun h1 => ?_, fun h1 => ?_⟩
    · have h2 : lowF (u.2.1 0) ≠ 0 := fun z => h1 (by rw [z]; rfl)
      have h3 := lowF_lt (u.2.1 0)
      refine e_run hC ?_
      conv => whnf
      refine ⟨(u, lowF (u.2.1 0), 1), (by omega : lowF (u.2.1 0) < 16), rfl, rfl, ?_⟩
      conv => whnf
      refine e_run hC ?_
      conv => whnf
      refine ⟨(uA u 0 (stF (u.2.1 0) (lowF (u.2.1 0)) 1), 16 * lowF (u.2.1 0), 16 * lowF (u.2.1 0) + 16, 0), ⟨by show 16 * lowF (u.2.1 0) ≤ 16 * lowF (u.2.1 0) + 16; omega, by show 16 * lowF (u.2.1 0) + 16 ≤ 256; omega⟩, ?_, rfl, ?_⟩
      · show [Value.ref 2, .int (nI (16 * lowF (u.2.1 0))), .int (nI (16 * lowF (u.2.1 0) + 16)), .int 0] = [Value.ref 2, .int (nI (lowF (u.2.1 0)) * 16), .int ((nI (lowF (u.2.1 0)) + 1) * 16), .int 0]
        rw [m16, m16s]
      conv => whnf
      refine e_run hC ?_
      conv => whnf
      refine ⟨?_, ?_⟩
      · unfold tkP
        rw [if_neg (by omega), if_neg h2, m16]
      · dsimp only [C_A_fill4_2]
        rw [uA_uA]
        unfold tkP
        rw [if_neg (by omega), if_neg h2]
        rfl
    · have h2 : lowF (u.2.1 0) = 0 := (nI_eq (b := 0) (by have := lowF_lt (u.2.1 0); omega) (by decide)).mp h1
      refine e_run hC ?_
      conv => whnf
      unfold tkP
      rw [if_neg (by omega), if_pos h2, uA_self]
      exact ⟨rfl, rfl⟩
  have loop : ∀ n a, a + 4 * n = 240 → fPl (u.2.1 0) n a = fPl (u.2.1 0) 56 16 → 16 ≤ a → J 0 3 [(0, .ref 1), (1, .int (nI a))] [] (Hp u) := by
    intro n
    induction n with
    | zero =>
      intro a h1 h2 h3
      refine e_run hC ?_
      conv => whnf
      refine ⟨fun _ => e_weak hC [0] rfl rfl (tail h2.symm), fun h5 => absurd (nI_lt (a := 236) (by omega) (by omega)) h5⟩
    | succ n ih =>
      intro a h1 h2 h3
      have next : ¬ ((u.2.1 0) a = 0 ∧ fl (u.2.1 0) (a / 16) = 1) → J 0 33 [(0, .ref 1), (1, .int (nI a))] [] (Hp u) := by
        intro h6
        refine e_run hC ?_
        conv => whnf
        rw [show (4 : Int32) = nI 4 from rfl, nI_add]
        refine ih (a + 4) (by omega) ?_ (by omega)
        rw [← h2]
        show _ = if (u.2.1 0) a = 0 ∧ fl (u.2.1 0) (a / 16) = 1 then a else fPl (u.2.1 0) n (a + 4)
        rw [if_neg h6]
      refine e_run hC ?_
      conv => whnf
      refine ⟨fun h5 => absurd h5 (nI_nlt (a := 236) (by omega) (by decide)), fun _ => ?_⟩
      refine e_run hC ?_
      conv => whnf
      refine ⟨vp_in_nI (by omega) (by decide), ?_⟩
      rw [nI_clamp (by omega)]
      refine e_run hC ?_
      conv => whnf
      refine ⟨fun h6 => next (fun z => h6 z.1), fun h6 => ?_⟩
      refine e_run hC ?_
      conv => whnf
      refine ⟨by decide, ?_⟩
      refine e_run hC ?_
      conv => whnf
      refine ⟨(u, a / 16), (by omega : a / 16 < 16), ?_, rfl, ?_⟩
      · show [Value.ref 1, .int (nI (a / 16))] = [Value.ref 1, .int (nI a / 16)]
        rw [show (16 : Int32) = nI 16 from rfl, pk_div (by omega) (by decide) (by decide)]
      conv => whnf
      refine e_run hC ?_
      conv => whnf
      refine ⟨fun h7 => next (fun z => h7 z.2), fun h7 => ?_⟩
      refine e_run hC ?_
      conv => whnf
      have h8 : fPl (u.2.1 0) 56 16 = a := by
        rw [← h2]
        show (if (u.2.1 0) a = 0 ∧ fl (u.2.1 0) (a / 16) = 1 then a else fPl (u.2.1 0) n (a + 4)) = a
        rw [if_pos ⟨h6, h7⟩]
      unfold tkP
      rw [if_pos (by omega), h8, uA_self]
      exact ⟨rfl, rfl⟩
  refine e_runTo 3 hC ?_
  conv => whnf
  exact loop 56 16 rfl rfl (by decide)
theorem m_K_takePlace (l : Launch) (hl : l.stackTraces = false) : e_Met l y_K_takePlace b_K_takePlace 2 (some .int) 3 C_K_takePlace :=
  e_met hl F_K C_K S_K_takePlace k_K_takePlace (by decide +kernel) f_K c_K s_K_takePlace o_K_takePlace (fun a _ => ⟨Nat.le_of_ble_eq_true rfl, rfl⟩) (fun a hp => ⟨_, rfl, Or.inr ⟨.int, _, rfl, rfl, rfl⟩, v_K_takePlace a⟩)
