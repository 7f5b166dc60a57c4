/-! the reference: flags, places -/
def inn (x lo hi : Int32) : Bool := decide (lo ≤ x) && decide (x ≤ hi)
def C_M_in : e_C := ⟨e_H × Int32 × Int32 × Int32, 3, fun _ => 0, fun _ => True, fun a => [.int a.2.1, .int a.2.2.1, .int a.2.2.2], fun a => a.1, fun a => .inl (some (.int (bi (inn a.2.1 a.2.2.1 a.2.2.2)))), fun a => a.1⟩
def S_M_in : List (Nat × e_C) := []
theorem s_M_in : ∀ x ∈ S_M_in, e_Site b_M_in "DumpDeskModel" 0 x.1 x.2 := fun x hx => (by cases hx)
theorem v_M_in (h : e_H) (x lo hi : Int32) (J : e_Jt) (B : Bool) (hB : inn x lo hi = B) (hC : e_P0 F_M S_M_in k_M_in (some (.int (bi B))) h J) : J 0 0 [(0, .int x), (1, .int lo), (2, .int hi)] [] h := by
  unfold inn at hB
  have no : B = false → J 0 14 [(0, .int x), (1, .int lo), (2, .int hi)] [] h := by
    intro h1
    refine e_run hC ?_
    conv => whnf
    exact ⟨by rw [h1]; rfl, rfl⟩
  refine e_run hC ?_
  conv => whnf
  refine ⟨fun h1 => no (by rw [← hB, decide_eq_false (Int32.not_le.mpr h1), Bool.false_and]), fun h1 => ?_⟩
  rw [decide_eq_true (Int32.not_lt.mp h1), Bool.true_and] at hB
  refine e_run hC ?_
  conv => whnf
  refine ⟨fun h2 => no (by rw [← hB, decide_eq_false (Int32.not_le.mpr h2)]), fun h2 => ?_⟩
  rw [decide_eq_true (Int32.not_lt.mp h2)] at hB
  refine e_run hC ?_
  conv => whnf
  refine e_run hC ?_
  conv => whnf
  exact ⟨by rw [← hB]; rfl, rfl⟩
theorem m_M_in (l : Launch) (hl : l.stackTraces = false) : e_Met l y_M_in b_M_in 3 (some .boolean) 0 C_M_in :=
  e_met hl F_M C_M S_M_in k_M_in (by decide +kernel) f_M c_M s_M_in o_M_in (fun a _ => ⟨Nat.le_of_ble_eq_true rfl, rfl⟩) (fun a hp => ⟨_, rfl, Or.inr ⟨.boolean, _, rfl, rfl, bi_ok _⟩, fun J hC => v_M_in a.1 a.2.1 a.2.2.1 a.2.2.2 J _ rfl hC⟩)
def C_M_fail : e_C := ⟨St × Int32, 2, fun _ => 0, fun _ => True, fun a => [.ref 15, .int a.2], fun a => Hp a.1, fun _ => .inl (some (.int 0)), fun a => Hp (uS a.1 20 a.2)⟩
def S_M_fail : List (Nat × e_C) := []
theorem s_M_fail : ∀ x ∈ S_M_fail, e_Site b_M_fail "DumpDeskModel" 0 x.1 x.2 := fun x hx => (by cases hx)
theorem v_M_fail (u : St) (x : Int32) (J : e_Jt) (hC : e_P0 F_M S_M_fail k_M_fail (some (.int 0)) (Hp (uS u 20 x)) J) : J 0 0 [(0, .ref 15), (1, .int x)] [] (Hp u) := by
  refine e_run hC ?_
  conv => whnf
  rw [h_s20]
  refine e_run hC ?_
  conv => whnf
  exact ⟨rfl, rfl⟩
theorem m_M_fail (l : Launch) (hl : l.stackTraces = false) : e_Met l y_M_fail b_M_fail 2 (some .int) 0 C_M_fail :=
  e_met hl F_M C_M S_M_fail k_M_fail (by decide +kernel) f_M c_M s_M_fail o_M_fail (fun a _ => ⟨Nat.le_of_ble_eq_true rfl, rfl⟩) (fun a hp => ⟨_, rfl, Or.inr ⟨.int, _, rfl, rfl, rfl⟩, v_M_fail a.1 a.2⟩)
def C_M_thrown : e_C := ⟨St, 1, fun _ => 0, fun _ => True, fun _ => [.ref 15], fun a => Hp a, fun a => .inl (some (.int (a.1 20))), fun a => Hp a⟩
def S_M_thrown : List (Nat × e_C) := []
theorem s_M_thrown : ∀ x ∈ S_M_thrown, e_Site b_M_thrown "DumpDeskModel" 0 x.1 x.2 := fun x hx => (by cases hx)
theorem v_M_thrown (u : St) (J : e_Jt) (hC : e_P0 F_M S_M_thrown k_M_thrown (some (.int (u.1 20))) (Hp u) J) : J 0 0 [(0, .ref 15)] [] (Hp u) := by
  refine e_run hC ?_
  conv => whnf
  exact ⟨rfl, rfl⟩
theorem m_M_thrown (l : Launch) (hl : l.stackTraces = false) : e_Met l y_M_thrown b_M_thrown 1 (some .int) 0 C_M_thrown :=
  e_met hl F_M C_M S_M_thrown k_M_thrown (by decide +kernel) f_M c_M s_M_thrown o_M_thrown (fun a _ => ⟨Nat.le_of_ble_eq_true rfl, rfl⟩) (fun a hp => ⟨_, rfl, Or.inr ⟨.int, _, rfl, rfl, rfl⟩, v_M_thrown a⟩)
def rns (u : St) : Bool := decide (u.1 23 = 0) && decide (u.1 22 = 0)
def C_M_runs : e_C := ⟨St, 1, fun _ => 0, fun _ => True, fun _ => [.ref 15], fun a => Hp a, fun a => .inl (some (.int (bi (rns a)))), fun a => Hp a⟩
def S_M_runs : List (Nat × e_C) := []
theorem s_M_runs : ∀ x ∈ S_M_runs, e_Site b_M_runs "DumpDeskModel" 0 x.1 x.2 := fun x hx => (by cases hx)
theorem v_M_runs (u : St) (J : e_Jt) (B : Bool) (hB : rns u = B) (hC : e_P0 F_M S_M_runs k_M_runs (some (.int (bi B))) (Hp u) J) : J 0 0 [(0, .ref 15)] [] (Hp u) := by
  unfold rns at hB
  have no : B = false → J 0 18 [(0, .ref 15)] [] (Hp u) := by
    intro h1
    refine e_run hC ?_
    conv => whnf
    exact ⟨by rw [h1]; rfl, rfl⟩
  refine e_run hC ?_
  conv => whnf
  refine ⟨fun h1 => no (by rw [← hB, decide_eq_false h1, Bool.false_and]), fun h1 => ?_⟩
  rw [decide_eq_true h1, Bool.true_and] at hB
  refine e_run hC ?_
  conv => whnf
  refine ⟨fun h2 => no (by rw [← hB, decide_eq_false h2]), fun h2 => ?_⟩
  rw [decide_eq_true h2] at hB
  refine e_run hC ?_
  conv => whnf
  refine e_run hC ?_
  conv => whnf
  exact ⟨by rw [← hB]; rfl, rfl⟩
theorem m_M_runs (l : Launch) (hl : l.stackTraces = false) : e_Met l y_M_runs b_M_runs 1 (some .boolean) 0 C_M_runs :=
  e_met hl F_M C_M S_M_runs k_M_runs (by decide +kernel) f_M c_M s_M_runs o_M_runs (fun a _ => ⟨Nat.le_of_ble_eq_true rfl, rfl⟩) (fun a hp => ⟨_, rfl, Or.inr ⟨.boolean, _, rfl, rfl, bi_ok _⟩, fun J hC => v_M_runs a J _ rfl hC⟩)
theorem r2 {p : Nat} (hp : p < 2 ^ 31) : nI p - nI p / 2 * 2 = nI (p % 2) := by rw [show (2 : Int32) = nI 2 from rfl, pk_rem hp (by decide) (by decide)]
def C_M_flagOf : e_C := ⟨St × Nat, 2, fun _ => 0, fun a => a.2 < 16, fun a => [.ref 15, .int (nI a.2)], fun a => Hp a.1, fun a => .inl (some (.int (fl (a.1.2.1 20) a.2))), fun a => Hp a.1⟩
def S_M_flagOf : List (Nat × e_C) := []
theorem s_M_flagOf : ∀ x ∈ S_M_flagOf, e_Site b_M_flagOf "DumpDeskModel" 0 x.1 x.2 := fun x hx => (by cases hx)
theorem v_M_flagOf (u : St) (p : Nat) (hp : p < 16) (J : e_Jt) (hC : e_P0 F_M S_M_flagOf k_M_flagOf (some (.int (fl (u.2.1 20) p))) (Hp u) J) : J 0 0 [(0, .ref 15), (1, .int (nI p))] [] (Hp u) := by
  refine e_run hC ?_
  conv => whnf
  refine ⟨by decide, ?_⟩
  refine e_run hC ?_
  conv => whnf
  rw [ix8 hp]
  refine ⟨vp_in_nI (by omega) (by decide), ?_⟩
  rw [nI_clamp (by omega)]
  refine e_run hC ?_
  conv => whnf
  refine ⟨by decide, ?_⟩
  rw [r2 (by omega)]
  refine e_run hC ?_
  conv => whnf
  refine ⟨fun h1 => ?_, fun h1 => ?_⟩
  · have h1 : p % 2 = 1 := by
      have : p % 2 ≠ 0 := fun z => h1 (by rw [z]; rfl)
      omega
    refine e_run hC ?_
    conv => whnf
    refine ⟨?_, rfl⟩
    unfold fl
    rw [h1]
    rfl
  · have h1 : p % 2 = 0 := (nI_eq (b := 0) (by omega) (by decide)).mp h1
    refine e_run hC ?_
    conv => whnf
    refine e_run hC ?_
    conv => whnf
    refine ⟨?_, rfl⟩
    unfold fl
    rw [h1]
    rfl
theorem m_M_flagOf (l : Launch) (hl : l.stackTraces = false) : e_Met l y_M_flagOf b_M_flagOf 2 (some .int) 0 C_M_flagOf :=
  e_met hl F_M C_M S_M_flagOf k_M_flagOf (by decide +kernel) f_M c_M s_M_flagOf o_M_flagOf (fun a _ => ⟨Nat.le_of_ble_eq_true rfl, rfl⟩) (fun a hp => ⟨_, rfl, Or.inr ⟨.int, _, rfl, rfl, rfl⟩, v_M_flagOf a.1 a.2 hp⟩)
def mfl (w : Nat → Int32) (p : Nat) (f : Int32) : Nat → Int32 := upd w (8 + p / 2) (if p % 2 = 0 then f + 256 * fl w (p + 1) else fl w (p - 1) + 256 * f)
def C_M_flag : e_C := ⟨St × Nat × Int32, 3, fun _ => 0, fun a => a.2.1 < 16, fun a => [.ref 15, .int (nI a.2.1), .int a.2.2], fun a => Hp a.1, fun _ => .inl none, fun a => Hp (uA a.1 20 (mfl (a.1.2.1 20) a.2.1 a.2.2))⟩
def S_M_flag : List (Nat × e_C) := [(23, C_M_flagOf)]
theorem s_M_flag : ∀ x ∈ S_M_flag, e_Site b_M_flag "DumpDeskModel" 1 x.1 x.2 := List.forall_mem_cons.mpr ⟨e_siteV (y := y_M_flagOf) (i := 52) (ci := 6) m_M_flagOf (by decide) (by decide) (fun _ => rfl) rfl (fun a _ => ⟨_, _, _, rfl, by decide, rfl⟩) rfl (e_in3 125 rfl rfl) (e_in3 127 rfl rfl) (e_in1 8 rfl rfl) (e_in3 128 rfl rfl) (e_inP 4 rfl rfl) ⟨by decide, by decide, rfl⟩ (by decide +kernel), fun x hx => (by cases hx)⟩
theorem v_M_flag (u : St) (p : Nat) (f : Int32) (hp : p < 16) (J : e_Jt) (hC : e_P0 F_M S_M_flag k_M_flag none (Hp (uA u 20 (mfl (u.2.1 20) p f))) J) : J 0 0 [(0, .ref 15), (1, .int (nI p)), (2, .int f)] [] (Hp u) := by
  have go : ∀ q, q < 16 → (p % 2 = 0 → q = p + 1) → (¬ p % 2 = 0 → q = p - 1) → J 0 23 [(0, .ref 15), (1, .int (nI p)), (2, .int f), (3, .int (nI (8 + p / 2)))] [.int (nI q), .ref 15] (Hp u) := by
    intro q hq h1 h2
    have fin : ∀ y : Int32, y = (if p % 2 = 0 then f + 256 * fl (u.2.1 20) (p + 1) else fl (u.2.1 20) (p - 1) + 256 * f) → J 0 58 [(0, .ref 15), (1, .int (nI p)), (2, .int f), (3, .int (nI (8 + p / 2))), (4, .int (fl (u.2.1 20) q))] [.int y, .int (nI (8 + p / 2)), .ref 16] (Hp u) := by
      intro y hy
      refine e_run hC ?_
      conv => whnf
      refine ⟨vp_in_nI (by omega) (by decide), ?_⟩
      rw [nI_clamp (by omega), h_a20]
      refine e_run hC ?_
      conv => whnf
      refine ⟨rfl, ?_⟩
      rw [hy]
      rfl
    refine e_run hC ?_
    conv => whnf
    refine ⟨(u, q), hq, rfl, rfl, ?_⟩
    conv => whnf
    dsimp only [C_M_flagOf]
    refine e_run hC ?_
    conv => whnf
    refine ⟨by decide, ?_⟩
    rw [r2 (by omega)]
    refine e_run hC ?_
    conv => whnf
    refine ⟨fun h3 => ?_, fun h3 => ?_⟩
    · have h3 : ¬ p % 2 = 0 := fun z => h3 (by rw [z]; rfl)
      refine e_runTo 58 hC ?_
      conv => whnf
      refine fin _ ?_
      rw [if_neg h3, h2 h3]
    · have h3 : p % 2 = 0 := (nI_eq (b := 0) (by omega) (by decide)).mp h3
      refine e_run hC ?_
      conv => whnf
      refine fin _ ?_
      rw [if_pos h3, h1 h3]
  refine e_run hC ?_
  conv => whnf
  refine ⟨by decide, ?_⟩
  refine e_run hC ?_
  conv => whnf
  refine ⟨by decide, ?_⟩
  rw [ix8 hp, r2 (by omega)]
  refine e_run hC ?_
  conv => whnf
  refine ⟨fun h3 => ?_, fun h3 => ?_⟩
  · have h3 : ¬ p % 2 = 0 := fun z => h3 (by rw [z]; rfl)
    refine e_runTo 23 hC ?_
    conv => whnf
    rw [show (1 : Int32) = nI 1 from rfl, pk_sub (by omega)]
    exact go (p - 1) (by omega) (fun z => absurd z h3) (fun _ => rfl)
  · have h3 : p % 2 = 0 := (nI_eq (b := 0) (by omega) (by decide)).mp h3
    refine e_run hC ?_
    conv => whnf
    rw [nI_1]
    exact go (p + 1) (by omega) (fun _ => rfl) (fun z => absurd h3 z)
theorem m_M_flag (l : Launch) (hl : l.stackTraces = false) : e_Met l y_M_flag b_M_flag 5 none 1 C_M_flag :=
  e_met hl F_M C_M S_M_flag k_M_flag (by decide +kernel) f_M c_M s_M_flag o_M_flag (fun a _ => ⟨Nat.le_of_ble_eq_true rfl, rfl⟩) (fun a hp => ⟨_, rfl, Or.inl ⟨rfl, rfl⟩, v_M_flag a.1 a.2.1 a.2.2 hp⟩)
def mlf (w : Nat → Int32) : Nat → Int32 → Int32
  | 0, fd => fd
  | n + 1, fd => mlf w n (if fl w (n + 1) = 0 then nI (n + 1) else fd)
def C_M_lowestFree : e_C := ⟨St, 1, fun _ => 0, fun _ => True, fun _ => [.ref 15], fun a => Hp a, fun a => .inl (some (.int (mlf (a.2.1 20) 14 (-1)))), fun a => Hp a⟩
def S_M_lowestFree : List (Nat × e_C) := [(11, C_M_flagOf)]
theorem s_M_lowestFree : ∀ x ∈ S_M_lowestFree, e_Site b_M_lowestFree "DumpDeskModel" 1 x.1 x.2 := List.forall_mem_cons.mpr ⟨e_siteV (y := y_M_flagOf) (i := 52) (ci := 6) m_M_flagOf (by decide) (by decide) (fun _ => rfl) rfl (fun a _ => ⟨_, _, _, rfl, by decide, rfl⟩) rfl (e_in3 125 rfl rfl) (e_in3 127 rfl rfl) (e_in1 8 rfl rfl) (e_in3 128 rfl rfl) (e_inP 4 rfl rfl) ⟨by decide, by decide, rfl⟩ (by decide +kernel), fun x hx => (by cases hx)⟩
theorem v_M_lowestFree (u : St) (J : e_Jt) (B : Int32) (hB : mlf (u.2.1 20) 14 (-1) = B) (hC : e_P0 F_M S_M_lowestFree k_M_lowestFree (some (.int B)) (Hp u) J) : J 0 0 [(0, .ref 15)] [] (Hp u) := by
  have loop : ∀ n fd, n ≤ 14 → mlf (u.2.1 20) n fd = B → J 0 5 [(0, .ref 15), (1, .int fd), (2, .int (nI n))] [] (Hp u) := by
    intro n
    induction n with
    | zero =>
      intro fd h1 h2
      refine e_run hC ?_
      conv => whnf
      refine ⟨fun _ => ?_, fun h3 => absurd (by decide : nI 0 ≤ 0) h3⟩
      refine e_run hC ?_
      conv => whnf
      exact ⟨by rw [← h2]; rfl, rfl⟩
    | succ n ih =>
      intro fd h1 h2
      have h2 : mlf (u.2.1 20) n (if fl (u.2.1 20) (n + 1) = 0 then nI (n + 1) else fd) = B := h2
      have nxt : ∀ g, (if fl (u.2.1 20) (n + 1) = 0 then nI (n + 1) else fd) = g → J 0 22 [(0, .ref 15), (1, .int fd), (2, .int (nI (n + 1)))] [.int g] (Hp u) := by
        intro g hg
        refine e_run hC ?_
        conv => whnf
        rw [pk_m1]
        exact ih g (by omega) (by rw [← hg]; exact h2)
      refine e_run hC ?_
      conv => whnf
      refine ⟨fun h3 => absurd h3 (nI_nle (by omega) (by omega)), fun _ => ?_⟩
      refine e_run hC ?_
      conv => whnf
      refine ⟨(u, n + 1), (by omega : n + 1 < 16), rfl, rfl, ?_⟩
      conv => whnf
      dsimp only [C_M_flagOf]
      refine e_run hC ?_
      conv => whnf
      refine ⟨fun h3 => ?_, fun h3 => ?_⟩
      · refine e_runTo 22 hC ?_
        conv => whnf
        exact nxt fd (by rw [if_neg h3])
      · refine e_run hC ?_
        conv => whnf
        exact nxt (nI (n + 1)) (by rw [if_pos h3])
  refine e_runTo 5 hC ?_
  conv => whnf
  exact loop 14 (-1) (Nat.le_refl _) hB
theorem m_M_lowestFree (l : Launch) (hl : l.stackTraces = false) : e_Met l y_M_lowestFree b_M_lowestFree 3 (some .int) 1 C_M_lowestFree :=
  e_met hl F_M C_M S_M_lowestFree k_M_lowestFree (by decide +kernel) f_M c_M s_M_lowestFree o_M_lowestFree (fun a _ => ⟨Nat.le_of_ble_eq_true rfl, rfl⟩) (fun a hp => ⟨_, rfl, Or.inr ⟨.int, _, rfl, rfl, rfl⟩, fun J hC => v_M_lowestFree a J _ rfl hC⟩)
