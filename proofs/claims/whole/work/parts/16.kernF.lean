/-! the kernel: timers, file pages, the log; what is stored -/
/-- the slot before the first timer that is due later -/
def fTm (w : Nat → Int32) (d : Int32) : Nat → Nat → Nat
  | 0, s => s
  | n + 1, s => cond (pl (w s)) (if w (na (w s) + 2) ≤ d then fTm w d n (na (w s) + 1) else s) s
theorem fTm_lt (w : Nat → Int32) (d : Int32) : ∀ n s, s < 256 → fTm w d n s < 256 := by
  intro n
  induction n with
  | zero => intro s h; exact h
  | succ n ih =>
    intro s h
    show cond (pl (w s)) (if w (na (w s) + 2) ≤ d then fTm w d n (na (w s) + 1) else s) s < 256
    cases hp : pl (w s) with
    | false => exact h
    | true =>
      obtain ⟨-, h1, h2, h3⟩ := pl_na hp
      rw [cond_true]
      split
      · exact ih _ (by omega)
      · exact h
def C_K_addTimer : e_C := ⟨St × Nat × Int32, 3, fun _ => 0, fun a => a.2.1 < 253, fun a => [.ref 1, .int (nI a.2.1), .int a.2.2], fun a => Hp a.1, fun _ => .inl none, fun a => Hp (uA a.1 0 (insN (a.1.2.1 0) (fTm (a.1.2.1 0) a.2.2 56 1) a.2.1 7002 a.2.2 0))⟩
def S_K_addTimer : List (Nat × e_C) := [(18, C_D_isPlace), (64, C_K_insertNode)]
theorem s_K_addTimer : ∀ x ∈ S_K_addTimer, e_Site b_K_addTimer "DumpDesk$Kernel" 2 x.1 x.2 := List.forall_mem_cons.mpr ⟨e_siteSN (y := y_D_isPlace) (host := "DumpDesk") (i := 47) m_D_isPlace (by decide) (by decide) (fun _ => rfl) (by decide +kernel) (e_in2 102 rfl rfl) (e_in1 1 rfl rfl) (e_in2 103 rfl rfl) ⟨by decide, by decide, rfl⟩ (by decide +kernel), List.forall_mem_cons.mpr ⟨e_siteV (y := y_K_insertNode) (i := 55) (ci := 1) m_K_insertNode (by decide) (by decide) (fun _ => rfl) rfl (fun a _ => ⟨_, _, _, rfl, by decide, rfl⟩) rfl (e_in2 104 rfl rfl) (e_in2 105 rfl rfl) (e_in1 2 rfl rfl) (e_in2 107 rfl rfl) (e_in2 106 rfl rfl) ⟨by decide, by decide, rfl⟩ (by decide +kernel), fun x hx => (by cases hx)⟩⟩
theorem v_K_addTimer (u : St) (p : Nat) (d : Int32) (hp : p < 253) (J : e_Jt) (R : Nat) (hR : R = fTm (u.2.1 0) d 56 1) (hC : e_P0 F_K S_K_addTimer k_K_addTimer none (Hp (uA u 0 (insN (u.2.1 0) R p 7002 d 0))) J) : J 0 0 [(0, .ref 1), (1, .int (nI p)), (2, .int d)] [] (Hp u) := by
  have hRl : R < 256 := by rw [hR]; exact fTm_lt _ _ _ _ (by decide)
  have out : ∀ s k, s = R → J 0 56 [(0, .ref 1), (1, .int (nI p)), (2, .int d), (3, .int (nI s)), (4, .int (nI k))] [] (Hp u) := by
    intro s k hs
    subst hs
    refine e_run hC ?_
    conv => whnf
    refine ⟨(u, s, p, 7002, d, 0), ⟨hRl, hp⟩, rfl, rfl, ?_⟩
    conv => whnf
    dsimp only [C_K_insertNode]
    refine e_run hC ?_
    conv => whnf
    exact ⟨rfl, rfl⟩
  have loop : ∀ n k s, k + n = 56 → s < 256 → fTm (u.2.1 0) d n s = R → J 0 5 [(0, .ref 1), (1, .int (nI p)), (2, .int d), (3, .int (nI s)), (4, .int (nI k))] [] (Hp u) := by
    intro n
    induction n with
    | zero =>
      intro k s h1 h2 h3
      refine e_run hC ?_
      conv => whnf
      exact ⟨fun _ => out s k h3, fun h4 => absurd (nI_le (a := 56) (by omega) (by omega)) h4⟩
    | succ n ih =>
      intro k s h1 h2 h3
      have h3 : cond (pl (u.2.1 0 s)) (if u.2.1 0 (na (u.2.1 0 s) + 2) ≤ d then fTm (u.2.1 0) d n (na (u.2.1 0 s) + 1) else s) s = R := h3
      refine e_run hC ?_
      conv => whnf
      refine ⟨fun h4 => absurd h4 (nI_ge (b := 56) (by omega) (by decide)), fun _ => ?_⟩
      refine e_run hC ?_
      conv => whnf
      refine ⟨vp_in_nI (by omega) (by decide), ?_⟩
      rw [nI_clamp (by omega)]
      refine e_run hC ?_
      conv => whnf
      refine ⟨(Hp u, u.2.1 0 s), trivial, rfl, rfl, ?_⟩
      conv => whnf
      dsimp only [C_D_isPlace]
      refine e_run hC ?_
      conv => whnf
      refine ⟨fun h5 => out s k ?_, fun h5 => ?_⟩
      · rw [bi0.mp h5, cond_false] at h3
        exact h3
      have h6 := bi1 h5
      obtain ⟨g1, g2, g3, g4⟩ := pl_na h6
      rw [h6, cond_true] at h3
      refine e_run hC ?_
      conv => whnf
      refine ⟨vp_in_nI (by omega) (by decide), ?_⟩
      rw [nI_clamp (by omega)]
      refine e_run hC ?_
      conv => whnf
      rw [g1, show (2 : Int32) = nI 2 from rfl, nI_add]
      refine ⟨vp_in_nI (by omega) (by decide), ?_⟩
      rw [nI_clamp (by omega)]
      refine e_run hC ?_
      conv => whnf
      refine ⟨fun h7 => out s k ?_, fun h7 => ?_⟩
      · rw [if_neg (Int32.not_le.mpr h7)] at h3
        exact h3
      rw [if_pos (Int32.not_lt.mp h7)] at h3
      refine e_run hC ?_
      conv => whnf
      refine ⟨vp_in_nI (by omega) (by decide), ?_⟩
      rw [nI_clamp (by omega)]
      refine e_run hC ?_
      conv => whnf
      rw [g1, nI_1, nI_1]
      exact ih (k + 1) (na (u.2.1 0 s) + 1) (by omega) (by omega) h3
  refine e_runTo 5 hC ?_
  conv => whnf
  exact loop 56 0 1 rfl (by decide) hR.symm
theorem m_K_addTimer (l : Launch) (hl : l.stackTraces = false) : e_Met l y_K_addTimer b_K_addTimer 5 none 2 C_K_addTimer :=
  e_met hl F_K C_K S_K_addTimer k_K_addTimer (by decide +kernel) f_K c_K s_K_addTimer o_K_addTimer (fun a _ => ⟨Nat.le_of_ble_eq_true rfl, rfl⟩) (fun a hp => ⟨_, rfl, Or.inl ⟨rfl, rfl⟩, fun J hC => v_K_addTimer a.1 a.2.1 a.2.2 hp J _ rfl hC⟩)
/-- seed, seed + 1 .. laid into the places from x on, before x + n -/
def fsd (f : Nat → Int32) (x n : Nat) (v : Int32) : Nat → Int32 := fun j => if x ≤ j ∧ j < x + n then v + nI (j - x) else f j
theorem fsd_step (f : Nat → Int32) (x n : Nat) (v : Int32) : upd (fsd f x n v) (x + n) (v + nI n) = fsd f x (n + 1) v := by
  funext j
  unfold fsd upd
  by_cases h1 : j = x + n
  · subst h1
    rw [if_pos rfl, if_pos (by omega), Nat.add_sub_cancel_left]
  · rw [if_neg h1]
    dsimp only
    by_cases h2 : x ≤ j ∧ j < x + n
    · rw [if_pos h2, if_pos (by omega)]
    · rw [if_neg h2, if_neg (by omega)]
theorem fsd_0 (f : Nat → Int32) (x : Nat) (v : Int32) : fsd f x 0 v = f := by
  funext j
  unfold fsd
  rw [if_neg (by omega)]
def C_K_fillFilePage : e_C := ⟨St × Nat × Bool × Int32, 4, fun _ => 0, fun a => a.2.1 < 16, fun a => [.ref 1, .int (nI a.2.1), .int (bi a.2.2.1), .int a.2.2.2], fun a => Hp a.1, fun _ => .inl none, fun a => Hp (uA a.1 0 (fsd (stF (a.1.2.1 0) a.2.1 (cond a.2.2.1 3 2)) (16 * a.2.1) 16 a.2.2.2))⟩
def S_K_fillFilePage : List (Nat × e_C) := [(11, C_K_setFlag)]
theorem s_K_fillFilePage : ∀ x ∈ S_K_fillFilePage, e_Site b_K_fillFilePage "DumpDesk$Kernel" 2 x.1 x.2 := List.forall_mem_cons.mpr ⟨e_siteV (y := y_K_setFlag) (i := 26) (ci := 1) m_K_setFlag (by decide) (by decide) (fun _ => rfl) rfl (fun a _ => ⟨_, _, _, rfl, by decide, rfl⟩) rfl (e_in1 33 rfl rfl) (e_in1 34 rfl rfl) (e_in1 2 rfl rfl) (e_in1 36 rfl rfl) (e_in1 35 rfl rfl) ⟨by decide, by decide, rfl⟩ (by decide +kernel), fun x hx => (by cases hx)⟩
theorem v_K_fillFilePage (u : St) (p : Nat) (d : Bool) (x : Int32) (hp : p < 16) (J : e_Jt) (hC : e_P0 F_K S_K_fillFilePage k_K_fillFilePage none (Hp (uA u 0 (fsd (stF (u.2.1 0) p (cond d 3 2)) (16 * p) 16 x))) J) : J 0 0 [(0, .ref 1), (1, .int (nI p)), (2, .int (bi d)), (3, .int x)] [] (Hp u) := by
  have loop : ∀ n k, k + n = 16 → J 0 17 [(0, .ref 1), (1, .int (nI p)), (2, .int (bi d)), (3, .int x), (4, .int (nI k))] [] (Hp (uA u 0 (fsd (stF (u.2.1 0) p (cond d 3 2)) (16 * p) k x))) := by
    intro n
    induction n with
    | zero =>
      intro k h1
      refine e_run hC ?_
      conv => whnf
      refine ⟨fun _ => ?_, fun h4 => absurd (nI_le (a := 16) (by omega) (by omega)) h4⟩
      refine e_run hC ?_
      conv => whnf
      refine ⟨rfl, ?_⟩
      rw [show k = 16 by omega]
    | succ n ih =>
      intro k h1
      refine e_run hC ?_
      conv => whnf
      refine ⟨fun h4 => absurd h4 (nI_ge (b := 16) (by omega) (by decide)), fun _ => ?_⟩
      refine e_run hC ?_
      conv => whnf
      rw [m16, nI_add]
      refine ⟨vp_in_nI (by omega) (by decide), ?_⟩
      rw [nI_clamp (by omega), h_a0, uA_uA]
      refine e_run hC ?_
      conv => whnf
      rw [nI_1]
      have e1 : upd ((uA u 0 (fsd (stF (u.2.1 0) p (cond d 3 2)) (16 * p) k x)).2.1 0) (16 * p + k) (x + nI k) = fsd (stF (u.2.1 0) p (cond d 3 2)) (16 * p) (k + 1) x := fsd_step _ _ _ _
      rw [e1]
      exact ih (k + 1) (by omega)
  have go : ∀ f : Int32, f = cond d 3 2 → J 0 11 [(0, .ref 1), (1, .int (nI p)), (2, .int (bi d)), (3, .int x)] [.int f, .int (nI p), .ref 1] (Hp u) := by
    intro f hf
    refine e_run hC ?_
    conv => whnf
    refine ⟨(u, p, f), hp, rfl, rfl, ?_⟩
    conv => whnf
    dsimp only [C_K_setFlag]
    refine e_runTo 17 hC ?_
    conv => whnf
    have h0 := loop 16 0 rfl
    rw [fsd_0, ← hf] at h0
    exact h0
  refine e_run hC ?_
  conv => whnf
  refine ⟨fun h1 => ?_, fun h1 => ?_⟩
  · refine e_runTo 11 hC ?_
    conv => whnf
    exact go 2 (by rw [bi0.mp h1]; rfl)
  · refine e_run hC ?_
    conv => whnf
    exact go 3 (by rw [bi1 h1]; rfl)
theorem m_K_fillFilePage (l : Launch) (hl : l.stackTraces = false) : e_Met l y_K_fillFilePage b_K_fillFilePage 5 none 2 C_K_fillFilePage :=
  e_met hl F_K C_K S_K_fillFilePage k_K_fillFilePage (by decide +kernel) f_K c_K s_K_fillFilePage o_K_fillFilePage (fun a _ => ⟨Nat.le_of_ble_eq_true rfl, rfl⟩) (fun a hp => ⟨_, rfl, Or.inl ⟨rfl, rfl⟩, v_K_fillFilePage a.1 a.2.1 a.2.2.1 a.2.2.2 hp⟩)
theorem xor16 : ∀ n, n < 1024 → 0 ≤ nI n ^^^ 16 := by decide +kernel
def C_H_floorMod : e_C := ⟨e_H × Nat, 2, fun _ => 0, fun a => a.2 < 1024, fun a => [.int (nI a.2), .int 16], fun a => a.1, fun a => .inl (some (.int (nI (a.2 % 16)))), fun a => a.1⟩
def S_H_floorMod : List (Nat × e_C) := []
theorem s_H_floorMod : ∀ x ∈ S_H_floorMod, e_Site b_H_floorMod "java/lang/Math" 0 x.1 x.2 := fun x hx => (by cases hx)
theorem v_H_floorMod (h : e_H) (n : Nat) (hp : n < 1024) (J : e_Jt) (hC : e_P0 F_H S_H_floorMod k_H_floorMod (some (.int (nI (n % 16)))) h J) : J 0 0 [(0, .int (nI n)), (1, .int 16)] [] h := by
  refine e_run hC ?_
  conv => whnf
  refine ⟨by decide, ?_⟩
  refine e_run hC ?_
  conv => whnf
  refine ⟨fun _ => ?_, fun h1 => absurd (xor16 n hp) h1⟩
  refine e_run hC ?_
  conv => whnf
  refine ⟨?_, rfl⟩
  rw [show (16 : Int32) = nI 16 from rfl, pk_rem (by omega) (by decide) (by decide)]
theorem m_H_floorMod (l : Launch) (hl : l.stackTraces = false) : e_Met l y_H_floorMod b_H_floorMod 3 (some .int) 0 C_H_floorMod :=
  e_met hl F_H C_H S_H_floorMod k_H_floorMod (by decide +kernel) f_H c_H s_H_floorMod o_H_floorMod (fun a _ => ⟨Nat.le_of_ble_eq_true rfl, rfl⟩) (fun a hp => ⟨_, rfl, Or.inr ⟨.int, _, rfl, rfl, rfl⟩, v_H_floorMod a.1 a.2 hp⟩)
def C_K_logWord : e_C := ⟨St × Nat × Int32, 2, fun _ => 0, fun a => a.2.1 < 1024 ∧ a.1.2.1 0 6 = nI a.2.1, fun a => [.ref 1, .int a.2.2], fun a => Hp a.1, fun _ => .inl none, fun a => Hp (uA a.1 0 (upd (upd (a.1.2.1 0) (240 + a.2.1 % 16) a.2.2) 6 (nI (a.2.1 + 1))))⟩
def S_K_logWord : List (Nat × e_C) := [(16, C_H_floorMod)]
theorem s_K_logWord : ∀ x ∈ S_K_logWord, e_Site b_K_logWord "DumpDesk$Kernel" 1 x.1 x.2 := List.forall_mem_cons.mpr ⟨e_siteS (y := y_H_floorMod) (i := 69) m_H_floorMod (by decide) (by decide) (fun _ => rfl) (e_in2 230 rfl rfl) (e_in2 231 rfl rfl) (e_in1 15 rfl rfl) (e_in2 232 rfl rfl) ⟨by decide, by decide, rfl⟩ (by decide +kernel), fun x hx => (by cases hx)⟩
theorem v_K_logWord (u : St) (n : Nat) (x : Int32) (hp : n < 1024 ∧ u.2.1 0 6 = nI n) (J : e_Jt) (hC : e_P0 F_K S_K_logWord k_K_logWord none (Hp (uA u 0 (upd (upd (u.2.1 0) (240 + n % 16) x) 6 (nI (n + 1))))) J) : J 0 0 [(0, .ref 1), (1, .int x)] [] (Hp u) := by
  obtain ⟨h1, h2⟩ := hp
  refine e_run hC ?_
  conv => whnf
  refine ⟨vp_in_nI (n := 6) (by decide) (by decide), ?_⟩
  rw [show (6 : Int32).toNatClampNeg = 6 from rfl, h2]
  refine e_run hC ?_
  conv => whnf
  refine ⟨(Hp u, n), h1, rfl, rfl, ?_⟩
  conv => whnf
  dsimp only [C_H_floorMod]
  refine e_run hC ?_
  conv => whnf
  rw [show (240 : Int32) = nI 240 from rfl, nI_add]
  refine ⟨vp_in_nI (by omega) (by decide), ?_⟩
  rw [nI_clamp (by omega), h_a0]
  refine e_run hC ?_
  conv => whnf
  refine ⟨vp_in_nI (n := 6) (by decide) (by decide), ?_⟩
  rw [show (6 : Int32).toNatClampNeg = 6 from rfl]
  refine e_run hC ?_
  conv => whnf
  refine ⟨vp_in_nI (n := 6) (by decide) (by decide), ?_⟩
  rw [show (6 : Int32).toNatClampNeg = 6 from rfl, h_a0, uA_uA]
  refine e_run hC ?_
  conv => whnf
  refine ⟨rfl, ?_⟩
  have e1 : (uA u 0 (upd (u.2.1 0) (240 + n % 16) x)).2.1 0 6 = nI n := by
    rw [← h2]
    show upd (u.2.1 0) (240 + n % 16) x 6 = _
    unfold upd
    rw [if_neg (by omega)]
  rw [e1, nI_1]
  rfl
theorem m_K_logWord (l : Launch) (hl : l.stackTraces = false) : e_Met l y_K_logWord b_K_logWord 2 none 1 C_K_logWord :=
  e_met hl F_K C_K S_K_logWord k_K_logWord (by decide +kernel) f_K c_K s_K_logWord o_K_logWord (fun a _ => ⟨Nat.le_of_ble_eq_true rfl, rfl⟩) (fun a hp => ⟨_, rfl, Or.inl ⟨rfl, rfl⟩, v_K_logWord a.1 a.2.1 a.2.2 hp⟩)
/-- n words from a on are 0 -/
def az (w : Nat → Int32) : Nat → Nat → Bool
  | 0, _ => true
  | n + 1, a => if w a = 0 then az w n (a + 1) else false
def C_K_isAllZero : e_C := ⟨St × Nat, 2, fun _ => 0, fun a => a.2 < 16, fun a => [.ref 1, .int (nI a.2)], fun a => Hp a.1, fun a => .inl (some (.int (bi (az (a.1.2.1 0) 16 (16 * a.2))))), fun a => Hp a.1⟩
def S_K_isAllZero : List (Nat × e_C) := []
theorem s_K_isAllZero : ∀ x ∈ S_K_isAllZero, e_Site b_K_isAllZero "DumpDesk$Kernel" 0 x.1 x.2 := fun x hx => (by cases hx)
theorem v_K_isAllZero (u : St) (p : Nat) (hp : p < 16) (J : e_Jt) (B : Bool) (hB : az (u.2.1 0) 16 (16 * p) = B) (hC : e_P0 F_K S_K_isAllZero k_K_isAllZero (some (.int (bi B))) (Hp u) J) : J 0 0 [(0, .ref 1), (1, .int (nI p))] [] (Hp u) := by
  have loop : ∀ n k, k + n = 16 → az (u.2.1 0) n (16 * p + k) = B → J 0 2 [(0, .ref 1), (1, .int (nI p)), (2, .int (nI k))] [] (Hp u) := by
    intro n
    induction n with
    | zero =>
      intro k h1 h2
      refine e_run hC ?_
      conv => whnf
      refine ⟨fun _ => ?_, fun h4 => absurd (nI_le (a := 16) (by omega) (by omega)) h4⟩
      refine e_run hC ?_
      conv => whnf
      refine ⟨?_, rfl⟩
      rw [← h2]
      rfl
    | succ n ih =>
      intro k h1 h2
      have h2 : (if u.2.1 0 (16 * p + k) = 0 then az (u.2.1 0) n (16 * p + k + 1) else false) = B := h2
      refine e_run hC ?_
      conv => whnf
      refine ⟨fun h4 => absurd h4 (nI_ge (b := 16) (by omega) (by decide)), fun _ => ?_⟩
      refine e_run hC ?_
      conv => whnf
      rw [m16, nI_add]
      refine ⟨vp_in_nI (by omega) (by decide), ?_⟩
      rw [nI_clamp (by omega)]
      refine e_run hC ?_
      conv => whnf
      refine ⟨fun h5 => ?_, fun h5 => ?_⟩
      · rw [if_pos h5] at h2
        refine e_run hC ?_
        conv => whnf
        rw [nI_1]
        exact ih (k + 1) (by omega) h2
      · rw [if_neg h5] at h2
        refine e_run hC ?_
        conv => whnf
        refine ⟨?_, rfl⟩
        rw [← h2]
        rfl
  refine e_runTo 2 hC ?_
  conv => whnf
  exact loop 16 0 rfl hB
theorem m_K_isAllZero (l : Launch) (hl : l.stackTraces = false) : e_Met l y_K_isAllZero b_K_isAllZero 3 (some .boolean) 0 C_K_isAllZero :=
  e_met hl F_K C_K S_K_isAllZero k_K_isAllZero (by decide +kernel) f_K c_K s_K_isAllZero o_K_isAllZero (fun a _ => ⟨Nat.le_of_ble_eq_true rfl, rfl⟩) (fun a hp => ⟨_, rfl, Or.inr ⟨.boolean, _, rfl, rfl, bi_ok _⟩, fun J hC => v_K_isAllZero a.1 a.2 hp J _ rfl hC⟩)
def sto (w : Nat → Int32) (p : Nat) : Bool := if p = 0 then true else if fl w p = 0 then false else if fl w p = 2 then false else !az w 16 (16 * p)
def C_K_isStored : e_C := ⟨St × Nat, 2, fun _ => 0, fun a => a.2 < 16, fun a => [.ref 1, .int (nI a.2)], fun a => Hp a.1, fun a => .inl (some (.int (bi (sto (a.1.2.1 0) a.2)))), fun a => Hp a.1⟩
def S_K_isStored : List (Nat × e_C) := [(8, C_K_flagOf), (23, C_K_isAllZero)]
theorem s_K_isStored : ∀ x ∈ S_K_isStored, e_Site b_K_isStored "DumpDesk$Kernel" 2 x.1 x.2 := List.forall_mem_cons.mpr ⟨e_siteV (y := y_K_flagOf) (i := 34) (ci := 1) m_K_flagOf (by decide) (by decide) (fun _ => rfl) rfl (fun a _ => ⟨_, _, _, rfl, by decide, rfl⟩) rfl (e_in2 84 rfl rfl) (e_in2 85 rfl rfl) (e_in1 2 rfl rfl) (e_in2 87 rfl rfl) (e_in2 86 rfl rfl) ⟨by decide, by decide, rfl⟩ (by decide +kernel), List.forall_mem_cons.mpr ⟨e_siteV (y := y_K_isAllZero) (i := 74) (ci := 1) m_K_isAllZero (by decide) (by decide) (fun _ => rfl) rfl (fun a _ => ⟨_, _, _, rfl, by decide, rfl⟩) rfl (e_in3 30 rfl rfl) (e_in3 31 rfl rfl) (e_in1 2 rfl rfl) (e_in3 33 rfl rfl) (e_in3 32 rfl rfl) ⟨by decide, by decide, rfl⟩ (by decide +kernel), fun x hx => (by cases hx)⟩⟩
theorem v_K_isStored (u : St) (p : Nat) (hp : p < 16) (J : e_Jt) (B : Bool) (hB : sto (u.2.1 0) p = B) (hC : e_P0 F_K S_K_isStored k_K_isStored (some (.int (bi B))) (Hp u) J) : J 0 0 [(0, .ref 1), (1, .int (nI p))] [] (Hp u) := by
  unfold sto at hB
  have no : B = false → J 0 33 [(0, .ref 1), (1, .int (nI p)), (2, .int (fl (u.2.1 0) p))] [] (Hp u) := by
    intro h
    refine e_run hC ?_
    conv => whnf
    exact ⟨by rw [h]; rfl, rfl⟩
  refine e_run hC ?_
  conv => whnf
  refine ⟨fun h1 => ?_, fun h1 => ?_⟩
  · have h1 : p ≠ 0 := fun z => h1 (by rw [z]; rfl)
    rw [if_neg h1] at hB
    refine e_run hC ?_
    conv => whnf
    refine ⟨(u, p), hp, rfl, rfl, ?_⟩
    conv => whnf
    dsimp only [C_K_flagOf]
    refine e_run hC ?_
    conv => whnf
    refine ⟨fun h2 => no (by rw [if_pos h2] at hB; exact hB.symm), fun h2 => ?_⟩
    rw [if_neg h2] at hB
    refine e_run hC ?_
    conv => whnf
    refine ⟨fun h3 => no (by rw [if_pos h3] at hB; exact hB.symm), fun h3 => ?_⟩
    rw [if_neg h3] at hB
    refine e_run hC ?_
    conv => whnf
    refine ⟨(u, p), hp, rfl, rfl, ?_⟩
    conv => whnf
    dsimp only [C_K_isAllZero]
    refine e_run hC ?_
    conv => whnf
    refine ⟨fun h4 => no (by rw [bi1 h4] at hB; exact hB.symm), fun h4 => ?_⟩
    rw [bi0.mp h4] at hB
    refine e_run hC ?_
    conv => whnf
    refine e_run hC ?_
    conv => whnf
    refine ⟨?_, rfl⟩
    rw [← hB]
    rfl
  · have h1 : p = 0 := (nI_eq (b := 0) (by omega) (by decide)).mp h1
    rw [if_pos h1] at hB
    refine e_run hC ?_
    conv => whnf
    refine ⟨?_, rfl⟩
    rw [← hB]
    rfl
theorem m_K_isStored (l : Launch) (hl : l.stackTraces = false) : e_Met l y_K_isStored b_K_isStored 3 (some .boolean) 2 C_K_isStored :=
  e_met hl F_K C_K S_K_isStored k_K_isStored (by decide +kernel) f_K c_K s_K_isStored o_K_isStored (fun a _ => ⟨Nat.le_of_ble_eq_true rfl, rfl⟩) (fun a hp => ⟨_, rfl, Or.inr ⟨.boolean, _, rfl, rfl, bi_ok _⟩, fun J hC => v_K_isStored a.1 a.2 hp J _ rfl hC⟩)
