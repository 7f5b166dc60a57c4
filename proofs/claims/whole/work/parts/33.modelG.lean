/-! the reference: dump, area -/
def mOK (u : St) : Prop := u.1 25 = nI (na (u.1 25)) ∧ na (u.1 25) ≤ 96
theorem mS_ok (u : St) (f ar : Nat → Int32) (s : Nat) (h : s ≤ 96) : mOK (mS u f ar s) := by
  have e1 : (mS u f ar s).1 25 = nI s := rfl
  unfold mOK
  rw [e1, na, nI_clamp (by omega)]
  exact ⟨rfl, h⟩
theorem snd_in (u : St) (c pg : Int32) (n s pw : Nat) (hs : u.1 25 = nI s) (h : s ≤ 96) : mOK (snd u c pg n s pw).2 ∧ ((snd u c pg n s pw).1 = -1 ∨ (snd u c pg n s pw).1 = -2 ∨ ∃ q, q ≤ pw ∧ (snd u c pg n s pw).1 = nI q) ∧ (snd u c pg n s pw).2.2.1 20 = u.2.1 20 := by
  unfold snd
  split
  next => exact ⟨⟨by rw [show (uA u 26 _).1 25 = nI s from hs, na, nI_clamp (by omega)], by rw [show (uA u 26 _).1 25 = nI s from hs, na, nI_clamp (by omega)]; exact h⟩, Or.inl rfl, rfl⟩
  next h5 =>
    dsimp only
    have h6 := wl_in (u.2.1 25) (frm (u.2.1 26) c pg n ((n + 11) / 8 * 8 - 1)) ((n + 11) / 8) 0 s pw (u.2.1 24) (by omega) h
    refine ⟨mS_ok _ _ _ _ h6.1, ?_, rfl⟩
    split
    · exact Or.inr (Or.inr ⟨_, h6.2, rfl⟩)
    · exact Or.inr (Or.inl rfl)
/-- send with the sender's own place -/
def sn (u : St) (c pg : Int32) (n pw : Nat) : Int32 × St := snd u c pg n (na (u.1 25)) pw
/-- a page packed and sent -/
def mps (u : St) (c p pw : Nat) : Int32 × St := sn (mkS u (pkg (u.2.1 20) (16 * p + 16) 16 (16 * p) 3 (u.2.1 26)).1 (pkg (u.2.1 20) (16 * p + 16) 16 (16 * p) 3 (u.2.1 26)).2) (nI c) (nI p) ((pkg (u.2.1 20) (16 * p + 16) 16 (16 * p) 3 (u.2.1 26)).1 - 3) pw
/-- the end sent -/
def mpe (u : St) (c pw : Nat) : Int32 × St := sn (uS (uA u 26 (upd (upd (u.2.1 26) 3 (nI c)) 4 (nI (16 - c)))) 24 5) (nI c) (-1) 2 pw
theorem mps_in (u : St) (c p pw : Nat) (h : mOK u) : mOK (mps u c p pw).2 ∧ ((mps u c p pw).1 = -1 ∨ (mps u c p pw).1 = -2 ∨ ∃ q, q ≤ pw ∧ (mps u c p pw).1 = nI q) ∧ (mps u c p pw).2.2.1 20 = u.2.1 20 := by
  unfold mps sn
  exact snd_in _ _ _ _ _ _ h.1 h.2
/-- what is left of a dump: n pages from p on, c chunks sent, pw power left -/
def mda : Nat → Nat → Nat → Nat → St → Int32 × St
  | 0, _, c, pw, u => mpe u c pw
  | n + 1, p, c, pw, u => cond (sto (u.2.1 20) p) (if (mps u c p pw).1 < 0 then mps u c p pw else mda n (p + 1) (c + 1) (na (mps u c p pw).1) (mps u c p pw).2) (mda n (p + 1) c pw u)
def mD0 (u : St) : St := uS (uA (uS u 20 0) 24 (ffl (u.2.1 24) 0 768 (-1))) 25 0
def mDU (u : St) (pw : Int32) : Int32 × St :=
  cond (inn pw 0 200) (if u.1 23 = 0 then (0, uS u 20 2) else (if (mda 16 0 0 (na pw) (mD0 u)).1 < 0 then -(mda 16 0 0 (na pw) (mD0 u)).1 else 0, (mda 16 0 0 (na pw) (mD0 u)).2)) (0, uS u 20 1)
def C_M_dump : e_C := ⟨St × Int32, 2, fun _ => 0, fun _ => True, fun a => [.ref 15, .int a.2], fun a => Hp a.1, fun a => .inl (some (.int (mDU a.1 a.2).1)), fun a => Hp (mDU a.1 a.2).2⟩
def S_M_dump : List (Nat × e_C) := [(6, C_M_in), (88, C_M_stored), (97, C_M_pack), (105, C_M_send), (148, C_M_send)]
theorem s_M_dump : ∀ x ∈ S_M_dump, e_Site b_M_dump "DumpDeskModel" 2 x.1 x.2 := List.forall_mem_cons.mpr ⟨e_siteS (y := y_M_in) (i := 89) m_M_in (by decide) (by decide) (fun _ => rfl) (e_in3 232 rfl rfl) (e_in3 233 rfl rfl) (e_in1 8 rfl rfl) (e_in3 234 rfl rfl) ⟨by decide, by decide, rfl⟩ (by decide +kernel), List.forall_mem_cons.mpr ⟨e_siteV (y := y_M_stored) (i := 119) (ci := 6) m_M_stored (by decide) (by decide) (fun _ => rfl) rfl (fun a _ => ⟨_, _, _, rfl, by decide, rfl⟩) rfl (e_in4 43 rfl rfl) (e_in4 45 rfl rfl) (e_in1 8 rfl rfl) (e_in4 46 rfl rfl) (e_inP 13 rfl rfl) ⟨by decide, by decide, rfl⟩ (by decide +kernel), List.forall_mem_cons.mpr ⟨e_siteV (y := y_M_pack) (i := 123) (ci := 6) m_M_pack (by decide) (by decide) (fun _ => rfl) rfl (fun a _ => ⟨_, _, _, rfl, by decide, rfl⟩) rfl (e_in4 47 rfl rfl) (e_in4 49 rfl rfl) (e_in1 8 rfl rfl) (e_in4 50 rfl rfl) (e_inP 14 rfl rfl) ⟨by decide, by decide, rfl⟩ (by decide +kernel), List.forall_mem_cons.mpr ⟨e_siteV (y := y_M_send) (i := 126) (ci := 6) m_M_send (by decide) (by decide) (fun _ => rfl) rfl (fun a _ => ⟨_, _, _, rfl, by decide, rfl⟩) rfl (e_in4 55 rfl rfl) (e_in4 57 rfl rfl) (e_in1 8 rfl rfl) (e_in4 58 rfl rfl) (e_inP 16 rfl rfl) ⟨by decide, by decide, rfl⟩ (by decide +kernel), List.forall_mem_cons.mpr ⟨e_siteV (y := y_M_send) (i := 126) (ci := 6) m_M_send (by decide) (by decide) (fun _ => rfl) rfl (fun a _ => ⟨_, _, _, rfl, by decide, rfl⟩) rfl (e_in4 55 rfl rfl) (e_in4 57 rfl rfl) (e_in1 8 rfl rfl) (e_in4 58 rfl rfl) (e_inP 16 rfl rfl) ⟨by decide, by decide, rfl⟩ (by decide +kernel), fun x hx => (by cases hx)⟩⟩⟩⟩⟩
theorem v_M_dump (u : St) (pw : Int32) (J : e_Jt) (B : Int32 × St) (hB : mDU u pw = B) (hC : e_P0 F_M S_M_dump k_M_dump (some (.int B.1)) (Hp B.2) J) : J 0 0 [(0, .ref 15), (1, .int pw)] [] (Hp u) := by
  unfold mDU at hB
  have neg : ∀ x : Int32, ¬ x ≤ 0 → B = (0, uS u 20 x) → J 0 28 [(0, .ref 15), (1, .int pw)] [.int x, .ref 15] (Hp u) := by
    intro x hx h1
    refine e_run hC ?_
    conv => whnf
    rw [h_s20]
    refine e_run hC ?_
    conv => whnf
    refine ⟨fun h => absurd h hx, fun _ => ?_⟩
    refine e_run hC ?_
    conv => whnf
    rw [h1]
    exact ⟨rfl, rfl⟩
  refine e_run hC ?_
  conv => whnf
  refine ⟨(Hp u, pw, 0, 200), trivial, rfl, rfl, ?_⟩
  conv => whnf
  dsimp only [C_M_in]
  refine e_run hC ?_
  conv => whnf
  refine ⟨fun h1 => ?_, fun h1 => ?_⟩
  · have h1 := bi1 h1
    rw [h1, cond_true] at hB
    obtain ⟨w1, w2⟩ := inn_of (n := 200) (by decide) h1
    generalize na pw = q at w1 w2 hB
    subst w1
    refine e_run hC ?_
    conv => whnf
    refine ⟨fun h2 => ?_, fun h2 => ?_⟩
    · rw [if_pos h2] at hB
      refine e_runTo 28 hC ?_
      conv => whnf
      exact neg 2 (by decide) hB.symm
    · rw [if_neg h2] at hB
      have fin : ∀ (r : Int32) (a b : Int32) (v : St), B = (if r < 0 then -r else 0, v) → J 0 152 [(0, .ref 15), (1, .int (nI q)), (2, .int r), (3, .int a), (4, .int b)] [] (Hp v) := by
        intro r a b v h
        refine e_run hC ?_
        conv => whnf
        refine ⟨fun h3 => ?_, fun h3 => ?_⟩
        · rw [if_pos h3] at h
          refine e_run hC ?_
          conv => whnf
          rw [h]
          exact ⟨rfl, rfl⟩
        · rw [if_neg h3] at h
          refine e_run hC ?_
          conv => whnf
          refine e_run hC ?_
          conv => whnf
          rw [h]
          exact ⟨rfl, rfl⟩
      have loop : ∀ n p c pw (v : St), p + n = 16 → c ≤ p → pw ≤ 200 → mOK v → B = (if (mda n p c pw v).1 < 0 then -(mda n p c pw v).1 else 0, (mda n p c pw v).2) → J 0 74 [(0, .ref 15), (1, .int (nI q)), (2, .int (nI pw)), (3, .int (nI c)), (4, .int (nI p))] [] (Hp v) := by
        intro n
        induction n with
        | zero =>
          intro p c pw v h3 h4 h5 h6 h7
          have h7 : B = (if (mpe v c pw).1 < 0 then -(mpe v c pw).1 else 0, (mpe v c pw).2) := h7
          refine e_run hC ?_
          conv => whnf
          refine ⟨fun _ => ?_, fun h => absurd (nI_le (a := 16) (by omega) (by omega)) h⟩
          refine e_run hC ?_
          conv => whnf
          refine ⟨fun h => absurd h (nI_pos (by omega)), fun _ => ?_⟩
          refine e_run hC ?_
          conv => whnf
          refine ⟨vp_in_nI (n := 3) (by decide) (by decide), ?_⟩
          rw [show (3 : Int32).toNatClampNeg = 3 from rfl, h_a26]
          refine e_run hC ?_
          conv => whnf
          rw [show (16 : Int32) = nI 16 from rfl, pk_sub (by omega)]
          refine ⟨vp_in_nI (n := 4) (by decide) (by decide), ?_⟩
          rw [show (4 : Int32).toNatClampNeg = 4 from rfl, h_a26, uA_uA]
          refine e_run hC ?_
          conv => whnf
          rw [h_s24]
          refine e_run hC ?_
          conv => whnf
          refine ⟨(uS (uA v 26 (upd (upd (v.2.1 26) 3 (nI c)) 4 (nI (16 - c)))) 24 5, nI c, -1, 2, na (v.1 25), pw), ⟨(by decide : 2 ≤ 32), h6.2, h5, rfl, h6.1⟩, rfl, rfl, ?_⟩
          conv => whnf
          dsimp only [C_M_send]
          refine e_runTo 152 hC ?_
          conv => whnf
          exact fin _ _ _ _ h7
        | succ n ih =>
          intro p c pw v h3 h4 h5 h6 h7
          have h7 : B = (if (cond (sto (v.2.1 20) p) (if (mps v c p pw).1 < 0 then mps v c p pw else mda n (p + 1) (c + 1) (na (mps v c p pw).1) (mps v c p pw).2) (mda n (p + 1) c pw v)).1 < 0 then -(cond (sto (v.2.1 20) p) (if (mps v c p pw).1 < 0 then mps v c p pw else mda n (p + 1) (c + 1) (na (mps v c p pw).1) (mps v c p pw).2) (mda n (p + 1) c pw v)).1 else 0, (cond (sto (v.2.1 20) p) (if (mps v c p pw).1 < 0 then mps v c p pw else mda n (p + 1) (c + 1) (na (mps v c p pw).1) (mps v c p pw).2) (mda n (p + 1) c pw v)).2) := h7
          refine e_run hC ?_
          conv => whnf
          refine ⟨fun h => absurd h (nI_ge (b := 16) (by omega) (by decide)), fun _ => ?_⟩
          refine e_run hC ?_
          conv => whnf
          refine ⟨fun h => absurd h (nI_pos (by omega)), fun _ => ?_⟩
          refine e_run hC ?_
          conv => whnf
          refine ⟨(v, p), (by omega : p < 16), rfl, rfl, ?_⟩
          conv => whnf
          dsimp only [C_M_stored]
          refine e_run hC ?_
          conv => whnf
          refine ⟨fun h8 => ?_, fun h8 => ?_⟩
          · rw [bi0.mp h8, cond_false] at h7
            refine e_run hC ?_
            conv => whnf
            rw [nI_1]
            exact ih (p + 1) c pw v (by omega) (by omega) h5 h6 h7
          · rw [bi1 h8, cond_true] at h7
            have hk := pkg_le (v.2.1 20) (16 * p + 16) 16 (16 * p) 3 (v.2.1 26) (by omega)
            obtain ⟨i1, i2, i3⟩ := mps_in v c p pw h6
            unfold mps sn at h7 i1 i2
            refine e_run hC ?_
            conv => whnf
            refine ⟨(v, p), (by omega : p < 16), rfl, rfl, ?_⟩
            conv => whnf
            dsimp only [C_M_pack]
            generalize pkg (v.2.1 20) (16 * p + 16) 16 (16 * p) 3 (v.2.1 26) = pk at h7 hk i1 i2 ⊢
            obtain ⟨t, f⟩ := pk
            dsimp only at h7 hk i1 i2 ⊢
            refine e_run hC ?_
            conv => whnf
            refine ⟨(mkS v t f, nI c, nI p, t - 3, na (v.1 25), pw), ⟨(by omega : t - 3 ≤ 32), h6.2, h5, ?_, h6.1⟩, rfl, rfl, ?_⟩
            · show nI t = nI (3 + (t - 3))
              rw [show 3 + (t - 3) = t by omega]
            conv => whnf
            dsimp only [C_M_send]
            rw [show na ((mkS v t f).1 25) = na (v.1 25) from rfl] at h7 i1 i2
            generalize snd (mkS v t f) (nI c) (nI p) (t - 3) (na (v.1 25)) pw = r at h7 i1 i2 ⊢
            obtain ⟨ra, rv⟩ := r
            dsimp only at h7 i1 i2 ⊢
            have stop : ra < 0 → J 0 74 [(0, .ref 15), (1, .int (nI q)), (2, .int ra), (3, .int (nI (c + 1))), (4, .int (nI (p + 1)))] [] (Hp rv) := by
              intro h
              rw [if_pos h] at h7
              have at118 : J 0 118 [(0, .ref 15), (1, .int (nI q)), (2, .int ra), (3, .int (nI (c + 1))), (4, .int (nI (p + 1)))] [] (Hp rv) := by
                refine e_run hC ?_
                conv => whnf
                refine ⟨fun _ => ?_, fun h9 => absurd h h9⟩
                exact fin _ _ _ _ h7
              refine e_run hC ?_
              conv => whnf
              refine ⟨fun _ => at118, fun _ => ?_⟩
              refine e_run hC ?_
              conv => whnf
              exact ⟨fun _ => at118, fun h9 => absurd h h9⟩
            refine e_run hC ?_
            conv => whnf
            rw [nI_1, nI_1]
            rcases i2 with rfl | rfl | ⟨k, k1, rfl⟩
            · exact stop (by decide)
            · exact stop (by decide)
            · rw [if_neg (nI_pos (by omega)), na, nI_clamp (by omega)] at h7
              exact ih (p + 1) (c + 1) k rv (by omega) (by omega) (by omega) i1 h7
      have er : ∀ n k f, k + n = 768 → ffl f k 768 (-1) = ffl (u.2.1 24) 0 768 (-1) → J 0 42 [(0, .ref 15), (1, .int (nI q)), (2, .int (nI k))] [] (Hp (uA (uS u 20 0) 24 f)) := by
        intro n
        induction n with
        | zero =>
          intro k f h3 h4
          rw [show k = 768 by omega, ffl_end] at h4
          refine e_run hC ?_
          conv => whnf
          refine ⟨fun _ => ?_, fun h => absurd (nI_le (a := 768) (by omega) (by omega)) h⟩
          refine e_run hC ?_
          conv => whnf
          rw [h_s25, h4]
          refine e_runTo 74 hC ?_
          conv => whnf
          exact loop 16 0 0 q (mD0 u) rfl (Nat.le_refl _) w2 ⟨rfl, (by decide : na (0 : Int32) ≤ 96)⟩ hB.symm
        | succ n ih =>
          intro k f h3 h4
          refine e_run hC ?_
          conv => whnf
          refine ⟨fun h => absurd h (nI_ge (b := 768) (by omega) (by decide)), fun _ => ?_⟩
          refine e_run hC ?_
          conv => whnf
          refine ⟨vp_in_nI (by omega) (by decide), ?_⟩
          rw [nI_clamp (by omega), h_a24, uA_uA]
          refine e_run hC ?_
          conv => whnf
          rw [nI_1]
          refine ih (k + 1) _ (by omega) ?_
          rw [← h4]
          exact ffl_step f _ _ (-1) (by omega)
      refine e_run hC ?_
      conv => whnf
      refine e_run hC ?_
      conv => whnf
      rw [h_s20]
      refine e_run hC ?_
      conv => whnf
      refine ⟨fun _ => ?_, fun h => absurd (by decide : (0 : Int32) ≤ 0) h⟩
      refine e_runTo 42 hC ?_
      conv => whnf
      have h0 := er 768 0 (u.2.1 24) rfl rfl
      rw [show uA (uS u 20 0) 24 (u.2.1 24) = uS u 20 0 from uA_self (uS u 20 0) 24] at h0
      exact h0
  · rw [bi0.mp h1] at hB
    refine e_runTo 28 hC ?_
    conv => whnf
    exact neg 1 (by decide) hB.symm
theorem m_M_dump (l : Launch) (hl : l.stackTraces = false) : e_Met l y_M_dump b_M_dump 5 (some .int) 2 C_M_dump :=
  e_met hl F_M C_M S_M_dump k_M_dump (by decide +kernel) f_M c_M s_M_dump o_M_dump (fun a _ => ⟨Nat.le_of_ble_eq_true rfl, rfl⟩) (fun a hp => ⟨_, rfl, Or.inr ⟨.int, _, rfl, rfl, rfl⟩, fun J hC => v_M_dump a.1 a.2 J _ rfl hC⟩)
def mAR (u : St) (s w : Int32) : Int32 × St := cond (inn s 0 95 && inn w 0 7) (u.2.1 24 (8 * na s + na w), uS u 20 0) (0, uS u 20 1)
def C_M_area : e_C := ⟨St × Int32 × Int32, 3, fun _ => 0, fun _ => True, fun a => [.ref 15, .int a.2.1, .int a.2.2], fun a => Hp a.1, fun a => .inl (some (.int (mAR a.1 a.2.1 a.2.2).1)), fun a => Hp (mAR a.1 a.2.1 a.2.2).2⟩
def S_M_area : List (Nat × e_C) := [(5, C_M_in), (15, C_M_in)]
theorem s_M_area : ∀ x ∈ S_M_area, e_Site b_M_area "DumpDeskModel" 1 x.1 x.2 := List.forall_mem_cons.mpr ⟨e_siteS (y := y_M_in) (i := 89) m_M_in (by decide) (by decide) (fun _ => rfl) (e_in3 232 rfl rfl) (e_in3 233 rfl rfl) (e_in1 8 rfl rfl) (e_in3 234 rfl rfl) ⟨by decide, by decide, rfl⟩ (by decide +kernel), List.forall_mem_cons.mpr ⟨e_siteS (y := y_M_in) (i := 89) m_M_in (by decide) (by decide) (fun _ => rfl) (e_in3 232 rfl rfl) (e_in3 233 rfl rfl) (e_in1 8 rfl rfl) (e_in3 234 rfl rfl) ⟨by decide, by decide, rfl⟩ (by decide +kernel), fun x hx => (by cases hx)⟩⟩
theorem v_M_area (u : St) (s w : Int32) (J : e_Jt) (B : Int32 × St) (hB : mAR u s w = B) (hC : e_P0 F_M S_M_area k_M_area (some (.int B.1)) (Hp B.2) J) : J 0 0 [(0, .ref 15), (1, .int s), (2, .int w)] [] (Hp u) := by
  unfold mAR at hB
  have no : B = (0, uS u 20 1) → J 0 25 [(0, .ref 15), (1, .int s), (2, .int w)] [.ref 15] (Hp u) := by
    intro h1
    refine e_run hC ?_
    conv => whnf
    rw [h_s20]
    refine e_run hC ?_
    conv => whnf
    refine ⟨fun h => absurd h (by decide : ¬ (1 : Int32) ≤ 0), fun _ => ?_⟩
    refine e_run hC ?_
    conv => whnf
    refine e_run hC ?_
    conv => whnf
    rw [h1]
    exact ⟨rfl, rfl⟩
  refine e_run hC ?_
  conv => whnf
  refine ⟨(Hp u, s, 0, 95), trivial, rfl, rfl, ?_⟩
  conv => whnf
  dsimp only [C_M_in]
  refine e_run hC ?_
  conv => whnf
  refine ⟨fun h1 => no (by rw [bi0.mp h1] at hB; exact hB.symm), fun h1 => ?_⟩
  have h1 := bi1 h1
  rw [h1, Bool.true_and] at hB
  refine e_run hC ?_
  conv => whnf
  refine ⟨(Hp u, w, 0, 7), trivial, rfl, rfl, ?_⟩
  conv => whnf
  dsimp only [C_M_in]
  refine e_run hC ?_
  conv => whnf
  refine ⟨fun h2 => no (by rw [bi0.mp h2] at hB; exact hB.symm), fun h2 => ?_⟩
  have h2 := bi1 h2
  rw [h2, cond_true] at hB
  obtain ⟨w1, w2⟩ := inn_of (n := 95) (by decide) h1
  obtain ⟨w3, w4⟩ := inn_of (n := 7) (by decide) h2
  generalize na s = a at w1 w2 hB
  generalize na w = b at w3 w4 hB
  subst w1
  subst w3
  refine e_run hC ?_
  conv => whnf
  refine e_run hC ?_
  conv => whnf
  rw [h_s20]
  refine e_run hC ?_
  conv => whnf
  refine ⟨fun _ => ?_, fun h => absurd (by decide : (0 : Int32) ≤ 0) h⟩
  refine e_run hC ?_
  conv => whnf
  rw [show (8 : Int32) = nI 8 from rfl, pk_mul, nI_add]
  refine ⟨vp_in_nI (by omega) (by decide), ?_⟩
  rw [nI_clamp (by omega)]
  refine e_run hC ?_
  conv => whnf
  rw [← hB]
  exact ⟨rfl, rfl⟩
theorem m_M_area (l : Launch) (hl : l.stackTraces = false) : e_Met l y_M_area b_M_area 3 (some .int) 1 C_M_area :=
  e_met hl F_M C_M S_M_area k_M_area (by decide +kernel) f_M c_M s_M_area o_M_area (fun a _ => ⟨Nat.le_of_ble_eq_true rfl, rfl⟩) (fun a hp => ⟨_, rfl, Or.inr ⟨.int, _, rfl, rfl, rfl⟩, fun J hC => v_M_area a.1 a.2.1 a.2.2 J _ rfl hC⟩)
