/-! the walker: a list -/
/-- what walkList leaves: count, how it is broken, where; the places -/
def zS (u : St) (c b ad : Int32) (pls : Nat → Int32) : St := uS (uS (uS (uS (uA u 7 pls) 8 1) 9 c) 10 b) 11 ad
theorem z9 (u : St) (c b ad y : Int32) (pls : Nat → Int32) : uS (zS u c b ad pls) 9 y = zS u y b ad pls := by
  unfold zS
  rw [uS_comm _ 11 9 _ _ rfl, uS_comm _ 10 9 _ _ rfl, uS_uS]
theorem z10 (u : St) (c b ad y : Int32) (pls : Nat → Int32) : uS (zS u c b ad pls) 10 y = zS u c y ad pls := by
  unfold zS
  rw [uS_comm _ 11 10 _ _ rfl, uS_uS]
theorem z11 (u : St) (c b ad y : Int32) (pls : Nat → Int32) : uS (zS u c b ad pls) 11 y = zS u c b y pls := by
  unfold zS
  rw [uS_uS]
theorem zA (u : St) (c b ad : Int32) (pls f : Nat → Int32) : uA (zS u c b ad pls) 7 f = zS u c b ad f := by
  show uS (uS (uS (uS (uA (uA u 7 pls) 7 f) 8 1) 9 c) 10 b) 11 ad = _
  rw [uA_uA]
  rfl
/-- goes along a list: n links at most, k behind, from the slot s: how many, how it is broken, where; the places -/
def wk (w pr : Nat → Int32) (t : Int32) : Nat → Nat → Nat → (Nat → Int32) → Nat × Nat × Int32 × (Nat → Int32)
  | 0, k, _, pls => (k, 0, -1, pls)
  | n + 1, k, s, pls => if w s = 0 then (k, 0, -1, pls) else if brk w pr pls k (w s) t = 0 then wk w pr t n (k + 1) (na (w s) + 1) (upd pls k (w s)) else (k, brk w pr pls k (w s) t, nI s, pls)
def wkl (u : St) (l : Nat) : Nat × Nat × Int32 × (Nat → Int32) := wk (u.2.1 5) (u.2.1 6) (tg l) 57 0 l (u.2.1 7)
theorem brk_le (w pr pls : Nat → Int32) (c : Nat) (x t : Int32) : brk w pr pls c x t ≤ 4 := by
  unfold brk
  split
  · decide
  · split
    · decide
    · split
      · split <;> decide
      · decide
theorem brk_0 {w pr pls : Nat → Int32} {c : Nat} {x t : Int32} (h : brk w pr pls c x t = 0) : pl x = true := by
  unfold brk at h
  cases hp : pl x with
  | true => rfl
  | false =>
    rw [hp, if_pos rfl] at h
    cases h
def C_Z_walkList : e_C := ⟨St × Nat, 2, fun _ => 0, fun a => a.2 < 6, fun a => [.ref 10, .int (nI a.2)], fun a => Hp a.1, fun _ => .inl none, fun a => Hp (zS a.1 (nI (wkl a.1 a.2).1) (nI (wkl a.1 a.2).2.1) (wkl a.1 a.2).2.2.1 (wkl a.1 a.2).2.2.2)⟩
def S_Z_walkList : List (Nat × e_C) := [(21, C_Z_tagOf), (59, C_Z_breakOf)]
theorem s_Z_walkList : ∀ x ∈ S_Z_walkList, e_Site b_Z_walkList "DumpDesk$Walker" 2 x.1 x.2 := List.forall_mem_cons.mpr ⟨e_siteS (y := y_Z_tagOf) (i := 39) m_Z_tagOf (by decide) (by decide) (fun _ => rfl) (e_in3 89 rfl rfl) (e_in3 90 rfl rfl) (e_in1 5 rfl rfl) (e_in3 91 rfl rfl) ⟨by decide, by decide, rfl⟩ (by decide +kernel), List.forall_mem_cons.mpr ⟨e_siteV (y := y_Z_breakOf) (i := 43) (ci := 5) m_Z_breakOf (by decide) (by decide) (fun _ => rfl) rfl (fun a _ => ⟨_, _, _, rfl, by decide, rfl⟩) rfl (e_in3 92 rfl rfl) (e_in3 93 rfl rfl) (e_in1 5 rfl rfl) (e_in3 95 rfl rfl) (e_in3 94 rfl rfl) ⟨by decide, by decide, rfl⟩ (by decide +kernel), fun x hx => (by cases hx)⟩⟩
theorem v_Z_walkList (u : St) (l : Nat) (hp : l < 6) (J : e_Jt) (B : Nat × Nat × Int32 × (Nat → Int32)) (hB : wkl u l = B) (hC : e_P0 F_Z S_Z_walkList k_Z_walkList none (Hp (zS u (nI B.1) (nI B.2.1) B.2.2.1 B.2.2.2)) J) : J 0 0 [(0, .ref 10), (1, .int (nI l))] [] (Hp u) := by
  have out : ∀ k s pls, B = (k, 0, -1, pls) → J 0 106 [(0, .ref 10), (1, .int (nI l)), (2, .int (tg l)), (3, .int (nI s)), (4, .int (nI k))] [] (Hp (zS u (nI k) (nI 0) (-1) pls)) := by
    intro k s pls h1
    refine e_run hC ?_
    conv => whnf
    rw [h1]
    exact ⟨rfl, rfl⟩
  have loop : ∀ n k s pls, k + n = 57 → s < 256 → wk (u.2.1 5) (u.2.1 6) (tg l) n k s pls = B → J 0 30 [(0, .ref 10), (1, .int (nI l)), (2, .int (tg l)), (3, .int (nI s)), (4, .int (nI k))] [] (Hp (zS u (nI k) (nI 0) (-1) pls)) := by
    intro n
    induction n with
    | zero =>
      intro k s pls h1 h2 h3
      refine e_run hC ?_
      conv => whnf
      exact ⟨fun _ => out k s pls h3.symm, fun h4 => absurd (nI_lt (a := 56) (by omega) (by omega)) h4⟩
    | succ n ih =>
      intro k s pls h1 h2 h3
      have h3 : (if u.2.1 5 s = 0 then (k, 0, -1, pls) else if brk (u.2.1 5) (u.2.1 6) pls k (u.2.1 5 s) (tg l) = 0 then wk (u.2.1 5) (u.2.1 6) (tg l) n (k + 1) (na (u.2.1 5 s) + 1) (upd pls k (u.2.1 5 s)) else (k, brk (u.2.1 5) (u.2.1 6) pls k (u.2.1 5 s) (tg l), nI s, pls)) = B := h3
      refine e_run hC ?_
      conv => whnf
      refine ⟨fun h4 => absurd h4 (nI_nlt (a := 56) (by omega) (by decide)), fun _ => ?_⟩
      refine e_run hC ?_
      conv => whnf
      refine ⟨vp_in_nI (by omega) (by decide), ?_⟩
      rw [nI_clamp (by omega)]
      refine e_run hC ?_
      conv => whnf
      refine ⟨fun h4 => ?_, fun h4 => ?_⟩
      · have h4 : u.2.1 5 s = 0 := h4
        rw [if_pos h4] at h3
        exact out k s pls h3.symm
      have h4 : ¬ u.2.1 5 s = 0 := h4
      rw [if_neg h4] at h3
      refine e_run hC ?_
      conv => whnf
      refine ⟨vp_in_nI (by omega) (by decide), ?_⟩
      rw [nI_clamp (by omega)]
      refine e_run hC ?_
      conv => whnf
      refine ⟨(zS u (nI k) (nI 0) (-1) pls, u.2.1 5 s, tg l, k), ⟨by show k ≤ 57; omega, rfl⟩, rfl, rfl, ?_⟩
      conv => whnf
      dsimp only [C_Z_breakOf]
      rw [show (zS u (nI k) (nI 0) (-1) pls).2.1 5 = u.2.1 5 from rfl, show (zS u (nI k) (nI 0) (-1) pls).2.1 6 = u.2.1 6 from rfl, show (zS u (nI k) (nI 0) (-1) pls).2.1 7 = pls from rfl]
      have hb := brk_le (u.2.1 5) (u.2.1 6) pls k (u.2.1 5 s) (tg l)
      have hb0 := @brk_0 (u.2.1 5) (u.2.1 6) pls k (u.2.1 5 s) (tg l)
      generalize brk (u.2.1 5) (u.2.1 6) pls k (u.2.1 5 s) (tg l) = bk at h3 hb hb0 ⊢
      refine e_run hC ?_
      conv => whnf
      rw [h_s10, z10]
      refine e_run hC ?_
      conv => whnf
      refine ⟨fun h5 => ?_, fun h5 => ?_⟩
      · have h5 : bk = 0 := (nI_eq (b := 0) (by omega) (by decide)).mp h5
        subst h5
        rw [if_pos rfl] at h3
        obtain ⟨g1, g2, g3, g4⟩ := pl_na (hb0 rfl)
        refine e_run hC ?_
        conv => whnf
        refine ⟨vp_in_nI (by omega) (by decide), ?_⟩
        rw [nI_clamp (by omega), h_a7, zA]
        refine e_run hC ?_
        conv => whnf
        rw [h_s9, z9]
        refine e_run hC ?_
        conv => whnf
        have e1 : u.2.1 5 s + 1 = nI (na (u.2.1 5 s) + 1) := by
          conv => lhs; rw [g1]
          rw [nI_1]
        refine e_weak hC [0, 1, 2, 3, 4] rfl rfl ?_
        rw [e1, nI_1]
        exact ih (k + 1) (na (u.2.1 5 s) + 1) _ (by omega) (by omega) h3
      · have h5 : ¬ bk = 0 := fun z => h5 (by rw [z]; rfl)
        rw [if_neg h5] at h3
        refine e_run hC ?_
        conv => whnf
        rw [h_s11, z11]
        refine e_run hC ?_
        conv => whnf
        rw [← h3]
        exact ⟨rfl, rfl⟩
  refine e_run hC ?_
  conv => whnf
  refine ⟨⟨rfl, rfl⟩, ?_⟩
  conv => whnf
  rw [h_s8]
  refine e_run hC ?_
  conv => whnf
  rw [h_s9]
  refine e_run hC ?_
  conv => whnf
  rw [h_s10]
  refine e_run hC ?_
  conv => whnf
  rw [h_s11]
  refine e_run hC ?_
  conv => whnf
  refine ⟨(Hp (uS (uS (uS (uS u 8 1) 9 0) 10 0) 11 (-1)), l), hp, rfl, rfl, ?_⟩
  conv => whnf
  dsimp only [C_Z_tagOf]
  refine e_runTo 30 hC ?_
  conv => whnf
  have h0 := loop 57 0 l (u.2.1 7) rfl (by omega) hB
  have e0 : zS u (nI 0) (nI 0) (-1) (u.2.1 7) = uS (uS (uS (uS u 8 1) 9 0) 10 0) 11 (-1) := by
    unfold zS
    rw [uA_self]
    rfl
  rw [e0] at h0
  exact h0
theorem m_Z_walkList (l : Launch) (hl : l.stackTraces = false) : e_Met l y_Z_walkList b_Z_walkList 6 none 2 C_Z_walkList :=
  e_met hl F_Z C_Z S_Z_walkList k_Z_walkList (by decide +kernel) f_Z c_Z s_Z_walkList o_Z_walkList (fun a _ => ⟨Nat.le_of_ble_eq_true rfl, rfl⟩) (fun a hp => ⟨_, rfl, Or.inl ⟨rfl, rfl⟩, fun J hC => v_Z_walkList a.1 a.2 hp J _ rfl hC⟩)
