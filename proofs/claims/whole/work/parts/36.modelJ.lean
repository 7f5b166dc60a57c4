/-! the reference: word, breaks, walk, broken, node -/
def mWD (u : St) (a : Int32) : Int32 × St := cond (inn a 0 255) (if u.2.1 28 (na a / 16) = 0 then (0, uS u 20 1) else (u.2.1 27 (na a), uS u 20 0)) (0, uS u 20 2)
def C_M_word : e_C := ⟨St × Int32, 2, fun _ => 0, fun _ => True, fun a => [.ref 15, .int a.2], fun a => Hp a.1, fun a => .inl (some (.int (mWD a.1 a.2).1)), fun a => Hp (mWD a.1 a.2).2⟩
def S_M_word : List (Nat × e_C) := [(6, C_M_in)]
theorem s_M_word : ∀ x ∈ S_M_word, e_Site b_M_word "DumpDeskModel" 1 x.1 x.2 := List.forall_mem_cons.mpr ⟨e_siteS (y := y_M_in) (i := 89) m_M_in (by decide) (by decide) (fun _ => rfl) (e_in3 232 rfl rfl) (e_in3 233 rfl rfl) (e_in1 8 rfl rfl) (e_in3 234 rfl rfl) ⟨by decide, by decide, rfl⟩ (by decide +kernel), fun x hx => (by cases hx)⟩
theorem v_M_word (u : St) (a : Int32) (J : e_Jt) (B : Int32 × St) (hB : mWD u a = B) (hC : e_P0 F_M S_M_word k_M_word (some (.int B.1)) (Hp B.2) J) : J 0 0 [(0, .ref 15), (1, .int a)] [] (Hp u) := by
  unfold mWD at hB
  have neg : ∀ x : Int32, ¬ x ≤ 0 → B = (0, uS u 20 x) → J 0 33 [(0, .ref 15), (1, .int a)] [.int x, .ref 15] (Hp u) := by
    intro x hx h1
    refine e_run hC ?_
    conv => whnf
    rw [h_s20]
    refine e_run hC ?_
    conv => whnf
    refine ⟨fun h => absurd h hx, fun _ => ?_⟩
    refine e_run hC ?_
    conv => whnf
    refine e_run hC ?_
    conv => whnf
    rw [h1]
    exact ⟨rfl, rfl⟩
  refine e_run hC ?_
  conv => whnf
  refine ⟨(Hp u, a, 0, 255), trivial, rfl, rfl, ?_⟩
  conv => whnf
  dsimp only [C_M_in]
  refine e_run hC ?_
  conv => whnf
  refine ⟨fun h1 => ?_, fun h1 => ?_⟩
  · have h1 := bi1 h1
    rw [h1, cond_true] at hB
    obtain ⟨w1, w2⟩ := inn_of (n := 255) (by decide) h1
    generalize na a = p at w1 w2 hB
    subst w1
    refine e_run hC ?_
    conv => whnf
    refine ⟨by decide, ?_⟩
    rw [show (16 : Int32) = nI 16 from rfl, pk_div (by omega) (by decide) (by decide)]
    refine e_run hC ?_
    conv => whnf
    refine ⟨vp_in_nI (by omega) (by decide), ?_⟩
    rw [nI_clamp (by omega)]
    refine e_run hC ?_
    conv => whnf
    refine ⟨fun h2 => ?_, fun h2 => ?_⟩
    · rw [if_pos h2] at hB
      refine e_runTo 33 hC ?_
      conv => whnf
      exact neg 1 (by decide) hB.symm
    · rw [if_neg h2] at hB
      refine e_run hC ?_
      conv => whnf
      refine e_run hC ?_
      conv => whnf
      rw [h_s20]
      refine e_run hC ?_
      conv => whnf
      refine ⟨fun _ => ?_, fun h => absurd (by decide : (0 : Int32) ≤ 0) h⟩
      refine e_run hC ?_
      conv => whnf
      refine ⟨vp_in_nI (by omega) (by decide), ?_⟩
      rw [nI_clamp (by omega)]
      refine e_run hC ?_
      conv => whnf
      rw [← hB]
      exact ⟨rfl, rfl⟩
  · rw [bi0.mp h1] at hB
    refine e_runTo 33 hC ?_
    conv => whnf
    exact neg 2 (by decide) hB.symm
theorem m_M_word (l : Launch) (hl : l.stackTraces = false) : e_Met l y_M_word b_M_word 2 (some .int) 1 C_M_word :=
  e_met hl F_M C_M S_M_word k_M_word (by decide +kernel) f_M c_M s_M_word o_M_word (fun a _ => ⟨Nat.le_of_ble_eq_true rfl, rfl⟩) (fun a hp => ⟨_, rfl, Or.inr ⟨.int, _, rfl, rfl, rfl⟩, fun J hC => v_M_word a.1 a.2 J _ rfl hC⟩)
theorem pl_inn (x : Int32) : pl x = (inn x 16 236 && decide (x - x / 4 * 4 = 0)) := by
  unfold pl inn
  rw [Bool.and_assoc]
def C_M_breaks : e_C := ⟨St × Int32 × Int32 × Nat, 3, fun _ => 0, fun a => a.2.2.2 ≤ 57 ∧ a.1.1 28 = nI a.2.2.2, fun a => [.ref 15, .int a.2.1, .int a.2.2.1], fun a => Hp a.1, fun a => .inl (some (.int (nI (brk (a.1.2.1 27) (a.1.2.1 28) (a.1.2.1 30) a.2.2.2 a.2.1 a.2.2.1)))), fun a => Hp a.1⟩
def S_M_breaks : List (Nat × e_C) := [(6, C_M_in)]
theorem s_M_breaks : ∀ x ∈ S_M_breaks, e_Site b_M_breaks "DumpDeskModel" 1 x.1 x.2 := List.forall_mem_cons.mpr ⟨e_siteS (y := y_M_in) (i := 89) m_M_in (by decide) (by decide) (fun _ => rfl) (e_in3 232 rfl rfl) (e_in3 233 rfl rfl) (e_in1 8 rfl rfl) (e_in3 234 rfl rfl) ⟨by decide, by decide, rfl⟩ (by decide +kernel), fun x hx => (by cases hx)⟩
theorem v_M_breaks (u : St) (x t : Int32) (c : Nat) (hp : c ≤ 57 ∧ u.1 28 = nI c) (J : e_Jt) (B : Nat) (hB : brk (u.2.1 27) (u.2.1 28) (u.2.1 30) c x t = B) (hC : e_P0 F_M S_M_breaks k_M_breaks (some (.int (nI B))) (Hp u) J) : J 0 0 [(0, .ref 15), (1, .int x), (2, .int t)] [] (Hp u) := by
  obtain ⟨p1, p2⟩ := hp
  unfold brk at hB
  have one : pl x = false → J 0 18 [(0, .ref 15), (1, .int x), (2, .int t)] [] (Hp u) := by
    intro h
    rw [if_pos h] at hB
    refine e_run hC ?_
    conv => whnf
    rw [← hB]
    exact ⟨rfl, rfl⟩
  refine e_run hC ?_
  conv => whnf
  refine ⟨(Hp u, x, 16, 236), trivial, rfl, rfl, ?_⟩
  conv => whnf
  dsimp only [C_M_in]
  refine e_run hC ?_
  conv => whnf
  refine ⟨fun h1 => one (by rw [pl_inn, bi0.mp h1, Bool.false_and]), fun h1 => ?_⟩
  have h1 := bi1 h1
  refine e_run hC ?_
  conv => whnf
  refine ⟨by decide, ?_⟩
  refine e_run hC ?_
  conv => whnf
  refine ⟨fun h2 => ?_, fun h2 => one (by rw [pl_inn, decide_eq_false h2, Bool.and_false])⟩
  have hpl : pl x = true := by rw [pl_inn, h1, decide_eq_true h2]; rfl
  rw [if_neg (by rw [hpl]; decide)] at hB
  obtain ⟨g1, g2, g3, g4⟩ := pl_na hpl
  generalize na x = p at g1 g2 g3 g4 hB
  subst g1
  refine e_run hC ?_
  conv => whnf
  refine ⟨by decide, ?_⟩
  rw [show (16 : Int32) = nI 16 from rfl, pk_div (by omega) (by decide) (by decide)]
  refine e_run hC ?_
  conv => whnf
  refine ⟨vp_in_nI (by omega) (by decide), ?_⟩
  rw [nI_clamp (by omega)]
  refine e_run hC ?_
  conv => whnf
  refine ⟨fun h3 => ?_, fun h3 => ?_⟩
  · rw [if_neg h3] at hB
    refine e_run hC ?_
    conv => whnf
    refine ⟨vp_in_nI (by omega) (by decide), ?_⟩
    rw [nI_clamp (by omega)]
    refine e_run hC ?_
    conv => whnf
    refine ⟨fun h4 => ?_, fun h4 => ?_⟩
    · rw [if_pos h4] at hB
      have loop : ∀ n k, k + n = c → (if was (u.2.1 30) (nI p) n k = true then 4 else 0) = B → J 0 48 [(0, .ref 15), (1, .int (nI p)), (2, .int t), (3, .int (nI k))] [] (Hp u) := by
        intro n
        induction n with
        | zero =>
          intro k k1 k2
          refine e_run hC ?_
          conv => whnf
          rw [p2]
          refine ⟨fun _ => ?_, fun h5 => absurd (nI_le (by omega) (by omega)) h5⟩
          refine e_run hC ?_
          conv => whnf
          rw [← k2]
          exact ⟨rfl, rfl⟩
        | succ n ih =>
          intro k k1 k2
          have k2 : (if (if u.2.1 30 k = nI p then true else was (u.2.1 30) (nI p) n (k + 1)) = true then 4 else 0) = B := k2
          refine e_run hC ?_
          conv => whnf
          rw [p2]
          refine ⟨fun h5 => absurd h5 (nI_ge (by omega) (by omega)), fun _ => ?_⟩
          refine e_run hC ?_
          conv => whnf
          refine ⟨vp_in_nI (by omega) (by decide), ?_⟩
          rw [nI_clamp (by omega)]
          refine e_run hC ?_
          conv => whnf
          refine ⟨fun h5 => ?_, fun h5 => ?_⟩
          · rw [if_neg h5] at k2
            refine e_run hC ?_
            conv => whnf
            rw [nI_1]
            exact ih (k + 1) (by omega) k2
          · rw [if_pos h5] at k2
            refine e_run hC ?_
            conv => whnf
            rw [← k2]
            exact ⟨rfl, rfl⟩
      refine e_runTo 48 hC ?_
      conv => whnf
      exact loop c 0 (by omega) hB
    · rw [if_neg h4] at hB
      refine e_run hC ?_
      conv => whnf
      rw [← hB]
      exact ⟨rfl, rfl⟩
  · rw [if_pos h3] at hB
    refine e_run hC ?_
    conv => whnf
    rw [← hB]
    exact ⟨rfl, rfl⟩
theorem m_M_breaks (l : Launch) (hl : l.stackTraces = false) : e_Met l y_M_breaks b_M_breaks 4 (some .int) 1 C_M_breaks :=
  e_met hl F_M C_M S_M_breaks k_M_breaks (by decide +kernel) f_M c_M s_M_breaks o_M_breaks (fun a _ => ⟨Nat.le_of_ble_eq_true rfl, rfl⟩) (fun a hp => ⟨_, rfl, Or.inr ⟨.int, _, rfl, rfl, rfl⟩, fun J hC => v_M_breaks a.1 a.2.1 a.2.2.1 a.2.2.2 hp J _ rfl hC⟩)
/-- no more than n numbers below n -/
theorem pig : ∀ (n : Nat) (L : List Nat), L.Nodup → (∀ a ∈ L, a < n) → L.length ≤ n := by
  intro n
  induction n with
  | zero =>
    intro L _ h
    cases L with
    | nil => exact Nat.le_refl _
    | cons a L => exact absurd (h a List.mem_cons_self) (Nat.not_lt_zero _)
  | succ n ih =>
    intro L hd h
    by_cases hm : n ∈ L
    · have h1 := ih (L.erase n) (hd.erase n) (fun a ha => by
        have h2 := (hd.mem_erase_iff).mp ha
        have := h a h2.2
        have := h2.1
        omega)
      rw [List.length_erase_of_mem hm] at h1
      omega
    · have := ih L hd (fun a ha => by
        have h1 := h a ha
        have h2 : a ≠ n := fun z => hm (by rw [← z]; exact ha)
        omega)
      omega
/-- the places walked, as a list -/
def wL (f : Nat → Int32) : Nat → List Nat
  | 0 => []
  | c + 1 => na (f c) :: wL f c
theorem wL_congr {f g : Nat → Int32} : ∀ c, (∀ j, j < c → f j = g j) → wL f c = wL g c := by
  intro c
  induction c with
  | zero => intro _; rfl
  | succ c ih =>
    intro h
    show na (f c) :: wL f c = na (g c) :: wL g c
    rw [h c (Nat.lt_succ_self _), ih (fun j hj => h j (Nat.lt_succ_of_lt hj))]
theorem wL_mem {f : Nat → Int32} : ∀ c a, a ∈ wL f c → ∃ j, j < c ∧ na (f j) = a := by
  intro c
  induction c with
  | zero => intro a h; cases h
  | succ c ih =>
    intro a h
    have h : a ∈ na (f c) :: wL f c := h
    rcases List.mem_cons.mp h with h | h
    · exact ⟨c, Nat.lt_succ_self _, h.symm⟩
    · obtain ⟨j, h1, h2⟩ := ih a h
      exact ⟨j, Nat.lt_succ_of_lt h1, h2⟩
theorem wL_len (f : Nat → Int32) : ∀ c, (wL f c).length = c := by
  intro c
  induction c with
  | zero => rfl
  | succ c ih =>
    show (wL f c).length + 1 = c + 1
    rw [ih]
theorem was_no {f : Nat → Int32} {x : Int32} : ∀ n k, was f x n k = false → ∀ j, k ≤ j → j < k + n → f j ≠ x := by
  intro n
  induction n with
  | zero => intro k _ j h1 h2; omega
  | succ n ih =>
    intro k h j h1 h2
    have h : (if f k = x then true else was f x n (k + 1)) = false := h
    split at h
    · cases h
    next h3 =>
      by_cases hj : j = k
      · rw [hj]; exact h3
      · exact ih (k + 1) h j (by omega) (by omega)
theorem brk_was {w pr pls : Nat → Int32} {c : Nat} {x t : Int32} (h : brk w pr pls c x t = 0) : was pls x c 0 = false := by
  unfold brk at h
  split at h
  · cases h
  · split at h
    · cases h
    · split at h
      · split at h
        · cases h
        next h1 => exact Bool.eq_false_iff.mpr h1
      · cases h
/-- places that were walked are different ones -/
def wD (f : Nat → Int32) (c : Nat) : Prop := (wL f c).Nodup ∧ ∀ j, j < c → pl (f j) = true
theorem wD_le {f : Nat → Int32} {c : Nat} (h : wD f c) : c ≤ 56 := by
  have h1 := pig 56 ((wL f c).map (fun a => (a - 16) / 4)) ?_ ?_
  · rw [List.length_map, wL_len] at h1
    exact h1
  · refine List.pairwise_map.mpr (List.Pairwise.imp_of_mem ?_ h.1)
    intro a b ha hb hab he
    obtain ⟨i, i1, i2⟩ := wL_mem c a ha
    obtain ⟨j, j1, j2⟩ := wL_mem c b hb
    obtain ⟨-, a1, a2, a3⟩ := pl_na (h.2 i i1)
    obtain ⟨-, b1, b2, b3⟩ := pl_na (h.2 j j1)
    rw [i2] at a1 a2 a3
    rw [j2] at b1 b2 b3
    omega
  · intro a ha
    obtain ⟨b, hb, rfl⟩ := List.mem_map.mp ha
    obtain ⟨i, i1, i2⟩ := wL_mem c b hb
    obtain ⟨-, a1, a2, a3⟩ := pl_na (h.2 i i1)
    rw [i2] at a1 a2 a3
    show (b - 16) / 4 < 56
    omega
theorem wD_add {w pr pls : Nat → Int32} {c : Nat} {x t : Int32} (h : wD pls c) (hb : brk w pr pls c x t = 0) : wD (upd pls c x) (c + 1) := by
  have h1 := was_no c 0 (brk_was hb)
  have h2 := brk_0 hb
  have e1 : wL (upd pls c x) c = wL pls c := wL_congr c (fun j hj => pk_un (by omega))
  refine ⟨?_, ?_⟩
  · show (na (upd pls c x c) :: wL (upd pls c x) c).Nodup
    rw [pk_us, e1]
    refine List.nodup_cons.mpr ⟨fun hm => ?_, h.1⟩
    obtain ⟨j, j1, j2⟩ := wL_mem c _ hm
    refine h1 j (Nat.zero_le _) (by omega) ?_
    rw [(pl_na (h.2 j j1)).1, j2, ← (pl_na h2).1]
  · intro j hj
    by_cases hjc : j = c
    · rw [hjc, pk_us]
      exact h2
    · rw [pk_un hjc]
      exact h.2 j (by omega)
/-- what walk leaves: nodes, why, where; the places -/
def yS (u : St) (c b ad : Int32) (pls : Nat → Int32) : St := uS (uS (uS (uS (uA u 30 pls) 27 1) 28 c) 29 b) 30 ad
theorem y28 (u : St) (c b ad y : Int32) (pls : Nat → Int32) : uS (yS u c b ad pls) 28 y = yS u y b ad pls := by
  unfold yS
  rw [uS_comm _ 30 28 _ _ rfl, uS_comm _ 29 28 _ _ rfl, uS_uS]
theorem y29 (u : St) (c b ad y : Int32) (pls : Nat → Int32) : uS (yS u c b ad pls) 29 y = yS u c y ad pls := by
  unfold yS
  rw [uS_comm _ 30 29 _ _ rfl, uS_uS]
theorem y30 (u : St) (c b ad y : Int32) (pls : Nat → Int32) : uS (yS u c b ad pls) 30 y = yS u c b y pls := by
  unfold yS
  rw [uS_uS]
theorem yA (u : St) (c b ad : Int32) (pls f : Nat → Int32) : uA (yS u c b ad pls) 30 f = yS u c b ad f := by
  show uS (uS (uS (uS (uA (uA u 30 pls) 30 f) 27 1) 28 c) 29 b) 30 ad = _
  rw [uA_uA]
  rfl
def mwk (u : St) (l : Nat) : Nat × Nat × Int32 × (Nat → Int32) := wk (u.2.1 27) (u.2.1 28) (tg l) 57 0 l (u.2.1 30)
def mWA (u : St) (l : Int32) : Int32 × St :=
  cond (inn l 0 5) (if u.1 26 = 0 ∨ u.2.1 28 0 = 0 then (0, uS u 20 2) else (nI (mwk u (na l)).1, yS (uS u 20 0) (nI (mwk u (na l)).1) (nI (mwk u (na l)).2.1) (mwk u (na l)).2.2.1 (mwk u (na l)).2.2.2)) (0, uS u 20 1)
def C_M_walk : e_C := ⟨St × Int32, 2, fun _ => 0, fun _ => True, fun a => [.ref 15, .int a.2], fun a => Hp a.1, fun a => .inl (some (.int (mWA a.1 a.2).1)), fun a => Hp (mWA a.1 a.2).2⟩
def S_M_walk : List (Nat × e_C) := [(4, C_M_in), (119, C_M_breaks)]
theorem s_M_walk : ∀ x ∈ S_M_walk, e_Site b_M_walk "DumpDeskModel" 2 x.1 x.2 := List.forall_mem_cons.mpr ⟨e_siteS (y := y_M_in) (i := 89) m_M_in (by decide) (by decide) (fun _ => rfl) (e_in3 232 rfl rfl) (e_in3 233 rfl rfl) (e_in1 8 rfl rfl) (e_in3 234 rfl rfl) ⟨by decide, by decide, rfl⟩ (by decide +kernel), List.forall_mem_cons.mpr ⟨e_siteV (y := y_M_breaks) (i := 157) (ci := 6) m_M_breaks (by decide) (by decide) (fun _ => rfl) rfl (fun a _ => ⟨_, _, _, rfl, by decide, rfl⟩) rfl (e_in4 100 rfl rfl) (e_in4 102 rfl rfl) (e_in1 8 rfl rfl) (e_in4 103 rfl rfl) (e_inP 22 rfl rfl) ⟨by decide, by decide, rfl⟩ (by decide +kernel), fun x hx => (by cases hx)⟩⟩
theorem v_M_walk (u : St) (l : Int32) (J : e_Jt) (B : Int32 × St) (hB : mWA u l = B) (hC : e_P0 F_M S_M_walk k_M_walk (some (.int B.1)) (Hp B.2) J) : J 0 0 [(0, .ref 15), (1, .int l)] [] (Hp u) := by
  unfold mWA at hB
  have neg : ∀ x : Int32, ¬ x ≤ 0 → B = (0, uS u 20 x) → J 0 35 [(0, .ref 15), (1, .int l)] [.int x, .ref 15] (Hp u) := by
    intro x hx h1
    refine e_run hC ?_
    conv => whnf
    rw [h_s20]
    refine e_run hC ?_
    conv => whnf
    refine ⟨fun h => absurd h hx, fun _ => ?_⟩
    refine e_run hC ?_
    conv => whnf
    rw [h1]
    exact ⟨rfl, rfl⟩
  have neg2 : B = (0, uS u 20 2) → J 0 34 [(0, .ref 15), (1, .int l)] [.ref 15] (Hp u) := by
    intro h1
    refine e_runTo 35 hC ?_
    conv => whnf
    exact neg 2 (by decide) h1
  refine e_run hC ?_
  conv => whnf
  refine ⟨(Hp u, l, 0, 5), trivial, rfl, rfl, ?_⟩
  conv => whnf
  dsimp only [C_M_in]
  refine e_run hC ?_
  conv => whnf
  refine ⟨fun h1 => ?_, fun h1 => ?_⟩
  · have h1 := bi1 h1
    rw [h1, cond_true] at hB
    obtain ⟨w1, w2⟩ := inn_of (n := 5) (by decide) h1
    generalize na l = p at w1 w2 hB
    subst w1
    refine e_run hC ?_
    conv => whnf
    refine ⟨fun h2 => neg2 (by rw [if_pos (Or.inl h2)] at hB; exact hB.symm), fun h2 => ?_⟩
    refine e_run hC ?_
    conv => whnf
    refine ⟨vp_in_nI (n := 0) (by decide) (by decide), ?_⟩
    rw [show (0 : Int32).toNatClampNeg = 0 from rfl]
    refine e_run hC ?_
    conv => whnf
    refine ⟨fun h3 => neg2 (by rw [if_pos (Or.inr h3)] at hB; exact hB.symm), fun h3 => ?_⟩
    rw [if_neg (fun z => z.elim h2 h3)] at hB
    unfold mwk at hB
    generalize hW : wk (u.2.1 27) (u.2.1 28) (tg p) 57 0 p (u.2.1 30) = W at hB
    obtain ⟨v, hv⟩ : ∃ v, v = uS u 20 0 := ⟨_, rfl⟩
    rw [← hv] at hB
    have hv27 : v.2.1 27 = u.2.1 27 := by rw [hv]; rfl
    have hv28 : v.2.1 28 = u.2.1 28 := by rw [hv]; rfl
    have out : ∀ lv c b ad pls, W = (c, b, ad, pls) → lv_pick lv [0] = [(0, .ref 15)] → J 0 175 lv [] (Hp (yS v (nI c) (nI b) ad pls)) := by
      intro lv c b ad pls k1 k2
      refine e_weak hC [0] k2 rfl ?_
      refine e_run hC ?_
      conv => whnf
      rw [← hB, k1]
      exact ⟨rfl, rfl⟩
    have loop : ∀ n c s pls, c + n = 57 → s < 256 → wD pls c → wk (u.2.1 27) (u.2.1 28) (tg p) n c s pls = W → J 0 69 [(0, .ref 15), (1, .int (nI p)), (2, .int (nI s))] [] (Hp (yS v (nI c) (nI 0) (-1) pls)) := by
      intro n
      induction n with
      | zero =>
        intro c s pls k1 k2 k3 k4
        have := wD_le k3
        omega
      | succ n ih =>
        intro c s pls k1 k2 k3 k4
        have k4 : (if u.2.1 27 s = 0 then (c, 0, -1, pls) else if brk (u.2.1 27) (u.2.1 28) pls c (u.2.1 27 s) (tg p) = 0 then wk (u.2.1 27) (u.2.1 28) (tg p) n (c + 1) (na (u.2.1 27 s) + 1) (upd pls c (u.2.1 27 s)) else (c, brk (u.2.1 27) (u.2.1 28) pls c (u.2.1 27 s) (tg p), nI s, pls)) = W := k4
        have es : ∀ a b d q, (yS v a b d q).2.1 27 = u.2.1 27 := fun _ _ _ _ => hv27
        refine e_run hC ?_
        conv => whnf
        refine ⟨fun h => absurd rfl h, fun _ => ?_⟩
        refine e_run hC ?_
        conv => whnf
        refine ⟨vp_in_nI (by omega) (by decide), ?_⟩
        rw [nI_clamp (by omega), es]
        refine e_run hC ?_
        conv => whnf
        refine ⟨fun h4 => ?_, fun h4 => ?_⟩
        · rw [if_pos h4] at k4
          exact out _ c 0 (-1) pls k4.symm rfl
        rw [if_neg h4] at k4
        refine e_run hC ?_
        conv => whnf
        refine ⟨vp_in_nI (by omega) (by decide), ?_⟩
        rw [nI_clamp (by omega), es]
        have go : ∀ t : Int32, t = tg p → J 0 119 [(0, .ref 15), (1, .int (nI p)), (2, .int (nI s)), (3, .int (u.2.1 27 s))] [.int t, .int (u.2.1 27 s), .ref 15, .ref 15] (Hp (yS v (nI c) (nI 0) (-1) pls)) := by
          intro t ht
          subst ht
          refine e_run hC ?_
          conv => whnf
          refine ⟨(yS v (nI c) (nI 0) (-1) pls, u.2.1 27 s, tg p, c), ⟨by show c ≤ 57; omega, rfl⟩, rfl, rfl, ?_⟩
          conv => whnf
          dsimp only [C_M_breaks]
          rw [es, show (yS v (nI c) (nI 0) (-1) pls).2.1 28 = u.2.1 28 from hv28, show (yS v (nI c) (nI 0) (-1) pls).2.1 30 = pls from rfl]
          have hb := brk_le (u.2.1 27) (u.2.1 28) pls c (u.2.1 27 s) (tg p)
          have hb0 := @brk_0 (u.2.1 27) (u.2.1 28) pls c (u.2.1 27 s) (tg p)
          have hbd := @wD_add (u.2.1 27) (u.2.1 28) pls c (u.2.1 27 s) (tg p) k3
          generalize brk (u.2.1 27) (u.2.1 28) pls c (u.2.1 27 s) (tg p) = bk at k4 hb hb0 hbd ⊢
          refine e_run hC ?_
          conv => whnf
          rw [h_s29, y29]
          refine e_run hC ?_
          conv => whnf
          refine ⟨fun h5 => ?_, fun h5 => ?_⟩
          · have h5 : bk ≤ 0 := (nI_leI (b := 0) (by omega) (by decide)).mp h5
            have h5 : bk = 0 := by omega
            subst h5
            rw [if_pos rfl] at k4
            obtain ⟨g1, g2, g3, g4⟩ := pl_na (hb0 rfl)
            refine e_run hC ?_
            conv => whnf
            rw [h_s30, y30]
            refine e_run hC ?_
            conv => whnf
            refine ⟨fun h => absurd rfl h, fun _ => ?_⟩
            refine e_run hC ?_
            conv => whnf
            rw [show (yS v (nI c) (nI 0) (-1) pls).1 28 = nI c from rfl]
            refine ⟨vp_in_nI (by omega) (by decide), ?_⟩
            rw [nI_clamp (by omega), h_a30, yA]
            refine e_run hC ?_
            conv => whnf
            rw [h_s28, show ∀ q, (yS v (nI c) (nI 0) (-1) q).1 28 = nI c from fun _ => rfl, nI_1, y28]
            refine e_run hC ?_
            conv => whnf
            have e1 : u.2.1 27 s + 1 = nI (na (u.2.1 27 s) + 1) := by
              conv => lhs; rw [g1]
              rw [nI_1]
            refine e_weak hC [0, 1, 2] rfl rfl ?_
            rw [e1]
            exact ih (c + 1) (na (u.2.1 27 s) + 1) _ (by omega) (by omega) (hbd rfl) k4
          · have h5 : ¬ bk = 0 := fun z => h5 (by subst z; exact (by decide : nI 0 ≤ 0))
            rw [if_neg h5] at k4
            refine e_run hC ?_
            conv => whnf
            refine e_run hC ?_
            conv => whnf
            rw [h_s30, y30]
            have hz : ¬ nI bk = 0 := nI_ne0 (by omega) (by omega)
            refine e_run hC ?_
            conv => whnf
            refine ⟨fun _ => ?_, fun h => absurd h hz⟩
            refine e_run hC ?_
            conv => whnf
            refine e_run hC ?_
            conv => whnf
            refine ⟨fun _ => ?_, fun h => absurd h hz⟩
            exact out _ c bk (nI s) pls k4.symm rfl
        refine e_run hC ?_
        conv => whnf
        refine ⟨fun h5 => ?_, fun h5 => ?_⟩
        · have h5 : ¬ p = 0 := fun z => h5 (by rw [z]; rfl)
          refine e_run hC ?_
          conv => whnf
          refine ⟨fun h6 => ?_, fun h6 => ?_⟩
          · have h6 : ¬ p = 1 := fun z => h6 (by rw [z]; rfl)
            refine e_runTo 119 hC ?_
            conv => whnf
            exact go 7003 (by unfold tg; rw [if_neg h5, if_neg h6])
          · have h6 : p = 1 := (nI_eq (b := 1) (by omega) (by decide)).mp h6
            refine e_runTo 119 hC ?_
            conv => whnf
            exact go 7002 (by unfold tg; rw [if_neg h5, if_pos h6])
        · have h5 : p = 0 := (nI_eq (b := 0) (by omega) (by decide)).mp h5
          refine e_runTo 119 hC ?_
          conv => whnf
          exact go 7001 (by unfold tg; rw [if_pos h5])
    refine e_run hC ?_
    conv => whnf
    refine e_run hC ?_
    conv => whnf
    rw [h_s20, ← hv]
    refine e_run hC ?_
    conv => whnf
    have hv20 : v.1 20 = 0 := by rw [hv]; rfl
    refine ⟨fun _ => ?_, fun h => absurd (by rw [hv20]; decide) h⟩
    refine e_run hC ?_
    conv => whnf
    refine ⟨⟨rfl, rfl⟩, ?_⟩
    conv => whnf
    rw [h_s27]
    refine e_run hC ?_
    conv => whnf
    rw [h_s28]
    refine e_run hC ?_
    conv => whnf
    rw [h_s29]
    refine e_run hC ?_
    conv => whnf
    rw [h_s30]
    refine e_runTo 69 hC ?_
    conv => whnf
    have h0 := loop 57 0 p (u.2.1 30) rfl (by omega) ⟨List.nodup_nil, fun j hj => absurd hj (Nat.not_lt_zero _)⟩ hW
    have e0 : yS v (nI 0) (nI 0) (-1) (u.2.1 30) = uS (uS (uS (uS v 27 1) 28 0) 29 0) 30 (-1) := by
      unfold yS
      rw [show u.2.1 30 = v.2.1 30 by rw [hv]; rfl, uA_self]
      rfl
    rw [e0] at h0
    exact h0
  · rw [bi0.mp h1] at hB
    refine e_runTo 35 hC ?_
    conv => whnf
    exact neg 1 (by decide) hB.symm
theorem m_M_walk (l : Launch) (hl : l.stackTraces = false) : e_Met l y_M_walk b_M_walk 4 (some .int) 2 C_M_walk :=
  e_met hl F_M C_M S_M_walk k_M_walk (by decide +kernel) f_M c_M s_M_walk o_M_walk (fun a _ => ⟨Nat.le_of_ble_eq_true rfl, rfl⟩) (fun a hp => ⟨_, rfl, Or.inr ⟨.int, _, rfl, rfl, rfl⟩, fun J hC => v_M_walk a.1 a.2 J _ rfl hC⟩)
def mBR (u : St) (w : Int32) : Int32 × St := cond (inn w 0 1) (if u.1 27 = 0 then (0, uS u 20 2) else (if w = 0 then u.1 29 else u.1 30, uS u 20 0)) (0, uS u 20 1)
def C_M_broken : e_C := ⟨St × Int32, 2, fun _ => 0, fun _ => True, fun a => [.ref 15, .int a.2], fun a => Hp a.1, fun a => .inl (some (.int (mBR a.1 a.2).1)), fun a => Hp (mBR a.1 a.2).2⟩
def S_M_broken : List (Nat × e_C) := [(4, C_M_in)]
theorem s_M_broken : ∀ x ∈ S_M_broken, e_Site b_M_broken "DumpDeskModel" 1 x.1 x.2 := List.forall_mem_cons.mpr ⟨e_siteS (y := y_M_in) (i := 89) m_M_in (by decide) (by decide) (fun _ => rfl) (e_in3 232 rfl rfl) (e_in3 233 rfl rfl) (e_in1 8 rfl rfl) (e_in3 234 rfl rfl) ⟨by decide, by decide, rfl⟩ (by decide +kernel), fun x hx => (by cases hx)⟩
theorem v_M_broken (u : St) (w : Int32) (J : e_Jt) (B : Int32 × St) (hB : mBR u w = B) (hC : e_P0 F_M S_M_broken k_M_broken (some (.int B.1)) (Hp B.2) J) : J 0 0 [(0, .ref 15), (1, .int w)] [] (Hp u) := by
  unfold mBR at hB
  have neg : ∀ x : Int32, ¬ x ≤ 0 → B = (0, uS u 20 x) → J 0 26 [(0, .ref 15), (1, .int w)] [.int x, .ref 15] (Hp u) := by
    intro x hx h1
    refine e_run hC ?_
    conv => whnf
    rw [h_s20]
    refine e_run hC ?_
    conv => whnf
    refine ⟨fun h => absurd h hx, fun _ => ?_⟩
    refine e_run hC ?_
    conv => whnf
    rw [h1]
    exact ⟨rfl, rfl⟩
  refine e_run hC ?_
  conv => whnf
  refine ⟨(Hp u, w, 0, 1), trivial, rfl, rfl, ?_⟩
  conv => whnf
  dsimp only [C_M_in]
  refine e_run hC ?_
  conv => whnf
  refine ⟨fun h1 => ?_, fun h1 => ?_⟩
  · rw [bi1 h1, cond_true] at hB
    refine e_run hC ?_
    conv => whnf
    refine ⟨fun h2 => ?_, fun h2 => ?_⟩
    · rw [if_pos h2] at hB
      refine e_runTo 26 hC ?_
      conv => whnf
      exact neg 2 (by decide) hB.symm
    · rw [if_neg h2] at hB
      refine e_run hC ?_
      conv => whnf
      refine e_run hC ?_
      conv => whnf
      rw [h_s20]
      refine e_run hC ?_
      conv => whnf
      refine ⟨fun _ => ?_, fun h => absurd (by decide : (0 : Int32) ≤ 0) h⟩
      refine e_run hC ?_
      conv => whnf
      refine ⟨fun h3 => ?_, fun h3 => ?_⟩
      · rw [if_neg h3] at hB
        refine e_run hC ?_
        conv => whnf
        rw [← hB]
        exact ⟨rfl, rfl⟩
      · rw [if_pos h3] at hB
        refine e_run hC ?_
        conv => whnf
        refine e_run hC ?_
        conv => whnf
        rw [← hB]
        exact ⟨rfl, rfl⟩
  · rw [bi0.mp h1] at hB
    refine e_runTo 26 hC ?_
    conv => whnf
    exact neg 1 (by decide) hB.symm
theorem m_M_broken (l : Launch) (hl : l.stackTraces = false) : e_Met l y_M_broken b_M_broken 2 (some .int) 1 C_M_broken :=
  e_met hl F_M C_M S_M_broken k_M_broken (by decide +kernel) f_M c_M s_M_broken o_M_broken (fun a _ => ⟨Nat.le_of_ble_eq_true rfl, rfl⟩) (fun a hp => ⟨_, rfl, Or.inr ⟨.int, _, rfl, rfl, rfl⟩, fun J hC => v_M_broken a.1 a.2 J _ rfl hC⟩)
def mND (u : St) (k w : Int32) (c : Nat) : Int32 × St := cond (inn w 0 2) (if u.1 27 = 0 then (0, uS u 20 2) else cond (inn k 0 (nI c - 1)) (if w = 0 then u.2.1 30 (na k) else u.2.1 27 (na (u.2.1 30 (na k)) + 1 + na w), uS u 20 0) (0, uS u 20 3)) (0, uS u 20 1)
def C_M_node : e_C := ⟨St × Int32 × Int32 × Nat, 3, fun _ => 0, fun a => ¬ a.1.1 27 = 0 → a.2.2.2 ≤ 57 ∧ a.1.1 28 = nI a.2.2.2 ∧ ∀ j, j < a.2.2.2 → pl (a.1.2.1 30 j) = true, fun a => [.ref 15, .int a.2.1, .int a.2.2.1], fun a => Hp a.1, fun a => .inl (some (.int (mND a.1 a.2.1 a.2.2.1 a.2.2.2).1)), fun a => Hp (mND a.1 a.2.1 a.2.2.1 a.2.2.2).2⟩
def S_M_node : List (Nat × e_C) := [(4, C_M_in), (33, C_M_in)]
theorem s_M_node : ∀ x ∈ S_M_node, e_Site b_M_node "DumpDeskModel" 1 x.1 x.2 := List.forall_mem_cons.mpr ⟨e_siteS (y := y_M_in) (i := 89) m_M_in (by decide) (by decide) (fun _ => rfl) (e_in3 232 rfl rfl) (e_in3 233 rfl rfl) (e_in1 8 rfl rfl) (e_in3 234 rfl rfl) ⟨by decide, by decide, rfl⟩ (by decide +kernel), List.forall_mem_cons.mpr ⟨e_siteS (y := y_M_in) (i := 89) m_M_in (by decide) (by decide) (fun _ => rfl) (e_in3 232 rfl rfl) (e_in3 233 rfl rfl) (e_in1 8 rfl rfl) (e_in3 234 rfl rfl) ⟨by decide, by decide, rfl⟩ (by decide +kernel), fun x hx => (by cases hx)⟩⟩
theorem v_M_node (u : St) (k w : Int32) (c : Nat) (hp : ¬ u.1 27 = 0 → c ≤ 57 ∧ u.1 28 = nI c ∧ ∀ j, j < c → pl (u.2.1 30 j) = true) (J : e_Jt) (B : Int32 × St) (hB : mND u k w c = B) (hC : e_P0 F_M S_M_node k_M_node (some (.int B.1)) (Hp B.2) J) : J 0 0 [(0, .ref 15), (1, .int k), (2, .int w)] [] (Hp u) := by
  unfold mND at hB
  have neg : ∀ x : Int32, ¬ x ≤ 0 → B = (0, uS u 20 x) → J 0 44 [(0, .ref 15), (1, .int k), (2, .int w)] [.int x, .ref 15] (Hp u) := by
    intro x hx h1
    refine e_run hC ?_
    conv => whnf
    rw [h_s20]
    refine e_run hC ?_
    conv => whnf
    refine ⟨fun h => absurd h hx, fun _ => ?_⟩
    refine e_run hC ?_
    conv => whnf
    rw [h1]
    exact ⟨rfl, rfl⟩
  refine e_run hC ?_
  conv => whnf
  refine ⟨(Hp u, w, 0, 2), trivial, rfl, rfl, ?_⟩
  conv => whnf
  dsimp only [C_M_in]
  refine e_run hC ?_
  conv => whnf
  refine ⟨fun h1 => ?_, fun h1 => ?_⟩
  · have h1 := bi1 h1
    rw [h1, cond_true] at hB
    obtain ⟨w1, w2⟩ := inn_of (n := 2) (by decide) h1
    generalize na w = p at w1 w2 hB
    subst w1
    refine e_run hC ?_
    conv => whnf
    refine ⟨fun h2 => ?_, fun h2 => ?_⟩
    · rw [if_neg h2] at hB
      obtain ⟨c1, c2, c3⟩ := hp h2
      refine e_run hC ?_
      conv => whnf
      rw [c2]
      refine ⟨(Hp u, k, 0, nI c - 1), trivial, rfl, rfl, ?_⟩
      conv => whnf
      dsimp only [C_M_in]
      refine e_run hC ?_
      conv => whnf
      refine ⟨fun h3 => ?_, fun h3 => ?_⟩
      · rw [bi0.mp h3] at hB
        refine e_runTo 44 hC ?_
        conv => whnf
        exact neg 3 (by decide) hB.symm
      · have h3 := bi1 h3
        rw [h3, cond_true] at hB
        obtain ⟨k1, k2⟩ := inn_ix (by omega) h3
        generalize na k = r at k1 k2 hB
        subst k1
        refine e_run hC ?_
        conv => whnf
        refine e_run hC ?_
        conv => whnf
        rw [h_s20]
        refine e_run hC ?_
        conv => whnf
        refine ⟨fun _ => ?_, fun h => absurd (by decide : (0 : Int32) ≤ 0) h⟩
        refine e_run hC ?_
        conv => whnf
        refine ⟨fun h4 => ?_, fun h4 => ?_⟩
        · rw [if_neg h4] at hB
          obtain ⟨g1, g2, g3, g4⟩ := pl_na (c3 r k2)
          generalize na (u.2.1 30 r) = a at g1 g2 g3 g4 hB
          refine e_run hC ?_
          conv => whnf
          refine ⟨vp_in_nI (by omega) (by decide), ?_⟩
          rw [nI_clamp (by omega)]
          simp only [pA, pS, pAs, pSa, Nat.reduceEqDiff, reduceIte]
          rw [g1]
          refine e_run hC ?_
          conv => whnf
          rw [nI_1, nI_add]
          refine ⟨vp_in_nI (by omega) (by decide), ?_⟩
          rw [nI_clamp (by omega)]
          refine e_run hC ?_
          conv => whnf
          rw [← hB]
          exact ⟨rfl, rfl⟩
        · rw [if_pos h4] at hB
          refine e_run hC ?_
          conv => whnf
          refine ⟨vp_in_nI (by omega) (by decide), ?_⟩
          rw [nI_clamp (by omega)]
          refine e_run hC ?_
          conv => whnf
          refine e_run hC ?_
          conv => whnf
          rw [← hB]
          exact ⟨rfl, rfl⟩
    · rw [if_pos h2] at hB
      refine e_runTo 44 hC ?_
      conv => whnf
      exact neg 2 (by decide) hB.symm
  · rw [bi0.mp h1] at hB
    refine e_runTo 44 hC ?_
    conv => whnf
    exact neg 1 (by decide) hB.symm
theorem m_M_node (l : Launch) (hl : l.stackTraces = false) : e_Met l y_M_node b_M_node 3 (some .int) 1 C_M_node :=
  e_met hl F_M C_M S_M_node k_M_node (by decide +kernel) f_M c_M s_M_node o_M_node (fun a _ => ⟨Nat.le_of_ble_eq_true rfl, rfl⟩) (fun a hp => ⟨_, rfl, Or.inr ⟨.int, _, rfl, rfl, rfl⟩, fun J hC => v_M_node a.1 a.2.1 a.2.2.1 a.2.2.2 hp J _ rfl hC⟩)
