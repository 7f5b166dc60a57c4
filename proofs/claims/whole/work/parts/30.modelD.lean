/-! the reference: taskEnd, waitOn, wake -/
theorem LR_mpu {u : St} {l q : Nat} {L A B : List Nat} {a : Nat} (h : LR u l L) (hne : l ≠ q) (hn : (A ++ B).length < 56) : LR (mpu u q A B a) l L := by
  obtain ⟨h1, h2, h3⟩ := h
  rw [List.length_append] at hn
  refine ⟨?_, h2, ?_⟩
  · show upd (u.2.1 22) q (nI (A.length + B.length + 1)) l = _
    rw [pk_un hne, h1]
  · show ent (pli (u.2.1 21) (56 * q + A.length) B.length (nI a)) (56 * l) L
    refine ent_sh L _ _ h3 (fun j hj => ?_)
    unfold pli
    rw [if_neg (by omega), if_neg (by omega)]
theorem LR_mdr {u : St} {l q : Nat} {L A B : List Nat} {a : Nat} (h : LR u l L) (hne : l ≠ q) (hn : (A ++ a :: B).length ≤ 56) : LR (mdr u q A B a) l L := by
  obtain ⟨h1, h2, h3⟩ := h
  rw [List.length_append, List.length_cons] at hn
  refine ⟨?_, h2, ?_⟩
  · show upd (u.2.1 22) q (nI (A.length + B.length)) l = _
    rw [pk_un hne, h1]
  · show ent (dli (u.2.1 21) (56 * q + A.length) B.length) (56 * l) L
    refine ent_sh L _ _ h3 (fun j hj => ?_)
    unfold dli
    rw [if_neg (by omega)]
/-- the waiters of a task leave a queue, the last first -/
def mqd (a : Int32) (q : Nat) : List Nat → List Nat → St → List Nat × St
  | [], D, u => (D, u)
  | b :: R, D, u => if u.2.1 20 (b + 2) = a then mqd a q R D (mdr u q R.reverse D b) else mqd a q R (b :: D) u
theorem mqd_LR (a : Int32) (q : Nat) : ∀ R D u, LR u q (R.reverse ++ D) → LR (mqd a q R D u).2 q (mqd a q R D u).1 ∧ ∀ l L, l ≠ q → LR u l L → LR (mqd a q R D u).2 l L := by
  intro R
  induction R with
  | nil => intro D u h; exact ⟨h, fun _ _ _ h => h⟩
  | cons b R ih =>
    intro D u h
    rw [List.reverse_cons, List.append_assoc] at h
    have h : LR u q (R.reverse ++ b :: D) := h
    unfold mqd
    split
    · obtain ⟨g1, g2⟩ := ih D _ (mdr_LR u q R.reverse D b h)
      exact ⟨g1, fun l L h1 h2 => g2 l L h1 (LR_mdr h2 h1 h.2.1)⟩
    · exact ih (b :: D) u h
def mqs (a : Int32) (Λ : Nat → List Nat) : Nat → Nat → St → St
  | 0, _, u => u
  | n + 1, q, u => mqs a Λ n (q + 1) (mqd a q (Λ q).reverse [] u).2
def mTE (u : St) (i : Int32) (Λ : Nat → List Nat) : Int32 × St :=
  cond (rns u) (cond (inn i 0 (nI (Λ 0).length - 1)) (u.2.1 20 ((Λ 0).getD (na i) 0 + 3), mdr (mqs (nI ((Λ 0).getD (na i) 0)) Λ 4 2 (uS u 20 0)) 0 ((Λ 0).take (na i)) ((Λ 0).drop (na i + 1)) ((Λ 0).getD (na i) 0)) (0, uS u 20 1)) (0, uS u 20 2)
theorem spl : ∀ (L : List Nat) (k : Nat), k < L.length → L = L.take k ++ L.getD k 0 :: L.drop (k + 1) := by
  intro L
  induction L with
  | nil => intro k h; exact absurd h (Nat.not_lt_zero _)
  | cons a L ih =>
    intro k h
    cases k with
    | zero => rfl
    | succ k => exact congrArg (a :: ·) (ih k (Nat.lt_of_succ_lt_succ h))
theorem inn_ix {x : Int32} {n : Nat} (hn : n < 2 ^ 30) (h : inn x 0 (nI n - 1) = true) : x = nI (na x) ∧ na x < n := by
  unfold inn at h
  rw [Bool.and_eq_true] at h
  have h1 := of_decide_eq_true h.1
  have h2 := of_decide_eq_true h.2
  obtain ⟨j, h3, h4⟩ := nI_of (Int32.not_lt.mpr h1)
  subst h4
  rw [na, nI_clamp h3]
  refine ⟨rfl, ?_⟩
  have h5 := Int32.le_iff_toInt_le.mp h2
  rw [nI_toInt h3, show (1 : Int32) = nI 1 from rfl, pk_sub_toInt hn (by decide)] at h5
  omega
theorem neg1 : nI 0 - 1 < 0 := by decide
def C_M_taskEnd : e_C := ⟨St × Int32 × (Nat → List Nat), 2, fun _ => 0, fun a => rns a.1 = true → ∀ l, l < 6 → LR a.1 l (a.2.2 l), fun a => [.ref 15, .int a.2.1], fun a => Hp a.1, fun a => .inl (some (.int (mTE a.1 a.2.1 a.2.2).1)), fun a => Hp (mTE a.1 a.2.1 a.2.2).2⟩
def S_M_taskEnd : List (Nat × e_C) := [(2, C_M_runs), (22, C_M_in), (116, C_M_drop), (134, C_M_drop)]
theorem s_M_taskEnd : ∀ x ∈ S_M_taskEnd, e_Site b_M_taskEnd "DumpDeskModel" 2 x.1 x.2 := List.forall_mem_cons.mpr ⟨e_siteV (y := y_M_runs) (i := 75) (ci := 6) m_M_runs (by decide) (by decide) (fun _ => rfl) rfl (fun a _ => ⟨_, _, _, rfl, by decide, rfl⟩) rfl (e_in3 204 rfl rfl) (e_in3 206 rfl rfl) (e_in1 8 rfl rfl) (e_in3 207 rfl rfl) (e_inP 5 rfl rfl) ⟨by decide, by decide, rfl⟩ (by decide +kernel), List.forall_mem_cons.mpr ⟨e_siteS (y := y_M_in) (i := 89) m_M_in (by decide) (by decide) (fun _ => rfl) (e_in3 232 rfl rfl) (e_in3 233 rfl rfl) (e_in1 8 rfl rfl) (e_in3 234 rfl rfl) ⟨by decide, by decide, rfl⟩ (by decide +kernel), List.forall_mem_cons.mpr ⟨e_siteV (y := y_M_drop) (i := 93) (ci := 6) m_M_drop (by decide) (by decide) (fun _ => rfl) rfl (fun a _ => ⟨_, _, _, rfl, by decide, rfl⟩) rfl (e_in3 235 rfl rfl) (e_in3 237 rfl rfl) (e_in1 8 rfl rfl) (e_in3 238 rfl rfl) (e_inP 11 rfl rfl) ⟨by decide, by decide, rfl⟩ (by decide +kernel), List.forall_mem_cons.mpr ⟨e_siteV (y := y_M_drop) (i := 93) (ci := 6) m_M_drop (by decide) (by decide) (fun _ => rfl) rfl (fun a _ => ⟨_, _, _, rfl, by decide, rfl⟩) rfl (e_in3 235 rfl rfl) (e_in3 237 rfl rfl) (e_in1 8 rfl rfl) (e_in3 238 rfl rfl) (e_inP 11 rfl rfl) ⟨by decide, by decide, rfl⟩ (by decide +kernel), fun x hx => (by cases hx)⟩⟩⟩⟩
theorem v_M_taskEnd (u : St) (i : Int32) (Λ : Nat → List Nat) (hp : rns u = true → ∀ l, l < 6 → LR u l (Λ l)) (J : e_Jt) (B : Int32 × St) (hB : mTE u i Λ = B) (hC : e_P0 F_M S_M_taskEnd k_M_taskEnd (some (.int B.1)) (Hp B.2) J) : J 0 0 [(0, .ref 15), (1, .int i)] [] (Hp u) := by
  unfold mTE at hB
  have neg : ∀ x : Int32, ¬ x ≤ 0 → B = (0, uS u 20 x) → J 0 33 [(0, .ref 15), (1, .int i)] [.int x, .ref 15] (Hp u) := by
    intro x hx h1
    refine e_run hC ?_
    conv => whnf
    rw [h_s20]
    refine e_run hC ?_
    conv => whnf
    refine ⟨fun h => absurd h hx, fun _ => ?_⟩
    refine e_run hC ?_
    conv => whnf
    rw [h1]
    exact ⟨rfl, rfl⟩
  refine e_run hC ?_
  conv => whnf
  refine ⟨u, trivial, rfl, rfl, ?_⟩
  conv => whnf
  dsimp only [C_M_runs]
  refine e_run hC ?_
  conv => whnf
  refine ⟨fun h1 => ?_, fun h1 => ?_⟩
  · have h1 := bi1 h1
    have hL := hp h1
    rw [h1, cond_true] at hB
    have g1 := hL 0 (by decide)
    refine e_run hC ?_
    conv => whnf
    refine ⟨vp_in_nI (n := 0) (by decide) (by decide), ?_⟩
    rw [show u.2.1 22 (0 : Int32).toNatClampNeg = nI (Λ 0).length from g1.1]
    refine e_run hC ?_
    conv => whnf
    refine ⟨(Hp u, i, 0, nI (Λ 0).length - 1), trivial, rfl, rfl, ?_⟩
    conv => whnf
    dsimp only [C_M_in]
    refine e_run hC ?_
    conv => whnf
    refine ⟨fun h2 => ?_, fun h2 => ?_⟩
    · rw [bi0.mp h2] at hB
      refine e_runTo 33 hC ?_
      conv => whnf
      exact neg 1 (by decide) hB.symm
    · have h2 := bi1 h2
      rw [h2, cond_true] at hB
      have g2 := g1.2.1
      obtain ⟨h3, h4⟩ := inn_ix (by omega) h2
      generalize na i = k at h3 h4 hB
      subst h3
      have hs := spl (Λ 0) k h4
      generalize (Λ 0).getD k 0 = a at hB hs
      have g3 : ent (u.2.1 21) (56 * 0) ((Λ 0).take k ++ a :: (Λ 0).drop (k + 1)) := by rw [← hs]; exact g1.2.2
      obtain ⟨g4, g5⟩ := (ent_app _ _ _ _).mp g3
      have g6 : ((Λ 0).take k).length = k := by rw [List.length_take]; omega
      rw [g6] at g5
      have e1 : u.2.1 21 k = nI a := by
        have := g5.1
        rw [show 56 * 0 + k = k by omega] at this
        exact this
      have a1 := g5.2.1
      -- the loops
      have inner : ∀ (R D : List Nat) q (v : St), q < 6 → LR v q (R.reverse ++ D) → (∀ w : St, w = (mqd (nI a) q R D v).2 → J 0 125 [(0, .ref 15), (1, .int (nI k)), (2, .int (nI a)), (3, .int (u.2.1 20 (a + 3))), (4, .int (nI q))] [] (Hp w)) → J 0 82 [(0, .ref 15), (1, .int (nI k)), (2, .int (nI a)), (3, .int (u.2.1 20 (a + 3))), (4, .int (nI q)), (5, .int (nI R.length - 1))] [] (Hp v) := by
        intro R
        induction R with
        | nil =>
          intro D q v q1 q2 q3
          refine e_run hC ?_
          conv => whnf
          refine ⟨fun _ => ?_, fun h => absurd neg1 h⟩
          exact e_weak hC [0, 1, 2, 3, 4] rfl rfl (q3 v rfl)
        | cons b R ih =>
          intro D q v q1 q2 q3
          rw [List.reverse_cons, List.append_assoc] at q2
          have q2 : LR v q (R.reverse ++ b :: D) := q2
          have q4 := q2.2.1
          rw [List.length_append, List.length_cons, List.length_reverse] at q4
          have q5 := ((ent_app _ _ _ _).mp q2.2.2).2
          rw [List.length_reverse] at q5
          have q6 := q5.2.1
          have e2 : nI (b :: R).length - 1 = nI R.length := nI_pred R.length
          rw [e2]
          refine e_run hC ?_
          conv => whnf
          refine ⟨fun h => absurd h (nI_pos (by omega)), fun _ => ?_⟩
          refine e_run hC ?_
          conv => whnf
          rw [m56]
          refine ⟨vp_in_nI (by omega) (by decide), ?_⟩
          rw [nI_clamp (by omega), q5.1]
          refine e_run hC ?_
          conv => whnf
          rw [show (2 : Int32) = nI 2 from rfl, nI_add]
          refine ⟨vp_in_nI (by omega) (by decide), ?_⟩
          rw [nI_clamp (by omega)]
          have e3 : nI R.length + -1 = nI R.length - 1 := (Int32.sub_eq_add_neg _ _).symm
          refine e_run hC ?_
          conv => whnf
          refine ⟨fun h => ?_, fun h => ?_⟩
          · refine e_run hC ?_
            conv => whnf
            rw [e3]
            refine ih (b :: D) q v q1 q2 (fun w hw => q3 w ?_)
            rw [hw]
            conv => rhs; unfold mqd
            rw [if_neg h]
          · refine e_run hC ?_
            conv => whnf
            refine ⟨(v, q, R.reverse, D, b), ⟨q1, q2⟩, ?_, rfl, ?_⟩
            · show [Value.ref 15, .int (nI q), .int (nI R.reverse.length)] = [Value.ref 15, .int (nI q), .int (nI R.length)]
              rw [List.length_reverse]
            conv => whnf
            dsimp only [C_M_drop]
            refine e_run hC ?_
            conv => whnf
            rw [e3]
            refine ih D q _ q1 (mdr_LR v q R.reverse D b q2) (fun w hw => q3 w ?_)
            rw [hw]
            conv => rhs; unfold mqd
            rw [if_pos h]
      have outer : ∀ n q (v : St), q + n = 6 → 2 ≤ q → LR v 0 (Λ 0) → (∀ l, q ≤ l → l < 6 → LR v l (Λ l)) → B = (u.2.1 20 (a + 3), mdr (mqs (nI a) Λ n q v) 0 ((Λ 0).take k) ((Λ 0).drop (k + 1)) a) → J 0 64 [(0, .ref 15), (1, .int (nI k)), (2, .int (nI a)), (3, .int (u.2.1 20 (a + 3))), (4, .int (nI q))] [] (Hp v) := by
        intro n
        induction n with
        | zero =>
          intro q v q1 q2 q3 q4 q5
          refine e_run hC ?_
          conv => whnf
          refine ⟨fun _ => ?_, fun h => absurd (nI_le (a := 6) (by omega) (by omega)) h⟩
          refine e_run hC ?_
          conv => whnf
          refine ⟨(v, 0, (Λ 0).take k, (Λ 0).drop (k + 1), a), ⟨(by decide : 0 < 6), by rw [← hs]; exact q3⟩, ?_, rfl, ?_⟩
          · show [Value.ref 15, .int (nI 0), .int (nI ((Λ 0).take k).length)] = [Value.ref 15, .int 0, .int (nI k)]
            rw [g6]
            rfl
          conv => whnf
          dsimp only [C_M_drop]
          refine e_run hC ?_
          conv => whnf
          rw [q5]
          exact ⟨rfl, rfl⟩
        | succ n ih =>
          intro q v q1 q2 q3 q4 q5
          have q6 := q4 q (Nat.le_refl _) (by omega)
          have q7 : LR v q ((Λ q).reverse.reverse ++ []) := by rw [List.reverse_reverse, List.append_nil]; exact q6
          obtain ⟨q8, q9⟩ := mqd_LR (nI a) q (Λ q).reverse [] v q7
          refine e_run hC ?_
          conv => whnf
          refine ⟨fun h => absurd h (nI_ge (b := 6) (by omega) (by decide)), fun _ => ?_⟩
          refine e_run hC ?_
          conv => whnf
          refine ⟨vp_in_nI (by omega) (by decide), ?_⟩
          rw [nI_clamp (by omega), q6.1]
          refine e_runTo 82 hC ?_
          conv => whnf
          have e4 : nI (Λ q).length - 1 = nI (Λ q).reverse.length - 1 := by rw [List.length_reverse]
          rw [e4]
          refine inner (Λ q).reverse [] q v (by omega) q7 (fun w hw => ?_)
          refine e_run hC ?_
          conv => whnf
          rw [nI_1]
          refine ih (q + 1) w (by omega) (by omega) ?_ ?_ ?_
          · rw [hw]
            exact q9 0 (Λ 0) (by omega) q3
          · intro l l1 l2
            rw [hw]
            exact q9 l (Λ l) (by omega) (q4 l (by omega) l2)
          · rw [q5, hw]
            rfl
      refine e_run hC ?_
      conv => whnf
      refine e_run hC ?_
      conv => whnf
      rw [h_s20]
      refine e_run hC ?_
      conv => whnf
      refine ⟨fun _ => ?_, fun h => absurd (by decide : (0 : Int32) ≤ 0) h⟩
      refine e_run hC ?_
      conv => whnf
      refine ⟨vp_in_nI (by omega) (by decide), ?_⟩
      rw [nI_clamp (by omega), show (uS u 20 0).2.1 21 k = nI a from e1]
      refine e_run hC ?_
      conv => whnf
      rw [show (3 : Int32) = nI 3 from rfl, nI_add]
      refine ⟨vp_in_nI (by omega) (by decide), ?_⟩
      rw [nI_clamp (by omega)]
      refine e_runTo 64 hC ?_
      conv => whnf
      exact outer 4 2 (uS u 20 0) rfl (Nat.le_refl _) g1 (fun l _ l2 => hL l l2) hB.symm
  · rw [bi0.mp h1] at hB
    refine e_runTo 33 hC ?_
    conv => whnf
    exact neg 2 (by decide) hB.symm
theorem m_M_taskEnd (l : Launch) (hl : l.stackTraces = false) : e_Met l y_M_taskEnd b_M_taskEnd 6 (some .int) 2 C_M_taskEnd :=
  e_met hl F_M C_M S_M_taskEnd k_M_taskEnd (by decide +kernel) f_M c_M s_M_taskEnd o_M_taskEnd (fun a _ => ⟨Nat.le_of_ble_eq_true rfl, rfl⟩) (fun a hp => ⟨_, rfl, Or.inr ⟨.int, _, rfl, rfl, rfl⟩, fun J hC => v_M_taskEnd a.1 a.2.1 a.2.2 hp J _ rfl hC⟩)
def mWO (u : St) (i q : Int32) (Λ : Nat → List Nat) : St :=
  cond (rns u) (cond (inn q 0 3) (cond (inn i 0 (nI (Λ 0).length - 1))
    (if (mpl (u.2.1 20) (u.2.1 23)).1 < 0 then mtk (uS u 20 0) 3 else
      mpu (mwr (mtk (uS u 20 0) 0) (na (mpl (u.2.1 20) (u.2.1 23)).1) 7003 (nI ((Λ 0).getD (na i) 0)) 0) (2 + na q) (Λ (2 + na q)) [] (na (mpl (u.2.1 20) (u.2.1 23)).1)) (uS u 20 2)) (uS u 20 1)) (uS u 20 3)
def C_M_waitOn : e_C := ⟨St × Int32 × Int32 × (Nat → List Nat), 3, fun _ => 0, fun a => rns a.1 = true → (∀ l, l < 6 → LR a.1 l (a.2.2.2 l)) ∧ (¬ (mpl (a.1.2.1 20) (a.1.2.1 23)).1 < 0 → ∀ l, l < 6 → (a.2.2.2 l).length < 56), fun a => [.ref 15, .int a.2.1, .int a.2.2.1], fun a => Hp a.1, fun _ => .inl none, fun a => Hp (mWO a.1 a.2.1 a.2.2.1 a.2.2.2)⟩
def S_M_waitOn : List (Nat × e_C) := [(2, C_M_runs), (15, C_M_in), (35, C_M_in), (58, C_M_place), (95, C_M_write), (111, C_M_put)]
theorem s_M_waitOn : ∀ x ∈ S_M_waitOn, e_Site b_M_waitOn "DumpDeskModel" 3 x.1 x.2 := List.forall_mem_cons.mpr ⟨e_siteV (y := y_M_runs) (i := 75) (ci := 6) m_M_runs (by decide) (by decide) (fun _ => rfl) rfl (fun a _ => ⟨_, _, _, rfl, by decide, rfl⟩) rfl (e_in3 204 rfl rfl) (e_in3 206 rfl rfl) (e_in1 8 rfl rfl) (e_in3 207 rfl rfl) (e_inP 5 rfl rfl) ⟨by decide, by decide, rfl⟩ (by decide +kernel), List.forall_mem_cons.mpr ⟨e_siteS (y := y_M_in) (i := 89) m_M_in (by decide) (by decide) (fun _ => rfl) (e_in3 232 rfl rfl) (e_in3 233 rfl rfl) (e_in1 8 rfl rfl) (e_in3 234 rfl rfl) ⟨by decide, by decide, rfl⟩ (by decide +kernel), List.forall_mem_cons.mpr ⟨e_siteS (y := y_M_in) (i := 89) m_M_in (by decide) (by decide) (fun _ => rfl) (e_in3 232 rfl rfl) (e_in3 233 rfl rfl) (e_in1 8 rfl rfl) (e_in3 234 rfl rfl) ⟨by decide, by decide, rfl⟩ (by decide +kernel), List.forall_mem_cons.mpr ⟨e_siteV (y := y_M_place) (i := 79) (ci := 6) m_M_place (by decide) (by decide) (fun _ => rfl) rfl (fun a _ => ⟨_, _, _, rfl, by decide, rfl⟩) rfl (e_in3 208 rfl rfl) (e_in3 210 rfl rfl) (e_in1 8 rfl rfl) (e_in3 211 rfl rfl) (e_inP 6 rfl rfl) ⟨by decide, by decide, rfl⟩ (by decide +kernel), List.forall_mem_cons.mpr ⟨e_siteV (y := y_M_write) (i := 64) (ci := 6) m_M_write (by decide) (by decide) (fun _ => rfl) rfl (fun a _ => ⟨_, _, _, rfl, by decide, rfl⟩) rfl (e_in3 216 rfl rfl) (e_in3 218 rfl rfl) (e_in1 8 rfl rfl) (e_in3 219 rfl rfl) (e_inP 8 rfl rfl) ⟨by decide, by decide, rfl⟩ (by decide +kernel), List.forall_mem_cons.mpr ⟨e_siteV (y := y_M_put) (i := 85) (ci := 6) m_M_put (by decide) (by decide) (fun _ => rfl) rfl (fun a _ => ⟨_, _, _, rfl, by decide, rfl⟩) rfl (e_in3 220 rfl rfl) (e_in3 222 rfl rfl) (e_in1 8 rfl rfl) (e_in3 223 rfl rfl) (e_inP 9 rfl rfl) ⟨by decide, by decide, rfl⟩ (by decide +kernel), fun x hx => (by cases hx)⟩⟩⟩⟩⟩⟩
theorem v_M_waitOn (u : St) (i q : Int32) (Λ : Nat → List Nat) (hp : rns u = true → (∀ l, l < 6 → LR u l (Λ l)) ∧ (¬ (mpl (u.2.1 20) (u.2.1 23)).1 < 0 → ∀ l, l < 6 → (Λ l).length < 56)) (J : e_Jt) (B : St) (hB : mWO u i q Λ = B) (hC : e_P0 F_M S_M_waitOn k_M_waitOn none (Hp B) J) : J 0 0 [(0, .ref 15), (1, .int i), (2, .int q)] [] (Hp u) := by
  unfold mWO at hB
  have neg : ∀ x : Int32, ¬ x ≤ 0 → B = uS u 20 x → J 0 46 [(0, .ref 15), (1, .int i), (2, .int q)] [.int x, .ref 15] (Hp u) := by
    intro x hx h1
    refine e_run hC ?_
    conv => whnf
    rw [h_s20]
    refine e_run hC ?_
    conv => whnf
    refine ⟨fun h => absurd h hx, fun _ => ?_⟩
    refine e_run hC ?_
    conv => whnf
    rw [h1]
    exact ⟨rfl, rfl⟩
  refine e_run hC ?_
  conv => whnf
  refine ⟨u, trivial, rfl, rfl, ?_⟩
  conv => whnf
  dsimp only [C_M_runs]
  refine e_run hC ?_
  conv => whnf
  refine ⟨fun h1 => ?_, fun h1 => ?_⟩
  · have h1 := bi1 h1
    obtain ⟨hL, hQ⟩ := hp h1
    rw [h1, cond_true] at hB
    have g1 := hL 0 (by decide)
    refine e_run hC ?_
    conv => whnf
    refine ⟨(Hp u, q, 0, 3), trivial, rfl, rfl, ?_⟩
    conv => whnf
    dsimp only [C_M_in]
    refine e_run hC ?_
    conv => whnf
    refine ⟨fun h0 => ?_, fun h0 => ?_⟩
    · have h0 := bi1 h0
      rw [h0, cond_true] at hB
      obtain ⟨w3, w4⟩ := inn_of (n := 3) (by decide) h0
      generalize na q = r at w3 w4 hB
      subst w3
      refine e_run hC ?_
      conv => whnf
      refine ⟨vp_in_nI (n := 0) (by decide) (by decide), ?_⟩
      rw [show u.2.1 22 (0 : Int32).toNatClampNeg = nI (Λ 0).length from g1.1]
      refine e_run hC ?_
      conv => whnf
      refine ⟨(Hp u, i, 0, nI (Λ 0).length - 1), trivial, rfl, rfl, ?_⟩
      conv => whnf
      dsimp only [C_M_in]
      refine e_run hC ?_
      conv => whnf
      refine ⟨fun h2 => ?_, fun h2 => ?_⟩
      · have h2 := bi1 h2
        rw [h2, cond_true] at hB
        have g2 := g1.2.1
        obtain ⟨h3, h4⟩ := inn_ix (by omega) h2
        generalize na i = k at h3 h4 hB
        subst h3
        have hs := spl (Λ 0) k h4
        generalize (Λ 0).getD k 0 = a at hB hs
        have g3 : ent (u.2.1 21) (56 * 0) ((Λ 0).take k ++ a :: (Λ 0).drop (k + 1)) := by rw [← hs]; exact g1.2.2
        obtain ⟨g4, g5⟩ := (ent_app _ _ _ _).mp g3
        have g6 : ((Λ 0).take k).length = k := by rw [List.length_take]; omega
        rw [g6] at g5
        have e1 : u.2.1 21 k = nI a := by
          have := g5.1
          rw [show 56 * 0 + k = k by omega] at this
          exact this
        refine e_run hC ?_
        conv => whnf
        rw [h_s20]
        refine e_run hC ?_
        conv => whnf
        refine ⟨fun _ => ?_, fun h => absurd (by decide : (0 : Int32) ≤ 0) h⟩
        refine e_run hC ?_
        conv => whnf
        refine ⟨uS u 20 0, trivial, rfl, rfl, ?_⟩
        conv => whnf
        dsimp only [C_M_place]
        simp only [pA, pS, pAs, pSa, Nat.reduceEqDiff, reduceIte]
        have hin := mpl_in (u.2.1 20) (u.2.1 23)
        unfold mtk at hB
        simp only [pSa] at hB
        generalize mpl (u.2.1 20) (u.2.1 23) = rr at hB hin hQ ⊢
        obtain ⟨ra, rw'⟩ := rr
        dsimp only at hB hin hQ ⊢
        rcases hin with ⟨rfl, -⟩ | ⟨b, b1, b2, rfl⟩
        · rw [if_pos (by decide)] at hB
          refine e_run hC ?_
          conv => whnf
          refine ⟨fun h => absurd h (by decide), fun _ => ?_⟩
          refine e_run hC ?_
          conv => whnf
          refine e_run hC ?_
          conv => whnf
          rw [h_s20]
          refine e_run hC ?_
          conv => whnf
          refine ⟨fun h => absurd h (by decide : ¬ (3 : Int32) ≤ 0), fun _ => ?_⟩
          refine e_run hC ?_
          conv => whnf
          rw [← hB]
          exact ⟨rfl, rfl⟩
        · rw [if_neg (nI_pos (by omega)), na, nI_clamp (by omega)] at hB
          have hQ := hQ (nI_pos (by omega)) (2 + r) (by omega)
          have g7 := hL (2 + r) (by omega)
          refine e_run hC ?_
          conv => whnf
          refine ⟨fun _ => ?_, fun h => absurd (nI_pos' (by omega)) h⟩
          refine e_run hC ?_
          conv => whnf
          rw [h_s20]
          refine e_run hC ?_
          conv => whnf
          refine ⟨fun _ => ?_, fun h => absurd (by decide : (0 : Int32) ≤ 0) h⟩
          refine e_run hC ?_
          conv => whnf
          refine ⟨vp_in_nI (by omega) (by decide), ?_⟩
          rw [nI_clamp (by omega)]
          simp only [pA, pS, pAs, pSa, Nat.reduceEqDiff, reduceIte]
          rw [e1]
          refine e_run hC ?_
          conv => whnf
          refine ⟨(uS (uA (uS u 20 0) 20 rw') 20 0, b, 7003, nI a, 0), (by omega : b < 253), rfl, rfl, ?_⟩
          conv => whnf
          dsimp only [C_M_write]
          refine e_run hC ?_
          conv => whnf
          rw [show (2 : Int32) = nI 2 from rfl, nI_add]
          refine ⟨vp_in_nI (by omega) (by decide), ?_⟩
          rw [nI_clamp (by omega), show (mwr (uS (uA (uS u 20 0) 20 rw') 20 0) b 7003 (nI a) 0).2.1 22 (2 + r) = nI (Λ (2 + r)).length from g7.1]
          refine e_run hC ?_
          conv => whnf
          refine ⟨(mwr (uS (uA (uS u 20 0) 20 rw') 20 0) b 7003 (nI a) 0, 2 + r, Λ (2 + r), [], b), ⟨(by omega : 2 + r < 6), by rw [List.append_nil]; exact g7, by rw [List.append_nil]; exact hQ, (by omega : b < 253)⟩, rfl, rfl, ?_⟩
          conv => whnf
          dsimp only [C_M_put]
          refine e_run hC ?_
          conv => whnf
          rw [← hB]
          exact ⟨rfl, rfl⟩
      · rw [bi0.mp h2] at hB
        refine e_runTo 46 hC ?_
        conv => whnf
        exact neg 2 (by decide) hB.symm
    · rw [bi0.mp h0] at hB
      refine e_runTo 46 hC ?_
      conv => whnf
      exact neg 1 (by decide) hB.symm
  · rw [bi0.mp h1] at hB
    refine e_runTo 46 hC ?_
    conv => whnf
    exact neg 3 (by decide) hB.symm
theorem m_M_waitOn (l : Launch) (hl : l.stackTraces = false) : e_Met l y_M_waitOn b_M_waitOn 4 none 3 C_M_waitOn :=
  e_met hl F_M C_M S_M_waitOn k_M_waitOn (by decide +kernel) f_M c_M s_M_waitOn o_M_waitOn (fun a _ => ⟨Nat.le_of_ble_eq_true rfl, rfl⟩) (fun a hp => ⟨_, rfl, Or.inl ⟨rfl, rfl⟩, fun J hC => v_M_waitOn a.1 a.2.1 a.2.2.1 a.2.2.2 hp J _ rfl hC⟩)
def mWK (u : St) (q : Int32) (Λ : Nat → List Nat) : Int32 × St :=
  cond (rns u) (cond (inn q 0 3) (match Λ (2 + na q) with
    | [] => (0, uS (uS u 20 0) 20 2)
    | b :: L => ((mdr (uS u 20 0) (2 + na q) [] L b).2.1 20 (na (u.2.1 20 (b + 2)) + 3), mdr (uS u 20 0) (2 + na q) [] L b)) (0, uS u 20 1)) (0, uS u 20 3)
def C_M_wake : e_C := ⟨St × Int32 × (Nat → List Nat), 2, fun _ => 0, fun a => rns a.1 = true → (∀ l, l < 6 → LR a.1 l (a.2.2 l)) ∧ (∀ q, q < 4 → ∀ b L, a.2.2 (2 + q) = b :: L → pl (a.1.2.1 20 (b + 2)) = true), fun a => [.ref 15, .int a.2.1], fun a => Hp a.1, fun a => .inl (some (.int (mWK a.1 a.2.1 a.2.2).1)), fun a => Hp (mWK a.1 a.2.1 a.2.2).2⟩
def S_M_wake : List (Nat × e_C) := [(2, C_M_runs), (15, C_M_in), (51, C_M_fail), (79, C_M_drop)]
theorem s_M_wake : ∀ x ∈ S_M_wake, e_Site b_M_wake "DumpDeskModel" 2 x.1 x.2 := List.forall_mem_cons.mpr ⟨e_siteV (y := y_M_runs) (i := 75) (ci := 6) m_M_runs (by decide) (by decide) (fun _ => rfl) rfl (fun a _ => ⟨_, _, _, rfl, by decide, rfl⟩) rfl (e_in3 204 rfl rfl) (e_in3 206 rfl rfl) (e_in1 8 rfl rfl) (e_in3 207 rfl rfl) (e_inP 5 rfl rfl) ⟨by decide, by decide, rfl⟩ (by decide +kernel), List.forall_mem_cons.mpr ⟨e_siteS (y := y_M_in) (i := 89) m_M_in (by decide) (by decide) (fun _ => rfl) (e_in3 232 rfl rfl) (e_in3 233 rfl rfl) (e_in1 8 rfl rfl) (e_in3 234 rfl rfl) ⟨by decide, by decide, rfl⟩ (by decide +kernel), List.forall_mem_cons.mpr ⟨e_siteV (y := y_M_fail) (i := 96) (ci := 6) m_M_fail (by decide) (by decide) (fun _ => rfl) rfl (fun a _ => ⟨_, _, _, rfl, by decide, rfl⟩) rfl (e_in4 7 rfl rfl) (e_in4 9 rfl rfl) (e_in1 8 rfl rfl) (e_in4 10 rfl rfl) (e_inP 12 rfl rfl) ⟨by decide, by decide, rfl⟩ (by decide +kernel), List.forall_mem_cons.mpr ⟨e_siteV (y := y_M_drop) (i := 93) (ci := 6) m_M_drop (by decide) (by decide) (fun _ => rfl) rfl (fun a _ => ⟨_, _, _, rfl, by decide, rfl⟩) rfl (e_in3 235 rfl rfl) (e_in3 237 rfl rfl) (e_in1 8 rfl rfl) (e_in3 238 rfl rfl) (e_inP 11 rfl rfl) ⟨by decide, by decide, rfl⟩ (by decide +kernel), fun x hx => (by cases hx)⟩⟩⟩⟩
theorem v_M_wake (u : St) (q : Int32) (Λ : Nat → List Nat) (hp : rns u = true → (∀ l, l < 6 → LR u l (Λ l)) ∧ (∀ q, q < 4 → ∀ b L, Λ (2 + q) = b :: L → pl (u.2.1 20 (b + 2)) = true)) (J : e_Jt) (B : Int32 × St) (hB : mWK u q Λ = B) (hC : e_P0 F_M S_M_wake k_M_wake (some (.int B.1)) (Hp B.2) J) : J 0 0 [(0, .ref 15), (1, .int q)] [] (Hp u) := by
  unfold mWK at hB
  have neg : ∀ x : Int32, ¬ x ≤ 0 → B = (0, uS u 20 x) → J 0 26 [(0, .ref 15), (1, .int q)] [.int x, .ref 15] (Hp u) := by
    intro x hx h1
    refine e_run hC ?_
    conv => whnf
    rw [h_s20]
    refine e_run hC ?_
    conv => whnf
    refine ⟨fun h => absurd h hx, fun _ => ?_⟩
    refine e_run hC ?_
    conv => whnf
    rw [h1]
    exact ⟨rfl, rfl⟩
  refine e_run hC ?_
  conv => whnf
  refine ⟨u, trivial, rfl, rfl, ?_⟩
  conv => whnf
  dsimp only [C_M_runs]
  refine e_run hC ?_
  conv => whnf
  refine ⟨fun h1 => ?_, fun h1 => ?_⟩
  · have h1 := bi1 h1
    obtain ⟨hL, hQ⟩ := hp h1
    rw [h1, cond_true] at hB
    refine e_run hC ?_
    conv => whnf
    refine ⟨(Hp u, q, 0, 3), trivial, rfl, rfl, ?_⟩
    conv => whnf
    dsimp only [C_M_in]
    refine e_run hC ?_
    conv => whnf
    refine ⟨fun h0 => ?_, fun h0 => ?_⟩
    · have h0 := bi1 h0
      rw [h0, cond_true] at hB
      obtain ⟨w3, w4⟩ := inn_of (n := 3) (by decide) h0
      generalize na q = r at w3 w4 hB
      subst w3
      have g1 := hL (2 + r) (by omega)
      have hQ := hQ r (by omega)
      refine e_run hC ?_
      conv => whnf
      rw [h_s20]
      refine e_run hC ?_
      conv => whnf
      refine ⟨fun _ => ?_, fun h => absurd (by decide : (0 : Int32) ≤ 0) h⟩
      refine e_run hC ?_
      conv => whnf
      rw [show (2 : Int32) = nI 2 from rfl, nI_add]
      refine ⟨vp_in_nI (by omega) (by decide), ?_⟩
      rw [nI_clamp (by omega), show (uS u 20 0).2.1 22 (2 + r) = nI (Λ (2 + r)).length from g1.1]
      refine e_run hC ?_
      conv => whnf
      generalize hΛ : Λ (2 + r) = LL at g1 hQ hB ⊢
      have g2 := g1.2.1
      refine ⟨fun h2 => ?_, fun h2 => ?_⟩
      · cases LL with
        | nil => exact absurd rfl h2
        | cons b L =>
          dsimp only at hB
          have hQ := hQ b L rfl
          have g3 := g1.2.2.1
          have g4 := g1.2.2.2.1
          obtain ⟨t1, t2, t3, t4⟩ := pl_na hQ
          generalize na (u.2.1 20 (b + 2)) = t at t1 t2 t3 t4 hB
          refine e_run hC ?_
          conv => whnf
          rw [show (2 : Int32) = nI 2 from rfl, nI_add, show (56 : Int32) = nI 56 from rfl, pk_mul]
          refine ⟨vp_in_nI (by omega) (by decide), ?_⟩
          rw [nI_clamp (by omega), show (uS u 20 0).2.1 21 (56 * (2 + r)) = nI b from g3]
          refine e_run hC ?_
          conv => whnf
          rw [show (2 : Int32) = nI 2 from rfl, nI_add]
          refine ⟨vp_in_nI (by omega) (by decide), ?_⟩
          rw [nI_clamp (by omega), show (uS u 20 0).2.1 20 (b + 2) = nI t from t1]
          refine e_run hC ?_
          conv => whnf
          rw [show (2 : Int32) = nI 2 from rfl, nI_add]
          refine ⟨(uS u 20 0, 2 + r, [], L, b), ⟨(by omega : 2 + r < 6), g1⟩, rfl, rfl, ?_⟩
          conv => whnf
          dsimp only [C_M_drop]
          refine e_run hC ?_
          conv => whnf
          rw [show (3 : Int32) = nI 3 from rfl, nI_add]
          refine ⟨vp_in_nI (by omega) (by decide), ?_⟩
          rw [nI_clamp (by omega)]
          refine e_run hC ?_
          conv => whnf
          rw [← hB]
          exact ⟨rfl, rfl⟩
      · cases LL with
        | nil =>
          dsimp only at hB
          refine e_run hC ?_
          conv => whnf
          refine ⟨(uS u 20 0, 2), trivial, rfl, rfl, ?_⟩
          conv => whnf
          dsimp only [C_M_fail]
          refine e_run hC ?_
          conv => whnf
          rw [← hB]
          exact ⟨rfl, rfl⟩
        | cons b L =>
          rw [List.length_cons] at h2 g2
          exact absurd h2 (nI_ne0 (by omega) (by omega))
    · rw [bi0.mp h0] at hB
      refine e_runTo 26 hC ?_
      conv => whnf
      exact neg 1 (by decide) hB.symm
  · rw [bi0.mp h1] at hB
    refine e_runTo 26 hC ?_
    conv => whnf
    exact neg 3 (by decide) hB.symm
theorem m_M_wake (l : Launch) (hl : l.stackTraces = false) : e_Met l y_M_wake b_M_wake 3 (some .int) 2 C_M_wake :=
  e_met hl F_M C_M S_M_wake k_M_wake (by decide +kernel) f_M c_M s_M_wake o_M_wake (fun a _ => ⟨Nat.le_of_ble_eq_true rfl, rfl⟩) (fun a hp => ⟨_, rfl, Or.inr ⟨.int, _, rfl, rfl, rfl⟩, fun J hC => v_M_wake a.1 a.2.1 a.2.2 hp J _ rfl hC⟩)
