/-! the reference: the calls of a running kernel, the shorter ones -/
theorem thr_pos {x : Int32} (h : ¬ x ≤ 0) : ¬ x = 0 := fun z => h (by rw [z]; decide)
theorem mpl_in (w tk : Nat → Int32) : ((mpl w tk).1 = -1 ∧ (mpl w tk).2 = w) ∨ ∃ a, 16 ≤ a ∧ a ≤ 236 ∧ (mpl w tk).1 = nI a := by
  have mF_in : ∀ m a, 16 ≤ a → a + 4 * m ≤ 240 → (mF w tk m a = -1 ∨ ∃ b, 16 ≤ b ∧ b ≤ 236 ∧ mF w tk m a = nI b) := by
    intro m
    induction m with
    | zero => intro a _ _; exact Or.inl rfl
    | succ m ih =>
      intro a h1 h2
      rw [mF_s]
      split
      · exact Or.inr ⟨a, h1, by omega, rfl⟩
      · exact ih _ (by omega) (by omega)
  unfold mpl
  split
  · split
    · exact Or.inl ⟨rfl, rfl⟩
    next h1 =>
      rcases mlf_in w 14 (-1) (Nat.le_refl _) (Or.inl rfl) with h2 | ⟨k, k1, k2, k3⟩
      · rw [h2] at h1
        exact absurd (by decide) h1
      · refine Or.inr ⟨16 * k, by omega, by omega, ?_⟩
        show nI (16 * na (mlf w 14 (-1))) = nI (16 * k)
        rw [k3, na, nI_clamp (by omega)]
  next h1 =>
    rcases mF_in 56 16 (by omega) (by omega) with h2 | h2
    · rw [h2] at h1
      exact absurd (by decide) h1
    · exact Or.inr h2
/-- the place that a running kernel gives, and what is thrown -/
def mtk (u : St) (x : Int32) : St := uS (uA u 20 (mpl (u.2.1 20) (u.2.1 23)).2) 20 x
def mTN (u : St) (p : Int32) (L : List Nat) : Int32 × St :=
  cond (rns u) (if (mpl (u.2.1 20) (u.2.1 23)).1 < 0 then (0, mtk u 1) else (u.1 21 + 1 - 1, uS (mpu (mwr (mtk u 0) (na (mpl (u.2.1 20) (u.2.1 23)).1) 7001 p (u.1 21)) 0 L [] (na (mpl (u.2.1 20) (u.2.1 23)).1)) 21 (u.1 21 + 1))) (0, uS u 20 1)
def C_M_taskNew : e_C := ⟨St × Int32 × List Nat, 2, fun _ => 0, fun a => rns a.1 = true → LR a.1 0 a.2.2 ∧ (¬ (mpl (a.1.2.1 20) (a.1.2.1 23)).1 < 0 → a.2.2.length < 56), fun a => [.ref 15, .int a.2.1], fun a => Hp a.1, fun a => .inl (some (.int (mTN a.1 a.2.1 a.2.2).1)), fun a => Hp (mTN a.1 a.2.1 a.2.2).2⟩
def S_M_taskNew : List (Nat × e_C) := [(1, C_M_runs), (8, C_M_place), (48, C_M_write), (60, C_M_put)]
theorem s_M_taskNew : ∀ x ∈ S_M_taskNew, e_Site b_M_taskNew "DumpDeskModel" 3 x.1 x.2 := List.forall_mem_cons.mpr ⟨e_siteV (y := y_M_runs) (i := 75) (ci := 6) m_M_runs (by decide) (by decide) (fun _ => rfl) rfl (fun a _ => ⟨_, _, _, rfl, by decide, rfl⟩) rfl (e_in3 204 rfl rfl) (e_in3 206 rfl rfl) (e_in1 8 rfl rfl) (e_in3 207 rfl rfl) (e_inP 5 rfl rfl) ⟨by decide, by decide, rfl⟩ (by decide +kernel), List.forall_mem_cons.mpr ⟨e_siteV (y := y_M_place) (i := 79) (ci := 6) m_M_place (by decide) (by decide) (fun _ => rfl) rfl (fun a _ => ⟨_, _, _, rfl, by decide, rfl⟩) rfl (e_in3 208 rfl rfl) (e_in3 210 rfl rfl) (e_in1 8 rfl rfl) (e_in3 211 rfl rfl) (e_inP 6 rfl rfl) ⟨by decide, by decide, rfl⟩ (by decide +kernel), List.forall_mem_cons.mpr ⟨e_siteV (y := y_M_write) (i := 64) (ci := 6) m_M_write (by decide) (by decide) (fun _ => rfl) rfl (fun a _ => ⟨_, _, _, rfl, by decide, rfl⟩) rfl (e_in3 216 rfl rfl) (e_in3 218 rfl rfl) (e_in1 8 rfl rfl) (e_in3 219 rfl rfl) (e_inP 8 rfl rfl) ⟨by decide, by decide, rfl⟩ (by decide +kernel), List.forall_mem_cons.mpr ⟨e_siteV (y := y_M_put) (i := 85) (ci := 6) m_M_put (by decide) (by decide) (fun _ => rfl) rfl (fun a _ => ⟨_, _, _, rfl, by decide, rfl⟩) rfl (e_in3 220 rfl rfl) (e_in3 222 rfl rfl) (e_in1 8 rfl rfl) (e_in3 223 rfl rfl) (e_inP 9 rfl rfl) ⟨by decide, by decide, rfl⟩ (by decide +kernel), fun x hx => (by cases hx)⟩⟩⟩⟩
theorem v_M_taskNew (u : St) (p : Int32) (L : List Nat) (hp : rns u = true → LR u 0 L ∧ (¬ (mpl (u.2.1 20) (u.2.1 23)).1 < 0 → L.length < 56)) (J : e_Jt) (B : Int32 × St) (hB : mTN u p L = B) (hC : e_P0 F_M S_M_taskNew k_M_taskNew (some (.int B.1)) (Hp B.2) J) : J 0 0 [(0, .ref 15), (1, .int p)] [] (Hp u) := by
  unfold mTN at hB
  have neg : ∀ v : St, B = (0, uS v 20 1) → J 0 15 [(0, .ref 15), (1, .int p)] [.int (-1)] (Hp v) := by
    intro v h1
    refine e_run hC ?_
    conv => whnf
    refine ⟨fun h => absurd h (by decide), fun _ => ?_⟩
    refine e_run hC ?_
    conv => whnf
    refine e_run hC ?_
    conv => whnf
    rw [h_s20]
    refine e_run hC ?_
    conv => whnf
    refine ⟨fun h => absurd h (by decide : ¬ (1 : Int32) ≤ 0), fun _ => ?_⟩
    refine e_run hC ?_
    conv => whnf
    rw [h1]
    exact ⟨rfl, rfl⟩
  refine e_run hC ?_
  conv => whnf
  refine ⟨u, trivial, rfl, rfl, ?_⟩
  conv => whnf
  dsimp only [C_M_runs]
  refine e_run hC ?_
  conv => whnf
  refine ⟨fun h1 => ?_, fun h1 => ?_⟩
  · rw [bi0.mp h1] at hB
    refine e_runTo 15 hC ?_
    conv => whnf
    exact neg u hB.symm
  · have h1 := bi1 h1
    obtain ⟨g1, g2⟩ := hp h1
    rw [h1, cond_true] at hB
    refine e_run hC ?_
    conv => whnf
    refine ⟨u, trivial, rfl, rfl, ?_⟩
    conv => whnf
    dsimp only [C_M_place]
    have hin := mpl_in (u.2.1 20) (u.2.1 23)
    unfold mtk at hB
    generalize mpl (u.2.1 20) (u.2.1 23) = r at hB hin g2 ⊢
    obtain ⟨ra, rw'⟩ := r
    dsimp only at hB hin g2 ⊢
    refine e_runTo 15 hC ?_
    conv => whnf
    rcases hin with ⟨rfl, -⟩ | ⟨a, a1, a2, rfl⟩
    · exact neg _ hB.symm
    · rw [if_neg (nI_pos (by omega)), na, nI_clamp (by omega)] at hB
      have g2 := g2 (nI_pos (by omega))
      refine e_run hC ?_
      conv => whnf
      refine ⟨fun _ => ?_, fun h => absurd (nI_pos' (by omega)) h⟩
      refine e_run hC ?_
      conv => whnf
      rw [h_s20]
      refine e_run hC ?_
      conv => whnf
      refine ⟨fun _ => ?_, fun h => absurd (by decide : (0 : Int32) ≤ 0) h⟩
      refine e_run hC ?_
      conv => whnf
      refine ⟨(uS (uA u 20 rw') 20 0, a, 7001, p, u.1 21), (by omega : a < 253), rfl, rfl, ?_⟩
      conv => whnf
      dsimp only [C_M_write]
      refine e_run hC ?_
      conv => whnf
      refine ⟨vp_in_nI (n := 0) (by decide) (by decide), ?_⟩
      refine e_run hC ?_
      conv => whnf
      refine ⟨(mwr (uS (uA u 20 rw') 20 0) a 7001 p (u.1 21), 0, L, [], a), ⟨(by decide : 0 < 6), by rw [List.append_nil]; exact g1, by rw [List.append_nil]; exact g2, (by omega : a < 253)⟩, ?_, rfl, ?_⟩
      · show [Value.ref 15, .int (nI 0), .int (nI L.length), .int (nI a)] = [Value.ref 15, .int 0, .int (u.2.1 22 0), .int (nI a)]
        rw [g1.1]
        rfl
      conv => whnf
      dsimp only [C_M_put]
      refine e_run hC ?_
      conv => whnf
      rw [h_s21]
      refine e_run hC ?_
      conv => whnf
      rw [← hB]
      exact ⟨rfl, rfl⟩
theorem m_M_taskNew (l : Launch) (hl : l.stackTraces = false) : e_Met l y_M_taskNew b_M_taskNew 3 (some .int) 3 C_M_taskNew :=
  e_met hl F_M C_M S_M_taskNew k_M_taskNew (by decide +kernel) f_M c_M s_M_taskNew o_M_taskNew (fun a _ => ⟨Nat.le_of_ble_eq_true rfl, rfl⟩) (fun a hp => ⟨_, rfl, Or.inr ⟨.int, _, rfl, rfl, rfl⟩, fun J hC => v_M_taskNew a.1 a.2.1 a.2.2 hp J _ rfl hC⟩)
/-- where a timer goes -/
def mbf (m : Nat → Int32) (d : Int32) : List Nat → Nat → Nat → Nat
  | [], _, b => b
  | a :: L, k, b => mbf m d L (k + 1) (if m (a + 2) ≤ d then k + 1 else b)
theorem mbf_le (m : Nat → Int32) (d : Int32) : ∀ (L : List Nat) k b, b ≤ k → mbf m d L k b ≤ k + L.length := by
  intro L
  induction L with
  | nil => intro k b h; exact h
  | cons a L ih =>
    intro k b h
    have := ih (k + 1) (if m (a + 2) ≤ d then k + 1 else b) (by split <;> omega)
    show mbf m d L (k + 1) _ ≤ k + (L.length + 1)
    omega
def mTM (u : St) (d : Int32) (L : List Nat) : St :=
  cond (rns u) (if (mpl (u.2.1 20) (u.2.1 23)).1 < 0 then mtk u 1 else
    mpu (mwr (mtk u 0) (na (mpl (u.2.1 20) (u.2.1 23)).1) 7002 d 0) 1
      (L.take (mbf (wrt (mpl (u.2.1 20) (u.2.1 23)).2 (na (mpl (u.2.1 20) (u.2.1 23)).1) 7002 d 0) d L 0 0))
      (L.drop (mbf (wrt (mpl (u.2.1 20) (u.2.1 23)).2 (na (mpl (u.2.1 20) (u.2.1 23)).1) 7002 d 0) d L 0 0)) (na (mpl (u.2.1 20) (u.2.1 23)).1)) (uS u 20 1)
def C_M_timer : e_C := ⟨St × Int32 × List Nat, 2, fun _ => 0, fun a => rns a.1 = true → LR a.1 1 a.2.2 ∧ (¬ (mpl (a.1.2.1 20) (a.1.2.1 23)).1 < 0 → a.2.2.length < 56), fun a => [.ref 15, .int a.2.1], fun a => Hp a.1, fun _ => .inl none, fun a => Hp (mTM a.1 a.2.1 a.2.2)⟩
def S_M_timer : List (Nat × e_C) := [(1, C_M_runs), (8, C_M_place), (44, C_M_write), (103, C_M_put)]
theorem s_M_timer : ∀ x ∈ S_M_timer, e_Site b_M_timer "DumpDeskModel" 3 x.1 x.2 := List.forall_mem_cons.mpr ⟨e_siteV (y := y_M_runs) (i := 75) (ci := 6) m_M_runs (by decide) (by decide) (fun _ => rfl) rfl (fun a _ => ⟨_, _, _, rfl, by decide, rfl⟩) rfl (e_in3 204 rfl rfl) (e_in3 206 rfl rfl) (e_in1 8 rfl rfl) (e_in3 207 rfl rfl) (e_inP 5 rfl rfl) ⟨by decide, by decide, rfl⟩ (by decide +kernel), List.forall_mem_cons.mpr ⟨e_siteV (y := y_M_place) (i := 79) (ci := 6) m_M_place (by decide) (by decide) (fun _ => rfl) rfl (fun a _ => ⟨_, _, _, rfl, by decide, rfl⟩) rfl (e_in3 208 rfl rfl) (e_in3 210 rfl rfl) (e_in1 8 rfl rfl) (e_in3 211 rfl rfl) (e_inP 6 rfl rfl) ⟨by decide, by decide, rfl⟩ (by decide +kernel), List.forall_mem_cons.mpr ⟨e_siteV (y := y_M_write) (i := 64) (ci := 6) m_M_write (by decide) (by decide) (fun _ => rfl) rfl (fun a _ => ⟨_, _, _, rfl, by decide, rfl⟩) rfl (e_in3 216 rfl rfl) (e_in3 218 rfl rfl) (e_in1 8 rfl rfl) (e_in3 219 rfl rfl) (e_inP 8 rfl rfl) ⟨by decide, by decide, rfl⟩ (by decide +kernel), List.forall_mem_cons.mpr ⟨e_siteV (y := y_M_put) (i := 85) (ci := 6) m_M_put (by decide) (by decide) (fun _ => rfl) rfl (fun a _ => ⟨_, _, _, rfl, by decide, rfl⟩) rfl (e_in3 220 rfl rfl) (e_in3 222 rfl rfl) (e_in1 8 rfl rfl) (e_in3 223 rfl rfl) (e_inP 9 rfl rfl) ⟨by decide, by decide, rfl⟩ (by decide +kernel), fun x hx => (by cases hx)⟩⟩⟩⟩
theorem v_M_timer (u : St) (p : Int32) (L : List Nat) (hp : rns u = true → LR u 1 L ∧ (¬ (mpl (u.2.1 20) (u.2.1 23)).1 < 0 → L.length < 56)) (J : e_Jt) (B : St) (hB : mTM u p L = B) (hC : e_P0 F_M S_M_timer k_M_timer none (Hp B) J) : J 0 0 [(0, .ref 15), (1, .int p)] [] (Hp u) := by
  unfold mTM at hB
  have neg : ∀ v : St, B = uS v 20 1 → J 0 15 [(0, .ref 15), (1, .int p)] [.int (-1)] (Hp v) := by
    intro v h1
    refine e_run hC ?_
    conv => whnf
    refine ⟨fun h => absurd h (by decide), fun _ => ?_⟩
    refine e_run hC ?_
    conv => whnf
    refine e_run hC ?_
    conv => whnf
    rw [h_s20]
    refine e_run hC ?_
    conv => whnf
    refine ⟨fun h => absurd h (by decide : ¬ (1 : Int32) ≤ 0), fun _ => ?_⟩
    refine e_run hC ?_
    conv => whnf
    rw [h1]
    exact ⟨rfl, rfl⟩
  refine e_run hC ?_
  conv => whnf
  refine ⟨u, trivial, rfl, rfl, ?_⟩
  conv => whnf
  dsimp only [C_M_runs]
  refine e_run hC ?_
  conv => whnf
  refine ⟨fun h1 => ?_, fun h1 => ?_⟩
  · rw [bi0.mp h1] at hB
    refine e_runTo 15 hC ?_
    conv => whnf
    exact neg u hB.symm
  · have h1 := bi1 h1
    obtain ⟨g1, g2⟩ := hp h1
    rw [h1, cond_true] at hB
    refine e_run hC ?_
    conv => whnf
    refine ⟨u, trivial, rfl, rfl, ?_⟩
    conv => whnf
    dsimp only [C_M_place]
    have hin := mpl_in (u.2.1 20) (u.2.1 23)
    unfold mtk at hB
    generalize mpl (u.2.1 20) (u.2.1 23) = r at hB hin g2 ⊢
    obtain ⟨ra, rw'⟩ := r
    dsimp only at hB hin g2 ⊢
    refine e_runTo 15 hC ?_
    conv => whnf
    rcases hin with ⟨rfl, -⟩ | ⟨a, a1, a2, rfl⟩
    · exact neg _ hB.symm
    · rw [if_neg (nI_pos (by omega)), na, nI_clamp (by omega)] at hB
      have g2 := g2 (nI_pos (by omega))
      have go : ∀ (D : List Nat) k b, k + D.length = L.length → b ≤ k → ent (u.2.1 21) (56 + k) D → mbf (wrt rw' a 7002 p 0) p D k b = mbf (wrt rw' a 7002 p 0) p L 0 0 → J 0 52 [(0, .ref 15), (1, .int p), (2, .int (nI a)), (3, .int (nI b)), (4, .int (nI k))] [] (Hp (mwr (uS (uA u 20 rw') 20 0) a 7002 p 0)) := by
        intro D
        induction D with
        | nil =>
          intro k b k1 k2 k3 k4
          have k4 : b = mbf (wrt rw' a 7002 p 0) p L 0 0 := k4
          have k1 : k = L.length := k1
          rw [← k4] at hB
          refine e_run hC ?_
          conv => whnf
          refine ⟨vp_in_nI (n := 1) (by decide) (by decide), ?_⟩
          refine e_run hC ?_
          rw [show (mwr (uS (uA u 20 rw') 20 0) a 7002 p 0).2.1 22 (1 : Int32).toNatClampNeg = nI L.length from g1.1]
          conv => whnf
          refine ⟨fun _ => ?_, fun h5 => absurd (nI_le (by omega) (by omega)) h5⟩
          refine e_run hC ?_
          conv => whnf
          refine ⟨(mwr (uS (uA u 20 rw') 20 0) a 7002 p 0, 1, L.take b, L.drop b, a), ⟨(by decide : 1 < 6), by rw [List.take_append_drop]; exact g1, by rw [List.take_append_drop]; exact g2, (by omega : a < 253)⟩, ?_, rfl, ?_⟩
          · show [Value.ref 15, .int (nI 1), .int (nI (L.take b).length), .int (nI a)] = [Value.ref 15, .int 1, .int (nI b), .int (nI a)]
            rw [List.length_take, Nat.min_eq_left (by omega)]
            rfl
          conv => whnf
          dsimp only [C_M_put]
          refine e_run hC ?_
          conv => whnf
          rw [← hB]
          exact ⟨rfl, rfl⟩
        | cons c D ih =>
          intro k b k1 k2 k3 k4
          have k1 : k + (D.length + 1) = L.length := k1
          have k4 : mbf (wrt rw' a 7002 p 0) p D (k + 1) (if wrt rw' a 7002 p 0 (c + 2) ≤ p then k + 1 else b) = mbf (wrt rw' a 7002 p 0) p L 0 0 := k4
          have k5 := k3.2.1
          have nxt : ∀ g, g ≤ k + 1 → (if wrt rw' a 7002 p 0 (c + 2) ≤ p then k + 1 else b) = g → J 0 92 [(0, .ref 15), (1, .int p), (2, .int (nI a)), (3, .int (nI b)), (4, .int (nI k))] [.int (nI g)] (Hp (mwr (uS (uA u 20 rw') 20 0) a 7002 p 0)) := by
            intro g hg hg2
            refine e_run hC ?_
            conv => whnf
            rw [nI_1]
            exact ih (k + 1) g (by omega) hg k3.2.2 (by rw [← hg2]; exact k4)
          refine e_run hC ?_
          conv => whnf
          refine ⟨vp_in_nI (n := 1) (by decide) (by decide), ?_⟩
          refine e_run hC ?_
          rw [show (mwr (uS (uA u 20 rw') 20 0) a 7002 p 0).2.1 22 (1 : Int32).toNatClampNeg = nI L.length from g1.1]
          conv => whnf
          have g3 := g1.2.1
          refine ⟨fun h5 => absurd h5 (nI_ge (by omega) (by omega)), fun _ => ?_⟩
          refine e_run hC ?_
          conv => whnf
          rw [show (56 : Int32) = nI 56 from rfl, nI_add]
          refine ⟨vp_in_nI (by omega) (by decide), ?_⟩
          rw [nI_clamp (by omega), show (mwr (uS (uA u 20 rw') 20 0) a 7002 p 0).2.1 21 (56 + k) = nI c from k3.1]
          refine e_run hC ?_
          conv => whnf
          rw [show (2 : Int32) = nI 2 from rfl, nI_add]
          refine ⟨vp_in_nI (by omega) (by decide), ?_⟩
          rw [nI_clamp (by omega), show (mwr (uS (uA u 20 rw') 20 0) a 7002 p 0).2.1 20 = wrt rw' a 7002 p 0 from rfl]
          refine e_run hC ?_
          conv => whnf
          refine ⟨fun h5 => ?_, fun h5 => ?_⟩
          · refine e_runTo 92 hC ?_
            conv => whnf
            exact nxt b (by omega) (by rw [if_neg (Int32.not_le.mpr h5)])
          · refine e_runTo 92 hC ?_
            conv => whnf
            rw [nI_1]
            exact nxt (k + 1) (Nat.le_refl _) (by rw [if_pos (Int32.not_lt.mp h5)])
      refine e_run hC ?_
      conv => whnf
      refine ⟨fun _ => ?_, fun h => absurd (nI_pos' (by omega)) h⟩
      refine e_run hC ?_
      conv => whnf
      rw [h_s20]
      refine e_run hC ?_
      conv => whnf
      refine ⟨fun _ => ?_, fun h => absurd (by decide : (0 : Int32) ≤ 0) h⟩
      refine e_run hC ?_
      conv => whnf
      refine ⟨(uS (uA u 20 rw') 20 0, a, 7002, p, 0), (by omega : a < 253), rfl, rfl, ?_⟩
      conv => whnf
      dsimp only [C_M_write]
      refine e_runTo 52 hC ?_
      conv => whnf
      exact go L 0 0 (by omega) (Nat.le_refl _) g1.2.2 rfl
theorem m_M_timer (l : Launch) (hl : l.stackTraces = false) : e_Met l y_M_timer b_M_timer 5 none 3 C_M_timer :=
  e_met hl F_M C_M S_M_timer k_M_timer (by decide +kernel) f_M c_M s_M_timer o_M_timer (fun a _ => ⟨Nat.le_of_ble_eq_true rfl, rfl⟩) (fun a hp => ⟨_, rfl, Or.inl ⟨rfl, rfl⟩, fun J hC => v_M_timer a.1 a.2.1 a.2.2 hp J _ rfl hC⟩)
def mFI (u : St) (d : Bool) (s : Int32) : Int32 × St :=
  cond (rns u) (if mlf (u.2.1 20) 14 (-1) < 0 then (0, uS u 20 1) else (mlf (u.2.1 20) 14 (-1), uA (uS u 20 0) 20 (fsd (mfl (u.2.1 20) (na (mlf (u.2.1 20) 14 (-1))) (cond d 3 2)) (16 * na (mlf (u.2.1 20) 14 (-1))) 16 s))) (0, uS u 20 1)
def C_M_file : e_C := ⟨St × Bool × Int32, 3, fun _ => 0, fun _ => True, fun a => [.ref 15, .int (bi a.2.1), .int a.2.2], fun a => Hp a.1, fun a => .inl (some (.int (mFI a.1 a.2.1 a.2.2).1)), fun a => Hp (mFI a.1 a.2.1 a.2.2).2⟩
def S_M_file : List (Nat × e_C) := [(1, C_M_runs), (8, C_M_lowestFree), (49, C_M_flag)]
theorem s_M_file : ∀ x ∈ S_M_file, e_Site b_M_file "DumpDeskModel" 2 x.1 x.2 := List.forall_mem_cons.mpr ⟨e_siteV (y := y_M_runs) (i := 75) (ci := 6) m_M_runs (by decide) (by decide) (fun _ => rfl) rfl (fun a _ => ⟨_, _, _, rfl, by decide, rfl⟩) rfl (e_in3 204 rfl rfl) (e_in3 206 rfl rfl) (e_in1 8 rfl rfl) (e_in3 207 rfl rfl) (e_inP 5 rfl rfl) ⟨by decide, by decide, rfl⟩ (by decide +kernel), List.forall_mem_cons.mpr ⟨e_siteV (y := y_M_lowestFree) (i := 56) (ci := 6) m_M_lowestFree (by decide) (by decide) (fun _ => rfl) rfl (fun a _ => ⟨_, _, _, rfl, by decide, rfl⟩) rfl (e_in3 212 rfl rfl) (e_in3 214 rfl rfl) (e_in1 8 rfl rfl) (e_in3 215 rfl rfl) (e_inP 7 rfl rfl) ⟨by decide, by decide, rfl⟩ (by decide +kernel), List.forall_mem_cons.mpr ⟨e_siteV (y := y_M_flag) (i := 44) (ci := 6) m_M_flag (by decide) (by decide) (fun _ => rfl) rfl (fun a _ => ⟨_, _, _, rfl, by decide, rfl⟩) rfl (e_in3 121 rfl rfl) (e_in3 123 rfl rfl) (e_in1 8 rfl rfl) (e_in3 124 rfl rfl) (e_inP 3 rfl rfl) ⟨by decide, by decide, rfl⟩ (by decide +kernel), fun x hx => (by cases hx)⟩⟩⟩
theorem v_M_file (u : St) (d : Bool) (s : Int32) (J : e_Jt) (B : Int32 × St) (hB : mFI u d s = B) (hC : e_P0 F_M S_M_file k_M_file (some (.int B.1)) (Hp B.2) J) : J 0 0 [(0, .ref 15), (1, .int (bi d)), (2, .int s)] [] (Hp u) := by
  unfold mFI at hB
  have neg : B = (0, uS u 20 1) → J 0 15 [(0, .ref 15), (1, .int (bi d)), (2, .int s)] [.int (-1)] (Hp u) := by
    intro h1
    refine e_run hC ?_
    conv => whnf
    refine ⟨fun h => absurd h (by decide), fun _ => ?_⟩
    refine e_run hC ?_
    conv => whnf
    refine e_run hC ?_
    conv => whnf
    rw [h_s20]
    refine e_run hC ?_
    conv => whnf
    refine ⟨fun h => absurd h (by decide : ¬ (1 : Int32) ≤ 0), fun _ => ?_⟩
    refine e_run hC ?_
    conv => whnf
    rw [h1]
    exact ⟨rfl, rfl⟩
  refine e_run hC ?_
  conv => whnf
  refine ⟨u, trivial, rfl, rfl, ?_⟩
  conv => whnf
  dsimp only [C_M_runs]
  refine e_run hC ?_
  conv => whnf
  refine ⟨fun h1 => ?_, fun h1 => ?_⟩
  · rw [bi0.mp h1] at hB
    refine e_runTo 15 hC ?_
    conv => whnf
    exact neg hB.symm
  · have h1 := bi1 h1
    rw [h1, cond_true] at hB
    refine e_run hC ?_
    conv => whnf
    refine ⟨u, trivial, rfl, rfl, ?_⟩
    conv => whnf
    dsimp only [C_M_lowestFree]
    have hlf := mlf_in (u.2.1 20) 14 (-1) (Nat.le_refl _) (Or.inl rfl)
    generalize mlf (u.2.1 20) 14 (-1) = q at hB hlf
    refine e_runTo 15 hC ?_
    conv => whnf
    rcases hlf with rfl | ⟨k, k1, k2, rfl⟩
    · exact neg hB.symm
    · rw [if_neg (nI_pos (by omega)), na, nI_clamp (by omega)] at hB
      have go : ∀ n j f, j + n = 16 → fsd (mfl (u.2.1 20) k (cond d 3 2)) (16 * k) 16 s = fsd f (16 * k + j) n (s + nI j) → J 0 55 [(0, .ref 15), (1, .int (bi d)), (2, .int s), (3, .int (nI k)), (4, .int (nI j))] [] (Hp (uA (uS u 20 0) 20 f)) := by
        intro n
        induction n with
        | zero =>
          intro j f j1 j2
          refine e_run hC ?_
          conv => whnf
          refine ⟨fun _ => ?_, fun h5 => absurd (nI_le (a := 16) (by omega) (by omega)) h5⟩
          refine e_run hC ?_
          conv => whnf
          rw [← hB, j2]
          refine ⟨rfl, ?_⟩
          congr 2
          funext i
          unfold fsd
          rw [if_neg (by omega)]
        | succ n ih =>
          intro j f j1 j2
          refine e_run hC ?_
          conv => whnf
          refine ⟨fun h5 => absurd h5 (nI_ge (b := 16) (by omega) (by decide)), fun _ => ?_⟩
          refine e_run hC ?_
          conv => whnf
          rw [m16l, nI_add]
          refine ⟨vp_in_nI (by omega) (by decide), ?_⟩
          rw [nI_clamp (by omega), h_a20, uA_uA]
          refine e_run hC ?_
          conv => whnf
          rw [nI_1]
          refine ih (j + 1) _ (by omega) ?_
          rw [j2]
          funext i
          unfold fsd
          show _ = if _ then _ else upd f (16 * k + j) (s + nI j) i
          by_cases hi : i = 16 * k + j
          · rw [if_pos (by omega), if_neg (by omega), hi, pk_us, Nat.sub_self]
            show s + nI j + 0 = s + nI j
            rw [Int32.add_zero]
          · rw [pk_un hi]
            by_cases hi2 : 16 * k + j ≤ i ∧ i < 16 * k + j + (n + 1)
            · rw [if_pos hi2, if_pos (by omega), Int32.add_assoc, Int32.add_assoc, nI_add, nI_add]
              congr 2
              omega
            · rw [if_neg hi2, if_neg (by omega)]
      have mid : ∀ x : Int32, x = cond d 3 2 → J 0 49 [(0, .ref 15), (1, .int (bi d)), (2, .int s), (3, .int (nI k))] [.int x, .int (nI k), .ref 15] (Hp (uS u 20 0)) := by
        intro x hx
        refine e_run hC ?_
        conv => whnf
        refine ⟨(uS u 20 0, k, x), (by omega : k < 16), rfl, rfl, ?_⟩
        conv => whnf
        dsimp only [C_M_flag]
        refine e_runTo 55 hC ?_
        conv => whnf
        refine go 16 0 _ rfl ?_
        rw [hx]
        show fsd _ _ _ s = fsd _ _ _ (s + 0)
        rw [Int32.add_zero]
        rfl
      refine e_run hC ?_
      conv => whnf
      refine ⟨fun _ => ?_, fun h => absurd (nI_pos' (by omega)) h⟩
      refine e_run hC ?_
      conv => whnf
      rw [h_s20]
      refine e_run hC ?_
      conv => whnf
      refine ⟨fun _ => ?_, fun h => absurd (by decide : (0 : Int32) ≤ 0) h⟩
      refine e_run hC ?_
      conv => whnf
      refine ⟨fun h => ?_, fun h => ?_⟩
      · refine e_runTo 49 hC ?_
        conv => whnf
        exact mid 2 (by rw [bi0.mp h]; rfl)
      · refine e_runTo 49 hC ?_
        conv => whnf
        exact mid 3 (by rw [bi1 h]; rfl)
theorem m_M_file (l : Launch) (hl : l.stackTraces = false) : e_Met l y_M_file b_M_file 5 (some .int) 2 C_M_file :=
  e_met hl F_M C_M S_M_file k_M_file (by decide +kernel) f_M c_M s_M_file o_M_file (fun a _ => ⟨Nat.le_of_ble_eq_true rfl, rfl⟩) (fun a hp => ⟨_, rfl, Or.inr ⟨.int, _, rfl, rfl, rfl⟩, fun J hC => v_M_file a.1 a.2.1 a.2.2 J _ rfl hC⟩)
def mLG (u : St) (x : Int32) (n : Nat) : St := cond (rns u) (uA (uS u 20 0) 20 (upd (upd (u.2.1 20) (240 + n % 16) x) 6 (nI (n + 1)))) (uS u 20 1)
def C_M_log : e_C := ⟨St × Int32 × Nat, 2, fun _ => 0, fun a => rns a.1 = true → a.2.2 < 1024 ∧ a.1.2.1 20 6 = nI a.2.2, fun a => [.ref 15, .int a.2.1], fun a => Hp a.1, fun _ => .inl none, fun a => Hp (mLG a.1 a.2.1 a.2.2)⟩
def S_M_log : List (Nat × e_C) := [(2, C_M_runs)]
theorem s_M_log : ∀ x ∈ S_M_log, e_Site b_M_log "DumpDeskModel" 1 x.1 x.2 := List.forall_mem_cons.mpr ⟨e_siteV (y := y_M_runs) (i := 75) (ci := 6) m_M_runs (by decide) (by decide) (fun _ => rfl) rfl (fun a _ => ⟨_, _, _, rfl, by decide, rfl⟩) rfl (e_in3 204 rfl rfl) (e_in3 206 rfl rfl) (e_in1 8 rfl rfl) (e_in3 207 rfl rfl) (e_inP 5 rfl rfl) ⟨by decide, by decide, rfl⟩ (by decide +kernel), fun x hx => (by cases hx)⟩
theorem v_M_log (u : St) (x : Int32) (n : Nat) (hp : rns u = true → n < 1024 ∧ u.2.1 20 6 = nI n) (J : e_Jt) (hC : e_P0 F_M S_M_log k_M_log none (Hp (mLG u x n)) J) : J 0 0 [(0, .ref 15), (1, .int x)] [] (Hp u) := by
  unfold mLG at hC
  refine e_run hC ?_
  conv => whnf
  refine ⟨u, trivial, rfl, rfl, ?_⟩
  conv => whnf
  dsimp only [C_M_runs]
  refine e_run hC ?_
  conv => whnf
  refine ⟨fun h1 => ?_, fun h1 => ?_⟩
  · rw [bi0.mp h1] at hC
    refine e_run hC ?_
    conv => whnf
    rw [h_s20]
    refine e_run hC ?_
    conv => whnf
    refine ⟨fun h => absurd h (by decide : ¬ (1 : Int32) ≤ 0), fun _ => ?_⟩
    refine e_run hC ?_
    conv => whnf
    exact ⟨rfl, rfl⟩
  · have h1 := bi1 h1
    obtain ⟨g1, g2⟩ := hp h1
    rw [h1, cond_true] at hC
    refine e_run hC ?_
    conv => whnf
    refine e_run hC ?_
    conv => whnf
    rw [h_s20]
    refine e_run hC ?_
    conv => whnf
    refine ⟨fun _ => ?_, fun h => absurd (by decide : (0 : Int32) ≤ 0) h⟩
    refine e_run hC ?_
    conv => whnf
    refine ⟨vp_in_nI (n := 6) (by decide) (by decide), ?_⟩
    rw [show (uS u 20 0).2.1 20 (6 : Int32).toNatClampNeg = nI n from g2]
    refine e_run hC ?_
    conv => whnf
    refine ⟨by decide, ?_⟩
    rw [show (16 : Int32) = nI 16 from rfl, pk_rem (by omega) (by decide) (by decide)]
    refine e_run hC ?_
    conv => whnf
    rw [show (240 : Int32) = nI 240 from rfl, nI_add]
    refine ⟨vp_in_nI (by omega) (by decide), ?_⟩
    rw [nI_clamp (by omega), h_a20]
    refine e_run hC ?_
    conv => whnf
    refine ⟨vp_in_nI (n := 6) (by decide) (by decide), ?_⟩
    rw [show (uA (uS u 20 0) 20 (upd ((uS u 20 0).2.1 20) (240 + n % 16) x)).2.1 20 (6 : Int32).toNatClampNeg = nI n from (pk_un (show 6 ≠ 240 + n % 16 by omega)).trans g2]
    refine e_run hC ?_
    conv => whnf
    refine ⟨vp_in_nI (n := 6) (by decide) (by decide), ?_⟩
    rw [h_a20, uA_uA, nI_1]
    refine e_run hC ?_
    conv => whnf
    exact ⟨rfl, rfl⟩
theorem m_M_log (l : Launch) (hl : l.stackTraces = false) : e_Met l y_M_log b_M_log 2 none 1 C_M_log :=
  e_met hl F_M C_M S_M_log k_M_log (by decide +kernel) f_M c_M s_M_log o_M_log (fun a _ => ⟨Nat.le_of_ble_eq_true rfl, rfl⟩) (fun a hp => ⟨_, rfl, Or.inl ⟨rfl, rfl⟩, v_M_log a.1 a.2.1 a.2.2 hp⟩)
theorem inn_of {x : Int32} {n : Nat} (hn : n < 2 ^ 31) (h : inn x 0 (nI n) = true) : x = nI (na x) ∧ na x ≤ n := by
  unfold inn at h
  rw [Bool.and_eq_true] at h
  have h1 := of_decide_eq_true h.1
  have h2 := of_decide_eq_true h.2
  obtain ⟨j, h3, h4⟩ := nI_of (Int32.not_lt.mpr h1)
  subst h4
  rw [na, nI_clamp h3]
  exact ⟨rfl, (nI_leI h3 hn).mp h2⟩
def mPK (u : St) (a x : Int32) : St := cond (inn a 0 255) (if u.1 23 = 0 then uS (uA (uS u 20 0) 20 (upd (u.2.1 20) (na a) x)) 22 1 else uS u 20 2) (uS u 20 1)
def C_M_poke : e_C := ⟨St × Int32 × Int32, 3, fun _ => 0, fun _ => True, fun a => [.ref 15, .int a.2.1, .int a.2.2], fun a => Hp a.1, fun _ => .inl none, fun a => Hp (mPK a.1 a.2.1 a.2.2)⟩
def S_M_poke : List (Nat × e_C) := [(6, C_M_in)]
theorem s_M_poke : ∀ x ∈ S_M_poke, e_Site b_M_poke "DumpDeskModel" 1 x.1 x.2 := List.forall_mem_cons.mpr ⟨e_siteS (y := y_M_in) (i := 89) m_M_in (by decide) (by decide) (fun _ => rfl) (e_in3 232 rfl rfl) (e_in3 233 rfl rfl) (e_in1 8 rfl rfl) (e_in3 234 rfl rfl) ⟨by decide, by decide, rfl⟩ (by decide +kernel), fun x hx => (by cases hx)⟩
theorem v_M_poke (u : St) (a x : Int32) (J : e_Jt) (hC : e_P0 F_M S_M_poke k_M_poke none (Hp (mPK u a x)) J) : J 0 0 [(0, .ref 15), (1, .int a), (2, .int x)] [] (Hp u) := by
  unfold mPK at hC
  refine e_run hC ?_
  conv => whnf
  refine ⟨(Hp u, a, 0, 255), trivial, rfl, rfl, ?_⟩
  conv => whnf
  dsimp only [C_M_in]
  refine e_run hC ?_
  conv => whnf
  refine ⟨fun h1 => ?_, fun h1 => ?_⟩
  · have h1 := bi1 h1
    rw [h1, cond_true] at hC
    obtain ⟨g1, g2⟩ := inn_of (n := 255) (by decide) h1
    refine e_run hC ?_
    conv => whnf
    refine ⟨fun h2 => ?_, fun h2 => ?_⟩
    · rw [if_pos h2] at hC
      refine e_run hC ?_
      conv => whnf
      rw [h_s20]
      refine e_run hC ?_
      conv => whnf
      refine ⟨fun _ => ?_, fun h => absurd (by decide : (0 : Int32) ≤ 0) h⟩
      refine e_run hC ?_
      conv => whnf
      rw [g1]
      refine ⟨vp_in_nI (by omega) (by decide), ?_⟩
      rw [nI_clamp (by omega), h_a20]
      refine e_run hC ?_
      conv => whnf
      refine ⟨⟨rfl, rfl⟩, ?_⟩
      conv => whnf
      rw [h_s22]
      refine e_run hC ?_
      conv => whnf
      exact ⟨rfl, rfl⟩
    · rw [if_neg h2] at hC
      refine e_run hC ?_
      conv => whnf
      refine e_run hC ?_
      conv => whnf
      rw [h_s20]
      refine e_run hC ?_
      conv => whnf
      refine ⟨fun h => absurd h (by decide : ¬ (2 : Int32) ≤ 0), fun _ => ?_⟩
      refine e_run hC ?_
      conv => whnf
      exact ⟨rfl, rfl⟩
  · rw [bi0.mp h1] at hC
    refine e_run hC ?_
    conv => whnf
    refine e_run hC ?_
    conv => whnf
    rw [h_s20]
    refine e_run hC ?_
    conv => whnf
    refine ⟨fun h => absurd h (by decide : ¬ (1 : Int32) ≤ 0), fun _ => ?_⟩
    refine e_run hC ?_
    conv => whnf
    exact ⟨rfl, rfl⟩
theorem m_M_poke (l : Launch) (hl : l.stackTraces = false) : e_Met l y_M_poke b_M_poke 3 none 1 C_M_poke :=
  e_met hl F_M C_M S_M_poke k_M_poke (by decide +kernel) f_M c_M s_M_poke o_M_poke (fun a _ => ⟨Nat.le_of_ble_eq_true rfl, rfl⟩) (fun a hp => ⟨_, rfl, Or.inl ⟨rfl, rfl⟩, v_M_poke a.1 a.2.1 a.2.2⟩)
def mME (u : St) (a : Int32) : Int32 × St := cond (inn a 0 255) (u.2.1 20 (na a), uS u 20 0) (0, uS (uS u 20 0) 20 1)
def C_M_memory : e_C := ⟨St × Int32, 2, fun _ => 0, fun _ => True, fun a => [.ref 15, .int a.2], fun a => Hp a.1, fun a => .inl (some (.int (mME a.1 a.2).1)), fun a => Hp (mME a.1 a.2).2⟩
def S_M_memory : List (Nat × e_C) := [(10, C_M_in), (27, C_M_fail)]
theorem s_M_memory : ∀ x ∈ S_M_memory, e_Site b_M_memory "DumpDeskModel" 1 x.1 x.2 := List.forall_mem_cons.mpr ⟨e_siteS (y := y_M_in) (i := 89) m_M_in (by decide) (by decide) (fun _ => rfl) (e_in3 232 rfl rfl) (e_in3 233 rfl rfl) (e_in1 8 rfl rfl) (e_in3 234 rfl rfl) ⟨by decide, by decide, rfl⟩ (by decide +kernel), List.forall_mem_cons.mpr ⟨e_siteV (y := y_M_fail) (i := 96) (ci := 6) m_M_fail (by decide) (by decide) (fun _ => rfl) rfl (fun a _ => ⟨_, _, _, rfl, by decide, rfl⟩) rfl (e_in4 7 rfl rfl) (e_in4 9 rfl rfl) (e_in1 8 rfl rfl) (e_in4 10 rfl rfl) (e_inP 12 rfl rfl) ⟨by decide, by decide, rfl⟩ (by decide +kernel), fun x hx => (by cases hx)⟩⟩
theorem v_M_memory (u : St) (a : Int32) (J : e_Jt) (hC : e_P0 F_M S_M_memory k_M_memory (some (.int (mME u a).1)) (Hp (mME u a).2) J) : J 0 0 [(0, .ref 15), (1, .int a)] [] (Hp u) := by
  unfold mME at hC
  refine e_run hC ?_
  conv => whnf
  rw [h_s20]
  refine e_run hC ?_
  conv => whnf
  refine ⟨(Hp (uS u 20 0), a, 0, 255), trivial, rfl, rfl, ?_⟩
  conv => whnf
  dsimp only [C_M_in]
  refine e_run hC ?_
  conv => whnf
  refine ⟨fun h1 => ?_, fun h1 => ?_⟩
  · rw [bi0.mp h1] at hC
    refine e_run hC ?_
    conv => whnf
    refine ⟨(uS u 20 0, 1), trivial, rfl, rfl, ?_⟩
    conv => whnf
    dsimp only [C_M_fail]
    refine e_run hC ?_
    conv => whnf
    exact ⟨rfl, rfl⟩
  · have h1 := bi1 h1
    rw [h1, cond_true] at hC
    obtain ⟨g1, g2⟩ := inn_of (n := 255) (by decide) h1
    refine e_run hC ?_
    conv => whnf
    rw [g1]
    refine ⟨vp_in_nI (by omega) (by decide), ?_⟩
    rw [nI_clamp (by omega)]
    refine e_run hC ?_
    conv => whnf
    refine e_run hC ?_
    conv => whnf
    exact ⟨rfl, rfl⟩
theorem m_M_memory (l : Launch) (hl : l.stackTraces = false) : e_Met l y_M_memory b_M_memory 2 (some .int) 1 C_M_memory :=
  e_met hl F_M C_M S_M_memory k_M_memory (by decide +kernel) f_M c_M s_M_memory o_M_memory (fun a _ => ⟨Nat.le_of_ble_eq_true rfl, rfl⟩) (fun a hp => ⟨_, rfl, Or.inr ⟨.int, _, rfl, rfl, rfl⟩, v_M_memory a.1 a.2⟩)
def C_M_halt : e_C := ⟨St, 1, fun _ => 0, fun _ => True, fun _ => [.ref 15], fun a => Hp a, fun _ => .inl none, fun a => Hp (uS (uS a 20 0) 23 1)⟩
def S_M_halt : List (Nat × e_C) := []
theorem s_M_halt : ∀ x ∈ S_M_halt, e_Site b_M_halt "DumpDeskModel" 0 x.1 x.2 := fun x hx => (by cases hx)
theorem v_M_halt (u : St) (J : e_Jt) (hC : e_P0 F_M S_M_halt k_M_halt none (Hp (uS (uS u 20 0) 23 1)) J) : J 0 0 [(0, .ref 15)] [] (Hp u) := by
  refine e_run hC ?_
  conv => whnf
  rw [h_s20]
  refine e_run hC ?_
  conv => whnf
  refine ⟨⟨rfl, rfl⟩, ?_⟩
  conv => whnf
  rw [h_s23]
  refine e_run hC ?_
  conv => whnf
  exact ⟨rfl, rfl⟩
theorem m_M_halt (l : Launch) (hl : l.stackTraces = false) : e_Met l y_M_halt b_M_halt 1 none 0 C_M_halt :=
  e_met hl F_M C_M S_M_halt k_M_halt (by decide +kernel) f_M c_M s_M_halt o_M_halt (fun a _ => ⟨Nat.le_of_ble_eq_true rfl, rfl⟩) (fun a hp => ⟨_, rfl, Or.inl ⟨rfl, rfl⟩, v_M_halt a⟩)
def mSE (u : St) (s : Int32) (b : Bool) : St := cond (inn s 0 95) (uA (uS u 20 0) 25 (upd (u.2.1 25) (na s) (bi b))) (uS u 20 1)
def C_M_sector : e_C := ⟨St × Int32 × Bool, 3, fun _ => 0, fun _ => True, fun a => [.ref 15, .int a.2.1, .int (bi a.2.2)], fun a => Hp a.1, fun _ => .inl none, fun a => Hp (mSE a.1 a.2.1 a.2.2)⟩
def S_M_sector : List (Nat × e_C) := [(5, C_M_in)]
theorem s_M_sector : ∀ x ∈ S_M_sector, e_Site b_M_sector "DumpDeskModel" 1 x.1 x.2 := List.forall_mem_cons.mpr ⟨e_siteS (y := y_M_in) (i := 89) m_M_in (by decide) (by decide) (fun _ => rfl) (e_in3 232 rfl rfl) (e_in3 233 rfl rfl) (e_in1 8 rfl rfl) (e_in3 234 rfl rfl) ⟨by decide, by decide, rfl⟩ (by decide +kernel), fun x hx => (by cases hx)⟩
theorem v_M_sector (u : St) (s : Int32) (b : Bool) (J : e_Jt) (hC : e_P0 F_M S_M_sector k_M_sector none (Hp (mSE u s b)) J) : J 0 0 [(0, .ref 15), (1, .int s), (2, .int (bi b))] [] (Hp u) := by
  unfold mSE at hC
  refine e_run hC ?_
  conv => whnf
  refine ⟨(Hp u, s, 0, 95), trivial, rfl, rfl, ?_⟩
  conv => whnf
  dsimp only [C_M_in]
  refine e_run hC ?_
  conv => whnf
  refine ⟨fun h1 => ?_, fun h1 => ?_⟩
  · rw [bi0.mp h1] at hC
    refine e_run hC ?_
    conv => whnf
    rw [h_s20]
    refine e_run hC ?_
    conv => whnf
    refine ⟨fun _ => ?_, fun h => absurd h (by decide : ¬ (1 : Int32) = 0)⟩
    refine e_run hC ?_
    conv => whnf
    exact ⟨rfl, rfl⟩
  · have h1 := bi1 h1
    rw [h1, cond_true] at hC
    obtain ⟨g1, g2⟩ := inn_of (n := 95) (by decide) h1
    refine e_run hC ?_
    conv => whnf
    refine e_run hC ?_
    conv => whnf
    rw [h_s20]
    refine e_run hC ?_
    conv => whnf
    refine ⟨fun h => absurd rfl h, fun _ => ?_⟩
    refine e_run hC ?_
    conv => whnf
    rw [g1]
    refine ⟨vp_in_nI (by omega) (by decide), ?_⟩
    rw [nI_clamp (by omega), nar_bi, h_a25]
    refine e_run hC ?_
    conv => whnf
    exact ⟨rfl, rfl⟩
theorem m_M_sector (l : Launch) (hl : l.stackTraces = false) : e_Met l y_M_sector b_M_sector 3 none 1 C_M_sector :=
  e_met hl F_M C_M S_M_sector k_M_sector (by decide +kernel) f_M c_M s_M_sector o_M_sector (fun a _ => ⟨Nat.le_of_ble_eq_true rfl, rfl⟩) (fun a hp => ⟨_, rfl, Or.inl ⟨rfl, rfl⟩, v_M_sector a.1 a.2.1 a.2.2⟩)
