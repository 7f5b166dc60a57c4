/-! the law: its cases (by wip/tools/lawcases.py) -/
theorem z_LG2 {t : Nat} {u : St} {x : Int32} (ht : t < 512) (h : Inv t u) : ∃ n, (rnc u = true → n < 1024 ∧ u.2.1 0 6 = nI n) ∧ ((dLG u x n).1 ≤ 1 ∧ C_M_log.2.2.2.1 ((dLG u x n).2, x, n) ∧ (mLG (dLG u x n).2 x n).1 20 = nI (dLG u x n).1 ∧ Inv (t + 1) (mLG (dLG u x n).2 x n)) := by
  have hn : ∃ n, rnc u = true → n < 1024 ∧ u.2.1 0 6 = nI n := by
    obtain ⟨n, h1, -⟩ := z_LG (u1 := u) (x := x) ht h
    exact ⟨n, h1⟩
  cases hr : rnc u with
  | false =>
    refine ⟨0, (fun z => by cases z), ?_⟩
    have e1 : dLG u x 0 = (1, u) := by unfold dLG; rw [hr]; rfl
    rw [e1]
    have hr' : rns u = false := by rw [← rnc_rns h.1]; exact hr
    refine ⟨Nat.le_refl _, (fun z => by rw [show rns u = true from z] at hr'; cases hr'), ?_⟩
    unfold mLG
    dsimp only
    rw [hr']
    exact ⟨rfl, Inv_thr h rfl rfl⟩
  | true =>
    have hrs : rns u = true := by rw [← rnc_rns h.1]; exact hr
    obtain ⟨Λ, g, n, k1, k2⟩ := h.1.2.2 hrs
    have hn6 : u.2.1 0 6 = nI n := by rw [h.1.2.1]; exact k1.2.1.1
    have hnt := k1.2.1.2
    obtain ⟨n', h1, h2⟩ := z_LG (u1 := (dLG u x n).2) (x := x) ht h
    have hnn : n' = n := by
      obtain ⟨z1, z2⟩ := h1 hr
      rw [hn6] at z2
      exact ((nI_eq (by omega) (by omega)).mp z2).symm
    subst hnn
    exact ⟨n', fun _ => h1 hr, h2 rfl rfl⟩
theorem z_ND3 {t : Nat} {u : St} {k w : Int32} (h : Inv t u) : ∃ c, (¬ u.1 8 = 0 → c ≤ 57 ∧ u.1 9 = nI c ∧ ∀ j, j < c → pl (u.2.1 7 j) = true) ∧ ∀ u1 : St, u1.1 = u.1 → u1.2.1 = u.2.1 → C_M_node.2.2.2.1 (u1, k, w, c) ∧ (dND u k w c).1 ≤ 3 ∧ (mND u1 k w c).2.1 20 = nI (dND u k w c).1 ∧ ((dND u k w c).1 = 0 → (mND u1 k w c).1 = (dND u k w c).2) ∧ Inv (t + 1) (mND u1 k w c).2 := by
  have hi : inn w 0 2 = bel w 3 := inn_bel (n := 3) (by decide) w
  obtain ⟨g1, g2, g3, g4, g5⟩ := h.2.2
  by_cases c : u.1 8 = 0
  · refine ⟨0, fun z => absurd c z, fun u1 e1 e2 => ⟨fun z => absurd (show u1.1 27 = 0 by rw [e1, ← g4]; exact c) z, ?_⟩⟩
    unfold dND mND
    rw [hi, e1, ← g4, if_pos c, decide_eq_true c]
    cases hb : bel w 3 with
    | false =>
      dsimp only [cond_false]
      exact ⟨by decide, rfl, fun z => absurd z (by decide), Inv_thr h e1 e2⟩
    | true =>
      dsimp only [cond_true]
      exact ⟨by decide, rfl, fun z => absurd z (by decide), Inv_thr h e1 e2⟩
  · obtain ⟨n, n1, n2, n3, z1, z2, z3⟩ := g5 c
    refine ⟨n, fun _ => ⟨n1, n2, fun j hj => (z3 j hj).2.1⟩, fun u1 e1 e2 => ⟨fun _ => ⟨n1, by show u1.1 28 = nI n; rw [e1]; exact n3, fun j hj => by show pl (u1.2.1 30 j) = true; rw [e2, ← (z3 j hj).1]; exact (z3 j hj).2.1⟩, ?_⟩⟩
    unfold dND mND
    rw [hi, e1, ← g4, if_neg c, decide_eq_false c, inn_bel (by omega), e2]
    cases hb : bel w 3 with
    | false =>
      dsimp only [cond_false]
      exact ⟨by decide, rfl, fun z => absurd z (by decide), Inv_thr h e1 e2⟩
    | true =>
      dsimp only [cond_true, cond_false]
      cases hk : bel k (nI n) with
      | false =>
        dsimp only [cond_false]
        exact ⟨by decide, rfl, fun z => absurd z (by decide), Inv_thr h e1 e2⟩
      | true =>
        dsimp only [cond_true]
        obtain ⟨k1, k2⟩ := bel_ix (by omega) hk
        obtain ⟨w1, w2⟩ := bel_ix (n := 3) (by decide) hb
        obtain ⟨y1, y2, y3⟩ := z3 (na k) k2
        refine ⟨by decide, rfl, fun _ => ?_, Inv_thr h e1 e2⟩
        rw [← y1]
        obtain ⟨x1, x2, x3, x4⟩ := pl_na y2
        by_cases c0 : w = 0
        · rw [if_pos c0, if_pos c0]
        · rw [if_neg c0, if_neg c0]
          have := g2 (na (u.2.1 7 (na k)) / 16) (by omega) y3 (na (u.2.1 7 (na k)) % 16 + 1 + na w) (by omega)
          rw [show 16 * (na (u.2.1 7 (na k)) / 16) + (na (u.2.1 7 (na k)) % 16 + 1 + na w) = na (u.2.1 7 (na k)) + 1 + na w by omega] at this
          exact this.symm
theorem z_ND2 {t : Nat} {u : St} {k w : Int32} (h : Inv t u) : ∃ c, (¬ u.1 8 = 0 → c ≤ 57 ∧ u.1 9 = nI c ∧ ∀ j, j < c → pl (u.2.1 7 j) = true) ∧ C_M_node.2.2.2.1 (oX (dND u k w c).1 u (dND u k w c).2, k, w, c) ∧ (dND u k w c).1 ≤ 3 ∧ (mND (oX (dND u k w c).1 u (dND u k w c).2) k w c).2.1 20 = nI (dND u k w c).1 ∧ ((dND u k w c).1 = 0 → (mND (oX (dND u k w c).1 u (dND u k w c).2) k w c).1 = (dND u k w c).2) ∧ Inv (t + 1) (mND (oX (dND u k w c).1 u (dND u k w c).2) k w c).2 := by
  obtain ⟨c, h1, h2⟩ := z_ND3 (k := k) (w := w) h
  exact ⟨c, h1, h2 _ (oX_1 _ _ _) (oX_2 _ _ _)⟩
set_option maxRecDepth 100000 in
theorem w_taskNew {L : Nat} {xs : Nat → Int32} (J : e_Jt) (hC : e_PL L xs J) {t b : Nat} {u : St} (hb : b ≤ t) (ht : t < 512) (hL : 3 * t + 3 ≤ L) (hL2 : L ≤ 1536) (hI : Inv t u) (nxt : ∀ b' u', b' ≤ t + 1 → Inv (t + 1) u' → J b' 1048 (lvt t) [] (Hp u')) : J b 124 (lvt t) [] (Hp u) := by
  obtain ⟨hk, X, hpm, hthr, hval, hinv⟩ := z_TN (u1 := (oX (dTN u (xs (3 * t + 1))).1 (dTN u (xs (3 * t + 1))).2.2 (dTN u (xs (3 * t + 1))).2.1)) hI (oX_1 _ _ _) (oX_2 _ _ _)
  have hc := c01_le (dTN u (xs (3 * t + 1))).1
  refine e_run hC ?_
  conv => whnf
  rw [nI_1]
  refine ⟨vp_in_nI (by omega) (by omega), ?_⟩
  rw [nI_clamp (by omega)]
  refine e_run hC ?_
  conv => whnf
  refine ⟨((dTN u (xs (3 * t + 1))).1, u, (xs (3 * t + 1))), ⟨rfl, hk⟩, rfl, rfl, kpl (k_le_of (show b + c01 (dTN u (xs (3 * t + 1))).1 ≤ 512 by omega) ?_)⟩
  conv => whnf
  dsimp only [C_L_taskNew]
  refine e_run hC ?_
  conv => whnf
  rw [nI_1]
  refine ⟨vp_in_nI (by omega) (by omega), ?_⟩
  rw [nI_clamp (by omega)]
  refine e_run hC ?_
  conv => whnf
  refine ⟨((oX (dTN u (xs (3 * t + 1))).1 (dTN u (xs (3 * t + 1))).2.2 (dTN u (xs (3 * t + 1))).2.1), (xs (3 * t + 1)), X), hpm, rfl, rfl, kpl (k_le_of (show b + c01 (dTN u (xs (3 * t + 1))).1 + 0 ≤ 512 by omega) ?_)⟩
  conv => whnf
  dsimp only [C_M_taskNew]
  refine e_run hC ?_
  conv => whnf
  refine ⟨(mTN (oX (dTN u (xs (3 * t + 1))).1 (dTN u (xs (3 * t + 1))).2.2 (dTN u (xs (3 * t + 1))).2.1) (xs (3 * t + 1)) X).2, trivial, rfl, rfl, kpl (k_le_of (show b + c01 (dTN u (xs (3 * t + 1))).1 + 0 + 0 ≤ 512 by omega) ?_)⟩
  conv => whnf
  dsimp only [C_M_thrown]
  refine e_run hC ?_
  conv => whnf
  refine ⟨fun _ => ?_, fun h => absurd hthr h⟩
  refine e_run hC ?_
  conv => whnf
  refine ⟨fun _ => ?_, fun h0 => ?_⟩
  · refine e_run hC ?_
    conv => whnf
    exact e_weak hC [0, 1, 2, 3, 4] rfl rfl (nxt _ _ (by omega) hinv)
  · have hk0 := nI_z (by omega) h0
    have hv := hval hk0
    refine e_run hC ?_
    conv => whnf
    refine ⟨vp_in_nI (n := 0) (by decide) (by decide), ?_⟩
    have hq : (mTN (oX (dTN u (xs (3 * t + 1))).1 (dTN u (xs (3 * t + 1))).2.2 (dTN u (xs (3 * t + 1))).2.1) (xs (3 * t + 1)) X).2.2.2 (Int32.toNatClampNeg 0) = ((dTN u (xs (3 * t + 1))).2.1).toInt64 := by
      rw [q_TN (oX (dTN u (xs (3 * t + 1))).1 (dTN u (xs (3 * t + 1))).2.2 (dTN u (xs (3 * t + 1))).2.1) _ X]
      show (oX (dTN u (xs (3 * t + 1))).1 (dTN u (xs (3 * t + 1))).2.2 (dTN u (xs (3 * t + 1))).2.1).2.2 0 = _
      rw [hk0]
      exact oX_0 _ _
    rw [hq]
    refine e_run hC ?_
    conv => whnf
    rw [hv, lg_same]
    refine ⟨fun _ => ?_, fun h => absurd rfl h⟩
    refine e_run hC ?_
    conv => whnf
    exact e_weak hC [0, 1, 2, 3, 4] rfl rfl (nxt _ _ (by omega) hinv)
set_option maxRecDepth 100000 in
theorem w_taskEnd {L : Nat} {xs : Nat → Int32} (J : e_Jt) (hC : e_PL L xs J) {t b : Nat} {u : St} (hb : b ≤ t) (ht : t < 512) (hL : 3 * t + 3 ≤ L) (hL2 : L ≤ 1536) (hI : Inv t u) (nxt : ∀ b' u', b' ≤ t + 1 → Inv (t + 1) u' → J b' 1048 (lvt t) [] (Hp u')) : J b 180 (lvt t) [] (Hp u) := by
  obtain ⟨hk, X, hpm, hthr, hval, hinv⟩ := z_TE (u1 := (oX (dTE u (xs (3 * t + 1))).1 (dTE u (xs (3 * t + 1))).2.2 (dTE u (xs (3 * t + 1))).2.1)) hI (oX_1 _ _ _) (oX_2 _ _ _)
  have hc := c01_le (dTE u (xs (3 * t + 1))).1
  refine e_run hC ?_
  conv => whnf
  rw [nI_1]
  refine ⟨vp_in_nI (by omega) (by omega), ?_⟩
  rw [nI_clamp (by omega)]
  refine e_run hC ?_
  conv => whnf
  refine ⟨((dTE u (xs (3 * t + 1))).1, u, (xs (3 * t + 1))), ⟨rfl, hk⟩, rfl, rfl, kpl (k_le_of (show b + c01 (dTE u (xs (3 * t + 1))).1 ≤ 512 by omega) ?_)⟩
  conv => whnf
  dsimp only [C_L_taskEnd]
  refine e_run hC ?_
  conv => whnf
  rw [nI_1]
  refine ⟨vp_in_nI (by omega) (by omega), ?_⟩
  rw [nI_clamp (by omega)]
  refine e_run hC ?_
  conv => whnf
  refine ⟨((oX (dTE u (xs (3 * t + 1))).1 (dTE u (xs (3 * t + 1))).2.2 (dTE u (xs (3 * t + 1))).2.1), (xs (3 * t + 1)), X), hpm, rfl, rfl, kpl (k_le_of (show b + c01 (dTE u (xs (3 * t + 1))).1 + 0 ≤ 512 by omega) ?_)⟩
  conv => whnf
  dsimp only [C_M_taskEnd]
  refine e_run hC ?_
  conv => whnf
  refine ⟨(mTE (oX (dTE u (xs (3 * t + 1))).1 (dTE u (xs (3 * t + 1))).2.2 (dTE u (xs (3 * t + 1))).2.1) (xs (3 * t + 1)) X).2, trivial, rfl, rfl, kpl (k_le_of (show b + c01 (dTE u (xs (3 * t + 1))).1 + 0 + 0 ≤ 512 by omega) ?_)⟩
  conv => whnf
  dsimp only [C_M_thrown]
  refine e_run hC ?_
  conv => whnf
  refine ⟨fun _ => ?_, fun h => absurd hthr h⟩
  refine e_run hC ?_
  conv => whnf
  refine ⟨fun _ => ?_, fun h0 => ?_⟩
  · refine e_run hC ?_
    conv => whnf
    exact e_weak hC [0, 1, 2, 3, 4] rfl rfl (nxt _ _ (by omega) hinv)
  · have hk0 := nI_z (by omega) h0
    have hv := hval hk0
    refine e_run hC ?_
    conv => whnf
    refine ⟨vp_in_nI (n := 0) (by decide) (by decide), ?_⟩
    have hq : (mTE (oX (dTE u (xs (3 * t + 1))).1 (dTE u (xs (3 * t + 1))).2.2 (dTE u (xs (3 * t + 1))).2.1) (xs (3 * t + 1)) X).2.2.2 (Int32.toNatClampNeg 0) = ((dTE u (xs (3 * t + 1))).2.1).toInt64 := by
      rw [q_TE (oX (dTE u (xs (3 * t + 1))).1 (dTE u (xs (3 * t + 1))).2.2 (dTE u (xs (3 * t + 1))).2.1) _ X]
      show (oX (dTE u (xs (3 * t + 1))).1 (dTE u (xs (3 * t + 1))).2.2 (dTE u (xs (3 * t + 1))).2.1).2.2 0 = _
      rw [hk0]
      exact oX_0 _ _
    rw [hq]
    refine e_run hC ?_
    conv => whnf
    rw [hv, lg_same]
    refine ⟨fun _ => ?_, fun h => absurd rfl h⟩
    refine e_run hC ?_
    conv => whnf
    exact e_weak hC [0, 1, 2, 3, 4] rfl rfl (nxt _ _ (by omega) hinv)
set_option maxRecDepth 100000 in
theorem w_waitOn {L : Nat} {xs : Nat → Int32} (J : e_Jt) (hC : e_PL L xs J) {t b : Nat} {u : St} (hb : b ≤ t) (ht : t < 512) (hL : 3 * t + 3 ≤ L) (hL2 : L ≤ 1536) (hI : Inv t u) (nxt : ∀ b' u', b' ≤ t + 1 → Inv (t + 1) u' → J b' 1048 (lvt t) [] (Hp u')) : J b 236 (lvt t) [] (Hp u) := by
  obtain ⟨hk, X, hpm, hthr, hinv⟩ := z_WO (u1 := (dWO u (xs (3 * t + 1)) (xs (3 * t + 2))).2) hI rfl rfl
  have hc := c01_le (dWO u (xs (3 * t + 1)) (xs (3 * t + 2))).1
  refine e_run hC ?_
  conv => whnf
  rw [nI_1]
  refine ⟨vp_in_nI (by omega) (by omega), ?_⟩
  rw [nI_clamp (by omega)]
  refine e_run hC ?_
  conv => whnf
  rw [nI_2]
  refine ⟨vp_in_nI (by omega) (by omega), ?_⟩
  rw [nI_clamp (by omega)]
  refine e_run hC ?_
  conv => whnf
  refine ⟨((dWO u (xs (3 * t + 1)) (xs (3 * t + 2))).1, u, (xs (3 * t + 1)), (xs (3 * t + 2))), ⟨rfl, hk⟩, rfl, rfl, kpl (k_le_of (show b + c01 (dWO u (xs (3 * t + 1)) (xs (3 * t + 2))).1 ≤ 512 by omega) ?_)⟩
  conv => whnf
  dsimp only [C_L_waitOn]
  refine e_run hC ?_
  conv => whnf
  rw [nI_1]
  refine ⟨vp_in_nI (by omega) (by omega), ?_⟩
  rw [nI_clamp (by omega)]
  refine e_run hC ?_
  conv => whnf
  rw [nI_2]
  refine ⟨vp_in_nI (by omega) (by omega), ?_⟩
  rw [nI_clamp (by omega)]
  refine e_run hC ?_
  conv => whnf
  refine ⟨((dWO u (xs (3 * t + 1)) (xs (3 * t + 2))).2, (xs (3 * t + 1)), (xs (3 * t + 2)), X), hpm, rfl, rfl, kpl (k_le_of (show b + c01 (dWO u (xs (3 * t + 1)) (xs (3 * t + 2))).1 + 0 ≤ 512 by omega) ?_)⟩
  conv => whnf
  dsimp only [C_M_waitOn]
  refine e_run hC ?_
  conv => whnf
  refine ⟨(mWO (dWO u (xs (3 * t + 1)) (xs (3 * t + 2))).2 (xs (3 * t + 1)) (xs (3 * t + 2)) X), trivial, rfl, rfl, kpl (k_le_of (show b + c01 (dWO u (xs (3 * t + 1)) (xs (3 * t + 2))).1 + 0 + 0 ≤ 512 by omega) ?_)⟩
  conv => whnf
  dsimp only [C_M_thrown]
  refine e_run hC ?_
  conv => whnf
  refine ⟨fun _ => ?_, fun h => absurd hthr h⟩
  refine e_run hC ?_
  conv => whnf
  exact e_weak hC [0, 1, 2, 3, 4] rfl rfl (nxt _ _ (by omega) hinv)
set_option maxRecDepth 100000 in
theorem w_wake {L : Nat} {xs : Nat → Int32} (J : e_Jt) (hC : e_PL L xs J) {t b : Nat} {u : St} (hb : b ≤ t) (ht : t < 512) (hL : 3 * t + 3 ≤ L) (hL2 : L ≤ 1536) (hI : Inv t u) (nxt : ∀ b' u', b' ≤ t + 1 → Inv (t + 1) u' → J b' 1048 (lvt t) [] (Hp u')) : J b 284 (lvt t) [] (Hp u) := by
  obtain ⟨hk, X, hpm, hthr, hval, hinv⟩ := z_WK (u1 := (oX (dWK u (xs (3 * t + 1))).1 (dWK u (xs (3 * t + 1))).2.2 (dWK u (xs (3 * t + 1))).2.1)) hI (oX_1 _ _ _) (oX_2 _ _ _)
  have hc := c01_le (dWK u (xs (3 * t + 1))).1
  refine e_run hC ?_
  conv => whnf
  rw [nI_1]
  refine ⟨vp_in_nI (by omega) (by omega), ?_⟩
  rw [nI_clamp (by omega)]
  refine e_run hC ?_
  conv => whnf
  refine ⟨((dWK u (xs (3 * t + 1))).1, u, (xs (3 * t + 1))), ⟨rfl, hk⟩, rfl, rfl, kpl (k_le_of (show b + c01 (dWK u (xs (3 * t + 1))).1 ≤ 512 by omega) ?_)⟩
  conv => whnf
  dsimp only [C_L_wake]
  refine e_run hC ?_
  conv => whnf
  rw [nI_1]
  refine ⟨vp_in_nI (by omega) (by omega), ?_⟩
  rw [nI_clamp (by omega)]
  refine e_run hC ?_
  conv => whnf
  refine ⟨((oX (dWK u (xs (3 * t + 1))).1 (dWK u (xs (3 * t + 1))).2.2 (dWK u (xs (3 * t + 1))).2.1), (xs (3 * t + 1)), X), hpm, rfl, rfl, kpl (k_le_of (show b + c01 (dWK u (xs (3 * t + 1))).1 + 0 ≤ 512 by omega) ?_)⟩
  conv => whnf
  dsimp only [C_M_wake]
  refine e_run hC ?_
  conv => whnf
  refine ⟨(mWK (oX (dWK u (xs (3 * t + 1))).1 (dWK u (xs (3 * t + 1))).2.2 (dWK u (xs (3 * t + 1))).2.1) (xs (3 * t + 1)) X).2, trivial, rfl, rfl, kpl (k_le_of (show b + c01 (dWK u (xs (3 * t + 1))).1 + 0 + 0 ≤ 512 by omega) ?_)⟩
  conv => whnf
  dsimp only [C_M_thrown]
  refine e_run hC ?_
  conv => whnf
  refine ⟨fun _ => ?_, fun h => absurd hthr h⟩
  refine e_run hC ?_
  conv => whnf
  refine ⟨fun _ => ?_, fun h0 => ?_⟩
  · refine e_run hC ?_
    conv => whnf
    exact e_weak hC [0, 1, 2, 3, 4] rfl rfl (nxt _ _ (by omega) hinv)
  · have hk0 := nI_z (by omega) h0
    have hv := hval hk0
    refine e_run hC ?_
    conv => whnf
    refine ⟨vp_in_nI (n := 0) (by decide) (by decide), ?_⟩
    have hq : (mWK (oX (dWK u (xs (3 * t + 1))).1 (dWK u (xs (3 * t + 1))).2.2 (dWK u (xs (3 * t + 1))).2.1) (xs (3 * t + 1)) X).2.2.2 (Int32.toNatClampNeg 0) = ((dWK u (xs (3 * t + 1))).2.1).toInt64 := by
      rw [q_WK (oX (dWK u (xs (3 * t + 1))).1 (dWK u (xs (3 * t + 1))).2.2 (dWK u (xs (3 * t + 1))).2.1) _ X]
      show (oX (dWK u (xs (3 * t + 1))).1 (dWK u (xs (3 * t + 1))).2.2 (dWK u (xs (3 * t + 1))).2.1).2.2 0 = _
      rw [hk0]
      exact oX_0 _ _
    rw [hq]
    refine e_run hC ?_
    conv => whnf
    rw [hv, lg_same]
    refine ⟨fun _ => ?_, fun h => absurd rfl h⟩
    refine e_run hC ?_
    conv => whnf
    exact e_weak hC [0, 1, 2, 3, 4] rfl rfl (nxt _ _ (by omega) hinv)
set_option maxRecDepth 100000 in
theorem w_timer {L : Nat} {xs : Nat → Int32} (J : e_Jt) (hC : e_PL L xs J) {t b : Nat} {u : St} (hb : b ≤ t) (ht : t < 512) (hL : 3 * t + 3 ≤ L) (hL2 : L ≤ 1536) (hI : Inv t u) (nxt : ∀ b' u', b' ≤ t + 1 → Inv (t + 1) u' → J b' 1048 (lvt t) [] (Hp u')) : J b 340 (lvt t) [] (Hp u) := by
  obtain ⟨hk, X, hpm, hthr, hinv⟩ := z_TM (u1 := (dTM u (xs (3 * t + 1))).2) hI rfl rfl
  have hc := c01_le (dTM u (xs (3 * t + 1))).1
  refine e_run hC ?_
  conv => whnf
  rw [nI_1]
  refine ⟨vp_in_nI (by omega) (by omega), ?_⟩
  rw [nI_clamp (by omega)]
  refine e_run hC ?_
  conv => whnf
  refine ⟨((dTM u (xs (3 * t + 1))).1, u, (xs (3 * t + 1))), ⟨rfl, hk⟩, rfl, rfl, kpl (k_le_of (show b + c01 (dTM u (xs (3 * t + 1))).1 ≤ 512 by omega) ?_)⟩
  conv => whnf
  dsimp only [C_L_timer]
  refine e_run hC ?_
  conv => whnf
  rw [nI_1]
  refine ⟨vp_in_nI (by omega) (by omega), ?_⟩
  rw [nI_clamp (by omega)]
  refine e_run hC ?_
  conv => whnf
  refine ⟨((dTM u (xs (3 * t + 1))).2, (xs (3 * t + 1)), X), hpm, rfl, rfl, kpl (k_le_of (show b + c01 (dTM u (xs (3 * t + 1))).1 + 0 ≤ 512 by omega) ?_)⟩
  conv => whnf
  dsimp only [C_M_timer]
  refine e_run hC ?_
  conv => whnf
  refine ⟨(mTM (dTM u (xs (3 * t + 1))).2 (xs (3 * t + 1)) X), trivial, rfl, rfl, kpl (k_le_of (show b + c01 (dTM u (xs (3 * t + 1))).1 + 0 + 0 ≤ 512 by omega) ?_)⟩
  conv => whnf
  dsimp only [C_M_thrown]
  refine e_run hC ?_
  conv => whnf
  refine ⟨fun _ => ?_, fun h => absurd hthr h⟩
  refine e_run hC ?_
  conv => whnf
  exact e_weak hC [0, 1, 2, 3, 4] rfl rfl (nxt _ _ (by omega) hinv)
set_option maxRecDepth 100000 in
theorem w_file {L : Nat} {xs : Nat → Int32} (J : e_Jt) (hC : e_PL L xs J) {t b : Nat} {u : St} (hb : b ≤ t) (ht : t < 512) (hL : 3 * t + 3 ≤ L) (hL2 : L ≤ 1536) (hI : Inv t u) (nxt : ∀ b' u', b' ≤ t + 1 → Inv (t + 1) u' → J b' 1048 (lvt t) [] (Hp u')) : J b 376 (lvt t) [] (Hp u) := by
  by_cases hz : (xs (3 * t + 1)) = 0
  · obtain ⟨hk, hthr, hval, hinv⟩ := z_FI (u1 := (oX (dFI u false (xs (3 * t + 2))).1 (dFI u false (xs (3 * t + 2))).2.2 (dFI u false (xs (3 * t + 2))).2.1)) (d := false) (x := (xs (3 * t + 2))) hI (oX_1 _ _ _) (oX_2 _ _ _)
    have hc := c01_le (dFI u false (xs (3 * t + 2))).1
    refine e_run hC ?_
    conv => whnf
    rw [nI_1]
    refine ⟨vp_in_nI (by omega) (by omega), ?_⟩
    rw [nI_clamp (by omega)]
    refine e_run hC ?_
    conv => whnf
    refine ⟨fun _ => ?_, fun h => absurd hz h⟩
    refine e_run hC ?_
    conv => whnf
    rw [nI_2]
    refine ⟨vp_in_nI (by omega) (by omega), ?_⟩
    rw [nI_clamp (by omega)]
    refine e_run hC ?_
    conv => whnf
    refine ⟨((dFI u false (xs (3 * t + 2))).1, u, false, (xs (3 * t + 2))), ⟨rfl, hk⟩, rfl, rfl, kpl (k_le_of (show b + c01 (dFI u false (xs (3 * t + 2))).1 ≤ 512 by omega) ?_)⟩
    conv => whnf
    dsimp only [C_L_file]
    refine e_run hC ?_
    conv => whnf
    rw [nI_1]
    refine ⟨vp_in_nI (by omega) (by omega), ?_⟩
    rw [nI_clamp (by omega)]
    refine e_run hC ?_
    conv => whnf
    refine ⟨fun _ => ?_, fun h => absurd hz h⟩
    refine e_run hC ?_
    conv => whnf
    rw [nI_2]
    refine ⟨vp_in_nI (by omega) (by omega), ?_⟩
    rw [nI_clamp (by omega)]
    refine e_run hC ?_
    conv => whnf
    refine ⟨((oX (dFI u false (xs (3 * t + 2))).1 (dFI u false (xs (3 * t + 2))).2.2 (dFI u false (xs (3 * t + 2))).2.1), false, (xs (3 * t + 2))), trivial, rfl, rfl, kpl (k_le_of (show b + c01 (dFI u false (xs (3 * t + 2))).1 + 0 ≤ 512 by omega) ?_)⟩
    conv => whnf
    dsimp only [C_M_file]
    refine e_run hC ?_
    conv => whnf
    refine ⟨(mFI (oX (dFI u false (xs (3 * t + 2))).1 (dFI u false (xs (3 * t + 2))).2.2 (dFI u false (xs (3 * t + 2))).2.1) false (xs (3 * t + 2))).2, trivial, rfl, rfl, kpl (k_le_of (show b + c01 (dFI u false (xs (3 * t + 2))).1 + 0 + 0 ≤ 512 by omega) ?_)⟩
    conv => whnf
    dsimp only [C_M_thrown]
    refine e_run hC ?_
    conv => whnf
    refine ⟨fun _ => ?_, fun h => absurd hthr h⟩
    refine e_run hC ?_
    conv => whnf
    refine ⟨fun _ => ?_, fun h0 => ?_⟩
    · refine e_run hC ?_
      conv => whnf
      exact e_weak hC [0, 1, 2, 3, 4] rfl rfl (nxt _ _ (by omega) hinv)
    · have hk0 := nI_z (by omega) h0
      have hv := hval hk0
      refine e_run hC ?_
      conv => whnf
      refine ⟨vp_in_nI (n := 0) (by decide) (by decide), ?_⟩
      have hq : (mFI (oX (dFI u false (xs (3 * t + 2))).1 (dFI u false (xs (3 * t + 2))).2.2 (dFI u false (xs (3 * t + 2))).2.1) false (xs (3 * t + 2))).2.2.2 (Int32.toNatClampNeg 0) = ((dFI u false (xs (3 * t + 2))).2.1).toInt64 := by
        rw [q_FI (oX (dFI u false (xs (3 * t + 2))).1 (dFI u false (xs (3 * t + 2))).2.2 (dFI u false (xs (3 * t + 2))).2.1) _ _]
        show (oX (dFI u false (xs (3 * t + 2))).1 (dFI u false (xs (3 * t + 2))).2.2 (dFI u false (xs (3 * t + 2))).2.1).2.2 0 = _
        rw [hk0]
        exact oX_0 _ _
      rw [hq]
      refine e_run hC ?_
      conv => whnf
      rw [hv, lg_same]
      refine ⟨fun _ => ?_, fun h => absurd rfl h⟩
      refine e_run hC ?_
      conv => whnf
      exact e_weak hC [0, 1, 2, 3, 4] rfl rfl (nxt _ _ (by omega) hinv)
  · obtain ⟨hk, hthr, hval, hinv⟩ := z_FI (u1 := (oX (dFI u true (xs (3 * t + 2))).1 (dFI u true (xs (3 * t + 2))).2.2 (dFI u true (xs (3 * t + 2))).2.1)) (d := true) (x := (xs (3 * t + 2))) hI (oX_1 _ _ _) (oX_2 _ _ _)
    have hc := c01_le (dFI u true (xs (3 * t + 2))).1
    refine e_run hC ?_
    conv => whnf
    rw [nI_1]
    refine ⟨vp_in_nI (by omega) (by omega), ?_⟩
    rw [nI_clamp (by omega)]
    refine e_run hC ?_
    conv => whnf
    refine ⟨fun h => absurd h hz, fun _ => ?_⟩
    refine e_run hC ?_
    conv => whnf
    refine e_run hC ?_
    conv => whnf
    rw [nI_2]
    refine ⟨vp_in_nI (by omega) (by omega), ?_⟩
    rw [nI_clamp (by omega)]
    refine e_run hC ?_
    conv => whnf
    refine ⟨((dFI u true (xs (3 * t + 2))).1, u, true, (xs (3 * t + 2))), ⟨rfl, hk⟩, rfl, rfl, kpl (k_le_of (show b + c01 (dFI u true (xs (3 * t + 2))).1 ≤ 512 by omega) ?_)⟩
    conv => whnf
    dsimp only [C_L_file]
    refine e_run hC ?_
    conv => whnf
    rw [nI_1]
    refine ⟨vp_in_nI (by omega) (by omega), ?_⟩
    rw [nI_clamp (by omega)]
    refine e_run hC ?_
    conv => whnf
    refine ⟨fun h => absurd h hz, fun _ => ?_⟩
    refine e_run hC ?_
    conv => whnf
    refine e_run hC ?_
    conv => whnf
    rw [nI_2]
    refine ⟨vp_in_nI (by omega) (by omega), ?_⟩
    rw [nI_clamp (by omega)]
    refine e_run hC ?_
    conv => whnf
    refine ⟨((oX (dFI u true (xs (3 * t + 2))).1 (dFI u true (xs (3 * t + 2))).2.2 (dFI u true (xs (3 * t + 2))).2.1), true, (xs (3 * t + 2))), trivial, rfl, rfl, kpl (k_le_of (show b + c01 (dFI u true (xs (3 * t + 2))).1 + 0 ≤ 512 by omega) ?_)⟩
    conv => whnf
    dsimp only [C_M_file]
    refine e_run hC ?_
    conv => whnf
    refine ⟨(mFI (oX (dFI u true (xs (3 * t + 2))).1 (dFI u true (xs (3 * t + 2))).2.2 (dFI u true (xs (3 * t + 2))).2.1) true (xs (3 * t + 2))).2, trivial, rfl, rfl, kpl (k_le_of (show b + c01 (dFI u true (xs (3 * t + 2))).1 + 0 + 0 ≤ 512 by omega) ?_)⟩
    conv => whnf
    dsimp only [C_M_thrown]
    refine e_run hC ?_
    conv => whnf
    refine ⟨fun _ => ?_, fun h => absurd hthr h⟩
    refine e_run hC ?_
    conv => whnf
    refine ⟨fun _ => ?_, fun h0 => ?_⟩
    · refine e_run hC ?_
      conv => whnf
      exact e_weak hC [0, 1, 2, 3, 4] rfl rfl (nxt _ _ (by omega) hinv)
    · have hk0 := nI_z (by omega) h0
      have hv := hval hk0
      refine e_run hC ?_
      conv => whnf
      refine ⟨vp_in_nI (n := 0) (by decide) (by decide), ?_⟩
      have hq : (mFI (oX (dFI u true (xs (3 * t + 2))).1 (dFI u true (xs (3 * t + 2))).2.2 (dFI u true (xs (3 * t + 2))).2.1) true (xs (3 * t + 2))).2.2.2 (Int32.toNatClampNeg 0) = ((dFI u true (xs (3 * t + 2))).2.1).toInt64 := by
        rw [q_FI (oX (dFI u true (xs (3 * t + 2))).1 (dFI u true (xs (3 * t + 2))).2.2 (dFI u true (xs (3 * t + 2))).2.1) _ _]
        show (oX (dFI u true (xs (3 * t + 2))).1 (dFI u true (xs (3 * t + 2))).2.2 (dFI u true (xs (3 * t + 2))).2.1).2.2 0 = _
        rw [hk0]
        exact oX_0 _ _
      rw [hq]
      refine e_run hC ?_
      conv => whnf
      rw [hv, lg_same]
      refine ⟨fun _ => ?_, fun h => absurd rfl h⟩
      refine e_run hC ?_
      conv => whnf
      exact e_weak hC [0, 1, 2, 3, 4] rfl rfl (nxt _ _ (by omega) hinv)
set_option maxRecDepth 100000 in
theorem w_log {L : Nat} {xs : Nat → Int32} (J : e_Jt) (hC : e_PL L xs J) {t b : Nat} {u : St} (hb : b ≤ t) (ht : t < 512) (hL : 3 * t + 3 ≤ L) (hL2 : L ≤ 1536) (hI : Inv t u) (nxt : ∀ b' u', b' ≤ t + 1 → Inv (t + 1) u' → J b' 1048 (lvt t) [] (Hp u')) : J b 460 (lvt t) [] (Hp u) := by
  obtain ⟨X, hn⟩ : ∃ X, (rnc u = true → X < 1024 ∧ u.2.1 0 6 = nI X) ∧ ((dLG u (xs (3 * t + 1)) X).1 ≤ 1 ∧ C_M_log.2.2.2.1 ((dLG u (xs (3 * t + 1)) X).2, (xs (3 * t + 1)), X) ∧ (mLG (dLG u (xs (3 * t + 1)) X).2 (xs (3 * t + 1)) X).1 20 = nI (dLG u (xs (3 * t + 1)) X).1 ∧ Inv (t + 1) (mLG (dLG u (xs (3 * t + 1)) X).2 (xs (3 * t + 1)) X)) := z_LG2 ht hI
  obtain ⟨hn, hk, hpm, hthr, hinv⟩ := hn
  have hc := c01_le (dLG u (xs (3 * t + 1)) X).1
  refine e_run hC ?_
  conv => whnf
  rw [nI_1]
  refine ⟨vp_in_nI (by omega) (by omega), ?_⟩
  rw [nI_clamp (by omega)]
  refine e_run hC ?_
  conv => whnf
  refine ⟨((dLG u (xs (3 * t + 1)) X).1, u, (xs (3 * t + 1)), X), ⟨⟨rfl, hn⟩, hk⟩, rfl, rfl, kpl (k_le_of (show b + c01 (dLG u (xs (3 * t + 1)) X).1 ≤ 512 by omega) ?_)⟩
  conv => whnf
  dsimp only [C_L_log]
  refine e_run hC ?_
  conv => whnf
  rw [nI_1]
  refine ⟨vp_in_nI (by omega) (by omega), ?_⟩
  rw [nI_clamp (by omega)]
  refine e_run hC ?_
  conv => whnf
  refine ⟨((dLG u (xs (3 * t + 1)) X).2, (xs (3 * t + 1)), X), hpm, rfl, rfl, kpl (k_le_of (show b + c01 (dLG u (xs (3 * t + 1)) X).1 + 0 ≤ 512 by omega) ?_)⟩
  conv => whnf
  dsimp only [C_M_log]
  refine e_run hC ?_
  conv => whnf
  refine ⟨(mLG (dLG u (xs (3 * t + 1)) X).2 (xs (3 * t + 1)) X), trivial, rfl, rfl, kpl (k_le_of (show b + c01 (dLG u (xs (3 * t + 1)) X).1 + 0 + 0 ≤ 512 by omega) ?_)⟩
  conv => whnf
  dsimp only [C_M_thrown]
  refine e_run hC ?_
  conv => whnf
  refine ⟨fun _ => ?_, fun h => absurd hthr h⟩
  refine e_run hC ?_
  conv => whnf
  exact e_weak hC [0, 1, 2, 3, 4] rfl rfl (nxt _ _ (by omega) hinv)
set_option maxRecDepth 100000 in
theorem w_poke {L : Nat} {xs : Nat → Int32} (J : e_Jt) (hC : e_PL L xs J) {t b : Nat} {u : St} (hb : b ≤ t) (ht : t < 512) (hL : 3 * t + 3 ≤ L) (hL2 : L ≤ 1536) (hI : Inv t u) (nxt : ∀ b' u', b' ≤ t + 1 → Inv (t + 1) u' → J b' 1048 (lvt t) [] (Hp u')) : J b 496 (lvt t) [] (Hp u) := by
  obtain ⟨hk, hthr, hinv⟩ := z_PK (u1 := (dPK u (xs (3 * t + 1)) (xs (3 * t + 2))).2) hI rfl rfl
  have hc := c01_le (dPK u (xs (3 * t + 1)) (xs (3 * t + 2))).1
  refine e_run hC ?_
  conv => whnf
  rw [nI_1]
  refine ⟨vp_in_nI (by omega) (by omega), ?_⟩
  rw [nI_clamp (by omega)]
  refine e_run hC ?_
  conv => whnf
  rw [nI_2]
  refine ⟨vp_in_nI (by omega) (by omega), ?_⟩
  rw [nI_clamp (by omega)]
  refine e_run hC ?_
  conv => whnf
  refine ⟨((dPK u (xs (3 * t + 1)) (xs (3 * t + 2))).1, u, (xs (3 * t + 1)), (xs (3 * t + 2))), ⟨rfl, hk⟩, rfl, rfl, kpl (k_le_of (show b + c01 (dPK u (xs (3 * t + 1)) (xs (3 * t + 2))).1 ≤ 512 by omega) ?_)⟩
  conv => whnf
  dsimp only [C_L_poke]
  refine e_run hC ?_
  conv => whnf
  rw [nI_1]
  refine ⟨vp_in_nI (by omega) (by omega), ?_⟩
  rw [nI_clamp (by omega)]
  refine e_run hC ?_
  conv => whnf
  rw [nI_2]
  refine ⟨vp_in_nI (by omega) (by omega), ?_⟩
  rw [nI_clamp (by omega)]
  refine e_run hC ?_
  conv => whnf
  refine ⟨((dPK u (xs (3 * t + 1)) (xs (3 * t + 2))).2, (xs (3 * t + 1)), (xs (3 * t + 2))), trivial, rfl, rfl, kpl (k_le_of (show b + c01 (dPK u (xs (3 * t + 1)) (xs (3 * t + 2))).1 + 0 ≤ 512 by omega) ?_)⟩
  conv => whnf
  dsimp only [C_M_poke]
  refine e_run hC ?_
  conv => whnf
  refine ⟨(mPK (dPK u (xs (3 * t + 1)) (xs (3 * t + 2))).2 (xs (3 * t + 1)) (xs (3 * t + 2))), trivial, rfl, rfl, kpl (k_le_of (show b + c01 (dPK u (xs (3 * t + 1)) (xs (3 * t + 2))).1 + 0 + 0 ≤ 512 by omega) ?_)⟩
  conv => whnf
  dsimp only [C_M_thrown]
  refine e_run hC ?_
  conv => whnf
  refine ⟨fun _ => ?_, fun h => absurd hthr h⟩
  refine e_run hC ?_
  conv => whnf
  exact e_weak hC [0, 1, 2, 3, 4] rfl rfl (nxt _ _ (by omega) hinv)
set_option maxRecDepth 100000 in
theorem w_memory {L : Nat} {xs : Nat → Int32} (J : e_Jt) (hC : e_PL L xs J) {t b : Nat} {u : St} (hb : b ≤ t) (ht : t < 512) (hL : 3 * t + 3 ≤ L) (hL2 : L ≤ 1536) (hI : Inv t u) (nxt : ∀ b' u', b' ≤ t + 1 → Inv (t + 1) u' → J b' 1048 (lvt t) [] (Hp u')) : J b 544 (lvt t) [] (Hp u) := by
  obtain ⟨hk, hthr, hval, hinv⟩ := z_ME (u1 := (oX (dME u (xs (3 * t + 1))).1 u (dME u (xs (3 * t + 1))).2)) hI (oX_1 _ _ _) (oX_2 _ _ _)
  have hc := c01_le (dME u (xs (3 * t + 1))).1
  refine e_run hC ?_
  conv => whnf
  rw [nI_1]
  refine ⟨vp_in_nI (by omega) (by omega), ?_⟩
  rw [nI_clamp (by omega)]
  refine e_run hC ?_
  conv => whnf
  refine ⟨((dME u (xs (3 * t + 1))).1, u, (xs (3 * t + 1))), ⟨rfl, hk⟩, rfl, rfl, kpl (k_le_of (show b + c01 (dME u (xs (3 * t + 1))).1 ≤ 512 by omega) ?_)⟩
  conv => whnf
  dsimp only [C_L_memory]
  refine e_run hC ?_
  conv => whnf
  rw [nI_1]
  refine ⟨vp_in_nI (by omega) (by omega), ?_⟩
  rw [nI_clamp (by omega)]
  refine e_run hC ?_
  conv => whnf
  refine ⟨((oX (dME u (xs (3 * t + 1))).1 u (dME u (xs (3 * t + 1))).2), (xs (3 * t + 1))), trivial, rfl, rfl, kpl (k_le_of (show b + c01 (dME u (xs (3 * t + 1))).1 + 0 ≤ 512 by omega) ?_)⟩
  conv => whnf
  dsimp only [C_M_memory]
  refine e_run hC ?_
  conv => whnf
  refine ⟨(mME (oX (dME u (xs (3 * t + 1))).1 u (dME u (xs (3 * t + 1))).2) (xs (3 * t + 1))).2, trivial, rfl, rfl, kpl (k_le_of (show b + c01 (dME u (xs (3 * t + 1))).1 + 0 + 0 ≤ 512 by omega) ?_)⟩
  conv => whnf
  dsimp only [C_M_thrown]
  refine e_run hC ?_
  conv => whnf
  refine ⟨fun _ => ?_, fun h => absurd hthr h⟩
  refine e_run hC ?_
  conv => whnf
  refine ⟨fun _ => ?_, fun h0 => ?_⟩
  · refine e_run hC ?_
    conv => whnf
    exact e_weak hC [0, 1, 2, 3, 4] rfl rfl (nxt _ _ (by omega) hinv)
  · have hk0 := nI_z (by omega) h0
    have hv := hval hk0
    refine e_run hC ?_
    conv => whnf
    refine ⟨vp_in_nI (n := 0) (by decide) (by decide), ?_⟩
    have hq : (mME (oX (dME u (xs (3 * t + 1))).1 u (dME u (xs (3 * t + 1))).2) (xs (3 * t + 1))).2.2.2 (Int32.toNatClampNeg 0) = ((dME u (xs (3 * t + 1))).2).toInt64 := by
      rw [q_ME (oX (dME u (xs (3 * t + 1))).1 u (dME u (xs (3 * t + 1))).2) _]
      show (oX (dME u (xs (3 * t + 1))).1 u (dME u (xs (3 * t + 1))).2).2.2 0 = _
      rw [hk0]
      exact oX_0 _ _
    rw [hq]
    refine e_run hC ?_
    conv => whnf
    rw [hv, lg_same]
    refine ⟨fun _ => ?_, fun h => absurd rfl h⟩
    refine e_run hC ?_
    conv => whnf
    exact e_weak hC [0, 1, 2, 3, 4] rfl rfl (nxt _ _ (by omega) hinv)
set_option maxRecDepth 100000 in
theorem w_halt {L : Nat} {xs : Nat → Int32} (J : e_Jt) (hC : e_PL L xs J) {t b : Nat} {u : St} (hb : b ≤ t) (ht : t < 512) (hL : 3 * t + 3 ≤ L) (hL2 : L ≤ 1536) (hI : Inv t u) (nxt : ∀ b' u', b' ≤ t + 1 → Inv (t + 1) u' → J b' 1048 (lvt t) [] (Hp u')) : J b 600 (lvt t) [] (Hp u) := by
  refine e_run hC ?_
  conv => whnf
  refine ⟨u, trivial, rfl, rfl, kpl (k_le_of (show b + 0 ≤ 512 by omega) ?_)⟩
  conv => whnf
  dsimp only [C_D_halt]
  refine e_run hC ?_
  conv => whnf
  refine ⟨uS u 0 1, trivial, rfl, rfl, kpl (k_le_of (show b + 0 + 0 ≤ 512 by omega) ?_)⟩
  conv => whnf
  dsimp only [C_M_halt]
  refine e_run hC ?_
  conv => whnf
  exact nxt _ _ (by omega) (z_HA hI)
set_option maxRecDepth 100000 in
theorem w_sector {L : Nat} {xs : Nat → Int32} (J : e_Jt) (hC : e_PL L xs J) {t b : Nat} {u : St} (hb : b ≤ t) (ht : t < 512) (hL : 3 * t + 3 ≤ L) (hL2 : L ≤ 1536) (hI : Inv t u) (nxt : ∀ b' u', b' ≤ t + 1 → Inv (t + 1) u' → J b' 1048 (lvt t) [] (Hp u')) : J b 611 (lvt t) [] (Hp u) := by
  by_cases hz : (xs (3 * t + 2)) = 0
  · obtain ⟨hk, hthr, hinv⟩ := z_SE (u1 := (dSE u (xs (3 * t + 1)) false).2) (s := (xs (3 * t + 1))) (b := false) hI rfl rfl
    have hc := c01_le (dSE u (xs (3 * t + 1)) false).1
    refine e_run hC ?_
    conv => whnf
    rw [nI_1]
    refine ⟨vp_in_nI (by omega) (by omega), ?_⟩
    rw [nI_clamp (by omega)]
    refine e_run hC ?_
    conv => whnf
    rw [nI_2]
    refine ⟨vp_in_nI (by omega) (by omega), ?_⟩
    rw [nI_clamp (by omega)]
    refine e_run hC ?_
    conv => whnf
    refine ⟨fun _ => ?_, fun h => absurd hz h⟩
    refine e_run hC ?_
    conv => whnf
    refine ⟨((dSE u (xs (3 * t + 1)) false).1, u, (xs (3 * t + 1)), false), ⟨rfl, hk⟩, rfl, rfl, kpl (k_le_of (show b + c01 (dSE u (xs (3 * t + 1)) false).1 ≤ 512 by omega) ?_)⟩
    conv => whnf
    dsimp only [C_L_sector]
    refine e_run hC ?_
    conv => whnf
    rw [nI_1]
    refine ⟨vp_in_nI (by omega) (by omega), ?_⟩
    rw [nI_clamp (by omega)]
    refine e_run hC ?_
    conv => whnf
    rw [nI_2]
    refine ⟨vp_in_nI (by omega) (by omega), ?_⟩
    rw [nI_clamp (by omega)]
    refine e_run hC ?_
    conv => whnf
    refine ⟨fun _ => ?_, fun h => absurd hz h⟩
    refine e_run hC ?_
    conv => whnf
    refine ⟨((dSE u (xs (3 * t + 1)) false).2, (xs (3 * t + 1)), false), trivial, rfl, rfl, kpl (k_le_of (show b + c01 (dSE u (xs (3 * t + 1)) false).1 + 0 ≤ 512 by omega) ?_)⟩
    conv => whnf
    dsimp only [C_M_sector]
    refine e_run hC ?_
    conv => whnf
    refine ⟨(mSE (dSE u (xs (3 * t + 1)) false).2 (xs (3 * t + 1)) false), trivial, rfl, rfl, kpl (k_le_of (show b + c01 (dSE u (xs (3 * t + 1)) false).1 + 0 + 0 ≤ 512 by omega) ?_)⟩
    conv => whnf
    dsimp only [C_M_thrown]
    refine e_run hC ?_
    conv => whnf
    refine ⟨fun _ => ?_, fun h => absurd hthr h⟩
    refine e_run hC ?_
    conv => whnf
    exact e_weak hC [0, 1, 2, 3, 4] rfl rfl (nxt _ _ (by omega) hinv)
  · obtain ⟨hk, hthr, hinv⟩ := z_SE (u1 := (dSE u (xs (3 * t + 1)) true).2) (s := (xs (3 * t + 1))) (b := true) hI rfl rfl
    have hc := c01_le (dSE u (xs (3 * t + 1)) true).1
    refine e_run hC ?_
    conv => whnf
    rw [nI_1]
    refine ⟨vp_in_nI (by omega) (by omega), ?_⟩
    rw [nI_clamp (by omega)]
    refine e_run hC ?_
    conv => whnf
    rw [nI_2]
    refine ⟨vp_in_nI (by omega) (by omega), ?_⟩
    rw [nI_clamp (by omega)]
    refine e_run hC ?_
    conv => whnf
    refine ⟨fun h => absurd h hz, fun _ => ?_⟩
    refine e_run hC ?_
    conv => whnf
    refine e_run hC ?_
    conv => whnf
    refine ⟨((dSE u (xs (3 * t + 1)) true).1, u, (xs (3 * t + 1)), true), ⟨rfl, hk⟩, rfl, rfl, kpl (k_le_of (show b + c01 (dSE u (xs (3 * t + 1)) true).1 ≤ 512 by omega) ?_)⟩
    conv => whnf
    dsimp only [C_L_sector]
    refine e_run hC ?_
    conv => whnf
    rw [nI_1]
    refine ⟨vp_in_nI (by omega) (by omega), ?_⟩
    rw [nI_clamp (by omega)]
    refine e_run hC ?_
    conv => whnf
    rw [nI_2]
    refine ⟨vp_in_nI (by omega) (by omega), ?_⟩
    rw [nI_clamp (by omega)]
    refine e_run hC ?_
    conv => whnf
    refine ⟨fun h => absurd h hz, fun _ => ?_⟩
    refine e_run hC ?_
    conv => whnf
    refine e_run hC ?_
    conv => whnf
    refine ⟨((dSE u (xs (3 * t + 1)) true).2, (xs (3 * t + 1)), true), trivial, rfl, rfl, kpl (k_le_of (show b + c01 (dSE u (xs (3 * t + 1)) true).1 + 0 ≤ 512 by omega) ?_)⟩
    conv => whnf
    dsimp only [C_M_sector]
    refine e_run hC ?_
    conv => whnf
    refine ⟨(mSE (dSE u (xs (3 * t + 1)) true).2 (xs (3 * t + 1)) true), trivial, rfl, rfl, kpl (k_le_of (show b + c01 (dSE u (xs (3 * t + 1)) true).1 + 0 + 0 ≤ 512 by omega) ?_)⟩
    conv => whnf
    dsimp only [C_M_thrown]
    refine e_run hC ?_
    conv => whnf
    refine ⟨fun _ => ?_, fun h => absurd hthr h⟩
    refine e_run hC ?_
    conv => whnf
    exact e_weak hC [0, 1, 2, 3, 4] rfl rfl (nxt _ _ (by omega) hinv)
set_option maxRecDepth 100000 in
theorem w_dump {L : Nat} {xs : Nat → Int32} (J : e_Jt) (hC : e_PL L xs J) {t b : Nat} {u : St} (hb : b ≤ t) (ht : t < 512) (hL : 3 * t + 3 ≤ L) (hL2 : L ≤ 1536) (hI : Inv t u) (nxt : ∀ b' u', b' ≤ t + 1 → Inv (t + 1) u' → J b' 1048 (lvt t) [] (Hp u')) : J b 675 (lvt t) [] (Hp u) := by
  obtain ⟨hk, hthr, hval, hinv⟩ := z_DU (u1 := (oX (dDU u (xs (3 * t + 1))).1 (dDU u (xs (3 * t + 1))).2.2 (dDU u (xs (3 * t + 1))).2.1)) hI (oX_1 _ _ _) (oX_2 _ _ _)
  have hc := c01_le (dDU u (xs (3 * t + 1))).1
  refine e_run hC ?_
  conv => whnf
  rw [nI_1]
  refine ⟨vp_in_nI (by omega) (by omega), ?_⟩
  rw [nI_clamp (by omega)]
  refine e_run hC ?_
  conv => whnf
  refine ⟨((dDU u (xs (3 * t + 1))).1, u, (xs (3 * t + 1))), ⟨rfl, hk⟩, rfl, rfl, kpl (k_le_of (show b + c01 (dDU u (xs (3 * t + 1))).1 ≤ 512 by omega) ?_)⟩
  conv => whnf
  dsimp only [C_L_dump]
  refine e_run hC ?_
  conv => whnf
  rw [nI_1]
  refine ⟨vp_in_nI (by omega) (by omega), ?_⟩
  rw [nI_clamp (by omega)]
  refine e_run hC ?_
  conv => whnf
  refine ⟨((oX (dDU u (xs (3 * t + 1))).1 (dDU u (xs (3 * t + 1))).2.2 (dDU u (xs (3 * t + 1))).2.1), (xs (3 * t + 1))), trivial, rfl, rfl, kpl (k_le_of (show b + c01 (dDU u (xs (3 * t + 1))).1 + 0 ≤ 512 by omega) ?_)⟩
  conv => whnf
  dsimp only [C_M_dump]
  refine e_run hC ?_
  conv => whnf
  refine ⟨(mDU (oX (dDU u (xs (3 * t + 1))).1 (dDU u (xs (3 * t + 1))).2.2 (dDU u (xs (3 * t + 1))).2.1) (xs (3 * t + 1))).2, trivial, rfl, rfl, kpl (k_le_of (show b + c01 (dDU u (xs (3 * t + 1))).1 + 0 + 0 ≤ 512 by omega) ?_)⟩
  conv => whnf
  dsimp only [C_M_thrown]
  refine e_run hC ?_
  conv => whnf
  refine ⟨fun _ => ?_, fun h => absurd hthr h⟩
  refine e_run hC ?_
  conv => whnf
  refine ⟨fun _ => ?_, fun h0 => ?_⟩
  · refine e_run hC ?_
    conv => whnf
    exact e_weak hC [0, 1, 2, 3, 4] rfl rfl (nxt _ _ (by omega) hinv)
  · have hk0 := nI_z (by omega) h0
    have hv := hval hk0
    refine e_run hC ?_
    conv => whnf
    refine ⟨vp_in_nI (n := 0) (by decide) (by decide), ?_⟩
    have hq : (mDU (oX (dDU u (xs (3 * t + 1))).1 (dDU u (xs (3 * t + 1))).2.2 (dDU u (xs (3 * t + 1))).2.1) (xs (3 * t + 1))).2.2.2 (Int32.toNatClampNeg 0) = ((dDU u (xs (3 * t + 1))).2.1).toInt64 := by
      rw [q_DU (oX (dDU u (xs (3 * t + 1))).1 (dDU u (xs (3 * t + 1))).2.2 (dDU u (xs (3 * t + 1))).2.1) _]
      show (oX (dDU u (xs (3 * t + 1))).1 (dDU u (xs (3 * t + 1))).2.2 (dDU u (xs (3 * t + 1))).2.1).2.2 0 = _
      rw [hk0]
      exact oX_0 _ _
    rw [hq]
    refine e_run hC ?_
    conv => whnf
    rw [hv, lg_same]
    refine ⟨fun _ => ?_, fun h => absurd rfl h⟩
    refine e_run hC ?_
    conv => whnf
    exact e_weak hC [0, 1, 2, 3, 4] rfl rfl (nxt _ _ (by omega) hinv)
set_option maxRecDepth 100000 in
theorem w_area {L : Nat} {xs : Nat → Int32} (J : e_Jt) (hC : e_PL L xs J) {t b : Nat} {u : St} (hb : b ≤ t) (ht : t < 512) (hL : 3 * t + 3 ≤ L) (hL2 : L ≤ 1536) (hI : Inv t u) (nxt : ∀ b' u', b' ≤ t + 1 → Inv (t + 1) u' → J b' 1048 (lvt t) [] (Hp u')) : J b 731 (lvt t) [] (Hp u) := by
  obtain ⟨hk, hthr, hval, hinv⟩ := z_AR (u1 := (oX (dAR u (xs (3 * t + 1)) (xs (3 * t + 2))).1 u (dAR u (xs (3 * t + 1)) (xs (3 * t + 2))).2)) hI (oX_1 _ _ _) (oX_2 _ _ _)
  have hc := c01_le (dAR u (xs (3 * t + 1)) (xs (3 * t + 2))).1
  refine e_run hC ?_
  conv => whnf
  rw [nI_1]
  refine ⟨vp_in_nI (by omega) (by omega), ?_⟩
  rw [nI_clamp (by omega)]
  refine e_run hC ?_
  conv => whnf
  rw [nI_2]
  refine ⟨vp_in_nI (by omega) (by omega), ?_⟩
  rw [nI_clamp (by omega)]
  refine e_run hC ?_
  conv => whnf
  refine ⟨((dAR u (xs (3 * t + 1)) (xs (3 * t + 2))).1, u, (xs (3 * t + 1)), (xs (3 * t + 2))), ⟨rfl, hk⟩, rfl, rfl, kpl (k_le_of (show b + c01 (dAR u (xs (3 * t + 1)) (xs (3 * t + 2))).1 ≤ 512 by omega) ?_)⟩
  conv => whnf
  dsimp only [C_L_area]
  refine e_run hC ?_
  conv => whnf
  rw [nI_1]
  refine ⟨vp_in_nI (by omega) (by omega), ?_⟩
  rw [nI_clamp (by omega)]
  refine e_run hC ?_
  conv => whnf
  rw [nI_2]
  refine ⟨vp_in_nI (by omega) (by omega), ?_⟩
  rw [nI_clamp (by omega)]
  refine e_run hC ?_
  conv => whnf
  refine ⟨((oX (dAR u (xs (3 * t + 1)) (xs (3 * t + 2))).1 u (dAR u (xs (3 * t + 1)) (xs (3 * t + 2))).2), (xs (3 * t + 1)), (xs (3 * t + 2))), trivial, rfl, rfl, kpl (k_le_of (show b + c01 (dAR u (xs (3 * t + 1)) (xs (3 * t + 2))).1 + 0 ≤ 512 by omega) ?_)⟩
  conv => whnf
  dsimp only [C_M_area]
  refine e_run hC ?_
  conv => whnf
  refine ⟨(mAR (oX (dAR u (xs (3 * t + 1)) (xs (3 * t + 2))).1 u (dAR u (xs (3 * t + 1)) (xs (3 * t + 2))).2) (xs (3 * t + 1)) (xs (3 * t + 2))).2, trivial, rfl, rfl, kpl (k_le_of (show b + c01 (dAR u (xs (3 * t + 1)) (xs (3 * t + 2))).1 + 0 + 0 ≤ 512 by omega) ?_)⟩
  conv => whnf
  dsimp only [C_M_thrown]
  refine e_run hC ?_
  conv => whnf
  refine ⟨fun _ => ?_, fun h => absurd hthr h⟩
  refine e_run hC ?_
  conv => whnf
  refine ⟨fun _ => ?_, fun h0 => ?_⟩
  · refine e_run hC ?_
    conv => whnf
    exact e_weak hC [0, 1, 2, 3, 4] rfl rfl (nxt _ _ (by omega) hinv)
  · have hk0 := nI_z (by omega) h0
    have hv := hval hk0
    refine e_run hC ?_
    conv => whnf
    refine ⟨vp_in_nI (n := 0) (by decide) (by decide), ?_⟩
    have hq : (mAR (oX (dAR u (xs (3 * t + 1)) (xs (3 * t + 2))).1 u (dAR u (xs (3 * t + 1)) (xs (3 * t + 2))).2) (xs (3 * t + 1)) (xs (3 * t + 2))).2.2.2 (Int32.toNatClampNeg 0) = ((dAR u (xs (3 * t + 1)) (xs (3 * t + 2))).2).toInt64 := by
      rw [q_AR (oX (dAR u (xs (3 * t + 1)) (xs (3 * t + 2))).1 u (dAR u (xs (3 * t + 1)) (xs (3 * t + 2))).2) _ _]
      show (oX (dAR u (xs (3 * t + 1)) (xs (3 * t + 2))).1 u (dAR u (xs (3 * t + 1)) (xs (3 * t + 2))).2).2.2 0 = _
      rw [hk0]
      exact oX_0 _ _
    rw [hq]
    refine e_run hC ?_
    conv => whnf
    rw [hv, lg_same]
    refine ⟨fun _ => ?_, fun h => absurd rfl h⟩
    refine e_run hC ?_
    conv => whnf
    exact e_weak hC [0, 1, 2, 3, 4] rfl rfl (nxt _ _ (by omega) hinv)
set_option maxRecDepth 100000 in
theorem w_attach {L : Nat} {xs : Nat → Int32} (J : e_Jt) (hC : e_PL L xs J) {t b : Nat} {u : St} (hb : b ≤ t) (ht : t < 512) (hL : 3 * t + 3 ≤ L) (hL2 : L ≤ 1536) (hI : Inv t u) (nxt : ∀ b' u', b' ≤ t + 1 → Inv (t + 1) u' → J b' 1048 (lvt t) [] (Hp u')) : J b 799 (lvt t) [] (Hp u) := by
  obtain ⟨hpm, hval, hinv⟩ := z_AT (u1 := (dAT u).2) hI rfl rfl
  refine e_run hC ?_
  conv => whnf
  refine ⟨u, trivial, rfl, rfl, kpl (k_le_of (show b + 0 ≤ 512 by omega) ?_)⟩
  conv => whnf
  dsimp only [C_D_attach]
  refine e_run hC ?_
  conv => whnf
  refine ⟨(dAT u).2, hpm, rfl, rfl, kpl (k_le_of (show b + 0 + 0 ≤ 512 by omega) ?_)⟩
  conv => whnf
  dsimp only [C_M_attach]
  refine e_run hC ?_
  conv => whnf
  refine ⟨fun _ => ?_, fun h => absurd hval.symm h⟩
  exact nxt _ _ (by omega) hinv
set_option maxRecDepth 100000 in
theorem w_word {L : Nat} {xs : Nat → Int32} (J : e_Jt) (hC : e_PL L xs J) {t b : Nat} {u : St} (hb : b ≤ t) (ht : t < 512) (hL : 3 * t + 3 ≤ L) (hL2 : L ≤ 1536) (hI : Inv t u) (nxt : ∀ b' u', b' ≤ t + 1 → Inv (t + 1) u' → J b' 1048 (lvt t) [] (Hp u')) : J b 812 (lvt t) [] (Hp u) := by
  obtain ⟨hk, hthr, hval, hinv⟩ := z_WD (u1 := (oX (dWD u (xs (3 * t + 1))).1 u (dWD u (xs (3 * t + 1))).2)) hI (oX_1 _ _ _) (oX_2 _ _ _)
  have hc := c01_le (dWD u (xs (3 * t + 1))).1
  refine e_run hC ?_
  conv => whnf
  rw [nI_1]
  refine ⟨vp_in_nI (by omega) (by omega), ?_⟩
  rw [nI_clamp (by omega)]
  refine e_run hC ?_
  conv => whnf
  refine ⟨((dWD u (xs (3 * t + 1))).1, u, (xs (3 * t + 1))), ⟨rfl, hk⟩, rfl, rfl, kpl (k_le_of (show b + c01 (dWD u (xs (3 * t + 1))).1 ≤ 512 by omega) ?_)⟩
  conv => whnf
  dsimp only [C_L_word]
  refine e_run hC ?_
  conv => whnf
  rw [nI_1]
  refine ⟨vp_in_nI (by omega) (by omega), ?_⟩
  rw [nI_clamp (by omega)]
  refine e_run hC ?_
  conv => whnf
  refine ⟨((oX (dWD u (xs (3 * t + 1))).1 u (dWD u (xs (3 * t + 1))).2), (xs (3 * t + 1))), trivial, rfl, rfl, kpl (k_le_of (show b + c01 (dWD u (xs (3 * t + 1))).1 + 0 ≤ 512 by omega) ?_)⟩
  conv => whnf
  dsimp only [C_M_word]
  refine e_run hC ?_
  conv => whnf
  refine ⟨(mWD (oX (dWD u (xs (3 * t + 1))).1 u (dWD u (xs (3 * t + 1))).2) (xs (3 * t + 1))).2, trivial, rfl, rfl, kpl (k_le_of (show b + c01 (dWD u (xs (3 * t + 1))).1 + 0 + 0 ≤ 512 by omega) ?_)⟩
  conv => whnf
  dsimp only [C_M_thrown]
  refine e_run hC ?_
  conv => whnf
  refine ⟨fun _ => ?_, fun h => absurd hthr h⟩
  refine e_run hC ?_
  conv => whnf
  refine ⟨fun _ => ?_, fun h0 => ?_⟩
  · refine e_run hC ?_
    conv => whnf
    exact e_weak hC [0, 1, 2, 3, 4] rfl rfl (nxt _ _ (by omega) hinv)
  · have hk0 := nI_z (by omega) h0
    have hv := hval hk0
    refine e_run hC ?_
    conv => whnf
    refine ⟨vp_in_nI (n := 0) (by decide) (by decide), ?_⟩
    have hq : (mWD (oX (dWD u (xs (3 * t + 1))).1 u (dWD u (xs (3 * t + 1))).2) (xs (3 * t + 1))).2.2.2 (Int32.toNatClampNeg 0) = ((dWD u (xs (3 * t + 1))).2).toInt64 := by
      rw [q_WD (oX (dWD u (xs (3 * t + 1))).1 u (dWD u (xs (3 * t + 1))).2) _]
      show (oX (dWD u (xs (3 * t + 1))).1 u (dWD u (xs (3 * t + 1))).2).2.2 0 = _
      rw [hk0]
      exact oX_0 _ _
    rw [hq]
    refine e_run hC ?_
    conv => whnf
    rw [hv, lg_same]
    refine ⟨fun _ => ?_, fun h => absurd rfl h⟩
    refine e_run hC ?_
    conv => whnf
    exact e_weak hC [0, 1, 2, 3, 4] rfl rfl (nxt _ _ (by omega) hinv)
set_option maxRecDepth 100000 in
theorem w_walk {L : Nat} {xs : Nat → Int32} (J : e_Jt) (hC : e_PL L xs J) {t b : Nat} {u : St} (hb : b ≤ t) (ht : t < 512) (hL : 3 * t + 3 ≤ L) (hL2 : L ≤ 1536) (hI : Inv t u) (nxt : ∀ b' u', b' ≤ t + 1 → Inv (t + 1) u' → J b' 1048 (lvt t) [] (Hp u')) : J b 868 (lvt t) [] (Hp u) := by
  obtain ⟨hk, hthr, hval, hinv⟩ := z_WA (u1 := (oX (dWA u (xs (3 * t + 1))).1 (dWA u (xs (3 * t + 1))).2.2 (dWA u (xs (3 * t + 1))).2.1)) hI (oX_1 _ _ _) (oX_2 _ _ _)
  have hc := c01_le (dWA u (xs (3 * t + 1))).1
  refine e_run hC ?_
  conv => whnf
  rw [nI_1]
  refine ⟨vp_in_nI (by omega) (by omega), ?_⟩
  rw [nI_clamp (by omega)]
  refine e_run hC ?_
  conv => whnf
  refine ⟨((dWA u (xs (3 * t + 1))).1, u, (xs (3 * t + 1))), ⟨rfl, hk⟩, rfl, rfl, kpl (k_le_of (show b + c01 (dWA u (xs (3 * t + 1))).1 ≤ 512 by omega) ?_)⟩
  conv => whnf
  dsimp only [C_L_walk]
  refine e_run hC ?_
  conv => whnf
  rw [nI_1]
  refine ⟨vp_in_nI (by omega) (by omega), ?_⟩
  rw [nI_clamp (by omega)]
  refine e_run hC ?_
  conv => whnf
  refine ⟨((oX (dWA u (xs (3 * t + 1))).1 (dWA u (xs (3 * t + 1))).2.2 (dWA u (xs (3 * t + 1))).2.1), (xs (3 * t + 1))), trivial, rfl, rfl, kpl (k_le_of (show b + c01 (dWA u (xs (3 * t + 1))).1 + 0 ≤ 512 by omega) ?_)⟩
  conv => whnf
  dsimp only [C_M_walk]
  refine e_run hC ?_
  conv => whnf
  refine ⟨(mWA (oX (dWA u (xs (3 * t + 1))).1 (dWA u (xs (3 * t + 1))).2.2 (dWA u (xs (3 * t + 1))).2.1) (xs (3 * t + 1))).2, trivial, rfl, rfl, kpl (k_le_of (show b + c01 (dWA u (xs (3 * t + 1))).1 + 0 + 0 ≤ 512 by omega) ?_)⟩
  conv => whnf
  dsimp only [C_M_thrown]
  refine e_run hC ?_
  conv => whnf
  refine ⟨fun _ => ?_, fun h => absurd hthr h⟩
  refine e_run hC ?_
  conv => whnf
  refine ⟨fun _ => ?_, fun h0 => ?_⟩
  · refine e_run hC ?_
    conv => whnf
    exact e_weak hC [0, 1, 2, 3, 4] rfl rfl (nxt _ _ (by omega) hinv)
  · have hk0 := nI_z (by omega) h0
    have hv := hval hk0
    refine e_run hC ?_
    conv => whnf
    refine ⟨vp_in_nI (n := 0) (by decide) (by decide), ?_⟩
    have hq : (mWA (oX (dWA u (xs (3 * t + 1))).1 (dWA u (xs (3 * t + 1))).2.2 (dWA u (xs (3 * t + 1))).2.1) (xs (3 * t + 1))).2.2.2 (Int32.toNatClampNeg 0) = ((dWA u (xs (3 * t + 1))).2.1).toInt64 := by
      rw [q_WA (oX (dWA u (xs (3 * t + 1))).1 (dWA u (xs (3 * t + 1))).2.2 (dWA u (xs (3 * t + 1))).2.1) _]
      show (oX (dWA u (xs (3 * t + 1))).1 (dWA u (xs (3 * t + 1))).2.2 (dWA u (xs (3 * t + 1))).2.1).2.2 0 = _
      rw [hk0]
      exact oX_0 _ _
    rw [hq]
    refine e_run hC ?_
    conv => whnf
    rw [hv, lg_same]
    refine ⟨fun _ => ?_, fun h => absurd rfl h⟩
    refine e_run hC ?_
    conv => whnf
    exact e_weak hC [0, 1, 2, 3, 4] rfl rfl (nxt _ _ (by omega) hinv)
set_option maxRecDepth 100000 in
theorem w_broken {L : Nat} {xs : Nat → Int32} (J : e_Jt) (hC : e_PL L xs J) {t b : Nat} {u : St} (hb : b ≤ t) (ht : t < 512) (hL : 3 * t + 3 ≤ L) (hL2 : L ≤ 1536) (hI : Inv t u) (nxt : ∀ b' u', b' ≤ t + 1 → Inv (t + 1) u' → J b' 1048 (lvt t) [] (Hp u')) : J b 924 (lvt t) [] (Hp u) := by
  obtain ⟨hk, hthr, hval, hinv⟩ := z_BR (u1 := (oX (dBR u (xs (3 * t + 1))).1 u (dBR u (xs (3 * t + 1))).2)) hI (oX_1 _ _ _) (oX_2 _ _ _)
  have hc := c01_le (dBR u (xs (3 * t + 1))).1
  refine e_run hC ?_
  conv => whnf
  rw [nI_1]
  refine ⟨vp_in_nI (by omega) (by omega), ?_⟩
  rw [nI_clamp (by omega)]
  refine e_run hC ?_
  conv => whnf
  refine ⟨((dBR u (xs (3 * t + 1))).1, u, (xs (3 * t + 1))), ⟨rfl, hk⟩, rfl, rfl, kpl (k_le_of (show b + c01 (dBR u (xs (3 * t + 1))).1 ≤ 512 by omega) ?_)⟩
  conv => whnf
  dsimp only [C_L_broken]
  refine e_run hC ?_
  conv => whnf
  rw [nI_1]
  refine ⟨vp_in_nI (by omega) (by omega), ?_⟩
  rw [nI_clamp (by omega)]
  refine e_run hC ?_
  conv => whnf
  refine ⟨((oX (dBR u (xs (3 * t + 1))).1 u (dBR u (xs (3 * t + 1))).2), (xs (3 * t + 1))), trivial, rfl, rfl, kpl (k_le_of (show b + c01 (dBR u (xs (3 * t + 1))).1 + 0 ≤ 512 by omega) ?_)⟩
  conv => whnf
  dsimp only [C_M_broken]
  refine e_run hC ?_
  conv => whnf
  refine ⟨(mBR (oX (dBR u (xs (3 * t + 1))).1 u (dBR u (xs (3 * t + 1))).2) (xs (3 * t + 1))).2, trivial, rfl, rfl, kpl (k_le_of (show b + c01 (dBR u (xs (3 * t + 1))).1 + 0 + 0 ≤ 512 by omega) ?_)⟩
  conv => whnf
  dsimp only [C_M_thrown]
  refine e_run hC ?_
  conv => whnf
  refine ⟨fun _ => ?_, fun h => absurd hthr h⟩
  refine e_run hC ?_
  conv => whnf
  refine ⟨fun _ => ?_, fun h0 => ?_⟩
  · refine e_run hC ?_
    conv => whnf
    exact e_weak hC [0, 1, 2, 3, 4] rfl rfl (nxt _ _ (by omega) hinv)
  · have hk0 := nI_z (by omega) h0
    have hv := hval hk0
    refine e_run hC ?_
    conv => whnf
    refine ⟨vp_in_nI (n := 0) (by decide) (by decide), ?_⟩
    have hq : (mBR (oX (dBR u (xs (3 * t + 1))).1 u (dBR u (xs (3 * t + 1))).2) (xs (3 * t + 1))).2.2.2 (Int32.toNatClampNeg 0) = ((dBR u (xs (3 * t + 1))).2).toInt64 := by
      rw [q_BR (oX (dBR u (xs (3 * t + 1))).1 u (dBR u (xs (3 * t + 1))).2) _]
      show (oX (dBR u (xs (3 * t + 1))).1 u (dBR u (xs (3 * t + 1))).2).2.2 0 = _
      rw [hk0]
      exact oX_0 _ _
    rw [hq]
    refine e_run hC ?_
    conv => whnf
    rw [hv, lg_same]
    refine ⟨fun _ => ?_, fun h => absurd rfl h⟩
    refine e_run hC ?_
    conv => whnf
    exact e_weak hC [0, 1, 2, 3, 4] rfl rfl (nxt _ _ (by omega) hinv)
set_option maxRecDepth 100000 in
theorem w_node {L : Nat} {xs : Nat → Int32} (J : e_Jt) (hC : e_PL L xs J) {t b : Nat} {u : St} (hb : b ≤ t) (ht : t < 512) (hL : 3 * t + 3 ≤ L) (hL2 : L ≤ 1536) (hI : Inv t u) (nxt : ∀ b' u', b' ≤ t + 1 → Inv (t + 1) u' → J b' 1048 (lvt t) [] (Hp u')) : J b 980 (lvt t) [] (Hp u) := by
  obtain ⟨X, hn, hpm0, hk, hthr, hval, hinv⟩ := z_ND2 (k := (xs (3 * t + 1))) (w := (xs (3 * t + 2))) hI
  have hpm := hpm0
  have hc := c01_le (dND u (xs (3 * t + 1)) (xs (3 * t + 2)) X).1
  refine e_run hC ?_
  conv => whnf
  rw [nI_1]
  refine ⟨vp_in_nI (by omega) (by omega), ?_⟩
  rw [nI_clamp (by omega)]
  refine e_run hC ?_
  conv => whnf
  rw [nI_2]
  refine ⟨vp_in_nI (by omega) (by omega), ?_⟩
  rw [nI_clamp (by omega)]
  refine e_run hC ?_
  conv => whnf
  refine ⟨((dND u (xs (3 * t + 1)) (xs (3 * t + 2)) X).1, u, (xs (3 * t + 1)), (xs (3 * t + 2)), X), ⟨⟨rfl, hn⟩, hk⟩, rfl, rfl, kpl (k_le_of (show b + c01 (dND u (xs (3 * t + 1)) (xs (3 * t + 2)) X).1 ≤ 512 by omega) ?_)⟩
  conv => whnf
  dsimp only [C_L_node]
  refine e_run hC ?_
  conv => whnf
  rw [nI_1]
  refine ⟨vp_in_nI (by omega) (by omega), ?_⟩
  rw [nI_clamp (by omega)]
  refine e_run hC ?_
  conv => whnf
  rw [nI_2]
  refine ⟨vp_in_nI (by omega) (by omega), ?_⟩
  rw [nI_clamp (by omega)]
  refine e_run hC ?_
  conv => whnf
  refine ⟨((oX (dND u (xs (3 * t + 1)) (xs (3 * t + 2)) X).1 u (dND u (xs (3 * t + 1)) (xs (3 * t + 2)) X).2), (xs (3 * t + 1)), (xs (3 * t + 2)), X), hpm, rfl, rfl, kpl (k_le_of (show b + c01 (dND u (xs (3 * t + 1)) (xs (3 * t + 2)) X).1 + 0 ≤ 512 by omega) ?_)⟩
  conv => whnf
  dsimp only [C_M_node]
  refine e_run hC ?_
  conv => whnf
  refine ⟨(mND (oX (dND u (xs (3 * t + 1)) (xs (3 * t + 2)) X).1 u (dND u (xs (3 * t + 1)) (xs (3 * t + 2)) X).2) (xs (3 * t + 1)) (xs (3 * t + 2)) X).2, trivial, rfl, rfl, kpl (k_le_of (show b + c01 (dND u (xs (3 * t + 1)) (xs (3 * t + 2)) X).1 + 0 + 0 ≤ 512 by omega) ?_)⟩
  conv => whnf
  dsimp only [C_M_thrown]
  refine e_run hC ?_
  conv => whnf
  refine ⟨fun _ => ?_, fun h => absurd hthr h⟩
  refine e_run hC ?_
  conv => whnf
  refine ⟨fun _ => ?_, fun h0 => ?_⟩
  · refine e_run hC ?_
    conv => whnf
    exact e_weak hC [0, 1, 2, 3, 4] rfl rfl (nxt _ _ (by omega) hinv)
  · have hk0 := nI_z (by omega) h0
    have hv := hval hk0
    refine e_run hC ?_
    conv => whnf
    refine ⟨vp_in_nI (n := 0) (by decide) (by decide), ?_⟩
    have hq : (mND (oX (dND u (xs (3 * t + 1)) (xs (3 * t + 2)) X).1 u (dND u (xs (3 * t + 1)) (xs (3 * t + 2)) X).2) (xs (3 * t + 1)) (xs (3 * t + 2)) X).2.2.2 (Int32.toNatClampNeg 0) = ((dND u (xs (3 * t + 1)) (xs (3 * t + 2)) X).2).toInt64 := by
      rw [q_ND (oX (dND u (xs (3 * t + 1)) (xs (3 * t + 2)) X).1 u (dND u (xs (3 * t + 1)) (xs (3 * t + 2)) X).2) _ _ X]
      show (oX (dND u (xs (3 * t + 1)) (xs (3 * t + 2)) X).1 u (dND u (xs (3 * t + 1)) (xs (3 * t + 2)) X).2).2.2 0 = _
      rw [hk0]
      exact oX_0 _ _
    rw [hq]
    refine e_run hC ?_
    conv => whnf
    rw [hv, lg_same]
    refine ⟨fun _ => ?_, fun h => absurd rfl h⟩
    refine e_run hC ?_
    conv => whnf
    exact e_weak hC [0, 1, 2, 3, 4] rfl rfl (nxt _ _ (by omega) hinv)
