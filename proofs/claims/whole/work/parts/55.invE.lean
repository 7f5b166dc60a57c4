/-! poke, memory, halt, sector, area, word, walk, broken, node: class and reference -/
theorem b_t {b : Bool} (h : ¬ b = false) : b = true := by
  cases b with
  | true => rfl
  | false => exact absurd rfl h
theorem z_PK {t : Nat} {u u1 : St} {a x : Int32} (h : Inv t u) (e1 : u1.1 = (dPK u a x).2.1) (e2 : u1.2.1 = (dPK u a x).2.2.1) : (dPK u a x).1 ≤ 2 ∧ (mPK u1 a x).1 20 = nI (dPK u a x).1 ∧ Inv (t + 1) (mPK u1 a x) := by
  have hi : inn a 0 255 = bel a 256 := inn_bel (n := 256) (by decide) a
  unfold dPK at e1 e2 ⊢
  unfold mPK
  rw [hi]
  cases hb : bel a 256 with
  | false =>
    rw [hb] at e1 e2
    dsimp only [cond_false] at e1 e2 ⊢
    exact ⟨by decide, rfl, Inv_thr h e1 e2⟩
  | true =>
    rw [hb] at e1 e2
    dsimp only [cond_true] at e1 e2 ⊢
    cases hz : decide (u.1 0 = 0) with
    | false =>
      rw [hz] at e1 e2
      dsimp only [cond_false] at e1 e2 ⊢
      rw [if_neg (by rw [e1, ← h.1.1.1]; exact of_decide_eq_false hz)]
      exact ⟨by decide, rfl, Inv_thr h e1 e2⟩
    | true =>
      rw [hz] at e1 e2
      dsimp only [cond_true] at e1 e2 ⊢
      have e23 : u1.1 23 = u.1 23 := by rw [e1]; rfl
      rw [if_pos (by rw [e23, ← h.1.1.1]; exact of_decide_eq_true hz)]
      obtain ⟨s, A, o⟩ := u1
      dsimp only at e1 e2
      subst e1
      subst e2
      refine ⟨by decide, rfl, ⟨⟨h.1.1.1, rfl, h.1.1.2.2⟩, ?_, fun z => ?_⟩, I2_of h.2.1 rfl rfl rfl rfl rfl, I3_of h.2.2 rfl rfl rfl rfl rfl rfl rfl rfl rfl rfl rfl rfl rfl rfl rfl⟩
      · show upd (u.2.1 0) (na a) x = upd (u.2.1 20) (na a) x
        rw [h.1.2.1]
      · have z' : (decide (u.1 23 = 0) && decide ((1 : Int32) = 0)) = true := z
        rw [Bool.and_eq_true] at z'
        exact absurd (of_decide_eq_true z'.2) (by decide)
theorem uSS (u : St) (x y : Int32) : uS (uS u 20 x) 20 y = uS u 20 y := by
  refine Prod.ext ?_ rfl
  funext j
  rw [pS, pS, pS]
  split <;> rfl
theorem z_ME {t : Nat} {u u1 : St} {a : Int32} (h : Inv t u) (e1 : u1.1 = u.1) (e2 : u1.2.1 = u.2.1) : (dME u a).1 ≤ 1 ∧ (mME u1 a).2.1 20 = nI (dME u a).1 ∧ ((dME u a).1 = 0 → (mME u1 a).1 = (dME u a).2) ∧ Inv (t + 1) (mME u1 a).2 := by
  have hi : inn a 0 255 = bel a 256 := inn_bel (n := 256) (by decide) a
  unfold dME mME
  rw [hi]
  cases hb : bel a 256 with
  | false =>
    dsimp only [cond_false]
    rw [uSS]
    exact ⟨by decide, rfl, fun z => absurd z (by decide), Inv_thr h e1 e2⟩
  | true =>
    dsimp only [cond_true]
    exact ⟨by decide, rfl, fun _ => by rw [e2, h.1.2.1], Inv_thr h e1 e2⟩
theorem z_HA {t : Nat} {u : St} (h : Inv t u) : Inv (t + 1) (uS (uS (uS u 0 1) 20 0) 23 1) := by
  refine ⟨⟨⟨rfl, h.1.1.2.1, h.1.1.2.2⟩, h.1.2.1, fun z => ?_⟩, I2_of h.2.1 rfl rfl rfl rfl rfl, I3_of h.2.2 rfl rfl rfl rfl rfl rfl rfl rfl rfl rfl rfl rfl rfl rfl rfl⟩
  have z' : (decide ((1 : Int32) = 0) && decide (u.1 22 = 0)) = true := z
  rw [Bool.and_eq_true] at z'
  exact absurd (of_decide_eq_true z'.1) (by decide)
theorem z_SE {t : Nat} {u u1 : St} {s : Int32} {b : Bool} (h : Inv t u) (e1 : u1.1 = (dSE u s b).2.1) (e2 : u1.2.1 = (dSE u s b).2.2.1) : (dSE u s b).1 ≤ 1 ∧ (mSE u1 s b).1 20 = nI (dSE u s b).1 ∧ Inv (t + 1) (mSE u1 s b) := by
  have hi : inn s 0 95 = bel s 96 := inn_bel (n := 96) (by decide) s
  unfold dSE at e1 e2 ⊢
  unfold mSE
  rw [hi]
  cases hb : bel s 96 with
  | false =>
    rw [hb] at e1 e2
    dsimp only [cond_false] at e1 e2 ⊢
    exact ⟨by decide, rfl, Inv_thr h e1 e2⟩
  | true =>
    rw [hb] at e1 e2
    dsimp only [cond_true] at e1 e2 ⊢
    obtain ⟨s9, A, o⟩ := u1
    dsimp only at e1 e2
    subst e1
    subst e2
    refine ⟨by decide, rfl, I1_of h.1 (Nat.le_succ t) rfl rfl rfl rfl rfl rfl rfl rfl rfl rfl rfl, ⟨h.2.1.1, ?_, h.2.1.2.2⟩, I3_of h.2.2 rfl rfl rfl rfl rfl rfl rfl rfl rfl rfl rfl rfl rfl rfl rfl⟩
    show upd (u.2.1 2) (na s) (bi b) = upd (u.2.1 25) (na s) (bi b)
    rw [h.2.1.2.1]
theorem z_AR {t : Nat} {u u1 : St} {s w : Int32} (h : Inv t u) (e1 : u1.1 = u.1) (e2 : u1.2.1 = u.2.1) : (dAR u s w).1 ≤ 1 ∧ (mAR u1 s w).2.1 20 = nI (dAR u s w).1 ∧ ((dAR u s w).1 = 0 → (mAR u1 s w).1 = (dAR u s w).2) ∧ Inv (t + 1) (mAR u1 s w).2 := by
  have hi : inn s 0 95 = bel s 96 := inn_bel (n := 96) (by decide) s
  have hj : inn w 0 7 = bel w 8 := inn_bel (n := 8) (by decide) w
  unfold dAR mAR
  rw [hi, hj]
  cases hb : bel s 96 with
  | false =>
    dsimp only [cond_false, Bool.false_and]
    exact ⟨by decide, rfl, fun z => absurd z (by decide), Inv_thr h e1 e2⟩
  | true =>
    cases hc : bel w 8 with
    | false =>
      dsimp only [cond_false, cond_true, Bool.true_and]
      exact ⟨by decide, rfl, fun z => absurd z (by decide), Inv_thr h e1 e2⟩
    | true =>
      dsimp only [cond_true, Bool.and_self]
      exact ⟨by decide, rfl, fun _ => (by rw [e2, h.2.1.1]; rfl), Inv_thr h e1 e2⟩
theorem z_WD {t : Nat} {u u1 : St} {a : Int32} (h : Inv t u) (e1 : u1.1 = u.1) (e2 : u1.2.1 = u.2.1) : (dWD u a).1 ≤ 2 ∧ (mWD u1 a).2.1 20 = nI (dWD u a).1 ∧ ((dWD u a).1 = 0 → (mWD u1 a).1 = (dWD u a).2) ∧ Inv (t + 1) (mWD u1 a).2 := by
  have hi : inn a 0 255 = bel a 256 := inn_bel (n := 256) (by decide) a
  unfold dWD mWD
  rw [hi, e2]
  cases hb : bel a 256 with
  | false =>
    dsimp only [cond_false]
    exact ⟨by decide, rfl, fun z => absurd z (by decide), Inv_thr h e1 e2⟩
  | true =>
    dsimp only [cond_true]
    obtain ⟨b1, b2⟩ := bel_ix (n := 256) (by decide) hb
    obtain ⟨g1, g2, -⟩ := h.2.2
    rw [← g1 (na a / 16) (by omega)]
    by_cases c : u.2.1 6 (na a / 16) = 0
    · rw [if_pos c, decide_eq_true c]
      dsimp only [cond_true]
      exact ⟨by decide, rfl, fun z => absurd z (by decide), Inv_thr h e1 e2⟩
    · rw [if_neg c, decide_eq_false c]
      dsimp only [cond_false]
      refine ⟨by decide, rfl, fun _ => ?_, Inv_thr h e1 e2⟩
      have := g2 (na a / 16) (by omega) c (na a % 16) (by omega)
      rw [show 16 * (na a / 16) + na a % 16 = na a by omega] at this
      exact this.symm
theorem was_eq {f f' : Nat → Int32} {x : Int32} : ∀ n k, (∀ j, j < k + n → f j = f' j) → was f x n k = was f' x n k := by
  intro n
  induction n with
  | zero => intro k _; rfl
  | succ n ih =>
    intro k h
    show (if f k = x then true else was f x n (k + 1)) = (if f' k = x then true else was f' x n (k + 1))
    rw [h k (by omega), ih (k + 1) (fun j hj => h j (by omega))]
theorem wk_eq {w w' pr pr' : Nat → Int32} {t : Int32} (h1 : ∀ p, p < 16 → pr p = pr' p) (h2 : ∀ p, p < 16 → pr p ≠ 0 → ∀ j, j < 16 → w (16 * p + j) = w' (16 * p + j)) : ∀ n k s pls pls', s < 256 → pr (s / 16) ≠ 0 → (∀ j, j < k → pls j = pls' j ∧ pl (pls j) = true ∧ pr (na (pls j) / 16) ≠ 0) →
    (wk w pr t n k s pls).1 = (wk w' pr' t n k s pls').1 ∧ (wk w pr t n k s pls).2.1 = (wk w' pr' t n k s pls').2.1 ∧ (wk w pr t n k s pls).2.2.1 = (wk w' pr' t n k s pls').2.2.1 ∧ (wk w pr t n k s pls).1 ≤ k + n ∧
    ∀ j, j < (wk w pr t n k s pls).1 → (wk w pr t n k s pls).2.2.2 j = (wk w' pr' t n k s pls').2.2.2 j ∧ pl ((wk w pr t n k s pls).2.2.2 j) = true ∧ pr (na ((wk w pr t n k s pls).2.2.2 j) / 16) ≠ 0 := by
  intro n
  induction n with
  | zero =>
    intro k s pls pls' _ _ hp
    exact ⟨rfl, rfl, rfl, Nat.le_refl _, hp⟩
  | succ n ih =>
    intro k s pls pls' hs hpr hp
    have hw : ∀ j, j < 256 → pr (j / 16) ≠ 0 → w j = w' j := by
      intro j hj hz
      have := h2 (j / 16) (by omega) hz (j % 16) (by omega)
      rw [show 16 * (j / 16) + j % 16 = j by omega] at this
      exact this
    have ea : wk w pr t (n + 1) k s pls = if w s = 0 then (k, 0, -1, pls) else if brk w pr pls k (w s) t = 0 then wk w pr t n (k + 1) (na (w s) + 1) (upd pls k (w s)) else (k, brk w pr pls k (w s) t, nI s, pls) := rfl
    have eb : wk w' pr' t (n + 1) k s pls' = if w' s = 0 then (k, 0, -1, pls') else if brk w' pr' pls' k (w' s) t = 0 then wk w' pr' t n (k + 1) (na (w' s) + 1) (upd pls' k (w' s)) else (k, brk w' pr' pls' k (w' s) t, nI s, pls') := rfl
    rw [ea, eb, ← hw s hs hpr]
    by_cases c0 : w s = 0
    · rw [if_pos c0, if_pos c0]
      exact ⟨rfl, rfl, rfl, Nat.le_add_right _ _, hp⟩
    · rw [if_neg c0, if_neg c0]
      have hbk : brk w pr pls k (w s) t = brk w' pr' pls' k (w s) t := by
        unfold brk
        by_cases c1 : pl (w s) = false
        · rw [if_pos c1, if_pos c1]
        · rw [if_neg c1, if_neg c1]
          obtain ⟨z1, z2, z3, z4⟩ := pl_na (b_t c1)
          rw [← h1 (na (w s) / 16) (by omega)]
          by_cases c2 : pr (na (w s) / 16) = 0
          · rw [if_pos c2, if_pos c2]
          · rw [if_neg c2, if_neg c2, ← hw (na (w s)) (by omega) c2, was_eq k 0 (fun j hj => (hp j (by omega)).1)]
      rw [← hbk]
      by_cases c1 : brk w pr pls k (w s) t = 0
      · rw [if_pos c1, if_pos c1]
        have hok : pl (w s) = true ∧ pr (na (w s) / 16) ≠ 0 := by
          unfold brk at c1
          by_cases d1 : pl (w s) = false
          · rw [if_pos d1] at c1; cases c1
          · rw [if_neg d1] at c1
            by_cases d2 : pr (na (w s) / 16) = 0
            · rw [if_pos d2] at c1; cases c1
            · exact ⟨b_t d1, d2⟩
        obtain ⟨z1, z2, z3, z4⟩ := pl_na hok.1
        obtain ⟨i1, i2, i3, i4, i5⟩ := ih (k + 1) (na (w s) + 1) (upd pls k (w s)) (upd pls' k (w s)) (by omega) (by rw [show (na (w s) + 1) / 16 = na (w s) / 16 by omega]; exact hok.2) (fun j hj => by
          unfold upd
          by_cases d : j = k
          · rw [if_pos d, if_pos d]; exact ⟨rfl, hok⟩
          · rw [if_neg d, if_neg d]; exact hp j (by omega))
        exact ⟨i1, i2, i3, by omega, i5⟩
      · rw [if_neg c1, if_neg c1]
        exact ⟨rfl, rfl, rfl, Nat.le_add_right _ _, hp⟩
theorem z_WA {t : Nat} {u u1 : St} {x : Int32} (h : Inv t u) (e1 : u1.1 = (dWA u x).2.2.1) (e2 : u1.2.1 = (dWA u x).2.2.2.1) : (dWA u x).1 ≤ 2 ∧ (mWA u1 x).2.1 20 = nI (dWA u x).1 ∧ ((dWA u x).1 = 0 → (mWA u1 x).1 = (dWA u x).2.1) ∧ Inv (t + 1) (mWA u1 x).2 := by
  have hi : inn x 0 5 = bel x 6 := inn_bel (n := 6) (by decide) x
  obtain ⟨g1, g2, g3, g4, g5⟩ := h.2.2
  unfold dWA at e1 e2 ⊢
  unfold mWA
  rw [hi]
  cases hb : bel x 6 with
  | false =>
    rw [hb] at e1 e2
    dsimp only [cond_false] at e1 e2 ⊢
    exact ⟨by decide, rfl, fun z => absurd z (by decide), Inv_thr h e1 e2⟩
  | true =>
    rw [hb] at e1 e2
    dsimp only [cond_true] at e1 e2 ⊢
    obtain ⟨b1, b2⟩ := bel_ix (n := 6) (by decide) hb
    cases hz : decide (u.2.1 6 0 = 0) with
    | true =>
      rw [hz] at e1 e2
      dsimp only [cond_true] at e1 e2 ⊢
      rw [if_pos (Or.inr (by rw [e2, ← g1 0 (by omega)]; exact of_decide_eq_true hz))]
      exact ⟨by decide, rfl, fun z => absurd z (by decide), Inv_thr h e1 e2⟩
    | false =>
      rw [hz] at e1 e2
      dsimp only [cond_false] at e1 e2 ⊢
      have hz' := of_decide_eq_false hz
      have f26 : u1.1 26 = u.1 26 := by rw [e1]; rfl
      have f28 : u1.2.1 28 = u.2.1 28 := by rw [e2]; rfl
      rw [if_neg (by
        rintro (z | z)
        · rw [f26] at z; exact g3 hz' z
        · rw [f28, ← g1 0 (by omega)] at z; exact hz' z)]
      have hwk : mwk u1 (na x) = wk (u.2.1 27) (u.2.1 28) (tg (na x)) 57 0 (na x) (u.2.1 30) := by
        unfold mwk
        rw [e2]
        rfl
      obtain ⟨i1, i2, i3, i4, i5⟩ := wk_eq (t := tg (na x)) g1 g2 57 0 (na x) (u.2.1 7) (u.2.1 30) (by omega) (by rw [show na x / 16 = 0 by omega]; exact hz') (fun j hj => absurd hj (Nat.not_lt_zero _))
      rw [hwk]
      unfold wkl at e1 e2 ⊢
      generalize wk (u.2.1 5) (u.2.1 6) (tg (na x)) 57 0 (na x) (u.2.1 7) = B at *
      generalize wk (u.2.1 27) (u.2.1 28) (tg (na x)) 57 0 (na x) (u.2.1 30) = B' at *
      obtain ⟨s, A, o⟩ := u1
      dsimp only at e1 e2
      subst e1
      subst e2
      refine ⟨by decide, rfl, fun _ => by rw [i1], I1_of h.1 (Nat.le_succ t) rfl rfl rfl rfl rfl rfl rfl rfl rfl rfl rfl, I2_of h.2.1 rfl rfl rfl rfl rfl, g1, g2, g3, rfl, fun _ => ⟨B.1, by omega, rfl, ?_, ?_, ?_, i5⟩⟩
      · show nI B'.1 = nI B.1
        rw [i1]
      · show nI B.2.1 = nI B'.2.1
        rw [i2]
      · show B.2.2.1 = B'.2.2.1
        exact i3
theorem z_BR {t : Nat} {u u1 : St} {x : Int32} (h : Inv t u) (e1 : u1.1 = u.1) (e2 : u1.2.1 = u.2.1) : (dBR u x).1 ≤ 2 ∧ (mBR u1 x).2.1 20 = nI (dBR u x).1 ∧ ((dBR u x).1 = 0 → (mBR u1 x).1 = (dBR u x).2) ∧ Inv (t + 1) (mBR u1 x).2 := by
  have hi : inn x 0 1 = bel x 2 := inn_bel (n := 2) (by decide) x
  obtain ⟨g1, g2, g3, g4, g5⟩ := h.2.2
  unfold dBR mBR
  rw [hi, e1]
  cases hb : bel x 2 with
  | false =>
    dsimp only [cond_false]
    exact ⟨by decide, rfl, fun z => absurd z (by decide), Inv_thr h e1 e2⟩
  | true =>
    dsimp only [cond_true]
    rw [← g4]
    by_cases c : u.1 8 = 0
    · rw [if_pos c, decide_eq_true c]
      dsimp only [cond_true]
      exact ⟨by decide, rfl, fun z => absurd z (by decide), Inv_thr h e1 e2⟩
    · rw [if_neg c, decide_eq_false c]
      dsimp only [cond_false]
      obtain ⟨n, -, -, -, z1, z2, -⟩ := g5 c
      refine ⟨by decide, rfl, fun _ => ?_, Inv_thr h e1 e2⟩
      show (if x = 0 then u.1 29 else u.1 30) = (if x = 0 then u.1 10 else u.1 11)
      rw [z1, z2]
theorem z_ND {t : Nat} {u u1 : St} {k w : Int32} (h : Inv t u) (e1 : u1.1 = u.1) (e2 : u1.2.1 = u.2.1) : ∃ c, (¬ u.1 8 = 0 → c ≤ 57 ∧ u.1 9 = nI c ∧ ∀ j, j < c → pl (u.2.1 7 j) = true) ∧ C_M_node.2.2.2.1 (u1, k, w, c) ∧ (dND u k w c).1 ≤ 3 ∧ (mND u1 k w c).2.1 20 = nI (dND u k w c).1 ∧ ((dND u k w c).1 = 0 → (mND u1 k w c).1 = (dND u k w c).2) ∧ Inv (t + 1) (mND u1 k w c).2 := by
  have hi : inn w 0 2 = bel w 3 := inn_bel (n := 3) (by decide) w
  obtain ⟨g1, g2, g3, g4, g5⟩ := h.2.2
  by_cases c : u.1 8 = 0
  · refine ⟨0, fun z => absurd c z, fun z => absurd (show u1.1 27 = 0 by rw [e1, ← g4]; exact c) z, ?_⟩
    unfold dND mND
    rw [hi, e1, ← g4, if_pos c, decide_eq_true c]
    cases hb : bel w 3 with
    | false =>
      dsimp only [cond_false]
      exact ⟨by decide, rfl, fun z => absurd z (by decide), Inv_thr h e1 e2⟩
    | true =>
      dsimp only [cond_true]
      exact ⟨by decide, rfl, fun z => absurd z (by decide), Inv_thr h e1 e2⟩
  · obtain ⟨n, n1, n2, n3, z1, z2, z3⟩ := g5 c
    refine ⟨n, fun _ => ⟨n1, n2, fun j hj => (z3 j hj).2.1⟩, fun _ => ⟨n1, by show u1.1 28 = nI n; rw [e1]; exact n3, fun j hj => by show pl (u1.2.1 30 j) = true; rw [e2, ← (z3 j hj).1]; exact (z3 j hj).2.1⟩, ?_⟩
    unfold dND mND
    rw [hi, e1, ← g4, if_neg c, decide_eq_false c, inn_bel (by omega), e2]
    cases hb : bel w 3 with
    | false =>
      dsimp only [cond_false]
      exact ⟨by decide, rfl, fun z => absurd z (by decide), Inv_thr h e1 e2⟩
    | true =>
      dsimp only [cond_true, cond_false]
      cases hk : bel k (nI n) with
      | false =>
        dsimp only [cond_false]
        exact ⟨by decide, rfl, fun z => absurd z (by decide), Inv_thr h e1 e2⟩
      | true =>
        dsimp only [cond_true]
        obtain ⟨k1, k2⟩ := bel_ix (by omega) hk
        obtain ⟨w1, w2⟩ := bel_ix (n := 3) (by decide) hb
        obtain ⟨y1, y2, y3⟩ := z3 (na k) k2
        refine ⟨by decide, rfl, fun _ => ?_, Inv_thr h e1 e2⟩
        rw [← y1]
        obtain ⟨x1, x2, x3, x4⟩ := pl_na y2
        by_cases c0 : w = 0
        · rw [if_pos c0, if_pos c0]
        · rw [if_neg c0, if_neg c0]
          have := g2 (na (u.2.1 7 (na k)) / 16) (by omega) y3 (na (u.2.1 7 (na k)) % 16 + 1 + na w) (by omega)
          rw [show 16 * (na (u.2.1 7 (na k)) / 16) + (na (u.2.1 7 (na k)) % 16 + 1 + na w) = na (u.2.1 7 (na k)) + 1 + na w by omega] at this
          exact this.symm
