/-! attach, the whole of it -/
def Pg (x v : St) : Prop := (∀ p, p < 16 → x.2.1 6 p = v.2.1 28 p) ∧ ∀ p, p < 16 → x.2.1 6 p ≠ 0 → ∀ j, j < 16 → x.2.1 5 (16 * p + j) = v.2.1 27 (16 * p + j)
theorem Pg_of {x x' v v' : St} (h : Pg x v) (e1 : x'.2.1 6 = x.2.1 6) (e2 : x'.2.1 5 = x.2.1 5) (e3 : v'.2.1 28 = v.2.1 28) (e4 : v'.2.1 27 = v.2.1 27) : Pg x' v' := by
  unfold Pg
  rw [e1, e2, e3, e4]
  exact h
theorem mat_step (n m : Nat) (b : Int32) (v : St) (f : Nat → Int32) (z s : Nat) : mat (n + 1) m b v f z s =
    cond (prC (v.2.1 24) (v.2.1 25) f m b s).1
      (if (prC (v.2.1 24) (v.2.1 25) f m b s).2.1 1 < 0 then (if (prC (v.2.1 24) (v.2.1 25) f m b s).2.1 3 = nI m then 100 + nI m else nI m, mR v (prC (v.2.1 24) (v.2.1 25) f m b s).2.1 (8 * (prC (v.2.1 24) (v.2.1 25) f m b s).2.2.1) (prC (v.2.1 24) (v.2.1 25) f m b s).2.2.2)
      else cond (mup (prC (v.2.1 24) (v.2.1 25) f m b s).2.1 (3 + na ((prC (v.2.1 24) (v.2.1 25) f m b s).2.1 2)) 20 3 0 (v.2.1 29)).1
        (mat n (m + 1) ((prC (v.2.1 24) (v.2.1 25) f m b s).2.1 1) (mad v (na ((prC (v.2.1 24) (v.2.1 25) f m b s).2.1 1)) (mup (prC (v.2.1 24) (v.2.1 25) f m b s).2.1 (3 + na ((prC (v.2.1 24) (v.2.1 25) f m b s).2.1 2)) 20 3 0 (v.2.1 29)).2) (prC (v.2.1 24) (v.2.1 25) f m b s).2.1 (8 * (prC (v.2.1 24) (v.2.1 25) f m b s).2.2.1) (prC (v.2.1 24) (v.2.1 25) f m b s).2.2.2)
        (nI m, mR (uA v 29 (mup (prC (v.2.1 24) (v.2.1 25) f m b s).2.1 (3 + na ((prC (v.2.1 24) (v.2.1 25) f m b s).2.1 2)) 20 3 0 (v.2.1 29)).2) (prC (v.2.1 24) (v.2.1 25) f m b s).2.1 (8 * (prC (v.2.1 24) (v.2.1 25) f m b s).2.2.1) (prC (v.2.1 24) (v.2.1 25) f m b s).2.2.2))
      (nI m, mR v (prC (v.2.1 24) (v.2.1 25) f m b s).2.1 (8 * (prC (v.2.1 24) (v.2.1 25) f m b s).2.2.1) (prC (v.2.1 24) (v.2.1 25) f m b s).2.2.2) := rfl
theorem rA_step (n m : Nat) (b : Int32) (u : St) : rA (n + 1) m b u = cond (rC u m b).1 (if (rC u m b).2.2.1 4 1 = -1 then (decide ((rC u m b).2.2.1 4 3 = nI m), (rC u m b).2) else cond (iop ((rC u m b).2.2.1 4) (3 + na ((rC u m b).2.2.1 4 2)) 20 3 0) (rA n (m + 1) ((rC u m b).2.2.1 4 1) (adp (uA (rC u m b).2 5 (upk ((rC u m b).2.2.1 4) (3 + na ((rC u m b).2.2.1 4 2)) 20 3 (16 * na ((rC u m b).2.2.1 4 1)) ((rC u m b).2.2.1 5))) (na ((rC u m b).2.2.1 4 1)))) (false, (rC u m b).2)) (false, (rC u m b).2) := rfl
/-- what an attach leaves alone -/
def Ak (x x' v v' : St) : Prop := (∀ k, k ≠ 4 → k ≠ 5 → k ≠ 6 → x'.2.1 k = x.2.1 k) ∧ (∀ k, k ≠ 6 → k ≠ 7 → x'.1 k = x.1 k) ∧ x'.2.2 = x.2.2 ∧ (∀ k, k ≠ 26 → k ≠ 27 → k ≠ 28 → k ≠ 29 → v'.2.1 k = v.2.1 k) ∧ (∀ k, k ≠ 24 → k ≠ 25 → v'.1 k = v.1 k) ∧ v'.2.2 = v.2.2
theorem Ak_trans {x x' x'' v v' v'' : St} (h : Ak x x' v v') (h' : Ak x' x'' v' v'') : Ak x x'' v v'' :=
  ⟨fun k a b d => (h'.1 k a b d).trans (h.1 k a b d), fun k a b => (h'.2.1 k a b).trans (h.2.1 k a b), h'.2.2.1.trans h.2.2.1, fun k a b d e => (h'.2.2.2.1 k a b d e).trans (h.2.2.2.1 k a b d e), fun k a b => (h'.2.2.2.2.1 k a b).trans (h.2.2.2.2.1 k a b), h'.2.2.2.2.2.trans h.2.2.2.2.2⟩
theorem Ak_mR {x x' v : St} (h : Rk x x') {f : Nat → Int32} {z s : Nat} : Ak x x' v (mR v f z s) := by
  refine ⟨fun k a _ _ => h.1 k a, fun k a _ => h.2.1 k a, h.2.2, fun k a _ _ _ => ?_, fun k a b => ?_, rfl⟩
  · unfold mR
    simp only [pA, pSa, if_neg a]
  · unfold mR
    simp only [pS, pAs, if_neg a, if_neg b]
theorem rA_eq : ∀ (n m : Nat) (b : Int32) (x v : St) (f : Nat → Int32) (z s : Nat), n + m = 17 → (m : Int) ≤ b.toInt + 1 → b.toInt < 16 → z < 2 ^ 31 → Sr x (v.2.1 24) (v.2.1 25) s → x.1 7 = nI m → Pg x v →
    (mat n m b v f z s).1 = cond (rA n m b x).1 ((rA n m b x).2.1 7 + 100) ((rA n m b x).2.1 7) ∧ Pg (rA n m b x).2 (mat n m b v f z s).2 ∧ (∃ z', z' < 2 ^ 31 ∧ (mat n m b v f z s).2.1 24 = nI z') ∧ Ak x (rA n m b x).2 v (mat n m b v f z s).2 := by
  intro n
  induction n with
  | zero => intro m b x v f z s hm h1 h2; omega
  | succ n ih =>
    intro m b x v f z s hm hb1 hb2 hz hS h7 hP
    obtain ⟨q1, q2, q3⟩ := rC_eq (m := m) (b := b) (f := f) hS
    have hk := prC_k (v.2.1 24) (v.2.1 25) f m b s
    have hmb : -1 ≤ b.toInt := by omega
    rw [rA_step, mat_step, ← q1]
    generalize hX : rC x m b = X at q1 q2 q3 ⊢
    generalize hY : prC (v.2.1 24) (v.2.1 25) f m b s = Y at q1 q3 hk ⊢
    have h7' : X.2.1 7 = nI m := (q2.2.1 7 (by decide)).trans h7
    -- an end without a page more
    have fin : ∀ g : Nat → Int32, Pg X.2 (mR (uA v 29 g) Y.2.1 (8 * Y.2.2.1) Y.2.2.2) ∧ Pg X.2 (mR v Y.2.1 (8 * Y.2.2.1) Y.2.2.2) := fun g => ⟨Pg_of hP (q2.1 6 (by decide)) (q2.1 5 (by decide)) rfl rfl, Pg_of hP (q2.1 6 (by decide)) (q2.1 5 (by decide)) rfl rfl⟩
    cases hc : X.1 with
    | false =>
      dsimp only [cond_false]
      exact ⟨h7'.symm, (fin (fun _ => 0)).2, ⟨_, (by omega : 8 * Y.2.2.1 < 2 ^ 31), rfl⟩, Ak_mR q2⟩
    | true =>
      dsimp only [cond_true]
      obtain ⟨r1, r2, r3⟩ := q3 hc
      obtain ⟨t1, t2, t3⟩ := hft_2 r1
      have a1 := r3 1 (by omega)
      have a2 := r3 2 (by omega)
      have a3 := r3 3 (by omega)
      rw [← a1, ← a2, ← a3]
      generalize hg : X.2.2.1 4 = g at *
      by_cases c1 : g 1 = -1
      · rw [if_pos c1, c1, if_pos (by decide)]
        refine ⟨?_, (fin (fun _ => 0)).2, ⟨_, (by omega : 8 * Y.2.2.1 < 2 ^ 31), rfl⟩, Ak_mR q2⟩
        show (if g 3 = nI m then 100 + nI m else nI m) = cond (decide (g 3 = nI m)) (X.2.1 7 + 100) (X.2.1 7)
        rw [h7']
        by_cases c2 : g 3 = nI m
        · rw [if_pos c2, decide_eq_true c2, cond_true, Int32.add_comm]
        · rw [if_neg c2, decide_eq_false c2, cond_false]
      · obtain ⟨u1, u2⟩ := hft_1 r1 c1 hmb
        have c2 : ¬ g 1 < 0 := by rw [u1]; exact nI_nn (by omega)
        rw [if_neg c1, if_neg c2]
        have hag : ∀ j, j < 3 + na (g 2) → g j = Y.2.1 j := fun j hj => r3 j (by omega)
        have him := iop_mup hag 20 3 0 (v.2.1 29) (by omega) (by omega)
        rw [him]
        cases hq : (mup Y.2.1 (3 + na (g 2)) 20 3 0 (v.2.1 29)).1 with
        | false =>
          dsimp only [cond_false]
          refine ⟨h7'.symm, (fin _).1, ⟨_, (by omega : 8 * Y.2.2.1 < 2 ^ 31), rfl⟩, ?_⟩
          have := Ak_mR (v := uA v 29 (mup Y.2.1 (3 + na (g 2)) 20 3 0 (v.2.1 29)).2) (f := Y.2.1) (z := 8 * Y.2.2.1) (s := Y.2.2.2) q2
          refine ⟨this.1, this.2.1, this.2.2.1, fun k a b d e => ?_, this.2.2.2.2.1, this.2.2.2.2.2⟩
          rw [this.2.2.2.1 k a b d e, pA, if_neg e]
        | true =>
          dsimp only [cond_true]
          obtain ⟨i1, i2⟩ := upk_mup (o := 16 * na (g 1)) hag 20 3 0 (v.2.1 29) (X.2.2.1 5) (by omega) (by omega) hq (fun j hj => absurd hj (by omega))
          rw [Nat.add_zero] at i1 i2
          generalize mup Y.2.1 (3 + na (g 2)) 20 3 0 (v.2.1 29) = M at i1 hq ⊢
          generalize upk g (3 + na (g 2)) 20 3 (16 * na (g 1)) (X.2.2.1 5) = K at i1 i2 ⊢
          have hbi : b < g 1 := by
            unfold hft at r1
            rw [if_neg c1] at r1
            simp only [Bool.and_eq_true, decide_eq_true_eq] at r1
            exact r1.1
          have hbt : b.toInt < (g 1).toInt := (Int32.lt_iff_toInt_lt).mp hbi
          have hgt : (g 1).toInt = (na (g 1) : Int) := by rw [u1]; rw [show na (nI (na (g 1))) = na (g 1) from nI_clamp (by omega)]; exact nI_toInt (by omega)
          generalize hp : na (g 1) = p at *
          have hPg : Pg (adp (uA X.2 5 K) p) (mad v p M.2) := by
            refine ⟨fun k hk => ?_, fun k hk hn j hj => ?_⟩
            · show upd (X.2.2.1 6) p 1 k = upd (v.2.1 28) p 1 k
              unfold upd
              by_cases d : k = p
              · rw [if_pos d, if_pos d]
              · rw [if_neg d, if_neg d, q2.1 6 (by decide)]
                exact hP.1 k hk
            · show K (16 * k + j) = va_cpy M.2 (v.2.1 27) 0 (16 * p) 16 (16 * k + j)
              unfold va_cpy
              by_cases d : k = p
              · subst d
                rw [if_pos (by omega), i1 j hj]
                exact congrArg M.2 (by omega)
              · rw [if_neg (by omega), i2 _ (by omega), q2.1 5 (by decide)]
                refine hP.2 k hk ?_ j hj
                have hn' : upd (X.2.2.1 6) p 1 k ≠ 0 := hn
                unfold upd at hn'
                rw [if_neg d, q2.1 6 (by decide)] at hn'
                exact hn'
          obtain ⟨j1, j2, j3, j4⟩ := ih (m + 1) (g 1) (adp (uA X.2 5 K) p) (mad v p M.2) Y.2.1 (8 * Y.2.2.1) Y.2.2.2 (by omega) (by omega) (by omega) (by omega) r2 (by
            show X.2.1 7 + 1 = nI (m + 1)
            rw [h7', show (1 : Int32) = nI 1 from rfl, nI_add]) hPg
          refine ⟨j1, j2, j3, Ak_trans (x' := adp (uA X.2 5 K) p) (v' := mad v p M.2) ⟨fun k a b d => ?_, fun k a b => ?_, q2.2.2, fun k a b d e => ?_, fun _ _ _ => rfl, rfl⟩ j4⟩
          · unfold adp
            simp only [pA, pSa, if_neg b, if_neg d]
            exact q2.1 k a
          · unfold adp
            simp only [pS, pAs, if_neg b]
            exact q2.2.1 k a
          · unfold mad
            simp only [pA, if_neg b, if_neg d, if_neg e]
theorem z_AT {t : Nat} {u u1 : St} (h : Inv t u) (e1 : u1.1 = (dAT u).2.1) (e2 : u1.2.1 = (dAT u).2.2.1) : C_M_attach.2.2.2.1 u1 ∧ (mAT u1).1 = (dAT u).1 ∧ Inv (t + 1) (mAT u1).2 := by
  obtain ⟨s1, s2, s3⟩ := h.2.1
  unfold dAT at e1 e2 ⊢
  dsimp only at e1 e2 ⊢
  have z24 : na (u.1 24) < 2 ^ 31 := by
    have := Int32.toInt_lt (u.1 24)
    unfold na Int32.toNatClampNeg
    omega
  -- the class's own start
  have key : ∀ v : St, v.2.1 24 = u.2.1 24 → v.2.1 25 = u.2.1 25 → ∀ f z, z < 2 ^ 31 → _ := fun v v1 v2 f z hz =>
    rA_eq 17 0 (-1) (uS (fgt u) 6 0) (mA0 v) f z 0 rfl (by decide) (by decide) hz ⟨by show u.2.1 1 = v.2.1 24; rw [v1]; exact s1, by show u.2.1 2 = v.2.1 25; rw [v2]; exact s2, rfl, by omega⟩ rfl ⟨fun p hp => by
      show ffl (u.2.1 6) 0 16 0 p = ffl (v.2.1 28) 0 16 0 p
      unfold ffl
      rw [if_pos (by omega), if_pos (by omega)], fun p hp hn => absurd (show ffl (u.2.1 6) 0 16 0 p = 0 by unfold ffl; rw [if_pos (by omega)]) hn⟩
  obtain ⟨-, -, -, d1, d2, d3, -⟩ := key u rfl rfl (fun _ => 0) 0 (by decide)
  have f1 : ∀ k, k ≠ 4 → k ≠ 5 → k ≠ 6 → u1.2.1 k = u.2.1 k := by
    intro k a b d
    rw [e2, d1 k a b d]
    show (fgt u).2.1 k = _
    unfold fgt
    simp only [pA, pSa, if_neg d]
  have f2 : ∀ k, k ≠ 6 → k ≠ 7 → k ≠ 8 → u1.1 k = u.1 k := by
    intro k a b d
    rw [e1, d2 k a b, pS, if_neg a]
    unfold fgt
    simp only [pS, pAs, if_neg b, if_neg d]
  have f8 : u1.1 8 = 0 := by
    rw [e1, d2 8 (by decide) (by decide)]
    rfl
  have e24 : u1.1 24 = u.1 24 := f2 24 (by decide) (by decide) (by decide)
  obtain ⟨q1, q2, ⟨z, z1, z2⟩, -, -, -, d4, d5, d6⟩ := key u1 (f1 24 (by decide) (by decide) (by decide)) (f1 25 (by decide) (by decide) (by decide)) (u1.2.1 26) (na (u1.1 24)) (by rw [e24]; exact z24)
  refine ⟨by show u1.1 24 = nI (na (u1.1 24)); rw [e24]; exact s3, q1, ?_⟩
  unfold mAT
  generalize mat 17 0 (-1) (mA0 u1) (u1.2.1 26) (na (u1.1 24)) 0 = Y at q1 q2 z2 d4 d5 d6 ⊢
  have g1 : ∀ k, k ≠ 4 → k ≠ 5 → k ≠ 6 → k ≠ 26 → k ≠ 27 → k ≠ 28 → k ≠ 29 → Y.2.2.1 k = u.2.1 k := by
    intro k a b d c6 c7 c8 c9
    rw [d4 k c6 c7 c8 c9]
    unfold mA0
    simp only [pA, pSa, if_neg c8]
    exact f1 k a b d
  have g2 : ∀ k, k ≠ 6 → k ≠ 7 → k ≠ 8 → k ≠ 20 → k ≠ 24 → k ≠ 25 → k ≠ 26 → k ≠ 27 → Y.2.1 k = u.1 k := by
    intro k a b d c0 c4 c5 c6 c7
    rw [d5 k c4 c5]
    unfold mA0
    simp only [pS, pAs, if_neg c0, if_neg c5, if_neg c6, if_neg c7]
    exact f2 k a b d
  have y6 : Y.2.2.1 6 = u1.2.1 6 := by
    rw [d4 6 (by decide) (by decide) (by decide) (by decide)]
    rfl
  have y5 : Y.2.2.1 5 = u1.2.1 5 := by
    rw [d4 5 (by decide) (by decide) (by decide) (by decide)]
    rfl
  refine ⟨I1_of h.1 (Nat.le_succ t) (g1 0 (by decide) (by decide) (by decide) (by decide) (by decide) (by decide) (by decide)) (g1 20 (by decide) (by decide) (by decide) (by decide) (by decide) (by decide) (by decide)) (g1 21 (by decide) (by decide) (by decide) (by decide) (by decide) (by decide) (by decide)) (g1 22 (by decide) (by decide) (by decide) (by decide) (by decide) (by decide) (by decide)) (g1 23 (by decide) (by decide) (by decide) (by decide) (by decide) (by decide) (by decide))
    (g2 0 (by decide) (by decide) (by decide) (by decide) (by decide) (by decide) (by decide) (by decide)) (g2 1 (by decide) (by decide) (by decide) (by decide) (by decide) (by decide) (by decide) (by decide)) (g2 2 (by decide) (by decide) (by decide) (by decide) (by decide) (by decide) (by decide) (by decide)) (g2 21 (by decide) (by decide) (by decide) (by decide) (by decide) (by decide) (by decide) (by decide)) (g2 22 (by decide) (by decide) (by decide) (by decide) (by decide) (by decide) (by decide) (by decide)) (g2 23 (by decide) (by decide) (by decide) (by decide) (by decide) (by decide) (by decide) (by decide)), ⟨?_, ?_, ?_⟩, ?_, ?_, ?_, ?_, ?_⟩
  · rw [g1 1 (by decide) (by decide) (by decide) (by decide) (by decide) (by decide) (by decide), g1 24 (by decide) (by decide) (by decide) (by decide) (by decide) (by decide) (by decide)]; exact s1
  · rw [g1 2 (by decide) (by decide) (by decide) (by decide) (by decide) (by decide) (by decide), g1 25 (by decide) (by decide) (by decide) (by decide) (by decide) (by decide) (by decide)]; exact s2
  · rw [z2]
    exact congrArg nI (nI_clamp z1).symm
  · intro p hp
    rw [y6, e2]
    exact q2.1 p hp
  · intro p hp hn j hj
    rw [y6, e2] at hn
    rw [y5, e2]
    exact q2.2 p hp hn j hj
  · intro _
    rw [d5 26 (by decide) (by decide)]
    exact (by decide : (1 : Int32) ≠ 0)
  · rw [d5 8 (by decide) (by decide), d5 27 (by decide) (by decide)]
    show u1.1 8 = 0
    exact f8
  · intro hn
    rw [d5 8 (by decide) (by decide)] at hn
    exact absurd f8 hn
