/-! taskEnd, file, log, poke, memory, halt, sector, area: class and reference -/
theorem Rl_node {w w' : Nat → Int32} {q : Nat} {L R : List Nat} (h : Rl w w' q L R) (hq : q < 16) (hL : ∀ b ∈ L, gp b) (hR : ∀ b ∈ R, gp b) {b : Nat} (hb : gp b) (hn : b ∉ R) {k : Nat} (hk : k < 4) (hk1 : k ≠ 1) : w' (b + k) = w (b + k) := by
  rw [h.2 (b + k) (fun z => ?_)]
  · unfold zer
    rw [if_neg ?_]
    rintro ⟨d, hd, z⟩
    have q1 := hR d hd
    have q2 : b ≠ d := fun z' => hn (z' ▸ hd)
    unfold gp at hb q1
    omega
  · rw [sl_mem] at z
    unfold gp at hb
    rcases z with z | ⟨d, hd, z⟩
    · omega
    · have := hL d hd; unfold gp at this; omega
theorem que_ok {t : Nat} {w tk : Nat → Int32} {Λ : Nat → List Nat} {g : Nat → Nat} {n q : Nat} {x : Int32} {u v : St} (h : KI t w tk Λ g n) (hq : 2 ≤ q) (hq6 : q < 6) (e1 : u.2.1 20 = w) (e2 : u.2.1 23 = tk) (hLR : ∀ m, m < 6 → LR u m (Λ m)) (hv : v = (mqd x q (Λ q).reverse [] u).2) :
    v.2.1 20 = fRW x 56 q w ∧ KI t (v.2.1 20) (v.2.1 23) (uL Λ q ((Λ q).filter (kp w x))) g n ∧ (∀ m, m < 6 → LR v m (uL Λ q ((Λ q).filter (kp w x)) m)) ∧ v.1 = u.1 ∧ v.2.2 = u.2.2 ∧ (∀ k, k ≠ 20 → k ≠ 21 → k ≠ 22 → k ≠ 23 → v.2.1 k = u.2.1 k) ∧ (∀ b, inL (uL Λ q ((Λ q).filter (kp w x))) b → v.2.1 20 (b + 2) = w (b + 2)) ∧ ∀ b ∈ Λ 0, v.2.1 20 (b + 3) = w (b + 3) := by
  obtain ⟨k1, k2⟩ := h.2.2.1 q hq6
  have hsd : Sd q (Λ q) := Sd_head (by omega) k2.2
  have hrev : (Λ q).reverse.reverse ++ [] = Λ q := by simp
  have hm := mqd_mem x q w (Λ q).reverse [] [] u (by rw [hrev]; exact k2) (by rw [hrev]; exact hsd) (fun b hb => by cases hb) (fun b hb => by cases hb) (by rw [hrev, e1]; exact Rl_refl k1)
  rw [← hv] at hm
  obtain ⟨m1, m2, m3, m4, m5, m6⟩ := hm
  have hl := mqd_LR x q (Λ q).reverse [] u (by rw [hrev]; exact hLR q hq6)
  rw [← hv] at hl
  have m1' : (mqd x q (Λ q).reverse [] u).1 = (Λ q).filter (kp w x) := by rw [m1]; simp
  rw [m1'] at m2 hl
  have f := Rl_frw (t := x) (Λ q) 56 q w (hLR q hq6).2.1 k1 k2 hsd
  have hmem : ∀ a, a ∈ (Λ q).reverse.filter (fun b => !kp w x b) ++ [] ↔ a ∈ (Λ q).filter (fun b => !kp w x b) := by intro a; simp
  have e : v.2.1 20 = fRW x 56 q w := Rl_det m2 f hmem
  have f' := f
  rw [← e] at f'
  have gL : ∀ b ∈ (Λ q).filter (kp w x), gp b := fun b hb => k2.2 b (List.mem_filter.mp hb).1
  have gR : ∀ b ∈ (Λ q).filter (fun b => !kp w x b), gp b := fun b hb => k2.2 b (List.mem_filter.mp hb).1
  have hdj : ∀ b ∈ (Λ q).filter (kp w x), b ∉ (Λ q).filter (fun b => !kp w x b) := by
    intro b hb z
    have z1 := (List.mem_filter.mp hb).2
    have z2 := (List.mem_filter.mp z).2
    rw [z1] at z2
    cases z2
  have hK : KI t (v.2.1 20) (v.2.1 23) (uL Λ q ((Λ q).filter (kp w x))) g n := by
    refine KI_rl h hq6 (by omega) f' (fun b hb => (List.mem_filter.mp hb).1) (List.Pairwise.filter _ k2.1) (fun b hb => (List.mem_filter.mp hb).1) hdj (fun b hb => ?_) (fun b hb => ?_) (fun z => by omega)
    · cases c : kp w x b with
      | true => exact Or.inl (List.mem_filter.mpr ⟨hb, c⟩)
      | false => exact Or.inr (List.mem_filter.mpr ⟨hb, by rw [c]; rfl⟩)
    · rw [m3 b, e2]
      have := hmem b
      rw [List.append_nil] at this
      by_cases c : b ∈ (Λ q).filter (fun b => !kp w x b)
      · rw [if_pos (this.mpr c)]
        exact ⟨fun z => absurd rfl z, fun z => absurd c z.2⟩
      · rw [if_neg (fun z => c (this.mp z))]
        exact ⟨fun z => ⟨z, c⟩, fun z => z.1⟩
  have nr : ∀ b, inL (uL Λ q ((Λ q).filter (kp w x))) b → b ∉ (Λ q).filter (fun b => !kp w x b) := by
    rintro b ⟨m, hm, hb⟩ z
    unfold uL at hb
    by_cases c : m = q
    · rw [if_pos c] at hb
      exact hdj b hb z
    · rw [if_neg c] at hb
      exact h.2.2.2.1 m q hm hq6 c b hb (List.mem_filter.mp z).1
  refine ⟨e, hK, fun m hm => ?_, m4, m5, m6, fun b hb => Rl_node f' (by omega) gL gR (inL_gp hK hb) (nr b hb) (by omega) (by omega), fun b hb => Rl_node f' (by omega) gL gR ((h.2.2.1 0 (by omega)).2.2 b hb) (fun z => h.2.2.2.1 0 q (by omega) hq6 (by omega) b hb (List.mem_filter.mp z).1) (by omega) (by omega)⟩
  unfold uL
  by_cases c : m = q
  · rw [if_pos c, c]
    exact hl.1
  · rw [if_neg c]
    exact hl.2 m (Λ m) c (hLR m hm)
/-- the queues of a task that ends -/
theorem ques_ok {t : Nat} {g : Nat → Nat} {n : Nat} {x : Int32} {Λ0 : Nat → List Nat} : ∀ (m q : Nat) (w tk : Nat → Int32) (Λ : Nat → List Nat) (u : St), 2 ≤ q → q + m = 6 → KI t w tk Λ g n → u.2.1 20 = w → u.2.1 23 = tk → (∀ l, l < 6 → LR u l (Λ l)) → (∀ l, q ≤ l → l < 6 → Λ l = Λ0 l) → (∀ p, 2 ≤ p → p < q → ∀ b ∈ Λ p, w (b + 2) ≠ x) →
    ∃ Λ', Λ' 0 = Λ 0 ∧ (mqs x Λ0 m q u).2.1 20 = fRQ x m q w ∧ KI t ((mqs x Λ0 m q u).2.1 20) ((mqs x Λ0 m q u).2.1 23) Λ' g n ∧ (∀ l, l < 6 → LR (mqs x Λ0 m q u) l (Λ' l)) ∧ (mqs x Λ0 m q u).1 = u.1 ∧ (mqs x Λ0 m q u).2.2 = u.2.2 ∧ (∀ k, k ≠ 20 → k ≠ 21 → k ≠ 22 → k ≠ 23 → (mqs x Λ0 m q u).2.1 k = u.2.1 k) ∧ (∀ p, 2 ≤ p → p < 6 → ∀ b ∈ Λ' p, (mqs x Λ0 m q u).2.1 20 (b + 2) ≠ x) := by
  intro m
  induction m with
  | zero =>
    intro q w tk Λ u hq hm h e1 e2 hLR hΛ hw
    refine ⟨Λ, rfl, e1, by rw [show mqs x Λ0 0 q u = u from rfl, e1, e2]; exact h, hLR, rfl, rfl, fun _ _ _ _ _ => rfl, fun p c1 c2 b hb => ?_⟩
    rw [show mqs x Λ0 0 q u = u from rfl, e1]
    exact hw p c1 (by omega) b hb
  | succ m ih =>
    intro q w tk Λ u hq hm h e1 e2 hLR hΛ hw
    have e0 : mqs x Λ0 (m + 1) q u = mqs x Λ0 m (q + 1) (mqd x q (Λ0 q).reverse [] u).2 := rfl
    rw [e0, ← hΛ q (Nat.le_refl _) (by omega)]
    obtain ⟨c1, c2, c3, c4, c5, c6, c7, c8⟩ := que_ok (x := x) h hq (by omega) e1 e2 hLR rfl
    obtain ⟨Λ', i1, i2, i3, i4, i5, i6, i7, i8⟩ := ih (q + 1) _ _ (uL Λ q ((Λ q).filter (kp w x))) (mqd x q (Λ q).reverse [] u).2 (by omega) (by omega) c2 rfl rfl c3 (fun l z1 z2 => by
      unfold uL
      rw [if_neg (by omega)]
      exact hΛ l (by omega) z2) (fun p z1 z2 b hb => by
      rw [c7 b ⟨p, by omega, hb⟩]
      unfold uL at hb
      by_cases c : p = q
      · rw [if_pos c] at hb
        exact of_decide_eq_true (List.mem_filter.mp hb).2
      · rw [if_neg c] at hb
        exact hw p z1 (by omega) b hb)
    refine ⟨Λ', ?_, ?_, i3, i4, i5.trans c4, i6.trans c5, fun k z0 z1 z2 z3 => (i7 k z0 z1 z2 z3).trans (c6 k z0 z1 z2 z3), i8⟩
    · rw [i1]
      unfold uL
      rw [if_neg (by omega)]
    · rw [i2, c1]
      rfl
theorem z_TE {t : Nat} {u u1 : St} {i : Int32} (h : Inv t u) (e1 : u1.1 = (dTE u i).2.2.1) (e2 : u1.2.1 = (dTE u i).2.2.2.1) : (dTE u i).1 ≤ 2 ∧ ∃ Λ, C_M_taskEnd.2.2.2.1 (u1, i, Λ) ∧ (mTE u1 i Λ).2.1 20 = nI (dTE u i).1 ∧ ((dTE u i).1 = 0 → (mTE u1 i Λ).1 = (dTE u i).2.1) ∧ Inv (t + 1) (mTE u1 i Λ).2 := by
  have hr := rnc_rns h.1
  unfold dTE at e1 e2 ⊢
  cases hc : rnc u with
  | false =>
    rw [hc] at e1 e2 hr
    dsimp only [cond_false] at e1 e2 ⊢
    have hr' : rns u1 = false := by unfold rns at hr ⊢; rw [e1]; exact hr.symm
    refine ⟨by decide, fun _ => [], fun z => ?_, ?_⟩
    · rw [show rns u1 = true from z] at hr'; cases hr'
    · unfold mTE
      rw [hr', cond_false]
      exact ⟨rfl, fun z => absurd z (by decide), Inv_thr h e1 e2⟩
  | true =>
    rw [hc] at e1 e2 hr
    dsimp only [cond_true] at e1 e2 ⊢
    obtain ⟨Λ, g, n, k1, k2⟩ := h.1.2.2 hr.symm
    have hlen : (Λ 0).length ≤ 56 := (k2 0 (by omega)).2.1
    have htk : tkA (u.2.1 0) i = cond (bel i (nI (Λ 0).length)) (nI ((Λ 0).getD (na i) 0)) 0 := by
      rw [h.1.2.1]
      exact tkA_eq (k1.2.2.1 0 (by omega)).1 (k1.2.2.1 0 (by omega)).2.2 hlen i
    cases ha : bel i (nI (Λ 0).length) with
    | false =>
      rw [ha, cond_false] at htk
      have hn : nAt u i = true := by unfold nAt; rw [htk]; rfl
      rw [hn] at e1 e2 ⊢
      dsimp only [cond_true] at e1 e2 ⊢
      have hr' : rns u1 = true := by unfold rns at hr ⊢; rw [e1]; exact hr.symm
      refine ⟨by decide, Λ, fun _ l hl => by have := k2 l hl; unfold LR at this ⊢; rw [e2]; exact this, ?_⟩
      unfold mTE
      rw [hr', cond_true, inn_bel (by omega), ha, cond_false]
      exact ⟨rfl, fun z => absurd z (by decide), Inv_thr h e1 e2⟩
    | true =>
      obtain ⟨i1, i2⟩ := bel_ix (by omega) ha
      have hget : (Λ 0).getD (na i) 0 = (Λ 0)[na i] := by rw [List.getD_eq_getElem?_getD, List.getElem?_eq_getElem i2]; rfl
      have hm : (Λ 0).getD (na i) 0 ∈ Λ 0 := by rw [hget]; exact List.getElem_mem i2
      have hgp := (k1.2.2.1 0 (by omega)).2.2 _ hm
      have hspl : Λ 0 = (Λ 0).take (na i) ++ (Λ 0).getD (na i) 0 :: (Λ 0).drop (na i + 1) := by
        rw [hget, ← List.drop_eq_getElem_cons i2, List.take_append_drop]
      rw [ha, cond_true] at htk
      have hn : nAt u i = false := by
        unfold nAt
        rw [htk]
        exact decide_eq_false (nI_ne (by omega) (by omega))
      rw [hn] at e1 e2 ⊢
      dsimp only [cond_false] at e1 e2 ⊢
      rw [htk] at e1 e2 ⊢
      obtain ⟨a, hadef⟩ : ∃ a, a = (Λ 0).getD (na i) 0 := ⟨_, rfl⟩
      rw [← hadef] at hm hgp hspl e1 e2 ⊢
      have ea : na (nI a) = a := nI_clamp (by omega)
      rw [ea]
      have hr' : rns u1 = true := by unfold rns at hr ⊢; rw [e1]; exact hr.symm
      have e20 : u1.2.1 20 = u.2.1 20 := by rw [e2]; rfl
      have e23 : u1.2.1 23 = u.2.1 23 := by rw [e2]; rfl
      have hLR1 : ∀ l, l < 6 → LR u1 l (Λ l) := fun l hl => by have := k2 l hl; unfold LR at this ⊢; rw [e2]; exact this
      refine ⟨by decide, Λ, fun _ => hLR1, ?_⟩
      have hme : mTE u1 i Λ = (u1.2.1 20 (a + 3), mdr (mqs (nI a) Λ 4 2 (uS u1 20 0)) 0 ((Λ 0).take (na i)) ((Λ 0).drop (na i + 1)) a) := by
        unfold mTE
        rw [hr', cond_true, inn_bel (by omega), ha, cond_true, ← hadef]
      rw [hme]
      obtain ⟨Λ', j1, j2, j3, j4, j5, j6, j7, j8⟩ := ques_ok (x := nI a) (Λ0 := Λ) 4 2 (u.2.1 20) (u.2.1 23) Λ (uS u1 20 0) (by omega) (by omega) k1 e20 e23 hLR1 (fun _ _ _ => rfl) (fun p z1 z2 => by omega)
      generalize hV0 : mqs (nI a) Λ 4 2 (uS u1 20 0) = V0 at j2 j3 j4 j5 j6 j7 j8 ⊢
      obtain ⟨v1, v2, v3, v4, v5, v6⟩ := drop_ok (A := (Λ 0).take (na i)) (B := (Λ 0).drop (na i + 1)) (a := a) (l := 0) (u := V0) j3 (by omega) (by omega) (by rw [j1]; exact hspl) (fun _ p c1 c2 b hb => j8 p c1 c2 b hb) rfl rfl j4 rfl
      generalize mdr V0 0 ((Λ 0).take (na i)) ((Λ 0).drop (na i + 1)) a = V at v1 v2 v3 v4 v5 v6 ⊢
      have hst : steps56 i = na i := by
        have hst0 : steps56 (nI (na i)) = na i := by
          rw [steps_nI (by omega)]
          omega
        rw [← i1] at hst0
        exact hst0
      have hsl : fslot (V0.2.1 20) (steps56 i) 0 = esl 0 ((Λ 0).take (na i)) := by
        have z := j3.2.2.1 0 (by omega)
        rw [j1] at z
        rw [hst]
        exact fslot_eq (na i) (Λ 0) 0 z.1 z.2.2
      refine ⟨by show V.1 20 = nI 0; rw [v4, j5]; rfl, fun _ => ?_, Inv_ker (g := g) (n := n) h ?_ ?_ (KI_mono v2 (Nat.le_succ t)) v3 (fun k z0 z1 z2 z3 z4 => ?_) (fun k z0 z1 z2 => ?_)⟩
      · show u1.2.1 20 (a + 3) = u.2.1 0 (a + 3)
        rw [e20, h.1.2.1]
      · show V.2.1 0 = V.2.1 20
        rw [v1, v6 0 (by decide) (by decide) (by decide) (by decide), j7 0 (by decide) (by decide) (by decide) (by decide)]
        show u1.2.1 0 = _
        rw [e2, pA, if_pos rfl, h.1.2.1, ← j2, hsl]
      · show V.1 2 = V.1 21
        rw [v4, j5]
        show u1.1 2 = u1.1 21
        rw [e1]
        exact h.1.1.2.2
      · show V.2.1 k = _
        rw [v6 k z1 z2 z3 z4, j7 k z1 z2 z3 z4]
        show u1.2.1 k = _
        rw [e2]
        simp only [pA, if_neg z0]
      · show V.1 k = _
        rw [v4, j5, pS, if_neg z1, e1]
        rfl
theorem z_FI {t : Nat} {u u1 : St} {d : Bool} {x : Int32} (h : Inv t u) (e1 : u1.1 = (dFI u d x).2.2.1) (e2 : u1.2.1 = (dFI u d x).2.2.2.1) : (dFI u d x).1 ≤ 1 ∧ (mFI u1 d x).2.1 20 = nI (dFI u d x).1 ∧ ((dFI u d x).1 = 0 → (mFI u1 d x).1 = (dFI u d x).2.1) ∧ Inv (t + 1) (mFI u1 d x).2 := by
  have hr := rnc_rns h.1
  unfold dFI at e1 e2 ⊢
  cases hc : rnc u with
  | false =>
    rw [hc] at e1 e2 hr
    dsimp only [cond_false] at e1 e2 ⊢
    have hr' : rns u1 = false := by unfold rns at hr ⊢; rw [e1]; exact hr.symm
    refine ⟨Nat.le_refl _, ?_⟩
    unfold mFI
    rw [hr', cond_false]
    exact ⟨rfl, fun z => absurd z (by decide), Inv_thr h e1 e2⟩
  | true =>
    rw [hc] at e1 e2 hr
    dsimp only [cond_true] at e1 e2 ⊢
    obtain ⟨Λ, g, n, k1, k2⟩ := h.1.2.2 hr.symm
    obtain ⟨l1, l2⟩ := mlow (u.2.1 20)
    cases hf : noF u with
    | true =>
      rw [hf] at e1 e2
      dsimp only [cond_true] at e1 e2 ⊢
      have hz : lowF (u.2.1 20) = 0 := by rw [← h.1.2.1]; exact of_decide_eq_true hf
      have hr' : rns u1 = true := by unfold rns at hr ⊢; rw [e1]; exact hr.symm
      refine ⟨Nat.le_refl _, ?_⟩
      unfold mFI
      rw [hr', cond_true, if_pos (by rw [e2]; exact l2.mpr hz)]
      exact ⟨rfl, fun z => absurd z (by decide), Inv_thr h e1 e2⟩
    | false =>
      rw [hf] at e1 e2
      dsimp only [cond_false] at e1 e2 ⊢
      have hz : lowF (u.2.1 20) ≠ 0 := by rw [← h.1.2.1]; exact of_decide_eq_false hf
      have hr' : rns u1 = true := by unfold rns at hr ⊢; rw [e1]; exact hr.symm
      have e20 : u1.2.1 20 = u.2.1 20 := by rw [e2]; rfl
      rw [if_neg hz] at l1
      have hlt := lowF_lt (u.2.1 20)
      have hcl : na (nI (lowF (u.2.1 20))) = lowF (u.2.1 20) := nI_clamp (by omega)
      obtain ⟨q1, q2, q3⟩ := fFree_ok (w := u.2.1 20) 14 1 (by omega) hz
      have q1' : fl (u.2.1 20) (lowF (u.2.1 20)) = 0 := q1
      have q2' : 1 ≤ lowF (u.2.1 20) := q2
      have hg0 : g (lowF (u.2.1 20)) = 0 := by
        rw [fl_eq k1.1 (by omega)] at q1'
        have := k1.1.1 (lowF (u.2.1 20))
        exact (nI_eq (b := 0) (by omega) (by decide)).mp q1'
      obtain ⟨f, hf1, hf2, hf3⟩ : ∃ f : Nat, f ≤ 3 ∧ f ≠ 1 ∧ (cond d 3 2 : Int32) = nI f := by
        cases d with
        | true => exact ⟨3, by decide, by decide, rfl⟩
        | false => exact ⟨2, by decide, by decide, rfl⟩
      have hm : mFI u1 d x = (nI (lowF (u.2.1 20)), uA (uS u1 20 0) 20 (fsd (mfl (u.2.1 20) (lowF (u.2.1 20)) (cond d 3 2)) (16 * lowF (u.2.1 20)) 16 x)) := by
        unfold mFI
        rw [hr', cond_true, e20, if_neg (fun z => hz (l2.mp z)), l1, hcl]
      rw [hm]
      obtain ⟨s1, s2⟩ := st_eq k1.1 (p := lowF (u.2.1 20)) (f := f) (by omega) hf1
      refine ⟨by decide, rfl, fun _ => by show nI (lowF (u.2.1 20)) = nI (lowF (u.2.1 0)); rw [h.1.2.1], ?_⟩
      have e0 : fsd (mfl (u.2.1 20) (lowF (u.2.1 20)) (cond d 3 2)) (16 * lowF (u.2.1 20)) 16 x = fsd (stF (u.2.1 0) (lowF (u.2.1 0)) (cond d 3 2)) (16 * lowF (u.2.1 0)) 16 x := by rw [h.1.2.1, hf3, s1]
      have at1 : ∀ j, (j < 8 ∨ 16 ≤ j) → (j < 16 ∨ g (j / 16) = 1 ∨ 240 ≤ j) → fsd (mfl (u.2.1 20) (lowF (u.2.1 20)) (cond d 3 2)) (16 * lowF (u.2.1 20)) 16 x j = u.2.1 20 j := by
        intro j j1 j2
        have hnr : ¬ (16 * lowF (u.2.1 20) ≤ j ∧ j < 16 * lowF (u.2.1 20) + 16) := by
          rintro ⟨z1, z2⟩
          have : j / 16 = lowF (u.2.1 20) := by omega
          rcases j2 with c | c | c
          · omega
          · rw [this, hg0] at c; omega
          · omega
        unfold fsd mfl upd
        rw [if_neg hnr, if_neg (by omega)]
      generalize hW : fsd (mfl (u.2.1 20) (lowF (u.2.1 20)) (cond d 3 2)) (16 * lowF (u.2.1 20)) 16 x = W at at1 e0
      have hFG : FG W (updN g (lowF (u.2.1 20)) f) := by
        refine ⟨s2.1, fun k hk => ?_⟩
        rw [← hW]
        unfold fsd
        rw [if_neg (by omega), hf3, ← s1]
        exact s2.2 k hk
      have node : ∀ b, inL Λ b → ∀ k, k < 4 → W (b + k) = u.2.1 20 (b + k) := by
        intro b hb k hk
        have z1 := inL_gp k1 hb
        have z2 := (k1.2.2.2.2.2.1 b hb).1
        unfold gp at z1
        exact at1 (b + k) (by omega) (Or.inr (Or.inl (by rw [show (b + k) / 16 = b / 16 by omega]; exact z2)))
      have hgn : ∀ p, g p = 1 → updN g (lowF (u.2.1 20)) f p = 1 := by
        intro p hp
        unfold updN
        rw [if_neg (fun z => by rw [z, hg0] at hp; omega)]
        exact hp
      refine Inv_ker (Λ := Λ) (g := updN g (lowF (u.2.1 20)) f) (n := n) h ?_ ?_ ?_ (fun l hl => ?_) (fun k z0 z1 z2 z3 z4 => ?_) (fun k z0 z1 z2 => ?_)
      · show u1.2.1 0 = W
        rw [e2, e0]
        rfl
      · show u1.1 2 = u1.1 21
        rw [e1]
        exact h.1.1.2.2
      · show KI (t + 1) W (u1.2.1 23) Λ (updN g (lowF (u.2.1 20)) f) n
        have e23 : u1.2.1 23 = u.2.1 23 := by rw [e2]; rfl
        rw [e23]
        obtain ⟨h1, h2, h3, h4, h5, h6, h7, h8, h9⟩ := k1
        refine ⟨hFG, ⟨(at1 6 (by omega) (by omega)).trans h2.1, by omega⟩, fun l hl => ⟨Lk_congr (fun j hj => ?_) (h3 l hl).1, (h3 l hl).2⟩, h4, h5, fun a ha => ⟨hgn _ (h6 a ha).1, ?_⟩, fun a ha hga hw => ?_, fun q c1 c2 b hb => ?_, ?_⟩
        · rw [sl_mem] at hj
          rcases hj with rfl | ⟨b, hb, rfl⟩
          · exact at1 j (by omega) (by omega)
          · exact node b ⟨l, hl, hb⟩ 1 (by omega)
        · have := node a ha 0 (by omega)
          rw [Nat.add_zero] at this
          rw [this]
          exact (h6 a ha).2
        · have c : g (a / 16) = 1 := by
            unfold updN at hga
            by_cases c : a / 16 = lowF (u.2.1 20)
            · rw [if_pos c] at hga; exact absurd hga hf2
            · rw [if_neg c] at hga; exact hga
          refine h7 a ha c ?_
          unfold gp at ha
          rw [← at1 a (by omega) (Or.inr (Or.inl c))]
          exact hw
        · obtain ⟨a, ha, he⟩ := h8 q c1 c2 b hb
          exact ⟨a, ha, (node b ⟨q, c2, hb⟩ 2 (by omega)).trans he⟩
        · refine List.Pairwise.imp_of_mem (fun {a b} ha hb z => ?_) h9
          rw [node a ⟨1, by omega, ha⟩ 2 (by omega), node b ⟨1, by omega, hb⟩ 2 (by omega)]
          exact z
      · have := k2 l hl
        unfold LR at this ⊢
        show u1.2.1 22 l = _ ∧ _ ∧ ent (u1.2.1 21) _ _
        rw [e2]
        exact this
      · show (uA (uS u1 20 0) 20 W).2.1 k = _
        rw [pA, if_neg z1]
        show u1.2.1 k = _
        rw [e2]
        simp only [pA, if_neg z0]
      · show (uS u1 20 0).1 k = _
        rw [pS, if_neg z1, e1]
        rfl
theorem z_LG {t : Nat} {u u1 : St} {x : Int32} (ht : t < 512) (h : Inv t u) : ∃ n, (rnc u = true → n < 1024 ∧ u.2.1 0 6 = nI n) ∧ (u1.1 = (dLG u x n).2.1 → u1.2.1 = (dLG u x n).2.2.1 → (dLG u x n).1 ≤ 1 ∧ C_M_log.2.2.2.1 (u1, x, n) ∧ (mLG u1 x n).1 20 = nI (dLG u x n).1 ∧ Inv (t + 1) (mLG u1 x n)) := by
  have hr := rnc_rns h.1
  cases hc : rnc u with
  | false =>
    refine ⟨0, (fun z => by cases z), fun e1 e2 => ?_⟩
    unfold dLG at e1 e2 ⊢
    rw [hc] at e1 e2 hr ⊢
    dsimp only [cond_false] at e1 e2 ⊢
    have hr' : rns u1 = false := by unfold rns at hr ⊢; rw [e1]; exact hr.symm
    refine ⟨Nat.le_refl _, fun z => ?_, ?_⟩
    · rw [show rns u1 = true from z] at hr'; cases hr'
    · unfold mLG
      rw [hr', cond_false]
      exact ⟨rfl, Inv_thr h e1 e2⟩
  | true =>
    rw [hc] at hr
    obtain ⟨Λ, g, n, k1, k2⟩ := h.1.2.2 hr.symm
    have hn6 : u.2.1 0 6 = nI n := by rw [h.1.2.1]; exact k1.2.1.1
    have hnt := k1.2.1.2
    refine ⟨n, fun _ => ⟨by omega, hn6⟩, fun e1 e2 => ?_⟩
    unfold dLG at e1 e2 ⊢
    rw [hc] at e1 e2 ⊢
    dsimp only [cond_true] at e1 e2 ⊢
    have hr' : rns u1 = true := by unfold rns at hr ⊢; rw [e1]; exact hr.symm
    have e20 : u1.2.1 20 = u.2.1 20 := by rw [e2]; rfl
    refine ⟨by decide, fun _ => ⟨(by omega : n < 1024), by rw [e20]; exact k1.2.1.1⟩, ?_⟩
    have hm : mLG u1 x n = uA (uS u1 20 0) 20 (upd (upd (u.2.1 20) (240 + n % 16) x) 6 (nI (n + 1))) := by
      unfold mLG
      rw [hr', cond_true, e20]
    rw [hm]
    refine ⟨rfl, ?_⟩
    have at1 : ∀ j, j ≠ 6 → j < 240 → upd (upd (u.2.1 20) (240 + n % 16) x) 6 (nI (n + 1)) j = u.2.1 20 j := by
      intro j j1 j2
      unfold upd
      rw [if_neg j1, if_neg (by omega)]
    have h6' : upd (upd (u.2.1 20) (240 + n % 16) x) 6 (nI (n + 1)) 6 = nI (n + 1) := by unfold upd; rw [if_pos rfl]
    generalize hW : upd (upd (u.2.1 20) (240 + n % 16) x) 6 (nI (n + 1)) = W at at1 h6'
    refine Inv_ker (Λ := Λ) (g := g) (n := n + 1) h ?_ ?_ ?_ (fun l hl => ?_) (fun k z0 z1 z2 z3 z4 => ?_) (fun k z0 z1 z2 => ?_)
    · show u1.2.1 0 = W
      rw [e2, ← hW, ← h.1.2.1]
      rfl
    · show u1.1 2 = u1.1 21
      rw [e1]
      exact h.1.1.2.2
    · show KI (t + 1) W (u1.2.1 23) Λ g (n + 1)
      have e23 : u1.2.1 23 = u.2.1 23 := by rw [e2]; rfl
      rw [e23]
      have node : ∀ b, inL Λ b → ∀ k, k < 4 → W (b + k) = u.2.1 20 (b + k) := by
        intro b hb k hk
        have z1 := inL_gp k1 hb
        unfold gp at z1
        exact at1 (b + k) (by omega) (by omega)
      obtain ⟨h1, h2, h3, h4, h5, h6, h7, h8, h9⟩ := k1
      refine ⟨⟨h1.1, fun k hk => (at1 (8 + k) (by omega) (by omega)).trans (h1.2 k hk)⟩, ⟨h6', by omega⟩, fun l hl => ⟨Lk_congr (fun j hj => ?_) (h3 l hl).1, (h3 l hl).2⟩, h4, h5, fun a ha => ⟨(h6 a ha).1, ?_⟩, fun a ha hga hw => ?_, fun q c1 c2 b hb => ?_, ?_⟩
      · rw [sl_mem] at hj
        rcases hj with rfl | ⟨b, hb, rfl⟩
        · exact at1 j (by omega) (by omega)
        · exact node b ⟨l, hl, hb⟩ 1 (by omega)
      · have := node a ha 0 (by omega)
        rw [Nat.add_zero] at this
        rw [this]
        exact (h6 a ha).2
      · refine h7 a ha hga ?_
        unfold gp at ha
        rw [← at1 a (by omega) (by omega)]
        exact hw
      · obtain ⟨a, ha, he⟩ := h8 q c1 c2 b hb
        exact ⟨a, ha, (node b ⟨q, c2, hb⟩ 2 (by omega)).trans he⟩
      · refine List.Pairwise.imp_of_mem (fun {a b} ha hb z => ?_) h9
        rw [node a ⟨1, by omega, ha⟩ 2 (by omega), node b ⟨1, by omega, hb⟩ 2 (by omega)]
        exact z
    · have := k2 l hl
      unfold LR at this ⊢
      show u1.2.1 22 l = _ ∧ _ ∧ ent (u1.2.1 21) _ _
      rw [e2]
      exact this
    · show (uA (uS u1 20 0) 20 W).2.1 k = _
      rw [pA, if_neg z1]
      show u1.2.1 k = _
      rw [e2]
      simp only [pA, if_neg z0]
    · show (uS u1 20 0).1 k = _
      rw [pS, if_neg z1, e1]
      rfl
