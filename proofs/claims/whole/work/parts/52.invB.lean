/-! timer, waitOn: class and reference -/
theorem fTm_eq {w : Nat → Int32} {d : Int32} : ∀ (n : Nat) (L : List Nat) (s : Nat), L.length ≤ n → Lk w s L → (∀ a ∈ L, 16 ≤ a ∧ a ≤ 236 ∧ a % 4 = 0) → L.Pairwise (fun a b => w (a + 2) ≤ w (b + 2)) →
    ∃ k, k ≤ L.length ∧ fTm w d n s = esl s (L.take k) ∧ (∀ b ∈ L.take k, w (b + 2) ≤ d) ∧ ∀ b ∈ L.drop k, ¬ w (b + 2) ≤ d := by
  intro n
  induction n with
  | zero =>
    intro L s hn _ _ _
    have : L = [] := List.length_eq_zero_iff.mp (by omega)
    subst this
    exact ⟨0, Nat.le_refl _, rfl, (fun b hb => by cases hb), (fun b hb => by cases hb)⟩
  | succ n ih =>
    intro L s hn h hp hs
    have e : fTm w d (n + 1) s = cond (pl (w s)) (if w (na (w s) + 2) ≤ d then fTm w d n (na (w s) + 1) else s) s := rfl
    cases L with
    | nil =>
      have h0 : w s = 0 := h
      rw [e, h0]
      exact ⟨0, Nat.le_refl _, rfl, (fun b hb => by cases hb), (fun b hb => by cases hb)⟩
    | cons a L =>
      obtain ⟨p1, p2⟩ := Pl_pl (hp a List.mem_cons_self)
      rw [List.pairwise_cons] at hs
      rw [e, h.1, p1, p2, cond_true]
      by_cases c : w (a + 2) ≤ d
      · rw [if_pos c]
        obtain ⟨k, k1, k2, k3, k4⟩ := ih L (a + 1) (by simp at hn; omega) h.2 (fun b hb => hp b (List.mem_cons_of_mem _ hb)) hs.2
        refine ⟨k + 1, by simp; omega, k2, fun b hb => ?_, k4⟩
        rcases List.mem_cons.mp hb with rfl | hb
        · exact c
        · exact k3 b hb
      · rw [if_neg c]
        refine ⟨0, Nat.zero_le _, rfl, (fun b hb => by cases hb), fun b hb => ?_⟩
        rcases List.mem_cons.mp hb with rfl | hb
        · exact c
        · intro z
          exact c (Int32.le_trans (hs.1 b hb) z)
theorem mbf_eq {m : Nat → Int32} {d : Int32} : ∀ (A B : List Nat) (k b : Nat), (∀ x ∈ A, m (x + 2) ≤ d) → (∀ x ∈ B, ¬ m (x + 2) ≤ d) → mbf m d (A ++ B) k b = if A = [] then b else k + A.length := by
  intro A
  induction A with
  | nil =>
    intro B
    induction B with
    | nil => intro k b _ _; rfl
    | cons x B ih =>
      intro k b h1 h2
      show mbf m d B (k + 1) (if m (x + 2) ≤ d then k + 1 else b) = b
      rw [if_neg (h2 x List.mem_cons_self)]
      exact ih (k + 1) b h1 (fun y hy => h2 y (List.mem_cons_of_mem _ hy))
  | cons x A ih =>
    intro B k b h1 h2
    show mbf m d (A ++ B) (k + 1) (if m (x + 2) ≤ d then k + 1 else b) = _
    rw [if_pos (h1 x List.mem_cons_self), ih B (k + 1) (k + 1) (fun y hy => h1 y (List.mem_cons_of_mem _ hy)) h2]
    by_cases c : A = []
    · rw [if_pos c, c]; rfl
    · rw [if_neg c]
      rw [if_neg (by simp)]
      rw [List.length_cons]
      omega
/-- what class and reference share of a state in which a place can be had -/
theorem step_ok {t : Nat} {u u1 : St} {Λ : Nat → List Nat} {g : Nat → Nat} {n : Nat} {W : Nat → Int32} (h : Inv t u) (hr : rns u = true) (k1 : KI t (u.2.1 20) (u.2.1 23) Λ g n) (k2 : ∀ l, l < 6 → LR u l (Λ l)) (hz : (tkP (u.2.1 0)).1 ≠ 0) (e1 : u1.1 = u.1) (e2 : u1.2.1 = (uA u 0 W).2.1) :
    ∃ a w2 g', tkP (u.2.1 0) = (a, w2) ∧ gp a ∧ ¬ inL Λ a ∧ KI t w2 (u.2.1 23) Λ g' n ∧ g' (a / 16) = 1 ∧ a < 253 ∧ na (nI a) = a ∧ mpl (u1.2.1 20) (u1.2.1 23) = (nI a, w2) ∧ ¬ nI a < 0 ∧ rns u1 = true ∧ (∀ l, l < 6 → LR u1 l (Λ l)) ∧ (∀ l, l < 6 → (Λ l).length < 56) := by
  have hpl := place_ok k1 h.1.2.1
  have hlt := tkP_lt (u.2.1 0)
  have k1' : KI t (u.2.1 0) (u.2.1 23) Λ g n := by rw [h.1.2.1]; exact k1
  obtain ⟨p1, p2, g', p3, p4, p5⟩ := KI_take k1' hz
  rw [if_neg hz] at hpl
  have e20 : u1.2.1 20 = u.2.1 20 := by rw [e2]; rfl
  have e23 : u1.2.1 23 = u.2.1 23 := by rw [e2]; rfl
  refine ⟨(tkP (u.2.1 0)).1, (tkP (u.2.1 0)).2, g', rfl, p1, p2, p3, p4, hlt, nI_clamp (by omega), by rw [e20, e23]; exact hpl, nI_nn (by omega), by unfold rns at hr ⊢; rw [e1]; exact hr, fun l hl => ?_, fun l hl => len_lt k1 p1 p2 hl⟩
  have := k2 l hl
  unfold LR at this ⊢
  rw [e2]
  exact this
theorem z_TM {t : Nat} {u u1 : St} {d : Int32} (h : Inv t u) (e1 : u1.1 = (dTM u d).2.1) (e2 : u1.2.1 = (dTM u d).2.2.1) : (dTM u d).1 ≤ 1 ∧ ∃ L, C_M_timer.2.2.2.1 (u1, d, L) ∧ (mTM u1 d L).1 20 = nI (dTM u d).1 ∧ Inv (t + 1) (mTM u1 d L) := by
  have hr := rnc_rns h.1
  unfold dTM at e1 e2 ⊢
  cases hc : rnc u with
  | false =>
    rw [hc] at e1 e2 hr
    dsimp only [cond_false] at e1 e2 ⊢
    have hr' : rns u1 = false := by unfold rns at hr ⊢; rw [e1]; exact hr.symm
    refine ⟨Nat.le_refl _, [], fun z => ?_, ?_⟩
    · rw [show rns u1 = true from z] at hr'; cases hr'
    · unfold mTM
      rw [hr', cond_false]
      exact ⟨rfl, Inv_thr h e1 e2⟩
  | true =>
    rw [hc] at e1 e2 hr
    dsimp only [cond_true] at e1 e2 ⊢
    obtain ⟨Λ, g, n, k1, k2⟩ := h.1.2.2 hr.symm
    cases hf : full u with
    | true =>
      rw [hf] at e1 e2
      dsimp only [cond_true] at e1 e2 ⊢
      have hpl := place_ok k1 h.1.2.1
      have hz := (full_iff u).mp hf
      rw [if_pos hz, tkP_0 _ hz, h.1.2.1] at hpl
      have hr' : rns u1 = true := by unfold rns at hr ⊢; rw [e1]; exact hr.symm
      rw [← e2] at hpl
      have hneg : (mpl (u1.2.1 20) (u1.2.1 23)).1 < 0 := by rw [hpl]; exact negm
      refine ⟨Nat.le_refl _, Λ 1, fun _ => ⟨?_, fun z => absurd hneg z⟩, ?_⟩
      · have := k2 1 (by omega)
        unfold LR at this ⊢
        rw [e2]
        exact this
      unfold mTM
      rw [hr', cond_true, if_pos hneg, mtk_id (by rw [hpl])]
      exact ⟨rfl, Inv_thr h e1 e2⟩
    | false =>
      rw [hf] at e1 e2
      dsimp only [cond_false] at e1 e2 ⊢
      have hz : (tkP (u.2.1 0)).1 ≠ 0 := fun z => by rw [(full_iff u).mpr z] at hf; cases hf
      obtain ⟨a, w2, g', q1, p1, p2, p3, p4, q2, q3, q4, q5, q6, q7, q8⟩ := step_ok h hr.symm k1 k2 hz e1 e2
      rw [q1] at e2
      dsimp only at e2
      refine ⟨by decide, Λ 1, fun _ => ⟨q7 1 (by omega), fun _ => q8 1 (by omega)⟩, ?_⟩
      have kk := p3.2.2.1 1 (by omega)
      obtain ⟨k, c1, c2, c3, c4⟩ := fTm_eq (d := d) 56 (Λ 1) 1 (Nat.le_of_lt (q8 1 (by omega))) kk.1 kk.2.2 p3.2.2.2.2.2.2.2.2
      have hwr : ∀ b ∈ Λ 1, wrt w2 a 7002 d 0 (b + 2) = w2 (b + 2) := by
        intro b hb
        have z1 := kk.2.2 b hb
        have z2 : b ≠ a := fun z => p2 ⟨1, by omega, z ▸ hb⟩
        unfold gp at p1
        rw [wrt_at, if_neg (by omega), if_neg (by omega), if_neg (by omega), if_neg (by omega)]
      have hmb : mbf (wrt w2 a 7002 d 0) d (Λ 1) 0 0 = k := by
        have := mbf_eq (m := wrt w2 a 7002 d 0) (d := d) ((Λ 1).take k) ((Λ 1).drop k) 0 0 (fun b hb => by rw [hwr b (List.mem_of_mem_take hb)]; exact c3 b hb) (fun b hb => by rw [hwr b (List.mem_of_mem_drop hb)]; exact c4 b hb)
        rw [List.take_append_drop] at this
        rw [this, List.length_take]
        split
        · next z =>
          have : ((Λ 1).take k).length = 0 := by rw [z]; rfl
          rw [List.length_take] at this
          omega
        · omega
      have hm : mTM u1 d (Λ 1) = mpu (mwr (mtk u1 0) a 7002 d 0) 1 ((Λ 1).take k) ((Λ 1).drop k) a := by
        unfold mTM
        rw [q6, cond_true]
        simp only [q4]
        rw [if_neg q5, q3, hmb]
      rw [hm]
      obtain ⟨v1, v2, v3, v4, v5, v6⟩ := put_ok (tg := 7002) (x := d) (y := 0) (A := (Λ 1).take k) (B := (Λ 1).drop k) (l := 1) (u := mtk u1 0) p3 p1 p2 p4 (by omega) (List.take_append_drop k (Λ 1)).symm (by decide) (fun z => absurd z (by decide)) (fun _ => ⟨c3, fun b hb => by have := c4 b hb; exact Int32.le_of_lt (Int32.not_le.mp this)⟩) (show (mpl (u1.2.1 20) (u1.2.1 23)).2 = w2 by rw [q4]) (show u1.2.1 23 = _ by rw [e2]; rfl) q7 rfl
      generalize mpu (mwr (mtk u1 0) a 7002 d 0) 1 ((Λ 1).take k) ((Λ 1).drop k) a = V at v1 v2 v3 v4 v5 v6 ⊢
      refine ⟨by rw [v4]; rfl, Inv_ker (Λ := uL Λ 1 ((Λ 1).take k ++ a :: (Λ 1).drop k)) (g := g') (n := n) h ?_ ?_ (KI_mono v2 (Nat.le_succ t)) v3 (fun k z0 z1 z2 z3 z4 => ?_) (fun k z0 z1 z2 => ?_)⟩
      · rw [v1, v6 0 (by decide) (by decide) (by decide) (by decide)]
        show u1.2.1 0 = _
        rw [e2, ← c2]
        rfl
      · rw [v4]
        show u1.1 2 = u1.1 21
        rw [e1]
        exact h.1.1.2.2
      · rw [v6 k z1 z2 z3 z4]
        unfold mtk
        simp only [pA, pSa, if_neg z1]
        rw [e2]
        simp only [pA, if_neg z0]
      · rw [v4]
        unfold mtk
        rw [pS, if_neg z1, pAs, e1]
        rfl
