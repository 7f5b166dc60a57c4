/-! waitOn, wake, file, log: class and reference -/
theorem inn_bel {n : Nat} (hn : n < 2 ^ 30) (x : Int32) : inn x 0 (nI n - 1) = bel x (nI n) := by
  unfold inn bel
  have e1 : (nI n).toInt = (n : Int) := nI_toInt (by omega)
  have e2 : (nI n - 1).toInt = (n : Int) - 1 := by
    rw [Int32.toInt_sub, e1, show ((1 : Int32)).toInt = 1 from rfl, Int.bmod_eq_of_le (by omega) (by omega)]
  have : (x ≤ nI n - 1) ↔ (x < nI n) := by
    rw [Int32.le_iff_toInt_le, Int32.lt_iff_toInt_lt, e1, e2]
    omega
  simp only [this]
theorem steps_nI {n : Nat} (h : n < 2 ^ 31) : steps56 (nI n) = min n 56 := by
  unfold steps56
  rw [nI_toInt h]
  omega
theorem tkA_eq {w : Nat → Int32} {L : List Nat} (h : Lk w 0 L) (hp : ∀ a ∈ L, 16 ≤ a ∧ a ≤ 236 ∧ a % 4 = 0) (hl : L.length ≤ 56) (i : Int32) : tkA w i = cond (bel i (nI L.length)) (nI (L.getD (na i) 0)) 0 := by
  unfold tkA
  rw [fslot_eq _ L 0 h hp, Lk_at h]
  cases hb : bel i (nI L.length) with
  | true =>
    obtain ⟨b1, b2⟩ := bel_ix (by omega) hb
    rw [cond_true]
    generalize na i = m at b1 b2
    subst b1
    rw [if_neg (nI_nn (by omega)), steps_nI (by omega), Nat.min_eq_left (by omega), if_pos b2]
    have hm : L.getD m 0 ∈ L := by
      rw [List.getD_eq_getElem?_getD, List.getElem?_eq_getElem b2]
      exact List.getElem_mem b2
    rw [(Pl_pl (hp _ hm)).1]
    rfl
  | false =>
    rw [cond_false]
    by_cases hneg : i < 0
    · rw [if_pos hneg]
    · rw [if_neg hneg, if_neg ?_]
      · rfl
      · intro z
        have h0 : 0 ≤ i := Int32.not_lt.mp hneg
        have h2 : ¬ i < nI L.length := by
          intro z2
          unfold bel at hb
          rw [decide_eq_true h0, decide_eq_true z2] at hb
          cases hb
        rw [Int32.lt_iff_toInt_lt, nI_toInt (by omega)] at h2
        unfold steps56 at z
        omega
theorem z_WO {t : Nat} {u u1 : St} {i q : Int32} (h : Inv t u) (e1 : u1.1 = (dWO u i q).2.1) (e2 : u1.2.1 = (dWO u i q).2.2.1) : (dWO u i q).1 ≤ 3 ∧ ∃ Λ, C_M_waitOn.2.2.2.1 (u1, i, q, Λ) ∧ (mWO u1 i q Λ).1 20 = nI (dWO u i q).1 ∧ Inv (t + 1) (mWO u1 i q Λ) := by
  have hr := rnc_rns h.1
  unfold dWO at e1 e2 ⊢
  cases hc : rnc u with
  | false =>
    rw [hc] at e1 e2 hr
    dsimp only [cond_false] at e1 e2 ⊢
    have hr' : rns u1 = false := by unfold rns at hr ⊢; rw [e1]; exact hr.symm
    refine ⟨by decide, fun _ => [], fun z => ?_, ?_⟩
    · rw [show rns u1 = true from z] at hr'; cases hr'
    · unfold mWO
      rw [hr', cond_false]
      exact ⟨rfl, Inv_thr h e1 e2⟩
  | true =>
    rw [hc] at e1 e2 hr
    dsimp only [cond_true] at e1 e2 ⊢
    obtain ⟨Λ, g, n, k1, k2⟩ := h.1.2.2 hr.symm
    have hq : inn q 0 3 = bel q 4 := inn_bel (n := 4) (by decide) q
    have hlen : (Λ 0).length ≤ 56 := (k2 0 (by omega)).2.1
    have htk : tkA (u.2.1 0) i = cond (bel i (nI (Λ 0).length)) (nI ((Λ 0).getD (na i) 0)) 0 := by
      rw [h.1.2.1]
      exact tkA_eq (k1.2.2.1 0 (by omega)).1 (k1.2.2.1 0 (by omega)).2.2 hlen i
    have hpl := place_ok k1 h.1.2.1
    -- a refused call in which neither place nor list is touched
    have ref : ∀ x : Int32, u1.1 = u.1 → u1.2.1 = u.2.1 → rns u1 = true ∧ (∀ l, l < 6 → LR u1 l (Λ l)) ∧ mpl (u1.2.1 20) (u1.2.1 23) = (if (tkP (u.2.1 0)).1 = 0 then -1 else nI (tkP (u.2.1 0)).1, (tkP (u.2.1 0)).2) ∧ (¬ (mpl (u1.2.1 20) (u1.2.1 23)).1 < 0 → ∀ l, l < 6 → (Λ l).length < 56) := by
      intro x f1 f2
      have hp2 : mpl (u1.2.1 20) (u1.2.1 23) = (if (tkP (u.2.1 0)).1 = 0 then -1 else nI (tkP (u.2.1 0)).1, (tkP (u.2.1 0)).2) := by rw [f2]; exact hpl
      refine ⟨by unfold rns at hr ⊢; rw [f1]; exact hr.symm, fun l hl => by have := k2 l hl; unfold LR at this ⊢; rw [f2]; exact this, hp2, fun z l hl => ?_⟩
      have hz : (tkP (u.2.1 0)).1 ≠ 0 := fun z' => z (by rw [hp2, if_pos z']; exact negm)
      have k1' : KI t (u.2.1 0) (u.2.1 23) Λ g n := by rw [h.1.2.1]; exact k1
      obtain ⟨p1, p2, -⟩ := KI_take k1' hz
      exact len_lt k1 p1 p2 hl
    cases hb : bel q 4 with
    | false =>
      rw [hb] at e1 e2
      dsimp only [cond_false] at e1 e2 ⊢
      obtain ⟨r1, r2, r3, r4⟩ := ref 0 e1 e2
      refine ⟨by decide, Λ, fun _ => ⟨r2, r4⟩, ?_⟩
      unfold mWO
      rw [r1, cond_true, hq, hb, cond_false]
      exact ⟨rfl, Inv_thr h e1 e2⟩
    | true =>
      rw [hb] at e1 e2
      dsimp only [cond_true] at e1 e2 ⊢
      obtain ⟨b1, b2⟩ := bel_ix (n := 4) (by decide) hb
      cases ha : bel i (nI (Λ 0).length) with
      | false =>
        rw [ha, cond_false] at htk
        have hn : nAt u i = true := by unfold nAt; rw [htk]; rfl
        rw [hn] at e1 e2 ⊢
        dsimp only [cond_true] at e1 e2 ⊢
        obtain ⟨r1, r2, r3, r4⟩ := ref 0 e1 e2
        refine ⟨by decide, Λ, fun _ => ⟨r2, r4⟩, ?_⟩
        unfold mWO
        rw [r1, cond_true, hq, hb, cond_true, inn_bel (by omega), ha, cond_false]
        exact ⟨rfl, Inv_thr h e1 e2⟩
      | true =>
        obtain ⟨i1, i2⟩ := bel_ix (by omega) ha
        have hm : (Λ 0).getD (na i) 0 ∈ Λ 0 := by
          rw [List.getD_eq_getElem?_getD, List.getElem?_eq_getElem i2]
          exact List.getElem_mem i2
        have hgp := (k1.2.2.1 0 (by omega)).2.2 _ hm
        rw [ha, cond_true] at htk
        have hn : nAt u i = false := by
          unfold nAt
          rw [htk]
          exact decide_eq_false (nI_ne (by omega) (by omega))
        rw [hn] at e1 e2 ⊢
        dsimp only [cond_false] at e1 e2 ⊢
        cases hf : full u with
        | true =>
          rw [hf] at e1 e2
          dsimp only [cond_true] at e1 e2 ⊢
          obtain ⟨r1, r2, r3, r4⟩ := ref 0 e1 e2
          have hz := (full_iff u).mp hf
          rw [if_pos hz, tkP_0 _ hz, h.1.2.1] at r3
          have hneg : (mpl (u1.2.1 20) (u1.2.1 23)).1 < 0 := by rw [r3]; exact negm
          refine ⟨by decide, Λ, fun _ => ⟨r2, r4⟩, ?_⟩
          unfold mWO
          rw [r1, cond_true, hq, hb, cond_true, inn_bel (by omega), ha, cond_true, if_pos hneg]
          have h9 : mtk (uS u1 20 0) 3 = uS (uS u1 20 0) 20 3 := mtk_id (v := uS u1 20 0) (by show (mpl (u1.2.1 20) (u1.2.1 23)).2 = u1.2.1 20; rw [r3, e2])
          rw [h9]
          refine ⟨rfl, ?_⟩
          have h8 : uS (uS u1 20 0) 20 3 = uS u1 20 3 := by
            refine Prod.ext ?_ rfl
            funext j
            rw [pS, pS, pS]
            split <;> rfl
          rw [h8]
          exact Inv_thr h e1 e2
        | false =>
          rw [hf] at e1 e2
          dsimp only [cond_false] at e1 e2 ⊢
          have hz : (tkP (u.2.1 0)).1 ≠ 0 := fun z => by rw [(full_iff u).mpr z] at hf; cases hf
          obtain ⟨a, w2, g', q1, p1, p2, p3, p4, q2, q3, q4, q5, q6, q7, q8⟩ := step_ok h hr.symm k1 k2 hz e1 e2
          rw [q1, htk] at e2
          dsimp only at e2
          refine ⟨by decide, Λ, fun _ => ⟨q7, fun _ => q8⟩, ?_⟩
          have hmw : mWO u1 i q Λ = mpu (mwr (mtk (uS u1 20 0) 0) a 7003 (nI ((Λ 0).getD (na i) 0)) 0) (2 + na q) (Λ (2 + na q)) [] a := by
            unfold mWO
            rw [q6, cond_true, hq, hb, cond_true, inn_bel (by omega), ha, cond_true, q4, if_neg q5, q3]
          rw [hmw]
          have hsl : fslot w2 56 (2 + na q) = esl (2 + na q) (Λ (2 + na q)) := by
            have z := p3.2.2.1 (2 + na q) (by omega)
            rw [fslot_eq 56 _ _ z.1 z.2.2, List.take_of_length_le (Nat.le_of_lt (q8 _ (by omega)))]
          obtain ⟨v1, v2, v3, v4, v5, v6⟩ := put_ok (tg := 7003) (x := nI ((Λ 0).getD (na i) 0)) (y := 0) (A := Λ (2 + na q)) (B := []) (l := 2 + na q) (u := mtk (uS u1 20 0) 0) p3 p1 p2 p4 (by omega) (by simp) (by decide) (fun _ => ⟨_, hm, rfl⟩) (fun z => by omega) (show (mpl (u1.2.1 20) (u1.2.1 23)).2 = w2 by rw [q4]) (show u1.2.1 23 = _ by rw [e2]; rfl) q7 rfl
          generalize mpu (mwr (mtk (uS u1 20 0) 0) a 7003 (nI ((Λ 0).getD (na i) 0)) 0) (2 + na q) (Λ (2 + na q)) [] a = V at v1 v2 v3 v4 v5 v6 ⊢
          refine ⟨by rw [v4]; rfl, Inv_ker (g := g') (n := n) h ?_ ?_ (KI_mono v2 (Nat.le_succ t)) v3 (fun k z0 z1 z2 z3 z4 => ?_) (fun k z0 z1 z2 => ?_)⟩
          · rw [v1, v6 0 (by decide) (by decide) (by decide) (by decide)]
            show u1.2.1 0 = _
            rw [e2, ← hsl]
            rfl
          · rw [v4]
            show u1.1 2 = u1.1 21
            rw [e1]
            exact h.1.1.2.2
          · rw [v6 k z1 z2 z3 z4]
            unfold mtk
            simp only [pA, pSa, if_neg z1]
            rw [e2]
            simp only [pA, if_neg z0]
          · rw [v4]
            unfold mtk
            rw [pS, if_neg z1, pAs, pS, if_neg z1, e1]
            rfl
theorem dmem_of_Rl {w w1 w2 : Nat → Int32} {s : Nat} {L R : List Nat} (h1 : Rl w w1 s L R) (h2 : Rl w w2 s L R) : w1 = w2 := Rl_det h1 h2 (fun _ => Iff.rfl)
/-- a node dropped by the reference -/
theorem drop_ok {t : Nat} {w tk : Nat → Int32} {Λ : Nat → List Nat} {g : Nat → Nat} {n a l : Nat} {A B : List Nat} {u v : St} (h : KI t w tk Λ g n) (hl : l < 6) (hl1 : l ≠ 1) (hAB : Λ l = A ++ a :: B) (h0w : l = 0 → ∀ p, 2 ≤ p → p < 6 → ∀ b ∈ Λ p, w (b + 2) ≠ nI a)
    (e1 : u.2.1 20 = w) (e2 : u.2.1 23 = tk) (hLR : ∀ m, m < 6 → LR u m (Λ m)) (hv : v = mdr u l A B a) :
    v.2.1 20 = remN w (esl l A) ∧ KI t (v.2.1 20) (v.2.1 23) (uL Λ l (A ++ B)) g n ∧ (∀ m, m < 6 → LR v m (uL Λ l (A ++ B) m)) ∧ v.1 = u.1 ∧ v.2.2 = u.2.2 ∧ ∀ k, k ≠ 20 → k ≠ 21 → k ≠ 22 → k ≠ 23 → v.2.1 k = u.2.1 k := by
  obtain ⟨k1, k2⟩ := h.2.2.1 l hl
  rw [hAB] at k1 k2
  have hsd : Sd l (A ++ a :: B) := Sd_head (by omega) k2.2
  have r1 := Rl_rem k1 k2 hsd
  have hnd0 := (List.perm_middle (a := a) (l₁ := A) (l₂ := B)).nodup_iff.mp k2.1
  have hnd := List.nodup_cons.mp hnd0
  have sub : ∀ b ∈ A ++ B, b ∈ A ++ a :: B := by
    intro b hb
    rcases List.mem_append.mp hb with z | z
    · exact List.mem_append_left _ z
    · exact List.mem_append_right _ (List.mem_cons_of_mem _ z)
  have hsd' : Sd l (A ++ B) := fun b hb => hsd b (sub b hb)
  have r2 := Rl_drop (Rl_refl k1) (Sd_nodup hsd' hnd.2)
  have hmm := dmem_of_Rl r1 r2
  have m20 : v.2.1 20 = chn (A ++ B) l (wrt (u.2.1 20) a 0 0 0) := by rw [hv]; rfl
  have m23 : v.2.1 23 = upd (u.2.1 23) a 0 := by rw [hv]; rfl
  have hLl := hLR l hl
  rw [hAB] at hLl
  refine ⟨by rw [m20, e1]; exact hmm.symm, ?_, fun m hm => ?_, by rw [hv]; rfl, by rw [hv]; rfl, fun k z0 z1 z2 z3 => by rw [hv]; exact mdr_k u l A B a k z0 z1 z2 z3⟩
  · rw [m20, m23, e1, e2, ← hmm]
    refine KI_rl h hl hl1 r1 (fun b hb => by rw [hAB]; exact sub b hb) hnd.2 (fun b hb => ?_) (fun b hb z => ?_) (fun b hb => ?_) (fun b hb => ?_) (fun z p c1 c2 b hb d hd => ?_)
    · rw [List.mem_singleton.mp hb, hAB]; simp
    · rw [List.mem_singleton.mp z] at hb; exact hnd.1 hb
    · rw [hAB] at hb
      rcases List.mem_append.mp hb with z | z
      · exact Or.inl (List.mem_append_left _ z)
      · rcases List.mem_cons.mp z with z | z
        · exact Or.inr (List.mem_singleton.mpr z)
        · exact Or.inl (List.mem_append_right _ z)
    · unfold upd
      by_cases c : b = a
      · rw [if_pos c]
        exact ⟨fun z => absurd rfl z, fun z => absurd (List.mem_singleton.mpr c) z.2⟩
      · rw [if_neg c]
        exact ⟨fun z => ⟨z, fun z' => c (List.mem_singleton.mp z')⟩, fun z => z.1⟩
    · rw [List.mem_singleton.mp hd]
      exact h0w z p c1 c2 b hb
  · rw [hv]
    by_cases c : m = l
    · subst c
      have : uL Λ m (A ++ B) m = A ++ B := by unfold uL; rw [if_pos rfl]
      rw [this]
      exact mdr_LR _ _ _ _ _ hLl
    · have : uL Λ l (A ++ B) m = Λ m := by unfold uL; rw [if_neg c]
      rw [this]
      exact LR_mdr (hLR m hm) c hLl.2.1
theorem z_WK {t : Nat} {u u1 : St} {q : Int32} (h : Inv t u) (e1 : u1.1 = (dWK u q).2.2.1) (e2 : u1.2.1 = (dWK u q).2.2.2.1) : (dWK u q).1 ≤ 3 ∧ ∃ Λ, C_M_wake.2.2.2.1 (u1, q, Λ) ∧ (mWK u1 q Λ).2.1 20 = nI (dWK u q).1 ∧ ((dWK u q).1 = 0 → (mWK u1 q Λ).1 = (dWK u q).2.1) ∧ Inv (t + 1) (mWK u1 q Λ).2 := by
  have hr := rnc_rns h.1
  unfold dWK at e1 e2 ⊢
  cases hc : rnc u with
  | false =>
    rw [hc] at e1 e2 hr
    dsimp only [cond_false] at e1 e2 ⊢
    have hr' : rns u1 = false := by unfold rns at hr ⊢; rw [e1]; exact hr.symm
    refine ⟨by decide, fun _ => [], fun z => ?_, ?_⟩
    · rw [show rns u1 = true from z] at hr'; cases hr'
    · unfold mWK
      rw [hr', cond_false]
      exact ⟨rfl, fun z => absurd z (by decide), Inv_thr h e1 e2⟩
  | true =>
    rw [hc] at e1 e2 hr
    dsimp only [cond_true] at e1 e2 ⊢
    obtain ⟨Λ, g, n, k1, k2⟩ := h.1.2.2 hr.symm
    have hq : inn q 0 3 = bel q 4 := inn_bel (n := 4) (by decide) q
    have w8 : ∀ p, p < 4 → ∀ b L, Λ (2 + p) = b :: L → pl (u.2.1 20 (b + 2)) = true := by
      intro p hp b L hb
      obtain ⟨d, hd, he⟩ := k1.2.2.2.2.2.2.2.1 (2 + p) (by omega) (by omega) b (by rw [hb]; exact List.mem_cons_self)
      rw [he]
      exact (Pl_pl ((k1.2.2.1 0 (by omega)).2.2 d hd)).1
    cases hb : bel q 4 with
    | false =>
      rw [hb] at e1 e2
      dsimp only [cond_false] at e1 e2 ⊢
      have hr' : rns u1 = true := by unfold rns at hr ⊢; rw [e1]; exact hr.symm
      refine ⟨by decide, Λ, fun _ => ⟨fun l hl => by have := k2 l hl; unfold LR at this ⊢; rw [e2]; exact this, fun p hp b L z => by rw [e2]; exact w8 p hp b L z⟩, ?_⟩
      unfold mWK
      rw [hr', cond_true, hq, hb, cond_false]
      exact ⟨rfl, fun z => absurd z (by decide), Inv_thr h e1 e2⟩
    | true =>
      rw [hb] at e1 e2
      dsimp only [cond_true] at e1 e2 ⊢
      obtain ⟨b1, b2⟩ := bel_ix (n := 4) (by decide) hb
      have hLk := (k1.2.2.1 (2 + na q) (by omega)).1
      cases hL : Λ (2 + na q) with
      | nil =>
        rw [hL] at hLk
        have h0 : u.2.1 0 (2 + na q) = 0 := by rw [h.1.2.1]; exact hLk
        rw [h0] at e1 e2 ⊢
        have hp0 : pl 0 = false := rfl
        rw [hp0] at e1 e2 ⊢
        dsimp only [cond_false] at e1 e2 ⊢
        have hr' : rns u1 = true := by unfold rns at hr ⊢; rw [e1]; exact hr.symm
        refine ⟨by decide, Λ, fun _ => ⟨fun l hl => by have := k2 l hl; unfold LR at this ⊢; rw [e2]; exact this, fun p hp b L z => by rw [e2]; exact w8 p hp b L z⟩, ?_⟩
        unfold mWK
        rw [hr', cond_true, hq, hb, cond_true, hL]
        refine ⟨rfl, fun z => absurd z (by decide), ?_⟩
        have h8 : uS (uS u1 20 0) 20 2 = uS u1 20 2 := by
          refine Prod.ext ?_ rfl
          funext j
          rw [pS, pS, pS]
          split <;> rfl
        show Inv (t + 1) (uS (uS u1 20 0) 20 2)
        rw [h8]
        exact Inv_thr h e1 e2
      | cons b L =>
        rw [hL] at hLk
        have hgb := (k1.2.2.1 (2 + na q) (by omega)).2.2 b (by rw [hL]; exact List.mem_cons_self)
        obtain ⟨p1, p2⟩ := Pl_pl hgb
        have h0 : u.2.1 0 (2 + na q) = nI b := by rw [h.1.2.1]; exact hLk.1
        rw [h0, p1] at e1 e2 ⊢
        dsimp only [cond_true] at e1 e2 ⊢
        have hr' : rns u1 = true := by unfold rns at hr ⊢; rw [e1]; exact hr.symm
        have hLR1 : ∀ l, l < 6 → LR u1 l (Λ l) := fun l hl => by have := k2 l hl; unfold LR at this ⊢; rw [e2]; exact this
        have e20 : u1.2.1 20 = u.2.1 20 := by rw [e2]; rfl
        have e23 : u1.2.1 23 = u.2.1 23 := by rw [e2]; rfl
        have hm : mWK u1 q Λ = ((mdr (uS u1 20 0) (2 + na q) [] L b).2.1 20 (na (u1.2.1 20 (b + 2)) + 3), mdr (uS u1 20 0) (2 + na q) [] L b) := by
          unfold mWK
          rw [hr', cond_true, hq, hb, cond_true, hL]
        refine ⟨by decide, Λ, fun _ => ⟨hLR1, fun p hp b L z => by rw [e20]; exact w8 p hp b L z⟩, ?_⟩
        rw [hm]
        obtain ⟨v1, v2, v3, v4, v5, v6⟩ := drop_ok (A := []) (B := L) (a := b) (l := 2 + na q) (u := uS u1 20 0) k1 (by omega) (by omega) hL (fun z => by omega) e20 e23 hLR1 rfl
        generalize mdr (uS u1 20 0) (2 + na q) [] L b = V at v1 v2 v3 v4 v5 v6 ⊢
        have v1' : V.2.1 20 = remN (u.2.1 20) (2 + na q) := v1
        refine ⟨by show V.1 20 = nI 0; rw [v4]; rfl, fun _ => ?_, Inv_ker (g := g) (n := n) h ?_ ?_ (KI_mono v2 (Nat.le_succ t)) v3 (fun k z0 z1 z2 z3 z4 => ?_) (fun k z0 z1 z2 => ?_)⟩
        · show V.2.1 20 (na (u1.2.1 20 (b + 2)) + 3) = wkA (u.2.1 0) (na q)
          unfold wkA
          have hz1 : na (u.2.1 0 (2 + na q)) = b := by rw [h0]; exact p2
          rw [v1', e20, hz1, h.1.2.1, w8 (na q) b2 b L hL, cond_true]
        · show V.2.1 0 = V.2.1 20
          rw [v1', v6 0 (by decide) (by decide) (by decide) (by decide)]
          show u1.2.1 0 = _
          rw [e2, ← h.1.2.1]
          rfl
        · show V.1 2 = V.1 21
          rw [v4]
          show u1.1 2 = u1.1 21
          rw [e1]
          exact h.1.1.2.2
        · show V.2.1 k = _
          rw [v6 k z1 z2 z3 z4]
          show u1.2.1 k = _
          rw [e2]
          simp only [pA, if_neg z0]
        · show V.1 k = _
          rw [v4, pS, if_neg z1, e1]
          rfl
