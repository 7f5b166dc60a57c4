/-! class and reference side by side -/
def I1 (t : Nat) (u : St) : Prop := (u.1 0 = u.1 23 ∧ u.1 1 = u.1 22 ∧ u.1 2 = u.1 21) ∧ u.2.1 0 = u.2.1 20 ∧ (rns u = true → ∃ Λ g n, KI t (u.2.1 20) (u.2.1 23) Λ g n ∧ ∀ l, l < 6 → LR u l (Λ l))
def I2 (u : St) : Prop := u.2.1 1 = u.2.1 24 ∧ u.2.1 2 = u.2.1 25 ∧ u.1 24 = nI (na (u.1 24))
def I3 (u : St) : Prop := (∀ p, p < 16 → u.2.1 6 p = u.2.1 28 p) ∧ (∀ p, p < 16 → u.2.1 6 p ≠ 0 → ∀ j, j < 16 → u.2.1 5 (16 * p + j) = u.2.1 27 (16 * p + j)) ∧ (u.2.1 6 0 ≠ 0 → u.1 26 ≠ 0) ∧ u.1 8 = u.1 27 ∧
  (u.1 8 ≠ 0 → ∃ c, c ≤ 57 ∧ u.1 9 = nI c ∧ u.1 28 = nI c ∧ u.1 10 = u.1 29 ∧ u.1 11 = u.1 30 ∧ ∀ j, j < c → u.2.1 7 j = u.2.1 30 j ∧ pl (u.2.1 7 j) = true ∧ u.2.1 6 (na (u.2.1 7 j) / 16) ≠ 0)
def Inv (t : Nat) (u : St) : Prop := I1 t u ∧ I2 u ∧ I3 u
theorem KI_mono {t t' : Nat} {w tk : Nat → Int32} {Λ : Nat → List Nat} {g : Nat → Nat} {n : Nat} (h : KI t w tk Λ g n) (ht : t ≤ t') : KI t' w tk Λ g n := ⟨h.1, ⟨h.2.1.1, Nat.le_trans h.2.1.2 ht⟩, h.2.2⟩
theorem I2_of {u u' : St} (h : I2 u) (e1 : u'.2.1 1 = u.2.1 1) (e2 : u'.2.1 2 = u.2.1 2) (e3 : u'.2.1 24 = u.2.1 24) (e4 : u'.2.1 25 = u.2.1 25) (e5 : u'.1 24 = u.1 24) : I2 u' := by
  unfold I2
  rw [e1, e2, e3, e4, e5]
  exact h
theorem I3_of {u u' : St} (h : I3 u) (e1 : u'.2.1 5 = u.2.1 5) (e2 : u'.2.1 6 = u.2.1 6) (e3 : u'.2.1 7 = u.2.1 7) (e4 : u'.2.1 27 = u.2.1 27) (e5 : u'.2.1 28 = u.2.1 28) (e6 : u'.2.1 30 = u.2.1 30) (f1 : u'.1 8 = u.1 8) (f2 : u'.1 9 = u.1 9) (f3 : u'.1 10 = u.1 10) (f4 : u'.1 11 = u.1 11) (f5 : u'.1 26 = u.1 26) (f6 : u'.1 27 = u.1 27) (f7 : u'.1 28 = u.1 28) (f8 : u'.1 29 = u.1 29) (f9 : u'.1 30 = u.1 30) : I3 u' := by
  unfold I3
  rw [e1, e2, e3, e4, e5, e6, f1, f2, f3, f4, f5, f6, f7, f8, f9]
  exact h
theorem I1_of {t t' : Nat} {u u' : St} (h : I1 t u) (ht : t ≤ t') (e1 : u'.2.1 0 = u.2.1 0) (e2 : u'.2.1 20 = u.2.1 20) (e3 : u'.2.1 21 = u.2.1 21) (e4 : u'.2.1 22 = u.2.1 22) (e5 : u'.2.1 23 = u.2.1 23) (f1 : u'.1 0 = u.1 0) (f2 : u'.1 1 = u.1 1) (f3 : u'.1 2 = u.1 2) (f4 : u'.1 21 = u.1 21) (f5 : u'.1 22 = u.1 22) (f6 : u'.1 23 = u.1 23) : I1 t' u' := by
  obtain ⟨h1, h2, h3⟩ := h
  refine ⟨by rw [f1, f2, f3, f4, f5, f6]; exact h1, by rw [e1, e2]; exact h2, fun hr => ?_⟩
  have hr' : rns u = true := by
    unfold rns at hr ⊢
    rw [f5, f6] at hr
    exact hr
  obtain ⟨Λ, g, n, k1, k2⟩ := h3 hr'
  exact ⟨Λ, g, n, by rw [e2, e5]; exact KI_mono k1 ht, fun l hl => by have := k2 l hl; unfold LR at this ⊢; rw [e3, e4]; exact this⟩
theorem rnc_rns {t : Nat} {u : St} (h : I1 t u) : rnc u = rns u := by
  unfold rnc rns
  rw [h.1.1, h.1.2.1]
/-- the state behind a refused call -/
theorem Inv_thr {t : Nat} {u v : St} {x : Int32} (h : Inv t u) (e1 : v.1 = u.1) (e2 : v.2.1 = u.2.1) : Inv (t + 1) (uS v 20 x) := by
  obtain ⟨s, A, o⟩ := v
  have e1 : s = u.1 := e1
  have e2 : A = u.2.1 := e2
  subst e1
  subst e2
  exact ⟨I1_of h.1 (Nat.le_succ t) rfl rfl rfl rfl rfl rfl rfl rfl rfl rfl rfl, I2_of h.2.1 rfl rfl rfl rfl rfl, I3_of h.2.2 rfl rfl rfl rfl rfl rfl rfl rfl rfl rfl rfl rfl rfl rfl rfl⟩
theorem len_lt {t : Nat} {w tk : Nat → Int32} {Λ : Nat → List Nat} {g : Nat → Nat} {n a l : Nat} (h : KI t w tk Λ g n) (hg : gp a) (hni : ¬ inL Λ a) (hl : l < 6) : (Λ l).length < 56 := by
  obtain ⟨k1, k2⟩ := (h.2.2.1 l hl).2
  have hb : ∀ b ∈ a :: Λ l, gp b := by
    intro b hb
    rcases List.mem_cons.mp hb with rfl | hb
    · exact hg
    · exact k2 b hb
  have hnd : (a :: Λ l).Nodup := List.nodup_cons.mpr ⟨fun z => hni ⟨l, hl, z⟩, k1⟩
  have := pig 56 ((a :: Λ l).map (fun b => b / 4 - 4)) (by
    unfold List.Nodup at hnd ⊢
    rw [List.pairwise_map]
    refine List.Pairwise.imp_of_mem (fun {b d} h1 h2 hne z => hne ?_) hnd
    have q1 := hb b h1
    have q2 := hb d h2
    unfold gp at q1 q2
    omega) (fun d hd => by
    obtain ⟨b, h1, rfl⟩ := List.mem_map.mp hd
    have q1 := hb b h1
    unfold gp at q1
    omega)
  rw [List.length_map, List.length_cons] at this
  omega
/-- a node put by the reference -/
theorem put_ok {t : Nat} {w2 tk : Nat → Int32} {Λ : Nat → List Nat} {g : Nat → Nat} {n a l : Nat} {A B : List Nat} {tg x y : Int32} {u v : St} (h : KI t w2 tk Λ g n) (hg : gp a) (hni : ¬ inL Λ a) (hga : g (a / 16) = 1) (hl : l < 6) (hAB : Λ l = A ++ B) (ht : tg ≠ 0)
    (hx : 2 ≤ l → ∃ c ∈ Λ 0, x = nI c) (hs : l = 1 → (∀ b ∈ A, w2 (b + 2) ≤ x) ∧ ∀ b ∈ B, x ≤ w2 (b + 2)) (e1 : u.2.1 20 = w2) (e2 : u.2.1 23 = tk) (hLR : ∀ m, m < 6 → LR u m (Λ m)) (hv : v = mpu (mwr u a tg x y) l A B a) :
    v.2.1 20 = insN w2 (esl l A) a tg x y ∧ KI t (v.2.1 20) (v.2.1 23) (uL Λ l (A ++ a :: B)) g n ∧ (∀ m, m < 6 → LR v m (uL Λ l (A ++ a :: B) m)) ∧ v.1 = u.1 ∧ v.2.2 = u.2.2 ∧ ∀ k, k ≠ 20 → k ≠ 21 → k ≠ 22 → k ≠ 23 → v.2.1 k = u.2.1 k := by
  obtain ⟨q1, q2⟩ := KI_ins (y := y) h hg hni hga hl hAB ht hx hs
  have m20 : v.2.1 20 = chn (A ++ a :: B) l (wrt (u.2.1 20) a tg x y) := by rw [hv]; rfl
  have m23 : v.2.1 23 = upd (u.2.1 23) a (bi (decide (tg ≠ 0))) := by rw [hv]; rfl
  have hb : bi (decide (tg ≠ 0)) = 1 := by rw [decide_eq_true ht]; rfl
  have hlen := len_lt h hg hni hl
  rw [hAB] at hlen
  refine ⟨by rw [m20, e1, q1], ?_, fun m hm => ?_, by rw [hv]; rfl, by rw [hv]; rfl, fun k z0 z1 z2 z3 => ?_⟩
  · rw [m20, m23, e1, e2, hb, q1]
    exact q2
  · have hw : LR (mwr u a tg x y) m (Λ m) := hLR m hm
    rw [hv]
    by_cases c : m = l
    · subst c
      have : uL Λ m (A ++ a :: B) m = A ++ a :: B := by unfold uL; rw [if_pos rfl]
      rw [this]
      rw [hAB] at hw
      exact mpu_LR _ _ _ _ _ hw hlen (by unfold gp at hg; omega)
    · have : uL Λ l (A ++ a :: B) m = Λ m := by unfold uL; rw [if_neg c]
      rw [this]
      exact LR_mpu hw c hlen
  · rw [hv]
    unfold mpu mwr
    simp only [pA, if_neg z0, if_neg z1, if_neg z2, if_neg z3]
theorem nI_ne {n : Nat} (h : n ≠ 0) (h2 : n < 2 ^ 31) : nI n ≠ 0 := fun z => h ((nI_eq (b := 0) h2 (by decide)).mp z)
theorem full_iff (u : St) : full u = true ↔ (tkP (u.2.1 0)).1 = 0 := by unfold full; simp
/-- what a place found in common gives -/
theorem place_ok {t : Nat} {u : St} {Λ : Nat → List Nat} {g : Nat → Nat} {n : Nat} (k : KI t (u.2.1 20) (u.2.1 23) Λ g n) (e : u.2.1 0 = u.2.1 20) : mpl (u.2.1 20) (u.2.1 23) = (if (tkP (u.2.1 0)).1 = 0 then -1 else nI (tkP (u.2.1 0)).1, (tkP (u.2.1 0)).2) := by
  rw [e]
  exact mpl_eq k.1 (KI_tk k)
theorem Inv_ker {t : Nat} {u v : St} {Λ : Nat → List Nat} {g : Nat → Nat} {n : Nat} (h : Inv t u) (hv : v.2.1 0 = v.2.1 20) (s2 : v.1 2 = v.1 21) (hk : KI (t + 1) (v.2.1 20) (v.2.1 23) Λ g n) (hl : ∀ l, l < 6 → LR v l (Λ l)) (ha : ∀ k, k ≠ 0 → k ≠ 20 → k ≠ 21 → k ≠ 22 → k ≠ 23 → v.2.1 k = u.2.1 k) (hs : ∀ k, k ≠ 2 → k ≠ 20 → k ≠ 21 → v.1 k = u.1 k) : Inv (t + 1) v := by
  refine ⟨⟨⟨?_, ?_, s2⟩, hv, fun _ => ⟨Λ, g, n, hk, hl⟩⟩, I2_of h.2.1 (ha 1 (by decide) (by decide) (by decide) (by decide) (by decide)) (ha 2 (by decide) (by decide) (by decide) (by decide) (by decide)) (ha 24 (by decide) (by decide) (by decide) (by decide) (by decide)) (ha 25 (by decide) (by decide) (by decide) (by decide) (by decide)) (hs 24 (by decide) (by decide) (by decide)),
    I3_of h.2.2 (ha 5 (by decide) (by decide) (by decide) (by decide) (by decide)) (ha 6 (by decide) (by decide) (by decide) (by decide) (by decide)) (ha 7 (by decide) (by decide) (by decide) (by decide) (by decide)) (ha 27 (by decide) (by decide) (by decide) (by decide) (by decide)) (ha 28 (by decide) (by decide) (by decide) (by decide) (by decide)) (ha 30 (by decide) (by decide) (by decide) (by decide) (by decide))
      (hs 8 (by decide) (by decide) (by decide)) (hs 9 (by decide) (by decide) (by decide)) (hs 10 (by decide) (by decide) (by decide)) (hs 11 (by decide) (by decide) (by decide)) (hs 26 (by decide) (by decide) (by decide)) (hs 27 (by decide) (by decide) (by decide)) (hs 28 (by decide) (by decide) (by decide)) (hs 29 (by decide) (by decide) (by decide)) (hs 30 (by decide) (by decide) (by decide))⟩
  · rw [hs 0 (by decide) (by decide) (by decide), hs 23 (by decide) (by decide) (by decide)]; exact h.1.1.1
  · rw [hs 1 (by decide) (by decide) (by decide), hs 22 (by decide) (by decide) (by decide)]; exact h.1.1.2.1
theorem mtk_id {v : St} {x : Int32} (h : (mpl (v.2.1 20) (v.2.1 23)).2 = v.2.1 20) : mtk v x = uS v 20 x := by
  unfold mtk
  rw [h, uA_id]
theorem negm {f : Nat → Int32} : ((-1, f) : Int32 × (Nat → Int32)).1 < 0 := (by decide : (-1 : Int32) < 0)
theorem z_TN {t : Nat} {u u1 : St} {p : Int32} (h : Inv t u) (e1 : u1.1 = (dTN u p).2.2.1) (e2 : u1.2.1 = (dTN u p).2.2.2.1) : (dTN u p).1 ≤ 1 ∧ ∃ L, C_M_taskNew.2.2.2.1 (u1, p, L) ∧ (mTN u1 p L).2.1 20 = nI (dTN u p).1 ∧ ((dTN u p).1 = 0 → (mTN u1 p L).1 = (dTN u p).2.1) ∧ Inv (t + 1) (mTN u1 p L).2 := by
  have hr := rnc_rns h.1
  unfold dTN at e1 e2 ⊢
  cases hc : rnc u with
  | false =>
    rw [hc] at e1 e2 hr
    dsimp only [cond_false] at e1 e2 ⊢
    have hr' : rns u1 = false := by unfold rns at hr ⊢; rw [e1]; exact hr.symm
    refine ⟨Nat.le_refl _, [], fun z => ?_, ?_⟩
    · rw [show rns u1 = true from z] at hr'; cases hr'
    · unfold mTN
      rw [hr', cond_false]
      exact ⟨rfl, fun z => absurd z (by decide), Inv_thr h e1 e2⟩
  | true =>
    rw [hc] at e1 e2 hr
    dsimp only [cond_true] at e1 e2 ⊢
    obtain ⟨Λ, g, n, k1, k2⟩ := h.1.2.2 hr.symm
    have hpl := place_ok k1 h.1.2.1
    cases hf : full u with
    | true =>
      rw [hf] at e1 e2
      dsimp only [cond_true] at e1 e2 ⊢
      have hz := (full_iff u).mp hf
      rw [if_pos hz, tkP_0 _ hz, h.1.2.1] at hpl
      have hr' : rns u1 = true := by unfold rns at hr ⊢; rw [e1]; exact hr.symm
      rw [← e2] at hpl
      have hneg : (mpl (u1.2.1 20) (u1.2.1 23)).1 < 0 := by rw [hpl]; exact negm
      refine ⟨Nat.le_refl _, Λ 0, fun _ => ⟨?_, fun z => absurd hneg z⟩, ?_⟩
      · have := k2 0 (by omega)
        unfold LR at this ⊢
        rw [e2]
        exact this
      unfold mTN
      rw [hr', cond_true, if_pos hneg, mtk_id (by rw [hpl])]
      exact ⟨rfl, fun z => absurd z (by decide), Inv_thr h e1 e2⟩
    | false =>
      rw [hf] at e1 e2
      dsimp only [cond_false] at e1 e2 ⊢
      have hz : (tkP (u.2.1 0)).1 ≠ 0 := fun z => by rw [(full_iff u).mpr z] at hf; cases hf
      rw [if_neg hz] at hpl
      have hlt := tkP_lt (u.2.1 0)
      have k1' : KI t (u.2.1 0) (u.2.1 23) Λ g n := by rw [h.1.2.1]; exact k1
      obtain ⟨p1, p2, g', p3, p4, p5⟩ := KI_take k1' hz
      generalize hP : tkP (u.2.1 0) = P at *
      obtain ⟨a, w2⟩ := P
      dsimp only at *
      have ea : na (nI a) = a := nI_clamp (by omega)
      obtain ⟨s, A, o⟩ := u1
      dsimp only at e1 e2
      subst e1
      subst e2
      have hnn : ¬ nI a < 0 := nI_nn (by omega)
      refine ⟨by decide, Λ 0, fun _ => ⟨k2 0 (by omega), fun _ => len_lt k1 p1 p2 (by omega)⟩, ?_⟩
      have hm : mTN ((uS (uA u 0 (insN w2 (fslot w2 56 0) a 7001 p (u.1 2))) 2 (u.1 2 + 1)).1, (uS (uA u 0 (insN w2 (fslot w2 56 0) a 7001 p (u.1 2))) 2 (u.1 2 + 1)).2.1, o) p (Λ 0) = (u.1 21 + 1 - 1, uS (mpu (mwr (mtk ((uS (uA u 0 (insN w2 (fslot w2 56 0) a 7001 p (u.1 2))) 2 (u.1 2 + 1)).1, (uS (uA u 0 (insN w2 (fslot w2 56 0) a 7001 p (u.1 2))) 2 (u.1 2 + 1)).2.1, o) 0) a 7001 p (u.1 21)) 0 (Λ 0) [] a) 21 (u.1 21 + 1)) := by
        unfold mTN
        show cond (rns u) (if (mpl (u.2.1 20) (u.2.1 23)).1 < 0 then _ else _) _ = _
        rw [← hr, cond_true]
        simp only [hpl]
        rw [if_neg hnn]
        show (_, uS (mpu (mwr _ (na (mpl (u.2.1 20) (u.2.1 23)).1) _ _ _) _ _ _ (na (mpl (u.2.1 20) (u.2.1 23)).1)) _ _) = _
        rw [hpl]
        simp only [ea]
        rfl
      rw [hm]
      have hsl : fslot w2 56 0 = esl 0 (Λ 0) := by
        have q := p3.2.2.1 0 (by omega)
        rw [fslot_eq 56 (Λ 0) 0 q.1 q.2.2, List.take_of_length_le (Nat.le_of_lt (len_lt k1 p1 p2 (by omega)))]
      obtain ⟨v1, v2, v3, v4, v5, v6⟩ := put_ok (tg := 7001) (x := p) (y := u.1 21) (A := Λ 0) (B := []) (l := 0) (u := mtk ((uS (uA u 0 (insN w2 (fslot w2 56 0) a 7001 p (u.1 2))) 2 (u.1 2 + 1)).1, (uS (uA u 0 (insN w2 (fslot w2 56 0) a 7001 p (u.1 2))) 2 (u.1 2 + 1)).2.1, o) 0) p3 p1 p2 p4 (by omega) (by simp) (by decide) (fun z => absurd z (by decide)) (fun z => absurd z (by decide)) (show (mpl (u.2.1 20) (u.2.1 23)).2 = w2 by rw [hpl]) rfl k2 rfl
      generalize hV : mpu (mwr (mtk ((uS (uA u 0 (insN w2 (fslot w2 56 0) a 7001 p (u.1 2))) 2 (u.1 2 + 1)).1, (uS (uA u 0 (insN w2 (fslot w2 56 0) a 7001 p (u.1 2))) 2 (u.1 2 + 1)).2.1, o) 0) a 7001 p (u.1 21)) 0 (Λ 0) [] a = V at v1 v2 v3 v4 v5 v6 ⊢
      have hs2 : u.1 2 = u.1 21 := h.1.1.2.2
      refine ⟨?_, fun _ => ?_, Inv_ker (Λ := uL Λ 0 (Λ 0 ++ a :: [])) (g := g') (n := n) h ?_ ?_ (KI_mono v2 (Nat.le_succ t)) v3 (fun k z0 z1 z2 z3 z4 => ?_) (fun k z0 z1 z2 => ?_)⟩
      · show V.1 20 = nI 0
        rw [v4]
        rfl
      · show u.1 21 + 1 - 1 = u.1 2
        rw [hs2]
        exact Int32.add_sub_cancel _ _
      · show V.2.1 0 = V.2.1 20
        rw [v1, v6 0 (by decide) (by decide) (by decide) (by decide)]
        show insN w2 (fslot w2 56 0) a 7001 p (u.1 2) = _
        rw [hsl, hs2]
      · show V.1 2 = u.1 21 + 1
        rw [v4, ← hs2]
        rfl
      · show V.2.1 k = u.2.1 k
        rw [v6 k z1 z2 z3 z4]
        unfold mtk
        simp only [pA, pSa, if_neg z0, if_neg z1]
      · show (uS V 21 (u.1 21 + 1)).1 k = u.1 k
        rw [pS, if_neg z2, v4]
        unfold mtk
        rw [pS, if_neg z1, pAs]
        show (uS (uA u 0 (insN w2 (fslot w2 56 0) a 7001 p (u.1 2))) 2 (u.1 2 + 1)).1 k = u.1 k
        rw [pS, if_neg z0, pAs]
