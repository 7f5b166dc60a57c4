/-! attach: class and reference -/
def Sr (x : St) (ar bd : Nat → Int32) (s : Nat) : Prop := x.2.1 1 = ar ∧ x.2.1 2 = bd ∧ x.1 6 = nI s ∧ s ≤ 96
/-- reading leaves alone -/
def Rk (x x' : St) : Prop := (∀ k, k ≠ 4 → x'.2.1 k = x.2.1 k) ∧ (∀ k, k ≠ 6 → x'.1 k = x.1 k) ∧ x'.2.2 = x.2.2
theorem Rk_refl (x : St) : Rk x x := ⟨fun _ _ => rfl, fun _ _ => rfl, rfl⟩
theorem Rk_trans {x x' x'' : St} (h : Rk x x') (h' : Rk x' x'') : Rk x x'' := ⟨fun k a => (h'.1 k a).trans (h.1 k a), fun k a => (h'.2.1 k a).trans (h.2.1 k a), h'.2.2.trans h.2.2⟩
theorem Sr_na {x : St} {ar bd : Nat → Int32} {s : Nat} (h : Sr x ar bd s) : na (x.1 6) = s := by
  obtain ⟨-, -, h3, h4⟩ := h
  rw [h3]
  exact nI_clamp (by omega)
theorem rs_eq {x : St} {ar bd f : Nat → Int32} {s k : Nat} (h : Sr x ar bd s) (hf : ∀ j, j < 8 * k → x.2.1 4 j = f j) : (rs x s k).1 = (prs ar bd f k s).1 ∧ Rk x (rs x s k).2 ∧ ((rs x s k).1 = true → Sr (rs x s k).2 ar bd (prs ar bd f k s).2.2.2 ∧ ∀ j, j < 8 * (k + 1) → (rs x s k).2.2.1 4 j = (prs ar bd f k s).2.1 j) := by
  obtain ⟨h1, h2, h3, h4⟩ := h
  unfold rs prs
  rw [h1, h2]
  by_cases c : fNG bd (96 - s) s < 96
  · rw [if_pos c, if_pos c]
    refine ⟨rfl, ⟨fun j z => ?_, fun j z => ?_, rfl⟩, fun _ => ⟨⟨h1, h2, rfl, by show fNG bd (96 - s) s + 1 ≤ 96; omega⟩, fun j hj => ?_⟩⟩
    · show (uA x 4 _).2.1 j = _
      rw [pA, if_neg z]
    · show (uS _ 6 _).1 j = _
      rw [pS, if_neg z]
      rfl
    · show va_cpy ar (x.2.1 4) (8 * fNG bd (96 - s) s) (8 * k) 8 j = va_cpy ar f (8 * fNG bd (96 - s) s) (8 * k) 8 j
      unfold va_cpy
      by_cases d : 8 * k ≤ j ∧ j < 8 * k + 8
      · rw [if_pos d, if_pos d]
      · rw [if_neg d, if_neg d]
        exact hf j (by omega)
  · rw [if_neg c, if_neg c]
    exact ⟨rfl, Rk_refl x, fun z => by cases z⟩
theorem rl_eq {ar bd : Nat → Int32} : ∀ (n k : Nat) (x : St) (f : Nat → Int32) (s : Nat), Sr x ar bd s → (∀ j, j < 8 * k → x.2.1 4 j = f j) → (rl n k x).1 = (prl ar bd n k f s).1 ∧ Rk x (rl n k x).2 ∧ ((rl n k x).1 = true → Sr (rl n k x).2 ar bd (prl ar bd n k f s).2.2.2 ∧ ∀ j, j < 8 * (k + n) → (rl n k x).2.2.1 4 j = (prl ar bd n k f s).2.1 j) := by
  intro n
  induction n with
  | zero => intro k x f s h hf; exact ⟨rfl, Rk_refl x, fun _ => ⟨h, hf⟩⟩
  | succ n ih =>
    intro k x f s h hf
    have e1 : rl (n + 1) k x = cond (rs x (na (x.1 6)) k).1 (rl n (k + 1) (rs x (na (x.1 6)) k).2) (false, (rs x (na (x.1 6)) k).2) := rfl
    have e2 : prl ar bd (n + 1) k f s = cond (prs ar bd f k s).1 (prl ar bd n (k + 1) (prs ar bd f k s).2.1 (prs ar bd f k s).2.2.2) (prs ar bd f k s) := rfl
    rw [e1, e2, Sr_na h]
    obtain ⟨q1, q2, q3⟩ := rs_eq h hf
    rw [← q1]
    cases hc : (rs x s k).1 with
    | false =>
      dsimp only [cond_false]
      exact ⟨by rw [← q1, hc], q2, fun z => by cases z⟩
    | true =>
      dsimp only [cond_true]
      obtain ⟨r1, r2⟩ := q3 hc
      obtain ⟨i1, i2, i3⟩ := ih (k + 1) (rs x s k).2 _ _ r1 r2
      refine ⟨i1, Rk_trans q2 i2, fun z => ⟨(i3 z).1, fun j hj => (i3 z).2 j (by omega)⟩⟩
theorem hft_cg {f f' : Nat → Int32} {b : Int32} (h1 : f 1 = f' 1) (h2 : f 2 = f' 2) : hft f b = hft f' b := by
  unfold hft
  rw [h1, h2]
theorem rC_eq {x : St} {ar bd f : Nat → Int32} {s m : Nat} {b : Int32} (h : Sr x ar bd s) : (rC x m b).1 = (prC ar bd f m b s).1 ∧ Rk x (rC x m b).2 ∧ ((rC x m b).1 = true → hft ((rC x m b).2.2.1 4) b = true ∧ Sr (rC x m b).2 ar bd (prC ar bd f m b s).2.2.2 ∧ ∀ j, j < 8 * ((na ((rC x m b).2.2.1 4 2) + 11) / 8) → (rC x m b).2.2.1 4 j = (prC ar bd f m b s).2.1 j) := by
  have hok : rOK x := by
    refine ⟨?_, ?_⟩
    · rw [Sr_na h]; exact h.2.2.1
    · rw [Sr_na h]; exact h.2.2.2
  have hin := (rC_in x m b hok).2
  revert hin
  unfold rC prC
  rw [Sr_na h]
  obtain ⟨q1, q2, q3⟩ := rs_eq (k := 0) (f := f) h (fun j hj => absurd hj (by omega))
  rw [← q1]
  generalize hP : prs ar bd f 0 s = P at q1 q3 ⊢
  generalize hX : rs x s 0 = X at q1 q2 q3 ⊢
  cases hc : X.1 with
  | false =>
    dsimp only [cond_false]
    intro _
    exact ⟨by rw [← q1, hc], q2, fun z => by cases z⟩
  | true =>
    dsimp only [cond_true]
    obtain ⟨r1, r2⟩ := q3 hc
    unfold rH prH
    rw [r2 0 (by omega)]
    by_cases c0 : P.2.1 0 = 50000 + nI m
    · rw [if_pos c0, if_pos c0]
      have hh : hft (X.2.2.1 4) b = hft P.2.1 b := hft_cg (r2 1 (by omega)) (r2 2 (by omega))
      rw [← hh]
      cases hb : hft (X.2.2.1 4) b with
      | false =>
        dsimp only [cond_false]
        intro _
        exact ⟨rfl, q2, fun z => by cases z⟩
      | true =>
        dsimp only [cond_true]
        intro hin
        rw [r2 2 (by omega)] at hin ⊢
        obtain ⟨h2a, h2b, h2c⟩ := hft_2 (hh ▸ hb)
        generalize hn : na (P.2.1 2) = n at *
        obtain ⟨i1, i2, i3⟩ := rl_eq ((n + 11) / 8 - 1) 1 X.2 P.2.1 P.2.2.2 r1 (fun j hj => r2 j (by omega))
        have hhd : (rl ((n + 11) / 8 - 1) 1 X.2).2.2.1 4 2 = P.2.1 2 := by
          rw [rl_head _ _ _ _ (by omega) (by omega)]
          exact r2 2 (by omega)
        generalize rl ((n + 11) / 8 - 1) 1 X.2 = Y at i1 i2 i3 hhd hin ⊢
        generalize prl ar bd ((n + 11) / 8 - 1) 1 P.2.1 P.2.2.2 = Z at i1 i3 ⊢
        unfold rE prE at *
        rw [← i1]
        cases hy : Y.1 with
        | false =>
          dsimp only [cond_false]
          exact ⟨by rw [← i1, hy], Rk_trans q2 i2, fun z => by cases z⟩
        | true =>
          rw [hy] at hin
          dsimp only [cond_true] at hin ⊢
          obtain ⟨j1, j2⟩ := i3 hy
          have ag : ∀ j, j < 8 * ((n + 11) / 8) → Y.2.2.1 4 j = Z.2.1 j := fun j hj => j2 j (by omega)
          rw [ag _ (by omega), sm_eq ((n + 11) / 8 * 8 - 1) (fun j hj => ag j (by omega))] at hin ⊢
          refine ⟨rfl, Rk_trans q2 i2, fun z => ⟨hin z, j1, fun j hj => ?_⟩⟩
          rw [hhd, hn] at hj
          exact ag j hj
    · rw [if_neg c0, if_neg c0]
      intro _
      exact ⟨rfl, q2, fun z => by cases z⟩
theorem prl_k (ar bd : Nat → Int32) : ∀ n k f s, (prl ar bd n k f s).2.2.1 ≤ k + n := by
  intro n
  induction n with
  | zero => intro k f s; exact Nat.le_refl _
  | succ n ih =>
    intro k f s
    have e2 : prl ar bd (n + 1) k f s = cond (prs ar bd f k s).1 (prl ar bd n (k + 1) (prs ar bd f k s).2.1 (prs ar bd f k s).2.2.2) (prs ar bd f k s) := rfl
    rw [e2]
    cases hc : (prs ar bd f k s).1 with
    | false =>
      dsimp only [cond_false]
      unfold prs
      split
      · show k + 1 ≤ _; omega
      · show k ≤ _; omega
    | true =>
      dsimp only [cond_true]
      have := ih (k + 1) (prs ar bd f k s).2.1 (prs ar bd f k s).2.2.2
      omega
theorem prC_k (ar bd f : Nat → Int32) (m : Nat) (b : Int32) (s : Nat) : (prC ar bd f m b s).2.2.1 ≤ 6 := by
  have h0 : (prs ar bd f 0 s).2.2.1 ≤ 1 := by
    unfold prs
    split
    · exact Nat.le_refl _
    · exact Nat.zero_le _
  unfold prC
  generalize prs ar bd f 0 s = P at h0 ⊢
  cases P.1 with
  | false => show P.2.2.1 ≤ 6; omega
  | true =>
    dsimp only [cond_true]
    unfold prH
    split
    · cases hb : hft P.2.1 b with
      | false => show P.2.2.1 ≤ 6; omega
      | true =>
        dsimp only [cond_true]
        obtain ⟨h2a, h2b, h2c⟩ := hft_2 hb
        have := prl_k ar bd ((na (P.2.1 2) + 11) / 8 - 1) 1 P.2.1 P.2.2.2
        generalize prl ar bd ((na (P.2.1 2) + 11) / 8 - 1) 1 P.2.1 P.2.2.2 = Z at this ⊢
        unfold prE
        cases Z.1 with
        | false => show Z.2.2.1 ≤ 6; omega
        | true => show Z.2.2.1 ≤ 6; omega
    · show P.2.2.1 ≤ 6; omega
theorem iop_big {f : Nat → Int32} {e : Nat} : ∀ q t g, (e < t ∨ 16 < g) → iop f e q t g = false := by
  intro q
  induction q with
  | zero => intro t g _; rfl
  | succ q ih =>
    intro t g h
    have e1 : iop f e (q + 1) t g = if t < e then (if f t = 0 ∨ f t < -16 ∨ 16 < f t then false else if f t < 0 then iop f e q (t + 2) (g + ab (f t)) else iop f e q (t + 1 + ab (f t)) (g + ab (f t))) else (decide (t = e) && decide (g = 16)) := rfl
    rw [e1]
    by_cases c : t < e
    · rw [if_pos c]
      split
      · rfl
      · split
        · exact ih _ _ (Or.inr (by omega))
        · exact ih _ _ (Or.inr (by omega))
    · rw [if_neg c]
      rcases h with h | h
      · rw [decide_eq_false (by omega), Bool.false_and]
      · rw [decide_eq_false (show ¬ g = 16 by omega), Bool.and_false]
theorem ab_big {x : Int32} (h : x < -16 ∨ 16 < x) : 16 < ab x := by
  unfold ab
  rcases h with h | h
  · rw [Int32.lt_iff_toInt_lt, show ((-16 : Int32)).toInt = -16 from rfl] at h
    omega
  · rw [Int32.lt_iff_toInt_lt, show ((16 : Int32)).toInt = 16 from rfl] at h
    omega
theorem iop_mup {f f' : Nat → Int32} {e : Nat} (hf : ∀ j, j < e → f j = f' j) : ∀ q t g w, t ≤ e → g ≤ 16 → iop f e q t g = (mup f' e q t g w).1 := by
  intro q
  induction q with
  | zero => intro t g w _ _; rfl
  | succ q ih =>
    intro t g w ht hg
    have e1 : iop f e (q + 1) t g = if t < e then (if f t = 0 ∨ f t < -16 ∨ 16 < f t then false else if f t < 0 then iop f e q (t + 2) (g + ab (f t)) else iop f e q (t + 1 + ab (f t)) (g + ab (f t))) else (decide (t = e) && decide (g = 16)) := rfl
    have e2 : mup f' e (q + 1) t g w = if t < e then (if f' t = 0 ∨ 16 < g + ab (f' t) ∨ e < t + 1 + (if f' t < 0 then 1 else ab (f' t)) then (false, w) else if f' t < 0 then mup f' e q (t + 2) (g + ab (f' t)) (ffl w g (g + ab (f' t)) (f' (t + 1))) else mup f' e q (t + 1 + ab (f' t)) (g + ab (f' t)) (va_cpy f' w (t + 1) g (ab (f' t)))) else (decide (g = 16), w) := rfl
    rw [e1, e2]
    by_cases c : t < e
    · rw [if_pos c, if_pos c, hf t c]
      by_cases c1 : f' t = 0
      · rw [if_pos (Or.inl c1), if_pos (Or.inl c1)]
      · by_cases c2 : f' t < -16 ∨ 16 < f' t
        · have := ab_big c2
          rw [if_pos (Or.inr c2), if_pos (Or.inr (Or.inl (by omega)))]
        · rw [if_neg (by rintro (z | z); exact c1 z; exact c2 z)]
          by_cases c3 : 16 < g + ab (f' t) ∨ e < t + 1 + (if f' t < 0 then 1 else ab (f' t))
          · rw [if_pos (Or.inr c3)]
            by_cases c4 : f' t < 0
            · rw [if_pos c4] at c3
              rw [if_pos c4]
              exact iop_big _ _ _ (by omega)
            · rw [if_neg c4] at c3
              rw [if_neg c4]
              exact iop_big _ _ _ (by omega)
          · rw [if_neg (show ¬ (f' t = 0 ∨ 16 < g + ab (f' t) ∨ e < t + 1 + (if f' t < 0 then 1 else ab (f' t))) from fun z => z.elim c1 c3)]
            by_cases c4 : f' t < 0
            · rw [if_pos c4] at c3
              rw [if_pos c4, if_pos c4]
              exact ih _ _ _ (by omega) (by omega)
            · rw [if_neg c4] at c3
              rw [if_neg c4, if_neg c4]
              exact ih _ _ _ (by omega) (by omega)
    · rw [if_neg c, if_neg c, decide_eq_true (show t = e by omega), Bool.true_and]
theorem upk_mup {f f' : Nat → Int32} {e o : Nat} (hf : ∀ j, j < e → f j = f' j) : ∀ q t g w z, t ≤ e → g ≤ 16 → (mup f' e q t g w).1 = true → (∀ j, j < g → z (o + j) = w j) → (∀ j, j < 16 → upk f e q t (o + g) z (o + j) = (mup f' e q t g w).2 j) ∧ ∀ i, (i < o ∨ o + 16 ≤ i) → upk f e q t (o + g) z i = z i := by
  intro q
  induction q with
  | zero => intro t g w z _ _ h _; cases h
  | succ q ih =>
    intro t g w z ht hg h hz
    have e1 : upk f e (q + 1) t (o + g) z = if t < e then (if f t < 0 then upk f e q (t + 2) (o + g + ab (f t)) (ffl z (o + g) (o + g + ab (f t)) (f (t + 1))) else upk f e q (t + 1 + ab (f t)) (o + g + ab (f t)) (va_cpy f z (t + 1) (o + g) (ab (f t)))) else z := rfl
    have e2 : mup f' e (q + 1) t g w = if t < e then (if f' t = 0 ∨ 16 < g + ab (f' t) ∨ e < t + 1 + (if f' t < 0 then 1 else ab (f' t)) then (false, w) else if f' t < 0 then mup f' e q (t + 2) (g + ab (f' t)) (ffl w g (g + ab (f' t)) (f' (t + 1))) else mup f' e q (t + 1 + ab (f' t)) (g + ab (f' t)) (va_cpy f' w (t + 1) g (ab (f' t)))) else (decide (g = 16), w) := rfl
    rw [e2] at h ⊢
    rw [e1]
    by_cases c : t < e
    · rw [if_pos c] at h ⊢
      rw [if_pos c, hf t c]
      by_cases c3 : f' t = 0 ∨ 16 < g + ab (f' t) ∨ e < t + 1 + (if f' t < 0 then 1 else ab (f' t))
      · rw [if_pos c3] at h; cases h
      · rw [if_neg c3] at h ⊢
        by_cases c4 : f' t < 0
        · rw [if_pos c4] at h c3 ⊢
          rw [if_pos c4, Nat.add_assoc o]
          obtain ⟨i1, i2⟩ := ih (t + 2) (g + ab (f' t)) (ffl w g (g + ab (f' t)) (f' (t + 1))) (ffl z (o + g) (o + (g + ab (f' t))) (f (t + 1))) (by omega) (by omega) h (fun j hj => by
            unfold ffl
            by_cases d : g ≤ j
            · rw [if_pos (by omega), if_pos (by omega)]
              exact hf _ (by omega)
            · rw [if_neg (by omega), if_neg (by omega)]
              exact hz j (by omega))
          refine ⟨i1, fun i hi => ?_⟩
          rw [i2 i hi]
          unfold ffl
          rw [if_neg (by omega)]
        · rw [if_neg c4] at h c3 ⊢
          rw [if_neg c4, Nat.add_assoc o]
          obtain ⟨i1, i2⟩ := ih (t + 1 + ab (f' t)) (g + ab (f' t)) (va_cpy f' w (t + 1) g (ab (f' t))) (va_cpy f z (t + 1) (o + g) (ab (f' t))) (by omega) (by omega) h (fun j hj => by
            unfold va_cpy
            by_cases d : g ≤ j
            · rw [if_pos (by omega), if_pos (by omega), show o + j - (o + g) = j - g by omega]
              exact hf _ (by omega)
            · rw [if_neg (by omega), if_neg (by omega)]
              exact hz j (by omega))
          refine ⟨i1, fun i hi => ?_⟩
          rw [i2 i hi]
          unfold va_cpy
          rw [if_neg (by omega)]
    · rw [if_neg c] at h ⊢
      rw [if_neg c]
      have hg16 : g = 16 := of_decide_eq_true h
      exact ⟨fun j hj => hz j (by omega), fun i _ => rfl⟩
