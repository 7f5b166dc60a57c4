/-! dump: class and reference -/
theorem sm_eq {f f' : Nat → Int32} : ∀ n, (∀ j, j < n → f j = f' j) → sm f n = sm f' n := by
  intro n
  induction n with
  | zero => intro _; rfl
  | succ n ih =>
    intro h
    show 31 * sm f n + f n = 31 * sm f' n + f' n
    rw [ih (fun j hj => h j (by omega)), h n (by omega)]
theorem pkg_eq (w : Nat → Int32) (e : Nat) : ∀ n k t f f', (∀ j, 3 ≤ j → j < t → f j = f' j) → (pkg w e n k t f).1 = (pkg w e n k t f').1 ∧ ∀ j, 3 ≤ j → j < (pkg w e n k t f).1 → (pkg w e n k t f).2 j = (pkg w e n k t f').2 j := by
  intro n
  induction n with
  | zero => intro k t f f' h; exact ⟨rfl, h⟩
  | succ n ih =>
    intro k t f f' h
    have e1 : ∀ f, pkg w e (n + 1) k t f = if k < e then (if 3 ≤ same w k e then pkg w e n (k + same w k e) (t + 2) (upd (upd f t (-nI (same w k e))) (t + 1) (w k)) else pkg w e n (k + mixed w k e) (t + 1 + mixed w k e) (va_cpy w (upd f t (nI (mixed w k e))) k (t + 1) (mixed w k e))) else (t, f) := fun _ => rfl
    rw [e1 f, e1 f']
    by_cases c : k < e
    · rw [if_pos c, if_pos c]
      by_cases c2 : 3 ≤ same w k e
      · rw [if_pos c2, if_pos c2]
        refine ih _ _ _ _ (fun j j1 j2 => ?_)
        unfold upd
        by_cases d1 : j = t + 1
        · rw [if_pos d1, if_pos d1]
        · rw [if_neg d1, if_neg d1]
          by_cases d2 : j = t
          · rw [if_pos d2, if_pos d2]
          · rw [if_neg d2, if_neg d2]
            exact h j j1 (by omega)
      · rw [if_neg c2, if_neg c2]
        refine ih _ _ _ _ (fun j j1 j2 => ?_)
        unfold va_cpy upd
        by_cases d1 : t + 1 ≤ j ∧ j < t + 1 + mixed w k e
        · rw [if_pos d1, if_pos d1]
        · rw [if_neg d1, if_neg d1]
          by_cases d2 : j = t
          · rw [if_pos d2, if_pos d2]
          · rw [if_neg d2, if_neg d2]
            exact h j j1 (by omega)
    · rw [if_neg c, if_neg c]
      exact ⟨rfl, h⟩
theorem frm_eq {f f' : Nat → Int32} (c pg : Int32) (n last : Nat) (hl : 3 + n ≤ last) (h : ∀ j, 3 ≤ j → j < 3 + n → f j = f' j) : ∀ j, j < last + 1 → frm f c pg n last j = frm f' c pg n last j := by
  have key : ∀ j, j < last → ffl (upd (upd (upd f 0 (50000 + c)) 1 pg) 2 (nI n)) (3 + n) last 0 j = ffl (upd (upd (upd f' 0 (50000 + c)) 1 pg) 2 (nI n)) (3 + n) last 0 j := by
    intro j hj
    unfold ffl upd
    by_cases c0 : 3 + n ≤ j ∧ j < last
    · rw [if_pos c0, if_pos c0]
    · rw [if_neg c0, if_neg c0]
      by_cases c1 : j = 2
      · rw [if_pos c1, if_pos c1]
      · rw [if_neg c1, if_neg c1]
        by_cases c2 : j = 1
        · rw [if_pos c2, if_pos c2]
        · rw [if_neg c2, if_neg c2]
          by_cases c3 : j = 0
          · rw [if_pos c3, if_pos c3]
          · rw [if_neg c3, if_neg c3]
            exact h j (by omega) (by omega)
  intro j hj
  have e1 : ∀ f : Nat → Int32, frm f c pg n last j = if j = last then sm (ffl (upd (upd (upd f 0 (50000 + c)) 1 pg) 2 (nI n)) (3 + n) last 0) last else ffl (upd (upd (upd f 0 (50000 + c)) 1 pg) 2 (nI n)) (3 + n) last 0 j := fun _ => rfl
  rw [e1 f, e1 f']
  by_cases c0 : j = last
  · rw [if_pos c0, if_pos c0, sm_eq last key]
  · rw [if_neg c0, if_neg c0]
    exact key j (by omega)
theorem wl_eq (bd : Nat → Int32) {f f' : Nat → Int32} : ∀ n k s pw ar, (∀ j, j < 8 * (k + n) → f j = f' j) → wl bd f n k s pw ar = wl bd f' n k s pw ar := by
  intro n
  induction n with
  | zero => intro k s pw ar _; rfl
  | succ n ih =>
    intro k s pw ar h
    have e1 : ∀ f, wl bd f (n + 1) k s pw ar = if pw = 0 then (2, s, pw, ar) else wl bd f n (k + 1) (fNG bd (96 - s) s + 1) (pw - 1) (va_cpy f ar (8 * k) (8 * fNG bd (96 - s) s) 8) := fun _ => rfl
    rw [e1 f, e1 f']
    by_cases c : pw = 0
    · rw [if_pos c, if_pos c]
    · rw [if_neg c, if_neg c]
      have e2 : va_cpy f ar (8 * k) (8 * fNG bd (96 - s) s) 8 = va_cpy f' ar (8 * k) (8 * fNG bd (96 - s) s) 8 := by
        funext j
        unfold va_cpy
        by_cases d : 8 * fNG bd (96 - s) s ≤ j ∧ j < 8 * fNG bd (96 - s) s + 8
        · rw [if_pos d, if_pos d]
          exact h _ (by omega)
        · rw [if_neg d, if_neg d]
      rw [e2]
      exact ih _ _ _ _ (fun j hj => h j (by omega))
theorem wl_02 (bd f : Nat → Int32) : ∀ n k s pw ar, (wl bd f n k s pw ar).1 = 0 ∨ (wl bd f n k s pw ar).1 = 2 := by
  intro n
  induction n with
  | zero => intro k s pw ar; exact Or.inl rfl
  | succ n ih =>
    intro k s pw ar
    have e1 : wl bd f (n + 1) k s pw ar = if pw = 0 then (2, s, pw, ar) else wl bd f n (k + 1) (fNG bd (96 - s) s + 1) (pw - 1) (va_cpy f ar (8 * k) (8 * fNG bd (96 - s) s) 8) := rfl
    rw [e1]
    by_cases c : pw = 0
    · rw [if_pos c]; exact Or.inr rfl
    · rw [if_neg c]; exact ih _ _ _ _
/-- a class state and a reference state in the midst of a dump: c chunks, power pw -/
def Dr (c pw : Nat) (x y : St) : Prop := x.2.1 2 = y.2.1 25 ∧ x.2.1 1 = y.2.1 24 ∧ x.2.1 0 = y.2.1 20 ∧ (∃ s, s ≤ 96 ∧ x.1 3 = nI s ∧ y.1 25 = nI s) ∧ x.1 4 = nI pw ∧ pw ≤ 200 ∧ x.1 5 = nI c ∧ (∃ z, z < 2 ^ 31 ∧ y.1 24 = nI z)
/-- what a dump leaves alone -/
def Dk (x x' y y' : St) : Prop := (∀ k, k ≠ 1 → k ≠ 3 → x'.2.1 k = x.2.1 k) ∧ (∀ k, k ≠ 3 → k ≠ 4 → k ≠ 5 → x'.1 k = x.1 k) ∧ x'.2.2 = x.2.2 ∧ (∀ k, k ≠ 24 → k ≠ 26 → y'.2.1 k = y.2.1 k) ∧ (∀ k, k ≠ 24 → k ≠ 25 → y'.1 k = y.1 k) ∧ y'.2.2 = y.2.2
theorem Dk_trans {x x' x'' y y' y'' : St} (h : Dk x x' y y') (h' : Dk x' x'' y' y'') : Dk x x'' y y'' :=
  ⟨fun k a b => (h'.1 k a b).trans (h.1 k a b), fun k a b d => (h'.2.1 k a b d).trans (h.2.1 k a b d), h'.2.2.1.trans h.2.2.1, fun k a b => (h'.2.2.2.1 k a b).trans (h.2.2.2.1 k a b), fun k a b => (h'.2.2.2.2.1 k a b).trans (h.2.2.2.2.1 k a b), h'.2.2.2.2.2.trans h.2.2.2.2.2⟩
/-- one chunk -/
theorem chunk_eq {c pw n : Nat} {pg : Int32} {x y : St} (h : Dr c pw x y) (hf : ∀ j, 3 ≤ j → j < 3 + n → x.2.1 3 j = y.2.1 26 j) :
    ((wc x pg n).1 = 0 → ∃ pw', pw' ≤ pw ∧ (sn y (nI c) pg n pw).1 = nI pw' ∧ Dr (c + 1) pw' (wc x pg n).2 (sn y (nI c) pg n pw).2) ∧ ((wc x pg n).1 ≠ 0 → (sn y (nI c) pg n pw).1 < 0 ∧ nI (wc x pg n).1 = -(sn y (nI c) pg n pw).1) ∧
    (wc x pg n).2.2.1 1 = (sn y (nI c) pg n pw).2.2.1 24 ∧ (∃ z, z < 2 ^ 31 ∧ (sn y (nI c) pg n pw).2.1 24 = nI z) ∧ Dk x (wc x pg n).2 y (sn y (nI c) pg n pw).2 := by
  obtain ⟨h1, h2, h3, ⟨s, s1, s2, s3⟩, h4, h5, h6, h7⟩ := h
  have n3 : na (x.1 3) = s := by rw [s2]; exact nI_clamp (by omega)
  have n4 : na (x.1 4) = pw := by rw [h4]; exact nI_clamp (by omega)
  have n25 : na (y.1 25) = s := by rw [s3]; exact nI_clamp (by omega)
  have hfr := frm_eq (nI c) pg n ((n + 11) / 8 * 8 - 1) (by omega) hf
  have hwl := wl_eq (y.2.1 25) (f := frm (x.2.1 3) (nI c) pg n ((n + 11) / 8 * 8 - 1)) (f' := frm (y.2.1 26) (nI c) pg n ((n + 11) / 8 * 8 - 1)) ((n + 11) / 8) 0 s pw (y.2.1 24) (fun j hj => hfr j (by omega))
  unfold wc sn
  rw [n3, n4, n25]
  unfold wch snd
  rw [h1, h2, h6]
  by_cases c0 : cg (y.2.1 25) (96 - s) s < (n + 11) / 8
  · rw [if_pos c0, if_pos c0]
    refine ⟨fun z => absurd (show (1 : Nat) = 0 from z) (by decide), fun _ => ⟨(by decide : (-1 : Int32) < 0), (by decide : nI 1 = -(-1 : Int32))⟩, h2, h7, fun _ _ _ => rfl, fun _ _ _ _ => rfl, rfl, fun k _ z => ?_, fun _ _ _ => rfl, rfl⟩
    show (uA y 26 _).2.1 k = _
    rw [pA, if_neg z]
  · rw [if_neg c0, if_neg c0]
    dsimp only
    rw [hwl]
    obtain ⟨i1, i2⟩ := wl_in (y.2.1 25) (frm (y.2.1 26) (nI c) pg n ((n + 11) / 8 * 8 - 1)) ((n + 11) / 8) 0 s pw (y.2.1 24) (by omega) s1
    have i3 := wl_02 (y.2.1 25) (frm (y.2.1 26) (nI c) pg n ((n + 11) / 8 * 8 - 1)) ((n + 11) / 8) 0 s pw (y.2.1 24)
    generalize wl (y.2.1 25) (frm (y.2.1 26) (nI c) pg n ((n + 11) / 8 * 8 - 1)) ((n + 11) / 8) 0 s pw (y.2.1 24) = r at i1 i2 i3 ⊢
    generalize frm (x.2.1 3) (nI c) pg n ((n + 11) / 8 * 8 - 1) = F
    generalize frm (y.2.1 26) (nI c) pg n ((n + 11) / 8 * 8 - 1) = F'
    have k1 : ∀ k, k ≠ 1 → k ≠ 3 → (wS (uA x 3 F) r.2.1 r.2.2.1 r.2.2.2).2.1 k = x.2.1 k := by
      intro k z1 z3
      unfold wS
      simp only [pA, pSa, if_neg z1, if_neg z3]
    have k2 : ∀ k, k ≠ 3 → k ≠ 4 → (wS (uA x 3 F) r.2.1 r.2.2.1 r.2.2.2).1 k = x.1 k := by
      intro k z3 z4
      unfold wS
      simp only [pS, pAs, if_neg z3, if_neg z4]
    have k3 : ∀ k, k ≠ 24 → k ≠ 26 → (mS y F' r.2.2.2 r.2.1).2.1 k = y.2.1 k := by
      intro k z1 z3
      unfold mS
      simp only [pA, pSa, if_neg z1, if_neg z3]
    have k4 : ∀ k, k ≠ 25 → (mS y F' r.2.2.2 r.2.1).1 k = y.1 k := by
      intro k z3
      unfold mS
      simp only [pS, pAs, if_neg z3]
    rcases i3 with i3 | i3
    · rw [i3, if_pos rfl, if_pos rfl]
      refine ⟨fun _ => ⟨r.2.2.1, i2, rfl, h1, rfl, h3, ⟨r.2.1, i1, rfl, rfl⟩, rfl, by omega, ?_, h7⟩, fun z => absurd rfl z, rfl, h7, fun k z1 z3 => k1 k z1 z3, fun k z3 z4 z5 => ?_, rfl, k3, fun k _ z => k4 k z, rfl⟩
      · show nI c + 1 = nI (c + 1)
        rw [show (1 : Int32) = nI 1 from rfl, nI_add]
      · show (uS (wS (uA x 3 F) r.2.1 r.2.2.1 r.2.2.2) 5 (nI c + 1)).1 k = _
        rw [pS, if_neg z5]
        exact k2 k z3 z4
    · rw [i3, if_neg (by decide), if_neg (by decide)]
      exact ⟨fun z => absurd z (by decide), fun _ => ⟨(by decide : (-2 : Int32) < 0), (by decide : nI 2 = -(-2 : Int32))⟩, rfl, h7, k1, fun k z3 z4 _ => k2 k z3 z4, rfl, k3, fun k _ z => k4 k z, rfl⟩
theorem Dr_chunk {c pw : Nat} {x y : St} {f : Nat → Int32} (h : Dr c pw x y) : Dr c pw (uA x 3 f) y := h
theorem Dr_size {c pw z : Nat} {x y : St} {f : Nat → Int32} (h : Dr c pw x y) (hz : z < 2 ^ 31) : Dr c pw x (uS (uA y 26 f) 24 (nI z)) := ⟨h.1, h.2.1, h.2.2.1, h.2.2.2.1, h.2.2.2.2.1, h.2.2.2.2.2.1, h.2.2.2.2.2.2.1, z, hz, rfl⟩
theorem Dk_pre {x y : St} {f f' : Nat → Int32} {z : Int32} : Dk x (uA x 3 f) y (uS (uA y 26 f') 24 z) :=
  ⟨fun k _ z3 => by rw [pA, if_neg z3], fun _ _ _ _ => rfl, rfl, fun k _ z => by show (uA y 26 f').2.1 k = _; rw [pA, if_neg z], fun k z _ => by rw [pS, if_neg z]; rfl, rfl⟩
theorem wal_eq : ∀ (n p lo c pw : Nat) (x y : St), p + n = 16 → lo + c = p → Dr c pw x y →
    nI (wal n p lo x).1 = (if (mda n p c pw y).1 < 0 then -(mda n p c pw y).1 else 0) ∧ (wal n p lo x).2.2.1 1 = (mda n p c pw y).2.2.1 24 ∧ (∃ z, z < 2 ^ 31 ∧ (mda n p c pw y).2.1 24 = nI z) ∧ Dk x (wal n p lo x).2 y (mda n p c pw y).2 := by
  intro n
  induction n with
  | zero =>
    intro p lo c pw x y hp hl h
    have e1 : wal 0 p lo x = wc (uA x 3 (upd (upd (x.2.1 3) 3 (x.1 5)) 4 (nI lo))) (-1) 2 := rfl
    have e2 : mda 0 p c pw y = sn (uS (uA y 26 (upd (upd (y.2.1 26) 3 (nI c)) 4 (nI (16 - c)))) 24 (nI 5)) (nI c) (-1) 2 pw := rfl
    rw [e1, e2]
    obtain ⟨q1, q2, q3, q4, q5⟩ := chunk_eq (n := 2) (pg := -1) (Dr_size (f := upd (upd (y.2.1 26) 3 (nI c)) 4 (nI (16 - c))) (z := 5) (Dr_chunk (f := upd (upd (x.2.1 3) 3 (x.1 5)) 4 (nI lo)) h) (by decide)) (fun j j1 j2 => by
      show upd (upd (x.2.1 3) 3 (x.1 5)) 4 (nI lo) j = upd (upd (y.2.1 26) 3 (nI c)) 4 (nI (16 - c)) j
      unfold upd
      by_cases d : j = 4
      · rw [if_pos d, if_pos d, show lo = 16 - c by omega]
      · rw [if_neg d, if_neg d, if_pos (by omega), if_pos (by omega)]
        exact h.2.2.2.2.2.2.1)
    refine ⟨?_, q3, q4, Dk_trans Dk_pre q5⟩
    by_cases c0 : (wc (uA x 3 (upd (upd (x.2.1 3) 3 (x.1 5)) 4 (nI lo))) (-1) 2).1 = 0
    · obtain ⟨pw', r1, r2, -⟩ := q1 c0
      have := h.2.2.2.2.2.1
      rw [c0, r2, if_neg (nI_nn (by omega))]
      rfl
    · obtain ⟨r1, r2⟩ := q2 c0
      rw [if_pos r1]
      exact r2
  | succ n ih =>
    intro p lo c pw x y hp hl h
    have e1 : wal (n + 1) p lo x = cond (sto (x.2.1 0) p) (if (wc (uA x 3 (pkg (x.2.1 0) (16 * p + 16) 16 (16 * p) 3 (x.2.1 3)).2) (nI p) ((pkg (x.2.1 0) (16 * p + 16) 16 (16 * p) 3 (x.2.1 3)).1 - 3)).1 = 0 then wal n (p + 1) lo (wc (uA x 3 (pkg (x.2.1 0) (16 * p + 16) 16 (16 * p) 3 (x.2.1 3)).2) (nI p) ((pkg (x.2.1 0) (16 * p + 16) 16 (16 * p) 3 (x.2.1 3)).1 - 3)).2 else wc (uA x 3 (pkg (x.2.1 0) (16 * p + 16) 16 (16 * p) 3 (x.2.1 3)).2) (nI p) ((pkg (x.2.1 0) (16 * p + 16) 16 (16 * p) 3 (x.2.1 3)).1 - 3)) (wal n (p + 1) (lo + 1) x) := rfl
    have e2 : mda (n + 1) p c pw y = cond (sto (y.2.1 20) p) (if (mps y c p pw).1 < 0 then mps y c p pw else mda n (p + 1) (c + 1) (na (mps y c p pw).1) (mps y c p pw).2) (mda n (p + 1) c pw y) := rfl
    rw [e1, e2, h.2.2.1]
    cases hst : sto (y.2.1 20) p with
    | false =>
      dsimp only [cond_false]
      exact ih (p + 1) (lo + 1) c pw x y (by omega) (by omega) h
    | true =>
      dsimp only [cond_true]
      have e3 : mps y c p pw = sn (uS (uA y 26 (pkg (y.2.1 20) (16 * p + 16) 16 (16 * p) 3 (y.2.1 26)).2) 24 (nI (pkg (y.2.1 20) (16 * p + 16) 16 (16 * p) 3 (y.2.1 26)).1)) (nI c) (nI p) ((pkg (y.2.1 20) (16 * p + 16) 16 (16 * p) 3 (y.2.1 26)).1 - 3) pw := rfl
      rw [e3]
      obtain ⟨p1, p2⟩ := pkg_eq (y.2.1 20) (16 * p + 16) 16 (16 * p) 3 (x.2.1 3) (y.2.1 26) (fun j j1 j2 => by omega)
      have p3 := pkg_le (y.2.1 20) (16 * p + 16) 16 (16 * p) 3 (y.2.1 26) (by omega)
      rw [p1] at p2 ⊢
      generalize (pkg (y.2.1 20) (16 * p + 16) 16 (16 * p) 3 (x.2.1 3)).2 = F at p2 ⊢
      generalize pkg (y.2.1 20) (16 * p + 16) 16 (16 * p) 3 (y.2.1 26) = P at p2 p3 ⊢
      obtain ⟨q1, q2, q3, q4, q5⟩ := chunk_eq (n := P.1 - 3) (pg := nI p) (Dr_size (f := P.2) (z := P.1) (Dr_chunk (f := F) h) (by omega)) (fun j j1 j2 => p2 j j1 (by omega))
      generalize wc (uA x 3 F) (nI p) (P.1 - 3) = X at q1 q2 q3 q5 ⊢
      generalize sn (uS (uA y 26 P.2) 24 (nI P.1)) (nI c) (nI p) (P.1 - 3) pw = Y at q1 q2 q3 q4 q5 ⊢
      by_cases c0 : X.1 = 0
      · obtain ⟨pw', r1, r2, r3⟩ := q1 c0
        have := h.2.2.2.2.2.1
        have ec : na (nI pw') = pw' := nI_clamp (by omega)
        rw [if_pos c0, r2, if_neg (nI_nn (by omega)), ec]
        obtain ⟨j1, j2, j3, j4⟩ := ih (p + 1) lo (c + 1) pw' X.2 Y.2 (by omega) (by omega) r3
        exact ⟨j1, j2, j3, Dk_trans (Dk_trans Dk_pre q5) j4⟩
      · obtain ⟨r1, r2⟩ := q2 c0
        rw [if_neg c0, if_pos r1, if_pos r1]
        exact ⟨r2, q3, q4, Dk_trans Dk_pre q5⟩
theorem z_DU {t : Nat} {u u1 : St} {p : Int32} (h : Inv t u) (e1 : u1.1 = (dDU u p).2.2.1) (e2 : u1.2.1 = (dDU u p).2.2.2.1) : (dDU u p).1 ≤ 2 ∧ (mDU u1 p).2.1 20 = nI (dDU u p).1 ∧ ((dDU u p).1 = 0 → (mDU u1 p).1 = (dDU u p).2.1) ∧ Inv (t + 1) (mDU u1 p).2 := by
  have hi : inn p 0 200 = bel p 201 := inn_bel (n := 201) (by decide) p
  unfold dDU at e1 e2 ⊢
  unfold mDU
  rw [hi]
  cases hb : bel p 201 with
  | false =>
    rw [hb] at e1 e2
    dsimp only [cond_false] at e1 e2 ⊢
    exact ⟨by decide, rfl, fun z => absurd z (by decide), Inv_thr h e1 e2⟩
  | true =>
    rw [hb] at e1 e2
    dsimp only [cond_true] at e1 e2 ⊢
    obtain ⟨b1, b2⟩ := bel_ix (n := 201) (by decide) hb
    cases hz : decide (u.1 0 = 0) with
    | true =>
      rw [hz] at e1 e2
      dsimp only [cond_true] at e1 e2 ⊢
      rw [if_pos (by rw [e1, ← h.1.1.1]; exact of_decide_eq_true hz)]
      exact ⟨by decide, rfl, fun z => absurd z (by decide), Inv_thr h e1 e2⟩
    | false =>
      rw [hz] at e1 e2
      dsimp only [cond_false] at e1 e2 ⊢
      obtain ⟨s1, s2, s3⟩ := h.2.1
      have hx : ∀ k, k ≠ 1 → (w0 u (na p)).2.1 k = u.2.1 k := by
        intro k z
        unfold w0
        simp only [pA, pSa, if_neg z]
      have hx1 : (w0 u (na p)).2.1 1 = ffl (u.2.1 1) 0 768 (-1) := rfl
      have hxs : ∀ k, k ≠ 3 → k ≠ 4 → k ≠ 5 → (w0 u (na p)).1 k = u.1 k := by
        intro k z3 z4 z5
        unfold w0
        simp only [pS, pAs, if_neg z3, if_neg z4, if_neg z5]
      have hx3 : (w0 u (na p)).1 3 = nI 0 := rfl
      have hx4 : (w0 u (na p)).1 4 = nI (na p) := rfl
      have hx5 : (w0 u (na p)).1 5 = nI 0 := rfl
      have hy : ∀ v : St, v.2.1 24 = u.2.1 24 → v.2.1 25 = u.2.1 25 → v.2.1 20 = u.2.1 20 → v.1 24 = u.1 24 → Dr 0 (na p) (w0 u (na p)) (mD0 v) := by
        intro v v1 v2 v3 v4
        refine ⟨?_, ?_, ?_, ⟨0, by decide, hx3, rfl⟩, hx4, by omega, hx5, na (u.1 24), ?_, ?_⟩
        · rw [hx 2 (by decide), s2, ← v2]
          rfl
        · rw [hx1, s1, ← v1]
          rfl
        · rw [hx 0 (by decide), h.1.2.1, ← v3]
          rfl
        · have := Int32.toInt_lt (u.1 24)
          unfold na Int32.toNatClampNeg
          omega
        · show v.1 24 = _
          rw [v4]
          exact s3
      obtain ⟨-, -, -, d1, d2, d3, -⟩ := wal_eq 16 0 0 0 (na p) (w0 u (na p)) (mD0 u) (by omega) (by omega) (hy u rfl rfl rfl rfl)
      have f1 : ∀ k, k ≠ 1 → k ≠ 3 → u1.2.1 k = u.2.1 k := fun k z1 z3 => by rw [e2, d1 k z1 z3]; exact hx k z1
      have f2 : ∀ k, k ≠ 3 → k ≠ 4 → k ≠ 5 → u1.1 k = u.1 k := fun k z3 z4 z5 => by rw [e1, d2 k z3 z4 z5]; exact hxs k z3 z4 z5
      obtain ⟨q1, q2, ⟨z, z1, z2⟩, -, -, -, d4, d5, d6⟩ := wal_eq 16 0 0 0 (na p) (w0 u (na p)) (mD0 u1) (by omega) (by omega) (hy u1 (f1 24 (by decide) (by decide)) (f1 25 (by decide) (by decide)) (f1 20 (by decide) (by decide)) (f2 24 (by decide) (by decide) (by decide)))
      rw [if_neg (by rw [f2 23 (by decide) (by decide) (by decide), ← h.1.1.1]; exact of_decide_eq_false hz)]
      rw [← e2] at q2
      generalize mda 16 0 0 (na p) (mD0 u1) = Y at *
      have g1 : ∀ k, k ≠ 1 → k ≠ 3 → k ≠ 24 → k ≠ 26 → Y.2.2.1 k = u.2.1 k := by
        intro k c1 c3 c24 c26
        rw [d4 k c24 c26]
        unfold mD0
        simp only [pA, pSa, if_neg c24]
        exact f1 k c1 c3
      have g2 : ∀ k, k ≠ 3 → k ≠ 4 → k ≠ 5 → k ≠ 20 → k ≠ 24 → k ≠ 25 → Y.2.1 k = u.1 k := by
        intro k c3 c4 c5 c20 c24 c25
        rw [d5 k c24 c25]
        unfold mD0
        simp only [pS, pAs, if_neg c20, if_neg c25]
        exact f2 k c3 c4 c5
      have y1 : Y.2.2.1 1 = u1.2.1 1 := by
        rw [d4 1 (by decide) (by decide)]
        rfl
      refine ⟨by decide, ?_, fun _ => q1.symm, I1_of h.1 (Nat.le_succ t) (g1 0 (by decide) (by decide) (by decide) (by decide)) (g1 20 (by decide) (by decide) (by decide) (by decide)) (g1 21 (by decide) (by decide) (by decide) (by decide)) (g1 22 (by decide) (by decide) (by decide) (by decide)) (g1 23 (by decide) (by decide) (by decide) (by decide)) (g2 0 (by decide) (by decide) (by decide) (by decide) (by decide) (by decide)) (g2 1 (by decide) (by decide) (by decide) (by decide) (by decide) (by decide)) (g2 2 (by decide) (by decide) (by decide) (by decide) (by decide) (by decide)) (g2 21 (by decide) (by decide) (by decide) (by decide) (by decide) (by decide)) (g2 22 (by decide) (by decide) (by decide) (by decide) (by decide) (by decide)) (g2 23 (by decide) (by decide) (by decide) (by decide) (by decide) (by decide)),
        ⟨?_, ?_, ?_⟩, I3_of h.2.2 (g1 5 (by decide) (by decide) (by decide) (by decide)) (g1 6 (by decide) (by decide) (by decide) (by decide)) (g1 7 (by decide) (by decide) (by decide) (by decide)) (g1 27 (by decide) (by decide) (by decide) (by decide)) (g1 28 (by decide) (by decide) (by decide) (by decide)) (g1 30 (by decide) (by decide) (by decide) (by decide)) (g2 8 (by decide) (by decide) (by decide) (by decide) (by decide) (by decide)) (g2 9 (by decide) (by decide) (by decide) (by decide) (by decide) (by decide)) (g2 10 (by decide) (by decide) (by decide) (by decide) (by decide) (by decide)) (g2 11 (by decide) (by decide) (by decide) (by decide) (by decide) (by decide)) (g2 26 (by decide) (by decide) (by decide) (by decide) (by decide) (by decide)) (g2 27 (by decide) (by decide) (by decide) (by decide) (by decide) (by decide)) (g2 28 (by decide) (by decide) (by decide) (by decide) (by decide) (by decide)) (g2 29 (by decide) (by decide) (by decide) (by decide) (by decide) (by decide)) (g2 30 (by decide) (by decide) (by decide) (by decide) (by decide) (by decide))⟩
      · show Y.2.1 20 = nI 0
        rw [d5 20 (by decide) (by decide)]
        rfl
      · show Y.2.2.1 1 = Y.2.2.1 24
        rw [y1, q2]
      · show Y.2.2.1 2 = Y.2.2.1 25
        rw [g1 2 (by decide) (by decide) (by decide) (by decide), g1 25 (by decide) (by decide) (by decide) (by decide), s2]
      · show Y.2.1 24 = nI (na (Y.2.1 24))
        rw [z2]
        exact congrArg nI (nI_clamp z1).symm
