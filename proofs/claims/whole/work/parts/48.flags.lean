/-! the page map; places: class and reference find the same -/
def updN (g : Nat → Nat) (p f : Nat) : Nat → Nat := fun j => if j = p then f else g j
def FG (w : Nat → Int32) (g : Nat → Nat) : Prop := (∀ p, g p ≤ 3) ∧ ∀ k, k < 8 → w (8 + k) = nI (g (2 * k) + 256 * g (2 * k + 1))
theorem fl_bits : ∀ a : Fin 4, ∀ b : Fin 4, ((nI (a.val + 256 * b.val)).toUInt32 >>> ((nI 0).toUInt32 &&& Int32.toUInt32 31)).toInt32 &&& 255 = nI a.val ∧ ((nI (a.val + 256 * b.val)).toUInt32 >>> ((nI 8).toUInt32 &&& Int32.toUInt32 31)).toInt32 &&& 255 = nI b.val := by decide +kernel
theorem st_bits : ∀ a : Fin 4, ∀ b : Fin 4, ∀ f : Fin 4, (nI (a.val + 256 * b.val) &&& (((255 : Int32) <<< (nI 0 &&& 31)) ^^^ (-1))) ||| (nI f.val <<< (nI 0 &&& 31)) = nI (f.val + 256 * b.val) ∧ (nI (a.val + 256 * b.val) &&& (((255 : Int32) <<< (nI 8 &&& 31)) ^^^ (-1))) ||| (nI f.val <<< (nI 8 &&& 31)) = nI (a.val + 256 * f.val) := by decide +kernel
theorem mf_bits : ∀ a : Fin 4, ∀ b : Fin 4, nI a.val + 256 * nI b.val = nI (a.val + 256 * b.val) := by decide +kernel
theorem fl_b {a b : Nat} (ha : a ≤ 3) (hb : b ≤ 3) : ((nI (a + 256 * b)).toUInt32 >>> ((nI 0).toUInt32 &&& Int32.toUInt32 31)).toInt32 &&& 255 = nI a ∧ ((nI (a + 256 * b)).toUInt32 >>> ((nI 8).toUInt32 &&& Int32.toUInt32 31)).toInt32 &&& 255 = nI b := fl_bits ⟨a, by omega⟩ ⟨b, by omega⟩
theorem st_b {a b f : Nat} (ha : a ≤ 3) (hb : b ≤ 3) (hf : f ≤ 3) : (nI (a + 256 * b) &&& (((255 : Int32) <<< (nI 0 &&& 31)) ^^^ (-1))) ||| (nI f <<< (nI 0 &&& 31)) = nI (f + 256 * b) ∧ (nI (a + 256 * b) &&& (((255 : Int32) <<< (nI 8 &&& 31)) ^^^ (-1))) ||| (nI f <<< (nI 8 &&& 31)) = nI (a + 256 * f) := st_bits ⟨a, by omega⟩ ⟨b, by omega⟩ ⟨f, by omega⟩
theorem mf_b {a b : Nat} (ha : a ≤ 3) (hb : b ≤ 3) : nI a + 256 * nI b = nI (a + 256 * b) := mf_bits ⟨a, by omega⟩ ⟨b, by omega⟩
theorem fl_eq {w : Nat → Int32} {g : Nat → Nat} (h : FG w g) {p : Nat} (hp : p < 16) : fl w p = nI (g p) := by
  have h1 := h.2 (p / 2) (by omega)
  have g1 := h.1 (2 * (p / 2))
  have g2 := h.1 (2 * (p / 2) + 1)
  have b := fl_b g1 g2
  unfold fl
  rw [h1]
  rcases Nat.mod_two_eq_zero_or_one p with e | e
  · rw [e]
    have : 2 * (p / 2) = p := by omega
    rw [this] at b ⊢
    exact b.1
  · rw [e]
    have : 2 * (p / 2) + 1 = p := by omega
    rw [this] at b ⊢
    exact b.2
theorem st_eq {w : Nat → Int32} {g : Nat → Nat} (h : FG w g) {p f : Nat} (hp : p < 16) (hf : f ≤ 3) : stF w p (nI f) = mfl w p (nI f) ∧ FG (stF w p (nI f)) (updN g p f) := by
  have h1 := h.2 (p / 2) (by omega)
  have g1 := h.1 (2 * (p / 2))
  have g2 := h.1 (2 * (p / 2) + 1)
  have b := st_b g1 g2 hf
  have key : stF w p (nI f) = upd w (8 + p / 2) (nI (updN g p f (2 * (p / 2)) + 256 * updN g p f (2 * (p / 2) + 1))) := by
    unfold stF
    rw [h1]
    rcases Nat.mod_two_eq_zero_or_one p with e | e
    · have e1 : 2 * (p / 2) = p := by omega
      rw [e]
      rw [e1] at b ⊢
      unfold updN
      rw [if_pos rfl, if_neg (by omega)]
      exact congrArg _ b.1
    · have e1 : 2 * (p / 2) + 1 = p := by omega
      rw [e]
      unfold updN
      rw [if_neg (by omega), e1, if_pos rfl]
      rw [e1] at b
      exact congrArg _ b.2
  refine ⟨?_, fun q => ?_, fun k hk => ?_⟩
  · rw [key]
    unfold mfl
    rcases Nat.mod_two_eq_zero_or_one p with e | e
    · have e1 : 2 * (p / 2) = p := by omega
      have g3 := h.1 (p + 1)
      rw [if_pos e, fl_eq h (by omega), e1]
      unfold updN
      rw [if_pos rfl, if_neg (by omega)]
      exact congrArg _ (mf_b hf g3).symm
    · have e1 : 2 * (p / 2) + 1 = p := by omega
      have e2 : 2 * (p / 2) = p - 1 := by omega
      have g3 := h.1 (p - 1)
      rw [if_neg (by omega), fl_eq h (by omega), e1, e2]
      unfold updN
      rw [if_neg (by omega), if_pos rfl]
      exact congrArg _ (mf_b g3 hf).symm
  · unfold updN
    split
    · exact hf
    · exact h.1 q
  · rw [key]
    unfold upd
    by_cases e : k = p / 2
    · rw [if_pos (by omega), e]
    · rw [if_neg (by omega), h.2 k hk]
      unfold updN
      rw [if_neg (by omega), if_neg (by omega)]
theorem fFree_snoc (w : Nat → Int32) : ∀ n p, 1 ≤ p → fFree w (n + 1) p = if fFree w n p ≠ 0 then fFree w n p else if fl w (p + n) = 0 then p + n else 0 := by
  intro n
  induction n with
  | zero =>
    intro p hp
    show (if fl w p = 0 then p else 0) = (if (0 : Nat) ≠ 0 then 0 else if fl w (p + 0) = 0 then p + 0 else 0)
    rw [if_neg (by omega : ¬ (0 : Nat) ≠ 0)]
    rfl
  | succ n ih =>
    intro p hp
    show (if fl w p = 0 then p else fFree w (n + 1) (p + 1)) = (if (if fl w p = 0 then p else fFree w n (p + 1)) ≠ 0 then (if fl w p = 0 then p else fFree w n (p + 1)) else _)
    by_cases h : fl w p = 0
    · rw [if_pos h, if_pos h, if_pos (by omega)]
    · rw [if_neg h, if_neg h, ih (p + 1) (by omega), show p + 1 + n = p + (n + 1) by omega]
theorem mlf_eq (w : Nat → Int32) : ∀ n fd, mlf w n fd = if fFree w n 1 = 0 then fd else nI (fFree w n 1) := by
  intro n
  induction n with
  | zero => intro fd; rfl
  | succ n ih =>
    intro fd
    show mlf w n (if fl w (n + 1) = 0 then nI (n + 1) else fd) = _
    rw [ih, fFree_snoc w n 1 (by omega), show 1 + n = n + 1 by omega]
    by_cases h : fFree w n 1 = 0
    · rw [if_pos h, if_neg (fun z => z h : ¬ fFree w n 1 ≠ 0)]
      by_cases h2 : fl w (n + 1) = 0
      · rw [if_pos h2, if_pos h2, if_neg (by omega : ¬ n + 1 = 0)]
      · rw [if_neg h2, if_neg h2, if_pos rfl]
    · rw [if_neg h, if_pos h, if_neg h]
theorem nI_nn {n : Nat} (h : n < 2 ^ 31) : ¬ nI n < 0 := by
  rw [Int32.lt_iff_toInt_lt, nI_toInt h]
  show ¬ (n : Int) < 0
  omega
theorem mlow (w : Nat → Int32) : mlf w 14 (-1) = (if lowF w = 0 then -1 else nI (lowF w)) ∧ (mlf w 14 (-1) < 0 ↔ lowF w = 0) := by
  have h := mlf_eq w 14 (-1)
  refine ⟨h, ?_⟩
  rw [h]
  show (if lowF w = 0 then (-1 : Int32) else nI (lowF w)) < 0 ↔ _
  by_cases e : lowF w = 0
  · rw [if_pos e]
    exact ⟨fun _ => e, fun _ => by decide⟩
  · rw [if_neg e]
    exact ⟨fun z => absurd z (nI_nn (by have := lowF_lt w; omega)), fun z => absurd z e⟩
theorem mF_eq {w tk : Nat → Int32} : ∀ n a, 16 ≤ a → (∀ k, k < n → fl w ((a + 4 * k) / 16) = 1 → (tk (a + 4 * k) = 0 ↔ w (a + 4 * k) = 0)) → mF w tk n a = if fPl w n a = 0 then -1 else nI (fPl w n a) := by
  intro n
  induction n with
  | zero => intro a _ _; rfl
  | succ n ih =>
    intro a ha h
    show (if fl w (a / 16) = 1 ∧ tk a = 0 then nI a else mF w tk n (a + 4)) = (if (if w a = 0 ∧ fl w (a / 16) = 1 then a else fPl w n (a + 4)) = 0 then -1 else nI (if w a = 0 ∧ fl w (a / 16) = 1 then a else fPl w n (a + 4)))
    have h0 := h 0 (by omega)
    rw [show a + 4 * 0 = a by omega] at h0
    by_cases c : w a = 0 ∧ fl w (a / 16) = 1
    · rw [if_pos c, if_pos ⟨c.2, (h0 c.2).mpr c.1⟩, if_neg (by omega)]
    · rw [if_neg c, if_neg (fun z => c ⟨(h0 z.1).mp z.2, z.1⟩)]
      exact ih (a + 4) (by omega) (fun k hk => by
        have := h (k + 1) (by omega)
        rw [show a + 4 * (k + 1) = a + 4 + 4 * k by omega] at this
        exact this)
/-- class and reference take the same place -/
theorem mpl_eq {w tk : Nat → Int32} {g : Nat → Nat} (h : FG w g) (ht : ∀ a, 16 ≤ a → a ≤ 236 → a % 4 = 0 → g (a / 16) = 1 → (tk a = 0 ↔ w a = 0)) : mpl w tk = (if (tkP w).1 = 0 then -1 else nI (tkP w).1, (tkP w).2) := by
  have h1 := mF_eq (w := w) (tk := tk) 56 16 (by omega) (fun k hk hf => ht _ (by omega) (by omega) (by omega) (by
    rw [fl_eq h (by omega)] at hf
    have := h.1 ((16 + 4 * k) / 16)
    exact (nI_eq (b := 1) (by omega) (by decide)).mp hf))
  obtain ⟨h2, h3⟩ := mlow w
  have hf56 : fPl w 56 16 < 2 ^ 31 := by
    have := tkP_lt w
    unfold tkP at this
    split at this
    · have : fPl w 56 16 < 253 := this
      omega
    · omega
  unfold mpl tkP
  rw [h1]
  by_cases e : fPl w 56 16 = 0
  · rw [if_pos e, if_pos (by decide : (-1 : Int32) < 0), if_neg (fun z => z e : ¬ fPl w 56 16 ≠ 0)]
    by_cases e2 : lowF w = 0
    · rw [if_pos (h3.mpr e2), if_pos e2]
      rfl
    · rw [if_neg (fun z => e2 (h3.mp z)), if_neg e2, h2, if_neg e2]
      have hl := lowF_lt w
      have e3 : na (nI (lowF w)) = lowF w := nI_clamp (by omega)
      rw [e3]
      have e4 : (1 : Int32) = nI 1 := rfl
      refine Prod.ext ?_ ?_
      · show nI (16 * lowF w) = if 16 * lowF w = 0 then -1 else nI (16 * lowF w)
        rw [if_neg (by omega)]
      · show mZ w (lowF w) = ffl (stF w (lowF w) 1) (16 * lowF w) (16 * lowF w + 16) 0
        unfold mZ
        rw [e4, (st_eq h (by omega) (by omega)).1]
  · rw [if_neg e, if_neg (nI_nn hf56), if_pos e]
    refine Prod.ext ?_ rfl
    show nI (fPl w 56 16) = if fPl w 56 16 = 0 then -1 else nI (fPl w 56 16)
    rw [if_neg e]
theorem fPl_ok {w : Nat → Int32} : ∀ n a, 16 ≤ a → a % 4 = 0 → fPl w n a ≠ 0 → ∃ b, fPl w n a = b ∧ a ≤ b ∧ b < a + 4 * n ∧ b % 4 = 0 ∧ w b = 0 ∧ fl w (b / 16) = 1 := by
  intro n
  induction n with
  | zero => intro a _ _ h; exact absurd rfl h
  | succ n ih =>
    intro a ha h4 h
    have e : fPl w (n + 1) a = if w a = 0 ∧ fl w (a / 16) = 1 then a else fPl w n (a + 4) := rfl
    rw [e] at h ⊢
    by_cases c : w a = 0 ∧ fl w (a / 16) = 1
    · rw [if_pos c]
      exact ⟨a, rfl, Nat.le_refl _, by omega, h4, c.1, c.2⟩
    · rw [if_neg c] at h ⊢
      obtain ⟨b, q1, q2, q3, q4, q5, q6⟩ := ih (a + 4) (by omega) (by omega) h
      exact ⟨b, q1, by omega, by omega, q4, q5, q6⟩
theorem fFree_ok {w : Nat → Int32} : ∀ n p, 1 ≤ p → fFree w n p ≠ 0 → fl w (fFree w n p) = 0 ∧ p ≤ fFree w n p ∧ fFree w n p < p + n := by
  intro n
  induction n with
  | zero => intro p _ h; exact absurd rfl h
  | succ n ih =>
    intro p hp h
    have e : fFree w (n + 1) p = if fl w p = 0 then p else fFree w n (p + 1) := rfl
    rw [e] at h ⊢
    by_cases c : fl w p = 0
    · rw [if_pos c]
      exact ⟨c, Nat.le_refl _, by omega⟩
    · rw [if_neg c] at h ⊢
      obtain ⟨q1, q2, q3⟩ := ih (p + 1) (by omega) h
      exact ⟨q1, by omega, by omega⟩
/-- what is known of a place that was taken: g' the map behind it -/
theorem tkP_ok {w : Nat → Int32} {g : Nat → Nat} (h : FG w g) (hn : (tkP w).1 ≠ 0) : (16 ≤ (tkP w).1 ∧ (tkP w).1 ≤ 236 ∧ (tkP w).1 % 4 = 0) ∧ (tkP w).2 (tkP w).1 = 0 ∧ ∃ g', FG (tkP w).2 g' ∧ g' ((tkP w).1 / 16) = 1 ∧ (∀ p, p < 16 → g p = 1 → g' p = 1) ∧
    (∀ p, p < 16 → g' p = 1 → g p ≠ 1 → ∀ j, 16 * p ≤ j → j < 16 * p + 16 → (tkP w).2 j = 0) ∧ (∀ j, (j < 8 ∨ 16 ≤ j) → (j < 16 ∨ g (j / 16) = 1 ∨ 240 ≤ j) → (tkP w).2 j = w j) := by
  unfold tkP at hn ⊢
  by_cases e : fPl w 56 16 ≠ 0
  · rw [if_pos e]
    obtain ⟨b, q1, q2, q3, q4, q5, q6⟩ := fPl_ok 56 16 (by omega) (by omega) e
    refine ⟨⟨by rw [q1]; omega, by rw [q1]; omega, by rw [q1]; exact q4⟩, by rw [q1]; exact q5, g, h, ?_, fun p _ z => z, fun p _ z1 z2 => absurd z1 z2, fun j _ _ => rfl⟩
    rw [q1]
    show g (b / 16) = 1
    rw [fl_eq h (by omega)] at q6
    have := h.1 (b / 16)
    exact (nI_eq (b := 1) (by omega) (by decide)).mp q6
  · rw [if_neg e] at hn ⊢
    by_cases e2 : lowF w = 0
    · rw [if_pos e2] at hn
      exact absurd rfl hn
    · rw [if_neg e2]
      obtain ⟨q1, q2, q3⟩ := fFree_ok (w := w) 14 1 (by omega) e2
      have q3' : lowF w < 15 := lowF_lt w
      have q2' : 1 ≤ lowF w := q2
      have hs := st_eq h (p := lowF w) (f := 1) (by omega) (by omega)
      have e4 : nI 1 = (1 : Int32) := rfl
      rw [e4] at hs
      have q1' : fl w (lowF w) = 0 := q1
      have hg0 : g (lowF w) = 0 := by
        rw [fl_eq h (by omega)] at q1'
        have := h.1 (lowF w)
        exact (nI_eq (b := 0) (by omega) (by decide)).mp q1'
      refine ⟨⟨by show 16 ≤ 16 * lowF w; omega, by show 16 * lowF w ≤ 236; omega, by show 16 * lowF w % 4 = 0; omega⟩, ?_, updN g (lowF w) 1, ?_, ?_, ?_, ?_, ?_⟩
      · show ffl (stF w (lowF w) 1) (16 * lowF w) (16 * lowF w + 16) 0 (16 * lowF w) = 0
        unfold ffl
        rw [if_pos (by omega)]
      · refine ⟨hs.2.1, fun k hk => ?_⟩
        show ffl (stF w (lowF w) 1) (16 * lowF w) (16 * lowF w + 16) 0 (8 + k) = _
        unfold ffl
        rw [if_neg (by omega)]
        exact hs.2.2 k hk
      · show updN g (lowF w) 1 (16 * lowF w / 16) = 1
        unfold updN
        rw [if_pos (by omega)]
      · intro p hp z
        unfold updN
        split
        · rfl
        · exact z
      · intro p hp z1 z2 j j1 j2
        have : p = lowF w := by
          unfold updN at z1
          by_cases c : p = lowF w
          · exact c
          · rw [if_neg c] at z1
            exact absurd z1 z2
        subst this
        show ffl (stF w (lowF w) 1) (16 * lowF w) (16 * lowF w + 16) 0 j = 0
        unfold ffl
        rw [if_pos ⟨j1, j2⟩]
      · intro j j1 j2
        show ffl (stF w (lowF w) 1) (16 * lowF w) (16 * lowF w + 16) 0 j = w j
        have hnr : ¬ (16 * lowF w ≤ j ∧ j < 16 * lowF w + 16) := by
          rintro ⟨z1, z2⟩
          have : j / 16 = lowF w := by omega
          rcases j2 with c | c | c
          · omega
          · rw [this, hg0] at c; omega
          · omega
        unfold ffl stF upd
        rw [if_neg hnr, if_neg (by omega)]
