/-! a node comes into a list, goes out of it: class and reference leave the same memory -/
theorem Lk_ins {w w' : Nat → Int32} {a : Nat} : ∀ {A : List Nat} {s : Nat} {B : List Nat}, Lk w s (A ++ B) → (∀ j ∈ sl s (A ++ B), j ≠ esl s A → w' j = w j) → w' (esl s A) = nI a → w' (a + 1) = w (esl s A) → (sl s (A ++ B)).Nodup → Lk w' s (A ++ a :: B) := by
  intro A
  induction A with
  | nil =>
    intro s B h h1 h2 h3 h4
    refine ⟨h2, ?_⟩
    cases B with
    | nil => exact h3.trans h
    | cons b B =>
      have h4' : (s :: sl (b + 1) B).Nodup := h4
      rw [List.nodup_cons] at h4'
      exact ⟨h3.trans h.1, Lk_congr (fun j hj => h1 j (List.mem_cons_of_mem _ hj) (fun e => h4'.1 (by rw [e] at hj; exact hj))) h.2⟩
  | cons c A ih =>
    intro s B h h1 h2 h3 h4
    have h4' : (s :: sl (c + 1) (A ++ B)).Nodup := h4
    rw [List.nodup_cons] at h4'
    have he : esl (c + 1) A ∈ sl (c + 1) (A ++ B) := by
      rw [sl_app]
      exact Or.inr (by rw [sl_mem]; exact Or.inl rfl)
    refine ⟨(h1 s List.mem_cons_self (fun e => h4'.1 (by rw [e]; exact he))).trans h.1, ih h.2 (fun j hj hne => h1 j (List.mem_cons_of_mem _ hj) hne) h2 h3 h4'.2⟩
theorem Lk_rem {w w' : Nat → Int32} {a : Nat} : ∀ {A : List Nat} {s : Nat} {B : List Nat}, Lk w s (A ++ a :: B) → (∀ j ∈ sl s (A ++ a :: B), j ≠ esl s A → j ≠ a + 1 → w' j = w j) → w' (esl s A) = w (a + 1) → (sl s (A ++ a :: B)).Nodup → Lk w' s (A ++ B) := by
  intro A
  induction A with
  | nil =>
    intro s B h h1 h2 h4
    have h4' : (s :: sl (a + 1) B).Nodup := h4
    rw [List.nodup_cons] at h4'
    cases B with
    | nil => exact h2.trans h.2
    | cons b B =>
      have h5 : ((a + 1) :: sl (b + 1) B).Nodup := h4'.2
      rw [List.nodup_cons] at h5
      refine ⟨h2.trans h.2.1, Lk_congr (fun j hj => h1 j (List.mem_cons_of_mem _ (List.mem_cons_of_mem _ hj)) (fun e => h4'.1 (List.mem_cons_of_mem _ (by rw [e] at hj; exact hj))) (fun e => h5.1 (by rw [e] at hj; exact hj))) h.2.2⟩
  | cons c A ih =>
    intro s B h h1 h2 h4
    have h4' : (s :: sl (c + 1) (A ++ a :: B)).Nodup := h4
    rw [List.nodup_cons] at h4'
    have he : esl (c + 1) A ∈ sl (c + 1) (A ++ a :: B) := by
      rw [sl_app]
      exact Or.inr (by rw [sl_mem]; exact Or.inl rfl)
    have ha : a + 1 ∈ sl (c + 1) (A ++ a :: B) := by
      rw [sl_mem]
      exact Or.inr ⟨a, by simp, rfl⟩
    refine ⟨(h1 s List.mem_cons_self (fun e => h4'.1 (by rw [e]; exact he)) (fun e => h4'.1 (by rw [e]; exact ha))).trans h.1, ih h.2 (fun j hj hne => h1 j (List.mem_cons_of_mem _ hj) hne) h2 h4'.2⟩
/-- a slot that lies in no node of L but its own link word -/
def Sd (s : Nat) (L : List Nat) : Prop := ∀ b ∈ L, s < b ∨ b + 4 ≤ s
theorem Sd_head {s : Nat} {L : List Nat} (hs : s < 16) (h : ∀ a ∈ L, 16 ≤ a ∧ a ≤ 236 ∧ a % 4 = 0) : Sd s L := fun b hb => Or.inl (by have := h b hb; omega)
theorem Sd_next {a : Nat} {L : List Nat} (ha : 16 ≤ a ∧ a ≤ 236 ∧ a % 4 = 0) (h : ∀ a ∈ L, 16 ≤ a ∧ a ≤ 236 ∧ a % 4 = 0) (hn : a ∉ L) : Sd (a + 1) L := fun b hb => by
  have h1 := h b hb
  have h2 : a ≠ b := fun e => hn (by rw [e]; exact hb)
  omega
theorem Sd_nodup {s : Nat} {L : List Nat} (h : Sd s L) (hL : L.Nodup) : (sl s L).Nodup := sl_nodup hL (fun a ha => by have := h a ha; omega)
theorem Sd_esl {s : Nat} {A L : List Nat} (hs : Sd s L) (hA : ∀ a ∈ A, a ∉ L) (hp : ∀ a ∈ A, 16 ≤ a ∧ a ≤ 236 ∧ a % 4 = 0) (hL : ∀ a ∈ L, 16 ≤ a ∧ a ≤ 236 ∧ a % 4 = 0) : Sd (esl s A) L := by
  rcases esl_mem A s with ⟨h1, -⟩ | ⟨a, ha, h1⟩
  · rw [h1]; exact hs
  · rw [h1]; exact Sd_next (hp a ha) hL (hA a ha)
theorem wrt_at (w : Nat → Int32) (p : Nat) (t x y : Int32) (j : Nat) : wrt w p t x y j = if j = p + 3 then y else if j = p + 2 then x else if j = p + 1 then 0 else if j = p then t else w j := by
  unfold wrt upd
  rfl
theorem insN_at (w : Nat → Int32) (s p : Nat) (t x y : Int32) (hs : s ≠ p) (j : Nat) : insN w s p t x y j = if j = s then nI p else if j = p + 3 then y else if j = p + 2 then x else if j = p + 1 then w s else if j = p then t else w j := by
  unfold insN upd
  rw [if_neg hs]
theorem ins_eq {w : Nat → Int32} {s a : Nat} {A B : List Nat} {t x y : Int32} (h : Lk w s (A ++ B)) (hL : Pl (A ++ B)) (hs : Sd s (a :: (A ++ B))) (ha : 16 ≤ a ∧ a ≤ 236 ∧ a % 4 = 0) (hn : a ∉ A ++ B) :
    chn (A ++ a :: B) s (wrt w a t x y) = insN w (esl s A) a t x y ∧ Lk (insN w (esl s A) a t x y) s (A ++ a :: B) := by
  have hsd : Sd s (A ++ B) := fun b hb => hs b (List.mem_cons_of_mem _ hb)
  have hea : esl s A < a ∨ a + 4 ≤ esl s A := by
    rcases esl_mem A s with ⟨h1, -⟩ | ⟨c, hc, h1⟩
    · rw [h1]; exact hs a List.mem_cons_self
    · have h2 := hL.2 c (List.mem_append_left _ hc)
      have h3 : c ≠ a := fun e => hn (by rw [← e]; exact List.mem_append_left _ hc)
      omega
  have hat := insN_at w (esl s A) a t x y (by omega)
  have hLk : Lk (insN w (esl s A) a t x y) s (A ++ a :: B) := by
    refine Lk_ins h (fun j hj hne => ?_) (by rw [hat, if_pos rfl]) (by rw [hat, if_neg (by omega), if_neg (by omega), if_neg (by omega), if_pos rfl]) (Sd_nodup hsd hL.1)
    have hj2 : j < a ∨ a + 4 ≤ j := by
      rw [sl_mem] at hj
      rcases hj with rfl | ⟨c, hc, rfl⟩
      · exact hs a List.mem_cons_self
      · have h2 := hL.2 c hc
        have h3 : c ≠ a := fun e => hn (by rw [← e]; exact hc)
        omega
    rw [hat, if_neg hne, if_neg (by omega), if_neg (by omega), if_neg (by omega), if_neg (by omega)]
  refine ⟨chn_eq _ _ _ _ hLk (fun j hj => ?_), hLk⟩
  have h1 : j ≠ esl s A := fun e => hj (by rw [sl_app, e]; exact Or.inr List.mem_cons_self)
  have h2 : j ≠ a + 1 := fun e => hj (by rw [sl_mem]; exact Or.inr ⟨a, by simp, e⟩)
  rw [hat, wrt_at, if_neg h1]
  simp only [if_neg h2]
theorem Rl_refl {w : Nat → Int32} {s : Nat} {L : List Nat} (h : Lk w s L) : Rl w w s L [] := ⟨h, fun j _ => by unfold zer; rw [if_neg (by simp)]⟩
theorem zer_cons (w : Nat → Int32) (a : Nat) (R : List Nat) (j : Nat) : zer w (a :: R) j = if a ≤ j ∧ j < a + 4 then 0 else zer w R j := by
  unfold zer
  by_cases h : a ≤ j ∧ j < a + 4
  · rw [if_pos h, if_pos ⟨a, List.mem_cons_self, h⟩]
  · rw [if_neg h]
    have : (∃ b ∈ a :: R, b ≤ j ∧ j < b + 4) ↔ (∃ b ∈ R, b ≤ j ∧ j < b + 4) := by
      constructor
      · rintro ⟨b, hb, q⟩
        rcases List.mem_cons.mp hb with rfl | hb
        · exact absurd q h
        · exact ⟨b, hb, q⟩
      · rintro ⟨b, hb, q⟩
        exact ⟨b, List.mem_cons_of_mem _ hb, q⟩
    simp only [this]
/-- the reference drops a node -/
theorem Rl_drop {w m : Nat → Int32} {s a : Nat} {A B R : List Nat} (h : Rl w m s (A ++ a :: B) R) (hn : (sl s (A ++ B)).Nodup) : Rl w (chn (A ++ B) s (wrt m a 0 0 0)) s (A ++ B) (a :: R) := by
  refine ⟨chn_Lk _ _ _ hn, fun j hj => ?_⟩
  rw [chn_off _ _ _ _ hj, wrt_at, zer_cons]
  by_cases h1 : a ≤ j ∧ j < a + 4
  · rw [if_pos h1]
    by_cases e3 : j = a + 3
    · rw [if_pos e3]
    · rw [if_neg e3]
      by_cases e2 : j = a + 2
      · rw [if_pos e2]
      · rw [if_neg e2]
        by_cases e1 : j = a + 1
        · rw [if_pos e1]
        · rw [if_neg e1, if_pos (by omega)]
  · rw [if_neg h1, if_neg (by omega), if_neg (by omega), if_neg (by omega), if_neg (by omega)]
    refine h.2 j (fun hj2 => hj ?_)
    rw [sl_mem] at hj2 ⊢
    rcases hj2 with e | ⟨b, hb, e⟩
    · exact Or.inl e
    · refine Or.inr ⟨b, ?_, e⟩
      rcases List.mem_append.mp hb with hb | hb
      · exact List.mem_append_left _ hb
      · rcases List.mem_cons.mp hb with rfl | hb
        · omega
        · exact List.mem_append_right _ hb
theorem remN_at {w : Nat → Int32} {s a : Nat} (h : w s = nI a) (ha : 16 ≤ a ∧ a ≤ 236 ∧ a % 4 = 0) (j : Nat) : remN w s j = if a ≤ j ∧ j < a + 4 then 0 else if j = s then w (a + 1) else w j := by
  obtain ⟨p1, p2⟩ := Pl_pl ha
  unfold remN
  rw [h, p1, p2, cond_true]
  unfold ffl upd
  rfl
/-- the class drops a node -/
theorem Rl_rem {w : Nat → Int32} {s a : Nat} {A B : List Nat} (h : Lk w s (A ++ a :: B)) (hL : Pl (A ++ a :: B)) (hs : Sd s (A ++ a :: B)) : Rl w (remN w (esl s A)) s (A ++ B) [a] := by
  have ha := hL.2 a (by simp)
  have he : w (esl s A) = nI a := (Lk_app h).1
  have hat := remN_at he ha
  have hnd := Sd_nodup hs hL.1
  have hna : a ∉ A ++ B := by
    have h9 := hL.1
    have := (List.perm_middle (a := a) (l₁ := A) (l₂ := B)).nodup_iff.mp h9
    exact (List.nodup_cons.mp this).1
  have hea : esl s A < a ∨ a + 4 ≤ esl s A := by
    rcases esl_mem A s with ⟨h1, -⟩ | ⟨c, hc, h1⟩
    · rw [h1]; exact hs a (by simp)
    · have h2 := hL.2 c (List.mem_append_left _ hc)
      have h3 : c ≠ a := fun e => hna (by rw [← e]; exact List.mem_append_left _ hc)
      omega
  refine ⟨Lk_rem h (fun j hj h1 h2 => ?_) (by rw [hat, if_neg (by omega), if_pos rfl]) hnd, fun j hj => ?_⟩
  · have hj2 : ¬ (a ≤ j ∧ j < a + 4) := by
      rw [sl_mem] at hj
      rcases hj with rfl | ⟨c, hc, rfl⟩
      · have := hs a (by simp); omega
      · have h3 := hL.2 c hc
        omega
    rw [hat, if_neg hj2, if_neg h1]
  · have h1 : j ≠ esl s A := fun e => hj (by rw [sl_app, e]; exact Or.inr (by rw [sl_mem]; exact Or.inl rfl))
    rw [hat, zer_cons, if_neg h1]
    unfold zer
    rw [if_neg (by simp : ¬ ∃ b ∈ ([] : List Nat), b ≤ j ∧ j < b + 4)]
def kp (w : Nat → Int32) (t : Int32) (b : Nat) : Bool := decide (w (b + 2) ≠ t)
theorem Rl_frw {t : Int32} : ∀ (L : List Nat) (n s : Nat) (w : Nat → Int32), L.length ≤ n → Lk w s L → Pl L → Sd s L → Rl w (fRW t n s w) s (L.filter (kp w t)) (L.filter (fun b => !kp w t b)) := by
  intro L
  induction L with
  | nil =>
    intro n s w _ h _ _
    have h0 : w s = 0 := h
    have : fRW t n s w = w := by
      cases n with
      | zero => rfl
      | succ n =>
        show cond (pl (w s)) _ w = w
        rw [h0]
        rfl
    rw [this]
    exact Rl_refl h
  | cons a L ih =>
    intro n s w hn h hL hs
    have ha := hL.2 a List.mem_cons_self
    obtain ⟨p1, p2⟩ := Pl_pl ha
    have hnd := List.nodup_cons.mp hL.1
    have hL' : Pl L := ⟨hnd.2, fun b hb => hL.2 b (List.mem_cons_of_mem _ hb)⟩
    cases n with
    | zero => simp at hn
    | succ n =>
      have hn' : L.length ≤ n := by simp at hn; omega
      have e0 : fRW t (n + 1) s w = if w (a + 2) = t then fRW t n s (remN w s) else fRW t n (a + 1) w := by
        show cond (pl (w s)) (if w (na (w s) + 2) = t then fRW t n s (remN w s) else fRW t n (na (w s) + 1) w) w = _
        rw [h.1, p1, p2, cond_true]
      rw [e0]
      by_cases h1 : w (a + 2) = t
      · rw [if_pos h1]
        have k1 : kp w t a = false := decide_eq_false (fun z => z h1)
        rw [List.filter_cons_of_neg (by rw [k1]; decide), List.filter_cons_of_pos (by rw [k1]; rfl)]
        have hr := Rl_rem (A := []) (B := L) h hL hs
        have hat := remN_at h.1 ha
        have hsd : Sd s L := fun b hb => hs b (List.mem_cons_of_mem _ hb)
        have hk : ∀ b ∈ L, kp (remN w s) t b = kp w t b := by
          intro b hb
          have q1 := hL'.2 b hb
          have q2 : a ≠ b := fun e => hnd.1 (by rw [e]; exact hb)
          have q3 := hsd b hb
          unfold kp
          rw [hat, if_neg (by omega), if_neg (by omega)]
        have hi := ih n s (remN w s) hn' hr.1 hL' hsd
        have f1 : L.filter (kp (remN w s) t) = L.filter (kp w t) := List.filter_congr (fun b hb => hk b hb)
        have f2 : L.filter (fun b => !kp (remN w s) t b) = L.filter (fun b => !kp w t b) := List.filter_congr (fun b hb => by rw [hk b hb])
        rw [f1, f2] at hi
        refine ⟨hi.1, fun j hj => ?_⟩
        rw [hi.2 j hj, zer_cons]
        have hjs : j ≠ s := fun e => hj (by rw [sl_mem]; exact Or.inl e)
        unfold zer
        rw [hat, if_neg hjs]
        by_cases c1 : a ≤ j ∧ j < a + 4
        · rw [if_pos c1]
          split <;> rfl
        · rw [if_neg c1, if_neg c1]
      · rw [if_neg h1]
        have k1 : kp w t a = true := decide_eq_true h1
        rw [List.filter_cons_of_pos (by rw [k1]), List.filter_cons_of_neg (by rw [k1]; decide)]
        have hsd := Sd_next ha hL'.2 hnd.1
        have hi := ih n (a + 1) w hn' h.2 hL' hsd
        have hsn : s ∉ sl (a + 1) (L.filter (kp w t)) := by
          rw [sl_mem]
          rintro (e | ⟨b, hb, e⟩)
          · have := hs a List.mem_cons_self; omega
          · have := hs b (List.mem_cons_of_mem _ (List.mem_filter.mp hb).1); omega
        refine ⟨⟨?_, hi.1⟩, fun j hj => hi.2 j (fun z => hj (List.mem_cons_of_mem _ z))⟩
        rw [hi.2 s hsn]
        unfold zer
        rw [if_neg ?_]
        · exact h.1
        · rintro ⟨b, hb, q⟩
          have := hs b (List.mem_cons_of_mem _ (List.mem_filter.mp hb).1)
          omega
