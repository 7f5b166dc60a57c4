/-! linked lists in a memory of words -/
def Lk (w : Nat → Int32) : Nat → List Nat → Prop
  | s, [] => w s = 0
  | s, a :: L => w s = nI a ∧ Lk w (a + 1) L
def sl : Nat → List Nat → List Nat
  | s, [] => [s]
  | s, a :: L => s :: sl (a + 1) L
def esl : Nat → List Nat → Nat
  | s, [] => s
  | _, a :: L => esl (a + 1) L
def zer (w : Nat → Int32) (R : List Nat) : Nat → Int32 := fun j => if ∃ a ∈ R, a ≤ j ∧ j < a + 4 then 0 else w j
/-- w' is w with the nodes R wiped, and the list from s linked as L -/
def Rl (w w' : Nat → Int32) (s : Nat) (L R : List Nat) : Prop := Lk w' s L ∧ ∀ j, j ∉ sl s L → w' j = zer w R j
theorem Lk_det {w w' : Nat → Int32} : ∀ {L : List Nat} {s : Nat}, Lk w s L → Lk w' s L → ∀ j ∈ sl s L, w j = w' j := by
  intro L
  induction L with
  | nil =>
    intro s h1 h2 j hj
    rw [List.mem_singleton.mp hj]
    exact Eq.trans h1 (Eq.symm h2)
  | cons a L ih =>
    intro s h1 h2 j hj
    rcases List.mem_cons.mp hj with rfl | hj
    · exact h1.1.trans h2.1.symm
    · exact ih h1.2 h2.2 j hj
theorem Rl_det {w w1 w2 : Nat → Int32} {s : Nat} {L R R' : List Nat} (h1 : Rl w w1 s L R) (h2 : Rl w w2 s L R') (hR : ∀ a, a ∈ R ↔ a ∈ R') : w1 = w2 := by
  funext j
  by_cases hj : j ∈ sl s L
  · exact Lk_det h1.1 h2.1 j hj
  · rw [h1.2 j hj, h2.2 j hj]
    unfold zer
    have : (∃ a ∈ R, a ≤ j ∧ j < a + 4) ↔ (∃ a ∈ R', a ≤ j ∧ j < a + 4) := ⟨fun ⟨a, h, q⟩ => ⟨a, (hR a).mp h, q⟩, fun ⟨a, h, q⟩ => ⟨a, (hR a).mpr h, q⟩⟩
    simp only [this]
theorem Lk_congr {w w' : Nat → Int32} : ∀ {L : List Nat} {s : Nat}, (∀ j ∈ sl s L, w' j = w j) → Lk w s L → Lk w' s L := by
  intro L
  induction L with
  | nil => intro s h h1; exact (h s (List.mem_singleton.mpr rfl)).trans h1
  | cons a L ih => intro s h h1; exact ⟨(h s List.mem_cons_self).trans h1.1, ih (fun j hj => h j (List.mem_cons_of_mem _ hj)) h1.2⟩
theorem sl_app : ∀ (A : List Nat) (s : Nat) (B : List Nat), ∀ j, j ∈ sl s (A ++ B) ↔ j ∈ sl s A ∨ j ∈ sl (esl s A) B := by
  intro A
  induction A with
  | nil =>
    intro s B j
    refine ⟨Or.inr, fun h => ?_⟩
    rcases h with h | h
    · rw [List.mem_singleton.mp h]
      cases B with
      | nil => exact List.mem_singleton.mpr rfl
      | cons b B => exact List.mem_cons_self
    · exact h
  | cons a A ih =>
    intro s B j
    show j ∈ s :: sl (a + 1) (A ++ B) ↔ j ∈ s :: sl (a + 1) A ∨ j ∈ sl (esl (a + 1) A) B
    rw [List.mem_cons, List.mem_cons, ih, or_assoc]
theorem sl_mem : ∀ (L : List Nat) (s : Nat) (j : Nat), j ∈ sl s L ↔ j = s ∨ ∃ a ∈ L, j = a + 1 := by
  intro L
  induction L with
  | nil => intro s j; simp [sl]
  | cons a L ih =>
    intro s j
    show j ∈ s :: sl (a + 1) L ↔ _
    rw [List.mem_cons, ih]
    constructor
    · rintro (h | h | ⟨b, hb, h⟩)
      · exact Or.inl h
      · exact Or.inr ⟨a, List.mem_cons_self, h⟩
      · exact Or.inr ⟨b, List.mem_cons_of_mem _ hb, h⟩
    · rintro (h | ⟨b, hb, h⟩)
      · exact Or.inl h
      · rcases List.mem_cons.mp hb with rfl | hb
        · exact Or.inr (Or.inl h)
        · exact Or.inr (Or.inr ⟨b, hb, h⟩)
theorem esl_mem : ∀ (A : List Nat) (s : Nat), esl s A = s ∧ A = [] ∨ ∃ a ∈ A, esl s A = a + 1 := by
  intro A
  induction A with
  | nil => intro s; exact Or.inl ⟨rfl, rfl⟩
  | cons a A ih =>
    intro s
    rcases ih (a + 1) with ⟨h1, h2⟩ | ⟨b, hb, h⟩
    · exact Or.inr ⟨a, List.mem_cons_self, h1⟩
    · exact Or.inr ⟨b, List.mem_cons_of_mem _ hb, h⟩
theorem Lk_app {w : Nat → Int32} : ∀ {A : List Nat} {s : Nat} {B : List Nat}, Lk w s (A ++ B) → Lk w (esl s A) B := by
  intro A
  induction A with
  | nil => intro s B h; exact h
  | cons a A ih => intro s B h; exact ih h.2
/-- the memory behind re-linking -/
theorem chn_off : ∀ (L : List Nat) (s : Nat) (m : Nat → Int32) (j : Nat), j ∉ sl s L → chn L s m j = m j := by
  intro L
  induction L with
  | nil =>
    intro s m j hj
    show upd m s 0 j = m j
    unfold upd
    rw [if_neg (fun h => hj (List.mem_singleton.mpr h))]
  | cons a L ih =>
    intro s m j hj
    show chn L (a + 1) (upd m s (nI a)) j = m j
    rw [ih _ _ _ (fun h => hj (List.mem_cons_of_mem _ h))]
    unfold upd
    rw [if_neg (fun h : j = s => hj (by rw [h]; exact List.mem_cons_self))]
theorem chn_Lk : ∀ (L : List Nat) (s : Nat) (m : Nat → Int32), (sl s L).Nodup → Lk (chn L s m) s L := by
  intro L
  induction L with
  | nil =>
    intro s m _
    show upd m s 0 s = 0
    unfold upd
    rw [if_pos rfl]
  | cons a L ih =>
    intro s m h
    have h' : (s :: sl (a + 1) L).Nodup := h
    rw [List.nodup_cons] at h'
    refine ⟨?_, ih _ _ h'.2⟩
    show chn L (a + 1) (upd m s (nI a)) s = nI a
    rw [chn_off _ _ _ _ h'.1]
    unfold upd
    rw [if_pos rfl]
theorem chn_eq : ∀ (L : List Nat) (s : Nat) (m w : Nat → Int32), Lk w s L → (∀ j, j ∉ sl s L → w j = m j) → chn L s m = w := by
  intro L
  induction L with
  | nil =>
    intro s m w h1 h2
    funext j
    show upd m s 0 j = w j
    unfold upd
    by_cases hj : j = s
    · rw [if_pos hj, hj]; exact Eq.symm h1
    · rw [if_neg hj]; exact (h2 j (fun h => hj (List.mem_singleton.mp h))).symm
  | cons a L ih =>
    intro s m w h1 h2
    refine ih (a + 1) (upd m s (nI a)) w h1.2 (fun j hj => ?_)
    unfold upd
    by_cases hs : j = s
    · rw [if_pos hs, hs]; exact h1.1
    · rw [if_neg hs]
      exact h2 j (fun h => by
        rcases List.mem_cons.mp h with h | h
        · exact hs h
        · exact hj h)
/-- a good list: places, none twice -/
def Pl (L : List Nat) : Prop := L.Nodup ∧ ∀ a ∈ L, 16 ≤ a ∧ a ≤ 236 ∧ a % 4 = 0
theorem Pl_pl {a : Nat} (h : 16 ≤ a ∧ a ≤ 236 ∧ a % 4 = 0) : pl (nI a) = true ∧ na (nI a) = a := by
  have e1 : na (nI a) = a := nI_clamp (by omega)
  refine ⟨?_, e1⟩
  rw [pl_nI (by omega), decide_eq_true h.1, decide_eq_true h.2.1, decide_eq_true h.2.2]
  rfl
theorem sl_nodup : ∀ {L : List Nat} {s : Nat}, L.Nodup → (∀ a ∈ L, s ≠ a + 1) → (sl s L).Nodup := by
  intro L
  induction L with
  | nil => intro s _ _; exact List.nodup_cons.mpr ⟨by simp, List.nodup_nil⟩
  | cons a L ih =>
    intro s h1 h2
    rw [List.nodup_cons] at h1
    show (s :: sl (a + 1) L).Nodup
    refine List.nodup_cons.mpr ⟨fun h => ?_, ih h1.2 (fun b hb h => h1.1 (by rw [show a = b from Nat.succ.inj h]; exact hb))⟩
    rw [sl_mem] at h
    rcases h with h | ⟨b, hb, h⟩
    · exact h2 a List.mem_cons_self h
    · exact h2 b (List.mem_cons_of_mem _ hb) h
theorem fslot_eq {w : Nat → Int32} : ∀ (n : Nat) (L : List Nat) (s : Nat), Lk w s L → (∀ a ∈ L, 16 ≤ a ∧ a ≤ 236 ∧ a % 4 = 0) → fslot w n s = esl s (L.take n) := by
  intro n
  induction n with
  | zero => intro L s _ _; rfl
  | succ n ih =>
    intro L s h hp
    show cond (pl (w s)) (fslot w n (na (w s) + 1)) s = _
    cases L with
    | nil =>
      have h0 : w s = 0 := h
      rw [h0]
      rfl
    | cons a L =>
      obtain ⟨p1, p2⟩ := Pl_pl (hp a List.mem_cons_self)
      rw [h.1, p1, p2, cond_true]
      exact ih L (a + 1) h.2 (fun b hb => hp b (List.mem_cons_of_mem _ hb))
theorem Lk_at {w : Nat → Int32} {s : Nat} {L : List Nat} (h : Lk w s L) (n : Nat) : w (esl s (L.take n)) = (if n < L.length then nI (L.getD n 0) else 0) := by
  induction n generalizing s L with
  | zero =>
    cases L with
    | nil => exact h
    | cons a L => exact h.1
  | succ n ih =>
    cases L with
    | nil => exact h
    | cons a L =>
      have := ih h.2
      show w (esl (a + 1) (L.take n)) = _
      rw [this]
      simp
