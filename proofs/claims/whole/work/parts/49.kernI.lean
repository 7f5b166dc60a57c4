/-! what a running kernel's memory holds -/
def gp (a : Nat) : Prop := 16 ≤ a ∧ a ≤ 236 ∧ a % 4 = 0
def inL (Λ : Nat → List Nat) (a : Nat) : Prop := ∃ l, l < 6 ∧ a ∈ Λ l
def KI (t : Nat) (w tk : Nat → Int32) (Λ : Nat → List Nat) (g : Nat → Nat) (n : Nat) : Prop :=
  FG w g ∧ (w 6 = nI n ∧ n ≤ t) ∧ (∀ l, l < 6 → Lk w l (Λ l) ∧ Pl (Λ l)) ∧ (∀ l l', l < 6 → l' < 6 → l ≠ l' → ∀ a ∈ Λ l, a ∉ Λ l') ∧
  (∀ a, gp a → (tk a ≠ 0 ↔ inL Λ a)) ∧ (∀ a, inL Λ a → g (a / 16) = 1 ∧ w a ≠ 0) ∧ (∀ a, gp a → g (a / 16) = 1 → w a ≠ 0 → inL Λ a) ∧
  (∀ q, 2 ≤ q → q < 6 → ∀ b ∈ Λ q, ∃ a ∈ Λ 0, w (b + 2) = nI a) ∧ (Λ 1).Pairwise (fun a b => w (a + 2) ≤ w (b + 2))
def uL (Λ : Nat → List Nat) (l : Nat) (L : List Nat) : Nat → List Nat := fun j => if j = l then L else Λ j
theorem KI_tk {t : Nat} {w tk : Nat → Int32} {Λ : Nat → List Nat} {g : Nat → Nat} {n : Nat} (h : KI t w tk Λ g n) : ∀ a, 16 ≤ a → a ≤ 236 → a % 4 = 0 → g (a / 16) = 1 → (tk a = 0 ↔ w a = 0) := by
  obtain ⟨h1, h2, h3, h4, h5, h6, h7, h8, h9⟩ := h
  intro a a1 a2 a3 hg
  constructor
  · intro z
    exact Classical.byContradiction fun c => (h5 a ⟨a1, a2, a3⟩).mpr (h7 a ⟨a1, a2, a3⟩ hg c) z
  · intro z
    exact Classical.byContradiction fun c => (h6 a ((h5 a ⟨a1, a2, a3⟩).mp c)).2 z
theorem inL_gp {t : Nat} {w tk : Nat → Int32} {Λ : Nat → List Nat} {g : Nat → Nat} {n : Nat} (h : KI t w tk Λ g n) {a : Nat} (ha : inL Λ a) : gp a := by
  obtain ⟨l, hl, ha⟩ := ha
  exact (h.2.2.1 l hl).2.2 a ha
/-- a place is taken: the lists stand as they stood -/
theorem KI_take {t : Nat} {w tk : Nat → Int32} {Λ : Nat → List Nat} {g : Nat → Nat} {n : Nat} (h : KI t w tk Λ g n) (hn : (tkP w).1 ≠ 0) : gp (tkP w).1 ∧ ¬ inL Λ (tkP w).1 ∧ ∃ g', KI t (tkP w).2 tk Λ g' n ∧ g' ((tkP w).1 / 16) = 1 ∧ (tkP w).2 (tkP w).1 = 0 := by
  have h0 := h
  obtain ⟨h1, h2, h3, h4, h5, h6, h7, h8, h9⟩ := h
  obtain ⟨q1, q2, g', q3, q4, q5, q6, q7⟩ := tkP_ok h1 hn
  have same : ∀ a, inL Λ a → ∀ k, k < 4 → (tkP w).2 (a + k) = w (a + k) := by
    intro a ha k hk
    have := inL_gp h0 ha
    have := (h6 a ha).1
    unfold gp at *
    exact q7 (a + k) (by omega) (Or.inr (Or.inl (by rw [show (a + k) / 16 = a / 16 by omega]; exact this)))
  have sl1 : ∀ l, l < 6 → ∀ j ∈ sl l (Λ l), (tkP w).2 j = w j := by
    intro l hl j hj
    rw [sl_mem] at hj
    rcases hj with rfl | ⟨a, ha, rfl⟩
    · exact q7 j (by omega) (by omega)
    · exact same a ⟨l, hl, ha⟩ 1 (by omega)
  have hni : ¬ inL Λ (tkP w).1 := by
    intro z
    have := same _ z 0 (by omega)
    rw [Nat.add_zero, q2] at this
    exact (h6 _ z).2 this.symm
  refine ⟨q1, hni, g', ⟨q3, ⟨(q7 6 (by omega) (by omega)).trans h2.1, h2.2⟩, fun l hl => ⟨Lk_congr (sl1 l hl) (h3 l hl).1, (h3 l hl).2⟩, h4, h5, fun a ha => ?_, fun a ha hg hw => ?_, fun q c1 c2 b hb => ?_, ?_⟩, q4, q2⟩
  · obtain ⟨c1, c2⟩ := h6 a ha
    have := inL_gp h0 ha
    unfold gp at this
    refine ⟨q5 _ (by omega) c1, ?_⟩
    have := same a ha 0 (by omega)
    rw [Nat.add_zero] at this
    rw [this]
    exact c2
  · by_cases c : g (a / 16) = 1
    · refine h7 a ha c ?_
      unfold gp at ha
      rw [← q7 a (by omega) (Or.inr (Or.inl c))]
      exact hw
    · unfold gp at ha
      exact absurd (q6 (a / 16) (by omega) hg c a (by omega) (by omega)) hw
  · obtain ⟨a, ha, he⟩ := h8 q c1 c2 b hb
    exact ⟨a, ha, (same b ⟨q, c2, hb⟩ 2 (by omega)).trans he⟩
  · refine List.Pairwise.imp_of_mem (fun {a b} ha hb z => ?_) h9
    rw [same a ⟨1, by omega, ha⟩ 2 (by omega), same b ⟨1, by omega, hb⟩ 2 (by omega)]
    exact z
/-- a free place comes into list l -/
theorem KI_ins {t : Nat} {w tk : Nat → Int32} {Λ : Nat → List Nat} {g : Nat → Nat} {n a l : Nat} {A B : List Nat} {tg x y : Int32} (h : KI t w tk Λ g n) (hg : gp a) (hni : ¬ inL Λ a) (hga : g (a / 16) = 1) (hl : l < 6) (hAB : Λ l = A ++ B) (ht : tg ≠ 0)
    (hx : 2 ≤ l → ∃ c ∈ Λ 0, x = nI c) (hs : l = 1 → (∀ b ∈ A, w (b + 2) ≤ x) ∧ ∀ b ∈ B, x ≤ w (b + 2)) :
    chn (A ++ a :: B) l (wrt w a tg x y) = insN w (esl l A) a tg x y ∧ KI t (insN w (esl l A) a tg x y) (upd tk a 1) (uL Λ l (A ++ a :: B)) g n := by
  have h0 := h
  obtain ⟨h1, h2, h3, h4, h5, h6, h7, h8, h9⟩ := h
  obtain ⟨k1, k2⟩ := h3 l hl
  rw [hAB] at k1 k2
  have hnl : a ∉ A ++ B := fun z => hni ⟨l, hl, by rw [hAB]; exact z⟩
  have hsd : Sd l (a :: (A ++ B)) := by
    refine Sd_head (by omega) (fun b hb => ?_)
    rcases List.mem_cons.mp hb with rfl | hb
    · exact hg
    · exact k2.2 b hb
  obtain ⟨e1, e2⟩ := ins_eq (t := tg) (x := x) (y := y) k1 k2 hsd hg hnl
  have hes : esl l A < a ∨ a + 4 ≤ esl l A := by
    rcases esl_mem A l with ⟨z, -⟩ | ⟨b, hb, z⟩
    · rw [z]; exact hsd a List.mem_cons_self
    · have q1 := k2.2 b (List.mem_append_left _ hb)
      have q2 : b ≠ a := fun z => hnl (by rw [← z]; exact List.mem_append_left _ hb)
      unfold gp at hg
      omega
  have hat := insN_at w (esl l A) a tg x y (by omega)
  -- off its own words and the slot nothing changes
  have off : ∀ j, j ≠ esl l A → (j < a ∨ a + 4 ≤ j) → insN w (esl l A) a tg x y j = w j := by
    intro j c1 c2
    rw [hat, if_neg c1, if_neg (by omega), if_neg (by omega), if_neg (by omega), if_neg (by omega)]
  have hesl : esl l A = l ∨ ∃ b ∈ A, esl l A = b + 1 := by
    rcases esl_mem A l with ⟨z, -⟩ | z
    · exact Or.inl z
    · exact Or.inr z
  have node : ∀ b, inL Λ b → ∀ k, k < 4 → k ≠ 1 → insN w (esl l A) a tg x y (b + k) = w (b + k) := by
    intro b hb k hk hk1
    have q1 := inL_gp h0 hb
    have q2 : b ≠ a := fun z => hni (z ▸ hb)
    unfold gp at q1 hg
    refine off _ (fun z => ?_) (by omega)
    rcases hesl with c | ⟨d, hd, c⟩
    · omega
    · have q3 := k2.2 d (List.mem_append_left _ hd)
      omega
  have mem : ∀ b, inL (uL Λ l (A ++ a :: B)) b ↔ b = a ∨ inL Λ b := by
    intro b
    constructor
    · rintro ⟨m, hm, hb⟩
      unfold uL at hb
      by_cases c : m = l
      · rw [if_pos c] at hb
        rcases List.mem_append.mp hb with z | z
        · exact Or.inr ⟨l, hl, by rw [hAB]; exact List.mem_append_left _ z⟩
        · rcases List.mem_cons.mp z with z | z
          · exact Or.inl z
          · exact Or.inr ⟨l, hl, by rw [hAB]; exact List.mem_append_right _ z⟩
      · rw [if_neg c] at hb
        exact Or.inr ⟨m, hm, hb⟩
    · rintro (rfl | ⟨m, hm, hb⟩)
      · refine ⟨l, hl, ?_⟩
        unfold uL
        rw [if_pos rfl]
        simp
      · refine ⟨m, hm, ?_⟩
        unfold uL
        by_cases c : m = l
        · rw [if_pos c]
          rw [c, hAB] at hb
          rcases List.mem_append.mp hb with z | z
          · exact List.mem_append_left _ z
          · exact List.mem_append_right _ (List.mem_cons_of_mem _ z)
        · rw [if_neg c]
          exact hb
  have ul0 : ∀ m, m ≠ l → uL Λ l (A ++ a :: B) m = Λ m := fun m c => by unfold uL; rw [if_neg c]
  have ull : uL Λ l (A ++ a :: B) l = A ++ a :: B := by unfold uL; rw [if_pos rfl]
  refine ⟨e1, ⟨h1.1, fun k hk => ?_⟩, ⟨?_, h2.2⟩, fun m hm => ?_, fun m m' c1 c2 c3 b hb hb' => ?_, fun b hb => ?_, fun b hb => ?_, fun b hb hgb hw => ?_, fun q c1 c2 b hb => ?_, ?_⟩
  · rw [off (8 + k) (fun z => ?_) (by unfold gp at hg; omega)]
    · exact h1.2 k hk
    · rcases hesl with c | ⟨d, hd, c⟩
      · omega
      · have q3 := k2.2 d (List.mem_append_left _ hd)
        omega
  · rw [off 6 (fun z => ?_) (by unfold gp at hg; omega)]
    · exact h2.1
    · rcases hesl with c | ⟨d, hd, c⟩
      · omega
      · have q3 := k2.2 d (List.mem_append_left _ hd)
        omega
  · by_cases c : m = l
    · subst c
      rw [ull]
      refine ⟨e2, (List.perm_middle (a := a) (l₁ := A) (l₂ := B)).nodup_iff.mpr (List.nodup_cons.mpr ⟨hnl, k2.1⟩), fun b hb => ?_⟩
      rcases List.mem_append.mp hb with z | z
      · exact k2.2 b (List.mem_append_left _ z)
      · rcases List.mem_cons.mp z with rfl | z
        · exact hg
        · exact k2.2 b (List.mem_append_right _ z)
    · rw [ul0 m c]
      refine ⟨Lk_congr (fun j hj => ?_) (h3 m hm).1, (h3 m hm).2⟩
      rw [sl_mem] at hj
      rcases hj with rfl | ⟨b, hb, rfl⟩
      · refine off _ (fun z => ?_) (by unfold gp at hg; omega)
        rcases hesl with c' | ⟨d, hd, c'⟩
        · omega
        · have q3 := k2.2 d (List.mem_append_left _ hd)
          omega
      · have q1 := (h3 m hm).2.2 b hb
        have q2 : b ≠ a := fun z => hni ⟨m, hm, z ▸ hb⟩
        refine off _ (fun z => ?_) (by unfold gp at hg; omega)
        rcases hesl with c' | ⟨d, hd, c'⟩
        · omega
        · have : b = d := by omega
          exact h4 m l hm hl c b hb (by rw [hAB, this]; exact List.mem_append_left _ hd)
  · by_cases d1 : m = l
    · subst d1
      rw [ull] at hb
      rw [ul0 m' (fun z => c3 z.symm)] at hb'
      rcases List.mem_append.mp hb with z | z
      · exact h4 m m' c1 c2 c3 b (by rw [hAB]; exact List.mem_append_left _ z) hb'
      · rcases List.mem_cons.mp z with rfl | z
        · exact hni ⟨m', c2, hb'⟩
        · exact h4 m m' c1 c2 c3 b (by rw [hAB]; exact List.mem_append_right _ z) hb'
    · rw [ul0 m d1] at hb
      by_cases d2 : m' = l
      · subst d2
        rw [ull] at hb'
        rcases List.mem_append.mp hb' with z | z
        · exact h4 m m' c1 c2 c3 b hb (by rw [hAB]; exact List.mem_append_left _ z)
        · rcases List.mem_cons.mp z with rfl | z
          · exact hni ⟨m, c1, hb⟩
          · exact h4 m m' c1 c2 c3 b hb (by rw [hAB]; exact List.mem_append_right _ z)
      · rw [ul0 m' d2] at hb'
        exact h4 m m' c1 c2 c3 b hb hb'
  · rw [mem]
    unfold upd
    by_cases c : b = a
    · rw [if_pos c]
      exact ⟨fun _ => Or.inl c, fun _ => by decide⟩
    · rw [if_neg c, h5 b hb]
      exact ⟨Or.inr, fun z => z.resolve_left c⟩
  · rcases (mem b).mp hb with rfl | hb
    · refine ⟨hga, ?_⟩
      rw [hat, if_neg (by omega), if_neg (by omega), if_neg (by omega), if_neg (by omega), if_pos rfl]
      exact ht
    · refine ⟨(h6 b hb).1, ?_⟩
      have := node b hb 0 (by omega) (by omega)
      rw [Nat.add_zero] at this
      rw [this]
      exact (h6 b hb).2
  · rw [mem]
    by_cases c : b = a
    · exact Or.inl c
    · refine Or.inr (h7 b hb hgb ?_)
      rw [← off b (fun z => ?_) (by unfold gp at hb hg; omega)]
      · exact hw
      · unfold gp at hb
        rcases hesl with c' | ⟨d, hd, c'⟩
        · omega
        · have q3 := k2.2 d (List.mem_append_left _ hd)
          omega
  · have hz : ∀ d, d ∈ Λ 0 → d ∈ uL Λ l (A ++ a :: B) 0 := by
      intro d hd
      by_cases c : l = 0
      · subst c
        rw [ull]
        rw [hAB] at hd
        rcases List.mem_append.mp hd with z | z
        · exact List.mem_append_left _ z
        · exact List.mem_append_right _ (List.mem_cons_of_mem _ z)
      · rw [ul0 0 (fun z => c z.symm)]
        exact hd
    have old : ∀ b, b ∈ Λ q → ∃ d ∈ uL Λ l (A ++ a :: B) 0, insN w (esl l A) a tg x y (b + 2) = nI d := by
      intro b hb
      obtain ⟨d, hd, he⟩ := h8 q c1 c2 b hb
      exact ⟨d, hz d hd, (node b ⟨q, c2, hb⟩ 2 (by omega) (by omega)).trans he⟩
    by_cases c : q = l
    · subst c
      rw [ull] at hb
      rcases List.mem_append.mp hb with z | z
      · exact old b (by rw [hAB]; exact List.mem_append_left _ z)
      · rcases List.mem_cons.mp z with rfl | z
        · obtain ⟨d, hd, he⟩ := hx c1
          refine ⟨d, hz d hd, ?_⟩
          rw [hat, if_neg (by omega), if_neg (by omega), if_pos rfl]
          exact he
        · exact old b (by rw [hAB]; exact List.mem_append_right _ z)
    · rw [ul0 q c] at hb
      exact old b hb
  · by_cases c : l = 1
    · subst c
      rw [ull]
      rw [hAB, List.pairwise_append] at h9
      obtain ⟨s1, s2, s3⟩ := h9
      obtain ⟨o1, o2⟩ := hs rfl
      have na' : insN w (esl 1 A) a tg x y (a + 2) = x := by rw [hat, if_neg (by omega), if_neg (by omega), if_pos rfl]
      have nA : ∀ b ∈ A, insN w (esl 1 A) a tg x y (b + 2) = w (b + 2) := fun b hb => node b ⟨1, by omega, by rw [hAB]; exact List.mem_append_left _ hb⟩ 2 (by omega) (by omega)
      have nB : ∀ b ∈ B, insN w (esl 1 A) a tg x y (b + 2) = w (b + 2) := fun b hb => node b ⟨1, by omega, by rw [hAB]; exact List.mem_append_right _ hb⟩ 2 (by omega) (by omega)
      rw [List.pairwise_append]
      refine ⟨List.Pairwise.imp_of_mem (fun {b d} hb hd z => by rw [nA b hb, nA d hd]; exact z) s1, List.pairwise_cons.mpr ⟨fun b hb => by rw [na', nB b hb]; exact o2 b hb, List.Pairwise.imp_of_mem (fun {b d} hb hd z => by rw [nB b hb, nB d hd]; exact z) s2⟩, fun b hb d hd => ?_⟩
      rcases List.mem_cons.mp hd with rfl | hd
      · rw [na', nA b hb]; exact o1 b hb
      · rw [nA b hb, nB d hd]; exact s3 b hb d hd
    · rw [ul0 1 (fun z => c z.symm)]
      exact List.Pairwise.imp_of_mem (fun {b d} hb hd z => by rw [node b ⟨1, by omega, hb⟩ 2 (by omega) (by omega), node d ⟨1, by omega, hd⟩ 2 (by omega) (by omega)]; exact z) h9
