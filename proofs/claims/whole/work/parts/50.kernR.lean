/-! nodes go out of a list: what a running kernel's memory holds stays -/
theorem KI_rl {t : Nat} {w tk w' tk' : Nat → Int32} {Λ : Nat → List Nat} {g : Nat → Nat} {n q : Nat} {L' R : List Nat} (h : KI t w tk Λ g n) (hq : q < 6) (hq1 : q ≠ 1) (hR : Rl w w' q L' R) (hs : ∀ b ∈ L', b ∈ Λ q) (hnd : L'.Nodup) (hr : ∀ b ∈ R, b ∈ Λ q) (hdj : ∀ b ∈ L', b ∉ R) (hcv : ∀ b ∈ Λ q, b ∈ L' ∨ b ∈ R)
    (htk : ∀ a, gp a → (tk' a ≠ 0 ↔ tk a ≠ 0 ∧ a ∉ R)) (h0w : q = 0 → ∀ p, 2 ≤ p → p < 6 → ∀ b ∈ Λ p, ∀ a ∈ R, w (b + 2) ≠ nI a) : KI t w' tk' (uL Λ q L') g n := by
  have h0 := h
  obtain ⟨h1, h2, h3, h4, h5, h6, h7, h8, h9⟩ := h
  obtain ⟨k1, k2⟩ := h3 q hq
  have ulq : uL Λ q L' q = L' := by unfold uL; rw [if_pos rfl]
  have ul0 : ∀ m, m ≠ q → uL Λ q L' m = Λ m := fun m c => by unfold uL; rw [if_neg c]
  have gR : ∀ b ∈ R, gp b := fun b hb => k2.2 b (hr b hb)
  have gL : ∀ b ∈ L', gp b := fun b hb => k2.2 b (hs b hb)
  have mem : ∀ b, inL (uL Λ q L') b ↔ inL Λ b ∧ b ∉ R := by
    intro b
    constructor
    · rintro ⟨m, hm, hb⟩
      by_cases c : m = q
      · subst c
        rw [ulq] at hb
        exact ⟨⟨m, hm, hs b hb⟩, hdj b hb⟩
      · rw [ul0 m c] at hb
        exact ⟨⟨m, hm, hb⟩, fun z => h4 m q hm hq c b hb (hr b z)⟩
    · rintro ⟨⟨m, hm, hb⟩, hnr⟩
      refine ⟨m, hm, ?_⟩
      by_cases c : m = q
      · subst c
        rw [ulq]
        exact (hcv b hb).resolve_right hnr
      · rw [ul0 m c]
        exact hb
  -- a word that is no slot of the list and in no node that went
  have off : ∀ j, j ∉ sl q L' → (∀ b ∈ R, j < b ∨ b + 4 ≤ j) → w' j = w j := by
    intro j c1 c2
    rw [hR.2 j c1]
    unfold zer
    rw [if_neg (fun ⟨b, hb, z⟩ => by have := c2 b hb; omega)]
  have low : ∀ j, j < 16 → j ≠ q → w' j = w j := by
    intro j c1 c2
    refine off j (fun z => ?_) (fun b hb => ?_)
    · rw [sl_mem] at z
      rcases z with z | ⟨b, hb, z⟩
      · exact c2 z
      · have := gL b hb; unfold gp at this; omega
    · have := gR b hb; unfold gp at this; omega
  have node : ∀ b, gp b → b ∉ R → ∀ k, k < 4 → k ≠ 1 → w' (b + k) = w (b + k) := by
    intro b hb hnr k hk hk1
    refine off _ (fun z => ?_) (fun d hd => ?_)
    · rw [sl_mem] at z
      unfold gp at hb
      rcases z with z | ⟨d, hd, z⟩
      · omega
      · have := gL d hd; unfold gp at this; omega
    · have q1 := gR d hd
      have q2 : b ≠ d := fun z => hnr (z ▸ hd)
      unfold gp at hb q1
      omega
  refine ⟨⟨h1.1, fun k hk => ?_⟩, ⟨?_, h2.2⟩, fun m hm => ?_, fun m m' c1 c2 c3 b hb hb' => ?_, fun b hb => ?_, fun b hb => ?_, fun b hb hgb hw => ?_, fun p c1 c2 b hb => ?_, ?_⟩
  · rw [low (8 + k) (by omega) (by omega)]
    exact h1.2 k hk
  · rw [low 6 (by omega) (by omega)]
    exact h2.1
  · by_cases c : m = q
    · subst c
      rw [ulq]
      exact ⟨hR.1, hnd, fun b hb => k2.2 b (hs b hb)⟩
    · rw [ul0 m c]
      refine ⟨Lk_congr (fun j hj => ?_) (h3 m hm).1, (h3 m hm).2⟩
      rw [sl_mem] at hj
      rcases hj with rfl | ⟨b, hb, rfl⟩
      · exact low j (by omega) c
      · have q1 := (h3 m hm).2.2 b hb
        refine off _ (fun z => ?_) (fun d hd => ?_)
        · rw [sl_mem] at z
          rcases z with z | ⟨d, hd, z⟩
          · omega
          · have : b = d := by omega
            exact h4 m q hm hq c b hb (by rw [this]; exact hs d hd)
        · have q2 := gR d hd
          have q3 : b ≠ d := fun z => h4 m q hm hq c b hb (by rw [z]; exact hr d hd)
          unfold gp at q2
          omega
  · by_cases d1 : m = q
    · subst d1
      rw [ulq] at hb
      rw [ul0 m' (fun z => c3 z.symm)] at hb'
      exact h4 m m' c1 c2 c3 b (hs b hb) hb'
    · rw [ul0 m d1] at hb
      by_cases d2 : m' = q
      · subst d2
        rw [ulq] at hb'
        exact h4 m m' c1 c2 c3 b hb (hs b hb')
      · rw [ul0 m' d2] at hb'
        exact h4 m m' c1 c2 c3 b hb hb'
  · rw [htk b hb, h5 b hb, mem]
  · obtain ⟨z1, z2⟩ := (mem b).mp hb
    refine ⟨(h6 b z1).1, ?_⟩
    have := node b (inL_gp h0 z1) z2 0 (by omega) (by omega)
    rw [Nat.add_zero] at this
    rw [this]
    exact (h6 b z1).2
  · rw [mem]
    have hbR : b ∉ R := by
      intro z
      refine hw ?_
      rw [hR.2 b (fun z' => ?_)]
      · unfold zer
        rw [if_pos ⟨b, z, by omega, by omega⟩]
      · rw [sl_mem] at z'
        unfold gp at hb
        rcases z' with z' | ⟨d, hd, z'⟩
        · omega
        · have := gL d hd; unfold gp at this; omega
    refine ⟨h7 b hb hgb ?_, hbR⟩
    have := node b hb hbR 0 (by omega) (by omega)
    rw [Nat.add_zero] at this
    rw [← this]
    exact hw
  · have hbo : b ∈ Λ p ∧ b ∉ R := by
      by_cases c : p = q
      · subst c
        rw [ulq] at hb
        exact ⟨hs b hb, hdj b hb⟩
      · rw [ul0 p c] at hb
        exact ⟨hb, fun z => h4 p q c2 hq c b hb (hr b z)⟩
    obtain ⟨a, ha, he⟩ := h8 p c1 c2 b hbo.1
    refine ⟨a, ?_, (node b ((h3 p c2).2.2 b hbo.1) hbo.2 2 (by omega) (by omega)).trans he⟩
    by_cases c : q = 0
    · subst c
      rw [ulq]
      exact (hcv a ha).resolve_right (fun z => h0w rfl p c1 c2 b hbo.1 a z he)
    · rw [ul0 0 (fun z => c z.symm)]
      exact ha
  · rw [ul0 1 (fun z => hq1 z.symm)]
    have nr : ∀ b ∈ Λ 1, b ∉ R := fun b hb z => h4 1 q (by omega) hq (fun z' => hq1 z'.symm) b hb (hr b z)
    exact List.Pairwise.imp_of_mem (fun {b d} hb hd z => by
      rw [node b ((h3 1 (by omega)).2.2 b hb) (nr b hb) 2 (by omega) (by omega), node d ((h3 1 (by omega)).2.2 d hd) (nr d hd) 2 (by omega) (by omega)]
      exact z) h9
theorem mdr_k (u : St) (q : Nat) (A B : List Nat) (b k : Nat) (h0 : k ≠ 20) (h1 : k ≠ 21) (h2 : k ≠ 22) (h3 : k ≠ 23) : (mdr u q A B b).2.1 k = u.2.1 k := by
  unfold mdr mwr mdr0
  simp only [pA, if_neg h0, if_neg h1, if_neg h2, if_neg h3]
/-- the reference's queue behind the end of a task: its memory, its book of places -/
theorem mqd_mem (x : Int32) (q : Nat) (w : Nat → Int32) : ∀ (R D Z : List Nat) (u : St), Pl (R.reverse ++ D) → Sd q (R.reverse ++ D) → (∀ b ∈ Z, b ∉ R.reverse ++ D) → (∀ b ∈ Z, gp b) → Rl w (u.2.1 20) q (R.reverse ++ D) Z →
    (mqd x q R D u).1 = R.reverse.filter (kp w x) ++ D ∧ Rl w ((mqd x q R D u).2.2.1 20) q ((mqd x q R D u).1) (R.filter (fun b => !kp w x b) ++ Z) ∧ (∀ j, (mqd x q R D u).2.2.1 23 j = if j ∈ R.filter (fun b => !kp w x b) then 0 else u.2.1 23 j) ∧ (mqd x q R D u).2.1 = u.1 ∧ (mqd x q R D u).2.2.2 = u.2.2 ∧ ∀ k, k ≠ 20 → k ≠ 21 → k ≠ 22 → k ≠ 23 → (mqd x q R D u).2.2.1 k = u.2.1 k := by
  intro R
  induction R with
  | nil => intro D Z u hP hS hZ hg h; exact ⟨rfl, h, fun j => by simp [mqd], rfl, rfl, fun _ _ _ _ _ => rfl⟩
  | cons b R ih =>
    intro D Z u hP hS hZ hg h
    have e1 : (b :: R).reverse ++ D = R.reverse ++ b :: D := by simp
    rw [e1] at hP hS h hZ
    have hb := hP.2 b (by simp)
    have hbn : b ∉ R.reverse ++ D := by
      have := (List.perm_middle (a := b) (l₁ := R.reverse) (l₂ := D)).nodup_iff.mp hP.1
      exact (List.nodup_cons.mp this).1
    have hP' : Pl (R.reverse ++ D) := by
      have := (List.perm_middle (a := b) (l₁ := R.reverse) (l₂ := D)).nodup_iff.mp hP.1
      refine ⟨(List.nodup_cons.mp this).2, fun d hd => hP.2 d ?_⟩
      rcases List.mem_append.mp hd with z | z
      · exact List.mem_append_left _ z
      · exact List.mem_append_right _ (List.mem_cons_of_mem _ z)
    have hS' : Sd q (R.reverse ++ D) := fun d hd => hS d (by
      rcases List.mem_append.mp hd with z | z
      · exact List.mem_append_left _ z
      · exact List.mem_append_right _ (List.mem_cons_of_mem _ z))
    -- the third word is as it was
    have hw : u.2.1 20 (b + 2) = w (b + 2) := by
      rw [h.2 (b + 2) (fun z => ?_)]
      · unfold zer
        rw [if_neg ?_]
        rintro ⟨d, hd, z⟩
        have q1 := hg d hd
        have q2 : b ≠ d := fun z' => hZ d hd (by rw [← z']; simp)
        unfold gp at q1
        omega
      · rw [sl_mem] at z
        rcases z with z | ⟨d, hd, z⟩
        · have := hS b (by simp)
          omega
        · have := hP.2 d hd
          omega
    have em : mqd x q (b :: R) D u = if u.2.1 20 (b + 2) = x then mqd x q R D (mdr u q R.reverse D b) else mqd x q R (b :: D) u := rfl
    by_cases c : w (b + 2) = x
    · rw [em, hw, if_pos c]
      have k1 : kp w x b = false := decide_eq_false (fun z => z c)
      have hr := Rl_drop h (Sd_nodup hS' hP'.1)
      have hi := ih D (b :: Z) (mdr u q R.reverse D b) hP' hS' (fun d hd => by
        rcases List.mem_cons.mp hd with rfl | hd
        · exact hbn
        · intro z
          refine hZ d hd ?_
          rcases List.mem_append.mp z with z | z
          · exact List.mem_append_left _ z
          · exact List.mem_append_right _ (List.mem_cons_of_mem _ z)) (fun d hd => by
        rcases List.mem_cons.mp hd with rfl | hd
        · exact hb
        · exact hg d hd) hr
      obtain ⟨i1, i2, i3, i4, i5, i6⟩ := hi
      refine ⟨?_, ?_, fun j => ?_, i4, i5, fun k z0 z1 z2 z3 => (i6 k z0 z1 z2 z3).trans (mdr_k u q _ _ b k z0 z1 z2 z3)⟩
      · rw [i1]
        rw [List.reverse_cons, List.filter_append, List.filter_cons_of_neg (by rw [k1]; decide)]
        simp
      · rw [List.filter_cons_of_pos (by rw [k1]; rfl)]
        have hmm : ∀ d, d ∈ R.filter (fun b => !kp w x b) ++ b :: Z ↔ d ∈ b :: R.filter (fun b => !kp w x b) ++ Z := by
          intro d
          simp only [List.mem_append, List.mem_cons]
          constructor
          · rintro (z | z | z)
            · exact Or.inl (Or.inr z)
            · exact Or.inl (Or.inl z)
            · exact Or.inr z
          · rintro ((z | z) | z)
            · exact Or.inr (Or.inl z)
            · exact Or.inl z
            · exact Or.inr (Or.inr z)
        refine ⟨i2.1, fun j hj => ?_⟩
        rw [i2.2 j hj]
        unfold zer
        have : (∃ a ∈ R.filter (fun b => !kp w x b) ++ b :: Z, a ≤ j ∧ j < a + 4) ↔ (∃ a ∈ b :: R.filter (fun b => !kp w x b) ++ Z, a ≤ j ∧ j < a + 4) := ⟨fun ⟨a, z1, z2⟩ => ⟨a, (hmm a).mp z1, z2⟩, fun ⟨a, z1, z2⟩ => ⟨a, (hmm a).mpr z1, z2⟩⟩
        simp only [this]
      · rw [i3 j, List.filter_cons_of_pos (by rw [k1]; rfl)]
        have e9 : (mdr u q R.reverse D b).2.1 23 = upd (u.2.1 23) b 0 := rfl
        rw [e9]
        unfold upd
        by_cases z1 : j ∈ R.filter (fun b => !kp w x b)
        · rw [if_pos z1, if_pos (List.mem_cons_of_mem _ z1)]
        · rw [if_neg z1]
          by_cases z2 : j = b
          · rw [if_pos z2, if_pos (by rw [z2]; exact List.mem_cons_self)]
          · rw [if_neg z2, if_neg (by rw [List.mem_cons]; rintro (z | z); exact z2 z; exact z1 z)]
    · rw [em, hw, if_neg c]
      have k1 : kp w x b = true := decide_eq_true c
      obtain ⟨i1, i2, i3, i4, i5, i6⟩ := ih (b :: D) Z u hP hS hZ hg h
      refine ⟨?_, ?_, fun j => ?_, i4, i5, i6⟩
      · rw [i1, List.reverse_cons, List.filter_append, List.filter_cons_of_pos (by rw [k1])]
        simp
      · rw [List.filter_cons_of_neg (by rw [k1]; decide)]
        exact i2
      · rw [i3 j, List.filter_cons_of_neg (by rw [k1]; decide)]
