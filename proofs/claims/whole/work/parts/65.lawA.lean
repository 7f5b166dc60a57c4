/-! the law: lemmas for its cases -/
set_option maxRecDepth 100000 in
theorem o_law : e_okC code 7 (fun _ => none) k_law = true := by
  have h : ∀ {l : List e_I}, e_okC code 7 (fun _ => none) l = true → l.all (e_okI code 7 (fun _ => none)) = true := by
    intro l h
    have h' : (l.all (e_okI code 7 (fun _ => none)) && e_chain l) = true := h
    rw [Bool.and_eq_true] at h'
    exact h'.1
  show (k_law.all (e_okI code 7 (fun _ => none)) && e_chain k_law) = true
  rw [Bool.and_eq_true]
  refine ⟨?_, by decide +kernel⟩
  rw [show k_law = k_law0 ++ (k_law1 ++ (k_law2 ++ (k_law3 ++ (k_law4 ++ (k_law5 ++ (k_law6 ++ (k_law7 ++ (k_law8 ++ (k_law9))))))))) from rfl]
  simp only [List.all_append, Bool.and_eq_true]
  exact ⟨h o_law0, h o_law1, h o_law2, h o_law3, h o_law4, h o_law5, h o_law6, h o_law7, h o_law8, h o_law9⟩
theorem kpl {b n : Nat} {K : Nat → Prop} (h : K (b + n)) : k_plus b n K := by
  cases n with
  | zero => exact h
  | succ n => exact h
theorem c01_le (k : Nat) : c01 k ≤ 1 := by
  cases k with
  | zero => exact Nat.zero_le _
  | succ k => exact Nat.le_refl _
theorem oX_1 (k : Nat) (u : St) (v : Int32) : (oX k u v).1 = u.1 := by cases k <;> rfl
theorem oX_2 (k : Nat) (u : St) (v : Int32) : (oX k u v).2.1 = u.2.1 := by cases k <;> rfl
theorem oX_0 (u : St) (v : Int32) : (oX 0 u v).2.2 0 = v.toInt64 := rfl
theorem lg_same (x : Int64) : lg_cmp x x = 0 := by unfold lg_cmp; simp
/-! the reference leaves the law's long alone -/
theorem q_TN (u : St) (p : Int32) (L : List Nat) : (mTN u p L).2.2.2 = u.2.2 := by
  unfold mTN
  cases rns u with
  | false => rfl
  | true =>
    rw [cond_true]
    split <;> rfl
theorem q_mqd (a : Int32) (q : Nat) : ∀ R D u, (mqd a q R D u).2.2.2 = u.2.2 := by
  intro R
  induction R with
  | nil => intro D u; rfl
  | cons b R ih =>
    intro D u
    show (if u.2.1 20 (b + 2) = a then mqd a q R D (mdr u q R.reverse D b) else mqd a q R (b :: D) u).2.2.2 = _
    split
    · rw [ih]; rfl
    · rw [ih]
theorem q_mqs (a : Int32) (Λ : Nat → List Nat) : ∀ n q u, (mqs a Λ n q u).2.2 = u.2.2 := by
  intro n
  induction n with
  | zero => intro q u; rfl
  | succ n ih =>
    intro q u
    show (mqs a Λ n (q + 1) (mqd a q (Λ q).reverse [] u).2).2.2 = _
    rw [ih, q_mqd]
theorem q_TE (u : St) (i : Int32) (Λ : Nat → List Nat) : (mTE u i Λ).2.2.2 = u.2.2 := by
  unfold mTE
  cases rns u with
  | false => rfl
  | true =>
    rw [cond_true]
    cases inn i 0 (nI (Λ 0).length - 1) with
    | false => rfl
    | true =>
      rw [cond_true]
      show (mqs _ Λ 4 2 (uS u 20 0)).2.2 = _
      rw [q_mqs]
      rfl
theorem q_WK (u : St) (q : Int32) (Λ : Nat → List Nat) : (mWK u q Λ).2.2.2 = u.2.2 := by
  unfold mWK
  cases rns u with
  | false => rfl
  | true =>
    rw [cond_true]
    cases inn q 0 3 with
    | false => rfl
    | true =>
      rw [cond_true]
      split <;> rfl
theorem q_FI (u : St) (d : Bool) (x : Int32) : (mFI u d x).2.2.2 = u.2.2 := by
  unfold mFI
  cases rns u with
  | false => rfl
  | true =>
    rw [cond_true]
    split <;> rfl
theorem q_ME (u : St) (a : Int32) : (mME u a).2.2.2 = u.2.2 := by
  unfold mME
  cases inn a 0 255 <;> rfl
theorem q_sn (u : St) (c pg : Int32) (n pw : Nat) : (sn u c pg n pw).2.2.2 = u.2.2 := by
  unfold sn snd
  split
  · rfl
  · rfl
theorem q_mda : ∀ n p c pw u, (mda n p c pw u).2.2.2 = u.2.2 := by
  intro n
  induction n with
  | zero => intro p c pw u; exact q_sn _ _ _ _ _
  | succ n ih =>
    intro p c pw u
    have hs : (mps u c p pw).2.2.2 = u.2.2 := q_sn _ _ _ _ _
    show (cond (sto (u.2.1 20) p) (if (mps u c p pw).1 < 0 then mps u c p pw else mda n (p + 1) (c + 1) (na (mps u c p pw).1) (mps u c p pw).2) (mda n (p + 1) c pw u)).2.2.2 = _
    cases sto (u.2.1 20) p with
    | false => exact ih _ _ _ _
    | true =>
      rw [cond_true]
      split
      · exact hs
      · rw [ih]; exact hs
theorem q_DU (u : St) (p : Int32) : (mDU u p).2.2.2 = u.2.2 := by
  unfold mDU
  cases inn p 0 200 with
  | false => rfl
  | true =>
    rw [cond_true]
    split
    · rfl
    · show (mda 16 0 0 (na p) (mD0 u)).2.2.2 = _
      rw [q_mda]
      rfl
theorem q_AR (u : St) (s w : Int32) : (mAR u s w).2.2.2 = u.2.2 := by
  unfold mAR
  cases inn s 0 95 && inn w 0 7 <;> rfl
theorem q_WD (u : St) (a : Int32) : (mWD u a).2.2.2 = u.2.2 := by
  unfold mWD
  cases inn a 0 255 with
  | false => rfl
  | true =>
    rw [cond_true]
    split <;> rfl
theorem q_WA (u : St) (a : Int32) : (mWA u a).2.2.2 = u.2.2 := by
  unfold mWA
  cases inn a 0 5 with
  | false => rfl
  | true =>
    rw [cond_true]
    split <;> rfl
theorem q_BR (u : St) (a : Int32) : (mBR u a).2.2.2 = u.2.2 := by
  unfold mBR
  cases inn a 0 1 with
  | false => rfl
  | true =>
    rw [cond_true]
    split <;> rfl
theorem q_ND (u : St) (a w : Int32) (c : Nat) : (mND u a w c).2.2.2 = u.2.2 := by
  unfold mND
  cases inn w 0 2 with
  | false => rfl
  | true =>
    rw [cond_true]
    split
    · rfl
    · cases inn a 0 (nI c - 1) <;> rfl
abbrev e_PL (L : Nat) (xs : Nat → Int32) (J : e_Jt) : Prop := e_Cl 512 (fun _ => none) (e_fd S_law) (fun _ => none) (some (L, xs)) k_law (fun _ _ r _ => r = .inl (some (.int 1))) J
abbrev lvt (t : Nat) : e_L := [(0, .ref 99), (1, .ref 0), (2, .ref 15), (3, .ref 14), (4, .int (nI (3 * t)))]
theorem nI_2 (n : Nat) : nI n + 2 = nI (n + 2) := by rw [show (2 : Int32) = nI 2 from rfl, nI_add]
theorem nI_z {k : Nat} (hk : k ≤ 3) (h : nI k = 0) : k = 0 := (nI_eq (b := 0) (by omega) (by decide)).mp h
