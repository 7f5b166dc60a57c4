/-! the writer: all pages -/
def wOK (u : St) : Prop := u.1 3 = nI (na (u.1 3)) ∧ na (u.1 3) ≤ 96 ∧ u.1 4 = nI (na (u.1 4)) ∧ na (u.1 4) ≤ 200
theorem wl_in (bd f : Nat → Int32) : ∀ n k s pw ar, n ≤ cg bd (96 - s) s → s ≤ 96 → (wl bd f n k s pw ar).2.1 ≤ 96 ∧ (wl bd f n k s pw ar).2.2.1 ≤ pw := by
  intro n
  induction n with
  | zero => intro k s pw ar h1 h2; exact ⟨h2, Nat.le_refl _⟩
  | succ n ih =>
    intro k s pw ar h1 h2
    obtain ⟨b1, b2, b3⟩ := fNG_cg bd (96 - s) s (by omega)
    unfold wl
    split
    · exact ⟨h2, Nat.le_refl _⟩
    · have := ih (k + 1) (fNG bd (96 - s) s + 1) (pw - 1) (va_cpy f ar (8 * k) (8 * fNG bd (96 - s) s) 8) (by rw [show 96 - (fNG bd (96 - s) s + 1) = s + (96 - s) - (fNG bd (96 - s) s + 1) by omega]; omega) (by omega)
      exact ⟨this.1, by omega⟩
/-- writeChunk with the writer's own place and power -/
def wc (u : St) (pg : Int32) (n : Nat) : Nat × St := wch u pg n (na (u.1 3)) (na (u.1 4))
theorem wS_ok (u : St) (s pw : Nat) (ar : Nat → Int32) (h1 : s ≤ 96) (h2 : pw ≤ 200) : wOK (wS u s pw ar) := by
  have e1 : (wS u s pw ar).1 3 = nI s := rfl
  have e2 : (wS u s pw ar).1 4 = nI pw := rfl
  unfold wOK
  rw [e1, e2, na, na, nI_clamp (by omega), nI_clamp (by omega)]
  exact ⟨rfl, h1, rfl, h2⟩
theorem wOK_5 (v : St) (x : Int32) (h : wOK v) : wOK (uS v 5 x) := ⟨h.1, h.2.1, h.2.2.1, h.2.2.2⟩
theorem wc_ok (u : St) (pg : Int32) (n : Nat) (h : wOK u) : wOK (wc u pg n).2 := by
  obtain ⟨h1, h2, h3, h4⟩ := h
  unfold wc wch
  split
  next => exact ⟨h1, h2, h3, h4⟩
  next h5 =>
    dsimp only
    have h6 := wl_in (u.2.1 2) (frm (u.2.1 3) (u.1 5) pg n ((n + 11) / 8 * 8 - 1)) ((n + 11) / 8) 0 (na (u.1 3)) (na (u.1 4)) (u.2.1 1) (by omega) h2
    split
    · exact wOK_5 _ _ (wS_ok _ _ _ _ h6.1 (Nat.le_trans h6.2 h4))
    · exact wS_ok _ _ _ _ h6.1 (Nat.le_trans h6.2 h4)
theorem wc_keep (u : St) (pg : Int32) (n : Nat) : (wc u pg n).2.2.1 0 = u.2.1 0 := by
  unfold wc wch
  split
  · rfl
  · dsimp only
    split <;> rfl
/-- what is left of a dump: n pages from p on, lo left out so far -/
def wal : Nat → Nat → Nat → St → Nat × St
  | 0, _, lo, u => wc (uA u 3 (upd (upd (u.2.1 3) 3 (u.1 5)) 4 (nI lo))) (-1) 2
  | n + 1, p, lo, u => cond (sto (u.2.1 0) p) (if (wc (uA u 3 (pkg (u.2.1 0) (16 * p + 16) 16 (16 * p) 3 (u.2.1 3)).2) (nI p) ((pkg (u.2.1 0) (16 * p + 16) 16 (16 * p) 3 (u.2.1 3)).1 - 3)).1 = 0 then wal n (p + 1) lo (wc (uA u 3 (pkg (u.2.1 0) (16 * p + 16) 16 (16 * p) 3 (u.2.1 3)).2) (nI p) ((pkg (u.2.1 0) (16 * p + 16) 16 (16 * p) 3 (u.2.1 3)).1 - 3)).2 else wc (uA u 3 (pkg (u.2.1 0) (16 * p + 16) 16 (16 * p) 3 (u.2.1 3)).2) (nI p) ((pkg (u.2.1 0) (16 * p + 16) 16 (16 * p) 3 (u.2.1 3)).1 - 3)) (wal n (p + 1) (lo + 1) u)
/-- the writer at the beginning of a dump -/
def w0 (u : St) (pw : Nat) : St := uS (uS (uS (uA u 1 (ffl (u.2.1 1) 0 768 (-1))) 3 0) 4 (nI pw)) 5 0
theorem wch_le (u : St) (pg : Int32) (n s pw : Nat) : (wch u pg n s pw).1 ≤ 2 := by
  have wl2 : ∀ (bd f : Nat → Int32) n k s pw ar, (wl bd f n k s pw ar).1 ≤ 2 := by
    intro bd f n
    induction n with
    | zero => intro k s pw ar; exact Nat.zero_le _
    | succ n ih =>
      intro k s pw ar
      unfold wl
      split
      · exact Nat.le_refl _
      · exact ih _ _ _ _
  unfold wch
  split
  · exact (by decide : 1 ≤ 2)
  · exact wl2 _ _ _ _ _ _ _
def C_V_writeAll : e_C := ⟨St × Nat, 3, fun _ => 0, fun a => a.2 ≤ 200, fun a => [.ref 6, .ref 1, .int (nI a.2)], fun a => Hp a.1, fun a => .inl (some (.int (nI (wal 16 0 0 (w0 a.1 a.2)).1))), fun a => Hp (wal 16 0 0 (w0 a.1 a.2)).2⟩
def S_V_writeAll : List (Nat × e_C) := [(4, C_S_eraseAll), (37, C_K_isStored), (56, C_Q_packPage), (59, C_V_writeChunk), (104, C_V_writeChunk)]
theorem s_V_writeAll : ∀ x ∈ S_V_writeAll, e_Site b_V_writeAll "DumpDesk$Writer" 4 x.1 x.2 := List.forall_mem_cons.mpr ⟨e_siteV (y := y_S_eraseAll) (i := 29) (ci := 2) m_S_eraseAll (by decide) (by decide) (fun _ => rfl) rfl (fun a _ => ⟨_, _, _, rfl, by decide, rfl⟩) rfl (e_in3 25 rfl rfl) (e_in1 65 rfl rfl) (e_in1 3 rfl rfl) (e_in1 67 rfl rfl) (e_in1 66 rfl rfl) ⟨by decide, by decide, rfl⟩ (by decide +kernel), List.forall_mem_cons.mpr ⟨e_siteV (y := y_K_isStored) (i := 34) (ci := 1) m_K_isStored (by decide) (by decide) (fun _ => rfl) rfl (fun a _ => ⟨_, _, _, rfl, by decide, rfl⟩) rfl (e_in3 26 rfl rfl) (e_in3 27 rfl rfl) (e_in1 2 rfl rfl) (e_in3 29 rfl rfl) (e_in3 28 rfl rfl) ⟨by decide, by decide, rfl⟩ (by decide +kernel), List.forall_mem_cons.mpr ⟨e_siteS (y := y_Q_packPage) (i := 43) m_Q_packPage (by decide) (by decide) (fun _ => rfl) (e_in3 34 rfl rfl) (e_in3 35 rfl rfl) (e_in1 16 rfl rfl) (e_in3 36 rfl rfl) ⟨by decide, by decide, rfl⟩ (by decide +kernel), List.forall_mem_cons.mpr ⟨e_siteV (y := y_V_writeChunk) (i := 49) (ci := 3) m_V_writeChunk (by decide) (by decide) (fun _ => rfl) rfl (fun a _ => ⟨_, _, _, rfl, by decide, rfl⟩) rfl (e_in3 43 rfl rfl) (e_in3 44 rfl rfl) (e_in1 6 rfl rfl) (e_in3 46 rfl rfl) (e_in3 45 rfl rfl) ⟨by decide, by decide, rfl⟩ (by decide +kernel), List.forall_mem_cons.mpr ⟨e_siteV (y := y_V_writeChunk) (i := 49) (ci := 3) m_V_writeChunk (by decide) (by decide) (fun _ => rfl) rfl (fun a _ => ⟨_, _, _, rfl, by decide, rfl⟩) rfl (e_in3 43 rfl rfl) (e_in3 44 rfl rfl) (e_in1 6 rfl rfl) (e_in3 46 rfl rfl) (e_in3 45 rfl rfl) ⟨by decide, by decide, rfl⟩ (by decide +kernel), fun x hx => (by cases hx)⟩⟩⟩⟩⟩
theorem v_V_writeAll (u : St) (pw : Nat) (hp : pw ≤ 200) (J : e_Jt) (B : Nat × St) (hB : wal 16 0 0 (w0 u pw) = B) (hC : e_P0 F_V S_V_writeAll k_V_writeAll (some (.int (nI B.1))) (Hp B.2) J) : J 0 0 [(0, .ref 6), (1, .ref 1), (2, .int (nI pw))] [] (Hp u) := by
  have loop : ∀ n p lo (u1 : St), p + n = 16 → lo ≤ p → wOK u1 → wal n p lo u1 = B → J 0 27 [(0, .ref 6), (1, .ref 1), (2, .int (nI pw)), (3, .int (nI lo)), (4, .int (nI p))] [] (Hp u1) := by
    intro n
    induction n with
    | zero =>
      intro p lo u1 h1 h2 h3 h4
      have h4 : wc (uA u1 3 (upd (upd (u1.2.1 3) 3 (u1.1 5)) 4 (nI lo))) (-1) 2 = B := h4
      refine e_run hC ?_
      conv => whnf
      refine ⟨fun _ => ?_, fun h5 => absurd (nI_le (a := 16) (by omega) (by omega)) h5⟩
      refine e_run hC ?_
      conv => whnf
      refine ⟨vp_in_nI (n := 3) (by decide) (by decide), ?_⟩
      rw [show (3 : Int32).toNatClampNeg = 3 from rfl, h_a3]
      refine e_run hC ?_
      conv => whnf
      refine ⟨vp_in_nI (n := 4) (by decide) (by decide), ?_⟩
      rw [show (4 : Int32).toNatClampNeg = 4 from rfl, h_a3, uA_uA]
      refine e_run hC ?_
      conv => whnf
      refine ⟨(uA u1 3 (upd (upd (u1.2.1 3) 3 (u1.1 5)) 4 (nI lo)), -1, 2, na (u1.1 3), na (u1.1 4)), ⟨(by decide : 2 ≤ 32), h3.2.1, h3.2.2.2, h3.1, h3.2.2.1⟩, rfl, rfl, ?_⟩
      conv => whnf
      dsimp only [C_V_writeChunk]
      refine e_run hC ?_
      conv => whnf
      rw [← h4]
      exact ⟨rfl, rfl⟩
    | succ n ih =>
      intro p lo u1 h1 h2 h3 h4
      unfold wal at h4
      refine e_run hC ?_
      conv => whnf
      refine ⟨fun h5 => absurd h5 (nI_ge (b := 16) (by omega) (by decide)), fun _ => ?_⟩
      refine e_run hC ?_
      conv => whnf
      refine ⟨(u1, p), (by omega : p < 16), rfl, rfl, ?_⟩
      conv => whnf
      dsimp only [C_K_isStored]
      refine e_run hC ?_
      conv => whnf
      refine ⟨fun h5 => ?_, fun h5 => ?_⟩
      · rw [bi0.mp h5, cond_false] at h4
        refine e_run hC ?_
        conv => whnf
        rw [nI_1, nI_1]
        exact ih (p + 1) (lo + 1) u1 (by omega) (by omega) h3 h4
      · rw [bi1 h5, cond_true] at h4
        obtain ⟨pk, hpk⟩ : ∃ z, z = pkg (u1.2.1 0) (16 * p + 16) 16 (16 * p) 3 (u1.2.1 3) := ⟨_, rfl⟩
        have hle := pkg_le (u1.2.1 0) (16 * p + 16) 16 (16 * p) 3 (u1.2.1 3) (by omega)
        rw [← hpk] at h4 hle
        refine e_run hC ?_
        conv => whnf
        refine ⟨(u1, p), (by omega : p < 16), rfl, rfl, ?_⟩
        conv => whnf
        dsimp only [C_Q_packPage]
        rw [← hpk]
        refine e_run hC ?_
        conv => whnf
        refine ⟨(uA u1 3 pk.2, nI p, pk.1 - 3, na (u1.1 3), na (u1.1 4)), ⟨by show pk.1 - 3 ≤ 32; omega, h3.2.1, h3.2.2.2, h3.1, h3.2.2.1⟩, rfl, rfl, ?_⟩
        conv => whnf
        dsimp only [C_V_writeChunk]
        have hok := wc_ok (uA u1 3 pk.2) (nI p) (pk.1 - 3) h3
        have hr2 := wch_le (uA u1 3 pk.2) (nI p) (pk.1 - 3) (na (u1.1 3)) (na (u1.1 4))
        have hwc : wc (uA u1 3 pk.2) (nI p) (pk.1 - 3) = wch (uA u1 3 pk.2) (nI p) (pk.1 - 3) (na (u1.1 3)) (na (u1.1 4)) := rfl
        rw [hwc] at h4 hok
        generalize wch (uA u1 3 pk.2) (nI p) (pk.1 - 3) (na (u1.1 3)) (na (u1.1 4)) = r at h4 hok hr2 ⊢
        refine e_run hC ?_
        conv => whnf
        refine ⟨fun h6 => ?_, fun h6 => ?_⟩
        · have h6 : r.1 = 0 := (nI_eq (b := 0) (by omega) (by decide)).mp h6
          rw [if_pos h6] at h4
          refine e_run hC ?_
          conv => whnf
          refine e_run hC ?_
          conv => whnf
          rw [nI_1]
          exact e_weak hC [0, 1, 2, 3, 4] rfl rfl (ih (p + 1) lo r.2 (by omega) (by omega) hok h4)
        · have h6 : ¬ r.1 = 0 := fun z => h6 (by rw [z]; rfl)
          rw [if_neg h6] at h4
          refine e_run hC ?_
          conv => whnf
          rw [← h4]
          exact ⟨rfl, rfl⟩
  refine e_run hC ?_
  conv => whnf
  refine ⟨u, trivial, rfl, rfl, ?_⟩
  conv => whnf
  dsimp only [C_S_eraseAll]
  refine e_run hC ?_
  conv => whnf
  rw [h_s3]
  refine e_run hC ?_
  conv => whnf
  rw [h_s4]
  refine e_run hC ?_
  conv => whnf
  rw [h_s5]
  refine e_runTo 27 hC ?_
  conv => whnf
  refine loop 16 0 0 (w0 u pw) rfl (Nat.le_refl _) ?_ hB
  have e1 : (w0 u pw).1 3 = nI 0 := rfl
  have e2 : (w0 u pw).1 4 = nI pw := rfl
  unfold wOK
  rw [e1, e2, na, na, nI_clamp (by omega), nI_clamp (by omega)]
  exact ⟨rfl, by decide, rfl, hp⟩
theorem m_V_writeAll (l : Launch) (hl : l.stackTraces = false) : e_Met l y_V_writeAll b_V_writeAll 6 (some .int) 4 C_V_writeAll :=
  e_met hl F_V C_V S_V_writeAll k_V_writeAll (by decide +kernel) f_V c_V s_V_writeAll o_V_writeAll (fun a _ => ⟨Nat.le_of_ble_eq_true rfl, rfl⟩) (fun a hp => ⟨_, rfl, Or.inr ⟨.int, _, rfl, rfl, rfl⟩, fun J hC => v_V_writeAll a.1 a.2 hp J _ rfl hC⟩)
