/-! the reference: unpack, attach -/
theorem l_pos {c : Int32} (h : ¬ c < 0) : c.toInt64 = lN (ab c) := by
  have h1 : 0 ≤ c.toInt := by
    have := Int32.le_iff_toInt_le.mp (Int32.not_lt.mp h)
    exact this
  have h2 := Int32.toInt_lt c
  rw [← Int64.toInt_inj, Int32.toInt_toInt64, pk_lT (by unfold ab; omega)]
  unfold ab
  omega
theorem l_neg {c : Int32} (h : c < 0) : -c.toInt64 = lN (ab c) := by
  have h1 : c.toInt < 0 := Int32.lt_iff_toInt_lt.mp h
  have h2 := Int32.le_toInt c
  rw [← Int64.toInt_inj, Int64.toInt_neg, Int32.toInt_toInt64, pk_lT (by unfold ab; omega)]
  unfold ab
  rw [Int.bmod_eq_of_le (by omega) (by omega)]
  omega
theorem ab_lt (c : Int32) : ab c ≤ 2 ^ 31 := by
  have h1 := Int32.le_toInt c
  have h2 := Int32.toInt_lt c
  unfold ab
  omega
theorem ab_nn {c : Int32} (h : ¬ c < 0) : c = nI (ab c) := by
  have h1 : ¬ c.toInt < 0 := fun z => h (Int32.lt_iff_toInt_lt.mpr z)
  have h2 := Int32.toInt_lt c
  exact (eq_nI (by unfold ab; omega)).mpr (by unfold ab; omega)
def mup (f : Nat → Int32) (e : Nat) : Nat → Nat → Nat → (Nat → Int32) → Bool × (Nat → Int32)
  | 0, _, _, w => (false, w)
  | q + 1, t, g, w => if t < e then (if f t = 0 ∨ 16 < g + ab (f t) ∨ e < t + 1 + (if f t < 0 then 1 else ab (f t)) then (false, w) else if f t < 0 then mup f e q (t + 2) (g + ab (f t)) (ffl w g (g + ab (f t)) (f (t + 1))) else mup f e q (t + 1 + ab (f t)) (g + ab (f t)) (va_cpy f w (t + 1) g (ab (f t)))) else (decide (g = 16), w)
def C_M_unpack : e_C := ⟨St × Nat, 1, fun _ => 0, fun a => a.2 ≤ 32 ∧ a.1.2.1 26 2 = nI a.2, fun _ => [.ref 15], fun a => Hp a.1, fun a => .inl (some (.int (bi (mup (a.1.2.1 26) (3 + a.2) 20 3 0 (a.1.2.1 29)).1))), fun a => Hp (uA a.1 29 (mup (a.1.2.1 26) (3 + a.2) 20 3 0 (a.1.2.1 29)).2)⟩
def S_M_unpack : List (Nat × e_C) := []
theorem s_M_unpack : ∀ x ∈ S_M_unpack, e_Site b_M_unpack "DumpDeskModel" 0 x.1 x.2 := fun x hx => (by cases hx)
theorem v_M_unpack (u : St) (n : Nat) (hp : n ≤ 32 ∧ u.2.1 26 2 = nI n) (J : e_Jt) (B : Bool × (Nat → Int32)) (hB : mup (u.2.1 26) (3 + n) 20 3 0 (u.2.1 29) = B) (hC : e_P0 F_M S_M_unpack k_M_unpack (some (.int (bi B.1))) (Hp (uA u 29 B.2)) J) : J 0 0 [(0, .ref 15)] [] (Hp u) := by
  obtain ⟨h1, h2⟩ := hp
  have no : ∀ lv (w : Nat → Int32), B = (false, w) → lv_pick lv [0] = [(0, .ref 15)] → J 0 83 lv [] (Hp (uA u 29 w)) := by
    intro lv w h3 h4
    refine e_weak hC [0] h4 rfl ?_
    refine e_run hC ?_
    conv => whnf
    rw [h3]
    exact ⟨rfl, rfl⟩
  have loop : ∀ q t g (w : Nat → Int32), 3 + n < t + 2 * q → 3 ≤ t → t ≤ 3 + n → g ≤ 16 → mup (u.2.1 26) (3 + n) q t g w = B → J 0 13 [(0, .ref 15), (1, .int (nI (3 + n))), (2, .int (nI t)), (3, .int (nI g))] [] (Hp (uA u 29 w)) := by
    intro q
    induction q with
    | zero => intro t g w k1 k2 k3 k4 k5; omega
    | succ q ih =>
      intro t g w k1 k2 k3 k4 k5
      unfold mup at k5
      by_cases k6 : t < 3 + n
      · rw [if_pos k6] at k5
        refine e_run hC ?_
        conv => whnf
        refine ⟨fun h => absurd h (nI_ge (by omega) (by omega)), fun _ => ?_⟩
        refine e_run hC ?_
        conv => whnf
        refine ⟨vp_in_nI (by omega) (by decide), ?_⟩
        rw [nI_clamp (by omega)]
        simp only [pA, pS, pAs, pSa, Nat.reduceEqDiff, reduceIte]
        have hab := ab_lt (u.2.1 26 t)
        -- behind the length
        have mid : J 0 44 [(0, .ref 15), (1, .int (nI (3 + n))), (2, .int (nI (t + 1))), (3, .int (nI g)), (4, .int (u.2.1 26 t))] [.long (lN (ab (u.2.1 26 t)))] (Hp (uA u 29 w)) := by
          have rest : ¬ u.2.1 26 t = 0 → ¬ 16 < g + ab (u.2.1 26 t) → ∀ x : Nat, x = (if u.2.1 26 t < 0 then 1 else ab (u.2.1 26 t)) → J 0 76 [(0, .ref 15), (1, .int (nI (3 + n))), (2, .int (nI (t + 1))), (3, .int (nI g)), (4, .int (u.2.1 26 t)), (5, .long (lN (ab (u.2.1 26 t))))] [.long (lN x), .long (lN (t + 1))] (Hp (uA u 29 w)) := by
            intro r1 r2 x r3
            refine e_run hC ?_
            conv => whnf
            rw [lN_add, nI_l (by omega)]
            have hx : x < 2 ^ 33 := by rw [r3]; split <;> omega
            refine ⟨fun h => ?_, fun h => ?_⟩
            · have h := (pk_lLE (by omega) (by omega)).mp ((lg_cmp_le _ _).mp h)
              rw [if_neg (by
                rw [← r3]
                rintro (z | z | z)
                · exact r1 z
                · omega
                · omega)] at k5
              have a1 := ab_ne0 r1
              have cpl : ∀ (W : Nat → Int32), (∀ j, (j < g ∨ g + ab (u.2.1 26 t) ≤ j) → W j = w j) → (∀ i, i < ab (u.2.1 26 t) → W (g + i) = u.2.1 26 (if u.2.1 26 t < 0 then t + 1 else t + 1 + i)) → mup (u.2.1 26) (3 + n) q (t + 1 + x) (g + ab (u.2.1 26 t)) W = B → ∀ p i z, i + p = ab (u.2.1 26 t) → (∀ j, (g + i ≤ j → z j = w j) ∧ (j < g + i → z j = W j)) → J 0 88 [(0, .ref 15), (1, .int (nI (3 + n))), (2, .int (nI (t + 1))), (3, .int (nI g)), (4, .int (u.2.1 26 t)), (5, .long (lN (ab (u.2.1 26 t)))), (7, .int (nI i))] [] (Hp (uA u 29 z)) := by
                intro W w1 w2 w3 p
                induction p with
                | zero =>
                  intro i z i1 i2
                  have e1 : z = W := by
                    funext j
                    by_cases hj : j < g + i
                    · exact (i2 j).2 hj
                    · rw [(i2 j).1 (by omega), w1 j (by omega)]
                  have fin : J 0 151 [(0, .ref 15), (1, .int (nI (3 + n))), (2, .int (nI (t + 1))), (3, .int (nI (g + ab (u.2.1 26 t)))), (4, .int (u.2.1 26 t)), (5, .long (lN (ab (u.2.1 26 t)))), (7, .int (nI i))] [.int (nI (t + 1 + x))] (Hp (uA u 29 z)) := by
                    refine e_run hC ?_
                    conv => whnf
                    refine e_weak hC [0, 1, 2, 3] rfl rfl ?_
                    rw [e1]
                    refine ih (t + 1 + x) (g + ab (u.2.1 26 t)) W ?_ (by omega) (by omega) (by omega) w3
                    have : 1 ≤ x := by rw [r3]; split <;> omega
                    omega
                  refine e_run hC ?_
                  conv => whnf
                  rw [nI_l (by omega)]
                  refine ⟨fun _ => ?_, fun h9 => absurd ((lg_cmp_ge _ _).mpr ((pk_lLE (by omega) (by omega)).mpr (by omega))) h9⟩
                  refine e_run hC ?_
                  conv => whnf
                  rw [lN_i, nI_add]
                  refine ⟨fun h9 => ?_, fun h9 => ?_⟩
                  · have h9 : ¬ u.2.1 26 t < 0 := Int32.not_lt.mpr h9
                    rw [if_neg h9] at r3
                    refine e_runTo 151 hC ?_
                    conv => whnf
                    have e3 : nI (t + 1) + u.2.1 26 t = nI (t + 1 + x) := by
                      conv => lhs; rw [ab_nn h9]
                      rw [nI_add, r3]
                    rw [e3]
                    exact fin
                  · have h9 : u.2.1 26 t < 0 := Int32.not_le.mp h9
                    rw [if_pos h9] at r3
                    refine e_runTo 151 hC ?_
                    conv => whnf
                    rw [nI_1, show t + 1 + 1 = t + 1 + x by omega]
                    exact fin
                | succ p ihp =>
                  intro i z i1 i2
                  have put : ∀ d, d = (if u.2.1 26 t < 0 then t + 1 else t + 1 + i) → J 0 122 [(0, .ref 15), (1, .int (nI (3 + n))), (2, .int (nI (t + 1))), (3, .int (nI g)), (4, .int (u.2.1 26 t)), (5, .long (lN (ab (u.2.1 26 t)))), (7, .int (nI i))] [.int (nI d), .ref 22, .int (nI (g + i)), .ref 25] (Hp (uA u 29 z)) := by
                    intro d hd
                    have hd2 : d ≤ 3 + n := by
                      rw [hd]
                      split
                      · omega
                      next h9 =>
                        rw [if_neg h9] at r3
                        omega
                    refine e_run hC ?_
                    conv => whnf
                    refine ⟨vp_in_nI (by omega) (by decide), ?_⟩
                    rw [nI_clamp (by omega)]
                    simp only [pA, pS, pAs, pSa, Nat.reduceEqDiff, reduceIte]
                    refine e_run hC ?_
                    conv => whnf
                    refine ⟨vp_in_nI (by omega) (by decide), ?_⟩
                    rw [nI_clamp (by omega), h_a29, uA_uA]
                    refine e_run hC ?_
                    conv => whnf
                    rw [nI_1]
                    refine ihp (i + 1) _ (by omega) (fun j => ⟨fun hj => ?_, fun hj => ?_⟩)
                    · show upd z (g + i) (u.2.1 26 d) j = _
                      rw [pk_un (by omega)]
                      exact (i2 j).1 (by omega)
                    · show upd z (g + i) (u.2.1 26 d) j = _
                      by_cases hj2 : j = g + i
                      · rw [hj2, pk_us, w2 i (by omega), hd]
                      · rw [pk_un hj2]
                        exact (i2 j).2 (by omega)
                  refine e_run hC ?_
                  conv => whnf
                  rw [nI_l (by omega)]
                  refine ⟨fun h9 => ?_, fun _ => ?_⟩
                  · have := (pk_lLE (by omega) (by omega)).mp ((lg_cmp_ge _ _).mp h9)
                    omega
                  refine e_run hC ?_
                  conv => whnf
                  rw [nI_add]
                  refine ⟨fun h9 => ?_, fun h9 => ?_⟩
                  · have h9 : ¬ u.2.1 26 t < 0 := Int32.not_lt.mpr h9
                    refine e_runTo 122 hC ?_
                    conv => whnf
                    rw [nI_add]
                    exact put _ (by rw [if_neg h9])
                  · have h9 : u.2.1 26 t < 0 := Int32.not_le.mp h9
                    refine e_runTo 122 hC ?_
                    conv => whnf
                    exact put _ (by rw [if_pos h9])
              refine e_runTo 88 hC ?_
              conv => whnf
              by_cases h9 : u.2.1 26 t < 0
              · rw [if_pos h9] at k5 r3
                refine cpl (ffl w g (g + ab (u.2.1 26 t)) (u.2.1 26 (t + 1))) ?_ ?_ ?_ (ab (u.2.1 26 t)) 0 w (by omega) (fun j => ⟨fun _ => rfl, fun hj => ?_⟩)
                · intro j hj
                  unfold ffl
                  rw [if_neg (by omega)]
                · intro i hi
                  unfold ffl
                  rw [if_pos (by omega), if_pos h9]
                · rw [r3]
                  exact k5
                · unfold ffl
                  rw [if_neg (by omega)]
              · rw [if_neg h9] at k5 r3
                refine cpl (va_cpy (u.2.1 26) w (t + 1) g (ab (u.2.1 26 t))) ?_ ?_ ?_ (ab (u.2.1 26 t)) 0 w (by omega) (fun j => ⟨fun _ => rfl, fun hj => ?_⟩)
                · intro j hj
                  exact pk_cpy_out (by omega)
                · intro i hi
                  rw [pk_cpy_in (by omega) (by omega), if_neg h9]
                  exact congrArg _ (by omega)
                · rw [r3]
                  exact k5
                · exact (pk_cpy_out (by omega)).symm
            · have h : ¬ t + 1 + x ≤ 3 + n := fun z => h ((lg_cmp_le _ _).mpr ((pk_lLE (by omega) (by omega)).mpr z))
              rw [if_pos (by rw [← r3]; exact Or.inr (Or.inr (by omega)))] at k5
              exact no _ w k5.symm rfl
          refine e_run hC ?_
          conv => whnf
          refine ⟨fun h => no _ w (by rw [if_pos (Or.inl h)] at k5; exact k5.symm) rfl, fun h => ?_⟩
          refine e_run hC ?_
          conv => whnf
          rw [nI_l (by omega), lN_add]
          refine ⟨fun h7 => ?_, fun h7 => ?_⟩
          · have h7 := (pk_lLT (a := 16) (by omega) (by omega)).mp ((lg_cmp_gt _ _).mp h7)
            exact no _ w (by rw [if_pos (Or.inr (Or.inl h7))] at k5; exact k5.symm) rfl
          · have h7 : ¬ 16 < g + ab (u.2.1 26 t) := fun z => h7 ((lg_cmp_gt _ _).mpr ((pk_lLT (a := 16) (by omega) (by omega)).mpr z))
            refine e_run hC ?_
            conv => whnf
            rw [nI_l (by omega)]
            refine ⟨fun h8 => ?_, fun h8 => ?_⟩
            · have h8 : ¬ u.2.1 26 t < 0 := Int32.not_lt.mpr h8
              refine e_runTo 76 hC ?_
              conv => whnf
              exact rest h h7 _ (by rw [if_neg h8])
            · have h8 : u.2.1 26 t < 0 := Int32.not_le.mp h8
              refine e_runTo 76 hC ?_
              conv => whnf
              exact rest h h7 1 (by rw [if_pos h8])
        refine e_run hC ?_
        conv => whnf
        rw [nI_1]
        refine ⟨fun h => ?_, fun h => ?_⟩
        · refine e_runTo 44 hC ?_
          conv => whnf
          rw [l_pos (Int32.not_lt.mpr h)]
          exact mid
        · refine e_runTo 44 hC ?_
          conv => whnf
          rw [l_neg (Int32.not_le.mp h)]
          exact mid
      · rw [if_neg k6] at k5
        refine e_run hC ?_
        conv => whnf
        refine ⟨fun _ => ?_, fun h => absurd (nI_le (by omega) (by omega)) h⟩
        refine e_run hC ?_
        conv => whnf
        refine ⟨fun h => ?_, fun h => ?_⟩
        · have h : ¬ g = 16 := fun z => h (by rw [z]; rfl)
          rw [decide_eq_false h] at k5
          refine e_run hC ?_
          conv => whnf
          rw [← k5]
          exact ⟨rfl, rfl⟩
        · have h : g = 16 := (nI_eq (b := 16) (by omega) (by decide)).mp h
          rw [decide_eq_true h] at k5
          refine e_run hC ?_
          conv => whnf
          refine e_run hC ?_
          conv => whnf
          rw [← k5]
          exact ⟨rfl, rfl⟩
  refine e_run hC ?_
  conv => whnf
  refine ⟨vp_in_nI (n := 2) (by decide) (by decide), ?_⟩
  rw [show (2 : Int32).toNatClampNeg = 2 from rfl, h2]
  refine e_runTo 13 hC ?_
  conv => whnf
  rw [show (3 : Int32) = nI 3 from rfl, nI_add]
  have h0 := loop 20 3 0 (u.2.1 29) (by omega) (Nat.le_refl _) (by omega) (by omega) hB
  rw [uA_self] at h0
  exact h0
theorem m_M_unpack (l : Launch) (hl : l.stackTraces = false) : e_Met l y_M_unpack b_M_unpack 8 (some .boolean) 0 C_M_unpack :=
  e_met hl F_M C_M S_M_unpack k_M_unpack (by decide +kernel) f_M c_M s_M_unpack o_M_unpack (fun a _ => ⟨Nat.le_of_ble_eq_true rfl, rfl⟩) (fun a hp => ⟨_, rfl, Or.inr ⟨.boolean, _, rfl, rfl, bi_ok _⟩, fun J hC => v_M_unpack a.1 a.2 hp J _ rfl hC⟩)
theorem mR_29 (u : St) (f h : Nat → Int32) (z s : Nat) : uA (mR u f z s) 29 h = mR (uA u 29 h) f z s := by
  show uS (uS (uA (uA u 26 f) 29 h) 24 (nI z)) 25 (nI s) = _
  rw [uA_comm u 26 29 f h rfl]
  rfl
theorem mR_27 (u : St) (f h : Nat → Int32) (z s : Nat) : uA (mR u f z s) 27 h = mR (uA u 27 h) f z s := by
  show uS (uS (uA (uA u 26 f) 27 h) 24 (nI z)) 25 (nI s) = _
  rw [uA_comm u 26 27 f h rfl]
  rfl
theorem mR_28 (u : St) (f h : Nat → Int32) (z s : Nat) : uA (mR u f z s) 28 h = mR (uA u 28 h) f z s := by
  show uS (uS (uA (uA u 26 f) 28 h) 24 (nI z)) 25 (nI s) = _
  rw [uA_comm u 26 28 f h rfl]
  rfl
/-- a page that was right is added -/
def mad (v : St) (p : Nat) (q : Nat → Int32) : St := uA (uA (uA v 29 q) 27 (va_cpy q (v.2.1 27) 0 (16 * p) 16)) 28 (upd (v.2.1 28) p 1)
/-- chunk after chunk: n more at most, m behind, the page before b -/
def mat : Nat → Nat → Int32 → St → (Nat → Int32) → Nat → Nat → Int32 × St
  | 0, _, _, v, f, z, s => (0, mR v f z s)
  | n + 1, m, b, v, f, _, s =>
    cond (prC (v.2.1 24) (v.2.1 25) f m b s).1
      (if (prC (v.2.1 24) (v.2.1 25) f m b s).2.1 1 < 0 then (if (prC (v.2.1 24) (v.2.1 25) f m b s).2.1 3 = nI m then 100 + nI m else nI m, mR v (prC (v.2.1 24) (v.2.1 25) f m b s).2.1 (8 * (prC (v.2.1 24) (v.2.1 25) f m b s).2.2.1) (prC (v.2.1 24) (v.2.1 25) f m b s).2.2.2)
      else cond (mup (prC (v.2.1 24) (v.2.1 25) f m b s).2.1 (3 + na ((prC (v.2.1 24) (v.2.1 25) f m b s).2.1 2)) 20 3 0 (v.2.1 29)).1
        (mat n (m + 1) ((prC (v.2.1 24) (v.2.1 25) f m b s).2.1 1) (mad v (na ((prC (v.2.1 24) (v.2.1 25) f m b s).2.1 1)) (mup (prC (v.2.1 24) (v.2.1 25) f m b s).2.1 (3 + na ((prC (v.2.1 24) (v.2.1 25) f m b s).2.1 2)) 20 3 0 (v.2.1 29)).2) (prC (v.2.1 24) (v.2.1 25) f m b s).2.1 (8 * (prC (v.2.1 24) (v.2.1 25) f m b s).2.2.1) (prC (v.2.1 24) (v.2.1 25) f m b s).2.2.2)
        (nI m, mR (uA v 29 (mup (prC (v.2.1 24) (v.2.1 25) f m b s).2.1 (3 + na ((prC (v.2.1 24) (v.2.1 25) f m b s).2.1 2)) 20 3 0 (v.2.1 29)).2) (prC (v.2.1 24) (v.2.1 25) f m b s).2.1 (8 * (prC (v.2.1 24) (v.2.1 25) f m b s).2.2.1) (prC (v.2.1 24) (v.2.1 25) f m b s).2.2.2))
      (nI m, mR v (prC (v.2.1 24) (v.2.1 25) f m b s).2.1 (8 * (prC (v.2.1 24) (v.2.1 25) f m b s).2.2.1) (prC (v.2.1 24) (v.2.1 25) f m b s).2.2.2)
def mA0 (u : St) : St := uS (uS (uS (uA (uS u 20 0) 28 (ffl (u.2.1 28) 0 16 0)) 26 1) 27 0) 25 0
def mAT (u : St) : Int32 × St := mat 17 0 (-1) (mA0 u) (u.2.1 26) (na (u.1 24)) 0
def C_M_attach : e_C := ⟨St, 1, fun _ => 0, fun a => a.1 24 = nI (na (a.1 24)), fun _ => [.ref 15], fun a => Hp a, fun a => .inl (some (.int (mAT a).1)), fun a => Hp (mAT a).2⟩
def S_M_attach : List (Nat × e_C) := [(48, C_M_readChunk), (85, C_M_unpack)]
theorem s_M_attach : ∀ x ∈ S_M_attach, e_Site b_M_attach "DumpDeskModel" 3 x.1 x.2 := List.forall_mem_cons.mpr ⟨e_siteV (y := y_M_readChunk) (i := 141) (ci := 6) m_M_readChunk (by decide) (by decide) (fun _ => rfl) rfl (fun a _ => ⟨_, _, _, rfl, by decide, rfl⟩) rfl (e_in4 79 rfl rfl) (e_in4 81 rfl rfl) (e_in1 8 rfl rfl) (e_in4 82 rfl rfl) (e_inP 19 rfl rfl) ⟨by decide, by decide, rfl⟩ (by decide +kernel), List.forall_mem_cons.mpr ⟨e_siteV (y := y_M_unpack) (i := 145) (ci := 6) m_M_unpack (by decide) (by decide) (fun _ => rfl) rfl (fun a _ => ⟨_, _, _, rfl, by decide, rfl⟩) rfl (e_in4 87 rfl rfl) (e_in4 89 rfl rfl) (e_in1 8 rfl rfl) (e_in4 90 rfl rfl) (e_inP 21 rfl rfl) ⟨by decide, by decide, rfl⟩ (by decide +kernel), fun x hx => (by cases hx)⟩⟩
theorem v_M_attach (u : St) (hp : u.1 24 = nI (na (u.1 24))) (J : e_Jt) (B : Int32 × St) (hB : mAT u = B) (hC : e_P0 F_M S_M_attach k_M_attach (some (.int B.1)) (Hp B.2) J) : J 0 0 [(0, .ref 15)] [] (Hp u) := by
  have loop : ∀ (n m : Nat) (b : Int32) (v : St) (f : Nat → Int32) (z s : Nat), m + n = 17 → -1 ≤ b.toInt → b.toInt ≤ 15 → (m : Int) ≤ b.toInt + 1 → s ≤ 96 → mat n m b v f z s = B → J 0 45 [(0, .ref 15), (1, .int (nI m)), (2, .int b)] [] (Hp (mR v f z s)) := by
    intro n
    induction n with
    | zero => intro m b v f z s h1 h2 h3 h4 h5 h6; omega
    | succ n ih =>
      intro m b v f z s h1 h2 h3 h4 h5 h6
      unfold mat at h6
      refine e_run hC ?_
      conv => whnf
      refine ⟨(v, f, z, s, m, b), ⟨h5, h2, h3⟩, rfl, rfl, ?_⟩
      conv => whnf
      dsimp only [C_M_readChunk]
      have hin := prC_in (v.2.1 24) (v.2.1 25) f m b s h5
      generalize prC (v.2.1 24) (v.2.1 25) f m b s = r at h6 hin ⊢
      obtain ⟨rb, g, k, t⟩ := r
      dsimp only at h6 hin ⊢
      obtain ⟨i1, i2⟩ := hin
      refine e_run hC ?_
      conv => whnf
      refine ⟨fun h7 => ?_, fun h7 => ?_⟩
      · rw [bi0.mp h7, cond_false] at h6
        refine e_run hC ?_
        conv => whnf
        rw [← h6]
        exact ⟨rfl, rfl⟩
      · have h7 := bi1 h7
        have i2 := i2 h7
        rw [h7, cond_true] at h6
        refine e_run hC ?_
        conv => whnf
        refine ⟨vp_in_nI (n := 1) (by decide) (by decide), ?_⟩
        rw [show (mR v g (8 * k) t).2.1 26 (1 : Int32).toNatClampNeg = g 1 from rfl]
        refine e_run hC ?_
        conv => whnf
        refine ⟨fun h8 => ?_, fun h8 => ?_⟩
        · have h8 : ¬ g 1 < 0 := Int32.not_lt.mpr h8
          rw [if_neg h8] at h6
          have h9 : ¬ g 1 = -1 := fun y => h8 (by rw [y]; decide)
          obtain ⟨g1, g2, g3⟩ := hft_2 i2
          obtain ⟨g4, g5⟩ := hft_1 i2 h9 h2
          have g6 : b.toInt < (g 1).toInt := by
            unfold hft at i2
            rw [if_neg h9] at i2
            simp only [Bool.and_eq_true, decide_eq_true_eq] at i2
            exact Int32.lt_iff_toInt_lt.mp i2.1
          generalize na (g 2) = c at g1 g2 g3 h6
          refine e_run hC ?_
          conv => whnf
          refine ⟨(mR v g (8 * k) t, c), ⟨g2, g1⟩, rfl, rfl, ?_⟩
          conv => whnf
          dsimp only [C_M_unpack]
          rw [show (mR v g (8 * k) t).2.1 26 = g from rfl, show (mR v g (8 * k) t).2.1 29 = v.2.1 29 from rfl, mR_29]
          generalize mup g (3 + c) 20 3 0 (v.2.1 29) = q at h6 ⊢
          obtain ⟨qb, un⟩ := q
          dsimp only at h6 ⊢
          refine e_run hC ?_
          conv => whnf
          refine ⟨fun h10 => ?_, fun h10 => ?_⟩
          · rw [bi1 h10, cond_true] at h6
            generalize hpg : na (g 1) = p at g4 g5 h6
            have cpl : ∀ q i w, i + q = 16 → (∀ j, (16 * p + i ≤ j → w j = v.2.1 27 j) ∧ (j < 16 * p + i → w j = va_cpy un (v.2.1 27) 0 (16 * p) 16 j)) → J 0 96 [(0, .ref 15), (1, .int (nI m)), (2, .int b), (3, .int (nI p)), (4, .int (nI i))] [] (Hp (mR (uA (uA v 29 un) 27 w) g (8 * k) t)) := by
              intro q
              induction q with
              | zero =>
                intro i w j1 j2
                have e1 : w = va_cpy un (v.2.1 27) 0 (16 * p) 16 := by
                  funext j
                  by_cases hj : j < 16 * p + i
                  · exact (j2 j).2 hj
                  · rw [(j2 j).1 (by omega), pk_cpy_out (by omega)]
                refine e_run hC ?_
                conv => whnf
                refine ⟨fun _ => ?_, fun h9 => absurd (nI_le (a := 16) (by omega) (by omega)) h9⟩
                refine e_run hC ?_
                conv => whnf
                refine ⟨vp_in_nI (by omega) (by decide), ?_⟩
                rw [nI_clamp (by omega), h_a28, mR_28]
                refine e_run hC ?_
                conv => whnf
                rw [nI_1]
                refine e_weak hC [0, 1, 2] rfl rfl ?_
                rw [e1]
                rw [g4] at h6 g6
                rw [nI_toInt (by omega)] at g6
                exact ih (m + 1) (nI p) _ g (8 * k) t (by omega) (by rw [nI_toInt (by omega)]; omega) (by rw [nI_toInt (by omega)]; omega) (by rw [nI_toInt (by omega)]; omega) i1 h6
              | succ q ihq =>
                intro i w j1 j2
                refine e_run hC ?_
                conv => whnf
                refine ⟨fun h9 => absurd h9 (nI_ge (b := 16) (by omega) (by omega)), fun _ => ?_⟩
                refine e_run hC ?_
                conv => whnf
                refine ⟨vp_in_nI (by omega) (by decide), ?_⟩
                rw [nI_clamp (by omega)]
                refine e_run hC ?_
                conv => whnf
                rw [m16l, nI_add]
                refine ⟨vp_in_nI (by omega) (by decide), ?_⟩
                rw [nI_clamp (by omega), h_a27, mR_27, uA_uA]
                refine e_run hC ?_
                conv => whnf
                rw [nI_1]
                refine ihq (i + 1) _ (by omega) (fun j => ⟨fun hj => ?_, fun hj => ?_⟩)
                · show upd w (16 * p + i) (un i) j = _
                  rw [pk_un (by omega)]
                  exact (j2 j).1 (by omega)
                · show upd w (16 * p + i) (un i) j = _
                  by_cases hj2 : j = 16 * p + i
                  · rw [hj2, pk_us, pk_cpy_in (by omega) (by omega)]
                    exact congrArg _ (by omega)
                  · rw [pk_un hj2]
                    exact (j2 j).2 (by omega)
            refine e_runTo 96 hC ?_
            conv => whnf
            have h0 := cpl 16 0 (v.2.1 27) rfl (fun j => ⟨fun _ => rfl, fun hj => (pk_cpy_out (by omega)).symm⟩)
            rw [show uA (uA v 29 un) 27 (v.2.1 27) = uA v 29 un from uA_self (uA v 29 un) 27, ← g4] at h0
            exact h0
          · rw [bi0.mp h10, cond_false] at h6
            refine e_run hC ?_
            conv => whnf
            rw [← h6]
            exact ⟨rfl, rfl⟩
        · have h8 : g 1 < 0 := Int32.not_le.mp h8
          rw [if_pos h8] at h6
          refine e_run hC ?_
          conv => whnf
          refine ⟨vp_in_nI (n := 3) (by decide) (by decide), ?_⟩
          rw [show (mR v g (8 * k) t).2.1 26 (3 : Int32).toNatClampNeg = g 3 from rfl]
          refine e_run hC ?_
          conv => whnf
          refine ⟨fun h9 => ?_, fun h9 => ?_⟩
          · rw [if_neg h9] at h6
            refine e_run hC ?_
            conv => whnf
            rw [← h6]
            exact ⟨rfl, rfl⟩
          · rw [if_pos h9] at h6
            refine e_run hC ?_
            conv => whnf
            refine e_run hC ?_
            conv => whnf
            rw [← h6]
            exact ⟨rfl, rfl⟩
  have er : ∀ n k f, k + n = 16 → ffl f k 16 0 = ffl (u.2.1 28) 0 16 0 → J 0 7 [(0, .ref 15), (1, .int (nI k))] [] (Hp (uA (uS u 20 0) 28 f)) := by
    intro n
    induction n with
    | zero =>
      intro k f h3 h4
      rw [show k = 16 by omega, ffl_end] at h4
      refine e_run hC ?_
      conv => whnf
      refine ⟨fun _ => ?_, fun h => absurd (nI_le (a := 16) (by omega) (by omega)) h⟩
      refine e_run hC ?_
      conv => whnf
      refine ⟨⟨rfl, rfl⟩, ?_⟩
      conv => whnf
      rw [h_s26]
      refine e_run hC ?_
      conv => whnf
      refine ⟨⟨rfl, rfl⟩, ?_⟩
      conv => whnf
      rw [h_s27]
      refine e_run hC ?_
      conv => whnf
      rw [h_s25, h4]
      refine e_runTo 45 hC ?_
      conv => whnf
      have h0 := loop 17 0 (-1) (mA0 u) (u.2.1 26) (na (u.1 24)) 0 rfl (by decide) (by decide) (by decide) (by decide) hB
      have e1 : mR (mA0 u) (u.2.1 26) (na (u.1 24)) 0 = mA0 u := by
        unfold mR
        rw [← hp, show uA (mA0 u) 26 (u.2.1 26) = mA0 u from uA_self (mA0 u) 26, show uS (mA0 u) 24 (u.1 24) = mA0 u from uS_self (mA0 u) 24]
        exact uS_self (mA0 u) 25
      rw [e1] at h0
      exact h0
    | succ n ih =>
      intro k f h3 h4
      refine e_run hC ?_
      conv => whnf
      refine ⟨fun h => absurd h (nI_ge (b := 16) (by omega) (by decide)), fun _ => ?_⟩
      refine e_run hC ?_
      conv => whnf
      refine ⟨vp_in_nI (by omega) (by decide), ?_⟩
      rw [nI_clamp (by omega), h_a28, uA_uA]
      refine e_run hC ?_
      conv => whnf
      rw [nI_1]
      refine ih (k + 1) _ (by omega) ?_
      rw [← h4]
      exact ffl_step f _ _ 0 (by omega)
  refine e_run hC ?_
  conv => whnf
  rw [h_s20]
  refine e_runTo 7 hC ?_
  conv => whnf
  have h0 := er 16 0 (u.2.1 28) rfl rfl
  rw [show uA (uS u 20 0) 28 (u.2.1 28) = uS u 20 0 from uA_self (uS u 20 0) 28] at h0
  exact h0
theorem m_M_attach (l : Launch) (hl : l.stackTraces = false) : e_Met l y_M_attach b_M_attach 5 (some .int) 3 C_M_attach :=
  e_met hl F_M C_M S_M_attach k_M_attach (by decide +kernel) f_M c_M s_M_attach o_M_attach (fun a _ => ⟨Nat.le_of_ble_eq_true rfl, rfl⟩) (fun a hp => ⟨_, rfl, Or.inr ⟨.int, _, rfl, rfl, rfl⟩, fun J hC => v_M_attach a hp J _ rfl hC⟩)
