/-! the writer -/
/-- a chunk framed: number, page, length, zeros, sum -/
def frm (f : Nat → Int32) (c pg : Int32) (n last : Nat) : Nat → Int32 :=
  upd (ffl (upd (upd (upd f 0 (50000 + c)) 1 pg) 2 (nI n)) (3 + n) last 0) last (sm (ffl (upd (upd (upd f 0 (50000 + c)) 1 pg) 2 (nI n)) (3 + n) last 0) last)
def C_V_frameChunk : e_C := ⟨St × Int32 × Nat × Nat, 4, fun _ => 0, fun a => 3 + a.2.2.1 ≤ a.2.2.2 ∧ a.2.2.2 < 40, fun a => [.ref 6, .int a.2.1, .int (nI a.2.2.1), .int (nI a.2.2.2)], fun a => Hp a.1, fun _ => .inl none, fun a => Hp (uA a.1 3 (frm (a.1.2.1 3) (a.1.1 5) a.2.1 a.2.2.1 a.2.2.2))⟩
def S_V_frameChunk : List (Nat × e_C) := [(36, C_A_fill4_7), (49, C_G_sumOf_7)]
theorem s_V_frameChunk : ∀ x ∈ S_V_frameChunk, e_Site b_V_frameChunk "DumpDesk$Writer" 2 x.1 x.2 := List.forall_mem_cons.mpr ⟨e_siteS (y := y_A_fill4) (i := 74) m_A_fill4_7 (by decide) (by decide) (fun _ => rfl) (e_in3 57 rfl rfl) (e_in1 231 rfl rfl) (e_in1 4 rfl rfl) (e_in1 232 rfl rfl) ⟨by decide, by decide, rfl⟩ (by decide +kernel), List.forall_mem_cons.mpr ⟨e_siteS (y := y_G_sumOf) (i := 80) m_G_sumOf_7 (by decide) (by decide) (fun _ => rfl) (e_in3 58 rfl rfl) (e_in1 222 rfl rfl) (e_in1 18 rfl rfl) (e_in1 223 rfl rfl) ⟨by decide, by decide, rfl⟩ (by decide +kernel), fun x hx => (by cases hx)⟩⟩
theorem v_V_frameChunk (u : St) (pg : Int32) (n last : Nat) (hp : 3 + n ≤ last ∧ last < 40) (J : e_Jt) (hC : e_P0 F_V S_V_frameChunk k_V_frameChunk none (Hp (uA u 3 (frm (u.2.1 3) (u.1 5) pg n last))) J) : J 0 0 [(0, .ref 6), (1, .int pg), (2, .int (nI n)), (3, .int (nI last))] [] (Hp u) := by
  obtain ⟨h1, h2⟩ := hp
  refine e_run hC ?_
  conv => whnf
  refine ⟨vp_in_nI (n := 0) (by decide) (by decide), ?_⟩
  rw [show (0 : Int32).toNatClampNeg = 0 from rfl, h_a3]
  refine e_run hC ?_
  conv => whnf
  refine ⟨vp_in_nI (n := 1) (by decide) (by decide), ?_⟩
  rw [show (1 : Int32).toNatClampNeg = 1 from rfl, h_a3, uA_uA]
  refine e_run hC ?_
  conv => whnf
  refine ⟨vp_in_nI (n := 2) (by decide) (by decide), ?_⟩
  rw [show (2 : Int32).toNatClampNeg = 2 from rfl, h_a3, uA_uA]
  refine e_run hC ?_
  conv => whnf
  refine ⟨(uA u 3 (upd (upd (upd (u.2.1 3) 0 (50000 + u.1 5)) 1 pg) 2 (nI n)), 3 + n, last, 0), ⟨h1, by show last ≤ 40; omega⟩, ?_, rfl, ?_⟩
  · show [Value.ref 7, .int (nI (3 + n)), .int (nI last), .int 0] = [Value.ref 7, .int (3 + nI n), .int (nI last), .int 0]
    rw [show (3 : Int32) = nI 3 from rfl, nI_add]
  conv => whnf
  dsimp only [C_A_fill4_7]
  rw [uA_uA]
  refine e_run hC ?_
  conv => whnf
  refine ⟨(uA u 3 (ffl (upd (upd (upd (u.2.1 3) 0 (50000 + u.1 5)) 1 pg) 2 (nI n)) (3 + n) last 0), last), (by omega : last ≤ 40), rfl, rfl, ?_⟩
  conv => whnf
  dsimp only [C_G_sumOf_7]
  refine e_run hC ?_
  conv => whnf
  refine ⟨vp_in_nI (by omega) (by decide), ?_⟩
  rw [nI_clamp (by omega), h_a3, uA_uA]
  refine e_run hC ?_
  conv => whnf
  exact ⟨rfl, rfl⟩
theorem m_V_frameChunk (l : Launch) (hl : l.stackTraces = false) : e_Met l y_V_frameChunk b_V_frameChunk 4 none 2 C_V_frameChunk :=
  e_met hl F_V C_V S_V_frameChunk k_V_frameChunk (by decide +kernel) f_V c_V s_V_frameChunk o_V_frameChunk (fun a _ => ⟨Nat.le_of_ble_eq_true rfl, rfl⟩) (fun a hp => ⟨_, rfl, Or.inl ⟨rfl, rfl⟩, v_V_frameChunk a.1 a.2.1 a.2.2.1 a.2.2.2 hp⟩)
theorem uS_uS (u : St) (k : Nat) (x y : Int32) : uS (uS u k x) k y = uS u k y := by
  unfold uS
  congr 1
  funext j
  show cond (Nat.beq j k) y (cond (Nat.beq j k) x (u.1 j)) = cond (Nat.beq j k) y (u.1 j)
  cases Nat.beq j k <;> rfl
theorem uS_self (u : St) (k : Nat) : uS u k (u.1 k) = u := by
  unfold uS
  congr 1
  funext j
  cases h : Nat.beq j k with
  | false => rfl
  | true => rw [Nat.eq_of_beq_eq_true h]; rfl
theorem uS_comm (u : St) (j k : Nat) (x y : Int32) (h : Nat.beq j k = false) : uS (uS u j x) k y = uS (uS u k y) j x := by
  unfold uS
  congr 1
  funext i
  show cond (Nat.beq i k) y (cond (Nat.beq i j) x (u.1 i)) = cond (Nat.beq i j) x (cond (Nat.beq i k) y (u.1 i))
  cases h1 : Nat.beq i k with
  | false => rfl
  | true =>
    cases h2 : Nat.beq i j with
    | false => rfl
    | true =>
      rw [Nat.eq_of_beq_eq_true h1] at h2
      rw [Nat.eq_of_beq_eq_true h2] at h
      rw [show Nat.beq j j = true from Nat.beq_refl j] at h
      cases h
/-- the writer's place, power and area -/
def wS (u : St) (s pw : Nat) (ar : Nat → Int32) : St := uS (uS (uA u 1 ar) 3 (nI s)) 4 (nI pw)
/-- the sectors of a chunk f are written: n left, from the k-th on, at sector s, with power pw -/
def wl (bd f : Nat → Int32) : Nat → Nat → Nat → Nat → (Nat → Int32) → Nat × Nat × Nat × (Nat → Int32)
  | 0, _, s, pw, ar => (0, s, pw, ar)
  | n + 1, k, s, pw, ar => if pw = 0 then (2, s, pw, ar) else wl bd f n (k + 1) (fNG bd (96 - s) s + 1) (pw - 1) (va_cpy f ar (8 * k) (8 * fNG bd (96 - s) s) 8)
theorem fNG_cg (bd : Nat → Int32) : ∀ n s, 1 ≤ cg bd n s → fNG bd n s < s + n ∧ s ≤ fNG bd n s ∧ cg bd (s + n - (fNG bd n s + 1)) (fNG bd n s + 1) + 1 = cg bd n s := by
  intro n
  induction n with
  | zero => intro s h; exact absurd (show 1 ≤ 0 from h) (by decide)
  | succ n ih =>
    intro s h
    have h : 1 ≤ (if bd s = 0 then 1 else 0) + cg bd n (s + 1) := h
    show (if bd s = 0 then s else fNG bd n (s + 1)) < s + (n + 1) ∧ s ≤ (if bd s = 0 then s else fNG bd n (s + 1)) ∧ cg bd (s + (n + 1) - ((if bd s = 0 then s else fNG bd n (s + 1)) + 1)) ((if bd s = 0 then s else fNG bd n (s + 1)) + 1) + 1 = (if bd s = 0 then 1 else 0) + cg bd n (s + 1)
    by_cases h1 : bd s = 0
    · rw [if_pos h1, if_pos h1]
      refine ⟨by omega, by omega, ?_⟩
      rw [show s + (n + 1) - (s + 1) = n by omega]
      omega
    · rw [if_neg h1, if_neg h1]
      rw [if_neg h1] at h
      obtain ⟨a1, a2, a3⟩ := ih (s + 1) (by omega)
      refine ⟨by omega, by omega, ?_⟩
      rw [show s + (n + 1) = s + 1 + n by omega]
      omega
/-- what writeChunk answers and leaves -/
def wch (u : St) (pg : Int32) (n s pw : Nat) : Nat × St :=
  if cg (u.2.1 2) (96 - s) s < (n + 11) / 8 then (1, u) else
    let f := frm (u.2.1 3) (u.1 5) pg n ((n + 11) / 8 * 8 - 1)
    let r := wl (u.2.1 2) f ((n + 11) / 8) 0 s pw (u.2.1 1)
    (r.1, if r.1 = 0 then uS (wS (uA u 3 f) r.2.1 r.2.2.1 r.2.2.2) 5 (u.1 5 + 1) else wS (uA u 3 f) r.2.1 r.2.2.1 r.2.2.2)
def C_V_writeChunk : e_C := ⟨St × Int32 × Nat × Nat × Nat, 3, fun _ => 0, fun a => a.2.2.1 ≤ 32 ∧ a.2.2.2.1 ≤ 96 ∧ a.2.2.2.2 ≤ 200 ∧ a.1.1 3 = nI a.2.2.2.1 ∧ a.1.1 4 = nI a.2.2.2.2, fun a => [.ref 6, .int a.2.1, .int (nI a.2.2.1)], fun a => Hp a.1, fun a => .inl (some (.int (nI (wch a.1 a.2.1 a.2.2.1 a.2.2.2.1 a.2.2.2.2).1))), fun a => Hp (wch a.1 a.2.1 a.2.2.1 a.2.2.2.1 a.2.2.2.2).2⟩
def S_V_writeChunk : List (Nat × e_C) := [(1, C_G_sectorsFor), (13, C_S_countGood), (31, C_V_frameChunk), (70, C_S_nextGood), (90, C_S_put)]
theorem s_V_writeChunk : ∀ x ∈ S_V_writeChunk, e_Site b_V_writeChunk "DumpDesk$Writer" 3 x.1 x.2 := List.forall_mem_cons.mpr ⟨e_siteS (y := y_G_sectorsFor) (i := 53) m_G_sectorsFor (by decide) (by decide) (fun _ => rfl) (e_in3 47 rfl rfl) (e_in1 219 rfl rfl) (e_in1 18 rfl rfl) (e_in1 220 rfl rfl) ⟨by decide, by decide, rfl⟩ (by decide +kernel), List.forall_mem_cons.mpr ⟨e_siteV (y := y_S_countGood) (i := 59) (ci := 2) m_S_countGood (by decide) (by decide) (fun _ => rfl) rfl (fun a _ => ⟨_, _, _, rfl, by decide, rfl⟩) rfl (e_in3 48 rfl rfl) (e_in3 49 rfl rfl) (e_in1 3 rfl rfl) (e_in3 51 rfl rfl) (e_in3 50 rfl rfl) ⟨by decide, by decide, rfl⟩ (by decide +kernel), List.forall_mem_cons.mpr ⟨e_siteV (y := y_V_frameChunk) (i := 62) (ci := 3) m_V_frameChunk (by decide) (by decide) (fun _ => rfl) rfl (fun a _ => ⟨_, _, _, rfl, by decide, rfl⟩) rfl (e_in3 52 rfl rfl) (e_in3 53 rfl rfl) (e_in1 6 rfl rfl) (e_in3 55 rfl rfl) (e_in3 54 rfl rfl) ⟨by decide, by decide, rfl⟩ (by decide +kernel), List.forall_mem_cons.mpr ⟨e_siteV (y := y_S_nextGood) (i := 66) (ci := 2) m_S_nextGood (by decide) (by decide) (fun _ => rfl) rfl (fun a _ => ⟨_, _, _, rfl, by decide, rfl⟩) rfl (e_in3 59 rfl rfl) (e_in1 203 rfl rfl) (e_in1 3 rfl rfl) (e_in1 205 rfl rfl) (e_in1 204 rfl rfl) ⟨by decide, by decide, rfl⟩ (by decide +kernel), List.forall_mem_cons.mpr ⟨e_siteV (y := y_S_put) (i := 69) (ci := 2) m_S_put (by decide) (by decide) (fun _ => rfl) rfl (fun a _ => ⟨_, _, _, rfl, by decide, rfl⟩) rfl (e_in3 60 rfl rfl) (e_in3 61 rfl rfl) (e_in1 3 rfl rfl) (e_in3 63 rfl rfl) (e_in3 62 rfl rfl) ⟨by decide, by decide, rfl⟩ (by decide +kernel), fun x hx => (by cases hx)⟩⟩⟩⟩⟩
theorem v_V_writeChunk (u : St) (pg : Int32) (n s0 pw0 : Nat) (hp : n ≤ 32 ∧ s0 ≤ 96 ∧ pw0 ≤ 200 ∧ u.1 3 = nI s0 ∧ u.1 4 = nI pw0) (J : e_Jt) (B : Nat × St) (hB : wch u pg n s0 pw0 = B) (hC : e_P0 F_V S_V_writeChunk k_V_writeChunk (some (.int (nI B.1))) (Hp B.2) J) : J 0 0 [(0, .ref 6), (1, .int pg), (2, .int (nI n))] [] (Hp u) := by
  obtain ⟨h1, h2, h3, h4, h5⟩ := hp
  have hm := cg_le (u.2.1 2) (96 - s0) s0
  refine e_run hC ?_
  conv => whnf
  refine ⟨(Hp u, n), h1, rfl, rfl, ?_⟩
  conv => whnf
  dsimp only [C_G_sectorsFor]
  refine e_run hC ?_
  conv => whnf
  refine ⟨(u, s0), h2, ?_, rfl, ?_⟩
  · show [Value.ref 3, .int (nI s0)] = [Value.ref 3, .int (u.1 3)]
    rw [h4]
  conv => whnf
  dsimp only [C_S_countGood]
  unfold wch at hB
  refine e_run hC ?_
  conv => whnf
  refine ⟨fun h6 => ?_, fun h6 => ?_⟩
  · have h6 := (nI_leI (by omega) (by omega)).mp h6
    rw [if_neg (by omega)] at hB
    obtain ⟨f, hf⟩ : ∃ f, f = frm (u.2.1 3) (u.1 5) pg n ((n + 11) / 8 * 8 - 1) := ⟨_, rfl⟩
    rw [← hf] at hB
    dsimp only at hB
    obtain ⟨Rw, hR⟩ : ∃ r, r = wl (u.2.1 2) f ((n + 11) / 8) 0 s0 pw0 (u.2.1 1) := ⟨_, rfl⟩
    rw [← hR] at hB
    have loop : ∀ m k s pw ar, k + m = (n + 11) / 8 → s ≤ 96 → pw ≤ 200 → m ≤ cg (u.2.1 2) (96 - s) s → wl (u.2.1 2) f m k s pw ar = Rw → J 0 37 [(0, .ref 6), (1, .int pg), (2, .int (nI n)), (3, .int (nI ((n + 11) / 8))), (4, .int (nI k))] [] (Hp (wS (uA u 3 f) s pw ar)) := by
      intro m
      induction m with
      | zero =>
        intro k s pw ar g1 g2 g3 g4 g5
        have g5 : (0, s, pw, ar) = Rw := g5
        rw [← g5] at hB
        refine e_run hC ?_
        conv => whnf
        refine ⟨fun _ => ?_, fun g6 => absurd (nI_le (by omega) (by omega)) g6⟩
        refine e_run hC ?_
        conv => whnf
        rw [h_s5]
        refine e_run hC ?_
        conv => whnf
        rw [← hB]
        exact ⟨rfl, rfl⟩
      | succ m ih =>
        intro k s pw ar g1 g2 g3 g4 g5
        have g5 : (if pw = 0 then (2, s, pw, ar) else wl (u.2.1 2) f m (k + 1) (fNG (u.2.1 2) (96 - s) s + 1) (pw - 1) (va_cpy f ar (8 * k) (8 * fNG (u.2.1 2) (96 - s) s) 8)) = Rw := g5
        obtain ⟨b1, b2, b3⟩ := fNG_cg (u.2.1 2) (96 - s) s (by omega)
        refine e_run hC ?_
        conv => whnf
        refine ⟨fun g6 => absurd g6 (nI_ge (by omega) (by omega)), fun _ => ?_⟩
        refine e_run hC ?_
        conv => whnf
        refine ⟨fun g6 => ?_, fun g6 => ?_⟩
        · have g6 : pw ≠ 0 := fun z => g6 (by rw [z]; rfl)
          rw [if_neg g6] at g5
          refine e_run hC ?_
          conv => whnf
          rw [h_s4]
          refine e_run hC ?_
          conv => whnf
          refine ⟨(uS (wS (uA u 3 f) s pw ar) 4 (nI pw - 1), s), g2, rfl, rfl, ?_⟩
          conv => whnf
          dsimp only [C_S_nextGood]
          rw [show (uS (wS (uA u 3 f) s pw ar) 4 (nI pw - 1)).2.1 2 = u.2.1 2 from rfl]
          refine e_run hC ?_
          conv => whnf
          refine ⟨(uS (wS (uA u 3 f) s pw ar) 4 (nI pw - 1), fNG (u.2.1 2) (96 - s) s, 8 * k), ⟨by show fNG (u.2.1 2) (96 - s) s < 96; omega, by show 8 * k + 8 ≤ 40; omega⟩, ?_, rfl, ?_⟩
          · show [Value.ref 3, .int (nI (fNG (u.2.1 2) (96 - s) s)), .ref 7, .int (nI (8 * k))] = [Value.ref 3, .int (nI (fNG (u.2.1 2) (96 - s) s)), .ref 7, .int (nI k * 8)]
            rw [m8]
          conv => whnf
          dsimp only [C_S_put]
          refine e_run hC ?_
          conv => whnf
          rw [h_s3]
          refine e_run hC ?_
          conv => whnf
          refine e_weak hC [0, 1, 2, 3, 4] rfl rfl ?_
          rw [nI_1, nI_1, show (1 : Int32) = nI 1 from rfl, pk_sub (by omega)]
          have e1 : uS (uA (uS (wS (uA u 3 f) s pw ar) 4 (nI (pw - 1))) 1 (va_cpy ((uS (wS (uA u 3 f) s pw ar) 4 (nI (pw - 1))).2.1 3) ((uS (wS (uA u 3 f) s pw ar) 4 (nI (pw - 1))).2.1 1) (8 * k) (8 * fNG (u.2.1 2) (96 - s) s) 8)) 3 (nI (fNG (u.2.1 2) (96 - s) s + 1)) = wS (uA u 3 f) (fNG (u.2.1 2) (96 - s) s + 1) (pw - 1) (va_cpy f ar (8 * k) (8 * fNG (u.2.1 2) (96 - s) s) 8) := by
            show uS (uS (uS (uS (uA (uA (uA u 3 f) 1 ar) 1 (va_cpy f ar (8 * k) (8 * fNG (u.2.1 2) (96 - s) s) 8)) 3 (nI s)) 4 (nI pw)) 4 (nI (pw - 1))) 3 (nI (fNG (u.2.1 2) (96 - s) s + 1)) = _
            rw [uA_uA, uS_uS, uS_comm _ 3 4 _ _ rfl, uS_uS, uS_comm _ 4 3 _ _ rfl]
            rfl
          rw [e1]
          refine ih (k + 1) (fNG (u.2.1 2) (96 - s) s + 1) (pw - 1) _ (by omega) (by omega) (by omega) ?_ g5
          rw [show 96 - (fNG (u.2.1 2) (96 - s) s + 1) = s + (96 - s) - (fNG (u.2.1 2) (96 - s) s + 1) by omega]
          omega
        · have g6 : pw = 0 := (nI_eq (b := 0) (by omega) (by decide)).mp g6
          rw [if_pos g6] at g5
          rw [← g5] at hB
          refine e_run hC ?_
          conv => whnf
          rw [← hB]
          exact ⟨rfl, rfl⟩
    refine e_run hC ?_
    conv => whnf
    refine ⟨(u, pg, n, (n + 11) / 8 * 8 - 1), ⟨by show 3 + n ≤ (n + 11) / 8 * 8 - 1; omega, by show (n + 11) / 8 * 8 - 1 < 40; omega⟩, ?_, rfl, ?_⟩
    · show [Value.ref 6, .int pg, .int (nI n), .int (nI ((n + 11) / 8 * 8 - 1))] = [Value.ref 6, .int pg, .int (nI n), .int (nI ((n + 11) / 8) * 8 - 1)]
      rw [show (8 : Int32) = nI 8 from rfl, pk_mul, show (1 : Int32) = nI 1 from rfl, pk_sub (by omega)]
    conv => whnf
    dsimp only [C_V_frameChunk]
    rw [← hf]
    refine e_runTo 37 hC ?_
    conv => whnf
    have h0 := loop ((n + 11) / 8) 0 s0 pw0 (u.2.1 1) (by omega) h2 h3 h6 hR.symm
    have e0 : wS (uA u 3 f) s0 pw0 (u.2.1 1) = uA u 3 f := by
      unfold wS
      rw [← h4, ← h5]
      rw [show u.2.1 1 = (uA u 3 f).2.1 1 from rfl, uA_self, show u.1 3 = (uA u 3 f).1 3 from rfl, uS_self, show u.1 4 = (uA u 3 f).1 4 from rfl, uS_self]
    rw [e0] at h0
    exact h0
  · have h6 : ¬ (n + 11) / 8 ≤ cg (u.2.1 2) (96 - s0) s0 := fun z => h6 ((nI_leI (by omega) (by omega)).mpr z)
    rw [if_pos (by omega)] at hB
    refine e_run hC ?_
    conv => whnf
    rw [← hB]
    exact ⟨rfl, rfl⟩
theorem m_V_writeChunk (l : Launch) (hl : l.stackTraces = false) : e_Met l y_V_writeChunk b_V_writeChunk 6 (some .int) 3 C_V_writeChunk :=
  e_met hl F_V C_V S_V_writeChunk k_V_writeChunk (by decide +kernel) f_V c_V s_V_writeChunk o_V_writeChunk (fun a _ => ⟨Nat.le_of_ble_eq_true rfl, rfl⟩) (fun a hp => ⟨_, rfl, Or.inr ⟨.int, _, rfl, rfl, rfl⟩, fun J hC => v_V_writeChunk a.1 a.2.1 a.2.2.1 a.2.2.2.1 a.2.2.2.2 hp J _ rfl hC⟩)
