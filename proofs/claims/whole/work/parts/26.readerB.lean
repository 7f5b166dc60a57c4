/-! the reader: a chunk, all chunks -/
def rOK (u : St) : Prop := u.1 6 = nI (na (u.1 6)) ∧ na (u.1 6) ≤ 96
theorem rs_ok (u : St) (k : Nat) (h : rOK u) : rOK (rs u (na (u.1 6)) k).2 := by
  unfold rs
  split
  next h1 =>
    have e1 : ∀ (v : St) (x : Int32), (uS v 6 x).1 6 = x := fun _ _ => rfl
    generalize fNG (u.2.1 2) (96 - na (u.1 6)) (na (u.1 6)) = g at h1 ⊢
    unfold rOK
    rw [e1]
    have e2 : na (nI (g + 1)) = g + 1 := nI_clamp (by omega)
    rw [e2]
    exact ⟨rfl, by omega⟩
  next => exact h
/-- sectors k, k + 1 .. of a chunk are read, n of them -/
def rl : Nat → Nat → St → Bool × St
  | 0, _, u => (true, u)
  | n + 1, k, u => cond (rs u (na (u.1 6)) k).1 (rl n (k + 1) (rs u (na (u.1 6)) k).2) (false, (rs u (na (u.1 6)) k).2)
theorem rl_ok : ∀ n k u, rOK u → rOK (rl n k u).2 := by
  intro n
  induction n with
  | zero => intro k u h; exact h
  | succ n ih =>
    intro k u h
    have h1 := rs_ok u k h
    unfold rl
    cases (rs u (na (u.1 6)) k).1 with
    | false => exact h1
    | true => exact ih _ _ h1
/-- the end of a chunk's reading: the sum -/
def rE (r : Bool × St) (n : Nat) : Bool × St := cond r.1 (decide (r.2.2.1 4 ((n + 11) / 8 * 8 - 1) = sm (r.2.2.1 4) ((n + 11) / 8 * 8 - 1)), r.2) (false, r.2)
/-- a chunk is read: behind its first sector -/
def rH (u : St) (m : Nat) (b : Int32) : Bool × St := if u.2.1 4 0 = 50000 + nI m then cond (hft (u.2.1 4) b) (rE (rl ((na (u.2.1 4 2) + 11) / 8 - 1) 1 u) (na (u.2.1 4 2))) (false, u) else (false, u)
def rC (u : St) (m : Nat) (b : Int32) : Bool × St := cond (rs u (na (u.1 6)) 0).1 (rH (rs u (na (u.1 6)) 0).2 m b) (false, (rs u (na (u.1 6)) 0).2)
theorem hft_2 {f : Nat → Int32} {b : Int32} (h : hft f b = true) : f 2 = nI (na (f 2)) ∧ na (f 2) ≤ 32 ∧ 1 ≤ na (f 2) := by
  have key : ∀ x : Int32, 1 ≤ x → x ≤ 32 → x = nI (na x) ∧ na x ≤ 32 ∧ 1 ≤ na x := by
    intro x h1 h2
    have h1 : (1 : Int) ≤ x.toInt := (nI_le2 (k := 1) (by decide)).mp h1
    have h2 : x.toInt ≤ 32 := (le_nI (k := 32) (by decide)).mp h2
    obtain ⟨p, hp, rfl⟩ : ∃ p : Nat, p < 2 ^ 31 ∧ x = nI p := ⟨x.toInt.toNat, by omega, (eq_nI (by omega)).mpr (by omega)⟩
    rw [nI_toInt hp] at h1 h2
    rw [na, nI_clamp hp]
    exact ⟨rfl, by omega, by omega⟩
  unfold hft at h
  split at h
  · rw [of_decide_eq_true h]
    exact ⟨rfl, by decide, by decide⟩
  · simp only [Bool.and_eq_true, decide_eq_true_eq] at h
    exact key _ h.2.2.1 h.2.2.2
theorem rl_head : ∀ n k u j, j < 8 → 1 ≤ k → (rl n k u).2.2.1 4 j = u.2.1 4 j := by
  intro n
  induction n with
  | zero => intro k u j h1 h2; rfl
  | succ n ih =>
    intro k u j h1 h2
    have h3 : (rs u (na (u.1 6)) k).2.2.1 4 j = u.2.1 4 j := by
      unfold rs
      split
      · show va_cpy (u.2.1 1) (u.2.1 4) (8 * fNG (u.2.1 2) (96 - na (u.1 6)) (na (u.1 6))) (8 * k) 8 j = u.2.1 4 j
        unfold va_cpy
        rw [if_neg (by omega)]
      · rfl
    unfold rl
    cases (rs u (na (u.1 6)) k).1 with
    | false => exact h3
    | true => exact (ih _ _ j h1 (by omega)).trans h3
def C_U_readChunk : e_C := ⟨St × Nat × Int32, 3, fun _ => 0, fun a => a.2.1 ≤ 16 ∧ rOK a.1, fun a => [.ref 8, .int (nI a.2.1), .int a.2.2], fun a => Hp a.1, fun a => .inl (some (.int (bi (rC a.1 a.2.1 a.2.2).1))), fun a => Hp (rC a.1 a.2.1 a.2.2).2⟩
def S_U_readChunk : List (Nat × e_C) := [(2, C_U_readSector), (23, C_U_headFits), (37, C_G_sectorsFor), (53, C_U_readSector), (88, C_G_sumOf_9)]
theorem s_U_readChunk : ∀ x ∈ S_U_readChunk, e_Site b_U_readChunk "DumpDesk$Reader" 4 x.1 x.2 := List.forall_mem_cons.mpr ⟨e_siteV (y := y_U_readSector) (i := 53) (ci := 4) m_U_readSector (by decide) (by decide) (fun _ => rfl) rfl (fun a _ => ⟨_, _, _, rfl, by decide, rfl⟩) rfl (e_in1 198 rfl rfl) (e_in1 199 rfl rfl) (e_in1 7 rfl rfl) (e_in1 201 rfl rfl) (e_in1 200 rfl rfl) ⟨by decide, by decide, rfl⟩ (by decide +kernel), List.forall_mem_cons.mpr ⟨e_siteV (y := y_U_headFits) (i := 58) (ci := 4) m_U_headFits (by decide) (by decide) (fun _ => rfl) rfl (fun a _ => ⟨_, _, _, rfl, by decide, rfl⟩) rfl (e_in1 214 rfl rfl) (e_in1 215 rfl rfl) (e_in1 7 rfl rfl) (e_in1 217 rfl rfl) (e_in1 216 rfl rfl) ⟨by decide, by decide, rfl⟩ (by decide +kernel), List.forall_mem_cons.mpr ⟨e_siteS (y := y_G_sectorsFor) (i := 61) m_G_sectorsFor (by decide) (by decide) (fun _ => rfl) (e_in1 218 rfl rfl) (e_in1 219 rfl rfl) (e_in1 18 rfl rfl) (e_in1 220 rfl rfl) ⟨by decide, by decide, rfl⟩ (by decide +kernel), List.forall_mem_cons.mpr ⟨e_siteV (y := y_U_readSector) (i := 53) (ci := 4) m_U_readSector (by decide) (by decide) (fun _ => rfl) rfl (fun a _ => ⟨_, _, _, rfl, by decide, rfl⟩) rfl (e_in1 198 rfl rfl) (e_in1 199 rfl rfl) (e_in1 7 rfl rfl) (e_in1 201 rfl rfl) (e_in1 200 rfl rfl) ⟨by decide, by decide, rfl⟩ (by decide +kernel), List.forall_mem_cons.mpr ⟨e_siteS (y := y_G_sumOf) (i := 67) m_G_sumOf_9 (by decide) (by decide) (fun _ => rfl) (e_in1 221 rfl rfl) (e_in1 222 rfl rfl) (e_in1 18 rfl rfl) (e_in1 223 rfl rfl) ⟨by decide, by decide, rfl⟩ (by decide +kernel), fun x hx => (by cases hx)⟩⟩⟩⟩⟩
theorem v_U_readChunk (u : St) (m : Nat) (b : Int32) (hp : m ≤ 16 ∧ rOK u) (J : e_Jt) (B : Bool × St) (hB : rC u m b = B) (hC : e_P0 F_U S_U_readChunk k_U_readChunk (some (.int (bi B.1))) (Hp B.2) J) : J 0 0 [(0, .ref 8), (1, .int (nI m)), (2, .int b)] [] (Hp u) := by
  obtain ⟨h1, h2⟩ := hp
  have no : ∀ v : St, B = (false, v) → J 0 29 [(0, .ref 8), (1, .int (nI m)), (2, .int b)] [] (Hp v) := by
    intro v h
    refine e_run hC ?_
    conv => whnf
    rw [h]
    exact ⟨rfl, rfl⟩
  unfold rC at hB
  have hok := rs_ok u 0 h2
  refine e_run hC ?_
  conv => whnf
  refine ⟨(u, na (u.1 6), 0), ⟨h2.2, (by decide : 0 < 5), h2.1⟩, rfl, rfl, ?_⟩
  conv => whnf
  dsimp only [C_U_readSector]
  generalize rs u (na (u.1 6)) 0 = r at hB hok ⊢
  obtain ⟨rb, v⟩ := r
  dsimp only at hB hok ⊢
  refine e_run hC ?_
  conv => whnf
  refine ⟨fun h3 => no v (by rw [bi0.mp h3] at hB; exact hB.symm), fun h3 => ?_⟩
  rw [bi1 h3, cond_true] at hB
  unfold rH at hB
  refine e_run hC ?_
  conv => whnf
  refine ⟨vp_in_nI (n := 0) (by decide) (by decide), ?_⟩
  rw [show (0 : Int32).toNatClampNeg = 0 from rfl]
  refine e_run hC ?_
  conv => whnf
  refine ⟨fun h4 => no v (by rw [if_neg h4] at hB; exact hB.symm), fun h4 => ?_⟩
  rw [if_pos h4] at hB
  refine e_run hC ?_
  conv => whnf
  refine ⟨(v, b), trivial, rfl, rfl, ?_⟩
  conv => whnf
  dsimp only [C_U_headFits]
  refine e_run hC ?_
  conv => whnf
  refine ⟨fun h5 => ?_, fun h5 => no v (by rw [bi0.mp h5] at hB; exact hB.symm)⟩
  have h5 := bi1 h5
  rw [h5, cond_true] at hB
  obtain ⟨g1, g2, g3⟩ := hft_2 h5
  generalize na (v.2.1 4 2) = n at g1 g2 g3 hB
  have loop : ∀ q k (v1 : St), k + q = (n + 11) / 8 → 1 ≤ k → rOK v1 → rE (rl q k v1) n = B → J 0 44 [(0, .ref 8), (1, .int (nI m)), (2, .int b), (3, .int (nI ((n + 11) / 8))), (4, .int (nI k))] [] (Hp v1) := by
    intro q
    induction q with
    | zero =>
      intro k v1 k1 k2 k3 k4
      have k4 : (decide (v1.2.1 4 ((n + 11) / 8 * 8 - 1) = sm (v1.2.1 4) ((n + 11) / 8 * 8 - 1)), v1) = B := k4
      refine e_run hC ?_
      conv => whnf
      refine ⟨fun _ => ?_, fun k5 => absurd (nI_le (by omega) (by omega)) k5⟩
      have e1 : nI ((n + 11) / 8) * 8 - 1 = nI ((n + 11) / 8 * 8 - 1) := by rw [show (8 : Int32) = nI 8 from rfl, pk_mul, show (1 : Int32) = nI 1 from rfl, pk_sub (by omega)]
      refine e_run hC ?_
      conv => whnf
      rw [e1]
      refine ⟨vp_in_nI (by omega) (by decide), ?_⟩
      rw [nI_clamp (by omega)]
      refine e_run hC ?_
      conv => whnf
      refine ⟨(v1, (n + 11) / 8 * 8 - 1), (by omega : (n + 11) / 8 * 8 - 1 ≤ 40), rfl, rfl, ?_⟩
      conv => whnf
      dsimp only [C_G_sumOf_9]
      refine e_run hC ?_
      conv => whnf
      refine ⟨fun k5 => ?_, fun k5 => ?_⟩
      · rw [decide_eq_false k5] at k4
        refine e_run hC ?_
        conv => whnf
        rw [← k4]
        exact ⟨rfl, rfl⟩
      · rw [decide_eq_true k5] at k4
        refine e_run hC ?_
        conv => whnf
        refine e_run hC ?_
        conv => whnf
        rw [← k4]
        exact ⟨rfl, rfl⟩
    | succ q ih =>
      intro k v1 k1 k2 k3 k4
      have hok2 := rs_ok v1 k k3
      have k4 : rE (cond (rs v1 (na (v1.1 6)) k).1 (rl q (k + 1) (rs v1 (na (v1.1 6)) k).2) (false, (rs v1 (na (v1.1 6)) k).2)) n = B := k4
      refine e_run hC ?_
      conv => whnf
      refine ⟨fun k5 => absurd k5 (nI_ge (by omega) (by omega)), fun _ => ?_⟩
      refine e_run hC ?_
      conv => whnf
      refine ⟨(v1, na (v1.1 6), k), ⟨k3.2, by show k < 5; omega, k3.1⟩, rfl, rfl, ?_⟩
      conv => whnf
      dsimp only [C_U_readSector]
      generalize rs v1 (na (v1.1 6)) k = r at k4 hok2 ⊢
      obtain ⟨rb2, v2⟩ := r
      dsimp only at k4 hok2 ⊢
      refine e_run hC ?_
      conv => whnf
      refine ⟨fun k5 => ?_, fun k5 => ?_⟩
      · rw [bi1 k5, cond_true] at k4
        refine e_run hC ?_
        conv => whnf
        rw [nI_1]
        exact ih (k + 1) v2 (by omega) (by omega) hok2 k4
      · rw [bi0.mp k5, cond_false] at k4
        refine e_run hC ?_
        conv => whnf
        rw [← k4]
        exact ⟨rfl, rfl⟩
  refine e_run hC ?_
  conv => whnf
  refine ⟨vp_in_nI (n := 2) (by decide) (by decide), ?_⟩
  rw [show (2 : Int32).toNatClampNeg = 2 from rfl, g1]
  refine e_run hC ?_
  conv => whnf
  refine ⟨(Hp v, n), g2, rfl, rfl, ?_⟩
  conv => whnf
  dsimp only [C_G_sectorsFor]
  refine e_runTo 44 hC ?_
  conv => whnf
  exact loop ((n + 11) / 8 - 1) 1 v (by omega) (by omega) hok hB
theorem m_U_readChunk (l : Launch) (hl : l.stackTraces = false) : e_Met l y_U_readChunk b_U_readChunk 5 (some .boolean) 4 C_U_readChunk :=
  e_met hl F_U C_U S_U_readChunk k_U_readChunk (by decide +kernel) f_U c_U s_U_readChunk o_U_readChunk (fun a _ => ⟨Nat.le_of_ble_eq_true rfl, rfl⟩) (fun a hp => ⟨_, rfl, Or.inr ⟨.boolean, _, rfl, rfl, bi_ok _⟩, fun J hC => v_U_readChunk a.1 a.2.1 a.2.2 hp J _ rfl hC⟩)
/-- all chunks: n more at most, m behind, the page before b -/
def rA : Nat → Nat → Int32 → St → Bool × St
  | 0, _, _, u => (false, u)
  | n + 1, m, b, u => cond (rC u m b).1 (if (rC u m b).2.2.1 4 1 = -1 then (decide ((rC u m b).2.2.1 4 3 = nI m), (rC u m b).2) else cond (iop ((rC u m b).2.2.1 4) (3 + na ((rC u m b).2.2.1 4 2)) 20 3 0) (rA n (m + 1) ((rC u m b).2.2.1 4 1) (adp (uA (rC u m b).2 5 (upk ((rC u m b).2.2.1 4) (3 + na ((rC u m b).2.2.1 4 2)) 20 3 (16 * na ((rC u m b).2.2.1 4 1)) ((rC u m b).2.2.1 5))) (na ((rC u m b).2.2.1 4 1)))) (false, (rC u m b).2)) (false, (rC u m b).2)
/-- what a chunk that was right tells -/
theorem rC_in (u : St) (m : Nat) (b : Int32) (h : rOK u) : rOK (rC u m b).2 ∧ ((rC u m b).1 = true → hft ((rC u m b).2.2.1 4) b = true) := by
  have h0 := rs_ok u 0 h
  unfold rC
  generalize rs u (na (u.1 6)) 0 = r at h0 ⊢
  obtain ⟨rb, v⟩ := r
  cases rb with
  | false => exact ⟨h0, fun z => by cases z⟩
  | true =>
    rw [cond_true]
    dsimp only at h0 ⊢
    unfold rH
    split
    next h1 =>
      cases hq : hft (v.2.1 4) b with
      | false => exact ⟨h0, fun z => by cases z⟩
      | true =>
        rw [cond_true]
        have h2 := rl_ok ((na (v.2.1 4 2) + 11) / 8 - 1) 1 v h0
        have h3 := rl_head ((na (v.2.1 4 2) + 11) / 8 - 1) 1 v
        generalize rl ((na (v.2.1 4 2) + 11) / 8 - 1) 1 v = q at h2 h3 ⊢
        obtain ⟨qb, v2⟩ := q
        have h4 : hft (v2.2.1 4) b = true := by
          rw [← hq]
          unfold hft
          rw [h3 1 (by decide) (by decide), h3 2 (by decide) (by decide)]
        unfold rE
        cases qb with
        | false => exact ⟨h2, fun z => by cases z⟩
        | true => exact ⟨h2, fun _ => h4⟩
    next => exact ⟨h0, fun z => by cases z⟩
theorem hft_1 {f : Nat → Int32} {b : Int32} (h : hft f b = true) (h1 : ¬ f 1 = -1) (hb : -1 ≤ b.toInt) : f 1 = nI (na (f 1)) ∧ na (f 1) < 16 := by
  unfold hft at h
  rw [if_neg h1] at h
  simp only [Bool.and_eq_true, decide_eq_true_eq] at h
  have a1 := Int32.lt_iff_toInt_lt.mp h.1
  have a2 : (f 1).toInt < 16 := (lt_nI (k := 16) (by decide)).mp h.2.1
  generalize f 1 = x at a1 a2 ⊢
  obtain ⟨p, hp, rfl⟩ : ∃ p : Nat, p < 2 ^ 31 ∧ x = nI p := ⟨x.toInt.toNat, by omega, (eq_nI (by omega)).mpr (by omega)⟩
  rw [nI_toInt hp] at a2
  rw [na, nI_clamp hp]
  exact ⟨rfl, by omega⟩
def C_U_readAll : e_C := ⟨St, 1, fun _ => 0, fun _ => True, fun _ => [.ref 8], fun a => Hp a, fun a => .inl (some (.int (bi (rA 17 0 (-1) (uS (fgt a) 6 0)).1))), fun a => Hp (rA 17 0 (-1) (uS (fgt a) 6 0)).2⟩
def S_U_readAll : List (Nat × e_C) := [(4, C_Z_forgetAll), (25, C_U_readChunk), (69, C_Q_isOfPage), (102, C_Q_unpackPage), (110, C_Z_addPage)]
theorem s_U_readAll : ∀ x ∈ S_U_readAll, e_Site b_U_readAll "DumpDesk$Reader" 5 x.1 x.2 := List.forall_mem_cons.mpr ⟨e_siteV (y := y_Z_forgetAll) (i := 27) (ci := 5) m_Z_forgetAll (by decide) (by decide) (fun _ => rfl) rfl (fun a _ => ⟨_, _, _, rfl, by decide, rfl⟩) rfl (e_in1 190 rfl rfl) (e_in1 191 rfl rfl) (e_in1 5 rfl rfl) (e_in1 193 rfl rfl) (e_in1 192 rfl rfl) ⟨by decide, by decide, rfl⟩ (by decide +kernel), List.forall_mem_cons.mpr ⟨e_siteV (y := y_U_readChunk) (i := 32) (ci := 4) m_U_readChunk (by decide) (by decide) (fun _ => rfl) rfl (fun a _ => ⟨_, _, _, rfl, by decide, rfl⟩) rfl (e_in1 194 rfl rfl) (e_in1 195 rfl rfl) (e_in1 7 rfl rfl) (e_in1 197 rfl rfl) (e_in1 196 rfl rfl) ⟨by decide, by decide, rfl⟩ (by decide +kernel), List.forall_mem_cons.mpr ⟨e_siteS (y := y_Q_isOfPage) (i := 36) m_Q_isOfPage (by decide) (by decide) (fun _ => rfl) (e_in1 224 rfl rfl) (e_in1 225 rfl rfl) (e_in1 16 rfl rfl) (e_in1 226 rfl rfl) ⟨by decide, by decide, rfl⟩ (by decide +kernel), List.forall_mem_cons.mpr ⟨e_siteS (y := y_Q_unpackPage) (i := 45) m_Q_unpackPage (by decide) (by decide) (fun _ => rfl) (e_in1 227 rfl rfl) (e_in1 228 rfl rfl) (e_in1 16 rfl rfl) (e_in1 229 rfl rfl) ⟨by decide, by decide, rfl⟩ (by decide +kernel), List.forall_mem_cons.mpr ⟨e_siteV (y := y_Z_addPage) (i := 49) (ci := 5) m_Z_addPage (by decide) (by decide) (fun _ => rfl) rfl (fun a _ => ⟨_, _, _, rfl, by decide, rfl⟩) rfl (e_in1 237 rfl rfl) (e_in1 238 rfl rfl) (e_in1 5 rfl rfl) (e_in2 0 rfl rfl) (e_in1 239 rfl rfl) ⟨by decide, by decide, rfl⟩ (by decide +kernel), fun x hx => (by cases hx)⟩⟩⟩⟩⟩
theorem v_U_readAll (u : St) (J : e_Jt) (B : Bool × St) (hB : rA 17 0 (-1) (uS (fgt u) 6 0) = B) (hC : e_P0 F_U S_U_readAll k_U_readAll (some (.int (bi B.1))) (Hp B.2) J) : J 0 0 [(0, .ref 8)] [] (Hp u) := by
  have loop : ∀ n m b (v : St), m + n = 17 → rOK v → -1 ≤ b.toInt → rA n m b v = B → J 0 16 [(0, .ref 8), (1, .int b), (2, .int (nI m))] [] (Hp v) := by
    intro n
    induction n with
    | zero =>
      intro m b v h1 h2 h3 h4
      have h4 : (false, v) = B := h4
      refine e_run hC ?_
      conv => whnf
      refine ⟨fun _ => ?_, fun h5 => absurd (nI_lt (a := 16) (by omega) (by omega)) h5⟩
      refine e_run hC ?_
      conv => whnf
      rw [← h4]
      exact ⟨rfl, rfl⟩
    | succ n ih =>
      intro m b v h1 h2 h3 h4
      obtain ⟨k1, k2⟩ := rC_in v m b h2
      unfold rA at h4
      refine e_run hC ?_
      conv => whnf
      refine ⟨fun h5 => absurd h5 (nI_nlt (a := 16) (by omega) (by decide)), fun _ => ?_⟩
      refine e_run hC ?_
      conv => whnf
      refine ⟨(v, m, b), ⟨(by omega : m ≤ 16), h2⟩, rfl, rfl, ?_⟩
      conv => whnf
      dsimp only [C_U_readChunk]
      generalize rC v m b = r at h4 k1 k2 ⊢
      obtain ⟨rb, w⟩ := r
      dsimp only at h4 k1 k2 ⊢
      refine e_run hC ?_
      conv => whnf
      refine ⟨fun h5 => ?_, fun h5 => ?_⟩
      · have h5 := bi1 h5
        have k3 := k2 h5
        rw [h5, cond_true] at h4
        obtain ⟨g1, g2, g3⟩ := hft_2 k3
        refine e_run hC ?_
        conv => whnf
        refine ⟨vp_in_nI (n := 1) (by decide) (by decide), ?_⟩
        rw [show (1 : Int32).toNatClampNeg = 1 from rfl]
        refine e_run hC ?_
        conv => whnf
        refine ⟨fun h6 => ?_, fun h6 => ?_⟩
        · rw [if_neg h6] at h4
          obtain ⟨g4, g5⟩ := hft_1 k3 h6 h3
          refine e_run hC ?_
          conv => whnf
          refine ⟨vp_in_nI (n := 2) (by decide) (by decide), ?_⟩
          rw [show (2 : Int32).toNatClampNeg = 2 from rfl]
          refine e_run hC ?_
          conv => whnf
          refine ⟨(w, na (w.2.1 4 2)), g2, ?_, rfl, ?_⟩
          · show [Value.ref 9, .int (nI (na (w.2.1 4 2)))] = [Value.ref 9, .int (w.2.1 4 2)]
            rw [← g1]
          conv => whnf
          dsimp only [C_Q_isOfPage]
          refine e_run hC ?_
          conv => whnf
          refine ⟨fun h7 => ?_, fun h7 => ?_⟩
          · have h7 := bi1 h7
            rw [h7, cond_true] at h4
            refine e_run hC ?_
            conv => whnf
            refine ⟨vp_in_nI (n := 1) (by decide) (by decide), ?_⟩
            rw [show (1 : Int32).toNatClampNeg = 1 from rfl]
            refine e_run hC ?_
            conv => whnf
            refine ⟨vp_in_nI (n := 2) (by decide) (by decide), ?_⟩
            rw [show (2 : Int32).toNatClampNeg = 2 from rfl]
            refine e_run hC ?_
            conv => whnf
            refine ⟨(w, na (w.2.1 4 2), na (w.2.1 4 1)), ⟨g2, g5, h7⟩, ?_, rfl, ?_⟩
            · show [Value.ref 9, .int (nI (na (w.2.1 4 2))), .ref 11, .int (nI (na (w.2.1 4 1)))] = [Value.ref 9, .int (w.2.1 4 2), .ref 11, .int (w.2.1 4 1)]
              rw [← g1, ← g4]
            conv => whnf
            dsimp only [C_Q_unpackPage]
            refine e_run hC ?_
            conv => whnf
            refine ⟨(uA w 5 (upk (w.2.1 4) (3 + na (w.2.1 4 2)) 20 3 (16 * na (w.2.1 4 1)) (w.2.1 5)), na (w.2.1 4 1)), g5, ?_, rfl, ?_⟩
            · show [Value.ref 10, .int (nI (na (w.2.1 4 1)))] = [Value.ref 10, .int (w.2.1 4 1)]
              rw [← g4]
            conv => whnf
            dsimp only [C_Z_addPage]
            refine e_run hC ?_
            conv => whnf
            rw [nI_1]
            refine ih (m + 1) (w.2.1 4 1) _ (by omega) k1 ?_ h4
            rw [g4, nI_toInt (by omega)]
            omega
          · rw [bi0.mp h7, cond_false] at h4
            refine e_run hC ?_
            conv => whnf
            rw [← h4]
            exact ⟨rfl, rfl⟩
        · rw [if_pos h6] at h4
          refine e_run hC ?_
          conv => whnf
          refine ⟨vp_in_nI (n := 3) (by decide) (by decide), ?_⟩
          rw [show (3 : Int32).toNatClampNeg = 3 from rfl]
          refine e_run hC ?_
          conv => whnf
          refine ⟨fun h7 => ?_, fun h7 => ?_⟩
          · rw [decide_eq_false h7] at h4
            refine e_run hC ?_
            conv => whnf
            rw [← h4]
            exact ⟨rfl, rfl⟩
          · rw [decide_eq_true h7] at h4
            refine e_run hC ?_
            conv => whnf
            refine e_run hC ?_
            conv => whnf
            rw [← h4]
            exact ⟨rfl, rfl⟩
      · rw [bi0.mp h5, cond_false] at h4
        refine e_run hC ?_
        conv => whnf
        rw [← h4]
        exact ⟨rfl, rfl⟩
  refine e_run hC ?_
  conv => whnf
  refine ⟨u, trivial, rfl, rfl, ?_⟩
  conv => whnf
  dsimp only [C_Z_forgetAll]
  refine e_run hC ?_
  conv => whnf
  rw [h_s6]
  refine e_runTo 16 hC ?_
  conv => whnf
  exact loop 17 0 (-1) (uS (fgt u) 6 0) rfl ⟨rfl, (by decide : na (0 : Int32) ≤ 96)⟩ (by decide) hB
theorem m_U_readAll (l : Launch) (hl : l.stackTraces = false) : e_Met l y_U_readAll b_U_readAll 3 (some .boolean) 5 C_U_readAll :=
  e_met hl F_U C_U S_U_readAll k_U_readAll (by decide +kernel) f_U c_U s_U_readAll o_U_readAll (fun a _ => ⟨Nat.le_of_ble_eq_true rfl, rfl⟩) (fun a hp => ⟨_, rfl, Or.inr ⟨.boolean, _, rfl, rfl, bi_ok _⟩, fun J hC => v_U_readAll a J _ rfl hC⟩)
