/-! the reference: readSector, readChunk -/
theorem uA_comm (u : St) (j k : Nat) (f g : Nat → Int32) (h : Nat.beq j k = false) : uA (uA u j f) k g = uA (uA u k g) j f := by
  unfold uA
  refine Prod.ext rfl (Prod.ext (funext fun i => ?_) rfl)
  dsimp only
  cases h1 : Nat.beq i k with
  | false => rfl
  | true =>
    cases h2 : Nat.beq i j with
    | false => rfl
    | true =>
      rw [Nat.eq_of_beq_eq_true h1] at h2
      rw [Nat.eq_of_beq_eq_true h2] at h
      rw [show Nat.beq j j = true from Nat.beq_refl j] at h
      cases h
/-- the reader's state: chunk, size, at -/
def mR (u : St) (f : Nat → Int32) (z s : Nat) : St := uS (uS (uA u 26 f) 24 (nI z)) 25 (nI s)
theorem mR_a (u : St) (f g : Nat → Int32) (z s : Nat) : uA (mR u f z s) 26 g = mR u g z s := by
  show uS (uS (uA (uA u 26 f) 26 g) 24 (nI z)) 25 (nI s) = _
  rw [uA_uA]
  rfl
theorem mR_z (u : St) (f : Nat → Int32) (z s r : Nat) : uS (mR u f z s) 24 (nI r) = mR u f r s := by
  unfold mR
  rw [uS_comm _ 25 24 _ _ rfl, uS_uS]
theorem mR_s (u : St) (f : Nat → Int32) (z s r : Nat) : uS (mR u f z s) 25 (nI r) = mR u f z r := uS_uS _ _ _ _
/-- the k-th sector of a chunk is read from s on: ok, the chunk, how many are read, where it goes on -/
def prs (ar bd f : Nat → Int32) (k s : Nat) : Bool × (Nat → Int32) × Nat × Nat :=
  if fNG bd (96 - s) s < 96 then (true, va_cpy ar f (8 * fNG bd (96 - s) s) (8 * k) 8, k + 1, fNG bd (96 - s) s + 1) else (false, f, k, fNG bd (96 - s) s)
theorem prs_in (ar bd f : Nat → Int32) (k s : Nat) (h : s ≤ 96) : (prs ar bd f k s).2.2.2 ≤ 96 ∧ (prs ar bd f k s).2.2.1 ≤ k + 1 ∧ ((prs ar bd f k s).1 = true → (prs ar bd f k s).2.2.1 = k + 1) := by
  have := fNG_le bd (96 - s) s
  unfold prs
  split
  · exact ⟨by show fNG bd (96 - s) s + 1 ≤ 96; omega, Nat.le_refl _, fun _ => rfl⟩
  · exact ⟨by show fNG bd (96 - s) s ≤ 96; omega, Nat.le_succ _, fun z => by cases z⟩
def C_M_readSector : e_C := ⟨St × (Nat → Int32) × Nat × Nat, 1, fun _ => 0, fun a => a.2.2.1 < 8 ∧ a.2.2.2 ≤ 96, fun _ => [.ref 15], fun a => Hp (mR a.1 a.2.1 (8 * a.2.2.1) a.2.2.2), fun a => .inl (some (.int (bi (prs (a.1.2.1 24) (a.1.2.1 25) a.2.1 a.2.2.1 a.2.2.2).1))), fun a => Hp (mR a.1 (prs (a.1.2.1 24) (a.1.2.1 25) a.2.1 a.2.2.1 a.2.2.2).2.1 (8 * (prs (a.1.2.1 24) (a.1.2.1 25) a.2.1 a.2.2.1 a.2.2.2).2.2.1) (prs (a.1.2.1 24) (a.1.2.1 25) a.2.1 a.2.2.1 a.2.2.2).2.2.2)⟩
def S_M_readSector : List (Nat × e_C) := [(6, C_M_nextGood)]
theorem s_M_readSector : ∀ x ∈ S_M_readSector, e_Site b_M_readSector "DumpDeskModel" 1 x.1 x.2 := List.forall_mem_cons.mpr ⟨e_siteV (y := y_M_nextGood) (i := 116) (ci := 6) m_M_nextGood (by decide) (by decide) (fun _ => rfl) rfl (fun a _ => ⟨_, _, _, rfl, by decide, rfl⟩) rfl (e_in4 67 rfl rfl) (e_in4 69 rfl rfl) (e_in1 8 rfl rfl) (e_in4 70 rfl rfl) (e_inP 18 rfl rfl) ⟨by decide, by decide, rfl⟩ (by decide +kernel), fun x hx => (by cases hx)⟩
theorem v_M_readSector (u : St) (f : Nat → Int32) (k s : Nat) (hp : k < 8 ∧ s ≤ 96) (J : e_Jt) (B : Bool × (Nat → Int32) × Nat × Nat) (hB : prs (u.2.1 24) (u.2.1 25) f k s = B) (hC : e_P0 F_M S_M_readSector k_M_readSector (some (.int (bi B.1))) (Hp (mR u B.2.1 (8 * B.2.2.1) B.2.2.2)) J) : J 0 0 [(0, .ref 15)] [] (Hp (mR u f (8 * k) s)) := by
  obtain ⟨h1, h2⟩ := hp
  unfold prs at hB
  have hg := fNG_le (u.2.1 25) (96 - s) s
  refine e_run hC ?_
  conv => whnf
  refine ⟨(mR u f (8 * k) s, s), h2, rfl, rfl, ?_⟩
  conv => whnf
  dsimp only [C_M_nextGood]
  rw [show (mR u f (8 * k) s).2.1 25 = u.2.1 25 from rfl]
  generalize fNG (u.2.1 25) (96 - s) s = g at hB hg ⊢
  have cpl : ∀ q i z, i + q = 8 → g < 96 → (∀ j, (8 * k + i ≤ j → z j = f j) ∧ (j < 8 * k + i → z j = va_cpy (u.2.1 24) f (8 * g) (8 * k) 8 j)) → J 0 25 [(0, .ref 15), (1, .int (nI i))] [] (Hp (mR u z (8 * k) g)) := by
    intro q
    induction q with
    | zero =>
      intro i z i1 i3 i2
      have e1 : z = va_cpy (u.2.1 24) f (8 * g) (8 * k) 8 := by
        funext j
        by_cases hj : j < 8 * k + i
        · exact (i2 j).2 hj
        · rw [(i2 j).1 (by omega), pk_cpy_out (by omega)]
      rw [if_pos i3] at hB
      refine e_run hC ?_
      conv => whnf
      refine ⟨fun _ => ?_, fun h9 => absurd (nI_le (a := 8) (by omega) (by omega)) h9⟩
      refine e_run hC ?_
      conv => whnf
      rw [h_s24, show (mR u z (8 * k) g).1 24 = nI (8 * k) from rfl, show (8 : Int32) = nI 8 from rfl, nI_add, mR_z]
      refine e_run hC ?_
      conv => whnf
      rw [h_s25, show (mR u z (8 * k + 8) g).1 25 = nI g from rfl, nI_1, mR_s]
      refine e_run hC ?_
      conv => whnf
      rw [← hB, e1]
      exact ⟨rfl, rfl⟩
    | succ q ihq =>
      intro i z i1 i3 i2
      refine e_run hC ?_
      conv => whnf
      refine ⟨fun h9 => absurd h9 (nI_ge (b := 8) (by omega) (by omega)), fun _ => ?_⟩
      refine e_run hC ?_
      conv => whnf
      rw [show (mR u z (8 * k) g).1 25 = nI g from rfl, show (8 : Int32) = nI 8 from rfl, pk_mul, nI_add]
      refine ⟨vp_in_nI (by omega) (by decide), ?_⟩
      rw [nI_clamp (by omega)]
      refine e_run hC ?_
      conv => whnf
      rw [show (mR u z (8 * k) g).1 24 = nI (8 * k) from rfl, nI_add]
      refine ⟨vp_in_nI (by omega) (by decide), ?_⟩
      rw [nI_clamp (by omega), h_a26, mR_a]
      refine e_run hC ?_
      conv => whnf
      rw [nI_1]
      refine ihq (i + 1) _ (by omega) i3 (fun j => ⟨fun hj => ?_, fun hj => ?_⟩)
      · show upd z (8 * k + i) (u.2.1 24 (8 * g + i)) j = _
        rw [pk_un (by omega)]
        exact (i2 j).1 (by omega)
      · show upd z (8 * k + i) (u.2.1 24 (8 * g + i)) j = _
        by_cases hj2 : j = 8 * k + i
        · rw [hj2, pk_us, pk_cpy_in (by omega) (by omega)]
          exact congrArg _ (by omega)
        · rw [pk_un hj2]
          exact (i2 j).2 (by omega)
  refine e_run hC ?_
  conv => whnf
  rw [h_s25, mR_s]
  refine e_run hC ?_
  conv => whnf
  refine ⟨fun h3 => ?_, fun h3 => ?_⟩
  · have h3 : g ≠ 96 := fun z => h3 (by rw [z]; rfl)
    refine e_runTo 25 hC ?_
    conv => whnf
    refine cpl 8 0 f rfl (by omega) (fun j => ⟨fun _ => rfl, fun h9 => ?_⟩)
    rw [pk_cpy_out (by omega)]
  · have h3 : g = 96 := (nI_eq (b := 96) (by omega) (by decide)).mp h3
    rw [if_neg (by omega)] at hB
    refine e_run hC ?_
    conv => whnf
    rw [← hB]
    exact ⟨rfl, rfl⟩
theorem m_M_readSector (l : Launch) (hl : l.stackTraces = false) : e_Met l y_M_readSector b_M_readSector 2 (some .boolean) 1 C_M_readSector :=
  e_met hl F_M C_M S_M_readSector k_M_readSector (by decide +kernel) f_M c_M s_M_readSector o_M_readSector (fun a _ => ⟨Nat.le_of_ble_eq_true rfl, rfl⟩) (fun a hp => ⟨_, rfl, Or.inr ⟨.boolean, _, rfl, rfl, bi_ok _⟩, fun J hC => v_M_readSector a.1 a.2.1 a.2.2.1 a.2.2.2 hp J _ rfl hC⟩)
/-- n sectors more, from the k-th on -/
def prl (ar bd : Nat → Int32) : Nat → Nat → (Nat → Int32) → Nat → Bool × (Nat → Int32) × Nat × Nat
  | 0, k, f, s => (true, f, k, s)
  | n + 1, k, f, s => cond (prs ar bd f k s).1 (prl ar bd n (k + 1) (prs ar bd f k s).2.1 (prs ar bd f k s).2.2.2) (prs ar bd f k s)
/-- the sum of a chunk of n words' packing -/
def prE (r : Bool × (Nat → Int32) × Nat × Nat) (n : Nat) : Bool × (Nat → Int32) × Nat × Nat := cond r.1 (decide (r.2.1 ((n + 11) / 8 * 8 - 1) = sm r.2.1 ((n + 11) / 8 * 8 - 1)), r.2) r
def prH (ar bd : Nat → Int32) (m : Nat) (b : Int32) (r : Bool × (Nat → Int32) × Nat × Nat) : Bool × (Nat → Int32) × Nat × Nat :=
  if r.2.1 0 = 50000 + nI m then cond (hft r.2.1 b) (prE (prl ar bd ((na (r.2.1 2) + 11) / 8 - 1) 1 r.2.1 r.2.2.2) (na (r.2.1 2))) (false, r.2) else (false, r.2)
def prC (ar bd f : Nat → Int32) (m : Nat) (b : Int32) (s : Nat) : Bool × (Nat → Int32) × Nat × Nat := cond (prs ar bd f 0 s).1 (prH ar bd m b (prs ar bd f 0 s)) (prs ar bd f 0 s)
theorem prl_in (ar bd : Nat → Int32) : ∀ n k f s, s ≤ 96 → (prl ar bd n k f s).2.2.2 ≤ 96 := by
  intro n
  induction n with
  | zero => intro k f s h; exact h
  | succ n ih =>
    intro k f s h
    have h1 := prs_in ar bd f k s h
    unfold prl
    generalize prs ar bd f k s = r at h1 ⊢
    cases r.1 with
    | false => exact h1.1
    | true => exact ih _ _ _ h1.1
theorem prl_head (ar bd : Nat → Int32) : ∀ n k f s j, j < 8 → 1 ≤ k → (prl ar bd n k f s).2.1 j = f j := by
  intro n
  induction n with
  | zero => intro k f s j h1 h2; rfl
  | succ n ih =>
    intro k f s j h1 h2
    have h3 : (prs ar bd f k s).2.1 j = f j := by
      unfold prs
      split
      · exact pk_cpy_out (by omega)
      · rfl
    unfold prl
    generalize prs ar bd f k s = r at h3 ⊢
    cases r.1 with
    | false => exact h3
    | true => exact (ih _ _ _ j h1 (by omega)).trans h3
theorem prC_in (ar bd f : Nat → Int32) (m : Nat) (b : Int32) (s : Nat) (h : s ≤ 96) : (prC ar bd f m b s).2.2.2 ≤ 96 ∧ ((prC ar bd f m b s).1 = true → hft (prC ar bd f m b s).2.1 b = true) := by
  have h1 := prs_in ar bd f 0 s h
  unfold prC
  generalize prs ar bd f 0 s = r at h1 ⊢
  cases hr : r.1 with
  | false => exact ⟨h1.1, fun z => by rw [cond_false, hr] at z; cases z⟩
  | true =>
    rw [cond_true]
    unfold prH
    split
    next h2 =>
      cases hq : hft r.2.1 b with
      | false => exact ⟨h1.1, fun z => by cases z⟩
      | true =>
        rw [cond_true]
        have h3 := prl_in ar bd ((na (r.2.1 2) + 11) / 8 - 1) 1 r.2.1 r.2.2.2 h1.1
        have h4 := prl_head ar bd ((na (r.2.1 2) + 11) / 8 - 1) 1 r.2.1 r.2.2.2
        generalize prl ar bd ((na (r.2.1 2) + 11) / 8 - 1) 1 r.2.1 r.2.2.2 = q at h3 h4 ⊢
        have h5 : hft q.2.1 b = true := by
          rw [← hq]
          unfold hft
          rw [h4 1 (by decide) (by decide), h4 2 (by decide) (by decide)]
        unfold prE
        cases hqq : q.1 with
        | false => exact ⟨h3, fun z => by rw [cond_false, hqq] at z; cases z⟩
        | true => exact ⟨h3, fun _ => h5⟩
    next => exact ⟨h1.1, fun z => by cases z⟩
/-- the reference's own words for a head that fits -/
theorem hft_mod (f : Nat → Int32) (b : Int32) (hb1 : -1 ≤ b.toInt) (hb2 : b.toInt ≤ 15) : hft f b = ((decide (f 1 = -1) && decide (f 2 = 2)) || (inn (f 1) (b + 1) 15 && (decide (0 ≤ f 1) && inn (f 2) 1 32))) := by
  have eb : (b + 1).toInt = b.toInt + 1 := by
    rw [Int32.toInt_add, show (1 : Int32).toInt = 1 from rfl]
    exact Int.bmod_eq_of_le (by omega) (by omega)
  unfold hft inn
  by_cases h1 : f 1 = -1
  · rw [if_pos h1, decide_eq_true h1, Bool.true_and]
    have h2 : decide (0 ≤ f 1) = false := by rw [h1]; decide
    rw [h2, Bool.false_and, Bool.and_false, Bool.or_false]
  · rw [if_neg h1, decide_eq_false h1, Bool.false_and, Bool.false_or]
    have e1 : decide (b < f 1) = (decide (b + 1 ≤ f 1) && decide (0 ≤ f 1)) := by
      rw [Bool.eq_iff_iff, Bool.and_eq_true, decide_eq_true_eq, decide_eq_true_eq, decide_eq_true_eq, Int32.lt_iff_toInt_lt, Int32.le_iff_toInt_le, Int32.le_iff_toInt_le, eb, show (0 : Int32).toInt = 0 from rfl]
      have h3 : (f 1).toInt ≠ -1 := fun z => h1 (Int32.toInt_inj.mp z)
      omega
    have e2 : decide (f 1 < 16) = decide (f 1 ≤ 15) := by
      rw [Bool.eq_iff_iff, decide_eq_true_eq, decide_eq_true_eq, Int32.lt_iff_toInt_lt, Int32.le_iff_toInt_le, show (16 : Int32).toInt = 16 from rfl, show (15 : Int32).toInt = 15 from rfl]
      omega
    rw [e1, e2]
    cases decide (b + 1 ≤ f 1) <;> cases decide (0 ≤ f 1) <;> cases decide (f 1 ≤ 15) <;> rfl
def C_M_readChunk : e_C := ⟨St × (Nat → Int32) × Nat × Nat × Nat × Int32, 3, fun _ => 0, fun a => a.2.2.2.1 ≤ 96 ∧ -1 ≤ a.2.2.2.2.2.toInt ∧ a.2.2.2.2.2.toInt ≤ 15, fun a => [.ref 15, .int (nI a.2.2.2.2.1), .int a.2.2.2.2.2], fun a => Hp (mR a.1 a.2.1 a.2.2.1 a.2.2.2.1), fun a => .inl (some (.int (bi (prC (a.1.2.1 24) (a.1.2.1 25) a.2.1 a.2.2.2.2.1 a.2.2.2.2.2 a.2.2.2.1).1))), fun a => Hp (mR a.1 (prC (a.1.2.1 24) (a.1.2.1 25) a.2.1 a.2.2.2.2.1 a.2.2.2.2.2 a.2.2.2.1).2.1 (8 * (prC (a.1.2.1 24) (a.1.2.1 25) a.2.1 a.2.2.2.2.1 a.2.2.2.2.2 a.2.2.2.1).2.2.1) (prC (a.1.2.1 24) (a.1.2.1 25) a.2.1 a.2.2.2.2.1 a.2.2.2.2.2 a.2.2.2.1).2.2.2)⟩
def S_M_readChunk : List (Nat × e_C) := [(6, C_M_readSector), (67, C_M_in), (86, C_M_in), (122, C_M_readSector), (151, C_M_summed)]
theorem s_M_readChunk : ∀ x ∈ S_M_readChunk, e_Site b_M_readChunk "DumpDeskModel" 2 x.1 x.2 := List.forall_mem_cons.mpr ⟨e_siteV (y := y_M_readSector) (i := 130) (ci := 6) m_M_readSector (by decide) (by decide) (fun _ => rfl) rfl (fun a _ => ⟨_, _, _, rfl, by decide, rfl⟩) rfl (e_in4 83 rfl rfl) (e_in4 85 rfl rfl) (e_in1 8 rfl rfl) (e_in4 86 rfl rfl) (e_inP 20 rfl rfl) ⟨by decide, by decide, rfl⟩ (by decide +kernel), List.forall_mem_cons.mpr ⟨e_siteS (y := y_M_in) (i := 89) m_M_in (by decide) (by decide) (fun _ => rfl) (e_in3 232 rfl rfl) (e_in3 233 rfl rfl) (e_in1 8 rfl rfl) (e_in3 234 rfl rfl) ⟨by decide, by decide, rfl⟩ (by decide +kernel), List.forall_mem_cons.mpr ⟨e_siteS (y := y_M_in) (i := 89) m_M_in (by decide) (by decide) (fun _ => rfl) (e_in3 232 rfl rfl) (e_in3 233 rfl rfl) (e_in1 8 rfl rfl) (e_in3 234 rfl rfl) ⟨by decide, by decide, rfl⟩ (by decide +kernel), List.forall_mem_cons.mpr ⟨e_siteV (y := y_M_readSector) (i := 130) (ci := 6) m_M_readSector (by decide) (by decide) (fun _ => rfl) rfl (fun a _ => ⟨_, _, _, rfl, by decide, rfl⟩) rfl (e_in4 83 rfl rfl) (e_in4 85 rfl rfl) (e_in1 8 rfl rfl) (e_in4 86 rfl rfl) (e_inP 20 rfl rfl) ⟨by decide, by decide, rfl⟩ (by decide +kernel), List.forall_mem_cons.mpr ⟨e_siteS (y := y_M_summed) (i := 106) m_M_summed (by decide) (by decide) (fun _ => rfl) (e_in4 60 rfl rfl) (e_in4 61 rfl rfl) (e_in1 8 rfl rfl) (e_in4 62 rfl rfl) ⟨by decide, by decide, rfl⟩ (by decide +kernel), fun x hx => (by cases hx)⟩⟩⟩⟩⟩
theorem v_M_readChunk (u : St) (f : Nat → Int32) (z s m : Nat) (b : Int32) (hp : s ≤ 96 ∧ -1 ≤ b.toInt ∧ b.toInt ≤ 15) (J : e_Jt) (B : Bool × (Nat → Int32) × Nat × Nat) (hB : prC (u.2.1 24) (u.2.1 25) f m b s = B) (hC : e_P0 F_M S_M_readChunk k_M_readChunk (some (.int (bi B.1))) (Hp (mR u B.2.1 (8 * B.2.2.1) B.2.2.2)) J) : J 0 0 [(0, .ref 15), (1, .int (nI m)), (2, .int b)] [] (Hp (mR u f z s)) := by
  obtain ⟨h1, h2, h3⟩ := hp
  unfold prC at hB
  have no : ∀ (g : Nat → Int32) k t, B = (false, g, k, t) → J 0 25 [(0, .ref 15), (1, .int (nI m)), (2, .int b)] [] (Hp (mR u g (8 * k) t)) := by
    intro g k t h
    refine e_run hC ?_
    conv => whnf
    rw [h]
    exact ⟨rfl, rfl⟩
  refine e_run hC ?_
  conv => whnf
  rw [h_s24, show uS (mR u f z s) 24 0 = mR u f (8 * 0) s from mR_z u f z s 0]
  refine e_run hC ?_
  conv => whnf
  refine ⟨(u, f, 0, s), ⟨(by decide : 0 < 8), h1⟩, rfl, rfl, ?_⟩
  conv => whnf
  dsimp only [C_M_readSector]
  have hin := prs_in (u.2.1 24) (u.2.1 25) f 0 s h1
  generalize prs (u.2.1 24) (u.2.1 25) f 0 s = r at hB hin ⊢
  obtain ⟨rb, g, k, t⟩ := r
  dsimp only at hB hin ⊢
  refine e_run hC ?_
  conv => whnf
  refine ⟨fun h4 => no g k t (by rw [bi0.mp h4] at hB; exact hB.symm), fun h4 => ?_⟩
  have h4 := bi1 h4
  rw [h4, cond_true] at hB
  obtain ⟨i1, -, i3⟩ := hin
  have i3 := i3 h4
  subst i3
  unfold prH at hB
  dsimp only at hB
  refine e_run hC ?_
  conv => whnf
  refine ⟨vp_in_nI (n := 0) (by decide) (by decide), ?_⟩
  rw [show (mR u g (8 * (0 + 1)) t).2.1 26 (0 : Int32).toNatClampNeg = g 0 from rfl]
  refine e_run hC ?_
  conv => whnf
  refine ⟨fun h5 => ?_, fun h5 => no g 1 t (by rw [if_neg h5] at hB; exact hB.symm)⟩
  rw [if_pos h5] at hB
  rw [hft_mod g b h2 h3] at hB
  refine e_run hC ?_
  conv => whnf
  refine ⟨vp_in_nI (n := 2) (by decide) (by decide), ?_⟩
  rw [show (mR u g (8 * (0 + 1)) t).2.1 26 (2 : Int32).toNatClampNeg = g 2 from rfl]
  refine e_run hC ?_
  conv => whnf
  refine ⟨vp_in_nI (n := 1) (by decide) (by decide), ?_⟩
  rw [show (mR u g (8 * (0 + 1)) t).2.1 26 (1 : Int32).toNatClampNeg = g 1 from rfl]
  -- behind both tests
  have both : ∀ x y : Bool, ((x || y) = true → hft g b = true) → B = cond (x || y) (prE (prl (u.2.1 24) (u.2.1 25) ((na (g 2) + 11) / 8 - 1) 1 g t) (na (g 2))) (false, g, 0 + 1, t) → J 0 97 [(0, .ref 15), (1, .int (nI m)), (2, .int b), (3, .int (g 2)), (4, .int (bi x))] [.int (bi y)] (Hp (mR u g (8 * (0 + 1)) t)) := by
    intro x y hft' hBB
    have go : ∀ lv, lv_pick lv [0, 1, 2, 3, 4, 5] = [(0, .ref 15), (1, .int (nI m)), (2, .int b), (3, .int (g 2)), (4, .int (bi x)), (5, .int (bi y))] → (x || y) = true → J 0 111 lv [] (Hp (mR u g (8 * (0 + 1)) t)) := by
      intro lv hlv hxy
      rw [hxy, cond_true] at hBB
      obtain ⟨g1, g2, g3⟩ := hft_2 (hft' hxy)
      generalize na (g 2) = n at g1 g2 g3 hBB
      refine e_weak hC [0, 1, 2, 3, 4, 5] hlv rfl ?_
      have loop : ∀ q k (f1 : Nat → Int32) t1, k + q = (n + 11) / 8 → 1 ≤ k → t1 ≤ 96 → B = prE (prl (u.2.1 24) (u.2.1 25) q k f1 t1) n → J 0 111 [(0, .ref 15), (1, .int (nI m)), (2, .int b), (3, .int (g 2)), (4, .int (bi x)), (5, .int (bi y))] [] (Hp (mR u f1 (8 * k) t1)) := by
        intro q
        induction q with
        | zero =>
          intro k f1 t1 k1 k2 k3 k4
          have k4 : B = (decide (f1 ((n + 11) / 8 * 8 - 1) = sm f1 ((n + 11) / 8 * 8 - 1)), f1, k, t1) := k4
          have e1 : (8 * k : Nat) - 1 = (n + 11) / 8 * 8 - 1 := by omega
          rw [← e1] at k4
          have e2 : nI (8 * k) - 1 = nI (8 * k - 1) := by rw [show (1 : Int32) = nI 1 from rfl, pk_sub (by omega)]
          refine e_run hC ?_
          conv => whnf
          rw [show (mR u f1 (8 * k) t1).1 24 = nI (8 * k) from rfl, g1, show (4 : Int32) = nI 4 from rfl, nI_add]
          refine ⟨fun _ => ?_, fun h => absurd (nI_le (by omega) (by omega)) h⟩
          refine e_run hC ?_
          conv => whnf
          rw [show (mR u f1 (8 * k) t1).1 24 = nI (8 * k) from rfl, e2]
          refine ⟨vp_in_nI (by omega) (by decide), ?_⟩
          rw [nI_clamp (by omega), show (mR u f1 (8 * k) t1).2.1 26 = f1 from rfl]
          refine e_run hC ?_
          conv => whnf
          rw [show (mR u f1 (8 * k) t1).1 24 = nI (8 * k) from rfl, e2]
          refine ⟨(mR u f1 (8 * k) t1, 8 * k - 1), (by omega : 8 * k - 1 ≤ 64), rfl, rfl, ?_⟩
          conv => whnf
          dsimp only [C_M_summed]
          rw [show (mR u f1 (8 * k) t1).2.1 26 = f1 from rfl]
          refine e_run hC ?_
          conv => whnf
          refine ⟨fun k5 => ?_, fun k5 => ?_⟩
          · rw [decide_eq_false k5] at k4
            refine e_run hC ?_
            conv => whnf
            rw [k4]
            exact ⟨rfl, rfl⟩
          · rw [decide_eq_true k5] at k4
            refine e_run hC ?_
            conv => whnf
            refine e_run hC ?_
            conv => whnf
            rw [k4]
            exact ⟨rfl, rfl⟩
        | succ q ih =>
          intro k f1 t1 k1 k2 k3 k4
          have k4 : B = prE (cond (prs (u.2.1 24) (u.2.1 25) f1 k t1).1 (prl (u.2.1 24) (u.2.1 25) q (k + 1) (prs (u.2.1 24) (u.2.1 25) f1 k t1).2.1 (prs (u.2.1 24) (u.2.1 25) f1 k t1).2.2.2) (prs (u.2.1 24) (u.2.1 25) f1 k t1)) n := k4
          refine e_run hC ?_
          conv => whnf
          rw [show (mR u f1 (8 * k) t1).1 24 = nI (8 * k) from rfl, g1, show (4 : Int32) = nI 4 from rfl, nI_add]
          refine ⟨fun h => absurd h (nI_ge (by omega) (by omega)), fun _ => ?_⟩
          refine e_run hC ?_
          conv => whnf
          refine ⟨(u, f1, k, t1), ⟨by show k < 8; omega, k3⟩, rfl, rfl, ?_⟩
          conv => whnf
          dsimp only [C_M_readSector]
          have hin := prs_in (u.2.1 24) (u.2.1 25) f1 k t1 k3
          generalize prs (u.2.1 24) (u.2.1 25) f1 k t1 = r at k4 hin ⊢
          obtain ⟨rb, f2, k', t2⟩ := r
          dsimp only at k4 hin ⊢
          rw [← g1]
          refine e_run hC ?_
          conv => whnf
          refine ⟨fun k5 => ?_, fun k5 => ?_⟩
          · have k5 := bi1 k5
            rw [k5, cond_true] at k4
            have k6 := hin.2.2 k5
            subst k6
            exact ih (k + 1) f2 t2 (by omega) (by omega) hin.1 k4
          · rw [bi0.mp k5, cond_false] at k4
            refine e_run hC ?_
            conv => whnf
            rw [k4]
            exact ⟨rfl, rfl⟩
      exact loop ((n + 11) / 8 - 1) 1 g t (by omega) (Nat.le_refl _) i1 hBB
    refine e_run hC ?_
    conv => whnf
    refine ⟨fun h6 => go _ rfl (by rw [bi1 h6, Bool.true_or]), fun h6 => ?_⟩
    have h6 := bi0.mp h6
    refine e_run hC ?_
    conv => whnf
    refine ⟨fun h7 => go _ rfl (by rw [bi1 h7, Bool.or_true]), fun h7 => ?_⟩
    have h7 := bi0.mp h7
    rw [h6, h7] at hBB
    refine e_run hC ?_
    conv => whnf
    rw [hBB]
    exact ⟨rfl, rfl⟩
  have page : ∀ x : Bool, x = (decide (g 1 = -1) && decide (g 2 = 2)) → J 0 54 [(0, .ref 15), (1, .int (nI m)), (2, .int b), (3, .int (g 2))] [.int (bi x)] (Hp (mR u g (8 * (0 + 1)) t)) := by
    intro x hx
    rw [← hx] at hB
    have hft'' : hft g b = (x || (inn (g 1) (b + 1) 15 && (decide (0 ≤ g 1) && inn (g 2) 1 32))) := by rw [hft_mod g b h2 h3, hx]
    have no96 : (inn (g 1) (b + 1) 15 && (decide (0 ≤ g 1) && inn (g 2) 1 32)) = false → J 0 96 [(0, .ref 15), (1, .int (nI m)), (2, .int b), (3, .int (g 2)), (4, .int (bi x))] [] (Hp (mR u g (8 * (0 + 1)) t)) := by
      intro h
      refine e_runTo 97 hC ?_
      conv => whnf
      exact both x false (fun h9 => by rw [hft'', h]; exact h9) (by rw [h] at hB; exact hB.symm)
    refine e_run hC ?_
    conv => whnf
    refine ⟨vp_in_nI (n := 1) (by decide) (by decide), ?_⟩
    rw [show (mR u g (8 * (0 + 1)) t).2.1 26 (1 : Int32).toNatClampNeg = g 1 from rfl]
    refine e_run hC ?_
    conv => whnf
    refine ⟨(Hp (mR u g (8 * (0 + 1)) t), g 1, b + 1, 15), trivial, rfl, rfl, ?_⟩
    conv => whnf
    dsimp only [C_M_in]
    refine e_run hC ?_
    conv => whnf
    refine ⟨fun h6 => no96 (by rw [bi0.mp h6, Bool.false_and]), fun h6 => ?_⟩
    have h6 := bi1 h6
    refine e_run hC ?_
    conv => whnf
    refine ⟨vp_in_nI (n := 1) (by decide) (by decide), ?_⟩
    rw [show (mR u g (8 * (0 + 1)) t).2.1 26 (1 : Int32).toNatClampNeg = g 1 from rfl]
    refine e_run hC ?_
    conv => whnf
    refine ⟨fun h7 => no96 (by rw [decide_eq_false (Int32.not_le.mpr h7), Bool.false_and, Bool.and_false]), fun h7 => ?_⟩
    have h7 := Int32.not_lt.mp h7
    refine e_run hC ?_
    conv => whnf
    refine ⟨(Hp (mR u g (8 * (0 + 1)) t), g 2, 1, 32), trivial, rfl, rfl, ?_⟩
    conv => whnf
    dsimp only [C_M_in]
    refine e_run hC ?_
    conv => whnf
    refine ⟨fun h8 => no96 (by rw [bi0.mp h8, Bool.and_false, Bool.and_false]), fun h8 => ?_⟩
    have h8 := bi1 h8
    rw [h6, decide_eq_true h7, h8] at hB hft''
    refine e_runTo 97 hC ?_
    conv => whnf
    exact both x true (fun h9 => by rw [hft'']; exact h9) hB.symm
  have np : (decide (g 1 = -1) && decide (g 2 = 2)) = false → J 0 53 [(0, .ref 15), (1, .int (nI m)), (2, .int b), (3, .int (g 2))] [] (Hp (mR u g (8 * (0 + 1)) t)) := by
    intro h
    refine e_runTo 54 hC ?_
    conv => whnf
    exact page false h.symm
  refine e_run hC ?_
  conv => whnf
  refine ⟨fun h6 => np (by rw [decide_eq_false h6, Bool.false_and]), fun h6 => ?_⟩
  refine e_run hC ?_
  conv => whnf
  refine ⟨fun h7 => np (by rw [decide_eq_false h7, Bool.and_false]), fun h7 => ?_⟩
  refine e_runTo 54 hC ?_
  conv => whnf
  exact page true (by rw [decide_eq_true h6, decide_eq_true h7]; rfl)
theorem m_M_readChunk (l : Launch) (hl : l.stackTraces = false) : e_Met l y_M_readChunk b_M_readChunk 6 (some .boolean) 2 C_M_readChunk :=
  e_met hl F_M C_M S_M_readChunk k_M_readChunk (by decide +kernel) f_M c_M s_M_readChunk o_M_readChunk (fun a _ => ⟨Nat.le_of_ble_eq_true rfl, rfl⟩) (fun a hp => ⟨_, rfl, Or.inr ⟨.boolean, _, rfl, rfl, bi_ok _⟩, fun J hC => v_M_readChunk a.1 a.2.1 a.2.2.1 a.2.2.2.1 a.2.2.2.2.1 a.2.2.2.2.2 hp J _ rfl hC⟩)
