/-! the reference: send, dump, area -/
/-- the sender's state: chunk, area, at -/
def mS (u : St) (f ar : Nat → Int32) (s : Nat) : St := uS (uA (uA u 26 f) 24 ar) 25 (nI s)
theorem mS_a (u : St) (f ar g : Nat → Int32) (s : Nat) : uA (mS u f ar s) 24 g = mS u f g s := by
  show uS (uA (uA (uA u 26 f) 24 ar) 24 g) 25 (nI s) = _
  rw [uA_uA]
  rfl
theorem mS_s (u : St) (f ar : Nat → Int32) (s r : Nat) : uS (mS u f ar s) 25 (nI r) = mS u f ar r := uS_uS _ _ _ _
theorem mS_0 (u : St) (f : Nat → Int32) (s : Nat) (h : u.1 25 = nI s) : mS u f (u.2.1 24) s = uA u 26 f := by
  unfold mS
  rw [show uA (uA u 26 f) 24 (u.2.1 24) = uA u 26 f from uA_self (uA u 26 f) 24, ← h]
  exact uS_self (uA u 26 f) 25
def snd (u : St) (c pg : Int32) (n s pw : Nat) : Int32 × St :=
  if cg (u.2.1 25) (96 - s) s < (n + 11) / 8 then (-1, uA u 26 (frm (u.2.1 26) c pg n ((n + 11) / 8 * 8 - 1))) else
    let r := wl (u.2.1 25) (frm (u.2.1 26) c pg n ((n + 11) / 8 * 8 - 1)) ((n + 11) / 8) 0 s pw (u.2.1 24)
    (if r.1 = 0 then nI r.2.2.1 else -2, mS u (frm (u.2.1 26) c pg n ((n + 11) / 8 * 8 - 1)) r.2.2.2 r.2.1)
def C_M_send : e_C := ⟨St × Int32 × Int32 × Nat × Nat × Nat, 4, fun _ => 0, fun a => a.2.2.2.1 ≤ 32 ∧ a.2.2.2.2.1 ≤ 96 ∧ a.2.2.2.2.2 ≤ 200 ∧ a.1.1 24 = nI (3 + a.2.2.2.1) ∧ a.1.1 25 = nI a.2.2.2.2.1, fun a => [.ref 15, .int a.2.1, .int a.2.2.1, .int (nI a.2.2.2.2.2)], fun a => Hp a.1, fun a => .inl (some (.int (snd a.1 a.2.1 a.2.2.1 a.2.2.2.1 a.2.2.2.2.1 a.2.2.2.2.2).1)), fun a => Hp (snd a.1 a.2.1 a.2.2.1 a.2.2.2.1 a.2.2.2.2.1 a.2.2.2.2.2).2⟩
def S_M_send : List (Nat × e_C) := [(89, C_M_summed), (103, C_M_goodFrom), (141, C_M_nextGood)]
theorem s_M_send : ∀ x ∈ S_M_send, e_Site b_M_send "DumpDeskModel" 1 x.1 x.2 := List.forall_mem_cons.mpr ⟨e_siteS (y := y_M_summed) (i := 106) m_M_summed (by decide) (by decide) (fun _ => rfl) (e_in4 60 rfl rfl) (e_in4 61 rfl rfl) (e_in1 8 rfl rfl) (e_in4 62 rfl rfl) ⟨by decide, by decide, rfl⟩ (by decide +kernel), List.forall_mem_cons.mpr ⟨e_siteV (y := y_M_goodFrom) (i := 113) (ci := 6) m_M_goodFrom (by decide) (by decide) (fun _ => rfl) rfl (fun a _ => ⟨_, _, _, rfl, by decide, rfl⟩) rfl (e_in4 63 rfl rfl) (e_in4 65 rfl rfl) (e_in1 8 rfl rfl) (e_in4 66 rfl rfl) (e_inP 17 rfl rfl) ⟨by decide, by decide, rfl⟩ (by decide +kernel), List.forall_mem_cons.mpr ⟨e_siteV (y := y_M_nextGood) (i := 116) (ci := 6) m_M_nextGood (by decide) (by decide) (fun _ => rfl) rfl (fun a _ => ⟨_, _, _, rfl, by decide, rfl⟩) rfl (e_in4 67 rfl rfl) (e_in4 69 rfl rfl) (e_in1 8 rfl rfl) (e_in4 70 rfl rfl) (e_inP 18 rfl rfl) ⟨by decide, by decide, rfl⟩ (by decide +kernel), fun x hx => (by cases hx)⟩⟩⟩
theorem v_M_send (u : St) (c pg : Int32) (n s0 pw0 : Nat) (hp : n ≤ 32 ∧ s0 ≤ 96 ∧ pw0 ≤ 200 ∧ u.1 24 = nI (3 + n) ∧ u.1 25 = nI s0) (J : e_Jt) (B : Int32 × St) (hB : snd u c pg n s0 pw0 = B) (hC : e_P0 F_M S_M_send k_M_send (some (.int B.1)) (Hp B.2) J) : J 0 0 [(0, .ref 15), (1, .int c), (2, .int pg), (3, .int (nI pw0))] [] (Hp u) := by
  obtain ⟨h1, h2, h3, h4, h5⟩ := hp
  have hm := cg_le (u.2.1 25) (96 - s0) s0
  unfold snd at hB
  obtain ⟨wh, hwh⟩ : ∃ wh, wh = (n + 11) / 8 := ⟨_, rfl⟩
  have hw1 : 3 + n ≤ wh * 8 - 1 := by omega
  have hw2 : wh ≤ 5 := by omega
  rw [← hwh] at hB
  obtain ⟨f0, hf0⟩ : ∃ f, f = ffl (upd (upd (upd (u.2.1 26) 0 (50000 + c)) 1 pg) 2 (nI n)) (3 + n) (wh * 8 - 1) 0 := ⟨_, rfl⟩
  obtain ⟨f, hf⟩ : ∃ f, f = frm (u.2.1 26) c pg n (wh * 8 - 1) := ⟨_, rfl⟩
  have hff : f = upd f0 (wh * 8 - 1) (sm f0 (wh * 8 - 1)) := by rw [hf, hf0]; rfl
  rw [← hf] at hB
  dsimp only at hB
  obtain ⟨Rw, hR⟩ : ∃ r, r = wl (u.2.1 25) f wh 0 s0 pw0 (u.2.1 24) := ⟨_, rfl⟩
  rw [← hR] at hB
  have e8 : nI wh * 8 = nI (wh * 8) := by rw [show (8 : Int32) = nI 8 from rfl, pk_mul]
  have em : nI (wh * 8) - 1 = nI (wh * 8 - 1) := by rw [show (1 : Int32) = nI 1 from rfl, pk_sub (by omega)]
  have loop : ¬ cg (u.2.1 25) (96 - s0) s0 < wh → ∀ m k s pw ar, k + m = wh → s ≤ 96 → pw ≤ 200 → m ≤ cg (u.2.1 25) (96 - s) s → wl (u.2.1 25) f m k s pw ar = Rw → J 0 117 [(0, .ref 15), (1, .int c), (2, .int pg), (3, .int (nI pw0)), (4, .int (nI (wh * 8))), (5, .int (nI pw)), (6, .int (nI (8 * k)))] [] (Hp (mS u f ar s)) := by
    intro hno
    rw [if_neg hno] at hB
    intro m
    induction m with
    | zero =>
      intro k s pw ar k1 k2 k3 k4 k5
      have k5 : (0, s, pw, ar) = Rw := k5
      refine e_run hC ?_
      conv => whnf
      refine ⟨fun _ => ?_, fun h => absurd (nI_le (by omega) (by omega)) h⟩
      refine e_run hC ?_
      conv => whnf
      rw [← hB, ← k5]
      exact ⟨rfl, rfl⟩
    | succ m ih =>
      intro k s pw ar k1 k2 k3 k4 k5
      have k5 : (if pw = 0 then (2, s, pw, ar) else wl (u.2.1 25) f m (k + 1) (fNG (u.2.1 25) (96 - s) s + 1) (pw - 1) (va_cpy f ar (8 * k) (8 * fNG (u.2.1 25) (96 - s) s) 8)) = Rw := k5
      refine e_run hC ?_
      conv => whnf
      refine ⟨fun h => absurd h (nI_ge (by omega) (by omega)), fun _ => ?_⟩
      refine e_run hC ?_
      conv => whnf
      refine ⟨fun h6 => ?_, fun h6 => ?_⟩
      · have h6 : ¬ pw = 0 := fun z => h6 (by rw [z]; rfl)
        rw [if_neg h6] at k5
        obtain ⟨r1, r2, r3⟩ := fNG_cg (u.2.1 25) (96 - s) s (by omega)
        obtain ⟨g, hg⟩ : ∃ g, g = fNG (u.2.1 25) (96 - s) s := ⟨_, rfl⟩
        rw [← hg] at k5 r1 r2 r3
        obtain ⟨pw', rfl⟩ : ∃ q, pw = q + 1 := ⟨pw - 1, by omega⟩
        have cpl : ∀ q i z, i + q = 8 → (∀ j, (8 * g + i ≤ j → z j = ar j) ∧ (j < 8 * g + i → z j = va_cpy f ar (8 * k) (8 * g) 8 j)) → J 0 150 [(0, .ref 15), (1, .int c), (2, .int pg), (3, .int (nI pw0)), (4, .int (nI (wh * 8))), (5, .int (nI pw')), (6, .int (nI (8 * k))), (7, .int (nI i))] [] (Hp (mS u f z g)) := by
          intro q
          induction q with
          | zero =>
            intro i z i1 i2
            have e1 : z = va_cpy f ar (8 * k) (8 * g) 8 := by
              funext j
              by_cases hj : j < 8 * g + i
              · exact (i2 j).2 hj
              · rw [(i2 j).1 (by omega), pk_cpy_out (by omega)]
            refine e_run hC ?_
            conv => whnf
            refine ⟨fun _ => ?_, fun h9 => absurd (nI_le (a := 8) (by omega) (by omega)) h9⟩
            refine e_run hC ?_
            conv => whnf
            rw [h_s25, show (mS u f z g).1 25 = nI g from rfl, nI_1, mS_s]
            refine e_run hC ?_
            conv => whnf
            refine e_weak hC [0, 1, 2, 3, 4, 5, 6] rfl rfl ?_
            rw [e1, show (8 : Int32) = nI 8 from rfl, nI_add]
            refine ih (k + 1) (g + 1) pw' _ (by omega) (by omega) (by omega) ?_ k5
            have e2 : 96 - (g + 1) = s + (96 - s) - (g + 1) := by omega
            rw [e2]
            omega
          | succ q ihq =>
            intro i z i1 i2
            refine e_run hC ?_
            conv => whnf
            refine ⟨fun h9 => absurd h9 (nI_ge (b := 8) (by omega) (by omega)), fun _ => ?_⟩
            refine e_run hC ?_
            conv => whnf
            rw [nI_add]
            refine ⟨vp_in_nI (by omega) (by decide), ?_⟩
            rw [nI_clamp (by omega)]
            refine e_run hC ?_
            conv => whnf
            rw [show (mS u f z g).1 25 = nI g from rfl, show (8 : Int32) = nI 8 from rfl, pk_mul, nI_add]
            refine ⟨vp_in_nI (by omega) (by decide), ?_⟩
            rw [nI_clamp (by omega), h_a24, mS_a]
            refine e_run hC ?_
            conv => whnf
            rw [nI_1]
            refine ihq (i + 1) _ (by omega) (fun j => ⟨fun hj => ?_, fun hj => ?_⟩)
            · show upd z (8 * g + i) (f (8 * k + i)) j = _
              rw [pk_un (by omega)]
              exact (i2 j).1 (by omega)
            · show upd z (8 * g + i) (f (8 * k + i)) j = _
              by_cases hj2 : j = 8 * g + i
              · rw [hj2, pk_us, pk_cpy_in (by omega) (by omega)]
                exact congrArg _ (by omega)
              · rw [pk_un hj2]
                exact (i2 j).2 (by omega)
        refine e_run hC ?_
        conv => whnf
        refine ⟨(mS u f ar s, s), k2, rfl, rfl, ?_⟩
        conv => whnf
        dsimp only [C_M_nextGood]
        rw [show (mS u f ar s).2.1 25 = u.2.1 25 from rfl, ← hg, pk_m1]
        refine e_run hC ?_
        conv => whnf
        rw [h_s25, mS_s]
        refine e_runTo 150 hC ?_
        conv => whnf
        refine cpl 8 0 ar rfl (fun j => ⟨fun _ => rfl, fun h9 => ?_⟩)
        rw [pk_cpy_out (by omega)]
      · have h6 : pw = 0 := (nI_eq (b := 0) (by omega) (by decide)).mp h6
        rw [if_pos h6] at k5
        refine e_run hC ?_
        conv => whnf
        rw [← hB, ← k5]
        exact ⟨rfl, rfl⟩
  have zl : ∀ m k g, k + m = wh * 8 - 1 → 3 + n ≤ k → ffl g k (wh * 8 - 1) 0 = f0 → J 0 50 [(0, .ref 15), (1, .int c), (2, .int pg), (3, .int (nI pw0)), (4, .int (nI (wh * 8))), (5, .int (nI k))] [] (Hp (uA u 26 g)) := by
    intro m
    induction m with
    | zero =>
      intro k g k1 k2 k3
      rw [show k = wh * 8 - 1 by omega, ffl_end] at k3
      refine e_run hC ?_
      conv => whnf
      rw [em]
      refine ⟨fun _ => ?_, fun h => absurd (nI_le (by omega) (by omega)) h⟩
      refine e_run hC ?_
      conv => whnf
      rw [em]
      refine ⟨(uA u 26 g, wh * 8 - 1), (by omega : wh * 8 - 1 ≤ 64), rfl, rfl, ?_⟩
      conv => whnf
      dsimp only [C_M_summed]
      refine e_run hC ?_
      conv => whnf
      refine ⟨vp_in_nI (by omega) (by decide), ?_⟩
      rw [nI_clamp (by omega), h_a26, uA_uA, show (uA u 26 g).2.1 26 = g from rfl, k3, ← hff]
      refine e_run hC ?_
      conv => whnf
      refine ⟨by decide, ?_⟩
      rw [show (8 : Int32) = nI 8 from rfl, pk_div (by omega) (by decide) (by decide), Nat.mul_div_cancel wh (by decide : 0 < 8)]
      refine e_run hC ?_
      conv => whnf
      refine ⟨(uA u 26 f, s0), h2, ?_, rfl, ?_⟩
      · show [Value.ref 15, .int (nI s0)] = [Value.ref 15, .int (u.1 25)]
        rw [h5]
      conv => whnf
      dsimp only [C_M_goodFrom]
      rw [show (uA u 26 f).2.1 25 = u.2.1 25 from rfl]
      refine e_run hC ?_
      conv => whnf
      refine ⟨fun h6 => ?_, fun h6 => ?_⟩
      · have h6 : wh ≤ cg (u.2.1 25) (96 - s0) s0 := (nI_leI (by omega) (by omega)).mp h6
        refine e_runTo 117 hC ?_
        conv => whnf
        have := loop (by omega) wh 0 s0 pw0 (u.2.1 24) (by omega) h2 h3 h6 hR.symm
        rw [mS_0 u f s0 h5] at this
        exact this
      · have h6 : ¬ wh ≤ cg (u.2.1 25) (96 - s0) s0 := fun z => h6 ((nI_leI (by omega) (by omega)).mpr z)
        rw [if_pos (by omega)] at hB
        refine e_run hC ?_
        conv => whnf
        rw [← hB]
        exact ⟨rfl, rfl⟩
    | succ m ih =>
      intro k g k1 k2 k3
      refine e_run hC ?_
      conv => whnf
      rw [em]
      refine ⟨fun h => absurd h (nI_ge (by omega) (by omega)), fun _ => ?_⟩
      refine e_run hC ?_
      conv => whnf
      refine ⟨vp_in_nI (by omega) (by decide), ?_⟩
      rw [nI_clamp (by omega), h_a26, uA_uA]
      refine e_run hC ?_
      conv => whnf
      rw [nI_1]
      refine ih (k + 1) _ (by omega) (by omega) ?_
      rw [← k3]
      exact ffl_step g _ _ 0 (by omega)
  refine e_run hC ?_
  conv => whnf
  refine ⟨vp_in_nI (n := 0) (by decide) (by decide), ?_⟩
  rw [show (0 : Int32).toNatClampNeg = 0 from rfl, h_a26]
  refine e_run hC ?_
  conv => whnf
  refine ⟨vp_in_nI (n := 1) (by decide) (by decide), ?_⟩
  rw [show (1 : Int32).toNatClampNeg = 1 from rfl, h_a26, uA_uA]
  refine e_run hC ?_
  conv => whnf
  refine ⟨vp_in_nI (n := 2) (by decide) (by decide), ?_⟩
  rw [show (2 : Int32).toNatClampNeg = 2 from rfl, h_a26, uA_uA]
  simp only [pA, pS, pAs, pSa, Nat.reduceEqDiff, reduceIte]
  rw [h4, show (3 : Int32) = nI 3 from rfl, pk_sub (by omega), show 3 + n - 3 = n by omega]
  refine e_run hC ?_
  conv => whnf
  refine ⟨by decide, ?_⟩
  simp only [pA, pS, pAs, pSa, Nat.reduceEqDiff, reduceIte]
  rw [h4, show (8 : Int32) = nI 8 from rfl, nI_add, pk_div (by omega) (by decide) (by decide), show (3 + n + 8) / 8 = wh by omega]
  refine e_runTo 50 hC ?_
  conv => whnf
  simp only [pA, pS, pAs, pSa, Nat.reduceEqDiff, reduceIte]
  rw [h4, e8]
  exact zl (wh * 8 - 1 - (3 + n)) (3 + n) _ (by omega) (Nat.le_refl _) hf0.symm
theorem m_M_send (l : Launch) (hl : l.stackTraces = false) : e_Met l y_M_send b_M_send 8 (some .int) 1 C_M_send :=
  e_met hl F_M C_M S_M_send k_M_send (by decide +kernel) f_M c_M s_M_send o_M_send (fun a _ => ⟨Nat.le_of_ble_eq_true rfl, rfl⟩) (fun a hp => ⟨_, rfl, Or.inr ⟨.int, _, rfl, rfl, rfl⟩, fun J hC => v_M_send a.1 a.2.1 a.2.2.1 a.2.2.2.1 a.2.2.2.2.1 a.2.2.2.2.2 hp J _ rfl hC⟩)
