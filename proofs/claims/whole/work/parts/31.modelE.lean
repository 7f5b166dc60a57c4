/-! the reference: stored, packing, sectors -/
def C_M_stored : e_C := ⟨St × Nat, 2, fun _ => 0, fun a => a.2 < 16, fun a => [.ref 15, .int (nI a.2)], fun a => Hp a.1, fun a => .inl (some (.int (bi (sto (a.1.2.1 20) a.2)))), fun a => Hp a.1⟩
def S_M_stored : List (Nat × e_C) := [(50, C_M_flagOf), (58, C_M_flagOf)]
theorem s_M_stored : ∀ x ∈ S_M_stored, e_Site b_M_stored "DumpDeskModel" 1 x.1 x.2 := List.forall_mem_cons.mpr ⟨e_siteV (y := y_M_flagOf) (i := 52) (ci := 6) m_M_flagOf (by decide) (by decide) (fun _ => rfl) rfl (fun a _ => ⟨_, _, _, rfl, by decide, rfl⟩) rfl (e_in3 125 rfl rfl) (e_in3 127 rfl rfl) (e_in1 8 rfl rfl) (e_in3 128 rfl rfl) (e_inP 4 rfl rfl) ⟨by decide, by decide, rfl⟩ (by decide +kernel), List.forall_mem_cons.mpr ⟨e_siteV (y := y_M_flagOf) (i := 52) (ci := 6) m_M_flagOf (by decide) (by decide) (fun _ => rfl) rfl (fun a _ => ⟨_, _, _, rfl, by decide, rfl⟩) rfl (e_in3 125 rfl rfl) (e_in3 127 rfl rfl) (e_in1 8 rfl rfl) (e_in3 128 rfl rfl) (e_inP 4 rfl rfl) ⟨by decide, by decide, rfl⟩ (by decide +kernel), fun x hx => (by cases hx)⟩⟩
theorem v_M_stored (u : St) (p : Nat) (hp : p < 16) (J : e_Jt) (B : Bool) (hB : sto (u.2.1 20) p = B) (hC : e_P0 F_M S_M_stored k_M_stored (some (.int (bi B))) (Hp u) J) : J 0 0 [(0, .ref 15), (1, .int (nI p))] [] (Hp u) := by
  unfold sto at hB
  have yes : ∀ b k : Int32, B = true → J 0 65 [(0, .ref 15), (1, .int (nI p)), (2, .int b), (3, .int k)] [] (Hp u) := by
    intro b k h
    refine e_run hC ?_
    conv => whnf
    refine e_run hC ?_
    conv => whnf
    rw [h]
    exact ⟨rfl, rfl⟩
  have no : ∀ b k : Int32, B = false → J 0 69 [(0, .ref 15), (1, .int (nI p)), (2, .int b), (3, .int k)] [] (Hp u) := by
    intro b k h
    refine e_run hC ?_
    conv => whnf
    rw [h]
    exact ⟨rfl, rfl⟩
  have loop : ∀ n k (b : Bool), k + n = 16 → (b || !az (u.2.1 20) n (16 * p + k)) = !az (u.2.1 20) 16 (16 * p) → J 0 4 [(0, .ref 15), (1, .int (nI p)), (2, .int (bi b)), (3, .int (nI k))] [] (Hp u) := by
    intro n
    induction n with
    | zero =>
      intro k b h1 h2
      have h2 : b = !az (u.2.1 20) 16 (16 * p) := (Bool.or_false b).symm.trans h2
      refine e_run hC ?_
      conv => whnf
      refine ⟨fun _ => ?_, fun h4 => absurd (nI_le (a := 16) (by omega) (by omega)) h4⟩
      refine e_run hC ?_
      conv => whnf
      refine ⟨fun h3 => ?_, fun h3 => ?_⟩
      · have h3 : p = 0 := (nI_eq (b := 0) (by omega) (by decide)).mp h3
        exact yes _ _ (by rw [if_pos h3] at hB; exact hB.symm)
      · have h3 : ¬ p = 0 := fun z => h3 (by rw [z]; rfl)
        rw [if_neg h3, ← h2] at hB
        refine e_run hC ?_
        conv => whnf
        refine ⟨fun h4 => ?_, fun h4 => ?_⟩
        · have h4 := bi0.mp h4
          refine no _ _ ?_
          rw [h4] at hB
          rw [← hB]
          split
          · rfl
          · split <;> rfl
        · have h4 := bi1 h4
          rw [h4] at hB
          refine e_run hC ?_
          conv => whnf
          refine ⟨(u, p), hp, rfl, rfl, ?_⟩
          conv => whnf
          dsimp only [C_M_flagOf]
          refine e_run hC ?_
          conv => whnf
          refine ⟨fun h5 => no _ _ (by rw [if_pos h5] at hB; exact hB.symm), fun h5 => ?_⟩
          rw [if_neg h5] at hB
          refine e_run hC ?_
          conv => whnf
          refine ⟨(u, p), hp, rfl, rfl, ?_⟩
          conv => whnf
          dsimp only [C_M_flagOf]
          refine e_run hC ?_
          conv => whnf
          refine ⟨fun h6 => no _ _ (by rw [if_pos h6] at hB; exact hB.symm), fun h6 => ?_⟩
          rw [if_neg h6] at hB
          exact yes _ _ hB.symm
    | succ n ih =>
      intro k b h1 h2
      have h2 : (b || !(if u.2.1 20 (16 * p + k) = 0 then az (u.2.1 20) n (16 * p + k + 1) else false)) = !az (u.2.1 20) 16 (16 * p) := h2
      have nxt : ∀ c : Bool, (c || !az (u.2.1 20) n (16 * p + (k + 1))) = !az (u.2.1 20) 16 (16 * p) → J 0 33 [(0, .ref 15), (1, .int (nI p)), (2, .int (bi b)), (3, .int (nI k))] [.int (bi c)] (Hp u) := by
        intro c hc
        refine e_run hC ?_
        conv => whnf
        rw [nI_1]
        exact ih (k + 1) c (by omega) hc
      have one : (!az (u.2.1 20) 16 (16 * p)) = true → J 0 28 [(0, .ref 15), (1, .int (nI p)), (2, .int (bi b)), (3, .int (nI k))] [] (Hp u) := by
        intro h
        refine e_runTo 33 hC ?_
        conv => whnf
        exact nxt true (by rw [Bool.true_or, h])
      refine e_run hC ?_
      conv => whnf
      refine ⟨fun h4 => absurd h4 (nI_ge (b := 16) (by omega) (by decide)), fun _ => ?_⟩
      refine e_run hC ?_
      conv => whnf
      refine ⟨fun h4 => one (by rw [bi1 h4, Bool.true_or] at h2; exact h2.symm), fun h4 => ?_⟩
      have h4 := bi0.mp h4
      rw [h4, Bool.false_or] at h2
      refine e_run hC ?_
      conv => whnf
      rw [m16l, nI_add]
      refine ⟨vp_in_nI (by omega) (by decide), ?_⟩
      rw [nI_clamp (by omega)]
      refine e_run hC ?_
      conv => whnf
      refine ⟨fun h5 => ?_, fun h5 => ?_⟩
      · rw [if_pos h5] at h2
        refine e_runTo 33 hC ?_
        conv => whnf
        exact nxt false (by rw [Bool.false_or]; exact h2)
      · rw [if_neg h5] at h2
        exact one h2.symm
  refine e_runTo 4 hC ?_
  conv => whnf
  exact loop 16 0 false rfl (Bool.false_or _)
theorem m_M_stored (l : Launch) (hl : l.stackTraces = false) : e_Met l y_M_stored b_M_stored 4 (some .boolean) 1 C_M_stored :=
  e_met hl F_M C_M S_M_stored k_M_stored (by decide +kernel) f_M c_M s_M_stored o_M_stored (fun a _ => ⟨Nat.le_of_ble_eq_true rfl, rfl⟩) (fun a hp => ⟨_, rfl, Or.inr ⟨.boolean, _, rfl, rfl, bi_ok _⟩, fun J hC => v_M_stored a.1 a.2 hp J _ rfl hC⟩)
def C_M_summed : e_C := ⟨St × Nat, 2, fun _ => 0, fun a => a.2 ≤ 64, fun a => [.ref 22, .int (nI a.2)], fun a => Hp a.1, fun a => .inl (some (.int (sm (a.1.2.1 26) a.2))), fun a => Hp a.1⟩
def S_M_summed : List (Nat × e_C) := []
theorem s_M_summed : ∀ x ∈ S_M_summed, e_Site b_M_summed "DumpDeskModel" 0 x.1 x.2 := fun x hx => (by cases hx)
theorem v_M_summed (u : St) (m : Nat) (hp : m ≤ 64) (J : e_Jt) (B : Int32) (hB : sm (u.2.1 26) m = B) (hC : e_P0 F_M S_M_summed k_M_summed (some (.int B)) (Hp u) J) : J 0 0 [(0, .ref 22), (1, .int (nI m))] [] (Hp u) := by
  have loop : ∀ n k, k + n = m → J 0 4 [(0, .ref 22), (1, .int (nI m)), (2, .int (sm (u.2.1 26) k)), (3, .int (nI k))] [] (Hp u) := by
    intro n
    induction n with
    | zero =>
      intro k h1
      refine e_run hC ?_
      conv => whnf
      refine ⟨fun _ => ?_, fun h4 => absurd (nI_le (by omega) (by omega)) h4⟩
      refine e_run hC ?_
      conv => whnf
      refine ⟨?_, rfl⟩
      rw [← hB, show k = m by omega]
    | succ n ih =>
      intro k h1
      refine e_run hC ?_
      conv => whnf
      refine ⟨fun h4 => absurd h4 (nI_ge (by omega) (by omega)), fun _ => ?_⟩
      refine e_run hC ?_
      conv => whnf
      refine ⟨vp_in_nI (by omega) (by decide), ?_⟩
      rw [nI_clamp (by omega)]
      refine e_run hC ?_
      conv => whnf
      rw [nI_1]
      exact ih (k + 1) (by omega)
  refine e_runTo 4 hC ?_
  conv => whnf
  exact loop m 0 (by omega)
theorem m_M_summed (l : Launch) (hl : l.stackTraces = false) : e_Met l y_M_summed b_M_summed 4 (some .int) 0 C_M_summed :=
  e_met hl F_M C_M S_M_summed k_M_summed (by decide +kernel) f_M c_M s_M_summed o_M_summed (fun a _ => ⟨Nat.le_of_ble_eq_true rfl, rfl⟩) (fun a hp => ⟨_, rfl, Or.inr ⟨.int, _, rfl, rfl, rfl⟩, fun J hC => v_M_summed a.1 a.2 hp J _ rfl hC⟩)
def C_M_alike : e_C := ⟨St × Nat, 2, fun _ => 0, fun a => a.2 < 256, fun a => [.ref 15, .int (nI a.2)], fun a => Hp a.1, fun a => .inl (some (.int (nI (same (a.1.2.1 20) a.2 (a.2 / 16 * 16 + 16))))), fun a => Hp a.1⟩
def S_M_alike : List (Nat × e_C) := []
theorem s_M_alike : ∀ x ∈ S_M_alike, e_Site b_M_alike "DumpDeskModel" 0 x.1 x.2 := fun x hx => (by cases hx)
theorem v_M_alike (u : St) (k0 : Nat) (hp : k0 < 256) (J : e_Jt) (e : Nat) (he : k0 / 16 * 16 + 16 = e) (hC : e_P0 F_M S_M_alike k_M_alike (some (.int (nI (same (u.2.1 20) k0 e)))) (Hp u) J) : J 0 0 [(0, .ref 15), (1, .int (nI k0))] [] (Hp u) := by
  have out : ∀ k, k = sr (u.2.1 20) (u.2.1 20 k0) (e - (k0 + 1)) (k0 + 1) → k0 ≤ k → J 0 39 [(0, .ref 15), (1, .int (nI k0)), (2, .int (nI e)), (3, .int (nI k))] [] (Hp u) := by
    intro k hk hk2
    refine e_run hC ?_
    conv => whnf
    refine ⟨?_, rfl⟩
    unfold same
    rw [pk_sub hk2, hk]
  have loop : ∀ n k, k + n = e → k0 ≤ k → sr (u.2.1 20) (u.2.1 20 k0) n k = sr (u.2.1 20) (u.2.1 20 k0) (e - (k0 + 1)) (k0 + 1) → J 0 13 [(0, .ref 15), (1, .int (nI k0)), (2, .int (nI e)), (3, .int (nI k))] [] (Hp u) := by
    intro n
    induction n with
    | zero =>
      intro k h3 h4 h5
      refine e_run hC ?_
      conv => whnf
      exact ⟨fun _ => out k h5 (by omega), fun h6 => absurd (nI_le (by omega) (by omega)) h6⟩
    | succ n ih =>
      intro k h3 h4 h5
      have h5 : (if u.2.1 20 k = u.2.1 20 k0 then sr (u.2.1 20) (u.2.1 20 k0) n (k + 1) else k) = sr (u.2.1 20) (u.2.1 20 k0) (e - (k0 + 1)) (k0 + 1) := h5
      refine e_run hC ?_
      conv => whnf
      refine ⟨fun h6 => absurd h6 (nI_ge (by omega) (by omega)), fun _ => ?_⟩
      refine e_run hC ?_
      conv => whnf
      refine ⟨vp_in_nI (by omega) (by decide), ?_⟩
      rw [nI_clamp (by omega)]
      refine e_run hC ?_
      conv => whnf
      refine ⟨vp_in_nI (by omega) (by decide), ?_⟩
      rw [nI_clamp (by omega)]
      refine e_run hC ?_
      conv => whnf
      refine ⟨fun h6 => ?_, fun h6 => ?_⟩
      · rw [if_neg h6] at h5
        exact out k h5 (by omega)
      · rw [if_pos h6] at h5
        refine e_run hC ?_
        conv => whnf
        rw [nI_1]
        exact ih (k + 1) (by omega) (by omega) h5
  refine e_run hC ?_
  conv => whnf
  refine ⟨by decide, ?_⟩
  refine e_runTo 13 hC ?_
  conv => whnf
  rw [show (16 : Int32) = nI 16 from rfl, pk_div (by omega) (by decide) (by decide), pk_mul, nI_add, he]
  refine loop (e - k0) k0 (by omega) (Nat.le_refl _) ?_
  rw [show e - k0 = (e - (k0 + 1)) + 1 by omega]
  show (if u.2.1 20 k0 = u.2.1 20 k0 then _ else _) = _
  rw [if_pos rfl]
theorem m_M_alike (l : Launch) (hl : l.stackTraces = false) : e_Met l y_M_alike b_M_alike 4 (some .int) 0 C_M_alike :=
  e_met hl F_M C_M S_M_alike k_M_alike (by decide +kernel) f_M c_M s_M_alike o_M_alike (fun a _ => ⟨Nat.le_of_ble_eq_true rfl, rfl⟩) (fun a hp => ⟨_, rfl, Or.inr ⟨.int, _, rfl, rfl, rfl⟩, fun J hC => v_M_alike a.1 a.2 hp J _ rfl hC⟩)
/-- a page is packed: the end of the packing stands in size -/
def mkS (u : St) (t : Nat) (f : Nat → Int32) : St := uS (uA u 26 f) 24 (nI t)
theorem mkS_a (u : St) (t : Nat) (f g : Nat → Int32) : uA (mkS u t f) 26 g = mkS u t g := by
  show uS (uA (uA u 26 f) 26 g) 24 (nI t) = _
  rw [uA_uA]
  rfl
theorem mkS_s (u : St) (t r : Nat) (f : Nat → Int32) : uS (mkS u t f) 24 (nI r) = mkS u r f := uS_uS _ _ _ _
def C_M_pack : e_C := ⟨St × Nat, 2, fun _ => 0, fun a => a.2 < 16, fun a => [.ref 15, .int (nI a.2)], fun a => Hp a.1, fun _ => .inl none, fun a => Hp (mkS a.1 (pkg (a.1.2.1 20) (16 * a.2 + 16) 16 (16 * a.2) 3 (a.1.2.1 26)).1 (pkg (a.1.2.1 20) (16 * a.2 + 16) 16 (16 * a.2) 3 (a.1.2.1 26)).2)⟩
def S_M_pack : List (Nat × e_C) := [(22, C_M_alike), (89, C_M_alike)]
theorem s_M_pack : ∀ x ∈ S_M_pack, e_Site b_M_pack "DumpDeskModel" 1 x.1 x.2 := List.forall_mem_cons.mpr ⟨e_siteV (y := y_M_alike) (i := 102) (ci := 6) m_M_alike (by decide) (by decide) (fun _ => rfl) rfl (fun a _ => ⟨_, _, _, rfl, by decide, rfl⟩) rfl (e_in4 51 rfl rfl) (e_in4 53 rfl rfl) (e_in1 8 rfl rfl) (e_in4 54 rfl rfl) (e_inP 15 rfl rfl) ⟨by decide, by decide, rfl⟩ (by decide +kernel), List.forall_mem_cons.mpr ⟨e_siteV (y := y_M_alike) (i := 102) (ci := 6) m_M_alike (by decide) (by decide) (fun _ => rfl) rfl (fun a _ => ⟨_, _, _, rfl, by decide, rfl⟩) rfl (e_in4 51 rfl rfl) (e_in4 53 rfl rfl) (e_in1 8 rfl rfl) (e_in4 54 rfl rfl) (e_inP 15 rfl rfl) ⟨by decide, by decide, rfl⟩ (by decide +kernel), fun x hx => (by cases hx)⟩⟩
theorem v_M_pack (u : St) (p : Nat) (hp : p < 16) (J : e_Jt) (B : Nat × (Nat → Int32)) (hB : pkg (u.2.1 20) (16 * p + 16) 16 (16 * p) 3 (u.2.1 26) = B) (hC : e_P0 F_M S_M_pack k_M_pack none (Hp (mkS u B.1 B.2)) J) : J 0 0 [(0, .ref 15), (1, .int (nI p))] [] (Hp u) := by
  have out : ∀ k t f, B = (t, f) → J 0 179 [(0, .ref 15), (1, .int (nI p)), (2, .int (nI k)), (3, .int (nI (16 * p + 16)))] [] (Hp (mkS u t f)) := by
    intro k t f h1
    refine e_run hC ?_
    conv => whnf
    rw [h1]
    exact ⟨rfl, rfl⟩
  have loop : ∀ n k t f, 16 * p + 16 ≤ k + n → k ≤ 16 * p + 16 → 16 * p ≤ k → 3 ≤ t → t ≤ 3 + 2 * (k - 16 * p) → pkg (u.2.1 20) (16 * p + 16) n k t f = B → J 0 15 [(0, .ref 15), (1, .int (nI p)), (2, .int (nI k)), (3, .int (nI (16 * p + 16)))] [] (Hp (mkS u t f)) := by
    intro n
    induction n with
    | zero =>
      intro k t f h1 h2 h3 h4 h5 h6
      refine e_run hC ?_
      conv => whnf
      exact ⟨fun _ => out k t f h6.symm, fun h7 => absurd (nI_le (by omega) (by omega)) h7⟩
    | succ n ih =>
      intro k t f h1 h2 h3 h4 h5 h6
      unfold pkg at h6
      by_cases h7 : k < 16 * p + 16
      · rw [if_pos h7] at h6
        have a1 := same_in (u.2.1 20) h7
        have a2 := mixed_in (u.2.1 20) h7
        refine e_run hC ?_
        conv => whnf
        refine ⟨fun h8 => absurd h8 (nI_ge (by omega) (by omega)), fun _ => ?_⟩
        refine e_run hC ?_
        conv => whnf
        refine ⟨(mkS u t f, k), (by omega : k < 256), rfl, rfl, ?_⟩
        conv => whnf
        dsimp only [C_M_alike]
        rw [show k / 16 * 16 + 16 = 16 * p + 16 by omega, show (mkS u t f).2.1 20 = u.2.1 20 from rfl]
        refine e_run hC ?_
        conv => whnf
        refine ⟨fun h8 => ?_, fun h8 => ?_⟩
        · have h8 : same (u.2.1 20) k (16 * p + 16) < 3 := (nI_ltI (b := 3) (by omega) (by decide)).mp h8
          rw [if_neg (by omega)] at h6
          obtain ⟨m, hm⟩ : ∃ m, m = mixed (u.2.1 20) k (16 * p + 16) := ⟨_, rfl⟩
          rw [← hm] at h6 a2
          have cpl : ∀ q i g, i + q = m → (∀ j, (t + 1 + i ≤ j → g j = upd f t (nI m) j) ∧ (j < t + 1 + i → g j = va_cpy (u.2.1 20) (upd f t (nI m)) k (t + 1) m j)) → J 0 122 [(0, .ref 15), (1, .int (nI p)), (2, .int (nI k)), (3, .int (nI (16 * p + 16))), (4, .int (nI m)), (5, .int (nI (k + m))), (6, .int (nI i))] [] (Hp (mkS u t g)) := by
            intro q
            induction q with
            | zero =>
              intro i g i1 i2
              have e1 : g = va_cpy (u.2.1 20) (upd f t (nI m)) k (t + 1) m := by
                funext j
                by_cases hj : j < t + 1 + i
                · exact (i2 j).2 hj
                · rw [(i2 j).1 (by omega), pk_cpy_out (by omega)]
              refine e_run hC ?_
              conv => whnf
              refine ⟨fun _ => ?_, fun h9 => absurd (nI_le (by omega) (by omega)) h9⟩
              refine e_run hC ?_
              conv => whnf
              rw [h_s24, show (mkS u t g).1 24 = nI t from rfl, nI_1, nI_add, mkS_s]
              refine e_run hC ?_
              conv => whnf
              rw [nI_add]
              refine e_weak hC [0, 1, 2, 3] rfl rfl ?_
              rw [e1]
              exact ih (k + m) (t + 1 + m) _ (by omega) (by omega) (by omega) (by omega) (by omega) h6
            | succ q ihq =>
              intro i g i1 i2
              refine e_run hC ?_
              conv => whnf
              refine ⟨fun h9 => absurd h9 (nI_ge (by omega) (by omega)), fun _ => ?_⟩
              refine e_run hC ?_
              conv => whnf
              rw [nI_add]
              refine ⟨vp_in_nI (by omega) (by decide), ?_⟩
              rw [nI_clamp (by omega)]
              refine e_run hC ?_
              conv => whnf
              rw [show (mkS u t g).1 24 = nI t from rfl, nI_1, nI_add]
              refine ⟨vp_in_nI (by omega) (by decide), ?_⟩
              rw [nI_clamp (by omega), h_a26, mkS_a]
              refine e_run hC ?_
              conv => whnf
              rw [nI_1]
              refine ihq (i + 1) _ (by omega) (fun j => ⟨fun hj => ?_, fun hj => ?_⟩)
              · show upd g (t + 1 + i) (u.2.1 20 (k + i)) j = _
                rw [pk_un (by omega)]
                exact (i2 j).1 (by omega)
              · show upd g (t + 1 + i) (u.2.1 20 (k + i)) j = _
                by_cases hj2 : j = t + 1 + i
                · rw [hj2, pk_us, pk_cpy_in (by omega) (by omega)]
                  exact congrArg _ (by omega)
                · rw [pk_un hj2]
                  exact (i2 j).2 (by omega)
          have out2 : ∀ j, j = mx (u.2.1 20) (16 * p + 16) (16 * p + 16 - (k + 1)) (k + 1) → J 0 102 [(0, .ref 15), (1, .int (nI p)), (2, .int (nI k)), (3, .int (nI (16 * p + 16))), (4, .int (nI (same (u.2.1 20) k (16 * p + 16)))), (5, .int (nI j))] [] (Hp (mkS u t f)) := by
            intro j hj
            have hj2 : j = k + m := by
              have := (mx_le (u.2.1 20) (16 * p + 16) (16 * p + 16 - (k + 1)) (k + 1)).1
              rw [hm]
              unfold mixed
              omega
            rw [hj2]
            refine e_run hC ?_
            conv => whnf
            rw [pk_sub (by omega), show k + m - k = m by omega, show (mkS u t f).1 24 = nI t from rfl]
            refine ⟨vp_in_nI (by omega) (by decide), ?_⟩
            rw [nI_clamp (by omega), h_a26, mkS_a]
            refine e_runTo 122 hC ?_
            conv => whnf
            refine cpl m 0 _ (by omega) (fun j => ⟨fun _ => rfl, fun h9 => ?_⟩)
            rw [pk_cpy_out (by omega)]
            rfl
          have mxl : ∀ q j, j + q = 16 * p + 16 → k < j → mx (u.2.1 20) (16 * p + 16) q j = mx (u.2.1 20) (16 * p + 16) (16 * p + 16 - (k + 1)) (k + 1) → J 0 80 [(0, .ref 15), (1, .int (nI p)), (2, .int (nI k)), (3, .int (nI (16 * p + 16))), (4, .int (nI (same (u.2.1 20) k (16 * p + 16)))), (5, .int (nI j))] [] (Hp (mkS u t f)) := by
            intro q
            induction q with
            | zero =>
              intro j j1 j2 j3
              refine e_run hC ?_
              conv => whnf
              exact ⟨fun _ => out2 j j3, fun h9 => absurd (nI_le (by omega) (by omega)) h9⟩
            | succ q ihq =>
              intro j j1 j2 j3
              have j3 : (if same (u.2.1 20) j (16 * p + 16) < 3 then mx (u.2.1 20) (16 * p + 16) q (j + 1) else j) = mx (u.2.1 20) (16 * p + 16) (16 * p + 16 - (k + 1)) (k + 1) := j3
              have j4 := same_in (u.2.1 20) (show j < 16 * p + 16 by omega)
              refine e_run hC ?_
              conv => whnf
              refine ⟨fun h9 => absurd h9 (nI_ge (by omega) (by omega)), fun _ => ?_⟩
              refine e_run hC ?_
              conv => whnf
              refine ⟨(mkS u t f, j), (by omega : j < 256), rfl, rfl, ?_⟩
              conv => whnf
              dsimp only [C_M_alike]
              rw [show j / 16 * 16 + 16 = 16 * p + 16 by omega, show (mkS u t f).2.1 20 = u.2.1 20 from rfl]
              refine e_run hC ?_
              conv => whnf
              refine ⟨fun h9 => ?_, fun h9 => ?_⟩
              · have h9 : 3 ≤ same (u.2.1 20) j (16 * p + 16) := (nI_leI (a := 3) (by decide) (by omega)).mp h9
                rw [if_neg (by omega)] at j3
                exact out2 j j3
              · have h9 : ¬ 3 ≤ same (u.2.1 20) j (16 * p + 16) := fun z => h9 ((nI_leI (a := 3) (by decide) (by omega)).mpr z)
                rw [if_pos (by omega)] at j3
                refine e_run hC ?_
                conv => whnf
                rw [nI_1]
                exact ihq (j + 1) (by omega) (by omega) j3
          refine e_runTo 80 hC ?_
          conv => whnf
          rw [nI_1]
          exact mxl (16 * p + 16 - (k + 1)) (k + 1) (by omega) (by omega) rfl
        · have h8 : ¬ same (u.2.1 20) k (16 * p + 16) < 3 := fun z => h8 ((nI_ltI (b := 3) (by omega) (by decide)).mpr z)
          rw [if_pos (by omega)] at h6
          refine e_run hC ?_
          conv => whnf
          rw [show (mkS u t f).1 24 = nI t from rfl]
          refine ⟨vp_in_nI (by omega) (by decide), ?_⟩
          rw [nI_clamp (by omega), h_a26, mkS_a]
          refine e_run hC ?_
          conv => whnf
          refine ⟨vp_in_nI (by omega) (by decide), ?_⟩
          rw [nI_clamp (by omega)]
          refine e_run hC ?_
          conv => whnf
          rw [show ∀ g, (mkS u t g).1 24 = nI t from fun _ => rfl, nI_1]
          refine ⟨vp_in_nI (by omega) (by decide), ?_⟩
          rw [nI_clamp (by omega), h_a26, mkS_a]
          refine e_run hC ?_
          conv => whnf
          rw [h_s24, show ∀ g, (mkS u t g).1 24 = nI t from fun _ => rfl, show (2 : Int32) = nI 2 from rfl, nI_add, mkS_s]
          refine e_run hC ?_
          conv => whnf
          refine e_run hC ?_
          conv => whnf
          rw [nI_add]
          exact e_weak hC [0, 1, 2, 3] rfl rfl (ih (k + same (u.2.1 20) k (16 * p + 16)) (t + 2) _ (by omega) (by omega) (by omega) (by omega) (by omega) h6)
      · rw [if_neg h7] at h6
        refine e_run hC ?_
        conv => whnf
        exact ⟨fun _ => out k t f h6.symm, fun h8 => absurd (nI_le (by omega) (by omega)) h8⟩
  refine e_run hC ?_
  conv => whnf
  rw [h_s24]
  rw [m16l, show (16 : Int32) = nI 16 from rfl, nI_add]
  have h0 := loop 16 (16 * p) 3 (u.2.1 26) (by omega) (by omega) (by omega) (by omega) (by omega) hB
  unfold mkS at h0
  rw [uA_self] at h0
  exact h0
theorem m_M_pack (l : Launch) (hl : l.stackTraces = false) : e_Met l y_M_pack b_M_pack 7 none 1 C_M_pack :=
  e_met hl F_M C_M S_M_pack k_M_pack (by decide +kernel) f_M c_M s_M_pack o_M_pack (fun a _ => ⟨Nat.le_of_ble_eq_true rfl, rfl⟩) (fun a hp => ⟨_, rfl, Or.inl ⟨rfl, rfl⟩, fun J hC => v_M_pack a.1 a.2 hp J _ rfl hC⟩)
def C_M_nextGood : e_C := ⟨St × Nat, 2, fun _ => 0, fun a => a.2 ≤ 96, fun a => [.ref 15, .int (nI a.2)], fun a => Hp a.1, fun a => .inl (some (.int (nI (fNG (a.1.2.1 25) (96 - a.2) a.2)))), fun a => Hp a.1⟩
def S_M_nextGood : List (Nat × e_C) := []
theorem s_M_nextGood : ∀ x ∈ S_M_nextGood, e_Site b_M_nextGood "DumpDeskModel" 0 x.1 x.2 := fun x hx => (by cases hx)
theorem v_M_nextGood (u : St) (s0 : Nat) (hp : s0 ≤ 96) (J : e_Jt) (B : Nat) (hB : fNG (u.2.1 25) (96 - s0) s0 = B) (hC : e_P0 F_M S_M_nextGood k_M_nextGood (some (.int (nI B))) (Hp u) J) : J 0 0 [(0, .ref 15), (1, .int (nI s0))] [] (Hp u) := by
  have loop : ∀ n s, s + n = 96 → fNG (u.2.1 25) n s = B → J 0 2 [(0, .ref 15), (1, .int (nI s0)), (2, .int (nI s))] [] (Hp u) := by
    intro n
    induction n with
    | zero =>
      intro s h1 h2
      refine e_run hC ?_
      conv => whnf
      refine ⟨fun _ => ?_, fun h4 => absurd (nI_le (a := 96) (by omega) (by omega)) h4⟩
      refine e_run hC ?_
      conv => whnf
      exact ⟨by rw [← h2]; rfl, rfl⟩
    | succ n ih =>
      intro s h1 h2
      have h2 : (if u.2.1 25 s = 0 then s else fNG (u.2.1 25) n (s + 1)) = B := h2
      refine e_run hC ?_
      conv => whnf
      refine ⟨fun h4 => absurd h4 (nI_ge (b := 96) (by omega) (by decide)), fun _ => ?_⟩
      refine e_run hC ?_
      conv => whnf
      refine ⟨vp_in_nI (by omega) (by decide), ?_⟩
      rw [nI_clamp (by omega)]
      refine e_run hC ?_
      conv => whnf
      refine ⟨fun h5 => ?_, fun h5 => ?_⟩
      · rw [if_pos h5] at h2
        refine e_run hC ?_
        conv => whnf
        exact ⟨by rw [← h2], rfl⟩
      · rw [if_neg h5] at h2
        refine e_run hC ?_
        conv => whnf
        rw [nI_1]
        exact ih (s + 1) (by omega) h2
  refine e_runTo 2 hC ?_
  conv => whnf
  exact loop (96 - s0) s0 (by omega) hB
theorem m_M_nextGood (l : Launch) (hl : l.stackTraces = false) : e_Met l y_M_nextGood b_M_nextGood 3 (some .int) 0 C_M_nextGood :=
  e_met hl F_M C_M S_M_nextGood k_M_nextGood (by decide +kernel) f_M c_M s_M_nextGood o_M_nextGood (fun a _ => ⟨Nat.le_of_ble_eq_true rfl, rfl⟩) (fun a hp => ⟨_, rfl, Or.inr ⟨.int, _, rfl, rfl, rfl⟩, fun J hC => v_M_nextGood a.1 a.2 hp J _ rfl hC⟩)
def C_M_goodFrom : e_C := ⟨St × Nat, 2, fun _ => 0, fun a => a.2 ≤ 96, fun a => [.ref 15, .int (nI a.2)], fun a => Hp a.1, fun a => .inl (some (.int (nI (cg (a.1.2.1 25) (96 - a.2) a.2)))), fun a => Hp a.1⟩
def S_M_goodFrom : List (Nat × e_C) := []
theorem s_M_goodFrom : ∀ x ∈ S_M_goodFrom, e_Site b_M_goodFrom "DumpDeskModel" 0 x.1 x.2 := fun x hx => (by cases hx)
theorem v_M_goodFrom (u : St) (s0 : Nat) (hp : s0 ≤ 96) (J : e_Jt) (B : Nat) (hB : cg (u.2.1 25) (96 - s0) s0 = B) (hC : e_P0 F_M S_M_goodFrom k_M_goodFrom (some (.int (nI B))) (Hp u) J) : J 0 0 [(0, .ref 15), (1, .int (nI s0))] [] (Hp u) := by
  have loop : ∀ n s c, s + n = 96 → c + cg (u.2.1 25) n s = B → J 0 4 [(0, .ref 15), (1, .int (nI s0)), (2, .int (nI c)), (3, .int (nI s))] [] (Hp u) := by
    intro n
    induction n with
    | zero =>
      intro s c h1 h2
      refine e_run hC ?_
      conv => whnf
      refine ⟨fun _ => ?_, fun h4 => absurd (nI_le (a := 96) (by omega) (by omega)) h4⟩
      refine e_run hC ?_
      conv => whnf
      refine ⟨?_, rfl⟩
      rw [← h2]
      rfl
    | succ n ih =>
      intro s c h1 h2
      have h2 : c + ((if u.2.1 25 s = 0 then 1 else 0) + cg (u.2.1 25) n (s + 1)) = B := h2
      refine e_run hC ?_
      conv => whnf
      refine ⟨fun h4 => absurd h4 (nI_ge (b := 96) (by omega) (by decide)), fun _ => ?_⟩
      refine e_run hC ?_
      conv => whnf
      refine ⟨vp_in_nI (by omega) (by decide), ?_⟩
      rw [nI_clamp (by omega)]
      refine e_run hC ?_
      conv => whnf
      refine ⟨fun h5 => ?_, fun h5 => ?_⟩
      · rw [if_pos h5] at h2
        refine e_run hC ?_
        conv => whnf
        rw [nI_1, nI_1]
        exact ih (s + 1) (c + 1) (by omega) (by omega)
      · rw [if_neg h5] at h2
        refine e_run hC ?_
        conv => whnf
        refine e_run hC ?_
        conv => whnf
        rw [nI_1]
        exact ih (s + 1) c (by omega) (by omega)
  refine e_runTo 4 hC ?_
  conv => whnf
  exact loop (96 - s0) s0 0 (by omega) (by omega)
theorem m_M_goodFrom (l : Launch) (hl : l.stackTraces = false) : e_Met l y_M_goodFrom b_M_goodFrom 4 (some .int) 0 C_M_goodFrom :=
  e_met hl F_M C_M S_M_goodFrom k_M_goodFrom (by decide +kernel) f_M c_M s_M_goodFrom o_M_goodFrom (fun a _ => ⟨Nat.le_of_ble_eq_true rfl, rfl⟩) (fun a hp => ⟨_, rfl, Or.inr ⟨.int, _, rfl, rfl, rfl⟩, fun J hC => v_M_goodFrom a.1 a.2 hp J _ rfl hC⟩)
