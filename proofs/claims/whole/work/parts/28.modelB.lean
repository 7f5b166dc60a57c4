/-! the reference: places, nodes, lists -/
theorem pA (u : St) (k j : Nat) (f : Nat → Int32) : (uA u k f).2.1 j = if j = k then f else u.2.1 j := by
  show cond (Nat.beq j k) f (u.2.1 j) = _
  by_cases h : j = k
  · rw [if_pos h, h, Nat.beq_refl k]
    rfl
  · rw [if_neg h, Bool.eq_false_iff.mpr (fun z => h (Nat.eq_of_beq_eq_true z))]
    rfl
theorem pS (u : St) (k j : Nat) (x : Int32) : (uS u k x).1 j = if j = k then x else u.1 j := by
  show cond (Nat.beq j k) x (u.1 j) = _
  by_cases h : j = k
  · rw [if_pos h, h, Nat.beq_refl k]
    rfl
  · rw [if_neg h, Bool.eq_false_iff.mpr (fun z => h (Nat.eq_of_beq_eq_true z))]
    rfl
theorem pAs (u : St) (k : Nat) (f : Nat → Int32) : (uA u k f).1 = u.1 := rfl
theorem pSa (u : St) (k : Nat) (x : Int32) : (uS u k x).2 = u.2 := rfl
theorem ld4 (n : Nat) : nI (16 + 4 * n) - 4 = nI (12 + 4 * n) := by
  rw [show (4 : Int32) = nI 4 from rfl, pk_sub (by omega)]
  congr 1
  omega
theorem m16l (x : Nat) : 16 * nI x = nI (16 * x) := by rw [show (16 : Int32) = nI 16 from rfl, pk_mul]
theorem mlf_in (w : Nat → Int32) : ∀ n fd, n ≤ 14 → (fd = -1 ∨ ∃ k, 1 ≤ k ∧ k ≤ 14 ∧ fd = nI k) → (mlf w n fd = -1 ∨ ∃ k, 1 ≤ k ∧ k ≤ 14 ∧ mlf w n fd = nI k) := by
  intro n
  induction n with
  | zero => intro fd _ h; exact h
  | succ n ih =>
    intro fd hn h
    refine ih _ (by omega) ?_
    split
    · exact Or.inr ⟨n + 1, by omega, hn, rfl⟩
    · exact h
def mF (w tk : Nat → Int32) : Nat → Nat → Int32
  | 0, _ => -1
  | m + 1, a => if fl w (a / 16) = 1 ∧ tk a = 0 then nI a else mF w tk m (a + 4)
theorem mF_s (w tk : Nat → Int32) (m a : Nat) : mF w tk (m + 1) a = if fl w (a / 16) = 1 ∧ tk a = 0 then nI a else mF w tk m (a + 4) := rfl
theorem nar_bi (b : Bool) : vp_nar .boolean (bi b) = bi b := by cases b <;> rfl
def mZ (w : Nat → Int32) (p : Nat) : Nat → Int32 := ffl (mfl w p 1) (16 * p) (16 * p + 16) 0
def mpl (w tk : Nat → Int32) : Int32 × (Nat → Int32) :=
  if mF w tk 56 16 < 0 then (if mlf w 14 (-1) < 0 then (-1, w) else (nI (16 * na (mlf w 14 (-1))), mZ w (na (mlf w 14 (-1))))) else (mF w tk 56 16, w)
def C_M_place : e_C := ⟨St, 1, fun _ => 0, fun _ => True, fun _ => [.ref 15], fun a => Hp a, fun a => .inl (some (.int (mpl (a.2.1 20) (a.2.1 23)).1)), fun a => Hp (uA a 20 (mpl (a.2.1 20) (a.2.1 23)).2)⟩
def S_M_place : List (Nat × e_C) := [(17, C_M_flagOf), (53, C_M_lowestFree), (66, C_M_flag)]
theorem s_M_place : ∀ x ∈ S_M_place, e_Site b_M_place "DumpDeskModel" 2 x.1 x.2 := List.forall_mem_cons.mpr ⟨e_siteV (y := y_M_flagOf) (i := 52) (ci := 6) m_M_flagOf (by decide) (by decide) (fun _ => rfl) rfl (fun a _ => ⟨_, _, _, rfl, by decide, rfl⟩) rfl (e_in3 125 rfl rfl) (e_in3 127 rfl rfl) (e_in1 8 rfl rfl) (e_in3 128 rfl rfl) (e_inP 4 rfl rfl) ⟨by decide, by decide, rfl⟩ (by decide +kernel), List.forall_mem_cons.mpr ⟨e_siteV (y := y_M_lowestFree) (i := 56) (ci := 6) m_M_lowestFree (by decide) (by decide) (fun _ => rfl) rfl (fun a _ => ⟨_, _, _, rfl, by decide, rfl⟩) rfl (e_in3 212 rfl rfl) (e_in3 214 rfl rfl) (e_in1 8 rfl rfl) (e_in3 215 rfl rfl) (e_inP 7 rfl rfl) ⟨by decide, by decide, rfl⟩ (by decide +kernel), List.forall_mem_cons.mpr ⟨e_siteV (y := y_M_flag) (i := 44) (ci := 6) m_M_flag (by decide) (by decide) (fun _ => rfl) rfl (fun a _ => ⟨_, _, _, rfl, by decide, rfl⟩) rfl (e_in3 121 rfl rfl) (e_in3 123 rfl rfl) (e_in1 8 rfl rfl) (e_in3 124 rfl rfl) (e_inP 3 rfl rfl) ⟨by decide, by decide, rfl⟩ (by decide +kernel), fun x hx => (by cases hx)⟩⟩⟩
theorem v_M_place (u : St) (J : e_Jt) (B : Int32 × (Nat → Int32)) (hB : mpl (u.2.1 20) (u.2.1 23) = B) (hC : e_P0 F_M S_M_place k_M_place (some (.int B.1)) (Hp (uA u 20 B.2)) J) : J 0 0 [(0, .ref 15)] [] (Hp u) := by
  unfold mpl at hB
  have wr : ∀ n k p f (x : Int32), k + n = 16 → p ≤ 14 → B.1 = nI (16 * p) → B.2 = ffl f (16 * p + k) (16 * p + 16) 0 → J 0 71 [(0, .ref 15), (1, .int x), (2, .int (nI p)), (3, .int (nI k))] [] (Hp (uA u 20 f)) := by
    intro n
    induction n with
    | zero =>
      intro k p f x h1 h2 h3 h4
      refine e_run hC ?_
      conv => whnf
      refine ⟨fun _ => ?_, fun h5 => absurd (nI_le (a := 16) (by omega) (by omega)) h5⟩
      refine e_run hC ?_
      conv => whnf
      rw [m16l]
      refine ⟨by rw [h3], ?_⟩
      rw [h4, show k = 16 by omega, ffl_end]
    | succ n ih =>
      intro k p f x h1 h2 h3 h4
      refine e_run hC ?_
      conv => whnf
      refine ⟨fun h5 => absurd h5 (nI_ge (b := 16) (by omega) (by decide)), fun _ => ?_⟩
      refine e_run hC ?_
      conv => whnf
      rw [m16l, nI_add]
      refine ⟨vp_in_nI (by omega) (by decide), ?_⟩
      rw [nI_clamp (by omega), h_a20, uA_uA]
      refine e_run hC ?_
      conv => whnf
      rw [nI_1]
      refine ih (k + 1) p _ x (by omega) h2 h3 ?_
      rw [h4]
      exact (ffl_step f _ _ 0 (by omega)).symm
  have loop : ∀ n m, n + m = 56 → J 0 6 [(0, .ref 15), (1, .int (mF (u.2.1 20) (u.2.1 23) m (16 + 4 * n))), (2, .int (nI (12 + 4 * n)))] [] (Hp u) := by
    intro n
    induction n with
    | zero =>
      intro m h1
      have h1 : m = 56 := by omega
      subst h1
      refine e_run hC ?_
      conv => whnf
      refine ⟨fun _ => ?_, fun h5 => absurd (by decide) h5⟩
      have hin : mF (u.2.1 20) (u.2.1 23) 56 (16 + 4 * 0) = mF (u.2.1 20) (u.2.1 23) 56 16 := rfl
      rw [hin]
      generalize mF (u.2.1 20) (u.2.1 23) 56 16 = fd at hB
      refine e_run hC ?_
      conv => whnf
      refine ⟨fun h2 => ?_, fun h2 => ?_⟩
      · rw [if_pos h2] at hB
        refine e_run hC ?_
        conv => whnf
        refine ⟨u, trivial, rfl, rfl, ?_⟩
        conv => whnf
        dsimp only [C_M_lowestFree]
        have hlf := mlf_in (u.2.1 20) 14 (-1) (Nat.le_refl _) (Or.inl rfl)
        generalize mlf (u.2.1 20) 14 (-1) = q at hB hlf
        refine e_run hC ?_
        conv => whnf
        rcases hlf with rfl | ⟨k, k1, k2, rfl⟩
        · refine ⟨fun h3 => absurd h3 (by decide), fun _ => ?_⟩
          rw [if_pos (by decide)] at hB
          refine e_run hC ?_
          conv => whnf
          rw [← hB]
          exact ⟨rfl, by rw [uA_self]⟩
        · refine ⟨fun _ => ?_, fun h3 => absurd (nI_pos' (by omega)) h3⟩
          rw [if_neg (nI_pos (by omega)), na, nI_clamp (by omega)] at hB
          refine e_run hC ?_
          conv => whnf
          refine ⟨(u, k, 1), (by omega : k < 16), rfl, rfl, ?_⟩
          conv => whnf
          dsimp only [C_M_flag]
          refine e_runTo 71 hC ?_
          conv => whnf
          exact wr 16 0 k _ _ rfl k2 (by rw [← hB]) (by rw [← hB]; rfl)
      · rw [if_neg h2] at hB
        refine e_run hC ?_
        conv => whnf
        rw [← hB]
        exact ⟨rfl, by rw [uA_self]⟩
    | succ n ih =>
      intro m h1
      have e1 : 12 + 4 * (n + 1) = 16 + 4 * n := by omega
      rw [e1]
      have nxt : ∀ g, mF (u.2.1 20) (u.2.1 23) (m + 1) (16 + 4 * n) = g → J 0 38 [(0, .ref 15), (1, .int (mF (u.2.1 20) (u.2.1 23) m (16 + 4 * (n + 1)))), (2, .int (nI (16 + 4 * n)))] [.int g] (Hp u) := by
        intro g hg
        refine e_run hC ?_
        conv => whnf
        rw [ld4, ← hg]
        exact ih (m + 1) (by omega)
      have no : ¬ (fl (u.2.1 20) ((16 + 4 * n) / 16) = 1 ∧ u.2.1 23 (16 + 4 * n) = 0) → J 0 37 [(0, .ref 15), (1, .int (mF (u.2.1 20) (u.2.1 23) m (16 + 4 * (n + 1)))), (2, .int (nI (16 + 4 * n)))] [] (Hp u) := by
        intro h
        refine e_runTo 38 hC ?_
        conv => whnf
        refine nxt _ ?_
        rw [mF_s, if_neg h]
        rfl
      refine e_run hC ?_
      conv => whnf
      refine ⟨fun h5 => absurd h5 (nI_nlt (b := 16) (by omega) (by omega)), fun _ => ?_⟩
      refine e_run hC ?_
      conv => whnf
      refine ⟨by decide, ?_⟩
      rw [show (16 : Int32) = nI 16 from rfl, pk_div (by omega) (by decide) (by decide)]
      refine e_run hC ?_
      conv => whnf
      refine ⟨(u, (16 + 4 * n) / 16), (by omega : (16 + 4 * n) / 16 < 16), rfl, rfl, ?_⟩
      conv => whnf
      dsimp only [C_M_flagOf]
      refine e_run hC ?_
      conv => whnf
      refine ⟨fun h2 => no (fun z => h2 z.1), fun h2 => ?_⟩
      refine e_run hC ?_
      conv => whnf
      refine ⟨vp_in_nI (by omega) (by decide), ?_⟩
      rw [nI_clamp (by omega)]
      refine e_run hC ?_
      conv => whnf
      refine ⟨fun h3 => no (fun z => h3 z.2), fun h3 => ?_⟩
      refine e_runTo 38 hC ?_
      conv => whnf
      refine nxt _ ?_
      rw [mF_s, if_pos ⟨h2, h3⟩]
  refine e_runTo 6 hC ?_
  conv => whnf
  exact loop 56 0 rfl
theorem m_M_place (l : Launch) (hl : l.stackTraces = false) : e_Met l y_M_place b_M_place 4 (some .int) 2 C_M_place :=
  e_met hl F_M C_M S_M_place k_M_place (by decide +kernel) f_M c_M s_M_place o_M_place (fun a _ => ⟨Nat.le_of_ble_eq_true rfl, rfl⟩) (fun a hp => ⟨_, rfl, Or.inr ⟨.int, _, rfl, rfl, rfl⟩, fun J hC => v_M_place a J _ rfl hC⟩)
def wrt (w : Nat → Int32) (p : Nat) (t x y : Int32) : Nat → Int32 := upd (upd (upd (upd w p t) (p + 1) 0) (p + 2) x) (p + 3) y
def mwr (u : St) (p : Nat) (t x y : Int32) : St := uA (uA u 20 (wrt (u.2.1 20) p t x y)) 23 (upd (u.2.1 23) p (bi (decide (t ≠ 0))))
def C_M_write : e_C := ⟨St × Nat × Int32 × Int32 × Int32, 5, fun _ => 0, fun a => a.2.1 < 253, fun a => [.ref 15, .int (nI a.2.1), .int a.2.2.1, .int a.2.2.2.1, .int a.2.2.2.2], fun a => Hp a.1, fun _ => .inl none, fun a => Hp (mwr a.1 a.2.1 a.2.2.1 a.2.2.2.1 a.2.2.2.2)⟩
def S_M_write : List (Nat × e_C) := []
theorem s_M_write : ∀ x ∈ S_M_write, e_Site b_M_write "DumpDeskModel" 0 x.1 x.2 := fun x hx => (by cases hx)
theorem v_M_write (u : St) (p : Nat) (t x y : Int32) (hp : p < 253) (J : e_Jt) (hC : e_P0 F_M S_M_write k_M_write none (Hp (mwr u p t x y)) J) : J 0 0 [(0, .ref 15), (1, .int (nI p)), (2, .int t), (3, .int x), (4, .int y)] [] (Hp u) := by
  have fin : ∀ b : Bool, b = decide (t ≠ 0) → J 0 49 [(0, .ref 15), (1, .int (nI p)), (2, .int t), (3, .int x), (4, .int y)] [.int (bi b), .int (nI p), .ref 19] (Hp (uA u 20 (wrt (u.2.1 20) p t x y))) := by
    intro b hb
    have e1 : (upd (u.2.1 23) p (bi b)) = upd (u.2.1 23) p (bi (decide (t ≠ 0))) := by rw [hb]
    refine e_run hC ?_
    conv => whnf
    refine ⟨vp_in_nI (by omega) (by decide), ?_⟩
    rw [nI_clamp (by omega), nar_bi, h_a23]
    refine e_run hC ?_
    conv => whnf
    exact ⟨rfl, by rw [mwr, ← e1]; rfl⟩
  refine e_run hC ?_
  conv => whnf
  refine ⟨vp_in_nI (by omega) (by decide), ?_⟩
  rw [nI_clamp (by omega), h_a20]
  refine e_run hC ?_
  conv => whnf
  rw [nI_1]
  refine ⟨vp_in_nI (by omega) (by decide), ?_⟩
  rw [nI_clamp (by omega), h_a20, uA_uA]
  refine e_run hC ?_
  conv => whnf
  rw [show (2 : Int32) = nI 2 from rfl, nI_add]
  refine ⟨vp_in_nI (by omega) (by decide), ?_⟩
  rw [nI_clamp (by omega), h_a20, uA_uA]
  refine e_run hC ?_
  conv => whnf
  rw [show (3 : Int32) = nI 3 from rfl, nI_add]
  refine ⟨vp_in_nI (by omega) (by decide), ?_⟩
  rw [nI_clamp (by omega), h_a20, uA_uA]
  refine e_run hC ?_
  conv => whnf
  refine ⟨fun h1 => ?_, fun h1 => ?_⟩
  · refine e_runTo 49 hC ?_
    conv => whnf
    exact fin false (by rw [h1]; rfl)
  · refine e_runTo 49 hC ?_
    conv => whnf
    exact fin true (decide_eq_true h1).symm
theorem m_M_write (l : Launch) (hl : l.stackTraces = false) : e_Met l y_M_write b_M_write 5 none 0 C_M_write :=
  e_met hl F_M C_M S_M_write k_M_write (by decide +kernel) f_M c_M s_M_write o_M_write (fun a _ => ⟨Nat.le_of_ble_eq_true rfl, rfl⟩) (fun a hp => ⟨_, rfl, Or.inl ⟨rfl, rfl⟩, v_M_write a.1 a.2.1 a.2.2.1 a.2.2.2.1 a.2.2.2.2 hp⟩)
/-- the entries of a list in its row -/
def ent (f : Nat → Int32) : Nat → List Nat → Prop
  | _, [] => True
  | i, a :: L => f i = nI a ∧ a < 253 ∧ ent f (i + 1) L
theorem ent_app (f : Nat → Int32) : ∀ (A B : List Nat) (i : Nat), ent f i (A ++ B) ↔ ent f i A ∧ ent f (i + A.length) B := by
  intro A
  induction A with
  | nil => intro B i; exact ⟨fun h => ⟨trivial, h⟩, fun h => h.2⟩
  | cons a A ih =>
    intro B i
    show (f i = nI a ∧ a < 253 ∧ ent f (i + 1) (A ++ B)) ↔ (f i = nI a ∧ a < 253 ∧ ent f (i + 1) A) ∧ ent f (i + (A.length + 1)) B
    rw [ih B (i + 1), show i + (A.length + 1) = i + 1 + A.length by omega]
    exact ⟨fun ⟨h1, h2, h3, h4⟩ => ⟨⟨h1, h2, h3⟩, h4⟩, fun ⟨⟨h1, h2, h3⟩, h4⟩ => ⟨h1, h2, h3, h4⟩⟩
theorem ent_sh {f g : Nat → Int32} : ∀ (L : List Nat) (i k : Nat), ent f i L → (∀ j, j < L.length → g (k + j) = f (i + j)) → ent g k L := by
  intro L
  induction L with
  | nil => intro i k _ _; trivial
  | cons a L ih =>
    intro i k h h2
    refine ⟨(h2 0 (Nat.zero_lt_succ _)).trans h.1, h.2.1, ih (i + 1) (k + 1) h.2.2 (fun j hj => ?_)⟩
    have := h2 (j + 1) (Nat.succ_lt_succ hj)
    rw [show k + 1 + j = k + (j + 1) by omega, show i + 1 + j = i + (j + 1) by omega]
    exact this
def LR (u : St) (l : Nat) (L : List Nat) : Prop := u.2.1 22 l = nI L.length ∧ L.length ≤ 56 ∧ ent (u.2.1 21) (56 * l) L
/-- the links of a list are laid from a slot on -/
def chn : List Nat → Nat → (Nat → Int32) → (Nat → Int32)
  | [], s, m => upd m s 0
  | a :: L, s, m => chn L (a + 1) (upd m s (nI a))
def C_M_link : e_C := ⟨St × Nat × List Nat, 2, fun _ => 0, fun a => a.2.1 < 6 ∧ LR a.1 a.2.1 a.2.2, fun a => [.ref 15, .int (nI a.2.1)], fun a => Hp a.1, fun _ => .inl none, fun a => Hp (uA a.1 20 (chn a.2.2 a.2.1 (a.1.2.1 20)))⟩
def S_M_link : List (Nat × e_C) := []
theorem s_M_link : ∀ x ∈ S_M_link, e_Site b_M_link "DumpDeskModel" 0 x.1 x.2 := fun x hx => (by cases hx)
theorem m56 (l k : Nat) : (56 : Int32) * nI l + nI k = nI (56 * l + k) := by rw [show (56 : Int32) = nI 56 from rfl, pk_mul, nI_add]
theorem v_M_link (u : St) (l : Nat) (L : List Nat) (hp : l < 6 ∧ LR u l L) (J : e_Jt) (G : Nat → Int32) (hG : chn L l (u.2.1 20) = G) (hC : e_P0 F_M S_M_link k_M_link none (Hp (uA u 20 G)) J) : J 0 0 [(0, .ref 15), (1, .int (nI l))] [] (Hp u) := by
  obtain ⟨h1, h2, h3, h4⟩ := hp
  have loop : ∀ (B : List Nat) k s m, k + B.length = L.length → ent (u.2.1 21) (56 * l + k) B → s < 254 → chn B s m = G → J 0 4 [(0, .ref 15), (1, .int (nI l)), (2, .int (nI s)), (3, .int (nI k))] [] (Hp (uA u 20 m)) := by
    intro B
    induction B with
    | nil =>
      intro k s m k1 k2 k3 k4
      have k1 : k = L.length := k1
      refine e_run hC ?_
      conv => whnf
      refine ⟨vp_in_nI (by omega) (by decide), ?_⟩
      rw [nI_clamp (by omega), show (uA u 20 m).2.1 22 l = nI L.length from h2]
      refine e_run hC ?_
      conv => whnf
      refine ⟨fun _ => ?_, fun h5 => absurd (nI_le (by omega) (by omega)) h5⟩
      refine e_run hC ?_
      conv => whnf
      refine ⟨vp_in_nI (by omega) (by decide), ?_⟩
      rw [nI_clamp (by omega), h_a20, uA_uA]
      refine e_run hC ?_
      conv => whnf
      rw [← k4]
      exact ⟨rfl, rfl⟩
    | cons b B ih =>
      intro k s m k1 k2 k3 k4
      have k1 : k + (B.length + 1) = L.length := k1
      refine e_run hC ?_
      conv => whnf
      refine ⟨vp_in_nI (by omega) (by decide), ?_⟩
      rw [nI_clamp (by omega), show (uA u 20 m).2.1 22 l = nI L.length from h2]
      refine e_run hC ?_
      conv => whnf
      refine ⟨fun h5 => absurd h5 (nI_ge (by omega) (by omega)), fun _ => ?_⟩
      refine e_run hC ?_
      conv => whnf
      rw [m56]
      refine ⟨vp_in_nI (by omega) (by decide), ?_⟩
      rw [nI_clamp (by omega)]
      refine e_run hC ?_
      conv => whnf
      refine ⟨vp_in_nI (by omega) (by decide), ?_⟩
      rw [nI_clamp (by omega), h_a20, uA_uA]
      refine e_run hC ?_
      conv => whnf
      rw [m56]
      refine ⟨vp_in_nI (by omega) (by decide), ?_⟩
      rw [nI_clamp (by omega)]
      refine e_run hC ?_
      conv => whnf
      rw [nI_1]
      rw [show (uA u 20 m).2.1 21 (56 * l + k) = nI b from k2.1, show (uA u 20 (upd ((uA u 20 m).2.1 20) s (nI b))).2.1 21 (56 * l + k) = nI b from k2.1, nI_1]
      have k5 := k2.2.1
      refine ih (k + 1) (b + 1) _ (by omega) k2.2.2 (by omega) ?_
      rw [← k4]
      rfl
  refine e_runTo 4 hC ?_
  conv => whnf
  have := loop L 0 l (u.2.1 20) (by omega) h4 (by omega) hG
  rw [uA_self] at this
  exact this
theorem m_M_link (l : Launch) (hl : l.stackTraces = false) : e_Met l y_M_link b_M_link 4 none 0 C_M_link :=
  e_met hl F_M C_M S_M_link k_M_link (by decide +kernel) f_M c_M s_M_link o_M_link (fun a _ => ⟨Nat.le_of_ble_eq_true rfl, rfl⟩) (fun a hp => ⟨_, rfl, Or.inl ⟨rfl, rfl⟩, fun J hC => v_M_link a.1 a.2.1 a.2.2 hp J _ rfl hC⟩)
/-- an entry is put into a row, those behind move up -/
def pli (f : Nat → Int32) (i n : Nat) (a : Int32) : Nat → Int32 := fun j => if j = i then a else if i < j ∧ j ≤ i + n then f (j - 1) else f j
def mpu (u : St) (l : Nat) (A B : List Nat) (a : Nat) : St := uA (uA (uA u 21 (pli (u.2.1 21) (56 * l + A.length) B.length (nI a))) 22 (upd (u.2.1 22) l (nI (A.length + B.length + 1)))) 20 (chn (A ++ a :: B) l (u.2.1 20))
theorem mpu_LR (u : St) (l : Nat) (A B : List Nat) (a : Nat) (h : LR u l (A ++ B)) (hn : (A ++ B).length < 56) (ha : a < 253) : LR (mpu u l A B a) l (A ++ a :: B) := by
  obtain ⟨h1, h2, h3⟩ := h
  rw [List.length_append] at hn
  have e1 : (A ++ a :: B).length = A.length + B.length + 1 := by rw [List.length_append, List.length_cons]; omega
  obtain ⟨h4, h5⟩ := (ent_app _ _ _ _).mp h3
  refine ⟨?_, by omega, ?_⟩
  · show upd (u.2.1 22) l (nI (A.length + B.length + 1)) l = _
    rw [pk_us, e1]
  · show ent (pli (u.2.1 21) (56 * l + A.length) B.length (nI a)) (56 * l) (A ++ a :: B)
    rw [ent_app]
    refine ⟨ent_sh A _ _ h4 (fun j hj => ?_), ?_, ha, ent_sh B _ _ h5 (fun j hj => ?_)⟩
    · unfold pli
      rw [if_neg (by omega), if_neg (by omega)]
    · unfold pli
      rw [if_pos rfl]
    · unfold pli
      rw [if_neg (by omega), if_pos (by omega)]
      exact congrArg _ (by omega)
def C_M_put : e_C := ⟨St × Nat × List Nat × List Nat × Nat, 4, fun _ => 0, fun a => a.2.1 < 6 ∧ LR a.1 a.2.1 (a.2.2.1 ++ a.2.2.2.1) ∧ (a.2.2.1 ++ a.2.2.2.1).length < 56 ∧ a.2.2.2.2 < 253, fun a => [.ref 15, .int (nI a.2.1), .int (nI a.2.2.1.length), .int (nI a.2.2.2.2)], fun a => Hp a.1, fun _ => .inl none, fun a => Hp (mpu a.1 a.2.1 a.2.2.1 a.2.2.2.1 a.2.2.2.2)⟩
def S_M_put : List (Nat × e_C) := [(70, C_M_link)]
theorem s_M_put : ∀ x ∈ S_M_put, e_Site b_M_put "DumpDeskModel" 1 x.1 x.2 := List.forall_mem_cons.mpr ⟨e_siteV (y := y_M_link) (i := 60) (ci := 6) m_M_link (by decide) (by decide) (fun _ => rfl) rfl (fun a _ => ⟨_, _, _, rfl, by decide, rfl⟩) rfl (e_in3 224 rfl rfl) (e_in3 226 rfl rfl) (e_in1 8 rfl rfl) (e_in3 227 rfl rfl) (e_inP 10 rfl rfl) ⟨by decide, by decide, rfl⟩ (by decide +kernel), fun x hx => (by cases hx)⟩
theorem v_M_put (u : St) (l : Nat) (A B : List Nat) (a : Nat) (hp : l < 6 ∧ LR u l (A ++ B) ∧ (A ++ B).length < 56 ∧ a < 253) (J : e_Jt) (hC : e_P0 F_M S_M_put k_M_put none (Hp (mpu u l A B a)) J) : J 0 0 [(0, .ref 15), (1, .int (nI l)), (2, .int (nI A.length)), (3, .int (nI a))] [] (Hp u) := by
  obtain ⟨h1, h2, h3, h4⟩ := hp
  have hLR := mpu_LR u l A B a h2 h3 h4
  obtain ⟨g1, g2, g3⟩ := h2
  rw [List.length_append] at h3 g1
  have loop : ∀ n f, n ≤ B.length → f = (fun j => if 56 * l + A.length + n < j ∧ j ≤ 56 * l + A.length + B.length then u.2.1 21 (j - 1) else u.2.1 21 j) → J 0 8 [(0, .ref 15), (1, .int (nI l)), (2, .int (nI A.length)), (3, .int (nI a)), (4, .int (nI (A.length + n)))] [] (Hp (uA u 21 f)) := by
    intro n
    induction n with
    | zero =>
      intro f k1 k2
      refine e_run hC ?_
      conv => whnf
      refine ⟨fun _ => ?_, fun h5 => absurd (nI_le (by omega) (by omega)) h5⟩
      refine e_run hC ?_
      conv => whnf
      rw [m56]
      refine ⟨vp_in_nI (by omega) (by decide), ?_⟩
      have e1 : upd f (56 * l + A.length) (nI a) = pli (u.2.1 21) (56 * l + A.length) B.length (nI a) := by
        funext j
        unfold pli
        by_cases hj : j = 56 * l + A.length
        · rw [hj, pk_us, if_pos rfl]
        · rw [pk_un hj, if_neg hj, k2, Nat.add_zero]
      rw [nI_clamp (by omega), h_a21, uA_uA, show (uA u 21 f).2.1 21 = f from rfl, e1]
      refine e_run hC ?_
      conv => whnf
      refine ⟨vp_in_nI (by omega) (by decide), ?_⟩
      simp only [pA, pS, pAs, pSa, Nat.reduceEqDiff, reduceIte]
      rw [nI_clamp (by omega), g1]
      refine e_run hC ?_
      conv => whnf
      refine ⟨vp_in_nI (by omega) (by decide), ?_⟩
      rw [nI_clamp (by omega), h_a22, nI_1]
      simp only [pA, pS, pAs, pSa, Nat.reduceEqDiff, reduceIte]
      refine e_run hC ?_
      conv => whnf
      refine ⟨(uA (uA u 21 (pli (u.2.1 21) (56 * l + A.length) B.length (nI a))) 22 (upd (u.2.1 22) l (nI (A.length + B.length + 1))), l, A ++ a :: B), ⟨h1, hLR⟩, rfl, rfl, ?_⟩
      conv => whnf
      dsimp only [C_M_link]
      refine e_run hC ?_
      conv => whnf
      exact ⟨rfl, rfl⟩
    | succ n ih =>
      intro f k1 k2
      refine e_run hC ?_
      conv => whnf
      refine ⟨fun h5 => absurd h5 (nI_ge (by omega) (by omega)), fun _ => ?_⟩
      have e0 : (56 : Int32) * nI l + nI (A.length + (n + 1)) - 1 = nI (56 * l + A.length + n) := by
        rw [m56, show (1 : Int32) = nI 1 from rfl, pk_sub (by omega)]
        exact congrArg _ (by omega)
      refine e_run hC ?_
      conv => whnf
      rw [e0]
      refine ⟨vp_in_nI (by omega) (by decide), ?_⟩
      rw [nI_clamp (by omega), m56]
      refine e_run hC ?_
      conv => whnf
      refine ⟨vp_in_nI (by omega) (by decide), ?_⟩
      rw [nI_clamp (by omega), h_a21, uA_uA]
      refine e_run hC ?_
      conv => whnf
      rw [← Nat.add_assoc, pk_m1]
      refine ih _ (by omega) ?_
      funext j
      show upd f (56 * l + (A.length + (n + 1))) (f (56 * l + A.length + n)) j = _
      rw [k2]
      by_cases hj : j = 56 * l + (A.length + (n + 1))
      · rw [hj, pk_us]
        show (if 56 * l + A.length + (n + 1) < 56 * l + A.length + n ∧ _ then _ else _) = (if 56 * l + A.length + n < 56 * l + (A.length + (n + 1)) ∧ _ then _ else _)
        rw [if_neg (by omega), if_pos (by omega)]
        exact congrArg _ (by omega)
      · rw [pk_un hj]
        by_cases hj2 : 56 * l + A.length + (n + 1) < j ∧ j ≤ 56 * l + A.length + B.length
        · rw [if_pos hj2, if_pos (by omega)]
        · rw [if_neg hj2, if_neg (by omega)]
  refine e_run hC ?_
  conv => whnf
  refine ⟨vp_in_nI (by omega) (by decide), ?_⟩
  rw [nI_clamp (by omega), g1]
  refine e_runTo 8 hC ?_
  conv => whnf
  have := loop B.length (u.2.1 21) (Nat.le_refl _) (by
    funext j
    rw [if_neg (by omega)])
  rw [uA_self] at this
  exact this
theorem m_M_put (l : Launch) (hl : l.stackTraces = false) : e_Met l y_M_put b_M_put 5 none 1 C_M_put :=
  e_met hl F_M C_M S_M_put k_M_put (by decide +kernel) f_M c_M s_M_put o_M_put (fun a _ => ⟨Nat.le_of_ble_eq_true rfl, rfl⟩) (fun a hp => ⟨_, rfl, Or.inl ⟨rfl, rfl⟩, v_M_put a.1 a.2.1 a.2.2.1 a.2.2.2.1 a.2.2.2.2 hp⟩)
/-- an entry is taken out of a row, those behind move down -/
def dli (f : Nat → Int32) (i n : Nat) : Nat → Int32 := fun j => if i ≤ j ∧ j < i + n then f (j + 1) else f j
def mdr0 (u : St) (l : Nat) (A B : List Nat) : St := uA (uA u 22 (upd (u.2.1 22) l (nI (A.length + B.length)))) 21 (dli (u.2.1 21) (56 * l + A.length) B.length)
def mdr (u : St) (l : Nat) (A B : List Nat) (a : Nat) : St := uA (mwr (mdr0 u l A B) a 0 0 0) 20 (chn (A ++ B) l (wrt (u.2.1 20) a 0 0 0))
theorem mdr_LR (u : St) (l : Nat) (A B : List Nat) (a : Nat) (h : LR u l (A ++ a :: B)) : LR (mdr u l A B a) l (A ++ B) := by
  obtain ⟨h1, h2, h3⟩ := h
  have e1 : (A ++ a :: B).length = A.length + B.length + 1 := by rw [List.length_append, List.length_cons]; omega
  obtain ⟨h4, h5⟩ := (ent_app _ _ _ _).mp h3
  rw [e1] at h2
  refine ⟨?_, by rw [List.length_append]; omega, ?_⟩
  · show upd (u.2.1 22) l (nI (A.length + B.length)) l = _
    rw [pk_us, List.length_append]
  · show ent (dli (u.2.1 21) (56 * l + A.length) B.length) (56 * l) (A ++ B)
    rw [ent_app]
    refine ⟨ent_sh A _ _ h4 (fun j hj => ?_), ent_sh B _ _ h5.2.2 (fun j hj => ?_)⟩
    · unfold dli
      rw [if_neg (by omega)]
    · unfold dli
      rw [if_pos (by omega)]
      exact congrArg _ (by omega)
def C_M_drop : e_C := ⟨St × Nat × List Nat × List Nat × Nat, 3, fun _ => 0, fun a => a.2.1 < 6 ∧ LR a.1 a.2.1 (a.2.2.1 ++ a.2.2.2.2 :: a.2.2.2.1), fun a => [.ref 15, .int (nI a.2.1), .int (nI a.2.2.1.length)], fun a => Hp a.1, fun _ => .inl none, fun a => Hp (mdr a.1 a.2.1 a.2.2.1 a.2.2.2.1 a.2.2.2.2)⟩
def S_M_drop : List (Nat × e_C) := [(73, C_M_write), (78, C_M_link)]
theorem s_M_drop : ∀ x ∈ S_M_drop, e_Site b_M_drop "DumpDeskModel" 1 x.1 x.2 := List.forall_mem_cons.mpr ⟨e_siteV (y := y_M_write) (i := 64) (ci := 6) m_M_write (by decide) (by decide) (fun _ => rfl) rfl (fun a _ => ⟨_, _, _, rfl, by decide, rfl⟩) rfl (e_in3 216 rfl rfl) (e_in3 218 rfl rfl) (e_in1 8 rfl rfl) (e_in3 219 rfl rfl) (e_inP 8 rfl rfl) ⟨by decide, by decide, rfl⟩ (by decide +kernel), List.forall_mem_cons.mpr ⟨e_siteV (y := y_M_link) (i := 60) (ci := 6) m_M_link (by decide) (by decide) (fun _ => rfl) rfl (fun a _ => ⟨_, _, _, rfl, by decide, rfl⟩) rfl (e_in3 224 rfl rfl) (e_in3 226 rfl rfl) (e_in1 8 rfl rfl) (e_in3 227 rfl rfl) (e_inP 10 rfl rfl) ⟨by decide, by decide, rfl⟩ (by decide +kernel), fun x hx => (by cases hx)⟩⟩
theorem v_M_drop (u : St) (l : Nat) (A B : List Nat) (a : Nat) (hp : l < 6 ∧ LR u l (A ++ a :: B)) (J : e_Jt) (hC : e_P0 F_M S_M_drop k_M_drop none (Hp (mdr u l A B a)) J) : J 0 0 [(0, .ref 15), (1, .int (nI l)), (2, .int (nI A.length))] [] (Hp u) := by
  obtain ⟨h1, h2⟩ := hp
  have hLR := mdr_LR u l A B a h2
  obtain ⟨g1, g2, g3⟩ := h2
  have e1 : (A ++ a :: B).length = A.length + B.length + 1 := by rw [List.length_append, List.length_cons]; omega
  rw [e1] at g1 g2
  have g4 := ((ent_app _ _ _ _).mp g3).2
  have g5 := g4.2.1
  have loop : ∀ n k f, k + n = B.length → f = dli (u.2.1 21) (56 * l + A.length) k → J 0 25 [(0, .ref 15), (1, .int (nI l)), (2, .int (nI A.length)), (3, .int (nI a)), (4, .int (nI (A.length + k)))] [] (Hp (uA (uA u 22 (upd (u.2.1 22) l (nI (A.length + B.length)))) 21 f)) := by
    intro n
    induction n with
    | zero =>
      intro k f k1 k2
      refine e_run hC ?_
      conv => whnf
      refine ⟨vp_in_nI (by omega) (by decide), ?_⟩
      simp only [pA, pS, pAs, pSa, Nat.reduceEqDiff, reduceIte]
      rw [nI_clamp (by omega), pk_us]
      refine e_run hC ?_
      conv => whnf
      refine ⟨fun _ => ?_, fun h5 => absurd (nI_le (by omega) (by omega)) h5⟩
      rw [k2, show k = B.length by omega]
      refine e_run hC ?_
      conv => whnf
      refine ⟨(mdr0 u l A B, a, 0, 0, 0), g5, rfl, rfl, ?_⟩
      conv => whnf
      dsimp only [C_M_write]
      refine e_run hC ?_
      conv => whnf
      refine ⟨(mwr (mdr0 u l A B) a 0 0 0, l, A ++ B), ⟨h1, hLR⟩, rfl, rfl, ?_⟩
      conv => whnf
      dsimp only [C_M_link]
      refine e_run hC ?_
      conv => whnf
      exact ⟨rfl, rfl⟩
    | succ n ih =>
      intro k f k1 k2
      refine e_run hC ?_
      conv => whnf
      refine ⟨vp_in_nI (by omega) (by decide), ?_⟩
      simp only [pA, pS, pAs, pSa, Nat.reduceEqDiff, reduceIte]
      rw [nI_clamp (by omega), pk_us]
      refine e_run hC ?_
      conv => whnf
      refine ⟨fun h5 => absurd h5 (nI_ge (by omega) (by omega)), fun _ => ?_⟩
      refine e_run hC ?_
      conv => whnf
      rw [m56, nI_1]
      refine ⟨vp_in_nI (by omega) (by decide), ?_⟩
      rw [nI_clamp (by omega)]
      refine e_run hC ?_
      conv => whnf
      refine ⟨vp_in_nI (by omega) (by decide), ?_⟩
      rw [nI_clamp (by omega), h_a21, uA_uA]
      refine e_run hC ?_
      conv => whnf
      rw [nI_1, Nat.add_assoc]
      refine ih (k + 1) _ (by omega) ?_
      funext j
      show upd f (56 * l + (A.length + k)) (f (56 * l + (A.length + k) + 1)) j = _
      rw [k2]
      unfold dli
      by_cases hj : j = 56 * l + (A.length + k)
      · rw [hj, pk_us, if_neg (by omega), if_pos (by omega)]
      · rw [pk_un hj]
        by_cases hj2 : 56 * l + A.length ≤ j ∧ j < 56 * l + A.length + k
        · rw [if_pos hj2, if_pos (by omega)]
        · rw [if_neg hj2, if_neg (by omega)]
  refine e_run hC ?_
  conv => whnf
  rw [m56]
  refine ⟨vp_in_nI (by omega) (by decide), ?_⟩
  rw [nI_clamp (by omega), g4.1]
  refine e_run hC ?_
  conv => whnf
  refine ⟨vp_in_nI (by omega) (by decide), ?_⟩
  rw [nI_clamp (by omega), g1]
  refine e_run hC ?_
  conv => whnf
  refine ⟨vp_in_nI (by omega) (by decide), ?_⟩
  rw [nI_clamp (by omega), h_a22, nI_pred]
  refine e_runTo 25 hC ?_
  conv => whnf
  have := loop B.length 0 (u.2.1 21) (by omega) (by
    funext j
    unfold dli
    rw [if_neg (by omega)])
  exact this
theorem m_M_drop (l : Launch) (hl : l.stackTraces = false) : e_Met l y_M_drop b_M_drop 5 none 1 C_M_drop :=
  e_met hl F_M C_M S_M_drop k_M_drop (by decide +kernel) f_M c_M s_M_drop o_M_drop (fun a _ => ⟨Nat.le_of_ble_eq_true rfl, rfl⟩) (fun a hp => ⟨_, rfl, Or.inl ⟨rfl, rfl⟩, v_M_drop a.1 a.2.1 a.2.2.1 a.2.2.2.1 a.2.2.2.2 hp⟩)
