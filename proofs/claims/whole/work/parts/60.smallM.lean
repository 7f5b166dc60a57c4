/-! small worlds: a kernel with its memory; sectors; a reference: what constructors call -/
abbrev g_P0 (nW : Nat) (F : List (Nat × e_F)) (S : List (Nat × e_C)) (code : List e_I) (v : Option Value) (h : e_H) (J : e_Jt) : Prop := g_Cl nW 0 (e_f0 F) (e_fd S) (fun _ => none) none code (fun _ _ r h' => r = .inl v ∧ h' = h) J
def HK (w : Nat → Int32) : e_H := fun i => match i with
  | 0 => .inr (1, [.ref 1, .int 0, .int 0, .int 0])
  | 1 => .inl (0, 256, .inl w)
  | _ => .inl (0, 0, .inl (fun _ => 0))
theorem hk_1 (w f : Nat → Int32) : e_set (HK w) 1 (.inl (0, 256, .inl f)) = HK f := funext fun i => match i with
  | 0 => rfl
  | 1 => rfl
  | _ + 2 => rfl
theorem hk_0 (w : Nat → Int32) : e_set (HK w) 0 (.inr (1, [.ref 1, .int 0, .int 0, .int 0])) = HK w := funext fun i => match i with
  | 0 => rfl
  | 1 => rfl
  | _ + 2 => rfl
def Sg_kflagShift : List (Nat × e_C) := []
theorem sg_kflagShift : ∀ x ∈ Sg_kflagShift, g_Site 2 b_K_flagShift "DumpDesk$Kernel" 0 x.1 x.2 := fun x hx => (by cases hx)
theorem vg_K_flagShift (h : e_H) (p : Nat) (hp : p < 16) (J : e_Jt) (hC : g_P0 2 F_K Sg_kflagShift k_K_flagShift (some (.int (nI (p % 2 * 8)))) h J) : J 0 0 [(0, .int (nI p))] [] h := by
  refine g_run hC ?_
  conv => whnf
  refine ⟨by decide, ?_⟩
  refine g_run hC ?_
  conv => whnf
  refine ⟨?_, rfl⟩
  rw [i2, pk_rem (by omega) (by decide) (by decide), i8, pk_mul]
theorem mg_K_flagShift (l : Launch) (hl : l.stackTraces = false) : g_Met 2 l y_K_flagShift b_K_flagShift 1 (some .int) 0 C_K_flagShift :=
  g_met hl F_K C_K Sg_kflagShift k_K_flagShift (by decide +kernel) f_K c_K sg_kflagShift o_K_flagShift (fun a _ => ⟨Nat.le_of_ble_eq_true rfl, rfl⟩) (fun a hp => ⟨_, rfl, Or.inr ⟨.int, _, rfl, rfl, rfl⟩, vg_K_flagShift a.1 a.2 hp⟩)
def C_ksetFlag : e_C := ⟨(Nat → Int32) × Nat × Int32, 3, fun _ => 0, fun a => a.2.1 < 16, fun a => [.ref 0, .int (nI a.2.1), .int a.2.2], fun a => HK a.1, fun _ => .inl none, fun a => HK (stF a.1 a.2.1 a.2.2)⟩
def Sg_ksetFlag : List (Nat × e_C) := [(15, C_K_flagShift), (36, C_K_flagShift)]
theorem sg_ksetFlag : ∀ x ∈ Sg_ksetFlag, g_Site 2 b_K_setFlag "DumpDesk$Kernel" 1 x.1 x.2 := List.forall_mem_cons.mpr ⟨g_siteS (nW := 2) (y := y_K_flagShift) (i := 30) mg_K_flagShift (by decide) (by decide) (fun _ => rfl) (e_in1 37 rfl rfl) (e_in1 38 rfl rfl) (e_in1 2 rfl rfl) (e_in1 39 rfl rfl) ⟨by decide, by decide, rfl⟩ (by decide +kernel), List.forall_mem_cons.mpr ⟨g_siteS (nW := 2) (y := y_K_flagShift) (i := 30) mg_K_flagShift (by decide) (by decide) (fun _ => rfl) (e_in1 37 rfl rfl) (e_in1 38 rfl rfl) (e_in1 2 rfl rfl) (e_in1 39 rfl rfl) ⟨by decide, by decide, rfl⟩ (by decide +kernel), fun x hx => (by cases hx)⟩⟩
theorem vg_K_setFlag (w : Nat → Int32) (p : Nat) (f : Int32) (hp : p < 16) (J : e_Jt) (hC : g_P0 2 F_K Sg_ksetFlag k_K_setFlag none (HK (stF w p f)) J) : J 0 0 [(0, .ref 0), (1, .int (nI p)), (2, .int f)] [] (HK w) := by
  refine g_run hC ?_
  conv => whnf
  refine ⟨by decide, ?_⟩
  refine g_run hC ?_
  conv => whnf
  rw [ix8 hp]
  refine ⟨vp_in_nI (by omega) (by decide), ?_⟩
  rw [nI_clamp (by omega)]
  refine g_run hC ?_
  conv => whnf
  refine ⟨(HK w, p), hp, rfl, rfl, ?_⟩
  conv => whnf
  dsimp only [C_K_flagShift]
  refine g_run hC ?_
  conv => whnf
  refine ⟨by decide, ?_⟩
  refine g_run hC ?_
  conv => whnf
  refine ⟨(HK w, p), hp, rfl, rfl, ?_⟩
  conv => whnf
  dsimp only [C_K_flagShift]
  refine g_run hC ?_
  conv => whnf
  rw [ix8 hp]
  refine ⟨vp_in_nI (by omega) (by decide), ?_⟩
  rw [nI_clamp (by omega), hk_1]
  refine g_run hC ?_
  conv => whnf
  exact ⟨rfl, rfl⟩
theorem mg_ksetFlag (l : Launch) (hl : l.stackTraces = false) : g_Met 2 l y_K_setFlag b_K_setFlag 4 none 1 C_ksetFlag :=
  g_met hl F_K C_K Sg_ksetFlag k_K_setFlag (by decide +kernel) f_K c_K sg_ksetFlag o_K_setFlag (fun a _ => ⟨Nat.le_of_ble_eq_true rfl, rfl⟩) (fun a hp => ⟨_, rfl, Or.inl ⟨rfl, rfl⟩, vg_K_setFlag a.1 a.2.1 a.2.2 hp⟩)
def HS (w : Nat → Int32) : e_H := fun i => match i with
  | 0 => .inr (2, [.ref 1, .ref 2])
  | 1 => .inl (0, 768, .inl w)
  | 2 => .inl (1, 96, .inl (fun _ => 0))
  | _ => .inl (0, 0, .inl (fun _ => 0))
theorem hs_1 (w f : Nat → Int32) : e_set (HS w) 1 (.inl (0, 768, .inl f)) = HS f := funext fun i => match i with
  | 0 => rfl
  | 1 => rfl
  | 2 => rfl
  | _ + 3 => rfl
def C_sfill2 : e_C := ⟨(Nat → Int32) × Int32, 2, fun _ => 0, fun _ => True, fun a => [.ref 1, .int a.2], fun a => HS a.1, fun _ => .inl none, fun a => HS (ffl a.1 0 768 a.2)⟩
def Sg_sfill2 : List (Nat × e_C) := []
theorem sg_sfill2 : ∀ x ∈ Sg_sfill2, g_Site 3 b_A_fill2 "java/util/Arrays" 0 x.1 x.2 := fun x hx => (by cases hx)
theorem vg_A_fill2 (w : Nat → Int32) (v : Int32) (J : e_Jt) (G : Nat → Int32) (hG : ffl w 0 768 v = G) (hC : g_P0 3 F_A Sg_sfill2 k_A_fill2 none (HS G) J) : J 0 0 [(0, .ref 1), (1, .int v)] [] (HS w) := by
  have loop : ∀ n z f, z + n = 768 → ffl f z 768 v = G → J 0 5 [(0, .ref 1), (1, .int v), (2, .int (nI z)), (3, .int (nI 768))] [] (HS f) := by
    intro n
    induction n with
    | zero =>
      intro z f h3 h4
      have : z = 768 := by omega
      subst this
      refine g_run hC ?_
      conv => whnf
      refine ⟨fun _ => ?_, fun h5 => absurd (Int32.le_refl _) h5⟩
      refine g_run hC ?_
      conv => whnf
      rw [ffl_end] at h4
      rw [h4]
      exact ⟨rfl, rfl⟩
    | succ n ih =>
      intro z f h3 h4
      refine g_run hC ?_
      conv => whnf
      refine ⟨fun h5 => absurd h5 (nI_ge (by omega) (by omega)), fun _ => ?_⟩
      refine g_run hC ?_
      conv => whnf
      refine ⟨vp_in_nI (by omega) (by decide), ?_⟩
      rw [nI_clamp (by omega), hs_1]
      refine g_run hC ?_
      conv => whnf
      rw [nI_1]
      refine ih (z + 1) _ (by omega) ?_
      rw [← h4]
      show ffl (upd f z v) (z + 1) 768 v = _
      rw [ffl_step _ _ _ _ (by omega)]
  refine g_runTo 5 hC ?_
  conv => whnf
  exact loop 768 0 w rfl hG
theorem mg_sfill2 (l : Launch) (hl : l.stackTraces = false) : g_Met 3 l y_A_fill2 b_A_fill2 4 none 0 C_sfill2 :=
  g_met hl F_A C_A Sg_sfill2 k_A_fill2 (by decide +kernel) f_A c_A sg_sfill2 o_A_fill2 (fun a _ => ⟨Nat.le_of_ble_eq_true rfl, rfl⟩) (fun a hp => ⟨_, rfl, Or.inl ⟨rfl, rfl⟩, fun J hC => vg_A_fill2 a.1 a.2 J _ rfl hC⟩)
def C_seraseAll : e_C := ⟨Nat → Int32, 1, fun _ => 0, fun _ => True, fun _ => [.ref 0], fun a => HS a, fun _ => .inl none, fun a => HS (ffl a 0 768 (-1))⟩
def Sg_seraseAll : List (Nat × e_C) := [(5, C_sfill2)]
theorem sg_seraseAll : ∀ x ∈ Sg_seraseAll, g_Site 3 b_S_eraseAll "DumpDesk$Sectors" 1 x.1 x.2 := List.forall_mem_cons.mpr ⟨g_siteS (nW := 3) (y := y_A_fill2) (i := 22) mg_sfill2 (by decide) (by decide) (fun _ => rfl) (e_in1 68 rfl rfl) (e_in1 69 rfl rfl) (e_in1 4 rfl rfl) (e_in1 70 rfl rfl) ⟨by decide, by decide, rfl⟩ (by decide +kernel), fun x hx => (by cases hx)⟩
theorem vg_S_eraseAll (w : Nat → Int32) (J : e_Jt) (hC : g_P0 3 F_S Sg_seraseAll k_S_eraseAll none (HS (ffl w 0 768 (-1))) J) : J 0 0 [(0, .ref 0)] [] (HS w) := by
  refine g_run hC ?_
  conv => whnf
  refine ⟨(w, -1), trivial, rfl, rfl, ?_⟩
  conv => whnf
  dsimp only [C_sfill2]
  refine g_run hC ?_
  conv => whnf
  exact ⟨rfl, rfl⟩
theorem mg_seraseAll (l : Launch) (hl : l.stackTraces = false) : g_Met 3 l y_S_eraseAll b_S_eraseAll 1 none 1 C_seraseAll :=
  g_met hl F_S C_S Sg_seraseAll k_S_eraseAll (by decide +kernel) f_S c_S sg_seraseAll o_S_eraseAll (fun a _ => ⟨Nat.le_of_ble_eq_true rfl, rfl⟩) (fun a hp => ⟨_, rfl, Or.inl ⟨rfl, rfl⟩, vg_S_eraseAll a⟩)
def z0 : Nat → Int32 := fun _ => 0
def HM (m ar : Nat → Int32) : e_H := fun i => match i with
  | 0 => .inr (6, [.int 0, .ref 1, .ref 2, .ref 3, .ref 4, .int 0, .int 0, .int 0, .ref 5, .ref 6, .int 0, .ref 7, .int 0, .int 0, .ref 8, .ref 9, .ref 10, .int 0, .int 0, .ref 11, .int 0, .int 0])
  | 1 => .inl (0, 256, .inl m)
  | 2 => .inl (0, 336, .inl z0)
  | 3 => .inl (0, 6, .inl z0)
  | 4 => .inl (1, 256, .inl z0)
  | 5 => .inl (0, 768, .inl ar)
  | 6 => .inl (1, 96, .inl z0)
  | 7 => .inl (0, 64, .inl z0)
  | 8 => .inl (0, 256, .inl z0)
  | 9 => .inl (1, 16, .inl z0)
  | 10 => .inl (0, 16, .inl z0)
  | 11 => .inl (0, 64, .inl z0)
  | _ => .inl (0, 0, .inl z0)
theorem hm_1 (m ar f : Nat → Int32) : e_set (HM m ar) 1 (.inl (0, 256, .inl f)) = HM f ar := funext fun i => match i with
  | 0 => rfl | 1 => rfl | 2 => rfl | 3 => rfl | 4 => rfl | 5 => rfl | 6 => rfl | 7 => rfl | 8 => rfl | 9 => rfl | 10 => rfl | 11 => rfl
  | _ + 12 => rfl
theorem hm_5 (m ar f : Nat → Int32) : e_set (HM m ar) 5 (.inl (0, 768, .inl f)) = HM m f := funext fun i => match i with
  | 0 => rfl | 1 => rfl | 2 => rfl | 3 => rfl | 4 => rfl | 5 => rfl | 6 => rfl | 7 => rfl | 8 => rfl | 9 => rfl | 10 => rfl | 11 => rfl
  | _ + 12 => rfl
def C_mflagOf : e_C := ⟨((Nat → Int32) × (Nat → Int32)) × Nat, 2, fun _ => 0, fun a => a.2 < 16, fun a => [.ref 0, .int (nI a.2)], fun a => HM a.1.1 a.1.2, fun a => .inl (some (.int (fl a.1.1 a.2))), fun a => HM a.1.1 a.1.2⟩
def Sg_mflagOf : List (Nat × e_C) := []
theorem sg_mflagOf : ∀ x ∈ Sg_mflagOf, g_Site 12 b_M_flagOf "DumpDeskModel" 0 x.1 x.2 := fun x hx => (by cases hx)
theorem vg_M_flagOf (m ar : Nat → Int32) (p : Nat) (hp : p < 16) (J : e_Jt) (hC : g_P0 12 F_M Sg_mflagOf k_M_flagOf (some (.int (fl m p))) (HM m ar) J) : J 0 0 [(0, .ref 0), (1, .int (nI p))] [] (HM m ar) := by
  refine g_run hC ?_
  conv => whnf
  refine ⟨by decide, ?_⟩
  refine g_run hC ?_
  conv => whnf
  rw [ix8 hp]
  refine ⟨vp_in_nI (by omega) (by decide), ?_⟩
  rw [nI_clamp (by omega)]
  refine g_run hC ?_
  conv => whnf
  refine ⟨by decide, ?_⟩
  rw [r2 (by omega)]
  refine g_run hC ?_
  conv => whnf
  refine ⟨fun h1 => ?_, fun h1 => ?_⟩
  · have h1 : p % 2 = 1 := by
      have : p % 2 ≠ 0 := fun z => h1 (by rw [z]; rfl)
      omega
    refine g_run hC ?_
    conv => whnf
    refine ⟨?_, rfl⟩
    unfold fl
    rw [h1]
    rfl
  · have h1 : p % 2 = 0 := (nI_eq (b := 0) (by omega) (by decide)).mp h1
    refine g_run hC ?_
    conv => whnf
    refine g_run hC ?_
    conv => whnf
    refine ⟨?_, rfl⟩
    unfold fl
    rw [h1]
    rfl
theorem mg_mflagOf (l : Launch) (hl : l.stackTraces = false) : g_Met 12 l y_M_flagOf b_M_flagOf 2 (some .int) 0 C_mflagOf :=
  g_met hl F_M C_M Sg_mflagOf k_M_flagOf (by decide +kernel) f_M c_M sg_mflagOf o_M_flagOf (fun a _ => ⟨Nat.le_of_ble_eq_true rfl, rfl⟩) (fun a hp => ⟨_, rfl, Or.inr ⟨.int, _, rfl, rfl, rfl⟩, vg_M_flagOf a.1.1 a.1.2 a.2 hp⟩)
def C_mflag : e_C := ⟨((Nat → Int32) × (Nat → Int32)) × Nat × Int32, 3, fun _ => 0, fun a => a.2.1 < 16, fun a => [.ref 0, .int (nI a.2.1), .int a.2.2], fun a => HM a.1.1 a.1.2, fun _ => .inl none, fun a => HM (mfl a.1.1 a.2.1 a.2.2) a.1.2⟩
def Sg_mflag : List (Nat × e_C) := [(23, C_mflagOf)]
theorem sg_mflag : ∀ x ∈ Sg_mflag, g_Site 12 b_M_flag "DumpDeskModel" 1 x.1 x.2 := List.forall_mem_cons.mpr ⟨g_siteV (nW := 12) (y := y_M_flagOf) (i := 52) (ci := 6) mg_mflagOf (by decide) (by decide) (fun _ => rfl) rfl (fun a _ => ⟨_, _, _, rfl, by decide, rfl⟩) rfl (e_in3 125 rfl rfl) (e_in3 127 rfl rfl) (e_in1 8 rfl rfl) (e_in3 128 rfl rfl) (e_inP 4 rfl rfl) ⟨by decide, by decide, rfl⟩ (by decide +kernel), fun x hx => (by cases hx)⟩
theorem vg_M_flag (m ar : Nat → Int32) (p : Nat) (f : Int32) (hp : p < 16) (J : e_Jt) (hC : g_P0 12 F_M Sg_mflag k_M_flag none (HM (mfl m p f) ar) J) : J 0 0 [(0, .ref 0), (1, .int (nI p)), (2, .int f)] [] (HM m ar) := by
  have go : ∀ q, q < 16 → (p % 2 = 0 → q = p + 1) → (¬ p % 2 = 0 → q = p - 1) → J 0 23 [(0, .ref 0), (1, .int (nI p)), (2, .int f), (3, .int (nI (8 + p / 2)))] [.int (nI q), .ref 0] (HM m ar) := by
    intro q hq h1 h2
    have fin : ∀ y : Int32, y = (if p % 2 = 0 then f + 256 * fl m (p + 1) else fl m (p - 1) + 256 * f) → J 0 58 [(0, .ref 0), (1, .int (nI p)), (2, .int f), (3, .int (nI (8 + p / 2))), (4, .int (fl m q))] [.int y, .int (nI (8 + p / 2)), .ref 1] (HM m ar) := by
      intro y hy
      refine g_run hC ?_
      conv => whnf
      refine ⟨vp_in_nI (by omega) (by decide), ?_⟩
      rw [nI_clamp (by omega), hm_1]
      refine g_run hC ?_
      conv => whnf
      refine ⟨rfl, ?_⟩
      rw [hy]
      rfl
    refine g_run hC ?_
    conv => whnf
    refine ⟨((m, ar), q), hq, rfl, rfl, ?_⟩
    conv => whnf
    dsimp only [C_mflagOf]
    refine g_run hC ?_
    conv => whnf
    refine ⟨by decide, ?_⟩
    rw [r2 (by omega)]
    refine g_run hC ?_
    conv => whnf
    refine ⟨fun h3 => ?_, fun h3 => ?_⟩
    · have h3 : ¬ p % 2 = 0 := fun z => h3 (by rw [z]; rfl)
      refine g_runTo 58 hC ?_
      conv => whnf
      refine fin _ ?_
      rw [if_neg h3, h2 h3]
    · have h3 : p % 2 = 0 := (nI_eq (b := 0) (by omega) (by decide)).mp h3
      refine g_run hC ?_
      conv => whnf
      refine fin _ ?_
      rw [if_pos h3, h1 h3]
  refine g_run hC ?_
  conv => whnf
  refine ⟨by decide, ?_⟩
  refine g_run hC ?_
  conv => whnf
  refine ⟨by decide, ?_⟩
  rw [ix8 hp, r2 (by omega)]
  refine g_run hC ?_
  conv => whnf
  refine ⟨fun h3 => ?_, fun h3 => ?_⟩
  · have h3 : ¬ p % 2 = 0 := fun z => h3 (by rw [z]; rfl)
    refine g_runTo 23 hC ?_
    conv => whnf
    rw [show (1 : Int32) = nI 1 from rfl, pk_sub (by omega)]
    exact go (p - 1) (by omega) (fun z => absurd z h3) (fun _ => rfl)
  · have h3 : p % 2 = 0 := (nI_eq (b := 0) (by omega) (by decide)).mp h3
    refine g_run hC ?_
    conv => whnf
    rw [nI_1]
    exact go (p + 1) (by omega) (fun _ => rfl) (fun z => absurd h3 z)
theorem mg_mflag (l : Launch) (hl : l.stackTraces = false) : g_Met 12 l y_M_flag b_M_flag 5 none 1 C_mflag :=
  g_met hl F_M C_M Sg_mflag k_M_flag (by decide +kernel) f_M c_M sg_mflag o_M_flag (fun a _ => ⟨Nat.le_of_ble_eq_true rfl, rfl⟩) (fun a hp => ⟨_, rfl, Or.inl ⟨rfl, rfl⟩, vg_M_flag a.1.1 a.1.2 a.2.1 a.2.2 hp⟩)
