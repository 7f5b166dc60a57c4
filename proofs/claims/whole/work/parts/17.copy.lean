/-! System.arraycopy between rows of ints; the sectors; sums -/
theorem e_siteCP {C : e_C} {cc : ByteArray} {own : String} {lvl pc i n0 n1 : Nat} (hn0 : n0 < e_N) (hn1 : n1 < e_N) (hlv : 2 ≤ lvl) (hcost : ∀ a, C.2.2.1 a = 0)
    (hCs : ∀ a, C.2.2.2.1 a → ∃ (f g : Nat → Int32) (L0 L1 sp dp n : Nat), C.2.2.2.2.1 a = [.ref n0, .int (nI sp), .ref n1, .int (nI dp), .int (nI n)] ∧ C.2.2.2.2.2.1 a n0 = .inl (0, L0, .inl f) ∧ C.2.2.2.2.2.1 a n1 = .inl (0, L1, .inl g) ∧ sp + n ≤ L0 ∧ dp + n ≤ L1 ∧ L0 < 2 ^ 31 ∧ L1 < 2 ^ 31 ∧ C.2.2.2.2.2.2.1 a = .inl none ∧ C.2.2.2.2.2.2.2 a = e_set (C.2.2.2.2.2.1 a) n1 (.inl (0, L1, .inl (va_cpy f g sp dp n))))
    (w1 : Cond.methodLink own i arraycopyName ∈ e_wd) (w2 : Cond.native arraycopyName ∈ e_wd) (w3 : Cond.static arraycopyName ∈ e_wd) (w4 : Cond.initialized "java/lang/System" ∈ e_wd) (hdg : decode cc pc = .ok (.invokestatic i, 3)) : e_Site cc own lvl pc C := by
  intro p l e R s m args below meth c Q D A nL ad tc c0 s0 bm hl9 hB a b lv r hpre hlen hdp hbm hret hthr hl0 H locs ls hP hD hS hl
  obtain ⟨hx, hb, hml, hown, hts, hK, hA, hE, hf1, hf2, hf3, hf4⟩ := hB
  obtain ⟨f, g, L0, L1, sp, dp, n, q1, q2, q3, q4, q5, q6, q7, q8, q9⟩ := hCs a hpre
  have hst : ((C.2.2.2.2.1 a).reverse ++ r).map (e_cV ad) = .int (nI n) :: .int (nI dp) :: .ref (ad n1) :: .int (nI sp) :: .ref (ad n0) :: r.map (e_cV ad) := by rw [q1]; rfl
  rw [hst]
  have he0 : (e_W ad tc (C.2.2.2.2.2.1 a))[n0]? = some (ad n0, .inl (tc 0, L0, .inl f)) := by rw [e_W_at ad tc _ hn0, q2]; rfl
  have he1 : (e_W ad tc (C.2.2.2.2.2.1 a))[n1]? = some (ad n1, .inl (tc 0, L1, .inl g)) := by rw [e_W_at ad tc _ hn1, q3]; rfl
  have hd8 := e_depC (ad := ad) hdp
  refine va_copyi hx hb (hml.trans hl.1.symm) hown (hts _ w1) (hts _ w2) (hts _ w3) (hts _ w4) hK hP hD hS n0 n1 0 0 he0 he1 rfl rfl rfl (nI_pos (by omega)) (nI_pos (by omega)) (nI_pos (by omega)) (by rw [nI_clamp (by omega), nI_clamp (by omega)]; exact q4) (by rw [nI_clamp (by omega), nI_clamp (by omega)]; exact q5) (fun _ _ => rfl) (by omega) (Nat.le_trans (Nat.add_le_add_right hd8 _) (Nat.le_trans (by decide : 8 + (nativeFrameWords "java/lang/System" "arraycopy" 5 + 11) ≤ 60) (by omega))) hdg (fun H1 locs1 hP1 hD1 hS1 => ?_)
  rw [nI_clamp (by omega), nI_clamp (by omega), nI_clamp (by omega)] at hP1 hD1
  have hset : (e_W ad tc (C.2.2.2.2.2.1 a)).set n1 (ad n1, .inl (tc 0, L1, .inl (va_cpy f g sp dp n))) = e_W ad tc (C.2.2.2.2.2.2.2 a) := by
    rw [q9]
    exact e_W_set ad tc (C.2.2.2.2.2.1 a) hn1 (.inl (0, L1, .inl (va_cpy f g sp dp n)))
  rw [hset] at hP1 hD1
  have hJ := hret none q8
  rw [hcost a] at hJ
  exact hJ hl0 H1 locs1 ls hP1 hD1 hS1 hl
def C_cp_7_4 : e_C := ⟨St × Nat × Nat × Nat, 5, fun _ => 0, fun a => a.2.1 + a.2.2.2 ≤ 40 ∧ a.2.2.1 + a.2.2.2 ≤ 768, fun a => [.ref 7, .int (nI a.2.1), .ref 4, .int (nI a.2.2.1), .int (nI a.2.2.2)], fun a => Hp a.1, fun _ => .inl none, fun a => Hp (uA a.1 1 (va_cpy (a.1.2.1 3) (a.1.2.1 1) a.2.1 a.2.2.1 a.2.2.2))⟩
theorem r_cp_7_4 : ∀ a, C_cp_7_4.2.2.2.1 a → ∃ (f g : Nat → Int32) (L0 L1 sp dp n : Nat), C_cp_7_4.2.2.2.2.1 a = [.ref 7, .int (nI sp), .ref 4, .int (nI dp), .int (nI n)] ∧ C_cp_7_4.2.2.2.2.2.1 a 7 = .inl (0, L0, .inl f) ∧ C_cp_7_4.2.2.2.2.2.1 a 4 = .inl (0, L1, .inl g) ∧ sp + n ≤ L0 ∧ dp + n ≤ L1 ∧ L0 < 2 ^ 31 ∧ L1 < 2 ^ 31 ∧ C_cp_7_4.2.2.2.2.2.2.1 a = .inl none ∧ C_cp_7_4.2.2.2.2.2.2.2 a = e_set (C_cp_7_4.2.2.2.2.2.1 a) 4 (.inl (0, L1, .inl (va_cpy f g sp dp n))) :=
  fun a h => ⟨a.1.2.1 3, a.1.2.1 1, 40, 768, a.2.1, a.2.2.1, a.2.2.2, rfl, rfl, rfl, h.1, h.2, by decide, by decide, rfl, (h_a1 _ _).symm⟩
def C_cp_4_9 : e_C := ⟨St × Nat × Nat × Nat, 5, fun _ => 0, fun a => a.2.1 + a.2.2.2 ≤ 768 ∧ a.2.2.1 + a.2.2.2 ≤ 40, fun a => [.ref 4, .int (nI a.2.1), .ref 9, .int (nI a.2.2.1), .int (nI a.2.2.2)], fun a => Hp a.1, fun _ => .inl none, fun a => Hp (uA a.1 4 (va_cpy (a.1.2.1 1) (a.1.2.1 4) a.2.1 a.2.2.1 a.2.2.2))⟩
theorem r_cp_4_9 : ∀ a, C_cp_4_9.2.2.2.1 a → ∃ (f g : Nat → Int32) (L0 L1 sp dp n : Nat), C_cp_4_9.2.2.2.2.1 a = [.ref 4, .int (nI sp), .ref 9, .int (nI dp), .int (nI n)] ∧ C_cp_4_9.2.2.2.2.2.1 a 4 = .inl (0, L0, .inl f) ∧ C_cp_4_9.2.2.2.2.2.1 a 9 = .inl (0, L1, .inl g) ∧ sp + n ≤ L0 ∧ dp + n ≤ L1 ∧ L0 < 2 ^ 31 ∧ L1 < 2 ^ 31 ∧ C_cp_4_9.2.2.2.2.2.2.1 a = .inl none ∧ C_cp_4_9.2.2.2.2.2.2.2 a = e_set (C_cp_4_9.2.2.2.2.2.1 a) 9 (.inl (0, L1, .inl (va_cpy f g sp dp n))) :=
  fun a h => ⟨a.1.2.1 1, a.1.2.1 4, 768, 40, a.2.1, a.2.2.1, a.2.2.2, rfl, rfl, rfl, h.1, h.2, by decide, by decide, rfl, (h_a4 _ _).symm⟩
def C_cp_2_7 : e_C := ⟨St × Nat × Nat × Nat, 5, fun _ => 0, fun a => a.2.1 + a.2.2.2 ≤ 256 ∧ a.2.2.1 + a.2.2.2 ≤ 40, fun a => [.ref 2, .int (nI a.2.1), .ref 7, .int (nI a.2.2.1), .int (nI a.2.2.2)], fun a => Hp a.1, fun _ => .inl none, fun a => Hp (uA a.1 3 (va_cpy (a.1.2.1 0) (a.1.2.1 3) a.2.1 a.2.2.1 a.2.2.2))⟩
theorem r_cp_2_7 : ∀ a, C_cp_2_7.2.2.2.1 a → ∃ (f g : Nat → Int32) (L0 L1 sp dp n : Nat), C_cp_2_7.2.2.2.2.1 a = [.ref 2, .int (nI sp), .ref 7, .int (nI dp), .int (nI n)] ∧ C_cp_2_7.2.2.2.2.2.1 a 2 = .inl (0, L0, .inl f) ∧ C_cp_2_7.2.2.2.2.2.1 a 7 = .inl (0, L1, .inl g) ∧ sp + n ≤ L0 ∧ dp + n ≤ L1 ∧ L0 < 2 ^ 31 ∧ L1 < 2 ^ 31 ∧ C_cp_2_7.2.2.2.2.2.2.1 a = .inl none ∧ C_cp_2_7.2.2.2.2.2.2.2 a = e_set (C_cp_2_7.2.2.2.2.2.1 a) 7 (.inl (0, L1, .inl (va_cpy f g sp dp n))) :=
  fun a h => ⟨a.1.2.1 0, a.1.2.1 3, 256, 40, a.2.1, a.2.2.1, a.2.2.2, rfl, rfl, rfl, h.1, h.2, by decide, by decide, rfl, (h_a3 _ _).symm⟩
def C_cp_9_11 : e_C := ⟨St × Nat × Nat × Nat, 5, fun _ => 0, fun a => a.2.1 + a.2.2.2 ≤ 40 ∧ a.2.2.1 + a.2.2.2 ≤ 256, fun a => [.ref 9, .int (nI a.2.1), .ref 11, .int (nI a.2.2.1), .int (nI a.2.2.2)], fun a => Hp a.1, fun _ => .inl none, fun a => Hp (uA a.1 5 (va_cpy (a.1.2.1 4) (a.1.2.1 5) a.2.1 a.2.2.1 a.2.2.2))⟩
theorem r_cp_9_11 : ∀ a, C_cp_9_11.2.2.2.1 a → ∃ (f g : Nat → Int32) (L0 L1 sp dp n : Nat), C_cp_9_11.2.2.2.2.1 a = [.ref 9, .int (nI sp), .ref 11, .int (nI dp), .int (nI n)] ∧ C_cp_9_11.2.2.2.2.2.1 a 9 = .inl (0, L0, .inl f) ∧ C_cp_9_11.2.2.2.2.2.1 a 11 = .inl (0, L1, .inl g) ∧ sp + n ≤ L0 ∧ dp + n ≤ L1 ∧ L0 < 2 ^ 31 ∧ L1 < 2 ^ 31 ∧ C_cp_9_11.2.2.2.2.2.2.1 a = .inl none ∧ C_cp_9_11.2.2.2.2.2.2.2 a = e_set (C_cp_9_11.2.2.2.2.2.1 a) 11 (.inl (0, L1, .inl (va_cpy f g sp dp n))) :=
  fun a h => ⟨a.1.2.1 4, a.1.2.1 5, 40, 256, a.2.1, a.2.2.1, a.2.2.2, rfl, rfl, rfl, h.1, h.2, by decide, by decide, rfl, (h_a5 _ _).symm⟩
