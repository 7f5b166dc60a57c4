-- ===== PART A: goes FIRST, ahead of the names: the tables' words, and 'selects' of the private methods out of them =====
/-- a private method of a class that the tables say can be made, by its rows of tables_1 -/
def lw_okq (q : MethodName × Nat) : Prop := (q.1.cls ≠ "java/lang/invoke/MethodHandle" ∧ q.1.cls ≠ "java/lang/invoke/VarHandle") ∧ Cond.instantiable q.1.cls q.2 ∈ tables_1 ∧ Cond.privateMethod q.1 ∈ tables_1 ∧ Cond.instanceMethod q.1 ∈ tables_1
theorem lw_p0 : lw_okq (⟨"DumpDesk", "refuseUnlessRunning", "()V"⟩, 5) := ⟨⟨by decide +kernel, by decide +kernel⟩, List.mem_of_getElem? (i := 20) (by decide +kernel), List.mem_of_getElem? (i := 250) (by decide +kernel), List.mem_of_getElem? (i := 251) (by decide +kernel)⟩
theorem lw_p1 : lw_okq (⟨"java/lang/Throwable", "fillInStackTrace", "(I)Ljava/lang/Throwable;"⟩, 6) := ⟨⟨by decide +kernel, by decide +kernel⟩, List.mem_of_getElem? (i := 292) (by decide +kernel), List.mem_of_getElem? (i := 290) (by decide +kernel), List.mem_of_getElem? (i := 291) (by decide +kernel)⟩
theorem lw_p2 : lw_okq (⟨"DumpDesk", "takePlaceUnlessFull", "()I"⟩, 5) := ⟨⟨by decide +kernel, by decide +kernel⟩, List.mem_of_getElem? (i := 20) (by decide +kernel), List.mem_of_getElem? (i := 317) (by decide +kernel), List.mem_of_getElem? (i := 318) (by decide +kernel)⟩
theorem lw_p3 : lw_okq (⟨"DumpDeskModel", "flag", "(II)V"⟩, 22) := ⟨⟨by decide +kernel, by decide +kernel⟩, List.mem_of_getElem? (i := 596) (by decide +kernel), List.mem_of_getElem? (i := 602) (by decide +kernel), List.mem_of_getElem? (i := 603) (by decide +kernel)⟩
theorem lw_p4 : lw_okq (⟨"DumpDeskModel", "flagOf", "(I)I"⟩, 22) := ⟨⟨by decide +kernel, by decide +kernel⟩, List.mem_of_getElem? (i := 596) (by decide +kernel), List.mem_of_getElem? (i := 606) (by decide +kernel), List.mem_of_getElem? (i := 607) (by decide +kernel)⟩
theorem lw_p5 : lw_okq (⟨"DumpDeskModel", "runs", "()Z"⟩, 22) := ⟨⟨by decide +kernel, by decide +kernel⟩, List.mem_of_getElem? (i := 596) (by decide +kernel), List.mem_of_getElem? (i := 685) (by decide +kernel), List.mem_of_getElem? (i := 686) (by decide +kernel)⟩
theorem lw_p6 : lw_okq (⟨"DumpDeskModel", "place", "()I"⟩, 22) := ⟨⟨by decide +kernel, by decide +kernel⟩, List.mem_of_getElem? (i := 596) (by decide +kernel), List.mem_of_getElem? (i := 689) (by decide +kernel), List.mem_of_getElem? (i := 690) (by decide +kernel)⟩
theorem lw_p7 : lw_okq (⟨"DumpDeskModel", "lowestFree", "()I"⟩, 22) := ⟨⟨by decide +kernel, by decide +kernel⟩, List.mem_of_getElem? (i := 596) (by decide +kernel), List.mem_of_getElem? (i := 693) (by decide +kernel), List.mem_of_getElem? (i := 694) (by decide +kernel)⟩
theorem lw_p8 : lw_okq (⟨"DumpDeskModel", "write", "(IIII)V"⟩, 22) := ⟨⟨by decide +kernel, by decide +kernel⟩, List.mem_of_getElem? (i := 596) (by decide +kernel), List.mem_of_getElem? (i := 697) (by decide +kernel), List.mem_of_getElem? (i := 698) (by decide +kernel)⟩
theorem lw_p9 : lw_okq (⟨"DumpDeskModel", "put", "(III)V"⟩, 22) := ⟨⟨by decide +kernel, by decide +kernel⟩, List.mem_of_getElem? (i := 596) (by decide +kernel), List.mem_of_getElem? (i := 701) (by decide +kernel), List.mem_of_getElem? (i := 702) (by decide +kernel)⟩
theorem lw_p10 : lw_okq (⟨"DumpDeskModel", "link", "(I)V"⟩, 22) := ⟨⟨by decide +kernel, by decide +kernel⟩, List.mem_of_getElem? (i := 596) (by decide +kernel), List.mem_of_getElem? (i := 705) (by decide +kernel), List.mem_of_getElem? (i := 706) (by decide +kernel)⟩
theorem lw_p11 : lw_okq (⟨"DumpDeskModel", "drop", "(II)V"⟩, 22) := ⟨⟨by decide +kernel, by decide +kernel⟩, List.mem_of_getElem? (i := 596) (by decide +kernel), List.mem_of_getElem? (i := 716) (by decide +kernel), List.mem_of_getElem? (i := 717) (by decide +kernel)⟩
theorem lw_p12 : lw_okq (⟨"DumpDeskModel", "fail", "(I)I"⟩, 22) := ⟨⟨by decide +kernel, by decide +kernel⟩, List.mem_of_getElem? (i := 596) (by decide +kernel), List.mem_of_getElem? (i := 728) (by decide +kernel), List.mem_of_getElem? (i := 729) (by decide +kernel)⟩
theorem lw_p13 : lw_okq (⟨"DumpDeskModel", "stored", "(I)Z"⟩, 22) := ⟨⟨by decide +kernel, by decide +kernel⟩, List.mem_of_getElem? (i := 596) (by decide +kernel), List.mem_of_getElem? (i := 764) (by decide +kernel), List.mem_of_getElem? (i := 765) (by decide +kernel)⟩
theorem lw_p14 : lw_okq (⟨"DumpDeskModel", "pack", "(I)V"⟩, 22) := ⟨⟨by decide +kernel, by decide +kernel⟩, List.mem_of_getElem? (i := 596) (by decide +kernel), List.mem_of_getElem? (i := 768) (by decide +kernel), List.mem_of_getElem? (i := 769) (by decide +kernel)⟩
theorem lw_p15 : lw_okq (⟨"DumpDeskModel", "alike", "(I)I"⟩, 22) := ⟨⟨by decide +kernel, by decide +kernel⟩, List.mem_of_getElem? (i := 596) (by decide +kernel), List.mem_of_getElem? (i := 772) (by decide +kernel), List.mem_of_getElem? (i := 773) (by decide +kernel)⟩
def lw_privs_1 : List (MethodName × Nat) := [(⟨"DumpDesk", "refuseUnlessRunning", "()V"⟩, 5), (⟨"java/lang/Throwable", "fillInStackTrace", "(I)Ljava/lang/Throwable;"⟩, 6), (⟨"DumpDesk", "takePlaceUnlessFull", "()I"⟩, 5), (⟨"DumpDeskModel", "flag", "(II)V"⟩, 22), (⟨"DumpDeskModel", "flagOf", "(I)I"⟩, 22), (⟨"DumpDeskModel", "runs", "()Z"⟩, 22), (⟨"DumpDeskModel", "place", "()I"⟩, 22), (⟨"DumpDeskModel", "lowestFree", "()I"⟩, 22), (⟨"DumpDeskModel", "write", "(IIII)V"⟩, 22), (⟨"DumpDeskModel", "put", "(III)V"⟩, 22), (⟨"DumpDeskModel", "link", "(I)V"⟩, 22), (⟨"DumpDeskModel", "drop", "(II)V"⟩, 22), (⟨"DumpDeskModel", "fail", "(I)I"⟩, 22), (⟨"DumpDeskModel", "stored", "(I)Z"⟩, 22), (⟨"DumpDeskModel", "pack", "(I)V"⟩, 22), (⟨"DumpDeskModel", "alike", "(I)I"⟩, 22)]
theorem lw_r1 : ∀ q ∈ lw_privs_1, lw_okq q := List.forall_mem_cons.mpr ⟨lw_p0, List.forall_mem_cons.mpr ⟨lw_p1, List.forall_mem_cons.mpr ⟨lw_p2, List.forall_mem_cons.mpr ⟨lw_p3, List.forall_mem_cons.mpr ⟨lw_p4, List.forall_mem_cons.mpr ⟨lw_p5, List.forall_mem_cons.mpr ⟨lw_p6, List.forall_mem_cons.mpr ⟨lw_p7, List.forall_mem_cons.mpr ⟨lw_p8, List.forall_mem_cons.mpr ⟨lw_p9, List.forall_mem_cons.mpr ⟨lw_p10, List.forall_mem_cons.mpr ⟨lw_p11, List.forall_mem_cons.mpr ⟨lw_p12, List.forall_mem_cons.mpr ⟨lw_p13, List.forall_mem_cons.mpr ⟨lw_p14, List.forall_mem_cons.mpr ⟨lw_p15, fun _ h => absurd h List.not_mem_nil⟩⟩⟩⟩⟩⟩⟩⟩⟩⟩⟩⟩⟩⟩⟩⟩
theorem lw_p16 : lw_okq (⟨"DumpDeskModel", "send", "(III)I"⟩, 22) := ⟨⟨by decide +kernel, by decide +kernel⟩, List.mem_of_getElem? (i := 596) (by decide +kernel), List.mem_of_getElem? (i := 776) (by decide +kernel), List.mem_of_getElem? (i := 777) (by decide +kernel)⟩
theorem lw_p17 : lw_okq (⟨"DumpDeskModel", "goodFrom", "(I)I"⟩, 22) := ⟨⟨by decide +kernel, by decide +kernel⟩, List.mem_of_getElem? (i := 596) (by decide +kernel), List.mem_of_getElem? (i := 784) (by decide +kernel), List.mem_of_getElem? (i := 785) (by decide +kernel)⟩
theorem lw_p18 : lw_okq (⟨"DumpDeskModel", "nextGood", "(I)I"⟩, 22) := ⟨⟨by decide +kernel, by decide +kernel⟩, List.mem_of_getElem? (i := 596) (by decide +kernel), List.mem_of_getElem? (i := 788) (by decide +kernel), List.mem_of_getElem? (i := 789) (by decide +kernel)⟩
theorem lw_p19 : lw_okq (⟨"DumpDeskModel", "readChunk", "(II)Z"⟩, 22) := ⟨⟨by decide +kernel, by decide +kernel⟩, List.mem_of_getElem? (i := 596) (by decide +kernel), List.mem_of_getElem? (i := 800) (by decide +kernel), List.mem_of_getElem? (i := 801) (by decide +kernel)⟩
theorem lw_p20 : lw_okq (⟨"DumpDeskModel", "readSector", "()Z"⟩, 22) := ⟨⟨by decide +kernel, by decide +kernel⟩, List.mem_of_getElem? (i := 596) (by decide +kernel), List.mem_of_getElem? (i := 804) (by decide +kernel), List.mem_of_getElem? (i := 805) (by decide +kernel)⟩
theorem lw_p21 : lw_okq (⟨"DumpDeskModel", "unpack", "()Z"⟩, 22) := ⟨⟨by decide +kernel, by decide +kernel⟩, List.mem_of_getElem? (i := 596) (by decide +kernel), List.mem_of_getElem? (i := 808) (by decide +kernel), List.mem_of_getElem? (i := 809) (by decide +kernel)⟩
theorem lw_p22 : lw_okq (⟨"DumpDeskModel", "breaks", "(II)I"⟩, 22) := ⟨⟨by decide +kernel, by decide +kernel⟩, List.mem_of_getElem? (i := 596) (by decide +kernel), List.mem_of_getElem? (i := 821) (by decide +kernel), List.mem_of_getElem? (i := 822) (by decide +kernel)⟩
def lw_privs_2 : List (MethodName × Nat) := [(⟨"DumpDeskModel", "send", "(III)I"⟩, 22), (⟨"DumpDeskModel", "goodFrom", "(I)I"⟩, 22), (⟨"DumpDeskModel", "nextGood", "(I)I"⟩, 22), (⟨"DumpDeskModel", "readChunk", "(II)Z"⟩, 22), (⟨"DumpDeskModel", "readSector", "()Z"⟩, 22), (⟨"DumpDeskModel", "unpack", "()Z"⟩, 22), (⟨"DumpDeskModel", "breaks", "(II)I"⟩, 22)]
theorem lw_r2 : ∀ q ∈ lw_privs_2, lw_okq q := List.forall_mem_cons.mpr ⟨lw_p16, List.forall_mem_cons.mpr ⟨lw_p17, List.forall_mem_cons.mpr ⟨lw_p18, List.forall_mem_cons.mpr ⟨lw_p19, List.forall_mem_cons.mpr ⟨lw_p20, List.forall_mem_cons.mpr ⟨lw_p21, List.forall_mem_cons.mpr ⟨lw_p22, fun _ h => absurd h List.not_mem_nil⟩⟩⟩⟩⟩⟩⟩
def lw_privs : List (MethodName × Nat) := lw_privs_1 ++ (lw_privs_2)
def lw_tbl : List Cond := k2_sels lw_privs ++ tables_1
theorem lw_privs_ok : ∀ q ∈ lw_privs, lw_okq q := by
  show ∀ q ∈ lw_privs_1 ++ (lw_privs_2), lw_okq q
  exact List.forall_mem_append.mpr ⟨lw_r1, lw_r2⟩
/-! names, by program (wip/tools/names.py) -/
def e_wd : List Cond := lw_tbl.filter goodWord
theorem e_mem {w : Cond} (h : w ∈ tables_1) (hg : goodWord w = true) : w ∈ e_wd := List.mem_filter.mpr ⟨List.mem_append_right _ h, hg⟩
theorem e_in1 {w : Cond} (i : Nat) (h : tables_1_1[i]? = some w) (hg : goodWord w = true) : w ∈ e_wd := e_mem (List.mem_append_left _ (List.mem_of_getElem? h)) hg
theorem e_in2 {w : Cond} (i : Nat) (h : tables_1_2[i]? = some w) (hg : goodWord w = true) : w ∈ e_wd := e_mem (List.mem_append_right _ (List.mem_append_left _ (List.mem_of_getElem? h))) hg
theorem e_in3 {w : Cond} (i : Nat) (h : tables_1_3[i]? = some w) (hg : goodWord w = true) : w ∈ e_wd := e_mem (List.mem_append_right _ (List.mem_append_right _ (List.mem_append_left _ (List.mem_of_getElem? h)))) hg
theorem e_in4 {w : Cond} (i : Nat) (h : tables_1_4[i]? = some w) (hg : goodWord w = true) : w ∈ e_wd := e_mem (List.mem_append_right _ (List.mem_append_right _ (List.mem_append_right _ (List.mem_of_getElem? h)))) hg
theorem e_inP {w : Cond} (i : Nat) (h : (k2_sels lw_privs)[i]? = some w) (hg : goodWord w = true) : w ∈ e_wd := List.mem_filter.mpr ⟨List.mem_append_left _ (List.mem_of_getElem? h), hg⟩
def T_D : u_T := fun k => match k with
  | 0 => ("DumpDesk", "kernel", "LDumpDesk$Kernel;", true)
  | 1 => ("DumpDesk", "sectors", "LDumpDesk$Sectors;", true)
  | 2 => ("DumpDesk", "writer", "LDumpDesk$Writer;", true)
  | 3 => ("DumpDesk", "reader", "LDumpDesk$Reader;", true)
  | _ => ("DumpDesk", "walker", "LDumpDesk$Walker;", true)
def t_D : Nat → FieldType := fun k => match k with
  | 0 => .object "DumpDesk$Kernel"
  | 1 => .object "DumpDesk$Sectors"
  | 2 => .object "DumpDesk$Writer"
  | 3 => .object "DumpDesk$Reader"
  | _ => .object "DumpDesk$Walker"
def T_K : u_T := fun k => match k with
  | 0 => ("DumpDesk$Kernel", "words", "[I", true)
  | 1 => ("DumpDesk$Kernel", "halted", "Z", false)
  | 2 => ("DumpDesk$Kernel", "poked", "Z", false)
  | _ => ("DumpDesk$Kernel", "tasksEver", "I", false)
def t_K : Nat → FieldType := fun k => match k with
  | 0 => .array .int
  | 1 => .boolean
  | 2 => .boolean
  | _ => .int
def T_S : u_T := fun k => match k with
  | 0 => ("DumpDesk$Sectors", "words", "[I", true)
  | _ => ("DumpDesk$Sectors", "bad", "[Z", true)
def t_S : Nat → FieldType := fun k => match k with
  | 0 => .array .int
  | _ => .array .boolean
def T_V : u_T := fun k => match k with
  | 0 => ("DumpDesk$Writer", "sectors", "LDumpDesk$Sectors;", true)
  | 1 => ("DumpDesk$Writer", "chunk", "[I", true)
  | 2 => ("DumpDesk$Writer", "sector", "I", false)
  | 3 => ("DumpDesk$Writer", "power", "I", false)
  | _ => ("DumpDesk$Writer", "chunks", "I", false)
def t_V : Nat → FieldType := fun k => match k with
  | 0 => .object "DumpDesk$Sectors"
  | 1 => .array .int
  | 2 => .int
  | 3 => .int
  | _ => .int
def T_U : u_T := fun k => match k with
  | 0 => ("DumpDesk$Reader", "sectors", "LDumpDesk$Sectors;", true)
  | 1 => ("DumpDesk$Reader", "walker", "LDumpDesk$Walker;", true)
  | 2 => ("DumpDesk$Reader", "chunk", "[I", true)
  | _ => ("DumpDesk$Reader", "sector", "I", false)
def t_U : Nat → FieldType := fun k => match k with
  | 0 => .object "DumpDesk$Sectors"
  | 1 => .object "DumpDesk$Walker"
  | 2 => .array .int
  | _ => .int
def T_Z : u_T := fun k => match k with
  | 0 => ("DumpDesk$Walker", "words", "[I", true)
  | 1 => ("DumpDesk$Walker", "present", "[Z", true)
  | 2 => ("DumpDesk$Walker", "pages", "I", false)
  | 3 => ("DumpDesk$Walker", "walked", "Z", false)
  | 4 => ("DumpDesk$Walker", "places", "[I", true)
  | 5 => ("DumpDesk$Walker", "count", "I", false)
  | 6 => ("DumpDesk$Walker", "breakKind", "I", false)
  | _ => ("DumpDesk$Walker", "breakAddress", "I", false)
def t_Z : Nat → FieldType := fun k => match k with
  | 0 => .array .int
  | 1 => .array .boolean
  | 2 => .int
  | 3 => .boolean
  | 4 => .array .int
  | 5 => .int
  | 6 => .int
  | _ => .int
def T_M : u_T := fun k => match k with
  | 0 => ("DumpDeskModel", "thrown", "I", false)
  | 1 => ("DumpDeskModel", "memory", "[I", true)
  | 2 => ("DumpDeskModel", "list", "[I", true)
  | 3 => ("DumpDeskModel", "length", "[I", true)
  | 4 => ("DumpDeskModel", "taken", "[Z", true)
  | 5 => ("DumpDeskModel", "tasks", "I", false)
  | 6 => ("DumpDeskModel", "poked", "Z", false)
  | 7 => ("DumpDeskModel", "halted", "Z", false)
  | 8 => ("DumpDeskModel", "area", "[I", true)
  | 9 => ("DumpDeskModel", "bad", "[Z", true)
  | 10 => ("DumpDeskModel", "size", "I", false)
  | 11 => ("DumpDeskModel", "chunk", "[I", true)
  | 12 => ("DumpDeskModel", "at", "I", false)
  | 13 => ("DumpDeskModel", "attached", "Z", false)
  | 14 => ("DumpDeskModel", "seen", "[I", true)
  | 15 => ("DumpDeskModel", "there", "[Z", true)
  | 16 => ("DumpDeskModel", "unpacked", "[I", true)
  | 17 => ("DumpDeskModel", "walked", "Z", false)
  | 18 => ("DumpDeskModel", "nodes", "I", false)
  | 19 => ("DumpDeskModel", "node", "[I", true)
  | 20 => ("DumpDeskModel", "why", "I", false)
  | _ => ("DumpDeskModel", "where", "I", false)
def t_M : Nat → FieldType := fun k => match k with
  | 0 => .int
  | 1 => .array .int
  | 2 => .array .int
  | 3 => .array .int
  | 4 => .array .boolean
  | 5 => .int
  | 6 => .boolean
  | 7 => .boolean
  | 8 => .array .int
  | 9 => .array .boolean
  | 10 => .int
  | 11 => .array .int
  | 12 => .int
  | 13 => .boolean
  | 14 => .array .int
  | 15 => .array .boolean
  | 16 => .array .int
  | 17 => .boolean
  | 18 => .int
  | 19 => .array .int
  | 20 => .int
  | _ => .int
abbrev vwCl : List vw_C := [("DumpDesk", T_D, 5), ("DumpDesk$Kernel", T_K, 4), ("DumpDesk$Sectors", T_S, 2), ("DumpDesk$Writer", T_V, 5), ("DumpDesk$Reader", T_U, 4), ("DumpDesk$Walker", T_Z, 8), ("DumpDeskModel", T_M, 22)]
theorem u_D : ∀ w ∈ u_ws "DumpDesk" T_D 5, w ∈ e_wd := by
  intro w hw
  obtain ⟨k, hk, rfl⟩ := List.mem_map.mp hw
  have hk := List.mem_range.mp hk
  match k, hk with
  | 0, _ => exact (e_in1 167 rfl rfl)
  | 1, _ => exact (e_in1 169 rfl rfl)
  | 2, _ => exact (e_in1 171 rfl rfl)
  | 3, _ => exact (e_in1 173 rfl rfl)
  | 4, _ => exact (e_in1 175 rfl rfl)
theorem p_D : ∀ k, k < 5 → parseFieldDescriptor (T_D k).2.2.1 = some (t_D k) := by decide +kernel
theorem n_D : ∀ a, a < 5 → ∀ b, b < 5 → a ≠ b → (T_D a).2.1 ≠ (T_D b).2.1 := by decide +kernel
theorem u_K : ∀ w ∈ u_ws "DumpDesk$Kernel" T_K 4, w ∈ e_wd := by
  intro w hw
  obtain ⟨k, hk, rfl⟩ := List.mem_map.mp hw
  have hk := List.mem_range.mp hk
  match k, hk with
  | 0, _ => exact (e_in1 48 rfl rfl)
  | 1, _ => exact (e_in1 50 rfl rfl)
  | 2, _ => exact (e_in1 52 rfl rfl)
  | 3, _ => exact (e_in1 54 rfl rfl)
theorem p_K : ∀ k, k < 4 → parseFieldDescriptor (T_K k).2.2.1 = some (t_K k) := by decide +kernel
theorem n_K : ∀ a, a < 4 → ∀ b, b < 4 → a ≠ b → (T_K a).2.1 ≠ (T_K b).2.1 := by decide +kernel
theorem u_S : ∀ w ∈ u_ws "DumpDesk$Sectors" T_S 2, w ∈ e_wd := by
  intro w hw
  obtain ⟨k, hk, rfl⟩ := List.mem_map.mp hw
  have hk := List.mem_range.mp hk
  match k, hk with
  | 0, _ => exact (e_in1 75 rfl rfl)
  | 1, _ => exact (e_in1 77 rfl rfl)
theorem p_S : ∀ k, k < 2 → parseFieldDescriptor (T_S k).2.2.1 = some (t_S k) := by decide +kernel
theorem n_S : ∀ a, a < 2 → ∀ b, b < 2 → a ≠ b → (T_S a).2.1 ≠ (T_S b).2.1 := by decide +kernel
theorem u_V : ∀ w ∈ u_ws "DumpDesk$Writer" T_V 5, w ∈ e_wd := by
  intro w hw
  obtain ⟨k, hk, rfl⟩ := List.mem_map.mp hw
  have hk := List.mem_range.mp hk
  match k, hk with
  | 0, _ => exact (e_in1 132 rfl rfl)
  | 1, _ => exact (e_in1 134 rfl rfl)
  | 2, _ => exact (e_in1 136 rfl rfl)
  | 3, _ => exact (e_in1 138 rfl rfl)
  | 4, _ => exact (e_in1 140 rfl rfl)
theorem p_V : ∀ k, k < 5 → parseFieldDescriptor (T_V k).2.2.1 = some (t_V k) := by decide +kernel
theorem n_V : ∀ a, a < 5 → ∀ b, b < 5 → a ≠ b → (T_V a).2.1 ≠ (T_V b).2.1 := by decide +kernel
theorem u_U : ∀ w ∈ u_ws "DumpDesk$Reader" T_U 4, w ∈ e_wd := by
  intro w hw
  obtain ⟨k, hk, rfl⟩ := List.mem_map.mp hw
  have hk := List.mem_range.mp hk
  match k, hk with
  | 0, _ => exact (e_in1 153 rfl rfl)
  | 1, _ => exact (e_in1 155 rfl rfl)
  | 2, _ => exact (e_in1 157 rfl rfl)
  | 3, _ => exact (e_in1 159 rfl rfl)
theorem p_U : ∀ k, k < 4 → parseFieldDescriptor (T_U k).2.2.1 = some (t_U k) := by decide +kernel
theorem n_U : ∀ a, a < 4 → ∀ b, b < 4 → a ≠ b → (T_U a).2.1 ≠ (T_U b).2.1 := by decide +kernel
theorem u_Z : ∀ w ∈ u_ws "DumpDesk$Walker" T_Z 8, w ∈ e_wd := by
  intro w hw
  obtain ⟨k, hk, rfl⟩ := List.mem_map.mp hw
  have hk := List.mem_range.mp hk
  match k, hk with
  | 0, _ => exact (e_in1 104 rfl rfl)
  | 1, _ => exact (e_in1 106 rfl rfl)
  | 2, _ => exact (e_in1 108 rfl rfl)
  | 3, _ => exact (e_in1 110 rfl rfl)
  | 4, _ => exact (e_in1 112 rfl rfl)
  | 5, _ => exact (e_in1 114 rfl rfl)
  | 6, _ => exact (e_in1 116 rfl rfl)
  | 7, _ => exact (e_in1 118 rfl rfl)
theorem p_Z : ∀ k, k < 8 → parseFieldDescriptor (T_Z k).2.2.1 = some (t_Z k) := by decide +kernel
theorem n_Z : ∀ a, a < 8 → ∀ b, b < 8 → a ≠ b → (T_Z a).2.1 ≠ (T_Z b).2.1 := by decide +kernel
theorem u_M : ∀ w ∈ u_ws "DumpDeskModel" T_M 22, w ∈ e_wd := by
  intro w hw
  obtain ⟨k, hk, rfl⟩ := List.mem_map.mp hw
  have hk := List.mem_range.mp hk
  match k, hk with
  | 0, _ => exact (e_in3 151 rfl rfl)
  | 1, _ => exact (e_in3 153 rfl rfl)
  | 2, _ => exact (e_in3 155 rfl rfl)
  | 3, _ => exact (e_in3 157 rfl rfl)
  | 4, _ => exact (e_in3 159 rfl rfl)
  | 5, _ => exact (e_in3 161 rfl rfl)
  | 6, _ => exact (e_in3 163 rfl rfl)
  | 7, _ => exact (e_in3 165 rfl rfl)
  | 8, _ => exact (e_in3 167 rfl rfl)
  | 9, _ => exact (e_in3 169 rfl rfl)
  | 10, _ => exact (e_in3 171 rfl rfl)
  | 11, _ => exact (e_in3 173 rfl rfl)
  | 12, _ => exact (e_in3 175 rfl rfl)
  | 13, _ => exact (e_in3 177 rfl rfl)
  | 14, _ => exact (e_in3 179 rfl rfl)
  | 15, _ => exact (e_in3 181 rfl rfl)
  | 16, _ => exact (e_in3 183 rfl rfl)
  | 17, _ => exact (e_in3 185 rfl rfl)
  | 18, _ => exact (e_in3 187 rfl rfl)
  | 19, _ => exact (e_in3 189 rfl rfl)
  | 20, _ => exact (e_in3 191 rfl rfl)
  | 21, _ => exact (e_in3 193 rfl rfl)
  | z + 22, h => exact absurd h (by omega)
theorem p_M : ∀ k, k < 22 → parseFieldDescriptor (T_M k).2.2.1 = some (t_M k) := by decide +kernel
theorem n_M : ∀ a, a < 22 → ∀ b, b < 22 → a ≠ b → (T_M a).2.1 ≠ (T_M b).2.1 := by decide +kernel
