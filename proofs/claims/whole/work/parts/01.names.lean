/-! names, by program out of javap and the Statement -/
def TB : List Cond := lw_tbl.filter goodWord
theorem TB_good : ∀ w ∈ TB, (w.onTables && w.keeps) = true ∨ ∃ ty, w = .arrayClass ty := fun w hw => good_of_word (List.mem_filter.mp hw).2
theorem tb_t {w : Cond} (i : Nat) (h : tables_1[i]? = some w) (g : goodWord w = true) : w ∈ TB := List.mem_filter.mpr ⟨List.mem_append_right _ (List.mem_of_getElem? h), g⟩
theorem tb_s {w : Cond} (i : Nat) (h : (k2_sels lw_privs)[i]? = some w) (g : goodWord w = true) : w ∈ TB := List.mem_filter.mpr ⟨List.mem_append_left _ (List.mem_of_getElem? h), g⟩
def R_LogCleaner : String := "LogCleaner"
def F_LogCleaner : u_T := fun k => match k with
  | 0 => ("LogCleaner", "batches", "[LLogCleaner$Batch;", true)
  | 1 => ("LogCleaner", "batchCount", "I", false)
  | 2 => ("LogCleaner", "recordCount", "I", false)
  | 3 => ("LogCleaner", "nextOffset", "I", false)
  | 4 => ("LogCleaner", "packing", "LLogCleaner$Packing;", true)
  | 5 => ("LogCleaner", "draft", "[LLogCleaner$Entry;", true)
  | _ => ("LogCleaner", "draftCount", "I", false)
def t_LogCleaner : Nat → FieldType := fun k => match k with
  | 0 => .array (.object "LogCleaner$Batch")
  | 1 => .int
  | 2 => .int
  | 3 => .int
  | 4 => .object "LogCleaner$Packing"
  | 5 => .array (.object "LogCleaner$Entry")
  | _ => .int
theorem n_LogCleaner : ∀ a, a < 7 → ∀ b, b < 7 → a ≠ b → (F_LogCleaner a).2.1 ≠ (F_LogCleaner b).2.1 := by decide +kernel
theorem t_LogCleaner_ok : ∀ k, k < 7 → parseFieldDescriptor (F_LogCleaner k).2.2.1 = some (t_LogCleaner k) := by decide +kernel
def z_LogCleaner : List Value := [.null, .int 0, .int 0, .int 0, .null, .null, .int 0]
theorem z_LogCleaner_ok : ∀ j, j < 7 → defaultValue (t_LogCleaner j) = vp_V z_LogCleaner j := fun j hj => by
  rcases (show j = 0 ∨ j = 1 ∨ j = 2 ∨ j = 3 ∨ j = 4 ∨ j = 5 ∨ j = 6 by omega) with rfl | rfl | rfl | rfl | rfl | rfl | rfl <;> rfl
theorem l_LogCleaner_0 : u_lay R_LogCleaner F_LogCleaner 0 ∈ TB := tb_t 45 (by decide +kernel) (by decide +kernel)
theorem l_LogCleaner_1 : u_lay R_LogCleaner F_LogCleaner 1 ∈ TB := tb_t 47 (by decide +kernel) (by decide +kernel)
theorem l_LogCleaner_2 : u_lay R_LogCleaner F_LogCleaner 2 ∈ TB := tb_t 49 (by decide +kernel) (by decide +kernel)
theorem l_LogCleaner_3 : u_lay R_LogCleaner F_LogCleaner 3 ∈ TB := tb_t 51 (by decide +kernel) (by decide +kernel)
theorem l_LogCleaner_4 : u_lay R_LogCleaner F_LogCleaner 4 ∈ TB := tb_t 53 (by decide +kernel) (by decide +kernel)
theorem l_LogCleaner_5 : u_lay R_LogCleaner F_LogCleaner 5 ∈ TB := tb_t 55 (by decide +kernel) (by decide +kernel)
theorem l_LogCleaner_6 : u_lay R_LogCleaner F_LogCleaner 6 ∈ TB := tb_t 57 (by decide +kernel) (by decide +kernel)
theorem i_LogCleaner : ∀ w ∈ u_ws R_LogCleaner F_LogCleaner 7, w ∈ TB := fun w hw => by
  obtain ⟨k, hk, rfl⟩ := List.mem_map.mp hw
  have hk := List.mem_range.mp hk
  rcases (show k = 0 ∨ k = 1 ∨ k = 2 ∨ k = 3 ∨ k = 4 ∨ k = 5 ∨ k = 6 by omega) with rfl | rfl | rfl | rfl | rfl | rfl | rfl
  · exact l_LogCleaner_0
  · exact l_LogCleaner_1
  · exact l_LogCleaner_2
  · exact l_LogCleaner_3
  · exact l_LogCleaner_4
  · exact l_LogCleaner_5
  · exact l_LogCleaner_6
def R_Batch : String := "LogCleaner$Batch"
def F_Batch : u_T := fun k => match k with
  | 0 => ("LogCleaner$Batch", "base", "I", true)
  | 1 => ("LogCleaner$Batch", "producer", "I", true)
  | 2 => ("LogCleaner$Batch", "entries", "[LLogCleaner$Entry;", true)
  | 3 => ("LogCleaner$Batch", "recordCount", "I", false)
  | _ => ("LogCleaner$Batch", "segment", "I", false)
def t_Batch : Nat → FieldType := fun k => match k with
  | 0 => .int
  | 1 => .int
  | 2 => .array (.object "LogCleaner$Entry")
  | 3 => .int
  | _ => .int
theorem n_Batch : ∀ a, a < 5 → ∀ b, b < 5 → a ≠ b → (F_Batch a).2.1 ≠ (F_Batch b).2.1 := by decide +kernel
theorem t_Batch_ok : ∀ k, k < 5 → parseFieldDescriptor (F_Batch k).2.2.1 = some (t_Batch k) := by decide +kernel
def z_Batch : List Value := [.int 0, .int 0, .null, .int 0, .int 0]
theorem z_Batch_ok : ∀ j, j < 5 → defaultValue (t_Batch j) = vp_V z_Batch j := fun j hj => by
  rcases (show j = 0 ∨ j = 1 ∨ j = 2 ∨ j = 3 ∨ j = 4 by omega) with rfl | rfl | rfl | rfl | rfl <;> rfl
theorem l_Batch_0 : u_lay R_Batch F_Batch 0 ∈ TB := tb_t 222 (by decide +kernel) (by decide +kernel)
theorem l_Batch_1 : u_lay R_Batch F_Batch 1 ∈ TB := tb_t 224 (by decide +kernel) (by decide +kernel)
theorem l_Batch_2 : u_lay R_Batch F_Batch 2 ∈ TB := tb_t 226 (by decide +kernel) (by decide +kernel)
theorem l_Batch_3 : u_lay R_Batch F_Batch 3 ∈ TB := tb_t 228 (by decide +kernel) (by decide +kernel)
theorem l_Batch_4 : u_lay R_Batch F_Batch 4 ∈ TB := tb_t 230 (by decide +kernel) (by decide +kernel)
theorem i_Batch : ∀ w ∈ u_ws R_Batch F_Batch 5, w ∈ TB := fun w hw => by
  obtain ⟨k, hk, rfl⟩ := List.mem_map.mp hw
  have hk := List.mem_range.mp hk
  rcases (show k = 0 ∨ k = 1 ∨ k = 2 ∨ k = 3 ∨ k = 4 by omega) with rfl | rfl | rfl | rfl | rfl
  · exact l_Batch_0
  · exact l_Batch_1
  · exact l_Batch_2
  · exact l_Batch_3
  · exact l_Batch_4
def R_Entry : String := "LogCleaner$Entry"
def F_Entry : u_T := fun k => match k with
  | 0 => ("LogCleaner$Entry", "key", "J", true)
  | 1 => ("LogCleaner$Entry", "keyBytes", "I", true)
  | 2 => ("LogCleaner$Entry", "hasValue", "Z", true)
  | 3 => ("LogCleaner$Entry", "value", "J", true)
  | 4 => ("LogCleaner$Entry", "time", "I", true)
  | 5 => ("LogCleaner$Entry", "offset", "I", false)
  | _ => ("LogCleaner$Entry", "superseded", "Z", false)
def t_Entry : Nat → FieldType := fun k => match k with
  | 0 => .long
  | 1 => .int
  | 2 => .boolean
  | 3 => .long
  | 4 => .int
  | 5 => .int
  | _ => .boolean
theorem n_Entry : ∀ a, a < 7 → ∀ b, b < 7 → a ≠ b → (F_Entry a).2.1 ≠ (F_Entry b).2.1 := by decide +kernel
theorem t_Entry_ok : ∀ k, k < 7 → parseFieldDescriptor (F_Entry k).2.2.1 = some (t_Entry k) := by decide +kernel
def z_Entry : List Value := [.long 0, .int 0, .int 0, .long 0, .int 0, .int 0, .int 0]
theorem z_Entry_ok : ∀ j, j < 7 → defaultValue (t_Entry j) = vp_V z_Entry j := fun j hj => by
  rcases (show j = 0 ∨ j = 1 ∨ j = 2 ∨ j = 3 ∨ j = 4 ∨ j = 5 ∨ j = 6 by omega) with rfl | rfl | rfl | rfl | rfl | rfl | rfl <;> rfl
theorem l_Entry_0 : u_lay R_Entry F_Entry 0 ∈ TB := tb_t 178 (by decide +kernel) (by decide +kernel)
theorem l_Entry_1 : u_lay R_Entry F_Entry 1 ∈ TB := tb_t 180 (by decide +kernel) (by decide +kernel)
theorem l_Entry_2 : u_lay R_Entry F_Entry 2 ∈ TB := tb_t 182 (by decide +kernel) (by decide +kernel)
theorem l_Entry_3 : u_lay R_Entry F_Entry 3 ∈ TB := tb_t 184 (by decide +kernel) (by decide +kernel)
theorem l_Entry_4 : u_lay R_Entry F_Entry 4 ∈ TB := tb_t 186 (by decide +kernel) (by decide +kernel)
theorem l_Entry_5 : u_lay R_Entry F_Entry 5 ∈ TB := tb_t 188 (by decide +kernel) (by decide +kernel)
theorem l_Entry_6 : u_lay R_Entry F_Entry 6 ∈ TB := tb_t 190 (by decide +kernel) (by decide +kernel)
theorem i_Entry : ∀ w ∈ u_ws R_Entry F_Entry 7, w ∈ TB := fun w hw => by
  obtain ⟨k, hk, rfl⟩ := List.mem_map.mp hw
  have hk := List.mem_range.mp hk
  rcases (show k = 0 ∨ k = 1 ∨ k = 2 ∨ k = 3 ∨ k = 4 ∨ k = 5 ∨ k = 6 by omega) with rfl | rfl | rfl | rfl | rfl | rfl | rfl
  · exact l_Entry_0
  · exact l_Entry_1
  · exact l_Entry_2
  · exact l_Entry_3
  · exact l_Entry_4
  · exact l_Entry_5
  · exact l_Entry_6
def R_Packing : String := "LogCleaner$Packing"
def F_Packing : u_T := fun k => match k with
  | 0 => ("LogCleaner$Packing", "lastSegment", "I", false)
  | _ => ("LogCleaner$Packing", "lastFilled", "I", false)
def t_Packing : Nat → FieldType := fun k => match k with
  | 0 => .int
  | _ => .int
theorem n_Packing : ∀ a, a < 2 → ∀ b, b < 2 → a ≠ b → (F_Packing a).2.1 ≠ (F_Packing b).2.1 := by decide +kernel
theorem t_Packing_ok : ∀ k, k < 2 → parseFieldDescriptor (F_Packing k).2.2.1 = some (t_Packing k) := by decide +kernel
def z_Packing : List Value := [.int 0, .int 0]
theorem z_Packing_ok : ∀ j, j < 2 → defaultValue (t_Packing j) = vp_V z_Packing j := fun j hj => by
  rcases (show j = 0 ∨ j = 1 by omega) with rfl | rfl <;> rfl
theorem l_Packing_0 : u_lay R_Packing F_Packing 0 ∈ TB := tb_t 31 (by decide +kernel) (by decide +kernel)
theorem l_Packing_1 : u_lay R_Packing F_Packing 1 ∈ TB := tb_t 33 (by decide +kernel) (by decide +kernel)
theorem i_Packing : ∀ w ∈ u_ws R_Packing F_Packing 2, w ∈ TB := fun w hw => by
  obtain ⟨k, hk, rfl⟩ := List.mem_map.mp hw
  have hk := List.mem_range.mp hk
  rcases (show k = 0 ∨ k = 1 by omega) with rfl | rfl
  · exact l_Packing_0
  · exact l_Packing_1
def R_LogCleanerModel : String := "LogCleanerModel"
def F_LogCleanerModel : u_T := fun k => match k with
  | 0 => ("LogCleanerModel", "code", "I", false)
  | 1 => ("LogCleanerModel", "records", "I", false)
  | 2 => ("LogCleanerModel", "of", "[I", true)
  | 3 => ("LogCleanerModel", "offset", "[I", true)
  | 4 => ("LogCleanerModel", "key", "[J", true)
  | 5 => ("LogCleanerModel", "keyBytes", "[I", true)
  | 6 => ("LogCleanerModel", "has", "[Z", true)
  | 7 => ("LogCleanerModel", "value", "[J", true)
  | 8 => ("LogCleanerModel", "time", "[I", true)
  | 9 => ("LogCleanerModel", "next", "I", false)
  | 10 => ("LogCleanerModel", "drafted", "I", false)
  | 11 => ("LogCleanerModel", "draftKey", "[J", true)
  | 12 => ("LogCleanerModel", "draftBytes", "[I", true)
  | 13 => ("LogCleanerModel", "draftHas", "[Z", true)
  | 14 => ("LogCleanerModel", "draftValue", "[J", true)
  | 15 => ("LogCleanerModel", "draftTime", "[I", true)
  | 16 => ("LogCleanerModel", "batches", "I", false)
  | 17 => ("LogCleanerModel", "base", "[I", true)
  | 18 => ("LogCleanerModel", "producer", "[I", true)
  | 19 => ("LogCleanerModel", "segment", "[I", true)
  | 20 => ("LogCleanerModel", "goes", "[Z", true)
  | 21 => ("LogCleanerModel", "stays", "[Z", true)
  | _ => ("LogCleanerModel", "number", "[I", true)
def t_LogCleanerModel : Nat → FieldType := fun k => match k with
  | 0 => .int
  | 1 => .int
  | 2 => .array .int
  | 3 => .array .int
  | 4 => .array .long
  | 5 => .array .int
  | 6 => .array .boolean
  | 7 => .array .long
  | 8 => .array .int
  | 9 => .int
  | 10 => .int
  | 11 => .array .long
  | 12 => .array .int
  | 13 => .array .boolean
  | 14 => .array .long
  | 15 => .array .int
  | 16 => .int
  | 17 => .array .int
  | 18 => .array .int
  | 19 => .array .int
  | 20 => .array .boolean
  | 21 => .array .boolean
  | _ => .array .int
theorem n_LogCleanerModel : ∀ a, a < 23 → ∀ b, b < 23 → a ≠ b → (F_LogCleanerModel a).2.1 ≠ (F_LogCleanerModel b).2.1 := by decide +kernel
theorem t_LogCleanerModel_ok : ∀ k, k < 23 → parseFieldDescriptor (F_LogCleanerModel k).2.2.1 = some (t_LogCleanerModel k) := by decide +kernel
def z_LogCleanerModel : List Value := [.int 0, .int 0, .null, .null, .null, .null, .null, .null, .null, .int 0, .int 0, .null, .null, .null, .null, .null, .int 0, .null, .null, .null, .null, .null, .null]
theorem z_LogCleanerModel_ok : ∀ j, j < 23 → defaultValue (t_LogCleanerModel j) = vp_V z_LogCleanerModel j := fun j hj => by
  rcases (show j = 0 ∨ j = 1 ∨ j = 2 ∨ j = 3 ∨ j = 4 ∨ j = 5 ∨ j = 6 ∨ j = 7 ∨ j = 8 ∨ j = 9 ∨ j = 10 ∨ j = 11 ∨ j = 12 ∨ j = 13 ∨ j = 14 ∨ j = 15 ∨ j = 16 ∨ j = 17 ∨ j = 18 ∨ j = 19 ∨ j = 20 ∨ j = 21 ∨ j = 22 by omega) with rfl | rfl | rfl | rfl | rfl | rfl | rfl | rfl | rfl | rfl | rfl | rfl | rfl | rfl | rfl | rfl | rfl | rfl | rfl | rfl | rfl | rfl | rfl <;> rfl
theorem l_LogCleanerModel_0 : u_lay R_LogCleanerModel F_LogCleanerModel 0 ∈ TB := tb_t 391 (by decide +kernel) (by decide +kernel)
theorem l_LogCleanerModel_1 : u_lay R_LogCleanerModel F_LogCleanerModel 1 ∈ TB := tb_t 393 (by decide +kernel) (by decide +kernel)
theorem l_LogCleanerModel_2 : u_lay R_LogCleanerModel F_LogCleanerModel 2 ∈ TB := tb_t 395 (by decide +kernel) (by decide +kernel)
theorem l_LogCleanerModel_3 : u_lay R_LogCleanerModel F_LogCleanerModel 3 ∈ TB := tb_t 397 (by decide +kernel) (by decide +kernel)
theorem l_LogCleanerModel_4 : u_lay R_LogCleanerModel F_LogCleanerModel 4 ∈ TB := tb_t 399 (by decide +kernel) (by decide +kernel)
theorem l_LogCleanerModel_5 : u_lay R_LogCleanerModel F_LogCleanerModel 5 ∈ TB := tb_t 401 (by decide +kernel) (by decide +kernel)
theorem l_LogCleanerModel_6 : u_lay R_LogCleanerModel F_LogCleanerModel 6 ∈ TB := tb_t 403 (by decide +kernel) (by decide +kernel)
theorem l_LogCleanerModel_7 : u_lay R_LogCleanerModel F_LogCleanerModel 7 ∈ TB := tb_t 405 (by decide +kernel) (by decide +kernel)
theorem l_LogCleanerModel_8 : u_lay R_LogCleanerModel F_LogCleanerModel 8 ∈ TB := tb_t 407 (by decide +kernel) (by decide +kernel)
theorem l_LogCleanerModel_9 : u_lay R_LogCleanerModel F_LogCleanerModel 9 ∈ TB := tb_t 409 (by decide +kernel) (by decide +kernel)
theorem l_LogCleanerModel_10 : u_lay R_LogCleanerModel F_LogCleanerModel 10 ∈ TB := tb_t 411 (by decide +kernel) (by decide +kernel)
theorem l_LogCleanerModel_11 : u_lay R_LogCleanerModel F_LogCleanerModel 11 ∈ TB := tb_t 413 (by decide +kernel) (by decide +kernel)
theorem l_LogCleanerModel_12 : u_lay R_LogCleanerModel F_LogCleanerModel 12 ∈ TB := tb_t 415 (by decide +kernel) (by decide +kernel)
theorem l_LogCleanerModel_13 : u_lay R_LogCleanerModel F_LogCleanerModel 13 ∈ TB := tb_t 417 (by decide +kernel) (by decide +kernel)
theorem l_LogCleanerModel_14 : u_lay R_LogCleanerModel F_LogCleanerModel 14 ∈ TB := tb_t 419 (by decide +kernel) (by decide +kernel)
theorem l_LogCleanerModel_15 : u_lay R_LogCleanerModel F_LogCleanerModel 15 ∈ TB := tb_t 421 (by decide +kernel) (by decide +kernel)
theorem l_LogCleanerModel_16 : u_lay R_LogCleanerModel F_LogCleanerModel 16 ∈ TB := tb_t 423 (by decide +kernel) (by decide +kernel)
theorem l_LogCleanerModel_17 : u_lay R_LogCleanerModel F_LogCleanerModel 17 ∈ TB := tb_t 425 (by decide +kernel) (by decide +kernel)
theorem l_LogCleanerModel_18 : u_lay R_LogCleanerModel F_LogCleanerModel 18 ∈ TB := tb_t 427 (by decide +kernel) (by decide +kernel)
theorem l_LogCleanerModel_19 : u_lay R_LogCleanerModel F_LogCleanerModel 19 ∈ TB := tb_t 429 (by decide +kernel) (by decide +kernel)
theorem l_LogCleanerModel_20 : u_lay R_LogCleanerModel F_LogCleanerModel 20 ∈ TB := tb_t 431 (by decide +kernel) (by decide +kernel)
theorem l_LogCleanerModel_21 : u_lay R_LogCleanerModel F_LogCleanerModel 21 ∈ TB := tb_t 433 (by decide +kernel) (by decide +kernel)
theorem l_LogCleanerModel_22 : u_lay R_LogCleanerModel F_LogCleanerModel 22 ∈ TB := tb_t 435 (by decide +kernel) (by decide +kernel)
theorem i_LogCleanerModel : ∀ w ∈ u_ws R_LogCleanerModel F_LogCleanerModel 23, w ∈ TB := fun w hw => by
  obtain ⟨k, hk, rfl⟩ := List.mem_map.mp hw
  have hk := List.mem_range.mp hk
  rcases (show k = 0 ∨ k = 1 ∨ k = 2 ∨ k = 3 ∨ k = 4 ∨ k = 5 ∨ k = 6 ∨ k = 7 ∨ k = 8 ∨ k = 9 ∨ k = 10 ∨ k = 11 ∨ k = 12 ∨ k = 13 ∨ k = 14 ∨ k = 15 ∨ k = 16 ∨ k = 17 ∨ k = 18 ∨ k = 19 ∨ k = 20 ∨ k = 21 ∨ k = 22 by omega) with rfl | rfl | rfl | rfl | rfl | rfl | rfl | rfl | rfl | rfl | rfl | rfl | rfl | rfl | rfl | rfl | rfl | rfl | rfl | rfl | rfl | rfl | rfl
  · exact l_LogCleanerModel_0
  · exact l_LogCleanerModel_1
  · exact l_LogCleanerModel_2
  · exact l_LogCleanerModel_3
  · exact l_LogCleanerModel_4
  · exact l_LogCleanerModel_5
  · exact l_LogCleanerModel_6
  · exact l_LogCleanerModel_7
  · exact l_LogCleanerModel_8
  · exact l_LogCleanerModel_9
  · exact l_LogCleanerModel_10
  · exact l_LogCleanerModel_11
  · exact l_LogCleanerModel_12
  · exact l_LogCleanerModel_13
  · exact l_LogCleanerModel_14
  · exact l_LogCleanerModel_15
  · exact l_LogCleanerModel_16
  · exact l_LogCleanerModel_17
  · exact l_LogCleanerModel_18
  · exact l_LogCleanerModel_19
  · exact l_LogCleanerModel_20
  · exact l_LogCleanerModel_21
  · exact l_LogCleanerModel_22
def R_LogCleanerLaw : String := "LogCleanerLaw"
abbrev vwCl : List vw_C := [(R_LogCleaner, F_LogCleaner, 7), (R_Batch, F_Batch, 5), (R_Entry, F_Entry, 7), (R_Packing, F_Packing, 2), (R_LogCleanerModel, F_LogCleanerModel, 23)]
abbrev b_Batch_init : ByteArray := prog_2_method_1_code
def y_Batch_init : MethodName := ⟨R_Batch, "<init>", "(III)V"⟩
abbrev b_Batch_append : ByteArray := prog_2_method_2_code
def y_Batch_append : MethodName := ⟨R_Batch, "append", "(LLogCleaner$Entry;)V"⟩
abbrev b_Entry_hasKey : ByteArray := prog_3_method_2_code
def y_Entry_hasKey : MethodName := ⟨R_Entry, "hasKey", "()Z"⟩
abbrev b_Entry_sizeInBytes : ByteArray := prog_3_method_4_code
def y_Entry_sizeInBytes : MethodName := ⟨R_Entry, "sizeInBytes", "()I"⟩
abbrev b_Batch_sizeInBytes : ByteArray := prog_2_method_3_code
def y_Batch_sizeInBytes : MethodName := ⟨R_Batch, "sizeInBytes", "()I"⟩
abbrev b_Batch_latestWithKey : ByteArray := prog_2_method_4_code
def y_Batch_latestWithKey : MethodName := ⟨R_Batch, "latestWithKey", "(JI)LLogCleaner$Entry;"⟩
abbrev b_Entry_goes : ByteArray := prog_3_method_3_code
def y_Entry_goes : MethodName := ⟨R_Entry, "goes", "(I)Z"⟩
abbrev b_Batch_removeGone : ByteArray := prog_2_method_5_code
def y_Batch_removeGone : MethodName := ⟨R_Batch, "removeGone", "(I)I"⟩
abbrev b_Entry_init : ByteArray := prog_3_method_1_code
def y_Entry_init : MethodName := ⟨R_Entry, "<init>", "(JIZJI)V"⟩
abbrev b_Packing_init : ByteArray := prog_4_method_1_code
def y_Packing_init : MethodName := ⟨R_Packing, "<init>", "()V"⟩
abbrev b_Packing_place : ByteArray := prog_4_method_2_code
def y_Packing_place : MethodName := ⟨R_Packing, "place", "(I)I"⟩
abbrev b_LogCleaner_init : ByteArray := prog_1_method_1_code
def y_LogCleaner_init : MethodName := ⟨R_LogCleaner, "<init>", "()V"⟩
abbrev b_LogCleaner_lowestBytes : ByteArray := prog_1_method_10_code
def y_LogCleaner_lowestBytes : MethodName := ⟨R_LogCleaner, "lowestBytes", "(JI)J"⟩
abbrev b_LogCleaner_record : ByteArray := prog_1_method_2_code
def y_LogCleaner_record : MethodName := ⟨R_LogCleaner, "record", "(JIZJI)I"⟩
abbrev b_LogCleaner_latestWithKey : ByteArray := prog_1_method_13_code
def y_LogCleaner_latestWithKey : MethodName := ⟨R_LogCleaner, "latestWithKey", "(JI)LLogCleaner$Entry;"⟩
abbrev b_LogCleaner_markSuperseded : ByteArray := prog_1_method_12_code
def y_LogCleaner_markSuperseded : MethodName := ⟨R_LogCleaner, "markSuperseded", "(LLogCleaner$Entry;)V"⟩
abbrev b_LogCleaner_moveDraftInto : ByteArray := prog_1_method_11_code
def y_LogCleaner_moveDraftInto : MethodName := ⟨R_LogCleaner, "moveDraftInto", "(LLogCleaner$Batch;)V"⟩
abbrev b_LogCleaner_close : ByteArray := prog_1_method_3_code
def y_LogCleaner_close : MethodName := ⟨R_LogCleaner, "close", "(I)I"⟩
abbrev b_LogCleaner_isClosed : ByteArray := prog_1_method_15_code
def y_LogCleaner_isClosed : MethodName := ⟨R_LogCleaner, "isClosed", "(LLogCleaner$Batch;)Z"⟩
abbrev b_LogCleaner_removeGoneRecords : ByteArray := prog_1_method_17_code
def y_LogCleaner_removeGoneRecords : MethodName := ⟨R_LogCleaner, "removeGoneRecords", "(I)I"⟩
abbrev b_LogCleaner_isKnown : ByteArray := prog_1_method_16_code
def y_LogCleaner_isKnown : MethodName := ⟨R_LogCleaner, "isKnown", "(I)Z"⟩
abbrev b_LogCleaner_keepFirstBatches : ByteArray := prog_1_method_20_code
def y_LogCleaner_keepFirstBatches : MethodName := ⟨R_LogCleaner, "keepFirstBatches", "(I)V"⟩
abbrev b_LogCleaner_removeEmptiedBatches : ByteArray := prog_1_method_18_code
def y_LogCleaner_removeEmptiedBatches : MethodName := ⟨R_LogCleaner, "removeEmptiedBatches", "()I"⟩
abbrev b_LogCleaner_packClosedSegments : ByteArray := prog_1_method_21_code
def y_LogCleaner_packClosedSegments : MethodName := ⟨R_LogCleaner, "packClosedSegments", "()V"⟩
abbrev b_LogCleaner_clean : ByteArray := prog_1_method_4_code
def y_LogCleaner_clean : MethodName := ⟨R_LogCleaner, "clean", "(I)I"⟩
abbrev b_LogCleaner_removeFirstSegments : ByteArray := prog_1_method_19_code
def y_LogCleaner_removeFirstSegments : MethodName := ⟨R_LogCleaner, "removeFirstSegments", "(I)I"⟩
abbrev b_LogCleaner_drop : ByteArray := prog_1_method_5_code
def y_LogCleaner_drop : MethodName := ⟨R_LogCleaner, "drop", "(I)I"⟩
abbrev b_LogCleaner_count : ByteArray := prog_1_method_6_code
def y_LogCleaner_count : MethodName := ⟨R_LogCleaner, "count", "(I)I"⟩
abbrev b_LogCleaner_batch : ByteArray := prog_1_method_7_code
def y_LogCleaner_batch : MethodName := ⟨R_LogCleaner, "batch", "(II)I"⟩
abbrev b_LogCleaner_entryAt : ByteArray := prog_1_method_14_code
def y_LogCleaner_entryAt : MethodName := ⟨R_LogCleaner, "entryAt", "(I)LLogCleaner$Entry;"⟩
abbrev b_LogCleaner_told : ByteArray := prog_1_method_8_code
def y_LogCleaner_told : MethodName := ⟨R_LogCleaner, "told", "(II)J"⟩
abbrev b_LogCleaner_latest : ByteArray := prog_1_method_9_code
def y_LogCleaner_latest : MethodName := ⟨R_LogCleaner, "latest", "(JI)I"⟩
abbrev b_LogCleanerModel_init : ByteArray := prog_6_method_1_code
def y_LogCleanerModel_init : MethodName := ⟨R_LogCleanerModel, "<init>", "()V"⟩
abbrev b_LogCleanerModel_lowest : ByteArray := prog_6_method_3_code
def y_LogCleanerModel_lowest : MethodName := ⟨R_LogCleanerModel, "lowest", "(JI)J"⟩
abbrev b_LogCleanerModel_record : ByteArray := prog_6_method_4_code
def y_LogCleanerModel_record : MethodName := ⟨R_LogCleanerModel, "record", "(JIZJI)I"⟩
abbrev b_LogCleanerModel_thrown : ByteArray := prog_6_method_2_code
def y_LogCleanerModel_thrown : MethodName := ⟨R_LogCleanerModel, "thrown", "()I"⟩
abbrev b_LogCleanerModel_sizeOf : ByteArray := prog_6_method_6_code
def y_LogCleanerModel_sizeOf : MethodName := ⟨R_LogCleanerModel, "sizeOf", "(I)I"⟩
abbrev b_LogCleanerModel_close : ByteArray := prog_6_method_7_code
def y_LogCleanerModel_close : MethodName := ⟨R_LogCleanerModel, "close", "(I)I"⟩
abbrev b_LogCleanerModel_isClosed : ByteArray := prog_6_method_8_code
def y_LogCleanerModel_isClosed : MethodName := ⟨R_LogCleanerModel, "isClosed", "(I)Z"⟩
abbrev b_LogCleanerModel_isOver : ByteArray := prog_6_method_10_code
def y_LogCleanerModel_isOver : MethodName := ⟨R_LogCleanerModel, "isOver", "(II)Z"⟩
abbrev b_LogCleanerModel_isKnown : ByteArray := prog_6_method_9_code
def y_LogCleanerModel_isKnown : MethodName := ⟨R_LogCleanerModel, "isKnown", "(I)Z"⟩
abbrev b_LogCleanerModel_takeOut : ByteArray := prog_6_method_11_code
def y_LogCleanerModel_takeOut : MethodName := ⟨R_LogCleanerModel, "takeOut", "()I"⟩
abbrev b_LogCleanerModel_clean : ByteArray := prog_6_method_12_code
def y_LogCleanerModel_clean : MethodName := ⟨R_LogCleanerModel, "clean", "(I)I"⟩
abbrev b_LogCleanerModel_segments : ByteArray := prog_6_method_14_code
def y_LogCleanerModel_segments : MethodName := ⟨R_LogCleanerModel, "segments", "()I"⟩
abbrev b_LogCleanerModel_drop : ByteArray := prog_6_method_13_code
def y_LogCleanerModel_drop : MethodName := ⟨R_LogCleanerModel, "drop", "(I)I"⟩
abbrev b_LogCleanerModel_count : ByteArray := prog_6_method_15_code
def y_LogCleanerModel_count : MethodName := ⟨R_LogCleanerModel, "count", "(I)I"⟩
abbrev b_LogCleanerModel_countOf : ByteArray := prog_6_method_5_code
def y_LogCleanerModel_countOf : MethodName := ⟨R_LogCleanerModel, "countOf", "(I)I"⟩
abbrev b_LogCleanerModel_batch : ByteArray := prog_6_method_16_code
def y_LogCleanerModel_batch : MethodName := ⟨R_LogCleanerModel, "batch", "(II)I"⟩
abbrev b_LogCleanerModel_told : ByteArray := prog_6_method_17_code
def y_LogCleanerModel_told : MethodName := ⟨R_LogCleanerModel, "told", "(II)J"⟩
abbrev b_LogCleanerModel_latest : ByteArray := prog_6_method_18_code
def y_LogCleanerModel_latest : MethodName := ⟨R_LogCleanerModel, "latest", "(JI)I"⟩
abbrev b_LogCleanerLaw_record : ByteArray := method_3_code
def y_LogCleanerLaw_record : MethodName := ⟨R_LogCleanerLaw, "record", "(LLogCleaner;JIZJI[J)I"⟩
abbrev b_LogCleanerLaw_close : ByteArray := method_4_code
def y_LogCleanerLaw_close : MethodName := ⟨R_LogCleanerLaw, "close", "(LLogCleaner;I[J)I"⟩
abbrev b_LogCleanerLaw_clean : ByteArray := method_5_code
def y_LogCleanerLaw_clean : MethodName := ⟨R_LogCleanerLaw, "clean", "(LLogCleaner;I[J)I"⟩
abbrev b_LogCleanerLaw_drop : ByteArray := method_6_code
def y_LogCleanerLaw_drop : MethodName := ⟨R_LogCleanerLaw, "drop", "(LLogCleaner;I[J)I"⟩
abbrev b_LogCleanerLaw_count : ByteArray := method_7_code
def y_LogCleanerLaw_count : MethodName := ⟨R_LogCleanerLaw, "count", "(LLogCleaner;I[J)I"⟩
abbrev b_LogCleanerLaw_batch : ByteArray := method_8_code
def y_LogCleanerLaw_batch : MethodName := ⟨R_LogCleanerLaw, "batch", "(LLogCleaner;II[J)I"⟩
abbrev b_LogCleanerLaw_told : ByteArray := method_9_code
def y_LogCleanerLaw_told : MethodName := ⟨R_LogCleanerLaw, "told", "(LLogCleaner;II[J)I"⟩
abbrev b_LogCleanerLaw_latest : ByteArray := method_10_code
def y_LogCleanerLaw_latest : MethodName := ⟨R_LogCleanerLaw, "latest", "(LLogCleaner;JI[J)I"⟩
abbrev b_LogCleanerLaw_law : ByteArray := code
def y_LogCleanerLaw_law : MethodName := ⟨R_LogCleanerLaw, "law", "([I)Z"⟩
def xtys : List FieldType := [.object "LogCleaner$Entry", .object "LogCleaner$Batch", .int, .long, .boolean]
def sgXb : va_E → Bool
  | .inr (c, _) => Nat.blt c 4
  | .inl (_, _, .inr (.inr (.inr (.inr _)))) => true
  | _ => false
def sgX (o : va_E) : Prop := sgXb o = true
def sgMb : va_E → Bool
  | .inr (c, _) => Nat.beq c 4
  | .inl (_, _, .inr (.inr (.inr (.inr _)))) => false
  | _ => true
def sgM (o : va_E) : Prop := sgMb o = true
def sgT (_ : va_E) : Prop := true = true
def NB : List Cond := [.methodLinkNest "LogCleaner" 27 y_Packing_init "LogCleaner", .declares ⟨"java/lang/RuntimeException", "<init>", "(Ljava/lang/String;)V"⟩, .declares ⟨"java/lang/Exception", "<init>", "(Ljava/lang/String;)V"⟩, .declares ⟨"java/lang/Throwable", "<init>", "(Ljava/lang/String;)V"⟩, .castable "java/lang/IllegalArgumentException" "java/lang/IllegalArgumentException", .castable "java/lang/IllegalStateException" "java/lang/IllegalStateException"]
theorem nb_0 : Cond.methodLinkNest R_LogCleaner 27 y_Packing_init "LogCleaner" ∈ NB := List.mem_of_getElem? (i := 0) rfl
theorem NB_tabs : ∀ w ∈ NB, w.onTables = true := by decide +kernel
theorem NB_warm {s U : State} (hW : s.WarmedH U.vm) : ∀ w ∈ NB, va_Nw w s → va_Nw w U := by
  intro w hw h
  simp only [NB, List.mem_cons, List.not_mem_nil, or_false] at hw
  rcases hw with rfl | rfl | rfl | rfl | rfl | rfl
  · exact va_Nw.warmM hW h
  · exact va_Nw.warmD hW h
  · exact va_Nw.warmD hW h
  · exact va_Nw.warmD hW h
  · exact va_Nw.warmC hW h
  · exact va_Nw.warmC hW h
theorem g_ac_boolean : Cond.arrayClass .boolean ∈ TB := tb_t 440 (by decide +kernel) (by decide +kernel)
theorem g_ac_int : Cond.arrayClass .int ∈ TB := tb_t 438 (by decide +kernel) (by decide +kernel)
theorem g_ac_long : Cond.arrayClass .long ∈ TB := tb_t 439 (by decide +kernel) (by decide +kernel)
theorem g_code_Batch_append : Cond.code y_Batch_append b_Batch_append 2 none ∈ TB := tb_t 256 (by decide +kernel) (by decide +kernel)
theorem g_code_Batch_init : Cond.code y_Batch_init b_Batch_init 4 none ∈ TB := tb_t 206 (by decide +kernel) (by decide +kernel)
theorem g_code_Batch_latestWithKey : Cond.code y_Batch_latestWithKey b_Batch_latestWithKey 6 (some (.object "LogCleaner$Entry")) ∈ TB := tb_t 252 (by decide +kernel) (by decide +kernel)
theorem g_code_Batch_removeGone : Cond.code y_Batch_removeGone b_Batch_removeGone 6 (some .int) ∈ TB := tb_t 288 (by decide +kernel) (by decide +kernel)
theorem g_code_Batch_sizeInBytes : Cond.code y_Batch_sizeInBytes b_Batch_sizeInBytes 3 (some .int) ∈ TB := tb_t 260 (by decide +kernel) (by decide +kernel)
theorem g_code_Entry_goes : Cond.code y_Entry_goes b_Entry_goes 2 (some .boolean) ∈ TB := tb_t 292 (by decide +kernel) (by decide +kernel)
theorem g_code_Entry_hasKey : Cond.code y_Entry_hasKey b_Entry_hasKey 1 (some .boolean) ∈ TB := tb_t 244 (by decide +kernel) (by decide +kernel)
theorem g_code_Entry_init : Cond.code y_Entry_init b_Entry_init 8 none ∈ TB := tb_t 160 (by decide +kernel) (by decide +kernel)
theorem g_code_Entry_sizeInBytes : Cond.code y_Entry_sizeInBytes b_Entry_sizeInBytes 1 (some .int) ∈ TB := tb_t 264 (by decide +kernel) (by decide +kernel)
theorem g_code_LogCleanerModel_countOf : Cond.code y_LogCleanerModel_countOf b_LogCleanerModel_countOf 4 (some .int) ∈ TB := tb_t 500 (by decide +kernel) (by decide +kernel)
theorem g_code_LogCleanerModel_isClosed : Cond.code y_LogCleanerModel_isClosed b_LogCleanerModel_isClosed 2 (some .boolean) ∈ TB := tb_t 472 (by decide +kernel) (by decide +kernel)
theorem g_code_LogCleanerModel_isKnown : Cond.code y_LogCleanerModel_isKnown b_LogCleanerModel_isKnown 4 (some .boolean) ∈ TB := tb_t 476 (by decide +kernel) (by decide +kernel)
theorem g_code_LogCleanerModel_isOver : Cond.code y_LogCleanerModel_isOver b_LogCleanerModel_isOver 5 (some .boolean) ∈ TB := tb_t 468 (by decide +kernel) (by decide +kernel)
theorem g_code_LogCleanerModel_lowest : Cond.code y_LogCleanerModel_lowest b_LogCleanerModel_lowest 6 (some .long) ∈ TB := tb_t 451 (by decide +kernel) (by decide +kernel)
theorem g_code_LogCleanerModel_segments : Cond.code y_LogCleanerModel_segments b_LogCleanerModel_segments 1 (some .int) ∈ TB := tb_t 488 (by decide +kernel) (by decide +kernel)
theorem g_code_LogCleanerModel_sizeOf : Cond.code y_LogCleanerModel_sizeOf b_LogCleanerModel_sizeOf 4 (some .int) ∈ TB := tb_t 460 (by decide +kernel) (by decide +kernel)
theorem g_code_LogCleanerModel_takeOut : Cond.code y_LogCleanerModel_takeOut b_LogCleanerModel_takeOut 4 (some .int) ∈ TB := tb_t 480 (by decide +kernel) (by decide +kernel)
theorem g_code_LogCleaner_entryAt : Cond.code y_LogCleaner_entryAt b_LogCleaner_entryAt 5 (some (.object "LogCleaner$Entry")) ∈ TB := tb_t 352 (by decide +kernel) (by decide +kernel)
theorem g_code_LogCleaner_isClosed : Cond.code y_LogCleaner_isClosed b_LogCleaner_isClosed 2 (some .boolean) ∈ TB := tb_t 284 (by decide +kernel) (by decide +kernel)
theorem g_code_LogCleaner_isKnown : Cond.code y_LogCleaner_isKnown b_LogCleaner_isKnown 5 (some .boolean) ∈ TB := tb_t 300 (by decide +kernel) (by decide +kernel)
theorem g_code_LogCleaner_keepFirstBatches : Cond.code y_LogCleaner_keepFirstBatches b_LogCleaner_keepFirstBatches 3 none ∈ TB := tb_t 304 (by decide +kernel) (by decide +kernel)
theorem g_code_LogCleaner_latestWithKey : Cond.code y_LogCleaner_latestWithKey b_LogCleaner_latestWithKey 6 (some (.object "LogCleaner$Entry")) ∈ TB := tb_t 248 (by decide +kernel) (by decide +kernel)
theorem g_code_LogCleaner_lowestBytes : Cond.code y_LogCleaner_lowestBytes b_LogCleaner_lowestBytes 3 (some .long) ∈ TB := tb_t 156 (by decide +kernel) (by decide +kernel)
theorem g_code_LogCleaner_markSuperseded : Cond.code y_LogCleaner_markSuperseded b_LogCleaner_markSuperseded 3 none ∈ TB := tb_t 240 (by decide +kernel) (by decide +kernel)
theorem g_code_LogCleaner_moveDraftInto : Cond.code y_LogCleaner_moveDraftInto b_LogCleaner_moveDraftInto 4 none ∈ TB := tb_t 236 (by decide +kernel) (by decide +kernel)
theorem g_code_LogCleaner_packClosedSegments : Cond.code y_LogCleaner_packClosedSegments b_LogCleaner_packClosedSegments 4 none ∈ TB := tb_t 308 (by decide +kernel) (by decide +kernel)
theorem g_code_LogCleaner_removeEmptiedBatches : Cond.code y_LogCleaner_removeEmptiedBatches b_LogCleaner_removeEmptiedBatches 6 (some .int) ∈ TB := tb_t 296 (by decide +kernel) (by decide +kernel)
theorem g_code_LogCleaner_removeFirstSegments : Cond.code y_LogCleaner_removeFirstSegments b_LogCleaner_removeFirstSegments 6 (some .int) ∈ TB := tb_t 324 (by decide +kernel) (by decide +kernel)
theorem g_code_LogCleaner_removeGoneRecords : Cond.code y_LogCleaner_removeGoneRecords b_LogCleaner_removeGoneRecords 4 (some .int) ∈ TB := tb_t 280 (by decide +kernel) (by decide +kernel)
theorem g_code_Packing_init : Cond.code y_Packing_init b_Packing_init 1 none ∈ TB := tb_t 26 (by decide +kernel) (by decide +kernel)
theorem g_code_Packing_place : Cond.code y_Packing_place b_Packing_place 2 (some .int) ∈ TB := tb_t 269 (by decide +kernel) (by decide +kernel)
theorem g_code_mmax : Cond.code Lib.Math.max.name Lib.Math.max.code 2 (some .int) ∈ TB := tb_t 210 (by decide +kernel) (by decide +kernel)
theorem g_code_mmin : Cond.code Lib.Math.min.name Lib.Math.min.code 2 (some .int) ∈ TB := tb_t 320 (by decide +kernel) (by decide +kernel)
theorem g_code_obj : Cond.code objectInit ⟨#[0xb1]⟩ 1 none ∈ TB := tb_t 19 (by decide +kernel) (by decide +kernel)
theorem g_im_Batch_append : Cond.instanceMethod y_Batch_append ∈ TB := tb_t 254 (by decide +kernel) (by decide +kernel)
theorem g_im_Batch_init : Cond.instanceMethod y_Batch_init ∈ TB := tb_t 205 (by decide +kernel) (by decide +kernel)
theorem g_im_Batch_latestWithKey : Cond.instanceMethod y_Batch_latestWithKey ∈ TB := tb_t 250 (by decide +kernel) (by decide +kernel)
theorem g_im_Batch_removeGone : Cond.instanceMethod y_Batch_removeGone ∈ TB := tb_t 286 (by decide +kernel) (by decide +kernel)
theorem g_im_Batch_sizeInBytes : Cond.instanceMethod y_Batch_sizeInBytes ∈ TB := tb_t 258 (by decide +kernel) (by decide +kernel)
theorem g_im_Entry_goes : Cond.instanceMethod y_Entry_goes ∈ TB := tb_t 290 (by decide +kernel) (by decide +kernel)
theorem g_im_Entry_hasKey : Cond.instanceMethod y_Entry_hasKey ∈ TB := tb_t 242 (by decide +kernel) (by decide +kernel)
theorem g_im_Entry_init : Cond.instanceMethod y_Entry_init ∈ TB := tb_t 159 (by decide +kernel) (by decide +kernel)
theorem g_im_Entry_sizeInBytes : Cond.instanceMethod y_Entry_sizeInBytes ∈ TB := tb_t 262 (by decide +kernel) (by decide +kernel)
theorem g_im_LogCleanerModel_countOf : Cond.instanceMethod y_LogCleanerModel_countOf ∈ TB := tb_t 499 (by decide +kernel) (by decide +kernel)
theorem g_im_LogCleanerModel_isClosed : Cond.instanceMethod y_LogCleanerModel_isClosed ∈ TB := tb_t 471 (by decide +kernel) (by decide +kernel)
theorem g_im_LogCleanerModel_isKnown : Cond.instanceMethod y_LogCleanerModel_isKnown ∈ TB := tb_t 475 (by decide +kernel) (by decide +kernel)
theorem g_im_LogCleanerModel_isOver : Cond.instanceMethod y_LogCleanerModel_isOver ∈ TB := tb_t 467 (by decide +kernel) (by decide +kernel)
theorem g_im_LogCleanerModel_segments : Cond.instanceMethod y_LogCleanerModel_segments ∈ TB := tb_t 487 (by decide +kernel) (by decide +kernel)
theorem g_im_LogCleanerModel_sizeOf : Cond.instanceMethod y_LogCleanerModel_sizeOf ∈ TB := tb_t 459 (by decide +kernel) (by decide +kernel)
theorem g_im_LogCleanerModel_takeOut : Cond.instanceMethod y_LogCleanerModel_takeOut ∈ TB := tb_t 479 (by decide +kernel) (by decide +kernel)
theorem g_im_LogCleaner_entryAt : Cond.instanceMethod y_LogCleaner_entryAt ∈ TB := tb_t 351 (by decide +kernel) (by decide +kernel)
theorem g_im_LogCleaner_isClosed : Cond.instanceMethod y_LogCleaner_isClosed ∈ TB := tb_t 283 (by decide +kernel) (by decide +kernel)
theorem g_im_LogCleaner_isKnown : Cond.instanceMethod y_LogCleaner_isKnown ∈ TB := tb_t 299 (by decide +kernel) (by decide +kernel)
theorem g_im_LogCleaner_keepFirstBatches : Cond.instanceMethod y_LogCleaner_keepFirstBatches ∈ TB := tb_t 303 (by decide +kernel) (by decide +kernel)
theorem g_im_LogCleaner_latestWithKey : Cond.instanceMethod y_LogCleaner_latestWithKey ∈ TB := tb_t 247 (by decide +kernel) (by decide +kernel)
theorem g_im_LogCleaner_markSuperseded : Cond.instanceMethod y_LogCleaner_markSuperseded ∈ TB := tb_t 239 (by decide +kernel) (by decide +kernel)
theorem g_im_LogCleaner_moveDraftInto : Cond.instanceMethod y_LogCleaner_moveDraftInto ∈ TB := tb_t 235 (by decide +kernel) (by decide +kernel)
theorem g_im_LogCleaner_packClosedSegments : Cond.instanceMethod y_LogCleaner_packClosedSegments ∈ TB := tb_t 307 (by decide +kernel) (by decide +kernel)
theorem g_im_LogCleaner_removeEmptiedBatches : Cond.instanceMethod y_LogCleaner_removeEmptiedBatches ∈ TB := tb_t 295 (by decide +kernel) (by decide +kernel)
theorem g_im_LogCleaner_removeFirstSegments : Cond.instanceMethod y_LogCleaner_removeFirstSegments ∈ TB := tb_t 323 (by decide +kernel) (by decide +kernel)
theorem g_im_LogCleaner_removeGoneRecords : Cond.instanceMethod y_LogCleaner_removeGoneRecords ∈ TB := tb_t 279 (by decide +kernel) (by decide +kernel)
theorem g_im_Packing_init : Cond.instanceMethod y_Packing_init ∈ TB := tb_t 25 (by decide +kernel) (by decide +kernel)
theorem g_im_Packing_place : Cond.instanceMethod y_Packing_place ∈ TB := tb_t 267 (by decide +kernel) (by decide +kernel)
theorem g_im_obj : Cond.instanceMethod objectInit ∈ TB := tb_t 18 (by decide +kernel) (by decide +kernel)
theorem g_ini_Batch : Cond.initialized "LogCleaner$Batch" ∈ TB := tb_t 10 (by decide +kernel) (by decide +kernel)
theorem g_ini_Entry : Cond.initialized "LogCleaner$Entry" ∈ TB := tb_t 9 (by decide +kernel) (by decide +kernel)
theorem g_ini_LogCleaner : Cond.initialized "LogCleaner" ∈ TB := tb_t 1 (by decide +kernel) (by decide +kernel)
theorem g_ini_LogCleanerModel : Cond.initialized "LogCleanerModel" ∈ TB := tb_t 3 (by decide +kernel) (by decide +kernel)
theorem g_ini_Packing : Cond.initialized "LogCleaner$Packing" ∈ TB := tb_t 2 (by decide +kernel) (by decide +kernel)
theorem g_ini_java_lang_IllegalArgumentException : Cond.initialized "java/lang/IllegalArgumentException" ∈ TB := tb_t 7 (by decide +kernel) (by decide +kernel)
theorem g_ini_java_lang_IllegalStateException : Cond.initialized "java/lang/IllegalStateException" ∈ TB := tb_t 8 (by decide +kernel) (by decide +kernel)
theorem g_ini_java_lang_Math : Cond.initialized "java/lang/Math" ∈ TB := tb_t 11 (by decide +kernel) (by decide +kernel)
theorem g_inst_Batch : Cond.instantiable "LogCleaner$Batch" 5 ∈ TB := tb_t 203 (by decide +kernel) (by decide +kernel)
theorem g_inst_Entry : Cond.instantiable "LogCleaner$Entry" 7 ∈ TB := tb_t 157 (by decide +kernel) (by decide +kernel)
theorem g_inst_Packing : Cond.instantiable "LogCleaner$Packing" 2 ∈ TB := tb_t 23 (by decide +kernel) (by decide +kernel)
theorem g_sel_Batch_append : Cond.selects "LogCleaner$Batch" y_Batch_append y_Batch_append ∈ TB := tb_t 255 (by decide +kernel) (by decide +kernel)
theorem g_sel_Batch_latestWithKey : Cond.selects "LogCleaner$Batch" y_Batch_latestWithKey y_Batch_latestWithKey ∈ TB := tb_t 251 (by decide +kernel) (by decide +kernel)
theorem g_sel_Batch_removeGone : Cond.selects "LogCleaner$Batch" y_Batch_removeGone y_Batch_removeGone ∈ TB := tb_t 287 (by decide +kernel) (by decide +kernel)
theorem g_sel_Batch_sizeInBytes : Cond.selects "LogCleaner$Batch" y_Batch_sizeInBytes y_Batch_sizeInBytes ∈ TB := tb_t 259 (by decide +kernel) (by decide +kernel)
theorem g_sel_Entry_goes : Cond.selects "LogCleaner$Entry" y_Entry_goes y_Entry_goes ∈ TB := tb_t 291 (by decide +kernel) (by decide +kernel)
theorem g_sel_Entry_hasKey : Cond.selects "LogCleaner$Entry" y_Entry_hasKey y_Entry_hasKey ∈ TB := tb_t 243 (by decide +kernel) (by decide +kernel)
theorem g_sel_Entry_sizeInBytes : Cond.selects "LogCleaner$Entry" y_Entry_sizeInBytes y_Entry_sizeInBytes ∈ TB := tb_t 263 (by decide +kernel) (by decide +kernel)
theorem g_sel_LogCleanerModel_countOf : Cond.selects "LogCleanerModel" y_LogCleanerModel_countOf y_LogCleanerModel_countOf ∈ TB := tb_s 18 (by decide +kernel) (by decide +kernel)
theorem g_sel_LogCleanerModel_isClosed : Cond.selects "LogCleanerModel" y_LogCleanerModel_isClosed y_LogCleanerModel_isClosed ∈ TB := tb_s 14 (by decide +kernel) (by decide +kernel)
theorem g_sel_LogCleanerModel_isKnown : Cond.selects "LogCleanerModel" y_LogCleanerModel_isKnown y_LogCleanerModel_isKnown ∈ TB := tb_s 15 (by decide +kernel) (by decide +kernel)
theorem g_sel_LogCleanerModel_isOver : Cond.selects "LogCleanerModel" y_LogCleanerModel_isOver y_LogCleanerModel_isOver ∈ TB := tb_s 13 (by decide +kernel) (by decide +kernel)
theorem g_sel_LogCleanerModel_segments : Cond.selects "LogCleanerModel" y_LogCleanerModel_segments y_LogCleanerModel_segments ∈ TB := tb_s 17 (by decide +kernel) (by decide +kernel)
theorem g_sel_LogCleanerModel_sizeOf : Cond.selects "LogCleanerModel" y_LogCleanerModel_sizeOf y_LogCleanerModel_sizeOf ∈ TB := tb_s 12 (by decide +kernel) (by decide +kernel)
theorem g_sel_LogCleanerModel_takeOut : Cond.selects "LogCleanerModel" y_LogCleanerModel_takeOut y_LogCleanerModel_takeOut ∈ TB := tb_s 16 (by decide +kernel) (by decide +kernel)
theorem g_sel_LogCleaner_entryAt : Cond.selects "LogCleaner" y_LogCleaner_entryAt y_LogCleaner_entryAt ∈ TB := tb_s 11 (by decide +kernel) (by decide +kernel)
theorem g_sel_LogCleaner_isClosed : Cond.selects "LogCleaner" y_LogCleaner_isClosed y_LogCleaner_isClosed ∈ TB := tb_s 5 (by decide +kernel) (by decide +kernel)
theorem g_sel_LogCleaner_isKnown : Cond.selects "LogCleaner" y_LogCleaner_isKnown y_LogCleaner_isKnown ∈ TB := tb_s 7 (by decide +kernel) (by decide +kernel)
theorem g_sel_LogCleaner_keepFirstBatches : Cond.selects "LogCleaner" y_LogCleaner_keepFirstBatches y_LogCleaner_keepFirstBatches ∈ TB := tb_s 8 (by decide +kernel) (by decide +kernel)
theorem g_sel_LogCleaner_latestWithKey : Cond.selects "LogCleaner" y_LogCleaner_latestWithKey y_LogCleaner_latestWithKey ∈ TB := tb_s 3 (by decide +kernel) (by decide +kernel)
theorem g_sel_LogCleaner_markSuperseded : Cond.selects "LogCleaner" y_LogCleaner_markSuperseded y_LogCleaner_markSuperseded ∈ TB := tb_s 2 (by decide +kernel) (by decide +kernel)
theorem g_sel_LogCleaner_moveDraftInto : Cond.selects "LogCleaner" y_LogCleaner_moveDraftInto y_LogCleaner_moveDraftInto ∈ TB := tb_s 1 (by decide +kernel) (by decide +kernel)
theorem g_sel_LogCleaner_packClosedSegments : Cond.selects "LogCleaner" y_LogCleaner_packClosedSegments y_LogCleaner_packClosedSegments ∈ TB := tb_s 9 (by decide +kernel) (by decide +kernel)
theorem g_sel_LogCleaner_removeEmptiedBatches : Cond.selects "LogCleaner" y_LogCleaner_removeEmptiedBatches y_LogCleaner_removeEmptiedBatches ∈ TB := tb_s 6 (by decide +kernel) (by decide +kernel)
theorem g_sel_LogCleaner_removeFirstSegments : Cond.selects "LogCleaner" y_LogCleaner_removeFirstSegments y_LogCleaner_removeFirstSegments ∈ TB := tb_s 10 (by decide +kernel) (by decide +kernel)
theorem g_sel_LogCleaner_removeGoneRecords : Cond.selects "LogCleaner" y_LogCleaner_removeGoneRecords y_LogCleaner_removeGoneRecords ∈ TB := tb_s 4 (by decide +kernel) (by decide +kernel)
theorem g_sel_Packing_place : Cond.selects "LogCleaner$Packing" y_Packing_place y_Packing_place ∈ TB := tb_t 268 (by decide +kernel) (by decide +kernel)
theorem g_st_Lib_Math_max_name : Cond.static Lib.Math.max.name ∈ TB := tb_t 209 (by decide +kernel) (by decide +kernel)
theorem g_st_Lib_Math_min_name : Cond.static Lib.Math.min.name ∈ TB := tb_t 319 (by decide +kernel) (by decide +kernel)
theorem g_st_LogCleanerModel_lowest : Cond.static y_LogCleanerModel_lowest ∈ TB := tb_t 450 (by decide +kernel) (by decide +kernel)
theorem g_st_LogCleaner_lowestBytes : Cond.static y_LogCleaner_lowestBytes ∈ TB := tb_t 155 (by decide +kernel) (by decide +kernel)
theorem k_Batch_15 : Cond.fieldLink "LogCleaner$Batch" 15 "LogCleaner$Batch" "segment" "I" ∈ TB := tb_t 220 (by decide +kernel) (by decide +kernel)
theorem k_Batch_18 : Cond.fieldLink "LogCleaner$Batch" 18 "LogCleaner$Batch" "base" "I" ∈ TB := tb_t 212 (by decide +kernel) (by decide +kernel)
theorem k_Batch_21 : Cond.fieldLink "LogCleaner$Batch" 21 "LogCleaner$Batch" "producer" "I" ∈ TB := tb_t 214 (by decide +kernel) (by decide +kernel)
theorem k_Batch_24 : Cond.methodLink "LogCleaner$Batch" 24 Lib.Math.max.name ∈ TB := tb_t 208 (by decide +kernel) (by decide +kernel)
theorem k_Batch_3 : Cond.methodLink "LogCleaner$Batch" 3 objectInit ∈ TB := tb_t 207 (by decide +kernel) (by decide +kernel)
theorem k_Batch_30c : Cond.classLink "LogCleaner$Batch" 30 "LogCleaner$Entry" ∈ TB := tb_t 211 (by decide +kernel) (by decide +kernel)
theorem k_Batch_32 : Cond.fieldLink "LogCleaner$Batch" 32 "LogCleaner$Batch" "entries" "[LLogCleaner$Entry;" ∈ TB := tb_t 216 (by decide +kernel) (by decide +kernel)
theorem k_Batch_36 : Cond.methodLink "LogCleaner$Batch" 36 y_Entry_sizeInBytes ∈ TB := tb_t 261 (by decide +kernel) (by decide +kernel)
theorem k_Batch_40 : Cond.fieldLink "LogCleaner$Batch" 40 "LogCleaner$Entry" "key" "J" ∈ TB := tb_t 163 (by decide +kernel) (by decide +kernel)
theorem k_Batch_44 : Cond.fieldLink "LogCleaner$Batch" 44 "LogCleaner$Entry" "keyBytes" "I" ∈ TB := tb_t 166 (by decide +kernel) (by decide +kernel)
theorem k_Batch_47 : Cond.methodLink "LogCleaner$Batch" 47 y_Entry_goes ∈ TB := tb_t 289 (by decide +kernel) (by decide +kernel)
theorem k_Batch_9 : Cond.fieldLink "LogCleaner$Batch" 9 "LogCleaner$Batch" "recordCount" "I" ∈ TB := tb_t 218 (by decide +kernel) (by decide +kernel)
theorem k_Entry_15 : Cond.fieldLink "LogCleaner$Entry" 15 "LogCleaner$Entry" "superseded" "Z" ∈ TB := tb_t 176 (by decide +kernel) (by decide +kernel)
theorem k_Entry_19 : Cond.fieldLink "LogCleaner$Entry" 19 "LogCleaner$Entry" "key" "J" ∈ TB := tb_t 162 (by decide +kernel) (by decide +kernel)
theorem k_Entry_23 : Cond.fieldLink "LogCleaner$Entry" 23 "LogCleaner$Entry" "keyBytes" "I" ∈ TB := tb_t 165 (by decide +kernel) (by decide +kernel)
theorem k_Entry_26 : Cond.fieldLink "LogCleaner$Entry" 26 "LogCleaner$Entry" "hasValue" "Z" ∈ TB := tb_t 168 (by decide +kernel) (by decide +kernel)
theorem k_Entry_29 : Cond.fieldLink "LogCleaner$Entry" 29 "LogCleaner$Entry" "value" "J" ∈ TB := tb_t 170 (by decide +kernel) (by decide +kernel)
theorem k_Entry_3 : Cond.methodLink "LogCleaner$Entry" 3 objectInit ∈ TB := tb_t 161 (by decide +kernel) (by decide +kernel)
theorem k_Entry_32 : Cond.fieldLink "LogCleaner$Entry" 32 "LogCleaner$Entry" "time" "I" ∈ TB := tb_t 172 (by decide +kernel) (by decide +kernel)
theorem k_Entry_35 : Cond.methodLink "LogCleaner$Entry" 35 y_Entry_hasKey ∈ TB := tb_t 265 (by decide +kernel) (by decide +kernel)
theorem k_Entry_9 : Cond.fieldLink "LogCleaner$Entry" 9 "LogCleaner$Entry" "offset" "I" ∈ TB := tb_t 174 (by decide +kernel) (by decide +kernel)
theorem k_LogCleanerModel_1 : Cond.methodLink "LogCleanerModel" 1 objectInit ∈ TB := tb_t 367 (by decide +kernel) (by decide +kernel)
theorem k_LogCleanerModel_100 : Cond.methodLink "LogCleanerModel" 100 y_LogCleanerModel_isKnown ∈ TB := tb_t 473 (by decide +kernel) (by decide +kernel)
theorem k_LogCleanerModel_103 : Cond.methodLink "LogCleanerModel" 103 y_LogCleanerModel_takeOut ∈ TB := tb_t 477 (by decide +kernel) (by decide +kernel)
theorem k_LogCleanerModel_107 : Cond.methodLink "LogCleanerModel" 107 y_LogCleanerModel_segments ∈ TB := tb_t 485 (by decide +kernel) (by decide +kernel)
theorem k_LogCleanerModel_110 : Cond.methodLink "LogCleanerModel" 110 y_LogCleanerModel_countOf ∈ TB := tb_t 497 (by decide +kernel) (by decide +kernel)
theorem k_LogCleanerModel_13 : Cond.fieldLink "LogCleanerModel" 13 "LogCleanerModel" "offset" "[I" ∈ TB := tb_t 371 (by decide +kernel) (by decide +kernel)
theorem k_LogCleanerModel_16 : Cond.fieldLink "LogCleanerModel" 16 "LogCleanerModel" "key" "[J" ∈ TB := tb_t 372 (by decide +kernel) (by decide +kernel)
theorem k_LogCleanerModel_20 : Cond.fieldLink "LogCleanerModel" 20 "LogCleanerModel" "keyBytes" "[I" ∈ TB := tb_t 373 (by decide +kernel) (by decide +kernel)
theorem k_LogCleanerModel_23 : Cond.fieldLink "LogCleanerModel" 23 "LogCleanerModel" "has" "[Z" ∈ TB := tb_t 374 (by decide +kernel) (by decide +kernel)
theorem k_LogCleanerModel_27 : Cond.fieldLink "LogCleanerModel" 27 "LogCleanerModel" "value" "[J" ∈ TB := tb_t 375 (by decide +kernel) (by decide +kernel)
theorem k_LogCleanerModel_30 : Cond.fieldLink "LogCleanerModel" 30 "LogCleanerModel" "time" "[I" ∈ TB := tb_t 376 (by decide +kernel) (by decide +kernel)
theorem k_LogCleanerModel_33 : Cond.fieldLink "LogCleanerModel" 33 "LogCleanerModel" "draftKey" "[J" ∈ TB := tb_t 379 (by decide +kernel) (by decide +kernel)
theorem k_LogCleanerModel_36 : Cond.fieldLink "LogCleanerModel" 36 "LogCleanerModel" "draftBytes" "[I" ∈ TB := tb_t 380 (by decide +kernel) (by decide +kernel)
theorem k_LogCleanerModel_39 : Cond.fieldLink "LogCleanerModel" 39 "LogCleanerModel" "draftHas" "[Z" ∈ TB := tb_t 381 (by decide +kernel) (by decide +kernel)
theorem k_LogCleanerModel_42 : Cond.fieldLink "LogCleanerModel" 42 "LogCleanerModel" "draftValue" "[J" ∈ TB := tb_t 382 (by decide +kernel) (by decide +kernel)
theorem k_LogCleanerModel_45 : Cond.fieldLink "LogCleanerModel" 45 "LogCleanerModel" "draftTime" "[I" ∈ TB := tb_t 383 (by decide +kernel) (by decide +kernel)
theorem k_LogCleanerModel_48 : Cond.fieldLink "LogCleanerModel" 48 "LogCleanerModel" "base" "[I" ∈ TB := tb_t 385 (by decide +kernel) (by decide +kernel)
theorem k_LogCleanerModel_51 : Cond.fieldLink "LogCleanerModel" 51 "LogCleanerModel" "producer" "[I" ∈ TB := tb_t 386 (by decide +kernel) (by decide +kernel)
theorem k_LogCleanerModel_54 : Cond.fieldLink "LogCleanerModel" 54 "LogCleanerModel" "segment" "[I" ∈ TB := tb_t 387 (by decide +kernel) (by decide +kernel)
theorem k_LogCleanerModel_57 : Cond.fieldLink "LogCleanerModel" 57 "LogCleanerModel" "goes" "[Z" ∈ TB := tb_t 388 (by decide +kernel) (by decide +kernel)
theorem k_LogCleanerModel_60 : Cond.fieldLink "LogCleanerModel" 60 "LogCleanerModel" "stays" "[Z" ∈ TB := tb_t 389 (by decide +kernel) (by decide +kernel)
theorem k_LogCleanerModel_63 : Cond.fieldLink "LogCleanerModel" 63 "LogCleanerModel" "number" "[I" ∈ TB := tb_t 390 (by decide +kernel) (by decide +kernel)
theorem k_LogCleanerModel_66 : Cond.fieldLink "LogCleanerModel" 66 "LogCleanerModel" "code" "I" ∈ TB := tb_t 368 (by decide +kernel) (by decide +kernel)
theorem k_LogCleanerModel_7 : Cond.fieldLink "LogCleanerModel" 7 "LogCleanerModel" "of" "[I" ∈ TB := tb_t 370 (by decide +kernel) (by decide +kernel)
theorem k_LogCleanerModel_70 : Cond.constantLong "LogCleanerModel" 70 255 ∈ TB := tb_t 452 (by decide +kernel) (by decide +kernel)
theorem k_LogCleanerModel_72 : Cond.fieldLink "LogCleanerModel" 72 "LogCleanerModel" "drafted" "I" ∈ TB := tb_t 378 (by decide +kernel) (by decide +kernel)
theorem k_LogCleanerModel_75 : Cond.fieldLink "LogCleanerModel" 75 "LogCleanerModel" "records" "I" ∈ TB := tb_t 369 (by decide +kernel) (by decide +kernel)
theorem k_LogCleanerModel_78 : Cond.methodLink "LogCleanerModel" 78 y_LogCleanerModel_lowest ∈ TB := tb_t 449 (by decide +kernel) (by decide +kernel)
theorem k_LogCleanerModel_82 : Cond.fieldLink "LogCleanerModel" 82 "LogCleanerModel" "batches" "I" ∈ TB := tb_t 384 (by decide +kernel) (by decide +kernel)
theorem k_LogCleanerModel_85 : Cond.fieldLink "LogCleanerModel" 85 "LogCleanerModel" "next" "I" ∈ TB := tb_t 377 (by decide +kernel) (by decide +kernel)
theorem k_LogCleanerModel_88 : Cond.methodLink "LogCleanerModel" 88 y_LogCleanerModel_sizeOf ∈ TB := tb_t 457 (by decide +kernel) (by decide +kernel)
theorem k_LogCleanerModel_92 : Cond.methodLink "LogCleanerModel" 92 y_LogCleanerModel_isClosed ∈ TB := tb_t 469 (by decide +kernel) (by decide +kernel)
theorem k_LogCleanerModel_96 : Cond.methodLink "LogCleanerModel" 96 y_LogCleanerModel_isOver ∈ TB := tb_t 465 (by decide +kernel) (by decide +kernel)
theorem k_LogCleaner_1 : Cond.methodLink "LogCleaner" 1 objectInit ∈ TB := tb_t 17 (by decide +kernel) (by decide +kernel)
theorem k_LogCleaner_102 : Cond.fieldLink "LogCleaner" 102 "LogCleaner$Packing" "lastSegment" "I" ∈ TB := tb_t 29 (by decide +kernel) (by decide +kernel)
theorem k_LogCleaner_105 : Cond.methodLink "LogCleaner" 105 Lib.Math.max.name ∈ TB := tb_t 317 (by decide +kernel) (by decide +kernel)
theorem k_LogCleaner_11 : Cond.fieldLink "LogCleaner" 11 "LogCleaner" "batches" "[LLogCleaner$Batch;" ∈ TB := tb_t 38 (by decide +kernel) (by decide +kernel)
theorem k_LogCleaner_111 : Cond.methodLink "LogCleaner" 111 Lib.Math.min.name ∈ TB := tb_t 318 (by decide +kernel) (by decide +kernel)
theorem k_LogCleaner_114 : Cond.methodLink "LogCleaner" 114 y_LogCleaner_removeFirstSegments ∈ TB := tb_t 321 (by decide +kernel) (by decide +kernel)
theorem k_LogCleaner_121 : Cond.fieldLink "LogCleaner" 121 "LogCleaner$Batch" "recordCount" "I" ∈ TB := tb_t 219 (by decide +kernel) (by decide +kernel)
theorem k_LogCleaner_122 : Cond.fieldLink "LogCleaner" 122 "LogCleaner$Batch" "producer" "I" ∈ TB := tb_t 215 (by decide +kernel) (by decide +kernel)
theorem k_LogCleaner_125 : Cond.methodLink "LogCleaner" 125 y_LogCleaner_isKnown ∈ TB := tb_t 297 (by decide +kernel) (by decide +kernel)
theorem k_LogCleaner_131 : Cond.methodLink "LogCleaner" 131 y_LogCleaner_entryAt ∈ TB := tb_t 349 (by decide +kernel) (by decide +kernel)
theorem k_LogCleaner_137 : Cond.fieldLink "LogCleaner" 137 "LogCleaner$Entry" "offset" "I" ∈ TB := tb_t 175 (by decide +kernel) (by decide +kernel)
theorem k_LogCleaner_140 : Cond.fieldLink "LogCleaner" 140 "LogCleaner$Entry" "keyBytes" "I" ∈ TB := tb_t 167 (by decide +kernel) (by decide +kernel)
theorem k_LogCleaner_143 : Cond.fieldLink "LogCleaner" 143 "LogCleaner$Entry" "key" "J" ∈ TB := tb_t 164 (by decide +kernel) (by decide +kernel)
theorem k_LogCleaner_147 : Cond.fieldLink "LogCleaner" 147 "LogCleaner$Entry" "value" "J" ∈ TB := tb_t 171 (by decide +kernel) (by decide +kernel)
theorem k_LogCleaner_15 : Cond.fieldLink "LogCleaner" 15 "LogCleaner" "batchCount" "I" ∈ TB := tb_t 39 (by decide +kernel) (by decide +kernel)
theorem k_LogCleaner_150 : Cond.fieldLink "LogCleaner" 150 "LogCleaner$Entry" "hasValue" "Z" ∈ TB := tb_t 169 (by decide +kernel) (by decide +kernel)
theorem k_LogCleaner_154 : Cond.fieldLink "LogCleaner" 154 "LogCleaner$Entry" "time" "I" ∈ TB := tb_t 173 (by decide +kernel) (by decide +kernel)
theorem k_LogCleaner_159 : Cond.methodLink "LogCleaner" 159 y_LogCleaner_latestWithKey ∈ TB := tb_t 245 (by decide +kernel) (by decide +kernel)
theorem k_LogCleaner_163 : Cond.methodLink "LogCleaner" 163 y_LogCleaner_markSuperseded ∈ TB := tb_t 237 (by decide +kernel) (by decide +kernel)
theorem k_LogCleaner_167 : Cond.methodLink "LogCleaner" 167 y_Batch_append ∈ TB := tb_t 253 (by decide +kernel) (by decide +kernel)
theorem k_LogCleaner_170 : Cond.methodLink "LogCleaner" 170 y_Entry_hasKey ∈ TB := tb_t 241 (by decide +kernel) (by decide +kernel)
theorem k_LogCleaner_174 : Cond.fieldLink "LogCleaner" 174 "LogCleaner$Entry" "superseded" "Z" ∈ TB := tb_t 177 (by decide +kernel) (by decide +kernel)
theorem k_LogCleaner_177 : Cond.methodLink "LogCleaner" 177 y_Batch_latestWithKey ∈ TB := tb_t 249 (by decide +kernel) (by decide +kernel)
theorem k_LogCleaner_178 : Cond.fieldLink "LogCleaner" 178 "LogCleaner$Batch" "entries" "[LLogCleaner$Entry;" ∈ TB := tb_t 217 (by decide +kernel) (by decide +kernel)
theorem k_LogCleaner_181 : Cond.methodLink "LogCleaner" 181 y_LogCleaner_isClosed ∈ TB := tb_t 281 (by decide +kernel) (by decide +kernel)
theorem k_LogCleaner_185 : Cond.methodLink "LogCleaner" 185 y_Batch_removeGone ∈ TB := tb_t 285 (by decide +kernel) (by decide +kernel)
theorem k_LogCleaner_188 : Cond.methodLink "LogCleaner" 188 y_LogCleaner_keepFirstBatches ∈ TB := tb_t 301 (by decide +kernel) (by decide +kernel)
theorem k_LogCleaner_19 : Cond.fieldLink "LogCleaner" 19 "LogCleaner" "recordCount" "I" ∈ TB := tb_t 40 (by decide +kernel) (by decide +kernel)
theorem k_LogCleaner_22 : Cond.fieldLink "LogCleaner" 22 "LogCleaner" "nextOffset" "I" ∈ TB := tb_t 41 (by decide +kernel) (by decide +kernel)
theorem k_LogCleaner_25c : Cond.classLink "LogCleaner" 25 "LogCleaner$Packing" ∈ TB := tb_t 22 (by decide +kernel) (by decide +kernel)
theorem k_LogCleaner_28 : Cond.fieldLink "LogCleaner" 28 "LogCleaner" "packing" "LLogCleaner$Packing;" ∈ TB := tb_t 42 (by decide +kernel) (by decide +kernel)
theorem k_LogCleaner_32c : Cond.classLink "LogCleaner" 32 "LogCleaner$Entry" ∈ TB := tb_t 36 (by decide +kernel) (by decide +kernel)
theorem k_LogCleaner_34 : Cond.fieldLink "LogCleaner" 34 "LogCleaner" "draft" "[LLogCleaner$Entry;" ∈ TB := tb_t 43 (by decide +kernel) (by decide +kernel)
theorem k_LogCleaner_38 : Cond.fieldLink "LogCleaner" 38 "LogCleaner" "draftCount" "I" ∈ TB := tb_t 44 (by decide +kernel) (by decide +kernel)
theorem k_LogCleaner_41c : Cond.classLink "LogCleaner" 41 "java/lang/IllegalArgumentException" ∈ TB := tb_t 69 (by decide +kernel) (by decide +kernel)
theorem k_LogCleaner_50c : Cond.classLink "LogCleaner" 50 "java/lang/IllegalStateException" ∈ TB := tb_t 137 (by decide +kernel) (by decide +kernel)
theorem k_LogCleaner_57 : Cond.methodLink "LogCleaner" 57 y_LogCleaner_lowestBytes ∈ TB := tb_t 154 (by decide +kernel) (by decide +kernel)
theorem k_LogCleaner_61 : Cond.methodLink "LogCleaner" 61 y_Entry_init ∈ TB := tb_t 158 (by decide +kernel) (by decide +kernel)
theorem k_LogCleaner_70 : Cond.methodLink "LogCleaner" 70 y_Batch_init ∈ TB := tb_t 204 (by decide +kernel) (by decide +kernel)
theorem k_LogCleaner_73 : Cond.methodLink "LogCleaner" 73 y_LogCleaner_moveDraftInto ∈ TB := tb_t 233 (by decide +kernel) (by decide +kernel)
theorem k_LogCleaner_77 : Cond.methodLink "LogCleaner" 77 y_Batch_sizeInBytes ∈ TB := tb_t 257 (by decide +kernel) (by decide +kernel)
theorem k_LogCleaner_81 : Cond.methodLink "LogCleaner" 81 y_Packing_place ∈ TB := tb_t 266 (by decide +kernel) (by decide +kernel)
theorem k_LogCleaner_85 : Cond.fieldLink "LogCleaner" 85 "LogCleaner$Batch" "segment" "I" ∈ TB := tb_t 221 (by decide +kernel) (by decide +kernel)
theorem k_LogCleaner_88 : Cond.fieldLink "LogCleaner" 88 "LogCleaner$Batch" "base" "I" ∈ TB := tb_t 213 (by decide +kernel) (by decide +kernel)
theorem k_LogCleaner_91 : Cond.methodLink "LogCleaner" 91 y_LogCleaner_removeGoneRecords ∈ TB := tb_t 277 (by decide +kernel) (by decide +kernel)
theorem k_LogCleaner_94 : Cond.methodLink "LogCleaner" 94 y_LogCleaner_removeEmptiedBatches ∈ TB := tb_t 293 (by decide +kernel) (by decide +kernel)
theorem k_LogCleaner_97 : Cond.methodLink "LogCleaner" 97 y_LogCleaner_packClosedSegments ∈ TB := tb_t 305 (by decide +kernel) (by decide +kernel)
theorem k_LogCleaner_9c : Cond.classLink "LogCleaner" 9 "LogCleaner$Batch" ∈ TB := tb_t 20 (by decide +kernel) (by decide +kernel)
theorem k_Packing_15 : Cond.fieldLink "LogCleaner$Packing" 15 "LogCleaner$Packing" "lastFilled" "I" ∈ TB := tb_t 30 (by decide +kernel) (by decide +kernel)
theorem k_Packing_3 : Cond.methodLink "LogCleaner$Packing" 3 objectInit ∈ TB := tb_t 27 (by decide +kernel) (by decide +kernel)
theorem k_Packing_9 : Cond.fieldLink "LogCleaner$Packing" 9 "LogCleaner$Packing" "lastSegment" "I" ∈ TB := tb_t 28 (by decide +kernel) (by decide +kernel)
theorem at_LogCleaner_45 : ∀ w ∈ vx_atS R_LogCleaner 45 "java/lang/IllegalArgumentException" ["java/lang/RuntimeException", "java/lang/Exception"], w ∈ TB ∨ w ∈ NB := by decide +kernel
theorem at_LogCleaner_45_ok : ∀ w ∈ vx_atS R_LogCleaner 45 "java/lang/IllegalArgumentException" ["java/lang/RuntimeException", "java/lang/Exception"], vx_ot w = true := by decide +kernel
theorem at_LogCleaner_54 : ∀ w ∈ vx_atS R_LogCleaner 54 "java/lang/IllegalStateException" ["java/lang/RuntimeException", "java/lang/Exception"], w ∈ TB ∨ w ∈ NB := by decide +kernel
theorem at_LogCleaner_54_ok : ∀ w ∈ vx_atS R_LogCleaner 54 "java/lang/IllegalStateException" ["java/lang/RuntimeException", "java/lang/Exception"], vx_ot w = true := by decide +kernel
def xstrs : List (String × Nat × String) := [("LogCleaner", 43, "keyBytes are not -1 .. 8"), ("LogCleaner", 55, "the log and the draft have 4000 records"), ("LogCleaner", 52, "the draft has 100 records"), ("LogCleaner", 48, "time is below 0"), ("LogCleaner", 68, "there are 400 batches"), ("LogCleaner", 66, "the draft is empty"), ("LogCleaner", 64, "the producer is below -1"), ("LogCleaner", 100, "n is not 0 .. 400"), ("LogCleaner", 117, "what is not 0 .. 4"), ("LogCleaner", 119, "there is no such batch"), ("LogCleaner", 129, "what is not 0 .. 5"), ("LogCleaner", 135, "there is no such record"), ("LogCleaner", 157, "keyBytes are not 0 .. 8")]
