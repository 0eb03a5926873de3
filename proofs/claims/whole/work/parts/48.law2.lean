def R_law : String := "LogCleanerLaw"
def lw_P (b : Addr) (xs : List Int32) (args : Array Value) (s : State) : Prop := args = #[.ref b] ∧ s.IntsAt b xs ∧ xs.length ≤ 4096 ∧ (Jvm.Cond.and given_1 narrow_1).before args s = true
/-- what the walk needs of the claim's room: the room's own numbers are a measure of a machine, and differ from turn to turn -/
theorem lw_rc : 1100 ≤ room_1.cells := Nat.le_of_ble_eq_true rfl
theorem lw_rs : 90000 ≤ room_1.slots := Nat.le_of_ble_eq_true rfl
def lw_Q (_ : Array Value) (s : State) (o : Outcome) (t : State) : Prop := o = .returned (some (.int 1)) ∧ Framed s o t [] room_1.cells room_1.slots
def lw_Z (below : List Frame) (a : Array Value) (s : State) : State → Prop := fun t => ∃ o, t.status = .running ∧ Ended t below o ∧ lw_Q a s o t
/-- the law's own end, with 1 on the stack, nothing written that was there before, its room as the claim has it -/
theorem lw_ret {p : Program} {l : Launch} {e : Env} {s : State} {m : MethodId} {below : List Frame} {meth : Method} {c : Code} {b : Nat} (hx : p.tables.exec = Jvm.exec) (hb : c.code = code) (hr : meth.sig.returnType = ret) (hlocks : meth.locks = false) {pc : Nat} {H : Heap} {ls : Array Slot} (hdg : decode code pc = .ok (.ireturn, 1)) : W p l e room_1 s m #[Value.ref b] below meth c H [] room_1.cells room_1.slots (lw_Z below #[Value.ref b] s) (F0 m pc ls [.int 1]) := by
  intro T hT X
  obtain ⟨fs, hret, hrun, hended, hW, hframe⟩ := X.leave (v := some (.int 1)) (hlocks := hlocks) (fun h => by rw [hr] at h; cases h)
  have hmeth' : T.vm.method? m = some meth := X.method'
  refine ⟨T.setFrames fs, ?_, .returned (some (.int 1)), hrun, hended, rfl, ⟨_, rfl⟩, hW, hframe⟩
  jvm_step X.here [X.here.top, hx, hb, hdg, hmeth', hr, ret, narrow_b1]
  (try refine ⟨rfl, ?_⟩); (try refine ⟨rfl, ?_⟩)
  first | (intro acts; rw [hret _ acts rfl rfl rfl]) | rw [hret _ _ rfl rfl rfl]
  exact Steps.refl _
/-- what holds at the law's entry: the machine, the code, the tables' words (any of lw_tbl by 'hts w (by decide +kernel)'), the script of L ints xs at the cell b, what the Statement gives of the start (any of its parts by flat_of_before) -/
def lw_At (p : Program) (s : State) (m : MethodId) (meth : Method) (c : Code) (b L : Nat) (xs : Nat → Int32) : Prop :=
  p.tables.exec = Jvm.exec ∧ c.code = code ∧ meth.sig.returnType = ret ∧ c.maxLocals = 8 ∧ s.vm.findClass R_law = some m.cls ∧ (∀ w ∈ lw_tbl, w.before #[Value.ref b] s = true) ∧ va_X b L xs s s.heap ∧ b < s.heap.size ∧ meth.locks = false ∧ (Jvm.Cond.and given_1 narrow_1).before #[Value.ref b] s = true
def lawC (p : Program) (l : Launch) (s : State) (m : MethodId) (meth : Method) (c : Code) (b L : Nat) (xs : Nat → Int32) (D : va_G) (d : Nat → ClassId) : Prop := lw_At p s m meth c b L xs ∧ L ≤ 4096 ∧ va_K D vwCl (TYS d) s ∧ xN s ∧ l.stackTraces = false ∧ vx_Zq Bundle.tN "UNASSIGNED_STACK" Bundle.steD (fun q : Nat => s.heap.size ≤ q) s s.heap ∧ vx_Zq Bundle.tN "SUPPRESSED_SENTINEL" Bundle.listD (fun q : Nat => s.heap.size ≤ q) s s.heap ∧ xStr s ∧ xNc s
theorem g_code_LogCleanerModel_batch : Cond.code y_LogCleanerModel_batch b_LogCleanerModel_batch 3 (some .int) ∈ TB := tb_t 496 (by decide +kernel) (by decide +kernel)
theorem g_code_LogCleanerModel_clean : Cond.code y_LogCleanerModel_clean b_LogCleanerModel_clean 10 (some .int) ∈ TB := tb_t 464 (by decide +kernel) (by decide +kernel)
theorem g_code_LogCleanerModel_close : Cond.code y_LogCleanerModel_close b_LogCleanerModel_close 5 (some .int) ∈ TB := tb_t 456 (by decide +kernel) (by decide +kernel)
theorem g_code_LogCleanerModel_count : Cond.code y_LogCleanerModel_count b_LogCleanerModel_count 2 (some .int) ∈ TB := tb_t 492 (by decide +kernel) (by decide +kernel)
theorem g_code_LogCleanerModel_drop : Cond.code y_LogCleanerModel_drop b_LogCleanerModel_drop 6 (some .int) ∈ TB := tb_t 484 (by decide +kernel) (by decide +kernel)
theorem g_code_LogCleanerModel_init : Cond.code y_LogCleanerModel_init b_LogCleanerModel_init 1 none ∈ TB := tb_t 366 (by decide +kernel) (by decide +kernel)
theorem g_code_LogCleanerModel_latest : Cond.code y_LogCleanerModel_latest b_LogCleanerModel_latest 5 (some .int) ∈ TB := tb_t 508 (by decide +kernel) (by decide +kernel)
theorem g_code_LogCleanerModel_record : Cond.code y_LogCleanerModel_record b_LogCleanerModel_record 8 (some .int) ∈ TB := tb_t 448 (by decide +kernel) (by decide +kernel)
theorem g_code_LogCleanerModel_thrown : Cond.code y_LogCleanerModel_thrown b_LogCleanerModel_thrown 1 (some .int) ∈ TB := tb_t 444 (by decide +kernel) (by decide +kernel)
theorem g_code_LogCleanerModel_told : Cond.code y_LogCleanerModel_told b_LogCleanerModel_told 3 (some .long) ∈ TB := tb_t 504 (by decide +kernel) (by decide +kernel)
theorem g_code_LogCleaner_init : Cond.code y_LogCleaner_init b_LogCleaner_init 1 none ∈ TB := tb_t 16 (by decide +kernel) (by decide +kernel)
theorem g_im_LogCleanerModel_batch : Cond.instanceMethod y_LogCleanerModel_batch ∈ TB := tb_t 494 (by decide +kernel) (by decide +kernel)
theorem g_im_LogCleanerModel_clean : Cond.instanceMethod y_LogCleanerModel_clean ∈ TB := tb_t 462 (by decide +kernel) (by decide +kernel)
theorem g_im_LogCleanerModel_close : Cond.instanceMethod y_LogCleanerModel_close ∈ TB := tb_t 454 (by decide +kernel) (by decide +kernel)
theorem g_im_LogCleanerModel_count : Cond.instanceMethod y_LogCleanerModel_count ∈ TB := tb_t 490 (by decide +kernel) (by decide +kernel)
theorem g_im_LogCleanerModel_drop : Cond.instanceMethod y_LogCleanerModel_drop ∈ TB := tb_t 482 (by decide +kernel) (by decide +kernel)
theorem g_im_LogCleanerModel_init : Cond.instanceMethod y_LogCleanerModel_init ∈ TB := tb_t 365 (by decide +kernel) (by decide +kernel)
theorem g_im_LogCleanerModel_latest : Cond.instanceMethod y_LogCleanerModel_latest ∈ TB := tb_t 506 (by decide +kernel) (by decide +kernel)
theorem g_im_LogCleanerModel_record : Cond.instanceMethod y_LogCleanerModel_record ∈ TB := tb_t 446 (by decide +kernel) (by decide +kernel)
theorem g_im_LogCleanerModel_thrown : Cond.instanceMethod y_LogCleanerModel_thrown ∈ TB := tb_t 442 (by decide +kernel) (by decide +kernel)
theorem g_im_LogCleanerModel_told : Cond.instanceMethod y_LogCleanerModel_told ∈ TB := tb_t 502 (by decide +kernel) (by decide +kernel)
theorem g_im_LogCleaner_init : Cond.instanceMethod y_LogCleaner_init ∈ TB := tb_t 15 (by decide +kernel) (by decide +kernel)
theorem g_ini_LogCleanerLaw : Cond.initialized "LogCleanerLaw" ∈ TB := tb_t 0 (by decide +kernel) (by decide +kernel)
theorem g_inst_LogCleaner : Cond.instantiable "LogCleaner" 7 ∈ TB := tb_t 13 (by decide +kernel) (by decide +kernel)
theorem g_inst_LogCleanerModel : Cond.instantiable "LogCleanerModel" 23 ∈ TB := tb_t 363 (by decide +kernel) (by decide +kernel)
theorem g_sel_LogCleanerModel_batch : Cond.selects "LogCleanerModel" y_LogCleanerModel_batch y_LogCleanerModel_batch ∈ TB := tb_t 495 (by decide +kernel) (by decide +kernel)
theorem g_sel_LogCleanerModel_clean : Cond.selects "LogCleanerModel" y_LogCleanerModel_clean y_LogCleanerModel_clean ∈ TB := tb_t 463 (by decide +kernel) (by decide +kernel)
theorem g_sel_LogCleanerModel_close : Cond.selects "LogCleanerModel" y_LogCleanerModel_close y_LogCleanerModel_close ∈ TB := tb_t 455 (by decide +kernel) (by decide +kernel)
theorem g_sel_LogCleanerModel_count : Cond.selects "LogCleanerModel" y_LogCleanerModel_count y_LogCleanerModel_count ∈ TB := tb_t 491 (by decide +kernel) (by decide +kernel)
theorem g_sel_LogCleanerModel_drop : Cond.selects "LogCleanerModel" y_LogCleanerModel_drop y_LogCleanerModel_drop ∈ TB := tb_t 483 (by decide +kernel) (by decide +kernel)
theorem g_sel_LogCleanerModel_latest : Cond.selects "LogCleanerModel" y_LogCleanerModel_latest y_LogCleanerModel_latest ∈ TB := tb_t 507 (by decide +kernel) (by decide +kernel)
theorem g_sel_LogCleanerModel_record : Cond.selects "LogCleanerModel" y_LogCleanerModel_record y_LogCleanerModel_record ∈ TB := tb_t 447 (by decide +kernel) (by decide +kernel)
theorem g_sel_LogCleanerModel_thrown : Cond.selects "LogCleanerModel" y_LogCleanerModel_thrown y_LogCleanerModel_thrown ∈ TB := tb_t 443 (by decide +kernel) (by decide +kernel)
theorem g_sel_LogCleanerModel_told : Cond.selects "LogCleanerModel" y_LogCleanerModel_told y_LogCleanerModel_told ∈ TB := tb_t 503 (by decide +kernel) (by decide +kernel)
theorem g_st_LogCleanerLaw_batch : Cond.static y_LogCleanerLaw_batch ∈ TB := tb_t 334 (by decide +kernel) (by decide +kernel)
theorem g_st_LogCleanerLaw_clean : Cond.static y_LogCleanerLaw_clean ∈ TB := tb_t 271 (by decide +kernel) (by decide +kernel)
theorem g_st_LogCleanerLaw_close : Cond.static y_LogCleanerLaw_close ∈ TB := tb_t 194 (by decide +kernel) (by decide +kernel)
theorem g_st_LogCleanerLaw_count : Cond.static y_LogCleanerLaw_count ∈ TB := tb_t 326 (by decide +kernel) (by decide +kernel)
theorem g_st_LogCleanerLaw_drop : Cond.static y_LogCleanerLaw_drop ∈ TB := tb_t 310 (by decide +kernel) (by decide +kernel)
theorem g_st_LogCleanerLaw_latest : Cond.static y_LogCleanerLaw_latest ∈ TB := tb_t 355 (by decide +kernel) (by decide +kernel)
theorem g_st_LogCleanerLaw_record : Cond.static y_LogCleanerLaw_record ∈ TB := tb_t 61 (by decide +kernel) (by decide +kernel)
theorem g_st_LogCleanerLaw_told : Cond.static y_LogCleanerLaw_told ∈ TB := tb_t 343 (by decide +kernel) (by decide +kernel)
theorem k_LogCleanerLaw_42 : Cond.methodLink "LogCleanerLaw" 42 y_LogCleaner_init ∈ TB := tb_t 14 (by decide +kernel) (by decide +kernel)
theorem k_LogCleanerLaw_43c : Cond.classLink "LogCleanerLaw" 43 "LogCleanerModel" ∈ TB := tb_t 362 (by decide +kernel) (by decide +kernel)
theorem k_LogCleanerLaw_45 : Cond.methodLink "LogCleanerLaw" 45 y_LogCleanerModel_init ∈ TB := tb_t 364 (by decide +kernel) (by decide +kernel)
theorem k_LogCleanerLaw_46 : Cond.constantLong "LogCleanerLaw" 46 4294967295 ∈ TB := tb_t 509 (by decide +kernel) (by decide +kernel)
theorem k_LogCleanerLaw_48 : Cond.methodLink "LogCleanerLaw" 48 y_LogCleanerLaw_record ∈ TB := tb_t 60 (by decide +kernel) (by decide +kernel)
theorem k_LogCleanerLaw_53 : Cond.methodLink "LogCleanerLaw" 53 y_LogCleanerModel_record ∈ TB := tb_t 445 (by decide +kernel) (by decide +kernel)
theorem k_LogCleanerLaw_54 : Cond.methodLink "LogCleanerLaw" 54 y_LogCleanerModel_thrown ∈ TB := tb_t 441 (by decide +kernel) (by decide +kernel)
theorem k_LogCleanerLaw_58 : Cond.methodLink "LogCleanerLaw" 58 y_LogCleanerLaw_close ∈ TB := tb_t 193 (by decide +kernel) (by decide +kernel)
theorem k_LogCleanerLaw_61 : Cond.methodLink "LogCleanerLaw" 61 y_LogCleanerModel_close ∈ TB := tb_t 453 (by decide +kernel) (by decide +kernel)
theorem k_LogCleanerLaw_62 : Cond.methodLink "LogCleanerLaw" 62 y_LogCleanerLaw_clean ∈ TB := tb_t 270 (by decide +kernel) (by decide +kernel)
theorem k_LogCleanerLaw_64 : Cond.methodLink "LogCleanerLaw" 64 y_LogCleanerModel_clean ∈ TB := tb_t 461 (by decide +kernel) (by decide +kernel)
theorem k_LogCleanerLaw_65 : Cond.methodLink "LogCleanerLaw" 65 y_LogCleanerLaw_drop ∈ TB := tb_t 309 (by decide +kernel) (by decide +kernel)
theorem k_LogCleanerLaw_67 : Cond.methodLink "LogCleanerLaw" 67 y_LogCleanerModel_drop ∈ TB := tb_t 481 (by decide +kernel) (by decide +kernel)
theorem k_LogCleanerLaw_68 : Cond.methodLink "LogCleanerLaw" 68 y_LogCleanerLaw_count ∈ TB := tb_t 325 (by decide +kernel) (by decide +kernel)
theorem k_LogCleanerLaw_70 : Cond.methodLink "LogCleanerLaw" 70 y_LogCleanerModel_count ∈ TB := tb_t 489 (by decide +kernel) (by decide +kernel)
theorem k_LogCleanerLaw_71 : Cond.methodLink "LogCleanerLaw" 71 y_LogCleanerLaw_batch ∈ TB := tb_t 333 (by decide +kernel) (by decide +kernel)
theorem k_LogCleanerLaw_74 : Cond.methodLink "LogCleanerLaw" 74 y_LogCleanerModel_batch ∈ TB := tb_t 493 (by decide +kernel) (by decide +kernel)
theorem k_LogCleanerLaw_75 : Cond.methodLink "LogCleanerLaw" 75 y_LogCleanerLaw_told ∈ TB := tb_t 342 (by decide +kernel) (by decide +kernel)
theorem k_LogCleanerLaw_77 : Cond.methodLink "LogCleanerLaw" 77 y_LogCleanerModel_told ∈ TB := tb_t 501 (by decide +kernel) (by decide +kernel)
theorem k_LogCleanerLaw_78 : Cond.methodLink "LogCleanerLaw" 78 y_LogCleanerLaw_latest ∈ TB := tb_t 354 (by decide +kernel) (by decide +kernel)
theorem k_LogCleanerLaw_81 : Cond.methodLink "LogCleanerLaw" 81 y_LogCleanerModel_latest ∈ TB := tb_t 505 (by decide +kernel) (by decide +kernel)
theorem k_LogCleanerLaw_8c : Cond.classLink "LogCleanerLaw" 8 "LogCleaner" ∈ TB := tb_t 12 (by decide +kernel) (by decide +kernel)
theorem d_LogCleanerLaw_law_0 : decode b_LogCleanerLaw_law 0 = .ok (.new 8, 3) := by decide +kernel
theorem d_LogCleanerLaw_law_3 : decode b_LogCleanerLaw_law 3 = .ok (.dup, 1) := by decide +kernel
theorem d_LogCleanerLaw_law_4 : decode b_LogCleanerLaw_law 4 = .ok (.invokespecial 42, 3) := by decide +kernel
theorem d_LogCleanerLaw_law_7 : decode b_LogCleanerLaw_law 7 = .ok (.astore_n 1, 1) := by decide +kernel
theorem d_LogCleanerLaw_law_8 : decode b_LogCleanerLaw_law 8 = .ok (.new 43, 3) := by decide +kernel
theorem d_LogCleanerLaw_law_11 : decode b_LogCleanerLaw_law 11 = .ok (.dup, 1) := by decide +kernel
theorem d_LogCleanerLaw_law_12 : decode b_LogCleanerLaw_law 12 = .ok (.invokespecial 45, 3) := by decide +kernel
theorem d_LogCleanerLaw_law_15 : decode b_LogCleanerLaw_law 15 = .ok (.astore_n 2, 1) := by decide +kernel
theorem d_LogCleanerLaw_law_16 : decode b_LogCleanerLaw_law 16 = .ok (.iconst 1, 1) := by decide +kernel
theorem d_LogCleanerLaw_law_17 : decode b_LogCleanerLaw_law 17 = .ok (.newarray .long, 2) := by decide +kernel
theorem d_LogCleanerLaw_law_19 : decode b_LogCleanerLaw_law 19 = .ok (.astore_n 3, 1) := by decide +kernel
theorem d_LogCleanerLaw_law_20 : decode b_LogCleanerLaw_law 20 = .ok (.iconst 0, 1) := by decide +kernel
theorem d_LogCleanerLaw_law_21 : decode b_LogCleanerLaw_law 21 = .ok (.istore 4, 2) := by decide +kernel
theorem d_LogCleanerLaw_law_23 : decode b_LogCleanerLaw_law 23 = .ok (.iload 4, 2) := by decide +kernel
theorem d_LogCleanerLaw_law_25 : decode b_LogCleanerLaw_law 25 = .ok (.aload_n 0, 1) := by decide +kernel
theorem d_LogCleanerLaw_law_26 : decode b_LogCleanerLaw_law 26 = .ok (.arraylength, 1) := by decide +kernel
theorem d_LogCleanerLaw_law_27 : decode b_LogCleanerLaw_law 27 = .ok (.bipush 8, 2) := by decide +kernel
theorem d_LogCleanerLaw_law_29 : decode b_LogCleanerLaw_law 29 = .ok (.isub, 1) := by decide +kernel
theorem d_LogCleanerLaw_law_30 : decode b_LogCleanerLaw_law 30 = .ok (.if_icmp .gt 711, 3) := by decide +kernel
theorem d_LogCleanerLaw_law_33 : decode b_LogCleanerLaw_law 33 = .ok (.aload_n 0, 1) := by decide +kernel
theorem d_LogCleanerLaw_law_34 : decode b_LogCleanerLaw_law 34 = .ok (.iload 4, 2) := by decide +kernel
theorem d_LogCleanerLaw_law_36 : decode b_LogCleanerLaw_law 36 = .ok (.iaload, 1) := by decide +kernel
theorem d_LogCleanerLaw_law_37 : decode b_LogCleanerLaw_law 37 = .ok (.bipush 7, 2) := by decide +kernel
theorem d_LogCleanerLaw_law_39 : decode b_LogCleanerLaw_law 39 = .ok (.iand, 1) := by decide +kernel
theorem d_LogCleanerLaw_law_40 : decode b_LogCleanerLaw_law 40 = .ok (.tableswitch 695 0 7 #[48, 236, 292, 348, 404, 460, 528, 595], 48) := by decide +kernel
theorem d_LogCleanerLaw_law_88 : decode b_LogCleanerLaw_law 88 = .ok (.aload_n 1, 1) := by decide +kernel
theorem d_LogCleanerLaw_law_89 : decode b_LogCleanerLaw_law 89 = .ok (.aload_n 0, 1) := by decide +kernel
theorem d_LogCleanerLaw_law_90 : decode b_LogCleanerLaw_law 90 = .ok (.iload 4, 2) := by decide +kernel
theorem d_LogCleanerLaw_law_92 : decode b_LogCleanerLaw_law 92 = .ok (.iconst 1, 1) := by decide +kernel
theorem d_LogCleanerLaw_law_93 : decode b_LogCleanerLaw_law 93 = .ok (.iadd, 1) := by decide +kernel
theorem d_LogCleanerLaw_law_94 : decode b_LogCleanerLaw_law 94 = .ok (.iaload, 1) := by decide +kernel
theorem d_LogCleanerLaw_law_95 : decode b_LogCleanerLaw_law 95 = .ok (.i2l, 1) := by decide +kernel
theorem d_LogCleanerLaw_law_96 : decode b_LogCleanerLaw_law 96 = .ok (.bipush 32, 2) := by decide +kernel
theorem d_LogCleanerLaw_law_98 : decode b_LogCleanerLaw_law 98 = .ok (.lshl, 1) := by decide +kernel
theorem d_LogCleanerLaw_law_99 : decode b_LogCleanerLaw_law 99 = .ok (.aload_n 0, 1) := by decide +kernel
theorem d_LogCleanerLaw_law_100 : decode b_LogCleanerLaw_law 100 = .ok (.iload 4, 2) := by decide +kernel
theorem d_LogCleanerLaw_law_102 : decode b_LogCleanerLaw_law 102 = .ok (.iconst 2, 1) := by decide +kernel
theorem d_LogCleanerLaw_law_103 : decode b_LogCleanerLaw_law 103 = .ok (.iadd, 1) := by decide +kernel
theorem d_LogCleanerLaw_law_104 : decode b_LogCleanerLaw_law 104 = .ok (.iaload, 1) := by decide +kernel
theorem d_LogCleanerLaw_law_105 : decode b_LogCleanerLaw_law 105 = .ok (.i2l, 1) := by decide +kernel
theorem d_LogCleanerLaw_law_106 : decode b_LogCleanerLaw_law 106 = .ok (.ldc2_w 46, 3) := by decide +kernel
theorem d_LogCleanerLaw_law_109 : decode b_LogCleanerLaw_law 109 = .ok (.land, 1) := by decide +kernel
theorem d_LogCleanerLaw_law_110 : decode b_LogCleanerLaw_law 110 = .ok (.lor, 1) := by decide +kernel
theorem d_LogCleanerLaw_law_111 : decode b_LogCleanerLaw_law 111 = .ok (.aload_n 0, 1) := by decide +kernel
theorem d_LogCleanerLaw_law_112 : decode b_LogCleanerLaw_law 112 = .ok (.iload 4, 2) := by decide +kernel
theorem d_LogCleanerLaw_law_114 : decode b_LogCleanerLaw_law 114 = .ok (.iconst 3, 1) := by decide +kernel
theorem d_LogCleanerLaw_law_115 : decode b_LogCleanerLaw_law 115 = .ok (.iadd, 1) := by decide +kernel
theorem d_LogCleanerLaw_law_116 : decode b_LogCleanerLaw_law 116 = .ok (.iaload, 1) := by decide +kernel
theorem d_LogCleanerLaw_law_117 : decode b_LogCleanerLaw_law 117 = .ok (.aload_n 0, 1) := by decide +kernel
theorem d_LogCleanerLaw_law_118 : decode b_LogCleanerLaw_law 118 = .ok (.iload 4, 2) := by decide +kernel
theorem d_LogCleanerLaw_law_120 : decode b_LogCleanerLaw_law 120 = .ok (.iconst 4, 1) := by decide +kernel
theorem d_LogCleanerLaw_law_121 : decode b_LogCleanerLaw_law 121 = .ok (.iadd, 1) := by decide +kernel
theorem d_LogCleanerLaw_law_122 : decode b_LogCleanerLaw_law 122 = .ok (.iaload, 1) := by decide +kernel
theorem d_LogCleanerLaw_law_123 : decode b_LogCleanerLaw_law 123 = .ok (.ifCond .eq 7, 3) := by decide +kernel
theorem d_LogCleanerLaw_law_126 : decode b_LogCleanerLaw_law 126 = .ok (.iconst 1, 1) := by decide +kernel
theorem d_LogCleanerLaw_law_127 : decode b_LogCleanerLaw_law 127 = .ok (.goto 4, 3) := by decide +kernel
theorem d_LogCleanerLaw_law_130 : decode b_LogCleanerLaw_law 130 = .ok (.iconst 0, 1) := by decide +kernel
theorem d_LogCleanerLaw_law_131 : decode b_LogCleanerLaw_law 131 = .ok (.aload_n 0, 1) := by decide +kernel
theorem d_LogCleanerLaw_law_132 : decode b_LogCleanerLaw_law 132 = .ok (.iload 4, 2) := by decide +kernel
theorem d_LogCleanerLaw_law_134 : decode b_LogCleanerLaw_law 134 = .ok (.iconst 5, 1) := by decide +kernel
theorem d_LogCleanerLaw_law_135 : decode b_LogCleanerLaw_law 135 = .ok (.iadd, 1) := by decide +kernel
theorem d_LogCleanerLaw_law_136 : decode b_LogCleanerLaw_law 136 = .ok (.iaload, 1) := by decide +kernel
theorem d_LogCleanerLaw_law_137 : decode b_LogCleanerLaw_law 137 = .ok (.i2l, 1) := by decide +kernel
theorem d_LogCleanerLaw_law_138 : decode b_LogCleanerLaw_law 138 = .ok (.bipush 32, 2) := by decide +kernel
theorem d_LogCleanerLaw_law_140 : decode b_LogCleanerLaw_law 140 = .ok (.lshl, 1) := by decide +kernel
theorem d_LogCleanerLaw_law_141 : decode b_LogCleanerLaw_law 141 = .ok (.aload_n 0, 1) := by decide +kernel
theorem d_LogCleanerLaw_law_142 : decode b_LogCleanerLaw_law 142 = .ok (.iload 4, 2) := by decide +kernel
theorem d_LogCleanerLaw_law_144 : decode b_LogCleanerLaw_law 144 = .ok (.bipush 6, 2) := by decide +kernel
theorem d_LogCleanerLaw_law_146 : decode b_LogCleanerLaw_law 146 = .ok (.iadd, 1) := by decide +kernel
theorem d_LogCleanerLaw_law_147 : decode b_LogCleanerLaw_law 147 = .ok (.iaload, 1) := by decide +kernel
theorem d_LogCleanerLaw_law_148 : decode b_LogCleanerLaw_law 148 = .ok (.i2l, 1) := by decide +kernel
theorem d_LogCleanerLaw_law_149 : decode b_LogCleanerLaw_law 149 = .ok (.ldc2_w 46, 3) := by decide +kernel
theorem d_LogCleanerLaw_law_152 : decode b_LogCleanerLaw_law 152 = .ok (.land, 1) := by decide +kernel
theorem d_LogCleanerLaw_law_153 : decode b_LogCleanerLaw_law 153 = .ok (.lor, 1) := by decide +kernel
theorem d_LogCleanerLaw_law_154 : decode b_LogCleanerLaw_law 154 = .ok (.aload_n 0, 1) := by decide +kernel
theorem d_LogCleanerLaw_law_155 : decode b_LogCleanerLaw_law 155 = .ok (.iload 4, 2) := by decide +kernel
theorem d_LogCleanerLaw_law_157 : decode b_LogCleanerLaw_law 157 = .ok (.bipush 7, 2) := by decide +kernel
theorem d_LogCleanerLaw_law_159 : decode b_LogCleanerLaw_law 159 = .ok (.iadd, 1) := by decide +kernel
theorem d_LogCleanerLaw_law_160 : decode b_LogCleanerLaw_law 160 = .ok (.iaload, 1) := by decide +kernel
theorem d_LogCleanerLaw_law_161 : decode b_LogCleanerLaw_law 161 = .ok (.aload_n 3, 1) := by decide +kernel
theorem d_LogCleanerLaw_law_162 : decode b_LogCleanerLaw_law 162 = .ok (.invokestatic 48, 3) := by decide +kernel
theorem d_LogCleanerLaw_law_165 : decode b_LogCleanerLaw_law 165 = .ok (.istore 5, 2) := by decide +kernel
theorem d_LogCleanerLaw_law_167 : decode b_LogCleanerLaw_law 167 = .ok (.aload_n 2, 1) := by decide +kernel
theorem d_LogCleanerLaw_law_168 : decode b_LogCleanerLaw_law 168 = .ok (.aload_n 0, 1) := by decide +kernel
theorem d_LogCleanerLaw_law_169 : decode b_LogCleanerLaw_law 169 = .ok (.iload 4, 2) := by decide +kernel
theorem d_LogCleanerLaw_law_171 : decode b_LogCleanerLaw_law 171 = .ok (.iconst 1, 1) := by decide +kernel
theorem d_LogCleanerLaw_law_172 : decode b_LogCleanerLaw_law 172 = .ok (.iadd, 1) := by decide +kernel
theorem d_LogCleanerLaw_law_173 : decode b_LogCleanerLaw_law 173 = .ok (.iaload, 1) := by decide +kernel
theorem d_LogCleanerLaw_law_174 : decode b_LogCleanerLaw_law 174 = .ok (.i2l, 1) := by decide +kernel
theorem d_LogCleanerLaw_law_175 : decode b_LogCleanerLaw_law 175 = .ok (.bipush 32, 2) := by decide +kernel
theorem d_LogCleanerLaw_law_177 : decode b_LogCleanerLaw_law 177 = .ok (.lshl, 1) := by decide +kernel
theorem d_LogCleanerLaw_law_178 : decode b_LogCleanerLaw_law 178 = .ok (.aload_n 0, 1) := by decide +kernel
theorem d_LogCleanerLaw_law_179 : decode b_LogCleanerLaw_law 179 = .ok (.iload 4, 2) := by decide +kernel
theorem d_LogCleanerLaw_law_181 : decode b_LogCleanerLaw_law 181 = .ok (.iconst 2, 1) := by decide +kernel
theorem d_LogCleanerLaw_law_182 : decode b_LogCleanerLaw_law 182 = .ok (.iadd, 1) := by decide +kernel
theorem d_LogCleanerLaw_law_183 : decode b_LogCleanerLaw_law 183 = .ok (.iaload, 1) := by decide +kernel
theorem d_LogCleanerLaw_law_184 : decode b_LogCleanerLaw_law 184 = .ok (.i2l, 1) := by decide +kernel
theorem d_LogCleanerLaw_law_185 : decode b_LogCleanerLaw_law 185 = .ok (.ldc2_w 46, 3) := by decide +kernel
theorem d_LogCleanerLaw_law_188 : decode b_LogCleanerLaw_law 188 = .ok (.land, 1) := by decide +kernel
theorem d_LogCleanerLaw_law_189 : decode b_LogCleanerLaw_law 189 = .ok (.lor, 1) := by decide +kernel
theorem d_LogCleanerLaw_law_190 : decode b_LogCleanerLaw_law 190 = .ok (.aload_n 0, 1) := by decide +kernel
theorem d_LogCleanerLaw_law_191 : decode b_LogCleanerLaw_law 191 = .ok (.iload 4, 2) := by decide +kernel
theorem d_LogCleanerLaw_law_193 : decode b_LogCleanerLaw_law 193 = .ok (.iconst 3, 1) := by decide +kernel
theorem d_LogCleanerLaw_law_194 : decode b_LogCleanerLaw_law 194 = .ok (.iadd, 1) := by decide +kernel
theorem d_LogCleanerLaw_law_195 : decode b_LogCleanerLaw_law 195 = .ok (.iaload, 1) := by decide +kernel
theorem d_LogCleanerLaw_law_196 : decode b_LogCleanerLaw_law 196 = .ok (.aload_n 0, 1) := by decide +kernel
theorem d_LogCleanerLaw_law_197 : decode b_LogCleanerLaw_law 197 = .ok (.iload 4, 2) := by decide +kernel
theorem d_LogCleanerLaw_law_199 : decode b_LogCleanerLaw_law 199 = .ok (.iconst 4, 1) := by decide +kernel
theorem d_LogCleanerLaw_law_200 : decode b_LogCleanerLaw_law 200 = .ok (.iadd, 1) := by decide +kernel
theorem d_LogCleanerLaw_law_201 : decode b_LogCleanerLaw_law 201 = .ok (.iaload, 1) := by decide +kernel
theorem d_LogCleanerLaw_law_202 : decode b_LogCleanerLaw_law 202 = .ok (.ifCond .eq 7, 3) := by decide +kernel
theorem d_LogCleanerLaw_law_205 : decode b_LogCleanerLaw_law 205 = .ok (.iconst 1, 1) := by decide +kernel
theorem d_LogCleanerLaw_law_206 : decode b_LogCleanerLaw_law 206 = .ok (.goto 4, 3) := by decide +kernel
theorem d_LogCleanerLaw_law_209 : decode b_LogCleanerLaw_law 209 = .ok (.iconst 0, 1) := by decide +kernel
theorem d_LogCleanerLaw_law_210 : decode b_LogCleanerLaw_law 210 = .ok (.aload_n 0, 1) := by decide +kernel
theorem d_LogCleanerLaw_law_211 : decode b_LogCleanerLaw_law 211 = .ok (.iload 4, 2) := by decide +kernel
theorem d_LogCleanerLaw_law_213 : decode b_LogCleanerLaw_law 213 = .ok (.iconst 5, 1) := by decide +kernel
theorem d_LogCleanerLaw_law_214 : decode b_LogCleanerLaw_law 214 = .ok (.iadd, 1) := by decide +kernel
theorem d_LogCleanerLaw_law_215 : decode b_LogCleanerLaw_law 215 = .ok (.iaload, 1) := by decide +kernel
theorem d_LogCleanerLaw_law_216 : decode b_LogCleanerLaw_law 216 = .ok (.i2l, 1) := by decide +kernel
theorem d_LogCleanerLaw_law_217 : decode b_LogCleanerLaw_law 217 = .ok (.bipush 32, 2) := by decide +kernel
theorem d_LogCleanerLaw_law_219 : decode b_LogCleanerLaw_law 219 = .ok (.lshl, 1) := by decide +kernel
theorem d_LogCleanerLaw_law_220 : decode b_LogCleanerLaw_law 220 = .ok (.aload_n 0, 1) := by decide +kernel
theorem d_LogCleanerLaw_law_221 : decode b_LogCleanerLaw_law 221 = .ok (.iload 4, 2) := by decide +kernel
theorem d_LogCleanerLaw_law_223 : decode b_LogCleanerLaw_law 223 = .ok (.bipush 6, 2) := by decide +kernel
theorem d_LogCleanerLaw_law_225 : decode b_LogCleanerLaw_law 225 = .ok (.iadd, 1) := by decide +kernel
theorem d_LogCleanerLaw_law_226 : decode b_LogCleanerLaw_law 226 = .ok (.iaload, 1) := by decide +kernel
theorem d_LogCleanerLaw_law_227 : decode b_LogCleanerLaw_law 227 = .ok (.i2l, 1) := by decide +kernel
theorem d_LogCleanerLaw_law_228 : decode b_LogCleanerLaw_law 228 = .ok (.ldc2_w 46, 3) := by decide +kernel
theorem d_LogCleanerLaw_law_231 : decode b_LogCleanerLaw_law 231 = .ok (.land, 1) := by decide +kernel
theorem d_LogCleanerLaw_law_232 : decode b_LogCleanerLaw_law 232 = .ok (.lor, 1) := by decide +kernel
theorem d_LogCleanerLaw_law_233 : decode b_LogCleanerLaw_law 233 = .ok (.aload_n 0, 1) := by decide +kernel
theorem d_LogCleanerLaw_law_234 : decode b_LogCleanerLaw_law 234 = .ok (.iload 4, 2) := by decide +kernel
theorem d_LogCleanerLaw_law_236 : decode b_LogCleanerLaw_law 236 = .ok (.bipush 7, 2) := by decide +kernel
theorem d_LogCleanerLaw_law_238 : decode b_LogCleanerLaw_law 238 = .ok (.iadd, 1) := by decide +kernel
theorem d_LogCleanerLaw_law_239 : decode b_LogCleanerLaw_law 239 = .ok (.iaload, 1) := by decide +kernel
theorem d_LogCleanerLaw_law_240 : decode b_LogCleanerLaw_law 240 = .ok (.invokevirtual 53, 3) := by decide +kernel
theorem d_LogCleanerLaw_law_243 : decode b_LogCleanerLaw_law 243 = .ok (.istore 6, 2) := by decide +kernel
theorem d_LogCleanerLaw_law_245 : decode b_LogCleanerLaw_law 245 = .ok (.aload_n 2, 1) := by decide +kernel
theorem d_LogCleanerLaw_law_246 : decode b_LogCleanerLaw_law 246 = .ok (.invokevirtual 54, 3) := by decide +kernel
theorem d_LogCleanerLaw_law_249 : decode b_LogCleanerLaw_law 249 = .ok (.iload 5, 2) := by decide +kernel
theorem d_LogCleanerLaw_law_251 : decode b_LogCleanerLaw_law 251 = .ok (.if_icmp .eq 5, 3) := by decide +kernel
theorem d_LogCleanerLaw_law_254 : decode b_LogCleanerLaw_law 254 = .ok (.iconst 0, 1) := by decide +kernel
theorem d_LogCleanerLaw_law_255 : decode b_LogCleanerLaw_law 255 = .ok (.ireturn, 1) := by decide +kernel
theorem d_LogCleanerLaw_law_256 : decode b_LogCleanerLaw_law 256 = .ok (.iload 5, 2) := by decide +kernel
theorem d_LogCleanerLaw_law_258 : decode b_LogCleanerLaw_law 258 = .ok (.ifCond .ne 15, 3) := by decide +kernel
theorem d_LogCleanerLaw_law_261 : decode b_LogCleanerLaw_law 261 = .ok (.aload_n 3, 1) := by decide +kernel
theorem d_LogCleanerLaw_law_262 : decode b_LogCleanerLaw_law 262 = .ok (.iconst 0, 1) := by decide +kernel
theorem d_LogCleanerLaw_law_263 : decode b_LogCleanerLaw_law 263 = .ok (.laload, 1) := by decide +kernel
theorem d_LogCleanerLaw_law_264 : decode b_LogCleanerLaw_law 264 = .ok (.iload 6, 2) := by decide +kernel
theorem d_LogCleanerLaw_law_266 : decode b_LogCleanerLaw_law 266 = .ok (.i2l, 1) := by decide +kernel
theorem d_LogCleanerLaw_law_267 : decode b_LogCleanerLaw_law 267 = .ok (.lcmp, 1) := by decide +kernel
theorem d_LogCleanerLaw_law_268 : decode b_LogCleanerLaw_law 268 = .ok (.ifCond .eq 5, 3) := by decide +kernel
theorem d_LogCleanerLaw_law_271 : decode b_LogCleanerLaw_law 271 = .ok (.iconst 0, 1) := by decide +kernel
theorem d_LogCleanerLaw_law_272 : decode b_LogCleanerLaw_law 272 = .ok (.ireturn, 1) := by decide +kernel
theorem d_LogCleanerLaw_law_273 : decode b_LogCleanerLaw_law 273 = .ok (.goto 462, 3) := by decide +kernel
theorem d_LogCleanerLaw_law_276 : decode b_LogCleanerLaw_law 276 = .ok (.aload_n 1, 1) := by decide +kernel
theorem d_LogCleanerLaw_law_277 : decode b_LogCleanerLaw_law 277 = .ok (.aload_n 0, 1) := by decide +kernel
theorem d_LogCleanerLaw_law_278 : decode b_LogCleanerLaw_law 278 = .ok (.iload 4, 2) := by decide +kernel
theorem d_LogCleanerLaw_law_280 : decode b_LogCleanerLaw_law 280 = .ok (.iconst 1, 1) := by decide +kernel
theorem d_LogCleanerLaw_law_281 : decode b_LogCleanerLaw_law 281 = .ok (.iadd, 1) := by decide +kernel
theorem d_LogCleanerLaw_law_282 : decode b_LogCleanerLaw_law 282 = .ok (.iaload, 1) := by decide +kernel
theorem d_LogCleanerLaw_law_283 : decode b_LogCleanerLaw_law 283 = .ok (.aload_n 3, 1) := by decide +kernel
theorem d_LogCleanerLaw_law_284 : decode b_LogCleanerLaw_law 284 = .ok (.invokestatic 58, 3) := by decide +kernel
theorem d_LogCleanerLaw_law_287 : decode b_LogCleanerLaw_law 287 = .ok (.istore 5, 2) := by decide +kernel
theorem d_LogCleanerLaw_law_289 : decode b_LogCleanerLaw_law 289 = .ok (.aload_n 2, 1) := by decide +kernel
theorem d_LogCleanerLaw_law_290 : decode b_LogCleanerLaw_law 290 = .ok (.aload_n 0, 1) := by decide +kernel
theorem d_LogCleanerLaw_law_291 : decode b_LogCleanerLaw_law 291 = .ok (.iload 4, 2) := by decide +kernel
theorem d_LogCleanerLaw_law_293 : decode b_LogCleanerLaw_law 293 = .ok (.iconst 1, 1) := by decide +kernel
theorem d_LogCleanerLaw_law_294 : decode b_LogCleanerLaw_law 294 = .ok (.iadd, 1) := by decide +kernel
theorem d_LogCleanerLaw_law_295 : decode b_LogCleanerLaw_law 295 = .ok (.iaload, 1) := by decide +kernel
theorem d_LogCleanerLaw_law_296 : decode b_LogCleanerLaw_law 296 = .ok (.invokevirtual 61, 3) := by decide +kernel
theorem d_LogCleanerLaw_law_299 : decode b_LogCleanerLaw_law 299 = .ok (.istore 6, 2) := by decide +kernel
theorem d_LogCleanerLaw_law_301 : decode b_LogCleanerLaw_law 301 = .ok (.aload_n 2, 1) := by decide +kernel
theorem d_LogCleanerLaw_law_302 : decode b_LogCleanerLaw_law 302 = .ok (.invokevirtual 54, 3) := by decide +kernel
theorem d_LogCleanerLaw_law_305 : decode b_LogCleanerLaw_law 305 = .ok (.iload 5, 2) := by decide +kernel
theorem d_LogCleanerLaw_law_307 : decode b_LogCleanerLaw_law 307 = .ok (.if_icmp .eq 5, 3) := by decide +kernel
theorem d_LogCleanerLaw_law_310 : decode b_LogCleanerLaw_law 310 = .ok (.iconst 0, 1) := by decide +kernel
theorem d_LogCleanerLaw_law_311 : decode b_LogCleanerLaw_law 311 = .ok (.ireturn, 1) := by decide +kernel
theorem d_LogCleanerLaw_law_312 : decode b_LogCleanerLaw_law 312 = .ok (.iload 5, 2) := by decide +kernel
theorem d_LogCleanerLaw_law_314 : decode b_LogCleanerLaw_law 314 = .ok (.ifCond .ne 15, 3) := by decide +kernel
theorem d_LogCleanerLaw_law_317 : decode b_LogCleanerLaw_law 317 = .ok (.aload_n 3, 1) := by decide +kernel
theorem d_LogCleanerLaw_law_318 : decode b_LogCleanerLaw_law 318 = .ok (.iconst 0, 1) := by decide +kernel
theorem d_LogCleanerLaw_law_319 : decode b_LogCleanerLaw_law 319 = .ok (.laload, 1) := by decide +kernel
theorem d_LogCleanerLaw_law_320 : decode b_LogCleanerLaw_law 320 = .ok (.iload 6, 2) := by decide +kernel
theorem d_LogCleanerLaw_law_322 : decode b_LogCleanerLaw_law 322 = .ok (.i2l, 1) := by decide +kernel
theorem d_LogCleanerLaw_law_323 : decode b_LogCleanerLaw_law 323 = .ok (.lcmp, 1) := by decide +kernel
theorem d_LogCleanerLaw_law_324 : decode b_LogCleanerLaw_law 324 = .ok (.ifCond .eq 5, 3) := by decide +kernel
theorem d_LogCleanerLaw_law_327 : decode b_LogCleanerLaw_law 327 = .ok (.iconst 0, 1) := by decide +kernel
theorem d_LogCleanerLaw_law_328 : decode b_LogCleanerLaw_law 328 = .ok (.ireturn, 1) := by decide +kernel
theorem d_LogCleanerLaw_law_329 : decode b_LogCleanerLaw_law 329 = .ok (.goto 406, 3) := by decide +kernel
theorem d_LogCleanerLaw_law_332 : decode b_LogCleanerLaw_law 332 = .ok (.aload_n 1, 1) := by decide +kernel
theorem d_LogCleanerLaw_law_333 : decode b_LogCleanerLaw_law 333 = .ok (.aload_n 0, 1) := by decide +kernel
theorem d_LogCleanerLaw_law_334 : decode b_LogCleanerLaw_law 334 = .ok (.iload 4, 2) := by decide +kernel
theorem d_LogCleanerLaw_law_336 : decode b_LogCleanerLaw_law 336 = .ok (.iconst 1, 1) := by decide +kernel
theorem d_LogCleanerLaw_law_337 : decode b_LogCleanerLaw_law 337 = .ok (.iadd, 1) := by decide +kernel
theorem d_LogCleanerLaw_law_338 : decode b_LogCleanerLaw_law 338 = .ok (.iaload, 1) := by decide +kernel
theorem d_LogCleanerLaw_law_339 : decode b_LogCleanerLaw_law 339 = .ok (.aload_n 3, 1) := by decide +kernel
theorem d_LogCleanerLaw_law_340 : decode b_LogCleanerLaw_law 340 = .ok (.invokestatic 62, 3) := by decide +kernel
theorem d_LogCleanerLaw_law_343 : decode b_LogCleanerLaw_law 343 = .ok (.istore 5, 2) := by decide +kernel
theorem d_LogCleanerLaw_law_345 : decode b_LogCleanerLaw_law 345 = .ok (.aload_n 2, 1) := by decide +kernel
theorem d_LogCleanerLaw_law_346 : decode b_LogCleanerLaw_law 346 = .ok (.aload_n 0, 1) := by decide +kernel
theorem d_LogCleanerLaw_law_347 : decode b_LogCleanerLaw_law 347 = .ok (.iload 4, 2) := by decide +kernel
theorem d_LogCleanerLaw_law_349 : decode b_LogCleanerLaw_law 349 = .ok (.iconst 1, 1) := by decide +kernel
theorem d_LogCleanerLaw_law_350 : decode b_LogCleanerLaw_law 350 = .ok (.iadd, 1) := by decide +kernel
theorem d_LogCleanerLaw_law_351 : decode b_LogCleanerLaw_law 351 = .ok (.iaload, 1) := by decide +kernel
theorem d_LogCleanerLaw_law_352 : decode b_LogCleanerLaw_law 352 = .ok (.invokevirtual 64, 3) := by decide +kernel
theorem d_LogCleanerLaw_law_355 : decode b_LogCleanerLaw_law 355 = .ok (.istore 6, 2) := by decide +kernel
theorem d_LogCleanerLaw_law_357 : decode b_LogCleanerLaw_law 357 = .ok (.aload_n 2, 1) := by decide +kernel
theorem d_LogCleanerLaw_law_358 : decode b_LogCleanerLaw_law 358 = .ok (.invokevirtual 54, 3) := by decide +kernel
theorem d_LogCleanerLaw_law_361 : decode b_LogCleanerLaw_law 361 = .ok (.iload 5, 2) := by decide +kernel
theorem d_LogCleanerLaw_law_363 : decode b_LogCleanerLaw_law 363 = .ok (.if_icmp .eq 5, 3) := by decide +kernel
theorem d_LogCleanerLaw_law_366 : decode b_LogCleanerLaw_law 366 = .ok (.iconst 0, 1) := by decide +kernel
theorem d_LogCleanerLaw_law_367 : decode b_LogCleanerLaw_law 367 = .ok (.ireturn, 1) := by decide +kernel
theorem d_LogCleanerLaw_law_368 : decode b_LogCleanerLaw_law 368 = .ok (.iload 5, 2) := by decide +kernel
theorem d_LogCleanerLaw_law_370 : decode b_LogCleanerLaw_law 370 = .ok (.ifCond .ne 15, 3) := by decide +kernel
theorem d_LogCleanerLaw_law_373 : decode b_LogCleanerLaw_law 373 = .ok (.aload_n 3, 1) := by decide +kernel
theorem d_LogCleanerLaw_law_374 : decode b_LogCleanerLaw_law 374 = .ok (.iconst 0, 1) := by decide +kernel
theorem d_LogCleanerLaw_law_375 : decode b_LogCleanerLaw_law 375 = .ok (.laload, 1) := by decide +kernel
theorem d_LogCleanerLaw_law_376 : decode b_LogCleanerLaw_law 376 = .ok (.iload 6, 2) := by decide +kernel
theorem d_LogCleanerLaw_law_378 : decode b_LogCleanerLaw_law 378 = .ok (.i2l, 1) := by decide +kernel
theorem d_LogCleanerLaw_law_379 : decode b_LogCleanerLaw_law 379 = .ok (.lcmp, 1) := by decide +kernel
theorem d_LogCleanerLaw_law_380 : decode b_LogCleanerLaw_law 380 = .ok (.ifCond .eq 5, 3) := by decide +kernel
theorem d_LogCleanerLaw_law_383 : decode b_LogCleanerLaw_law 383 = .ok (.iconst 0, 1) := by decide +kernel
theorem d_LogCleanerLaw_law_384 : decode b_LogCleanerLaw_law 384 = .ok (.ireturn, 1) := by decide +kernel
theorem d_LogCleanerLaw_law_385 : decode b_LogCleanerLaw_law 385 = .ok (.goto 350, 3) := by decide +kernel
theorem d_LogCleanerLaw_law_388 : decode b_LogCleanerLaw_law 388 = .ok (.aload_n 1, 1) := by decide +kernel
theorem d_LogCleanerLaw_law_389 : decode b_LogCleanerLaw_law 389 = .ok (.aload_n 0, 1) := by decide +kernel
theorem d_LogCleanerLaw_law_390 : decode b_LogCleanerLaw_law 390 = .ok (.iload 4, 2) := by decide +kernel
theorem d_LogCleanerLaw_law_392 : decode b_LogCleanerLaw_law 392 = .ok (.iconst 1, 1) := by decide +kernel
theorem d_LogCleanerLaw_law_393 : decode b_LogCleanerLaw_law 393 = .ok (.iadd, 1) := by decide +kernel
theorem d_LogCleanerLaw_law_394 : decode b_LogCleanerLaw_law 394 = .ok (.iaload, 1) := by decide +kernel
theorem d_LogCleanerLaw_law_395 : decode b_LogCleanerLaw_law 395 = .ok (.aload_n 3, 1) := by decide +kernel
theorem d_LogCleanerLaw_law_396 : decode b_LogCleanerLaw_law 396 = .ok (.invokestatic 65, 3) := by decide +kernel
theorem d_LogCleanerLaw_law_399 : decode b_LogCleanerLaw_law 399 = .ok (.istore 5, 2) := by decide +kernel
theorem d_LogCleanerLaw_law_401 : decode b_LogCleanerLaw_law 401 = .ok (.aload_n 2, 1) := by decide +kernel
theorem d_LogCleanerLaw_law_402 : decode b_LogCleanerLaw_law 402 = .ok (.aload_n 0, 1) := by decide +kernel
theorem d_LogCleanerLaw_law_403 : decode b_LogCleanerLaw_law 403 = .ok (.iload 4, 2) := by decide +kernel
theorem d_LogCleanerLaw_law_405 : decode b_LogCleanerLaw_law 405 = .ok (.iconst 1, 1) := by decide +kernel
theorem d_LogCleanerLaw_law_406 : decode b_LogCleanerLaw_law 406 = .ok (.iadd, 1) := by decide +kernel
theorem d_LogCleanerLaw_law_407 : decode b_LogCleanerLaw_law 407 = .ok (.iaload, 1) := by decide +kernel
theorem d_LogCleanerLaw_law_408 : decode b_LogCleanerLaw_law 408 = .ok (.invokevirtual 67, 3) := by decide +kernel
theorem d_LogCleanerLaw_law_411 : decode b_LogCleanerLaw_law 411 = .ok (.istore 6, 2) := by decide +kernel
theorem d_LogCleanerLaw_law_413 : decode b_LogCleanerLaw_law 413 = .ok (.aload_n 2, 1) := by decide +kernel
theorem d_LogCleanerLaw_law_414 : decode b_LogCleanerLaw_law 414 = .ok (.invokevirtual 54, 3) := by decide +kernel
theorem d_LogCleanerLaw_law_417 : decode b_LogCleanerLaw_law 417 = .ok (.iload 5, 2) := by decide +kernel
theorem d_LogCleanerLaw_law_419 : decode b_LogCleanerLaw_law 419 = .ok (.if_icmp .eq 5, 3) := by decide +kernel
theorem d_LogCleanerLaw_law_422 : decode b_LogCleanerLaw_law 422 = .ok (.iconst 0, 1) := by decide +kernel
theorem d_LogCleanerLaw_law_423 : decode b_LogCleanerLaw_law 423 = .ok (.ireturn, 1) := by decide +kernel
theorem d_LogCleanerLaw_law_424 : decode b_LogCleanerLaw_law 424 = .ok (.iload 5, 2) := by decide +kernel
theorem d_LogCleanerLaw_law_426 : decode b_LogCleanerLaw_law 426 = .ok (.ifCond .ne 15, 3) := by decide +kernel
theorem d_LogCleanerLaw_law_429 : decode b_LogCleanerLaw_law 429 = .ok (.aload_n 3, 1) := by decide +kernel
theorem d_LogCleanerLaw_law_430 : decode b_LogCleanerLaw_law 430 = .ok (.iconst 0, 1) := by decide +kernel
theorem d_LogCleanerLaw_law_431 : decode b_LogCleanerLaw_law 431 = .ok (.laload, 1) := by decide +kernel
theorem d_LogCleanerLaw_law_432 : decode b_LogCleanerLaw_law 432 = .ok (.iload 6, 2) := by decide +kernel
theorem d_LogCleanerLaw_law_434 : decode b_LogCleanerLaw_law 434 = .ok (.i2l, 1) := by decide +kernel
theorem d_LogCleanerLaw_law_435 : decode b_LogCleanerLaw_law 435 = .ok (.lcmp, 1) := by decide +kernel
theorem d_LogCleanerLaw_law_436 : decode b_LogCleanerLaw_law 436 = .ok (.ifCond .eq 5, 3) := by decide +kernel
theorem d_LogCleanerLaw_law_439 : decode b_LogCleanerLaw_law 439 = .ok (.iconst 0, 1) := by decide +kernel
theorem d_LogCleanerLaw_law_440 : decode b_LogCleanerLaw_law 440 = .ok (.ireturn, 1) := by decide +kernel
theorem d_LogCleanerLaw_law_441 : decode b_LogCleanerLaw_law 441 = .ok (.goto 294, 3) := by decide +kernel
theorem d_LogCleanerLaw_law_444 : decode b_LogCleanerLaw_law 444 = .ok (.aload_n 1, 1) := by decide +kernel
theorem d_LogCleanerLaw_law_445 : decode b_LogCleanerLaw_law 445 = .ok (.aload_n 0, 1) := by decide +kernel
theorem d_LogCleanerLaw_law_446 : decode b_LogCleanerLaw_law 446 = .ok (.iload 4, 2) := by decide +kernel
theorem d_LogCleanerLaw_law_448 : decode b_LogCleanerLaw_law 448 = .ok (.iconst 1, 1) := by decide +kernel
theorem d_LogCleanerLaw_law_449 : decode b_LogCleanerLaw_law 449 = .ok (.iadd, 1) := by decide +kernel
theorem d_LogCleanerLaw_law_450 : decode b_LogCleanerLaw_law 450 = .ok (.iaload, 1) := by decide +kernel
theorem d_LogCleanerLaw_law_451 : decode b_LogCleanerLaw_law 451 = .ok (.aload_n 3, 1) := by decide +kernel
theorem d_LogCleanerLaw_law_452 : decode b_LogCleanerLaw_law 452 = .ok (.invokestatic 68, 3) := by decide +kernel
theorem d_LogCleanerLaw_law_455 : decode b_LogCleanerLaw_law 455 = .ok (.istore 5, 2) := by decide +kernel
theorem d_LogCleanerLaw_law_457 : decode b_LogCleanerLaw_law 457 = .ok (.aload_n 2, 1) := by decide +kernel
theorem d_LogCleanerLaw_law_458 : decode b_LogCleanerLaw_law 458 = .ok (.aload_n 0, 1) := by decide +kernel
theorem d_LogCleanerLaw_law_459 : decode b_LogCleanerLaw_law 459 = .ok (.iload 4, 2) := by decide +kernel
theorem d_LogCleanerLaw_law_461 : decode b_LogCleanerLaw_law 461 = .ok (.iconst 1, 1) := by decide +kernel
theorem d_LogCleanerLaw_law_462 : decode b_LogCleanerLaw_law 462 = .ok (.iadd, 1) := by decide +kernel
theorem d_LogCleanerLaw_law_463 : decode b_LogCleanerLaw_law 463 = .ok (.iaload, 1) := by decide +kernel
theorem d_LogCleanerLaw_law_464 : decode b_LogCleanerLaw_law 464 = .ok (.invokevirtual 70, 3) := by decide +kernel
theorem d_LogCleanerLaw_law_467 : decode b_LogCleanerLaw_law 467 = .ok (.istore 6, 2) := by decide +kernel
theorem d_LogCleanerLaw_law_469 : decode b_LogCleanerLaw_law 469 = .ok (.aload_n 2, 1) := by decide +kernel
theorem d_LogCleanerLaw_law_470 : decode b_LogCleanerLaw_law 470 = .ok (.invokevirtual 54, 3) := by decide +kernel
theorem d_LogCleanerLaw_law_473 : decode b_LogCleanerLaw_law 473 = .ok (.iload 5, 2) := by decide +kernel
theorem d_LogCleanerLaw_law_475 : decode b_LogCleanerLaw_law 475 = .ok (.if_icmp .eq 5, 3) := by decide +kernel
theorem d_LogCleanerLaw_law_478 : decode b_LogCleanerLaw_law 478 = .ok (.iconst 0, 1) := by decide +kernel
theorem d_LogCleanerLaw_law_479 : decode b_LogCleanerLaw_law 479 = .ok (.ireturn, 1) := by decide +kernel
theorem d_LogCleanerLaw_law_480 : decode b_LogCleanerLaw_law 480 = .ok (.iload 5, 2) := by decide +kernel
theorem d_LogCleanerLaw_law_482 : decode b_LogCleanerLaw_law 482 = .ok (.ifCond .ne 15, 3) := by decide +kernel
theorem d_LogCleanerLaw_law_485 : decode b_LogCleanerLaw_law 485 = .ok (.aload_n 3, 1) := by decide +kernel
theorem d_LogCleanerLaw_law_486 : decode b_LogCleanerLaw_law 486 = .ok (.iconst 0, 1) := by decide +kernel
theorem d_LogCleanerLaw_law_487 : decode b_LogCleanerLaw_law 487 = .ok (.laload, 1) := by decide +kernel
theorem d_LogCleanerLaw_law_488 : decode b_LogCleanerLaw_law 488 = .ok (.iload 6, 2) := by decide +kernel
theorem d_LogCleanerLaw_law_490 : decode b_LogCleanerLaw_law 490 = .ok (.i2l, 1) := by decide +kernel
theorem d_LogCleanerLaw_law_491 : decode b_LogCleanerLaw_law 491 = .ok (.lcmp, 1) := by decide +kernel
theorem d_LogCleanerLaw_law_492 : decode b_LogCleanerLaw_law 492 = .ok (.ifCond .eq 5, 3) := by decide +kernel
theorem d_LogCleanerLaw_law_495 : decode b_LogCleanerLaw_law 495 = .ok (.iconst 0, 1) := by decide +kernel
theorem d_LogCleanerLaw_law_496 : decode b_LogCleanerLaw_law 496 = .ok (.ireturn, 1) := by decide +kernel
theorem d_LogCleanerLaw_law_497 : decode b_LogCleanerLaw_law 497 = .ok (.goto 238, 3) := by decide +kernel
theorem d_LogCleanerLaw_law_500 : decode b_LogCleanerLaw_law 500 = .ok (.aload_n 1, 1) := by decide +kernel
theorem d_LogCleanerLaw_law_501 : decode b_LogCleanerLaw_law 501 = .ok (.aload_n 0, 1) := by decide +kernel
theorem d_LogCleanerLaw_law_502 : decode b_LogCleanerLaw_law 502 = .ok (.iload 4, 2) := by decide +kernel
theorem d_LogCleanerLaw_law_504 : decode b_LogCleanerLaw_law 504 = .ok (.iconst 1, 1) := by decide +kernel
theorem d_LogCleanerLaw_law_505 : decode b_LogCleanerLaw_law 505 = .ok (.iadd, 1) := by decide +kernel
theorem d_LogCleanerLaw_law_506 : decode b_LogCleanerLaw_law 506 = .ok (.iaload, 1) := by decide +kernel
theorem d_LogCleanerLaw_law_507 : decode b_LogCleanerLaw_law 507 = .ok (.aload_n 0, 1) := by decide +kernel
theorem d_LogCleanerLaw_law_508 : decode b_LogCleanerLaw_law 508 = .ok (.iload 4, 2) := by decide +kernel
theorem d_LogCleanerLaw_law_510 : decode b_LogCleanerLaw_law 510 = .ok (.iconst 2, 1) := by decide +kernel
theorem d_LogCleanerLaw_law_511 : decode b_LogCleanerLaw_law 511 = .ok (.iadd, 1) := by decide +kernel
theorem d_LogCleanerLaw_law_512 : decode b_LogCleanerLaw_law 512 = .ok (.iaload, 1) := by decide +kernel
theorem d_LogCleanerLaw_law_513 : decode b_LogCleanerLaw_law 513 = .ok (.aload_n 3, 1) := by decide +kernel
theorem d_LogCleanerLaw_law_514 : decode b_LogCleanerLaw_law 514 = .ok (.invokestatic 71, 3) := by decide +kernel
theorem d_LogCleanerLaw_law_517 : decode b_LogCleanerLaw_law 517 = .ok (.istore 5, 2) := by decide +kernel
theorem d_LogCleanerLaw_law_519 : decode b_LogCleanerLaw_law 519 = .ok (.aload_n 2, 1) := by decide +kernel
theorem d_LogCleanerLaw_law_520 : decode b_LogCleanerLaw_law 520 = .ok (.aload_n 0, 1) := by decide +kernel
theorem d_LogCleanerLaw_law_521 : decode b_LogCleanerLaw_law 521 = .ok (.iload 4, 2) := by decide +kernel
theorem d_LogCleanerLaw_law_523 : decode b_LogCleanerLaw_law 523 = .ok (.iconst 1, 1) := by decide +kernel
theorem d_LogCleanerLaw_law_524 : decode b_LogCleanerLaw_law 524 = .ok (.iadd, 1) := by decide +kernel
theorem d_LogCleanerLaw_law_525 : decode b_LogCleanerLaw_law 525 = .ok (.iaload, 1) := by decide +kernel
theorem d_LogCleanerLaw_law_526 : decode b_LogCleanerLaw_law 526 = .ok (.aload_n 0, 1) := by decide +kernel
theorem d_LogCleanerLaw_law_527 : decode b_LogCleanerLaw_law 527 = .ok (.iload 4, 2) := by decide +kernel
theorem d_LogCleanerLaw_law_529 : decode b_LogCleanerLaw_law 529 = .ok (.iconst 2, 1) := by decide +kernel
theorem d_LogCleanerLaw_law_530 : decode b_LogCleanerLaw_law 530 = .ok (.iadd, 1) := by decide +kernel
theorem d_LogCleanerLaw_law_531 : decode b_LogCleanerLaw_law 531 = .ok (.iaload, 1) := by decide +kernel
theorem d_LogCleanerLaw_law_532 : decode b_LogCleanerLaw_law 532 = .ok (.invokevirtual 74, 3) := by decide +kernel
theorem d_LogCleanerLaw_law_535 : decode b_LogCleanerLaw_law 535 = .ok (.istore 6, 2) := by decide +kernel
theorem d_LogCleanerLaw_law_537 : decode b_LogCleanerLaw_law 537 = .ok (.aload_n 2, 1) := by decide +kernel
theorem d_LogCleanerLaw_law_538 : decode b_LogCleanerLaw_law 538 = .ok (.invokevirtual 54, 3) := by decide +kernel
theorem d_LogCleanerLaw_law_541 : decode b_LogCleanerLaw_law 541 = .ok (.iload 5, 2) := by decide +kernel
theorem d_LogCleanerLaw_law_543 : decode b_LogCleanerLaw_law 543 = .ok (.if_icmp .eq 5, 3) := by decide +kernel
theorem d_LogCleanerLaw_law_546 : decode b_LogCleanerLaw_law 546 = .ok (.iconst 0, 1) := by decide +kernel
theorem d_LogCleanerLaw_law_547 : decode b_LogCleanerLaw_law 547 = .ok (.ireturn, 1) := by decide +kernel
theorem d_LogCleanerLaw_law_548 : decode b_LogCleanerLaw_law 548 = .ok (.iload 5, 2) := by decide +kernel
theorem d_LogCleanerLaw_law_550 : decode b_LogCleanerLaw_law 550 = .ok (.ifCond .ne 15, 3) := by decide +kernel
theorem d_LogCleanerLaw_law_553 : decode b_LogCleanerLaw_law 553 = .ok (.aload_n 3, 1) := by decide +kernel
theorem d_LogCleanerLaw_law_554 : decode b_LogCleanerLaw_law 554 = .ok (.iconst 0, 1) := by decide +kernel
theorem d_LogCleanerLaw_law_555 : decode b_LogCleanerLaw_law 555 = .ok (.laload, 1) := by decide +kernel
theorem d_LogCleanerLaw_law_556 : decode b_LogCleanerLaw_law 556 = .ok (.iload 6, 2) := by decide +kernel
theorem d_LogCleanerLaw_law_558 : decode b_LogCleanerLaw_law 558 = .ok (.i2l, 1) := by decide +kernel
theorem d_LogCleanerLaw_law_559 : decode b_LogCleanerLaw_law 559 = .ok (.lcmp, 1) := by decide +kernel
theorem d_LogCleanerLaw_law_560 : decode b_LogCleanerLaw_law 560 = .ok (.ifCond .eq 5, 3) := by decide +kernel
theorem d_LogCleanerLaw_law_563 : decode b_LogCleanerLaw_law 563 = .ok (.iconst 0, 1) := by decide +kernel
theorem d_LogCleanerLaw_law_564 : decode b_LogCleanerLaw_law 564 = .ok (.ireturn, 1) := by decide +kernel
theorem d_LogCleanerLaw_law_565 : decode b_LogCleanerLaw_law 565 = .ok (.goto 170, 3) := by decide +kernel
theorem d_LogCleanerLaw_law_568 : decode b_LogCleanerLaw_law 568 = .ok (.aload_n 1, 1) := by decide +kernel
theorem d_LogCleanerLaw_law_569 : decode b_LogCleanerLaw_law 569 = .ok (.aload_n 0, 1) := by decide +kernel
theorem d_LogCleanerLaw_law_570 : decode b_LogCleanerLaw_law 570 = .ok (.iload 4, 2) := by decide +kernel
theorem d_LogCleanerLaw_law_572 : decode b_LogCleanerLaw_law 572 = .ok (.iconst 1, 1) := by decide +kernel
theorem d_LogCleanerLaw_law_573 : decode b_LogCleanerLaw_law 573 = .ok (.iadd, 1) := by decide +kernel
theorem d_LogCleanerLaw_law_574 : decode b_LogCleanerLaw_law 574 = .ok (.iaload, 1) := by decide +kernel
theorem d_LogCleanerLaw_law_575 : decode b_LogCleanerLaw_law 575 = .ok (.aload_n 0, 1) := by decide +kernel
theorem d_LogCleanerLaw_law_576 : decode b_LogCleanerLaw_law 576 = .ok (.iload 4, 2) := by decide +kernel
theorem d_LogCleanerLaw_law_578 : decode b_LogCleanerLaw_law 578 = .ok (.iconst 2, 1) := by decide +kernel
theorem d_LogCleanerLaw_law_579 : decode b_LogCleanerLaw_law 579 = .ok (.iadd, 1) := by decide +kernel
theorem d_LogCleanerLaw_law_580 : decode b_LogCleanerLaw_law 580 = .ok (.iaload, 1) := by decide +kernel
theorem d_LogCleanerLaw_law_581 : decode b_LogCleanerLaw_law 581 = .ok (.aload_n 3, 1) := by decide +kernel
theorem d_LogCleanerLaw_law_582 : decode b_LogCleanerLaw_law 582 = .ok (.invokestatic 75, 3) := by decide +kernel
theorem d_LogCleanerLaw_law_585 : decode b_LogCleanerLaw_law 585 = .ok (.istore 5, 2) := by decide +kernel
theorem d_LogCleanerLaw_law_587 : decode b_LogCleanerLaw_law 587 = .ok (.aload_n 2, 1) := by decide +kernel
theorem d_LogCleanerLaw_law_588 : decode b_LogCleanerLaw_law 588 = .ok (.aload_n 0, 1) := by decide +kernel
theorem d_LogCleanerLaw_law_589 : decode b_LogCleanerLaw_law 589 = .ok (.iload 4, 2) := by decide +kernel
theorem d_LogCleanerLaw_law_591 : decode b_LogCleanerLaw_law 591 = .ok (.iconst 1, 1) := by decide +kernel
theorem d_LogCleanerLaw_law_592 : decode b_LogCleanerLaw_law 592 = .ok (.iadd, 1) := by decide +kernel
theorem d_LogCleanerLaw_law_593 : decode b_LogCleanerLaw_law 593 = .ok (.iaload, 1) := by decide +kernel
theorem d_LogCleanerLaw_law_594 : decode b_LogCleanerLaw_law 594 = .ok (.aload_n 0, 1) := by decide +kernel
theorem d_LogCleanerLaw_law_595 : decode b_LogCleanerLaw_law 595 = .ok (.iload 4, 2) := by decide +kernel
theorem d_LogCleanerLaw_law_597 : decode b_LogCleanerLaw_law 597 = .ok (.iconst 2, 1) := by decide +kernel
theorem d_LogCleanerLaw_law_598 : decode b_LogCleanerLaw_law 598 = .ok (.iadd, 1) := by decide +kernel
theorem d_LogCleanerLaw_law_599 : decode b_LogCleanerLaw_law 599 = .ok (.iaload, 1) := by decide +kernel
theorem d_LogCleanerLaw_law_600 : decode b_LogCleanerLaw_law 600 = .ok (.invokevirtual 77, 3) := by decide +kernel
theorem d_LogCleanerLaw_law_603 : decode b_LogCleanerLaw_law 603 = .ok (.lstore 6, 2) := by decide +kernel
theorem d_LogCleanerLaw_law_605 : decode b_LogCleanerLaw_law 605 = .ok (.aload_n 2, 1) := by decide +kernel
theorem d_LogCleanerLaw_law_606 : decode b_LogCleanerLaw_law 606 = .ok (.invokevirtual 54, 3) := by decide +kernel
theorem d_LogCleanerLaw_law_609 : decode b_LogCleanerLaw_law 609 = .ok (.iload 5, 2) := by decide +kernel
theorem d_LogCleanerLaw_law_611 : decode b_LogCleanerLaw_law 611 = .ok (.if_icmp .eq 5, 3) := by decide +kernel
theorem d_LogCleanerLaw_law_614 : decode b_LogCleanerLaw_law 614 = .ok (.iconst 0, 1) := by decide +kernel
theorem d_LogCleanerLaw_law_615 : decode b_LogCleanerLaw_law 615 = .ok (.ireturn, 1) := by decide +kernel
theorem d_LogCleanerLaw_law_616 : decode b_LogCleanerLaw_law 616 = .ok (.iload 5, 2) := by decide +kernel
theorem d_LogCleanerLaw_law_618 : decode b_LogCleanerLaw_law 618 = .ok (.ifCond .ne 14, 3) := by decide +kernel
theorem d_LogCleanerLaw_law_621 : decode b_LogCleanerLaw_law 621 = .ok (.aload_n 3, 1) := by decide +kernel
theorem d_LogCleanerLaw_law_622 : decode b_LogCleanerLaw_law 622 = .ok (.iconst 0, 1) := by decide +kernel
theorem d_LogCleanerLaw_law_623 : decode b_LogCleanerLaw_law 623 = .ok (.laload, 1) := by decide +kernel
theorem d_LogCleanerLaw_law_624 : decode b_LogCleanerLaw_law 624 = .ok (.lload 6, 2) := by decide +kernel
theorem d_LogCleanerLaw_law_626 : decode b_LogCleanerLaw_law 626 = .ok (.lcmp, 1) := by decide +kernel
theorem d_LogCleanerLaw_law_627 : decode b_LogCleanerLaw_law 627 = .ok (.ifCond .eq 5, 3) := by decide +kernel
theorem d_LogCleanerLaw_law_630 : decode b_LogCleanerLaw_law 630 = .ok (.iconst 0, 1) := by decide +kernel
theorem d_LogCleanerLaw_law_631 : decode b_LogCleanerLaw_law 631 = .ok (.ireturn, 1) := by decide +kernel
theorem d_LogCleanerLaw_law_632 : decode b_LogCleanerLaw_law 632 = .ok (.goto 103, 3) := by decide +kernel
theorem d_LogCleanerLaw_law_635 : decode b_LogCleanerLaw_law 635 = .ok (.aload_n 1, 1) := by decide +kernel
theorem d_LogCleanerLaw_law_636 : decode b_LogCleanerLaw_law 636 = .ok (.aload_n 0, 1) := by decide +kernel
theorem d_LogCleanerLaw_law_637 : decode b_LogCleanerLaw_law 637 = .ok (.iload 4, 2) := by decide +kernel
theorem d_LogCleanerLaw_law_639 : decode b_LogCleanerLaw_law 639 = .ok (.iconst 1, 1) := by decide +kernel
theorem d_LogCleanerLaw_law_640 : decode b_LogCleanerLaw_law 640 = .ok (.iadd, 1) := by decide +kernel
theorem d_LogCleanerLaw_law_641 : decode b_LogCleanerLaw_law 641 = .ok (.iaload, 1) := by decide +kernel
theorem d_LogCleanerLaw_law_642 : decode b_LogCleanerLaw_law 642 = .ok (.i2l, 1) := by decide +kernel
theorem d_LogCleanerLaw_law_643 : decode b_LogCleanerLaw_law 643 = .ok (.bipush 32, 2) := by decide +kernel
theorem d_LogCleanerLaw_law_645 : decode b_LogCleanerLaw_law 645 = .ok (.lshl, 1) := by decide +kernel
theorem d_LogCleanerLaw_law_646 : decode b_LogCleanerLaw_law 646 = .ok (.aload_n 0, 1) := by decide +kernel
theorem d_LogCleanerLaw_law_647 : decode b_LogCleanerLaw_law 647 = .ok (.iload 4, 2) := by decide +kernel
theorem d_LogCleanerLaw_law_649 : decode b_LogCleanerLaw_law 649 = .ok (.iconst 2, 1) := by decide +kernel
theorem d_LogCleanerLaw_law_650 : decode b_LogCleanerLaw_law 650 = .ok (.iadd, 1) := by decide +kernel
theorem d_LogCleanerLaw_law_651 : decode b_LogCleanerLaw_law 651 = .ok (.iaload, 1) := by decide +kernel
theorem d_LogCleanerLaw_law_652 : decode b_LogCleanerLaw_law 652 = .ok (.i2l, 1) := by decide +kernel
theorem d_LogCleanerLaw_law_653 : decode b_LogCleanerLaw_law 653 = .ok (.ldc2_w 46, 3) := by decide +kernel
theorem d_LogCleanerLaw_law_656 : decode b_LogCleanerLaw_law 656 = .ok (.land, 1) := by decide +kernel
theorem d_LogCleanerLaw_law_657 : decode b_LogCleanerLaw_law 657 = .ok (.lor, 1) := by decide +kernel
theorem d_LogCleanerLaw_law_658 : decode b_LogCleanerLaw_law 658 = .ok (.aload_n 0, 1) := by decide +kernel
theorem d_LogCleanerLaw_law_659 : decode b_LogCleanerLaw_law 659 = .ok (.iload 4, 2) := by decide +kernel
theorem d_LogCleanerLaw_law_661 : decode b_LogCleanerLaw_law 661 = .ok (.iconst 3, 1) := by decide +kernel
theorem d_LogCleanerLaw_law_662 : decode b_LogCleanerLaw_law 662 = .ok (.iadd, 1) := by decide +kernel
theorem d_LogCleanerLaw_law_663 : decode b_LogCleanerLaw_law 663 = .ok (.iaload, 1) := by decide +kernel
theorem d_LogCleanerLaw_law_664 : decode b_LogCleanerLaw_law 664 = .ok (.aload_n 3, 1) := by decide +kernel
theorem d_LogCleanerLaw_law_665 : decode b_LogCleanerLaw_law 665 = .ok (.invokestatic 78, 3) := by decide +kernel
theorem d_LogCleanerLaw_law_668 : decode b_LogCleanerLaw_law 668 = .ok (.istore 5, 2) := by decide +kernel
theorem d_LogCleanerLaw_law_670 : decode b_LogCleanerLaw_law 670 = .ok (.aload_n 2, 1) := by decide +kernel
theorem d_LogCleanerLaw_law_671 : decode b_LogCleanerLaw_law 671 = .ok (.aload_n 0, 1) := by decide +kernel
theorem d_LogCleanerLaw_law_672 : decode b_LogCleanerLaw_law 672 = .ok (.iload 4, 2) := by decide +kernel
theorem d_LogCleanerLaw_law_674 : decode b_LogCleanerLaw_law 674 = .ok (.iconst 1, 1) := by decide +kernel
theorem d_LogCleanerLaw_law_675 : decode b_LogCleanerLaw_law 675 = .ok (.iadd, 1) := by decide +kernel
theorem d_LogCleanerLaw_law_676 : decode b_LogCleanerLaw_law 676 = .ok (.iaload, 1) := by decide +kernel
theorem d_LogCleanerLaw_law_677 : decode b_LogCleanerLaw_law 677 = .ok (.i2l, 1) := by decide +kernel
theorem d_LogCleanerLaw_law_678 : decode b_LogCleanerLaw_law 678 = .ok (.bipush 32, 2) := by decide +kernel
theorem d_LogCleanerLaw_law_680 : decode b_LogCleanerLaw_law 680 = .ok (.lshl, 1) := by decide +kernel
theorem d_LogCleanerLaw_law_681 : decode b_LogCleanerLaw_law 681 = .ok (.aload_n 0, 1) := by decide +kernel
theorem d_LogCleanerLaw_law_682 : decode b_LogCleanerLaw_law 682 = .ok (.iload 4, 2) := by decide +kernel
theorem d_LogCleanerLaw_law_684 : decode b_LogCleanerLaw_law 684 = .ok (.iconst 2, 1) := by decide +kernel
theorem d_LogCleanerLaw_law_685 : decode b_LogCleanerLaw_law 685 = .ok (.iadd, 1) := by decide +kernel
theorem d_LogCleanerLaw_law_686 : decode b_LogCleanerLaw_law 686 = .ok (.iaload, 1) := by decide +kernel
theorem d_LogCleanerLaw_law_687 : decode b_LogCleanerLaw_law 687 = .ok (.i2l, 1) := by decide +kernel
theorem d_LogCleanerLaw_law_688 : decode b_LogCleanerLaw_law 688 = .ok (.ldc2_w 46, 3) := by decide +kernel
theorem d_LogCleanerLaw_law_691 : decode b_LogCleanerLaw_law 691 = .ok (.land, 1) := by decide +kernel
theorem d_LogCleanerLaw_law_692 : decode b_LogCleanerLaw_law 692 = .ok (.lor, 1) := by decide +kernel
theorem d_LogCleanerLaw_law_693 : decode b_LogCleanerLaw_law 693 = .ok (.aload_n 0, 1) := by decide +kernel
theorem d_LogCleanerLaw_law_694 : decode b_LogCleanerLaw_law 694 = .ok (.iload 4, 2) := by decide +kernel
theorem d_LogCleanerLaw_law_696 : decode b_LogCleanerLaw_law 696 = .ok (.iconst 3, 1) := by decide +kernel
theorem d_LogCleanerLaw_law_697 : decode b_LogCleanerLaw_law 697 = .ok (.iadd, 1) := by decide +kernel
theorem d_LogCleanerLaw_law_698 : decode b_LogCleanerLaw_law 698 = .ok (.iaload, 1) := by decide +kernel
theorem d_LogCleanerLaw_law_699 : decode b_LogCleanerLaw_law 699 = .ok (.invokevirtual 81, 3) := by decide +kernel
theorem d_LogCleanerLaw_law_702 : decode b_LogCleanerLaw_law 702 = .ok (.istore 6, 2) := by decide +kernel
theorem d_LogCleanerLaw_law_704 : decode b_LogCleanerLaw_law 704 = .ok (.aload_n 2, 1) := by decide +kernel
theorem d_LogCleanerLaw_law_705 : decode b_LogCleanerLaw_law 705 = .ok (.invokevirtual 54, 3) := by decide +kernel
theorem d_LogCleanerLaw_law_708 : decode b_LogCleanerLaw_law 708 = .ok (.iload 5, 2) := by decide +kernel
theorem d_LogCleanerLaw_law_710 : decode b_LogCleanerLaw_law 710 = .ok (.if_icmp .eq 5, 3) := by decide +kernel
theorem d_LogCleanerLaw_law_713 : decode b_LogCleanerLaw_law 713 = .ok (.iconst 0, 1) := by decide +kernel
theorem d_LogCleanerLaw_law_714 : decode b_LogCleanerLaw_law 714 = .ok (.ireturn, 1) := by decide +kernel
theorem d_LogCleanerLaw_law_715 : decode b_LogCleanerLaw_law 715 = .ok (.iload 5, 2) := by decide +kernel
theorem d_LogCleanerLaw_law_717 : decode b_LogCleanerLaw_law 717 = .ok (.ifCond .ne 15, 3) := by decide +kernel
theorem d_LogCleanerLaw_law_720 : decode b_LogCleanerLaw_law 720 = .ok (.aload_n 3, 1) := by decide +kernel
theorem d_LogCleanerLaw_law_721 : decode b_LogCleanerLaw_law 721 = .ok (.iconst 0, 1) := by decide +kernel
theorem d_LogCleanerLaw_law_722 : decode b_LogCleanerLaw_law 722 = .ok (.laload, 1) := by decide +kernel
theorem d_LogCleanerLaw_law_723 : decode b_LogCleanerLaw_law 723 = .ok (.iload 6, 2) := by decide +kernel
theorem d_LogCleanerLaw_law_725 : decode b_LogCleanerLaw_law 725 = .ok (.i2l, 1) := by decide +kernel
theorem d_LogCleanerLaw_law_726 : decode b_LogCleanerLaw_law 726 = .ok (.lcmp, 1) := by decide +kernel
theorem d_LogCleanerLaw_law_727 : decode b_LogCleanerLaw_law 727 = .ok (.ifCond .eq 5, 3) := by decide +kernel
theorem d_LogCleanerLaw_law_730 : decode b_LogCleanerLaw_law 730 = .ok (.iconst 0, 1) := by decide +kernel
theorem d_LogCleanerLaw_law_731 : decode b_LogCleanerLaw_law 731 = .ok (.ireturn, 1) := by decide +kernel
theorem d_LogCleanerLaw_law_732 : decode b_LogCleanerLaw_law 732 = .ok (.goto 3, 3) := by decide +kernel
theorem d_LogCleanerLaw_law_735 : decode b_LogCleanerLaw_law 735 = .ok (.iinc 4 8, 3) := by decide +kernel
theorem d_LogCleanerLaw_law_738 : decode b_LogCleanerLaw_law 738 = .ok (.goto (-715), 3) := by decide +kernel
theorem d_LogCleanerLaw_law_741 : decode b_LogCleanerLaw_law 741 = .ok (.iconst 1, 1) := by decide +kernel
theorem d_LogCleanerLaw_law_742 : decode b_LogCleanerLaw_law 742 = .ok (.ireturn, 1) := by decide +kernel
abbrev wb_LogCleanerLaw_law_735 (d : Nat → ClassId) (k23 : Nat → Nat → Nat → Int32 → xw → Prop) (L : Nat) (xs : Nat → Int32) (x1 : Nat) (x2 : Nat) (x3 : Nat) (x4 : Int32) (h : xw) : Prop :=
  k23 x1 x2 x3 (x4 + 8) h
abbrev wb_LogCleanerLaw_law_273 (d : Nat → ClassId) (k23 : Nat → Nat → Nat → Int32 → xw → Prop) (L : Nat) (xs : Nat → Int32) (x1 : Nat) (x2 : Nat) (x3 : Nat) (x4 : Int32) (h : xw) : Prop :=
  wb_LogCleanerLaw_law_735 d k23 L xs x1 x2 x3 x4 h
abbrev wb_LogCleanerLaw_law_210 (d : Nat → ClassId) (k23 : Nat → Nat → Nat → Int32 → xw → Prop) (L : Nat) (xs : Nat → Int32) (x1 : Nat) (x2 : Nat) (x3 : Nat) (x4 : Int32) (x5 : Int32) (s0 : Int32) (s1 : Int32) (s2 : Int64) (s3 : Nat) (h : xw) : Prop :=
  vp_in (x4 + 5) L ∧ (vp_in (x4 + 6) L ∧ (vp_in (x4 + 7) L ∧ (wIs h s3 4 (wp_LogCleanerModel_record d h s3 s2 s1 s0 ((((xs (x4 + 5).toNatClampNeg).toInt64) <<< ((32 : Int32).toInt64 &&& 63)) ||| (((xs (x4 + 6).toNatClampNeg).toInt64) &&& 4294967295)) (xs (x4 + 7).toNatClampNeg) fun r13 h12 => xfr sgM h h12 →
  wIs h12 x2 4 (wp_LogCleanerModel_thrown d h12 x2 fun r15 h14 => xfr sgM h12 h14 →
  wIf (r15 = x5) (wIf (x5 = 0) (wldl h14 x3 (d 3) 0 fun v16 =>
  wIf ((lg_cmp v16 r13.toInt64) = 0) (wb_LogCleanerLaw_law_273 d k23 L xs x1 x2 x3 x4 h14) (False)) (wb_LogCleanerLaw_law_273 d k23 L xs x1 x2 x3 x4 h14)) (False))))))
abbrev wb_LogCleanerLaw_law_131 (d : Nat → ClassId) (k23 : Nat → Nat → Nat → Int32 → xw → Prop) (L : Nat) (xs : Nat → Int32) (x1 : Nat) (x2 : Nat) (x3 : Nat) (x4 : Int32) (s0 : Int32) (s1 : Int32) (s2 : Int64) (s3 : Nat) (h : xw) : Prop :=
  vp_in (x4 + 5) L ∧ (vp_in (x4 + 6) L ∧ (vp_in (x4 + 7) L ∧ (wp_LogCleanerLaw_record d h (some s3) s2 s1 s0 ((((xs (x4 + 5).toNatClampNeg).toInt64) <<< ((32 : Int32).toInt64 &&& 63)) ||| (((xs (x4 + 6).toNatClampNeg).toInt64) &&& 4294967295)) (xs (x4 + 7).toNatClampNeg) (some x3) fun r11 h10 =>
  vp_in (x4 + 1) L ∧ (vp_in (x4 + 2) L ∧ (vp_in (x4 + 3) L ∧ (vp_in (x4 + 4) L ∧ (wIf ((xs (x4 + 4).toNatClampNeg) = 0) (wb_LogCleanerLaw_law_210 d k23 L xs x1 x2 x3 x4 r11 0 (xs (x4 + 3).toNatClampNeg) ((((xs (x4 + 1).toNatClampNeg).toInt64) <<< ((32 : Int32).toInt64 &&& 63)) ||| (((xs (x4 + 2).toNatClampNeg).toInt64) &&& 4294967295)) x2 h10) (wb_LogCleanerLaw_law_210 d k23 L xs x1 x2 x3 x4 r11 1 (xs (x4 + 3).toNatClampNeg) ((((xs (x4 + 1).toNatClampNeg).toInt64) <<< ((32 : Int32).toInt64 &&& 63)) ||| (((xs (x4 + 2).toNatClampNeg).toInt64) &&& 4294967295)) x2 h10))))))))
abbrev wb_LogCleanerLaw_law_329 (d : Nat → ClassId) (k23 : Nat → Nat → Nat → Int32 → xw → Prop) (L : Nat) (xs : Nat → Int32) (x1 : Nat) (x2 : Nat) (x3 : Nat) (x4 : Int32) (h : xw) : Prop :=
  wb_LogCleanerLaw_law_735 d k23 L xs x1 x2 x3 x4 h
abbrev wb_LogCleanerLaw_law_385 (d : Nat → ClassId) (k23 : Nat → Nat → Nat → Int32 → xw → Prop) (L : Nat) (xs : Nat → Int32) (x1 : Nat) (x2 : Nat) (x3 : Nat) (x4 : Int32) (h : xw) : Prop :=
  wb_LogCleanerLaw_law_735 d k23 L xs x1 x2 x3 x4 h
abbrev wb_LogCleanerLaw_law_441 (d : Nat → ClassId) (k23 : Nat → Nat → Nat → Int32 → xw → Prop) (L : Nat) (xs : Nat → Int32) (x1 : Nat) (x2 : Nat) (x3 : Nat) (x4 : Int32) (h : xw) : Prop :=
  wb_LogCleanerLaw_law_735 d k23 L xs x1 x2 x3 x4 h
abbrev wb_LogCleanerLaw_law_497 (d : Nat → ClassId) (k23 : Nat → Nat → Nat → Int32 → xw → Prop) (L : Nat) (xs : Nat → Int32) (x1 : Nat) (x2 : Nat) (x3 : Nat) (x4 : Int32) (h : xw) : Prop :=
  wb_LogCleanerLaw_law_735 d k23 L xs x1 x2 x3 x4 h
abbrev wb_LogCleanerLaw_law_565 (d : Nat → ClassId) (k23 : Nat → Nat → Nat → Int32 → xw → Prop) (L : Nat) (xs : Nat → Int32) (x1 : Nat) (x2 : Nat) (x3 : Nat) (x4 : Int32) (h : xw) : Prop :=
  wb_LogCleanerLaw_law_735 d k23 L xs x1 x2 x3 x4 h
abbrev wb_LogCleanerLaw_law_632 (d : Nat → ClassId) (k23 : Nat → Nat → Nat → Int32 → xw → Prop) (L : Nat) (xs : Nat → Int32) (x1 : Nat) (x2 : Nat) (x3 : Nat) (x4 : Int32) (h : xw) : Prop :=
  wb_LogCleanerLaw_law_735 d k23 L xs x1 x2 x3 x4 h
abbrev wb_LogCleanerLaw_law_732 (d : Nat → ClassId) (k23 : Nat → Nat → Nat → Int32 → xw → Prop) (L : Nat) (xs : Nat → Int32) (x1 : Nat) (x2 : Nat) (x3 : Nat) (x4 : Int32) (h : xw) : Prop :=
  wb_LogCleanerLaw_law_735 d k23 L xs x1 x2 x3 x4 h
def wc_LogCleanerLaw_law_23 (d : Nat → ClassId) (L : Nat) (xs : Nat → Int32) (k23 : Nat → Nat → Nat → Int32 → xw → Prop) (x1 : Nat) (x2 : Nat) (x3 : Nat) (x4 : Int32) (h : xw) : Prop :=
  wIf (((Int32.ofNat L) - 8) < x4) (True) (vp_in x4 L ∧ ((((xs x4.toNatClampNeg) &&& 7) = 0 → vp_in (x4 + 1) L ∧ (vp_in (x4 + 2) L ∧ (vp_in (x4 + 3) L ∧ (vp_in (x4 + 4) L ∧ (wIf ((xs (x4 + 4).toNatClampNeg) = 0) (wb_LogCleanerLaw_law_131 d k23 L xs x1 x2 x3 x4 0 (xs (x4 + 3).toNatClampNeg) ((((xs (x4 + 1).toNatClampNeg).toInt64) <<< ((32 : Int32).toInt64 &&& 63)) ||| (((xs (x4 + 2).toNatClampNeg).toInt64) &&& 4294967295)) x1 h) (wb_LogCleanerLaw_law_131 d k23 L xs x1 x2 x3 x4 1 (xs (x4 + 3).toNatClampNeg) ((((xs (x4 + 1).toNatClampNeg).toInt64) <<< ((32 : Int32).toInt64 &&& 63)) ||| (((xs (x4 + 2).toNatClampNeg).toInt64) &&& 4294967295)) x1 h)))))) ∧ (((xs x4.toNatClampNeg) &&& 7) = 1 → vp_in (x4 + 1) L ∧ (wp_LogCleanerLaw_close d h (some x1) (xs (x4 + 1).toNatClampNeg) (some x3) fun r18 h17 =>
  vp_in (x4 + 1) L ∧ (wIs h17 x2 4 (wp_LogCleanerModel_close d h17 x2 (xs (x4 + 1).toNatClampNeg) fun r20 h19 => xfr sgM h17 h19 →
  wIs h19 x2 4 (wp_LogCleanerModel_thrown d h19 x2 fun r22 h21 => xfr sgM h19 h21 →
  wIf (r22 = r18) (wIf (r18 = 0) (wldl h21 x3 (d 3) 0 fun v23 =>
  wIf ((lg_cmp v23 r20.toInt64) = 0) (wb_LogCleanerLaw_law_329 d k23 L xs x1 x2 x3 x4 h21) (False)) (wb_LogCleanerLaw_law_329 d k23 L xs x1 x2 x3 x4 h21)) (False)))))) ∧ (((xs x4.toNatClampNeg) &&& 7) = 2 → vp_in (x4 + 1) L ∧ (wp_LogCleanerLaw_clean d h (some x1) (xs (x4 + 1).toNatClampNeg) (some x3) fun r25 h24 =>
  vp_in (x4 + 1) L ∧ (wIs h24 x2 4 (wp_LogCleanerModel_clean d h24 x2 (xs (x4 + 1).toNatClampNeg) fun r27 h26 => xfr sgM h24 h26 →
  wIs h26 x2 4 (wp_LogCleanerModel_thrown d h26 x2 fun r29 h28 => xfr sgM h26 h28 →
  wIf (r29 = r25) (wIf (r25 = 0) (wldl h28 x3 (d 3) 0 fun v30 =>
  wIf ((lg_cmp v30 r27.toInt64) = 0) (wb_LogCleanerLaw_law_385 d k23 L xs x1 x2 x3 x4 h28) (False)) (wb_LogCleanerLaw_law_385 d k23 L xs x1 x2 x3 x4 h28)) (False)))))) ∧ (((xs x4.toNatClampNeg) &&& 7) = 3 → vp_in (x4 + 1) L ∧ (wp_LogCleanerLaw_drop d h (some x1) (xs (x4 + 1).toNatClampNeg) (some x3) fun r32 h31 =>
  vp_in (x4 + 1) L ∧ (wIs h31 x2 4 (wp_LogCleanerModel_drop d h31 x2 (xs (x4 + 1).toNatClampNeg) fun r34 h33 => xfr sgM h31 h33 →
  wIs h33 x2 4 (wp_LogCleanerModel_thrown d h33 x2 fun r36 h35 => xfr sgM h33 h35 →
  wIf (r36 = r32) (wIf (r32 = 0) (wldl h35 x3 (d 3) 0 fun v37 =>
  wIf ((lg_cmp v37 r34.toInt64) = 0) (wb_LogCleanerLaw_law_441 d k23 L xs x1 x2 x3 x4 h35) (False)) (wb_LogCleanerLaw_law_441 d k23 L xs x1 x2 x3 x4 h35)) (False)))))) ∧ (((xs x4.toNatClampNeg) &&& 7) = 4 → vp_in (x4 + 1) L ∧ (wp_LogCleanerLaw_count d h (some x1) (xs (x4 + 1).toNatClampNeg) (some x3) fun r39 h38 =>
  vp_in (x4 + 1) L ∧ (wIs h38 x2 4 (wp_LogCleanerModel_count d h38 x2 (xs (x4 + 1).toNatClampNeg) fun r41 h40 => xfr sgM h38 h40 →
  wIs h40 x2 4 (wp_LogCleanerModel_thrown d h40 x2 fun r43 h42 => xfr sgM h40 h42 →
  wIf (r43 = r39) (wIf (r39 = 0) (wldl h42 x3 (d 3) 0 fun v44 =>
  wIf ((lg_cmp v44 r41.toInt64) = 0) (wb_LogCleanerLaw_law_497 d k23 L xs x1 x2 x3 x4 h42) (False)) (wb_LogCleanerLaw_law_497 d k23 L xs x1 x2 x3 x4 h42)) (False)))))) ∧ (((xs x4.toNatClampNeg) &&& 7) = 5 → vp_in (x4 + 1) L ∧ (vp_in (x4 + 2) L ∧ (wp_LogCleanerLaw_batch d h (some x1) (xs (x4 + 1).toNatClampNeg) (xs (x4 + 2).toNatClampNeg) (some x3) fun r46 h45 =>
  vp_in (x4 + 1) L ∧ (vp_in (x4 + 2) L ∧ (wIs h45 x2 4 (wp_LogCleanerModel_batch d h45 x2 (xs (x4 + 1).toNatClampNeg) (xs (x4 + 2).toNatClampNeg) fun r48 h47 => xfr sgM h45 h47 →
  wIs h47 x2 4 (wp_LogCleanerModel_thrown d h47 x2 fun r50 h49 => xfr sgM h47 h49 →
  wIf (r50 = r46) (wIf (r46 = 0) (wldl h49 x3 (d 3) 0 fun v51 =>
  wIf ((lg_cmp v51 r48.toInt64) = 0) (wb_LogCleanerLaw_law_565 d k23 L xs x1 x2 x3 x4 h49) (False)) (wb_LogCleanerLaw_law_565 d k23 L xs x1 x2 x3 x4 h49)) (False)))))))) ∧ (((xs x4.toNatClampNeg) &&& 7) = 6 → vp_in (x4 + 1) L ∧ (vp_in (x4 + 2) L ∧ (wp_LogCleanerLaw_told d h (some x1) (xs (x4 + 1).toNatClampNeg) (xs (x4 + 2).toNatClampNeg) (some x3) fun r53 h52 =>
  vp_in (x4 + 1) L ∧ (vp_in (x4 + 2) L ∧ (wIs h52 x2 4 (wp_LogCleanerModel_told d h52 x2 (xs (x4 + 1).toNatClampNeg) (xs (x4 + 2).toNatClampNeg) fun r55 h54 => xfr sgM h52 h54 →
  wIs h54 x2 4 (wp_LogCleanerModel_thrown d h54 x2 fun r57 h56 => xfr sgM h54 h56 →
  wIf (r57 = r53) (wIf (r53 = 0) (wldl h56 x3 (d 3) 0 fun v58 =>
  wIf ((lg_cmp v58 r55) = 0) (wb_LogCleanerLaw_law_632 d k23 L xs x1 x2 x3 x4 h56) (False)) (wb_LogCleanerLaw_law_632 d k23 L xs x1 x2 x3 x4 h56)) (False)))))))) ∧ (((xs x4.toNatClampNeg) &&& 7) = 7 → vp_in (x4 + 1) L ∧ (vp_in (x4 + 2) L ∧ (vp_in (x4 + 3) L ∧ (wp_LogCleanerLaw_latest d h (some x1) ((((xs (x4 + 1).toNatClampNeg).toInt64) <<< ((32 : Int32).toInt64 &&& 63)) ||| (((xs (x4 + 2).toNatClampNeg).toInt64) &&& 4294967295)) (xs (x4 + 3).toNatClampNeg) (some x3) fun r60 h59 =>
  vp_in (x4 + 1) L ∧ (vp_in (x4 + 2) L ∧ (vp_in (x4 + 3) L ∧ (wIs h59 x2 4 (wp_LogCleanerModel_latest d h59 x2 ((((xs (x4 + 1).toNatClampNeg).toInt64) <<< ((32 : Int32).toInt64 &&& 63)) ||| (((xs (x4 + 2).toNatClampNeg).toInt64) &&& 4294967295)) (xs (x4 + 3).toNatClampNeg) fun r62 h61 => xfr sgM h59 h61 →
  wIs h61 x2 4 (wp_LogCleanerModel_thrown d h61 x2 fun r64 h63 => xfr sgM h61 h63 →
  wIf (r64 = r60) (wIf (r60 = 0) (wldl h63 x3 (d 3) 0 fun v65 =>
  wIf ((lg_cmp v65 r62.toInt64) = 0) (wb_LogCleanerLaw_law_732 d k23 L xs x1 x2 x3 x4 h63) (False)) (wb_LogCleanerLaw_law_732 d k23 L xs x1 x2 x3 x4 h63)) (False)))))))))) ∧ (((xs x4.toNatClampNeg) &&& 7).toInt < 0 ∨ 7 < ((xs x4.toNatClampNeg) &&& 7).toInt → wb_LogCleanerLaw_law_735 d k23 L xs x1 x2 x3 x4 h)))
def wp_LogCleanerLaw_law (d : Nat → ClassId) (L : Nat) (xs : Nat → Int32) (h : xw) : Prop :=
  wnew h (.inr (0, z_LogCleaner)) fun q2 h1 =>
  wp_LogCleaner_init d h1 q2 fun h3 => xfr sgX h1 h3 →
  wnew h3 (.inr (4, z_LogCleanerModel)) fun q5 h4 =>
  wp_LogCleanerModel_init d h4 q5 fun h6 => xfr sgM h4 h6 →
  wnewA h6 1 1 (fun n => xal (d 3) n (fun _ => 0)) fun q8 h7 =>
  xloop (fun (k : Nat × Nat × Nat × Int32 → xw → Prop) (x : Nat × Nat × Nat × Int32) (h : xw) => wc_LogCleanerLaw_law_23 d L xs (fun y1 y2 y3 y4 h => k (y1, y2, y3, y4) h) x.1 x.2.1 x.2.2.1 x.2.2.2 h) 513 (q2, q5, q8, 0) h7
set_option maxHeartbeats 4000000 in
set_option maxRecDepth 100000 in
theorem sb_LogCleanerLaw_law_735 {p : Program} {l : Launch} {e : Env} {s : State} {m : MethodId} {below : List Frame} {meth : Method} {c : Code} {D : va_G} {d : Nat → ClassId} {b L : Nat} {xs : Nat → Int32} {h0 : xw} {k23 : Nat → Nat → Nat → Int32 → xw → Prop} (C0 : lawC p l s m meth c b L xs D d) {cT sT : Nat} (hcT : cT + 2 ≤ 1100) (hsT : sT + 105 ≤ 90000) (hk23 : ∀ (x1 : Nat) (x2 : Nat) (x3 : Nat) (x4 : Int32) (h : xw) (H : Heap) (locs : List Loc) (ls : Array Slot), k23 x1 x2 x3 x4 h → xR sgT h0 D (fun q : Nat => s.heap.size ≤ q) h H → va_S (fun q : Nat => s.heap.size ≤ q) s.heap H locs → lv_has ls 8 [(0, .ref b), (1, .ref x1), (2, .ref x2), (3, .ref x3), (4, .int x4)] → W p l e room_1 s m #[Value.ref b] below meth c H locs (cT + 2) (sT + 105) (lw_Z below #[Value.ref b] s) (F0 m 23 ls [])) : ∀ (x1 : Nat) (x2 : Nat) (x3 : Nat) (x4 : Int32) (h : xw) (H : Heap) (locs : List Loc) (ls : Array Slot), wb_LogCleanerLaw_law_735 d k23 L xs x1 x2 x3 x4 h → xR sgT h0 D (fun q : Nat => s.heap.size ≤ q) h H → va_S (fun q : Nat => s.heap.size ≤ q) s.heap H locs → lv_has ls 8 [(0, .ref b), (1, .ref x1), (2, .ref x2), (3, .ref x3), (4, .int x4)] → W p l e room_1 s m #[Value.ref b] below meth c H locs (cT + 2) (sT + 105) (lw_Z below #[Value.ref b] s) (F0 m 735 ls []) := by
  obtain ⟨⟨hx, hb, hr, hml, hown, hts, hXs, hbl, hlocks, hgv⟩, hL, hK, hNB, hlt, hZ1, hZ2, hSt, hNc⟩ := id C0
  have htb : ∀ w ∈ TB, w.before #[Value.ref b] s = true := fun w hw => hts w (List.mem_filter.mp hw).1
  have hA : ∀ q : Nat, s.heap.size ≤ q → (fun q : Nat => s.heap.size ≤ q) q := fun _ h => h
  have hbA : ¬ (fun q : Nat => s.heap.size ≤ q) b := Nat.not_le.mpr hbl
  intro x1 x2 x3 x4 h H locs ls hw hP hS hl
  refine lv_iinc (v := x4 + 8) (lv' := [(4, .int (x4 + 8)), (0, .ref b), (1, .ref x1), (2, .ref x2), (3, .ref x3)]) hx hb d_LogCleanerLaw_law_735 hl (k := 4) rfl rfl (by decide) rfl (fun ls hl => ?_)
  refine lv_goto (tgt := 23) hx hb d_LogCleanerLaw_law_738 (by decide) ?_
  refine W.widen (k := cT + 2) (n := sT + 105) (by omega) (by omega) ?_
  exact hk23 x1 x2 x3 (x4 + 8) h _ _ _ hw hP hS (lv_sub hl [1, 2, 3, 4, 0] rfl)

set_option maxHeartbeats 4000000 in
set_option maxRecDepth 100000 in
theorem sb_LogCleanerLaw_law_273 {p : Program} {l : Launch} {e : Env} {s : State} {m : MethodId} {below : List Frame} {meth : Method} {c : Code} {D : va_G} {d : Nat → ClassId} {b L : Nat} {xs : Nat → Int32} {h0 : xw} {k23 : Nat → Nat → Nat → Int32 → xw → Prop} (C0 : lawC p l s m meth c b L xs D d) {cT sT : Nat} (hcT : cT + 2 ≤ 1100) (hsT : sT + 105 ≤ 90000) (hk23 : ∀ (x1 : Nat) (x2 : Nat) (x3 : Nat) (x4 : Int32) (h : xw) (H : Heap) (locs : List Loc) (ls : Array Slot), k23 x1 x2 x3 x4 h → xR sgT h0 D (fun q : Nat => s.heap.size ≤ q) h H → va_S (fun q : Nat => s.heap.size ≤ q) s.heap H locs → lv_has ls 8 [(0, .ref b), (1, .ref x1), (2, .ref x2), (3, .ref x3), (4, .int x4)] → W p l e room_1 s m #[Value.ref b] below meth c H locs (cT + 2) (sT + 105) (lw_Z below #[Value.ref b] s) (F0 m 23 ls [])) : ∀ (x1 : Nat) (x2 : Nat) (x3 : Nat) (x4 : Int32) (h : xw) (H : Heap) (locs : List Loc) (ls : Array Slot), wb_LogCleanerLaw_law_273 d k23 L xs x1 x2 x3 x4 h → xR sgT h0 D (fun q : Nat => s.heap.size ≤ q) h H → va_S (fun q : Nat => s.heap.size ≤ q) s.heap H locs → lv_has ls 8 [(0, .ref b), (1, .ref x1), (2, .ref x2), (3, .ref x3), (4, .int x4)] → W p l e room_1 s m #[Value.ref b] below meth c H locs (cT + 1) (sT + 7) (lw_Z below #[Value.ref b] s) (F0 m 273 ls []) := by
  obtain ⟨⟨hx, hb, hr, hml, hown, hts, hXs, hbl, hlocks, hgv⟩, hL, hK, hNB, hlt, hZ1, hZ2, hSt, hNc⟩ := id C0
  have htb : ∀ w ∈ TB, w.before #[Value.ref b] s = true := fun w hw => hts w (List.mem_filter.mp hw).1
  have hA : ∀ q : Nat, s.heap.size ≤ q → (fun q : Nat => s.heap.size ≤ q) q := fun _ h => h
  have hbA : ¬ (fun q : Nat => s.heap.size ≤ q) b := Nat.not_le.mpr hbl
  intro x1 x2 x3 x4 h H locs ls hw hP hS hl
  refine lv_goto (tgt := 735) hx hb d_LogCleanerLaw_law_273 (by decide) ?_
  refine W.widen (k := (cT + 2)) (n := (sT + 105)) (by omega) (by omega) ?_
  exact sb_LogCleanerLaw_law_735 C0 hcT hsT hk23 x1 x2 x3 x4 h _ _ _ hw hP hS (lv_sub hl [0, 1, 2, 3, 4] rfl)

set_option maxHeartbeats 4000000 in
set_option maxRecDepth 100000 in
theorem sb_LogCleanerLaw_law_210 {p : Program} {l : Launch} {e : Env} {s : State} {m : MethodId} {below : List Frame} {meth : Method} {c : Code} {D : va_G} {d : Nat → ClassId} {b L : Nat} {xs : Nat → Int32} {h0 : xw} {k23 : Nat → Nat → Nat → Int32 → xw → Prop} (C0 : lawC p l s m meth c b L xs D d) {cT sT : Nat} (hcT : cT + 2 ≤ 1100) (hsT : sT + 105 ≤ 90000) (hk23 : ∀ (x1 : Nat) (x2 : Nat) (x3 : Nat) (x4 : Int32) (h : xw) (H : Heap) (locs : List Loc) (ls : Array Slot), k23 x1 x2 x3 x4 h → xR sgT h0 D (fun q : Nat => s.heap.size ≤ q) h H → va_S (fun q : Nat => s.heap.size ≤ q) s.heap H locs → lv_has ls 8 [(0, .ref b), (1, .ref x1), (2, .ref x2), (3, .ref x3), (4, .int x4)] → W p l e room_1 s m #[Value.ref b] below meth c H locs (cT + 2) (sT + 105) (lw_Z below #[Value.ref b] s) (F0 m 23 ls [])) : ∀ (x1 : Nat) (x2 : Nat) (x3 : Nat) (x4 : Int32) (x5 : Int32) (s0 : Int32) (s1 : Int32) (s2 : Int64) (s3 : Nat) (h : xw) (H : Heap) (locs : List Loc) (ls : Array Slot), wb_LogCleanerLaw_law_210 d k23 L xs x1 x2 x3 x4 x5 s0 s1 s2 s3 h → xR sgT h0 D (fun q : Nat => s.heap.size ≤ q) h H → va_S (fun q : Nat => s.heap.size ≤ q) s.heap H locs → lv_has ls 8 [(0, .ref b), (1, .ref x1), (2, .ref x2), (3, .ref x3), (4, .int x4), (5, .int x5)] → W p l e room_1 s m #[Value.ref b] below meth c H locs (cT + 1) (sT + 7) (lw_Z below #[Value.ref b] s) (F0 m 210 ls [.int s0, .int s1, .long s2, .ref s3]) := by
  obtain ⟨⟨hx, hb, hr, hml, hown, hts, hXs, hbl, hlocks, hgv⟩, hL, hK, hNB, hlt, hZ1, hZ2, hSt, hNc⟩ := id C0
  have htb : ∀ w ∈ TB, w.before #[Value.ref b] s = true := fun w hw => hts w (List.mem_filter.mp hw).1
  have hA : ∀ q : Nat, s.heap.size ≤ q → (fun q : Nat => s.heap.size ≤ q) q := fun _ h => h
  have hbA : ¬ (fun q : Nat => s.heap.size ≤ q) b := Nat.not_le.mpr hbl
  intro x1 x2 x3 x4 x5 s0 s1 s2 s3 h H locs ls hw hP hS hl
  refine lv_aload_n hx hb d_LogCleanerLaw_law_210 rfl (lv_at hl 0 rfl) ?_
  refine lv_iload hx hb d_LogCleanerLaw_law_211 (lv_at hl 4 rfl) ?_
  refine lv_iconst (v := 5) hx hb d_LogCleanerLaw_law_213 (by decide) ?_
  refine lv_iadd hx hb d_LogCleanerLaw_law_214 ?_
  refine va_sld hx hb hXs hbl hbA hS hw.1 d_LogCleanerLaw_law_215 ?_
  replace hw := hw.2
  refine lv_i2l (v := (xs (x4 + 5).toNatClampNeg).toInt64) hx hb d_LogCleanerLaw_law_216 rfl ?_
  refine lv_bipush (v := 32) hx hb d_LogCleanerLaw_law_217 (by decide) ?_
  refine lv_lshl (v := ((xs (x4 + 5).toNatClampNeg).toInt64) <<< ((32 : Int32).toInt64 &&& 63)) hx hb d_LogCleanerLaw_law_219 rfl ?_
  refine lv_aload_n hx hb d_LogCleanerLaw_law_220 rfl (lv_at hl 0 rfl) ?_
  refine lv_iload hx hb d_LogCleanerLaw_law_221 (lv_at hl 4 rfl) ?_
  refine lv_bipush (v := 6) hx hb d_LogCleanerLaw_law_223 (by decide) ?_
  refine lv_iadd hx hb d_LogCleanerLaw_law_225 ?_
  refine va_sld hx hb hXs hbl hbA hS hw.1 d_LogCleanerLaw_law_226 ?_
  replace hw := hw.2
  refine lv_i2l (v := (xs (x4 + 6).toNatClampNeg).toInt64) hx hb d_LogCleanerLaw_law_227 rfl ?_
  refine lv_ldc2 (v := 4294967295) hx hb hown (htb _ k_LogCleanerLaw_46) d_LogCleanerLaw_law_228 ?_
  refine lv_land hx hb d_LogCleanerLaw_law_231 ?_
  refine lv_lor hx hb d_LogCleanerLaw_law_232 ?_
  refine lv_aload_n hx hb d_LogCleanerLaw_law_233 rfl (lv_at hl 0 rfl) ?_
  refine lv_iload hx hb d_LogCleanerLaw_law_234 (lv_at hl 4 rfl) ?_
  refine lv_bipush (v := 7) hx hb d_LogCleanerLaw_law_236 (by decide) ?_
  refine lv_iadd hx hb d_LogCleanerLaw_law_238 ?_
  refine va_sld hx hb hXs hbl hbA hS hw.1 d_LogCleanerLaw_law_239 ?_
  replace hw := hw.2
  obtain ⟨⟨_, hw0⟩, hw⟩ := hw
  refine ycalli (va_runV (b := s3) (As := [.long s2, .int s1, .int s0, .long ((((xs (x4 + 5).toNatClampNeg).toInt64) <<< ((32 : Int32).toInt64 &&& 63)) ||| (((xs (x4 + 6).toNatClampNeg).toInt64) &&& 4294967295)), .int (xs (x4 + 7).toNatClampNeg)]) (rest := []) ⟨hx, hb, hml, hown, htb⟩ (m_LogCleanerModel_record l D d h _ s3 s2 s1 s0 ((((xs (x4 + 5).toNatClampNeg).toInt64) <<< ((32 : Int32).toInt64 &&& 63)) ||| (((xs (x4 + 6).toNatClampNeg).toInt64) &&& 4294967295)) (xs (x4 + 7).toNatClampNeg) _ hw) (xcwV 5 htb g_code_LogCleanerModel_record g_ini_LogCleanerModel k_LogCleanerLaw_53 g_im_LogCleanerModel_record g_sel_LogCleanerModel_record rfl rfl (by decide +kernel) ⟨(Nat.le_of_ble_eq_true rfl), (Nat.le_of_ble_eq_true rfl)⟩) (xpreV hP hK hNB (ci := 4) rfl hw0) rfl rfl hl.1 rfl (lv_room (Nat.le_of_ble_eq_true rfl)) d_LogCleanerLaw_law_240 ⟨(by refine Nat.le_trans ?_ lw_rc; omega), (by refine Nat.le_trans ?_ lw_rs; omega)⟩) hP (fun _ _ => rfl) hS hA (fun r13 h12 H locs hw hfr hP hS => ?_)
  replace hw := hw hfr
  refine W.widen (k := (cT + 1)) (n := (sT + 7)) (by omega) (by omega) ?_
  refine lv_istore (lv' := [(6, .int r13), (0, .ref b), (1, .ref x1), (2, .ref x2), (3, .ref x3), (4, .int x4), (5, .int x5)]) hx hb d_LogCleanerLaw_law_243 hl (by decide) rfl (fun ls hl => ?_)
  refine lv_aload_n hx hb d_LogCleanerLaw_law_245 rfl (lv_at hl 3 rfl) ?_
  obtain ⟨⟨_, hw0⟩, hw⟩ := hw
  refine ycalli (va_runV (b := x2) (As := []) (rest := []) ⟨hx, hb, hml, hown, htb⟩ (m_LogCleanerModel_thrown l D d h12 _ x2 _ hw) (xcwV 0 htb g_code_LogCleanerModel_thrown g_ini_LogCleanerModel k_LogCleanerLaw_54 g_im_LogCleanerModel_thrown g_sel_LogCleanerModel_thrown rfl rfl (by decide +kernel) ⟨(Nat.le_of_ble_eq_true rfl), (Nat.le_of_ble_eq_true rfl)⟩) (xpreV hP hK hNB (ci := 4) rfl hw0) rfl rfl hl.1 rfl (lv_room (Nat.le_of_ble_eq_true rfl)) d_LogCleanerLaw_law_246 ⟨(by refine Nat.le_trans ?_ lw_rc; omega), (by refine Nat.le_trans ?_ lw_rs; omega)⟩) hP (fun _ _ => rfl) hS hA (fun r15 h14 H locs hw hfr hP hS => ?_)
  replace hw := hw hfr
  refine W.widen (k := (cT + 1)) (n := (sT + 7)) (by omega) (by omega) ?_
  refine lv_iload hx hb d_LogCleanerLaw_law_249 (lv_at hl 6 rfl) ?_
  refine lv_icmp_eq (tgt := 256) hx hb d_LogCleanerLaw_law_251 (by decide) (fun cq => ?_) (fun cq => ?_)
  · replace hw := hw.1 cq
    refine lv_iload hx hb d_LogCleanerLaw_law_256 (lv_at hl 6 rfl) ?_
    refine lv_if_ne (tgt := 273) hx hb d_LogCleanerLaw_law_258 (by decide) (fun cq => ?_) (fun cq => ?_)
    · replace hw := hw.2 cq
      exact sb_LogCleanerLaw_law_273 C0 hcT hsT hk23 x1 x2 x3 x4 h14 _ _ _ hw hP hS (lv_sub hl [1, 2, 3, 4, 5] rfl)
    · replace hw := hw.1 cq
      refine lv_aload_n hx hb d_LogCleanerLaw_law_261 rfl (lv_at hl 4 rfl) ?_
      refine lv_iconst (v := 0) hx hb d_LogCleanerLaw_law_262 (by decide) ?_
      refine xldl hx hb hK hP 3 rfl hw d_LogCleanerLaw_law_263 (fun v16 hw => ?_)
      refine lv_iload hx hb d_LogCleanerLaw_law_264 (lv_at hl 0 rfl) ?_
      refine lv_i2l (v := r13.toInt64) hx hb d_LogCleanerLaw_law_266 rfl ?_
      refine W.lcmp hx hb d_LogCleanerLaw_law_267 ?_
      refine lv_if_eq (tgt := 273) hx hb d_LogCleanerLaw_law_268 (by decide) (fun cq => ?_) (fun cq => ?_)
      · replace hw := hw.1 cq
        exact sb_LogCleanerLaw_law_273 C0 hcT hsT hk23 x1 x2 x3 x4 h14 _ _ _ hw hP hS (lv_sub hl [1, 2, 3, 4, 5] rfl)
      · replace hw := hw.2 cq
        refine lv_iconst (v := 0) hx hb d_LogCleanerLaw_law_271 (by decide) ?_
        exact hw.elim
  · replace hw := hw.2 cq
    refine lv_iconst (v := 0) hx hb d_LogCleanerLaw_law_254 (by decide) ?_
    exact hw.elim

set_option maxHeartbeats 4000000 in
set_option maxRecDepth 100000 in
theorem sb_LogCleanerLaw_law_131 {p : Program} {l : Launch} {e : Env} {s : State} {m : MethodId} {below : List Frame} {meth : Method} {c : Code} {D : va_G} {d : Nat → ClassId} {b L : Nat} {xs : Nat → Int32} {h0 : xw} {k23 : Nat → Nat → Nat → Int32 → xw → Prop} (C0 : lawC p l s m meth c b L xs D d) {cT sT : Nat} (hcT : cT + 2 ≤ 1100) (hsT : sT + 105 ≤ 90000) (hk23 : ∀ (x1 : Nat) (x2 : Nat) (x3 : Nat) (x4 : Int32) (h : xw) (H : Heap) (locs : List Loc) (ls : Array Slot), k23 x1 x2 x3 x4 h → xR sgT h0 D (fun q : Nat => s.heap.size ≤ q) h H → va_S (fun q : Nat => s.heap.size ≤ q) s.heap H locs → lv_has ls 8 [(0, .ref b), (1, .ref x1), (2, .ref x2), (3, .ref x3), (4, .int x4)] → W p l e room_1 s m #[Value.ref b] below meth c H locs (cT + 2) (sT + 105) (lw_Z below #[Value.ref b] s) (F0 m 23 ls [])) : ∀ (x1 : Nat) (x2 : Nat) (x3 : Nat) (x4 : Int32) (s0 : Int32) (s1 : Int32) (s2 : Int64) (s3 : Nat) (h : xw) (H : Heap) (locs : List Loc) (ls : Array Slot), wb_LogCleanerLaw_law_131 d k23 L xs x1 x2 x3 x4 s0 s1 s2 s3 h → xR sgT h0 D (fun q : Nat => s.heap.size ≤ q) h H → va_S (fun q : Nat => s.heap.size ≤ q) s.heap H locs → lv_has ls 8 [(0, .ref b), (1, .ref x1), (2, .ref x2), (3, .ref x3), (4, .int x4)] → W p l e room_1 s m #[Value.ref b] below meth c H locs cT sT (lw_Z below #[Value.ref b] s) (F0 m 131 ls [.int s0, .int s1, .long s2, .ref s3]) := by
  obtain ⟨⟨hx, hb, hr, hml, hown, hts, hXs, hbl, hlocks, hgv⟩, hL, hK, hNB, hlt, hZ1, hZ2, hSt, hNc⟩ := id C0
  have htb : ∀ w ∈ TB, w.before #[Value.ref b] s = true := fun w hw => hts w (List.mem_filter.mp hw).1
  have hA : ∀ q : Nat, s.heap.size ≤ q → (fun q : Nat => s.heap.size ≤ q) q := fun _ h => h
  have hbA : ¬ (fun q : Nat => s.heap.size ≤ q) b := Nat.not_le.mpr hbl
  intro x1 x2 x3 x4 s0 s1 s2 s3 h H locs ls hw hP hS hl
  refine lv_aload_n hx hb d_LogCleanerLaw_law_131 rfl (lv_at hl 0 rfl) ?_
  refine lv_iload hx hb d_LogCleanerLaw_law_132 (lv_at hl 4 rfl) ?_
  refine lv_iconst (v := 5) hx hb d_LogCleanerLaw_law_134 (by decide) ?_
  refine lv_iadd hx hb d_LogCleanerLaw_law_135 ?_
  refine va_sld hx hb hXs hbl hbA hS hw.1 d_LogCleanerLaw_law_136 ?_
  replace hw := hw.2
  refine lv_i2l (v := (xs (x4 + 5).toNatClampNeg).toInt64) hx hb d_LogCleanerLaw_law_137 rfl ?_
  refine lv_bipush (v := 32) hx hb d_LogCleanerLaw_law_138 (by decide) ?_
  refine lv_lshl (v := ((xs (x4 + 5).toNatClampNeg).toInt64) <<< ((32 : Int32).toInt64 &&& 63)) hx hb d_LogCleanerLaw_law_140 rfl ?_
  refine lv_aload_n hx hb d_LogCleanerLaw_law_141 rfl (lv_at hl 0 rfl) ?_
  refine lv_iload hx hb d_LogCleanerLaw_law_142 (lv_at hl 4 rfl) ?_
  refine lv_bipush (v := 6) hx hb d_LogCleanerLaw_law_144 (by decide) ?_
  refine lv_iadd hx hb d_LogCleanerLaw_law_146 ?_
  refine va_sld hx hb hXs hbl hbA hS hw.1 d_LogCleanerLaw_law_147 ?_
  replace hw := hw.2
  refine lv_i2l (v := (xs (x4 + 6).toNatClampNeg).toInt64) hx hb d_LogCleanerLaw_law_148 rfl ?_
  refine lv_ldc2 (v := 4294967295) hx hb hown (htb _ k_LogCleanerLaw_46) d_LogCleanerLaw_law_149 ?_
  refine lv_land hx hb d_LogCleanerLaw_law_152 ?_
  refine lv_lor hx hb d_LogCleanerLaw_law_153 ?_
  refine lv_aload_n hx hb d_LogCleanerLaw_law_154 rfl (lv_at hl 0 rfl) ?_
  refine lv_iload hx hb d_LogCleanerLaw_law_155 (lv_at hl 4 rfl) ?_
  refine lv_bipush (v := 7) hx hb d_LogCleanerLaw_law_157 (by decide) ?_
  refine lv_iadd hx hb d_LogCleanerLaw_law_159 ?_
  refine va_sld hx hb hXs hbl hbA hS hw.1 d_LogCleanerLaw_law_160 ?_
  replace hw := hw.2
  refine lv_aload_n hx hb d_LogCleanerLaw_law_161 rfl (lv_at hl 3 rfl) ?_
  refine xcalli (vx_runSW (As := [.ref s3, .long s2, .int s1, .int s0, .long ((((xs (x4 + 5).toNatClampNeg).toInt64) <<< ((32 : Int32).toInt64 &&& 63)) ||| (((xs (x4 + 6).toNatClampNeg).toInt64) &&& 4294967295)), .int (xs (x4 + 7).toNatClampNeg), .ref x3]) (rest := []) ⟨hx, hb, hml, hown, htb⟩ (m_LogCleanerLaw_record l hlt D d h _ (some s3) s2 s1 s0 ((((xs (x4 + 5).toNatClampNeg).toInt64) <<< ((32 : Int32).toInt64 &&& 63)) ||| (((xs (x4 + 6).toNatClampNeg).toInt64) &&& 4294967295)) (xs (x4 + 7).toNatClampNeg) (some x3) _ hw) (xcwSW 7 htb g_cw_LogCleanerLaw_record g_ini_LogCleanerLaw k_LogCleanerLaw_48 g_st_LogCleanerLaw_record rfl rfl (by decide +kernel) ⟨(Nat.le_of_ble_eq_true rfl), (Nat.le_of_ble_eq_true rfl)⟩) (xpreSH hP hK hNB hS hA hZ1 hZ2 hSt hNc) rfl rfl hl.1 rfl (lv_room (Nat.le_of_ble_eq_true rfl)) d_LogCleanerLaw_law_162 ⟨(by refine Nat.le_trans ?_ lw_rc; omega), (by refine Nat.le_trans ?_ lw_rs; omega)⟩) hP hS hA (fun r11 h10 H locs hw hP hS => ?_)
  refine W.widen (k := (cT + 1)) (n := (sT + 7)) (by omega) (by omega) ?_
  refine lv_istore (lv' := [(5, .int r11), (0, .ref b), (1, .ref x1), (2, .ref x2), (3, .ref x3), (4, .int x4)]) hx hb d_LogCleanerLaw_law_165 hl (by decide) rfl (fun ls hl => ?_)
  refine lv_aload_n hx hb d_LogCleanerLaw_law_167 rfl (lv_at hl 3 rfl) ?_
  refine lv_aload_n hx hb d_LogCleanerLaw_law_168 rfl (lv_at hl 1 rfl) ?_
  refine lv_iload hx hb d_LogCleanerLaw_law_169 (lv_at hl 5 rfl) ?_
  refine lv_iconst (v := 1) hx hb d_LogCleanerLaw_law_171 (by decide) ?_
  refine lv_iadd hx hb d_LogCleanerLaw_law_172 ?_
  refine va_sld hx hb hXs hbl hbA hS hw.1 d_LogCleanerLaw_law_173 ?_
  replace hw := hw.2
  refine lv_i2l (v := (xs (x4 + 1).toNatClampNeg).toInt64) hx hb d_LogCleanerLaw_law_174 rfl ?_
  refine lv_bipush (v := 32) hx hb d_LogCleanerLaw_law_175 (by decide) ?_
  refine lv_lshl (v := ((xs (x4 + 1).toNatClampNeg).toInt64) <<< ((32 : Int32).toInt64 &&& 63)) hx hb d_LogCleanerLaw_law_177 rfl ?_
  refine lv_aload_n hx hb d_LogCleanerLaw_law_178 rfl (lv_at hl 1 rfl) ?_
  refine lv_iload hx hb d_LogCleanerLaw_law_179 (lv_at hl 5 rfl) ?_
  refine lv_iconst (v := 2) hx hb d_LogCleanerLaw_law_181 (by decide) ?_
  refine lv_iadd hx hb d_LogCleanerLaw_law_182 ?_
  refine va_sld hx hb hXs hbl hbA hS hw.1 d_LogCleanerLaw_law_183 ?_
  replace hw := hw.2
  refine lv_i2l (v := (xs (x4 + 2).toNatClampNeg).toInt64) hx hb d_LogCleanerLaw_law_184 rfl ?_
  refine lv_ldc2 (v := 4294967295) hx hb hown (htb _ k_LogCleanerLaw_46) d_LogCleanerLaw_law_185 ?_
  refine lv_land hx hb d_LogCleanerLaw_law_188 ?_
  refine lv_lor hx hb d_LogCleanerLaw_law_189 ?_
  refine lv_aload_n hx hb d_LogCleanerLaw_law_190 rfl (lv_at hl 1 rfl) ?_
  refine lv_iload hx hb d_LogCleanerLaw_law_191 (lv_at hl 5 rfl) ?_
  refine lv_iconst (v := 3) hx hb d_LogCleanerLaw_law_193 (by decide) ?_
  refine lv_iadd hx hb d_LogCleanerLaw_law_194 ?_
  refine va_sld hx hb hXs hbl hbA hS hw.1 d_LogCleanerLaw_law_195 ?_
  replace hw := hw.2
  refine lv_aload_n hx hb d_LogCleanerLaw_law_196 rfl (lv_at hl 1 rfl) ?_
  refine lv_iload hx hb d_LogCleanerLaw_law_197 (lv_at hl 5 rfl) ?_
  refine lv_iconst (v := 4) hx hb d_LogCleanerLaw_law_199 (by decide) ?_
  refine lv_iadd hx hb d_LogCleanerLaw_law_200 ?_
  refine va_sld hx hb hXs hbl hbA hS hw.1 d_LogCleanerLaw_law_201 ?_
  replace hw := hw.2
  refine lv_if_eq (tgt := 209) hx hb d_LogCleanerLaw_law_202 (by decide) (fun cq => ?_) (fun cq => ?_)
  · replace hw := hw.1 cq
    refine lv_iconst (v := 0) hx hb d_LogCleanerLaw_law_209 (by decide) ?_
    exact sb_LogCleanerLaw_law_210 C0 hcT hsT hk23 x1 x2 x3 x4 r11 0 (xs (x4 + 3).toNatClampNeg) ((((xs (x4 + 1).toNatClampNeg).toInt64) <<< ((32 : Int32).toInt64 &&& 63)) ||| (((xs (x4 + 2).toNatClampNeg).toInt64) &&& 4294967295)) x2 h10 _ _ _ hw hP hS (lv_sub hl [1, 2, 3, 4, 5, 0] rfl)
  · replace hw := hw.2 cq
    refine lv_iconst (v := 1) hx hb d_LogCleanerLaw_law_205 (by decide) ?_
    refine lv_goto (tgt := 210) hx hb d_LogCleanerLaw_law_206 (by decide) ?_
    exact sb_LogCleanerLaw_law_210 C0 hcT hsT hk23 x1 x2 x3 x4 r11 1 (xs (x4 + 3).toNatClampNeg) ((((xs (x4 + 1).toNatClampNeg).toInt64) <<< ((32 : Int32).toInt64 &&& 63)) ||| (((xs (x4 + 2).toNatClampNeg).toInt64) &&& 4294967295)) x2 h10 _ _ _ hw hP hS (lv_sub hl [1, 2, 3, 4, 5, 0] rfl)

set_option maxHeartbeats 4000000 in
set_option maxRecDepth 100000 in
theorem sb_LogCleanerLaw_law_329 {p : Program} {l : Launch} {e : Env} {s : State} {m : MethodId} {below : List Frame} {meth : Method} {c : Code} {D : va_G} {d : Nat → ClassId} {b L : Nat} {xs : Nat → Int32} {h0 : xw} {k23 : Nat → Nat → Nat → Int32 → xw → Prop} (C0 : lawC p l s m meth c b L xs D d) {cT sT : Nat} (hcT : cT + 2 ≤ 1100) (hsT : sT + 105 ≤ 90000) (hk23 : ∀ (x1 : Nat) (x2 : Nat) (x3 : Nat) (x4 : Int32) (h : xw) (H : Heap) (locs : List Loc) (ls : Array Slot), k23 x1 x2 x3 x4 h → xR sgT h0 D (fun q : Nat => s.heap.size ≤ q) h H → va_S (fun q : Nat => s.heap.size ≤ q) s.heap H locs → lv_has ls 8 [(0, .ref b), (1, .ref x1), (2, .ref x2), (3, .ref x3), (4, .int x4)] → W p l e room_1 s m #[Value.ref b] below meth c H locs (cT + 2) (sT + 105) (lw_Z below #[Value.ref b] s) (F0 m 23 ls [])) : ∀ (x1 : Nat) (x2 : Nat) (x3 : Nat) (x4 : Int32) (h : xw) (H : Heap) (locs : List Loc) (ls : Array Slot), wb_LogCleanerLaw_law_329 d k23 L xs x1 x2 x3 x4 h → xR sgT h0 D (fun q : Nat => s.heap.size ≤ q) h H → va_S (fun q : Nat => s.heap.size ≤ q) s.heap H locs → lv_has ls 8 [(0, .ref b), (1, .ref x1), (2, .ref x2), (3, .ref x3), (4, .int x4)] → W p l e room_1 s m #[Value.ref b] below meth c H locs (cT + 2) (sT + 105) (lw_Z below #[Value.ref b] s) (F0 m 329 ls []) := by
  obtain ⟨⟨hx, hb, hr, hml, hown, hts, hXs, hbl, hlocks, hgv⟩, hL, hK, hNB, hlt, hZ1, hZ2, hSt, hNc⟩ := id C0
  have htb : ∀ w ∈ TB, w.before #[Value.ref b] s = true := fun w hw => hts w (List.mem_filter.mp hw).1
  have hA : ∀ q : Nat, s.heap.size ≤ q → (fun q : Nat => s.heap.size ≤ q) q := fun _ h => h
  have hbA : ¬ (fun q : Nat => s.heap.size ≤ q) b := Nat.not_le.mpr hbl
  intro x1 x2 x3 x4 h H locs ls hw hP hS hl
  refine lv_goto (tgt := 735) hx hb d_LogCleanerLaw_law_329 (by decide) ?_
  exact sb_LogCleanerLaw_law_735 C0 hcT hsT hk23 x1 x2 x3 x4 h _ _ _ hw hP hS (lv_sub hl [0, 1, 2, 3, 4] rfl)

set_option maxHeartbeats 4000000 in
set_option maxRecDepth 100000 in
theorem sb_LogCleanerLaw_law_385 {p : Program} {l : Launch} {e : Env} {s : State} {m : MethodId} {below : List Frame} {meth : Method} {c : Code} {D : va_G} {d : Nat → ClassId} {b L : Nat} {xs : Nat → Int32} {h0 : xw} {k23 : Nat → Nat → Nat → Int32 → xw → Prop} (C0 : lawC p l s m meth c b L xs D d) {cT sT : Nat} (hcT : cT + 2 ≤ 1100) (hsT : sT + 105 ≤ 90000) (hk23 : ∀ (x1 : Nat) (x2 : Nat) (x3 : Nat) (x4 : Int32) (h : xw) (H : Heap) (locs : List Loc) (ls : Array Slot), k23 x1 x2 x3 x4 h → xR sgT h0 D (fun q : Nat => s.heap.size ≤ q) h H → va_S (fun q : Nat => s.heap.size ≤ q) s.heap H locs → lv_has ls 8 [(0, .ref b), (1, .ref x1), (2, .ref x2), (3, .ref x3), (4, .int x4)] → W p l e room_1 s m #[Value.ref b] below meth c H locs (cT + 2) (sT + 105) (lw_Z below #[Value.ref b] s) (F0 m 23 ls [])) : ∀ (x1 : Nat) (x2 : Nat) (x3 : Nat) (x4 : Int32) (h : xw) (H : Heap) (locs : List Loc) (ls : Array Slot), wb_LogCleanerLaw_law_385 d k23 L xs x1 x2 x3 x4 h → xR sgT h0 D (fun q : Nat => s.heap.size ≤ q) h H → va_S (fun q : Nat => s.heap.size ≤ q) s.heap H locs → lv_has ls 8 [(0, .ref b), (1, .ref x1), (2, .ref x2), (3, .ref x3), (4, .int x4)] → W p l e room_1 s m #[Value.ref b] below meth c H locs (cT + 1) (sT + 6) (lw_Z below #[Value.ref b] s) (F0 m 385 ls []) := by
  obtain ⟨⟨hx, hb, hr, hml, hown, hts, hXs, hbl, hlocks, hgv⟩, hL, hK, hNB, hlt, hZ1, hZ2, hSt, hNc⟩ := id C0
  have htb : ∀ w ∈ TB, w.before #[Value.ref b] s = true := fun w hw => hts w (List.mem_filter.mp hw).1
  have hA : ∀ q : Nat, s.heap.size ≤ q → (fun q : Nat => s.heap.size ≤ q) q := fun _ h => h
  have hbA : ¬ (fun q : Nat => s.heap.size ≤ q) b := Nat.not_le.mpr hbl
  intro x1 x2 x3 x4 h H locs ls hw hP hS hl
  refine lv_goto (tgt := 735) hx hb d_LogCleanerLaw_law_385 (by decide) ?_
  refine W.widen (k := (cT + 2)) (n := (sT + 105)) (by omega) (by omega) ?_
  exact sb_LogCleanerLaw_law_735 C0 hcT hsT hk23 x1 x2 x3 x4 h _ _ _ hw hP hS (lv_sub hl [0, 1, 2, 3, 4] rfl)

set_option maxHeartbeats 4000000 in
set_option maxRecDepth 100000 in
theorem sb_LogCleanerLaw_law_441 {p : Program} {l : Launch} {e : Env} {s : State} {m : MethodId} {below : List Frame} {meth : Method} {c : Code} {D : va_G} {d : Nat → ClassId} {b L : Nat} {xs : Nat → Int32} {h0 : xw} {k23 : Nat → Nat → Nat → Int32 → xw → Prop} (C0 : lawC p l s m meth c b L xs D d) {cT sT : Nat} (hcT : cT + 2 ≤ 1100) (hsT : sT + 105 ≤ 90000) (hk23 : ∀ (x1 : Nat) (x2 : Nat) (x3 : Nat) (x4 : Int32) (h : xw) (H : Heap) (locs : List Loc) (ls : Array Slot), k23 x1 x2 x3 x4 h → xR sgT h0 D (fun q : Nat => s.heap.size ≤ q) h H → va_S (fun q : Nat => s.heap.size ≤ q) s.heap H locs → lv_has ls 8 [(0, .ref b), (1, .ref x1), (2, .ref x2), (3, .ref x3), (4, .int x4)] → W p l e room_1 s m #[Value.ref b] below meth c H locs (cT + 2) (sT + 105) (lw_Z below #[Value.ref b] s) (F0 m 23 ls [])) : ∀ (x1 : Nat) (x2 : Nat) (x3 : Nat) (x4 : Int32) (h : xw) (H : Heap) (locs : List Loc) (ls : Array Slot), wb_LogCleanerLaw_law_441 d k23 L xs x1 x2 x3 x4 h → xR sgT h0 D (fun q : Nat => s.heap.size ≤ q) h H → va_S (fun q : Nat => s.heap.size ≤ q) s.heap H locs → lv_has ls 8 [(0, .ref b), (1, .ref x1), (2, .ref x2), (3, .ref x3), (4, .int x4)] → W p l e room_1 s m #[Value.ref b] below meth c H locs (cT + 1) (sT + 6) (lw_Z below #[Value.ref b] s) (F0 m 441 ls []) := by
  obtain ⟨⟨hx, hb, hr, hml, hown, hts, hXs, hbl, hlocks, hgv⟩, hL, hK, hNB, hlt, hZ1, hZ2, hSt, hNc⟩ := id C0
  have htb : ∀ w ∈ TB, w.before #[Value.ref b] s = true := fun w hw => hts w (List.mem_filter.mp hw).1
  have hA : ∀ q : Nat, s.heap.size ≤ q → (fun q : Nat => s.heap.size ≤ q) q := fun _ h => h
  have hbA : ¬ (fun q : Nat => s.heap.size ≤ q) b := Nat.not_le.mpr hbl
  intro x1 x2 x3 x4 h H locs ls hw hP hS hl
  refine lv_goto (tgt := 735) hx hb d_LogCleanerLaw_law_441 (by decide) ?_
  refine W.widen (k := (cT + 2)) (n := (sT + 105)) (by omega) (by omega) ?_
  exact sb_LogCleanerLaw_law_735 C0 hcT hsT hk23 x1 x2 x3 x4 h _ _ _ hw hP hS (lv_sub hl [0, 1, 2, 3, 4] rfl)

set_option maxHeartbeats 4000000 in
set_option maxRecDepth 100000 in
theorem sb_LogCleanerLaw_law_497 {p : Program} {l : Launch} {e : Env} {s : State} {m : MethodId} {below : List Frame} {meth : Method} {c : Code} {D : va_G} {d : Nat → ClassId} {b L : Nat} {xs : Nat → Int32} {h0 : xw} {k23 : Nat → Nat → Nat → Int32 → xw → Prop} (C0 : lawC p l s m meth c b L xs D d) {cT sT : Nat} (hcT : cT + 2 ≤ 1100) (hsT : sT + 105 ≤ 90000) (hk23 : ∀ (x1 : Nat) (x2 : Nat) (x3 : Nat) (x4 : Int32) (h : xw) (H : Heap) (locs : List Loc) (ls : Array Slot), k23 x1 x2 x3 x4 h → xR sgT h0 D (fun q : Nat => s.heap.size ≤ q) h H → va_S (fun q : Nat => s.heap.size ≤ q) s.heap H locs → lv_has ls 8 [(0, .ref b), (1, .ref x1), (2, .ref x2), (3, .ref x3), (4, .int x4)] → W p l e room_1 s m #[Value.ref b] below meth c H locs (cT + 2) (sT + 105) (lw_Z below #[Value.ref b] s) (F0 m 23 ls [])) : ∀ (x1 : Nat) (x2 : Nat) (x3 : Nat) (x4 : Int32) (h : xw) (H : Heap) (locs : List Loc) (ls : Array Slot), wb_LogCleanerLaw_law_497 d k23 L xs x1 x2 x3 x4 h → xR sgT h0 D (fun q : Nat => s.heap.size ≤ q) h H → va_S (fun q : Nat => s.heap.size ≤ q) s.heap H locs → lv_has ls 8 [(0, .ref b), (1, .ref x1), (2, .ref x2), (3, .ref x3), (4, .int x4)] → W p l e room_1 s m #[Value.ref b] below meth c H locs (cT + 1) (sT + 6) (lw_Z below #[Value.ref b] s) (F0 m 497 ls []) := by
  obtain ⟨⟨hx, hb, hr, hml, hown, hts, hXs, hbl, hlocks, hgv⟩, hL, hK, hNB, hlt, hZ1, hZ2, hSt, hNc⟩ := id C0
  have htb : ∀ w ∈ TB, w.before #[Value.ref b] s = true := fun w hw => hts w (List.mem_filter.mp hw).1
  have hA : ∀ q : Nat, s.heap.size ≤ q → (fun q : Nat => s.heap.size ≤ q) q := fun _ h => h
  have hbA : ¬ (fun q : Nat => s.heap.size ≤ q) b := Nat.not_le.mpr hbl
  intro x1 x2 x3 x4 h H locs ls hw hP hS hl
  refine lv_goto (tgt := 735) hx hb d_LogCleanerLaw_law_497 (by decide) ?_
  refine W.widen (k := (cT + 2)) (n := (sT + 105)) (by omega) (by omega) ?_
  exact sb_LogCleanerLaw_law_735 C0 hcT hsT hk23 x1 x2 x3 x4 h _ _ _ hw hP hS (lv_sub hl [0, 1, 2, 3, 4] rfl)

set_option maxHeartbeats 4000000 in
set_option maxRecDepth 100000 in
theorem sb_LogCleanerLaw_law_565 {p : Program} {l : Launch} {e : Env} {s : State} {m : MethodId} {below : List Frame} {meth : Method} {c : Code} {D : va_G} {d : Nat → ClassId} {b L : Nat} {xs : Nat → Int32} {h0 : xw} {k23 : Nat → Nat → Nat → Int32 → xw → Prop} (C0 : lawC p l s m meth c b L xs D d) {cT sT : Nat} (hcT : cT + 2 ≤ 1100) (hsT : sT + 105 ≤ 90000) (hk23 : ∀ (x1 : Nat) (x2 : Nat) (x3 : Nat) (x4 : Int32) (h : xw) (H : Heap) (locs : List Loc) (ls : Array Slot), k23 x1 x2 x3 x4 h → xR sgT h0 D (fun q : Nat => s.heap.size ≤ q) h H → va_S (fun q : Nat => s.heap.size ≤ q) s.heap H locs → lv_has ls 8 [(0, .ref b), (1, .ref x1), (2, .ref x2), (3, .ref x3), (4, .int x4)] → W p l e room_1 s m #[Value.ref b] below meth c H locs (cT + 2) (sT + 105) (lw_Z below #[Value.ref b] s) (F0 m 23 ls [])) : ∀ (x1 : Nat) (x2 : Nat) (x3 : Nat) (x4 : Int32) (h : xw) (H : Heap) (locs : List Loc) (ls : Array Slot), wb_LogCleanerLaw_law_565 d k23 L xs x1 x2 x3 x4 h → xR sgT h0 D (fun q : Nat => s.heap.size ≤ q) h H → va_S (fun q : Nat => s.heap.size ≤ q) s.heap H locs → lv_has ls 8 [(0, .ref b), (1, .ref x1), (2, .ref x2), (3, .ref x3), (4, .int x4)] → W p l e room_1 s m #[Value.ref b] below meth c H locs (cT + 1) (sT + 6) (lw_Z below #[Value.ref b] s) (F0 m 565 ls []) := by
  obtain ⟨⟨hx, hb, hr, hml, hown, hts, hXs, hbl, hlocks, hgv⟩, hL, hK, hNB, hlt, hZ1, hZ2, hSt, hNc⟩ := id C0
  have htb : ∀ w ∈ TB, w.before #[Value.ref b] s = true := fun w hw => hts w (List.mem_filter.mp hw).1
  have hA : ∀ q : Nat, s.heap.size ≤ q → (fun q : Nat => s.heap.size ≤ q) q := fun _ h => h
  have hbA : ¬ (fun q : Nat => s.heap.size ≤ q) b := Nat.not_le.mpr hbl
  intro x1 x2 x3 x4 h H locs ls hw hP hS hl
  refine lv_goto (tgt := 735) hx hb d_LogCleanerLaw_law_565 (by decide) ?_
  refine W.widen (k := (cT + 2)) (n := (sT + 105)) (by omega) (by omega) ?_
  exact sb_LogCleanerLaw_law_735 C0 hcT hsT hk23 x1 x2 x3 x4 h _ _ _ hw hP hS (lv_sub hl [0, 1, 2, 3, 4] rfl)

set_option maxHeartbeats 4000000 in
set_option maxRecDepth 100000 in
theorem sb_LogCleanerLaw_law_632 {p : Program} {l : Launch} {e : Env} {s : State} {m : MethodId} {below : List Frame} {meth : Method} {c : Code} {D : va_G} {d : Nat → ClassId} {b L : Nat} {xs : Nat → Int32} {h0 : xw} {k23 : Nat → Nat → Nat → Int32 → xw → Prop} (C0 : lawC p l s m meth c b L xs D d) {cT sT : Nat} (hcT : cT + 2 ≤ 1100) (hsT : sT + 105 ≤ 90000) (hk23 : ∀ (x1 : Nat) (x2 : Nat) (x3 : Nat) (x4 : Int32) (h : xw) (H : Heap) (locs : List Loc) (ls : Array Slot), k23 x1 x2 x3 x4 h → xR sgT h0 D (fun q : Nat => s.heap.size ≤ q) h H → va_S (fun q : Nat => s.heap.size ≤ q) s.heap H locs → lv_has ls 8 [(0, .ref b), (1, .ref x1), (2, .ref x2), (3, .ref x3), (4, .int x4)] → W p l e room_1 s m #[Value.ref b] below meth c H locs (cT + 2) (sT + 105) (lw_Z below #[Value.ref b] s) (F0 m 23 ls [])) : ∀ (x1 : Nat) (x2 : Nat) (x3 : Nat) (x4 : Int32) (h : xw) (H : Heap) (locs : List Loc) (ls : Array Slot), wb_LogCleanerLaw_law_632 d k23 L xs x1 x2 x3 x4 h → xR sgT h0 D (fun q : Nat => s.heap.size ≤ q) h H → va_S (fun q : Nat => s.heap.size ≤ q) s.heap H locs → lv_has ls 8 [(0, .ref b), (1, .ref x1), (2, .ref x2), (3, .ref x3), (4, .int x4)] → W p l e room_1 s m #[Value.ref b] below meth c H locs (cT + 1) (sT + 6) (lw_Z below #[Value.ref b] s) (F0 m 632 ls []) := by
  obtain ⟨⟨hx, hb, hr, hml, hown, hts, hXs, hbl, hlocks, hgv⟩, hL, hK, hNB, hlt, hZ1, hZ2, hSt, hNc⟩ := id C0
  have htb : ∀ w ∈ TB, w.before #[Value.ref b] s = true := fun w hw => hts w (List.mem_filter.mp hw).1
  have hA : ∀ q : Nat, s.heap.size ≤ q → (fun q : Nat => s.heap.size ≤ q) q := fun _ h => h
  have hbA : ¬ (fun q : Nat => s.heap.size ≤ q) b := Nat.not_le.mpr hbl
  intro x1 x2 x3 x4 h H locs ls hw hP hS hl
  refine lv_goto (tgt := 735) hx hb d_LogCleanerLaw_law_632 (by decide) ?_
  refine W.widen (k := (cT + 2)) (n := (sT + 105)) (by omega) (by omega) ?_
  exact sb_LogCleanerLaw_law_735 C0 hcT hsT hk23 x1 x2 x3 x4 h _ _ _ hw hP hS (lv_sub hl [0, 1, 2, 3, 4] rfl)

set_option maxHeartbeats 4000000 in
set_option maxRecDepth 100000 in
theorem sb_LogCleanerLaw_law_732 {p : Program} {l : Launch} {e : Env} {s : State} {m : MethodId} {below : List Frame} {meth : Method} {c : Code} {D : va_G} {d : Nat → ClassId} {b L : Nat} {xs : Nat → Int32} {h0 : xw} {k23 : Nat → Nat → Nat → Int32 → xw → Prop} (C0 : lawC p l s m meth c b L xs D d) {cT sT : Nat} (hcT : cT + 2 ≤ 1100) (hsT : sT + 105 ≤ 90000) (hk23 : ∀ (x1 : Nat) (x2 : Nat) (x3 : Nat) (x4 : Int32) (h : xw) (H : Heap) (locs : List Loc) (ls : Array Slot), k23 x1 x2 x3 x4 h → xR sgT h0 D (fun q : Nat => s.heap.size ≤ q) h H → va_S (fun q : Nat => s.heap.size ≤ q) s.heap H locs → lv_has ls 8 [(0, .ref b), (1, .ref x1), (2, .ref x2), (3, .ref x3), (4, .int x4)] → W p l e room_1 s m #[Value.ref b] below meth c H locs (cT + 2) (sT + 105) (lw_Z below #[Value.ref b] s) (F0 m 23 ls [])) : ∀ (x1 : Nat) (x2 : Nat) (x3 : Nat) (x4 : Int32) (h : xw) (H : Heap) (locs : List Loc) (ls : Array Slot), wb_LogCleanerLaw_law_732 d k23 L xs x1 x2 x3 x4 h → xR sgT h0 D (fun q : Nat => s.heap.size ≤ q) h H → va_S (fun q : Nat => s.heap.size ≤ q) s.heap H locs → lv_has ls 8 [(0, .ref b), (1, .ref x1), (2, .ref x2), (3, .ref x3), (4, .int x4)] → W p l e room_1 s m #[Value.ref b] below meth c H locs (cT + 1) (sT + 6) (lw_Z below #[Value.ref b] s) (F0 m 732 ls []) := by
  obtain ⟨⟨hx, hb, hr, hml, hown, hts, hXs, hbl, hlocks, hgv⟩, hL, hK, hNB, hlt, hZ1, hZ2, hSt, hNc⟩ := id C0
  have htb : ∀ w ∈ TB, w.before #[Value.ref b] s = true := fun w hw => hts w (List.mem_filter.mp hw).1
  have hA : ∀ q : Nat, s.heap.size ≤ q → (fun q : Nat => s.heap.size ≤ q) q := fun _ h => h
  have hbA : ¬ (fun q : Nat => s.heap.size ≤ q) b := Nat.not_le.mpr hbl
  intro x1 x2 x3 x4 h H locs ls hw hP hS hl
  refine lv_goto (tgt := 735) hx hb d_LogCleanerLaw_law_732 (by decide) ?_
  refine W.widen (k := (cT + 2)) (n := (sT + 105)) (by omega) (by omega) ?_
  exact sb_LogCleanerLaw_law_735 C0 hcT hsT hk23 x1 x2 x3 x4 h _ _ _ hw hP hS (lv_sub hl [0, 1, 2, 3, 4] rfl)

set_option maxHeartbeats 4000000 in
set_option maxRecDepth 100000 in
theorem sl_LogCleanerLaw_law_23 {p : Program} {l : Launch} {e : Env} {s : State} {m : MethodId} {below : List Frame} {meth : Method} {c : Code} {D : va_G} {d : Nat → ClassId} {b L : Nat} {xs : Nat → Int32} {h0 : xw} (C0 : lawC p l s m meth c b L xs D d) : ∀ (n t : Nat) (x : Nat × Nat × Nat × Int32) (h : xw) (H : Heap) (locs : List Loc) (ls : Array Slot), t + n ≤ 513 → xloop (fun (k : Nat × Nat × Nat × Int32 → xw → Prop) (x : Nat × Nat × Nat × Int32) (h : xw) => wc_LogCleanerLaw_law_23 d L xs (fun y1 y2 y3 y4 h => k (y1, y2, y3, y4) h) x.1 x.2.1 x.2.2.1 x.2.2.2 h) n x h → xR sgT h0 D (fun q : Nat => s.heap.size ≤ q) h H → va_S (fun q : Nat => s.heap.size ≤ q) s.heap H locs → lv_has ls 8 [(0, .ref b), (1, .ref x.1), (2, .ref x.2.1), (3, .ref x.2.2.1), (4, .int x.2.2.2)] → W p l e room_1 s m #[Value.ref b] below meth c H locs (24 + t * 2) (35033 + t * 105) (lw_Z below #[Value.ref b] s) (F0 m 23 ls []) := by
  obtain ⟨⟨hx, hb, hr, hml, hown, hts, hXs, hbl, hlocks, hgv⟩, hL, hK, hNB, hlt, hZ1, hZ2, hSt, hNc⟩ := id C0
  have htb : ∀ w ∈ TB, w.before #[Value.ref b] s = true := fun w hw => hts w (List.mem_filter.mp hw).1
  have hA : ∀ q : Nat, s.heap.size ≤ q → (fun q : Nat => s.heap.size ≤ q) q := fun _ h => h
  have hbA : ¬ (fun q : Nat => s.heap.size ≤ q) b := Nat.not_le.mpr hbl
  intro n
  induction n with
  | zero => intro t x h H locs ls _ hw; exact hw.elim
  | succ n ih =>
    rintro t ⟨x1, x2, x3, x4⟩ h H locs ls htn hw hP hS hl
    replace hw : wc_LogCleanerLaw_law_23 d L xs (fun y1 y2 y3 y4 h => xloop (fun (k : Nat × Nat × Nat × Int32 → xw → Prop) (x : Nat × Nat × Nat × Int32) (h : xw) => wc_LogCleanerLaw_law_23 d L xs (fun y1 y2 y3 y4 h => k (y1, y2, y3, y4) h) x.1 x.2.1 x.2.2.1 x.2.2.2 h) n (y1, y2, y3, y4) h) x1 x2 x3 x4 h := hw
    obtain ⟨cT, hcTe⟩ : ∃ z : Nat, z = 24 + t * 2 := ⟨_, rfl⟩
    obtain ⟨sT, hsTe⟩ : ∃ z : Nat, z = 35033 + t * 105 := ⟨_, rfl⟩
    have hcT : cT + 2 ≤ 1100 := by omega
    have hsT : sT + 105 ≤ 90000 := by omega
    have hk23 : ∀ (x1 : Nat) (x2 : Nat) (x3 : Nat) (x4 : Int32) (h : xw) (H : Heap) (locs : List Loc) (ls : Array Slot), xloop (fun (k : Nat × Nat × Nat × Int32 → xw → Prop) (x : Nat × Nat × Nat × Int32) (h : xw) => wc_LogCleanerLaw_law_23 d L xs (fun y1 y2 y3 y4 h => k (y1, y2, y3, y4) h) x.1 x.2.1 x.2.2.1 x.2.2.2 h) n (x1, x2, x3, x4) h → xR sgT h0 D (fun q : Nat => s.heap.size ≤ q) h H → va_S (fun q : Nat => s.heap.size ≤ q) s.heap H locs → lv_has ls 8 [(0, .ref b), (1, .ref x1), (2, .ref x2), (3, .ref x3), (4, .int x4)] → W p l e room_1 s m #[Value.ref b] below meth c H locs (cT + 2) (sT + 105) (lw_Z below #[Value.ref b] s) (F0 m 23 ls []) := fun x1 x2 x3 x4 h H locs ls k1 k2 k3 k4 => by
      have e1 := ih (t + 1) (x1, x2, x3, x4) h H locs ls (by omega) k1 k2 k3 k4
      rw [show 24 + (t + 1) * 2 = cT + 2 by omega, show 35033 + (t + 1) * 105 = sT + 105 by omega] at e1
      exact e1
    rw [← hcTe, ← hsTe]
    refine lv_iload hx hb d_LogCleanerLaw_law_23 (lv_at hl 4 rfl) ?_
    refine lv_aload_n hx hb d_LogCleanerLaw_law_25 rfl (lv_at hl 0 rfl) ?_
    refine va_slen hx hb hXs hbl hbA hS d_LogCleanerLaw_law_26 ?_
    refine lv_bipush (v := 8) hx hb d_LogCleanerLaw_law_27 (by decide) ?_
    refine lv_isub hx hb d_LogCleanerLaw_law_29 ?_
    refine lv_icmp_gt (tgt := 741) hx hb d_LogCleanerLaw_law_30 (by decide) (fun cq => ?_) (fun cq => ?_)
    · replace hw := hw.1 cq
      refine lv_iconst (v := 1) hx hb d_LogCleanerLaw_law_741 (by decide) ?_
      refine va_forget (fun q hq => hS.2.2 q hq) ?_
      refine W.widen (k := room_1.cells) (n := room_1.slots) (by refine Nat.le_trans ?_ lw_rc; omega) (by refine Nat.le_trans ?_ lw_rs; omega) ?_
      exact lw_ret hx hb hr hlocks d_LogCleanerLaw_law_742
    · replace hw := hw.2 cq
      refine lv_aload_n hx hb d_LogCleanerLaw_law_33 rfl (lv_at hl 0 rfl) ?_
      refine lv_iload hx hb d_LogCleanerLaw_law_34 (lv_at hl 4 rfl) ?_
      refine va_sld hx hb hXs hbl hbA hS hw.1 d_LogCleanerLaw_law_36 ?_
      replace hw := hw.2
      refine lv_bipush (v := 7) hx hb d_LogCleanerLaw_law_37 (by decide) ?_
      refine lv_iand hx hb d_LogCleanerLaw_law_39 ?_
      by_cases cq : ((xs x4.toNatClampNeg) &&& 7).toInt < 0 ∨ 7 < ((xs x4.toNatClampNeg) &&& 7).toInt
      · replace hw := hw.2.2.2.2.2.2.2.2 cq
        refine lv_tableOut (tgt := 735) hx hb d_LogCleanerLaw_law_40 cq (by decide) ?_
        refine W.widen (k := (cT + 2)) (n := (sT + 105)) (by omega) (by omega) ?_
        exact sb_LogCleanerLaw_law_735 C0 hcT hsT hk23 x1 x2 x3 x4 h _ _ _ hw hP hS (lv_sub hl [0, 1, 2, 3, 4] rfl)
      · have cz : ((xs x4.toNatClampNeg) &&& 7) = 0 ∨ ((xs x4.toNatClampNeg) &&& 7) = 1 ∨ ((xs x4.toNatClampNeg) &&& 7) = 2 ∨ ((xs x4.toNatClampNeg) &&& 7) = 3 ∨ ((xs x4.toNatClampNeg) &&& 7) = 4 ∨ ((xs x4.toNatClampNeg) &&& 7) = 5 ∨ ((xs x4.toNatClampNeg) &&& 7) = 6 ∨ ((xs x4.toNatClampNeg) &&& 7) = 7 := by
          have cz : ((xs x4.toNatClampNeg) &&& 7).toInt = 0 ∨ ((xs x4.toNatClampNeg) &&& 7).toInt = 1 ∨ ((xs x4.toNatClampNeg) &&& 7).toInt = 2 ∨ ((xs x4.toNatClampNeg) &&& 7).toInt = 3 ∨ ((xs x4.toNatClampNeg) &&& 7).toInt = 4 ∨ ((xs x4.toNatClampNeg) &&& 7).toInt = 5 ∨ ((xs x4.toNatClampNeg) &&& 7).toInt = 6 ∨ ((xs x4.toNatClampNeg) &&& 7).toInt = 7 := by omega
          rcases cz with cz | cz | cz | cz | cz | cz | cz | cz
          · exact Or.inl (xsw cz rfl)
          · exact Or.inr (Or.inl (xsw cz rfl))
          · exact Or.inr (Or.inr (Or.inl (xsw cz rfl)))
          · exact Or.inr (Or.inr (Or.inr (Or.inl (xsw cz rfl))))
          · exact Or.inr (Or.inr (Or.inr (Or.inr (Or.inl (xsw cz rfl)))))
          · exact Or.inr (Or.inr (Or.inr (Or.inr (Or.inr (Or.inl (xsw cz rfl))))))
          · exact Or.inr (Or.inr (Or.inr (Or.inr (Or.inr (Or.inr (Or.inl (xsw cz rfl)))))))
          · exact Or.inr (Or.inr (Or.inr (Or.inr (Or.inr (Or.inr (Or.inr (xsw cz rfl)))))))
        rcases cz with cz | cz | cz | cz | cz | cz | cz | cz
        · replace hw := hw.1 cz
          refine lv_tableIn (tgt := 88) hx hb d_LogCleanerLaw_law_40 (by rw [cz]; decide) (by rw [cz]; decide) (by rw [cz]; rfl) (by decide) ?_
          refine lv_aload_n hx hb d_LogCleanerLaw_law_88 rfl (lv_at hl 1 rfl) ?_
          refine lv_aload_n hx hb d_LogCleanerLaw_law_89 rfl (lv_at hl 0 rfl) ?_
          refine lv_iload hx hb d_LogCleanerLaw_law_90 (lv_at hl 4 rfl) ?_
          refine lv_iconst (v := 1) hx hb d_LogCleanerLaw_law_92 (by decide) ?_
          refine lv_iadd hx hb d_LogCleanerLaw_law_93 ?_
          refine va_sld hx hb hXs hbl hbA hS hw.1 d_LogCleanerLaw_law_94 ?_
          replace hw := hw.2
          refine lv_i2l (v := (xs (x4 + 1).toNatClampNeg).toInt64) hx hb d_LogCleanerLaw_law_95 rfl ?_
          refine lv_bipush (v := 32) hx hb d_LogCleanerLaw_law_96 (by decide) ?_
          refine lv_lshl (v := ((xs (x4 + 1).toNatClampNeg).toInt64) <<< ((32 : Int32).toInt64 &&& 63)) hx hb d_LogCleanerLaw_law_98 rfl ?_
          refine lv_aload_n hx hb d_LogCleanerLaw_law_99 rfl (lv_at hl 0 rfl) ?_
          refine lv_iload hx hb d_LogCleanerLaw_law_100 (lv_at hl 4 rfl) ?_
          refine lv_iconst (v := 2) hx hb d_LogCleanerLaw_law_102 (by decide) ?_
          refine lv_iadd hx hb d_LogCleanerLaw_law_103 ?_
          refine va_sld hx hb hXs hbl hbA hS hw.1 d_LogCleanerLaw_law_104 ?_
          replace hw := hw.2
          refine lv_i2l (v := (xs (x4 + 2).toNatClampNeg).toInt64) hx hb d_LogCleanerLaw_law_105 rfl ?_
          refine lv_ldc2 (v := 4294967295) hx hb hown (htb _ k_LogCleanerLaw_46) d_LogCleanerLaw_law_106 ?_
          refine lv_land hx hb d_LogCleanerLaw_law_109 ?_
          refine lv_lor hx hb d_LogCleanerLaw_law_110 ?_
          refine lv_aload_n hx hb d_LogCleanerLaw_law_111 rfl (lv_at hl 0 rfl) ?_
          refine lv_iload hx hb d_LogCleanerLaw_law_112 (lv_at hl 4 rfl) ?_
          refine lv_iconst (v := 3) hx hb d_LogCleanerLaw_law_114 (by decide) ?_
          refine lv_iadd hx hb d_LogCleanerLaw_law_115 ?_
          refine va_sld hx hb hXs hbl hbA hS hw.1 d_LogCleanerLaw_law_116 ?_
          replace hw := hw.2
          refine lv_aload_n hx hb d_LogCleanerLaw_law_117 rfl (lv_at hl 0 rfl) ?_
          refine lv_iload hx hb d_LogCleanerLaw_law_118 (lv_at hl 4 rfl) ?_
          refine lv_iconst (v := 4) hx hb d_LogCleanerLaw_law_120 (by decide) ?_
          refine lv_iadd hx hb d_LogCleanerLaw_law_121 ?_
          refine va_sld hx hb hXs hbl hbA hS hw.1 d_LogCleanerLaw_law_122 ?_
          replace hw := hw.2
          refine lv_if_eq (tgt := 130) hx hb d_LogCleanerLaw_law_123 (by decide) (fun cq => ?_) (fun cq => ?_)
          · replace hw := hw.1 cq
            refine lv_iconst (v := 0) hx hb d_LogCleanerLaw_law_130 (by decide) ?_
            exact sb_LogCleanerLaw_law_131 C0 hcT hsT hk23 x1 x2 x3 x4 0 (xs (x4 + 3).toNatClampNeg) ((((xs (x4 + 1).toNatClampNeg).toInt64) <<< ((32 : Int32).toInt64 &&& 63)) ||| (((xs (x4 + 2).toNatClampNeg).toInt64) &&& 4294967295)) x1 h _ _ _ hw hP hS (lv_sub hl [0, 1, 2, 3, 4] rfl)
          · replace hw := hw.2 cq
            refine lv_iconst (v := 1) hx hb d_LogCleanerLaw_law_126 (by decide) ?_
            refine lv_goto (tgt := 131) hx hb d_LogCleanerLaw_law_127 (by decide) ?_
            exact sb_LogCleanerLaw_law_131 C0 hcT hsT hk23 x1 x2 x3 x4 1 (xs (x4 + 3).toNatClampNeg) ((((xs (x4 + 1).toNatClampNeg).toInt64) <<< ((32 : Int32).toInt64 &&& 63)) ||| (((xs (x4 + 2).toNatClampNeg).toInt64) &&& 4294967295)) x1 h _ _ _ hw hP hS (lv_sub hl [0, 1, 2, 3, 4] rfl)
        · replace hw := hw.2.1 cz
          refine lv_tableIn (tgt := 276) hx hb d_LogCleanerLaw_law_40 (by rw [cz]; decide) (by rw [cz]; decide) (by rw [cz]; rfl) (by decide) ?_
          refine lv_aload_n hx hb d_LogCleanerLaw_law_276 rfl (lv_at hl 1 rfl) ?_
          refine lv_aload_n hx hb d_LogCleanerLaw_law_277 rfl (lv_at hl 0 rfl) ?_
          refine lv_iload hx hb d_LogCleanerLaw_law_278 (lv_at hl 4 rfl) ?_
          refine lv_iconst (v := 1) hx hb d_LogCleanerLaw_law_280 (by decide) ?_
          refine lv_iadd hx hb d_LogCleanerLaw_law_281 ?_
          refine va_sld hx hb hXs hbl hbA hS hw.1 d_LogCleanerLaw_law_282 ?_
          replace hw := hw.2
          refine lv_aload_n hx hb d_LogCleanerLaw_law_283 rfl (lv_at hl 3 rfl) ?_
          refine xcalli (vx_runSW (As := [.ref x1, .int (xs (x4 + 1).toNatClampNeg), .ref x3]) (rest := []) ⟨hx, hb, hml, hown, htb⟩ (m_LogCleanerLaw_close l hlt D d h _ (some x1) (xs (x4 + 1).toNatClampNeg) (some x3) _ hw) (xcwSW 3 htb g_cw_LogCleanerLaw_close g_ini_LogCleanerLaw k_LogCleanerLaw_58 g_st_LogCleanerLaw_close rfl rfl (by decide +kernel) ⟨(Nat.le_of_ble_eq_true rfl), (Nat.le_of_ble_eq_true rfl)⟩) (xpreSH hP hK hNB hS hA hZ1 hZ2 hSt hNc) rfl rfl hl.1 rfl (lv_room (Nat.le_of_ble_eq_true rfl)) d_LogCleanerLaw_law_284 ⟨(by refine Nat.le_trans ?_ lw_rc; omega), (by refine Nat.le_trans ?_ lw_rs; omega)⟩) hP hS hA (fun r18 h17 H locs hw hP hS => ?_)
          refine W.widen (k := (cT + 2)) (n := (sT + 105)) (by omega) (by omega) ?_
          refine lv_istore (lv' := [(5, .int r18), (0, .ref b), (1, .ref x1), (2, .ref x2), (3, .ref x3), (4, .int x4)]) hx hb d_LogCleanerLaw_law_287 hl (by decide) rfl (fun ls hl => ?_)
          refine lv_aload_n hx hb d_LogCleanerLaw_law_289 rfl (lv_at hl 3 rfl) ?_
          refine lv_aload_n hx hb d_LogCleanerLaw_law_290 rfl (lv_at hl 1 rfl) ?_
          refine lv_iload hx hb d_LogCleanerLaw_law_291 (lv_at hl 5 rfl) ?_
          refine lv_iconst (v := 1) hx hb d_LogCleanerLaw_law_293 (by decide) ?_
          refine lv_iadd hx hb d_LogCleanerLaw_law_294 ?_
          refine va_sld hx hb hXs hbl hbA hS hw.1 d_LogCleanerLaw_law_295 ?_
          replace hw := hw.2
          obtain ⟨⟨_, hw0⟩, hw⟩ := hw
          refine ycalli (va_runV (b := x2) (As := [.int (xs (x4 + 1).toNatClampNeg)]) (rest := []) ⟨hx, hb, hml, hown, htb⟩ (m_LogCleanerModel_close l D d h17 _ x2 (xs (x4 + 1).toNatClampNeg) _ hw) (xcwV 1 htb g_code_LogCleanerModel_close g_ini_LogCleanerModel k_LogCleanerLaw_61 g_im_LogCleanerModel_close g_sel_LogCleanerModel_close rfl rfl (by decide +kernel) ⟨(Nat.le_of_ble_eq_true rfl), (Nat.le_of_ble_eq_true rfl)⟩) (xpreV hP hK hNB (ci := 4) rfl hw0) rfl rfl hl.1 rfl (lv_room (Nat.le_of_ble_eq_true rfl)) d_LogCleanerLaw_law_296 ⟨(by refine Nat.le_trans ?_ lw_rc; omega), (by refine Nat.le_trans ?_ lw_rs; omega)⟩) hP (fun _ _ => rfl) hS hA (fun r20 h19 H locs hw hfr hP hS => ?_)
          replace hw := hw hfr
          refine W.widen (k := (cT + 2)) (n := (sT + 105)) (by omega) (by omega) ?_
          refine lv_istore (lv' := [(6, .int r20), (5, .int r18), (0, .ref b), (1, .ref x1), (2, .ref x2), (3, .ref x3), (4, .int x4)]) hx hb d_LogCleanerLaw_law_299 hl (by decide) rfl (fun ls hl => ?_)
          refine lv_aload_n hx hb d_LogCleanerLaw_law_301 rfl (lv_at hl 4 rfl) ?_
          obtain ⟨⟨_, hw0⟩, hw⟩ := hw
          refine ycalli (va_runV (b := x2) (As := []) (rest := []) ⟨hx, hb, hml, hown, htb⟩ (m_LogCleanerModel_thrown l D d h19 _ x2 _ hw) (xcwV 0 htb g_code_LogCleanerModel_thrown g_ini_LogCleanerModel k_LogCleanerLaw_54 g_im_LogCleanerModel_thrown g_sel_LogCleanerModel_thrown rfl rfl (by decide +kernel) ⟨(Nat.le_of_ble_eq_true rfl), (Nat.le_of_ble_eq_true rfl)⟩) (xpreV hP hK hNB (ci := 4) rfl hw0) rfl rfl hl.1 rfl (lv_room (Nat.le_of_ble_eq_true rfl)) d_LogCleanerLaw_law_302 ⟨(by refine Nat.le_trans ?_ lw_rc; omega), (by refine Nat.le_trans ?_ lw_rs; omega)⟩) hP (fun _ _ => rfl) hS hA (fun r22 h21 H locs hw hfr hP hS => ?_)
          replace hw := hw hfr
          refine W.widen (k := (cT + 2)) (n := (sT + 105)) (by omega) (by omega) ?_
          refine lv_iload hx hb d_LogCleanerLaw_law_305 (lv_at hl 1 rfl) ?_
          refine lv_icmp_eq (tgt := 312) hx hb d_LogCleanerLaw_law_307 (by decide) (fun cq => ?_) (fun cq => ?_)
          · replace hw := hw.1 cq
            refine lv_iload hx hb d_LogCleanerLaw_law_312 (lv_at hl 1 rfl) ?_
            refine lv_if_ne (tgt := 329) hx hb d_LogCleanerLaw_law_314 (by decide) (fun cq => ?_) (fun cq => ?_)
            · replace hw := hw.2 cq
              exact sb_LogCleanerLaw_law_329 C0 hcT hsT hk23 x1 x2 x3 x4 h21 _ _ _ hw hP hS (lv_sub hl [2, 3, 4, 5, 6] rfl)
            · replace hw := hw.1 cq
              refine lv_aload_n hx hb d_LogCleanerLaw_law_317 rfl (lv_at hl 5 rfl) ?_
              refine lv_iconst (v := 0) hx hb d_LogCleanerLaw_law_318 (by decide) ?_
              refine xldl hx hb hK hP 3 rfl hw d_LogCleanerLaw_law_319 (fun v23 hw => ?_)
              refine lv_iload hx hb d_LogCleanerLaw_law_320 (lv_at hl 0 rfl) ?_
              refine lv_i2l (v := r20.toInt64) hx hb d_LogCleanerLaw_law_322 rfl ?_
              refine W.lcmp hx hb d_LogCleanerLaw_law_323 ?_
              refine lv_if_eq (tgt := 329) hx hb d_LogCleanerLaw_law_324 (by decide) (fun cq => ?_) (fun cq => ?_)
              · replace hw := hw.1 cq
                exact sb_LogCleanerLaw_law_329 C0 hcT hsT hk23 x1 x2 x3 x4 h21 _ _ _ hw hP hS (lv_sub hl [2, 3, 4, 5, 6] rfl)
              · replace hw := hw.2 cq
                refine lv_iconst (v := 0) hx hb d_LogCleanerLaw_law_327 (by decide) ?_
                exact hw.elim
          · replace hw := hw.2 cq
            refine lv_iconst (v := 0) hx hb d_LogCleanerLaw_law_310 (by decide) ?_
            exact hw.elim
        · replace hw := hw.2.2.1 cz
          refine lv_tableIn (tgt := 332) hx hb d_LogCleanerLaw_law_40 (by rw [cz]; decide) (by rw [cz]; decide) (by rw [cz]; rfl) (by decide) ?_
          refine lv_aload_n hx hb d_LogCleanerLaw_law_332 rfl (lv_at hl 1 rfl) ?_
          refine lv_aload_n hx hb d_LogCleanerLaw_law_333 rfl (lv_at hl 0 rfl) ?_
          refine lv_iload hx hb d_LogCleanerLaw_law_334 (lv_at hl 4 rfl) ?_
          refine lv_iconst (v := 1) hx hb d_LogCleanerLaw_law_336 (by decide) ?_
          refine lv_iadd hx hb d_LogCleanerLaw_law_337 ?_
          refine va_sld hx hb hXs hbl hbA hS hw.1 d_LogCleanerLaw_law_338 ?_
          replace hw := hw.2
          refine lv_aload_n hx hb d_LogCleanerLaw_law_339 rfl (lv_at hl 3 rfl) ?_
          refine xcalli (vx_runSW (As := [.ref x1, .int (xs (x4 + 1).toNatClampNeg), .ref x3]) (rest := []) ⟨hx, hb, hml, hown, htb⟩ (m_LogCleanerLaw_clean l hlt D d h _ (some x1) (xs (x4 + 1).toNatClampNeg) (some x3) _ hw) (xcwSW 3 htb g_cw_LogCleanerLaw_clean g_ini_LogCleanerLaw k_LogCleanerLaw_62 g_st_LogCleanerLaw_clean rfl rfl (by decide +kernel) ⟨(Nat.le_of_ble_eq_true rfl), (Nat.le_of_ble_eq_true rfl)⟩) (xpreSH hP hK hNB hS hA hZ1 hZ2 hSt hNc) rfl rfl hl.1 rfl (lv_room (Nat.le_of_ble_eq_true rfl)) d_LogCleanerLaw_law_340 ⟨(by refine Nat.le_trans ?_ lw_rc; omega), (by refine Nat.le_trans ?_ lw_rs; omega)⟩) hP hS hA (fun r25 h24 H locs hw hP hS => ?_)
          refine W.widen (k := (cT + 1)) (n := (sT + 6)) (by omega) (by omega) ?_
          refine lv_istore (lv' := [(5, .int r25), (0, .ref b), (1, .ref x1), (2, .ref x2), (3, .ref x3), (4, .int x4)]) hx hb d_LogCleanerLaw_law_343 hl (by decide) rfl (fun ls hl => ?_)
          refine lv_aload_n hx hb d_LogCleanerLaw_law_345 rfl (lv_at hl 3 rfl) ?_
          refine lv_aload_n hx hb d_LogCleanerLaw_law_346 rfl (lv_at hl 1 rfl) ?_
          refine lv_iload hx hb d_LogCleanerLaw_law_347 (lv_at hl 5 rfl) ?_
          refine lv_iconst (v := 1) hx hb d_LogCleanerLaw_law_349 (by decide) ?_
          refine lv_iadd hx hb d_LogCleanerLaw_law_350 ?_
          refine va_sld hx hb hXs hbl hbA hS hw.1 d_LogCleanerLaw_law_351 ?_
          replace hw := hw.2
          obtain ⟨⟨_, hw0⟩, hw⟩ := hw
          refine ycalli (va_runV (b := x2) (As := [.int (xs (x4 + 1).toNatClampNeg)]) (rest := []) ⟨hx, hb, hml, hown, htb⟩ (m_LogCleanerModel_clean l D d h24 _ x2 (xs (x4 + 1).toNatClampNeg) _ hw) (xcwV 1 htb g_code_LogCleanerModel_clean g_ini_LogCleanerModel k_LogCleanerLaw_64 g_im_LogCleanerModel_clean g_sel_LogCleanerModel_clean rfl rfl (by decide +kernel) ⟨(Nat.le_of_ble_eq_true rfl), (Nat.le_of_ble_eq_true rfl)⟩) (xpreV hP hK hNB (ci := 4) rfl hw0) rfl rfl hl.1 rfl (lv_room (Nat.le_of_ble_eq_true rfl)) d_LogCleanerLaw_law_352 ⟨(by refine Nat.le_trans ?_ lw_rc; omega), (by refine Nat.le_trans ?_ lw_rs; omega)⟩) hP (fun _ _ => rfl) hS hA (fun r27 h26 H locs hw hfr hP hS => ?_)
          replace hw := hw hfr
          refine W.widen (k := (cT + 1)) (n := (sT + 6)) (by omega) (by omega) ?_
          refine lv_istore (lv' := [(6, .int r27), (5, .int r25), (0, .ref b), (1, .ref x1), (2, .ref x2), (3, .ref x3), (4, .int x4)]) hx hb d_LogCleanerLaw_law_355 hl (by decide) rfl (fun ls hl => ?_)
          refine lv_aload_n hx hb d_LogCleanerLaw_law_357 rfl (lv_at hl 4 rfl) ?_
          obtain ⟨⟨_, hw0⟩, hw⟩ := hw
          refine ycalli (va_runV (b := x2) (As := []) (rest := []) ⟨hx, hb, hml, hown, htb⟩ (m_LogCleanerModel_thrown l D d h26 _ x2 _ hw) (xcwV 0 htb g_code_LogCleanerModel_thrown g_ini_LogCleanerModel k_LogCleanerLaw_54 g_im_LogCleanerModel_thrown g_sel_LogCleanerModel_thrown rfl rfl (by decide +kernel) ⟨(Nat.le_of_ble_eq_true rfl), (Nat.le_of_ble_eq_true rfl)⟩) (xpreV hP hK hNB (ci := 4) rfl hw0) rfl rfl hl.1 rfl (lv_room (Nat.le_of_ble_eq_true rfl)) d_LogCleanerLaw_law_358 ⟨(by refine Nat.le_trans ?_ lw_rc; omega), (by refine Nat.le_trans ?_ lw_rs; omega)⟩) hP (fun _ _ => rfl) hS hA (fun r29 h28 H locs hw hfr hP hS => ?_)
          replace hw := hw hfr
          refine W.widen (k := (cT + 1)) (n := (sT + 6)) (by omega) (by omega) ?_
          refine lv_iload hx hb d_LogCleanerLaw_law_361 (lv_at hl 1 rfl) ?_
          refine lv_icmp_eq (tgt := 368) hx hb d_LogCleanerLaw_law_363 (by decide) (fun cq => ?_) (fun cq => ?_)
          · replace hw := hw.1 cq
            refine lv_iload hx hb d_LogCleanerLaw_law_368 (lv_at hl 1 rfl) ?_
            refine lv_if_ne (tgt := 385) hx hb d_LogCleanerLaw_law_370 (by decide) (fun cq => ?_) (fun cq => ?_)
            · replace hw := hw.2 cq
              exact sb_LogCleanerLaw_law_385 C0 hcT hsT hk23 x1 x2 x3 x4 h28 _ _ _ hw hP hS (lv_sub hl [2, 3, 4, 5, 6] rfl)
            · replace hw := hw.1 cq
              refine lv_aload_n hx hb d_LogCleanerLaw_law_373 rfl (lv_at hl 5 rfl) ?_
              refine lv_iconst (v := 0) hx hb d_LogCleanerLaw_law_374 (by decide) ?_
              refine xldl hx hb hK hP 3 rfl hw d_LogCleanerLaw_law_375 (fun v30 hw => ?_)
              refine lv_iload hx hb d_LogCleanerLaw_law_376 (lv_at hl 0 rfl) ?_
              refine lv_i2l (v := r27.toInt64) hx hb d_LogCleanerLaw_law_378 rfl ?_
              refine W.lcmp hx hb d_LogCleanerLaw_law_379 ?_
              refine lv_if_eq (tgt := 385) hx hb d_LogCleanerLaw_law_380 (by decide) (fun cq => ?_) (fun cq => ?_)
              · replace hw := hw.1 cq
                exact sb_LogCleanerLaw_law_385 C0 hcT hsT hk23 x1 x2 x3 x4 h28 _ _ _ hw hP hS (lv_sub hl [2, 3, 4, 5, 6] rfl)
              · replace hw := hw.2 cq
                refine lv_iconst (v := 0) hx hb d_LogCleanerLaw_law_383 (by decide) ?_
                exact hw.elim
          · replace hw := hw.2 cq
            refine lv_iconst (v := 0) hx hb d_LogCleanerLaw_law_366 (by decide) ?_
            exact hw.elim
        · replace hw := hw.2.2.2.1 cz
          refine lv_tableIn (tgt := 388) hx hb d_LogCleanerLaw_law_40 (by rw [cz]; decide) (by rw [cz]; decide) (by rw [cz]; rfl) (by decide) ?_
          refine lv_aload_n hx hb d_LogCleanerLaw_law_388 rfl (lv_at hl 1 rfl) ?_
          refine lv_aload_n hx hb d_LogCleanerLaw_law_389 rfl (lv_at hl 0 rfl) ?_
          refine lv_iload hx hb d_LogCleanerLaw_law_390 (lv_at hl 4 rfl) ?_
          refine lv_iconst (v := 1) hx hb d_LogCleanerLaw_law_392 (by decide) ?_
          refine lv_iadd hx hb d_LogCleanerLaw_law_393 ?_
          refine va_sld hx hb hXs hbl hbA hS hw.1 d_LogCleanerLaw_law_394 ?_
          replace hw := hw.2
          refine lv_aload_n hx hb d_LogCleanerLaw_law_395 rfl (lv_at hl 3 rfl) ?_
          refine xcalli (vx_runSW (As := [.ref x1, .int (xs (x4 + 1).toNatClampNeg), .ref x3]) (rest := []) ⟨hx, hb, hml, hown, htb⟩ (m_LogCleanerLaw_drop l hlt D d h _ (some x1) (xs (x4 + 1).toNatClampNeg) (some x3) _ hw) (xcwSW 3 htb g_cw_LogCleanerLaw_drop g_ini_LogCleanerLaw k_LogCleanerLaw_65 g_st_LogCleanerLaw_drop rfl rfl (by decide +kernel) ⟨(Nat.le_of_ble_eq_true rfl), (Nat.le_of_ble_eq_true rfl)⟩) (xpreSH hP hK hNB hS hA hZ1 hZ2 hSt hNc) rfl rfl hl.1 rfl (lv_room (Nat.le_of_ble_eq_true rfl)) d_LogCleanerLaw_law_396 ⟨(by refine Nat.le_trans ?_ lw_rc; omega), (by refine Nat.le_trans ?_ lw_rs; omega)⟩) hP hS hA (fun r32 h31 H locs hw hP hS => ?_)
          refine W.widen (k := (cT + 1)) (n := (sT + 6)) (by omega) (by omega) ?_
          refine lv_istore (lv' := [(5, .int r32), (0, .ref b), (1, .ref x1), (2, .ref x2), (3, .ref x3), (4, .int x4)]) hx hb d_LogCleanerLaw_law_399 hl (by decide) rfl (fun ls hl => ?_)
          refine lv_aload_n hx hb d_LogCleanerLaw_law_401 rfl (lv_at hl 3 rfl) ?_
          refine lv_aload_n hx hb d_LogCleanerLaw_law_402 rfl (lv_at hl 1 rfl) ?_
          refine lv_iload hx hb d_LogCleanerLaw_law_403 (lv_at hl 5 rfl) ?_
          refine lv_iconst (v := 1) hx hb d_LogCleanerLaw_law_405 (by decide) ?_
          refine lv_iadd hx hb d_LogCleanerLaw_law_406 ?_
          refine va_sld hx hb hXs hbl hbA hS hw.1 d_LogCleanerLaw_law_407 ?_
          replace hw := hw.2
          obtain ⟨⟨_, hw0⟩, hw⟩ := hw
          refine ycalli (va_runV (b := x2) (As := [.int (xs (x4 + 1).toNatClampNeg)]) (rest := []) ⟨hx, hb, hml, hown, htb⟩ (m_LogCleanerModel_drop l D d h31 _ x2 (xs (x4 + 1).toNatClampNeg) _ hw) (xcwV 1 htb g_code_LogCleanerModel_drop g_ini_LogCleanerModel k_LogCleanerLaw_67 g_im_LogCleanerModel_drop g_sel_LogCleanerModel_drop rfl rfl (by decide +kernel) ⟨(Nat.le_of_ble_eq_true rfl), (Nat.le_of_ble_eq_true rfl)⟩) (xpreV hP hK hNB (ci := 4) rfl hw0) rfl rfl hl.1 rfl (lv_room (Nat.le_of_ble_eq_true rfl)) d_LogCleanerLaw_law_408 ⟨(by refine Nat.le_trans ?_ lw_rc; omega), (by refine Nat.le_trans ?_ lw_rs; omega)⟩) hP (fun _ _ => rfl) hS hA (fun r34 h33 H locs hw hfr hP hS => ?_)
          replace hw := hw hfr
          refine W.widen (k := (cT + 1)) (n := (sT + 6)) (by omega) (by omega) ?_
          refine lv_istore (lv' := [(6, .int r34), (5, .int r32), (0, .ref b), (1, .ref x1), (2, .ref x2), (3, .ref x3), (4, .int x4)]) hx hb d_LogCleanerLaw_law_411 hl (by decide) rfl (fun ls hl => ?_)
          refine lv_aload_n hx hb d_LogCleanerLaw_law_413 rfl (lv_at hl 4 rfl) ?_
          obtain ⟨⟨_, hw0⟩, hw⟩ := hw
          refine ycalli (va_runV (b := x2) (As := []) (rest := []) ⟨hx, hb, hml, hown, htb⟩ (m_LogCleanerModel_thrown l D d h33 _ x2 _ hw) (xcwV 0 htb g_code_LogCleanerModel_thrown g_ini_LogCleanerModel k_LogCleanerLaw_54 g_im_LogCleanerModel_thrown g_sel_LogCleanerModel_thrown rfl rfl (by decide +kernel) ⟨(Nat.le_of_ble_eq_true rfl), (Nat.le_of_ble_eq_true rfl)⟩) (xpreV hP hK hNB (ci := 4) rfl hw0) rfl rfl hl.1 rfl (lv_room (Nat.le_of_ble_eq_true rfl)) d_LogCleanerLaw_law_414 ⟨(by refine Nat.le_trans ?_ lw_rc; omega), (by refine Nat.le_trans ?_ lw_rs; omega)⟩) hP (fun _ _ => rfl) hS hA (fun r36 h35 H locs hw hfr hP hS => ?_)
          replace hw := hw hfr
          refine W.widen (k := (cT + 1)) (n := (sT + 6)) (by omega) (by omega) ?_
          refine lv_iload hx hb d_LogCleanerLaw_law_417 (lv_at hl 1 rfl) ?_
          refine lv_icmp_eq (tgt := 424) hx hb d_LogCleanerLaw_law_419 (by decide) (fun cq => ?_) (fun cq => ?_)
          · replace hw := hw.1 cq
            refine lv_iload hx hb d_LogCleanerLaw_law_424 (lv_at hl 1 rfl) ?_
            refine lv_if_ne (tgt := 441) hx hb d_LogCleanerLaw_law_426 (by decide) (fun cq => ?_) (fun cq => ?_)
            · replace hw := hw.2 cq
              exact sb_LogCleanerLaw_law_441 C0 hcT hsT hk23 x1 x2 x3 x4 h35 _ _ _ hw hP hS (lv_sub hl [2, 3, 4, 5, 6] rfl)
            · replace hw := hw.1 cq
              refine lv_aload_n hx hb d_LogCleanerLaw_law_429 rfl (lv_at hl 5 rfl) ?_
              refine lv_iconst (v := 0) hx hb d_LogCleanerLaw_law_430 (by decide) ?_
              refine xldl hx hb hK hP 3 rfl hw d_LogCleanerLaw_law_431 (fun v37 hw => ?_)
              refine lv_iload hx hb d_LogCleanerLaw_law_432 (lv_at hl 0 rfl) ?_
              refine lv_i2l (v := r34.toInt64) hx hb d_LogCleanerLaw_law_434 rfl ?_
              refine W.lcmp hx hb d_LogCleanerLaw_law_435 ?_
              refine lv_if_eq (tgt := 441) hx hb d_LogCleanerLaw_law_436 (by decide) (fun cq => ?_) (fun cq => ?_)
              · replace hw := hw.1 cq
                exact sb_LogCleanerLaw_law_441 C0 hcT hsT hk23 x1 x2 x3 x4 h35 _ _ _ hw hP hS (lv_sub hl [2, 3, 4, 5, 6] rfl)
              · replace hw := hw.2 cq
                refine lv_iconst (v := 0) hx hb d_LogCleanerLaw_law_439 (by decide) ?_
                exact hw.elim
          · replace hw := hw.2 cq
            refine lv_iconst (v := 0) hx hb d_LogCleanerLaw_law_422 (by decide) ?_
            exact hw.elim
        · replace hw := hw.2.2.2.2.1 cz
          refine lv_tableIn (tgt := 444) hx hb d_LogCleanerLaw_law_40 (by rw [cz]; decide) (by rw [cz]; decide) (by rw [cz]; rfl) (by decide) ?_
          refine lv_aload_n hx hb d_LogCleanerLaw_law_444 rfl (lv_at hl 1 rfl) ?_
          refine lv_aload_n hx hb d_LogCleanerLaw_law_445 rfl (lv_at hl 0 rfl) ?_
          refine lv_iload hx hb d_LogCleanerLaw_law_446 (lv_at hl 4 rfl) ?_
          refine lv_iconst (v := 1) hx hb d_LogCleanerLaw_law_448 (by decide) ?_
          refine lv_iadd hx hb d_LogCleanerLaw_law_449 ?_
          refine va_sld hx hb hXs hbl hbA hS hw.1 d_LogCleanerLaw_law_450 ?_
          replace hw := hw.2
          refine lv_aload_n hx hb d_LogCleanerLaw_law_451 rfl (lv_at hl 3 rfl) ?_
          refine xcalli (vx_runSW (As := [.ref x1, .int (xs (x4 + 1).toNatClampNeg), .ref x3]) (rest := []) ⟨hx, hb, hml, hown, htb⟩ (m_LogCleanerLaw_count l hlt D d h _ (some x1) (xs (x4 + 1).toNatClampNeg) (some x3) _ hw) (xcwSW 3 htb g_cw_LogCleanerLaw_count g_ini_LogCleanerLaw k_LogCleanerLaw_68 g_st_LogCleanerLaw_count rfl rfl (by decide +kernel) ⟨(Nat.le_of_ble_eq_true rfl), (Nat.le_of_ble_eq_true rfl)⟩) (xpreSH hP hK hNB hS hA hZ1 hZ2 hSt hNc) rfl rfl hl.1 rfl (lv_room (Nat.le_of_ble_eq_true rfl)) d_LogCleanerLaw_law_452 ⟨(by refine Nat.le_trans ?_ lw_rc; omega), (by refine Nat.le_trans ?_ lw_rs; omega)⟩) hP hS hA (fun r39 h38 H locs hw hP hS => ?_)
          refine W.widen (k := (cT + 1)) (n := (sT + 6)) (by omega) (by omega) ?_
          refine lv_istore (lv' := [(5, .int r39), (0, .ref b), (1, .ref x1), (2, .ref x2), (3, .ref x3), (4, .int x4)]) hx hb d_LogCleanerLaw_law_455 hl (by decide) rfl (fun ls hl => ?_)
          refine lv_aload_n hx hb d_LogCleanerLaw_law_457 rfl (lv_at hl 3 rfl) ?_
          refine lv_aload_n hx hb d_LogCleanerLaw_law_458 rfl (lv_at hl 1 rfl) ?_
          refine lv_iload hx hb d_LogCleanerLaw_law_459 (lv_at hl 5 rfl) ?_
          refine lv_iconst (v := 1) hx hb d_LogCleanerLaw_law_461 (by decide) ?_
          refine lv_iadd hx hb d_LogCleanerLaw_law_462 ?_
          refine va_sld hx hb hXs hbl hbA hS hw.1 d_LogCleanerLaw_law_463 ?_
          replace hw := hw.2
          obtain ⟨⟨_, hw0⟩, hw⟩ := hw
          refine ycalli (va_runV (b := x2) (As := [.int (xs (x4 + 1).toNatClampNeg)]) (rest := []) ⟨hx, hb, hml, hown, htb⟩ (m_LogCleanerModel_count l D d h38 _ x2 (xs (x4 + 1).toNatClampNeg) _ hw) (xcwV 1 htb g_code_LogCleanerModel_count g_ini_LogCleanerModel k_LogCleanerLaw_70 g_im_LogCleanerModel_count g_sel_LogCleanerModel_count rfl rfl (by decide +kernel) ⟨(Nat.le_of_ble_eq_true rfl), (Nat.le_of_ble_eq_true rfl)⟩) (xpreV hP hK hNB (ci := 4) rfl hw0) rfl rfl hl.1 rfl (lv_room (Nat.le_of_ble_eq_true rfl)) d_LogCleanerLaw_law_464 ⟨(by refine Nat.le_trans ?_ lw_rc; omega), (by refine Nat.le_trans ?_ lw_rs; omega)⟩) hP (fun _ _ => rfl) hS hA (fun r41 h40 H locs hw hfr hP hS => ?_)
          replace hw := hw hfr
          refine W.widen (k := (cT + 1)) (n := (sT + 6)) (by omega) (by omega) ?_
          refine lv_istore (lv' := [(6, .int r41), (5, .int r39), (0, .ref b), (1, .ref x1), (2, .ref x2), (3, .ref x3), (4, .int x4)]) hx hb d_LogCleanerLaw_law_467 hl (by decide) rfl (fun ls hl => ?_)
          refine lv_aload_n hx hb d_LogCleanerLaw_law_469 rfl (lv_at hl 4 rfl) ?_
          obtain ⟨⟨_, hw0⟩, hw⟩ := hw
          refine ycalli (va_runV (b := x2) (As := []) (rest := []) ⟨hx, hb, hml, hown, htb⟩ (m_LogCleanerModel_thrown l D d h40 _ x2 _ hw) (xcwV 0 htb g_code_LogCleanerModel_thrown g_ini_LogCleanerModel k_LogCleanerLaw_54 g_im_LogCleanerModel_thrown g_sel_LogCleanerModel_thrown rfl rfl (by decide +kernel) ⟨(Nat.le_of_ble_eq_true rfl), (Nat.le_of_ble_eq_true rfl)⟩) (xpreV hP hK hNB (ci := 4) rfl hw0) rfl rfl hl.1 rfl (lv_room (Nat.le_of_ble_eq_true rfl)) d_LogCleanerLaw_law_470 ⟨(by refine Nat.le_trans ?_ lw_rc; omega), (by refine Nat.le_trans ?_ lw_rs; omega)⟩) hP (fun _ _ => rfl) hS hA (fun r43 h42 H locs hw hfr hP hS => ?_)
          replace hw := hw hfr
          refine W.widen (k := (cT + 1)) (n := (sT + 6)) (by omega) (by omega) ?_
          refine lv_iload hx hb d_LogCleanerLaw_law_473 (lv_at hl 1 rfl) ?_
          refine lv_icmp_eq (tgt := 480) hx hb d_LogCleanerLaw_law_475 (by decide) (fun cq => ?_) (fun cq => ?_)
          · replace hw := hw.1 cq
            refine lv_iload hx hb d_LogCleanerLaw_law_480 (lv_at hl 1 rfl) ?_
            refine lv_if_ne (tgt := 497) hx hb d_LogCleanerLaw_law_482 (by decide) (fun cq => ?_) (fun cq => ?_)
            · replace hw := hw.2 cq
              exact sb_LogCleanerLaw_law_497 C0 hcT hsT hk23 x1 x2 x3 x4 h42 _ _ _ hw hP hS (lv_sub hl [2, 3, 4, 5, 6] rfl)
            · replace hw := hw.1 cq
              refine lv_aload_n hx hb d_LogCleanerLaw_law_485 rfl (lv_at hl 5 rfl) ?_
              refine lv_iconst (v := 0) hx hb d_LogCleanerLaw_law_486 (by decide) ?_
              refine xldl hx hb hK hP 3 rfl hw d_LogCleanerLaw_law_487 (fun v44 hw => ?_)
              refine lv_iload hx hb d_LogCleanerLaw_law_488 (lv_at hl 0 rfl) ?_
              refine lv_i2l (v := r41.toInt64) hx hb d_LogCleanerLaw_law_490 rfl ?_
              refine W.lcmp hx hb d_LogCleanerLaw_law_491 ?_
              refine lv_if_eq (tgt := 497) hx hb d_LogCleanerLaw_law_492 (by decide) (fun cq => ?_) (fun cq => ?_)
              · replace hw := hw.1 cq
                exact sb_LogCleanerLaw_law_497 C0 hcT hsT hk23 x1 x2 x3 x4 h42 _ _ _ hw hP hS (lv_sub hl [2, 3, 4, 5, 6] rfl)
              · replace hw := hw.2 cq
                refine lv_iconst (v := 0) hx hb d_LogCleanerLaw_law_495 (by decide) ?_
                exact hw.elim
          · replace hw := hw.2 cq
            refine lv_iconst (v := 0) hx hb d_LogCleanerLaw_law_478 (by decide) ?_
            exact hw.elim
        · replace hw := hw.2.2.2.2.2.1 cz
          refine lv_tableIn (tgt := 500) hx hb d_LogCleanerLaw_law_40 (by rw [cz]; decide) (by rw [cz]; decide) (by rw [cz]; rfl) (by decide) ?_
          refine lv_aload_n hx hb d_LogCleanerLaw_law_500 rfl (lv_at hl 1 rfl) ?_
          refine lv_aload_n hx hb d_LogCleanerLaw_law_501 rfl (lv_at hl 0 rfl) ?_
          refine lv_iload hx hb d_LogCleanerLaw_law_502 (lv_at hl 4 rfl) ?_
          refine lv_iconst (v := 1) hx hb d_LogCleanerLaw_law_504 (by decide) ?_
          refine lv_iadd hx hb d_LogCleanerLaw_law_505 ?_
          refine va_sld hx hb hXs hbl hbA hS hw.1 d_LogCleanerLaw_law_506 ?_
          replace hw := hw.2
          refine lv_aload_n hx hb d_LogCleanerLaw_law_507 rfl (lv_at hl 0 rfl) ?_
          refine lv_iload hx hb d_LogCleanerLaw_law_508 (lv_at hl 4 rfl) ?_
          refine lv_iconst (v := 2) hx hb d_LogCleanerLaw_law_510 (by decide) ?_
          refine lv_iadd hx hb d_LogCleanerLaw_law_511 ?_
          refine va_sld hx hb hXs hbl hbA hS hw.1 d_LogCleanerLaw_law_512 ?_
          replace hw := hw.2
          refine lv_aload_n hx hb d_LogCleanerLaw_law_513 rfl (lv_at hl 3 rfl) ?_
          refine xcalli (vx_runSW (As := [.ref x1, .int (xs (x4 + 1).toNatClampNeg), .int (xs (x4 + 2).toNatClampNeg), .ref x3]) (rest := []) ⟨hx, hb, hml, hown, htb⟩ (m_LogCleanerLaw_batch l hlt D d h _ (some x1) (xs (x4 + 1).toNatClampNeg) (xs (x4 + 2).toNatClampNeg) (some x3) _ hw) (xcwSW 4 htb g_cw_LogCleanerLaw_batch g_ini_LogCleanerLaw k_LogCleanerLaw_71 g_st_LogCleanerLaw_batch rfl rfl (by decide +kernel) ⟨(Nat.le_of_ble_eq_true rfl), (Nat.le_of_ble_eq_true rfl)⟩) (xpreSH hP hK hNB hS hA hZ1 hZ2 hSt hNc) rfl rfl hl.1 rfl (lv_room (Nat.le_of_ble_eq_true rfl)) d_LogCleanerLaw_law_514 ⟨(by refine Nat.le_trans ?_ lw_rc; omega), (by refine Nat.le_trans ?_ lw_rs; omega)⟩) hP hS hA (fun r46 h45 H locs hw hP hS => ?_)
          refine W.widen (k := (cT + 1)) (n := (sT + 6)) (by omega) (by omega) ?_
          refine lv_istore (lv' := [(5, .int r46), (0, .ref b), (1, .ref x1), (2, .ref x2), (3, .ref x3), (4, .int x4)]) hx hb d_LogCleanerLaw_law_517 hl (by decide) rfl (fun ls hl => ?_)
          refine lv_aload_n hx hb d_LogCleanerLaw_law_519 rfl (lv_at hl 3 rfl) ?_
          refine lv_aload_n hx hb d_LogCleanerLaw_law_520 rfl (lv_at hl 1 rfl) ?_
          refine lv_iload hx hb d_LogCleanerLaw_law_521 (lv_at hl 5 rfl) ?_
          refine lv_iconst (v := 1) hx hb d_LogCleanerLaw_law_523 (by decide) ?_
          refine lv_iadd hx hb d_LogCleanerLaw_law_524 ?_
          refine va_sld hx hb hXs hbl hbA hS hw.1 d_LogCleanerLaw_law_525 ?_
          replace hw := hw.2
          refine lv_aload_n hx hb d_LogCleanerLaw_law_526 rfl (lv_at hl 1 rfl) ?_
          refine lv_iload hx hb d_LogCleanerLaw_law_527 (lv_at hl 5 rfl) ?_
          refine lv_iconst (v := 2) hx hb d_LogCleanerLaw_law_529 (by decide) ?_
          refine lv_iadd hx hb d_LogCleanerLaw_law_530 ?_
          refine va_sld hx hb hXs hbl hbA hS hw.1 d_LogCleanerLaw_law_531 ?_
          replace hw := hw.2
          obtain ⟨⟨_, hw0⟩, hw⟩ := hw
          refine ycalli (va_runV (b := x2) (As := [.int (xs (x4 + 1).toNatClampNeg), .int (xs (x4 + 2).toNatClampNeg)]) (rest := []) ⟨hx, hb, hml, hown, htb⟩ (m_LogCleanerModel_batch l D d h45 _ x2 (xs (x4 + 1).toNatClampNeg) (xs (x4 + 2).toNatClampNeg) _ hw) (xcwV 2 htb g_code_LogCleanerModel_batch g_ini_LogCleanerModel k_LogCleanerLaw_74 g_im_LogCleanerModel_batch g_sel_LogCleanerModel_batch rfl rfl (by decide +kernel) ⟨(Nat.le_of_ble_eq_true rfl), (Nat.le_of_ble_eq_true rfl)⟩) (xpreV hP hK hNB (ci := 4) rfl hw0) rfl rfl hl.1 rfl (lv_room (Nat.le_of_ble_eq_true rfl)) d_LogCleanerLaw_law_532 ⟨(by refine Nat.le_trans ?_ lw_rc; omega), (by refine Nat.le_trans ?_ lw_rs; omega)⟩) hP (fun _ _ => rfl) hS hA (fun r48 h47 H locs hw hfr hP hS => ?_)
          replace hw := hw hfr
          refine W.widen (k := (cT + 1)) (n := (sT + 6)) (by omega) (by omega) ?_
          refine lv_istore (lv' := [(6, .int r48), (5, .int r46), (0, .ref b), (1, .ref x1), (2, .ref x2), (3, .ref x3), (4, .int x4)]) hx hb d_LogCleanerLaw_law_535 hl (by decide) rfl (fun ls hl => ?_)
          refine lv_aload_n hx hb d_LogCleanerLaw_law_537 rfl (lv_at hl 4 rfl) ?_
          obtain ⟨⟨_, hw0⟩, hw⟩ := hw
          refine ycalli (va_runV (b := x2) (As := []) (rest := []) ⟨hx, hb, hml, hown, htb⟩ (m_LogCleanerModel_thrown l D d h47 _ x2 _ hw) (xcwV 0 htb g_code_LogCleanerModel_thrown g_ini_LogCleanerModel k_LogCleanerLaw_54 g_im_LogCleanerModel_thrown g_sel_LogCleanerModel_thrown rfl rfl (by decide +kernel) ⟨(Nat.le_of_ble_eq_true rfl), (Nat.le_of_ble_eq_true rfl)⟩) (xpreV hP hK hNB (ci := 4) rfl hw0) rfl rfl hl.1 rfl (lv_room (Nat.le_of_ble_eq_true rfl)) d_LogCleanerLaw_law_538 ⟨(by refine Nat.le_trans ?_ lw_rc; omega), (by refine Nat.le_trans ?_ lw_rs; omega)⟩) hP (fun _ _ => rfl) hS hA (fun r50 h49 H locs hw hfr hP hS => ?_)
          replace hw := hw hfr
          refine W.widen (k := (cT + 1)) (n := (sT + 6)) (by omega) (by omega) ?_
          refine lv_iload hx hb d_LogCleanerLaw_law_541 (lv_at hl 1 rfl) ?_
          refine lv_icmp_eq (tgt := 548) hx hb d_LogCleanerLaw_law_543 (by decide) (fun cq => ?_) (fun cq => ?_)
          · replace hw := hw.1 cq
            refine lv_iload hx hb d_LogCleanerLaw_law_548 (lv_at hl 1 rfl) ?_
            refine lv_if_ne (tgt := 565) hx hb d_LogCleanerLaw_law_550 (by decide) (fun cq => ?_) (fun cq => ?_)
            · replace hw := hw.2 cq
              exact sb_LogCleanerLaw_law_565 C0 hcT hsT hk23 x1 x2 x3 x4 h49 _ _ _ hw hP hS (lv_sub hl [2, 3, 4, 5, 6] rfl)
            · replace hw := hw.1 cq
              refine lv_aload_n hx hb d_LogCleanerLaw_law_553 rfl (lv_at hl 5 rfl) ?_
              refine lv_iconst (v := 0) hx hb d_LogCleanerLaw_law_554 (by decide) ?_
              refine xldl hx hb hK hP 3 rfl hw d_LogCleanerLaw_law_555 (fun v51 hw => ?_)
              refine lv_iload hx hb d_LogCleanerLaw_law_556 (lv_at hl 0 rfl) ?_
              refine lv_i2l (v := r48.toInt64) hx hb d_LogCleanerLaw_law_558 rfl ?_
              refine W.lcmp hx hb d_LogCleanerLaw_law_559 ?_
              refine lv_if_eq (tgt := 565) hx hb d_LogCleanerLaw_law_560 (by decide) (fun cq => ?_) (fun cq => ?_)
              · replace hw := hw.1 cq
                exact sb_LogCleanerLaw_law_565 C0 hcT hsT hk23 x1 x2 x3 x4 h49 _ _ _ hw hP hS (lv_sub hl [2, 3, 4, 5, 6] rfl)
              · replace hw := hw.2 cq
                refine lv_iconst (v := 0) hx hb d_LogCleanerLaw_law_563 (by decide) ?_
                exact hw.elim
          · replace hw := hw.2 cq
            refine lv_iconst (v := 0) hx hb d_LogCleanerLaw_law_546 (by decide) ?_
            exact hw.elim
        · replace hw := hw.2.2.2.2.2.2.1 cz
          refine lv_tableIn (tgt := 568) hx hb d_LogCleanerLaw_law_40 (by rw [cz]; decide) (by rw [cz]; decide) (by rw [cz]; rfl) (by decide) ?_
          refine lv_aload_n hx hb d_LogCleanerLaw_law_568 rfl (lv_at hl 1 rfl) ?_
          refine lv_aload_n hx hb d_LogCleanerLaw_law_569 rfl (lv_at hl 0 rfl) ?_
          refine lv_iload hx hb d_LogCleanerLaw_law_570 (lv_at hl 4 rfl) ?_
          refine lv_iconst (v := 1) hx hb d_LogCleanerLaw_law_572 (by decide) ?_
          refine lv_iadd hx hb d_LogCleanerLaw_law_573 ?_
          refine va_sld hx hb hXs hbl hbA hS hw.1 d_LogCleanerLaw_law_574 ?_
          replace hw := hw.2
          refine lv_aload_n hx hb d_LogCleanerLaw_law_575 rfl (lv_at hl 0 rfl) ?_
          refine lv_iload hx hb d_LogCleanerLaw_law_576 (lv_at hl 4 rfl) ?_
          refine lv_iconst (v := 2) hx hb d_LogCleanerLaw_law_578 (by decide) ?_
          refine lv_iadd hx hb d_LogCleanerLaw_law_579 ?_
          refine va_sld hx hb hXs hbl hbA hS hw.1 d_LogCleanerLaw_law_580 ?_
          replace hw := hw.2
          refine lv_aload_n hx hb d_LogCleanerLaw_law_581 rfl (lv_at hl 3 rfl) ?_
          refine xcalli (vx_runSW (As := [.ref x1, .int (xs (x4 + 1).toNatClampNeg), .int (xs (x4 + 2).toNatClampNeg), .ref x3]) (rest := []) ⟨hx, hb, hml, hown, htb⟩ (m_LogCleanerLaw_told l hlt D d h _ (some x1) (xs (x4 + 1).toNatClampNeg) (xs (x4 + 2).toNatClampNeg) (some x3) _ hw) (xcwSW 4 htb g_cw_LogCleanerLaw_told g_ini_LogCleanerLaw k_LogCleanerLaw_75 g_st_LogCleanerLaw_told rfl rfl (by decide +kernel) ⟨(Nat.le_of_ble_eq_true rfl), (Nat.le_of_ble_eq_true rfl)⟩) (xpreSH hP hK hNB hS hA hZ1 hZ2 hSt hNc) rfl rfl hl.1 rfl (lv_room (Nat.le_of_ble_eq_true rfl)) d_LogCleanerLaw_law_582 ⟨(by refine Nat.le_trans ?_ lw_rc; omega), (by refine Nat.le_trans ?_ lw_rs; omega)⟩) hP hS hA (fun r53 h52 H locs hw hP hS => ?_)
          refine W.widen (k := (cT + 1)) (n := (sT + 6)) (by omega) (by omega) ?_
          refine lv_istore (lv' := [(5, .int r53), (0, .ref b), (1, .ref x1), (2, .ref x2), (3, .ref x3), (4, .int x4)]) hx hb d_LogCleanerLaw_law_585 hl (by decide) rfl (fun ls hl => ?_)
          refine lv_aload_n hx hb d_LogCleanerLaw_law_587 rfl (lv_at hl 3 rfl) ?_
          refine lv_aload_n hx hb d_LogCleanerLaw_law_588 rfl (lv_at hl 1 rfl) ?_
          refine lv_iload hx hb d_LogCleanerLaw_law_589 (lv_at hl 5 rfl) ?_
          refine lv_iconst (v := 1) hx hb d_LogCleanerLaw_law_591 (by decide) ?_
          refine lv_iadd hx hb d_LogCleanerLaw_law_592 ?_
          refine va_sld hx hb hXs hbl hbA hS hw.1 d_LogCleanerLaw_law_593 ?_
          replace hw := hw.2
          refine lv_aload_n hx hb d_LogCleanerLaw_law_594 rfl (lv_at hl 1 rfl) ?_
          refine lv_iload hx hb d_LogCleanerLaw_law_595 (lv_at hl 5 rfl) ?_
          refine lv_iconst (v := 2) hx hb d_LogCleanerLaw_law_597 (by decide) ?_
          refine lv_iadd hx hb d_LogCleanerLaw_law_598 ?_
          refine va_sld hx hb hXs hbl hbA hS hw.1 d_LogCleanerLaw_law_599 ?_
          replace hw := hw.2
          obtain ⟨⟨_, hw0⟩, hw⟩ := hw
          refine ycalll (va_runV (b := x2) (As := [.int (xs (x4 + 1).toNatClampNeg), .int (xs (x4 + 2).toNatClampNeg)]) (rest := []) ⟨hx, hb, hml, hown, htb⟩ (m_LogCleanerModel_told l D d h52 _ x2 (xs (x4 + 1).toNatClampNeg) (xs (x4 + 2).toNatClampNeg) _ hw) (xcwV 2 htb g_code_LogCleanerModel_told g_ini_LogCleanerModel k_LogCleanerLaw_77 g_im_LogCleanerModel_told g_sel_LogCleanerModel_told rfl rfl (by decide +kernel) ⟨(Nat.le_of_ble_eq_true rfl), (Nat.le_of_ble_eq_true rfl)⟩) (xpreV hP hK hNB (ci := 4) rfl hw0) rfl rfl hl.1 rfl (lv_room (Nat.le_of_ble_eq_true rfl)) d_LogCleanerLaw_law_600 ⟨(by refine Nat.le_trans ?_ lw_rc; omega), (by refine Nat.le_trans ?_ lw_rs; omega)⟩) hP (fun _ _ => rfl) hS hA (fun r55 h54 H locs hw hfr hP hS => ?_)
          replace hw := hw hfr
          refine W.widen (k := (cT + 1)) (n := (sT + 6)) (by omega) (by omega) ?_
          refine lv_lstore (lv' := [(6, .long r55), (5, .int r53), (0, .ref b), (1, .ref x1), (2, .ref x2), (3, .ref x3), (4, .int x4)]) hx hb d_LogCleanerLaw_law_603 hl (by decide) rfl (fun ls hl => ?_)
          refine lv_aload_n hx hb d_LogCleanerLaw_law_605 rfl (lv_at hl 4 rfl) ?_
          obtain ⟨⟨_, hw0⟩, hw⟩ := hw
          refine ycalli (va_runV (b := x2) (As := []) (rest := []) ⟨hx, hb, hml, hown, htb⟩ (m_LogCleanerModel_thrown l D d h54 _ x2 _ hw) (xcwV 0 htb g_code_LogCleanerModel_thrown g_ini_LogCleanerModel k_LogCleanerLaw_54 g_im_LogCleanerModel_thrown g_sel_LogCleanerModel_thrown rfl rfl (by decide +kernel) ⟨(Nat.le_of_ble_eq_true rfl), (Nat.le_of_ble_eq_true rfl)⟩) (xpreV hP hK hNB (ci := 4) rfl hw0) rfl rfl hl.1 rfl (lv_room (Nat.le_of_ble_eq_true rfl)) d_LogCleanerLaw_law_606 ⟨(by refine Nat.le_trans ?_ lw_rc; omega), (by refine Nat.le_trans ?_ lw_rs; omega)⟩) hP (fun _ _ => rfl) hS hA (fun r57 h56 H locs hw hfr hP hS => ?_)
          replace hw := hw hfr
          refine W.widen (k := (cT + 1)) (n := (sT + 6)) (by omega) (by omega) ?_
          refine lv_iload hx hb d_LogCleanerLaw_law_609 (lv_at hl 1 rfl) ?_
          refine lv_icmp_eq (tgt := 616) hx hb d_LogCleanerLaw_law_611 (by decide) (fun cq => ?_) (fun cq => ?_)
          · replace hw := hw.1 cq
            refine lv_iload hx hb d_LogCleanerLaw_law_616 (lv_at hl 1 rfl) ?_
            refine lv_if_ne (tgt := 632) hx hb d_LogCleanerLaw_law_618 (by decide) (fun cq => ?_) (fun cq => ?_)
            · replace hw := hw.2 cq
              exact sb_LogCleanerLaw_law_632 C0 hcT hsT hk23 x1 x2 x3 x4 h56 _ _ _ hw hP hS (lv_sub hl [2, 3, 4, 5, 6] rfl)
            · replace hw := hw.1 cq
              refine lv_aload_n hx hb d_LogCleanerLaw_law_621 rfl (lv_at hl 5 rfl) ?_
              refine lv_iconst (v := 0) hx hb d_LogCleanerLaw_law_622 (by decide) ?_
              refine xldl hx hb hK hP 3 rfl hw d_LogCleanerLaw_law_623 (fun v58 hw => ?_)
              refine lv_lload hx hb d_LogCleanerLaw_law_624 (lv_at hl 0 rfl) ?_
              refine W.lcmp hx hb d_LogCleanerLaw_law_626 ?_
              refine lv_if_eq (tgt := 632) hx hb d_LogCleanerLaw_law_627 (by decide) (fun cq => ?_) (fun cq => ?_)
              · replace hw := hw.1 cq
                exact sb_LogCleanerLaw_law_632 C0 hcT hsT hk23 x1 x2 x3 x4 h56 _ _ _ hw hP hS (lv_sub hl [2, 3, 4, 5, 6] rfl)
              · replace hw := hw.2 cq
                refine lv_iconst (v := 0) hx hb d_LogCleanerLaw_law_630 (by decide) ?_
                exact hw.elim
          · replace hw := hw.2 cq
            refine lv_iconst (v := 0) hx hb d_LogCleanerLaw_law_614 (by decide) ?_
            exact hw.elim
        · replace hw := hw.2.2.2.2.2.2.2.1 cz
          refine lv_tableIn (tgt := 635) hx hb d_LogCleanerLaw_law_40 (by rw [cz]; decide) (by rw [cz]; decide) (by rw [cz]; rfl) (by decide) ?_
          refine lv_aload_n hx hb d_LogCleanerLaw_law_635 rfl (lv_at hl 1 rfl) ?_
          refine lv_aload_n hx hb d_LogCleanerLaw_law_636 rfl (lv_at hl 0 rfl) ?_
          refine lv_iload hx hb d_LogCleanerLaw_law_637 (lv_at hl 4 rfl) ?_
          refine lv_iconst (v := 1) hx hb d_LogCleanerLaw_law_639 (by decide) ?_
          refine lv_iadd hx hb d_LogCleanerLaw_law_640 ?_
          refine va_sld hx hb hXs hbl hbA hS hw.1 d_LogCleanerLaw_law_641 ?_
          replace hw := hw.2
          refine lv_i2l (v := (xs (x4 + 1).toNatClampNeg).toInt64) hx hb d_LogCleanerLaw_law_642 rfl ?_
          refine lv_bipush (v := 32) hx hb d_LogCleanerLaw_law_643 (by decide) ?_
          refine lv_lshl (v := ((xs (x4 + 1).toNatClampNeg).toInt64) <<< ((32 : Int32).toInt64 &&& 63)) hx hb d_LogCleanerLaw_law_645 rfl ?_
          refine lv_aload_n hx hb d_LogCleanerLaw_law_646 rfl (lv_at hl 0 rfl) ?_
          refine lv_iload hx hb d_LogCleanerLaw_law_647 (lv_at hl 4 rfl) ?_
          refine lv_iconst (v := 2) hx hb d_LogCleanerLaw_law_649 (by decide) ?_
          refine lv_iadd hx hb d_LogCleanerLaw_law_650 ?_
          refine va_sld hx hb hXs hbl hbA hS hw.1 d_LogCleanerLaw_law_651 ?_
          replace hw := hw.2
          refine lv_i2l (v := (xs (x4 + 2).toNatClampNeg).toInt64) hx hb d_LogCleanerLaw_law_652 rfl ?_
          refine lv_ldc2 (v := 4294967295) hx hb hown (htb _ k_LogCleanerLaw_46) d_LogCleanerLaw_law_653 ?_
          refine lv_land hx hb d_LogCleanerLaw_law_656 ?_
          refine lv_lor hx hb d_LogCleanerLaw_law_657 ?_
          refine lv_aload_n hx hb d_LogCleanerLaw_law_658 rfl (lv_at hl 0 rfl) ?_
          refine lv_iload hx hb d_LogCleanerLaw_law_659 (lv_at hl 4 rfl) ?_
          refine lv_iconst (v := 3) hx hb d_LogCleanerLaw_law_661 (by decide) ?_
          refine lv_iadd hx hb d_LogCleanerLaw_law_662 ?_
          refine va_sld hx hb hXs hbl hbA hS hw.1 d_LogCleanerLaw_law_663 ?_
          replace hw := hw.2
          refine lv_aload_n hx hb d_LogCleanerLaw_law_664 rfl (lv_at hl 3 rfl) ?_
          refine xcalli (vx_runSW (As := [.ref x1, .long ((((xs (x4 + 1).toNatClampNeg).toInt64) <<< ((32 : Int32).toInt64 &&& 63)) ||| (((xs (x4 + 2).toNatClampNeg).toInt64) &&& 4294967295)), .int (xs (x4 + 3).toNatClampNeg), .ref x3]) (rest := []) ⟨hx, hb, hml, hown, htb⟩ (m_LogCleanerLaw_latest l hlt D d h _ (some x1) ((((xs (x4 + 1).toNatClampNeg).toInt64) <<< ((32 : Int32).toInt64 &&& 63)) ||| (((xs (x4 + 2).toNatClampNeg).toInt64) &&& 4294967295)) (xs (x4 + 3).toNatClampNeg) (some x3) _ hw) (xcwSW 4 htb g_cw_LogCleanerLaw_latest g_ini_LogCleanerLaw k_LogCleanerLaw_78 g_st_LogCleanerLaw_latest rfl rfl (by decide +kernel) ⟨(Nat.le_of_ble_eq_true rfl), (Nat.le_of_ble_eq_true rfl)⟩) (xpreSH hP hK hNB hS hA hZ1 hZ2 hSt hNc) rfl rfl hl.1 rfl (lv_room (Nat.le_of_ble_eq_true rfl)) d_LogCleanerLaw_law_665 ⟨(by refine Nat.le_trans ?_ lw_rc; omega), (by refine Nat.le_trans ?_ lw_rs; omega)⟩) hP hS hA (fun r60 h59 H locs hw hP hS => ?_)
          refine W.widen (k := (cT + 1)) (n := (sT + 6)) (by omega) (by omega) ?_
          refine lv_istore (lv' := [(5, .int r60), (0, .ref b), (1, .ref x1), (2, .ref x2), (3, .ref x3), (4, .int x4)]) hx hb d_LogCleanerLaw_law_668 hl (by decide) rfl (fun ls hl => ?_)
          refine lv_aload_n hx hb d_LogCleanerLaw_law_670 rfl (lv_at hl 3 rfl) ?_
          refine lv_aload_n hx hb d_LogCleanerLaw_law_671 rfl (lv_at hl 1 rfl) ?_
          refine lv_iload hx hb d_LogCleanerLaw_law_672 (lv_at hl 5 rfl) ?_
          refine lv_iconst (v := 1) hx hb d_LogCleanerLaw_law_674 (by decide) ?_
          refine lv_iadd hx hb d_LogCleanerLaw_law_675 ?_
          refine va_sld hx hb hXs hbl hbA hS hw.1 d_LogCleanerLaw_law_676 ?_
          replace hw := hw.2
          refine lv_i2l (v := (xs (x4 + 1).toNatClampNeg).toInt64) hx hb d_LogCleanerLaw_law_677 rfl ?_
          refine lv_bipush (v := 32) hx hb d_LogCleanerLaw_law_678 (by decide) ?_
          refine lv_lshl (v := ((xs (x4 + 1).toNatClampNeg).toInt64) <<< ((32 : Int32).toInt64 &&& 63)) hx hb d_LogCleanerLaw_law_680 rfl ?_
          refine lv_aload_n hx hb d_LogCleanerLaw_law_681 rfl (lv_at hl 1 rfl) ?_
          refine lv_iload hx hb d_LogCleanerLaw_law_682 (lv_at hl 5 rfl) ?_
          refine lv_iconst (v := 2) hx hb d_LogCleanerLaw_law_684 (by decide) ?_
          refine lv_iadd hx hb d_LogCleanerLaw_law_685 ?_
          refine va_sld hx hb hXs hbl hbA hS hw.1 d_LogCleanerLaw_law_686 ?_
          replace hw := hw.2
          refine lv_i2l (v := (xs (x4 + 2).toNatClampNeg).toInt64) hx hb d_LogCleanerLaw_law_687 rfl ?_
          refine lv_ldc2 (v := 4294967295) hx hb hown (htb _ k_LogCleanerLaw_46) d_LogCleanerLaw_law_688 ?_
          refine lv_land hx hb d_LogCleanerLaw_law_691 ?_
          refine lv_lor hx hb d_LogCleanerLaw_law_692 ?_
          refine lv_aload_n hx hb d_LogCleanerLaw_law_693 rfl (lv_at hl 1 rfl) ?_
          refine lv_iload hx hb d_LogCleanerLaw_law_694 (lv_at hl 5 rfl) ?_
          refine lv_iconst (v := 3) hx hb d_LogCleanerLaw_law_696 (by decide) ?_
          refine lv_iadd hx hb d_LogCleanerLaw_law_697 ?_
          refine va_sld hx hb hXs hbl hbA hS hw.1 d_LogCleanerLaw_law_698 ?_
          replace hw := hw.2
          obtain ⟨⟨_, hw0⟩, hw⟩ := hw
          refine ycalli (va_runV (b := x2) (As := [.long ((((xs (x4 + 1).toNatClampNeg).toInt64) <<< ((32 : Int32).toInt64 &&& 63)) ||| (((xs (x4 + 2).toNatClampNeg).toInt64) &&& 4294967295)), .int (xs (x4 + 3).toNatClampNeg)]) (rest := []) ⟨hx, hb, hml, hown, htb⟩ (m_LogCleanerModel_latest l D d h59 _ x2 ((((xs (x4 + 1).toNatClampNeg).toInt64) <<< ((32 : Int32).toInt64 &&& 63)) ||| (((xs (x4 + 2).toNatClampNeg).toInt64) &&& 4294967295)) (xs (x4 + 3).toNatClampNeg) _ hw) (xcwV 2 htb g_code_LogCleanerModel_latest g_ini_LogCleanerModel k_LogCleanerLaw_81 g_im_LogCleanerModel_latest g_sel_LogCleanerModel_latest rfl rfl (by decide +kernel) ⟨(Nat.le_of_ble_eq_true rfl), (Nat.le_of_ble_eq_true rfl)⟩) (xpreV hP hK hNB (ci := 4) rfl hw0) rfl rfl hl.1 rfl (lv_room (Nat.le_of_ble_eq_true rfl)) d_LogCleanerLaw_law_699 ⟨(by refine Nat.le_trans ?_ lw_rc; omega), (by refine Nat.le_trans ?_ lw_rs; omega)⟩) hP (fun _ _ => rfl) hS hA (fun r62 h61 H locs hw hfr hP hS => ?_)
          replace hw := hw hfr
          refine W.widen (k := (cT + 1)) (n := (sT + 6)) (by omega) (by omega) ?_
          refine lv_istore (lv' := [(6, .int r62), (5, .int r60), (0, .ref b), (1, .ref x1), (2, .ref x2), (3, .ref x3), (4, .int x4)]) hx hb d_LogCleanerLaw_law_702 hl (by decide) rfl (fun ls hl => ?_)
          refine lv_aload_n hx hb d_LogCleanerLaw_law_704 rfl (lv_at hl 4 rfl) ?_
          obtain ⟨⟨_, hw0⟩, hw⟩ := hw
          refine ycalli (va_runV (b := x2) (As := []) (rest := []) ⟨hx, hb, hml, hown, htb⟩ (m_LogCleanerModel_thrown l D d h61 _ x2 _ hw) (xcwV 0 htb g_code_LogCleanerModel_thrown g_ini_LogCleanerModel k_LogCleanerLaw_54 g_im_LogCleanerModel_thrown g_sel_LogCleanerModel_thrown rfl rfl (by decide +kernel) ⟨(Nat.le_of_ble_eq_true rfl), (Nat.le_of_ble_eq_true rfl)⟩) (xpreV hP hK hNB (ci := 4) rfl hw0) rfl rfl hl.1 rfl (lv_room (Nat.le_of_ble_eq_true rfl)) d_LogCleanerLaw_law_705 ⟨(by refine Nat.le_trans ?_ lw_rc; omega), (by refine Nat.le_trans ?_ lw_rs; omega)⟩) hP (fun _ _ => rfl) hS hA (fun r64 h63 H locs hw hfr hP hS => ?_)
          replace hw := hw hfr
          refine W.widen (k := (cT + 1)) (n := (sT + 6)) (by omega) (by omega) ?_
          refine lv_iload hx hb d_LogCleanerLaw_law_708 (lv_at hl 1 rfl) ?_
          refine lv_icmp_eq (tgt := 715) hx hb d_LogCleanerLaw_law_710 (by decide) (fun cq => ?_) (fun cq => ?_)
          · replace hw := hw.1 cq
            refine lv_iload hx hb d_LogCleanerLaw_law_715 (lv_at hl 1 rfl) ?_
            refine lv_if_ne (tgt := 732) hx hb d_LogCleanerLaw_law_717 (by decide) (fun cq => ?_) (fun cq => ?_)
            · replace hw := hw.2 cq
              exact sb_LogCleanerLaw_law_732 C0 hcT hsT hk23 x1 x2 x3 x4 h63 _ _ _ hw hP hS (lv_sub hl [2, 3, 4, 5, 6] rfl)
            · replace hw := hw.1 cq
              refine lv_aload_n hx hb d_LogCleanerLaw_law_720 rfl (lv_at hl 5 rfl) ?_
              refine lv_iconst (v := 0) hx hb d_LogCleanerLaw_law_721 (by decide) ?_
              refine xldl hx hb hK hP 3 rfl hw d_LogCleanerLaw_law_722 (fun v65 hw => ?_)
              refine lv_iload hx hb d_LogCleanerLaw_law_723 (lv_at hl 0 rfl) ?_
              refine lv_i2l (v := r62.toInt64) hx hb d_LogCleanerLaw_law_725 rfl ?_
              refine W.lcmp hx hb d_LogCleanerLaw_law_726 ?_
              refine lv_if_eq (tgt := 732) hx hb d_LogCleanerLaw_law_727 (by decide) (fun cq => ?_) (fun cq => ?_)
              · replace hw := hw.1 cq
                exact sb_LogCleanerLaw_law_732 C0 hcT hsT hk23 x1 x2 x3 x4 h63 _ _ _ hw hP hS (lv_sub hl [2, 3, 4, 5, 6] rfl)
              · replace hw := hw.2 cq
                refine lv_iconst (v := 0) hx hb d_LogCleanerLaw_law_730 (by decide) ?_
                exact hw.elim
          · replace hw := hw.2 cq
            refine lv_iconst (v := 0) hx hb d_LogCleanerLaw_law_713 (by decide) ?_
            exact hw.elim

