theorem g_code_LogCleaner_batch : Cond.code y_LogCleaner_batch b_LogCleaner_batch 4 (some .int) ∈ TB := tb_t 339 (by decide +kernel) (by decide +kernel)
theorem g_code_LogCleaner_clean : Cond.code y_LogCleaner_clean b_LogCleaner_clean 4 (some .int) ∈ TB := tb_t 276 (by decide +kernel) (by decide +kernel)
theorem g_code_LogCleaner_close : Cond.code y_LogCleaner_close b_LogCleaner_close 3 (some .int) ∈ TB := tb_t 199 (by decide +kernel) (by decide +kernel)
theorem g_code_LogCleaner_count : Cond.code y_LogCleaner_count b_LogCleaner_count 2 (some .int) ∈ TB := tb_t 331 (by decide +kernel) (by decide +kernel)
theorem g_code_LogCleaner_drop : Cond.code y_LogCleaner_drop b_LogCleaner_drop 3 (some .int) ∈ TB := tb_t 315 (by decide +kernel) (by decide +kernel)
theorem g_code_LogCleaner_latest : Cond.code y_LogCleaner_latest b_LogCleaner_latest 5 (some .int) ∈ TB := tb_t 360 (by decide +kernel) (by decide +kernel)
theorem g_code_LogCleaner_record : Cond.code y_LogCleaner_record b_LogCleaner_record 12 (some .int) ∈ TB := tb_t 68 (by decide +kernel) (by decide +kernel)
theorem g_code_LogCleaner_told : Cond.code y_LogCleaner_told b_LogCleaner_told 4 (some .long) ∈ TB := tb_t 348 (by decide +kernel) (by decide +kernel)
theorem g_im_LogCleaner_batch : Cond.instanceMethod y_LogCleaner_batch ∈ TB := tb_t 337 (by decide +kernel) (by decide +kernel)
theorem g_im_LogCleaner_clean : Cond.instanceMethod y_LogCleaner_clean ∈ TB := tb_t 274 (by decide +kernel) (by decide +kernel)
theorem g_im_LogCleaner_close : Cond.instanceMethod y_LogCleaner_close ∈ TB := tb_t 197 (by decide +kernel) (by decide +kernel)
theorem g_im_LogCleaner_count : Cond.instanceMethod y_LogCleaner_count ∈ TB := tb_t 329 (by decide +kernel) (by decide +kernel)
theorem g_im_LogCleaner_drop : Cond.instanceMethod y_LogCleaner_drop ∈ TB := tb_t 313 (by decide +kernel) (by decide +kernel)
theorem g_im_LogCleaner_latest : Cond.instanceMethod y_LogCleaner_latest ∈ TB := tb_t 358 (by decide +kernel) (by decide +kernel)
theorem g_im_LogCleaner_record : Cond.instanceMethod y_LogCleaner_record ∈ TB := tb_t 66 (by decide +kernel) (by decide +kernel)
theorem g_im_LogCleaner_told : Cond.instanceMethod y_LogCleaner_told ∈ TB := tb_t 346 (by decide +kernel) (by decide +kernel)
theorem g_sel_LogCleaner_batch : Cond.selects "LogCleaner" y_LogCleaner_batch y_LogCleaner_batch ∈ TB := tb_t 338 (by decide +kernel) (by decide +kernel)
theorem g_sel_LogCleaner_clean : Cond.selects "LogCleaner" y_LogCleaner_clean y_LogCleaner_clean ∈ TB := tb_t 275 (by decide +kernel) (by decide +kernel)
theorem g_sel_LogCleaner_close : Cond.selects "LogCleaner" y_LogCleaner_close y_LogCleaner_close ∈ TB := tb_t 198 (by decide +kernel) (by decide +kernel)
theorem g_sel_LogCleaner_count : Cond.selects "LogCleaner" y_LogCleaner_count y_LogCleaner_count ∈ TB := tb_t 330 (by decide +kernel) (by decide +kernel)
theorem g_sel_LogCleaner_drop : Cond.selects "LogCleaner" y_LogCleaner_drop y_LogCleaner_drop ∈ TB := tb_t 314 (by decide +kernel) (by decide +kernel)
theorem g_sel_LogCleaner_latest : Cond.selects "LogCleaner" y_LogCleaner_latest y_LogCleaner_latest ∈ TB := tb_t 359 (by decide +kernel) (by decide +kernel)
theorem g_sel_LogCleaner_record : Cond.selects "LogCleaner" y_LogCleaner_record y_LogCleaner_record ∈ TB := tb_t 67 (by decide +kernel) (by decide +kernel)
theorem g_sel_LogCleaner_told : Cond.selects "LogCleaner" y_LogCleaner_told y_LogCleaner_told ∈ TB := tb_t 347 (by decide +kernel) (by decide +kernel)
theorem k_LogCleanerLaw_13c : Cond.classLink "LogCleanerLaw" 13 "java/lang/IllegalArgumentException" ∈ TB := tb_t 63 (by decide +kernel) (by decide +kernel)
theorem k_LogCleanerLaw_15c : Cond.classLink "LogCleanerLaw" 15 "java/lang/IllegalStateException" ∈ TB := tb_t 64 (by decide +kernel) (by decide +kernel)
theorem k_LogCleanerLaw_17 : Cond.methodLink "LogCleanerLaw" 17 y_LogCleaner_close ∈ TB := tb_t 196 (by decide +kernel) (by decide +kernel)
theorem k_LogCleanerLaw_21 : Cond.methodLink "LogCleanerLaw" 21 y_LogCleaner_clean ∈ TB := tb_t 273 (by decide +kernel) (by decide +kernel)
theorem k_LogCleanerLaw_24 : Cond.methodLink "LogCleanerLaw" 24 y_LogCleaner_drop ∈ TB := tb_t 312 (by decide +kernel) (by decide +kernel)
theorem k_LogCleanerLaw_27 : Cond.methodLink "LogCleanerLaw" 27 y_LogCleaner_count ∈ TB := tb_t 328 (by decide +kernel) (by decide +kernel)
theorem k_LogCleanerLaw_30 : Cond.methodLink "LogCleanerLaw" 30 y_LogCleaner_batch ∈ TB := tb_t 336 (by decide +kernel) (by decide +kernel)
theorem k_LogCleanerLaw_34 : Cond.methodLink "LogCleanerLaw" 34 y_LogCleaner_told ∈ TB := tb_t 345 (by decide +kernel) (by decide +kernel)
theorem k_LogCleanerLaw_38 : Cond.methodLink "LogCleanerLaw" 38 y_LogCleaner_latest ∈ TB := tb_t 357 (by decide +kernel) (by decide +kernel)
theorem k_LogCleanerLaw_7 : Cond.methodLink "LogCleanerLaw" 7 y_LogCleaner_record ∈ TB := tb_t 65 (by decide +kernel) (by decide +kernel)
def wp_LogCleanerLaw_record (d : Nat → ClassId) (h : xw) (a0 : Option Nat) (a1 : Int64) (a3 : Int32) (a4 : Int32) (a5 : Int64) (a7 : Int32) (a8 : Option Nat) (Q : Int32 → xw → Prop) : Prop :=
  wnn a0 fun p1 => wIs h p1 0 (wp_LogCleaner_record d h p1 a1 a3 a4 a5 a7 (fun r3 h2 => xfr sgX h h2 →
  wnn a8 fun p5 => wstl h2 p5 (d 3) 0 r3.toInt64 fun h6 =>
  Q 0 h6) (fun E h4 => xfr sgX h h4 → (E = "java/lang/IllegalArgumentException" → Q 1 h4) ∧ (E = "java/lang/IllegalStateException" → Q 2 h4) ∧ (E = "java/lang/IllegalArgumentException" ∨ E = "java/lang/IllegalStateException")))
def wp_LogCleanerLaw_close (d : Nat → ClassId) (h : xw) (a0 : Option Nat) (a1 : Int32) (a2 : Option Nat) (Q : Int32 → xw → Prop) : Prop :=
  wnn a0 fun p1 => wIs h p1 0 (wp_LogCleaner_close d h p1 a1 (fun r3 h2 => xfr sgX h h2 →
  wnn a2 fun p5 => wstl h2 p5 (d 3) 0 r3.toInt64 fun h6 =>
  Q 0 h6) (fun E h4 => xfr sgX h h4 → (E = "java/lang/IllegalArgumentException" → Q 1 h4) ∧ (E = "java/lang/IllegalStateException" → Q 2 h4) ∧ (E = "java/lang/IllegalArgumentException" ∨ E = "java/lang/IllegalStateException")))
def wp_LogCleanerLaw_clean (d : Nat → ClassId) (h : xw) (a0 : Option Nat) (a1 : Int32) (a2 : Option Nat) (Q : Int32 → xw → Prop) : Prop :=
  wnn a0 fun p1 => wIs h p1 0 (wp_LogCleaner_clean d h p1 a1 (fun r3 h2 => xfr sgX h h2 →
  wnn a2 fun p5 => wstl h2 p5 (d 3) 0 r3.toInt64 fun h6 =>
  Q 0 h6) (fun E h4 => xfr sgX h h4 → (E = "java/lang/IllegalArgumentException" → Q 1 h4) ∧ (E = "java/lang/IllegalArgumentException")))
def wp_LogCleanerLaw_drop (d : Nat → ClassId) (h : xw) (a0 : Option Nat) (a1 : Int32) (a2 : Option Nat) (Q : Int32 → xw → Prop) : Prop :=
  wnn a0 fun p1 => wIs h p1 0 (wp_LogCleaner_drop d h p1 a1 (fun r3 h2 => xfr sgX h h2 →
  wnn a2 fun p5 => wstl h2 p5 (d 3) 0 r3.toInt64 fun h6 =>
  Q 0 h6) (fun E h4 => xfr sgX h h4 → (E = "java/lang/IllegalArgumentException" → Q 1 h4) ∧ (E = "java/lang/IllegalArgumentException")))
def wp_LogCleanerLaw_count (d : Nat → ClassId) (h : xw) (a0 : Option Nat) (a1 : Int32) (a2 : Option Nat) (Q : Int32 → xw → Prop) : Prop :=
  wnn a0 fun p1 => wIs h p1 0 (wp_LogCleaner_count d h p1 a1 (fun r3 h2 => xfr sgX h h2 →
  wnn a2 fun p5 => wstl h2 p5 (d 3) 0 r3.toInt64 fun h6 =>
  Q 0 h6) (fun E h4 => xfr sgX h h4 → (E = "java/lang/IllegalArgumentException" → Q 1 h4) ∧ (E = "java/lang/IllegalArgumentException")))
def wp_LogCleanerLaw_batch (d : Nat → ClassId) (h : xw) (a0 : Option Nat) (a1 : Int32) (a2 : Int32) (a3 : Option Nat) (Q : Int32 → xw → Prop) : Prop :=
  wnn a0 fun p1 => wIs h p1 0 (wp_LogCleaner_batch d h p1 a1 a2 (fun r3 h2 => xfr sgX h h2 →
  wnn a3 fun p5 => wstl h2 p5 (d 3) 0 r3.toInt64 fun h6 =>
  Q 0 h6) (fun E h4 => xfr sgX h h4 → (E = "java/lang/IllegalArgumentException" → Q 1 h4) ∧ (E = "java/lang/IllegalArgumentException")))
def wp_LogCleanerLaw_told (d : Nat → ClassId) (h : xw) (a0 : Option Nat) (a1 : Int32) (a2 : Int32) (a3 : Option Nat) (Q : Int32 → xw → Prop) : Prop :=
  wnn a0 fun p1 => wIs h p1 0 (wp_LogCleaner_told d h p1 a1 a2 (fun r3 h2 => xfr sgX h h2 →
  wnn a3 fun p5 => wstl h2 p5 (d 3) 0 r3 fun h6 =>
  Q 0 h6) (fun E h4 => xfr sgX h h4 → (E = "java/lang/IllegalArgumentException" → Q 1 h4) ∧ (E = "java/lang/IllegalArgumentException")))
def wp_LogCleanerLaw_latest (d : Nat → ClassId) (h : xw) (a0 : Option Nat) (a1 : Int64) (a3 : Int32) (a4 : Option Nat) (Q : Int32 → xw → Prop) : Prop :=
  wnn a0 fun p1 => wIs h p1 0 (wp_LogCleaner_latest d h p1 a1 a3 (fun r3 h2 => xfr sgX h h2 →
  wnn a4 fun p5 => wstl h2 p5 (d 3) 0 r3.toInt64 fun h6 =>
  Q 0 h6) (fun E h4 => xfr sgX h h4 → (E = "java/lang/IllegalArgumentException" → Q 1 h4) ∧ (E = "java/lang/IllegalArgumentException")))
theorem d_LogCleanerLaw_record_0 : decode b_LogCleanerLaw_record 0 = .ok (.aload 8, 2) := by decide +kernel
theorem d_LogCleanerLaw_record_2 : decode b_LogCleanerLaw_record 2 = .ok (.iconst 0, 1) := by decide +kernel
theorem d_LogCleanerLaw_record_3 : decode b_LogCleanerLaw_record 3 = .ok (.aload_n 0, 1) := by decide +kernel
theorem d_LogCleanerLaw_record_4 : decode b_LogCleanerLaw_record 4 = .ok (.lload_n 1, 1) := by decide +kernel
theorem d_LogCleanerLaw_record_5 : decode b_LogCleanerLaw_record 5 = .ok (.iload_n 3, 1) := by decide +kernel
theorem d_LogCleanerLaw_record_6 : decode b_LogCleanerLaw_record 6 = .ok (.iload 4, 2) := by decide +kernel
theorem d_LogCleanerLaw_record_8 : decode b_LogCleanerLaw_record 8 = .ok (.lload 5, 2) := by decide +kernel
theorem d_LogCleanerLaw_record_10 : decode b_LogCleanerLaw_record 10 = .ok (.iload 7, 2) := by decide +kernel
theorem d_LogCleanerLaw_record_12 : decode b_LogCleanerLaw_record 12 = .ok (.invokevirtual 7, 3) := by decide +kernel
theorem d_LogCleanerLaw_record_15 : decode b_LogCleanerLaw_record 15 = .ok (.i2l, 1) := by decide +kernel
theorem d_LogCleanerLaw_record_16 : decode b_LogCleanerLaw_record 16 = .ok (.lastore, 1) := by decide +kernel
theorem d_LogCleanerLaw_record_17 : decode b_LogCleanerLaw_record 17 = .ok (.goto 11, 3) := by decide +kernel
theorem d_LogCleanerLaw_record_20 : decode b_LogCleanerLaw_record 20 = .ok (.astore 9, 2) := by decide +kernel
theorem d_LogCleanerLaw_record_22 : decode b_LogCleanerLaw_record 22 = .ok (.iconst 1, 1) := by decide +kernel
theorem d_LogCleanerLaw_record_23 : decode b_LogCleanerLaw_record 23 = .ok (.ireturn, 1) := by decide +kernel
theorem d_LogCleanerLaw_record_24 : decode b_LogCleanerLaw_record 24 = .ok (.astore 9, 2) := by decide +kernel
theorem d_LogCleanerLaw_record_26 : decode b_LogCleanerLaw_record 26 = .ok (.iconst 2, 1) := by decide +kernel
theorem d_LogCleanerLaw_record_27 : decode b_LogCleanerLaw_record 27 = .ok (.ireturn, 1) := by decide +kernel
theorem d_LogCleanerLaw_record_28 : decode b_LogCleanerLaw_record 28 = .ok (.iconst 0, 1) := by decide +kernel
theorem d_LogCleanerLaw_record_29 : decode b_LogCleanerLaw_record 29 = .ok (.ireturn, 1) := by decide +kernel
def rm_LogCleanerLaw_record : Room := { frames := 7, cells := 1, slots := 7, locals := 113 }
def ws_LogCleanerLaw_record : List Cond := Cond.codeWith y_LogCleanerLaw_record b_LogCleanerLaw_record 10 (some .int) [(0, 17, 20, 13), (0, 17, 24, 15)] :: TB
theorem g_cw_LogCleanerLaw_record : Cond.codeWith y_LogCleanerLaw_record b_LogCleanerLaw_record 10 (some .int) [(0, 17, 20, 13), (0, 17, 24, 15)] ∈ TB := tb_t 62 (by decide +kernel) (by decide +kernel)
set_option maxHeartbeats 4000000 in
set_option maxRecDepth 100000 in
theorem m_LogCleanerLaw_record (l : Launch) (hlt : l.stackTraces = false) (D : va_G) (d : Nat → ClassId) (h : xw) (sz : Nat) (a0 : Option Nat) (a1 : Int64) (a3 : Int32) (a4 : Int32) (a5 : Int64) (a7 : Int32) (a8 : Option Nat) (Q : Int32 → xw → Prop) (hw : wp_LogCleanerLaw_record d h a0 a1 a3 a4 a5 a7 a8 Q) : Met l y_LogCleanerLaw_record ws_LogCleanerLaw_record rm_LogCleanerLaw_record (xPreH D d h [va_rf a0, .long a1, .int a3, .int a4, .long a5, .int a7, va_rf a8] sz) (va_Qi (fun r u => Q r u ∧ xfr sgT h u) (xB D d (xA h sz)) (xA h sz)) 1 7 (xA h sz) := by
  refine va_MetW (hh := [(0, 17, 20, 13), (0, 17, 24, 15)]) (cc := b_LogCleanerLaw_record) (maxL := 10) (ret := (some .int)) (by decide) rfl ?_
  intro p e s m args below meth c s₁ B hml hv
  obtain ⟨⟨rfl, hsz, hP0, hK, hNB, hZ1, hZ2, hSt⟩, hNc⟩ := hv
  have hts := atoms_spec (ws := ws_LogCleanerLaw_record) B.pre
  have htb := fun w (hw9 : w ∈ TB) => hts w (List.mem_cons_of_mem _ hw9)
  have hown : s.vm.findClass R_LogCleanerLaw = some m.cls := findClass_of_methodNamed B.named
  subst hsz
  obtain ⟨A, hAe⟩ : ∃ A, A = xA h s.heap.size := ⟨_, rfl⟩
  rw [← hAe] at hZ1 hZ2 ⊢
  have hP : xR sgT h D A h s.heap := ⟨by rw [hAe]; exact hP0.self, xfr.rf⟩
  have hA : ∀ q, s.heap.size ≤ q → A q := fun q hq => by rw [hAe]; exact Or.inr hq
  have hS : va_S A s.heap s.heap [] := va_S.rf
  have C0 : xctx p s m ([va_rf a0, .long a1, .int a3, .int a4, .long a5, .int a7, va_rf a8] : List Value).toArray meth c b_LogCleanerLaw_record 10 (some .int) R_LogCleanerLaw D d A (xH l s c A [⟨0, 17, 20, 13⟩, ⟨0, 17, 24, 15⟩]) := ⟨B.exec, B.bytes, B.returns, hml, hown, htb, hK, hA, hNB, B.notSynchronized, ⟨hlt, hZ1, hZ2, hSt, hNc, (vx_table (x := y_LogCleanerLaw_record) B (hts _ List.mem_cons_self)).trans rfl⟩⟩
  obtain ⟨hx, hb, hr, -, -, -, -, -, -, hlocks, hXT⟩ := id C0
  have hl := lv_entry ([va_rf a0, .long a1, .int a3, .int a4, .long a5, .int a7, va_rf a8] : List Value) (n := 10) (by cases a0 <;> cases a8 <;> exact (Nat.le_of_ble_eq_true rfl))
  rw [lg_entry_eq]
  generalize (lg_sl ([va_rf a0, .long a1, .int a3, .int a4, .long a5, .int a7, va_rf a8] : List Value) ++ List.replicate (10 - (lg_sl ([va_rf a0, .long a1, .int a3, .int a4, .long a5, .int a7, va_rf a8] : List Value)).length) Slot.unset).toArray = ls at hl ⊢
  have hle : lv_args 0 ([va_rf a0, .long a1, .int a3, .int a4, .long a5, .int a7, va_rf a8] : List Value) = [(0, va_rf a0), (1, .long a1), (3, .int a3), (4, .int a4), (5, .long a5), (7, .int a7), (8, va_rf a8)] := by cases a0 <;> cases a8 <;> rfl
  rw [hle] at hl
  refine xv_aload hx hb d_LogCleanerLaw_record_0 (lv_at hl 6 rfl) ?_
  refine lv_iconst (v := 0) hx hb d_LogCleanerLaw_record_2 (by decide) ?_
  refine xv_aload_n hx hb d_LogCleanerLaw_record_3 rfl (lv_at hl 0 rfl) ?_
  refine lv_lload_n hx hb d_LogCleanerLaw_record_4 rfl (lv_at hl 1 rfl) ?_
  refine lv_iload_n hx hb d_LogCleanerLaw_record_5 rfl (lv_at hl 2 rfl) ?_
  refine lv_iload hx hb d_LogCleanerLaw_record_6 (lv_at hl 3 rfl) ?_
  refine lv_lload hx hb d_LogCleanerLaw_record_8 (lv_at hl 4 rfl) ?_
  refine lv_iload hx hb d_LogCleanerLaw_record_10 (lv_at hl 5 rfl) ?_
  obtain ⟨p1, hpe, hw⟩ := hw
  revert hw
  revert hl
  subst hpe
  intro hl hw
  replace hl : lv_has ls 10 [(0, .ref p1), (1, .long a1), (3, .int a3), (4, .int a4), (5, .long a5), (7, .int a7), (8, va_rf a8)] := hl
  obtain ⟨⟨_, hw0⟩, hw⟩ := hw
  refine xcallXi (vx_runV (b := p1) (As := [.long a1, .int a3, .int a4, .long a5, .int a7]) (rest := [.int 0, va_rf a8]) ⟨hx, hb, hml, hown, htb⟩ (m_LogCleaner_record l hXT.1 D d h _ p1 a1 a3 a4 a5 a7 _ _ hw) (xcwV 5 htb g_code_LogCleaner_record g_ini_LogCleaner k_LogCleanerLaw_7 g_im_LogCleaner_record g_sel_LogCleaner_record rfl rfl (by decide +kernel) ⟨(Nat.le_of_ble_eq_true rfl), (Nat.le_of_ble_eq_true rfl)⟩) (xpreVX hP hK hNB hS hA hXT.2.1 hXT.2.2.1 hXT.2.2.2.1 (ci := 0) rfl hw0) rfl rfl hl.1 rfl (lv_room (by cases a8 <;> exact (Nat.le_of_ble_eq_true rfl))) d_LogCleanerLaw_record_12 ⟨(Nat.le_of_ble_eq_true rfl), (Nat.le_of_ble_eq_true rfl)⟩) hP (fun _ _ => rfl) hS hA (fun E ce q9 h4 H locs hw hfr hP hS hce hcv hcl => ?_) (fun r3 h2 H locs hw hfr hP hS => ?_)
  · replace hw := hw hfr
    obtain ⟨hw1, hw2, hor⟩ := hw
    rcases hor with rfl | rfl
    · replace hw := hw1 rfl
      refine vx_catch (own := R_LogCleanerLaw) (name := "java/lang/IllegalArgumentException") hown [] ⟨0, 17, 20, 13⟩ [⟨0, 17, 24, 15⟩] hXT.2.2.2.2.2 (fun z hz => by cases hz) (by decide) (by decide) (htb _ k_LogCleanerLaw_13c) (va_Nw.use rfl (hNB.1 _ (by decide +kernel))) hce hcv hcl ?_
      refine W.widen (k := 1) (n := 7) (Nat.le_of_ble_eq_true rfl) (Nat.le_of_ble_eq_true rfl) ?_
      refine lv_astore (lv' := [(9, .ref q9), (0, .ref p1), (1, .long a1), (3, .int a3), (4, .int a4), (5, .long a5), (7, .int a7), (8, va_rf a8)]) hx hb d_LogCleanerLaw_record_20 hl (by decide) (by cases a8 <;> rfl) (fun ls hl => ?_)
      refine lv_iconst (v := 1) hx hb d_LogCleanerLaw_record_22 (by decide) ?_
      refine W.widen (k := 1) (n := 7) (Nat.le_of_ble_eq_true rfl) (Nat.le_of_ble_eq_true rfl) ?_
      exact xretI C0 hw hP hS d_LogCleanerLaw_record_23
    · replace hw := hw2 rfl
      refine vx_catch (own := R_LogCleanerLaw) (name := "java/lang/IllegalStateException") hown [⟨0, 17, 20, 13⟩] ⟨0, 17, 24, 15⟩ [] hXT.2.2.2.2.2 (fun z hz => by
        rw [List.mem_singleton.mp hz]
        exact Or.inr ⟨by decide, _, htb _ k_LogCleanerLaw_13c, hXT.2.2.2.2.1⟩) (by decide) (by decide) (htb _ k_LogCleanerLaw_15c) (va_Nw.use rfl (hNB.1 _ (by decide +kernel))) hce hcv hcl ?_
      refine W.widen (k := 1) (n := 7) (Nat.le_of_ble_eq_true rfl) (Nat.le_of_ble_eq_true rfl) ?_
      refine lv_astore (lv' := [(9, .ref q9), (0, .ref p1), (1, .long a1), (3, .int a3), (4, .int a4), (5, .long a5), (7, .int a7), (8, va_rf a8)]) hx hb d_LogCleanerLaw_record_24 hl (by decide) (by cases a8 <;> rfl) (fun ls hl => ?_)
      refine lv_iconst (v := 2) hx hb d_LogCleanerLaw_record_26 (by decide) ?_
      refine W.widen (k := 1) (n := 7) (Nat.le_of_ble_eq_true rfl) (Nat.le_of_ble_eq_true rfl) ?_
      exact xretI C0 hw hP hS d_LogCleanerLaw_record_27
  · replace hw := hw hfr
    refine W.widen (k := 1) (n := 7) (Nat.le_of_ble_eq_true rfl) (Nat.le_of_ble_eq_true rfl) ?_
    refine lv_i2l (v := r3.toInt64) hx hb d_LogCleanerLaw_record_15 rfl ?_
    obtain ⟨p5, hpe, hw⟩ := hw
    revert hw
    revert hl
    subst hpe
    intro hl hw
    replace hl : lv_has ls 10 [(0, .ref p1), (1, .long a1), (3, .int a3), (4, .int a4), (5, .long a5), (7, .int a7), (8, .ref p5)] := hl
    refine xstl hx hb hK hP hS 3 rfl (fun _ _ => rfl) hw d_LogCleanerLaw_record_16 (fun h6 H locs hw hP hS => ?_)
    refine lv_goto (tgt := 28) hx hb d_LogCleanerLaw_record_17 (by decide) ?_
    refine lv_iconst (v := 0) hx hb d_LogCleanerLaw_record_28 (by decide) ?_
    refine W.widen (k := 1) (n := 7) (Nat.le_of_ble_eq_true rfl) (Nat.le_of_ble_eq_true rfl) ?_
    exact xretI C0 hw hP hS d_LogCleanerLaw_record_29

theorem d_LogCleanerLaw_close_0 : decode b_LogCleanerLaw_close 0 = .ok (.aload_n 2, 1) := by decide +kernel
theorem d_LogCleanerLaw_close_1 : decode b_LogCleanerLaw_close 1 = .ok (.iconst 0, 1) := by decide +kernel
theorem d_LogCleanerLaw_close_2 : decode b_LogCleanerLaw_close 2 = .ok (.aload_n 0, 1) := by decide +kernel
theorem d_LogCleanerLaw_close_3 : decode b_LogCleanerLaw_close 3 = .ok (.iload_n 1, 1) := by decide +kernel
theorem d_LogCleanerLaw_close_4 : decode b_LogCleanerLaw_close 4 = .ok (.invokevirtual 17, 3) := by decide +kernel
theorem d_LogCleanerLaw_close_7 : decode b_LogCleanerLaw_close 7 = .ok (.i2l, 1) := by decide +kernel
theorem d_LogCleanerLaw_close_8 : decode b_LogCleanerLaw_close 8 = .ok (.lastore, 1) := by decide +kernel
theorem d_LogCleanerLaw_close_9 : decode b_LogCleanerLaw_close 9 = .ok (.goto 9, 3) := by decide +kernel
theorem d_LogCleanerLaw_close_12 : decode b_LogCleanerLaw_close 12 = .ok (.astore_n 3, 1) := by decide +kernel
theorem d_LogCleanerLaw_close_13 : decode b_LogCleanerLaw_close 13 = .ok (.iconst 1, 1) := by decide +kernel
theorem d_LogCleanerLaw_close_14 : decode b_LogCleanerLaw_close 14 = .ok (.ireturn, 1) := by decide +kernel
theorem d_LogCleanerLaw_close_15 : decode b_LogCleanerLaw_close 15 = .ok (.astore_n 3, 1) := by decide +kernel
theorem d_LogCleanerLaw_close_16 : decode b_LogCleanerLaw_close 16 = .ok (.iconst 2, 1) := by decide +kernel
theorem d_LogCleanerLaw_close_17 : decode b_LogCleanerLaw_close 17 = .ok (.ireturn, 1) := by decide +kernel
theorem d_LogCleanerLaw_close_18 : decode b_LogCleanerLaw_close 18 = .ok (.iconst 0, 1) := by decide +kernel
theorem d_LogCleanerLaw_close_19 : decode b_LogCleanerLaw_close 19 = .ok (.ireturn, 1) := by decide +kernel
def rm_LogCleanerLaw_close : Room := { frames := 7, cells := 2, slots := 105, locals := 117 }
def ws_LogCleanerLaw_close : List Cond := Cond.codeWith y_LogCleanerLaw_close b_LogCleanerLaw_close 4 (some .int) [(0, 9, 12, 13), (0, 9, 15, 15)] :: TB
theorem g_cw_LogCleanerLaw_close : Cond.codeWith y_LogCleanerLaw_close b_LogCleanerLaw_close 4 (some .int) [(0, 9, 12, 13), (0, 9, 15, 15)] ∈ TB := tb_t 195 (by decide +kernel) (by decide +kernel)
set_option maxHeartbeats 4000000 in
set_option maxRecDepth 100000 in
theorem m_LogCleanerLaw_close (l : Launch) (hlt : l.stackTraces = false) (D : va_G) (d : Nat → ClassId) (h : xw) (sz : Nat) (a0 : Option Nat) (a1 : Int32) (a2 : Option Nat) (Q : Int32 → xw → Prop) (hw : wp_LogCleanerLaw_close d h a0 a1 a2 Q) : Met l y_LogCleanerLaw_close ws_LogCleanerLaw_close rm_LogCleanerLaw_close (xPreH D d h [va_rf a0, .int a1, va_rf a2] sz) (va_Qi (fun r u => Q r u ∧ xfr sgT h u) (xB D d (xA h sz)) (xA h sz)) 2 105 (xA h sz) := by
  refine va_MetW (hh := [(0, 9, 12, 13), (0, 9, 15, 15)]) (cc := b_LogCleanerLaw_close) (maxL := 4) (ret := (some .int)) (by decide) rfl ?_
  intro p e s m args below meth c s₁ B hml hv
  obtain ⟨⟨rfl, hsz, hP0, hK, hNB, hZ1, hZ2, hSt⟩, hNc⟩ := hv
  have hts := atoms_spec (ws := ws_LogCleanerLaw_close) B.pre
  have htb := fun w (hw9 : w ∈ TB) => hts w (List.mem_cons_of_mem _ hw9)
  have hown : s.vm.findClass R_LogCleanerLaw = some m.cls := findClass_of_methodNamed B.named
  subst hsz
  obtain ⟨A, hAe⟩ : ∃ A, A = xA h s.heap.size := ⟨_, rfl⟩
  rw [← hAe] at hZ1 hZ2 ⊢
  have hP : xR sgT h D A h s.heap := ⟨by rw [hAe]; exact hP0.self, xfr.rf⟩
  have hA : ∀ q, s.heap.size ≤ q → A q := fun q hq => by rw [hAe]; exact Or.inr hq
  have hS : va_S A s.heap s.heap [] := va_S.rf
  have C0 : xctx p s m ([va_rf a0, .int a1, va_rf a2] : List Value).toArray meth c b_LogCleanerLaw_close 4 (some .int) R_LogCleanerLaw D d A (xH l s c A [⟨0, 9, 12, 13⟩, ⟨0, 9, 15, 15⟩]) := ⟨B.exec, B.bytes, B.returns, hml, hown, htb, hK, hA, hNB, B.notSynchronized, ⟨hlt, hZ1, hZ2, hSt, hNc, (vx_table (x := y_LogCleanerLaw_close) B (hts _ List.mem_cons_self)).trans rfl⟩⟩
  obtain ⟨hx, hb, hr, -, -, -, -, -, -, hlocks, hXT⟩ := id C0
  have hl := lv_entry ([va_rf a0, .int a1, va_rf a2] : List Value) (n := 4) (by cases a0 <;> cases a2 <;> exact (Nat.le_of_ble_eq_true rfl))
  rw [lg_entry_eq]
  generalize (lg_sl ([va_rf a0, .int a1, va_rf a2] : List Value) ++ List.replicate (4 - (lg_sl ([va_rf a0, .int a1, va_rf a2] : List Value)).length) Slot.unset).toArray = ls at hl ⊢
  have hle : lv_args 0 ([va_rf a0, .int a1, va_rf a2] : List Value) = [(0, va_rf a0), (1, .int a1), (2, va_rf a2)] := by cases a0 <;> cases a2 <;> rfl
  rw [hle] at hl
  refine xv_aload_n hx hb d_LogCleanerLaw_close_0 rfl (lv_at hl 2 rfl) ?_
  refine lv_iconst (v := 0) hx hb d_LogCleanerLaw_close_1 (by decide) ?_
  refine xv_aload_n hx hb d_LogCleanerLaw_close_2 rfl (lv_at hl 0 rfl) ?_
  refine lv_iload_n hx hb d_LogCleanerLaw_close_3 rfl (lv_at hl 1 rfl) ?_
  obtain ⟨p1, hpe, hw⟩ := hw
  revert hw
  revert hl
  subst hpe
  intro hl hw
  replace hl : lv_has ls 4 [(0, .ref p1), (1, .int a1), (2, va_rf a2)] := hl
  obtain ⟨⟨_, hw0⟩, hw⟩ := hw
  refine xcallXi (vx_runV (b := p1) (As := [.int a1]) (rest := [.int 0, va_rf a2]) ⟨hx, hb, hml, hown, htb⟩ (m_LogCleaner_close l hXT.1 D d h _ p1 a1 _ _ hw) (xcwV 1 htb g_code_LogCleaner_close g_ini_LogCleaner k_LogCleanerLaw_17 g_im_LogCleaner_close g_sel_LogCleaner_close rfl rfl (by decide +kernel) ⟨(Nat.le_of_ble_eq_true rfl), (Nat.le_of_ble_eq_true rfl)⟩) (xpreVX hP hK hNB hS hA hXT.2.1 hXT.2.2.1 hXT.2.2.2.1 (ci := 0) rfl hw0) rfl rfl hl.1 rfl (lv_room (by cases a2 <;> exact (Nat.le_of_ble_eq_true rfl))) d_LogCleanerLaw_close_4 ⟨(Nat.le_of_ble_eq_true rfl), (Nat.le_of_ble_eq_true rfl)⟩) hP (fun _ _ => rfl) hS hA (fun E ce q9 h4 H locs hw hfr hP hS hce hcv hcl => ?_) (fun r3 h2 H locs hw hfr hP hS => ?_)
  · replace hw := hw hfr
    obtain ⟨hw1, hw2, hor⟩ := hw
    rcases hor with rfl | rfl
    · replace hw := hw1 rfl
      refine vx_catch (own := R_LogCleanerLaw) (name := "java/lang/IllegalArgumentException") hown [] ⟨0, 9, 12, 13⟩ [⟨0, 9, 15, 15⟩] hXT.2.2.2.2.2 (fun z hz => by cases hz) (by decide) (by decide) (htb _ k_LogCleanerLaw_13c) (va_Nw.use rfl (hNB.1 _ (by decide +kernel))) hce hcv hcl ?_
      refine W.widen (k := 2) (n := 105) (Nat.le_of_ble_eq_true rfl) (Nat.le_of_ble_eq_true rfl) ?_
      refine lv_astore_n (lv' := [(3, .ref q9), (0, .ref p1), (1, .int a1), (2, va_rf a2)]) hx hb d_LogCleanerLaw_close_12 rfl hl (by decide) (by cases a2 <;> rfl) (fun ls hl => ?_)
      refine lv_iconst (v := 1) hx hb d_LogCleanerLaw_close_13 (by decide) ?_
      refine W.widen (k := 2) (n := 105) (Nat.le_of_ble_eq_true rfl) (Nat.le_of_ble_eq_true rfl) ?_
      exact xretI C0 hw hP hS d_LogCleanerLaw_close_14
    · replace hw := hw2 rfl
      refine vx_catch (own := R_LogCleanerLaw) (name := "java/lang/IllegalStateException") hown [⟨0, 9, 12, 13⟩] ⟨0, 9, 15, 15⟩ [] hXT.2.2.2.2.2 (fun z hz => by
        rw [List.mem_singleton.mp hz]
        exact Or.inr ⟨by decide, _, htb _ k_LogCleanerLaw_13c, hXT.2.2.2.2.1⟩) (by decide) (by decide) (htb _ k_LogCleanerLaw_15c) (va_Nw.use rfl (hNB.1 _ (by decide +kernel))) hce hcv hcl ?_
      refine W.widen (k := 2) (n := 105) (Nat.le_of_ble_eq_true rfl) (Nat.le_of_ble_eq_true rfl) ?_
      refine lv_astore_n (lv' := [(3, .ref q9), (0, .ref p1), (1, .int a1), (2, va_rf a2)]) hx hb d_LogCleanerLaw_close_15 rfl hl (by decide) (by cases a2 <;> rfl) (fun ls hl => ?_)
      refine lv_iconst (v := 2) hx hb d_LogCleanerLaw_close_16 (by decide) ?_
      refine W.widen (k := 2) (n := 105) (Nat.le_of_ble_eq_true rfl) (Nat.le_of_ble_eq_true rfl) ?_
      exact xretI C0 hw hP hS d_LogCleanerLaw_close_17
  · replace hw := hw hfr
    refine W.widen (k := 2) (n := 105) (Nat.le_of_ble_eq_true rfl) (Nat.le_of_ble_eq_true rfl) ?_
    refine lv_i2l (v := r3.toInt64) hx hb d_LogCleanerLaw_close_7 rfl ?_
    obtain ⟨p5, hpe, hw⟩ := hw
    revert hw
    revert hl
    subst hpe
    intro hl hw
    replace hl : lv_has ls 4 [(0, .ref p1), (1, .int a1), (2, .ref p5)] := hl
    refine xstl hx hb hK hP hS 3 rfl (fun _ _ => rfl) hw d_LogCleanerLaw_close_8 (fun h6 H locs hw hP hS => ?_)
    refine lv_goto (tgt := 18) hx hb d_LogCleanerLaw_close_9 (by decide) ?_
    refine lv_iconst (v := 0) hx hb d_LogCleanerLaw_close_18 (by decide) ?_
    refine W.widen (k := 2) (n := 105) (Nat.le_of_ble_eq_true rfl) (Nat.le_of_ble_eq_true rfl) ?_
    exact xretI C0 hw hP hS d_LogCleanerLaw_close_19

theorem d_LogCleanerLaw_clean_0 : decode b_LogCleanerLaw_clean 0 = .ok (.aload_n 2, 1) := by decide +kernel
theorem d_LogCleanerLaw_clean_1 : decode b_LogCleanerLaw_clean 1 = .ok (.iconst 0, 1) := by decide +kernel
theorem d_LogCleanerLaw_clean_2 : decode b_LogCleanerLaw_clean 2 = .ok (.aload_n 0, 1) := by decide +kernel
theorem d_LogCleanerLaw_clean_3 : decode b_LogCleanerLaw_clean 3 = .ok (.iload_n 1, 1) := by decide +kernel
theorem d_LogCleanerLaw_clean_4 : decode b_LogCleanerLaw_clean 4 = .ok (.invokevirtual 21, 3) := by decide +kernel
theorem d_LogCleanerLaw_clean_7 : decode b_LogCleanerLaw_clean 7 = .ok (.i2l, 1) := by decide +kernel
theorem d_LogCleanerLaw_clean_8 : decode b_LogCleanerLaw_clean 8 = .ok (.lastore, 1) := by decide +kernel
theorem d_LogCleanerLaw_clean_9 : decode b_LogCleanerLaw_clean 9 = .ok (.goto 6, 3) := by decide +kernel
theorem d_LogCleanerLaw_clean_12 : decode b_LogCleanerLaw_clean 12 = .ok (.astore_n 3, 1) := by decide +kernel
theorem d_LogCleanerLaw_clean_13 : decode b_LogCleanerLaw_clean 13 = .ok (.iconst 1, 1) := by decide +kernel
theorem d_LogCleanerLaw_clean_14 : decode b_LogCleanerLaw_clean 14 = .ok (.ireturn, 1) := by decide +kernel
theorem d_LogCleanerLaw_clean_15 : decode b_LogCleanerLaw_clean 15 = .ok (.iconst 0, 1) := by decide +kernel
theorem d_LogCleanerLaw_clean_16 : decode b_LogCleanerLaw_clean 16 = .ok (.ireturn, 1) := by decide +kernel
def rm_LogCleanerLaw_clean : Room := { frames := 7, cells := 1, slots := 6, locals := 112 }
def ws_LogCleanerLaw_clean : List Cond := Cond.codeWith y_LogCleanerLaw_clean b_LogCleanerLaw_clean 4 (some .int) [(0, 9, 12, 13)] :: TB
theorem g_cw_LogCleanerLaw_clean : Cond.codeWith y_LogCleanerLaw_clean b_LogCleanerLaw_clean 4 (some .int) [(0, 9, 12, 13)] ∈ TB := tb_t 272 (by decide +kernel) (by decide +kernel)
set_option maxHeartbeats 4000000 in
set_option maxRecDepth 100000 in
theorem m_LogCleanerLaw_clean (l : Launch) (hlt : l.stackTraces = false) (D : va_G) (d : Nat → ClassId) (h : xw) (sz : Nat) (a0 : Option Nat) (a1 : Int32) (a2 : Option Nat) (Q : Int32 → xw → Prop) (hw : wp_LogCleanerLaw_clean d h a0 a1 a2 Q) : Met l y_LogCleanerLaw_clean ws_LogCleanerLaw_clean rm_LogCleanerLaw_clean (xPreH D d h [va_rf a0, .int a1, va_rf a2] sz) (va_Qi (fun r u => Q r u ∧ xfr sgT h u) (xB D d (xA h sz)) (xA h sz)) 1 6 (xA h sz) := by
  refine va_MetW (hh := [(0, 9, 12, 13)]) (cc := b_LogCleanerLaw_clean) (maxL := 4) (ret := (some .int)) (by decide) rfl ?_
  intro p e s m args below meth c s₁ B hml hv
  obtain ⟨⟨rfl, hsz, hP0, hK, hNB, hZ1, hZ2, hSt⟩, hNc⟩ := hv
  have hts := atoms_spec (ws := ws_LogCleanerLaw_clean) B.pre
  have htb := fun w (hw9 : w ∈ TB) => hts w (List.mem_cons_of_mem _ hw9)
  have hown : s.vm.findClass R_LogCleanerLaw = some m.cls := findClass_of_methodNamed B.named
  subst hsz
  obtain ⟨A, hAe⟩ : ∃ A, A = xA h s.heap.size := ⟨_, rfl⟩
  rw [← hAe] at hZ1 hZ2 ⊢
  have hP : xR sgT h D A h s.heap := ⟨by rw [hAe]; exact hP0.self, xfr.rf⟩
  have hA : ∀ q, s.heap.size ≤ q → A q := fun q hq => by rw [hAe]; exact Or.inr hq
  have hS : va_S A s.heap s.heap [] := va_S.rf
  have C0 : xctx p s m ([va_rf a0, .int a1, va_rf a2] : List Value).toArray meth c b_LogCleanerLaw_clean 4 (some .int) R_LogCleanerLaw D d A (xH l s c A [⟨0, 9, 12, 13⟩]) := ⟨B.exec, B.bytes, B.returns, hml, hown, htb, hK, hA, hNB, B.notSynchronized, ⟨hlt, hZ1, hZ2, hSt, hNc, (vx_table (x := y_LogCleanerLaw_clean) B (hts _ List.mem_cons_self)).trans rfl⟩⟩
  obtain ⟨hx, hb, hr, -, -, -, -, -, -, hlocks, hXT⟩ := id C0
  have hl := lv_entry ([va_rf a0, .int a1, va_rf a2] : List Value) (n := 4) (by cases a0 <;> cases a2 <;> exact (Nat.le_of_ble_eq_true rfl))
  rw [lg_entry_eq]
  generalize (lg_sl ([va_rf a0, .int a1, va_rf a2] : List Value) ++ List.replicate (4 - (lg_sl ([va_rf a0, .int a1, va_rf a2] : List Value)).length) Slot.unset).toArray = ls at hl ⊢
  have hle : lv_args 0 ([va_rf a0, .int a1, va_rf a2] : List Value) = [(0, va_rf a0), (1, .int a1), (2, va_rf a2)] := by cases a0 <;> cases a2 <;> rfl
  rw [hle] at hl
  refine xv_aload_n hx hb d_LogCleanerLaw_clean_0 rfl (lv_at hl 2 rfl) ?_
  refine lv_iconst (v := 0) hx hb d_LogCleanerLaw_clean_1 (by decide) ?_
  refine xv_aload_n hx hb d_LogCleanerLaw_clean_2 rfl (lv_at hl 0 rfl) ?_
  refine lv_iload_n hx hb d_LogCleanerLaw_clean_3 rfl (lv_at hl 1 rfl) ?_
  obtain ⟨p1, hpe, hw⟩ := hw
  revert hw
  revert hl
  subst hpe
  intro hl hw
  replace hl : lv_has ls 4 [(0, .ref p1), (1, .int a1), (2, va_rf a2)] := hl
  obtain ⟨⟨_, hw0⟩, hw⟩ := hw
  refine xcallXi (vx_runV (b := p1) (As := [.int a1]) (rest := [.int 0, va_rf a2]) ⟨hx, hb, hml, hown, htb⟩ (m_LogCleaner_clean l hXT.1 D d h _ p1 a1 _ _ hw) (xcwV 1 htb g_code_LogCleaner_clean g_ini_LogCleaner k_LogCleanerLaw_21 g_im_LogCleaner_clean g_sel_LogCleaner_clean rfl rfl (by decide +kernel) ⟨(Nat.le_of_ble_eq_true rfl), (Nat.le_of_ble_eq_true rfl)⟩) (xpreVX hP hK hNB hS hA hXT.2.1 hXT.2.2.1 hXT.2.2.2.1 (ci := 0) rfl hw0) rfl rfl hl.1 rfl (lv_room (by cases a2 <;> exact (Nat.le_of_ble_eq_true rfl))) d_LogCleanerLaw_clean_4 ⟨(Nat.le_of_ble_eq_true rfl), (Nat.le_of_ble_eq_true rfl)⟩) hP (fun _ _ => rfl) hS hA (fun E ce q9 h4 H locs hw hfr hP hS hce hcv hcl => ?_) (fun r3 h2 H locs hw hfr hP hS => ?_)
  · replace hw := hw hfr
    obtain ⟨hw, rfl⟩ := hw
    replace hw := hw rfl
    refine vx_catch (own := R_LogCleanerLaw) (name := "java/lang/IllegalArgumentException") hown [] ⟨0, 9, 12, 13⟩ [] hXT.2.2.2.2.2 (fun z hz => by cases hz) (by decide) (by decide) (htb _ k_LogCleanerLaw_13c) (va_Nw.use rfl (hNB.1 _ (by decide +kernel))) hce hcv hcl ?_
    refine W.widen (k := 1) (n := 6) (Nat.le_of_ble_eq_true rfl) (Nat.le_of_ble_eq_true rfl) ?_
    refine lv_astore_n (lv' := [(3, .ref q9), (0, .ref p1), (1, .int a1), (2, va_rf a2)]) hx hb d_LogCleanerLaw_clean_12 rfl hl (by decide) (by cases a2 <;> rfl) (fun ls hl => ?_)
    refine lv_iconst (v := 1) hx hb d_LogCleanerLaw_clean_13 (by decide) ?_
    refine W.widen (k := 1) (n := 6) (Nat.le_of_ble_eq_true rfl) (Nat.le_of_ble_eq_true rfl) ?_
    exact xretI C0 hw hP hS d_LogCleanerLaw_clean_14
  · replace hw := hw hfr
    refine W.widen (k := 1) (n := 6) (Nat.le_of_ble_eq_true rfl) (Nat.le_of_ble_eq_true rfl) ?_
    refine lv_i2l (v := r3.toInt64) hx hb d_LogCleanerLaw_clean_7 rfl ?_
    obtain ⟨p5, hpe, hw⟩ := hw
    revert hw
    revert hl
    subst hpe
    intro hl hw
    replace hl : lv_has ls 4 [(0, .ref p1), (1, .int a1), (2, .ref p5)] := hl
    refine xstl hx hb hK hP hS 3 rfl (fun _ _ => rfl) hw d_LogCleanerLaw_clean_8 (fun h6 H locs hw hP hS => ?_)
    refine lv_goto (tgt := 15) hx hb d_LogCleanerLaw_clean_9 (by decide) ?_
    refine lv_iconst (v := 0) hx hb d_LogCleanerLaw_clean_15 (by decide) ?_
    refine W.widen (k := 1) (n := 6) (Nat.le_of_ble_eq_true rfl) (Nat.le_of_ble_eq_true rfl) ?_
    exact xretI C0 hw hP hS d_LogCleanerLaw_clean_16

theorem d_LogCleanerLaw_drop_0 : decode b_LogCleanerLaw_drop 0 = .ok (.aload_n 2, 1) := by decide +kernel
theorem d_LogCleanerLaw_drop_1 : decode b_LogCleanerLaw_drop 1 = .ok (.iconst 0, 1) := by decide +kernel
theorem d_LogCleanerLaw_drop_2 : decode b_LogCleanerLaw_drop 2 = .ok (.aload_n 0, 1) := by decide +kernel
theorem d_LogCleanerLaw_drop_3 : decode b_LogCleanerLaw_drop 3 = .ok (.iload_n 1, 1) := by decide +kernel
theorem d_LogCleanerLaw_drop_4 : decode b_LogCleanerLaw_drop 4 = .ok (.invokevirtual 24, 3) := by decide +kernel
theorem d_LogCleanerLaw_drop_7 : decode b_LogCleanerLaw_drop 7 = .ok (.i2l, 1) := by decide +kernel
theorem d_LogCleanerLaw_drop_8 : decode b_LogCleanerLaw_drop 8 = .ok (.lastore, 1) := by decide +kernel
theorem d_LogCleanerLaw_drop_9 : decode b_LogCleanerLaw_drop 9 = .ok (.goto 6, 3) := by decide +kernel
theorem d_LogCleanerLaw_drop_12 : decode b_LogCleanerLaw_drop 12 = .ok (.astore_n 3, 1) := by decide +kernel
theorem d_LogCleanerLaw_drop_13 : decode b_LogCleanerLaw_drop 13 = .ok (.iconst 1, 1) := by decide +kernel
theorem d_LogCleanerLaw_drop_14 : decode b_LogCleanerLaw_drop 14 = .ok (.ireturn, 1) := by decide +kernel
theorem d_LogCleanerLaw_drop_15 : decode b_LogCleanerLaw_drop 15 = .ok (.iconst 0, 1) := by decide +kernel
theorem d_LogCleanerLaw_drop_16 : decode b_LogCleanerLaw_drop 16 = .ok (.ireturn, 1) := by decide +kernel
def rm_LogCleanerLaw_drop : Room := { frames := 7, cells := 1, slots := 6, locals := 104 }
def ws_LogCleanerLaw_drop : List Cond := Cond.codeWith y_LogCleanerLaw_drop b_LogCleanerLaw_drop 4 (some .int) [(0, 9, 12, 13)] :: TB
theorem g_cw_LogCleanerLaw_drop : Cond.codeWith y_LogCleanerLaw_drop b_LogCleanerLaw_drop 4 (some .int) [(0, 9, 12, 13)] ∈ TB := tb_t 311 (by decide +kernel) (by decide +kernel)
set_option maxHeartbeats 4000000 in
set_option maxRecDepth 100000 in
theorem m_LogCleanerLaw_drop (l : Launch) (hlt : l.stackTraces = false) (D : va_G) (d : Nat → ClassId) (h : xw) (sz : Nat) (a0 : Option Nat) (a1 : Int32) (a2 : Option Nat) (Q : Int32 → xw → Prop) (hw : wp_LogCleanerLaw_drop d h a0 a1 a2 Q) : Met l y_LogCleanerLaw_drop ws_LogCleanerLaw_drop rm_LogCleanerLaw_drop (xPreH D d h [va_rf a0, .int a1, va_rf a2] sz) (va_Qi (fun r u => Q r u ∧ xfr sgT h u) (xB D d (xA h sz)) (xA h sz)) 1 6 (xA h sz) := by
  refine va_MetW (hh := [(0, 9, 12, 13)]) (cc := b_LogCleanerLaw_drop) (maxL := 4) (ret := (some .int)) (by decide) rfl ?_
  intro p e s m args below meth c s₁ B hml hv
  obtain ⟨⟨rfl, hsz, hP0, hK, hNB, hZ1, hZ2, hSt⟩, hNc⟩ := hv
  have hts := atoms_spec (ws := ws_LogCleanerLaw_drop) B.pre
  have htb := fun w (hw9 : w ∈ TB) => hts w (List.mem_cons_of_mem _ hw9)
  have hown : s.vm.findClass R_LogCleanerLaw = some m.cls := findClass_of_methodNamed B.named
  subst hsz
  obtain ⟨A, hAe⟩ : ∃ A, A = xA h s.heap.size := ⟨_, rfl⟩
  rw [← hAe] at hZ1 hZ2 ⊢
  have hP : xR sgT h D A h s.heap := ⟨by rw [hAe]; exact hP0.self, xfr.rf⟩
  have hA : ∀ q, s.heap.size ≤ q → A q := fun q hq => by rw [hAe]; exact Or.inr hq
  have hS : va_S A s.heap s.heap [] := va_S.rf
  have C0 : xctx p s m ([va_rf a0, .int a1, va_rf a2] : List Value).toArray meth c b_LogCleanerLaw_drop 4 (some .int) R_LogCleanerLaw D d A (xH l s c A [⟨0, 9, 12, 13⟩]) := ⟨B.exec, B.bytes, B.returns, hml, hown, htb, hK, hA, hNB, B.notSynchronized, ⟨hlt, hZ1, hZ2, hSt, hNc, (vx_table (x := y_LogCleanerLaw_drop) B (hts _ List.mem_cons_self)).trans rfl⟩⟩
  obtain ⟨hx, hb, hr, -, -, -, -, -, -, hlocks, hXT⟩ := id C0
  have hl := lv_entry ([va_rf a0, .int a1, va_rf a2] : List Value) (n := 4) (by cases a0 <;> cases a2 <;> exact (Nat.le_of_ble_eq_true rfl))
  rw [lg_entry_eq]
  generalize (lg_sl ([va_rf a0, .int a1, va_rf a2] : List Value) ++ List.replicate (4 - (lg_sl ([va_rf a0, .int a1, va_rf a2] : List Value)).length) Slot.unset).toArray = ls at hl ⊢
  have hle : lv_args 0 ([va_rf a0, .int a1, va_rf a2] : List Value) = [(0, va_rf a0), (1, .int a1), (2, va_rf a2)] := by cases a0 <;> cases a2 <;> rfl
  rw [hle] at hl
  refine xv_aload_n hx hb d_LogCleanerLaw_drop_0 rfl (lv_at hl 2 rfl) ?_
  refine lv_iconst (v := 0) hx hb d_LogCleanerLaw_drop_1 (by decide) ?_
  refine xv_aload_n hx hb d_LogCleanerLaw_drop_2 rfl (lv_at hl 0 rfl) ?_
  refine lv_iload_n hx hb d_LogCleanerLaw_drop_3 rfl (lv_at hl 1 rfl) ?_
  obtain ⟨p1, hpe, hw⟩ := hw
  revert hw
  revert hl
  subst hpe
  intro hl hw
  replace hl : lv_has ls 4 [(0, .ref p1), (1, .int a1), (2, va_rf a2)] := hl
  obtain ⟨⟨_, hw0⟩, hw⟩ := hw
  refine xcallXi (vx_runV (b := p1) (As := [.int a1]) (rest := [.int 0, va_rf a2]) ⟨hx, hb, hml, hown, htb⟩ (m_LogCleaner_drop l hXT.1 D d h _ p1 a1 _ _ hw) (xcwV 1 htb g_code_LogCleaner_drop g_ini_LogCleaner k_LogCleanerLaw_24 g_im_LogCleaner_drop g_sel_LogCleaner_drop rfl rfl (by decide +kernel) ⟨(Nat.le_of_ble_eq_true rfl), (Nat.le_of_ble_eq_true rfl)⟩) (xpreVX hP hK hNB hS hA hXT.2.1 hXT.2.2.1 hXT.2.2.2.1 (ci := 0) rfl hw0) rfl rfl hl.1 rfl (lv_room (by cases a2 <;> exact (Nat.le_of_ble_eq_true rfl))) d_LogCleanerLaw_drop_4 ⟨(Nat.le_of_ble_eq_true rfl), (Nat.le_of_ble_eq_true rfl)⟩) hP (fun _ _ => rfl) hS hA (fun E ce q9 h4 H locs hw hfr hP hS hce hcv hcl => ?_) (fun r3 h2 H locs hw hfr hP hS => ?_)
  · replace hw := hw hfr
    obtain ⟨hw, rfl⟩ := hw
    replace hw := hw rfl
    refine vx_catch (own := R_LogCleanerLaw) (name := "java/lang/IllegalArgumentException") hown [] ⟨0, 9, 12, 13⟩ [] hXT.2.2.2.2.2 (fun z hz => by cases hz) (by decide) (by decide) (htb _ k_LogCleanerLaw_13c) (va_Nw.use rfl (hNB.1 _ (by decide +kernel))) hce hcv hcl ?_
    refine W.widen (k := 1) (n := 6) (Nat.le_of_ble_eq_true rfl) (Nat.le_of_ble_eq_true rfl) ?_
    refine lv_astore_n (lv' := [(3, .ref q9), (0, .ref p1), (1, .int a1), (2, va_rf a2)]) hx hb d_LogCleanerLaw_drop_12 rfl hl (by decide) (by cases a2 <;> rfl) (fun ls hl => ?_)
    refine lv_iconst (v := 1) hx hb d_LogCleanerLaw_drop_13 (by decide) ?_
    refine W.widen (k := 1) (n := 6) (Nat.le_of_ble_eq_true rfl) (Nat.le_of_ble_eq_true rfl) ?_
    exact xretI C0 hw hP hS d_LogCleanerLaw_drop_14
  · replace hw := hw hfr
    refine W.widen (k := 1) (n := 6) (Nat.le_of_ble_eq_true rfl) (Nat.le_of_ble_eq_true rfl) ?_
    refine lv_i2l (v := r3.toInt64) hx hb d_LogCleanerLaw_drop_7 rfl ?_
    obtain ⟨p5, hpe, hw⟩ := hw
    revert hw
    revert hl
    subst hpe
    intro hl hw
    replace hl : lv_has ls 4 [(0, .ref p1), (1, .int a1), (2, .ref p5)] := hl
    refine xstl hx hb hK hP hS 3 rfl (fun _ _ => rfl) hw d_LogCleanerLaw_drop_8 (fun h6 H locs hw hP hS => ?_)
    refine lv_goto (tgt := 15) hx hb d_LogCleanerLaw_drop_9 (by decide) ?_
    refine lv_iconst (v := 0) hx hb d_LogCleanerLaw_drop_15 (by decide) ?_
    refine W.widen (k := 1) (n := 6) (Nat.le_of_ble_eq_true rfl) (Nat.le_of_ble_eq_true rfl) ?_
    exact xretI C0 hw hP hS d_LogCleanerLaw_drop_16

theorem d_LogCleanerLaw_count_0 : decode b_LogCleanerLaw_count 0 = .ok (.aload_n 2, 1) := by decide +kernel
theorem d_LogCleanerLaw_count_1 : decode b_LogCleanerLaw_count 1 = .ok (.iconst 0, 1) := by decide +kernel
theorem d_LogCleanerLaw_count_2 : decode b_LogCleanerLaw_count 2 = .ok (.aload_n 0, 1) := by decide +kernel
theorem d_LogCleanerLaw_count_3 : decode b_LogCleanerLaw_count 3 = .ok (.iload_n 1, 1) := by decide +kernel
theorem d_LogCleanerLaw_count_4 : decode b_LogCleanerLaw_count 4 = .ok (.invokevirtual 27, 3) := by decide +kernel
theorem d_LogCleanerLaw_count_7 : decode b_LogCleanerLaw_count 7 = .ok (.i2l, 1) := by decide +kernel
theorem d_LogCleanerLaw_count_8 : decode b_LogCleanerLaw_count 8 = .ok (.lastore, 1) := by decide +kernel
theorem d_LogCleanerLaw_count_9 : decode b_LogCleanerLaw_count 9 = .ok (.goto 6, 3) := by decide +kernel
theorem d_LogCleanerLaw_count_12 : decode b_LogCleanerLaw_count 12 = .ok (.astore_n 3, 1) := by decide +kernel
theorem d_LogCleanerLaw_count_13 : decode b_LogCleanerLaw_count 13 = .ok (.iconst 1, 1) := by decide +kernel
theorem d_LogCleanerLaw_count_14 : decode b_LogCleanerLaw_count 14 = .ok (.ireturn, 1) := by decide +kernel
theorem d_LogCleanerLaw_count_15 : decode b_LogCleanerLaw_count 15 = .ok (.iconst 0, 1) := by decide +kernel
theorem d_LogCleanerLaw_count_16 : decode b_LogCleanerLaw_count 16 = .ok (.ireturn, 1) := by decide +kernel
def rm_LogCleanerLaw_count : Room := { frames := 7, cells := 1, slots := 6, locals := 103 }
def ws_LogCleanerLaw_count : List Cond := Cond.codeWith y_LogCleanerLaw_count b_LogCleanerLaw_count 4 (some .int) [(0, 9, 12, 13)] :: TB
theorem g_cw_LogCleanerLaw_count : Cond.codeWith y_LogCleanerLaw_count b_LogCleanerLaw_count 4 (some .int) [(0, 9, 12, 13)] ∈ TB := tb_t 327 (by decide +kernel) (by decide +kernel)
set_option maxHeartbeats 4000000 in
set_option maxRecDepth 100000 in
theorem m_LogCleanerLaw_count (l : Launch) (hlt : l.stackTraces = false) (D : va_G) (d : Nat → ClassId) (h : xw) (sz : Nat) (a0 : Option Nat) (a1 : Int32) (a2 : Option Nat) (Q : Int32 → xw → Prop) (hw : wp_LogCleanerLaw_count d h a0 a1 a2 Q) : Met l y_LogCleanerLaw_count ws_LogCleanerLaw_count rm_LogCleanerLaw_count (xPreH D d h [va_rf a0, .int a1, va_rf a2] sz) (va_Qi (fun r u => Q r u ∧ xfr sgT h u) (xB D d (xA h sz)) (xA h sz)) 1 6 (xA h sz) := by
  refine va_MetW (hh := [(0, 9, 12, 13)]) (cc := b_LogCleanerLaw_count) (maxL := 4) (ret := (some .int)) (by decide) rfl ?_
  intro p e s m args below meth c s₁ B hml hv
  obtain ⟨⟨rfl, hsz, hP0, hK, hNB, hZ1, hZ2, hSt⟩, hNc⟩ := hv
  have hts := atoms_spec (ws := ws_LogCleanerLaw_count) B.pre
  have htb := fun w (hw9 : w ∈ TB) => hts w (List.mem_cons_of_mem _ hw9)
  have hown : s.vm.findClass R_LogCleanerLaw = some m.cls := findClass_of_methodNamed B.named
  subst hsz
  obtain ⟨A, hAe⟩ : ∃ A, A = xA h s.heap.size := ⟨_, rfl⟩
  rw [← hAe] at hZ1 hZ2 ⊢
  have hP : xR sgT h D A h s.heap := ⟨by rw [hAe]; exact hP0.self, xfr.rf⟩
  have hA : ∀ q, s.heap.size ≤ q → A q := fun q hq => by rw [hAe]; exact Or.inr hq
  have hS : va_S A s.heap s.heap [] := va_S.rf
  have C0 : xctx p s m ([va_rf a0, .int a1, va_rf a2] : List Value).toArray meth c b_LogCleanerLaw_count 4 (some .int) R_LogCleanerLaw D d A (xH l s c A [⟨0, 9, 12, 13⟩]) := ⟨B.exec, B.bytes, B.returns, hml, hown, htb, hK, hA, hNB, B.notSynchronized, ⟨hlt, hZ1, hZ2, hSt, hNc, (vx_table (x := y_LogCleanerLaw_count) B (hts _ List.mem_cons_self)).trans rfl⟩⟩
  obtain ⟨hx, hb, hr, -, -, -, -, -, -, hlocks, hXT⟩ := id C0
  have hl := lv_entry ([va_rf a0, .int a1, va_rf a2] : List Value) (n := 4) (by cases a0 <;> cases a2 <;> exact (Nat.le_of_ble_eq_true rfl))
  rw [lg_entry_eq]
  generalize (lg_sl ([va_rf a0, .int a1, va_rf a2] : List Value) ++ List.replicate (4 - (lg_sl ([va_rf a0, .int a1, va_rf a2] : List Value)).length) Slot.unset).toArray = ls at hl ⊢
  have hle : lv_args 0 ([va_rf a0, .int a1, va_rf a2] : List Value) = [(0, va_rf a0), (1, .int a1), (2, va_rf a2)] := by cases a0 <;> cases a2 <;> rfl
  rw [hle] at hl
  refine xv_aload_n hx hb d_LogCleanerLaw_count_0 rfl (lv_at hl 2 rfl) ?_
  refine lv_iconst (v := 0) hx hb d_LogCleanerLaw_count_1 (by decide) ?_
  refine xv_aload_n hx hb d_LogCleanerLaw_count_2 rfl (lv_at hl 0 rfl) ?_
  refine lv_iload_n hx hb d_LogCleanerLaw_count_3 rfl (lv_at hl 1 rfl) ?_
  obtain ⟨p1, hpe, hw⟩ := hw
  revert hw
  revert hl
  subst hpe
  intro hl hw
  replace hl : lv_has ls 4 [(0, .ref p1), (1, .int a1), (2, va_rf a2)] := hl
  obtain ⟨⟨_, hw0⟩, hw⟩ := hw
  refine xcallXi (vx_runV (b := p1) (As := [.int a1]) (rest := [.int 0, va_rf a2]) ⟨hx, hb, hml, hown, htb⟩ (m_LogCleaner_count l hXT.1 D d h _ p1 a1 _ _ hw) (xcwV 1 htb g_code_LogCleaner_count g_ini_LogCleaner k_LogCleanerLaw_27 g_im_LogCleaner_count g_sel_LogCleaner_count rfl rfl (by decide +kernel) ⟨(Nat.le_of_ble_eq_true rfl), (Nat.le_of_ble_eq_true rfl)⟩) (xpreVX hP hK hNB hS hA hXT.2.1 hXT.2.2.1 hXT.2.2.2.1 (ci := 0) rfl hw0) rfl rfl hl.1 rfl (lv_room (by cases a2 <;> exact (Nat.le_of_ble_eq_true rfl))) d_LogCleanerLaw_count_4 ⟨(Nat.le_of_ble_eq_true rfl), (Nat.le_of_ble_eq_true rfl)⟩) hP (fun _ _ => rfl) hS hA (fun E ce q9 h4 H locs hw hfr hP hS hce hcv hcl => ?_) (fun r3 h2 H locs hw hfr hP hS => ?_)
  · replace hw := hw hfr
    obtain ⟨hw, rfl⟩ := hw
    replace hw := hw rfl
    refine vx_catch (own := R_LogCleanerLaw) (name := "java/lang/IllegalArgumentException") hown [] ⟨0, 9, 12, 13⟩ [] hXT.2.2.2.2.2 (fun z hz => by cases hz) (by decide) (by decide) (htb _ k_LogCleanerLaw_13c) (va_Nw.use rfl (hNB.1 _ (by decide +kernel))) hce hcv hcl ?_
    refine W.widen (k := 1) (n := 6) (Nat.le_of_ble_eq_true rfl) (Nat.le_of_ble_eq_true rfl) ?_
    refine lv_astore_n (lv' := [(3, .ref q9), (0, .ref p1), (1, .int a1), (2, va_rf a2)]) hx hb d_LogCleanerLaw_count_12 rfl hl (by decide) (by cases a2 <;> rfl) (fun ls hl => ?_)
    refine lv_iconst (v := 1) hx hb d_LogCleanerLaw_count_13 (by decide) ?_
    refine W.widen (k := 1) (n := 6) (Nat.le_of_ble_eq_true rfl) (Nat.le_of_ble_eq_true rfl) ?_
    exact xretI C0 hw hP hS d_LogCleanerLaw_count_14
  · replace hw := hw hfr
    refine W.widen (k := 1) (n := 6) (Nat.le_of_ble_eq_true rfl) (Nat.le_of_ble_eq_true rfl) ?_
    refine lv_i2l (v := r3.toInt64) hx hb d_LogCleanerLaw_count_7 rfl ?_
    obtain ⟨p5, hpe, hw⟩ := hw
    revert hw
    revert hl
    subst hpe
    intro hl hw
    replace hl : lv_has ls 4 [(0, .ref p1), (1, .int a1), (2, .ref p5)] := hl
    refine xstl hx hb hK hP hS 3 rfl (fun _ _ => rfl) hw d_LogCleanerLaw_count_8 (fun h6 H locs hw hP hS => ?_)
    refine lv_goto (tgt := 15) hx hb d_LogCleanerLaw_count_9 (by decide) ?_
    refine lv_iconst (v := 0) hx hb d_LogCleanerLaw_count_15 (by decide) ?_
    refine W.widen (k := 1) (n := 6) (Nat.le_of_ble_eq_true rfl) (Nat.le_of_ble_eq_true rfl) ?_
    exact xretI C0 hw hP hS d_LogCleanerLaw_count_16

theorem d_LogCleanerLaw_batch_0 : decode b_LogCleanerLaw_batch 0 = .ok (.aload_n 3, 1) := by decide +kernel
theorem d_LogCleanerLaw_batch_1 : decode b_LogCleanerLaw_batch 1 = .ok (.iconst 0, 1) := by decide +kernel
theorem d_LogCleanerLaw_batch_2 : decode b_LogCleanerLaw_batch 2 = .ok (.aload_n 0, 1) := by decide +kernel
theorem d_LogCleanerLaw_batch_3 : decode b_LogCleanerLaw_batch 3 = .ok (.iload_n 1, 1) := by decide +kernel
theorem d_LogCleanerLaw_batch_4 : decode b_LogCleanerLaw_batch 4 = .ok (.iload_n 2, 1) := by decide +kernel
theorem d_LogCleanerLaw_batch_5 : decode b_LogCleanerLaw_batch 5 = .ok (.invokevirtual 30, 3) := by decide +kernel
theorem d_LogCleanerLaw_batch_8 : decode b_LogCleanerLaw_batch 8 = .ok (.i2l, 1) := by decide +kernel
theorem d_LogCleanerLaw_batch_9 : decode b_LogCleanerLaw_batch 9 = .ok (.lastore, 1) := by decide +kernel
theorem d_LogCleanerLaw_batch_10 : decode b_LogCleanerLaw_batch 10 = .ok (.goto 7, 3) := by decide +kernel
theorem d_LogCleanerLaw_batch_13 : decode b_LogCleanerLaw_batch 13 = .ok (.astore 4, 2) := by decide +kernel
theorem d_LogCleanerLaw_batch_15 : decode b_LogCleanerLaw_batch 15 = .ok (.iconst 1, 1) := by decide +kernel
theorem d_LogCleanerLaw_batch_16 : decode b_LogCleanerLaw_batch 16 = .ok (.ireturn, 1) := by decide +kernel
theorem d_LogCleanerLaw_batch_17 : decode b_LogCleanerLaw_batch 17 = .ok (.iconst 0, 1) := by decide +kernel
theorem d_LogCleanerLaw_batch_18 : decode b_LogCleanerLaw_batch 18 = .ok (.ireturn, 1) := by decide +kernel
def rm_LogCleanerLaw_batch : Room := { frames := 7, cells := 1, slots := 6, locals := 105 }
def ws_LogCleanerLaw_batch : List Cond := Cond.codeWith y_LogCleanerLaw_batch b_LogCleanerLaw_batch 5 (some .int) [(0, 10, 13, 13)] :: TB
theorem g_cw_LogCleanerLaw_batch : Cond.codeWith y_LogCleanerLaw_batch b_LogCleanerLaw_batch 5 (some .int) [(0, 10, 13, 13)] ∈ TB := tb_t 335 (by decide +kernel) (by decide +kernel)
set_option maxHeartbeats 4000000 in
set_option maxRecDepth 100000 in
theorem m_LogCleanerLaw_batch (l : Launch) (hlt : l.stackTraces = false) (D : va_G) (d : Nat → ClassId) (h : xw) (sz : Nat) (a0 : Option Nat) (a1 : Int32) (a2 : Int32) (a3 : Option Nat) (Q : Int32 → xw → Prop) (hw : wp_LogCleanerLaw_batch d h a0 a1 a2 a3 Q) : Met l y_LogCleanerLaw_batch ws_LogCleanerLaw_batch rm_LogCleanerLaw_batch (xPreH D d h [va_rf a0, .int a1, .int a2, va_rf a3] sz) (va_Qi (fun r u => Q r u ∧ xfr sgT h u) (xB D d (xA h sz)) (xA h sz)) 1 6 (xA h sz) := by
  refine va_MetW (hh := [(0, 10, 13, 13)]) (cc := b_LogCleanerLaw_batch) (maxL := 5) (ret := (some .int)) (by decide) rfl ?_
  intro p e s m args below meth c s₁ B hml hv
  obtain ⟨⟨rfl, hsz, hP0, hK, hNB, hZ1, hZ2, hSt⟩, hNc⟩ := hv
  have hts := atoms_spec (ws := ws_LogCleanerLaw_batch) B.pre
  have htb := fun w (hw9 : w ∈ TB) => hts w (List.mem_cons_of_mem _ hw9)
  have hown : s.vm.findClass R_LogCleanerLaw = some m.cls := findClass_of_methodNamed B.named
  subst hsz
  obtain ⟨A, hAe⟩ : ∃ A, A = xA h s.heap.size := ⟨_, rfl⟩
  rw [← hAe] at hZ1 hZ2 ⊢
  have hP : xR sgT h D A h s.heap := ⟨by rw [hAe]; exact hP0.self, xfr.rf⟩
  have hA : ∀ q, s.heap.size ≤ q → A q := fun q hq => by rw [hAe]; exact Or.inr hq
  have hS : va_S A s.heap s.heap [] := va_S.rf
  have C0 : xctx p s m ([va_rf a0, .int a1, .int a2, va_rf a3] : List Value).toArray meth c b_LogCleanerLaw_batch 5 (some .int) R_LogCleanerLaw D d A (xH l s c A [⟨0, 10, 13, 13⟩]) := ⟨B.exec, B.bytes, B.returns, hml, hown, htb, hK, hA, hNB, B.notSynchronized, ⟨hlt, hZ1, hZ2, hSt, hNc, (vx_table (x := y_LogCleanerLaw_batch) B (hts _ List.mem_cons_self)).trans rfl⟩⟩
  obtain ⟨hx, hb, hr, -, -, -, -, -, -, hlocks, hXT⟩ := id C0
  have hl := lv_entry ([va_rf a0, .int a1, .int a2, va_rf a3] : List Value) (n := 5) (by cases a0 <;> cases a3 <;> exact (Nat.le_of_ble_eq_true rfl))
  rw [lg_entry_eq]
  generalize (lg_sl ([va_rf a0, .int a1, .int a2, va_rf a3] : List Value) ++ List.replicate (5 - (lg_sl ([va_rf a0, .int a1, .int a2, va_rf a3] : List Value)).length) Slot.unset).toArray = ls at hl ⊢
  have hle : lv_args 0 ([va_rf a0, .int a1, .int a2, va_rf a3] : List Value) = [(0, va_rf a0), (1, .int a1), (2, .int a2), (3, va_rf a3)] := by cases a0 <;> cases a3 <;> rfl
  rw [hle] at hl
  refine xv_aload_n hx hb d_LogCleanerLaw_batch_0 rfl (lv_at hl 3 rfl) ?_
  refine lv_iconst (v := 0) hx hb d_LogCleanerLaw_batch_1 (by decide) ?_
  refine xv_aload_n hx hb d_LogCleanerLaw_batch_2 rfl (lv_at hl 0 rfl) ?_
  refine lv_iload_n hx hb d_LogCleanerLaw_batch_3 rfl (lv_at hl 1 rfl) ?_
  refine lv_iload_n hx hb d_LogCleanerLaw_batch_4 rfl (lv_at hl 2 rfl) ?_
  obtain ⟨p1, hpe, hw⟩ := hw
  revert hw
  revert hl
  subst hpe
  intro hl hw
  replace hl : lv_has ls 5 [(0, .ref p1), (1, .int a1), (2, .int a2), (3, va_rf a3)] := hl
  obtain ⟨⟨_, hw0⟩, hw⟩ := hw
  refine xcallXi (vx_runV (b := p1) (As := [.int a1, .int a2]) (rest := [.int 0, va_rf a3]) ⟨hx, hb, hml, hown, htb⟩ (m_LogCleaner_batch l hXT.1 D d h _ p1 a1 a2 _ _ hw) (xcwV 2 htb g_code_LogCleaner_batch g_ini_LogCleaner k_LogCleanerLaw_30 g_im_LogCleaner_batch g_sel_LogCleaner_batch rfl rfl (by decide +kernel) ⟨(Nat.le_of_ble_eq_true rfl), (Nat.le_of_ble_eq_true rfl)⟩) (xpreVX hP hK hNB hS hA hXT.2.1 hXT.2.2.1 hXT.2.2.2.1 (ci := 0) rfl hw0) rfl rfl hl.1 rfl (lv_room (by cases a3 <;> exact (Nat.le_of_ble_eq_true rfl))) d_LogCleanerLaw_batch_5 ⟨(Nat.le_of_ble_eq_true rfl), (Nat.le_of_ble_eq_true rfl)⟩) hP (fun _ _ => rfl) hS hA (fun E ce q9 h4 H locs hw hfr hP hS hce hcv hcl => ?_) (fun r3 h2 H locs hw hfr hP hS => ?_)
  · replace hw := hw hfr
    obtain ⟨hw, rfl⟩ := hw
    replace hw := hw rfl
    refine vx_catch (own := R_LogCleanerLaw) (name := "java/lang/IllegalArgumentException") hown [] ⟨0, 10, 13, 13⟩ [] hXT.2.2.2.2.2 (fun z hz => by cases hz) (by decide) (by decide) (htb _ k_LogCleanerLaw_13c) (va_Nw.use rfl (hNB.1 _ (by decide +kernel))) hce hcv hcl ?_
    refine W.widen (k := 1) (n := 6) (Nat.le_of_ble_eq_true rfl) (Nat.le_of_ble_eq_true rfl) ?_
    refine lv_astore (lv' := [(4, .ref q9), (0, .ref p1), (1, .int a1), (2, .int a2), (3, va_rf a3)]) hx hb d_LogCleanerLaw_batch_13 hl (by decide) (by cases a3 <;> rfl) (fun ls hl => ?_)
    refine lv_iconst (v := 1) hx hb d_LogCleanerLaw_batch_15 (by decide) ?_
    refine W.widen (k := 1) (n := 6) (Nat.le_of_ble_eq_true rfl) (Nat.le_of_ble_eq_true rfl) ?_
    exact xretI C0 hw hP hS d_LogCleanerLaw_batch_16
  · replace hw := hw hfr
    refine W.widen (k := 1) (n := 6) (Nat.le_of_ble_eq_true rfl) (Nat.le_of_ble_eq_true rfl) ?_
    refine lv_i2l (v := r3.toInt64) hx hb d_LogCleanerLaw_batch_8 rfl ?_
    obtain ⟨p5, hpe, hw⟩ := hw
    revert hw
    revert hl
    subst hpe
    intro hl hw
    replace hl : lv_has ls 5 [(0, .ref p1), (1, .int a1), (2, .int a2), (3, .ref p5)] := hl
    refine xstl hx hb hK hP hS 3 rfl (fun _ _ => rfl) hw d_LogCleanerLaw_batch_9 (fun h6 H locs hw hP hS => ?_)
    refine lv_goto (tgt := 17) hx hb d_LogCleanerLaw_batch_10 (by decide) ?_
    refine lv_iconst (v := 0) hx hb d_LogCleanerLaw_batch_17 (by decide) ?_
    refine W.widen (k := 1) (n := 6) (Nat.le_of_ble_eq_true rfl) (Nat.le_of_ble_eq_true rfl) ?_
    exact xretI C0 hw hP hS d_LogCleanerLaw_batch_18

theorem d_LogCleanerLaw_told_0 : decode b_LogCleanerLaw_told 0 = .ok (.aload_n 3, 1) := by decide +kernel
theorem d_LogCleanerLaw_told_1 : decode b_LogCleanerLaw_told 1 = .ok (.iconst 0, 1) := by decide +kernel
theorem d_LogCleanerLaw_told_2 : decode b_LogCleanerLaw_told 2 = .ok (.aload_n 0, 1) := by decide +kernel
theorem d_LogCleanerLaw_told_3 : decode b_LogCleanerLaw_told 3 = .ok (.iload_n 1, 1) := by decide +kernel
theorem d_LogCleanerLaw_told_4 : decode b_LogCleanerLaw_told 4 = .ok (.iload_n 2, 1) := by decide +kernel
theorem d_LogCleanerLaw_told_5 : decode b_LogCleanerLaw_told 5 = .ok (.invokevirtual 34, 3) := by decide +kernel
theorem d_LogCleanerLaw_told_8 : decode b_LogCleanerLaw_told 8 = .ok (.lastore, 1) := by decide +kernel
theorem d_LogCleanerLaw_told_9 : decode b_LogCleanerLaw_told 9 = .ok (.goto 7, 3) := by decide +kernel
theorem d_LogCleanerLaw_told_12 : decode b_LogCleanerLaw_told 12 = .ok (.astore 4, 2) := by decide +kernel
theorem d_LogCleanerLaw_told_14 : decode b_LogCleanerLaw_told 14 = .ok (.iconst 1, 1) := by decide +kernel
theorem d_LogCleanerLaw_told_15 : decode b_LogCleanerLaw_told 15 = .ok (.ireturn, 1) := by decide +kernel
theorem d_LogCleanerLaw_told_16 : decode b_LogCleanerLaw_told 16 = .ok (.iconst 0, 1) := by decide +kernel
theorem d_LogCleanerLaw_told_17 : decode b_LogCleanerLaw_told 17 = .ok (.ireturn, 1) := by decide +kernel
def rm_LogCleanerLaw_told : Room := { frames := 7, cells := 1, slots := 6, locals := 105 }
def ws_LogCleanerLaw_told : List Cond := Cond.codeWith y_LogCleanerLaw_told b_LogCleanerLaw_told 5 (some .int) [(0, 9, 12, 13)] :: TB
theorem g_cw_LogCleanerLaw_told : Cond.codeWith y_LogCleanerLaw_told b_LogCleanerLaw_told 5 (some .int) [(0, 9, 12, 13)] ∈ TB := tb_t 344 (by decide +kernel) (by decide +kernel)
set_option maxHeartbeats 4000000 in
set_option maxRecDepth 100000 in
theorem m_LogCleanerLaw_told (l : Launch) (hlt : l.stackTraces = false) (D : va_G) (d : Nat → ClassId) (h : xw) (sz : Nat) (a0 : Option Nat) (a1 : Int32) (a2 : Int32) (a3 : Option Nat) (Q : Int32 → xw → Prop) (hw : wp_LogCleanerLaw_told d h a0 a1 a2 a3 Q) : Met l y_LogCleanerLaw_told ws_LogCleanerLaw_told rm_LogCleanerLaw_told (xPreH D d h [va_rf a0, .int a1, .int a2, va_rf a3] sz) (va_Qi (fun r u => Q r u ∧ xfr sgT h u) (xB D d (xA h sz)) (xA h sz)) 1 6 (xA h sz) := by
  refine va_MetW (hh := [(0, 9, 12, 13)]) (cc := b_LogCleanerLaw_told) (maxL := 5) (ret := (some .int)) (by decide) rfl ?_
  intro p e s m args below meth c s₁ B hml hv
  obtain ⟨⟨rfl, hsz, hP0, hK, hNB, hZ1, hZ2, hSt⟩, hNc⟩ := hv
  have hts := atoms_spec (ws := ws_LogCleanerLaw_told) B.pre
  have htb := fun w (hw9 : w ∈ TB) => hts w (List.mem_cons_of_mem _ hw9)
  have hown : s.vm.findClass R_LogCleanerLaw = some m.cls := findClass_of_methodNamed B.named
  subst hsz
  obtain ⟨A, hAe⟩ : ∃ A, A = xA h s.heap.size := ⟨_, rfl⟩
  rw [← hAe] at hZ1 hZ2 ⊢
  have hP : xR sgT h D A h s.heap := ⟨by rw [hAe]; exact hP0.self, xfr.rf⟩
  have hA : ∀ q, s.heap.size ≤ q → A q := fun q hq => by rw [hAe]; exact Or.inr hq
  have hS : va_S A s.heap s.heap [] := va_S.rf
  have C0 : xctx p s m ([va_rf a0, .int a1, .int a2, va_rf a3] : List Value).toArray meth c b_LogCleanerLaw_told 5 (some .int) R_LogCleanerLaw D d A (xH l s c A [⟨0, 9, 12, 13⟩]) := ⟨B.exec, B.bytes, B.returns, hml, hown, htb, hK, hA, hNB, B.notSynchronized, ⟨hlt, hZ1, hZ2, hSt, hNc, (vx_table (x := y_LogCleanerLaw_told) B (hts _ List.mem_cons_self)).trans rfl⟩⟩
  obtain ⟨hx, hb, hr, -, -, -, -, -, -, hlocks, hXT⟩ := id C0
  have hl := lv_entry ([va_rf a0, .int a1, .int a2, va_rf a3] : List Value) (n := 5) (by cases a0 <;> cases a3 <;> exact (Nat.le_of_ble_eq_true rfl))
  rw [lg_entry_eq]
  generalize (lg_sl ([va_rf a0, .int a1, .int a2, va_rf a3] : List Value) ++ List.replicate (5 - (lg_sl ([va_rf a0, .int a1, .int a2, va_rf a3] : List Value)).length) Slot.unset).toArray = ls at hl ⊢
  have hle : lv_args 0 ([va_rf a0, .int a1, .int a2, va_rf a3] : List Value) = [(0, va_rf a0), (1, .int a1), (2, .int a2), (3, va_rf a3)] := by cases a0 <;> cases a3 <;> rfl
  rw [hle] at hl
  refine xv_aload_n hx hb d_LogCleanerLaw_told_0 rfl (lv_at hl 3 rfl) ?_
  refine lv_iconst (v := 0) hx hb d_LogCleanerLaw_told_1 (by decide) ?_
  refine xv_aload_n hx hb d_LogCleanerLaw_told_2 rfl (lv_at hl 0 rfl) ?_
  refine lv_iload_n hx hb d_LogCleanerLaw_told_3 rfl (lv_at hl 1 rfl) ?_
  refine lv_iload_n hx hb d_LogCleanerLaw_told_4 rfl (lv_at hl 2 rfl) ?_
  obtain ⟨p1, hpe, hw⟩ := hw
  revert hw
  revert hl
  subst hpe
  intro hl hw
  replace hl : lv_has ls 5 [(0, .ref p1), (1, .int a1), (2, .int a2), (3, va_rf a3)] := hl
  obtain ⟨⟨_, hw0⟩, hw⟩ := hw
  refine xcallXl (vx_runV (b := p1) (As := [.int a1, .int a2]) (rest := [.int 0, va_rf a3]) ⟨hx, hb, hml, hown, htb⟩ (m_LogCleaner_told l hXT.1 D d h _ p1 a1 a2 _ _ hw) (xcwV 2 htb g_code_LogCleaner_told g_ini_LogCleaner k_LogCleanerLaw_34 g_im_LogCleaner_told g_sel_LogCleaner_told rfl rfl (by decide +kernel) ⟨(Nat.le_of_ble_eq_true rfl), (Nat.le_of_ble_eq_true rfl)⟩) (xpreVX hP hK hNB hS hA hXT.2.1 hXT.2.2.1 hXT.2.2.2.1 (ci := 0) rfl hw0) rfl rfl hl.1 rfl (lv_room (by cases a3 <;> exact (Nat.le_of_ble_eq_true rfl))) d_LogCleanerLaw_told_5 ⟨(Nat.le_of_ble_eq_true rfl), (Nat.le_of_ble_eq_true rfl)⟩) hP (fun _ _ => rfl) hS hA (fun E ce q9 h4 H locs hw hfr hP hS hce hcv hcl => ?_) (fun r3 h2 H locs hw hfr hP hS => ?_)
  · replace hw := hw hfr
    obtain ⟨hw, rfl⟩ := hw
    replace hw := hw rfl
    refine vx_catch (own := R_LogCleanerLaw) (name := "java/lang/IllegalArgumentException") hown [] ⟨0, 9, 12, 13⟩ [] hXT.2.2.2.2.2 (fun z hz => by cases hz) (by decide) (by decide) (htb _ k_LogCleanerLaw_13c) (va_Nw.use rfl (hNB.1 _ (by decide +kernel))) hce hcv hcl ?_
    refine W.widen (k := 1) (n := 6) (Nat.le_of_ble_eq_true rfl) (Nat.le_of_ble_eq_true rfl) ?_
    refine lv_astore (lv' := [(4, .ref q9), (0, .ref p1), (1, .int a1), (2, .int a2), (3, va_rf a3)]) hx hb d_LogCleanerLaw_told_12 hl (by decide) (by cases a3 <;> rfl) (fun ls hl => ?_)
    refine lv_iconst (v := 1) hx hb d_LogCleanerLaw_told_14 (by decide) ?_
    refine W.widen (k := 1) (n := 6) (Nat.le_of_ble_eq_true rfl) (Nat.le_of_ble_eq_true rfl) ?_
    exact xretI C0 hw hP hS d_LogCleanerLaw_told_15
  · replace hw := hw hfr
    refine W.widen (k := 1) (n := 6) (Nat.le_of_ble_eq_true rfl) (Nat.le_of_ble_eq_true rfl) ?_
    obtain ⟨p5, hpe, hw⟩ := hw
    revert hw
    revert hl
    subst hpe
    intro hl hw
    replace hl : lv_has ls 5 [(0, .ref p1), (1, .int a1), (2, .int a2), (3, .ref p5)] := hl
    refine xstl hx hb hK hP hS 3 rfl (fun _ _ => rfl) hw d_LogCleanerLaw_told_8 (fun h6 H locs hw hP hS => ?_)
    refine lv_goto (tgt := 16) hx hb d_LogCleanerLaw_told_9 (by decide) ?_
    refine lv_iconst (v := 0) hx hb d_LogCleanerLaw_told_16 (by decide) ?_
    refine W.widen (k := 1) (n := 6) (Nat.le_of_ble_eq_true rfl) (Nat.le_of_ble_eq_true rfl) ?_
    exact xretI C0 hw hP hS d_LogCleanerLaw_told_17

theorem d_LogCleanerLaw_latest_0 : decode b_LogCleanerLaw_latest 0 = .ok (.aload 4, 2) := by decide +kernel
theorem d_LogCleanerLaw_latest_2 : decode b_LogCleanerLaw_latest 2 = .ok (.iconst 0, 1) := by decide +kernel
theorem d_LogCleanerLaw_latest_3 : decode b_LogCleanerLaw_latest 3 = .ok (.aload_n 0, 1) := by decide +kernel
theorem d_LogCleanerLaw_latest_4 : decode b_LogCleanerLaw_latest 4 = .ok (.lload_n 1, 1) := by decide +kernel
theorem d_LogCleanerLaw_latest_5 : decode b_LogCleanerLaw_latest 5 = .ok (.iload_n 3, 1) := by decide +kernel
theorem d_LogCleanerLaw_latest_6 : decode b_LogCleanerLaw_latest 6 = .ok (.invokevirtual 38, 3) := by decide +kernel
theorem d_LogCleanerLaw_latest_9 : decode b_LogCleanerLaw_latest 9 = .ok (.i2l, 1) := by decide +kernel
theorem d_LogCleanerLaw_latest_10 : decode b_LogCleanerLaw_latest 10 = .ok (.lastore, 1) := by decide +kernel
theorem d_LogCleanerLaw_latest_11 : decode b_LogCleanerLaw_latest 11 = .ok (.goto 7, 3) := by decide +kernel
theorem d_LogCleanerLaw_latest_14 : decode b_LogCleanerLaw_latest 14 = .ok (.astore 5, 2) := by decide +kernel
theorem d_LogCleanerLaw_latest_16 : decode b_LogCleanerLaw_latest 16 = .ok (.iconst 1, 1) := by decide +kernel
theorem d_LogCleanerLaw_latest_17 : decode b_LogCleanerLaw_latest 17 = .ok (.ireturn, 1) := by decide +kernel
theorem d_LogCleanerLaw_latest_18 : decode b_LogCleanerLaw_latest 18 = .ok (.iconst 0, 1) := by decide +kernel
theorem d_LogCleanerLaw_latest_19 : decode b_LogCleanerLaw_latest 19 = .ok (.ireturn, 1) := by decide +kernel
def rm_LogCleanerLaw_latest : Room := { frames := 7, cells := 1, slots := 6, locals := 106 }
def ws_LogCleanerLaw_latest : List Cond := Cond.codeWith y_LogCleanerLaw_latest b_LogCleanerLaw_latest 6 (some .int) [(0, 11, 14, 13)] :: TB
theorem g_cw_LogCleanerLaw_latest : Cond.codeWith y_LogCleanerLaw_latest b_LogCleanerLaw_latest 6 (some .int) [(0, 11, 14, 13)] ∈ TB := tb_t 356 (by decide +kernel) (by decide +kernel)
set_option maxHeartbeats 4000000 in
set_option maxRecDepth 100000 in
theorem m_LogCleanerLaw_latest (l : Launch) (hlt : l.stackTraces = false) (D : va_G) (d : Nat → ClassId) (h : xw) (sz : Nat) (a0 : Option Nat) (a1 : Int64) (a3 : Int32) (a4 : Option Nat) (Q : Int32 → xw → Prop) (hw : wp_LogCleanerLaw_latest d h a0 a1 a3 a4 Q) : Met l y_LogCleanerLaw_latest ws_LogCleanerLaw_latest rm_LogCleanerLaw_latest (xPreH D d h [va_rf a0, .long a1, .int a3, va_rf a4] sz) (va_Qi (fun r u => Q r u ∧ xfr sgT h u) (xB D d (xA h sz)) (xA h sz)) 1 6 (xA h sz) := by
  refine va_MetW (hh := [(0, 11, 14, 13)]) (cc := b_LogCleanerLaw_latest) (maxL := 6) (ret := (some .int)) (by decide) rfl ?_
  intro p e s m args below meth c s₁ B hml hv
  obtain ⟨⟨rfl, hsz, hP0, hK, hNB, hZ1, hZ2, hSt⟩, hNc⟩ := hv
  have hts := atoms_spec (ws := ws_LogCleanerLaw_latest) B.pre
  have htb := fun w (hw9 : w ∈ TB) => hts w (List.mem_cons_of_mem _ hw9)
  have hown : s.vm.findClass R_LogCleanerLaw = some m.cls := findClass_of_methodNamed B.named
  subst hsz
  obtain ⟨A, hAe⟩ : ∃ A, A = xA h s.heap.size := ⟨_, rfl⟩
  rw [← hAe] at hZ1 hZ2 ⊢
  have hP : xR sgT h D A h s.heap := ⟨by rw [hAe]; exact hP0.self, xfr.rf⟩
  have hA : ∀ q, s.heap.size ≤ q → A q := fun q hq => by rw [hAe]; exact Or.inr hq
  have hS : va_S A s.heap s.heap [] := va_S.rf
  have C0 : xctx p s m ([va_rf a0, .long a1, .int a3, va_rf a4] : List Value).toArray meth c b_LogCleanerLaw_latest 6 (some .int) R_LogCleanerLaw D d A (xH l s c A [⟨0, 11, 14, 13⟩]) := ⟨B.exec, B.bytes, B.returns, hml, hown, htb, hK, hA, hNB, B.notSynchronized, ⟨hlt, hZ1, hZ2, hSt, hNc, (vx_table (x := y_LogCleanerLaw_latest) B (hts _ List.mem_cons_self)).trans rfl⟩⟩
  obtain ⟨hx, hb, hr, -, -, -, -, -, -, hlocks, hXT⟩ := id C0
  have hl := lv_entry ([va_rf a0, .long a1, .int a3, va_rf a4] : List Value) (n := 6) (by cases a0 <;> cases a4 <;> exact (Nat.le_of_ble_eq_true rfl))
  rw [lg_entry_eq]
  generalize (lg_sl ([va_rf a0, .long a1, .int a3, va_rf a4] : List Value) ++ List.replicate (6 - (lg_sl ([va_rf a0, .long a1, .int a3, va_rf a4] : List Value)).length) Slot.unset).toArray = ls at hl ⊢
  have hle : lv_args 0 ([va_rf a0, .long a1, .int a3, va_rf a4] : List Value) = [(0, va_rf a0), (1, .long a1), (3, .int a3), (4, va_rf a4)] := by cases a0 <;> cases a4 <;> rfl
  rw [hle] at hl
  refine xv_aload hx hb d_LogCleanerLaw_latest_0 (lv_at hl 3 rfl) ?_
  refine lv_iconst (v := 0) hx hb d_LogCleanerLaw_latest_2 (by decide) ?_
  refine xv_aload_n hx hb d_LogCleanerLaw_latest_3 rfl (lv_at hl 0 rfl) ?_
  refine lv_lload_n hx hb d_LogCleanerLaw_latest_4 rfl (lv_at hl 1 rfl) ?_
  refine lv_iload_n hx hb d_LogCleanerLaw_latest_5 rfl (lv_at hl 2 rfl) ?_
  obtain ⟨p1, hpe, hw⟩ := hw
  revert hw
  revert hl
  subst hpe
  intro hl hw
  replace hl : lv_has ls 6 [(0, .ref p1), (1, .long a1), (3, .int a3), (4, va_rf a4)] := hl
  obtain ⟨⟨_, hw0⟩, hw⟩ := hw
  refine xcallXi (vx_runV (b := p1) (As := [.long a1, .int a3]) (rest := [.int 0, va_rf a4]) ⟨hx, hb, hml, hown, htb⟩ (m_LogCleaner_latest l hXT.1 D d h _ p1 a1 a3 _ _ hw) (xcwV 2 htb g_code_LogCleaner_latest g_ini_LogCleaner k_LogCleanerLaw_38 g_im_LogCleaner_latest g_sel_LogCleaner_latest rfl rfl (by decide +kernel) ⟨(Nat.le_of_ble_eq_true rfl), (Nat.le_of_ble_eq_true rfl)⟩) (xpreVX hP hK hNB hS hA hXT.2.1 hXT.2.2.1 hXT.2.2.2.1 (ci := 0) rfl hw0) rfl rfl hl.1 rfl (lv_room (by cases a4 <;> exact (Nat.le_of_ble_eq_true rfl))) d_LogCleanerLaw_latest_6 ⟨(Nat.le_of_ble_eq_true rfl), (Nat.le_of_ble_eq_true rfl)⟩) hP (fun _ _ => rfl) hS hA (fun E ce q9 h4 H locs hw hfr hP hS hce hcv hcl => ?_) (fun r3 h2 H locs hw hfr hP hS => ?_)
  · replace hw := hw hfr
    obtain ⟨hw, rfl⟩ := hw
    replace hw := hw rfl
    refine vx_catch (own := R_LogCleanerLaw) (name := "java/lang/IllegalArgumentException") hown [] ⟨0, 11, 14, 13⟩ [] hXT.2.2.2.2.2 (fun z hz => by cases hz) (by decide) (by decide) (htb _ k_LogCleanerLaw_13c) (va_Nw.use rfl (hNB.1 _ (by decide +kernel))) hce hcv hcl ?_
    refine W.widen (k := 1) (n := 6) (Nat.le_of_ble_eq_true rfl) (Nat.le_of_ble_eq_true rfl) ?_
    refine lv_astore (lv' := [(5, .ref q9), (0, .ref p1), (1, .long a1), (3, .int a3), (4, va_rf a4)]) hx hb d_LogCleanerLaw_latest_14 hl (by decide) (by cases a4 <;> rfl) (fun ls hl => ?_)
    refine lv_iconst (v := 1) hx hb d_LogCleanerLaw_latest_16 (by decide) ?_
    refine W.widen (k := 1) (n := 6) (Nat.le_of_ble_eq_true rfl) (Nat.le_of_ble_eq_true rfl) ?_
    exact xretI C0 hw hP hS d_LogCleanerLaw_latest_17
  · replace hw := hw hfr
    refine W.widen (k := 1) (n := 6) (Nat.le_of_ble_eq_true rfl) (Nat.le_of_ble_eq_true rfl) ?_
    refine lv_i2l (v := r3.toInt64) hx hb d_LogCleanerLaw_latest_9 rfl ?_
    obtain ⟨p5, hpe, hw⟩ := hw
    revert hw
    revert hl
    subst hpe
    intro hl hw
    replace hl : lv_has ls 6 [(0, .ref p1), (1, .long a1), (3, .int a3), (4, .ref p5)] := hl
    refine xstl hx hb hK hP hS 3 rfl (fun _ _ => rfl) hw d_LogCleanerLaw_latest_10 (fun h6 H locs hw hP hS => ?_)
    refine lv_goto (tgt := 18) hx hb d_LogCleanerLaw_latest_11 (by decide) ?_
    refine lv_iconst (v := 0) hx hb d_LogCleanerLaw_latest_18 (by decide) ?_
    refine W.widen (k := 1) (n := 6) (Nat.le_of_ble_eq_true rfl) (Nat.le_of_ble_eq_true rfl) ?_
    exact xretI C0 hw hP hS d_LogCleanerLaw_latest_19

