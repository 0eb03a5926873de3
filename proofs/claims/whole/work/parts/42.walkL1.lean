theorem d_LogCleaner_init_0 : decode b_LogCleaner_init 0 = .ok (.aload_n 0, 1) := by decide +kernel
theorem d_LogCleaner_init_1 : decode b_LogCleaner_init 1 = .ok (.invokespecial 1, 3) := by decide +kernel
theorem d_LogCleaner_init_4 : decode b_LogCleaner_init 4 = .ok (.aload_n 0, 1) := by decide +kernel
theorem d_LogCleaner_init_5 : decode b_LogCleaner_init 5 = .ok (.sipush 400, 3) := by decide +kernel
theorem d_LogCleaner_init_8 : decode b_LogCleaner_init 8 = .ok (.anewarray 9, 3) := by decide +kernel
theorem d_LogCleaner_init_11 : decode b_LogCleaner_init 11 = .ok (.putfield 11, 3) := by decide +kernel
theorem d_LogCleaner_init_14 : decode b_LogCleaner_init 14 = .ok (.aload_n 0, 1) := by decide +kernel
theorem d_LogCleaner_init_15 : decode b_LogCleaner_init 15 = .ok (.iconst 0, 1) := by decide +kernel
theorem d_LogCleaner_init_16 : decode b_LogCleaner_init 16 = .ok (.putfield 15, 3) := by decide +kernel
theorem d_LogCleaner_init_19 : decode b_LogCleaner_init 19 = .ok (.aload_n 0, 1) := by decide +kernel
theorem d_LogCleaner_init_20 : decode b_LogCleaner_init 20 = .ok (.iconst 0, 1) := by decide +kernel
theorem d_LogCleaner_init_21 : decode b_LogCleaner_init 21 = .ok (.putfield 19, 3) := by decide +kernel
theorem d_LogCleaner_init_24 : decode b_LogCleaner_init 24 = .ok (.aload_n 0, 1) := by decide +kernel
theorem d_LogCleaner_init_25 : decode b_LogCleaner_init 25 = .ok (.iconst 0, 1) := by decide +kernel
theorem d_LogCleaner_init_26 : decode b_LogCleaner_init 26 = .ok (.putfield 22, 3) := by decide +kernel
theorem d_LogCleaner_init_29 : decode b_LogCleaner_init 29 = .ok (.aload_n 0, 1) := by decide +kernel
theorem d_LogCleaner_init_30 : decode b_LogCleaner_init 30 = .ok (.new 25, 3) := by decide +kernel
theorem d_LogCleaner_init_33 : decode b_LogCleaner_init 33 = .ok (.dup, 1) := by decide +kernel
theorem d_LogCleaner_init_34 : decode b_LogCleaner_init 34 = .ok (.invokespecial 27, 3) := by decide +kernel
theorem d_LogCleaner_init_37 : decode b_LogCleaner_init 37 = .ok (.putfield 28, 3) := by decide +kernel
theorem d_LogCleaner_init_40 : decode b_LogCleaner_init 40 = .ok (.aload_n 0, 1) := by decide +kernel
theorem d_LogCleaner_init_41 : decode b_LogCleaner_init 41 = .ok (.bipush 100, 2) := by decide +kernel
theorem d_LogCleaner_init_43 : decode b_LogCleaner_init 43 = .ok (.anewarray 32, 3) := by decide +kernel
theorem d_LogCleaner_init_46 : decode b_LogCleaner_init 46 = .ok (.putfield 34, 3) := by decide +kernel
theorem d_LogCleaner_init_49 : decode b_LogCleaner_init 49 = .ok (.aload_n 0, 1) := by decide +kernel
theorem d_LogCleaner_init_50 : decode b_LogCleaner_init 50 = .ok (.iconst 0, 1) := by decide +kernel
theorem d_LogCleaner_init_51 : decode b_LogCleaner_init 51 = .ok (.putfield 38, 3) := by decide +kernel
theorem d_LogCleaner_init_54 : decode b_LogCleaner_init 54 = .ok (.return_, 1) := by decide +kernel
def rm_LogCleaner_init : Room := { frames := 2, cells := 3, slots := 502, locals := 32 }
def ws_LogCleaner_init : List Cond := Cond.code y_LogCleaner_init b_LogCleaner_init 1 none :: TB
set_option maxHeartbeats 4000000 in
set_option maxRecDepth 100000 in
theorem m_LogCleaner_init (l : Launch) (D : va_G) (d : Nat → ClassId) (h : xw) (sz : Nat) (a0 : Nat) (Q : xw → Prop) (hw : wp_LogCleaner_init d h a0 Q) : Met l y_LogCleaner_init ws_LogCleaner_init rm_LogCleaner_init (xPre D d h [.ref a0] sz) (va_Qv (fun u => Q u ∧ xfr sgX h u) (xB D d (xA h sz)) (xA h sz)) 3 502 (xA h sz) := by
  refine Met.ofW (cc := b_LogCleaner_init) (maxL := 1) (ret := none) (by decide) rfl ?_
  intro p e s m args below meth c s₁ B hml hv
  obtain ⟨rfl, hsz, hP0, hK, hNB⟩ := hv
  have hts := atoms_spec (ws := ws_LogCleaner_init) B.pre
  have htb := fun w (hw9 : w ∈ TB) => hts w (List.mem_cons_of_mem _ hw9)
  have hown : s.vm.findClass R_LogCleaner = some m.cls := findClass_of_methodNamed B.named
  subst hsz
  obtain ⟨A, hAe⟩ : ∃ A, A = xA h s.heap.size := ⟨_, rfl⟩
  rw [← hAe]
  have hP : xR sgX h D A h s.heap := ⟨by rw [hAe]; exact hP0.self, xfr.rf⟩
  have hA : ∀ q, s.heap.size ≤ q → A q := fun q hq => by rw [hAe]; exact Or.inr hq
  have hS : va_S A s.heap s.heap [] := va_S.rf
  have C0 : xctx p s m ([.ref a0] : List Value).toArray meth c b_LogCleaner_init 1 none R_LogCleaner D d A (meth.name = "<init>") := ⟨B.exec, B.bytes, B.returns, hml, hown, htb, hK, hA, hNB, B.notSynchronized, (name_of_methodNamed B.named B.method).1⟩
  obtain ⟨hx, hb, hr, -, -, -, -, -, -, hlocks, hXT⟩ := id C0
  have hl := lv_entry ([.ref a0] : List Value) (n := 1) (Nat.le_of_ble_eq_true rfl)
  rw [lg_entry_eq]
  generalize (lg_sl ([.ref a0] : List Value) ++ List.replicate (1 - (lg_sl ([.ref a0] : List Value)).length) Slot.unset).toArray = ls at hl ⊢
  have hl : lv_has ls 1 [(0, .ref a0)] := hl
  refine lv_aload_n hx hb d_LogCleaner_init_0 rfl (lv_at hl 0 rfl) ?_
  refine W.objInit hx hb hown (htb _ k_LogCleaner_1) (htb _ g_im_obj) (htb _ g_code_obj) rfl (by rw [hml]; exact hl.1) rfl d_LogCleaner_init_1 (Nat.le_of_ble_eq_true rfl) (Nat.le_of_ble_eq_true rfl) ?_
  refine W.eq (g2 := F0 m 4 ls []) rfl ?_
  refine lv_aload_n hx hb d_LogCleaner_init_4 rfl (lv_at hl 0 rfl) ?_
  refine lv_sipush (v := 400) hx hb d_LogCleaner_init_5 (by decide) ?_
  refine xnewq (B := 400) hx hb hown (htb _ k_LogCleaner_9c) (hNB.2 _ List.mem_cons_self) hK hP hS hA 1 rfl (by decide) (Nat.le_of_ble_eq_true rfl) (Nat.le_of_ble_eq_true rfl) hw d_LogCleaner_init_8 (fun q2 h1 H hw hP hS => ?_)
  refine W.widen (k := 1) (n := 400) (Nat.le_of_ble_eq_true rfl) (Nat.le_of_ble_eq_true rfl) ?_
  refine xputFQ (t9 := (.object "LogCleaner$Batch")) hx hb htb i_LogCleaner t_LogCleaner t_LogCleaner_ok n_LogCleaner hown hK hP hS (ci := 0) rfl (fun _ => rfl) 0 (by decide) (htb _ k_LogCleaner_11) (fun _ h9 => h9) rfl hXT rfl (by decide +kernel) hw d_LogCleaner_init_11 (fun h3 H locs hw hP hS => ?_)
  refine lv_aload_n hx hb d_LogCleaner_init_14 rfl (lv_at hl 0 rfl) ?_
  refine lv_iconst (v := 0) hx hb d_LogCleaner_init_15 (by decide) ?_
  refine xputI hx hb htb i_LogCleaner t_LogCleaner t_LogCleaner_ok n_LogCleaner hown hK hP hS (ci := 0) rfl (fun _ => rfl) 1 (by decide) (htb _ k_LogCleaner_15) (fun _ h9 => h9) rfl (by decide +kernel) hw d_LogCleaner_init_16 (fun h4 H locs hw hP hS => ?_)
  refine lv_aload_n hx hb d_LogCleaner_init_19 rfl (lv_at hl 0 rfl) ?_
  refine lv_iconst (v := 0) hx hb d_LogCleaner_init_20 (by decide) ?_
  refine xputI hx hb htb i_LogCleaner t_LogCleaner t_LogCleaner_ok n_LogCleaner hown hK hP hS (ci := 0) rfl (fun _ => rfl) 2 (by decide) (htb _ k_LogCleaner_19) (fun _ h9 => h9) rfl (by decide +kernel) hw d_LogCleaner_init_21 (fun h5 H locs hw hP hS => ?_)
  refine lv_aload_n hx hb d_LogCleaner_init_24 rfl (lv_at hl 0 rfl) ?_
  refine lv_iconst (v := 0) hx hb d_LogCleaner_init_25 (by decide) ?_
  refine xputI hx hb htb i_LogCleaner t_LogCleaner t_LogCleaner_ok n_LogCleaner hown hK hP hS (ci := 0) rfl (fun _ => rfl) 3 (by decide) (htb _ k_LogCleaner_22) (fun _ h9 => h9) rfl (by decide +kernel) hw d_LogCleaner_init_26 (fun h6 H locs hw hP hS => ?_)
  refine lv_aload_n hx hb d_LogCleaner_init_29 rfl (lv_at hl 0 rfl) ?_
  refine xnew (ci := 3) (fs := z_Packing) hx hb htb i_Packing t_Packing t_Packing_ok hown (htb _ k_LogCleaner_25c) (htb _ g_inst_Packing) (htb _ g_ini_Packing) hK hP hS hA rfl z_Packing_ok (Nat.le_of_ble_eq_true rfl) (Nat.le_of_ble_eq_true rfl) hw d_LogCleaner_init_30 (fun q8 h7 H hw hP hS => ?_)
  refine W.widen (k := 2) (n := 402) (Nat.le_of_ble_eq_true rfl) (Nat.le_of_ble_eq_true rfl) ?_
  refine lv_dup hx hb d_LogCleaner_init_33 rfl ?_
  refine xcallv (va_runIN (b := q8) (As := []) (rest := [.ref q8, .ref a0]) ⟨hx, hb, hml, hown, htb⟩ (m_Packing_init l D d h7 _ q8 _ hw) (xcwIN 0 htb g_code_Packing_init g_ini_Packing (hNB.1 _ nb_0) g_im_Packing_init rfl rfl rfl (by decide +kernel) ⟨(Nat.le_of_ble_eq_true rfl), (Nat.le_of_ble_eq_true rfl)⟩) (xpreI hP hK hNB) rfl rfl hl.1 rfl (lv_room (Nat.le_of_ble_eq_true rfl)) d_LogCleaner_init_34 ⟨(Nat.le_of_ble_eq_true rfl), (Nat.le_of_ble_eq_true rfl)⟩) hP hS hA (fun h9 H locs hw hP hS => ?_)
  refine W.widen (k := 2) (n := 402) (Nat.le_of_ble_eq_true rfl) (Nat.le_of_ble_eq_true rfl) ?_
  refine xputFA (C9 := "LogCleaner$Packing") hx hb htb i_LogCleaner t_LogCleaner t_LogCleaner_ok n_LogCleaner hown hK hP hS (ci := 0) rfl (fun _ => rfl) 4 (by decide) (htb _ k_LogCleaner_28) (fun _ h9 => h9) rfl hXT rfl (by decide +kernel) hw d_LogCleaner_init_37 (fun h10 H locs hw hP hS => ?_)
  refine lv_aload_n hx hb d_LogCleaner_init_40 rfl (lv_at hl 0 rfl) ?_
  refine lv_bipush (v := 100) hx hb d_LogCleaner_init_41 (by decide) ?_
  refine xnewq (B := 100) hx hb hown (htb _ k_LogCleaner_32c) (hNB.2 _ (List.mem_cons_of_mem _ List.mem_cons_self)) hK hP hS hA 0 rfl (by decide) (Nat.le_of_ble_eq_true rfl) (Nat.le_of_ble_eq_true rfl) hw d_LogCleaner_init_43 (fun q12 h11 H hw hP hS => ?_)
  refine W.widen (k := 3) (n := 502) (Nat.le_of_ble_eq_true rfl) (Nat.le_of_ble_eq_true rfl) ?_
  refine xputFQ (t9 := (.object "LogCleaner$Entry")) hx hb htb i_LogCleaner t_LogCleaner t_LogCleaner_ok n_LogCleaner hown hK hP hS (ci := 0) rfl (fun _ => rfl) 5 (by decide) (htb _ k_LogCleaner_34) (fun _ h9 => h9) rfl hXT rfl (by decide +kernel) hw d_LogCleaner_init_46 (fun h13 H locs hw hP hS => ?_)
  refine lv_aload_n hx hb d_LogCleaner_init_49 rfl (lv_at hl 0 rfl) ?_
  refine lv_iconst (v := 0) hx hb d_LogCleaner_init_50 (by decide) ?_
  refine xputI hx hb htb i_LogCleaner t_LogCleaner t_LogCleaner_ok n_LogCleaner hown hK hP hS (ci := 0) rfl (fun _ => rfl) 6 (by decide) (htb _ k_LogCleaner_38) (fun _ h9 => h9) rfl (by decide +kernel) hw d_LogCleaner_init_51 (fun h14 H locs hw hP hS => ?_)
  refine W.widen (k := 3) (n := 502) (Nat.le_of_ble_eq_true rfl) (Nat.le_of_ble_eq_true rfl) ?_
  exact xretV C0 hw hP hS d_LogCleaner_init_54

theorem d_LogCleaner_lowestBytes_0 : decode b_LogCleaner_lowestBytes 0 = .ok (.iload_n 2, 1) := by decide +kernel
theorem d_LogCleaner_lowestBytes_1 : decode b_LogCleaner_lowestBytes 1 = .ok (.ifCond .gt 5, 3) := by decide +kernel
theorem d_LogCleaner_lowestBytes_4 : decode b_LogCleaner_lowestBytes 4 = .ok (.lconst 0, 1) := by decide +kernel
theorem d_LogCleaner_lowestBytes_5 : decode b_LogCleaner_lowestBytes 5 = .ok (.lreturn, 1) := by decide +kernel
theorem d_LogCleaner_lowestBytes_6 : decode b_LogCleaner_lowestBytes 6 = .ok (.iload_n 2, 1) := by decide +kernel
theorem d_LogCleaner_lowestBytes_7 : decode b_LogCleaner_lowestBytes 7 = .ok (.bipush 8, 2) := by decide +kernel
theorem d_LogCleaner_lowestBytes_9 : decode b_LogCleaner_lowestBytes 9 = .ok (.if_icmp .lt 5, 3) := by decide +kernel
theorem d_LogCleaner_lowestBytes_12 : decode b_LogCleaner_lowestBytes 12 = .ok (.lload_n 0, 1) := by decide +kernel
theorem d_LogCleaner_lowestBytes_13 : decode b_LogCleaner_lowestBytes 13 = .ok (.lreturn, 1) := by decide +kernel
theorem d_LogCleaner_lowestBytes_14 : decode b_LogCleaner_lowestBytes 14 = .ok (.lload_n 0, 1) := by decide +kernel
theorem d_LogCleaner_lowestBytes_15 : decode b_LogCleaner_lowestBytes 15 = .ok (.lconst 1, 1) := by decide +kernel
theorem d_LogCleaner_lowestBytes_16 : decode b_LogCleaner_lowestBytes 16 = .ok (.iload_n 2, 1) := by decide +kernel
theorem d_LogCleaner_lowestBytes_17 : decode b_LogCleaner_lowestBytes 17 = .ok (.bipush 8, 2) := by decide +kernel
theorem d_LogCleaner_lowestBytes_19 : decode b_LogCleaner_lowestBytes 19 = .ok (.imul, 1) := by decide +kernel
theorem d_LogCleaner_lowestBytes_20 : decode b_LogCleaner_lowestBytes 20 = .ok (.lshl, 1) := by decide +kernel
theorem d_LogCleaner_lowestBytes_21 : decode b_LogCleaner_lowestBytes 21 = .ok (.lconst 1, 1) := by decide +kernel
theorem d_LogCleaner_lowestBytes_22 : decode b_LogCleaner_lowestBytes 22 = .ok (.lsub, 1) := by decide +kernel
theorem d_LogCleaner_lowestBytes_23 : decode b_LogCleaner_lowestBytes 23 = .ok (.land, 1) := by decide +kernel
theorem d_LogCleaner_lowestBytes_24 : decode b_LogCleaner_lowestBytes 24 = .ok (.lreturn, 1) := by decide +kernel
def rm_LogCleaner_lowestBytes : Room := { frames := 0, cells := 0, slots := 0, locals := 0 }
def ws_LogCleaner_lowestBytes : List Cond := Cond.code y_LogCleaner_lowestBytes b_LogCleaner_lowestBytes 3 (some .long) :: TB
set_option maxHeartbeats 4000000 in
set_option maxRecDepth 100000 in
theorem m_LogCleaner_lowestBytes (l : Launch) (D : va_G) (d : Nat → ClassId) (h : xw) (sz : Nat) (a0 : Int64) (a2 : Int32) (Q : Int64 → xw → Prop) (hw : wp_LogCleaner_lowestBytes d h a0 a2 Q) : Met l y_LogCleaner_lowestBytes ws_LogCleaner_lowestBytes rm_LogCleaner_lowestBytes (xPre D d h [.long a0, .int a2] sz) (va_Ql (fun r u => Q r u ∧ xfr sgX h u) (xB D d (xA h sz)) (xA h sz)) 0 0 (xA h sz) := by
  refine Met.ofW (cc := b_LogCleaner_lowestBytes) (maxL := 3) (ret := (some .long)) (by decide) rfl ?_
  intro p e s m args below meth c s₁ B hml hv
  obtain ⟨rfl, hsz, hP0, hK, hNB⟩ := hv
  have hts := atoms_spec (ws := ws_LogCleaner_lowestBytes) B.pre
  have htb := fun w (hw9 : w ∈ TB) => hts w (List.mem_cons_of_mem _ hw9)
  have hown : s.vm.findClass R_LogCleaner = some m.cls := findClass_of_methodNamed B.named
  subst hsz
  obtain ⟨A, hAe⟩ : ∃ A, A = xA h s.heap.size := ⟨_, rfl⟩
  rw [← hAe]
  have hP : xR sgX h D A h s.heap := ⟨by rw [hAe]; exact hP0.self, xfr.rf⟩
  have hA : ∀ q, s.heap.size ≤ q → A q := fun q hq => by rw [hAe]; exact Or.inr hq
  have hS : va_S A s.heap s.heap [] := va_S.rf
  have C0 : xctx p s m ([.long a0, .int a2] : List Value).toArray meth c b_LogCleaner_lowestBytes 3 (some .long) R_LogCleaner D d A True := ⟨B.exec, B.bytes, B.returns, hml, hown, htb, hK, hA, hNB, B.notSynchronized, trivial⟩
  obtain ⟨hx, hb, hr, -, -, -, -, -, -, hlocks, hXT⟩ := id C0
  have hl := lv_entry ([.long a0, .int a2] : List Value) (n := 3) (Nat.le_of_ble_eq_true rfl)
  rw [lg_entry_eq]
  generalize (lg_sl ([.long a0, .int a2] : List Value) ++ List.replicate (3 - (lg_sl ([.long a0, .int a2] : List Value)).length) Slot.unset).toArray = ls at hl ⊢
  have hl : lv_has ls 3 [(0, .long a0), (2, .int a2)] := hl
  refine lv_iload_n hx hb d_LogCleaner_lowestBytes_0 rfl (lv_at hl 1 rfl) ?_
  refine lv_if_gt (tgt := 6) hx hb d_LogCleaner_lowestBytes_1 (by decide) (fun cq => ?_) (fun cq => ?_)
  · replace hw := hw.1 cq
    refine lv_iload_n hx hb d_LogCleaner_lowestBytes_6 rfl (lv_at hl 1 rfl) ?_
    refine lv_bipush (v := 8) hx hb d_LogCleaner_lowestBytes_7 (by decide) ?_
    refine lv_icmp_lt (tgt := 14) hx hb d_LogCleaner_lowestBytes_9 (by decide) (fun cq => ?_) (fun cq => ?_)
    · replace hw := hw.1 cq
      refine lv_lload_n hx hb d_LogCleaner_lowestBytes_14 rfl (lv_at hl 0 rfl) ?_
      refine lv_lconst (v := 1) hx hb d_LogCleaner_lowestBytes_15 (by decide) ?_
      refine lv_iload_n hx hb d_LogCleaner_lowestBytes_16 rfl (lv_at hl 1 rfl) ?_
      refine lv_bipush (v := 8) hx hb d_LogCleaner_lowestBytes_17 (by decide) ?_
      refine lv_imul hx hb d_LogCleaner_lowestBytes_19 ?_
      refine lv_lshl (v := 1 <<< ((a2 * 8).toInt64 &&& 63)) hx hb d_LogCleaner_lowestBytes_20 rfl ?_
      refine lv_lconst (v := 1) hx hb d_LogCleaner_lowestBytes_21 (by decide) ?_
      refine lv_lsub hx hb d_LogCleaner_lowestBytes_22 ?_
      refine lv_land hx hb d_LogCleaner_lowestBytes_23 ?_
      refine W.widen (k := 0) (n := 0) (Nat.le_of_ble_eq_true rfl) (Nat.le_of_ble_eq_true rfl) ?_
      exact xretL C0 hw hP hS d_LogCleaner_lowestBytes_24
    · replace hw := hw.2 cq
      refine lv_lload_n hx hb d_LogCleaner_lowestBytes_12 rfl (lv_at hl 0 rfl) ?_
      refine W.widen (k := 0) (n := 0) (Nat.le_of_ble_eq_true rfl) (Nat.le_of_ble_eq_true rfl) ?_
      exact xretL C0 hw hP hS d_LogCleaner_lowestBytes_13
  · replace hw := hw.2 cq
    refine lv_lconst (v := 0) hx hb d_LogCleaner_lowestBytes_4 (by decide) ?_
    refine W.widen (k := 0) (n := 0) (Nat.le_of_ble_eq_true rfl) (Nat.le_of_ble_eq_true rfl) ?_
    exact xretL C0 hw hP hS d_LogCleaner_lowestBytes_5

theorem d_LogCleaner_record_0 : decode b_LogCleaner_record 0 = .ok (.iload_n 3, 1) := by decide +kernel
theorem d_LogCleaner_record_1 : decode b_LogCleaner_record 1 = .ok (.iconst (-1), 1) := by decide +kernel
theorem d_LogCleaner_record_2 : decode b_LogCleaner_record 2 = .ok (.if_icmp .lt 9, 3) := by decide +kernel
theorem d_LogCleaner_record_5 : decode b_LogCleaner_record 5 = .ok (.iload_n 3, 1) := by decide +kernel
theorem d_LogCleaner_record_6 : decode b_LogCleaner_record 6 = .ok (.bipush 8, 2) := by decide +kernel
theorem d_LogCleaner_record_8 : decode b_LogCleaner_record 8 = .ok (.if_icmp .le 13, 3) := by decide +kernel
theorem d_LogCleaner_record_11 : decode b_LogCleaner_record 11 = .ok (.new 41, 3) := by decide +kernel
theorem d_LogCleaner_record_14 : decode b_LogCleaner_record 14 = .ok (.dup, 1) := by decide +kernel
theorem d_LogCleaner_record_15 : decode b_LogCleaner_record 15 = .ok (.ldc 43, 2) := by decide +kernel
theorem d_LogCleaner_record_17 : decode b_LogCleaner_record 17 = .ok (.invokespecial 45, 3) := by decide +kernel
theorem d_LogCleaner_record_20 : decode b_LogCleaner_record 20 = .ok (.athrow, 1) := by decide +kernel
theorem d_LogCleaner_record_21 : decode b_LogCleaner_record 21 = .ok (.iload 7, 2) := by decide +kernel
theorem d_LogCleaner_record_23 : decode b_LogCleaner_record 23 = .ok (.ifCond .ge 13, 3) := by decide +kernel
theorem d_LogCleaner_record_26 : decode b_LogCleaner_record 26 = .ok (.new 41, 3) := by decide +kernel
theorem d_LogCleaner_record_29 : decode b_LogCleaner_record 29 = .ok (.dup, 1) := by decide +kernel
theorem d_LogCleaner_record_30 : decode b_LogCleaner_record 30 = .ok (.ldc 48, 2) := by decide +kernel
theorem d_LogCleaner_record_32 : decode b_LogCleaner_record 32 = .ok (.invokespecial 45, 3) := by decide +kernel
theorem d_LogCleaner_record_35 : decode b_LogCleaner_record 35 = .ok (.athrow, 1) := by decide +kernel
theorem d_LogCleaner_record_36 : decode b_LogCleaner_record 36 = .ok (.aload_n 0, 1) := by decide +kernel
theorem d_LogCleaner_record_37 : decode b_LogCleaner_record 37 = .ok (.getfield 38, 3) := by decide +kernel
theorem d_LogCleaner_record_40 : decode b_LogCleaner_record 40 = .ok (.bipush 100, 2) := by decide +kernel
theorem d_LogCleaner_record_42 : decode b_LogCleaner_record 42 = .ok (.if_icmp .lt 13, 3) := by decide +kernel
theorem d_LogCleaner_record_45 : decode b_LogCleaner_record 45 = .ok (.new 50, 3) := by decide +kernel
theorem d_LogCleaner_record_48 : decode b_LogCleaner_record 48 = .ok (.dup, 1) := by decide +kernel
theorem d_LogCleaner_record_49 : decode b_LogCleaner_record 49 = .ok (.ldc 52, 2) := by decide +kernel
theorem d_LogCleaner_record_51 : decode b_LogCleaner_record 51 = .ok (.invokespecial 54, 3) := by decide +kernel
theorem d_LogCleaner_record_54 : decode b_LogCleaner_record 54 = .ok (.athrow, 1) := by decide +kernel
theorem d_LogCleaner_record_55 : decode b_LogCleaner_record 55 = .ok (.aload_n 0, 1) := by decide +kernel
theorem d_LogCleaner_record_56 : decode b_LogCleaner_record 56 = .ok (.getfield 19, 3) := by decide +kernel
theorem d_LogCleaner_record_59 : decode b_LogCleaner_record 59 = .ok (.aload_n 0, 1) := by decide +kernel
theorem d_LogCleaner_record_60 : decode b_LogCleaner_record 60 = .ok (.getfield 38, 3) := by decide +kernel
theorem d_LogCleaner_record_63 : decode b_LogCleaner_record 63 = .ok (.iadd, 1) := by decide +kernel
theorem d_LogCleaner_record_64 : decode b_LogCleaner_record 64 = .ok (.sipush 4000, 3) := by decide +kernel
theorem d_LogCleaner_record_67 : decode b_LogCleaner_record 67 = .ok (.if_icmp .lt 13, 3) := by decide +kernel
theorem d_LogCleaner_record_70 : decode b_LogCleaner_record 70 = .ok (.new 50, 3) := by decide +kernel
theorem d_LogCleaner_record_73 : decode b_LogCleaner_record 73 = .ok (.dup, 1) := by decide +kernel
theorem d_LogCleaner_record_74 : decode b_LogCleaner_record 74 = .ok (.ldc 55, 2) := by decide +kernel
theorem d_LogCleaner_record_76 : decode b_LogCleaner_record 76 = .ok (.invokespecial 54, 3) := by decide +kernel
theorem d_LogCleaner_record_79 : decode b_LogCleaner_record 79 = .ok (.athrow, 1) := by decide +kernel
theorem d_LogCleaner_record_80 : decode b_LogCleaner_record 80 = .ok (.lload_n 1, 1) := by decide +kernel
theorem d_LogCleaner_record_81 : decode b_LogCleaner_record 81 = .ok (.iload_n 3, 1) := by decide +kernel
theorem d_LogCleaner_record_82 : decode b_LogCleaner_record 82 = .ok (.invokestatic 57, 3) := by decide +kernel
theorem d_LogCleaner_record_85 : decode b_LogCleaner_record 85 = .ok (.lstore 8, 2) := by decide +kernel
theorem d_LogCleaner_record_87 : decode b_LogCleaner_record 87 = .ok (.iload 4, 2) := by decide +kernel
theorem d_LogCleaner_record_89 : decode b_LogCleaner_record 89 = .ok (.ifCond .eq 8, 3) := by decide +kernel
theorem d_LogCleaner_record_92 : decode b_LogCleaner_record 92 = .ok (.lload 5, 2) := by decide +kernel
theorem d_LogCleaner_record_94 : decode b_LogCleaner_record 94 = .ok (.goto 4, 3) := by decide +kernel
theorem d_LogCleaner_record_97 : decode b_LogCleaner_record 97 = .ok (.lconst 0, 1) := by decide +kernel
theorem d_LogCleaner_record_98 : decode b_LogCleaner_record 98 = .ok (.lstore 10, 2) := by decide +kernel
theorem d_LogCleaner_record_100 : decode b_LogCleaner_record 100 = .ok (.aload_n 0, 1) := by decide +kernel
theorem d_LogCleaner_record_101 : decode b_LogCleaner_record 101 = .ok (.getfield 34, 3) := by decide +kernel
theorem d_LogCleaner_record_104 : decode b_LogCleaner_record 104 = .ok (.aload_n 0, 1) := by decide +kernel
theorem d_LogCleaner_record_105 : decode b_LogCleaner_record 105 = .ok (.getfield 38, 3) := by decide +kernel
theorem d_LogCleaner_record_108 : decode b_LogCleaner_record 108 = .ok (.new 32, 3) := by decide +kernel
theorem d_LogCleaner_record_111 : decode b_LogCleaner_record 111 = .ok (.dup, 1) := by decide +kernel
theorem d_LogCleaner_record_112 : decode b_LogCleaner_record 112 = .ok (.lload 8, 2) := by decide +kernel
theorem d_LogCleaner_record_114 : decode b_LogCleaner_record 114 = .ok (.iload_n 3, 1) := by decide +kernel
theorem d_LogCleaner_record_115 : decode b_LogCleaner_record 115 = .ok (.iload 4, 2) := by decide +kernel
theorem d_LogCleaner_record_117 : decode b_LogCleaner_record 117 = .ok (.lload 10, 2) := by decide +kernel
theorem d_LogCleaner_record_119 : decode b_LogCleaner_record 119 = .ok (.iload 7, 2) := by decide +kernel
theorem d_LogCleaner_record_121 : decode b_LogCleaner_record 121 = .ok (.invokespecial 61, 3) := by decide +kernel
theorem d_LogCleaner_record_124 : decode b_LogCleaner_record 124 = .ok (.aastore, 1) := by decide +kernel
theorem d_LogCleaner_record_125 : decode b_LogCleaner_record 125 = .ok (.aload_n 0, 1) := by decide +kernel
theorem d_LogCleaner_record_126 : decode b_LogCleaner_record 126 = .ok (.dup, 1) := by decide +kernel
theorem d_LogCleaner_record_127 : decode b_LogCleaner_record 127 = .ok (.getfield 38, 3) := by decide +kernel
theorem d_LogCleaner_record_130 : decode b_LogCleaner_record 130 = .ok (.iconst 1, 1) := by decide +kernel
theorem d_LogCleaner_record_131 : decode b_LogCleaner_record 131 = .ok (.iadd, 1) := by decide +kernel
theorem d_LogCleaner_record_132 : decode b_LogCleaner_record 132 = .ok (.putfield 38, 3) := by decide +kernel
theorem d_LogCleaner_record_135 : decode b_LogCleaner_record 135 = .ok (.aload_n 0, 1) := by decide +kernel
theorem d_LogCleaner_record_136 : decode b_LogCleaner_record 136 = .ok (.getfield 38, 3) := by decide +kernel
theorem d_LogCleaner_record_139 : decode b_LogCleaner_record 139 = .ok (.ireturn, 1) := by decide +kernel
def rm_LogCleaner_record : Room := { frames := 6, cells := 1, slots := 7, locals := 82 }
def ws_LogCleaner_record : List Cond := Cond.code y_LogCleaner_record b_LogCleaner_record 12 (some .int) :: TB
set_option maxHeartbeats 4000000 in
set_option maxRecDepth 100000 in
theorem sb_LogCleaner_record_11 {p : Program} {l : Launch} {e : Env} {s : State} {m : MethodId} {args : Array Value} {below : List Frame} {meth : Method} {c : Code} {D : va_G} {d : Nat → ClassId} {A : Nat → Prop} {h0 : xw} {Q : Int32 → xw → Prop} {X : String → xw → Prop} (C0 : xctx p s m args meth c b_LogCleaner_record 12 (some .int) R_LogCleaner D d A (xT l s c A)) : ∀ (h : xw) (H : Heap) (locs : List Loc) (ls : Array Slot), wb_LogCleaner_record_11 d Q X  h → xR sgX h0 D A h H → va_S A s.heap H locs → lv_has ls 12 [] → W p l e rm_LogCleaner_record s m args below meth c H locs 0 0 (vx_MQ below (va_Qi (fun r u => Q r u ∧ xfr sgX h0 u) (xB D d A) A) (xX (fun E u => X E u ∧ xfr sgX h0 u) D d A) args s 1 7 A) (F0 m 11 ls []) := by
  obtain ⟨hx, hb, hr, hml, hown, htb, hK, hA, hNB, hlocks, hXT⟩ := id C0
  intro  h H locs ls hw hP hS hl
  exact xthrow C0 (cls := "java/lang/IllegalArgumentException") (text := "keyBytes are not -1 .. 8") (names := ["java/lang/RuntimeException", "java/lang/Exception"]) (ik := 41) (is := 43) (ic := 45) (by decide) (by decide) k_LogCleaner_41c g_ini_java_lang_IllegalArgumentException (by decide) at_LogCleaner_45 at_LogCleaner_45_ok (by decide) (by decide) hw hP hS hl d_LogCleaner_record_11 d_LogCleaner_record_14 d_LogCleaner_record_15 d_LogCleaner_record_17 d_LogCleaner_record_20 (Nat.le_of_ble_eq_true rfl) (Nat.le_of_ble_eq_true rfl) (Nat.le_of_ble_eq_true rfl) (Nat.le_of_ble_eq_true rfl) (Nat.le_of_ble_eq_true rfl) (Nat.le_of_ble_eq_true rfl)

set_option maxHeartbeats 4000000 in
set_option maxRecDepth 100000 in
theorem sb_LogCleaner_record_98 {p : Program} {l : Launch} {e : Env} {s : State} {m : MethodId} {args : Array Value} {below : List Frame} {meth : Method} {c : Code} {D : va_G} {d : Nat → ClassId} {A : Nat → Prop} {h0 : xw} {Q : Int32 → xw → Prop} {X : String → xw → Prop} (C0 : xctx p s m args meth c b_LogCleaner_record 12 (some .int) R_LogCleaner D d A (xT l s c A)) : ∀ (x0 : Nat) (x3 : Int32) (x4 : Int32) (x7 : Int32) (x8 : Int64) (s0 : Int64) (h : xw) (H : Heap) (locs : List Loc) (ls : Array Slot), wb_LogCleaner_record_98 d Q X x0 x3 x4 x7 x8 s0 h → xR sgX h0 D A h H → va_S A s.heap H locs → lv_has ls 12 [(0, .ref x0), (3, .int x3), (4, .int x4), (7, .int x7), (8, .long x8)] → W p l e rm_LogCleaner_record s m args below meth c H locs 0 0 (vx_MQ below (va_Qi (fun r u => Q r u ∧ xfr sgX h0 u) (xB D d A) A) (xX (fun E u => X E u ∧ xfr sgX h0 u) D d A) args s 1 7 A) (F0 m 98 ls [.long s0]) := by
  obtain ⟨hx, hb, hr, hml, hown, htb, hK, hA, hNB, hlocks, hXT⟩ := id C0
  intro x0 x3 x4 x7 x8 s0 h H locs ls hw hP hS hl
  refine lv_lstore (lv' := [(10, .long s0), (0, .ref x0), (3, .int x3), (4, .int x4), (7, .int x7), (8, .long x8)]) hx hb d_LogCleaner_record_98 hl (by decide) rfl (fun ls hl => ?_)
  refine lv_aload_n hx hb d_LogCleaner_record_100 rfl (lv_at hl 1 rfl) ?_
  refine xgetA hx hb htb i_LogCleaner hown hK hP (ci := 0) rfl 5 (by decide) (htb _ k_LogCleaner_34) (fun _ h9 => h9) hw d_LogCleaner_record_101 (fun r6 hw => ?_)
  refine lv_aload_n hx hb d_LogCleaner_record_104 rfl (lv_at hl 1 rfl) ?_
  refine xgetI hx hb htb i_LogCleaner hown hK hP (ci := 0) rfl 6 (by decide) (htb _ k_LogCleaner_38) (fun _ h9 => h9) hw d_LogCleaner_record_105 (fun v7 hw => ?_)
  refine xnew (ci := 2) (fs := z_Entry) hx hb htb i_Entry t_Entry t_Entry_ok hown (htb _ k_LogCleaner_32c) (htb _ g_inst_Entry) (htb _ g_ini_Entry) hK hP hS hA rfl z_Entry_ok (Nat.le_of_ble_eq_true rfl) (Nat.le_of_ble_eq_true rfl) hw d_LogCleaner_record_108 (fun q9 h8 H hw hP hS => ?_)
  refine W.widen (k := 1) (n := 7) (Nat.le_of_ble_eq_true rfl) (Nat.le_of_ble_eq_true rfl) ?_
  refine lv_dup hx hb d_LogCleaner_record_111 rfl ?_
  refine lv_lload hx hb d_LogCleaner_record_112 (lv_at hl 5 rfl) ?_
  refine lv_iload_n hx hb d_LogCleaner_record_114 rfl (lv_at hl 2 rfl) ?_
  refine lv_iload hx hb d_LogCleaner_record_115 (lv_at hl 3 rfl) ?_
  refine lv_lload hx hb d_LogCleaner_record_117 (lv_at hl 0 rfl) ?_
  refine lv_iload hx hb d_LogCleaner_record_119 (lv_at hl 4 rfl) ?_
  refine xcallv (va_runI (b := q9) (As := [.long x8, .int x3, .int x4, .long s0, .int x7]) (rest := [.ref q9, .int v7, va_rf r6]) ⟨hx, hb, hml, hown, htb⟩ (m_Entry_init l D d h8 _ q9 x8 x3 x4 s0 x7 _ hw) (xcwI 5 htb g_code_Entry_init g_ini_Entry k_LogCleaner_61 g_im_Entry_init rfl rfl rfl (by decide +kernel) ⟨(Nat.le_of_ble_eq_true rfl), (Nat.le_of_ble_eq_true rfl)⟩) (xpreI hP hK hNB) rfl rfl hl.1 rfl (lv_room (by cases r6 <;> exact (Nat.le_of_ble_eq_true rfl))) d_LogCleaner_record_121 ⟨(Nat.le_of_ble_eq_true rfl), (Nat.le_of_ble_eq_true rfl)⟩) hP hS hA (fun h10 H locs hw hP hS => ?_)
  refine W.widen (k := 1) (n := 7) (Nat.le_of_ble_eq_true rfl) (Nat.le_of_ble_eq_true rfl) ?_
  obtain ⟨p11, hpe, hw⟩ := hw
  revert hw
  revert hl
  subst hpe
  intro hl hw
  replace hl : lv_has ls 12 [(10, .long s0), (0, .ref x0), (3, .int x3), (4, .int x4), (7, .int x7), (8, .long x8)] := hl
  refine xstq hx hb hK hP hS 0 rfl (ci := 2) rfl (fun _ _ => rfl) hw d_LogCleaner_record_124 (fun h12 H locs hw hP hS => ?_)
  refine lv_aload_n hx hb d_LogCleaner_record_125 rfl (lv_at hl 1 rfl) ?_
  refine lv_dup hx hb d_LogCleaner_record_126 rfl ?_
  refine xgetI hx hb htb i_LogCleaner hown hK hP (ci := 0) rfl 6 (by decide) (htb _ k_LogCleaner_38) (fun _ h9 => h9) hw d_LogCleaner_record_127 (fun v13 hw => ?_)
  refine lv_iconst (v := 1) hx hb d_LogCleaner_record_130 (by decide) ?_
  refine lv_iadd hx hb d_LogCleaner_record_131 ?_
  refine xputI hx hb htb i_LogCleaner t_LogCleaner t_LogCleaner_ok n_LogCleaner hown hK hP hS (ci := 0) rfl (fun _ => rfl) 6 (by decide) (htb _ k_LogCleaner_38) (fun _ h9 => h9) rfl (by decide +kernel) hw d_LogCleaner_record_132 (fun h14 H locs hw hP hS => ?_)
  refine lv_aload_n hx hb d_LogCleaner_record_135 rfl (lv_at hl 1 rfl) ?_
  refine xgetI hx hb htb i_LogCleaner hown hK hP (ci := 0) rfl 6 (by decide) (htb _ k_LogCleaner_38) (fun _ h9 => h9) hw d_LogCleaner_record_136 (fun v15 hw => ?_)
  refine vx_ret ?_
  refine W.widen (k := 1) (n := 7) (Nat.le_of_ble_eq_true rfl) (Nat.le_of_ble_eq_true rfl) ?_
  exact xretI C0 hw hP hS d_LogCleaner_record_139

set_option maxHeartbeats 4000000 in
set_option maxRecDepth 100000 in
theorem m_LogCleaner_record (l : Launch) (hlt : l.stackTraces = false) (D : va_G) (d : Nat → ClassId) (h : xw) (sz : Nat) (a0 : Nat) (a1 : Int64) (a3 : Int32) (a4 : Int32) (a5 : Int64) (a7 : Int32) (Q : Int32 → xw → Prop) (X : String → xw → Prop) (hw : wp_LogCleaner_record d h a0 a1 a3 a4 a5 a7 Q X) : vx_Met l y_LogCleaner_record ws_LogCleaner_record rm_LogCleaner_record (xPreX D d h [.ref a0, .long a1, .int a3, .int a4, .long a5, .int a7] sz) (va_Qi (fun r u => Q r u ∧ xfr sgX h u) (xB D d (xA h sz)) (xA h sz)) (xX (fun E u => X E u ∧ xfr sgX h u) D d (xA h sz)) 1 7 (xA h sz) := by
  refine vx_ofW (cc := b_LogCleaner_record) (maxL := 12) (ret := (some .int)) (by decide) rfl ?_
  intro p e s m args below meth c s₁ B hml htab hv
  obtain ⟨rfl, hsz, hP0, hK, hNB, hZ1, hZ2, hSt⟩ := hv
  have hts := atoms_spec (ws := ws_LogCleaner_record) B.pre
  have htb := fun w (hw9 : w ∈ TB) => hts w (List.mem_cons_of_mem _ hw9)
  have hown : s.vm.findClass R_LogCleaner = some m.cls := findClass_of_methodNamed B.named
  subst hsz
  obtain ⟨A, hAe⟩ : ∃ A, A = xA h s.heap.size := ⟨_, rfl⟩
  rw [← hAe] at hZ1 hZ2 ⊢
  have hP : xR sgX h D A h s.heap := ⟨by rw [hAe]; exact hP0.self, xfr.rf⟩
  have hA : ∀ q, s.heap.size ≤ q → A q := fun q hq => by rw [hAe]; exact Or.inr hq
  have hS : va_S A s.heap s.heap [] := va_S.rf
  have C0 : xctx p s m ([.ref a0, .long a1, .int a3, .int a4, .long a5, .int a7] : List Value).toArray meth c b_LogCleaner_record 12 (some .int) R_LogCleaner D d A (xT l s c A) := ⟨B.exec, B.bytes, B.returns, hml, hown, htb, hK, hA, hNB, B.notSynchronized, ⟨hlt, hZ1, hZ2, hSt, htab⟩⟩
  obtain ⟨hx, hb, hr, -, -, -, -, -, -, hlocks, hXT⟩ := id C0
  have hl := lv_entry ([.ref a0, .long a1, .int a3, .int a4, .long a5, .int a7] : List Value) (n := 12) (Nat.le_of_ble_eq_true rfl)
  rw [lg_entry_eq]
  generalize (lg_sl ([.ref a0, .long a1, .int a3, .int a4, .long a5, .int a7] : List Value) ++ List.replicate (12 - (lg_sl ([.ref a0, .long a1, .int a3, .int a4, .long a5, .int a7] : List Value)).length) Slot.unset).toArray = ls at hl ⊢
  have hl : lv_has ls 12 [(0, .ref a0), (1, .long a1), (3, .int a3), (4, .int a4), (5, .long a5), (7, .int a7)] := hl
  refine lv_iload_n hx hb d_LogCleaner_record_0 rfl (lv_at hl 2 rfl) ?_
  refine lv_iconst (v := (-1)) hx hb d_LogCleaner_record_1 (by decide) ?_
  refine lv_icmp_lt (tgt := 11) hx hb d_LogCleaner_record_2 (by decide) (fun cq => ?_) (fun cq => ?_)
  · replace hw := hw.1 cq
    exact sb_LogCleaner_record_11 C0  h _ _ _ hw hP hS (lv_sub hl [] rfl)
  · replace hw := hw.2 cq
    refine lv_iload_n hx hb d_LogCleaner_record_5 rfl (lv_at hl 2 rfl) ?_
    refine lv_bipush (v := 8) hx hb d_LogCleaner_record_6 (by decide) ?_
    refine lv_icmp_le (tgt := 21) hx hb d_LogCleaner_record_8 (by decide) (fun cq => ?_) (fun cq => ?_)
    · replace hw := hw.1 cq
      refine lv_iload hx hb d_LogCleaner_record_21 (lv_at hl 5 rfl) ?_
      refine lv_if_ge (tgt := 36) hx hb d_LogCleaner_record_23 (by decide) (fun cq => ?_) (fun cq => ?_)
      · replace hw := hw.1 cq
        refine lv_aload_n hx hb d_LogCleaner_record_36 rfl (lv_at hl 0 rfl) ?_
        refine xgetI hx hb htb i_LogCleaner hown hK hP (ci := 0) rfl 6 (by decide) (htb _ k_LogCleaner_38) (fun _ h9 => h9) hw d_LogCleaner_record_37 (fun v1 hw => ?_)
        refine lv_bipush (v := 100) hx hb d_LogCleaner_record_40 (by decide) ?_
        refine lv_icmp_lt (tgt := 55) hx hb d_LogCleaner_record_42 (by decide) (fun cq => ?_) (fun cq => ?_)
        · replace hw := hw.1 cq
          refine lv_aload_n hx hb d_LogCleaner_record_55 rfl (lv_at hl 0 rfl) ?_
          refine xgetI hx hb htb i_LogCleaner hown hK hP (ci := 0) rfl 2 (by decide) (htb _ k_LogCleaner_19) (fun _ h9 => h9) hw d_LogCleaner_record_56 (fun v2 hw => ?_)
          refine lv_aload_n hx hb d_LogCleaner_record_59 rfl (lv_at hl 0 rfl) ?_
          refine xgetI hx hb htb i_LogCleaner hown hK hP (ci := 0) rfl 6 (by decide) (htb _ k_LogCleaner_38) (fun _ h9 => h9) hw d_LogCleaner_record_60 (fun v3 hw => ?_)
          refine lv_iadd hx hb d_LogCleaner_record_63 ?_
          refine lv_sipush (v := 4000) hx hb d_LogCleaner_record_64 (by decide) ?_
          refine lv_icmp_lt (tgt := 80) hx hb d_LogCleaner_record_67 (by decide) (fun cq => ?_) (fun cq => ?_)
          · replace hw := hw.1 cq
            refine lv_lload_n hx hb d_LogCleaner_record_80 rfl (lv_at hl 1 rfl) ?_
            refine lv_iload_n hx hb d_LogCleaner_record_81 rfl (lv_at hl 2 rfl) ?_
            refine xcalll (va_runS (As := [.long a1, .int a3]) (rest := []) ⟨hx, hb, hml, hown, htb⟩ (m_LogCleaner_lowestBytes l D d h _ a1 a3 _ hw) (xcwS 2 htb g_code_LogCleaner_lowestBytes g_ini_LogCleaner k_LogCleaner_57 g_st_LogCleaner_lowestBytes rfl rfl (by decide +kernel) ⟨(Nat.le_of_ble_eq_true rfl), (Nat.le_of_ble_eq_true rfl)⟩) (xpreI hP hK hNB) rfl rfl hl.1 rfl (lv_room (Nat.le_of_ble_eq_true rfl)) d_LogCleaner_record_82 ⟨(Nat.le_of_ble_eq_true rfl), (Nat.le_of_ble_eq_true rfl)⟩) hP hS hA (fun r5 h4 H locs hw hP hS => ?_)
            refine W.widen (k := 0) (n := 0) (Nat.le_of_ble_eq_true rfl) (Nat.le_of_ble_eq_true rfl) ?_
            refine lv_lstore (lv' := [(8, .long r5), (0, .ref a0), (1, .long a1), (3, .int a3), (4, .int a4), (5, .long a5), (7, .int a7)]) hx hb d_LogCleaner_record_85 hl (by decide) rfl (fun ls hl => ?_)
            refine lv_iload hx hb d_LogCleaner_record_87 (lv_at hl 4 rfl) ?_
            refine lv_if_eq (tgt := 97) hx hb d_LogCleaner_record_89 (by decide) (fun cq => ?_) (fun cq => ?_)
            · replace hw := hw.1 cq
              refine lv_lconst (v := 0) hx hb d_LogCleaner_record_97 (by decide) ?_
              exact sb_LogCleaner_record_98 C0 a0 a3 a4 a7 r5 0 h4 _ _ _ hw hP hS (lv_sub hl [1, 3, 4, 6, 0] rfl)
            · replace hw := hw.2 cq
              refine lv_lload hx hb d_LogCleaner_record_92 (lv_at hl 5 rfl) ?_
              refine lv_goto (tgt := 98) hx hb d_LogCleaner_record_94 (by decide) ?_
              exact sb_LogCleaner_record_98 C0 a0 a3 a4 a7 r5 a5 h4 _ _ _ hw hP hS (lv_sub hl [1, 3, 4, 6, 0] rfl)
          · replace hw := hw.2 cq
            exact xthrow C0 (cls := "java/lang/IllegalStateException") (text := "the log and the draft have 4000 records") (names := ["java/lang/RuntimeException", "java/lang/Exception"]) (ik := 50) (is := 55) (ic := 54) (by decide) (by decide) k_LogCleaner_50c g_ini_java_lang_IllegalStateException (by decide) at_LogCleaner_54 at_LogCleaner_54_ok (by decide) (by decide) hw hP hS hl d_LogCleaner_record_70 d_LogCleaner_record_73 d_LogCleaner_record_74 d_LogCleaner_record_76 d_LogCleaner_record_79 (Nat.le_of_ble_eq_true rfl) (Nat.le_of_ble_eq_true rfl) (Nat.le_of_ble_eq_true rfl) (Nat.le_of_ble_eq_true rfl) (Nat.le_of_ble_eq_true rfl) (Nat.le_of_ble_eq_true rfl)
        · replace hw := hw.2 cq
          exact xthrow C0 (cls := "java/lang/IllegalStateException") (text := "the draft has 100 records") (names := ["java/lang/RuntimeException", "java/lang/Exception"]) (ik := 50) (is := 52) (ic := 54) (by decide) (by decide) k_LogCleaner_50c g_ini_java_lang_IllegalStateException (by decide) at_LogCleaner_54 at_LogCleaner_54_ok (by decide) (by decide) hw hP hS hl d_LogCleaner_record_45 d_LogCleaner_record_48 d_LogCleaner_record_49 d_LogCleaner_record_51 d_LogCleaner_record_54 (Nat.le_of_ble_eq_true rfl) (Nat.le_of_ble_eq_true rfl) (Nat.le_of_ble_eq_true rfl) (Nat.le_of_ble_eq_true rfl) (Nat.le_of_ble_eq_true rfl) (Nat.le_of_ble_eq_true rfl)
      · replace hw := hw.2 cq
        exact xthrow C0 (cls := "java/lang/IllegalArgumentException") (text := "time is below 0") (names := ["java/lang/RuntimeException", "java/lang/Exception"]) (ik := 41) (is := 48) (ic := 45) (by decide) (by decide) k_LogCleaner_41c g_ini_java_lang_IllegalArgumentException (by decide) at_LogCleaner_45 at_LogCleaner_45_ok (by decide) (by decide) hw hP hS hl d_LogCleaner_record_26 d_LogCleaner_record_29 d_LogCleaner_record_30 d_LogCleaner_record_32 d_LogCleaner_record_35 (Nat.le_of_ble_eq_true rfl) (Nat.le_of_ble_eq_true rfl) (Nat.le_of_ble_eq_true rfl) (Nat.le_of_ble_eq_true rfl) (Nat.le_of_ble_eq_true rfl) (Nat.le_of_ble_eq_true rfl)
    · replace hw := hw.2 cq
      exact sb_LogCleaner_record_11 C0  h _ _ _ hw hP hS (lv_sub hl [] rfl)

theorem d_LogCleaner_latestWithKey_0 : decode b_LogCleaner_latestWithKey 0 = .ok (.aload_n 0, 1) := by decide +kernel
theorem d_LogCleaner_latestWithKey_1 : decode b_LogCleaner_latestWithKey 1 = .ok (.getfield 15, 3) := by decide +kernel
theorem d_LogCleaner_latestWithKey_4 : decode b_LogCleaner_latestWithKey 4 = .ok (.iconst 1, 1) := by decide +kernel
theorem d_LogCleaner_latestWithKey_5 : decode b_LogCleaner_latestWithKey 5 = .ok (.isub, 1) := by decide +kernel
theorem d_LogCleaner_latestWithKey_6 : decode b_LogCleaner_latestWithKey 6 = .ok (.istore 4, 2) := by decide +kernel
theorem d_LogCleaner_latestWithKey_8 : decode b_LogCleaner_latestWithKey 8 = .ok (.iload 4, 2) := by decide +kernel
theorem d_LogCleaner_latestWithKey_10 : decode b_LogCleaner_latestWithKey 10 = .ok (.ifCond .lt 31, 3) := by decide +kernel
theorem d_LogCleaner_latestWithKey_13 : decode b_LogCleaner_latestWithKey 13 = .ok (.aload_n 0, 1) := by decide +kernel
theorem d_LogCleaner_latestWithKey_14 : decode b_LogCleaner_latestWithKey 14 = .ok (.getfield 11, 3) := by decide +kernel
theorem d_LogCleaner_latestWithKey_17 : decode b_LogCleaner_latestWithKey 17 = .ok (.iload 4, 2) := by decide +kernel
theorem d_LogCleaner_latestWithKey_19 : decode b_LogCleaner_latestWithKey 19 = .ok (.aaload, 1) := by decide +kernel
theorem d_LogCleaner_latestWithKey_20 : decode b_LogCleaner_latestWithKey 20 = .ok (.lload_n 1, 1) := by decide +kernel
theorem d_LogCleaner_latestWithKey_21 : decode b_LogCleaner_latestWithKey 21 = .ok (.iload_n 3, 1) := by decide +kernel
theorem d_LogCleaner_latestWithKey_22 : decode b_LogCleaner_latestWithKey 22 = .ok (.invokevirtual 177, 3) := by decide +kernel
theorem d_LogCleaner_latestWithKey_25 : decode b_LogCleaner_latestWithKey 25 = .ok (.astore 5, 2) := by decide +kernel
theorem d_LogCleaner_latestWithKey_27 : decode b_LogCleaner_latestWithKey 27 = .ok (.aload 5, 2) := by decide +kernel
theorem d_LogCleaner_latestWithKey_29 : decode b_LogCleaner_latestWithKey 29 = .ok (.ifnull 6, 3) := by decide +kernel
theorem d_LogCleaner_latestWithKey_32 : decode b_LogCleaner_latestWithKey 32 = .ok (.aload 5, 2) := by decide +kernel
theorem d_LogCleaner_latestWithKey_34 : decode b_LogCleaner_latestWithKey 34 = .ok (.areturn, 1) := by decide +kernel
theorem d_LogCleaner_latestWithKey_35 : decode b_LogCleaner_latestWithKey 35 = .ok (.iinc 4 (-1), 3) := by decide +kernel
theorem d_LogCleaner_latestWithKey_38 : decode b_LogCleaner_latestWithKey 38 = .ok (.goto (-30), 3) := by decide +kernel
theorem d_LogCleaner_latestWithKey_41 : decode b_LogCleaner_latestWithKey 41 = .ok (.aconst_null, 1) := by decide +kernel
theorem d_LogCleaner_latestWithKey_42 : decode b_LogCleaner_latestWithKey 42 = .ok (.areturn, 1) := by decide +kernel
def rm_LogCleaner_latestWithKey : Room := { frames := 1, cells := 0, slots := 0, locals := 25 }
def ws_LogCleaner_latestWithKey : List Cond := Cond.code y_LogCleaner_latestWithKey b_LogCleaner_latestWithKey 6 (some (.object "LogCleaner$Entry")) :: TB
set_option maxHeartbeats 4000000 in
set_option maxRecDepth 100000 in
theorem sl_LogCleaner_latestWithKey_8 {p : Program} {l : Launch} {e : Env} {s : State} {m : MethodId} {args : Array Value} {below : List Frame} {meth : Method} {c : Code} {D : va_G} {d : Nat → ClassId} {A : Nat → Prop} {h0 : xw} {Q : Option Nat → xw → Prop} (C0 : xctx p s m args meth c b_LogCleaner_latestWithKey 6 (some (.object "LogCleaner$Entry")) R_LogCleaner D d A True) : ∀ (n : Nat) (x : Nat × Int64 × Int32 × Int32) (h : xw) (H : Heap) (locs : List Loc) (ls : Array Slot), xloop (fun (k : Nat × Int64 × Int32 × Int32 → xw → Prop) (x : Nat × Int64 × Int32 × Int32) (h : xw) => wc_LogCleaner_latestWithKey_8 d Q (fun y0 y1 y3 y4 h => k (y0, y1, y3, y4) h) x.1 x.2.1 x.2.2.1 x.2.2.2 h) n x h → xR sgX h0 D A h H → va_S A s.heap H locs → lv_has ls 6 [(0, .ref x.1), (1, .long x.2.1), (3, .int x.2.2.1), (4, .int x.2.2.2)] → W p l e rm_LogCleaner_latestWithKey s m args below meth c H locs 0 0 (MQ below (va_Qq (fun r u => Q r u ∧ xfr sgX h0 u) (xB D d A) A) args s 0 0 A) (F0 m 8 ls []) := by
  obtain ⟨hx, hb, hr, hml, hown, htb, hK, hA, hNB, hlocks, hXT⟩ := id C0
  intro n
  induction n with
  | zero => intro x h H locs ls hw; exact hw.elim
  | succ n ih =>
    rintro ⟨x0, x1, x3, x4⟩ h H locs ls hw hP hS hl
    replace hw : wc_LogCleaner_latestWithKey_8 d Q (fun y0 y1 y3 y4 h => xloop (fun (k : Nat × Int64 × Int32 × Int32 → xw → Prop) (x : Nat × Int64 × Int32 × Int32) (h : xw) => wc_LogCleaner_latestWithKey_8 d Q (fun y0 y1 y3 y4 h => k (y0, y1, y3, y4) h) x.1 x.2.1 x.2.2.1 x.2.2.2 h) n (y0, y1, y3, y4) h) x0 x1 x3 x4 h := hw
    have hk8 := fun (x0 : Nat) (x1 : Int64) (x3 : Int32) (x4 : Int32) => ih (x0, x1, x3, x4)
    refine lv_iload hx hb d_LogCleaner_latestWithKey_8 (lv_at hl 3 rfl) ?_
    refine lv_if_lt (tgt := 41) hx hb d_LogCleaner_latestWithKey_10 (by decide) (fun cq => ?_) (fun cq => ?_)
    · replace hw := hw.1 cq
      refine xv_null hx hb d_LogCleaner_latestWithKey_41 ?_
      refine W.widen (k := 0) (n := 0) (Nat.le_of_ble_eq_true rfl) (Nat.le_of_ble_eq_true rfl) ?_
      exact xretA C0 hw hP hS d_LogCleaner_latestWithKey_42
    · replace hw := hw.2 cq
      refine lv_aload_n hx hb d_LogCleaner_latestWithKey_13 rfl (lv_at hl 0 rfl) ?_
      refine xgetA hx hb htb i_LogCleaner hown hK hP (ci := 0) rfl 0 (by decide) (htb _ k_LogCleaner_11) (fun _ h9 => h9) hw d_LogCleaner_latestWithKey_14 (fun r2 hw => ?_)
      refine lv_iload hx hb d_LogCleaner_latestWithKey_17 (lv_at hl 3 rfl) ?_
      obtain ⟨p3, hpe, hw⟩ := hw
      revert hw
      revert hl
      subst hpe
      intro hl hw
      replace hl : lv_has ls 6 [(0, .ref x0), (1, .long x1), (3, .int x3), (4, .int x4)] := hl
      refine xldq hx hb hK hP 1 rfl hw d_LogCleaner_latestWithKey_19 (fun r4 hw => ?_)
      refine lv_lload_n hx hb d_LogCleaner_latestWithKey_20 rfl (lv_at hl 1 rfl) ?_
      refine lv_iload_n hx hb d_LogCleaner_latestWithKey_21 rfl (lv_at hl 2 rfl) ?_
      obtain ⟨p5, hpe, hw⟩ := hw
      revert hw
      revert hl
      subst hpe
      intro hl hw
      replace hl : lv_has ls 6 [(0, .ref x0), (1, .long x1), (3, .int x3), (4, .int x4)] := hl
      obtain ⟨⟨_, hw0⟩, hw⟩ := hw
      refine xcallq (va_runV (b := p5) (As := [.long x1, .int x3]) (rest := []) ⟨hx, hb, hml, hown, htb⟩ (m_Batch_latestWithKey l D d h _ p5 x1 x3 _ hw) (xcwV 2 htb g_code_Batch_latestWithKey g_ini_Batch k_LogCleaner_177 g_im_Batch_latestWithKey g_sel_Batch_latestWithKey rfl rfl (by decide +kernel) ⟨(Nat.le_of_ble_eq_true rfl), (Nat.le_of_ble_eq_true rfl)⟩) (xpreV hP hK hNB (ci := 1) rfl hw0) rfl rfl hl.1 rfl (lv_room (Nat.le_of_ble_eq_true rfl)) d_LogCleaner_latestWithKey_22 ⟨(Nat.le_of_ble_eq_true rfl), (Nat.le_of_ble_eq_true rfl)⟩) hP hS hA (fun r7 h6 H locs hw hP hS => ?_)
      refine W.widen (k := 0) (n := 0) (Nat.le_of_ble_eq_true rfl) (Nat.le_of_ble_eq_true rfl) ?_
      refine xv_astore (lv' := [(5, va_rf r7), (0, .ref x0), (1, .long x1), (3, .int x3), (4, .int x4)]) hx hb d_LogCleaner_latestWithKey_25 hl (by decide) rfl (fun ls hl => ?_)
      refine xv_aload hx hb d_LogCleaner_latestWithKey_27 (lv_at hl 0 rfl) ?_
      revert hw
      revert hl
      rcases r7 with _ | p8
      · intro hl hw
        replace hw := hw.1 rfl
        refine lv_ifnullN (tgt := 35) hx hb d_LogCleaner_latestWithKey_29 (by decide) ?_
        refine lv_iinc (v := x4 + (-1)) (lv' := [(4, .int (x4 + (-1))), (5, va_rf none), (0, .ref x0), (1, .long x1), (3, .int x3)]) hx hb d_LogCleaner_latestWithKey_35 hl (k := 4) rfl rfl (by decide) rfl (fun ls hl => ?_)
        refine lv_goto (tgt := 8) hx hb d_LogCleaner_latestWithKey_38 (by decide) ?_
        exact hk8 x0 x1 x3 (x4 + (-1)) h6 _ _ _ hw hP hS (lv_sub hl [2, 3, 4, 0] rfl)
      · intro hl hw
        replace hw := hw.2 p8 rfl
        refine lv_ifnull hx hb d_LogCleaner_latestWithKey_29 ?_
        refine lv_aload hx hb d_LogCleaner_latestWithKey_32 (lv_at hl 0 rfl) ?_
        refine W.widen (k := 0) (n := 0) (Nat.le_of_ble_eq_true rfl) (Nat.le_of_ble_eq_true rfl) ?_
        exact xretA C0 hw hP hS d_LogCleaner_latestWithKey_34

set_option maxHeartbeats 4000000 in
set_option maxRecDepth 100000 in
theorem m_LogCleaner_latestWithKey (l : Launch) (D : va_G) (d : Nat → ClassId) (h : xw) (sz : Nat) (a0 : Nat) (a1 : Int64) (a3 : Int32) (Q : Option Nat → xw → Prop) (hw : wp_LogCleaner_latestWithKey d h a0 a1 a3 Q) : Met l y_LogCleaner_latestWithKey ws_LogCleaner_latestWithKey rm_LogCleaner_latestWithKey (xPre D d h [.ref a0, .long a1, .int a3] sz) (va_Qq (fun r u => Q r u ∧ xfr sgX h u) (xB D d (xA h sz)) (xA h sz)) 0 0 (xA h sz) := by
  refine Met.ofW (cc := b_LogCleaner_latestWithKey) (maxL := 6) (ret := (some (.object "LogCleaner$Entry"))) (by decide) rfl ?_
  intro p e s m args below meth c s₁ B hml hv
  obtain ⟨rfl, hsz, hP0, hK, hNB⟩ := hv
  have hts := atoms_spec (ws := ws_LogCleaner_latestWithKey) B.pre
  have htb := fun w (hw9 : w ∈ TB) => hts w (List.mem_cons_of_mem _ hw9)
  have hown : s.vm.findClass R_LogCleaner = some m.cls := findClass_of_methodNamed B.named
  subst hsz
  obtain ⟨A, hAe⟩ : ∃ A, A = xA h s.heap.size := ⟨_, rfl⟩
  rw [← hAe]
  have hP : xR sgX h D A h s.heap := ⟨by rw [hAe]; exact hP0.self, xfr.rf⟩
  have hA : ∀ q, s.heap.size ≤ q → A q := fun q hq => by rw [hAe]; exact Or.inr hq
  have hS : va_S A s.heap s.heap [] := va_S.rf
  have C0 : xctx p s m ([.ref a0, .long a1, .int a3] : List Value).toArray meth c b_LogCleaner_latestWithKey 6 (some (.object "LogCleaner$Entry")) R_LogCleaner D d A True := ⟨B.exec, B.bytes, B.returns, hml, hown, htb, hK, hA, hNB, B.notSynchronized, trivial⟩
  obtain ⟨hx, hb, hr, -, -, -, -, -, -, hlocks, hXT⟩ := id C0
  have hl := lv_entry ([.ref a0, .long a1, .int a3] : List Value) (n := 6) (Nat.le_of_ble_eq_true rfl)
  rw [lg_entry_eq]
  generalize (lg_sl ([.ref a0, .long a1, .int a3] : List Value) ++ List.replicate (6 - (lg_sl ([.ref a0, .long a1, .int a3] : List Value)).length) Slot.unset).toArray = ls at hl ⊢
  have hl : lv_has ls 6 [(0, .ref a0), (1, .long a1), (3, .int a3)] := hl
  refine lv_aload_n hx hb d_LogCleaner_latestWithKey_0 rfl (lv_at hl 0 rfl) ?_
  refine xgetI hx hb htb i_LogCleaner hown hK hP (ci := 0) rfl 1 (by decide) (htb _ k_LogCleaner_15) (fun _ h9 => h9) hw d_LogCleaner_latestWithKey_1 (fun v1 hw => ?_)
  refine lv_iconst (v := 1) hx hb d_LogCleaner_latestWithKey_4 (by decide) ?_
  refine lv_isub hx hb d_LogCleaner_latestWithKey_5 ?_
  refine lv_istore (lv' := [(4, .int (v1 - 1)), (0, .ref a0), (1, .long a1), (3, .int a3)]) hx hb d_LogCleaner_latestWithKey_6 hl (by decide) rfl (fun ls hl => ?_)
  obtain ⟨n, hw⟩ := hw
  exact sl_LogCleaner_latestWithKey_8 C0 n (a0, a1, a3, (v1 - 1)) h _ _ _ hw hP hS (lv_sub hl [1, 2, 3, 0] rfl)

theorem d_LogCleaner_markSuperseded_0 : decode b_LogCleaner_markSuperseded 0 = .ok (.aload_n 1, 1) := by decide +kernel
theorem d_LogCleaner_markSuperseded_1 : decode b_LogCleaner_markSuperseded 1 = .ok (.invokevirtual 170, 3) := by decide +kernel
theorem d_LogCleaner_markSuperseded_4 : decode b_LogCleaner_markSuperseded 4 = .ok (.ifCond .ne 4, 3) := by decide +kernel
theorem d_LogCleaner_markSuperseded_7 : decode b_LogCleaner_markSuperseded 7 = .ok (.return_, 1) := by decide +kernel
theorem d_LogCleaner_markSuperseded_8 : decode b_LogCleaner_markSuperseded 8 = .ok (.aload_n 0, 1) := by decide +kernel
theorem d_LogCleaner_markSuperseded_9 : decode b_LogCleaner_markSuperseded 9 = .ok (.aload_n 1, 1) := by decide +kernel
theorem d_LogCleaner_markSuperseded_10 : decode b_LogCleaner_markSuperseded 10 = .ok (.getfield 143, 3) := by decide +kernel
theorem d_LogCleaner_markSuperseded_13 : decode b_LogCleaner_markSuperseded 13 = .ok (.aload_n 1, 1) := by decide +kernel
theorem d_LogCleaner_markSuperseded_14 : decode b_LogCleaner_markSuperseded 14 = .ok (.getfield 140, 3) := by decide +kernel
theorem d_LogCleaner_markSuperseded_17 : decode b_LogCleaner_markSuperseded 17 = .ok (.invokevirtual 159, 3) := by decide +kernel
theorem d_LogCleaner_markSuperseded_20 : decode b_LogCleaner_markSuperseded 20 = .ok (.astore_n 2, 1) := by decide +kernel
theorem d_LogCleaner_markSuperseded_21 : decode b_LogCleaner_markSuperseded 21 = .ok (.aload_n 2, 1) := by decide +kernel
theorem d_LogCleaner_markSuperseded_22 : decode b_LogCleaner_markSuperseded 22 = .ok (.ifnull 8, 3) := by decide +kernel
theorem d_LogCleaner_markSuperseded_25 : decode b_LogCleaner_markSuperseded 25 = .ok (.aload_n 2, 1) := by decide +kernel
theorem d_LogCleaner_markSuperseded_26 : decode b_LogCleaner_markSuperseded 26 = .ok (.iconst 1, 1) := by decide +kernel
theorem d_LogCleaner_markSuperseded_27 : decode b_LogCleaner_markSuperseded 27 = .ok (.putfield 174, 3) := by decide +kernel
theorem d_LogCleaner_markSuperseded_30 : decode b_LogCleaner_markSuperseded 30 = .ok (.return_, 1) := by decide +kernel
def rm_LogCleaner_markSuperseded : Room := { frames := 2, cells := 0, slots := 0, locals := 50 }
def ws_LogCleaner_markSuperseded : List Cond := Cond.code y_LogCleaner_markSuperseded b_LogCleaner_markSuperseded 3 none :: TB
set_option maxHeartbeats 4000000 in
set_option maxRecDepth 100000 in
theorem sb_LogCleaner_markSuperseded_30 {p : Program} {l : Launch} {e : Env} {s : State} {m : MethodId} {args : Array Value} {below : List Frame} {meth : Method} {c : Code} {D : va_G} {d : Nat → ClassId} {A : Nat → Prop} {h0 : xw} {Q : xw → Prop} (C0 : xctx p s m args meth c b_LogCleaner_markSuperseded 3 none R_LogCleaner D d A True) : ∀ (h : xw) (H : Heap) (locs : List Loc) (ls : Array Slot), wb_LogCleaner_markSuperseded_30 d Q  h → xR sgX h0 D A h H → va_S A s.heap H locs → lv_has ls 3 [] → W p l e rm_LogCleaner_markSuperseded s m args below meth c H locs 0 0 (MQ below (va_Qv (fun u => Q u ∧ xfr sgX h0 u) (xB D d A) A) args s 0 0 A) (F0 m 30 ls []) := by
  obtain ⟨hx, hb, hr, hml, hown, htb, hK, hA, hNB, hlocks, hXT⟩ := id C0
  intro  h H locs ls hw hP hS hl
  refine W.widen (k := 0) (n := 0) (Nat.le_of_ble_eq_true rfl) (Nat.le_of_ble_eq_true rfl) ?_
  exact xretV C0 hw hP hS d_LogCleaner_markSuperseded_30

set_option maxHeartbeats 4000000 in
set_option maxRecDepth 100000 in
theorem m_LogCleaner_markSuperseded (l : Launch) (D : va_G) (d : Nat → ClassId) (h : xw) (sz : Nat) (a0 : Nat) (a1 : Option Nat) (Q : xw → Prop) (hw : wp_LogCleaner_markSuperseded d h a0 a1 Q) : Met l y_LogCleaner_markSuperseded ws_LogCleaner_markSuperseded rm_LogCleaner_markSuperseded (xPre D d h [.ref a0, va_rf a1] sz) (va_Qv (fun u => Q u ∧ xfr sgX h u) (xB D d (xA h sz)) (xA h sz)) 0 0 (xA h sz) := by
  refine Met.ofW (cc := b_LogCleaner_markSuperseded) (maxL := 3) (ret := none) (by decide) rfl ?_
  intro p e s m args below meth c s₁ B hml hv
  obtain ⟨rfl, hsz, hP0, hK, hNB⟩ := hv
  have hts := atoms_spec (ws := ws_LogCleaner_markSuperseded) B.pre
  have htb := fun w (hw9 : w ∈ TB) => hts w (List.mem_cons_of_mem _ hw9)
  have hown : s.vm.findClass R_LogCleaner = some m.cls := findClass_of_methodNamed B.named
  subst hsz
  obtain ⟨A, hAe⟩ : ∃ A, A = xA h s.heap.size := ⟨_, rfl⟩
  rw [← hAe]
  have hP : xR sgX h D A h s.heap := ⟨by rw [hAe]; exact hP0.self, xfr.rf⟩
  have hA : ∀ q, s.heap.size ≤ q → A q := fun q hq => by rw [hAe]; exact Or.inr hq
  have hS : va_S A s.heap s.heap [] := va_S.rf
  have C0 : xctx p s m ([.ref a0, va_rf a1] : List Value).toArray meth c b_LogCleaner_markSuperseded 3 none R_LogCleaner D d A True := ⟨B.exec, B.bytes, B.returns, hml, hown, htb, hK, hA, hNB, B.notSynchronized, trivial⟩
  obtain ⟨hx, hb, hr, -, -, -, -, -, -, hlocks, hXT⟩ := id C0
  have hl := lv_entry ([.ref a0, va_rf a1] : List Value) (n := 3) (by cases a1 <;> exact (Nat.le_of_ble_eq_true rfl))
  rw [lg_entry_eq]
  generalize (lg_sl ([.ref a0, va_rf a1] : List Value) ++ List.replicate (3 - (lg_sl ([.ref a0, va_rf a1] : List Value)).length) Slot.unset).toArray = ls at hl ⊢
  have hle : lv_args 0 ([.ref a0, va_rf a1] : List Value) = [(0, .ref a0), (1, va_rf a1)] := by cases a1 <;> rfl
  rw [hle] at hl
  refine xv_aload_n hx hb d_LogCleaner_markSuperseded_0 rfl (lv_at hl 1 rfl) ?_
  obtain ⟨p1, hpe, hw⟩ := hw
  revert hw
  revert hl
  subst hpe
  intro hl hw
  replace hl : lv_has ls 3 [(0, .ref a0), (1, .ref p1)] := hl
  obtain ⟨⟨_, hw0⟩, hw⟩ := hw
  refine xcalli (va_runV (b := p1) (As := []) (rest := []) ⟨hx, hb, hml, hown, htb⟩ (m_Entry_hasKey l D d h _ p1 _ hw) (xcwV 0 htb g_code_Entry_hasKey g_ini_Entry k_LogCleaner_170 g_im_Entry_hasKey g_sel_Entry_hasKey rfl rfl (by decide +kernel) ⟨(Nat.le_of_ble_eq_true rfl), (Nat.le_of_ble_eq_true rfl)⟩) (xpreV hP hK hNB (ci := 2) rfl hw0) rfl rfl hl.1 rfl (lv_room (Nat.le_of_ble_eq_true rfl)) d_LogCleaner_markSuperseded_1 ⟨(Nat.le_of_ble_eq_true rfl), (Nat.le_of_ble_eq_true rfl)⟩) hP hS hA (fun r3 h2 H locs hw hP hS => ?_)
  refine W.widen (k := 0) (n := 0) (Nat.le_of_ble_eq_true rfl) (Nat.le_of_ble_eq_true rfl) ?_
  refine lv_if_ne (tgt := 8) hx hb d_LogCleaner_markSuperseded_4 (by decide) (fun cq => ?_) (fun cq => ?_)
  · replace hw := hw.2 cq
    refine lv_aload_n hx hb d_LogCleaner_markSuperseded_8 rfl (lv_at hl 0 rfl) ?_
    refine lv_aload_n hx hb d_LogCleaner_markSuperseded_9 rfl (lv_at hl 1 rfl) ?_
    refine xgetL hx hb htb i_Entry hown hK hP (ci := 2) rfl 0 (by decide) (htb _ k_LogCleaner_143) (fun _ h9 => h9) hw d_LogCleaner_markSuperseded_10 (fun v4 hw => ?_)
    refine lv_aload_n hx hb d_LogCleaner_markSuperseded_13 rfl (lv_at hl 1 rfl) ?_
    refine xgetI hx hb htb i_Entry hown hK hP (ci := 2) rfl 1 (by decide) (htb _ k_LogCleaner_140) (fun _ h9 => h9) hw d_LogCleaner_markSuperseded_14 (fun v5 hw => ?_)
    obtain ⟨⟨_, hw0⟩, hw⟩ := hw
    refine xcallq (va_runV (b := a0) (As := [.long v4, .int v5]) (rest := []) ⟨hx, hb, hml, hown, htb⟩ (m_LogCleaner_latestWithKey l D d h2 _ a0 v4 v5 _ hw) (xcwV 2 htb g_code_LogCleaner_latestWithKey g_ini_LogCleaner k_LogCleaner_159 g_im_LogCleaner_latestWithKey g_sel_LogCleaner_latestWithKey rfl rfl (by decide +kernel) ⟨(Nat.le_of_ble_eq_true rfl), (Nat.le_of_ble_eq_true rfl)⟩) (xpreV hP hK hNB (ci := 0) rfl hw0) rfl rfl hl.1 rfl (lv_room (Nat.le_of_ble_eq_true rfl)) d_LogCleaner_markSuperseded_17 ⟨(Nat.le_of_ble_eq_true rfl), (Nat.le_of_ble_eq_true rfl)⟩) hP hS hA (fun r7 h6 H locs hw hP hS => ?_)
    refine W.widen (k := 0) (n := 0) (Nat.le_of_ble_eq_true rfl) (Nat.le_of_ble_eq_true rfl) ?_
    refine xv_astore_n (lv' := [(2, va_rf r7), (0, .ref a0), (1, .ref p1)]) hx hb d_LogCleaner_markSuperseded_20 rfl hl (by decide) rfl (fun ls hl => ?_)
    refine xv_aload_n hx hb d_LogCleaner_markSuperseded_21 rfl (lv_at hl 0 rfl) ?_
    revert hw
    revert hl
    rcases r7 with _ | p8
    · intro hl hw
      replace hw := hw.1 rfl
      refine lv_ifnullN (tgt := 30) hx hb d_LogCleaner_markSuperseded_22 (by decide) ?_
      exact sb_LogCleaner_markSuperseded_30 C0  h6 _ _ _ hw hP hS (lv_sub hl [] rfl)
    · intro hl hw
      replace hw := hw.2 p8 rfl
      refine lv_ifnull hx hb d_LogCleaner_markSuperseded_22 ?_
      refine lv_aload_n hx hb d_LogCleaner_markSuperseded_25 rfl (lv_at hl 0 rfl) ?_
      refine lv_iconst (v := 1) hx hb d_LogCleaner_markSuperseded_26 (by decide) ?_
      refine xputZ hx hb htb i_Entry t_Entry t_Entry_ok n_Entry hown hK hP hS (ci := 2) rfl (fun _ => rfl) 6 (by decide) (htb _ k_LogCleaner_174) (fun _ h9 => h9) rfl (by decide +kernel) hw d_LogCleaner_markSuperseded_27 (fun h9 H locs hw hP hS => ?_)
      exact sb_LogCleaner_markSuperseded_30 C0  h9 _ _ _ hw hP hS (lv_sub hl [] rfl)
  · replace hw := hw.1 cq
    refine W.widen (k := 0) (n := 0) (Nat.le_of_ble_eq_true rfl) (Nat.le_of_ble_eq_true rfl) ?_
    exact xretV C0 hw hP hS d_LogCleaner_markSuperseded_7

theorem d_LogCleaner_moveDraftInto_0 : decode b_LogCleaner_moveDraftInto 0 = .ok (.iconst 0, 1) := by decide +kernel
theorem d_LogCleaner_moveDraftInto_1 : decode b_LogCleaner_moveDraftInto 1 = .ok (.istore_n 2, 1) := by decide +kernel
theorem d_LogCleaner_moveDraftInto_2 : decode b_LogCleaner_moveDraftInto 2 = .ok (.iload_n 2, 1) := by decide +kernel
theorem d_LogCleaner_moveDraftInto_3 : decode b_LogCleaner_moveDraftInto 3 = .ok (.aload_n 0, 1) := by decide +kernel
theorem d_LogCleaner_moveDraftInto_4 : decode b_LogCleaner_moveDraftInto 4 = .ok (.getfield 38, 3) := by decide +kernel
theorem d_LogCleaner_moveDraftInto_7 : decode b_LogCleaner_moveDraftInto 7 = .ok (.if_icmp .ge 51, 3) := by decide +kernel
theorem d_LogCleaner_moveDraftInto_10 : decode b_LogCleaner_moveDraftInto 10 = .ok (.aload_n 0, 1) := by decide +kernel
theorem d_LogCleaner_moveDraftInto_11 : decode b_LogCleaner_moveDraftInto 11 = .ok (.getfield 34, 3) := by decide +kernel
theorem d_LogCleaner_moveDraftInto_14 : decode b_LogCleaner_moveDraftInto 14 = .ok (.iload_n 2, 1) := by decide +kernel
theorem d_LogCleaner_moveDraftInto_15 : decode b_LogCleaner_moveDraftInto 15 = .ok (.aaload, 1) := by decide +kernel
theorem d_LogCleaner_moveDraftInto_16 : decode b_LogCleaner_moveDraftInto 16 = .ok (.astore_n 3, 1) := by decide +kernel
theorem d_LogCleaner_moveDraftInto_17 : decode b_LogCleaner_moveDraftInto 17 = .ok (.aload_n 0, 1) := by decide +kernel
theorem d_LogCleaner_moveDraftInto_18 : decode b_LogCleaner_moveDraftInto 18 = .ok (.aload_n 3, 1) := by decide +kernel
theorem d_LogCleaner_moveDraftInto_19 : decode b_LogCleaner_moveDraftInto 19 = .ok (.invokevirtual 163, 3) := by decide +kernel
theorem d_LogCleaner_moveDraftInto_22 : decode b_LogCleaner_moveDraftInto 22 = .ok (.aload_n 3, 1) := by decide +kernel
theorem d_LogCleaner_moveDraftInto_23 : decode b_LogCleaner_moveDraftInto 23 = .ok (.aload_n 0, 1) := by decide +kernel
theorem d_LogCleaner_moveDraftInto_24 : decode b_LogCleaner_moveDraftInto 24 = .ok (.getfield 22, 3) := by decide +kernel
theorem d_LogCleaner_moveDraftInto_27 : decode b_LogCleaner_moveDraftInto 27 = .ok (.putfield 137, 3) := by decide +kernel
theorem d_LogCleaner_moveDraftInto_30 : decode b_LogCleaner_moveDraftInto 30 = .ok (.aload_n 0, 1) := by decide +kernel
theorem d_LogCleaner_moveDraftInto_31 : decode b_LogCleaner_moveDraftInto 31 = .ok (.dup, 1) := by decide +kernel
theorem d_LogCleaner_moveDraftInto_32 : decode b_LogCleaner_moveDraftInto 32 = .ok (.getfield 22, 3) := by decide +kernel
theorem d_LogCleaner_moveDraftInto_35 : decode b_LogCleaner_moveDraftInto 35 = .ok (.iconst 1, 1) := by decide +kernel
theorem d_LogCleaner_moveDraftInto_36 : decode b_LogCleaner_moveDraftInto 36 = .ok (.iadd, 1) := by decide +kernel
theorem d_LogCleaner_moveDraftInto_37 : decode b_LogCleaner_moveDraftInto 37 = .ok (.putfield 22, 3) := by decide +kernel
theorem d_LogCleaner_moveDraftInto_40 : decode b_LogCleaner_moveDraftInto 40 = .ok (.aload_n 1, 1) := by decide +kernel
theorem d_LogCleaner_moveDraftInto_41 : decode b_LogCleaner_moveDraftInto 41 = .ok (.aload_n 3, 1) := by decide +kernel
theorem d_LogCleaner_moveDraftInto_42 : decode b_LogCleaner_moveDraftInto 42 = .ok (.invokevirtual 167, 3) := by decide +kernel
theorem d_LogCleaner_moveDraftInto_45 : decode b_LogCleaner_moveDraftInto 45 = .ok (.aload_n 0, 1) := by decide +kernel
theorem d_LogCleaner_moveDraftInto_46 : decode b_LogCleaner_moveDraftInto 46 = .ok (.getfield 34, 3) := by decide +kernel
theorem d_LogCleaner_moveDraftInto_49 : decode b_LogCleaner_moveDraftInto 49 = .ok (.iload_n 2, 1) := by decide +kernel
theorem d_LogCleaner_moveDraftInto_50 : decode b_LogCleaner_moveDraftInto 50 = .ok (.aconst_null, 1) := by decide +kernel
theorem d_LogCleaner_moveDraftInto_51 : decode b_LogCleaner_moveDraftInto 51 = .ok (.aastore, 1) := by decide +kernel
theorem d_LogCleaner_moveDraftInto_52 : decode b_LogCleaner_moveDraftInto 52 = .ok (.iinc 2 1, 3) := by decide +kernel
theorem d_LogCleaner_moveDraftInto_55 : decode b_LogCleaner_moveDraftInto 55 = .ok (.goto (-53), 3) := by decide +kernel
theorem d_LogCleaner_moveDraftInto_58 : decode b_LogCleaner_moveDraftInto 58 = .ok (.aload_n 0, 1) := by decide +kernel
theorem d_LogCleaner_moveDraftInto_59 : decode b_LogCleaner_moveDraftInto 59 = .ok (.dup, 1) := by decide +kernel
theorem d_LogCleaner_moveDraftInto_60 : decode b_LogCleaner_moveDraftInto 60 = .ok (.getfield 19, 3) := by decide +kernel
theorem d_LogCleaner_moveDraftInto_63 : decode b_LogCleaner_moveDraftInto 63 = .ok (.aload_n 0, 1) := by decide +kernel
theorem d_LogCleaner_moveDraftInto_64 : decode b_LogCleaner_moveDraftInto 64 = .ok (.getfield 38, 3) := by decide +kernel
theorem d_LogCleaner_moveDraftInto_67 : decode b_LogCleaner_moveDraftInto 67 = .ok (.iadd, 1) := by decide +kernel
theorem d_LogCleaner_moveDraftInto_68 : decode b_LogCleaner_moveDraftInto 68 = .ok (.putfield 19, 3) := by decide +kernel
theorem d_LogCleaner_moveDraftInto_71 : decode b_LogCleaner_moveDraftInto 71 = .ok (.aload_n 0, 1) := by decide +kernel
theorem d_LogCleaner_moveDraftInto_72 : decode b_LogCleaner_moveDraftInto 72 = .ok (.iconst 0, 1) := by decide +kernel
theorem d_LogCleaner_moveDraftInto_73 : decode b_LogCleaner_moveDraftInto 73 = .ok (.putfield 38, 3) := by decide +kernel
theorem d_LogCleaner_moveDraftInto_76 : decode b_LogCleaner_moveDraftInto 76 = .ok (.return_, 1) := by decide +kernel
def rm_LogCleaner_moveDraftInto : Room := { frames := 3, cells := 0, slots := 0, locals := 72 }
def ws_LogCleaner_moveDraftInto : List Cond := Cond.code y_LogCleaner_moveDraftInto b_LogCleaner_moveDraftInto 4 none :: TB
set_option maxHeartbeats 4000000 in
set_option maxRecDepth 100000 in
theorem sl_LogCleaner_moveDraftInto_2 {p : Program} {l : Launch} {e : Env} {s : State} {m : MethodId} {args : Array Value} {below : List Frame} {meth : Method} {c : Code} {D : va_G} {d : Nat → ClassId} {A : Nat → Prop} {h0 : xw} {Q : xw → Prop} (C0 : xctx p s m args meth c b_LogCleaner_moveDraftInto 4 none R_LogCleaner D d A True) : ∀ (n : Nat) (x : Nat × Option Nat × Int32) (h : xw) (H : Heap) (locs : List Loc) (ls : Array Slot), xloop (fun (k : Nat × Option Nat × Int32 → xw → Prop) (x : Nat × Option Nat × Int32) (h : xw) => wc_LogCleaner_moveDraftInto_2 d Q (fun y0 y1 y2 h => k (y0, y1, y2) h) x.1 x.2.1 x.2.2 h) n x h → xR sgX h0 D A h H → va_S A s.heap H locs → lv_has ls 4 [(0, .ref x.1), (1, va_rf x.2.1), (2, .int x.2.2)] → W p l e rm_LogCleaner_moveDraftInto s m args below meth c H locs 0 0 (MQ below (va_Qv (fun u => Q u ∧ xfr sgX h0 u) (xB D d A) A) args s 0 0 A) (F0 m 2 ls []) := by
  obtain ⟨hx, hb, hr, hml, hown, htb, hK, hA, hNB, hlocks, hXT⟩ := id C0
  intro n
  induction n with
  | zero => intro x h H locs ls hw; exact hw.elim
  | succ n ih =>
    rintro ⟨x0, x1, x2⟩ h H locs ls hw hP hS hl
    replace hw : wc_LogCleaner_moveDraftInto_2 d Q (fun y0 y1 y2 h => xloop (fun (k : Nat × Option Nat × Int32 → xw → Prop) (x : Nat × Option Nat × Int32) (h : xw) => wc_LogCleaner_moveDraftInto_2 d Q (fun y0 y1 y2 h => k (y0, y1, y2) h) x.1 x.2.1 x.2.2 h) n (y0, y1, y2) h) x0 x1 x2 h := hw
    have hk2 := fun (x0 : Nat) (x1 : Option Nat) (x2 : Int32) => ih (x0, x1, x2)
    refine lv_iload_n hx hb d_LogCleaner_moveDraftInto_2 rfl (lv_at hl 2 rfl) ?_
    refine lv_aload_n hx hb d_LogCleaner_moveDraftInto_3 rfl (lv_at hl 0 rfl) ?_
    refine xgetI hx hb htb i_LogCleaner hown hK hP (ci := 0) rfl 6 (by decide) (htb _ k_LogCleaner_38) (fun _ h9 => h9) hw d_LogCleaner_moveDraftInto_4 (fun v1 hw => ?_)
    refine lv_icmp_ge (tgt := 58) hx hb d_LogCleaner_moveDraftInto_7 (by decide) (fun cq => ?_) (fun cq => ?_)
    · replace hw := hw.1 cq
      refine lv_aload_n hx hb d_LogCleaner_moveDraftInto_58 rfl (lv_at hl 0 rfl) ?_
      refine lv_dup hx hb d_LogCleaner_moveDraftInto_59 rfl ?_
      refine xgetI hx hb htb i_LogCleaner hown hK hP (ci := 0) rfl 2 (by decide) (htb _ k_LogCleaner_19) (fun _ h9 => h9) hw d_LogCleaner_moveDraftInto_60 (fun v2 hw => ?_)
      refine lv_aload_n hx hb d_LogCleaner_moveDraftInto_63 rfl (lv_at hl 0 rfl) ?_
      refine xgetI hx hb htb i_LogCleaner hown hK hP (ci := 0) rfl 6 (by decide) (htb _ k_LogCleaner_38) (fun _ h9 => h9) hw d_LogCleaner_moveDraftInto_64 (fun v3 hw => ?_)
      refine lv_iadd hx hb d_LogCleaner_moveDraftInto_67 ?_
      refine xputI hx hb htb i_LogCleaner t_LogCleaner t_LogCleaner_ok n_LogCleaner hown hK hP hS (ci := 0) rfl (fun _ => rfl) 2 (by decide) (htb _ k_LogCleaner_19) (fun _ h9 => h9) rfl (by decide +kernel) hw d_LogCleaner_moveDraftInto_68 (fun h4 H locs hw hP hS => ?_)
      refine lv_aload_n hx hb d_LogCleaner_moveDraftInto_71 rfl (lv_at hl 0 rfl) ?_
      refine lv_iconst (v := 0) hx hb d_LogCleaner_moveDraftInto_72 (by decide) ?_
      refine xputI hx hb htb i_LogCleaner t_LogCleaner t_LogCleaner_ok n_LogCleaner hown hK hP hS (ci := 0) rfl (fun _ => rfl) 6 (by decide) (htb _ k_LogCleaner_38) (fun _ h9 => h9) rfl (by decide +kernel) hw d_LogCleaner_moveDraftInto_73 (fun h5 H locs hw hP hS => ?_)
      refine W.widen (k := 0) (n := 0) (Nat.le_of_ble_eq_true rfl) (Nat.le_of_ble_eq_true rfl) ?_
      exact xretV C0 hw hP hS d_LogCleaner_moveDraftInto_76
    · replace hw := hw.2 cq
      refine lv_aload_n hx hb d_LogCleaner_moveDraftInto_10 rfl (lv_at hl 0 rfl) ?_
      refine xgetA hx hb htb i_LogCleaner hown hK hP (ci := 0) rfl 5 (by decide) (htb _ k_LogCleaner_34) (fun _ h9 => h9) hw d_LogCleaner_moveDraftInto_11 (fun r6 hw => ?_)
      refine lv_iload_n hx hb d_LogCleaner_moveDraftInto_14 rfl (lv_at hl 2 rfl) ?_
      obtain ⟨p7, hpe, hw⟩ := hw
      revert hw
      revert hl
      subst hpe
      intro hl hw
      replace hl : lv_has ls 4 [(0, .ref x0), (1, va_rf x1), (2, .int x2)] := hl
      refine xldq hx hb hK hP 0 rfl hw d_LogCleaner_moveDraftInto_15 (fun r8 hw => ?_)
      refine xv_astore_n (lv' := [(3, va_rf r8), (0, .ref x0), (1, va_rf x1), (2, .int x2)]) hx hb d_LogCleaner_moveDraftInto_16 rfl hl (by decide) rfl (fun ls hl => ?_)
      refine lv_aload_n hx hb d_LogCleaner_moveDraftInto_17 rfl (lv_at hl 1 rfl) ?_
      refine xv_aload_n hx hb d_LogCleaner_moveDraftInto_18 rfl (lv_at hl 0 rfl) ?_
      obtain ⟨⟨_, hw0⟩, hw⟩ := hw
      refine xcallv (va_runV (b := x0) (As := [va_rf r8]) (rest := []) ⟨hx, hb, hml, hown, htb⟩ (m_LogCleaner_markSuperseded l D d h _ x0 r8 _ hw) (xcwV 1 htb g_code_LogCleaner_markSuperseded g_ini_LogCleaner k_LogCleaner_163 g_im_LogCleaner_markSuperseded g_sel_LogCleaner_markSuperseded rfl rfl (by decide +kernel) ⟨(Nat.le_of_ble_eq_true rfl), (Nat.le_of_ble_eq_true rfl)⟩) (xpreV hP hK hNB (ci := 0) rfl hw0) rfl rfl hl.1 rfl (lv_room (Nat.le_of_ble_eq_true rfl)) d_LogCleaner_moveDraftInto_19 ⟨(Nat.le_of_ble_eq_true rfl), (Nat.le_of_ble_eq_true rfl)⟩) hP hS hA (fun h9 H locs hw hP hS => ?_)
      refine W.widen (k := 0) (n := 0) (Nat.le_of_ble_eq_true rfl) (Nat.le_of_ble_eq_true rfl) ?_
      refine xv_aload_n hx hb d_LogCleaner_moveDraftInto_22 rfl (lv_at hl 0 rfl) ?_
      refine lv_aload_n hx hb d_LogCleaner_moveDraftInto_23 rfl (lv_at hl 1 rfl) ?_
      refine xgetI hx hb htb i_LogCleaner hown hK hP (ci := 0) rfl 3 (by decide) (htb _ k_LogCleaner_22) (fun _ h9 => h9) hw d_LogCleaner_moveDraftInto_24 (fun v10 hw => ?_)
      obtain ⟨p11, hpe, hw⟩ := hw
      revert hw
      revert hl
      subst hpe
      intro hl hw
      replace hl : lv_has ls 4 [(3, .ref p11), (0, .ref x0), (1, va_rf x1), (2, .int x2)] := hl
      refine xputI hx hb htb i_Entry t_Entry t_Entry_ok n_Entry hown hK hP hS (ci := 2) rfl (fun _ => rfl) 5 (by decide) (htb _ k_LogCleaner_137) (fun _ h9 => h9) rfl (by decide +kernel) hw d_LogCleaner_moveDraftInto_27 (fun h12 H locs hw hP hS => ?_)
      refine lv_aload_n hx hb d_LogCleaner_moveDraftInto_30 rfl (lv_at hl 1 rfl) ?_
      refine lv_dup hx hb d_LogCleaner_moveDraftInto_31 rfl ?_
      refine xgetI hx hb htb i_LogCleaner hown hK hP (ci := 0) rfl 3 (by decide) (htb _ k_LogCleaner_22) (fun _ h9 => h9) hw d_LogCleaner_moveDraftInto_32 (fun v13 hw => ?_)
      refine lv_iconst (v := 1) hx hb d_LogCleaner_moveDraftInto_35 (by decide) ?_
      refine lv_iadd hx hb d_LogCleaner_moveDraftInto_36 ?_
      refine xputI hx hb htb i_LogCleaner t_LogCleaner t_LogCleaner_ok n_LogCleaner hown hK hP hS (ci := 0) rfl (fun _ => rfl) 3 (by decide) (htb _ k_LogCleaner_22) (fun _ h9 => h9) rfl (by decide +kernel) hw d_LogCleaner_moveDraftInto_37 (fun h14 H locs hw hP hS => ?_)
      refine xv_aload_n hx hb d_LogCleaner_moveDraftInto_40 rfl (lv_at hl 2 rfl) ?_
      refine lv_aload_n hx hb d_LogCleaner_moveDraftInto_41 rfl (lv_at hl 0 rfl) ?_
      obtain ⟨p15, hpe, hw⟩ := hw
      revert hw
      revert hl
      subst hpe
      intro hl hw
      replace hl : lv_has ls 4 [(3, .ref p11), (0, .ref x0), (1, .ref p15), (2, .int x2)] := hl
      obtain ⟨⟨_, hw0⟩, hw⟩ := hw
      refine xcallv (va_runV (b := p15) (As := [.ref p11]) (rest := []) ⟨hx, hb, hml, hown, htb⟩ (m_Batch_append l D d h14 _ p15 (some p11) _ hw) (xcwV 1 htb g_code_Batch_append g_ini_Batch k_LogCleaner_167 g_im_Batch_append g_sel_Batch_append rfl rfl (by decide +kernel) ⟨(Nat.le_of_ble_eq_true rfl), (Nat.le_of_ble_eq_true rfl)⟩) (xpreV hP hK hNB (ci := 1) rfl hw0) rfl rfl hl.1 rfl (lv_room (Nat.le_of_ble_eq_true rfl)) d_LogCleaner_moveDraftInto_42 ⟨(Nat.le_of_ble_eq_true rfl), (Nat.le_of_ble_eq_true rfl)⟩) hP hS hA (fun h16 H locs hw hP hS => ?_)
      refine W.widen (k := 0) (n := 0) (Nat.le_of_ble_eq_true rfl) (Nat.le_of_ble_eq_true rfl) ?_
      refine lv_aload_n hx hb d_LogCleaner_moveDraftInto_45 rfl (lv_at hl 1 rfl) ?_
      refine xgetA hx hb htb i_LogCleaner hown hK hP (ci := 0) rfl 5 (by decide) (htb _ k_LogCleaner_34) (fun _ h9 => h9) hw d_LogCleaner_moveDraftInto_46 (fun r17 hw => ?_)
      refine lv_iload_n hx hb d_LogCleaner_moveDraftInto_49 rfl (lv_at hl 3 rfl) ?_
      refine xv_null hx hb d_LogCleaner_moveDraftInto_50 ?_
      obtain ⟨p18, hpe, hw⟩ := hw
      revert hw
      revert hl
      subst hpe
      intro hl hw
      replace hl : lv_has ls 4 [(3, .ref p11), (0, .ref x0), (1, .ref p15), (2, .int x2)] := hl
      refine xstq hx hb hK hP hS 0 rfl (ci := 2) rfl (fun _ _ => rfl) hw d_LogCleaner_moveDraftInto_51 (fun h19 H locs hw hP hS => ?_)
      refine lv_iinc (v := x2 + 1) (lv' := [(2, .int (x2 + 1)), (3, .ref p11), (0, .ref x0), (1, .ref p15)]) hx hb d_LogCleaner_moveDraftInto_52 hl (k := 3) rfl rfl (by decide) rfl (fun ls hl => ?_)
      refine lv_goto (tgt := 2) hx hb d_LogCleaner_moveDraftInto_55 (by decide) ?_
      exact hk2 x0 (some p15) (x2 + 1) h19 _ _ _ hw hP hS (lv_sub hl [2, 3, 0] rfl)

set_option maxHeartbeats 4000000 in
set_option maxRecDepth 100000 in
theorem m_LogCleaner_moveDraftInto (l : Launch) (D : va_G) (d : Nat → ClassId) (h : xw) (sz : Nat) (a0 : Nat) (a1 : Option Nat) (Q : xw → Prop) (hw : wp_LogCleaner_moveDraftInto d h a0 a1 Q) : Met l y_LogCleaner_moveDraftInto ws_LogCleaner_moveDraftInto rm_LogCleaner_moveDraftInto (xPre D d h [.ref a0, va_rf a1] sz) (va_Qv (fun u => Q u ∧ xfr sgX h u) (xB D d (xA h sz)) (xA h sz)) 0 0 (xA h sz) := by
  refine Met.ofW (cc := b_LogCleaner_moveDraftInto) (maxL := 4) (ret := none) (by decide) rfl ?_
  intro p e s m args below meth c s₁ B hml hv
  obtain ⟨rfl, hsz, hP0, hK, hNB⟩ := hv
  have hts := atoms_spec (ws := ws_LogCleaner_moveDraftInto) B.pre
  have htb := fun w (hw9 : w ∈ TB) => hts w (List.mem_cons_of_mem _ hw9)
  have hown : s.vm.findClass R_LogCleaner = some m.cls := findClass_of_methodNamed B.named
  subst hsz
  obtain ⟨A, hAe⟩ : ∃ A, A = xA h s.heap.size := ⟨_, rfl⟩
  rw [← hAe]
  have hP : xR sgX h D A h s.heap := ⟨by rw [hAe]; exact hP0.self, xfr.rf⟩
  have hA : ∀ q, s.heap.size ≤ q → A q := fun q hq => by rw [hAe]; exact Or.inr hq
  have hS : va_S A s.heap s.heap [] := va_S.rf
  have C0 : xctx p s m ([.ref a0, va_rf a1] : List Value).toArray meth c b_LogCleaner_moveDraftInto 4 none R_LogCleaner D d A True := ⟨B.exec, B.bytes, B.returns, hml, hown, htb, hK, hA, hNB, B.notSynchronized, trivial⟩
  obtain ⟨hx, hb, hr, -, -, -, -, -, -, hlocks, hXT⟩ := id C0
  have hl := lv_entry ([.ref a0, va_rf a1] : List Value) (n := 4) (by cases a1 <;> exact (Nat.le_of_ble_eq_true rfl))
  rw [lg_entry_eq]
  generalize (lg_sl ([.ref a0, va_rf a1] : List Value) ++ List.replicate (4 - (lg_sl ([.ref a0, va_rf a1] : List Value)).length) Slot.unset).toArray = ls at hl ⊢
  have hle : lv_args 0 ([.ref a0, va_rf a1] : List Value) = [(0, .ref a0), (1, va_rf a1)] := by cases a1 <;> rfl
  rw [hle] at hl
  refine lv_iconst (v := 0) hx hb d_LogCleaner_moveDraftInto_0 (by decide) ?_
  refine lv_istore_n (lv' := [(2, .int 0), (0, .ref a0), (1, va_rf a1)]) hx hb d_LogCleaner_moveDraftInto_1 rfl hl (by decide) (by cases a1 <;> rfl) (fun ls hl => ?_)
  obtain ⟨n, hw⟩ := hw
  exact sl_LogCleaner_moveDraftInto_2 C0 n (a0, a1, 0) h _ _ _ hw hP hS (lv_sub hl [1, 2, 0] rfl)

theorem d_LogCleaner_close_0 : decode b_LogCleaner_close 0 = .ok (.iload_n 1, 1) := by decide +kernel
theorem d_LogCleaner_close_1 : decode b_LogCleaner_close 1 = .ok (.iconst (-1), 1) := by decide +kernel
theorem d_LogCleaner_close_2 : decode b_LogCleaner_close 2 = .ok (.if_icmp .ge 13, 3) := by decide +kernel
theorem d_LogCleaner_close_5 : decode b_LogCleaner_close 5 = .ok (.new 41, 3) := by decide +kernel
theorem d_LogCleaner_close_8 : decode b_LogCleaner_close 8 = .ok (.dup, 1) := by decide +kernel
theorem d_LogCleaner_close_9 : decode b_LogCleaner_close 9 = .ok (.ldc 64, 2) := by decide +kernel
theorem d_LogCleaner_close_11 : decode b_LogCleaner_close 11 = .ok (.invokespecial 45, 3) := by decide +kernel
theorem d_LogCleaner_close_14 : decode b_LogCleaner_close 14 = .ok (.athrow, 1) := by decide +kernel
theorem d_LogCleaner_close_15 : decode b_LogCleaner_close 15 = .ok (.aload_n 0, 1) := by decide +kernel
theorem d_LogCleaner_close_16 : decode b_LogCleaner_close 16 = .ok (.getfield 38, 3) := by decide +kernel
theorem d_LogCleaner_close_19 : decode b_LogCleaner_close 19 = .ok (.ifCond .ne 13, 3) := by decide +kernel
theorem d_LogCleaner_close_22 : decode b_LogCleaner_close 22 = .ok (.new 50, 3) := by decide +kernel
theorem d_LogCleaner_close_25 : decode b_LogCleaner_close 25 = .ok (.dup, 1) := by decide +kernel
theorem d_LogCleaner_close_26 : decode b_LogCleaner_close 26 = .ok (.ldc 66, 2) := by decide +kernel
theorem d_LogCleaner_close_28 : decode b_LogCleaner_close 28 = .ok (.invokespecial 54, 3) := by decide +kernel
theorem d_LogCleaner_close_31 : decode b_LogCleaner_close 31 = .ok (.athrow, 1) := by decide +kernel
theorem d_LogCleaner_close_32 : decode b_LogCleaner_close 32 = .ok (.aload_n 0, 1) := by decide +kernel
theorem d_LogCleaner_close_33 : decode b_LogCleaner_close 33 = .ok (.getfield 15, 3) := by decide +kernel
theorem d_LogCleaner_close_36 : decode b_LogCleaner_close 36 = .ok (.sipush 400, 3) := by decide +kernel
theorem d_LogCleaner_close_39 : decode b_LogCleaner_close 39 = .ok (.if_icmp .lt 13, 3) := by decide +kernel
theorem d_LogCleaner_close_42 : decode b_LogCleaner_close 42 = .ok (.new 50, 3) := by decide +kernel
theorem d_LogCleaner_close_45 : decode b_LogCleaner_close 45 = .ok (.dup, 1) := by decide +kernel
theorem d_LogCleaner_close_46 : decode b_LogCleaner_close 46 = .ok (.ldc 68, 2) := by decide +kernel
theorem d_LogCleaner_close_48 : decode b_LogCleaner_close 48 = .ok (.invokespecial 54, 3) := by decide +kernel
theorem d_LogCleaner_close_51 : decode b_LogCleaner_close 51 = .ok (.athrow, 1) := by decide +kernel
theorem d_LogCleaner_close_52 : decode b_LogCleaner_close 52 = .ok (.new 9, 3) := by decide +kernel
theorem d_LogCleaner_close_55 : decode b_LogCleaner_close 55 = .ok (.dup, 1) := by decide +kernel
theorem d_LogCleaner_close_56 : decode b_LogCleaner_close 56 = .ok (.aload_n 0, 1) := by decide +kernel
theorem d_LogCleaner_close_57 : decode b_LogCleaner_close 57 = .ok (.getfield 22, 3) := by decide +kernel
theorem d_LogCleaner_close_60 : decode b_LogCleaner_close 60 = .ok (.iload_n 1, 1) := by decide +kernel
theorem d_LogCleaner_close_61 : decode b_LogCleaner_close 61 = .ok (.aload_n 0, 1) := by decide +kernel
theorem d_LogCleaner_close_62 : decode b_LogCleaner_close 62 = .ok (.getfield 38, 3) := by decide +kernel
theorem d_LogCleaner_close_65 : decode b_LogCleaner_close 65 = .ok (.invokespecial 70, 3) := by decide +kernel
theorem d_LogCleaner_close_68 : decode b_LogCleaner_close 68 = .ok (.astore_n 2, 1) := by decide +kernel
theorem d_LogCleaner_close_69 : decode b_LogCleaner_close 69 = .ok (.aload_n 0, 1) := by decide +kernel
theorem d_LogCleaner_close_70 : decode b_LogCleaner_close 70 = .ok (.getfield 11, 3) := by decide +kernel
theorem d_LogCleaner_close_73 : decode b_LogCleaner_close 73 = .ok (.aload_n 0, 1) := by decide +kernel
theorem d_LogCleaner_close_74 : decode b_LogCleaner_close 74 = .ok (.getfield 15, 3) := by decide +kernel
theorem d_LogCleaner_close_77 : decode b_LogCleaner_close 77 = .ok (.aload_n 2, 1) := by decide +kernel
theorem d_LogCleaner_close_78 : decode b_LogCleaner_close 78 = .ok (.aastore, 1) := by decide +kernel
theorem d_LogCleaner_close_79 : decode b_LogCleaner_close 79 = .ok (.aload_n 0, 1) := by decide +kernel
theorem d_LogCleaner_close_80 : decode b_LogCleaner_close 80 = .ok (.dup, 1) := by decide +kernel
theorem d_LogCleaner_close_81 : decode b_LogCleaner_close 81 = .ok (.getfield 15, 3) := by decide +kernel
theorem d_LogCleaner_close_84 : decode b_LogCleaner_close 84 = .ok (.iconst 1, 1) := by decide +kernel
theorem d_LogCleaner_close_85 : decode b_LogCleaner_close 85 = .ok (.iadd, 1) := by decide +kernel
theorem d_LogCleaner_close_86 : decode b_LogCleaner_close 86 = .ok (.putfield 15, 3) := by decide +kernel
theorem d_LogCleaner_close_89 : decode b_LogCleaner_close 89 = .ok (.aload_n 0, 1) := by decide +kernel
theorem d_LogCleaner_close_90 : decode b_LogCleaner_close 90 = .ok (.aload_n 2, 1) := by decide +kernel
theorem d_LogCleaner_close_91 : decode b_LogCleaner_close 91 = .ok (.invokevirtual 73, 3) := by decide +kernel
theorem d_LogCleaner_close_94 : decode b_LogCleaner_close 94 = .ok (.aload_n 2, 1) := by decide +kernel
theorem d_LogCleaner_close_95 : decode b_LogCleaner_close 95 = .ok (.aload_n 0, 1) := by decide +kernel
theorem d_LogCleaner_close_96 : decode b_LogCleaner_close 96 = .ok (.getfield 28, 3) := by decide +kernel
theorem d_LogCleaner_close_99 : decode b_LogCleaner_close 99 = .ok (.aload_n 2, 1) := by decide +kernel
theorem d_LogCleaner_close_100 : decode b_LogCleaner_close 100 = .ok (.invokevirtual 77, 3) := by decide +kernel
theorem d_LogCleaner_close_103 : decode b_LogCleaner_close 103 = .ok (.invokevirtual 81, 3) := by decide +kernel
theorem d_LogCleaner_close_106 : decode b_LogCleaner_close 106 = .ok (.putfield 85, 3) := by decide +kernel
theorem d_LogCleaner_close_109 : decode b_LogCleaner_close 109 = .ok (.aload_n 2, 1) := by decide +kernel
theorem d_LogCleaner_close_110 : decode b_LogCleaner_close 110 = .ok (.getfield 88, 3) := by decide +kernel
theorem d_LogCleaner_close_113 : decode b_LogCleaner_close 113 = .ok (.ireturn, 1) := by decide +kernel
def rm_LogCleaner_close : Room := { frames := 6, cells := 2, slots := 105, locals := 95 }
def ws_LogCleaner_close : List Cond := Cond.code y_LogCleaner_close b_LogCleaner_close 3 (some .int) :: TB
set_option maxHeartbeats 4000000 in
set_option maxRecDepth 100000 in
theorem m_LogCleaner_close (l : Launch) (hlt : l.stackTraces = false) (D : va_G) (d : Nat → ClassId) (h : xw) (sz : Nat) (a0 : Nat) (a1 : Int32) (Q : Int32 → xw → Prop) (X : String → xw → Prop) (hw : wp_LogCleaner_close d h a0 a1 Q X) : vx_Met l y_LogCleaner_close ws_LogCleaner_close rm_LogCleaner_close (xPreX D d h [.ref a0, .int a1] sz) (va_Qi (fun r u => Q r u ∧ xfr sgX h u) (xB D d (xA h sz)) (xA h sz)) (xX (fun E u => X E u ∧ xfr sgX h u) D d (xA h sz)) 2 105 (xA h sz) := by
  refine vx_ofW (cc := b_LogCleaner_close) (maxL := 3) (ret := (some .int)) (by decide) rfl ?_
  intro p e s m args below meth c s₁ B hml htab hv
  obtain ⟨rfl, hsz, hP0, hK, hNB, hZ1, hZ2, hSt⟩ := hv
  have hts := atoms_spec (ws := ws_LogCleaner_close) B.pre
  have htb := fun w (hw9 : w ∈ TB) => hts w (List.mem_cons_of_mem _ hw9)
  have hown : s.vm.findClass R_LogCleaner = some m.cls := findClass_of_methodNamed B.named
  subst hsz
  obtain ⟨A, hAe⟩ : ∃ A, A = xA h s.heap.size := ⟨_, rfl⟩
  rw [← hAe] at hZ1 hZ2 ⊢
  have hP : xR sgX h D A h s.heap := ⟨by rw [hAe]; exact hP0.self, xfr.rf⟩
  have hA : ∀ q, s.heap.size ≤ q → A q := fun q hq => by rw [hAe]; exact Or.inr hq
  have hS : va_S A s.heap s.heap [] := va_S.rf
  have C0 : xctx p s m ([.ref a0, .int a1] : List Value).toArray meth c b_LogCleaner_close 3 (some .int) R_LogCleaner D d A (xT l s c A) := ⟨B.exec, B.bytes, B.returns, hml, hown, htb, hK, hA, hNB, B.notSynchronized, ⟨hlt, hZ1, hZ2, hSt, htab⟩⟩
  obtain ⟨hx, hb, hr, -, -, -, -, -, -, hlocks, hXT⟩ := id C0
  have hl := lv_entry ([.ref a0, .int a1] : List Value) (n := 3) (Nat.le_of_ble_eq_true rfl)
  rw [lg_entry_eq]
  generalize (lg_sl ([.ref a0, .int a1] : List Value) ++ List.replicate (3 - (lg_sl ([.ref a0, .int a1] : List Value)).length) Slot.unset).toArray = ls at hl ⊢
  have hl : lv_has ls 3 [(0, .ref a0), (1, .int a1)] := hl
  refine lv_iload_n hx hb d_LogCleaner_close_0 rfl (lv_at hl 1 rfl) ?_
  refine lv_iconst (v := (-1)) hx hb d_LogCleaner_close_1 (by decide) ?_
  refine lv_icmp_ge (tgt := 15) hx hb d_LogCleaner_close_2 (by decide) (fun cq => ?_) (fun cq => ?_)
  · replace hw := hw.1 cq
    refine lv_aload_n hx hb d_LogCleaner_close_15 rfl (lv_at hl 0 rfl) ?_
    refine xgetI hx hb htb i_LogCleaner hown hK hP (ci := 0) rfl 6 (by decide) (htb _ k_LogCleaner_38) (fun _ h9 => h9) hw d_LogCleaner_close_16 (fun v1 hw => ?_)
    refine lv_if_ne (tgt := 32) hx hb d_LogCleaner_close_19 (by decide) (fun cq => ?_) (fun cq => ?_)
    · replace hw := hw.2 cq
      refine lv_aload_n hx hb d_LogCleaner_close_32 rfl (lv_at hl 0 rfl) ?_
      refine xgetI hx hb htb i_LogCleaner hown hK hP (ci := 0) rfl 1 (by decide) (htb _ k_LogCleaner_15) (fun _ h9 => h9) hw d_LogCleaner_close_33 (fun v2 hw => ?_)
      refine lv_sipush (v := 400) hx hb d_LogCleaner_close_36 (by decide) ?_
      refine lv_icmp_lt (tgt := 52) hx hb d_LogCleaner_close_39 (by decide) (fun cq => ?_) (fun cq => ?_)
      · replace hw := hw.1 cq
        refine xnew (ci := 1) (fs := z_Batch) hx hb htb i_Batch t_Batch t_Batch_ok hown (htb _ k_LogCleaner_9c) (htb _ g_inst_Batch) (htb _ g_ini_Batch) hK hP hS hA rfl z_Batch_ok (Nat.le_of_ble_eq_true rfl) (Nat.le_of_ble_eq_true rfl) hw d_LogCleaner_close_52 (fun q4 h3 H hw hP hS => ?_)
        refine W.widen (k := 1) (n := 5) (Nat.le_of_ble_eq_true rfl) (Nat.le_of_ble_eq_true rfl) ?_
        refine lv_dup hx hb d_LogCleaner_close_55 rfl ?_
        refine lv_aload_n hx hb d_LogCleaner_close_56 rfl (lv_at hl 0 rfl) ?_
        refine xgetI hx hb htb i_LogCleaner hown hK hP (ci := 0) rfl 3 (by decide) (htb _ k_LogCleaner_22) (fun _ h9 => h9) hw d_LogCleaner_close_57 (fun v5 hw => ?_)
        refine lv_iload_n hx hb d_LogCleaner_close_60 rfl (lv_at hl 1 rfl) ?_
        refine lv_aload_n hx hb d_LogCleaner_close_61 rfl (lv_at hl 0 rfl) ?_
        refine xgetI hx hb htb i_LogCleaner hown hK hP (ci := 0) rfl 6 (by decide) (htb _ k_LogCleaner_38) (fun _ h9 => h9) hw d_LogCleaner_close_62 (fun v6 hw => ?_)
        refine xcallv (va_runI (b := q4) (As := [.int v5, .int a1, .int v6]) (rest := [.ref q4]) ⟨hx, hb, hml, hown, htb⟩ (m_Batch_init l D d h3 _ q4 v5 a1 v6 _ hw) (xcwI 3 htb g_code_Batch_init g_ini_Batch k_LogCleaner_70 g_im_Batch_init rfl rfl rfl (by decide +kernel) ⟨(Nat.le_of_ble_eq_true rfl), (Nat.le_of_ble_eq_true rfl)⟩) (xpreI hP hK hNB) rfl rfl hl.1 rfl (lv_room (Nat.le_of_ble_eq_true rfl)) d_LogCleaner_close_65 ⟨(Nat.le_of_ble_eq_true rfl), (Nat.le_of_ble_eq_true rfl)⟩) hP hS hA (fun h7 H locs hw hP hS => ?_)
        refine W.widen (k := 2) (n := 105) (Nat.le_of_ble_eq_true rfl) (Nat.le_of_ble_eq_true rfl) ?_
        refine lv_astore_n (lv' := [(2, .ref q4), (0, .ref a0), (1, .int a1)]) hx hb d_LogCleaner_close_68 rfl hl (by decide) rfl (fun ls hl => ?_)
        refine lv_aload_n hx hb d_LogCleaner_close_69 rfl (lv_at hl 1 rfl) ?_
        refine xgetA hx hb htb i_LogCleaner hown hK hP (ci := 0) rfl 0 (by decide) (htb _ k_LogCleaner_11) (fun _ h9 => h9) hw d_LogCleaner_close_70 (fun r8 hw => ?_)
        refine lv_aload_n hx hb d_LogCleaner_close_73 rfl (lv_at hl 1 rfl) ?_
        refine xgetI hx hb htb i_LogCleaner hown hK hP (ci := 0) rfl 1 (by decide) (htb _ k_LogCleaner_15) (fun _ h9 => h9) hw d_LogCleaner_close_74 (fun v9 hw => ?_)
        refine lv_aload_n hx hb d_LogCleaner_close_77 rfl (lv_at hl 0 rfl) ?_
        obtain ⟨p10, hpe, hw⟩ := hw
        revert hw
        revert hl
        subst hpe
        intro hl hw
        replace hl : lv_has ls 3 [(2, .ref q4), (0, .ref a0), (1, .int a1)] := hl
        refine xstq hx hb hK hP hS 1 rfl (ci := 1) rfl (fun _ _ => rfl) hw d_LogCleaner_close_78 (fun h11 H locs hw hP hS => ?_)
        refine lv_aload_n hx hb d_LogCleaner_close_79 rfl (lv_at hl 1 rfl) ?_
        refine lv_dup hx hb d_LogCleaner_close_80 rfl ?_
        refine xgetI hx hb htb i_LogCleaner hown hK hP (ci := 0) rfl 1 (by decide) (htb _ k_LogCleaner_15) (fun _ h9 => h9) hw d_LogCleaner_close_81 (fun v12 hw => ?_)
        refine lv_iconst (v := 1) hx hb d_LogCleaner_close_84 (by decide) ?_
        refine lv_iadd hx hb d_LogCleaner_close_85 ?_
        refine xputI hx hb htb i_LogCleaner t_LogCleaner t_LogCleaner_ok n_LogCleaner hown hK hP hS (ci := 0) rfl (fun _ => rfl) 1 (by decide) (htb _ k_LogCleaner_15) (fun _ h9 => h9) rfl (by decide +kernel) hw d_LogCleaner_close_86 (fun h13 H locs hw hP hS => ?_)
        refine lv_aload_n hx hb d_LogCleaner_close_89 rfl (lv_at hl 1 rfl) ?_
        refine lv_aload_n hx hb d_LogCleaner_close_90 rfl (lv_at hl 0 rfl) ?_
        obtain ⟨⟨_, hw0⟩, hw⟩ := hw
        refine xcallv (va_runV (b := a0) (As := [.ref q4]) (rest := []) ⟨hx, hb, hml, hown, htb⟩ (m_LogCleaner_moveDraftInto l D d h13 _ a0 (some q4) _ hw) (xcwV 1 htb g_code_LogCleaner_moveDraftInto g_ini_LogCleaner k_LogCleaner_73 g_im_LogCleaner_moveDraftInto g_sel_LogCleaner_moveDraftInto rfl rfl (by decide +kernel) ⟨(Nat.le_of_ble_eq_true rfl), (Nat.le_of_ble_eq_true rfl)⟩) (xpreV hP hK hNB (ci := 0) rfl hw0) rfl rfl hl.1 rfl (lv_room (Nat.le_of_ble_eq_true rfl)) d_LogCleaner_close_91 ⟨(Nat.le_of_ble_eq_true rfl), (Nat.le_of_ble_eq_true rfl)⟩) hP hS hA (fun h14 H locs hw hP hS => ?_)
        refine W.widen (k := 2) (n := 105) (Nat.le_of_ble_eq_true rfl) (Nat.le_of_ble_eq_true rfl) ?_
        refine lv_aload_n hx hb d_LogCleaner_close_94 rfl (lv_at hl 0 rfl) ?_
        refine lv_aload_n hx hb d_LogCleaner_close_95 rfl (lv_at hl 1 rfl) ?_
        refine xgetA hx hb htb i_LogCleaner hown hK hP (ci := 0) rfl 4 (by decide) (htb _ k_LogCleaner_28) (fun _ h9 => h9) hw d_LogCleaner_close_96 (fun r15 hw => ?_)
        refine lv_aload_n hx hb d_LogCleaner_close_99 rfl (lv_at hl 0 rfl) ?_
        obtain ⟨⟨_, hw0⟩, hw⟩ := hw
        refine xcalli (va_runV (b := q4) (As := []) (rest := [va_rf r15, .ref q4]) ⟨hx, hb, hml, hown, htb⟩ (m_Batch_sizeInBytes l D d h14 _ q4 _ hw) (xcwV 0 htb g_code_Batch_sizeInBytes g_ini_Batch k_LogCleaner_77 g_im_Batch_sizeInBytes g_sel_Batch_sizeInBytes rfl rfl (by decide +kernel) ⟨(Nat.le_of_ble_eq_true rfl), (Nat.le_of_ble_eq_true rfl)⟩) (xpreV hP hK hNB (ci := 1) rfl hw0) rfl rfl hl.1 rfl (lv_room (by cases r15 <;> exact (Nat.le_of_ble_eq_true rfl))) d_LogCleaner_close_100 ⟨(Nat.le_of_ble_eq_true rfl), (Nat.le_of_ble_eq_true rfl)⟩) hP hS hA (fun r17 h16 H locs hw hP hS => ?_)
        refine W.widen (k := 2) (n := 105) (Nat.le_of_ble_eq_true rfl) (Nat.le_of_ble_eq_true rfl) ?_
        obtain ⟨p18, hpe, hw⟩ := hw
        revert hw
        revert hl
        subst hpe
        intro hl hw
        replace hl : lv_has ls 3 [(2, .ref q4), (0, .ref a0), (1, .int a1)] := hl
        obtain ⟨⟨_, hw0⟩, hw⟩ := hw
        refine xcalli (va_runV (b := p18) (As := [.int r17]) (rest := [.ref q4]) ⟨hx, hb, hml, hown, htb⟩ (m_Packing_place l D d h16 _ p18 r17 _ hw) (xcwV 1 htb g_code_Packing_place g_ini_Packing k_LogCleaner_81 g_im_Packing_place g_sel_Packing_place rfl rfl (by decide +kernel) ⟨(Nat.le_of_ble_eq_true rfl), (Nat.le_of_ble_eq_true rfl)⟩) (xpreV hP hK hNB (ci := 3) rfl hw0) rfl rfl hl.1 rfl (lv_room (Nat.le_of_ble_eq_true rfl)) d_LogCleaner_close_103 ⟨(Nat.le_of_ble_eq_true rfl), (Nat.le_of_ble_eq_true rfl)⟩) hP hS hA (fun r20 h19 H locs hw hP hS => ?_)
        refine W.widen (k := 2) (n := 105) (Nat.le_of_ble_eq_true rfl) (Nat.le_of_ble_eq_true rfl) ?_
        refine xputI hx hb htb i_Batch t_Batch t_Batch_ok n_Batch hown hK hP hS (ci := 1) rfl (fun _ => rfl) 4 (by decide) (htb _ k_LogCleaner_85) (fun _ h9 => h9) rfl (by decide +kernel) hw d_LogCleaner_close_106 (fun h21 H locs hw hP hS => ?_)
        refine lv_aload_n hx hb d_LogCleaner_close_109 rfl (lv_at hl 0 rfl) ?_
        refine xgetI hx hb htb i_Batch hown hK hP (ci := 1) rfl 0 (by decide) (htb _ k_LogCleaner_88) (fun _ h9 => h9) hw d_LogCleaner_close_110 (fun v22 hw => ?_)
        refine vx_ret ?_
        refine W.widen (k := 2) (n := 105) (Nat.le_of_ble_eq_true rfl) (Nat.le_of_ble_eq_true rfl) ?_
        exact xretI C0 hw hP hS d_LogCleaner_close_113
      · replace hw := hw.2 cq
        exact xthrow C0 (cls := "java/lang/IllegalStateException") (text := "there are 400 batches") (names := ["java/lang/RuntimeException", "java/lang/Exception"]) (ik := 50) (is := 68) (ic := 54) (by decide) (by decide) k_LogCleaner_50c g_ini_java_lang_IllegalStateException (by decide) at_LogCleaner_54 at_LogCleaner_54_ok (by decide) (by decide) hw hP hS hl d_LogCleaner_close_42 d_LogCleaner_close_45 d_LogCleaner_close_46 d_LogCleaner_close_48 d_LogCleaner_close_51 (Nat.le_of_ble_eq_true rfl) (Nat.le_of_ble_eq_true rfl) (Nat.le_of_ble_eq_true rfl) (Nat.le_of_ble_eq_true rfl) (Nat.le_of_ble_eq_true rfl) (Nat.le_of_ble_eq_true rfl)
    · replace hw := hw.1 cq
      exact xthrow C0 (cls := "java/lang/IllegalStateException") (text := "the draft is empty") (names := ["java/lang/RuntimeException", "java/lang/Exception"]) (ik := 50) (is := 66) (ic := 54) (by decide) (by decide) k_LogCleaner_50c g_ini_java_lang_IllegalStateException (by decide) at_LogCleaner_54 at_LogCleaner_54_ok (by decide) (by decide) hw hP hS hl d_LogCleaner_close_22 d_LogCleaner_close_25 d_LogCleaner_close_26 d_LogCleaner_close_28 d_LogCleaner_close_31 (Nat.le_of_ble_eq_true rfl) (Nat.le_of_ble_eq_true rfl) (Nat.le_of_ble_eq_true rfl) (Nat.le_of_ble_eq_true rfl) (Nat.le_of_ble_eq_true rfl) (Nat.le_of_ble_eq_true rfl)
  · replace hw := hw.2 cq
    exact xthrow C0 (cls := "java/lang/IllegalArgumentException") (text := "the producer is below -1") (names := ["java/lang/RuntimeException", "java/lang/Exception"]) (ik := 41) (is := 64) (ic := 45) (by decide) (by decide) k_LogCleaner_41c g_ini_java_lang_IllegalArgumentException (by decide) at_LogCleaner_45 at_LogCleaner_45_ok (by decide) (by decide) hw hP hS hl d_LogCleaner_close_5 d_LogCleaner_close_8 d_LogCleaner_close_9 d_LogCleaner_close_11 d_LogCleaner_close_14 (Nat.le_of_ble_eq_true rfl) (Nat.le_of_ble_eq_true rfl) (Nat.le_of_ble_eq_true rfl) (Nat.le_of_ble_eq_true rfl) (Nat.le_of_ble_eq_true rfl) (Nat.le_of_ble_eq_true rfl)

theorem d_LogCleaner_isClosed_0 : decode b_LogCleaner_isClosed 0 = .ok (.aload_n 1, 1) := by decide +kernel
theorem d_LogCleaner_isClosed_1 : decode b_LogCleaner_isClosed 1 = .ok (.getfield 85, 3) := by decide +kernel
theorem d_LogCleaner_isClosed_4 : decode b_LogCleaner_isClosed 4 = .ok (.aload_n 0, 1) := by decide +kernel
theorem d_LogCleaner_isClosed_5 : decode b_LogCleaner_isClosed 5 = .ok (.getfield 28, 3) := by decide +kernel
theorem d_LogCleaner_isClosed_8 : decode b_LogCleaner_isClosed 8 = .ok (.getfield 102, 3) := by decide +kernel
theorem d_LogCleaner_isClosed_11 : decode b_LogCleaner_isClosed 11 = .ok (.if_icmp .ge 7, 3) := by decide +kernel
theorem d_LogCleaner_isClosed_14 : decode b_LogCleaner_isClosed 14 = .ok (.iconst 1, 1) := by decide +kernel
theorem d_LogCleaner_isClosed_15 : decode b_LogCleaner_isClosed 15 = .ok (.goto 4, 3) := by decide +kernel
theorem d_LogCleaner_isClosed_18 : decode b_LogCleaner_isClosed 18 = .ok (.iconst 0, 1) := by decide +kernel
theorem d_LogCleaner_isClosed_19 : decode b_LogCleaner_isClosed 19 = .ok (.ireturn, 1) := by decide +kernel
def rm_LogCleaner_isClosed : Room := { frames := 0, cells := 0, slots := 0, locals := 0 }
def ws_LogCleaner_isClosed : List Cond := Cond.code y_LogCleaner_isClosed b_LogCleaner_isClosed 2 (some .boolean) :: TB
set_option maxHeartbeats 4000000 in
set_option maxRecDepth 100000 in
theorem sb_LogCleaner_isClosed_19 {p : Program} {l : Launch} {e : Env} {s : State} {m : MethodId} {args : Array Value} {below : List Frame} {meth : Method} {c : Code} {D : va_G} {d : Nat → ClassId} {A : Nat → Prop} {h0 : xw} {Q : Int32 → xw → Prop} (C0 : xctx p s m args meth c b_LogCleaner_isClosed 2 (some .boolean) R_LogCleaner D d A True) : ∀ (s0 : Int32) (h : xw) (H : Heap) (locs : List Loc) (ls : Array Slot), wb_LogCleaner_isClosed_19 d Q  s0 h → xR sgX h0 D A h H → va_S A s.heap H locs → lv_has ls 2 [] → W p l e rm_LogCleaner_isClosed s m args below meth c H locs 0 0 (MQ below (va_Qi (fun r u => Q r u ∧ xfr sgX h0 u) (xB D d A) A) args s 0 0 A) (F0 m 19 ls [.int s0]) := by
  obtain ⟨hx, hb, hr, hml, hown, htb, hK, hA, hNB, hlocks, hXT⟩ := id C0
  intro  s0 h H locs ls hw hP hS hl
  refine W.widen (k := 0) (n := 0) (Nat.le_of_ble_eq_true rfl) (Nat.le_of_ble_eq_true rfl) ?_
  exact xretZ C0 hw hP hS d_LogCleaner_isClosed_19

set_option maxHeartbeats 4000000 in
set_option maxRecDepth 100000 in
theorem m_LogCleaner_isClosed (l : Launch) (D : va_G) (d : Nat → ClassId) (h : xw) (sz : Nat) (a0 : Nat) (a1 : Option Nat) (Q : Int32 → xw → Prop) (hw : wp_LogCleaner_isClosed d h a0 a1 Q) : Met l y_LogCleaner_isClosed ws_LogCleaner_isClosed rm_LogCleaner_isClosed (xPre D d h [.ref a0, va_rf a1] sz) (va_Qi (fun r u => Q r u ∧ xfr sgX h u) (xB D d (xA h sz)) (xA h sz)) 0 0 (xA h sz) := by
  refine Met.ofW (cc := b_LogCleaner_isClosed) (maxL := 2) (ret := (some .boolean)) (by decide) rfl ?_
  intro p e s m args below meth c s₁ B hml hv
  obtain ⟨rfl, hsz, hP0, hK, hNB⟩ := hv
  have hts := atoms_spec (ws := ws_LogCleaner_isClosed) B.pre
  have htb := fun w (hw9 : w ∈ TB) => hts w (List.mem_cons_of_mem _ hw9)
  have hown : s.vm.findClass R_LogCleaner = some m.cls := findClass_of_methodNamed B.named
  subst hsz
  obtain ⟨A, hAe⟩ : ∃ A, A = xA h s.heap.size := ⟨_, rfl⟩
  rw [← hAe]
  have hP : xR sgX h D A h s.heap := ⟨by rw [hAe]; exact hP0.self, xfr.rf⟩
  have hA : ∀ q, s.heap.size ≤ q → A q := fun q hq => by rw [hAe]; exact Or.inr hq
  have hS : va_S A s.heap s.heap [] := va_S.rf
  have C0 : xctx p s m ([.ref a0, va_rf a1] : List Value).toArray meth c b_LogCleaner_isClosed 2 (some .boolean) R_LogCleaner D d A True := ⟨B.exec, B.bytes, B.returns, hml, hown, htb, hK, hA, hNB, B.notSynchronized, trivial⟩
  obtain ⟨hx, hb, hr, -, -, -, -, -, -, hlocks, hXT⟩ := id C0
  have hl := lv_entry ([.ref a0, va_rf a1] : List Value) (n := 2) (by cases a1 <;> exact (Nat.le_of_ble_eq_true rfl))
  rw [lg_entry_eq]
  generalize (lg_sl ([.ref a0, va_rf a1] : List Value) ++ List.replicate (2 - (lg_sl ([.ref a0, va_rf a1] : List Value)).length) Slot.unset).toArray = ls at hl ⊢
  have hle : lv_args 0 ([.ref a0, va_rf a1] : List Value) = [(0, .ref a0), (1, va_rf a1)] := by cases a1 <;> rfl
  rw [hle] at hl
  refine xv_aload_n hx hb d_LogCleaner_isClosed_0 rfl (lv_at hl 1 rfl) ?_
  obtain ⟨p1, hpe, hw⟩ := hw
  revert hw
  revert hl
  subst hpe
  intro hl hw
  replace hl : lv_has ls 2 [(0, .ref a0), (1, .ref p1)] := hl
  refine xgetI hx hb htb i_Batch hown hK hP (ci := 1) rfl 4 (by decide) (htb _ k_LogCleaner_85) (fun _ h9 => h9) hw d_LogCleaner_isClosed_1 (fun v2 hw => ?_)
  refine lv_aload_n hx hb d_LogCleaner_isClosed_4 rfl (lv_at hl 0 rfl) ?_
  refine xgetA hx hb htb i_LogCleaner hown hK hP (ci := 0) rfl 4 (by decide) (htb _ k_LogCleaner_28) (fun _ h9 => h9) hw d_LogCleaner_isClosed_5 (fun r3 hw => ?_)
  obtain ⟨p4, hpe, hw⟩ := hw
  revert hw
  revert hl
  subst hpe
  intro hl hw
  replace hl : lv_has ls 2 [(0, .ref a0), (1, .ref p1)] := hl
  refine xgetI hx hb htb i_Packing hown hK hP (ci := 3) rfl 0 (by decide) (htb _ k_LogCleaner_102) (fun _ h9 => h9) hw d_LogCleaner_isClosed_8 (fun v5 hw => ?_)
  refine lv_icmp_ge (tgt := 18) hx hb d_LogCleaner_isClosed_11 (by decide) (fun cq => ?_) (fun cq => ?_)
  · replace hw := hw.1 cq
    refine lv_iconst (v := 0) hx hb d_LogCleaner_isClosed_18 (by decide) ?_
    exact sb_LogCleaner_isClosed_19 C0 0 h _ _ _ hw hP hS (lv_sub hl [] rfl)
  · replace hw := hw.2 cq
    refine lv_iconst (v := 1) hx hb d_LogCleaner_isClosed_14 (by decide) ?_
    refine lv_goto (tgt := 19) hx hb d_LogCleaner_isClosed_15 (by decide) ?_
    exact sb_LogCleaner_isClosed_19 C0 1 h _ _ _ hw hP hS (lv_sub hl [] rfl)

theorem d_LogCleaner_removeGoneRecords_0 : decode b_LogCleaner_removeGoneRecords 0 = .ok (.iconst 0, 1) := by decide +kernel
theorem d_LogCleaner_removeGoneRecords_1 : decode b_LogCleaner_removeGoneRecords 1 = .ok (.istore_n 2, 1) := by decide +kernel
theorem d_LogCleaner_removeGoneRecords_2 : decode b_LogCleaner_removeGoneRecords 2 = .ok (.iconst 0, 1) := by decide +kernel
theorem d_LogCleaner_removeGoneRecords_3 : decode b_LogCleaner_removeGoneRecords 3 = .ok (.istore_n 3, 1) := by decide +kernel
theorem d_LogCleaner_removeGoneRecords_4 : decode b_LogCleaner_removeGoneRecords 4 = .ok (.iload_n 3, 1) := by decide +kernel
theorem d_LogCleaner_removeGoneRecords_5 : decode b_LogCleaner_removeGoneRecords 5 = .ok (.aload_n 0, 1) := by decide +kernel
theorem d_LogCleaner_removeGoneRecords_6 : decode b_LogCleaner_removeGoneRecords 6 = .ok (.getfield 15, 3) := by decide +kernel
theorem d_LogCleaner_removeGoneRecords_9 : decode b_LogCleaner_removeGoneRecords 9 = .ok (.if_icmp .ge 35, 3) := by decide +kernel
theorem d_LogCleaner_removeGoneRecords_12 : decode b_LogCleaner_removeGoneRecords 12 = .ok (.aload_n 0, 1) := by decide +kernel
theorem d_LogCleaner_removeGoneRecords_13 : decode b_LogCleaner_removeGoneRecords 13 = .ok (.aload_n 0, 1) := by decide +kernel
theorem d_LogCleaner_removeGoneRecords_14 : decode b_LogCleaner_removeGoneRecords 14 = .ok (.getfield 11, 3) := by decide +kernel
theorem d_LogCleaner_removeGoneRecords_17 : decode b_LogCleaner_removeGoneRecords 17 = .ok (.iload_n 3, 1) := by decide +kernel
theorem d_LogCleaner_removeGoneRecords_18 : decode b_LogCleaner_removeGoneRecords 18 = .ok (.aaload, 1) := by decide +kernel
theorem d_LogCleaner_removeGoneRecords_19 : decode b_LogCleaner_removeGoneRecords 19 = .ok (.invokevirtual 181, 3) := by decide +kernel
theorem d_LogCleaner_removeGoneRecords_22 : decode b_LogCleaner_removeGoneRecords 22 = .ok (.ifCond .eq 16, 3) := by decide +kernel
theorem d_LogCleaner_removeGoneRecords_25 : decode b_LogCleaner_removeGoneRecords 25 = .ok (.iload_n 2, 1) := by decide +kernel
theorem d_LogCleaner_removeGoneRecords_26 : decode b_LogCleaner_removeGoneRecords 26 = .ok (.aload_n 0, 1) := by decide +kernel
theorem d_LogCleaner_removeGoneRecords_27 : decode b_LogCleaner_removeGoneRecords 27 = .ok (.getfield 11, 3) := by decide +kernel
theorem d_LogCleaner_removeGoneRecords_30 : decode b_LogCleaner_removeGoneRecords 30 = .ok (.iload_n 3, 1) := by decide +kernel
theorem d_LogCleaner_removeGoneRecords_31 : decode b_LogCleaner_removeGoneRecords 31 = .ok (.aaload, 1) := by decide +kernel
theorem d_LogCleaner_removeGoneRecords_32 : decode b_LogCleaner_removeGoneRecords 32 = .ok (.iload_n 1, 1) := by decide +kernel
theorem d_LogCleaner_removeGoneRecords_33 : decode b_LogCleaner_removeGoneRecords 33 = .ok (.invokevirtual 185, 3) := by decide +kernel
theorem d_LogCleaner_removeGoneRecords_36 : decode b_LogCleaner_removeGoneRecords 36 = .ok (.iadd, 1) := by decide +kernel
theorem d_LogCleaner_removeGoneRecords_37 : decode b_LogCleaner_removeGoneRecords 37 = .ok (.istore_n 2, 1) := by decide +kernel
theorem d_LogCleaner_removeGoneRecords_38 : decode b_LogCleaner_removeGoneRecords 38 = .ok (.iinc 3 1, 3) := by decide +kernel
theorem d_LogCleaner_removeGoneRecords_41 : decode b_LogCleaner_removeGoneRecords 41 = .ok (.goto (-37), 3) := by decide +kernel
theorem d_LogCleaner_removeGoneRecords_44 : decode b_LogCleaner_removeGoneRecords 44 = .ok (.aload_n 0, 1) := by decide +kernel
theorem d_LogCleaner_removeGoneRecords_45 : decode b_LogCleaner_removeGoneRecords 45 = .ok (.dup, 1) := by decide +kernel
theorem d_LogCleaner_removeGoneRecords_46 : decode b_LogCleaner_removeGoneRecords 46 = .ok (.getfield 19, 3) := by decide +kernel
theorem d_LogCleaner_removeGoneRecords_49 : decode b_LogCleaner_removeGoneRecords 49 = .ok (.iload_n 2, 1) := by decide +kernel
theorem d_LogCleaner_removeGoneRecords_50 : decode b_LogCleaner_removeGoneRecords 50 = .ok (.isub, 1) := by decide +kernel
theorem d_LogCleaner_removeGoneRecords_51 : decode b_LogCleaner_removeGoneRecords 51 = .ok (.putfield 19, 3) := by decide +kernel
theorem d_LogCleaner_removeGoneRecords_54 : decode b_LogCleaner_removeGoneRecords 54 = .ok (.iload_n 2, 1) := by decide +kernel
theorem d_LogCleaner_removeGoneRecords_55 : decode b_LogCleaner_removeGoneRecords 55 = .ok (.ireturn, 1) := by decide +kernel
def rm_LogCleaner_removeGoneRecords : Room := { frames := 3, cells := 0, slots := 0, locals := 66 }
def ws_LogCleaner_removeGoneRecords : List Cond := Cond.code y_LogCleaner_removeGoneRecords b_LogCleaner_removeGoneRecords 4 (some .int) :: TB
set_option maxHeartbeats 4000000 in
set_option maxRecDepth 100000 in
theorem sb_LogCleaner_removeGoneRecords_38 {p : Program} {l : Launch} {e : Env} {s : State} {m : MethodId} {args : Array Value} {below : List Frame} {meth : Method} {c : Code} {D : va_G} {d : Nat → ClassId} {A : Nat → Prop} {h0 : xw} {Q : Int32 → xw → Prop} {k4 : Nat → Int32 → Int32 → Int32 → xw → Prop} (C0 : xctx p s m args meth c b_LogCleaner_removeGoneRecords 4 (some .int) R_LogCleaner D d A True) (hk4 : ∀ (x0 : Nat) (x1 : Int32) (x2 : Int32) (x3 : Int32) (h : xw) (H : Heap) (locs : List Loc) (ls : Array Slot), k4 x0 x1 x2 x3 h → xR sgX h0 D A h H → va_S A s.heap H locs → lv_has ls 4 [(0, .ref x0), (1, .int x1), (2, .int x2), (3, .int x3)] → W p l e rm_LogCleaner_removeGoneRecords s m args below meth c H locs 0 0 (MQ below (va_Qi (fun r u => Q r u ∧ xfr sgX h0 u) (xB D d A) A) args s 0 0 A) (F0 m 4 ls [])) : ∀ (x0 : Nat) (x1 : Int32) (x2 : Int32) (x3 : Int32) (h : xw) (H : Heap) (locs : List Loc) (ls : Array Slot), wb_LogCleaner_removeGoneRecords_38 d k4 Q x0 x1 x2 x3 h → xR sgX h0 D A h H → va_S A s.heap H locs → lv_has ls 4 [(0, .ref x0), (1, .int x1), (2, .int x2), (3, .int x3)] → W p l e rm_LogCleaner_removeGoneRecords s m args below meth c H locs 0 0 (MQ below (va_Qi (fun r u => Q r u ∧ xfr sgX h0 u) (xB D d A) A) args s 0 0 A) (F0 m 38 ls []) := by
  obtain ⟨hx, hb, hr, hml, hown, htb, hK, hA, hNB, hlocks, hXT⟩ := id C0
  intro x0 x1 x2 x3 h H locs ls hw hP hS hl
  refine lv_iinc (v := x3 + 1) (lv' := [(3, .int (x3 + 1)), (0, .ref x0), (1, .int x1), (2, .int x2)]) hx hb d_LogCleaner_removeGoneRecords_38 hl (k := 3) rfl rfl (by decide) rfl (fun ls hl => ?_)
  refine lv_goto (tgt := 4) hx hb d_LogCleaner_removeGoneRecords_41 (by decide) ?_
  exact hk4 x0 x1 x2 (x3 + 1) h _ _ _ hw hP hS (lv_sub hl [1, 2, 3, 0] rfl)

set_option maxHeartbeats 4000000 in
set_option maxRecDepth 100000 in
theorem sl_LogCleaner_removeGoneRecords_4 {p : Program} {l : Launch} {e : Env} {s : State} {m : MethodId} {args : Array Value} {below : List Frame} {meth : Method} {c : Code} {D : va_G} {d : Nat → ClassId} {A : Nat → Prop} {h0 : xw} {Q : Int32 → xw → Prop} (C0 : xctx p s m args meth c b_LogCleaner_removeGoneRecords 4 (some .int) R_LogCleaner D d A True) : ∀ (n : Nat) (x : Nat × Int32 × Int32 × Int32) (h : xw) (H : Heap) (locs : List Loc) (ls : Array Slot), xloop (fun (k : Nat × Int32 × Int32 × Int32 → xw → Prop) (x : Nat × Int32 × Int32 × Int32) (h : xw) => wc_LogCleaner_removeGoneRecords_4 d Q (fun y0 y1 y2 y3 h => k (y0, y1, y2, y3) h) x.1 x.2.1 x.2.2.1 x.2.2.2 h) n x h → xR sgX h0 D A h H → va_S A s.heap H locs → lv_has ls 4 [(0, .ref x.1), (1, .int x.2.1), (2, .int x.2.2.1), (3, .int x.2.2.2)] → W p l e rm_LogCleaner_removeGoneRecords s m args below meth c H locs 0 0 (MQ below (va_Qi (fun r u => Q r u ∧ xfr sgX h0 u) (xB D d A) A) args s 0 0 A) (F0 m 4 ls []) := by
  obtain ⟨hx, hb, hr, hml, hown, htb, hK, hA, hNB, hlocks, hXT⟩ := id C0
  intro n
  induction n with
  | zero => intro x h H locs ls hw; exact hw.elim
  | succ n ih =>
    rintro ⟨x0, x1, x2, x3⟩ h H locs ls hw hP hS hl
    replace hw : wc_LogCleaner_removeGoneRecords_4 d Q (fun y0 y1 y2 y3 h => xloop (fun (k : Nat × Int32 × Int32 × Int32 → xw → Prop) (x : Nat × Int32 × Int32 × Int32) (h : xw) => wc_LogCleaner_removeGoneRecords_4 d Q (fun y0 y1 y2 y3 h => k (y0, y1, y2, y3) h) x.1 x.2.1 x.2.2.1 x.2.2.2 h) n (y0, y1, y2, y3) h) x0 x1 x2 x3 h := hw
    have hk4 := fun (x0 : Nat) (x1 : Int32) (x2 : Int32) (x3 : Int32) => ih (x0, x1, x2, x3)
    refine lv_iload_n hx hb d_LogCleaner_removeGoneRecords_4 rfl (lv_at hl 3 rfl) ?_
    refine lv_aload_n hx hb d_LogCleaner_removeGoneRecords_5 rfl (lv_at hl 0 rfl) ?_
    refine xgetI hx hb htb i_LogCleaner hown hK hP (ci := 0) rfl 1 (by decide) (htb _ k_LogCleaner_15) (fun _ h9 => h9) hw d_LogCleaner_removeGoneRecords_6 (fun v1 hw => ?_)
    refine lv_icmp_ge (tgt := 44) hx hb d_LogCleaner_removeGoneRecords_9 (by decide) (fun cq => ?_) (fun cq => ?_)
    · replace hw := hw.1 cq
      refine lv_aload_n hx hb d_LogCleaner_removeGoneRecords_44 rfl (lv_at hl 0 rfl) ?_
      refine lv_dup hx hb d_LogCleaner_removeGoneRecords_45 rfl ?_
      refine xgetI hx hb htb i_LogCleaner hown hK hP (ci := 0) rfl 2 (by decide) (htb _ k_LogCleaner_19) (fun _ h9 => h9) hw d_LogCleaner_removeGoneRecords_46 (fun v2 hw => ?_)
      refine lv_iload_n hx hb d_LogCleaner_removeGoneRecords_49 rfl (lv_at hl 2 rfl) ?_
      refine lv_isub hx hb d_LogCleaner_removeGoneRecords_50 ?_
      refine xputI hx hb htb i_LogCleaner t_LogCleaner t_LogCleaner_ok n_LogCleaner hown hK hP hS (ci := 0) rfl (fun _ => rfl) 2 (by decide) (htb _ k_LogCleaner_19) (fun _ h9 => h9) rfl (by decide +kernel) hw d_LogCleaner_removeGoneRecords_51 (fun h3 H locs hw hP hS => ?_)
      refine lv_iload_n hx hb d_LogCleaner_removeGoneRecords_54 rfl (lv_at hl 2 rfl) ?_
      refine W.widen (k := 0) (n := 0) (Nat.le_of_ble_eq_true rfl) (Nat.le_of_ble_eq_true rfl) ?_
      exact xretI C0 hw hP hS d_LogCleaner_removeGoneRecords_55
    · replace hw := hw.2 cq
      refine lv_aload_n hx hb d_LogCleaner_removeGoneRecords_12 rfl (lv_at hl 0 rfl) ?_
      refine lv_aload_n hx hb d_LogCleaner_removeGoneRecords_13 rfl (lv_at hl 0 rfl) ?_
      refine xgetA hx hb htb i_LogCleaner hown hK hP (ci := 0) rfl 0 (by decide) (htb _ k_LogCleaner_11) (fun _ h9 => h9) hw d_LogCleaner_removeGoneRecords_14 (fun r4 hw => ?_)
      refine lv_iload_n hx hb d_LogCleaner_removeGoneRecords_17 rfl (lv_at hl 3 rfl) ?_
      obtain ⟨p5, hpe, hw⟩ := hw
      revert hw
      revert hl
      subst hpe
      intro hl hw
      replace hl : lv_has ls 4 [(0, .ref x0), (1, .int x1), (2, .int x2), (3, .int x3)] := hl
      refine xldq hx hb hK hP 1 rfl hw d_LogCleaner_removeGoneRecords_18 (fun r6 hw => ?_)
      obtain ⟨⟨_, hw0⟩, hw⟩ := hw
      refine xcalli (va_runV (b := x0) (As := [va_rf r6]) (rest := []) ⟨hx, hb, hml, hown, htb⟩ (m_LogCleaner_isClosed l D d h _ x0 r6 _ hw) (xcwV 1 htb g_code_LogCleaner_isClosed g_ini_LogCleaner k_LogCleaner_181 g_im_LogCleaner_isClosed g_sel_LogCleaner_isClosed rfl rfl (by decide +kernel) ⟨(Nat.le_of_ble_eq_true rfl), (Nat.le_of_ble_eq_true rfl)⟩) (xpreV hP hK hNB (ci := 0) rfl hw0) rfl rfl hl.1 rfl (lv_room (Nat.le_of_ble_eq_true rfl)) d_LogCleaner_removeGoneRecords_19 ⟨(Nat.le_of_ble_eq_true rfl), (Nat.le_of_ble_eq_true rfl)⟩) hP hS hA (fun r8 h7 H locs hw hP hS => ?_)
      refine W.widen (k := 0) (n := 0) (Nat.le_of_ble_eq_true rfl) (Nat.le_of_ble_eq_true rfl) ?_
      refine lv_if_eq (tgt := 38) hx hb d_LogCleaner_removeGoneRecords_22 (by decide) (fun cq => ?_) (fun cq => ?_)
      · replace hw := hw.1 cq
        exact sb_LogCleaner_removeGoneRecords_38 C0 hk4 x0 x1 x2 x3 h7 _ _ _ hw hP hS (lv_sub hl [0, 1, 2, 3] rfl)
      · replace hw := hw.2 cq
        refine lv_iload_n hx hb d_LogCleaner_removeGoneRecords_25 rfl (lv_at hl 2 rfl) ?_
        refine lv_aload_n hx hb d_LogCleaner_removeGoneRecords_26 rfl (lv_at hl 0 rfl) ?_
        refine xgetA hx hb htb i_LogCleaner hown hK hP (ci := 0) rfl 0 (by decide) (htb _ k_LogCleaner_11) (fun _ h9 => h9) hw d_LogCleaner_removeGoneRecords_27 (fun r9 hw => ?_)
        refine lv_iload_n hx hb d_LogCleaner_removeGoneRecords_30 rfl (lv_at hl 3 rfl) ?_
        obtain ⟨p10, hpe, hw⟩ := hw
        revert hw
        revert hl
        subst hpe
        intro hl hw
        replace hl : lv_has ls 4 [(0, .ref x0), (1, .int x1), (2, .int x2), (3, .int x3)] := hl
        refine xldq hx hb hK hP 1 rfl hw d_LogCleaner_removeGoneRecords_31 (fun r11 hw => ?_)
        refine lv_iload_n hx hb d_LogCleaner_removeGoneRecords_32 rfl (lv_at hl 1 rfl) ?_
        obtain ⟨p12, hpe, hw⟩ := hw
        revert hw
        revert hl
        subst hpe
        intro hl hw
        replace hl : lv_has ls 4 [(0, .ref x0), (1, .int x1), (2, .int x2), (3, .int x3)] := hl
        obtain ⟨⟨_, hw0⟩, hw⟩ := hw
        refine xcalli (va_runV (b := p12) (As := [.int x1]) (rest := [.int x2]) ⟨hx, hb, hml, hown, htb⟩ (m_Batch_removeGone l D d h7 _ p12 x1 _ hw) (xcwV 1 htb g_code_Batch_removeGone g_ini_Batch k_LogCleaner_185 g_im_Batch_removeGone g_sel_Batch_removeGone rfl rfl (by decide +kernel) ⟨(Nat.le_of_ble_eq_true rfl), (Nat.le_of_ble_eq_true rfl)⟩) (xpreV hP hK hNB (ci := 1) rfl hw0) rfl rfl hl.1 rfl (lv_room (Nat.le_of_ble_eq_true rfl)) d_LogCleaner_removeGoneRecords_33 ⟨(Nat.le_of_ble_eq_true rfl), (Nat.le_of_ble_eq_true rfl)⟩) hP hS hA (fun r14 h13 H locs hw hP hS => ?_)
        refine W.widen (k := 0) (n := 0) (Nat.le_of_ble_eq_true rfl) (Nat.le_of_ble_eq_true rfl) ?_
        refine lv_iadd hx hb d_LogCleaner_removeGoneRecords_36 ?_
        refine lv_istore_n (lv' := [(2, .int (x2 + r14)), (0, .ref x0), (1, .int x1), (3, .int x3)]) hx hb d_LogCleaner_removeGoneRecords_37 rfl hl (by decide) rfl (fun ls hl => ?_)
        exact sb_LogCleaner_removeGoneRecords_38 C0 hk4 x0 x1 (x2 + r14) x3 h13 _ _ _ hw hP hS (lv_sub hl [1, 2, 0, 3] rfl)

set_option maxHeartbeats 4000000 in
set_option maxRecDepth 100000 in
theorem m_LogCleaner_removeGoneRecords (l : Launch) (D : va_G) (d : Nat → ClassId) (h : xw) (sz : Nat) (a0 : Nat) (a1 : Int32) (Q : Int32 → xw → Prop) (hw : wp_LogCleaner_removeGoneRecords d h a0 a1 Q) : Met l y_LogCleaner_removeGoneRecords ws_LogCleaner_removeGoneRecords rm_LogCleaner_removeGoneRecords (xPre D d h [.ref a0, .int a1] sz) (va_Qi (fun r u => Q r u ∧ xfr sgX h u) (xB D d (xA h sz)) (xA h sz)) 0 0 (xA h sz) := by
  refine Met.ofW (cc := b_LogCleaner_removeGoneRecords) (maxL := 4) (ret := (some .int)) (by decide) rfl ?_
  intro p e s m args below meth c s₁ B hml hv
  obtain ⟨rfl, hsz, hP0, hK, hNB⟩ := hv
  have hts := atoms_spec (ws := ws_LogCleaner_removeGoneRecords) B.pre
  have htb := fun w (hw9 : w ∈ TB) => hts w (List.mem_cons_of_mem _ hw9)
  have hown : s.vm.findClass R_LogCleaner = some m.cls := findClass_of_methodNamed B.named
  subst hsz
  obtain ⟨A, hAe⟩ : ∃ A, A = xA h s.heap.size := ⟨_, rfl⟩
  rw [← hAe]
  have hP : xR sgX h D A h s.heap := ⟨by rw [hAe]; exact hP0.self, xfr.rf⟩
  have hA : ∀ q, s.heap.size ≤ q → A q := fun q hq => by rw [hAe]; exact Or.inr hq
  have hS : va_S A s.heap s.heap [] := va_S.rf
  have C0 : xctx p s m ([.ref a0, .int a1] : List Value).toArray meth c b_LogCleaner_removeGoneRecords 4 (some .int) R_LogCleaner D d A True := ⟨B.exec, B.bytes, B.returns, hml, hown, htb, hK, hA, hNB, B.notSynchronized, trivial⟩
  obtain ⟨hx, hb, hr, -, -, -, -, -, -, hlocks, hXT⟩ := id C0
  have hl := lv_entry ([.ref a0, .int a1] : List Value) (n := 4) (Nat.le_of_ble_eq_true rfl)
  rw [lg_entry_eq]
  generalize (lg_sl ([.ref a0, .int a1] : List Value) ++ List.replicate (4 - (lg_sl ([.ref a0, .int a1] : List Value)).length) Slot.unset).toArray = ls at hl ⊢
  have hl : lv_has ls 4 [(0, .ref a0), (1, .int a1)] := hl
  refine lv_iconst (v := 0) hx hb d_LogCleaner_removeGoneRecords_0 (by decide) ?_
  refine lv_istore_n (lv' := [(2, .int 0), (0, .ref a0), (1, .int a1)]) hx hb d_LogCleaner_removeGoneRecords_1 rfl hl (by decide) rfl (fun ls hl => ?_)
  refine lv_iconst (v := 0) hx hb d_LogCleaner_removeGoneRecords_2 (by decide) ?_
  refine lv_istore_n (lv' := [(3, .int 0), (2, .int 0), (0, .ref a0), (1, .int a1)]) hx hb d_LogCleaner_removeGoneRecords_3 rfl hl (by decide) rfl (fun ls hl => ?_)
  obtain ⟨n, hw⟩ := hw
  exact sl_LogCleaner_removeGoneRecords_4 C0 n (a0, a1, 0, 0) h _ _ _ hw hP hS (lv_sub hl [2, 3, 1, 0] rfl)

theorem d_LogCleaner_isKnown_0 : decode b_LogCleaner_isKnown 0 = .ok (.aload_n 0, 1) := by decide +kernel
theorem d_LogCleaner_isKnown_1 : decode b_LogCleaner_isKnown 1 = .ok (.getfield 11, 3) := by decide +kernel
theorem d_LogCleaner_isKnown_4 : decode b_LogCleaner_isKnown 4 = .ok (.iload_n 1, 1) := by decide +kernel
theorem d_LogCleaner_isKnown_5 : decode b_LogCleaner_isKnown 5 = .ok (.aaload, 1) := by decide +kernel
theorem d_LogCleaner_isKnown_6 : decode b_LogCleaner_isKnown 6 = .ok (.getfield 122, 3) := by decide +kernel
theorem d_LogCleaner_isKnown_9 : decode b_LogCleaner_isKnown 9 = .ok (.istore_n 2, 1) := by decide +kernel
theorem d_LogCleaner_isKnown_10 : decode b_LogCleaner_isKnown 10 = .ok (.iload_n 2, 1) := by decide +kernel
theorem d_LogCleaner_isKnown_11 : decode b_LogCleaner_isKnown 11 = .ok (.iconst (-1), 1) := by decide +kernel
theorem d_LogCleaner_isKnown_12 : decode b_LogCleaner_isKnown 12 = .ok (.if_icmp .ne 5, 3) := by decide +kernel
theorem d_LogCleaner_isKnown_15 : decode b_LogCleaner_isKnown 15 = .ok (.iconst 0, 1) := by decide +kernel
theorem d_LogCleaner_isKnown_16 : decode b_LogCleaner_isKnown 16 = .ok (.ireturn, 1) := by decide +kernel
theorem d_LogCleaner_isKnown_17 : decode b_LogCleaner_isKnown 17 = .ok (.iconst 0, 1) := by decide +kernel
theorem d_LogCleaner_isKnown_18 : decode b_LogCleaner_isKnown 18 = .ok (.istore_n 3, 1) := by decide +kernel
theorem d_LogCleaner_isKnown_19 : decode b_LogCleaner_isKnown 19 = .ok (.iload_n 1, 1) := by decide +kernel
theorem d_LogCleaner_isKnown_20 : decode b_LogCleaner_isKnown 20 = .ok (.iconst 1, 1) := by decide +kernel
theorem d_LogCleaner_isKnown_21 : decode b_LogCleaner_isKnown 21 = .ok (.iadd, 1) := by decide +kernel
theorem d_LogCleaner_isKnown_22 : decode b_LogCleaner_isKnown 22 = .ok (.istore 4, 2) := by decide +kernel
theorem d_LogCleaner_isKnown_24 : decode b_LogCleaner_isKnown 24 = .ok (.iload 4, 2) := by decide +kernel
theorem d_LogCleaner_isKnown_26 : decode b_LogCleaner_isKnown 26 = .ok (.aload_n 0, 1) := by decide +kernel
theorem d_LogCleaner_isKnown_27 : decode b_LogCleaner_isKnown 27 = .ok (.getfield 15, 3) := by decide +kernel
theorem d_LogCleaner_isKnown_30 : decode b_LogCleaner_isKnown 30 = .ok (.if_icmp .ge 26, 3) := by decide +kernel
theorem d_LogCleaner_isKnown_33 : decode b_LogCleaner_isKnown 33 = .ok (.aload_n 0, 1) := by decide +kernel
theorem d_LogCleaner_isKnown_34 : decode b_LogCleaner_isKnown 34 = .ok (.getfield 11, 3) := by decide +kernel
theorem d_LogCleaner_isKnown_37 : decode b_LogCleaner_isKnown 37 = .ok (.iload 4, 2) := by decide +kernel
theorem d_LogCleaner_isKnown_39 : decode b_LogCleaner_isKnown 39 = .ok (.aaload, 1) := by decide +kernel
theorem d_LogCleaner_isKnown_40 : decode b_LogCleaner_isKnown 40 = .ok (.getfield 122, 3) := by decide +kernel
theorem d_LogCleaner_isKnown_43 : decode b_LogCleaner_isKnown 43 = .ok (.iload_n 2, 1) := by decide +kernel
theorem d_LogCleaner_isKnown_44 : decode b_LogCleaner_isKnown 44 = .ok (.if_icmp .ne 6, 3) := by decide +kernel
theorem d_LogCleaner_isKnown_47 : decode b_LogCleaner_isKnown 47 = .ok (.iinc 3 1, 3) := by decide +kernel
theorem d_LogCleaner_isKnown_50 : decode b_LogCleaner_isKnown 50 = .ok (.iinc 4 1, 3) := by decide +kernel
theorem d_LogCleaner_isKnown_53 : decode b_LogCleaner_isKnown 53 = .ok (.goto (-29), 3) := by decide +kernel
theorem d_LogCleaner_isKnown_56 : decode b_LogCleaner_isKnown 56 = .ok (.iload_n 3, 1) := by decide +kernel
theorem d_LogCleaner_isKnown_57 : decode b_LogCleaner_isKnown 57 = .ok (.iconst 2, 1) := by decide +kernel
theorem d_LogCleaner_isKnown_58 : decode b_LogCleaner_isKnown 58 = .ok (.if_icmp .ge 7, 3) := by decide +kernel
theorem d_LogCleaner_isKnown_61 : decode b_LogCleaner_isKnown 61 = .ok (.iconst 1, 1) := by decide +kernel
theorem d_LogCleaner_isKnown_62 : decode b_LogCleaner_isKnown 62 = .ok (.goto 4, 3) := by decide +kernel
theorem d_LogCleaner_isKnown_65 : decode b_LogCleaner_isKnown 65 = .ok (.iconst 0, 1) := by decide +kernel
theorem d_LogCleaner_isKnown_66 : decode b_LogCleaner_isKnown 66 = .ok (.ireturn, 1) := by decide +kernel
def rm_LogCleaner_isKnown : Room := { frames := 0, cells := 0, slots := 0, locals := 0 }
def ws_LogCleaner_isKnown : List Cond := Cond.code y_LogCleaner_isKnown b_LogCleaner_isKnown 5 (some .boolean) :: TB
set_option maxHeartbeats 4000000 in
set_option maxRecDepth 100000 in
theorem sb_LogCleaner_isKnown_66 {p : Program} {l : Launch} {e : Env} {s : State} {m : MethodId} {args : Array Value} {below : List Frame} {meth : Method} {c : Code} {D : va_G} {d : Nat → ClassId} {A : Nat → Prop} {h0 : xw} {Q : Int32 → xw → Prop} (C0 : xctx p s m args meth c b_LogCleaner_isKnown 5 (some .boolean) R_LogCleaner D d A True) : ∀ (s0 : Int32) (h : xw) (H : Heap) (locs : List Loc) (ls : Array Slot), wb_LogCleaner_isKnown_66 d Q  s0 h → xR sgX h0 D A h H → va_S A s.heap H locs → lv_has ls 5 [] → W p l e rm_LogCleaner_isKnown s m args below meth c H locs 0 0 (MQ below (va_Qi (fun r u => Q r u ∧ xfr sgX h0 u) (xB D d A) A) args s 0 0 A) (F0 m 66 ls [.int s0]) := by
  obtain ⟨hx, hb, hr, hml, hown, htb, hK, hA, hNB, hlocks, hXT⟩ := id C0
  intro  s0 h H locs ls hw hP hS hl
  refine W.widen (k := 0) (n := 0) (Nat.le_of_ble_eq_true rfl) (Nat.le_of_ble_eq_true rfl) ?_
  exact xretZ C0 hw hP hS d_LogCleaner_isKnown_66

set_option maxHeartbeats 4000000 in
set_option maxRecDepth 100000 in
theorem sb_LogCleaner_isKnown_50 {p : Program} {l : Launch} {e : Env} {s : State} {m : MethodId} {args : Array Value} {below : List Frame} {meth : Method} {c : Code} {D : va_G} {d : Nat → ClassId} {A : Nat → Prop} {h0 : xw} {Q : Int32 → xw → Prop} {k24 : Nat → Int32 → Int32 → Int32 → xw → Prop} (C0 : xctx p s m args meth c b_LogCleaner_isKnown 5 (some .boolean) R_LogCleaner D d A True) (hk24 : ∀ (x0 : Nat) (x2 : Int32) (x3 : Int32) (x4 : Int32) (h : xw) (H : Heap) (locs : List Loc) (ls : Array Slot), k24 x0 x2 x3 x4 h → xR sgX h0 D A h H → va_S A s.heap H locs → lv_has ls 5 [(0, .ref x0), (2, .int x2), (3, .int x3), (4, .int x4)] → W p l e rm_LogCleaner_isKnown s m args below meth c H locs 0 0 (MQ below (va_Qi (fun r u => Q r u ∧ xfr sgX h0 u) (xB D d A) A) args s 0 0 A) (F0 m 24 ls [])) : ∀ (x0 : Nat) (x2 : Int32) (x3 : Int32) (x4 : Int32) (h : xw) (H : Heap) (locs : List Loc) (ls : Array Slot), wb_LogCleaner_isKnown_50 d k24 Q x0 x2 x3 x4 h → xR sgX h0 D A h H → va_S A s.heap H locs → lv_has ls 5 [(0, .ref x0), (2, .int x2), (3, .int x3), (4, .int x4)] → W p l e rm_LogCleaner_isKnown s m args below meth c H locs 0 0 (MQ below (va_Qi (fun r u => Q r u ∧ xfr sgX h0 u) (xB D d A) A) args s 0 0 A) (F0 m 50 ls []) := by
  obtain ⟨hx, hb, hr, hml, hown, htb, hK, hA, hNB, hlocks, hXT⟩ := id C0
  intro x0 x2 x3 x4 h H locs ls hw hP hS hl
  refine lv_iinc (v := x4 + 1) (lv' := [(4, .int (x4 + 1)), (0, .ref x0), (2, .int x2), (3, .int x3)]) hx hb d_LogCleaner_isKnown_50 hl (k := 3) rfl rfl (by decide) rfl (fun ls hl => ?_)
  refine lv_goto (tgt := 24) hx hb d_LogCleaner_isKnown_53 (by decide) ?_
  exact hk24 x0 x2 x3 (x4 + 1) h _ _ _ hw hP hS (lv_sub hl [1, 2, 3, 0] rfl)

set_option maxHeartbeats 4000000 in
set_option maxRecDepth 100000 in
theorem sl_LogCleaner_isKnown_24 {p : Program} {l : Launch} {e : Env} {s : State} {m : MethodId} {args : Array Value} {below : List Frame} {meth : Method} {c : Code} {D : va_G} {d : Nat → ClassId} {A : Nat → Prop} {h0 : xw} {Q : Int32 → xw → Prop} (C0 : xctx p s m args meth c b_LogCleaner_isKnown 5 (some .boolean) R_LogCleaner D d A True) : ∀ (n : Nat) (x : Nat × Int32 × Int32 × Int32) (h : xw) (H : Heap) (locs : List Loc) (ls : Array Slot), xloop (fun (k : Nat × Int32 × Int32 × Int32 → xw → Prop) (x : Nat × Int32 × Int32 × Int32) (h : xw) => wc_LogCleaner_isKnown_24 d Q (fun y0 y2 y3 y4 h => k (y0, y2, y3, y4) h) x.1 x.2.1 x.2.2.1 x.2.2.2 h) n x h → xR sgX h0 D A h H → va_S A s.heap H locs → lv_has ls 5 [(0, .ref x.1), (2, .int x.2.1), (3, .int x.2.2.1), (4, .int x.2.2.2)] → W p l e rm_LogCleaner_isKnown s m args below meth c H locs 0 0 (MQ below (va_Qi (fun r u => Q r u ∧ xfr sgX h0 u) (xB D d A) A) args s 0 0 A) (F0 m 24 ls []) := by
  obtain ⟨hx, hb, hr, hml, hown, htb, hK, hA, hNB, hlocks, hXT⟩ := id C0
  intro n
  induction n with
  | zero => intro x h H locs ls hw; exact hw.elim
  | succ n ih =>
    rintro ⟨x0, x2, x3, x4⟩ h H locs ls hw hP hS hl
    replace hw : wc_LogCleaner_isKnown_24 d Q (fun y0 y2 y3 y4 h => xloop (fun (k : Nat × Int32 × Int32 × Int32 → xw → Prop) (x : Nat × Int32 × Int32 × Int32) (h : xw) => wc_LogCleaner_isKnown_24 d Q (fun y0 y2 y3 y4 h => k (y0, y2, y3, y4) h) x.1 x.2.1 x.2.2.1 x.2.2.2 h) n (y0, y2, y3, y4) h) x0 x2 x3 x4 h := hw
    have hk24 := fun (x0 : Nat) (x2 : Int32) (x3 : Int32) (x4 : Int32) => ih (x0, x2, x3, x4)
    refine lv_iload hx hb d_LogCleaner_isKnown_24 (lv_at hl 3 rfl) ?_
    refine lv_aload_n hx hb d_LogCleaner_isKnown_26 rfl (lv_at hl 0 rfl) ?_
    refine xgetI hx hb htb i_LogCleaner hown hK hP (ci := 0) rfl 1 (by decide) (htb _ k_LogCleaner_15) (fun _ h9 => h9) hw d_LogCleaner_isKnown_27 (fun v6 hw => ?_)
    refine lv_icmp_ge (tgt := 56) hx hb d_LogCleaner_isKnown_30 (by decide) (fun cq => ?_) (fun cq => ?_)
    · replace hw := hw.1 cq
      refine lv_iload_n hx hb d_LogCleaner_isKnown_56 rfl (lv_at hl 2 rfl) ?_
      refine lv_iconst (v := 2) hx hb d_LogCleaner_isKnown_57 (by decide) ?_
      refine lv_icmp_ge (tgt := 65) hx hb d_LogCleaner_isKnown_58 (by decide) (fun cq => ?_) (fun cq => ?_)
      · replace hw := hw.1 cq
        refine lv_iconst (v := 0) hx hb d_LogCleaner_isKnown_65 (by decide) ?_
        exact sb_LogCleaner_isKnown_66 C0 0 h _ _ _ hw hP hS (lv_sub hl [] rfl)
      · replace hw := hw.2 cq
        refine lv_iconst (v := 1) hx hb d_LogCleaner_isKnown_61 (by decide) ?_
        refine lv_goto (tgt := 66) hx hb d_LogCleaner_isKnown_62 (by decide) ?_
        exact sb_LogCleaner_isKnown_66 C0 1 h _ _ _ hw hP hS (lv_sub hl [] rfl)
    · replace hw := hw.2 cq
      refine lv_aload_n hx hb d_LogCleaner_isKnown_33 rfl (lv_at hl 0 rfl) ?_
      refine xgetA hx hb htb i_LogCleaner hown hK hP (ci := 0) rfl 0 (by decide) (htb _ k_LogCleaner_11) (fun _ h9 => h9) hw d_LogCleaner_isKnown_34 (fun r7 hw => ?_)
      refine lv_iload hx hb d_LogCleaner_isKnown_37 (lv_at hl 3 rfl) ?_
      obtain ⟨p8, hpe, hw⟩ := hw
      revert hw
      revert hl
      subst hpe
      intro hl hw
      replace hl : lv_has ls 5 [(0, .ref x0), (2, .int x2), (3, .int x3), (4, .int x4)] := hl
      refine xldq hx hb hK hP 1 rfl hw d_LogCleaner_isKnown_39 (fun r9 hw => ?_)
      obtain ⟨p10, hpe, hw⟩ := hw
      revert hw
      revert hl
      subst hpe
      intro hl hw
      replace hl : lv_has ls 5 [(0, .ref x0), (2, .int x2), (3, .int x3), (4, .int x4)] := hl
      refine xgetI hx hb htb i_Batch hown hK hP (ci := 1) rfl 1 (by decide) (htb _ k_LogCleaner_122) (fun _ h9 => h9) hw d_LogCleaner_isKnown_40 (fun v11 hw => ?_)
      refine lv_iload_n hx hb d_LogCleaner_isKnown_43 rfl (lv_at hl 1 rfl) ?_
      refine lv_icmp_ne (tgt := 50) hx hb d_LogCleaner_isKnown_44 (by decide) (fun cq => ?_) (fun cq => ?_)
      · replace hw := hw.2 cq
        exact sb_LogCleaner_isKnown_50 C0 hk24 x0 x2 x3 x4 h _ _ _ hw hP hS (lv_sub hl [0, 1, 2, 3] rfl)
      · replace hw := hw.1 cq
        refine lv_iinc (v := x3 + 1) (lv' := [(3, .int (x3 + 1)), (0, .ref x0), (2, .int x2), (4, .int x4)]) hx hb d_LogCleaner_isKnown_47 hl (k := 2) rfl rfl (by decide) rfl (fun ls hl => ?_)
        exact sb_LogCleaner_isKnown_50 C0 hk24 x0 x2 (x3 + 1) x4 h _ _ _ hw hP hS (lv_sub hl [1, 2, 0, 3] rfl)

set_option maxHeartbeats 4000000 in
set_option maxRecDepth 100000 in
theorem m_LogCleaner_isKnown (l : Launch) (D : va_G) (d : Nat → ClassId) (h : xw) (sz : Nat) (a0 : Nat) (a1 : Int32) (Q : Int32 → xw → Prop) (hw : wp_LogCleaner_isKnown d h a0 a1 Q) : Met l y_LogCleaner_isKnown ws_LogCleaner_isKnown rm_LogCleaner_isKnown (xPre D d h [.ref a0, .int a1] sz) (va_Qi (fun r u => Q r u ∧ xfr sgX h u) (xB D d (xA h sz)) (xA h sz)) 0 0 (xA h sz) := by
  refine Met.ofW (cc := b_LogCleaner_isKnown) (maxL := 5) (ret := (some .boolean)) (by decide) rfl ?_
  intro p e s m args below meth c s₁ B hml hv
  obtain ⟨rfl, hsz, hP0, hK, hNB⟩ := hv
  have hts := atoms_spec (ws := ws_LogCleaner_isKnown) B.pre
  have htb := fun w (hw9 : w ∈ TB) => hts w (List.mem_cons_of_mem _ hw9)
  have hown : s.vm.findClass R_LogCleaner = some m.cls := findClass_of_methodNamed B.named
  subst hsz
  obtain ⟨A, hAe⟩ : ∃ A, A = xA h s.heap.size := ⟨_, rfl⟩
  rw [← hAe]
  have hP : xR sgX h D A h s.heap := ⟨by rw [hAe]; exact hP0.self, xfr.rf⟩
  have hA : ∀ q, s.heap.size ≤ q → A q := fun q hq => by rw [hAe]; exact Or.inr hq
  have hS : va_S A s.heap s.heap [] := va_S.rf
  have C0 : xctx p s m ([.ref a0, .int a1] : List Value).toArray meth c b_LogCleaner_isKnown 5 (some .boolean) R_LogCleaner D d A True := ⟨B.exec, B.bytes, B.returns, hml, hown, htb, hK, hA, hNB, B.notSynchronized, trivial⟩
  obtain ⟨hx, hb, hr, -, -, -, -, -, -, hlocks, hXT⟩ := id C0
  have hl := lv_entry ([.ref a0, .int a1] : List Value) (n := 5) (Nat.le_of_ble_eq_true rfl)
  rw [lg_entry_eq]
  generalize (lg_sl ([.ref a0, .int a1] : List Value) ++ List.replicate (5 - (lg_sl ([.ref a0, .int a1] : List Value)).length) Slot.unset).toArray = ls at hl ⊢
  have hl : lv_has ls 5 [(0, .ref a0), (1, .int a1)] := hl
  refine lv_aload_n hx hb d_LogCleaner_isKnown_0 rfl (lv_at hl 0 rfl) ?_
  refine xgetA hx hb htb i_LogCleaner hown hK hP (ci := 0) rfl 0 (by decide) (htb _ k_LogCleaner_11) (fun _ h9 => h9) hw d_LogCleaner_isKnown_1 (fun r1 hw => ?_)
  refine lv_iload_n hx hb d_LogCleaner_isKnown_4 rfl (lv_at hl 1 rfl) ?_
  obtain ⟨p2, hpe, hw⟩ := hw
  revert hw
  revert hl
  subst hpe
  intro hl hw
  replace hl : lv_has ls 5 [(0, .ref a0), (1, .int a1)] := hl
  refine xldq hx hb hK hP 1 rfl hw d_LogCleaner_isKnown_5 (fun r3 hw => ?_)
  obtain ⟨p4, hpe, hw⟩ := hw
  revert hw
  revert hl
  subst hpe
  intro hl hw
  replace hl : lv_has ls 5 [(0, .ref a0), (1, .int a1)] := hl
  refine xgetI hx hb htb i_Batch hown hK hP (ci := 1) rfl 1 (by decide) (htb _ k_LogCleaner_122) (fun _ h9 => h9) hw d_LogCleaner_isKnown_6 (fun v5 hw => ?_)
  refine lv_istore_n (lv' := [(2, .int v5), (0, .ref a0), (1, .int a1)]) hx hb d_LogCleaner_isKnown_9 rfl hl (by decide) rfl (fun ls hl => ?_)
  refine lv_iload_n hx hb d_LogCleaner_isKnown_10 rfl (lv_at hl 0 rfl) ?_
  refine lv_iconst (v := (-1)) hx hb d_LogCleaner_isKnown_11 (by decide) ?_
  refine lv_icmp_ne (tgt := 17) hx hb d_LogCleaner_isKnown_12 (by decide) (fun cq => ?_) (fun cq => ?_)
  · replace hw := hw.2 cq
    refine lv_iconst (v := 0) hx hb d_LogCleaner_isKnown_17 (by decide) ?_
    refine lv_istore_n (lv' := [(3, .int 0), (2, .int v5), (0, .ref a0), (1, .int a1)]) hx hb d_LogCleaner_isKnown_18 rfl hl (by decide) rfl (fun ls hl => ?_)
    refine lv_iload_n hx hb d_LogCleaner_isKnown_19 rfl (lv_at hl 3 rfl) ?_
    refine lv_iconst (v := 1) hx hb d_LogCleaner_isKnown_20 (by decide) ?_
    refine lv_iadd hx hb d_LogCleaner_isKnown_21 ?_
    refine lv_istore (lv' := [(4, .int (a1 + 1)), (3, .int 0), (2, .int v5), (0, .ref a0), (1, .int a1)]) hx hb d_LogCleaner_isKnown_22 hl (by decide) rfl (fun ls hl => ?_)
    obtain ⟨n, hw⟩ := hw
    exact sl_LogCleaner_isKnown_24 C0 n (a0, v5, 0, (a1 + 1)) h _ _ _ hw hP hS (lv_sub hl [3, 2, 1, 0] rfl)
  · replace hw := hw.1 cq
    refine lv_iconst (v := 0) hx hb d_LogCleaner_isKnown_15 (by decide) ?_
    refine W.widen (k := 0) (n := 0) (Nat.le_of_ble_eq_true rfl) (Nat.le_of_ble_eq_true rfl) ?_
    exact xretZ C0 hw hP hS d_LogCleaner_isKnown_16

