theorem d_Batch_init_0 : decode b_Batch_init 0 = .ok (.aload_n 0, 1) := by decide +kernel
theorem d_Batch_init_1 : decode b_Batch_init 1 = .ok (.invokespecial 3, 3) := by decide +kernel
theorem d_Batch_init_4 : decode b_Batch_init 4 = .ok (.aload_n 0, 1) := by decide +kernel
theorem d_Batch_init_5 : decode b_Batch_init 5 = .ok (.iconst 0, 1) := by decide +kernel
theorem d_Batch_init_6 : decode b_Batch_init 6 = .ok (.putfield 9, 3) := by decide +kernel
theorem d_Batch_init_9 : decode b_Batch_init 9 = .ok (.aload_n 0, 1) := by decide +kernel
theorem d_Batch_init_10 : decode b_Batch_init 10 = .ok (.iconst (-1), 1) := by decide +kernel
theorem d_Batch_init_11 : decode b_Batch_init 11 = .ok (.putfield 15, 3) := by decide +kernel
theorem d_Batch_init_14 : decode b_Batch_init 14 = .ok (.aload_n 0, 1) := by decide +kernel
theorem d_Batch_init_15 : decode b_Batch_init 15 = .ok (.iload_n 1, 1) := by decide +kernel
theorem d_Batch_init_16 : decode b_Batch_init 16 = .ok (.putfield 18, 3) := by decide +kernel
theorem d_Batch_init_19 : decode b_Batch_init 19 = .ok (.aload_n 0, 1) := by decide +kernel
theorem d_Batch_init_20 : decode b_Batch_init 20 = .ok (.iload_n 2, 1) := by decide +kernel
theorem d_Batch_init_21 : decode b_Batch_init 21 = .ok (.putfield 21, 3) := by decide +kernel
theorem d_Batch_init_24 : decode b_Batch_init 24 = .ok (.aload_n 0, 1) := by decide +kernel
theorem d_Batch_init_25 : decode b_Batch_init 25 = .ok (.iload_n 3, 1) := by decide +kernel
theorem d_Batch_init_26 : decode b_Batch_init 26 = .ok (.iconst 0, 1) := by decide +kernel
theorem d_Batch_init_27 : decode b_Batch_init 27 = .ok (.invokestatic 24, 3) := by decide +kernel
theorem d_Batch_init_30 : decode b_Batch_init 30 = .ok (.anewarray 30, 3) := by decide +kernel
theorem d_Batch_init_33 : decode b_Batch_init 33 = .ok (.putfield 32, 3) := by decide +kernel
theorem d_Batch_init_36 : decode b_Batch_init 36 = .ok (.return_, 1) := by decide +kernel
def rm_Batch_init : Room := { frames := 1, cells := 1, slots := 100, locals := 14 }
def ws_Batch_init : List Cond := Cond.code y_Batch_init b_Batch_init 4 none :: TB
set_option maxHeartbeats 4000000 in
set_option maxRecDepth 100000 in
theorem m_Batch_init (l : Launch) (D : va_G) (d : Nat → ClassId) (h : xw) (sz : Nat) (a0 : Nat) (a1 : Int32) (a2 : Int32) (a3 : Int32) (Q : xw → Prop) (hw : wp_Batch_init d h a0 a1 a2 a3 Q) : Met l y_Batch_init ws_Batch_init rm_Batch_init (xPre D d h [.ref a0, .int a1, .int a2, .int a3] sz) (va_Qv (fun u => Q u ∧ xfr sgX h u) (xB D d (xA h sz)) (xA h sz)) 1 100 (xA h sz) := by
  refine Met.ofW (cc := b_Batch_init) (maxL := 4) (ret := none) (by decide) rfl ?_
  intro p e s m args below meth c s₁ B hml hv
  obtain ⟨rfl, hsz, hP0, hK, hNB⟩ := hv
  have hts := atoms_spec (ws := ws_Batch_init) B.pre
  have htb := fun w (hw9 : w ∈ TB) => hts w (List.mem_cons_of_mem _ hw9)
  have hown : s.vm.findClass R_Batch = some m.cls := findClass_of_methodNamed B.named
  subst hsz
  obtain ⟨A, hAe⟩ : ∃ A, A = xA h s.heap.size := ⟨_, rfl⟩
  rw [← hAe]
  have hP : xR sgX h D A h s.heap := ⟨by rw [hAe]; exact hP0.self, xfr.rf⟩
  have hA : ∀ q, s.heap.size ≤ q → A q := fun q hq => by rw [hAe]; exact Or.inr hq
  have hS : va_S A s.heap s.heap [] := va_S.rf
  have C0 : xctx p s m ([.ref a0, .int a1, .int a2, .int a3] : List Value).toArray meth c b_Batch_init 4 none R_Batch D d A (meth.name = "<init>") := ⟨B.exec, B.bytes, B.returns, hml, hown, htb, hK, hA, hNB, B.notSynchronized, (name_of_methodNamed B.named B.method).1⟩
  obtain ⟨hx, hb, hr, -, -, -, -, -, -, hlocks, hXT⟩ := id C0
  have hl := lv_entry ([.ref a0, .int a1, .int a2, .int a3] : List Value) (n := 4) (Nat.le_of_ble_eq_true rfl)
  rw [lg_entry_eq]
  generalize (lg_sl ([.ref a0, .int a1, .int a2, .int a3] : List Value) ++ List.replicate (4 - (lg_sl ([.ref a0, .int a1, .int a2, .int a3] : List Value)).length) Slot.unset).toArray = ls at hl ⊢
  have hl : lv_has ls 4 [(0, .ref a0), (1, .int a1), (2, .int a2), (3, .int a3)] := hl
  refine lv_aload_n hx hb d_Batch_init_0 rfl (lv_at hl 0 rfl) ?_
  refine W.objInit hx hb hown (htb _ k_Batch_3) (htb _ g_im_obj) (htb _ g_code_obj) rfl (by rw [hml]; exact hl.1) rfl d_Batch_init_1 (Nat.le_of_ble_eq_true rfl) (Nat.le_of_ble_eq_true rfl) ?_
  refine W.eq (g2 := F0 m 4 ls []) rfl ?_
  refine lv_aload_n hx hb d_Batch_init_4 rfl (lv_at hl 0 rfl) ?_
  refine lv_iconst (v := 0) hx hb d_Batch_init_5 (by decide) ?_
  refine xputI hx hb htb i_Batch t_Batch t_Batch_ok n_Batch hown hK hP hS (ci := 1) rfl (fun _ => rfl) 3 (by decide) (htb _ k_Batch_9) (fun _ h9 => h9) rfl (by decide +kernel) hw d_Batch_init_6 (fun h1 H locs hw hP hS => ?_)
  refine lv_aload_n hx hb d_Batch_init_9 rfl (lv_at hl 0 rfl) ?_
  refine lv_iconst (v := (-1)) hx hb d_Batch_init_10 (by decide) ?_
  refine xputI hx hb htb i_Batch t_Batch t_Batch_ok n_Batch hown hK hP hS (ci := 1) rfl (fun _ => rfl) 4 (by decide) (htb _ k_Batch_15) (fun _ h9 => h9) rfl (by decide +kernel) hw d_Batch_init_11 (fun h2 H locs hw hP hS => ?_)
  refine lv_aload_n hx hb d_Batch_init_14 rfl (lv_at hl 0 rfl) ?_
  refine lv_iload_n hx hb d_Batch_init_15 rfl (lv_at hl 1 rfl) ?_
  refine xputFI hx hb htb i_Batch t_Batch t_Batch_ok n_Batch hown hK hP hS (ci := 1) rfl (fun _ => rfl) 0 (by decide) (htb _ k_Batch_18) (fun _ h9 => h9) rfl hXT rfl (by decide +kernel) hw d_Batch_init_16 (fun h3 H locs hw hP hS => ?_)
  refine lv_aload_n hx hb d_Batch_init_19 rfl (lv_at hl 0 rfl) ?_
  refine lv_iload_n hx hb d_Batch_init_20 rfl (lv_at hl 2 rfl) ?_
  refine xputFI hx hb htb i_Batch t_Batch t_Batch_ok n_Batch hown hK hP hS (ci := 1) rfl (fun _ => rfl) 1 (by decide) (htb _ k_Batch_21) (fun _ h9 => h9) rfl hXT rfl (by decide +kernel) hw d_Batch_init_21 (fun h4 H locs hw hP hS => ?_)
  refine lv_aload_n hx hb d_Batch_init_24 rfl (lv_at hl 0 rfl) ?_
  refine lv_iload_n hx hb d_Batch_init_25 rfl (lv_at hl 3 rfl) ?_
  refine lv_iconst (v := 0) hx hb d_Batch_init_26 (by decide) ?_
  refine va_mmax hx hb (hml.trans hl.1.symm) hown (htb _ k_Batch_24) (htb _ g_st_Lib_Math_max_name) (htb _ g_ini_java_lang_Math) (htb _ g_code_mmax) (Nat.le_of_ble_eq_true rfl) (Nat.le_of_ble_eq_true rfl) (Nat.le_of_ble_eq_true rfl) (Nat.le_of_ble_eq_true rfl) d_Batch_init_27 ?_
  refine xnewq (B := 100) hx hb hown (htb _ k_Batch_30c) (hNB.2 _ (List.mem_cons_of_mem _ List.mem_cons_self)) hK hP hS hA 0 rfl (by decide) (Nat.le_of_ble_eq_true rfl) (Nat.le_of_ble_eq_true rfl) hw d_Batch_init_30 (fun q6 h5 H hw hP hS => ?_)
  refine W.widen (k := 1) (n := 100) (Nat.le_of_ble_eq_true rfl) (Nat.le_of_ble_eq_true rfl) ?_
  refine xputFQ (t9 := (.object "LogCleaner$Entry")) hx hb htb i_Batch t_Batch t_Batch_ok n_Batch hown hK hP hS (ci := 1) rfl (fun _ => rfl) 2 (by decide) (htb _ k_Batch_32) (fun _ h9 => h9) rfl hXT rfl (by decide +kernel) hw d_Batch_init_33 (fun h7 H locs hw hP hS => ?_)
  refine W.widen (k := 1) (n := 100) (Nat.le_of_ble_eq_true rfl) (Nat.le_of_ble_eq_true rfl) ?_
  exact xretV C0 hw hP hS d_Batch_init_36

theorem d_Batch_append_0 : decode b_Batch_append 0 = .ok (.aload_n 0, 1) := by decide +kernel
theorem d_Batch_append_1 : decode b_Batch_append 1 = .ok (.getfield 9, 3) := by decide +kernel
theorem d_Batch_append_4 : decode b_Batch_append 4 = .ok (.aload_n 0, 1) := by decide +kernel
theorem d_Batch_append_5 : decode b_Batch_append 5 = .ok (.getfield 32, 3) := by decide +kernel
theorem d_Batch_append_8 : decode b_Batch_append 8 = .ok (.arraylength, 1) := by decide +kernel
theorem d_Batch_append_9 : decode b_Batch_append 9 = .ok (.if_icmp .ge 23, 3) := by decide +kernel
theorem d_Batch_append_12 : decode b_Batch_append 12 = .ok (.aload_n 0, 1) := by decide +kernel
theorem d_Batch_append_13 : decode b_Batch_append 13 = .ok (.getfield 32, 3) := by decide +kernel
theorem d_Batch_append_16 : decode b_Batch_append 16 = .ok (.aload_n 0, 1) := by decide +kernel
theorem d_Batch_append_17 : decode b_Batch_append 17 = .ok (.getfield 9, 3) := by decide +kernel
theorem d_Batch_append_20 : decode b_Batch_append 20 = .ok (.aload_n 1, 1) := by decide +kernel
theorem d_Batch_append_21 : decode b_Batch_append 21 = .ok (.aastore, 1) := by decide +kernel
theorem d_Batch_append_22 : decode b_Batch_append 22 = .ok (.aload_n 0, 1) := by decide +kernel
theorem d_Batch_append_23 : decode b_Batch_append 23 = .ok (.dup, 1) := by decide +kernel
theorem d_Batch_append_24 : decode b_Batch_append 24 = .ok (.getfield 9, 3) := by decide +kernel
theorem d_Batch_append_27 : decode b_Batch_append 27 = .ok (.iconst 1, 1) := by decide +kernel
theorem d_Batch_append_28 : decode b_Batch_append 28 = .ok (.iadd, 1) := by decide +kernel
theorem d_Batch_append_29 : decode b_Batch_append 29 = .ok (.putfield 9, 3) := by decide +kernel
theorem d_Batch_append_32 : decode b_Batch_append 32 = .ok (.return_, 1) := by decide +kernel
def rm_Batch_append : Room := { frames := 0, cells := 0, slots := 0, locals := 0 }
def ws_Batch_append : List Cond := Cond.code y_Batch_append b_Batch_append 2 none :: TB
set_option maxHeartbeats 4000000 in
set_option maxRecDepth 100000 in
theorem sb_Batch_append_32 {p : Program} {l : Launch} {e : Env} {s : State} {m : MethodId} {args : Array Value} {below : List Frame} {meth : Method} {c : Code} {D : va_G} {d : Nat → ClassId} {A : Nat → Prop} {h0 : xw} {Q : xw → Prop} (C0 : xctx p s m args meth c b_Batch_append 2 none R_Batch D d A True) : ∀ (h : xw) (H : Heap) (locs : List Loc) (ls : Array Slot), wb_Batch_append_32 d Q  h → xR sgX h0 D A h H → va_S A s.heap H locs → lv_has ls 2 [] → W p l e rm_Batch_append s m args below meth c H locs 0 0 (MQ below (va_Qv (fun u => Q u ∧ xfr sgX h0 u) (xB D d A) A) args s 0 0 A) (F0 m 32 ls []) := by
  obtain ⟨hx, hb, hr, hml, hown, htb, hK, hA, hNB, hlocks, hXT⟩ := id C0
  intro  h H locs ls hw hP hS hl
  refine W.widen (k := 0) (n := 0) (Nat.le_of_ble_eq_true rfl) (Nat.le_of_ble_eq_true rfl) ?_
  exact xretV C0 hw hP hS d_Batch_append_32

set_option maxHeartbeats 4000000 in
set_option maxRecDepth 100000 in
theorem m_Batch_append (l : Launch) (D : va_G) (d : Nat → ClassId) (h : xw) (sz : Nat) (a0 : Nat) (a1 : Option Nat) (Q : xw → Prop) (hw : wp_Batch_append d h a0 a1 Q) : Met l y_Batch_append ws_Batch_append rm_Batch_append (xPre D d h [.ref a0, va_rf a1] sz) (va_Qv (fun u => Q u ∧ xfr sgX h u) (xB D d (xA h sz)) (xA h sz)) 0 0 (xA h sz) := by
  refine Met.ofW (cc := b_Batch_append) (maxL := 2) (ret := none) (by decide) rfl ?_
  intro p e s m args below meth c s₁ B hml hv
  obtain ⟨rfl, hsz, hP0, hK, hNB⟩ := hv
  have hts := atoms_spec (ws := ws_Batch_append) B.pre
  have htb := fun w (hw9 : w ∈ TB) => hts w (List.mem_cons_of_mem _ hw9)
  have hown : s.vm.findClass R_Batch = some m.cls := findClass_of_methodNamed B.named
  subst hsz
  obtain ⟨A, hAe⟩ : ∃ A, A = xA h s.heap.size := ⟨_, rfl⟩
  rw [← hAe]
  have hP : xR sgX h D A h s.heap := ⟨by rw [hAe]; exact hP0.self, xfr.rf⟩
  have hA : ∀ q, s.heap.size ≤ q → A q := fun q hq => by rw [hAe]; exact Or.inr hq
  have hS : va_S A s.heap s.heap [] := va_S.rf
  have C0 : xctx p s m ([.ref a0, va_rf a1] : List Value).toArray meth c b_Batch_append 2 none R_Batch D d A True := ⟨B.exec, B.bytes, B.returns, hml, hown, htb, hK, hA, hNB, B.notSynchronized, trivial⟩
  obtain ⟨hx, hb, hr, -, -, -, -, -, -, hlocks, hXT⟩ := id C0
  have hl := lv_entry ([.ref a0, va_rf a1] : List Value) (n := 2) (by cases a1 <;> exact (Nat.le_of_ble_eq_true rfl))
  rw [lg_entry_eq]
  generalize (lg_sl ([.ref a0, va_rf a1] : List Value) ++ List.replicate (2 - (lg_sl ([.ref a0, va_rf a1] : List Value)).length) Slot.unset).toArray = ls at hl ⊢
  have hle : lv_args 0 ([.ref a0, va_rf a1] : List Value) = [(0, .ref a0), (1, va_rf a1)] := by cases a1 <;> rfl
  rw [hle] at hl
  refine lv_aload_n hx hb d_Batch_append_0 rfl (lv_at hl 0 rfl) ?_
  refine xgetI hx hb htb i_Batch hown hK hP (ci := 1) rfl 3 (by decide) (htb _ k_Batch_9) (fun _ h9 => h9) hw d_Batch_append_1 (fun v1 hw => ?_)
  refine lv_aload_n hx hb d_Batch_append_4 rfl (lv_at hl 0 rfl) ?_
  refine xgetA hx hb htb i_Batch hown hK hP (ci := 1) rfl 2 (by decide) (htb _ k_Batch_32) (fun _ h9 => h9) hw d_Batch_append_5 (fun r2 hw => ?_)
  obtain ⟨p3, hpe, hw⟩ := hw
  revert hw
  revert hl
  subst hpe
  intro hl hw
  replace hl : lv_has ls 2 [(0, .ref a0), (1, va_rf a1)] := hl
  refine xlen hx hb hK hP 0 rfl hw d_Batch_append_8 (fun v4 hw => ?_)
  refine lv_icmp_ge (tgt := 32) hx hb d_Batch_append_9 (by decide) (fun cq => ?_) (fun cq => ?_)
  · replace hw := hw.1 cq
    exact sb_Batch_append_32 C0  h _ _ _ hw hP hS (lv_sub hl [] rfl)
  · replace hw := hw.2 cq
    refine lv_aload_n hx hb d_Batch_append_12 rfl (lv_at hl 0 rfl) ?_
    refine xgetA hx hb htb i_Batch hown hK hP (ci := 1) rfl 2 (by decide) (htb _ k_Batch_32) (fun _ h9 => h9) hw d_Batch_append_13 (fun r5 hw => ?_)
    refine lv_aload_n hx hb d_Batch_append_16 rfl (lv_at hl 0 rfl) ?_
    refine xgetI hx hb htb i_Batch hown hK hP (ci := 1) rfl 3 (by decide) (htb _ k_Batch_9) (fun _ h9 => h9) hw d_Batch_append_17 (fun v6 hw => ?_)
    refine xv_aload_n hx hb d_Batch_append_20 rfl (lv_at hl 1 rfl) ?_
    obtain ⟨p7, hpe, hw⟩ := hw
    revert hw
    revert hl
    subst hpe
    intro hl hw
    replace hl : lv_has ls 2 [(0, .ref a0), (1, va_rf a1)] := hl
    refine xstq hx hb hK hP hS 0 rfl (ci := 2) rfl (fun _ _ => rfl) hw d_Batch_append_21 (fun h8 H locs hw hP hS => ?_)
    refine lv_aload_n hx hb d_Batch_append_22 rfl (lv_at hl 0 rfl) ?_
    refine lv_dup hx hb d_Batch_append_23 rfl ?_
    refine xgetI hx hb htb i_Batch hown hK hP (ci := 1) rfl 3 (by decide) (htb _ k_Batch_9) (fun _ h9 => h9) hw d_Batch_append_24 (fun v9 hw => ?_)
    refine lv_iconst (v := 1) hx hb d_Batch_append_27 (by decide) ?_
    refine lv_iadd hx hb d_Batch_append_28 ?_
    refine xputI hx hb htb i_Batch t_Batch t_Batch_ok n_Batch hown hK hP hS (ci := 1) rfl (fun _ => rfl) 3 (by decide) (htb _ k_Batch_9) (fun _ h9 => h9) rfl (by decide +kernel) hw d_Batch_append_29 (fun h10 H locs hw hP hS => ?_)
    exact sb_Batch_append_32 C0  h10 _ _ _ hw hP hS (lv_sub hl [] rfl)

theorem d_Batch_sizeInBytes_0 : decode b_Batch_sizeInBytes 0 = .ok (.bipush 61, 2) := by decide +kernel
theorem d_Batch_sizeInBytes_2 : decode b_Batch_sizeInBytes 2 = .ok (.istore_n 1, 1) := by decide +kernel
theorem d_Batch_sizeInBytes_3 : decode b_Batch_sizeInBytes 3 = .ok (.iconst 0, 1) := by decide +kernel
theorem d_Batch_sizeInBytes_4 : decode b_Batch_sizeInBytes 4 = .ok (.istore_n 2, 1) := by decide +kernel
theorem d_Batch_sizeInBytes_5 : decode b_Batch_sizeInBytes 5 = .ok (.iload_n 2, 1) := by decide +kernel
theorem d_Batch_sizeInBytes_6 : decode b_Batch_sizeInBytes 6 = .ok (.aload_n 0, 1) := by decide +kernel
theorem d_Batch_sizeInBytes_7 : decode b_Batch_sizeInBytes 7 = .ok (.getfield 9, 3) := by decide +kernel
theorem d_Batch_sizeInBytes_10 : decode b_Batch_sizeInBytes 10 = .ok (.if_icmp .ge 21, 3) := by decide +kernel
theorem d_Batch_sizeInBytes_13 : decode b_Batch_sizeInBytes 13 = .ok (.iload_n 1, 1) := by decide +kernel
theorem d_Batch_sizeInBytes_14 : decode b_Batch_sizeInBytes 14 = .ok (.aload_n 0, 1) := by decide +kernel
theorem d_Batch_sizeInBytes_15 : decode b_Batch_sizeInBytes 15 = .ok (.getfield 32, 3) := by decide +kernel
theorem d_Batch_sizeInBytes_18 : decode b_Batch_sizeInBytes 18 = .ok (.iload_n 2, 1) := by decide +kernel
theorem d_Batch_sizeInBytes_19 : decode b_Batch_sizeInBytes 19 = .ok (.aaload, 1) := by decide +kernel
theorem d_Batch_sizeInBytes_20 : decode b_Batch_sizeInBytes 20 = .ok (.invokevirtual 36, 3) := by decide +kernel
theorem d_Batch_sizeInBytes_23 : decode b_Batch_sizeInBytes 23 = .ok (.iadd, 1) := by decide +kernel
theorem d_Batch_sizeInBytes_24 : decode b_Batch_sizeInBytes 24 = .ok (.istore_n 1, 1) := by decide +kernel
theorem d_Batch_sizeInBytes_25 : decode b_Batch_sizeInBytes 25 = .ok (.iinc 2 1, 3) := by decide +kernel
theorem d_Batch_sizeInBytes_28 : decode b_Batch_sizeInBytes 28 = .ok (.goto (-23), 3) := by decide +kernel
theorem d_Batch_sizeInBytes_31 : decode b_Batch_sizeInBytes 31 = .ok (.iload_n 1, 1) := by decide +kernel
theorem d_Batch_sizeInBytes_32 : decode b_Batch_sizeInBytes 32 = .ok (.ireturn, 1) := by decide +kernel
def rm_Batch_sizeInBytes : Room := { frames := 2, cells := 0, slots := 0, locals := 40 }
def ws_Batch_sizeInBytes : List Cond := Cond.code y_Batch_sizeInBytes b_Batch_sizeInBytes 3 (some .int) :: TB
set_option maxHeartbeats 4000000 in
set_option maxRecDepth 100000 in
theorem sl_Batch_sizeInBytes_5 {p : Program} {l : Launch} {e : Env} {s : State} {m : MethodId} {args : Array Value} {below : List Frame} {meth : Method} {c : Code} {D : va_G} {d : Nat → ClassId} {A : Nat → Prop} {h0 : xw} {Q : Int32 → xw → Prop} (C0 : xctx p s m args meth c b_Batch_sizeInBytes 3 (some .int) R_Batch D d A True) : ∀ (n : Nat) (x : Nat × Int32 × Int32) (h : xw) (H : Heap) (locs : List Loc) (ls : Array Slot), xloop (fun (k : Nat × Int32 × Int32 → xw → Prop) (x : Nat × Int32 × Int32) (h : xw) => wc_Batch_sizeInBytes_5 d Q (fun y0 y1 y2 h => k (y0, y1, y2) h) x.1 x.2.1 x.2.2 h) n x h → xR sgX h0 D A h H → va_S A s.heap H locs → lv_has ls 3 [(0, .ref x.1), (1, .int x.2.1), (2, .int x.2.2)] → W p l e rm_Batch_sizeInBytes s m args below meth c H locs 0 0 (MQ below (va_Qi (fun r u => Q r u ∧ xfr sgX h0 u) (xB D d A) A) args s 0 0 A) (F0 m 5 ls []) := by
  obtain ⟨hx, hb, hr, hml, hown, htb, hK, hA, hNB, hlocks, hXT⟩ := id C0
  intro n
  induction n with
  | zero => intro x h H locs ls hw; exact hw.elim
  | succ n ih =>
    rintro ⟨x0, x1, x2⟩ h H locs ls hw hP hS hl
    replace hw : wc_Batch_sizeInBytes_5 d Q (fun y0 y1 y2 h => xloop (fun (k : Nat × Int32 × Int32 → xw → Prop) (x : Nat × Int32 × Int32) (h : xw) => wc_Batch_sizeInBytes_5 d Q (fun y0 y1 y2 h => k (y0, y1, y2) h) x.1 x.2.1 x.2.2 h) n (y0, y1, y2) h) x0 x1 x2 h := hw
    have hk5 := fun (x0 : Nat) (x1 : Int32) (x2 : Int32) => ih (x0, x1, x2)
    refine lv_iload_n hx hb d_Batch_sizeInBytes_5 rfl (lv_at hl 2 rfl) ?_
    refine lv_aload_n hx hb d_Batch_sizeInBytes_6 rfl (lv_at hl 0 rfl) ?_
    refine xgetI hx hb htb i_Batch hown hK hP (ci := 1) rfl 3 (by decide) (htb _ k_Batch_9) (fun _ h9 => h9) hw d_Batch_sizeInBytes_7 (fun v1 hw => ?_)
    refine lv_icmp_ge (tgt := 31) hx hb d_Batch_sizeInBytes_10 (by decide) (fun cq => ?_) (fun cq => ?_)
    · replace hw := hw.1 cq
      refine lv_iload_n hx hb d_Batch_sizeInBytes_31 rfl (lv_at hl 1 rfl) ?_
      refine W.widen (k := 0) (n := 0) (Nat.le_of_ble_eq_true rfl) (Nat.le_of_ble_eq_true rfl) ?_
      exact xretI C0 hw hP hS d_Batch_sizeInBytes_32
    · replace hw := hw.2 cq
      refine lv_iload_n hx hb d_Batch_sizeInBytes_13 rfl (lv_at hl 1 rfl) ?_
      refine lv_aload_n hx hb d_Batch_sizeInBytes_14 rfl (lv_at hl 0 rfl) ?_
      refine xgetA hx hb htb i_Batch hown hK hP (ci := 1) rfl 2 (by decide) (htb _ k_Batch_32) (fun _ h9 => h9) hw d_Batch_sizeInBytes_15 (fun r2 hw => ?_)
      refine lv_iload_n hx hb d_Batch_sizeInBytes_18 rfl (lv_at hl 2 rfl) ?_
      obtain ⟨p3, hpe, hw⟩ := hw
      revert hw
      revert hl
      subst hpe
      intro hl hw
      replace hl : lv_has ls 3 [(0, .ref x0), (1, .int x1), (2, .int x2)] := hl
      refine xldq hx hb hK hP 0 rfl hw d_Batch_sizeInBytes_19 (fun r4 hw => ?_)
      obtain ⟨p5, hpe, hw⟩ := hw
      revert hw
      revert hl
      subst hpe
      intro hl hw
      replace hl : lv_has ls 3 [(0, .ref x0), (1, .int x1), (2, .int x2)] := hl
      obtain ⟨⟨_, hw0⟩, hw⟩ := hw
      refine xcalli (va_runV (b := p5) (As := []) (rest := [.int x1]) ⟨hx, hb, hml, hown, htb⟩ (m_Entry_sizeInBytes l D d h _ p5 _ hw) (xcwV 0 htb g_code_Entry_sizeInBytes g_ini_Entry k_Batch_36 g_im_Entry_sizeInBytes g_sel_Entry_sizeInBytes rfl rfl (by decide +kernel) ⟨(Nat.le_of_ble_eq_true rfl), (Nat.le_of_ble_eq_true rfl)⟩) (xpreV hP hK hNB (ci := 2) rfl hw0) rfl rfl hl.1 rfl (lv_room (Nat.le_of_ble_eq_true rfl)) d_Batch_sizeInBytes_20 ⟨(Nat.le_of_ble_eq_true rfl), (Nat.le_of_ble_eq_true rfl)⟩) hP hS hA (fun r7 h6 H locs hw hP hS => ?_)
      refine W.widen (k := 0) (n := 0) (Nat.le_of_ble_eq_true rfl) (Nat.le_of_ble_eq_true rfl) ?_
      refine lv_iadd hx hb d_Batch_sizeInBytes_23 ?_
      refine lv_istore_n (lv' := [(1, .int (x1 + r7)), (0, .ref x0), (2, .int x2)]) hx hb d_Batch_sizeInBytes_24 rfl hl (by decide) rfl (fun ls hl => ?_)
      refine lv_iinc (v := x2 + 1) (lv' := [(2, .int (x2 + 1)), (1, .int (x1 + r7)), (0, .ref x0)]) hx hb d_Batch_sizeInBytes_25 hl (k := 2) rfl rfl (by decide) rfl (fun ls hl => ?_)
      refine lv_goto (tgt := 5) hx hb d_Batch_sizeInBytes_28 (by decide) ?_
      exact hk5 x0 (x1 + r7) (x2 + 1) h6 _ _ _ hw hP hS (lv_sub hl [2, 1, 0] rfl)

set_option maxHeartbeats 4000000 in
set_option maxRecDepth 100000 in
theorem m_Batch_sizeInBytes (l : Launch) (D : va_G) (d : Nat → ClassId) (h : xw) (sz : Nat) (a0 : Nat) (Q : Int32 → xw → Prop) (hw : wp_Batch_sizeInBytes d h a0 Q) : Met l y_Batch_sizeInBytes ws_Batch_sizeInBytes rm_Batch_sizeInBytes (xPre D d h [.ref a0] sz) (va_Qi (fun r u => Q r u ∧ xfr sgX h u) (xB D d (xA h sz)) (xA h sz)) 0 0 (xA h sz) := by
  refine Met.ofW (cc := b_Batch_sizeInBytes) (maxL := 3) (ret := (some .int)) (by decide) rfl ?_
  intro p e s m args below meth c s₁ B hml hv
  obtain ⟨rfl, hsz, hP0, hK, hNB⟩ := hv
  have hts := atoms_spec (ws := ws_Batch_sizeInBytes) B.pre
  have htb := fun w (hw9 : w ∈ TB) => hts w (List.mem_cons_of_mem _ hw9)
  have hown : s.vm.findClass R_Batch = some m.cls := findClass_of_methodNamed B.named
  subst hsz
  obtain ⟨A, hAe⟩ : ∃ A, A = xA h s.heap.size := ⟨_, rfl⟩
  rw [← hAe]
  have hP : xR sgX h D A h s.heap := ⟨by rw [hAe]; exact hP0.self, xfr.rf⟩
  have hA : ∀ q, s.heap.size ≤ q → A q := fun q hq => by rw [hAe]; exact Or.inr hq
  have hS : va_S A s.heap s.heap [] := va_S.rf
  have C0 : xctx p s m ([.ref a0] : List Value).toArray meth c b_Batch_sizeInBytes 3 (some .int) R_Batch D d A True := ⟨B.exec, B.bytes, B.returns, hml, hown, htb, hK, hA, hNB, B.notSynchronized, trivial⟩
  obtain ⟨hx, hb, hr, -, -, -, -, -, -, hlocks, hXT⟩ := id C0
  have hl := lv_entry ([.ref a0] : List Value) (n := 3) (Nat.le_of_ble_eq_true rfl)
  rw [lg_entry_eq]
  generalize (lg_sl ([.ref a0] : List Value) ++ List.replicate (3 - (lg_sl ([.ref a0] : List Value)).length) Slot.unset).toArray = ls at hl ⊢
  have hl : lv_has ls 3 [(0, .ref a0)] := hl
  refine lv_bipush (v := 61) hx hb d_Batch_sizeInBytes_0 (by decide) ?_
  refine lv_istore_n (lv' := [(1, .int 61), (0, .ref a0)]) hx hb d_Batch_sizeInBytes_2 rfl hl (by decide) rfl (fun ls hl => ?_)
  refine lv_iconst (v := 0) hx hb d_Batch_sizeInBytes_3 (by decide) ?_
  refine lv_istore_n (lv' := [(2, .int 0), (1, .int 61), (0, .ref a0)]) hx hb d_Batch_sizeInBytes_4 rfl hl (by decide) rfl (fun ls hl => ?_)
  obtain ⟨n, hw⟩ := hw
  exact sl_Batch_sizeInBytes_5 C0 n (a0, 61, 0) h _ _ _ hw hP hS (lv_sub hl [2, 1, 0] rfl)

theorem d_Batch_latestWithKey_0 : decode b_Batch_latestWithKey 0 = .ok (.aload_n 0, 1) := by decide +kernel
theorem d_Batch_latestWithKey_1 : decode b_Batch_latestWithKey 1 = .ok (.getfield 9, 3) := by decide +kernel
theorem d_Batch_latestWithKey_4 : decode b_Batch_latestWithKey 4 = .ok (.iconst 1, 1) := by decide +kernel
theorem d_Batch_latestWithKey_5 : decode b_Batch_latestWithKey 5 = .ok (.isub, 1) := by decide +kernel
theorem d_Batch_latestWithKey_6 : decode b_Batch_latestWithKey 6 = .ok (.istore 4, 2) := by decide +kernel
theorem d_Batch_latestWithKey_8 : decode b_Batch_latestWithKey 8 = .ok (.iload 4, 2) := by decide +kernel
theorem d_Batch_latestWithKey_10 : decode b_Batch_latestWithKey 10 = .ok (.ifCond .lt 40, 3) := by decide +kernel
theorem d_Batch_latestWithKey_13 : decode b_Batch_latestWithKey 13 = .ok (.aload_n 0, 1) := by decide +kernel
theorem d_Batch_latestWithKey_14 : decode b_Batch_latestWithKey 14 = .ok (.getfield 32, 3) := by decide +kernel
theorem d_Batch_latestWithKey_17 : decode b_Batch_latestWithKey 17 = .ok (.iload 4, 2) := by decide +kernel
theorem d_Batch_latestWithKey_19 : decode b_Batch_latestWithKey 19 = .ok (.aaload, 1) := by decide +kernel
theorem d_Batch_latestWithKey_20 : decode b_Batch_latestWithKey 20 = .ok (.astore 5, 2) := by decide +kernel
theorem d_Batch_latestWithKey_22 : decode b_Batch_latestWithKey 22 = .ok (.aload 5, 2) := by decide +kernel
theorem d_Batch_latestWithKey_24 : decode b_Batch_latestWithKey 24 = .ok (.getfield 40, 3) := by decide +kernel
theorem d_Batch_latestWithKey_27 : decode b_Batch_latestWithKey 27 = .ok (.lload_n 1, 1) := by decide +kernel
theorem d_Batch_latestWithKey_28 : decode b_Batch_latestWithKey 28 = .ok (.lcmp, 1) := by decide +kernel
theorem d_Batch_latestWithKey_29 : decode b_Batch_latestWithKey 29 = .ok (.ifCond .ne 15, 3) := by decide +kernel
theorem d_Batch_latestWithKey_32 : decode b_Batch_latestWithKey 32 = .ok (.aload 5, 2) := by decide +kernel
theorem d_Batch_latestWithKey_34 : decode b_Batch_latestWithKey 34 = .ok (.getfield 44, 3) := by decide +kernel
theorem d_Batch_latestWithKey_37 : decode b_Batch_latestWithKey 37 = .ok (.iload_n 3, 1) := by decide +kernel
theorem d_Batch_latestWithKey_38 : decode b_Batch_latestWithKey 38 = .ok (.if_icmp .ne 6, 3) := by decide +kernel
theorem d_Batch_latestWithKey_41 : decode b_Batch_latestWithKey 41 = .ok (.aload 5, 2) := by decide +kernel
theorem d_Batch_latestWithKey_43 : decode b_Batch_latestWithKey 43 = .ok (.areturn, 1) := by decide +kernel
theorem d_Batch_latestWithKey_44 : decode b_Batch_latestWithKey 44 = .ok (.iinc 4 (-1), 3) := by decide +kernel
theorem d_Batch_latestWithKey_47 : decode b_Batch_latestWithKey 47 = .ok (.goto (-39), 3) := by decide +kernel
theorem d_Batch_latestWithKey_50 : decode b_Batch_latestWithKey 50 = .ok (.aconst_null, 1) := by decide +kernel
theorem d_Batch_latestWithKey_51 : decode b_Batch_latestWithKey 51 = .ok (.areturn, 1) := by decide +kernel
def rm_Batch_latestWithKey : Room := { frames := 0, cells := 0, slots := 0, locals := 0 }
def ws_Batch_latestWithKey : List Cond := Cond.code y_Batch_latestWithKey b_Batch_latestWithKey 6 (some (.object "LogCleaner$Entry")) :: TB
set_option maxHeartbeats 4000000 in
set_option maxRecDepth 100000 in
theorem sb_Batch_latestWithKey_44 {p : Program} {l : Launch} {e : Env} {s : State} {m : MethodId} {args : Array Value} {below : List Frame} {meth : Method} {c : Code} {D : va_G} {d : Nat → ClassId} {A : Nat → Prop} {h0 : xw} {Q : Option Nat → xw → Prop} {k8 : Nat → Int64 → Int32 → Int32 → xw → Prop} (C0 : xctx p s m args meth c b_Batch_latestWithKey 6 (some (.object "LogCleaner$Entry")) R_Batch D d A True) (hk8 : ∀ (x0 : Nat) (x1 : Int64) (x3 : Int32) (x4 : Int32) (h : xw) (H : Heap) (locs : List Loc) (ls : Array Slot), k8 x0 x1 x3 x4 h → xR sgX h0 D A h H → va_S A s.heap H locs → lv_has ls 6 [(0, .ref x0), (1, .long x1), (3, .int x3), (4, .int x4)] → W p l e rm_Batch_latestWithKey s m args below meth c H locs 0 0 (MQ below (va_Qq (fun r u => Q r u ∧ xfr sgX h0 u) (xB D d A) A) args s 0 0 A) (F0 m 8 ls [])) : ∀ (x0 : Nat) (x1 : Int64) (x3 : Int32) (x4 : Int32) (h : xw) (H : Heap) (locs : List Loc) (ls : Array Slot), wb_Batch_latestWithKey_44 d k8 Q x0 x1 x3 x4 h → xR sgX h0 D A h H → va_S A s.heap H locs → lv_has ls 6 [(0, .ref x0), (1, .long x1), (3, .int x3), (4, .int x4)] → W p l e rm_Batch_latestWithKey s m args below meth c H locs 0 0 (MQ below (va_Qq (fun r u => Q r u ∧ xfr sgX h0 u) (xB D d A) A) args s 0 0 A) (F0 m 44 ls []) := by
  obtain ⟨hx, hb, hr, hml, hown, htb, hK, hA, hNB, hlocks, hXT⟩ := id C0
  intro x0 x1 x3 x4 h H locs ls hw hP hS hl
  refine lv_iinc (v := x4 + (-1)) (lv' := [(4, .int (x4 + (-1))), (0, .ref x0), (1, .long x1), (3, .int x3)]) hx hb d_Batch_latestWithKey_44 hl (k := 3) rfl rfl (by decide) rfl (fun ls hl => ?_)
  refine lv_goto (tgt := 8) hx hb d_Batch_latestWithKey_47 (by decide) ?_
  exact hk8 x0 x1 x3 (x4 + (-1)) h _ _ _ hw hP hS (lv_sub hl [1, 2, 3, 0] rfl)

set_option maxHeartbeats 4000000 in
set_option maxRecDepth 100000 in
theorem sl_Batch_latestWithKey_8 {p : Program} {l : Launch} {e : Env} {s : State} {m : MethodId} {args : Array Value} {below : List Frame} {meth : Method} {c : Code} {D : va_G} {d : Nat → ClassId} {A : Nat → Prop} {h0 : xw} {Q : Option Nat → xw → Prop} (C0 : xctx p s m args meth c b_Batch_latestWithKey 6 (some (.object "LogCleaner$Entry")) R_Batch D d A True) : ∀ (n : Nat) (x : Nat × Int64 × Int32 × Int32) (h : xw) (H : Heap) (locs : List Loc) (ls : Array Slot), xloop (fun (k : Nat × Int64 × Int32 × Int32 → xw → Prop) (x : Nat × Int64 × Int32 × Int32) (h : xw) => wc_Batch_latestWithKey_8 d Q (fun y0 y1 y3 y4 h => k (y0, y1, y3, y4) h) x.1 x.2.1 x.2.2.1 x.2.2.2 h) n x h → xR sgX h0 D A h H → va_S A s.heap H locs → lv_has ls 6 [(0, .ref x.1), (1, .long x.2.1), (3, .int x.2.2.1), (4, .int x.2.2.2)] → W p l e rm_Batch_latestWithKey s m args below meth c H locs 0 0 (MQ below (va_Qq (fun r u => Q r u ∧ xfr sgX h0 u) (xB D d A) A) args s 0 0 A) (F0 m 8 ls []) := by
  obtain ⟨hx, hb, hr, hml, hown, htb, hK, hA, hNB, hlocks, hXT⟩ := id C0
  intro n
  induction n with
  | zero => intro x h H locs ls hw; exact hw.elim
  | succ n ih =>
    rintro ⟨x0, x1, x3, x4⟩ h H locs ls hw hP hS hl
    replace hw : wc_Batch_latestWithKey_8 d Q (fun y0 y1 y3 y4 h => xloop (fun (k : Nat × Int64 × Int32 × Int32 → xw → Prop) (x : Nat × Int64 × Int32 × Int32) (h : xw) => wc_Batch_latestWithKey_8 d Q (fun y0 y1 y3 y4 h => k (y0, y1, y3, y4) h) x.1 x.2.1 x.2.2.1 x.2.2.2 h) n (y0, y1, y3, y4) h) x0 x1 x3 x4 h := hw
    have hk8 := fun (x0 : Nat) (x1 : Int64) (x3 : Int32) (x4 : Int32) => ih (x0, x1, x3, x4)
    refine lv_iload hx hb d_Batch_latestWithKey_8 (lv_at hl 3 rfl) ?_
    refine lv_if_lt (tgt := 50) hx hb d_Batch_latestWithKey_10 (by decide) (fun cq => ?_) (fun cq => ?_)
    · replace hw := hw.1 cq
      refine xv_null hx hb d_Batch_latestWithKey_50 ?_
      refine W.widen (k := 0) (n := 0) (Nat.le_of_ble_eq_true rfl) (Nat.le_of_ble_eq_true rfl) ?_
      exact xretA C0 hw hP hS d_Batch_latestWithKey_51
    · replace hw := hw.2 cq
      refine lv_aload_n hx hb d_Batch_latestWithKey_13 rfl (lv_at hl 0 rfl) ?_
      refine xgetA hx hb htb i_Batch hown hK hP (ci := 1) rfl 2 (by decide) (htb _ k_Batch_32) (fun _ h9 => h9) hw d_Batch_latestWithKey_14 (fun r2 hw => ?_)
      refine lv_iload hx hb d_Batch_latestWithKey_17 (lv_at hl 3 rfl) ?_
      obtain ⟨p3, hpe, hw⟩ := hw
      revert hw
      revert hl
      subst hpe
      intro hl hw
      replace hl : lv_has ls 6 [(0, .ref x0), (1, .long x1), (3, .int x3), (4, .int x4)] := hl
      refine xldq hx hb hK hP 0 rfl hw d_Batch_latestWithKey_19 (fun r4 hw => ?_)
      refine xv_astore (lv' := [(5, va_rf r4), (0, .ref x0), (1, .long x1), (3, .int x3), (4, .int x4)]) hx hb d_Batch_latestWithKey_20 hl (by decide) rfl (fun ls hl => ?_)
      refine xv_aload hx hb d_Batch_latestWithKey_22 (lv_at hl 0 rfl) ?_
      obtain ⟨p5, hpe, hw⟩ := hw
      revert hw
      revert hl
      subst hpe
      intro hl hw
      replace hl : lv_has ls 6 [(5, .ref p5), (0, .ref x0), (1, .long x1), (3, .int x3), (4, .int x4)] := hl
      refine xgetL hx hb htb i_Entry hown hK hP (ci := 2) rfl 0 (by decide) (htb _ k_Batch_40) (fun _ h9 => h9) hw d_Batch_latestWithKey_24 (fun v6 hw => ?_)
      refine lv_lload_n hx hb d_Batch_latestWithKey_27 rfl (lv_at hl 2 rfl) ?_
      refine W.lcmp hx hb d_Batch_latestWithKey_28 ?_
      refine lv_if_ne (tgt := 44) hx hb d_Batch_latestWithKey_29 (by decide) (fun cq => ?_) (fun cq => ?_)
      · replace hw := hw.2 cq
        exact sb_Batch_latestWithKey_44 C0 hk8 x0 x1 x3 x4 h _ _ _ hw hP hS (lv_sub hl [1, 2, 3, 4] rfl)
      · replace hw := hw.1 cq
        refine lv_aload hx hb d_Batch_latestWithKey_32 (lv_at hl 0 rfl) ?_
        refine xgetI hx hb htb i_Entry hown hK hP (ci := 2) rfl 1 (by decide) (htb _ k_Batch_44) (fun _ h9 => h9) hw d_Batch_latestWithKey_34 (fun v7 hw => ?_)
        refine lv_iload_n hx hb d_Batch_latestWithKey_37 rfl (lv_at hl 3 rfl) ?_
        refine lv_icmp_ne (tgt := 44) hx hb d_Batch_latestWithKey_38 (by decide) (fun cq => ?_) (fun cq => ?_)
        · replace hw := hw.2 cq
          exact sb_Batch_latestWithKey_44 C0 hk8 x0 x1 x3 x4 h _ _ _ hw hP hS (lv_sub hl [1, 2, 3, 4] rfl)
        · replace hw := hw.1 cq
          refine lv_aload hx hb d_Batch_latestWithKey_41 (lv_at hl 0 rfl) ?_
          refine W.widen (k := 0) (n := 0) (Nat.le_of_ble_eq_true rfl) (Nat.le_of_ble_eq_true rfl) ?_
          exact xretA C0 hw hP hS d_Batch_latestWithKey_43

set_option maxHeartbeats 4000000 in
set_option maxRecDepth 100000 in
theorem m_Batch_latestWithKey (l : Launch) (D : va_G) (d : Nat → ClassId) (h : xw) (sz : Nat) (a0 : Nat) (a1 : Int64) (a3 : Int32) (Q : Option Nat → xw → Prop) (hw : wp_Batch_latestWithKey d h a0 a1 a3 Q) : Met l y_Batch_latestWithKey ws_Batch_latestWithKey rm_Batch_latestWithKey (xPre D d h [.ref a0, .long a1, .int a3] sz) (va_Qq (fun r u => Q r u ∧ xfr sgX h u) (xB D d (xA h sz)) (xA h sz)) 0 0 (xA h sz) := by
  refine Met.ofW (cc := b_Batch_latestWithKey) (maxL := 6) (ret := (some (.object "LogCleaner$Entry"))) (by decide) rfl ?_
  intro p e s m args below meth c s₁ B hml hv
  obtain ⟨rfl, hsz, hP0, hK, hNB⟩ := hv
  have hts := atoms_spec (ws := ws_Batch_latestWithKey) B.pre
  have htb := fun w (hw9 : w ∈ TB) => hts w (List.mem_cons_of_mem _ hw9)
  have hown : s.vm.findClass R_Batch = some m.cls := findClass_of_methodNamed B.named
  subst hsz
  obtain ⟨A, hAe⟩ : ∃ A, A = xA h s.heap.size := ⟨_, rfl⟩
  rw [← hAe]
  have hP : xR sgX h D A h s.heap := ⟨by rw [hAe]; exact hP0.self, xfr.rf⟩
  have hA : ∀ q, s.heap.size ≤ q → A q := fun q hq => by rw [hAe]; exact Or.inr hq
  have hS : va_S A s.heap s.heap [] := va_S.rf
  have C0 : xctx p s m ([.ref a0, .long a1, .int a3] : List Value).toArray meth c b_Batch_latestWithKey 6 (some (.object "LogCleaner$Entry")) R_Batch D d A True := ⟨B.exec, B.bytes, B.returns, hml, hown, htb, hK, hA, hNB, B.notSynchronized, trivial⟩
  obtain ⟨hx, hb, hr, -, -, -, -, -, -, hlocks, hXT⟩ := id C0
  have hl := lv_entry ([.ref a0, .long a1, .int a3] : List Value) (n := 6) (Nat.le_of_ble_eq_true rfl)
  rw [lg_entry_eq]
  generalize (lg_sl ([.ref a0, .long a1, .int a3] : List Value) ++ List.replicate (6 - (lg_sl ([.ref a0, .long a1, .int a3] : List Value)).length) Slot.unset).toArray = ls at hl ⊢
  have hl : lv_has ls 6 [(0, .ref a0), (1, .long a1), (3, .int a3)] := hl
  refine lv_aload_n hx hb d_Batch_latestWithKey_0 rfl (lv_at hl 0 rfl) ?_
  refine xgetI hx hb htb i_Batch hown hK hP (ci := 1) rfl 3 (by decide) (htb _ k_Batch_9) (fun _ h9 => h9) hw d_Batch_latestWithKey_1 (fun v1 hw => ?_)
  refine lv_iconst (v := 1) hx hb d_Batch_latestWithKey_4 (by decide) ?_
  refine lv_isub hx hb d_Batch_latestWithKey_5 ?_
  refine lv_istore (lv' := [(4, .int (v1 - 1)), (0, .ref a0), (1, .long a1), (3, .int a3)]) hx hb d_Batch_latestWithKey_6 hl (by decide) rfl (fun ls hl => ?_)
  obtain ⟨n, hw⟩ := hw
  exact sl_Batch_latestWithKey_8 C0 n (a0, a1, a3, (v1 - 1)) h _ _ _ hw hP hS (lv_sub hl [1, 2, 3, 0] rfl)

theorem d_Batch_removeGone_0 : decode b_Batch_removeGone 0 = .ok (.aload_n 0, 1) := by decide +kernel
theorem d_Batch_removeGone_1 : decode b_Batch_removeGone 1 = .ok (.getfield 9, 3) := by decide +kernel
theorem d_Batch_removeGone_4 : decode b_Batch_removeGone 4 = .ok (.istore_n 2, 1) := by decide +kernel
theorem d_Batch_removeGone_5 : decode b_Batch_removeGone 5 = .ok (.iconst 0, 1) := by decide +kernel
theorem d_Batch_removeGone_6 : decode b_Batch_removeGone 6 = .ok (.istore_n 3, 1) := by decide +kernel
theorem d_Batch_removeGone_7 : decode b_Batch_removeGone 7 = .ok (.iconst 0, 1) := by decide +kernel
theorem d_Batch_removeGone_8 : decode b_Batch_removeGone 8 = .ok (.istore 4, 2) := by decide +kernel
theorem d_Batch_removeGone_10 : decode b_Batch_removeGone 10 = .ok (.iload 4, 2) := by decide +kernel
theorem d_Batch_removeGone_12 : decode b_Batch_removeGone 12 = .ok (.iload_n 2, 1) := by decide +kernel
theorem d_Batch_removeGone_13 : decode b_Batch_removeGone 13 = .ok (.if_icmp .ge 38, 3) := by decide +kernel
theorem d_Batch_removeGone_16 : decode b_Batch_removeGone 16 = .ok (.aload_n 0, 1) := by decide +kernel
theorem d_Batch_removeGone_17 : decode b_Batch_removeGone 17 = .ok (.getfield 32, 3) := by decide +kernel
theorem d_Batch_removeGone_20 : decode b_Batch_removeGone 20 = .ok (.iload 4, 2) := by decide +kernel
theorem d_Batch_removeGone_22 : decode b_Batch_removeGone 22 = .ok (.aaload, 1) := by decide +kernel
theorem d_Batch_removeGone_23 : decode b_Batch_removeGone 23 = .ok (.astore 5, 2) := by decide +kernel
theorem d_Batch_removeGone_25 : decode b_Batch_removeGone 25 = .ok (.aload 5, 2) := by decide +kernel
theorem d_Batch_removeGone_27 : decode b_Batch_removeGone 27 = .ok (.iload_n 1, 1) := by decide +kernel
theorem d_Batch_removeGone_28 : decode b_Batch_removeGone 28 = .ok (.invokevirtual 47, 3) := by decide +kernel
theorem d_Batch_removeGone_31 : decode b_Batch_removeGone 31 = .ok (.ifCond .ne 14, 3) := by decide +kernel
theorem d_Batch_removeGone_34 : decode b_Batch_removeGone 34 = .ok (.aload_n 0, 1) := by decide +kernel
theorem d_Batch_removeGone_35 : decode b_Batch_removeGone 35 = .ok (.getfield 32, 3) := by decide +kernel
theorem d_Batch_removeGone_38 : decode b_Batch_removeGone 38 = .ok (.iload_n 3, 1) := by decide +kernel
theorem d_Batch_removeGone_39 : decode b_Batch_removeGone 39 = .ok (.aload 5, 2) := by decide +kernel
theorem d_Batch_removeGone_41 : decode b_Batch_removeGone 41 = .ok (.aastore, 1) := by decide +kernel
theorem d_Batch_removeGone_42 : decode b_Batch_removeGone 42 = .ok (.iinc 3 1, 3) := by decide +kernel
theorem d_Batch_removeGone_45 : decode b_Batch_removeGone 45 = .ok (.iinc 4 1, 3) := by decide +kernel
theorem d_Batch_removeGone_48 : decode b_Batch_removeGone 48 = .ok (.goto (-38), 3) := by decide +kernel
theorem d_Batch_removeGone_51 : decode b_Batch_removeGone 51 = .ok (.iload_n 3, 1) := by decide +kernel
theorem d_Batch_removeGone_52 : decode b_Batch_removeGone 52 = .ok (.istore 4, 2) := by decide +kernel
theorem d_Batch_removeGone_54 : decode b_Batch_removeGone 54 = .ok (.iload 4, 2) := by decide +kernel
theorem d_Batch_removeGone_56 : decode b_Batch_removeGone 56 = .ok (.iload_n 2, 1) := by decide +kernel
theorem d_Batch_removeGone_57 : decode b_Batch_removeGone 57 = .ok (.if_icmp .ge 17, 3) := by decide +kernel
theorem d_Batch_removeGone_60 : decode b_Batch_removeGone 60 = .ok (.aload_n 0, 1) := by decide +kernel
theorem d_Batch_removeGone_61 : decode b_Batch_removeGone 61 = .ok (.getfield 32, 3) := by decide +kernel
theorem d_Batch_removeGone_64 : decode b_Batch_removeGone 64 = .ok (.iload 4, 2) := by decide +kernel
theorem d_Batch_removeGone_66 : decode b_Batch_removeGone 66 = .ok (.aconst_null, 1) := by decide +kernel
theorem d_Batch_removeGone_67 : decode b_Batch_removeGone 67 = .ok (.aastore, 1) := by decide +kernel
theorem d_Batch_removeGone_68 : decode b_Batch_removeGone 68 = .ok (.iinc 4 1, 3) := by decide +kernel
theorem d_Batch_removeGone_71 : decode b_Batch_removeGone 71 = .ok (.goto (-17), 3) := by decide +kernel
theorem d_Batch_removeGone_74 : decode b_Batch_removeGone 74 = .ok (.aload_n 0, 1) := by decide +kernel
theorem d_Batch_removeGone_75 : decode b_Batch_removeGone 75 = .ok (.iload_n 3, 1) := by decide +kernel
theorem d_Batch_removeGone_76 : decode b_Batch_removeGone 76 = .ok (.putfield 9, 3) := by decide +kernel
theorem d_Batch_removeGone_79 : decode b_Batch_removeGone 79 = .ok (.iload_n 2, 1) := by decide +kernel
theorem d_Batch_removeGone_80 : decode b_Batch_removeGone 80 = .ok (.iload_n 3, 1) := by decide +kernel
theorem d_Batch_removeGone_81 : decode b_Batch_removeGone 81 = .ok (.isub, 1) := by decide +kernel
theorem d_Batch_removeGone_82 : decode b_Batch_removeGone 82 = .ok (.ireturn, 1) := by decide +kernel
def rm_Batch_removeGone : Room := { frames := 2, cells := 0, slots := 0, locals := 41 }
def ws_Batch_removeGone : List Cond := Cond.code y_Batch_removeGone b_Batch_removeGone 6 (some .int) :: TB
set_option maxHeartbeats 4000000 in
set_option maxRecDepth 100000 in
theorem sl_Batch_removeGone_54 {p : Program} {l : Launch} {e : Env} {s : State} {m : MethodId} {args : Array Value} {below : List Frame} {meth : Method} {c : Code} {D : va_G} {d : Nat → ClassId} {A : Nat → Prop} {h0 : xw} {Q : Int32 → xw → Prop} (C0 : xctx p s m args meth c b_Batch_removeGone 6 (some .int) R_Batch D d A True) : ∀ (n : Nat) (x : Nat × Int32 × Int32 × Int32) (h : xw) (H : Heap) (locs : List Loc) (ls : Array Slot), xloop (fun (k : Nat × Int32 × Int32 × Int32 → xw → Prop) (x : Nat × Int32 × Int32 × Int32) (h : xw) => wc_Batch_removeGone_54 d Q (fun y0 y2 y3 y4 h => k (y0, y2, y3, y4) h) x.1 x.2.1 x.2.2.1 x.2.2.2 h) n x h → xR sgX h0 D A h H → va_S A s.heap H locs → lv_has ls 6 [(0, .ref x.1), (2, .int x.2.1), (3, .int x.2.2.1), (4, .int x.2.2.2)] → W p l e rm_Batch_removeGone s m args below meth c H locs 0 0 (MQ below (va_Qi (fun r u => Q r u ∧ xfr sgX h0 u) (xB D d A) A) args s 0 0 A) (F0 m 54 ls []) := by
  obtain ⟨hx, hb, hr, hml, hown, htb, hK, hA, hNB, hlocks, hXT⟩ := id C0
  intro n
  induction n with
  | zero => intro x h H locs ls hw; exact hw.elim
  | succ n ih =>
    rintro ⟨x0, x2, x3, x4⟩ h H locs ls hw hP hS hl
    replace hw : wc_Batch_removeGone_54 d Q (fun y0 y2 y3 y4 h => xloop (fun (k : Nat × Int32 × Int32 × Int32 → xw → Prop) (x : Nat × Int32 × Int32 × Int32) (h : xw) => wc_Batch_removeGone_54 d Q (fun y0 y2 y3 y4 h => k (y0, y2, y3, y4) h) x.1 x.2.1 x.2.2.1 x.2.2.2 h) n (y0, y2, y3, y4) h) x0 x2 x3 x4 h := hw
    have hk54 := fun (x0 : Nat) (x2 : Int32) (x3 : Int32) (x4 : Int32) => ih (x0, x2, x3, x4)
    refine lv_iload hx hb d_Batch_removeGone_54 (lv_at hl 3 rfl) ?_
    refine lv_iload_n hx hb d_Batch_removeGone_56 rfl (lv_at hl 1 rfl) ?_
    refine lv_icmp_ge (tgt := 74) hx hb d_Batch_removeGone_57 (by decide) (fun cq => ?_) (fun cq => ?_)
    · replace hw := hw.1 cq
      refine lv_aload_n hx hb d_Batch_removeGone_74 rfl (lv_at hl 0 rfl) ?_
      refine lv_iload_n hx hb d_Batch_removeGone_75 rfl (lv_at hl 2 rfl) ?_
      refine xputI hx hb htb i_Batch t_Batch t_Batch_ok n_Batch hown hK hP hS (ci := 1) rfl (fun _ => rfl) 3 (by decide) (htb _ k_Batch_9) (fun _ h9 => h9) rfl (by decide +kernel) hw d_Batch_removeGone_76 (fun h2 H locs hw hP hS => ?_)
      refine lv_iload_n hx hb d_Batch_removeGone_79 rfl (lv_at hl 1 rfl) ?_
      refine lv_iload_n hx hb d_Batch_removeGone_80 rfl (lv_at hl 2 rfl) ?_
      refine lv_isub hx hb d_Batch_removeGone_81 ?_
      refine W.widen (k := 0) (n := 0) (Nat.le_of_ble_eq_true rfl) (Nat.le_of_ble_eq_true rfl) ?_
      exact xretI C0 hw hP hS d_Batch_removeGone_82
    · replace hw := hw.2 cq
      refine lv_aload_n hx hb d_Batch_removeGone_60 rfl (lv_at hl 0 rfl) ?_
      refine xgetA hx hb htb i_Batch hown hK hP (ci := 1) rfl 2 (by decide) (htb _ k_Batch_32) (fun _ h9 => h9) hw d_Batch_removeGone_61 (fun r3 hw => ?_)
      refine lv_iload hx hb d_Batch_removeGone_64 (lv_at hl 3 rfl) ?_
      refine xv_null hx hb d_Batch_removeGone_66 ?_
      obtain ⟨p4, hpe, hw⟩ := hw
      revert hw
      revert hl
      subst hpe
      intro hl hw
      replace hl : lv_has ls 6 [(0, .ref x0), (2, .int x2), (3, .int x3), (4, .int x4)] := hl
      refine xstq hx hb hK hP hS 0 rfl (ci := 2) rfl (fun _ _ => rfl) hw d_Batch_removeGone_67 (fun h5 H locs hw hP hS => ?_)
      refine lv_iinc (v := x4 + 1) (lv' := [(4, .int (x4 + 1)), (0, .ref x0), (2, .int x2), (3, .int x3)]) hx hb d_Batch_removeGone_68 hl (k := 3) rfl rfl (by decide) rfl (fun ls hl => ?_)
      refine lv_goto (tgt := 54) hx hb d_Batch_removeGone_71 (by decide) ?_
      exact hk54 x0 x2 x3 (x4 + 1) h5 _ _ _ hw hP hS (lv_sub hl [1, 2, 3, 0] rfl)

set_option maxHeartbeats 4000000 in
set_option maxRecDepth 100000 in
theorem sb_Batch_removeGone_45 {p : Program} {l : Launch} {e : Env} {s : State} {m : MethodId} {args : Array Value} {below : List Frame} {meth : Method} {c : Code} {D : va_G} {d : Nat → ClassId} {A : Nat → Prop} {h0 : xw} {Q : Int32 → xw → Prop} {k10 : Nat → Int32 → Int32 → Int32 → Int32 → xw → Prop} (C0 : xctx p s m args meth c b_Batch_removeGone 6 (some .int) R_Batch D d A True) (hk10 : ∀ (x0 : Nat) (x1 : Int32) (x2 : Int32) (x3 : Int32) (x4 : Int32) (h : xw) (H : Heap) (locs : List Loc) (ls : Array Slot), k10 x0 x1 x2 x3 x4 h → xR sgX h0 D A h H → va_S A s.heap H locs → lv_has ls 6 [(0, .ref x0), (1, .int x1), (2, .int x2), (3, .int x3), (4, .int x4)] → W p l e rm_Batch_removeGone s m args below meth c H locs 0 0 (MQ below (va_Qi (fun r u => Q r u ∧ xfr sgX h0 u) (xB D d A) A) args s 0 0 A) (F0 m 10 ls [])) : ∀ (x0 : Nat) (x1 : Int32) (x2 : Int32) (x3 : Int32) (x4 : Int32) (h : xw) (H : Heap) (locs : List Loc) (ls : Array Slot), wb_Batch_removeGone_45 d k10 Q x0 x1 x2 x3 x4 h → xR sgX h0 D A h H → va_S A s.heap H locs → lv_has ls 6 [(0, .ref x0), (1, .int x1), (2, .int x2), (3, .int x3), (4, .int x4)] → W p l e rm_Batch_removeGone s m args below meth c H locs 0 0 (MQ below (va_Qi (fun r u => Q r u ∧ xfr sgX h0 u) (xB D d A) A) args s 0 0 A) (F0 m 45 ls []) := by
  obtain ⟨hx, hb, hr, hml, hown, htb, hK, hA, hNB, hlocks, hXT⟩ := id C0
  intro x0 x1 x2 x3 x4 h H locs ls hw hP hS hl
  refine lv_iinc (v := x4 + 1) (lv' := [(4, .int (x4 + 1)), (0, .ref x0), (1, .int x1), (2, .int x2), (3, .int x3)]) hx hb d_Batch_removeGone_45 hl (k := 4) rfl rfl (by decide) rfl (fun ls hl => ?_)
  refine lv_goto (tgt := 10) hx hb d_Batch_removeGone_48 (by decide) ?_
  exact hk10 x0 x1 x2 x3 (x4 + 1) h _ _ _ hw hP hS (lv_sub hl [1, 2, 3, 4, 0] rfl)

set_option maxHeartbeats 4000000 in
set_option maxRecDepth 100000 in
theorem sl_Batch_removeGone_10 {p : Program} {l : Launch} {e : Env} {s : State} {m : MethodId} {args : Array Value} {below : List Frame} {meth : Method} {c : Code} {D : va_G} {d : Nat → ClassId} {A : Nat → Prop} {h0 : xw} {Q : Int32 → xw → Prop} (C0 : xctx p s m args meth c b_Batch_removeGone 6 (some .int) R_Batch D d A True) : ∀ (n : Nat) (x : Nat × Int32 × Int32 × Int32 × Int32) (h : xw) (H : Heap) (locs : List Loc) (ls : Array Slot), xloop (fun (k : Nat × Int32 × Int32 × Int32 × Int32 → xw → Prop) (x : Nat × Int32 × Int32 × Int32 × Int32) (h : xw) => wc_Batch_removeGone_10 d Q (fun y0 y1 y2 y3 y4 h => k (y0, y1, y2, y3, y4) h) x.1 x.2.1 x.2.2.1 x.2.2.2.1 x.2.2.2.2 h) n x h → xR sgX h0 D A h H → va_S A s.heap H locs → lv_has ls 6 [(0, .ref x.1), (1, .int x.2.1), (2, .int x.2.2.1), (3, .int x.2.2.2.1), (4, .int x.2.2.2.2)] → W p l e rm_Batch_removeGone s m args below meth c H locs 0 0 (MQ below (va_Qi (fun r u => Q r u ∧ xfr sgX h0 u) (xB D d A) A) args s 0 0 A) (F0 m 10 ls []) := by
  obtain ⟨hx, hb, hr, hml, hown, htb, hK, hA, hNB, hlocks, hXT⟩ := id C0
  intro n
  induction n with
  | zero => intro x h H locs ls hw; exact hw.elim
  | succ n ih =>
    rintro ⟨x0, x1, x2, x3, x4⟩ h H locs ls hw hP hS hl
    replace hw : wc_Batch_removeGone_10 d Q (fun y0 y1 y2 y3 y4 h => xloop (fun (k : Nat × Int32 × Int32 × Int32 × Int32 → xw → Prop) (x : Nat × Int32 × Int32 × Int32 × Int32) (h : xw) => wc_Batch_removeGone_10 d Q (fun y0 y1 y2 y3 y4 h => k (y0, y1, y2, y3, y4) h) x.1 x.2.1 x.2.2.1 x.2.2.2.1 x.2.2.2.2 h) n (y0, y1, y2, y3, y4) h) x0 x1 x2 x3 x4 h := hw
    have hk10 := fun (x0 : Nat) (x1 : Int32) (x2 : Int32) (x3 : Int32) (x4 : Int32) => ih (x0, x1, x2, x3, x4)
    refine lv_iload hx hb d_Batch_removeGone_10 (lv_at hl 4 rfl) ?_
    refine lv_iload_n hx hb d_Batch_removeGone_12 rfl (lv_at hl 2 rfl) ?_
    refine lv_icmp_ge (tgt := 51) hx hb d_Batch_removeGone_13 (by decide) (fun cq => ?_) (fun cq => ?_)
    · replace hw := hw.1 cq
      refine lv_iload_n hx hb d_Batch_removeGone_51 rfl (lv_at hl 3 rfl) ?_
      refine lv_istore (lv' := [(4, .int x3), (0, .ref x0), (1, .int x1), (2, .int x2), (3, .int x3)]) hx hb d_Batch_removeGone_52 hl (by decide) rfl (fun ls hl => ?_)
      obtain ⟨n, hw⟩ := hw
      exact sl_Batch_removeGone_54 C0 n (x0, x2, x3, x3) h _ _ _ hw hP hS (lv_sub hl [1, 3, 4, 0] rfl)
    · replace hw := hw.2 cq
      refine lv_aload_n hx hb d_Batch_removeGone_16 rfl (lv_at hl 0 rfl) ?_
      refine xgetA hx hb htb i_Batch hown hK hP (ci := 1) rfl 2 (by decide) (htb _ k_Batch_32) (fun _ h9 => h9) hw d_Batch_removeGone_17 (fun r6 hw => ?_)
      refine lv_iload hx hb d_Batch_removeGone_20 (lv_at hl 4 rfl) ?_
      obtain ⟨p7, hpe, hw⟩ := hw
      revert hw
      revert hl
      subst hpe
      intro hl hw
      replace hl : lv_has ls 6 [(0, .ref x0), (1, .int x1), (2, .int x2), (3, .int x3), (4, .int x4)] := hl
      refine xldq hx hb hK hP 0 rfl hw d_Batch_removeGone_22 (fun r8 hw => ?_)
      refine xv_astore (lv' := [(5, va_rf r8), (0, .ref x0), (1, .int x1), (2, .int x2), (3, .int x3), (4, .int x4)]) hx hb d_Batch_removeGone_23 hl (by decide) rfl (fun ls hl => ?_)
      refine xv_aload hx hb d_Batch_removeGone_25 (lv_at hl 0 rfl) ?_
      refine lv_iload_n hx hb d_Batch_removeGone_27 rfl (lv_at hl 2 rfl) ?_
      obtain ⟨p9, hpe, hw⟩ := hw
      revert hw
      revert hl
      subst hpe
      intro hl hw
      replace hl : lv_has ls 6 [(5, .ref p9), (0, .ref x0), (1, .int x1), (2, .int x2), (3, .int x3), (4, .int x4)] := hl
      obtain ⟨⟨_, hw0⟩, hw⟩ := hw
      refine xcalli (va_runV (b := p9) (As := [.int x1]) (rest := []) ⟨hx, hb, hml, hown, htb⟩ (m_Entry_goes l D d h _ p9 x1 _ hw) (xcwV 1 htb g_code_Entry_goes g_ini_Entry k_Batch_47 g_im_Entry_goes g_sel_Entry_goes rfl rfl (by decide +kernel) ⟨(Nat.le_of_ble_eq_true rfl), (Nat.le_of_ble_eq_true rfl)⟩) (xpreV hP hK hNB (ci := 2) rfl hw0) rfl rfl hl.1 rfl (lv_room (Nat.le_of_ble_eq_true rfl)) d_Batch_removeGone_28 ⟨(Nat.le_of_ble_eq_true rfl), (Nat.le_of_ble_eq_true rfl)⟩) hP hS hA (fun r11 h10 H locs hw hP hS => ?_)
      refine W.widen (k := 0) (n := 0) (Nat.le_of_ble_eq_true rfl) (Nat.le_of_ble_eq_true rfl) ?_
      refine lv_if_ne (tgt := 45) hx hb d_Batch_removeGone_31 (by decide) (fun cq => ?_) (fun cq => ?_)
      · replace hw := hw.2 cq
        exact sb_Batch_removeGone_45 C0 hk10 x0 x1 x2 x3 x4 h10 _ _ _ hw hP hS (lv_sub hl [1, 2, 3, 4, 5] rfl)
      · replace hw := hw.1 cq
        refine lv_aload_n hx hb d_Batch_removeGone_34 rfl (lv_at hl 1 rfl) ?_
        refine xgetA hx hb htb i_Batch hown hK hP (ci := 1) rfl 2 (by decide) (htb _ k_Batch_32) (fun _ h9 => h9) hw d_Batch_removeGone_35 (fun r12 hw => ?_)
        refine lv_iload_n hx hb d_Batch_removeGone_38 rfl (lv_at hl 4 rfl) ?_
        refine lv_aload hx hb d_Batch_removeGone_39 (lv_at hl 0 rfl) ?_
        obtain ⟨p13, hpe, hw⟩ := hw
        revert hw
        revert hl
        subst hpe
        intro hl hw
        replace hl : lv_has ls 6 [(5, .ref p9), (0, .ref x0), (1, .int x1), (2, .int x2), (3, .int x3), (4, .int x4)] := hl
        refine xstq hx hb hK hP hS 0 rfl (ci := 2) rfl (fun _ _ => rfl) hw d_Batch_removeGone_41 (fun h14 H locs hw hP hS => ?_)
        refine lv_iinc (v := x3 + 1) (lv' := [(3, .int (x3 + 1)), (5, .ref p9), (0, .ref x0), (1, .int x1), (2, .int x2), (4, .int x4)]) hx hb d_Batch_removeGone_42 hl (k := 4) rfl rfl (by decide) rfl (fun ls hl => ?_)
        exact sb_Batch_removeGone_45 C0 hk10 x0 x1 x2 (x3 + 1) x4 h14 _ _ _ hw hP hS (lv_sub hl [2, 3, 4, 0, 5] rfl)

set_option maxHeartbeats 4000000 in
set_option maxRecDepth 100000 in
theorem m_Batch_removeGone (l : Launch) (D : va_G) (d : Nat → ClassId) (h : xw) (sz : Nat) (a0 : Nat) (a1 : Int32) (Q : Int32 → xw → Prop) (hw : wp_Batch_removeGone d h a0 a1 Q) : Met l y_Batch_removeGone ws_Batch_removeGone rm_Batch_removeGone (xPre D d h [.ref a0, .int a1] sz) (va_Qi (fun r u => Q r u ∧ xfr sgX h u) (xB D d (xA h sz)) (xA h sz)) 0 0 (xA h sz) := by
  refine Met.ofW (cc := b_Batch_removeGone) (maxL := 6) (ret := (some .int)) (by decide) rfl ?_
  intro p e s m args below meth c s₁ B hml hv
  obtain ⟨rfl, hsz, hP0, hK, hNB⟩ := hv
  have hts := atoms_spec (ws := ws_Batch_removeGone) B.pre
  have htb := fun w (hw9 : w ∈ TB) => hts w (List.mem_cons_of_mem _ hw9)
  have hown : s.vm.findClass R_Batch = some m.cls := findClass_of_methodNamed B.named
  subst hsz
  obtain ⟨A, hAe⟩ : ∃ A, A = xA h s.heap.size := ⟨_, rfl⟩
  rw [← hAe]
  have hP : xR sgX h D A h s.heap := ⟨by rw [hAe]; exact hP0.self, xfr.rf⟩
  have hA : ∀ q, s.heap.size ≤ q → A q := fun q hq => by rw [hAe]; exact Or.inr hq
  have hS : va_S A s.heap s.heap [] := va_S.rf
  have C0 : xctx p s m ([.ref a0, .int a1] : List Value).toArray meth c b_Batch_removeGone 6 (some .int) R_Batch D d A True := ⟨B.exec, B.bytes, B.returns, hml, hown, htb, hK, hA, hNB, B.notSynchronized, trivial⟩
  obtain ⟨hx, hb, hr, -, -, -, -, -, -, hlocks, hXT⟩ := id C0
  have hl := lv_entry ([.ref a0, .int a1] : List Value) (n := 6) (Nat.le_of_ble_eq_true rfl)
  rw [lg_entry_eq]
  generalize (lg_sl ([.ref a0, .int a1] : List Value) ++ List.replicate (6 - (lg_sl ([.ref a0, .int a1] : List Value)).length) Slot.unset).toArray = ls at hl ⊢
  have hl : lv_has ls 6 [(0, .ref a0), (1, .int a1)] := hl
  refine lv_aload_n hx hb d_Batch_removeGone_0 rfl (lv_at hl 0 rfl) ?_
  refine xgetI hx hb htb i_Batch hown hK hP (ci := 1) rfl 3 (by decide) (htb _ k_Batch_9) (fun _ h9 => h9) hw d_Batch_removeGone_1 (fun v1 hw => ?_)
  refine lv_istore_n (lv' := [(2, .int v1), (0, .ref a0), (1, .int a1)]) hx hb d_Batch_removeGone_4 rfl hl (by decide) rfl (fun ls hl => ?_)
  refine lv_iconst (v := 0) hx hb d_Batch_removeGone_5 (by decide) ?_
  refine lv_istore_n (lv' := [(3, .int 0), (2, .int v1), (0, .ref a0), (1, .int a1)]) hx hb d_Batch_removeGone_6 rfl hl (by decide) rfl (fun ls hl => ?_)
  refine lv_iconst (v := 0) hx hb d_Batch_removeGone_7 (by decide) ?_
  refine lv_istore (lv' := [(4, .int 0), (3, .int 0), (2, .int v1), (0, .ref a0), (1, .int a1)]) hx hb d_Batch_removeGone_8 hl (by decide) rfl (fun ls hl => ?_)
  obtain ⟨n, hw⟩ := hw
  exact sl_Batch_removeGone_10 C0 n (a0, a1, v1, 0, 0) h _ _ _ hw hP hS (lv_sub hl [3, 4, 2, 1, 0] rfl)

