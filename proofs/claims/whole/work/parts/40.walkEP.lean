theorem d_Entry_hasKey_0 : decode b_Entry_hasKey 0 = .ok (.aload_n 0, 1) := by decide +kernel
theorem d_Entry_hasKey_1 : decode b_Entry_hasKey 1 = .ok (.getfield 23, 3) := by decide +kernel
theorem d_Entry_hasKey_4 : decode b_Entry_hasKey 4 = .ok (.iconst (-1), 1) := by decide +kernel
theorem d_Entry_hasKey_5 : decode b_Entry_hasKey 5 = .ok (.if_icmp .eq 7, 3) := by decide +kernel
theorem d_Entry_hasKey_8 : decode b_Entry_hasKey 8 = .ok (.iconst 1, 1) := by decide +kernel
theorem d_Entry_hasKey_9 : decode b_Entry_hasKey 9 = .ok (.goto 4, 3) := by decide +kernel
theorem d_Entry_hasKey_12 : decode b_Entry_hasKey 12 = .ok (.iconst 0, 1) := by decide +kernel
theorem d_Entry_hasKey_13 : decode b_Entry_hasKey 13 = .ok (.ireturn, 1) := by decide +kernel
def rm_Entry_hasKey : Room := { frames := 0, cells := 0, slots := 0, locals := 0 }
def ws_Entry_hasKey : List Cond := Cond.code y_Entry_hasKey b_Entry_hasKey 1 (some .boolean) :: TB
set_option maxHeartbeats 4000000 in
set_option maxRecDepth 100000 in
theorem sb_Entry_hasKey_13 {p : Program} {l : Launch} {e : Env} {s : State} {m : MethodId} {args : Array Value} {below : List Frame} {meth : Method} {c : Code} {D : va_G} {d : Nat → ClassId} {A : Nat → Prop} {h0 : xw} {Q : Int32 → xw → Prop} (C0 : xctx p s m args meth c b_Entry_hasKey 1 (some .boolean) R_Entry D d A True) : ∀ (s0 : Int32) (h : xw) (H : Heap) (locs : List Loc) (ls : Array Slot), wb_Entry_hasKey_13 d Q  s0 h → xR sgX h0 D A h H → va_S A s.heap H locs → lv_has ls 1 [] → W p l e rm_Entry_hasKey s m args below meth c H locs 0 0 (MQ below (va_Qi (fun r u => Q r u ∧ xfr sgX h0 u) (xB D d A) A) args s 0 0 A) (F0 m 13 ls [.int s0]) := by
  obtain ⟨hx, hb, hr, hml, hown, htb, hK, hA, hNB, hlocks, hXT⟩ := id C0
  intro  s0 h H locs ls hw hP hS hl
  refine W.widen (k := 0) (n := 0) (Nat.le_of_ble_eq_true rfl) (Nat.le_of_ble_eq_true rfl) ?_
  exact xretZ C0 hw hP hS d_Entry_hasKey_13

set_option maxHeartbeats 4000000 in
set_option maxRecDepth 100000 in
theorem m_Entry_hasKey (l : Launch) (D : va_G) (d : Nat → ClassId) (h : xw) (sz : Nat) (a0 : Nat) (Q : Int32 → xw → Prop) (hw : wp_Entry_hasKey d h a0 Q) : Met l y_Entry_hasKey ws_Entry_hasKey rm_Entry_hasKey (xPre D d h [.ref a0] sz) (va_Qi (fun r u => Q r u ∧ xfr sgX h u) (xB D d (xA h sz)) (xA h sz)) 0 0 (xA h sz) := by
  refine Met.ofW (cc := b_Entry_hasKey) (maxL := 1) (ret := (some .boolean)) (by decide) rfl ?_
  intro p e s m args below meth c s₁ B hml hv
  obtain ⟨rfl, hsz, hP0, hK, hNB⟩ := hv
  have hts := atoms_spec (ws := ws_Entry_hasKey) B.pre
  have htb := fun w (hw9 : w ∈ TB) => hts w (List.mem_cons_of_mem _ hw9)
  have hown : s.vm.findClass R_Entry = some m.cls := findClass_of_methodNamed B.named
  subst hsz
  obtain ⟨A, hAe⟩ : ∃ A, A = xA h s.heap.size := ⟨_, rfl⟩
  rw [← hAe]
  have hP : xR sgX h D A h s.heap := ⟨by rw [hAe]; exact hP0.self, xfr.rf⟩
  have hA : ∀ q, s.heap.size ≤ q → A q := fun q hq => by rw [hAe]; exact Or.inr hq
  have hS : va_S A s.heap s.heap [] := va_S.rf
  have C0 : xctx p s m ([.ref a0] : List Value).toArray meth c b_Entry_hasKey 1 (some .boolean) R_Entry D d A True := ⟨B.exec, B.bytes, B.returns, hml, hown, htb, hK, hA, hNB, B.notSynchronized, trivial⟩
  obtain ⟨hx, hb, hr, -, -, -, -, -, -, hlocks, hXT⟩ := id C0
  have hl := lv_entry ([.ref a0] : List Value) (n := 1) (Nat.le_of_ble_eq_true rfl)
  rw [lg_entry_eq]
  generalize (lg_sl ([.ref a0] : List Value) ++ List.replicate (1 - (lg_sl ([.ref a0] : List Value)).length) Slot.unset).toArray = ls at hl ⊢
  have hl : lv_has ls 1 [(0, .ref a0)] := hl
  refine lv_aload_n hx hb d_Entry_hasKey_0 rfl (lv_at hl 0 rfl) ?_
  refine xgetI hx hb htb i_Entry hown hK hP (ci := 2) rfl 1 (by decide) (htb _ k_Entry_23) (fun _ h9 => h9) hw d_Entry_hasKey_1 (fun v1 hw => ?_)
  refine lv_iconst (v := (-1)) hx hb d_Entry_hasKey_4 (by decide) ?_
  refine lv_icmp_eq (tgt := 12) hx hb d_Entry_hasKey_5 (by decide) (fun cq => ?_) (fun cq => ?_)
  · replace hw := hw.1 cq
    refine lv_iconst (v := 0) hx hb d_Entry_hasKey_12 (by decide) ?_
    exact sb_Entry_hasKey_13 C0 0 h _ _ _ hw hP hS (lv_sub hl [] rfl)
  · replace hw := hw.2 cq
    refine lv_iconst (v := 1) hx hb d_Entry_hasKey_8 (by decide) ?_
    refine lv_goto (tgt := 13) hx hb d_Entry_hasKey_9 (by decide) ?_
    exact sb_Entry_hasKey_13 C0 1 h _ _ _ hw hP hS (lv_sub hl [] rfl)

theorem d_Entry_sizeInBytes_0 : decode b_Entry_sizeInBytes 0 = .ok (.bipush 8, 2) := by decide +kernel
theorem d_Entry_sizeInBytes_2 : decode b_Entry_sizeInBytes 2 = .ok (.aload_n 0, 1) := by decide +kernel
theorem d_Entry_sizeInBytes_3 : decode b_Entry_sizeInBytes 3 = .ok (.invokevirtual 35, 3) := by decide +kernel
theorem d_Entry_sizeInBytes_6 : decode b_Entry_sizeInBytes 6 = .ok (.ifCond .eq 10, 3) := by decide +kernel
theorem d_Entry_sizeInBytes_9 : decode b_Entry_sizeInBytes 9 = .ok (.aload_n 0, 1) := by decide +kernel
theorem d_Entry_sizeInBytes_10 : decode b_Entry_sizeInBytes 10 = .ok (.getfield 23, 3) := by decide +kernel
theorem d_Entry_sizeInBytes_13 : decode b_Entry_sizeInBytes 13 = .ok (.goto 4, 3) := by decide +kernel
theorem d_Entry_sizeInBytes_16 : decode b_Entry_sizeInBytes 16 = .ok (.iconst 0, 1) := by decide +kernel
theorem d_Entry_sizeInBytes_17 : decode b_Entry_sizeInBytes 17 = .ok (.iadd, 1) := by decide +kernel
theorem d_Entry_sizeInBytes_18 : decode b_Entry_sizeInBytes 18 = .ok (.aload_n 0, 1) := by decide +kernel
theorem d_Entry_sizeInBytes_19 : decode b_Entry_sizeInBytes 19 = .ok (.getfield 26, 3) := by decide +kernel
theorem d_Entry_sizeInBytes_22 : decode b_Entry_sizeInBytes 22 = .ok (.ifCond .eq 8, 3) := by decide +kernel
theorem d_Entry_sizeInBytes_25 : decode b_Entry_sizeInBytes 25 = .ok (.bipush 8, 2) := by decide +kernel
theorem d_Entry_sizeInBytes_27 : decode b_Entry_sizeInBytes 27 = .ok (.goto 4, 3) := by decide +kernel
theorem d_Entry_sizeInBytes_30 : decode b_Entry_sizeInBytes 30 = .ok (.iconst 0, 1) := by decide +kernel
theorem d_Entry_sizeInBytes_31 : decode b_Entry_sizeInBytes 31 = .ok (.iadd, 1) := by decide +kernel
theorem d_Entry_sizeInBytes_32 : decode b_Entry_sizeInBytes 32 = .ok (.ireturn, 1) := by decide +kernel
def rm_Entry_sizeInBytes : Room := { frames := 1, cells := 0, slots := 0, locals := 20 }
def ws_Entry_sizeInBytes : List Cond := Cond.code y_Entry_sizeInBytes b_Entry_sizeInBytes 1 (some .int) :: TB
set_option maxHeartbeats 4000000 in
set_option maxRecDepth 100000 in
theorem sb_Entry_sizeInBytes_31 {p : Program} {l : Launch} {e : Env} {s : State} {m : MethodId} {args : Array Value} {below : List Frame} {meth : Method} {c : Code} {D : va_G} {d : Nat → ClassId} {A : Nat → Prop} {h0 : xw} {Q : Int32 → xw → Prop} (C0 : xctx p s m args meth c b_Entry_sizeInBytes 1 (some .int) R_Entry D d A True) : ∀ (s0 : Int32) (s1 : Int32) (h : xw) (H : Heap) (locs : List Loc) (ls : Array Slot), wb_Entry_sizeInBytes_31 d Q  s0 s1 h → xR sgX h0 D A h H → va_S A s.heap H locs → lv_has ls 1 [] → W p l e rm_Entry_sizeInBytes s m args below meth c H locs 0 0 (MQ below (va_Qi (fun r u => Q r u ∧ xfr sgX h0 u) (xB D d A) A) args s 0 0 A) (F0 m 31 ls [.int s0, .int s1]) := by
  obtain ⟨hx, hb, hr, hml, hown, htb, hK, hA, hNB, hlocks, hXT⟩ := id C0
  intro  s0 s1 h H locs ls hw hP hS hl
  refine lv_iadd hx hb d_Entry_sizeInBytes_31 ?_
  refine W.widen (k := 0) (n := 0) (Nat.le_of_ble_eq_true rfl) (Nat.le_of_ble_eq_true rfl) ?_
  exact xretI C0 hw hP hS d_Entry_sizeInBytes_32

set_option maxHeartbeats 4000000 in
set_option maxRecDepth 100000 in
theorem sb_Entry_sizeInBytes_17 {p : Program} {l : Launch} {e : Env} {s : State} {m : MethodId} {args : Array Value} {below : List Frame} {meth : Method} {c : Code} {D : va_G} {d : Nat → ClassId} {A : Nat → Prop} {h0 : xw} {Q : Int32 → xw → Prop} (C0 : xctx p s m args meth c b_Entry_sizeInBytes 1 (some .int) R_Entry D d A True) : ∀ (x0 : Nat) (s0 : Int32) (s1 : Int32) (h : xw) (H : Heap) (locs : List Loc) (ls : Array Slot), wb_Entry_sizeInBytes_17 d Q x0 s0 s1 h → xR sgX h0 D A h H → va_S A s.heap H locs → lv_has ls 1 [(0, .ref x0)] → W p l e rm_Entry_sizeInBytes s m args below meth c H locs 0 0 (MQ below (va_Qi (fun r u => Q r u ∧ xfr sgX h0 u) (xB D d A) A) args s 0 0 A) (F0 m 17 ls [.int s0, .int s1]) := by
  obtain ⟨hx, hb, hr, hml, hown, htb, hK, hA, hNB, hlocks, hXT⟩ := id C0
  intro x0 s0 s1 h H locs ls hw hP hS hl
  refine lv_iadd hx hb d_Entry_sizeInBytes_17 ?_
  refine lv_aload_n hx hb d_Entry_sizeInBytes_18 rfl (lv_at hl 0 rfl) ?_
  refine xgetI hx hb htb i_Entry hown hK hP (ci := 2) rfl 2 (by decide) (htb _ k_Entry_26) (fun _ h9 => h9) hw d_Entry_sizeInBytes_19 (fun v3 hw => ?_)
  refine lv_if_eq (tgt := 30) hx hb d_Entry_sizeInBytes_22 (by decide) (fun cq => ?_) (fun cq => ?_)
  · replace hw := hw.1 cq
    refine lv_iconst (v := 0) hx hb d_Entry_sizeInBytes_30 (by decide) ?_
    exact sb_Entry_sizeInBytes_31 C0 0 (s1 + s0) h _ _ _ hw hP hS (lv_sub hl [] rfl)
  · replace hw := hw.2 cq
    refine lv_bipush (v := 8) hx hb d_Entry_sizeInBytes_25 (by decide) ?_
    refine lv_goto (tgt := 31) hx hb d_Entry_sizeInBytes_27 (by decide) ?_
    exact sb_Entry_sizeInBytes_31 C0 8 (s1 + s0) h _ _ _ hw hP hS (lv_sub hl [] rfl)

set_option maxHeartbeats 4000000 in
set_option maxRecDepth 100000 in
theorem m_Entry_sizeInBytes (l : Launch) (D : va_G) (d : Nat → ClassId) (h : xw) (sz : Nat) (a0 : Nat) (Q : Int32 → xw → Prop) (hw : wp_Entry_sizeInBytes d h a0 Q) : Met l y_Entry_sizeInBytes ws_Entry_sizeInBytes rm_Entry_sizeInBytes (xPre D d h [.ref a0] sz) (va_Qi (fun r u => Q r u ∧ xfr sgX h u) (xB D d (xA h sz)) (xA h sz)) 0 0 (xA h sz) := by
  refine Met.ofW (cc := b_Entry_sizeInBytes) (maxL := 1) (ret := (some .int)) (by decide) rfl ?_
  intro p e s m args below meth c s₁ B hml hv
  obtain ⟨rfl, hsz, hP0, hK, hNB⟩ := hv
  have hts := atoms_spec (ws := ws_Entry_sizeInBytes) B.pre
  have htb := fun w (hw9 : w ∈ TB) => hts w (List.mem_cons_of_mem _ hw9)
  have hown : s.vm.findClass R_Entry = some m.cls := findClass_of_methodNamed B.named
  subst hsz
  obtain ⟨A, hAe⟩ : ∃ A, A = xA h s.heap.size := ⟨_, rfl⟩
  rw [← hAe]
  have hP : xR sgX h D A h s.heap := ⟨by rw [hAe]; exact hP0.self, xfr.rf⟩
  have hA : ∀ q, s.heap.size ≤ q → A q := fun q hq => by rw [hAe]; exact Or.inr hq
  have hS : va_S A s.heap s.heap [] := va_S.rf
  have C0 : xctx p s m ([.ref a0] : List Value).toArray meth c b_Entry_sizeInBytes 1 (some .int) R_Entry D d A True := ⟨B.exec, B.bytes, B.returns, hml, hown, htb, hK, hA, hNB, B.notSynchronized, trivial⟩
  obtain ⟨hx, hb, hr, -, -, -, -, -, -, hlocks, hXT⟩ := id C0
  have hl := lv_entry ([.ref a0] : List Value) (n := 1) (Nat.le_of_ble_eq_true rfl)
  rw [lg_entry_eq]
  generalize (lg_sl ([.ref a0] : List Value) ++ List.replicate (1 - (lg_sl ([.ref a0] : List Value)).length) Slot.unset).toArray = ls at hl ⊢
  have hl : lv_has ls 1 [(0, .ref a0)] := hl
  refine lv_bipush (v := 8) hx hb d_Entry_sizeInBytes_0 (by decide) ?_
  refine lv_aload_n hx hb d_Entry_sizeInBytes_2 rfl (lv_at hl 0 rfl) ?_
  obtain ⟨⟨_, hw0⟩, hw⟩ := hw
  refine xcalli (va_runV (b := a0) (As := []) (rest := [.int 8]) ⟨hx, hb, hml, hown, htb⟩ (m_Entry_hasKey l D d h _ a0 _ hw) (xcwV 0 htb g_code_Entry_hasKey g_ini_Entry k_Entry_35 g_im_Entry_hasKey g_sel_Entry_hasKey rfl rfl (by decide +kernel) ⟨(Nat.le_of_ble_eq_true rfl), (Nat.le_of_ble_eq_true rfl)⟩) (xpreV hP hK hNB (ci := 2) rfl hw0) rfl rfl hl.1 rfl (lv_room (Nat.le_of_ble_eq_true rfl)) d_Entry_sizeInBytes_3 ⟨(Nat.le_of_ble_eq_true rfl), (Nat.le_of_ble_eq_true rfl)⟩) hP hS hA (fun r2 h1 H locs hw hP hS => ?_)
  refine W.widen (k := 0) (n := 0) (Nat.le_of_ble_eq_true rfl) (Nat.le_of_ble_eq_true rfl) ?_
  refine lv_if_eq (tgt := 16) hx hb d_Entry_sizeInBytes_6 (by decide) (fun cq => ?_) (fun cq => ?_)
  · replace hw := hw.1 cq
    refine lv_iconst (v := 0) hx hb d_Entry_sizeInBytes_16 (by decide) ?_
    exact sb_Entry_sizeInBytes_17 C0 a0 0 8 h1 _ _ _ hw hP hS (lv_sub hl [0] rfl)
  · replace hw := hw.2 cq
    refine lv_aload_n hx hb d_Entry_sizeInBytes_9 rfl (lv_at hl 0 rfl) ?_
    refine xgetI hx hb htb i_Entry hown hK hP (ci := 2) rfl 1 (by decide) (htb _ k_Entry_23) (fun _ h9 => h9) hw d_Entry_sizeInBytes_10 (fun v4 hw => ?_)
    refine lv_goto (tgt := 17) hx hb d_Entry_sizeInBytes_13 (by decide) ?_
    exact sb_Entry_sizeInBytes_17 C0 a0 v4 8 h1 _ _ _ hw hP hS (lv_sub hl [0] rfl)

theorem d_Entry_goes_0 : decode b_Entry_goes 0 = .ok (.aload_n 0, 1) := by decide +kernel
theorem d_Entry_goes_1 : decode b_Entry_goes 1 = .ok (.getfield 15, 3) := by decide +kernel
theorem d_Entry_goes_4 : decode b_Entry_goes 4 = .ok (.ifCond .ne 25, 3) := by decide +kernel
theorem d_Entry_goes_7 : decode b_Entry_goes 7 = .ok (.aload_n 0, 1) := by decide +kernel
theorem d_Entry_goes_8 : decode b_Entry_goes 8 = .ok (.invokevirtual 35, 3) := by decide +kernel
theorem d_Entry_goes_11 : decode b_Entry_goes 11 = .ok (.ifCond .eq 22, 3) := by decide +kernel
theorem d_Entry_goes_14 : decode b_Entry_goes 14 = .ok (.aload_n 0, 1) := by decide +kernel
theorem d_Entry_goes_15 : decode b_Entry_goes 15 = .ok (.getfield 26, 3) := by decide +kernel
theorem d_Entry_goes_18 : decode b_Entry_goes 18 = .ok (.ifCond .ne 15, 3) := by decide +kernel
theorem d_Entry_goes_21 : decode b_Entry_goes 21 = .ok (.aload_n 0, 1) := by decide +kernel
theorem d_Entry_goes_22 : decode b_Entry_goes 22 = .ok (.getfield 32, 3) := by decide +kernel
theorem d_Entry_goes_25 : decode b_Entry_goes 25 = .ok (.iload_n 1, 1) := by decide +kernel
theorem d_Entry_goes_26 : decode b_Entry_goes 26 = .ok (.if_icmp .gt 7, 3) := by decide +kernel
theorem d_Entry_goes_29 : decode b_Entry_goes 29 = .ok (.iconst 1, 1) := by decide +kernel
theorem d_Entry_goes_30 : decode b_Entry_goes 30 = .ok (.goto 4, 3) := by decide +kernel
theorem d_Entry_goes_33 : decode b_Entry_goes 33 = .ok (.iconst 0, 1) := by decide +kernel
theorem d_Entry_goes_34 : decode b_Entry_goes 34 = .ok (.ireturn, 1) := by decide +kernel
def rm_Entry_goes : Room := { frames := 1, cells := 0, slots := 0, locals := 20 }
def ws_Entry_goes : List Cond := Cond.code y_Entry_goes b_Entry_goes 2 (some .boolean) :: TB
set_option maxHeartbeats 4000000 in
set_option maxRecDepth 100000 in
theorem sb_Entry_goes_34 {p : Program} {l : Launch} {e : Env} {s : State} {m : MethodId} {args : Array Value} {below : List Frame} {meth : Method} {c : Code} {D : va_G} {d : Nat → ClassId} {A : Nat → Prop} {h0 : xw} {Q : Int32 → xw → Prop} (C0 : xctx p s m args meth c b_Entry_goes 2 (some .boolean) R_Entry D d A True) : ∀ (s0 : Int32) (h : xw) (H : Heap) (locs : List Loc) (ls : Array Slot), wb_Entry_goes_34 d Q  s0 h → xR sgX h0 D A h H → va_S A s.heap H locs → lv_has ls 2 [] → W p l e rm_Entry_goes s m args below meth c H locs 0 0 (MQ below (va_Qi (fun r u => Q r u ∧ xfr sgX h0 u) (xB D d A) A) args s 0 0 A) (F0 m 34 ls [.int s0]) := by
  obtain ⟨hx, hb, hr, hml, hown, htb, hK, hA, hNB, hlocks, hXT⟩ := id C0
  intro  s0 h H locs ls hw hP hS hl
  refine W.widen (k := 0) (n := 0) (Nat.le_of_ble_eq_true rfl) (Nat.le_of_ble_eq_true rfl) ?_
  exact xretZ C0 hw hP hS d_Entry_goes_34

set_option maxHeartbeats 4000000 in
set_option maxRecDepth 100000 in
theorem sb_Entry_goes_29 {p : Program} {l : Launch} {e : Env} {s : State} {m : MethodId} {args : Array Value} {below : List Frame} {meth : Method} {c : Code} {D : va_G} {d : Nat → ClassId} {A : Nat → Prop} {h0 : xw} {Q : Int32 → xw → Prop} (C0 : xctx p s m args meth c b_Entry_goes 2 (some .boolean) R_Entry D d A True) : ∀ (h : xw) (H : Heap) (locs : List Loc) (ls : Array Slot), wb_Entry_goes_29 d Q  h → xR sgX h0 D A h H → va_S A s.heap H locs → lv_has ls 2 [] → W p l e rm_Entry_goes s m args below meth c H locs 0 0 (MQ below (va_Qi (fun r u => Q r u ∧ xfr sgX h0 u) (xB D d A) A) args s 0 0 A) (F0 m 29 ls []) := by
  obtain ⟨hx, hb, hr, hml, hown, htb, hK, hA, hNB, hlocks, hXT⟩ := id C0
  intro  h H locs ls hw hP hS hl
  refine lv_iconst (v := 1) hx hb d_Entry_goes_29 (by decide) ?_
  refine lv_goto (tgt := 34) hx hb d_Entry_goes_30 (by decide) ?_
  exact sb_Entry_goes_34 C0 1 h _ _ _ hw hP hS (lv_sub hl [] rfl)

set_option maxHeartbeats 4000000 in
set_option maxRecDepth 100000 in
theorem sb_Entry_goes_33 {p : Program} {l : Launch} {e : Env} {s : State} {m : MethodId} {args : Array Value} {below : List Frame} {meth : Method} {c : Code} {D : va_G} {d : Nat → ClassId} {A : Nat → Prop} {h0 : xw} {Q : Int32 → xw → Prop} (C0 : xctx p s m args meth c b_Entry_goes 2 (some .boolean) R_Entry D d A True) : ∀ (h : xw) (H : Heap) (locs : List Loc) (ls : Array Slot), wb_Entry_goes_33 d Q  h → xR sgX h0 D A h H → va_S A s.heap H locs → lv_has ls 2 [] → W p l e rm_Entry_goes s m args below meth c H locs 0 0 (MQ below (va_Qi (fun r u => Q r u ∧ xfr sgX h0 u) (xB D d A) A) args s 0 0 A) (F0 m 33 ls []) := by
  obtain ⟨hx, hb, hr, hml, hown, htb, hK, hA, hNB, hlocks, hXT⟩ := id C0
  intro  h H locs ls hw hP hS hl
  refine lv_iconst (v := 0) hx hb d_Entry_goes_33 (by decide) ?_
  exact sb_Entry_goes_34 C0 0 h _ _ _ hw hP hS (lv_sub hl [] rfl)

set_option maxHeartbeats 4000000 in
set_option maxRecDepth 100000 in
theorem m_Entry_goes (l : Launch) (D : va_G) (d : Nat → ClassId) (h : xw) (sz : Nat) (a0 : Nat) (a1 : Int32) (Q : Int32 → xw → Prop) (hw : wp_Entry_goes d h a0 a1 Q) : Met l y_Entry_goes ws_Entry_goes rm_Entry_goes (xPre D d h [.ref a0, .int a1] sz) (va_Qi (fun r u => Q r u ∧ xfr sgX h u) (xB D d (xA h sz)) (xA h sz)) 0 0 (xA h sz) := by
  refine Met.ofW (cc := b_Entry_goes) (maxL := 2) (ret := (some .boolean)) (by decide) rfl ?_
  intro p e s m args below meth c s₁ B hml hv
  obtain ⟨rfl, hsz, hP0, hK, hNB⟩ := hv
  have hts := atoms_spec (ws := ws_Entry_goes) B.pre
  have htb := fun w (hw9 : w ∈ TB) => hts w (List.mem_cons_of_mem _ hw9)
  have hown : s.vm.findClass R_Entry = some m.cls := findClass_of_methodNamed B.named
  subst hsz
  obtain ⟨A, hAe⟩ : ∃ A, A = xA h s.heap.size := ⟨_, rfl⟩
  rw [← hAe]
  have hP : xR sgX h D A h s.heap := ⟨by rw [hAe]; exact hP0.self, xfr.rf⟩
  have hA : ∀ q, s.heap.size ≤ q → A q := fun q hq => by rw [hAe]; exact Or.inr hq
  have hS : va_S A s.heap s.heap [] := va_S.rf
  have C0 : xctx p s m ([.ref a0, .int a1] : List Value).toArray meth c b_Entry_goes 2 (some .boolean) R_Entry D d A True := ⟨B.exec, B.bytes, B.returns, hml, hown, htb, hK, hA, hNB, B.notSynchronized, trivial⟩
  obtain ⟨hx, hb, hr, -, -, -, -, -, -, hlocks, hXT⟩ := id C0
  have hl := lv_entry ([.ref a0, .int a1] : List Value) (n := 2) (Nat.le_of_ble_eq_true rfl)
  rw [lg_entry_eq]
  generalize (lg_sl ([.ref a0, .int a1] : List Value) ++ List.replicate (2 - (lg_sl ([.ref a0, .int a1] : List Value)).length) Slot.unset).toArray = ls at hl ⊢
  have hl : lv_has ls 2 [(0, .ref a0), (1, .int a1)] := hl
  refine lv_aload_n hx hb d_Entry_goes_0 rfl (lv_at hl 0 rfl) ?_
  refine xgetI hx hb htb i_Entry hown hK hP (ci := 2) rfl 6 (by decide) (htb _ k_Entry_15) (fun _ h9 => h9) hw d_Entry_goes_1 (fun v1 hw => ?_)
  refine lv_if_ne (tgt := 29) hx hb d_Entry_goes_4 (by decide) (fun cq => ?_) (fun cq => ?_)
  · replace hw := hw.2 cq
    exact sb_Entry_goes_29 C0  h _ _ _ hw hP hS (lv_sub hl [] rfl)
  · replace hw := hw.1 cq
    refine lv_aload_n hx hb d_Entry_goes_7 rfl (lv_at hl 0 rfl) ?_
    obtain ⟨⟨_, hw0⟩, hw⟩ := hw
    refine xcalli (va_runV (b := a0) (As := []) (rest := []) ⟨hx, hb, hml, hown, htb⟩ (m_Entry_hasKey l D d h _ a0 _ hw) (xcwV 0 htb g_code_Entry_hasKey g_ini_Entry k_Entry_35 g_im_Entry_hasKey g_sel_Entry_hasKey rfl rfl (by decide +kernel) ⟨(Nat.le_of_ble_eq_true rfl), (Nat.le_of_ble_eq_true rfl)⟩) (xpreV hP hK hNB (ci := 2) rfl hw0) rfl rfl hl.1 rfl (lv_room (Nat.le_of_ble_eq_true rfl)) d_Entry_goes_8 ⟨(Nat.le_of_ble_eq_true rfl), (Nat.le_of_ble_eq_true rfl)⟩) hP hS hA (fun r3 h2 H locs hw hP hS => ?_)
    refine W.widen (k := 0) (n := 0) (Nat.le_of_ble_eq_true rfl) (Nat.le_of_ble_eq_true rfl) ?_
    refine lv_if_eq (tgt := 33) hx hb d_Entry_goes_11 (by decide) (fun cq => ?_) (fun cq => ?_)
    · replace hw := hw.1 cq
      exact sb_Entry_goes_33 C0  h2 _ _ _ hw hP hS (lv_sub hl [] rfl)
    · replace hw := hw.2 cq
      refine lv_aload_n hx hb d_Entry_goes_14 rfl (lv_at hl 0 rfl) ?_
      refine xgetI hx hb htb i_Entry hown hK hP (ci := 2) rfl 2 (by decide) (htb _ k_Entry_26) (fun _ h9 => h9) hw d_Entry_goes_15 (fun v4 hw => ?_)
      refine lv_if_ne (tgt := 33) hx hb d_Entry_goes_18 (by decide) (fun cq => ?_) (fun cq => ?_)
      · replace hw := hw.2 cq
        exact sb_Entry_goes_33 C0  h2 _ _ _ hw hP hS (lv_sub hl [] rfl)
      · replace hw := hw.1 cq
        refine lv_aload_n hx hb d_Entry_goes_21 rfl (lv_at hl 0 rfl) ?_
        refine xgetI hx hb htb i_Entry hown hK hP (ci := 2) rfl 4 (by decide) (htb _ k_Entry_32) (fun _ h9 => h9) hw d_Entry_goes_22 (fun v5 hw => ?_)
        refine lv_iload_n hx hb d_Entry_goes_25 rfl (lv_at hl 1 rfl) ?_
        refine lv_icmp_gt (tgt := 33) hx hb d_Entry_goes_26 (by decide) (fun cq => ?_) (fun cq => ?_)
        · replace hw := hw.1 cq
          exact sb_Entry_goes_33 C0  h2 _ _ _ hw hP hS (lv_sub hl [] rfl)
        · replace hw := hw.2 cq
          exact sb_Entry_goes_29 C0  h2 _ _ _ hw hP hS (lv_sub hl [] rfl)

theorem d_Entry_init_0 : decode b_Entry_init 0 = .ok (.aload_n 0, 1) := by decide +kernel
theorem d_Entry_init_1 : decode b_Entry_init 1 = .ok (.invokespecial 3, 3) := by decide +kernel
theorem d_Entry_init_4 : decode b_Entry_init 4 = .ok (.aload_n 0, 1) := by decide +kernel
theorem d_Entry_init_5 : decode b_Entry_init 5 = .ok (.iconst (-1), 1) := by decide +kernel
theorem d_Entry_init_6 : decode b_Entry_init 6 = .ok (.putfield 9, 3) := by decide +kernel
theorem d_Entry_init_9 : decode b_Entry_init 9 = .ok (.aload_n 0, 1) := by decide +kernel
theorem d_Entry_init_10 : decode b_Entry_init 10 = .ok (.iconst 0, 1) := by decide +kernel
theorem d_Entry_init_11 : decode b_Entry_init 11 = .ok (.putfield 15, 3) := by decide +kernel
theorem d_Entry_init_14 : decode b_Entry_init 14 = .ok (.aload_n 0, 1) := by decide +kernel
theorem d_Entry_init_15 : decode b_Entry_init 15 = .ok (.lload_n 1, 1) := by decide +kernel
theorem d_Entry_init_16 : decode b_Entry_init 16 = .ok (.putfield 19, 3) := by decide +kernel
theorem d_Entry_init_19 : decode b_Entry_init 19 = .ok (.aload_n 0, 1) := by decide +kernel
theorem d_Entry_init_20 : decode b_Entry_init 20 = .ok (.iload_n 3, 1) := by decide +kernel
theorem d_Entry_init_21 : decode b_Entry_init 21 = .ok (.putfield 23, 3) := by decide +kernel
theorem d_Entry_init_24 : decode b_Entry_init 24 = .ok (.aload_n 0, 1) := by decide +kernel
theorem d_Entry_init_25 : decode b_Entry_init 25 = .ok (.iload 4, 2) := by decide +kernel
theorem d_Entry_init_27 : decode b_Entry_init 27 = .ok (.putfield 26, 3) := by decide +kernel
theorem d_Entry_init_30 : decode b_Entry_init 30 = .ok (.aload_n 0, 1) := by decide +kernel
theorem d_Entry_init_31 : decode b_Entry_init 31 = .ok (.lload 5, 2) := by decide +kernel
theorem d_Entry_init_33 : decode b_Entry_init 33 = .ok (.putfield 29, 3) := by decide +kernel
theorem d_Entry_init_36 : decode b_Entry_init 36 = .ok (.aload_n 0, 1) := by decide +kernel
theorem d_Entry_init_37 : decode b_Entry_init 37 = .ok (.iload 7, 2) := by decide +kernel
theorem d_Entry_init_39 : decode b_Entry_init 39 = .ok (.putfield 32, 3) := by decide +kernel
theorem d_Entry_init_42 : decode b_Entry_init 42 = .ok (.return_, 1) := by decide +kernel
def rm_Entry_init : Room := { frames := 1, cells := 0, slots := 0, locals := 12 }
def ws_Entry_init : List Cond := Cond.code y_Entry_init b_Entry_init 8 none :: TB
set_option maxHeartbeats 4000000 in
set_option maxRecDepth 100000 in
theorem m_Entry_init (l : Launch) (D : va_G) (d : Nat → ClassId) (h : xw) (sz : Nat) (a0 : Nat) (a1 : Int64) (a3 : Int32) (a4 : Int32) (a5 : Int64) (a7 : Int32) (Q : xw → Prop) (hw : wp_Entry_init d h a0 a1 a3 a4 a5 a7 Q) : Met l y_Entry_init ws_Entry_init rm_Entry_init (xPre D d h [.ref a0, .long a1, .int a3, .int a4, .long a5, .int a7] sz) (va_Qv (fun u => Q u ∧ xfr sgX h u) (xB D d (xA h sz)) (xA h sz)) 0 0 (xA h sz) := by
  refine Met.ofW (cc := b_Entry_init) (maxL := 8) (ret := none) (by decide) rfl ?_
  intro p e s m args below meth c s₁ B hml hv
  obtain ⟨rfl, hsz, hP0, hK, hNB⟩ := hv
  have hts := atoms_spec (ws := ws_Entry_init) B.pre
  have htb := fun w (hw9 : w ∈ TB) => hts w (List.mem_cons_of_mem _ hw9)
  have hown : s.vm.findClass R_Entry = some m.cls := findClass_of_methodNamed B.named
  subst hsz
  obtain ⟨A, hAe⟩ : ∃ A, A = xA h s.heap.size := ⟨_, rfl⟩
  rw [← hAe]
  have hP : xR sgX h D A h s.heap := ⟨by rw [hAe]; exact hP0.self, xfr.rf⟩
  have hA : ∀ q, s.heap.size ≤ q → A q := fun q hq => by rw [hAe]; exact Or.inr hq
  have hS : va_S A s.heap s.heap [] := va_S.rf
  have C0 : xctx p s m ([.ref a0, .long a1, .int a3, .int a4, .long a5, .int a7] : List Value).toArray meth c b_Entry_init 8 none R_Entry D d A (meth.name = "<init>") := ⟨B.exec, B.bytes, B.returns, hml, hown, htb, hK, hA, hNB, B.notSynchronized, (name_of_methodNamed B.named B.method).1⟩
  obtain ⟨hx, hb, hr, -, -, -, -, -, -, hlocks, hXT⟩ := id C0
  have hl := lv_entry ([.ref a0, .long a1, .int a3, .int a4, .long a5, .int a7] : List Value) (n := 8) (Nat.le_of_ble_eq_true rfl)
  rw [lg_entry_eq]
  generalize (lg_sl ([.ref a0, .long a1, .int a3, .int a4, .long a5, .int a7] : List Value) ++ List.replicate (8 - (lg_sl ([.ref a0, .long a1, .int a3, .int a4, .long a5, .int a7] : List Value)).length) Slot.unset).toArray = ls at hl ⊢
  have hl : lv_has ls 8 [(0, .ref a0), (1, .long a1), (3, .int a3), (4, .int a4), (5, .long a5), (7, .int a7)] := hl
  refine lv_aload_n hx hb d_Entry_init_0 rfl (lv_at hl 0 rfl) ?_
  refine W.objInit hx hb hown (htb _ k_Entry_3) (htb _ g_im_obj) (htb _ g_code_obj) rfl (by rw [hml]; exact hl.1) rfl d_Entry_init_1 (Nat.le_of_ble_eq_true rfl) (Nat.le_of_ble_eq_true rfl) ?_
  refine W.eq (g2 := F0 m 4 ls []) rfl ?_
  refine lv_aload_n hx hb d_Entry_init_4 rfl (lv_at hl 0 rfl) ?_
  refine lv_iconst (v := (-1)) hx hb d_Entry_init_5 (by decide) ?_
  refine xputI hx hb htb i_Entry t_Entry t_Entry_ok n_Entry hown hK hP hS (ci := 2) rfl (fun _ => rfl) 5 (by decide) (htb _ k_Entry_9) (fun _ h9 => h9) rfl (by decide +kernel) hw d_Entry_init_6 (fun h1 H locs hw hP hS => ?_)
  refine lv_aload_n hx hb d_Entry_init_9 rfl (lv_at hl 0 rfl) ?_
  refine lv_iconst (v := 0) hx hb d_Entry_init_10 (by decide) ?_
  refine xputZ hx hb htb i_Entry t_Entry t_Entry_ok n_Entry hown hK hP hS (ci := 2) rfl (fun _ => rfl) 6 (by decide) (htb _ k_Entry_15) (fun _ h9 => h9) rfl (by decide +kernel) hw d_Entry_init_11 (fun h2 H locs hw hP hS => ?_)
  refine lv_aload_n hx hb d_Entry_init_14 rfl (lv_at hl 0 rfl) ?_
  refine lv_lload_n hx hb d_Entry_init_15 rfl (lv_at hl 1 rfl) ?_
  refine xputFL hx hb htb i_Entry t_Entry t_Entry_ok n_Entry hown hK hP hS (ci := 2) rfl (fun _ => rfl) 0 (by decide) (htb _ k_Entry_19) (fun _ h9 => h9) rfl hXT rfl (by decide +kernel) hw d_Entry_init_16 (fun h3 H locs hw hP hS => ?_)
  refine lv_aload_n hx hb d_Entry_init_19 rfl (lv_at hl 0 rfl) ?_
  refine lv_iload_n hx hb d_Entry_init_20 rfl (lv_at hl 2 rfl) ?_
  refine xputFI hx hb htb i_Entry t_Entry t_Entry_ok n_Entry hown hK hP hS (ci := 2) rfl (fun _ => rfl) 1 (by decide) (htb _ k_Entry_23) (fun _ h9 => h9) rfl hXT rfl (by decide +kernel) hw d_Entry_init_21 (fun h4 H locs hw hP hS => ?_)
  refine lv_aload_n hx hb d_Entry_init_24 rfl (lv_at hl 0 rfl) ?_
  refine lv_iload hx hb d_Entry_init_25 (lv_at hl 3 rfl) ?_
  refine xputFZ hx hb htb i_Entry t_Entry t_Entry_ok n_Entry hown hK hP hS (ci := 2) rfl (fun _ => rfl) 2 (by decide) (htb _ k_Entry_26) (fun _ h9 => h9) rfl hXT rfl (by decide +kernel) hw d_Entry_init_27 (fun h5 H locs hw hP hS => ?_)
  refine lv_aload_n hx hb d_Entry_init_30 rfl (lv_at hl 0 rfl) ?_
  refine lv_lload hx hb d_Entry_init_31 (lv_at hl 4 rfl) ?_
  refine xputFL hx hb htb i_Entry t_Entry t_Entry_ok n_Entry hown hK hP hS (ci := 2) rfl (fun _ => rfl) 3 (by decide) (htb _ k_Entry_29) (fun _ h9 => h9) rfl hXT rfl (by decide +kernel) hw d_Entry_init_33 (fun h6 H locs hw hP hS => ?_)
  refine lv_aload_n hx hb d_Entry_init_36 rfl (lv_at hl 0 rfl) ?_
  refine lv_iload hx hb d_Entry_init_37 (lv_at hl 5 rfl) ?_
  refine xputFI hx hb htb i_Entry t_Entry t_Entry_ok n_Entry hown hK hP hS (ci := 2) rfl (fun _ => rfl) 4 (by decide) (htb _ k_Entry_32) (fun _ h9 => h9) rfl hXT rfl (by decide +kernel) hw d_Entry_init_39 (fun h7 H locs hw hP hS => ?_)
  refine W.widen (k := 0) (n := 0) (Nat.le_of_ble_eq_true rfl) (Nat.le_of_ble_eq_true rfl) ?_
  exact xretV C0 hw hP hS d_Entry_init_42

theorem d_Packing_init_0 : decode b_Packing_init 0 = .ok (.aload_n 0, 1) := by decide +kernel
theorem d_Packing_init_1 : decode b_Packing_init 1 = .ok (.invokespecial 3, 3) := by decide +kernel
theorem d_Packing_init_4 : decode b_Packing_init 4 = .ok (.aload_n 0, 1) := by decide +kernel
theorem d_Packing_init_5 : decode b_Packing_init 5 = .ok (.iconst (-1), 1) := by decide +kernel
theorem d_Packing_init_6 : decode b_Packing_init 6 = .ok (.putfield 9, 3) := by decide +kernel
theorem d_Packing_init_9 : decode b_Packing_init 9 = .ok (.aload_n 0, 1) := by decide +kernel
theorem d_Packing_init_10 : decode b_Packing_init 10 = .ok (.iconst 0, 1) := by decide +kernel
theorem d_Packing_init_11 : decode b_Packing_init 11 = .ok (.putfield 15, 3) := by decide +kernel
theorem d_Packing_init_14 : decode b_Packing_init 14 = .ok (.return_, 1) := by decide +kernel
def rm_Packing_init : Room := { frames := 1, cells := 0, slots := 0, locals := 12 }
def ws_Packing_init : List Cond := Cond.code y_Packing_init b_Packing_init 1 none :: TB
set_option maxHeartbeats 4000000 in
set_option maxRecDepth 100000 in
theorem m_Packing_init (l : Launch) (D : va_G) (d : Nat → ClassId) (h : xw) (sz : Nat) (a0 : Nat) (Q : xw → Prop) (hw : wp_Packing_init d h a0 Q) : Met l y_Packing_init ws_Packing_init rm_Packing_init (xPre D d h [.ref a0] sz) (va_Qv (fun u => Q u ∧ xfr sgX h u) (xB D d (xA h sz)) (xA h sz)) 0 0 (xA h sz) := by
  refine Met.ofW (cc := b_Packing_init) (maxL := 1) (ret := none) (by decide) rfl ?_
  intro p e s m args below meth c s₁ B hml hv
  obtain ⟨rfl, hsz, hP0, hK, hNB⟩ := hv
  have hts := atoms_spec (ws := ws_Packing_init) B.pre
  have htb := fun w (hw9 : w ∈ TB) => hts w (List.mem_cons_of_mem _ hw9)
  have hown : s.vm.findClass R_Packing = some m.cls := findClass_of_methodNamed B.named
  subst hsz
  obtain ⟨A, hAe⟩ : ∃ A, A = xA h s.heap.size := ⟨_, rfl⟩
  rw [← hAe]
  have hP : xR sgX h D A h s.heap := ⟨by rw [hAe]; exact hP0.self, xfr.rf⟩
  have hA : ∀ q, s.heap.size ≤ q → A q := fun q hq => by rw [hAe]; exact Or.inr hq
  have hS : va_S A s.heap s.heap [] := va_S.rf
  have C0 : xctx p s m ([.ref a0] : List Value).toArray meth c b_Packing_init 1 none R_Packing D d A (meth.name = "<init>") := ⟨B.exec, B.bytes, B.returns, hml, hown, htb, hK, hA, hNB, B.notSynchronized, (name_of_methodNamed B.named B.method).1⟩
  obtain ⟨hx, hb, hr, -, -, -, -, -, -, hlocks, hXT⟩ := id C0
  have hl := lv_entry ([.ref a0] : List Value) (n := 1) (Nat.le_of_ble_eq_true rfl)
  rw [lg_entry_eq]
  generalize (lg_sl ([.ref a0] : List Value) ++ List.replicate (1 - (lg_sl ([.ref a0] : List Value)).length) Slot.unset).toArray = ls at hl ⊢
  have hl : lv_has ls 1 [(0, .ref a0)] := hl
  refine lv_aload_n hx hb d_Packing_init_0 rfl (lv_at hl 0 rfl) ?_
  refine W.objInit hx hb hown (htb _ k_Packing_3) (htb _ g_im_obj) (htb _ g_code_obj) rfl (by rw [hml]; exact hl.1) rfl d_Packing_init_1 (Nat.le_of_ble_eq_true rfl) (Nat.le_of_ble_eq_true rfl) ?_
  refine W.eq (g2 := F0 m 4 ls []) rfl ?_
  refine lv_aload_n hx hb d_Packing_init_4 rfl (lv_at hl 0 rfl) ?_
  refine lv_iconst (v := (-1)) hx hb d_Packing_init_5 (by decide) ?_
  refine xputI hx hb htb i_Packing t_Packing t_Packing_ok n_Packing hown hK hP hS (ci := 3) rfl (fun _ => rfl) 0 (by decide) (htb _ k_Packing_9) (fun _ h9 => h9) rfl (by decide +kernel) hw d_Packing_init_6 (fun h1 H locs hw hP hS => ?_)
  refine lv_aload_n hx hb d_Packing_init_9 rfl (lv_at hl 0 rfl) ?_
  refine lv_iconst (v := 0) hx hb d_Packing_init_10 (by decide) ?_
  refine xputI hx hb htb i_Packing t_Packing t_Packing_ok n_Packing hown hK hP hS (ci := 3) rfl (fun _ => rfl) 1 (by decide) (htb _ k_Packing_15) (fun _ h9 => h9) rfl (by decide +kernel) hw d_Packing_init_11 (fun h2 H locs hw hP hS => ?_)
  refine W.widen (k := 0) (n := 0) (Nat.le_of_ble_eq_true rfl) (Nat.le_of_ble_eq_true rfl) ?_
  exact xretV C0 hw hP hS d_Packing_init_14

theorem d_Packing_place_0 : decode b_Packing_place 0 = .ok (.aload_n 0, 1) := by decide +kernel
theorem d_Packing_place_1 : decode b_Packing_place 1 = .ok (.getfield 9, 3) := by decide +kernel
theorem d_Packing_place_4 : decode b_Packing_place 4 = .ok (.iconst (-1), 1) := by decide +kernel
theorem d_Packing_place_5 : decode b_Packing_place 5 = .ok (.if_icmp .eq 15, 3) := by decide +kernel
theorem d_Packing_place_8 : decode b_Packing_place 8 = .ok (.aload_n 0, 1) := by decide +kernel
theorem d_Packing_place_9 : decode b_Packing_place 9 = .ok (.getfield 15, 3) := by decide +kernel
theorem d_Packing_place_12 : decode b_Packing_place 12 = .ok (.iload_n 1, 1) := by decide +kernel
theorem d_Packing_place_13 : decode b_Packing_place 13 = .ok (.iadd, 1) := by decide +kernel
theorem d_Packing_place_14 : decode b_Packing_place 14 = .ok (.sipush 1000, 3) := by decide +kernel
theorem d_Packing_place_17 : decode b_Packing_place 17 = .ok (.if_icmp .le 18, 3) := by decide +kernel
theorem d_Packing_place_20 : decode b_Packing_place 20 = .ok (.aload_n 0, 1) := by decide +kernel
theorem d_Packing_place_21 : decode b_Packing_place 21 = .ok (.dup, 1) := by decide +kernel
theorem d_Packing_place_22 : decode b_Packing_place 22 = .ok (.getfield 9, 3) := by decide +kernel
theorem d_Packing_place_25 : decode b_Packing_place 25 = .ok (.iconst 1, 1) := by decide +kernel
theorem d_Packing_place_26 : decode b_Packing_place 26 = .ok (.iadd, 1) := by decide +kernel
theorem d_Packing_place_27 : decode b_Packing_place 27 = .ok (.putfield 9, 3) := by decide +kernel
theorem d_Packing_place_30 : decode b_Packing_place 30 = .ok (.aload_n 0, 1) := by decide +kernel
theorem d_Packing_place_31 : decode b_Packing_place 31 = .ok (.iconst 0, 1) := by decide +kernel
theorem d_Packing_place_32 : decode b_Packing_place 32 = .ok (.putfield 15, 3) := by decide +kernel
theorem d_Packing_place_35 : decode b_Packing_place 35 = .ok (.aload_n 0, 1) := by decide +kernel
theorem d_Packing_place_36 : decode b_Packing_place 36 = .ok (.dup, 1) := by decide +kernel
theorem d_Packing_place_37 : decode b_Packing_place 37 = .ok (.getfield 15, 3) := by decide +kernel
theorem d_Packing_place_40 : decode b_Packing_place 40 = .ok (.iload_n 1, 1) := by decide +kernel
theorem d_Packing_place_41 : decode b_Packing_place 41 = .ok (.iadd, 1) := by decide +kernel
theorem d_Packing_place_42 : decode b_Packing_place 42 = .ok (.putfield 15, 3) := by decide +kernel
theorem d_Packing_place_45 : decode b_Packing_place 45 = .ok (.aload_n 0, 1) := by decide +kernel
theorem d_Packing_place_46 : decode b_Packing_place 46 = .ok (.getfield 9, 3) := by decide +kernel
theorem d_Packing_place_49 : decode b_Packing_place 49 = .ok (.ireturn, 1) := by decide +kernel
def rm_Packing_place : Room := { frames := 0, cells := 0, slots := 0, locals := 0 }
def ws_Packing_place : List Cond := Cond.code y_Packing_place b_Packing_place 2 (some .int) :: TB
set_option maxHeartbeats 4000000 in
set_option maxRecDepth 100000 in
theorem sb_Packing_place_35 {p : Program} {l : Launch} {e : Env} {s : State} {m : MethodId} {args : Array Value} {below : List Frame} {meth : Method} {c : Code} {D : va_G} {d : Nat → ClassId} {A : Nat → Prop} {h0 : xw} {Q : Int32 → xw → Prop} (C0 : xctx p s m args meth c b_Packing_place 2 (some .int) R_Packing D d A True) : ∀ (x0 : Nat) (x1 : Int32) (h : xw) (H : Heap) (locs : List Loc) (ls : Array Slot), wb_Packing_place_35 d Q x0 x1 h → xR sgX h0 D A h H → va_S A s.heap H locs → lv_has ls 2 [(0, .ref x0), (1, .int x1)] → W p l e rm_Packing_place s m args below meth c H locs 0 0 (MQ below (va_Qi (fun r u => Q r u ∧ xfr sgX h0 u) (xB D d A) A) args s 0 0 A) (F0 m 35 ls []) := by
  obtain ⟨hx, hb, hr, hml, hown, htb, hK, hA, hNB, hlocks, hXT⟩ := id C0
  intro x0 x1 h H locs ls hw hP hS hl
  refine lv_aload_n hx hb d_Packing_place_35 rfl (lv_at hl 0 rfl) ?_
  refine lv_dup hx hb d_Packing_place_36 rfl ?_
  refine xgetI hx hb htb i_Packing hown hK hP (ci := 3) rfl 1 (by decide) (htb _ k_Packing_15) (fun _ h9 => h9) hw d_Packing_place_37 (fun v5 hw => ?_)
  refine lv_iload_n hx hb d_Packing_place_40 rfl (lv_at hl 1 rfl) ?_
  refine lv_iadd hx hb d_Packing_place_41 ?_
  refine xputI hx hb htb i_Packing t_Packing t_Packing_ok n_Packing hown hK hP hS (ci := 3) rfl (fun _ => rfl) 1 (by decide) (htb _ k_Packing_15) (fun _ h9 => h9) rfl (by decide +kernel) hw d_Packing_place_42 (fun h6 H locs hw hP hS => ?_)
  refine lv_aload_n hx hb d_Packing_place_45 rfl (lv_at hl 0 rfl) ?_
  refine xgetI hx hb htb i_Packing hown hK hP (ci := 3) rfl 0 (by decide) (htb _ k_Packing_9) (fun _ h9 => h9) hw d_Packing_place_46 (fun v7 hw => ?_)
  refine W.widen (k := 0) (n := 0) (Nat.le_of_ble_eq_true rfl) (Nat.le_of_ble_eq_true rfl) ?_
  exact xretI C0 hw hP hS d_Packing_place_49

set_option maxHeartbeats 4000000 in
set_option maxRecDepth 100000 in
theorem sb_Packing_place_20 {p : Program} {l : Launch} {e : Env} {s : State} {m : MethodId} {args : Array Value} {below : List Frame} {meth : Method} {c : Code} {D : va_G} {d : Nat → ClassId} {A : Nat → Prop} {h0 : xw} {Q : Int32 → xw → Prop} (C0 : xctx p s m args meth c b_Packing_place 2 (some .int) R_Packing D d A True) : ∀ (x0 : Nat) (x1 : Int32) (h : xw) (H : Heap) (locs : List Loc) (ls : Array Slot), wb_Packing_place_20 d Q x0 x1 h → xR sgX h0 D A h H → va_S A s.heap H locs → lv_has ls 2 [(0, .ref x0), (1, .int x1)] → W p l e rm_Packing_place s m args below meth c H locs 0 0 (MQ below (va_Qi (fun r u => Q r u ∧ xfr sgX h0 u) (xB D d A) A) args s 0 0 A) (F0 m 20 ls []) := by
  obtain ⟨hx, hb, hr, hml, hown, htb, hK, hA, hNB, hlocks, hXT⟩ := id C0
  intro x0 x1 h H locs ls hw hP hS hl
  refine lv_aload_n hx hb d_Packing_place_20 rfl (lv_at hl 0 rfl) ?_
  refine lv_dup hx hb d_Packing_place_21 rfl ?_
  refine xgetI hx hb htb i_Packing hown hK hP (ci := 3) rfl 0 (by decide) (htb _ k_Packing_9) (fun _ h9 => h9) hw d_Packing_place_22 (fun v2 hw => ?_)
  refine lv_iconst (v := 1) hx hb d_Packing_place_25 (by decide) ?_
  refine lv_iadd hx hb d_Packing_place_26 ?_
  refine xputI hx hb htb i_Packing t_Packing t_Packing_ok n_Packing hown hK hP hS (ci := 3) rfl (fun _ => rfl) 0 (by decide) (htb _ k_Packing_9) (fun _ h9 => h9) rfl (by decide +kernel) hw d_Packing_place_27 (fun h3 H locs hw hP hS => ?_)
  refine lv_aload_n hx hb d_Packing_place_30 rfl (lv_at hl 0 rfl) ?_
  refine lv_iconst (v := 0) hx hb d_Packing_place_31 (by decide) ?_
  refine xputI hx hb htb i_Packing t_Packing t_Packing_ok n_Packing hown hK hP hS (ci := 3) rfl (fun _ => rfl) 1 (by decide) (htb _ k_Packing_15) (fun _ h9 => h9) rfl (by decide +kernel) hw d_Packing_place_32 (fun h4 H locs hw hP hS => ?_)
  exact sb_Packing_place_35 C0 x0 x1 h4 _ _ _ hw hP hS (lv_sub hl [0, 1] rfl)

set_option maxHeartbeats 4000000 in
set_option maxRecDepth 100000 in
theorem m_Packing_place (l : Launch) (D : va_G) (d : Nat → ClassId) (h : xw) (sz : Nat) (a0 : Nat) (a1 : Int32) (Q : Int32 → xw → Prop) (hw : wp_Packing_place d h a0 a1 Q) : Met l y_Packing_place ws_Packing_place rm_Packing_place (xPre D d h [.ref a0, .int a1] sz) (va_Qi (fun r u => Q r u ∧ xfr sgX h u) (xB D d (xA h sz)) (xA h sz)) 0 0 (xA h sz) := by
  refine Met.ofW (cc := b_Packing_place) (maxL := 2) (ret := (some .int)) (by decide) rfl ?_
  intro p e s m args below meth c s₁ B hml hv
  obtain ⟨rfl, hsz, hP0, hK, hNB⟩ := hv
  have hts := atoms_spec (ws := ws_Packing_place) B.pre
  have htb := fun w (hw9 : w ∈ TB) => hts w (List.mem_cons_of_mem _ hw9)
  have hown : s.vm.findClass R_Packing = some m.cls := findClass_of_methodNamed B.named
  subst hsz
  obtain ⟨A, hAe⟩ : ∃ A, A = xA h s.heap.size := ⟨_, rfl⟩
  rw [← hAe]
  have hP : xR sgX h D A h s.heap := ⟨by rw [hAe]; exact hP0.self, xfr.rf⟩
  have hA : ∀ q, s.heap.size ≤ q → A q := fun q hq => by rw [hAe]; exact Or.inr hq
  have hS : va_S A s.heap s.heap [] := va_S.rf
  have C0 : xctx p s m ([.ref a0, .int a1] : List Value).toArray meth c b_Packing_place 2 (some .int) R_Packing D d A True := ⟨B.exec, B.bytes, B.returns, hml, hown, htb, hK, hA, hNB, B.notSynchronized, trivial⟩
  obtain ⟨hx, hb, hr, -, -, -, -, -, -, hlocks, hXT⟩ := id C0
  have hl := lv_entry ([.ref a0, .int a1] : List Value) (n := 2) (Nat.le_of_ble_eq_true rfl)
  rw [lg_entry_eq]
  generalize (lg_sl ([.ref a0, .int a1] : List Value) ++ List.replicate (2 - (lg_sl ([.ref a0, .int a1] : List Value)).length) Slot.unset).toArray = ls at hl ⊢
  have hl : lv_has ls 2 [(0, .ref a0), (1, .int a1)] := hl
  refine lv_aload_n hx hb d_Packing_place_0 rfl (lv_at hl 0 rfl) ?_
  refine xgetI hx hb htb i_Packing hown hK hP (ci := 3) rfl 0 (by decide) (htb _ k_Packing_9) (fun _ h9 => h9) hw d_Packing_place_1 (fun v1 hw => ?_)
  refine lv_iconst (v := (-1)) hx hb d_Packing_place_4 (by decide) ?_
  refine lv_icmp_eq (tgt := 20) hx hb d_Packing_place_5 (by decide) (fun cq => ?_) (fun cq => ?_)
  · replace hw := hw.1 cq
    exact sb_Packing_place_20 C0 a0 a1 h _ _ _ hw hP hS (lv_sub hl [0, 1] rfl)
  · replace hw := hw.2 cq
    refine lv_aload_n hx hb d_Packing_place_8 rfl (lv_at hl 0 rfl) ?_
    refine xgetI hx hb htb i_Packing hown hK hP (ci := 3) rfl 1 (by decide) (htb _ k_Packing_15) (fun _ h9 => h9) hw d_Packing_place_9 (fun v8 hw => ?_)
    refine lv_iload_n hx hb d_Packing_place_12 rfl (lv_at hl 1 rfl) ?_
    refine lv_iadd hx hb d_Packing_place_13 ?_
    refine lv_sipush (v := 1000) hx hb d_Packing_place_14 (by decide) ?_
    refine lv_icmp_le (tgt := 35) hx hb d_Packing_place_17 (by decide) (fun cq => ?_) (fun cq => ?_)
    · replace hw := hw.1 cq
      exact sb_Packing_place_35 C0 a0 a1 h _ _ _ hw hP hS (lv_sub hl [0, 1] rfl)
    · replace hw := hw.2 cq
      exact sb_Packing_place_20 C0 a0 a1 h _ _ _ hw hP hS (lv_sub hl [0, 1] rfl)

