theorem d_LogCleaner_keepFirstBatches_0 : decode b_LogCleaner_keepFirstBatches 0 = .ok (.iload_n 1, 1) := by decide +kernel
theorem d_LogCleaner_keepFirstBatches_1 : decode b_LogCleaner_keepFirstBatches 1 = .ok (.istore_n 2, 1) := by decide +kernel
theorem d_LogCleaner_keepFirstBatches_2 : decode b_LogCleaner_keepFirstBatches 2 = .ok (.iload_n 2, 1) := by decide +kernel
theorem d_LogCleaner_keepFirstBatches_3 : decode b_LogCleaner_keepFirstBatches 3 = .ok (.aload_n 0, 1) := by decide +kernel
theorem d_LogCleaner_keepFirstBatches_4 : decode b_LogCleaner_keepFirstBatches 4 = .ok (.getfield 15, 3) := by decide +kernel
theorem d_LogCleaner_keepFirstBatches_7 : decode b_LogCleaner_keepFirstBatches 7 = .ok (.if_icmp .ge 16, 3) := by decide +kernel
theorem d_LogCleaner_keepFirstBatches_10 : decode b_LogCleaner_keepFirstBatches 10 = .ok (.aload_n 0, 1) := by decide +kernel
theorem d_LogCleaner_keepFirstBatches_11 : decode b_LogCleaner_keepFirstBatches 11 = .ok (.getfield 11, 3) := by decide +kernel
theorem d_LogCleaner_keepFirstBatches_14 : decode b_LogCleaner_keepFirstBatches 14 = .ok (.iload_n 2, 1) := by decide +kernel
theorem d_LogCleaner_keepFirstBatches_15 : decode b_LogCleaner_keepFirstBatches 15 = .ok (.aconst_null, 1) := by decide +kernel
theorem d_LogCleaner_keepFirstBatches_16 : decode b_LogCleaner_keepFirstBatches 16 = .ok (.aastore, 1) := by decide +kernel
theorem d_LogCleaner_keepFirstBatches_17 : decode b_LogCleaner_keepFirstBatches 17 = .ok (.iinc 2 1, 3) := by decide +kernel
theorem d_LogCleaner_keepFirstBatches_20 : decode b_LogCleaner_keepFirstBatches 20 = .ok (.goto (-18), 3) := by decide +kernel
theorem d_LogCleaner_keepFirstBatches_23 : decode b_LogCleaner_keepFirstBatches 23 = .ok (.aload_n 0, 1) := by decide +kernel
theorem d_LogCleaner_keepFirstBatches_24 : decode b_LogCleaner_keepFirstBatches 24 = .ok (.iload_n 1, 1) := by decide +kernel
theorem d_LogCleaner_keepFirstBatches_25 : decode b_LogCleaner_keepFirstBatches 25 = .ok (.putfield 15, 3) := by decide +kernel
theorem d_LogCleaner_keepFirstBatches_28 : decode b_LogCleaner_keepFirstBatches 28 = .ok (.return_, 1) := by decide +kernel
def rm_LogCleaner_keepFirstBatches : Room := { frames := 0, cells := 0, slots := 0, locals := 0 }
def ws_LogCleaner_keepFirstBatches : List Cond := Cond.code y_LogCleaner_keepFirstBatches b_LogCleaner_keepFirstBatches 3 none :: TB
set_option maxHeartbeats 4000000 in
set_option maxRecDepth 100000 in
theorem sl_LogCleaner_keepFirstBatches_2 {p : Program} {l : Launch} {e : Env} {s : State} {m : MethodId} {args : Array Value} {below : List Frame} {meth : Method} {c : Code} {D : va_G} {d : Nat → ClassId} {A : Nat → Prop} {h0 : xw} {Q : xw → Prop} (C0 : xctx p s m args meth c b_LogCleaner_keepFirstBatches 3 none R_LogCleaner D d A True) : ∀ (n : Nat) (x : Nat × Int32 × Int32) (h : xw) (H : Heap) (locs : List Loc) (ls : Array Slot), xloop (fun (k : Nat × Int32 × Int32 → xw → Prop) (x : Nat × Int32 × Int32) (h : xw) => wc_LogCleaner_keepFirstBatches_2 d Q (fun y0 y1 y2 h => k (y0, y1, y2) h) x.1 x.2.1 x.2.2 h) n x h → xR sgX h0 D A h H → va_S A s.heap H locs → lv_has ls 3 [(0, .ref x.1), (1, .int x.2.1), (2, .int x.2.2)] → W p l e rm_LogCleaner_keepFirstBatches s m args below meth c H locs 0 0 (MQ below (va_Qv (fun u => Q u ∧ xfr sgX h0 u) (xB D d A) A) args s 0 0 A) (F0 m 2 ls []) := by
  obtain ⟨hx, hb, hr, hml, hown, htb, hK, hA, hNB, hlocks, hXT⟩ := id C0
  intro n
  induction n with
  | zero => intro x h H locs ls hw; exact hw.elim
  | succ n ih =>
    rintro ⟨x0, x1, x2⟩ h H locs ls hw hP hS hl
    replace hw : wc_LogCleaner_keepFirstBatches_2 d Q (fun y0 y1 y2 h => xloop (fun (k : Nat × Int32 × Int32 → xw → Prop) (x : Nat × Int32 × Int32) (h : xw) => wc_LogCleaner_keepFirstBatches_2 d Q (fun y0 y1 y2 h => k (y0, y1, y2) h) x.1 x.2.1 x.2.2 h) n (y0, y1, y2) h) x0 x1 x2 h := hw
    have hk2 := fun (x0 : Nat) (x1 : Int32) (x2 : Int32) => ih (x0, x1, x2)
    refine lv_iload_n hx hb d_LogCleaner_keepFirstBatches_2 rfl (lv_at hl 2 rfl) ?_
    refine lv_aload_n hx hb d_LogCleaner_keepFirstBatches_3 rfl (lv_at hl 0 rfl) ?_
    refine xgetI hx hb htb i_LogCleaner hown hK hP (ci := 0) rfl 1 (by decide) (htb _ k_LogCleaner_15) (fun _ h9 => h9) hw d_LogCleaner_keepFirstBatches_4 (fun v1 hw => ?_)
    refine lv_icmp_ge (tgt := 23) hx hb d_LogCleaner_keepFirstBatches_7 (by decide) (fun cq => ?_) (fun cq => ?_)
    · replace hw := hw.1 cq
      refine lv_aload_n hx hb d_LogCleaner_keepFirstBatches_23 rfl (lv_at hl 0 rfl) ?_
      refine lv_iload_n hx hb d_LogCleaner_keepFirstBatches_24 rfl (lv_at hl 1 rfl) ?_
      refine xputI hx hb htb i_LogCleaner t_LogCleaner t_LogCleaner_ok n_LogCleaner hown hK hP hS (ci := 0) rfl (fun _ => rfl) 1 (by decide) (htb _ k_LogCleaner_15) (fun _ h9 => h9) rfl (by decide +kernel) hw d_LogCleaner_keepFirstBatches_25 (fun h2 H locs hw hP hS => ?_)
      refine W.widen (k := 0) (n := 0) (Nat.le_of_ble_eq_true rfl) (Nat.le_of_ble_eq_true rfl) ?_
      exact xretV C0 hw hP hS d_LogCleaner_keepFirstBatches_28
    · replace hw := hw.2 cq
      refine lv_aload_n hx hb d_LogCleaner_keepFirstBatches_10 rfl (lv_at hl 0 rfl) ?_
      refine xgetA hx hb htb i_LogCleaner hown hK hP (ci := 0) rfl 0 (by decide) (htb _ k_LogCleaner_11) (fun _ h9 => h9) hw d_LogCleaner_keepFirstBatches_11 (fun r3 hw => ?_)
      refine lv_iload_n hx hb d_LogCleaner_keepFirstBatches_14 rfl (lv_at hl 2 rfl) ?_
      refine xv_null hx hb d_LogCleaner_keepFirstBatches_15 ?_
      obtain ⟨p4, hpe, hw⟩ := hw
      revert hw
      revert hl
      subst hpe
      intro hl hw
      replace hl : lv_has ls 3 [(0, .ref x0), (1, .int x1), (2, .int x2)] := hl
      refine xstq hx hb hK hP hS 1 rfl (ci := 1) rfl (fun _ _ => rfl) hw d_LogCleaner_keepFirstBatches_16 (fun h5 H locs hw hP hS => ?_)
      refine lv_iinc (v := x2 + 1) (lv' := [(2, .int (x2 + 1)), (0, .ref x0), (1, .int x1)]) hx hb d_LogCleaner_keepFirstBatches_17 hl (k := 2) rfl rfl (by decide) rfl (fun ls hl => ?_)
      refine lv_goto (tgt := 2) hx hb d_LogCleaner_keepFirstBatches_20 (by decide) ?_
      exact hk2 x0 x1 (x2 + 1) h5 _ _ _ hw hP hS (lv_sub hl [1, 2, 0] rfl)

set_option maxHeartbeats 4000000 in
set_option maxRecDepth 100000 in
theorem m_LogCleaner_keepFirstBatches (l : Launch) (D : va_G) (d : Nat → ClassId) (h : xw) (sz : Nat) (a0 : Nat) (a1 : Int32) (Q : xw → Prop) (hw : wp_LogCleaner_keepFirstBatches d h a0 a1 Q) : Met l y_LogCleaner_keepFirstBatches ws_LogCleaner_keepFirstBatches rm_LogCleaner_keepFirstBatches (xPre D d h [.ref a0, .int a1] sz) (va_Qv (fun u => Q u ∧ xfr sgX h u) (xB D d (xA h sz)) (xA h sz)) 0 0 (xA h sz) := by
  refine Met.ofW (cc := b_LogCleaner_keepFirstBatches) (maxL := 3) (ret := none) (by decide) rfl ?_
  intro p e s m args below meth c s₁ B hml hv
  obtain ⟨rfl, hsz, hP0, hK, hNB⟩ := hv
  have hts := atoms_spec (ws := ws_LogCleaner_keepFirstBatches) B.pre
  have htb := fun w (hw9 : w ∈ TB) => hts w (List.mem_cons_of_mem _ hw9)
  have hown : s.vm.findClass R_LogCleaner = some m.cls := findClass_of_methodNamed B.named
  subst hsz
  obtain ⟨A, hAe⟩ : ∃ A, A = xA h s.heap.size := ⟨_, rfl⟩
  rw [← hAe]
  have hP : xR sgX h D A h s.heap := ⟨by rw [hAe]; exact hP0.self, xfr.rf⟩
  have hA : ∀ q, s.heap.size ≤ q → A q := fun q hq => by rw [hAe]; exact Or.inr hq
  have hS : va_S A s.heap s.heap [] := va_S.rf
  have C0 : xctx p s m ([.ref a0, .int a1] : List Value).toArray meth c b_LogCleaner_keepFirstBatches 3 none R_LogCleaner D d A True := ⟨B.exec, B.bytes, B.returns, hml, hown, htb, hK, hA, hNB, B.notSynchronized, trivial⟩
  obtain ⟨hx, hb, hr, -, -, -, -, -, -, hlocks, hXT⟩ := id C0
  have hl := lv_entry ([.ref a0, .int a1] : List Value) (n := 3) (Nat.le_of_ble_eq_true rfl)
  rw [lg_entry_eq]
  generalize (lg_sl ([.ref a0, .int a1] : List Value) ++ List.replicate (3 - (lg_sl ([.ref a0, .int a1] : List Value)).length) Slot.unset).toArray = ls at hl ⊢
  have hl : lv_has ls 3 [(0, .ref a0), (1, .int a1)] := hl
  refine lv_iload_n hx hb d_LogCleaner_keepFirstBatches_0 rfl (lv_at hl 1 rfl) ?_
  refine lv_istore_n (lv' := [(2, .int a1), (0, .ref a0), (1, .int a1)]) hx hb d_LogCleaner_keepFirstBatches_1 rfl hl (by decide) rfl (fun ls hl => ?_)
  obtain ⟨n, hw⟩ := hw
  exact sl_LogCleaner_keepFirstBatches_2 C0 n (a0, a1, a1) h _ _ _ hw hP hS (lv_sub hl [1, 2, 0] rfl)

theorem d_LogCleaner_removeEmptiedBatches_0 : decode b_LogCleaner_removeEmptiedBatches 0 = .ok (.aload_n 0, 1) := by decide +kernel
theorem d_LogCleaner_removeEmptiedBatches_1 : decode b_LogCleaner_removeEmptiedBatches 1 = .ok (.getfield 15, 3) := by decide +kernel
theorem d_LogCleaner_removeEmptiedBatches_4 : decode b_LogCleaner_removeEmptiedBatches 4 = .ok (.istore_n 1, 1) := by decide +kernel
theorem d_LogCleaner_removeEmptiedBatches_5 : decode b_LogCleaner_removeEmptiedBatches 5 = .ok (.iconst 0, 1) := by decide +kernel
theorem d_LogCleaner_removeEmptiedBatches_6 : decode b_LogCleaner_removeEmptiedBatches 6 = .ok (.istore_n 2, 1) := by decide +kernel
theorem d_LogCleaner_removeEmptiedBatches_7 : decode b_LogCleaner_removeEmptiedBatches 7 = .ok (.iconst 0, 1) := by decide +kernel
theorem d_LogCleaner_removeEmptiedBatches_8 : decode b_LogCleaner_removeEmptiedBatches 8 = .ok (.istore_n 3, 1) := by decide +kernel
theorem d_LogCleaner_removeEmptiedBatches_9 : decode b_LogCleaner_removeEmptiedBatches 9 = .ok (.iload_n 3, 1) := by decide +kernel
theorem d_LogCleaner_removeEmptiedBatches_10 : decode b_LogCleaner_removeEmptiedBatches 10 = .ok (.iload_n 1, 1) := by decide +kernel
theorem d_LogCleaner_removeEmptiedBatches_11 : decode b_LogCleaner_removeEmptiedBatches 11 = .ok (.if_icmp .ge 65, 3) := by decide +kernel
theorem d_LogCleaner_removeEmptiedBatches_14 : decode b_LogCleaner_removeEmptiedBatches 14 = .ok (.aload_n 0, 1) := by decide +kernel
theorem d_LogCleaner_removeEmptiedBatches_15 : decode b_LogCleaner_removeEmptiedBatches 15 = .ok (.getfield 11, 3) := by decide +kernel
theorem d_LogCleaner_removeEmptiedBatches_18 : decode b_LogCleaner_removeEmptiedBatches 18 = .ok (.iload_n 3, 1) := by decide +kernel
theorem d_LogCleaner_removeEmptiedBatches_19 : decode b_LogCleaner_removeEmptiedBatches 19 = .ok (.aaload, 1) := by decide +kernel
theorem d_LogCleaner_removeEmptiedBatches_20 : decode b_LogCleaner_removeEmptiedBatches 20 = .ok (.astore 4, 2) := by decide +kernel
theorem d_LogCleaner_removeEmptiedBatches_22 : decode b_LogCleaner_removeEmptiedBatches 22 = .ok (.aload_n 0, 1) := by decide +kernel
theorem d_LogCleaner_removeEmptiedBatches_23 : decode b_LogCleaner_removeEmptiedBatches 23 = .ok (.aload 4, 2) := by decide +kernel
theorem d_LogCleaner_removeEmptiedBatches_25 : decode b_LogCleaner_removeEmptiedBatches 25 = .ok (.invokevirtual 181, 3) := by decide +kernel
theorem d_LogCleaner_removeEmptiedBatches_28 : decode b_LogCleaner_removeEmptiedBatches 28 = .ok (.ifCond .eq 23, 3) := by decide +kernel
theorem d_LogCleaner_removeEmptiedBatches_31 : decode b_LogCleaner_removeEmptiedBatches 31 = .ok (.aload 4, 2) := by decide +kernel
theorem d_LogCleaner_removeEmptiedBatches_33 : decode b_LogCleaner_removeEmptiedBatches 33 = .ok (.getfield 121, 3) := by decide +kernel
theorem d_LogCleaner_removeEmptiedBatches_36 : decode b_LogCleaner_removeEmptiedBatches 36 = .ok (.ifCond .ne 15, 3) := by decide +kernel
theorem d_LogCleaner_removeEmptiedBatches_39 : decode b_LogCleaner_removeEmptiedBatches 39 = .ok (.aload_n 0, 1) := by decide +kernel
theorem d_LogCleaner_removeEmptiedBatches_40 : decode b_LogCleaner_removeEmptiedBatches 40 = .ok (.iload_n 3, 1) := by decide +kernel
theorem d_LogCleaner_removeEmptiedBatches_41 : decode b_LogCleaner_removeEmptiedBatches 41 = .ok (.invokevirtual 125, 3) := by decide +kernel
theorem d_LogCleaner_removeEmptiedBatches_44 : decode b_LogCleaner_removeEmptiedBatches 44 = .ok (.ifCond .ne 7, 3) := by decide +kernel
theorem d_LogCleaner_removeEmptiedBatches_47 : decode b_LogCleaner_removeEmptiedBatches 47 = .ok (.iconst 1, 1) := by decide +kernel
theorem d_LogCleaner_removeEmptiedBatches_48 : decode b_LogCleaner_removeEmptiedBatches 48 = .ok (.goto 4, 3) := by decide +kernel
theorem d_LogCleaner_removeEmptiedBatches_51 : decode b_LogCleaner_removeEmptiedBatches 51 = .ok (.iconst 0, 1) := by decide +kernel
theorem d_LogCleaner_removeEmptiedBatches_52 : decode b_LogCleaner_removeEmptiedBatches 52 = .ok (.istore 5, 2) := by decide +kernel
theorem d_LogCleaner_removeEmptiedBatches_54 : decode b_LogCleaner_removeEmptiedBatches 54 = .ok (.iload 5, 2) := by decide +kernel
theorem d_LogCleaner_removeEmptiedBatches_56 : decode b_LogCleaner_removeEmptiedBatches 56 = .ok (.ifCond .ne 14, 3) := by decide +kernel
theorem d_LogCleaner_removeEmptiedBatches_59 : decode b_LogCleaner_removeEmptiedBatches 59 = .ok (.aload_n 0, 1) := by decide +kernel
theorem d_LogCleaner_removeEmptiedBatches_60 : decode b_LogCleaner_removeEmptiedBatches 60 = .ok (.getfield 11, 3) := by decide +kernel
theorem d_LogCleaner_removeEmptiedBatches_63 : decode b_LogCleaner_removeEmptiedBatches 63 = .ok (.iload_n 2, 1) := by decide +kernel
theorem d_LogCleaner_removeEmptiedBatches_64 : decode b_LogCleaner_removeEmptiedBatches 64 = .ok (.aload 4, 2) := by decide +kernel
theorem d_LogCleaner_removeEmptiedBatches_66 : decode b_LogCleaner_removeEmptiedBatches 66 = .ok (.aastore, 1) := by decide +kernel
theorem d_LogCleaner_removeEmptiedBatches_67 : decode b_LogCleaner_removeEmptiedBatches 67 = .ok (.iinc 2 1, 3) := by decide +kernel
theorem d_LogCleaner_removeEmptiedBatches_70 : decode b_LogCleaner_removeEmptiedBatches 70 = .ok (.iinc 3 1, 3) := by decide +kernel
theorem d_LogCleaner_removeEmptiedBatches_73 : decode b_LogCleaner_removeEmptiedBatches 73 = .ok (.goto (-64), 3) := by decide +kernel
theorem d_LogCleaner_removeEmptiedBatches_76 : decode b_LogCleaner_removeEmptiedBatches 76 = .ok (.aload_n 0, 1) := by decide +kernel
theorem d_LogCleaner_removeEmptiedBatches_77 : decode b_LogCleaner_removeEmptiedBatches 77 = .ok (.iload_n 2, 1) := by decide +kernel
theorem d_LogCleaner_removeEmptiedBatches_78 : decode b_LogCleaner_removeEmptiedBatches 78 = .ok (.invokevirtual 188, 3) := by decide +kernel
theorem d_LogCleaner_removeEmptiedBatches_81 : decode b_LogCleaner_removeEmptiedBatches 81 = .ok (.iload_n 1, 1) := by decide +kernel
theorem d_LogCleaner_removeEmptiedBatches_82 : decode b_LogCleaner_removeEmptiedBatches 82 = .ok (.iload_n 2, 1) := by decide +kernel
theorem d_LogCleaner_removeEmptiedBatches_83 : decode b_LogCleaner_removeEmptiedBatches 83 = .ok (.isub, 1) := by decide +kernel
theorem d_LogCleaner_removeEmptiedBatches_84 : decode b_LogCleaner_removeEmptiedBatches 84 = .ok (.ireturn, 1) := by decide +kernel
def rm_LogCleaner_removeEmptiedBatches : Room := { frames := 1, cells := 0, slots := 0, locals := 24 }
def ws_LogCleaner_removeEmptiedBatches : List Cond := Cond.code y_LogCleaner_removeEmptiedBatches b_LogCleaner_removeEmptiedBatches 6 (some .int) :: TB
set_option maxHeartbeats 4000000 in
set_option maxRecDepth 100000 in
theorem sb_LogCleaner_removeEmptiedBatches_70 {p : Program} {l : Launch} {e : Env} {s : State} {m : MethodId} {args : Array Value} {below : List Frame} {meth : Method} {c : Code} {D : va_G} {d : Nat → ClassId} {A : Nat → Prop} {h0 : xw} {Q : Int32 → xw → Prop} {k9 : Nat → Int32 → Int32 → Int32 → xw → Prop} (C0 : xctx p s m args meth c b_LogCleaner_removeEmptiedBatches 6 (some .int) R_LogCleaner D d A True) (hk9 : ∀ (x0 : Nat) (x1 : Int32) (x2 : Int32) (x3 : Int32) (h : xw) (H : Heap) (locs : List Loc) (ls : Array Slot), k9 x0 x1 x2 x3 h → xR sgX h0 D A h H → va_S A s.heap H locs → lv_has ls 6 [(0, .ref x0), (1, .int x1), (2, .int x2), (3, .int x3)] → W p l e rm_LogCleaner_removeEmptiedBatches s m args below meth c H locs 0 0 (MQ below (va_Qi (fun r u => Q r u ∧ xfr sgX h0 u) (xB D d A) A) args s 0 0 A) (F0 m 9 ls [])) : ∀ (x0 : Nat) (x1 : Int32) (x2 : Int32) (x3 : Int32) (h : xw) (H : Heap) (locs : List Loc) (ls : Array Slot), wb_LogCleaner_removeEmptiedBatches_70 d k9 Q x0 x1 x2 x3 h → xR sgX h0 D A h H → va_S A s.heap H locs → lv_has ls 6 [(0, .ref x0), (1, .int x1), (2, .int x2), (3, .int x3)] → W p l e rm_LogCleaner_removeEmptiedBatches s m args below meth c H locs 0 0 (MQ below (va_Qi (fun r u => Q r u ∧ xfr sgX h0 u) (xB D d A) A) args s 0 0 A) (F0 m 70 ls []) := by
  obtain ⟨hx, hb, hr, hml, hown, htb, hK, hA, hNB, hlocks, hXT⟩ := id C0
  intro x0 x1 x2 x3 h H locs ls hw hP hS hl
  refine lv_iinc (v := x3 + 1) (lv' := [(3, .int (x3 + 1)), (0, .ref x0), (1, .int x1), (2, .int x2)]) hx hb d_LogCleaner_removeEmptiedBatches_70 hl (k := 3) rfl rfl (by decide) rfl (fun ls hl => ?_)
  refine lv_goto (tgt := 9) hx hb d_LogCleaner_removeEmptiedBatches_73 (by decide) ?_
  exact hk9 x0 x1 x2 (x3 + 1) h _ _ _ hw hP hS (lv_sub hl [1, 2, 3, 0] rfl)

set_option maxHeartbeats 4000000 in
set_option maxRecDepth 100000 in
theorem sb_LogCleaner_removeEmptiedBatches_52 {p : Program} {l : Launch} {e : Env} {s : State} {m : MethodId} {args : Array Value} {below : List Frame} {meth : Method} {c : Code} {D : va_G} {d : Nat → ClassId} {A : Nat → Prop} {h0 : xw} {Q : Int32 → xw → Prop} {k9 : Nat → Int32 → Int32 → Int32 → xw → Prop} (C0 : xctx p s m args meth c b_LogCleaner_removeEmptiedBatches 6 (some .int) R_LogCleaner D d A True) (hk9 : ∀ (x0 : Nat) (x1 : Int32) (x2 : Int32) (x3 : Int32) (h : xw) (H : Heap) (locs : List Loc) (ls : Array Slot), k9 x0 x1 x2 x3 h → xR sgX h0 D A h H → va_S A s.heap H locs → lv_has ls 6 [(0, .ref x0), (1, .int x1), (2, .int x2), (3, .int x3)] → W p l e rm_LogCleaner_removeEmptiedBatches s m args below meth c H locs 0 0 (MQ below (va_Qi (fun r u => Q r u ∧ xfr sgX h0 u) (xB D d A) A) args s 0 0 A) (F0 m 9 ls [])) : ∀ (x0 : Nat) (x1 : Int32) (x2 : Int32) (x3 : Int32) (x4 : Option Nat) (s0 : Int32) (h : xw) (H : Heap) (locs : List Loc) (ls : Array Slot), wb_LogCleaner_removeEmptiedBatches_52 d k9 Q x0 x1 x2 x3 x4 s0 h → xR sgX h0 D A h H → va_S A s.heap H locs → lv_has ls 6 [(0, .ref x0), (1, .int x1), (2, .int x2), (3, .int x3), (4, va_rf x4)] → W p l e rm_LogCleaner_removeEmptiedBatches s m args below meth c H locs 0 0 (MQ below (va_Qi (fun r u => Q r u ∧ xfr sgX h0 u) (xB D d A) A) args s 0 0 A) (F0 m 52 ls [.int s0]) := by
  obtain ⟨hx, hb, hr, hml, hown, htb, hK, hA, hNB, hlocks, hXT⟩ := id C0
  intro x0 x1 x2 x3 x4 s0 h H locs ls hw hP hS hl
  refine lv_istore (lv' := [(5, .int s0), (0, .ref x0), (1, .int x1), (2, .int x2), (3, .int x3), (4, va_rf x4)]) hx hb d_LogCleaner_removeEmptiedBatches_52 hl (by decide) (by cases x4 <;> rfl) (fun ls hl => ?_)
  refine lv_iload hx hb d_LogCleaner_removeEmptiedBatches_54 (lv_at hl 0 rfl) ?_
  refine lv_if_ne (tgt := 70) hx hb d_LogCleaner_removeEmptiedBatches_56 (by decide) (fun cq => ?_) (fun cq => ?_)
  · replace hw := hw.2 cq
    exact sb_LogCleaner_removeEmptiedBatches_70 C0 hk9 x0 x1 x2 x3 h _ _ _ hw hP hS (lv_sub hl [1, 2, 3, 4] rfl)
  · replace hw := hw.1 cq
    refine lv_aload_n hx hb d_LogCleaner_removeEmptiedBatches_59 rfl (lv_at hl 1 rfl) ?_
    refine xgetA hx hb htb i_LogCleaner hown hK hP (ci := 0) rfl 0 (by decide) (htb _ k_LogCleaner_11) (fun _ h9 => h9) hw d_LogCleaner_removeEmptiedBatches_60 (fun r8 hw => ?_)
    refine lv_iload_n hx hb d_LogCleaner_removeEmptiedBatches_63 rfl (lv_at hl 3 rfl) ?_
    refine xv_aload hx hb d_LogCleaner_removeEmptiedBatches_64 (lv_at hl 5 rfl) ?_
    obtain ⟨p9, hpe, hw⟩ := hw
    revert hw
    revert hl
    subst hpe
    intro hl hw
    replace hl : lv_has ls 6 [(5, .int s0), (0, .ref x0), (1, .int x1), (2, .int x2), (3, .int x3), (4, va_rf x4)] := hl
    refine xstq hx hb hK hP hS 1 rfl (ci := 1) rfl (fun _ _ => rfl) hw d_LogCleaner_removeEmptiedBatches_66 (fun h10 H locs hw hP hS => ?_)
    refine lv_iinc (v := x2 + 1) (lv' := [(2, .int (x2 + 1)), (5, .int s0), (0, .ref x0), (1, .int x1), (3, .int x3), (4, va_rf x4)]) hx hb d_LogCleaner_removeEmptiedBatches_67 hl (k := 3) rfl rfl (by decide) rfl (fun ls hl => ?_)
    exact sb_LogCleaner_removeEmptiedBatches_70 C0 hk9 x0 x1 (x2 + 1) x3 h10 _ _ _ hw hP hS (lv_sub hl [2, 3, 0, 4] rfl)

set_option maxHeartbeats 4000000 in
set_option maxRecDepth 100000 in
theorem sb_LogCleaner_removeEmptiedBatches_51 {p : Program} {l : Launch} {e : Env} {s : State} {m : MethodId} {args : Array Value} {below : List Frame} {meth : Method} {c : Code} {D : va_G} {d : Nat → ClassId} {A : Nat → Prop} {h0 : xw} {Q : Int32 → xw → Prop} {k9 : Nat → Int32 → Int32 → Int32 → xw → Prop} (C0 : xctx p s m args meth c b_LogCleaner_removeEmptiedBatches 6 (some .int) R_LogCleaner D d A True) (hk9 : ∀ (x0 : Nat) (x1 : Int32) (x2 : Int32) (x3 : Int32) (h : xw) (H : Heap) (locs : List Loc) (ls : Array Slot), k9 x0 x1 x2 x3 h → xR sgX h0 D A h H → va_S A s.heap H locs → lv_has ls 6 [(0, .ref x0), (1, .int x1), (2, .int x2), (3, .int x3)] → W p l e rm_LogCleaner_removeEmptiedBatches s m args below meth c H locs 0 0 (MQ below (va_Qi (fun r u => Q r u ∧ xfr sgX h0 u) (xB D d A) A) args s 0 0 A) (F0 m 9 ls [])) : ∀ (x0 : Nat) (x1 : Int32) (x2 : Int32) (x3 : Int32) (x4 : Option Nat) (h : xw) (H : Heap) (locs : List Loc) (ls : Array Slot), wb_LogCleaner_removeEmptiedBatches_51 d k9 Q x0 x1 x2 x3 x4 h → xR sgX h0 D A h H → va_S A s.heap H locs → lv_has ls 6 [(0, .ref x0), (1, .int x1), (2, .int x2), (3, .int x3), (4, va_rf x4)] → W p l e rm_LogCleaner_removeEmptiedBatches s m args below meth c H locs 0 0 (MQ below (va_Qi (fun r u => Q r u ∧ xfr sgX h0 u) (xB D d A) A) args s 0 0 A) (F0 m 51 ls []) := by
  obtain ⟨hx, hb, hr, hml, hown, htb, hK, hA, hNB, hlocks, hXT⟩ := id C0
  intro x0 x1 x2 x3 x4 h H locs ls hw hP hS hl
  refine lv_iconst (v := 0) hx hb d_LogCleaner_removeEmptiedBatches_51 (by decide) ?_
  exact sb_LogCleaner_removeEmptiedBatches_52 C0 hk9 x0 x1 x2 x3 x4 0 h _ _ _ hw hP hS (lv_sub hl [0, 1, 2, 3, 4] rfl)

set_option maxHeartbeats 4000000 in
set_option maxRecDepth 100000 in
theorem sl_LogCleaner_removeEmptiedBatches_9 {p : Program} {l : Launch} {e : Env} {s : State} {m : MethodId} {args : Array Value} {below : List Frame} {meth : Method} {c : Code} {D : va_G} {d : Nat → ClassId} {A : Nat → Prop} {h0 : xw} {Q : Int32 → xw → Prop} (C0 : xctx p s m args meth c b_LogCleaner_removeEmptiedBatches 6 (some .int) R_LogCleaner D d A True) : ∀ (n : Nat) (x : Nat × Int32 × Int32 × Int32) (h : xw) (H : Heap) (locs : List Loc) (ls : Array Slot), xloop (fun (k : Nat × Int32 × Int32 × Int32 → xw → Prop) (x : Nat × Int32 × Int32 × Int32) (h : xw) => wc_LogCleaner_removeEmptiedBatches_9 d Q (fun y0 y1 y2 y3 h => k (y0, y1, y2, y3) h) x.1 x.2.1 x.2.2.1 x.2.2.2 h) n x h → xR sgX h0 D A h H → va_S A s.heap H locs → lv_has ls 6 [(0, .ref x.1), (1, .int x.2.1), (2, .int x.2.2.1), (3, .int x.2.2.2)] → W p l e rm_LogCleaner_removeEmptiedBatches s m args below meth c H locs 0 0 (MQ below (va_Qi (fun r u => Q r u ∧ xfr sgX h0 u) (xB D d A) A) args s 0 0 A) (F0 m 9 ls []) := by
  obtain ⟨hx, hb, hr, hml, hown, htb, hK, hA, hNB, hlocks, hXT⟩ := id C0
  intro n
  induction n with
  | zero => intro x h H locs ls hw; exact hw.elim
  | succ n ih =>
    rintro ⟨x0, x1, x2, x3⟩ h H locs ls hw hP hS hl
    replace hw : wc_LogCleaner_removeEmptiedBatches_9 d Q (fun y0 y1 y2 y3 h => xloop (fun (k : Nat × Int32 × Int32 × Int32 → xw → Prop) (x : Nat × Int32 × Int32 × Int32) (h : xw) => wc_LogCleaner_removeEmptiedBatches_9 d Q (fun y0 y1 y2 y3 h => k (y0, y1, y2, y3) h) x.1 x.2.1 x.2.2.1 x.2.2.2 h) n (y0, y1, y2, y3) h) x0 x1 x2 x3 h := hw
    have hk9 := fun (x0 : Nat) (x1 : Int32) (x2 : Int32) (x3 : Int32) => ih (x0, x1, x2, x3)
    refine lv_iload_n hx hb d_LogCleaner_removeEmptiedBatches_9 rfl (lv_at hl 3 rfl) ?_
    refine lv_iload_n hx hb d_LogCleaner_removeEmptiedBatches_10 rfl (lv_at hl 1 rfl) ?_
    refine lv_icmp_ge (tgt := 76) hx hb d_LogCleaner_removeEmptiedBatches_11 (by decide) (fun cq => ?_) (fun cq => ?_)
    · replace hw := hw.1 cq
      refine lv_aload_n hx hb d_LogCleaner_removeEmptiedBatches_76 rfl (lv_at hl 0 rfl) ?_
      refine lv_iload_n hx hb d_LogCleaner_removeEmptiedBatches_77 rfl (lv_at hl 2 rfl) ?_
      obtain ⟨⟨_, hw0⟩, hw⟩ := hw
      refine xcallv (va_runV (b := x0) (As := [.int x2]) (rest := []) ⟨hx, hb, hml, hown, htb⟩ (m_LogCleaner_keepFirstBatches l D d h _ x0 x2 _ hw) (xcwV 1 htb g_code_LogCleaner_keepFirstBatches g_ini_LogCleaner k_LogCleaner_188 g_im_LogCleaner_keepFirstBatches g_sel_LogCleaner_keepFirstBatches rfl rfl (by decide +kernel) ⟨(Nat.le_of_ble_eq_true rfl), (Nat.le_of_ble_eq_true rfl)⟩) (xpreV hP hK hNB (ci := 0) rfl hw0) rfl rfl hl.1 rfl (lv_room (Nat.le_of_ble_eq_true rfl)) d_LogCleaner_removeEmptiedBatches_78 ⟨(Nat.le_of_ble_eq_true rfl), (Nat.le_of_ble_eq_true rfl)⟩) hP hS hA (fun h2 H locs hw hP hS => ?_)
      refine W.widen (k := 0) (n := 0) (Nat.le_of_ble_eq_true rfl) (Nat.le_of_ble_eq_true rfl) ?_
      refine lv_iload_n hx hb d_LogCleaner_removeEmptiedBatches_81 rfl (lv_at hl 1 rfl) ?_
      refine lv_iload_n hx hb d_LogCleaner_removeEmptiedBatches_82 rfl (lv_at hl 2 rfl) ?_
      refine lv_isub hx hb d_LogCleaner_removeEmptiedBatches_83 ?_
      refine W.widen (k := 0) (n := 0) (Nat.le_of_ble_eq_true rfl) (Nat.le_of_ble_eq_true rfl) ?_
      exact xretI C0 hw hP hS d_LogCleaner_removeEmptiedBatches_84
    · replace hw := hw.2 cq
      refine lv_aload_n hx hb d_LogCleaner_removeEmptiedBatches_14 rfl (lv_at hl 0 rfl) ?_
      refine xgetA hx hb htb i_LogCleaner hown hK hP (ci := 0) rfl 0 (by decide) (htb _ k_LogCleaner_11) (fun _ h9 => h9) hw d_LogCleaner_removeEmptiedBatches_15 (fun r3 hw => ?_)
      refine lv_iload_n hx hb d_LogCleaner_removeEmptiedBatches_18 rfl (lv_at hl 3 rfl) ?_
      obtain ⟨p4, hpe, hw⟩ := hw
      revert hw
      revert hl
      subst hpe
      intro hl hw
      replace hl : lv_has ls 6 [(0, .ref x0), (1, .int x1), (2, .int x2), (3, .int x3)] := hl
      refine xldq hx hb hK hP 1 rfl hw d_LogCleaner_removeEmptiedBatches_19 (fun r5 hw => ?_)
      refine xv_astore (lv' := [(4, va_rf r5), (0, .ref x0), (1, .int x1), (2, .int x2), (3, .int x3)]) hx hb d_LogCleaner_removeEmptiedBatches_20 hl (by decide) rfl (fun ls hl => ?_)
      refine lv_aload_n hx hb d_LogCleaner_removeEmptiedBatches_22 rfl (lv_at hl 1 rfl) ?_
      refine xv_aload hx hb d_LogCleaner_removeEmptiedBatches_23 (lv_at hl 0 rfl) ?_
      obtain ⟨⟨_, hw0⟩, hw⟩ := hw
      refine xcalli (va_runV (b := x0) (As := [va_rf r5]) (rest := []) ⟨hx, hb, hml, hown, htb⟩ (m_LogCleaner_isClosed l D d h _ x0 r5 _ hw) (xcwV 1 htb g_code_LogCleaner_isClosed g_ini_LogCleaner k_LogCleaner_181 g_im_LogCleaner_isClosed g_sel_LogCleaner_isClosed rfl rfl (by decide +kernel) ⟨(Nat.le_of_ble_eq_true rfl), (Nat.le_of_ble_eq_true rfl)⟩) (xpreV hP hK hNB (ci := 0) rfl hw0) rfl rfl hl.1 rfl (lv_room (Nat.le_of_ble_eq_true rfl)) d_LogCleaner_removeEmptiedBatches_25 ⟨(Nat.le_of_ble_eq_true rfl), (Nat.le_of_ble_eq_true rfl)⟩) hP hS hA (fun r7 h6 H locs hw hP hS => ?_)
      refine W.widen (k := 0) (n := 0) (Nat.le_of_ble_eq_true rfl) (Nat.le_of_ble_eq_true rfl) ?_
      refine lv_if_eq (tgt := 51) hx hb d_LogCleaner_removeEmptiedBatches_28 (by decide) (fun cq => ?_) (fun cq => ?_)
      · replace hw := hw.1 cq
        exact sb_LogCleaner_removeEmptiedBatches_51 C0 hk9 x0 x1 x2 x3 r5 h6 _ _ _ hw hP hS (lv_sub hl [1, 2, 3, 4, 0] rfl)
      · replace hw := hw.2 cq
        refine xv_aload hx hb d_LogCleaner_removeEmptiedBatches_31 (lv_at hl 0 rfl) ?_
        obtain ⟨p11, hpe, hw⟩ := hw
        revert hw
        revert hl
        subst hpe
        intro hl hw
        replace hl : lv_has ls 6 [(4, .ref p11), (0, .ref x0), (1, .int x1), (2, .int x2), (3, .int x3)] := hl
        refine xgetI hx hb htb i_Batch hown hK hP (ci := 1) rfl 3 (by decide) (htb _ k_LogCleaner_121) (fun _ h9 => h9) hw d_LogCleaner_removeEmptiedBatches_33 (fun v12 hw => ?_)
        refine lv_if_ne (tgt := 51) hx hb d_LogCleaner_removeEmptiedBatches_36 (by decide) (fun cq => ?_) (fun cq => ?_)
        · replace hw := hw.2 cq
          exact sb_LogCleaner_removeEmptiedBatches_51 C0 hk9 x0 x1 x2 x3 (some p11) h6 _ _ _ hw hP hS (lv_sub hl [1, 2, 3, 4, 0] rfl)
        · replace hw := hw.1 cq
          refine lv_aload_n hx hb d_LogCleaner_removeEmptiedBatches_39 rfl (lv_at hl 1 rfl) ?_
          refine lv_iload_n hx hb d_LogCleaner_removeEmptiedBatches_40 rfl (lv_at hl 4 rfl) ?_
          obtain ⟨⟨_, hw0⟩, hw⟩ := hw
          refine xcalli (va_runV (b := x0) (As := [.int x3]) (rest := []) ⟨hx, hb, hml, hown, htb⟩ (m_LogCleaner_isKnown l D d h6 _ x0 x3 _ hw) (xcwV 1 htb g_code_LogCleaner_isKnown g_ini_LogCleaner k_LogCleaner_125 g_im_LogCleaner_isKnown g_sel_LogCleaner_isKnown rfl rfl (by decide +kernel) ⟨(Nat.le_of_ble_eq_true rfl), (Nat.le_of_ble_eq_true rfl)⟩) (xpreV hP hK hNB (ci := 0) rfl hw0) rfl rfl hl.1 rfl (lv_room (Nat.le_of_ble_eq_true rfl)) d_LogCleaner_removeEmptiedBatches_41 ⟨(Nat.le_of_ble_eq_true rfl), (Nat.le_of_ble_eq_true rfl)⟩) hP hS hA (fun r14 h13 H locs hw hP hS => ?_)
          refine W.widen (k := 0) (n := 0) (Nat.le_of_ble_eq_true rfl) (Nat.le_of_ble_eq_true rfl) ?_
          refine lv_if_ne (tgt := 51) hx hb d_LogCleaner_removeEmptiedBatches_44 (by decide) (fun cq => ?_) (fun cq => ?_)
          · replace hw := hw.2 cq
            exact sb_LogCleaner_removeEmptiedBatches_51 C0 hk9 x0 x1 x2 x3 (some p11) h13 _ _ _ hw hP hS (lv_sub hl [1, 2, 3, 4, 0] rfl)
          · replace hw := hw.1 cq
            refine lv_iconst (v := 1) hx hb d_LogCleaner_removeEmptiedBatches_47 (by decide) ?_
            refine lv_goto (tgt := 52) hx hb d_LogCleaner_removeEmptiedBatches_48 (by decide) ?_
            exact sb_LogCleaner_removeEmptiedBatches_52 C0 hk9 x0 x1 x2 x3 (some p11) 1 h13 _ _ _ hw hP hS (lv_sub hl [1, 2, 3, 4, 0] rfl)

set_option maxHeartbeats 4000000 in
set_option maxRecDepth 100000 in
theorem m_LogCleaner_removeEmptiedBatches (l : Launch) (D : va_G) (d : Nat → ClassId) (h : xw) (sz : Nat) (a0 : Nat) (Q : Int32 → xw → Prop) (hw : wp_LogCleaner_removeEmptiedBatches d h a0 Q) : Met l y_LogCleaner_removeEmptiedBatches ws_LogCleaner_removeEmptiedBatches rm_LogCleaner_removeEmptiedBatches (xPre D d h [.ref a0] sz) (va_Qi (fun r u => Q r u ∧ xfr sgX h u) (xB D d (xA h sz)) (xA h sz)) 0 0 (xA h sz) := by
  refine Met.ofW (cc := b_LogCleaner_removeEmptiedBatches) (maxL := 6) (ret := (some .int)) (by decide) rfl ?_
  intro p e s m args below meth c s₁ B hml hv
  obtain ⟨rfl, hsz, hP0, hK, hNB⟩ := hv
  have hts := atoms_spec (ws := ws_LogCleaner_removeEmptiedBatches) B.pre
  have htb := fun w (hw9 : w ∈ TB) => hts w (List.mem_cons_of_mem _ hw9)
  have hown : s.vm.findClass R_LogCleaner = some m.cls := findClass_of_methodNamed B.named
  subst hsz
  obtain ⟨A, hAe⟩ : ∃ A, A = xA h s.heap.size := ⟨_, rfl⟩
  rw [← hAe]
  have hP : xR sgX h D A h s.heap := ⟨by rw [hAe]; exact hP0.self, xfr.rf⟩
  have hA : ∀ q, s.heap.size ≤ q → A q := fun q hq => by rw [hAe]; exact Or.inr hq
  have hS : va_S A s.heap s.heap [] := va_S.rf
  have C0 : xctx p s m ([.ref a0] : List Value).toArray meth c b_LogCleaner_removeEmptiedBatches 6 (some .int) R_LogCleaner D d A True := ⟨B.exec, B.bytes, B.returns, hml, hown, htb, hK, hA, hNB, B.notSynchronized, trivial⟩
  obtain ⟨hx, hb, hr, -, -, -, -, -, -, hlocks, hXT⟩ := id C0
  have hl := lv_entry ([.ref a0] : List Value) (n := 6) (Nat.le_of_ble_eq_true rfl)
  rw [lg_entry_eq]
  generalize (lg_sl ([.ref a0] : List Value) ++ List.replicate (6 - (lg_sl ([.ref a0] : List Value)).length) Slot.unset).toArray = ls at hl ⊢
  have hl : lv_has ls 6 [(0, .ref a0)] := hl
  refine lv_aload_n hx hb d_LogCleaner_removeEmptiedBatches_0 rfl (lv_at hl 0 rfl) ?_
  refine xgetI hx hb htb i_LogCleaner hown hK hP (ci := 0) rfl 1 (by decide) (htb _ k_LogCleaner_15) (fun _ h9 => h9) hw d_LogCleaner_removeEmptiedBatches_1 (fun v1 hw => ?_)
  refine lv_istore_n (lv' := [(1, .int v1), (0, .ref a0)]) hx hb d_LogCleaner_removeEmptiedBatches_4 rfl hl (by decide) rfl (fun ls hl => ?_)
  refine lv_iconst (v := 0) hx hb d_LogCleaner_removeEmptiedBatches_5 (by decide) ?_
  refine lv_istore_n (lv' := [(2, .int 0), (1, .int v1), (0, .ref a0)]) hx hb d_LogCleaner_removeEmptiedBatches_6 rfl hl (by decide) rfl (fun ls hl => ?_)
  refine lv_iconst (v := 0) hx hb d_LogCleaner_removeEmptiedBatches_7 (by decide) ?_
  refine lv_istore_n (lv' := [(3, .int 0), (2, .int 0), (1, .int v1), (0, .ref a0)]) hx hb d_LogCleaner_removeEmptiedBatches_8 rfl hl (by decide) rfl (fun ls hl => ?_)
  obtain ⟨n, hw⟩ := hw
  exact sl_LogCleaner_removeEmptiedBatches_9 C0 n (a0, v1, 0, 0) h _ _ _ hw hP hS (lv_sub hl [3, 2, 1, 0] rfl)

theorem d_LogCleaner_packClosedSegments_0 : decode b_LogCleaner_packClosedSegments 0 = .ok (.new 25, 3) := by decide +kernel
theorem d_LogCleaner_packClosedSegments_3 : decode b_LogCleaner_packClosedSegments 3 = .ok (.dup, 1) := by decide +kernel
theorem d_LogCleaner_packClosedSegments_4 : decode b_LogCleaner_packClosedSegments 4 = .ok (.invokespecial 27, 3) := by decide +kernel
theorem d_LogCleaner_packClosedSegments_7 : decode b_LogCleaner_packClosedSegments 7 = .ok (.astore_n 1, 1) := by decide +kernel
theorem d_LogCleaner_packClosedSegments_8 : decode b_LogCleaner_packClosedSegments 8 = .ok (.iconst 0, 1) := by decide +kernel
theorem d_LogCleaner_packClosedSegments_9 : decode b_LogCleaner_packClosedSegments 9 = .ok (.istore_n 2, 1) := by decide +kernel
theorem d_LogCleaner_packClosedSegments_10 : decode b_LogCleaner_packClosedSegments 10 = .ok (.iload_n 2, 1) := by decide +kernel
theorem d_LogCleaner_packClosedSegments_11 : decode b_LogCleaner_packClosedSegments 11 = .ok (.aload_n 0, 1) := by decide +kernel
theorem d_LogCleaner_packClosedSegments_12 : decode b_LogCleaner_packClosedSegments 12 = .ok (.getfield 15, 3) := by decide +kernel
theorem d_LogCleaner_packClosedSegments_15 : decode b_LogCleaner_packClosedSegments 15 = .ok (.if_icmp .ge 44, 3) := by decide +kernel
theorem d_LogCleaner_packClosedSegments_18 : decode b_LogCleaner_packClosedSegments 18 = .ok (.aload_n 0, 1) := by decide +kernel
theorem d_LogCleaner_packClosedSegments_19 : decode b_LogCleaner_packClosedSegments 19 = .ok (.aload_n 0, 1) := by decide +kernel
theorem d_LogCleaner_packClosedSegments_20 : decode b_LogCleaner_packClosedSegments 20 = .ok (.getfield 11, 3) := by decide +kernel
theorem d_LogCleaner_packClosedSegments_23 : decode b_LogCleaner_packClosedSegments 23 = .ok (.iload_n 2, 1) := by decide +kernel
theorem d_LogCleaner_packClosedSegments_24 : decode b_LogCleaner_packClosedSegments 24 = .ok (.aaload, 1) := by decide +kernel
theorem d_LogCleaner_packClosedSegments_25 : decode b_LogCleaner_packClosedSegments 25 = .ok (.invokevirtual 181, 3) := by decide +kernel
theorem d_LogCleaner_packClosedSegments_28 : decode b_LogCleaner_packClosedSegments 28 = .ok (.ifCond .eq 31, 3) := by decide +kernel
theorem d_LogCleaner_packClosedSegments_31 : decode b_LogCleaner_packClosedSegments 31 = .ok (.aload_n 0, 1) := by decide +kernel
theorem d_LogCleaner_packClosedSegments_32 : decode b_LogCleaner_packClosedSegments 32 = .ok (.getfield 11, 3) := by decide +kernel
theorem d_LogCleaner_packClosedSegments_35 : decode b_LogCleaner_packClosedSegments 35 = .ok (.iload_n 2, 1) := by decide +kernel
theorem d_LogCleaner_packClosedSegments_36 : decode b_LogCleaner_packClosedSegments 36 = .ok (.aaload, 1) := by decide +kernel
theorem d_LogCleaner_packClosedSegments_37 : decode b_LogCleaner_packClosedSegments 37 = .ok (.aload_n 1, 1) := by decide +kernel
theorem d_LogCleaner_packClosedSegments_38 : decode b_LogCleaner_packClosedSegments 38 = .ok (.aload_n 0, 1) := by decide +kernel
theorem d_LogCleaner_packClosedSegments_39 : decode b_LogCleaner_packClosedSegments 39 = .ok (.getfield 11, 3) := by decide +kernel
theorem d_LogCleaner_packClosedSegments_42 : decode b_LogCleaner_packClosedSegments 42 = .ok (.iload_n 2, 1) := by decide +kernel
theorem d_LogCleaner_packClosedSegments_43 : decode b_LogCleaner_packClosedSegments 43 = .ok (.aaload, 1) := by decide +kernel
theorem d_LogCleaner_packClosedSegments_44 : decode b_LogCleaner_packClosedSegments 44 = .ok (.invokevirtual 77, 3) := by decide +kernel
theorem d_LogCleaner_packClosedSegments_47 : decode b_LogCleaner_packClosedSegments 47 = .ok (.invokevirtual 81, 3) := by decide +kernel
theorem d_LogCleaner_packClosedSegments_50 : decode b_LogCleaner_packClosedSegments 50 = .ok (.putfield 85, 3) := by decide +kernel
theorem d_LogCleaner_packClosedSegments_53 : decode b_LogCleaner_packClosedSegments 53 = .ok (.iinc 2 1, 3) := by decide +kernel
theorem d_LogCleaner_packClosedSegments_56 : decode b_LogCleaner_packClosedSegments 56 = .ok (.goto (-46), 3) := by decide +kernel
theorem d_LogCleaner_packClosedSegments_59 : decode b_LogCleaner_packClosedSegments 59 = .ok (.aload_n 1, 1) := by decide +kernel
theorem d_LogCleaner_packClosedSegments_60 : decode b_LogCleaner_packClosedSegments 60 = .ok (.getfield 102, 3) := by decide +kernel
theorem d_LogCleaner_packClosedSegments_63 : decode b_LogCleaner_packClosedSegments 63 = .ok (.iconst 1, 1) := by decide +kernel
theorem d_LogCleaner_packClosedSegments_64 : decode b_LogCleaner_packClosedSegments 64 = .ok (.iadd, 1) := by decide +kernel
theorem d_LogCleaner_packClosedSegments_65 : decode b_LogCleaner_packClosedSegments 65 = .ok (.istore_n 3, 1) := by decide +kernel
theorem d_LogCleaner_packClosedSegments_66 : decode b_LogCleaner_packClosedSegments 66 = .ok (.iload_n 2, 1) := by decide +kernel
theorem d_LogCleaner_packClosedSegments_67 : decode b_LogCleaner_packClosedSegments 67 = .ok (.aload_n 0, 1) := by decide +kernel
theorem d_LogCleaner_packClosedSegments_68 : decode b_LogCleaner_packClosedSegments 68 = .ok (.getfield 15, 3) := by decide +kernel
theorem d_LogCleaner_packClosedSegments_71 : decode b_LogCleaner_packClosedSegments 71 = .ok (.if_icmp .ge 19, 3) := by decide +kernel
theorem d_LogCleaner_packClosedSegments_74 : decode b_LogCleaner_packClosedSegments 74 = .ok (.aload_n 0, 1) := by decide +kernel
theorem d_LogCleaner_packClosedSegments_75 : decode b_LogCleaner_packClosedSegments 75 = .ok (.getfield 11, 3) := by decide +kernel
theorem d_LogCleaner_packClosedSegments_78 : decode b_LogCleaner_packClosedSegments 78 = .ok (.iload_n 2, 1) := by decide +kernel
theorem d_LogCleaner_packClosedSegments_79 : decode b_LogCleaner_packClosedSegments 79 = .ok (.aaload, 1) := by decide +kernel
theorem d_LogCleaner_packClosedSegments_80 : decode b_LogCleaner_packClosedSegments 80 = .ok (.iload_n 3, 1) := by decide +kernel
theorem d_LogCleaner_packClosedSegments_81 : decode b_LogCleaner_packClosedSegments 81 = .ok (.putfield 85, 3) := by decide +kernel
theorem d_LogCleaner_packClosedSegments_84 : decode b_LogCleaner_packClosedSegments 84 = .ok (.iinc 2 1, 3) := by decide +kernel
theorem d_LogCleaner_packClosedSegments_87 : decode b_LogCleaner_packClosedSegments 87 = .ok (.goto (-21), 3) := by decide +kernel
theorem d_LogCleaner_packClosedSegments_90 : decode b_LogCleaner_packClosedSegments 90 = .ok (.aload_n 0, 1) := by decide +kernel
theorem d_LogCleaner_packClosedSegments_91 : decode b_LogCleaner_packClosedSegments 91 = .ok (.getfield 28, 3) := by decide +kernel
theorem d_LogCleaner_packClosedSegments_94 : decode b_LogCleaner_packClosedSegments 94 = .ok (.iload_n 3, 1) := by decide +kernel
theorem d_LogCleaner_packClosedSegments_95 : decode b_LogCleaner_packClosedSegments 95 = .ok (.putfield 102, 3) := by decide +kernel
theorem d_LogCleaner_packClosedSegments_98 : decode b_LogCleaner_packClosedSegments 98 = .ok (.return_, 1) := by decide +kernel
def rm_LogCleaner_packClosedSegments : Room := { frames := 3, cells := 1, slots := 2, locals := 62 }
def ws_LogCleaner_packClosedSegments : List Cond := Cond.code y_LogCleaner_packClosedSegments b_LogCleaner_packClosedSegments 4 none :: TB
set_option maxHeartbeats 4000000 in
set_option maxRecDepth 100000 in
theorem sl_LogCleaner_packClosedSegments_66 {p : Program} {l : Launch} {e : Env} {s : State} {m : MethodId} {args : Array Value} {below : List Frame} {meth : Method} {c : Code} {D : va_G} {d : Nat → ClassId} {A : Nat → Prop} {h0 : xw} {Q : xw → Prop} (C0 : xctx p s m args meth c b_LogCleaner_packClosedSegments 4 none R_LogCleaner D d A True) : ∀ (n : Nat) (x : Nat × Int32 × Int32) (h : xw) (H : Heap) (locs : List Loc) (ls : Array Slot), xloop (fun (k : Nat × Int32 × Int32 → xw → Prop) (x : Nat × Int32 × Int32) (h : xw) => wc_LogCleaner_packClosedSegments_66 d Q (fun y0 y2 y3 h => k (y0, y2, y3) h) x.1 x.2.1 x.2.2 h) n x h → xR sgX h0 D A h H → va_S A s.heap H locs → lv_has ls 4 [(0, .ref x.1), (2, .int x.2.1), (3, .int x.2.2)] → W p l e rm_LogCleaner_packClosedSegments s m args below meth c H locs 1 2 (MQ below (va_Qv (fun u => Q u ∧ xfr sgX h0 u) (xB D d A) A) args s 1 2 A) (F0 m 66 ls []) := by
  obtain ⟨hx, hb, hr, hml, hown, htb, hK, hA, hNB, hlocks, hXT⟩ := id C0
  intro n
  induction n with
  | zero => intro x h H locs ls hw; exact hw.elim
  | succ n ih =>
    rintro ⟨x0, x2, x3⟩ h H locs ls hw hP hS hl
    replace hw : wc_LogCleaner_packClosedSegments_66 d Q (fun y0 y2 y3 h => xloop (fun (k : Nat × Int32 × Int32 → xw → Prop) (x : Nat × Int32 × Int32) (h : xw) => wc_LogCleaner_packClosedSegments_66 d Q (fun y0 y2 y3 h => k (y0, y2, y3) h) x.1 x.2.1 x.2.2 h) n (y0, y2, y3) h) x0 x2 x3 h := hw
    have hk66 := fun (x0 : Nat) (x2 : Int32) (x3 : Int32) => ih (x0, x2, x3)
    refine lv_iload_n hx hb d_LogCleaner_packClosedSegments_66 rfl (lv_at hl 1 rfl) ?_
    refine lv_aload_n hx hb d_LogCleaner_packClosedSegments_67 rfl (lv_at hl 0 rfl) ?_
    refine xgetI hx hb htb i_LogCleaner hown hK hP (ci := 0) rfl 1 (by decide) (htb _ k_LogCleaner_15) (fun _ h9 => h9) hw d_LogCleaner_packClosedSegments_68 (fun v6 hw => ?_)
    refine lv_icmp_ge (tgt := 90) hx hb d_LogCleaner_packClosedSegments_71 (by decide) (fun cq => ?_) (fun cq => ?_)
    · replace hw := hw.1 cq
      refine lv_aload_n hx hb d_LogCleaner_packClosedSegments_90 rfl (lv_at hl 0 rfl) ?_
      refine xgetA hx hb htb i_LogCleaner hown hK hP (ci := 0) rfl 4 (by decide) (htb _ k_LogCleaner_28) (fun _ h9 => h9) hw d_LogCleaner_packClosedSegments_91 (fun r7 hw => ?_)
      refine lv_iload_n hx hb d_LogCleaner_packClosedSegments_94 rfl (lv_at hl 2 rfl) ?_
      obtain ⟨p8, hpe, hw⟩ := hw
      revert hw
      revert hl
      subst hpe
      intro hl hw
      replace hl : lv_has ls 4 [(0, .ref x0), (2, .int x2), (3, .int x3)] := hl
      refine xputI hx hb htb i_Packing t_Packing t_Packing_ok n_Packing hown hK hP hS (ci := 3) rfl (fun _ => rfl) 0 (by decide) (htb _ k_LogCleaner_102) (fun _ h9 => h9) rfl (by decide +kernel) hw d_LogCleaner_packClosedSegments_95 (fun h9 H locs hw hP hS => ?_)
      refine W.widen (k := 1) (n := 2) (Nat.le_of_ble_eq_true rfl) (Nat.le_of_ble_eq_true rfl) ?_
      exact xretV C0 hw hP hS d_LogCleaner_packClosedSegments_98
    · replace hw := hw.2 cq
      refine lv_aload_n hx hb d_LogCleaner_packClosedSegments_74 rfl (lv_at hl 0 rfl) ?_
      refine xgetA hx hb htb i_LogCleaner hown hK hP (ci := 0) rfl 0 (by decide) (htb _ k_LogCleaner_11) (fun _ h9 => h9) hw d_LogCleaner_packClosedSegments_75 (fun r10 hw => ?_)
      refine lv_iload_n hx hb d_LogCleaner_packClosedSegments_78 rfl (lv_at hl 1 rfl) ?_
      obtain ⟨p11, hpe, hw⟩ := hw
      revert hw
      revert hl
      subst hpe
      intro hl hw
      replace hl : lv_has ls 4 [(0, .ref x0), (2, .int x2), (3, .int x3)] := hl
      refine xldq hx hb hK hP 1 rfl hw d_LogCleaner_packClosedSegments_79 (fun r12 hw => ?_)
      refine lv_iload_n hx hb d_LogCleaner_packClosedSegments_80 rfl (lv_at hl 2 rfl) ?_
      obtain ⟨p13, hpe, hw⟩ := hw
      revert hw
      revert hl
      subst hpe
      intro hl hw
      replace hl : lv_has ls 4 [(0, .ref x0), (2, .int x2), (3, .int x3)] := hl
      refine xputI hx hb htb i_Batch t_Batch t_Batch_ok n_Batch hown hK hP hS (ci := 1) rfl (fun _ => rfl) 4 (by decide) (htb _ k_LogCleaner_85) (fun _ h9 => h9) rfl (by decide +kernel) hw d_LogCleaner_packClosedSegments_81 (fun h14 H locs hw hP hS => ?_)
      refine lv_iinc (v := x2 + 1) (lv' := [(2, .int (x2 + 1)), (0, .ref x0), (3, .int x3)]) hx hb d_LogCleaner_packClosedSegments_84 hl (k := 1) rfl rfl (by decide) rfl (fun ls hl => ?_)
      refine lv_goto (tgt := 66) hx hb d_LogCleaner_packClosedSegments_87 (by decide) ?_
      exact hk66 x0 (x2 + 1) x3 h14 _ _ _ hw hP hS (lv_sub hl [1, 0, 2] rfl)

set_option maxHeartbeats 4000000 in
set_option maxRecDepth 100000 in
theorem sb_LogCleaner_packClosedSegments_59 {p : Program} {l : Launch} {e : Env} {s : State} {m : MethodId} {args : Array Value} {below : List Frame} {meth : Method} {c : Code} {D : va_G} {d : Nat → ClassId} {A : Nat → Prop} {h0 : xw} {Q : xw → Prop} (C0 : xctx p s m args meth c b_LogCleaner_packClosedSegments 4 none R_LogCleaner D d A True) : ∀ (x0 : Nat) (x1 : Nat) (x2 : Int32) (h : xw) (H : Heap) (locs : List Loc) (ls : Array Slot), wb_LogCleaner_packClosedSegments_59 d Q x0 x1 x2 h → xR sgX h0 D A h H → va_S A s.heap H locs → lv_has ls 4 [(0, .ref x0), (1, .ref x1), (2, .int x2)] → W p l e rm_LogCleaner_packClosedSegments s m args below meth c H locs 1 2 (MQ below (va_Qv (fun u => Q u ∧ xfr sgX h0 u) (xB D d A) A) args s 1 2 A) (F0 m 59 ls []) := by
  obtain ⟨hx, hb, hr, hml, hown, htb, hK, hA, hNB, hlocks, hXT⟩ := id C0
  intro x0 x1 x2 h H locs ls hw hP hS hl
  refine lv_aload_n hx hb d_LogCleaner_packClosedSegments_59 rfl (lv_at hl 1 rfl) ?_
  refine xgetI hx hb htb i_Packing hown hK hP (ci := 3) rfl 0 (by decide) (htb _ k_LogCleaner_102) (fun _ h9 => h9) hw d_LogCleaner_packClosedSegments_60 (fun v5 hw => ?_)
  refine lv_iconst (v := 1) hx hb d_LogCleaner_packClosedSegments_63 (by decide) ?_
  refine lv_iadd hx hb d_LogCleaner_packClosedSegments_64 ?_
  refine lv_istore_n (lv' := [(3, .int (v5 + 1)), (0, .ref x0), (1, .ref x1), (2, .int x2)]) hx hb d_LogCleaner_packClosedSegments_65 rfl hl (by decide) rfl (fun ls hl => ?_)
  obtain ⟨n, hw⟩ := hw
  exact sl_LogCleaner_packClosedSegments_66 C0 n (x0, x2, (v5 + 1)) h _ _ _ hw hP hS (lv_sub hl [1, 3, 0] rfl)

set_option maxHeartbeats 4000000 in
set_option maxRecDepth 100000 in
theorem sl_LogCleaner_packClosedSegments_10 {p : Program} {l : Launch} {e : Env} {s : State} {m : MethodId} {args : Array Value} {below : List Frame} {meth : Method} {c : Code} {D : va_G} {d : Nat → ClassId} {A : Nat → Prop} {h0 : xw} {Q : xw → Prop} (C0 : xctx p s m args meth c b_LogCleaner_packClosedSegments 4 none R_LogCleaner D d A True) : ∀ (n : Nat) (x : Nat × Nat × Int32) (h : xw) (H : Heap) (locs : List Loc) (ls : Array Slot), xloop (fun (k : Nat × Nat × Int32 → xw → Prop) (x : Nat × Nat × Int32) (h : xw) => wc_LogCleaner_packClosedSegments_10 d Q (fun y0 y1 y2 h => k (y0, y1, y2) h) x.1 x.2.1 x.2.2 h) n x h → xR sgX h0 D A h H → va_S A s.heap H locs → lv_has ls 4 [(0, .ref x.1), (1, .ref x.2.1), (2, .int x.2.2)] → W p l e rm_LogCleaner_packClosedSegments s m args below meth c H locs 1 2 (MQ below (va_Qv (fun u => Q u ∧ xfr sgX h0 u) (xB D d A) A) args s 1 2 A) (F0 m 10 ls []) := by
  obtain ⟨hx, hb, hr, hml, hown, htb, hK, hA, hNB, hlocks, hXT⟩ := id C0
  intro n
  induction n with
  | zero => intro x h H locs ls hw; exact hw.elim
  | succ n ih =>
    rintro ⟨x0, x1, x2⟩ h H locs ls hw hP hS hl
    replace hw : wc_LogCleaner_packClosedSegments_10 d Q (fun y0 y1 y2 h => xloop (fun (k : Nat × Nat × Int32 → xw → Prop) (x : Nat × Nat × Int32) (h : xw) => wc_LogCleaner_packClosedSegments_10 d Q (fun y0 y1 y2 h => k (y0, y1, y2) h) x.1 x.2.1 x.2.2 h) n (y0, y1, y2) h) x0 x1 x2 h := hw
    have hk10 := fun (x0 : Nat) (x1 : Nat) (x2 : Int32) => ih (x0, x1, x2)
    refine lv_iload_n hx hb d_LogCleaner_packClosedSegments_10 rfl (lv_at hl 2 rfl) ?_
    refine lv_aload_n hx hb d_LogCleaner_packClosedSegments_11 rfl (lv_at hl 0 rfl) ?_
    refine xgetI hx hb htb i_LogCleaner hown hK hP (ci := 0) rfl 1 (by decide) (htb _ k_LogCleaner_15) (fun _ h9 => h9) hw d_LogCleaner_packClosedSegments_12 (fun v4 hw => ?_)
    refine lv_icmp_ge (tgt := 59) hx hb d_LogCleaner_packClosedSegments_15 (by decide) (fun cq => ?_) (fun cq => ?_)
    · replace hw := hw.1 cq
      exact sb_LogCleaner_packClosedSegments_59 C0 x0 x1 x2 h _ _ _ hw hP hS (lv_sub hl [0, 1, 2] rfl)
    · replace hw := hw.2 cq
      refine lv_aload_n hx hb d_LogCleaner_packClosedSegments_18 rfl (lv_at hl 0 rfl) ?_
      refine lv_aload_n hx hb d_LogCleaner_packClosedSegments_19 rfl (lv_at hl 0 rfl) ?_
      refine xgetA hx hb htb i_LogCleaner hown hK hP (ci := 0) rfl 0 (by decide) (htb _ k_LogCleaner_11) (fun _ h9 => h9) hw d_LogCleaner_packClosedSegments_20 (fun r15 hw => ?_)
      refine lv_iload_n hx hb d_LogCleaner_packClosedSegments_23 rfl (lv_at hl 2 rfl) ?_
      obtain ⟨p16, hpe, hw⟩ := hw
      revert hw
      revert hl
      subst hpe
      intro hl hw
      replace hl : lv_has ls 4 [(0, .ref x0), (1, .ref x1), (2, .int x2)] := hl
      refine xldq hx hb hK hP 1 rfl hw d_LogCleaner_packClosedSegments_24 (fun r17 hw => ?_)
      obtain ⟨⟨_, hw0⟩, hw⟩ := hw
      refine xcalli (va_runV (b := x0) (As := [va_rf r17]) (rest := []) ⟨hx, hb, hml, hown, htb⟩ (m_LogCleaner_isClosed l D d h _ x0 r17 _ hw) (xcwV 1 htb g_code_LogCleaner_isClosed g_ini_LogCleaner k_LogCleaner_181 g_im_LogCleaner_isClosed g_sel_LogCleaner_isClosed rfl rfl (by decide +kernel) ⟨(Nat.le_of_ble_eq_true rfl), (Nat.le_of_ble_eq_true rfl)⟩) (xpreV hP hK hNB (ci := 0) rfl hw0) rfl rfl hl.1 rfl (lv_room (Nat.le_of_ble_eq_true rfl)) d_LogCleaner_packClosedSegments_25 ⟨(Nat.le_of_ble_eq_true rfl), (Nat.le_of_ble_eq_true rfl)⟩) hP hS hA (fun r19 h18 H locs hw hP hS => ?_)
      refine W.widen (k := 1) (n := 2) (Nat.le_of_ble_eq_true rfl) (Nat.le_of_ble_eq_true rfl) ?_
      refine lv_if_eq (tgt := 59) hx hb d_LogCleaner_packClosedSegments_28 (by decide) (fun cq => ?_) (fun cq => ?_)
      · replace hw := hw.1 cq
        exact sb_LogCleaner_packClosedSegments_59 C0 x0 x1 x2 h18 _ _ _ hw hP hS (lv_sub hl [0, 1, 2] rfl)
      · replace hw := hw.2 cq
        refine lv_aload_n hx hb d_LogCleaner_packClosedSegments_31 rfl (lv_at hl 0 rfl) ?_
        refine xgetA hx hb htb i_LogCleaner hown hK hP (ci := 0) rfl 0 (by decide) (htb _ k_LogCleaner_11) (fun _ h9 => h9) hw d_LogCleaner_packClosedSegments_32 (fun r20 hw => ?_)
        refine lv_iload_n hx hb d_LogCleaner_packClosedSegments_35 rfl (lv_at hl 2 rfl) ?_
        obtain ⟨p21, hpe, hw⟩ := hw
        revert hw
        revert hl
        subst hpe
        intro hl hw
        replace hl : lv_has ls 4 [(0, .ref x0), (1, .ref x1), (2, .int x2)] := hl
        refine xldq hx hb hK hP 1 rfl hw d_LogCleaner_packClosedSegments_36 (fun r22 hw => ?_)
        refine lv_aload_n hx hb d_LogCleaner_packClosedSegments_37 rfl (lv_at hl 1 rfl) ?_
        refine lv_aload_n hx hb d_LogCleaner_packClosedSegments_38 rfl (lv_at hl 0 rfl) ?_
        refine xgetA hx hb htb i_LogCleaner hown hK hP (ci := 0) rfl 0 (by decide) (htb _ k_LogCleaner_11) (fun _ h9 => h9) hw d_LogCleaner_packClosedSegments_39 (fun r23 hw => ?_)
        refine lv_iload_n hx hb d_LogCleaner_packClosedSegments_42 rfl (lv_at hl 2 rfl) ?_
        obtain ⟨p24, hpe, hw⟩ := hw
        revert hw
        revert hl
        subst hpe
        intro hl hw
        replace hl : lv_has ls 4 [(0, .ref x0), (1, .ref x1), (2, .int x2)] := hl
        refine xldq hx hb hK hP 1 rfl hw d_LogCleaner_packClosedSegments_43 (fun r25 hw => ?_)
        obtain ⟨p26, hpe, hw⟩ := hw
        revert hw
        revert hl
        subst hpe
        intro hl hw
        replace hl : lv_has ls 4 [(0, .ref x0), (1, .ref x1), (2, .int x2)] := hl
        obtain ⟨⟨_, hw0⟩, hw⟩ := hw
        refine xcalli (va_runV (b := p26) (As := []) (rest := [.ref x1, va_rf r22]) ⟨hx, hb, hml, hown, htb⟩ (m_Batch_sizeInBytes l D d h18 _ p26 _ hw) (xcwV 0 htb g_code_Batch_sizeInBytes g_ini_Batch k_LogCleaner_77 g_im_Batch_sizeInBytes g_sel_Batch_sizeInBytes rfl rfl (by decide +kernel) ⟨(Nat.le_of_ble_eq_true rfl), (Nat.le_of_ble_eq_true rfl)⟩) (xpreV hP hK hNB (ci := 1) rfl hw0) rfl rfl hl.1 rfl (lv_room (by cases r22 <;> exact (Nat.le_of_ble_eq_true rfl))) d_LogCleaner_packClosedSegments_44 ⟨(Nat.le_of_ble_eq_true rfl), (Nat.le_of_ble_eq_true rfl)⟩) hP hS hA (fun r28 h27 H locs hw hP hS => ?_)
        refine W.widen (k := 1) (n := 2) (Nat.le_of_ble_eq_true rfl) (Nat.le_of_ble_eq_true rfl) ?_
        obtain ⟨⟨_, hw0⟩, hw⟩ := hw
        refine xcalli (va_runV (b := x1) (As := [.int r28]) (rest := [va_rf r22]) ⟨hx, hb, hml, hown, htb⟩ (m_Packing_place l D d h27 _ x1 r28 _ hw) (xcwV 1 htb g_code_Packing_place g_ini_Packing k_LogCleaner_81 g_im_Packing_place g_sel_Packing_place rfl rfl (by decide +kernel) ⟨(Nat.le_of_ble_eq_true rfl), (Nat.le_of_ble_eq_true rfl)⟩) (xpreV hP hK hNB (ci := 3) rfl hw0) rfl rfl hl.1 rfl (lv_room (by cases r22 <;> exact (Nat.le_of_ble_eq_true rfl))) d_LogCleaner_packClosedSegments_47 ⟨(Nat.le_of_ble_eq_true rfl), (Nat.le_of_ble_eq_true rfl)⟩) hP hS hA (fun r30 h29 H locs hw hP hS => ?_)
        refine W.widen (k := 1) (n := 2) (Nat.le_of_ble_eq_true rfl) (Nat.le_of_ble_eq_true rfl) ?_
        obtain ⟨p31, hpe, hw⟩ := hw
        revert hw
        revert hl
        subst hpe
        intro hl hw
        replace hl : lv_has ls 4 [(0, .ref x0), (1, .ref x1), (2, .int x2)] := hl
        refine xputI hx hb htb i_Batch t_Batch t_Batch_ok n_Batch hown hK hP hS (ci := 1) rfl (fun _ => rfl) 4 (by decide) (htb _ k_LogCleaner_85) (fun _ h9 => h9) rfl (by decide +kernel) hw d_LogCleaner_packClosedSegments_50 (fun h32 H locs hw hP hS => ?_)
        refine lv_iinc (v := x2 + 1) (lv' := [(2, .int (x2 + 1)), (0, .ref x0), (1, .ref x1)]) hx hb d_LogCleaner_packClosedSegments_53 hl (k := 2) rfl rfl (by decide) rfl (fun ls hl => ?_)
        refine lv_goto (tgt := 10) hx hb d_LogCleaner_packClosedSegments_56 (by decide) ?_
        exact hk10 x0 x1 (x2 + 1) h32 _ _ _ hw hP hS (lv_sub hl [1, 2, 0] rfl)

set_option maxHeartbeats 4000000 in
set_option maxRecDepth 100000 in
theorem m_LogCleaner_packClosedSegments (l : Launch) (D : va_G) (d : Nat → ClassId) (h : xw) (sz : Nat) (a0 : Nat) (Q : xw → Prop) (hw : wp_LogCleaner_packClosedSegments d h a0 Q) : Met l y_LogCleaner_packClosedSegments ws_LogCleaner_packClosedSegments rm_LogCleaner_packClosedSegments (xPre D d h [.ref a0] sz) (va_Qv (fun u => Q u ∧ xfr sgX h u) (xB D d (xA h sz)) (xA h sz)) 1 2 (xA h sz) := by
  refine Met.ofW (cc := b_LogCleaner_packClosedSegments) (maxL := 4) (ret := none) (by decide) rfl ?_
  intro p e s m args below meth c s₁ B hml hv
  obtain ⟨rfl, hsz, hP0, hK, hNB⟩ := hv
  have hts := atoms_spec (ws := ws_LogCleaner_packClosedSegments) B.pre
  have htb := fun w (hw9 : w ∈ TB) => hts w (List.mem_cons_of_mem _ hw9)
  have hown : s.vm.findClass R_LogCleaner = some m.cls := findClass_of_methodNamed B.named
  subst hsz
  obtain ⟨A, hAe⟩ : ∃ A, A = xA h s.heap.size := ⟨_, rfl⟩
  rw [← hAe]
  have hP : xR sgX h D A h s.heap := ⟨by rw [hAe]; exact hP0.self, xfr.rf⟩
  have hA : ∀ q, s.heap.size ≤ q → A q := fun q hq => by rw [hAe]; exact Or.inr hq
  have hS : va_S A s.heap s.heap [] := va_S.rf
  have C0 : xctx p s m ([.ref a0] : List Value).toArray meth c b_LogCleaner_packClosedSegments 4 none R_LogCleaner D d A True := ⟨B.exec, B.bytes, B.returns, hml, hown, htb, hK, hA, hNB, B.notSynchronized, trivial⟩
  obtain ⟨hx, hb, hr, -, -, -, -, -, -, hlocks, hXT⟩ := id C0
  have hl := lv_entry ([.ref a0] : List Value) (n := 4) (Nat.le_of_ble_eq_true rfl)
  rw [lg_entry_eq]
  generalize (lg_sl ([.ref a0] : List Value) ++ List.replicate (4 - (lg_sl ([.ref a0] : List Value)).length) Slot.unset).toArray = ls at hl ⊢
  have hl : lv_has ls 4 [(0, .ref a0)] := hl
  refine xnew (ci := 3) (fs := z_Packing) hx hb htb i_Packing t_Packing t_Packing_ok hown (htb _ k_LogCleaner_25c) (htb _ g_inst_Packing) (htb _ g_ini_Packing) hK hP hS hA rfl z_Packing_ok (Nat.le_of_ble_eq_true rfl) (Nat.le_of_ble_eq_true rfl) hw d_LogCleaner_packClosedSegments_0 (fun q2 h1 H hw hP hS => ?_)
  refine W.widen (k := 1) (n := 2) (Nat.le_of_ble_eq_true rfl) (Nat.le_of_ble_eq_true rfl) ?_
  refine lv_dup hx hb d_LogCleaner_packClosedSegments_3 rfl ?_
  refine xcallv (va_runIN (b := q2) (As := []) (rest := [.ref q2]) ⟨hx, hb, hml, hown, htb⟩ (m_Packing_init l D d h1 _ q2 _ hw) (xcwIN 0 htb g_code_Packing_init g_ini_Packing (hNB.1 _ nb_0) g_im_Packing_init rfl rfl rfl (by decide +kernel) ⟨(Nat.le_of_ble_eq_true rfl), (Nat.le_of_ble_eq_true rfl)⟩) (xpreI hP hK hNB) rfl rfl hl.1 rfl (lv_room (Nat.le_of_ble_eq_true rfl)) d_LogCleaner_packClosedSegments_4 ⟨(Nat.le_of_ble_eq_true rfl), (Nat.le_of_ble_eq_true rfl)⟩) hP hS hA (fun h3 H locs hw hP hS => ?_)
  refine W.widen (k := 1) (n := 2) (Nat.le_of_ble_eq_true rfl) (Nat.le_of_ble_eq_true rfl) ?_
  refine lv_astore_n (lv' := [(1, .ref q2), (0, .ref a0)]) hx hb d_LogCleaner_packClosedSegments_7 rfl hl (by decide) rfl (fun ls hl => ?_)
  refine lv_iconst (v := 0) hx hb d_LogCleaner_packClosedSegments_8 (by decide) ?_
  refine lv_istore_n (lv' := [(2, .int 0), (1, .ref q2), (0, .ref a0)]) hx hb d_LogCleaner_packClosedSegments_9 rfl hl (by decide) rfl (fun ls hl => ?_)
  obtain ⟨n, hw⟩ := hw
  exact sl_LogCleaner_packClosedSegments_10 C0 n (a0, q2, 0) h3 _ _ _ hw hP hS (lv_sub hl [2, 1, 0] rfl)

theorem d_LogCleaner_clean_0 : decode b_LogCleaner_clean 0 = .ok (.iload_n 1, 1) := by decide +kernel
theorem d_LogCleaner_clean_1 : decode b_LogCleaner_clean 1 = .ok (.ifCond .ge 13, 3) := by decide +kernel
theorem d_LogCleaner_clean_4 : decode b_LogCleaner_clean 4 = .ok (.new 41, 3) := by decide +kernel
theorem d_LogCleaner_clean_7 : decode b_LogCleaner_clean 7 = .ok (.dup, 1) := by decide +kernel
theorem d_LogCleaner_clean_8 : decode b_LogCleaner_clean 8 = .ok (.ldc 48, 2) := by decide +kernel
theorem d_LogCleaner_clean_10 : decode b_LogCleaner_clean 10 = .ok (.invokespecial 45, 3) := by decide +kernel
theorem d_LogCleaner_clean_13 : decode b_LogCleaner_clean 13 = .ok (.athrow, 1) := by decide +kernel
theorem d_LogCleaner_clean_14 : decode b_LogCleaner_clean 14 = .ok (.aload_n 0, 1) := by decide +kernel
theorem d_LogCleaner_clean_15 : decode b_LogCleaner_clean 15 = .ok (.iload_n 1, 1) := by decide +kernel
theorem d_LogCleaner_clean_16 : decode b_LogCleaner_clean 16 = .ok (.sipush 1000, 3) := by decide +kernel
theorem d_LogCleaner_clean_19 : decode b_LogCleaner_clean 19 = .ok (.isub, 1) := by decide +kernel
theorem d_LogCleaner_clean_20 : decode b_LogCleaner_clean 20 = .ok (.invokevirtual 91, 3) := by decide +kernel
theorem d_LogCleaner_clean_23 : decode b_LogCleaner_clean 23 = .ok (.istore_n 2, 1) := by decide +kernel
theorem d_LogCleaner_clean_24 : decode b_LogCleaner_clean 24 = .ok (.aload_n 0, 1) := by decide +kernel
theorem d_LogCleaner_clean_25 : decode b_LogCleaner_clean 25 = .ok (.invokevirtual 94, 3) := by decide +kernel
theorem d_LogCleaner_clean_28 : decode b_LogCleaner_clean 28 = .ok (.istore_n 3, 1) := by decide +kernel
theorem d_LogCleaner_clean_29 : decode b_LogCleaner_clean 29 = .ok (.iload_n 2, 1) := by decide +kernel
theorem d_LogCleaner_clean_30 : decode b_LogCleaner_clean 30 = .ok (.ifCond .gt 7, 3) := by decide +kernel
theorem d_LogCleaner_clean_33 : decode b_LogCleaner_clean 33 = .ok (.iload_n 3, 1) := by decide +kernel
theorem d_LogCleaner_clean_34 : decode b_LogCleaner_clean 34 = .ok (.ifCond .le 7, 3) := by decide +kernel
theorem d_LogCleaner_clean_37 : decode b_LogCleaner_clean 37 = .ok (.aload_n 0, 1) := by decide +kernel
theorem d_LogCleaner_clean_38 : decode b_LogCleaner_clean 38 = .ok (.invokevirtual 97, 3) := by decide +kernel
theorem d_LogCleaner_clean_41 : decode b_LogCleaner_clean 41 = .ok (.iload_n 2, 1) := by decide +kernel
theorem d_LogCleaner_clean_42 : decode b_LogCleaner_clean 42 = .ok (.ireturn, 1) := by decide +kernel
def rm_LogCleaner_clean : Room := { frames := 6, cells := 1, slots := 6, locals := 89 }
def ws_LogCleaner_clean : List Cond := Cond.code y_LogCleaner_clean b_LogCleaner_clean 4 (some .int) :: TB
set_option maxHeartbeats 4000000 in
set_option maxRecDepth 100000 in
theorem sb_LogCleaner_clean_41 {p : Program} {l : Launch} {e : Env} {s : State} {m : MethodId} {args : Array Value} {below : List Frame} {meth : Method} {c : Code} {D : va_G} {d : Nat → ClassId} {A : Nat → Prop} {h0 : xw} {Q : Int32 → xw → Prop} {X : String → xw → Prop} (C0 : xctx p s m args meth c b_LogCleaner_clean 4 (some .int) R_LogCleaner D d A (xT l s c A)) : ∀ (x2 : Int32) (h : xw) (H : Heap) (locs : List Loc) (ls : Array Slot), wb_LogCleaner_clean_41 d Q X x2 h → xR sgX h0 D A h H → va_S A s.heap H locs → lv_has ls 4 [(2, .int x2)] → W p l e rm_LogCleaner_clean s m args below meth c H locs 1 2 (vx_MQ below (va_Qi (fun r u => Q r u ∧ xfr sgX h0 u) (xB D d A) A) (xX (fun E u => X E u ∧ xfr sgX h0 u) D d A) args s 1 6 A) (F0 m 41 ls []) := by
  obtain ⟨hx, hb, hr, hml, hown, htb, hK, hA, hNB, hlocks, hXT⟩ := id C0
  intro x2 h H locs ls hw hP hS hl
  refine lv_iload_n hx hb d_LogCleaner_clean_41 rfl (lv_at hl 0 rfl) ?_
  refine vx_ret ?_
  refine W.widen (k := 1) (n := 6) (Nat.le_of_ble_eq_true rfl) (Nat.le_of_ble_eq_true rfl) ?_
  exact xretI C0 hw hP hS d_LogCleaner_clean_42

set_option maxHeartbeats 4000000 in
set_option maxRecDepth 100000 in
theorem sb_LogCleaner_clean_37 {p : Program} {l : Launch} {e : Env} {s : State} {m : MethodId} {args : Array Value} {below : List Frame} {meth : Method} {c : Code} {D : va_G} {d : Nat → ClassId} {A : Nat → Prop} {h0 : xw} {Q : Int32 → xw → Prop} {X : String → xw → Prop} (C0 : xctx p s m args meth c b_LogCleaner_clean 4 (some .int) R_LogCleaner D d A (xT l s c A)) : ∀ (x0 : Nat) (x2 : Int32) (h : xw) (H : Heap) (locs : List Loc) (ls : Array Slot), wb_LogCleaner_clean_37 d Q X x0 x2 h → xR sgX h0 D A h H → va_S A s.heap H locs → lv_has ls 4 [(0, .ref x0), (2, .int x2)] → W p l e rm_LogCleaner_clean s m args below meth c H locs 0 0 (vx_MQ below (va_Qi (fun r u => Q r u ∧ xfr sgX h0 u) (xB D d A) A) (xX (fun E u => X E u ∧ xfr sgX h0 u) D d A) args s 1 6 A) (F0 m 37 ls []) := by
  obtain ⟨hx, hb, hr, hml, hown, htb, hK, hA, hNB, hlocks, hXT⟩ := id C0
  intro x0 x2 h H locs ls hw hP hS hl
  refine lv_aload_n hx hb d_LogCleaner_clean_37 rfl (lv_at hl 0 rfl) ?_
  obtain ⟨⟨_, hw0⟩, hw⟩ := hw
  refine xcallv (va_runV (b := x0) (As := []) (rest := []) ⟨hx, hb, hml, hown, htb⟩ (m_LogCleaner_packClosedSegments l D d h _ x0 _ hw) (xcwV 0 htb g_code_LogCleaner_packClosedSegments g_ini_LogCleaner k_LogCleaner_97 g_im_LogCleaner_packClosedSegments g_sel_LogCleaner_packClosedSegments rfl rfl (by decide +kernel) ⟨(Nat.le_of_ble_eq_true rfl), (Nat.le_of_ble_eq_true rfl)⟩) (xpreV hP hK hNB (ci := 0) rfl hw0) rfl rfl hl.1 rfl (lv_room (Nat.le_of_ble_eq_true rfl)) d_LogCleaner_clean_38 ⟨(Nat.le_of_ble_eq_true rfl), (Nat.le_of_ble_eq_true rfl)⟩) hP hS hA (fun h5 H locs hw hP hS => ?_)
  refine W.widen (k := 1) (n := 2) (Nat.le_of_ble_eq_true rfl) (Nat.le_of_ble_eq_true rfl) ?_
  exact sb_LogCleaner_clean_41 C0 x2 h5 _ _ _ hw hP hS (lv_sub hl [1] rfl)

set_option maxHeartbeats 4000000 in
set_option maxRecDepth 100000 in
theorem m_LogCleaner_clean (l : Launch) (hlt : l.stackTraces = false) (D : va_G) (d : Nat → ClassId) (h : xw) (sz : Nat) (a0 : Nat) (a1 : Int32) (Q : Int32 → xw → Prop) (X : String → xw → Prop) (hw : wp_LogCleaner_clean d h a0 a1 Q X) : vx_Met l y_LogCleaner_clean ws_LogCleaner_clean rm_LogCleaner_clean (xPreX D d h [.ref a0, .int a1] sz) (va_Qi (fun r u => Q r u ∧ xfr sgX h u) (xB D d (xA h sz)) (xA h sz)) (xX (fun E u => X E u ∧ xfr sgX h u) D d (xA h sz)) 1 6 (xA h sz) := by
  refine vx_ofW (cc := b_LogCleaner_clean) (maxL := 4) (ret := (some .int)) (by decide) rfl ?_
  intro p e s m args below meth c s₁ B hml htab hv
  obtain ⟨rfl, hsz, hP0, hK, hNB, hZ1, hZ2, hSt⟩ := hv
  have hts := atoms_spec (ws := ws_LogCleaner_clean) B.pre
  have htb := fun w (hw9 : w ∈ TB) => hts w (List.mem_cons_of_mem _ hw9)
  have hown : s.vm.findClass R_LogCleaner = some m.cls := findClass_of_methodNamed B.named
  subst hsz
  obtain ⟨A, hAe⟩ : ∃ A, A = xA h s.heap.size := ⟨_, rfl⟩
  rw [← hAe] at hZ1 hZ2 ⊢
  have hP : xR sgX h D A h s.heap := ⟨by rw [hAe]; exact hP0.self, xfr.rf⟩
  have hA : ∀ q, s.heap.size ≤ q → A q := fun q hq => by rw [hAe]; exact Or.inr hq
  have hS : va_S A s.heap s.heap [] := va_S.rf
  have C0 : xctx p s m ([.ref a0, .int a1] : List Value).toArray meth c b_LogCleaner_clean 4 (some .int) R_LogCleaner D d A (xT l s c A) := ⟨B.exec, B.bytes, B.returns, hml, hown, htb, hK, hA, hNB, B.notSynchronized, ⟨hlt, hZ1, hZ2, hSt, htab⟩⟩
  obtain ⟨hx, hb, hr, -, -, -, -, -, -, hlocks, hXT⟩ := id C0
  have hl := lv_entry ([.ref a0, .int a1] : List Value) (n := 4) (Nat.le_of_ble_eq_true rfl)
  rw [lg_entry_eq]
  generalize (lg_sl ([.ref a0, .int a1] : List Value) ++ List.replicate (4 - (lg_sl ([.ref a0, .int a1] : List Value)).length) Slot.unset).toArray = ls at hl ⊢
  have hl : lv_has ls 4 [(0, .ref a0), (1, .int a1)] := hl
  refine lv_iload_n hx hb d_LogCleaner_clean_0 rfl (lv_at hl 1 rfl) ?_
  refine lv_if_ge (tgt := 14) hx hb d_LogCleaner_clean_1 (by decide) (fun cq => ?_) (fun cq => ?_)
  · replace hw := hw.1 cq
    refine lv_aload_n hx hb d_LogCleaner_clean_14 rfl (lv_at hl 0 rfl) ?_
    refine lv_iload_n hx hb d_LogCleaner_clean_15 rfl (lv_at hl 1 rfl) ?_
    refine lv_sipush (v := 1000) hx hb d_LogCleaner_clean_16 (by decide) ?_
    refine lv_isub hx hb d_LogCleaner_clean_19 ?_
    obtain ⟨⟨_, hw0⟩, hw⟩ := hw
    refine xcalli (va_runV (b := a0) (As := [.int (a1 - 1000)]) (rest := []) ⟨hx, hb, hml, hown, htb⟩ (m_LogCleaner_removeGoneRecords l D d h _ a0 (a1 - 1000) _ hw) (xcwV 1 htb g_code_LogCleaner_removeGoneRecords g_ini_LogCleaner k_LogCleaner_91 g_im_LogCleaner_removeGoneRecords g_sel_LogCleaner_removeGoneRecords rfl rfl (by decide +kernel) ⟨(Nat.le_of_ble_eq_true rfl), (Nat.le_of_ble_eq_true rfl)⟩) (xpreV hP hK hNB (ci := 0) rfl hw0) rfl rfl hl.1 rfl (lv_room (Nat.le_of_ble_eq_true rfl)) d_LogCleaner_clean_20 ⟨(Nat.le_of_ble_eq_true rfl), (Nat.le_of_ble_eq_true rfl)⟩) hP hS hA (fun r2 h1 H locs hw hP hS => ?_)
    refine W.widen (k := 0) (n := 0) (Nat.le_of_ble_eq_true rfl) (Nat.le_of_ble_eq_true rfl) ?_
    refine lv_istore_n (lv' := [(2, .int r2), (0, .ref a0), (1, .int a1)]) hx hb d_LogCleaner_clean_23 rfl hl (by decide) rfl (fun ls hl => ?_)
    refine lv_aload_n hx hb d_LogCleaner_clean_24 rfl (lv_at hl 1 rfl) ?_
    obtain ⟨⟨_, hw0⟩, hw⟩ := hw
    refine xcalli (va_runV (b := a0) (As := []) (rest := []) ⟨hx, hb, hml, hown, htb⟩ (m_LogCleaner_removeEmptiedBatches l D d h1 _ a0 _ hw) (xcwV 0 htb g_code_LogCleaner_removeEmptiedBatches g_ini_LogCleaner k_LogCleaner_94 g_im_LogCleaner_removeEmptiedBatches g_sel_LogCleaner_removeEmptiedBatches rfl rfl (by decide +kernel) ⟨(Nat.le_of_ble_eq_true rfl), (Nat.le_of_ble_eq_true rfl)⟩) (xpreV hP hK hNB (ci := 0) rfl hw0) rfl rfl hl.1 rfl (lv_room (Nat.le_of_ble_eq_true rfl)) d_LogCleaner_clean_25 ⟨(Nat.le_of_ble_eq_true rfl), (Nat.le_of_ble_eq_true rfl)⟩) hP hS hA (fun r4 h3 H locs hw hP hS => ?_)
    refine W.widen (k := 0) (n := 0) (Nat.le_of_ble_eq_true rfl) (Nat.le_of_ble_eq_true rfl) ?_
    refine lv_istore_n (lv' := [(3, .int r4), (2, .int r2), (0, .ref a0), (1, .int a1)]) hx hb d_LogCleaner_clean_28 rfl hl (by decide) rfl (fun ls hl => ?_)
    refine lv_iload_n hx hb d_LogCleaner_clean_29 rfl (lv_at hl 1 rfl) ?_
    refine lv_if_gt (tgt := 37) hx hb d_LogCleaner_clean_30 (by decide) (fun cq => ?_) (fun cq => ?_)
    · replace hw := hw.1 cq
      exact sb_LogCleaner_clean_37 C0 a0 r2 h3 _ _ _ hw hP hS (lv_sub hl [2, 1] rfl)
    · replace hw := hw.2 cq
      refine lv_iload_n hx hb d_LogCleaner_clean_33 rfl (lv_at hl 0 rfl) ?_
      refine lv_if_le (tgt := 41) hx hb d_LogCleaner_clean_34 (by decide) (fun cq => ?_) (fun cq => ?_)
      · replace hw := hw.1 cq
        refine W.widen (k := 1) (n := 2) (Nat.le_of_ble_eq_true rfl) (Nat.le_of_ble_eq_true rfl) ?_
        exact sb_LogCleaner_clean_41 C0 r2 h3 _ _ _ hw hP hS (lv_sub hl [1] rfl)
      · replace hw := hw.2 cq
        exact sb_LogCleaner_clean_37 C0 a0 r2 h3 _ _ _ hw hP hS (lv_sub hl [2, 1] rfl)
  · replace hw := hw.2 cq
    exact xthrow C0 (cls := "java/lang/IllegalArgumentException") (text := "time is below 0") (names := ["java/lang/RuntimeException", "java/lang/Exception"]) (ik := 41) (is := 48) (ic := 45) (by decide) (by decide) k_LogCleaner_41c g_ini_java_lang_IllegalArgumentException (by decide) at_LogCleaner_45 at_LogCleaner_45_ok (by decide) (by decide) hw hP hS hl d_LogCleaner_clean_4 d_LogCleaner_clean_7 d_LogCleaner_clean_8 d_LogCleaner_clean_10 d_LogCleaner_clean_13 (Nat.le_of_ble_eq_true rfl) (Nat.le_of_ble_eq_true rfl) (Nat.le_of_ble_eq_true rfl) (Nat.le_of_ble_eq_true rfl) (Nat.le_of_ble_eq_true rfl) (Nat.le_of_ble_eq_true rfl)

theorem d_LogCleaner_removeFirstSegments_0 : decode b_LogCleaner_removeFirstSegments 0 = .ok (.iconst 0, 1) := by decide +kernel
theorem d_LogCleaner_removeFirstSegments_1 : decode b_LogCleaner_removeFirstSegments 1 = .ok (.istore_n 2, 1) := by decide +kernel
theorem d_LogCleaner_removeFirstSegments_2 : decode b_LogCleaner_removeFirstSegments 2 = .ok (.iconst 0, 1) := by decide +kernel
theorem d_LogCleaner_removeFirstSegments_3 : decode b_LogCleaner_removeFirstSegments 3 = .ok (.istore_n 3, 1) := by decide +kernel
theorem d_LogCleaner_removeFirstSegments_4 : decode b_LogCleaner_removeFirstSegments 4 = .ok (.iconst 0, 1) := by decide +kernel
theorem d_LogCleaner_removeFirstSegments_5 : decode b_LogCleaner_removeFirstSegments 5 = .ok (.istore 4, 2) := by decide +kernel
theorem d_LogCleaner_removeFirstSegments_7 : decode b_LogCleaner_removeFirstSegments 7 = .ok (.iload 4, 2) := by decide +kernel
theorem d_LogCleaner_removeFirstSegments_9 : decode b_LogCleaner_removeFirstSegments 9 = .ok (.aload_n 0, 1) := by decide +kernel
theorem d_LogCleaner_removeFirstSegments_10 : decode b_LogCleaner_removeFirstSegments 10 = .ok (.getfield 15, 3) := by decide +kernel
theorem d_LogCleaner_removeFirstSegments_13 : decode b_LogCleaner_removeFirstSegments 13 = .ok (.if_icmp .ge 60, 3) := by decide +kernel
theorem d_LogCleaner_removeFirstSegments_16 : decode b_LogCleaner_removeFirstSegments 16 = .ok (.aload_n 0, 1) := by decide +kernel
theorem d_LogCleaner_removeFirstSegments_17 : decode b_LogCleaner_removeFirstSegments 17 = .ok (.getfield 11, 3) := by decide +kernel
theorem d_LogCleaner_removeFirstSegments_20 : decode b_LogCleaner_removeFirstSegments 20 = .ok (.iload 4, 2) := by decide +kernel
theorem d_LogCleaner_removeFirstSegments_22 : decode b_LogCleaner_removeFirstSegments 22 = .ok (.aaload, 1) := by decide +kernel
theorem d_LogCleaner_removeFirstSegments_23 : decode b_LogCleaner_removeFirstSegments 23 = .ok (.astore 5, 2) := by decide +kernel
theorem d_LogCleaner_removeFirstSegments_25 : decode b_LogCleaner_removeFirstSegments 25 = .ok (.aload 5, 2) := by decide +kernel
theorem d_LogCleaner_removeFirstSegments_27 : decode b_LogCleaner_removeFirstSegments 27 = .ok (.getfield 85, 3) := by decide +kernel
theorem d_LogCleaner_removeFirstSegments_30 : decode b_LogCleaner_removeFirstSegments 30 = .ok (.iload_n 1, 1) := by decide +kernel
theorem d_LogCleaner_removeFirstSegments_31 : decode b_LogCleaner_removeFirstSegments 31 = .ok (.if_icmp .ge 14, 3) := by decide +kernel
theorem d_LogCleaner_removeFirstSegments_34 : decode b_LogCleaner_removeFirstSegments 34 = .ok (.iload_n 2, 1) := by decide +kernel
theorem d_LogCleaner_removeFirstSegments_35 : decode b_LogCleaner_removeFirstSegments 35 = .ok (.aload 5, 2) := by decide +kernel
theorem d_LogCleaner_removeFirstSegments_37 : decode b_LogCleaner_removeFirstSegments 37 = .ok (.getfield 121, 3) := by decide +kernel
theorem d_LogCleaner_removeFirstSegments_40 : decode b_LogCleaner_removeFirstSegments 40 = .ok (.iadd, 1) := by decide +kernel
theorem d_LogCleaner_removeFirstSegments_41 : decode b_LogCleaner_removeFirstSegments 41 = .ok (.istore_n 2, 1) := by decide +kernel
theorem d_LogCleaner_removeFirstSegments_42 : decode b_LogCleaner_removeFirstSegments 42 = .ok (.goto 25, 3) := by decide +kernel
theorem d_LogCleaner_removeFirstSegments_45 : decode b_LogCleaner_removeFirstSegments 45 = .ok (.aload 5, 2) := by decide +kernel
theorem d_LogCleaner_removeFirstSegments_47 : decode b_LogCleaner_removeFirstSegments 47 = .ok (.dup, 1) := by decide +kernel
theorem d_LogCleaner_removeFirstSegments_48 : decode b_LogCleaner_removeFirstSegments 48 = .ok (.getfield 85, 3) := by decide +kernel
theorem d_LogCleaner_removeFirstSegments_51 : decode b_LogCleaner_removeFirstSegments 51 = .ok (.iload_n 1, 1) := by decide +kernel
theorem d_LogCleaner_removeFirstSegments_52 : decode b_LogCleaner_removeFirstSegments 52 = .ok (.isub, 1) := by decide +kernel
theorem d_LogCleaner_removeFirstSegments_53 : decode b_LogCleaner_removeFirstSegments 53 = .ok (.putfield 85, 3) := by decide +kernel
theorem d_LogCleaner_removeFirstSegments_56 : decode b_LogCleaner_removeFirstSegments 56 = .ok (.aload_n 0, 1) := by decide +kernel
theorem d_LogCleaner_removeFirstSegments_57 : decode b_LogCleaner_removeFirstSegments 57 = .ok (.getfield 11, 3) := by decide +kernel
theorem d_LogCleaner_removeFirstSegments_60 : decode b_LogCleaner_removeFirstSegments 60 = .ok (.iload_n 3, 1) := by decide +kernel
theorem d_LogCleaner_removeFirstSegments_61 : decode b_LogCleaner_removeFirstSegments 61 = .ok (.aload 5, 2) := by decide +kernel
theorem d_LogCleaner_removeFirstSegments_63 : decode b_LogCleaner_removeFirstSegments 63 = .ok (.aastore, 1) := by decide +kernel
theorem d_LogCleaner_removeFirstSegments_64 : decode b_LogCleaner_removeFirstSegments 64 = .ok (.iinc 3 1, 3) := by decide +kernel
theorem d_LogCleaner_removeFirstSegments_67 : decode b_LogCleaner_removeFirstSegments 67 = .ok (.iinc 4 1, 3) := by decide +kernel
theorem d_LogCleaner_removeFirstSegments_70 : decode b_LogCleaner_removeFirstSegments 70 = .ok (.goto (-63), 3) := by decide +kernel
theorem d_LogCleaner_removeFirstSegments_73 : decode b_LogCleaner_removeFirstSegments 73 = .ok (.aload_n 0, 1) := by decide +kernel
theorem d_LogCleaner_removeFirstSegments_74 : decode b_LogCleaner_removeFirstSegments 74 = .ok (.iload_n 3, 1) := by decide +kernel
theorem d_LogCleaner_removeFirstSegments_75 : decode b_LogCleaner_removeFirstSegments 75 = .ok (.invokevirtual 188, 3) := by decide +kernel
theorem d_LogCleaner_removeFirstSegments_78 : decode b_LogCleaner_removeFirstSegments 78 = .ok (.aload_n 0, 1) := by decide +kernel
theorem d_LogCleaner_removeFirstSegments_79 : decode b_LogCleaner_removeFirstSegments 79 = .ok (.getfield 28, 3) := by decide +kernel
theorem d_LogCleaner_removeFirstSegments_82 : decode b_LogCleaner_removeFirstSegments 82 = .ok (.dup, 1) := by decide +kernel
theorem d_LogCleaner_removeFirstSegments_83 : decode b_LogCleaner_removeFirstSegments 83 = .ok (.getfield 102, 3) := by decide +kernel
theorem d_LogCleaner_removeFirstSegments_86 : decode b_LogCleaner_removeFirstSegments 86 = .ok (.iload_n 1, 1) := by decide +kernel
theorem d_LogCleaner_removeFirstSegments_87 : decode b_LogCleaner_removeFirstSegments 87 = .ok (.isub, 1) := by decide +kernel
theorem d_LogCleaner_removeFirstSegments_88 : decode b_LogCleaner_removeFirstSegments 88 = .ok (.putfield 102, 3) := by decide +kernel
theorem d_LogCleaner_removeFirstSegments_91 : decode b_LogCleaner_removeFirstSegments 91 = .ok (.aload_n 0, 1) := by decide +kernel
theorem d_LogCleaner_removeFirstSegments_92 : decode b_LogCleaner_removeFirstSegments 92 = .ok (.dup, 1) := by decide +kernel
theorem d_LogCleaner_removeFirstSegments_93 : decode b_LogCleaner_removeFirstSegments 93 = .ok (.getfield 19, 3) := by decide +kernel
theorem d_LogCleaner_removeFirstSegments_96 : decode b_LogCleaner_removeFirstSegments 96 = .ok (.iload_n 2, 1) := by decide +kernel
theorem d_LogCleaner_removeFirstSegments_97 : decode b_LogCleaner_removeFirstSegments 97 = .ok (.isub, 1) := by decide +kernel
theorem d_LogCleaner_removeFirstSegments_98 : decode b_LogCleaner_removeFirstSegments 98 = .ok (.putfield 19, 3) := by decide +kernel
theorem d_LogCleaner_removeFirstSegments_101 : decode b_LogCleaner_removeFirstSegments 101 = .ok (.iload_n 2, 1) := by decide +kernel
theorem d_LogCleaner_removeFirstSegments_102 : decode b_LogCleaner_removeFirstSegments 102 = .ok (.ireturn, 1) := by decide +kernel
def rm_LogCleaner_removeFirstSegments : Room := { frames := 1, cells := 0, slots := 0, locals := 22 }
def ws_LogCleaner_removeFirstSegments : List Cond := Cond.code y_LogCleaner_removeFirstSegments b_LogCleaner_removeFirstSegments 6 (some .int) :: TB
set_option maxHeartbeats 4000000 in
set_option maxRecDepth 100000 in
theorem sb_LogCleaner_removeFirstSegments_67 {p : Program} {l : Launch} {e : Env} {s : State} {m : MethodId} {args : Array Value} {below : List Frame} {meth : Method} {c : Code} {D : va_G} {d : Nat → ClassId} {A : Nat → Prop} {h0 : xw} {Q : Int32 → xw → Prop} {k7 : Nat → Int32 → Int32 → Int32 → Int32 → xw → Prop} (C0 : xctx p s m args meth c b_LogCleaner_removeFirstSegments 6 (some .int) R_LogCleaner D d A True) (hk7 : ∀ (x0 : Nat) (x1 : Int32) (x2 : Int32) (x3 : Int32) (x4 : Int32) (h : xw) (H : Heap) (locs : List Loc) (ls : Array Slot), k7 x0 x1 x2 x3 x4 h → xR sgX h0 D A h H → va_S A s.heap H locs → lv_has ls 6 [(0, .ref x0), (1, .int x1), (2, .int x2), (3, .int x3), (4, .int x4)] → W p l e rm_LogCleaner_removeFirstSegments s m args below meth c H locs 0 0 (MQ below (va_Qi (fun r u => Q r u ∧ xfr sgX h0 u) (xB D d A) A) args s 0 0 A) (F0 m 7 ls [])) : ∀ (x0 : Nat) (x1 : Int32) (x2 : Int32) (x3 : Int32) (x4 : Int32) (h : xw) (H : Heap) (locs : List Loc) (ls : Array Slot), wb_LogCleaner_removeFirstSegments_67 d k7 Q x0 x1 x2 x3 x4 h → xR sgX h0 D A h H → va_S A s.heap H locs → lv_has ls 6 [(0, .ref x0), (1, .int x1), (2, .int x2), (3, .int x3), (4, .int x4)] → W p l e rm_LogCleaner_removeFirstSegments s m args below meth c H locs 0 0 (MQ below (va_Qi (fun r u => Q r u ∧ xfr sgX h0 u) (xB D d A) A) args s 0 0 A) (F0 m 67 ls []) := by
  obtain ⟨hx, hb, hr, hml, hown, htb, hK, hA, hNB, hlocks, hXT⟩ := id C0
  intro x0 x1 x2 x3 x4 h H locs ls hw hP hS hl
  refine lv_iinc (v := x4 + 1) (lv' := [(4, .int (x4 + 1)), (0, .ref x0), (1, .int x1), (2, .int x2), (3, .int x3)]) hx hb d_LogCleaner_removeFirstSegments_67 hl (k := 4) rfl rfl (by decide) rfl (fun ls hl => ?_)
  refine lv_goto (tgt := 7) hx hb d_LogCleaner_removeFirstSegments_70 (by decide) ?_
  exact hk7 x0 x1 x2 x3 (x4 + 1) h _ _ _ hw hP hS (lv_sub hl [1, 2, 3, 4, 0] rfl)

set_option maxHeartbeats 4000000 in
set_option maxRecDepth 100000 in
theorem sl_LogCleaner_removeFirstSegments_7 {p : Program} {l : Launch} {e : Env} {s : State} {m : MethodId} {args : Array Value} {below : List Frame} {meth : Method} {c : Code} {D : va_G} {d : Nat → ClassId} {A : Nat → Prop} {h0 : xw} {Q : Int32 → xw → Prop} (C0 : xctx p s m args meth c b_LogCleaner_removeFirstSegments 6 (some .int) R_LogCleaner D d A True) : ∀ (n : Nat) (x : Nat × Int32 × Int32 × Int32 × Int32) (h : xw) (H : Heap) (locs : List Loc) (ls : Array Slot), xloop (fun (k : Nat × Int32 × Int32 × Int32 × Int32 → xw → Prop) (x : Nat × Int32 × Int32 × Int32 × Int32) (h : xw) => wc_LogCleaner_removeFirstSegments_7 d Q (fun y0 y1 y2 y3 y4 h => k (y0, y1, y2, y3, y4) h) x.1 x.2.1 x.2.2.1 x.2.2.2.1 x.2.2.2.2 h) n x h → xR sgX h0 D A h H → va_S A s.heap H locs → lv_has ls 6 [(0, .ref x.1), (1, .int x.2.1), (2, .int x.2.2.1), (3, .int x.2.2.2.1), (4, .int x.2.2.2.2)] → W p l e rm_LogCleaner_removeFirstSegments s m args below meth c H locs 0 0 (MQ below (va_Qi (fun r u => Q r u ∧ xfr sgX h0 u) (xB D d A) A) args s 0 0 A) (F0 m 7 ls []) := by
  obtain ⟨hx, hb, hr, hml, hown, htb, hK, hA, hNB, hlocks, hXT⟩ := id C0
  intro n
  induction n with
  | zero => intro x h H locs ls hw; exact hw.elim
  | succ n ih =>
    rintro ⟨x0, x1, x2, x3, x4⟩ h H locs ls hw hP hS hl
    replace hw : wc_LogCleaner_removeFirstSegments_7 d Q (fun y0 y1 y2 y3 y4 h => xloop (fun (k : Nat × Int32 × Int32 × Int32 × Int32 → xw → Prop) (x : Nat × Int32 × Int32 × Int32 × Int32) (h : xw) => wc_LogCleaner_removeFirstSegments_7 d Q (fun y0 y1 y2 y3 y4 h => k (y0, y1, y2, y3, y4) h) x.1 x.2.1 x.2.2.1 x.2.2.2.1 x.2.2.2.2 h) n (y0, y1, y2, y3, y4) h) x0 x1 x2 x3 x4 h := hw
    have hk7 := fun (x0 : Nat) (x1 : Int32) (x2 : Int32) (x3 : Int32) (x4 : Int32) => ih (x0, x1, x2, x3, x4)
    refine lv_iload hx hb d_LogCleaner_removeFirstSegments_7 (lv_at hl 4 rfl) ?_
    refine lv_aload_n hx hb d_LogCleaner_removeFirstSegments_9 rfl (lv_at hl 0 rfl) ?_
    refine xgetI hx hb htb i_LogCleaner hown hK hP (ci := 0) rfl 1 (by decide) (htb _ k_LogCleaner_15) (fun _ h9 => h9) hw d_LogCleaner_removeFirstSegments_10 (fun v1 hw => ?_)
    refine lv_icmp_ge (tgt := 73) hx hb d_LogCleaner_removeFirstSegments_13 (by decide) (fun cq => ?_) (fun cq => ?_)
    · replace hw := hw.1 cq
      refine lv_aload_n hx hb d_LogCleaner_removeFirstSegments_73 rfl (lv_at hl 0 rfl) ?_
      refine lv_iload_n hx hb d_LogCleaner_removeFirstSegments_74 rfl (lv_at hl 3 rfl) ?_
      obtain ⟨⟨_, hw0⟩, hw⟩ := hw
      refine xcallv (va_runV (b := x0) (As := [.int x3]) (rest := []) ⟨hx, hb, hml, hown, htb⟩ (m_LogCleaner_keepFirstBatches l D d h _ x0 x3 _ hw) (xcwV 1 htb g_code_LogCleaner_keepFirstBatches g_ini_LogCleaner k_LogCleaner_188 g_im_LogCleaner_keepFirstBatches g_sel_LogCleaner_keepFirstBatches rfl rfl (by decide +kernel) ⟨(Nat.le_of_ble_eq_true rfl), (Nat.le_of_ble_eq_true rfl)⟩) (xpreV hP hK hNB (ci := 0) rfl hw0) rfl rfl hl.1 rfl (lv_room (Nat.le_of_ble_eq_true rfl)) d_LogCleaner_removeFirstSegments_75 ⟨(Nat.le_of_ble_eq_true rfl), (Nat.le_of_ble_eq_true rfl)⟩) hP hS hA (fun h2 H locs hw hP hS => ?_)
      refine W.widen (k := 0) (n := 0) (Nat.le_of_ble_eq_true rfl) (Nat.le_of_ble_eq_true rfl) ?_
      refine lv_aload_n hx hb d_LogCleaner_removeFirstSegments_78 rfl (lv_at hl 0 rfl) ?_
      refine xgetA hx hb htb i_LogCleaner hown hK hP (ci := 0) rfl 4 (by decide) (htb _ k_LogCleaner_28) (fun _ h9 => h9) hw d_LogCleaner_removeFirstSegments_79 (fun r3 hw => ?_)
      refine lv_dup hx hb d_LogCleaner_removeFirstSegments_82 (xcat _) ?_
      obtain ⟨p4, hpe, hw⟩ := hw
      revert hw
      revert hl
      subst hpe
      intro hl hw
      replace hl : lv_has ls 6 [(0, .ref x0), (1, .int x1), (2, .int x2), (3, .int x3), (4, .int x4)] := hl
      refine xgetI hx hb htb i_Packing hown hK hP (ci := 3) rfl 0 (by decide) (htb _ k_LogCleaner_102) (fun _ h9 => h9) hw d_LogCleaner_removeFirstSegments_83 (fun v5 hw => ?_)
      refine lv_iload_n hx hb d_LogCleaner_removeFirstSegments_86 rfl (lv_at hl 1 rfl) ?_
      refine lv_isub hx hb d_LogCleaner_removeFirstSegments_87 ?_
      refine xputI hx hb htb i_Packing t_Packing t_Packing_ok n_Packing hown hK hP hS (ci := 3) rfl (fun _ => rfl) 0 (by decide) (htb _ k_LogCleaner_102) (fun _ h9 => h9) rfl (by decide +kernel) hw d_LogCleaner_removeFirstSegments_88 (fun h6 H locs hw hP hS => ?_)
      refine lv_aload_n hx hb d_LogCleaner_removeFirstSegments_91 rfl (lv_at hl 0 rfl) ?_
      refine lv_dup hx hb d_LogCleaner_removeFirstSegments_92 rfl ?_
      refine xgetI hx hb htb i_LogCleaner hown hK hP (ci := 0) rfl 2 (by decide) (htb _ k_LogCleaner_19) (fun _ h9 => h9) hw d_LogCleaner_removeFirstSegments_93 (fun v7 hw => ?_)
      refine lv_iload_n hx hb d_LogCleaner_removeFirstSegments_96 rfl (lv_at hl 2 rfl) ?_
      refine lv_isub hx hb d_LogCleaner_removeFirstSegments_97 ?_
      refine xputI hx hb htb i_LogCleaner t_LogCleaner t_LogCleaner_ok n_LogCleaner hown hK hP hS (ci := 0) rfl (fun _ => rfl) 2 (by decide) (htb _ k_LogCleaner_19) (fun _ h9 => h9) rfl (by decide +kernel) hw d_LogCleaner_removeFirstSegments_98 (fun h8 H locs hw hP hS => ?_)
      refine lv_iload_n hx hb d_LogCleaner_removeFirstSegments_101 rfl (lv_at hl 2 rfl) ?_
      refine W.widen (k := 0) (n := 0) (Nat.le_of_ble_eq_true rfl) (Nat.le_of_ble_eq_true rfl) ?_
      exact xretI C0 hw hP hS d_LogCleaner_removeFirstSegments_102
    · replace hw := hw.2 cq
      refine lv_aload_n hx hb d_LogCleaner_removeFirstSegments_16 rfl (lv_at hl 0 rfl) ?_
      refine xgetA hx hb htb i_LogCleaner hown hK hP (ci := 0) rfl 0 (by decide) (htb _ k_LogCleaner_11) (fun _ h9 => h9) hw d_LogCleaner_removeFirstSegments_17 (fun r9 hw => ?_)
      refine lv_iload hx hb d_LogCleaner_removeFirstSegments_20 (lv_at hl 4 rfl) ?_
      obtain ⟨p10, hpe, hw⟩ := hw
      revert hw
      revert hl
      subst hpe
      intro hl hw
      replace hl : lv_has ls 6 [(0, .ref x0), (1, .int x1), (2, .int x2), (3, .int x3), (4, .int x4)] := hl
      refine xldq hx hb hK hP 1 rfl hw d_LogCleaner_removeFirstSegments_22 (fun r11 hw => ?_)
      refine xv_astore (lv' := [(5, va_rf r11), (0, .ref x0), (1, .int x1), (2, .int x2), (3, .int x3), (4, .int x4)]) hx hb d_LogCleaner_removeFirstSegments_23 hl (by decide) rfl (fun ls hl => ?_)
      refine xv_aload hx hb d_LogCleaner_removeFirstSegments_25 (lv_at hl 0 rfl) ?_
      obtain ⟨p12, hpe, hw⟩ := hw
      revert hw
      revert hl
      subst hpe
      intro hl hw
      replace hl : lv_has ls 6 [(5, .ref p12), (0, .ref x0), (1, .int x1), (2, .int x2), (3, .int x3), (4, .int x4)] := hl
      refine xgetI hx hb htb i_Batch hown hK hP (ci := 1) rfl 4 (by decide) (htb _ k_LogCleaner_85) (fun _ h9 => h9) hw d_LogCleaner_removeFirstSegments_27 (fun v13 hw => ?_)
      refine lv_iload_n hx hb d_LogCleaner_removeFirstSegments_30 rfl (lv_at hl 2 rfl) ?_
      refine lv_icmp_ge (tgt := 45) hx hb d_LogCleaner_removeFirstSegments_31 (by decide) (fun cq => ?_) (fun cq => ?_)
      · replace hw := hw.1 cq
        refine lv_aload hx hb d_LogCleaner_removeFirstSegments_45 (lv_at hl 0 rfl) ?_
        refine lv_dup hx hb d_LogCleaner_removeFirstSegments_47 rfl ?_
        refine xgetI hx hb htb i_Batch hown hK hP (ci := 1) rfl 4 (by decide) (htb _ k_LogCleaner_85) (fun _ h9 => h9) hw d_LogCleaner_removeFirstSegments_48 (fun v14 hw => ?_)
        refine lv_iload_n hx hb d_LogCleaner_removeFirstSegments_51 rfl (lv_at hl 2 rfl) ?_
        refine lv_isub hx hb d_LogCleaner_removeFirstSegments_52 ?_
        refine xputI hx hb htb i_Batch t_Batch t_Batch_ok n_Batch hown hK hP hS (ci := 1) rfl (fun _ => rfl) 4 (by decide) (htb _ k_LogCleaner_85) (fun _ h9 => h9) rfl (by decide +kernel) hw d_LogCleaner_removeFirstSegments_53 (fun h15 H locs hw hP hS => ?_)
        refine lv_aload_n hx hb d_LogCleaner_removeFirstSegments_56 rfl (lv_at hl 1 rfl) ?_
        refine xgetA hx hb htb i_LogCleaner hown hK hP (ci := 0) rfl 0 (by decide) (htb _ k_LogCleaner_11) (fun _ h9 => h9) hw d_LogCleaner_removeFirstSegments_57 (fun r16 hw => ?_)
        refine lv_iload_n hx hb d_LogCleaner_removeFirstSegments_60 rfl (lv_at hl 4 rfl) ?_
        refine lv_aload hx hb d_LogCleaner_removeFirstSegments_61 (lv_at hl 0 rfl) ?_
        obtain ⟨p17, hpe, hw⟩ := hw
        revert hw
        revert hl
        subst hpe
        intro hl hw
        replace hl : lv_has ls 6 [(5, .ref p12), (0, .ref x0), (1, .int x1), (2, .int x2), (3, .int x3), (4, .int x4)] := hl
        refine xstq hx hb hK hP hS 1 rfl (ci := 1) rfl (fun _ _ => rfl) hw d_LogCleaner_removeFirstSegments_63 (fun h18 H locs hw hP hS => ?_)
        refine lv_iinc (v := x3 + 1) (lv' := [(3, .int (x3 + 1)), (5, .ref p12), (0, .ref x0), (1, .int x1), (2, .int x2), (4, .int x4)]) hx hb d_LogCleaner_removeFirstSegments_64 hl (k := 4) rfl rfl (by decide) rfl (fun ls hl => ?_)
        exact sb_LogCleaner_removeFirstSegments_67 C0 hk7 x0 x1 x2 (x3 + 1) x4 h18 _ _ _ hw hP hS (lv_sub hl [2, 3, 4, 0, 5] rfl)
      · replace hw := hw.2 cq
        refine lv_iload_n hx hb d_LogCleaner_removeFirstSegments_34 rfl (lv_at hl 3 rfl) ?_
        refine lv_aload hx hb d_LogCleaner_removeFirstSegments_35 (lv_at hl 0 rfl) ?_
        refine xgetI hx hb htb i_Batch hown hK hP (ci := 1) rfl 3 (by decide) (htb _ k_LogCleaner_121) (fun _ h9 => h9) hw d_LogCleaner_removeFirstSegments_37 (fun v19 hw => ?_)
        refine lv_iadd hx hb d_LogCleaner_removeFirstSegments_40 ?_
        refine lv_istore_n (lv' := [(2, .int (x2 + v19)), (5, .ref p12), (0, .ref x0), (1, .int x1), (3, .int x3), (4, .int x4)]) hx hb d_LogCleaner_removeFirstSegments_41 rfl hl (by decide) rfl (fun ls hl => ?_)
        refine lv_goto (tgt := 67) hx hb d_LogCleaner_removeFirstSegments_42 (by decide) ?_
        exact sb_LogCleaner_removeFirstSegments_67 C0 hk7 x0 x1 (x2 + v19) x3 x4 h _ _ _ hw hP hS (lv_sub hl [2, 3, 0, 4, 5] rfl)

set_option maxHeartbeats 4000000 in
set_option maxRecDepth 100000 in
theorem m_LogCleaner_removeFirstSegments (l : Launch) (D : va_G) (d : Nat → ClassId) (h : xw) (sz : Nat) (a0 : Nat) (a1 : Int32) (Q : Int32 → xw → Prop) (hw : wp_LogCleaner_removeFirstSegments d h a0 a1 Q) : Met l y_LogCleaner_removeFirstSegments ws_LogCleaner_removeFirstSegments rm_LogCleaner_removeFirstSegments (xPre D d h [.ref a0, .int a1] sz) (va_Qi (fun r u => Q r u ∧ xfr sgX h u) (xB D d (xA h sz)) (xA h sz)) 0 0 (xA h sz) := by
  refine Met.ofW (cc := b_LogCleaner_removeFirstSegments) (maxL := 6) (ret := (some .int)) (by decide) rfl ?_
  intro p e s m args below meth c s₁ B hml hv
  obtain ⟨rfl, hsz, hP0, hK, hNB⟩ := hv
  have hts := atoms_spec (ws := ws_LogCleaner_removeFirstSegments) B.pre
  have htb := fun w (hw9 : w ∈ TB) => hts w (List.mem_cons_of_mem _ hw9)
  have hown : s.vm.findClass R_LogCleaner = some m.cls := findClass_of_methodNamed B.named
  subst hsz
  obtain ⟨A, hAe⟩ : ∃ A, A = xA h s.heap.size := ⟨_, rfl⟩
  rw [← hAe]
  have hP : xR sgX h D A h s.heap := ⟨by rw [hAe]; exact hP0.self, xfr.rf⟩
  have hA : ∀ q, s.heap.size ≤ q → A q := fun q hq => by rw [hAe]; exact Or.inr hq
  have hS : va_S A s.heap s.heap [] := va_S.rf
  have C0 : xctx p s m ([.ref a0, .int a1] : List Value).toArray meth c b_LogCleaner_removeFirstSegments 6 (some .int) R_LogCleaner D d A True := ⟨B.exec, B.bytes, B.returns, hml, hown, htb, hK, hA, hNB, B.notSynchronized, trivial⟩
  obtain ⟨hx, hb, hr, -, -, -, -, -, -, hlocks, hXT⟩ := id C0
  have hl := lv_entry ([.ref a0, .int a1] : List Value) (n := 6) (Nat.le_of_ble_eq_true rfl)
  rw [lg_entry_eq]
  generalize (lg_sl ([.ref a0, .int a1] : List Value) ++ List.replicate (6 - (lg_sl ([.ref a0, .int a1] : List Value)).length) Slot.unset).toArray = ls at hl ⊢
  have hl : lv_has ls 6 [(0, .ref a0), (1, .int a1)] := hl
  refine lv_iconst (v := 0) hx hb d_LogCleaner_removeFirstSegments_0 (by decide) ?_
  refine lv_istore_n (lv' := [(2, .int 0), (0, .ref a0), (1, .int a1)]) hx hb d_LogCleaner_removeFirstSegments_1 rfl hl (by decide) rfl (fun ls hl => ?_)
  refine lv_iconst (v := 0) hx hb d_LogCleaner_removeFirstSegments_2 (by decide) ?_
  refine lv_istore_n (lv' := [(3, .int 0), (2, .int 0), (0, .ref a0), (1, .int a1)]) hx hb d_LogCleaner_removeFirstSegments_3 rfl hl (by decide) rfl (fun ls hl => ?_)
  refine lv_iconst (v := 0) hx hb d_LogCleaner_removeFirstSegments_4 (by decide) ?_
  refine lv_istore (lv' := [(4, .int 0), (3, .int 0), (2, .int 0), (0, .ref a0), (1, .int a1)]) hx hb d_LogCleaner_removeFirstSegments_5 hl (by decide) rfl (fun ls hl => ?_)
  obtain ⟨n, hw⟩ := hw
  exact sl_LogCleaner_removeFirstSegments_7 C0 n (a0, a1, 0, 0, 0) h _ _ _ hw hP hS (lv_sub hl [3, 4, 2, 1, 0] rfl)

theorem d_LogCleaner_drop_0 : decode b_LogCleaner_drop 0 = .ok (.iload_n 1, 1) := by decide +kernel
theorem d_LogCleaner_drop_1 : decode b_LogCleaner_drop 1 = .ok (.ifCond .lt 10, 3) := by decide +kernel
theorem d_LogCleaner_drop_4 : decode b_LogCleaner_drop 4 = .ok (.iload_n 1, 1) := by decide +kernel
theorem d_LogCleaner_drop_5 : decode b_LogCleaner_drop 5 = .ok (.sipush 400, 3) := by decide +kernel
theorem d_LogCleaner_drop_8 : decode b_LogCleaner_drop 8 = .ok (.if_icmp .le 13, 3) := by decide +kernel
theorem d_LogCleaner_drop_11 : decode b_LogCleaner_drop 11 = .ok (.new 41, 3) := by decide +kernel
theorem d_LogCleaner_drop_14 : decode b_LogCleaner_drop 14 = .ok (.dup, 1) := by decide +kernel
theorem d_LogCleaner_drop_15 : decode b_LogCleaner_drop 15 = .ok (.ldc 100, 2) := by decide +kernel
theorem d_LogCleaner_drop_17 : decode b_LogCleaner_drop 17 = .ok (.invokespecial 45, 3) := by decide +kernel
theorem d_LogCleaner_drop_20 : decode b_LogCleaner_drop 20 = .ok (.athrow, 1) := by decide +kernel
theorem d_LogCleaner_drop_21 : decode b_LogCleaner_drop 21 = .ok (.aload_n 0, 1) := by decide +kernel
theorem d_LogCleaner_drop_22 : decode b_LogCleaner_drop 22 = .ok (.getfield 28, 3) := by decide +kernel
theorem d_LogCleaner_drop_25 : decode b_LogCleaner_drop 25 = .ok (.getfield 102, 3) := by decide +kernel
theorem d_LogCleaner_drop_28 : decode b_LogCleaner_drop 28 = .ok (.iconst 0, 1) := by decide +kernel
theorem d_LogCleaner_drop_29 : decode b_LogCleaner_drop 29 = .ok (.invokestatic 105, 3) := by decide +kernel
theorem d_LogCleaner_drop_32 : decode b_LogCleaner_drop 32 = .ok (.istore_n 2, 1) := by decide +kernel
theorem d_LogCleaner_drop_33 : decode b_LogCleaner_drop 33 = .ok (.aload_n 0, 1) := by decide +kernel
theorem d_LogCleaner_drop_34 : decode b_LogCleaner_drop 34 = .ok (.iload_n 1, 1) := by decide +kernel
theorem d_LogCleaner_drop_35 : decode b_LogCleaner_drop 35 = .ok (.iload_n 2, 1) := by decide +kernel
theorem d_LogCleaner_drop_36 : decode b_LogCleaner_drop 36 = .ok (.invokestatic 111, 3) := by decide +kernel
theorem d_LogCleaner_drop_39 : decode b_LogCleaner_drop 39 = .ok (.invokevirtual 114, 3) := by decide +kernel
theorem d_LogCleaner_drop_42 : decode b_LogCleaner_drop 42 = .ok (.ireturn, 1) := by decide +kernel
def rm_LogCleaner_drop : Room := { frames := 6, cells := 1, slots := 6, locals := 82 }
def ws_LogCleaner_drop : List Cond := Cond.code y_LogCleaner_drop b_LogCleaner_drop 3 (some .int) :: TB
set_option maxHeartbeats 4000000 in
set_option maxRecDepth 100000 in
theorem sb_LogCleaner_drop_11 {p : Program} {l : Launch} {e : Env} {s : State} {m : MethodId} {args : Array Value} {below : List Frame} {meth : Method} {c : Code} {D : va_G} {d : Nat → ClassId} {A : Nat → Prop} {h0 : xw} {Q : Int32 → xw → Prop} {X : String → xw → Prop} (C0 : xctx p s m args meth c b_LogCleaner_drop 3 (some .int) R_LogCleaner D d A (xT l s c A)) : ∀ (h : xw) (H : Heap) (locs : List Loc) (ls : Array Slot), wb_LogCleaner_drop_11 d Q X  h → xR sgX h0 D A h H → va_S A s.heap H locs → lv_has ls 3 [] → W p l e rm_LogCleaner_drop s m args below meth c H locs 0 0 (vx_MQ below (va_Qi (fun r u => Q r u ∧ xfr sgX h0 u) (xB D d A) A) (xX (fun E u => X E u ∧ xfr sgX h0 u) D d A) args s 1 6 A) (F0 m 11 ls []) := by
  obtain ⟨hx, hb, hr, hml, hown, htb, hK, hA, hNB, hlocks, hXT⟩ := id C0
  intro  h H locs ls hw hP hS hl
  exact xthrow C0 (cls := "java/lang/IllegalArgumentException") (text := "n is not 0 .. 400") (names := ["java/lang/RuntimeException", "java/lang/Exception"]) (ik := 41) (is := 100) (ic := 45) (by decide) (by decide) k_LogCleaner_41c g_ini_java_lang_IllegalArgumentException (by decide) at_LogCleaner_45 at_LogCleaner_45_ok (by decide) (by decide) hw hP hS hl d_LogCleaner_drop_11 d_LogCleaner_drop_14 d_LogCleaner_drop_15 d_LogCleaner_drop_17 d_LogCleaner_drop_20 (Nat.le_of_ble_eq_true rfl) (Nat.le_of_ble_eq_true rfl) (Nat.le_of_ble_eq_true rfl) (Nat.le_of_ble_eq_true rfl) (Nat.le_of_ble_eq_true rfl) (Nat.le_of_ble_eq_true rfl)

set_option maxHeartbeats 4000000 in
set_option maxRecDepth 100000 in
theorem m_LogCleaner_drop (l : Launch) (hlt : l.stackTraces = false) (D : va_G) (d : Nat → ClassId) (h : xw) (sz : Nat) (a0 : Nat) (a1 : Int32) (Q : Int32 → xw → Prop) (X : String → xw → Prop) (hw : wp_LogCleaner_drop d h a0 a1 Q X) : vx_Met l y_LogCleaner_drop ws_LogCleaner_drop rm_LogCleaner_drop (xPreX D d h [.ref a0, .int a1] sz) (va_Qi (fun r u => Q r u ∧ xfr sgX h u) (xB D d (xA h sz)) (xA h sz)) (xX (fun E u => X E u ∧ xfr sgX h u) D d (xA h sz)) 1 6 (xA h sz) := by
  refine vx_ofW (cc := b_LogCleaner_drop) (maxL := 3) (ret := (some .int)) (by decide) rfl ?_
  intro p e s m args below meth c s₁ B hml htab hv
  obtain ⟨rfl, hsz, hP0, hK, hNB, hZ1, hZ2, hSt⟩ := hv
  have hts := atoms_spec (ws := ws_LogCleaner_drop) B.pre
  have htb := fun w (hw9 : w ∈ TB) => hts w (List.mem_cons_of_mem _ hw9)
  have hown : s.vm.findClass R_LogCleaner = some m.cls := findClass_of_methodNamed B.named
  subst hsz
  obtain ⟨A, hAe⟩ : ∃ A, A = xA h s.heap.size := ⟨_, rfl⟩
  rw [← hAe] at hZ1 hZ2 ⊢
  have hP : xR sgX h D A h s.heap := ⟨by rw [hAe]; exact hP0.self, xfr.rf⟩
  have hA : ∀ q, s.heap.size ≤ q → A q := fun q hq => by rw [hAe]; exact Or.inr hq
  have hS : va_S A s.heap s.heap [] := va_S.rf
  have C0 : xctx p s m ([.ref a0, .int a1] : List Value).toArray meth c b_LogCleaner_drop 3 (some .int) R_LogCleaner D d A (xT l s c A) := ⟨B.exec, B.bytes, B.returns, hml, hown, htb, hK, hA, hNB, B.notSynchronized, ⟨hlt, hZ1, hZ2, hSt, htab⟩⟩
  obtain ⟨hx, hb, hr, -, -, -, -, -, -, hlocks, hXT⟩ := id C0
  have hl := lv_entry ([.ref a0, .int a1] : List Value) (n := 3) (Nat.le_of_ble_eq_true rfl)
  rw [lg_entry_eq]
  generalize (lg_sl ([.ref a0, .int a1] : List Value) ++ List.replicate (3 - (lg_sl ([.ref a0, .int a1] : List Value)).length) Slot.unset).toArray = ls at hl ⊢
  have hl : lv_has ls 3 [(0, .ref a0), (1, .int a1)] := hl
  refine lv_iload_n hx hb d_LogCleaner_drop_0 rfl (lv_at hl 1 rfl) ?_
  refine lv_if_lt (tgt := 11) hx hb d_LogCleaner_drop_1 (by decide) (fun cq => ?_) (fun cq => ?_)
  · replace hw := hw.1 cq
    exact sb_LogCleaner_drop_11 C0  h _ _ _ hw hP hS (lv_sub hl [] rfl)
  · replace hw := hw.2 cq
    refine lv_iload_n hx hb d_LogCleaner_drop_4 rfl (lv_at hl 1 rfl) ?_
    refine lv_sipush (v := 400) hx hb d_LogCleaner_drop_5 (by decide) ?_
    refine lv_icmp_le (tgt := 21) hx hb d_LogCleaner_drop_8 (by decide) (fun cq => ?_) (fun cq => ?_)
    · replace hw := hw.1 cq
      refine lv_aload_n hx hb d_LogCleaner_drop_21 rfl (lv_at hl 0 rfl) ?_
      refine xgetA hx hb htb i_LogCleaner hown hK hP (ci := 0) rfl 4 (by decide) (htb _ k_LogCleaner_28) (fun _ h9 => h9) hw d_LogCleaner_drop_22 (fun r1 hw => ?_)
      obtain ⟨p2, hpe, hw⟩ := hw
      revert hw
      revert hl
      subst hpe
      intro hl hw
      replace hl : lv_has ls 3 [(0, .ref a0), (1, .int a1)] := hl
      refine xgetI hx hb htb i_Packing hown hK hP (ci := 3) rfl 0 (by decide) (htb _ k_LogCleaner_102) (fun _ h9 => h9) hw d_LogCleaner_drop_25 (fun v3 hw => ?_)
      refine lv_iconst (v := 0) hx hb d_LogCleaner_drop_28 (by decide) ?_
      refine va_mmax hx hb (hml.trans hl.1.symm) hown (htb _ k_LogCleaner_105) (htb _ g_st_Lib_Math_max_name) (htb _ g_ini_java_lang_Math) (htb _ g_code_mmax) (Nat.le_of_ble_eq_true rfl) (Nat.le_of_ble_eq_true rfl) (Nat.le_of_ble_eq_true rfl) (Nat.le_of_ble_eq_true rfl) d_LogCleaner_drop_29 ?_
      refine lv_istore_n (lv' := [(2, .int (if v3 < 0 then 0 else v3)), (0, .ref a0), (1, .int a1)]) hx hb d_LogCleaner_drop_32 rfl hl (by decide) rfl (fun ls hl => ?_)
      refine lv_aload_n hx hb d_LogCleaner_drop_33 rfl (lv_at hl 1 rfl) ?_
      refine lv_iload_n hx hb d_LogCleaner_drop_34 rfl (lv_at hl 2 rfl) ?_
      refine lv_iload_n hx hb d_LogCleaner_drop_35 rfl (lv_at hl 0 rfl) ?_
      refine va_mmin hx hb (hml.trans hl.1.symm) hown (htb _ k_LogCleaner_111) (htb _ g_st_Lib_Math_min_name) (htb _ g_ini_java_lang_Math) (htb _ g_code_mmin) (Nat.le_of_ble_eq_true rfl) (Nat.le_of_ble_eq_true rfl) (Nat.le_of_ble_eq_true rfl) (Nat.le_of_ble_eq_true rfl) d_LogCleaner_drop_36 ?_
      obtain ⟨⟨_, hw0⟩, hw⟩ := hw
      refine xcalli (va_runV (b := a0) (As := [.int (if (if v3 < 0 then 0 else v3) < a1 then (if v3 < 0 then 0 else v3) else a1)]) (rest := []) ⟨hx, hb, hml, hown, htb⟩ (m_LogCleaner_removeFirstSegments l D d h _ a0 (if (if v3 < 0 then 0 else v3) < a1 then (if v3 < 0 then 0 else v3) else a1) _ hw) (xcwV 1 htb g_code_LogCleaner_removeFirstSegments g_ini_LogCleaner k_LogCleaner_114 g_im_LogCleaner_removeFirstSegments g_sel_LogCleaner_removeFirstSegments rfl rfl (by decide +kernel) ⟨(Nat.le_of_ble_eq_true rfl), (Nat.le_of_ble_eq_true rfl)⟩) (xpreV hP hK hNB (ci := 0) rfl hw0) rfl rfl hl.1 rfl (lv_room (Nat.le_of_ble_eq_true rfl)) d_LogCleaner_drop_39 ⟨(Nat.le_of_ble_eq_true rfl), (Nat.le_of_ble_eq_true rfl)⟩) hP hS hA (fun r5 h4 H locs hw hP hS => ?_)
      refine W.widen (k := 0) (n := 0) (Nat.le_of_ble_eq_true rfl) (Nat.le_of_ble_eq_true rfl) ?_
      refine vx_ret ?_
      refine W.widen (k := 1) (n := 6) (Nat.le_of_ble_eq_true rfl) (Nat.le_of_ble_eq_true rfl) ?_
      exact xretI C0 hw hP hS d_LogCleaner_drop_42
    · replace hw := hw.2 cq
      exact sb_LogCleaner_drop_11 C0  h _ _ _ hw hP hS (lv_sub hl [] rfl)

theorem d_LogCleaner_count_0 : decode b_LogCleaner_count 0 = .ok (.iload_n 1, 1) := by decide +kernel
theorem d_LogCleaner_count_1 : decode b_LogCleaner_count 1 = .ok (.tableswitch 65 0 4 #[35, 40, 45, 55, 60], 35) := by decide +kernel
theorem d_LogCleaner_count_36 : decode b_LogCleaner_count 36 = .ok (.aload_n 0, 1) := by decide +kernel
theorem d_LogCleaner_count_37 : decode b_LogCleaner_count 37 = .ok (.getfield 19, 3) := by decide +kernel
theorem d_LogCleaner_count_40 : decode b_LogCleaner_count 40 = .ok (.ireturn, 1) := by decide +kernel
theorem d_LogCleaner_count_41 : decode b_LogCleaner_count 41 = .ok (.aload_n 0, 1) := by decide +kernel
theorem d_LogCleaner_count_42 : decode b_LogCleaner_count 42 = .ok (.getfield 15, 3) := by decide +kernel
theorem d_LogCleaner_count_45 : decode b_LogCleaner_count 45 = .ok (.ireturn, 1) := by decide +kernel
theorem d_LogCleaner_count_46 : decode b_LogCleaner_count 46 = .ok (.aload_n 0, 1) := by decide +kernel
theorem d_LogCleaner_count_47 : decode b_LogCleaner_count 47 = .ok (.getfield 28, 3) := by decide +kernel
theorem d_LogCleaner_count_50 : decode b_LogCleaner_count 50 = .ok (.getfield 102, 3) := by decide +kernel
theorem d_LogCleaner_count_53 : decode b_LogCleaner_count 53 = .ok (.iconst 1, 1) := by decide +kernel
theorem d_LogCleaner_count_54 : decode b_LogCleaner_count 54 = .ok (.iadd, 1) := by decide +kernel
theorem d_LogCleaner_count_55 : decode b_LogCleaner_count 55 = .ok (.ireturn, 1) := by decide +kernel
theorem d_LogCleaner_count_56 : decode b_LogCleaner_count 56 = .ok (.aload_n 0, 1) := by decide +kernel
theorem d_LogCleaner_count_57 : decode b_LogCleaner_count 57 = .ok (.getfield 38, 3) := by decide +kernel
theorem d_LogCleaner_count_60 : decode b_LogCleaner_count 60 = .ok (.ireturn, 1) := by decide +kernel
theorem d_LogCleaner_count_61 : decode b_LogCleaner_count 61 = .ok (.aload_n 0, 1) := by decide +kernel
theorem d_LogCleaner_count_62 : decode b_LogCleaner_count 62 = .ok (.getfield 22, 3) := by decide +kernel
theorem d_LogCleaner_count_65 : decode b_LogCleaner_count 65 = .ok (.ireturn, 1) := by decide +kernel
theorem d_LogCleaner_count_66 : decode b_LogCleaner_count 66 = .ok (.new 41, 3) := by decide +kernel
theorem d_LogCleaner_count_69 : decode b_LogCleaner_count 69 = .ok (.dup, 1) := by decide +kernel
theorem d_LogCleaner_count_70 : decode b_LogCleaner_count 70 = .ok (.ldc 117, 2) := by decide +kernel
theorem d_LogCleaner_count_72 : decode b_LogCleaner_count 72 = .ok (.invokespecial 45, 3) := by decide +kernel
theorem d_LogCleaner_count_75 : decode b_LogCleaner_count 75 = .ok (.athrow, 1) := by decide +kernel
def rm_LogCleaner_count : Room := { frames := 6, cells := 1, slots := 6, locals := 82 }
def ws_LogCleaner_count : List Cond := Cond.code y_LogCleaner_count b_LogCleaner_count 2 (some .int) :: TB
set_option maxHeartbeats 4000000 in
set_option maxRecDepth 100000 in
theorem m_LogCleaner_count (l : Launch) (hlt : l.stackTraces = false) (D : va_G) (d : Nat → ClassId) (h : xw) (sz : Nat) (a0 : Nat) (a1 : Int32) (Q : Int32 → xw → Prop) (X : String → xw → Prop) (hw : wp_LogCleaner_count d h a0 a1 Q X) : vx_Met l y_LogCleaner_count ws_LogCleaner_count rm_LogCleaner_count (xPreX D d h [.ref a0, .int a1] sz) (va_Qi (fun r u => Q r u ∧ xfr sgX h u) (xB D d (xA h sz)) (xA h sz)) (xX (fun E u => X E u ∧ xfr sgX h u) D d (xA h sz)) 1 6 (xA h sz) := by
  refine vx_ofW (cc := b_LogCleaner_count) (maxL := 2) (ret := (some .int)) (by decide) rfl ?_
  intro p e s m args below meth c s₁ B hml htab hv
  obtain ⟨rfl, hsz, hP0, hK, hNB, hZ1, hZ2, hSt⟩ := hv
  have hts := atoms_spec (ws := ws_LogCleaner_count) B.pre
  have htb := fun w (hw9 : w ∈ TB) => hts w (List.mem_cons_of_mem _ hw9)
  have hown : s.vm.findClass R_LogCleaner = some m.cls := findClass_of_methodNamed B.named
  subst hsz
  obtain ⟨A, hAe⟩ : ∃ A, A = xA h s.heap.size := ⟨_, rfl⟩
  rw [← hAe] at hZ1 hZ2 ⊢
  have hP : xR sgX h D A h s.heap := ⟨by rw [hAe]; exact hP0.self, xfr.rf⟩
  have hA : ∀ q, s.heap.size ≤ q → A q := fun q hq => by rw [hAe]; exact Or.inr hq
  have hS : va_S A s.heap s.heap [] := va_S.rf
  have C0 : xctx p s m ([.ref a0, .int a1] : List Value).toArray meth c b_LogCleaner_count 2 (some .int) R_LogCleaner D d A (xT l s c A) := ⟨B.exec, B.bytes, B.returns, hml, hown, htb, hK, hA, hNB, B.notSynchronized, ⟨hlt, hZ1, hZ2, hSt, htab⟩⟩
  obtain ⟨hx, hb, hr, -, -, -, -, -, -, hlocks, hXT⟩ := id C0
  have hl := lv_entry ([.ref a0, .int a1] : List Value) (n := 2) (Nat.le_of_ble_eq_true rfl)
  rw [lg_entry_eq]
  generalize (lg_sl ([.ref a0, .int a1] : List Value) ++ List.replicate (2 - (lg_sl ([.ref a0, .int a1] : List Value)).length) Slot.unset).toArray = ls at hl ⊢
  have hl : lv_has ls 2 [(0, .ref a0), (1, .int a1)] := hl
  refine lv_iload_n hx hb d_LogCleaner_count_0 rfl (lv_at hl 1 rfl) ?_
  by_cases cq : a1.toInt < 0 ∨ 4 < a1.toInt
  · replace hw := hw.2.2.2.2.2 cq
    refine lv_tableOut (tgt := 66) hx hb d_LogCleaner_count_1 cq (by decide) ?_
    exact xthrow C0 (cls := "java/lang/IllegalArgumentException") (text := "what is not 0 .. 4") (names := ["java/lang/RuntimeException", "java/lang/Exception"]) (ik := 41) (is := 117) (ic := 45) (by decide) (by decide) k_LogCleaner_41c g_ini_java_lang_IllegalArgumentException (by decide) at_LogCleaner_45 at_LogCleaner_45_ok (by decide) (by decide) hw hP hS hl d_LogCleaner_count_66 d_LogCleaner_count_69 d_LogCleaner_count_70 d_LogCleaner_count_72 d_LogCleaner_count_75 (Nat.le_of_ble_eq_true rfl) (Nat.le_of_ble_eq_true rfl) (Nat.le_of_ble_eq_true rfl) (Nat.le_of_ble_eq_true rfl) (Nat.le_of_ble_eq_true rfl) (Nat.le_of_ble_eq_true rfl)
  · have cz : a1 = 0 ∨ a1 = 1 ∨ a1 = 2 ∨ a1 = 3 ∨ a1 = 4 := by
      have cz : a1.toInt = 0 ∨ a1.toInt = 1 ∨ a1.toInt = 2 ∨ a1.toInt = 3 ∨ a1.toInt = 4 := by omega
      rcases cz with cz | cz | cz | cz | cz
      · exact Or.inl (xsw cz rfl)
      · exact Or.inr (Or.inl (xsw cz rfl))
      · exact Or.inr (Or.inr (Or.inl (xsw cz rfl)))
      · exact Or.inr (Or.inr (Or.inr (Or.inl (xsw cz rfl))))
      · exact Or.inr (Or.inr (Or.inr (Or.inr (xsw cz rfl))))
    rcases cz with cz | cz | cz | cz | cz
    · replace hw := hw.1 cz
      refine lv_tableIn (tgt := 36) hx hb d_LogCleaner_count_1 (by rw [cz]; decide) (by rw [cz]; decide) (by rw [cz]; rfl) (by decide) ?_
      refine lv_aload_n hx hb d_LogCleaner_count_36 rfl (lv_at hl 0 rfl) ?_
      refine xgetI hx hb htb i_LogCleaner hown hK hP (ci := 0) rfl 2 (by decide) (htb _ k_LogCleaner_19) (fun _ h9 => h9) hw d_LogCleaner_count_37 (fun v1 hw => ?_)
      refine vx_ret ?_
      refine W.widen (k := 1) (n := 6) (Nat.le_of_ble_eq_true rfl) (Nat.le_of_ble_eq_true rfl) ?_
      exact xretI C0 hw hP hS d_LogCleaner_count_40
    · replace hw := hw.2.1 cz
      refine lv_tableIn (tgt := 41) hx hb d_LogCleaner_count_1 (by rw [cz]; decide) (by rw [cz]; decide) (by rw [cz]; rfl) (by decide) ?_
      refine lv_aload_n hx hb d_LogCleaner_count_41 rfl (lv_at hl 0 rfl) ?_
      refine xgetI hx hb htb i_LogCleaner hown hK hP (ci := 0) rfl 1 (by decide) (htb _ k_LogCleaner_15) (fun _ h9 => h9) hw d_LogCleaner_count_42 (fun v2 hw => ?_)
      refine vx_ret ?_
      refine W.widen (k := 1) (n := 6) (Nat.le_of_ble_eq_true rfl) (Nat.le_of_ble_eq_true rfl) ?_
      exact xretI C0 hw hP hS d_LogCleaner_count_45
    · replace hw := hw.2.2.1 cz
      refine lv_tableIn (tgt := 46) hx hb d_LogCleaner_count_1 (by rw [cz]; decide) (by rw [cz]; decide) (by rw [cz]; rfl) (by decide) ?_
      refine lv_aload_n hx hb d_LogCleaner_count_46 rfl (lv_at hl 0 rfl) ?_
      refine xgetA hx hb htb i_LogCleaner hown hK hP (ci := 0) rfl 4 (by decide) (htb _ k_LogCleaner_28) (fun _ h9 => h9) hw d_LogCleaner_count_47 (fun r3 hw => ?_)
      obtain ⟨p4, hpe, hw⟩ := hw
      revert hw
      revert hl
      subst hpe
      intro hl hw
      replace hl : lv_has ls 2 [(0, .ref a0), (1, .int a1)] := hl
      refine xgetI hx hb htb i_Packing hown hK hP (ci := 3) rfl 0 (by decide) (htb _ k_LogCleaner_102) (fun _ h9 => h9) hw d_LogCleaner_count_50 (fun v5 hw => ?_)
      refine lv_iconst (v := 1) hx hb d_LogCleaner_count_53 (by decide) ?_
      refine lv_iadd hx hb d_LogCleaner_count_54 ?_
      refine vx_ret ?_
      refine W.widen (k := 1) (n := 6) (Nat.le_of_ble_eq_true rfl) (Nat.le_of_ble_eq_true rfl) ?_
      exact xretI C0 hw hP hS d_LogCleaner_count_55
    · replace hw := hw.2.2.2.1 cz
      refine lv_tableIn (tgt := 56) hx hb d_LogCleaner_count_1 (by rw [cz]; decide) (by rw [cz]; decide) (by rw [cz]; rfl) (by decide) ?_
      refine lv_aload_n hx hb d_LogCleaner_count_56 rfl (lv_at hl 0 rfl) ?_
      refine xgetI hx hb htb i_LogCleaner hown hK hP (ci := 0) rfl 6 (by decide) (htb _ k_LogCleaner_38) (fun _ h9 => h9) hw d_LogCleaner_count_57 (fun v6 hw => ?_)
      refine vx_ret ?_
      refine W.widen (k := 1) (n := 6) (Nat.le_of_ble_eq_true rfl) (Nat.le_of_ble_eq_true rfl) ?_
      exact xretI C0 hw hP hS d_LogCleaner_count_60
    · replace hw := hw.2.2.2.2.1 cz
      refine lv_tableIn (tgt := 61) hx hb d_LogCleaner_count_1 (by rw [cz]; decide) (by rw [cz]; decide) (by rw [cz]; rfl) (by decide) ?_
      refine lv_aload_n hx hb d_LogCleaner_count_61 rfl (lv_at hl 0 rfl) ?_
      refine xgetI hx hb htb i_LogCleaner hown hK hP (ci := 0) rfl 3 (by decide) (htb _ k_LogCleaner_22) (fun _ h9 => h9) hw d_LogCleaner_count_62 (fun v7 hw => ?_)
      refine vx_ret ?_
      refine W.widen (k := 1) (n := 6) (Nat.le_of_ble_eq_true rfl) (Nat.le_of_ble_eq_true rfl) ?_
      exact xretI C0 hw hP hS d_LogCleaner_count_65

theorem d_LogCleaner_batch_0 : decode b_LogCleaner_batch 0 = .ok (.iload_n 1, 1) := by decide +kernel
theorem d_LogCleaner_batch_1 : decode b_LogCleaner_batch 1 = .ok (.ifCond .lt 11, 3) := by decide +kernel
theorem d_LogCleaner_batch_4 : decode b_LogCleaner_batch 4 = .ok (.iload_n 1, 1) := by decide +kernel
theorem d_LogCleaner_batch_5 : decode b_LogCleaner_batch 5 = .ok (.aload_n 0, 1) := by decide +kernel
theorem d_LogCleaner_batch_6 : decode b_LogCleaner_batch 6 = .ok (.getfield 15, 3) := by decide +kernel
theorem d_LogCleaner_batch_9 : decode b_LogCleaner_batch 9 = .ok (.if_icmp .lt 13, 3) := by decide +kernel
theorem d_LogCleaner_batch_12 : decode b_LogCleaner_batch 12 = .ok (.new 41, 3) := by decide +kernel
theorem d_LogCleaner_batch_15 : decode b_LogCleaner_batch 15 = .ok (.dup, 1) := by decide +kernel
theorem d_LogCleaner_batch_16 : decode b_LogCleaner_batch 16 = .ok (.ldc 119, 2) := by decide +kernel
theorem d_LogCleaner_batch_18 : decode b_LogCleaner_batch 18 = .ok (.invokespecial 45, 3) := by decide +kernel
theorem d_LogCleaner_batch_21 : decode b_LogCleaner_batch 21 = .ok (.athrow, 1) := by decide +kernel
theorem d_LogCleaner_batch_22 : decode b_LogCleaner_batch 22 = .ok (.aload_n 0, 1) := by decide +kernel
theorem d_LogCleaner_batch_23 : decode b_LogCleaner_batch 23 = .ok (.getfield 11, 3) := by decide +kernel
theorem d_LogCleaner_batch_26 : decode b_LogCleaner_batch 26 = .ok (.iload_n 1, 1) := by decide +kernel
theorem d_LogCleaner_batch_27 : decode b_LogCleaner_batch 27 = .ok (.aaload, 1) := by decide +kernel
theorem d_LogCleaner_batch_28 : decode b_LogCleaner_batch 28 = .ok (.astore_n 3, 1) := by decide +kernel
theorem d_LogCleaner_batch_29 : decode b_LogCleaner_batch 29 = .ok (.iload_n 2, 1) := by decide +kernel
theorem d_LogCleaner_batch_30 : decode b_LogCleaner_batch 30 = .ok (.tableswitch 77 0 5 #[38, 43, 48, 53, 58, 63], 38) := by decide +kernel
theorem d_LogCleaner_batch_68 : decode b_LogCleaner_batch 68 = .ok (.aload_n 3, 1) := by decide +kernel
theorem d_LogCleaner_batch_69 : decode b_LogCleaner_batch 69 = .ok (.getfield 88, 3) := by decide +kernel
theorem d_LogCleaner_batch_72 : decode b_LogCleaner_batch 72 = .ok (.ireturn, 1) := by decide +kernel
theorem d_LogCleaner_batch_73 : decode b_LogCleaner_batch 73 = .ok (.aload_n 3, 1) := by decide +kernel
theorem d_LogCleaner_batch_74 : decode b_LogCleaner_batch 74 = .ok (.getfield 121, 3) := by decide +kernel
theorem d_LogCleaner_batch_77 : decode b_LogCleaner_batch 77 = .ok (.ireturn, 1) := by decide +kernel
theorem d_LogCleaner_batch_78 : decode b_LogCleaner_batch 78 = .ok (.aload_n 3, 1) := by decide +kernel
theorem d_LogCleaner_batch_79 : decode b_LogCleaner_batch 79 = .ok (.getfield 122, 3) := by decide +kernel
theorem d_LogCleaner_batch_82 : decode b_LogCleaner_batch 82 = .ok (.ireturn, 1) := by decide +kernel
theorem d_LogCleaner_batch_83 : decode b_LogCleaner_batch 83 = .ok (.aload_n 3, 1) := by decide +kernel
theorem d_LogCleaner_batch_84 : decode b_LogCleaner_batch 84 = .ok (.invokevirtual 77, 3) := by decide +kernel
theorem d_LogCleaner_batch_87 : decode b_LogCleaner_batch 87 = .ok (.ireturn, 1) := by decide +kernel
theorem d_LogCleaner_batch_88 : decode b_LogCleaner_batch 88 = .ok (.aload_n 3, 1) := by decide +kernel
theorem d_LogCleaner_batch_89 : decode b_LogCleaner_batch 89 = .ok (.getfield 85, 3) := by decide +kernel
theorem d_LogCleaner_batch_92 : decode b_LogCleaner_batch 92 = .ok (.ireturn, 1) := by decide +kernel
theorem d_LogCleaner_batch_93 : decode b_LogCleaner_batch 93 = .ok (.aload_n 0, 1) := by decide +kernel
theorem d_LogCleaner_batch_94 : decode b_LogCleaner_batch 94 = .ok (.iload_n 1, 1) := by decide +kernel
theorem d_LogCleaner_batch_95 : decode b_LogCleaner_batch 95 = .ok (.invokevirtual 125, 3) := by decide +kernel
theorem d_LogCleaner_batch_98 : decode b_LogCleaner_batch 98 = .ok (.ifCond .eq 7, 3) := by decide +kernel
theorem d_LogCleaner_batch_101 : decode b_LogCleaner_batch 101 = .ok (.iconst 1, 1) := by decide +kernel
theorem d_LogCleaner_batch_102 : decode b_LogCleaner_batch 102 = .ok (.goto 4, 3) := by decide +kernel
theorem d_LogCleaner_batch_105 : decode b_LogCleaner_batch 105 = .ok (.iconst 0, 1) := by decide +kernel
theorem d_LogCleaner_batch_106 : decode b_LogCleaner_batch 106 = .ok (.ireturn, 1) := by decide +kernel
theorem d_LogCleaner_batch_107 : decode b_LogCleaner_batch 107 = .ok (.new 41, 3) := by decide +kernel
theorem d_LogCleaner_batch_110 : decode b_LogCleaner_batch 110 = .ok (.dup, 1) := by decide +kernel
theorem d_LogCleaner_batch_111 : decode b_LogCleaner_batch 111 = .ok (.ldc 129, 2) := by decide +kernel
theorem d_LogCleaner_batch_113 : decode b_LogCleaner_batch 113 = .ok (.invokespecial 45, 3) := by decide +kernel
theorem d_LogCleaner_batch_116 : decode b_LogCleaner_batch 116 = .ok (.athrow, 1) := by decide +kernel
def rm_LogCleaner_batch : Room := { frames := 6, cells := 1, slots := 6, locals := 82 }
def ws_LogCleaner_batch : List Cond := Cond.code y_LogCleaner_batch b_LogCleaner_batch 4 (some .int) :: TB
set_option maxHeartbeats 4000000 in
set_option maxRecDepth 100000 in
theorem sb_LogCleaner_batch_12 {p : Program} {l : Launch} {e : Env} {s : State} {m : MethodId} {args : Array Value} {below : List Frame} {meth : Method} {c : Code} {D : va_G} {d : Nat → ClassId} {A : Nat → Prop} {h0 : xw} {Q : Int32 → xw → Prop} {X : String → xw → Prop} (C0 : xctx p s m args meth c b_LogCleaner_batch 4 (some .int) R_LogCleaner D d A (xT l s c A)) : ∀ (h : xw) (H : Heap) (locs : List Loc) (ls : Array Slot), wb_LogCleaner_batch_12 d Q X  h → xR sgX h0 D A h H → va_S A s.heap H locs → lv_has ls 4 [] → W p l e rm_LogCleaner_batch s m args below meth c H locs 0 0 (vx_MQ below (va_Qi (fun r u => Q r u ∧ xfr sgX h0 u) (xB D d A) A) (xX (fun E u => X E u ∧ xfr sgX h0 u) D d A) args s 1 6 A) (F0 m 12 ls []) := by
  obtain ⟨hx, hb, hr, hml, hown, htb, hK, hA, hNB, hlocks, hXT⟩ := id C0
  intro  h H locs ls hw hP hS hl
  exact xthrow C0 (cls := "java/lang/IllegalArgumentException") (text := "there is no such batch") (names := ["java/lang/RuntimeException", "java/lang/Exception"]) (ik := 41) (is := 119) (ic := 45) (by decide) (by decide) k_LogCleaner_41c g_ini_java_lang_IllegalArgumentException (by decide) at_LogCleaner_45 at_LogCleaner_45_ok (by decide) (by decide) hw hP hS hl d_LogCleaner_batch_12 d_LogCleaner_batch_15 d_LogCleaner_batch_16 d_LogCleaner_batch_18 d_LogCleaner_batch_21 (Nat.le_of_ble_eq_true rfl) (Nat.le_of_ble_eq_true rfl) (Nat.le_of_ble_eq_true rfl) (Nat.le_of_ble_eq_true rfl) (Nat.le_of_ble_eq_true rfl) (Nat.le_of_ble_eq_true rfl)

set_option maxHeartbeats 4000000 in
set_option maxRecDepth 100000 in
theorem sb_LogCleaner_batch_106 {p : Program} {l : Launch} {e : Env} {s : State} {m : MethodId} {args : Array Value} {below : List Frame} {meth : Method} {c : Code} {D : va_G} {d : Nat → ClassId} {A : Nat → Prop} {h0 : xw} {Q : Int32 → xw → Prop} {X : String → xw → Prop} (C0 : xctx p s m args meth c b_LogCleaner_batch 4 (some .int) R_LogCleaner D d A (xT l s c A)) : ∀ (s0 : Int32) (h : xw) (H : Heap) (locs : List Loc) (ls : Array Slot), wb_LogCleaner_batch_106 d Q X  s0 h → xR sgX h0 D A h H → va_S A s.heap H locs → lv_has ls 4 [] → W p l e rm_LogCleaner_batch s m args below meth c H locs 0 0 (vx_MQ below (va_Qi (fun r u => Q r u ∧ xfr sgX h0 u) (xB D d A) A) (xX (fun E u => X E u ∧ xfr sgX h0 u) D d A) args s 1 6 A) (F0 m 106 ls [.int s0]) := by
  obtain ⟨hx, hb, hr, hml, hown, htb, hK, hA, hNB, hlocks, hXT⟩ := id C0
  intro  s0 h H locs ls hw hP hS hl
  refine vx_ret ?_
  refine W.widen (k := 1) (n := 6) (Nat.le_of_ble_eq_true rfl) (Nat.le_of_ble_eq_true rfl) ?_
  exact xretI C0 hw hP hS d_LogCleaner_batch_106

set_option maxHeartbeats 4000000 in
set_option maxRecDepth 100000 in
theorem m_LogCleaner_batch (l : Launch) (hlt : l.stackTraces = false) (D : va_G) (d : Nat → ClassId) (h : xw) (sz : Nat) (a0 : Nat) (a1 : Int32) (a2 : Int32) (Q : Int32 → xw → Prop) (X : String → xw → Prop) (hw : wp_LogCleaner_batch d h a0 a1 a2 Q X) : vx_Met l y_LogCleaner_batch ws_LogCleaner_batch rm_LogCleaner_batch (xPreX D d h [.ref a0, .int a1, .int a2] sz) (va_Qi (fun r u => Q r u ∧ xfr sgX h u) (xB D d (xA h sz)) (xA h sz)) (xX (fun E u => X E u ∧ xfr sgX h u) D d (xA h sz)) 1 6 (xA h sz) := by
  refine vx_ofW (cc := b_LogCleaner_batch) (maxL := 4) (ret := (some .int)) (by decide) rfl ?_
  intro p e s m args below meth c s₁ B hml htab hv
  obtain ⟨rfl, hsz, hP0, hK, hNB, hZ1, hZ2, hSt⟩ := hv
  have hts := atoms_spec (ws := ws_LogCleaner_batch) B.pre
  have htb := fun w (hw9 : w ∈ TB) => hts w (List.mem_cons_of_mem _ hw9)
  have hown : s.vm.findClass R_LogCleaner = some m.cls := findClass_of_methodNamed B.named
  subst hsz
  obtain ⟨A, hAe⟩ : ∃ A, A = xA h s.heap.size := ⟨_, rfl⟩
  rw [← hAe] at hZ1 hZ2 ⊢
  have hP : xR sgX h D A h s.heap := ⟨by rw [hAe]; exact hP0.self, xfr.rf⟩
  have hA : ∀ q, s.heap.size ≤ q → A q := fun q hq => by rw [hAe]; exact Or.inr hq
  have hS : va_S A s.heap s.heap [] := va_S.rf
  have C0 : xctx p s m ([.ref a0, .int a1, .int a2] : List Value).toArray meth c b_LogCleaner_batch 4 (some .int) R_LogCleaner D d A (xT l s c A) := ⟨B.exec, B.bytes, B.returns, hml, hown, htb, hK, hA, hNB, B.notSynchronized, ⟨hlt, hZ1, hZ2, hSt, htab⟩⟩
  obtain ⟨hx, hb, hr, -, -, -, -, -, -, hlocks, hXT⟩ := id C0
  have hl := lv_entry ([.ref a0, .int a1, .int a2] : List Value) (n := 4) (Nat.le_of_ble_eq_true rfl)
  rw [lg_entry_eq]
  generalize (lg_sl ([.ref a0, .int a1, .int a2] : List Value) ++ List.replicate (4 - (lg_sl ([.ref a0, .int a1, .int a2] : List Value)).length) Slot.unset).toArray = ls at hl ⊢
  have hl : lv_has ls 4 [(0, .ref a0), (1, .int a1), (2, .int a2)] := hl
  refine lv_iload_n hx hb d_LogCleaner_batch_0 rfl (lv_at hl 1 rfl) ?_
  refine lv_if_lt (tgt := 12) hx hb d_LogCleaner_batch_1 (by decide) (fun cq => ?_) (fun cq => ?_)
  · replace hw := hw.1 cq
    exact sb_LogCleaner_batch_12 C0  h _ _ _ hw hP hS (lv_sub hl [] rfl)
  · replace hw := hw.2 cq
    refine lv_iload_n hx hb d_LogCleaner_batch_4 rfl (lv_at hl 1 rfl) ?_
    refine lv_aload_n hx hb d_LogCleaner_batch_5 rfl (lv_at hl 0 rfl) ?_
    refine xgetI hx hb htb i_LogCleaner hown hK hP (ci := 0) rfl 1 (by decide) (htb _ k_LogCleaner_15) (fun _ h9 => h9) hw d_LogCleaner_batch_6 (fun v1 hw => ?_)
    refine lv_icmp_lt (tgt := 22) hx hb d_LogCleaner_batch_9 (by decide) (fun cq => ?_) (fun cq => ?_)
    · replace hw := hw.1 cq
      refine lv_aload_n hx hb d_LogCleaner_batch_22 rfl (lv_at hl 0 rfl) ?_
      refine xgetA hx hb htb i_LogCleaner hown hK hP (ci := 0) rfl 0 (by decide) (htb _ k_LogCleaner_11) (fun _ h9 => h9) hw d_LogCleaner_batch_23 (fun r2 hw => ?_)
      refine lv_iload_n hx hb d_LogCleaner_batch_26 rfl (lv_at hl 1 rfl) ?_
      obtain ⟨p3, hpe, hw⟩ := hw
      revert hw
      revert hl
      subst hpe
      intro hl hw
      replace hl : lv_has ls 4 [(0, .ref a0), (1, .int a1), (2, .int a2)] := hl
      refine xldq hx hb hK hP 1 rfl hw d_LogCleaner_batch_27 (fun r4 hw => ?_)
      refine xv_astore_n (lv' := [(3, va_rf r4), (0, .ref a0), (1, .int a1), (2, .int a2)]) hx hb d_LogCleaner_batch_28 rfl hl (by decide) rfl (fun ls hl => ?_)
      refine lv_iload_n hx hb d_LogCleaner_batch_29 rfl (lv_at hl 3 rfl) ?_
      by_cases cq : a2.toInt < 0 ∨ 5 < a2.toInt
      · replace hw := hw.2.2.2.2.2.2 cq
        refine lv_tableOut (tgt := 107) hx hb d_LogCleaner_batch_30 cq (by decide) ?_
        exact xthrow C0 (cls := "java/lang/IllegalArgumentException") (text := "what is not 0 .. 5") (names := ["java/lang/RuntimeException", "java/lang/Exception"]) (ik := 41) (is := 129) (ic := 45) (by decide) (by decide) k_LogCleaner_41c g_ini_java_lang_IllegalArgumentException (by decide) at_LogCleaner_45 at_LogCleaner_45_ok (by decide) (by decide) hw hP hS hl d_LogCleaner_batch_107 d_LogCleaner_batch_110 d_LogCleaner_batch_111 d_LogCleaner_batch_113 d_LogCleaner_batch_116 (Nat.le_of_ble_eq_true rfl) (Nat.le_of_ble_eq_true rfl) (Nat.le_of_ble_eq_true rfl) (Nat.le_of_ble_eq_true rfl) (Nat.le_of_ble_eq_true rfl) (Nat.le_of_ble_eq_true rfl)
      · have cz : a2 = 0 ∨ a2 = 1 ∨ a2 = 2 ∨ a2 = 3 ∨ a2 = 4 ∨ a2 = 5 := by
          have cz : a2.toInt = 0 ∨ a2.toInt = 1 ∨ a2.toInt = 2 ∨ a2.toInt = 3 ∨ a2.toInt = 4 ∨ a2.toInt = 5 := by omega
          rcases cz with cz | cz | cz | cz | cz | cz
          · exact Or.inl (xsw cz rfl)
          · exact Or.inr (Or.inl (xsw cz rfl))
          · exact Or.inr (Or.inr (Or.inl (xsw cz rfl)))
          · exact Or.inr (Or.inr (Or.inr (Or.inl (xsw cz rfl))))
          · exact Or.inr (Or.inr (Or.inr (Or.inr (Or.inl (xsw cz rfl)))))
          · exact Or.inr (Or.inr (Or.inr (Or.inr (Or.inr (xsw cz rfl)))))
        rcases cz with cz | cz | cz | cz | cz | cz
        · replace hw := hw.1 cz
          refine lv_tableIn (tgt := 68) hx hb d_LogCleaner_batch_30 (by rw [cz]; decide) (by rw [cz]; decide) (by rw [cz]; rfl) (by decide) ?_
          refine xv_aload_n hx hb d_LogCleaner_batch_68 rfl (lv_at hl 0 rfl) ?_
          obtain ⟨p5, hpe, hw⟩ := hw
          revert hw
          revert hl
          subst hpe
          intro hl hw
          replace hl : lv_has ls 4 [(3, .ref p5), (0, .ref a0), (1, .int a1), (2, .int a2)] := hl
          refine xgetI hx hb htb i_Batch hown hK hP (ci := 1) rfl 0 (by decide) (htb _ k_LogCleaner_88) (fun _ h9 => h9) hw d_LogCleaner_batch_69 (fun v6 hw => ?_)
          refine vx_ret ?_
          refine W.widen (k := 1) (n := 6) (Nat.le_of_ble_eq_true rfl) (Nat.le_of_ble_eq_true rfl) ?_
          exact xretI C0 hw hP hS d_LogCleaner_batch_72
        · replace hw := hw.2.1 cz
          refine lv_tableIn (tgt := 73) hx hb d_LogCleaner_batch_30 (by rw [cz]; decide) (by rw [cz]; decide) (by rw [cz]; rfl) (by decide) ?_
          refine xv_aload_n hx hb d_LogCleaner_batch_73 rfl (lv_at hl 0 rfl) ?_
          obtain ⟨p7, hpe, hw⟩ := hw
          revert hw
          revert hl
          subst hpe
          intro hl hw
          replace hl : lv_has ls 4 [(3, .ref p7), (0, .ref a0), (1, .int a1), (2, .int a2)] := hl
          refine xgetI hx hb htb i_Batch hown hK hP (ci := 1) rfl 3 (by decide) (htb _ k_LogCleaner_121) (fun _ h9 => h9) hw d_LogCleaner_batch_74 (fun v8 hw => ?_)
          refine vx_ret ?_
          refine W.widen (k := 1) (n := 6) (Nat.le_of_ble_eq_true rfl) (Nat.le_of_ble_eq_true rfl) ?_
          exact xretI C0 hw hP hS d_LogCleaner_batch_77
        · replace hw := hw.2.2.1 cz
          refine lv_tableIn (tgt := 78) hx hb d_LogCleaner_batch_30 (by rw [cz]; decide) (by rw [cz]; decide) (by rw [cz]; rfl) (by decide) ?_
          refine xv_aload_n hx hb d_LogCleaner_batch_78 rfl (lv_at hl 0 rfl) ?_
          obtain ⟨p9, hpe, hw⟩ := hw
          revert hw
          revert hl
          subst hpe
          intro hl hw
          replace hl : lv_has ls 4 [(3, .ref p9), (0, .ref a0), (1, .int a1), (2, .int a2)] := hl
          refine xgetI hx hb htb i_Batch hown hK hP (ci := 1) rfl 1 (by decide) (htb _ k_LogCleaner_122) (fun _ h9 => h9) hw d_LogCleaner_batch_79 (fun v10 hw => ?_)
          refine vx_ret ?_
          refine W.widen (k := 1) (n := 6) (Nat.le_of_ble_eq_true rfl) (Nat.le_of_ble_eq_true rfl) ?_
          exact xretI C0 hw hP hS d_LogCleaner_batch_82
        · replace hw := hw.2.2.2.1 cz
          refine lv_tableIn (tgt := 83) hx hb d_LogCleaner_batch_30 (by rw [cz]; decide) (by rw [cz]; decide) (by rw [cz]; rfl) (by decide) ?_
          refine xv_aload_n hx hb d_LogCleaner_batch_83 rfl (lv_at hl 0 rfl) ?_
          obtain ⟨p11, hpe, hw⟩ := hw
          revert hw
          revert hl
          subst hpe
          intro hl hw
          replace hl : lv_has ls 4 [(3, .ref p11), (0, .ref a0), (1, .int a1), (2, .int a2)] := hl
          obtain ⟨⟨_, hw0⟩, hw⟩ := hw
          refine xcalli (va_runV (b := p11) (As := []) (rest := []) ⟨hx, hb, hml, hown, htb⟩ (m_Batch_sizeInBytes l D d h _ p11 _ hw) (xcwV 0 htb g_code_Batch_sizeInBytes g_ini_Batch k_LogCleaner_77 g_im_Batch_sizeInBytes g_sel_Batch_sizeInBytes rfl rfl (by decide +kernel) ⟨(Nat.le_of_ble_eq_true rfl), (Nat.le_of_ble_eq_true rfl)⟩) (xpreV hP hK hNB (ci := 1) rfl hw0) rfl rfl hl.1 rfl (lv_room (Nat.le_of_ble_eq_true rfl)) d_LogCleaner_batch_84 ⟨(Nat.le_of_ble_eq_true rfl), (Nat.le_of_ble_eq_true rfl)⟩) hP hS hA (fun r13 h12 H locs hw hP hS => ?_)
          refine W.widen (k := 0) (n := 0) (Nat.le_of_ble_eq_true rfl) (Nat.le_of_ble_eq_true rfl) ?_
          refine vx_ret ?_
          refine W.widen (k := 1) (n := 6) (Nat.le_of_ble_eq_true rfl) (Nat.le_of_ble_eq_true rfl) ?_
          exact xretI C0 hw hP hS d_LogCleaner_batch_87
        · replace hw := hw.2.2.2.2.1 cz
          refine lv_tableIn (tgt := 88) hx hb d_LogCleaner_batch_30 (by rw [cz]; decide) (by rw [cz]; decide) (by rw [cz]; rfl) (by decide) ?_
          refine xv_aload_n hx hb d_LogCleaner_batch_88 rfl (lv_at hl 0 rfl) ?_
          obtain ⟨p14, hpe, hw⟩ := hw
          revert hw
          revert hl
          subst hpe
          intro hl hw
          replace hl : lv_has ls 4 [(3, .ref p14), (0, .ref a0), (1, .int a1), (2, .int a2)] := hl
          refine xgetI hx hb htb i_Batch hown hK hP (ci := 1) rfl 4 (by decide) (htb _ k_LogCleaner_85) (fun _ h9 => h9) hw d_LogCleaner_batch_89 (fun v15 hw => ?_)
          refine vx_ret ?_
          refine W.widen (k := 1) (n := 6) (Nat.le_of_ble_eq_true rfl) (Nat.le_of_ble_eq_true rfl) ?_
          exact xretI C0 hw hP hS d_LogCleaner_batch_92
        · replace hw := hw.2.2.2.2.2.1 cz
          refine lv_tableIn (tgt := 93) hx hb d_LogCleaner_batch_30 (by rw [cz]; decide) (by rw [cz]; decide) (by rw [cz]; rfl) (by decide) ?_
          refine lv_aload_n hx hb d_LogCleaner_batch_93 rfl (lv_at hl 1 rfl) ?_
          refine lv_iload_n hx hb d_LogCleaner_batch_94 rfl (lv_at hl 2 rfl) ?_
          obtain ⟨⟨_, hw0⟩, hw⟩ := hw
          refine xcalli (va_runV (b := a0) (As := [.int a1]) (rest := []) ⟨hx, hb, hml, hown, htb⟩ (m_LogCleaner_isKnown l D d h _ a0 a1 _ hw) (xcwV 1 htb g_code_LogCleaner_isKnown g_ini_LogCleaner k_LogCleaner_125 g_im_LogCleaner_isKnown g_sel_LogCleaner_isKnown rfl rfl (by decide +kernel) ⟨(Nat.le_of_ble_eq_true rfl), (Nat.le_of_ble_eq_true rfl)⟩) (xpreV hP hK hNB (ci := 0) rfl hw0) rfl rfl hl.1 rfl (lv_room (Nat.le_of_ble_eq_true rfl)) d_LogCleaner_batch_95 ⟨(Nat.le_of_ble_eq_true rfl), (Nat.le_of_ble_eq_true rfl)⟩) hP hS hA (fun r17 h16 H locs hw hP hS => ?_)
          refine W.widen (k := 0) (n := 0) (Nat.le_of_ble_eq_true rfl) (Nat.le_of_ble_eq_true rfl) ?_
          refine lv_if_eq (tgt := 105) hx hb d_LogCleaner_batch_98 (by decide) (fun cq => ?_) (fun cq => ?_)
          · replace hw := hw.1 cq
            refine lv_iconst (v := 0) hx hb d_LogCleaner_batch_105 (by decide) ?_
            exact sb_LogCleaner_batch_106 C0 0 h16 _ _ _ hw hP hS (lv_sub hl [] rfl)
          · replace hw := hw.2 cq
            refine lv_iconst (v := 1) hx hb d_LogCleaner_batch_101 (by decide) ?_
            refine lv_goto (tgt := 106) hx hb d_LogCleaner_batch_102 (by decide) ?_
            exact sb_LogCleaner_batch_106 C0 1 h16 _ _ _ hw hP hS (lv_sub hl [] rfl)
    · replace hw := hw.2 cq
      exact sb_LogCleaner_batch_12 C0  h _ _ _ hw hP hS (lv_sub hl [] rfl)

theorem d_LogCleaner_entryAt_0 : decode b_LogCleaner_entryAt 0 = .ok (.iload_n 1, 1) := by decide +kernel
theorem d_LogCleaner_entryAt_1 : decode b_LogCleaner_entryAt 1 = .ok (.ifCond .ge 5, 3) := by decide +kernel
theorem d_LogCleaner_entryAt_4 : decode b_LogCleaner_entryAt 4 = .ok (.aconst_null, 1) := by decide +kernel
theorem d_LogCleaner_entryAt_5 : decode b_LogCleaner_entryAt 5 = .ok (.areturn, 1) := by decide +kernel
theorem d_LogCleaner_entryAt_6 : decode b_LogCleaner_entryAt 6 = .ok (.iload_n 1, 1) := by decide +kernel
theorem d_LogCleaner_entryAt_7 : decode b_LogCleaner_entryAt 7 = .ok (.istore_n 2, 1) := by decide +kernel
theorem d_LogCleaner_entryAt_8 : decode b_LogCleaner_entryAt 8 = .ok (.iconst 0, 1) := by decide +kernel
theorem d_LogCleaner_entryAt_9 : decode b_LogCleaner_entryAt 9 = .ok (.istore_n 3, 1) := by decide +kernel
theorem d_LogCleaner_entryAt_10 : decode b_LogCleaner_entryAt 10 = .ok (.iload_n 3, 1) := by decide +kernel
theorem d_LogCleaner_entryAt_11 : decode b_LogCleaner_entryAt 11 = .ok (.aload_n 0, 1) := by decide +kernel
theorem d_LogCleaner_entryAt_12 : decode b_LogCleaner_entryAt 12 = .ok (.getfield 15, 3) := by decide +kernel
theorem d_LogCleaner_entryAt_15 : decode b_LogCleaner_entryAt 15 = .ok (.if_icmp .ge 42, 3) := by decide +kernel
theorem d_LogCleaner_entryAt_18 : decode b_LogCleaner_entryAt 18 = .ok (.aload_n 0, 1) := by decide +kernel
theorem d_LogCleaner_entryAt_19 : decode b_LogCleaner_entryAt 19 = .ok (.getfield 11, 3) := by decide +kernel
theorem d_LogCleaner_entryAt_22 : decode b_LogCleaner_entryAt 22 = .ok (.iload_n 3, 1) := by decide +kernel
theorem d_LogCleaner_entryAt_23 : decode b_LogCleaner_entryAt 23 = .ok (.aaload, 1) := by decide +kernel
theorem d_LogCleaner_entryAt_24 : decode b_LogCleaner_entryAt 24 = .ok (.astore 4, 2) := by decide +kernel
theorem d_LogCleaner_entryAt_26 : decode b_LogCleaner_entryAt 26 = .ok (.iload_n 2, 1) := by decide +kernel
theorem d_LogCleaner_entryAt_27 : decode b_LogCleaner_entryAt 27 = .ok (.aload 4, 2) := by decide +kernel
theorem d_LogCleaner_entryAt_29 : decode b_LogCleaner_entryAt 29 = .ok (.getfield 121, 3) := by decide +kernel
theorem d_LogCleaner_entryAt_32 : decode b_LogCleaner_entryAt 32 = .ok (.if_icmp .ge 11, 3) := by decide +kernel
theorem d_LogCleaner_entryAt_35 : decode b_LogCleaner_entryAt 35 = .ok (.aload 4, 2) := by decide +kernel
theorem d_LogCleaner_entryAt_37 : decode b_LogCleaner_entryAt 37 = .ok (.getfield 178, 3) := by decide +kernel
theorem d_LogCleaner_entryAt_40 : decode b_LogCleaner_entryAt 40 = .ok (.iload_n 2, 1) := by decide +kernel
theorem d_LogCleaner_entryAt_41 : decode b_LogCleaner_entryAt 41 = .ok (.aaload, 1) := by decide +kernel
theorem d_LogCleaner_entryAt_42 : decode b_LogCleaner_entryAt 42 = .ok (.areturn, 1) := by decide +kernel
theorem d_LogCleaner_entryAt_43 : decode b_LogCleaner_entryAt 43 = .ok (.iload_n 2, 1) := by decide +kernel
theorem d_LogCleaner_entryAt_44 : decode b_LogCleaner_entryAt 44 = .ok (.aload 4, 2) := by decide +kernel
theorem d_LogCleaner_entryAt_46 : decode b_LogCleaner_entryAt 46 = .ok (.getfield 121, 3) := by decide +kernel
theorem d_LogCleaner_entryAt_49 : decode b_LogCleaner_entryAt 49 = .ok (.isub, 1) := by decide +kernel
theorem d_LogCleaner_entryAt_50 : decode b_LogCleaner_entryAt 50 = .ok (.istore_n 2, 1) := by decide +kernel
theorem d_LogCleaner_entryAt_51 : decode b_LogCleaner_entryAt 51 = .ok (.iinc 3 1, 3) := by decide +kernel
theorem d_LogCleaner_entryAt_54 : decode b_LogCleaner_entryAt 54 = .ok (.goto (-44), 3) := by decide +kernel
theorem d_LogCleaner_entryAt_57 : decode b_LogCleaner_entryAt 57 = .ok (.aconst_null, 1) := by decide +kernel
theorem d_LogCleaner_entryAt_58 : decode b_LogCleaner_entryAt 58 = .ok (.areturn, 1) := by decide +kernel
def rm_LogCleaner_entryAt : Room := { frames := 0, cells := 0, slots := 0, locals := 0 }
def ws_LogCleaner_entryAt : List Cond := Cond.code y_LogCleaner_entryAt b_LogCleaner_entryAt 5 (some (.object "LogCleaner$Entry")) :: TB
set_option maxHeartbeats 4000000 in
set_option maxRecDepth 100000 in
theorem sl_LogCleaner_entryAt_10 {p : Program} {l : Launch} {e : Env} {s : State} {m : MethodId} {args : Array Value} {below : List Frame} {meth : Method} {c : Code} {D : va_G} {d : Nat → ClassId} {A : Nat → Prop} {h0 : xw} {Q : Option Nat → xw → Prop} (C0 : xctx p s m args meth c b_LogCleaner_entryAt 5 (some (.object "LogCleaner$Entry")) R_LogCleaner D d A True) : ∀ (n : Nat) (x : Nat × Int32 × Int32) (h : xw) (H : Heap) (locs : List Loc) (ls : Array Slot), xloop (fun (k : Nat × Int32 × Int32 → xw → Prop) (x : Nat × Int32 × Int32) (h : xw) => wc_LogCleaner_entryAt_10 d Q (fun y0 y2 y3 h => k (y0, y2, y3) h) x.1 x.2.1 x.2.2 h) n x h → xR sgX h0 D A h H → va_S A s.heap H locs → lv_has ls 5 [(0, .ref x.1), (2, .int x.2.1), (3, .int x.2.2)] → W p l e rm_LogCleaner_entryAt s m args below meth c H locs 0 0 (MQ below (va_Qq (fun r u => Q r u ∧ xfr sgX h0 u) (xB D d A) A) args s 0 0 A) (F0 m 10 ls []) := by
  obtain ⟨hx, hb, hr, hml, hown, htb, hK, hA, hNB, hlocks, hXT⟩ := id C0
  intro n
  induction n with
  | zero => intro x h H locs ls hw; exact hw.elim
  | succ n ih =>
    rintro ⟨x0, x2, x3⟩ h H locs ls hw hP hS hl
    replace hw : wc_LogCleaner_entryAt_10 d Q (fun y0 y2 y3 h => xloop (fun (k : Nat × Int32 × Int32 → xw → Prop) (x : Nat × Int32 × Int32) (h : xw) => wc_LogCleaner_entryAt_10 d Q (fun y0 y2 y3 h => k (y0, y2, y3) h) x.1 x.2.1 x.2.2 h) n (y0, y2, y3) h) x0 x2 x3 h := hw
    have hk10 := fun (x0 : Nat) (x2 : Int32) (x3 : Int32) => ih (x0, x2, x3)
    refine lv_iload_n hx hb d_LogCleaner_entryAt_10 rfl (lv_at hl 2 rfl) ?_
    refine lv_aload_n hx hb d_LogCleaner_entryAt_11 rfl (lv_at hl 0 rfl) ?_
    refine xgetI hx hb htb i_LogCleaner hown hK hP (ci := 0) rfl 1 (by decide) (htb _ k_LogCleaner_15) (fun _ h9 => h9) hw d_LogCleaner_entryAt_12 (fun v1 hw => ?_)
    refine lv_icmp_ge (tgt := 57) hx hb d_LogCleaner_entryAt_15 (by decide) (fun cq => ?_) (fun cq => ?_)
    · replace hw := hw.1 cq
      refine xv_null hx hb d_LogCleaner_entryAt_57 ?_
      refine W.widen (k := 0) (n := 0) (Nat.le_of_ble_eq_true rfl) (Nat.le_of_ble_eq_true rfl) ?_
      exact xretA C0 hw hP hS d_LogCleaner_entryAt_58
    · replace hw := hw.2 cq
      refine lv_aload_n hx hb d_LogCleaner_entryAt_18 rfl (lv_at hl 0 rfl) ?_
      refine xgetA hx hb htb i_LogCleaner hown hK hP (ci := 0) rfl 0 (by decide) (htb _ k_LogCleaner_11) (fun _ h9 => h9) hw d_LogCleaner_entryAt_19 (fun r2 hw => ?_)
      refine lv_iload_n hx hb d_LogCleaner_entryAt_22 rfl (lv_at hl 2 rfl) ?_
      obtain ⟨p3, hpe, hw⟩ := hw
      revert hw
      revert hl
      subst hpe
      intro hl hw
      replace hl : lv_has ls 5 [(0, .ref x0), (2, .int x2), (3, .int x3)] := hl
      refine xldq hx hb hK hP 1 rfl hw d_LogCleaner_entryAt_23 (fun r4 hw => ?_)
      refine xv_astore (lv' := [(4, va_rf r4), (0, .ref x0), (2, .int x2), (3, .int x3)]) hx hb d_LogCleaner_entryAt_24 hl (by decide) rfl (fun ls hl => ?_)
      refine lv_iload_n hx hb d_LogCleaner_entryAt_26 rfl (lv_at hl 2 rfl) ?_
      refine xv_aload hx hb d_LogCleaner_entryAt_27 (lv_at hl 0 rfl) ?_
      obtain ⟨p5, hpe, hw⟩ := hw
      revert hw
      revert hl
      subst hpe
      intro hl hw
      replace hl : lv_has ls 5 [(4, .ref p5), (0, .ref x0), (2, .int x2), (3, .int x3)] := hl
      refine xgetI hx hb htb i_Batch hown hK hP (ci := 1) rfl 3 (by decide) (htb _ k_LogCleaner_121) (fun _ h9 => h9) hw d_LogCleaner_entryAt_29 (fun v6 hw => ?_)
      refine lv_icmp_ge (tgt := 43) hx hb d_LogCleaner_entryAt_32 (by decide) (fun cq => ?_) (fun cq => ?_)
      · replace hw := hw.1 cq
        refine lv_iload_n hx hb d_LogCleaner_entryAt_43 rfl (lv_at hl 2 rfl) ?_
        refine lv_aload hx hb d_LogCleaner_entryAt_44 (lv_at hl 0 rfl) ?_
        refine xgetI hx hb htb i_Batch hown hK hP (ci := 1) rfl 3 (by decide) (htb _ k_LogCleaner_121) (fun _ h9 => h9) hw d_LogCleaner_entryAt_46 (fun v7 hw => ?_)
        refine lv_isub hx hb d_LogCleaner_entryAt_49 ?_
        refine lv_istore_n (lv' := [(2, .int (x2 - v7)), (4, .ref p5), (0, .ref x0), (3, .int x3)]) hx hb d_LogCleaner_entryAt_50 rfl hl (by decide) rfl (fun ls hl => ?_)
        refine lv_iinc (v := x3 + 1) (lv' := [(3, .int (x3 + 1)), (2, .int (x2 - v7)), (4, .ref p5), (0, .ref x0)]) hx hb d_LogCleaner_entryAt_51 hl (k := 3) rfl rfl (by decide) rfl (fun ls hl => ?_)
        refine lv_goto (tgt := 10) hx hb d_LogCleaner_entryAt_54 (by decide) ?_
        exact hk10 x0 (x2 - v7) (x3 + 1) h _ _ _ hw hP hS (lv_sub hl [3, 1, 0] rfl)
      · replace hw := hw.2 cq
        refine lv_aload hx hb d_LogCleaner_entryAt_35 (lv_at hl 0 rfl) ?_
        refine xgetA hx hb htb i_Batch hown hK hP (ci := 1) rfl 2 (by decide) (htb _ k_LogCleaner_178) (fun _ h9 => h9) hw d_LogCleaner_entryAt_37 (fun r8 hw => ?_)
        refine lv_iload_n hx hb d_LogCleaner_entryAt_40 rfl (lv_at hl 2 rfl) ?_
        obtain ⟨p9, hpe, hw⟩ := hw
        revert hw
        revert hl
        subst hpe
        intro hl hw
        replace hl : lv_has ls 5 [(4, .ref p5), (0, .ref x0), (2, .int x2), (3, .int x3)] := hl
        refine xldq hx hb hK hP 0 rfl hw d_LogCleaner_entryAt_41 (fun r10 hw => ?_)
        refine W.widen (k := 0) (n := 0) (Nat.le_of_ble_eq_true rfl) (Nat.le_of_ble_eq_true rfl) ?_
        exact xretA C0 hw hP hS d_LogCleaner_entryAt_42

set_option maxHeartbeats 4000000 in
set_option maxRecDepth 100000 in
theorem m_LogCleaner_entryAt (l : Launch) (D : va_G) (d : Nat → ClassId) (h : xw) (sz : Nat) (a0 : Nat) (a1 : Int32) (Q : Option Nat → xw → Prop) (hw : wp_LogCleaner_entryAt d h a0 a1 Q) : Met l y_LogCleaner_entryAt ws_LogCleaner_entryAt rm_LogCleaner_entryAt (xPre D d h [.ref a0, .int a1] sz) (va_Qq (fun r u => Q r u ∧ xfr sgX h u) (xB D d (xA h sz)) (xA h sz)) 0 0 (xA h sz) := by
  refine Met.ofW (cc := b_LogCleaner_entryAt) (maxL := 5) (ret := (some (.object "LogCleaner$Entry"))) (by decide) rfl ?_
  intro p e s m args below meth c s₁ B hml hv
  obtain ⟨rfl, hsz, hP0, hK, hNB⟩ := hv
  have hts := atoms_spec (ws := ws_LogCleaner_entryAt) B.pre
  have htb := fun w (hw9 : w ∈ TB) => hts w (List.mem_cons_of_mem _ hw9)
  have hown : s.vm.findClass R_LogCleaner = some m.cls := findClass_of_methodNamed B.named
  subst hsz
  obtain ⟨A, hAe⟩ : ∃ A, A = xA h s.heap.size := ⟨_, rfl⟩
  rw [← hAe]
  have hP : xR sgX h D A h s.heap := ⟨by rw [hAe]; exact hP0.self, xfr.rf⟩
  have hA : ∀ q, s.heap.size ≤ q → A q := fun q hq => by rw [hAe]; exact Or.inr hq
  have hS : va_S A s.heap s.heap [] := va_S.rf
  have C0 : xctx p s m ([.ref a0, .int a1] : List Value).toArray meth c b_LogCleaner_entryAt 5 (some (.object "LogCleaner$Entry")) R_LogCleaner D d A True := ⟨B.exec, B.bytes, B.returns, hml, hown, htb, hK, hA, hNB, B.notSynchronized, trivial⟩
  obtain ⟨hx, hb, hr, -, -, -, -, -, -, hlocks, hXT⟩ := id C0
  have hl := lv_entry ([.ref a0, .int a1] : List Value) (n := 5) (Nat.le_of_ble_eq_true rfl)
  rw [lg_entry_eq]
  generalize (lg_sl ([.ref a0, .int a1] : List Value) ++ List.replicate (5 - (lg_sl ([.ref a0, .int a1] : List Value)).length) Slot.unset).toArray = ls at hl ⊢
  have hl : lv_has ls 5 [(0, .ref a0), (1, .int a1)] := hl
  refine lv_iload_n hx hb d_LogCleaner_entryAt_0 rfl (lv_at hl 1 rfl) ?_
  refine lv_if_ge (tgt := 6) hx hb d_LogCleaner_entryAt_1 (by decide) (fun cq => ?_) (fun cq => ?_)
  · replace hw := hw.1 cq
    refine lv_iload_n hx hb d_LogCleaner_entryAt_6 rfl (lv_at hl 1 rfl) ?_
    refine lv_istore_n (lv' := [(2, .int a1), (0, .ref a0), (1, .int a1)]) hx hb d_LogCleaner_entryAt_7 rfl hl (by decide) rfl (fun ls hl => ?_)
    refine lv_iconst (v := 0) hx hb d_LogCleaner_entryAt_8 (by decide) ?_
    refine lv_istore_n (lv' := [(3, .int 0), (2, .int a1), (0, .ref a0), (1, .int a1)]) hx hb d_LogCleaner_entryAt_9 rfl hl (by decide) rfl (fun ls hl => ?_)
    obtain ⟨n, hw⟩ := hw
    exact sl_LogCleaner_entryAt_10 C0 n (a0, a1, 0) h _ _ _ hw hP hS (lv_sub hl [2, 1, 0] rfl)
  · replace hw := hw.2 cq
    refine xv_null hx hb d_LogCleaner_entryAt_4 ?_
    refine W.widen (k := 0) (n := 0) (Nat.le_of_ble_eq_true rfl) (Nat.le_of_ble_eq_true rfl) ?_
    exact xretA C0 hw hP hS d_LogCleaner_entryAt_5

theorem d_LogCleaner_told_0 : decode b_LogCleaner_told 0 = .ok (.aload_n 0, 1) := by decide +kernel
theorem d_LogCleaner_told_1 : decode b_LogCleaner_told 1 = .ok (.iload_n 1, 1) := by decide +kernel
theorem d_LogCleaner_told_2 : decode b_LogCleaner_told 2 = .ok (.invokevirtual 131, 3) := by decide +kernel
theorem d_LogCleaner_told_5 : decode b_LogCleaner_told 5 = .ok (.astore_n 3, 1) := by decide +kernel
theorem d_LogCleaner_told_6 : decode b_LogCleaner_told 6 = .ok (.aload_n 3, 1) := by decide +kernel
theorem d_LogCleaner_told_7 : decode b_LogCleaner_told 7 = .ok (.ifnonnull 13, 3) := by decide +kernel
theorem d_LogCleaner_told_10 : decode b_LogCleaner_told 10 = .ok (.new 41, 3) := by decide +kernel
theorem d_LogCleaner_told_13 : decode b_LogCleaner_told 13 = .ok (.dup, 1) := by decide +kernel
theorem d_LogCleaner_told_14 : decode b_LogCleaner_told 14 = .ok (.ldc 135, 2) := by decide +kernel
theorem d_LogCleaner_told_16 : decode b_LogCleaner_told 16 = .ok (.invokespecial 45, 3) := by decide +kernel
theorem d_LogCleaner_told_19 : decode b_LogCleaner_told 19 = .ok (.athrow, 1) := by decide +kernel
theorem d_LogCleaner_told_20 : decode b_LogCleaner_told 20 = .ok (.iload_n 2, 1) := by decide +kernel
theorem d_LogCleaner_told_21 : decode b_LogCleaner_told 21 = .ok (.tableswitch 80 0 5 #[39, 45, 51, 56, 61, 74], 39) := by decide +kernel
theorem d_LogCleaner_told_60 : decode b_LogCleaner_told 60 = .ok (.aload_n 3, 1) := by decide +kernel
theorem d_LogCleaner_told_61 : decode b_LogCleaner_told 61 = .ok (.getfield 137, 3) := by decide +kernel
theorem d_LogCleaner_told_64 : decode b_LogCleaner_told 64 = .ok (.i2l, 1) := by decide +kernel
theorem d_LogCleaner_told_65 : decode b_LogCleaner_told 65 = .ok (.lreturn, 1) := by decide +kernel
theorem d_LogCleaner_told_66 : decode b_LogCleaner_told 66 = .ok (.aload_n 3, 1) := by decide +kernel
theorem d_LogCleaner_told_67 : decode b_LogCleaner_told 67 = .ok (.getfield 140, 3) := by decide +kernel
theorem d_LogCleaner_told_70 : decode b_LogCleaner_told 70 = .ok (.i2l, 1) := by decide +kernel
theorem d_LogCleaner_told_71 : decode b_LogCleaner_told 71 = .ok (.lreturn, 1) := by decide +kernel
theorem d_LogCleaner_told_72 : decode b_LogCleaner_told 72 = .ok (.aload_n 3, 1) := by decide +kernel
theorem d_LogCleaner_told_73 : decode b_LogCleaner_told 73 = .ok (.getfield 143, 3) := by decide +kernel
theorem d_LogCleaner_told_76 : decode b_LogCleaner_told 76 = .ok (.lreturn, 1) := by decide +kernel
theorem d_LogCleaner_told_77 : decode b_LogCleaner_told 77 = .ok (.aload_n 3, 1) := by decide +kernel
theorem d_LogCleaner_told_78 : decode b_LogCleaner_told 78 = .ok (.getfield 147, 3) := by decide +kernel
theorem d_LogCleaner_told_81 : decode b_LogCleaner_told 81 = .ok (.lreturn, 1) := by decide +kernel
theorem d_LogCleaner_told_82 : decode b_LogCleaner_told 82 = .ok (.aload_n 3, 1) := by decide +kernel
theorem d_LogCleaner_told_83 : decode b_LogCleaner_told 83 = .ok (.getfield 150, 3) := by decide +kernel
theorem d_LogCleaner_told_86 : decode b_LogCleaner_told 86 = .ok (.ifCond .eq 7, 3) := by decide +kernel
theorem d_LogCleaner_told_89 : decode b_LogCleaner_told 89 = .ok (.lconst 1, 1) := by decide +kernel
theorem d_LogCleaner_told_90 : decode b_LogCleaner_told 90 = .ok (.goto 4, 3) := by decide +kernel
theorem d_LogCleaner_told_93 : decode b_LogCleaner_told 93 = .ok (.lconst 0, 1) := by decide +kernel
theorem d_LogCleaner_told_94 : decode b_LogCleaner_told 94 = .ok (.lreturn, 1) := by decide +kernel
theorem d_LogCleaner_told_95 : decode b_LogCleaner_told 95 = .ok (.aload_n 3, 1) := by decide +kernel
theorem d_LogCleaner_told_96 : decode b_LogCleaner_told 96 = .ok (.getfield 154, 3) := by decide +kernel
theorem d_LogCleaner_told_99 : decode b_LogCleaner_told 99 = .ok (.i2l, 1) := by decide +kernel
theorem d_LogCleaner_told_100 : decode b_LogCleaner_told 100 = .ok (.lreturn, 1) := by decide +kernel
theorem d_LogCleaner_told_101 : decode b_LogCleaner_told 101 = .ok (.new 41, 3) := by decide +kernel
theorem d_LogCleaner_told_104 : decode b_LogCleaner_told 104 = .ok (.dup, 1) := by decide +kernel
theorem d_LogCleaner_told_105 : decode b_LogCleaner_told 105 = .ok (.ldc 129, 2) := by decide +kernel
theorem d_LogCleaner_told_107 : decode b_LogCleaner_told 107 = .ok (.invokespecial 45, 3) := by decide +kernel
theorem d_LogCleaner_told_110 : decode b_LogCleaner_told 110 = .ok (.athrow, 1) := by decide +kernel
def rm_LogCleaner_told : Room := { frames := 6, cells := 1, slots := 6, locals := 82 }
def ws_LogCleaner_told : List Cond := Cond.code y_LogCleaner_told b_LogCleaner_told 4 (some .long) :: TB
set_option maxHeartbeats 4000000 in
set_option maxRecDepth 100000 in
theorem sb_LogCleaner_told_94 {p : Program} {l : Launch} {e : Env} {s : State} {m : MethodId} {args : Array Value} {below : List Frame} {meth : Method} {c : Code} {D : va_G} {d : Nat → ClassId} {A : Nat → Prop} {h0 : xw} {Q : Int64 → xw → Prop} {X : String → xw → Prop} (C0 : xctx p s m args meth c b_LogCleaner_told 4 (some .long) R_LogCleaner D d A (xT l s c A)) : ∀ (s0 : Int64) (h : xw) (H : Heap) (locs : List Loc) (ls : Array Slot), wb_LogCleaner_told_94 d Q X  s0 h → xR sgX h0 D A h H → va_S A s.heap H locs → lv_has ls 4 [] → W p l e rm_LogCleaner_told s m args below meth c H locs 0 0 (vx_MQ below (va_Ql (fun r u => Q r u ∧ xfr sgX h0 u) (xB D d A) A) (xX (fun E u => X E u ∧ xfr sgX h0 u) D d A) args s 1 6 A) (F0 m 94 ls [.long s0]) := by
  obtain ⟨hx, hb, hr, hml, hown, htb, hK, hA, hNB, hlocks, hXT⟩ := id C0
  intro  s0 h H locs ls hw hP hS hl
  refine vx_ret ?_
  refine W.widen (k := 1) (n := 6) (Nat.le_of_ble_eq_true rfl) (Nat.le_of_ble_eq_true rfl) ?_
  exact xretL C0 hw hP hS d_LogCleaner_told_94

set_option maxHeartbeats 4000000 in
set_option maxRecDepth 100000 in
theorem m_LogCleaner_told (l : Launch) (hlt : l.stackTraces = false) (D : va_G) (d : Nat → ClassId) (h : xw) (sz : Nat) (a0 : Nat) (a1 : Int32) (a2 : Int32) (Q : Int64 → xw → Prop) (X : String → xw → Prop) (hw : wp_LogCleaner_told d h a0 a1 a2 Q X) : vx_Met l y_LogCleaner_told ws_LogCleaner_told rm_LogCleaner_told (xPreX D d h [.ref a0, .int a1, .int a2] sz) (va_Ql (fun r u => Q r u ∧ xfr sgX h u) (xB D d (xA h sz)) (xA h sz)) (xX (fun E u => X E u ∧ xfr sgX h u) D d (xA h sz)) 1 6 (xA h sz) := by
  refine vx_ofW (cc := b_LogCleaner_told) (maxL := 4) (ret := (some .long)) (by decide) rfl ?_
  intro p e s m args below meth c s₁ B hml htab hv
  obtain ⟨rfl, hsz, hP0, hK, hNB, hZ1, hZ2, hSt⟩ := hv
  have hts := atoms_spec (ws := ws_LogCleaner_told) B.pre
  have htb := fun w (hw9 : w ∈ TB) => hts w (List.mem_cons_of_mem _ hw9)
  have hown : s.vm.findClass R_LogCleaner = some m.cls := findClass_of_methodNamed B.named
  subst hsz
  obtain ⟨A, hAe⟩ : ∃ A, A = xA h s.heap.size := ⟨_, rfl⟩
  rw [← hAe] at hZ1 hZ2 ⊢
  have hP : xR sgX h D A h s.heap := ⟨by rw [hAe]; exact hP0.self, xfr.rf⟩
  have hA : ∀ q, s.heap.size ≤ q → A q := fun q hq => by rw [hAe]; exact Or.inr hq
  have hS : va_S A s.heap s.heap [] := va_S.rf
  have C0 : xctx p s m ([.ref a0, .int a1, .int a2] : List Value).toArray meth c b_LogCleaner_told 4 (some .long) R_LogCleaner D d A (xT l s c A) := ⟨B.exec, B.bytes, B.returns, hml, hown, htb, hK, hA, hNB, B.notSynchronized, ⟨hlt, hZ1, hZ2, hSt, htab⟩⟩
  obtain ⟨hx, hb, hr, -, -, -, -, -, -, hlocks, hXT⟩ := id C0
  have hl := lv_entry ([.ref a0, .int a1, .int a2] : List Value) (n := 4) (Nat.le_of_ble_eq_true rfl)
  rw [lg_entry_eq]
  generalize (lg_sl ([.ref a0, .int a1, .int a2] : List Value) ++ List.replicate (4 - (lg_sl ([.ref a0, .int a1, .int a2] : List Value)).length) Slot.unset).toArray = ls at hl ⊢
  have hl : lv_has ls 4 [(0, .ref a0), (1, .int a1), (2, .int a2)] := hl
  refine lv_aload_n hx hb d_LogCleaner_told_0 rfl (lv_at hl 0 rfl) ?_
  refine lv_iload_n hx hb d_LogCleaner_told_1 rfl (lv_at hl 1 rfl) ?_
  obtain ⟨⟨_, hw0⟩, hw⟩ := hw
  refine xcallq (va_runV (b := a0) (As := [.int a1]) (rest := []) ⟨hx, hb, hml, hown, htb⟩ (m_LogCleaner_entryAt l D d h _ a0 a1 _ hw) (xcwV 1 htb g_code_LogCleaner_entryAt g_ini_LogCleaner k_LogCleaner_131 g_im_LogCleaner_entryAt g_sel_LogCleaner_entryAt rfl rfl (by decide +kernel) ⟨(Nat.le_of_ble_eq_true rfl), (Nat.le_of_ble_eq_true rfl)⟩) (xpreV hP hK hNB (ci := 0) rfl hw0) rfl rfl hl.1 rfl (lv_room (Nat.le_of_ble_eq_true rfl)) d_LogCleaner_told_2 ⟨(Nat.le_of_ble_eq_true rfl), (Nat.le_of_ble_eq_true rfl)⟩) hP hS hA (fun r2 h1 H locs hw hP hS => ?_)
  refine W.widen (k := 0) (n := 0) (Nat.le_of_ble_eq_true rfl) (Nat.le_of_ble_eq_true rfl) ?_
  refine xv_astore_n (lv' := [(3, va_rf r2), (0, .ref a0), (1, .int a1), (2, .int a2)]) hx hb d_LogCleaner_told_5 rfl hl (by decide) rfl (fun ls hl => ?_)
  refine xv_aload_n hx hb d_LogCleaner_told_6 rfl (lv_at hl 0 rfl) ?_
  revert hw
  revert hl
  rcases r2 with _ | p3
  · intro hl hw
    replace hw := hw.1 rfl
    refine lv_ifnonnullN hx hb d_LogCleaner_told_7 ?_
    exact xthrow C0 (cls := "java/lang/IllegalArgumentException") (text := "there is no such record") (names := ["java/lang/RuntimeException", "java/lang/Exception"]) (ik := 41) (is := 135) (ic := 45) (by decide) (by decide) k_LogCleaner_41c g_ini_java_lang_IllegalArgumentException (by decide) at_LogCleaner_45 at_LogCleaner_45_ok (by decide) (by decide) hw hP hS hl d_LogCleaner_told_10 d_LogCleaner_told_13 d_LogCleaner_told_14 d_LogCleaner_told_16 d_LogCleaner_told_19 (Nat.le_of_ble_eq_true rfl) (Nat.le_of_ble_eq_true rfl) (Nat.le_of_ble_eq_true rfl) (Nat.le_of_ble_eq_true rfl) (Nat.le_of_ble_eq_true rfl) (Nat.le_of_ble_eq_true rfl)
  · intro hl hw
    replace hw := hw.2 p3 rfl
    refine lv_ifnonnull (tgt := 20) hx hb d_LogCleaner_told_7 (by decide) ?_
    refine lv_iload_n hx hb d_LogCleaner_told_20 rfl (lv_at hl 3 rfl) ?_
    by_cases cq : a2.toInt < 0 ∨ 5 < a2.toInt
    · replace hw := hw.2.2.2.2.2.2 cq
      refine lv_tableOut (tgt := 101) hx hb d_LogCleaner_told_21 cq (by decide) ?_
      exact xthrow C0 (cls := "java/lang/IllegalArgumentException") (text := "what is not 0 .. 5") (names := ["java/lang/RuntimeException", "java/lang/Exception"]) (ik := 41) (is := 129) (ic := 45) (by decide) (by decide) k_LogCleaner_41c g_ini_java_lang_IllegalArgumentException (by decide) at_LogCleaner_45 at_LogCleaner_45_ok (by decide) (by decide) hw hP hS hl d_LogCleaner_told_101 d_LogCleaner_told_104 d_LogCleaner_told_105 d_LogCleaner_told_107 d_LogCleaner_told_110 (Nat.le_of_ble_eq_true rfl) (Nat.le_of_ble_eq_true rfl) (Nat.le_of_ble_eq_true rfl) (Nat.le_of_ble_eq_true rfl) (Nat.le_of_ble_eq_true rfl) (Nat.le_of_ble_eq_true rfl)
    · have cz : a2 = 0 ∨ a2 = 1 ∨ a2 = 2 ∨ a2 = 3 ∨ a2 = 4 ∨ a2 = 5 := by
        have cz : a2.toInt = 0 ∨ a2.toInt = 1 ∨ a2.toInt = 2 ∨ a2.toInt = 3 ∨ a2.toInt = 4 ∨ a2.toInt = 5 := by omega
        rcases cz with cz | cz | cz | cz | cz | cz
        · exact Or.inl (xsw cz rfl)
        · exact Or.inr (Or.inl (xsw cz rfl))
        · exact Or.inr (Or.inr (Or.inl (xsw cz rfl)))
        · exact Or.inr (Or.inr (Or.inr (Or.inl (xsw cz rfl))))
        · exact Or.inr (Or.inr (Or.inr (Or.inr (Or.inl (xsw cz rfl)))))
        · exact Or.inr (Or.inr (Or.inr (Or.inr (Or.inr (xsw cz rfl)))))
      rcases cz with cz | cz | cz | cz | cz | cz
      · replace hw := hw.1 cz
        refine lv_tableIn (tgt := 60) hx hb d_LogCleaner_told_21 (by rw [cz]; decide) (by rw [cz]; decide) (by rw [cz]; rfl) (by decide) ?_
        refine lv_aload_n hx hb d_LogCleaner_told_60 rfl (lv_at hl 0 rfl) ?_
        refine xgetI hx hb htb i_Entry hown hK hP (ci := 2) rfl 5 (by decide) (htb _ k_LogCleaner_137) (fun _ h9 => h9) hw d_LogCleaner_told_61 (fun v4 hw => ?_)
        refine lv_i2l (v := v4.toInt64) hx hb d_LogCleaner_told_64 rfl ?_
        refine vx_ret ?_
        refine W.widen (k := 1) (n := 6) (Nat.le_of_ble_eq_true rfl) (Nat.le_of_ble_eq_true rfl) ?_
        exact xretL C0 hw hP hS d_LogCleaner_told_65
      · replace hw := hw.2.1 cz
        refine lv_tableIn (tgt := 66) hx hb d_LogCleaner_told_21 (by rw [cz]; decide) (by rw [cz]; decide) (by rw [cz]; rfl) (by decide) ?_
        refine lv_aload_n hx hb d_LogCleaner_told_66 rfl (lv_at hl 0 rfl) ?_
        refine xgetI hx hb htb i_Entry hown hK hP (ci := 2) rfl 1 (by decide) (htb _ k_LogCleaner_140) (fun _ h9 => h9) hw d_LogCleaner_told_67 (fun v5 hw => ?_)
        refine lv_i2l (v := v5.toInt64) hx hb d_LogCleaner_told_70 rfl ?_
        refine vx_ret ?_
        refine W.widen (k := 1) (n := 6) (Nat.le_of_ble_eq_true rfl) (Nat.le_of_ble_eq_true rfl) ?_
        exact xretL C0 hw hP hS d_LogCleaner_told_71
      · replace hw := hw.2.2.1 cz
        refine lv_tableIn (tgt := 72) hx hb d_LogCleaner_told_21 (by rw [cz]; decide) (by rw [cz]; decide) (by rw [cz]; rfl) (by decide) ?_
        refine lv_aload_n hx hb d_LogCleaner_told_72 rfl (lv_at hl 0 rfl) ?_
        refine xgetL hx hb htb i_Entry hown hK hP (ci := 2) rfl 0 (by decide) (htb _ k_LogCleaner_143) (fun _ h9 => h9) hw d_LogCleaner_told_73 (fun v6 hw => ?_)
        refine vx_ret ?_
        refine W.widen (k := 1) (n := 6) (Nat.le_of_ble_eq_true rfl) (Nat.le_of_ble_eq_true rfl) ?_
        exact xretL C0 hw hP hS d_LogCleaner_told_76
      · replace hw := hw.2.2.2.1 cz
        refine lv_tableIn (tgt := 77) hx hb d_LogCleaner_told_21 (by rw [cz]; decide) (by rw [cz]; decide) (by rw [cz]; rfl) (by decide) ?_
        refine lv_aload_n hx hb d_LogCleaner_told_77 rfl (lv_at hl 0 rfl) ?_
        refine xgetL hx hb htb i_Entry hown hK hP (ci := 2) rfl 3 (by decide) (htb _ k_LogCleaner_147) (fun _ h9 => h9) hw d_LogCleaner_told_78 (fun v7 hw => ?_)
        refine vx_ret ?_
        refine W.widen (k := 1) (n := 6) (Nat.le_of_ble_eq_true rfl) (Nat.le_of_ble_eq_true rfl) ?_
        exact xretL C0 hw hP hS d_LogCleaner_told_81
      · replace hw := hw.2.2.2.2.1 cz
        refine lv_tableIn (tgt := 82) hx hb d_LogCleaner_told_21 (by rw [cz]; decide) (by rw [cz]; decide) (by rw [cz]; rfl) (by decide) ?_
        refine lv_aload_n hx hb d_LogCleaner_told_82 rfl (lv_at hl 0 rfl) ?_
        refine xgetI hx hb htb i_Entry hown hK hP (ci := 2) rfl 2 (by decide) (htb _ k_LogCleaner_150) (fun _ h9 => h9) hw d_LogCleaner_told_83 (fun v8 hw => ?_)
        refine lv_if_eq (tgt := 93) hx hb d_LogCleaner_told_86 (by decide) (fun cq => ?_) (fun cq => ?_)
        · replace hw := hw.1 cq
          refine lv_lconst (v := 0) hx hb d_LogCleaner_told_93 (by decide) ?_
          exact sb_LogCleaner_told_94 C0 0 h1 _ _ _ hw hP hS (lv_sub hl [] rfl)
        · replace hw := hw.2 cq
          refine lv_lconst (v := 1) hx hb d_LogCleaner_told_89 (by decide) ?_
          refine lv_goto (tgt := 94) hx hb d_LogCleaner_told_90 (by decide) ?_
          exact sb_LogCleaner_told_94 C0 1 h1 _ _ _ hw hP hS (lv_sub hl [] rfl)
      · replace hw := hw.2.2.2.2.2.1 cz
        refine lv_tableIn (tgt := 95) hx hb d_LogCleaner_told_21 (by rw [cz]; decide) (by rw [cz]; decide) (by rw [cz]; rfl) (by decide) ?_
        refine lv_aload_n hx hb d_LogCleaner_told_95 rfl (lv_at hl 0 rfl) ?_
        refine xgetI hx hb htb i_Entry hown hK hP (ci := 2) rfl 4 (by decide) (htb _ k_LogCleaner_154) (fun _ h9 => h9) hw d_LogCleaner_told_96 (fun v9 hw => ?_)
        refine lv_i2l (v := v9.toInt64) hx hb d_LogCleaner_told_99 rfl ?_
        refine vx_ret ?_
        refine W.widen (k := 1) (n := 6) (Nat.le_of_ble_eq_true rfl) (Nat.le_of_ble_eq_true rfl) ?_
        exact xretL C0 hw hP hS d_LogCleaner_told_100

theorem d_LogCleaner_latest_0 : decode b_LogCleaner_latest 0 = .ok (.iload_n 3, 1) := by decide +kernel
theorem d_LogCleaner_latest_1 : decode b_LogCleaner_latest 1 = .ok (.ifCond .lt 9, 3) := by decide +kernel
theorem d_LogCleaner_latest_4 : decode b_LogCleaner_latest 4 = .ok (.iload_n 3, 1) := by decide +kernel
theorem d_LogCleaner_latest_5 : decode b_LogCleaner_latest 5 = .ok (.bipush 8, 2) := by decide +kernel
theorem d_LogCleaner_latest_7 : decode b_LogCleaner_latest 7 = .ok (.if_icmp .le 13, 3) := by decide +kernel
theorem d_LogCleaner_latest_10 : decode b_LogCleaner_latest 10 = .ok (.new 41, 3) := by decide +kernel
theorem d_LogCleaner_latest_13 : decode b_LogCleaner_latest 13 = .ok (.dup, 1) := by decide +kernel
theorem d_LogCleaner_latest_14 : decode b_LogCleaner_latest 14 = .ok (.ldc 157, 2) := by decide +kernel
theorem d_LogCleaner_latest_16 : decode b_LogCleaner_latest 16 = .ok (.invokespecial 45, 3) := by decide +kernel
theorem d_LogCleaner_latest_19 : decode b_LogCleaner_latest 19 = .ok (.athrow, 1) := by decide +kernel
theorem d_LogCleaner_latest_20 : decode b_LogCleaner_latest 20 = .ok (.aload_n 0, 1) := by decide +kernel
theorem d_LogCleaner_latest_21 : decode b_LogCleaner_latest 21 = .ok (.lload_n 1, 1) := by decide +kernel
theorem d_LogCleaner_latest_22 : decode b_LogCleaner_latest 22 = .ok (.iload_n 3, 1) := by decide +kernel
theorem d_LogCleaner_latest_23 : decode b_LogCleaner_latest 23 = .ok (.invokestatic 57, 3) := by decide +kernel
theorem d_LogCleaner_latest_26 : decode b_LogCleaner_latest 26 = .ok (.iload_n 3, 1) := by decide +kernel
theorem d_LogCleaner_latest_27 : decode b_LogCleaner_latest 27 = .ok (.invokevirtual 159, 3) := by decide +kernel
theorem d_LogCleaner_latest_30 : decode b_LogCleaner_latest 30 = .ok (.astore 4, 2) := by decide +kernel
theorem d_LogCleaner_latest_32 : decode b_LogCleaner_latest 32 = .ok (.aload 4, 2) := by decide +kernel
theorem d_LogCleaner_latest_34 : decode b_LogCleaner_latest 34 = .ok (.ifnonnull 7, 3) := by decide +kernel
theorem d_LogCleaner_latest_37 : decode b_LogCleaner_latest 37 = .ok (.iconst (-1), 1) := by decide +kernel
theorem d_LogCleaner_latest_38 : decode b_LogCleaner_latest 38 = .ok (.goto 8, 3) := by decide +kernel
theorem d_LogCleaner_latest_41 : decode b_LogCleaner_latest 41 = .ok (.aload 4, 2) := by decide +kernel
theorem d_LogCleaner_latest_43 : decode b_LogCleaner_latest 43 = .ok (.getfield 137, 3) := by decide +kernel
theorem d_LogCleaner_latest_46 : decode b_LogCleaner_latest 46 = .ok (.ireturn, 1) := by decide +kernel
def rm_LogCleaner_latest : Room := { frames := 6, cells := 1, slots := 6, locals := 82 }
def ws_LogCleaner_latest : List Cond := Cond.code y_LogCleaner_latest b_LogCleaner_latest 5 (some .int) :: TB
set_option maxHeartbeats 4000000 in
set_option maxRecDepth 100000 in
theorem sb_LogCleaner_latest_10 {p : Program} {l : Launch} {e : Env} {s : State} {m : MethodId} {args : Array Value} {below : List Frame} {meth : Method} {c : Code} {D : va_G} {d : Nat → ClassId} {A : Nat → Prop} {h0 : xw} {Q : Int32 → xw → Prop} {X : String → xw → Prop} (C0 : xctx p s m args meth c b_LogCleaner_latest 5 (some .int) R_LogCleaner D d A (xT l s c A)) : ∀ (h : xw) (H : Heap) (locs : List Loc) (ls : Array Slot), wb_LogCleaner_latest_10 d Q X  h → xR sgX h0 D A h H → va_S A s.heap H locs → lv_has ls 5 [] → W p l e rm_LogCleaner_latest s m args below meth c H locs 0 0 (vx_MQ below (va_Qi (fun r u => Q r u ∧ xfr sgX h0 u) (xB D d A) A) (xX (fun E u => X E u ∧ xfr sgX h0 u) D d A) args s 1 6 A) (F0 m 10 ls []) := by
  obtain ⟨hx, hb, hr, hml, hown, htb, hK, hA, hNB, hlocks, hXT⟩ := id C0
  intro  h H locs ls hw hP hS hl
  exact xthrow C0 (cls := "java/lang/IllegalArgumentException") (text := "keyBytes are not 0 .. 8") (names := ["java/lang/RuntimeException", "java/lang/Exception"]) (ik := 41) (is := 157) (ic := 45) (by decide) (by decide) k_LogCleaner_41c g_ini_java_lang_IllegalArgumentException (by decide) at_LogCleaner_45 at_LogCleaner_45_ok (by decide) (by decide) hw hP hS hl d_LogCleaner_latest_10 d_LogCleaner_latest_13 d_LogCleaner_latest_14 d_LogCleaner_latest_16 d_LogCleaner_latest_19 (Nat.le_of_ble_eq_true rfl) (Nat.le_of_ble_eq_true rfl) (Nat.le_of_ble_eq_true rfl) (Nat.le_of_ble_eq_true rfl) (Nat.le_of_ble_eq_true rfl) (Nat.le_of_ble_eq_true rfl)

set_option maxHeartbeats 4000000 in
set_option maxRecDepth 100000 in
theorem sb_LogCleaner_latest_46 {p : Program} {l : Launch} {e : Env} {s : State} {m : MethodId} {args : Array Value} {below : List Frame} {meth : Method} {c : Code} {D : va_G} {d : Nat → ClassId} {A : Nat → Prop} {h0 : xw} {Q : Int32 → xw → Prop} {X : String → xw → Prop} (C0 : xctx p s m args meth c b_LogCleaner_latest 5 (some .int) R_LogCleaner D d A (xT l s c A)) : ∀ (s0 : Int32) (h : xw) (H : Heap) (locs : List Loc) (ls : Array Slot), wb_LogCleaner_latest_46 d Q X  s0 h → xR sgX h0 D A h H → va_S A s.heap H locs → lv_has ls 5 [] → W p l e rm_LogCleaner_latest s m args below meth c H locs 0 0 (vx_MQ below (va_Qi (fun r u => Q r u ∧ xfr sgX h0 u) (xB D d A) A) (xX (fun E u => X E u ∧ xfr sgX h0 u) D d A) args s 1 6 A) (F0 m 46 ls [.int s0]) := by
  obtain ⟨hx, hb, hr, hml, hown, htb, hK, hA, hNB, hlocks, hXT⟩ := id C0
  intro  s0 h H locs ls hw hP hS hl
  refine vx_ret ?_
  refine W.widen (k := 1) (n := 6) (Nat.le_of_ble_eq_true rfl) (Nat.le_of_ble_eq_true rfl) ?_
  exact xretI C0 hw hP hS d_LogCleaner_latest_46

set_option maxHeartbeats 4000000 in
set_option maxRecDepth 100000 in
theorem m_LogCleaner_latest (l : Launch) (hlt : l.stackTraces = false) (D : va_G) (d : Nat → ClassId) (h : xw) (sz : Nat) (a0 : Nat) (a1 : Int64) (a3 : Int32) (Q : Int32 → xw → Prop) (X : String → xw → Prop) (hw : wp_LogCleaner_latest d h a0 a1 a3 Q X) : vx_Met l y_LogCleaner_latest ws_LogCleaner_latest rm_LogCleaner_latest (xPreX D d h [.ref a0, .long a1, .int a3] sz) (va_Qi (fun r u => Q r u ∧ xfr sgX h u) (xB D d (xA h sz)) (xA h sz)) (xX (fun E u => X E u ∧ xfr sgX h u) D d (xA h sz)) 1 6 (xA h sz) := by
  refine vx_ofW (cc := b_LogCleaner_latest) (maxL := 5) (ret := (some .int)) (by decide) rfl ?_
  intro p e s m args below meth c s₁ B hml htab hv
  obtain ⟨rfl, hsz, hP0, hK, hNB, hZ1, hZ2, hSt⟩ := hv
  have hts := atoms_spec (ws := ws_LogCleaner_latest) B.pre
  have htb := fun w (hw9 : w ∈ TB) => hts w (List.mem_cons_of_mem _ hw9)
  have hown : s.vm.findClass R_LogCleaner = some m.cls := findClass_of_methodNamed B.named
  subst hsz
  obtain ⟨A, hAe⟩ : ∃ A, A = xA h s.heap.size := ⟨_, rfl⟩
  rw [← hAe] at hZ1 hZ2 ⊢
  have hP : xR sgX h D A h s.heap := ⟨by rw [hAe]; exact hP0.self, xfr.rf⟩
  have hA : ∀ q, s.heap.size ≤ q → A q := fun q hq => by rw [hAe]; exact Or.inr hq
  have hS : va_S A s.heap s.heap [] := va_S.rf
  have C0 : xctx p s m ([.ref a0, .long a1, .int a3] : List Value).toArray meth c b_LogCleaner_latest 5 (some .int) R_LogCleaner D d A (xT l s c A) := ⟨B.exec, B.bytes, B.returns, hml, hown, htb, hK, hA, hNB, B.notSynchronized, ⟨hlt, hZ1, hZ2, hSt, htab⟩⟩
  obtain ⟨hx, hb, hr, -, -, -, -, -, -, hlocks, hXT⟩ := id C0
  have hl := lv_entry ([.ref a0, .long a1, .int a3] : List Value) (n := 5) (Nat.le_of_ble_eq_true rfl)
  rw [lg_entry_eq]
  generalize (lg_sl ([.ref a0, .long a1, .int a3] : List Value) ++ List.replicate (5 - (lg_sl ([.ref a0, .long a1, .int a3] : List Value)).length) Slot.unset).toArray = ls at hl ⊢
  have hl : lv_has ls 5 [(0, .ref a0), (1, .long a1), (3, .int a3)] := hl
  refine lv_iload_n hx hb d_LogCleaner_latest_0 rfl (lv_at hl 2 rfl) ?_
  refine lv_if_lt (tgt := 10) hx hb d_LogCleaner_latest_1 (by decide) (fun cq => ?_) (fun cq => ?_)
  · replace hw := hw.1 cq
    exact sb_LogCleaner_latest_10 C0  h _ _ _ hw hP hS (lv_sub hl [] rfl)
  · replace hw := hw.2 cq
    refine lv_iload_n hx hb d_LogCleaner_latest_4 rfl (lv_at hl 2 rfl) ?_
    refine lv_bipush (v := 8) hx hb d_LogCleaner_latest_5 (by decide) ?_
    refine lv_icmp_le (tgt := 20) hx hb d_LogCleaner_latest_7 (by decide) (fun cq => ?_) (fun cq => ?_)
    · replace hw := hw.1 cq
      refine lv_aload_n hx hb d_LogCleaner_latest_20 rfl (lv_at hl 0 rfl) ?_
      refine lv_lload_n hx hb d_LogCleaner_latest_21 rfl (lv_at hl 1 rfl) ?_
      refine lv_iload_n hx hb d_LogCleaner_latest_22 rfl (lv_at hl 2 rfl) ?_
      refine xcalll (va_runS (As := [.long a1, .int a3]) (rest := [.ref a0]) ⟨hx, hb, hml, hown, htb⟩ (m_LogCleaner_lowestBytes l D d h _ a1 a3 _ hw) (xcwS 2 htb g_code_LogCleaner_lowestBytes g_ini_LogCleaner k_LogCleaner_57 g_st_LogCleaner_lowestBytes rfl rfl (by decide +kernel) ⟨(Nat.le_of_ble_eq_true rfl), (Nat.le_of_ble_eq_true rfl)⟩) (xpreI hP hK hNB) rfl rfl hl.1 rfl (lv_room (Nat.le_of_ble_eq_true rfl)) d_LogCleaner_latest_23 ⟨(Nat.le_of_ble_eq_true rfl), (Nat.le_of_ble_eq_true rfl)⟩) hP hS hA (fun r2 h1 H locs hw hP hS => ?_)
      refine W.widen (k := 0) (n := 0) (Nat.le_of_ble_eq_true rfl) (Nat.le_of_ble_eq_true rfl) ?_
      refine lv_iload_n hx hb d_LogCleaner_latest_26 rfl (lv_at hl 2 rfl) ?_
      obtain ⟨⟨_, hw0⟩, hw⟩ := hw
      refine xcallq (va_runV (b := a0) (As := [.long r2, .int a3]) (rest := []) ⟨hx, hb, hml, hown, htb⟩ (m_LogCleaner_latestWithKey l D d h1 _ a0 r2 a3 _ hw) (xcwV 2 htb g_code_LogCleaner_latestWithKey g_ini_LogCleaner k_LogCleaner_159 g_im_LogCleaner_latestWithKey g_sel_LogCleaner_latestWithKey rfl rfl (by decide +kernel) ⟨(Nat.le_of_ble_eq_true rfl), (Nat.le_of_ble_eq_true rfl)⟩) (xpreV hP hK hNB (ci := 0) rfl hw0) rfl rfl hl.1 rfl (lv_room (Nat.le_of_ble_eq_true rfl)) d_LogCleaner_latest_27 ⟨(Nat.le_of_ble_eq_true rfl), (Nat.le_of_ble_eq_true rfl)⟩) hP hS hA (fun r4 h3 H locs hw hP hS => ?_)
      refine W.widen (k := 0) (n := 0) (Nat.le_of_ble_eq_true rfl) (Nat.le_of_ble_eq_true rfl) ?_
      refine xv_astore (lv' := [(4, va_rf r4), (0, .ref a0), (1, .long a1), (3, .int a3)]) hx hb d_LogCleaner_latest_30 hl (by decide) rfl (fun ls hl => ?_)
      refine xv_aload hx hb d_LogCleaner_latest_32 (lv_at hl 0 rfl) ?_
      revert hw
      revert hl
      rcases r4 with _ | p5
      · intro hl hw
        replace hw := hw.1 rfl
        refine lv_ifnonnullN hx hb d_LogCleaner_latest_34 ?_
        refine lv_iconst (v := (-1)) hx hb d_LogCleaner_latest_37 (by decide) ?_
        refine lv_goto (tgt := 46) hx hb d_LogCleaner_latest_38 (by decide) ?_
        exact sb_LogCleaner_latest_46 C0 (-1) h3 _ _ _ hw hP hS (lv_sub hl [] rfl)
      · intro hl hw
        replace hw := hw.2 p5 rfl
        refine lv_ifnonnull (tgt := 41) hx hb d_LogCleaner_latest_34 (by decide) ?_
        refine lv_aload hx hb d_LogCleaner_latest_41 (lv_at hl 0 rfl) ?_
        refine xgetI hx hb htb i_Entry hown hK hP (ci := 2) rfl 5 (by decide) (htb _ k_LogCleaner_137) (fun _ h9 => h9) hw d_LogCleaner_latest_43 (fun v6 hw => ?_)
        exact sb_LogCleaner_latest_46 C0 v6 h3 _ _ _ hw hP hS (lv_sub hl [] rfl)
    · replace hw := hw.2 cq
      exact sb_LogCleaner_latest_10 C0  h _ _ _ hw hP hS (lv_sub hl [] rfl)

