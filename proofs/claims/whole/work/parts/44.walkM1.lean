theorem d_LogCleanerModel_init_0 : decode b_LogCleanerModel_init 0 = .ok (.aload_n 0, 1) := by decide +kernel
theorem d_LogCleanerModel_init_1 : decode b_LogCleanerModel_init 1 = .ok (.invokespecial 1, 3) := by decide +kernel
theorem d_LogCleanerModel_init_4 : decode b_LogCleanerModel_init 4 = .ok (.aload_n 0, 1) := by decide +kernel
theorem d_LogCleanerModel_init_5 : decode b_LogCleanerModel_init 5 = .ok (.sipush 4000, 3) := by decide +kernel
theorem d_LogCleanerModel_init_8 : decode b_LogCleanerModel_init 8 = .ok (.newarray .int, 2) := by decide +kernel
theorem d_LogCleanerModel_init_10 : decode b_LogCleanerModel_init 10 = .ok (.putfield 7, 3) := by decide +kernel
theorem d_LogCleanerModel_init_13 : decode b_LogCleanerModel_init 13 = .ok (.aload_n 0, 1) := by decide +kernel
theorem d_LogCleanerModel_init_14 : decode b_LogCleanerModel_init 14 = .ok (.sipush 4000, 3) := by decide +kernel
theorem d_LogCleanerModel_init_17 : decode b_LogCleanerModel_init 17 = .ok (.newarray .int, 2) := by decide +kernel
theorem d_LogCleanerModel_init_19 : decode b_LogCleanerModel_init 19 = .ok (.putfield 13, 3) := by decide +kernel
theorem d_LogCleanerModel_init_22 : decode b_LogCleanerModel_init 22 = .ok (.aload_n 0, 1) := by decide +kernel
theorem d_LogCleanerModel_init_23 : decode b_LogCleanerModel_init 23 = .ok (.sipush 4000, 3) := by decide +kernel
theorem d_LogCleanerModel_init_26 : decode b_LogCleanerModel_init 26 = .ok (.newarray .long, 2) := by decide +kernel
theorem d_LogCleanerModel_init_28 : decode b_LogCleanerModel_init 28 = .ok (.putfield 16, 3) := by decide +kernel
theorem d_LogCleanerModel_init_31 : decode b_LogCleanerModel_init 31 = .ok (.aload_n 0, 1) := by decide +kernel
theorem d_LogCleanerModel_init_32 : decode b_LogCleanerModel_init 32 = .ok (.sipush 4000, 3) := by decide +kernel
theorem d_LogCleanerModel_init_35 : decode b_LogCleanerModel_init 35 = .ok (.newarray .int, 2) := by decide +kernel
theorem d_LogCleanerModel_init_37 : decode b_LogCleanerModel_init 37 = .ok (.putfield 20, 3) := by decide +kernel
theorem d_LogCleanerModel_init_40 : decode b_LogCleanerModel_init 40 = .ok (.aload_n 0, 1) := by decide +kernel
theorem d_LogCleanerModel_init_41 : decode b_LogCleanerModel_init 41 = .ok (.sipush 4000, 3) := by decide +kernel
theorem d_LogCleanerModel_init_44 : decode b_LogCleanerModel_init 44 = .ok (.newarray .boolean, 2) := by decide +kernel
theorem d_LogCleanerModel_init_46 : decode b_LogCleanerModel_init 46 = .ok (.putfield 23, 3) := by decide +kernel
theorem d_LogCleanerModel_init_49 : decode b_LogCleanerModel_init 49 = .ok (.aload_n 0, 1) := by decide +kernel
theorem d_LogCleanerModel_init_50 : decode b_LogCleanerModel_init 50 = .ok (.sipush 4000, 3) := by decide +kernel
theorem d_LogCleanerModel_init_53 : decode b_LogCleanerModel_init 53 = .ok (.newarray .long, 2) := by decide +kernel
theorem d_LogCleanerModel_init_55 : decode b_LogCleanerModel_init 55 = .ok (.putfield 27, 3) := by decide +kernel
theorem d_LogCleanerModel_init_58 : decode b_LogCleanerModel_init 58 = .ok (.aload_n 0, 1) := by decide +kernel
theorem d_LogCleanerModel_init_59 : decode b_LogCleanerModel_init 59 = .ok (.sipush 4000, 3) := by decide +kernel
theorem d_LogCleanerModel_init_62 : decode b_LogCleanerModel_init 62 = .ok (.newarray .int, 2) := by decide +kernel
theorem d_LogCleanerModel_init_64 : decode b_LogCleanerModel_init 64 = .ok (.putfield 30, 3) := by decide +kernel
theorem d_LogCleanerModel_init_67 : decode b_LogCleanerModel_init 67 = .ok (.aload_n 0, 1) := by decide +kernel
theorem d_LogCleanerModel_init_68 : decode b_LogCleanerModel_init 68 = .ok (.bipush 100, 2) := by decide +kernel
theorem d_LogCleanerModel_init_70 : decode b_LogCleanerModel_init 70 = .ok (.newarray .long, 2) := by decide +kernel
theorem d_LogCleanerModel_init_72 : decode b_LogCleanerModel_init 72 = .ok (.putfield 33, 3) := by decide +kernel
theorem d_LogCleanerModel_init_75 : decode b_LogCleanerModel_init 75 = .ok (.aload_n 0, 1) := by decide +kernel
theorem d_LogCleanerModel_init_76 : decode b_LogCleanerModel_init 76 = .ok (.bipush 100, 2) := by decide +kernel
theorem d_LogCleanerModel_init_78 : decode b_LogCleanerModel_init 78 = .ok (.newarray .int, 2) := by decide +kernel
theorem d_LogCleanerModel_init_80 : decode b_LogCleanerModel_init 80 = .ok (.putfield 36, 3) := by decide +kernel
theorem d_LogCleanerModel_init_83 : decode b_LogCleanerModel_init 83 = .ok (.aload_n 0, 1) := by decide +kernel
theorem d_LogCleanerModel_init_84 : decode b_LogCleanerModel_init 84 = .ok (.bipush 100, 2) := by decide +kernel
theorem d_LogCleanerModel_init_86 : decode b_LogCleanerModel_init 86 = .ok (.newarray .boolean, 2) := by decide +kernel
theorem d_LogCleanerModel_init_88 : decode b_LogCleanerModel_init 88 = .ok (.putfield 39, 3) := by decide +kernel
theorem d_LogCleanerModel_init_91 : decode b_LogCleanerModel_init 91 = .ok (.aload_n 0, 1) := by decide +kernel
theorem d_LogCleanerModel_init_92 : decode b_LogCleanerModel_init 92 = .ok (.bipush 100, 2) := by decide +kernel
theorem d_LogCleanerModel_init_94 : decode b_LogCleanerModel_init 94 = .ok (.newarray .long, 2) := by decide +kernel
theorem d_LogCleanerModel_init_96 : decode b_LogCleanerModel_init 96 = .ok (.putfield 42, 3) := by decide +kernel
theorem d_LogCleanerModel_init_99 : decode b_LogCleanerModel_init 99 = .ok (.aload_n 0, 1) := by decide +kernel
theorem d_LogCleanerModel_init_100 : decode b_LogCleanerModel_init 100 = .ok (.bipush 100, 2) := by decide +kernel
theorem d_LogCleanerModel_init_102 : decode b_LogCleanerModel_init 102 = .ok (.newarray .int, 2) := by decide +kernel
theorem d_LogCleanerModel_init_104 : decode b_LogCleanerModel_init 104 = .ok (.putfield 45, 3) := by decide +kernel
theorem d_LogCleanerModel_init_107 : decode b_LogCleanerModel_init 107 = .ok (.aload_n 0, 1) := by decide +kernel
theorem d_LogCleanerModel_init_108 : decode b_LogCleanerModel_init 108 = .ok (.sipush 400, 3) := by decide +kernel
theorem d_LogCleanerModel_init_111 : decode b_LogCleanerModel_init 111 = .ok (.newarray .int, 2) := by decide +kernel
theorem d_LogCleanerModel_init_113 : decode b_LogCleanerModel_init 113 = .ok (.putfield 48, 3) := by decide +kernel
theorem d_LogCleanerModel_init_116 : decode b_LogCleanerModel_init 116 = .ok (.aload_n 0, 1) := by decide +kernel
theorem d_LogCleanerModel_init_117 : decode b_LogCleanerModel_init 117 = .ok (.sipush 400, 3) := by decide +kernel
theorem d_LogCleanerModel_init_120 : decode b_LogCleanerModel_init 120 = .ok (.newarray .int, 2) := by decide +kernel
theorem d_LogCleanerModel_init_122 : decode b_LogCleanerModel_init 122 = .ok (.putfield 51, 3) := by decide +kernel
theorem d_LogCleanerModel_init_125 : decode b_LogCleanerModel_init 125 = .ok (.aload_n 0, 1) := by decide +kernel
theorem d_LogCleanerModel_init_126 : decode b_LogCleanerModel_init 126 = .ok (.sipush 400, 3) := by decide +kernel
theorem d_LogCleanerModel_init_129 : decode b_LogCleanerModel_init 129 = .ok (.newarray .int, 2) := by decide +kernel
theorem d_LogCleanerModel_init_131 : decode b_LogCleanerModel_init 131 = .ok (.putfield 54, 3) := by decide +kernel
theorem d_LogCleanerModel_init_134 : decode b_LogCleanerModel_init 134 = .ok (.aload_n 0, 1) := by decide +kernel
theorem d_LogCleanerModel_init_135 : decode b_LogCleanerModel_init 135 = .ok (.sipush 4000, 3) := by decide +kernel
theorem d_LogCleanerModel_init_138 : decode b_LogCleanerModel_init 138 = .ok (.newarray .boolean, 2) := by decide +kernel
theorem d_LogCleanerModel_init_140 : decode b_LogCleanerModel_init 140 = .ok (.putfield 57, 3) := by decide +kernel
theorem d_LogCleanerModel_init_143 : decode b_LogCleanerModel_init 143 = .ok (.aload_n 0, 1) := by decide +kernel
theorem d_LogCleanerModel_init_144 : decode b_LogCleanerModel_init 144 = .ok (.sipush 400, 3) := by decide +kernel
theorem d_LogCleanerModel_init_147 : decode b_LogCleanerModel_init 147 = .ok (.newarray .boolean, 2) := by decide +kernel
theorem d_LogCleanerModel_init_149 : decode b_LogCleanerModel_init 149 = .ok (.putfield 60, 3) := by decide +kernel
theorem d_LogCleanerModel_init_152 : decode b_LogCleanerModel_init 152 = .ok (.aload_n 0, 1) := by decide +kernel
theorem d_LogCleanerModel_init_153 : decode b_LogCleanerModel_init 153 = .ok (.sipush 400, 3) := by decide +kernel
theorem d_LogCleanerModel_init_156 : decode b_LogCleanerModel_init 156 = .ok (.newarray .int, 2) := by decide +kernel
theorem d_LogCleanerModel_init_158 : decode b_LogCleanerModel_init 158 = .ok (.putfield 63, 3) := by decide +kernel
theorem d_LogCleanerModel_init_161 : decode b_LogCleanerModel_init 161 = .ok (.return_, 1) := by decide +kernel
def rm_LogCleanerModel_init : Room := { frames := 1, cells := 18, slots := 34500, locals := 12 }
def ws_LogCleanerModel_init : List Cond := Cond.code y_LogCleanerModel_init b_LogCleanerModel_init 1 none :: TB
set_option maxHeartbeats 4000000 in
set_option maxRecDepth 100000 in
theorem m_LogCleanerModel_init (l : Launch) (D : va_G) (d : Nat → ClassId) (h : xw) (sz : Nat) (a0 : Nat) (Q : xw → Prop) (hw : wp_LogCleanerModel_init d h a0 Q) : Met l y_LogCleanerModel_init ws_LogCleanerModel_init rm_LogCleanerModel_init (xPre D d h [.ref a0] sz) (va_Qv (fun u => Q u ∧ xfr sgM h u) (xB D d (xA h sz)) (xA h sz)) 18 34500 (xA h sz) := by
  refine Met.ofW (cc := b_LogCleanerModel_init) (maxL := 1) (ret := none) (by decide) rfl ?_
  intro p e s m args below meth c s₁ B hml hv
  obtain ⟨rfl, hsz, hP0, hK, hNB⟩ := hv
  have hts := atoms_spec (ws := ws_LogCleanerModel_init) B.pre
  have htb := fun w (hw9 : w ∈ TB) => hts w (List.mem_cons_of_mem _ hw9)
  have hown : s.vm.findClass R_LogCleanerModel = some m.cls := findClass_of_methodNamed B.named
  subst hsz
  obtain ⟨A, hAe⟩ : ∃ A, A = xA h s.heap.size := ⟨_, rfl⟩
  rw [← hAe]
  have hP : xR sgM h D A h s.heap := ⟨by rw [hAe]; exact hP0.self, xfr.rf⟩
  have hA : ∀ q, s.heap.size ≤ q → A q := fun q hq => by rw [hAe]; exact Or.inr hq
  have hS : va_S A s.heap s.heap [] := va_S.rf
  have C0 : xctx p s m ([.ref a0] : List Value).toArray meth c b_LogCleanerModel_init 1 none R_LogCleanerModel D d A (meth.name = "<init>") := ⟨B.exec, B.bytes, B.returns, hml, hown, htb, hK, hA, hNB, B.notSynchronized, (name_of_methodNamed B.named B.method).1⟩
  obtain ⟨hx, hb, hr, -, -, -, -, -, -, hlocks, hXT⟩ := id C0
  have hl := lv_entry ([.ref a0] : List Value) (n := 1) (Nat.le_of_ble_eq_true rfl)
  rw [lg_entry_eq]
  generalize (lg_sl ([.ref a0] : List Value) ++ List.replicate (1 - (lg_sl ([.ref a0] : List Value)).length) Slot.unset).toArray = ls at hl ⊢
  have hl : lv_has ls 1 [(0, .ref a0)] := hl
  refine lv_aload_n hx hb d_LogCleanerModel_init_0 rfl (lv_at hl 0 rfl) ?_
  refine W.objInit hx hb hown (htb _ k_LogCleanerModel_1) (htb _ g_im_obj) (htb _ g_code_obj) rfl (by rw [hml]; exact hl.1) rfl d_LogCleanerModel_init_1 (Nat.le_of_ble_eq_true rfl) (Nat.le_of_ble_eq_true rfl) ?_
  refine W.eq (g2 := F0 m 4 ls []) rfl ?_
  refine lv_aload_n hx hb d_LogCleanerModel_init_4 rfl (lv_at hl 0 rfl) ?_
  refine lv_sipush (v := 4000) hx hb d_LogCleanerModel_init_5 (by decide) ?_
  refine xnewi (B := 4000) hx hb (htb _ g_ac_int) hK hP hS hA 2 rfl (by decide) (Nat.le_of_ble_eq_true rfl) (Nat.le_of_ble_eq_true rfl) hw d_LogCleanerModel_init_8 (fun q2 h1 H hw hP hS => ?_)
  refine W.widen (k := 1) (n := 4000) (Nat.le_of_ble_eq_true rfl) (Nat.le_of_ble_eq_true rfl) ?_
  refine xputFQ (t9 := .int) hx hb htb i_LogCleanerModel t_LogCleanerModel t_LogCleanerModel_ok n_LogCleanerModel hown hK hP hS (ci := 4) rfl (fun _ => rfl) 2 (by decide) (htb _ k_LogCleanerModel_7) (fun _ h9 => h9) rfl hXT rfl (by decide +kernel) hw d_LogCleanerModel_init_10 (fun h3 H locs hw hP hS => ?_)
  refine lv_aload_n hx hb d_LogCleanerModel_init_13 rfl (lv_at hl 0 rfl) ?_
  refine lv_sipush (v := 4000) hx hb d_LogCleanerModel_init_14 (by decide) ?_
  refine xnewi (B := 4000) hx hb (htb _ g_ac_int) hK hP hS hA 2 rfl (by decide) (Nat.le_of_ble_eq_true rfl) (Nat.le_of_ble_eq_true rfl) hw d_LogCleanerModel_init_17 (fun q5 h4 H hw hP hS => ?_)
  refine W.widen (k := 2) (n := 8000) (Nat.le_of_ble_eq_true rfl) (Nat.le_of_ble_eq_true rfl) ?_
  refine xputFQ (t9 := .int) hx hb htb i_LogCleanerModel t_LogCleanerModel t_LogCleanerModel_ok n_LogCleanerModel hown hK hP hS (ci := 4) rfl (fun _ => rfl) 3 (by decide) (htb _ k_LogCleanerModel_13) (fun _ h9 => h9) rfl hXT rfl (by decide +kernel) hw d_LogCleanerModel_init_19 (fun h6 H locs hw hP hS => ?_)
  refine lv_aload_n hx hb d_LogCleanerModel_init_22 rfl (lv_at hl 0 rfl) ?_
  refine lv_sipush (v := 4000) hx hb d_LogCleanerModel_init_23 (by decide) ?_
  refine xnewl (B := 4000) hx hb (htb _ g_ac_long) hK hP hS hA 3 rfl (by decide) (Nat.le_of_ble_eq_true rfl) (Nat.le_of_ble_eq_true rfl) hw d_LogCleanerModel_init_26 (fun q8 h7 H hw hP hS => ?_)
  refine W.widen (k := 3) (n := 12000) (Nat.le_of_ble_eq_true rfl) (Nat.le_of_ble_eq_true rfl) ?_
  refine xputFQ (t9 := .long) hx hb htb i_LogCleanerModel t_LogCleanerModel t_LogCleanerModel_ok n_LogCleanerModel hown hK hP hS (ci := 4) rfl (fun _ => rfl) 4 (by decide) (htb _ k_LogCleanerModel_16) (fun _ h9 => h9) rfl hXT rfl (by decide +kernel) hw d_LogCleanerModel_init_28 (fun h9 H locs hw hP hS => ?_)
  refine lv_aload_n hx hb d_LogCleanerModel_init_31 rfl (lv_at hl 0 rfl) ?_
  refine lv_sipush (v := 4000) hx hb d_LogCleanerModel_init_32 (by decide) ?_
  refine xnewi (B := 4000) hx hb (htb _ g_ac_int) hK hP hS hA 2 rfl (by decide) (Nat.le_of_ble_eq_true rfl) (Nat.le_of_ble_eq_true rfl) hw d_LogCleanerModel_init_35 (fun q11 h10 H hw hP hS => ?_)
  refine W.widen (k := 4) (n := 16000) (Nat.le_of_ble_eq_true rfl) (Nat.le_of_ble_eq_true rfl) ?_
  refine xputFQ (t9 := .int) hx hb htb i_LogCleanerModel t_LogCleanerModel t_LogCleanerModel_ok n_LogCleanerModel hown hK hP hS (ci := 4) rfl (fun _ => rfl) 5 (by decide) (htb _ k_LogCleanerModel_20) (fun _ h9 => h9) rfl hXT rfl (by decide +kernel) hw d_LogCleanerModel_init_37 (fun h12 H locs hw hP hS => ?_)
  refine lv_aload_n hx hb d_LogCleanerModel_init_40 rfl (lv_at hl 0 rfl) ?_
  refine lv_sipush (v := 4000) hx hb d_LogCleanerModel_init_41 (by decide) ?_
  refine xnewz (B := 4000) hx hb (htb _ g_ac_boolean) hK hP hS hA 4 rfl (by decide) (Nat.le_of_ble_eq_true rfl) (Nat.le_of_ble_eq_true rfl) hw d_LogCleanerModel_init_44 (fun q14 h13 H hw hP hS => ?_)
  refine W.widen (k := 5) (n := 20000) (Nat.le_of_ble_eq_true rfl) (Nat.le_of_ble_eq_true rfl) ?_
  refine xputFQ (t9 := .boolean) hx hb htb i_LogCleanerModel t_LogCleanerModel t_LogCleanerModel_ok n_LogCleanerModel hown hK hP hS (ci := 4) rfl (fun _ => rfl) 6 (by decide) (htb _ k_LogCleanerModel_23) (fun _ h9 => h9) rfl hXT rfl (by decide +kernel) hw d_LogCleanerModel_init_46 (fun h15 H locs hw hP hS => ?_)
  refine lv_aload_n hx hb d_LogCleanerModel_init_49 rfl (lv_at hl 0 rfl) ?_
  refine lv_sipush (v := 4000) hx hb d_LogCleanerModel_init_50 (by decide) ?_
  refine xnewl (B := 4000) hx hb (htb _ g_ac_long) hK hP hS hA 3 rfl (by decide) (Nat.le_of_ble_eq_true rfl) (Nat.le_of_ble_eq_true rfl) hw d_LogCleanerModel_init_53 (fun q17 h16 H hw hP hS => ?_)
  refine W.widen (k := 6) (n := 24000) (Nat.le_of_ble_eq_true rfl) (Nat.le_of_ble_eq_true rfl) ?_
  refine xputFQ (t9 := .long) hx hb htb i_LogCleanerModel t_LogCleanerModel t_LogCleanerModel_ok n_LogCleanerModel hown hK hP hS (ci := 4) rfl (fun _ => rfl) 7 (by decide) (htb _ k_LogCleanerModel_27) (fun _ h9 => h9) rfl hXT rfl (by decide +kernel) hw d_LogCleanerModel_init_55 (fun h18 H locs hw hP hS => ?_)
  refine lv_aload_n hx hb d_LogCleanerModel_init_58 rfl (lv_at hl 0 rfl) ?_
  refine lv_sipush (v := 4000) hx hb d_LogCleanerModel_init_59 (by decide) ?_
  refine xnewi (B := 4000) hx hb (htb _ g_ac_int) hK hP hS hA 2 rfl (by decide) (Nat.le_of_ble_eq_true rfl) (Nat.le_of_ble_eq_true rfl) hw d_LogCleanerModel_init_62 (fun q20 h19 H hw hP hS => ?_)
  refine W.widen (k := 7) (n := 28000) (Nat.le_of_ble_eq_true rfl) (Nat.le_of_ble_eq_true rfl) ?_
  refine xputFQ (t9 := .int) hx hb htb i_LogCleanerModel t_LogCleanerModel t_LogCleanerModel_ok n_LogCleanerModel hown hK hP hS (ci := 4) rfl (fun _ => rfl) 8 (by decide) (htb _ k_LogCleanerModel_30) (fun _ h9 => h9) rfl hXT rfl (by decide +kernel) hw d_LogCleanerModel_init_64 (fun h21 H locs hw hP hS => ?_)
  refine lv_aload_n hx hb d_LogCleanerModel_init_67 rfl (lv_at hl 0 rfl) ?_
  refine lv_bipush (v := 100) hx hb d_LogCleanerModel_init_68 (by decide) ?_
  refine xnewl (B := 100) hx hb (htb _ g_ac_long) hK hP hS hA 3 rfl (by decide) (Nat.le_of_ble_eq_true rfl) (Nat.le_of_ble_eq_true rfl) hw d_LogCleanerModel_init_70 (fun q23 h22 H hw hP hS => ?_)
  refine W.widen (k := 8) (n := 28100) (Nat.le_of_ble_eq_true rfl) (Nat.le_of_ble_eq_true rfl) ?_
  refine xputFQ (t9 := .long) hx hb htb i_LogCleanerModel t_LogCleanerModel t_LogCleanerModel_ok n_LogCleanerModel hown hK hP hS (ci := 4) rfl (fun _ => rfl) 11 (by decide) (htb _ k_LogCleanerModel_33) (fun _ h9 => h9) rfl hXT rfl (by decide +kernel) hw d_LogCleanerModel_init_72 (fun h24 H locs hw hP hS => ?_)
  refine lv_aload_n hx hb d_LogCleanerModel_init_75 rfl (lv_at hl 0 rfl) ?_
  refine lv_bipush (v := 100) hx hb d_LogCleanerModel_init_76 (by decide) ?_
  refine xnewi (B := 100) hx hb (htb _ g_ac_int) hK hP hS hA 2 rfl (by decide) (Nat.le_of_ble_eq_true rfl) (Nat.le_of_ble_eq_true rfl) hw d_LogCleanerModel_init_78 (fun q26 h25 H hw hP hS => ?_)
  refine W.widen (k := 9) (n := 28200) (Nat.le_of_ble_eq_true rfl) (Nat.le_of_ble_eq_true rfl) ?_
  refine xputFQ (t9 := .int) hx hb htb i_LogCleanerModel t_LogCleanerModel t_LogCleanerModel_ok n_LogCleanerModel hown hK hP hS (ci := 4) rfl (fun _ => rfl) 12 (by decide) (htb _ k_LogCleanerModel_36) (fun _ h9 => h9) rfl hXT rfl (by decide +kernel) hw d_LogCleanerModel_init_80 (fun h27 H locs hw hP hS => ?_)
  refine lv_aload_n hx hb d_LogCleanerModel_init_83 rfl (lv_at hl 0 rfl) ?_
  refine lv_bipush (v := 100) hx hb d_LogCleanerModel_init_84 (by decide) ?_
  refine xnewz (B := 100) hx hb (htb _ g_ac_boolean) hK hP hS hA 4 rfl (by decide) (Nat.le_of_ble_eq_true rfl) (Nat.le_of_ble_eq_true rfl) hw d_LogCleanerModel_init_86 (fun q29 h28 H hw hP hS => ?_)
  refine W.widen (k := 10) (n := 28300) (Nat.le_of_ble_eq_true rfl) (Nat.le_of_ble_eq_true rfl) ?_
  refine xputFQ (t9 := .boolean) hx hb htb i_LogCleanerModel t_LogCleanerModel t_LogCleanerModel_ok n_LogCleanerModel hown hK hP hS (ci := 4) rfl (fun _ => rfl) 13 (by decide) (htb _ k_LogCleanerModel_39) (fun _ h9 => h9) rfl hXT rfl (by decide +kernel) hw d_LogCleanerModel_init_88 (fun h30 H locs hw hP hS => ?_)
  refine lv_aload_n hx hb d_LogCleanerModel_init_91 rfl (lv_at hl 0 rfl) ?_
  refine lv_bipush (v := 100) hx hb d_LogCleanerModel_init_92 (by decide) ?_
  refine xnewl (B := 100) hx hb (htb _ g_ac_long) hK hP hS hA 3 rfl (by decide) (Nat.le_of_ble_eq_true rfl) (Nat.le_of_ble_eq_true rfl) hw d_LogCleanerModel_init_94 (fun q32 h31 H hw hP hS => ?_)
  refine W.widen (k := 11) (n := 28400) (Nat.le_of_ble_eq_true rfl) (Nat.le_of_ble_eq_true rfl) ?_
  refine xputFQ (t9 := .long) hx hb htb i_LogCleanerModel t_LogCleanerModel t_LogCleanerModel_ok n_LogCleanerModel hown hK hP hS (ci := 4) rfl (fun _ => rfl) 14 (by decide) (htb _ k_LogCleanerModel_42) (fun _ h9 => h9) rfl hXT rfl (by decide +kernel) hw d_LogCleanerModel_init_96 (fun h33 H locs hw hP hS => ?_)
  refine lv_aload_n hx hb d_LogCleanerModel_init_99 rfl (lv_at hl 0 rfl) ?_
  refine lv_bipush (v := 100) hx hb d_LogCleanerModel_init_100 (by decide) ?_
  refine xnewi (B := 100) hx hb (htb _ g_ac_int) hK hP hS hA 2 rfl (by decide) (Nat.le_of_ble_eq_true rfl) (Nat.le_of_ble_eq_true rfl) hw d_LogCleanerModel_init_102 (fun q35 h34 H hw hP hS => ?_)
  refine W.widen (k := 12) (n := 28500) (Nat.le_of_ble_eq_true rfl) (Nat.le_of_ble_eq_true rfl) ?_
  refine xputFQ (t9 := .int) hx hb htb i_LogCleanerModel t_LogCleanerModel t_LogCleanerModel_ok n_LogCleanerModel hown hK hP hS (ci := 4) rfl (fun _ => rfl) 15 (by decide) (htb _ k_LogCleanerModel_45) (fun _ h9 => h9) rfl hXT rfl (by decide +kernel) hw d_LogCleanerModel_init_104 (fun h36 H locs hw hP hS => ?_)
  refine lv_aload_n hx hb d_LogCleanerModel_init_107 rfl (lv_at hl 0 rfl) ?_
  refine lv_sipush (v := 400) hx hb d_LogCleanerModel_init_108 (by decide) ?_
  refine xnewi (B := 400) hx hb (htb _ g_ac_int) hK hP hS hA 2 rfl (by decide) (Nat.le_of_ble_eq_true rfl) (Nat.le_of_ble_eq_true rfl) hw d_LogCleanerModel_init_111 (fun q38 h37 H hw hP hS => ?_)
  refine W.widen (k := 13) (n := 28900) (Nat.le_of_ble_eq_true rfl) (Nat.le_of_ble_eq_true rfl) ?_
  refine xputFQ (t9 := .int) hx hb htb i_LogCleanerModel t_LogCleanerModel t_LogCleanerModel_ok n_LogCleanerModel hown hK hP hS (ci := 4) rfl (fun _ => rfl) 17 (by decide) (htb _ k_LogCleanerModel_48) (fun _ h9 => h9) rfl hXT rfl (by decide +kernel) hw d_LogCleanerModel_init_113 (fun h39 H locs hw hP hS => ?_)
  refine lv_aload_n hx hb d_LogCleanerModel_init_116 rfl (lv_at hl 0 rfl) ?_
  refine lv_sipush (v := 400) hx hb d_LogCleanerModel_init_117 (by decide) ?_
  refine xnewi (B := 400) hx hb (htb _ g_ac_int) hK hP hS hA 2 rfl (by decide) (Nat.le_of_ble_eq_true rfl) (Nat.le_of_ble_eq_true rfl) hw d_LogCleanerModel_init_120 (fun q41 h40 H hw hP hS => ?_)
  refine W.widen (k := 14) (n := 29300) (Nat.le_of_ble_eq_true rfl) (Nat.le_of_ble_eq_true rfl) ?_
  refine xputFQ (t9 := .int) hx hb htb i_LogCleanerModel t_LogCleanerModel t_LogCleanerModel_ok n_LogCleanerModel hown hK hP hS (ci := 4) rfl (fun _ => rfl) 18 (by decide) (htb _ k_LogCleanerModel_51) (fun _ h9 => h9) rfl hXT rfl (by decide +kernel) hw d_LogCleanerModel_init_122 (fun h42 H locs hw hP hS => ?_)
  refine lv_aload_n hx hb d_LogCleanerModel_init_125 rfl (lv_at hl 0 rfl) ?_
  refine lv_sipush (v := 400) hx hb d_LogCleanerModel_init_126 (by decide) ?_
  refine xnewi (B := 400) hx hb (htb _ g_ac_int) hK hP hS hA 2 rfl (by decide) (Nat.le_of_ble_eq_true rfl) (Nat.le_of_ble_eq_true rfl) hw d_LogCleanerModel_init_129 (fun q44 h43 H hw hP hS => ?_)
  refine W.widen (k := 15) (n := 29700) (Nat.le_of_ble_eq_true rfl) (Nat.le_of_ble_eq_true rfl) ?_
  refine xputFQ (t9 := .int) hx hb htb i_LogCleanerModel t_LogCleanerModel t_LogCleanerModel_ok n_LogCleanerModel hown hK hP hS (ci := 4) rfl (fun _ => rfl) 19 (by decide) (htb _ k_LogCleanerModel_54) (fun _ h9 => h9) rfl hXT rfl (by decide +kernel) hw d_LogCleanerModel_init_131 (fun h45 H locs hw hP hS => ?_)
  refine lv_aload_n hx hb d_LogCleanerModel_init_134 rfl (lv_at hl 0 rfl) ?_
  refine lv_sipush (v := 4000) hx hb d_LogCleanerModel_init_135 (by decide) ?_
  refine xnewz (B := 4000) hx hb (htb _ g_ac_boolean) hK hP hS hA 4 rfl (by decide) (Nat.le_of_ble_eq_true rfl) (Nat.le_of_ble_eq_true rfl) hw d_LogCleanerModel_init_138 (fun q47 h46 H hw hP hS => ?_)
  refine W.widen (k := 16) (n := 33700) (Nat.le_of_ble_eq_true rfl) (Nat.le_of_ble_eq_true rfl) ?_
  refine xputFQ (t9 := .boolean) hx hb htb i_LogCleanerModel t_LogCleanerModel t_LogCleanerModel_ok n_LogCleanerModel hown hK hP hS (ci := 4) rfl (fun _ => rfl) 20 (by decide) (htb _ k_LogCleanerModel_57) (fun _ h9 => h9) rfl hXT rfl (by decide +kernel) hw d_LogCleanerModel_init_140 (fun h48 H locs hw hP hS => ?_)
  refine lv_aload_n hx hb d_LogCleanerModel_init_143 rfl (lv_at hl 0 rfl) ?_
  refine lv_sipush (v := 400) hx hb d_LogCleanerModel_init_144 (by decide) ?_
  refine xnewz (B := 400) hx hb (htb _ g_ac_boolean) hK hP hS hA 4 rfl (by decide) (Nat.le_of_ble_eq_true rfl) (Nat.le_of_ble_eq_true rfl) hw d_LogCleanerModel_init_147 (fun q50 h49 H hw hP hS => ?_)
  refine W.widen (k := 17) (n := 34100) (Nat.le_of_ble_eq_true rfl) (Nat.le_of_ble_eq_true rfl) ?_
  refine xputFQ (t9 := .boolean) hx hb htb i_LogCleanerModel t_LogCleanerModel t_LogCleanerModel_ok n_LogCleanerModel hown hK hP hS (ci := 4) rfl (fun _ => rfl) 21 (by decide) (htb _ k_LogCleanerModel_60) (fun _ h9 => h9) rfl hXT rfl (by decide +kernel) hw d_LogCleanerModel_init_149 (fun h51 H locs hw hP hS => ?_)
  refine lv_aload_n hx hb d_LogCleanerModel_init_152 rfl (lv_at hl 0 rfl) ?_
  refine lv_sipush (v := 400) hx hb d_LogCleanerModel_init_153 (by decide) ?_
  refine xnewi (B := 400) hx hb (htb _ g_ac_int) hK hP hS hA 2 rfl (by decide) (Nat.le_of_ble_eq_true rfl) (Nat.le_of_ble_eq_true rfl) hw d_LogCleanerModel_init_156 (fun q53 h52 H hw hP hS => ?_)
  refine W.widen (k := 18) (n := 34500) (Nat.le_of_ble_eq_true rfl) (Nat.le_of_ble_eq_true rfl) ?_
  refine xputFQ (t9 := .int) hx hb htb i_LogCleanerModel t_LogCleanerModel t_LogCleanerModel_ok n_LogCleanerModel hown hK hP hS (ci := 4) rfl (fun _ => rfl) 22 (by decide) (htb _ k_LogCleanerModel_63) (fun _ h9 => h9) rfl hXT rfl (by decide +kernel) hw d_LogCleanerModel_init_158 (fun h54 H locs hw hP hS => ?_)
  refine W.widen (k := 18) (n := 34500) (Nat.le_of_ble_eq_true rfl) (Nat.le_of_ble_eq_true rfl) ?_
  exact xretV C0 hw hP hS d_LogCleanerModel_init_161

theorem d_LogCleanerModel_lowest_0 : decode b_LogCleanerModel_lowest 0 = .ok (.lconst 0, 1) := by decide +kernel
theorem d_LogCleanerModel_lowest_1 : decode b_LogCleanerModel_lowest 1 = .ok (.lstore_n 3, 1) := by decide +kernel
theorem d_LogCleanerModel_lowest_2 : decode b_LogCleanerModel_lowest 2 = .ok (.iload_n 2, 1) := by decide +kernel
theorem d_LogCleanerModel_lowest_3 : decode b_LogCleanerModel_lowest 3 = .ok (.iconst 1, 1) := by decide +kernel
theorem d_LogCleanerModel_lowest_4 : decode b_LogCleanerModel_lowest 4 = .ok (.isub, 1) := by decide +kernel
theorem d_LogCleanerModel_lowest_5 : decode b_LogCleanerModel_lowest 5 = .ok (.istore 5, 2) := by decide +kernel
theorem d_LogCleanerModel_lowest_7 : decode b_LogCleanerModel_lowest 7 = .ok (.iload 5, 2) := by decide +kernel
theorem d_LogCleanerModel_lowest_9 : decode b_LogCleanerModel_lowest 9 = .ok (.ifCond .lt 26, 3) := by decide +kernel
theorem d_LogCleanerModel_lowest_12 : decode b_LogCleanerModel_lowest 12 = .ok (.lload_n 3, 1) := by decide +kernel
theorem d_LogCleanerModel_lowest_13 : decode b_LogCleanerModel_lowest 13 = .ok (.bipush 8, 2) := by decide +kernel
theorem d_LogCleanerModel_lowest_15 : decode b_LogCleanerModel_lowest 15 = .ok (.lshl, 1) := by decide +kernel
theorem d_LogCleanerModel_lowest_16 : decode b_LogCleanerModel_lowest 16 = .ok (.lload_n 0, 1) := by decide +kernel
theorem d_LogCleanerModel_lowest_17 : decode b_LogCleanerModel_lowest 17 = .ok (.bipush 8, 2) := by decide +kernel
theorem d_LogCleanerModel_lowest_19 : decode b_LogCleanerModel_lowest 19 = .ok (.iload 5, 2) := by decide +kernel
theorem d_LogCleanerModel_lowest_21 : decode b_LogCleanerModel_lowest 21 = .ok (.imul, 1) := by decide +kernel
theorem d_LogCleanerModel_lowest_22 : decode b_LogCleanerModel_lowest 22 = .ok (.lshr, 1) := by decide +kernel
theorem d_LogCleanerModel_lowest_23 : decode b_LogCleanerModel_lowest 23 = .ok (.ldc2_w 70, 3) := by decide +kernel
theorem d_LogCleanerModel_lowest_26 : decode b_LogCleanerModel_lowest 26 = .ok (.land, 1) := by decide +kernel
theorem d_LogCleanerModel_lowest_27 : decode b_LogCleanerModel_lowest 27 = .ok (.lor, 1) := by decide +kernel
theorem d_LogCleanerModel_lowest_28 : decode b_LogCleanerModel_lowest 28 = .ok (.lstore_n 3, 1) := by decide +kernel
theorem d_LogCleanerModel_lowest_29 : decode b_LogCleanerModel_lowest 29 = .ok (.iinc 5 (-1), 3) := by decide +kernel
theorem d_LogCleanerModel_lowest_32 : decode b_LogCleanerModel_lowest 32 = .ok (.goto (-25), 3) := by decide +kernel
theorem d_LogCleanerModel_lowest_35 : decode b_LogCleanerModel_lowest 35 = .ok (.lload_n 3, 1) := by decide +kernel
theorem d_LogCleanerModel_lowest_36 : decode b_LogCleanerModel_lowest 36 = .ok (.lreturn, 1) := by decide +kernel
def rm_LogCleanerModel_lowest : Room := { frames := 0, cells := 0, slots := 0, locals := 0 }
def ws_LogCleanerModel_lowest : List Cond := Cond.code y_LogCleanerModel_lowest b_LogCleanerModel_lowest 6 (some .long) :: TB
set_option maxHeartbeats 4000000 in
set_option maxRecDepth 100000 in
theorem sl_LogCleanerModel_lowest_7 {p : Program} {l : Launch} {e : Env} {s : State} {m : MethodId} {args : Array Value} {below : List Frame} {meth : Method} {c : Code} {D : va_G} {d : Nat → ClassId} {A : Nat → Prop} {h0 : xw} {Q : Int64 → xw → Prop} (C0 : xctx p s m args meth c b_LogCleanerModel_lowest 6 (some .long) R_LogCleanerModel D d A True) : ∀ (n : Nat) (x : Int64 × Int64 × Int32) (h : xw) (H : Heap) (locs : List Loc) (ls : Array Slot), xloop (fun (k : Int64 × Int64 × Int32 → xw → Prop) (x : Int64 × Int64 × Int32) (h : xw) => wc_LogCleanerModel_lowest_7 d Q (fun y0 y3 y5 h => k (y0, y3, y5) h) x.1 x.2.1 x.2.2 h) n x h → xR sgM h0 D A h H → va_S A s.heap H locs → lv_has ls 6 [(0, .long x.1), (3, .long x.2.1), (5, .int x.2.2)] → W p l e rm_LogCleanerModel_lowest s m args below meth c H locs 0 0 (MQ below (va_Ql (fun r u => Q r u ∧ xfr sgM h0 u) (xB D d A) A) args s 0 0 A) (F0 m 7 ls []) := by
  obtain ⟨hx, hb, hr, hml, hown, htb, hK, hA, hNB, hlocks, hXT⟩ := id C0
  intro n
  induction n with
  | zero => intro x h H locs ls hw; exact hw.elim
  | succ n ih =>
    rintro ⟨x0, x3, x5⟩ h H locs ls hw hP hS hl
    replace hw : wc_LogCleanerModel_lowest_7 d Q (fun y0 y3 y5 h => xloop (fun (k : Int64 × Int64 × Int32 → xw → Prop) (x : Int64 × Int64 × Int32) (h : xw) => wc_LogCleanerModel_lowest_7 d Q (fun y0 y3 y5 h => k (y0, y3, y5) h) x.1 x.2.1 x.2.2 h) n (y0, y3, y5) h) x0 x3 x5 h := hw
    have hk7 := fun (x0 : Int64) (x3 : Int64) (x5 : Int32) => ih (x0, x3, x5)
    refine lv_iload hx hb d_LogCleanerModel_lowest_7 (lv_at hl 2 rfl) ?_
    refine lv_if_lt (tgt := 35) hx hb d_LogCleanerModel_lowest_9 (by decide) (fun cq => ?_) (fun cq => ?_)
    · replace hw := hw.1 cq
      refine lv_lload_n hx hb d_LogCleanerModel_lowest_35 rfl (lv_at hl 1 rfl) ?_
      refine W.widen (k := 0) (n := 0) (Nat.le_of_ble_eq_true rfl) (Nat.le_of_ble_eq_true rfl) ?_
      exact xretL C0 hw hP hS d_LogCleanerModel_lowest_36
    · replace hw := hw.2 cq
      refine lv_lload_n hx hb d_LogCleanerModel_lowest_12 rfl (lv_at hl 1 rfl) ?_
      refine lv_bipush (v := 8) hx hb d_LogCleanerModel_lowest_13 (by decide) ?_
      refine lv_lshl (v := x3 <<< ((8 : Int32).toInt64 &&& 63)) hx hb d_LogCleanerModel_lowest_15 rfl ?_
      refine lv_lload_n hx hb d_LogCleanerModel_lowest_16 rfl (lv_at hl 0 rfl) ?_
      refine lv_bipush (v := 8) hx hb d_LogCleanerModel_lowest_17 (by decide) ?_
      refine lv_iload hx hb d_LogCleanerModel_lowest_19 (lv_at hl 2 rfl) ?_
      refine lv_imul hx hb d_LogCleanerModel_lowest_21 ?_
      refine lv_lshr (v := x0 >>> ((8 * x5).toInt64 &&& 63)) hx hb d_LogCleanerModel_lowest_22 rfl ?_
      refine lv_ldc2 (v := 255) hx hb hown (htb _ k_LogCleanerModel_70) d_LogCleanerModel_lowest_23 ?_
      refine lv_land hx hb d_LogCleanerModel_lowest_26 ?_
      refine lv_lor hx hb d_LogCleanerModel_lowest_27 ?_
      refine lv_lstore_n (lv' := [(3, .long ((x3 <<< ((8 : Int32).toInt64 &&& 63)) ||| ((x0 >>> ((8 * x5).toInt64 &&& 63)) &&& 255))), (0, .long x0), (5, .int x5)]) hx hb d_LogCleanerModel_lowest_28 rfl hl (by decide) rfl (fun ls hl => ?_)
      refine lv_iinc (v := x5 + (-1)) (lv' := [(5, .int (x5 + (-1))), (3, .long ((x3 <<< ((8 : Int32).toInt64 &&& 63)) ||| ((x0 >>> ((8 * x5).toInt64 &&& 63)) &&& 255))), (0, .long x0)]) hx hb d_LogCleanerModel_lowest_29 hl (k := 2) rfl rfl (by decide) rfl (fun ls hl => ?_)
      refine lv_goto (tgt := 7) hx hb d_LogCleanerModel_lowest_32 (by decide) ?_
      exact hk7 x0 ((x3 <<< ((8 : Int32).toInt64 &&& 63)) ||| ((x0 >>> ((8 * x5).toInt64 &&& 63)) &&& 255)) (x5 + (-1)) h _ _ _ hw hP hS (lv_sub hl [2, 1, 0] rfl)

set_option maxHeartbeats 4000000 in
set_option maxRecDepth 100000 in
theorem m_LogCleanerModel_lowest (l : Launch) (D : va_G) (d : Nat → ClassId) (h : xw) (sz : Nat) (a0 : Int64) (a2 : Int32) (Q : Int64 → xw → Prop) (hw : wp_LogCleanerModel_lowest d h a0 a2 Q) : Met l y_LogCleanerModel_lowest ws_LogCleanerModel_lowest rm_LogCleanerModel_lowest (xPre D d h [.long a0, .int a2] sz) (va_Ql (fun r u => Q r u ∧ xfr sgM h u) (xB D d (xA h sz)) (xA h sz)) 0 0 (xA h sz) := by
  refine Met.ofW (cc := b_LogCleanerModel_lowest) (maxL := 6) (ret := (some .long)) (by decide) rfl ?_
  intro p e s m args below meth c s₁ B hml hv
  obtain ⟨rfl, hsz, hP0, hK, hNB⟩ := hv
  have hts := atoms_spec (ws := ws_LogCleanerModel_lowest) B.pre
  have htb := fun w (hw9 : w ∈ TB) => hts w (List.mem_cons_of_mem _ hw9)
  have hown : s.vm.findClass R_LogCleanerModel = some m.cls := findClass_of_methodNamed B.named
  subst hsz
  obtain ⟨A, hAe⟩ : ∃ A, A = xA h s.heap.size := ⟨_, rfl⟩
  rw [← hAe]
  have hP : xR sgM h D A h s.heap := ⟨by rw [hAe]; exact hP0.self, xfr.rf⟩
  have hA : ∀ q, s.heap.size ≤ q → A q := fun q hq => by rw [hAe]; exact Or.inr hq
  have hS : va_S A s.heap s.heap [] := va_S.rf
  have C0 : xctx p s m ([.long a0, .int a2] : List Value).toArray meth c b_LogCleanerModel_lowest 6 (some .long) R_LogCleanerModel D d A True := ⟨B.exec, B.bytes, B.returns, hml, hown, htb, hK, hA, hNB, B.notSynchronized, trivial⟩
  obtain ⟨hx, hb, hr, -, -, -, -, -, -, hlocks, hXT⟩ := id C0
  have hl := lv_entry ([.long a0, .int a2] : List Value) (n := 6) (Nat.le_of_ble_eq_true rfl)
  rw [lg_entry_eq]
  generalize (lg_sl ([.long a0, .int a2] : List Value) ++ List.replicate (6 - (lg_sl ([.long a0, .int a2] : List Value)).length) Slot.unset).toArray = ls at hl ⊢
  have hl : lv_has ls 6 [(0, .long a0), (2, .int a2)] := hl
  refine lv_lconst (v := 0) hx hb d_LogCleanerModel_lowest_0 (by decide) ?_
  refine lv_lstore_n (lv' := [(3, .long 0), (0, .long a0), (2, .int a2)]) hx hb d_LogCleanerModel_lowest_1 rfl hl (by decide) rfl (fun ls hl => ?_)
  refine lv_iload_n hx hb d_LogCleanerModel_lowest_2 rfl (lv_at hl 2 rfl) ?_
  refine lv_iconst (v := 1) hx hb d_LogCleanerModel_lowest_3 (by decide) ?_
  refine lv_isub hx hb d_LogCleanerModel_lowest_4 ?_
  refine lv_istore (lv' := [(5, .int (a2 - 1)), (3, .long 0), (0, .long a0), (2, .int a2)]) hx hb d_LogCleanerModel_lowest_5 hl (by decide) rfl (fun ls hl => ?_)
  obtain ⟨n, hw⟩ := hw
  exact sl_LogCleanerModel_lowest_7 C0 n (a0, 0, (a2 - 1)) h _ _ _ hw hP hS (lv_sub hl [2, 1, 0] rfl)

theorem d_LogCleanerModel_record_0 : decode b_LogCleanerModel_record 0 = .ok (.aload_n 0, 1) := by decide +kernel
theorem d_LogCleanerModel_record_1 : decode b_LogCleanerModel_record 1 = .ok (.iload_n 3, 1) := by decide +kernel
theorem d_LogCleanerModel_record_2 : decode b_LogCleanerModel_record 2 = .ok (.iconst (-1), 1) := by decide +kernel
theorem d_LogCleanerModel_record_3 : decode b_LogCleanerModel_record 3 = .ok (.if_icmp .lt 14, 3) := by decide +kernel
theorem d_LogCleanerModel_record_6 : decode b_LogCleanerModel_record 6 = .ok (.iload_n 3, 1) := by decide +kernel
theorem d_LogCleanerModel_record_7 : decode b_LogCleanerModel_record 7 = .ok (.bipush 8, 2) := by decide +kernel
theorem d_LogCleanerModel_record_9 : decode b_LogCleanerModel_record 9 = .ok (.if_icmp .gt 8, 3) := by decide +kernel
theorem d_LogCleanerModel_record_12 : decode b_LogCleanerModel_record 12 = .ok (.iload 7, 2) := by decide +kernel
theorem d_LogCleanerModel_record_14 : decode b_LogCleanerModel_record 14 = .ok (.ifCond .ge 7, 3) := by decide +kernel
theorem d_LogCleanerModel_record_17 : decode b_LogCleanerModel_record 17 = .ok (.iconst 1, 1) := by decide +kernel
theorem d_LogCleanerModel_record_18 : decode b_LogCleanerModel_record 18 = .ok (.goto 34, 3) := by decide +kernel
theorem d_LogCleanerModel_record_21 : decode b_LogCleanerModel_record 21 = .ok (.aload_n 0, 1) := by decide +kernel
theorem d_LogCleanerModel_record_22 : decode b_LogCleanerModel_record 22 = .ok (.getfield 72, 3) := by decide +kernel
theorem d_LogCleanerModel_record_25 : decode b_LogCleanerModel_record 25 = .ok (.bipush 100, 2) := by decide +kernel
theorem d_LogCleanerModel_record_27 : decode b_LogCleanerModel_record 27 = .ok (.if_icmp .eq 20, 3) := by decide +kernel
theorem d_LogCleanerModel_record_30 : decode b_LogCleanerModel_record 30 = .ok (.aload_n 0, 1) := by decide +kernel
theorem d_LogCleanerModel_record_31 : decode b_LogCleanerModel_record 31 = .ok (.getfield 75, 3) := by decide +kernel
theorem d_LogCleanerModel_record_34 : decode b_LogCleanerModel_record 34 = .ok (.aload_n 0, 1) := by decide +kernel
theorem d_LogCleanerModel_record_35 : decode b_LogCleanerModel_record 35 = .ok (.getfield 72, 3) := by decide +kernel
theorem d_LogCleanerModel_record_38 : decode b_LogCleanerModel_record 38 = .ok (.iadd, 1) := by decide +kernel
theorem d_LogCleanerModel_record_39 : decode b_LogCleanerModel_record 39 = .ok (.iconst 1, 1) := by decide +kernel
theorem d_LogCleanerModel_record_40 : decode b_LogCleanerModel_record 40 = .ok (.iadd, 1) := by decide +kernel
theorem d_LogCleanerModel_record_41 : decode b_LogCleanerModel_record 41 = .ok (.sipush 4000, 3) := by decide +kernel
theorem d_LogCleanerModel_record_44 : decode b_LogCleanerModel_record 44 = .ok (.if_icmp .le 7, 3) := by decide +kernel
theorem d_LogCleanerModel_record_47 : decode b_LogCleanerModel_record 47 = .ok (.iconst 2, 1) := by decide +kernel
theorem d_LogCleanerModel_record_48 : decode b_LogCleanerModel_record 48 = .ok (.goto 4, 3) := by decide +kernel
theorem d_LogCleanerModel_record_51 : decode b_LogCleanerModel_record 51 = .ok (.iconst 0, 1) := by decide +kernel
theorem d_LogCleanerModel_record_52 : decode b_LogCleanerModel_record 52 = .ok (.putfield 66, 3) := by decide +kernel
theorem d_LogCleanerModel_record_55 : decode b_LogCleanerModel_record 55 = .ok (.aload_n 0, 1) := by decide +kernel
theorem d_LogCleanerModel_record_56 : decode b_LogCleanerModel_record 56 = .ok (.getfield 66, 3) := by decide +kernel
theorem d_LogCleanerModel_record_59 : decode b_LogCleanerModel_record 59 = .ok (.ifCond .le 5, 3) := by decide +kernel
theorem d_LogCleanerModel_record_62 : decode b_LogCleanerModel_record 62 = .ok (.iconst 0, 1) := by decide +kernel
theorem d_LogCleanerModel_record_63 : decode b_LogCleanerModel_record 63 = .ok (.ireturn, 1) := by decide +kernel
theorem d_LogCleanerModel_record_64 : decode b_LogCleanerModel_record 64 = .ok (.aload_n 0, 1) := by decide +kernel
theorem d_LogCleanerModel_record_65 : decode b_LogCleanerModel_record 65 = .ok (.getfield 33, 3) := by decide +kernel
theorem d_LogCleanerModel_record_68 : decode b_LogCleanerModel_record 68 = .ok (.aload_n 0, 1) := by decide +kernel
theorem d_LogCleanerModel_record_69 : decode b_LogCleanerModel_record 69 = .ok (.getfield 72, 3) := by decide +kernel
theorem d_LogCleanerModel_record_72 : decode b_LogCleanerModel_record 72 = .ok (.lload_n 1, 1) := by decide +kernel
theorem d_LogCleanerModel_record_73 : decode b_LogCleanerModel_record 73 = .ok (.iload_n 3, 1) := by decide +kernel
theorem d_LogCleanerModel_record_74 : decode b_LogCleanerModel_record 74 = .ok (.invokestatic 78, 3) := by decide +kernel
theorem d_LogCleanerModel_record_77 : decode b_LogCleanerModel_record 77 = .ok (.lastore, 1) := by decide +kernel
theorem d_LogCleanerModel_record_78 : decode b_LogCleanerModel_record 78 = .ok (.aload_n 0, 1) := by decide +kernel
theorem d_LogCleanerModel_record_79 : decode b_LogCleanerModel_record 79 = .ok (.getfield 36, 3) := by decide +kernel
theorem d_LogCleanerModel_record_82 : decode b_LogCleanerModel_record 82 = .ok (.aload_n 0, 1) := by decide +kernel
theorem d_LogCleanerModel_record_83 : decode b_LogCleanerModel_record 83 = .ok (.getfield 72, 3) := by decide +kernel
theorem d_LogCleanerModel_record_86 : decode b_LogCleanerModel_record 86 = .ok (.iload_n 3, 1) := by decide +kernel
theorem d_LogCleanerModel_record_87 : decode b_LogCleanerModel_record 87 = .ok (.iastore, 1) := by decide +kernel
theorem d_LogCleanerModel_record_88 : decode b_LogCleanerModel_record 88 = .ok (.aload_n 0, 1) := by decide +kernel
theorem d_LogCleanerModel_record_89 : decode b_LogCleanerModel_record 89 = .ok (.getfield 39, 3) := by decide +kernel
theorem d_LogCleanerModel_record_92 : decode b_LogCleanerModel_record 92 = .ok (.aload_n 0, 1) := by decide +kernel
theorem d_LogCleanerModel_record_93 : decode b_LogCleanerModel_record 93 = .ok (.getfield 72, 3) := by decide +kernel
theorem d_LogCleanerModel_record_96 : decode b_LogCleanerModel_record 96 = .ok (.iload 4, 2) := by decide +kernel
theorem d_LogCleanerModel_record_98 : decode b_LogCleanerModel_record 98 = .ok (.bastore, 1) := by decide +kernel
theorem d_LogCleanerModel_record_99 : decode b_LogCleanerModel_record 99 = .ok (.aload_n 0, 1) := by decide +kernel
theorem d_LogCleanerModel_record_100 : decode b_LogCleanerModel_record 100 = .ok (.getfield 42, 3) := by decide +kernel
theorem d_LogCleanerModel_record_103 : decode b_LogCleanerModel_record 103 = .ok (.aload_n 0, 1) := by decide +kernel
theorem d_LogCleanerModel_record_104 : decode b_LogCleanerModel_record 104 = .ok (.getfield 72, 3) := by decide +kernel
theorem d_LogCleanerModel_record_107 : decode b_LogCleanerModel_record 107 = .ok (.iload 4, 2) := by decide +kernel
theorem d_LogCleanerModel_record_109 : decode b_LogCleanerModel_record 109 = .ok (.ifCond .eq 8, 3) := by decide +kernel
theorem d_LogCleanerModel_record_112 : decode b_LogCleanerModel_record 112 = .ok (.lload 5, 2) := by decide +kernel
theorem d_LogCleanerModel_record_114 : decode b_LogCleanerModel_record 114 = .ok (.goto 4, 3) := by decide +kernel
theorem d_LogCleanerModel_record_117 : decode b_LogCleanerModel_record 117 = .ok (.lconst 0, 1) := by decide +kernel
theorem d_LogCleanerModel_record_118 : decode b_LogCleanerModel_record 118 = .ok (.lastore, 1) := by decide +kernel
theorem d_LogCleanerModel_record_119 : decode b_LogCleanerModel_record 119 = .ok (.aload_n 0, 1) := by decide +kernel
theorem d_LogCleanerModel_record_120 : decode b_LogCleanerModel_record 120 = .ok (.getfield 45, 3) := by decide +kernel
theorem d_LogCleanerModel_record_123 : decode b_LogCleanerModel_record 123 = .ok (.aload_n 0, 1) := by decide +kernel
theorem d_LogCleanerModel_record_124 : decode b_LogCleanerModel_record 124 = .ok (.getfield 72, 3) := by decide +kernel
theorem d_LogCleanerModel_record_127 : decode b_LogCleanerModel_record 127 = .ok (.iload 7, 2) := by decide +kernel
theorem d_LogCleanerModel_record_129 : decode b_LogCleanerModel_record 129 = .ok (.iastore, 1) := by decide +kernel
theorem d_LogCleanerModel_record_130 : decode b_LogCleanerModel_record 130 = .ok (.aload_n 0, 1) := by decide +kernel
theorem d_LogCleanerModel_record_131 : decode b_LogCleanerModel_record 131 = .ok (.dup, 1) := by decide +kernel
theorem d_LogCleanerModel_record_132 : decode b_LogCleanerModel_record 132 = .ok (.getfield 72, 3) := by decide +kernel
theorem d_LogCleanerModel_record_135 : decode b_LogCleanerModel_record 135 = .ok (.iconst 1, 1) := by decide +kernel
theorem d_LogCleanerModel_record_136 : decode b_LogCleanerModel_record 136 = .ok (.iadd, 1) := by decide +kernel
theorem d_LogCleanerModel_record_137 : decode b_LogCleanerModel_record 137 = .ok (.putfield 72, 3) := by decide +kernel
theorem d_LogCleanerModel_record_140 : decode b_LogCleanerModel_record 140 = .ok (.aload_n 0, 1) := by decide +kernel
theorem d_LogCleanerModel_record_141 : decode b_LogCleanerModel_record 141 = .ok (.getfield 72, 3) := by decide +kernel
theorem d_LogCleanerModel_record_144 : decode b_LogCleanerModel_record 144 = .ok (.ireturn, 1) := by decide +kernel
def rm_LogCleanerModel_record : Room := { frames := 1, cells := 0, slots := 0, locals := 25 }
def ws_LogCleanerModel_record : List Cond := Cond.code y_LogCleanerModel_record b_LogCleanerModel_record 8 (some .int) :: TB
set_option maxHeartbeats 4000000 in
set_option maxRecDepth 100000 in
theorem sb_LogCleanerModel_record_118 {p : Program} {l : Launch} {e : Env} {s : State} {m : MethodId} {args : Array Value} {below : List Frame} {meth : Method} {c : Code} {D : va_G} {d : Nat → ClassId} {A : Nat → Prop} {h0 : xw} {Q : Int32 → xw → Prop} (C0 : xctx p s m args meth c b_LogCleanerModel_record 8 (some .int) R_LogCleanerModel D d A True) : ∀ (x0 : Nat) (x7 : Int32) (s0 : Int64) (s1 : Int32) (s2 : Option Nat) (h : xw) (H : Heap) (locs : List Loc) (ls : Array Slot), wb_LogCleanerModel_record_118 d Q x0 x7 s0 s1 s2 h → xR sgM h0 D A h H → va_S A s.heap H locs → lv_has ls 8 [(0, .ref x0), (7, .int x7)] → W p l e rm_LogCleanerModel_record s m args below meth c H locs 0 0 (MQ below (va_Qi (fun r u => Q r u ∧ xfr sgM h0 u) (xB D d A) A) args s 0 0 A) (F0 m 118 ls [.long s0, .int s1, va_rf s2]) := by
  obtain ⟨hx, hb, hr, hml, hown, htb, hK, hA, hNB, hlocks, hXT⟩ := id C0
  intro x0 x7 s0 s1 s2 h H locs ls hw hP hS hl
  obtain ⟨p19, hpe, hw⟩ := hw
  revert hw
  revert hl
  subst hpe
  intro hl hw
  replace hl : lv_has ls 8 [(0, .ref x0), (7, .int x7)] := hl
  refine xstl hx hb hK hP hS 3 rfl (fun _ _ => rfl) hw d_LogCleanerModel_record_118 (fun h20 H locs hw hP hS => ?_)
  refine lv_aload_n hx hb d_LogCleanerModel_record_119 rfl (lv_at hl 0 rfl) ?_
  refine xgetA hx hb htb i_LogCleanerModel hown hK hP (ci := 4) rfl 15 (by decide) (htb _ k_LogCleanerModel_45) (fun _ h9 => h9) hw d_LogCleanerModel_record_120 (fun r21 hw => ?_)
  refine lv_aload_n hx hb d_LogCleanerModel_record_123 rfl (lv_at hl 0 rfl) ?_
  refine xgetI hx hb htb i_LogCleanerModel hown hK hP (ci := 4) rfl 10 (by decide) (htb _ k_LogCleanerModel_72) (fun _ h9 => h9) hw d_LogCleanerModel_record_124 (fun v22 hw => ?_)
  refine lv_iload hx hb d_LogCleanerModel_record_127 (lv_at hl 1 rfl) ?_
  obtain ⟨p23, hpe, hw⟩ := hw
  revert hw
  revert hl
  subst hpe
  intro hl hw
  replace hl : lv_has ls 8 [(0, .ref x0), (7, .int x7)] := hl
  refine xsti hx hb hK hP hS 2 rfl (fun _ _ => rfl) hw d_LogCleanerModel_record_129 (fun h24 H locs hw hP hS => ?_)
  refine lv_aload_n hx hb d_LogCleanerModel_record_130 rfl (lv_at hl 0 rfl) ?_
  refine lv_dup hx hb d_LogCleanerModel_record_131 rfl ?_
  refine xgetI hx hb htb i_LogCleanerModel hown hK hP (ci := 4) rfl 10 (by decide) (htb _ k_LogCleanerModel_72) (fun _ h9 => h9) hw d_LogCleanerModel_record_132 (fun v25 hw => ?_)
  refine lv_iconst (v := 1) hx hb d_LogCleanerModel_record_135 (by decide) ?_
  refine lv_iadd hx hb d_LogCleanerModel_record_136 ?_
  refine xputI hx hb htb i_LogCleanerModel t_LogCleanerModel t_LogCleanerModel_ok n_LogCleanerModel hown hK hP hS (ci := 4) rfl (fun _ => rfl) 10 (by decide) (htb _ k_LogCleanerModel_72) (fun _ h9 => h9) rfl (by decide +kernel) hw d_LogCleanerModel_record_137 (fun h26 H locs hw hP hS => ?_)
  refine lv_aload_n hx hb d_LogCleanerModel_record_140 rfl (lv_at hl 0 rfl) ?_
  refine xgetI hx hb htb i_LogCleanerModel hown hK hP (ci := 4) rfl 10 (by decide) (htb _ k_LogCleanerModel_72) (fun _ h9 => h9) hw d_LogCleanerModel_record_141 (fun v27 hw => ?_)
  refine W.widen (k := 0) (n := 0) (Nat.le_of_ble_eq_true rfl) (Nat.le_of_ble_eq_true rfl) ?_
  exact xretI C0 hw hP hS d_LogCleanerModel_record_144

set_option maxHeartbeats 4000000 in
set_option maxRecDepth 100000 in
theorem sb_LogCleanerModel_record_52 {p : Program} {l : Launch} {e : Env} {s : State} {m : MethodId} {args : Array Value} {below : List Frame} {meth : Method} {c : Code} {D : va_G} {d : Nat → ClassId} {A : Nat → Prop} {h0 : xw} {Q : Int32 → xw → Prop} (C0 : xctx p s m args meth c b_LogCleanerModel_record 8 (some .int) R_LogCleanerModel D d A True) : ∀ (x0 : Nat) (x1 : Int64) (x3 : Int32) (x4 : Int32) (x5 : Int64) (x7 : Int32) (s0 : Int32) (s1 : Nat) (h : xw) (H : Heap) (locs : List Loc) (ls : Array Slot), wb_LogCleanerModel_record_52 d Q x0 x1 x3 x4 x5 x7 s0 s1 h → xR sgM h0 D A h H → va_S A s.heap H locs → lv_has ls 8 [(0, .ref x0), (1, .long x1), (3, .int x3), (4, .int x4), (5, .long x5), (7, .int x7)] → W p l e rm_LogCleanerModel_record s m args below meth c H locs 0 0 (MQ below (va_Qi (fun r u => Q r u ∧ xfr sgM h0 u) (xB D d A) A) args s 0 0 A) (F0 m 52 ls [.int s0, .ref s1]) := by
  obtain ⟨hx, hb, hr, hml, hown, htb, hK, hA, hNB, hlocks, hXT⟩ := id C0
  intro x0 x1 x3 x4 x5 x7 s0 s1 h H locs ls hw hP hS hl
  refine xputI hx hb htb i_LogCleanerModel t_LogCleanerModel t_LogCleanerModel_ok n_LogCleanerModel hown hK hP hS (ci := 4) rfl (fun _ => rfl) 0 (by decide) (htb _ k_LogCleanerModel_66) (fun _ h9 => h9) rfl (by decide +kernel) hw d_LogCleanerModel_record_52 (fun h1 H locs hw hP hS => ?_)
  refine lv_aload_n hx hb d_LogCleanerModel_record_55 rfl (lv_at hl 0 rfl) ?_
  refine xgetI hx hb htb i_LogCleanerModel hown hK hP (ci := 4) rfl 0 (by decide) (htb _ k_LogCleanerModel_66) (fun _ h9 => h9) hw d_LogCleanerModel_record_56 (fun v2 hw => ?_)
  refine lv_if_le (tgt := 64) hx hb d_LogCleanerModel_record_59 (by decide) (fun cq => ?_) (fun cq => ?_)
  · replace hw := hw.1 cq
    refine lv_aload_n hx hb d_LogCleanerModel_record_64 rfl (lv_at hl 0 rfl) ?_
    refine xgetA hx hb htb i_LogCleanerModel hown hK hP (ci := 4) rfl 11 (by decide) (htb _ k_LogCleanerModel_33) (fun _ h9 => h9) hw d_LogCleanerModel_record_65 (fun r3 hw => ?_)
    refine lv_aload_n hx hb d_LogCleanerModel_record_68 rfl (lv_at hl 0 rfl) ?_
    refine xgetI hx hb htb i_LogCleanerModel hown hK hP (ci := 4) rfl 10 (by decide) (htb _ k_LogCleanerModel_72) (fun _ h9 => h9) hw d_LogCleanerModel_record_69 (fun v4 hw => ?_)
    refine lv_lload_n hx hb d_LogCleanerModel_record_72 rfl (lv_at hl 1 rfl) ?_
    refine lv_iload_n hx hb d_LogCleanerModel_record_73 rfl (lv_at hl 2 rfl) ?_
    refine xcalll (va_runS (As := [.long x1, .int x3]) (rest := [.int v4, va_rf r3]) ⟨hx, hb, hml, hown, htb⟩ (m_LogCleanerModel_lowest l D d h1 _ x1 x3 _ hw) (xcwS 2 htb g_code_LogCleanerModel_lowest g_ini_LogCleanerModel k_LogCleanerModel_78 g_st_LogCleanerModel_lowest rfl rfl (by decide +kernel) ⟨(Nat.le_of_ble_eq_true rfl), (Nat.le_of_ble_eq_true rfl)⟩) (xpreI hP hK hNB) rfl rfl hl.1 rfl (lv_room (by cases r3 <;> exact (Nat.le_of_ble_eq_true rfl))) d_LogCleanerModel_record_74 ⟨(Nat.le_of_ble_eq_true rfl), (Nat.le_of_ble_eq_true rfl)⟩) hP hS hA (fun r6 h5 H locs hw hP hS => ?_)
    refine W.widen (k := 0) (n := 0) (Nat.le_of_ble_eq_true rfl) (Nat.le_of_ble_eq_true rfl) ?_
    obtain ⟨p7, hpe, hw⟩ := hw
    revert hw
    revert hl
    subst hpe
    intro hl hw
    replace hl : lv_has ls 8 [(0, .ref x0), (1, .long x1), (3, .int x3), (4, .int x4), (5, .long x5), (7, .int x7)] := hl
    refine xstl hx hb hK hP hS 3 rfl (fun _ _ => rfl) hw d_LogCleanerModel_record_77 (fun h8 H locs hw hP hS => ?_)
    refine lv_aload_n hx hb d_LogCleanerModel_record_78 rfl (lv_at hl 0 rfl) ?_
    refine xgetA hx hb htb i_LogCleanerModel hown hK hP (ci := 4) rfl 12 (by decide) (htb _ k_LogCleanerModel_36) (fun _ h9 => h9) hw d_LogCleanerModel_record_79 (fun r9 hw => ?_)
    refine lv_aload_n hx hb d_LogCleanerModel_record_82 rfl (lv_at hl 0 rfl) ?_
    refine xgetI hx hb htb i_LogCleanerModel hown hK hP (ci := 4) rfl 10 (by decide) (htb _ k_LogCleanerModel_72) (fun _ h9 => h9) hw d_LogCleanerModel_record_83 (fun v10 hw => ?_)
    refine lv_iload_n hx hb d_LogCleanerModel_record_86 rfl (lv_at hl 2 rfl) ?_
    obtain ⟨p11, hpe, hw⟩ := hw
    revert hw
    revert hl
    subst hpe
    intro hl hw
    replace hl : lv_has ls 8 [(0, .ref x0), (1, .long x1), (3, .int x3), (4, .int x4), (5, .long x5), (7, .int x7)] := hl
    refine xsti hx hb hK hP hS 2 rfl (fun _ _ => rfl) hw d_LogCleanerModel_record_87 (fun h12 H locs hw hP hS => ?_)
    refine lv_aload_n hx hb d_LogCleanerModel_record_88 rfl (lv_at hl 0 rfl) ?_
    refine xgetA hx hb htb i_LogCleanerModel hown hK hP (ci := 4) rfl 13 (by decide) (htb _ k_LogCleanerModel_39) (fun _ h9 => h9) hw d_LogCleanerModel_record_89 (fun r13 hw => ?_)
    refine lv_aload_n hx hb d_LogCleanerModel_record_92 rfl (lv_at hl 0 rfl) ?_
    refine xgetI hx hb htb i_LogCleanerModel hown hK hP (ci := 4) rfl 10 (by decide) (htb _ k_LogCleanerModel_72) (fun _ h9 => h9) hw d_LogCleanerModel_record_93 (fun v14 hw => ?_)
    refine lv_iload hx hb d_LogCleanerModel_record_96 (lv_at hl 3 rfl) ?_
    obtain ⟨p15, hpe, hw⟩ := hw
    revert hw
    revert hl
    subst hpe
    intro hl hw
    replace hl : lv_has ls 8 [(0, .ref x0), (1, .long x1), (3, .int x3), (4, .int x4), (5, .long x5), (7, .int x7)] := hl
    refine xstz hx hb hK hP hS 4 rfl (fun _ _ => rfl) hw d_LogCleanerModel_record_98 (fun h16 H locs hw hP hS => ?_)
    refine lv_aload_n hx hb d_LogCleanerModel_record_99 rfl (lv_at hl 0 rfl) ?_
    refine xgetA hx hb htb i_LogCleanerModel hown hK hP (ci := 4) rfl 14 (by decide) (htb _ k_LogCleanerModel_42) (fun _ h9 => h9) hw d_LogCleanerModel_record_100 (fun r17 hw => ?_)
    refine lv_aload_n hx hb d_LogCleanerModel_record_103 rfl (lv_at hl 0 rfl) ?_
    refine xgetI hx hb htb i_LogCleanerModel hown hK hP (ci := 4) rfl 10 (by decide) (htb _ k_LogCleanerModel_72) (fun _ h9 => h9) hw d_LogCleanerModel_record_104 (fun v18 hw => ?_)
    refine lv_iload hx hb d_LogCleanerModel_record_107 (lv_at hl 3 rfl) ?_
    refine lv_if_eq (tgt := 117) hx hb d_LogCleanerModel_record_109 (by decide) (fun cq => ?_) (fun cq => ?_)
    · replace hw := hw.1 cq
      refine lv_lconst (v := 0) hx hb d_LogCleanerModel_record_117 (by decide) ?_
      exact sb_LogCleanerModel_record_118 C0 x0 x7 0 v18 r17 h16 _ _ _ hw hP hS (lv_sub hl [0, 5] rfl)
    · replace hw := hw.2 cq
      refine lv_lload hx hb d_LogCleanerModel_record_112 (lv_at hl 4 rfl) ?_
      refine lv_goto (tgt := 118) hx hb d_LogCleanerModel_record_114 (by decide) ?_
      exact sb_LogCleanerModel_record_118 C0 x0 x7 x5 v18 r17 h16 _ _ _ hw hP hS (lv_sub hl [0, 5] rfl)
  · replace hw := hw.2 cq
    refine lv_iconst (v := 0) hx hb d_LogCleanerModel_record_62 (by decide) ?_
    refine W.widen (k := 0) (n := 0) (Nat.le_of_ble_eq_true rfl) (Nat.le_of_ble_eq_true rfl) ?_
    exact xretI C0 hw hP hS d_LogCleanerModel_record_63

set_option maxHeartbeats 4000000 in
set_option maxRecDepth 100000 in
theorem sb_LogCleanerModel_record_17 {p : Program} {l : Launch} {e : Env} {s : State} {m : MethodId} {args : Array Value} {below : List Frame} {meth : Method} {c : Code} {D : va_G} {d : Nat → ClassId} {A : Nat → Prop} {h0 : xw} {Q : Int32 → xw → Prop} (C0 : xctx p s m args meth c b_LogCleanerModel_record 8 (some .int) R_LogCleanerModel D d A True) : ∀ (x0 : Nat) (x1 : Int64) (x3 : Int32) (x4 : Int32) (x5 : Int64) (x7 : Int32) (s0 : Nat) (h : xw) (H : Heap) (locs : List Loc) (ls : Array Slot), wb_LogCleanerModel_record_17 d Q x0 x1 x3 x4 x5 x7 s0 h → xR sgM h0 D A h H → va_S A s.heap H locs → lv_has ls 8 [(0, .ref x0), (1, .long x1), (3, .int x3), (4, .int x4), (5, .long x5), (7, .int x7)] → W p l e rm_LogCleanerModel_record s m args below meth c H locs 0 0 (MQ below (va_Qi (fun r u => Q r u ∧ xfr sgM h0 u) (xB D d A) A) args s 0 0 A) (F0 m 17 ls [.ref s0]) := by
  obtain ⟨hx, hb, hr, hml, hown, htb, hK, hA, hNB, hlocks, hXT⟩ := id C0
  intro x0 x1 x3 x4 x5 x7 s0 h H locs ls hw hP hS hl
  refine lv_iconst (v := 1) hx hb d_LogCleanerModel_record_17 (by decide) ?_
  refine lv_goto (tgt := 52) hx hb d_LogCleanerModel_record_18 (by decide) ?_
  exact sb_LogCleanerModel_record_52 C0 x0 x1 x3 x4 x5 x7 1 s0 h _ _ _ hw hP hS (lv_sub hl [0, 1, 2, 3, 4, 5] rfl)

set_option maxHeartbeats 4000000 in
set_option maxRecDepth 100000 in
theorem sb_LogCleanerModel_record_47 {p : Program} {l : Launch} {e : Env} {s : State} {m : MethodId} {args : Array Value} {below : List Frame} {meth : Method} {c : Code} {D : va_G} {d : Nat → ClassId} {A : Nat → Prop} {h0 : xw} {Q : Int32 → xw → Prop} (C0 : xctx p s m args meth c b_LogCleanerModel_record 8 (some .int) R_LogCleanerModel D d A True) : ∀ (x0 : Nat) (x1 : Int64) (x3 : Int32) (x4 : Int32) (x5 : Int64) (x7 : Int32) (s0 : Nat) (h : xw) (H : Heap) (locs : List Loc) (ls : Array Slot), wb_LogCleanerModel_record_47 d Q x0 x1 x3 x4 x5 x7 s0 h → xR sgM h0 D A h H → va_S A s.heap H locs → lv_has ls 8 [(0, .ref x0), (1, .long x1), (3, .int x3), (4, .int x4), (5, .long x5), (7, .int x7)] → W p l e rm_LogCleanerModel_record s m args below meth c H locs 0 0 (MQ below (va_Qi (fun r u => Q r u ∧ xfr sgM h0 u) (xB D d A) A) args s 0 0 A) (F0 m 47 ls [.ref s0]) := by
  obtain ⟨hx, hb, hr, hml, hown, htb, hK, hA, hNB, hlocks, hXT⟩ := id C0
  intro x0 x1 x3 x4 x5 x7 s0 h H locs ls hw hP hS hl
  refine lv_iconst (v := 2) hx hb d_LogCleanerModel_record_47 (by decide) ?_
  refine lv_goto (tgt := 52) hx hb d_LogCleanerModel_record_48 (by decide) ?_
  exact sb_LogCleanerModel_record_52 C0 x0 x1 x3 x4 x5 x7 2 s0 h _ _ _ hw hP hS (lv_sub hl [0, 1, 2, 3, 4, 5] rfl)

set_option maxHeartbeats 4000000 in
set_option maxRecDepth 100000 in
theorem m_LogCleanerModel_record (l : Launch) (D : va_G) (d : Nat → ClassId) (h : xw) (sz : Nat) (a0 : Nat) (a1 : Int64) (a3 : Int32) (a4 : Int32) (a5 : Int64) (a7 : Int32) (Q : Int32 → xw → Prop) (hw : wp_LogCleanerModel_record d h a0 a1 a3 a4 a5 a7 Q) : Met l y_LogCleanerModel_record ws_LogCleanerModel_record rm_LogCleanerModel_record (xPre D d h [.ref a0, .long a1, .int a3, .int a4, .long a5, .int a7] sz) (va_Qi (fun r u => Q r u ∧ xfr sgM h u) (xB D d (xA h sz)) (xA h sz)) 0 0 (xA h sz) := by
  refine Met.ofW (cc := b_LogCleanerModel_record) (maxL := 8) (ret := (some .int)) (by decide) rfl ?_
  intro p e s m args below meth c s₁ B hml hv
  obtain ⟨rfl, hsz, hP0, hK, hNB⟩ := hv
  have hts := atoms_spec (ws := ws_LogCleanerModel_record) B.pre
  have htb := fun w (hw9 : w ∈ TB) => hts w (List.mem_cons_of_mem _ hw9)
  have hown : s.vm.findClass R_LogCleanerModel = some m.cls := findClass_of_methodNamed B.named
  subst hsz
  obtain ⟨A, hAe⟩ : ∃ A, A = xA h s.heap.size := ⟨_, rfl⟩
  rw [← hAe]
  have hP : xR sgM h D A h s.heap := ⟨by rw [hAe]; exact hP0.self, xfr.rf⟩
  have hA : ∀ q, s.heap.size ≤ q → A q := fun q hq => by rw [hAe]; exact Or.inr hq
  have hS : va_S A s.heap s.heap [] := va_S.rf
  have C0 : xctx p s m ([.ref a0, .long a1, .int a3, .int a4, .long a5, .int a7] : List Value).toArray meth c b_LogCleanerModel_record 8 (some .int) R_LogCleanerModel D d A True := ⟨B.exec, B.bytes, B.returns, hml, hown, htb, hK, hA, hNB, B.notSynchronized, trivial⟩
  obtain ⟨hx, hb, hr, -, -, -, -, -, -, hlocks, hXT⟩ := id C0
  have hl := lv_entry ([.ref a0, .long a1, .int a3, .int a4, .long a5, .int a7] : List Value) (n := 8) (Nat.le_of_ble_eq_true rfl)
  rw [lg_entry_eq]
  generalize (lg_sl ([.ref a0, .long a1, .int a3, .int a4, .long a5, .int a7] : List Value) ++ List.replicate (8 - (lg_sl ([.ref a0, .long a1, .int a3, .int a4, .long a5, .int a7] : List Value)).length) Slot.unset).toArray = ls at hl ⊢
  have hl : lv_has ls 8 [(0, .ref a0), (1, .long a1), (3, .int a3), (4, .int a4), (5, .long a5), (7, .int a7)] := hl
  refine lv_aload_n hx hb d_LogCleanerModel_record_0 rfl (lv_at hl 0 rfl) ?_
  refine lv_iload_n hx hb d_LogCleanerModel_record_1 rfl (lv_at hl 2 rfl) ?_
  refine lv_iconst (v := (-1)) hx hb d_LogCleanerModel_record_2 (by decide) ?_
  refine lv_icmp_lt (tgt := 17) hx hb d_LogCleanerModel_record_3 (by decide) (fun cq => ?_) (fun cq => ?_)
  · replace hw := hw.1 cq
    exact sb_LogCleanerModel_record_17 C0 a0 a1 a3 a4 a5 a7 a0 h _ _ _ hw hP hS (lv_sub hl [0, 1, 2, 3, 4, 5] rfl)
  · replace hw := hw.2 cq
    refine lv_iload_n hx hb d_LogCleanerModel_record_6 rfl (lv_at hl 2 rfl) ?_
    refine lv_bipush (v := 8) hx hb d_LogCleanerModel_record_7 (by decide) ?_
    refine lv_icmp_gt (tgt := 17) hx hb d_LogCleanerModel_record_9 (by decide) (fun cq => ?_) (fun cq => ?_)
    · replace hw := hw.1 cq
      exact sb_LogCleanerModel_record_17 C0 a0 a1 a3 a4 a5 a7 a0 h _ _ _ hw hP hS (lv_sub hl [0, 1, 2, 3, 4, 5] rfl)
    · replace hw := hw.2 cq
      refine lv_iload hx hb d_LogCleanerModel_record_12 (lv_at hl 5 rfl) ?_
      refine lv_if_ge (tgt := 21) hx hb d_LogCleanerModel_record_14 (by decide) (fun cq => ?_) (fun cq => ?_)
      · replace hw := hw.1 cq
        refine lv_aload_n hx hb d_LogCleanerModel_record_21 rfl (lv_at hl 0 rfl) ?_
        refine xgetI hx hb htb i_LogCleanerModel hown hK hP (ci := 4) rfl 10 (by decide) (htb _ k_LogCleanerModel_72) (fun _ h9 => h9) hw d_LogCleanerModel_record_22 (fun v28 hw => ?_)
        refine lv_bipush (v := 100) hx hb d_LogCleanerModel_record_25 (by decide) ?_
        refine lv_icmp_eq (tgt := 47) hx hb d_LogCleanerModel_record_27 (by decide) (fun cq => ?_) (fun cq => ?_)
        · replace hw := hw.1 cq
          exact sb_LogCleanerModel_record_47 C0 a0 a1 a3 a4 a5 a7 a0 h _ _ _ hw hP hS (lv_sub hl [0, 1, 2, 3, 4, 5] rfl)
        · replace hw := hw.2 cq
          refine lv_aload_n hx hb d_LogCleanerModel_record_30 rfl (lv_at hl 0 rfl) ?_
          refine xgetI hx hb htb i_LogCleanerModel hown hK hP (ci := 4) rfl 1 (by decide) (htb _ k_LogCleanerModel_75) (fun _ h9 => h9) hw d_LogCleanerModel_record_31 (fun v29 hw => ?_)
          refine lv_aload_n hx hb d_LogCleanerModel_record_34 rfl (lv_at hl 0 rfl) ?_
          refine xgetI hx hb htb i_LogCleanerModel hown hK hP (ci := 4) rfl 10 (by decide) (htb _ k_LogCleanerModel_72) (fun _ h9 => h9) hw d_LogCleanerModel_record_35 (fun v30 hw => ?_)
          refine lv_iadd hx hb d_LogCleanerModel_record_38 ?_
          refine lv_iconst (v := 1) hx hb d_LogCleanerModel_record_39 (by decide) ?_
          refine lv_iadd hx hb d_LogCleanerModel_record_40 ?_
          refine lv_sipush (v := 4000) hx hb d_LogCleanerModel_record_41 (by decide) ?_
          refine lv_icmp_le (tgt := 51) hx hb d_LogCleanerModel_record_44 (by decide) (fun cq => ?_) (fun cq => ?_)
          · replace hw := hw.1 cq
            refine lv_iconst (v := 0) hx hb d_LogCleanerModel_record_51 (by decide) ?_
            exact sb_LogCleanerModel_record_52 C0 a0 a1 a3 a4 a5 a7 0 a0 h _ _ _ hw hP hS (lv_sub hl [0, 1, 2, 3, 4, 5] rfl)
          · replace hw := hw.2 cq
            exact sb_LogCleanerModel_record_47 C0 a0 a1 a3 a4 a5 a7 a0 h _ _ _ hw hP hS (lv_sub hl [0, 1, 2, 3, 4, 5] rfl)
      · replace hw := hw.2 cq
        exact sb_LogCleanerModel_record_17 C0 a0 a1 a3 a4 a5 a7 a0 h _ _ _ hw hP hS (lv_sub hl [0, 1, 2, 3, 4, 5] rfl)

theorem d_LogCleanerModel_thrown_0 : decode b_LogCleanerModel_thrown 0 = .ok (.aload_n 0, 1) := by decide +kernel
theorem d_LogCleanerModel_thrown_1 : decode b_LogCleanerModel_thrown 1 = .ok (.getfield 66, 3) := by decide +kernel
theorem d_LogCleanerModel_thrown_4 : decode b_LogCleanerModel_thrown 4 = .ok (.ireturn, 1) := by decide +kernel
def rm_LogCleanerModel_thrown : Room := { frames := 0, cells := 0, slots := 0, locals := 0 }
def ws_LogCleanerModel_thrown : List Cond := Cond.code y_LogCleanerModel_thrown b_LogCleanerModel_thrown 1 (some .int) :: TB
set_option maxHeartbeats 4000000 in
set_option maxRecDepth 100000 in
theorem m_LogCleanerModel_thrown (l : Launch) (D : va_G) (d : Nat → ClassId) (h : xw) (sz : Nat) (a0 : Nat) (Q : Int32 → xw → Prop) (hw : wp_LogCleanerModel_thrown d h a0 Q) : Met l y_LogCleanerModel_thrown ws_LogCleanerModel_thrown rm_LogCleanerModel_thrown (xPre D d h [.ref a0] sz) (va_Qi (fun r u => Q r u ∧ xfr sgM h u) (xB D d (xA h sz)) (xA h sz)) 0 0 (xA h sz) := by
  refine Met.ofW (cc := b_LogCleanerModel_thrown) (maxL := 1) (ret := (some .int)) (by decide) rfl ?_
  intro p e s m args below meth c s₁ B hml hv
  obtain ⟨rfl, hsz, hP0, hK, hNB⟩ := hv
  have hts := atoms_spec (ws := ws_LogCleanerModel_thrown) B.pre
  have htb := fun w (hw9 : w ∈ TB) => hts w (List.mem_cons_of_mem _ hw9)
  have hown : s.vm.findClass R_LogCleanerModel = some m.cls := findClass_of_methodNamed B.named
  subst hsz
  obtain ⟨A, hAe⟩ : ∃ A, A = xA h s.heap.size := ⟨_, rfl⟩
  rw [← hAe]
  have hP : xR sgM h D A h s.heap := ⟨by rw [hAe]; exact hP0.self, xfr.rf⟩
  have hA : ∀ q, s.heap.size ≤ q → A q := fun q hq => by rw [hAe]; exact Or.inr hq
  have hS : va_S A s.heap s.heap [] := va_S.rf
  have C0 : xctx p s m ([.ref a0] : List Value).toArray meth c b_LogCleanerModel_thrown 1 (some .int) R_LogCleanerModel D d A True := ⟨B.exec, B.bytes, B.returns, hml, hown, htb, hK, hA, hNB, B.notSynchronized, trivial⟩
  obtain ⟨hx, hb, hr, -, -, -, -, -, -, hlocks, hXT⟩ := id C0
  have hl := lv_entry ([.ref a0] : List Value) (n := 1) (Nat.le_of_ble_eq_true rfl)
  rw [lg_entry_eq]
  generalize (lg_sl ([.ref a0] : List Value) ++ List.replicate (1 - (lg_sl ([.ref a0] : List Value)).length) Slot.unset).toArray = ls at hl ⊢
  have hl : lv_has ls 1 [(0, .ref a0)] := hl
  refine lv_aload_n hx hb d_LogCleanerModel_thrown_0 rfl (lv_at hl 0 rfl) ?_
  refine xgetI hx hb htb i_LogCleanerModel hown hK hP (ci := 4) rfl 0 (by decide) (htb _ k_LogCleanerModel_66) (fun _ h9 => h9) hw d_LogCleanerModel_thrown_1 (fun v1 hw => ?_)
  refine W.widen (k := 0) (n := 0) (Nat.le_of_ble_eq_true rfl) (Nat.le_of_ble_eq_true rfl) ?_
  exact xretI C0 hw hP hS d_LogCleanerModel_thrown_4

theorem d_LogCleanerModel_sizeOf_0 : decode b_LogCleanerModel_sizeOf 0 = .ok (.bipush 61, 2) := by decide +kernel
theorem d_LogCleanerModel_sizeOf_2 : decode b_LogCleanerModel_sizeOf 2 = .ok (.istore_n 2, 1) := by decide +kernel
theorem d_LogCleanerModel_sizeOf_3 : decode b_LogCleanerModel_sizeOf 3 = .ok (.iconst 0, 1) := by decide +kernel
theorem d_LogCleanerModel_sizeOf_4 : decode b_LogCleanerModel_sizeOf 4 = .ok (.istore_n 3, 1) := by decide +kernel
theorem d_LogCleanerModel_sizeOf_5 : decode b_LogCleanerModel_sizeOf 5 = .ok (.iload_n 3, 1) := by decide +kernel
theorem d_LogCleanerModel_sizeOf_6 : decode b_LogCleanerModel_sizeOf 6 = .ok (.aload_n 0, 1) := by decide +kernel
theorem d_LogCleanerModel_sizeOf_7 : decode b_LogCleanerModel_sizeOf 7 = .ok (.getfield 75, 3) := by decide +kernel
theorem d_LogCleanerModel_sizeOf_10 : decode b_LogCleanerModel_sizeOf 10 = .ok (.if_icmp .ge 60, 3) := by decide +kernel
theorem d_LogCleanerModel_sizeOf_13 : decode b_LogCleanerModel_sizeOf 13 = .ok (.aload_n 0, 1) := by decide +kernel
theorem d_LogCleanerModel_sizeOf_14 : decode b_LogCleanerModel_sizeOf 14 = .ok (.getfield 7, 3) := by decide +kernel
theorem d_LogCleanerModel_sizeOf_17 : decode b_LogCleanerModel_sizeOf 17 = .ok (.iload_n 3, 1) := by decide +kernel
theorem d_LogCleanerModel_sizeOf_18 : decode b_LogCleanerModel_sizeOf 18 = .ok (.iaload, 1) := by decide +kernel
theorem d_LogCleanerModel_sizeOf_19 : decode b_LogCleanerModel_sizeOf 19 = .ok (.iload_n 1, 1) := by decide +kernel
theorem d_LogCleanerModel_sizeOf_20 : decode b_LogCleanerModel_sizeOf 20 = .ok (.if_icmp .ne 44, 3) := by decide +kernel
theorem d_LogCleanerModel_sizeOf_23 : decode b_LogCleanerModel_sizeOf 23 = .ok (.iload_n 2, 1) := by decide +kernel
theorem d_LogCleanerModel_sizeOf_24 : decode b_LogCleanerModel_sizeOf 24 = .ok (.bipush 8, 2) := by decide +kernel
theorem d_LogCleanerModel_sizeOf_26 : decode b_LogCleanerModel_sizeOf 26 = .ok (.aload_n 0, 1) := by decide +kernel
theorem d_LogCleanerModel_sizeOf_27 : decode b_LogCleanerModel_sizeOf 27 = .ok (.getfield 20, 3) := by decide +kernel
theorem d_LogCleanerModel_sizeOf_30 : decode b_LogCleanerModel_sizeOf 30 = .ok (.iload_n 3, 1) := by decide +kernel
theorem d_LogCleanerModel_sizeOf_31 : decode b_LogCleanerModel_sizeOf 31 = .ok (.iaload, 1) := by decide +kernel
theorem d_LogCleanerModel_sizeOf_32 : decode b_LogCleanerModel_sizeOf 32 = .ok (.ifCond .le 12, 3) := by decide +kernel
theorem d_LogCleanerModel_sizeOf_35 : decode b_LogCleanerModel_sizeOf 35 = .ok (.aload_n 0, 1) := by decide +kernel
theorem d_LogCleanerModel_sizeOf_36 : decode b_LogCleanerModel_sizeOf 36 = .ok (.getfield 20, 3) := by decide +kernel
theorem d_LogCleanerModel_sizeOf_39 : decode b_LogCleanerModel_sizeOf 39 = .ok (.iload_n 3, 1) := by decide +kernel
theorem d_LogCleanerModel_sizeOf_40 : decode b_LogCleanerModel_sizeOf 40 = .ok (.iaload, 1) := by decide +kernel
theorem d_LogCleanerModel_sizeOf_41 : decode b_LogCleanerModel_sizeOf 41 = .ok (.goto 4, 3) := by decide +kernel
theorem d_LogCleanerModel_sizeOf_44 : decode b_LogCleanerModel_sizeOf 44 = .ok (.iconst 0, 1) := by decide +kernel
theorem d_LogCleanerModel_sizeOf_45 : decode b_LogCleanerModel_sizeOf 45 = .ok (.iadd, 1) := by decide +kernel
theorem d_LogCleanerModel_sizeOf_46 : decode b_LogCleanerModel_sizeOf 46 = .ok (.aload_n 0, 1) := by decide +kernel
theorem d_LogCleanerModel_sizeOf_47 : decode b_LogCleanerModel_sizeOf 47 = .ok (.getfield 23, 3) := by decide +kernel
theorem d_LogCleanerModel_sizeOf_50 : decode b_LogCleanerModel_sizeOf 50 = .ok (.iload_n 3, 1) := by decide +kernel
theorem d_LogCleanerModel_sizeOf_51 : decode b_LogCleanerModel_sizeOf 51 = .ok (.baload, 1) := by decide +kernel
theorem d_LogCleanerModel_sizeOf_52 : decode b_LogCleanerModel_sizeOf 52 = .ok (.ifCond .eq 8, 3) := by decide +kernel
theorem d_LogCleanerModel_sizeOf_55 : decode b_LogCleanerModel_sizeOf 55 = .ok (.bipush 8, 2) := by decide +kernel
theorem d_LogCleanerModel_sizeOf_57 : decode b_LogCleanerModel_sizeOf 57 = .ok (.goto 4, 3) := by decide +kernel
theorem d_LogCleanerModel_sizeOf_60 : decode b_LogCleanerModel_sizeOf 60 = .ok (.iconst 0, 1) := by decide +kernel
theorem d_LogCleanerModel_sizeOf_61 : decode b_LogCleanerModel_sizeOf 61 = .ok (.iadd, 1) := by decide +kernel
theorem d_LogCleanerModel_sizeOf_62 : decode b_LogCleanerModel_sizeOf 62 = .ok (.iadd, 1) := by decide +kernel
theorem d_LogCleanerModel_sizeOf_63 : decode b_LogCleanerModel_sizeOf 63 = .ok (.istore_n 2, 1) := by decide +kernel
theorem d_LogCleanerModel_sizeOf_64 : decode b_LogCleanerModel_sizeOf 64 = .ok (.iinc 3 1, 3) := by decide +kernel
theorem d_LogCleanerModel_sizeOf_67 : decode b_LogCleanerModel_sizeOf 67 = .ok (.goto (-62), 3) := by decide +kernel
theorem d_LogCleanerModel_sizeOf_70 : decode b_LogCleanerModel_sizeOf 70 = .ok (.iload_n 2, 1) := by decide +kernel
theorem d_LogCleanerModel_sizeOf_71 : decode b_LogCleanerModel_sizeOf 71 = .ok (.ireturn, 1) := by decide +kernel
def rm_LogCleanerModel_sizeOf : Room := { frames := 0, cells := 0, slots := 0, locals := 0 }
def ws_LogCleanerModel_sizeOf : List Cond := Cond.code y_LogCleanerModel_sizeOf b_LogCleanerModel_sizeOf 4 (some .int) :: TB
set_option maxHeartbeats 4000000 in
set_option maxRecDepth 100000 in
theorem sb_LogCleanerModel_sizeOf_64 {p : Program} {l : Launch} {e : Env} {s : State} {m : MethodId} {args : Array Value} {below : List Frame} {meth : Method} {c : Code} {D : va_G} {d : Nat → ClassId} {A : Nat → Prop} {h0 : xw} {Q : Int32 → xw → Prop} {k5 : Nat → Int32 → Int32 → Int32 → xw → Prop} (C0 : xctx p s m args meth c b_LogCleanerModel_sizeOf 4 (some .int) R_LogCleanerModel D d A True) (hk5 : ∀ (x0 : Nat) (x1 : Int32) (x2 : Int32) (x3 : Int32) (h : xw) (H : Heap) (locs : List Loc) (ls : Array Slot), k5 x0 x1 x2 x3 h → xR sgM h0 D A h H → va_S A s.heap H locs → lv_has ls 4 [(0, .ref x0), (1, .int x1), (2, .int x2), (3, .int x3)] → W p l e rm_LogCleanerModel_sizeOf s m args below meth c H locs 0 0 (MQ below (va_Qi (fun r u => Q r u ∧ xfr sgM h0 u) (xB D d A) A) args s 0 0 A) (F0 m 5 ls [])) : ∀ (x0 : Nat) (x1 : Int32) (x2 : Int32) (x3 : Int32) (h : xw) (H : Heap) (locs : List Loc) (ls : Array Slot), wb_LogCleanerModel_sizeOf_64 d k5 Q x0 x1 x2 x3 h → xR sgM h0 D A h H → va_S A s.heap H locs → lv_has ls 4 [(0, .ref x0), (1, .int x1), (2, .int x2), (3, .int x3)] → W p l e rm_LogCleanerModel_sizeOf s m args below meth c H locs 0 0 (MQ below (va_Qi (fun r u => Q r u ∧ xfr sgM h0 u) (xB D d A) A) args s 0 0 A) (F0 m 64 ls []) := by
  obtain ⟨hx, hb, hr, hml, hown, htb, hK, hA, hNB, hlocks, hXT⟩ := id C0
  intro x0 x1 x2 x3 h H locs ls hw hP hS hl
  refine lv_iinc (v := x3 + 1) (lv' := [(3, .int (x3 + 1)), (0, .ref x0), (1, .int x1), (2, .int x2)]) hx hb d_LogCleanerModel_sizeOf_64 hl (k := 3) rfl rfl (by decide) rfl (fun ls hl => ?_)
  refine lv_goto (tgt := 5) hx hb d_LogCleanerModel_sizeOf_67 (by decide) ?_
  exact hk5 x0 x1 x2 (x3 + 1) h _ _ _ hw hP hS (lv_sub hl [1, 2, 3, 0] rfl)

set_option maxHeartbeats 4000000 in
set_option maxRecDepth 100000 in
theorem sb_LogCleanerModel_sizeOf_61 {p : Program} {l : Launch} {e : Env} {s : State} {m : MethodId} {args : Array Value} {below : List Frame} {meth : Method} {c : Code} {D : va_G} {d : Nat → ClassId} {A : Nat → Prop} {h0 : xw} {Q : Int32 → xw → Prop} {k5 : Nat → Int32 → Int32 → Int32 → xw → Prop} (C0 : xctx p s m args meth c b_LogCleanerModel_sizeOf 4 (some .int) R_LogCleanerModel D d A True) (hk5 : ∀ (x0 : Nat) (x1 : Int32) (x2 : Int32) (x3 : Int32) (h : xw) (H : Heap) (locs : List Loc) (ls : Array Slot), k5 x0 x1 x2 x3 h → xR sgM h0 D A h H → va_S A s.heap H locs → lv_has ls 4 [(0, .ref x0), (1, .int x1), (2, .int x2), (3, .int x3)] → W p l e rm_LogCleanerModel_sizeOf s m args below meth c H locs 0 0 (MQ below (va_Qi (fun r u => Q r u ∧ xfr sgM h0 u) (xB D d A) A) args s 0 0 A) (F0 m 5 ls [])) : ∀ (x0 : Nat) (x1 : Int32) (x3 : Int32) (s0 : Int32) (s1 : Int32) (s2 : Int32) (h : xw) (H : Heap) (locs : List Loc) (ls : Array Slot), wb_LogCleanerModel_sizeOf_61 d k5 Q x0 x1 x3 s0 s1 s2 h → xR sgM h0 D A h H → va_S A s.heap H locs → lv_has ls 4 [(0, .ref x0), (1, .int x1), (3, .int x3)] → W p l e rm_LogCleanerModel_sizeOf s m args below meth c H locs 0 0 (MQ below (va_Qi (fun r u => Q r u ∧ xfr sgM h0 u) (xB D d A) A) args s 0 0 A) (F0 m 61 ls [.int s0, .int s1, .int s2]) := by
  obtain ⟨hx, hb, hr, hml, hown, htb, hK, hA, hNB, hlocks, hXT⟩ := id C0
  intro x0 x1 x3 s0 s1 s2 h H locs ls hw hP hS hl
  refine lv_iadd hx hb d_LogCleanerModel_sizeOf_61 ?_
  refine lv_iadd hx hb d_LogCleanerModel_sizeOf_62 ?_
  refine lv_istore_n (lv' := [(2, .int (s2 + (s1 + s0))), (0, .ref x0), (1, .int x1), (3, .int x3)]) hx hb d_LogCleanerModel_sizeOf_63 rfl hl (by decide) rfl (fun ls hl => ?_)
  exact sb_LogCleanerModel_sizeOf_64 C0 hk5 x0 x1 (s2 + (s1 + s0)) x3 h _ _ _ hw hP hS (lv_sub hl [1, 2, 0, 3] rfl)

set_option maxHeartbeats 4000000 in
set_option maxRecDepth 100000 in
theorem sb_LogCleanerModel_sizeOf_45 {p : Program} {l : Launch} {e : Env} {s : State} {m : MethodId} {args : Array Value} {below : List Frame} {meth : Method} {c : Code} {D : va_G} {d : Nat → ClassId} {A : Nat → Prop} {h0 : xw} {Q : Int32 → xw → Prop} {k5 : Nat → Int32 → Int32 → Int32 → xw → Prop} (C0 : xctx p s m args meth c b_LogCleanerModel_sizeOf 4 (some .int) R_LogCleanerModel D d A True) (hk5 : ∀ (x0 : Nat) (x1 : Int32) (x2 : Int32) (x3 : Int32) (h : xw) (H : Heap) (locs : List Loc) (ls : Array Slot), k5 x0 x1 x2 x3 h → xR sgM h0 D A h H → va_S A s.heap H locs → lv_has ls 4 [(0, .ref x0), (1, .int x1), (2, .int x2), (3, .int x3)] → W p l e rm_LogCleanerModel_sizeOf s m args below meth c H locs 0 0 (MQ below (va_Qi (fun r u => Q r u ∧ xfr sgM h0 u) (xB D d A) A) args s 0 0 A) (F0 m 5 ls [])) : ∀ (x0 : Nat) (x1 : Int32) (x3 : Int32) (s0 : Int32) (s1 : Int32) (s2 : Int32) (h : xw) (H : Heap) (locs : List Loc) (ls : Array Slot), wb_LogCleanerModel_sizeOf_45 d k5 Q x0 x1 x3 s0 s1 s2 h → xR sgM h0 D A h H → va_S A s.heap H locs → lv_has ls 4 [(0, .ref x0), (1, .int x1), (3, .int x3)] → W p l e rm_LogCleanerModel_sizeOf s m args below meth c H locs 0 0 (MQ below (va_Qi (fun r u => Q r u ∧ xfr sgM h0 u) (xB D d A) A) args s 0 0 A) (F0 m 45 ls [.int s0, .int s1, .int s2]) := by
  obtain ⟨hx, hb, hr, hml, hown, htb, hK, hA, hNB, hlocks, hXT⟩ := id C0
  intro x0 x1 x3 s0 s1 s2 h H locs ls hw hP hS hl
  refine lv_iadd hx hb d_LogCleanerModel_sizeOf_45 ?_
  refine lv_aload_n hx hb d_LogCleanerModel_sizeOf_46 rfl (lv_at hl 0 rfl) ?_
  refine xgetA hx hb htb i_LogCleanerModel hown hK hP (ci := 4) rfl 6 (by decide) (htb _ k_LogCleanerModel_23) (fun _ h9 => h9) hw d_LogCleanerModel_sizeOf_47 (fun r8 hw => ?_)
  refine lv_iload_n hx hb d_LogCleanerModel_sizeOf_50 rfl (lv_at hl 2 rfl) ?_
  obtain ⟨p9, hpe, hw⟩ := hw
  revert hw
  revert hl
  subst hpe
  intro hl hw
  replace hl : lv_has ls 4 [(0, .ref x0), (1, .int x1), (3, .int x3)] := hl
  refine xldz hx hb hK hP 4 rfl hw d_LogCleanerModel_sizeOf_51 (fun v10 hw => ?_)
  refine lv_if_eq (tgt := 60) hx hb d_LogCleanerModel_sizeOf_52 (by decide) (fun cq => ?_) (fun cq => ?_)
  · replace hw := hw.1 cq
    refine lv_iconst (v := 0) hx hb d_LogCleanerModel_sizeOf_60 (by decide) ?_
    exact sb_LogCleanerModel_sizeOf_61 C0 hk5 x0 x1 x3 0 (s1 + s0) s2 h _ _ _ hw hP hS (lv_sub hl [0, 1, 2] rfl)
  · replace hw := hw.2 cq
    refine lv_bipush (v := 8) hx hb d_LogCleanerModel_sizeOf_55 (by decide) ?_
    refine lv_goto (tgt := 61) hx hb d_LogCleanerModel_sizeOf_57 (by decide) ?_
    exact sb_LogCleanerModel_sizeOf_61 C0 hk5 x0 x1 x3 8 (s1 + s0) s2 h _ _ _ hw hP hS (lv_sub hl [0, 1, 2] rfl)

set_option maxHeartbeats 4000000 in
set_option maxRecDepth 100000 in
theorem sl_LogCleanerModel_sizeOf_5 {p : Program} {l : Launch} {e : Env} {s : State} {m : MethodId} {args : Array Value} {below : List Frame} {meth : Method} {c : Code} {D : va_G} {d : Nat → ClassId} {A : Nat → Prop} {h0 : xw} {Q : Int32 → xw → Prop} (C0 : xctx p s m args meth c b_LogCleanerModel_sizeOf 4 (some .int) R_LogCleanerModel D d A True) : ∀ (n : Nat) (x : Nat × Int32 × Int32 × Int32) (h : xw) (H : Heap) (locs : List Loc) (ls : Array Slot), xloop (fun (k : Nat × Int32 × Int32 × Int32 → xw → Prop) (x : Nat × Int32 × Int32 × Int32) (h : xw) => wc_LogCleanerModel_sizeOf_5 d Q (fun y0 y1 y2 y3 h => k (y0, y1, y2, y3) h) x.1 x.2.1 x.2.2.1 x.2.2.2 h) n x h → xR sgM h0 D A h H → va_S A s.heap H locs → lv_has ls 4 [(0, .ref x.1), (1, .int x.2.1), (2, .int x.2.2.1), (3, .int x.2.2.2)] → W p l e rm_LogCleanerModel_sizeOf s m args below meth c H locs 0 0 (MQ below (va_Qi (fun r u => Q r u ∧ xfr sgM h0 u) (xB D d A) A) args s 0 0 A) (F0 m 5 ls []) := by
  obtain ⟨hx, hb, hr, hml, hown, htb, hK, hA, hNB, hlocks, hXT⟩ := id C0
  intro n
  induction n with
  | zero => intro x h H locs ls hw; exact hw.elim
  | succ n ih =>
    rintro ⟨x0, x1, x2, x3⟩ h H locs ls hw hP hS hl
    replace hw : wc_LogCleanerModel_sizeOf_5 d Q (fun y0 y1 y2 y3 h => xloop (fun (k : Nat × Int32 × Int32 × Int32 → xw → Prop) (x : Nat × Int32 × Int32 × Int32) (h : xw) => wc_LogCleanerModel_sizeOf_5 d Q (fun y0 y1 y2 y3 h => k (y0, y1, y2, y3) h) x.1 x.2.1 x.2.2.1 x.2.2.2 h) n (y0, y1, y2, y3) h) x0 x1 x2 x3 h := hw
    have hk5 := fun (x0 : Nat) (x1 : Int32) (x2 : Int32) (x3 : Int32) => ih (x0, x1, x2, x3)
    refine lv_iload_n hx hb d_LogCleanerModel_sizeOf_5 rfl (lv_at hl 3 rfl) ?_
    refine lv_aload_n hx hb d_LogCleanerModel_sizeOf_6 rfl (lv_at hl 0 rfl) ?_
    refine xgetI hx hb htb i_LogCleanerModel hown hK hP (ci := 4) rfl 1 (by decide) (htb _ k_LogCleanerModel_75) (fun _ h9 => h9) hw d_LogCleanerModel_sizeOf_7 (fun v1 hw => ?_)
    refine lv_icmp_ge (tgt := 70) hx hb d_LogCleanerModel_sizeOf_10 (by decide) (fun cq => ?_) (fun cq => ?_)
    · replace hw := hw.1 cq
      refine lv_iload_n hx hb d_LogCleanerModel_sizeOf_70 rfl (lv_at hl 2 rfl) ?_
      refine W.widen (k := 0) (n := 0) (Nat.le_of_ble_eq_true rfl) (Nat.le_of_ble_eq_true rfl) ?_
      exact xretI C0 hw hP hS d_LogCleanerModel_sizeOf_71
    · replace hw := hw.2 cq
      refine lv_aload_n hx hb d_LogCleanerModel_sizeOf_13 rfl (lv_at hl 0 rfl) ?_
      refine xgetA hx hb htb i_LogCleanerModel hown hK hP (ci := 4) rfl 2 (by decide) (htb _ k_LogCleanerModel_7) (fun _ h9 => h9) hw d_LogCleanerModel_sizeOf_14 (fun r2 hw => ?_)
      refine lv_iload_n hx hb d_LogCleanerModel_sizeOf_17 rfl (lv_at hl 3 rfl) ?_
      obtain ⟨p3, hpe, hw⟩ := hw
      revert hw
      revert hl
      subst hpe
      intro hl hw
      replace hl : lv_has ls 4 [(0, .ref x0), (1, .int x1), (2, .int x2), (3, .int x3)] := hl
      refine xldi hx hb hK hP 2 rfl hw d_LogCleanerModel_sizeOf_18 (fun v4 hw => ?_)
      refine lv_iload_n hx hb d_LogCleanerModel_sizeOf_19 rfl (lv_at hl 1 rfl) ?_
      refine lv_icmp_ne (tgt := 64) hx hb d_LogCleanerModel_sizeOf_20 (by decide) (fun cq => ?_) (fun cq => ?_)
      · replace hw := hw.2 cq
        exact sb_LogCleanerModel_sizeOf_64 C0 hk5 x0 x1 x2 x3 h _ _ _ hw hP hS (lv_sub hl [0, 1, 2, 3] rfl)
      · replace hw := hw.1 cq
        refine lv_iload_n hx hb d_LogCleanerModel_sizeOf_23 rfl (lv_at hl 2 rfl) ?_
        refine lv_bipush (v := 8) hx hb d_LogCleanerModel_sizeOf_24 (by decide) ?_
        refine lv_aload_n hx hb d_LogCleanerModel_sizeOf_26 rfl (lv_at hl 0 rfl) ?_
        refine xgetA hx hb htb i_LogCleanerModel hown hK hP (ci := 4) rfl 5 (by decide) (htb _ k_LogCleanerModel_20) (fun _ h9 => h9) hw d_LogCleanerModel_sizeOf_27 (fun r5 hw => ?_)
        refine lv_iload_n hx hb d_LogCleanerModel_sizeOf_30 rfl (lv_at hl 3 rfl) ?_
        obtain ⟨p6, hpe, hw⟩ := hw
        revert hw
        revert hl
        subst hpe
        intro hl hw
        replace hl : lv_has ls 4 [(0, .ref x0), (1, .int x1), (2, .int x2), (3, .int x3)] := hl
        refine xldi hx hb hK hP 2 rfl hw d_LogCleanerModel_sizeOf_31 (fun v7 hw => ?_)
        refine lv_if_le (tgt := 44) hx hb d_LogCleanerModel_sizeOf_32 (by decide) (fun cq => ?_) (fun cq => ?_)
        · replace hw := hw.1 cq
          refine lv_iconst (v := 0) hx hb d_LogCleanerModel_sizeOf_44 (by decide) ?_
          exact sb_LogCleanerModel_sizeOf_45 C0 hk5 x0 x1 x3 0 8 x2 h _ _ _ hw hP hS (lv_sub hl [0, 1, 3] rfl)
        · replace hw := hw.2 cq
          refine lv_aload_n hx hb d_LogCleanerModel_sizeOf_35 rfl (lv_at hl 0 rfl) ?_
          refine xgetA hx hb htb i_LogCleanerModel hown hK hP (ci := 4) rfl 5 (by decide) (htb _ k_LogCleanerModel_20) (fun _ h9 => h9) hw d_LogCleanerModel_sizeOf_36 (fun r11 hw => ?_)
          refine lv_iload_n hx hb d_LogCleanerModel_sizeOf_39 rfl (lv_at hl 3 rfl) ?_
          obtain ⟨p12, hpe, hw⟩ := hw
          revert hw
          revert hl
          subst hpe
          intro hl hw
          replace hl : lv_has ls 4 [(0, .ref x0), (1, .int x1), (2, .int x2), (3, .int x3)] := hl
          refine xldi hx hb hK hP 2 rfl hw d_LogCleanerModel_sizeOf_40 (fun v13 hw => ?_)
          refine lv_goto (tgt := 45) hx hb d_LogCleanerModel_sizeOf_41 (by decide) ?_
          exact sb_LogCleanerModel_sizeOf_45 C0 hk5 x0 x1 x3 v13 8 x2 h _ _ _ hw hP hS (lv_sub hl [0, 1, 3] rfl)

set_option maxHeartbeats 4000000 in
set_option maxRecDepth 100000 in
theorem m_LogCleanerModel_sizeOf (l : Launch) (D : va_G) (d : Nat → ClassId) (h : xw) (sz : Nat) (a0 : Nat) (a1 : Int32) (Q : Int32 → xw → Prop) (hw : wp_LogCleanerModel_sizeOf d h a0 a1 Q) : Met l y_LogCleanerModel_sizeOf ws_LogCleanerModel_sizeOf rm_LogCleanerModel_sizeOf (xPre D d h [.ref a0, .int a1] sz) (va_Qi (fun r u => Q r u ∧ xfr sgM h u) (xB D d (xA h sz)) (xA h sz)) 0 0 (xA h sz) := by
  refine Met.ofW (cc := b_LogCleanerModel_sizeOf) (maxL := 4) (ret := (some .int)) (by decide) rfl ?_
  intro p e s m args below meth c s₁ B hml hv
  obtain ⟨rfl, hsz, hP0, hK, hNB⟩ := hv
  have hts := atoms_spec (ws := ws_LogCleanerModel_sizeOf) B.pre
  have htb := fun w (hw9 : w ∈ TB) => hts w (List.mem_cons_of_mem _ hw9)
  have hown : s.vm.findClass R_LogCleanerModel = some m.cls := findClass_of_methodNamed B.named
  subst hsz
  obtain ⟨A, hAe⟩ : ∃ A, A = xA h s.heap.size := ⟨_, rfl⟩
  rw [← hAe]
  have hP : xR sgM h D A h s.heap := ⟨by rw [hAe]; exact hP0.self, xfr.rf⟩
  have hA : ∀ q, s.heap.size ≤ q → A q := fun q hq => by rw [hAe]; exact Or.inr hq
  have hS : va_S A s.heap s.heap [] := va_S.rf
  have C0 : xctx p s m ([.ref a0, .int a1] : List Value).toArray meth c b_LogCleanerModel_sizeOf 4 (some .int) R_LogCleanerModel D d A True := ⟨B.exec, B.bytes, B.returns, hml, hown, htb, hK, hA, hNB, B.notSynchronized, trivial⟩
  obtain ⟨hx, hb, hr, -, -, -, -, -, -, hlocks, hXT⟩ := id C0
  have hl := lv_entry ([.ref a0, .int a1] : List Value) (n := 4) (Nat.le_of_ble_eq_true rfl)
  rw [lg_entry_eq]
  generalize (lg_sl ([.ref a0, .int a1] : List Value) ++ List.replicate (4 - (lg_sl ([.ref a0, .int a1] : List Value)).length) Slot.unset).toArray = ls at hl ⊢
  have hl : lv_has ls 4 [(0, .ref a0), (1, .int a1)] := hl
  refine lv_bipush (v := 61) hx hb d_LogCleanerModel_sizeOf_0 (by decide) ?_
  refine lv_istore_n (lv' := [(2, .int 61), (0, .ref a0), (1, .int a1)]) hx hb d_LogCleanerModel_sizeOf_2 rfl hl (by decide) rfl (fun ls hl => ?_)
  refine lv_iconst (v := 0) hx hb d_LogCleanerModel_sizeOf_3 (by decide) ?_
  refine lv_istore_n (lv' := [(3, .int 0), (2, .int 61), (0, .ref a0), (1, .int a1)]) hx hb d_LogCleanerModel_sizeOf_4 rfl hl (by decide) rfl (fun ls hl => ?_)
  obtain ⟨n, hw⟩ := hw
  exact sl_LogCleanerModel_sizeOf_5 C0 n (a0, a1, 61, 0) h _ _ _ hw hP hS (lv_sub hl [2, 3, 1, 0] rfl)

theorem d_LogCleanerModel_close_0 : decode b_LogCleanerModel_close 0 = .ok (.aload_n 0, 1) := by decide +kernel
theorem d_LogCleanerModel_close_1 : decode b_LogCleanerModel_close 1 = .ok (.iload_n 1, 1) := by decide +kernel
theorem d_LogCleanerModel_close_2 : decode b_LogCleanerModel_close 2 = .ok (.iconst (-1), 1) := by decide +kernel
theorem d_LogCleanerModel_close_3 : decode b_LogCleanerModel_close 3 = .ok (.if_icmp .ge 7, 3) := by decide +kernel
theorem d_LogCleanerModel_close_6 : decode b_LogCleanerModel_close 6 = .ok (.iconst 1, 1) := by decide +kernel
theorem d_LogCleanerModel_close_7 : decode b_LogCleanerModel_close 7 = .ok (.goto 25, 3) := by decide +kernel
theorem d_LogCleanerModel_close_10 : decode b_LogCleanerModel_close 10 = .ok (.aload_n 0, 1) := by decide +kernel
theorem d_LogCleanerModel_close_11 : decode b_LogCleanerModel_close 11 = .ok (.getfield 72, 3) := by decide +kernel
theorem d_LogCleanerModel_close_14 : decode b_LogCleanerModel_close 14 = .ok (.ifCond .eq 13, 3) := by decide +kernel
theorem d_LogCleanerModel_close_17 : decode b_LogCleanerModel_close 17 = .ok (.aload_n 0, 1) := by decide +kernel
theorem d_LogCleanerModel_close_18 : decode b_LogCleanerModel_close 18 = .ok (.getfield 82, 3) := by decide +kernel
theorem d_LogCleanerModel_close_21 : decode b_LogCleanerModel_close 21 = .ok (.sipush 400, 3) := by decide +kernel
theorem d_LogCleanerModel_close_24 : decode b_LogCleanerModel_close 24 = .ok (.if_icmp .ne 7, 3) := by decide +kernel
theorem d_LogCleanerModel_close_27 : decode b_LogCleanerModel_close 27 = .ok (.iconst 2, 1) := by decide +kernel
theorem d_LogCleanerModel_close_28 : decode b_LogCleanerModel_close 28 = .ok (.goto 4, 3) := by decide +kernel
theorem d_LogCleanerModel_close_31 : decode b_LogCleanerModel_close 31 = .ok (.iconst 0, 1) := by decide +kernel
theorem d_LogCleanerModel_close_32 : decode b_LogCleanerModel_close 32 = .ok (.putfield 66, 3) := by decide +kernel
theorem d_LogCleanerModel_close_35 : decode b_LogCleanerModel_close 35 = .ok (.aload_n 0, 1) := by decide +kernel
theorem d_LogCleanerModel_close_36 : decode b_LogCleanerModel_close 36 = .ok (.getfield 66, 3) := by decide +kernel
theorem d_LogCleanerModel_close_39 : decode b_LogCleanerModel_close 39 = .ok (.ifCond .le 5, 3) := by decide +kernel
theorem d_LogCleanerModel_close_42 : decode b_LogCleanerModel_close 42 = .ok (.iconst 0, 1) := by decide +kernel
theorem d_LogCleanerModel_close_43 : decode b_LogCleanerModel_close 43 = .ok (.ireturn, 1) := by decide +kernel
theorem d_LogCleanerModel_close_44 : decode b_LogCleanerModel_close 44 = .ok (.aload_n 0, 1) := by decide +kernel
theorem d_LogCleanerModel_close_45 : decode b_LogCleanerModel_close 45 = .ok (.getfield 48, 3) := by decide +kernel
theorem d_LogCleanerModel_close_48 : decode b_LogCleanerModel_close 48 = .ok (.aload_n 0, 1) := by decide +kernel
theorem d_LogCleanerModel_close_49 : decode b_LogCleanerModel_close 49 = .ok (.getfield 82, 3) := by decide +kernel
theorem d_LogCleanerModel_close_52 : decode b_LogCleanerModel_close 52 = .ok (.aload_n 0, 1) := by decide +kernel
theorem d_LogCleanerModel_close_53 : decode b_LogCleanerModel_close 53 = .ok (.getfield 85, 3) := by decide +kernel
theorem d_LogCleanerModel_close_56 : decode b_LogCleanerModel_close 56 = .ok (.iastore, 1) := by decide +kernel
theorem d_LogCleanerModel_close_57 : decode b_LogCleanerModel_close 57 = .ok (.aload_n 0, 1) := by decide +kernel
theorem d_LogCleanerModel_close_58 : decode b_LogCleanerModel_close 58 = .ok (.getfield 51, 3) := by decide +kernel
theorem d_LogCleanerModel_close_61 : decode b_LogCleanerModel_close 61 = .ok (.aload_n 0, 1) := by decide +kernel
theorem d_LogCleanerModel_close_62 : decode b_LogCleanerModel_close 62 = .ok (.getfield 82, 3) := by decide +kernel
theorem d_LogCleanerModel_close_65 : decode b_LogCleanerModel_close 65 = .ok (.iload_n 1, 1) := by decide +kernel
theorem d_LogCleanerModel_close_66 : decode b_LogCleanerModel_close 66 = .ok (.iastore, 1) := by decide +kernel
theorem d_LogCleanerModel_close_67 : decode b_LogCleanerModel_close 67 = .ok (.iconst 0, 1) := by decide +kernel
theorem d_LogCleanerModel_close_68 : decode b_LogCleanerModel_close 68 = .ok (.istore_n 2, 1) := by decide +kernel
theorem d_LogCleanerModel_close_69 : decode b_LogCleanerModel_close 69 = .ok (.iload_n 2, 1) := by decide +kernel
theorem d_LogCleanerModel_close_70 : decode b_LogCleanerModel_close 70 = .ok (.aload_n 0, 1) := by decide +kernel
theorem d_LogCleanerModel_close_71 : decode b_LogCleanerModel_close 71 = .ok (.getfield 72, 3) := by decide +kernel
theorem d_LogCleanerModel_close_74 : decode b_LogCleanerModel_close 74 = .ok (.if_icmp .ge 130, 3) := by decide +kernel
theorem d_LogCleanerModel_close_77 : decode b_LogCleanerModel_close 77 = .ok (.aload_n 0, 1) := by decide +kernel
theorem d_LogCleanerModel_close_78 : decode b_LogCleanerModel_close 78 = .ok (.getfield 7, 3) := by decide +kernel
theorem d_LogCleanerModel_close_81 : decode b_LogCleanerModel_close 81 = .ok (.aload_n 0, 1) := by decide +kernel
theorem d_LogCleanerModel_close_82 : decode b_LogCleanerModel_close 82 = .ok (.getfield 75, 3) := by decide +kernel
theorem d_LogCleanerModel_close_85 : decode b_LogCleanerModel_close 85 = .ok (.aload_n 0, 1) := by decide +kernel
theorem d_LogCleanerModel_close_86 : decode b_LogCleanerModel_close 86 = .ok (.getfield 82, 3) := by decide +kernel
theorem d_LogCleanerModel_close_89 : decode b_LogCleanerModel_close 89 = .ok (.iastore, 1) := by decide +kernel
theorem d_LogCleanerModel_close_90 : decode b_LogCleanerModel_close 90 = .ok (.aload_n 0, 1) := by decide +kernel
theorem d_LogCleanerModel_close_91 : decode b_LogCleanerModel_close 91 = .ok (.getfield 13, 3) := by decide +kernel
theorem d_LogCleanerModel_close_94 : decode b_LogCleanerModel_close 94 = .ok (.aload_n 0, 1) := by decide +kernel
theorem d_LogCleanerModel_close_95 : decode b_LogCleanerModel_close 95 = .ok (.getfield 75, 3) := by decide +kernel
theorem d_LogCleanerModel_close_98 : decode b_LogCleanerModel_close 98 = .ok (.aload_n 0, 1) := by decide +kernel
theorem d_LogCleanerModel_close_99 : decode b_LogCleanerModel_close 99 = .ok (.getfield 85, 3) := by decide +kernel
theorem d_LogCleanerModel_close_102 : decode b_LogCleanerModel_close 102 = .ok (.iastore, 1) := by decide +kernel
theorem d_LogCleanerModel_close_103 : decode b_LogCleanerModel_close 103 = .ok (.aload_n 0, 1) := by decide +kernel
theorem d_LogCleanerModel_close_104 : decode b_LogCleanerModel_close 104 = .ok (.getfield 16, 3) := by decide +kernel
theorem d_LogCleanerModel_close_107 : decode b_LogCleanerModel_close 107 = .ok (.aload_n 0, 1) := by decide +kernel
theorem d_LogCleanerModel_close_108 : decode b_LogCleanerModel_close 108 = .ok (.getfield 75, 3) := by decide +kernel
theorem d_LogCleanerModel_close_111 : decode b_LogCleanerModel_close 111 = .ok (.aload_n 0, 1) := by decide +kernel
theorem d_LogCleanerModel_close_112 : decode b_LogCleanerModel_close 112 = .ok (.getfield 33, 3) := by decide +kernel
theorem d_LogCleanerModel_close_115 : decode b_LogCleanerModel_close 115 = .ok (.iload_n 2, 1) := by decide +kernel
theorem d_LogCleanerModel_close_116 : decode b_LogCleanerModel_close 116 = .ok (.laload, 1) := by decide +kernel
theorem d_LogCleanerModel_close_117 : decode b_LogCleanerModel_close 117 = .ok (.lastore, 1) := by decide +kernel
theorem d_LogCleanerModel_close_118 : decode b_LogCleanerModel_close 118 = .ok (.aload_n 0, 1) := by decide +kernel
theorem d_LogCleanerModel_close_119 : decode b_LogCleanerModel_close 119 = .ok (.getfield 20, 3) := by decide +kernel
theorem d_LogCleanerModel_close_122 : decode b_LogCleanerModel_close 122 = .ok (.aload_n 0, 1) := by decide +kernel
theorem d_LogCleanerModel_close_123 : decode b_LogCleanerModel_close 123 = .ok (.getfield 75, 3) := by decide +kernel
theorem d_LogCleanerModel_close_126 : decode b_LogCleanerModel_close 126 = .ok (.aload_n 0, 1) := by decide +kernel
theorem d_LogCleanerModel_close_127 : decode b_LogCleanerModel_close 127 = .ok (.getfield 36, 3) := by decide +kernel
theorem d_LogCleanerModel_close_130 : decode b_LogCleanerModel_close 130 = .ok (.iload_n 2, 1) := by decide +kernel
theorem d_LogCleanerModel_close_131 : decode b_LogCleanerModel_close 131 = .ok (.iaload, 1) := by decide +kernel
theorem d_LogCleanerModel_close_132 : decode b_LogCleanerModel_close 132 = .ok (.iastore, 1) := by decide +kernel
theorem d_LogCleanerModel_close_133 : decode b_LogCleanerModel_close 133 = .ok (.aload_n 0, 1) := by decide +kernel
theorem d_LogCleanerModel_close_134 : decode b_LogCleanerModel_close 134 = .ok (.getfield 23, 3) := by decide +kernel
theorem d_LogCleanerModel_close_137 : decode b_LogCleanerModel_close 137 = .ok (.aload_n 0, 1) := by decide +kernel
theorem d_LogCleanerModel_close_138 : decode b_LogCleanerModel_close 138 = .ok (.getfield 75, 3) := by decide +kernel
theorem d_LogCleanerModel_close_141 : decode b_LogCleanerModel_close 141 = .ok (.aload_n 0, 1) := by decide +kernel
theorem d_LogCleanerModel_close_142 : decode b_LogCleanerModel_close 142 = .ok (.getfield 39, 3) := by decide +kernel
theorem d_LogCleanerModel_close_145 : decode b_LogCleanerModel_close 145 = .ok (.iload_n 2, 1) := by decide +kernel
theorem d_LogCleanerModel_close_146 : decode b_LogCleanerModel_close 146 = .ok (.baload, 1) := by decide +kernel
theorem d_LogCleanerModel_close_147 : decode b_LogCleanerModel_close 147 = .ok (.bastore, 1) := by decide +kernel
theorem d_LogCleanerModel_close_148 : decode b_LogCleanerModel_close 148 = .ok (.aload_n 0, 1) := by decide +kernel
theorem d_LogCleanerModel_close_149 : decode b_LogCleanerModel_close 149 = .ok (.getfield 27, 3) := by decide +kernel
theorem d_LogCleanerModel_close_152 : decode b_LogCleanerModel_close 152 = .ok (.aload_n 0, 1) := by decide +kernel
theorem d_LogCleanerModel_close_153 : decode b_LogCleanerModel_close 153 = .ok (.getfield 75, 3) := by decide +kernel
theorem d_LogCleanerModel_close_156 : decode b_LogCleanerModel_close 156 = .ok (.aload_n 0, 1) := by decide +kernel
theorem d_LogCleanerModel_close_157 : decode b_LogCleanerModel_close 157 = .ok (.getfield 42, 3) := by decide +kernel
theorem d_LogCleanerModel_close_160 : decode b_LogCleanerModel_close 160 = .ok (.iload_n 2, 1) := by decide +kernel
theorem d_LogCleanerModel_close_161 : decode b_LogCleanerModel_close 161 = .ok (.laload, 1) := by decide +kernel
theorem d_LogCleanerModel_close_162 : decode b_LogCleanerModel_close 162 = .ok (.lastore, 1) := by decide +kernel
theorem d_LogCleanerModel_close_163 : decode b_LogCleanerModel_close 163 = .ok (.aload_n 0, 1) := by decide +kernel
theorem d_LogCleanerModel_close_164 : decode b_LogCleanerModel_close 164 = .ok (.getfield 30, 3) := by decide +kernel
theorem d_LogCleanerModel_close_167 : decode b_LogCleanerModel_close 167 = .ok (.aload_n 0, 1) := by decide +kernel
theorem d_LogCleanerModel_close_168 : decode b_LogCleanerModel_close 168 = .ok (.getfield 75, 3) := by decide +kernel
theorem d_LogCleanerModel_close_171 : decode b_LogCleanerModel_close 171 = .ok (.aload_n 0, 1) := by decide +kernel
theorem d_LogCleanerModel_close_172 : decode b_LogCleanerModel_close 172 = .ok (.getfield 45, 3) := by decide +kernel
theorem d_LogCleanerModel_close_175 : decode b_LogCleanerModel_close 175 = .ok (.iload_n 2, 1) := by decide +kernel
theorem d_LogCleanerModel_close_176 : decode b_LogCleanerModel_close 176 = .ok (.iaload, 1) := by decide +kernel
theorem d_LogCleanerModel_close_177 : decode b_LogCleanerModel_close 177 = .ok (.iastore, 1) := by decide +kernel
theorem d_LogCleanerModel_close_178 : decode b_LogCleanerModel_close 178 = .ok (.aload_n 0, 1) := by decide +kernel
theorem d_LogCleanerModel_close_179 : decode b_LogCleanerModel_close 179 = .ok (.dup, 1) := by decide +kernel
theorem d_LogCleanerModel_close_180 : decode b_LogCleanerModel_close 180 = .ok (.getfield 75, 3) := by decide +kernel
theorem d_LogCleanerModel_close_183 : decode b_LogCleanerModel_close 183 = .ok (.iconst 1, 1) := by decide +kernel
theorem d_LogCleanerModel_close_184 : decode b_LogCleanerModel_close 184 = .ok (.iadd, 1) := by decide +kernel
theorem d_LogCleanerModel_close_185 : decode b_LogCleanerModel_close 185 = .ok (.putfield 75, 3) := by decide +kernel
theorem d_LogCleanerModel_close_188 : decode b_LogCleanerModel_close 188 = .ok (.aload_n 0, 1) := by decide +kernel
theorem d_LogCleanerModel_close_189 : decode b_LogCleanerModel_close 189 = .ok (.dup, 1) := by decide +kernel
theorem d_LogCleanerModel_close_190 : decode b_LogCleanerModel_close 190 = .ok (.getfield 85, 3) := by decide +kernel
theorem d_LogCleanerModel_close_193 : decode b_LogCleanerModel_close 193 = .ok (.iconst 1, 1) := by decide +kernel
theorem d_LogCleanerModel_close_194 : decode b_LogCleanerModel_close 194 = .ok (.iadd, 1) := by decide +kernel
theorem d_LogCleanerModel_close_195 : decode b_LogCleanerModel_close 195 = .ok (.putfield 85, 3) := by decide +kernel
theorem d_LogCleanerModel_close_198 : decode b_LogCleanerModel_close 198 = .ok (.iinc 2 1, 3) := by decide +kernel
theorem d_LogCleanerModel_close_201 : decode b_LogCleanerModel_close 201 = .ok (.goto (-132), 3) := by decide +kernel
theorem d_LogCleanerModel_close_204 : decode b_LogCleanerModel_close 204 = .ok (.iconst 0, 1) := by decide +kernel
theorem d_LogCleanerModel_close_205 : decode b_LogCleanerModel_close 205 = .ok (.istore_n 2, 1) := by decide +kernel
theorem d_LogCleanerModel_close_206 : decode b_LogCleanerModel_close 206 = .ok (.iconst 0, 1) := by decide +kernel
theorem d_LogCleanerModel_close_207 : decode b_LogCleanerModel_close 207 = .ok (.istore_n 3, 1) := by decide +kernel
theorem d_LogCleanerModel_close_208 : decode b_LogCleanerModel_close 208 = .ok (.iconst 0, 1) := by decide +kernel
theorem d_LogCleanerModel_close_209 : decode b_LogCleanerModel_close 209 = .ok (.istore 4, 2) := by decide +kernel
theorem d_LogCleanerModel_close_211 : decode b_LogCleanerModel_close 211 = .ok (.iload 4, 2) := by decide +kernel
theorem d_LogCleanerModel_close_213 : decode b_LogCleanerModel_close 213 = .ok (.aload_n 0, 1) := by decide +kernel
theorem d_LogCleanerModel_close_214 : decode b_LogCleanerModel_close 214 = .ok (.getfield 82, 3) := by decide +kernel
theorem d_LogCleanerModel_close_217 : decode b_LogCleanerModel_close 217 = .ok (.if_icmp .ge 17, 3) := by decide +kernel
theorem d_LogCleanerModel_close_220 : decode b_LogCleanerModel_close 220 = .ok (.aload_n 0, 1) := by decide +kernel
theorem d_LogCleanerModel_close_221 : decode b_LogCleanerModel_close 221 = .ok (.getfield 54, 3) := by decide +kernel
theorem d_LogCleanerModel_close_224 : decode b_LogCleanerModel_close 224 = .ok (.iload 4, 2) := by decide +kernel
theorem d_LogCleanerModel_close_226 : decode b_LogCleanerModel_close 226 = .ok (.iaload, 1) := by decide +kernel
theorem d_LogCleanerModel_close_227 : decode b_LogCleanerModel_close 227 = .ok (.istore_n 3, 1) := by decide +kernel
theorem d_LogCleanerModel_close_228 : decode b_LogCleanerModel_close 228 = .ok (.iinc 4 1, 3) := by decide +kernel
theorem d_LogCleanerModel_close_231 : decode b_LogCleanerModel_close 231 = .ok (.goto (-20), 3) := by decide +kernel
theorem d_LogCleanerModel_close_234 : decode b_LogCleanerModel_close 234 = .ok (.iconst 0, 1) := by decide +kernel
theorem d_LogCleanerModel_close_235 : decode b_LogCleanerModel_close 235 = .ok (.istore 4, 2) := by decide +kernel
theorem d_LogCleanerModel_close_237 : decode b_LogCleanerModel_close 237 = .ok (.iload 4, 2) := by decide +kernel
theorem d_LogCleanerModel_close_239 : decode b_LogCleanerModel_close 239 = .ok (.aload_n 0, 1) := by decide +kernel
theorem d_LogCleanerModel_close_240 : decode b_LogCleanerModel_close 240 = .ok (.getfield 82, 3) := by decide +kernel
theorem d_LogCleanerModel_close_243 : decode b_LogCleanerModel_close 243 = .ok (.if_icmp .ge 33, 3) := by decide +kernel
theorem d_LogCleanerModel_close_246 : decode b_LogCleanerModel_close 246 = .ok (.iload_n 2, 1) := by decide +kernel
theorem d_LogCleanerModel_close_247 : decode b_LogCleanerModel_close 247 = .ok (.aload_n 0, 1) := by decide +kernel
theorem d_LogCleanerModel_close_248 : decode b_LogCleanerModel_close 248 = .ok (.getfield 54, 3) := by decide +kernel
theorem d_LogCleanerModel_close_251 : decode b_LogCleanerModel_close 251 = .ok (.iload 4, 2) := by decide +kernel
theorem d_LogCleanerModel_close_253 : decode b_LogCleanerModel_close 253 = .ok (.iaload, 1) := by decide +kernel
theorem d_LogCleanerModel_close_254 : decode b_LogCleanerModel_close 254 = .ok (.iload_n 3, 1) := by decide +kernel
theorem d_LogCleanerModel_close_255 : decode b_LogCleanerModel_close 255 = .ok (.if_icmp .ne 12, 3) := by decide +kernel
theorem d_LogCleanerModel_close_258 : decode b_LogCleanerModel_close 258 = .ok (.aload_n 0, 1) := by decide +kernel
theorem d_LogCleanerModel_close_259 : decode b_LogCleanerModel_close 259 = .ok (.iload 4, 2) := by decide +kernel
theorem d_LogCleanerModel_close_261 : decode b_LogCleanerModel_close 261 = .ok (.invokevirtual 88, 3) := by decide +kernel
theorem d_LogCleanerModel_close_264 : decode b_LogCleanerModel_close 264 = .ok (.goto 4, 3) := by decide +kernel
theorem d_LogCleanerModel_close_267 : decode b_LogCleanerModel_close 267 = .ok (.iconst 0, 1) := by decide +kernel
theorem d_LogCleanerModel_close_268 : decode b_LogCleanerModel_close 268 = .ok (.iadd, 1) := by decide +kernel
theorem d_LogCleanerModel_close_269 : decode b_LogCleanerModel_close 269 = .ok (.istore_n 2, 1) := by decide +kernel
theorem d_LogCleanerModel_close_270 : decode b_LogCleanerModel_close 270 = .ok (.iinc 4 1, 3) := by decide +kernel
theorem d_LogCleanerModel_close_273 : decode b_LogCleanerModel_close 273 = .ok (.goto (-36), 3) := by decide +kernel
theorem d_LogCleanerModel_close_276 : decode b_LogCleanerModel_close 276 = .ok (.aload_n 0, 1) := by decide +kernel
theorem d_LogCleanerModel_close_277 : decode b_LogCleanerModel_close 277 = .ok (.getfield 54, 3) := by decide +kernel
theorem d_LogCleanerModel_close_280 : decode b_LogCleanerModel_close 280 = .ok (.aload_n 0, 1) := by decide +kernel
theorem d_LogCleanerModel_close_281 : decode b_LogCleanerModel_close 281 = .ok (.getfield 82, 3) := by decide +kernel
theorem d_LogCleanerModel_close_284 : decode b_LogCleanerModel_close 284 = .ok (.aload_n 0, 1) := by decide +kernel
theorem d_LogCleanerModel_close_285 : decode b_LogCleanerModel_close 285 = .ok (.getfield 82, 3) := by decide +kernel
theorem d_LogCleanerModel_close_288 : decode b_LogCleanerModel_close 288 = .ok (.ifCond .ne 7, 3) := by decide +kernel
theorem d_LogCleanerModel_close_291 : decode b_LogCleanerModel_close 291 = .ok (.iconst 0, 1) := by decide +kernel
theorem d_LogCleanerModel_close_292 : decode b_LogCleanerModel_close 292 = .ok (.goto 26, 3) := by decide +kernel
theorem d_LogCleanerModel_close_295 : decode b_LogCleanerModel_close 295 = .ok (.iload_n 2, 1) := by decide +kernel
theorem d_LogCleanerModel_close_296 : decode b_LogCleanerModel_close 296 = .ok (.aload_n 0, 1) := by decide +kernel
theorem d_LogCleanerModel_close_297 : decode b_LogCleanerModel_close 297 = .ok (.aload_n 0, 1) := by decide +kernel
theorem d_LogCleanerModel_close_298 : decode b_LogCleanerModel_close 298 = .ok (.getfield 82, 3) := by decide +kernel
theorem d_LogCleanerModel_close_301 : decode b_LogCleanerModel_close 301 = .ok (.invokevirtual 88, 3) := by decide +kernel
theorem d_LogCleanerModel_close_304 : decode b_LogCleanerModel_close 304 = .ok (.iadd, 1) := by decide +kernel
theorem d_LogCleanerModel_close_305 : decode b_LogCleanerModel_close 305 = .ok (.sipush 1000, 3) := by decide +kernel
theorem d_LogCleanerModel_close_308 : decode b_LogCleanerModel_close 308 = .ok (.if_icmp .le 9, 3) := by decide +kernel
theorem d_LogCleanerModel_close_311 : decode b_LogCleanerModel_close 311 = .ok (.iload_n 3, 1) := by decide +kernel
theorem d_LogCleanerModel_close_312 : decode b_LogCleanerModel_close 312 = .ok (.iconst 1, 1) := by decide +kernel
theorem d_LogCleanerModel_close_313 : decode b_LogCleanerModel_close 313 = .ok (.iadd, 1) := by decide +kernel
theorem d_LogCleanerModel_close_314 : decode b_LogCleanerModel_close 314 = .ok (.goto 4, 3) := by decide +kernel
theorem d_LogCleanerModel_close_317 : decode b_LogCleanerModel_close 317 = .ok (.iload_n 3, 1) := by decide +kernel
theorem d_LogCleanerModel_close_318 : decode b_LogCleanerModel_close 318 = .ok (.iastore, 1) := by decide +kernel
theorem d_LogCleanerModel_close_319 : decode b_LogCleanerModel_close 319 = .ok (.aload_n 0, 1) := by decide +kernel
theorem d_LogCleanerModel_close_320 : decode b_LogCleanerModel_close 320 = .ok (.dup, 1) := by decide +kernel
theorem d_LogCleanerModel_close_321 : decode b_LogCleanerModel_close 321 = .ok (.getfield 82, 3) := by decide +kernel
theorem d_LogCleanerModel_close_324 : decode b_LogCleanerModel_close 324 = .ok (.iconst 1, 1) := by decide +kernel
theorem d_LogCleanerModel_close_325 : decode b_LogCleanerModel_close 325 = .ok (.iadd, 1) := by decide +kernel
theorem d_LogCleanerModel_close_326 : decode b_LogCleanerModel_close 326 = .ok (.putfield 82, 3) := by decide +kernel
theorem d_LogCleanerModel_close_329 : decode b_LogCleanerModel_close 329 = .ok (.aload_n 0, 1) := by decide +kernel
theorem d_LogCleanerModel_close_330 : decode b_LogCleanerModel_close 330 = .ok (.iconst 0, 1) := by decide +kernel
theorem d_LogCleanerModel_close_331 : decode b_LogCleanerModel_close 331 = .ok (.putfield 72, 3) := by decide +kernel
theorem d_LogCleanerModel_close_334 : decode b_LogCleanerModel_close 334 = .ok (.aload_n 0, 1) := by decide +kernel
theorem d_LogCleanerModel_close_335 : decode b_LogCleanerModel_close 335 = .ok (.getfield 48, 3) := by decide +kernel
theorem d_LogCleanerModel_close_338 : decode b_LogCleanerModel_close 338 = .ok (.aload_n 0, 1) := by decide +kernel
theorem d_LogCleanerModel_close_339 : decode b_LogCleanerModel_close 339 = .ok (.getfield 82, 3) := by decide +kernel
theorem d_LogCleanerModel_close_342 : decode b_LogCleanerModel_close 342 = .ok (.iconst 1, 1) := by decide +kernel
theorem d_LogCleanerModel_close_343 : decode b_LogCleanerModel_close 343 = .ok (.isub, 1) := by decide +kernel
theorem d_LogCleanerModel_close_344 : decode b_LogCleanerModel_close 344 = .ok (.iaload, 1) := by decide +kernel
theorem d_LogCleanerModel_close_345 : decode b_LogCleanerModel_close 345 = .ok (.ireturn, 1) := by decide +kernel
def rm_LogCleanerModel_close : Room := { frames := 1, cells := 0, slots := 0, locals := 23 }
def ws_LogCleanerModel_close : List Cond := Cond.code y_LogCleanerModel_close b_LogCleanerModel_close 5 (some .int) :: TB
set_option maxHeartbeats 4000000 in
set_option maxRecDepth 100000 in
theorem sb_LogCleanerModel_close_318 {p : Program} {l : Launch} {e : Env} {s : State} {m : MethodId} {args : Array Value} {below : List Frame} {meth : Method} {c : Code} {D : va_G} {d : Nat → ClassId} {A : Nat → Prop} {h0 : xw} {Q : Int32 → xw → Prop} (C0 : xctx p s m args meth c b_LogCleanerModel_close 5 (some .int) R_LogCleanerModel D d A True) : ∀ (x0 : Nat) (s0 : Int32) (s1 : Int32) (s2 : Option Nat) (h : xw) (H : Heap) (locs : List Loc) (ls : Array Slot), wb_LogCleanerModel_close_318 d Q x0 s0 s1 s2 h → xR sgM h0 D A h H → va_S A s.heap H locs → lv_has ls 5 [(0, .ref x0)] → W p l e rm_LogCleanerModel_close s m args below meth c H locs 0 0 (MQ below (va_Qi (fun r u => Q r u ∧ xfr sgM h0 u) (xB D d A) A) args s 0 0 A) (F0 m 318 ls [.int s0, .int s1, va_rf s2]) := by
  obtain ⟨hx, hb, hr, hml, hown, htb, hK, hA, hNB, hlocks, hXT⟩ := id C0
  intro x0 s0 s1 s2 h H locs ls hw hP hS hl
  obtain ⟨p22, hpe, hw⟩ := hw
  revert hw
  revert hl
  subst hpe
  intro hl hw
  replace hl : lv_has ls 5 [(0, .ref x0)] := hl
  refine xsti hx hb hK hP hS 2 rfl (fun _ _ => rfl) hw d_LogCleanerModel_close_318 (fun h23 H locs hw hP hS => ?_)
  refine lv_aload_n hx hb d_LogCleanerModel_close_319 rfl (lv_at hl 0 rfl) ?_
  refine lv_dup hx hb d_LogCleanerModel_close_320 rfl ?_
  refine xgetI hx hb htb i_LogCleanerModel hown hK hP (ci := 4) rfl 16 (by decide) (htb _ k_LogCleanerModel_82) (fun _ h9 => h9) hw d_LogCleanerModel_close_321 (fun v24 hw => ?_)
  refine lv_iconst (v := 1) hx hb d_LogCleanerModel_close_324 (by decide) ?_
  refine lv_iadd hx hb d_LogCleanerModel_close_325 ?_
  refine xputI hx hb htb i_LogCleanerModel t_LogCleanerModel t_LogCleanerModel_ok n_LogCleanerModel hown hK hP hS (ci := 4) rfl (fun _ => rfl) 16 (by decide) (htb _ k_LogCleanerModel_82) (fun _ h9 => h9) rfl (by decide +kernel) hw d_LogCleanerModel_close_326 (fun h25 H locs hw hP hS => ?_)
  refine lv_aload_n hx hb d_LogCleanerModel_close_329 rfl (lv_at hl 0 rfl) ?_
  refine lv_iconst (v := 0) hx hb d_LogCleanerModel_close_330 (by decide) ?_
  refine xputI hx hb htb i_LogCleanerModel t_LogCleanerModel t_LogCleanerModel_ok n_LogCleanerModel hown hK hP hS (ci := 4) rfl (fun _ => rfl) 10 (by decide) (htb _ k_LogCleanerModel_72) (fun _ h9 => h9) rfl (by decide +kernel) hw d_LogCleanerModel_close_331 (fun h26 H locs hw hP hS => ?_)
  refine lv_aload_n hx hb d_LogCleanerModel_close_334 rfl (lv_at hl 0 rfl) ?_
  refine xgetA hx hb htb i_LogCleanerModel hown hK hP (ci := 4) rfl 17 (by decide) (htb _ k_LogCleanerModel_48) (fun _ h9 => h9) hw d_LogCleanerModel_close_335 (fun r27 hw => ?_)
  refine lv_aload_n hx hb d_LogCleanerModel_close_338 rfl (lv_at hl 0 rfl) ?_
  refine xgetI hx hb htb i_LogCleanerModel hown hK hP (ci := 4) rfl 16 (by decide) (htb _ k_LogCleanerModel_82) (fun _ h9 => h9) hw d_LogCleanerModel_close_339 (fun v28 hw => ?_)
  refine lv_iconst (v := 1) hx hb d_LogCleanerModel_close_342 (by decide) ?_
  refine lv_isub hx hb d_LogCleanerModel_close_343 ?_
  obtain ⟨p29, hpe, hw⟩ := hw
  revert hw
  revert hl
  subst hpe
  intro hl hw
  replace hl : lv_has ls 5 [(0, .ref x0)] := hl
  refine xldi hx hb hK hP 2 rfl hw d_LogCleanerModel_close_344 (fun v30 hw => ?_)
  refine W.widen (k := 0) (n := 0) (Nat.le_of_ble_eq_true rfl) (Nat.le_of_ble_eq_true rfl) ?_
  exact xretI C0 hw hP hS d_LogCleanerModel_close_345

set_option maxHeartbeats 4000000 in
set_option maxRecDepth 100000 in
theorem sb_LogCleanerModel_close_268 {p : Program} {l : Launch} {e : Env} {s : State} {m : MethodId} {args : Array Value} {below : List Frame} {meth : Method} {c : Code} {D : va_G} {d : Nat → ClassId} {A : Nat → Prop} {h0 : xw} {Q : Int32 → xw → Prop} {k237 : Nat → Int32 → Int32 → Int32 → xw → Prop} (C0 : xctx p s m args meth c b_LogCleanerModel_close 5 (some .int) R_LogCleanerModel D d A True) (hk237 : ∀ (x0 : Nat) (x2 : Int32) (x3 : Int32) (x4 : Int32) (h : xw) (H : Heap) (locs : List Loc) (ls : Array Slot), k237 x0 x2 x3 x4 h → xR sgM h0 D A h H → va_S A s.heap H locs → lv_has ls 5 [(0, .ref x0), (2, .int x2), (3, .int x3), (4, .int x4)] → W p l e rm_LogCleanerModel_close s m args below meth c H locs 0 0 (MQ below (va_Qi (fun r u => Q r u ∧ xfr sgM h0 u) (xB D d A) A) args s 0 0 A) (F0 m 237 ls [])) : ∀ (x0 : Nat) (x3 : Int32) (x4 : Int32) (s0 : Int32) (s1 : Int32) (h : xw) (H : Heap) (locs : List Loc) (ls : Array Slot), wb_LogCleanerModel_close_268 d k237 Q x0 x3 x4 s0 s1 h → xR sgM h0 D A h H → va_S A s.heap H locs → lv_has ls 5 [(0, .ref x0), (3, .int x3), (4, .int x4)] → W p l e rm_LogCleanerModel_close s m args below meth c H locs 0 0 (MQ below (va_Qi (fun r u => Q r u ∧ xfr sgM h0 u) (xB D d A) A) args s 0 0 A) (F0 m 268 ls [.int s0, .int s1]) := by
  obtain ⟨hx, hb, hr, hml, hown, htb, hK, hA, hNB, hlocks, hXT⟩ := id C0
  intro x0 x3 x4 s0 s1 h H locs ls hw hP hS hl
  refine lv_iadd hx hb d_LogCleanerModel_close_268 ?_
  refine lv_istore_n (lv' := [(2, .int (s1 + s0)), (0, .ref x0), (3, .int x3), (4, .int x4)]) hx hb d_LogCleanerModel_close_269 rfl hl (by decide) rfl (fun ls hl => ?_)
  refine lv_iinc (v := x4 + 1) (lv' := [(4, .int (x4 + 1)), (2, .int (s1 + s0)), (0, .ref x0), (3, .int x3)]) hx hb d_LogCleanerModel_close_270 hl (k := 3) rfl rfl (by decide) rfl (fun ls hl => ?_)
  refine lv_goto (tgt := 237) hx hb d_LogCleanerModel_close_273 (by decide) ?_
  exact hk237 x0 (s1 + s0) x3 (x4 + 1) h _ _ _ hw hP hS (lv_sub hl [2, 1, 3, 0] rfl)

set_option maxHeartbeats 4000000 in
set_option maxRecDepth 100000 in
theorem sl_LogCleanerModel_close_237 {p : Program} {l : Launch} {e : Env} {s : State} {m : MethodId} {args : Array Value} {below : List Frame} {meth : Method} {c : Code} {D : va_G} {d : Nat → ClassId} {A : Nat → Prop} {h0 : xw} {Q : Int32 → xw → Prop} (C0 : xctx p s m args meth c b_LogCleanerModel_close 5 (some .int) R_LogCleanerModel D d A True) : ∀ (n : Nat) (x : Nat × Int32 × Int32 × Int32) (h : xw) (H : Heap) (locs : List Loc) (ls : Array Slot), xloop (fun (k : Nat × Int32 × Int32 × Int32 → xw → Prop) (x : Nat × Int32 × Int32 × Int32) (h : xw) => wc_LogCleanerModel_close_237 d Q (fun y0 y2 y3 y4 h => k (y0, y2, y3, y4) h) x.1 x.2.1 x.2.2.1 x.2.2.2 h) n x h → xR sgM h0 D A h H → va_S A s.heap H locs → lv_has ls 5 [(0, .ref x.1), (2, .int x.2.1), (3, .int x.2.2.1), (4, .int x.2.2.2)] → W p l e rm_LogCleanerModel_close s m args below meth c H locs 0 0 (MQ below (va_Qi (fun r u => Q r u ∧ xfr sgM h0 u) (xB D d A) A) args s 0 0 A) (F0 m 237 ls []) := by
  obtain ⟨hx, hb, hr, hml, hown, htb, hK, hA, hNB, hlocks, hXT⟩ := id C0
  intro n
  induction n with
  | zero => intro x h H locs ls hw; exact hw.elim
  | succ n ih =>
    rintro ⟨x0, x2, x3, x4⟩ h H locs ls hw hP hS hl
    replace hw : wc_LogCleanerModel_close_237 d Q (fun y0 y2 y3 y4 h => xloop (fun (k : Nat × Int32 × Int32 × Int32 → xw → Prop) (x : Nat × Int32 × Int32 × Int32) (h : xw) => wc_LogCleanerModel_close_237 d Q (fun y0 y2 y3 y4 h => k (y0, y2, y3, y4) h) x.1 x.2.1 x.2.2.1 x.2.2.2 h) n (y0, y2, y3, y4) h) x0 x2 x3 x4 h := hw
    have hk237 := fun (x0 : Nat) (x2 : Int32) (x3 : Int32) (x4 : Int32) => ih (x0, x2, x3, x4)
    refine lv_iload hx hb d_LogCleanerModel_close_237 (lv_at hl 3 rfl) ?_
    refine lv_aload_n hx hb d_LogCleanerModel_close_239 rfl (lv_at hl 0 rfl) ?_
    refine xgetI hx hb htb i_LogCleanerModel hown hK hP (ci := 4) rfl 16 (by decide) (htb _ k_LogCleanerModel_82) (fun _ h9 => h9) hw d_LogCleanerModel_close_240 (fun v15 hw => ?_)
    refine lv_icmp_ge (tgt := 276) hx hb d_LogCleanerModel_close_243 (by decide) (fun cq => ?_) (fun cq => ?_)
    · replace hw := hw.1 cq
      refine lv_aload_n hx hb d_LogCleanerModel_close_276 rfl (lv_at hl 0 rfl) ?_
      refine xgetA hx hb htb i_LogCleanerModel hown hK hP (ci := 4) rfl 19 (by decide) (htb _ k_LogCleanerModel_54) (fun _ h9 => h9) hw d_LogCleanerModel_close_277 (fun r16 hw => ?_)
      refine lv_aload_n hx hb d_LogCleanerModel_close_280 rfl (lv_at hl 0 rfl) ?_
      refine xgetI hx hb htb i_LogCleanerModel hown hK hP (ci := 4) rfl 16 (by decide) (htb _ k_LogCleanerModel_82) (fun _ h9 => h9) hw d_LogCleanerModel_close_281 (fun v17 hw => ?_)
      refine lv_aload_n hx hb d_LogCleanerModel_close_284 rfl (lv_at hl 0 rfl) ?_
      refine xgetI hx hb htb i_LogCleanerModel hown hK hP (ci := 4) rfl 16 (by decide) (htb _ k_LogCleanerModel_82) (fun _ h9 => h9) hw d_LogCleanerModel_close_285 (fun v18 hw => ?_)
      refine lv_if_ne (tgt := 295) hx hb d_LogCleanerModel_close_288 (by decide) (fun cq => ?_) (fun cq => ?_)
      · replace hw := hw.2 cq
        refine lv_iload_n hx hb d_LogCleanerModel_close_295 rfl (lv_at hl 1 rfl) ?_
        refine lv_aload_n hx hb d_LogCleanerModel_close_296 rfl (lv_at hl 0 rfl) ?_
        refine lv_aload_n hx hb d_LogCleanerModel_close_297 rfl (lv_at hl 0 rfl) ?_
        refine xgetI hx hb htb i_LogCleanerModel hown hK hP (ci := 4) rfl 16 (by decide) (htb _ k_LogCleanerModel_82) (fun _ h9 => h9) hw d_LogCleanerModel_close_298 (fun v19 hw => ?_)
        obtain ⟨⟨_, hw0⟩, hw⟩ := hw
        refine xcalli (va_runV (b := x0) (As := [.int v19]) (rest := [.int x2, .int v17, va_rf r16]) ⟨hx, hb, hml, hown, htb⟩ (m_LogCleanerModel_sizeOf l D d h _ x0 v19 _ hw) (xcwV 1 htb g_code_LogCleanerModel_sizeOf g_ini_LogCleanerModel k_LogCleanerModel_88 g_im_LogCleanerModel_sizeOf g_sel_LogCleanerModel_sizeOf rfl rfl (by decide +kernel) ⟨(Nat.le_of_ble_eq_true rfl), (Nat.le_of_ble_eq_true rfl)⟩) (xpreV hP hK hNB (ci := 4) rfl hw0) rfl rfl hl.1 rfl (lv_room (by cases r16 <;> exact (Nat.le_of_ble_eq_true rfl))) d_LogCleanerModel_close_301 ⟨(Nat.le_of_ble_eq_true rfl), (Nat.le_of_ble_eq_true rfl)⟩) hP hS hA (fun r21 h20 H locs hw hP hS => ?_)
        refine W.widen (k := 0) (n := 0) (Nat.le_of_ble_eq_true rfl) (Nat.le_of_ble_eq_true rfl) ?_
        refine lv_iadd hx hb d_LogCleanerModel_close_304 ?_
        refine lv_sipush (v := 1000) hx hb d_LogCleanerModel_close_305 (by decide) ?_
        refine lv_icmp_le (tgt := 317) hx hb d_LogCleanerModel_close_308 (by decide) (fun cq => ?_) (fun cq => ?_)
        · replace hw := hw.1 cq
          refine lv_iload_n hx hb d_LogCleanerModel_close_317 rfl (lv_at hl 2 rfl) ?_
          exact sb_LogCleanerModel_close_318 C0 x0 x3 v17 r16 h20 _ _ _ hw hP hS (lv_sub hl [0] rfl)
        · replace hw := hw.2 cq
          refine lv_iload_n hx hb d_LogCleanerModel_close_311 rfl (lv_at hl 2 rfl) ?_
          refine lv_iconst (v := 1) hx hb d_LogCleanerModel_close_312 (by decide) ?_
          refine lv_iadd hx hb d_LogCleanerModel_close_313 ?_
          refine lv_goto (tgt := 318) hx hb d_LogCleanerModel_close_314 (by decide) ?_
          exact sb_LogCleanerModel_close_318 C0 x0 (x3 + 1) v17 r16 h20 _ _ _ hw hP hS (lv_sub hl [0] rfl)
      · replace hw := hw.1 cq
        refine lv_iconst (v := 0) hx hb d_LogCleanerModel_close_291 (by decide) ?_
        refine lv_goto (tgt := 318) hx hb d_LogCleanerModel_close_292 (by decide) ?_
        exact sb_LogCleanerModel_close_318 C0 x0 0 v17 r16 h _ _ _ hw hP hS (lv_sub hl [0] rfl)
    · replace hw := hw.2 cq
      refine lv_iload_n hx hb d_LogCleanerModel_close_246 rfl (lv_at hl 1 rfl) ?_
      refine lv_aload_n hx hb d_LogCleanerModel_close_247 rfl (lv_at hl 0 rfl) ?_
      refine xgetA hx hb htb i_LogCleanerModel hown hK hP (ci := 4) rfl 19 (by decide) (htb _ k_LogCleanerModel_54) (fun _ h9 => h9) hw d_LogCleanerModel_close_248 (fun r31 hw => ?_)
      refine lv_iload hx hb d_LogCleanerModel_close_251 (lv_at hl 3 rfl) ?_
      obtain ⟨p32, hpe, hw⟩ := hw
      revert hw
      revert hl
      subst hpe
      intro hl hw
      replace hl : lv_has ls 5 [(0, .ref x0), (2, .int x2), (3, .int x3), (4, .int x4)] := hl
      refine xldi hx hb hK hP 2 rfl hw d_LogCleanerModel_close_253 (fun v33 hw => ?_)
      refine lv_iload_n hx hb d_LogCleanerModel_close_254 rfl (lv_at hl 2 rfl) ?_
      refine lv_icmp_ne (tgt := 267) hx hb d_LogCleanerModel_close_255 (by decide) (fun cq => ?_) (fun cq => ?_)
      · replace hw := hw.2 cq
        refine lv_iconst (v := 0) hx hb d_LogCleanerModel_close_267 (by decide) ?_
        exact sb_LogCleanerModel_close_268 C0 hk237 x0 x3 x4 0 x2 h _ _ _ hw hP hS (lv_sub hl [0, 2, 3] rfl)
      · replace hw := hw.1 cq
        refine lv_aload_n hx hb d_LogCleanerModel_close_258 rfl (lv_at hl 0 rfl) ?_
        refine lv_iload hx hb d_LogCleanerModel_close_259 (lv_at hl 3 rfl) ?_
        obtain ⟨⟨_, hw0⟩, hw⟩ := hw
        refine xcalli (va_runV (b := x0) (As := [.int x4]) (rest := [.int x2]) ⟨hx, hb, hml, hown, htb⟩ (m_LogCleanerModel_sizeOf l D d h _ x0 x4 _ hw) (xcwV 1 htb g_code_LogCleanerModel_sizeOf g_ini_LogCleanerModel k_LogCleanerModel_88 g_im_LogCleanerModel_sizeOf g_sel_LogCleanerModel_sizeOf rfl rfl (by decide +kernel) ⟨(Nat.le_of_ble_eq_true rfl), (Nat.le_of_ble_eq_true rfl)⟩) (xpreV hP hK hNB (ci := 4) rfl hw0) rfl rfl hl.1 rfl (lv_room (Nat.le_of_ble_eq_true rfl)) d_LogCleanerModel_close_261 ⟨(Nat.le_of_ble_eq_true rfl), (Nat.le_of_ble_eq_true rfl)⟩) hP hS hA (fun r35 h34 H locs hw hP hS => ?_)
        refine W.widen (k := 0) (n := 0) (Nat.le_of_ble_eq_true rfl) (Nat.le_of_ble_eq_true rfl) ?_
        refine lv_goto (tgt := 268) hx hb d_LogCleanerModel_close_264 (by decide) ?_
        exact sb_LogCleanerModel_close_268 C0 hk237 x0 x3 x4 r35 x2 h34 _ _ _ hw hP hS (lv_sub hl [0, 2, 3] rfl)

set_option maxHeartbeats 4000000 in
set_option maxRecDepth 100000 in
theorem sl_LogCleanerModel_close_211 {p : Program} {l : Launch} {e : Env} {s : State} {m : MethodId} {args : Array Value} {below : List Frame} {meth : Method} {c : Code} {D : va_G} {d : Nat → ClassId} {A : Nat → Prop} {h0 : xw} {Q : Int32 → xw → Prop} (C0 : xctx p s m args meth c b_LogCleanerModel_close 5 (some .int) R_LogCleanerModel D d A True) : ∀ (n : Nat) (x : Nat × Int32 × Int32 × Int32) (h : xw) (H : Heap) (locs : List Loc) (ls : Array Slot), xloop (fun (k : Nat × Int32 × Int32 × Int32 → xw → Prop) (x : Nat × Int32 × Int32 × Int32) (h : xw) => wc_LogCleanerModel_close_211 d Q (fun y0 y2 y3 y4 h => k (y0, y2, y3, y4) h) x.1 x.2.1 x.2.2.1 x.2.2.2 h) n x h → xR sgM h0 D A h H → va_S A s.heap H locs → lv_has ls 5 [(0, .ref x.1), (2, .int x.2.1), (3, .int x.2.2.1), (4, .int x.2.2.2)] → W p l e rm_LogCleanerModel_close s m args below meth c H locs 0 0 (MQ below (va_Qi (fun r u => Q r u ∧ xfr sgM h0 u) (xB D d A) A) args s 0 0 A) (F0 m 211 ls []) := by
  obtain ⟨hx, hb, hr, hml, hown, htb, hK, hA, hNB, hlocks, hXT⟩ := id C0
  intro n
  induction n with
  | zero => intro x h H locs ls hw; exact hw.elim
  | succ n ih =>
    rintro ⟨x0, x2, x3, x4⟩ h H locs ls hw hP hS hl
    replace hw : wc_LogCleanerModel_close_211 d Q (fun y0 y2 y3 y4 h => xloop (fun (k : Nat × Int32 × Int32 × Int32 → xw → Prop) (x : Nat × Int32 × Int32 × Int32) (h : xw) => wc_LogCleanerModel_close_211 d Q (fun y0 y2 y3 y4 h => k (y0, y2, y3, y4) h) x.1 x.2.1 x.2.2.1 x.2.2.2 h) n (y0, y2, y3, y4) h) x0 x2 x3 x4 h := hw
    have hk211 := fun (x0 : Nat) (x2 : Int32) (x3 : Int32) (x4 : Int32) => ih (x0, x2, x3, x4)
    refine lv_iload hx hb d_LogCleanerModel_close_211 (lv_at hl 3 rfl) ?_
    refine lv_aload_n hx hb d_LogCleanerModel_close_213 rfl (lv_at hl 0 rfl) ?_
    refine xgetI hx hb htb i_LogCleanerModel hown hK hP (ci := 4) rfl 16 (by decide) (htb _ k_LogCleanerModel_82) (fun _ h9 => h9) hw d_LogCleanerModel_close_214 (fun v14 hw => ?_)
    refine lv_icmp_ge (tgt := 234) hx hb d_LogCleanerModel_close_217 (by decide) (fun cq => ?_) (fun cq => ?_)
    · replace hw := hw.1 cq
      refine lv_iconst (v := 0) hx hb d_LogCleanerModel_close_234 (by decide) ?_
      refine lv_istore (lv' := [(4, .int 0), (0, .ref x0), (2, .int x2), (3, .int x3)]) hx hb d_LogCleanerModel_close_235 hl (by decide) rfl (fun ls hl => ?_)
      obtain ⟨n, hw⟩ := hw
      exact sl_LogCleanerModel_close_237 C0 n (x0, x2, x3, 0) h _ _ _ hw hP hS (lv_sub hl [1, 2, 3, 0] rfl)
    · replace hw := hw.2 cq
      refine lv_aload_n hx hb d_LogCleanerModel_close_220 rfl (lv_at hl 0 rfl) ?_
      refine xgetA hx hb htb i_LogCleanerModel hown hK hP (ci := 4) rfl 19 (by decide) (htb _ k_LogCleanerModel_54) (fun _ h9 => h9) hw d_LogCleanerModel_close_221 (fun r36 hw => ?_)
      refine lv_iload hx hb d_LogCleanerModel_close_224 (lv_at hl 3 rfl) ?_
      obtain ⟨p37, hpe, hw⟩ := hw
      revert hw
      revert hl
      subst hpe
      intro hl hw
      replace hl : lv_has ls 5 [(0, .ref x0), (2, .int x2), (3, .int x3), (4, .int x4)] := hl
      refine xldi hx hb hK hP 2 rfl hw d_LogCleanerModel_close_226 (fun v38 hw => ?_)
      refine lv_istore_n (lv' := [(3, .int v38), (0, .ref x0), (2, .int x2), (4, .int x4)]) hx hb d_LogCleanerModel_close_227 rfl hl (by decide) rfl (fun ls hl => ?_)
      refine lv_iinc (v := x4 + 1) (lv' := [(4, .int (x4 + 1)), (3, .int v38), (0, .ref x0), (2, .int x2)]) hx hb d_LogCleanerModel_close_228 hl (k := 3) rfl rfl (by decide) rfl (fun ls hl => ?_)
      refine lv_goto (tgt := 211) hx hb d_LogCleanerModel_close_231 (by decide) ?_
      exact hk211 x0 x2 v38 (x4 + 1) h _ _ _ hw hP hS (lv_sub hl [2, 3, 1, 0] rfl)

set_option maxHeartbeats 4000000 in
set_option maxRecDepth 100000 in
theorem sl_LogCleanerModel_close_69 {p : Program} {l : Launch} {e : Env} {s : State} {m : MethodId} {args : Array Value} {below : List Frame} {meth : Method} {c : Code} {D : va_G} {d : Nat → ClassId} {A : Nat → Prop} {h0 : xw} {Q : Int32 → xw → Prop} (C0 : xctx p s m args meth c b_LogCleanerModel_close 5 (some .int) R_LogCleanerModel D d A True) : ∀ (n : Nat) (x : Nat × Int32) (h : xw) (H : Heap) (locs : List Loc) (ls : Array Slot), xloop (fun (k : Nat × Int32 → xw → Prop) (x : Nat × Int32) (h : xw) => wc_LogCleanerModel_close_69 d Q (fun y0 y2 h => k (y0, y2) h) x.1 x.2 h) n x h → xR sgM h0 D A h H → va_S A s.heap H locs → lv_has ls 5 [(0, .ref x.1), (2, .int x.2)] → W p l e rm_LogCleanerModel_close s m args below meth c H locs 0 0 (MQ below (va_Qi (fun r u => Q r u ∧ xfr sgM h0 u) (xB D d A) A) args s 0 0 A) (F0 m 69 ls []) := by
  obtain ⟨hx, hb, hr, hml, hown, htb, hK, hA, hNB, hlocks, hXT⟩ := id C0
  intro n
  induction n with
  | zero => intro x h H locs ls hw; exact hw.elim
  | succ n ih =>
    rintro ⟨x0, x2⟩ h H locs ls hw hP hS hl
    replace hw : wc_LogCleanerModel_close_69 d Q (fun y0 y2 h => xloop (fun (k : Nat × Int32 → xw → Prop) (x : Nat × Int32) (h : xw) => wc_LogCleanerModel_close_69 d Q (fun y0 y2 h => k (y0, y2) h) x.1 x.2 h) n (y0, y2) h) x0 x2 h := hw
    have hk69 := fun (x0 : Nat) (x2 : Int32) => ih (x0, x2)
    refine lv_iload_n hx hb d_LogCleanerModel_close_69 rfl (lv_at hl 1 rfl) ?_
    refine lv_aload_n hx hb d_LogCleanerModel_close_70 rfl (lv_at hl 0 rfl) ?_
    refine xgetI hx hb htb i_LogCleanerModel hown hK hP (ci := 4) rfl 10 (by decide) (htb _ k_LogCleanerModel_72) (fun _ h9 => h9) hw d_LogCleanerModel_close_71 (fun v13 hw => ?_)
    refine lv_icmp_ge (tgt := 204) hx hb d_LogCleanerModel_close_74 (by decide) (fun cq => ?_) (fun cq => ?_)
    · replace hw := hw.1 cq
      refine lv_iconst (v := 0) hx hb d_LogCleanerModel_close_204 (by decide) ?_
      refine lv_istore_n (lv' := [(2, .int 0), (0, .ref x0)]) hx hb d_LogCleanerModel_close_205 rfl hl (by decide) rfl (fun ls hl => ?_)
      refine lv_iconst (v := 0) hx hb d_LogCleanerModel_close_206 (by decide) ?_
      refine lv_istore_n (lv' := [(3, .int 0), (2, .int 0), (0, .ref x0)]) hx hb d_LogCleanerModel_close_207 rfl hl (by decide) rfl (fun ls hl => ?_)
      refine lv_iconst (v := 0) hx hb d_LogCleanerModel_close_208 (by decide) ?_
      refine lv_istore (lv' := [(4, .int 0), (3, .int 0), (2, .int 0), (0, .ref x0)]) hx hb d_LogCleanerModel_close_209 hl (by decide) rfl (fun ls hl => ?_)
      obtain ⟨n, hw⟩ := hw
      exact sl_LogCleanerModel_close_211 C0 n (x0, 0, 0, 0) h _ _ _ hw hP hS (lv_sub hl [3, 2, 1, 0] rfl)
    · replace hw := hw.2 cq
      refine lv_aload_n hx hb d_LogCleanerModel_close_77 rfl (lv_at hl 0 rfl) ?_
      refine xgetA hx hb htb i_LogCleanerModel hown hK hP (ci := 4) rfl 2 (by decide) (htb _ k_LogCleanerModel_7) (fun _ h9 => h9) hw d_LogCleanerModel_close_78 (fun r39 hw => ?_)
      refine lv_aload_n hx hb d_LogCleanerModel_close_81 rfl (lv_at hl 0 rfl) ?_
      refine xgetI hx hb htb i_LogCleanerModel hown hK hP (ci := 4) rfl 1 (by decide) (htb _ k_LogCleanerModel_75) (fun _ h9 => h9) hw d_LogCleanerModel_close_82 (fun v40 hw => ?_)
      refine lv_aload_n hx hb d_LogCleanerModel_close_85 rfl (lv_at hl 0 rfl) ?_
      refine xgetI hx hb htb i_LogCleanerModel hown hK hP (ci := 4) rfl 16 (by decide) (htb _ k_LogCleanerModel_82) (fun _ h9 => h9) hw d_LogCleanerModel_close_86 (fun v41 hw => ?_)
      obtain ⟨p42, hpe, hw⟩ := hw
      revert hw
      revert hl
      subst hpe
      intro hl hw
      replace hl : lv_has ls 5 [(0, .ref x0), (2, .int x2)] := hl
      refine xsti hx hb hK hP hS 2 rfl (fun _ _ => rfl) hw d_LogCleanerModel_close_89 (fun h43 H locs hw hP hS => ?_)
      refine lv_aload_n hx hb d_LogCleanerModel_close_90 rfl (lv_at hl 0 rfl) ?_
      refine xgetA hx hb htb i_LogCleanerModel hown hK hP (ci := 4) rfl 3 (by decide) (htb _ k_LogCleanerModel_13) (fun _ h9 => h9) hw d_LogCleanerModel_close_91 (fun r44 hw => ?_)
      refine lv_aload_n hx hb d_LogCleanerModel_close_94 rfl (lv_at hl 0 rfl) ?_
      refine xgetI hx hb htb i_LogCleanerModel hown hK hP (ci := 4) rfl 1 (by decide) (htb _ k_LogCleanerModel_75) (fun _ h9 => h9) hw d_LogCleanerModel_close_95 (fun v45 hw => ?_)
      refine lv_aload_n hx hb d_LogCleanerModel_close_98 rfl (lv_at hl 0 rfl) ?_
      refine xgetI hx hb htb i_LogCleanerModel hown hK hP (ci := 4) rfl 9 (by decide) (htb _ k_LogCleanerModel_85) (fun _ h9 => h9) hw d_LogCleanerModel_close_99 (fun v46 hw => ?_)
      obtain ⟨p47, hpe, hw⟩ := hw
      revert hw
      revert hl
      subst hpe
      intro hl hw
      replace hl : lv_has ls 5 [(0, .ref x0), (2, .int x2)] := hl
      refine xsti hx hb hK hP hS 2 rfl (fun _ _ => rfl) hw d_LogCleanerModel_close_102 (fun h48 H locs hw hP hS => ?_)
      refine lv_aload_n hx hb d_LogCleanerModel_close_103 rfl (lv_at hl 0 rfl) ?_
      refine xgetA hx hb htb i_LogCleanerModel hown hK hP (ci := 4) rfl 4 (by decide) (htb _ k_LogCleanerModel_16) (fun _ h9 => h9) hw d_LogCleanerModel_close_104 (fun r49 hw => ?_)
      refine lv_aload_n hx hb d_LogCleanerModel_close_107 rfl (lv_at hl 0 rfl) ?_
      refine xgetI hx hb htb i_LogCleanerModel hown hK hP (ci := 4) rfl 1 (by decide) (htb _ k_LogCleanerModel_75) (fun _ h9 => h9) hw d_LogCleanerModel_close_108 (fun v50 hw => ?_)
      refine lv_aload_n hx hb d_LogCleanerModel_close_111 rfl (lv_at hl 0 rfl) ?_
      refine xgetA hx hb htb i_LogCleanerModel hown hK hP (ci := 4) rfl 11 (by decide) (htb _ k_LogCleanerModel_33) (fun _ h9 => h9) hw d_LogCleanerModel_close_112 (fun r51 hw => ?_)
      refine lv_iload_n hx hb d_LogCleanerModel_close_115 rfl (lv_at hl 1 rfl) ?_
      obtain ⟨p52, hpe, hw⟩ := hw
      revert hw
      revert hl
      subst hpe
      intro hl hw
      replace hl : lv_has ls 5 [(0, .ref x0), (2, .int x2)] := hl
      refine xldl hx hb hK hP 3 rfl hw d_LogCleanerModel_close_116 (fun v53 hw => ?_)
      obtain ⟨p54, hpe, hw⟩ := hw
      revert hw
      revert hl
      subst hpe
      intro hl hw
      replace hl : lv_has ls 5 [(0, .ref x0), (2, .int x2)] := hl
      refine xstl hx hb hK hP hS 3 rfl (fun _ _ => rfl) hw d_LogCleanerModel_close_117 (fun h55 H locs hw hP hS => ?_)
      refine lv_aload_n hx hb d_LogCleanerModel_close_118 rfl (lv_at hl 0 rfl) ?_
      refine xgetA hx hb htb i_LogCleanerModel hown hK hP (ci := 4) rfl 5 (by decide) (htb _ k_LogCleanerModel_20) (fun _ h9 => h9) hw d_LogCleanerModel_close_119 (fun r56 hw => ?_)
      refine lv_aload_n hx hb d_LogCleanerModel_close_122 rfl (lv_at hl 0 rfl) ?_
      refine xgetI hx hb htb i_LogCleanerModel hown hK hP (ci := 4) rfl 1 (by decide) (htb _ k_LogCleanerModel_75) (fun _ h9 => h9) hw d_LogCleanerModel_close_123 (fun v57 hw => ?_)
      refine lv_aload_n hx hb d_LogCleanerModel_close_126 rfl (lv_at hl 0 rfl) ?_
      refine xgetA hx hb htb i_LogCleanerModel hown hK hP (ci := 4) rfl 12 (by decide) (htb _ k_LogCleanerModel_36) (fun _ h9 => h9) hw d_LogCleanerModel_close_127 (fun r58 hw => ?_)
      refine lv_iload_n hx hb d_LogCleanerModel_close_130 rfl (lv_at hl 1 rfl) ?_
      obtain ⟨p59, hpe, hw⟩ := hw
      revert hw
      revert hl
      subst hpe
      intro hl hw
      replace hl : lv_has ls 5 [(0, .ref x0), (2, .int x2)] := hl
      refine xldi hx hb hK hP 2 rfl hw d_LogCleanerModel_close_131 (fun v60 hw => ?_)
      obtain ⟨p61, hpe, hw⟩ := hw
      revert hw
      revert hl
      subst hpe
      intro hl hw
      replace hl : lv_has ls 5 [(0, .ref x0), (2, .int x2)] := hl
      refine xsti hx hb hK hP hS 2 rfl (fun _ _ => rfl) hw d_LogCleanerModel_close_132 (fun h62 H locs hw hP hS => ?_)
      refine lv_aload_n hx hb d_LogCleanerModel_close_133 rfl (lv_at hl 0 rfl) ?_
      refine xgetA hx hb htb i_LogCleanerModel hown hK hP (ci := 4) rfl 6 (by decide) (htb _ k_LogCleanerModel_23) (fun _ h9 => h9) hw d_LogCleanerModel_close_134 (fun r63 hw => ?_)
      refine lv_aload_n hx hb d_LogCleanerModel_close_137 rfl (lv_at hl 0 rfl) ?_
      refine xgetI hx hb htb i_LogCleanerModel hown hK hP (ci := 4) rfl 1 (by decide) (htb _ k_LogCleanerModel_75) (fun _ h9 => h9) hw d_LogCleanerModel_close_138 (fun v64 hw => ?_)
      refine lv_aload_n hx hb d_LogCleanerModel_close_141 rfl (lv_at hl 0 rfl) ?_
      refine xgetA hx hb htb i_LogCleanerModel hown hK hP (ci := 4) rfl 13 (by decide) (htb _ k_LogCleanerModel_39) (fun _ h9 => h9) hw d_LogCleanerModel_close_142 (fun r65 hw => ?_)
      refine lv_iload_n hx hb d_LogCleanerModel_close_145 rfl (lv_at hl 1 rfl) ?_
      obtain ⟨p66, hpe, hw⟩ := hw
      revert hw
      revert hl
      subst hpe
      intro hl hw
      replace hl : lv_has ls 5 [(0, .ref x0), (2, .int x2)] := hl
      refine xldz hx hb hK hP 4 rfl hw d_LogCleanerModel_close_146 (fun v67 hw => ?_)
      obtain ⟨p68, hpe, hw⟩ := hw
      revert hw
      revert hl
      subst hpe
      intro hl hw
      replace hl : lv_has ls 5 [(0, .ref x0), (2, .int x2)] := hl
      refine xstz hx hb hK hP hS 4 rfl (fun _ _ => rfl) hw d_LogCleanerModel_close_147 (fun h69 H locs hw hP hS => ?_)
      refine lv_aload_n hx hb d_LogCleanerModel_close_148 rfl (lv_at hl 0 rfl) ?_
      refine xgetA hx hb htb i_LogCleanerModel hown hK hP (ci := 4) rfl 7 (by decide) (htb _ k_LogCleanerModel_27) (fun _ h9 => h9) hw d_LogCleanerModel_close_149 (fun r70 hw => ?_)
      refine lv_aload_n hx hb d_LogCleanerModel_close_152 rfl (lv_at hl 0 rfl) ?_
      refine xgetI hx hb htb i_LogCleanerModel hown hK hP (ci := 4) rfl 1 (by decide) (htb _ k_LogCleanerModel_75) (fun _ h9 => h9) hw d_LogCleanerModel_close_153 (fun v71 hw => ?_)
      refine lv_aload_n hx hb d_LogCleanerModel_close_156 rfl (lv_at hl 0 rfl) ?_
      refine xgetA hx hb htb i_LogCleanerModel hown hK hP (ci := 4) rfl 14 (by decide) (htb _ k_LogCleanerModel_42) (fun _ h9 => h9) hw d_LogCleanerModel_close_157 (fun r72 hw => ?_)
      refine lv_iload_n hx hb d_LogCleanerModel_close_160 rfl (lv_at hl 1 rfl) ?_
      obtain ⟨p73, hpe, hw⟩ := hw
      revert hw
      revert hl
      subst hpe
      intro hl hw
      replace hl : lv_has ls 5 [(0, .ref x0), (2, .int x2)] := hl
      refine xldl hx hb hK hP 3 rfl hw d_LogCleanerModel_close_161 (fun v74 hw => ?_)
      obtain ⟨p75, hpe, hw⟩ := hw
      revert hw
      revert hl
      subst hpe
      intro hl hw
      replace hl : lv_has ls 5 [(0, .ref x0), (2, .int x2)] := hl
      refine xstl hx hb hK hP hS 3 rfl (fun _ _ => rfl) hw d_LogCleanerModel_close_162 (fun h76 H locs hw hP hS => ?_)
      refine lv_aload_n hx hb d_LogCleanerModel_close_163 rfl (lv_at hl 0 rfl) ?_
      refine xgetA hx hb htb i_LogCleanerModel hown hK hP (ci := 4) rfl 8 (by decide) (htb _ k_LogCleanerModel_30) (fun _ h9 => h9) hw d_LogCleanerModel_close_164 (fun r77 hw => ?_)
      refine lv_aload_n hx hb d_LogCleanerModel_close_167 rfl (lv_at hl 0 rfl) ?_
      refine xgetI hx hb htb i_LogCleanerModel hown hK hP (ci := 4) rfl 1 (by decide) (htb _ k_LogCleanerModel_75) (fun _ h9 => h9) hw d_LogCleanerModel_close_168 (fun v78 hw => ?_)
      refine lv_aload_n hx hb d_LogCleanerModel_close_171 rfl (lv_at hl 0 rfl) ?_
      refine xgetA hx hb htb i_LogCleanerModel hown hK hP (ci := 4) rfl 15 (by decide) (htb _ k_LogCleanerModel_45) (fun _ h9 => h9) hw d_LogCleanerModel_close_172 (fun r79 hw => ?_)
      refine lv_iload_n hx hb d_LogCleanerModel_close_175 rfl (lv_at hl 1 rfl) ?_
      obtain ⟨p80, hpe, hw⟩ := hw
      revert hw
      revert hl
      subst hpe
      intro hl hw
      replace hl : lv_has ls 5 [(0, .ref x0), (2, .int x2)] := hl
      refine xldi hx hb hK hP 2 rfl hw d_LogCleanerModel_close_176 (fun v81 hw => ?_)
      obtain ⟨p82, hpe, hw⟩ := hw
      revert hw
      revert hl
      subst hpe
      intro hl hw
      replace hl : lv_has ls 5 [(0, .ref x0), (2, .int x2)] := hl
      refine xsti hx hb hK hP hS 2 rfl (fun _ _ => rfl) hw d_LogCleanerModel_close_177 (fun h83 H locs hw hP hS => ?_)
      refine lv_aload_n hx hb d_LogCleanerModel_close_178 rfl (lv_at hl 0 rfl) ?_
      refine lv_dup hx hb d_LogCleanerModel_close_179 rfl ?_
      refine xgetI hx hb htb i_LogCleanerModel hown hK hP (ci := 4) rfl 1 (by decide) (htb _ k_LogCleanerModel_75) (fun _ h9 => h9) hw d_LogCleanerModel_close_180 (fun v84 hw => ?_)
      refine lv_iconst (v := 1) hx hb d_LogCleanerModel_close_183 (by decide) ?_
      refine lv_iadd hx hb d_LogCleanerModel_close_184 ?_
      refine xputI hx hb htb i_LogCleanerModel t_LogCleanerModel t_LogCleanerModel_ok n_LogCleanerModel hown hK hP hS (ci := 4) rfl (fun _ => rfl) 1 (by decide) (htb _ k_LogCleanerModel_75) (fun _ h9 => h9) rfl (by decide +kernel) hw d_LogCleanerModel_close_185 (fun h85 H locs hw hP hS => ?_)
      refine lv_aload_n hx hb d_LogCleanerModel_close_188 rfl (lv_at hl 0 rfl) ?_
      refine lv_dup hx hb d_LogCleanerModel_close_189 rfl ?_
      refine xgetI hx hb htb i_LogCleanerModel hown hK hP (ci := 4) rfl 9 (by decide) (htb _ k_LogCleanerModel_85) (fun _ h9 => h9) hw d_LogCleanerModel_close_190 (fun v86 hw => ?_)
      refine lv_iconst (v := 1) hx hb d_LogCleanerModel_close_193 (by decide) ?_
      refine lv_iadd hx hb d_LogCleanerModel_close_194 ?_
      refine xputI hx hb htb i_LogCleanerModel t_LogCleanerModel t_LogCleanerModel_ok n_LogCleanerModel hown hK hP hS (ci := 4) rfl (fun _ => rfl) 9 (by decide) (htb _ k_LogCleanerModel_85) (fun _ h9 => h9) rfl (by decide +kernel) hw d_LogCleanerModel_close_195 (fun h87 H locs hw hP hS => ?_)
      refine lv_iinc (v := x2 + 1) (lv' := [(2, .int (x2 + 1)), (0, .ref x0)]) hx hb d_LogCleanerModel_close_198 hl (k := 1) rfl rfl (by decide) rfl (fun ls hl => ?_)
      refine lv_goto (tgt := 69) hx hb d_LogCleanerModel_close_201 (by decide) ?_
      exact hk69 x0 (x2 + 1) h87 _ _ _ hw hP hS (lv_sub hl [1, 0] rfl)

set_option maxHeartbeats 4000000 in
set_option maxRecDepth 100000 in
theorem sb_LogCleanerModel_close_32 {p : Program} {l : Launch} {e : Env} {s : State} {m : MethodId} {args : Array Value} {below : List Frame} {meth : Method} {c : Code} {D : va_G} {d : Nat → ClassId} {A : Nat → Prop} {h0 : xw} {Q : Int32 → xw → Prop} (C0 : xctx p s m args meth c b_LogCleanerModel_close 5 (some .int) R_LogCleanerModel D d A True) : ∀ (x0 : Nat) (x1 : Int32) (s0 : Int32) (s1 : Nat) (h : xw) (H : Heap) (locs : List Loc) (ls : Array Slot), wb_LogCleanerModel_close_32 d Q x0 x1 s0 s1 h → xR sgM h0 D A h H → va_S A s.heap H locs → lv_has ls 5 [(0, .ref x0), (1, .int x1)] → W p l e rm_LogCleanerModel_close s m args below meth c H locs 0 0 (MQ below (va_Qi (fun r u => Q r u ∧ xfr sgM h0 u) (xB D d A) A) args s 0 0 A) (F0 m 32 ls [.int s0, .ref s1]) := by
  obtain ⟨hx, hb, hr, hml, hown, htb, hK, hA, hNB, hlocks, hXT⟩ := id C0
  intro x0 x1 s0 s1 h H locs ls hw hP hS hl
  refine xputI hx hb htb i_LogCleanerModel t_LogCleanerModel t_LogCleanerModel_ok n_LogCleanerModel hown hK hP hS (ci := 4) rfl (fun _ => rfl) 0 (by decide) (htb _ k_LogCleanerModel_66) (fun _ h9 => h9) rfl (by decide +kernel) hw d_LogCleanerModel_close_32 (fun h2 H locs hw hP hS => ?_)
  refine lv_aload_n hx hb d_LogCleanerModel_close_35 rfl (lv_at hl 0 rfl) ?_
  refine xgetI hx hb htb i_LogCleanerModel hown hK hP (ci := 4) rfl 0 (by decide) (htb _ k_LogCleanerModel_66) (fun _ h9 => h9) hw d_LogCleanerModel_close_36 (fun v3 hw => ?_)
  refine lv_if_le (tgt := 44) hx hb d_LogCleanerModel_close_39 (by decide) (fun cq => ?_) (fun cq => ?_)
  · replace hw := hw.1 cq
    refine lv_aload_n hx hb d_LogCleanerModel_close_44 rfl (lv_at hl 0 rfl) ?_
    refine xgetA hx hb htb i_LogCleanerModel hown hK hP (ci := 4) rfl 17 (by decide) (htb _ k_LogCleanerModel_48) (fun _ h9 => h9) hw d_LogCleanerModel_close_45 (fun r4 hw => ?_)
    refine lv_aload_n hx hb d_LogCleanerModel_close_48 rfl (lv_at hl 0 rfl) ?_
    refine xgetI hx hb htb i_LogCleanerModel hown hK hP (ci := 4) rfl 16 (by decide) (htb _ k_LogCleanerModel_82) (fun _ h9 => h9) hw d_LogCleanerModel_close_49 (fun v5 hw => ?_)
    refine lv_aload_n hx hb d_LogCleanerModel_close_52 rfl (lv_at hl 0 rfl) ?_
    refine xgetI hx hb htb i_LogCleanerModel hown hK hP (ci := 4) rfl 9 (by decide) (htb _ k_LogCleanerModel_85) (fun _ h9 => h9) hw d_LogCleanerModel_close_53 (fun v6 hw => ?_)
    obtain ⟨p7, hpe, hw⟩ := hw
    revert hw
    revert hl
    subst hpe
    intro hl hw
    replace hl : lv_has ls 5 [(0, .ref x0), (1, .int x1)] := hl
    refine xsti hx hb hK hP hS 2 rfl (fun _ _ => rfl) hw d_LogCleanerModel_close_56 (fun h8 H locs hw hP hS => ?_)
    refine lv_aload_n hx hb d_LogCleanerModel_close_57 rfl (lv_at hl 0 rfl) ?_
    refine xgetA hx hb htb i_LogCleanerModel hown hK hP (ci := 4) rfl 18 (by decide) (htb _ k_LogCleanerModel_51) (fun _ h9 => h9) hw d_LogCleanerModel_close_58 (fun r9 hw => ?_)
    refine lv_aload_n hx hb d_LogCleanerModel_close_61 rfl (lv_at hl 0 rfl) ?_
    refine xgetI hx hb htb i_LogCleanerModel hown hK hP (ci := 4) rfl 16 (by decide) (htb _ k_LogCleanerModel_82) (fun _ h9 => h9) hw d_LogCleanerModel_close_62 (fun v10 hw => ?_)
    refine lv_iload_n hx hb d_LogCleanerModel_close_65 rfl (lv_at hl 1 rfl) ?_
    obtain ⟨p11, hpe, hw⟩ := hw
    revert hw
    revert hl
    subst hpe
    intro hl hw
    replace hl : lv_has ls 5 [(0, .ref x0), (1, .int x1)] := hl
    refine xsti hx hb hK hP hS 2 rfl (fun _ _ => rfl) hw d_LogCleanerModel_close_66 (fun h12 H locs hw hP hS => ?_)
    refine lv_iconst (v := 0) hx hb d_LogCleanerModel_close_67 (by decide) ?_
    refine lv_istore_n (lv' := [(2, .int 0), (0, .ref x0), (1, .int x1)]) hx hb d_LogCleanerModel_close_68 rfl hl (by decide) rfl (fun ls hl => ?_)
    obtain ⟨n, hw⟩ := hw
    exact sl_LogCleanerModel_close_69 C0 n (x0, 0) h12 _ _ _ hw hP hS (lv_sub hl [1, 0] rfl)
  · replace hw := hw.2 cq
    refine lv_iconst (v := 0) hx hb d_LogCleanerModel_close_42 (by decide) ?_
    refine W.widen (k := 0) (n := 0) (Nat.le_of_ble_eq_true rfl) (Nat.le_of_ble_eq_true rfl) ?_
    exact xretI C0 hw hP hS d_LogCleanerModel_close_43

set_option maxHeartbeats 4000000 in
set_option maxRecDepth 100000 in
theorem sb_LogCleanerModel_close_27 {p : Program} {l : Launch} {e : Env} {s : State} {m : MethodId} {args : Array Value} {below : List Frame} {meth : Method} {c : Code} {D : va_G} {d : Nat → ClassId} {A : Nat → Prop} {h0 : xw} {Q : Int32 → xw → Prop} (C0 : xctx p s m args meth c b_LogCleanerModel_close 5 (some .int) R_LogCleanerModel D d A True) : ∀ (x0 : Nat) (x1 : Int32) (s0 : Nat) (h : xw) (H : Heap) (locs : List Loc) (ls : Array Slot), wb_LogCleanerModel_close_27 d Q x0 x1 s0 h → xR sgM h0 D A h H → va_S A s.heap H locs → lv_has ls 5 [(0, .ref x0), (1, .int x1)] → W p l e rm_LogCleanerModel_close s m args below meth c H locs 0 0 (MQ below (va_Qi (fun r u => Q r u ∧ xfr sgM h0 u) (xB D d A) A) args s 0 0 A) (F0 m 27 ls [.ref s0]) := by
  obtain ⟨hx, hb, hr, hml, hown, htb, hK, hA, hNB, hlocks, hXT⟩ := id C0
  intro x0 x1 s0 h H locs ls hw hP hS hl
  refine lv_iconst (v := 2) hx hb d_LogCleanerModel_close_27 (by decide) ?_
  refine lv_goto (tgt := 32) hx hb d_LogCleanerModel_close_28 (by decide) ?_
  exact sb_LogCleanerModel_close_32 C0 x0 x1 2 s0 h _ _ _ hw hP hS (lv_sub hl [0, 1] rfl)

set_option maxHeartbeats 4000000 in
set_option maxRecDepth 100000 in
theorem m_LogCleanerModel_close (l : Launch) (D : va_G) (d : Nat → ClassId) (h : xw) (sz : Nat) (a0 : Nat) (a1 : Int32) (Q : Int32 → xw → Prop) (hw : wp_LogCleanerModel_close d h a0 a1 Q) : Met l y_LogCleanerModel_close ws_LogCleanerModel_close rm_LogCleanerModel_close (xPre D d h [.ref a0, .int a1] sz) (va_Qi (fun r u => Q r u ∧ xfr sgM h u) (xB D d (xA h sz)) (xA h sz)) 0 0 (xA h sz) := by
  refine Met.ofW (cc := b_LogCleanerModel_close) (maxL := 5) (ret := (some .int)) (by decide) rfl ?_
  intro p e s m args below meth c s₁ B hml hv
  obtain ⟨rfl, hsz, hP0, hK, hNB⟩ := hv
  have hts := atoms_spec (ws := ws_LogCleanerModel_close) B.pre
  have htb := fun w (hw9 : w ∈ TB) => hts w (List.mem_cons_of_mem _ hw9)
  have hown : s.vm.findClass R_LogCleanerModel = some m.cls := findClass_of_methodNamed B.named
  subst hsz
  obtain ⟨A, hAe⟩ : ∃ A, A = xA h s.heap.size := ⟨_, rfl⟩
  rw [← hAe]
  have hP : xR sgM h D A h s.heap := ⟨by rw [hAe]; exact hP0.self, xfr.rf⟩
  have hA : ∀ q, s.heap.size ≤ q → A q := fun q hq => by rw [hAe]; exact Or.inr hq
  have hS : va_S A s.heap s.heap [] := va_S.rf
  have C0 : xctx p s m ([.ref a0, .int a1] : List Value).toArray meth c b_LogCleanerModel_close 5 (some .int) R_LogCleanerModel D d A True := ⟨B.exec, B.bytes, B.returns, hml, hown, htb, hK, hA, hNB, B.notSynchronized, trivial⟩
  obtain ⟨hx, hb, hr, -, -, -, -, -, -, hlocks, hXT⟩ := id C0
  have hl := lv_entry ([.ref a0, .int a1] : List Value) (n := 5) (Nat.le_of_ble_eq_true rfl)
  rw [lg_entry_eq]
  generalize (lg_sl ([.ref a0, .int a1] : List Value) ++ List.replicate (5 - (lg_sl ([.ref a0, .int a1] : List Value)).length) Slot.unset).toArray = ls at hl ⊢
  have hl : lv_has ls 5 [(0, .ref a0), (1, .int a1)] := hl
  refine lv_aload_n hx hb d_LogCleanerModel_close_0 rfl (lv_at hl 0 rfl) ?_
  refine lv_iload_n hx hb d_LogCleanerModel_close_1 rfl (lv_at hl 1 rfl) ?_
  refine lv_iconst (v := (-1)) hx hb d_LogCleanerModel_close_2 (by decide) ?_
  refine lv_icmp_ge (tgt := 10) hx hb d_LogCleanerModel_close_3 (by decide) (fun cq => ?_) (fun cq => ?_)
  · replace hw := hw.1 cq
    refine lv_aload_n hx hb d_LogCleanerModel_close_10 rfl (lv_at hl 0 rfl) ?_
    refine xgetI hx hb htb i_LogCleanerModel hown hK hP (ci := 4) rfl 10 (by decide) (htb _ k_LogCleanerModel_72) (fun _ h9 => h9) hw d_LogCleanerModel_close_11 (fun v1 hw => ?_)
    refine lv_if_eq (tgt := 27) hx hb d_LogCleanerModel_close_14 (by decide) (fun cq => ?_) (fun cq => ?_)
    · replace hw := hw.1 cq
      exact sb_LogCleanerModel_close_27 C0 a0 a1 a0 h _ _ _ hw hP hS (lv_sub hl [0, 1] rfl)
    · replace hw := hw.2 cq
      refine lv_aload_n hx hb d_LogCleanerModel_close_17 rfl (lv_at hl 0 rfl) ?_
      refine xgetI hx hb htb i_LogCleanerModel hown hK hP (ci := 4) rfl 16 (by decide) (htb _ k_LogCleanerModel_82) (fun _ h9 => h9) hw d_LogCleanerModel_close_18 (fun v88 hw => ?_)
      refine lv_sipush (v := 400) hx hb d_LogCleanerModel_close_21 (by decide) ?_
      refine lv_icmp_ne (tgt := 31) hx hb d_LogCleanerModel_close_24 (by decide) (fun cq => ?_) (fun cq => ?_)
      · replace hw := hw.2 cq
        refine lv_iconst (v := 0) hx hb d_LogCleanerModel_close_31 (by decide) ?_
        exact sb_LogCleanerModel_close_32 C0 a0 a1 0 a0 h _ _ _ hw hP hS (lv_sub hl [0, 1] rfl)
      · replace hw := hw.1 cq
        exact sb_LogCleanerModel_close_27 C0 a0 a1 a0 h _ _ _ hw hP hS (lv_sub hl [0, 1] rfl)
  · replace hw := hw.2 cq
    refine lv_iconst (v := 1) hx hb d_LogCleanerModel_close_6 (by decide) ?_
    refine lv_goto (tgt := 32) hx hb d_LogCleanerModel_close_7 (by decide) ?_
    exact sb_LogCleanerModel_close_32 C0 a0 a1 1 a0 h _ _ _ hw hP hS (lv_sub hl [0, 1] rfl)

theorem d_LogCleanerModel_isClosed_0 : decode b_LogCleanerModel_isClosed 0 = .ok (.aload_n 0, 1) := by decide +kernel
theorem d_LogCleanerModel_isClosed_1 : decode b_LogCleanerModel_isClosed 1 = .ok (.getfield 54, 3) := by decide +kernel
theorem d_LogCleanerModel_isClosed_4 : decode b_LogCleanerModel_isClosed 4 = .ok (.iload_n 1, 1) := by decide +kernel
theorem d_LogCleanerModel_isClosed_5 : decode b_LogCleanerModel_isClosed 5 = .ok (.iaload, 1) := by decide +kernel
theorem d_LogCleanerModel_isClosed_6 : decode b_LogCleanerModel_isClosed 6 = .ok (.aload_n 0, 1) := by decide +kernel
theorem d_LogCleanerModel_isClosed_7 : decode b_LogCleanerModel_isClosed 7 = .ok (.getfield 54, 3) := by decide +kernel
theorem d_LogCleanerModel_isClosed_10 : decode b_LogCleanerModel_isClosed 10 = .ok (.aload_n 0, 1) := by decide +kernel
theorem d_LogCleanerModel_isClosed_11 : decode b_LogCleanerModel_isClosed 11 = .ok (.getfield 82, 3) := by decide +kernel
theorem d_LogCleanerModel_isClosed_14 : decode b_LogCleanerModel_isClosed 14 = .ok (.iconst 1, 1) := by decide +kernel
theorem d_LogCleanerModel_isClosed_15 : decode b_LogCleanerModel_isClosed 15 = .ok (.isub, 1) := by decide +kernel
theorem d_LogCleanerModel_isClosed_16 : decode b_LogCleanerModel_isClosed 16 = .ok (.iaload, 1) := by decide +kernel
theorem d_LogCleanerModel_isClosed_17 : decode b_LogCleanerModel_isClosed 17 = .ok (.if_icmp .eq 7, 3) := by decide +kernel
theorem d_LogCleanerModel_isClosed_20 : decode b_LogCleanerModel_isClosed 20 = .ok (.iconst 1, 1) := by decide +kernel
theorem d_LogCleanerModel_isClosed_21 : decode b_LogCleanerModel_isClosed 21 = .ok (.goto 4, 3) := by decide +kernel
theorem d_LogCleanerModel_isClosed_24 : decode b_LogCleanerModel_isClosed 24 = .ok (.iconst 0, 1) := by decide +kernel
theorem d_LogCleanerModel_isClosed_25 : decode b_LogCleanerModel_isClosed 25 = .ok (.ireturn, 1) := by decide +kernel
def rm_LogCleanerModel_isClosed : Room := { frames := 0, cells := 0, slots := 0, locals := 0 }
def ws_LogCleanerModel_isClosed : List Cond := Cond.code y_LogCleanerModel_isClosed b_LogCleanerModel_isClosed 2 (some .boolean) :: TB
set_option maxHeartbeats 4000000 in
set_option maxRecDepth 100000 in
theorem sb_LogCleanerModel_isClosed_25 {p : Program} {l : Launch} {e : Env} {s : State} {m : MethodId} {args : Array Value} {below : List Frame} {meth : Method} {c : Code} {D : va_G} {d : Nat → ClassId} {A : Nat → Prop} {h0 : xw} {Q : Int32 → xw → Prop} (C0 : xctx p s m args meth c b_LogCleanerModel_isClosed 2 (some .boolean) R_LogCleanerModel D d A True) : ∀ (s0 : Int32) (h : xw) (H : Heap) (locs : List Loc) (ls : Array Slot), wb_LogCleanerModel_isClosed_25 d Q  s0 h → xR sgM h0 D A h H → va_S A s.heap H locs → lv_has ls 2 [] → W p l e rm_LogCleanerModel_isClosed s m args below meth c H locs 0 0 (MQ below (va_Qi (fun r u => Q r u ∧ xfr sgM h0 u) (xB D d A) A) args s 0 0 A) (F0 m 25 ls [.int s0]) := by
  obtain ⟨hx, hb, hr, hml, hown, htb, hK, hA, hNB, hlocks, hXT⟩ := id C0
  intro  s0 h H locs ls hw hP hS hl
  refine W.widen (k := 0) (n := 0) (Nat.le_of_ble_eq_true rfl) (Nat.le_of_ble_eq_true rfl) ?_
  exact xretZ C0 hw hP hS d_LogCleanerModel_isClosed_25

set_option maxHeartbeats 4000000 in
set_option maxRecDepth 100000 in
theorem m_LogCleanerModel_isClosed (l : Launch) (D : va_G) (d : Nat → ClassId) (h : xw) (sz : Nat) (a0 : Nat) (a1 : Int32) (Q : Int32 → xw → Prop) (hw : wp_LogCleanerModel_isClosed d h a0 a1 Q) : Met l y_LogCleanerModel_isClosed ws_LogCleanerModel_isClosed rm_LogCleanerModel_isClosed (xPre D d h [.ref a0, .int a1] sz) (va_Qi (fun r u => Q r u ∧ xfr sgM h u) (xB D d (xA h sz)) (xA h sz)) 0 0 (xA h sz) := by
  refine Met.ofW (cc := b_LogCleanerModel_isClosed) (maxL := 2) (ret := (some .boolean)) (by decide) rfl ?_
  intro p e s m args below meth c s₁ B hml hv
  obtain ⟨rfl, hsz, hP0, hK, hNB⟩ := hv
  have hts := atoms_spec (ws := ws_LogCleanerModel_isClosed) B.pre
  have htb := fun w (hw9 : w ∈ TB) => hts w (List.mem_cons_of_mem _ hw9)
  have hown : s.vm.findClass R_LogCleanerModel = some m.cls := findClass_of_methodNamed B.named
  subst hsz
  obtain ⟨A, hAe⟩ : ∃ A, A = xA h s.heap.size := ⟨_, rfl⟩
  rw [← hAe]
  have hP : xR sgM h D A h s.heap := ⟨by rw [hAe]; exact hP0.self, xfr.rf⟩
  have hA : ∀ q, s.heap.size ≤ q → A q := fun q hq => by rw [hAe]; exact Or.inr hq
  have hS : va_S A s.heap s.heap [] := va_S.rf
  have C0 : xctx p s m ([.ref a0, .int a1] : List Value).toArray meth c b_LogCleanerModel_isClosed 2 (some .boolean) R_LogCleanerModel D d A True := ⟨B.exec, B.bytes, B.returns, hml, hown, htb, hK, hA, hNB, B.notSynchronized, trivial⟩
  obtain ⟨hx, hb, hr, -, -, -, -, -, -, hlocks, hXT⟩ := id C0
  have hl := lv_entry ([.ref a0, .int a1] : List Value) (n := 2) (Nat.le_of_ble_eq_true rfl)
  rw [lg_entry_eq]
  generalize (lg_sl ([.ref a0, .int a1] : List Value) ++ List.replicate (2 - (lg_sl ([.ref a0, .int a1] : List Value)).length) Slot.unset).toArray = ls at hl ⊢
  have hl : lv_has ls 2 [(0, .ref a0), (1, .int a1)] := hl
  refine lv_aload_n hx hb d_LogCleanerModel_isClosed_0 rfl (lv_at hl 0 rfl) ?_
  refine xgetA hx hb htb i_LogCleanerModel hown hK hP (ci := 4) rfl 19 (by decide) (htb _ k_LogCleanerModel_54) (fun _ h9 => h9) hw d_LogCleanerModel_isClosed_1 (fun r1 hw => ?_)
  refine lv_iload_n hx hb d_LogCleanerModel_isClosed_4 rfl (lv_at hl 1 rfl) ?_
  obtain ⟨p2, hpe, hw⟩ := hw
  revert hw
  revert hl
  subst hpe
  intro hl hw
  replace hl : lv_has ls 2 [(0, .ref a0), (1, .int a1)] := hl
  refine xldi hx hb hK hP 2 rfl hw d_LogCleanerModel_isClosed_5 (fun v3 hw => ?_)
  refine lv_aload_n hx hb d_LogCleanerModel_isClosed_6 rfl (lv_at hl 0 rfl) ?_
  refine xgetA hx hb htb i_LogCleanerModel hown hK hP (ci := 4) rfl 19 (by decide) (htb _ k_LogCleanerModel_54) (fun _ h9 => h9) hw d_LogCleanerModel_isClosed_7 (fun r4 hw => ?_)
  refine lv_aload_n hx hb d_LogCleanerModel_isClosed_10 rfl (lv_at hl 0 rfl) ?_
  refine xgetI hx hb htb i_LogCleanerModel hown hK hP (ci := 4) rfl 16 (by decide) (htb _ k_LogCleanerModel_82) (fun _ h9 => h9) hw d_LogCleanerModel_isClosed_11 (fun v5 hw => ?_)
  refine lv_iconst (v := 1) hx hb d_LogCleanerModel_isClosed_14 (by decide) ?_
  refine lv_isub hx hb d_LogCleanerModel_isClosed_15 ?_
  obtain ⟨p6, hpe, hw⟩ := hw
  revert hw
  revert hl
  subst hpe
  intro hl hw
  replace hl : lv_has ls 2 [(0, .ref a0), (1, .int a1)] := hl
  refine xldi hx hb hK hP 2 rfl hw d_LogCleanerModel_isClosed_16 (fun v7 hw => ?_)
  refine lv_icmp_eq (tgt := 24) hx hb d_LogCleanerModel_isClosed_17 (by decide) (fun cq => ?_) (fun cq => ?_)
  · replace hw := hw.1 cq
    refine lv_iconst (v := 0) hx hb d_LogCleanerModel_isClosed_24 (by decide) ?_
    exact sb_LogCleanerModel_isClosed_25 C0 0 h _ _ _ hw hP hS (lv_sub hl [] rfl)
  · replace hw := hw.2 cq
    refine lv_iconst (v := 1) hx hb d_LogCleanerModel_isClosed_20 (by decide) ?_
    refine lv_goto (tgt := 25) hx hb d_LogCleanerModel_isClosed_21 (by decide) ?_
    exact sb_LogCleanerModel_isClosed_25 C0 1 h _ _ _ hw hP hS (lv_sub hl [] rfl)

theorem d_LogCleanerModel_isOver_0 : decode b_LogCleanerModel_isOver 0 = .ok (.aload_n 0, 1) := by decide +kernel
theorem d_LogCleanerModel_isOver_1 : decode b_LogCleanerModel_isOver 1 = .ok (.getfield 20, 3) := by decide +kernel
theorem d_LogCleanerModel_isOver_4 : decode b_LogCleanerModel_isOver 4 = .ok (.iload_n 1, 1) := by decide +kernel
theorem d_LogCleanerModel_isOver_5 : decode b_LogCleanerModel_isOver 5 = .ok (.iaload, 1) := by decide +kernel
theorem d_LogCleanerModel_isOver_6 : decode b_LogCleanerModel_isOver 6 = .ok (.ifCond .lt 16, 3) := by decide +kernel
theorem d_LogCleanerModel_isOver_9 : decode b_LogCleanerModel_isOver 9 = .ok (.aload_n 0, 1) := by decide +kernel
theorem d_LogCleanerModel_isOver_10 : decode b_LogCleanerModel_isOver 10 = .ok (.aload_n 0, 1) := by decide +kernel
theorem d_LogCleanerModel_isOver_11 : decode b_LogCleanerModel_isOver 11 = .ok (.getfield 7, 3) := by decide +kernel
theorem d_LogCleanerModel_isOver_14 : decode b_LogCleanerModel_isOver 14 = .ok (.iload_n 1, 1) := by decide +kernel
theorem d_LogCleanerModel_isOver_15 : decode b_LogCleanerModel_isOver 15 = .ok (.iaload, 1) := by decide +kernel
theorem d_LogCleanerModel_isOver_16 : decode b_LogCleanerModel_isOver 16 = .ok (.invokevirtual 92, 3) := by decide +kernel
theorem d_LogCleanerModel_isOver_19 : decode b_LogCleanerModel_isOver 19 = .ok (.ifCond .ne 5, 3) := by decide +kernel
theorem d_LogCleanerModel_isOver_22 : decode b_LogCleanerModel_isOver 22 = .ok (.iconst 0, 1) := by decide +kernel
theorem d_LogCleanerModel_isOver_23 : decode b_LogCleanerModel_isOver 23 = .ok (.ireturn, 1) := by decide +kernel
theorem d_LogCleanerModel_isOver_24 : decode b_LogCleanerModel_isOver 24 = .ok (.iconst 0, 1) := by decide +kernel
theorem d_LogCleanerModel_isOver_25 : decode b_LogCleanerModel_isOver 25 = .ok (.istore_n 3, 1) := by decide +kernel
theorem d_LogCleanerModel_isOver_26 : decode b_LogCleanerModel_isOver 26 = .ok (.iload_n 1, 1) := by decide +kernel
theorem d_LogCleanerModel_isOver_27 : decode b_LogCleanerModel_isOver 27 = .ok (.iconst 1, 1) := by decide +kernel
theorem d_LogCleanerModel_isOver_28 : decode b_LogCleanerModel_isOver 28 = .ok (.iadd, 1) := by decide +kernel
theorem d_LogCleanerModel_isOver_29 : decode b_LogCleanerModel_isOver 29 = .ok (.istore 4, 2) := by decide +kernel
theorem d_LogCleanerModel_isOver_31 : decode b_LogCleanerModel_isOver 31 = .ok (.iload 4, 2) := by decide +kernel
theorem d_LogCleanerModel_isOver_33 : decode b_LogCleanerModel_isOver 33 = .ok (.aload_n 0, 1) := by decide +kernel
theorem d_LogCleanerModel_isOver_34 : decode b_LogCleanerModel_isOver 34 = .ok (.getfield 75, 3) := by decide +kernel
theorem d_LogCleanerModel_isOver_37 : decode b_LogCleanerModel_isOver 37 = .ok (.if_icmp .ge 52, 3) := by decide +kernel
theorem d_LogCleanerModel_isOver_40 : decode b_LogCleanerModel_isOver 40 = .ok (.iload_n 3, 1) := by decide +kernel
theorem d_LogCleanerModel_isOver_41 : decode b_LogCleanerModel_isOver 41 = .ok (.ifCond .ne 48, 3) := by decide +kernel
theorem d_LogCleanerModel_isOver_44 : decode b_LogCleanerModel_isOver 44 = .ok (.aload_n 0, 1) := by decide +kernel
theorem d_LogCleanerModel_isOver_45 : decode b_LogCleanerModel_isOver 45 = .ok (.getfield 20, 3) := by decide +kernel
theorem d_LogCleanerModel_isOver_48 : decode b_LogCleanerModel_isOver 48 = .ok (.iload 4, 2) := by decide +kernel
theorem d_LogCleanerModel_isOver_50 : decode b_LogCleanerModel_isOver 50 = .ok (.iaload, 1) := by decide +kernel
theorem d_LogCleanerModel_isOver_51 : decode b_LogCleanerModel_isOver 51 = .ok (.aload_n 0, 1) := by decide +kernel
theorem d_LogCleanerModel_isOver_52 : decode b_LogCleanerModel_isOver 52 = .ok (.getfield 20, 3) := by decide +kernel
theorem d_LogCleanerModel_isOver_55 : decode b_LogCleanerModel_isOver 55 = .ok (.iload_n 1, 1) := by decide +kernel
theorem d_LogCleanerModel_isOver_56 : decode b_LogCleanerModel_isOver 56 = .ok (.iaload, 1) := by decide +kernel
theorem d_LogCleanerModel_isOver_57 : decode b_LogCleanerModel_isOver 57 = .ok (.if_icmp .ne 24, 3) := by decide +kernel
theorem d_LogCleanerModel_isOver_60 : decode b_LogCleanerModel_isOver 60 = .ok (.aload_n 0, 1) := by decide +kernel
theorem d_LogCleanerModel_isOver_61 : decode b_LogCleanerModel_isOver 61 = .ok (.getfield 16, 3) := by decide +kernel
theorem d_LogCleanerModel_isOver_64 : decode b_LogCleanerModel_isOver 64 = .ok (.iload 4, 2) := by decide +kernel
theorem d_LogCleanerModel_isOver_66 : decode b_LogCleanerModel_isOver 66 = .ok (.laload, 1) := by decide +kernel
theorem d_LogCleanerModel_isOver_67 : decode b_LogCleanerModel_isOver 67 = .ok (.aload_n 0, 1) := by decide +kernel
theorem d_LogCleanerModel_isOver_68 : decode b_LogCleanerModel_isOver 68 = .ok (.getfield 16, 3) := by decide +kernel
theorem d_LogCleanerModel_isOver_71 : decode b_LogCleanerModel_isOver 71 = .ok (.iload_n 1, 1) := by decide +kernel
theorem d_LogCleanerModel_isOver_72 : decode b_LogCleanerModel_isOver 72 = .ok (.laload, 1) := by decide +kernel
theorem d_LogCleanerModel_isOver_73 : decode b_LogCleanerModel_isOver 73 = .ok (.lcmp, 1) := by decide +kernel
theorem d_LogCleanerModel_isOver_74 : decode b_LogCleanerModel_isOver 74 = .ok (.ifCond .ne 7, 3) := by decide +kernel
theorem d_LogCleanerModel_isOver_77 : decode b_LogCleanerModel_isOver 77 = .ok (.iconst 1, 1) := by decide +kernel
theorem d_LogCleanerModel_isOver_78 : decode b_LogCleanerModel_isOver 78 = .ok (.goto 4, 3) := by decide +kernel
theorem d_LogCleanerModel_isOver_81 : decode b_LogCleanerModel_isOver 81 = .ok (.iconst 0, 1) := by decide +kernel
theorem d_LogCleanerModel_isOver_82 : decode b_LogCleanerModel_isOver 82 = .ok (.istore_n 3, 1) := by decide +kernel
theorem d_LogCleanerModel_isOver_83 : decode b_LogCleanerModel_isOver 83 = .ok (.iinc 4 1, 3) := by decide +kernel
theorem d_LogCleanerModel_isOver_86 : decode b_LogCleanerModel_isOver 86 = .ok (.goto (-55), 3) := by decide +kernel
theorem d_LogCleanerModel_isOver_89 : decode b_LogCleanerModel_isOver 89 = .ok (.iload_n 3, 1) := by decide +kernel
theorem d_LogCleanerModel_isOver_90 : decode b_LogCleanerModel_isOver 90 = .ok (.ifCond .ne 26, 3) := by decide +kernel
theorem d_LogCleanerModel_isOver_93 : decode b_LogCleanerModel_isOver 93 = .ok (.aload_n 0, 1) := by decide +kernel
theorem d_LogCleanerModel_isOver_94 : decode b_LogCleanerModel_isOver 94 = .ok (.getfield 23, 3) := by decide +kernel
theorem d_LogCleanerModel_isOver_97 : decode b_LogCleanerModel_isOver 97 = .ok (.iload_n 1, 1) := by decide +kernel
theorem d_LogCleanerModel_isOver_98 : decode b_LogCleanerModel_isOver 98 = .ok (.baload, 1) := by decide +kernel
theorem d_LogCleanerModel_isOver_99 : decode b_LogCleanerModel_isOver 99 = .ok (.ifCond .ne 21, 3) := by decide +kernel
theorem d_LogCleanerModel_isOver_102 : decode b_LogCleanerModel_isOver 102 = .ok (.aload_n 0, 1) := by decide +kernel
theorem d_LogCleanerModel_isOver_103 : decode b_LogCleanerModel_isOver 103 = .ok (.getfield 30, 3) := by decide +kernel
theorem d_LogCleanerModel_isOver_106 : decode b_LogCleanerModel_isOver 106 = .ok (.iload_n 1, 1) := by decide +kernel
theorem d_LogCleanerModel_isOver_107 : decode b_LogCleanerModel_isOver 107 = .ok (.iaload, 1) := by decide +kernel
theorem d_LogCleanerModel_isOver_108 : decode b_LogCleanerModel_isOver 108 = .ok (.iload_n 2, 1) := by decide +kernel
theorem d_LogCleanerModel_isOver_109 : decode b_LogCleanerModel_isOver 109 = .ok (.sipush 1000, 3) := by decide +kernel
theorem d_LogCleanerModel_isOver_112 : decode b_LogCleanerModel_isOver 112 = .ok (.isub, 1) := by decide +kernel
theorem d_LogCleanerModel_isOver_113 : decode b_LogCleanerModel_isOver 113 = .ok (.if_icmp .gt 7, 3) := by decide +kernel
theorem d_LogCleanerModel_isOver_116 : decode b_LogCleanerModel_isOver 116 = .ok (.iconst 1, 1) := by decide +kernel
theorem d_LogCleanerModel_isOver_117 : decode b_LogCleanerModel_isOver 117 = .ok (.goto 4, 3) := by decide +kernel
theorem d_LogCleanerModel_isOver_120 : decode b_LogCleanerModel_isOver 120 = .ok (.iconst 0, 1) := by decide +kernel
theorem d_LogCleanerModel_isOver_121 : decode b_LogCleanerModel_isOver 121 = .ok (.ireturn, 1) := by decide +kernel
def rm_LogCleanerModel_isOver : Room := { frames := 1, cells := 0, slots := 0, locals := 21 }
def ws_LogCleanerModel_isOver : List Cond := Cond.code y_LogCleanerModel_isOver b_LogCleanerModel_isOver 5 (some .boolean) :: TB
set_option maxHeartbeats 4000000 in
set_option maxRecDepth 100000 in
theorem sb_LogCleanerModel_isOver_22 {p : Program} {l : Launch} {e : Env} {s : State} {m : MethodId} {args : Array Value} {below : List Frame} {meth : Method} {c : Code} {D : va_G} {d : Nat → ClassId} {A : Nat → Prop} {h0 : xw} {Q : Int32 → xw → Prop} (C0 : xctx p s m args meth c b_LogCleanerModel_isOver 5 (some .boolean) R_LogCleanerModel D d A True) : ∀ (h : xw) (H : Heap) (locs : List Loc) (ls : Array Slot), wb_LogCleanerModel_isOver_22 d Q  h → xR sgM h0 D A h H → va_S A s.heap H locs → lv_has ls 5 [] → W p l e rm_LogCleanerModel_isOver s m args below meth c H locs 0 0 (MQ below (va_Qi (fun r u => Q r u ∧ xfr sgM h0 u) (xB D d A) A) args s 0 0 A) (F0 m 22 ls []) := by
  obtain ⟨hx, hb, hr, hml, hown, htb, hK, hA, hNB, hlocks, hXT⟩ := id C0
  intro  h H locs ls hw hP hS hl
  refine lv_iconst (v := 0) hx hb d_LogCleanerModel_isOver_22 (by decide) ?_
  refine W.widen (k := 0) (n := 0) (Nat.le_of_ble_eq_true rfl) (Nat.le_of_ble_eq_true rfl) ?_
  exact xretZ C0 hw hP hS d_LogCleanerModel_isOver_23

set_option maxHeartbeats 4000000 in
set_option maxRecDepth 100000 in
theorem sb_LogCleanerModel_isOver_121 {p : Program} {l : Launch} {e : Env} {s : State} {m : MethodId} {args : Array Value} {below : List Frame} {meth : Method} {c : Code} {D : va_G} {d : Nat → ClassId} {A : Nat → Prop} {h0 : xw} {Q : Int32 → xw → Prop} (C0 : xctx p s m args meth c b_LogCleanerModel_isOver 5 (some .boolean) R_LogCleanerModel D d A True) : ∀ (s0 : Int32) (h : xw) (H : Heap) (locs : List Loc) (ls : Array Slot), wb_LogCleanerModel_isOver_121 d Q  s0 h → xR sgM h0 D A h H → va_S A s.heap H locs → lv_has ls 5 [] → W p l e rm_LogCleanerModel_isOver s m args below meth c H locs 0 0 (MQ below (va_Qi (fun r u => Q r u ∧ xfr sgM h0 u) (xB D d A) A) args s 0 0 A) (F0 m 121 ls [.int s0]) := by
  obtain ⟨hx, hb, hr, hml, hown, htb, hK, hA, hNB, hlocks, hXT⟩ := id C0
  intro  s0 h H locs ls hw hP hS hl
  refine W.widen (k := 0) (n := 0) (Nat.le_of_ble_eq_true rfl) (Nat.le_of_ble_eq_true rfl) ?_
  exact xretZ C0 hw hP hS d_LogCleanerModel_isOver_121

set_option maxHeartbeats 4000000 in
set_option maxRecDepth 100000 in
theorem sb_LogCleanerModel_isOver_116 {p : Program} {l : Launch} {e : Env} {s : State} {m : MethodId} {args : Array Value} {below : List Frame} {meth : Method} {c : Code} {D : va_G} {d : Nat → ClassId} {A : Nat → Prop} {h0 : xw} {Q : Int32 → xw → Prop} (C0 : xctx p s m args meth c b_LogCleanerModel_isOver 5 (some .boolean) R_LogCleanerModel D d A True) : ∀ (h : xw) (H : Heap) (locs : List Loc) (ls : Array Slot), wb_LogCleanerModel_isOver_116 d Q  h → xR sgM h0 D A h H → va_S A s.heap H locs → lv_has ls 5 [] → W p l e rm_LogCleanerModel_isOver s m args below meth c H locs 0 0 (MQ below (va_Qi (fun r u => Q r u ∧ xfr sgM h0 u) (xB D d A) A) args s 0 0 A) (F0 m 116 ls []) := by
  obtain ⟨hx, hb, hr, hml, hown, htb, hK, hA, hNB, hlocks, hXT⟩ := id C0
  intro  h H locs ls hw hP hS hl
  refine lv_iconst (v := 1) hx hb d_LogCleanerModel_isOver_116 (by decide) ?_
  refine lv_goto (tgt := 121) hx hb d_LogCleanerModel_isOver_117 (by decide) ?_
  exact sb_LogCleanerModel_isOver_121 C0 1 h _ _ _ hw hP hS (lv_sub hl [] rfl)

set_option maxHeartbeats 4000000 in
set_option maxRecDepth 100000 in
theorem sb_LogCleanerModel_isOver_120 {p : Program} {l : Launch} {e : Env} {s : State} {m : MethodId} {args : Array Value} {below : List Frame} {meth : Method} {c : Code} {D : va_G} {d : Nat → ClassId} {A : Nat → Prop} {h0 : xw} {Q : Int32 → xw → Prop} (C0 : xctx p s m args meth c b_LogCleanerModel_isOver 5 (some .boolean) R_LogCleanerModel D d A True) : ∀ (h : xw) (H : Heap) (locs : List Loc) (ls : Array Slot), wb_LogCleanerModel_isOver_120 d Q  h → xR sgM h0 D A h H → va_S A s.heap H locs → lv_has ls 5 [] → W p l e rm_LogCleanerModel_isOver s m args below meth c H locs 0 0 (MQ below (va_Qi (fun r u => Q r u ∧ xfr sgM h0 u) (xB D d A) A) args s 0 0 A) (F0 m 120 ls []) := by
  obtain ⟨hx, hb, hr, hml, hown, htb, hK, hA, hNB, hlocks, hXT⟩ := id C0
  intro  h H locs ls hw hP hS hl
  refine lv_iconst (v := 0) hx hb d_LogCleanerModel_isOver_120 (by decide) ?_
  exact sb_LogCleanerModel_isOver_121 C0 0 h _ _ _ hw hP hS (lv_sub hl [] rfl)

set_option maxHeartbeats 4000000 in
set_option maxRecDepth 100000 in
theorem sb_LogCleanerModel_isOver_89 {p : Program} {l : Launch} {e : Env} {s : State} {m : MethodId} {args : Array Value} {below : List Frame} {meth : Method} {c : Code} {D : va_G} {d : Nat → ClassId} {A : Nat → Prop} {h0 : xw} {Q : Int32 → xw → Prop} (C0 : xctx p s m args meth c b_LogCleanerModel_isOver 5 (some .boolean) R_LogCleanerModel D d A True) : ∀ (x0 : Nat) (x1 : Int32) (x2 : Int32) (x3 : Int32) (h : xw) (H : Heap) (locs : List Loc) (ls : Array Slot), wb_LogCleanerModel_isOver_89 d Q x0 x1 x2 x3 h → xR sgM h0 D A h H → va_S A s.heap H locs → lv_has ls 5 [(0, .ref x0), (1, .int x1), (2, .int x2), (3, .int x3)] → W p l e rm_LogCleanerModel_isOver s m args below meth c H locs 0 0 (MQ below (va_Qi (fun r u => Q r u ∧ xfr sgM h0 u) (xB D d A) A) args s 0 0 A) (F0 m 89 ls []) := by
  obtain ⟨hx, hb, hr, hml, hown, htb, hK, hA, hNB, hlocks, hXT⟩ := id C0
  intro x0 x1 x2 x3 h H locs ls hw hP hS hl
  refine lv_iload_n hx hb d_LogCleanerModel_isOver_89 rfl (lv_at hl 3 rfl) ?_
  refine lv_if_ne (tgt := 116) hx hb d_LogCleanerModel_isOver_90 (by decide) (fun cq => ?_) (fun cq => ?_)
  · replace hw := hw.2 cq
    exact sb_LogCleanerModel_isOver_116 C0  h _ _ _ hw hP hS (lv_sub hl [] rfl)
  · replace hw := hw.1 cq
    refine lv_aload_n hx hb d_LogCleanerModel_isOver_93 rfl (lv_at hl 0 rfl) ?_
    refine xgetA hx hb htb i_LogCleanerModel hown hK hP (ci := 4) rfl 6 (by decide) (htb _ k_LogCleanerModel_23) (fun _ h9 => h9) hw d_LogCleanerModel_isOver_94 (fun r10 hw => ?_)
    refine lv_iload_n hx hb d_LogCleanerModel_isOver_97 rfl (lv_at hl 1 rfl) ?_
    obtain ⟨p11, hpe, hw⟩ := hw
    revert hw
    revert hl
    subst hpe
    intro hl hw
    replace hl : lv_has ls 5 [(0, .ref x0), (1, .int x1), (2, .int x2), (3, .int x3)] := hl
    refine xldz hx hb hK hP 4 rfl hw d_LogCleanerModel_isOver_98 (fun v12 hw => ?_)
    refine lv_if_ne (tgt := 120) hx hb d_LogCleanerModel_isOver_99 (by decide) (fun cq => ?_) (fun cq => ?_)
    · replace hw := hw.2 cq
      exact sb_LogCleanerModel_isOver_120 C0  h _ _ _ hw hP hS (lv_sub hl [] rfl)
    · replace hw := hw.1 cq
      refine lv_aload_n hx hb d_LogCleanerModel_isOver_102 rfl (lv_at hl 0 rfl) ?_
      refine xgetA hx hb htb i_LogCleanerModel hown hK hP (ci := 4) rfl 8 (by decide) (htb _ k_LogCleanerModel_30) (fun _ h9 => h9) hw d_LogCleanerModel_isOver_103 (fun r13 hw => ?_)
      refine lv_iload_n hx hb d_LogCleanerModel_isOver_106 rfl (lv_at hl 1 rfl) ?_
      obtain ⟨p14, hpe, hw⟩ := hw
      revert hw
      revert hl
      subst hpe
      intro hl hw
      replace hl : lv_has ls 5 [(0, .ref x0), (1, .int x1), (2, .int x2), (3, .int x3)] := hl
      refine xldi hx hb hK hP 2 rfl hw d_LogCleanerModel_isOver_107 (fun v15 hw => ?_)
      refine lv_iload_n hx hb d_LogCleanerModel_isOver_108 rfl (lv_at hl 2 rfl) ?_
      refine lv_sipush (v := 1000) hx hb d_LogCleanerModel_isOver_109 (by decide) ?_
      refine lv_isub hx hb d_LogCleanerModel_isOver_112 ?_
      refine lv_icmp_gt (tgt := 120) hx hb d_LogCleanerModel_isOver_113 (by decide) (fun cq => ?_) (fun cq => ?_)
      · replace hw := hw.1 cq
        exact sb_LogCleanerModel_isOver_120 C0  h _ _ _ hw hP hS (lv_sub hl [] rfl)
      · replace hw := hw.2 cq
        exact sb_LogCleanerModel_isOver_116 C0  h _ _ _ hw hP hS (lv_sub hl [] rfl)

set_option maxHeartbeats 4000000 in
set_option maxRecDepth 100000 in
theorem sb_LogCleanerModel_isOver_82 {p : Program} {l : Launch} {e : Env} {s : State} {m : MethodId} {args : Array Value} {below : List Frame} {meth : Method} {c : Code} {D : va_G} {d : Nat → ClassId} {A : Nat → Prop} {h0 : xw} {Q : Int32 → xw → Prop} {k31 : Nat → Int32 → Int32 → Int32 → Int32 → xw → Prop} (C0 : xctx p s m args meth c b_LogCleanerModel_isOver 5 (some .boolean) R_LogCleanerModel D d A True) (hk31 : ∀ (x0 : Nat) (x1 : Int32) (x2 : Int32) (x3 : Int32) (x4 : Int32) (h : xw) (H : Heap) (locs : List Loc) (ls : Array Slot), k31 x0 x1 x2 x3 x4 h → xR sgM h0 D A h H → va_S A s.heap H locs → lv_has ls 5 [(0, .ref x0), (1, .int x1), (2, .int x2), (3, .int x3), (4, .int x4)] → W p l e rm_LogCleanerModel_isOver s m args below meth c H locs 0 0 (MQ below (va_Qi (fun r u => Q r u ∧ xfr sgM h0 u) (xB D d A) A) args s 0 0 A) (F0 m 31 ls [])) : ∀ (x0 : Nat) (x1 : Int32) (x2 : Int32) (x4 : Int32) (s0 : Int32) (h : xw) (H : Heap) (locs : List Loc) (ls : Array Slot), wb_LogCleanerModel_isOver_82 d k31 Q x0 x1 x2 x4 s0 h → xR sgM h0 D A h H → va_S A s.heap H locs → lv_has ls 5 [(0, .ref x0), (1, .int x1), (2, .int x2), (4, .int x4)] → W p l e rm_LogCleanerModel_isOver s m args below meth c H locs 0 0 (MQ below (va_Qi (fun r u => Q r u ∧ xfr sgM h0 u) (xB D d A) A) args s 0 0 A) (F0 m 82 ls [.int s0]) := by
  obtain ⟨hx, hb, hr, hml, hown, htb, hK, hA, hNB, hlocks, hXT⟩ := id C0
  intro x0 x1 x2 x4 s0 h H locs ls hw hP hS hl
  refine lv_istore_n (lv' := [(3, .int s0), (0, .ref x0), (1, .int x1), (2, .int x2), (4, .int x4)]) hx hb d_LogCleanerModel_isOver_82 rfl hl (by decide) rfl (fun ls hl => ?_)
  refine lv_iinc (v := x4 + 1) (lv' := [(4, .int (x4 + 1)), (3, .int s0), (0, .ref x0), (1, .int x1), (2, .int x2)]) hx hb d_LogCleanerModel_isOver_83 hl (k := 4) rfl rfl (by decide) rfl (fun ls hl => ?_)
  refine lv_goto (tgt := 31) hx hb d_LogCleanerModel_isOver_86 (by decide) ?_
  exact hk31 x0 x1 x2 s0 (x4 + 1) h _ _ _ hw hP hS (lv_sub hl [2, 3, 4, 1, 0] rfl)

set_option maxHeartbeats 4000000 in
set_option maxRecDepth 100000 in
theorem sb_LogCleanerModel_isOver_81 {p : Program} {l : Launch} {e : Env} {s : State} {m : MethodId} {args : Array Value} {below : List Frame} {meth : Method} {c : Code} {D : va_G} {d : Nat → ClassId} {A : Nat → Prop} {h0 : xw} {Q : Int32 → xw → Prop} {k31 : Nat → Int32 → Int32 → Int32 → Int32 → xw → Prop} (C0 : xctx p s m args meth c b_LogCleanerModel_isOver 5 (some .boolean) R_LogCleanerModel D d A True) (hk31 : ∀ (x0 : Nat) (x1 : Int32) (x2 : Int32) (x3 : Int32) (x4 : Int32) (h : xw) (H : Heap) (locs : List Loc) (ls : Array Slot), k31 x0 x1 x2 x3 x4 h → xR sgM h0 D A h H → va_S A s.heap H locs → lv_has ls 5 [(0, .ref x0), (1, .int x1), (2, .int x2), (3, .int x3), (4, .int x4)] → W p l e rm_LogCleanerModel_isOver s m args below meth c H locs 0 0 (MQ below (va_Qi (fun r u => Q r u ∧ xfr sgM h0 u) (xB D d A) A) args s 0 0 A) (F0 m 31 ls [])) : ∀ (x0 : Nat) (x1 : Int32) (x2 : Int32) (x4 : Int32) (h : xw) (H : Heap) (locs : List Loc) (ls : Array Slot), wb_LogCleanerModel_isOver_81 d k31 Q x0 x1 x2 x4 h → xR sgM h0 D A h H → va_S A s.heap H locs → lv_has ls 5 [(0, .ref x0), (1, .int x1), (2, .int x2), (4, .int x4)] → W p l e rm_LogCleanerModel_isOver s m args below meth c H locs 0 0 (MQ below (va_Qi (fun r u => Q r u ∧ xfr sgM h0 u) (xB D d A) A) args s 0 0 A) (F0 m 81 ls []) := by
  obtain ⟨hx, hb, hr, hml, hown, htb, hK, hA, hNB, hlocks, hXT⟩ := id C0
  intro x0 x1 x2 x4 h H locs ls hw hP hS hl
  refine lv_iconst (v := 0) hx hb d_LogCleanerModel_isOver_81 (by decide) ?_
  exact sb_LogCleanerModel_isOver_82 C0 hk31 x0 x1 x2 x4 0 h _ _ _ hw hP hS (lv_sub hl [0, 1, 2, 3] rfl)

set_option maxHeartbeats 4000000 in
set_option maxRecDepth 100000 in
theorem sl_LogCleanerModel_isOver_31 {p : Program} {l : Launch} {e : Env} {s : State} {m : MethodId} {args : Array Value} {below : List Frame} {meth : Method} {c : Code} {D : va_G} {d : Nat → ClassId} {A : Nat → Prop} {h0 : xw} {Q : Int32 → xw → Prop} (C0 : xctx p s m args meth c b_LogCleanerModel_isOver 5 (some .boolean) R_LogCleanerModel D d A True) : ∀ (n : Nat) (x : Nat × Int32 × Int32 × Int32 × Int32) (h : xw) (H : Heap) (locs : List Loc) (ls : Array Slot), xloop (fun (k : Nat × Int32 × Int32 × Int32 × Int32 → xw → Prop) (x : Nat × Int32 × Int32 × Int32 × Int32) (h : xw) => wc_LogCleanerModel_isOver_31 d Q (fun y0 y1 y2 y3 y4 h => k (y0, y1, y2, y3, y4) h) x.1 x.2.1 x.2.2.1 x.2.2.2.1 x.2.2.2.2 h) n x h → xR sgM h0 D A h H → va_S A s.heap H locs → lv_has ls 5 [(0, .ref x.1), (1, .int x.2.1), (2, .int x.2.2.1), (3, .int x.2.2.2.1), (4, .int x.2.2.2.2)] → W p l e rm_LogCleanerModel_isOver s m args below meth c H locs 0 0 (MQ below (va_Qi (fun r u => Q r u ∧ xfr sgM h0 u) (xB D d A) A) args s 0 0 A) (F0 m 31 ls []) := by
  obtain ⟨hx, hb, hr, hml, hown, htb, hK, hA, hNB, hlocks, hXT⟩ := id C0
  intro n
  induction n with
  | zero => intro x h H locs ls hw; exact hw.elim
  | succ n ih =>
    rintro ⟨x0, x1, x2, x3, x4⟩ h H locs ls hw hP hS hl
    replace hw : wc_LogCleanerModel_isOver_31 d Q (fun y0 y1 y2 y3 y4 h => xloop (fun (k : Nat × Int32 × Int32 × Int32 × Int32 → xw → Prop) (x : Nat × Int32 × Int32 × Int32 × Int32) (h : xw) => wc_LogCleanerModel_isOver_31 d Q (fun y0 y1 y2 y3 y4 h => k (y0, y1, y2, y3, y4) h) x.1 x.2.1 x.2.2.1 x.2.2.2.1 x.2.2.2.2 h) n (y0, y1, y2, y3, y4) h) x0 x1 x2 x3 x4 h := hw
    have hk31 := fun (x0 : Nat) (x1 : Int32) (x2 : Int32) (x3 : Int32) (x4 : Int32) => ih (x0, x1, x2, x3, x4)
    refine lv_iload hx hb d_LogCleanerModel_isOver_31 (lv_at hl 4 rfl) ?_
    refine lv_aload_n hx hb d_LogCleanerModel_isOver_33 rfl (lv_at hl 0 rfl) ?_
    refine xgetI hx hb htb i_LogCleanerModel hown hK hP (ci := 4) rfl 1 (by decide) (htb _ k_LogCleanerModel_75) (fun _ h9 => h9) hw d_LogCleanerModel_isOver_34 (fun v9 hw => ?_)
    refine lv_icmp_ge (tgt := 89) hx hb d_LogCleanerModel_isOver_37 (by decide) (fun cq => ?_) (fun cq => ?_)
    · replace hw := hw.1 cq
      exact sb_LogCleanerModel_isOver_89 C0 x0 x1 x2 x3 h _ _ _ hw hP hS (lv_sub hl [0, 1, 2, 3] rfl)
    · replace hw := hw.2 cq
      refine lv_iload_n hx hb d_LogCleanerModel_isOver_40 rfl (lv_at hl 3 rfl) ?_
      refine lv_if_ne (tgt := 89) hx hb d_LogCleanerModel_isOver_41 (by decide) (fun cq => ?_) (fun cq => ?_)
      · replace hw := hw.2 cq
        exact sb_LogCleanerModel_isOver_89 C0 x0 x1 x2 x3 h _ _ _ hw hP hS (lv_sub hl [0, 1, 2, 3] rfl)
      · replace hw := hw.1 cq
        refine lv_aload_n hx hb d_LogCleanerModel_isOver_44 rfl (lv_at hl 0 rfl) ?_
        refine xgetA hx hb htb i_LogCleanerModel hown hK hP (ci := 4) rfl 5 (by decide) (htb _ k_LogCleanerModel_20) (fun _ h9 => h9) hw d_LogCleanerModel_isOver_45 (fun r16 hw => ?_)
        refine lv_iload hx hb d_LogCleanerModel_isOver_48 (lv_at hl 4 rfl) ?_
        obtain ⟨p17, hpe, hw⟩ := hw
        revert hw
        revert hl
        subst hpe
        intro hl hw
        replace hl : lv_has ls 5 [(0, .ref x0), (1, .int x1), (2, .int x2), (3, .int x3), (4, .int x4)] := hl
        refine xldi hx hb hK hP 2 rfl hw d_LogCleanerModel_isOver_50 (fun v18 hw => ?_)
        refine lv_aload_n hx hb d_LogCleanerModel_isOver_51 rfl (lv_at hl 0 rfl) ?_
        refine xgetA hx hb htb i_LogCleanerModel hown hK hP (ci := 4) rfl 5 (by decide) (htb _ k_LogCleanerModel_20) (fun _ h9 => h9) hw d_LogCleanerModel_isOver_52 (fun r19 hw => ?_)
        refine lv_iload_n hx hb d_LogCleanerModel_isOver_55 rfl (lv_at hl 1 rfl) ?_
        obtain ⟨p20, hpe, hw⟩ := hw
        revert hw
        revert hl
        subst hpe
        intro hl hw
        replace hl : lv_has ls 5 [(0, .ref x0), (1, .int x1), (2, .int x2), (3, .int x3), (4, .int x4)] := hl
        refine xldi hx hb hK hP 2 rfl hw d_LogCleanerModel_isOver_56 (fun v21 hw => ?_)
        refine lv_icmp_ne (tgt := 81) hx hb d_LogCleanerModel_isOver_57 (by decide) (fun cq => ?_) (fun cq => ?_)
        · replace hw := hw.2 cq
          exact sb_LogCleanerModel_isOver_81 C0 hk31 x0 x1 x2 x4 h _ _ _ hw hP hS (lv_sub hl [0, 1, 2, 4] rfl)
        · replace hw := hw.1 cq
          refine lv_aload_n hx hb d_LogCleanerModel_isOver_60 rfl (lv_at hl 0 rfl) ?_
          refine xgetA hx hb htb i_LogCleanerModel hown hK hP (ci := 4) rfl 4 (by decide) (htb _ k_LogCleanerModel_16) (fun _ h9 => h9) hw d_LogCleanerModel_isOver_61 (fun r22 hw => ?_)
          refine lv_iload hx hb d_LogCleanerModel_isOver_64 (lv_at hl 4 rfl) ?_
          obtain ⟨p23, hpe, hw⟩ := hw
          revert hw
          revert hl
          subst hpe
          intro hl hw
          replace hl : lv_has ls 5 [(0, .ref x0), (1, .int x1), (2, .int x2), (3, .int x3), (4, .int x4)] := hl
          refine xldl hx hb hK hP 3 rfl hw d_LogCleanerModel_isOver_66 (fun v24 hw => ?_)
          refine lv_aload_n hx hb d_LogCleanerModel_isOver_67 rfl (lv_at hl 0 rfl) ?_
          refine xgetA hx hb htb i_LogCleanerModel hown hK hP (ci := 4) rfl 4 (by decide) (htb _ k_LogCleanerModel_16) (fun _ h9 => h9) hw d_LogCleanerModel_isOver_68 (fun r25 hw => ?_)
          refine lv_iload_n hx hb d_LogCleanerModel_isOver_71 rfl (lv_at hl 1 rfl) ?_
          obtain ⟨p26, hpe, hw⟩ := hw
          revert hw
          revert hl
          subst hpe
          intro hl hw
          replace hl : lv_has ls 5 [(0, .ref x0), (1, .int x1), (2, .int x2), (3, .int x3), (4, .int x4)] := hl
          refine xldl hx hb hK hP 3 rfl hw d_LogCleanerModel_isOver_72 (fun v27 hw => ?_)
          refine W.lcmp hx hb d_LogCleanerModel_isOver_73 ?_
          refine lv_if_ne (tgt := 81) hx hb d_LogCleanerModel_isOver_74 (by decide) (fun cq => ?_) (fun cq => ?_)
          · replace hw := hw.2 cq
            exact sb_LogCleanerModel_isOver_81 C0 hk31 x0 x1 x2 x4 h _ _ _ hw hP hS (lv_sub hl [0, 1, 2, 4] rfl)
          · replace hw := hw.1 cq
            refine lv_iconst (v := 1) hx hb d_LogCleanerModel_isOver_77 (by decide) ?_
            refine lv_goto (tgt := 82) hx hb d_LogCleanerModel_isOver_78 (by decide) ?_
            exact sb_LogCleanerModel_isOver_82 C0 hk31 x0 x1 x2 x4 1 h _ _ _ hw hP hS (lv_sub hl [0, 1, 2, 4] rfl)

set_option maxHeartbeats 4000000 in
set_option maxRecDepth 100000 in
theorem m_LogCleanerModel_isOver (l : Launch) (D : va_G) (d : Nat → ClassId) (h : xw) (sz : Nat) (a0 : Nat) (a1 : Int32) (a2 : Int32) (Q : Int32 → xw → Prop) (hw : wp_LogCleanerModel_isOver d h a0 a1 a2 Q) : Met l y_LogCleanerModel_isOver ws_LogCleanerModel_isOver rm_LogCleanerModel_isOver (xPre D d h [.ref a0, .int a1, .int a2] sz) (va_Qi (fun r u => Q r u ∧ xfr sgM h u) (xB D d (xA h sz)) (xA h sz)) 0 0 (xA h sz) := by
  refine Met.ofW (cc := b_LogCleanerModel_isOver) (maxL := 5) (ret := (some .boolean)) (by decide) rfl ?_
  intro p e s m args below meth c s₁ B hml hv
  obtain ⟨rfl, hsz, hP0, hK, hNB⟩ := hv
  have hts := atoms_spec (ws := ws_LogCleanerModel_isOver) B.pre
  have htb := fun w (hw9 : w ∈ TB) => hts w (List.mem_cons_of_mem _ hw9)
  have hown : s.vm.findClass R_LogCleanerModel = some m.cls := findClass_of_methodNamed B.named
  subst hsz
  obtain ⟨A, hAe⟩ : ∃ A, A = xA h s.heap.size := ⟨_, rfl⟩
  rw [← hAe]
  have hP : xR sgM h D A h s.heap := ⟨by rw [hAe]; exact hP0.self, xfr.rf⟩
  have hA : ∀ q, s.heap.size ≤ q → A q := fun q hq => by rw [hAe]; exact Or.inr hq
  have hS : va_S A s.heap s.heap [] := va_S.rf
  have C0 : xctx p s m ([.ref a0, .int a1, .int a2] : List Value).toArray meth c b_LogCleanerModel_isOver 5 (some .boolean) R_LogCleanerModel D d A True := ⟨B.exec, B.bytes, B.returns, hml, hown, htb, hK, hA, hNB, B.notSynchronized, trivial⟩
  obtain ⟨hx, hb, hr, -, -, -, -, -, -, hlocks, hXT⟩ := id C0
  have hl := lv_entry ([.ref a0, .int a1, .int a2] : List Value) (n := 5) (Nat.le_of_ble_eq_true rfl)
  rw [lg_entry_eq]
  generalize (lg_sl ([.ref a0, .int a1, .int a2] : List Value) ++ List.replicate (5 - (lg_sl ([.ref a0, .int a1, .int a2] : List Value)).length) Slot.unset).toArray = ls at hl ⊢
  have hl : lv_has ls 5 [(0, .ref a0), (1, .int a1), (2, .int a2)] := hl
  refine lv_aload_n hx hb d_LogCleanerModel_isOver_0 rfl (lv_at hl 0 rfl) ?_
  refine xgetA hx hb htb i_LogCleanerModel hown hK hP (ci := 4) rfl 5 (by decide) (htb _ k_LogCleanerModel_20) (fun _ h9 => h9) hw d_LogCleanerModel_isOver_1 (fun r1 hw => ?_)
  refine lv_iload_n hx hb d_LogCleanerModel_isOver_4 rfl (lv_at hl 1 rfl) ?_
  obtain ⟨p2, hpe, hw⟩ := hw
  revert hw
  revert hl
  subst hpe
  intro hl hw
  replace hl : lv_has ls 5 [(0, .ref a0), (1, .int a1), (2, .int a2)] := hl
  refine xldi hx hb hK hP 2 rfl hw d_LogCleanerModel_isOver_5 (fun v3 hw => ?_)
  refine lv_if_lt (tgt := 22) hx hb d_LogCleanerModel_isOver_6 (by decide) (fun cq => ?_) (fun cq => ?_)
  · replace hw := hw.1 cq
    exact sb_LogCleanerModel_isOver_22 C0  h _ _ _ hw hP hS (lv_sub hl [] rfl)
  · replace hw := hw.2 cq
    refine lv_aload_n hx hb d_LogCleanerModel_isOver_9 rfl (lv_at hl 0 rfl) ?_
    refine lv_aload_n hx hb d_LogCleanerModel_isOver_10 rfl (lv_at hl 0 rfl) ?_
    refine xgetA hx hb htb i_LogCleanerModel hown hK hP (ci := 4) rfl 2 (by decide) (htb _ k_LogCleanerModel_7) (fun _ h9 => h9) hw d_LogCleanerModel_isOver_11 (fun r4 hw => ?_)
    refine lv_iload_n hx hb d_LogCleanerModel_isOver_14 rfl (lv_at hl 1 rfl) ?_
    obtain ⟨p5, hpe, hw⟩ := hw
    revert hw
    revert hl
    subst hpe
    intro hl hw
    replace hl : lv_has ls 5 [(0, .ref a0), (1, .int a1), (2, .int a2)] := hl
    refine xldi hx hb hK hP 2 rfl hw d_LogCleanerModel_isOver_15 (fun v6 hw => ?_)
    obtain ⟨⟨_, hw0⟩, hw⟩ := hw
    refine xcalli (va_runV (b := a0) (As := [.int v6]) (rest := []) ⟨hx, hb, hml, hown, htb⟩ (m_LogCleanerModel_isClosed l D d h _ a0 v6 _ hw) (xcwV 1 htb g_code_LogCleanerModel_isClosed g_ini_LogCleanerModel k_LogCleanerModel_92 g_im_LogCleanerModel_isClosed g_sel_LogCleanerModel_isClosed rfl rfl (by decide +kernel) ⟨(Nat.le_of_ble_eq_true rfl), (Nat.le_of_ble_eq_true rfl)⟩) (xpreV hP hK hNB (ci := 4) rfl hw0) rfl rfl hl.1 rfl (lv_room (Nat.le_of_ble_eq_true rfl)) d_LogCleanerModel_isOver_16 ⟨(Nat.le_of_ble_eq_true rfl), (Nat.le_of_ble_eq_true rfl)⟩) hP hS hA (fun r8 h7 H locs hw hP hS => ?_)
    refine W.widen (k := 0) (n := 0) (Nat.le_of_ble_eq_true rfl) (Nat.le_of_ble_eq_true rfl) ?_
    refine lv_if_ne (tgt := 24) hx hb d_LogCleanerModel_isOver_19 (by decide) (fun cq => ?_) (fun cq => ?_)
    · replace hw := hw.2 cq
      refine lv_iconst (v := 0) hx hb d_LogCleanerModel_isOver_24 (by decide) ?_
      refine lv_istore_n (lv' := [(3, .int 0), (0, .ref a0), (1, .int a1), (2, .int a2)]) hx hb d_LogCleanerModel_isOver_25 rfl hl (by decide) rfl (fun ls hl => ?_)
      refine lv_iload_n hx hb d_LogCleanerModel_isOver_26 rfl (lv_at hl 2 rfl) ?_
      refine lv_iconst (v := 1) hx hb d_LogCleanerModel_isOver_27 (by decide) ?_
      refine lv_iadd hx hb d_LogCleanerModel_isOver_28 ?_
      refine lv_istore (lv' := [(4, .int (a1 + 1)), (3, .int 0), (0, .ref a0), (1, .int a1), (2, .int a2)]) hx hb d_LogCleanerModel_isOver_29 hl (by decide) rfl (fun ls hl => ?_)
      obtain ⟨n, hw⟩ := hw
      exact sl_LogCleanerModel_isOver_31 C0 n (a0, a1, a2, 0, (a1 + 1)) h7 _ _ _ hw hP hS (lv_sub hl [2, 3, 4, 1, 0] rfl)
    · replace hw := hw.1 cq
      exact sb_LogCleanerModel_isOver_22 C0  h7 _ _ _ hw hP hS (lv_sub hl [] rfl)

theorem d_LogCleanerModel_isKnown_0 : decode b_LogCleanerModel_isKnown 0 = .ok (.iconst 0, 1) := by decide +kernel
theorem d_LogCleanerModel_isKnown_1 : decode b_LogCleanerModel_isKnown 1 = .ok (.istore_n 2, 1) := by decide +kernel
theorem d_LogCleanerModel_isKnown_2 : decode b_LogCleanerModel_isKnown 2 = .ok (.iload_n 1, 1) := by decide +kernel
theorem d_LogCleanerModel_isKnown_3 : decode b_LogCleanerModel_isKnown 3 = .ok (.iconst 1, 1) := by decide +kernel
theorem d_LogCleanerModel_isKnown_4 : decode b_LogCleanerModel_isKnown 4 = .ok (.iadd, 1) := by decide +kernel
theorem d_LogCleanerModel_isKnown_5 : decode b_LogCleanerModel_isKnown 5 = .ok (.istore_n 3, 1) := by decide +kernel
theorem d_LogCleanerModel_isKnown_6 : decode b_LogCleanerModel_isKnown 6 = .ok (.iload_n 3, 1) := by decide +kernel
theorem d_LogCleanerModel_isKnown_7 : decode b_LogCleanerModel_isKnown 7 = .ok (.aload_n 0, 1) := by decide +kernel
theorem d_LogCleanerModel_isKnown_8 : decode b_LogCleanerModel_isKnown 8 = .ok (.getfield 82, 3) := by decide +kernel
theorem d_LogCleanerModel_isKnown_11 : decode b_LogCleanerModel_isKnown 11 = .ok (.if_icmp .ge 32, 3) := by decide +kernel
theorem d_LogCleanerModel_isKnown_14 : decode b_LogCleanerModel_isKnown 14 = .ok (.iload_n 2, 1) := by decide +kernel
theorem d_LogCleanerModel_isKnown_15 : decode b_LogCleanerModel_isKnown 15 = .ok (.aload_n 0, 1) := by decide +kernel
theorem d_LogCleanerModel_isKnown_16 : decode b_LogCleanerModel_isKnown 16 = .ok (.getfield 51, 3) := by decide +kernel
theorem d_LogCleanerModel_isKnown_19 : decode b_LogCleanerModel_isKnown 19 = .ok (.iload_n 3, 1) := by decide +kernel
theorem d_LogCleanerModel_isKnown_20 : decode b_LogCleanerModel_isKnown 20 = .ok (.iaload, 1) := by decide +kernel
theorem d_LogCleanerModel_isKnown_21 : decode b_LogCleanerModel_isKnown 21 = .ok (.aload_n 0, 1) := by decide +kernel
theorem d_LogCleanerModel_isKnown_22 : decode b_LogCleanerModel_isKnown 22 = .ok (.getfield 51, 3) := by decide +kernel
theorem d_LogCleanerModel_isKnown_25 : decode b_LogCleanerModel_isKnown 25 = .ok (.iload_n 1, 1) := by decide +kernel
theorem d_LogCleanerModel_isKnown_26 : decode b_LogCleanerModel_isKnown 26 = .ok (.iaload, 1) := by decide +kernel
theorem d_LogCleanerModel_isKnown_27 : decode b_LogCleanerModel_isKnown 27 = .ok (.if_icmp .ne 7, 3) := by decide +kernel
theorem d_LogCleanerModel_isKnown_30 : decode b_LogCleanerModel_isKnown 30 = .ok (.iconst 1, 1) := by decide +kernel
theorem d_LogCleanerModel_isKnown_31 : decode b_LogCleanerModel_isKnown 31 = .ok (.goto 4, 3) := by decide +kernel
theorem d_LogCleanerModel_isKnown_34 : decode b_LogCleanerModel_isKnown 34 = .ok (.iconst 0, 1) := by decide +kernel
theorem d_LogCleanerModel_isKnown_35 : decode b_LogCleanerModel_isKnown 35 = .ok (.iadd, 1) := by decide +kernel
theorem d_LogCleanerModel_isKnown_36 : decode b_LogCleanerModel_isKnown 36 = .ok (.istore_n 2, 1) := by decide +kernel
theorem d_LogCleanerModel_isKnown_37 : decode b_LogCleanerModel_isKnown 37 = .ok (.iinc 3 1, 3) := by decide +kernel
theorem d_LogCleanerModel_isKnown_40 : decode b_LogCleanerModel_isKnown 40 = .ok (.goto (-34), 3) := by decide +kernel
theorem d_LogCleanerModel_isKnown_43 : decode b_LogCleanerModel_isKnown 43 = .ok (.aload_n 0, 1) := by decide +kernel
theorem d_LogCleanerModel_isKnown_44 : decode b_LogCleanerModel_isKnown 44 = .ok (.getfield 51, 3) := by decide +kernel
theorem d_LogCleanerModel_isKnown_47 : decode b_LogCleanerModel_isKnown 47 = .ok (.iload_n 1, 1) := by decide +kernel
theorem d_LogCleanerModel_isKnown_48 : decode b_LogCleanerModel_isKnown 48 = .ok (.iaload, 1) := by decide +kernel
theorem d_LogCleanerModel_isKnown_49 : decode b_LogCleanerModel_isKnown 49 = .ok (.ifCond .lt 12, 3) := by decide +kernel
theorem d_LogCleanerModel_isKnown_52 : decode b_LogCleanerModel_isKnown 52 = .ok (.iload_n 2, 1) := by decide +kernel
theorem d_LogCleanerModel_isKnown_53 : decode b_LogCleanerModel_isKnown 53 = .ok (.iconst 2, 1) := by decide +kernel
theorem d_LogCleanerModel_isKnown_54 : decode b_LogCleanerModel_isKnown 54 = .ok (.if_icmp .ge 7, 3) := by decide +kernel
theorem d_LogCleanerModel_isKnown_57 : decode b_LogCleanerModel_isKnown 57 = .ok (.iconst 1, 1) := by decide +kernel
theorem d_LogCleanerModel_isKnown_58 : decode b_LogCleanerModel_isKnown 58 = .ok (.goto 4, 3) := by decide +kernel
theorem d_LogCleanerModel_isKnown_61 : decode b_LogCleanerModel_isKnown 61 = .ok (.iconst 0, 1) := by decide +kernel
theorem d_LogCleanerModel_isKnown_62 : decode b_LogCleanerModel_isKnown 62 = .ok (.ireturn, 1) := by decide +kernel
def rm_LogCleanerModel_isKnown : Room := { frames := 0, cells := 0, slots := 0, locals := 0 }
def ws_LogCleanerModel_isKnown : List Cond := Cond.code y_LogCleanerModel_isKnown b_LogCleanerModel_isKnown 4 (some .boolean) :: TB
set_option maxHeartbeats 4000000 in
set_option maxRecDepth 100000 in
theorem sb_LogCleanerModel_isKnown_62 {p : Program} {l : Launch} {e : Env} {s : State} {m : MethodId} {args : Array Value} {below : List Frame} {meth : Method} {c : Code} {D : va_G} {d : Nat → ClassId} {A : Nat → Prop} {h0 : xw} {Q : Int32 → xw → Prop} (C0 : xctx p s m args meth c b_LogCleanerModel_isKnown 4 (some .boolean) R_LogCleanerModel D d A True) : ∀ (s0 : Int32) (h : xw) (H : Heap) (locs : List Loc) (ls : Array Slot), wb_LogCleanerModel_isKnown_62 d Q  s0 h → xR sgM h0 D A h H → va_S A s.heap H locs → lv_has ls 4 [] → W p l e rm_LogCleanerModel_isKnown s m args below meth c H locs 0 0 (MQ below (va_Qi (fun r u => Q r u ∧ xfr sgM h0 u) (xB D d A) A) args s 0 0 A) (F0 m 62 ls [.int s0]) := by
  obtain ⟨hx, hb, hr, hml, hown, htb, hK, hA, hNB, hlocks, hXT⟩ := id C0
  intro  s0 h H locs ls hw hP hS hl
  refine W.widen (k := 0) (n := 0) (Nat.le_of_ble_eq_true rfl) (Nat.le_of_ble_eq_true rfl) ?_
  exact xretZ C0 hw hP hS d_LogCleanerModel_isKnown_62

set_option maxHeartbeats 4000000 in
set_option maxRecDepth 100000 in
theorem sb_LogCleanerModel_isKnown_61 {p : Program} {l : Launch} {e : Env} {s : State} {m : MethodId} {args : Array Value} {below : List Frame} {meth : Method} {c : Code} {D : va_G} {d : Nat → ClassId} {A : Nat → Prop} {h0 : xw} {Q : Int32 → xw → Prop} (C0 : xctx p s m args meth c b_LogCleanerModel_isKnown 4 (some .boolean) R_LogCleanerModel D d A True) : ∀ (h : xw) (H : Heap) (locs : List Loc) (ls : Array Slot), wb_LogCleanerModel_isKnown_61 d Q  h → xR sgM h0 D A h H → va_S A s.heap H locs → lv_has ls 4 [] → W p l e rm_LogCleanerModel_isKnown s m args below meth c H locs 0 0 (MQ below (va_Qi (fun r u => Q r u ∧ xfr sgM h0 u) (xB D d A) A) args s 0 0 A) (F0 m 61 ls []) := by
  obtain ⟨hx, hb, hr, hml, hown, htb, hK, hA, hNB, hlocks, hXT⟩ := id C0
  intro  h H locs ls hw hP hS hl
  refine lv_iconst (v := 0) hx hb d_LogCleanerModel_isKnown_61 (by decide) ?_
  exact sb_LogCleanerModel_isKnown_62 C0 0 h _ _ _ hw hP hS (lv_sub hl [] rfl)

set_option maxHeartbeats 4000000 in
set_option maxRecDepth 100000 in
theorem sb_LogCleanerModel_isKnown_35 {p : Program} {l : Launch} {e : Env} {s : State} {m : MethodId} {args : Array Value} {below : List Frame} {meth : Method} {c : Code} {D : va_G} {d : Nat → ClassId} {A : Nat → Prop} {h0 : xw} {Q : Int32 → xw → Prop} {k6 : Nat → Int32 → Int32 → Int32 → xw → Prop} (C0 : xctx p s m args meth c b_LogCleanerModel_isKnown 4 (some .boolean) R_LogCleanerModel D d A True) (hk6 : ∀ (x0 : Nat) (x1 : Int32) (x2 : Int32) (x3 : Int32) (h : xw) (H : Heap) (locs : List Loc) (ls : Array Slot), k6 x0 x1 x2 x3 h → xR sgM h0 D A h H → va_S A s.heap H locs → lv_has ls 4 [(0, .ref x0), (1, .int x1), (2, .int x2), (3, .int x3)] → W p l e rm_LogCleanerModel_isKnown s m args below meth c H locs 0 0 (MQ below (va_Qi (fun r u => Q r u ∧ xfr sgM h0 u) (xB D d A) A) args s 0 0 A) (F0 m 6 ls [])) : ∀ (x0 : Nat) (x1 : Int32) (x3 : Int32) (s0 : Int32) (s1 : Int32) (h : xw) (H : Heap) (locs : List Loc) (ls : Array Slot), wb_LogCleanerModel_isKnown_35 d k6 Q x0 x1 x3 s0 s1 h → xR sgM h0 D A h H → va_S A s.heap H locs → lv_has ls 4 [(0, .ref x0), (1, .int x1), (3, .int x3)] → W p l e rm_LogCleanerModel_isKnown s m args below meth c H locs 0 0 (MQ below (va_Qi (fun r u => Q r u ∧ xfr sgM h0 u) (xB D d A) A) args s 0 0 A) (F0 m 35 ls [.int s0, .int s1]) := by
  obtain ⟨hx, hb, hr, hml, hown, htb, hK, hA, hNB, hlocks, hXT⟩ := id C0
  intro x0 x1 x3 s0 s1 h H locs ls hw hP hS hl
  refine lv_iadd hx hb d_LogCleanerModel_isKnown_35 ?_
  refine lv_istore_n (lv' := [(2, .int (s1 + s0)), (0, .ref x0), (1, .int x1), (3, .int x3)]) hx hb d_LogCleanerModel_isKnown_36 rfl hl (by decide) rfl (fun ls hl => ?_)
  refine lv_iinc (v := x3 + 1) (lv' := [(3, .int (x3 + 1)), (2, .int (s1 + s0)), (0, .ref x0), (1, .int x1)]) hx hb d_LogCleanerModel_isKnown_37 hl (k := 3) rfl rfl (by decide) rfl (fun ls hl => ?_)
  refine lv_goto (tgt := 6) hx hb d_LogCleanerModel_isKnown_40 (by decide) ?_
  exact hk6 x0 x1 (s1 + s0) (x3 + 1) h _ _ _ hw hP hS (lv_sub hl [2, 3, 1, 0] rfl)

set_option maxHeartbeats 4000000 in
set_option maxRecDepth 100000 in
theorem sl_LogCleanerModel_isKnown_6 {p : Program} {l : Launch} {e : Env} {s : State} {m : MethodId} {args : Array Value} {below : List Frame} {meth : Method} {c : Code} {D : va_G} {d : Nat → ClassId} {A : Nat → Prop} {h0 : xw} {Q : Int32 → xw → Prop} (C0 : xctx p s m args meth c b_LogCleanerModel_isKnown 4 (some .boolean) R_LogCleanerModel D d A True) : ∀ (n : Nat) (x : Nat × Int32 × Int32 × Int32) (h : xw) (H : Heap) (locs : List Loc) (ls : Array Slot), xloop (fun (k : Nat × Int32 × Int32 × Int32 → xw → Prop) (x : Nat × Int32 × Int32 × Int32) (h : xw) => wc_LogCleanerModel_isKnown_6 d Q (fun y0 y1 y2 y3 h => k (y0, y1, y2, y3) h) x.1 x.2.1 x.2.2.1 x.2.2.2 h) n x h → xR sgM h0 D A h H → va_S A s.heap H locs → lv_has ls 4 [(0, .ref x.1), (1, .int x.2.1), (2, .int x.2.2.1), (3, .int x.2.2.2)] → W p l e rm_LogCleanerModel_isKnown s m args below meth c H locs 0 0 (MQ below (va_Qi (fun r u => Q r u ∧ xfr sgM h0 u) (xB D d A) A) args s 0 0 A) (F0 m 6 ls []) := by
  obtain ⟨hx, hb, hr, hml, hown, htb, hK, hA, hNB, hlocks, hXT⟩ := id C0
  intro n
  induction n with
  | zero => intro x h H locs ls hw; exact hw.elim
  | succ n ih =>
    rintro ⟨x0, x1, x2, x3⟩ h H locs ls hw hP hS hl
    replace hw : wc_LogCleanerModel_isKnown_6 d Q (fun y0 y1 y2 y3 h => xloop (fun (k : Nat × Int32 × Int32 × Int32 → xw → Prop) (x : Nat × Int32 × Int32 × Int32) (h : xw) => wc_LogCleanerModel_isKnown_6 d Q (fun y0 y1 y2 y3 h => k (y0, y1, y2, y3) h) x.1 x.2.1 x.2.2.1 x.2.2.2 h) n (y0, y1, y2, y3) h) x0 x1 x2 x3 h := hw
    have hk6 := fun (x0 : Nat) (x1 : Int32) (x2 : Int32) (x3 : Int32) => ih (x0, x1, x2, x3)
    refine lv_iload_n hx hb d_LogCleanerModel_isKnown_6 rfl (lv_at hl 3 rfl) ?_
    refine lv_aload_n hx hb d_LogCleanerModel_isKnown_7 rfl (lv_at hl 0 rfl) ?_
    refine xgetI hx hb htb i_LogCleanerModel hown hK hP (ci := 4) rfl 16 (by decide) (htb _ k_LogCleanerModel_82) (fun _ h9 => h9) hw d_LogCleanerModel_isKnown_8 (fun v1 hw => ?_)
    refine lv_icmp_ge (tgt := 43) hx hb d_LogCleanerModel_isKnown_11 (by decide) (fun cq => ?_) (fun cq => ?_)
    · replace hw := hw.1 cq
      refine lv_aload_n hx hb d_LogCleanerModel_isKnown_43 rfl (lv_at hl 0 rfl) ?_
      refine xgetA hx hb htb i_LogCleanerModel hown hK hP (ci := 4) rfl 18 (by decide) (htb _ k_LogCleanerModel_51) (fun _ h9 => h9) hw d_LogCleanerModel_isKnown_44 (fun r2 hw => ?_)
      refine lv_iload_n hx hb d_LogCleanerModel_isKnown_47 rfl (lv_at hl 1 rfl) ?_
      obtain ⟨p3, hpe, hw⟩ := hw
      revert hw
      revert hl
      subst hpe
      intro hl hw
      replace hl : lv_has ls 4 [(0, .ref x0), (1, .int x1), (2, .int x2), (3, .int x3)] := hl
      refine xldi hx hb hK hP 2 rfl hw d_LogCleanerModel_isKnown_48 (fun v4 hw => ?_)
      refine lv_if_lt (tgt := 61) hx hb d_LogCleanerModel_isKnown_49 (by decide) (fun cq => ?_) (fun cq => ?_)
      · replace hw := hw.1 cq
        exact sb_LogCleanerModel_isKnown_61 C0  h _ _ _ hw hP hS (lv_sub hl [] rfl)
      · replace hw := hw.2 cq
        refine lv_iload_n hx hb d_LogCleanerModel_isKnown_52 rfl (lv_at hl 2 rfl) ?_
        refine lv_iconst (v := 2) hx hb d_LogCleanerModel_isKnown_53 (by decide) ?_
        refine lv_icmp_ge (tgt := 61) hx hb d_LogCleanerModel_isKnown_54 (by decide) (fun cq => ?_) (fun cq => ?_)
        · replace hw := hw.1 cq
          exact sb_LogCleanerModel_isKnown_61 C0  h _ _ _ hw hP hS (lv_sub hl [] rfl)
        · replace hw := hw.2 cq
          refine lv_iconst (v := 1) hx hb d_LogCleanerModel_isKnown_57 (by decide) ?_
          refine lv_goto (tgt := 62) hx hb d_LogCleanerModel_isKnown_58 (by decide) ?_
          exact sb_LogCleanerModel_isKnown_62 C0 1 h _ _ _ hw hP hS (lv_sub hl [] rfl)
    · replace hw := hw.2 cq
      refine lv_iload_n hx hb d_LogCleanerModel_isKnown_14 rfl (lv_at hl 2 rfl) ?_
      refine lv_aload_n hx hb d_LogCleanerModel_isKnown_15 rfl (lv_at hl 0 rfl) ?_
      refine xgetA hx hb htb i_LogCleanerModel hown hK hP (ci := 4) rfl 18 (by decide) (htb _ k_LogCleanerModel_51) (fun _ h9 => h9) hw d_LogCleanerModel_isKnown_16 (fun r5 hw => ?_)
      refine lv_iload_n hx hb d_LogCleanerModel_isKnown_19 rfl (lv_at hl 3 rfl) ?_
      obtain ⟨p6, hpe, hw⟩ := hw
      revert hw
      revert hl
      subst hpe
      intro hl hw
      replace hl : lv_has ls 4 [(0, .ref x0), (1, .int x1), (2, .int x2), (3, .int x3)] := hl
      refine xldi hx hb hK hP 2 rfl hw d_LogCleanerModel_isKnown_20 (fun v7 hw => ?_)
      refine lv_aload_n hx hb d_LogCleanerModel_isKnown_21 rfl (lv_at hl 0 rfl) ?_
      refine xgetA hx hb htb i_LogCleanerModel hown hK hP (ci := 4) rfl 18 (by decide) (htb _ k_LogCleanerModel_51) (fun _ h9 => h9) hw d_LogCleanerModel_isKnown_22 (fun r8 hw => ?_)
      refine lv_iload_n hx hb d_LogCleanerModel_isKnown_25 rfl (lv_at hl 1 rfl) ?_
      obtain ⟨p9, hpe, hw⟩ := hw
      revert hw
      revert hl
      subst hpe
      intro hl hw
      replace hl : lv_has ls 4 [(0, .ref x0), (1, .int x1), (2, .int x2), (3, .int x3)] := hl
      refine xldi hx hb hK hP 2 rfl hw d_LogCleanerModel_isKnown_26 (fun v10 hw => ?_)
      refine lv_icmp_ne (tgt := 34) hx hb d_LogCleanerModel_isKnown_27 (by decide) (fun cq => ?_) (fun cq => ?_)
      · replace hw := hw.2 cq
        refine lv_iconst (v := 0) hx hb d_LogCleanerModel_isKnown_34 (by decide) ?_
        exact sb_LogCleanerModel_isKnown_35 C0 hk6 x0 x1 x3 0 x2 h _ _ _ hw hP hS (lv_sub hl [0, 1, 3] rfl)
      · replace hw := hw.1 cq
        refine lv_iconst (v := 1) hx hb d_LogCleanerModel_isKnown_30 (by decide) ?_
        refine lv_goto (tgt := 35) hx hb d_LogCleanerModel_isKnown_31 (by decide) ?_
        exact sb_LogCleanerModel_isKnown_35 C0 hk6 x0 x1 x3 1 x2 h _ _ _ hw hP hS (lv_sub hl [0, 1, 3] rfl)

set_option maxHeartbeats 4000000 in
set_option maxRecDepth 100000 in
theorem m_LogCleanerModel_isKnown (l : Launch) (D : va_G) (d : Nat → ClassId) (h : xw) (sz : Nat) (a0 : Nat) (a1 : Int32) (Q : Int32 → xw → Prop) (hw : wp_LogCleanerModel_isKnown d h a0 a1 Q) : Met l y_LogCleanerModel_isKnown ws_LogCleanerModel_isKnown rm_LogCleanerModel_isKnown (xPre D d h [.ref a0, .int a1] sz) (va_Qi (fun r u => Q r u ∧ xfr sgM h u) (xB D d (xA h sz)) (xA h sz)) 0 0 (xA h sz) := by
  refine Met.ofW (cc := b_LogCleanerModel_isKnown) (maxL := 4) (ret := (some .boolean)) (by decide) rfl ?_
  intro p e s m args below meth c s₁ B hml hv
  obtain ⟨rfl, hsz, hP0, hK, hNB⟩ := hv
  have hts := atoms_spec (ws := ws_LogCleanerModel_isKnown) B.pre
  have htb := fun w (hw9 : w ∈ TB) => hts w (List.mem_cons_of_mem _ hw9)
  have hown : s.vm.findClass R_LogCleanerModel = some m.cls := findClass_of_methodNamed B.named
  subst hsz
  obtain ⟨A, hAe⟩ : ∃ A, A = xA h s.heap.size := ⟨_, rfl⟩
  rw [← hAe]
  have hP : xR sgM h D A h s.heap := ⟨by rw [hAe]; exact hP0.self, xfr.rf⟩
  have hA : ∀ q, s.heap.size ≤ q → A q := fun q hq => by rw [hAe]; exact Or.inr hq
  have hS : va_S A s.heap s.heap [] := va_S.rf
  have C0 : xctx p s m ([.ref a0, .int a1] : List Value).toArray meth c b_LogCleanerModel_isKnown 4 (some .boolean) R_LogCleanerModel D d A True := ⟨B.exec, B.bytes, B.returns, hml, hown, htb, hK, hA, hNB, B.notSynchronized, trivial⟩
  obtain ⟨hx, hb, hr, -, -, -, -, -, -, hlocks, hXT⟩ := id C0
  have hl := lv_entry ([.ref a0, .int a1] : List Value) (n := 4) (Nat.le_of_ble_eq_true rfl)
  rw [lg_entry_eq]
  generalize (lg_sl ([.ref a0, .int a1] : List Value) ++ List.replicate (4 - (lg_sl ([.ref a0, .int a1] : List Value)).length) Slot.unset).toArray = ls at hl ⊢
  have hl : lv_has ls 4 [(0, .ref a0), (1, .int a1)] := hl
  refine lv_iconst (v := 0) hx hb d_LogCleanerModel_isKnown_0 (by decide) ?_
  refine lv_istore_n (lv' := [(2, .int 0), (0, .ref a0), (1, .int a1)]) hx hb d_LogCleanerModel_isKnown_1 rfl hl (by decide) rfl (fun ls hl => ?_)
  refine lv_iload_n hx hb d_LogCleanerModel_isKnown_2 rfl (lv_at hl 2 rfl) ?_
  refine lv_iconst (v := 1) hx hb d_LogCleanerModel_isKnown_3 (by decide) ?_
  refine lv_iadd hx hb d_LogCleanerModel_isKnown_4 ?_
  refine lv_istore_n (lv' := [(3, .int (a1 + 1)), (2, .int 0), (0, .ref a0), (1, .int a1)]) hx hb d_LogCleanerModel_isKnown_5 rfl hl (by decide) rfl (fun ls hl => ?_)
  obtain ⟨n, hw⟩ := hw
  exact sl_LogCleanerModel_isKnown_6 C0 n (a0, a1, 0, (a1 + 1)) h _ _ _ hw hP hS (lv_sub hl [2, 3, 1, 0] rfl)

