theorem d_LogCleanerModel_takeOut_0 : decode b_LogCleanerModel_takeOut 0 = .ok (.iconst 0, 1) := by decide +kernel
theorem d_LogCleanerModel_takeOut_1 : decode b_LogCleanerModel_takeOut 1 = .ok (.istore_n 1, 1) := by decide +kernel
theorem d_LogCleanerModel_takeOut_2 : decode b_LogCleanerModel_takeOut 2 = .ok (.iconst 0, 1) := by decide +kernel
theorem d_LogCleanerModel_takeOut_3 : decode b_LogCleanerModel_takeOut 3 = .ok (.istore_n 2, 1) := by decide +kernel
theorem d_LogCleanerModel_takeOut_4 : decode b_LogCleanerModel_takeOut 4 = .ok (.iload_n 2, 1) := by decide +kernel
theorem d_LogCleanerModel_takeOut_5 : decode b_LogCleanerModel_takeOut 5 = .ok (.aload_n 0, 1) := by decide +kernel
theorem d_LogCleanerModel_takeOut_6 : decode b_LogCleanerModel_takeOut 6 = .ok (.getfield 82, 3) := by decide +kernel
theorem d_LogCleanerModel_takeOut_9 : decode b_LogCleanerModel_takeOut 9 = .ok (.if_icmp .ge 64, 3) := by decide +kernel
theorem d_LogCleanerModel_takeOut_12 : decode b_LogCleanerModel_takeOut 12 = .ok (.aload_n 0, 1) := by decide +kernel
theorem d_LogCleanerModel_takeOut_13 : decode b_LogCleanerModel_takeOut 13 = .ok (.getfield 63, 3) := by decide +kernel
theorem d_LogCleanerModel_takeOut_16 : decode b_LogCleanerModel_takeOut 16 = .ok (.iload_n 2, 1) := by decide +kernel
theorem d_LogCleanerModel_takeOut_17 : decode b_LogCleanerModel_takeOut 17 = .ok (.iload_n 1, 1) := by decide +kernel
theorem d_LogCleanerModel_takeOut_18 : decode b_LogCleanerModel_takeOut 18 = .ok (.iastore, 1) := by decide +kernel
theorem d_LogCleanerModel_takeOut_19 : decode b_LogCleanerModel_takeOut 19 = .ok (.aload_n 0, 1) := by decide +kernel
theorem d_LogCleanerModel_takeOut_20 : decode b_LogCleanerModel_takeOut 20 = .ok (.getfield 60, 3) := by decide +kernel
theorem d_LogCleanerModel_takeOut_23 : decode b_LogCleanerModel_takeOut 23 = .ok (.iload_n 2, 1) := by decide +kernel
theorem d_LogCleanerModel_takeOut_24 : decode b_LogCleanerModel_takeOut 24 = .ok (.baload, 1) := by decide +kernel
theorem d_LogCleanerModel_takeOut_25 : decode b_LogCleanerModel_takeOut 25 = .ok (.ifCond .eq 42, 3) := by decide +kernel
theorem d_LogCleanerModel_takeOut_28 : decode b_LogCleanerModel_takeOut 28 = .ok (.aload_n 0, 1) := by decide +kernel
theorem d_LogCleanerModel_takeOut_29 : decode b_LogCleanerModel_takeOut 29 = .ok (.getfield 48, 3) := by decide +kernel
theorem d_LogCleanerModel_takeOut_32 : decode b_LogCleanerModel_takeOut 32 = .ok (.iload_n 1, 1) := by decide +kernel
theorem d_LogCleanerModel_takeOut_33 : decode b_LogCleanerModel_takeOut 33 = .ok (.aload_n 0, 1) := by decide +kernel
theorem d_LogCleanerModel_takeOut_34 : decode b_LogCleanerModel_takeOut 34 = .ok (.getfield 48, 3) := by decide +kernel
theorem d_LogCleanerModel_takeOut_37 : decode b_LogCleanerModel_takeOut 37 = .ok (.iload_n 2, 1) := by decide +kernel
theorem d_LogCleanerModel_takeOut_38 : decode b_LogCleanerModel_takeOut 38 = .ok (.iaload, 1) := by decide +kernel
theorem d_LogCleanerModel_takeOut_39 : decode b_LogCleanerModel_takeOut 39 = .ok (.iastore, 1) := by decide +kernel
theorem d_LogCleanerModel_takeOut_40 : decode b_LogCleanerModel_takeOut 40 = .ok (.aload_n 0, 1) := by decide +kernel
theorem d_LogCleanerModel_takeOut_41 : decode b_LogCleanerModel_takeOut 41 = .ok (.getfield 51, 3) := by decide +kernel
theorem d_LogCleanerModel_takeOut_44 : decode b_LogCleanerModel_takeOut 44 = .ok (.iload_n 1, 1) := by decide +kernel
theorem d_LogCleanerModel_takeOut_45 : decode b_LogCleanerModel_takeOut 45 = .ok (.aload_n 0, 1) := by decide +kernel
theorem d_LogCleanerModel_takeOut_46 : decode b_LogCleanerModel_takeOut 46 = .ok (.getfield 51, 3) := by decide +kernel
theorem d_LogCleanerModel_takeOut_49 : decode b_LogCleanerModel_takeOut 49 = .ok (.iload_n 2, 1) := by decide +kernel
theorem d_LogCleanerModel_takeOut_50 : decode b_LogCleanerModel_takeOut 50 = .ok (.iaload, 1) := by decide +kernel
theorem d_LogCleanerModel_takeOut_51 : decode b_LogCleanerModel_takeOut 51 = .ok (.iastore, 1) := by decide +kernel
theorem d_LogCleanerModel_takeOut_52 : decode b_LogCleanerModel_takeOut 52 = .ok (.aload_n 0, 1) := by decide +kernel
theorem d_LogCleanerModel_takeOut_53 : decode b_LogCleanerModel_takeOut 53 = .ok (.getfield 54, 3) := by decide +kernel
theorem d_LogCleanerModel_takeOut_56 : decode b_LogCleanerModel_takeOut 56 = .ok (.iload_n 1, 1) := by decide +kernel
theorem d_LogCleanerModel_takeOut_57 : decode b_LogCleanerModel_takeOut 57 = .ok (.aload_n 0, 1) := by decide +kernel
theorem d_LogCleanerModel_takeOut_58 : decode b_LogCleanerModel_takeOut 58 = .ok (.getfield 54, 3) := by decide +kernel
theorem d_LogCleanerModel_takeOut_61 : decode b_LogCleanerModel_takeOut 61 = .ok (.iload_n 2, 1) := by decide +kernel
theorem d_LogCleanerModel_takeOut_62 : decode b_LogCleanerModel_takeOut 62 = .ok (.iaload, 1) := by decide +kernel
theorem d_LogCleanerModel_takeOut_63 : decode b_LogCleanerModel_takeOut 63 = .ok (.iastore, 1) := by decide +kernel
theorem d_LogCleanerModel_takeOut_64 : decode b_LogCleanerModel_takeOut 64 = .ok (.iinc 1 1, 3) := by decide +kernel
theorem d_LogCleanerModel_takeOut_67 : decode b_LogCleanerModel_takeOut 67 = .ok (.iinc 2 1, 3) := by decide +kernel
theorem d_LogCleanerModel_takeOut_70 : decode b_LogCleanerModel_takeOut 70 = .ok (.goto (-66), 3) := by decide +kernel
theorem d_LogCleanerModel_takeOut_73 : decode b_LogCleanerModel_takeOut 73 = .ok (.aload_n 0, 1) := by decide +kernel
theorem d_LogCleanerModel_takeOut_74 : decode b_LogCleanerModel_takeOut 74 = .ok (.iload_n 1, 1) := by decide +kernel
theorem d_LogCleanerModel_takeOut_75 : decode b_LogCleanerModel_takeOut 75 = .ok (.putfield 82, 3) := by decide +kernel
theorem d_LogCleanerModel_takeOut_78 : decode b_LogCleanerModel_takeOut 78 = .ok (.iconst 0, 1) := by decide +kernel
theorem d_LogCleanerModel_takeOut_79 : decode b_LogCleanerModel_takeOut 79 = .ok (.istore_n 2, 1) := by decide +kernel
theorem d_LogCleanerModel_takeOut_80 : decode b_LogCleanerModel_takeOut 80 = .ok (.iconst 0, 1) := by decide +kernel
theorem d_LogCleanerModel_takeOut_81 : decode b_LogCleanerModel_takeOut 81 = .ok (.istore_n 3, 1) := by decide +kernel
theorem d_LogCleanerModel_takeOut_82 : decode b_LogCleanerModel_takeOut 82 = .ok (.iload_n 3, 1) := by decide +kernel
theorem d_LogCleanerModel_takeOut_83 : decode b_LogCleanerModel_takeOut 83 = .ok (.aload_n 0, 1) := by decide +kernel
theorem d_LogCleanerModel_takeOut_84 : decode b_LogCleanerModel_takeOut 84 = .ok (.getfield 75, 3) := by decide +kernel
theorem d_LogCleanerModel_takeOut_87 : decode b_LogCleanerModel_takeOut 87 = .ok (.if_icmp .ge 110, 3) := by decide +kernel
theorem d_LogCleanerModel_takeOut_90 : decode b_LogCleanerModel_takeOut 90 = .ok (.aload_n 0, 1) := by decide +kernel
theorem d_LogCleanerModel_takeOut_91 : decode b_LogCleanerModel_takeOut 91 = .ok (.getfield 57, 3) := by decide +kernel
theorem d_LogCleanerModel_takeOut_94 : decode b_LogCleanerModel_takeOut 94 = .ok (.iload_n 3, 1) := by decide +kernel
theorem d_LogCleanerModel_takeOut_95 : decode b_LogCleanerModel_takeOut 95 = .ok (.baload, 1) := by decide +kernel
theorem d_LogCleanerModel_takeOut_96 : decode b_LogCleanerModel_takeOut 96 = .ok (.ifCond .ne 95, 3) := by decide +kernel
theorem d_LogCleanerModel_takeOut_99 : decode b_LogCleanerModel_takeOut 99 = .ok (.aload_n 0, 1) := by decide +kernel
theorem d_LogCleanerModel_takeOut_100 : decode b_LogCleanerModel_takeOut 100 = .ok (.getfield 7, 3) := by decide +kernel
theorem d_LogCleanerModel_takeOut_103 : decode b_LogCleanerModel_takeOut 103 = .ok (.iload_n 2, 1) := by decide +kernel
theorem d_LogCleanerModel_takeOut_104 : decode b_LogCleanerModel_takeOut 104 = .ok (.aload_n 0, 1) := by decide +kernel
theorem d_LogCleanerModel_takeOut_105 : decode b_LogCleanerModel_takeOut 105 = .ok (.getfield 63, 3) := by decide +kernel
theorem d_LogCleanerModel_takeOut_108 : decode b_LogCleanerModel_takeOut 108 = .ok (.aload_n 0, 1) := by decide +kernel
theorem d_LogCleanerModel_takeOut_109 : decode b_LogCleanerModel_takeOut 109 = .ok (.getfield 7, 3) := by decide +kernel
theorem d_LogCleanerModel_takeOut_112 : decode b_LogCleanerModel_takeOut 112 = .ok (.iload_n 3, 1) := by decide +kernel
theorem d_LogCleanerModel_takeOut_113 : decode b_LogCleanerModel_takeOut 113 = .ok (.iaload, 1) := by decide +kernel
theorem d_LogCleanerModel_takeOut_114 : decode b_LogCleanerModel_takeOut 114 = .ok (.iaload, 1) := by decide +kernel
theorem d_LogCleanerModel_takeOut_115 : decode b_LogCleanerModel_takeOut 115 = .ok (.iastore, 1) := by decide +kernel
theorem d_LogCleanerModel_takeOut_116 : decode b_LogCleanerModel_takeOut 116 = .ok (.aload_n 0, 1) := by decide +kernel
theorem d_LogCleanerModel_takeOut_117 : decode b_LogCleanerModel_takeOut 117 = .ok (.getfield 13, 3) := by decide +kernel
theorem d_LogCleanerModel_takeOut_120 : decode b_LogCleanerModel_takeOut 120 = .ok (.iload_n 2, 1) := by decide +kernel
theorem d_LogCleanerModel_takeOut_121 : decode b_LogCleanerModel_takeOut 121 = .ok (.aload_n 0, 1) := by decide +kernel
theorem d_LogCleanerModel_takeOut_122 : decode b_LogCleanerModel_takeOut 122 = .ok (.getfield 13, 3) := by decide +kernel
theorem d_LogCleanerModel_takeOut_125 : decode b_LogCleanerModel_takeOut 125 = .ok (.iload_n 3, 1) := by decide +kernel
theorem d_LogCleanerModel_takeOut_126 : decode b_LogCleanerModel_takeOut 126 = .ok (.iaload, 1) := by decide +kernel
theorem d_LogCleanerModel_takeOut_127 : decode b_LogCleanerModel_takeOut 127 = .ok (.iastore, 1) := by decide +kernel
theorem d_LogCleanerModel_takeOut_128 : decode b_LogCleanerModel_takeOut 128 = .ok (.aload_n 0, 1) := by decide +kernel
theorem d_LogCleanerModel_takeOut_129 : decode b_LogCleanerModel_takeOut 129 = .ok (.getfield 16, 3) := by decide +kernel
theorem d_LogCleanerModel_takeOut_132 : decode b_LogCleanerModel_takeOut 132 = .ok (.iload_n 2, 1) := by decide +kernel
theorem d_LogCleanerModel_takeOut_133 : decode b_LogCleanerModel_takeOut 133 = .ok (.aload_n 0, 1) := by decide +kernel
theorem d_LogCleanerModel_takeOut_134 : decode b_LogCleanerModel_takeOut 134 = .ok (.getfield 16, 3) := by decide +kernel
theorem d_LogCleanerModel_takeOut_137 : decode b_LogCleanerModel_takeOut 137 = .ok (.iload_n 3, 1) := by decide +kernel
theorem d_LogCleanerModel_takeOut_138 : decode b_LogCleanerModel_takeOut 138 = .ok (.laload, 1) := by decide +kernel
theorem d_LogCleanerModel_takeOut_139 : decode b_LogCleanerModel_takeOut 139 = .ok (.lastore, 1) := by decide +kernel
theorem d_LogCleanerModel_takeOut_140 : decode b_LogCleanerModel_takeOut 140 = .ok (.aload_n 0, 1) := by decide +kernel
theorem d_LogCleanerModel_takeOut_141 : decode b_LogCleanerModel_takeOut 141 = .ok (.getfield 20, 3) := by decide +kernel
theorem d_LogCleanerModel_takeOut_144 : decode b_LogCleanerModel_takeOut 144 = .ok (.iload_n 2, 1) := by decide +kernel
theorem d_LogCleanerModel_takeOut_145 : decode b_LogCleanerModel_takeOut 145 = .ok (.aload_n 0, 1) := by decide +kernel
theorem d_LogCleanerModel_takeOut_146 : decode b_LogCleanerModel_takeOut 146 = .ok (.getfield 20, 3) := by decide +kernel
theorem d_LogCleanerModel_takeOut_149 : decode b_LogCleanerModel_takeOut 149 = .ok (.iload_n 3, 1) := by decide +kernel
theorem d_LogCleanerModel_takeOut_150 : decode b_LogCleanerModel_takeOut 150 = .ok (.iaload, 1) := by decide +kernel
theorem d_LogCleanerModel_takeOut_151 : decode b_LogCleanerModel_takeOut 151 = .ok (.iastore, 1) := by decide +kernel
theorem d_LogCleanerModel_takeOut_152 : decode b_LogCleanerModel_takeOut 152 = .ok (.aload_n 0, 1) := by decide +kernel
theorem d_LogCleanerModel_takeOut_153 : decode b_LogCleanerModel_takeOut 153 = .ok (.getfield 23, 3) := by decide +kernel
theorem d_LogCleanerModel_takeOut_156 : decode b_LogCleanerModel_takeOut 156 = .ok (.iload_n 2, 1) := by decide +kernel
theorem d_LogCleanerModel_takeOut_157 : decode b_LogCleanerModel_takeOut 157 = .ok (.aload_n 0, 1) := by decide +kernel
theorem d_LogCleanerModel_takeOut_158 : decode b_LogCleanerModel_takeOut 158 = .ok (.getfield 23, 3) := by decide +kernel
theorem d_LogCleanerModel_takeOut_161 : decode b_LogCleanerModel_takeOut 161 = .ok (.iload_n 3, 1) := by decide +kernel
theorem d_LogCleanerModel_takeOut_162 : decode b_LogCleanerModel_takeOut 162 = .ok (.baload, 1) := by decide +kernel
theorem d_LogCleanerModel_takeOut_163 : decode b_LogCleanerModel_takeOut 163 = .ok (.bastore, 1) := by decide +kernel
theorem d_LogCleanerModel_takeOut_164 : decode b_LogCleanerModel_takeOut 164 = .ok (.aload_n 0, 1) := by decide +kernel
theorem d_LogCleanerModel_takeOut_165 : decode b_LogCleanerModel_takeOut 165 = .ok (.getfield 27, 3) := by decide +kernel
theorem d_LogCleanerModel_takeOut_168 : decode b_LogCleanerModel_takeOut 168 = .ok (.iload_n 2, 1) := by decide +kernel
theorem d_LogCleanerModel_takeOut_169 : decode b_LogCleanerModel_takeOut 169 = .ok (.aload_n 0, 1) := by decide +kernel
theorem d_LogCleanerModel_takeOut_170 : decode b_LogCleanerModel_takeOut 170 = .ok (.getfield 27, 3) := by decide +kernel
theorem d_LogCleanerModel_takeOut_173 : decode b_LogCleanerModel_takeOut 173 = .ok (.iload_n 3, 1) := by decide +kernel
theorem d_LogCleanerModel_takeOut_174 : decode b_LogCleanerModel_takeOut 174 = .ok (.laload, 1) := by decide +kernel
theorem d_LogCleanerModel_takeOut_175 : decode b_LogCleanerModel_takeOut 175 = .ok (.lastore, 1) := by decide +kernel
theorem d_LogCleanerModel_takeOut_176 : decode b_LogCleanerModel_takeOut 176 = .ok (.aload_n 0, 1) := by decide +kernel
theorem d_LogCleanerModel_takeOut_177 : decode b_LogCleanerModel_takeOut 177 = .ok (.getfield 30, 3) := by decide +kernel
theorem d_LogCleanerModel_takeOut_180 : decode b_LogCleanerModel_takeOut 180 = .ok (.iload_n 2, 1) := by decide +kernel
theorem d_LogCleanerModel_takeOut_181 : decode b_LogCleanerModel_takeOut 181 = .ok (.aload_n 0, 1) := by decide +kernel
theorem d_LogCleanerModel_takeOut_182 : decode b_LogCleanerModel_takeOut 182 = .ok (.getfield 30, 3) := by decide +kernel
theorem d_LogCleanerModel_takeOut_185 : decode b_LogCleanerModel_takeOut 185 = .ok (.iload_n 3, 1) := by decide +kernel
theorem d_LogCleanerModel_takeOut_186 : decode b_LogCleanerModel_takeOut 186 = .ok (.iaload, 1) := by decide +kernel
theorem d_LogCleanerModel_takeOut_187 : decode b_LogCleanerModel_takeOut 187 = .ok (.iastore, 1) := by decide +kernel
theorem d_LogCleanerModel_takeOut_188 : decode b_LogCleanerModel_takeOut 188 = .ok (.iinc 2 1, 3) := by decide +kernel
theorem d_LogCleanerModel_takeOut_191 : decode b_LogCleanerModel_takeOut 191 = .ok (.iinc 3 1, 3) := by decide +kernel
theorem d_LogCleanerModel_takeOut_194 : decode b_LogCleanerModel_takeOut 194 = .ok (.goto (-112), 3) := by decide +kernel
theorem d_LogCleanerModel_takeOut_197 : decode b_LogCleanerModel_takeOut 197 = .ok (.aload_n 0, 1) := by decide +kernel
theorem d_LogCleanerModel_takeOut_198 : decode b_LogCleanerModel_takeOut 198 = .ok (.getfield 75, 3) := by decide +kernel
theorem d_LogCleanerModel_takeOut_201 : decode b_LogCleanerModel_takeOut 201 = .ok (.iload_n 2, 1) := by decide +kernel
theorem d_LogCleanerModel_takeOut_202 : decode b_LogCleanerModel_takeOut 202 = .ok (.isub, 1) := by decide +kernel
theorem d_LogCleanerModel_takeOut_203 : decode b_LogCleanerModel_takeOut 203 = .ok (.istore_n 3, 1) := by decide +kernel
theorem d_LogCleanerModel_takeOut_204 : decode b_LogCleanerModel_takeOut 204 = .ok (.aload_n 0, 1) := by decide +kernel
theorem d_LogCleanerModel_takeOut_205 : decode b_LogCleanerModel_takeOut 205 = .ok (.iload_n 2, 1) := by decide +kernel
theorem d_LogCleanerModel_takeOut_206 : decode b_LogCleanerModel_takeOut 206 = .ok (.putfield 75, 3) := by decide +kernel
theorem d_LogCleanerModel_takeOut_209 : decode b_LogCleanerModel_takeOut 209 = .ok (.iload_n 3, 1) := by decide +kernel
theorem d_LogCleanerModel_takeOut_210 : decode b_LogCleanerModel_takeOut 210 = .ok (.ireturn, 1) := by decide +kernel
def rm_LogCleanerModel_takeOut : Room := { frames := 0, cells := 0, slots := 0, locals := 0 }
def ws_LogCleanerModel_takeOut : List Cond := Cond.code y_LogCleanerModel_takeOut b_LogCleanerModel_takeOut 4 (some .int) :: TB
set_option maxHeartbeats 4000000 in
set_option maxRecDepth 100000 in
theorem sb_LogCleanerModel_takeOut_191 {p : Program} {l : Launch} {e : Env} {s : State} {m : MethodId} {args : Array Value} {below : List Frame} {meth : Method} {c : Code} {D : va_G} {d : Nat → ClassId} {A : Nat → Prop} {h0 : xw} {Q : Int32 → xw → Prop} {k82 : Nat → Int32 → Int32 → xw → Prop} (C0 : xctx p s m args meth c b_LogCleanerModel_takeOut 4 (some .int) R_LogCleanerModel D d A True) (hk82 : ∀ (x0 : Nat) (x2 : Int32) (x3 : Int32) (h : xw) (H : Heap) (locs : List Loc) (ls : Array Slot), k82 x0 x2 x3 h → xR sgM h0 D A h H → va_S A s.heap H locs → lv_has ls 4 [(0, .ref x0), (2, .int x2), (3, .int x3)] → W p l e rm_LogCleanerModel_takeOut s m args below meth c H locs 0 0 (MQ below (va_Qi (fun r u => Q r u ∧ xfr sgM h0 u) (xB D d A) A) args s 0 0 A) (F0 m 82 ls [])) : ∀ (x0 : Nat) (x2 : Int32) (x3 : Int32) (h : xw) (H : Heap) (locs : List Loc) (ls : Array Slot), wb_LogCleanerModel_takeOut_191 d k82 Q x0 x2 x3 h → xR sgM h0 D A h H → va_S A s.heap H locs → lv_has ls 4 [(0, .ref x0), (2, .int x2), (3, .int x3)] → W p l e rm_LogCleanerModel_takeOut s m args below meth c H locs 0 0 (MQ below (va_Qi (fun r u => Q r u ∧ xfr sgM h0 u) (xB D d A) A) args s 0 0 A) (F0 m 191 ls []) := by
  obtain ⟨hx, hb, hr, hml, hown, htb, hK, hA, hNB, hlocks, hXT⟩ := id C0
  intro x0 x2 x3 h H locs ls hw hP hS hl
  refine lv_iinc (v := x3 + 1) (lv' := [(3, .int (x3 + 1)), (0, .ref x0), (2, .int x2)]) hx hb d_LogCleanerModel_takeOut_191 hl (k := 2) rfl rfl (by decide) rfl (fun ls hl => ?_)
  refine lv_goto (tgt := 82) hx hb d_LogCleanerModel_takeOut_194 (by decide) ?_
  exact hk82 x0 x2 (x3 + 1) h _ _ _ hw hP hS (lv_sub hl [1, 2, 0] rfl)

set_option maxHeartbeats 4000000 in
set_option maxRecDepth 100000 in
theorem sl_LogCleanerModel_takeOut_82 {p : Program} {l : Launch} {e : Env} {s : State} {m : MethodId} {args : Array Value} {below : List Frame} {meth : Method} {c : Code} {D : va_G} {d : Nat → ClassId} {A : Nat → Prop} {h0 : xw} {Q : Int32 → xw → Prop} (C0 : xctx p s m args meth c b_LogCleanerModel_takeOut 4 (some .int) R_LogCleanerModel D d A True) : ∀ (n : Nat) (x : Nat × Int32 × Int32) (h : xw) (H : Heap) (locs : List Loc) (ls : Array Slot), xloop (fun (k : Nat × Int32 × Int32 → xw → Prop) (x : Nat × Int32 × Int32) (h : xw) => wc_LogCleanerModel_takeOut_82 d Q (fun y0 y2 y3 h => k (y0, y2, y3) h) x.1 x.2.1 x.2.2 h) n x h → xR sgM h0 D A h H → va_S A s.heap H locs → lv_has ls 4 [(0, .ref x.1), (2, .int x.2.1), (3, .int x.2.2)] → W p l e rm_LogCleanerModel_takeOut s m args below meth c H locs 0 0 (MQ below (va_Qi (fun r u => Q r u ∧ xfr sgM h0 u) (xB D d A) A) args s 0 0 A) (F0 m 82 ls []) := by
  obtain ⟨hx, hb, hr, hml, hown, htb, hK, hA, hNB, hlocks, hXT⟩ := id C0
  intro n
  induction n with
  | zero => intro x h H locs ls hw; exact hw.elim
  | succ n ih =>
    rintro ⟨x0, x2, x3⟩ h H locs ls hw hP hS hl
    replace hw : wc_LogCleanerModel_takeOut_82 d Q (fun y0 y2 y3 h => xloop (fun (k : Nat × Int32 × Int32 → xw → Prop) (x : Nat × Int32 × Int32) (h : xw) => wc_LogCleanerModel_takeOut_82 d Q (fun y0 y2 y3 h => k (y0, y2, y3) h) x.1 x.2.1 x.2.2 h) n (y0, y2, y3) h) x0 x2 x3 h := hw
    have hk82 := fun (x0 : Nat) (x2 : Int32) (x3 : Int32) => ih (x0, x2, x3)
    refine lv_iload_n hx hb d_LogCleanerModel_takeOut_82 rfl (lv_at hl 2 rfl) ?_
    refine lv_aload_n hx hb d_LogCleanerModel_takeOut_83 rfl (lv_at hl 0 rfl) ?_
    refine xgetI hx hb htb i_LogCleanerModel hown hK hP (ci := 4) rfl 1 (by decide) (htb _ k_LogCleanerModel_75) (fun _ h9 => h9) hw d_LogCleanerModel_takeOut_84 (fun v3 hw => ?_)
    refine lv_icmp_ge (tgt := 197) hx hb d_LogCleanerModel_takeOut_87 (by decide) (fun cq => ?_) (fun cq => ?_)
    · replace hw := hw.1 cq
      refine lv_aload_n hx hb d_LogCleanerModel_takeOut_197 rfl (lv_at hl 0 rfl) ?_
      refine xgetI hx hb htb i_LogCleanerModel hown hK hP (ci := 4) rfl 1 (by decide) (htb _ k_LogCleanerModel_75) (fun _ h9 => h9) hw d_LogCleanerModel_takeOut_198 (fun v4 hw => ?_)
      refine lv_iload_n hx hb d_LogCleanerModel_takeOut_201 rfl (lv_at hl 1 rfl) ?_
      refine lv_isub hx hb d_LogCleanerModel_takeOut_202 ?_
      refine lv_istore_n (lv' := [(3, .int (v4 - x2)), (0, .ref x0), (2, .int x2)]) hx hb d_LogCleanerModel_takeOut_203 rfl hl (by decide) rfl (fun ls hl => ?_)
      refine lv_aload_n hx hb d_LogCleanerModel_takeOut_204 rfl (lv_at hl 1 rfl) ?_
      refine lv_iload_n hx hb d_LogCleanerModel_takeOut_205 rfl (lv_at hl 2 rfl) ?_
      refine xputI hx hb htb i_LogCleanerModel t_LogCleanerModel t_LogCleanerModel_ok n_LogCleanerModel hown hK hP hS (ci := 4) rfl (fun _ => rfl) 1 (by decide) (htb _ k_LogCleanerModel_75) (fun _ h9 => h9) rfl (by decide +kernel) hw d_LogCleanerModel_takeOut_206 (fun h5 H locs hw hP hS => ?_)
      refine lv_iload_n hx hb d_LogCleanerModel_takeOut_209 rfl (lv_at hl 0 rfl) ?_
      refine W.widen (k := 0) (n := 0) (Nat.le_of_ble_eq_true rfl) (Nat.le_of_ble_eq_true rfl) ?_
      exact xretI C0 hw hP hS d_LogCleanerModel_takeOut_210
    · replace hw := hw.2 cq
      refine lv_aload_n hx hb d_LogCleanerModel_takeOut_90 rfl (lv_at hl 0 rfl) ?_
      refine xgetA hx hb htb i_LogCleanerModel hown hK hP (ci := 4) rfl 20 (by decide) (htb _ k_LogCleanerModel_57) (fun _ h9 => h9) hw d_LogCleanerModel_takeOut_91 (fun r6 hw => ?_)
      refine lv_iload_n hx hb d_LogCleanerModel_takeOut_94 rfl (lv_at hl 2 rfl) ?_
      obtain ⟨p7, hpe, hw⟩ := hw
      revert hw
      revert hl
      subst hpe
      intro hl hw
      replace hl : lv_has ls 4 [(0, .ref x0), (2, .int x2), (3, .int x3)] := hl
      refine xldz hx hb hK hP 4 rfl hw d_LogCleanerModel_takeOut_95 (fun v8 hw => ?_)
      refine lv_if_ne (tgt := 191) hx hb d_LogCleanerModel_takeOut_96 (by decide) (fun cq => ?_) (fun cq => ?_)
      · replace hw := hw.2 cq
        exact sb_LogCleanerModel_takeOut_191 C0 hk82 x0 x2 x3 h _ _ _ hw hP hS (lv_sub hl [0, 1, 2] rfl)
      · replace hw := hw.1 cq
        refine lv_aload_n hx hb d_LogCleanerModel_takeOut_99 rfl (lv_at hl 0 rfl) ?_
        refine xgetA hx hb htb i_LogCleanerModel hown hK hP (ci := 4) rfl 2 (by decide) (htb _ k_LogCleanerModel_7) (fun _ h9 => h9) hw d_LogCleanerModel_takeOut_100 (fun r9 hw => ?_)
        refine lv_iload_n hx hb d_LogCleanerModel_takeOut_103 rfl (lv_at hl 1 rfl) ?_
        refine lv_aload_n hx hb d_LogCleanerModel_takeOut_104 rfl (lv_at hl 0 rfl) ?_
        refine xgetA hx hb htb i_LogCleanerModel hown hK hP (ci := 4) rfl 22 (by decide) (htb _ k_LogCleanerModel_63) (fun _ h9 => h9) hw d_LogCleanerModel_takeOut_105 (fun r10 hw => ?_)
        refine lv_aload_n hx hb d_LogCleanerModel_takeOut_108 rfl (lv_at hl 0 rfl) ?_
        refine xgetA hx hb htb i_LogCleanerModel hown hK hP (ci := 4) rfl 2 (by decide) (htb _ k_LogCleanerModel_7) (fun _ h9 => h9) hw d_LogCleanerModel_takeOut_109 (fun r11 hw => ?_)
        refine lv_iload_n hx hb d_LogCleanerModel_takeOut_112 rfl (lv_at hl 2 rfl) ?_
        obtain ⟨p12, hpe, hw⟩ := hw
        revert hw
        revert hl
        subst hpe
        intro hl hw
        replace hl : lv_has ls 4 [(0, .ref x0), (2, .int x2), (3, .int x3)] := hl
        refine xldi hx hb hK hP 2 rfl hw d_LogCleanerModel_takeOut_113 (fun v13 hw => ?_)
        obtain ⟨p14, hpe, hw⟩ := hw
        revert hw
        revert hl
        subst hpe
        intro hl hw
        replace hl : lv_has ls 4 [(0, .ref x0), (2, .int x2), (3, .int x3)] := hl
        refine xldi hx hb hK hP 2 rfl hw d_LogCleanerModel_takeOut_114 (fun v15 hw => ?_)
        obtain ⟨p16, hpe, hw⟩ := hw
        revert hw
        revert hl
        subst hpe
        intro hl hw
        replace hl : lv_has ls 4 [(0, .ref x0), (2, .int x2), (3, .int x3)] := hl
        refine xsti hx hb hK hP hS 2 rfl (fun _ _ => rfl) hw d_LogCleanerModel_takeOut_115 (fun h17 H locs hw hP hS => ?_)
        refine lv_aload_n hx hb d_LogCleanerModel_takeOut_116 rfl (lv_at hl 0 rfl) ?_
        refine xgetA hx hb htb i_LogCleanerModel hown hK hP (ci := 4) rfl 3 (by decide) (htb _ k_LogCleanerModel_13) (fun _ h9 => h9) hw d_LogCleanerModel_takeOut_117 (fun r18 hw => ?_)
        refine lv_iload_n hx hb d_LogCleanerModel_takeOut_120 rfl (lv_at hl 1 rfl) ?_
        refine lv_aload_n hx hb d_LogCleanerModel_takeOut_121 rfl (lv_at hl 0 rfl) ?_
        refine xgetA hx hb htb i_LogCleanerModel hown hK hP (ci := 4) rfl 3 (by decide) (htb _ k_LogCleanerModel_13) (fun _ h9 => h9) hw d_LogCleanerModel_takeOut_122 (fun r19 hw => ?_)
        refine lv_iload_n hx hb d_LogCleanerModel_takeOut_125 rfl (lv_at hl 2 rfl) ?_
        obtain ⟨p20, hpe, hw⟩ := hw
        revert hw
        revert hl
        subst hpe
        intro hl hw
        replace hl : lv_has ls 4 [(0, .ref x0), (2, .int x2), (3, .int x3)] := hl
        refine xldi hx hb hK hP 2 rfl hw d_LogCleanerModel_takeOut_126 (fun v21 hw => ?_)
        obtain ⟨p22, hpe, hw⟩ := hw
        revert hw
        revert hl
        subst hpe
        intro hl hw
        replace hl : lv_has ls 4 [(0, .ref x0), (2, .int x2), (3, .int x3)] := hl
        refine xsti hx hb hK hP hS 2 rfl (fun _ _ => rfl) hw d_LogCleanerModel_takeOut_127 (fun h23 H locs hw hP hS => ?_)
        refine lv_aload_n hx hb d_LogCleanerModel_takeOut_128 rfl (lv_at hl 0 rfl) ?_
        refine xgetA hx hb htb i_LogCleanerModel hown hK hP (ci := 4) rfl 4 (by decide) (htb _ k_LogCleanerModel_16) (fun _ h9 => h9) hw d_LogCleanerModel_takeOut_129 (fun r24 hw => ?_)
        refine lv_iload_n hx hb d_LogCleanerModel_takeOut_132 rfl (lv_at hl 1 rfl) ?_
        refine lv_aload_n hx hb d_LogCleanerModel_takeOut_133 rfl (lv_at hl 0 rfl) ?_
        refine xgetA hx hb htb i_LogCleanerModel hown hK hP (ci := 4) rfl 4 (by decide) (htb _ k_LogCleanerModel_16) (fun _ h9 => h9) hw d_LogCleanerModel_takeOut_134 (fun r25 hw => ?_)
        refine lv_iload_n hx hb d_LogCleanerModel_takeOut_137 rfl (lv_at hl 2 rfl) ?_
        obtain ⟨p26, hpe, hw⟩ := hw
        revert hw
        revert hl
        subst hpe
        intro hl hw
        replace hl : lv_has ls 4 [(0, .ref x0), (2, .int x2), (3, .int x3)] := hl
        refine xldl hx hb hK hP 3 rfl hw d_LogCleanerModel_takeOut_138 (fun v27 hw => ?_)
        obtain ⟨p28, hpe, hw⟩ := hw
        revert hw
        revert hl
        subst hpe
        intro hl hw
        replace hl : lv_has ls 4 [(0, .ref x0), (2, .int x2), (3, .int x3)] := hl
        refine xstl hx hb hK hP hS 3 rfl (fun _ _ => rfl) hw d_LogCleanerModel_takeOut_139 (fun h29 H locs hw hP hS => ?_)
        refine lv_aload_n hx hb d_LogCleanerModel_takeOut_140 rfl (lv_at hl 0 rfl) ?_
        refine xgetA hx hb htb i_LogCleanerModel hown hK hP (ci := 4) rfl 5 (by decide) (htb _ k_LogCleanerModel_20) (fun _ h9 => h9) hw d_LogCleanerModel_takeOut_141 (fun r30 hw => ?_)
        refine lv_iload_n hx hb d_LogCleanerModel_takeOut_144 rfl (lv_at hl 1 rfl) ?_
        refine lv_aload_n hx hb d_LogCleanerModel_takeOut_145 rfl (lv_at hl 0 rfl) ?_
        refine xgetA hx hb htb i_LogCleanerModel hown hK hP (ci := 4) rfl 5 (by decide) (htb _ k_LogCleanerModel_20) (fun _ h9 => h9) hw d_LogCleanerModel_takeOut_146 (fun r31 hw => ?_)
        refine lv_iload_n hx hb d_LogCleanerModel_takeOut_149 rfl (lv_at hl 2 rfl) ?_
        obtain ⟨p32, hpe, hw⟩ := hw
        revert hw
        revert hl
        subst hpe
        intro hl hw
        replace hl : lv_has ls 4 [(0, .ref x0), (2, .int x2), (3, .int x3)] := hl
        refine xldi hx hb hK hP 2 rfl hw d_LogCleanerModel_takeOut_150 (fun v33 hw => ?_)
        obtain ⟨p34, hpe, hw⟩ := hw
        revert hw
        revert hl
        subst hpe
        intro hl hw
        replace hl : lv_has ls 4 [(0, .ref x0), (2, .int x2), (3, .int x3)] := hl
        refine xsti hx hb hK hP hS 2 rfl (fun _ _ => rfl) hw d_LogCleanerModel_takeOut_151 (fun h35 H locs hw hP hS => ?_)
        refine lv_aload_n hx hb d_LogCleanerModel_takeOut_152 rfl (lv_at hl 0 rfl) ?_
        refine xgetA hx hb htb i_LogCleanerModel hown hK hP (ci := 4) rfl 6 (by decide) (htb _ k_LogCleanerModel_23) (fun _ h9 => h9) hw d_LogCleanerModel_takeOut_153 (fun r36 hw => ?_)
        refine lv_iload_n hx hb d_LogCleanerModel_takeOut_156 rfl (lv_at hl 1 rfl) ?_
        refine lv_aload_n hx hb d_LogCleanerModel_takeOut_157 rfl (lv_at hl 0 rfl) ?_
        refine xgetA hx hb htb i_LogCleanerModel hown hK hP (ci := 4) rfl 6 (by decide) (htb _ k_LogCleanerModel_23) (fun _ h9 => h9) hw d_LogCleanerModel_takeOut_158 (fun r37 hw => ?_)
        refine lv_iload_n hx hb d_LogCleanerModel_takeOut_161 rfl (lv_at hl 2 rfl) ?_
        obtain ⟨p38, hpe, hw⟩ := hw
        revert hw
        revert hl
        subst hpe
        intro hl hw
        replace hl : lv_has ls 4 [(0, .ref x0), (2, .int x2), (3, .int x3)] := hl
        refine xldz hx hb hK hP 4 rfl hw d_LogCleanerModel_takeOut_162 (fun v39 hw => ?_)
        obtain ⟨p40, hpe, hw⟩ := hw
        revert hw
        revert hl
        subst hpe
        intro hl hw
        replace hl : lv_has ls 4 [(0, .ref x0), (2, .int x2), (3, .int x3)] := hl
        refine xstz hx hb hK hP hS 4 rfl (fun _ _ => rfl) hw d_LogCleanerModel_takeOut_163 (fun h41 H locs hw hP hS => ?_)
        refine lv_aload_n hx hb d_LogCleanerModel_takeOut_164 rfl (lv_at hl 0 rfl) ?_
        refine xgetA hx hb htb i_LogCleanerModel hown hK hP (ci := 4) rfl 7 (by decide) (htb _ k_LogCleanerModel_27) (fun _ h9 => h9) hw d_LogCleanerModel_takeOut_165 (fun r42 hw => ?_)
        refine lv_iload_n hx hb d_LogCleanerModel_takeOut_168 rfl (lv_at hl 1 rfl) ?_
        refine lv_aload_n hx hb d_LogCleanerModel_takeOut_169 rfl (lv_at hl 0 rfl) ?_
        refine xgetA hx hb htb i_LogCleanerModel hown hK hP (ci := 4) rfl 7 (by decide) (htb _ k_LogCleanerModel_27) (fun _ h9 => h9) hw d_LogCleanerModel_takeOut_170 (fun r43 hw => ?_)
        refine lv_iload_n hx hb d_LogCleanerModel_takeOut_173 rfl (lv_at hl 2 rfl) ?_
        obtain ⟨p44, hpe, hw⟩ := hw
        revert hw
        revert hl
        subst hpe
        intro hl hw
        replace hl : lv_has ls 4 [(0, .ref x0), (2, .int x2), (3, .int x3)] := hl
        refine xldl hx hb hK hP 3 rfl hw d_LogCleanerModel_takeOut_174 (fun v45 hw => ?_)
        obtain ⟨p46, hpe, hw⟩ := hw
        revert hw
        revert hl
        subst hpe
        intro hl hw
        replace hl : lv_has ls 4 [(0, .ref x0), (2, .int x2), (3, .int x3)] := hl
        refine xstl hx hb hK hP hS 3 rfl (fun _ _ => rfl) hw d_LogCleanerModel_takeOut_175 (fun h47 H locs hw hP hS => ?_)
        refine lv_aload_n hx hb d_LogCleanerModel_takeOut_176 rfl (lv_at hl 0 rfl) ?_
        refine xgetA hx hb htb i_LogCleanerModel hown hK hP (ci := 4) rfl 8 (by decide) (htb _ k_LogCleanerModel_30) (fun _ h9 => h9) hw d_LogCleanerModel_takeOut_177 (fun r48 hw => ?_)
        refine lv_iload_n hx hb d_LogCleanerModel_takeOut_180 rfl (lv_at hl 1 rfl) ?_
        refine lv_aload_n hx hb d_LogCleanerModel_takeOut_181 rfl (lv_at hl 0 rfl) ?_
        refine xgetA hx hb htb i_LogCleanerModel hown hK hP (ci := 4) rfl 8 (by decide) (htb _ k_LogCleanerModel_30) (fun _ h9 => h9) hw d_LogCleanerModel_takeOut_182 (fun r49 hw => ?_)
        refine lv_iload_n hx hb d_LogCleanerModel_takeOut_185 rfl (lv_at hl 2 rfl) ?_
        obtain ⟨p50, hpe, hw⟩ := hw
        revert hw
        revert hl
        subst hpe
        intro hl hw
        replace hl : lv_has ls 4 [(0, .ref x0), (2, .int x2), (3, .int x3)] := hl
        refine xldi hx hb hK hP 2 rfl hw d_LogCleanerModel_takeOut_186 (fun v51 hw => ?_)
        obtain ⟨p52, hpe, hw⟩ := hw
        revert hw
        revert hl
        subst hpe
        intro hl hw
        replace hl : lv_has ls 4 [(0, .ref x0), (2, .int x2), (3, .int x3)] := hl
        refine xsti hx hb hK hP hS 2 rfl (fun _ _ => rfl) hw d_LogCleanerModel_takeOut_187 (fun h53 H locs hw hP hS => ?_)
        refine lv_iinc (v := x2 + 1) (lv' := [(2, .int (x2 + 1)), (0, .ref x0), (3, .int x3)]) hx hb d_LogCleanerModel_takeOut_188 hl (k := 1) rfl rfl (by decide) rfl (fun ls hl => ?_)
        exact sb_LogCleanerModel_takeOut_191 C0 hk82 x0 (x2 + 1) x3 h53 _ _ _ hw hP hS (lv_sub hl [1, 0, 2] rfl)

set_option maxHeartbeats 4000000 in
set_option maxRecDepth 100000 in
theorem sb_LogCleanerModel_takeOut_67 {p : Program} {l : Launch} {e : Env} {s : State} {m : MethodId} {args : Array Value} {below : List Frame} {meth : Method} {c : Code} {D : va_G} {d : Nat → ClassId} {A : Nat → Prop} {h0 : xw} {Q : Int32 → xw → Prop} {k4 : Nat → Int32 → Int32 → xw → Prop} (C0 : xctx p s m args meth c b_LogCleanerModel_takeOut 4 (some .int) R_LogCleanerModel D d A True) (hk4 : ∀ (x0 : Nat) (x1 : Int32) (x2 : Int32) (h : xw) (H : Heap) (locs : List Loc) (ls : Array Slot), k4 x0 x1 x2 h → xR sgM h0 D A h H → va_S A s.heap H locs → lv_has ls 4 [(0, .ref x0), (1, .int x1), (2, .int x2)] → W p l e rm_LogCleanerModel_takeOut s m args below meth c H locs 0 0 (MQ below (va_Qi (fun r u => Q r u ∧ xfr sgM h0 u) (xB D d A) A) args s 0 0 A) (F0 m 4 ls [])) : ∀ (x0 : Nat) (x1 : Int32) (x2 : Int32) (h : xw) (H : Heap) (locs : List Loc) (ls : Array Slot), wb_LogCleanerModel_takeOut_67 d k4 Q x0 x1 x2 h → xR sgM h0 D A h H → va_S A s.heap H locs → lv_has ls 4 [(0, .ref x0), (1, .int x1), (2, .int x2)] → W p l e rm_LogCleanerModel_takeOut s m args below meth c H locs 0 0 (MQ below (va_Qi (fun r u => Q r u ∧ xfr sgM h0 u) (xB D d A) A) args s 0 0 A) (F0 m 67 ls []) := by
  obtain ⟨hx, hb, hr, hml, hown, htb, hK, hA, hNB, hlocks, hXT⟩ := id C0
  intro x0 x1 x2 h H locs ls hw hP hS hl
  refine lv_iinc (v := x2 + 1) (lv' := [(2, .int (x2 + 1)), (0, .ref x0), (1, .int x1)]) hx hb d_LogCleanerModel_takeOut_67 hl (k := 2) rfl rfl (by decide) rfl (fun ls hl => ?_)
  refine lv_goto (tgt := 4) hx hb d_LogCleanerModel_takeOut_70 (by decide) ?_
  exact hk4 x0 x1 (x2 + 1) h _ _ _ hw hP hS (lv_sub hl [1, 2, 0] rfl)

set_option maxHeartbeats 4000000 in
set_option maxRecDepth 100000 in
theorem sl_LogCleanerModel_takeOut_4 {p : Program} {l : Launch} {e : Env} {s : State} {m : MethodId} {args : Array Value} {below : List Frame} {meth : Method} {c : Code} {D : va_G} {d : Nat → ClassId} {A : Nat → Prop} {h0 : xw} {Q : Int32 → xw → Prop} (C0 : xctx p s m args meth c b_LogCleanerModel_takeOut 4 (some .int) R_LogCleanerModel D d A True) : ∀ (n : Nat) (x : Nat × Int32 × Int32) (h : xw) (H : Heap) (locs : List Loc) (ls : Array Slot), xloop (fun (k : Nat × Int32 × Int32 → xw → Prop) (x : Nat × Int32 × Int32) (h : xw) => wc_LogCleanerModel_takeOut_4 d Q (fun y0 y1 y2 h => k (y0, y1, y2) h) x.1 x.2.1 x.2.2 h) n x h → xR sgM h0 D A h H → va_S A s.heap H locs → lv_has ls 4 [(0, .ref x.1), (1, .int x.2.1), (2, .int x.2.2)] → W p l e rm_LogCleanerModel_takeOut s m args below meth c H locs 0 0 (MQ below (va_Qi (fun r u => Q r u ∧ xfr sgM h0 u) (xB D d A) A) args s 0 0 A) (F0 m 4 ls []) := by
  obtain ⟨hx, hb, hr, hml, hown, htb, hK, hA, hNB, hlocks, hXT⟩ := id C0
  intro n
  induction n with
  | zero => intro x h H locs ls hw; exact hw.elim
  | succ n ih =>
    rintro ⟨x0, x1, x2⟩ h H locs ls hw hP hS hl
    replace hw : wc_LogCleanerModel_takeOut_4 d Q (fun y0 y1 y2 h => xloop (fun (k : Nat × Int32 × Int32 → xw → Prop) (x : Nat × Int32 × Int32) (h : xw) => wc_LogCleanerModel_takeOut_4 d Q (fun y0 y1 y2 h => k (y0, y1, y2) h) x.1 x.2.1 x.2.2 h) n (y0, y1, y2) h) x0 x1 x2 h := hw
    have hk4 := fun (x0 : Nat) (x1 : Int32) (x2 : Int32) => ih (x0, x1, x2)
    refine lv_iload_n hx hb d_LogCleanerModel_takeOut_4 rfl (lv_at hl 2 rfl) ?_
    refine lv_aload_n hx hb d_LogCleanerModel_takeOut_5 rfl (lv_at hl 0 rfl) ?_
    refine xgetI hx hb htb i_LogCleanerModel hown hK hP (ci := 4) rfl 16 (by decide) (htb _ k_LogCleanerModel_82) (fun _ h9 => h9) hw d_LogCleanerModel_takeOut_6 (fun v1 hw => ?_)
    refine lv_icmp_ge (tgt := 73) hx hb d_LogCleanerModel_takeOut_9 (by decide) (fun cq => ?_) (fun cq => ?_)
    · replace hw := hw.1 cq
      refine lv_aload_n hx hb d_LogCleanerModel_takeOut_73 rfl (lv_at hl 0 rfl) ?_
      refine lv_iload_n hx hb d_LogCleanerModel_takeOut_74 rfl (lv_at hl 1 rfl) ?_
      refine xputI hx hb htb i_LogCleanerModel t_LogCleanerModel t_LogCleanerModel_ok n_LogCleanerModel hown hK hP hS (ci := 4) rfl (fun _ => rfl) 16 (by decide) (htb _ k_LogCleanerModel_82) (fun _ h9 => h9) rfl (by decide +kernel) hw d_LogCleanerModel_takeOut_75 (fun h2 H locs hw hP hS => ?_)
      refine lv_iconst (v := 0) hx hb d_LogCleanerModel_takeOut_78 (by decide) ?_
      refine lv_istore_n (lv' := [(2, .int 0), (0, .ref x0), (1, .int x1)]) hx hb d_LogCleanerModel_takeOut_79 rfl hl (by decide) rfl (fun ls hl => ?_)
      refine lv_iconst (v := 0) hx hb d_LogCleanerModel_takeOut_80 (by decide) ?_
      refine lv_istore_n (lv' := [(3, .int 0), (2, .int 0), (0, .ref x0), (1, .int x1)]) hx hb d_LogCleanerModel_takeOut_81 rfl hl (by decide) rfl (fun ls hl => ?_)
      obtain ⟨n, hw⟩ := hw
      exact sl_LogCleanerModel_takeOut_82 C0 n (x0, 0, 0) h2 _ _ _ hw hP hS (lv_sub hl [2, 1, 0] rfl)
    · replace hw := hw.2 cq
      refine lv_aload_n hx hb d_LogCleanerModel_takeOut_12 rfl (lv_at hl 0 rfl) ?_
      refine xgetA hx hb htb i_LogCleanerModel hown hK hP (ci := 4) rfl 22 (by decide) (htb _ k_LogCleanerModel_63) (fun _ h9 => h9) hw d_LogCleanerModel_takeOut_13 (fun r54 hw => ?_)
      refine lv_iload_n hx hb d_LogCleanerModel_takeOut_16 rfl (lv_at hl 2 rfl) ?_
      refine lv_iload_n hx hb d_LogCleanerModel_takeOut_17 rfl (lv_at hl 1 rfl) ?_
      obtain ⟨p55, hpe, hw⟩ := hw
      revert hw
      revert hl
      subst hpe
      intro hl hw
      replace hl : lv_has ls 4 [(0, .ref x0), (1, .int x1), (2, .int x2)] := hl
      refine xsti hx hb hK hP hS 2 rfl (fun _ _ => rfl) hw d_LogCleanerModel_takeOut_18 (fun h56 H locs hw hP hS => ?_)
      refine lv_aload_n hx hb d_LogCleanerModel_takeOut_19 rfl (lv_at hl 0 rfl) ?_
      refine xgetA hx hb htb i_LogCleanerModel hown hK hP (ci := 4) rfl 21 (by decide) (htb _ k_LogCleanerModel_60) (fun _ h9 => h9) hw d_LogCleanerModel_takeOut_20 (fun r57 hw => ?_)
      refine lv_iload_n hx hb d_LogCleanerModel_takeOut_23 rfl (lv_at hl 2 rfl) ?_
      obtain ⟨p58, hpe, hw⟩ := hw
      revert hw
      revert hl
      subst hpe
      intro hl hw
      replace hl : lv_has ls 4 [(0, .ref x0), (1, .int x1), (2, .int x2)] := hl
      refine xldz hx hb hK hP 4 rfl hw d_LogCleanerModel_takeOut_24 (fun v59 hw => ?_)
      refine lv_if_eq (tgt := 67) hx hb d_LogCleanerModel_takeOut_25 (by decide) (fun cq => ?_) (fun cq => ?_)
      · replace hw := hw.1 cq
        exact sb_LogCleanerModel_takeOut_67 C0 hk4 x0 x1 x2 h56 _ _ _ hw hP hS (lv_sub hl [0, 1, 2] rfl)
      · replace hw := hw.2 cq
        refine lv_aload_n hx hb d_LogCleanerModel_takeOut_28 rfl (lv_at hl 0 rfl) ?_
        refine xgetA hx hb htb i_LogCleanerModel hown hK hP (ci := 4) rfl 17 (by decide) (htb _ k_LogCleanerModel_48) (fun _ h9 => h9) hw d_LogCleanerModel_takeOut_29 (fun r60 hw => ?_)
        refine lv_iload_n hx hb d_LogCleanerModel_takeOut_32 rfl (lv_at hl 1 rfl) ?_
        refine lv_aload_n hx hb d_LogCleanerModel_takeOut_33 rfl (lv_at hl 0 rfl) ?_
        refine xgetA hx hb htb i_LogCleanerModel hown hK hP (ci := 4) rfl 17 (by decide) (htb _ k_LogCleanerModel_48) (fun _ h9 => h9) hw d_LogCleanerModel_takeOut_34 (fun r61 hw => ?_)
        refine lv_iload_n hx hb d_LogCleanerModel_takeOut_37 rfl (lv_at hl 2 rfl) ?_
        obtain ⟨p62, hpe, hw⟩ := hw
        revert hw
        revert hl
        subst hpe
        intro hl hw
        replace hl : lv_has ls 4 [(0, .ref x0), (1, .int x1), (2, .int x2)] := hl
        refine xldi hx hb hK hP 2 rfl hw d_LogCleanerModel_takeOut_38 (fun v63 hw => ?_)
        obtain ⟨p64, hpe, hw⟩ := hw
        revert hw
        revert hl
        subst hpe
        intro hl hw
        replace hl : lv_has ls 4 [(0, .ref x0), (1, .int x1), (2, .int x2)] := hl
        refine xsti hx hb hK hP hS 2 rfl (fun _ _ => rfl) hw d_LogCleanerModel_takeOut_39 (fun h65 H locs hw hP hS => ?_)
        refine lv_aload_n hx hb d_LogCleanerModel_takeOut_40 rfl (lv_at hl 0 rfl) ?_
        refine xgetA hx hb htb i_LogCleanerModel hown hK hP (ci := 4) rfl 18 (by decide) (htb _ k_LogCleanerModel_51) (fun _ h9 => h9) hw d_LogCleanerModel_takeOut_41 (fun r66 hw => ?_)
        refine lv_iload_n hx hb d_LogCleanerModel_takeOut_44 rfl (lv_at hl 1 rfl) ?_
        refine lv_aload_n hx hb d_LogCleanerModel_takeOut_45 rfl (lv_at hl 0 rfl) ?_
        refine xgetA hx hb htb i_LogCleanerModel hown hK hP (ci := 4) rfl 18 (by decide) (htb _ k_LogCleanerModel_51) (fun _ h9 => h9) hw d_LogCleanerModel_takeOut_46 (fun r67 hw => ?_)
        refine lv_iload_n hx hb d_LogCleanerModel_takeOut_49 rfl (lv_at hl 2 rfl) ?_
        obtain ⟨p68, hpe, hw⟩ := hw
        revert hw
        revert hl
        subst hpe
        intro hl hw
        replace hl : lv_has ls 4 [(0, .ref x0), (1, .int x1), (2, .int x2)] := hl
        refine xldi hx hb hK hP 2 rfl hw d_LogCleanerModel_takeOut_50 (fun v69 hw => ?_)
        obtain ⟨p70, hpe, hw⟩ := hw
        revert hw
        revert hl
        subst hpe
        intro hl hw
        replace hl : lv_has ls 4 [(0, .ref x0), (1, .int x1), (2, .int x2)] := hl
        refine xsti hx hb hK hP hS 2 rfl (fun _ _ => rfl) hw d_LogCleanerModel_takeOut_51 (fun h71 H locs hw hP hS => ?_)
        refine lv_aload_n hx hb d_LogCleanerModel_takeOut_52 rfl (lv_at hl 0 rfl) ?_
        refine xgetA hx hb htb i_LogCleanerModel hown hK hP (ci := 4) rfl 19 (by decide) (htb _ k_LogCleanerModel_54) (fun _ h9 => h9) hw d_LogCleanerModel_takeOut_53 (fun r72 hw => ?_)
        refine lv_iload_n hx hb d_LogCleanerModel_takeOut_56 rfl (lv_at hl 1 rfl) ?_
        refine lv_aload_n hx hb d_LogCleanerModel_takeOut_57 rfl (lv_at hl 0 rfl) ?_
        refine xgetA hx hb htb i_LogCleanerModel hown hK hP (ci := 4) rfl 19 (by decide) (htb _ k_LogCleanerModel_54) (fun _ h9 => h9) hw d_LogCleanerModel_takeOut_58 (fun r73 hw => ?_)
        refine lv_iload_n hx hb d_LogCleanerModel_takeOut_61 rfl (lv_at hl 2 rfl) ?_
        obtain ⟨p74, hpe, hw⟩ := hw
        revert hw
        revert hl
        subst hpe
        intro hl hw
        replace hl : lv_has ls 4 [(0, .ref x0), (1, .int x1), (2, .int x2)] := hl
        refine xldi hx hb hK hP 2 rfl hw d_LogCleanerModel_takeOut_62 (fun v75 hw => ?_)
        obtain ⟨p76, hpe, hw⟩ := hw
        revert hw
        revert hl
        subst hpe
        intro hl hw
        replace hl : lv_has ls 4 [(0, .ref x0), (1, .int x1), (2, .int x2)] := hl
        refine xsti hx hb hK hP hS 2 rfl (fun _ _ => rfl) hw d_LogCleanerModel_takeOut_63 (fun h77 H locs hw hP hS => ?_)
        refine lv_iinc (v := x1 + 1) (lv' := [(1, .int (x1 + 1)), (0, .ref x0), (2, .int x2)]) hx hb d_LogCleanerModel_takeOut_64 hl (k := 1) rfl rfl (by decide) rfl (fun ls hl => ?_)
        exact sb_LogCleanerModel_takeOut_67 C0 hk4 x0 (x1 + 1) x2 h77 _ _ _ hw hP hS (lv_sub hl [1, 0, 2] rfl)

set_option maxHeartbeats 4000000 in
set_option maxRecDepth 100000 in
theorem m_LogCleanerModel_takeOut (l : Launch) (D : va_G) (d : Nat → ClassId) (h : xw) (sz : Nat) (a0 : Nat) (Q : Int32 → xw → Prop) (hw : wp_LogCleanerModel_takeOut d h a0 Q) : Met l y_LogCleanerModel_takeOut ws_LogCleanerModel_takeOut rm_LogCleanerModel_takeOut (xPre D d h [.ref a0] sz) (va_Qi (fun r u => Q r u ∧ xfr sgM h u) (xB D d (xA h sz)) (xA h sz)) 0 0 (xA h sz) := by
  refine Met.ofW (cc := b_LogCleanerModel_takeOut) (maxL := 4) (ret := (some .int)) (by decide) rfl ?_
  intro p e s m args below meth c s₁ B hml hv
  obtain ⟨rfl, hsz, hP0, hK, hNB⟩ := hv
  have hts := atoms_spec (ws := ws_LogCleanerModel_takeOut) B.pre
  have htb := fun w (hw9 : w ∈ TB) => hts w (List.mem_cons_of_mem _ hw9)
  have hown : s.vm.findClass R_LogCleanerModel = some m.cls := findClass_of_methodNamed B.named
  subst hsz
  obtain ⟨A, hAe⟩ : ∃ A, A = xA h s.heap.size := ⟨_, rfl⟩
  rw [← hAe]
  have hP : xR sgM h D A h s.heap := ⟨by rw [hAe]; exact hP0.self, xfr.rf⟩
  have hA : ∀ q, s.heap.size ≤ q → A q := fun q hq => by rw [hAe]; exact Or.inr hq
  have hS : va_S A s.heap s.heap [] := va_S.rf
  have C0 : xctx p s m ([.ref a0] : List Value).toArray meth c b_LogCleanerModel_takeOut 4 (some .int) R_LogCleanerModel D d A True := ⟨B.exec, B.bytes, B.returns, hml, hown, htb, hK, hA, hNB, B.notSynchronized, trivial⟩
  obtain ⟨hx, hb, hr, -, -, -, -, -, -, hlocks, hXT⟩ := id C0
  have hl := lv_entry ([.ref a0] : List Value) (n := 4) (Nat.le_of_ble_eq_true rfl)
  rw [lg_entry_eq]
  generalize (lg_sl ([.ref a0] : List Value) ++ List.replicate (4 - (lg_sl ([.ref a0] : List Value)).length) Slot.unset).toArray = ls at hl ⊢
  have hl : lv_has ls 4 [(0, .ref a0)] := hl
  refine lv_iconst (v := 0) hx hb d_LogCleanerModel_takeOut_0 (by decide) ?_
  refine lv_istore_n (lv' := [(1, .int 0), (0, .ref a0)]) hx hb d_LogCleanerModel_takeOut_1 rfl hl (by decide) rfl (fun ls hl => ?_)
  refine lv_iconst (v := 0) hx hb d_LogCleanerModel_takeOut_2 (by decide) ?_
  refine lv_istore_n (lv' := [(2, .int 0), (1, .int 0), (0, .ref a0)]) hx hb d_LogCleanerModel_takeOut_3 rfl hl (by decide) rfl (fun ls hl => ?_)
  obtain ⟨n, hw⟩ := hw
  exact sl_LogCleanerModel_takeOut_4 C0 n (a0, 0, 0) h _ _ _ hw hP hS (lv_sub hl [2, 1, 0] rfl)

theorem d_LogCleanerModel_clean_0 : decode b_LogCleanerModel_clean 0 = .ok (.aload_n 0, 1) := by decide +kernel
theorem d_LogCleanerModel_clean_1 : decode b_LogCleanerModel_clean 1 = .ok (.iload_n 1, 1) := by decide +kernel
theorem d_LogCleanerModel_clean_2 : decode b_LogCleanerModel_clean 2 = .ok (.ifCond .ge 7, 3) := by decide +kernel
theorem d_LogCleanerModel_clean_5 : decode b_LogCleanerModel_clean 5 = .ok (.iconst 1, 1) := by decide +kernel
theorem d_LogCleanerModel_clean_6 : decode b_LogCleanerModel_clean 6 = .ok (.goto 4, 3) := by decide +kernel
theorem d_LogCleanerModel_clean_9 : decode b_LogCleanerModel_clean 9 = .ok (.iconst 0, 1) := by decide +kernel
theorem d_LogCleanerModel_clean_10 : decode b_LogCleanerModel_clean 10 = .ok (.putfield 66, 3) := by decide +kernel
theorem d_LogCleanerModel_clean_13 : decode b_LogCleanerModel_clean 13 = .ok (.aload_n 0, 1) := by decide +kernel
theorem d_LogCleanerModel_clean_14 : decode b_LogCleanerModel_clean 14 = .ok (.getfield 66, 3) := by decide +kernel
theorem d_LogCleanerModel_clean_17 : decode b_LogCleanerModel_clean 17 = .ok (.ifCond .le 5, 3) := by decide +kernel
theorem d_LogCleanerModel_clean_20 : decode b_LogCleanerModel_clean 20 = .ok (.iconst 0, 1) := by decide +kernel
theorem d_LogCleanerModel_clean_21 : decode b_LogCleanerModel_clean 21 = .ok (.ireturn, 1) := by decide +kernel
theorem d_LogCleanerModel_clean_22 : decode b_LogCleanerModel_clean 22 = .ok (.iconst 0, 1) := by decide +kernel
theorem d_LogCleanerModel_clean_23 : decode b_LogCleanerModel_clean 23 = .ok (.istore_n 2, 1) := by decide +kernel
theorem d_LogCleanerModel_clean_24 : decode b_LogCleanerModel_clean 24 = .ok (.iconst 0, 1) := by decide +kernel
theorem d_LogCleanerModel_clean_25 : decode b_LogCleanerModel_clean 25 = .ok (.istore_n 3, 1) := by decide +kernel
theorem d_LogCleanerModel_clean_26 : decode b_LogCleanerModel_clean 26 = .ok (.iload_n 3, 1) := by decide +kernel
theorem d_LogCleanerModel_clean_27 : decode b_LogCleanerModel_clean 27 = .ok (.aload_n 0, 1) := by decide +kernel
theorem d_LogCleanerModel_clean_28 : decode b_LogCleanerModel_clean 28 = .ok (.getfield 75, 3) := by decide +kernel
theorem d_LogCleanerModel_clean_31 : decode b_LogCleanerModel_clean 31 = .ok (.if_icmp .ge 40, 3) := by decide +kernel
theorem d_LogCleanerModel_clean_34 : decode b_LogCleanerModel_clean 34 = .ok (.aload_n 0, 1) := by decide +kernel
theorem d_LogCleanerModel_clean_35 : decode b_LogCleanerModel_clean 35 = .ok (.getfield 57, 3) := by decide +kernel
theorem d_LogCleanerModel_clean_38 : decode b_LogCleanerModel_clean 38 = .ok (.iload_n 3, 1) := by decide +kernel
theorem d_LogCleanerModel_clean_39 : decode b_LogCleanerModel_clean 39 = .ok (.aload_n 0, 1) := by decide +kernel
theorem d_LogCleanerModel_clean_40 : decode b_LogCleanerModel_clean 40 = .ok (.iload_n 3, 1) := by decide +kernel
theorem d_LogCleanerModel_clean_41 : decode b_LogCleanerModel_clean 41 = .ok (.iload_n 1, 1) := by decide +kernel
theorem d_LogCleanerModel_clean_42 : decode b_LogCleanerModel_clean 42 = .ok (.invokevirtual 96, 3) := by decide +kernel
theorem d_LogCleanerModel_clean_45 : decode b_LogCleanerModel_clean 45 = .ok (.bastore, 1) := by decide +kernel
theorem d_LogCleanerModel_clean_46 : decode b_LogCleanerModel_clean 46 = .ok (.iload_n 2, 1) := by decide +kernel
theorem d_LogCleanerModel_clean_47 : decode b_LogCleanerModel_clean 47 = .ok (.ifCond .ne 12, 3) := by decide +kernel
theorem d_LogCleanerModel_clean_50 : decode b_LogCleanerModel_clean 50 = .ok (.aload_n 0, 1) := by decide +kernel
theorem d_LogCleanerModel_clean_51 : decode b_LogCleanerModel_clean 51 = .ok (.getfield 57, 3) := by decide +kernel
theorem d_LogCleanerModel_clean_54 : decode b_LogCleanerModel_clean 54 = .ok (.iload_n 3, 1) := by decide +kernel
theorem d_LogCleanerModel_clean_55 : decode b_LogCleanerModel_clean 55 = .ok (.baload, 1) := by decide +kernel
theorem d_LogCleanerModel_clean_56 : decode b_LogCleanerModel_clean 56 = .ok (.ifCond .eq 7, 3) := by decide +kernel
theorem d_LogCleanerModel_clean_59 : decode b_LogCleanerModel_clean 59 = .ok (.iconst 1, 1) := by decide +kernel
theorem d_LogCleanerModel_clean_60 : decode b_LogCleanerModel_clean 60 = .ok (.goto 4, 3) := by decide +kernel
theorem d_LogCleanerModel_clean_63 : decode b_LogCleanerModel_clean 63 = .ok (.iconst 0, 1) := by decide +kernel
theorem d_LogCleanerModel_clean_64 : decode b_LogCleanerModel_clean 64 = .ok (.istore_n 2, 1) := by decide +kernel
theorem d_LogCleanerModel_clean_65 : decode b_LogCleanerModel_clean 65 = .ok (.iinc 3 1, 3) := by decide +kernel
theorem d_LogCleanerModel_clean_68 : decode b_LogCleanerModel_clean 68 = .ok (.goto (-42), 3) := by decide +kernel
theorem d_LogCleanerModel_clean_71 : decode b_LogCleanerModel_clean 71 = .ok (.iconst 0, 1) := by decide +kernel
theorem d_LogCleanerModel_clean_72 : decode b_LogCleanerModel_clean 72 = .ok (.istore_n 3, 1) := by decide +kernel
theorem d_LogCleanerModel_clean_73 : decode b_LogCleanerModel_clean 73 = .ok (.iconst 0, 1) := by decide +kernel
theorem d_LogCleanerModel_clean_74 : decode b_LogCleanerModel_clean 74 = .ok (.istore 4, 2) := by decide +kernel
theorem d_LogCleanerModel_clean_76 : decode b_LogCleanerModel_clean 76 = .ok (.iload 4, 2) := by decide +kernel
theorem d_LogCleanerModel_clean_78 : decode b_LogCleanerModel_clean 78 = .ok (.aload_n 0, 1) := by decide +kernel
theorem d_LogCleanerModel_clean_79 : decode b_LogCleanerModel_clean 79 = .ok (.getfield 82, 3) := by decide +kernel
theorem d_LogCleanerModel_clean_82 : decode b_LogCleanerModel_clean 82 = .ok (.if_icmp .ge 144, 3) := by decide +kernel
theorem d_LogCleanerModel_clean_85 : decode b_LogCleanerModel_clean 85 = .ok (.iconst 0, 1) := by decide +kernel
theorem d_LogCleanerModel_clean_86 : decode b_LogCleanerModel_clean 86 = .ok (.istore 5, 2) := by decide +kernel
theorem d_LogCleanerModel_clean_88 : decode b_LogCleanerModel_clean 88 = .ok (.iconst 0, 1) := by decide +kernel
theorem d_LogCleanerModel_clean_89 : decode b_LogCleanerModel_clean 89 = .ok (.istore 6, 2) := by decide +kernel
theorem d_LogCleanerModel_clean_91 : decode b_LogCleanerModel_clean 91 = .ok (.iload 6, 2) := by decide +kernel
theorem d_LogCleanerModel_clean_93 : decode b_LogCleanerModel_clean 93 = .ok (.aload_n 0, 1) := by decide +kernel
theorem d_LogCleanerModel_clean_94 : decode b_LogCleanerModel_clean 94 = .ok (.getfield 75, 3) := by decide +kernel
theorem d_LogCleanerModel_clean_97 : decode b_LogCleanerModel_clean 97 = .ok (.if_icmp .ge 41, 3) := by decide +kernel
theorem d_LogCleanerModel_clean_100 : decode b_LogCleanerModel_clean 100 = .ok (.iload 5, 2) := by decide +kernel
theorem d_LogCleanerModel_clean_102 : decode b_LogCleanerModel_clean 102 = .ok (.aload_n 0, 1) := by decide +kernel
theorem d_LogCleanerModel_clean_103 : decode b_LogCleanerModel_clean 103 = .ok (.getfield 7, 3) := by decide +kernel
theorem d_LogCleanerModel_clean_106 : decode b_LogCleanerModel_clean 106 = .ok (.iload 6, 2) := by decide +kernel
theorem d_LogCleanerModel_clean_108 : decode b_LogCleanerModel_clean 108 = .ok (.iaload, 1) := by decide +kernel
theorem d_LogCleanerModel_clean_109 : decode b_LogCleanerModel_clean 109 = .ok (.iload 4, 2) := by decide +kernel
theorem d_LogCleanerModel_clean_111 : decode b_LogCleanerModel_clean 111 = .ok (.if_icmp .ne 17, 3) := by decide +kernel
theorem d_LogCleanerModel_clean_114 : decode b_LogCleanerModel_clean 114 = .ok (.aload_n 0, 1) := by decide +kernel
theorem d_LogCleanerModel_clean_115 : decode b_LogCleanerModel_clean 115 = .ok (.getfield 57, 3) := by decide +kernel
theorem d_LogCleanerModel_clean_118 : decode b_LogCleanerModel_clean 118 = .ok (.iload 6, 2) := by decide +kernel
theorem d_LogCleanerModel_clean_120 : decode b_LogCleanerModel_clean 120 = .ok (.baload, 1) := by decide +kernel
theorem d_LogCleanerModel_clean_121 : decode b_LogCleanerModel_clean 121 = .ok (.ifCond .ne 7, 3) := by decide +kernel
theorem d_LogCleanerModel_clean_124 : decode b_LogCleanerModel_clean 124 = .ok (.iconst 1, 1) := by decide +kernel
theorem d_LogCleanerModel_clean_125 : decode b_LogCleanerModel_clean 125 = .ok (.goto 4, 3) := by decide +kernel
theorem d_LogCleanerModel_clean_128 : decode b_LogCleanerModel_clean 128 = .ok (.iconst 0, 1) := by decide +kernel
theorem d_LogCleanerModel_clean_129 : decode b_LogCleanerModel_clean 129 = .ok (.iadd, 1) := by decide +kernel
theorem d_LogCleanerModel_clean_130 : decode b_LogCleanerModel_clean 130 = .ok (.istore 5, 2) := by decide +kernel
theorem d_LogCleanerModel_clean_132 : decode b_LogCleanerModel_clean 132 = .ok (.iinc 6 1, 3) := by decide +kernel
theorem d_LogCleanerModel_clean_135 : decode b_LogCleanerModel_clean 135 = .ok (.goto (-44), 3) := by decide +kernel
theorem d_LogCleanerModel_clean_138 : decode b_LogCleanerModel_clean 138 = .ok (.aload_n 0, 1) := by decide +kernel
theorem d_LogCleanerModel_clean_139 : decode b_LogCleanerModel_clean 139 = .ok (.getfield 60, 3) := by decide +kernel
theorem d_LogCleanerModel_clean_142 : decode b_LogCleanerModel_clean 142 = .ok (.iload 4, 2) := by decide +kernel
theorem d_LogCleanerModel_clean_144 : decode b_LogCleanerModel_clean 144 = .ok (.aload_n 0, 1) := by decide +kernel
theorem d_LogCleanerModel_clean_145 : decode b_LogCleanerModel_clean 145 = .ok (.iload 4, 2) := by decide +kernel
theorem d_LogCleanerModel_clean_147 : decode b_LogCleanerModel_clean 147 = .ok (.invokevirtual 92, 3) := by decide +kernel
theorem d_LogCleanerModel_clean_150 : decode b_LogCleanerModel_clean 150 = .ok (.ifCond .eq 17, 3) := by decide +kernel
theorem d_LogCleanerModel_clean_153 : decode b_LogCleanerModel_clean 153 = .ok (.iload 5, 2) := by decide +kernel
theorem d_LogCleanerModel_clean_155 : decode b_LogCleanerModel_clean 155 = .ok (.ifCond .gt 12, 3) := by decide +kernel
theorem d_LogCleanerModel_clean_158 : decode b_LogCleanerModel_clean 158 = .ok (.aload_n 0, 1) := by decide +kernel
theorem d_LogCleanerModel_clean_159 : decode b_LogCleanerModel_clean 159 = .ok (.iload 4, 2) := by decide +kernel
theorem d_LogCleanerModel_clean_161 : decode b_LogCleanerModel_clean 161 = .ok (.invokevirtual 100, 3) := by decide +kernel
theorem d_LogCleanerModel_clean_164 : decode b_LogCleanerModel_clean 164 = .ok (.ifCond .eq 7, 3) := by decide +kernel
theorem d_LogCleanerModel_clean_167 : decode b_LogCleanerModel_clean 167 = .ok (.iconst 1, 1) := by decide +kernel
theorem d_LogCleanerModel_clean_168 : decode b_LogCleanerModel_clean 168 = .ok (.goto 4, 3) := by decide +kernel
theorem d_LogCleanerModel_clean_171 : decode b_LogCleanerModel_clean 171 = .ok (.iconst 0, 1) := by decide +kernel
theorem d_LogCleanerModel_clean_172 : decode b_LogCleanerModel_clean 172 = .ok (.bastore, 1) := by decide +kernel
theorem d_LogCleanerModel_clean_173 : decode b_LogCleanerModel_clean 173 = .ok (.iload_n 2, 1) := by decide +kernel
theorem d_LogCleanerModel_clean_174 : decode b_LogCleanerModel_clean 174 = .ok (.ifCond .ne 13, 3) := by decide +kernel
theorem d_LogCleanerModel_clean_177 : decode b_LogCleanerModel_clean 177 = .ok (.aload_n 0, 1) := by decide +kernel
theorem d_LogCleanerModel_clean_178 : decode b_LogCleanerModel_clean 178 = .ok (.getfield 60, 3) := by decide +kernel
theorem d_LogCleanerModel_clean_181 : decode b_LogCleanerModel_clean 181 = .ok (.iload 4, 2) := by decide +kernel
theorem d_LogCleanerModel_clean_183 : decode b_LogCleanerModel_clean 183 = .ok (.baload, 1) := by decide +kernel
theorem d_LogCleanerModel_clean_184 : decode b_LogCleanerModel_clean 184 = .ok (.ifCond .ne 7, 3) := by decide +kernel
theorem d_LogCleanerModel_clean_187 : decode b_LogCleanerModel_clean 187 = .ok (.iconst 1, 1) := by decide +kernel
theorem d_LogCleanerModel_clean_188 : decode b_LogCleanerModel_clean 188 = .ok (.goto 4, 3) := by decide +kernel
theorem d_LogCleanerModel_clean_191 : decode b_LogCleanerModel_clean 191 = .ok (.iconst 0, 1) := by decide +kernel
theorem d_LogCleanerModel_clean_192 : decode b_LogCleanerModel_clean 192 = .ok (.istore_n 2, 1) := by decide +kernel
theorem d_LogCleanerModel_clean_193 : decode b_LogCleanerModel_clean 193 = .ok (.iload_n 3, 1) := by decide +kernel
theorem d_LogCleanerModel_clean_194 : decode b_LogCleanerModel_clean 194 = .ok (.aload_n 0, 1) := by decide +kernel
theorem d_LogCleanerModel_clean_195 : decode b_LogCleanerModel_clean 195 = .ok (.iload 4, 2) := by decide +kernel
theorem d_LogCleanerModel_clean_197 : decode b_LogCleanerModel_clean 197 = .ok (.invokevirtual 92, 3) := by decide +kernel
theorem d_LogCleanerModel_clean_200 : decode b_LogCleanerModel_clean 200 = .ok (.ifCond .eq 17, 3) := by decide +kernel
theorem d_LogCleanerModel_clean_203 : decode b_LogCleanerModel_clean 203 = .ok (.aload_n 0, 1) := by decide +kernel
theorem d_LogCleanerModel_clean_204 : decode b_LogCleanerModel_clean 204 = .ok (.getfield 60, 3) := by decide +kernel
theorem d_LogCleanerModel_clean_207 : decode b_LogCleanerModel_clean 207 = .ok (.iload 4, 2) := by decide +kernel
theorem d_LogCleanerModel_clean_209 : decode b_LogCleanerModel_clean 209 = .ok (.baload, 1) := by decide +kernel
theorem d_LogCleanerModel_clean_210 : decode b_LogCleanerModel_clean 210 = .ok (.ifCond .eq 7, 3) := by decide +kernel
theorem d_LogCleanerModel_clean_213 : decode b_LogCleanerModel_clean 213 = .ok (.iconst 1, 1) := by decide +kernel
theorem d_LogCleanerModel_clean_214 : decode b_LogCleanerModel_clean 214 = .ok (.goto 4, 3) := by decide +kernel
theorem d_LogCleanerModel_clean_217 : decode b_LogCleanerModel_clean 217 = .ok (.iconst 0, 1) := by decide +kernel
theorem d_LogCleanerModel_clean_218 : decode b_LogCleanerModel_clean 218 = .ok (.iadd, 1) := by decide +kernel
theorem d_LogCleanerModel_clean_219 : decode b_LogCleanerModel_clean 219 = .ok (.istore_n 3, 1) := by decide +kernel
theorem d_LogCleanerModel_clean_220 : decode b_LogCleanerModel_clean 220 = .ok (.iinc 4 1, 3) := by decide +kernel
theorem d_LogCleanerModel_clean_223 : decode b_LogCleanerModel_clean 223 = .ok (.goto (-147), 3) := by decide +kernel
theorem d_LogCleanerModel_clean_226 : decode b_LogCleanerModel_clean 226 = .ok (.iload_n 2, 1) := by decide +kernel
theorem d_LogCleanerModel_clean_227 : decode b_LogCleanerModel_clean 227 = .ok (.ifCond .ne 5, 3) := by decide +kernel
theorem d_LogCleanerModel_clean_230 : decode b_LogCleanerModel_clean 230 = .ok (.iconst 0, 1) := by decide +kernel
theorem d_LogCleanerModel_clean_231 : decode b_LogCleanerModel_clean 231 = .ok (.ireturn, 1) := by decide +kernel
theorem d_LogCleanerModel_clean_232 : decode b_LogCleanerModel_clean 232 = .ok (.aload_n 0, 1) := by decide +kernel
theorem d_LogCleanerModel_clean_233 : decode b_LogCleanerModel_clean 233 = .ok (.invokevirtual 103, 3) := by decide +kernel
theorem d_LogCleanerModel_clean_236 : decode b_LogCleanerModel_clean 236 = .ok (.istore 4, 2) := by decide +kernel
theorem d_LogCleanerModel_clean_238 : decode b_LogCleanerModel_clean 238 = .ok (.iconst 0, 1) := by decide +kernel
theorem d_LogCleanerModel_clean_239 : decode b_LogCleanerModel_clean 239 = .ok (.istore 5, 2) := by decide +kernel
theorem d_LogCleanerModel_clean_241 : decode b_LogCleanerModel_clean 241 = .ok (.iconst 0, 1) := by decide +kernel
theorem d_LogCleanerModel_clean_242 : decode b_LogCleanerModel_clean 242 = .ok (.istore 6, 2) := by decide +kernel
theorem d_LogCleanerModel_clean_244 : decode b_LogCleanerModel_clean 244 = .ok (.iconst 0, 1) := by decide +kernel
theorem d_LogCleanerModel_clean_245 : decode b_LogCleanerModel_clean 245 = .ok (.istore 7, 2) := by decide +kernel
theorem d_LogCleanerModel_clean_247 : decode b_LogCleanerModel_clean 247 = .ok (.iload 7, 2) := by decide +kernel
theorem d_LogCleanerModel_clean_249 : decode b_LogCleanerModel_clean 249 = .ok (.aload_n 0, 1) := by decide +kernel
theorem d_LogCleanerModel_clean_250 : decode b_LogCleanerModel_clean 250 = .ok (.getfield 82, 3) := by decide +kernel
theorem d_LogCleanerModel_clean_253 : decode b_LogCleanerModel_clean 253 = .ok (.if_icmp .ge 109, 3) := by decide +kernel
theorem d_LogCleanerModel_clean_256 : decode b_LogCleanerModel_clean 256 = .ok (.aload_n 0, 1) := by decide +kernel
theorem d_LogCleanerModel_clean_257 : decode b_LogCleanerModel_clean 257 = .ok (.iload 7, 2) := by decide +kernel
theorem d_LogCleanerModel_clean_259 : decode b_LogCleanerModel_clean 259 = .ok (.invokevirtual 88, 3) := by decide +kernel
theorem d_LogCleanerModel_clean_262 : decode b_LogCleanerModel_clean 262 = .ok (.istore 8, 2) := by decide +kernel
theorem d_LogCleanerModel_clean_264 : decode b_LogCleanerModel_clean 264 = .ok (.iload 7, 2) := by decide +kernel
theorem d_LogCleanerModel_clean_266 : decode b_LogCleanerModel_clean 266 = .ok (.iload_n 3, 1) := by decide +kernel
theorem d_LogCleanerModel_clean_267 : decode b_LogCleanerModel_clean 267 = .ok (.if_icmp .ge 70, 3) := by decide +kernel
theorem d_LogCleanerModel_clean_270 : decode b_LogCleanerModel_clean 270 = .ok (.iload 7, 2) := by decide +kernel
theorem d_LogCleanerModel_clean_272 : decode b_LogCleanerModel_clean 272 = .ok (.ifCond .eq 14, 3) := by decide +kernel
theorem d_LogCleanerModel_clean_275 : decode b_LogCleanerModel_clean 275 = .ok (.iload 5, 2) := by decide +kernel
theorem d_LogCleanerModel_clean_277 : decode b_LogCleanerModel_clean 277 = .ok (.iload 8, 2) := by decide +kernel
theorem d_LogCleanerModel_clean_279 : decode b_LogCleanerModel_clean 279 = .ok (.iadd, 1) := by decide +kernel
theorem d_LogCleanerModel_clean_280 : decode b_LogCleanerModel_clean 280 = .ok (.sipush 1000, 3) := by decide +kernel
theorem d_LogCleanerModel_clean_283 : decode b_LogCleanerModel_clean 283 = .ok (.if_icmp .gt 7, 3) := by decide +kernel
theorem d_LogCleanerModel_clean_286 : decode b_LogCleanerModel_clean 286 = .ok (.iconst 1, 1) := by decide +kernel
theorem d_LogCleanerModel_clean_287 : decode b_LogCleanerModel_clean 287 = .ok (.goto 4, 3) := by decide +kernel
theorem d_LogCleanerModel_clean_290 : decode b_LogCleanerModel_clean 290 = .ok (.iconst 0, 1) := by decide +kernel
theorem d_LogCleanerModel_clean_291 : decode b_LogCleanerModel_clean 291 = .ok (.istore 9, 2) := by decide +kernel
theorem d_LogCleanerModel_clean_293 : decode b_LogCleanerModel_clean 293 = .ok (.iload 6, 2) := by decide +kernel
theorem d_LogCleanerModel_clean_295 : decode b_LogCleanerModel_clean 295 = .ok (.iload 9, 2) := by decide +kernel
theorem d_LogCleanerModel_clean_297 : decode b_LogCleanerModel_clean 297 = .ok (.ifCond .eq 7, 3) := by decide +kernel
theorem d_LogCleanerModel_clean_300 : decode b_LogCleanerModel_clean 300 = .ok (.iconst 0, 1) := by decide +kernel
theorem d_LogCleanerModel_clean_301 : decode b_LogCleanerModel_clean 301 = .ok (.goto 4, 3) := by decide +kernel
theorem d_LogCleanerModel_clean_304 : decode b_LogCleanerModel_clean 304 = .ok (.iconst 1, 1) := by decide +kernel
theorem d_LogCleanerModel_clean_305 : decode b_LogCleanerModel_clean 305 = .ok (.iadd, 1) := by decide +kernel
theorem d_LogCleanerModel_clean_306 : decode b_LogCleanerModel_clean 306 = .ok (.istore 6, 2) := by decide +kernel
theorem d_LogCleanerModel_clean_308 : decode b_LogCleanerModel_clean 308 = .ok (.iload 9, 2) := by decide +kernel
theorem d_LogCleanerModel_clean_310 : decode b_LogCleanerModel_clean 310 = .ok (.ifCond .eq 11, 3) := by decide +kernel
theorem d_LogCleanerModel_clean_313 : decode b_LogCleanerModel_clean 313 = .ok (.iload 5, 2) := by decide +kernel
theorem d_LogCleanerModel_clean_315 : decode b_LogCleanerModel_clean 315 = .ok (.iload 8, 2) := by decide +kernel
theorem d_LogCleanerModel_clean_317 : decode b_LogCleanerModel_clean 317 = .ok (.iadd, 1) := by decide +kernel
theorem d_LogCleanerModel_clean_318 : decode b_LogCleanerModel_clean 318 = .ok (.goto 5, 3) := by decide +kernel
theorem d_LogCleanerModel_clean_321 : decode b_LogCleanerModel_clean 321 = .ok (.iload 8, 2) := by decide +kernel
theorem d_LogCleanerModel_clean_323 : decode b_LogCleanerModel_clean 323 = .ok (.istore 5, 2) := by decide +kernel
theorem d_LogCleanerModel_clean_325 : decode b_LogCleanerModel_clean 325 = .ok (.aload_n 0, 1) := by decide +kernel
theorem d_LogCleanerModel_clean_326 : decode b_LogCleanerModel_clean 326 = .ok (.getfield 54, 3) := by decide +kernel
theorem d_LogCleanerModel_clean_329 : decode b_LogCleanerModel_clean 329 = .ok (.iload 7, 2) := by decide +kernel
theorem d_LogCleanerModel_clean_331 : decode b_LogCleanerModel_clean 331 = .ok (.iload 6, 2) := by decide +kernel
theorem d_LogCleanerModel_clean_333 : decode b_LogCleanerModel_clean 333 = .ok (.iastore, 1) := by decide +kernel
theorem d_LogCleanerModel_clean_334 : decode b_LogCleanerModel_clean 334 = .ok (.goto 22, 3) := by decide +kernel
theorem d_LogCleanerModel_clean_337 : decode b_LogCleanerModel_clean 337 = .ok (.aload_n 0, 1) := by decide +kernel
theorem d_LogCleanerModel_clean_338 : decode b_LogCleanerModel_clean 338 = .ok (.getfield 54, 3) := by decide +kernel
theorem d_LogCleanerModel_clean_341 : decode b_LogCleanerModel_clean 341 = .ok (.iload 7, 2) := by decide +kernel
theorem d_LogCleanerModel_clean_343 : decode b_LogCleanerModel_clean 343 = .ok (.iload_n 3, 1) := by decide +kernel
theorem d_LogCleanerModel_clean_344 : decode b_LogCleanerModel_clean 344 = .ok (.ifCond .ne 7, 3) := by decide +kernel
theorem d_LogCleanerModel_clean_347 : decode b_LogCleanerModel_clean 347 = .ok (.iconst 0, 1) := by decide +kernel
theorem d_LogCleanerModel_clean_348 : decode b_LogCleanerModel_clean 348 = .ok (.goto 7, 3) := by decide +kernel
theorem d_LogCleanerModel_clean_351 : decode b_LogCleanerModel_clean 351 = .ok (.iload 6, 2) := by decide +kernel
theorem d_LogCleanerModel_clean_353 : decode b_LogCleanerModel_clean 353 = .ok (.iconst 1, 1) := by decide +kernel
theorem d_LogCleanerModel_clean_354 : decode b_LogCleanerModel_clean 354 = .ok (.iadd, 1) := by decide +kernel
theorem d_LogCleanerModel_clean_355 : decode b_LogCleanerModel_clean 355 = .ok (.iastore, 1) := by decide +kernel
theorem d_LogCleanerModel_clean_356 : decode b_LogCleanerModel_clean 356 = .ok (.iinc 7 1, 3) := by decide +kernel
theorem d_LogCleanerModel_clean_359 : decode b_LogCleanerModel_clean 359 = .ok (.goto (-112), 3) := by decide +kernel
theorem d_LogCleanerModel_clean_362 : decode b_LogCleanerModel_clean 362 = .ok (.iload 4, 2) := by decide +kernel
theorem d_LogCleanerModel_clean_364 : decode b_LogCleanerModel_clean 364 = .ok (.ireturn, 1) := by decide +kernel
def rm_LogCleanerModel_clean : Room := { frames := 2, cells := 0, slots := 0, locals := 45 }
def ws_LogCleanerModel_clean : List Cond := Cond.code y_LogCleanerModel_clean b_LogCleanerModel_clean 10 (some .int) :: TB
set_option maxHeartbeats 4000000 in
set_option maxRecDepth 100000 in
theorem sb_LogCleanerModel_clean_356 {p : Program} {l : Launch} {e : Env} {s : State} {m : MethodId} {args : Array Value} {below : List Frame} {meth : Method} {c : Code} {D : va_G} {d : Nat → ClassId} {A : Nat → Prop} {h0 : xw} {Q : Int32 → xw → Prop} {k247 : Nat → Int32 → Int32 → Int32 → Int32 → Int32 → xw → Prop} (C0 : xctx p s m args meth c b_LogCleanerModel_clean 10 (some .int) R_LogCleanerModel D d A True) (hk247 : ∀ (x0 : Nat) (x3 : Int32) (x4 : Int32) (x5 : Int32) (x6 : Int32) (x7 : Int32) (h : xw) (H : Heap) (locs : List Loc) (ls : Array Slot), k247 x0 x3 x4 x5 x6 x7 h → xR sgM h0 D A h H → va_S A s.heap H locs → lv_has ls 10 [(0, .ref x0), (3, .int x3), (4, .int x4), (5, .int x5), (6, .int x6), (7, .int x7)] → W p l e rm_LogCleanerModel_clean s m args below meth c H locs 0 0 (MQ below (va_Qi (fun r u => Q r u ∧ xfr sgM h0 u) (xB D d A) A) args s 0 0 A) (F0 m 247 ls [])) : ∀ (x0 : Nat) (x3 : Int32) (x4 : Int32) (x5 : Int32) (x6 : Int32) (x7 : Int32) (h : xw) (H : Heap) (locs : List Loc) (ls : Array Slot), wb_LogCleanerModel_clean_356 d k247 Q x0 x3 x4 x5 x6 x7 h → xR sgM h0 D A h H → va_S A s.heap H locs → lv_has ls 10 [(0, .ref x0), (3, .int x3), (4, .int x4), (5, .int x5), (6, .int x6), (7, .int x7)] → W p l e rm_LogCleanerModel_clean s m args below meth c H locs 0 0 (MQ below (va_Qi (fun r u => Q r u ∧ xfr sgM h0 u) (xB D d A) A) args s 0 0 A) (F0 m 356 ls []) := by
  obtain ⟨hx, hb, hr, hml, hown, htb, hK, hA, hNB, hlocks, hXT⟩ := id C0
  intro x0 x3 x4 x5 x6 x7 h H locs ls hw hP hS hl
  refine lv_iinc (v := x7 + 1) (lv' := [(7, .int (x7 + 1)), (0, .ref x0), (3, .int x3), (4, .int x4), (5, .int x5), (6, .int x6)]) hx hb d_LogCleanerModel_clean_356 hl (k := 5) rfl rfl (by decide) rfl (fun ls hl => ?_)
  refine lv_goto (tgt := 247) hx hb d_LogCleanerModel_clean_359 (by decide) ?_
  exact hk247 x0 x3 x4 x5 x6 (x7 + 1) h _ _ _ hw hP hS (lv_sub hl [1, 2, 3, 4, 5, 0] rfl)

set_option maxHeartbeats 4000000 in
set_option maxRecDepth 100000 in
theorem sb_LogCleanerModel_clean_355 {p : Program} {l : Launch} {e : Env} {s : State} {m : MethodId} {args : Array Value} {below : List Frame} {meth : Method} {c : Code} {D : va_G} {d : Nat → ClassId} {A : Nat → Prop} {h0 : xw} {Q : Int32 → xw → Prop} {k247 : Nat → Int32 → Int32 → Int32 → Int32 → Int32 → xw → Prop} (C0 : xctx p s m args meth c b_LogCleanerModel_clean 10 (some .int) R_LogCleanerModel D d A True) (hk247 : ∀ (x0 : Nat) (x3 : Int32) (x4 : Int32) (x5 : Int32) (x6 : Int32) (x7 : Int32) (h : xw) (H : Heap) (locs : List Loc) (ls : Array Slot), k247 x0 x3 x4 x5 x6 x7 h → xR sgM h0 D A h H → va_S A s.heap H locs → lv_has ls 10 [(0, .ref x0), (3, .int x3), (4, .int x4), (5, .int x5), (6, .int x6), (7, .int x7)] → W p l e rm_LogCleanerModel_clean s m args below meth c H locs 0 0 (MQ below (va_Qi (fun r u => Q r u ∧ xfr sgM h0 u) (xB D d A) A) args s 0 0 A) (F0 m 247 ls [])) : ∀ (x0 : Nat) (x3 : Int32) (x4 : Int32) (x5 : Int32) (x6 : Int32) (x7 : Int32) (s0 : Int32) (s1 : Int32) (s2 : Option Nat) (h : xw) (H : Heap) (locs : List Loc) (ls : Array Slot), wb_LogCleanerModel_clean_355 d k247 Q x0 x3 x4 x5 x6 x7 s0 s1 s2 h → xR sgM h0 D A h H → va_S A s.heap H locs → lv_has ls 10 [(0, .ref x0), (3, .int x3), (4, .int x4), (5, .int x5), (6, .int x6), (7, .int x7)] → W p l e rm_LogCleanerModel_clean s m args below meth c H locs 0 0 (MQ below (va_Qi (fun r u => Q r u ∧ xfr sgM h0 u) (xB D d A) A) args s 0 0 A) (F0 m 355 ls [.int s0, .int s1, va_rf s2]) := by
  obtain ⟨hx, hb, hr, hml, hown, htb, hK, hA, hNB, hlocks, hXT⟩ := id C0
  intro x0 x3 x4 x5 x6 x7 s0 s1 s2 h H locs ls hw hP hS hl
  obtain ⟨p11, hpe, hw⟩ := hw
  revert hw
  revert hl
  subst hpe
  intro hl hw
  replace hl : lv_has ls 10 [(0, .ref x0), (3, .int x3), (4, .int x4), (5, .int x5), (6, .int x6), (7, .int x7)] := hl
  refine xsti hx hb hK hP hS 2 rfl (fun _ _ => rfl) hw d_LogCleanerModel_clean_355 (fun h12 H locs hw hP hS => ?_)
  exact sb_LogCleanerModel_clean_356 C0 hk247 x0 x3 x4 x5 x6 x7 h12 _ _ _ hw hP hS (lv_sub hl [0, 1, 2, 3, 4, 5] rfl)

set_option maxHeartbeats 4000000 in
set_option maxRecDepth 100000 in
theorem sb_LogCleanerModel_clean_323 {p : Program} {l : Launch} {e : Env} {s : State} {m : MethodId} {args : Array Value} {below : List Frame} {meth : Method} {c : Code} {D : va_G} {d : Nat → ClassId} {A : Nat → Prop} {h0 : xw} {Q : Int32 → xw → Prop} {k247 : Nat → Int32 → Int32 → Int32 → Int32 → Int32 → xw → Prop} (C0 : xctx p s m args meth c b_LogCleanerModel_clean 10 (some .int) R_LogCleanerModel D d A True) (hk247 : ∀ (x0 : Nat) (x3 : Int32) (x4 : Int32) (x5 : Int32) (x6 : Int32) (x7 : Int32) (h : xw) (H : Heap) (locs : List Loc) (ls : Array Slot), k247 x0 x3 x4 x5 x6 x7 h → xR sgM h0 D A h H → va_S A s.heap H locs → lv_has ls 10 [(0, .ref x0), (3, .int x3), (4, .int x4), (5, .int x5), (6, .int x6), (7, .int x7)] → W p l e rm_LogCleanerModel_clean s m args below meth c H locs 0 0 (MQ below (va_Qi (fun r u => Q r u ∧ xfr sgM h0 u) (xB D d A) A) args s 0 0 A) (F0 m 247 ls [])) : ∀ (x0 : Nat) (x3 : Int32) (x4 : Int32) (x6 : Int32) (x7 : Int32) (s0 : Int32) (h : xw) (H : Heap) (locs : List Loc) (ls : Array Slot), wb_LogCleanerModel_clean_323 d k247 Q x0 x3 x4 x6 x7 s0 h → xR sgM h0 D A h H → va_S A s.heap H locs → lv_has ls 10 [(0, .ref x0), (3, .int x3), (4, .int x4), (6, .int x6), (7, .int x7)] → W p l e rm_LogCleanerModel_clean s m args below meth c H locs 0 0 (MQ below (va_Qi (fun r u => Q r u ∧ xfr sgM h0 u) (xB D d A) A) args s 0 0 A) (F0 m 323 ls [.int s0]) := by
  obtain ⟨hx, hb, hr, hml, hown, htb, hK, hA, hNB, hlocks, hXT⟩ := id C0
  intro x0 x3 x4 x6 x7 s0 h H locs ls hw hP hS hl
  refine lv_istore (lv' := [(5, .int s0), (0, .ref x0), (3, .int x3), (4, .int x4), (6, .int x6), (7, .int x7)]) hx hb d_LogCleanerModel_clean_323 hl (by decide) rfl (fun ls hl => ?_)
  refine lv_aload_n hx hb d_LogCleanerModel_clean_325 rfl (lv_at hl 1 rfl) ?_
  refine xgetA hx hb htb i_LogCleanerModel hown hK hP (ci := 4) rfl 19 (by decide) (htb _ k_LogCleanerModel_54) (fun _ h9 => h9) hw d_LogCleanerModel_clean_326 (fun r13 hw => ?_)
  refine lv_iload hx hb d_LogCleanerModel_clean_329 (lv_at hl 5 rfl) ?_
  refine lv_iload hx hb d_LogCleanerModel_clean_331 (lv_at hl 4 rfl) ?_
  obtain ⟨p14, hpe, hw⟩ := hw
  revert hw
  revert hl
  subst hpe
  intro hl hw
  replace hl : lv_has ls 10 [(5, .int s0), (0, .ref x0), (3, .int x3), (4, .int x4), (6, .int x6), (7, .int x7)] := hl
  refine xsti hx hb hK hP hS 2 rfl (fun _ _ => rfl) hw d_LogCleanerModel_clean_333 (fun h15 H locs hw hP hS => ?_)
  refine lv_goto (tgt := 356) hx hb d_LogCleanerModel_clean_334 (by decide) ?_
  exact sb_LogCleanerModel_clean_356 C0 hk247 x0 x3 x4 s0 x6 x7 h15 _ _ _ hw hP hS (lv_sub hl [1, 2, 3, 0, 4, 5] rfl)

set_option maxHeartbeats 4000000 in
set_option maxRecDepth 100000 in
theorem sb_LogCleanerModel_clean_305 {p : Program} {l : Launch} {e : Env} {s : State} {m : MethodId} {args : Array Value} {below : List Frame} {meth : Method} {c : Code} {D : va_G} {d : Nat → ClassId} {A : Nat → Prop} {h0 : xw} {Q : Int32 → xw → Prop} {k247 : Nat → Int32 → Int32 → Int32 → Int32 → Int32 → xw → Prop} (C0 : xctx p s m args meth c b_LogCleanerModel_clean 10 (some .int) R_LogCleanerModel D d A True) (hk247 : ∀ (x0 : Nat) (x3 : Int32) (x4 : Int32) (x5 : Int32) (x6 : Int32) (x7 : Int32) (h : xw) (H : Heap) (locs : List Loc) (ls : Array Slot), k247 x0 x3 x4 x5 x6 x7 h → xR sgM h0 D A h H → va_S A s.heap H locs → lv_has ls 10 [(0, .ref x0), (3, .int x3), (4, .int x4), (5, .int x5), (6, .int x6), (7, .int x7)] → W p l e rm_LogCleanerModel_clean s m args below meth c H locs 0 0 (MQ below (va_Qi (fun r u => Q r u ∧ xfr sgM h0 u) (xB D d A) A) args s 0 0 A) (F0 m 247 ls [])) : ∀ (x0 : Nat) (x3 : Int32) (x4 : Int32) (x5 : Int32) (x7 : Int32) (x8 : Int32) (x9 : Int32) (s0 : Int32) (s1 : Int32) (h : xw) (H : Heap) (locs : List Loc) (ls : Array Slot), wb_LogCleanerModel_clean_305 d k247 Q x0 x3 x4 x5 x7 x8 x9 s0 s1 h → xR sgM h0 D A h H → va_S A s.heap H locs → lv_has ls 10 [(0, .ref x0), (3, .int x3), (4, .int x4), (5, .int x5), (7, .int x7), (8, .int x8), (9, .int x9)] → W p l e rm_LogCleanerModel_clean s m args below meth c H locs 0 0 (MQ below (va_Qi (fun r u => Q r u ∧ xfr sgM h0 u) (xB D d A) A) args s 0 0 A) (F0 m 305 ls [.int s0, .int s1]) := by
  obtain ⟨hx, hb, hr, hml, hown, htb, hK, hA, hNB, hlocks, hXT⟩ := id C0
  intro x0 x3 x4 x5 x7 x8 x9 s0 s1 h H locs ls hw hP hS hl
  refine lv_iadd hx hb d_LogCleanerModel_clean_305 ?_
  refine lv_istore (lv' := [(6, .int (s1 + s0)), (0, .ref x0), (3, .int x3), (4, .int x4), (5, .int x5), (7, .int x7), (8, .int x8), (9, .int x9)]) hx hb d_LogCleanerModel_clean_306 hl (by decide) rfl (fun ls hl => ?_)
  refine lv_iload hx hb d_LogCleanerModel_clean_308 (lv_at hl 7 rfl) ?_
  refine lv_if_eq (tgt := 321) hx hb d_LogCleanerModel_clean_310 (by decide) (fun cq => ?_) (fun cq => ?_)
  · replace hw := hw.1 cq
    refine lv_iload hx hb d_LogCleanerModel_clean_321 (lv_at hl 6 rfl) ?_
    exact sb_LogCleanerModel_clean_323 C0 hk247 x0 x3 x4 (s1 + s0) x7 x8 h _ _ _ hw hP hS (lv_sub hl [1, 2, 3, 0, 5] rfl)
  · replace hw := hw.2 cq
    refine lv_iload hx hb d_LogCleanerModel_clean_313 (lv_at hl 4 rfl) ?_
    refine lv_iload hx hb d_LogCleanerModel_clean_315 (lv_at hl 6 rfl) ?_
    refine lv_iadd hx hb d_LogCleanerModel_clean_317 ?_
    refine lv_goto (tgt := 323) hx hb d_LogCleanerModel_clean_318 (by decide) ?_
    exact sb_LogCleanerModel_clean_323 C0 hk247 x0 x3 x4 (s1 + s0) x7 (x5 + x8) h _ _ _ hw hP hS (lv_sub hl [1, 2, 3, 0, 5] rfl)

set_option maxHeartbeats 4000000 in
set_option maxRecDepth 100000 in
theorem sb_LogCleanerModel_clean_291 {p : Program} {l : Launch} {e : Env} {s : State} {m : MethodId} {args : Array Value} {below : List Frame} {meth : Method} {c : Code} {D : va_G} {d : Nat → ClassId} {A : Nat → Prop} {h0 : xw} {Q : Int32 → xw → Prop} {k247 : Nat → Int32 → Int32 → Int32 → Int32 → Int32 → xw → Prop} (C0 : xctx p s m args meth c b_LogCleanerModel_clean 10 (some .int) R_LogCleanerModel D d A True) (hk247 : ∀ (x0 : Nat) (x3 : Int32) (x4 : Int32) (x5 : Int32) (x6 : Int32) (x7 : Int32) (h : xw) (H : Heap) (locs : List Loc) (ls : Array Slot), k247 x0 x3 x4 x5 x6 x7 h → xR sgM h0 D A h H → va_S A s.heap H locs → lv_has ls 10 [(0, .ref x0), (3, .int x3), (4, .int x4), (5, .int x5), (6, .int x6), (7, .int x7)] → W p l e rm_LogCleanerModel_clean s m args below meth c H locs 0 0 (MQ below (va_Qi (fun r u => Q r u ∧ xfr sgM h0 u) (xB D d A) A) args s 0 0 A) (F0 m 247 ls [])) : ∀ (x0 : Nat) (x3 : Int32) (x4 : Int32) (x5 : Int32) (x6 : Int32) (x7 : Int32) (x8 : Int32) (s0 : Int32) (h : xw) (H : Heap) (locs : List Loc) (ls : Array Slot), wb_LogCleanerModel_clean_291 d k247 Q x0 x3 x4 x5 x6 x7 x8 s0 h → xR sgM h0 D A h H → va_S A s.heap H locs → lv_has ls 10 [(0, .ref x0), (3, .int x3), (4, .int x4), (5, .int x5), (6, .int x6), (7, .int x7), (8, .int x8)] → W p l e rm_LogCleanerModel_clean s m args below meth c H locs 0 0 (MQ below (va_Qi (fun r u => Q r u ∧ xfr sgM h0 u) (xB D d A) A) args s 0 0 A) (F0 m 291 ls [.int s0]) := by
  obtain ⟨hx, hb, hr, hml, hown, htb, hK, hA, hNB, hlocks, hXT⟩ := id C0
  intro x0 x3 x4 x5 x6 x7 x8 s0 h H locs ls hw hP hS hl
  refine lv_istore (lv' := [(9, .int s0), (0, .ref x0), (3, .int x3), (4, .int x4), (5, .int x5), (6, .int x6), (7, .int x7), (8, .int x8)]) hx hb d_LogCleanerModel_clean_291 hl (by decide) rfl (fun ls hl => ?_)
  refine lv_iload hx hb d_LogCleanerModel_clean_293 (lv_at hl 5 rfl) ?_
  refine lv_iload hx hb d_LogCleanerModel_clean_295 (lv_at hl 0 rfl) ?_
  refine lv_if_eq (tgt := 304) hx hb d_LogCleanerModel_clean_297 (by decide) (fun cq => ?_) (fun cq => ?_)
  · replace hw := hw.1 cq
    refine lv_iconst (v := 1) hx hb d_LogCleanerModel_clean_304 (by decide) ?_
    exact sb_LogCleanerModel_clean_305 C0 hk247 x0 x3 x4 x5 x7 x8 s0 1 x6 h _ _ _ hw hP hS (lv_sub hl [1, 2, 3, 4, 6, 7, 0] rfl)
  · replace hw := hw.2 cq
    refine lv_iconst (v := 0) hx hb d_LogCleanerModel_clean_300 (by decide) ?_
    refine lv_goto (tgt := 305) hx hb d_LogCleanerModel_clean_301 (by decide) ?_
    exact sb_LogCleanerModel_clean_305 C0 hk247 x0 x3 x4 x5 x7 x8 s0 0 x6 h _ _ _ hw hP hS (lv_sub hl [1, 2, 3, 4, 6, 7, 0] rfl)

set_option maxHeartbeats 4000000 in
set_option maxRecDepth 100000 in
theorem sb_LogCleanerModel_clean_286 {p : Program} {l : Launch} {e : Env} {s : State} {m : MethodId} {args : Array Value} {below : List Frame} {meth : Method} {c : Code} {D : va_G} {d : Nat → ClassId} {A : Nat → Prop} {h0 : xw} {Q : Int32 → xw → Prop} {k247 : Nat → Int32 → Int32 → Int32 → Int32 → Int32 → xw → Prop} (C0 : xctx p s m args meth c b_LogCleanerModel_clean 10 (some .int) R_LogCleanerModel D d A True) (hk247 : ∀ (x0 : Nat) (x3 : Int32) (x4 : Int32) (x5 : Int32) (x6 : Int32) (x7 : Int32) (h : xw) (H : Heap) (locs : List Loc) (ls : Array Slot), k247 x0 x3 x4 x5 x6 x7 h → xR sgM h0 D A h H → va_S A s.heap H locs → lv_has ls 10 [(0, .ref x0), (3, .int x3), (4, .int x4), (5, .int x5), (6, .int x6), (7, .int x7)] → W p l e rm_LogCleanerModel_clean s m args below meth c H locs 0 0 (MQ below (va_Qi (fun r u => Q r u ∧ xfr sgM h0 u) (xB D d A) A) args s 0 0 A) (F0 m 247 ls [])) : ∀ (x0 : Nat) (x3 : Int32) (x4 : Int32) (x5 : Int32) (x6 : Int32) (x7 : Int32) (x8 : Int32) (h : xw) (H : Heap) (locs : List Loc) (ls : Array Slot), wb_LogCleanerModel_clean_286 d k247 Q x0 x3 x4 x5 x6 x7 x8 h → xR sgM h0 D A h H → va_S A s.heap H locs → lv_has ls 10 [(0, .ref x0), (3, .int x3), (4, .int x4), (5, .int x5), (6, .int x6), (7, .int x7), (8, .int x8)] → W p l e rm_LogCleanerModel_clean s m args below meth c H locs 0 0 (MQ below (va_Qi (fun r u => Q r u ∧ xfr sgM h0 u) (xB D d A) A) args s 0 0 A) (F0 m 286 ls []) := by
  obtain ⟨hx, hb, hr, hml, hown, htb, hK, hA, hNB, hlocks, hXT⟩ := id C0
  intro x0 x3 x4 x5 x6 x7 x8 h H locs ls hw hP hS hl
  refine lv_iconst (v := 1) hx hb d_LogCleanerModel_clean_286 (by decide) ?_
  refine lv_goto (tgt := 291) hx hb d_LogCleanerModel_clean_287 (by decide) ?_
  exact sb_LogCleanerModel_clean_291 C0 hk247 x0 x3 x4 x5 x6 x7 x8 1 h _ _ _ hw hP hS (lv_sub hl [0, 1, 2, 3, 4, 5, 6] rfl)

set_option maxHeartbeats 4000000 in
set_option maxRecDepth 100000 in
theorem sl_LogCleanerModel_clean_247 {p : Program} {l : Launch} {e : Env} {s : State} {m : MethodId} {args : Array Value} {below : List Frame} {meth : Method} {c : Code} {D : va_G} {d : Nat → ClassId} {A : Nat → Prop} {h0 : xw} {Q : Int32 → xw → Prop} (C0 : xctx p s m args meth c b_LogCleanerModel_clean 10 (some .int) R_LogCleanerModel D d A True) : ∀ (n : Nat) (x : Nat × Int32 × Int32 × Int32 × Int32 × Int32) (h : xw) (H : Heap) (locs : List Loc) (ls : Array Slot), xloop (fun (k : Nat × Int32 × Int32 × Int32 × Int32 × Int32 → xw → Prop) (x : Nat × Int32 × Int32 × Int32 × Int32 × Int32) (h : xw) => wc_LogCleanerModel_clean_247 d Q (fun y0 y3 y4 y5 y6 y7 h => k (y0, y3, y4, y5, y6, y7) h) x.1 x.2.1 x.2.2.1 x.2.2.2.1 x.2.2.2.2.1 x.2.2.2.2.2 h) n x h → xR sgM h0 D A h H → va_S A s.heap H locs → lv_has ls 10 [(0, .ref x.1), (3, .int x.2.1), (4, .int x.2.2.1), (5, .int x.2.2.2.1), (6, .int x.2.2.2.2.1), (7, .int x.2.2.2.2.2)] → W p l e rm_LogCleanerModel_clean s m args below meth c H locs 0 0 (MQ below (va_Qi (fun r u => Q r u ∧ xfr sgM h0 u) (xB D d A) A) args s 0 0 A) (F0 m 247 ls []) := by
  obtain ⟨hx, hb, hr, hml, hown, htb, hK, hA, hNB, hlocks, hXT⟩ := id C0
  intro n
  induction n with
  | zero => intro x h H locs ls hw; exact hw.elim
  | succ n ih =>
    rintro ⟨x0, x3, x4, x5, x6, x7⟩ h H locs ls hw hP hS hl
    replace hw : wc_LogCleanerModel_clean_247 d Q (fun y0 y3 y4 y5 y6 y7 h => xloop (fun (k : Nat × Int32 × Int32 × Int32 × Int32 × Int32 → xw → Prop) (x : Nat × Int32 × Int32 × Int32 × Int32 × Int32) (h : xw) => wc_LogCleanerModel_clean_247 d Q (fun y0 y3 y4 y5 y6 y7 h => k (y0, y3, y4, y5, y6, y7) h) x.1 x.2.1 x.2.2.1 x.2.2.2.1 x.2.2.2.2.1 x.2.2.2.2.2 h) n (y0, y3, y4, y5, y6, y7) h) x0 x3 x4 x5 x6 x7 h := hw
    have hk247 := fun (x0 : Nat) (x3 : Int32) (x4 : Int32) (x5 : Int32) (x6 : Int32) (x7 : Int32) => ih (x0, x3, x4, x5, x6, x7)
    refine lv_iload hx hb d_LogCleanerModel_clean_247 (lv_at hl 5 rfl) ?_
    refine lv_aload_n hx hb d_LogCleanerModel_clean_249 rfl (lv_at hl 0 rfl) ?_
    refine xgetI hx hb htb i_LogCleanerModel hown hK hP (ci := 4) rfl 16 (by decide) (htb _ k_LogCleanerModel_82) (fun _ h9 => h9) hw d_LogCleanerModel_clean_250 (fun v7 hw => ?_)
    refine lv_icmp_ge (tgt := 362) hx hb d_LogCleanerModel_clean_253 (by decide) (fun cq => ?_) (fun cq => ?_)
    · replace hw := hw.1 cq
      refine lv_iload hx hb d_LogCleanerModel_clean_362 (lv_at hl 2 rfl) ?_
      refine W.widen (k := 0) (n := 0) (Nat.le_of_ble_eq_true rfl) (Nat.le_of_ble_eq_true rfl) ?_
      exact xretI C0 hw hP hS d_LogCleanerModel_clean_364
    · replace hw := hw.2 cq
      refine lv_aload_n hx hb d_LogCleanerModel_clean_256 rfl (lv_at hl 0 rfl) ?_
      refine lv_iload hx hb d_LogCleanerModel_clean_257 (lv_at hl 5 rfl) ?_
      obtain ⟨⟨_, hw0⟩, hw⟩ := hw
      refine xcalli (va_runV (b := x0) (As := [.int x7]) (rest := []) ⟨hx, hb, hml, hown, htb⟩ (m_LogCleanerModel_sizeOf l D d h _ x0 x7 _ hw) (xcwV 1 htb g_code_LogCleanerModel_sizeOf g_ini_LogCleanerModel k_LogCleanerModel_88 g_im_LogCleanerModel_sizeOf g_sel_LogCleanerModel_sizeOf rfl rfl (by decide +kernel) ⟨(Nat.le_of_ble_eq_true rfl), (Nat.le_of_ble_eq_true rfl)⟩) (xpreV hP hK hNB (ci := 4) rfl hw0) rfl rfl hl.1 rfl (lv_room (Nat.le_of_ble_eq_true rfl)) d_LogCleanerModel_clean_259 ⟨(Nat.le_of_ble_eq_true rfl), (Nat.le_of_ble_eq_true rfl)⟩) hP hS hA (fun r9 h8 H locs hw hP hS => ?_)
      refine W.widen (k := 0) (n := 0) (Nat.le_of_ble_eq_true rfl) (Nat.le_of_ble_eq_true rfl) ?_
      refine lv_istore (lv' := [(8, .int r9), (0, .ref x0), (3, .int x3), (4, .int x4), (5, .int x5), (6, .int x6), (7, .int x7)]) hx hb d_LogCleanerModel_clean_262 hl (by decide) rfl (fun ls hl => ?_)
      refine lv_iload hx hb d_LogCleanerModel_clean_264 (lv_at hl 6 rfl) ?_
      refine lv_iload_n hx hb d_LogCleanerModel_clean_266 rfl (lv_at hl 2 rfl) ?_
      refine lv_icmp_ge (tgt := 337) hx hb d_LogCleanerModel_clean_267 (by decide) (fun cq => ?_) (fun cq => ?_)
      · replace hw := hw.1 cq
        refine lv_aload_n hx hb d_LogCleanerModel_clean_337 rfl (lv_at hl 1 rfl) ?_
        refine xgetA hx hb htb i_LogCleanerModel hown hK hP (ci := 4) rfl 19 (by decide) (htb _ k_LogCleanerModel_54) (fun _ h9 => h9) hw d_LogCleanerModel_clean_338 (fun r10 hw => ?_)
        refine lv_iload hx hb d_LogCleanerModel_clean_341 (lv_at hl 6 rfl) ?_
        refine lv_iload_n hx hb d_LogCleanerModel_clean_343 rfl (lv_at hl 2 rfl) ?_
        refine lv_if_ne (tgt := 351) hx hb d_LogCleanerModel_clean_344 (by decide) (fun cq => ?_) (fun cq => ?_)
        · replace hw := hw.2 cq
          refine lv_iload hx hb d_LogCleanerModel_clean_351 (lv_at hl 5 rfl) ?_
          refine lv_iconst (v := 1) hx hb d_LogCleanerModel_clean_353 (by decide) ?_
          refine lv_iadd hx hb d_LogCleanerModel_clean_354 ?_
          exact sb_LogCleanerModel_clean_355 C0 hk247 x0 x3 x4 x5 x6 x7 (x6 + 1) x7 r10 h8 _ _ _ hw hP hS (lv_sub hl [1, 2, 3, 4, 5, 6] rfl)
        · replace hw := hw.1 cq
          refine lv_iconst (v := 0) hx hb d_LogCleanerModel_clean_347 (by decide) ?_
          refine lv_goto (tgt := 355) hx hb d_LogCleanerModel_clean_348 (by decide) ?_
          exact sb_LogCleanerModel_clean_355 C0 hk247 x0 x3 x4 x5 x6 x7 0 x7 r10 h8 _ _ _ hw hP hS (lv_sub hl [1, 2, 3, 4, 5, 6] rfl)
      · replace hw := hw.2 cq
        refine lv_iload hx hb d_LogCleanerModel_clean_270 (lv_at hl 6 rfl) ?_
        refine lv_if_eq (tgt := 286) hx hb d_LogCleanerModel_clean_272 (by decide) (fun cq => ?_) (fun cq => ?_)
        · replace hw := hw.1 cq
          exact sb_LogCleanerModel_clean_286 C0 hk247 x0 x3 x4 x5 x6 x7 r9 h8 _ _ _ hw hP hS (lv_sub hl [1, 2, 3, 4, 5, 6, 0] rfl)
        · replace hw := hw.2 cq
          refine lv_iload hx hb d_LogCleanerModel_clean_275 (lv_at hl 4 rfl) ?_
          refine lv_iload hx hb d_LogCleanerModel_clean_277 (lv_at hl 0 rfl) ?_
          refine lv_iadd hx hb d_LogCleanerModel_clean_279 ?_
          refine lv_sipush (v := 1000) hx hb d_LogCleanerModel_clean_280 (by decide) ?_
          refine lv_icmp_gt (tgt := 290) hx hb d_LogCleanerModel_clean_283 (by decide) (fun cq => ?_) (fun cq => ?_)
          · replace hw := hw.1 cq
            refine lv_iconst (v := 0) hx hb d_LogCleanerModel_clean_290 (by decide) ?_
            exact sb_LogCleanerModel_clean_291 C0 hk247 x0 x3 x4 x5 x6 x7 r9 0 h8 _ _ _ hw hP hS (lv_sub hl [1, 2, 3, 4, 5, 6, 0] rfl)
          · replace hw := hw.2 cq
            exact sb_LogCleanerModel_clean_286 C0 hk247 x0 x3 x4 x5 x6 x7 r9 h8 _ _ _ hw hP hS (lv_sub hl [1, 2, 3, 4, 5, 6, 0] rfl)

set_option maxHeartbeats 4000000 in
set_option maxRecDepth 100000 in
theorem sb_LogCleanerModel_clean_218 {p : Program} {l : Launch} {e : Env} {s : State} {m : MethodId} {args : Array Value} {below : List Frame} {meth : Method} {c : Code} {D : va_G} {d : Nat → ClassId} {A : Nat → Prop} {h0 : xw} {Q : Int32 → xw → Prop} {k76 : Nat → Int32 → Int32 → Int32 → xw → Prop} (C0 : xctx p s m args meth c b_LogCleanerModel_clean 10 (some .int) R_LogCleanerModel D d A True) (hk76 : ∀ (x0 : Nat) (x2 : Int32) (x3 : Int32) (x4 : Int32) (h : xw) (H : Heap) (locs : List Loc) (ls : Array Slot), k76 x0 x2 x3 x4 h → xR sgM h0 D A h H → va_S A s.heap H locs → lv_has ls 10 [(0, .ref x0), (2, .int x2), (3, .int x3), (4, .int x4)] → W p l e rm_LogCleanerModel_clean s m args below meth c H locs 0 0 (MQ below (va_Qi (fun r u => Q r u ∧ xfr sgM h0 u) (xB D d A) A) args s 0 0 A) (F0 m 76 ls [])) : ∀ (x0 : Nat) (x2 : Int32) (x4 : Int32) (s0 : Int32) (s1 : Int32) (h : xw) (H : Heap) (locs : List Loc) (ls : Array Slot), wb_LogCleanerModel_clean_218 d k76 Q x0 x2 x4 s0 s1 h → xR sgM h0 D A h H → va_S A s.heap H locs → lv_has ls 10 [(0, .ref x0), (2, .int x2), (4, .int x4)] → W p l e rm_LogCleanerModel_clean s m args below meth c H locs 0 0 (MQ below (va_Qi (fun r u => Q r u ∧ xfr sgM h0 u) (xB D d A) A) args s 0 0 A) (F0 m 218 ls [.int s0, .int s1]) := by
  obtain ⟨hx, hb, hr, hml, hown, htb, hK, hA, hNB, hlocks, hXT⟩ := id C0
  intro x0 x2 x4 s0 s1 h H locs ls hw hP hS hl
  refine lv_iadd hx hb d_LogCleanerModel_clean_218 ?_
  refine lv_istore_n (lv' := [(3, .int (s1 + s0)), (0, .ref x0), (2, .int x2), (4, .int x4)]) hx hb d_LogCleanerModel_clean_219 rfl hl (by decide) rfl (fun ls hl => ?_)
  refine lv_iinc (v := x4 + 1) (lv' := [(4, .int (x4 + 1)), (3, .int (s1 + s0)), (0, .ref x0), (2, .int x2)]) hx hb d_LogCleanerModel_clean_220 hl (k := 3) rfl rfl (by decide) rfl (fun ls hl => ?_)
  refine lv_goto (tgt := 76) hx hb d_LogCleanerModel_clean_223 (by decide) ?_
  exact hk76 x0 x2 (s1 + s0) (x4 + 1) h _ _ _ hw hP hS (lv_sub hl [2, 3, 1, 0] rfl)

set_option maxHeartbeats 4000000 in
set_option maxRecDepth 100000 in
theorem sb_LogCleanerModel_clean_217 {p : Program} {l : Launch} {e : Env} {s : State} {m : MethodId} {args : Array Value} {below : List Frame} {meth : Method} {c : Code} {D : va_G} {d : Nat → ClassId} {A : Nat → Prop} {h0 : xw} {Q : Int32 → xw → Prop} {k76 : Nat → Int32 → Int32 → Int32 → xw → Prop} (C0 : xctx p s m args meth c b_LogCleanerModel_clean 10 (some .int) R_LogCleanerModel D d A True) (hk76 : ∀ (x0 : Nat) (x2 : Int32) (x3 : Int32) (x4 : Int32) (h : xw) (H : Heap) (locs : List Loc) (ls : Array Slot), k76 x0 x2 x3 x4 h → xR sgM h0 D A h H → va_S A s.heap H locs → lv_has ls 10 [(0, .ref x0), (2, .int x2), (3, .int x3), (4, .int x4)] → W p l e rm_LogCleanerModel_clean s m args below meth c H locs 0 0 (MQ below (va_Qi (fun r u => Q r u ∧ xfr sgM h0 u) (xB D d A) A) args s 0 0 A) (F0 m 76 ls [])) : ∀ (x0 : Nat) (x2 : Int32) (x4 : Int32) (s0 : Int32) (h : xw) (H : Heap) (locs : List Loc) (ls : Array Slot), wb_LogCleanerModel_clean_217 d k76 Q x0 x2 x4 s0 h → xR sgM h0 D A h H → va_S A s.heap H locs → lv_has ls 10 [(0, .ref x0), (2, .int x2), (4, .int x4)] → W p l e rm_LogCleanerModel_clean s m args below meth c H locs 0 0 (MQ below (va_Qi (fun r u => Q r u ∧ xfr sgM h0 u) (xB D d A) A) args s 0 0 A) (F0 m 217 ls [.int s0]) := by
  obtain ⟨hx, hb, hr, hml, hown, htb, hK, hA, hNB, hlocks, hXT⟩ := id C0
  intro x0 x2 x4 s0 h H locs ls hw hP hS hl
  refine lv_iconst (v := 0) hx hb d_LogCleanerModel_clean_217 (by decide) ?_
  exact sb_LogCleanerModel_clean_218 C0 hk76 x0 x2 x4 0 s0 h _ _ _ hw hP hS (lv_sub hl [0, 1, 2] rfl)

set_option maxHeartbeats 4000000 in
set_option maxRecDepth 100000 in
theorem sb_LogCleanerModel_clean_192 {p : Program} {l : Launch} {e : Env} {s : State} {m : MethodId} {args : Array Value} {below : List Frame} {meth : Method} {c : Code} {D : va_G} {d : Nat → ClassId} {A : Nat → Prop} {h0 : xw} {Q : Int32 → xw → Prop} {k76 : Nat → Int32 → Int32 → Int32 → xw → Prop} (C0 : xctx p s m args meth c b_LogCleanerModel_clean 10 (some .int) R_LogCleanerModel D d A True) (hk76 : ∀ (x0 : Nat) (x2 : Int32) (x3 : Int32) (x4 : Int32) (h : xw) (H : Heap) (locs : List Loc) (ls : Array Slot), k76 x0 x2 x3 x4 h → xR sgM h0 D A h H → va_S A s.heap H locs → lv_has ls 10 [(0, .ref x0), (2, .int x2), (3, .int x3), (4, .int x4)] → W p l e rm_LogCleanerModel_clean s m args below meth c H locs 0 0 (MQ below (va_Qi (fun r u => Q r u ∧ xfr sgM h0 u) (xB D d A) A) args s 0 0 A) (F0 m 76 ls [])) : ∀ (x0 : Nat) (x3 : Int32) (x4 : Int32) (s0 : Int32) (h : xw) (H : Heap) (locs : List Loc) (ls : Array Slot), wb_LogCleanerModel_clean_192 d k76 Q x0 x3 x4 s0 h → xR sgM h0 D A h H → va_S A s.heap H locs → lv_has ls 10 [(0, .ref x0), (3, .int x3), (4, .int x4)] → W p l e rm_LogCleanerModel_clean s m args below meth c H locs 0 0 (MQ below (va_Qi (fun r u => Q r u ∧ xfr sgM h0 u) (xB D d A) A) args s 0 0 A) (F0 m 192 ls [.int s0]) := by
  obtain ⟨hx, hb, hr, hml, hown, htb, hK, hA, hNB, hlocks, hXT⟩ := id C0
  intro x0 x3 x4 s0 h H locs ls hw hP hS hl
  refine lv_istore_n (lv' := [(2, .int s0), (0, .ref x0), (3, .int x3), (4, .int x4)]) hx hb d_LogCleanerModel_clean_192 rfl hl (by decide) rfl (fun ls hl => ?_)
  refine lv_iload_n hx hb d_LogCleanerModel_clean_193 rfl (lv_at hl 2 rfl) ?_
  refine lv_aload_n hx hb d_LogCleanerModel_clean_194 rfl (lv_at hl 1 rfl) ?_
  refine lv_iload hx hb d_LogCleanerModel_clean_195 (lv_at hl 3 rfl) ?_
  obtain ⟨⟨_, hw0⟩, hw⟩ := hw
  refine xcalli (va_runV (b := x0) (As := [.int x4]) (rest := [.int x3]) ⟨hx, hb, hml, hown, htb⟩ (m_LogCleanerModel_isClosed l D d h _ x0 x4 _ hw) (xcwV 1 htb g_code_LogCleanerModel_isClosed g_ini_LogCleanerModel k_LogCleanerModel_92 g_im_LogCleanerModel_isClosed g_sel_LogCleanerModel_isClosed rfl rfl (by decide +kernel) ⟨(Nat.le_of_ble_eq_true rfl), (Nat.le_of_ble_eq_true rfl)⟩) (xpreV hP hK hNB (ci := 4) rfl hw0) rfl rfl hl.1 rfl (lv_room (Nat.le_of_ble_eq_true rfl)) d_LogCleanerModel_clean_197 ⟨(Nat.le_of_ble_eq_true rfl), (Nat.le_of_ble_eq_true rfl)⟩) hP hS hA (fun r23 h22 H locs hw hP hS => ?_)
  refine W.widen (k := 0) (n := 0) (Nat.le_of_ble_eq_true rfl) (Nat.le_of_ble_eq_true rfl) ?_
  refine lv_if_eq (tgt := 217) hx hb d_LogCleanerModel_clean_200 (by decide) (fun cq => ?_) (fun cq => ?_)
  · replace hw := hw.1 cq
    exact sb_LogCleanerModel_clean_217 C0 hk76 x0 s0 x4 x3 h22 _ _ _ hw hP hS (lv_sub hl [1, 0, 3] rfl)
  · replace hw := hw.2 cq
    refine lv_aload_n hx hb d_LogCleanerModel_clean_203 rfl (lv_at hl 1 rfl) ?_
    refine xgetA hx hb htb i_LogCleanerModel hown hK hP (ci := 4) rfl 21 (by decide) (htb _ k_LogCleanerModel_60) (fun _ h9 => h9) hw d_LogCleanerModel_clean_204 (fun r24 hw => ?_)
    refine lv_iload hx hb d_LogCleanerModel_clean_207 (lv_at hl 3 rfl) ?_
    obtain ⟨p25, hpe, hw⟩ := hw
    revert hw
    revert hl
    subst hpe
    intro hl hw
    replace hl : lv_has ls 10 [(2, .int s0), (0, .ref x0), (3, .int x3), (4, .int x4)] := hl
    refine xldz hx hb hK hP 4 rfl hw d_LogCleanerModel_clean_209 (fun v26 hw => ?_)
    refine lv_if_eq (tgt := 217) hx hb d_LogCleanerModel_clean_210 (by decide) (fun cq => ?_) (fun cq => ?_)
    · replace hw := hw.1 cq
      exact sb_LogCleanerModel_clean_217 C0 hk76 x0 s0 x4 x3 h22 _ _ _ hw hP hS (lv_sub hl [1, 0, 3] rfl)
    · replace hw := hw.2 cq
      refine lv_iconst (v := 1) hx hb d_LogCleanerModel_clean_213 (by decide) ?_
      refine lv_goto (tgt := 218) hx hb d_LogCleanerModel_clean_214 (by decide) ?_
      exact sb_LogCleanerModel_clean_218 C0 hk76 x0 s0 x4 1 x3 h22 _ _ _ hw hP hS (lv_sub hl [1, 0, 3] rfl)

set_option maxHeartbeats 4000000 in
set_option maxRecDepth 100000 in
theorem sb_LogCleanerModel_clean_187 {p : Program} {l : Launch} {e : Env} {s : State} {m : MethodId} {args : Array Value} {below : List Frame} {meth : Method} {c : Code} {D : va_G} {d : Nat → ClassId} {A : Nat → Prop} {h0 : xw} {Q : Int32 → xw → Prop} {k76 : Nat → Int32 → Int32 → Int32 → xw → Prop} (C0 : xctx p s m args meth c b_LogCleanerModel_clean 10 (some .int) R_LogCleanerModel D d A True) (hk76 : ∀ (x0 : Nat) (x2 : Int32) (x3 : Int32) (x4 : Int32) (h : xw) (H : Heap) (locs : List Loc) (ls : Array Slot), k76 x0 x2 x3 x4 h → xR sgM h0 D A h H → va_S A s.heap H locs → lv_has ls 10 [(0, .ref x0), (2, .int x2), (3, .int x3), (4, .int x4)] → W p l e rm_LogCleanerModel_clean s m args below meth c H locs 0 0 (MQ below (va_Qi (fun r u => Q r u ∧ xfr sgM h0 u) (xB D d A) A) args s 0 0 A) (F0 m 76 ls [])) : ∀ (x0 : Nat) (x3 : Int32) (x4 : Int32) (h : xw) (H : Heap) (locs : List Loc) (ls : Array Slot), wb_LogCleanerModel_clean_187 d k76 Q x0 x3 x4 h → xR sgM h0 D A h H → va_S A s.heap H locs → lv_has ls 10 [(0, .ref x0), (3, .int x3), (4, .int x4)] → W p l e rm_LogCleanerModel_clean s m args below meth c H locs 0 0 (MQ below (va_Qi (fun r u => Q r u ∧ xfr sgM h0 u) (xB D d A) A) args s 0 0 A) (F0 m 187 ls []) := by
  obtain ⟨hx, hb, hr, hml, hown, htb, hK, hA, hNB, hlocks, hXT⟩ := id C0
  intro x0 x3 x4 h H locs ls hw hP hS hl
  refine lv_iconst (v := 1) hx hb d_LogCleanerModel_clean_187 (by decide) ?_
  refine lv_goto (tgt := 192) hx hb d_LogCleanerModel_clean_188 (by decide) ?_
  exact sb_LogCleanerModel_clean_192 C0 hk76 x0 x3 x4 1 h _ _ _ hw hP hS (lv_sub hl [0, 1, 2] rfl)

set_option maxHeartbeats 4000000 in
set_option maxRecDepth 100000 in
theorem sb_LogCleanerModel_clean_172 {p : Program} {l : Launch} {e : Env} {s : State} {m : MethodId} {args : Array Value} {below : List Frame} {meth : Method} {c : Code} {D : va_G} {d : Nat → ClassId} {A : Nat → Prop} {h0 : xw} {Q : Int32 → xw → Prop} {k76 : Nat → Int32 → Int32 → Int32 → xw → Prop} (C0 : xctx p s m args meth c b_LogCleanerModel_clean 10 (some .int) R_LogCleanerModel D d A True) (hk76 : ∀ (x0 : Nat) (x2 : Int32) (x3 : Int32) (x4 : Int32) (h : xw) (H : Heap) (locs : List Loc) (ls : Array Slot), k76 x0 x2 x3 x4 h → xR sgM h0 D A h H → va_S A s.heap H locs → lv_has ls 10 [(0, .ref x0), (2, .int x2), (3, .int x3), (4, .int x4)] → W p l e rm_LogCleanerModel_clean s m args below meth c H locs 0 0 (MQ below (va_Qi (fun r u => Q r u ∧ xfr sgM h0 u) (xB D d A) A) args s 0 0 A) (F0 m 76 ls [])) : ∀ (x0 : Nat) (x2 : Int32) (x3 : Int32) (x4 : Int32) (s0 : Int32) (s1 : Int32) (s2 : Option Nat) (h : xw) (H : Heap) (locs : List Loc) (ls : Array Slot), wb_LogCleanerModel_clean_172 d k76 Q x0 x2 x3 x4 s0 s1 s2 h → xR sgM h0 D A h H → va_S A s.heap H locs → lv_has ls 10 [(0, .ref x0), (2, .int x2), (3, .int x3), (4, .int x4)] → W p l e rm_LogCleanerModel_clean s m args below meth c H locs 0 0 (MQ below (va_Qi (fun r u => Q r u ∧ xfr sgM h0 u) (xB D d A) A) args s 0 0 A) (F0 m 172 ls [.int s0, .int s1, va_rf s2]) := by
  obtain ⟨hx, hb, hr, hml, hown, htb, hK, hA, hNB, hlocks, hXT⟩ := id C0
  intro x0 x2 x3 x4 s0 s1 s2 h H locs ls hw hP hS hl
  obtain ⟨p20, hpe, hw⟩ := hw
  revert hw
  revert hl
  subst hpe
  intro hl hw
  replace hl : lv_has ls 10 [(0, .ref x0), (2, .int x2), (3, .int x3), (4, .int x4)] := hl
  refine xstz hx hb hK hP hS 4 rfl (fun _ _ => rfl) hw d_LogCleanerModel_clean_172 (fun h21 H locs hw hP hS => ?_)
  refine lv_iload_n hx hb d_LogCleanerModel_clean_173 rfl (lv_at hl 1 rfl) ?_
  refine lv_if_ne (tgt := 187) hx hb d_LogCleanerModel_clean_174 (by decide) (fun cq => ?_) (fun cq => ?_)
  · replace hw := hw.2 cq
    exact sb_LogCleanerModel_clean_187 C0 hk76 x0 x3 x4 h21 _ _ _ hw hP hS (lv_sub hl [0, 2, 3] rfl)
  · replace hw := hw.1 cq
    refine lv_aload_n hx hb d_LogCleanerModel_clean_177 rfl (lv_at hl 0 rfl) ?_
    refine xgetA hx hb htb i_LogCleanerModel hown hK hP (ci := 4) rfl 21 (by decide) (htb _ k_LogCleanerModel_60) (fun _ h9 => h9) hw d_LogCleanerModel_clean_178 (fun r27 hw => ?_)
    refine lv_iload hx hb d_LogCleanerModel_clean_181 (lv_at hl 3 rfl) ?_
    obtain ⟨p28, hpe, hw⟩ := hw
    revert hw
    revert hl
    subst hpe
    intro hl hw
    replace hl : lv_has ls 10 [(0, .ref x0), (2, .int x2), (3, .int x3), (4, .int x4)] := hl
    refine xldz hx hb hK hP 4 rfl hw d_LogCleanerModel_clean_183 (fun v29 hw => ?_)
    refine lv_if_ne (tgt := 191) hx hb d_LogCleanerModel_clean_184 (by decide) (fun cq => ?_) (fun cq => ?_)
    · replace hw := hw.2 cq
      refine lv_iconst (v := 0) hx hb d_LogCleanerModel_clean_191 (by decide) ?_
      exact sb_LogCleanerModel_clean_192 C0 hk76 x0 x3 x4 0 h21 _ _ _ hw hP hS (lv_sub hl [0, 2, 3] rfl)
    · replace hw := hw.1 cq
      exact sb_LogCleanerModel_clean_187 C0 hk76 x0 x3 x4 h21 _ _ _ hw hP hS (lv_sub hl [0, 2, 3] rfl)

set_option maxHeartbeats 4000000 in
set_option maxRecDepth 100000 in
theorem sb_LogCleanerModel_clean_167 {p : Program} {l : Launch} {e : Env} {s : State} {m : MethodId} {args : Array Value} {below : List Frame} {meth : Method} {c : Code} {D : va_G} {d : Nat → ClassId} {A : Nat → Prop} {h0 : xw} {Q : Int32 → xw → Prop} {k76 : Nat → Int32 → Int32 → Int32 → xw → Prop} (C0 : xctx p s m args meth c b_LogCleanerModel_clean 10 (some .int) R_LogCleanerModel D d A True) (hk76 : ∀ (x0 : Nat) (x2 : Int32) (x3 : Int32) (x4 : Int32) (h : xw) (H : Heap) (locs : List Loc) (ls : Array Slot), k76 x0 x2 x3 x4 h → xR sgM h0 D A h H → va_S A s.heap H locs → lv_has ls 10 [(0, .ref x0), (2, .int x2), (3, .int x3), (4, .int x4)] → W p l e rm_LogCleanerModel_clean s m args below meth c H locs 0 0 (MQ below (va_Qi (fun r u => Q r u ∧ xfr sgM h0 u) (xB D d A) A) args s 0 0 A) (F0 m 76 ls [])) : ∀ (x0 : Nat) (x2 : Int32) (x3 : Int32) (x4 : Int32) (s0 : Int32) (s1 : Option Nat) (h : xw) (H : Heap) (locs : List Loc) (ls : Array Slot), wb_LogCleanerModel_clean_167 d k76 Q x0 x2 x3 x4 s0 s1 h → xR sgM h0 D A h H → va_S A s.heap H locs → lv_has ls 10 [(0, .ref x0), (2, .int x2), (3, .int x3), (4, .int x4)] → W p l e rm_LogCleanerModel_clean s m args below meth c H locs 0 0 (MQ below (va_Qi (fun r u => Q r u ∧ xfr sgM h0 u) (xB D d A) A) args s 0 0 A) (F0 m 167 ls [.int s0, va_rf s1]) := by
  obtain ⟨hx, hb, hr, hml, hown, htb, hK, hA, hNB, hlocks, hXT⟩ := id C0
  intro x0 x2 x3 x4 s0 s1 h H locs ls hw hP hS hl
  refine lv_iconst (v := 1) hx hb d_LogCleanerModel_clean_167 (by decide) ?_
  refine lv_goto (tgt := 172) hx hb d_LogCleanerModel_clean_168 (by decide) ?_
  exact sb_LogCleanerModel_clean_172 C0 hk76 x0 x2 x3 x4 1 s0 s1 h _ _ _ hw hP hS (lv_sub hl [0, 1, 2, 3] rfl)

set_option maxHeartbeats 4000000 in
set_option maxRecDepth 100000 in
theorem sb_LogCleanerModel_clean_129 {p : Program} {l : Launch} {e : Env} {s : State} {m : MethodId} {args : Array Value} {below : List Frame} {meth : Method} {c : Code} {D : va_G} {d : Nat → ClassId} {A : Nat → Prop} {h0 : xw} {Q : Int32 → xw → Prop} {k76 : Nat → Int32 → Int32 → Int32 → xw → Prop} {k91 : Nat → Int32 → Int32 → Int32 → Int32 → Int32 → xw → Prop} (C0 : xctx p s m args meth c b_LogCleanerModel_clean 10 (some .int) R_LogCleanerModel D d A True) (hk76 : ∀ (x0 : Nat) (x2 : Int32) (x3 : Int32) (x4 : Int32) (h : xw) (H : Heap) (locs : List Loc) (ls : Array Slot), k76 x0 x2 x3 x4 h → xR sgM h0 D A h H → va_S A s.heap H locs → lv_has ls 10 [(0, .ref x0), (2, .int x2), (3, .int x3), (4, .int x4)] → W p l e rm_LogCleanerModel_clean s m args below meth c H locs 0 0 (MQ below (va_Qi (fun r u => Q r u ∧ xfr sgM h0 u) (xB D d A) A) args s 0 0 A) (F0 m 76 ls [])) (hk91 : ∀ (x0 : Nat) (x2 : Int32) (x3 : Int32) (x4 : Int32) (x5 : Int32) (x6 : Int32) (h : xw) (H : Heap) (locs : List Loc) (ls : Array Slot), k91 x0 x2 x3 x4 x5 x6 h → xR sgM h0 D A h H → va_S A s.heap H locs → lv_has ls 10 [(0, .ref x0), (2, .int x2), (3, .int x3), (4, .int x4), (5, .int x5), (6, .int x6)] → W p l e rm_LogCleanerModel_clean s m args below meth c H locs 0 0 (MQ below (va_Qi (fun r u => Q r u ∧ xfr sgM h0 u) (xB D d A) A) args s 0 0 A) (F0 m 91 ls [])) : ∀ (x0 : Nat) (x2 : Int32) (x3 : Int32) (x4 : Int32) (x6 : Int32) (s0 : Int32) (s1 : Int32) (h : xw) (H : Heap) (locs : List Loc) (ls : Array Slot), wb_LogCleanerModel_clean_129 d k76 k91 Q x0 x2 x3 x4 x6 s0 s1 h → xR sgM h0 D A h H → va_S A s.heap H locs → lv_has ls 10 [(0, .ref x0), (2, .int x2), (3, .int x3), (4, .int x4), (6, .int x6)] → W p l e rm_LogCleanerModel_clean s m args below meth c H locs 0 0 (MQ below (va_Qi (fun r u => Q r u ∧ xfr sgM h0 u) (xB D d A) A) args s 0 0 A) (F0 m 129 ls [.int s0, .int s1]) := by
  obtain ⟨hx, hb, hr, hml, hown, htb, hK, hA, hNB, hlocks, hXT⟩ := id C0
  intro x0 x2 x3 x4 x6 s0 s1 h H locs ls hw hP hS hl
  refine lv_iadd hx hb d_LogCleanerModel_clean_129 ?_
  refine lv_istore (lv' := [(5, .int (s1 + s0)), (0, .ref x0), (2, .int x2), (3, .int x3), (4, .int x4), (6, .int x6)]) hx hb d_LogCleanerModel_clean_130 hl (by decide) rfl (fun ls hl => ?_)
  refine lv_iinc (v := x6 + 1) (lv' := [(6, .int (x6 + 1)), (5, .int (s1 + s0)), (0, .ref x0), (2, .int x2), (3, .int x3), (4, .int x4)]) hx hb d_LogCleanerModel_clean_132 hl (k := 5) rfl rfl (by decide) rfl (fun ls hl => ?_)
  refine lv_goto (tgt := 91) hx hb d_LogCleanerModel_clean_135 (by decide) ?_
  exact hk91 x0 x2 x3 x4 (s1 + s0) (x6 + 1) h _ _ _ hw hP hS (lv_sub hl [2, 3, 4, 5, 1, 0] rfl)

set_option maxHeartbeats 4000000 in
set_option maxRecDepth 100000 in
theorem sb_LogCleanerModel_clean_128 {p : Program} {l : Launch} {e : Env} {s : State} {m : MethodId} {args : Array Value} {below : List Frame} {meth : Method} {c : Code} {D : va_G} {d : Nat → ClassId} {A : Nat → Prop} {h0 : xw} {Q : Int32 → xw → Prop} {k76 : Nat → Int32 → Int32 → Int32 → xw → Prop} {k91 : Nat → Int32 → Int32 → Int32 → Int32 → Int32 → xw → Prop} (C0 : xctx p s m args meth c b_LogCleanerModel_clean 10 (some .int) R_LogCleanerModel D d A True) (hk76 : ∀ (x0 : Nat) (x2 : Int32) (x3 : Int32) (x4 : Int32) (h : xw) (H : Heap) (locs : List Loc) (ls : Array Slot), k76 x0 x2 x3 x4 h → xR sgM h0 D A h H → va_S A s.heap H locs → lv_has ls 10 [(0, .ref x0), (2, .int x2), (3, .int x3), (4, .int x4)] → W p l e rm_LogCleanerModel_clean s m args below meth c H locs 0 0 (MQ below (va_Qi (fun r u => Q r u ∧ xfr sgM h0 u) (xB D d A) A) args s 0 0 A) (F0 m 76 ls [])) (hk91 : ∀ (x0 : Nat) (x2 : Int32) (x3 : Int32) (x4 : Int32) (x5 : Int32) (x6 : Int32) (h : xw) (H : Heap) (locs : List Loc) (ls : Array Slot), k91 x0 x2 x3 x4 x5 x6 h → xR sgM h0 D A h H → va_S A s.heap H locs → lv_has ls 10 [(0, .ref x0), (2, .int x2), (3, .int x3), (4, .int x4), (5, .int x5), (6, .int x6)] → W p l e rm_LogCleanerModel_clean s m args below meth c H locs 0 0 (MQ below (va_Qi (fun r u => Q r u ∧ xfr sgM h0 u) (xB D d A) A) args s 0 0 A) (F0 m 91 ls [])) : ∀ (x0 : Nat) (x2 : Int32) (x3 : Int32) (x4 : Int32) (x6 : Int32) (s0 : Int32) (h : xw) (H : Heap) (locs : List Loc) (ls : Array Slot), wb_LogCleanerModel_clean_128 d k76 k91 Q x0 x2 x3 x4 x6 s0 h → xR sgM h0 D A h H → va_S A s.heap H locs → lv_has ls 10 [(0, .ref x0), (2, .int x2), (3, .int x3), (4, .int x4), (6, .int x6)] → W p l e rm_LogCleanerModel_clean s m args below meth c H locs 0 0 (MQ below (va_Qi (fun r u => Q r u ∧ xfr sgM h0 u) (xB D d A) A) args s 0 0 A) (F0 m 128 ls [.int s0]) := by
  obtain ⟨hx, hb, hr, hml, hown, htb, hK, hA, hNB, hlocks, hXT⟩ := id C0
  intro x0 x2 x3 x4 x6 s0 h H locs ls hw hP hS hl
  refine lv_iconst (v := 0) hx hb d_LogCleanerModel_clean_128 (by decide) ?_
  exact sb_LogCleanerModel_clean_129 C0 hk76 hk91 x0 x2 x3 x4 x6 0 s0 h _ _ _ hw hP hS (lv_sub hl [0, 1, 2, 3, 4] rfl)

set_option maxHeartbeats 4000000 in
set_option maxRecDepth 100000 in
theorem sl_LogCleanerModel_clean_91 {p : Program} {l : Launch} {e : Env} {s : State} {m : MethodId} {args : Array Value} {below : List Frame} {meth : Method} {c : Code} {D : va_G} {d : Nat → ClassId} {A : Nat → Prop} {h0 : xw} {Q : Int32 → xw → Prop} {k76 : Nat → Int32 → Int32 → Int32 → xw → Prop} (C0 : xctx p s m args meth c b_LogCleanerModel_clean 10 (some .int) R_LogCleanerModel D d A True) (hk76 : ∀ (x0 : Nat) (x2 : Int32) (x3 : Int32) (x4 : Int32) (h : xw) (H : Heap) (locs : List Loc) (ls : Array Slot), k76 x0 x2 x3 x4 h → xR sgM h0 D A h H → va_S A s.heap H locs → lv_has ls 10 [(0, .ref x0), (2, .int x2), (3, .int x3), (4, .int x4)] → W p l e rm_LogCleanerModel_clean s m args below meth c H locs 0 0 (MQ below (va_Qi (fun r u => Q r u ∧ xfr sgM h0 u) (xB D d A) A) args s 0 0 A) (F0 m 76 ls [])) : ∀ (n : Nat) (x : Nat × Int32 × Int32 × Int32 × Int32 × Int32) (h : xw) (H : Heap) (locs : List Loc) (ls : Array Slot), xloop (fun (k : Nat × Int32 × Int32 × Int32 × Int32 × Int32 → xw → Prop) (x : Nat × Int32 × Int32 × Int32 × Int32 × Int32) (h : xw) => wc_LogCleanerModel_clean_91 d k76 Q (fun y0 y2 y3 y4 y5 y6 h => k (y0, y2, y3, y4, y5, y6) h) x.1 x.2.1 x.2.2.1 x.2.2.2.1 x.2.2.2.2.1 x.2.2.2.2.2 h) n x h → xR sgM h0 D A h H → va_S A s.heap H locs → lv_has ls 10 [(0, .ref x.1), (2, .int x.2.1), (3, .int x.2.2.1), (4, .int x.2.2.2.1), (5, .int x.2.2.2.2.1), (6, .int x.2.2.2.2.2)] → W p l e rm_LogCleanerModel_clean s m args below meth c H locs 0 0 (MQ below (va_Qi (fun r u => Q r u ∧ xfr sgM h0 u) (xB D d A) A) args s 0 0 A) (F0 m 91 ls []) := by
  obtain ⟨hx, hb, hr, hml, hown, htb, hK, hA, hNB, hlocks, hXT⟩ := id C0
  intro n
  induction n with
  | zero => intro x h H locs ls hw; exact hw.elim
  | succ n ih =>
    rintro ⟨x0, x2, x3, x4, x5, x6⟩ h H locs ls hw hP hS hl
    replace hw : wc_LogCleanerModel_clean_91 d k76 Q (fun y0 y2 y3 y4 y5 y6 h => xloop (fun (k : Nat × Int32 × Int32 × Int32 × Int32 × Int32 → xw → Prop) (x : Nat × Int32 × Int32 × Int32 × Int32 × Int32) (h : xw) => wc_LogCleanerModel_clean_91 d k76 Q (fun y0 y2 y3 y4 y5 y6 h => k (y0, y2, y3, y4, y5, y6) h) x.1 x.2.1 x.2.2.1 x.2.2.2.1 x.2.2.2.2.1 x.2.2.2.2.2 h) n (y0, y2, y3, y4, y5, y6) h) x0 x2 x3 x4 x5 x6 h := hw
    have hk91 := fun (x0 : Nat) (x2 : Int32) (x3 : Int32) (x4 : Int32) (x5 : Int32) (x6 : Int32) => ih (x0, x2, x3, x4, x5, x6)
    refine lv_iload hx hb d_LogCleanerModel_clean_91 (lv_at hl 5 rfl) ?_
    refine lv_aload_n hx hb d_LogCleanerModel_clean_93 rfl (lv_at hl 0 rfl) ?_
    refine xgetI hx hb htb i_LogCleanerModel hown hK hP (ci := 4) rfl 1 (by decide) (htb _ k_LogCleanerModel_75) (fun _ h9 => h9) hw d_LogCleanerModel_clean_94 (fun v16 hw => ?_)
    refine lv_icmp_ge (tgt := 138) hx hb d_LogCleanerModel_clean_97 (by decide) (fun cq => ?_) (fun cq => ?_)
    · replace hw := hw.1 cq
      refine lv_aload_n hx hb d_LogCleanerModel_clean_138 rfl (lv_at hl 0 rfl) ?_
      refine xgetA hx hb htb i_LogCleanerModel hown hK hP (ci := 4) rfl 21 (by decide) (htb _ k_LogCleanerModel_60) (fun _ h9 => h9) hw d_LogCleanerModel_clean_139 (fun r17 hw => ?_)
      refine lv_iload hx hb d_LogCleanerModel_clean_142 (lv_at hl 3 rfl) ?_
      refine lv_aload_n hx hb d_LogCleanerModel_clean_144 rfl (lv_at hl 0 rfl) ?_
      refine lv_iload hx hb d_LogCleanerModel_clean_145 (lv_at hl 3 rfl) ?_
      obtain ⟨⟨_, hw0⟩, hw⟩ := hw
      refine xcalli (va_runV (b := x0) (As := [.int x4]) (rest := [.int x4, va_rf r17]) ⟨hx, hb, hml, hown, htb⟩ (m_LogCleanerModel_isClosed l D d h _ x0 x4 _ hw) (xcwV 1 htb g_code_LogCleanerModel_isClosed g_ini_LogCleanerModel k_LogCleanerModel_92 g_im_LogCleanerModel_isClosed g_sel_LogCleanerModel_isClosed rfl rfl (by decide +kernel) ⟨(Nat.le_of_ble_eq_true rfl), (Nat.le_of_ble_eq_true rfl)⟩) (xpreV hP hK hNB (ci := 4) rfl hw0) rfl rfl hl.1 rfl (lv_room (by cases r17 <;> exact (Nat.le_of_ble_eq_true rfl))) d_LogCleanerModel_clean_147 ⟨(Nat.le_of_ble_eq_true rfl), (Nat.le_of_ble_eq_true rfl)⟩) hP hS hA (fun r19 h18 H locs hw hP hS => ?_)
      refine W.widen (k := 0) (n := 0) (Nat.le_of_ble_eq_true rfl) (Nat.le_of_ble_eq_true rfl) ?_
      refine lv_if_eq (tgt := 167) hx hb d_LogCleanerModel_clean_150 (by decide) (fun cq => ?_) (fun cq => ?_)
      · replace hw := hw.1 cq
        exact sb_LogCleanerModel_clean_167 C0 hk76 x0 x2 x3 x4 x4 r17 h18 _ _ _ hw hP hS (lv_sub hl [0, 1, 2, 3] rfl)
      · replace hw := hw.2 cq
        refine lv_iload hx hb d_LogCleanerModel_clean_153 (lv_at hl 4 rfl) ?_
        refine lv_if_gt (tgt := 167) hx hb d_LogCleanerModel_clean_155 (by decide) (fun cq => ?_) (fun cq => ?_)
        · replace hw := hw.1 cq
          exact sb_LogCleanerModel_clean_167 C0 hk76 x0 x2 x3 x4 x4 r17 h18 _ _ _ hw hP hS (lv_sub hl [0, 1, 2, 3] rfl)
        · replace hw := hw.2 cq
          refine lv_aload_n hx hb d_LogCleanerModel_clean_158 rfl (lv_at hl 0 rfl) ?_
          refine lv_iload hx hb d_LogCleanerModel_clean_159 (lv_at hl 3 rfl) ?_
          obtain ⟨⟨_, hw0⟩, hw⟩ := hw
          refine xcalli (va_runV (b := x0) (As := [.int x4]) (rest := [.int x4, va_rf r17]) ⟨hx, hb, hml, hown, htb⟩ (m_LogCleanerModel_isKnown l D d h18 _ x0 x4 _ hw) (xcwV 1 htb g_code_LogCleanerModel_isKnown g_ini_LogCleanerModel k_LogCleanerModel_100 g_im_LogCleanerModel_isKnown g_sel_LogCleanerModel_isKnown rfl rfl (by decide +kernel) ⟨(Nat.le_of_ble_eq_true rfl), (Nat.le_of_ble_eq_true rfl)⟩) (xpreV hP hK hNB (ci := 4) rfl hw0) rfl rfl hl.1 rfl (lv_room (by cases r17 <;> exact (Nat.le_of_ble_eq_true rfl))) d_LogCleanerModel_clean_161 ⟨(Nat.le_of_ble_eq_true rfl), (Nat.le_of_ble_eq_true rfl)⟩) hP hS hA (fun r31 h30 H locs hw hP hS => ?_)
          refine W.widen (k := 0) (n := 0) (Nat.le_of_ble_eq_true rfl) (Nat.le_of_ble_eq_true rfl) ?_
          refine lv_if_eq (tgt := 171) hx hb d_LogCleanerModel_clean_164 (by decide) (fun cq => ?_) (fun cq => ?_)
          · replace hw := hw.1 cq
            refine lv_iconst (v := 0) hx hb d_LogCleanerModel_clean_171 (by decide) ?_
            exact sb_LogCleanerModel_clean_172 C0 hk76 x0 x2 x3 x4 0 x4 r17 h30 _ _ _ hw hP hS (lv_sub hl [0, 1, 2, 3] rfl)
          · replace hw := hw.2 cq
            exact sb_LogCleanerModel_clean_167 C0 hk76 x0 x2 x3 x4 x4 r17 h30 _ _ _ hw hP hS (lv_sub hl [0, 1, 2, 3] rfl)
    · replace hw := hw.2 cq
      refine lv_iload hx hb d_LogCleanerModel_clean_100 (lv_at hl 4 rfl) ?_
      refine lv_aload_n hx hb d_LogCleanerModel_clean_102 rfl (lv_at hl 0 rfl) ?_
      refine xgetA hx hb htb i_LogCleanerModel hown hK hP (ci := 4) rfl 2 (by decide) (htb _ k_LogCleanerModel_7) (fun _ h9 => h9) hw d_LogCleanerModel_clean_103 (fun r32 hw => ?_)
      refine lv_iload hx hb d_LogCleanerModel_clean_106 (lv_at hl 5 rfl) ?_
      obtain ⟨p33, hpe, hw⟩ := hw
      revert hw
      revert hl
      subst hpe
      intro hl hw
      replace hl : lv_has ls 10 [(0, .ref x0), (2, .int x2), (3, .int x3), (4, .int x4), (5, .int x5), (6, .int x6)] := hl
      refine xldi hx hb hK hP 2 rfl hw d_LogCleanerModel_clean_108 (fun v34 hw => ?_)
      refine lv_iload hx hb d_LogCleanerModel_clean_109 (lv_at hl 3 rfl) ?_
      refine lv_icmp_ne (tgt := 128) hx hb d_LogCleanerModel_clean_111 (by decide) (fun cq => ?_) (fun cq => ?_)
      · replace hw := hw.2 cq
        exact sb_LogCleanerModel_clean_128 C0 hk76 hk91 x0 x2 x3 x4 x6 x5 h _ _ _ hw hP hS (lv_sub hl [0, 1, 2, 3, 5] rfl)
      · replace hw := hw.1 cq
        refine lv_aload_n hx hb d_LogCleanerModel_clean_114 rfl (lv_at hl 0 rfl) ?_
        refine xgetA hx hb htb i_LogCleanerModel hown hK hP (ci := 4) rfl 20 (by decide) (htb _ k_LogCleanerModel_57) (fun _ h9 => h9) hw d_LogCleanerModel_clean_115 (fun r35 hw => ?_)
        refine lv_iload hx hb d_LogCleanerModel_clean_118 (lv_at hl 5 rfl) ?_
        obtain ⟨p36, hpe, hw⟩ := hw
        revert hw
        revert hl
        subst hpe
        intro hl hw
        replace hl : lv_has ls 10 [(0, .ref x0), (2, .int x2), (3, .int x3), (4, .int x4), (5, .int x5), (6, .int x6)] := hl
        refine xldz hx hb hK hP 4 rfl hw d_LogCleanerModel_clean_120 (fun v37 hw => ?_)
        refine lv_if_ne (tgt := 128) hx hb d_LogCleanerModel_clean_121 (by decide) (fun cq => ?_) (fun cq => ?_)
        · replace hw := hw.2 cq
          exact sb_LogCleanerModel_clean_128 C0 hk76 hk91 x0 x2 x3 x4 x6 x5 h _ _ _ hw hP hS (lv_sub hl [0, 1, 2, 3, 5] rfl)
        · replace hw := hw.1 cq
          refine lv_iconst (v := 1) hx hb d_LogCleanerModel_clean_124 (by decide) ?_
          refine lv_goto (tgt := 129) hx hb d_LogCleanerModel_clean_125 (by decide) ?_
          exact sb_LogCleanerModel_clean_129 C0 hk76 hk91 x0 x2 x3 x4 x6 1 x5 h _ _ _ hw hP hS (lv_sub hl [0, 1, 2, 3, 5] rfl)

set_option maxHeartbeats 4000000 in
set_option maxRecDepth 100000 in
theorem sl_LogCleanerModel_clean_76 {p : Program} {l : Launch} {e : Env} {s : State} {m : MethodId} {args : Array Value} {below : List Frame} {meth : Method} {c : Code} {D : va_G} {d : Nat → ClassId} {A : Nat → Prop} {h0 : xw} {Q : Int32 → xw → Prop} (C0 : xctx p s m args meth c b_LogCleanerModel_clean 10 (some .int) R_LogCleanerModel D d A True) : ∀ (n : Nat) (x : Nat × Int32 × Int32 × Int32) (h : xw) (H : Heap) (locs : List Loc) (ls : Array Slot), xloop (fun (k : Nat × Int32 × Int32 × Int32 → xw → Prop) (x : Nat × Int32 × Int32 × Int32) (h : xw) => wc_LogCleanerModel_clean_76 d Q (fun y0 y2 y3 y4 h => k (y0, y2, y3, y4) h) x.1 x.2.1 x.2.2.1 x.2.2.2 h) n x h → xR sgM h0 D A h H → va_S A s.heap H locs → lv_has ls 10 [(0, .ref x.1), (2, .int x.2.1), (3, .int x.2.2.1), (4, .int x.2.2.2)] → W p l e rm_LogCleanerModel_clean s m args below meth c H locs 0 0 (MQ below (va_Qi (fun r u => Q r u ∧ xfr sgM h0 u) (xB D d A) A) args s 0 0 A) (F0 m 76 ls []) := by
  obtain ⟨hx, hb, hr, hml, hown, htb, hK, hA, hNB, hlocks, hXT⟩ := id C0
  intro n
  induction n with
  | zero => intro x h H locs ls hw; exact hw.elim
  | succ n ih =>
    rintro ⟨x0, x2, x3, x4⟩ h H locs ls hw hP hS hl
    replace hw : wc_LogCleanerModel_clean_76 d Q (fun y0 y2 y3 y4 h => xloop (fun (k : Nat × Int32 × Int32 × Int32 → xw → Prop) (x : Nat × Int32 × Int32 × Int32) (h : xw) => wc_LogCleanerModel_clean_76 d Q (fun y0 y2 y3 y4 h => k (y0, y2, y3, y4) h) x.1 x.2.1 x.2.2.1 x.2.2.2 h) n (y0, y2, y3, y4) h) x0 x2 x3 x4 h := hw
    have hk76 := fun (x0 : Nat) (x2 : Int32) (x3 : Int32) (x4 : Int32) => ih (x0, x2, x3, x4)
    refine lv_iload hx hb d_LogCleanerModel_clean_76 (lv_at hl 3 rfl) ?_
    refine lv_aload_n hx hb d_LogCleanerModel_clean_78 rfl (lv_at hl 0 rfl) ?_
    refine xgetI hx hb htb i_LogCleanerModel hown hK hP (ci := 4) rfl 16 (by decide) (htb _ k_LogCleanerModel_82) (fun _ h9 => h9) hw d_LogCleanerModel_clean_79 (fun v4 hw => ?_)
    refine lv_icmp_ge (tgt := 226) hx hb d_LogCleanerModel_clean_82 (by decide) (fun cq => ?_) (fun cq => ?_)
    · replace hw := hw.1 cq
      refine lv_iload_n hx hb d_LogCleanerModel_clean_226 rfl (lv_at hl 1 rfl) ?_
      refine lv_if_ne (tgt := 232) hx hb d_LogCleanerModel_clean_227 (by decide) (fun cq => ?_) (fun cq => ?_)
      · replace hw := hw.2 cq
        refine lv_aload_n hx hb d_LogCleanerModel_clean_232 rfl (lv_at hl 0 rfl) ?_
        obtain ⟨⟨_, hw0⟩, hw⟩ := hw
        refine xcalli (va_runV (b := x0) (As := []) (rest := []) ⟨hx, hb, hml, hown, htb⟩ (m_LogCleanerModel_takeOut l D d h _ x0 _ hw) (xcwV 0 htb g_code_LogCleanerModel_takeOut g_ini_LogCleanerModel k_LogCleanerModel_103 g_im_LogCleanerModel_takeOut g_sel_LogCleanerModel_takeOut rfl rfl (by decide +kernel) ⟨(Nat.le_of_ble_eq_true rfl), (Nat.le_of_ble_eq_true rfl)⟩) (xpreV hP hK hNB (ci := 4) rfl hw0) rfl rfl hl.1 rfl (lv_room (Nat.le_of_ble_eq_true rfl)) d_LogCleanerModel_clean_233 ⟨(Nat.le_of_ble_eq_true rfl), (Nat.le_of_ble_eq_true rfl)⟩) hP hS hA (fun r6 h5 H locs hw hP hS => ?_)
        refine W.widen (k := 0) (n := 0) (Nat.le_of_ble_eq_true rfl) (Nat.le_of_ble_eq_true rfl) ?_
        refine lv_istore (lv' := [(4, .int r6), (0, .ref x0), (2, .int x2), (3, .int x3)]) hx hb d_LogCleanerModel_clean_236 hl (by decide) rfl (fun ls hl => ?_)
        refine lv_iconst (v := 0) hx hb d_LogCleanerModel_clean_238 (by decide) ?_
        refine lv_istore (lv' := [(5, .int 0), (4, .int r6), (0, .ref x0), (2, .int x2), (3, .int x3)]) hx hb d_LogCleanerModel_clean_239 hl (by decide) rfl (fun ls hl => ?_)
        refine lv_iconst (v := 0) hx hb d_LogCleanerModel_clean_241 (by decide) ?_
        refine lv_istore (lv' := [(6, .int 0), (5, .int 0), (4, .int r6), (0, .ref x0), (2, .int x2), (3, .int x3)]) hx hb d_LogCleanerModel_clean_242 hl (by decide) rfl (fun ls hl => ?_)
        refine lv_iconst (v := 0) hx hb d_LogCleanerModel_clean_244 (by decide) ?_
        refine lv_istore (lv' := [(7, .int 0), (6, .int 0), (5, .int 0), (4, .int r6), (0, .ref x0), (2, .int x2), (3, .int x3)]) hx hb d_LogCleanerModel_clean_245 hl (by decide) rfl (fun ls hl => ?_)
        obtain ⟨n, hw⟩ := hw
        exact sl_LogCleanerModel_clean_247 C0 n (x0, x3, r6, 0, 0, 0) h5 _ _ _ hw hP hS (lv_sub hl [4, 6, 3, 2, 1, 0] rfl)
      · replace hw := hw.1 cq
        refine lv_iconst (v := 0) hx hb d_LogCleanerModel_clean_230 (by decide) ?_
        refine W.widen (k := 0) (n := 0) (Nat.le_of_ble_eq_true rfl) (Nat.le_of_ble_eq_true rfl) ?_
        exact xretI C0 hw hP hS d_LogCleanerModel_clean_231
    · replace hw := hw.2 cq
      refine lv_iconst (v := 0) hx hb d_LogCleanerModel_clean_85 (by decide) ?_
      refine lv_istore (lv' := [(5, .int 0), (0, .ref x0), (2, .int x2), (3, .int x3), (4, .int x4)]) hx hb d_LogCleanerModel_clean_86 hl (by decide) rfl (fun ls hl => ?_)
      refine lv_iconst (v := 0) hx hb d_LogCleanerModel_clean_88 (by decide) ?_
      refine lv_istore (lv' := [(6, .int 0), (5, .int 0), (0, .ref x0), (2, .int x2), (3, .int x3), (4, .int x4)]) hx hb d_LogCleanerModel_clean_89 hl (by decide) rfl (fun ls hl => ?_)
      obtain ⟨n, hw⟩ := hw
      exact sl_LogCleanerModel_clean_91 C0 hk76 n (x0, x2, x3, x4, 0, 0) h _ _ _ hw hP hS (lv_sub hl [2, 3, 4, 5, 1, 0] rfl)

set_option maxHeartbeats 4000000 in
set_option maxRecDepth 100000 in
theorem sb_LogCleanerModel_clean_64 {p : Program} {l : Launch} {e : Env} {s : State} {m : MethodId} {args : Array Value} {below : List Frame} {meth : Method} {c : Code} {D : va_G} {d : Nat → ClassId} {A : Nat → Prop} {h0 : xw} {Q : Int32 → xw → Prop} {k26 : Nat → Int32 → Int32 → Int32 → xw → Prop} (C0 : xctx p s m args meth c b_LogCleanerModel_clean 10 (some .int) R_LogCleanerModel D d A True) (hk26 : ∀ (x0 : Nat) (x1 : Int32) (x2 : Int32) (x3 : Int32) (h : xw) (H : Heap) (locs : List Loc) (ls : Array Slot), k26 x0 x1 x2 x3 h → xR sgM h0 D A h H → va_S A s.heap H locs → lv_has ls 10 [(0, .ref x0), (1, .int x1), (2, .int x2), (3, .int x3)] → W p l e rm_LogCleanerModel_clean s m args below meth c H locs 0 0 (MQ below (va_Qi (fun r u => Q r u ∧ xfr sgM h0 u) (xB D d A) A) args s 0 0 A) (F0 m 26 ls [])) : ∀ (x0 : Nat) (x1 : Int32) (x3 : Int32) (s0 : Int32) (h : xw) (H : Heap) (locs : List Loc) (ls : Array Slot), wb_LogCleanerModel_clean_64 d k26 Q x0 x1 x3 s0 h → xR sgM h0 D A h H → va_S A s.heap H locs → lv_has ls 10 [(0, .ref x0), (1, .int x1), (3, .int x3)] → W p l e rm_LogCleanerModel_clean s m args below meth c H locs 0 0 (MQ below (va_Qi (fun r u => Q r u ∧ xfr sgM h0 u) (xB D d A) A) args s 0 0 A) (F0 m 64 ls [.int s0]) := by
  obtain ⟨hx, hb, hr, hml, hown, htb, hK, hA, hNB, hlocks, hXT⟩ := id C0
  intro x0 x1 x3 s0 h H locs ls hw hP hS hl
  refine lv_istore_n (lv' := [(2, .int s0), (0, .ref x0), (1, .int x1), (3, .int x3)]) hx hb d_LogCleanerModel_clean_64 rfl hl (by decide) rfl (fun ls hl => ?_)
  refine lv_iinc (v := x3 + 1) (lv' := [(3, .int (x3 + 1)), (2, .int s0), (0, .ref x0), (1, .int x1)]) hx hb d_LogCleanerModel_clean_65 hl (k := 3) rfl rfl (by decide) rfl (fun ls hl => ?_)
  refine lv_goto (tgt := 26) hx hb d_LogCleanerModel_clean_68 (by decide) ?_
  exact hk26 x0 x1 s0 (x3 + 1) h _ _ _ hw hP hS (lv_sub hl [2, 3, 1, 0] rfl)

set_option maxHeartbeats 4000000 in
set_option maxRecDepth 100000 in
theorem sb_LogCleanerModel_clean_59 {p : Program} {l : Launch} {e : Env} {s : State} {m : MethodId} {args : Array Value} {below : List Frame} {meth : Method} {c : Code} {D : va_G} {d : Nat → ClassId} {A : Nat → Prop} {h0 : xw} {Q : Int32 → xw → Prop} {k26 : Nat → Int32 → Int32 → Int32 → xw → Prop} (C0 : xctx p s m args meth c b_LogCleanerModel_clean 10 (some .int) R_LogCleanerModel D d A True) (hk26 : ∀ (x0 : Nat) (x1 : Int32) (x2 : Int32) (x3 : Int32) (h : xw) (H : Heap) (locs : List Loc) (ls : Array Slot), k26 x0 x1 x2 x3 h → xR sgM h0 D A h H → va_S A s.heap H locs → lv_has ls 10 [(0, .ref x0), (1, .int x1), (2, .int x2), (3, .int x3)] → W p l e rm_LogCleanerModel_clean s m args below meth c H locs 0 0 (MQ below (va_Qi (fun r u => Q r u ∧ xfr sgM h0 u) (xB D d A) A) args s 0 0 A) (F0 m 26 ls [])) : ∀ (x0 : Nat) (x1 : Int32) (x3 : Int32) (h : xw) (H : Heap) (locs : List Loc) (ls : Array Slot), wb_LogCleanerModel_clean_59 d k26 Q x0 x1 x3 h → xR sgM h0 D A h H → va_S A s.heap H locs → lv_has ls 10 [(0, .ref x0), (1, .int x1), (3, .int x3)] → W p l e rm_LogCleanerModel_clean s m args below meth c H locs 0 0 (MQ below (va_Qi (fun r u => Q r u ∧ xfr sgM h0 u) (xB D d A) A) args s 0 0 A) (F0 m 59 ls []) := by
  obtain ⟨hx, hb, hr, hml, hown, htb, hK, hA, hNB, hlocks, hXT⟩ := id C0
  intro x0 x1 x3 h H locs ls hw hP hS hl
  refine lv_iconst (v := 1) hx hb d_LogCleanerModel_clean_59 (by decide) ?_
  refine lv_goto (tgt := 64) hx hb d_LogCleanerModel_clean_60 (by decide) ?_
  exact sb_LogCleanerModel_clean_64 C0 hk26 x0 x1 x3 1 h _ _ _ hw hP hS (lv_sub hl [0, 1, 2] rfl)

set_option maxHeartbeats 4000000 in
set_option maxRecDepth 100000 in
theorem sl_LogCleanerModel_clean_26 {p : Program} {l : Launch} {e : Env} {s : State} {m : MethodId} {args : Array Value} {below : List Frame} {meth : Method} {c : Code} {D : va_G} {d : Nat → ClassId} {A : Nat → Prop} {h0 : xw} {Q : Int32 → xw → Prop} (C0 : xctx p s m args meth c b_LogCleanerModel_clean 10 (some .int) R_LogCleanerModel D d A True) : ∀ (n : Nat) (x : Nat × Int32 × Int32 × Int32) (h : xw) (H : Heap) (locs : List Loc) (ls : Array Slot), xloop (fun (k : Nat × Int32 × Int32 × Int32 → xw → Prop) (x : Nat × Int32 × Int32 × Int32) (h : xw) => wc_LogCleanerModel_clean_26 d Q (fun y0 y1 y2 y3 h => k (y0, y1, y2, y3) h) x.1 x.2.1 x.2.2.1 x.2.2.2 h) n x h → xR sgM h0 D A h H → va_S A s.heap H locs → lv_has ls 10 [(0, .ref x.1), (1, .int x.2.1), (2, .int x.2.2.1), (3, .int x.2.2.2)] → W p l e rm_LogCleanerModel_clean s m args below meth c H locs 0 0 (MQ below (va_Qi (fun r u => Q r u ∧ xfr sgM h0 u) (xB D d A) A) args s 0 0 A) (F0 m 26 ls []) := by
  obtain ⟨hx, hb, hr, hml, hown, htb, hK, hA, hNB, hlocks, hXT⟩ := id C0
  intro n
  induction n with
  | zero => intro x h H locs ls hw; exact hw.elim
  | succ n ih =>
    rintro ⟨x0, x1, x2, x3⟩ h H locs ls hw hP hS hl
    replace hw : wc_LogCleanerModel_clean_26 d Q (fun y0 y1 y2 y3 h => xloop (fun (k : Nat × Int32 × Int32 × Int32 → xw → Prop) (x : Nat × Int32 × Int32 × Int32) (h : xw) => wc_LogCleanerModel_clean_26 d Q (fun y0 y1 y2 y3 h => k (y0, y1, y2, y3) h) x.1 x.2.1 x.2.2.1 x.2.2.2 h) n (y0, y1, y2, y3) h) x0 x1 x2 x3 h := hw
    have hk26 := fun (x0 : Nat) (x1 : Int32) (x2 : Int32) (x3 : Int32) => ih (x0, x1, x2, x3)
    refine lv_iload_n hx hb d_LogCleanerModel_clean_26 rfl (lv_at hl 3 rfl) ?_
    refine lv_aload_n hx hb d_LogCleanerModel_clean_27 rfl (lv_at hl 0 rfl) ?_
    refine xgetI hx hb htb i_LogCleanerModel hown hK hP (ci := 4) rfl 1 (by decide) (htb _ k_LogCleanerModel_75) (fun _ h9 => h9) hw d_LogCleanerModel_clean_28 (fun v3 hw => ?_)
    refine lv_icmp_ge (tgt := 71) hx hb d_LogCleanerModel_clean_31 (by decide) (fun cq => ?_) (fun cq => ?_)
    · replace hw := hw.1 cq
      refine lv_iconst (v := 0) hx hb d_LogCleanerModel_clean_71 (by decide) ?_
      refine lv_istore_n (lv' := [(3, .int 0), (0, .ref x0), (1, .int x1), (2, .int x2)]) hx hb d_LogCleanerModel_clean_72 rfl hl (by decide) rfl (fun ls hl => ?_)
      refine lv_iconst (v := 0) hx hb d_LogCleanerModel_clean_73 (by decide) ?_
      refine lv_istore (lv' := [(4, .int 0), (3, .int 0), (0, .ref x0), (1, .int x1), (2, .int x2)]) hx hb d_LogCleanerModel_clean_74 hl (by decide) rfl (fun ls hl => ?_)
      obtain ⟨n, hw⟩ := hw
      exact sl_LogCleanerModel_clean_76 C0 n (x0, x2, 0, 0) h _ _ _ hw hP hS (lv_sub hl [2, 4, 1, 0] rfl)
    · replace hw := hw.2 cq
      refine lv_aload_n hx hb d_LogCleanerModel_clean_34 rfl (lv_at hl 0 rfl) ?_
      refine xgetA hx hb htb i_LogCleanerModel hown hK hP (ci := 4) rfl 20 (by decide) (htb _ k_LogCleanerModel_57) (fun _ h9 => h9) hw d_LogCleanerModel_clean_35 (fun r38 hw => ?_)
      refine lv_iload_n hx hb d_LogCleanerModel_clean_38 rfl (lv_at hl 3 rfl) ?_
      refine lv_aload_n hx hb d_LogCleanerModel_clean_39 rfl (lv_at hl 0 rfl) ?_
      refine lv_iload_n hx hb d_LogCleanerModel_clean_40 rfl (lv_at hl 3 rfl) ?_
      refine lv_iload_n hx hb d_LogCleanerModel_clean_41 rfl (lv_at hl 1 rfl) ?_
      obtain ⟨⟨_, hw0⟩, hw⟩ := hw
      refine xcalli (va_runV (b := x0) (As := [.int x3, .int x1]) (rest := [.int x3, va_rf r38]) ⟨hx, hb, hml, hown, htb⟩ (m_LogCleanerModel_isOver l D d h _ x0 x3 x1 _ hw) (xcwV 2 htb g_code_LogCleanerModel_isOver g_ini_LogCleanerModel k_LogCleanerModel_96 g_im_LogCleanerModel_isOver g_sel_LogCleanerModel_isOver rfl rfl (by decide +kernel) ⟨(Nat.le_of_ble_eq_true rfl), (Nat.le_of_ble_eq_true rfl)⟩) (xpreV hP hK hNB (ci := 4) rfl hw0) rfl rfl hl.1 rfl (lv_room (by cases r38 <;> exact (Nat.le_of_ble_eq_true rfl))) d_LogCleanerModel_clean_42 ⟨(Nat.le_of_ble_eq_true rfl), (Nat.le_of_ble_eq_true rfl)⟩) hP hS hA (fun r40 h39 H locs hw hP hS => ?_)
      refine W.widen (k := 0) (n := 0) (Nat.le_of_ble_eq_true rfl) (Nat.le_of_ble_eq_true rfl) ?_
      obtain ⟨p41, hpe, hw⟩ := hw
      revert hw
      revert hl
      subst hpe
      intro hl hw
      replace hl : lv_has ls 10 [(0, .ref x0), (1, .int x1), (2, .int x2), (3, .int x3)] := hl
      refine xstz hx hb hK hP hS 4 rfl (fun _ _ => rfl) hw d_LogCleanerModel_clean_45 (fun h42 H locs hw hP hS => ?_)
      refine lv_iload_n hx hb d_LogCleanerModel_clean_46 rfl (lv_at hl 2 rfl) ?_
      refine lv_if_ne (tgt := 59) hx hb d_LogCleanerModel_clean_47 (by decide) (fun cq => ?_) (fun cq => ?_)
      · replace hw := hw.2 cq
        exact sb_LogCleanerModel_clean_59 C0 hk26 x0 x1 x3 h42 _ _ _ hw hP hS (lv_sub hl [0, 1, 3] rfl)
      · replace hw := hw.1 cq
        refine lv_aload_n hx hb d_LogCleanerModel_clean_50 rfl (lv_at hl 0 rfl) ?_
        refine xgetA hx hb htb i_LogCleanerModel hown hK hP (ci := 4) rfl 20 (by decide) (htb _ k_LogCleanerModel_57) (fun _ h9 => h9) hw d_LogCleanerModel_clean_51 (fun r43 hw => ?_)
        refine lv_iload_n hx hb d_LogCleanerModel_clean_54 rfl (lv_at hl 3 rfl) ?_
        obtain ⟨p44, hpe, hw⟩ := hw
        revert hw
        revert hl
        subst hpe
        intro hl hw
        replace hl : lv_has ls 10 [(0, .ref x0), (1, .int x1), (2, .int x2), (3, .int x3)] := hl
        refine xldz hx hb hK hP 4 rfl hw d_LogCleanerModel_clean_55 (fun v45 hw => ?_)
        refine lv_if_eq (tgt := 63) hx hb d_LogCleanerModel_clean_56 (by decide) (fun cq => ?_) (fun cq => ?_)
        · replace hw := hw.1 cq
          refine lv_iconst (v := 0) hx hb d_LogCleanerModel_clean_63 (by decide) ?_
          exact sb_LogCleanerModel_clean_64 C0 hk26 x0 x1 x3 0 h42 _ _ _ hw hP hS (lv_sub hl [0, 1, 3] rfl)
        · replace hw := hw.2 cq
          exact sb_LogCleanerModel_clean_59 C0 hk26 x0 x1 x3 h42 _ _ _ hw hP hS (lv_sub hl [0, 1, 3] rfl)

set_option maxHeartbeats 4000000 in
set_option maxRecDepth 100000 in
theorem sb_LogCleanerModel_clean_10 {p : Program} {l : Launch} {e : Env} {s : State} {m : MethodId} {args : Array Value} {below : List Frame} {meth : Method} {c : Code} {D : va_G} {d : Nat → ClassId} {A : Nat → Prop} {h0 : xw} {Q : Int32 → xw → Prop} (C0 : xctx p s m args meth c b_LogCleanerModel_clean 10 (some .int) R_LogCleanerModel D d A True) : ∀ (x0 : Nat) (x1 : Int32) (s0 : Int32) (s1 : Nat) (h : xw) (H : Heap) (locs : List Loc) (ls : Array Slot), wb_LogCleanerModel_clean_10 d Q x0 x1 s0 s1 h → xR sgM h0 D A h H → va_S A s.heap H locs → lv_has ls 10 [(0, .ref x0), (1, .int x1)] → W p l e rm_LogCleanerModel_clean s m args below meth c H locs 0 0 (MQ below (va_Qi (fun r u => Q r u ∧ xfr sgM h0 u) (xB D d A) A) args s 0 0 A) (F0 m 10 ls [.int s0, .ref s1]) := by
  obtain ⟨hx, hb, hr, hml, hown, htb, hK, hA, hNB, hlocks, hXT⟩ := id C0
  intro x0 x1 s0 s1 h H locs ls hw hP hS hl
  refine xputI hx hb htb i_LogCleanerModel t_LogCleanerModel t_LogCleanerModel_ok n_LogCleanerModel hown hK hP hS (ci := 4) rfl (fun _ => rfl) 0 (by decide) (htb _ k_LogCleanerModel_66) (fun _ h9 => h9) rfl (by decide +kernel) hw d_LogCleanerModel_clean_10 (fun h1 H locs hw hP hS => ?_)
  refine lv_aload_n hx hb d_LogCleanerModel_clean_13 rfl (lv_at hl 0 rfl) ?_
  refine xgetI hx hb htb i_LogCleanerModel hown hK hP (ci := 4) rfl 0 (by decide) (htb _ k_LogCleanerModel_66) (fun _ h9 => h9) hw d_LogCleanerModel_clean_14 (fun v2 hw => ?_)
  refine lv_if_le (tgt := 22) hx hb d_LogCleanerModel_clean_17 (by decide) (fun cq => ?_) (fun cq => ?_)
  · replace hw := hw.1 cq
    refine lv_iconst (v := 0) hx hb d_LogCleanerModel_clean_22 (by decide) ?_
    refine lv_istore_n (lv' := [(2, .int 0), (0, .ref x0), (1, .int x1)]) hx hb d_LogCleanerModel_clean_23 rfl hl (by decide) rfl (fun ls hl => ?_)
    refine lv_iconst (v := 0) hx hb d_LogCleanerModel_clean_24 (by decide) ?_
    refine lv_istore_n (lv' := [(3, .int 0), (2, .int 0), (0, .ref x0), (1, .int x1)]) hx hb d_LogCleanerModel_clean_25 rfl hl (by decide) rfl (fun ls hl => ?_)
    obtain ⟨n, hw⟩ := hw
    exact sl_LogCleanerModel_clean_26 C0 n (x0, x1, 0, 0) h1 _ _ _ hw hP hS (lv_sub hl [2, 3, 1, 0] rfl)
  · replace hw := hw.2 cq
    refine lv_iconst (v := 0) hx hb d_LogCleanerModel_clean_20 (by decide) ?_
    refine W.widen (k := 0) (n := 0) (Nat.le_of_ble_eq_true rfl) (Nat.le_of_ble_eq_true rfl) ?_
    exact xretI C0 hw hP hS d_LogCleanerModel_clean_21

set_option maxHeartbeats 4000000 in
set_option maxRecDepth 100000 in
theorem m_LogCleanerModel_clean (l : Launch) (D : va_G) (d : Nat → ClassId) (h : xw) (sz : Nat) (a0 : Nat) (a1 : Int32) (Q : Int32 → xw → Prop) (hw : wp_LogCleanerModel_clean d h a0 a1 Q) : Met l y_LogCleanerModel_clean ws_LogCleanerModel_clean rm_LogCleanerModel_clean (xPre D d h [.ref a0, .int a1] sz) (va_Qi (fun r u => Q r u ∧ xfr sgM h u) (xB D d (xA h sz)) (xA h sz)) 0 0 (xA h sz) := by
  refine Met.ofW (cc := b_LogCleanerModel_clean) (maxL := 10) (ret := (some .int)) (by decide) rfl ?_
  intro p e s m args below meth c s₁ B hml hv
  obtain ⟨rfl, hsz, hP0, hK, hNB⟩ := hv
  have hts := atoms_spec (ws := ws_LogCleanerModel_clean) B.pre
  have htb := fun w (hw9 : w ∈ TB) => hts w (List.mem_cons_of_mem _ hw9)
  have hown : s.vm.findClass R_LogCleanerModel = some m.cls := findClass_of_methodNamed B.named
  subst hsz
  obtain ⟨A, hAe⟩ : ∃ A, A = xA h s.heap.size := ⟨_, rfl⟩
  rw [← hAe]
  have hP : xR sgM h D A h s.heap := ⟨by rw [hAe]; exact hP0.self, xfr.rf⟩
  have hA : ∀ q, s.heap.size ≤ q → A q := fun q hq => by rw [hAe]; exact Or.inr hq
  have hS : va_S A s.heap s.heap [] := va_S.rf
  have C0 : xctx p s m ([.ref a0, .int a1] : List Value).toArray meth c b_LogCleanerModel_clean 10 (some .int) R_LogCleanerModel D d A True := ⟨B.exec, B.bytes, B.returns, hml, hown, htb, hK, hA, hNB, B.notSynchronized, trivial⟩
  obtain ⟨hx, hb, hr, -, -, -, -, -, -, hlocks, hXT⟩ := id C0
  have hl := lv_entry ([.ref a0, .int a1] : List Value) (n := 10) (Nat.le_of_ble_eq_true rfl)
  rw [lg_entry_eq]
  generalize (lg_sl ([.ref a0, .int a1] : List Value) ++ List.replicate (10 - (lg_sl ([.ref a0, .int a1] : List Value)).length) Slot.unset).toArray = ls at hl ⊢
  have hl : lv_has ls 10 [(0, .ref a0), (1, .int a1)] := hl
  refine lv_aload_n hx hb d_LogCleanerModel_clean_0 rfl (lv_at hl 0 rfl) ?_
  refine lv_iload_n hx hb d_LogCleanerModel_clean_1 rfl (lv_at hl 1 rfl) ?_
  refine lv_if_ge (tgt := 9) hx hb d_LogCleanerModel_clean_2 (by decide) (fun cq => ?_) (fun cq => ?_)
  · replace hw := hw.1 cq
    refine lv_iconst (v := 0) hx hb d_LogCleanerModel_clean_9 (by decide) ?_
    exact sb_LogCleanerModel_clean_10 C0 a0 a1 0 a0 h _ _ _ hw hP hS (lv_sub hl [0, 1] rfl)
  · replace hw := hw.2 cq
    refine lv_iconst (v := 1) hx hb d_LogCleanerModel_clean_5 (by decide) ?_
    refine lv_goto (tgt := 10) hx hb d_LogCleanerModel_clean_6 (by decide) ?_
    exact sb_LogCleanerModel_clean_10 C0 a0 a1 1 a0 h _ _ _ hw hP hS (lv_sub hl [0, 1] rfl)

theorem d_LogCleanerModel_segments_0 : decode b_LogCleanerModel_segments 0 = .ok (.aload_n 0, 1) := by decide +kernel
theorem d_LogCleanerModel_segments_1 : decode b_LogCleanerModel_segments 1 = .ok (.getfield 82, 3) := by decide +kernel
theorem d_LogCleanerModel_segments_4 : decode b_LogCleanerModel_segments 4 = .ok (.ifCond .ne 7, 3) := by decide +kernel
theorem d_LogCleanerModel_segments_7 : decode b_LogCleanerModel_segments 7 = .ok (.iconst 0, 1) := by decide +kernel
theorem d_LogCleanerModel_segments_8 : decode b_LogCleanerModel_segments 8 = .ok (.goto 16, 3) := by decide +kernel
theorem d_LogCleanerModel_segments_11 : decode b_LogCleanerModel_segments 11 = .ok (.aload_n 0, 1) := by decide +kernel
theorem d_LogCleanerModel_segments_12 : decode b_LogCleanerModel_segments 12 = .ok (.getfield 54, 3) := by decide +kernel
theorem d_LogCleanerModel_segments_15 : decode b_LogCleanerModel_segments 15 = .ok (.aload_n 0, 1) := by decide +kernel
theorem d_LogCleanerModel_segments_16 : decode b_LogCleanerModel_segments 16 = .ok (.getfield 82, 3) := by decide +kernel
theorem d_LogCleanerModel_segments_19 : decode b_LogCleanerModel_segments 19 = .ok (.iconst 1, 1) := by decide +kernel
theorem d_LogCleanerModel_segments_20 : decode b_LogCleanerModel_segments 20 = .ok (.isub, 1) := by decide +kernel
theorem d_LogCleanerModel_segments_21 : decode b_LogCleanerModel_segments 21 = .ok (.iaload, 1) := by decide +kernel
theorem d_LogCleanerModel_segments_22 : decode b_LogCleanerModel_segments 22 = .ok (.iconst 1, 1) := by decide +kernel
theorem d_LogCleanerModel_segments_23 : decode b_LogCleanerModel_segments 23 = .ok (.iadd, 1) := by decide +kernel
theorem d_LogCleanerModel_segments_24 : decode b_LogCleanerModel_segments 24 = .ok (.ireturn, 1) := by decide +kernel
def rm_LogCleanerModel_segments : Room := { frames := 0, cells := 0, slots := 0, locals := 0 }
def ws_LogCleanerModel_segments : List Cond := Cond.code y_LogCleanerModel_segments b_LogCleanerModel_segments 1 (some .int) :: TB
set_option maxHeartbeats 4000000 in
set_option maxRecDepth 100000 in
theorem sb_LogCleanerModel_segments_24 {p : Program} {l : Launch} {e : Env} {s : State} {m : MethodId} {args : Array Value} {below : List Frame} {meth : Method} {c : Code} {D : va_G} {d : Nat → ClassId} {A : Nat → Prop} {h0 : xw} {Q : Int32 → xw → Prop} (C0 : xctx p s m args meth c b_LogCleanerModel_segments 1 (some .int) R_LogCleanerModel D d A True) : ∀ (s0 : Int32) (h : xw) (H : Heap) (locs : List Loc) (ls : Array Slot), wb_LogCleanerModel_segments_24 d Q  s0 h → xR sgM h0 D A h H → va_S A s.heap H locs → lv_has ls 1 [] → W p l e rm_LogCleanerModel_segments s m args below meth c H locs 0 0 (MQ below (va_Qi (fun r u => Q r u ∧ xfr sgM h0 u) (xB D d A) A) args s 0 0 A) (F0 m 24 ls [.int s0]) := by
  obtain ⟨hx, hb, hr, hml, hown, htb, hK, hA, hNB, hlocks, hXT⟩ := id C0
  intro  s0 h H locs ls hw hP hS hl
  refine W.widen (k := 0) (n := 0) (Nat.le_of_ble_eq_true rfl) (Nat.le_of_ble_eq_true rfl) ?_
  exact xretI C0 hw hP hS d_LogCleanerModel_segments_24

set_option maxHeartbeats 4000000 in
set_option maxRecDepth 100000 in
theorem m_LogCleanerModel_segments (l : Launch) (D : va_G) (d : Nat → ClassId) (h : xw) (sz : Nat) (a0 : Nat) (Q : Int32 → xw → Prop) (hw : wp_LogCleanerModel_segments d h a0 Q) : Met l y_LogCleanerModel_segments ws_LogCleanerModel_segments rm_LogCleanerModel_segments (xPre D d h [.ref a0] sz) (va_Qi (fun r u => Q r u ∧ xfr sgM h u) (xB D d (xA h sz)) (xA h sz)) 0 0 (xA h sz) := by
  refine Met.ofW (cc := b_LogCleanerModel_segments) (maxL := 1) (ret := (some .int)) (by decide) rfl ?_
  intro p e s m args below meth c s₁ B hml hv
  obtain ⟨rfl, hsz, hP0, hK, hNB⟩ := hv
  have hts := atoms_spec (ws := ws_LogCleanerModel_segments) B.pre
  have htb := fun w (hw9 : w ∈ TB) => hts w (List.mem_cons_of_mem _ hw9)
  have hown : s.vm.findClass R_LogCleanerModel = some m.cls := findClass_of_methodNamed B.named
  subst hsz
  obtain ⟨A, hAe⟩ : ∃ A, A = xA h s.heap.size := ⟨_, rfl⟩
  rw [← hAe]
  have hP : xR sgM h D A h s.heap := ⟨by rw [hAe]; exact hP0.self, xfr.rf⟩
  have hA : ∀ q, s.heap.size ≤ q → A q := fun q hq => by rw [hAe]; exact Or.inr hq
  have hS : va_S A s.heap s.heap [] := va_S.rf
  have C0 : xctx p s m ([.ref a0] : List Value).toArray meth c b_LogCleanerModel_segments 1 (some .int) R_LogCleanerModel D d A True := ⟨B.exec, B.bytes, B.returns, hml, hown, htb, hK, hA, hNB, B.notSynchronized, trivial⟩
  obtain ⟨hx, hb, hr, -, -, -, -, -, -, hlocks, hXT⟩ := id C0
  have hl := lv_entry ([.ref a0] : List Value) (n := 1) (Nat.le_of_ble_eq_true rfl)
  rw [lg_entry_eq]
  generalize (lg_sl ([.ref a0] : List Value) ++ List.replicate (1 - (lg_sl ([.ref a0] : List Value)).length) Slot.unset).toArray = ls at hl ⊢
  have hl : lv_has ls 1 [(0, .ref a0)] := hl
  refine lv_aload_n hx hb d_LogCleanerModel_segments_0 rfl (lv_at hl 0 rfl) ?_
  refine xgetI hx hb htb i_LogCleanerModel hown hK hP (ci := 4) rfl 16 (by decide) (htb _ k_LogCleanerModel_82) (fun _ h9 => h9) hw d_LogCleanerModel_segments_1 (fun v1 hw => ?_)
  refine lv_if_ne (tgt := 11) hx hb d_LogCleanerModel_segments_4 (by decide) (fun cq => ?_) (fun cq => ?_)
  · replace hw := hw.2 cq
    refine lv_aload_n hx hb d_LogCleanerModel_segments_11 rfl (lv_at hl 0 rfl) ?_
    refine xgetA hx hb htb i_LogCleanerModel hown hK hP (ci := 4) rfl 19 (by decide) (htb _ k_LogCleanerModel_54) (fun _ h9 => h9) hw d_LogCleanerModel_segments_12 (fun r2 hw => ?_)
    refine lv_aload_n hx hb d_LogCleanerModel_segments_15 rfl (lv_at hl 0 rfl) ?_
    refine xgetI hx hb htb i_LogCleanerModel hown hK hP (ci := 4) rfl 16 (by decide) (htb _ k_LogCleanerModel_82) (fun _ h9 => h9) hw d_LogCleanerModel_segments_16 (fun v3 hw => ?_)
    refine lv_iconst (v := 1) hx hb d_LogCleanerModel_segments_19 (by decide) ?_
    refine lv_isub hx hb d_LogCleanerModel_segments_20 ?_
    obtain ⟨p4, hpe, hw⟩ := hw
    revert hw
    revert hl
    subst hpe
    intro hl hw
    replace hl : lv_has ls 1 [(0, .ref a0)] := hl
    refine xldi hx hb hK hP 2 rfl hw d_LogCleanerModel_segments_21 (fun v5 hw => ?_)
    refine lv_iconst (v := 1) hx hb d_LogCleanerModel_segments_22 (by decide) ?_
    refine lv_iadd hx hb d_LogCleanerModel_segments_23 ?_
    exact sb_LogCleanerModel_segments_24 C0 (v5 + 1) h _ _ _ hw hP hS (lv_sub hl [] rfl)
  · replace hw := hw.1 cq
    refine lv_iconst (v := 0) hx hb d_LogCleanerModel_segments_7 (by decide) ?_
    refine lv_goto (tgt := 24) hx hb d_LogCleanerModel_segments_8 (by decide) ?_
    exact sb_LogCleanerModel_segments_24 C0 0 h _ _ _ hw hP hS (lv_sub hl [] rfl)

theorem d_LogCleanerModel_drop_0 : decode b_LogCleanerModel_drop 0 = .ok (.aload_n 0, 1) := by decide +kernel
theorem d_LogCleanerModel_drop_1 : decode b_LogCleanerModel_drop 1 = .ok (.iload_n 1, 1) := by decide +kernel
theorem d_LogCleanerModel_drop_2 : decode b_LogCleanerModel_drop 2 = .ok (.ifCond .lt 10, 3) := by decide +kernel
theorem d_LogCleanerModel_drop_5 : decode b_LogCleanerModel_drop 5 = .ok (.iload_n 1, 1) := by decide +kernel
theorem d_LogCleanerModel_drop_6 : decode b_LogCleanerModel_drop 6 = .ok (.sipush 400, 3) := by decide +kernel
theorem d_LogCleanerModel_drop_9 : decode b_LogCleanerModel_drop 9 = .ok (.if_icmp .le 7, 3) := by decide +kernel
theorem d_LogCleanerModel_drop_12 : decode b_LogCleanerModel_drop 12 = .ok (.iconst 1, 1) := by decide +kernel
theorem d_LogCleanerModel_drop_13 : decode b_LogCleanerModel_drop 13 = .ok (.goto 4, 3) := by decide +kernel
theorem d_LogCleanerModel_drop_16 : decode b_LogCleanerModel_drop 16 = .ok (.iconst 0, 1) := by decide +kernel
theorem d_LogCleanerModel_drop_17 : decode b_LogCleanerModel_drop 17 = .ok (.putfield 66, 3) := by decide +kernel
theorem d_LogCleanerModel_drop_20 : decode b_LogCleanerModel_drop 20 = .ok (.aload_n 0, 1) := by decide +kernel
theorem d_LogCleanerModel_drop_21 : decode b_LogCleanerModel_drop 21 = .ok (.getfield 66, 3) := by decide +kernel
theorem d_LogCleanerModel_drop_24 : decode b_LogCleanerModel_drop 24 = .ok (.ifCond .le 5, 3) := by decide +kernel
theorem d_LogCleanerModel_drop_27 : decode b_LogCleanerModel_drop 27 = .ok (.iconst 0, 1) := by decide +kernel
theorem d_LogCleanerModel_drop_28 : decode b_LogCleanerModel_drop 28 = .ok (.ireturn, 1) := by decide +kernel
theorem d_LogCleanerModel_drop_29 : decode b_LogCleanerModel_drop 29 = .ok (.aload_n 0, 1) := by decide +kernel
theorem d_LogCleanerModel_drop_30 : decode b_LogCleanerModel_drop 30 = .ok (.invokevirtual 107, 3) := by decide +kernel
theorem d_LogCleanerModel_drop_33 : decode b_LogCleanerModel_drop 33 = .ok (.istore_n 2, 1) := by decide +kernel
theorem d_LogCleanerModel_drop_34 : decode b_LogCleanerModel_drop 34 = .ok (.iload_n 1, 1) := by decide +kernel
theorem d_LogCleanerModel_drop_35 : decode b_LogCleanerModel_drop 35 = .ok (.iload_n 2, 1) := by decide +kernel
theorem d_LogCleanerModel_drop_36 : decode b_LogCleanerModel_drop 36 = .ok (.iconst 1, 1) := by decide +kernel
theorem d_LogCleanerModel_drop_37 : decode b_LogCleanerModel_drop 37 = .ok (.isub, 1) := by decide +kernel
theorem d_LogCleanerModel_drop_38 : decode b_LogCleanerModel_drop 38 = .ok (.if_icmp .ge 7, 3) := by decide +kernel
theorem d_LogCleanerModel_drop_41 : decode b_LogCleanerModel_drop 41 = .ok (.iload_n 1, 1) := by decide +kernel
theorem d_LogCleanerModel_drop_42 : decode b_LogCleanerModel_drop 42 = .ok (.goto 14, 3) := by decide +kernel
theorem d_LogCleanerModel_drop_45 : decode b_LogCleanerModel_drop 45 = .ok (.iload_n 2, 1) := by decide +kernel
theorem d_LogCleanerModel_drop_46 : decode b_LogCleanerModel_drop 46 = .ok (.ifCond .le 9, 3) := by decide +kernel
theorem d_LogCleanerModel_drop_49 : decode b_LogCleanerModel_drop 49 = .ok (.iload_n 2, 1) := by decide +kernel
theorem d_LogCleanerModel_drop_50 : decode b_LogCleanerModel_drop 50 = .ok (.iconst 1, 1) := by decide +kernel
theorem d_LogCleanerModel_drop_51 : decode b_LogCleanerModel_drop 51 = .ok (.isub, 1) := by decide +kernel
theorem d_LogCleanerModel_drop_52 : decode b_LogCleanerModel_drop 52 = .ok (.goto 4, 3) := by decide +kernel
theorem d_LogCleanerModel_drop_55 : decode b_LogCleanerModel_drop 55 = .ok (.iconst 0, 1) := by decide +kernel
theorem d_LogCleanerModel_drop_56 : decode b_LogCleanerModel_drop 56 = .ok (.istore_n 3, 1) := by decide +kernel
theorem d_LogCleanerModel_drop_57 : decode b_LogCleanerModel_drop 57 = .ok (.iconst 0, 1) := by decide +kernel
theorem d_LogCleanerModel_drop_58 : decode b_LogCleanerModel_drop 58 = .ok (.istore 4, 2) := by decide +kernel
theorem d_LogCleanerModel_drop_60 : decode b_LogCleanerModel_drop 60 = .ok (.iload 4, 2) := by decide +kernel
theorem d_LogCleanerModel_drop_62 : decode b_LogCleanerModel_drop 62 = .ok (.aload_n 0, 1) := by decide +kernel
theorem d_LogCleanerModel_drop_63 : decode b_LogCleanerModel_drop 63 = .ok (.getfield 75, 3) := by decide +kernel
theorem d_LogCleanerModel_drop_66 : decode b_LogCleanerModel_drop 66 = .ok (.if_icmp .ge 37, 3) := by decide +kernel
theorem d_LogCleanerModel_drop_69 : decode b_LogCleanerModel_drop 69 = .ok (.aload_n 0, 1) := by decide +kernel
theorem d_LogCleanerModel_drop_70 : decode b_LogCleanerModel_drop 70 = .ok (.getfield 57, 3) := by decide +kernel
theorem d_LogCleanerModel_drop_73 : decode b_LogCleanerModel_drop 73 = .ok (.iload 4, 2) := by decide +kernel
theorem d_LogCleanerModel_drop_75 : decode b_LogCleanerModel_drop 75 = .ok (.aload_n 0, 1) := by decide +kernel
theorem d_LogCleanerModel_drop_76 : decode b_LogCleanerModel_drop 76 = .ok (.getfield 54, 3) := by decide +kernel
theorem d_LogCleanerModel_drop_79 : decode b_LogCleanerModel_drop 79 = .ok (.aload_n 0, 1) := by decide +kernel
theorem d_LogCleanerModel_drop_80 : decode b_LogCleanerModel_drop 80 = .ok (.getfield 7, 3) := by decide +kernel
theorem d_LogCleanerModel_drop_83 : decode b_LogCleanerModel_drop 83 = .ok (.iload 4, 2) := by decide +kernel
theorem d_LogCleanerModel_drop_85 : decode b_LogCleanerModel_drop 85 = .ok (.iaload, 1) := by decide +kernel
theorem d_LogCleanerModel_drop_86 : decode b_LogCleanerModel_drop 86 = .ok (.iaload, 1) := by decide +kernel
theorem d_LogCleanerModel_drop_87 : decode b_LogCleanerModel_drop 87 = .ok (.iload_n 3, 1) := by decide +kernel
theorem d_LogCleanerModel_drop_88 : decode b_LogCleanerModel_drop 88 = .ok (.if_icmp .ge 7, 3) := by decide +kernel
theorem d_LogCleanerModel_drop_91 : decode b_LogCleanerModel_drop 91 = .ok (.iconst 1, 1) := by decide +kernel
theorem d_LogCleanerModel_drop_92 : decode b_LogCleanerModel_drop 92 = .ok (.goto 4, 3) := by decide +kernel
theorem d_LogCleanerModel_drop_95 : decode b_LogCleanerModel_drop 95 = .ok (.iconst 0, 1) := by decide +kernel
theorem d_LogCleanerModel_drop_96 : decode b_LogCleanerModel_drop 96 = .ok (.bastore, 1) := by decide +kernel
theorem d_LogCleanerModel_drop_97 : decode b_LogCleanerModel_drop 97 = .ok (.iinc 4 1, 3) := by decide +kernel
theorem d_LogCleanerModel_drop_100 : decode b_LogCleanerModel_drop 100 = .ok (.goto (-40), 3) := by decide +kernel
theorem d_LogCleanerModel_drop_103 : decode b_LogCleanerModel_drop 103 = .ok (.iconst 0, 1) := by decide +kernel
theorem d_LogCleanerModel_drop_104 : decode b_LogCleanerModel_drop 104 = .ok (.istore 4, 2) := by decide +kernel
theorem d_LogCleanerModel_drop_106 : decode b_LogCleanerModel_drop 106 = .ok (.iload 4, 2) := by decide +kernel
theorem d_LogCleanerModel_drop_108 : decode b_LogCleanerModel_drop 108 = .ok (.aload_n 0, 1) := by decide +kernel
theorem d_LogCleanerModel_drop_109 : decode b_LogCleanerModel_drop 109 = .ok (.getfield 82, 3) := by decide +kernel
theorem d_LogCleanerModel_drop_112 : decode b_LogCleanerModel_drop 112 = .ok (.if_icmp .ge 32, 3) := by decide +kernel
theorem d_LogCleanerModel_drop_115 : decode b_LogCleanerModel_drop 115 = .ok (.aload_n 0, 1) := by decide +kernel
theorem d_LogCleanerModel_drop_116 : decode b_LogCleanerModel_drop 116 = .ok (.getfield 60, 3) := by decide +kernel
theorem d_LogCleanerModel_drop_119 : decode b_LogCleanerModel_drop 119 = .ok (.iload 4, 2) := by decide +kernel
theorem d_LogCleanerModel_drop_121 : decode b_LogCleanerModel_drop 121 = .ok (.aload_n 0, 1) := by decide +kernel
theorem d_LogCleanerModel_drop_122 : decode b_LogCleanerModel_drop 122 = .ok (.getfield 54, 3) := by decide +kernel
theorem d_LogCleanerModel_drop_125 : decode b_LogCleanerModel_drop 125 = .ok (.iload 4, 2) := by decide +kernel
theorem d_LogCleanerModel_drop_127 : decode b_LogCleanerModel_drop 127 = .ok (.iaload, 1) := by decide +kernel
theorem d_LogCleanerModel_drop_128 : decode b_LogCleanerModel_drop 128 = .ok (.iload_n 3, 1) := by decide +kernel
theorem d_LogCleanerModel_drop_129 : decode b_LogCleanerModel_drop 129 = .ok (.if_icmp .lt 7, 3) := by decide +kernel
theorem d_LogCleanerModel_drop_132 : decode b_LogCleanerModel_drop 132 = .ok (.iconst 1, 1) := by decide +kernel
theorem d_LogCleanerModel_drop_133 : decode b_LogCleanerModel_drop 133 = .ok (.goto 4, 3) := by decide +kernel
theorem d_LogCleanerModel_drop_136 : decode b_LogCleanerModel_drop 136 = .ok (.iconst 0, 1) := by decide +kernel
theorem d_LogCleanerModel_drop_137 : decode b_LogCleanerModel_drop 137 = .ok (.bastore, 1) := by decide +kernel
theorem d_LogCleanerModel_drop_138 : decode b_LogCleanerModel_drop 138 = .ok (.iinc 4 1, 3) := by decide +kernel
theorem d_LogCleanerModel_drop_141 : decode b_LogCleanerModel_drop 141 = .ok (.goto (-35), 3) := by decide +kernel
theorem d_LogCleanerModel_drop_144 : decode b_LogCleanerModel_drop 144 = .ok (.aload_n 0, 1) := by decide +kernel
theorem d_LogCleanerModel_drop_145 : decode b_LogCleanerModel_drop 145 = .ok (.invokevirtual 103, 3) := by decide +kernel
theorem d_LogCleanerModel_drop_148 : decode b_LogCleanerModel_drop 148 = .ok (.istore 4, 2) := by decide +kernel
theorem d_LogCleanerModel_drop_150 : decode b_LogCleanerModel_drop 150 = .ok (.iconst 0, 1) := by decide +kernel
theorem d_LogCleanerModel_drop_151 : decode b_LogCleanerModel_drop 151 = .ok (.istore 5, 2) := by decide +kernel
theorem d_LogCleanerModel_drop_153 : decode b_LogCleanerModel_drop 153 = .ok (.iload 5, 2) := by decide +kernel
theorem d_LogCleanerModel_drop_155 : decode b_LogCleanerModel_drop 155 = .ok (.aload_n 0, 1) := by decide +kernel
theorem d_LogCleanerModel_drop_156 : decode b_LogCleanerModel_drop 156 = .ok (.getfield 82, 3) := by decide +kernel
theorem d_LogCleanerModel_drop_159 : decode b_LogCleanerModel_drop 159 = .ok (.if_icmp .ge 20, 3) := by decide +kernel
theorem d_LogCleanerModel_drop_162 : decode b_LogCleanerModel_drop 162 = .ok (.aload_n 0, 1) := by decide +kernel
theorem d_LogCleanerModel_drop_163 : decode b_LogCleanerModel_drop 163 = .ok (.getfield 54, 3) := by decide +kernel
theorem d_LogCleanerModel_drop_166 : decode b_LogCleanerModel_drop 166 = .ok (.iload 5, 2) := by decide +kernel
theorem d_LogCleanerModel_drop_168 : decode b_LogCleanerModel_drop 168 = .ok (.dup2, 1) := by decide +kernel
theorem d_LogCleanerModel_drop_169 : decode b_LogCleanerModel_drop 169 = .ok (.iaload, 1) := by decide +kernel
theorem d_LogCleanerModel_drop_170 : decode b_LogCleanerModel_drop 170 = .ok (.iload_n 3, 1) := by decide +kernel
theorem d_LogCleanerModel_drop_171 : decode b_LogCleanerModel_drop 171 = .ok (.isub, 1) := by decide +kernel
theorem d_LogCleanerModel_drop_172 : decode b_LogCleanerModel_drop 172 = .ok (.iastore, 1) := by decide +kernel
theorem d_LogCleanerModel_drop_173 : decode b_LogCleanerModel_drop 173 = .ok (.iinc 5 1, 3) := by decide +kernel
theorem d_LogCleanerModel_drop_176 : decode b_LogCleanerModel_drop 176 = .ok (.goto (-23), 3) := by decide +kernel
theorem d_LogCleanerModel_drop_179 : decode b_LogCleanerModel_drop 179 = .ok (.iload 4, 2) := by decide +kernel
theorem d_LogCleanerModel_drop_181 : decode b_LogCleanerModel_drop 181 = .ok (.ireturn, 1) := by decide +kernel
def rm_LogCleanerModel_drop : Room := { frames := 1, cells := 0, slots := 0, locals := 23 }
def ws_LogCleanerModel_drop : List Cond := Cond.code y_LogCleanerModel_drop b_LogCleanerModel_drop 6 (some .int) :: TB
set_option maxHeartbeats 4000000 in
set_option maxRecDepth 100000 in
theorem sl_LogCleanerModel_drop_153 {p : Program} {l : Launch} {e : Env} {s : State} {m : MethodId} {args : Array Value} {below : List Frame} {meth : Method} {c : Code} {D : va_G} {d : Nat → ClassId} {A : Nat → Prop} {h0 : xw} {Q : Int32 → xw → Prop} (C0 : xctx p s m args meth c b_LogCleanerModel_drop 6 (some .int) R_LogCleanerModel D d A True) : ∀ (n : Nat) (x : Nat × Int32 × Int32 × Int32) (h : xw) (H : Heap) (locs : List Loc) (ls : Array Slot), xloop (fun (k : Nat × Int32 × Int32 × Int32 → xw → Prop) (x : Nat × Int32 × Int32 × Int32) (h : xw) => wc_LogCleanerModel_drop_153 d Q (fun y0 y3 y4 y5 h => k (y0, y3, y4, y5) h) x.1 x.2.1 x.2.2.1 x.2.2.2 h) n x h → xR sgM h0 D A h H → va_S A s.heap H locs → lv_has ls 6 [(0, .ref x.1), (3, .int x.2.1), (4, .int x.2.2.1), (5, .int x.2.2.2)] → W p l e rm_LogCleanerModel_drop s m args below meth c H locs 0 0 (MQ below (va_Qi (fun r u => Q r u ∧ xfr sgM h0 u) (xB D d A) A) args s 0 0 A) (F0 m 153 ls []) := by
  obtain ⟨hx, hb, hr, hml, hown, htb, hK, hA, hNB, hlocks, hXT⟩ := id C0
  intro n
  induction n with
  | zero => intro x h H locs ls hw; exact hw.elim
  | succ n ih =>
    rintro ⟨x0, x3, x4, x5⟩ h H locs ls hw hP hS hl
    replace hw : wc_LogCleanerModel_drop_153 d Q (fun y0 y3 y4 y5 h => xloop (fun (k : Nat × Int32 × Int32 × Int32 → xw → Prop) (x : Nat × Int32 × Int32 × Int32) (h : xw) => wc_LogCleanerModel_drop_153 d Q (fun y0 y3 y4 y5 h => k (y0, y3, y4, y5) h) x.1 x.2.1 x.2.2.1 x.2.2.2 h) n (y0, y3, y4, y5) h) x0 x3 x4 x5 h := hw
    have hk153 := fun (x0 : Nat) (x3 : Int32) (x4 : Int32) (x5 : Int32) => ih (x0, x3, x4, x5)
    refine lv_iload hx hb d_LogCleanerModel_drop_153 (lv_at hl 3 rfl) ?_
    refine lv_aload_n hx hb d_LogCleanerModel_drop_155 rfl (lv_at hl 0 rfl) ?_
    refine xgetI hx hb htb i_LogCleanerModel hown hK hP (ci := 4) rfl 16 (by decide) (htb _ k_LogCleanerModel_82) (fun _ h9 => h9) hw d_LogCleanerModel_drop_156 (fun v9 hw => ?_)
    refine lv_icmp_ge (tgt := 179) hx hb d_LogCleanerModel_drop_159 (by decide) (fun cq => ?_) (fun cq => ?_)
    · replace hw := hw.1 cq
      refine lv_iload hx hb d_LogCleanerModel_drop_179 (lv_at hl 2 rfl) ?_
      refine W.widen (k := 0) (n := 0) (Nat.le_of_ble_eq_true rfl) (Nat.le_of_ble_eq_true rfl) ?_
      exact xretI C0 hw hP hS d_LogCleanerModel_drop_181
    · replace hw := hw.2 cq
      refine lv_aload_n hx hb d_LogCleanerModel_drop_162 rfl (lv_at hl 0 rfl) ?_
      refine xgetA hx hb htb i_LogCleanerModel hown hK hP (ci := 4) rfl 19 (by decide) (htb _ k_LogCleanerModel_54) (fun _ h9 => h9) hw d_LogCleanerModel_drop_163 (fun r10 hw => ?_)
      refine lv_iload hx hb d_LogCleanerModel_drop_166 (lv_at hl 3 rfl) ?_
      refine lv_dup2_11 hx hb d_LogCleanerModel_drop_168 rfl (xcat _) ?_
      obtain ⟨p11, hpe, hw⟩ := hw
      revert hw
      revert hl
      subst hpe
      intro hl hw
      replace hl : lv_has ls 6 [(0, .ref x0), (3, .int x3), (4, .int x4), (5, .int x5)] := hl
      refine xldi hx hb hK hP 2 rfl hw d_LogCleanerModel_drop_169 (fun v12 hw => ?_)
      refine lv_iload_n hx hb d_LogCleanerModel_drop_170 rfl (lv_at hl 1 rfl) ?_
      refine lv_isub hx hb d_LogCleanerModel_drop_171 ?_
      refine xsti hx hb hK hP hS 2 rfl (fun _ _ => rfl) hw d_LogCleanerModel_drop_172 (fun h13 H locs hw hP hS => ?_)
      refine lv_iinc (v := x5 + 1) (lv' := [(5, .int (x5 + 1)), (0, .ref x0), (3, .int x3), (4, .int x4)]) hx hb d_LogCleanerModel_drop_173 hl (k := 3) rfl rfl (by decide) rfl (fun ls hl => ?_)
      refine lv_goto (tgt := 153) hx hb d_LogCleanerModel_drop_176 (by decide) ?_
      exact hk153 x0 x3 x4 (x5 + 1) h13 _ _ _ hw hP hS (lv_sub hl [1, 2, 3, 0] rfl)

set_option maxHeartbeats 4000000 in
set_option maxRecDepth 100000 in
theorem sb_LogCleanerModel_drop_137 {p : Program} {l : Launch} {e : Env} {s : State} {m : MethodId} {args : Array Value} {below : List Frame} {meth : Method} {c : Code} {D : va_G} {d : Nat → ClassId} {A : Nat → Prop} {h0 : xw} {Q : Int32 → xw → Prop} {k106 : Nat → Int32 → Int32 → xw → Prop} (C0 : xctx p s m args meth c b_LogCleanerModel_drop 6 (some .int) R_LogCleanerModel D d A True) (hk106 : ∀ (x0 : Nat) (x3 : Int32) (x4 : Int32) (h : xw) (H : Heap) (locs : List Loc) (ls : Array Slot), k106 x0 x3 x4 h → xR sgM h0 D A h H → va_S A s.heap H locs → lv_has ls 6 [(0, .ref x0), (3, .int x3), (4, .int x4)] → W p l e rm_LogCleanerModel_drop s m args below meth c H locs 0 0 (MQ below (va_Qi (fun r u => Q r u ∧ xfr sgM h0 u) (xB D d A) A) args s 0 0 A) (F0 m 106 ls [])) : ∀ (x0 : Nat) (x3 : Int32) (x4 : Int32) (s0 : Int32) (s1 : Int32) (s2 : Option Nat) (h : xw) (H : Heap) (locs : List Loc) (ls : Array Slot), wb_LogCleanerModel_drop_137 d k106 Q x0 x3 x4 s0 s1 s2 h → xR sgM h0 D A h H → va_S A s.heap H locs → lv_has ls 6 [(0, .ref x0), (3, .int x3), (4, .int x4)] → W p l e rm_LogCleanerModel_drop s m args below meth c H locs 0 0 (MQ below (va_Qi (fun r u => Q r u ∧ xfr sgM h0 u) (xB D d A) A) args s 0 0 A) (F0 m 137 ls [.int s0, .int s1, va_rf s2]) := by
  obtain ⟨hx, hb, hr, hml, hown, htb, hK, hA, hNB, hlocks, hXT⟩ := id C0
  intro x0 x3 x4 s0 s1 s2 h H locs ls hw hP hS hl
  obtain ⟨p18, hpe, hw⟩ := hw
  revert hw
  revert hl
  subst hpe
  intro hl hw
  replace hl : lv_has ls 6 [(0, .ref x0), (3, .int x3), (4, .int x4)] := hl
  refine xstz hx hb hK hP hS 4 rfl (fun _ _ => rfl) hw d_LogCleanerModel_drop_137 (fun h19 H locs hw hP hS => ?_)
  refine lv_iinc (v := x4 + 1) (lv' := [(4, .int (x4 + 1)), (0, .ref x0), (3, .int x3)]) hx hb d_LogCleanerModel_drop_138 hl (k := 2) rfl rfl (by decide) rfl (fun ls hl => ?_)
  refine lv_goto (tgt := 106) hx hb d_LogCleanerModel_drop_141 (by decide) ?_
  exact hk106 x0 x3 (x4 + 1) h19 _ _ _ hw hP hS (lv_sub hl [1, 2, 0] rfl)

set_option maxHeartbeats 4000000 in
set_option maxRecDepth 100000 in
theorem sl_LogCleanerModel_drop_106 {p : Program} {l : Launch} {e : Env} {s : State} {m : MethodId} {args : Array Value} {below : List Frame} {meth : Method} {c : Code} {D : va_G} {d : Nat → ClassId} {A : Nat → Prop} {h0 : xw} {Q : Int32 → xw → Prop} (C0 : xctx p s m args meth c b_LogCleanerModel_drop 6 (some .int) R_LogCleanerModel D d A True) : ∀ (n : Nat) (x : Nat × Int32 × Int32) (h : xw) (H : Heap) (locs : List Loc) (ls : Array Slot), xloop (fun (k : Nat × Int32 × Int32 → xw → Prop) (x : Nat × Int32 × Int32) (h : xw) => wc_LogCleanerModel_drop_106 d Q (fun y0 y3 y4 h => k (y0, y3, y4) h) x.1 x.2.1 x.2.2 h) n x h → xR sgM h0 D A h H → va_S A s.heap H locs → lv_has ls 6 [(0, .ref x.1), (3, .int x.2.1), (4, .int x.2.2)] → W p l e rm_LogCleanerModel_drop s m args below meth c H locs 0 0 (MQ below (va_Qi (fun r u => Q r u ∧ xfr sgM h0 u) (xB D d A) A) args s 0 0 A) (F0 m 106 ls []) := by
  obtain ⟨hx, hb, hr, hml, hown, htb, hK, hA, hNB, hlocks, hXT⟩ := id C0
  intro n
  induction n with
  | zero => intro x h H locs ls hw; exact hw.elim
  | succ n ih =>
    rintro ⟨x0, x3, x4⟩ h H locs ls hw hP hS hl
    replace hw : wc_LogCleanerModel_drop_106 d Q (fun y0 y3 y4 h => xloop (fun (k : Nat × Int32 × Int32 → xw → Prop) (x : Nat × Int32 × Int32) (h : xw) => wc_LogCleanerModel_drop_106 d Q (fun y0 y3 y4 h => k (y0, y3, y4) h) x.1 x.2.1 x.2.2 h) n (y0, y3, y4) h) x0 x3 x4 h := hw
    have hk106 := fun (x0 : Nat) (x3 : Int32) (x4 : Int32) => ih (x0, x3, x4)
    refine lv_iload hx hb d_LogCleanerModel_drop_106 (lv_at hl 2 rfl) ?_
    refine lv_aload_n hx hb d_LogCleanerModel_drop_108 rfl (lv_at hl 0 rfl) ?_
    refine xgetI hx hb htb i_LogCleanerModel hown hK hP (ci := 4) rfl 16 (by decide) (htb _ k_LogCleanerModel_82) (fun _ h9 => h9) hw d_LogCleanerModel_drop_109 (fun v6 hw => ?_)
    refine lv_icmp_ge (tgt := 144) hx hb d_LogCleanerModel_drop_112 (by decide) (fun cq => ?_) (fun cq => ?_)
    · replace hw := hw.1 cq
      refine lv_aload_n hx hb d_LogCleanerModel_drop_144 rfl (lv_at hl 0 rfl) ?_
      obtain ⟨⟨_, hw0⟩, hw⟩ := hw
      refine xcalli (va_runV (b := x0) (As := []) (rest := []) ⟨hx, hb, hml, hown, htb⟩ (m_LogCleanerModel_takeOut l D d h _ x0 _ hw) (xcwV 0 htb g_code_LogCleanerModel_takeOut g_ini_LogCleanerModel k_LogCleanerModel_103 g_im_LogCleanerModel_takeOut g_sel_LogCleanerModel_takeOut rfl rfl (by decide +kernel) ⟨(Nat.le_of_ble_eq_true rfl), (Nat.le_of_ble_eq_true rfl)⟩) (xpreV hP hK hNB (ci := 4) rfl hw0) rfl rfl hl.1 rfl (lv_room (Nat.le_of_ble_eq_true rfl)) d_LogCleanerModel_drop_145 ⟨(Nat.le_of_ble_eq_true rfl), (Nat.le_of_ble_eq_true rfl)⟩) hP hS hA (fun r8 h7 H locs hw hP hS => ?_)
      refine W.widen (k := 0) (n := 0) (Nat.le_of_ble_eq_true rfl) (Nat.le_of_ble_eq_true rfl) ?_
      refine lv_istore (lv' := [(4, .int r8), (0, .ref x0), (3, .int x3)]) hx hb d_LogCleanerModel_drop_148 hl (by decide) rfl (fun ls hl => ?_)
      refine lv_iconst (v := 0) hx hb d_LogCleanerModel_drop_150 (by decide) ?_
      refine lv_istore (lv' := [(5, .int 0), (4, .int r8), (0, .ref x0), (3, .int x3)]) hx hb d_LogCleanerModel_drop_151 hl (by decide) rfl (fun ls hl => ?_)
      obtain ⟨n, hw⟩ := hw
      exact sl_LogCleanerModel_drop_153 C0 n (x0, x3, r8, 0) h7 _ _ _ hw hP hS (lv_sub hl [2, 3, 1, 0] rfl)
    · replace hw := hw.2 cq
      refine lv_aload_n hx hb d_LogCleanerModel_drop_115 rfl (lv_at hl 0 rfl) ?_
      refine xgetA hx hb htb i_LogCleanerModel hown hK hP (ci := 4) rfl 21 (by decide) (htb _ k_LogCleanerModel_60) (fun _ h9 => h9) hw d_LogCleanerModel_drop_116 (fun r14 hw => ?_)
      refine lv_iload hx hb d_LogCleanerModel_drop_119 (lv_at hl 2 rfl) ?_
      refine lv_aload_n hx hb d_LogCleanerModel_drop_121 rfl (lv_at hl 0 rfl) ?_
      refine xgetA hx hb htb i_LogCleanerModel hown hK hP (ci := 4) rfl 19 (by decide) (htb _ k_LogCleanerModel_54) (fun _ h9 => h9) hw d_LogCleanerModel_drop_122 (fun r15 hw => ?_)
      refine lv_iload hx hb d_LogCleanerModel_drop_125 (lv_at hl 2 rfl) ?_
      obtain ⟨p16, hpe, hw⟩ := hw
      revert hw
      revert hl
      subst hpe
      intro hl hw
      replace hl : lv_has ls 6 [(0, .ref x0), (3, .int x3), (4, .int x4)] := hl
      refine xldi hx hb hK hP 2 rfl hw d_LogCleanerModel_drop_127 (fun v17 hw => ?_)
      refine lv_iload_n hx hb d_LogCleanerModel_drop_128 rfl (lv_at hl 1 rfl) ?_
      refine lv_icmp_lt (tgt := 136) hx hb d_LogCleanerModel_drop_129 (by decide) (fun cq => ?_) (fun cq => ?_)
      · replace hw := hw.1 cq
        refine lv_iconst (v := 0) hx hb d_LogCleanerModel_drop_136 (by decide) ?_
        exact sb_LogCleanerModel_drop_137 C0 hk106 x0 x3 x4 0 x4 r14 h _ _ _ hw hP hS (lv_sub hl [0, 1, 2] rfl)
      · replace hw := hw.2 cq
        refine lv_iconst (v := 1) hx hb d_LogCleanerModel_drop_132 (by decide) ?_
        refine lv_goto (tgt := 137) hx hb d_LogCleanerModel_drop_133 (by decide) ?_
        exact sb_LogCleanerModel_drop_137 C0 hk106 x0 x3 x4 1 x4 r14 h _ _ _ hw hP hS (lv_sub hl [0, 1, 2] rfl)

set_option maxHeartbeats 4000000 in
set_option maxRecDepth 100000 in
theorem sb_LogCleanerModel_drop_96 {p : Program} {l : Launch} {e : Env} {s : State} {m : MethodId} {args : Array Value} {below : List Frame} {meth : Method} {c : Code} {D : va_G} {d : Nat → ClassId} {A : Nat → Prop} {h0 : xw} {Q : Int32 → xw → Prop} {k60 : Nat → Int32 → Int32 → xw → Prop} (C0 : xctx p s m args meth c b_LogCleanerModel_drop 6 (some .int) R_LogCleanerModel D d A True) (hk60 : ∀ (x0 : Nat) (x3 : Int32) (x4 : Int32) (h : xw) (H : Heap) (locs : List Loc) (ls : Array Slot), k60 x0 x3 x4 h → xR sgM h0 D A h H → va_S A s.heap H locs → lv_has ls 6 [(0, .ref x0), (3, .int x3), (4, .int x4)] → W p l e rm_LogCleanerModel_drop s m args below meth c H locs 0 0 (MQ below (va_Qi (fun r u => Q r u ∧ xfr sgM h0 u) (xB D d A) A) args s 0 0 A) (F0 m 60 ls [])) : ∀ (x0 : Nat) (x3 : Int32) (x4 : Int32) (s0 : Int32) (s1 : Int32) (s2 : Option Nat) (h : xw) (H : Heap) (locs : List Loc) (ls : Array Slot), wb_LogCleanerModel_drop_96 d k60 Q x0 x3 x4 s0 s1 s2 h → xR sgM h0 D A h H → va_S A s.heap H locs → lv_has ls 6 [(0, .ref x0), (3, .int x3), (4, .int x4)] → W p l e rm_LogCleanerModel_drop s m args below meth c H locs 0 0 (MQ below (va_Qi (fun r u => Q r u ∧ xfr sgM h0 u) (xB D d A) A) args s 0 0 A) (F0 m 96 ls [.int s0, .int s1, va_rf s2]) := by
  obtain ⟨hx, hb, hr, hml, hown, htb, hK, hA, hNB, hlocks, hXT⟩ := id C0
  intro x0 x3 x4 s0 s1 s2 h H locs ls hw hP hS hl
  obtain ⟨p27, hpe, hw⟩ := hw
  revert hw
  revert hl
  subst hpe
  intro hl hw
  replace hl : lv_has ls 6 [(0, .ref x0), (3, .int x3), (4, .int x4)] := hl
  refine xstz hx hb hK hP hS 4 rfl (fun _ _ => rfl) hw d_LogCleanerModel_drop_96 (fun h28 H locs hw hP hS => ?_)
  refine lv_iinc (v := x4 + 1) (lv' := [(4, .int (x4 + 1)), (0, .ref x0), (3, .int x3)]) hx hb d_LogCleanerModel_drop_97 hl (k := 2) rfl rfl (by decide) rfl (fun ls hl => ?_)
  refine lv_goto (tgt := 60) hx hb d_LogCleanerModel_drop_100 (by decide) ?_
  exact hk60 x0 x3 (x4 + 1) h28 _ _ _ hw hP hS (lv_sub hl [1, 2, 0] rfl)

set_option maxHeartbeats 4000000 in
set_option maxRecDepth 100000 in
theorem sl_LogCleanerModel_drop_60 {p : Program} {l : Launch} {e : Env} {s : State} {m : MethodId} {args : Array Value} {below : List Frame} {meth : Method} {c : Code} {D : va_G} {d : Nat → ClassId} {A : Nat → Prop} {h0 : xw} {Q : Int32 → xw → Prop} (C0 : xctx p s m args meth c b_LogCleanerModel_drop 6 (some .int) R_LogCleanerModel D d A True) : ∀ (n : Nat) (x : Nat × Int32 × Int32) (h : xw) (H : Heap) (locs : List Loc) (ls : Array Slot), xloop (fun (k : Nat × Int32 × Int32 → xw → Prop) (x : Nat × Int32 × Int32) (h : xw) => wc_LogCleanerModel_drop_60 d Q (fun y0 y3 y4 h => k (y0, y3, y4) h) x.1 x.2.1 x.2.2 h) n x h → xR sgM h0 D A h H → va_S A s.heap H locs → lv_has ls 6 [(0, .ref x.1), (3, .int x.2.1), (4, .int x.2.2)] → W p l e rm_LogCleanerModel_drop s m args below meth c H locs 0 0 (MQ below (va_Qi (fun r u => Q r u ∧ xfr sgM h0 u) (xB D d A) A) args s 0 0 A) (F0 m 60 ls []) := by
  obtain ⟨hx, hb, hr, hml, hown, htb, hK, hA, hNB, hlocks, hXT⟩ := id C0
  intro n
  induction n with
  | zero => intro x h H locs ls hw; exact hw.elim
  | succ n ih =>
    rintro ⟨x0, x3, x4⟩ h H locs ls hw hP hS hl
    replace hw : wc_LogCleanerModel_drop_60 d Q (fun y0 y3 y4 h => xloop (fun (k : Nat × Int32 × Int32 → xw → Prop) (x : Nat × Int32 × Int32) (h : xw) => wc_LogCleanerModel_drop_60 d Q (fun y0 y3 y4 h => k (y0, y3, y4) h) x.1 x.2.1 x.2.2 h) n (y0, y3, y4) h) x0 x3 x4 h := hw
    have hk60 := fun (x0 : Nat) (x3 : Int32) (x4 : Int32) => ih (x0, x3, x4)
    refine lv_iload hx hb d_LogCleanerModel_drop_60 (lv_at hl 2 rfl) ?_
    refine lv_aload_n hx hb d_LogCleanerModel_drop_62 rfl (lv_at hl 0 rfl) ?_
    refine xgetI hx hb htb i_LogCleanerModel hown hK hP (ci := 4) rfl 1 (by decide) (htb _ k_LogCleanerModel_75) (fun _ h9 => h9) hw d_LogCleanerModel_drop_63 (fun v5 hw => ?_)
    refine lv_icmp_ge (tgt := 103) hx hb d_LogCleanerModel_drop_66 (by decide) (fun cq => ?_) (fun cq => ?_)
    · replace hw := hw.1 cq
      refine lv_iconst (v := 0) hx hb d_LogCleanerModel_drop_103 (by decide) ?_
      refine lv_istore (lv' := [(4, .int 0), (0, .ref x0), (3, .int x3)]) hx hb d_LogCleanerModel_drop_104 hl (by decide) rfl (fun ls hl => ?_)
      obtain ⟨n, hw⟩ := hw
      exact sl_LogCleanerModel_drop_106 C0 n (x0, x3, 0) h _ _ _ hw hP hS (lv_sub hl [1, 2, 0] rfl)
    · replace hw := hw.2 cq
      refine lv_aload_n hx hb d_LogCleanerModel_drop_69 rfl (lv_at hl 0 rfl) ?_
      refine xgetA hx hb htb i_LogCleanerModel hown hK hP (ci := 4) rfl 20 (by decide) (htb _ k_LogCleanerModel_57) (fun _ h9 => h9) hw d_LogCleanerModel_drop_70 (fun r20 hw => ?_)
      refine lv_iload hx hb d_LogCleanerModel_drop_73 (lv_at hl 2 rfl) ?_
      refine lv_aload_n hx hb d_LogCleanerModel_drop_75 rfl (lv_at hl 0 rfl) ?_
      refine xgetA hx hb htb i_LogCleanerModel hown hK hP (ci := 4) rfl 19 (by decide) (htb _ k_LogCleanerModel_54) (fun _ h9 => h9) hw d_LogCleanerModel_drop_76 (fun r21 hw => ?_)
      refine lv_aload_n hx hb d_LogCleanerModel_drop_79 rfl (lv_at hl 0 rfl) ?_
      refine xgetA hx hb htb i_LogCleanerModel hown hK hP (ci := 4) rfl 2 (by decide) (htb _ k_LogCleanerModel_7) (fun _ h9 => h9) hw d_LogCleanerModel_drop_80 (fun r22 hw => ?_)
      refine lv_iload hx hb d_LogCleanerModel_drop_83 (lv_at hl 2 rfl) ?_
      obtain ⟨p23, hpe, hw⟩ := hw
      revert hw
      revert hl
      subst hpe
      intro hl hw
      replace hl : lv_has ls 6 [(0, .ref x0), (3, .int x3), (4, .int x4)] := hl
      refine xldi hx hb hK hP 2 rfl hw d_LogCleanerModel_drop_85 (fun v24 hw => ?_)
      obtain ⟨p25, hpe, hw⟩ := hw
      revert hw
      revert hl
      subst hpe
      intro hl hw
      replace hl : lv_has ls 6 [(0, .ref x0), (3, .int x3), (4, .int x4)] := hl
      refine xldi hx hb hK hP 2 rfl hw d_LogCleanerModel_drop_86 (fun v26 hw => ?_)
      refine lv_iload_n hx hb d_LogCleanerModel_drop_87 rfl (lv_at hl 1 rfl) ?_
      refine lv_icmp_ge (tgt := 95) hx hb d_LogCleanerModel_drop_88 (by decide) (fun cq => ?_) (fun cq => ?_)
      · replace hw := hw.1 cq
        refine lv_iconst (v := 0) hx hb d_LogCleanerModel_drop_95 (by decide) ?_
        exact sb_LogCleanerModel_drop_96 C0 hk60 x0 x3 x4 0 x4 r20 h _ _ _ hw hP hS (lv_sub hl [0, 1, 2] rfl)
      · replace hw := hw.2 cq
        refine lv_iconst (v := 1) hx hb d_LogCleanerModel_drop_91 (by decide) ?_
        refine lv_goto (tgt := 96) hx hb d_LogCleanerModel_drop_92 (by decide) ?_
        exact sb_LogCleanerModel_drop_96 C0 hk60 x0 x3 x4 1 x4 r20 h _ _ _ hw hP hS (lv_sub hl [0, 1, 2] rfl)

set_option maxHeartbeats 4000000 in
set_option maxRecDepth 100000 in
theorem sb_LogCleanerModel_drop_56 {p : Program} {l : Launch} {e : Env} {s : State} {m : MethodId} {args : Array Value} {below : List Frame} {meth : Method} {c : Code} {D : va_G} {d : Nat → ClassId} {A : Nat → Prop} {h0 : xw} {Q : Int32 → xw → Prop} (C0 : xctx p s m args meth c b_LogCleanerModel_drop 6 (some .int) R_LogCleanerModel D d A True) : ∀ (x0 : Nat) (s0 : Int32) (h : xw) (H : Heap) (locs : List Loc) (ls : Array Slot), wb_LogCleanerModel_drop_56 d Q x0 s0 h → xR sgM h0 D A h H → va_S A s.heap H locs → lv_has ls 6 [(0, .ref x0)] → W p l e rm_LogCleanerModel_drop s m args below meth c H locs 0 0 (MQ below (va_Qi (fun r u => Q r u ∧ xfr sgM h0 u) (xB D d A) A) args s 0 0 A) (F0 m 56 ls [.int s0]) := by
  obtain ⟨hx, hb, hr, hml, hown, htb, hK, hA, hNB, hlocks, hXT⟩ := id C0
  intro x0 s0 h H locs ls hw hP hS hl
  refine lv_istore_n (lv' := [(3, .int s0), (0, .ref x0)]) hx hb d_LogCleanerModel_drop_56 rfl hl (by decide) rfl (fun ls hl => ?_)
  refine lv_iconst (v := 0) hx hb d_LogCleanerModel_drop_57 (by decide) ?_
  refine lv_istore (lv' := [(4, .int 0), (3, .int s0), (0, .ref x0)]) hx hb d_LogCleanerModel_drop_58 hl (by decide) rfl (fun ls hl => ?_)
  obtain ⟨n, hw⟩ := hw
  exact sl_LogCleanerModel_drop_60 C0 n (x0, s0, 0) h _ _ _ hw hP hS (lv_sub hl [2, 1, 0] rfl)

set_option maxHeartbeats 4000000 in
set_option maxRecDepth 100000 in
theorem sb_LogCleanerModel_drop_17 {p : Program} {l : Launch} {e : Env} {s : State} {m : MethodId} {args : Array Value} {below : List Frame} {meth : Method} {c : Code} {D : va_G} {d : Nat → ClassId} {A : Nat → Prop} {h0 : xw} {Q : Int32 → xw → Prop} (C0 : xctx p s m args meth c b_LogCleanerModel_drop 6 (some .int) R_LogCleanerModel D d A True) : ∀ (x0 : Nat) (x1 : Int32) (s0 : Int32) (s1 : Nat) (h : xw) (H : Heap) (locs : List Loc) (ls : Array Slot), wb_LogCleanerModel_drop_17 d Q x0 x1 s0 s1 h → xR sgM h0 D A h H → va_S A s.heap H locs → lv_has ls 6 [(0, .ref x0), (1, .int x1)] → W p l e rm_LogCleanerModel_drop s m args below meth c H locs 0 0 (MQ below (va_Qi (fun r u => Q r u ∧ xfr sgM h0 u) (xB D d A) A) args s 0 0 A) (F0 m 17 ls [.int s0, .ref s1]) := by
  obtain ⟨hx, hb, hr, hml, hown, htb, hK, hA, hNB, hlocks, hXT⟩ := id C0
  intro x0 x1 s0 s1 h H locs ls hw hP hS hl
  refine xputI hx hb htb i_LogCleanerModel t_LogCleanerModel t_LogCleanerModel_ok n_LogCleanerModel hown hK hP hS (ci := 4) rfl (fun _ => rfl) 0 (by decide) (htb _ k_LogCleanerModel_66) (fun _ h9 => h9) rfl (by decide +kernel) hw d_LogCleanerModel_drop_17 (fun h1 H locs hw hP hS => ?_)
  refine lv_aload_n hx hb d_LogCleanerModel_drop_20 rfl (lv_at hl 0 rfl) ?_
  refine xgetI hx hb htb i_LogCleanerModel hown hK hP (ci := 4) rfl 0 (by decide) (htb _ k_LogCleanerModel_66) (fun _ h9 => h9) hw d_LogCleanerModel_drop_21 (fun v2 hw => ?_)
  refine lv_if_le (tgt := 29) hx hb d_LogCleanerModel_drop_24 (by decide) (fun cq => ?_) (fun cq => ?_)
  · replace hw := hw.1 cq
    refine lv_aload_n hx hb d_LogCleanerModel_drop_29 rfl (lv_at hl 0 rfl) ?_
    obtain ⟨⟨_, hw0⟩, hw⟩ := hw
    refine xcalli (va_runV (b := x0) (As := []) (rest := []) ⟨hx, hb, hml, hown, htb⟩ (m_LogCleanerModel_segments l D d h1 _ x0 _ hw) (xcwV 0 htb g_code_LogCleanerModel_segments g_ini_LogCleanerModel k_LogCleanerModel_107 g_im_LogCleanerModel_segments g_sel_LogCleanerModel_segments rfl rfl (by decide +kernel) ⟨(Nat.le_of_ble_eq_true rfl), (Nat.le_of_ble_eq_true rfl)⟩) (xpreV hP hK hNB (ci := 4) rfl hw0) rfl rfl hl.1 rfl (lv_room (Nat.le_of_ble_eq_true rfl)) d_LogCleanerModel_drop_30 ⟨(Nat.le_of_ble_eq_true rfl), (Nat.le_of_ble_eq_true rfl)⟩) hP hS hA (fun r4 h3 H locs hw hP hS => ?_)
    refine W.widen (k := 0) (n := 0) (Nat.le_of_ble_eq_true rfl) (Nat.le_of_ble_eq_true rfl) ?_
    refine lv_istore_n (lv' := [(2, .int r4), (0, .ref x0), (1, .int x1)]) hx hb d_LogCleanerModel_drop_33 rfl hl (by decide) rfl (fun ls hl => ?_)
    refine lv_iload_n hx hb d_LogCleanerModel_drop_34 rfl (lv_at hl 2 rfl) ?_
    refine lv_iload_n hx hb d_LogCleanerModel_drop_35 rfl (lv_at hl 0 rfl) ?_
    refine lv_iconst (v := 1) hx hb d_LogCleanerModel_drop_36 (by decide) ?_
    refine lv_isub hx hb d_LogCleanerModel_drop_37 ?_
    refine lv_icmp_ge (tgt := 45) hx hb d_LogCleanerModel_drop_38 (by decide) (fun cq => ?_) (fun cq => ?_)
    · replace hw := hw.1 cq
      refine lv_iload_n hx hb d_LogCleanerModel_drop_45 rfl (lv_at hl 0 rfl) ?_
      refine lv_if_le (tgt := 55) hx hb d_LogCleanerModel_drop_46 (by decide) (fun cq => ?_) (fun cq => ?_)
      · replace hw := hw.1 cq
        refine lv_iconst (v := 0) hx hb d_LogCleanerModel_drop_55 (by decide) ?_
        exact sb_LogCleanerModel_drop_56 C0 x0 0 h3 _ _ _ hw hP hS (lv_sub hl [1] rfl)
      · replace hw := hw.2 cq
        refine lv_iload_n hx hb d_LogCleanerModel_drop_49 rfl (lv_at hl 0 rfl) ?_
        refine lv_iconst (v := 1) hx hb d_LogCleanerModel_drop_50 (by decide) ?_
        refine lv_isub hx hb d_LogCleanerModel_drop_51 ?_
        refine lv_goto (tgt := 56) hx hb d_LogCleanerModel_drop_52 (by decide) ?_
        exact sb_LogCleanerModel_drop_56 C0 x0 (r4 - 1) h3 _ _ _ hw hP hS (lv_sub hl [1] rfl)
    · replace hw := hw.2 cq
      refine lv_iload_n hx hb d_LogCleanerModel_drop_41 rfl (lv_at hl 2 rfl) ?_
      refine lv_goto (tgt := 56) hx hb d_LogCleanerModel_drop_42 (by decide) ?_
      exact sb_LogCleanerModel_drop_56 C0 x0 x1 h3 _ _ _ hw hP hS (lv_sub hl [1] rfl)
  · replace hw := hw.2 cq
    refine lv_iconst (v := 0) hx hb d_LogCleanerModel_drop_27 (by decide) ?_
    refine W.widen (k := 0) (n := 0) (Nat.le_of_ble_eq_true rfl) (Nat.le_of_ble_eq_true rfl) ?_
    exact xretI C0 hw hP hS d_LogCleanerModel_drop_28

set_option maxHeartbeats 4000000 in
set_option maxRecDepth 100000 in
theorem sb_LogCleanerModel_drop_12 {p : Program} {l : Launch} {e : Env} {s : State} {m : MethodId} {args : Array Value} {below : List Frame} {meth : Method} {c : Code} {D : va_G} {d : Nat → ClassId} {A : Nat → Prop} {h0 : xw} {Q : Int32 → xw → Prop} (C0 : xctx p s m args meth c b_LogCleanerModel_drop 6 (some .int) R_LogCleanerModel D d A True) : ∀ (x0 : Nat) (x1 : Int32) (s0 : Nat) (h : xw) (H : Heap) (locs : List Loc) (ls : Array Slot), wb_LogCleanerModel_drop_12 d Q x0 x1 s0 h → xR sgM h0 D A h H → va_S A s.heap H locs → lv_has ls 6 [(0, .ref x0), (1, .int x1)] → W p l e rm_LogCleanerModel_drop s m args below meth c H locs 0 0 (MQ below (va_Qi (fun r u => Q r u ∧ xfr sgM h0 u) (xB D d A) A) args s 0 0 A) (F0 m 12 ls [.ref s0]) := by
  obtain ⟨hx, hb, hr, hml, hown, htb, hK, hA, hNB, hlocks, hXT⟩ := id C0
  intro x0 x1 s0 h H locs ls hw hP hS hl
  refine lv_iconst (v := 1) hx hb d_LogCleanerModel_drop_12 (by decide) ?_
  refine lv_goto (tgt := 17) hx hb d_LogCleanerModel_drop_13 (by decide) ?_
  exact sb_LogCleanerModel_drop_17 C0 x0 x1 1 s0 h _ _ _ hw hP hS (lv_sub hl [0, 1] rfl)

set_option maxHeartbeats 4000000 in
set_option maxRecDepth 100000 in
theorem m_LogCleanerModel_drop (l : Launch) (D : va_G) (d : Nat → ClassId) (h : xw) (sz : Nat) (a0 : Nat) (a1 : Int32) (Q : Int32 → xw → Prop) (hw : wp_LogCleanerModel_drop d h a0 a1 Q) : Met l y_LogCleanerModel_drop ws_LogCleanerModel_drop rm_LogCleanerModel_drop (xPre D d h [.ref a0, .int a1] sz) (va_Qi (fun r u => Q r u ∧ xfr sgM h u) (xB D d (xA h sz)) (xA h sz)) 0 0 (xA h sz) := by
  refine Met.ofW (cc := b_LogCleanerModel_drop) (maxL := 6) (ret := (some .int)) (by decide) rfl ?_
  intro p e s m args below meth c s₁ B hml hv
  obtain ⟨rfl, hsz, hP0, hK, hNB⟩ := hv
  have hts := atoms_spec (ws := ws_LogCleanerModel_drop) B.pre
  have htb := fun w (hw9 : w ∈ TB) => hts w (List.mem_cons_of_mem _ hw9)
  have hown : s.vm.findClass R_LogCleanerModel = some m.cls := findClass_of_methodNamed B.named
  subst hsz
  obtain ⟨A, hAe⟩ : ∃ A, A = xA h s.heap.size := ⟨_, rfl⟩
  rw [← hAe]
  have hP : xR sgM h D A h s.heap := ⟨by rw [hAe]; exact hP0.self, xfr.rf⟩
  have hA : ∀ q, s.heap.size ≤ q → A q := fun q hq => by rw [hAe]; exact Or.inr hq
  have hS : va_S A s.heap s.heap [] := va_S.rf
  have C0 : xctx p s m ([.ref a0, .int a1] : List Value).toArray meth c b_LogCleanerModel_drop 6 (some .int) R_LogCleanerModel D d A True := ⟨B.exec, B.bytes, B.returns, hml, hown, htb, hK, hA, hNB, B.notSynchronized, trivial⟩
  obtain ⟨hx, hb, hr, -, -, -, -, -, -, hlocks, hXT⟩ := id C0
  have hl := lv_entry ([.ref a0, .int a1] : List Value) (n := 6) (Nat.le_of_ble_eq_true rfl)
  rw [lg_entry_eq]
  generalize (lg_sl ([.ref a0, .int a1] : List Value) ++ List.replicate (6 - (lg_sl ([.ref a0, .int a1] : List Value)).length) Slot.unset).toArray = ls at hl ⊢
  have hl : lv_has ls 6 [(0, .ref a0), (1, .int a1)] := hl
  refine lv_aload_n hx hb d_LogCleanerModel_drop_0 rfl (lv_at hl 0 rfl) ?_
  refine lv_iload_n hx hb d_LogCleanerModel_drop_1 rfl (lv_at hl 1 rfl) ?_
  refine lv_if_lt (tgt := 12) hx hb d_LogCleanerModel_drop_2 (by decide) (fun cq => ?_) (fun cq => ?_)
  · replace hw := hw.1 cq
    exact sb_LogCleanerModel_drop_12 C0 a0 a1 a0 h _ _ _ hw hP hS (lv_sub hl [0, 1] rfl)
  · replace hw := hw.2 cq
    refine lv_iload_n hx hb d_LogCleanerModel_drop_5 rfl (lv_at hl 1 rfl) ?_
    refine lv_sipush (v := 400) hx hb d_LogCleanerModel_drop_6 (by decide) ?_
    refine lv_icmp_le (tgt := 16) hx hb d_LogCleanerModel_drop_9 (by decide) (fun cq => ?_) (fun cq => ?_)
    · replace hw := hw.1 cq
      refine lv_iconst (v := 0) hx hb d_LogCleanerModel_drop_16 (by decide) ?_
      exact sb_LogCleanerModel_drop_17 C0 a0 a1 0 a0 h _ _ _ hw hP hS (lv_sub hl [0, 1] rfl)
    · replace hw := hw.2 cq
      exact sb_LogCleanerModel_drop_12 C0 a0 a1 a0 h _ _ _ hw hP hS (lv_sub hl [0, 1] rfl)

theorem d_LogCleanerModel_count_0 : decode b_LogCleanerModel_count 0 = .ok (.aload_n 0, 1) := by decide +kernel
theorem d_LogCleanerModel_count_1 : decode b_LogCleanerModel_count 1 = .ok (.iload_n 1, 1) := by decide +kernel
theorem d_LogCleanerModel_count_2 : decode b_LogCleanerModel_count 2 = .ok (.ifCond .lt 8, 3) := by decide +kernel
theorem d_LogCleanerModel_count_5 : decode b_LogCleanerModel_count 5 = .ok (.iload_n 1, 1) := by decide +kernel
theorem d_LogCleanerModel_count_6 : decode b_LogCleanerModel_count 6 = .ok (.iconst 4, 1) := by decide +kernel
theorem d_LogCleanerModel_count_7 : decode b_LogCleanerModel_count 7 = .ok (.if_icmp .le 7, 3) := by decide +kernel
theorem d_LogCleanerModel_count_10 : decode b_LogCleanerModel_count 10 = .ok (.iconst 1, 1) := by decide +kernel
theorem d_LogCleanerModel_count_11 : decode b_LogCleanerModel_count 11 = .ok (.goto 4, 3) := by decide +kernel
theorem d_LogCleanerModel_count_14 : decode b_LogCleanerModel_count 14 = .ok (.iconst 0, 1) := by decide +kernel
theorem d_LogCleanerModel_count_15 : decode b_LogCleanerModel_count 15 = .ok (.putfield 66, 3) := by decide +kernel
theorem d_LogCleanerModel_count_18 : decode b_LogCleanerModel_count 18 = .ok (.aload_n 0, 1) := by decide +kernel
theorem d_LogCleanerModel_count_19 : decode b_LogCleanerModel_count 19 = .ok (.getfield 66, 3) := by decide +kernel
theorem d_LogCleanerModel_count_22 : decode b_LogCleanerModel_count 22 = .ok (.ifCond .le 5, 3) := by decide +kernel
theorem d_LogCleanerModel_count_25 : decode b_LogCleanerModel_count 25 = .ok (.iconst 0, 1) := by decide +kernel
theorem d_LogCleanerModel_count_26 : decode b_LogCleanerModel_count 26 = .ok (.ireturn, 1) := by decide +kernel
theorem d_LogCleanerModel_count_27 : decode b_LogCleanerModel_count 27 = .ok (.iload_n 1, 1) := by decide +kernel
theorem d_LogCleanerModel_count_28 : decode b_LogCleanerModel_count 28 = .ok (.ifCond .ne 10, 3) := by decide +kernel
theorem d_LogCleanerModel_count_31 : decode b_LogCleanerModel_count 31 = .ok (.aload_n 0, 1) := by decide +kernel
theorem d_LogCleanerModel_count_32 : decode b_LogCleanerModel_count 32 = .ok (.getfield 75, 3) := by decide +kernel
theorem d_LogCleanerModel_count_35 : decode b_LogCleanerModel_count 35 = .ok (.goto 43, 3) := by decide +kernel
theorem d_LogCleanerModel_count_38 : decode b_LogCleanerModel_count 38 = .ok (.iload_n 1, 1) := by decide +kernel
theorem d_LogCleanerModel_count_39 : decode b_LogCleanerModel_count 39 = .ok (.iconst 1, 1) := by decide +kernel
theorem d_LogCleanerModel_count_40 : decode b_LogCleanerModel_count 40 = .ok (.if_icmp .ne 10, 3) := by decide +kernel
theorem d_LogCleanerModel_count_43 : decode b_LogCleanerModel_count 43 = .ok (.aload_n 0, 1) := by decide +kernel
theorem d_LogCleanerModel_count_44 : decode b_LogCleanerModel_count 44 = .ok (.getfield 82, 3) := by decide +kernel
theorem d_LogCleanerModel_count_47 : decode b_LogCleanerModel_count 47 = .ok (.goto 31, 3) := by decide +kernel
theorem d_LogCleanerModel_count_50 : decode b_LogCleanerModel_count 50 = .ok (.iload_n 1, 1) := by decide +kernel
theorem d_LogCleanerModel_count_51 : decode b_LogCleanerModel_count 51 = .ok (.iconst 2, 1) := by decide +kernel
theorem d_LogCleanerModel_count_52 : decode b_LogCleanerModel_count 52 = .ok (.if_icmp .ne 10, 3) := by decide +kernel
theorem d_LogCleanerModel_count_55 : decode b_LogCleanerModel_count 55 = .ok (.aload_n 0, 1) := by decide +kernel
theorem d_LogCleanerModel_count_56 : decode b_LogCleanerModel_count 56 = .ok (.invokevirtual 107, 3) := by decide +kernel
theorem d_LogCleanerModel_count_59 : decode b_LogCleanerModel_count 59 = .ok (.goto 19, 3) := by decide +kernel
theorem d_LogCleanerModel_count_62 : decode b_LogCleanerModel_count 62 = .ok (.iload_n 1, 1) := by decide +kernel
theorem d_LogCleanerModel_count_63 : decode b_LogCleanerModel_count 63 = .ok (.iconst 3, 1) := by decide +kernel
theorem d_LogCleanerModel_count_64 : decode b_LogCleanerModel_count 64 = .ok (.if_icmp .ne 10, 3) := by decide +kernel
theorem d_LogCleanerModel_count_67 : decode b_LogCleanerModel_count 67 = .ok (.aload_n 0, 1) := by decide +kernel
theorem d_LogCleanerModel_count_68 : decode b_LogCleanerModel_count 68 = .ok (.getfield 72, 3) := by decide +kernel
theorem d_LogCleanerModel_count_71 : decode b_LogCleanerModel_count 71 = .ok (.goto 7, 3) := by decide +kernel
theorem d_LogCleanerModel_count_74 : decode b_LogCleanerModel_count 74 = .ok (.aload_n 0, 1) := by decide +kernel
theorem d_LogCleanerModel_count_75 : decode b_LogCleanerModel_count 75 = .ok (.getfield 85, 3) := by decide +kernel
theorem d_LogCleanerModel_count_78 : decode b_LogCleanerModel_count 78 = .ok (.ireturn, 1) := by decide +kernel
def rm_LogCleanerModel_count : Room := { frames := 1, cells := 0, slots := 0, locals := 20 }
def ws_LogCleanerModel_count : List Cond := Cond.code y_LogCleanerModel_count b_LogCleanerModel_count 2 (some .int) :: TB
set_option maxHeartbeats 4000000 in
set_option maxRecDepth 100000 in
theorem sb_LogCleanerModel_count_78 {p : Program} {l : Launch} {e : Env} {s : State} {m : MethodId} {args : Array Value} {below : List Frame} {meth : Method} {c : Code} {D : va_G} {d : Nat → ClassId} {A : Nat → Prop} {h0 : xw} {Q : Int32 → xw → Prop} (C0 : xctx p s m args meth c b_LogCleanerModel_count 2 (some .int) R_LogCleanerModel D d A True) : ∀ (s0 : Int32) (h : xw) (H : Heap) (locs : List Loc) (ls : Array Slot), wb_LogCleanerModel_count_78 d Q  s0 h → xR sgM h0 D A h H → va_S A s.heap H locs → lv_has ls 2 [] → W p l e rm_LogCleanerModel_count s m args below meth c H locs 0 0 (MQ below (va_Qi (fun r u => Q r u ∧ xfr sgM h0 u) (xB D d A) A) args s 0 0 A) (F0 m 78 ls [.int s0]) := by
  obtain ⟨hx, hb, hr, hml, hown, htb, hK, hA, hNB, hlocks, hXT⟩ := id C0
  intro  s0 h H locs ls hw hP hS hl
  refine W.widen (k := 0) (n := 0) (Nat.le_of_ble_eq_true rfl) (Nat.le_of_ble_eq_true rfl) ?_
  exact xretI C0 hw hP hS d_LogCleanerModel_count_78

set_option maxHeartbeats 4000000 in
set_option maxRecDepth 100000 in
theorem sb_LogCleanerModel_count_15 {p : Program} {l : Launch} {e : Env} {s : State} {m : MethodId} {args : Array Value} {below : List Frame} {meth : Method} {c : Code} {D : va_G} {d : Nat → ClassId} {A : Nat → Prop} {h0 : xw} {Q : Int32 → xw → Prop} (C0 : xctx p s m args meth c b_LogCleanerModel_count 2 (some .int) R_LogCleanerModel D d A True) : ∀ (x0 : Nat) (x1 : Int32) (s0 : Int32) (s1 : Nat) (h : xw) (H : Heap) (locs : List Loc) (ls : Array Slot), wb_LogCleanerModel_count_15 d Q x0 x1 s0 s1 h → xR sgM h0 D A h H → va_S A s.heap H locs → lv_has ls 2 [(0, .ref x0), (1, .int x1)] → W p l e rm_LogCleanerModel_count s m args below meth c H locs 0 0 (MQ below (va_Qi (fun r u => Q r u ∧ xfr sgM h0 u) (xB D d A) A) args s 0 0 A) (F0 m 15 ls [.int s0, .ref s1]) := by
  obtain ⟨hx, hb, hr, hml, hown, htb, hK, hA, hNB, hlocks, hXT⟩ := id C0
  intro x0 x1 s0 s1 h H locs ls hw hP hS hl
  refine xputI hx hb htb i_LogCleanerModel t_LogCleanerModel t_LogCleanerModel_ok n_LogCleanerModel hown hK hP hS (ci := 4) rfl (fun _ => rfl) 0 (by decide) (htb _ k_LogCleanerModel_66) (fun _ h9 => h9) rfl (by decide +kernel) hw d_LogCleanerModel_count_15 (fun h1 H locs hw hP hS => ?_)
  refine lv_aload_n hx hb d_LogCleanerModel_count_18 rfl (lv_at hl 0 rfl) ?_
  refine xgetI hx hb htb i_LogCleanerModel hown hK hP (ci := 4) rfl 0 (by decide) (htb _ k_LogCleanerModel_66) (fun _ h9 => h9) hw d_LogCleanerModel_count_19 (fun v2 hw => ?_)
  refine lv_if_le (tgt := 27) hx hb d_LogCleanerModel_count_22 (by decide) (fun cq => ?_) (fun cq => ?_)
  · replace hw := hw.1 cq
    refine lv_iload_n hx hb d_LogCleanerModel_count_27 rfl (lv_at hl 1 rfl) ?_
    refine lv_if_ne (tgt := 38) hx hb d_LogCleanerModel_count_28 (by decide) (fun cq => ?_) (fun cq => ?_)
    · replace hw := hw.2 cq
      refine lv_iload_n hx hb d_LogCleanerModel_count_38 rfl (lv_at hl 1 rfl) ?_
      refine lv_iconst (v := 1) hx hb d_LogCleanerModel_count_39 (by decide) ?_
      refine lv_icmp_ne (tgt := 50) hx hb d_LogCleanerModel_count_40 (by decide) (fun cq => ?_) (fun cq => ?_)
      · replace hw := hw.2 cq
        refine lv_iload_n hx hb d_LogCleanerModel_count_50 rfl (lv_at hl 1 rfl) ?_
        refine lv_iconst (v := 2) hx hb d_LogCleanerModel_count_51 (by decide) ?_
        refine lv_icmp_ne (tgt := 62) hx hb d_LogCleanerModel_count_52 (by decide) (fun cq => ?_) (fun cq => ?_)
        · replace hw := hw.2 cq
          refine lv_iload_n hx hb d_LogCleanerModel_count_62 rfl (lv_at hl 1 rfl) ?_
          refine lv_iconst (v := 3) hx hb d_LogCleanerModel_count_63 (by decide) ?_
          refine lv_icmp_ne (tgt := 74) hx hb d_LogCleanerModel_count_64 (by decide) (fun cq => ?_) (fun cq => ?_)
          · replace hw := hw.2 cq
            refine lv_aload_n hx hb d_LogCleanerModel_count_74 rfl (lv_at hl 0 rfl) ?_
            refine xgetI hx hb htb i_LogCleanerModel hown hK hP (ci := 4) rfl 9 (by decide) (htb _ k_LogCleanerModel_85) (fun _ h9 => h9) hw d_LogCleanerModel_count_75 (fun v3 hw => ?_)
            exact sb_LogCleanerModel_count_78 C0 v3 h1 _ _ _ hw hP hS (lv_sub hl [] rfl)
          · replace hw := hw.1 cq
            refine lv_aload_n hx hb d_LogCleanerModel_count_67 rfl (lv_at hl 0 rfl) ?_
            refine xgetI hx hb htb i_LogCleanerModel hown hK hP (ci := 4) rfl 10 (by decide) (htb _ k_LogCleanerModel_72) (fun _ h9 => h9) hw d_LogCleanerModel_count_68 (fun v4 hw => ?_)
            refine lv_goto (tgt := 78) hx hb d_LogCleanerModel_count_71 (by decide) ?_
            exact sb_LogCleanerModel_count_78 C0 v4 h1 _ _ _ hw hP hS (lv_sub hl [] rfl)
        · replace hw := hw.1 cq
          refine lv_aload_n hx hb d_LogCleanerModel_count_55 rfl (lv_at hl 0 rfl) ?_
          obtain ⟨⟨_, hw0⟩, hw⟩ := hw
          refine xcalli (va_runV (b := x0) (As := []) (rest := []) ⟨hx, hb, hml, hown, htb⟩ (m_LogCleanerModel_segments l D d h1 _ x0 _ hw) (xcwV 0 htb g_code_LogCleanerModel_segments g_ini_LogCleanerModel k_LogCleanerModel_107 g_im_LogCleanerModel_segments g_sel_LogCleanerModel_segments rfl rfl (by decide +kernel) ⟨(Nat.le_of_ble_eq_true rfl), (Nat.le_of_ble_eq_true rfl)⟩) (xpreV hP hK hNB (ci := 4) rfl hw0) rfl rfl hl.1 rfl (lv_room (Nat.le_of_ble_eq_true rfl)) d_LogCleanerModel_count_56 ⟨(Nat.le_of_ble_eq_true rfl), (Nat.le_of_ble_eq_true rfl)⟩) hP hS hA (fun r6 h5 H locs hw hP hS => ?_)
          refine W.widen (k := 0) (n := 0) (Nat.le_of_ble_eq_true rfl) (Nat.le_of_ble_eq_true rfl) ?_
          refine lv_goto (tgt := 78) hx hb d_LogCleanerModel_count_59 (by decide) ?_
          exact sb_LogCleanerModel_count_78 C0 r6 h5 _ _ _ hw hP hS (lv_sub hl [] rfl)
      · replace hw := hw.1 cq
        refine lv_aload_n hx hb d_LogCleanerModel_count_43 rfl (lv_at hl 0 rfl) ?_
        refine xgetI hx hb htb i_LogCleanerModel hown hK hP (ci := 4) rfl 16 (by decide) (htb _ k_LogCleanerModel_82) (fun _ h9 => h9) hw d_LogCleanerModel_count_44 (fun v7 hw => ?_)
        refine lv_goto (tgt := 78) hx hb d_LogCleanerModel_count_47 (by decide) ?_
        exact sb_LogCleanerModel_count_78 C0 v7 h1 _ _ _ hw hP hS (lv_sub hl [] rfl)
    · replace hw := hw.1 cq
      refine lv_aload_n hx hb d_LogCleanerModel_count_31 rfl (lv_at hl 0 rfl) ?_
      refine xgetI hx hb htb i_LogCleanerModel hown hK hP (ci := 4) rfl 1 (by decide) (htb _ k_LogCleanerModel_75) (fun _ h9 => h9) hw d_LogCleanerModel_count_32 (fun v8 hw => ?_)
      refine lv_goto (tgt := 78) hx hb d_LogCleanerModel_count_35 (by decide) ?_
      exact sb_LogCleanerModel_count_78 C0 v8 h1 _ _ _ hw hP hS (lv_sub hl [] rfl)
  · replace hw := hw.2 cq
    refine lv_iconst (v := 0) hx hb d_LogCleanerModel_count_25 (by decide) ?_
    refine W.widen (k := 0) (n := 0) (Nat.le_of_ble_eq_true rfl) (Nat.le_of_ble_eq_true rfl) ?_
    exact xretI C0 hw hP hS d_LogCleanerModel_count_26

set_option maxHeartbeats 4000000 in
set_option maxRecDepth 100000 in
theorem sb_LogCleanerModel_count_10 {p : Program} {l : Launch} {e : Env} {s : State} {m : MethodId} {args : Array Value} {below : List Frame} {meth : Method} {c : Code} {D : va_G} {d : Nat → ClassId} {A : Nat → Prop} {h0 : xw} {Q : Int32 → xw → Prop} (C0 : xctx p s m args meth c b_LogCleanerModel_count 2 (some .int) R_LogCleanerModel D d A True) : ∀ (x0 : Nat) (x1 : Int32) (s0 : Nat) (h : xw) (H : Heap) (locs : List Loc) (ls : Array Slot), wb_LogCleanerModel_count_10 d Q x0 x1 s0 h → xR sgM h0 D A h H → va_S A s.heap H locs → lv_has ls 2 [(0, .ref x0), (1, .int x1)] → W p l e rm_LogCleanerModel_count s m args below meth c H locs 0 0 (MQ below (va_Qi (fun r u => Q r u ∧ xfr sgM h0 u) (xB D d A) A) args s 0 0 A) (F0 m 10 ls [.ref s0]) := by
  obtain ⟨hx, hb, hr, hml, hown, htb, hK, hA, hNB, hlocks, hXT⟩ := id C0
  intro x0 x1 s0 h H locs ls hw hP hS hl
  refine lv_iconst (v := 1) hx hb d_LogCleanerModel_count_10 (by decide) ?_
  refine lv_goto (tgt := 15) hx hb d_LogCleanerModel_count_11 (by decide) ?_
  exact sb_LogCleanerModel_count_15 C0 x0 x1 1 s0 h _ _ _ hw hP hS (lv_sub hl [0, 1] rfl)

set_option maxHeartbeats 4000000 in
set_option maxRecDepth 100000 in
theorem m_LogCleanerModel_count (l : Launch) (D : va_G) (d : Nat → ClassId) (h : xw) (sz : Nat) (a0 : Nat) (a1 : Int32) (Q : Int32 → xw → Prop) (hw : wp_LogCleanerModel_count d h a0 a1 Q) : Met l y_LogCleanerModel_count ws_LogCleanerModel_count rm_LogCleanerModel_count (xPre D d h [.ref a0, .int a1] sz) (va_Qi (fun r u => Q r u ∧ xfr sgM h u) (xB D d (xA h sz)) (xA h sz)) 0 0 (xA h sz) := by
  refine Met.ofW (cc := b_LogCleanerModel_count) (maxL := 2) (ret := (some .int)) (by decide) rfl ?_
  intro p e s m args below meth c s₁ B hml hv
  obtain ⟨rfl, hsz, hP0, hK, hNB⟩ := hv
  have hts := atoms_spec (ws := ws_LogCleanerModel_count) B.pre
  have htb := fun w (hw9 : w ∈ TB) => hts w (List.mem_cons_of_mem _ hw9)
  have hown : s.vm.findClass R_LogCleanerModel = some m.cls := findClass_of_methodNamed B.named
  subst hsz
  obtain ⟨A, hAe⟩ : ∃ A, A = xA h s.heap.size := ⟨_, rfl⟩
  rw [← hAe]
  have hP : xR sgM h D A h s.heap := ⟨by rw [hAe]; exact hP0.self, xfr.rf⟩
  have hA : ∀ q, s.heap.size ≤ q → A q := fun q hq => by rw [hAe]; exact Or.inr hq
  have hS : va_S A s.heap s.heap [] := va_S.rf
  have C0 : xctx p s m ([.ref a0, .int a1] : List Value).toArray meth c b_LogCleanerModel_count 2 (some .int) R_LogCleanerModel D d A True := ⟨B.exec, B.bytes, B.returns, hml, hown, htb, hK, hA, hNB, B.notSynchronized, trivial⟩
  obtain ⟨hx, hb, hr, -, -, -, -, -, -, hlocks, hXT⟩ := id C0
  have hl := lv_entry ([.ref a0, .int a1] : List Value) (n := 2) (Nat.le_of_ble_eq_true rfl)
  rw [lg_entry_eq]
  generalize (lg_sl ([.ref a0, .int a1] : List Value) ++ List.replicate (2 - (lg_sl ([.ref a0, .int a1] : List Value)).length) Slot.unset).toArray = ls at hl ⊢
  have hl : lv_has ls 2 [(0, .ref a0), (1, .int a1)] := hl
  refine lv_aload_n hx hb d_LogCleanerModel_count_0 rfl (lv_at hl 0 rfl) ?_
  refine lv_iload_n hx hb d_LogCleanerModel_count_1 rfl (lv_at hl 1 rfl) ?_
  refine lv_if_lt (tgt := 10) hx hb d_LogCleanerModel_count_2 (by decide) (fun cq => ?_) (fun cq => ?_)
  · replace hw := hw.1 cq
    exact sb_LogCleanerModel_count_10 C0 a0 a1 a0 h _ _ _ hw hP hS (lv_sub hl [0, 1] rfl)
  · replace hw := hw.2 cq
    refine lv_iload_n hx hb d_LogCleanerModel_count_5 rfl (lv_at hl 1 rfl) ?_
    refine lv_iconst (v := 4) hx hb d_LogCleanerModel_count_6 (by decide) ?_
    refine lv_icmp_le (tgt := 14) hx hb d_LogCleanerModel_count_7 (by decide) (fun cq => ?_) (fun cq => ?_)
    · replace hw := hw.1 cq
      refine lv_iconst (v := 0) hx hb d_LogCleanerModel_count_14 (by decide) ?_
      exact sb_LogCleanerModel_count_15 C0 a0 a1 0 a0 h _ _ _ hw hP hS (lv_sub hl [0, 1] rfl)
    · replace hw := hw.2 cq
      exact sb_LogCleanerModel_count_10 C0 a0 a1 a0 h _ _ _ hw hP hS (lv_sub hl [0, 1] rfl)

theorem d_LogCleanerModel_countOf_0 : decode b_LogCleanerModel_countOf 0 = .ok (.iconst 0, 1) := by decide +kernel
theorem d_LogCleanerModel_countOf_1 : decode b_LogCleanerModel_countOf 1 = .ok (.istore_n 2, 1) := by decide +kernel
theorem d_LogCleanerModel_countOf_2 : decode b_LogCleanerModel_countOf 2 = .ok (.iconst 0, 1) := by decide +kernel
theorem d_LogCleanerModel_countOf_3 : decode b_LogCleanerModel_countOf 3 = .ok (.istore_n 3, 1) := by decide +kernel
theorem d_LogCleanerModel_countOf_4 : decode b_LogCleanerModel_countOf 4 = .ok (.iload_n 3, 1) := by decide +kernel
theorem d_LogCleanerModel_countOf_5 : decode b_LogCleanerModel_countOf 5 = .ok (.aload_n 0, 1) := by decide +kernel
theorem d_LogCleanerModel_countOf_6 : decode b_LogCleanerModel_countOf 6 = .ok (.getfield 75, 3) := by decide +kernel
theorem d_LogCleanerModel_countOf_9 : decode b_LogCleanerModel_countOf 9 = .ok (.if_icmp .ge 27, 3) := by decide +kernel
theorem d_LogCleanerModel_countOf_12 : decode b_LogCleanerModel_countOf 12 = .ok (.iload_n 2, 1) := by decide +kernel
theorem d_LogCleanerModel_countOf_13 : decode b_LogCleanerModel_countOf 13 = .ok (.aload_n 0, 1) := by decide +kernel
theorem d_LogCleanerModel_countOf_14 : decode b_LogCleanerModel_countOf 14 = .ok (.getfield 7, 3) := by decide +kernel
theorem d_LogCleanerModel_countOf_17 : decode b_LogCleanerModel_countOf 17 = .ok (.iload_n 3, 1) := by decide +kernel
theorem d_LogCleanerModel_countOf_18 : decode b_LogCleanerModel_countOf 18 = .ok (.iaload, 1) := by decide +kernel
theorem d_LogCleanerModel_countOf_19 : decode b_LogCleanerModel_countOf 19 = .ok (.iload_n 1, 1) := by decide +kernel
theorem d_LogCleanerModel_countOf_20 : decode b_LogCleanerModel_countOf 20 = .ok (.if_icmp .ne 7, 3) := by decide +kernel
theorem d_LogCleanerModel_countOf_23 : decode b_LogCleanerModel_countOf 23 = .ok (.iconst 1, 1) := by decide +kernel
theorem d_LogCleanerModel_countOf_24 : decode b_LogCleanerModel_countOf 24 = .ok (.goto 4, 3) := by decide +kernel
theorem d_LogCleanerModel_countOf_27 : decode b_LogCleanerModel_countOf 27 = .ok (.iconst 0, 1) := by decide +kernel
theorem d_LogCleanerModel_countOf_28 : decode b_LogCleanerModel_countOf 28 = .ok (.iadd, 1) := by decide +kernel
theorem d_LogCleanerModel_countOf_29 : decode b_LogCleanerModel_countOf 29 = .ok (.istore_n 2, 1) := by decide +kernel
theorem d_LogCleanerModel_countOf_30 : decode b_LogCleanerModel_countOf 30 = .ok (.iinc 3 1, 3) := by decide +kernel
theorem d_LogCleanerModel_countOf_33 : decode b_LogCleanerModel_countOf 33 = .ok (.goto (-29), 3) := by decide +kernel
theorem d_LogCleanerModel_countOf_36 : decode b_LogCleanerModel_countOf 36 = .ok (.iload_n 2, 1) := by decide +kernel
theorem d_LogCleanerModel_countOf_37 : decode b_LogCleanerModel_countOf 37 = .ok (.ireturn, 1) := by decide +kernel
def rm_LogCleanerModel_countOf : Room := { frames := 0, cells := 0, slots := 0, locals := 0 }
def ws_LogCleanerModel_countOf : List Cond := Cond.code y_LogCleanerModel_countOf b_LogCleanerModel_countOf 4 (some .int) :: TB
set_option maxHeartbeats 4000000 in
set_option maxRecDepth 100000 in
theorem sb_LogCleanerModel_countOf_28 {p : Program} {l : Launch} {e : Env} {s : State} {m : MethodId} {args : Array Value} {below : List Frame} {meth : Method} {c : Code} {D : va_G} {d : Nat → ClassId} {A : Nat → Prop} {h0 : xw} {Q : Int32 → xw → Prop} {k4 : Nat → Int32 → Int32 → Int32 → xw → Prop} (C0 : xctx p s m args meth c b_LogCleanerModel_countOf 4 (some .int) R_LogCleanerModel D d A True) (hk4 : ∀ (x0 : Nat) (x1 : Int32) (x2 : Int32) (x3 : Int32) (h : xw) (H : Heap) (locs : List Loc) (ls : Array Slot), k4 x0 x1 x2 x3 h → xR sgM h0 D A h H → va_S A s.heap H locs → lv_has ls 4 [(0, .ref x0), (1, .int x1), (2, .int x2), (3, .int x3)] → W p l e rm_LogCleanerModel_countOf s m args below meth c H locs 0 0 (MQ below (va_Qi (fun r u => Q r u ∧ xfr sgM h0 u) (xB D d A) A) args s 0 0 A) (F0 m 4 ls [])) : ∀ (x0 : Nat) (x1 : Int32) (x3 : Int32) (s0 : Int32) (s1 : Int32) (h : xw) (H : Heap) (locs : List Loc) (ls : Array Slot), wb_LogCleanerModel_countOf_28 d k4 Q x0 x1 x3 s0 s1 h → xR sgM h0 D A h H → va_S A s.heap H locs → lv_has ls 4 [(0, .ref x0), (1, .int x1), (3, .int x3)] → W p l e rm_LogCleanerModel_countOf s m args below meth c H locs 0 0 (MQ below (va_Qi (fun r u => Q r u ∧ xfr sgM h0 u) (xB D d A) A) args s 0 0 A) (F0 m 28 ls [.int s0, .int s1]) := by
  obtain ⟨hx, hb, hr, hml, hown, htb, hK, hA, hNB, hlocks, hXT⟩ := id C0
  intro x0 x1 x3 s0 s1 h H locs ls hw hP hS hl
  refine lv_iadd hx hb d_LogCleanerModel_countOf_28 ?_
  refine lv_istore_n (lv' := [(2, .int (s1 + s0)), (0, .ref x0), (1, .int x1), (3, .int x3)]) hx hb d_LogCleanerModel_countOf_29 rfl hl (by decide) rfl (fun ls hl => ?_)
  refine lv_iinc (v := x3 + 1) (lv' := [(3, .int (x3 + 1)), (2, .int (s1 + s0)), (0, .ref x0), (1, .int x1)]) hx hb d_LogCleanerModel_countOf_30 hl (k := 3) rfl rfl (by decide) rfl (fun ls hl => ?_)
  refine lv_goto (tgt := 4) hx hb d_LogCleanerModel_countOf_33 (by decide) ?_
  exact hk4 x0 x1 (s1 + s0) (x3 + 1) h _ _ _ hw hP hS (lv_sub hl [2, 3, 1, 0] rfl)

set_option maxHeartbeats 4000000 in
set_option maxRecDepth 100000 in
theorem sl_LogCleanerModel_countOf_4 {p : Program} {l : Launch} {e : Env} {s : State} {m : MethodId} {args : Array Value} {below : List Frame} {meth : Method} {c : Code} {D : va_G} {d : Nat → ClassId} {A : Nat → Prop} {h0 : xw} {Q : Int32 → xw → Prop} (C0 : xctx p s m args meth c b_LogCleanerModel_countOf 4 (some .int) R_LogCleanerModel D d A True) : ∀ (n : Nat) (x : Nat × Int32 × Int32 × Int32) (h : xw) (H : Heap) (locs : List Loc) (ls : Array Slot), xloop (fun (k : Nat × Int32 × Int32 × Int32 → xw → Prop) (x : Nat × Int32 × Int32 × Int32) (h : xw) => wc_LogCleanerModel_countOf_4 d Q (fun y0 y1 y2 y3 h => k (y0, y1, y2, y3) h) x.1 x.2.1 x.2.2.1 x.2.2.2 h) n x h → xR sgM h0 D A h H → va_S A s.heap H locs → lv_has ls 4 [(0, .ref x.1), (1, .int x.2.1), (2, .int x.2.2.1), (3, .int x.2.2.2)] → W p l e rm_LogCleanerModel_countOf s m args below meth c H locs 0 0 (MQ below (va_Qi (fun r u => Q r u ∧ xfr sgM h0 u) (xB D d A) A) args s 0 0 A) (F0 m 4 ls []) := by
  obtain ⟨hx, hb, hr, hml, hown, htb, hK, hA, hNB, hlocks, hXT⟩ := id C0
  intro n
  induction n with
  | zero => intro x h H locs ls hw; exact hw.elim
  | succ n ih =>
    rintro ⟨x0, x1, x2, x3⟩ h H locs ls hw hP hS hl
    replace hw : wc_LogCleanerModel_countOf_4 d Q (fun y0 y1 y2 y3 h => xloop (fun (k : Nat × Int32 × Int32 × Int32 → xw → Prop) (x : Nat × Int32 × Int32 × Int32) (h : xw) => wc_LogCleanerModel_countOf_4 d Q (fun y0 y1 y2 y3 h => k (y0, y1, y2, y3) h) x.1 x.2.1 x.2.2.1 x.2.2.2 h) n (y0, y1, y2, y3) h) x0 x1 x2 x3 h := hw
    have hk4 := fun (x0 : Nat) (x1 : Int32) (x2 : Int32) (x3 : Int32) => ih (x0, x1, x2, x3)
    refine lv_iload_n hx hb d_LogCleanerModel_countOf_4 rfl (lv_at hl 3 rfl) ?_
    refine lv_aload_n hx hb d_LogCleanerModel_countOf_5 rfl (lv_at hl 0 rfl) ?_
    refine xgetI hx hb htb i_LogCleanerModel hown hK hP (ci := 4) rfl 1 (by decide) (htb _ k_LogCleanerModel_75) (fun _ h9 => h9) hw d_LogCleanerModel_countOf_6 (fun v1 hw => ?_)
    refine lv_icmp_ge (tgt := 36) hx hb d_LogCleanerModel_countOf_9 (by decide) (fun cq => ?_) (fun cq => ?_)
    · replace hw := hw.1 cq
      refine lv_iload_n hx hb d_LogCleanerModel_countOf_36 rfl (lv_at hl 2 rfl) ?_
      refine W.widen (k := 0) (n := 0) (Nat.le_of_ble_eq_true rfl) (Nat.le_of_ble_eq_true rfl) ?_
      exact xretI C0 hw hP hS d_LogCleanerModel_countOf_37
    · replace hw := hw.2 cq
      refine lv_iload_n hx hb d_LogCleanerModel_countOf_12 rfl (lv_at hl 2 rfl) ?_
      refine lv_aload_n hx hb d_LogCleanerModel_countOf_13 rfl (lv_at hl 0 rfl) ?_
      refine xgetA hx hb htb i_LogCleanerModel hown hK hP (ci := 4) rfl 2 (by decide) (htb _ k_LogCleanerModel_7) (fun _ h9 => h9) hw d_LogCleanerModel_countOf_14 (fun r2 hw => ?_)
      refine lv_iload_n hx hb d_LogCleanerModel_countOf_17 rfl (lv_at hl 3 rfl) ?_
      obtain ⟨p3, hpe, hw⟩ := hw
      revert hw
      revert hl
      subst hpe
      intro hl hw
      replace hl : lv_has ls 4 [(0, .ref x0), (1, .int x1), (2, .int x2), (3, .int x3)] := hl
      refine xldi hx hb hK hP 2 rfl hw d_LogCleanerModel_countOf_18 (fun v4 hw => ?_)
      refine lv_iload_n hx hb d_LogCleanerModel_countOf_19 rfl (lv_at hl 1 rfl) ?_
      refine lv_icmp_ne (tgt := 27) hx hb d_LogCleanerModel_countOf_20 (by decide) (fun cq => ?_) (fun cq => ?_)
      · replace hw := hw.2 cq
        refine lv_iconst (v := 0) hx hb d_LogCleanerModel_countOf_27 (by decide) ?_
        exact sb_LogCleanerModel_countOf_28 C0 hk4 x0 x1 x3 0 x2 h _ _ _ hw hP hS (lv_sub hl [0, 1, 3] rfl)
      · replace hw := hw.1 cq
        refine lv_iconst (v := 1) hx hb d_LogCleanerModel_countOf_23 (by decide) ?_
        refine lv_goto (tgt := 28) hx hb d_LogCleanerModel_countOf_24 (by decide) ?_
        exact sb_LogCleanerModel_countOf_28 C0 hk4 x0 x1 x3 1 x2 h _ _ _ hw hP hS (lv_sub hl [0, 1, 3] rfl)

set_option maxHeartbeats 4000000 in
set_option maxRecDepth 100000 in
theorem m_LogCleanerModel_countOf (l : Launch) (D : va_G) (d : Nat → ClassId) (h : xw) (sz : Nat) (a0 : Nat) (a1 : Int32) (Q : Int32 → xw → Prop) (hw : wp_LogCleanerModel_countOf d h a0 a1 Q) : Met l y_LogCleanerModel_countOf ws_LogCleanerModel_countOf rm_LogCleanerModel_countOf (xPre D d h [.ref a0, .int a1] sz) (va_Qi (fun r u => Q r u ∧ xfr sgM h u) (xB D d (xA h sz)) (xA h sz)) 0 0 (xA h sz) := by
  refine Met.ofW (cc := b_LogCleanerModel_countOf) (maxL := 4) (ret := (some .int)) (by decide) rfl ?_
  intro p e s m args below meth c s₁ B hml hv
  obtain ⟨rfl, hsz, hP0, hK, hNB⟩ := hv
  have hts := atoms_spec (ws := ws_LogCleanerModel_countOf) B.pre
  have htb := fun w (hw9 : w ∈ TB) => hts w (List.mem_cons_of_mem _ hw9)
  have hown : s.vm.findClass R_LogCleanerModel = some m.cls := findClass_of_methodNamed B.named
  subst hsz
  obtain ⟨A, hAe⟩ : ∃ A, A = xA h s.heap.size := ⟨_, rfl⟩
  rw [← hAe]
  have hP : xR sgM h D A h s.heap := ⟨by rw [hAe]; exact hP0.self, xfr.rf⟩
  have hA : ∀ q, s.heap.size ≤ q → A q := fun q hq => by rw [hAe]; exact Or.inr hq
  have hS : va_S A s.heap s.heap [] := va_S.rf
  have C0 : xctx p s m ([.ref a0, .int a1] : List Value).toArray meth c b_LogCleanerModel_countOf 4 (some .int) R_LogCleanerModel D d A True := ⟨B.exec, B.bytes, B.returns, hml, hown, htb, hK, hA, hNB, B.notSynchronized, trivial⟩
  obtain ⟨hx, hb, hr, -, -, -, -, -, -, hlocks, hXT⟩ := id C0
  have hl := lv_entry ([.ref a0, .int a1] : List Value) (n := 4) (Nat.le_of_ble_eq_true rfl)
  rw [lg_entry_eq]
  generalize (lg_sl ([.ref a0, .int a1] : List Value) ++ List.replicate (4 - (lg_sl ([.ref a0, .int a1] : List Value)).length) Slot.unset).toArray = ls at hl ⊢
  have hl : lv_has ls 4 [(0, .ref a0), (1, .int a1)] := hl
  refine lv_iconst (v := 0) hx hb d_LogCleanerModel_countOf_0 (by decide) ?_
  refine lv_istore_n (lv' := [(2, .int 0), (0, .ref a0), (1, .int a1)]) hx hb d_LogCleanerModel_countOf_1 rfl hl (by decide) rfl (fun ls hl => ?_)
  refine lv_iconst (v := 0) hx hb d_LogCleanerModel_countOf_2 (by decide) ?_
  refine lv_istore_n (lv' := [(3, .int 0), (2, .int 0), (0, .ref a0), (1, .int a1)]) hx hb d_LogCleanerModel_countOf_3 rfl hl (by decide) rfl (fun ls hl => ?_)
  obtain ⟨n, hw⟩ := hw
  exact sl_LogCleanerModel_countOf_4 C0 n (a0, a1, 0, 0) h _ _ _ hw hP hS (lv_sub hl [2, 3, 1, 0] rfl)

theorem d_LogCleanerModel_batch_0 : decode b_LogCleanerModel_batch 0 = .ok (.aload_n 0, 1) := by decide +kernel
theorem d_LogCleanerModel_batch_1 : decode b_LogCleanerModel_batch 1 = .ok (.iload_n 1, 1) := by decide +kernel
theorem d_LogCleanerModel_batch_2 : decode b_LogCleanerModel_batch 2 = .ok (.ifCond .lt 20, 3) := by decide +kernel
theorem d_LogCleanerModel_batch_5 : decode b_LogCleanerModel_batch 5 = .ok (.iload_n 1, 1) := by decide +kernel
theorem d_LogCleanerModel_batch_6 : decode b_LogCleanerModel_batch 6 = .ok (.aload_n 0, 1) := by decide +kernel
theorem d_LogCleanerModel_batch_7 : decode b_LogCleanerModel_batch 7 = .ok (.getfield 82, 3) := by decide +kernel
theorem d_LogCleanerModel_batch_10 : decode b_LogCleanerModel_batch 10 = .ok (.if_icmp .ge 12, 3) := by decide +kernel
theorem d_LogCleanerModel_batch_13 : decode b_LogCleanerModel_batch 13 = .ok (.iload_n 2, 1) := by decide +kernel
theorem d_LogCleanerModel_batch_14 : decode b_LogCleanerModel_batch 14 = .ok (.ifCond .lt 8, 3) := by decide +kernel
theorem d_LogCleanerModel_batch_17 : decode b_LogCleanerModel_batch 17 = .ok (.iload_n 2, 1) := by decide +kernel
theorem d_LogCleanerModel_batch_18 : decode b_LogCleanerModel_batch 18 = .ok (.iconst 5, 1) := by decide +kernel
theorem d_LogCleanerModel_batch_19 : decode b_LogCleanerModel_batch 19 = .ok (.if_icmp .le 7, 3) := by decide +kernel
theorem d_LogCleanerModel_batch_22 : decode b_LogCleanerModel_batch 22 = .ok (.iconst 1, 1) := by decide +kernel
theorem d_LogCleanerModel_batch_23 : decode b_LogCleanerModel_batch 23 = .ok (.goto 4, 3) := by decide +kernel
theorem d_LogCleanerModel_batch_26 : decode b_LogCleanerModel_batch 26 = .ok (.iconst 0, 1) := by decide +kernel
theorem d_LogCleanerModel_batch_27 : decode b_LogCleanerModel_batch 27 = .ok (.putfield 66, 3) := by decide +kernel
theorem d_LogCleanerModel_batch_30 : decode b_LogCleanerModel_batch 30 = .ok (.aload_n 0, 1) := by decide +kernel
theorem d_LogCleanerModel_batch_31 : decode b_LogCleanerModel_batch 31 = .ok (.getfield 66, 3) := by decide +kernel
theorem d_LogCleanerModel_batch_34 : decode b_LogCleanerModel_batch 34 = .ok (.ifCond .le 5, 3) := by decide +kernel
theorem d_LogCleanerModel_batch_37 : decode b_LogCleanerModel_batch 37 = .ok (.iconst 0, 1) := by decide +kernel
theorem d_LogCleanerModel_batch_38 : decode b_LogCleanerModel_batch 38 = .ok (.ireturn, 1) := by decide +kernel
theorem d_LogCleanerModel_batch_39 : decode b_LogCleanerModel_batch 39 = .ok (.iload_n 2, 1) := by decide +kernel
theorem d_LogCleanerModel_batch_40 : decode b_LogCleanerModel_batch 40 = .ok (.tableswitch 69 0 4 #[36, 43, 49, 56, 62], 36) := by decide +kernel
theorem d_LogCleanerModel_batch_76 : decode b_LogCleanerModel_batch 76 = .ok (.aload_n 0, 1) := by decide +kernel
theorem d_LogCleanerModel_batch_77 : decode b_LogCleanerModel_batch 77 = .ok (.getfield 48, 3) := by decide +kernel
theorem d_LogCleanerModel_batch_80 : decode b_LogCleanerModel_batch 80 = .ok (.iload_n 1, 1) := by decide +kernel
theorem d_LogCleanerModel_batch_81 : decode b_LogCleanerModel_batch 81 = .ok (.iaload, 1) := by decide +kernel
theorem d_LogCleanerModel_batch_82 : decode b_LogCleanerModel_batch 82 = .ok (.ireturn, 1) := by decide +kernel
theorem d_LogCleanerModel_batch_83 : decode b_LogCleanerModel_batch 83 = .ok (.aload_n 0, 1) := by decide +kernel
theorem d_LogCleanerModel_batch_84 : decode b_LogCleanerModel_batch 84 = .ok (.iload_n 1, 1) := by decide +kernel
theorem d_LogCleanerModel_batch_85 : decode b_LogCleanerModel_batch 85 = .ok (.invokevirtual 110, 3) := by decide +kernel
theorem d_LogCleanerModel_batch_88 : decode b_LogCleanerModel_batch 88 = .ok (.ireturn, 1) := by decide +kernel
theorem d_LogCleanerModel_batch_89 : decode b_LogCleanerModel_batch 89 = .ok (.aload_n 0, 1) := by decide +kernel
theorem d_LogCleanerModel_batch_90 : decode b_LogCleanerModel_batch 90 = .ok (.getfield 51, 3) := by decide +kernel
theorem d_LogCleanerModel_batch_93 : decode b_LogCleanerModel_batch 93 = .ok (.iload_n 1, 1) := by decide +kernel
theorem d_LogCleanerModel_batch_94 : decode b_LogCleanerModel_batch 94 = .ok (.iaload, 1) := by decide +kernel
theorem d_LogCleanerModel_batch_95 : decode b_LogCleanerModel_batch 95 = .ok (.ireturn, 1) := by decide +kernel
theorem d_LogCleanerModel_batch_96 : decode b_LogCleanerModel_batch 96 = .ok (.aload_n 0, 1) := by decide +kernel
theorem d_LogCleanerModel_batch_97 : decode b_LogCleanerModel_batch 97 = .ok (.iload_n 1, 1) := by decide +kernel
theorem d_LogCleanerModel_batch_98 : decode b_LogCleanerModel_batch 98 = .ok (.invokevirtual 88, 3) := by decide +kernel
theorem d_LogCleanerModel_batch_101 : decode b_LogCleanerModel_batch 101 = .ok (.ireturn, 1) := by decide +kernel
theorem d_LogCleanerModel_batch_102 : decode b_LogCleanerModel_batch 102 = .ok (.aload_n 0, 1) := by decide +kernel
theorem d_LogCleanerModel_batch_103 : decode b_LogCleanerModel_batch 103 = .ok (.getfield 54, 3) := by decide +kernel
theorem d_LogCleanerModel_batch_106 : decode b_LogCleanerModel_batch 106 = .ok (.iload_n 1, 1) := by decide +kernel
theorem d_LogCleanerModel_batch_107 : decode b_LogCleanerModel_batch 107 = .ok (.iaload, 1) := by decide +kernel
theorem d_LogCleanerModel_batch_108 : decode b_LogCleanerModel_batch 108 = .ok (.ireturn, 1) := by decide +kernel
theorem d_LogCleanerModel_batch_109 : decode b_LogCleanerModel_batch 109 = .ok (.aload_n 0, 1) := by decide +kernel
theorem d_LogCleanerModel_batch_110 : decode b_LogCleanerModel_batch 110 = .ok (.iload_n 1, 1) := by decide +kernel
theorem d_LogCleanerModel_batch_111 : decode b_LogCleanerModel_batch 111 = .ok (.invokevirtual 100, 3) := by decide +kernel
theorem d_LogCleanerModel_batch_114 : decode b_LogCleanerModel_batch 114 = .ok (.ifCond .eq 7, 3) := by decide +kernel
theorem d_LogCleanerModel_batch_117 : decode b_LogCleanerModel_batch 117 = .ok (.iconst 1, 1) := by decide +kernel
theorem d_LogCleanerModel_batch_118 : decode b_LogCleanerModel_batch 118 = .ok (.goto 4, 3) := by decide +kernel
theorem d_LogCleanerModel_batch_121 : decode b_LogCleanerModel_batch 121 = .ok (.iconst 0, 1) := by decide +kernel
theorem d_LogCleanerModel_batch_122 : decode b_LogCleanerModel_batch 122 = .ok (.ireturn, 1) := by decide +kernel
def rm_LogCleanerModel_batch : Room := { frames := 1, cells := 0, slots := 0, locals := 23 }
def ws_LogCleanerModel_batch : List Cond := Cond.code y_LogCleanerModel_batch b_LogCleanerModel_batch 3 (some .int) :: TB
set_option maxHeartbeats 4000000 in
set_option maxRecDepth 100000 in
theorem sb_LogCleanerModel_batch_122 {p : Program} {l : Launch} {e : Env} {s : State} {m : MethodId} {args : Array Value} {below : List Frame} {meth : Method} {c : Code} {D : va_G} {d : Nat → ClassId} {A : Nat → Prop} {h0 : xw} {Q : Int32 → xw → Prop} (C0 : xctx p s m args meth c b_LogCleanerModel_batch 3 (some .int) R_LogCleanerModel D d A True) : ∀ (s0 : Int32) (h : xw) (H : Heap) (locs : List Loc) (ls : Array Slot), wb_LogCleanerModel_batch_122 d Q  s0 h → xR sgM h0 D A h H → va_S A s.heap H locs → lv_has ls 3 [] → W p l e rm_LogCleanerModel_batch s m args below meth c H locs 0 0 (MQ below (va_Qi (fun r u => Q r u ∧ xfr sgM h0 u) (xB D d A) A) args s 0 0 A) (F0 m 122 ls [.int s0]) := by
  obtain ⟨hx, hb, hr, hml, hown, htb, hK, hA, hNB, hlocks, hXT⟩ := id C0
  intro  s0 h H locs ls hw hP hS hl
  refine W.widen (k := 0) (n := 0) (Nat.le_of_ble_eq_true rfl) (Nat.le_of_ble_eq_true rfl) ?_
  exact xretI C0 hw hP hS d_LogCleanerModel_batch_122

set_option maxHeartbeats 4000000 in
set_option maxRecDepth 100000 in
theorem sb_LogCleanerModel_batch_27 {p : Program} {l : Launch} {e : Env} {s : State} {m : MethodId} {args : Array Value} {below : List Frame} {meth : Method} {c : Code} {D : va_G} {d : Nat → ClassId} {A : Nat → Prop} {h0 : xw} {Q : Int32 → xw → Prop} (C0 : xctx p s m args meth c b_LogCleanerModel_batch 3 (some .int) R_LogCleanerModel D d A True) : ∀ (x0 : Nat) (x1 : Int32) (x2 : Int32) (s0 : Int32) (s1 : Nat) (h : xw) (H : Heap) (locs : List Loc) (ls : Array Slot), wb_LogCleanerModel_batch_27 d Q x0 x1 x2 s0 s1 h → xR sgM h0 D A h H → va_S A s.heap H locs → lv_has ls 3 [(0, .ref x0), (1, .int x1), (2, .int x2)] → W p l e rm_LogCleanerModel_batch s m args below meth c H locs 0 0 (MQ below (va_Qi (fun r u => Q r u ∧ xfr sgM h0 u) (xB D d A) A) args s 0 0 A) (F0 m 27 ls [.int s0, .ref s1]) := by
  obtain ⟨hx, hb, hr, hml, hown, htb, hK, hA, hNB, hlocks, hXT⟩ := id C0
  intro x0 x1 x2 s0 s1 h H locs ls hw hP hS hl
  refine xputI hx hb htb i_LogCleanerModel t_LogCleanerModel t_LogCleanerModel_ok n_LogCleanerModel hown hK hP hS (ci := 4) rfl (fun _ => rfl) 0 (by decide) (htb _ k_LogCleanerModel_66) (fun _ h9 => h9) rfl (by decide +kernel) hw d_LogCleanerModel_batch_27 (fun h1 H locs hw hP hS => ?_)
  refine lv_aload_n hx hb d_LogCleanerModel_batch_30 rfl (lv_at hl 0 rfl) ?_
  refine xgetI hx hb htb i_LogCleanerModel hown hK hP (ci := 4) rfl 0 (by decide) (htb _ k_LogCleanerModel_66) (fun _ h9 => h9) hw d_LogCleanerModel_batch_31 (fun v2 hw => ?_)
  refine lv_if_le (tgt := 39) hx hb d_LogCleanerModel_batch_34 (by decide) (fun cq => ?_) (fun cq => ?_)
  · replace hw := hw.1 cq
    refine lv_iload_n hx hb d_LogCleanerModel_batch_39 rfl (lv_at hl 2 rfl) ?_
    by_cases cq : x2.toInt < 0 ∨ 4 < x2.toInt
    · replace hw := hw.2.2.2.2.2 cq
      refine lv_tableOut (tgt := 109) hx hb d_LogCleanerModel_batch_40 cq (by decide) ?_
      refine lv_aload_n hx hb d_LogCleanerModel_batch_109 rfl (lv_at hl 0 rfl) ?_
      refine lv_iload_n hx hb d_LogCleanerModel_batch_110 rfl (lv_at hl 1 rfl) ?_
      obtain ⟨⟨_, hw0⟩, hw⟩ := hw
      refine xcalli (va_runV (b := x0) (As := [.int x1]) (rest := []) ⟨hx, hb, hml, hown, htb⟩ (m_LogCleanerModel_isKnown l D d h1 _ x0 x1 _ hw) (xcwV 1 htb g_code_LogCleanerModel_isKnown g_ini_LogCleanerModel k_LogCleanerModel_100 g_im_LogCleanerModel_isKnown g_sel_LogCleanerModel_isKnown rfl rfl (by decide +kernel) ⟨(Nat.le_of_ble_eq_true rfl), (Nat.le_of_ble_eq_true rfl)⟩) (xpreV hP hK hNB (ci := 4) rfl hw0) rfl rfl hl.1 rfl (lv_room (Nat.le_of_ble_eq_true rfl)) d_LogCleanerModel_batch_111 ⟨(Nat.le_of_ble_eq_true rfl), (Nat.le_of_ble_eq_true rfl)⟩) hP hS hA (fun r17 h16 H locs hw hP hS => ?_)
      refine W.widen (k := 0) (n := 0) (Nat.le_of_ble_eq_true rfl) (Nat.le_of_ble_eq_true rfl) ?_
      refine lv_if_eq (tgt := 121) hx hb d_LogCleanerModel_batch_114 (by decide) (fun cq => ?_) (fun cq => ?_)
      · replace hw := hw.1 cq
        refine lv_iconst (v := 0) hx hb d_LogCleanerModel_batch_121 (by decide) ?_
        exact sb_LogCleanerModel_batch_122 C0 0 h16 _ _ _ hw hP hS (lv_sub hl [] rfl)
      · replace hw := hw.2 cq
        refine lv_iconst (v := 1) hx hb d_LogCleanerModel_batch_117 (by decide) ?_
        refine lv_goto (tgt := 122) hx hb d_LogCleanerModel_batch_118 (by decide) ?_
        exact sb_LogCleanerModel_batch_122 C0 1 h16 _ _ _ hw hP hS (lv_sub hl [] rfl)
    · have cz : x2 = 0 ∨ x2 = 1 ∨ x2 = 2 ∨ x2 = 3 ∨ x2 = 4 := by
        have cz : x2.toInt = 0 ∨ x2.toInt = 1 ∨ x2.toInt = 2 ∨ x2.toInt = 3 ∨ x2.toInt = 4 := by omega
        rcases cz with cz | cz | cz | cz | cz
        · exact Or.inl (xsw cz rfl)
        · exact Or.inr (Or.inl (xsw cz rfl))
        · exact Or.inr (Or.inr (Or.inl (xsw cz rfl)))
        · exact Or.inr (Or.inr (Or.inr (Or.inl (xsw cz rfl))))
        · exact Or.inr (Or.inr (Or.inr (Or.inr (xsw cz rfl))))
      rcases cz with cz | cz | cz | cz | cz
      · replace hw := hw.1 cz
        refine lv_tableIn (tgt := 76) hx hb d_LogCleanerModel_batch_40 (by rw [cz]; decide) (by rw [cz]; decide) (by rw [cz]; rfl) (by decide) ?_
        refine lv_aload_n hx hb d_LogCleanerModel_batch_76 rfl (lv_at hl 0 rfl) ?_
        refine xgetA hx hb htb i_LogCleanerModel hown hK hP (ci := 4) rfl 17 (by decide) (htb _ k_LogCleanerModel_48) (fun _ h9 => h9) hw d_LogCleanerModel_batch_77 (fun r3 hw => ?_)
        refine lv_iload_n hx hb d_LogCleanerModel_batch_80 rfl (lv_at hl 1 rfl) ?_
        obtain ⟨p4, hpe, hw⟩ := hw
        revert hw
        revert hl
        subst hpe
        intro hl hw
        replace hl : lv_has ls 3 [(0, .ref x0), (1, .int x1), (2, .int x2)] := hl
        refine xldi hx hb hK hP 2 rfl hw d_LogCleanerModel_batch_81 (fun v5 hw => ?_)
        refine W.widen (k := 0) (n := 0) (Nat.le_of_ble_eq_true rfl) (Nat.le_of_ble_eq_true rfl) ?_
        exact xretI C0 hw hP hS d_LogCleanerModel_batch_82
      · replace hw := hw.2.1 cz
        refine lv_tableIn (tgt := 83) hx hb d_LogCleanerModel_batch_40 (by rw [cz]; decide) (by rw [cz]; decide) (by rw [cz]; rfl) (by decide) ?_
        refine lv_aload_n hx hb d_LogCleanerModel_batch_83 rfl (lv_at hl 0 rfl) ?_
        refine lv_iload_n hx hb d_LogCleanerModel_batch_84 rfl (lv_at hl 1 rfl) ?_
        obtain ⟨⟨_, hw0⟩, hw⟩ := hw
        refine xcalli (va_runV (b := x0) (As := [.int x1]) (rest := []) ⟨hx, hb, hml, hown, htb⟩ (m_LogCleanerModel_countOf l D d h1 _ x0 x1 _ hw) (xcwV 1 htb g_code_LogCleanerModel_countOf g_ini_LogCleanerModel k_LogCleanerModel_110 g_im_LogCleanerModel_countOf g_sel_LogCleanerModel_countOf rfl rfl (by decide +kernel) ⟨(Nat.le_of_ble_eq_true rfl), (Nat.le_of_ble_eq_true rfl)⟩) (xpreV hP hK hNB (ci := 4) rfl hw0) rfl rfl hl.1 rfl (lv_room (Nat.le_of_ble_eq_true rfl)) d_LogCleanerModel_batch_85 ⟨(Nat.le_of_ble_eq_true rfl), (Nat.le_of_ble_eq_true rfl)⟩) hP hS hA (fun r7 h6 H locs hw hP hS => ?_)
        refine W.widen (k := 0) (n := 0) (Nat.le_of_ble_eq_true rfl) (Nat.le_of_ble_eq_true rfl) ?_
        refine W.widen (k := 0) (n := 0) (Nat.le_of_ble_eq_true rfl) (Nat.le_of_ble_eq_true rfl) ?_
        exact xretI C0 hw hP hS d_LogCleanerModel_batch_88
      · replace hw := hw.2.2.1 cz
        refine lv_tableIn (tgt := 89) hx hb d_LogCleanerModel_batch_40 (by rw [cz]; decide) (by rw [cz]; decide) (by rw [cz]; rfl) (by decide) ?_
        refine lv_aload_n hx hb d_LogCleanerModel_batch_89 rfl (lv_at hl 0 rfl) ?_
        refine xgetA hx hb htb i_LogCleanerModel hown hK hP (ci := 4) rfl 18 (by decide) (htb _ k_LogCleanerModel_51) (fun _ h9 => h9) hw d_LogCleanerModel_batch_90 (fun r8 hw => ?_)
        refine lv_iload_n hx hb d_LogCleanerModel_batch_93 rfl (lv_at hl 1 rfl) ?_
        obtain ⟨p9, hpe, hw⟩ := hw
        revert hw
        revert hl
        subst hpe
        intro hl hw
        replace hl : lv_has ls 3 [(0, .ref x0), (1, .int x1), (2, .int x2)] := hl
        refine xldi hx hb hK hP 2 rfl hw d_LogCleanerModel_batch_94 (fun v10 hw => ?_)
        refine W.widen (k := 0) (n := 0) (Nat.le_of_ble_eq_true rfl) (Nat.le_of_ble_eq_true rfl) ?_
        exact xretI C0 hw hP hS d_LogCleanerModel_batch_95
      · replace hw := hw.2.2.2.1 cz
        refine lv_tableIn (tgt := 96) hx hb d_LogCleanerModel_batch_40 (by rw [cz]; decide) (by rw [cz]; decide) (by rw [cz]; rfl) (by decide) ?_
        refine lv_aload_n hx hb d_LogCleanerModel_batch_96 rfl (lv_at hl 0 rfl) ?_
        refine lv_iload_n hx hb d_LogCleanerModel_batch_97 rfl (lv_at hl 1 rfl) ?_
        obtain ⟨⟨_, hw0⟩, hw⟩ := hw
        refine xcalli (va_runV (b := x0) (As := [.int x1]) (rest := []) ⟨hx, hb, hml, hown, htb⟩ (m_LogCleanerModel_sizeOf l D d h1 _ x0 x1 _ hw) (xcwV 1 htb g_code_LogCleanerModel_sizeOf g_ini_LogCleanerModel k_LogCleanerModel_88 g_im_LogCleanerModel_sizeOf g_sel_LogCleanerModel_sizeOf rfl rfl (by decide +kernel) ⟨(Nat.le_of_ble_eq_true rfl), (Nat.le_of_ble_eq_true rfl)⟩) (xpreV hP hK hNB (ci := 4) rfl hw0) rfl rfl hl.1 rfl (lv_room (Nat.le_of_ble_eq_true rfl)) d_LogCleanerModel_batch_98 ⟨(Nat.le_of_ble_eq_true rfl), (Nat.le_of_ble_eq_true rfl)⟩) hP hS hA (fun r12 h11 H locs hw hP hS => ?_)
        refine W.widen (k := 0) (n := 0) (Nat.le_of_ble_eq_true rfl) (Nat.le_of_ble_eq_true rfl) ?_
        refine W.widen (k := 0) (n := 0) (Nat.le_of_ble_eq_true rfl) (Nat.le_of_ble_eq_true rfl) ?_
        exact xretI C0 hw hP hS d_LogCleanerModel_batch_101
      · replace hw := hw.2.2.2.2.1 cz
        refine lv_tableIn (tgt := 102) hx hb d_LogCleanerModel_batch_40 (by rw [cz]; decide) (by rw [cz]; decide) (by rw [cz]; rfl) (by decide) ?_
        refine lv_aload_n hx hb d_LogCleanerModel_batch_102 rfl (lv_at hl 0 rfl) ?_
        refine xgetA hx hb htb i_LogCleanerModel hown hK hP (ci := 4) rfl 19 (by decide) (htb _ k_LogCleanerModel_54) (fun _ h9 => h9) hw d_LogCleanerModel_batch_103 (fun r13 hw => ?_)
        refine lv_iload_n hx hb d_LogCleanerModel_batch_106 rfl (lv_at hl 1 rfl) ?_
        obtain ⟨p14, hpe, hw⟩ := hw
        revert hw
        revert hl
        subst hpe
        intro hl hw
        replace hl : lv_has ls 3 [(0, .ref x0), (1, .int x1), (2, .int x2)] := hl
        refine xldi hx hb hK hP 2 rfl hw d_LogCleanerModel_batch_107 (fun v15 hw => ?_)
        refine W.widen (k := 0) (n := 0) (Nat.le_of_ble_eq_true rfl) (Nat.le_of_ble_eq_true rfl) ?_
        exact xretI C0 hw hP hS d_LogCleanerModel_batch_108
  · replace hw := hw.2 cq
    refine lv_iconst (v := 0) hx hb d_LogCleanerModel_batch_37 (by decide) ?_
    refine W.widen (k := 0) (n := 0) (Nat.le_of_ble_eq_true rfl) (Nat.le_of_ble_eq_true rfl) ?_
    exact xretI C0 hw hP hS d_LogCleanerModel_batch_38

set_option maxHeartbeats 4000000 in
set_option maxRecDepth 100000 in
theorem sb_LogCleanerModel_batch_22 {p : Program} {l : Launch} {e : Env} {s : State} {m : MethodId} {args : Array Value} {below : List Frame} {meth : Method} {c : Code} {D : va_G} {d : Nat → ClassId} {A : Nat → Prop} {h0 : xw} {Q : Int32 → xw → Prop} (C0 : xctx p s m args meth c b_LogCleanerModel_batch 3 (some .int) R_LogCleanerModel D d A True) : ∀ (x0 : Nat) (x1 : Int32) (x2 : Int32) (s0 : Nat) (h : xw) (H : Heap) (locs : List Loc) (ls : Array Slot), wb_LogCleanerModel_batch_22 d Q x0 x1 x2 s0 h → xR sgM h0 D A h H → va_S A s.heap H locs → lv_has ls 3 [(0, .ref x0), (1, .int x1), (2, .int x2)] → W p l e rm_LogCleanerModel_batch s m args below meth c H locs 0 0 (MQ below (va_Qi (fun r u => Q r u ∧ xfr sgM h0 u) (xB D d A) A) args s 0 0 A) (F0 m 22 ls [.ref s0]) := by
  obtain ⟨hx, hb, hr, hml, hown, htb, hK, hA, hNB, hlocks, hXT⟩ := id C0
  intro x0 x1 x2 s0 h H locs ls hw hP hS hl
  refine lv_iconst (v := 1) hx hb d_LogCleanerModel_batch_22 (by decide) ?_
  refine lv_goto (tgt := 27) hx hb d_LogCleanerModel_batch_23 (by decide) ?_
  exact sb_LogCleanerModel_batch_27 C0 x0 x1 x2 1 s0 h _ _ _ hw hP hS (lv_sub hl [0, 1, 2] rfl)

set_option maxHeartbeats 4000000 in
set_option maxRecDepth 100000 in
theorem m_LogCleanerModel_batch (l : Launch) (D : va_G) (d : Nat → ClassId) (h : xw) (sz : Nat) (a0 : Nat) (a1 : Int32) (a2 : Int32) (Q : Int32 → xw → Prop) (hw : wp_LogCleanerModel_batch d h a0 a1 a2 Q) : Met l y_LogCleanerModel_batch ws_LogCleanerModel_batch rm_LogCleanerModel_batch (xPre D d h [.ref a0, .int a1, .int a2] sz) (va_Qi (fun r u => Q r u ∧ xfr sgM h u) (xB D d (xA h sz)) (xA h sz)) 0 0 (xA h sz) := by
  refine Met.ofW (cc := b_LogCleanerModel_batch) (maxL := 3) (ret := (some .int)) (by decide) rfl ?_
  intro p e s m args below meth c s₁ B hml hv
  obtain ⟨rfl, hsz, hP0, hK, hNB⟩ := hv
  have hts := atoms_spec (ws := ws_LogCleanerModel_batch) B.pre
  have htb := fun w (hw9 : w ∈ TB) => hts w (List.mem_cons_of_mem _ hw9)
  have hown : s.vm.findClass R_LogCleanerModel = some m.cls := findClass_of_methodNamed B.named
  subst hsz
  obtain ⟨A, hAe⟩ : ∃ A, A = xA h s.heap.size := ⟨_, rfl⟩
  rw [← hAe]
  have hP : xR sgM h D A h s.heap := ⟨by rw [hAe]; exact hP0.self, xfr.rf⟩
  have hA : ∀ q, s.heap.size ≤ q → A q := fun q hq => by rw [hAe]; exact Or.inr hq
  have hS : va_S A s.heap s.heap [] := va_S.rf
  have C0 : xctx p s m ([.ref a0, .int a1, .int a2] : List Value).toArray meth c b_LogCleanerModel_batch 3 (some .int) R_LogCleanerModel D d A True := ⟨B.exec, B.bytes, B.returns, hml, hown, htb, hK, hA, hNB, B.notSynchronized, trivial⟩
  obtain ⟨hx, hb, hr, -, -, -, -, -, -, hlocks, hXT⟩ := id C0
  have hl := lv_entry ([.ref a0, .int a1, .int a2] : List Value) (n := 3) (Nat.le_of_ble_eq_true rfl)
  rw [lg_entry_eq]
  generalize (lg_sl ([.ref a0, .int a1, .int a2] : List Value) ++ List.replicate (3 - (lg_sl ([.ref a0, .int a1, .int a2] : List Value)).length) Slot.unset).toArray = ls at hl ⊢
  have hl : lv_has ls 3 [(0, .ref a0), (1, .int a1), (2, .int a2)] := hl
  refine lv_aload_n hx hb d_LogCleanerModel_batch_0 rfl (lv_at hl 0 rfl) ?_
  refine lv_iload_n hx hb d_LogCleanerModel_batch_1 rfl (lv_at hl 1 rfl) ?_
  refine lv_if_lt (tgt := 22) hx hb d_LogCleanerModel_batch_2 (by decide) (fun cq => ?_) (fun cq => ?_)
  · replace hw := hw.1 cq
    exact sb_LogCleanerModel_batch_22 C0 a0 a1 a2 a0 h _ _ _ hw hP hS (lv_sub hl [0, 1, 2] rfl)
  · replace hw := hw.2 cq
    refine lv_iload_n hx hb d_LogCleanerModel_batch_5 rfl (lv_at hl 1 rfl) ?_
    refine lv_aload_n hx hb d_LogCleanerModel_batch_6 rfl (lv_at hl 0 rfl) ?_
    refine xgetI hx hb htb i_LogCleanerModel hown hK hP (ci := 4) rfl 16 (by decide) (htb _ k_LogCleanerModel_82) (fun _ h9 => h9) hw d_LogCleanerModel_batch_7 (fun v18 hw => ?_)
    refine lv_icmp_ge (tgt := 22) hx hb d_LogCleanerModel_batch_10 (by decide) (fun cq => ?_) (fun cq => ?_)
    · replace hw := hw.1 cq
      exact sb_LogCleanerModel_batch_22 C0 a0 a1 a2 a0 h _ _ _ hw hP hS (lv_sub hl [0, 1, 2] rfl)
    · replace hw := hw.2 cq
      refine lv_iload_n hx hb d_LogCleanerModel_batch_13 rfl (lv_at hl 2 rfl) ?_
      refine lv_if_lt (tgt := 22) hx hb d_LogCleanerModel_batch_14 (by decide) (fun cq => ?_) (fun cq => ?_)
      · replace hw := hw.1 cq
        exact sb_LogCleanerModel_batch_22 C0 a0 a1 a2 a0 h _ _ _ hw hP hS (lv_sub hl [0, 1, 2] rfl)
      · replace hw := hw.2 cq
        refine lv_iload_n hx hb d_LogCleanerModel_batch_17 rfl (lv_at hl 2 rfl) ?_
        refine lv_iconst (v := 5) hx hb d_LogCleanerModel_batch_18 (by decide) ?_
        refine lv_icmp_le (tgt := 26) hx hb d_LogCleanerModel_batch_19 (by decide) (fun cq => ?_) (fun cq => ?_)
        · replace hw := hw.1 cq
          refine lv_iconst (v := 0) hx hb d_LogCleanerModel_batch_26 (by decide) ?_
          exact sb_LogCleanerModel_batch_27 C0 a0 a1 a2 0 a0 h _ _ _ hw hP hS (lv_sub hl [0, 1, 2] rfl)
        · replace hw := hw.2 cq
          exact sb_LogCleanerModel_batch_22 C0 a0 a1 a2 a0 h _ _ _ hw hP hS (lv_sub hl [0, 1, 2] rfl)

theorem d_LogCleanerModel_told_0 : decode b_LogCleanerModel_told 0 = .ok (.aload_n 0, 1) := by decide +kernel
theorem d_LogCleanerModel_told_1 : decode b_LogCleanerModel_told 1 = .ok (.iload_n 1, 1) := by decide +kernel
theorem d_LogCleanerModel_told_2 : decode b_LogCleanerModel_told 2 = .ok (.ifCond .lt 20, 3) := by decide +kernel
theorem d_LogCleanerModel_told_5 : decode b_LogCleanerModel_told 5 = .ok (.iload_n 1, 1) := by decide +kernel
theorem d_LogCleanerModel_told_6 : decode b_LogCleanerModel_told 6 = .ok (.aload_n 0, 1) := by decide +kernel
theorem d_LogCleanerModel_told_7 : decode b_LogCleanerModel_told 7 = .ok (.getfield 75, 3) := by decide +kernel
theorem d_LogCleanerModel_told_10 : decode b_LogCleanerModel_told 10 = .ok (.if_icmp .ge 12, 3) := by decide +kernel
theorem d_LogCleanerModel_told_13 : decode b_LogCleanerModel_told 13 = .ok (.iload_n 2, 1) := by decide +kernel
theorem d_LogCleanerModel_told_14 : decode b_LogCleanerModel_told 14 = .ok (.ifCond .lt 8, 3) := by decide +kernel
theorem d_LogCleanerModel_told_17 : decode b_LogCleanerModel_told 17 = .ok (.iload_n 2, 1) := by decide +kernel
theorem d_LogCleanerModel_told_18 : decode b_LogCleanerModel_told 18 = .ok (.iconst 5, 1) := by decide +kernel
theorem d_LogCleanerModel_told_19 : decode b_LogCleanerModel_told 19 = .ok (.if_icmp .le 7, 3) := by decide +kernel
theorem d_LogCleanerModel_told_22 : decode b_LogCleanerModel_told 22 = .ok (.iconst 1, 1) := by decide +kernel
theorem d_LogCleanerModel_told_23 : decode b_LogCleanerModel_told 23 = .ok (.goto 4, 3) := by decide +kernel
theorem d_LogCleanerModel_told_26 : decode b_LogCleanerModel_told 26 = .ok (.iconst 0, 1) := by decide +kernel
theorem d_LogCleanerModel_told_27 : decode b_LogCleanerModel_told 27 = .ok (.putfield 66, 3) := by decide +kernel
theorem d_LogCleanerModel_told_30 : decode b_LogCleanerModel_told 30 = .ok (.aload_n 0, 1) := by decide +kernel
theorem d_LogCleanerModel_told_31 : decode b_LogCleanerModel_told 31 = .ok (.getfield 66, 3) := by decide +kernel
theorem d_LogCleanerModel_told_34 : decode b_LogCleanerModel_told 34 = .ok (.ifCond .le 5, 3) := by decide +kernel
theorem d_LogCleanerModel_told_37 : decode b_LogCleanerModel_told 37 = .ok (.lconst 0, 1) := by decide +kernel
theorem d_LogCleanerModel_told_38 : decode b_LogCleanerModel_told 38 = .ok (.lreturn, 1) := by decide +kernel
theorem d_LogCleanerModel_told_39 : decode b_LogCleanerModel_told 39 = .ok (.iload_n 2, 1) := by decide +kernel
theorem d_LogCleanerModel_told_40 : decode b_LogCleanerModel_told 40 = .ok (.tableswitch 81 0 4 #[36, 44, 52, 59, 66], 36) := by decide +kernel
theorem d_LogCleanerModel_told_76 : decode b_LogCleanerModel_told 76 = .ok (.aload_n 0, 1) := by decide +kernel
theorem d_LogCleanerModel_told_77 : decode b_LogCleanerModel_told 77 = .ok (.getfield 13, 3) := by decide +kernel
theorem d_LogCleanerModel_told_80 : decode b_LogCleanerModel_told 80 = .ok (.iload_n 1, 1) := by decide +kernel
theorem d_LogCleanerModel_told_81 : decode b_LogCleanerModel_told 81 = .ok (.iaload, 1) := by decide +kernel
theorem d_LogCleanerModel_told_82 : decode b_LogCleanerModel_told 82 = .ok (.i2l, 1) := by decide +kernel
theorem d_LogCleanerModel_told_83 : decode b_LogCleanerModel_told 83 = .ok (.lreturn, 1) := by decide +kernel
theorem d_LogCleanerModel_told_84 : decode b_LogCleanerModel_told 84 = .ok (.aload_n 0, 1) := by decide +kernel
theorem d_LogCleanerModel_told_85 : decode b_LogCleanerModel_told 85 = .ok (.getfield 20, 3) := by decide +kernel
theorem d_LogCleanerModel_told_88 : decode b_LogCleanerModel_told 88 = .ok (.iload_n 1, 1) := by decide +kernel
theorem d_LogCleanerModel_told_89 : decode b_LogCleanerModel_told 89 = .ok (.iaload, 1) := by decide +kernel
theorem d_LogCleanerModel_told_90 : decode b_LogCleanerModel_told 90 = .ok (.i2l, 1) := by decide +kernel
theorem d_LogCleanerModel_told_91 : decode b_LogCleanerModel_told 91 = .ok (.lreturn, 1) := by decide +kernel
theorem d_LogCleanerModel_told_92 : decode b_LogCleanerModel_told 92 = .ok (.aload_n 0, 1) := by decide +kernel
theorem d_LogCleanerModel_told_93 : decode b_LogCleanerModel_told 93 = .ok (.getfield 16, 3) := by decide +kernel
theorem d_LogCleanerModel_told_96 : decode b_LogCleanerModel_told 96 = .ok (.iload_n 1, 1) := by decide +kernel
theorem d_LogCleanerModel_told_97 : decode b_LogCleanerModel_told 97 = .ok (.laload, 1) := by decide +kernel
theorem d_LogCleanerModel_told_98 : decode b_LogCleanerModel_told 98 = .ok (.lreturn, 1) := by decide +kernel
theorem d_LogCleanerModel_told_99 : decode b_LogCleanerModel_told 99 = .ok (.aload_n 0, 1) := by decide +kernel
theorem d_LogCleanerModel_told_100 : decode b_LogCleanerModel_told 100 = .ok (.getfield 27, 3) := by decide +kernel
theorem d_LogCleanerModel_told_103 : decode b_LogCleanerModel_told 103 = .ok (.iload_n 1, 1) := by decide +kernel
theorem d_LogCleanerModel_told_104 : decode b_LogCleanerModel_told 104 = .ok (.laload, 1) := by decide +kernel
theorem d_LogCleanerModel_told_105 : decode b_LogCleanerModel_told 105 = .ok (.lreturn, 1) := by decide +kernel
theorem d_LogCleanerModel_told_106 : decode b_LogCleanerModel_told 106 = .ok (.aload_n 0, 1) := by decide +kernel
theorem d_LogCleanerModel_told_107 : decode b_LogCleanerModel_told 107 = .ok (.getfield 23, 3) := by decide +kernel
theorem d_LogCleanerModel_told_110 : decode b_LogCleanerModel_told 110 = .ok (.iload_n 1, 1) := by decide +kernel
theorem d_LogCleanerModel_told_111 : decode b_LogCleanerModel_told 111 = .ok (.baload, 1) := by decide +kernel
theorem d_LogCleanerModel_told_112 : decode b_LogCleanerModel_told 112 = .ok (.ifCond .eq 7, 3) := by decide +kernel
theorem d_LogCleanerModel_told_115 : decode b_LogCleanerModel_told 115 = .ok (.lconst 1, 1) := by decide +kernel
theorem d_LogCleanerModel_told_116 : decode b_LogCleanerModel_told 116 = .ok (.goto 4, 3) := by decide +kernel
theorem d_LogCleanerModel_told_119 : decode b_LogCleanerModel_told 119 = .ok (.lconst 0, 1) := by decide +kernel
theorem d_LogCleanerModel_told_120 : decode b_LogCleanerModel_told 120 = .ok (.lreturn, 1) := by decide +kernel
theorem d_LogCleanerModel_told_121 : decode b_LogCleanerModel_told 121 = .ok (.aload_n 0, 1) := by decide +kernel
theorem d_LogCleanerModel_told_122 : decode b_LogCleanerModel_told 122 = .ok (.getfield 30, 3) := by decide +kernel
theorem d_LogCleanerModel_told_125 : decode b_LogCleanerModel_told 125 = .ok (.iload_n 1, 1) := by decide +kernel
theorem d_LogCleanerModel_told_126 : decode b_LogCleanerModel_told 126 = .ok (.iaload, 1) := by decide +kernel
theorem d_LogCleanerModel_told_127 : decode b_LogCleanerModel_told 127 = .ok (.i2l, 1) := by decide +kernel
theorem d_LogCleanerModel_told_128 : decode b_LogCleanerModel_told 128 = .ok (.lreturn, 1) := by decide +kernel
def rm_LogCleanerModel_told : Room := { frames := 0, cells := 0, slots := 0, locals := 0 }
def ws_LogCleanerModel_told : List Cond := Cond.code y_LogCleanerModel_told b_LogCleanerModel_told 3 (some .long) :: TB
set_option maxHeartbeats 4000000 in
set_option maxRecDepth 100000 in
theorem sb_LogCleanerModel_told_120 {p : Program} {l : Launch} {e : Env} {s : State} {m : MethodId} {args : Array Value} {below : List Frame} {meth : Method} {c : Code} {D : va_G} {d : Nat → ClassId} {A : Nat → Prop} {h0 : xw} {Q : Int64 → xw → Prop} (C0 : xctx p s m args meth c b_LogCleanerModel_told 3 (some .long) R_LogCleanerModel D d A True) : ∀ (s0 : Int64) (h : xw) (H : Heap) (locs : List Loc) (ls : Array Slot), wb_LogCleanerModel_told_120 d Q  s0 h → xR sgM h0 D A h H → va_S A s.heap H locs → lv_has ls 3 [] → W p l e rm_LogCleanerModel_told s m args below meth c H locs 0 0 (MQ below (va_Ql (fun r u => Q r u ∧ xfr sgM h0 u) (xB D d A) A) args s 0 0 A) (F0 m 120 ls [.long s0]) := by
  obtain ⟨hx, hb, hr, hml, hown, htb, hK, hA, hNB, hlocks, hXT⟩ := id C0
  intro  s0 h H locs ls hw hP hS hl
  refine W.widen (k := 0) (n := 0) (Nat.le_of_ble_eq_true rfl) (Nat.le_of_ble_eq_true rfl) ?_
  exact xretL C0 hw hP hS d_LogCleanerModel_told_120

set_option maxHeartbeats 4000000 in
set_option maxRecDepth 100000 in
theorem sb_LogCleanerModel_told_27 {p : Program} {l : Launch} {e : Env} {s : State} {m : MethodId} {args : Array Value} {below : List Frame} {meth : Method} {c : Code} {D : va_G} {d : Nat → ClassId} {A : Nat → Prop} {h0 : xw} {Q : Int64 → xw → Prop} (C0 : xctx p s m args meth c b_LogCleanerModel_told 3 (some .long) R_LogCleanerModel D d A True) : ∀ (x0 : Nat) (x1 : Int32) (x2 : Int32) (s0 : Int32) (s1 : Nat) (h : xw) (H : Heap) (locs : List Loc) (ls : Array Slot), wb_LogCleanerModel_told_27 d Q x0 x1 x2 s0 s1 h → xR sgM h0 D A h H → va_S A s.heap H locs → lv_has ls 3 [(0, .ref x0), (1, .int x1), (2, .int x2)] → W p l e rm_LogCleanerModel_told s m args below meth c H locs 0 0 (MQ below (va_Ql (fun r u => Q r u ∧ xfr sgM h0 u) (xB D d A) A) args s 0 0 A) (F0 m 27 ls [.int s0, .ref s1]) := by
  obtain ⟨hx, hb, hr, hml, hown, htb, hK, hA, hNB, hlocks, hXT⟩ := id C0
  intro x0 x1 x2 s0 s1 h H locs ls hw hP hS hl
  refine xputI hx hb htb i_LogCleanerModel t_LogCleanerModel t_LogCleanerModel_ok n_LogCleanerModel hown hK hP hS (ci := 4) rfl (fun _ => rfl) 0 (by decide) (htb _ k_LogCleanerModel_66) (fun _ h9 => h9) rfl (by decide +kernel) hw d_LogCleanerModel_told_27 (fun h1 H locs hw hP hS => ?_)
  refine lv_aload_n hx hb d_LogCleanerModel_told_30 rfl (lv_at hl 0 rfl) ?_
  refine xgetI hx hb htb i_LogCleanerModel hown hK hP (ci := 4) rfl 0 (by decide) (htb _ k_LogCleanerModel_66) (fun _ h9 => h9) hw d_LogCleanerModel_told_31 (fun v2 hw => ?_)
  refine lv_if_le (tgt := 39) hx hb d_LogCleanerModel_told_34 (by decide) (fun cq => ?_) (fun cq => ?_)
  · replace hw := hw.1 cq
    refine lv_iload_n hx hb d_LogCleanerModel_told_39 rfl (lv_at hl 2 rfl) ?_
    by_cases cq : x2.toInt < 0 ∨ 4 < x2.toInt
    · replace hw := hw.2.2.2.2.2 cq
      refine lv_tableOut (tgt := 121) hx hb d_LogCleanerModel_told_40 cq (by decide) ?_
      refine lv_aload_n hx hb d_LogCleanerModel_told_121 rfl (lv_at hl 0 rfl) ?_
      refine xgetA hx hb htb i_LogCleanerModel hown hK hP (ci := 4) rfl 8 (by decide) (htb _ k_LogCleanerModel_30) (fun _ h9 => h9) hw d_LogCleanerModel_told_122 (fun r18 hw => ?_)
      refine lv_iload_n hx hb d_LogCleanerModel_told_125 rfl (lv_at hl 1 rfl) ?_
      obtain ⟨p19, hpe, hw⟩ := hw
      revert hw
      revert hl
      subst hpe
      intro hl hw
      replace hl : lv_has ls 3 [(0, .ref x0), (1, .int x1), (2, .int x2)] := hl
      refine xldi hx hb hK hP 2 rfl hw d_LogCleanerModel_told_126 (fun v20 hw => ?_)
      refine lv_i2l (v := v20.toInt64) hx hb d_LogCleanerModel_told_127 rfl ?_
      refine W.widen (k := 0) (n := 0) (Nat.le_of_ble_eq_true rfl) (Nat.le_of_ble_eq_true rfl) ?_
      exact xretL C0 hw hP hS d_LogCleanerModel_told_128
    · have cz : x2 = 0 ∨ x2 = 1 ∨ x2 = 2 ∨ x2 = 3 ∨ x2 = 4 := by
        have cz : x2.toInt = 0 ∨ x2.toInt = 1 ∨ x2.toInt = 2 ∨ x2.toInt = 3 ∨ x2.toInt = 4 := by omega
        rcases cz with cz | cz | cz | cz | cz
        · exact Or.inl (xsw cz rfl)
        · exact Or.inr (Or.inl (xsw cz rfl))
        · exact Or.inr (Or.inr (Or.inl (xsw cz rfl)))
        · exact Or.inr (Or.inr (Or.inr (Or.inl (xsw cz rfl))))
        · exact Or.inr (Or.inr (Or.inr (Or.inr (xsw cz rfl))))
      rcases cz with cz | cz | cz | cz | cz
      · replace hw := hw.1 cz
        refine lv_tableIn (tgt := 76) hx hb d_LogCleanerModel_told_40 (by rw [cz]; decide) (by rw [cz]; decide) (by rw [cz]; rfl) (by decide) ?_
        refine lv_aload_n hx hb d_LogCleanerModel_told_76 rfl (lv_at hl 0 rfl) ?_
        refine xgetA hx hb htb i_LogCleanerModel hown hK hP (ci := 4) rfl 3 (by decide) (htb _ k_LogCleanerModel_13) (fun _ h9 => h9) hw d_LogCleanerModel_told_77 (fun r3 hw => ?_)
        refine lv_iload_n hx hb d_LogCleanerModel_told_80 rfl (lv_at hl 1 rfl) ?_
        obtain ⟨p4, hpe, hw⟩ := hw
        revert hw
        revert hl
        subst hpe
        intro hl hw
        replace hl : lv_has ls 3 [(0, .ref x0), (1, .int x1), (2, .int x2)] := hl
        refine xldi hx hb hK hP 2 rfl hw d_LogCleanerModel_told_81 (fun v5 hw => ?_)
        refine lv_i2l (v := v5.toInt64) hx hb d_LogCleanerModel_told_82 rfl ?_
        refine W.widen (k := 0) (n := 0) (Nat.le_of_ble_eq_true rfl) (Nat.le_of_ble_eq_true rfl) ?_
        exact xretL C0 hw hP hS d_LogCleanerModel_told_83
      · replace hw := hw.2.1 cz
        refine lv_tableIn (tgt := 84) hx hb d_LogCleanerModel_told_40 (by rw [cz]; decide) (by rw [cz]; decide) (by rw [cz]; rfl) (by decide) ?_
        refine lv_aload_n hx hb d_LogCleanerModel_told_84 rfl (lv_at hl 0 rfl) ?_
        refine xgetA hx hb htb i_LogCleanerModel hown hK hP (ci := 4) rfl 5 (by decide) (htb _ k_LogCleanerModel_20) (fun _ h9 => h9) hw d_LogCleanerModel_told_85 (fun r6 hw => ?_)
        refine lv_iload_n hx hb d_LogCleanerModel_told_88 rfl (lv_at hl 1 rfl) ?_
        obtain ⟨p7, hpe, hw⟩ := hw
        revert hw
        revert hl
        subst hpe
        intro hl hw
        replace hl : lv_has ls 3 [(0, .ref x0), (1, .int x1), (2, .int x2)] := hl
        refine xldi hx hb hK hP 2 rfl hw d_LogCleanerModel_told_89 (fun v8 hw => ?_)
        refine lv_i2l (v := v8.toInt64) hx hb d_LogCleanerModel_told_90 rfl ?_
        refine W.widen (k := 0) (n := 0) (Nat.le_of_ble_eq_true rfl) (Nat.le_of_ble_eq_true rfl) ?_
        exact xretL C0 hw hP hS d_LogCleanerModel_told_91
      · replace hw := hw.2.2.1 cz
        refine lv_tableIn (tgt := 92) hx hb d_LogCleanerModel_told_40 (by rw [cz]; decide) (by rw [cz]; decide) (by rw [cz]; rfl) (by decide) ?_
        refine lv_aload_n hx hb d_LogCleanerModel_told_92 rfl (lv_at hl 0 rfl) ?_
        refine xgetA hx hb htb i_LogCleanerModel hown hK hP (ci := 4) rfl 4 (by decide) (htb _ k_LogCleanerModel_16) (fun _ h9 => h9) hw d_LogCleanerModel_told_93 (fun r9 hw => ?_)
        refine lv_iload_n hx hb d_LogCleanerModel_told_96 rfl (lv_at hl 1 rfl) ?_
        obtain ⟨p10, hpe, hw⟩ := hw
        revert hw
        revert hl
        subst hpe
        intro hl hw
        replace hl : lv_has ls 3 [(0, .ref x0), (1, .int x1), (2, .int x2)] := hl
        refine xldl hx hb hK hP 3 rfl hw d_LogCleanerModel_told_97 (fun v11 hw => ?_)
        refine W.widen (k := 0) (n := 0) (Nat.le_of_ble_eq_true rfl) (Nat.le_of_ble_eq_true rfl) ?_
        exact xretL C0 hw hP hS d_LogCleanerModel_told_98
      · replace hw := hw.2.2.2.1 cz
        refine lv_tableIn (tgt := 99) hx hb d_LogCleanerModel_told_40 (by rw [cz]; decide) (by rw [cz]; decide) (by rw [cz]; rfl) (by decide) ?_
        refine lv_aload_n hx hb d_LogCleanerModel_told_99 rfl (lv_at hl 0 rfl) ?_
        refine xgetA hx hb htb i_LogCleanerModel hown hK hP (ci := 4) rfl 7 (by decide) (htb _ k_LogCleanerModel_27) (fun _ h9 => h9) hw d_LogCleanerModel_told_100 (fun r12 hw => ?_)
        refine lv_iload_n hx hb d_LogCleanerModel_told_103 rfl (lv_at hl 1 rfl) ?_
        obtain ⟨p13, hpe, hw⟩ := hw
        revert hw
        revert hl
        subst hpe
        intro hl hw
        replace hl : lv_has ls 3 [(0, .ref x0), (1, .int x1), (2, .int x2)] := hl
        refine xldl hx hb hK hP 3 rfl hw d_LogCleanerModel_told_104 (fun v14 hw => ?_)
        refine W.widen (k := 0) (n := 0) (Nat.le_of_ble_eq_true rfl) (Nat.le_of_ble_eq_true rfl) ?_
        exact xretL C0 hw hP hS d_LogCleanerModel_told_105
      · replace hw := hw.2.2.2.2.1 cz
        refine lv_tableIn (tgt := 106) hx hb d_LogCleanerModel_told_40 (by rw [cz]; decide) (by rw [cz]; decide) (by rw [cz]; rfl) (by decide) ?_
        refine lv_aload_n hx hb d_LogCleanerModel_told_106 rfl (lv_at hl 0 rfl) ?_
        refine xgetA hx hb htb i_LogCleanerModel hown hK hP (ci := 4) rfl 6 (by decide) (htb _ k_LogCleanerModel_23) (fun _ h9 => h9) hw d_LogCleanerModel_told_107 (fun r15 hw => ?_)
        refine lv_iload_n hx hb d_LogCleanerModel_told_110 rfl (lv_at hl 1 rfl) ?_
        obtain ⟨p16, hpe, hw⟩ := hw
        revert hw
        revert hl
        subst hpe
        intro hl hw
        replace hl : lv_has ls 3 [(0, .ref x0), (1, .int x1), (2, .int x2)] := hl
        refine xldz hx hb hK hP 4 rfl hw d_LogCleanerModel_told_111 (fun v17 hw => ?_)
        refine lv_if_eq (tgt := 119) hx hb d_LogCleanerModel_told_112 (by decide) (fun cq => ?_) (fun cq => ?_)
        · replace hw := hw.1 cq
          refine lv_lconst (v := 0) hx hb d_LogCleanerModel_told_119 (by decide) ?_
          exact sb_LogCleanerModel_told_120 C0 0 h1 _ _ _ hw hP hS (lv_sub hl [] rfl)
        · replace hw := hw.2 cq
          refine lv_lconst (v := 1) hx hb d_LogCleanerModel_told_115 (by decide) ?_
          refine lv_goto (tgt := 120) hx hb d_LogCleanerModel_told_116 (by decide) ?_
          exact sb_LogCleanerModel_told_120 C0 1 h1 _ _ _ hw hP hS (lv_sub hl [] rfl)
  · replace hw := hw.2 cq
    refine lv_lconst (v := 0) hx hb d_LogCleanerModel_told_37 (by decide) ?_
    refine W.widen (k := 0) (n := 0) (Nat.le_of_ble_eq_true rfl) (Nat.le_of_ble_eq_true rfl) ?_
    exact xretL C0 hw hP hS d_LogCleanerModel_told_38

set_option maxHeartbeats 4000000 in
set_option maxRecDepth 100000 in
theorem sb_LogCleanerModel_told_22 {p : Program} {l : Launch} {e : Env} {s : State} {m : MethodId} {args : Array Value} {below : List Frame} {meth : Method} {c : Code} {D : va_G} {d : Nat → ClassId} {A : Nat → Prop} {h0 : xw} {Q : Int64 → xw → Prop} (C0 : xctx p s m args meth c b_LogCleanerModel_told 3 (some .long) R_LogCleanerModel D d A True) : ∀ (x0 : Nat) (x1 : Int32) (x2 : Int32) (s0 : Nat) (h : xw) (H : Heap) (locs : List Loc) (ls : Array Slot), wb_LogCleanerModel_told_22 d Q x0 x1 x2 s0 h → xR sgM h0 D A h H → va_S A s.heap H locs → lv_has ls 3 [(0, .ref x0), (1, .int x1), (2, .int x2)] → W p l e rm_LogCleanerModel_told s m args below meth c H locs 0 0 (MQ below (va_Ql (fun r u => Q r u ∧ xfr sgM h0 u) (xB D d A) A) args s 0 0 A) (F0 m 22 ls [.ref s0]) := by
  obtain ⟨hx, hb, hr, hml, hown, htb, hK, hA, hNB, hlocks, hXT⟩ := id C0
  intro x0 x1 x2 s0 h H locs ls hw hP hS hl
  refine lv_iconst (v := 1) hx hb d_LogCleanerModel_told_22 (by decide) ?_
  refine lv_goto (tgt := 27) hx hb d_LogCleanerModel_told_23 (by decide) ?_
  exact sb_LogCleanerModel_told_27 C0 x0 x1 x2 1 s0 h _ _ _ hw hP hS (lv_sub hl [0, 1, 2] rfl)

set_option maxHeartbeats 4000000 in
set_option maxRecDepth 100000 in
theorem m_LogCleanerModel_told (l : Launch) (D : va_G) (d : Nat → ClassId) (h : xw) (sz : Nat) (a0 : Nat) (a1 : Int32) (a2 : Int32) (Q : Int64 → xw → Prop) (hw : wp_LogCleanerModel_told d h a0 a1 a2 Q) : Met l y_LogCleanerModel_told ws_LogCleanerModel_told rm_LogCleanerModel_told (xPre D d h [.ref a0, .int a1, .int a2] sz) (va_Ql (fun r u => Q r u ∧ xfr sgM h u) (xB D d (xA h sz)) (xA h sz)) 0 0 (xA h sz) := by
  refine Met.ofW (cc := b_LogCleanerModel_told) (maxL := 3) (ret := (some .long)) (by decide) rfl ?_
  intro p e s m args below meth c s₁ B hml hv
  obtain ⟨rfl, hsz, hP0, hK, hNB⟩ := hv
  have hts := atoms_spec (ws := ws_LogCleanerModel_told) B.pre
  have htb := fun w (hw9 : w ∈ TB) => hts w (List.mem_cons_of_mem _ hw9)
  have hown : s.vm.findClass R_LogCleanerModel = some m.cls := findClass_of_methodNamed B.named
  subst hsz
  obtain ⟨A, hAe⟩ : ∃ A, A = xA h s.heap.size := ⟨_, rfl⟩
  rw [← hAe]
  have hP : xR sgM h D A h s.heap := ⟨by rw [hAe]; exact hP0.self, xfr.rf⟩
  have hA : ∀ q, s.heap.size ≤ q → A q := fun q hq => by rw [hAe]; exact Or.inr hq
  have hS : va_S A s.heap s.heap [] := va_S.rf
  have C0 : xctx p s m ([.ref a0, .int a1, .int a2] : List Value).toArray meth c b_LogCleanerModel_told 3 (some .long) R_LogCleanerModel D d A True := ⟨B.exec, B.bytes, B.returns, hml, hown, htb, hK, hA, hNB, B.notSynchronized, trivial⟩
  obtain ⟨hx, hb, hr, -, -, -, -, -, -, hlocks, hXT⟩ := id C0
  have hl := lv_entry ([.ref a0, .int a1, .int a2] : List Value) (n := 3) (Nat.le_of_ble_eq_true rfl)
  rw [lg_entry_eq]
  generalize (lg_sl ([.ref a0, .int a1, .int a2] : List Value) ++ List.replicate (3 - (lg_sl ([.ref a0, .int a1, .int a2] : List Value)).length) Slot.unset).toArray = ls at hl ⊢
  have hl : lv_has ls 3 [(0, .ref a0), (1, .int a1), (2, .int a2)] := hl
  refine lv_aload_n hx hb d_LogCleanerModel_told_0 rfl (lv_at hl 0 rfl) ?_
  refine lv_iload_n hx hb d_LogCleanerModel_told_1 rfl (lv_at hl 1 rfl) ?_
  refine lv_if_lt (tgt := 22) hx hb d_LogCleanerModel_told_2 (by decide) (fun cq => ?_) (fun cq => ?_)
  · replace hw := hw.1 cq
    exact sb_LogCleanerModel_told_22 C0 a0 a1 a2 a0 h _ _ _ hw hP hS (lv_sub hl [0, 1, 2] rfl)
  · replace hw := hw.2 cq
    refine lv_iload_n hx hb d_LogCleanerModel_told_5 rfl (lv_at hl 1 rfl) ?_
    refine lv_aload_n hx hb d_LogCleanerModel_told_6 rfl (lv_at hl 0 rfl) ?_
    refine xgetI hx hb htb i_LogCleanerModel hown hK hP (ci := 4) rfl 1 (by decide) (htb _ k_LogCleanerModel_75) (fun _ h9 => h9) hw d_LogCleanerModel_told_7 (fun v21 hw => ?_)
    refine lv_icmp_ge (tgt := 22) hx hb d_LogCleanerModel_told_10 (by decide) (fun cq => ?_) (fun cq => ?_)
    · replace hw := hw.1 cq
      exact sb_LogCleanerModel_told_22 C0 a0 a1 a2 a0 h _ _ _ hw hP hS (lv_sub hl [0, 1, 2] rfl)
    · replace hw := hw.2 cq
      refine lv_iload_n hx hb d_LogCleanerModel_told_13 rfl (lv_at hl 2 rfl) ?_
      refine lv_if_lt (tgt := 22) hx hb d_LogCleanerModel_told_14 (by decide) (fun cq => ?_) (fun cq => ?_)
      · replace hw := hw.1 cq
        exact sb_LogCleanerModel_told_22 C0 a0 a1 a2 a0 h _ _ _ hw hP hS (lv_sub hl [0, 1, 2] rfl)
      · replace hw := hw.2 cq
        refine lv_iload_n hx hb d_LogCleanerModel_told_17 rfl (lv_at hl 2 rfl) ?_
        refine lv_iconst (v := 5) hx hb d_LogCleanerModel_told_18 (by decide) ?_
        refine lv_icmp_le (tgt := 26) hx hb d_LogCleanerModel_told_19 (by decide) (fun cq => ?_) (fun cq => ?_)
        · replace hw := hw.1 cq
          refine lv_iconst (v := 0) hx hb d_LogCleanerModel_told_26 (by decide) ?_
          exact sb_LogCleanerModel_told_27 C0 a0 a1 a2 0 a0 h _ _ _ hw hP hS (lv_sub hl [0, 1, 2] rfl)
        · replace hw := hw.2 cq
          exact sb_LogCleanerModel_told_22 C0 a0 a1 a2 a0 h _ _ _ hw hP hS (lv_sub hl [0, 1, 2] rfl)

theorem d_LogCleanerModel_latest_0 : decode b_LogCleanerModel_latest 0 = .ok (.aload_n 0, 1) := by decide +kernel
theorem d_LogCleanerModel_latest_1 : decode b_LogCleanerModel_latest 1 = .ok (.iload_n 3, 1) := by decide +kernel
theorem d_LogCleanerModel_latest_2 : decode b_LogCleanerModel_latest 2 = .ok (.ifCond .lt 9, 3) := by decide +kernel
theorem d_LogCleanerModel_latest_5 : decode b_LogCleanerModel_latest 5 = .ok (.iload_n 3, 1) := by decide +kernel
theorem d_LogCleanerModel_latest_6 : decode b_LogCleanerModel_latest 6 = .ok (.bipush 8, 2) := by decide +kernel
theorem d_LogCleanerModel_latest_8 : decode b_LogCleanerModel_latest 8 = .ok (.if_icmp .le 7, 3) := by decide +kernel
theorem d_LogCleanerModel_latest_11 : decode b_LogCleanerModel_latest 11 = .ok (.iconst 1, 1) := by decide +kernel
theorem d_LogCleanerModel_latest_12 : decode b_LogCleanerModel_latest 12 = .ok (.goto 4, 3) := by decide +kernel
theorem d_LogCleanerModel_latest_15 : decode b_LogCleanerModel_latest 15 = .ok (.iconst 0, 1) := by decide +kernel
theorem d_LogCleanerModel_latest_16 : decode b_LogCleanerModel_latest 16 = .ok (.putfield 66, 3) := by decide +kernel
theorem d_LogCleanerModel_latest_19 : decode b_LogCleanerModel_latest 19 = .ok (.aload_n 0, 1) := by decide +kernel
theorem d_LogCleanerModel_latest_20 : decode b_LogCleanerModel_latest 20 = .ok (.getfield 66, 3) := by decide +kernel
theorem d_LogCleanerModel_latest_23 : decode b_LogCleanerModel_latest 23 = .ok (.ifCond .le 5, 3) := by decide +kernel
theorem d_LogCleanerModel_latest_26 : decode b_LogCleanerModel_latest 26 = .ok (.iconst 0, 1) := by decide +kernel
theorem d_LogCleanerModel_latest_27 : decode b_LogCleanerModel_latest 27 = .ok (.ireturn, 1) := by decide +kernel
theorem d_LogCleanerModel_latest_28 : decode b_LogCleanerModel_latest 28 = .ok (.aload_n 0, 1) := by decide +kernel
theorem d_LogCleanerModel_latest_29 : decode b_LogCleanerModel_latest 29 = .ok (.getfield 75, 3) := by decide +kernel
theorem d_LogCleanerModel_latest_32 : decode b_LogCleanerModel_latest 32 = .ok (.iconst 1, 1) := by decide +kernel
theorem d_LogCleanerModel_latest_33 : decode b_LogCleanerModel_latest 33 = .ok (.isub, 1) := by decide +kernel
theorem d_LogCleanerModel_latest_34 : decode b_LogCleanerModel_latest 34 = .ok (.istore 4, 2) := by decide +kernel
theorem d_LogCleanerModel_latest_36 : decode b_LogCleanerModel_latest 36 = .ok (.iload 4, 2) := by decide +kernel
theorem d_LogCleanerModel_latest_38 : decode b_LogCleanerModel_latest 38 = .ok (.ifCond .lt 44, 3) := by decide +kernel
theorem d_LogCleanerModel_latest_41 : decode b_LogCleanerModel_latest 41 = .ok (.aload_n 0, 1) := by decide +kernel
theorem d_LogCleanerModel_latest_42 : decode b_LogCleanerModel_latest 42 = .ok (.getfield 20, 3) := by decide +kernel
theorem d_LogCleanerModel_latest_45 : decode b_LogCleanerModel_latest 45 = .ok (.iload 4, 2) := by decide +kernel
theorem d_LogCleanerModel_latest_47 : decode b_LogCleanerModel_latest 47 = .ok (.iaload, 1) := by decide +kernel
theorem d_LogCleanerModel_latest_48 : decode b_LogCleanerModel_latest 48 = .ok (.iload_n 3, 1) := by decide +kernel
theorem d_LogCleanerModel_latest_49 : decode b_LogCleanerModel_latest 49 = .ok (.if_icmp .ne 27, 3) := by decide +kernel
theorem d_LogCleanerModel_latest_52 : decode b_LogCleanerModel_latest 52 = .ok (.aload_n 0, 1) := by decide +kernel
theorem d_LogCleanerModel_latest_53 : decode b_LogCleanerModel_latest 53 = .ok (.getfield 16, 3) := by decide +kernel
theorem d_LogCleanerModel_latest_56 : decode b_LogCleanerModel_latest 56 = .ok (.iload 4, 2) := by decide +kernel
theorem d_LogCleanerModel_latest_58 : decode b_LogCleanerModel_latest 58 = .ok (.laload, 1) := by decide +kernel
theorem d_LogCleanerModel_latest_59 : decode b_LogCleanerModel_latest 59 = .ok (.lload_n 1, 1) := by decide +kernel
theorem d_LogCleanerModel_latest_60 : decode b_LogCleanerModel_latest 60 = .ok (.iload_n 3, 1) := by decide +kernel
theorem d_LogCleanerModel_latest_61 : decode b_LogCleanerModel_latest 61 = .ok (.invokestatic 78, 3) := by decide +kernel
theorem d_LogCleanerModel_latest_64 : decode b_LogCleanerModel_latest 64 = .ok (.lcmp, 1) := by decide +kernel
theorem d_LogCleanerModel_latest_65 : decode b_LogCleanerModel_latest 65 = .ok (.ifCond .ne 11, 3) := by decide +kernel
theorem d_LogCleanerModel_latest_68 : decode b_LogCleanerModel_latest 68 = .ok (.aload_n 0, 1) := by decide +kernel
theorem d_LogCleanerModel_latest_69 : decode b_LogCleanerModel_latest 69 = .ok (.getfield 13, 3) := by decide +kernel
theorem d_LogCleanerModel_latest_72 : decode b_LogCleanerModel_latest 72 = .ok (.iload 4, 2) := by decide +kernel
theorem d_LogCleanerModel_latest_74 : decode b_LogCleanerModel_latest 74 = .ok (.iaload, 1) := by decide +kernel
theorem d_LogCleanerModel_latest_75 : decode b_LogCleanerModel_latest 75 = .ok (.ireturn, 1) := by decide +kernel
theorem d_LogCleanerModel_latest_76 : decode b_LogCleanerModel_latest 76 = .ok (.iinc 4 (-1), 3) := by decide +kernel
theorem d_LogCleanerModel_latest_79 : decode b_LogCleanerModel_latest 79 = .ok (.goto (-43), 3) := by decide +kernel
theorem d_LogCleanerModel_latest_82 : decode b_LogCleanerModel_latest 82 = .ok (.iconst (-1), 1) := by decide +kernel
theorem d_LogCleanerModel_latest_83 : decode b_LogCleanerModel_latest 83 = .ok (.ireturn, 1) := by decide +kernel
def rm_LogCleanerModel_latest : Room := { frames := 1, cells := 0, slots := 0, locals := 25 }
def ws_LogCleanerModel_latest : List Cond := Cond.code y_LogCleanerModel_latest b_LogCleanerModel_latest 5 (some .int) :: TB
set_option maxHeartbeats 4000000 in
set_option maxRecDepth 100000 in
theorem sb_LogCleanerModel_latest_76 {p : Program} {l : Launch} {e : Env} {s : State} {m : MethodId} {args : Array Value} {below : List Frame} {meth : Method} {c : Code} {D : va_G} {d : Nat → ClassId} {A : Nat → Prop} {h0 : xw} {Q : Int32 → xw → Prop} {k36 : Nat → Int64 → Int32 → Int32 → xw → Prop} (C0 : xctx p s m args meth c b_LogCleanerModel_latest 5 (some .int) R_LogCleanerModel D d A True) (hk36 : ∀ (x0 : Nat) (x1 : Int64) (x3 : Int32) (x4 : Int32) (h : xw) (H : Heap) (locs : List Loc) (ls : Array Slot), k36 x0 x1 x3 x4 h → xR sgM h0 D A h H → va_S A s.heap H locs → lv_has ls 5 [(0, .ref x0), (1, .long x1), (3, .int x3), (4, .int x4)] → W p l e rm_LogCleanerModel_latest s m args below meth c H locs 0 0 (MQ below (va_Qi (fun r u => Q r u ∧ xfr sgM h0 u) (xB D d A) A) args s 0 0 A) (F0 m 36 ls [])) : ∀ (x0 : Nat) (x1 : Int64) (x3 : Int32) (x4 : Int32) (h : xw) (H : Heap) (locs : List Loc) (ls : Array Slot), wb_LogCleanerModel_latest_76 d k36 Q x0 x1 x3 x4 h → xR sgM h0 D A h H → va_S A s.heap H locs → lv_has ls 5 [(0, .ref x0), (1, .long x1), (3, .int x3), (4, .int x4)] → W p l e rm_LogCleanerModel_latest s m args below meth c H locs 0 0 (MQ below (va_Qi (fun r u => Q r u ∧ xfr sgM h0 u) (xB D d A) A) args s 0 0 A) (F0 m 76 ls []) := by
  obtain ⟨hx, hb, hr, hml, hown, htb, hK, hA, hNB, hlocks, hXT⟩ := id C0
  intro x0 x1 x3 x4 h H locs ls hw hP hS hl
  refine lv_iinc (v := x4 + (-1)) (lv' := [(4, .int (x4 + (-1))), (0, .ref x0), (1, .long x1), (3, .int x3)]) hx hb d_LogCleanerModel_latest_76 hl (k := 3) rfl rfl (by decide) rfl (fun ls hl => ?_)
  refine lv_goto (tgt := 36) hx hb d_LogCleanerModel_latest_79 (by decide) ?_
  exact hk36 x0 x1 x3 (x4 + (-1)) h _ _ _ hw hP hS (lv_sub hl [1, 2, 3, 0] rfl)

set_option maxHeartbeats 4000000 in
set_option maxRecDepth 100000 in
theorem sl_LogCleanerModel_latest_36 {p : Program} {l : Launch} {e : Env} {s : State} {m : MethodId} {args : Array Value} {below : List Frame} {meth : Method} {c : Code} {D : va_G} {d : Nat → ClassId} {A : Nat → Prop} {h0 : xw} {Q : Int32 → xw → Prop} (C0 : xctx p s m args meth c b_LogCleanerModel_latest 5 (some .int) R_LogCleanerModel D d A True) : ∀ (n : Nat) (x : Nat × Int64 × Int32 × Int32) (h : xw) (H : Heap) (locs : List Loc) (ls : Array Slot), xloop (fun (k : Nat × Int64 × Int32 × Int32 → xw → Prop) (x : Nat × Int64 × Int32 × Int32) (h : xw) => wc_LogCleanerModel_latest_36 d Q (fun y0 y1 y3 y4 h => k (y0, y1, y3, y4) h) x.1 x.2.1 x.2.2.1 x.2.2.2 h) n x h → xR sgM h0 D A h H → va_S A s.heap H locs → lv_has ls 5 [(0, .ref x.1), (1, .long x.2.1), (3, .int x.2.2.1), (4, .int x.2.2.2)] → W p l e rm_LogCleanerModel_latest s m args below meth c H locs 0 0 (MQ below (va_Qi (fun r u => Q r u ∧ xfr sgM h0 u) (xB D d A) A) args s 0 0 A) (F0 m 36 ls []) := by
  obtain ⟨hx, hb, hr, hml, hown, htb, hK, hA, hNB, hlocks, hXT⟩ := id C0
  intro n
  induction n with
  | zero => intro x h H locs ls hw; exact hw.elim
  | succ n ih =>
    rintro ⟨x0, x1, x3, x4⟩ h H locs ls hw hP hS hl
    replace hw : wc_LogCleanerModel_latest_36 d Q (fun y0 y1 y3 y4 h => xloop (fun (k : Nat × Int64 × Int32 × Int32 → xw → Prop) (x : Nat × Int64 × Int32 × Int32) (h : xw) => wc_LogCleanerModel_latest_36 d Q (fun y0 y1 y3 y4 h => k (y0, y1, y3, y4) h) x.1 x.2.1 x.2.2.1 x.2.2.2 h) n (y0, y1, y3, y4) h) x0 x1 x3 x4 h := hw
    have hk36 := fun (x0 : Nat) (x1 : Int64) (x3 : Int32) (x4 : Int32) => ih (x0, x1, x3, x4)
    refine lv_iload hx hb d_LogCleanerModel_latest_36 (lv_at hl 3 rfl) ?_
    refine lv_if_lt (tgt := 82) hx hb d_LogCleanerModel_latest_38 (by decide) (fun cq => ?_) (fun cq => ?_)
    · replace hw := hw.1 cq
      refine lv_iconst (v := (-1)) hx hb d_LogCleanerModel_latest_82 (by decide) ?_
      refine W.widen (k := 0) (n := 0) (Nat.le_of_ble_eq_true rfl) (Nat.le_of_ble_eq_true rfl) ?_
      exact xretI C0 hw hP hS d_LogCleanerModel_latest_83
    · replace hw := hw.2 cq
      refine lv_aload_n hx hb d_LogCleanerModel_latest_41 rfl (lv_at hl 0 rfl) ?_
      refine xgetA hx hb htb i_LogCleanerModel hown hK hP (ci := 4) rfl 5 (by decide) (htb _ k_LogCleanerModel_20) (fun _ h9 => h9) hw d_LogCleanerModel_latest_42 (fun r4 hw => ?_)
      refine lv_iload hx hb d_LogCleanerModel_latest_45 (lv_at hl 3 rfl) ?_
      obtain ⟨p5, hpe, hw⟩ := hw
      revert hw
      revert hl
      subst hpe
      intro hl hw
      replace hl : lv_has ls 5 [(0, .ref x0), (1, .long x1), (3, .int x3), (4, .int x4)] := hl
      refine xldi hx hb hK hP 2 rfl hw d_LogCleanerModel_latest_47 (fun v6 hw => ?_)
      refine lv_iload_n hx hb d_LogCleanerModel_latest_48 rfl (lv_at hl 2 rfl) ?_
      refine lv_icmp_ne (tgt := 76) hx hb d_LogCleanerModel_latest_49 (by decide) (fun cq => ?_) (fun cq => ?_)
      · replace hw := hw.2 cq
        exact sb_LogCleanerModel_latest_76 C0 hk36 x0 x1 x3 x4 h _ _ _ hw hP hS (lv_sub hl [0, 1, 2, 3] rfl)
      · replace hw := hw.1 cq
        refine lv_aload_n hx hb d_LogCleanerModel_latest_52 rfl (lv_at hl 0 rfl) ?_
        refine xgetA hx hb htb i_LogCleanerModel hown hK hP (ci := 4) rfl 4 (by decide) (htb _ k_LogCleanerModel_16) (fun _ h9 => h9) hw d_LogCleanerModel_latest_53 (fun r7 hw => ?_)
        refine lv_iload hx hb d_LogCleanerModel_latest_56 (lv_at hl 3 rfl) ?_
        obtain ⟨p8, hpe, hw⟩ := hw
        revert hw
        revert hl
        subst hpe
        intro hl hw
        replace hl : lv_has ls 5 [(0, .ref x0), (1, .long x1), (3, .int x3), (4, .int x4)] := hl
        refine xldl hx hb hK hP 3 rfl hw d_LogCleanerModel_latest_58 (fun v9 hw => ?_)
        refine lv_lload_n hx hb d_LogCleanerModel_latest_59 rfl (lv_at hl 1 rfl) ?_
        refine lv_iload_n hx hb d_LogCleanerModel_latest_60 rfl (lv_at hl 2 rfl) ?_
        refine xcalll (va_runS (As := [.long x1, .int x3]) (rest := [.long v9]) ⟨hx, hb, hml, hown, htb⟩ (m_LogCleanerModel_lowest l D d h _ x1 x3 _ hw) (xcwS 2 htb g_code_LogCleanerModel_lowest g_ini_LogCleanerModel k_LogCleanerModel_78 g_st_LogCleanerModel_lowest rfl rfl (by decide +kernel) ⟨(Nat.le_of_ble_eq_true rfl), (Nat.le_of_ble_eq_true rfl)⟩) (xpreI hP hK hNB) rfl rfl hl.1 rfl (lv_room (Nat.le_of_ble_eq_true rfl)) d_LogCleanerModel_latest_61 ⟨(Nat.le_of_ble_eq_true rfl), (Nat.le_of_ble_eq_true rfl)⟩) hP hS hA (fun r11 h10 H locs hw hP hS => ?_)
        refine W.widen (k := 0) (n := 0) (Nat.le_of_ble_eq_true rfl) (Nat.le_of_ble_eq_true rfl) ?_
        refine W.lcmp hx hb d_LogCleanerModel_latest_64 ?_
        refine lv_if_ne (tgt := 76) hx hb d_LogCleanerModel_latest_65 (by decide) (fun cq => ?_) (fun cq => ?_)
        · replace hw := hw.2 cq
          exact sb_LogCleanerModel_latest_76 C0 hk36 x0 x1 x3 x4 h10 _ _ _ hw hP hS (lv_sub hl [0, 1, 2, 3] rfl)
        · replace hw := hw.1 cq
          refine lv_aload_n hx hb d_LogCleanerModel_latest_68 rfl (lv_at hl 0 rfl) ?_
          refine xgetA hx hb htb i_LogCleanerModel hown hK hP (ci := 4) rfl 3 (by decide) (htb _ k_LogCleanerModel_13) (fun _ h9 => h9) hw d_LogCleanerModel_latest_69 (fun r12 hw => ?_)
          refine lv_iload hx hb d_LogCleanerModel_latest_72 (lv_at hl 3 rfl) ?_
          obtain ⟨p13, hpe, hw⟩ := hw
          revert hw
          revert hl
          subst hpe
          intro hl hw
          replace hl : lv_has ls 5 [(0, .ref x0), (1, .long x1), (3, .int x3), (4, .int x4)] := hl
          refine xldi hx hb hK hP 2 rfl hw d_LogCleanerModel_latest_74 (fun v14 hw => ?_)
          refine W.widen (k := 0) (n := 0) (Nat.le_of_ble_eq_true rfl) (Nat.le_of_ble_eq_true rfl) ?_
          exact xretI C0 hw hP hS d_LogCleanerModel_latest_75

set_option maxHeartbeats 4000000 in
set_option maxRecDepth 100000 in
theorem sb_LogCleanerModel_latest_16 {p : Program} {l : Launch} {e : Env} {s : State} {m : MethodId} {args : Array Value} {below : List Frame} {meth : Method} {c : Code} {D : va_G} {d : Nat → ClassId} {A : Nat → Prop} {h0 : xw} {Q : Int32 → xw → Prop} (C0 : xctx p s m args meth c b_LogCleanerModel_latest 5 (some .int) R_LogCleanerModel D d A True) : ∀ (x0 : Nat) (x1 : Int64) (x3 : Int32) (s0 : Int32) (s1 : Nat) (h : xw) (H : Heap) (locs : List Loc) (ls : Array Slot), wb_LogCleanerModel_latest_16 d Q x0 x1 x3 s0 s1 h → xR sgM h0 D A h H → va_S A s.heap H locs → lv_has ls 5 [(0, .ref x0), (1, .long x1), (3, .int x3)] → W p l e rm_LogCleanerModel_latest s m args below meth c H locs 0 0 (MQ below (va_Qi (fun r u => Q r u ∧ xfr sgM h0 u) (xB D d A) A) args s 0 0 A) (F0 m 16 ls [.int s0, .ref s1]) := by
  obtain ⟨hx, hb, hr, hml, hown, htb, hK, hA, hNB, hlocks, hXT⟩ := id C0
  intro x0 x1 x3 s0 s1 h H locs ls hw hP hS hl
  refine xputI hx hb htb i_LogCleanerModel t_LogCleanerModel t_LogCleanerModel_ok n_LogCleanerModel hown hK hP hS (ci := 4) rfl (fun _ => rfl) 0 (by decide) (htb _ k_LogCleanerModel_66) (fun _ h9 => h9) rfl (by decide +kernel) hw d_LogCleanerModel_latest_16 (fun h1 H locs hw hP hS => ?_)
  refine lv_aload_n hx hb d_LogCleanerModel_latest_19 rfl (lv_at hl 0 rfl) ?_
  refine xgetI hx hb htb i_LogCleanerModel hown hK hP (ci := 4) rfl 0 (by decide) (htb _ k_LogCleanerModel_66) (fun _ h9 => h9) hw d_LogCleanerModel_latest_20 (fun v2 hw => ?_)
  refine lv_if_le (tgt := 28) hx hb d_LogCleanerModel_latest_23 (by decide) (fun cq => ?_) (fun cq => ?_)
  · replace hw := hw.1 cq
    refine lv_aload_n hx hb d_LogCleanerModel_latest_28 rfl (lv_at hl 0 rfl) ?_
    refine xgetI hx hb htb i_LogCleanerModel hown hK hP (ci := 4) rfl 1 (by decide) (htb _ k_LogCleanerModel_75) (fun _ h9 => h9) hw d_LogCleanerModel_latest_29 (fun v3 hw => ?_)
    refine lv_iconst (v := 1) hx hb d_LogCleanerModel_latest_32 (by decide) ?_
    refine lv_isub hx hb d_LogCleanerModel_latest_33 ?_
    refine lv_istore (lv' := [(4, .int (v3 - 1)), (0, .ref x0), (1, .long x1), (3, .int x3)]) hx hb d_LogCleanerModel_latest_34 hl (by decide) rfl (fun ls hl => ?_)
    obtain ⟨n, hw⟩ := hw
    exact sl_LogCleanerModel_latest_36 C0 n (x0, x1, x3, (v3 - 1)) h1 _ _ _ hw hP hS (lv_sub hl [1, 2, 3, 0] rfl)
  · replace hw := hw.2 cq
    refine lv_iconst (v := 0) hx hb d_LogCleanerModel_latest_26 (by decide) ?_
    refine W.widen (k := 0) (n := 0) (Nat.le_of_ble_eq_true rfl) (Nat.le_of_ble_eq_true rfl) ?_
    exact xretI C0 hw hP hS d_LogCleanerModel_latest_27

set_option maxHeartbeats 4000000 in
set_option maxRecDepth 100000 in
theorem sb_LogCleanerModel_latest_11 {p : Program} {l : Launch} {e : Env} {s : State} {m : MethodId} {args : Array Value} {below : List Frame} {meth : Method} {c : Code} {D : va_G} {d : Nat → ClassId} {A : Nat → Prop} {h0 : xw} {Q : Int32 → xw → Prop} (C0 : xctx p s m args meth c b_LogCleanerModel_latest 5 (some .int) R_LogCleanerModel D d A True) : ∀ (x0 : Nat) (x1 : Int64) (x3 : Int32) (s0 : Nat) (h : xw) (H : Heap) (locs : List Loc) (ls : Array Slot), wb_LogCleanerModel_latest_11 d Q x0 x1 x3 s0 h → xR sgM h0 D A h H → va_S A s.heap H locs → lv_has ls 5 [(0, .ref x0), (1, .long x1), (3, .int x3)] → W p l e rm_LogCleanerModel_latest s m args below meth c H locs 0 0 (MQ below (va_Qi (fun r u => Q r u ∧ xfr sgM h0 u) (xB D d A) A) args s 0 0 A) (F0 m 11 ls [.ref s0]) := by
  obtain ⟨hx, hb, hr, hml, hown, htb, hK, hA, hNB, hlocks, hXT⟩ := id C0
  intro x0 x1 x3 s0 h H locs ls hw hP hS hl
  refine lv_iconst (v := 1) hx hb d_LogCleanerModel_latest_11 (by decide) ?_
  refine lv_goto (tgt := 16) hx hb d_LogCleanerModel_latest_12 (by decide) ?_
  exact sb_LogCleanerModel_latest_16 C0 x0 x1 x3 1 s0 h _ _ _ hw hP hS (lv_sub hl [0, 1, 2] rfl)

set_option maxHeartbeats 4000000 in
set_option maxRecDepth 100000 in
theorem m_LogCleanerModel_latest (l : Launch) (D : va_G) (d : Nat → ClassId) (h : xw) (sz : Nat) (a0 : Nat) (a1 : Int64) (a3 : Int32) (Q : Int32 → xw → Prop) (hw : wp_LogCleanerModel_latest d h a0 a1 a3 Q) : Met l y_LogCleanerModel_latest ws_LogCleanerModel_latest rm_LogCleanerModel_latest (xPre D d h [.ref a0, .long a1, .int a3] sz) (va_Qi (fun r u => Q r u ∧ xfr sgM h u) (xB D d (xA h sz)) (xA h sz)) 0 0 (xA h sz) := by
  refine Met.ofW (cc := b_LogCleanerModel_latest) (maxL := 5) (ret := (some .int)) (by decide) rfl ?_
  intro p e s m args below meth c s₁ B hml hv
  obtain ⟨rfl, hsz, hP0, hK, hNB⟩ := hv
  have hts := atoms_spec (ws := ws_LogCleanerModel_latest) B.pre
  have htb := fun w (hw9 : w ∈ TB) => hts w (List.mem_cons_of_mem _ hw9)
  have hown : s.vm.findClass R_LogCleanerModel = some m.cls := findClass_of_methodNamed B.named
  subst hsz
  obtain ⟨A, hAe⟩ : ∃ A, A = xA h s.heap.size := ⟨_, rfl⟩
  rw [← hAe]
  have hP : xR sgM h D A h s.heap := ⟨by rw [hAe]; exact hP0.self, xfr.rf⟩
  have hA : ∀ q, s.heap.size ≤ q → A q := fun q hq => by rw [hAe]; exact Or.inr hq
  have hS : va_S A s.heap s.heap [] := va_S.rf
  have C0 : xctx p s m ([.ref a0, .long a1, .int a3] : List Value).toArray meth c b_LogCleanerModel_latest 5 (some .int) R_LogCleanerModel D d A True := ⟨B.exec, B.bytes, B.returns, hml, hown, htb, hK, hA, hNB, B.notSynchronized, trivial⟩
  obtain ⟨hx, hb, hr, -, -, -, -, -, -, hlocks, hXT⟩ := id C0
  have hl := lv_entry ([.ref a0, .long a1, .int a3] : List Value) (n := 5) (Nat.le_of_ble_eq_true rfl)
  rw [lg_entry_eq]
  generalize (lg_sl ([.ref a0, .long a1, .int a3] : List Value) ++ List.replicate (5 - (lg_sl ([.ref a0, .long a1, .int a3] : List Value)).length) Slot.unset).toArray = ls at hl ⊢
  have hl : lv_has ls 5 [(0, .ref a0), (1, .long a1), (3, .int a3)] := hl
  refine lv_aload_n hx hb d_LogCleanerModel_latest_0 rfl (lv_at hl 0 rfl) ?_
  refine lv_iload_n hx hb d_LogCleanerModel_latest_1 rfl (lv_at hl 2 rfl) ?_
  refine lv_if_lt (tgt := 11) hx hb d_LogCleanerModel_latest_2 (by decide) (fun cq => ?_) (fun cq => ?_)
  · replace hw := hw.1 cq
    exact sb_LogCleanerModel_latest_11 C0 a0 a1 a3 a0 h _ _ _ hw hP hS (lv_sub hl [0, 1, 2] rfl)
  · replace hw := hw.2 cq
    refine lv_iload_n hx hb d_LogCleanerModel_latest_5 rfl (lv_at hl 2 rfl) ?_
    refine lv_bipush (v := 8) hx hb d_LogCleanerModel_latest_6 (by decide) ?_
    refine lv_icmp_le (tgt := 15) hx hb d_LogCleanerModel_latest_8 (by decide) (fun cq => ?_) (fun cq => ?_)
    · replace hw := hw.1 cq
      refine lv_iconst (v := 0) hx hb d_LogCleanerModel_latest_15 (by decide) ?_
      exact sb_LogCleanerModel_latest_16 C0 a0 a1 a3 0 a0 h _ _ _ hw hP hS (lv_sub hl [0, 1, 2] rfl)
    · replace hw := hw.2 cq
      exact sb_LogCleanerModel_latest_11 C0 a0 a1 a3 a0 h _ _ _ hw hP hS (lv_sub hl [0, 1, 2] rfl)

