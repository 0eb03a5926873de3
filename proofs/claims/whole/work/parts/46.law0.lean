/-! calls of methods that may throw, and their catching; calls over another kind of cells -/
theorem xStr.warm {s U : State} (hW : s.WarmedH U.vm) (h : xStr s) : xStr U := fun w hw => by
  obtain ⟨sa, hs⟩ := h w hw
  exact ⟨sa, vk_R.warm hW hs⟩
theorem xfr.mono {σ σ' : va_E → Prop} {h u : xw} (hf : xfr σ' h u) (hs : ∀ o, σ' o → σ o) : xfr σ h u := fun a o h1 h2 => hf a o h1 (fun q => h2 (hs o q))
def xNc (U : State) : Prop := va_Nc "java/lang/IllegalStateException" "java/lang/IllegalArgumentException" U
def xH (l : Launch) (s : State) (c : Code) (A : Nat → Prop) (tab : List ExceptionTableEntry) : Prop := l.stackTraces = false ∧ vx_Zq Bundle.tN "UNASSIGNED_STACK" Bundle.steD A s s.heap ∧ vx_Zq Bundle.tN "SUPPRESSED_SENTINEL" Bundle.listD A s s.heap ∧ xStr s ∧ xNc s ∧ c.exceptionTable.toList = tab
def xPreH (D : va_G) (d : Nat → ClassId) (h : xw) (av : List Value) (sz : Nat) : Array Value → State → Prop := fun v U => xPreX D d h av sz v U ∧ xNc U
theorem xPreH_blind {D : va_G} {d : Nat → ClassId} {h : xw} {av : List Value} {sz : Nat} : FrameBlind (xPreH D d h av sz) := fun a U g mk q => ⟨xPreX_blind a U g mk q.1, va_Nc.moved (u := U) (U := U.calling g mk a) (Vm.Alike.refl U.vm) q.2⟩
section XLAW
variable {p : Program} {l : Launch} {e : Env} {R : Room} {s : State} {m : MethodId} {args : Array Value} {below : List Frame} {meth : Method} {c : Code} {H : Heap} {locs : List Loc} {cells slots : Nat} {Q : State → Prop}
variable {cc : ByteArray} {pc : Nat} {ls : Array Slot} {rest : List Value} {D : va_G} {d : Nat → ClassId} {A : Nat → Prop} {H0 : Heap} {h h0 : xw} {σ σ' : va_E → Prop}
variable {mc ms : Nat} {st0 : List Value} {aa : Array Value}
theorem xPreX_of (hP : xR σ h0 D A h H) (hK : va_K D vwCl (TYS d) s) (hNB : xN s) (hS : va_S A s.heap H locs) (hA : ∀ q, s.heap.size ≤ q → A q) (hZ1 : vx_Zq Bundle.tN "UNASSIGNED_STACK" Bundle.steD A s s.heap) (hZ2 : vx_Zq Bundle.tN "SUPPRESSED_SENTINEL" Bundle.listD A s s.heap) (hSt : xStr s) {av : List Value} : ∀ U : State, U.heap = H → s.WarmedH U.vm → xPreX D d h av H.size av.toArray U := fun U hU hW => by
  have hsub := xA_sub hP.1 hS hA
  refine ⟨rfl, by rw [hU], by rw [hU]; exact hP.1.weaken (fun _ _ => trivial), va_K.moved hW.alike hK, hNB.warm hW, ?_, ?_, hSt.warm hW⟩
  · rw [hU]; exact vx_Zq.moved hW.alike ((hZ1.kept hS.2.1).narrow hsub)
  · rw [hU]; exact vx_Zq.moved hW.alike ((hZ2.kept hS.2.1).narrow hsub)
theorem xpreVX (hP : xR σ h0 D A h H) (hK : va_K D vwCl (TYS d) s) (hNB : xN s) (hS : va_S A s.heap H locs) (hA : ∀ q, s.heap.size ≤ q → A q) (hZ1 : vx_Zq Bundle.tN "UNASSIGNED_STACK" Bundle.steD A s s.heap) (hZ2 : vx_Zq Bundle.tN "SUPPRESSED_SENTINEL" Bundle.listD A s s.heap) (hSt : xStr s) {ci b : Nat} {r : vw_C} {fs : List Value} {As : List Value} (hc : vwCl[ci]? = some r) (hh : h b = some (.inr (ci, fs))) : PreV s H r.1 b (xPreX D d h (.ref b :: As) H.size) As := by
  obtain ⟨r', h1, cell, g1, g2, g3, -⟩ := (hP.1.at hh).1
  exact ⟨xPreX_blind, ⟨cell, g1, by rw [g3]; rfl, by rw [g2]; exact (hK.1 ci r hc).2.1⟩, xPreX_of hP hK hNB hS hA hZ1 hZ2 hSt⟩
theorem xpreSH (hP : xR σ h0 D A h H) (hK : va_K D vwCl (TYS d) s) (hNB : xN s) (hS : va_S A s.heap H locs) (hA : ∀ q, s.heap.size ≤ q → A q) (hZ1 : vx_Zq Bundle.tN "UNASSIGNED_STACK" Bundle.steD A s s.heap) (hZ2 : vx_Zq Bundle.tN "SUPPRESSED_SENTINEL" Bundle.listD A s s.heap) (hSt : xStr s) (hNc : xNc s) {As : List Value} : PreS s H (xPreH D d h As H.size) As :=
  ⟨xPreH_blind, fun U hU hW => ⟨xPreX_of hP hK hNB hS hA hZ1 hZ2 hSt U hU hW, va_Nc.moved hW.alike hNc⟩⟩
theorem xcallXi {Qf : Int32 → xw → Prop} {Xf : String → xw → Prop} (hr : vx_Run p l e R s m args below meth c H locs cells slots mc ms (F0 m pc ls st0) rest (va_Qi (fun r u => Qf r u ∧ xfr σ' h u) (xB D d (xA h H.size)) (xA h H.size) aa) (xX (fun E u => Xf E u ∧ xfr σ' h u) D d (xA h H.size)) (xA h H.size)) (hP : xR σ h0 D A h H) (hσ : ∀ o, σ' o → σ o) (hS : va_S A H0 H locs) (hA : ∀ q, H0.size ≤ q → A q)
    (kx : ∀ (E : String) (ce : Cell) (q9 : Addr) (u : xw) (H1 : Heap) (locs1 : List Loc), Xf E u → xfr σ' h u → xR σ h0 D A u H1 → va_S A H0 H1 locs1 → H1[q9]? = some ce → ce.vm = .none → s.vm.findClass E = some ce.cls → vx_W p l e R s m args below meth c H1 locs1 (cells + mc) (slots + ms) Q (F0 m pc ls rest) q9)
    (kk : ∀ (r : Int32) (u : xw) (H1 : Heap) (locs1 : List Loc), Qf r u → xfr σ' h u → xR σ h0 D A u H1 → va_S A H0 H1 locs1 → W p l e R s m args below meth c H1 locs1 (cells + mc) (slots + ms) Q (F0 m (pc + 3) ls (.int r :: rest))) : W p l e R s m args below meth c H locs cells slots Q (F0 m pc ls st0) := by
  have hsub := xA_sub hP.1 hS hA
  exact vx_calli hr hS (fun q _ hq => hsub q hq) hsub (fun q _ hq => hsub q hq) (fun E ce q9 u t H1 locs1 ht hvm _ hB hz hk hS1 hce hcv hcl => kx E ce q9 u H1 locs1 hB.1.1 hB.1.2 ⟨by rw [← ht]; exact hB.2.1.weaken hsub, hP.2.tr (hB.1.2.mono hσ)⟩ hS1 hce hcv hcl) (fun r u t H1 locs1 ht hvm hpost hB hz hk hS1 => kk r u H1 locs1 hpost.1 hpost.2 ⟨by rw [← ht]; exact hB.1.weaken hsub, hP.2.tr (hpost.2.mono hσ)⟩ hS1)
theorem xcallXl {Qf : Int64 → xw → Prop} {Xf : String → xw → Prop} (hr : vx_Run p l e R s m args below meth c H locs cells slots mc ms (F0 m pc ls st0) rest (va_Ql (fun r u => Qf r u ∧ xfr σ' h u) (xB D d (xA h H.size)) (xA h H.size) aa) (xX (fun E u => Xf E u ∧ xfr σ' h u) D d (xA h H.size)) (xA h H.size)) (hP : xR σ h0 D A h H) (hσ : ∀ o, σ' o → σ o) (hS : va_S A H0 H locs) (hA : ∀ q, H0.size ≤ q → A q)
    (kx : ∀ (E : String) (ce : Cell) (q9 : Addr) (u : xw) (H1 : Heap) (locs1 : List Loc), Xf E u → xfr σ' h u → xR σ h0 D A u H1 → va_S A H0 H1 locs1 → H1[q9]? = some ce → ce.vm = .none → s.vm.findClass E = some ce.cls → vx_W p l e R s m args below meth c H1 locs1 (cells + mc) (slots + ms) Q (F0 m pc ls rest) q9)
    (kk : ∀ (r : Int64) (u : xw) (H1 : Heap) (locs1 : List Loc), Qf r u → xfr σ' h u → xR σ h0 D A u H1 → va_S A H0 H1 locs1 → W p l e R s m args below meth c H1 locs1 (cells + mc) (slots + ms) Q (F0 m (pc + 3) ls (.long r :: rest))) : W p l e R s m args below meth c H locs cells slots Q (F0 m pc ls st0) := by
  have hsub := xA_sub hP.1 hS hA
  exact vx_calll hr hS (fun q _ hq => hsub q hq) hsub (fun q _ hq => hsub q hq) (fun E ce q9 u t H1 locs1 ht hvm _ hB hz hk hS1 hce hcv hcl => kx E ce q9 u H1 locs1 hB.1.1 hB.1.2 ⟨by rw [← ht]; exact hB.2.1.weaken hsub, hP.2.tr (hB.1.2.mono hσ)⟩ hS1 hce hcv hcl) (fun r u t H1 locs1 ht hvm hpost hB hz hk hS1 => kk r u H1 locs1 hpost.1 hpost.2 ⟨by rw [← ht]; exact hB.1.weaken hsub, hP.2.tr (hpost.2.mono hσ)⟩ hS1)
theorem ycalli {Qf : Int32 → xw → Prop} (hr : va_Run p l e R s m args below meth c H locs cells slots mc ms (F0 m pc ls st0) rest (va_Qi (fun r u => Qf r u ∧ xfr σ' h u) (xB D d (xA h H.size)) (xA h H.size) aa) (xA h H.size)) (hP : xR σ h0 D A h H) (hσ : ∀ o, σ' o → σ o) (hS : va_S A H0 H locs) (hA : ∀ q, H0.size ≤ q → A q)
    (kk : ∀ (r : Int32) (u : xw) (H1 : Heap) (locs1 : List Loc), Qf r u → xfr σ' h u → xR σ h0 D A u H1 → va_S A H0 H1 locs1 → W p l e R s m args below meth c H1 locs1 (cells + mc) (slots + ms) Q (F0 m (pc + 3) ls (.int r :: rest))) : W p l e R s m args below meth c H locs cells slots Q (F0 m pc ls st0) := by
  have hsub := xA_sub hP.1 hS hA
  exact va_calli hr hS (fun q _ hq => hsub q hq) hsub (fun r u t H1 locs1 ht hvm hpost hB hz hk hS1 => kk r u H1 locs1 hpost.1 hpost.2 ⟨by rw [← ht]; exact hB.1.weaken hsub, hP.2.tr (hpost.2.mono hσ)⟩ hS1)
theorem ycalll {Qf : Int64 → xw → Prop} (hr : va_Run p l e R s m args below meth c H locs cells slots mc ms (F0 m pc ls st0) rest (va_Ql (fun r u => Qf r u ∧ xfr σ' h u) (xB D d (xA h H.size)) (xA h H.size) aa) (xA h H.size)) (hP : xR σ h0 D A h H) (hσ : ∀ o, σ' o → σ o) (hS : va_S A H0 H locs) (hA : ∀ q, H0.size ≤ q → A q)
    (kk : ∀ (r : Int64) (u : xw) (H1 : Heap) (locs1 : List Loc), Qf r u → xfr σ' h u → xR σ h0 D A u H1 → va_S A H0 H1 locs1 → W p l e R s m args below meth c H1 locs1 (cells + mc) (slots + ms) Q (F0 m (pc + 3) ls (.long r :: rest))) : W p l e R s m args below meth c H locs cells slots Q (F0 m pc ls st0) := by
  have hsub := xA_sub hP.1 hS hA
  exact va_calll hr hS (fun q _ hq => hsub q hq) hsub (fun r u t H1 locs1 ht hvm hpost hB hz hk hS1 => kk r u H1 locs1 hpost.1 hpost.2 ⟨by rw [← ht]; exact hB.1.weaken hsub, hP.2.tr (hpost.2.mono hσ)⟩ hS1)
theorem ycallv {Qf : xw → Prop} (hr : va_Run p l e R s m args below meth c H locs cells slots mc ms (F0 m pc ls st0) rest (va_Qv (fun u => Qf u ∧ xfr σ' h u) (xB D d (xA h H.size)) (xA h H.size) aa) (xA h H.size)) (hP : xR σ h0 D A h H) (hσ : ∀ o, σ' o → σ o) (hS : va_S A H0 H locs) (hA : ∀ q, H0.size ≤ q → A q)
    (kk : ∀ (u : xw) (H1 : Heap) (locs1 : List Loc), Qf u → xfr σ' h u → xR σ h0 D A u H1 → va_S A H0 H1 locs1 → W p l e R s m args below meth c H1 locs1 (cells + mc) (slots + ms) Q (F0 m (pc + 3) ls rest)) : W p l e R s m args below meth c H locs cells slots Q (F0 m pc ls st0) := by
  have hsub := xA_sub hP.1 hS hA
  exact va_callv hr hS (fun q _ hq => hsub q hq) hsub (fun u t H1 locs1 ht hvm hpost hB hz hk hS1 => kk u H1 locs1 hpost.1 hpost.2 ⟨by rw [← ht]; exact hB.1.weaken hsub, hP.2.tr (hpost.2.mono hσ)⟩ hS1)
theorem xcwSW {own : String} {index maxL : Nat} {y : MethodName} {bytes : ByteArray} {ret : Option FieldType} {hh : List (Nat × Nat × Nat × Nat)} {rm : Room} (n : Nat) (htb : ∀ w ∈ TB, w.before args s = true) (h1 : Cond.codeWith y bytes maxL ret hh ∈ TB) (h2 : Cond.initialized y.cls ∈ TB) (h3 : Cond.methodLink own index y ∈ TB) (h4 : Cond.static y ∈ TB) (hrc : rm.cells = mc) (hrs : rm.slots = ms) (hd : y.cls ≠ "java/lang/invoke/MethodHandle" ∧ y.cls ≠ "java/lang/invoke/VarHandle" ∧ (parseMethodDescriptor y.desc).map (fun d => d.parameters.length) = some n) (hR : rm.frames + 1 ≤ R.frames ∧ 8 + (maxL + 11) + rm.locals ≤ R.locals) : vx_CSW R s args own index y bytes maxL ret hh (Cond.codeWith y bytes maxL ret hh :: TB) rm mc ms n := by
  refine vx_cwSW n htb (fun w hw => ?_) rfl hrc hrs hd hR
  have hm : w ∈ TB := by
    unfold va_wsS at hw
    rcases List.mem_append.mp hw with hw | hw
    · simp only [List.mem_cons, List.not_mem_nil, or_false] at hw
      rcases hw with rfl | rfl | rfl
      · exact h3
      · exact h4
      · exact h2
    · rcases List.mem_cons.mp hw with rfl | hw
      · exact h1
      · exact hw
  exact ⟨hm, TB_good w hm⟩
end XLAW
