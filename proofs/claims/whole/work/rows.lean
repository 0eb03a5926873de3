section
-- ===== PART A: goes FIRST, ahead of the names: the tables' words, and 'selects' of the private methods out of them =====
/-- a private method of a class that the tables say can be made, by its rows of tables_1 -/
def lw_okq (q : MethodName × Nat) : Prop := (q.1.cls ≠ "java/lang/invoke/MethodHandle" ∧ q.1.cls ≠ "java/lang/invoke/VarHandle") ∧ Cond.instantiable q.1.cls q.2 ∈ tables_1 ∧ Cond.privateMethod q.1 ∈ tables_1 ∧ Cond.instanceMethod q.1 ∈ tables_1
theorem lw_p0 : lw_okq (⟨"java/lang/Throwable", "fillInStackTrace", "(I)Ljava/lang/Throwable;"⟩, 6) := ⟨⟨by decide +kernel, by decide +kernel⟩, List.mem_of_getElem? (i := 107) (by decide +kernel), List.mem_of_getElem? (i := 105) (by decide +kernel), List.mem_of_getElem? (i := 106) (by decide +kernel)⟩
theorem lw_p1 : lw_okq (⟨"LogCleaner", "moveDraftInto", "(LLogCleaner$Batch;)V"⟩, 7) := ⟨⟨by decide +kernel, by decide +kernel⟩, List.mem_of_getElem? (i := 13) (by decide +kernel), List.mem_of_getElem? (i := 234) (by decide +kernel), List.mem_of_getElem? (i := 235) (by decide +kernel)⟩
theorem lw_p2 : lw_okq (⟨"LogCleaner", "markSuperseded", "(LLogCleaner$Entry;)V"⟩, 7) := ⟨⟨by decide +kernel, by decide +kernel⟩, List.mem_of_getElem? (i := 13) (by decide +kernel), List.mem_of_getElem? (i := 238) (by decide +kernel), List.mem_of_getElem? (i := 239) (by decide +kernel)⟩
theorem lw_p3 : lw_okq (⟨"LogCleaner", "latestWithKey", "(JI)LLogCleaner$Entry;"⟩, 7) := ⟨⟨by decide +kernel, by decide +kernel⟩, List.mem_of_getElem? (i := 13) (by decide +kernel), List.mem_of_getElem? (i := 246) (by decide +kernel), List.mem_of_getElem? (i := 247) (by decide +kernel)⟩
theorem lw_p4 : lw_okq (⟨"LogCleaner", "removeGoneRecords", "(I)I"⟩, 7) := ⟨⟨by decide +kernel, by decide +kernel⟩, List.mem_of_getElem? (i := 13) (by decide +kernel), List.mem_of_getElem? (i := 278) (by decide +kernel), List.mem_of_getElem? (i := 279) (by decide +kernel)⟩
theorem lw_p5 : lw_okq (⟨"LogCleaner", "isClosed", "(LLogCleaner$Batch;)Z"⟩, 7) := ⟨⟨by decide +kernel, by decide +kernel⟩, List.mem_of_getElem? (i := 13) (by decide +kernel), List.mem_of_getElem? (i := 282) (by decide +kernel), List.mem_of_getElem? (i := 283) (by decide +kernel)⟩
theorem lw_p6 : lw_okq (⟨"LogCleaner", "removeEmptiedBatches", "()I"⟩, 7) := ⟨⟨by decide +kernel, by decide +kernel⟩, List.mem_of_getElem? (i := 13) (by decide +kernel), List.mem_of_getElem? (i := 294) (by decide +kernel), List.mem_of_getElem? (i := 295) (by decide +kernel)⟩
theorem lw_p7 : lw_okq (⟨"LogCleaner", "isKnown", "(I)Z"⟩, 7) := ⟨⟨by decide +kernel, by decide +kernel⟩, List.mem_of_getElem? (i := 13) (by decide +kernel), List.mem_of_getElem? (i := 298) (by decide +kernel), List.mem_of_getElem? (i := 299) (by decide +kernel)⟩
theorem lw_p8 : lw_okq (⟨"LogCleaner", "keepFirstBatches", "(I)V"⟩, 7) := ⟨⟨by decide +kernel, by decide +kernel⟩, List.mem_of_getElem? (i := 13) (by decide +kernel), List.mem_of_getElem? (i := 302) (by decide +kernel), List.mem_of_getElem? (i := 303) (by decide +kernel)⟩
theorem lw_p9 : lw_okq (⟨"LogCleaner", "packClosedSegments", "()V"⟩, 7) := ⟨⟨by decide +kernel, by decide +kernel⟩, List.mem_of_getElem? (i := 13) (by decide +kernel), List.mem_of_getElem? (i := 306) (by decide +kernel), List.mem_of_getElem? (i := 307) (by decide +kernel)⟩
theorem lw_p10 : lw_okq (⟨"LogCleaner", "removeFirstSegments", "(I)I"⟩, 7) := ⟨⟨by decide +kernel, by decide +kernel⟩, List.mem_of_getElem? (i := 13) (by decide +kernel), List.mem_of_getElem? (i := 322) (by decide +kernel), List.mem_of_getElem? (i := 323) (by decide +kernel)⟩
theorem lw_p11 : lw_okq (⟨"LogCleaner", "entryAt", "(I)LLogCleaner$Entry;"⟩, 7) := ⟨⟨by decide +kernel, by decide +kernel⟩, List.mem_of_getElem? (i := 13) (by decide +kernel), List.mem_of_getElem? (i := 350) (by decide +kernel), List.mem_of_getElem? (i := 351) (by decide +kernel)⟩
theorem lw_p12 : lw_okq (⟨"LogCleanerModel", "sizeOf", "(I)I"⟩, 23) := ⟨⟨by decide +kernel, by decide +kernel⟩, List.mem_of_getElem? (i := 363) (by decide +kernel), List.mem_of_getElem? (i := 458) (by decide +kernel), List.mem_of_getElem? (i := 459) (by decide +kernel)⟩
theorem lw_p13 : lw_okq (⟨"LogCleanerModel", "isOver", "(II)Z"⟩, 23) := ⟨⟨by decide +kernel, by decide +kernel⟩, List.mem_of_getElem? (i := 363) (by decide +kernel), List.mem_of_getElem? (i := 466) (by decide +kernel), List.mem_of_getElem? (i := 467) (by decide +kernel)⟩
theorem lw_p14 : lw_okq (⟨"LogCleanerModel", "isClosed", "(I)Z"⟩, 23) := ⟨⟨by decide +kernel, by decide +kernel⟩, List.mem_of_getElem? (i := 363) (by decide +kernel), List.mem_of_getElem? (i := 470) (by decide +kernel), List.mem_of_getElem? (i := 471) (by decide +kernel)⟩
theorem lw_p15 : lw_okq (⟨"LogCleanerModel", "isKnown", "(I)Z"⟩, 23) := ⟨⟨by decide +kernel, by decide +kernel⟩, List.mem_of_getElem? (i := 363) (by decide +kernel), List.mem_of_getElem? (i := 474) (by decide +kernel), List.mem_of_getElem? (i := 475) (by decide +kernel)⟩
def lw_privs_1 : List (MethodName × Nat) := [(⟨"java/lang/Throwable", "fillInStackTrace", "(I)Ljava/lang/Throwable;"⟩, 6), (⟨"LogCleaner", "moveDraftInto", "(LLogCleaner$Batch;)V"⟩, 7), (⟨"LogCleaner", "markSuperseded", "(LLogCleaner$Entry;)V"⟩, 7), (⟨"LogCleaner", "latestWithKey", "(JI)LLogCleaner$Entry;"⟩, 7), (⟨"LogCleaner", "removeGoneRecords", "(I)I"⟩, 7), (⟨"LogCleaner", "isClosed", "(LLogCleaner$Batch;)Z"⟩, 7), (⟨"LogCleaner", "removeEmptiedBatches", "()I"⟩, 7), (⟨"LogCleaner", "isKnown", "(I)Z"⟩, 7), (⟨"LogCleaner", "keepFirstBatches", "(I)V"⟩, 7), (⟨"LogCleaner", "packClosedSegments", "()V"⟩, 7), (⟨"LogCleaner", "removeFirstSegments", "(I)I"⟩, 7), (⟨"LogCleaner", "entryAt", "(I)LLogCleaner$Entry;"⟩, 7), (⟨"LogCleanerModel", "sizeOf", "(I)I"⟩, 23), (⟨"LogCleanerModel", "isOver", "(II)Z"⟩, 23), (⟨"LogCleanerModel", "isClosed", "(I)Z"⟩, 23), (⟨"LogCleanerModel", "isKnown", "(I)Z"⟩, 23)]
theorem lw_r1 : ∀ q ∈ lw_privs_1, lw_okq q := List.forall_mem_cons.mpr ⟨lw_p0, List.forall_mem_cons.mpr ⟨lw_p1, List.forall_mem_cons.mpr ⟨lw_p2, List.forall_mem_cons.mpr ⟨lw_p3, List.forall_mem_cons.mpr ⟨lw_p4, List.forall_mem_cons.mpr ⟨lw_p5, List.forall_mem_cons.mpr ⟨lw_p6, List.forall_mem_cons.mpr ⟨lw_p7, List.forall_mem_cons.mpr ⟨lw_p8, List.forall_mem_cons.mpr ⟨lw_p9, List.forall_mem_cons.mpr ⟨lw_p10, List.forall_mem_cons.mpr ⟨lw_p11, List.forall_mem_cons.mpr ⟨lw_p12, List.forall_mem_cons.mpr ⟨lw_p13, List.forall_mem_cons.mpr ⟨lw_p14, List.forall_mem_cons.mpr ⟨lw_p15, fun _ h => absurd h List.not_mem_nil⟩⟩⟩⟩⟩⟩⟩⟩⟩⟩⟩⟩⟩⟩⟩⟩
theorem lw_p16 : lw_okq (⟨"LogCleanerModel", "takeOut", "()I"⟩, 23) := ⟨⟨by decide +kernel, by decide +kernel⟩, List.mem_of_getElem? (i := 363) (by decide +kernel), List.mem_of_getElem? (i := 478) (by decide +kernel), List.mem_of_getElem? (i := 479) (by decide +kernel)⟩
theorem lw_p17 : lw_okq (⟨"LogCleanerModel", "segments", "()I"⟩, 23) := ⟨⟨by decide +kernel, by decide +kernel⟩, List.mem_of_getElem? (i := 363) (by decide +kernel), List.mem_of_getElem? (i := 486) (by decide +kernel), List.mem_of_getElem? (i := 487) (by decide +kernel)⟩
theorem lw_p18 : lw_okq (⟨"LogCleanerModel", "countOf", "(I)I"⟩, 23) := ⟨⟨by decide +kernel, by decide +kernel⟩, List.mem_of_getElem? (i := 363) (by decide +kernel), List.mem_of_getElem? (i := 498) (by decide +kernel), List.mem_of_getElem? (i := 499) (by decide +kernel)⟩
def lw_privs_2 : List (MethodName × Nat) := [(⟨"LogCleanerModel", "takeOut", "()I"⟩, 23), (⟨"LogCleanerModel", "segments", "()I"⟩, 23), (⟨"LogCleanerModel", "countOf", "(I)I"⟩, 23)]
theorem lw_r2 : ∀ q ∈ lw_privs_2, lw_okq q := List.forall_mem_cons.mpr ⟨lw_p16, List.forall_mem_cons.mpr ⟨lw_p17, List.forall_mem_cons.mpr ⟨lw_p18, fun _ h => absurd h List.not_mem_nil⟩⟩⟩
def lw_privs : List (MethodName × Nat) := lw_privs_1 ++ (lw_privs_2)
def lw_tbl : List Cond := k2_sels lw_privs ++ tables_1
theorem lw_privs_ok : ∀ q ∈ lw_privs, lw_okq q := by
  show ∀ q ∈ lw_privs_1 ++ (lw_privs_2), lw_okq q
  exact List.forall_mem_append.mpr ⟨lw_r1, lw_r2⟩
/-! ===== BEGIN words of one list among another's, by their places ===== -/
theorem goodIn_r {big : List Cond} (ws : List Cond) (ps : List Nat) (hp : ws = ps.filterMap (fun i => big[i]?)) (h : ws.all goodWord = true) : GoodIn big ws := by
  intro w hw
  have h1 := List.all_eq_true.mp h w hw
  rw [hp] at hw
  obtain ⟨i, -, hi⟩ := List.mem_filterMap.mp hw
  have hm : w ∈ big := by first | exact List.mem_of_getElem? hi | exact List.getElem?_mem hi
  exact ⟨hm, good_of_word h1⟩
theorem goodIn_app {big a b : List Cond} (ha : GoodIn big a) (hb : GoodIn big b) : GoodIn big (a ++ b) := fun w h => (List.mem_append.mp h).elim (ha w) (hb w)
theorem goodIn_ca {big a b : List Cond} {c : Cond} (ha : GoodIn big (c :: a)) (hb : GoodIn big b) : GoodIn big (c :: (a ++ b)) := fun w h => (List.mem_cons.mp h).elim (fun e => ha w (List.mem_cons.mpr (Or.inl e))) (fun h => (List.mem_append.mp h).elim (fun h => ha w (List.mem_cons.mpr (Or.inr h))) (hb w))
theorem goodIn_sub {big ws : List Cond} (hm : ∀ w ∈ ws, w ∈ big) (h : ws.all goodWord = true) : GoodIn big ws := fun w hw => ⟨hm w hw, good_of_word (List.all_eq_true.mp h w hw)⟩
/-! ===== END ===== -/

/-! ===== BEGIN exceptions that leave a method, and their catching by the caller (launches without stack traces) ===== -/
section VXA
/-! The laws vx_back, vx_callV, vx_callS, vx_callSW, vx_throw0, vx_throwS follow proofs of the library, with one case more: JvmDerived/Free/Laws.lean (Back.of_free), Shelf42/LK1.lean (callV, callS), Shelf/KitTraced.lean (throwNew0V, throwNewS). -/

/-- where a method has thrown q: the class by its name, the cell, what was written, the world -/
def vx_T (XC : String → State → State → Prop) (st : State) (q : Addr) (t : State) (mc ms : Nat) (free : Addr → Prop) : Prop :=
  ∃ (E : String) (ce : Cell) (L : List Loc), XC E st t ∧ t.heap[q]? = some ce ∧ ce.vm = .none ∧ st.vm.findClass E = some ce.cls ∧ st.WarmedH t.vm ∧ st.sameButNew ({ t with vm := st.vm } : State) L mc ms ∧ ∀ z ∈ L, free z.base
def vx_Q (Qc : Array Value → State → Outcome → State → Prop) (XC : String → State → State → Prop) (mc ms : Nat) (free : Addr → Prop) : Array Value → State → Outcome → State → Prop := fun a st o t =>
  (Qc a st o t ∧ ∃ L, FrameEnd st o t L mc ms ∧ ∀ q ∈ L, free q.base) ∨ ∃ q, o = .threw q ∧ vx_T XC st q t mc ms free
/-- a callee that returns or throws -/
def vx_Met (l : Launch) (y : MethodName) (ws : List Cond) (rm : Room) (Pc : Array Value → State → Prop) (Qc : Array Value → State → Outcome → State → Prop) (XC : String → State → State → Prop) (mc ms : Nat) (free : Addr → Prop) : Prop :=
  MetFree l y (headSpec ws rm) Pc (fun _ _ _ _ _ => True) (vx_Q Qc XC mc ms free)
def vx_Post (XC : String → State → State → Prop) (mc ms : Nat) (free : Addr → Prop) : Pt → Array Value → Addr → Pt → Prop := fun A a q B =>
  ∃ (g : JFrame) (mk : MethodId) (t : State) (L : List Loc) (E : String) (ce : Cell), B.U.heap = t.heap ∧ B.U.vm = t.vm ∧ XC E (A.U.calling g mk a) t ∧ t.heap[q]? = some ce ∧ ce.vm = .none ∧ A.U.vm.findClass E = some ce.cls ∧ B.locs = A.locs ++ L ∧ (∀ z ∈ L, free z.base) ∧ B.cells = A.cells + mc ∧ B.slots = A.slots + ms
def vx_Back (l : Launch) (R : Room) (p : Program) (e : Env) (below : List Frame) (s : State) (sargs : Array Value) (y : MethodName) (len W9 : Nat)
    (Pre : Pt → Array Value → Prop) (Post : Pt → Array Value → Option Value → Pt → Prop) (PostX : Pt → Array Value → Addr → Pt → Prop) : Prop :=
  ∀ (m : MethodId) (meth : Method) (c : Code) (A : Pt) (g : JFrame) (ig : Instr) (mk : MethodId) (a : Array Value),
    Stand p l e R s m sargs below meth c A.U A.locs A.cells A.slots → g.method = m → g.locals.size = c.maxLocals → decode c.code g.pc = .ok (ig, len) →
    2 * g.monitorRoom + (g.stack.map fun v => v.category).sum ≤ W9 → A.U.methodNamed? y = some mk → Pre A a →
    (∃ (v : Option Value) (B : Pt), Stand p l e R s m sargs below meth c B.U B.locs B.cells B.slots ∧ Post A a v B ∧
      Steps p.tables e below (doInvoke e (A.U.setTop g) [] mk a).1 (B.U.setTop { g with pc := g.pc + len, stack := v.toList ++ g.stack })) ∨
    (∃ (q : Addr) (B : Pt), Stand p l e R s m sargs below meth c B.U B.locs B.cells B.slots ∧ PostX A a q B ∧
      Steps p.tables e below (doInvoke e (A.U.setTop g) [] mk a).1 ((B.U.setTop g).pushFrame (.throwing q)))
section Payer
variable {l : Launch} {R : Room} {p : Program} {e : Env} {below : List Frame} {s : State} {sargs : Array Value} {y : MethodName} {len W9 : Nat}
theorem vx_back {ws : List Cond} {rm : Room} {Pc : Array Value → State → Prop} {Qc : Array Value → State → Outcome → State → Prop} {XC : String → State → State → Prop} {mc ms : Nat} {free : Addr → Prop} {bytes : ByteArray} {maxL : Nat} {ret : Option FieldType}
    (hM : vx_Met l y ws rm Pc Qc XC mc ms free) (hblind : FrameBlind Pc) (hrc : rm.cells = mc) (hrs : rm.slots = ms)
    (hframes : rm.frames + 1 ≤ R.frames) (hlocals : W9 + (maxL + 11) + rm.locals ≤ R.locals)
    (hws : ∀ w ∈ ws, ∀ a' U, s.WarmedH U.vm → w.before a' U = true) (hcode : Cond.code y bytes maxL ret ∈ ws) (hinit : ∀ a' U, s.WarmedH U.vm → (Cond.initialized y.cls).before a' U = true) :
    vx_Back l R p e below s sargs y len W9 (PreOf R mc ms Pc) (PostOf Qc mc ms free) (vx_Post XC mc ms free) := by
  intro m meth c A g ig mk a X hg hsize hdg hW hn hp
  have h1 : (headSpec ws rm).pre.before a A.U = true := atoms_intro fun w hw => hws w hw _ _ X.warmed
  have h2 : (Cond.code y bytes maxL ret).before a A.U = true := hws _ hcode _ _ X.warmed
  have h3 : (Cond.initialized y.cls).before a A.U = true := hinit _ _ X.warmed
  have h4 : A.cells + (headSpec ws rm).room.cells ≤ R.cells := by rw [show (headSpec ws rm).room.cells = mc from hrc]; exact hp.1
  have h5 : A.slots + (headSpec ws rm).room.slots ≤ R.slots := by rw [show (headSpec ws rm).room.slots = ms from hrs]; exact hp.2.1
  have hPc : Pc a (A.U.calling g mk a) := hblind _ _ _ _ hp.2.2
  obtain ⟨U, Ls, c0, s0⟩ := A
  dsimp only [Pt.U, Pt.locs, Pt.cells, Pt.slots] at h1 h2 h3 h4 h5 X hn hPc ⊢
  obtain ⟨methY, cY, hmY, hcY, -, hlY, -, -, -, -⟩ := Cond.code_spec hn h2
  obtain ⟨kY, hkY, -⟩ := className_of_methodNamed hn
  have hinitY : kY.init = .initialized := Cond.initialized_spec (findClass_of_methodNamed hn) hkY h3
  have h : At U g.method c below := by rw [hg]; exact X.here
  have hlocals9 : W9 + (maxL + 11) + (headSpec ws rm).room.locals ≤ R.locals := hlocals
  have happ : (headSpec ws rm).appliesLoose y e.platform (U.calling g mk a) = true :=
    Spec.appliesLoose_calling (g := g) h hdg hn hkY hinitY
      (X.room_calling (g := g) (R' := (headSpec ws rm).room) hsize hmY hcY hframes (by rw [hlY]; omega) h4 h5) h1
  obtain ⟨mid, hmid⟩ := h.above
  have hfr : (U.setTop g).frames = (.java g :: mid) ++ below := by rw [State.frames_setTop' g h.top, hmid]; rfl
  obtain ⟨o, s₂, hsteps, -, hend, hq⟩ := Steps.callFree hM p X.admits X.cas X.clock (acts := []) hfr happ hPc trivial
  have hq' : vx_Q Qc XC mc ms free a (U.calling g mk a) o s₂ := hq
  rw [State.frames_setTop' g h.top] at hend
  obtain ⟨g₀, hg0⟩ := Option.isSome_iff_exists.mp h.top
  obtain ⟨r, hr⟩ := State.topJava?_eq_some.mp hg0
  have hr' : (({ U with heap := s₂.heap, slotsUsed := s₂.slotsUsed } : State).setVm s₂.vm).frames = .java g₀ :: r := hr
  rcases hq' with ⟨hqc, L, hfe, hL⟩ | ⟨q, rfl, E, ce, L, hx, hce, hcv, hcl, hW₂, hsm, hL⟩
  · obtain ⟨⟨v, rfl⟩, hW₂, e2, q2, q3, q4, q5, q6⟩ := id hfe
    have e3 : s₂ = ({ (U.calling g mk a).setFrames s₂.frames with heap := s₂.heap, slotsUsed := s₂.slotsUsed } : State).setVm s₂.vm := by
      have : s₂ = ({ s₂ with vm := (U.calling g mk a).vm } : State).setVm s₂.vm := rfl
      rw [e2] at this
      exact this
    obtain ⟨c₂, i₂, len₂, hc₂, hd₂, hf₂⟩ := hend
    have hW' : U.WarmedH s₂.vm := hW₂
    have hcc : c₂ = c := by
      have h1 : s₂.code? g.method = U.code? g.method := by
        rw [State.code?_eq, State.code?_eq, hW'.alike.method?]
      exact Option.some.inj (hc₂.symm.trans (h1.trans h.code))
    subst hcc
    have hlen : len₂ = len := by rw [hdg] at hd₂; cases hd₂; rfl
    subst hlen
    have hs₂ : s₂ = (({ U with heap := s₂.heap, slotsUsed := s₂.slotsUsed } : State).setVm s₂.vm).setTop { g with pc := g.pc + len₂, stack := v.toList ++ g.stack } := by
      refine e3.trans ?_
      rw [hf₂, State.calling_eq h.top, State.setFrames_setFrames, State.setTop_of_frames _ hr', hr]
      rfl
    have hsame : U.sameButNew ({ U with heap := s₂.heap, slotsUsed := s₂.slotsUsed } : State) L mc ms := by
      refine ⟨?_, q2, q3, q4, q5, q6⟩
      obtain ⟨t, ht, -⟩ := State.frames_cons hr
      show ({ U with heap := s₂.heap, slotsUsed := s₂.slotsUsed } : State) = { U.setFrames U.frames with heap := s₂.heap, slotsUsed := s₂.slotsUsed }
      rw [State.setFrames_self ht]
    subst hg
    refine Or.inl ⟨v, ⟨(({ U with heap := s₂.heap, slotsUsed := s₂.slotsUsed } : State).setVm s₂.vm), Ls ++ L, c0 + mc, s0 + ms⟩,
      ⟨X.admits, X.cas, X.clock, X.frames, X.room, X.hears, X.method, X.code, (X.here.setHeapUsed s₂.heap s₂.slotsUsed).setVm hW'.alike, X.tail, State.WarmedH.trans X.warmed hW', X.limits, X.bytes, X.same.trans (hsame.setVm s.vm)⟩,
      ⟨g, mk, s₂, L, rfl, rfl, hqc, rfl, hL, rfl, rfl⟩, ?_⟩
    show Steps p.tables e below _ ((({ U with heap := s₂.heap, slotsUsed := s₂.slotsUsed } : State).setVm s₂.vm).setTop { g with pc := g.pc + len₂, stack := v.toList ++ g.stack })
    rw [← hs₂]
    exact hsteps
  · obtain ⟨e2, q2, q3, q4, q5, q6⟩ := id hsm
    have e3 : s₂ = ({ (U.calling g mk a).setFrames s₂.frames with heap := s₂.heap, slotsUsed := s₂.slotsUsed } : State).setVm s₂.vm := by
      have : s₂ = ({ s₂ with vm := (U.calling g mk a).vm } : State).setVm s₂.vm := rfl
      rw [e2] at this
      exact this
    have hf₂ : s₂.frames = .throwing q :: .java g :: U.frames.tail := hend
    have hW' : U.WarmedH s₂.vm := hW₂
    have hs₂ : s₂ = ((({ U with heap := s₂.heap, slotsUsed := s₂.slotsUsed } : State).setVm s₂.vm).setTop g).pushFrame (.throwing q) := by
      refine e3.trans ?_
      rw [hf₂, State.calling_eq h.top, State.setFrames_setFrames, State.pushFrame, State.frames_setTop _ hr', State.setTop_of_frames _ hr', State.setFrames_setFrames, hr]
      rfl
    have hsame : U.sameButNew ({ U with heap := s₂.heap, slotsUsed := s₂.slotsUsed } : State) L mc ms := by
      refine ⟨?_, q2, q3, q4, q5, q6⟩
      obtain ⟨t, ht, -⟩ := State.frames_cons hr
      show ({ U with heap := s₂.heap, slotsUsed := s₂.slotsUsed } : State) = { U.setFrames U.frames with heap := s₂.heap, slotsUsed := s₂.slotsUsed }
      rw [State.setFrames_self ht]
    subst hg
    refine Or.inr ⟨q, ⟨(({ U with heap := s₂.heap, slotsUsed := s₂.slotsUsed } : State).setVm s₂.vm), Ls ++ L, c0 + mc, s0 + ms⟩,
      ⟨X.admits, X.cas, X.clock, X.frames, X.room, X.hears, X.method, X.code, (X.here.setHeapUsed s₂.heap s₂.slotsUsed).setVm hW'.alike, X.tail, State.WarmedH.trans X.warmed hW', X.limits, X.bytes, X.same.trans (hsame.setVm s.vm)⟩,
      ⟨g, mk, s₂, L, E, ce, rfl, rfl, hx, hce, hcv, hcl, rfl, hL, rfl, rfl⟩, ?_⟩
    show Steps p.tables e below _ (((({ U with heap := s₂.heap, slotsUsed := s₂.slotsUsed } : State).setVm s₂.vm).setTop g).pushFrame (.throwing q))
    rw [← hs₂]
    exact hsteps
end Payer
section Calls
variable {p : Program} {l : Launch} {e : Env} {R : Room} {s : State} {m : MethodId} {args : Array Value} {below : List Frame} {meth : Method} {c : Code} {T : State} {locs : List Loc} {cells slots : Nat}
theorem vx_callV (X : Stand p l e R s m args below meth c T locs cells slots) (hexec : p.tables.exec = Jvm.exec) {own C : String} {index : Nat} {y : MethodName} {bytes : ByteArray} {maxL : Nat} {ret : Option FieldType}
    (hown : s.vm.findClass own = some m.cls) (hlink : (Cond.methodLink own index y).before args s = true) (hinst : (Cond.instanceMethod y).before args s = true) (hsel : (Cond.selects C y y).before args s = true)
    (hcode : (Cond.code y bytes maxL ret).before args s = true) (hy : y.cls ≠ "java/lang/invoke/MethodHandle" ∧ y.cls ≠ "java/lang/invoke/VarHandle")
    {W9 : Nat} {Pre : Pt → Array Value → Prop} {Post : Pt → Array Value → Option Value → Pt → Prop} {PostX : Pt → Array Value → Addr → Pt → Prop} (hK : vx_Back l R p e below s args y 3 W9 Pre Post PostX)
    {b : Addr} {cellB : Cell} (hcell : T.heap[b]? = some cellB) (hobj : cellB.vm.isStatics = false) (hcls : s.vm.findClass C = some cellB.cls)
    {g : JFrame} (hg : g.method = m) (hsize : g.locals.size = c.maxLocals) {argsL rest : List Value} (hlen : ∀ sig, parseMethodDescriptor y.desc = some sig → argsL.length = sig.parameters.length)
    (hstack : g.stack = argsL.reverse ++ .ref b :: rest) (hW : 2 * g.monitorRoom + (rest.map fun v => v.category).sum ≤ W9) (hdg : decode c.code g.pc = .ok (.invokevirtual index, 3))
    (hpre : ∀ vm₁, s.WarmedH vm₁ → Pre ⟨T.setVm vm₁, locs, cells, slots⟩ (Value.ref b :: argsL).toArray) :
    (∃ (v : Option Value) (vm₁ : Vm) (B : Pt), s.WarmedH vm₁ ∧ Stand p l e R s m args below meth c B.U B.locs B.cells B.slots ∧ Post ⟨T.setVm vm₁, locs, cells, slots⟩ (Value.ref b :: argsL).toArray v B ∧
      ∀ target, Steps p.tables e below (B.U.setTop { g with pc := g.pc + 3, stack := v.toList ++ rest }) target → Steps p.tables e below (T.setTop g) target) ∨
    (∃ (q : Addr) (vm₁ : Vm) (B : Pt), s.WarmedH vm₁ ∧ Stand p l e R s m args below meth c B.U B.locs B.cells B.slots ∧ PostX ⟨T.setVm vm₁, locs, cells, slots⟩ (Value.ref b :: argsL).toArray q B ∧
      Steps p.tables e below (T.setTop g) ((B.U.setTop { g with stack := rest }).pushFrame (.throwing q))) := by
  obtain ⟨mk, methM, hnamed, hmethM, hstM, habM⟩ := Cond.instanceMethod_spec hinst
  obtain ⟨methM', cM, hmethM', -, -, -, -, -, -, hsigM⟩ := Cond.code_spec hnamed hcode
  cases hmethM.symm.trans hmethM'
  obtain ⟨c2, r2, m2, q1, q2, q3, q4, kP, hkP, hkPi⟩ := Cond.selects_spec hsel
  cases hcls.symm.trans q1
  cases (State.methodFound?_of_named hnamed hy).symm.trans q2
  cases hnamed.symm.trans q3
  have hselP : selectMethod e.platform s.vm cellB.cls mk = .method mk := by rw [Launch.admits_selectMethod X.admits]; exact q4
  obtain ⟨vm₁, X₁, hstep₁⟩ := X.invokevirtual hexec hown hlink hnamed hmethM hstM hkP hkPi hy (a := b) (cell := cellB) hcell
    (fun z h => by rw [h] at hobj; cases hobj) hselP hmethM habM hkP hkPi (g := g) hg (argsL := argsL) (rest := rest) (hlen _ hsigM) hstack hdg
  rcases hK m meth c ⟨T.setVm vm₁, locs, cells, slots⟩ { g with stack := rest } (.invokevirtual index) mk (Value.ref b :: argsL).toArray X₁ hg hsize hdg hW (X₁.named hnamed) (hpre vm₁ X₁.warmed) with ⟨v, B, X', hpost, hsteps⟩ | ⟨q, B, X', hpost, hsteps⟩
  · exact Or.inl ⟨v, vm₁, B, X₁.warmed, X', hpost, fun target h => hstep₁ _ fun acts => by rw [doInvoke_state]; exact hsteps.trans h⟩
  · exact Or.inr ⟨q, vm₁, B, X₁.warmed, X', hpost, hstep₁ _ fun acts => by rw [doInvoke_state]; exact hsteps⟩
theorem vx_callS (X : Stand p l e R s m args below meth c T locs cells slots) (hexec : p.tables.exec = Jvm.exec) {own : String} {index : Nat} {y : MethodName} {bytes : ByteArray} {maxL : Nat} {ret : Option FieldType}
    (hown : s.vm.findClass own = some m.cls) (hlink : (Cond.methodLink own index y).before args s = true) (hstat : (Cond.static y).before args s = true) (hinit : (Cond.initialized y.cls).before args s = true)
    (hcode : (Cond.code y bytes maxL ret).before args s = true) (hy : y.cls ≠ "java/lang/invoke/MethodHandle" ∧ y.cls ≠ "java/lang/invoke/VarHandle")
    {W9 : Nat} {Pre : Pt → Array Value → Prop} {Post : Pt → Array Value → Option Value → Pt → Prop} {PostX : Pt → Array Value → Addr → Pt → Prop} (hK : vx_Back l R p e below s args y 3 W9 Pre Post PostX)
    {g : JFrame} (hg : g.method = m) (hsize : g.locals.size = c.maxLocals) {argsL rest : List Value} (hlen : ∀ sig, parseMethodDescriptor y.desc = some sig → argsL.length = sig.parameters.length)
    (hstack : g.stack = argsL.reverse ++ rest) (hW : 2 * g.monitorRoom + (rest.map fun v => v.category).sum ≤ W9) (hdg : decode c.code g.pc = .ok (.invokestatic index, 3))
    (hpre : ∀ vm₁, s.WarmedH vm₁ → Pre ⟨T.setVm vm₁, locs, cells, slots⟩ argsL.toArray) :
    (∃ (v : Option Value) (vm₁ : Vm) (B : Pt), s.WarmedH vm₁ ∧ Stand p l e R s m args below meth c B.U B.locs B.cells B.slots ∧ Post ⟨T.setVm vm₁, locs, cells, slots⟩ argsL.toArray v B ∧
      ∀ target, Steps p.tables e below (B.U.setTop { g with pc := g.pc + 3, stack := v.toList ++ rest }) target → Steps p.tables e below (T.setTop g) target) ∨
    (∃ (q : Addr) (vm₁ : Vm) (B : Pt), s.WarmedH vm₁ ∧ Stand p l e R s m args below meth c B.U B.locs B.cells B.slots ∧ PostX ⟨T.setVm vm₁, locs, cells, slots⟩ argsL.toArray q B ∧
      Steps p.tables e below (T.setTop g) ((B.U.setTop { g with stack := rest }).pushFrame (.throwing q))) := by
  obtain ⟨mk, hnamed⟩ := Cond.code_named hcode
  obtain ⟨methM, cM, hmethM, -, -, -, -, -, -, hsigM⟩ := Cond.code_spec hnamed hcode
  have hstatic : methM.isStatic = true := Cond.static_spec hnamed hmethM hstat
  obtain ⟨kP, hkP, -⟩ := className_of_methodNamed hnamed
  have hinitP : kP.init = .initialized := Cond.initialized_spec (findClass_of_methodNamed hnamed) hkP hinit
  obtain ⟨vm₁, X₁, hstep₁⟩ := X.invokestatic hexec hown hlink hnamed hmethM hstatic hkP hinitP hy (g := g) hg (argsL := argsL) (rest := rest) (hlen _ hsigM) hstack hdg
  rcases hK m meth c ⟨T.setVm vm₁, locs, cells, slots⟩ { g with stack := rest } (.invokestatic index) mk argsL.toArray X₁ hg hsize hdg hW (X₁.named hnamed) (hpre vm₁ X₁.warmed) with ⟨v, B, X', hpost, hsteps⟩ | ⟨q, B, X', hpost, hsteps⟩
  · exact Or.inl ⟨v, vm₁, B, X₁.warmed, X', hpost, fun target h => hstep₁ _ fun acts => by rw [doInvoke_state]; exact hsteps.trans h⟩
  · exact Or.inr ⟨q, vm₁, B, X₁.warmed, X', hpost, hstep₁ _ fun acts => by rw [doInvoke_state]; exact hsteps⟩
end Calls
theorem vx_cls {s : State} {T : State} {vm₁ : Vm} {E : String} {k : ClassId} (hW : s.WarmedH vm₁) (h : (T.setVm vm₁).vm.findClass E = some k) : s.vm.findClass E = some k := by
  have h1 : vm₁.findClass E = some k := h
  rw [hW.alike.findClass] at h1
  exact h1
/-- the method's frame g, with q thrown over it -/
def vx_W (p : Program) (l : Launch) (e : Env) (R : Room) (s : State) (m : MethodId) (args : Array Value) (below : List Frame) (meth : Method) (c : Code) (H : Heap) (locs : List Loc) (cells slots : Nat) (Q : State → Prop) (g : JFrame) (q : Addr) : Prop :=
  ∀ T : State, T.heap = H → Stand p l e R s m args below meth c T locs cells slots → ∃ t, Steps p.tables e below ((T.setTop g).pushFrame (.throwing q)) t ∧ Q t
def vx_Run (p : Program) (l : Launch) (e : Env) (R : Room) (s : State) (m : MethodId) (args : Array Value) (below : List Frame) (meth : Method) (c : Code) (H : Heap) (locs : List Loc) (cells slots mc ms : Nat) (g : JFrame) (rest : List Value) (Qa : State → Outcome → State → Prop) (XC : String → State → State → Prop) (free : Addr → Prop) : Prop :=
  ∀ T : State, T.heap = H → Stand p l e R s m args below meth c T locs cells slots →
    (∃ (v : Option Value) (st₀ t T' : State) (L : List Loc), st₀.heap = H ∧ Stand p l e R s m args below meth c T' (locs ++ L) (cells + mc) (slots + ms) ∧ (∀ q ∈ L, free q.base) ∧ T'.heap = t.heap ∧ T'.vm = t.vm ∧ Qa st₀ (.returned v) t ∧
      Goes p e below T g T' { g with pc := g.pc + 3, stack := v.toList ++ rest }) ∨
    (∃ (q : Addr) (st₀ t T' : State) (L : List Loc) (E : String) (ce : Cell), st₀.heap = H ∧ Stand p l e R s m args below meth c T' (locs ++ L) (cells + mc) (slots + ms) ∧ (∀ z ∈ L, free z.base) ∧ T'.heap = t.heap ∧ T'.vm = t.vm ∧ XC E st₀ t ∧ t.heap[q]? = some ce ∧ ce.vm = .none ∧ s.vm.findClass E = some ce.cls ∧
      Steps p.tables e below (T.setTop g) ((T'.setTop { g with stack := rest }).pushFrame (.throwing q)))
def vx_X {S : Type} (px : S → Prop) (B : String → S → State → Prop) (A : Nat → Prop) : String → State → State → Prop := fun E st t => ∃ u : S, px u ∧ B E u t ∧ va_F A st t
section Runs
variable {p : Program} {l : Launch} {e : Env} {R : Room} {s : State} {m : MethodId} {args : Array Value} {below : List Frame} {meth : Method} {c : Code} {H : Heap} {locs : List Loc} {cells slots : Nat}
variable {y : MethodName} {bytes cc : ByteArray} {maxL nL mc ms n index : Nat} {ret : Option FieldType} {ws : List Cond} {rm : Room} {Pc : Array Value → State → Prop} {Qc : Array Value → State → Outcome → State → Prop} {XC : String → State → State → Prop} {free : Addr → Prop} {Ts : List Cond} {own C : String} {b : Addr} {As rest : List Value} {g : JFrame}
theorem vx_callBack (cb : CallB R s args own index y bytes maxL ret ws rm mc ms n) (hM : vx_Met l y ws rm Pc Qc XC mc ms free) (hbl : FrameBlind Pc) : vx_Back l R p e below s args y 3 8 (PreOf R mc ms Pc) (PostOf Qc mc ms free) (vx_Post XC mc ms free) := by
  obtain ⟨hrc, hrs, hfr, hlo, hws, hcw, -, hini, -⟩ := cb
  exact vx_back (bytes := bytes) (maxL := maxL) (ret := ret) hM hbl hrc hrs hfr hlo hws hcw (fun a' U hW => word_at hW (Or.inl (by first | rfl | simp [Cond.onTables, Cond.keeps, Cond.steady])) hini)
theorem vx_runV (S : CallFix p m c cc nL s args Ts own) (hM : vx_Met l y ws rm Pc Qc XC mc ms free) (cw : CallW R s args own C index y bytes maxL ret ws rm mc ms n) (hp : PreV s H C b Pc As)
    (hg : g.method = m) (hn : As.length = n) (hsize : g.locals.size = nL) (hstack : g.stack = As.reverse ++ .ref b :: rest) (hW : 2 * g.monitorRoom + (rest.map fun v => v.category).sum ≤ 8) (hdg : decode cc g.pc = .ok (.invokevirtual index, 3)) (hf : cells + mc ≤ R.cells ∧ slots + ms ≤ R.slots) :
    vx_Run p l e R s m args below meth c H locs cells slots mc ms g rest (Qc (Value.ref b :: As).toArray) XC free := by
  have hK : vx_Back l R p e below s args y 3 8 (PreOf R mc ms Pc) (PostOf Qc mc ms free) (vx_Post XC mc ms free) := vx_callBack cw.1 hM hp.1
  obtain ⟨⟨-, -, -, -, -, -, hcode, -, hy, hlen, hl⟩, hin, hse⟩ := cw
  obtain ⟨hx, hb, hml, ho, -⟩ := S
  obtain ⟨-, ⟨cellB, hcB, hoB, hclB⟩, hPc⟩ := hp
  intro T hT X
  rcases vx_callV X hx (C := C) (bytes := bytes) (maxL := maxL) (ret := ret) ho hl hin hse hcode hy hK (by rw [hT]; exact hcB) hoB hclB hg (hsize.trans hml.symm) (argsL := As) (rest := rest) (fun sig h => hn.trans (hlen sig h)) hstack hW (by rw [hb]; exact hdg)
    (fun vm₁ hW₁ => ⟨hf.1, hf.2, hPc (T.setVm vm₁) hT hW₁⟩) with ⟨v, vm₁, ⟨U', l2, c2, s2⟩, hW₁, X', ⟨g', mk, t, L, e1, e2, hq, h1, hL, h2, h3⟩, st⟩ | ⟨q, vm₁, ⟨U', l2, c2, s2⟩, hW₁, X', ⟨g', mk, t, L, E, ce, e1, e2, hq, hce, hcv, hcl, h1, hL, h2, h3⟩, st⟩
  · dsimp only [Pt.U, Pt.locs, Pt.cells, Pt.slots] at X' e1 e2 h1 h2 h3 st
    subst h1; subst h2; subst h3
    exact Or.inl ⟨v, (T.setVm vm₁).calling g' mk (Value.ref b :: As).toArray, t, U', L, hT, X', hL, e1, e2, hq, st⟩
  · dsimp only [Pt.U, Pt.locs, Pt.cells, Pt.slots] at X' e1 e2 h1 h2 h3 st hcl
    subst h1; subst h2; subst h3
    exact Or.inr ⟨q, (T.setVm vm₁).calling g' mk (Value.ref b :: As).toArray, t, U', L, E, ce, hT, X', hL, e1, e2, hq, hce, hcv, vx_cls hW₁ hcl, st⟩
theorem vx_runS (S : CallFix p m c cc nL s args Ts own) (hM : vx_Met l y ws rm Pc Qc XC mc ms free) (cw : CallB R s args own index y bytes maxL ret ws rm mc ms n ∧ (Cond.static y).before args s = true) (hp : PreS s H Pc As)
    (hg : g.method = m) (hn : As.length = n) (hsize : g.locals.size = nL) (hstack : g.stack = As.reverse ++ rest) (hW : 2 * g.monitorRoom + (rest.map fun v => v.category).sum ≤ 8) (hdg : decode cc g.pc = .ok (.invokestatic index, 3)) (hf : cells + mc ≤ R.cells ∧ slots + ms ≤ R.slots) :
    vx_Run p l e R s m args below meth c H locs cells slots mc ms g rest (Qc As.toArray) XC free := by
  have hK : vx_Back l R p e below s args y 3 8 (PreOf R mc ms Pc) (PostOf Qc mc ms free) (vx_Post XC mc ms free) := vx_callBack cw.1 hM hp.1
  obtain ⟨⟨-, -, -, -, -, -, hcode, hini, hy, hlen, hl⟩, hstt⟩ := cw
  obtain ⟨hx, hb, hml, ho, -⟩ := S
  intro T hT X
  rcases vx_callS X hx (bytes := bytes) (maxL := maxL) (ret := ret) ho hl hstt hini hcode hy hK hg (hsize.trans hml.symm) (argsL := As) (rest := rest) (fun sig h => hn.trans (hlen sig h)) hstack hW (by rw [hb]; exact hdg)
    (fun vm₁ hW₁ => ⟨hf.1, hf.2, hp.2 (T.setVm vm₁) hT hW₁⟩) with ⟨v, vm₁, ⟨U', l2, c2, s2⟩, hW₁, X', ⟨g', mk, t, L, e1, e2, hq, h1, hL, h2, h3⟩, st⟩ | ⟨q, vm₁, ⟨U', l2, c2, s2⟩, hW₁, X', ⟨g', mk, t, L, E, ce, e1, e2, hq, hce, hcv, hcl, h1, hL, h2, h3⟩, st⟩
  · dsimp only [Pt.U, Pt.locs, Pt.cells, Pt.slots] at X' e1 e2 h1 h2 h3 st
    subst h1; subst h2; subst h3
    exact Or.inl ⟨v, (T.setVm vm₁).calling g' mk As.toArray, t, U', L, hT, X', hL, e1, e2, hq, st⟩
  · dsimp only [Pt.U, Pt.locs, Pt.cells, Pt.slots] at X' e1 e2 h1 h2 h3 st hcl
    subst h1; subst h2; subst h3
    exact Or.inr ⟨q, (T.setVm vm₁).calling g' mk As.toArray, t, U', L, E, ce, hT, X', hL, e1, e2, hq, hce, hcv, vx_cls hW₁ hcl, st⟩
end Runs
section Rows
variable {p : Program} {l : Launch} {e : Env} {R : Room} {s : State} {m : MethodId} {args : Array Value} {below : List Frame} {meth : Method} {c : Code} {H : Heap} {locs : List Loc} {cells slots : Nat} {Q : State → Prop}
variable {mc ms : Nat} {free : Addr → Prop} {A0 A1 : Nat → Prop} {H0 : Heap} {a : Array Value} {pc : Nat} {ls : Array Slot} {st0 rest : List Value}
theorem vx_keep {st₀ t T' : State} {L : List Loc} (h0 : st₀.heap = H) (e1 : T'.heap = t.heap) (hS : va_S A0 H0 H locs) (hA : ∀ q, q < H.size → A1 q → A0 q) (hf : ∀ q, free q → A0 q) (hL : ∀ q ∈ L, free q.base) (hF : va_F A1 st₀ t) :
    H.size ≤ T'.heap.size ∧ (∀ q : Nat, q < H.size → ¬ A1 q → T'.heap[q]? = H[q]?) ∧ va_S A0 H0 T'.heap (locs ++ L) := by
  obtain ⟨hz, hk⟩ := hF
  rw [h0] at hz hk
  exact ⟨by rw [e1]; exact hz, fun q h1 h2 => by rw [e1]; exact hk q h1 h2,
    ⟨Nat.le_trans hS.1 (by rw [e1]; exact hz), fun q h1 h2 => by rw [e1, hk q (Nat.lt_of_lt_of_le h1 hS.1) (fun z => h2 (hA q (Nat.lt_of_lt_of_le h1 hS.1) z))]; exact hS.2.1 q h1 h2, fun q hq => by
      rcases List.mem_append.mp hq with h | h
      · exact hS.2.2 q h
      · exact hf _ (hL q h)⟩⟩
theorem vx_calli {S SX : Type} {post : Int32 → S → Prop} {px : SX → Prop} {B : S → State → Prop} {BX : String → SX → State → Prop} {AX : Nat → Prop} (hr : vx_Run p l e R s m args below meth c H locs cells slots mc ms (F0 m pc ls st0) rest (va_Qi post B A1 a) (vx_X px BX AX) free) (hS : va_S A0 H0 H locs) (hA : ∀ q, q < H.size → A1 q → A0 q) (hf : ∀ q, free q → A0 q) (hAX : ∀ q, q < H.size → AX q → A0 q)
    (kx : ∀ (E : String) (ce : Cell) (q9 : Addr) (u : SX) (t : State) (H1 : Heap) (locs1 : List Loc), t.heap = H1 → s.vm.Alike t.vm → px u → BX E u t → H.size ≤ H1.size → (∀ q : Nat, q < H.size → ¬ AX q → H1[q]? = H[q]?) → va_S A0 H0 H1 locs1 → H1[q9]? = some ce → ce.vm = .none → s.vm.findClass E = some ce.cls → vx_W p l e R s m args below meth c H1 locs1 (cells + mc) (slots + ms) Q (F0 m pc ls rest) q9)
    (kk : ∀ (r : Int32) (u : S) (t : State) (H1 : Heap) (locs1 : List Loc), t.heap = H1 → s.vm.Alike t.vm → post r u → B u t → H.size ≤ H1.size → (∀ q : Nat, q < H.size → ¬ A1 q → H1[q]? = H[q]?) → va_S A0 H0 H1 locs1 → W p l e R s m args below meth c H1 locs1 (cells + mc) (slots + ms) Q (F0 m (pc + 3) ls (.int r :: rest))) : W p l e R s m args below meth c H locs cells slots Q (F0 m pc ls st0) := by
  intro T hT X
  rcases hr T hT X with ⟨v, st₀, t, T', L, h0, X', hL, e1, e2, ⟨⟨r, u, hv, hp, hb⟩, hF⟩, st⟩ | ⟨q, st₀, t, T', L, E, ce, h0, X', hL, e1, e2, ⟨u, hp, hb, hF⟩, hce, hcv, hcl, st⟩
  · cases hv
    obtain ⟨k1, k2, k3⟩ := vx_keep h0 e1 hS hA hf hL hF
    obtain ⟨t2, a1, b1⟩ := kk r u t T'.heap (locs ++ L) e1.symm (by rw [← e2]; exact X'.warmed.alike) hp hb k1 k2 k3 T' rfl X'
    exact ⟨t2, st t2 a1, b1⟩
  · obtain ⟨k1, k2, k3⟩ := vx_keep h0 e1 hS hAX hf hL hF
    obtain ⟨t2, a1, b1⟩ := kx E ce q u t T'.heap (locs ++ L) e1.symm (by rw [← e2]; exact X'.warmed.alike) hp hb k1 k2 k3 (by rw [e1]; exact hce) hcv hcl T' rfl X'
    exact ⟨t2, st.trans a1, b1⟩
theorem vx_calll {S SX : Type} {post : Int64 → S → Prop} {px : SX → Prop} {B : S → State → Prop} {BX : String → SX → State → Prop} {AX : Nat → Prop} (hr : vx_Run p l e R s m args below meth c H locs cells slots mc ms (F0 m pc ls st0) rest (va_Ql post B A1 a) (vx_X px BX AX) free) (hS : va_S A0 H0 H locs) (hA : ∀ q, q < H.size → A1 q → A0 q) (hf : ∀ q, free q → A0 q) (hAX : ∀ q, q < H.size → AX q → A0 q)
    (kx : ∀ (E : String) (ce : Cell) (q9 : Addr) (u : SX) (t : State) (H1 : Heap) (locs1 : List Loc), t.heap = H1 → s.vm.Alike t.vm → px u → BX E u t → H.size ≤ H1.size → (∀ q : Nat, q < H.size → ¬ AX q → H1[q]? = H[q]?) → va_S A0 H0 H1 locs1 → H1[q9]? = some ce → ce.vm = .none → s.vm.findClass E = some ce.cls → vx_W p l e R s m args below meth c H1 locs1 (cells + mc) (slots + ms) Q (F0 m pc ls rest) q9)
    (kk : ∀ (r : Int64) (u : S) (t : State) (H1 : Heap) (locs1 : List Loc), t.heap = H1 → s.vm.Alike t.vm → post r u → B u t → H.size ≤ H1.size → (∀ q : Nat, q < H.size → ¬ A1 q → H1[q]? = H[q]?) → va_S A0 H0 H1 locs1 → W p l e R s m args below meth c H1 locs1 (cells + mc) (slots + ms) Q (F0 m (pc + 3) ls (.long r :: rest))) : W p l e R s m args below meth c H locs cells slots Q (F0 m pc ls st0) := by
  intro T hT X
  rcases hr T hT X with ⟨v, st₀, t, T', L, h0, X', hL, e1, e2, ⟨⟨r, u, hv, hp, hb⟩, hF⟩, st⟩ | ⟨q, st₀, t, T', L, E, ce, h0, X', hL, e1, e2, ⟨u, hp, hb, hF⟩, hce, hcv, hcl, st⟩
  · cases hv
    obtain ⟨k1, k2, k3⟩ := vx_keep h0 e1 hS hA hf hL hF
    obtain ⟨t2, a1, b1⟩ := kk r u t T'.heap (locs ++ L) e1.symm (by rw [← e2]; exact X'.warmed.alike) hp hb k1 k2 k3 T' rfl X'
    exact ⟨t2, st t2 a1, b1⟩
  · obtain ⟨k1, k2, k3⟩ := vx_keep h0 e1 hS hAX hf hL hF
    obtain ⟨t2, a1, b1⟩ := kx E ce q u t T'.heap (locs ++ L) e1.symm (by rw [← e2]; exact X'.warmed.alike) hp hb k1 k2 k3 (by rw [e1]; exact hce) hcv hcl T' rfl X'
    exact ⟨t2, st.trans a1, b1⟩
theorem vx_callf {S SX : Type} {post : UInt32 → S → Prop} {px : SX → Prop} {B : S → State → Prop} {BX : String → SX → State → Prop} {AX : Nat → Prop} (hr : vx_Run p l e R s m args below meth c H locs cells slots mc ms (F0 m pc ls st0) rest (va_Qf post B A1 a) (vx_X px BX AX) free) (hS : va_S A0 H0 H locs) (hA : ∀ q, q < H.size → A1 q → A0 q) (hf : ∀ q, free q → A0 q) (hAX : ∀ q, q < H.size → AX q → A0 q)
    (kx : ∀ (E : String) (ce : Cell) (q9 : Addr) (u : SX) (t : State) (H1 : Heap) (locs1 : List Loc), t.heap = H1 → s.vm.Alike t.vm → px u → BX E u t → H.size ≤ H1.size → (∀ q : Nat, q < H.size → ¬ AX q → H1[q]? = H[q]?) → va_S A0 H0 H1 locs1 → H1[q9]? = some ce → ce.vm = .none → s.vm.findClass E = some ce.cls → vx_W p l e R s m args below meth c H1 locs1 (cells + mc) (slots + ms) Q (F0 m pc ls rest) q9)
    (kk : ∀ (r : UInt32) (u : S) (t : State) (H1 : Heap) (locs1 : List Loc), t.heap = H1 → s.vm.Alike t.vm → post r u → B u t → H.size ≤ H1.size → (∀ q : Nat, q < H.size → ¬ A1 q → H1[q]? = H[q]?) → va_S A0 H0 H1 locs1 → W p l e R s m args below meth c H1 locs1 (cells + mc) (slots + ms) Q (F0 m (pc + 3) ls (.float r :: rest))) : W p l e R s m args below meth c H locs cells slots Q (F0 m pc ls st0) := by
  intro T hT X
  rcases hr T hT X with ⟨v, st₀, t, T', L, h0, X', hL, e1, e2, ⟨⟨r, u, hv, hp, hb⟩, hF⟩, st⟩ | ⟨q, st₀, t, T', L, E, ce, h0, X', hL, e1, e2, ⟨u, hp, hb, hF⟩, hce, hcv, hcl, st⟩
  · cases hv
    obtain ⟨k1, k2, k3⟩ := vx_keep h0 e1 hS hA hf hL hF
    obtain ⟨t2, a1, b1⟩ := kk r u t T'.heap (locs ++ L) e1.symm (by rw [← e2]; exact X'.warmed.alike) hp hb k1 k2 k3 T' rfl X'
    exact ⟨t2, st t2 a1, b1⟩
  · obtain ⟨k1, k2, k3⟩ := vx_keep h0 e1 hS hAX hf hL hF
    obtain ⟨t2, a1, b1⟩ := kx E ce q u t T'.heap (locs ++ L) e1.symm (by rw [← e2]; exact X'.warmed.alike) hp hb k1 k2 k3 (by rw [e1]; exact hce) hcv hcl T' rfl X'
    exact ⟨t2, st.trans a1, b1⟩
theorem vx_calld {S SX : Type} {post : UInt64 → S → Prop} {px : SX → Prop} {B : S → State → Prop} {BX : String → SX → State → Prop} {AX : Nat → Prop} (hr : vx_Run p l e R s m args below meth c H locs cells slots mc ms (F0 m pc ls st0) rest (va_Qd post B A1 a) (vx_X px BX AX) free) (hS : va_S A0 H0 H locs) (hA : ∀ q, q < H.size → A1 q → A0 q) (hf : ∀ q, free q → A0 q) (hAX : ∀ q, q < H.size → AX q → A0 q)
    (kx : ∀ (E : String) (ce : Cell) (q9 : Addr) (u : SX) (t : State) (H1 : Heap) (locs1 : List Loc), t.heap = H1 → s.vm.Alike t.vm → px u → BX E u t → H.size ≤ H1.size → (∀ q : Nat, q < H.size → ¬ AX q → H1[q]? = H[q]?) → va_S A0 H0 H1 locs1 → H1[q9]? = some ce → ce.vm = .none → s.vm.findClass E = some ce.cls → vx_W p l e R s m args below meth c H1 locs1 (cells + mc) (slots + ms) Q (F0 m pc ls rest) q9)
    (kk : ∀ (r : UInt64) (u : S) (t : State) (H1 : Heap) (locs1 : List Loc), t.heap = H1 → s.vm.Alike t.vm → post r u → B u t → H.size ≤ H1.size → (∀ q : Nat, q < H.size → ¬ A1 q → H1[q]? = H[q]?) → va_S A0 H0 H1 locs1 → W p l e R s m args below meth c H1 locs1 (cells + mc) (slots + ms) Q (F0 m (pc + 3) ls (.double r :: rest))) : W p l e R s m args below meth c H locs cells slots Q (F0 m pc ls st0) := by
  intro T hT X
  rcases hr T hT X with ⟨v, st₀, t, T', L, h0, X', hL, e1, e2, ⟨⟨r, u, hv, hp, hb⟩, hF⟩, st⟩ | ⟨q, st₀, t, T', L, E, ce, h0, X', hL, e1, e2, ⟨u, hp, hb, hF⟩, hce, hcv, hcl, st⟩
  · cases hv
    obtain ⟨k1, k2, k3⟩ := vx_keep h0 e1 hS hA hf hL hF
    obtain ⟨t2, a1, b1⟩ := kk r u t T'.heap (locs ++ L) e1.symm (by rw [← e2]; exact X'.warmed.alike) hp hb k1 k2 k3 T' rfl X'
    exact ⟨t2, st t2 a1, b1⟩
  · obtain ⟨k1, k2, k3⟩ := vx_keep h0 e1 hS hAX hf hL hF
    obtain ⟨t2, a1, b1⟩ := kx E ce q u t T'.heap (locs ++ L) e1.symm (by rw [← e2]; exact X'.warmed.alike) hp hb k1 k2 k3 (by rw [e1]; exact hce) hcv hcl T' rfl X'
    exact ⟨t2, st.trans a1, b1⟩
theorem vx_callv {S SX : Type} {post : S → Prop} {px : SX → Prop} {B : S → State → Prop} {BX : String → SX → State → Prop} {AX : Nat → Prop} (hr : vx_Run p l e R s m args below meth c H locs cells slots mc ms (F0 m pc ls st0) rest (va_Qv post B A1 a) (vx_X px BX AX) free) (hS : va_S A0 H0 H locs) (hA : ∀ q, q < H.size → A1 q → A0 q) (hf : ∀ q, free q → A0 q) (hAX : ∀ q, q < H.size → AX q → A0 q)
    (kx : ∀ (E : String) (ce : Cell) (q9 : Addr) (u : SX) (t : State) (H1 : Heap) (locs1 : List Loc), t.heap = H1 → s.vm.Alike t.vm → px u → BX E u t → H.size ≤ H1.size → (∀ q : Nat, q < H.size → ¬ AX q → H1[q]? = H[q]?) → va_S A0 H0 H1 locs1 → H1[q9]? = some ce → ce.vm = .none → s.vm.findClass E = some ce.cls → vx_W p l e R s m args below meth c H1 locs1 (cells + mc) (slots + ms) Q (F0 m pc ls rest) q9)
    (kk : ∀ (u : S) (t : State) (H1 : Heap) (locs1 : List Loc), t.heap = H1 → s.vm.Alike t.vm → post u → B u t → H.size ≤ H1.size → (∀ q : Nat, q < H.size → ¬ A1 q → H1[q]? = H[q]?) → va_S A0 H0 H1 locs1 → W p l e R s m args below meth c H1 locs1 (cells + mc) (slots + ms) Q (F0 m (pc + 3) ls (rest))) : W p l e R s m args below meth c H locs cells slots Q (F0 m pc ls st0) := by
  intro T hT X
  rcases hr T hT X with ⟨v, st₀, t, T', L, h0, X', hL, e1, e2, ⟨⟨u, hv, hp, hb⟩, hF⟩, st⟩ | ⟨q, st₀, t, T', L, E, ce, h0, X', hL, e1, e2, ⟨u, hp, hb, hF⟩, hce, hcv, hcl, st⟩
  · cases hv
    obtain ⟨k1, k2, k3⟩ := vx_keep h0 e1 hS hA hf hL hF
    obtain ⟨t2, a1, b1⟩ := kk u t T'.heap (locs ++ L) e1.symm (by rw [← e2]; exact X'.warmed.alike) hp hb k1 k2 k3 T' rfl X'
    exact ⟨t2, st t2 a1, b1⟩
  · obtain ⟨k1, k2, k3⟩ := vx_keep h0 e1 hS hAX hf hL hF
    obtain ⟨t2, a1, b1⟩ := kx E ce q u t T'.heap (locs ++ L) e1.symm (by rw [← e2]; exact X'.warmed.alike) hp hb k1 k2 k3 (by rw [e1]; exact hce) hcv hcl T' rfl X'
    exact ⟨t2, st.trans a1, b1⟩
/-- caught by the row x of this method's table; the rows ahead don't take it -/
theorem vx_catch {own name : String} {E : String} {ce : Cell} {q : Addr} (hown : s.vm.findClass own = some m.cls) (pre : List ExceptionTableEntry) (x : ExceptionTableEntry) (suf : List ExceptionTableEntry) (hsplit : c.exceptionTable.toList = pre ++ x :: suf)
    (hpass : ∀ z ∈ pre, covers z pc = false ∨ (z.catchType ≠ 0 ∧ ∃ nm : String, (Cond.classLink own z.catchType nm).before args s = true ∧ va_Nc E nm s)) (hx : covers x pc = true) (h0 : x.catchType ≠ 0)
    (hlink : (Cond.classLink own x.catchType name).before args s = true) (hcast : (Cond.castable E name).before args s = true) (hcell : H[q]? = some ce) (hv : ce.vm = .none) (hcl : s.vm.findClass E = some ce.cls)
    (kk : W p l e R s m args below meth c H locs cells slots Q (F0 m x.handlerPc ls [.ref q])) : vx_W p l e R s m args below meth c H locs cells slots Q (F0 m pc ls rest) q := by
  intro T hT X
  have hpl : e.platform.magicAccessors = ({} : Platform).magicAccessors := by rw [X.admits.platform]
  obtain ⟨c3, c4, hc3, hc4, hasg⟩ := Cond.castable_spec hcast
  cases Option.some.inj (hc3.symm.trans hcl)
  obtain ⟨c5, hc5, hcl5⟩ := Cond.classLink_spec hown hlink e.platform hpl
  cases Option.some.inj (hc4.symm.trans hc5)
  obtain ⟨vm', X', st⟩ := X.thenCaughtThrough q (g := F0 m pc ls rest) rfl (Steps.refl _) (by rw [hT]; exact hcell) (by rw [hv]; rfl) (by obtain ⟨k9, h9, -⟩ := Vm.findClass_spec hcl; exact ⟨k9, h9⟩) pre x suf hsplit
    (fun z hz => by
      rcases hpass z hz with h | ⟨hz0, nm, hl1, hn1⟩
      · exact Or.inl h
      · obtain ⟨c6, hc6, hcl6⟩ := Cond.classLink_spec hown hl1 e.platform hpl
        obtain ⟨a8, b8, h1, h2, h3⟩ := hn1
        cases Option.some.inj (h1.symm.trans hcl)
        cases Option.some.inj (h2.symm.trans hc6)
        exact Or.inr ⟨hz0, _, hcl6, h3⟩) hx (Or.inr ⟨h0, c4, hcl5, hasg⟩)
  obtain ⟨t, a1, b1⟩ := kk (T.setVm vm') hT X'
  exact ⟨t, st.trans a1, b1⟩
end Rows
section Ends
variable {p : Program} {l : Launch} {e : Env} {R : Room} {s : State} {m : MethodId} {args : Array Value} {below : List Frame} {meth : Method} {c : Code} {H : Heap} {locs : List Loc} {cells slots : Nat} {Q : State → Prop}
variable {mc ms : Nat} {free : Addr → Prop} {A0 A1 : Nat → Prop} {H0 : Heap} {a : Array Value} {ls : Array Slot} {st0 rest : List Value}
variable {Qc : Array Value → State → Outcome → State → Prop} {XC : String → State → State → Prop}
/-- what a body that may throw owes at its end -/
def vx_MQ (below : List Frame) (Qc : Array Value → State → Outcome → State → Prop) (XC : String → State → State → Prop) (a : Array Value) (s : State) (mc ms : Nat) (free : Addr → Prop) : State → Prop := fun t =>
  ∃ o, t.status = .running ∧ Ended t below o ∧ vx_Q Qc XC mc ms free a s o t
theorem vx_ret {g : JFrame} {mc ms : Nat} (k : W p l e R s m args below meth c H locs cells slots (MQ below Qc args s mc ms free) g) : W p l e R s m args below meth c H locs cells slots (vx_MQ below Qc XC args s mc ms free) g := by
  intro T hT X
  obtain ⟨t, a1, o, b1, b2, b3, b4⟩ := k T hT X
  exact ⟨t, a1, o, b1, b2, Or.inl ⟨b3, b4⟩⟩
/-- not caught here: it goes on to the caller -/
theorem vx_widen {g : JFrame} {q : Addr} {k n : Nat} (h1 : cells ≤ k) (h2 : slots ≤ n) (kk : vx_W p l e R s m args below meth c H locs k n Q g q) : vx_W p l e R s m args below meth c H locs cells slots Q g q := fun T hT X => kk T hT (stand_widen X h1 h2)
theorem vx_out {pc : Nat} {E : String} {ce : Cell} {q : Addr} {mc ms : Nat} (hout : ∀ x ∈ c.exceptionTable.toList, covers x pc = false) (hlocks : meth.locks = false) (hcell : H[q]? = some ce) (hv : ce.vm = .none) (hcl : s.vm.findClass E = some ce.cls)
    (hx : ∀ t : State, t.heap = H → s.vm.Alike t.vm → XC E s t) (hf : ∀ z ∈ locs, free z.base) (hc : cells ≤ mc) (hs : slots ≤ ms) :
    vx_W p l e R s m args below meth c H locs cells slots (vx_MQ below Qc XC args s mc ms free) (F0 m pc ls rest) q := by
  intro T hT X
  obtain ⟨st1, hrun, hend, hW, hsm⟩ := X.leaveThrown q (g := F0 m pc ls rest) rfl rfl rfl hout hlocks
  have hcell9 : (T.setFrames (.throwing q :: below)).heap[q]? = some ce := by
    show T.heap[q]? = some ce
    rw [hT]; exact hcell
  exact ⟨_, st1, .threw q, hrun, hend, Or.inr ⟨q, rfl, E, ce, locs, hx _ hT hW.alike, hcell9, hv, hcl, hW, hsm.mono hc hs, hf⟩⟩
theorem vx_frame {U : State} {k n : Nat} (h : s.sameButNew ({ U with vm := s.vm } : State) locs k n) : s.heap.size ≤ U.heap.size ∧ ∀ q : Nat, q < s.heap.size → (∀ z ∈ locs, z.base ≠ q) → U.heap[q]? = s.heap[q]? := by
  obtain ⟨-, h2, -, -, -, h6⟩ := h
  refine ⟨h2, fun q hq hz => ?_⟩
  obtain ⟨c9, e1, e2, e3, e4⟩ := h6 q _ (Array.getElem?_eq_getElem hq)
  have hs : c9.slots = (s.heap[q]).slots := Array.ext_getElem? fun i => e4 i fun hm => hz _ hm rfl
  have h9 : c9 = s.heap[q] := by
    rw [hs] at e2
    exact e2
  have e5 : U.heap[q]? = some c9 := e1
  rw [e5, h9, Array.getElem?_eq_getElem hq]
/-- the words of a throw but the four that speak of the heap -/
def vx_no (w : Cond) : Bool := decide (w ≠ .isRef (.static Bundle.tN "UNASSIGNED_STACK" Bundle.steD)) && decide (w ≠ .isRef (.static Bundle.tN "SUPPRESSED_SENTINEL" Bundle.listD)) && decide (w ≠ .laysStatic Bundle.tN "UNASSIGNED_STACK" Bundle.steD) && decide (w ≠ .laysStatic Bundle.tN "SUPPRESSED_SENTINEL" Bundle.listD)
def vx_at0 (own : String) (ic : Nat) (X : String) (names : List String) : List Cond := (Bundle.ownAtoms0 own ic X names).filter vx_no
def vx_atS (own : String) (ic : Nat) (X : String) (names : List String) : List Cond := (Bundle.ownAtoms own ic X names).filter vx_no
/-- a word that the tables alone decide, or a good one -/
def vx_ot (w : Cond) : Bool := w.onTables || goodWord w
theorem vx_ot_at {args a' : Array Value} {s U : State} {w : Cond} (hW : s.WarmedH U.vm) (hvm : s.vm = U.vm) (hg : vx_ot w = true) (h : w.before args s = true) : w.before a' U = true := by
  simp only [vx_ot, Bool.or_eq_true] at hg
  rcases hg with hg | hg
  · exact va_tabs hg hvm h
  · exact word_at hW (good_of_word hg) h
/-- a list's words: the good ones out of the method's own list, the others by premises of their own -/
theorem vx_hat {args : Array Value} {s : State} {L B : List Cond} (h1 : ∀ w ∈ L.filter goodWord, w.before args s = true) (h2 : ∀ w ∈ L.filter (fun w => !goodWord w), w ∈ B) (h3 : ∀ w ∈ B, w.before args s = true) : ∀ w ∈ L, w.before args s = true := by
  intro w hw
  by_cases g : goodWord w = true
  · exact h1 w (List.mem_filter.mpr ⟨hw, g⟩)
  · refine h3 w (h2 w (List.mem_filter.mpr ⟨hw, ?_⟩))
    show (!goodWord w) = true
    cases hgw : goodWord w
    · rfl
    · exact absurd hgw g
theorem vx_c {args : Array Value} {s : State} {w : Cond} {B : List Cond} (h : w.before args s = true) (t : ∀ w ∈ B, w.before args s = true) : ∀ w' ∈ w :: B, w'.before args s = true := fun w' h' => (List.mem_cons.mp h').elim (fun e => by rw [e]; exact h) (t w')
theorem vx_n {args : Array Value} {s : State} : ∀ w ∈ ([] : List Cond), w.before args s = true := fun _ h => nomatch h
theorem vx_own {args : Array Value} {s : State} {L : List Cond} (h1 : ∀ w ∈ L.filter vx_no, w.before args s = true)
    (hU : (Cond.isRef (.static Bundle.tN "UNASSIGNED_STACK" Bundle.steD)).before args s = true) (hN : (Cond.isRef (.static Bundle.tN "SUPPRESSED_SENTINEL" Bundle.listD)).before args s = true)
    (lU : (Cond.laysStatic Bundle.tN "UNASSIGNED_STACK" Bundle.steD).before args s = true) (lN : (Cond.laysStatic Bundle.tN "SUPPRESSED_SENTINEL" Bundle.listD).before args s = true) : ∀ w ∈ L, w.before args s = true := by
  intro w hw
  by_cases e1 : w = .isRef (.static Bundle.tN "UNASSIGNED_STACK" Bundle.steD)
  · rw [e1]; exact hU
  · by_cases e2 : w = .isRef (.static Bundle.tN "SUPPRESSED_SENTINEL" Bundle.listD)
    · rw [e2]; exact hN
    · by_cases e3 : w = .laysStatic Bundle.tN "UNASSIGNED_STACK" Bundle.steD
      · rw [e3]; exact lU
      · by_cases e4 : w = .laysStatic Bundle.tN "SUPPRESSED_SENTINEL" Bundle.listD
        · rw [e4]; exact lN
        · exact h1 w (List.mem_filter.mpr ⟨hw, by unfold vx_no; rw [decide_eq_true e1, decide_eq_true e2, decide_eq_true e3, decide_eq_true e4]; rfl⟩)
/-- where a static field lies, its class's statics cell in H -/
def vx_L (C n d : String) (A : Nat → Prop) (U : State) (H : Heap) : Prop := ∃ (c : ClassId) (k : Class) (i : Nat) (f : Field) (a : Nat) (cell : Cell), U.vm.findClass C = some c ∧ U.fieldFound? C n d = some (c, k, i, f) ∧ f.isStatic = true ∧ k.statics = some a ∧ H[a]? = some cell ∧ cell.vm.isStatics = true ∧ cell.cls = c ∧ f.slot < cell.slots.size ∧ k.staticTypes[f.slot]? = some f.type ∧ ¬ A a
theorem vx_L.moved {C n d : String} {A : Nat → Prop} {u U : State} {H : Heap} (hvm : u.vm.Alike U.vm) (h : vx_L C n d A u H) : vx_L C n d A U H := by
  obtain ⟨c, k, i, f, a, cell, h1, h2, h3, h4, h5, h6, h7, h8, h9, h10⟩ := h
  obtain ⟨k', hi', he⟩ := State.fieldFound?_setVm hvm h2
  exact ⟨c, k', i, f, a, cell, by rw [hvm.findClass]; exact h1, hi', h3, by rw [he]; exact h4, h5, h6, h7, h8, by rw [he]; exact h9, h10⟩
theorem vx_L.kept {C n d : String} {A : Nat → Prop} {U : State} {H H1 : Heap} (h : vx_L C n d A U H) (hq : ∀ a : Nat, a < H.size → ¬ A a → H1[a]? = H[a]?) : vx_L C n d A U H1 := by
  obtain ⟨c, k, i, f, a, cell, h1, h2, h3, h4, h5, h6, h7, h8, h9, h10⟩ := h
  exact ⟨c, k, i, f, a, cell, h1, h2, h3, h4, by rw [hq a (Array.getElem?_eq_some_iff.mp h5).1 h10]; exact h5, h6, h7, h8, h9, h10⟩
theorem vx_L.narrow {C n d : String} {A B : Nat → Prop} {U : State} {H : Heap} (h : vx_L C n d A U H) (hAB : ∀ q, B q → A q) : vx_L C n d B U H := by
  obtain ⟨c, k, i, f, a, cell, h1, h2, h3, h4, h5, h6, h7, h8, h9, h10⟩ := h
  exact ⟨c, k, i, f, a, cell, h1, h2, h3, h4, h5, h6, h7, h8, h9, fun z => h10 (hAB _ z)⟩
theorem vx_L.word {C n d : String} {A : Nat → Prop} {s : State} {args : Array Value} (h : vx_L C n d A s s.heap) : (Cond.laysStatic C n d).before args s = true := by
  obtain ⟨c, k, i, f, a, cell, h1, h2, h3, h4, h5, h6, h7, h8, h9, -⟩ := h
  show (Cond.laysStatic C n d).holds args s none s [] = true
  exact Cond.laysStatic_of h1 h2 h3 h4 h5 h6 h7 h8 h9
/-- .. and what it holds: null or some reference -/
def vx_Zq (C n d : String) (A : Nat → Prop) (U : State) (H : Heap) : Prop := va_Zq C n d A U H ∧ vx_L C n d A U H
theorem vx_Zq.moved {C n d : String} {A : Nat → Prop} {u U : State} {H : Heap} (hvm : u.vm.Alike U.vm) (h : vx_Zq C n d A u H) : vx_Zq C n d A U H := ⟨va_Zq.moved hvm h.1, vx_L.moved hvm h.2⟩
theorem vx_Zq.kept {C n d : String} {A : Nat → Prop} {U : State} {H H1 : Heap} (h : vx_Zq C n d A U H) (hq : ∀ a : Nat, a < H.size → ¬ A a → H1[a]? = H[a]?) : vx_Zq C n d A U H1 := ⟨va_Zq.kept h.1 hq, vx_L.kept h.2 hq⟩
theorem vx_Zq.narrow {C n d : String} {A B : Nat → Prop} {U : State} {H : Heap} (h : vx_Zq C n d A U H) (hAB : ∀ q, B q → A q) : vx_Zq C n d B U H := ⟨va_Zq.narrow h.1 hAB, vx_L.narrow h.2 hAB⟩
theorem vx_Zqof {args : Array Value} {s : State} {C n d : String} {A : Nat → Prop} (hl : (Cond.laysStatic C n d).before args s = true) (hini : (Cond.initialized C).before args s = true) (h : (Cond.isRef (.static C n d)).before args s = true) (hA : ∀ a : Nat, a < s.heap.size → ¬ A a) : vx_Zq C n d A s s.heap := by
  refine ⟨va_Zqof hl hini h hA, ?_⟩
  obtain ⟨c, k, i, f, a, cell, h1, h2, h3, h4, h5, h6, h7, h8, h9⟩ := Cond.laysStatic_spec hl
  exact ⟨c, k, i, f, a, cell, h1, h2, h3, h4, h5, h6, h7, h8, h9, hA a (Array.getElem?_eq_some_iff.mp h5).1⟩
theorem vx_isRef {C n d : String} {v : Value} {A : Nat → Prop} {s : State} {args : Array Value} (h : va_Z C n d v A s s.heap) (hv : v.isRef = true) : (Cond.isRef (.static C n d)).before args s = true := by
  obtain ⟨cf, kf, fi, f, a, cell, h1, h2, h3, h4, h5, h6, h7, -⟩ := h
  have he : (Term.static C n d).eval args s none [] s = some v := by
    simp [Term.eval, State.fieldNamed?, h1, h2, h4, h5, h6, h7]
  simp only [Cond.before, Cond.holds, Cond.value, he]
  cases v <;> simp_all [Value.isRef]
theorem vx_isRefq {C n d : String} {A : Nat → Prop} {s : State} {args : Array Value} (h : va_Zq C n d A s s.heap) : (Cond.isRef (.static C n d)).before args s = true := by
  rcases h with h | ⟨t, h⟩
  · exact vx_isRef h rfl
  · exact vx_isRef h rfl
/-- the same frame, seen from here: as if the method were called anew in this heap -/
theorem vx_rebase {T : State} (X : Stand p l e R s m args below meth c T locs cells slots) {R' : Room} (hf : R'.frames ≤ R.frames) (hl : R'.locals ≤ R.locals) (hc : cells + R'.cells ≤ R.cells) (hs : slots + R'.slots ≤ R.slots) :
    Stand p l e R' ((T.setVm s.vm).setFrames (.invoking m args :: below)) m args below meth c T [] 0 0 := by
  have htop : (T.setVm s.vm).topJava?.isSome := X.here.top
  have hF : ((T.setVm s.vm).setFrames (.invoking m args :: below)).frames = .invoking m args :: below := State.frames_setFrames _ (State.cur_lt_of_top htop)
  obtain ⟨g₀, hg0⟩ := Option.isSome_iff_exists.mp htop
  obtain ⟨r, hr⟩ := State.topJava?_eq_some.mp hg0
  have hl9 : e.platform.stackLimits (T.setVm s.vm).me = e.platform.stackLimits s.me := X.limits
  have hb9 : (T.setVm s.vm).me.stackBytes = s.me.stackBytes := X.bytes
  refine ⟨X.admits, X.cas, X.clock, hF, ?_, X.hears, X.method, X.code, X.here, X.tail, X.warmed, ?_, ?_, ?_⟩
  · have h := X.room
    have hU : ((T.setVm s.vm).setFrames (.invoking m args :: below)).localsInUse = s.localsInUse := by
      rw [State.localsInUse_invoking hF (meth := meth) (c := c) X.method X.code, State.localsInUse_invoking X.frames X.method X.code]
    simp only [State.hasRoom, Bool.and_eq_true, decide_eq_true_eq] at h ⊢
    obtain ⟨⟨⟨⟨h1, h2, h3, h4, h5, h6⟩, h7⟩, h8⟩, h9⟩ := h
    rw [X.frames, List.length_cons] at h2 h3
    have q1 := X.heapSize
    have q2 := X.used
    simp only [hF, hU, List.length_cons, State.stackLimits_setFrames, State.stackBytes_setFrames, hl9, hb9]
    refine ⟨⟨⟨⟨by omega, by omega, by omega, by omega, by omega, h6⟩, ?_⟩, ?_⟩, X.book⟩
    · show T.heap.size + R'.cells ≤ e.platform.maxCells
      omega
    · show T.slotsUsed + R'.slots ≤ e.platform.maxSlots
      omega
  · rw [State.stackLimits_setFrames]; rfl
  · rw [State.stackBytes_setFrames]; rfl
  · refine ⟨?_, Nat.le_refl _, Nat.le_refl _, ?_, ?_, fun a c9 h9 => ⟨c9, h9, rfl, rfl, fun _ _ => rfl⟩⟩
    · obtain ⟨t, ht, -⟩ := State.frames_cons hr
      show T.setVm s.vm = { ((T.setVm s.vm).setFrames (.invoking m args :: below)).setFrames (T.setVm s.vm).frames with heap := T.heap, slotsUsed := T.slotsUsed }
      rw [State.setFrames_setFrames, State.setFrames_self ht]
      rfl
    · show T.slotsUsed = T.slotsUsed + ((T.heap.toList.drop T.heap.size).map (·.slots.size)).sum
      rw [List.drop_eq_nil_of_le (Nat.le_of_eq Array.length_toList)]
      rfl
    · show ((T.heap.toList.drop T.heap.size).map (·.slots.size)).sum ≤ 0
      rw [List.drop_eq_nil_of_le (Nat.le_of_eq Array.length_toList)]
      exact Nat.le_refl _
/-- 'throw new E()': new; dup; invokespecial; athrow -/
theorem vx_throw0 {cc : ByteArray} {pc : Nat} (hexec : p.tables.exec = Jvm.exec) (hb : c.code = cc) (hl : l.stackTraces = false) {own cls : String} {names : List String} {ik ic mc ms : Nat} {A : Nat → Prop}
    (hown : s.vm.findClass own = some m.cls) (hcls : Bundle.fit cls = true) (hnames : ∀ n ∈ names, Bundle.fit n = true)
    (hk : (Cond.classLink own ik cls).before args s = true) (hini : (Cond.initialized cls).before args s = true) (hat : ∀ w ∈ vx_at0 own ic cls names, w.before args s = true)
    (hgood : ∀ w ∈ Cond.classLink own ik cls :: Cond.initialized cls :: vx_at0 own ic cls names, vx_ot w = true)
    (hU : vx_Zq Bundle.tN "UNASSIGNED_STACK" Bundle.steD A s s.heap) (hN : vx_Zq Bundle.tN "SUPPRESSED_SENTINEL" Bundle.listD A s s.heap) (hS : va_S A s.heap H locs) (hsize : ls.size = c.maxLocals)
    (d0 : decode cc pc = .ok (.new ik, 3)) (d3 : decode cc (pc + 3) = .ok (.dup, 1)) (d4 : decode cc (pc + 4) = .ok (.invokespecial ic, 3)) (d7 : decode cc (pc + 7) = .ok (.athrow, 1))
    (hout : ∀ x ∈ c.exceptionTable.toList, covers x (pc + 7) = false)
    (hRframes : names.length + 3 < R.frames) (hRlocals : (rest.map fun v => v.category).sum + (13 * (names.length + 1) + 42) ≤ R.locals) (hRcells : cells + 1 ≤ R.cells) (hRslots : slots + 6 ≤ R.slots) (hlocks : meth.locks = false)
    (hx : ∀ t : State, s.vm.Alike t.vm → H.size ≤ t.heap.size → (∀ q : Nat, q < H.size → t.heap[q]? = H[q]?) → XC cls s t)
    (hf : ∀ z ∈ locs, free z.base) (hc : cells + 1 ≤ mc) (hs : slots + 6 ≤ ms) :
    W p l e R s m args below meth c H locs cells slots (vx_MQ below Qc XC args s mc ms free) (F0 m pc ls rest) := by
  intro T hT X
  have htr : e.platform.stackTraces = false := (show e.platform.stackTraces = l.stackTraces by rw [X.admits.platform]).trans hl
  have Y := vx_rebase X (R' := { frames := R.frames, locals := R.locals, cells := 1, slots := 6 }) (Nat.le_refl _) (Nat.le_refl _) hRcells hRslots
  obtain ⟨s', hA⟩ : ∃ z, z = (T.setVm s.vm).setFrames (.invoking m args :: below) := ⟨_, rfl⟩
  rw [← hA] at Y
  have hvm : s'.vm = s.vm := by rw [hA]; rfl
  have hhp : s'.heap = H := by rw [hA]; exact hT
  have hW0 : s.WarmedH s'.vm := by rw [hvm]; exact State.WarmedH.refl s
  have hat' : ∀ w ∈ vx_at0 own ic cls names, w.before args s' = true := fun w hw => vx_ot_at hW0 hvm.symm (hgood w (List.mem_cons_of_mem _ (List.mem_cons_of_mem _ hw))) (hat w hw)
  have hk' : (Cond.classLink own ik cls).before args s' = true := vx_ot_at hW0 hvm.symm (hgood _ List.mem_cons_self) hk
  have hini' : (Cond.initialized cls).before args s' = true := vx_ot_at hW0 hvm.symm (hgood _ (List.mem_cons_of_mem _ List.mem_cons_self)) hini
  have hU' : vx_Zq Bundle.tN "UNASSIGNED_STACK" Bundle.steD A s' s'.heap := by rw [hhp]; exact vx_Zq.moved hW0.alike (hU.kept hS.2.1)
  have hN' : vx_Zq Bundle.tN "SUPPRESSED_SENTINEL" Bundle.listD A s' s'.heap := by rw [hhp]; exact vx_Zq.moved hW0.alike (hN.kept hS.2.1)
  have h : ∀ w ∈ Bundle.ownAtoms0 own ic cls names, w.before args s' = true := vx_own hat' (vx_isRefq hU'.1) (vx_isRefq hN'.1) hU'.2.word hN'.2.word
  have hown' : s'.vm.findClass own = some m.cls := by rw [hvm]; exact hown
  have hins : (Cond.instantiable cls 6).before args s' = true := h _ (by simp [Bundle.ownAtoms0])
  obtain ⟨vm₁, cX, kX, hfX, hkX, -, -, X₁, st1⟩ := Y.newCold hexec (own := own) (C := cls) (index := ik) (n := 6) hown' hk' hins hini'
    (g := F0 m pc ls rest) rfl (by rw [hb]; exact d0) (Nat.le_refl _) (Nat.le_refl _)
  generalize hT1 : (T.setVm vm₁).pushCell { cls := cX, slots := kX.instanceTypes.map defaultValue, vm := .none } = T1 at X₁ st1
  have hcat : (Value.ref T.heap.size).category = 1 := rfl
  have hcellA : T1.heap[T.heap.size]? = some (freshCell cX kX) := by rw [← hT1]; exact State.heap_pushCell_size _ _
  have d3' : decode c.code (pc + 3) = .ok (.dup, 1) := by rw [hb]; exact d3
  obtain ⟨U, hsteps, hrun, hend, hW, hsame, ce, hce, hO⟩ := X₁.ctorThrow0 hexec htr (own := own) (cls := cls) (names := names) (ic := ic) hown' hcls hnames h (fun x hx => nomatch hx) hfX hkX hcellA (by rw [hhp, hT]; exact Nat.le_refl _)
    (g := { method := m, pc := pc + 4, locals := ls, stack := .ref T.heap.size :: .ref T.heap.size :: rest, locked := none }) rfl hsize rfl rfl (rest := rest) rfl
    (by rw [hb]; exact d4) (by rw [hb]; exact d7) hout hRframes (by simp only [List.map_cons, List.sum_cons, hcat]; omega) hlocks
  obtain ⟨f1, f2⟩ := vx_frame hsame
  rw [hhp] at f1 f2
  have hWs : s.WarmedH U.vm := State.WarmedH.trans hW0 hW
  have hcl : s.vm.findClass cls = some ce.cls := by
    have h9 := hO.cls
    rw [hvm] at h9
    exact h9
  have hall : s.sameButNew ({ U with vm := s.vm } : State) locs mc ms := by
    subst hA
    obtain ⟨e1, e2⟩ := hsame
    rw [State.setFrames_setFrames] at e1
    have h2 : (T.setVm s.vm).sameButNew ({ U with vm := s.vm } : State) [] (0 + 1) (0 + 6) := ⟨e1, e2⟩
    have h3 := X.same.trans h2
    rw [List.append_nil] at h3
    exact h3.mono hc hs
  refine ⟨U, ?_, .threw T.heap.size, hrun, hend, Or.inr ⟨T.heap.size, rfl, cls, ce, locs, hx U hWs.alike f1 (fun q hq => f2 q hq (fun z hz => nomatch hz)), hce, hO.vm, hcl, hWs, hall, hf⟩⟩
  refine st1 _ ?_
  show Steps p.tables e below (T1.setTop { method := m, pc := pc + 3, locals := ls, stack := .ref T.heap.size :: rest, locked := none }) _
  jvm_step X₁.here [X₁.here.top, hexec, d3', Value.category]
  exact hsteps
/-- 'throw new E("text")': new; dup; ldc; invokespecial; athrow -/
theorem vx_throwS {cc : ByteArray} {pc : Nat} (hexec : p.tables.exec = Jvm.exec) (hb : c.code = cc) (hl : l.stackTraces = false) {own cls text : String} {names : List String} {ik is ic mc ms sa : Nat} {A : Nat → Prop}
    (hown : s.vm.findClass own = some m.cls) (hcls : Bundle.fit cls = true) (hnames : ∀ n ∈ names, Bundle.fit n = true)
    (hk : (Cond.classLink own ik cls).before args s = true) (hini : (Cond.initialized cls).before args s = true) (hstr : vk_R own is text sa s) (hat : ∀ w ∈ vx_atS own ic cls names, w.before args s = true)
    (hgood : ∀ w ∈ Cond.classLink own ik cls :: Cond.initialized cls :: vx_atS own ic cls names, vx_ot w = true)
    (hU : vx_Zq Bundle.tN "UNASSIGNED_STACK" Bundle.steD A s s.heap) (hN : vx_Zq Bundle.tN "SUPPRESSED_SENTINEL" Bundle.listD A s s.heap) (hS : va_S A s.heap H locs) (hsize : ls.size = c.maxLocals)
    (d0 : decode cc pc = .ok (.new ik, 3)) (d3 : decode cc (pc + 3) = .ok (.dup, 1)) (d4 : decode cc (pc + 4) = .ok (.ldc is, 2)) (d6 : decode cc (pc + 6) = .ok (.invokespecial ic, 3)) (d9 : decode cc (pc + 9) = .ok (.athrow, 1))
    (hout : ∀ x ∈ c.exceptionTable.toList, covers x (pc + 9) = false)
    (hRframes : names.length + 3 < R.frames) (hRlocals : (rest.map fun v => v.category).sum + (13 * (names.length + 1) + 43) ≤ R.locals) (hRcells : cells + 1 ≤ R.cells) (hRslots : slots + 6 ≤ R.slots) (hlocks : meth.locks = false)
    (hx : ∀ t : State, s.vm.Alike t.vm → H.size ≤ t.heap.size → (∀ q : Nat, q < H.size → t.heap[q]? = H[q]?) → XC cls s t)
    (hf : ∀ z ∈ locs, free z.base) (hc : cells + 1 ≤ mc) (hs : slots + 6 ≤ ms) :
    W p l e R s m args below meth c H locs cells slots (vx_MQ below Qc XC args s mc ms free) (F0 m pc ls rest) := by
  intro T hT X
  have htr : e.platform.stackTraces = false := (show e.platform.stackTraces = l.stackTraces by rw [X.admits.platform]).trans hl
  have Y := vx_rebase X (R' := { frames := R.frames, locals := R.locals, cells := 1, slots := 6 }) (Nat.le_refl _) (Nat.le_refl _) hRcells hRslots
  obtain ⟨s', hA⟩ : ∃ z, z = (T.setVm s.vm).setFrames (.invoking m args :: below) := ⟨_, rfl⟩
  rw [← hA] at Y
  have hvm : s'.vm = s.vm := by rw [hA]; rfl
  have hhp : s'.heap = H := by rw [hA]; exact hT
  have hW0 : s.WarmedH s'.vm := by rw [hvm]; exact State.WarmedH.refl s
  have hat' : ∀ w ∈ vx_atS own ic cls names, w.before args s' = true := fun w hw => vx_ot_at hW0 hvm.symm (hgood w (List.mem_cons_of_mem _ (List.mem_cons_of_mem _ hw))) (hat w hw)
  have hk' : (Cond.classLink own ik cls).before args s' = true := vx_ot_at hW0 hvm.symm (hgood _ List.mem_cons_self) hk
  have hini' : (Cond.initialized cls).before args s' = true := vx_ot_at hW0 hvm.symm (hgood _ (List.mem_cons_of_mem _ List.mem_cons_self)) hini
  have hU' : vx_Zq Bundle.tN "UNASSIGNED_STACK" Bundle.steD A s' s'.heap := by rw [hhp]; exact vx_Zq.moved hW0.alike (hU.kept hS.2.1)
  have hN' : vx_Zq Bundle.tN "SUPPRESSED_SENTINEL" Bundle.listD A s' s'.heap := by rw [hhp]; exact vx_Zq.moved hW0.alike (hN.kept hS.2.1)
  have h : ∀ w ∈ Bundle.ownAtoms own ic cls names, w.before args s' = true := vx_own hat' (vx_isRefq hU'.1) (vx_isRefq hN'.1) hU'.2.word hN'.2.word
  have hown' : s'.vm.findClass own = some m.cls := by rw [hvm]; exact hown
  have hins : (Cond.instantiable cls 6).before args s' = true := h _ (by simp [Bundle.ownAtoms])
  obtain ⟨vm₁, cX, kX, hfX, hkX, -, -, X₁, st1⟩ := Y.newCold hexec (own := own) (C := cls) (index := ik) (n := 6) hown' hk' hins hini'
    (g := F0 m pc ls rest) rfl (by rw [hb]; exact d0) (Nat.le_refl _) (Nat.le_refl _)
  generalize hT1 : (T.setVm vm₁).pushCell { cls := cX, slots := kX.instanceTypes.map defaultValue, vm := .none } = T1 at X₁ st1
  have hcat : (Value.ref T.heap.size).category = 1 := rfl
  have hcellA : T1.heap[T.heap.size]? = some (freshCell cX kX) := by rw [← hT1]; exact State.heap_pushCell_size _ _
  have d3' : decode c.code (pc + 3) = .ok (.dup, 1) := by rw [hb]; exact d3
  have d4' : decode c.code (pc + 4) = .ok (.ldc is, 2) := by rw [hb]; exact d4
  have hstr' : vk_R own is text sa s' := vk_R.warm hW0 hstr
  obtain ⟨U, hsteps, hrun, hend, hW, hsame, ce, hce, hO⟩ := X₁.ctorThrowS hexec htr (own := own) (cls := cls) (names := names) (ic := ic) hown' hcls hnames h (fun x hx => nomatch hx) hfX hkX hcellA (by rw [hhp, hT]; exact Nat.le_refl _) (msg := .ref sa) rfl
    (g := { method := m, pc := pc + 6, locals := ls, stack := .ref sa :: .ref T.heap.size :: .ref T.heap.size :: rest, locked := none }) rfl hsize rfl rfl (rest := rest) rfl
    (by rw [hb]; exact d6) (by rw [hb]; exact d9) hout hRframes (by simp only [List.map_cons, List.sum_cons, hcat]; omega) hlocks
  obtain ⟨f1, f2⟩ := vx_frame hsame
  rw [hhp] at f1 f2
  have hWs : s.WarmedH U.vm := State.WarmedH.trans hW0 hW
  have hcl : s.vm.findClass cls = some ce.cls := by
    have h9 := hO.cls
    rw [hvm] at h9
    exact h9
  have hall : s.sameButNew ({ U with vm := s.vm } : State) locs mc ms := by
    subst hA
    obtain ⟨e1, e2⟩ := hsame
    rw [State.setFrames_setFrames] at e1
    have h2 : (T.setVm s.vm).sameButNew ({ U with vm := s.vm } : State) [] (0 + 1) (0 + 6) := ⟨e1, e2⟩
    have h3 := X.same.trans h2
    rw [List.append_nil] at h3
    exact h3.mono hc hs
  refine ⟨U, ?_, .threw T.heap.size, hrun, hend, Or.inr ⟨T.heap.size, rfl, cls, ce, locs, hx U hWs.alike f1 (fun q hq => f2 q hq (fun z hz => nomatch hz)), hce, hO.vm, hcl, hWs, hall, hf⟩⟩
  refine st1 _ ?_
  show Steps p.tables e below (T1.setTop { method := m, pc := pc + 3, locals := ls, stack := .ref T.heap.size :: rest, locked := none }) _
  jvm_step X₁.here [X₁.here.top, hexec, d3', Value.category]
  exact X₁.ldcString hexec (own := own) (text := text) (index := is) (a := sa) hown' hstr'.1 hstr'.2
    (g := { method := m, pc := pc + 4, locals := ls, stack := .ref T.heap.size :: .ref T.heap.size :: rest, locked := none }) rfl d4' _ hsteps
/-- 'throw new E("text")', the text by a wide index -/
theorem vx_throwSW {cc : ByteArray} {pc : Nat} (hexec : p.tables.exec = Jvm.exec) (hb : c.code = cc) (hl : l.stackTraces = false) {own cls text : String} {names : List String} {ik is ic mc ms sa : Nat} {A : Nat → Prop}
    (hown : s.vm.findClass own = some m.cls) (hcls : Bundle.fit cls = true) (hnames : ∀ n ∈ names, Bundle.fit n = true)
    (hk : (Cond.classLink own ik cls).before args s = true) (hini : (Cond.initialized cls).before args s = true) (hstr : vk_R own is text sa s) (hat : ∀ w ∈ vx_atS own ic cls names, w.before args s = true)
    (hgood : ∀ w ∈ Cond.classLink own ik cls :: Cond.initialized cls :: vx_atS own ic cls names, vx_ot w = true)
    (hU : vx_Zq Bundle.tN "UNASSIGNED_STACK" Bundle.steD A s s.heap) (hN : vx_Zq Bundle.tN "SUPPRESSED_SENTINEL" Bundle.listD A s s.heap) (hS : va_S A s.heap H locs) (hsize : ls.size = c.maxLocals)
    (d0 : decode cc pc = .ok (.new ik, 3)) (d3 : decode cc (pc + 3) = .ok (.dup, 1)) (d4 : decode cc (pc + 4) = .ok (.ldc_w is, 3)) (d7 : decode cc (pc + 7) = .ok (.invokespecial ic, 3)) (d10 : decode cc (pc + 10) = .ok (.athrow, 1))
    (hout : ∀ x ∈ c.exceptionTable.toList, covers x (pc + 10) = false)
    (hRframes : names.length + 3 < R.frames) (hRlocals : (rest.map fun v => v.category).sum + (13 * (names.length + 1) + 43) ≤ R.locals) (hRcells : cells + 1 ≤ R.cells) (hRslots : slots + 6 ≤ R.slots) (hlocks : meth.locks = false)
    (hx : ∀ t : State, s.vm.Alike t.vm → H.size ≤ t.heap.size → (∀ q : Nat, q < H.size → t.heap[q]? = H[q]?) → XC cls s t)
    (hf : ∀ z ∈ locs, free z.base) (hc : cells + 1 ≤ mc) (hs : slots + 6 ≤ ms) :
    W p l e R s m args below meth c H locs cells slots (vx_MQ below Qc XC args s mc ms free) (F0 m pc ls rest) := by
  intro T hT X
  have htr : e.platform.stackTraces = false := (show e.platform.stackTraces = l.stackTraces by rw [X.admits.platform]).trans hl
  have Y := vx_rebase X (R' := { frames := R.frames, locals := R.locals, cells := 1, slots := 6 }) (Nat.le_refl _) (Nat.le_refl _) hRcells hRslots
  obtain ⟨s', hA⟩ : ∃ z, z = (T.setVm s.vm).setFrames (.invoking m args :: below) := ⟨_, rfl⟩
  rw [← hA] at Y
  have hvm : s'.vm = s.vm := by rw [hA]; rfl
  have hhp : s'.heap = H := by rw [hA]; exact hT
  have hW0 : s.WarmedH s'.vm := by rw [hvm]; exact State.WarmedH.refl s
  have hat' : ∀ w ∈ vx_atS own ic cls names, w.before args s' = true := fun w hw => vx_ot_at hW0 hvm.symm (hgood w (List.mem_cons_of_mem _ (List.mem_cons_of_mem _ hw))) (hat w hw)
  have hk' : (Cond.classLink own ik cls).before args s' = true := vx_ot_at hW0 hvm.symm (hgood _ List.mem_cons_self) hk
  have hini' : (Cond.initialized cls).before args s' = true := vx_ot_at hW0 hvm.symm (hgood _ (List.mem_cons_of_mem _ List.mem_cons_self)) hini
  have hU' : vx_Zq Bundle.tN "UNASSIGNED_STACK" Bundle.steD A s' s'.heap := by rw [hhp]; exact vx_Zq.moved hW0.alike (hU.kept hS.2.1)
  have hN' : vx_Zq Bundle.tN "SUPPRESSED_SENTINEL" Bundle.listD A s' s'.heap := by rw [hhp]; exact vx_Zq.moved hW0.alike (hN.kept hS.2.1)
  have h : ∀ w ∈ Bundle.ownAtoms own ic cls names, w.before args s' = true := vx_own hat' (vx_isRefq hU'.1) (vx_isRefq hN'.1) hU'.2.word hN'.2.word
  have hown' : s'.vm.findClass own = some m.cls := by rw [hvm]; exact hown
  have hins : (Cond.instantiable cls 6).before args s' = true := h _ (by simp [Bundle.ownAtoms])
  obtain ⟨vm₁, cX, kX, hfX, hkX, -, -, X₁, st1⟩ := Y.newCold hexec (own := own) (C := cls) (index := ik) (n := 6) hown' hk' hins hini'
    (g := F0 m pc ls rest) rfl (by rw [hb]; exact d0) (Nat.le_refl _) (Nat.le_refl _)
  generalize hT1 : (T.setVm vm₁).pushCell { cls := cX, slots := kX.instanceTypes.map defaultValue, vm := .none } = T1 at X₁ st1
  have hcat : (Value.ref T.heap.size).category = 1 := rfl
  have hcellA : T1.heap[T.heap.size]? = some (freshCell cX kX) := by rw [← hT1]; exact State.heap_pushCell_size _ _
  have d3' : decode c.code (pc + 3) = .ok (.dup, 1) := by rw [hb]; exact d3
  have d4' : decode c.code (pc + 4) = .ok (.ldc_w is, 3) := by rw [hb]; exact d4
  have hstr' : vk_R own is text sa s' := vk_R.warm hW0 hstr
  obtain ⟨U, hsteps, hrun, hend, hW, hsame, ce, hce, hO⟩ := X₁.ctorThrowS hexec htr (own := own) (cls := cls) (names := names) (ic := ic) hown' hcls hnames h (fun x hx => nomatch hx) hfX hkX hcellA (by rw [hhp, hT]; exact Nat.le_refl _) (msg := .ref sa) rfl
    (g := { method := m, pc := pc + 7, locals := ls, stack := .ref sa :: .ref T.heap.size :: .ref T.heap.size :: rest, locked := none }) rfl hsize rfl rfl (rest := rest) rfl
    (by rw [hb]; exact d7) (by rw [hb]; exact d10) hout hRframes (by simp only [List.map_cons, List.sum_cons, hcat]; omega) hlocks
  obtain ⟨f1, f2⟩ := vx_frame hsame
  rw [hhp] at f1 f2
  have hWs : s.WarmedH U.vm := State.WarmedH.trans hW0 hW
  have hcl : s.vm.findClass cls = some ce.cls := by
    have h9 := hO.cls
    rw [hvm] at h9
    exact h9
  have hall : s.sameButNew ({ U with vm := s.vm } : State) locs mc ms := by
    subst hA
    obtain ⟨e1, e2⟩ := hsame
    rw [State.setFrames_setFrames] at e1
    have h2 : (T.setVm s.vm).sameButNew ({ U with vm := s.vm } : State) [] (0 + 1) (0 + 6) := ⟨e1, e2⟩
    have h3 := X.same.trans h2
    rw [List.append_nil] at h3
    exact h3.mono hc hs
  refine ⟨U, ?_, .threw T.heap.size, hrun, hend, Or.inr ⟨T.heap.size, rfl, cls, ce, locs, hx U hWs.alike f1 (fun q hq => f2 q hq (fun z hz => nomatch hz)), hce, hO.vm, hcl, hWs, hall, hf⟩⟩
  refine st1 _ ?_
  show Steps p.tables e below (T1.setTop { method := m, pc := pc + 3, locals := ls, stack := .ref T.heap.size :: rest, locked := none }) _
  jvm_step X₁.here [X₁.here.top, hexec, d3', Value.category]
  exact X₁.ldcStringW hexec (own := own) (text := text) (index := is) (a := sa) hown' hstr'.1 hstr'.2
    (g := { method := m, pc := pc + 4, locals := ls, stack := .ref T.heap.size :: .ref T.heap.size :: rest, locked := none }) rfl d4' _ hsteps
end Ends
section Bodies
variable {l : Launch}
theorem vx_ofW {y : MethodName} {ws ws' : List Cond} {rm : Room} {Pc : Array Value → State → Prop} {Qc : Array Value → State → Outcome → State → Prop} {XC : String → State → State → Prop} {mc ms : Nat} {free : Addr → Prop} {cc : ByteArray} {maxL : Nat} {ret : Option FieldType}
    (hy : plainName y.cls = true) (hw : ws = Cond.code y cc maxL ret :: ws')
    (body : ∀ p e s m args below meth c s₁, BodyLoose p l y (headSpec ws rm) cc maxL ret e s m args below meth c s₁ → c.maxLocals = maxL → (∀ x ∈ c.exceptionTable.toList, False) → Pc args s →
      W p l e (headSpec ws rm).room s m args below meth c s.heap [] 0 0 (vx_MQ below Qc XC args s mc ms free) (entryFrame m args maxL)) : vx_Met l y ws rm Pc Qc XC mc ms free := by
  refine MetFree.of_bodyS (code := cc) (maxLocals := maxL) (ret := ret) hy ?_ ?_
  · intro args s m h hn
    obtain ⟨meth, c, h1, h2, h3, h4, h5, h6, -, -⟩ := Cond.code_spec hn (atoms_spec (ws := ws) h _ (by rw [hw]; exact List.mem_cons_self))
    exact ⟨meth, c, h1, h2, h3, h4, h5, h6⟩
  · intro p e s m args below meth c s₁ B hml hP _
    have hh0 : s₁.heap = s.heap := by rw [B.state]; rfl
    have ht : ∀ x ∈ c.exceptionTable.toList, False := by
      obtain ⟨meth9, c9, h1, h2, -, -, -, -, h7, -⟩ := Cond.code_spec B.named (atoms_spec (ws := ws) B.pre _ (by rw [hw]; exact List.mem_cons_self))
      cases Option.some.inj (h1.symm.trans B.method)
      cases Option.some.inj (h2.symm.trans (Stand.of_body B).code)
      intro x hx
      rw [Array.isEmpty_iff.mp h7] at hx
      cases hx
    obtain ⟨t, a1, o, b1, b2, b3⟩ := body p e s m args below meth c s₁ B hml ht hP s₁ hh0 (Stand.of_body B)
    exact ⟨t, o, a1, b1, b2, b3⟩
/-- the table of a body with handlers -/
theorem vx_table {p : Program} {x y : MethodName} {S : Spec} {cc bytes : ByteArray} {maxL maxL' : Nat} {ret ret' : Option FieldType} {e : Env} {s s₁ : State} {m : MethodId} {args : Array Value} {below : List Frame} {meth : Method} {c : Code} {hh : List (Nat × Nat × Nat × Nat)}
    (B : BodyLoose p l y S cc maxL ret e s m args below meth c s₁) (h : (Cond.codeWith y bytes maxL' ret' hh).before args s = true) : c.exceptionTable.toList = tableOf hh := by
  obtain ⟨m9, meth9, c9, hn9, h1, h2, -, -, h6, -⟩ := Cond.codeWith_spec h
  cases Option.some.inj (hn9.symm.trans B.named)
  cases Option.some.inj (h1.symm.trans B.method)
  cases Option.some.inj (h2.symm.trans (Stand.of_body B).code)
  rw [← h6, table_eq]
end Bodies
end VXA
/-! ===== END ===== -/
/-! ===== BEGIN a static call of a method with an exception table ===== -/
section VXS
variable {p : Program} {l : Launch} {e : Env} {R : Room} {s : State} {m : MethodId} {args : Array Value} {below : List Frame} {meth : Method} {c : Code} {T : State} {H : Heap} {locs : List Loc} {cells slots : Nat}
abbrev vx_CSW (R : Room) (s : State) (args : Array Value) (own : String) (index : Nat) (y : MethodName) (bytes : ByteArray) (maxL : Nat) (ret : Option FieldType) (hh : List (Nat × Nat × Nat × Nat)) (ws : List Cond) (rm : Room) (mc ms n : Nat) : Prop :=
  (rm.cells = mc ∧ rm.slots = ms ∧ rm.frames + 1 ≤ R.frames ∧ 8 + (maxL + 11) + rm.locals ≤ R.locals ∧ (∀ w ∈ ws, ∀ (a' : Array Value) (U : State), s.WarmedH U.vm → w.before a' U = true) ∧ Cond.codeWith y bytes maxL ret hh ∈ ws) ∧
  (Cond.codeWith y bytes maxL ret hh).before args s = true ∧ (Cond.initialized y.cls).before args s = true ∧ (y.cls ≠ "java/lang/invoke/MethodHandle" ∧ y.cls ≠ "java/lang/invoke/VarHandle") ∧
  (∀ sig, parseMethodDescriptor y.desc = some sig → n = sig.parameters.length) ∧ (Cond.methodLink own index y).before args s = true ∧ (Cond.static y).before args s = true
theorem vx_cwSW {own : String} {index maxL mc ms : Nat} {y : MethodName} {bytes : ByteArray} {ret : Option FieldType} {hh : List (Nat × Nat × Nat × Nat)} {Ts ws ws' : List Cond} {rm : Room} (n : Nat) (ht : ∀ w ∈ Ts, w.before args s = true) (hT : GoodIn Ts (va_wsS own index y ws)) (hw : ws = Cond.codeWith y bytes maxL ret hh :: ws') (hrc : rm.cells = mc) (hrs : rm.slots = ms)
    (hd : y.cls ≠ "java/lang/invoke/MethodHandle" ∧ y.cls ≠ "java/lang/invoke/VarHandle" ∧ (parseMethodDescriptor y.desc).map (fun d => d.parameters.length) = some n) (hR : rm.frames + 1 ≤ R.frames ∧ 8 + (maxL + 11) + rm.locals ≤ R.locals) :
    vx_CSW R s args own index y bytes maxL ret hh ws rm mc ms n := by
  have ok : ∀ w ∈ va_wsS own index y ws, w.before args s = true := fun w h => ht w (hT w h).1
  have hG : GoodIn Ts ws := fun w h => hT w (by unfold va_wsS; exact List.mem_append_right _ h)
  have hc : Cond.codeWith y bytes maxL ret hh ∈ ws := by rw [hw]; exact List.mem_cons_self
  refine ⟨⟨hrc, hrs, hR.1, hR.2, pay_in ht hG, hc⟩, ht _ (hG _ hc).1, ok _ (by simp [va_wsS]), ⟨hd.1, hd.2.1⟩, fun sig h => ?_, ok _ (by simp [va_wsS]), ok _ (by simp [va_wsS])⟩
  have h2 := hd.2.2
  rw [h] at h2
  exact (Option.some.inj h2).symm
theorem vx_callSW (X : Stand p l e R s m args below meth c T locs cells slots) (hexec : p.tables.exec = Jvm.exec) {own : String} {index : Nat} {y : MethodName} {bytes : ByteArray} {maxL : Nat} {ret : Option FieldType} {hh : List (Nat × Nat × Nat × Nat)}
    (hown : s.vm.findClass own = some m.cls) (hlink : (Cond.methodLink own index y).before args s = true) (hstat : (Cond.static y).before args s = true) (hinit : (Cond.initialized y.cls).before args s = true)
    (hcode : (Cond.codeWith y bytes maxL ret hh).before args s = true) (hy : y.cls ≠ "java/lang/invoke/MethodHandle" ∧ y.cls ≠ "java/lang/invoke/VarHandle")
    {W9 : Nat} {Pre : Pt → Array Value → Prop} {Post : Pt → Array Value → Option Value → Pt → Prop} (hK : Back l R p e below s args y 3 W9 Pre Post)
    {g : JFrame} (hg : g.method = m) (hsize : g.locals.size = c.maxLocals) {argsL rest : List Value} (hlen : ∀ sig, parseMethodDescriptor y.desc = some sig → argsL.length = sig.parameters.length)
    (hstack : g.stack = argsL.reverse ++ rest) (hW : 2 * g.monitorRoom + (rest.map fun v => v.category).sum ≤ W9) (hdg : decode c.code g.pc = .ok (.invokestatic index, 3))
    (hpre : ∀ vm₁, s.WarmedH vm₁ → Pre ⟨T.setVm vm₁, locs, cells, slots⟩ argsL.toArray) :
    ∃ (v : Option Value) (vm₁ : Vm) (B : Pt), s.WarmedH vm₁ ∧ Stand p l e R s m args below meth c B.U B.locs B.cells B.slots ∧ Post ⟨T.setVm vm₁, locs, cells, slots⟩ argsL.toArray v B ∧
      ∀ target, Steps p.tables e below (B.U.setTop { g with pc := g.pc + 3, stack := v.toList ++ rest }) target → Steps p.tables e below (T.setTop g) target := by
  obtain ⟨mk, methM, cM, hnamed, hmethM, -, -, -, -, -, -, hsigM⟩ := Cond.codeWith_spec hcode
  have hstatic : methM.isStatic = true := Cond.static_spec hnamed hmethM hstat
  obtain ⟨kP, hkP, -⟩ := className_of_methodNamed hnamed
  have hinitP : kP.init = .initialized := Cond.initialized_spec (findClass_of_methodNamed hnamed) hkP hinit
  obtain ⟨vm₁, X₁, hstep₁⟩ := X.invokestatic hexec hown hlink hnamed hmethM hstatic hkP hinitP hy (g := g) hg (argsL := argsL) (rest := rest) (hlen _ hsigM) hstack hdg
  obtain ⟨v, B, X', hpost, hsteps⟩ := hK m meth c ⟨T.setVm vm₁, locs, cells, slots⟩ { g with stack := rest } (.invokestatic index) mk argsL.toArray X₁ hg hsize hdg hW (X₁.named hnamed) (hpre vm₁ X₁.warmed)
  exact ⟨v, vm₁, B, X₁.warmed, X', hpost, fun target h => hstep₁ _ fun acts => by rw [doInvoke_state]; exact hsteps.trans h⟩
theorem vx_runSW {y : MethodName} {bytes cc : ByteArray} {maxL nL mc ms n index : Nat} {ret : Option FieldType} {hh : List (Nat × Nat × Nat × Nat)} {ws : List Cond} {rm : Room} {Pc : Array Value → State → Prop} {Qc : Array Value → State → Outcome → State → Prop} {free : Addr → Prop} {Ts : List Cond} {own : String} {As rest : List Value} {g : JFrame}
    (S : CallFix p m c cc nL s args Ts own) (hM : Met l y ws rm Pc Qc mc ms free) (cw : vx_CSW R s args own index y bytes maxL ret hh ws rm mc ms n) (hp : PreS s H Pc As)
    (hg : g.method = m) (hn : As.length = n) (hsize : g.locals.size = nL) (hstack : g.stack = As.reverse ++ rest) (hW : 2 * g.monitorRoom + (rest.map fun v => v.category).sum ≤ 8) (hdg : decode cc g.pc = .ok (.invokestatic index, 3)) (hf : cells + mc ≤ R.cells ∧ slots + ms ≤ R.slots) :
    va_Run p l e R s m args below meth c H locs cells slots mc ms g rest (Qc As.toArray) (free) := by
  obtain ⟨⟨hrc, hrs, hfr, hlo, hws, hcw⟩, hcode, hini, hy, hlen, hl, hstt⟩ := cw
  have hK : Back l R p e below s args y 3 8 (PreOf R mc ms Pc) (PostOf Qc mc ms free) := va_backW (hh := hh) (bytes := bytes) (maxL := maxL) (ret := ret) hM hp.1 hrc hrs hfr hlo hws hcw (fun a' U hW => word_at hW (Or.inl (by first | rfl | simp [Cond.onTables, Cond.keeps, Cond.steady])) hini)
  obtain ⟨hx, hb, hml, ho, -⟩ := S
  intro T hT X
  obtain ⟨v, vm₁, ⟨U', l2, c2, s2⟩, hW₁, X', ⟨g', mk, t, L, e1, e2, hq, h1, hL, h2, h3⟩, st⟩ := vx_callSW X hx (hh := hh) (bytes := bytes) (maxL := maxL) (ret := ret) ho hl hstt hini hcode hy hK hg (hsize.trans hml.symm) (argsL := As) (rest := rest) (fun sig h => hn.trans (hlen sig h)) hstack hW (by rw [hb]; exact hdg)
    (fun vm₁ hW₁ => ⟨hf.1, hf.2, hp.2 (T.setVm vm₁) hT hW₁⟩)
  dsimp only [Pt.U, Pt.locs, Pt.cells, Pt.slots] at X' e1 e2 h1 h2 h3 st
  subst h1; subst h2; subst h3
  exact ⟨v, (T.setVm vm₁).calling g' mk As.toArray, t, U', L, hT, X', hL, e1, e2, hq, st⟩
/-- not caught here, past rows that name other classes: it goes on to the caller -/
theorem vx_outP {p : Program} {l : Launch} {e : Env} {R : Room} {s : State} {m : MethodId} {args : Array Value} {below : List Frame} {meth : Method} {c : Code} {H : Heap} {locs : List Loc} {cells slots : Nat} {free : Addr → Prop} {ls : Array Slot} {rest : List Value} {Qc : Array Value → State → Outcome → State → Prop} {XC : String → State → State → Prop}
    {pc : Nat} {own E : String} {ce : Cell} {q : Addr} {mc ms : Nat} (hown : s.vm.findClass own = some m.cls) (hlocks : meth.locks = false)
    (hpass : ∀ z ∈ c.exceptionTable.toList, covers z pc = false ∨ (z.catchType ≠ 0 ∧ ∃ nm : String, (Cond.classLink own z.catchType nm).before args s = true ∧ va_Nc E nm s)) (hcell : H[q]? = some ce) (hv : ce.vm = .none) (hcl : s.vm.findClass E = some ce.cls)
    (hx : ∀ t : State, t.heap = H → s.vm.Alike t.vm → XC E s t) (hf : ∀ z ∈ locs, free z.base) (hc : cells ≤ mc) (hs : slots ≤ ms) :
    vx_W p l e R s m args below meth c H locs cells slots (vx_MQ below Qc XC args s mc ms free) (F0 m pc ls rest) q := by
  intro T hT X
  have hpl : e.platform.magicAccessors = ({} : Platform).magicAccessors := by rw [X.admits.platform]
  obtain ⟨vm', hW', X', st⟩ := X.outThrough hlocks q (g := F0 m pc ls rest) rfl rfl rfl (cell := ce) (by rw [hT]; exact hcell) (by rw [hv]; rfl)
    (by obtain ⟨k9, h9, -⟩ := Vm.findClass_spec hcl; exact ⟨k9, h9⟩) (fun z hz => by
      rcases hpass z hz with h | ⟨hz0, nm, hl1, hn1⟩
      · exact Or.inl h
      · obtain ⟨c6, hc6, hcl6⟩ := Cond.classLink_spec hown hl1 e.platform hpl
        obtain ⟨a8, b8, h1, h2, h3⟩ := hn1
        cases Option.some.inj (h1.symm.trans hcl)
        cases Option.some.inj (h2.symm.trans hc6)
        exact Or.inr ⟨hz0, _, hcl6, h3⟩)
  obtain ⟨g₀, hfr⟩ := X'.frames_eq
  have hcell9 : ((T.setVm vm').setFrames (.throwing q :: below)).heap[q]? = some ce := by
    show T.heap[q]? = some ce
    rw [hT]; exact hcell
  have hend : Ended ((T.setVm vm').setFrames (.throwing q :: below)) below (.threw q) := State.frames_setFrames _ (State.cur_lt_of_frames hfr)
  refine ⟨(T.setVm vm').setFrames (.throwing q :: below), ?_, .threw q, X'.here.running, hend, Or.inr ⟨q, rfl, E, ce, locs, hx _ hT (X'.ends _).1.alike, hcell9, hv, hcl, (X'.ends _).1, (X'.ends _).2.mono hc hs, hf⟩⟩
  rw [X.pushThrowing_eq]
  exact st
/-- a thing of a world lies in the heap -/
theorem vx_lt {D : va_G} {cl : List vw_C} {ws : va_W} {H1 : Heap} (h : va_P D cl ws H1) {k : Nat} {q : Nat × va_E} (hk : ws[k]? = some q) : q.1 < H1.size := (h k q hk).lt
end VXS
/-! ===== END ===== -/
/-! ===== BEGIN methods with a table of their own: called by a name, returning or throwing ===== -/
section VXH
/-! vx_backW, vx_callVX, vx_callSX, vx_callVW, vx_runVW, vx_runVX, vx_runSX, vx_ofWH follow the same proofs as their sisters above (Free/Laws.lean, Shelf42/LK1.lean); vx_outP calls Shelf42/NT130.lean (outThrough). -/
section
variable {l : Launch} {R : Room} {p : Program} {e : Env} {below : List Frame} {s : State} {sargs : Array Value} {y : MethodName} {len W9 : Nat}
theorem vx_backW {ws : List Cond} {rm : Room} {Pc : Array Value → State → Prop} {Qc : Array Value → State → Outcome → State → Prop} {XC : String → State → State → Prop} {mc ms : Nat} {free : Addr → Prop} {bytes : ByteArray} {maxL : Nat} {ret : Option FieldType} {hh : List (Nat × Nat × Nat × Nat)}
    (hM : vx_Met l y ws rm Pc Qc XC mc ms free) (hblind : FrameBlind Pc) (hrc : rm.cells = mc) (hrs : rm.slots = ms)
    (hframes : rm.frames + 1 ≤ R.frames) (hlocals : W9 + (maxL + 11) + rm.locals ≤ R.locals)
    (hws : ∀ w ∈ ws, ∀ a' U, s.WarmedH U.vm → w.before a' U = true) (hcode : Cond.codeWith y bytes maxL ret hh ∈ ws) (hinit : ∀ a' U, s.WarmedH U.vm → (Cond.initialized y.cls).before a' U = true) :
    vx_Back l R p e below s sargs y len W9 (PreOf R mc ms Pc) (PostOf Qc mc ms free) (vx_Post XC mc ms free) := by
  intro m meth c A g ig mk a X hg hsize hdg hW hn hp
  have h1 : (headSpec ws rm).pre.before a A.U = true := atoms_intro fun w hw => hws w hw _ _ X.warmed
  have h2 : (Cond.codeWith y bytes maxL ret hh).before a A.U = true := hws _ hcode _ _ X.warmed
  have h3 : (Cond.initialized y.cls).before a A.U = true := hinit _ _ X.warmed
  have h4 : A.cells + (headSpec ws rm).room.cells ≤ R.cells := by rw [show (headSpec ws rm).room.cells = mc from hrc]; exact hp.1
  have h5 : A.slots + (headSpec ws rm).room.slots ≤ R.slots := by rw [show (headSpec ws rm).room.slots = ms from hrs]; exact hp.2.1
  have hPc : Pc a (A.U.calling g mk a) := hblind _ _ _ _ hp.2.2
  obtain ⟨U, Ls, c0, s0⟩ := A
  dsimp only [Pt.U, Pt.locs, Pt.cells, Pt.slots] at h1 h2 h3 h4 h5 X hn hPc ⊢
  obtain ⟨m9, methY, cY, hn9, hmY, hcY, -, hlY, -⟩ := Cond.codeWith_spec h2
  cases Option.some.inj (hn9.symm.trans hn)
  obtain ⟨kY, hkY, -⟩ := className_of_methodNamed hn
  have hinitY : kY.init = .initialized := Cond.initialized_spec (findClass_of_methodNamed hn) hkY h3
  have h : At U g.method c below := by rw [hg]; exact X.here
  have hlocals9 : W9 + (maxL + 11) + (headSpec ws rm).room.locals ≤ R.locals := hlocals
  have happ : (headSpec ws rm).appliesLoose y e.platform (U.calling g mk a) = true :=
    Spec.appliesLoose_calling (g := g) h hdg hn hkY hinitY
      (X.room_calling (g := g) (R' := (headSpec ws rm).room) hsize hmY hcY hframes (by rw [hlY]; omega) h4 h5) h1
  obtain ⟨mid, hmid⟩ := h.above
  have hfr : (U.setTop g).frames = (.java g :: mid) ++ below := by rw [State.frames_setTop' g h.top, hmid]; rfl
  obtain ⟨o, s₂, hsteps, -, hend, hq⟩ := Steps.callFree hM p X.admits X.cas X.clock (acts := []) hfr happ hPc trivial
  have hq' : vx_Q Qc XC mc ms free a (U.calling g mk a) o s₂ := hq
  rw [State.frames_setTop' g h.top] at hend
  obtain ⟨g₀, hg0⟩ := Option.isSome_iff_exists.mp h.top
  obtain ⟨r, hr⟩ := State.topJava?_eq_some.mp hg0
  have hr' : (({ U with heap := s₂.heap, slotsUsed := s₂.slotsUsed } : State).setVm s₂.vm).frames = .java g₀ :: r := hr
  rcases hq' with ⟨hqc, L, hfe, hL⟩ | ⟨q, rfl, E, ce, L, hx, hce, hcv, hcl, hW₂, hsm, hL⟩
  · obtain ⟨⟨v, rfl⟩, hW₂, e2, q2, q3, q4, q5, q6⟩ := id hfe
    have e3 : s₂ = ({ (U.calling g mk a).setFrames s₂.frames with heap := s₂.heap, slotsUsed := s₂.slotsUsed } : State).setVm s₂.vm := by
      have : s₂ = ({ s₂ with vm := (U.calling g mk a).vm } : State).setVm s₂.vm := rfl
      rw [e2] at this
      exact this
    obtain ⟨c₂, i₂, len₂, hc₂, hd₂, hf₂⟩ := hend
    have hW' : U.WarmedH s₂.vm := hW₂
    have hcc : c₂ = c := by
      have h1 : s₂.code? g.method = U.code? g.method := by
        rw [State.code?_eq, State.code?_eq, hW'.alike.method?]
      exact Option.some.inj (hc₂.symm.trans (h1.trans h.code))
    subst hcc
    have hlen : len₂ = len := by rw [hdg] at hd₂; cases hd₂; rfl
    subst hlen
    have hs₂ : s₂ = (({ U with heap := s₂.heap, slotsUsed := s₂.slotsUsed } : State).setVm s₂.vm).setTop { g with pc := g.pc + len₂, stack := v.toList ++ g.stack } := by
      refine e3.trans ?_
      rw [hf₂, State.calling_eq h.top, State.setFrames_setFrames, State.setTop_of_frames _ hr', hr]
      rfl
    have hsame : U.sameButNew ({ U with heap := s₂.heap, slotsUsed := s₂.slotsUsed } : State) L mc ms := by
      refine ⟨?_, q2, q3, q4, q5, q6⟩
      obtain ⟨t, ht, -⟩ := State.frames_cons hr
      show ({ U with heap := s₂.heap, slotsUsed := s₂.slotsUsed } : State) = { U.setFrames U.frames with heap := s₂.heap, slotsUsed := s₂.slotsUsed }
      rw [State.setFrames_self ht]
    subst hg
    refine Or.inl ⟨v, ⟨(({ U with heap := s₂.heap, slotsUsed := s₂.slotsUsed } : State).setVm s₂.vm), Ls ++ L, c0 + mc, s0 + ms⟩,
      ⟨X.admits, X.cas, X.clock, X.frames, X.room, X.hears, X.method, X.code, (X.here.setHeapUsed s₂.heap s₂.slotsUsed).setVm hW'.alike, X.tail, State.WarmedH.trans X.warmed hW', X.limits, X.bytes, X.same.trans (hsame.setVm s.vm)⟩,
      ⟨g, mk, s₂, L, rfl, rfl, hqc, rfl, hL, rfl, rfl⟩, ?_⟩
    show Steps p.tables e below _ ((({ U with heap := s₂.heap, slotsUsed := s₂.slotsUsed } : State).setVm s₂.vm).setTop { g with pc := g.pc + len₂, stack := v.toList ++ g.stack })
    rw [← hs₂]
    exact hsteps
  · obtain ⟨e2, q2, q3, q4, q5, q6⟩ := id hsm
    have e3 : s₂ = ({ (U.calling g mk a).setFrames s₂.frames with heap := s₂.heap, slotsUsed := s₂.slotsUsed } : State).setVm s₂.vm := by
      have : s₂ = ({ s₂ with vm := (U.calling g mk a).vm } : State).setVm s₂.vm := rfl
      rw [e2] at this
      exact this
    have hf₂ : s₂.frames = .throwing q :: .java g :: U.frames.tail := hend
    have hW' : U.WarmedH s₂.vm := hW₂
    have hs₂ : s₂ = ((({ U with heap := s₂.heap, slotsUsed := s₂.slotsUsed } : State).setVm s₂.vm).setTop g).pushFrame (.throwing q) := by
      refine e3.trans ?_
      rw [hf₂, State.calling_eq h.top, State.setFrames_setFrames, State.pushFrame, State.frames_setTop _ hr', State.setTop_of_frames _ hr', State.setFrames_setFrames, hr]
      rfl
    have hsame : U.sameButNew ({ U with heap := s₂.heap, slotsUsed := s₂.slotsUsed } : State) L mc ms := by
      refine ⟨?_, q2, q3, q4, q5, q6⟩
      obtain ⟨t, ht, -⟩ := State.frames_cons hr
      show ({ U with heap := s₂.heap, slotsUsed := s₂.slotsUsed } : State) = { U.setFrames U.frames with heap := s₂.heap, slotsUsed := s₂.slotsUsed }
      rw [State.setFrames_self ht]
    subst hg
    refine Or.inr ⟨q, ⟨(({ U with heap := s₂.heap, slotsUsed := s₂.slotsUsed } : State).setVm s₂.vm), Ls ++ L, c0 + mc, s0 + ms⟩,
      ⟨X.admits, X.cas, X.clock, X.frames, X.room, X.hears, X.method, X.code, (X.here.setHeapUsed s₂.heap s₂.slotsUsed).setVm hW'.alike, X.tail, State.WarmedH.trans X.warmed hW', X.limits, X.bytes, X.same.trans (hsame.setVm s.vm)⟩,
      ⟨g, mk, s₂, L, E, ce, rfl, rfl, hx, hce, hcv, hcl, rfl, hL, rfl, rfl⟩, ?_⟩
    show Steps p.tables e below _ (((({ U with heap := s₂.heap, slotsUsed := s₂.slotsUsed } : State).setVm s₂.vm).setTop g).pushFrame (.throwing q))
    rw [← hs₂]
    exact hsteps
end
variable {p : Program} {l : Launch} {e : Env} {R : Room} {s : State} {m : MethodId} {args : Array Value} {below : List Frame} {meth : Method} {c : Code} {T : State} {H : Heap} {locs : List Loc} {cells slots : Nat}
theorem vx_callVX (X : Stand p l e R s m args below meth c T locs cells slots) (hexec : p.tables.exec = Jvm.exec) {own C : String} {index : Nat} {y : MethodName} {bytes : ByteArray} {maxL : Nat} {ret : Option FieldType} {hh : List (Nat × Nat × Nat × Nat)}
    (hown : s.vm.findClass own = some m.cls) (hlink : (Cond.methodLink own index y).before args s = true) (hinst : (Cond.instanceMethod y).before args s = true) (hsel : (Cond.selects C y y).before args s = true)
    (hcode : (Cond.codeWith y bytes maxL ret hh).before args s = true) (hy : y.cls ≠ "java/lang/invoke/MethodHandle" ∧ y.cls ≠ "java/lang/invoke/VarHandle")
    {W9 : Nat} {Pre : Pt → Array Value → Prop} {Post : Pt → Array Value → Option Value → Pt → Prop} {PostX : Pt → Array Value → Addr → Pt → Prop} (hK : vx_Back l R p e below s args y 3 W9 Pre Post PostX)
    {b : Addr} {cellB : Cell} (hcell : T.heap[b]? = some cellB) (hobj : cellB.vm.isStatics = false) (hcls : s.vm.findClass C = some cellB.cls)
    {g : JFrame} (hg : g.method = m) (hsize : g.locals.size = c.maxLocals) {argsL rest : List Value} (hlen : ∀ sig, parseMethodDescriptor y.desc = some sig → argsL.length = sig.parameters.length)
    (hstack : g.stack = argsL.reverse ++ .ref b :: rest) (hW : 2 * g.monitorRoom + (rest.map fun v => v.category).sum ≤ W9) (hdg : decode c.code g.pc = .ok (.invokevirtual index, 3))
    (hpre : ∀ vm₁, s.WarmedH vm₁ → Pre ⟨T.setVm vm₁, locs, cells, slots⟩ (Value.ref b :: argsL).toArray) :
    (∃ (v : Option Value) (vm₁ : Vm) (B : Pt), s.WarmedH vm₁ ∧ Stand p l e R s m args below meth c B.U B.locs B.cells B.slots ∧ Post ⟨T.setVm vm₁, locs, cells, slots⟩ (Value.ref b :: argsL).toArray v B ∧
      ∀ target, Steps p.tables e below (B.U.setTop { g with pc := g.pc + 3, stack := v.toList ++ rest }) target → Steps p.tables e below (T.setTop g) target) ∨
    (∃ (q : Addr) (vm₁ : Vm) (B : Pt), s.WarmedH vm₁ ∧ Stand p l e R s m args below meth c B.U B.locs B.cells B.slots ∧ PostX ⟨T.setVm vm₁, locs, cells, slots⟩ (Value.ref b :: argsL).toArray q B ∧
      Steps p.tables e below (T.setTop g) ((B.U.setTop { g with stack := rest }).pushFrame (.throwing q))) := by
  obtain ⟨mk, methM, hnamed, hmethM, hstM, habM⟩ := Cond.instanceMethod_spec hinst
  obtain ⟨m8, methM', cM, hn8, hmethM', -, -, -, -, -, -, hsigM⟩ := Cond.codeWith_spec hcode
  cases Option.some.inj (hn8.symm.trans hnamed)
  cases hmethM.symm.trans hmethM'
  obtain ⟨c2, r2, m2, q1, q2, q3, q4, kP, hkP, hkPi⟩ := Cond.selects_spec hsel
  cases hcls.symm.trans q1
  cases (State.methodFound?_of_named hnamed hy).symm.trans q2
  cases hnamed.symm.trans q3
  have hselP : selectMethod e.platform s.vm cellB.cls mk = .method mk := by rw [Launch.admits_selectMethod X.admits]; exact q4
  obtain ⟨vm₁, X₁, hstep₁⟩ := X.invokevirtual hexec hown hlink hnamed hmethM hstM hkP hkPi hy (a := b) (cell := cellB) hcell
    (fun z h => by rw [h] at hobj; cases hobj) hselP hmethM habM hkP hkPi (g := g) hg (argsL := argsL) (rest := rest) (hlen _ hsigM) hstack hdg
  rcases hK m meth c ⟨T.setVm vm₁, locs, cells, slots⟩ { g with stack := rest } (.invokevirtual index) mk (Value.ref b :: argsL).toArray X₁ hg hsize hdg hW (X₁.named hnamed) (hpre vm₁ X₁.warmed) with ⟨v, B, X', hpost, hsteps⟩ | ⟨q, B, X', hpost, hsteps⟩
  · exact Or.inl ⟨v, vm₁, B, X₁.warmed, X', hpost, fun target h => hstep₁ _ fun acts => by rw [doInvoke_state]; exact hsteps.trans h⟩
  · exact Or.inr ⟨q, vm₁, B, X₁.warmed, X', hpost, hstep₁ _ fun acts => by rw [doInvoke_state]; exact hsteps⟩
theorem vx_callSX (X : Stand p l e R s m args below meth c T locs cells slots) (hexec : p.tables.exec = Jvm.exec) {own : String} {index : Nat} {y : MethodName} {bytes : ByteArray} {maxL : Nat} {ret : Option FieldType} {hh : List (Nat × Nat × Nat × Nat)}
    (hown : s.vm.findClass own = some m.cls) (hlink : (Cond.methodLink own index y).before args s = true) (hstat : (Cond.static y).before args s = true) (hinit : (Cond.initialized y.cls).before args s = true)
    (hcode : (Cond.codeWith y bytes maxL ret hh).before args s = true) (hy : y.cls ≠ "java/lang/invoke/MethodHandle" ∧ y.cls ≠ "java/lang/invoke/VarHandle")
    {W9 : Nat} {Pre : Pt → Array Value → Prop} {Post : Pt → Array Value → Option Value → Pt → Prop} {PostX : Pt → Array Value → Addr → Pt → Prop} (hK : vx_Back l R p e below s args y 3 W9 Pre Post PostX)
    {g : JFrame} (hg : g.method = m) (hsize : g.locals.size = c.maxLocals) {argsL rest : List Value} (hlen : ∀ sig, parseMethodDescriptor y.desc = some sig → argsL.length = sig.parameters.length)
    (hstack : g.stack = argsL.reverse ++ rest) (hW : 2 * g.monitorRoom + (rest.map fun v => v.category).sum ≤ W9) (hdg : decode c.code g.pc = .ok (.invokestatic index, 3))
    (hpre : ∀ vm₁, s.WarmedH vm₁ → Pre ⟨T.setVm vm₁, locs, cells, slots⟩ argsL.toArray) :
    (∃ (v : Option Value) (vm₁ : Vm) (B : Pt), s.WarmedH vm₁ ∧ Stand p l e R s m args below meth c B.U B.locs B.cells B.slots ∧ Post ⟨T.setVm vm₁, locs, cells, slots⟩ argsL.toArray v B ∧
      ∀ target, Steps p.tables e below (B.U.setTop { g with pc := g.pc + 3, stack := v.toList ++ rest }) target → Steps p.tables e below (T.setTop g) target) ∨
    (∃ (q : Addr) (vm₁ : Vm) (B : Pt), s.WarmedH vm₁ ∧ Stand p l e R s m args below meth c B.U B.locs B.cells B.slots ∧ PostX ⟨T.setVm vm₁, locs, cells, slots⟩ argsL.toArray q B ∧
      Steps p.tables e below (T.setTop g) ((B.U.setTop { g with stack := rest }).pushFrame (.throwing q))) := by
  obtain ⟨mk, methM, cM, hnamed, hmethM, -, -, -, -, -, -, hsigM⟩ := Cond.codeWith_spec hcode
  have hstatic : methM.isStatic = true := Cond.static_spec hnamed hmethM hstat
  obtain ⟨kP, hkP, -⟩ := className_of_methodNamed hnamed
  have hinitP : kP.init = .initialized := Cond.initialized_spec (findClass_of_methodNamed hnamed) hkP hinit
  obtain ⟨vm₁, X₁, hstep₁⟩ := X.invokestatic hexec hown hlink hnamed hmethM hstatic hkP hinitP hy (g := g) hg (argsL := argsL) (rest := rest) (hlen _ hsigM) hstack hdg
  rcases hK m meth c ⟨T.setVm vm₁, locs, cells, slots⟩ { g with stack := rest } (.invokestatic index) mk argsL.toArray X₁ hg hsize hdg hW (X₁.named hnamed) (hpre vm₁ X₁.warmed) with ⟨v, B, X', hpost, hsteps⟩ | ⟨q, B, X', hpost, hsteps⟩
  · exact Or.inl ⟨v, vm₁, B, X₁.warmed, X', hpost, fun target h => hstep₁ _ fun acts => by rw [doInvoke_state]; exact hsteps.trans h⟩
  · exact Or.inr ⟨q, vm₁, B, X₁.warmed, X', hpost, hstep₁ _ fun acts => by rw [doInvoke_state]; exact hsteps⟩
theorem vx_callVW (X : Stand p l e R s m args below meth c T locs cells slots) (hexec : p.tables.exec = Jvm.exec) {own C : String} {index : Nat} {y : MethodName} {bytes : ByteArray} {maxL : Nat} {ret : Option FieldType} {hh : List (Nat × Nat × Nat × Nat)}
    (hown : s.vm.findClass own = some m.cls) (hlink : (Cond.methodLink own index y).before args s = true) (hinst : (Cond.instanceMethod y).before args s = true) (hsel : (Cond.selects C y y).before args s = true)
    (hcode : (Cond.codeWith y bytes maxL ret hh).before args s = true) (hy : y.cls ≠ "java/lang/invoke/MethodHandle" ∧ y.cls ≠ "java/lang/invoke/VarHandle")
    {W9 : Nat} {Pre : Pt → Array Value → Prop} {Post : Pt → Array Value → Option Value → Pt → Prop} (hK : Back l R p e below s args y 3 W9 Pre Post)
    {b : Addr} {cellB : Cell} (hcell : T.heap[b]? = some cellB) (hobj : cellB.vm.isStatics = false) (hcls : s.vm.findClass C = some cellB.cls)
    {g : JFrame} (hg : g.method = m) (hsize : g.locals.size = c.maxLocals) {argsL rest : List Value} (hlen : ∀ sig, parseMethodDescriptor y.desc = some sig → argsL.length = sig.parameters.length)
    (hstack : g.stack = argsL.reverse ++ .ref b :: rest) (hW : 2 * g.monitorRoom + (rest.map fun v => v.category).sum ≤ W9) (hdg : decode c.code g.pc = .ok (.invokevirtual index, 3))
    (hpre : ∀ vm₁, s.WarmedH vm₁ → Pre ⟨T.setVm vm₁, locs, cells, slots⟩ (Value.ref b :: argsL).toArray) :
    ∃ (v : Option Value) (vm₁ : Vm) (B : Pt), s.WarmedH vm₁ ∧ Stand p l e R s m args below meth c B.U B.locs B.cells B.slots ∧ Post ⟨T.setVm vm₁, locs, cells, slots⟩ (Value.ref b :: argsL).toArray v B ∧
      ∀ target, Steps p.tables e below (B.U.setTop { g with pc := g.pc + 3, stack := v.toList ++ rest }) target → Steps p.tables e below (T.setTop g) target := by
  obtain ⟨mk, methM, hnamed, hmethM, hstM, habM⟩ := Cond.instanceMethod_spec hinst
  obtain ⟨m8, methM', cM, hn8, hmethM', -, -, -, -, -, -, hsigM⟩ := Cond.codeWith_spec hcode
  cases Option.some.inj (hn8.symm.trans hnamed)
  cases hmethM.symm.trans hmethM'
  obtain ⟨c2, r2, m2, q1, q2, q3, q4, kP, hkP, hkPi⟩ := Cond.selects_spec hsel
  cases hcls.symm.trans q1
  cases (State.methodFound?_of_named hnamed hy).symm.trans q2
  cases hnamed.symm.trans q3
  have hselP : selectMethod e.platform s.vm cellB.cls mk = .method mk := by rw [Launch.admits_selectMethod X.admits]; exact q4
  obtain ⟨vm₁, X₁, hstep₁⟩ := X.invokevirtual hexec hown hlink hnamed hmethM hstM hkP hkPi hy (a := b) (cell := cellB) hcell
    (fun z h => by rw [h] at hobj; cases hobj) hselP hmethM habM hkP hkPi (g := g) hg (argsL := argsL) (rest := rest) (hlen _ hsigM) hstack hdg
  obtain ⟨v, B, X', hpost, hsteps⟩ := hK m meth c ⟨T.setVm vm₁, locs, cells, slots⟩ { g with stack := rest } (.invokevirtual index) mk (Value.ref b :: argsL).toArray X₁ hg hsize hdg hW (X₁.named hnamed) (hpre vm₁ X₁.warmed)
  exact ⟨v, vm₁, B, X₁.warmed, X', hpost, fun target h => hstep₁ _ fun acts => by rw [doInvoke_state]; exact hsteps.trans h⟩
abbrev vx_CVW (R : Room) (s : State) (args : Array Value) (own C : String) (index : Nat) (y : MethodName) (bytes : ByteArray) (maxL : Nat) (ret : Option FieldType) (hh : List (Nat × Nat × Nat × Nat)) (ws : List Cond) (rm : Room) (mc ms n : Nat) : Prop :=
  (rm.cells = mc ∧ rm.slots = ms ∧ rm.frames + 1 ≤ R.frames ∧ 8 + (maxL + 11) + rm.locals ≤ R.locals ∧ (∀ w ∈ ws, ∀ (a' : Array Value) (U : State), s.WarmedH U.vm → w.before a' U = true) ∧ Cond.codeWith y bytes maxL ret hh ∈ ws) ∧
  (Cond.codeWith y bytes maxL ret hh).before args s = true ∧ (Cond.initialized y.cls).before args s = true ∧ (y.cls ≠ "java/lang/invoke/MethodHandle" ∧ y.cls ≠ "java/lang/invoke/VarHandle") ∧
  (∀ sig, parseMethodDescriptor y.desc = some sig → n = sig.parameters.length) ∧ (Cond.methodLink own index y).before args s = true ∧ (Cond.instanceMethod y).before args s = true ∧ (Cond.selects C y y).before args s = true
theorem vx_cwVW {own C : String} {index maxL mc ms : Nat} {y : MethodName} {bytes : ByteArray} {ret : Option FieldType} {hh : List (Nat × Nat × Nat × Nat)} {Ts ws ws' : List Cond} {rm : Room} (n : Nat) (ht : ∀ w ∈ Ts, w.before args s = true) (hT : GoodIn Ts (wsV own index C y ws)) (hw : ws = Cond.codeWith y bytes maxL ret hh :: ws') (hrc : rm.cells = mc) (hrs : rm.slots = ms)
    (hd : y.cls = C ∧ y.cls ≠ "java/lang/invoke/MethodHandle" ∧ y.cls ≠ "java/lang/invoke/VarHandle" ∧ (parseMethodDescriptor y.desc).map (fun d => d.parameters.length) = some n) (hR : rm.frames + 1 ≤ R.frames ∧ 8 + (maxL + 11) + rm.locals ≤ R.locals) :
    vx_CVW R s args own C index y bytes maxL ret hh ws rm mc ms n := by
  obtain ⟨hC, hd⟩ := hd
  subst hC
  have ok : ∀ w ∈ wsV own index y.cls y ws, w.before args s = true := fun w h => ht w (hT w h).1
  have hG : GoodIn Ts ws := fun w h => hT w (by unfold wsV; exact List.mem_append_right _ h)
  have hc : Cond.codeWith y bytes maxL ret hh ∈ ws := by rw [hw]; exact List.mem_cons_self
  refine ⟨⟨hrc, hrs, hR.1, hR.2, pay_in ht hG, hc⟩, ht _ (hG _ hc).1, ok _ (by simp [wsV]), ⟨hd.1, hd.2.1⟩, fun sig h => ?_, ok _ (by simp [wsV]), ok _ (by simp [wsV]), ok _ (by simp [wsV])⟩
  have h2 := hd.2.2
  rw [h] at h2
  exact (Option.some.inj h2).symm
theorem vx_runVW {y : MethodName} {bytes cc : ByteArray} {maxL nL mc ms n index : Nat} {ret : Option FieldType} {hh : List (Nat × Nat × Nat × Nat)} {ws : List Cond} {rm : Room} {Pc : Array Value → State → Prop} {Qc : Array Value → State → Outcome → State → Prop} {free : Addr → Prop} {Ts : List Cond} {own C : String} {b : Addr} {As rest : List Value} {g : JFrame}
    (S : CallFix p m c cc nL s args Ts own) (hM : Met l y ws rm Pc Qc mc ms free) (cw : vx_CVW R s args own C index y bytes maxL ret hh ws rm mc ms n) (hp : PreV s H C b Pc As)
    (hg : g.method = m) (hn : As.length = n) (hsize : g.locals.size = nL) (hstack : g.stack = As.reverse ++ .ref b :: rest) (hW : 2 * g.monitorRoom + (rest.map fun v => v.category).sum ≤ 8) (hdg : decode cc g.pc = .ok (.invokevirtual index, 3)) (hf : cells + mc ≤ R.cells ∧ slots + ms ≤ R.slots) :
    va_Run p l e R s m args below meth c H locs cells slots mc ms g rest (Qc (Value.ref b :: As).toArray) free := by
  obtain ⟨⟨hrc, hrs, hfr, hlo, hws, hcw⟩, hcode, hini, hy, hlen, hl, hin, hse⟩ := cw
  have hK : Back l R p e below s args y 3 8 (PreOf R mc ms Pc) (PostOf Qc mc ms free) := va_backW (hh := hh) (bytes := bytes) (maxL := maxL) (ret := ret) hM hp.1 hrc hrs hfr hlo hws hcw (fun a' U hW => word_at hW (Or.inl (by first | rfl | simp [Cond.onTables, Cond.keeps, Cond.steady])) hini)
  obtain ⟨hx, hb, hml, ho, -⟩ := S
  obtain ⟨-, ⟨cellB, hcB, hoB, hclB⟩, hPc⟩ := hp
  intro T hT X
  obtain ⟨v, vm₁, ⟨U', l2, c2, s2⟩, hW₁, X', ⟨g', mk, t, L, e1, e2, hq, h1, hL, h2, h3⟩, st⟩ := vx_callVW X hx (C := C) (hh := hh) (bytes := bytes) (maxL := maxL) (ret := ret) ho hl hin hse hcode hy hK (by rw [hT]; exact hcB) hoB hclB hg (hsize.trans hml.symm) (argsL := As) (rest := rest) (fun sig h => hn.trans (hlen sig h)) hstack hW (by rw [hb]; exact hdg)
    (fun vm₁ hW₁ => ⟨hf.1, hf.2, hPc (T.setVm vm₁) hT hW₁⟩)
  dsimp only [Pt.U, Pt.locs, Pt.cells, Pt.slots] at X' e1 e2 h1 h2 h3 st
  subst h1; subst h2; subst h3
  exact ⟨v, (T.setVm vm₁).calling g' mk (Value.ref b :: As).toArray, t, U', L, hT, X', hL, e1, e2, hq, st⟩
section
variable {y : MethodName} {bytes cc : ByteArray} {maxL nL mc ms n index : Nat} {ret : Option FieldType} {ws : List Cond} {rm : Room} {Pc : Array Value → State → Prop} {Qc : Array Value → State → Outcome → State → Prop} {XC : String → State → State → Prop} {free : Addr → Prop} {Ts : List Cond} {own C : String} {b : Addr} {As rest : List Value} {g : JFrame}
theorem vx_runVX {hh : List (Nat × Nat × Nat × Nat)} (S : CallFix p m c cc nL s args Ts own) (hM : vx_Met l y ws rm Pc Qc XC mc ms free) (cw : vx_CVW R s args own C index y bytes maxL ret hh ws rm mc ms n) (hp : PreV s H C b Pc As)
    (hg : g.method = m) (hn : As.length = n) (hsize : g.locals.size = nL) (hstack : g.stack = As.reverse ++ .ref b :: rest) (hW : 2 * g.monitorRoom + (rest.map fun v => v.category).sum ≤ 8) (hdg : decode cc g.pc = .ok (.invokevirtual index, 3)) (hf : cells + mc ≤ R.cells ∧ slots + ms ≤ R.slots) :
    vx_Run p l e R s m args below meth c H locs cells slots mc ms g rest (Qc (Value.ref b :: As).toArray) XC free := by
  obtain ⟨⟨hrc, hrs, hfr, hlo, hws, hcw⟩, hcode, hini, hy, hlen, hl, hin, hse⟩ := cw
  have hK : vx_Back l R p e below s args y 3 8 (PreOf R mc ms Pc) (PostOf Qc mc ms free) (vx_Post XC mc ms free) := vx_backW (hh := hh) (bytes := bytes) (maxL := maxL) (ret := ret) hM hp.1 hrc hrs hfr hlo hws hcw (fun a' U hW => word_at hW (Or.inl (by first | rfl | simp [Cond.onTables, Cond.keeps, Cond.steady])) hini)
  obtain ⟨hx, hb, hml, ho, -⟩ := S
  obtain ⟨-, ⟨cellB, hcB, hoB, hclB⟩, hPc⟩ := hp
  intro T hT X
  rcases vx_callVX X hx (C := C) (hh := hh) (bytes := bytes) (maxL := maxL) (ret := ret) ho hl hin hse hcode hy hK (by rw [hT]; exact hcB) hoB hclB hg (hsize.trans hml.symm) (argsL := As) (rest := rest) (fun sig h => hn.trans (hlen sig h)) hstack hW (by rw [hb]; exact hdg)
    (fun vm₁ hW₁ => ⟨hf.1, hf.2, hPc (T.setVm vm₁) hT hW₁⟩) with ⟨v, vm₁, ⟨U', l2, c2, s2⟩, hW₁, X', ⟨g', mk, t, L, e1, e2, hq, h1, hL, h2, h3⟩, st⟩ | ⟨q, vm₁, ⟨U', l2, c2, s2⟩, hW₁, X', ⟨g', mk, t, L, E, ce, e1, e2, hq, hce, hcv, hcl, h1, hL, h2, h3⟩, st⟩
  · dsimp only [Pt.U, Pt.locs, Pt.cells, Pt.slots] at X' e1 e2 h1 h2 h3 st
    subst h1; subst h2; subst h3
    exact Or.inl ⟨v, (T.setVm vm₁).calling g' mk (Value.ref b :: As).toArray, t, U', L, hT, X', hL, e1, e2, hq, st⟩
  · dsimp only [Pt.U, Pt.locs, Pt.cells, Pt.slots] at X' e1 e2 h1 h2 h3 st hcl
    subst h1; subst h2; subst h3
    exact Or.inr ⟨q, (T.setVm vm₁).calling g' mk (Value.ref b :: As).toArray, t, U', L, E, ce, hT, X', hL, e1, e2, hq, hce, hcv, vx_cls hW₁ hcl, st⟩
theorem vx_runSX {hh : List (Nat × Nat × Nat × Nat)} (S : CallFix p m c cc nL s args Ts own) (hM : vx_Met l y ws rm Pc Qc XC mc ms free) (cw : vx_CSW R s args own index y bytes maxL ret hh ws rm mc ms n) (hp : PreS s H Pc As)
    (hg : g.method = m) (hn : As.length = n) (hsize : g.locals.size = nL) (hstack : g.stack = As.reverse ++ rest) (hW : 2 * g.monitorRoom + (rest.map fun v => v.category).sum ≤ 8) (hdg : decode cc g.pc = .ok (.invokestatic index, 3)) (hf : cells + mc ≤ R.cells ∧ slots + ms ≤ R.slots) :
    vx_Run p l e R s m args below meth c H locs cells slots mc ms g rest (Qc As.toArray) XC free := by
  obtain ⟨⟨hrc, hrs, hfr, hlo, hws, hcw⟩, hcode, hini, hy, hlen, hl, hstt⟩ := cw
  have hK : vx_Back l R p e below s args y 3 8 (PreOf R mc ms Pc) (PostOf Qc mc ms free) (vx_Post XC mc ms free) := vx_backW (hh := hh) (bytes := bytes) (maxL := maxL) (ret := ret) hM hp.1 hrc hrs hfr hlo hws hcw (fun a' U hW => word_at hW (Or.inl (by first | rfl | simp [Cond.onTables, Cond.keeps, Cond.steady])) hini)
  obtain ⟨hx, hb, hml, ho, -⟩ := S
  intro T hT X
  rcases vx_callSX X hx (hh := hh) (bytes := bytes) (maxL := maxL) (ret := ret) ho hl hstt hini hcode hy hK hg (hsize.trans hml.symm) (argsL := As) (rest := rest) (fun sig h => hn.trans (hlen sig h)) hstack hW (by rw [hb]; exact hdg)
    (fun vm₁ hW₁ => ⟨hf.1, hf.2, hp.2 (T.setVm vm₁) hT hW₁⟩) with ⟨v, vm₁, ⟨U', l2, c2, s2⟩, hW₁, X', ⟨g', mk, t, L, e1, e2, hq, h1, hL, h2, h3⟩, st⟩ | ⟨q, vm₁, ⟨U', l2, c2, s2⟩, hW₁, X', ⟨g', mk, t, L, E, ce, e1, e2, hq, hce, hcv, hcl, h1, hL, h2, h3⟩, st⟩
  · dsimp only [Pt.U, Pt.locs, Pt.cells, Pt.slots] at X' e1 e2 h1 h2 h3 st
    subst h1; subst h2; subst h3
    exact Or.inl ⟨v, (T.setVm vm₁).calling g' mk As.toArray, t, U', L, hT, X', hL, e1, e2, hq, st⟩
  · dsimp only [Pt.U, Pt.locs, Pt.cells, Pt.slots] at X' e1 e2 h1 h2 h3 st hcl
    subst h1; subst h2; subst h3
    exact Or.inr ⟨q, (T.setVm vm₁).calling g' mk As.toArray, t, U', L, E, ce, hT, X', hL, e1, e2, hq, hce, hcv, vx_cls hW₁ hcl, st⟩
end
end VXH
theorem vx_ofWH {l : Launch} {y : MethodName} {ws ws' : List Cond} {rm : Room} {Pc : Array Value → State → Prop} {Qc : Array Value → State → Outcome → State → Prop} {XC : String → State → State → Prop} {mc ms : Nat} {free : Addr → Prop} {cc : ByteArray} {maxL : Nat} {ret : Option FieldType} {hh : List (Nat × Nat × Nat × Nat)}
    (hy : plainName y.cls = true) (hw : ws = Cond.codeWith y cc maxL ret hh :: ws')
    (body : ∀ p e s m args below meth c s₁, BodyLoose p l y (headSpec ws rm) cc maxL ret e s m args below meth c s₁ → c.maxLocals = maxL → Pc args s →
      W p l e (headSpec ws rm).room s m args below meth c s.heap [] 0 0 (vx_MQ below Qc XC args s mc ms free) (entryFrame m args maxL)) : vx_Met l y ws rm Pc Qc XC mc ms free := by
  refine MetFree.of_bodyS (code := cc) (maxLocals := maxL) (ret := ret) hy ?_ ?_
  · intro args s m h hn
    obtain ⟨m9, meth, c, hn9, h1, h2, h3, h4, -, h5, h6, -⟩ := Cond.codeWith_spec (atoms_spec (ws := ws) h _ (by rw [hw]; exact List.mem_cons_self))
    cases hn.symm.trans hn9
    exact ⟨meth, c, h1, h2, h3, h4, h5, h6⟩
  · intro p e s m args below meth c s₁ B hml hP _
    have hh0 : s₁.heap = s.heap := by rw [B.state]; rfl
    obtain ⟨t, a1, o, b1, b2, b3⟩ := body p e s m args below meth c s₁ B hml hP s₁ hh0 (Stand.of_body B)
    exact ⟨t, o, a1, b1, b2, b3⟩
/-! ===== END ===== -/
end
section
/-! names, by program out of javap and the Statement -/
def TB : List Cond := lw_tbl.filter goodWord
theorem TB_good : ∀ w ∈ TB, (w.onTables && w.keeps) = true ∨ ∃ ty, w = .arrayClass ty := fun w hw => good_of_word (List.mem_filter.mp hw).2
theorem tb_t {w : Cond} (i : Nat) (h : tables_1[i]? = some w) (g : goodWord w = true) : w ∈ TB := List.mem_filter.mpr ⟨List.mem_append_right _ (List.mem_of_getElem? h), g⟩
theorem tb_s {w : Cond} (i : Nat) (h : (k2_sels lw_privs)[i]? = some w) (g : goodWord w = true) : w ∈ TB := List.mem_filter.mpr ⟨List.mem_append_left _ (List.mem_of_getElem? h), g⟩
def R_LogCleaner : String := "LogCleaner"
def F_LogCleaner : u_T := fun k => match k with
  | 0 => ("LogCleaner", "batches", "[LLogCleaner$Batch;", true)
  | 1 => ("LogCleaner", "batchCount", "I", false)
  | 2 => ("LogCleaner", "recordCount", "I", false)
  | 3 => ("LogCleaner", "nextOffset", "I", false)
  | 4 => ("LogCleaner", "packing", "LLogCleaner$Packing;", true)
  | 5 => ("LogCleaner", "draft", "[LLogCleaner$Entry;", true)
  | _ => ("LogCleaner", "draftCount", "I", false)
def t_LogCleaner : Nat → FieldType := fun k => match k with
  | 0 => .array (.object "LogCleaner$Batch")
  | 1 => .int
  | 2 => .int
  | 3 => .int
  | 4 => .object "LogCleaner$Packing"
  | 5 => .array (.object "LogCleaner$Entry")
  | _ => .int
theorem n_LogCleaner : ∀ a, a < 7 → ∀ b, b < 7 → a ≠ b → (F_LogCleaner a).2.1 ≠ (F_LogCleaner b).2.1 := by decide +kernel
theorem t_LogCleaner_ok : ∀ k, k < 7 → parseFieldDescriptor (F_LogCleaner k).2.2.1 = some (t_LogCleaner k) := by decide +kernel
def z_LogCleaner : List Value := [.null, .int 0, .int 0, .int 0, .null, .null, .int 0]
theorem z_LogCleaner_ok : ∀ j, j < 7 → defaultValue (t_LogCleaner j) = vp_V z_LogCleaner j := fun j hj => by
  rcases (show j = 0 ∨ j = 1 ∨ j = 2 ∨ j = 3 ∨ j = 4 ∨ j = 5 ∨ j = 6 by omega) with rfl | rfl | rfl | rfl | rfl | rfl | rfl <;> rfl
theorem l_LogCleaner_0 : u_lay R_LogCleaner F_LogCleaner 0 ∈ TB := tb_t 45 (by decide +kernel) (by decide +kernel)
theorem l_LogCleaner_1 : u_lay R_LogCleaner F_LogCleaner 1 ∈ TB := tb_t 47 (by decide +kernel) (by decide +kernel)
theorem l_LogCleaner_2 : u_lay R_LogCleaner F_LogCleaner 2 ∈ TB := tb_t 49 (by decide +kernel) (by decide +kernel)
theorem l_LogCleaner_3 : u_lay R_LogCleaner F_LogCleaner 3 ∈ TB := tb_t 51 (by decide +kernel) (by decide +kernel)
theorem l_LogCleaner_4 : u_lay R_LogCleaner F_LogCleaner 4 ∈ TB := tb_t 53 (by decide +kernel) (by decide +kernel)
theorem l_LogCleaner_5 : u_lay R_LogCleaner F_LogCleaner 5 ∈ TB := tb_t 55 (by decide +kernel) (by decide +kernel)
theorem l_LogCleaner_6 : u_lay R_LogCleaner F_LogCleaner 6 ∈ TB := tb_t 57 (by decide +kernel) (by decide +kernel)
theorem i_LogCleaner : ∀ w ∈ u_ws R_LogCleaner F_LogCleaner 7, w ∈ TB := fun w hw => by
  obtain ⟨k, hk, rfl⟩ := List.mem_map.mp hw
  have hk := List.mem_range.mp hk
  rcases (show k = 0 ∨ k = 1 ∨ k = 2 ∨ k = 3 ∨ k = 4 ∨ k = 5 ∨ k = 6 by omega) with rfl | rfl | rfl | rfl | rfl | rfl | rfl
  · exact l_LogCleaner_0
  · exact l_LogCleaner_1
  · exact l_LogCleaner_2
  · exact l_LogCleaner_3
  · exact l_LogCleaner_4
  · exact l_LogCleaner_5
  · exact l_LogCleaner_6
def R_Batch : String := "LogCleaner$Batch"
def F_Batch : u_T := fun k => match k with
  | 0 => ("LogCleaner$Batch", "base", "I", true)
  | 1 => ("LogCleaner$Batch", "producer", "I", true)
  | 2 => ("LogCleaner$Batch", "entries", "[LLogCleaner$Entry;", true)
  | 3 => ("LogCleaner$Batch", "recordCount", "I", false)
  | _ => ("LogCleaner$Batch", "segment", "I", false)
def t_Batch : Nat → FieldType := fun k => match k with
  | 0 => .int
  | 1 => .int
  | 2 => .array (.object "LogCleaner$Entry")
  | 3 => .int
  | _ => .int
theorem n_Batch : ∀ a, a < 5 → ∀ b, b < 5 → a ≠ b → (F_Batch a).2.1 ≠ (F_Batch b).2.1 := by decide +kernel
theorem t_Batch_ok : ∀ k, k < 5 → parseFieldDescriptor (F_Batch k).2.2.1 = some (t_Batch k) := by decide +kernel
def z_Batch : List Value := [.int 0, .int 0, .null, .int 0, .int 0]
theorem z_Batch_ok : ∀ j, j < 5 → defaultValue (t_Batch j) = vp_V z_Batch j := fun j hj => by
  rcases (show j = 0 ∨ j = 1 ∨ j = 2 ∨ j = 3 ∨ j = 4 by omega) with rfl | rfl | rfl | rfl | rfl <;> rfl
theorem l_Batch_0 : u_lay R_Batch F_Batch 0 ∈ TB := tb_t 222 (by decide +kernel) (by decide +kernel)
theorem l_Batch_1 : u_lay R_Batch F_Batch 1 ∈ TB := tb_t 224 (by decide +kernel) (by decide +kernel)
theorem l_Batch_2 : u_lay R_Batch F_Batch 2 ∈ TB := tb_t 226 (by decide +kernel) (by decide +kernel)
theorem l_Batch_3 : u_lay R_Batch F_Batch 3 ∈ TB := tb_t 228 (by decide +kernel) (by decide +kernel)
theorem l_Batch_4 : u_lay R_Batch F_Batch 4 ∈ TB := tb_t 230 (by decide +kernel) (by decide +kernel)
theorem i_Batch : ∀ w ∈ u_ws R_Batch F_Batch 5, w ∈ TB := fun w hw => by
  obtain ⟨k, hk, rfl⟩ := List.mem_map.mp hw
  have hk := List.mem_range.mp hk
  rcases (show k = 0 ∨ k = 1 ∨ k = 2 ∨ k = 3 ∨ k = 4 by omega) with rfl | rfl | rfl | rfl | rfl
  · exact l_Batch_0
  · exact l_Batch_1
  · exact l_Batch_2
  · exact l_Batch_3
  · exact l_Batch_4
def R_Entry : String := "LogCleaner$Entry"
def F_Entry : u_T := fun k => match k with
  | 0 => ("LogCleaner$Entry", "key", "J", true)
  | 1 => ("LogCleaner$Entry", "keyBytes", "I", true)
  | 2 => ("LogCleaner$Entry", "hasValue", "Z", true)
  | 3 => ("LogCleaner$Entry", "value", "J", true)
  | 4 => ("LogCleaner$Entry", "time", "I", true)
  | 5 => ("LogCleaner$Entry", "offset", "I", false)
  | _ => ("LogCleaner$Entry", "superseded", "Z", false)
def t_Entry : Nat → FieldType := fun k => match k with
  | 0 => .long
  | 1 => .int
  | 2 => .boolean
  | 3 => .long
  | 4 => .int
  | 5 => .int
  | _ => .boolean
theorem n_Entry : ∀ a, a < 7 → ∀ b, b < 7 → a ≠ b → (F_Entry a).2.1 ≠ (F_Entry b).2.1 := by decide +kernel
theorem t_Entry_ok : ∀ k, k < 7 → parseFieldDescriptor (F_Entry k).2.2.1 = some (t_Entry k) := by decide +kernel
def z_Entry : List Value := [.long 0, .int 0, .int 0, .long 0, .int 0, .int 0, .int 0]
theorem z_Entry_ok : ∀ j, j < 7 → defaultValue (t_Entry j) = vp_V z_Entry j := fun j hj => by
  rcases (show j = 0 ∨ j = 1 ∨ j = 2 ∨ j = 3 ∨ j = 4 ∨ j = 5 ∨ j = 6 by omega) with rfl | rfl | rfl | rfl | rfl | rfl | rfl <;> rfl
theorem l_Entry_0 : u_lay R_Entry F_Entry 0 ∈ TB := tb_t 178 (by decide +kernel) (by decide +kernel)
theorem l_Entry_1 : u_lay R_Entry F_Entry 1 ∈ TB := tb_t 180 (by decide +kernel) (by decide +kernel)
theorem l_Entry_2 : u_lay R_Entry F_Entry 2 ∈ TB := tb_t 182 (by decide +kernel) (by decide +kernel)
theorem l_Entry_3 : u_lay R_Entry F_Entry 3 ∈ TB := tb_t 184 (by decide +kernel) (by decide +kernel)
theorem l_Entry_4 : u_lay R_Entry F_Entry 4 ∈ TB := tb_t 186 (by decide +kernel) (by decide +kernel)
theorem l_Entry_5 : u_lay R_Entry F_Entry 5 ∈ TB := tb_t 188 (by decide +kernel) (by decide +kernel)
theorem l_Entry_6 : u_lay R_Entry F_Entry 6 ∈ TB := tb_t 190 (by decide +kernel) (by decide +kernel)
theorem i_Entry : ∀ w ∈ u_ws R_Entry F_Entry 7, w ∈ TB := fun w hw => by
  obtain ⟨k, hk, rfl⟩ := List.mem_map.mp hw
  have hk := List.mem_range.mp hk
  rcases (show k = 0 ∨ k = 1 ∨ k = 2 ∨ k = 3 ∨ k = 4 ∨ k = 5 ∨ k = 6 by omega) with rfl | rfl | rfl | rfl | rfl | rfl | rfl
  · exact l_Entry_0
  · exact l_Entry_1
  · exact l_Entry_2
  · exact l_Entry_3
  · exact l_Entry_4
  · exact l_Entry_5
  · exact l_Entry_6
def R_Packing : String := "LogCleaner$Packing"
def F_Packing : u_T := fun k => match k with
  | 0 => ("LogCleaner$Packing", "lastSegment", "I", false)
  | _ => ("LogCleaner$Packing", "lastFilled", "I", false)
def t_Packing : Nat → FieldType := fun k => match k with
  | 0 => .int
  | _ => .int
theorem n_Packing : ∀ a, a < 2 → ∀ b, b < 2 → a ≠ b → (F_Packing a).2.1 ≠ (F_Packing b).2.1 := by decide +kernel
theorem t_Packing_ok : ∀ k, k < 2 → parseFieldDescriptor (F_Packing k).2.2.1 = some (t_Packing k) := by decide +kernel
def z_Packing : List Value := [.int 0, .int 0]
theorem z_Packing_ok : ∀ j, j < 2 → defaultValue (t_Packing j) = vp_V z_Packing j := fun j hj => by
  rcases (show j = 0 ∨ j = 1 by omega) with rfl | rfl <;> rfl
theorem l_Packing_0 : u_lay R_Packing F_Packing 0 ∈ TB := tb_t 31 (by decide +kernel) (by decide +kernel)
theorem l_Packing_1 : u_lay R_Packing F_Packing 1 ∈ TB := tb_t 33 (by decide +kernel) (by decide +kernel)
theorem i_Packing : ∀ w ∈ u_ws R_Packing F_Packing 2, w ∈ TB := fun w hw => by
  obtain ⟨k, hk, rfl⟩ := List.mem_map.mp hw
  have hk := List.mem_range.mp hk
  rcases (show k = 0 ∨ k = 1 by omega) with rfl | rfl
  · exact l_Packing_0
  · exact l_Packing_1
def R_LogCleanerModel : String := "LogCleanerModel"
def F_LogCleanerModel : u_T := fun k => match k with
  | 0 => ("LogCleanerModel", "code", "I", false)
  | 1 => ("LogCleanerModel", "records", "I", false)
  | 2 => ("LogCleanerModel", "of", "[I", true)
  | 3 => ("LogCleanerModel", "offset", "[I", true)
  | 4 => ("LogCleanerModel", "key", "[J", true)
  | 5 => ("LogCleanerModel", "keyBytes", "[I", true)
  | 6 => ("LogCleanerModel", "has", "[Z", true)
  | 7 => ("LogCleanerModel", "value", "[J", true)
  | 8 => ("LogCleanerModel", "time", "[I", true)
  | 9 => ("LogCleanerModel", "next", "I", false)
  | 10 => ("LogCleanerModel", "drafted", "I", false)
  | 11 => ("LogCleanerModel", "draftKey", "[J", true)
  | 12 => ("LogCleanerModel", "draftBytes", "[I", true)
  | 13 => ("LogCleanerModel", "draftHas", "[Z", true)
  | 14 => ("LogCleanerModel", "draftValue", "[J", true)
  | 15 => ("LogCleanerModel", "draftTime", "[I", true)
  | 16 => ("LogCleanerModel", "batches", "I", false)
  | 17 => ("LogCleanerModel", "base", "[I", true)
  | 18 => ("LogCleanerModel", "producer", "[I", true)
  | 19 => ("LogCleanerModel", "segment", "[I", true)
  | 20 => ("LogCleanerModel", "goes", "[Z", true)
  | 21 => ("LogCleanerModel", "stays", "[Z", true)
  | _ => ("LogCleanerModel", "number", "[I", true)
def t_LogCleanerModel : Nat → FieldType := fun k => match k with
  | 0 => .int
  | 1 => .int
  | 2 => .array .int
  | 3 => .array .int
  | 4 => .array .long
  | 5 => .array .int
  | 6 => .array .boolean
  | 7 => .array .long
  | 8 => .array .int
  | 9 => .int
  | 10 => .int
  | 11 => .array .long
  | 12 => .array .int
  | 13 => .array .boolean
  | 14 => .array .long
  | 15 => .array .int
  | 16 => .int
  | 17 => .array .int
  | 18 => .array .int
  | 19 => .array .int
  | 20 => .array .boolean
  | 21 => .array .boolean
  | _ => .array .int
theorem n_LogCleanerModel : ∀ a, a < 23 → ∀ b, b < 23 → a ≠ b → (F_LogCleanerModel a).2.1 ≠ (F_LogCleanerModel b).2.1 := by decide +kernel
theorem t_LogCleanerModel_ok : ∀ k, k < 23 → parseFieldDescriptor (F_LogCleanerModel k).2.2.1 = some (t_LogCleanerModel k) := by decide +kernel
def z_LogCleanerModel : List Value := [.int 0, .int 0, .null, .null, .null, .null, .null, .null, .null, .int 0, .int 0, .null, .null, .null, .null, .null, .int 0, .null, .null, .null, .null, .null, .null]
theorem z_LogCleanerModel_ok : ∀ j, j < 23 → defaultValue (t_LogCleanerModel j) = vp_V z_LogCleanerModel j := fun j hj => by
  rcases (show j = 0 ∨ j = 1 ∨ j = 2 ∨ j = 3 ∨ j = 4 ∨ j = 5 ∨ j = 6 ∨ j = 7 ∨ j = 8 ∨ j = 9 ∨ j = 10 ∨ j = 11 ∨ j = 12 ∨ j = 13 ∨ j = 14 ∨ j = 15 ∨ j = 16 ∨ j = 17 ∨ j = 18 ∨ j = 19 ∨ j = 20 ∨ j = 21 ∨ j = 22 by omega) with rfl | rfl | rfl | rfl | rfl | rfl | rfl | rfl | rfl | rfl | rfl | rfl | rfl | rfl | rfl | rfl | rfl | rfl | rfl | rfl | rfl | rfl | rfl <;> rfl
theorem l_LogCleanerModel_0 : u_lay R_LogCleanerModel F_LogCleanerModel 0 ∈ TB := tb_t 391 (by decide +kernel) (by decide +kernel)
theorem l_LogCleanerModel_1 : u_lay R_LogCleanerModel F_LogCleanerModel 1 ∈ TB := tb_t 393 (by decide +kernel) (by decide +kernel)
theorem l_LogCleanerModel_2 : u_lay R_LogCleanerModel F_LogCleanerModel 2 ∈ TB := tb_t 395 (by decide +kernel) (by decide +kernel)
theorem l_LogCleanerModel_3 : u_lay R_LogCleanerModel F_LogCleanerModel 3 ∈ TB := tb_t 397 (by decide +kernel) (by decide +kernel)
theorem l_LogCleanerModel_4 : u_lay R_LogCleanerModel F_LogCleanerModel 4 ∈ TB := tb_t 399 (by decide +kernel) (by decide +kernel)
theorem l_LogCleanerModel_5 : u_lay R_LogCleanerModel F_LogCleanerModel 5 ∈ TB := tb_t 401 (by decide +kernel) (by decide +kernel)
theorem l_LogCleanerModel_6 : u_lay R_LogCleanerModel F_LogCleanerModel 6 ∈ TB := tb_t 403 (by decide +kernel) (by decide +kernel)
theorem l_LogCleanerModel_7 : u_lay R_LogCleanerModel F_LogCleanerModel 7 ∈ TB := tb_t 405 (by decide +kernel) (by decide +kernel)
theorem l_LogCleanerModel_8 : u_lay R_LogCleanerModel F_LogCleanerModel 8 ∈ TB := tb_t 407 (by decide +kernel) (by decide +kernel)
theorem l_LogCleanerModel_9 : u_lay R_LogCleanerModel F_LogCleanerModel 9 ∈ TB := tb_t 409 (by decide +kernel) (by decide +kernel)
theorem l_LogCleanerModel_10 : u_lay R_LogCleanerModel F_LogCleanerModel 10 ∈ TB := tb_t 411 (by decide +kernel) (by decide +kernel)
theorem l_LogCleanerModel_11 : u_lay R_LogCleanerModel F_LogCleanerModel 11 ∈ TB := tb_t 413 (by decide +kernel) (by decide +kernel)
theorem l_LogCleanerModel_12 : u_lay R_LogCleanerModel F_LogCleanerModel 12 ∈ TB := tb_t 415 (by decide +kernel) (by decide +kernel)
theorem l_LogCleanerModel_13 : u_lay R_LogCleanerModel F_LogCleanerModel 13 ∈ TB := tb_t 417 (by decide +kernel) (by decide +kernel)
theorem l_LogCleanerModel_14 : u_lay R_LogCleanerModel F_LogCleanerModel 14 ∈ TB := tb_t 419 (by decide +kernel) (by decide +kernel)
theorem l_LogCleanerModel_15 : u_lay R_LogCleanerModel F_LogCleanerModel 15 ∈ TB := tb_t 421 (by decide +kernel) (by decide +kernel)
theorem l_LogCleanerModel_16 : u_lay R_LogCleanerModel F_LogCleanerModel 16 ∈ TB := tb_t 423 (by decide +kernel) (by decide +kernel)
theorem l_LogCleanerModel_17 : u_lay R_LogCleanerModel F_LogCleanerModel 17 ∈ TB := tb_t 425 (by decide +kernel) (by decide +kernel)
theorem l_LogCleanerModel_18 : u_lay R_LogCleanerModel F_LogCleanerModel 18 ∈ TB := tb_t 427 (by decide +kernel) (by decide +kernel)
theorem l_LogCleanerModel_19 : u_lay R_LogCleanerModel F_LogCleanerModel 19 ∈ TB := tb_t 429 (by decide +kernel) (by decide +kernel)
theorem l_LogCleanerModel_20 : u_lay R_LogCleanerModel F_LogCleanerModel 20 ∈ TB := tb_t 431 (by decide +kernel) (by decide +kernel)
theorem l_LogCleanerModel_21 : u_lay R_LogCleanerModel F_LogCleanerModel 21 ∈ TB := tb_t 433 (by decide +kernel) (by decide +kernel)
theorem l_LogCleanerModel_22 : u_lay R_LogCleanerModel F_LogCleanerModel 22 ∈ TB := tb_t 435 (by decide +kernel) (by decide +kernel)
theorem i_LogCleanerModel : ∀ w ∈ u_ws R_LogCleanerModel F_LogCleanerModel 23, w ∈ TB := fun w hw => by
  obtain ⟨k, hk, rfl⟩ := List.mem_map.mp hw
  have hk := List.mem_range.mp hk
  rcases (show k = 0 ∨ k = 1 ∨ k = 2 ∨ k = 3 ∨ k = 4 ∨ k = 5 ∨ k = 6 ∨ k = 7 ∨ k = 8 ∨ k = 9 ∨ k = 10 ∨ k = 11 ∨ k = 12 ∨ k = 13 ∨ k = 14 ∨ k = 15 ∨ k = 16 ∨ k = 17 ∨ k = 18 ∨ k = 19 ∨ k = 20 ∨ k = 21 ∨ k = 22 by omega) with rfl | rfl | rfl | rfl | rfl | rfl | rfl | rfl | rfl | rfl | rfl | rfl | rfl | rfl | rfl | rfl | rfl | rfl | rfl | rfl | rfl | rfl | rfl
  · exact l_LogCleanerModel_0
  · exact l_LogCleanerModel_1
  · exact l_LogCleanerModel_2
  · exact l_LogCleanerModel_3
  · exact l_LogCleanerModel_4
  · exact l_LogCleanerModel_5
  · exact l_LogCleanerModel_6
  · exact l_LogCleanerModel_7
  · exact l_LogCleanerModel_8
  · exact l_LogCleanerModel_9
  · exact l_LogCleanerModel_10
  · exact l_LogCleanerModel_11
  · exact l_LogCleanerModel_12
  · exact l_LogCleanerModel_13
  · exact l_LogCleanerModel_14
  · exact l_LogCleanerModel_15
  · exact l_LogCleanerModel_16
  · exact l_LogCleanerModel_17
  · exact l_LogCleanerModel_18
  · exact l_LogCleanerModel_19
  · exact l_LogCleanerModel_20
  · exact l_LogCleanerModel_21
  · exact l_LogCleanerModel_22
def R_LogCleanerLaw : String := "LogCleanerLaw"
abbrev vwCl : List vw_C := [(R_LogCleaner, F_LogCleaner, 7), (R_Batch, F_Batch, 5), (R_Entry, F_Entry, 7), (R_Packing, F_Packing, 2), (R_LogCleanerModel, F_LogCleanerModel, 23)]
abbrev b_Batch_init : ByteArray := prog_2_method_1_code
def y_Batch_init : MethodName := ⟨R_Batch, "<init>", "(III)V"⟩
abbrev b_Batch_append : ByteArray := prog_2_method_2_code
def y_Batch_append : MethodName := ⟨R_Batch, "append", "(LLogCleaner$Entry;)V"⟩
abbrev b_Entry_hasKey : ByteArray := prog_3_method_2_code
def y_Entry_hasKey : MethodName := ⟨R_Entry, "hasKey", "()Z"⟩
abbrev b_Entry_sizeInBytes : ByteArray := prog_3_method_4_code
def y_Entry_sizeInBytes : MethodName := ⟨R_Entry, "sizeInBytes", "()I"⟩
abbrev b_Batch_sizeInBytes : ByteArray := prog_2_method_3_code
def y_Batch_sizeInBytes : MethodName := ⟨R_Batch, "sizeInBytes", "()I"⟩
abbrev b_Batch_latestWithKey : ByteArray := prog_2_method_4_code
def y_Batch_latestWithKey : MethodName := ⟨R_Batch, "latestWithKey", "(JI)LLogCleaner$Entry;"⟩
abbrev b_Entry_goes : ByteArray := prog_3_method_3_code
def y_Entry_goes : MethodName := ⟨R_Entry, "goes", "(I)Z"⟩
abbrev b_Batch_removeGone : ByteArray := prog_2_method_5_code
def y_Batch_removeGone : MethodName := ⟨R_Batch, "removeGone", "(I)I"⟩
abbrev b_Entry_init : ByteArray := prog_3_method_1_code
def y_Entry_init : MethodName := ⟨R_Entry, "<init>", "(JIZJI)V"⟩
abbrev b_Packing_init : ByteArray := prog_4_method_1_code
def y_Packing_init : MethodName := ⟨R_Packing, "<init>", "()V"⟩
abbrev b_Packing_place : ByteArray := prog_4_method_2_code
def y_Packing_place : MethodName := ⟨R_Packing, "place", "(I)I"⟩
abbrev b_LogCleaner_init : ByteArray := prog_1_method_1_code
def y_LogCleaner_init : MethodName := ⟨R_LogCleaner, "<init>", "()V"⟩
abbrev b_LogCleaner_lowestBytes : ByteArray := prog_1_method_10_code
def y_LogCleaner_lowestBytes : MethodName := ⟨R_LogCleaner, "lowestBytes", "(JI)J"⟩
abbrev b_LogCleaner_record : ByteArray := prog_1_method_2_code
def y_LogCleaner_record : MethodName := ⟨R_LogCleaner, "record", "(JIZJI)I"⟩
abbrev b_LogCleaner_latestWithKey : ByteArray := prog_1_method_13_code
def y_LogCleaner_latestWithKey : MethodName := ⟨R_LogCleaner, "latestWithKey", "(JI)LLogCleaner$Entry;"⟩
abbrev b_LogCleaner_markSuperseded : ByteArray := prog_1_method_12_code
def y_LogCleaner_markSuperseded : MethodName := ⟨R_LogCleaner, "markSuperseded", "(LLogCleaner$Entry;)V"⟩
abbrev b_LogCleaner_moveDraftInto : ByteArray := prog_1_method_11_code
def y_LogCleaner_moveDraftInto : MethodName := ⟨R_LogCleaner, "moveDraftInto", "(LLogCleaner$Batch;)V"⟩
abbrev b_LogCleaner_close : ByteArray := prog_1_method_3_code
def y_LogCleaner_close : MethodName := ⟨R_LogCleaner, "close", "(I)I"⟩
abbrev b_LogCleaner_isClosed : ByteArray := prog_1_method_15_code
def y_LogCleaner_isClosed : MethodName := ⟨R_LogCleaner, "isClosed", "(LLogCleaner$Batch;)Z"⟩
abbrev b_LogCleaner_removeGoneRecords : ByteArray := prog_1_method_17_code
def y_LogCleaner_removeGoneRecords : MethodName := ⟨R_LogCleaner, "removeGoneRecords", "(I)I"⟩
abbrev b_LogCleaner_isKnown : ByteArray := prog_1_method_16_code
def y_LogCleaner_isKnown : MethodName := ⟨R_LogCleaner, "isKnown", "(I)Z"⟩
abbrev b_LogCleaner_keepFirstBatches : ByteArray := prog_1_method_20_code
def y_LogCleaner_keepFirstBatches : MethodName := ⟨R_LogCleaner, "keepFirstBatches", "(I)V"⟩
abbrev b_LogCleaner_removeEmptiedBatches : ByteArray := prog_1_method_18_code
def y_LogCleaner_removeEmptiedBatches : MethodName := ⟨R_LogCleaner, "removeEmptiedBatches", "()I"⟩
abbrev b_LogCleaner_packClosedSegments : ByteArray := prog_1_method_21_code
def y_LogCleaner_packClosedSegments : MethodName := ⟨R_LogCleaner, "packClosedSegments", "()V"⟩
abbrev b_LogCleaner_clean : ByteArray := prog_1_method_4_code
def y_LogCleaner_clean : MethodName := ⟨R_LogCleaner, "clean", "(I)I"⟩
abbrev b_LogCleaner_removeFirstSegments : ByteArray := prog_1_method_19_code
def y_LogCleaner_removeFirstSegments : MethodName := ⟨R_LogCleaner, "removeFirstSegments", "(I)I"⟩
abbrev b_LogCleaner_drop : ByteArray := prog_1_method_5_code
def y_LogCleaner_drop : MethodName := ⟨R_LogCleaner, "drop", "(I)I"⟩
abbrev b_LogCleaner_count : ByteArray := prog_1_method_6_code
def y_LogCleaner_count : MethodName := ⟨R_LogCleaner, "count", "(I)I"⟩
abbrev b_LogCleaner_batch : ByteArray := prog_1_method_7_code
def y_LogCleaner_batch : MethodName := ⟨R_LogCleaner, "batch", "(II)I"⟩
abbrev b_LogCleaner_entryAt : ByteArray := prog_1_method_14_code
def y_LogCleaner_entryAt : MethodName := ⟨R_LogCleaner, "entryAt", "(I)LLogCleaner$Entry;"⟩
abbrev b_LogCleaner_told : ByteArray := prog_1_method_8_code
def y_LogCleaner_told : MethodName := ⟨R_LogCleaner, "told", "(II)J"⟩
abbrev b_LogCleaner_latest : ByteArray := prog_1_method_9_code
def y_LogCleaner_latest : MethodName := ⟨R_LogCleaner, "latest", "(JI)I"⟩
abbrev b_LogCleanerModel_init : ByteArray := prog_6_method_1_code
def y_LogCleanerModel_init : MethodName := ⟨R_LogCleanerModel, "<init>", "()V"⟩
abbrev b_LogCleanerModel_lowest : ByteArray := prog_6_method_3_code
def y_LogCleanerModel_lowest : MethodName := ⟨R_LogCleanerModel, "lowest", "(JI)J"⟩
abbrev b_LogCleanerModel_record : ByteArray := prog_6_method_4_code
def y_LogCleanerModel_record : MethodName := ⟨R_LogCleanerModel, "record", "(JIZJI)I"⟩
abbrev b_LogCleanerModel_thrown : ByteArray := prog_6_method_2_code
def y_LogCleanerModel_thrown : MethodName := ⟨R_LogCleanerModel, "thrown", "()I"⟩
abbrev b_LogCleanerModel_sizeOf : ByteArray := prog_6_method_6_code
def y_LogCleanerModel_sizeOf : MethodName := ⟨R_LogCleanerModel, "sizeOf", "(I)I"⟩
abbrev b_LogCleanerModel_close : ByteArray := prog_6_method_7_code
def y_LogCleanerModel_close : MethodName := ⟨R_LogCleanerModel, "close", "(I)I"⟩
abbrev b_LogCleanerModel_isClosed : ByteArray := prog_6_method_8_code
def y_LogCleanerModel_isClosed : MethodName := ⟨R_LogCleanerModel, "isClosed", "(I)Z"⟩
abbrev b_LogCleanerModel_isOver : ByteArray := prog_6_method_10_code
def y_LogCleanerModel_isOver : MethodName := ⟨R_LogCleanerModel, "isOver", "(II)Z"⟩
abbrev b_LogCleanerModel_isKnown : ByteArray := prog_6_method_9_code
def y_LogCleanerModel_isKnown : MethodName := ⟨R_LogCleanerModel, "isKnown", "(I)Z"⟩
abbrev b_LogCleanerModel_takeOut : ByteArray := prog_6_method_11_code
def y_LogCleanerModel_takeOut : MethodName := ⟨R_LogCleanerModel, "takeOut", "()I"⟩
abbrev b_LogCleanerModel_clean : ByteArray := prog_6_method_12_code
def y_LogCleanerModel_clean : MethodName := ⟨R_LogCleanerModel, "clean", "(I)I"⟩
abbrev b_LogCleanerModel_segments : ByteArray := prog_6_method_14_code
def y_LogCleanerModel_segments : MethodName := ⟨R_LogCleanerModel, "segments", "()I"⟩
abbrev b_LogCleanerModel_drop : ByteArray := prog_6_method_13_code
def y_LogCleanerModel_drop : MethodName := ⟨R_LogCleanerModel, "drop", "(I)I"⟩
abbrev b_LogCleanerModel_count : ByteArray := prog_6_method_15_code
def y_LogCleanerModel_count : MethodName := ⟨R_LogCleanerModel, "count", "(I)I"⟩
abbrev b_LogCleanerModel_countOf : ByteArray := prog_6_method_5_code
def y_LogCleanerModel_countOf : MethodName := ⟨R_LogCleanerModel, "countOf", "(I)I"⟩
abbrev b_LogCleanerModel_batch : ByteArray := prog_6_method_16_code
def y_LogCleanerModel_batch : MethodName := ⟨R_LogCleanerModel, "batch", "(II)I"⟩
abbrev b_LogCleanerModel_told : ByteArray := prog_6_method_17_code
def y_LogCleanerModel_told : MethodName := ⟨R_LogCleanerModel, "told", "(II)J"⟩
abbrev b_LogCleanerModel_latest : ByteArray := prog_6_method_18_code
def y_LogCleanerModel_latest : MethodName := ⟨R_LogCleanerModel, "latest", "(JI)I"⟩
abbrev b_LogCleanerLaw_record : ByteArray := method_3_code
def y_LogCleanerLaw_record : MethodName := ⟨R_LogCleanerLaw, "record", "(LLogCleaner;JIZJI[J)I"⟩
abbrev b_LogCleanerLaw_close : ByteArray := method_4_code
def y_LogCleanerLaw_close : MethodName := ⟨R_LogCleanerLaw, "close", "(LLogCleaner;I[J)I"⟩
abbrev b_LogCleanerLaw_clean : ByteArray := method_5_code
def y_LogCleanerLaw_clean : MethodName := ⟨R_LogCleanerLaw, "clean", "(LLogCleaner;I[J)I"⟩
abbrev b_LogCleanerLaw_drop : ByteArray := method_6_code
def y_LogCleanerLaw_drop : MethodName := ⟨R_LogCleanerLaw, "drop", "(LLogCleaner;I[J)I"⟩
abbrev b_LogCleanerLaw_count : ByteArray := method_7_code
def y_LogCleanerLaw_count : MethodName := ⟨R_LogCleanerLaw, "count", "(LLogCleaner;I[J)I"⟩
abbrev b_LogCleanerLaw_batch : ByteArray := method_8_code
def y_LogCleanerLaw_batch : MethodName := ⟨R_LogCleanerLaw, "batch", "(LLogCleaner;II[J)I"⟩
abbrev b_LogCleanerLaw_told : ByteArray := method_9_code
def y_LogCleanerLaw_told : MethodName := ⟨R_LogCleanerLaw, "told", "(LLogCleaner;II[J)I"⟩
abbrev b_LogCleanerLaw_latest : ByteArray := method_10_code
def y_LogCleanerLaw_latest : MethodName := ⟨R_LogCleanerLaw, "latest", "(LLogCleaner;JI[J)I"⟩
abbrev b_LogCleanerLaw_law : ByteArray := code
def y_LogCleanerLaw_law : MethodName := ⟨R_LogCleanerLaw, "law", "([I)Z"⟩
def xtys : List FieldType := [.object "LogCleaner$Entry", .object "LogCleaner$Batch", .int, .long, .boolean]
def sgXb : va_E → Bool
  | .inr (c, _) => Nat.blt c 4
  | .inl (_, _, .inr (.inr (.inr (.inr _)))) => true
  | _ => false
def sgX (o : va_E) : Prop := sgXb o = true
def sgMb : va_E → Bool
  | .inr (c, _) => Nat.beq c 4
  | .inl (_, _, .inr (.inr (.inr (.inr _)))) => false
  | _ => true
def sgM (o : va_E) : Prop := sgMb o = true
def sgT (_ : va_E) : Prop := true = true
def NB : List Cond := [.methodLinkNest "LogCleaner" 27 y_Packing_init "LogCleaner", .declares ⟨"java/lang/RuntimeException", "<init>", "(Ljava/lang/String;)V"⟩, .declares ⟨"java/lang/Exception", "<init>", "(Ljava/lang/String;)V"⟩, .declares ⟨"java/lang/Throwable", "<init>", "(Ljava/lang/String;)V"⟩, .castable "java/lang/IllegalArgumentException" "java/lang/IllegalArgumentException", .castable "java/lang/IllegalStateException" "java/lang/IllegalStateException"]
theorem nb_0 : Cond.methodLinkNest R_LogCleaner 27 y_Packing_init "LogCleaner" ∈ NB := List.mem_of_getElem? (i := 0) rfl
theorem NB_tabs : ∀ w ∈ NB, w.onTables = true := by decide +kernel
theorem NB_warm {s U : State} (hW : s.WarmedH U.vm) : ∀ w ∈ NB, va_Nw w s → va_Nw w U := by
  intro w hw h
  simp only [NB, List.mem_cons, List.not_mem_nil, or_false] at hw
  rcases hw with rfl | rfl | rfl | rfl | rfl | rfl
  · exact va_Nw.warmM hW h
  · exact va_Nw.warmD hW h
  · exact va_Nw.warmD hW h
  · exact va_Nw.warmD hW h
  · exact va_Nw.warmC hW h
  · exact va_Nw.warmC hW h
theorem g_ac_boolean : Cond.arrayClass .boolean ∈ TB := tb_t 440 (by decide +kernel) (by decide +kernel)
theorem g_ac_int : Cond.arrayClass .int ∈ TB := tb_t 438 (by decide +kernel) (by decide +kernel)
theorem g_ac_long : Cond.arrayClass .long ∈ TB := tb_t 439 (by decide +kernel) (by decide +kernel)
theorem g_code_Batch_append : Cond.code y_Batch_append b_Batch_append 2 none ∈ TB := tb_t 256 (by decide +kernel) (by decide +kernel)
theorem g_code_Batch_init : Cond.code y_Batch_init b_Batch_init 4 none ∈ TB := tb_t 206 (by decide +kernel) (by decide +kernel)
theorem g_code_Batch_latestWithKey : Cond.code y_Batch_latestWithKey b_Batch_latestWithKey 6 (some (.object "LogCleaner$Entry")) ∈ TB := tb_t 252 (by decide +kernel) (by decide +kernel)
theorem g_code_Batch_removeGone : Cond.code y_Batch_removeGone b_Batch_removeGone 6 (some .int) ∈ TB := tb_t 288 (by decide +kernel) (by decide +kernel)
theorem g_code_Batch_sizeInBytes : Cond.code y_Batch_sizeInBytes b_Batch_sizeInBytes 3 (some .int) ∈ TB := tb_t 260 (by decide +kernel) (by decide +kernel)
theorem g_code_Entry_goes : Cond.code y_Entry_goes b_Entry_goes 2 (some .boolean) ∈ TB := tb_t 292 (by decide +kernel) (by decide +kernel)
theorem g_code_Entry_hasKey : Cond.code y_Entry_hasKey b_Entry_hasKey 1 (some .boolean) ∈ TB := tb_t 244 (by decide +kernel) (by decide +kernel)
theorem g_code_Entry_init : Cond.code y_Entry_init b_Entry_init 8 none ∈ TB := tb_t 160 (by decide +kernel) (by decide +kernel)
theorem g_code_Entry_sizeInBytes : Cond.code y_Entry_sizeInBytes b_Entry_sizeInBytes 1 (some .int) ∈ TB := tb_t 264 (by decide +kernel) (by decide +kernel)
theorem g_code_LogCleanerModel_countOf : Cond.code y_LogCleanerModel_countOf b_LogCleanerModel_countOf 4 (some .int) ∈ TB := tb_t 500 (by decide +kernel) (by decide +kernel)
theorem g_code_LogCleanerModel_isClosed : Cond.code y_LogCleanerModel_isClosed b_LogCleanerModel_isClosed 2 (some .boolean) ∈ TB := tb_t 472 (by decide +kernel) (by decide +kernel)
theorem g_code_LogCleanerModel_isKnown : Cond.code y_LogCleanerModel_isKnown b_LogCleanerModel_isKnown 4 (some .boolean) ∈ TB := tb_t 476 (by decide +kernel) (by decide +kernel)
theorem g_code_LogCleanerModel_isOver : Cond.code y_LogCleanerModel_isOver b_LogCleanerModel_isOver 5 (some .boolean) ∈ TB := tb_t 468 (by decide +kernel) (by decide +kernel)
theorem g_code_LogCleanerModel_lowest : Cond.code y_LogCleanerModel_lowest b_LogCleanerModel_lowest 6 (some .long) ∈ TB := tb_t 451 (by decide +kernel) (by decide +kernel)
theorem g_code_LogCleanerModel_segments : Cond.code y_LogCleanerModel_segments b_LogCleanerModel_segments 1 (some .int) ∈ TB := tb_t 488 (by decide +kernel) (by decide +kernel)
theorem g_code_LogCleanerModel_sizeOf : Cond.code y_LogCleanerModel_sizeOf b_LogCleanerModel_sizeOf 4 (some .int) ∈ TB := tb_t 460 (by decide +kernel) (by decide +kernel)
theorem g_code_LogCleanerModel_takeOut : Cond.code y_LogCleanerModel_takeOut b_LogCleanerModel_takeOut 4 (some .int) ∈ TB := tb_t 480 (by decide +kernel) (by decide +kernel)
theorem g_code_LogCleaner_entryAt : Cond.code y_LogCleaner_entryAt b_LogCleaner_entryAt 5 (some (.object "LogCleaner$Entry")) ∈ TB := tb_t 352 (by decide +kernel) (by decide +kernel)
theorem g_code_LogCleaner_isClosed : Cond.code y_LogCleaner_isClosed b_LogCleaner_isClosed 2 (some .boolean) ∈ TB := tb_t 284 (by decide +kernel) (by decide +kernel)
theorem g_code_LogCleaner_isKnown : Cond.code y_LogCleaner_isKnown b_LogCleaner_isKnown 5 (some .boolean) ∈ TB := tb_t 300 (by decide +kernel) (by decide +kernel)
theorem g_code_LogCleaner_keepFirstBatches : Cond.code y_LogCleaner_keepFirstBatches b_LogCleaner_keepFirstBatches 3 none ∈ TB := tb_t 304 (by decide +kernel) (by decide +kernel)
theorem g_code_LogCleaner_latestWithKey : Cond.code y_LogCleaner_latestWithKey b_LogCleaner_latestWithKey 6 (some (.object "LogCleaner$Entry")) ∈ TB := tb_t 248 (by decide +kernel) (by decide +kernel)
theorem g_code_LogCleaner_lowestBytes : Cond.code y_LogCleaner_lowestBytes b_LogCleaner_lowestBytes 3 (some .long) ∈ TB := tb_t 156 (by decide +kernel) (by decide +kernel)
theorem g_code_LogCleaner_markSuperseded : Cond.code y_LogCleaner_markSuperseded b_LogCleaner_markSuperseded 3 none ∈ TB := tb_t 240 (by decide +kernel) (by decide +kernel)
theorem g_code_LogCleaner_moveDraftInto : Cond.code y_LogCleaner_moveDraftInto b_LogCleaner_moveDraftInto 4 none ∈ TB := tb_t 236 (by decide +kernel) (by decide +kernel)
theorem g_code_LogCleaner_packClosedSegments : Cond.code y_LogCleaner_packClosedSegments b_LogCleaner_packClosedSegments 4 none ∈ TB := tb_t 308 (by decide +kernel) (by decide +kernel)
theorem g_code_LogCleaner_removeEmptiedBatches : Cond.code y_LogCleaner_removeEmptiedBatches b_LogCleaner_removeEmptiedBatches 6 (some .int) ∈ TB := tb_t 296 (by decide +kernel) (by decide +kernel)
theorem g_code_LogCleaner_removeFirstSegments : Cond.code y_LogCleaner_removeFirstSegments b_LogCleaner_removeFirstSegments 6 (some .int) ∈ TB := tb_t 324 (by decide +kernel) (by decide +kernel)
theorem g_code_LogCleaner_removeGoneRecords : Cond.code y_LogCleaner_removeGoneRecords b_LogCleaner_removeGoneRecords 4 (some .int) ∈ TB := tb_t 280 (by decide +kernel) (by decide +kernel)
theorem g_code_Packing_init : Cond.code y_Packing_init b_Packing_init 1 none ∈ TB := tb_t 26 (by decide +kernel) (by decide +kernel)
theorem g_code_Packing_place : Cond.code y_Packing_place b_Packing_place 2 (some .int) ∈ TB := tb_t 269 (by decide +kernel) (by decide +kernel)
theorem g_code_mmax : Cond.code Lib.Math.max.name Lib.Math.max.code 2 (some .int) ∈ TB := tb_t 210 (by decide +kernel) (by decide +kernel)
theorem g_code_mmin : Cond.code Lib.Math.min.name Lib.Math.min.code 2 (some .int) ∈ TB := tb_t 320 (by decide +kernel) (by decide +kernel)
theorem g_code_obj : Cond.code objectInit ⟨#[0xb1]⟩ 1 none ∈ TB := tb_t 19 (by decide +kernel) (by decide +kernel)
theorem g_im_Batch_append : Cond.instanceMethod y_Batch_append ∈ TB := tb_t 254 (by decide +kernel) (by decide +kernel)
theorem g_im_Batch_init : Cond.instanceMethod y_Batch_init ∈ TB := tb_t 205 (by decide +kernel) (by decide +kernel)
theorem g_im_Batch_latestWithKey : Cond.instanceMethod y_Batch_latestWithKey ∈ TB := tb_t 250 (by decide +kernel) (by decide +kernel)
theorem g_im_Batch_removeGone : Cond.instanceMethod y_Batch_removeGone ∈ TB := tb_t 286 (by decide +kernel) (by decide +kernel)
theorem g_im_Batch_sizeInBytes : Cond.instanceMethod y_Batch_sizeInBytes ∈ TB := tb_t 258 (by decide +kernel) (by decide +kernel)
theorem g_im_Entry_goes : Cond.instanceMethod y_Entry_goes ∈ TB := tb_t 290 (by decide +kernel) (by decide +kernel)
theorem g_im_Entry_hasKey : Cond.instanceMethod y_Entry_hasKey ∈ TB := tb_t 242 (by decide +kernel) (by decide +kernel)
theorem g_im_Entry_init : Cond.instanceMethod y_Entry_init ∈ TB := tb_t 159 (by decide +kernel) (by decide +kernel)
theorem g_im_Entry_sizeInBytes : Cond.instanceMethod y_Entry_sizeInBytes ∈ TB := tb_t 262 (by decide +kernel) (by decide +kernel)
theorem g_im_LogCleanerModel_countOf : Cond.instanceMethod y_LogCleanerModel_countOf ∈ TB := tb_t 499 (by decide +kernel) (by decide +kernel)
theorem g_im_LogCleanerModel_isClosed : Cond.instanceMethod y_LogCleanerModel_isClosed ∈ TB := tb_t 471 (by decide +kernel) (by decide +kernel)
theorem g_im_LogCleanerModel_isKnown : Cond.instanceMethod y_LogCleanerModel_isKnown ∈ TB := tb_t 475 (by decide +kernel) (by decide +kernel)
theorem g_im_LogCleanerModel_isOver : Cond.instanceMethod y_LogCleanerModel_isOver ∈ TB := tb_t 467 (by decide +kernel) (by decide +kernel)
theorem g_im_LogCleanerModel_segments : Cond.instanceMethod y_LogCleanerModel_segments ∈ TB := tb_t 487 (by decide +kernel) (by decide +kernel)
theorem g_im_LogCleanerModel_sizeOf : Cond.instanceMethod y_LogCleanerModel_sizeOf ∈ TB := tb_t 459 (by decide +kernel) (by decide +kernel)
theorem g_im_LogCleanerModel_takeOut : Cond.instanceMethod y_LogCleanerModel_takeOut ∈ TB := tb_t 479 (by decide +kernel) (by decide +kernel)
theorem g_im_LogCleaner_entryAt : Cond.instanceMethod y_LogCleaner_entryAt ∈ TB := tb_t 351 (by decide +kernel) (by decide +kernel)
theorem g_im_LogCleaner_isClosed : Cond.instanceMethod y_LogCleaner_isClosed ∈ TB := tb_t 283 (by decide +kernel) (by decide +kernel)
theorem g_im_LogCleaner_isKnown : Cond.instanceMethod y_LogCleaner_isKnown ∈ TB := tb_t 299 (by decide +kernel) (by decide +kernel)
theorem g_im_LogCleaner_keepFirstBatches : Cond.instanceMethod y_LogCleaner_keepFirstBatches ∈ TB := tb_t 303 (by decide +kernel) (by decide +kernel)
theorem g_im_LogCleaner_latestWithKey : Cond.instanceMethod y_LogCleaner_latestWithKey ∈ TB := tb_t 247 (by decide +kernel) (by decide +kernel)
theorem g_im_LogCleaner_markSuperseded : Cond.instanceMethod y_LogCleaner_markSuperseded ∈ TB := tb_t 239 (by decide +kernel) (by decide +kernel)
theorem g_im_LogCleaner_moveDraftInto : Cond.instanceMethod y_LogCleaner_moveDraftInto ∈ TB := tb_t 235 (by decide +kernel) (by decide +kernel)
theorem g_im_LogCleaner_packClosedSegments : Cond.instanceMethod y_LogCleaner_packClosedSegments ∈ TB := tb_t 307 (by decide +kernel) (by decide +kernel)
theorem g_im_LogCleaner_removeEmptiedBatches : Cond.instanceMethod y_LogCleaner_removeEmptiedBatches ∈ TB := tb_t 295 (by decide +kernel) (by decide +kernel)
theorem g_im_LogCleaner_removeFirstSegments : Cond.instanceMethod y_LogCleaner_removeFirstSegments ∈ TB := tb_t 323 (by decide +kernel) (by decide +kernel)
theorem g_im_LogCleaner_removeGoneRecords : Cond.instanceMethod y_LogCleaner_removeGoneRecords ∈ TB := tb_t 279 (by decide +kernel) (by decide +kernel)
theorem g_im_Packing_init : Cond.instanceMethod y_Packing_init ∈ TB := tb_t 25 (by decide +kernel) (by decide +kernel)
theorem g_im_Packing_place : Cond.instanceMethod y_Packing_place ∈ TB := tb_t 267 (by decide +kernel) (by decide +kernel)
theorem g_im_obj : Cond.instanceMethod objectInit ∈ TB := tb_t 18 (by decide +kernel) (by decide +kernel)
theorem g_ini_Batch : Cond.initialized "LogCleaner$Batch" ∈ TB := tb_t 10 (by decide +kernel) (by decide +kernel)
theorem g_ini_Entry : Cond.initialized "LogCleaner$Entry" ∈ TB := tb_t 9 (by decide +kernel) (by decide +kernel)
theorem g_ini_LogCleaner : Cond.initialized "LogCleaner" ∈ TB := tb_t 1 (by decide +kernel) (by decide +kernel)
theorem g_ini_LogCleanerModel : Cond.initialized "LogCleanerModel" ∈ TB := tb_t 3 (by decide +kernel) (by decide +kernel)
theorem g_ini_Packing : Cond.initialized "LogCleaner$Packing" ∈ TB := tb_t 2 (by decide +kernel) (by decide +kernel)
theorem g_ini_java_lang_IllegalArgumentException : Cond.initialized "java/lang/IllegalArgumentException" ∈ TB := tb_t 7 (by decide +kernel) (by decide +kernel)
theorem g_ini_java_lang_IllegalStateException : Cond.initialized "java/lang/IllegalStateException" ∈ TB := tb_t 8 (by decide +kernel) (by decide +kernel)
theorem g_ini_java_lang_Math : Cond.initialized "java/lang/Math" ∈ TB := tb_t 11 (by decide +kernel) (by decide +kernel)
theorem g_inst_Batch : Cond.instantiable "LogCleaner$Batch" 5 ∈ TB := tb_t 203 (by decide +kernel) (by decide +kernel)
theorem g_inst_Entry : Cond.instantiable "LogCleaner$Entry" 7 ∈ TB := tb_t 157 (by decide +kernel) (by decide +kernel)
theorem g_inst_Packing : Cond.instantiable "LogCleaner$Packing" 2 ∈ TB := tb_t 23 (by decide +kernel) (by decide +kernel)
theorem g_sel_Batch_append : Cond.selects "LogCleaner$Batch" y_Batch_append y_Batch_append ∈ TB := tb_t 255 (by decide +kernel) (by decide +kernel)
theorem g_sel_Batch_latestWithKey : Cond.selects "LogCleaner$Batch" y_Batch_latestWithKey y_Batch_latestWithKey ∈ TB := tb_t 251 (by decide +kernel) (by decide +kernel)
theorem g_sel_Batch_removeGone : Cond.selects "LogCleaner$Batch" y_Batch_removeGone y_Batch_removeGone ∈ TB := tb_t 287 (by decide +kernel) (by decide +kernel)
theorem g_sel_Batch_sizeInBytes : Cond.selects "LogCleaner$Batch" y_Batch_sizeInBytes y_Batch_sizeInBytes ∈ TB := tb_t 259 (by decide +kernel) (by decide +kernel)
theorem g_sel_Entry_goes : Cond.selects "LogCleaner$Entry" y_Entry_goes y_Entry_goes ∈ TB := tb_t 291 (by decide +kernel) (by decide +kernel)
theorem g_sel_Entry_hasKey : Cond.selects "LogCleaner$Entry" y_Entry_hasKey y_Entry_hasKey ∈ TB := tb_t 243 (by decide +kernel) (by decide +kernel)
theorem g_sel_Entry_sizeInBytes : Cond.selects "LogCleaner$Entry" y_Entry_sizeInBytes y_Entry_sizeInBytes ∈ TB := tb_t 263 (by decide +kernel) (by decide +kernel)
theorem g_sel_LogCleanerModel_countOf : Cond.selects "LogCleanerModel" y_LogCleanerModel_countOf y_LogCleanerModel_countOf ∈ TB := tb_s 18 (by decide +kernel) (by decide +kernel)
theorem g_sel_LogCleanerModel_isClosed : Cond.selects "LogCleanerModel" y_LogCleanerModel_isClosed y_LogCleanerModel_isClosed ∈ TB := tb_s 14 (by decide +kernel) (by decide +kernel)
theorem g_sel_LogCleanerModel_isKnown : Cond.selects "LogCleanerModel" y_LogCleanerModel_isKnown y_LogCleanerModel_isKnown ∈ TB := tb_s 15 (by decide +kernel) (by decide +kernel)
theorem g_sel_LogCleanerModel_isOver : Cond.selects "LogCleanerModel" y_LogCleanerModel_isOver y_LogCleanerModel_isOver ∈ TB := tb_s 13 (by decide +kernel) (by decide +kernel)
theorem g_sel_LogCleanerModel_segments : Cond.selects "LogCleanerModel" y_LogCleanerModel_segments y_LogCleanerModel_segments ∈ TB := tb_s 17 (by decide +kernel) (by decide +kernel)
theorem g_sel_LogCleanerModel_sizeOf : Cond.selects "LogCleanerModel" y_LogCleanerModel_sizeOf y_LogCleanerModel_sizeOf ∈ TB := tb_s 12 (by decide +kernel) (by decide +kernel)
theorem g_sel_LogCleanerModel_takeOut : Cond.selects "LogCleanerModel" y_LogCleanerModel_takeOut y_LogCleanerModel_takeOut ∈ TB := tb_s 16 (by decide +kernel) (by decide +kernel)
theorem g_sel_LogCleaner_entryAt : Cond.selects "LogCleaner" y_LogCleaner_entryAt y_LogCleaner_entryAt ∈ TB := tb_s 11 (by decide +kernel) (by decide +kernel)
theorem g_sel_LogCleaner_isClosed : Cond.selects "LogCleaner" y_LogCleaner_isClosed y_LogCleaner_isClosed ∈ TB := tb_s 5 (by decide +kernel) (by decide +kernel)
theorem g_sel_LogCleaner_isKnown : Cond.selects "LogCleaner" y_LogCleaner_isKnown y_LogCleaner_isKnown ∈ TB := tb_s 7 (by decide +kernel) (by decide +kernel)
theorem g_sel_LogCleaner_keepFirstBatches : Cond.selects "LogCleaner" y_LogCleaner_keepFirstBatches y_LogCleaner_keepFirstBatches ∈ TB := tb_s 8 (by decide +kernel) (by decide +kernel)
theorem g_sel_LogCleaner_latestWithKey : Cond.selects "LogCleaner" y_LogCleaner_latestWithKey y_LogCleaner_latestWithKey ∈ TB := tb_s 3 (by decide +kernel) (by decide +kernel)
theorem g_sel_LogCleaner_markSuperseded : Cond.selects "LogCleaner" y_LogCleaner_markSuperseded y_LogCleaner_markSuperseded ∈ TB := tb_s 2 (by decide +kernel) (by decide +kernel)
theorem g_sel_LogCleaner_moveDraftInto : Cond.selects "LogCleaner" y_LogCleaner_moveDraftInto y_LogCleaner_moveDraftInto ∈ TB := tb_s 1 (by decide +kernel) (by decide +kernel)
theorem g_sel_LogCleaner_packClosedSegments : Cond.selects "LogCleaner" y_LogCleaner_packClosedSegments y_LogCleaner_packClosedSegments ∈ TB := tb_s 9 (by decide +kernel) (by decide +kernel)
theorem g_sel_LogCleaner_removeEmptiedBatches : Cond.selects "LogCleaner" y_LogCleaner_removeEmptiedBatches y_LogCleaner_removeEmptiedBatches ∈ TB := tb_s 6 (by decide +kernel) (by decide +kernel)
theorem g_sel_LogCleaner_removeFirstSegments : Cond.selects "LogCleaner" y_LogCleaner_removeFirstSegments y_LogCleaner_removeFirstSegments ∈ TB := tb_s 10 (by decide +kernel) (by decide +kernel)
theorem g_sel_LogCleaner_removeGoneRecords : Cond.selects "LogCleaner" y_LogCleaner_removeGoneRecords y_LogCleaner_removeGoneRecords ∈ TB := tb_s 4 (by decide +kernel) (by decide +kernel)
theorem g_sel_Packing_place : Cond.selects "LogCleaner$Packing" y_Packing_place y_Packing_place ∈ TB := tb_t 268 (by decide +kernel) (by decide +kernel)
theorem g_st_Lib_Math_max_name : Cond.static Lib.Math.max.name ∈ TB := tb_t 209 (by decide +kernel) (by decide +kernel)
theorem g_st_Lib_Math_min_name : Cond.static Lib.Math.min.name ∈ TB := tb_t 319 (by decide +kernel) (by decide +kernel)
theorem g_st_LogCleanerModel_lowest : Cond.static y_LogCleanerModel_lowest ∈ TB := tb_t 450 (by decide +kernel) (by decide +kernel)
theorem g_st_LogCleaner_lowestBytes : Cond.static y_LogCleaner_lowestBytes ∈ TB := tb_t 155 (by decide +kernel) (by decide +kernel)
theorem k_Batch_15 : Cond.fieldLink "LogCleaner$Batch" 15 "LogCleaner$Batch" "segment" "I" ∈ TB := tb_t 220 (by decide +kernel) (by decide +kernel)
theorem k_Batch_18 : Cond.fieldLink "LogCleaner$Batch" 18 "LogCleaner$Batch" "base" "I" ∈ TB := tb_t 212 (by decide +kernel) (by decide +kernel)
theorem k_Batch_21 : Cond.fieldLink "LogCleaner$Batch" 21 "LogCleaner$Batch" "producer" "I" ∈ TB := tb_t 214 (by decide +kernel) (by decide +kernel)
theorem k_Batch_24 : Cond.methodLink "LogCleaner$Batch" 24 Lib.Math.max.name ∈ TB := tb_t 208 (by decide +kernel) (by decide +kernel)
theorem k_Batch_3 : Cond.methodLink "LogCleaner$Batch" 3 objectInit ∈ TB := tb_t 207 (by decide +kernel) (by decide +kernel)
theorem k_Batch_30c : Cond.classLink "LogCleaner$Batch" 30 "LogCleaner$Entry" ∈ TB := tb_t 211 (by decide +kernel) (by decide +kernel)
theorem k_Batch_32 : Cond.fieldLink "LogCleaner$Batch" 32 "LogCleaner$Batch" "entries" "[LLogCleaner$Entry;" ∈ TB := tb_t 216 (by decide +kernel) (by decide +kernel)
theorem k_Batch_36 : Cond.methodLink "LogCleaner$Batch" 36 y_Entry_sizeInBytes ∈ TB := tb_t 261 (by decide +kernel) (by decide +kernel)
theorem k_Batch_40 : Cond.fieldLink "LogCleaner$Batch" 40 "LogCleaner$Entry" "key" "J" ∈ TB := tb_t 163 (by decide +kernel) (by decide +kernel)
theorem k_Batch_44 : Cond.fieldLink "LogCleaner$Batch" 44 "LogCleaner$Entry" "keyBytes" "I" ∈ TB := tb_t 166 (by decide +kernel) (by decide +kernel)
theorem k_Batch_47 : Cond.methodLink "LogCleaner$Batch" 47 y_Entry_goes ∈ TB := tb_t 289 (by decide +kernel) (by decide +kernel)
theorem k_Batch_9 : Cond.fieldLink "LogCleaner$Batch" 9 "LogCleaner$Batch" "recordCount" "I" ∈ TB := tb_t 218 (by decide +kernel) (by decide +kernel)
theorem k_Entry_15 : Cond.fieldLink "LogCleaner$Entry" 15 "LogCleaner$Entry" "superseded" "Z" ∈ TB := tb_t 176 (by decide +kernel) (by decide +kernel)
theorem k_Entry_19 : Cond.fieldLink "LogCleaner$Entry" 19 "LogCleaner$Entry" "key" "J" ∈ TB := tb_t 162 (by decide +kernel) (by decide +kernel)
theorem k_Entry_23 : Cond.fieldLink "LogCleaner$Entry" 23 "LogCleaner$Entry" "keyBytes" "I" ∈ TB := tb_t 165 (by decide +kernel) (by decide +kernel)
theorem k_Entry_26 : Cond.fieldLink "LogCleaner$Entry" 26 "LogCleaner$Entry" "hasValue" "Z" ∈ TB := tb_t 168 (by decide +kernel) (by decide +kernel)
theorem k_Entry_29 : Cond.fieldLink "LogCleaner$Entry" 29 "LogCleaner$Entry" "value" "J" ∈ TB := tb_t 170 (by decide +kernel) (by decide +kernel)
theorem k_Entry_3 : Cond.methodLink "LogCleaner$Entry" 3 objectInit ∈ TB := tb_t 161 (by decide +kernel) (by decide +kernel)
theorem k_Entry_32 : Cond.fieldLink "LogCleaner$Entry" 32 "LogCleaner$Entry" "time" "I" ∈ TB := tb_t 172 (by decide +kernel) (by decide +kernel)
theorem k_Entry_35 : Cond.methodLink "LogCleaner$Entry" 35 y_Entry_hasKey ∈ TB := tb_t 265 (by decide +kernel) (by decide +kernel)
theorem k_Entry_9 : Cond.fieldLink "LogCleaner$Entry" 9 "LogCleaner$Entry" "offset" "I" ∈ TB := tb_t 174 (by decide +kernel) (by decide +kernel)
theorem k_LogCleanerModel_1 : Cond.methodLink "LogCleanerModel" 1 objectInit ∈ TB := tb_t 367 (by decide +kernel) (by decide +kernel)
theorem k_LogCleanerModel_100 : Cond.methodLink "LogCleanerModel" 100 y_LogCleanerModel_isKnown ∈ TB := tb_t 473 (by decide +kernel) (by decide +kernel)
theorem k_LogCleanerModel_103 : Cond.methodLink "LogCleanerModel" 103 y_LogCleanerModel_takeOut ∈ TB := tb_t 477 (by decide +kernel) (by decide +kernel)
theorem k_LogCleanerModel_107 : Cond.methodLink "LogCleanerModel" 107 y_LogCleanerModel_segments ∈ TB := tb_t 485 (by decide +kernel) (by decide +kernel)
theorem k_LogCleanerModel_110 : Cond.methodLink "LogCleanerModel" 110 y_LogCleanerModel_countOf ∈ TB := tb_t 497 (by decide +kernel) (by decide +kernel)
theorem k_LogCleanerModel_13 : Cond.fieldLink "LogCleanerModel" 13 "LogCleanerModel" "offset" "[I" ∈ TB := tb_t 371 (by decide +kernel) (by decide +kernel)
theorem k_LogCleanerModel_16 : Cond.fieldLink "LogCleanerModel" 16 "LogCleanerModel" "key" "[J" ∈ TB := tb_t 372 (by decide +kernel) (by decide +kernel)
theorem k_LogCleanerModel_20 : Cond.fieldLink "LogCleanerModel" 20 "LogCleanerModel" "keyBytes" "[I" ∈ TB := tb_t 373 (by decide +kernel) (by decide +kernel)
theorem k_LogCleanerModel_23 : Cond.fieldLink "LogCleanerModel" 23 "LogCleanerModel" "has" "[Z" ∈ TB := tb_t 374 (by decide +kernel) (by decide +kernel)
theorem k_LogCleanerModel_27 : Cond.fieldLink "LogCleanerModel" 27 "LogCleanerModel" "value" "[J" ∈ TB := tb_t 375 (by decide +kernel) (by decide +kernel)
theorem k_LogCleanerModel_30 : Cond.fieldLink "LogCleanerModel" 30 "LogCleanerModel" "time" "[I" ∈ TB := tb_t 376 (by decide +kernel) (by decide +kernel)
theorem k_LogCleanerModel_33 : Cond.fieldLink "LogCleanerModel" 33 "LogCleanerModel" "draftKey" "[J" ∈ TB := tb_t 379 (by decide +kernel) (by decide +kernel)
theorem k_LogCleanerModel_36 : Cond.fieldLink "LogCleanerModel" 36 "LogCleanerModel" "draftBytes" "[I" ∈ TB := tb_t 380 (by decide +kernel) (by decide +kernel)
theorem k_LogCleanerModel_39 : Cond.fieldLink "LogCleanerModel" 39 "LogCleanerModel" "draftHas" "[Z" ∈ TB := tb_t 381 (by decide +kernel) (by decide +kernel)
theorem k_LogCleanerModel_42 : Cond.fieldLink "LogCleanerModel" 42 "LogCleanerModel" "draftValue" "[J" ∈ TB := tb_t 382 (by decide +kernel) (by decide +kernel)
theorem k_LogCleanerModel_45 : Cond.fieldLink "LogCleanerModel" 45 "LogCleanerModel" "draftTime" "[I" ∈ TB := tb_t 383 (by decide +kernel) (by decide +kernel)
theorem k_LogCleanerModel_48 : Cond.fieldLink "LogCleanerModel" 48 "LogCleanerModel" "base" "[I" ∈ TB := tb_t 385 (by decide +kernel) (by decide +kernel)
theorem k_LogCleanerModel_51 : Cond.fieldLink "LogCleanerModel" 51 "LogCleanerModel" "producer" "[I" ∈ TB := tb_t 386 (by decide +kernel) (by decide +kernel)
theorem k_LogCleanerModel_54 : Cond.fieldLink "LogCleanerModel" 54 "LogCleanerModel" "segment" "[I" ∈ TB := tb_t 387 (by decide +kernel) (by decide +kernel)
theorem k_LogCleanerModel_57 : Cond.fieldLink "LogCleanerModel" 57 "LogCleanerModel" "goes" "[Z" ∈ TB := tb_t 388 (by decide +kernel) (by decide +kernel)
theorem k_LogCleanerModel_60 : Cond.fieldLink "LogCleanerModel" 60 "LogCleanerModel" "stays" "[Z" ∈ TB := tb_t 389 (by decide +kernel) (by decide +kernel)
theorem k_LogCleanerModel_63 : Cond.fieldLink "LogCleanerModel" 63 "LogCleanerModel" "number" "[I" ∈ TB := tb_t 390 (by decide +kernel) (by decide +kernel)
theorem k_LogCleanerModel_66 : Cond.fieldLink "LogCleanerModel" 66 "LogCleanerModel" "code" "I" ∈ TB := tb_t 368 (by decide +kernel) (by decide +kernel)
theorem k_LogCleanerModel_7 : Cond.fieldLink "LogCleanerModel" 7 "LogCleanerModel" "of" "[I" ∈ TB := tb_t 370 (by decide +kernel) (by decide +kernel)
theorem k_LogCleanerModel_70 : Cond.constantLong "LogCleanerModel" 70 255 ∈ TB := tb_t 452 (by decide +kernel) (by decide +kernel)
theorem k_LogCleanerModel_72 : Cond.fieldLink "LogCleanerModel" 72 "LogCleanerModel" "drafted" "I" ∈ TB := tb_t 378 (by decide +kernel) (by decide +kernel)
theorem k_LogCleanerModel_75 : Cond.fieldLink "LogCleanerModel" 75 "LogCleanerModel" "records" "I" ∈ TB := tb_t 369 (by decide +kernel) (by decide +kernel)
theorem k_LogCleanerModel_78 : Cond.methodLink "LogCleanerModel" 78 y_LogCleanerModel_lowest ∈ TB := tb_t 449 (by decide +kernel) (by decide +kernel)
theorem k_LogCleanerModel_82 : Cond.fieldLink "LogCleanerModel" 82 "LogCleanerModel" "batches" "I" ∈ TB := tb_t 384 (by decide +kernel) (by decide +kernel)
theorem k_LogCleanerModel_85 : Cond.fieldLink "LogCleanerModel" 85 "LogCleanerModel" "next" "I" ∈ TB := tb_t 377 (by decide +kernel) (by decide +kernel)
theorem k_LogCleanerModel_88 : Cond.methodLink "LogCleanerModel" 88 y_LogCleanerModel_sizeOf ∈ TB := tb_t 457 (by decide +kernel) (by decide +kernel)
theorem k_LogCleanerModel_92 : Cond.methodLink "LogCleanerModel" 92 y_LogCleanerModel_isClosed ∈ TB := tb_t 469 (by decide +kernel) (by decide +kernel)
theorem k_LogCleanerModel_96 : Cond.methodLink "LogCleanerModel" 96 y_LogCleanerModel_isOver ∈ TB := tb_t 465 (by decide +kernel) (by decide +kernel)
theorem k_LogCleaner_1 : Cond.methodLink "LogCleaner" 1 objectInit ∈ TB := tb_t 17 (by decide +kernel) (by decide +kernel)
theorem k_LogCleaner_102 : Cond.fieldLink "LogCleaner" 102 "LogCleaner$Packing" "lastSegment" "I" ∈ TB := tb_t 29 (by decide +kernel) (by decide +kernel)
theorem k_LogCleaner_105 : Cond.methodLink "LogCleaner" 105 Lib.Math.max.name ∈ TB := tb_t 317 (by decide +kernel) (by decide +kernel)
theorem k_LogCleaner_11 : Cond.fieldLink "LogCleaner" 11 "LogCleaner" "batches" "[LLogCleaner$Batch;" ∈ TB := tb_t 38 (by decide +kernel) (by decide +kernel)
theorem k_LogCleaner_111 : Cond.methodLink "LogCleaner" 111 Lib.Math.min.name ∈ TB := tb_t 318 (by decide +kernel) (by decide +kernel)
theorem k_LogCleaner_114 : Cond.methodLink "LogCleaner" 114 y_LogCleaner_removeFirstSegments ∈ TB := tb_t 321 (by decide +kernel) (by decide +kernel)
theorem k_LogCleaner_121 : Cond.fieldLink "LogCleaner" 121 "LogCleaner$Batch" "recordCount" "I" ∈ TB := tb_t 219 (by decide +kernel) (by decide +kernel)
theorem k_LogCleaner_122 : Cond.fieldLink "LogCleaner" 122 "LogCleaner$Batch" "producer" "I" ∈ TB := tb_t 215 (by decide +kernel) (by decide +kernel)
theorem k_LogCleaner_125 : Cond.methodLink "LogCleaner" 125 y_LogCleaner_isKnown ∈ TB := tb_t 297 (by decide +kernel) (by decide +kernel)
theorem k_LogCleaner_131 : Cond.methodLink "LogCleaner" 131 y_LogCleaner_entryAt ∈ TB := tb_t 349 (by decide +kernel) (by decide +kernel)
theorem k_LogCleaner_137 : Cond.fieldLink "LogCleaner" 137 "LogCleaner$Entry" "offset" "I" ∈ TB := tb_t 175 (by decide +kernel) (by decide +kernel)
theorem k_LogCleaner_140 : Cond.fieldLink "LogCleaner" 140 "LogCleaner$Entry" "keyBytes" "I" ∈ TB := tb_t 167 (by decide +kernel) (by decide +kernel)
theorem k_LogCleaner_143 : Cond.fieldLink "LogCleaner" 143 "LogCleaner$Entry" "key" "J" ∈ TB := tb_t 164 (by decide +kernel) (by decide +kernel)
theorem k_LogCleaner_147 : Cond.fieldLink "LogCleaner" 147 "LogCleaner$Entry" "value" "J" ∈ TB := tb_t 171 (by decide +kernel) (by decide +kernel)
theorem k_LogCleaner_15 : Cond.fieldLink "LogCleaner" 15 "LogCleaner" "batchCount" "I" ∈ TB := tb_t 39 (by decide +kernel) (by decide +kernel)
theorem k_LogCleaner_150 : Cond.fieldLink "LogCleaner" 150 "LogCleaner$Entry" "hasValue" "Z" ∈ TB := tb_t 169 (by decide +kernel) (by decide +kernel)
theorem k_LogCleaner_154 : Cond.fieldLink "LogCleaner" 154 "LogCleaner$Entry" "time" "I" ∈ TB := tb_t 173 (by decide +kernel) (by decide +kernel)
theorem k_LogCleaner_159 : Cond.methodLink "LogCleaner" 159 y_LogCleaner_latestWithKey ∈ TB := tb_t 245 (by decide +kernel) (by decide +kernel)
theorem k_LogCleaner_163 : Cond.methodLink "LogCleaner" 163 y_LogCleaner_markSuperseded ∈ TB := tb_t 237 (by decide +kernel) (by decide +kernel)
theorem k_LogCleaner_167 : Cond.methodLink "LogCleaner" 167 y_Batch_append ∈ TB := tb_t 253 (by decide +kernel) (by decide +kernel)
theorem k_LogCleaner_170 : Cond.methodLink "LogCleaner" 170 y_Entry_hasKey ∈ TB := tb_t 241 (by decide +kernel) (by decide +kernel)
theorem k_LogCleaner_174 : Cond.fieldLink "LogCleaner" 174 "LogCleaner$Entry" "superseded" "Z" ∈ TB := tb_t 177 (by decide +kernel) (by decide +kernel)
theorem k_LogCleaner_177 : Cond.methodLink "LogCleaner" 177 y_Batch_latestWithKey ∈ TB := tb_t 249 (by decide +kernel) (by decide +kernel)
theorem k_LogCleaner_178 : Cond.fieldLink "LogCleaner" 178 "LogCleaner$Batch" "entries" "[LLogCleaner$Entry;" ∈ TB := tb_t 217 (by decide +kernel) (by decide +kernel)
theorem k_LogCleaner_181 : Cond.methodLink "LogCleaner" 181 y_LogCleaner_isClosed ∈ TB := tb_t 281 (by decide +kernel) (by decide +kernel)
theorem k_LogCleaner_185 : Cond.methodLink "LogCleaner" 185 y_Batch_removeGone ∈ TB := tb_t 285 (by decide +kernel) (by decide +kernel)
theorem k_LogCleaner_188 : Cond.methodLink "LogCleaner" 188 y_LogCleaner_keepFirstBatches ∈ TB := tb_t 301 (by decide +kernel) (by decide +kernel)
theorem k_LogCleaner_19 : Cond.fieldLink "LogCleaner" 19 "LogCleaner" "recordCount" "I" ∈ TB := tb_t 40 (by decide +kernel) (by decide +kernel)
theorem k_LogCleaner_22 : Cond.fieldLink "LogCleaner" 22 "LogCleaner" "nextOffset" "I" ∈ TB := tb_t 41 (by decide +kernel) (by decide +kernel)
theorem k_LogCleaner_25c : Cond.classLink "LogCleaner" 25 "LogCleaner$Packing" ∈ TB := tb_t 22 (by decide +kernel) (by decide +kernel)
theorem k_LogCleaner_28 : Cond.fieldLink "LogCleaner" 28 "LogCleaner" "packing" "LLogCleaner$Packing;" ∈ TB := tb_t 42 (by decide +kernel) (by decide +kernel)
theorem k_LogCleaner_32c : Cond.classLink "LogCleaner" 32 "LogCleaner$Entry" ∈ TB := tb_t 36 (by decide +kernel) (by decide +kernel)
theorem k_LogCleaner_34 : Cond.fieldLink "LogCleaner" 34 "LogCleaner" "draft" "[LLogCleaner$Entry;" ∈ TB := tb_t 43 (by decide +kernel) (by decide +kernel)
theorem k_LogCleaner_38 : Cond.fieldLink "LogCleaner" 38 "LogCleaner" "draftCount" "I" ∈ TB := tb_t 44 (by decide +kernel) (by decide +kernel)
theorem k_LogCleaner_41c : Cond.classLink "LogCleaner" 41 "java/lang/IllegalArgumentException" ∈ TB := tb_t 69 (by decide +kernel) (by decide +kernel)
theorem k_LogCleaner_50c : Cond.classLink "LogCleaner" 50 "java/lang/IllegalStateException" ∈ TB := tb_t 137 (by decide +kernel) (by decide +kernel)
theorem k_LogCleaner_57 : Cond.methodLink "LogCleaner" 57 y_LogCleaner_lowestBytes ∈ TB := tb_t 154 (by decide +kernel) (by decide +kernel)
theorem k_LogCleaner_61 : Cond.methodLink "LogCleaner" 61 y_Entry_init ∈ TB := tb_t 158 (by decide +kernel) (by decide +kernel)
theorem k_LogCleaner_70 : Cond.methodLink "LogCleaner" 70 y_Batch_init ∈ TB := tb_t 204 (by decide +kernel) (by decide +kernel)
theorem k_LogCleaner_73 : Cond.methodLink "LogCleaner" 73 y_LogCleaner_moveDraftInto ∈ TB := tb_t 233 (by decide +kernel) (by decide +kernel)
theorem k_LogCleaner_77 : Cond.methodLink "LogCleaner" 77 y_Batch_sizeInBytes ∈ TB := tb_t 257 (by decide +kernel) (by decide +kernel)
theorem k_LogCleaner_81 : Cond.methodLink "LogCleaner" 81 y_Packing_place ∈ TB := tb_t 266 (by decide +kernel) (by decide +kernel)
theorem k_LogCleaner_85 : Cond.fieldLink "LogCleaner" 85 "LogCleaner$Batch" "segment" "I" ∈ TB := tb_t 221 (by decide +kernel) (by decide +kernel)
theorem k_LogCleaner_88 : Cond.fieldLink "LogCleaner" 88 "LogCleaner$Batch" "base" "I" ∈ TB := tb_t 213 (by decide +kernel) (by decide +kernel)
theorem k_LogCleaner_91 : Cond.methodLink "LogCleaner" 91 y_LogCleaner_removeGoneRecords ∈ TB := tb_t 277 (by decide +kernel) (by decide +kernel)
theorem k_LogCleaner_94 : Cond.methodLink "LogCleaner" 94 y_LogCleaner_removeEmptiedBatches ∈ TB := tb_t 293 (by decide +kernel) (by decide +kernel)
theorem k_LogCleaner_97 : Cond.methodLink "LogCleaner" 97 y_LogCleaner_packClosedSegments ∈ TB := tb_t 305 (by decide +kernel) (by decide +kernel)
theorem k_LogCleaner_9c : Cond.classLink "LogCleaner" 9 "LogCleaner$Batch" ∈ TB := tb_t 20 (by decide +kernel) (by decide +kernel)
theorem k_Packing_15 : Cond.fieldLink "LogCleaner$Packing" 15 "LogCleaner$Packing" "lastFilled" "I" ∈ TB := tb_t 30 (by decide +kernel) (by decide +kernel)
theorem k_Packing_3 : Cond.methodLink "LogCleaner$Packing" 3 objectInit ∈ TB := tb_t 27 (by decide +kernel) (by decide +kernel)
theorem k_Packing_9 : Cond.fieldLink "LogCleaner$Packing" 9 "LogCleaner$Packing" "lastSegment" "I" ∈ TB := tb_t 28 (by decide +kernel) (by decide +kernel)
theorem at_LogCleaner_45 : ∀ w ∈ vx_atS R_LogCleaner 45 "java/lang/IllegalArgumentException" ["java/lang/RuntimeException", "java/lang/Exception"], w ∈ TB ∨ w ∈ NB := by decide +kernel
theorem at_LogCleaner_45_ok : ∀ w ∈ vx_atS R_LogCleaner 45 "java/lang/IllegalArgumentException" ["java/lang/RuntimeException", "java/lang/Exception"], vx_ot w = true := by decide +kernel
theorem at_LogCleaner_54 : ∀ w ∈ vx_atS R_LogCleaner 54 "java/lang/IllegalStateException" ["java/lang/RuntimeException", "java/lang/Exception"], w ∈ TB ∨ w ∈ NB := by decide +kernel
theorem at_LogCleaner_54_ok : ∀ w ∈ vx_atS R_LogCleaner 54 "java/lang/IllegalStateException" ["java/lang/RuntimeException", "java/lang/Exception"], vx_ot w = true := by decide +kernel
def xstrs : List (String × Nat × String) := [("LogCleaner", 43, "keyBytes are not -1 .. 8"), ("LogCleaner", 55, "the log and the draft have 4000 records"), ("LogCleaner", 52, "the draft has 100 records"), ("LogCleaner", 48, "time is below 0"), ("LogCleaner", 68, "there are 400 batches"), ("LogCleaner", 66, "the draft is empty"), ("LogCleaner", 64, "the producer is below -1"), ("LogCleaner", 100, "n is not 0 .. 400"), ("LogCleaner", 117, "what is not 0 .. 4"), ("LogCleaner", 119, "there is no such batch"), ("LogCleaner", 129, "what is not 0 .. 5"), ("LogCleaner", 135, "there is no such record"), ("LogCleaner", 157, "keyBytes are not 0 .. 8")]
end
section
/-! THE WORLD AS A MAP: address ↦ content. One pool of all objects and arrays; no parts, no joins. -/
abbrev xw : Type := Nat → Option va_E
def xup (h : xw) (a : Nat) (o : va_E) : xw := fun b => if b = a then some o else h b
theorem xup_self (h : xw) (a : Nat) (o : va_E) : xup h a o a = some o := if_pos rfl
theorem xup_ne (h : xw) {a b : Nat} (o : va_E) (hn : b ≠ a) : xup h a o b = h b := if_neg hn
def xP (D : va_G) (A : Nat → Prop) (h : xw) (H : Heap) : Prop :=
  ∃ (L : List Nat) (f : Nat → va_E), (∀ a o, h a = some o → a ∈ L ∧ f a = o) ∧ va_P D vwCl (va_pl L f) H ∧ va_D A (va_pl L f)
def xA (h : xw) (sz : Nat) : Nat → Prop := fun q => h q ≠ none ∨ sz ≤ q
theorem xP.weaken {D : va_G} {A B : Nat → Prop} {h : xw} {H : Heap} (hP : xP D A h H) (hAB : ∀ q, A q → B q) : xP D B h H := by
  obtain ⟨L, f, h1, h2, h3⟩ := hP
  exact ⟨L, f, h1, h2, h3.1, fun k q hk => hAB _ (h3.2 k q hk)⟩
theorem xpl_get {L : List Nat} {f : Nat → va_E} {a : Nat} (h : a ∈ L) : ∃ k : Nat, (va_pl L f)[k]? = some (a, f a) := by
  obtain ⟨k, hk⟩ := va_pl_get (X := []) (f := f) h
  exact ⟨k, hk⟩
theorem xpl_mem {L : List Nat} {f : Nat → va_E} {k : Nat} {q : Nat × va_E} (h : (va_pl L f)[k]? = some q) : q.1 ∈ L ∧ q.2 = f q.1 := by
  obtain ⟨a, ha, rfl⟩ := List.mem_map.mp (List.mem_of_getElem? h)
  exact ⟨ha, rfl⟩
theorem xP.at {D : va_G} {A : Nat → Prop} {h : xw} {H : Heap} (hP : xP D A h H) {a : Nat} {o : va_E} (ha : h a = some o) : va_at D vwCl (a, o) H ∧ A a := by
  obtain ⟨L, f, h1, h2, h3⟩ := hP
  obtain ⟨hm, hf⟩ := h1 a o ha
  obtain ⟨k, hk⟩ := xpl_get (f := f) hm
  rw [hf] at hk
  exact ⟨h2 k _ hk, h3.2 k _ hk⟩
theorem xP.lt {D : va_G} {A : Nat → Prop} {h : xw} {H : Heap} (hP : xP D A h H) {a : Nat} (ha : h a ≠ none) : a < H.size ∧ A a := by
  cases hh : h a with
  | none => exact absurd hh ha
  | some o => exact ⟨(hP.at hh).1.lt, (hP.at hh).2⟩
/-- a list of cells of the map -/
theorem xP.sub {D : va_G} {A : Nat → Prop} {h h' : xw} {H : Heap} (hP : xP D A h H) (hs : ∀ a o, h' a = some o → h a = some o) : xP D A h' H := by
  obtain ⟨L, f, h1, h2, h3⟩ := hP
  exact ⟨L, f, fun a o ha => h1 a o (hs a o ha), h2, h3⟩
theorem xP.self {D : va_G} {A : Nat → Prop} {h : xw} {H : Heap} (hP : xP D A h H) : xP D (xA h H.size) h H := by
  obtain ⟨L, f, h1, h2, h3⟩ := hP
  obtain ⟨g, hg⟩ : ∃ g : Nat → Bool, ∀ a, g a = true ↔ h a ≠ none := ⟨fun a => (h a).isSome, fun a => by cases hh : h a <;> simp [hh]⟩
  have hnd : L.Nodup := by
    refine List.pairwise_iff_getElem.mpr (fun i j hi hj hij he => ?_)
    have e1 : (va_pl L f)[i]? = some (L[i], f L[i]) := by simp [va_pl, hi]
    have e2 : (va_pl L f)[j]? = some (L[j], f L[j]) := by simp [va_pl, hj]
    exact absurd (h3.1 i j _ _ e1 e2 he) (by omega)
  have hnd2 : (L.filter g).Nodup := hnd.filter _
  refine ⟨L.filter g, f, fun a o ha => ⟨List.mem_filter.mpr ⟨(h1 a o ha).1, (hg a).mpr (by rw [ha]; simp)⟩, (h1 a o ha).2⟩, fun k q hk => ?_, fun i j x y hi hj hxy => ?_, fun k q hk => ?_⟩
  · obtain ⟨m1, m2⟩ := xpl_mem hk
    obtain ⟨k2, hk2⟩ := xpl_get (f := f) (List.mem_filter.mp m1).1
    have : q = (q.1, f q.1) := by rw [← m2]
    rw [this]
    exact h2 k2 _ hk2
  · have l1 : i < (L.filter g).length := by have := (List.getElem?_eq_some_iff.mp hi).1; simpa [va_pl] using this
    have l2 : j < (L.filter g).length := by have := (List.getElem?_eq_some_iff.mp hj).1; simpa [va_pl] using this
    have e1 : x.1 = (L.filter g)[i] := by
      have h9 : (va_pl (L.filter g) f)[i]? = some ((L.filter g)[i], f (L.filter g)[i]) := by simp [va_pl, l1]
      rw [h9] at hi
      cases hi
      rfl
    have e2 : y.1 = (L.filter g)[j] := by
      have h9 : (va_pl (L.filter g) f)[j]? = some ((L.filter g)[j], f (L.filter g)[j]) := by simp [va_pl, l2]
      rw [h9] at hj
      cases hj
      rfl
    rw [e1, e2] at hxy
    exact (List.getElem_inj hnd2).mp hxy
  · obtain ⟨m1, -⟩ := xpl_mem hk
    exact Or.inl ((hg _).mp (List.mem_filter.mp m1).2)
theorem xpl_set {A : Nat → Prop} {L : List Nat} {f : Nat → va_E} {a k : Nat} {e : va_E} (hD : va_D A (va_pl L f)) (h : a ∈ L) (hk : (va_pl L f)[k]? = some (a, f a)) : (va_pl L f).set k (a, e) = va_pl L (va_up f a e) := va_pl_set (X := []) hD h hk
/-- behind a store -/
theorem xP_set {D : va_G} {A : Nat → Prop} {h : xw} {L : List Nat} {f : Nat → va_E} {H1 : Heap} {a k : Nat} {o o' : va_E} (h1 : ∀ a o, h a = some o → a ∈ L ∧ f a = o) (hD : va_D A (va_pl L f)) (ha : h a = some o) (hk : (va_pl L f)[k]? = some (a, o))
    (hP' : va_P D vwCl ((va_pl L f).set k (a, o')) H1) (hD' : va_D A ((va_pl L f).set k (a, o'))) : xP D A (xup h a o') H1 := by
  obtain ⟨hm, hf⟩ := h1 a o ha
  have e := xpl_set (e := o') hD hm (by rw [hf]; exact hk)
  rw [e] at hP' hD'
  refine ⟨L, va_up f a o', fun b z hz => ?_, hP', hD'⟩
  by_cases hb : b = a
  · subst hb
    rw [xup_self] at hz
    cases hz
    exact ⟨hm, va_up_self _ _ _⟩
  · rw [xup_ne _ _ hb] at hz
    rw [va_up_ne _ _ hb]
    exact h1 b z hz
/-- behind a making -/
theorem xP_push {D : va_G} {A : Nat → Prop} {h : xw} {L : List Nat} {f : Nat → va_E} {H1 : Heap} {q : Nat} {o : va_E} (h1 : ∀ a o, h a = some o → a ∈ L ∧ f a = o)
    (hP' : va_P D vwCl (va_pl L f ++ [(q, o)]) H1) (hD' : va_D A (va_pl L f ++ [(q, o)])) : h q = none ∧ xP D A (xup h q o) H1 := by
  have hq : q ∉ L := va_pl_fresh2 (X := []) hD'
  have e : va_pl L f ++ [(q, o)] = va_pl (L ++ [q]) (va_up f q o) := va_pl_push hq
  rw [e] at hP' hD'
  refine ⟨?_, L ++ [q], va_up f q o, fun b z hz => ?_, hP', hD'⟩
  · cases hh : h q with
    | none => rfl
    | some z => exact absurd (h1 q z hh).1 hq
  · by_cases hb : b = q
    · subst hb
      rw [xup_self] at hz
      cases hz
      exact ⟨List.mem_append_right _ (List.mem_singleton.mpr rfl), va_up_self _ _ _⟩
    · rw [xup_ne _ _ hb] at hz
      rw [va_up_ne _ _ hb]
      exact ⟨List.mem_append_left _ (h1 b z hz).1, (h1 b z hz).2⟩
theorem xA_sub {D : va_G} {A : Nat → Prop} {h : xw} {H H0 : Heap} {locs : List Loc} (hP : xP D A h H) (hS : va_S A H0 H locs) (hA : ∀ q, H0.size ≤ q → A q) : ∀ q, xA h H.size q → A q := by
  intro q hq
  rcases hq with hq | hq
  · exact (hP.lt hq).2
  · exact hA q (Nat.le_trans hS.1 hq)
/-- cells of other kinds than σ stay as they were at h0 -/
def xfr (σ : va_E → Prop) (h0 h : xw) : Prop := ∀ a o, h0 a = some o → ¬ σ o → h a = some o
theorem xfr.rf {σ : va_E → Prop} {h : xw} : xfr σ h h := fun _ _ h1 _ => h1
theorem xfr.tr {σ : va_E → Prop} {h0 h1 h2 : xw} (a : xfr σ h0 h1) (b : xfr σ h1 h2) : xfr σ h0 h2 := fun x o h n => b x o (a x o h n) n
theorem xfr.set {σ : va_E → Prop} {h0 h : xw} {a : Nat} {o o' : va_E} (hf : xfr σ h0 h) (ha : h a = some o) (ho : σ o) : xfr σ h0 (xup h a o') := fun x z hx hz => by
  have h1 := hf x z hx hz
  have hne : x ≠ a := fun e => by
    subst e
    rw [ha] at h1
    cases h1
    exact hz ho
  rw [xup_ne _ _ hne]
  exact h1
theorem xfr.push {σ : va_E → Prop} {h0 h : xw} {a : Nat} {o' : va_E} (hf : xfr σ h0 h) (ha : h a = none) : xfr σ h0 (xup h a o') := fun x z hx hz => by
  have h1 := hf x z hx hz
  have hne : x ≠ a := fun e => by
    subst e
    rw [ha] at h1
    cases h1
  rw [xup_ne _ _ hne]
  exact h1
/-- the world of a walk that began at h0 and changes cells of the kinds σ alone -/
def xR (σ : va_E → Prop) (h0 : xw) (D : va_G) (A : Nat → Prop) (h : xw) (H : Heap) : Prop := xP D A h H ∧ xfr σ h0 h

/-! WHAT A STEP ASKS AND GIVES, over the map -/
def wgI (h : xw) (a ci k : Nat) (K : Int32 → Prop) : Prop := ∃ fs v, h a = some (.inr (ci, fs)) ∧ fs[k]? = some (Value.int v) ∧ K v
def wgL (h : xw) (a ci k : Nat) (K : Int64 → Prop) : Prop := ∃ fs v, h a = some (.inr (ci, fs)) ∧ fs[k]? = some (Value.long v) ∧ K v
def wgA (h : xw) (a ci k : Nat) (K : Option Nat → Prop) : Prop := ∃ fs r, h a = some (.inr (ci, fs)) ∧ fs[k]? = some (va_rf r) ∧ K r
def wpF (h : xw) (a ci k : Nat) (v : Value) (K : xw → Prop) : Prop := ∃ fs, h a = some (.inr (ci, fs)) ∧ k < fs.length ∧ K (xup h a (.inr (ci, fs.set k v)))
def wpZ (h : xw) (a ci k : Nat) (v : Int32) (K : xw → Prop) : Prop := (v = 0 ∨ v = 1) ∧ ∃ fs, h a = some (.inr (ci, fs)) ∧ k < fs.length ∧ K (xup h a (.inr (ci, fs.set k (.int v))))
/-- a reference that isn't null -/
abbrev wnn (r : Option Nat) (K : Nat → Prop) : Prop := ∃ a, r = some a ∧ K a
abbrev wIs (h : xw) (a ci : Nat) (P : Prop) : Prop := (∃ fs, h a = some (.inr (ci, fs))) ∧ P
abbrev wIf (c : Prop) (P Q : Prop) : Prop := (c → P) ∧ (¬ c → Q)
abbrev xaq (cA : ClassId) (n : Nat) (g : Nat → Option Nat) : va_E := .inl (cA, n, .inr (.inr (.inr (.inr g))))
abbrev xai (cA : ClassId) (n : Nat) (g : Nat → Int32) : va_E := .inl (cA, n, .inl g)
abbrev xal (cA : ClassId) (n : Nat) (g : Nat → Int64) : va_E := .inl (cA, n, .inr (.inl g))
def wlen (h : xw) (a : Nat) (cA : ClassId) (K : Int32 → Prop) : Prop := ∃ x, h a = some (.inl (cA, x)) ∧ K (Int32.ofNat x.1)
def wldq (h : xw) (a : Nat) (cA : ClassId) (i : Int32) (K : Option Nat → Prop) : Prop := ∃ n g, h a = some (xaq cA n g) ∧ vp_in i n ∧ K (g i.toNatClampNeg)
def wldi (h : xw) (a : Nat) (cA : ClassId) (i : Int32) (K : Int32 → Prop) : Prop := ∃ n g, h a = some (xai cA n g) ∧ vp_in i n ∧ K (g i.toNatClampNeg)
def wldl (h : xw) (a : Nat) (cA : ClassId) (i : Int32) (K : Int64 → Prop) : Prop := ∃ n g, h a = some (xal cA n g) ∧ vp_in i n ∧ K (g i.toNatClampNeg)
/-- the stored reference is null or an object of class ci -/
def wstq (h : xw) (a : Nat) (cA : ClassId) (ci : Nat) (i : Int32) (r : Option Nat) (K : xw → Prop) : Prop := ∃ n g, h a = some (xaq cA n g) ∧ vp_in i n ∧ (∀ b, r = some b → ∃ fs, h b = some (.inr (ci, fs))) ∧ K (xup h a (xaq cA n (va_up g i.toNatClampNeg r)))
def wsti (h : xw) (a : Nat) (cA : ClassId) (i : Int32) (x : Int32) (K : xw → Prop) : Prop := ∃ n g, h a = some (xai cA n g) ∧ vp_in i n ∧ K (xup h a (xai cA n (upd g i.toNatClampNeg x)))
def wstz (h : xw) (a : Nat) (cA : ClassId) (i : Int32) (x : Int32) (K : xw → Prop) : Prop := (x = 0 ∨ x = 1) ∧ ∃ n g, h a = some (xai cA n g) ∧ vp_in i n ∧ K (xup h a (xai cA n (upd g i.toNatClampNeg x)))
def wstl (h : xw) (a : Nat) (cA : ClassId) (i : Int32) (x : Int64) (K : xw → Prop) : Prop := ∃ n g, h a = some (xal cA n g) ∧ vp_in i n ∧ K (xup h a (xal cA n (vp_updL g i.toNatClampNeg x)))
def wnew (h : xw) (o : va_E) (K : Nat → xw → Prop) : Prop := ∀ q, h q = none → K q (xup h q o)
/-- a new array of at most B places -/
def wnewA (h : xw) (B : Nat) (n : Int32) (o : Nat → va_E) (K : Nat → xw → Prop) : Prop := ¬ n < 0 ∧ n.toNatClampNeg ≤ B ∧ ∀ q, h q = none → K q (xup h q (o n.toNatClampNeg))
abbrev wNul (r : Option Nat) (P : Prop) (K : Nat → Prop) : Prop := (r = none → P) ∧ ∀ a, r = some a → K a
abbrev wZ (v : Int32) (P : Prop) : Prop := (v = 0 ∨ v = 1) ∧ P
/-- a loop that ends: n turns are enough -/
def xloop {α : Type} (F : (α → xw → Prop) → α → xw → Prop) : Nat → α → xw → Prop
  | 0 => fun _ _ => False
  | n + 1 => F (xloop F n)
def wLoop {α : Type} (F : (α → xw → Prop) → α → xw → Prop) (x : α) (h : xw) : Prop := ∃ n, xloop F n x h
theorem wLoop_ind {α : Type} {F : (α → xw → Prop) → α → xw → Prop} (I : α → xw → Prop) (μ : α → xw → Nat)
    (hs : ∀ (x : α) (h : xw) (k : α → xw → Prop), I x h → (∀ x' h', I x' h' → μ x' h' < μ x h → k x' h') → F k x h) (x : α) (h : xw) (hi : I x h) : wLoop F x h := by
  have key : ∀ (n : Nat) (x : α) (h : xw), I x h → μ x h < n → xloop F n x h := by
    intro n
    induction n with
    | zero => intro x h _ h2; exact absurd h2 (Nat.not_lt_zero _)
    | succ n ih =>
      intro x h h1 h2
      exact hs x h _ h1 (fun x' h' i' m' => ih x' h' i' (by omega))
  exact ⟨μ x h + 1, key _ x h hi (Nat.lt_succ_self _)⟩
theorem xsw {x y : Int32} {n : Int} (h : x.toInt = n) (hy : y.toInt = n) : x = y := Int32.toInt_inj.mp (h.trans hy.symm)
theorem xcat (x : Option Nat) : (va_rf x).category = 1 := by cases x <;> rfl
theorem xnar (C : String) (x : Option Nat) : narrow (.object C) (va_rf x) = va_rf x := by cases x <;> rfl
def TYS (d : Nat → ClassId) : List (ClassId × FieldType) := xtys.zipIdx.map (fun q => (d q.2, q.1))
abbrev xB (D : va_G) (d : Nat → ClassId) (A : Nat → Prop) : xw → State → Prop := fun u t => xP D A u t.heap ∧ va_K D vwCl (TYS d) t
def xX (X : String → xw → Prop) (D : va_G) (d : Nat → ClassId) (A : Nat → Prop) : String → State → State → Prop := vx_X (fun _ : xw => True) (fun E u t => X E u ∧ xB D d A u t) A
/-- words that are carried by hand: calls across the nest, casts of exceptions -/
def xN (U : State) : Prop := (∀ w ∈ NB, va_Nw w U) ∧ ∀ C ∈ ["LogCleaner$Batch", "LogCleaner$Entry"], va_AO C U
theorem xN.warm {s U : State} (hW : s.WarmedH U.vm) (h : xN s) : xN U := ⟨fun w hw => NB_warm hW w hw (h.1 w hw), fun C hC => va_AO.moved hW.alike (h.2 C hC)⟩
theorem xN.same {s U : State} (hv : s.vm = U.vm) (h : xN s) : xN U := ⟨fun w hw => va_Nw.same (NB_tabs w hw) hv (h.1 w hw), fun C hC => va_AO.moved (hv ▸ Vm.Alike.refl s.vm) (h.2 C hC)⟩
def xPre (D : va_G) (d : Nat → ClassId) (h : xw) (av : List Value) (sz : Nat) : Array Value → State → Prop := va_Pc av (fun U => U.heap.size = sz ∧ xP D (fun _ => True) h U.heap ∧ va_K D vwCl (TYS d) U ∧ xN U)
theorem xPre_blind {D : va_G} {d : Nat → ClassId} {h : xw} {av : List Value} {sz : Nat} : FrameBlind (xPre D d h av sz) := fun a U g mk q => by
  obtain ⟨q0, q1, qP, qK, qN⟩ := q
  exact ⟨q0, q1, qP, va_K.moved (u := U) (U := U.calling g mk a) (Vm.Alike.refl U.vm) qK, xN.same (s := U) (U := U.calling g mk a) rfl qN⟩
section XROWS
variable {p : Program} {l : Launch} {e : Env} {R : Room} {s : State} {m : MethodId} {args : Array Value} {below : List Frame} {meth : Method} {c : Code} {H : Heap} {locs : List Loc} {cells slots : Nat} {Q : State → Prop}
variable {cc : ByteArray} {pc : Nat} {ls : Array Slot} {rest : List Value} {D : va_G} {d : Nat → ClassId} {A : Nat → Prop} {a : Nat} {H0 : Heap} {h h0 : xw} {σ : va_E → Prop} {tys : List (ClassId × FieldType)}
theorem xpreV (hP : xR σ h0 D A h H) (hK : va_K D vwCl (TYS d) s) (hNB : xN s) {ci b : Nat} {r : vw_C} {fs : List Value} {As : List Value} (hc : vwCl[ci]? = some r) (hh : h b = some (.inr (ci, fs))) : PreV s H r.1 b (xPre D d h (.ref b :: As) H.size) As := by
  obtain ⟨r', h1, cell, g1, g2, g3, -⟩ := (hP.1.at hh).1
  refine ⟨xPre_blind, ⟨cell, g1, by rw [g3]; rfl, by rw [g2]; exact (hK.1 ci r hc).2.1⟩, fun U hU hW => ⟨rfl, by rw [hU], by rw [hU]; exact hP.1.weaken (fun _ _ => trivial), va_K.moved hW.alike hK, hNB.warm hW⟩⟩
theorem xpreI (hP : xR σ h0 D A h H) (hK : va_K D vwCl (TYS d) s) (hNB : xN s) {As : List Value} : PreS s H (xPre D d h As H.size) As :=
  ⟨xPre_blind, fun U hU hW => ⟨rfl, by rw [hU], by rw [hU]; exact hP.1.weaken (fun _ _ => trivial), va_K.moved hW.alike hK, hNB.warm hW⟩⟩
/-- references that may be null, carried as they are -/
theorem xv_aload_n (hexec : p.tables.exec = Jvm.exec) (hb : c.code = cc) {k : Fin 4} {i : Nat} {x : Option Nat} (hdg : decode cc pc = .ok (.aload_n k, 1)) (hi : (k : Nat) = i) (hl : ls[i]? = some (.val (va_rf x)))
    (k9 : W p l e R s m args below meth c H locs cells slots Q (F0 m (pc + 1) ls (va_rf x :: rest))) : W p l e R s m args below meth c H locs cells slots Q (F0 m pc ls rest) := by
  cases x with
  | none => exact lv_aload_nN hexec hb hdg hi hl k9
  | some a => exact lv_aload_n hexec hb hdg hi hl k9
theorem xv_aload (hexec : p.tables.exec = Jvm.exec) (hb : c.code = cc) {i : Nat} {x : Option Nat} (hdg : decode cc pc = .ok (.aload i, 2)) (hl : ls[i]? = some (.val (va_rf x)))
    (k9 : W p l e R s m args below meth c H locs cells slots Q (F0 m (pc + 2) ls (va_rf x :: rest))) : W p l e R s m args below meth c H locs cells slots Q (F0 m pc ls rest) := by
  cases x with
  | none => exact lv_aloadN hexec hb hdg hl k9
  | some a => exact lv_aload hexec hb hdg hl k9
theorem xv_astore_n (hexec : p.tables.exec = Jvm.exec) (hb : c.code = cc) {k : Fin 4} {i nL : Nat} {x : Option Nat} {lv lv' : List (Nat × Value)} (hdg : decode cc pc = .ok (.astore_n k, 1)) (hi : (k : Nat) = i) (hh : lv_has ls nL lv) (hn : i < nL) (hl : (i, va_rf x) :: lv.filter (fun q => !(q.1 == i) && !(q.1 + 1 == i && q.2.category == 2)) = lv')
    (kk : ∀ ls' : Array Slot, lv_has ls' nL lv' → W p l e R s m args below meth c H locs cells slots Q (F0 m (pc + 1) ls' rest)) : W p l e R s m args below meth c H locs cells slots Q (F0 m pc ls (va_rf x :: rest)) := by
  cases x with
  | none => exact lv_astore_nN hexec hb hdg hi hh hn hl kk
  | some a => exact lv_astore_n hexec hb hdg hi hh hn hl kk
theorem xv_astore (hexec : p.tables.exec = Jvm.exec) (hb : c.code = cc) {i nL : Nat} {x : Option Nat} {lv lv' : List (Nat × Value)} (hdg : decode cc pc = .ok (.astore i, 2)) (hh : lv_has ls nL lv) (hn : i < nL) (hl : (i, va_rf x) :: lv.filter (fun q => !(q.1 == i) && !(q.1 + 1 == i && q.2.category == 2)) = lv')
    (kk : ∀ ls' : Array Slot, lv_has ls' nL lv' → W p l e R s m args below meth c H locs cells slots Q (F0 m (pc + 2) ls' rest)) : W p l e R s m args below meth c H locs cells slots Q (F0 m pc ls (va_rf x :: rest)) := by
  cases x with
  | none => exact lv_astoreN hexec hb hdg hh hn hl kk
  | some a => exact lv_astore hexec hb hdg hh hn hl kk
theorem xv_null (hexec : p.tables.exec = Jvm.exec) (hb : c.code = cc) (hdg : decode cc pc = .ok (.aconst_null, 1)) (k : W p l e R s m args below meth c H locs cells slots Q (F0 m (pc + 1) ls (va_rf none :: rest))) : W p l e R s m args below meth c H locs cells slots Q (F0 m pc ls rest) := lv_null hexec hb hdg k
/-- fields -/
theorem xgetV (hexec : p.tables.exec = Jvm.exec) (hb : c.code = cc) {own ref C : String} {T : u_T} {N ci index : Nat} {Ts : List Cond} (hts : ∀ w ∈ Ts, w.before args s = true) (hin : ∀ w ∈ u_ws C T N, w ∈ Ts) (hown : s.vm.findClass own = some m.cls) (hK : va_K D vwCl tys s) (hP : xR σ h0 D A h H) (hc : vwCl[ci]? = some (C, T, N)) (k : Nat) (hk : k < N) (hlink : (Cond.fieldLink own index ref (T k).2.1 (T k).2.2.1).before args s = true) (hsame : ∀ x, s.fieldFound? (T k).1 (T k).2.1 (T k).2.2.1 = some x → s.fieldFound? ref (T k).2.1 (T k).2.2.1 = some x) {fs : List Value} {v : Value} (h1 : h a = some (.inr (ci, fs))) (h2 : fs[k]? = some v) (hdg : decode cc pc = .ok (.getfield index, 3))
    (kk : W p l e R s m args below meth c H locs cells slots Q (F0 m (pc + 3) ls (v :: rest))) : W p l e R s m args below meth c H locs cells slots Q (F0 m pc ls (.ref a :: rest)) := by
  obtain ⟨⟨L, f, q1, q2, q3⟩, hF⟩ := id hP
  obtain ⟨hm, hf⟩ := q1 a _ h1
  obtain ⟨k0, hk0⟩ := xpl_get (f := f) hm
  rw [hf] at hk0
  exact va_get hexec hb hts hin hown hK q2 k0 hk0 hc k hk hlink hsame h2 hdg kk
theorem xgetI (hexec : p.tables.exec = Jvm.exec) (hb : c.code = cc) {own ref C : String} {T : u_T} {N ci index : Nat} {Ts : List Cond} (hts : ∀ w ∈ Ts, w.before args s = true) (hin : ∀ w ∈ u_ws C T N, w ∈ Ts) (hown : s.vm.findClass own = some m.cls) (hK : va_K D vwCl tys s) (hP : xR σ h0 D A h H) (hc : vwCl[ci]? = some (C, T, N)) (k : Nat) (hk : k < N) (hlink : (Cond.fieldLink own index ref (T k).2.1 (T k).2.2.1).before args s = true) (hsame : ∀ x, s.fieldFound? (T k).1 (T k).2.1 (T k).2.2.1 = some x → s.fieldFound? ref (T k).2.1 (T k).2.2.1 = some x) {Kw : Int32 → Prop} (hw : wgI h a ci k Kw) (hdg : decode cc pc = .ok (.getfield index, 3))
    (kk : ∀ v, Kw v → W p l e R s m args below meth c H locs cells slots Q (F0 m (pc + 3) ls (.int v :: rest))) : W p l e R s m args below meth c H locs cells slots Q (F0 m pc ls (.ref a :: rest)) := by
  obtain ⟨fs, v, h1, h2, h3⟩ := hw
  exact xgetV hexec hb hts hin hown hK hP hc k hk hlink hsame h1 h2 hdg (kk v h3)
theorem xgetL (hexec : p.tables.exec = Jvm.exec) (hb : c.code = cc) {own ref C : String} {T : u_T} {N ci index : Nat} {Ts : List Cond} (hts : ∀ w ∈ Ts, w.before args s = true) (hin : ∀ w ∈ u_ws C T N, w ∈ Ts) (hown : s.vm.findClass own = some m.cls) (hK : va_K D vwCl tys s) (hP : xR σ h0 D A h H) (hc : vwCl[ci]? = some (C, T, N)) (k : Nat) (hk : k < N) (hlink : (Cond.fieldLink own index ref (T k).2.1 (T k).2.2.1).before args s = true) (hsame : ∀ x, s.fieldFound? (T k).1 (T k).2.1 (T k).2.2.1 = some x → s.fieldFound? ref (T k).2.1 (T k).2.2.1 = some x) {Kw : Int64 → Prop} (hw : wgL h a ci k Kw) (hdg : decode cc pc = .ok (.getfield index, 3))
    (kk : ∀ v, Kw v → W p l e R s m args below meth c H locs cells slots Q (F0 m (pc + 3) ls (.long v :: rest))) : W p l e R s m args below meth c H locs cells slots Q (F0 m pc ls (.ref a :: rest)) := by
  obtain ⟨fs, v, h1, h2, h3⟩ := hw
  exact xgetV hexec hb hts hin hown hK hP hc k hk hlink hsame h1 h2 hdg (kk v h3)
theorem xgetA (hexec : p.tables.exec = Jvm.exec) (hb : c.code = cc) {own ref C : String} {T : u_T} {N ci index : Nat} {Ts : List Cond} (hts : ∀ w ∈ Ts, w.before args s = true) (hin : ∀ w ∈ u_ws C T N, w ∈ Ts) (hown : s.vm.findClass own = some m.cls) (hK : va_K D vwCl tys s) (hP : xR σ h0 D A h H) (hc : vwCl[ci]? = some (C, T, N)) (k : Nat) (hk : k < N) (hlink : (Cond.fieldLink own index ref (T k).2.1 (T k).2.2.1).before args s = true) (hsame : ∀ x, s.fieldFound? (T k).1 (T k).2.1 (T k).2.2.1 = some x → s.fieldFound? ref (T k).2.1 (T k).2.2.1 = some x) {Kw : Option Nat → Prop} (hw : wgA h a ci k Kw) (hdg : decode cc pc = .ok (.getfield index, 3))
    (kk : ∀ v, Kw v → W p l e R s m args below meth c H locs cells slots Q (F0 m (pc + 3) ls (va_rf v :: rest))) : W p l e R s m args below meth c H locs cells slots Q (F0 m pc ls (.ref a :: rest)) := by
  obtain ⟨fs, v, h1, h2, h3⟩ := hw
  exact xgetV hexec hb hts hin hown hK hP hc k hk hlink hsame h1 h2 hdg (kk v h3)
theorem xputV (hexec : p.tables.exec = Jvm.exec) (hb : c.code = cc) {own ref C : String} {T : u_T} {N ci index : Nat} {Ts : List Cond} (hts : ∀ w ∈ Ts, w.before args s = true) (hin : ∀ w ∈ u_ws C T N, w ∈ Ts) (ty0 : Nat → FieldType) (hty : ∀ k, k < N → parseFieldDescriptor (T k).2.2.1 = some (ty0 k)) (hnm : ∀ a, a < N → ∀ b, b < N → a ≠ b → (T a).2.1 ≠ (T b).2.1) (hown : s.vm.findClass own = some m.cls) (hK : va_K D vwCl tys s) (hP : xR σ h0 D A h H) (hS0 : va_S A H0 H locs) (hc : vwCl[ci]? = some (C, T, N)) (hσ : ∀ fs, σ (.inr (ci, fs))) (k : Nat) (hk : k < N) (hlink : (Cond.fieldLink own index ref (T k).2.1 (T k).2.2.1).before args s = true) (hsame : ∀ x, s.fieldFound? (T k).1 (T k).2.1 (T k).2.2.1 = some x → s.fieldFound? ref (T k).2.1 (T k).2.2.1 = some x) (hfin : (T k).2.2.2 = false) {ty : FieldType} {v : Value} (hd : parseFieldDescriptor (T k).2.2.1 = some ty) (hn : narrow ty v = v) (hfit : fits ty v = true) {Kw : xw → Prop} (hw : wpF h a ci k v Kw) (hdg : decode cc pc = .ok (.putfield index, 3))
    (kk : ∀ (h' : xw) (H1 : Heap) (locs1 : List Loc), Kw h' → xR σ h0 D A h' H1 → va_S A H0 H1 locs1 → W p l e R s m args below meth c H1 locs1 cells slots Q (F0 m (pc + 3) ls rest)) : W p l e R s m args below meth c H locs cells slots Q (F0 m pc ls (v :: .ref a :: rest)) := by
  obtain ⟨fs, h1, h2, h3⟩ := hw
  obtain ⟨⟨L, f, q1, q2, q3⟩, hF⟩ := id hP
  obtain ⟨hm, hf⟩ := q1 a _ h1
  obtain ⟨k0, hk0⟩ := xpl_get (f := f) hm
  rw [hf] at hk0
  exact va_put hexec hb hts hin ty0 hty hnm hown hK q2 q3 hS0 k0 hk0 hc k hk hlink hsame hfin hd hn hfit h2 hdg (fun H1 locs1 hP1 hD1 hS1 => kk _ H1 locs1 h3 ⟨xP_set q1 q3 h1 hk0 hP1 hD1, hF.set h1 (hσ _)⟩ hS1)
theorem xputFV (hexec : p.tables.exec = Jvm.exec) (hb : c.code = cc) {own ref C : String} {T : u_T} {N ci index : Nat} {Ts : List Cond} (hts : ∀ w ∈ Ts, w.before args s = true) (hin : ∀ w ∈ u_ws C T N, w ∈ Ts) (ty0 : Nat → FieldType) (hty : ∀ k, k < N → parseFieldDescriptor (T k).2.2.1 = some (ty0 k)) (hnm : ∀ a, a < N → ∀ b, b < N → a ≠ b → (T a).2.1 ≠ (T b).2.1) (hown : s.vm.findClass own = some m.cls) (hK : va_K D vwCl tys s) (hP : xR σ h0 D A h H) (hS0 : va_S A H0 H locs) (hc : vwCl[ci]? = some (C, T, N)) (hσ : ∀ fs, σ (.inr (ci, fs))) (k : Nat) (hk : k < N) (hlink : (Cond.fieldLink own index ref (T k).2.1 (T k).2.2.1).before args s = true) (hsame : ∀ x, s.fieldFound? (T k).1 (T k).2.1 (T k).2.2.1 = some x → s.fieldFound? ref (T k).2.1 (T k).2.2.1 = some x) (hfin : (T k).2.2.2 = true) (hin2 : meth.name = "<init>") (hdecl : (T k).1 = own) {ty : FieldType} {v : Value} (hd : parseFieldDescriptor (T k).2.2.1 = some ty) (hn : narrow ty v = v) (hfit : fits ty v = true) {Kw : xw → Prop} (hw : wpF h a ci k v Kw) (hdg : decode cc pc = .ok (.putfield index, 3))
    (kk : ∀ (h' : xw) (H1 : Heap) (locs1 : List Loc), Kw h' → xR σ h0 D A h' H1 → va_S A H0 H1 locs1 → W p l e R s m args below meth c H1 locs1 cells slots Q (F0 m (pc + 3) ls rest)) : W p l e R s m args below meth c H locs cells slots Q (F0 m pc ls (v :: .ref a :: rest)) := by
  obtain ⟨fs, h1, h2, h3⟩ := hw
  obtain ⟨⟨L, f, q1, q2, q3⟩, hF⟩ := id hP
  obtain ⟨hm, hf⟩ := q1 a _ h1
  obtain ⟨k0, hk0⟩ := xpl_get (f := f) hm
  rw [hf] at hk0
  exact va_putF hexec hb hts hin ty0 hty hnm hown hK q2 q3 hS0 k0 hk0 hc k hk hlink hsame hfin hin2 hdecl hd hn hfit h2 hdg (fun H1 locs1 hP1 hD1 hS1 => kk _ H1 locs1 h3 ⟨xP_set q1 q3 h1 hk0 hP1 hD1, hF.set h1 (hσ _)⟩ hS1)
theorem xputI (hexec : p.tables.exec = Jvm.exec) (hb : c.code = cc) {own ref C : String} {T : u_T} {N ci index : Nat} {Ts : List Cond} (hts : ∀ w ∈ Ts, w.before args s = true) (hin : ∀ w ∈ u_ws C T N, w ∈ Ts) (ty0 : Nat → FieldType) (hty : ∀ k, k < N → parseFieldDescriptor (T k).2.2.1 = some (ty0 k)) (hnm : ∀ a, a < N → ∀ b, b < N → a ≠ b → (T a).2.1 ≠ (T b).2.1) (hown : s.vm.findClass own = some m.cls) (hK : va_K D vwCl tys s) (hP : xR σ h0 D A h H) (hS0 : va_S A H0 H locs) (hc : vwCl[ci]? = some (C, T, N)) (hσ : ∀ fs, σ (.inr (ci, fs))) (k : Nat) (hk : k < N) (hlink : (Cond.fieldLink own index ref (T k).2.1 (T k).2.2.1).before args s = true) (hsame : ∀ x, s.fieldFound? (T k).1 (T k).2.1 (T k).2.2.1 = some x → s.fieldFound? ref (T k).2.1 (T k).2.2.1 = some x) (hfin : (T k).2.2.2 = false) {v : Int32} (hd : parseFieldDescriptor (T k).2.2.1 = some .int) {Kw : xw → Prop} (hw : wpF h a ci k (.int v) Kw) (hdg : decode cc pc = .ok (.putfield index, 3))
    (kk : ∀ (h' : xw) (H1 : Heap) (locs1 : List Loc), Kw h' → xR σ h0 D A h' H1 → va_S A H0 H1 locs1 → W p l e R s m args below meth c H1 locs1 cells slots Q (F0 m (pc + 3) ls rest)) : W p l e R s m args below meth c H locs cells slots Q (F0 m pc ls (.int v :: .ref a :: rest)) := xputV hexec hb hts hin ty0 hty hnm hown hK hP hS0 hc hσ k hk hlink hsame hfin hd rfl rfl hw hdg kk
theorem xputL (hexec : p.tables.exec = Jvm.exec) (hb : c.code = cc) {own ref C : String} {T : u_T} {N ci index : Nat} {Ts : List Cond} (hts : ∀ w ∈ Ts, w.before args s = true) (hin : ∀ w ∈ u_ws C T N, w ∈ Ts) (ty0 : Nat → FieldType) (hty : ∀ k, k < N → parseFieldDescriptor (T k).2.2.1 = some (ty0 k)) (hnm : ∀ a, a < N → ∀ b, b < N → a ≠ b → (T a).2.1 ≠ (T b).2.1) (hown : s.vm.findClass own = some m.cls) (hK : va_K D vwCl tys s) (hP : xR σ h0 D A h H) (hS0 : va_S A H0 H locs) (hc : vwCl[ci]? = some (C, T, N)) (hσ : ∀ fs, σ (.inr (ci, fs))) (k : Nat) (hk : k < N) (hlink : (Cond.fieldLink own index ref (T k).2.1 (T k).2.2.1).before args s = true) (hsame : ∀ x, s.fieldFound? (T k).1 (T k).2.1 (T k).2.2.1 = some x → s.fieldFound? ref (T k).2.1 (T k).2.2.1 = some x) (hfin : (T k).2.2.2 = false) {v : Int64} (hd : parseFieldDescriptor (T k).2.2.1 = some .long) {Kw : xw → Prop} (hw : wpF h a ci k (.long v) Kw) (hdg : decode cc pc = .ok (.putfield index, 3))
    (kk : ∀ (h' : xw) (H1 : Heap) (locs1 : List Loc), Kw h' → xR σ h0 D A h' H1 → va_S A H0 H1 locs1 → W p l e R s m args below meth c H1 locs1 cells slots Q (F0 m (pc + 3) ls rest)) : W p l e R s m args below meth c H locs cells slots Q (F0 m pc ls (.long v :: .ref a :: rest)) := xputV hexec hb hts hin ty0 hty hnm hown hK hP hS0 hc hσ k hk hlink hsame hfin hd rfl rfl hw hdg kk
theorem xputA (hexec : p.tables.exec = Jvm.exec) (hb : c.code = cc) {own ref C : String} {T : u_T} {N ci index : Nat} {Ts : List Cond} (hts : ∀ w ∈ Ts, w.before args s = true) (hin : ∀ w ∈ u_ws C T N, w ∈ Ts) (ty0 : Nat → FieldType) (hty : ∀ k, k < N → parseFieldDescriptor (T k).2.2.1 = some (ty0 k)) (hnm : ∀ a, a < N → ∀ b, b < N → a ≠ b → (T a).2.1 ≠ (T b).2.1) (hown : s.vm.findClass own = some m.cls) (hK : va_K D vwCl tys s) (hP : xR σ h0 D A h H) (hS0 : va_S A H0 H locs) (hc : vwCl[ci]? = some (C, T, N)) (hσ : ∀ fs, σ (.inr (ci, fs))) (k : Nat) (hk : k < N) (hlink : (Cond.fieldLink own index ref (T k).2.1 (T k).2.2.1).before args s = true) (hsame : ∀ x, s.fieldFound? (T k).1 (T k).2.1 (T k).2.2.1 = some x → s.fieldFound? ref (T k).2.1 (T k).2.2.1 = some x) (hfin : (T k).2.2.2 = false) {v : Option Nat} {C9 : String} (hd : parseFieldDescriptor (T k).2.2.1 = some (.object C9)) {Kw : xw → Prop} (hw : wpF h a ci k (va_rf v) Kw) (hdg : decode cc pc = .ok (.putfield index, 3))
    (kk : ∀ (h' : xw) (H1 : Heap) (locs1 : List Loc), Kw h' → xR σ h0 D A h' H1 → va_S A H0 H1 locs1 → W p l e R s m args below meth c H1 locs1 cells slots Q (F0 m (pc + 3) ls rest)) : W p l e R s m args below meth c H locs cells slots Q (F0 m pc ls (va_rf v :: .ref a :: rest)) := xputV hexec hb hts hin ty0 hty hnm hown hK hP hS0 hc hσ k hk hlink hsame hfin hd (xnar _ _) (by cases v <;> rfl) hw hdg kk
theorem xputQ (hexec : p.tables.exec = Jvm.exec) (hb : c.code = cc) {own ref C : String} {T : u_T} {N ci index : Nat} {Ts : List Cond} (hts : ∀ w ∈ Ts, w.before args s = true) (hin : ∀ w ∈ u_ws C T N, w ∈ Ts) (ty0 : Nat → FieldType) (hty : ∀ k, k < N → parseFieldDescriptor (T k).2.2.1 = some (ty0 k)) (hnm : ∀ a, a < N → ∀ b, b < N → a ≠ b → (T a).2.1 ≠ (T b).2.1) (hown : s.vm.findClass own = some m.cls) (hK : va_K D vwCl tys s) (hP : xR σ h0 D A h H) (hS0 : va_S A H0 H locs) (hc : vwCl[ci]? = some (C, T, N)) (hσ : ∀ fs, σ (.inr (ci, fs))) (k : Nat) (hk : k < N) (hlink : (Cond.fieldLink own index ref (T k).2.1 (T k).2.2.1).before args s = true) (hsame : ∀ x, s.fieldFound? (T k).1 (T k).2.1 (T k).2.2.1 = some x → s.fieldFound? ref (T k).2.1 (T k).2.2.1 = some x) (hfin : (T k).2.2.2 = false) {v : Option Nat} {t9 : FieldType} (hd : parseFieldDescriptor (T k).2.2.1 = some (.array t9)) {Kw : xw → Prop} (hw : wpF h a ci k (va_rf v) Kw) (hdg : decode cc pc = .ok (.putfield index, 3))
    (kk : ∀ (h' : xw) (H1 : Heap) (locs1 : List Loc), Kw h' → xR σ h0 D A h' H1 → va_S A H0 H1 locs1 → W p l e R s m args below meth c H1 locs1 cells slots Q (F0 m (pc + 3) ls rest)) : W p l e R s m args below meth c H locs cells slots Q (F0 m pc ls (va_rf v :: .ref a :: rest)) := xputV hexec hb hts hin ty0 hty hnm hown hK hP hS0 hc hσ k hk hlink hsame hfin hd (by cases v <;> rfl) (by cases v <;> rfl) hw hdg kk
theorem xputZ (hexec : p.tables.exec = Jvm.exec) (hb : c.code = cc) {own ref C : String} {T : u_T} {N ci index : Nat} {Ts : List Cond} (hts : ∀ w ∈ Ts, w.before args s = true) (hin : ∀ w ∈ u_ws C T N, w ∈ Ts) (ty0 : Nat → FieldType) (hty : ∀ k, k < N → parseFieldDescriptor (T k).2.2.1 = some (ty0 k)) (hnm : ∀ a, a < N → ∀ b, b < N → a ≠ b → (T a).2.1 ≠ (T b).2.1) (hown : s.vm.findClass own = some m.cls) (hK : va_K D vwCl tys s) (hP : xR σ h0 D A h H) (hS0 : va_S A H0 H locs) (hc : vwCl[ci]? = some (C, T, N)) (hσ : ∀ fs, σ (.inr (ci, fs))) (k : Nat) (hk : k < N) (hlink : (Cond.fieldLink own index ref (T k).2.1 (T k).2.2.1).before args s = true) (hsame : ∀ x, s.fieldFound? (T k).1 (T k).2.1 (T k).2.2.1 = some x → s.fieldFound? ref (T k).2.1 (T k).2.2.1 = some x) (hfin : (T k).2.2.2 = false) {v : Int32} (hd : parseFieldDescriptor (T k).2.2.1 = some .boolean) {Kw : xw → Prop} (hw : wpZ h a ci k v Kw) (hdg : decode cc pc = .ok (.putfield index, 3))
    (kk : ∀ (h' : xw) (H1 : Heap) (locs1 : List Loc), Kw h' → xR σ h0 D A h' H1 → va_S A H0 H1 locs1 → W p l e R s m args below meth c H1 locs1 cells slots Q (F0 m (pc + 3) ls rest)) : W p l e R s m args below meth c H locs cells slots Q (F0 m pc ls (.int v :: .ref a :: rest)) := by
  obtain ⟨hv, hw⟩ := hw
  rcases hv with rfl | rfl
  · exact xputV hexec hb hts hin ty0 hty hnm hown hK hP hS0 hc hσ k hk hlink hsame hfin hd rfl rfl hw hdg kk
  · exact xputV hexec hb hts hin ty0 hty hnm hown hK hP hS0 hc hσ k hk hlink hsame hfin hd rfl rfl hw hdg kk
theorem xputFI (hexec : p.tables.exec = Jvm.exec) (hb : c.code = cc) {own ref C : String} {T : u_T} {N ci index : Nat} {Ts : List Cond} (hts : ∀ w ∈ Ts, w.before args s = true) (hin : ∀ w ∈ u_ws C T N, w ∈ Ts) (ty0 : Nat → FieldType) (hty : ∀ k, k < N → parseFieldDescriptor (T k).2.2.1 = some (ty0 k)) (hnm : ∀ a, a < N → ∀ b, b < N → a ≠ b → (T a).2.1 ≠ (T b).2.1) (hown : s.vm.findClass own = some m.cls) (hK : va_K D vwCl tys s) (hP : xR σ h0 D A h H) (hS0 : va_S A H0 H locs) (hc : vwCl[ci]? = some (C, T, N)) (hσ : ∀ fs, σ (.inr (ci, fs))) (k : Nat) (hk : k < N) (hlink : (Cond.fieldLink own index ref (T k).2.1 (T k).2.2.1).before args s = true) (hsame : ∀ x, s.fieldFound? (T k).1 (T k).2.1 (T k).2.2.1 = some x → s.fieldFound? ref (T k).2.1 (T k).2.2.1 = some x) (hfin : (T k).2.2.2 = true) (hin2 : meth.name = "<init>") (hdecl : (T k).1 = own) {v : Int32} (hd : parseFieldDescriptor (T k).2.2.1 = some .int) {Kw : xw → Prop} (hw : wpF h a ci k (.int v) Kw) (hdg : decode cc pc = .ok (.putfield index, 3))
    (kk : ∀ (h' : xw) (H1 : Heap) (locs1 : List Loc), Kw h' → xR σ h0 D A h' H1 → va_S A H0 H1 locs1 → W p l e R s m args below meth c H1 locs1 cells slots Q (F0 m (pc + 3) ls rest)) : W p l e R s m args below meth c H locs cells slots Q (F0 m pc ls (.int v :: .ref a :: rest)) := xputFV hexec hb hts hin ty0 hty hnm hown hK hP hS0 hc hσ k hk hlink hsame hfin hin2 hdecl hd rfl rfl hw hdg kk
theorem xputFL (hexec : p.tables.exec = Jvm.exec) (hb : c.code = cc) {own ref C : String} {T : u_T} {N ci index : Nat} {Ts : List Cond} (hts : ∀ w ∈ Ts, w.before args s = true) (hin : ∀ w ∈ u_ws C T N, w ∈ Ts) (ty0 : Nat → FieldType) (hty : ∀ k, k < N → parseFieldDescriptor (T k).2.2.1 = some (ty0 k)) (hnm : ∀ a, a < N → ∀ b, b < N → a ≠ b → (T a).2.1 ≠ (T b).2.1) (hown : s.vm.findClass own = some m.cls) (hK : va_K D vwCl tys s) (hP : xR σ h0 D A h H) (hS0 : va_S A H0 H locs) (hc : vwCl[ci]? = some (C, T, N)) (hσ : ∀ fs, σ (.inr (ci, fs))) (k : Nat) (hk : k < N) (hlink : (Cond.fieldLink own index ref (T k).2.1 (T k).2.2.1).before args s = true) (hsame : ∀ x, s.fieldFound? (T k).1 (T k).2.1 (T k).2.2.1 = some x → s.fieldFound? ref (T k).2.1 (T k).2.2.1 = some x) (hfin : (T k).2.2.2 = true) (hin2 : meth.name = "<init>") (hdecl : (T k).1 = own) {v : Int64} (hd : parseFieldDescriptor (T k).2.2.1 = some .long) {Kw : xw → Prop} (hw : wpF h a ci k (.long v) Kw) (hdg : decode cc pc = .ok (.putfield index, 3))
    (kk : ∀ (h' : xw) (H1 : Heap) (locs1 : List Loc), Kw h' → xR σ h0 D A h' H1 → va_S A H0 H1 locs1 → W p l e R s m args below meth c H1 locs1 cells slots Q (F0 m (pc + 3) ls rest)) : W p l e R s m args below meth c H locs cells slots Q (F0 m pc ls (.long v :: .ref a :: rest)) := xputFV hexec hb hts hin ty0 hty hnm hown hK hP hS0 hc hσ k hk hlink hsame hfin hin2 hdecl hd rfl rfl hw hdg kk
theorem xputFA (hexec : p.tables.exec = Jvm.exec) (hb : c.code = cc) {own ref C : String} {T : u_T} {N ci index : Nat} {Ts : List Cond} (hts : ∀ w ∈ Ts, w.before args s = true) (hin : ∀ w ∈ u_ws C T N, w ∈ Ts) (ty0 : Nat → FieldType) (hty : ∀ k, k < N → parseFieldDescriptor (T k).2.2.1 = some (ty0 k)) (hnm : ∀ a, a < N → ∀ b, b < N → a ≠ b → (T a).2.1 ≠ (T b).2.1) (hown : s.vm.findClass own = some m.cls) (hK : va_K D vwCl tys s) (hP : xR σ h0 D A h H) (hS0 : va_S A H0 H locs) (hc : vwCl[ci]? = some (C, T, N)) (hσ : ∀ fs, σ (.inr (ci, fs))) (k : Nat) (hk : k < N) (hlink : (Cond.fieldLink own index ref (T k).2.1 (T k).2.2.1).before args s = true) (hsame : ∀ x, s.fieldFound? (T k).1 (T k).2.1 (T k).2.2.1 = some x → s.fieldFound? ref (T k).2.1 (T k).2.2.1 = some x) (hfin : (T k).2.2.2 = true) (hin2 : meth.name = "<init>") (hdecl : (T k).1 = own) {v : Option Nat} {C9 : String} (hd : parseFieldDescriptor (T k).2.2.1 = some (.object C9)) {Kw : xw → Prop} (hw : wpF h a ci k (va_rf v) Kw) (hdg : decode cc pc = .ok (.putfield index, 3))
    (kk : ∀ (h' : xw) (H1 : Heap) (locs1 : List Loc), Kw h' → xR σ h0 D A h' H1 → va_S A H0 H1 locs1 → W p l e R s m args below meth c H1 locs1 cells slots Q (F0 m (pc + 3) ls rest)) : W p l e R s m args below meth c H locs cells slots Q (F0 m pc ls (va_rf v :: .ref a :: rest)) := xputFV hexec hb hts hin ty0 hty hnm hown hK hP hS0 hc hσ k hk hlink hsame hfin hin2 hdecl hd (xnar _ _) (by cases v <;> rfl) hw hdg kk
theorem xputFQ (hexec : p.tables.exec = Jvm.exec) (hb : c.code = cc) {own ref C : String} {T : u_T} {N ci index : Nat} {Ts : List Cond} (hts : ∀ w ∈ Ts, w.before args s = true) (hin : ∀ w ∈ u_ws C T N, w ∈ Ts) (ty0 : Nat → FieldType) (hty : ∀ k, k < N → parseFieldDescriptor (T k).2.2.1 = some (ty0 k)) (hnm : ∀ a, a < N → ∀ b, b < N → a ≠ b → (T a).2.1 ≠ (T b).2.1) (hown : s.vm.findClass own = some m.cls) (hK : va_K D vwCl tys s) (hP : xR σ h0 D A h H) (hS0 : va_S A H0 H locs) (hc : vwCl[ci]? = some (C, T, N)) (hσ : ∀ fs, σ (.inr (ci, fs))) (k : Nat) (hk : k < N) (hlink : (Cond.fieldLink own index ref (T k).2.1 (T k).2.2.1).before args s = true) (hsame : ∀ x, s.fieldFound? (T k).1 (T k).2.1 (T k).2.2.1 = some x → s.fieldFound? ref (T k).2.1 (T k).2.2.1 = some x) (hfin : (T k).2.2.2 = true) (hin2 : meth.name = "<init>") (hdecl : (T k).1 = own) {v : Option Nat} {t9 : FieldType} (hd : parseFieldDescriptor (T k).2.2.1 = some (.array t9)) {Kw : xw → Prop} (hw : wpF h a ci k (va_rf v) Kw) (hdg : decode cc pc = .ok (.putfield index, 3))
    (kk : ∀ (h' : xw) (H1 : Heap) (locs1 : List Loc), Kw h' → xR σ h0 D A h' H1 → va_S A H0 H1 locs1 → W p l e R s m args below meth c H1 locs1 cells slots Q (F0 m (pc + 3) ls rest)) : W p l e R s m args below meth c H locs cells slots Q (F0 m pc ls (va_rf v :: .ref a :: rest)) := xputFV hexec hb hts hin ty0 hty hnm hown hK hP hS0 hc hσ k hk hlink hsame hfin hin2 hdecl hd (by cases v <;> rfl) (by cases v <;> rfl) hw hdg kk
theorem xputFZ (hexec : p.tables.exec = Jvm.exec) (hb : c.code = cc) {own ref C : String} {T : u_T} {N ci index : Nat} {Ts : List Cond} (hts : ∀ w ∈ Ts, w.before args s = true) (hin : ∀ w ∈ u_ws C T N, w ∈ Ts) (ty0 : Nat → FieldType) (hty : ∀ k, k < N → parseFieldDescriptor (T k).2.2.1 = some (ty0 k)) (hnm : ∀ a, a < N → ∀ b, b < N → a ≠ b → (T a).2.1 ≠ (T b).2.1) (hown : s.vm.findClass own = some m.cls) (hK : va_K D vwCl tys s) (hP : xR σ h0 D A h H) (hS0 : va_S A H0 H locs) (hc : vwCl[ci]? = some (C, T, N)) (hσ : ∀ fs, σ (.inr (ci, fs))) (k : Nat) (hk : k < N) (hlink : (Cond.fieldLink own index ref (T k).2.1 (T k).2.2.1).before args s = true) (hsame : ∀ x, s.fieldFound? (T k).1 (T k).2.1 (T k).2.2.1 = some x → s.fieldFound? ref (T k).2.1 (T k).2.2.1 = some x) (hfin : (T k).2.2.2 = true) (hin2 : meth.name = "<init>") (hdecl : (T k).1 = own) {v : Int32} (hd : parseFieldDescriptor (T k).2.2.1 = some .boolean) {Kw : xw → Prop} (hw : wpZ h a ci k v Kw) (hdg : decode cc pc = .ok (.putfield index, 3))
    (kk : ∀ (h' : xw) (H1 : Heap) (locs1 : List Loc), Kw h' → xR σ h0 D A h' H1 → va_S A H0 H1 locs1 → W p l e R s m args below meth c H1 locs1 cells slots Q (F0 m (pc + 3) ls rest)) : W p l e R s m args below meth c H locs cells slots Q (F0 m pc ls (.int v :: .ref a :: rest)) := by
  obtain ⟨hv, hw⟩ := hw
  rcases hv with rfl | rfl
  · exact xputFV hexec hb hts hin ty0 hty hnm hown hK hP hS0 hc hσ k hk hlink hsame hfin hin2 hdecl hd rfl rfl hw hdg kk
  · exact xputFV hexec hb hts hin ty0 hty hnm hown hK hP hS0 hc hσ k hk hlink hsame hfin hin2 hdecl hd rfl rfl hw hdg kk
/-- arrays -/
theorem TYS_at {t0 : Nat} {ty : FieldType} (ht : xtys[t0]? = some ty) : (TYS d)[t0]? = some (d t0, ty) := by
  simp [TYS, ht]
theorem xlen (hexec : p.tables.exec = Jvm.exec) (hb : c.code = cc) (hK : va_K D vwCl (TYS d) s) (hP : xR σ h0 D A h H) (t0 : Nat) {ty : FieldType} (ht : xtys[t0]? = some ty) {Kw : Int32 → Prop} (hw : wlen h a (d t0) Kw) (hdg : decode cc pc = .ok (.arraylength, 1))
    (kk : ∀ v, Kw v → W p l e R s m args below meth c H locs cells slots Q (F0 m (pc + 1) ls (.int v :: rest))) : W p l e R s m args below meth c H locs cells slots Q (F0 m pc ls (.ref a :: rest)) := by
  obtain ⟨x, h1, h2⟩ := hw
  obtain ⟨⟨L, f, q1, q2, q3⟩, hF⟩ := id hP
  obtain ⟨hm, hf⟩ := q1 a _ h1
  obtain ⟨k0, hk0⟩ := xpl_get (f := f) hm
  rw [hf] at hk0
  exact va_alen hexec hb hK q2 k0 t0 hk0 (TYS_at ht) rfl hdg (kk _ h2)
theorem xldq (hexec : p.tables.exec = Jvm.exec) (hb : c.code = cc) (hK : va_K D vwCl (TYS d) s) (hP : xR σ h0 D A h H) (t0 : Nat) {C : String} (ht : xtys[t0]? = some (.object C)) {i : Int32} {Kw : Option Nat → Prop} (hw : wldq h a (d t0) i Kw) (hdg : decode cc pc = .ok (.aaload, 1))
    (kk : ∀ v, Kw v → W p l e R s m args below meth c H locs cells slots Q (F0 m (pc + 1) ls (va_rf v :: rest))) : W p l e R s m args below meth c H locs cells slots Q (F0 m pc ls (.int i :: .ref a :: rest)) := by
  obtain ⟨n, g, h1, h2, h3⟩ := hw
  obtain ⟨⟨L, f, q1, q2, q3⟩, hF⟩ := id hP
  obtain ⟨hm, hf⟩ := q1 a _ h1
  obtain ⟨k0, hk0⟩ := xpl_get (f := f) hm
  rw [hf] at hk0
  exact va_aldq hexec hb hK q2 k0 t0 hk0 (TYS_at ht) h2 hdg (kk _ h3)
theorem xldi (hexec : p.tables.exec = Jvm.exec) (hb : c.code = cc) (hK : va_K D vwCl (TYS d) s) (hP : xR σ h0 D A h H) (t0 : Nat) (ht : xtys[t0]? = some .int) {i : Int32} {Kw : Int32 → Prop} (hw : wldi h a (d t0) i Kw) (hdg : decode cc pc = .ok (.iaload, 1))
    (kk : ∀ v, Kw v → W p l e R s m args below meth c H locs cells slots Q (F0 m (pc + 1) ls (.int v :: rest))) : W p l e R s m args below meth c H locs cells slots Q (F0 m pc ls (.int i :: .ref a :: rest)) := by
  obtain ⟨n, g, h1, h2, h3⟩ := hw
  obtain ⟨⟨L, f, q1, q2, q3⟩, hF⟩ := id hP
  obtain ⟨hm, hf⟩ := q1 a _ h1
  obtain ⟨k0, hk0⟩ := xpl_get (f := f) hm
  rw [hf] at hk0
  exact va_iald hexec hb hK q2 k0 t0 hk0 (TYS_at ht) h2 hdg (kk _ h3)
theorem xldz (hexec : p.tables.exec = Jvm.exec) (hb : c.code = cc) (hK : va_K D vwCl (TYS d) s) (hP : xR σ h0 D A h H) (t0 : Nat) (ht : xtys[t0]? = some .boolean) {i : Int32} {Kw : Int32 → Prop} (hw : wldi h a (d t0) i Kw) (hdg : decode cc pc = .ok (.baload, 1))
    (kk : ∀ v, Kw v → W p l e R s m args below meth c H locs cells slots Q (F0 m (pc + 1) ls (.int v :: rest))) : W p l e R s m args below meth c H locs cells slots Q (F0 m pc ls (.int i :: .ref a :: rest)) := by
  obtain ⟨n, g, h1, h2, h3⟩ := hw
  obtain ⟨⟨L, f, q1, q2, q3⟩, hF⟩ := id hP
  obtain ⟨hm, hf⟩ := q1 a _ h1
  obtain ⟨k0, hk0⟩ := xpl_get (f := f) hm
  rw [hf] at hk0
  exact va_zald hexec hb hK q2 k0 t0 hk0 (TYS_at ht) h2 hdg (kk _ h3)
theorem xldl (hexec : p.tables.exec = Jvm.exec) (hb : c.code = cc) (hK : va_K D vwCl (TYS d) s) (hP : xR σ h0 D A h H) (t0 : Nat) (ht : xtys[t0]? = some .long) {i : Int32} {Kw : Int64 → Prop} (hw : wldl h a (d t0) i Kw) (hdg : decode cc pc = .ok (.laload, 1))
    (kk : ∀ v, Kw v → W p l e R s m args below meth c H locs cells slots Q (F0 m (pc + 1) ls (.long v :: rest))) : W p l e R s m args below meth c H locs cells slots Q (F0 m pc ls (.int i :: .ref a :: rest)) := by
  obtain ⟨n, g, h1, h2, h3⟩ := hw
  obtain ⟨⟨L, f, q1, q2, q3⟩, hF⟩ := id hP
  obtain ⟨hm, hf⟩ := q1 a _ h1
  obtain ⟨k0, hk0⟩ := xpl_get (f := f) hm
  rw [hf] at hk0
  exact va_lald hexec hb hK q2 k0 t0 hk0 (TYS_at ht) h2 hdg (kk _ h3)
theorem xsti (hexec : p.tables.exec = Jvm.exec) (hb : c.code = cc) (hK : va_K D vwCl (TYS d) s) (hP : xR σ h0 D A h H) (hS : va_S A H0 H locs) (t0 : Nat) (ht : xtys[t0]? = some .int) {i x : Int32} (hσ : ∀ n g, σ (xai (d t0) n g)) {Kw : xw → Prop} (hw : wsti h a (d t0) i x Kw) (hdg : decode cc pc = .ok (.iastore, 1))
    (kk : ∀ (h' : xw) (H1 : Heap) (locs1 : List Loc), Kw h' → xR σ h0 D A h' H1 → va_S A H0 H1 locs1 → W p l e R s m args below meth c H1 locs1 cells slots Q (F0 m (pc + 1) ls rest)) : W p l e R s m args below meth c H locs cells slots Q (F0 m pc ls (.int x :: .int i :: .ref a :: rest)) := by
  obtain ⟨n, g, h1, h2, h3⟩ := hw
  obtain ⟨⟨L, f, q1, q2, q3⟩, hF⟩ := id hP
  obtain ⟨hm, hf⟩ := q1 a _ h1
  obtain ⟨k0, hk0⟩ := xpl_get (f := f) hm
  rw [hf] at hk0
  exact va_iast hexec hb hK q2 q3 hS k0 t0 hk0 (TYS_at ht) h2 hdg (fun H1 locs1 hP1 hD1 hS1 => kk _ H1 locs1 h3 ⟨xP_set q1 q3 h1 hk0 hP1 hD1, hF.set h1 (hσ _ _)⟩ hS1)
theorem xstz (hexec : p.tables.exec = Jvm.exec) (hb : c.code = cc) (hK : va_K D vwCl (TYS d) s) (hP : xR σ h0 D A h H) (hS : va_S A H0 H locs) (t0 : Nat) (ht : xtys[t0]? = some .boolean) {i x : Int32} (hσ : ∀ n g, σ (xai (d t0) n g)) {Kw : xw → Prop} (hw : wstz h a (d t0) i x Kw) (hdg : decode cc pc = .ok (.bastore, 1))
    (kk : ∀ (h' : xw) (H1 : Heap) (locs1 : List Loc), Kw h' → xR σ h0 D A h' H1 → va_S A H0 H1 locs1 → W p l e R s m args below meth c H1 locs1 cells slots Q (F0 m (pc + 1) ls rest)) : W p l e R s m args below meth c H locs cells slots Q (F0 m pc ls (.int x :: .int i :: .ref a :: rest)) := by
  obtain ⟨hx01, n, g, h1, h2, h3⟩ := hw
  have hnar : vp_nar .boolean x = x := by rcases hx01 with rfl | rfl <;> rfl
  obtain ⟨⟨L, f, q1, q2, q3⟩, hF⟩ := id hP
  obtain ⟨hm, hf⟩ := q1 a _ h1
  obtain ⟨k0, hk0⟩ := xpl_get (f := f) hm
  rw [hf] at hk0
  exact va_zast hexec hb hK q2 q3 hS k0 t0 hk0 (TYS_at ht) h2 hdg (fun H1 locs1 hP1 hD1 hS1 => by
    rw [hnar] at hP1 hD1
    exact kk _ H1 locs1 h3 ⟨xP_set q1 q3 h1 hk0 hP1 hD1, hF.set h1 (hσ _ _)⟩ hS1)
theorem xstl (hexec : p.tables.exec = Jvm.exec) (hb : c.code = cc) (hK : va_K D vwCl (TYS d) s) (hP : xR σ h0 D A h H) (hS : va_S A H0 H locs) (t0 : Nat) (ht : xtys[t0]? = some .long) {i : Int32} {x : Int64} (hσ : ∀ n g, σ (xal (d t0) n g)) {Kw : xw → Prop} (hw : wstl h a (d t0) i x Kw) (hdg : decode cc pc = .ok (.lastore, 1))
    (kk : ∀ (h' : xw) (H1 : Heap) (locs1 : List Loc), Kw h' → xR σ h0 D A h' H1 → va_S A H0 H1 locs1 → W p l e R s m args below meth c H1 locs1 cells slots Q (F0 m (pc + 1) ls rest)) : W p l e R s m args below meth c H locs cells slots Q (F0 m pc ls (.long x :: .int i :: .ref a :: rest)) := by
  obtain ⟨n, g, h1, h2, h3⟩ := hw
  obtain ⟨⟨L, f, q1, q2, q3⟩, hF⟩ := id hP
  obtain ⟨hm, hf⟩ := q1 a _ h1
  obtain ⟨k0, hk0⟩ := xpl_get (f := f) hm
  rw [hf] at hk0
  exact va_last hexec hb hK q2 q3 hS k0 t0 hk0 (TYS_at ht) h2 hdg (fun H1 locs1 hP1 hD1 hS1 => kk _ H1 locs1 h3 ⟨xP_set q1 q3 h1 hk0 hP1 hD1, hF.set h1 (hσ _ _)⟩ hS1)
theorem xstq (hexec : p.tables.exec = Jvm.exec) (hb : c.code = cc) (hK : va_K D vwCl (TYS d) s) (hP : xR σ h0 D A h H) (hS : va_S A H0 H locs) (t0 : Nat) {r : vw_C} (ht : xtys[t0]? = some (.object r.1)) {ci : Nat} (hc : vwCl[ci]? = some r) {i : Int32} {x : Option Nat} (hσ : ∀ n g, σ (xaq (d t0) n g)) {Kw : xw → Prop} (hw : wstq h a (d t0) ci i x Kw) (hdg : decode cc pc = .ok (.aastore, 1))
    (kk : ∀ (h' : xw) (H1 : Heap) (locs1 : List Loc), Kw h' → xR σ h0 D A h' H1 → va_S A H0 H1 locs1 → W p l e R s m args below meth c H1 locs1 cells slots Q (F0 m (pc + 1) ls rest)) : W p l e R s m args below meth c H locs cells slots Q (F0 m pc ls (va_rf x :: .int i :: .ref a :: rest)) := by
  obtain ⟨n, g, h1, h2, hx, h3⟩ := hw
  obtain ⟨⟨L, f, q1, q2, q3⟩, hF⟩ := id hP
  obtain ⟨hm, hf⟩ := q1 a _ h1
  obtain ⟨k0, hk0⟩ := xpl_get (f := f) hm
  rw [hf] at hk0
  cases x with
  | none => exact va_astqN hexec hb hK q2 q3 hS k0 t0 hk0 (TYS_at ht) h2 hdg (fun H1 locs1 hP1 hD1 hS1 => kk _ H1 locs1 h3 ⟨xP_set q1 q3 h1 hk0 hP1 hD1, hF.set h1 (hσ _ _)⟩ hS1)
  | some b =>
    obtain ⟨vs, hv⟩ := hx b rfl
    obtain ⟨hm2, hf2⟩ := q1 b _ hv
    obtain ⟨k2, hk2⟩ := xpl_get (f := f) hm2
    rw [hf2] at hk2
    exact va_astq hexec hb hK q2 q3 hS k0 t0 k2 ci hk0 (TYS_at ht) hk2 hc h2 hdg (fun H1 locs1 hP1 hD1 hS1 => kk _ H1 locs1 h3 ⟨xP_set q1 q3 h1 hk0 hP1 hD1, hF.set h1 (hσ _ _)⟩ hS1)
/-- makings -/
theorem xnew (hexec : p.tables.exec = Jvm.exec) (hb : c.code = cc) {own C : String} {T : u_T} {N ci index : Nat} {Ts : List Cond} (hts : ∀ w ∈ Ts, w.before args s = true) (hin : ∀ w ∈ u_ws C T N, w ∈ Ts) (ty : Nat → FieldType) (hty : ∀ k, k < N → parseFieldDescriptor (T k).2.2.1 = some (ty k)) (hown : s.vm.findClass own = some m.cls) (hcl : (Cond.classLink own index C).before args s = true) (hinst : (Cond.instantiable C N).before args s = true) (hini : (Cond.initialized C).before args s = true)
    (hK : va_K D vwCl tys s) (hP : xR σ h0 D A h H) (hS : va_S A H0 H locs) (hA : ∀ q, H0.size ≤ q → A q) (hc : vwCl[ci]? = some (C, T, N)) {fs : List Value} (hfs : ∀ j, j < N → defaultValue (ty j) = vp_V fs j) (hcells : cells + 1 ≤ R.cells) (hslots : slots + N ≤ R.slots) {Kw : Nat → xw → Prop} (hw : wnew h (.inr (ci, fs)) Kw) (hdg : decode cc pc = .ok (.new index, 3))
    (kk : ∀ (q : Nat) (h' : xw) (H1 : Heap), Kw q h' → xR σ h0 D A h' H1 → va_S A H0 H1 locs → W p l e R s m args below meth c H1 locs (cells + 1) (slots + N) Q (F0 m (pc + 3) ls (.ref q :: rest))) : W p l e R s m args below meth c H locs cells slots Q (F0 m pc ls rest) := by
  obtain ⟨⟨L, f, q1, q2, q3⟩, hF⟩ := id hP
  exact va_new hexec hb hts hin ty hty hown hcl hinst hini hK q2 q3 hS hA hc hfs hcells hslots hdg (fun q H1 hP1 hD1 hS1 => by
    obtain ⟨e1, e2⟩ := xP_push q1 hP1 hD1
    exact kk q _ H1 (hw q e1) ⟨e2, hF.push e1⟩ hS1)
theorem xnewq (hexec : p.tables.exec = Jvm.exec) (hb : c.code = cc) {own C : String} {index B : Nat} (hown : s.vm.findClass own = some m.cls) (hclink : (Cond.classLink own index C).before args s = true) (hover : va_AO C s) (hK : va_K D vwCl (TYS d) s) (hP : xR σ h0 D A h H) (hS : va_S A H0 H locs) (hA : ∀ q, H0.size ≤ q → A q)
    (t0 : Nat) (ht : xtys[t0]? = some (.object C)) {n : Int32} (hB : B * 4 ≤ 536870912) (hcells : cells + 1 ≤ R.cells) (hslots : slots + B ≤ R.slots) {Kw : Nat → xw → Prop} (hw : wnewA h B n (fun n => xaq (d t0) n (fun _ => none)) Kw) (hdg : decode cc pc = .ok (.anewarray index, 3))
    (kk : ∀ (q : Nat) (h' : xw) (H1 : Heap), Kw q h' → xR σ h0 D A h' H1 → va_S A H0 H1 locs → W p l e R s m args below meth c H1 locs (cells + 1) (slots + B) Q (F0 m (pc + 3) ls (.ref q :: rest))) : W p l e R s m args below meth c H locs cells slots Q (F0 m pc ls (.int n :: rest)) := by
  obtain ⟨hn, hle, hw⟩ := hw
  obtain ⟨⟨L, f, q1, q2, q3⟩, hF⟩ := id hP
  refine va_newq hexec hb hown hclink hover hK q2 q3 hS hA hn rfl (by omega) hcells (by omega) hdg (fun q cA H1 hK1 hP1 hD1 hS1 => ?_)
  have e9 : cA = d t0 := by
    have a1 := (hK.2 t0 _ (TYS_at ht)).2
    have a2 := (hK1.2 (TYS d).length (cA, .object C) (by simp)).2
    obtain ⟨_, _, _, _, _, b1⟩ := a1
    obtain ⟨_, _, _, _, _, b2⟩ := a2
    exact Option.some.inj (b2.symm.trans b1)
  subst e9
  obtain ⟨e1, e2⟩ := xP_push q1 hP1 hD1
  exact W.widen (Nat.le_refl _) (by omega) (kk q _ H1 (hw q e1) ⟨e2, hF.push e1⟩ hS1)
theorem xnewi (hexec : p.tables.exec = Jvm.exec) (hb : c.code = cc) {B : Nat} (harr : (Cond.arrayClass .int).before args s = true) (hK : va_K D vwCl (TYS d) s) (hP : xR σ h0 D A h H) (hS : va_S A H0 H locs) (hA : ∀ q, H0.size ≤ q → A q)
    (t0 : Nat) (ht : xtys[t0]? = some .int) {n : Int32} (hB : B * 4 ≤ 536870912) (hcells : cells + 1 ≤ R.cells) (hslots : slots + B ≤ R.slots) {Kw : Nat → xw → Prop} (hw : wnewA h B n (fun n => xai (d t0) n (fun _ => 0)) Kw) (hdg : decode cc pc = .ok (.newarray .int, 2))
    (kk : ∀ (q : Nat) (h' : xw) (H1 : Heap), Kw q h' → xR σ h0 D A h' H1 → va_S A H0 H1 locs → W p l e R s m args below meth c H1 locs (cells + 1) (slots + B) Q (F0 m (pc + 2) ls (.ref q :: rest))) : W p l e R s m args below meth c H locs cells slots Q (F0 m pc ls (.int n :: rest)) := by
  obtain ⟨hn, hle, hw⟩ := hw
  obtain ⟨⟨L, f, q1, q2, q3⟩, hF⟩ := id hP
  refine va_newa (atype := .int) (ty := .int) (a0 := (n.toNatClampNeg, .inl (fun _ => 0))) hexec hb harr rfl hK q2 q3 hS hA (fun _ => rfl) hn rfl (by show n.toNatClampNeg * 4 ≤ _; omega) hcells (by omega) hdg (fun q cA H1 hK1 hP1 hD1 hS1 => ?_)
  have e9 : cA = d t0 := by
    have a1 := (hK.2 t0 _ (TYS_at ht)).2
    have a2 := (hK1.2 (TYS d).length (cA, .int) (by simp)).2
    exact Option.some.inj (a2.symm.trans a1)
  subst e9
  obtain ⟨e1, e2⟩ := xP_push q1 hP1 hD1
  exact W.widen (Nat.le_refl _) (by omega) (kk q _ H1 (hw q e1) ⟨e2, hF.push e1⟩ hS1)
theorem xnewz (hexec : p.tables.exec = Jvm.exec) (hb : c.code = cc) {B : Nat} (harr : (Cond.arrayClass .boolean).before args s = true) (hK : va_K D vwCl (TYS d) s) (hP : xR σ h0 D A h H) (hS : va_S A H0 H locs) (hA : ∀ q, H0.size ≤ q → A q)
    (t0 : Nat) (ht : xtys[t0]? = some .boolean) {n : Int32} (hB : B * 1 ≤ 536870912) (hcells : cells + 1 ≤ R.cells) (hslots : slots + B ≤ R.slots) {Kw : Nat → xw → Prop} (hw : wnewA h B n (fun n => xai (d t0) n (fun _ => 0)) Kw) (hdg : decode cc pc = .ok (.newarray .boolean, 2))
    (kk : ∀ (q : Nat) (h' : xw) (H1 : Heap), Kw q h' → xR σ h0 D A h' H1 → va_S A H0 H1 locs → W p l e R s m args below meth c H1 locs (cells + 1) (slots + B) Q (F0 m (pc + 2) ls (.ref q :: rest))) : W p l e R s m args below meth c H locs cells slots Q (F0 m pc ls (.int n :: rest)) := by
  obtain ⟨hn, hle, hw⟩ := hw
  obtain ⟨⟨L, f, q1, q2, q3⟩, hF⟩ := id hP
  refine va_newa (atype := .boolean) (ty := .boolean) (a0 := (n.toNatClampNeg, .inl (fun _ => 0))) hexec hb harr rfl hK q2 q3 hS hA (fun _ => rfl) hn rfl (by show n.toNatClampNeg * 1 ≤ _; omega) hcells (by omega) hdg (fun q cA H1 hK1 hP1 hD1 hS1 => ?_)
  have e9 : cA = d t0 := by
    have a1 := (hK.2 t0 _ (TYS_at ht)).2
    have a2 := (hK1.2 (TYS d).length (cA, .boolean) (by simp)).2
    exact Option.some.inj (a2.symm.trans a1)
  subst e9
  obtain ⟨e1, e2⟩ := xP_push q1 hP1 hD1
  exact W.widen (Nat.le_refl _) (by omega) (kk q _ H1 (hw q e1) ⟨e2, hF.push e1⟩ hS1)
theorem xnewl (hexec : p.tables.exec = Jvm.exec) (hb : c.code = cc) {B : Nat} (harr : (Cond.arrayClass .long).before args s = true) (hK : va_K D vwCl (TYS d) s) (hP : xR σ h0 D A h H) (hS : va_S A H0 H locs) (hA : ∀ q, H0.size ≤ q → A q)
    (t0 : Nat) (ht : xtys[t0]? = some .long) {n : Int32} (hB : B * 8 ≤ 536870912) (hcells : cells + 1 ≤ R.cells) (hslots : slots + B ≤ R.slots) {Kw : Nat → xw → Prop} (hw : wnewA h B n (fun n => xal (d t0) n (fun _ => 0)) Kw) (hdg : decode cc pc = .ok (.newarray .long, 2))
    (kk : ∀ (q : Nat) (h' : xw) (H1 : Heap), Kw q h' → xR σ h0 D A h' H1 → va_S A H0 H1 locs → W p l e R s m args below meth c H1 locs (cells + 1) (slots + B) Q (F0 m (pc + 2) ls (.ref q :: rest))) : W p l e R s m args below meth c H locs cells slots Q (F0 m pc ls (.int n :: rest)) := by
  obtain ⟨hn, hle, hw⟩ := hw
  obtain ⟨⟨L, f, q1, q2, q3⟩, hF⟩ := id hP
  refine va_newa (atype := .long) (ty := .long) (a0 := (n.toNatClampNeg, .inr (.inl (fun _ => 0)))) hexec hb harr rfl hK q2 q3 hS hA (fun _ => rfl) hn rfl (by show n.toNatClampNeg * 8 ≤ _; omega) hcells (by omega) hdg (fun q cA H1 hK1 hP1 hD1 hS1 => ?_)
  have e9 : cA = d t0 := by
    have a1 := (hK.2 t0 _ (TYS_at ht)).2
    have a2 := (hK1.2 (TYS d).length (cA, .long) (by simp)).2
    exact Option.some.inj (a2.symm.trans a1)
  subst e9
  obtain ⟨e1, e2⟩ := xP_push q1 hP1 hD1
  exact W.widen (Nat.le_refl _) (by omega) (kk q _ H1 (hw q e1) ⟨e2, hF.push e1⟩ hS1)
/-- what a method's body knows from its entry on -/
def xctx (p : Program) (s : State) (m : MethodId) (args : Array Value) (meth : Method) (c : Code) (cc : ByteArray) (nL : Nat) (ret : Option FieldType) (own : String) (D : va_G) (d : Nat → ClassId) (A : Nat → Prop) (XT : Prop) : Prop :=
  p.tables.exec = Jvm.exec ∧ c.code = cc ∧ meth.sig.returnType = ret ∧ c.maxLocals = nL ∧ s.vm.findClass own = some m.cls ∧ (∀ w ∈ TB, w.before args s = true) ∧ va_K D vwCl (TYS d) s ∧ (∀ q, s.heap.size ≤ q → A q) ∧ xN s ∧ meth.locks = false ∧ XT
variable {nL : Nat} {own : String} {XT : Prop}
theorem xretI (C0 : xctx p s m args meth c cc nL (some .int) own D d A XT) {Qf : Int32 → xw → Prop} {v : Int32} (hw : Qf v h) (hP : xR σ h0 D A h H) (hS : va_S A s.heap H locs) (hdg : decode cc pc = .ok (.ireturn, 1)) : W p l e R s m args below meth c H locs cells slots (MQ below (va_Qi (fun r u => Qf r u ∧ xfr σ h0 u) (xB D d A) A) args s cells slots A) (F0 m pc ls [.int v]) := by
  obtain ⟨hx, hb, hr, hml, hown, htb, hK, hA, hNB, hlocks, -⟩ := C0
  exact W.iret hx hb hr (fun t ht hW => ⟨⟨v, h, rfl, ⟨hw, hP.2⟩, by rw [ht]; exact hP.1, va_K.moved hW.alike hK⟩, hS.F ht⟩) hS.2.2 hdg hlocks
theorem xretZ (C0 : xctx p s m args meth c cc nL (some .boolean) own D d A XT) {Qf : Int32 → xw → Prop} {v : Int32} (hw : wZ v (Qf v h)) (hP : xR σ h0 D A h H) (hS : va_S A s.heap H locs) (hdg : decode cc pc = .ok (.ireturn, 1)) : W p l e R s m args below meth c H locs cells slots (MQ below (va_Qi (fun r u => Qf r u ∧ xfr σ h0 u) (xB D d A) A) args s cells slots A) (F0 m pc ls [.int v]) := by
  obtain ⟨hx, hb, hr, hml, hown, htb, hK, hA, hNB, hlocks, -⟩ := C0
  obtain ⟨hv, hw⟩ := hw
  exact W.zret hx hb hr (by rcases hv with rfl | rfl <;> rfl) (fun t ht hW => ⟨⟨v, h, rfl, ⟨hw, hP.2⟩, by rw [ht]; exact hP.1, va_K.moved hW.alike hK⟩, hS.F ht⟩) hS.2.2 hdg hlocks
theorem xretL (C0 : xctx p s m args meth c cc nL (some .long) own D d A XT) {Qf : Int64 → xw → Prop} {v : Int64} (hw : Qf v h) (hP : xR σ h0 D A h H) (hS : va_S A s.heap H locs) (hdg : decode cc pc = .ok (.lreturn, 1)) : W p l e R s m args below meth c H locs cells slots (MQ below (va_Ql (fun r u => Qf r u ∧ xfr σ h0 u) (xB D d A) A) args s cells slots A) (F0 m pc ls [.long v]) := by
  obtain ⟨hx, hb, hr, hml, hown, htb, hK, hA, hNB, hlocks, -⟩ := C0
  exact W.lret hx hb hr (fun t ht hW => ⟨⟨v, h, rfl, ⟨hw, hP.2⟩, by rw [ht]; exact hP.1, va_K.moved hW.alike hK⟩, hS.F ht⟩) hS.2.2 hdg hlocks
theorem xretV (C0 : xctx p s m args meth c cc nL none own D d A XT) {Qf : xw → Prop} (hw : Qf h) (hP : xR σ h0 D A h H) (hS : va_S A s.heap H locs) (hdg : decode cc pc = .ok (.return_, 1)) : W p l e R s m args below meth c H locs cells slots (MQ below (va_Qv (fun u => Qf u ∧ xfr σ h0 u) (xB D d A) A) args s cells slots A) (F0 m pc ls []) := by
  obtain ⟨hx, hb, hr, hml, hown, htb, hK, hA, hNB, hlocks, -⟩ := C0
  exact W.vret hx hb hr (fun t ht hW => ⟨⟨h, rfl, ⟨hw, hP.2⟩, by rw [ht]; exact hP.1, va_K.moved hW.alike hK⟩, hS.F ht⟩) hS.2.2 hdg hlocks
theorem xretA {C9 : String} (C0 : xctx p s m args meth c cc nL (some (.object C9)) own D d A XT) {Qf : Option Nat → xw → Prop} {v : Option Nat} (hw : Qf v h) (hP : xR σ h0 D A h H) (hS : va_S A s.heap H locs) (hdg : decode cc pc = .ok (.areturn, 1)) : W p l e R s m args below meth c H locs cells slots (MQ below (va_Qq (fun r u => Qf r u ∧ xfr σ h0 u) (xB D d A) A) args s cells slots A) (F0 m pc ls [va_rf v]) := by
  obtain ⟨hx, hb, hr, hml, hown, htb, hK, hA, hNB, hlocks, -⟩ := C0
  exact W.aret hx hb hr (Or.inl ⟨_, rfl⟩) (va_rf_or v) (fun t ht hW => ⟨⟨v, h, rfl, ⟨hw, hP.2⟩, by rw [ht]; exact hP.1, va_K.moved hW.alike hK⟩, hS.F ht⟩) hS.2.2 hdg hlocks
variable {mc ms : Nat} {st0 : List Value} {aa : Array Value}
theorem xcalli {Qf : Int32 → xw → Prop} (hr : va_Run p l e R s m args below meth c H locs cells slots mc ms (F0 m pc ls st0) rest (va_Qi (fun r u => Qf r u ∧ xfr σ h u) (xB D d (xA h H.size)) (xA h H.size) aa) (xA h H.size)) (hP : xR σ h0 D A h H) (hS : va_S A H0 H locs) (hA : ∀ q, H0.size ≤ q → A q)
    (kk : ∀ (r : Int32) (u : xw) (H1 : Heap) (locs1 : List Loc), Qf r u → xR σ h0 D A u H1 → va_S A H0 H1 locs1 → W p l e R s m args below meth c H1 locs1 (cells + mc) (slots + ms) Q (F0 m (pc + 3) ls (.int r :: rest))) : W p l e R s m args below meth c H locs cells slots Q (F0 m pc ls st0) := by
  have hsub := xA_sub hP.1 hS hA
  exact va_calli hr hS (fun q _ hq => hsub q hq) hsub (fun r u t H1 locs1 ht hvm hpost hB hz hk hS1 => kk r u H1 locs1 hpost.1 ⟨by rw [← ht]; exact hB.1.weaken hsub, hP.2.tr hpost.2⟩ hS1)
theorem xcalll {Qf : Int64 → xw → Prop} (hr : va_Run p l e R s m args below meth c H locs cells slots mc ms (F0 m pc ls st0) rest (va_Ql (fun r u => Qf r u ∧ xfr σ h u) (xB D d (xA h H.size)) (xA h H.size) aa) (xA h H.size)) (hP : xR σ h0 D A h H) (hS : va_S A H0 H locs) (hA : ∀ q, H0.size ≤ q → A q)
    (kk : ∀ (r : Int64) (u : xw) (H1 : Heap) (locs1 : List Loc), Qf r u → xR σ h0 D A u H1 → va_S A H0 H1 locs1 → W p l e R s m args below meth c H1 locs1 (cells + mc) (slots + ms) Q (F0 m (pc + 3) ls (.long r :: rest))) : W p l e R s m args below meth c H locs cells slots Q (F0 m pc ls st0) := by
  have hsub := xA_sub hP.1 hS hA
  exact va_calll hr hS (fun q _ hq => hsub q hq) hsub (fun r u t H1 locs1 ht hvm hpost hB hz hk hS1 => kk r u H1 locs1 hpost.1 ⟨by rw [← ht]; exact hB.1.weaken hsub, hP.2.tr hpost.2⟩ hS1)
theorem xcallq {Qf : Option Nat → xw → Prop} (hr : va_Run p l e R s m args below meth c H locs cells slots mc ms (F0 m pc ls st0) rest (va_Qq (fun r u => Qf r u ∧ xfr σ h u) (xB D d (xA h H.size)) (xA h H.size) aa) (xA h H.size)) (hP : xR σ h0 D A h H) (hS : va_S A H0 H locs) (hA : ∀ q, H0.size ≤ q → A q)
    (kk : ∀ (r : Option Nat) (u : xw) (H1 : Heap) (locs1 : List Loc), Qf r u → xR σ h0 D A u H1 → va_S A H0 H1 locs1 → W p l e R s m args below meth c H1 locs1 (cells + mc) (slots + ms) Q (F0 m (pc + 3) ls (va_rf r :: rest))) : W p l e R s m args below meth c H locs cells slots Q (F0 m pc ls st0) := by
  have hsub := xA_sub hP.1 hS hA
  exact va_callq hr hS (fun q _ hq => hsub q hq) hsub (fun r u t H1 locs1 ht hvm hpost hB hz hk hS1 => kk r u H1 locs1 hpost.1 ⟨by rw [← ht]; exact hB.1.weaken hsub, hP.2.tr hpost.2⟩ hS1)
theorem xcallv {Qf : xw → Prop} (hr : va_Run p l e R s m args below meth c H locs cells slots mc ms (F0 m pc ls st0) rest (va_Qv (fun u => Qf u ∧ xfr σ h u) (xB D d (xA h H.size)) (xA h H.size) aa) (xA h H.size)) (hP : xR σ h0 D A h H) (hS : va_S A H0 H locs) (hA : ∀ q, H0.size ≤ q → A q)
    (kk : ∀ (u : xw) (H1 : Heap) (locs1 : List Loc), Qf u → xR σ h0 D A u H1 → va_S A H0 H1 locs1 → W p l e R s m args below meth c H1 locs1 (cells + mc) (slots + ms) Q (F0 m (pc + 3) ls rest)) : W p l e R s m args below meth c H locs cells slots Q (F0 m pc ls st0) := by
  have hsub := xA_sub hP.1 hS hA
  exact va_callv hr hS (fun q _ hq => hsub q hq) hsub (fun u t H1 locs1 ht hvm hpost hB hz hk hS1 => kk u H1 locs1 hpost.1 ⟨by rw [← ht]; exact hB.1.weaken hsub, hP.2.tr hpost.2⟩ hS1)
theorem TB_in {w0 : Cond} (h0 : w0 ∈ TB) : GoodIn TB (w0 :: TB) := fun w hw => by
  rcases List.mem_cons.mp hw with rfl | hw
  · exact ⟨h0, TB_good _ h0⟩
  · exact ⟨hw, TB_good _ hw⟩
variable {C : String} {index maxL : Nat} {y : MethodName} {bytes : ByteArray} {ret : Option FieldType} {rm : Room}
theorem xcwV (n : Nat) (htb : ∀ w ∈ TB, w.before args s = true) (h1 : Cond.code y bytes maxL ret ∈ TB) (h2 : Cond.initialized y.cls ∈ TB) (h3 : Cond.methodLink own index y ∈ TB) (h4 : Cond.instanceMethod y ∈ TB) (h5 : Cond.selects C y y ∈ TB) (hrc : rm.cells = mc) (hrs : rm.slots = ms) (hd : y.cls ≠ "java/lang/invoke/MethodHandle" ∧ y.cls ≠ "java/lang/invoke/VarHandle" ∧ (parseMethodDescriptor y.desc).map (fun d => d.parameters.length) = some n) (hR : rm.frames + 1 ≤ R.frames ∧ 8 + (maxL + 11) + rm.locals ≤ R.locals) : CallW R s args own C index y bytes maxL ret (Cond.code y bytes maxL ret :: TB) rm mc ms n :=
  ⟨callB_of n htb (TB_in h1) rfl hrc hrs (htb _ h2) (htb _ h3) hd hR, htb _ h4, htb _ h5⟩
theorem xcwS (n : Nat) (htb : ∀ w ∈ TB, w.before args s = true) (h1 : Cond.code y bytes maxL ret ∈ TB) (h2 : Cond.initialized y.cls ∈ TB) (h3 : Cond.methodLink own index y ∈ TB) (h4 : Cond.static y ∈ TB) (hrc : rm.cells = mc) (hrs : rm.slots = ms) (hd : y.cls ≠ "java/lang/invoke/MethodHandle" ∧ y.cls ≠ "java/lang/invoke/VarHandle" ∧ (parseMethodDescriptor y.desc).map (fun d => d.parameters.length) = some n) (hR : rm.frames + 1 ≤ R.frames ∧ 8 + (maxL + 11) + rm.locals ≤ R.locals) : CallB R s args own index y bytes maxL ret (Cond.code y bytes maxL ret :: TB) rm mc ms n ∧ (Cond.static y).before args s = true :=
  ⟨callB_of n htb (TB_in h1) rfl hrc hrs (htb _ h2) (htb _ h3) hd hR, htb _ h4⟩
theorem xcwI (n : Nat) (htb : ∀ w ∈ TB, w.before args s = true) (h1 : Cond.code y bytes maxL none ∈ TB) (h2 : Cond.initialized y.cls ∈ TB) (h3 : Cond.methodLink own index y ∈ TB) (h4 : Cond.instanceMethod y ∈ TB) (hy : y.name = "<init>") (hrc : rm.cells = mc) (hrs : rm.slots = ms) (hd : y.cls ≠ "java/lang/invoke/MethodHandle" ∧ y.cls ≠ "java/lang/invoke/VarHandle" ∧ (parseMethodDescriptor y.desc).map (fun d => d.parameters.length) = some n) (hR : rm.frames + 1 ≤ R.frames ∧ 8 + (maxL + 11) + rm.locals ≤ R.locals) : CallB R s args own index y bytes maxL none (Cond.code y bytes maxL none :: TB) rm mc ms n ∧ y.name = "<init>" ∧ (Cond.instanceMethod y).before args s = true :=
  ⟨callB_of n htb (TB_in h1) rfl hrc hrs (htb _ h2) (htb _ h3) hd hR, hy, htb _ h4⟩
theorem xcwIN {host : String} (n : Nat) (htb : ∀ w ∈ TB, w.before args s = true) (h1 : Cond.code y bytes maxL none ∈ TB) (h2 : Cond.initialized y.cls ∈ TB) (h3 : va_Nw (.methodLinkNest own index y host) s) (h4 : Cond.instanceMethod y ∈ TB) (hy : y.name = "<init>") (hrc : rm.cells = mc) (hrs : rm.slots = ms) (hd : y.cls ≠ "java/lang/invoke/MethodHandle" ∧ y.cls ≠ "java/lang/invoke/VarHandle" ∧ (parseMethodDescriptor y.desc).map (fun d => d.parameters.length) = some n) (hR : rm.frames + 1 ≤ R.frames ∧ 8 + (maxL + 11) + rm.locals ≤ R.locals) : va_CN R s args own index y host bytes maxL none (Cond.code y bytes maxL none :: TB) rm mc ms n ∧ y.name = "<init>" ∧ (Cond.instanceMethod y).before args s = true :=
  ⟨va_cnB n htb (TB_in h1) rfl hrc hrs h3 (htb _ h2) hd hR, hy, htb _ h4⟩
end XROWS
/-! what throws, and who catches -/
theorem xP.kept {D : va_G} {A : Nat → Prop} {h : xw} {H H1 : Heap} (hP : xP D A h H) (hk : ∀ q : Nat, q < H.size → H1[q]? = H[q]?) : xP D A h H1 := by
  obtain ⟨L, f, h1, h2, h3⟩ := hP
  exact ⟨L, f, h1, h2.kept (fun k q hq => hk q.1 (h2 k q hq).lt), h3⟩
def xStr (s : State) : Prop := ∀ q ∈ xstrs, ∃ sa, vk_R q.1 q.2.1 q.2.2 sa s
def xT (l : Launch) (s : State) (c : Code) (A : Nat → Prop) : Prop := l.stackTraces = false ∧ vx_Zq Bundle.tN "UNASSIGNED_STACK" Bundle.steD A s s.heap ∧ vx_Zq Bundle.tN "SUPPRESSED_SENTINEL" Bundle.listD A s s.heap ∧ xStr s ∧ ∀ x ∈ c.exceptionTable.toList, False
def xPreX (D : va_G) (d : Nat → ClassId) (h : xw) (av : List Value) (sz : Nat) : Array Value → State → Prop := va_Pc av (fun U => U.heap.size = sz ∧ xP D (fun _ => True) h U.heap ∧ va_K D vwCl (TYS d) U ∧ xN U ∧ vx_Zq Bundle.tN "UNASSIGNED_STACK" Bundle.steD (xA h sz) U U.heap ∧ vx_Zq Bundle.tN "SUPPRESSED_SENTINEL" Bundle.listD (xA h sz) U U.heap ∧ xStr U)
theorem xPreX_blind {D : va_G} {d : Nat → ClassId} {h : xw} {av : List Value} {sz : Nat} : FrameBlind (xPreX D d h av sz) := fun a U g mk q => by
  obtain ⟨q0, q1, qP, qK, qN, z1, z2, qs⟩ := q
  exact ⟨q0, q1, qP, va_K.moved (u := U) (U := U.calling g mk a) (Vm.Alike.refl U.vm) qK, xN.same (s := U) (U := U.calling g mk a) rfl qN, vx_Zq.moved (u := U) (U := U.calling g mk a) (Vm.Alike.refl U.vm) z1, vx_Zq.moved (u := U) (U := U.calling g mk a) (Vm.Alike.refl U.vm) z2, fun w hw => by
    obtain ⟨sa, hs⟩ := qs w hw
    exact ⟨sa, vk_R.same (u := U) rfl hs⟩⟩
section XTHROW
variable {p : Program} {l : Launch} {e : Env} {R : Room} {s : State} {m : MethodId} {args : Array Value} {below : List Frame} {meth : Method} {c : Code} {H : Heap} {locs : List Loc} {cells slots : Nat}
variable {cc : ByteArray} {pc : Nat} {ls : Array Slot} {rest : List Value} {D : va_G} {d : Nat → ClassId} {A : Nat → Prop} {h h0 : xw} {σ : va_E → Prop} {nL : Nat} {own : String} {ret : Option FieldType} {Qc : Array Value → State → Outcome → State → Prop}
theorem xthrow (C0 : xctx p s m args meth c cc nL ret own D d A (xT l s c A)) {cls text : String} {names : List String} {ik is ic mc ms : Nat} {X : String → xw → Prop}
    (hcls : Bundle.fit cls = true) (hnames : ∀ n ∈ names, Bundle.fit n = true) (hk : Cond.classLink own ik cls ∈ TB) (hini : Cond.initialized cls ∈ TB) (hstr : (own, is, text) ∈ xstrs) (hat : ∀ w ∈ vx_atS own ic cls names, w ∈ TB ∨ w ∈ NB) (hgood : ∀ w ∈ vx_atS own ic cls names, vx_ot w = true) (hg1 : vx_ot (.classLink own ik cls) = true) (hg2 : vx_ot (.initialized cls) = true)
    (hw : X cls h) (hP : xR σ h0 D A h H) (hS : va_S A s.heap H locs) {lv : List (Nat × Value)} (hl : lv_has ls nL lv)
    (d0 : decode cc pc = .ok (.new ik, 3)) (d3 : decode cc (pc + 3) = .ok (.dup, 1)) (d4 : decode cc (pc + 4) = .ok (.ldc is, 2)) (d6 : decode cc (pc + 6) = .ok (.invokespecial ic, 3)) (d9 : decode cc (pc + 9) = .ok (.athrow, 1))
    (hRframes : names.length + 3 < R.frames) (hRlocals : (rest.map fun v => v.category).sum + (13 * (names.length + 1) + 43) ≤ R.locals) (hRcells : cells + 1 ≤ R.cells) (hRslots : slots + 6 ≤ R.slots) (hc : cells + 1 ≤ mc) (hs : slots + 6 ≤ ms) :
    W p l e R s m args below meth c H locs cells slots (vx_MQ below Qc (xX (fun E u => X E u ∧ xfr σ h0 u) D d A) args s mc ms A) (F0 m pc ls rest) := by
  obtain ⟨hx, hb, hr, hml, hown, htb, hK, hA, hNB, hlocks, hlt, hU, hN, hSt, htab⟩ := C0
  obtain ⟨sa, hsa⟩ := hSt _ hstr
  refine vx_throwS hx hb hlt hown hcls hnames (htb _ hk) (htb _ hini) hsa (fun w hw => (hat w hw).elim (htb w) (fun q => va_Nw.use (NB_tabs w q) (hNB.1 w q))) (fun w hw => ?_) hU hN hS (hl.1.trans hml.symm) d0 d3 d4 d6 d9 (fun x hx => (htab x hx).elim) hRframes hRlocals hRcells hRslots hlocks (fun t hvm hz hk => ?_) hS.2.2 hc hs
  · rcases List.mem_cons.mp hw with rfl | hw
    · exact hg1
    · rcases List.mem_cons.mp hw with rfl | hw
      · exact hg2
      · exact hgood w hw
  · exact ⟨h, trivial, ⟨⟨hw, hP.2⟩, hP.1.kept hk, va_K.moved hvm hK⟩, Nat.le_trans hS.1 hz, fun q h1 h2 => (hk q (Nat.lt_of_lt_of_le h1 hS.1)).trans (hS.2.1 q h1 h2)⟩
end XTHROW
end
section
def wp_Batch_init (d : Nat → ClassId) (h : xw) (a0 : Nat) (a1 : Int32) (a2 : Int32) (a3 : Int32) (Q : xw → Prop) : Prop :=
  wpF h a0 1 3 (.int 0) fun h1 =>
  wpF h1 a0 1 4 (.int (-1)) fun h2 =>
  wpF h2 a0 1 0 (.int a1) fun h3 =>
  wpF h3 a0 1 1 (.int a2) fun h4 =>
  wnewA h4 100 (if a3 < 0 then 0 else a3) (fun n => xaq (d 0) n (fun _ => none)) fun q6 h5 =>
  wpF h5 a0 1 2 (va_rf (some q6)) fun h7 =>
  Q h7
abbrev wb_Batch_append_32 (d : Nat → ClassId) (Q : xw → Prop) (h : xw) : Prop :=
  Q h
def wp_Batch_append (d : Nat → ClassId) (h : xw) (a0 : Nat) (a1 : Option Nat) (Q : xw → Prop) : Prop :=
  wgI h a0 1 3 fun v1 =>
  wgA h a0 1 2 fun r2 =>
  wnn r2 fun p3 => wlen h p3 (d 0) fun v4 =>
  wIf (v4 ≤ v1) (wb_Batch_append_32 d Q  h) (wgA h a0 1 2 fun r5 =>
  wgI h a0 1 3 fun v6 =>
  wnn r5 fun p7 => wstq h p7 (d 0) 2 v6 a1 fun h8 =>
  wgI h8 a0 1 3 fun v9 =>
  wpF h8 a0 1 3 (.int (v9 + 1)) fun h10 =>
  wb_Batch_append_32 d Q  h10)
abbrev wb_Entry_hasKey_13 (d : Nat → ClassId) (Q : Int32 → xw → Prop) (s0 : Int32) (h : xw) : Prop :=
  wZ s0 (Q s0 h)
def wp_Entry_hasKey (d : Nat → ClassId) (h : xw) (a0 : Nat) (Q : Int32 → xw → Prop) : Prop :=
  wgI h a0 2 1 fun v1 =>
  wIf (v1 = (-1)) (wb_Entry_hasKey_13 d Q 0 h) (wb_Entry_hasKey_13 d Q 1 h)
abbrev wb_Entry_sizeInBytes_31 (d : Nat → ClassId) (Q : Int32 → xw → Prop) (s0 : Int32) (s1 : Int32) (h : xw) : Prop :=
  Q (s1 + s0) h
abbrev wb_Entry_sizeInBytes_17 (d : Nat → ClassId) (Q : Int32 → xw → Prop) (x0 : Nat) (s0 : Int32) (s1 : Int32) (h : xw) : Prop :=
  wgI h x0 2 2 fun v3 =>
  wIf (v3 = 0) (wb_Entry_sizeInBytes_31 d Q 0 (s1 + s0) h) (wb_Entry_sizeInBytes_31 d Q 8 (s1 + s0) h)
def wp_Entry_sizeInBytes (d : Nat → ClassId) (h : xw) (a0 : Nat) (Q : Int32 → xw → Prop) : Prop :=
  wIs h a0 2 (wp_Entry_hasKey d h a0 fun r2 h1 =>
  wIf (r2 = 0) (wb_Entry_sizeInBytes_17 d Q a0 0 8 h1) (wgI h1 a0 2 1 fun v4 =>
  wb_Entry_sizeInBytes_17 d Q a0 v4 8 h1))
def wc_Batch_sizeInBytes_5 (d : Nat → ClassId) (Q : Int32 → xw → Prop) (k5 : Nat → Int32 → Int32 → xw → Prop) (x0 : Nat) (x1 : Int32) (x2 : Int32) (h : xw) : Prop :=
  wgI h x0 1 3 fun v1 =>
  wIf (v1 ≤ x2) (Q x1 h) (wgA h x0 1 2 fun r2 =>
  wnn r2 fun p3 => wldq h p3 (d 0) x2 fun r4 =>
  wnn r4 fun p5 => wIs h p5 2 (wp_Entry_sizeInBytes d h p5 fun r7 h6 =>
  k5 x0 (x1 + r7) (x2 + 1) h6))
def wp_Batch_sizeInBytes (d : Nat → ClassId) (h : xw) (a0 : Nat) (Q : Int32 → xw → Prop) : Prop :=
  wLoop (fun (k : Nat × Int32 × Int32 → xw → Prop) (x : Nat × Int32 × Int32) (h : xw) => wc_Batch_sizeInBytes_5 d Q (fun y0 y1 y2 h => k (y0, y1, y2) h) x.1 x.2.1 x.2.2 h) (a0, 61, 0) h
abbrev wb_Batch_latestWithKey_44 (d : Nat → ClassId) (k8 : Nat → Int64 → Int32 → Int32 → xw → Prop) (Q : Option Nat → xw → Prop) (x0 : Nat) (x1 : Int64) (x3 : Int32) (x4 : Int32) (h : xw) : Prop :=
  k8 x0 x1 x3 (x4 + (-1)) h
def wc_Batch_latestWithKey_8 (d : Nat → ClassId) (Q : Option Nat → xw → Prop) (k8 : Nat → Int64 → Int32 → Int32 → xw → Prop) (x0 : Nat) (x1 : Int64) (x3 : Int32) (x4 : Int32) (h : xw) : Prop :=
  wIf (x4 < 0) (Q none h) (wgA h x0 1 2 fun r2 =>
  wnn r2 fun p3 => wldq h p3 (d 0) x4 fun r4 =>
  wnn r4 fun p5 => wgL h p5 2 0 fun v6 =>
  wIf ((lg_cmp v6 x1) = 0) (wgI h p5 2 1 fun v7 =>
  wIf (v7 = x3) (Q (some p5) h) (wb_Batch_latestWithKey_44 d k8 Q x0 x1 x3 x4 h)) (wb_Batch_latestWithKey_44 d k8 Q x0 x1 x3 x4 h))
def wp_Batch_latestWithKey (d : Nat → ClassId) (h : xw) (a0 : Nat) (a1 : Int64) (a3 : Int32) (Q : Option Nat → xw → Prop) : Prop :=
  wgI h a0 1 3 fun v1 =>
  wLoop (fun (k : Nat × Int64 × Int32 × Int32 → xw → Prop) (x : Nat × Int64 × Int32 × Int32) (h : xw) => wc_Batch_latestWithKey_8 d Q (fun y0 y1 y3 y4 h => k (y0, y1, y3, y4) h) x.1 x.2.1 x.2.2.1 x.2.2.2 h) (a0, a1, a3, (v1 - 1)) h
abbrev wb_Entry_goes_34 (d : Nat → ClassId) (Q : Int32 → xw → Prop) (s0 : Int32) (h : xw) : Prop :=
  wZ s0 (Q s0 h)
abbrev wb_Entry_goes_29 (d : Nat → ClassId) (Q : Int32 → xw → Prop) (h : xw) : Prop :=
  wb_Entry_goes_34 d Q 1 h
abbrev wb_Entry_goes_33 (d : Nat → ClassId) (Q : Int32 → xw → Prop) (h : xw) : Prop :=
  wb_Entry_goes_34 d Q 0 h
def wp_Entry_goes (d : Nat → ClassId) (h : xw) (a0 : Nat) (a1 : Int32) (Q : Int32 → xw → Prop) : Prop :=
  wgI h a0 2 6 fun v1 =>
  wIf (v1 = 0) (wIs h a0 2 (wp_Entry_hasKey d h a0 fun r3 h2 =>
  wIf (r3 = 0) (wb_Entry_goes_33 d Q  h2) (wgI h2 a0 2 2 fun v4 =>
  wIf (v4 = 0) (wgI h2 a0 2 4 fun v5 =>
  wIf (a1 < v5) (wb_Entry_goes_33 d Q  h2) (wb_Entry_goes_29 d Q  h2)) (wb_Entry_goes_33 d Q  h2)))) (wb_Entry_goes_29 d Q  h)
def wc_Batch_removeGone_54 (d : Nat → ClassId) (Q : Int32 → xw → Prop) (k54 : Nat → Int32 → Int32 → Int32 → xw → Prop) (x0 : Nat) (x2 : Int32) (x3 : Int32) (x4 : Int32) (h : xw) : Prop :=
  wIf (x2 ≤ x4) (wpF h x0 1 3 (.int x3) fun h2 =>
  Q (x2 - x3) h2) (wgA h x0 1 2 fun r3 =>
  wnn r3 fun p4 => wstq h p4 (d 0) 2 x4 none fun h5 =>
  k54 x0 x2 x3 (x4 + 1) h5)
abbrev wb_Batch_removeGone_45 (d : Nat → ClassId) (k10 : Nat → Int32 → Int32 → Int32 → Int32 → xw → Prop) (Q : Int32 → xw → Prop) (x0 : Nat) (x1 : Int32) (x2 : Int32) (x3 : Int32) (x4 : Int32) (h : xw) : Prop :=
  k10 x0 x1 x2 x3 (x4 + 1) h
def wc_Batch_removeGone_10 (d : Nat → ClassId) (Q : Int32 → xw → Prop) (k10 : Nat → Int32 → Int32 → Int32 → Int32 → xw → Prop) (x0 : Nat) (x1 : Int32) (x2 : Int32) (x3 : Int32) (x4 : Int32) (h : xw) : Prop :=
  wIf (x2 ≤ x4) (wLoop (fun (k : Nat × Int32 × Int32 × Int32 → xw → Prop) (x : Nat × Int32 × Int32 × Int32) (h : xw) => wc_Batch_removeGone_54 d Q (fun y0 y2 y3 y4 h => k (y0, y2, y3, y4) h) x.1 x.2.1 x.2.2.1 x.2.2.2 h) (x0, x2, x3, x3) h) (wgA h x0 1 2 fun r6 =>
  wnn r6 fun p7 => wldq h p7 (d 0) x4 fun r8 =>
  wnn r8 fun p9 => wIs h p9 2 (wp_Entry_goes d h p9 x1 fun r11 h10 =>
  wIf (r11 = 0) (wgA h10 x0 1 2 fun r12 =>
  wnn r12 fun p13 => wstq h10 p13 (d 0) 2 x3 (some p9) fun h14 =>
  wb_Batch_removeGone_45 d k10 Q x0 x1 x2 (x3 + 1) x4 h14) (wb_Batch_removeGone_45 d k10 Q x0 x1 x2 x3 x4 h10)))
def wp_Batch_removeGone (d : Nat → ClassId) (h : xw) (a0 : Nat) (a1 : Int32) (Q : Int32 → xw → Prop) : Prop :=
  wgI h a0 1 3 fun v1 =>
  wLoop (fun (k : Nat × Int32 × Int32 × Int32 × Int32 → xw → Prop) (x : Nat × Int32 × Int32 × Int32 × Int32) (h : xw) => wc_Batch_removeGone_10 d Q (fun y0 y1 y2 y3 y4 h => k (y0, y1, y2, y3, y4) h) x.1 x.2.1 x.2.2.1 x.2.2.2.1 x.2.2.2.2 h) (a0, a1, v1, 0, 0) h
def wp_Entry_init (d : Nat → ClassId) (h : xw) (a0 : Nat) (a1 : Int64) (a3 : Int32) (a4 : Int32) (a5 : Int64) (a7 : Int32) (Q : xw → Prop) : Prop :=
  wpF h a0 2 5 (.int (-1)) fun h1 =>
  wpZ h1 a0 2 6 0 fun h2 =>
  wpF h2 a0 2 0 (.long a1) fun h3 =>
  wpF h3 a0 2 1 (.int a3) fun h4 =>
  wpZ h4 a0 2 2 a4 fun h5 =>
  wpF h5 a0 2 3 (.long a5) fun h6 =>
  wpF h6 a0 2 4 (.int a7) fun h7 =>
  Q h7
def wp_Packing_init (d : Nat → ClassId) (h : xw) (a0 : Nat) (Q : xw → Prop) : Prop :=
  wpF h a0 3 0 (.int (-1)) fun h1 =>
  wpF h1 a0 3 1 (.int 0) fun h2 =>
  Q h2
abbrev wb_Packing_place_35 (d : Nat → ClassId) (Q : Int32 → xw → Prop) (x0 : Nat) (x1 : Int32) (h : xw) : Prop :=
  wgI h x0 3 1 fun v5 =>
  wpF h x0 3 1 (.int (v5 + x1)) fun h6 =>
  wgI h6 x0 3 0 fun v7 =>
  Q v7 h6
abbrev wb_Packing_place_20 (d : Nat → ClassId) (Q : Int32 → xw → Prop) (x0 : Nat) (x1 : Int32) (h : xw) : Prop :=
  wgI h x0 3 0 fun v2 =>
  wpF h x0 3 0 (.int (v2 + 1)) fun h3 =>
  wpF h3 x0 3 1 (.int 0) fun h4 =>
  wb_Packing_place_35 d Q x0 x1 h4
def wp_Packing_place (d : Nat → ClassId) (h : xw) (a0 : Nat) (a1 : Int32) (Q : Int32 → xw → Prop) : Prop :=
  wgI h a0 3 0 fun v1 =>
  wIf (v1 = (-1)) (wb_Packing_place_20 d Q a0 a1 h) (wgI h a0 3 1 fun v8 =>
  wIf ((v8 + a1) ≤ 1000) (wb_Packing_place_35 d Q a0 a1 h) (wb_Packing_place_20 d Q a0 a1 h))
def wp_LogCleaner_init (d : Nat → ClassId) (h : xw) (a0 : Nat) (Q : xw → Prop) : Prop :=
  wnewA h 400 400 (fun n => xaq (d 1) n (fun _ => none)) fun q2 h1 =>
  wpF h1 a0 0 0 (va_rf (some q2)) fun h3 =>
  wpF h3 a0 0 1 (.int 0) fun h4 =>
  wpF h4 a0 0 2 (.int 0) fun h5 =>
  wpF h5 a0 0 3 (.int 0) fun h6 =>
  wnew h6 (.inr (3, z_Packing)) fun q8 h7 =>
  wp_Packing_init d h7 q8 fun h9 =>
  wpF h9 a0 0 4 (va_rf (some q8)) fun h10 =>
  wnewA h10 100 100 (fun n => xaq (d 0) n (fun _ => none)) fun q12 h11 =>
  wpF h11 a0 0 5 (va_rf (some q12)) fun h13 =>
  wpF h13 a0 0 6 (.int 0) fun h14 =>
  Q h14
def wp_LogCleaner_lowestBytes (d : Nat → ClassId) (h : xw) (a0 : Int64) (a2 : Int32) (Q : Int64 → xw → Prop) : Prop :=
  wIf (0 < a2) (wIf (a2 < 8) (Q (a0 &&& ((1 <<< ((a2 * 8).toInt64 &&& 63)) - 1)) h) (Q a0 h)) (Q 0 h)
abbrev wb_LogCleaner_record_11 (d : Nat → ClassId) (Q : Int32 → xw → Prop) (X : String → xw → Prop) (h : xw) : Prop :=
  X "java/lang/IllegalArgumentException" h
abbrev wb_LogCleaner_record_98 (d : Nat → ClassId) (Q : Int32 → xw → Prop) (X : String → xw → Prop) (x0 : Nat) (x3 : Int32) (x4 : Int32) (x7 : Int32) (x8 : Int64) (s0 : Int64) (h : xw) : Prop :=
  wgA h x0 0 5 fun r6 =>
  wgI h x0 0 6 fun v7 =>
  wnew h (.inr (2, z_Entry)) fun q9 h8 =>
  wp_Entry_init d h8 q9 x8 x3 x4 s0 x7 fun h10 =>
  wnn r6 fun p11 => wstq h10 p11 (d 0) 2 v7 (some q9) fun h12 =>
  wgI h12 x0 0 6 fun v13 =>
  wpF h12 x0 0 6 (.int (v13 + 1)) fun h14 =>
  wgI h14 x0 0 6 fun v15 =>
  Q v15 h14
def wp_LogCleaner_record (d : Nat → ClassId) (h : xw) (a0 : Nat) (a1 : Int64) (a3 : Int32) (a4 : Int32) (a5 : Int64) (a7 : Int32) (Q : Int32 → xw → Prop) (X : String → xw → Prop) : Prop :=
  wIf (a3 < (-1)) (wb_LogCleaner_record_11 d Q X  h) (wIf (a3 ≤ 8) (wIf (0 ≤ a7) (wgI h a0 0 6 fun v1 =>
  wIf (v1 < 100) (wgI h a0 0 2 fun v2 =>
  wgI h a0 0 6 fun v3 =>
  wIf ((v2 + v3) < 4000) (wp_LogCleaner_lowestBytes d h a1 a3 fun r5 h4 =>
  wIf (a4 = 0) (wb_LogCleaner_record_98 d Q X a0 a3 a4 a7 r5 0 h4) (wb_LogCleaner_record_98 d Q X a0 a3 a4 a7 r5 a5 h4)) (X "java/lang/IllegalStateException" h)) (X "java/lang/IllegalStateException" h)) (X "java/lang/IllegalArgumentException" h)) (wb_LogCleaner_record_11 d Q X  h))
def wc_LogCleaner_latestWithKey_8 (d : Nat → ClassId) (Q : Option Nat → xw → Prop) (k8 : Nat → Int64 → Int32 → Int32 → xw → Prop) (x0 : Nat) (x1 : Int64) (x3 : Int32) (x4 : Int32) (h : xw) : Prop :=
  wIf (x4 < 0) (Q none h) (wgA h x0 0 0 fun r2 =>
  wnn r2 fun p3 => wldq h p3 (d 1) x4 fun r4 =>
  wnn r4 fun p5 => wIs h p5 1 (wp_Batch_latestWithKey d h p5 x1 x3 fun r7 h6 =>
  wNul r7 (k8 x0 x1 x3 (x4 + (-1)) h6) (fun p8 => Q (some p8) h6)))
def wp_LogCleaner_latestWithKey (d : Nat → ClassId) (h : xw) (a0 : Nat) (a1 : Int64) (a3 : Int32) (Q : Option Nat → xw → Prop) : Prop :=
  wgI h a0 0 1 fun v1 =>
  wLoop (fun (k : Nat × Int64 × Int32 × Int32 → xw → Prop) (x : Nat × Int64 × Int32 × Int32) (h : xw) => wc_LogCleaner_latestWithKey_8 d Q (fun y0 y1 y3 y4 h => k (y0, y1, y3, y4) h) x.1 x.2.1 x.2.2.1 x.2.2.2 h) (a0, a1, a3, (v1 - 1)) h
abbrev wb_LogCleaner_markSuperseded_30 (d : Nat → ClassId) (Q : xw → Prop) (h : xw) : Prop :=
  Q h
def wp_LogCleaner_markSuperseded (d : Nat → ClassId) (h : xw) (a0 : Nat) (a1 : Option Nat) (Q : xw → Prop) : Prop :=
  wnn a1 fun p1 => wIs h p1 2 (wp_Entry_hasKey d h p1 fun r3 h2 =>
  wIf (r3 = 0) (Q h2) (wgL h2 p1 2 0 fun v4 =>
  wgI h2 p1 2 1 fun v5 =>
  wIs h2 a0 0 (wp_LogCleaner_latestWithKey d h2 a0 v4 v5 fun r7 h6 =>
  wNul r7 (wb_LogCleaner_markSuperseded_30 d Q  h6) (fun p8 => wpZ h6 p8 2 6 1 fun h9 =>
  wb_LogCleaner_markSuperseded_30 d Q  h9))))
def wc_LogCleaner_moveDraftInto_2 (d : Nat → ClassId) (Q : xw → Prop) (k2 : Nat → Option Nat → Int32 → xw → Prop) (x0 : Nat) (x1 : Option Nat) (x2 : Int32) (h : xw) : Prop :=
  wgI h x0 0 6 fun v1 =>
  wIf (v1 ≤ x2) (wgI h x0 0 2 fun v2 =>
  wgI h x0 0 6 fun v3 =>
  wpF h x0 0 2 (.int (v2 + v3)) fun h4 =>
  wpF h4 x0 0 6 (.int 0) fun h5 =>
  Q h5) (wgA h x0 0 5 fun r6 =>
  wnn r6 fun p7 => wldq h p7 (d 0) x2 fun r8 =>
  wIs h x0 0 (wp_LogCleaner_markSuperseded d h x0 r8 fun h9 =>
  wgI h9 x0 0 3 fun v10 =>
  wnn r8 fun p11 => wpF h9 p11 2 5 (.int v10) fun h12 =>
  wgI h12 x0 0 3 fun v13 =>
  wpF h12 x0 0 3 (.int (v13 + 1)) fun h14 =>
  wnn x1 fun p15 => wIs h14 p15 1 (wp_Batch_append d h14 p15 (some p11) fun h16 =>
  wgA h16 x0 0 5 fun r17 =>
  wnn r17 fun p18 => wstq h16 p18 (d 0) 2 x2 none fun h19 =>
  k2 x0 (some p15) (x2 + 1) h19)))
def wp_LogCleaner_moveDraftInto (d : Nat → ClassId) (h : xw) (a0 : Nat) (a1 : Option Nat) (Q : xw → Prop) : Prop :=
  wLoop (fun (k : Nat × Option Nat × Int32 → xw → Prop) (x : Nat × Option Nat × Int32) (h : xw) => wc_LogCleaner_moveDraftInto_2 d Q (fun y0 y1 y2 h => k (y0, y1, y2) h) x.1 x.2.1 x.2.2 h) (a0, a1, 0) h
def wp_LogCleaner_close (d : Nat → ClassId) (h : xw) (a0 : Nat) (a1 : Int32) (Q : Int32 → xw → Prop) (X : String → xw → Prop) : Prop :=
  wIf ((-1) ≤ a1) (wgI h a0 0 6 fun v1 =>
  wIf (v1 = 0) (X "java/lang/IllegalStateException" h) (wgI h a0 0 1 fun v2 =>
  wIf (v2 < 400) (wnew h (.inr (1, z_Batch)) fun q4 h3 =>
  wgI h3 a0 0 3 fun v5 =>
  wgI h3 a0 0 6 fun v6 =>
  wp_Batch_init d h3 q4 v5 a1 v6 fun h7 =>
  wgA h7 a0 0 0 fun r8 =>
  wgI h7 a0 0 1 fun v9 =>
  wnn r8 fun p10 => wstq h7 p10 (d 1) 1 v9 (some q4) fun h11 =>
  wgI h11 a0 0 1 fun v12 =>
  wpF h11 a0 0 1 (.int (v12 + 1)) fun h13 =>
  wIs h13 a0 0 (wp_LogCleaner_moveDraftInto d h13 a0 (some q4) fun h14 =>
  wgA h14 a0 0 4 fun r15 =>
  wIs h14 q4 1 (wp_Batch_sizeInBytes d h14 q4 fun r17 h16 =>
  wnn r15 fun p18 => wIs h16 p18 3 (wp_Packing_place d h16 p18 r17 fun r20 h19 =>
  wpF h19 q4 1 4 (.int r20) fun h21 =>
  wgI h21 q4 1 0 fun v22 =>
  Q v22 h21)))) (X "java/lang/IllegalStateException" h))) (X "java/lang/IllegalArgumentException" h)
abbrev wb_LogCleaner_isClosed_19 (d : Nat → ClassId) (Q : Int32 → xw → Prop) (s0 : Int32) (h : xw) : Prop :=
  wZ s0 (Q s0 h)
def wp_LogCleaner_isClosed (d : Nat → ClassId) (h : xw) (a0 : Nat) (a1 : Option Nat) (Q : Int32 → xw → Prop) : Prop :=
  wnn a1 fun p1 => wgI h p1 1 4 fun v2 =>
  wgA h a0 0 4 fun r3 =>
  wnn r3 fun p4 => wgI h p4 3 0 fun v5 =>
  wIf (v5 ≤ v2) (wb_LogCleaner_isClosed_19 d Q 0 h) (wb_LogCleaner_isClosed_19 d Q 1 h)
abbrev wb_LogCleaner_removeGoneRecords_38 (d : Nat → ClassId) (k4 : Nat → Int32 → Int32 → Int32 → xw → Prop) (Q : Int32 → xw → Prop) (x0 : Nat) (x1 : Int32) (x2 : Int32) (x3 : Int32) (h : xw) : Prop :=
  k4 x0 x1 x2 (x3 + 1) h
def wc_LogCleaner_removeGoneRecords_4 (d : Nat → ClassId) (Q : Int32 → xw → Prop) (k4 : Nat → Int32 → Int32 → Int32 → xw → Prop) (x0 : Nat) (x1 : Int32) (x2 : Int32) (x3 : Int32) (h : xw) : Prop :=
  wgI h x0 0 1 fun v1 =>
  wIf (v1 ≤ x3) (wgI h x0 0 2 fun v2 =>
  wpF h x0 0 2 (.int (v2 - x2)) fun h3 =>
  Q x2 h3) (wgA h x0 0 0 fun r4 =>
  wnn r4 fun p5 => wldq h p5 (d 1) x3 fun r6 =>
  wIs h x0 0 (wp_LogCleaner_isClosed d h x0 r6 fun r8 h7 =>
  wIf (r8 = 0) (wb_LogCleaner_removeGoneRecords_38 d k4 Q x0 x1 x2 x3 h7) (wgA h7 x0 0 0 fun r9 =>
  wnn r9 fun p10 => wldq h7 p10 (d 1) x3 fun r11 =>
  wnn r11 fun p12 => wIs h7 p12 1 (wp_Batch_removeGone d h7 p12 x1 fun r14 h13 =>
  wb_LogCleaner_removeGoneRecords_38 d k4 Q x0 x1 (x2 + r14) x3 h13))))
def wp_LogCleaner_removeGoneRecords (d : Nat → ClassId) (h : xw) (a0 : Nat) (a1 : Int32) (Q : Int32 → xw → Prop) : Prop :=
  wLoop (fun (k : Nat × Int32 × Int32 × Int32 → xw → Prop) (x : Nat × Int32 × Int32 × Int32) (h : xw) => wc_LogCleaner_removeGoneRecords_4 d Q (fun y0 y1 y2 y3 h => k (y0, y1, y2, y3) h) x.1 x.2.1 x.2.2.1 x.2.2.2 h) (a0, a1, 0, 0) h
abbrev wb_LogCleaner_isKnown_66 (d : Nat → ClassId) (Q : Int32 → xw → Prop) (s0 : Int32) (h : xw) : Prop :=
  wZ s0 (Q s0 h)
abbrev wb_LogCleaner_isKnown_50 (d : Nat → ClassId) (k24 : Nat → Int32 → Int32 → Int32 → xw → Prop) (Q : Int32 → xw → Prop) (x0 : Nat) (x2 : Int32) (x3 : Int32) (x4 : Int32) (h : xw) : Prop :=
  k24 x0 x2 x3 (x4 + 1) h
def wc_LogCleaner_isKnown_24 (d : Nat → ClassId) (Q : Int32 → xw → Prop) (k24 : Nat → Int32 → Int32 → Int32 → xw → Prop) (x0 : Nat) (x2 : Int32) (x3 : Int32) (x4 : Int32) (h : xw) : Prop :=
  wgI h x0 0 1 fun v6 =>
  wIf (v6 ≤ x4) (wIf (2 ≤ x3) (wb_LogCleaner_isKnown_66 d Q 0 h) (wb_LogCleaner_isKnown_66 d Q 1 h)) (wgA h x0 0 0 fun r7 =>
  wnn r7 fun p8 => wldq h p8 (d 1) x4 fun r9 =>
  wnn r9 fun p10 => wgI h p10 1 1 fun v11 =>
  wIf (v11 = x2) (wb_LogCleaner_isKnown_50 d k24 Q x0 x2 (x3 + 1) x4 h) (wb_LogCleaner_isKnown_50 d k24 Q x0 x2 x3 x4 h))
def wp_LogCleaner_isKnown (d : Nat → ClassId) (h : xw) (a0 : Nat) (a1 : Int32) (Q : Int32 → xw → Prop) : Prop :=
  wgA h a0 0 0 fun r1 =>
  wnn r1 fun p2 => wldq h p2 (d 1) a1 fun r3 =>
  wnn r3 fun p4 => wgI h p4 1 1 fun v5 =>
  wIf (v5 = (-1)) (wZ 0 (Q 0 h)) (wLoop (fun (k : Nat × Int32 × Int32 × Int32 → xw → Prop) (x : Nat × Int32 × Int32 × Int32) (h : xw) => wc_LogCleaner_isKnown_24 d Q (fun y0 y2 y3 y4 h => k (y0, y2, y3, y4) h) x.1 x.2.1 x.2.2.1 x.2.2.2 h) (a0, v5, 0, (a1 + 1)) h)
def wc_LogCleaner_keepFirstBatches_2 (d : Nat → ClassId) (Q : xw → Prop) (k2 : Nat → Int32 → Int32 → xw → Prop) (x0 : Nat) (x1 : Int32) (x2 : Int32) (h : xw) : Prop :=
  wgI h x0 0 1 fun v1 =>
  wIf (v1 ≤ x2) (wpF h x0 0 1 (.int x1) fun h2 =>
  Q h2) (wgA h x0 0 0 fun r3 =>
  wnn r3 fun p4 => wstq h p4 (d 1) 1 x2 none fun h5 =>
  k2 x0 x1 (x2 + 1) h5)
def wp_LogCleaner_keepFirstBatches (d : Nat → ClassId) (h : xw) (a0 : Nat) (a1 : Int32) (Q : xw → Prop) : Prop :=
  wLoop (fun (k : Nat × Int32 × Int32 → xw → Prop) (x : Nat × Int32 × Int32) (h : xw) => wc_LogCleaner_keepFirstBatches_2 d Q (fun y0 y1 y2 h => k (y0, y1, y2) h) x.1 x.2.1 x.2.2 h) (a0, a1, a1) h
abbrev wb_LogCleaner_removeEmptiedBatches_70 (d : Nat → ClassId) (k9 : Nat → Int32 → Int32 → Int32 → xw → Prop) (Q : Int32 → xw → Prop) (x0 : Nat) (x1 : Int32) (x2 : Int32) (x3 : Int32) (h : xw) : Prop :=
  k9 x0 x1 x2 (x3 + 1) h
abbrev wb_LogCleaner_removeEmptiedBatches_52 (d : Nat → ClassId) (k9 : Nat → Int32 → Int32 → Int32 → xw → Prop) (Q : Int32 → xw → Prop) (x0 : Nat) (x1 : Int32) (x2 : Int32) (x3 : Int32) (x4 : Option Nat) (s0 : Int32) (h : xw) : Prop :=
  wIf (s0 = 0) (wgA h x0 0 0 fun r8 =>
  wnn r8 fun p9 => wstq h p9 (d 1) 1 x2 x4 fun h10 =>
  wb_LogCleaner_removeEmptiedBatches_70 d k9 Q x0 x1 (x2 + 1) x3 h10) (wb_LogCleaner_removeEmptiedBatches_70 d k9 Q x0 x1 x2 x3 h)
abbrev wb_LogCleaner_removeEmptiedBatches_51 (d : Nat → ClassId) (k9 : Nat → Int32 → Int32 → Int32 → xw → Prop) (Q : Int32 → xw → Prop) (x0 : Nat) (x1 : Int32) (x2 : Int32) (x3 : Int32) (x4 : Option Nat) (h : xw) : Prop :=
  wb_LogCleaner_removeEmptiedBatches_52 d k9 Q x0 x1 x2 x3 x4 0 h
def wc_LogCleaner_removeEmptiedBatches_9 (d : Nat → ClassId) (Q : Int32 → xw → Prop) (k9 : Nat → Int32 → Int32 → Int32 → xw → Prop) (x0 : Nat) (x1 : Int32) (x2 : Int32) (x3 : Int32) (h : xw) : Prop :=
  wIf (x1 ≤ x3) (wIs h x0 0 (wp_LogCleaner_keepFirstBatches d h x0 x2 fun h2 =>
  Q (x1 - x2) h2)) (wgA h x0 0 0 fun r3 =>
  wnn r3 fun p4 => wldq h p4 (d 1) x3 fun r5 =>
  wIs h x0 0 (wp_LogCleaner_isClosed d h x0 r5 fun r7 h6 =>
  wIf (r7 = 0) (wb_LogCleaner_removeEmptiedBatches_51 d k9 Q x0 x1 x2 x3 r5 h6) (wnn r5 fun p11 => wgI h6 p11 1 3 fun v12 =>
  wIf (v12 = 0) (wIs h6 x0 0 (wp_LogCleaner_isKnown d h6 x0 x3 fun r14 h13 =>
  wIf (r14 = 0) (wb_LogCleaner_removeEmptiedBatches_52 d k9 Q x0 x1 x2 x3 (some p11) 1 h13) (wb_LogCleaner_removeEmptiedBatches_51 d k9 Q x0 x1 x2 x3 (some p11) h13))) (wb_LogCleaner_removeEmptiedBatches_51 d k9 Q x0 x1 x2 x3 (some p11) h6))))
def wp_LogCleaner_removeEmptiedBatches (d : Nat → ClassId) (h : xw) (a0 : Nat) (Q : Int32 → xw → Prop) : Prop :=
  wgI h a0 0 1 fun v1 =>
  wLoop (fun (k : Nat × Int32 × Int32 × Int32 → xw → Prop) (x : Nat × Int32 × Int32 × Int32) (h : xw) => wc_LogCleaner_removeEmptiedBatches_9 d Q (fun y0 y1 y2 y3 h => k (y0, y1, y2, y3) h) x.1 x.2.1 x.2.2.1 x.2.2.2 h) (a0, v1, 0, 0) h
def wc_LogCleaner_packClosedSegments_66 (d : Nat → ClassId) (Q : xw → Prop) (k66 : Nat → Int32 → Int32 → xw → Prop) (x0 : Nat) (x2 : Int32) (x3 : Int32) (h : xw) : Prop :=
  wgI h x0 0 1 fun v6 =>
  wIf (v6 ≤ x2) (wgA h x0 0 4 fun r7 =>
  wnn r7 fun p8 => wpF h p8 3 0 (.int x3) fun h9 =>
  Q h9) (wgA h x0 0 0 fun r10 =>
  wnn r10 fun p11 => wldq h p11 (d 1) x2 fun r12 =>
  wnn r12 fun p13 => wpF h p13 1 4 (.int x3) fun h14 =>
  k66 x0 (x2 + 1) x3 h14)
abbrev wb_LogCleaner_packClosedSegments_59 (d : Nat → ClassId) (Q : xw → Prop) (x0 : Nat) (x1 : Nat) (x2 : Int32) (h : xw) : Prop :=
  wgI h x1 3 0 fun v5 =>
  wLoop (fun (k : Nat × Int32 × Int32 → xw → Prop) (x : Nat × Int32 × Int32) (h : xw) => wc_LogCleaner_packClosedSegments_66 d Q (fun y0 y2 y3 h => k (y0, y2, y3) h) x.1 x.2.1 x.2.2 h) (x0, x2, (v5 + 1)) h
def wc_LogCleaner_packClosedSegments_10 (d : Nat → ClassId) (Q : xw → Prop) (k10 : Nat → Nat → Int32 → xw → Prop) (x0 : Nat) (x1 : Nat) (x2 : Int32) (h : xw) : Prop :=
  wgI h x0 0 1 fun v4 =>
  wIf (v4 ≤ x2) (wb_LogCleaner_packClosedSegments_59 d Q x0 x1 x2 h) (wgA h x0 0 0 fun r15 =>
  wnn r15 fun p16 => wldq h p16 (d 1) x2 fun r17 =>
  wIs h x0 0 (wp_LogCleaner_isClosed d h x0 r17 fun r19 h18 =>
  wIf (r19 = 0) (wb_LogCleaner_packClosedSegments_59 d Q x0 x1 x2 h18) (wgA h18 x0 0 0 fun r20 =>
  wnn r20 fun p21 => wldq h18 p21 (d 1) x2 fun r22 =>
  wgA h18 x0 0 0 fun r23 =>
  wnn r23 fun p24 => wldq h18 p24 (d 1) x2 fun r25 =>
  wnn r25 fun p26 => wIs h18 p26 1 (wp_Batch_sizeInBytes d h18 p26 fun r28 h27 =>
  wIs h27 x1 3 (wp_Packing_place d h27 x1 r28 fun r30 h29 =>
  wnn r22 fun p31 => wpF h29 p31 1 4 (.int r30) fun h32 =>
  k10 x0 x1 (x2 + 1) h32)))))
def wp_LogCleaner_packClosedSegments (d : Nat → ClassId) (h : xw) (a0 : Nat) (Q : xw → Prop) : Prop :=
  wnew h (.inr (3, z_Packing)) fun q2 h1 =>
  wp_Packing_init d h1 q2 fun h3 =>
  wLoop (fun (k : Nat × Nat × Int32 → xw → Prop) (x : Nat × Nat × Int32) (h : xw) => wc_LogCleaner_packClosedSegments_10 d Q (fun y0 y1 y2 h => k (y0, y1, y2) h) x.1 x.2.1 x.2.2 h) (a0, q2, 0) h3
abbrev wb_LogCleaner_clean_41 (d : Nat → ClassId) (Q : Int32 → xw → Prop) (X : String → xw → Prop) (x2 : Int32) (h : xw) : Prop :=
  Q x2 h
abbrev wb_LogCleaner_clean_37 (d : Nat → ClassId) (Q : Int32 → xw → Prop) (X : String → xw → Prop) (x0 : Nat) (x2 : Int32) (h : xw) : Prop :=
  wIs h x0 0 (wp_LogCleaner_packClosedSegments d h x0 fun h5 =>
  wb_LogCleaner_clean_41 d Q X x2 h5)
def wp_LogCleaner_clean (d : Nat → ClassId) (h : xw) (a0 : Nat) (a1 : Int32) (Q : Int32 → xw → Prop) (X : String → xw → Prop) : Prop :=
  wIf (0 ≤ a1) (wIs h a0 0 (wp_LogCleaner_removeGoneRecords d h a0 (a1 - 1000) fun r2 h1 =>
  wIs h1 a0 0 (wp_LogCleaner_removeEmptiedBatches d h1 a0 fun r4 h3 =>
  wIf (0 < r2) (wb_LogCleaner_clean_37 d Q X a0 r2 h3) (wIf (r4 ≤ 0) (wb_LogCleaner_clean_41 d Q X r2 h3) (wb_LogCleaner_clean_37 d Q X a0 r2 h3))))) (X "java/lang/IllegalArgumentException" h)
abbrev wb_LogCleaner_removeFirstSegments_67 (d : Nat → ClassId) (k7 : Nat → Int32 → Int32 → Int32 → Int32 → xw → Prop) (Q : Int32 → xw → Prop) (x0 : Nat) (x1 : Int32) (x2 : Int32) (x3 : Int32) (x4 : Int32) (h : xw) : Prop :=
  k7 x0 x1 x2 x3 (x4 + 1) h
def wc_LogCleaner_removeFirstSegments_7 (d : Nat → ClassId) (Q : Int32 → xw → Prop) (k7 : Nat → Int32 → Int32 → Int32 → Int32 → xw → Prop) (x0 : Nat) (x1 : Int32) (x2 : Int32) (x3 : Int32) (x4 : Int32) (h : xw) : Prop :=
  wgI h x0 0 1 fun v1 =>
  wIf (v1 ≤ x4) (wIs h x0 0 (wp_LogCleaner_keepFirstBatches d h x0 x3 fun h2 =>
  wgA h2 x0 0 4 fun r3 =>
  wnn r3 fun p4 => wgI h2 p4 3 0 fun v5 =>
  wpF h2 p4 3 0 (.int (v5 - x1)) fun h6 =>
  wgI h6 x0 0 2 fun v7 =>
  wpF h6 x0 0 2 (.int (v7 - x2)) fun h8 =>
  Q x2 h8)) (wgA h x0 0 0 fun r9 =>
  wnn r9 fun p10 => wldq h p10 (d 1) x4 fun r11 =>
  wnn r11 fun p12 => wgI h p12 1 4 fun v13 =>
  wIf (x1 ≤ v13) (wgI h p12 1 4 fun v14 =>
  wpF h p12 1 4 (.int (v14 - x1)) fun h15 =>
  wgA h15 x0 0 0 fun r16 =>
  wnn r16 fun p17 => wstq h15 p17 (d 1) 1 x3 (some p12) fun h18 =>
  wb_LogCleaner_removeFirstSegments_67 d k7 Q x0 x1 x2 (x3 + 1) x4 h18) (wgI h p12 1 3 fun v19 =>
  wb_LogCleaner_removeFirstSegments_67 d k7 Q x0 x1 (x2 + v19) x3 x4 h))
def wp_LogCleaner_removeFirstSegments (d : Nat → ClassId) (h : xw) (a0 : Nat) (a1 : Int32) (Q : Int32 → xw → Prop) : Prop :=
  wLoop (fun (k : Nat × Int32 × Int32 × Int32 × Int32 → xw → Prop) (x : Nat × Int32 × Int32 × Int32 × Int32) (h : xw) => wc_LogCleaner_removeFirstSegments_7 d Q (fun y0 y1 y2 y3 y4 h => k (y0, y1, y2, y3, y4) h) x.1 x.2.1 x.2.2.1 x.2.2.2.1 x.2.2.2.2 h) (a0, a1, 0, 0, 0) h
abbrev wb_LogCleaner_drop_11 (d : Nat → ClassId) (Q : Int32 → xw → Prop) (X : String → xw → Prop) (h : xw) : Prop :=
  X "java/lang/IllegalArgumentException" h
def wp_LogCleaner_drop (d : Nat → ClassId) (h : xw) (a0 : Nat) (a1 : Int32) (Q : Int32 → xw → Prop) (X : String → xw → Prop) : Prop :=
  wIf (a1 < 0) (wb_LogCleaner_drop_11 d Q X  h) (wIf (a1 ≤ 400) (wgA h a0 0 4 fun r1 =>
  wnn r1 fun p2 => wgI h p2 3 0 fun v3 =>
  wIs h a0 0 (wp_LogCleaner_removeFirstSegments d h a0 (if (if v3 < 0 then 0 else v3) < a1 then (if v3 < 0 then 0 else v3) else a1) fun r5 h4 =>
  Q r5 h4)) (wb_LogCleaner_drop_11 d Q X  h))
def wp_LogCleaner_count (d : Nat → ClassId) (h : xw) (a0 : Nat) (a1 : Int32) (Q : Int32 → xw → Prop) (X : String → xw → Prop) : Prop :=
  (a1 = 0 → wgI h a0 0 2 fun v1 =>
  Q v1 h) ∧ (a1 = 1 → wgI h a0 0 1 fun v2 =>
  Q v2 h) ∧ (a1 = 2 → wgA h a0 0 4 fun r3 =>
  wnn r3 fun p4 => wgI h p4 3 0 fun v5 =>
  Q (v5 + 1) h) ∧ (a1 = 3 → wgI h a0 0 6 fun v6 =>
  Q v6 h) ∧ (a1 = 4 → wgI h a0 0 3 fun v7 =>
  Q v7 h) ∧ (a1.toInt < 0 ∨ 4 < a1.toInt → X "java/lang/IllegalArgumentException" h)
abbrev wb_LogCleaner_batch_12 (d : Nat → ClassId) (Q : Int32 → xw → Prop) (X : String → xw → Prop) (h : xw) : Prop :=
  X "java/lang/IllegalArgumentException" h
abbrev wb_LogCleaner_batch_106 (d : Nat → ClassId) (Q : Int32 → xw → Prop) (X : String → xw → Prop) (s0 : Int32) (h : xw) : Prop :=
  Q s0 h
def wp_LogCleaner_batch (d : Nat → ClassId) (h : xw) (a0 : Nat) (a1 : Int32) (a2 : Int32) (Q : Int32 → xw → Prop) (X : String → xw → Prop) : Prop :=
  wIf (a1 < 0) (wb_LogCleaner_batch_12 d Q X  h) (wgI h a0 0 1 fun v1 =>
  wIf (a1 < v1) (wgA h a0 0 0 fun r2 =>
  wnn r2 fun p3 => wldq h p3 (d 1) a1 fun r4 =>
  (a2 = 0 → wnn r4 fun p5 => wgI h p5 1 0 fun v6 =>
  Q v6 h) ∧ (a2 = 1 → wnn r4 fun p7 => wgI h p7 1 3 fun v8 =>
  Q v8 h) ∧ (a2 = 2 → wnn r4 fun p9 => wgI h p9 1 1 fun v10 =>
  Q v10 h) ∧ (a2 = 3 → wnn r4 fun p11 => wIs h p11 1 (wp_Batch_sizeInBytes d h p11 fun r13 h12 =>
  Q r13 h12)) ∧ (a2 = 4 → wnn r4 fun p14 => wgI h p14 1 4 fun v15 =>
  Q v15 h) ∧ (a2 = 5 → wIs h a0 0 (wp_LogCleaner_isKnown d h a0 a1 fun r17 h16 =>
  wIf (r17 = 0) (wb_LogCleaner_batch_106 d Q X 0 h16) (wb_LogCleaner_batch_106 d Q X 1 h16))) ∧ (a2.toInt < 0 ∨ 5 < a2.toInt → X "java/lang/IllegalArgumentException" h)) (wb_LogCleaner_batch_12 d Q X  h))
def wc_LogCleaner_entryAt_10 (d : Nat → ClassId) (Q : Option Nat → xw → Prop) (k10 : Nat → Int32 → Int32 → xw → Prop) (x0 : Nat) (x2 : Int32) (x3 : Int32) (h : xw) : Prop :=
  wgI h x0 0 1 fun v1 =>
  wIf (v1 ≤ x3) (Q none h) (wgA h x0 0 0 fun r2 =>
  wnn r2 fun p3 => wldq h p3 (d 1) x3 fun r4 =>
  wnn r4 fun p5 => wgI h p5 1 3 fun v6 =>
  wIf (v6 ≤ x2) (wgI h p5 1 3 fun v7 =>
  k10 x0 (x2 - v7) (x3 + 1) h) (wgA h p5 1 2 fun r8 =>
  wnn r8 fun p9 => wldq h p9 (d 0) x2 fun r10 =>
  Q r10 h))
def wp_LogCleaner_entryAt (d : Nat → ClassId) (h : xw) (a0 : Nat) (a1 : Int32) (Q : Option Nat → xw → Prop) : Prop :=
  wIf (0 ≤ a1) (wLoop (fun (k : Nat × Int32 × Int32 → xw → Prop) (x : Nat × Int32 × Int32) (h : xw) => wc_LogCleaner_entryAt_10 d Q (fun y0 y2 y3 h => k (y0, y2, y3) h) x.1 x.2.1 x.2.2 h) (a0, a1, 0) h) (Q none h)
abbrev wb_LogCleaner_told_94 (d : Nat → ClassId) (Q : Int64 → xw → Prop) (X : String → xw → Prop) (s0 : Int64) (h : xw) : Prop :=
  Q s0 h
def wp_LogCleaner_told (d : Nat → ClassId) (h : xw) (a0 : Nat) (a1 : Int32) (a2 : Int32) (Q : Int64 → xw → Prop) (X : String → xw → Prop) : Prop :=
  wIs h a0 0 (wp_LogCleaner_entryAt d h a0 a1 fun r2 h1 =>
  wNul r2 (X "java/lang/IllegalArgumentException" h1) (fun p3 => (a2 = 0 → wgI h1 p3 2 5 fun v4 =>
  Q v4.toInt64 h1) ∧ (a2 = 1 → wgI h1 p3 2 1 fun v5 =>
  Q v5.toInt64 h1) ∧ (a2 = 2 → wgL h1 p3 2 0 fun v6 =>
  Q v6 h1) ∧ (a2 = 3 → wgL h1 p3 2 3 fun v7 =>
  Q v7 h1) ∧ (a2 = 4 → wgI h1 p3 2 2 fun v8 =>
  wIf (v8 = 0) (wb_LogCleaner_told_94 d Q X 0 h1) (wb_LogCleaner_told_94 d Q X 1 h1)) ∧ (a2 = 5 → wgI h1 p3 2 4 fun v9 =>
  Q v9.toInt64 h1) ∧ (a2.toInt < 0 ∨ 5 < a2.toInt → X "java/lang/IllegalArgumentException" h1)))
abbrev wb_LogCleaner_latest_10 (d : Nat → ClassId) (Q : Int32 → xw → Prop) (X : String → xw → Prop) (h : xw) : Prop :=
  X "java/lang/IllegalArgumentException" h
abbrev wb_LogCleaner_latest_46 (d : Nat → ClassId) (Q : Int32 → xw → Prop) (X : String → xw → Prop) (s0 : Int32) (h : xw) : Prop :=
  Q s0 h
def wp_LogCleaner_latest (d : Nat → ClassId) (h : xw) (a0 : Nat) (a1 : Int64) (a3 : Int32) (Q : Int32 → xw → Prop) (X : String → xw → Prop) : Prop :=
  wIf (a3 < 0) (wb_LogCleaner_latest_10 d Q X  h) (wIf (a3 ≤ 8) (wp_LogCleaner_lowestBytes d h a1 a3 fun r2 h1 =>
  wIs h1 a0 0 (wp_LogCleaner_latestWithKey d h1 a0 r2 a3 fun r4 h3 =>
  wNul r4 (wb_LogCleaner_latest_46 d Q X (-1) h3) (fun p5 => wgI h3 p5 2 5 fun v6 =>
  wb_LogCleaner_latest_46 d Q X v6 h3))) (wb_LogCleaner_latest_10 d Q X  h))
def wp_LogCleanerModel_init (d : Nat → ClassId) (h : xw) (a0 : Nat) (Q : xw → Prop) : Prop :=
  wnewA h 4000 4000 (fun n => xai (d 2) n (fun _ => 0)) fun q2 h1 =>
  wpF h1 a0 4 2 (va_rf (some q2)) fun h3 =>
  wnewA h3 4000 4000 (fun n => xai (d 2) n (fun _ => 0)) fun q5 h4 =>
  wpF h4 a0 4 3 (va_rf (some q5)) fun h6 =>
  wnewA h6 4000 4000 (fun n => xal (d 3) n (fun _ => 0)) fun q8 h7 =>
  wpF h7 a0 4 4 (va_rf (some q8)) fun h9 =>
  wnewA h9 4000 4000 (fun n => xai (d 2) n (fun _ => 0)) fun q11 h10 =>
  wpF h10 a0 4 5 (va_rf (some q11)) fun h12 =>
  wnewA h12 4000 4000 (fun n => xai (d 4) n (fun _ => 0)) fun q14 h13 =>
  wpF h13 a0 4 6 (va_rf (some q14)) fun h15 =>
  wnewA h15 4000 4000 (fun n => xal (d 3) n (fun _ => 0)) fun q17 h16 =>
  wpF h16 a0 4 7 (va_rf (some q17)) fun h18 =>
  wnewA h18 4000 4000 (fun n => xai (d 2) n (fun _ => 0)) fun q20 h19 =>
  wpF h19 a0 4 8 (va_rf (some q20)) fun h21 =>
  wnewA h21 100 100 (fun n => xal (d 3) n (fun _ => 0)) fun q23 h22 =>
  wpF h22 a0 4 11 (va_rf (some q23)) fun h24 =>
  wnewA h24 100 100 (fun n => xai (d 2) n (fun _ => 0)) fun q26 h25 =>
  wpF h25 a0 4 12 (va_rf (some q26)) fun h27 =>
  wnewA h27 100 100 (fun n => xai (d 4) n (fun _ => 0)) fun q29 h28 =>
  wpF h28 a0 4 13 (va_rf (some q29)) fun h30 =>
  wnewA h30 100 100 (fun n => xal (d 3) n (fun _ => 0)) fun q32 h31 =>
  wpF h31 a0 4 14 (va_rf (some q32)) fun h33 =>
  wnewA h33 100 100 (fun n => xai (d 2) n (fun _ => 0)) fun q35 h34 =>
  wpF h34 a0 4 15 (va_rf (some q35)) fun h36 =>
  wnewA h36 400 400 (fun n => xai (d 2) n (fun _ => 0)) fun q38 h37 =>
  wpF h37 a0 4 17 (va_rf (some q38)) fun h39 =>
  wnewA h39 400 400 (fun n => xai (d 2) n (fun _ => 0)) fun q41 h40 =>
  wpF h40 a0 4 18 (va_rf (some q41)) fun h42 =>
  wnewA h42 400 400 (fun n => xai (d 2) n (fun _ => 0)) fun q44 h43 =>
  wpF h43 a0 4 19 (va_rf (some q44)) fun h45 =>
  wnewA h45 4000 4000 (fun n => xai (d 4) n (fun _ => 0)) fun q47 h46 =>
  wpF h46 a0 4 20 (va_rf (some q47)) fun h48 =>
  wnewA h48 400 400 (fun n => xai (d 4) n (fun _ => 0)) fun q50 h49 =>
  wpF h49 a0 4 21 (va_rf (some q50)) fun h51 =>
  wnewA h51 400 400 (fun n => xai (d 2) n (fun _ => 0)) fun q53 h52 =>
  wpF h52 a0 4 22 (va_rf (some q53)) fun h54 =>
  Q h54
def wc_LogCleanerModel_lowest_7 (d : Nat → ClassId) (Q : Int64 → xw → Prop) (k7 : Int64 → Int64 → Int32 → xw → Prop) (x0 : Int64) (x3 : Int64) (x5 : Int32) (h : xw) : Prop :=
  wIf (x5 < 0) (Q x3 h) (k7 x0 ((x3 <<< ((8 : Int32).toInt64 &&& 63)) ||| ((x0 >>> ((8 * x5).toInt64 &&& 63)) &&& 255)) (x5 + (-1)) h)
def wp_LogCleanerModel_lowest (d : Nat → ClassId) (h : xw) (a0 : Int64) (a2 : Int32) (Q : Int64 → xw → Prop) : Prop :=
  wLoop (fun (k : Int64 × Int64 × Int32 → xw → Prop) (x : Int64 × Int64 × Int32) (h : xw) => wc_LogCleanerModel_lowest_7 d Q (fun y0 y3 y5 h => k (y0, y3, y5) h) x.1 x.2.1 x.2.2 h) (a0, 0, (a2 - 1)) h
abbrev wb_LogCleanerModel_record_118 (d : Nat → ClassId) (Q : Int32 → xw → Prop) (x0 : Nat) (x7 : Int32) (s0 : Int64) (s1 : Int32) (s2 : Option Nat) (h : xw) : Prop :=
  wnn s2 fun p19 => wstl h p19 (d 3) s1 s0 fun h20 =>
  wgA h20 x0 4 15 fun r21 =>
  wgI h20 x0 4 10 fun v22 =>
  wnn r21 fun p23 => wsti h20 p23 (d 2) v22 x7 fun h24 =>
  wgI h24 x0 4 10 fun v25 =>
  wpF h24 x0 4 10 (.int (v25 + 1)) fun h26 =>
  wgI h26 x0 4 10 fun v27 =>
  Q v27 h26
abbrev wb_LogCleanerModel_record_52 (d : Nat → ClassId) (Q : Int32 → xw → Prop) (x0 : Nat) (x1 : Int64) (x3 : Int32) (x4 : Int32) (x5 : Int64) (x7 : Int32) (s0 : Int32) (s1 : Nat) (h : xw) : Prop :=
  wpF h s1 4 0 (.int s0) fun h1 =>
  wgI h1 x0 4 0 fun v2 =>
  wIf (v2 ≤ 0) (wgA h1 x0 4 11 fun r3 =>
  wgI h1 x0 4 10 fun v4 =>
  wp_LogCleanerModel_lowest d h1 x1 x3 fun r6 h5 =>
  wnn r3 fun p7 => wstl h5 p7 (d 3) v4 r6 fun h8 =>
  wgA h8 x0 4 12 fun r9 =>
  wgI h8 x0 4 10 fun v10 =>
  wnn r9 fun p11 => wsti h8 p11 (d 2) v10 x3 fun h12 =>
  wgA h12 x0 4 13 fun r13 =>
  wgI h12 x0 4 10 fun v14 =>
  wnn r13 fun p15 => wstz h12 p15 (d 4) v14 x4 fun h16 =>
  wgA h16 x0 4 14 fun r17 =>
  wgI h16 x0 4 10 fun v18 =>
  wIf (x4 = 0) (wb_LogCleanerModel_record_118 d Q x0 x7 0 v18 r17 h16) (wb_LogCleanerModel_record_118 d Q x0 x7 x5 v18 r17 h16)) (Q 0 h1)
abbrev wb_LogCleanerModel_record_17 (d : Nat → ClassId) (Q : Int32 → xw → Prop) (x0 : Nat) (x1 : Int64) (x3 : Int32) (x4 : Int32) (x5 : Int64) (x7 : Int32) (s0 : Nat) (h : xw) : Prop :=
  wb_LogCleanerModel_record_52 d Q x0 x1 x3 x4 x5 x7 1 s0 h
abbrev wb_LogCleanerModel_record_47 (d : Nat → ClassId) (Q : Int32 → xw → Prop) (x0 : Nat) (x1 : Int64) (x3 : Int32) (x4 : Int32) (x5 : Int64) (x7 : Int32) (s0 : Nat) (h : xw) : Prop :=
  wb_LogCleanerModel_record_52 d Q x0 x1 x3 x4 x5 x7 2 s0 h
def wp_LogCleanerModel_record (d : Nat → ClassId) (h : xw) (a0 : Nat) (a1 : Int64) (a3 : Int32) (a4 : Int32) (a5 : Int64) (a7 : Int32) (Q : Int32 → xw → Prop) : Prop :=
  wIf (a3 < (-1)) (wb_LogCleanerModel_record_17 d Q a0 a1 a3 a4 a5 a7 a0 h) (wIf (8 < a3) (wb_LogCleanerModel_record_17 d Q a0 a1 a3 a4 a5 a7 a0 h) (wIf (0 ≤ a7) (wgI h a0 4 10 fun v28 =>
  wIf (v28 = 100) (wb_LogCleanerModel_record_47 d Q a0 a1 a3 a4 a5 a7 a0 h) (wgI h a0 4 1 fun v29 =>
  wgI h a0 4 10 fun v30 =>
  wIf (((v29 + v30) + 1) ≤ 4000) (wb_LogCleanerModel_record_52 d Q a0 a1 a3 a4 a5 a7 0 a0 h) (wb_LogCleanerModel_record_47 d Q a0 a1 a3 a4 a5 a7 a0 h))) (wb_LogCleanerModel_record_17 d Q a0 a1 a3 a4 a5 a7 a0 h)))
def wp_LogCleanerModel_thrown (d : Nat → ClassId) (h : xw) (a0 : Nat) (Q : Int32 → xw → Prop) : Prop :=
  wgI h a0 4 0 fun v1 =>
  Q v1 h
abbrev wb_LogCleanerModel_sizeOf_64 (d : Nat → ClassId) (k5 : Nat → Int32 → Int32 → Int32 → xw → Prop) (Q : Int32 → xw → Prop) (x0 : Nat) (x1 : Int32) (x2 : Int32) (x3 : Int32) (h : xw) : Prop :=
  k5 x0 x1 x2 (x3 + 1) h
abbrev wb_LogCleanerModel_sizeOf_61 (d : Nat → ClassId) (k5 : Nat → Int32 → Int32 → Int32 → xw → Prop) (Q : Int32 → xw → Prop) (x0 : Nat) (x1 : Int32) (x3 : Int32) (s0 : Int32) (s1 : Int32) (s2 : Int32) (h : xw) : Prop :=
  wb_LogCleanerModel_sizeOf_64 d k5 Q x0 x1 (s2 + (s1 + s0)) x3 h
abbrev wb_LogCleanerModel_sizeOf_45 (d : Nat → ClassId) (k5 : Nat → Int32 → Int32 → Int32 → xw → Prop) (Q : Int32 → xw → Prop) (x0 : Nat) (x1 : Int32) (x3 : Int32) (s0 : Int32) (s1 : Int32) (s2 : Int32) (h : xw) : Prop :=
  wgA h x0 4 6 fun r8 =>
  wnn r8 fun p9 => wldi h p9 (d 4) x3 fun v10 =>
  wIf (v10 = 0) (wb_LogCleanerModel_sizeOf_61 d k5 Q x0 x1 x3 0 (s1 + s0) s2 h) (wb_LogCleanerModel_sizeOf_61 d k5 Q x0 x1 x3 8 (s1 + s0) s2 h)
def wc_LogCleanerModel_sizeOf_5 (d : Nat → ClassId) (Q : Int32 → xw → Prop) (k5 : Nat → Int32 → Int32 → Int32 → xw → Prop) (x0 : Nat) (x1 : Int32) (x2 : Int32) (x3 : Int32) (h : xw) : Prop :=
  wgI h x0 4 1 fun v1 =>
  wIf (v1 ≤ x3) (Q x2 h) (wgA h x0 4 2 fun r2 =>
  wnn r2 fun p3 => wldi h p3 (d 2) x3 fun v4 =>
  wIf (v4 = x1) (wgA h x0 4 5 fun r5 =>
  wnn r5 fun p6 => wldi h p6 (d 2) x3 fun v7 =>
  wIf (v7 ≤ 0) (wb_LogCleanerModel_sizeOf_45 d k5 Q x0 x1 x3 0 8 x2 h) (wgA h x0 4 5 fun r11 =>
  wnn r11 fun p12 => wldi h p12 (d 2) x3 fun v13 =>
  wb_LogCleanerModel_sizeOf_45 d k5 Q x0 x1 x3 v13 8 x2 h)) (wb_LogCleanerModel_sizeOf_64 d k5 Q x0 x1 x2 x3 h))
def wp_LogCleanerModel_sizeOf (d : Nat → ClassId) (h : xw) (a0 : Nat) (a1 : Int32) (Q : Int32 → xw → Prop) : Prop :=
  wLoop (fun (k : Nat × Int32 × Int32 × Int32 → xw → Prop) (x : Nat × Int32 × Int32 × Int32) (h : xw) => wc_LogCleanerModel_sizeOf_5 d Q (fun y0 y1 y2 y3 h => k (y0, y1, y2, y3) h) x.1 x.2.1 x.2.2.1 x.2.2.2 h) (a0, a1, 61, 0) h
abbrev wb_LogCleanerModel_close_318 (d : Nat → ClassId) (Q : Int32 → xw → Prop) (x0 : Nat) (s0 : Int32) (s1 : Int32) (s2 : Option Nat) (h : xw) : Prop :=
  wnn s2 fun p22 => wsti h p22 (d 2) s1 s0 fun h23 =>
  wgI h23 x0 4 16 fun v24 =>
  wpF h23 x0 4 16 (.int (v24 + 1)) fun h25 =>
  wpF h25 x0 4 10 (.int 0) fun h26 =>
  wgA h26 x0 4 17 fun r27 =>
  wgI h26 x0 4 16 fun v28 =>
  wnn r27 fun p29 => wldi h26 p29 (d 2) (v28 - 1) fun v30 =>
  Q v30 h26
abbrev wb_LogCleanerModel_close_268 (d : Nat → ClassId) (k237 : Nat → Int32 → Int32 → Int32 → xw → Prop) (Q : Int32 → xw → Prop) (x0 : Nat) (x3 : Int32) (x4 : Int32) (s0 : Int32) (s1 : Int32) (h : xw) : Prop :=
  k237 x0 (s1 + s0) x3 (x4 + 1) h
def wc_LogCleanerModel_close_237 (d : Nat → ClassId) (Q : Int32 → xw → Prop) (k237 : Nat → Int32 → Int32 → Int32 → xw → Prop) (x0 : Nat) (x2 : Int32) (x3 : Int32) (x4 : Int32) (h : xw) : Prop :=
  wgI h x0 4 16 fun v15 =>
  wIf (v15 ≤ x4) (wgA h x0 4 19 fun r16 =>
  wgI h x0 4 16 fun v17 =>
  wgI h x0 4 16 fun v18 =>
  wIf (v18 = 0) (wb_LogCleanerModel_close_318 d Q x0 0 v17 r16 h) (wgI h x0 4 16 fun v19 =>
  wIs h x0 4 (wp_LogCleanerModel_sizeOf d h x0 v19 fun r21 h20 =>
  wIf ((x2 + r21) ≤ 1000) (wb_LogCleanerModel_close_318 d Q x0 x3 v17 r16 h20) (wb_LogCleanerModel_close_318 d Q x0 (x3 + 1) v17 r16 h20)))) (wgA h x0 4 19 fun r31 =>
  wnn r31 fun p32 => wldi h p32 (d 2) x4 fun v33 =>
  wIf (v33 = x3) (wIs h x0 4 (wp_LogCleanerModel_sizeOf d h x0 x4 fun r35 h34 =>
  wb_LogCleanerModel_close_268 d k237 Q x0 x3 x4 r35 x2 h34)) (wb_LogCleanerModel_close_268 d k237 Q x0 x3 x4 0 x2 h))
def wc_LogCleanerModel_close_211 (d : Nat → ClassId) (Q : Int32 → xw → Prop) (k211 : Nat → Int32 → Int32 → Int32 → xw → Prop) (x0 : Nat) (x2 : Int32) (x3 : Int32) (x4 : Int32) (h : xw) : Prop :=
  wgI h x0 4 16 fun v14 =>
  wIf (v14 ≤ x4) (wLoop (fun (k : Nat × Int32 × Int32 × Int32 → xw → Prop) (x : Nat × Int32 × Int32 × Int32) (h : xw) => wc_LogCleanerModel_close_237 d Q (fun y0 y2 y3 y4 h => k (y0, y2, y3, y4) h) x.1 x.2.1 x.2.2.1 x.2.2.2 h) (x0, x2, x3, 0) h) (wgA h x0 4 19 fun r36 =>
  wnn r36 fun p37 => wldi h p37 (d 2) x4 fun v38 =>
  k211 x0 x2 v38 (x4 + 1) h)
def wc_LogCleanerModel_close_69 (d : Nat → ClassId) (Q : Int32 → xw → Prop) (k69 : Nat → Int32 → xw → Prop) (x0 : Nat) (x2 : Int32) (h : xw) : Prop :=
  wgI h x0 4 10 fun v13 =>
  wIf (v13 ≤ x2) (wLoop (fun (k : Nat × Int32 × Int32 × Int32 → xw → Prop) (x : Nat × Int32 × Int32 × Int32) (h : xw) => wc_LogCleanerModel_close_211 d Q (fun y0 y2 y3 y4 h => k (y0, y2, y3, y4) h) x.1 x.2.1 x.2.2.1 x.2.2.2 h) (x0, 0, 0, 0) h) (wgA h x0 4 2 fun r39 =>
  wgI h x0 4 1 fun v40 =>
  wgI h x0 4 16 fun v41 =>
  wnn r39 fun p42 => wsti h p42 (d 2) v40 v41 fun h43 =>
  wgA h43 x0 4 3 fun r44 =>
  wgI h43 x0 4 1 fun v45 =>
  wgI h43 x0 4 9 fun v46 =>
  wnn r44 fun p47 => wsti h43 p47 (d 2) v45 v46 fun h48 =>
  wgA h48 x0 4 4 fun r49 =>
  wgI h48 x0 4 1 fun v50 =>
  wgA h48 x0 4 11 fun r51 =>
  wnn r51 fun p52 => wldl h48 p52 (d 3) x2 fun v53 =>
  wnn r49 fun p54 => wstl h48 p54 (d 3) v50 v53 fun h55 =>
  wgA h55 x0 4 5 fun r56 =>
  wgI h55 x0 4 1 fun v57 =>
  wgA h55 x0 4 12 fun r58 =>
  wnn r58 fun p59 => wldi h55 p59 (d 2) x2 fun v60 =>
  wnn r56 fun p61 => wsti h55 p61 (d 2) v57 v60 fun h62 =>
  wgA h62 x0 4 6 fun r63 =>
  wgI h62 x0 4 1 fun v64 =>
  wgA h62 x0 4 13 fun r65 =>
  wnn r65 fun p66 => wldi h62 p66 (d 4) x2 fun v67 =>
  wnn r63 fun p68 => wstz h62 p68 (d 4) v64 v67 fun h69 =>
  wgA h69 x0 4 7 fun r70 =>
  wgI h69 x0 4 1 fun v71 =>
  wgA h69 x0 4 14 fun r72 =>
  wnn r72 fun p73 => wldl h69 p73 (d 3) x2 fun v74 =>
  wnn r70 fun p75 => wstl h69 p75 (d 3) v71 v74 fun h76 =>
  wgA h76 x0 4 8 fun r77 =>
  wgI h76 x0 4 1 fun v78 =>
  wgA h76 x0 4 15 fun r79 =>
  wnn r79 fun p80 => wldi h76 p80 (d 2) x2 fun v81 =>
  wnn r77 fun p82 => wsti h76 p82 (d 2) v78 v81 fun h83 =>
  wgI h83 x0 4 1 fun v84 =>
  wpF h83 x0 4 1 (.int (v84 + 1)) fun h85 =>
  wgI h85 x0 4 9 fun v86 =>
  wpF h85 x0 4 9 (.int (v86 + 1)) fun h87 =>
  k69 x0 (x2 + 1) h87)
abbrev wb_LogCleanerModel_close_32 (d : Nat → ClassId) (Q : Int32 → xw → Prop) (x0 : Nat) (x1 : Int32) (s0 : Int32) (s1 : Nat) (h : xw) : Prop :=
  wpF h s1 4 0 (.int s0) fun h2 =>
  wgI h2 x0 4 0 fun v3 =>
  wIf (v3 ≤ 0) (wgA h2 x0 4 17 fun r4 =>
  wgI h2 x0 4 16 fun v5 =>
  wgI h2 x0 4 9 fun v6 =>
  wnn r4 fun p7 => wsti h2 p7 (d 2) v5 v6 fun h8 =>
  wgA h8 x0 4 18 fun r9 =>
  wgI h8 x0 4 16 fun v10 =>
  wnn r9 fun p11 => wsti h8 p11 (d 2) v10 x1 fun h12 =>
  wLoop (fun (k : Nat × Int32 → xw → Prop) (x : Nat × Int32) (h : xw) => wc_LogCleanerModel_close_69 d Q (fun y0 y2 h => k (y0, y2) h) x.1 x.2 h) (x0, 0) h12) (Q 0 h2)
abbrev wb_LogCleanerModel_close_27 (d : Nat → ClassId) (Q : Int32 → xw → Prop) (x0 : Nat) (x1 : Int32) (s0 : Nat) (h : xw) : Prop :=
  wb_LogCleanerModel_close_32 d Q x0 x1 2 s0 h
def wp_LogCleanerModel_close (d : Nat → ClassId) (h : xw) (a0 : Nat) (a1 : Int32) (Q : Int32 → xw → Prop) : Prop :=
  wIf ((-1) ≤ a1) (wgI h a0 4 10 fun v1 =>
  wIf (v1 = 0) (wb_LogCleanerModel_close_27 d Q a0 a1 a0 h) (wgI h a0 4 16 fun v88 =>
  wIf (v88 = 400) (wb_LogCleanerModel_close_27 d Q a0 a1 a0 h) (wb_LogCleanerModel_close_32 d Q a0 a1 0 a0 h))) (wb_LogCleanerModel_close_32 d Q a0 a1 1 a0 h)
abbrev wb_LogCleanerModel_isClosed_25 (d : Nat → ClassId) (Q : Int32 → xw → Prop) (s0 : Int32) (h : xw) : Prop :=
  wZ s0 (Q s0 h)
def wp_LogCleanerModel_isClosed (d : Nat → ClassId) (h : xw) (a0 : Nat) (a1 : Int32) (Q : Int32 → xw → Prop) : Prop :=
  wgA h a0 4 19 fun r1 =>
  wnn r1 fun p2 => wldi h p2 (d 2) a1 fun v3 =>
  wgA h a0 4 19 fun r4 =>
  wgI h a0 4 16 fun v5 =>
  wnn r4 fun p6 => wldi h p6 (d 2) (v5 - 1) fun v7 =>
  wIf (v3 = v7) (wb_LogCleanerModel_isClosed_25 d Q 0 h) (wb_LogCleanerModel_isClosed_25 d Q 1 h)
abbrev wb_LogCleanerModel_isOver_22 (d : Nat → ClassId) (Q : Int32 → xw → Prop) (h : xw) : Prop :=
  wZ 0 (Q 0 h)
abbrev wb_LogCleanerModel_isOver_121 (d : Nat → ClassId) (Q : Int32 → xw → Prop) (s0 : Int32) (h : xw) : Prop :=
  wZ s0 (Q s0 h)
abbrev wb_LogCleanerModel_isOver_116 (d : Nat → ClassId) (Q : Int32 → xw → Prop) (h : xw) : Prop :=
  wb_LogCleanerModel_isOver_121 d Q 1 h
abbrev wb_LogCleanerModel_isOver_120 (d : Nat → ClassId) (Q : Int32 → xw → Prop) (h : xw) : Prop :=
  wb_LogCleanerModel_isOver_121 d Q 0 h
abbrev wb_LogCleanerModel_isOver_89 (d : Nat → ClassId) (Q : Int32 → xw → Prop) (x0 : Nat) (x1 : Int32) (x2 : Int32) (x3 : Int32) (h : xw) : Prop :=
  wIf (x3 = 0) (wgA h x0 4 6 fun r10 =>
  wnn r10 fun p11 => wldi h p11 (d 4) x1 fun v12 =>
  wIf (v12 = 0) (wgA h x0 4 8 fun r13 =>
  wnn r13 fun p14 => wldi h p14 (d 2) x1 fun v15 =>
  wIf ((x2 - 1000) < v15) (wb_LogCleanerModel_isOver_120 d Q  h) (wb_LogCleanerModel_isOver_116 d Q  h)) (wb_LogCleanerModel_isOver_120 d Q  h)) (wb_LogCleanerModel_isOver_116 d Q  h)
abbrev wb_LogCleanerModel_isOver_82 (d : Nat → ClassId) (k31 : Nat → Int32 → Int32 → Int32 → Int32 → xw → Prop) (Q : Int32 → xw → Prop) (x0 : Nat) (x1 : Int32) (x2 : Int32) (x4 : Int32) (s0 : Int32) (h : xw) : Prop :=
  k31 x0 x1 x2 s0 (x4 + 1) h
abbrev wb_LogCleanerModel_isOver_81 (d : Nat → ClassId) (k31 : Nat → Int32 → Int32 → Int32 → Int32 → xw → Prop) (Q : Int32 → xw → Prop) (x0 : Nat) (x1 : Int32) (x2 : Int32) (x4 : Int32) (h : xw) : Prop :=
  wb_LogCleanerModel_isOver_82 d k31 Q x0 x1 x2 x4 0 h
def wc_LogCleanerModel_isOver_31 (d : Nat → ClassId) (Q : Int32 → xw → Prop) (k31 : Nat → Int32 → Int32 → Int32 → Int32 → xw → Prop) (x0 : Nat) (x1 : Int32) (x2 : Int32) (x3 : Int32) (x4 : Int32) (h : xw) : Prop :=
  wgI h x0 4 1 fun v9 =>
  wIf (v9 ≤ x4) (wb_LogCleanerModel_isOver_89 d Q x0 x1 x2 x3 h) (wIf (x3 = 0) (wgA h x0 4 5 fun r16 =>
  wnn r16 fun p17 => wldi h p17 (d 2) x4 fun v18 =>
  wgA h x0 4 5 fun r19 =>
  wnn r19 fun p20 => wldi h p20 (d 2) x1 fun v21 =>
  wIf (v18 = v21) (wgA h x0 4 4 fun r22 =>
  wnn r22 fun p23 => wldl h p23 (d 3) x4 fun v24 =>
  wgA h x0 4 4 fun r25 =>
  wnn r25 fun p26 => wldl h p26 (d 3) x1 fun v27 =>
  wIf ((lg_cmp v24 v27) = 0) (wb_LogCleanerModel_isOver_82 d k31 Q x0 x1 x2 x4 1 h) (wb_LogCleanerModel_isOver_81 d k31 Q x0 x1 x2 x4 h)) (wb_LogCleanerModel_isOver_81 d k31 Q x0 x1 x2 x4 h)) (wb_LogCleanerModel_isOver_89 d Q x0 x1 x2 x3 h))
def wp_LogCleanerModel_isOver (d : Nat → ClassId) (h : xw) (a0 : Nat) (a1 : Int32) (a2 : Int32) (Q : Int32 → xw → Prop) : Prop :=
  wgA h a0 4 5 fun r1 =>
  wnn r1 fun p2 => wldi h p2 (d 2) a1 fun v3 =>
  wIf (v3 < 0) (wb_LogCleanerModel_isOver_22 d Q  h) (wgA h a0 4 2 fun r4 =>
  wnn r4 fun p5 => wldi h p5 (d 2) a1 fun v6 =>
  wIs h a0 4 (wp_LogCleanerModel_isClosed d h a0 v6 fun r8 h7 =>
  wIf (r8 = 0) (wb_LogCleanerModel_isOver_22 d Q  h7) (wLoop (fun (k : Nat × Int32 × Int32 × Int32 × Int32 → xw → Prop) (x : Nat × Int32 × Int32 × Int32 × Int32) (h : xw) => wc_LogCleanerModel_isOver_31 d Q (fun y0 y1 y2 y3 y4 h => k (y0, y1, y2, y3, y4) h) x.1 x.2.1 x.2.2.1 x.2.2.2.1 x.2.2.2.2 h) (a0, a1, a2, 0, (a1 + 1)) h7)))
abbrev wb_LogCleanerModel_isKnown_62 (d : Nat → ClassId) (Q : Int32 → xw → Prop) (s0 : Int32) (h : xw) : Prop :=
  wZ s0 (Q s0 h)
abbrev wb_LogCleanerModel_isKnown_61 (d : Nat → ClassId) (Q : Int32 → xw → Prop) (h : xw) : Prop :=
  wb_LogCleanerModel_isKnown_62 d Q 0 h
abbrev wb_LogCleanerModel_isKnown_35 (d : Nat → ClassId) (k6 : Nat → Int32 → Int32 → Int32 → xw → Prop) (Q : Int32 → xw → Prop) (x0 : Nat) (x1 : Int32) (x3 : Int32) (s0 : Int32) (s1 : Int32) (h : xw) : Prop :=
  k6 x0 x1 (s1 + s0) (x3 + 1) h
def wc_LogCleanerModel_isKnown_6 (d : Nat → ClassId) (Q : Int32 → xw → Prop) (k6 : Nat → Int32 → Int32 → Int32 → xw → Prop) (x0 : Nat) (x1 : Int32) (x2 : Int32) (x3 : Int32) (h : xw) : Prop :=
  wgI h x0 4 16 fun v1 =>
  wIf (v1 ≤ x3) (wgA h x0 4 18 fun r2 =>
  wnn r2 fun p3 => wldi h p3 (d 2) x1 fun v4 =>
  wIf (v4 < 0) (wb_LogCleanerModel_isKnown_61 d Q  h) (wIf (2 ≤ x2) (wb_LogCleanerModel_isKnown_61 d Q  h) (wb_LogCleanerModel_isKnown_62 d Q 1 h))) (wgA h x0 4 18 fun r5 =>
  wnn r5 fun p6 => wldi h p6 (d 2) x3 fun v7 =>
  wgA h x0 4 18 fun r8 =>
  wnn r8 fun p9 => wldi h p9 (d 2) x1 fun v10 =>
  wIf (v7 = v10) (wb_LogCleanerModel_isKnown_35 d k6 Q x0 x1 x3 1 x2 h) (wb_LogCleanerModel_isKnown_35 d k6 Q x0 x1 x3 0 x2 h))
def wp_LogCleanerModel_isKnown (d : Nat → ClassId) (h : xw) (a0 : Nat) (a1 : Int32) (Q : Int32 → xw → Prop) : Prop :=
  wLoop (fun (k : Nat × Int32 × Int32 × Int32 → xw → Prop) (x : Nat × Int32 × Int32 × Int32) (h : xw) => wc_LogCleanerModel_isKnown_6 d Q (fun y0 y1 y2 y3 h => k (y0, y1, y2, y3) h) x.1 x.2.1 x.2.2.1 x.2.2.2 h) (a0, a1, 0, (a1 + 1)) h
abbrev wb_LogCleanerModel_takeOut_191 (d : Nat → ClassId) (k82 : Nat → Int32 → Int32 → xw → Prop) (Q : Int32 → xw → Prop) (x0 : Nat) (x2 : Int32) (x3 : Int32) (h : xw) : Prop :=
  k82 x0 x2 (x3 + 1) h
def wc_LogCleanerModel_takeOut_82 (d : Nat → ClassId) (Q : Int32 → xw → Prop) (k82 : Nat → Int32 → Int32 → xw → Prop) (x0 : Nat) (x2 : Int32) (x3 : Int32) (h : xw) : Prop :=
  wgI h x0 4 1 fun v3 =>
  wIf (v3 ≤ x3) (wgI h x0 4 1 fun v4 =>
  wpF h x0 4 1 (.int x2) fun h5 =>
  Q (v4 - x2) h5) (wgA h x0 4 20 fun r6 =>
  wnn r6 fun p7 => wldi h p7 (d 4) x3 fun v8 =>
  wIf (v8 = 0) (wgA h x0 4 2 fun r9 =>
  wgA h x0 4 22 fun r10 =>
  wgA h x0 4 2 fun r11 =>
  wnn r11 fun p12 => wldi h p12 (d 2) x3 fun v13 =>
  wnn r10 fun p14 => wldi h p14 (d 2) v13 fun v15 =>
  wnn r9 fun p16 => wsti h p16 (d 2) x2 v15 fun h17 =>
  wgA h17 x0 4 3 fun r18 =>
  wgA h17 x0 4 3 fun r19 =>
  wnn r19 fun p20 => wldi h17 p20 (d 2) x3 fun v21 =>
  wnn r18 fun p22 => wsti h17 p22 (d 2) x2 v21 fun h23 =>
  wgA h23 x0 4 4 fun r24 =>
  wgA h23 x0 4 4 fun r25 =>
  wnn r25 fun p26 => wldl h23 p26 (d 3) x3 fun v27 =>
  wnn r24 fun p28 => wstl h23 p28 (d 3) x2 v27 fun h29 =>
  wgA h29 x0 4 5 fun r30 =>
  wgA h29 x0 4 5 fun r31 =>
  wnn r31 fun p32 => wldi h29 p32 (d 2) x3 fun v33 =>
  wnn r30 fun p34 => wsti h29 p34 (d 2) x2 v33 fun h35 =>
  wgA h35 x0 4 6 fun r36 =>
  wgA h35 x0 4 6 fun r37 =>
  wnn r37 fun p38 => wldi h35 p38 (d 4) x3 fun v39 =>
  wnn r36 fun p40 => wstz h35 p40 (d 4) x2 v39 fun h41 =>
  wgA h41 x0 4 7 fun r42 =>
  wgA h41 x0 4 7 fun r43 =>
  wnn r43 fun p44 => wldl h41 p44 (d 3) x3 fun v45 =>
  wnn r42 fun p46 => wstl h41 p46 (d 3) x2 v45 fun h47 =>
  wgA h47 x0 4 8 fun r48 =>
  wgA h47 x0 4 8 fun r49 =>
  wnn r49 fun p50 => wldi h47 p50 (d 2) x3 fun v51 =>
  wnn r48 fun p52 => wsti h47 p52 (d 2) x2 v51 fun h53 =>
  wb_LogCleanerModel_takeOut_191 d k82 Q x0 (x2 + 1) x3 h53) (wb_LogCleanerModel_takeOut_191 d k82 Q x0 x2 x3 h))
abbrev wb_LogCleanerModel_takeOut_67 (d : Nat → ClassId) (k4 : Nat → Int32 → Int32 → xw → Prop) (Q : Int32 → xw → Prop) (x0 : Nat) (x1 : Int32) (x2 : Int32) (h : xw) : Prop :=
  k4 x0 x1 (x2 + 1) h
def wc_LogCleanerModel_takeOut_4 (d : Nat → ClassId) (Q : Int32 → xw → Prop) (k4 : Nat → Int32 → Int32 → xw → Prop) (x0 : Nat) (x1 : Int32) (x2 : Int32) (h : xw) : Prop :=
  wgI h x0 4 16 fun v1 =>
  wIf (v1 ≤ x2) (wpF h x0 4 16 (.int x1) fun h2 =>
  wLoop (fun (k : Nat × Int32 × Int32 → xw → Prop) (x : Nat × Int32 × Int32) (h : xw) => wc_LogCleanerModel_takeOut_82 d Q (fun y0 y2 y3 h => k (y0, y2, y3) h) x.1 x.2.1 x.2.2 h) (x0, 0, 0) h2) (wgA h x0 4 22 fun r54 =>
  wnn r54 fun p55 => wsti h p55 (d 2) x2 x1 fun h56 =>
  wgA h56 x0 4 21 fun r57 =>
  wnn r57 fun p58 => wldi h56 p58 (d 4) x2 fun v59 =>
  wIf (v59 = 0) (wb_LogCleanerModel_takeOut_67 d k4 Q x0 x1 x2 h56) (wgA h56 x0 4 17 fun r60 =>
  wgA h56 x0 4 17 fun r61 =>
  wnn r61 fun p62 => wldi h56 p62 (d 2) x2 fun v63 =>
  wnn r60 fun p64 => wsti h56 p64 (d 2) x1 v63 fun h65 =>
  wgA h65 x0 4 18 fun r66 =>
  wgA h65 x0 4 18 fun r67 =>
  wnn r67 fun p68 => wldi h65 p68 (d 2) x2 fun v69 =>
  wnn r66 fun p70 => wsti h65 p70 (d 2) x1 v69 fun h71 =>
  wgA h71 x0 4 19 fun r72 =>
  wgA h71 x0 4 19 fun r73 =>
  wnn r73 fun p74 => wldi h71 p74 (d 2) x2 fun v75 =>
  wnn r72 fun p76 => wsti h71 p76 (d 2) x1 v75 fun h77 =>
  wb_LogCleanerModel_takeOut_67 d k4 Q x0 (x1 + 1) x2 h77))
def wp_LogCleanerModel_takeOut (d : Nat → ClassId) (h : xw) (a0 : Nat) (Q : Int32 → xw → Prop) : Prop :=
  wLoop (fun (k : Nat × Int32 × Int32 → xw → Prop) (x : Nat × Int32 × Int32) (h : xw) => wc_LogCleanerModel_takeOut_4 d Q (fun y0 y1 y2 h => k (y0, y1, y2) h) x.1 x.2.1 x.2.2 h) (a0, 0, 0) h
abbrev wb_LogCleanerModel_clean_356 (d : Nat → ClassId) (k247 : Nat → Int32 → Int32 → Int32 → Int32 → Int32 → xw → Prop) (Q : Int32 → xw → Prop) (x0 : Nat) (x3 : Int32) (x4 : Int32) (x5 : Int32) (x6 : Int32) (x7 : Int32) (h : xw) : Prop :=
  k247 x0 x3 x4 x5 x6 (x7 + 1) h
abbrev wb_LogCleanerModel_clean_355 (d : Nat → ClassId) (k247 : Nat → Int32 → Int32 → Int32 → Int32 → Int32 → xw → Prop) (Q : Int32 → xw → Prop) (x0 : Nat) (x3 : Int32) (x4 : Int32) (x5 : Int32) (x6 : Int32) (x7 : Int32) (s0 : Int32) (s1 : Int32) (s2 : Option Nat) (h : xw) : Prop :=
  wnn s2 fun p11 => wsti h p11 (d 2) s1 s0 fun h12 =>
  wb_LogCleanerModel_clean_356 d k247 Q x0 x3 x4 x5 x6 x7 h12
abbrev wb_LogCleanerModel_clean_323 (d : Nat → ClassId) (k247 : Nat → Int32 → Int32 → Int32 → Int32 → Int32 → xw → Prop) (Q : Int32 → xw → Prop) (x0 : Nat) (x3 : Int32) (x4 : Int32) (x6 : Int32) (x7 : Int32) (s0 : Int32) (h : xw) : Prop :=
  wgA h x0 4 19 fun r13 =>
  wnn r13 fun p14 => wsti h p14 (d 2) x7 x6 fun h15 =>
  wb_LogCleanerModel_clean_356 d k247 Q x0 x3 x4 s0 x6 x7 h15
abbrev wb_LogCleanerModel_clean_305 (d : Nat → ClassId) (k247 : Nat → Int32 → Int32 → Int32 → Int32 → Int32 → xw → Prop) (Q : Int32 → xw → Prop) (x0 : Nat) (x3 : Int32) (x4 : Int32) (x5 : Int32) (x7 : Int32) (x8 : Int32) (x9 : Int32) (s0 : Int32) (s1 : Int32) (h : xw) : Prop :=
  wIf (x9 = 0) (wb_LogCleanerModel_clean_323 d k247 Q x0 x3 x4 (s1 + s0) x7 x8 h) (wb_LogCleanerModel_clean_323 d k247 Q x0 x3 x4 (s1 + s0) x7 (x5 + x8) h)
abbrev wb_LogCleanerModel_clean_291 (d : Nat → ClassId) (k247 : Nat → Int32 → Int32 → Int32 → Int32 → Int32 → xw → Prop) (Q : Int32 → xw → Prop) (x0 : Nat) (x3 : Int32) (x4 : Int32) (x5 : Int32) (x6 : Int32) (x7 : Int32) (x8 : Int32) (s0 : Int32) (h : xw) : Prop :=
  wIf (s0 = 0) (wb_LogCleanerModel_clean_305 d k247 Q x0 x3 x4 x5 x7 x8 s0 1 x6 h) (wb_LogCleanerModel_clean_305 d k247 Q x0 x3 x4 x5 x7 x8 s0 0 x6 h)
abbrev wb_LogCleanerModel_clean_286 (d : Nat → ClassId) (k247 : Nat → Int32 → Int32 → Int32 → Int32 → Int32 → xw → Prop) (Q : Int32 → xw → Prop) (x0 : Nat) (x3 : Int32) (x4 : Int32) (x5 : Int32) (x6 : Int32) (x7 : Int32) (x8 : Int32) (h : xw) : Prop :=
  wb_LogCleanerModel_clean_291 d k247 Q x0 x3 x4 x5 x6 x7 x8 1 h
def wc_LogCleanerModel_clean_247 (d : Nat → ClassId) (Q : Int32 → xw → Prop) (k247 : Nat → Int32 → Int32 → Int32 → Int32 → Int32 → xw → Prop) (x0 : Nat) (x3 : Int32) (x4 : Int32) (x5 : Int32) (x6 : Int32) (x7 : Int32) (h : xw) : Prop :=
  wgI h x0 4 16 fun v7 =>
  wIf (v7 ≤ x7) (Q x4 h) (wIs h x0 4 (wp_LogCleanerModel_sizeOf d h x0 x7 fun r9 h8 =>
  wIf (x3 ≤ x7) (wgA h8 x0 4 19 fun r10 =>
  wIf (x3 = 0) (wb_LogCleanerModel_clean_355 d k247 Q x0 x3 x4 x5 x6 x7 0 x7 r10 h8) (wb_LogCleanerModel_clean_355 d k247 Q x0 x3 x4 x5 x6 x7 (x6 + 1) x7 r10 h8)) (wIf (x7 = 0) (wb_LogCleanerModel_clean_286 d k247 Q x0 x3 x4 x5 x6 x7 r9 h8) (wIf (1000 < (x5 + r9)) (wb_LogCleanerModel_clean_291 d k247 Q x0 x3 x4 x5 x6 x7 r9 0 h8) (wb_LogCleanerModel_clean_286 d k247 Q x0 x3 x4 x5 x6 x7 r9 h8)))))
abbrev wb_LogCleanerModel_clean_218 (d : Nat → ClassId) (k76 : Nat → Int32 → Int32 → Int32 → xw → Prop) (Q : Int32 → xw → Prop) (x0 : Nat) (x2 : Int32) (x4 : Int32) (s0 : Int32) (s1 : Int32) (h : xw) : Prop :=
  k76 x0 x2 (s1 + s0) (x4 + 1) h
abbrev wb_LogCleanerModel_clean_217 (d : Nat → ClassId) (k76 : Nat → Int32 → Int32 → Int32 → xw → Prop) (Q : Int32 → xw → Prop) (x0 : Nat) (x2 : Int32) (x4 : Int32) (s0 : Int32) (h : xw) : Prop :=
  wb_LogCleanerModel_clean_218 d k76 Q x0 x2 x4 0 s0 h
abbrev wb_LogCleanerModel_clean_192 (d : Nat → ClassId) (k76 : Nat → Int32 → Int32 → Int32 → xw → Prop) (Q : Int32 → xw → Prop) (x0 : Nat) (x3 : Int32) (x4 : Int32) (s0 : Int32) (h : xw) : Prop :=
  wIs h x0 4 (wp_LogCleanerModel_isClosed d h x0 x4 fun r23 h22 =>
  wIf (r23 = 0) (wb_LogCleanerModel_clean_217 d k76 Q x0 s0 x4 x3 h22) (wgA h22 x0 4 21 fun r24 =>
  wnn r24 fun p25 => wldi h22 p25 (d 4) x4 fun v26 =>
  wIf (v26 = 0) (wb_LogCleanerModel_clean_217 d k76 Q x0 s0 x4 x3 h22) (wb_LogCleanerModel_clean_218 d k76 Q x0 s0 x4 1 x3 h22)))
abbrev wb_LogCleanerModel_clean_187 (d : Nat → ClassId) (k76 : Nat → Int32 → Int32 → Int32 → xw → Prop) (Q : Int32 → xw → Prop) (x0 : Nat) (x3 : Int32) (x4 : Int32) (h : xw) : Prop :=
  wb_LogCleanerModel_clean_192 d k76 Q x0 x3 x4 1 h
abbrev wb_LogCleanerModel_clean_172 (d : Nat → ClassId) (k76 : Nat → Int32 → Int32 → Int32 → xw → Prop) (Q : Int32 → xw → Prop) (x0 : Nat) (x2 : Int32) (x3 : Int32) (x4 : Int32) (s0 : Int32) (s1 : Int32) (s2 : Option Nat) (h : xw) : Prop :=
  wnn s2 fun p20 => wstz h p20 (d 4) s1 s0 fun h21 =>
  wIf (x2 = 0) (wgA h21 x0 4 21 fun r27 =>
  wnn r27 fun p28 => wldi h21 p28 (d 4) x4 fun v29 =>
  wIf (v29 = 0) (wb_LogCleanerModel_clean_187 d k76 Q x0 x3 x4 h21) (wb_LogCleanerModel_clean_192 d k76 Q x0 x3 x4 0 h21)) (wb_LogCleanerModel_clean_187 d k76 Q x0 x3 x4 h21)
abbrev wb_LogCleanerModel_clean_167 (d : Nat → ClassId) (k76 : Nat → Int32 → Int32 → Int32 → xw → Prop) (Q : Int32 → xw → Prop) (x0 : Nat) (x2 : Int32) (x3 : Int32) (x4 : Int32) (s0 : Int32) (s1 : Option Nat) (h : xw) : Prop :=
  wb_LogCleanerModel_clean_172 d k76 Q x0 x2 x3 x4 1 s0 s1 h
abbrev wb_LogCleanerModel_clean_129 (d : Nat → ClassId) (k76 : Nat → Int32 → Int32 → Int32 → xw → Prop) (k91 : Nat → Int32 → Int32 → Int32 → Int32 → Int32 → xw → Prop) (Q : Int32 → xw → Prop) (x0 : Nat) (x2 : Int32) (x3 : Int32) (x4 : Int32) (x6 : Int32) (s0 : Int32) (s1 : Int32) (h : xw) : Prop :=
  k91 x0 x2 x3 x4 (s1 + s0) (x6 + 1) h
abbrev wb_LogCleanerModel_clean_128 (d : Nat → ClassId) (k76 : Nat → Int32 → Int32 → Int32 → xw → Prop) (k91 : Nat → Int32 → Int32 → Int32 → Int32 → Int32 → xw → Prop) (Q : Int32 → xw → Prop) (x0 : Nat) (x2 : Int32) (x3 : Int32) (x4 : Int32) (x6 : Int32) (s0 : Int32) (h : xw) : Prop :=
  wb_LogCleanerModel_clean_129 d k76 k91 Q x0 x2 x3 x4 x6 0 s0 h
def wc_LogCleanerModel_clean_91 (d : Nat → ClassId) (k76 : Nat → Int32 → Int32 → Int32 → xw → Prop) (Q : Int32 → xw → Prop) (k91 : Nat → Int32 → Int32 → Int32 → Int32 → Int32 → xw → Prop) (x0 : Nat) (x2 : Int32) (x3 : Int32) (x4 : Int32) (x5 : Int32) (x6 : Int32) (h : xw) : Prop :=
  wgI h x0 4 1 fun v16 =>
  wIf (v16 ≤ x6) (wgA h x0 4 21 fun r17 =>
  wIs h x0 4 (wp_LogCleanerModel_isClosed d h x0 x4 fun r19 h18 =>
  wIf (r19 = 0) (wb_LogCleanerModel_clean_167 d k76 Q x0 x2 x3 x4 x4 r17 h18) (wIf (0 < x5) (wb_LogCleanerModel_clean_167 d k76 Q x0 x2 x3 x4 x4 r17 h18) (wIs h18 x0 4 (wp_LogCleanerModel_isKnown d h18 x0 x4 fun r31 h30 =>
  wIf (r31 = 0) (wb_LogCleanerModel_clean_172 d k76 Q x0 x2 x3 x4 0 x4 r17 h30) (wb_LogCleanerModel_clean_167 d k76 Q x0 x2 x3 x4 x4 r17 h30)))))) (wgA h x0 4 2 fun r32 =>
  wnn r32 fun p33 => wldi h p33 (d 2) x6 fun v34 =>
  wIf (v34 = x4) (wgA h x0 4 20 fun r35 =>
  wnn r35 fun p36 => wldi h p36 (d 4) x6 fun v37 =>
  wIf (v37 = 0) (wb_LogCleanerModel_clean_129 d k76 k91 Q x0 x2 x3 x4 x6 1 x5 h) (wb_LogCleanerModel_clean_128 d k76 k91 Q x0 x2 x3 x4 x6 x5 h)) (wb_LogCleanerModel_clean_128 d k76 k91 Q x0 x2 x3 x4 x6 x5 h))
def wc_LogCleanerModel_clean_76 (d : Nat → ClassId) (Q : Int32 → xw → Prop) (k76 : Nat → Int32 → Int32 → Int32 → xw → Prop) (x0 : Nat) (x2 : Int32) (x3 : Int32) (x4 : Int32) (h : xw) : Prop :=
  wgI h x0 4 16 fun v4 =>
  wIf (v4 ≤ x4) (wIf (x2 = 0) (Q 0 h) (wIs h x0 4 (wp_LogCleanerModel_takeOut d h x0 fun r6 h5 =>
  wLoop (fun (k : Nat × Int32 × Int32 × Int32 × Int32 × Int32 → xw → Prop) (x : Nat × Int32 × Int32 × Int32 × Int32 × Int32) (h : xw) => wc_LogCleanerModel_clean_247 d Q (fun y0 y3 y4 y5 y6 y7 h => k (y0, y3, y4, y5, y6, y7) h) x.1 x.2.1 x.2.2.1 x.2.2.2.1 x.2.2.2.2.1 x.2.2.2.2.2 h) (x0, x3, r6, 0, 0, 0) h5))) (wLoop (fun (k : Nat × Int32 × Int32 × Int32 × Int32 × Int32 → xw → Prop) (x : Nat × Int32 × Int32 × Int32 × Int32 × Int32) (h : xw) => wc_LogCleanerModel_clean_91 d k76 Q (fun y0 y2 y3 y4 y5 y6 h => k (y0, y2, y3, y4, y5, y6) h) x.1 x.2.1 x.2.2.1 x.2.2.2.1 x.2.2.2.2.1 x.2.2.2.2.2 h) (x0, x2, x3, x4, 0, 0) h)
abbrev wb_LogCleanerModel_clean_64 (d : Nat → ClassId) (k26 : Nat → Int32 → Int32 → Int32 → xw → Prop) (Q : Int32 → xw → Prop) (x0 : Nat) (x1 : Int32) (x3 : Int32) (s0 : Int32) (h : xw) : Prop :=
  k26 x0 x1 s0 (x3 + 1) h
abbrev wb_LogCleanerModel_clean_59 (d : Nat → ClassId) (k26 : Nat → Int32 → Int32 → Int32 → xw → Prop) (Q : Int32 → xw → Prop) (x0 : Nat) (x1 : Int32) (x3 : Int32) (h : xw) : Prop :=
  wb_LogCleanerModel_clean_64 d k26 Q x0 x1 x3 1 h
def wc_LogCleanerModel_clean_26 (d : Nat → ClassId) (Q : Int32 → xw → Prop) (k26 : Nat → Int32 → Int32 → Int32 → xw → Prop) (x0 : Nat) (x1 : Int32) (x2 : Int32) (x3 : Int32) (h : xw) : Prop :=
  wgI h x0 4 1 fun v3 =>
  wIf (v3 ≤ x3) (wLoop (fun (k : Nat × Int32 × Int32 × Int32 → xw → Prop) (x : Nat × Int32 × Int32 × Int32) (h : xw) => wc_LogCleanerModel_clean_76 d Q (fun y0 y2 y3 y4 h => k (y0, y2, y3, y4) h) x.1 x.2.1 x.2.2.1 x.2.2.2 h) (x0, x2, 0, 0) h) (wgA h x0 4 20 fun r38 =>
  wIs h x0 4 (wp_LogCleanerModel_isOver d h x0 x3 x1 fun r40 h39 =>
  wnn r38 fun p41 => wstz h39 p41 (d 4) x3 r40 fun h42 =>
  wIf (x2 = 0) (wgA h42 x0 4 20 fun r43 =>
  wnn r43 fun p44 => wldi h42 p44 (d 4) x3 fun v45 =>
  wIf (v45 = 0) (wb_LogCleanerModel_clean_64 d k26 Q x0 x1 x3 0 h42) (wb_LogCleanerModel_clean_59 d k26 Q x0 x1 x3 h42)) (wb_LogCleanerModel_clean_59 d k26 Q x0 x1 x3 h42)))
abbrev wb_LogCleanerModel_clean_10 (d : Nat → ClassId) (Q : Int32 → xw → Prop) (x0 : Nat) (x1 : Int32) (s0 : Int32) (s1 : Nat) (h : xw) : Prop :=
  wpF h s1 4 0 (.int s0) fun h1 =>
  wgI h1 x0 4 0 fun v2 =>
  wIf (v2 ≤ 0) (wLoop (fun (k : Nat × Int32 × Int32 × Int32 → xw → Prop) (x : Nat × Int32 × Int32 × Int32) (h : xw) => wc_LogCleanerModel_clean_26 d Q (fun y0 y1 y2 y3 h => k (y0, y1, y2, y3) h) x.1 x.2.1 x.2.2.1 x.2.2.2 h) (x0, x1, 0, 0) h1) (Q 0 h1)
def wp_LogCleanerModel_clean (d : Nat → ClassId) (h : xw) (a0 : Nat) (a1 : Int32) (Q : Int32 → xw → Prop) : Prop :=
  wIf (0 ≤ a1) (wb_LogCleanerModel_clean_10 d Q a0 a1 0 a0 h) (wb_LogCleanerModel_clean_10 d Q a0 a1 1 a0 h)
abbrev wb_LogCleanerModel_segments_24 (d : Nat → ClassId) (Q : Int32 → xw → Prop) (s0 : Int32) (h : xw) : Prop :=
  Q s0 h
def wp_LogCleanerModel_segments (d : Nat → ClassId) (h : xw) (a0 : Nat) (Q : Int32 → xw → Prop) : Prop :=
  wgI h a0 4 16 fun v1 =>
  wIf (v1 = 0) (wb_LogCleanerModel_segments_24 d Q 0 h) (wgA h a0 4 19 fun r2 =>
  wgI h a0 4 16 fun v3 =>
  wnn r2 fun p4 => wldi h p4 (d 2) (v3 - 1) fun v5 =>
  wb_LogCleanerModel_segments_24 d Q (v5 + 1) h)
def wc_LogCleanerModel_drop_153 (d : Nat → ClassId) (Q : Int32 → xw → Prop) (k153 : Nat → Int32 → Int32 → Int32 → xw → Prop) (x0 : Nat) (x3 : Int32) (x4 : Int32) (x5 : Int32) (h : xw) : Prop :=
  wgI h x0 4 16 fun v9 =>
  wIf (v9 ≤ x5) (Q x4 h) (wgA h x0 4 19 fun r10 =>
  wnn r10 fun p11 => wldi h p11 (d 2) x5 fun v12 =>
  wsti h p11 (d 2) x5 (v12 - x3) fun h13 =>
  k153 x0 x3 x4 (x5 + 1) h13)
abbrev wb_LogCleanerModel_drop_137 (d : Nat → ClassId) (k106 : Nat → Int32 → Int32 → xw → Prop) (Q : Int32 → xw → Prop) (x0 : Nat) (x3 : Int32) (x4 : Int32) (s0 : Int32) (s1 : Int32) (s2 : Option Nat) (h : xw) : Prop :=
  wnn s2 fun p18 => wstz h p18 (d 4) s1 s0 fun h19 =>
  k106 x0 x3 (x4 + 1) h19
def wc_LogCleanerModel_drop_106 (d : Nat → ClassId) (Q : Int32 → xw → Prop) (k106 : Nat → Int32 → Int32 → xw → Prop) (x0 : Nat) (x3 : Int32) (x4 : Int32) (h : xw) : Prop :=
  wgI h x0 4 16 fun v6 =>
  wIf (v6 ≤ x4) (wIs h x0 4 (wp_LogCleanerModel_takeOut d h x0 fun r8 h7 =>
  wLoop (fun (k : Nat × Int32 × Int32 × Int32 → xw → Prop) (x : Nat × Int32 × Int32 × Int32) (h : xw) => wc_LogCleanerModel_drop_153 d Q (fun y0 y3 y4 y5 h => k (y0, y3, y4, y5) h) x.1 x.2.1 x.2.2.1 x.2.2.2 h) (x0, x3, r8, 0) h7)) (wgA h x0 4 21 fun r14 =>
  wgA h x0 4 19 fun r15 =>
  wnn r15 fun p16 => wldi h p16 (d 2) x4 fun v17 =>
  wIf (v17 < x3) (wb_LogCleanerModel_drop_137 d k106 Q x0 x3 x4 0 x4 r14 h) (wb_LogCleanerModel_drop_137 d k106 Q x0 x3 x4 1 x4 r14 h))
abbrev wb_LogCleanerModel_drop_96 (d : Nat → ClassId) (k60 : Nat → Int32 → Int32 → xw → Prop) (Q : Int32 → xw → Prop) (x0 : Nat) (x3 : Int32) (x4 : Int32) (s0 : Int32) (s1 : Int32) (s2 : Option Nat) (h : xw) : Prop :=
  wnn s2 fun p27 => wstz h p27 (d 4) s1 s0 fun h28 =>
  k60 x0 x3 (x4 + 1) h28
def wc_LogCleanerModel_drop_60 (d : Nat → ClassId) (Q : Int32 → xw → Prop) (k60 : Nat → Int32 → Int32 → xw → Prop) (x0 : Nat) (x3 : Int32) (x4 : Int32) (h : xw) : Prop :=
  wgI h x0 4 1 fun v5 =>
  wIf (v5 ≤ x4) (wLoop (fun (k : Nat × Int32 × Int32 → xw → Prop) (x : Nat × Int32 × Int32) (h : xw) => wc_LogCleanerModel_drop_106 d Q (fun y0 y3 y4 h => k (y0, y3, y4) h) x.1 x.2.1 x.2.2 h) (x0, x3, 0) h) (wgA h x0 4 20 fun r20 =>
  wgA h x0 4 19 fun r21 =>
  wgA h x0 4 2 fun r22 =>
  wnn r22 fun p23 => wldi h p23 (d 2) x4 fun v24 =>
  wnn r21 fun p25 => wldi h p25 (d 2) v24 fun v26 =>
  wIf (x3 ≤ v26) (wb_LogCleanerModel_drop_96 d k60 Q x0 x3 x4 0 x4 r20 h) (wb_LogCleanerModel_drop_96 d k60 Q x0 x3 x4 1 x4 r20 h))
abbrev wb_LogCleanerModel_drop_56 (d : Nat → ClassId) (Q : Int32 → xw → Prop) (x0 : Nat) (s0 : Int32) (h : xw) : Prop :=
  wLoop (fun (k : Nat × Int32 × Int32 → xw → Prop) (x : Nat × Int32 × Int32) (h : xw) => wc_LogCleanerModel_drop_60 d Q (fun y0 y3 y4 h => k (y0, y3, y4) h) x.1 x.2.1 x.2.2 h) (x0, s0, 0) h
abbrev wb_LogCleanerModel_drop_17 (d : Nat → ClassId) (Q : Int32 → xw → Prop) (x0 : Nat) (x1 : Int32) (s0 : Int32) (s1 : Nat) (h : xw) : Prop :=
  wpF h s1 4 0 (.int s0) fun h1 =>
  wgI h1 x0 4 0 fun v2 =>
  wIf (v2 ≤ 0) (wIs h1 x0 4 (wp_LogCleanerModel_segments d h1 x0 fun r4 h3 =>
  wIf ((r4 - 1) ≤ x1) (wIf (r4 ≤ 0) (wb_LogCleanerModel_drop_56 d Q x0 0 h3) (wb_LogCleanerModel_drop_56 d Q x0 (r4 - 1) h3)) (wb_LogCleanerModel_drop_56 d Q x0 x1 h3))) (Q 0 h1)
abbrev wb_LogCleanerModel_drop_12 (d : Nat → ClassId) (Q : Int32 → xw → Prop) (x0 : Nat) (x1 : Int32) (s0 : Nat) (h : xw) : Prop :=
  wb_LogCleanerModel_drop_17 d Q x0 x1 1 s0 h
def wp_LogCleanerModel_drop (d : Nat → ClassId) (h : xw) (a0 : Nat) (a1 : Int32) (Q : Int32 → xw → Prop) : Prop :=
  wIf (a1 < 0) (wb_LogCleanerModel_drop_12 d Q a0 a1 a0 h) (wIf (a1 ≤ 400) (wb_LogCleanerModel_drop_17 d Q a0 a1 0 a0 h) (wb_LogCleanerModel_drop_12 d Q a0 a1 a0 h))
abbrev wb_LogCleanerModel_count_78 (d : Nat → ClassId) (Q : Int32 → xw → Prop) (s0 : Int32) (h : xw) : Prop :=
  Q s0 h
abbrev wb_LogCleanerModel_count_15 (d : Nat → ClassId) (Q : Int32 → xw → Prop) (x0 : Nat) (x1 : Int32) (s0 : Int32) (s1 : Nat) (h : xw) : Prop :=
  wpF h s1 4 0 (.int s0) fun h1 =>
  wgI h1 x0 4 0 fun v2 =>
  wIf (v2 ≤ 0) (wIf (x1 = 0) (wgI h1 x0 4 1 fun v8 =>
  wb_LogCleanerModel_count_78 d Q v8 h1) (wIf (x1 = 1) (wgI h1 x0 4 16 fun v7 =>
  wb_LogCleanerModel_count_78 d Q v7 h1) (wIf (x1 = 2) (wIs h1 x0 4 (wp_LogCleanerModel_segments d h1 x0 fun r6 h5 =>
  wb_LogCleanerModel_count_78 d Q r6 h5)) (wIf (x1 = 3) (wgI h1 x0 4 10 fun v4 =>
  wb_LogCleanerModel_count_78 d Q v4 h1) (wgI h1 x0 4 9 fun v3 =>
  wb_LogCleanerModel_count_78 d Q v3 h1))))) (Q 0 h1)
abbrev wb_LogCleanerModel_count_10 (d : Nat → ClassId) (Q : Int32 → xw → Prop) (x0 : Nat) (x1 : Int32) (s0 : Nat) (h : xw) : Prop :=
  wb_LogCleanerModel_count_15 d Q x0 x1 1 s0 h
def wp_LogCleanerModel_count (d : Nat → ClassId) (h : xw) (a0 : Nat) (a1 : Int32) (Q : Int32 → xw → Prop) : Prop :=
  wIf (a1 < 0) (wb_LogCleanerModel_count_10 d Q a0 a1 a0 h) (wIf (a1 ≤ 4) (wb_LogCleanerModel_count_15 d Q a0 a1 0 a0 h) (wb_LogCleanerModel_count_10 d Q a0 a1 a0 h))
abbrev wb_LogCleanerModel_countOf_28 (d : Nat → ClassId) (k4 : Nat → Int32 → Int32 → Int32 → xw → Prop) (Q : Int32 → xw → Prop) (x0 : Nat) (x1 : Int32) (x3 : Int32) (s0 : Int32) (s1 : Int32) (h : xw) : Prop :=
  k4 x0 x1 (s1 + s0) (x3 + 1) h
def wc_LogCleanerModel_countOf_4 (d : Nat → ClassId) (Q : Int32 → xw → Prop) (k4 : Nat → Int32 → Int32 → Int32 → xw → Prop) (x0 : Nat) (x1 : Int32) (x2 : Int32) (x3 : Int32) (h : xw) : Prop :=
  wgI h x0 4 1 fun v1 =>
  wIf (v1 ≤ x3) (Q x2 h) (wgA h x0 4 2 fun r2 =>
  wnn r2 fun p3 => wldi h p3 (d 2) x3 fun v4 =>
  wIf (v4 = x1) (wb_LogCleanerModel_countOf_28 d k4 Q x0 x1 x3 1 x2 h) (wb_LogCleanerModel_countOf_28 d k4 Q x0 x1 x3 0 x2 h))
def wp_LogCleanerModel_countOf (d : Nat → ClassId) (h : xw) (a0 : Nat) (a1 : Int32) (Q : Int32 → xw → Prop) : Prop :=
  wLoop (fun (k : Nat × Int32 × Int32 × Int32 → xw → Prop) (x : Nat × Int32 × Int32 × Int32) (h : xw) => wc_LogCleanerModel_countOf_4 d Q (fun y0 y1 y2 y3 h => k (y0, y1, y2, y3) h) x.1 x.2.1 x.2.2.1 x.2.2.2 h) (a0, a1, 0, 0) h
abbrev wb_LogCleanerModel_batch_122 (d : Nat → ClassId) (Q : Int32 → xw → Prop) (s0 : Int32) (h : xw) : Prop :=
  Q s0 h
abbrev wb_LogCleanerModel_batch_27 (d : Nat → ClassId) (Q : Int32 → xw → Prop) (x0 : Nat) (x1 : Int32) (x2 : Int32) (s0 : Int32) (s1 : Nat) (h : xw) : Prop :=
  wpF h s1 4 0 (.int s0) fun h1 =>
  wgI h1 x0 4 0 fun v2 =>
  wIf (v2 ≤ 0) ((x2 = 0 → wgA h1 x0 4 17 fun r3 =>
  wnn r3 fun p4 => wldi h1 p4 (d 2) x1 fun v5 =>
  Q v5 h1) ∧ (x2 = 1 → wIs h1 x0 4 (wp_LogCleanerModel_countOf d h1 x0 x1 fun r7 h6 =>
  Q r7 h6)) ∧ (x2 = 2 → wgA h1 x0 4 18 fun r8 =>
  wnn r8 fun p9 => wldi h1 p9 (d 2) x1 fun v10 =>
  Q v10 h1) ∧ (x2 = 3 → wIs h1 x0 4 (wp_LogCleanerModel_sizeOf d h1 x0 x1 fun r12 h11 =>
  Q r12 h11)) ∧ (x2 = 4 → wgA h1 x0 4 19 fun r13 =>
  wnn r13 fun p14 => wldi h1 p14 (d 2) x1 fun v15 =>
  Q v15 h1) ∧ (x2.toInt < 0 ∨ 4 < x2.toInt → wIs h1 x0 4 (wp_LogCleanerModel_isKnown d h1 x0 x1 fun r17 h16 =>
  wIf (r17 = 0) (wb_LogCleanerModel_batch_122 d Q 0 h16) (wb_LogCleanerModel_batch_122 d Q 1 h16)))) (Q 0 h1)
abbrev wb_LogCleanerModel_batch_22 (d : Nat → ClassId) (Q : Int32 → xw → Prop) (x0 : Nat) (x1 : Int32) (x2 : Int32) (s0 : Nat) (h : xw) : Prop :=
  wb_LogCleanerModel_batch_27 d Q x0 x1 x2 1 s0 h
def wp_LogCleanerModel_batch (d : Nat → ClassId) (h : xw) (a0 : Nat) (a1 : Int32) (a2 : Int32) (Q : Int32 → xw → Prop) : Prop :=
  wIf (a1 < 0) (wb_LogCleanerModel_batch_22 d Q a0 a1 a2 a0 h) (wgI h a0 4 16 fun v18 =>
  wIf (v18 ≤ a1) (wb_LogCleanerModel_batch_22 d Q a0 a1 a2 a0 h) (wIf (a2 < 0) (wb_LogCleanerModel_batch_22 d Q a0 a1 a2 a0 h) (wIf (a2 ≤ 5) (wb_LogCleanerModel_batch_27 d Q a0 a1 a2 0 a0 h) (wb_LogCleanerModel_batch_22 d Q a0 a1 a2 a0 h))))
abbrev wb_LogCleanerModel_told_120 (d : Nat → ClassId) (Q : Int64 → xw → Prop) (s0 : Int64) (h : xw) : Prop :=
  Q s0 h
abbrev wb_LogCleanerModel_told_27 (d : Nat → ClassId) (Q : Int64 → xw → Prop) (x0 : Nat) (x1 : Int32) (x2 : Int32) (s0 : Int32) (s1 : Nat) (h : xw) : Prop :=
  wpF h s1 4 0 (.int s0) fun h1 =>
  wgI h1 x0 4 0 fun v2 =>
  wIf (v2 ≤ 0) ((x2 = 0 → wgA h1 x0 4 3 fun r3 =>
  wnn r3 fun p4 => wldi h1 p4 (d 2) x1 fun v5 =>
  Q v5.toInt64 h1) ∧ (x2 = 1 → wgA h1 x0 4 5 fun r6 =>
  wnn r6 fun p7 => wldi h1 p7 (d 2) x1 fun v8 =>
  Q v8.toInt64 h1) ∧ (x2 = 2 → wgA h1 x0 4 4 fun r9 =>
  wnn r9 fun p10 => wldl h1 p10 (d 3) x1 fun v11 =>
  Q v11 h1) ∧ (x2 = 3 → wgA h1 x0 4 7 fun r12 =>
  wnn r12 fun p13 => wldl h1 p13 (d 3) x1 fun v14 =>
  Q v14 h1) ∧ (x2 = 4 → wgA h1 x0 4 6 fun r15 =>
  wnn r15 fun p16 => wldi h1 p16 (d 4) x1 fun v17 =>
  wIf (v17 = 0) (wb_LogCleanerModel_told_120 d Q 0 h1) (wb_LogCleanerModel_told_120 d Q 1 h1)) ∧ (x2.toInt < 0 ∨ 4 < x2.toInt → wgA h1 x0 4 8 fun r18 =>
  wnn r18 fun p19 => wldi h1 p19 (d 2) x1 fun v20 =>
  Q v20.toInt64 h1)) (Q 0 h1)
abbrev wb_LogCleanerModel_told_22 (d : Nat → ClassId) (Q : Int64 → xw → Prop) (x0 : Nat) (x1 : Int32) (x2 : Int32) (s0 : Nat) (h : xw) : Prop :=
  wb_LogCleanerModel_told_27 d Q x0 x1 x2 1 s0 h
def wp_LogCleanerModel_told (d : Nat → ClassId) (h : xw) (a0 : Nat) (a1 : Int32) (a2 : Int32) (Q : Int64 → xw → Prop) : Prop :=
  wIf (a1 < 0) (wb_LogCleanerModel_told_22 d Q a0 a1 a2 a0 h) (wgI h a0 4 1 fun v21 =>
  wIf (v21 ≤ a1) (wb_LogCleanerModel_told_22 d Q a0 a1 a2 a0 h) (wIf (a2 < 0) (wb_LogCleanerModel_told_22 d Q a0 a1 a2 a0 h) (wIf (a2 ≤ 5) (wb_LogCleanerModel_told_27 d Q a0 a1 a2 0 a0 h) (wb_LogCleanerModel_told_22 d Q a0 a1 a2 a0 h))))
abbrev wb_LogCleanerModel_latest_76 (d : Nat → ClassId) (k36 : Nat → Int64 → Int32 → Int32 → xw → Prop) (Q : Int32 → xw → Prop) (x0 : Nat) (x1 : Int64) (x3 : Int32) (x4 : Int32) (h : xw) : Prop :=
  k36 x0 x1 x3 (x4 + (-1)) h
def wc_LogCleanerModel_latest_36 (d : Nat → ClassId) (Q : Int32 → xw → Prop) (k36 : Nat → Int64 → Int32 → Int32 → xw → Prop) (x0 : Nat) (x1 : Int64) (x3 : Int32) (x4 : Int32) (h : xw) : Prop :=
  wIf (x4 < 0) (Q (-1) h) (wgA h x0 4 5 fun r4 =>
  wnn r4 fun p5 => wldi h p5 (d 2) x4 fun v6 =>
  wIf (v6 = x3) (wgA h x0 4 4 fun r7 =>
  wnn r7 fun p8 => wldl h p8 (d 3) x4 fun v9 =>
  wp_LogCleanerModel_lowest d h x1 x3 fun r11 h10 =>
  wIf ((lg_cmp v9 r11) = 0) (wgA h10 x0 4 3 fun r12 =>
  wnn r12 fun p13 => wldi h10 p13 (d 2) x4 fun v14 =>
  Q v14 h10) (wb_LogCleanerModel_latest_76 d k36 Q x0 x1 x3 x4 h10)) (wb_LogCleanerModel_latest_76 d k36 Q x0 x1 x3 x4 h))
abbrev wb_LogCleanerModel_latest_16 (d : Nat → ClassId) (Q : Int32 → xw → Prop) (x0 : Nat) (x1 : Int64) (x3 : Int32) (s0 : Int32) (s1 : Nat) (h : xw) : Prop :=
  wpF h s1 4 0 (.int s0) fun h1 =>
  wgI h1 x0 4 0 fun v2 =>
  wIf (v2 ≤ 0) (wgI h1 x0 4 1 fun v3 =>
  wLoop (fun (k : Nat × Int64 × Int32 × Int32 → xw → Prop) (x : Nat × Int64 × Int32 × Int32) (h : xw) => wc_LogCleanerModel_latest_36 d Q (fun y0 y1 y3 y4 h => k (y0, y1, y3, y4) h) x.1 x.2.1 x.2.2.1 x.2.2.2 h) (x0, x1, x3, (v3 - 1)) h1) (Q 0 h1)
abbrev wb_LogCleanerModel_latest_11 (d : Nat → ClassId) (Q : Int32 → xw → Prop) (x0 : Nat) (x1 : Int64) (x3 : Int32) (s0 : Nat) (h : xw) : Prop :=
  wb_LogCleanerModel_latest_16 d Q x0 x1 x3 1 s0 h
def wp_LogCleanerModel_latest (d : Nat → ClassId) (h : xw) (a0 : Nat) (a1 : Int64) (a3 : Int32) (Q : Int32 → xw → Prop) : Prop :=
  wIf (a3 < 0) (wb_LogCleanerModel_latest_11 d Q a0 a1 a3 a0 h) (wIf (a3 ≤ 8) (wb_LogCleanerModel_latest_16 d Q a0 a1 a3 0 a0 h) (wb_LogCleanerModel_latest_11 d Q a0 a1 a3 a0 h))
end
section
/-- LogCleaner: batches, batchCount, recordCount, nextOffset, packing, draft, draftCount -/
def o_L (f0 : Nat) (f1 : Int32) (f2 : Int32) (f3 : Int32) (f4 : Nat) (f5 : Nat) (f6 : Int32) : va_E := .inr (0, [.ref f0, .int f1, .int f2, .int f3, .ref f4, .ref f5, .int f6])
theorem g_L_0 {h : xw} {a : Nat} {f0 : Nat} {f1 : Int32} {f2 : Int32} {f3 : Int32} {f4 : Nat} {f5 : Nat} {f6 : Int32} {K : Option Nat → Prop} (hx : h a = some (o_L f0 f1 f2 f3 f4 f5 f6)) (hK : K (some f0)) : wgA h a 0 0 K := ⟨_, (some f0), hx, rfl, hK⟩
theorem g_L_1 {h : xw} {a : Nat} {f0 : Nat} {f1 : Int32} {f2 : Int32} {f3 : Int32} {f4 : Nat} {f5 : Nat} {f6 : Int32} {K : Int32 → Prop} (hx : h a = some (o_L f0 f1 f2 f3 f4 f5 f6)) (hK : K f1) : wgI h a 0 1 K := ⟨_, f1, hx, rfl, hK⟩
theorem p_L_1 {h : xw} {a : Nat} {f0 : Nat} {f1 : Int32} {f2 : Int32} {f3 : Int32} {f4 : Nat} {f5 : Nat} {f6 : Int32} {v9 : Int32} {K : xw → Prop} (hx : h a = some (o_L f0 f1 f2 f3 f4 f5 f6)) (hK : K (xup h a (o_L f0 v9 f2 f3 f4 f5 f6))) : wpF h a 0 1 (.int v9) K := ⟨_, hx, Nat.le_of_ble_eq_true rfl, hK⟩
theorem g_L_2 {h : xw} {a : Nat} {f0 : Nat} {f1 : Int32} {f2 : Int32} {f3 : Int32} {f4 : Nat} {f5 : Nat} {f6 : Int32} {K : Int32 → Prop} (hx : h a = some (o_L f0 f1 f2 f3 f4 f5 f6)) (hK : K f2) : wgI h a 0 2 K := ⟨_, f2, hx, rfl, hK⟩
theorem p_L_2 {h : xw} {a : Nat} {f0 : Nat} {f1 : Int32} {f2 : Int32} {f3 : Int32} {f4 : Nat} {f5 : Nat} {f6 : Int32} {v9 : Int32} {K : xw → Prop} (hx : h a = some (o_L f0 f1 f2 f3 f4 f5 f6)) (hK : K (xup h a (o_L f0 f1 v9 f3 f4 f5 f6))) : wpF h a 0 2 (.int v9) K := ⟨_, hx, Nat.le_of_ble_eq_true rfl, hK⟩
theorem g_L_3 {h : xw} {a : Nat} {f0 : Nat} {f1 : Int32} {f2 : Int32} {f3 : Int32} {f4 : Nat} {f5 : Nat} {f6 : Int32} {K : Int32 → Prop} (hx : h a = some (o_L f0 f1 f2 f3 f4 f5 f6)) (hK : K f3) : wgI h a 0 3 K := ⟨_, f3, hx, rfl, hK⟩
theorem p_L_3 {h : xw} {a : Nat} {f0 : Nat} {f1 : Int32} {f2 : Int32} {f3 : Int32} {f4 : Nat} {f5 : Nat} {f6 : Int32} {v9 : Int32} {K : xw → Prop} (hx : h a = some (o_L f0 f1 f2 f3 f4 f5 f6)) (hK : K (xup h a (o_L f0 f1 f2 v9 f4 f5 f6))) : wpF h a 0 3 (.int v9) K := ⟨_, hx, Nat.le_of_ble_eq_true rfl, hK⟩
theorem g_L_4 {h : xw} {a : Nat} {f0 : Nat} {f1 : Int32} {f2 : Int32} {f3 : Int32} {f4 : Nat} {f5 : Nat} {f6 : Int32} {K : Option Nat → Prop} (hx : h a = some (o_L f0 f1 f2 f3 f4 f5 f6)) (hK : K (some f4)) : wgA h a 0 4 K := ⟨_, (some f4), hx, rfl, hK⟩
theorem g_L_5 {h : xw} {a : Nat} {f0 : Nat} {f1 : Int32} {f2 : Int32} {f3 : Int32} {f4 : Nat} {f5 : Nat} {f6 : Int32} {K : Option Nat → Prop} (hx : h a = some (o_L f0 f1 f2 f3 f4 f5 f6)) (hK : K (some f5)) : wgA h a 0 5 K := ⟨_, (some f5), hx, rfl, hK⟩
theorem g_L_6 {h : xw} {a : Nat} {f0 : Nat} {f1 : Int32} {f2 : Int32} {f3 : Int32} {f4 : Nat} {f5 : Nat} {f6 : Int32} {K : Int32 → Prop} (hx : h a = some (o_L f0 f1 f2 f3 f4 f5 f6)) (hK : K f6) : wgI h a 0 6 K := ⟨_, f6, hx, rfl, hK⟩
theorem p_L_6 {h : xw} {a : Nat} {f0 : Nat} {f1 : Int32} {f2 : Int32} {f3 : Int32} {f4 : Nat} {f5 : Nat} {f6 : Int32} {v9 : Int32} {K : xw → Prop} (hx : h a = some (o_L f0 f1 f2 f3 f4 f5 f6)) (hK : K (xup h a (o_L f0 f1 f2 f3 f4 f5 v9))) : wpF h a 0 6 (.int v9) K := ⟨_, hx, Nat.le_of_ble_eq_true rfl, hK⟩
theorem is_L {h : xw} {a : Nat} {f0 : Nat} {f1 : Int32} {f2 : Int32} {f3 : Int32} {f4 : Nat} {f5 : Nat} {f6 : Int32} {P : Prop} (hx : h a = some (o_L f0 f1 f2 f3 f4 f5 f6)) (hP : P) : wIs h a 0 P := ⟨⟨_, hx⟩, hP⟩
/-- LogCleaner$Batch: base, producer, entries, recordCount, segment -/
def o_B (f0 : Int32) (f1 : Int32) (f2 : Nat) (f3 : Int32) (f4 : Int32) : va_E := .inr (1, [.int f0, .int f1, .ref f2, .int f3, .int f4])
theorem g_B_0 {h : xw} {a : Nat} {f0 : Int32} {f1 : Int32} {f2 : Nat} {f3 : Int32} {f4 : Int32} {K : Int32 → Prop} (hx : h a = some (o_B f0 f1 f2 f3 f4)) (hK : K f0) : wgI h a 1 0 K := ⟨_, f0, hx, rfl, hK⟩
theorem g_B_1 {h : xw} {a : Nat} {f0 : Int32} {f1 : Int32} {f2 : Nat} {f3 : Int32} {f4 : Int32} {K : Int32 → Prop} (hx : h a = some (o_B f0 f1 f2 f3 f4)) (hK : K f1) : wgI h a 1 1 K := ⟨_, f1, hx, rfl, hK⟩
theorem g_B_2 {h : xw} {a : Nat} {f0 : Int32} {f1 : Int32} {f2 : Nat} {f3 : Int32} {f4 : Int32} {K : Option Nat → Prop} (hx : h a = some (o_B f0 f1 f2 f3 f4)) (hK : K (some f2)) : wgA h a 1 2 K := ⟨_, (some f2), hx, rfl, hK⟩
theorem g_B_3 {h : xw} {a : Nat} {f0 : Int32} {f1 : Int32} {f2 : Nat} {f3 : Int32} {f4 : Int32} {K : Int32 → Prop} (hx : h a = some (o_B f0 f1 f2 f3 f4)) (hK : K f3) : wgI h a 1 3 K := ⟨_, f3, hx, rfl, hK⟩
theorem p_B_3 {h : xw} {a : Nat} {f0 : Int32} {f1 : Int32} {f2 : Nat} {f3 : Int32} {f4 : Int32} {v9 : Int32} {K : xw → Prop} (hx : h a = some (o_B f0 f1 f2 f3 f4)) (hK : K (xup h a (o_B f0 f1 f2 v9 f4))) : wpF h a 1 3 (.int v9) K := ⟨_, hx, Nat.le_of_ble_eq_true rfl, hK⟩
theorem g_B_4 {h : xw} {a : Nat} {f0 : Int32} {f1 : Int32} {f2 : Nat} {f3 : Int32} {f4 : Int32} {K : Int32 → Prop} (hx : h a = some (o_B f0 f1 f2 f3 f4)) (hK : K f4) : wgI h a 1 4 K := ⟨_, f4, hx, rfl, hK⟩
theorem p_B_4 {h : xw} {a : Nat} {f0 : Int32} {f1 : Int32} {f2 : Nat} {f3 : Int32} {f4 : Int32} {v9 : Int32} {K : xw → Prop} (hx : h a = some (o_B f0 f1 f2 f3 f4)) (hK : K (xup h a (o_B f0 f1 f2 f3 v9))) : wpF h a 1 4 (.int v9) K := ⟨_, hx, Nat.le_of_ble_eq_true rfl, hK⟩
theorem is_B {h : xw} {a : Nat} {f0 : Int32} {f1 : Int32} {f2 : Nat} {f3 : Int32} {f4 : Int32} {P : Prop} (hx : h a = some (o_B f0 f1 f2 f3 f4)) (hP : P) : wIs h a 1 P := ⟨⟨_, hx⟩, hP⟩
/-- LogCleaner$Entry: key, keyBytes, hasValue, value, time, offset, superseded -/
def o_E (f0 : Int64) (f1 : Int32) (f2 : Int32) (f3 : Int64) (f4 : Int32) (f5 : Int32) (f6 : Int32) : va_E := .inr (2, [.long f0, .int f1, .int f2, .long f3, .int f4, .int f5, .int f6])
theorem g_E_0 {h : xw} {a : Nat} {f0 : Int64} {f1 : Int32} {f2 : Int32} {f3 : Int64} {f4 : Int32} {f5 : Int32} {f6 : Int32} {K : Int64 → Prop} (hx : h a = some (o_E f0 f1 f2 f3 f4 f5 f6)) (hK : K f0) : wgL h a 2 0 K := ⟨_, f0, hx, rfl, hK⟩
theorem g_E_1 {h : xw} {a : Nat} {f0 : Int64} {f1 : Int32} {f2 : Int32} {f3 : Int64} {f4 : Int32} {f5 : Int32} {f6 : Int32} {K : Int32 → Prop} (hx : h a = some (o_E f0 f1 f2 f3 f4 f5 f6)) (hK : K f1) : wgI h a 2 1 K := ⟨_, f1, hx, rfl, hK⟩
theorem g_E_2 {h : xw} {a : Nat} {f0 : Int64} {f1 : Int32} {f2 : Int32} {f3 : Int64} {f4 : Int32} {f5 : Int32} {f6 : Int32} {K : Int32 → Prop} (hx : h a = some (o_E f0 f1 f2 f3 f4 f5 f6)) (hK : K f2) : wgI h a 2 2 K := ⟨_, f2, hx, rfl, hK⟩
theorem g_E_3 {h : xw} {a : Nat} {f0 : Int64} {f1 : Int32} {f2 : Int32} {f3 : Int64} {f4 : Int32} {f5 : Int32} {f6 : Int32} {K : Int64 → Prop} (hx : h a = some (o_E f0 f1 f2 f3 f4 f5 f6)) (hK : K f3) : wgL h a 2 3 K := ⟨_, f3, hx, rfl, hK⟩
theorem g_E_4 {h : xw} {a : Nat} {f0 : Int64} {f1 : Int32} {f2 : Int32} {f3 : Int64} {f4 : Int32} {f5 : Int32} {f6 : Int32} {K : Int32 → Prop} (hx : h a = some (o_E f0 f1 f2 f3 f4 f5 f6)) (hK : K f4) : wgI h a 2 4 K := ⟨_, f4, hx, rfl, hK⟩
theorem g_E_5 {h : xw} {a : Nat} {f0 : Int64} {f1 : Int32} {f2 : Int32} {f3 : Int64} {f4 : Int32} {f5 : Int32} {f6 : Int32} {K : Int32 → Prop} (hx : h a = some (o_E f0 f1 f2 f3 f4 f5 f6)) (hK : K f5) : wgI h a 2 5 K := ⟨_, f5, hx, rfl, hK⟩
theorem p_E_5 {h : xw} {a : Nat} {f0 : Int64} {f1 : Int32} {f2 : Int32} {f3 : Int64} {f4 : Int32} {f5 : Int32} {f6 : Int32} {v9 : Int32} {K : xw → Prop} (hx : h a = some (o_E f0 f1 f2 f3 f4 f5 f6)) (hK : K (xup h a (o_E f0 f1 f2 f3 f4 v9 f6))) : wpF h a 2 5 (.int v9) K := ⟨_, hx, Nat.le_of_ble_eq_true rfl, hK⟩
theorem g_E_6 {h : xw} {a : Nat} {f0 : Int64} {f1 : Int32} {f2 : Int32} {f3 : Int64} {f4 : Int32} {f5 : Int32} {f6 : Int32} {K : Int32 → Prop} (hx : h a = some (o_E f0 f1 f2 f3 f4 f5 f6)) (hK : K f6) : wgI h a 2 6 K := ⟨_, f6, hx, rfl, hK⟩
theorem p_E_6 {h : xw} {a : Nat} {f0 : Int64} {f1 : Int32} {f2 : Int32} {f3 : Int64} {f4 : Int32} {f5 : Int32} {f6 : Int32} {v9 : Int32} {K : xw → Prop} (hx : h a = some (o_E f0 f1 f2 f3 f4 f5 f6)) (hv : v9 = 0 ∨ v9 = 1) (hK : K (xup h a (o_E f0 f1 f2 f3 f4 f5 v9))) : wpZ h a 2 6 v9 K := ⟨hv, _, hx, Nat.le_of_ble_eq_true rfl, hK⟩
theorem is_E {h : xw} {a : Nat} {f0 : Int64} {f1 : Int32} {f2 : Int32} {f3 : Int64} {f4 : Int32} {f5 : Int32} {f6 : Int32} {P : Prop} (hx : h a = some (o_E f0 f1 f2 f3 f4 f5 f6)) (hP : P) : wIs h a 2 P := ⟨⟨_, hx⟩, hP⟩
/-- LogCleaner$Packing: lastSegment, lastFilled -/
def o_P (f0 : Int32) (f1 : Int32) : va_E := .inr (3, [.int f0, .int f1])
theorem g_P_0 {h : xw} {a : Nat} {f0 : Int32} {f1 : Int32} {K : Int32 → Prop} (hx : h a = some (o_P f0 f1)) (hK : K f0) : wgI h a 3 0 K := ⟨_, f0, hx, rfl, hK⟩
theorem p_P_0 {h : xw} {a : Nat} {f0 : Int32} {f1 : Int32} {v9 : Int32} {K : xw → Prop} (hx : h a = some (o_P f0 f1)) (hK : K (xup h a (o_P v9 f1))) : wpF h a 3 0 (.int v9) K := ⟨_, hx, Nat.le_of_ble_eq_true rfl, hK⟩
theorem g_P_1 {h : xw} {a : Nat} {f0 : Int32} {f1 : Int32} {K : Int32 → Prop} (hx : h a = some (o_P f0 f1)) (hK : K f1) : wgI h a 3 1 K := ⟨_, f1, hx, rfl, hK⟩
theorem p_P_1 {h : xw} {a : Nat} {f0 : Int32} {f1 : Int32} {v9 : Int32} {K : xw → Prop} (hx : h a = some (o_P f0 f1)) (hK : K (xup h a (o_P f0 v9))) : wpF h a 3 1 (.int v9) K := ⟨_, hx, Nat.le_of_ble_eq_true rfl, hK⟩
theorem is_P {h : xw} {a : Nat} {f0 : Int32} {f1 : Int32} {P : Prop} (hx : h a = some (o_P f0 f1)) (hP : P) : wIs h a 3 P := ⟨⟨_, hx⟩, hP⟩
end
section
/-! the class's small methods, over the map -/
abbrev EV : Type := Int64 × Int32 × Int32 × Int64 × Int32 × Int32 × Int32
def oE (e : EV) : va_E := o_E e.1 e.2.1 e.2.2.1 e.2.2.2.1 e.2.2.2.2.1 e.2.2.2.2.2.1 e.2.2.2.2.2.2
def esz (e : EV) : Int32 := (8 + (if e.2.1 = -1 then 0 else e.2.1)) + (if e.2.2.1 = 0 then 0 else 8)
/-- it goes at a cleaning whose last time is t -/
def ego (t : Int32) (e : EV) : Bool := decide (e.2.2.2.2.2.2 ≠ 0) || (decide (e.2.1 ≠ -1) && (decide (e.2.2.1 = 0) && decide (e.2.2.2.2.1 ≤ t)))
theorem ego_t {t : Int32} {e : EV} : ego t e = true ↔ e.2.2.2.2.2.2 ≠ 0 ∨ (e.2.1 ≠ -1 ∧ e.2.2.1 = 0 ∧ e.2.2.2.2.1 ≤ t) := by
  simp only [ego, Bool.or_eq_true, Bool.and_eq_true, decide_eq_true_eq]
def bsz (E : Nat → EV) (l : List Nat) : Int32 := l.foldl (fun z a => z + esz (E a)) 61
theorem sp_hasKey {d : Nat → ClassId} {h : xw} {a : Nat} {e : EV} {Q : Int32 → xw → Prop} (he : h a = some (oE e)) (hQ : Q (if e.2.1 = -1 then 0 else 1) h) : wp_Entry_hasKey d h a Q := by
  unfold wp_Entry_hasKey
  refine g_E_1 he ?_
  refine ⟨fun c => ?_, fun c => ?_⟩
  · rw [if_pos c] at hQ
    exact ⟨Or.inl rfl, hQ⟩
  · rw [if_neg c] at hQ
    exact ⟨Or.inr rfl, hQ⟩
theorem sp_Esize {d : Nat → ClassId} {h : xw} {a : Nat} {e : EV} {Q : Int32 → xw → Prop} (he : h a = some (oE e)) (hQ : Q (esz e) h) : wp_Entry_sizeInBytes d h a Q := by
  unfold wp_Entry_sizeInBytes
  refine is_E he ?_
  refine sp_hasKey he ?_
  unfold esz at hQ
  refine ⟨fun c => ?_, fun c => ?_⟩
  · have hk : e.2.1 = -1 := by
      by_cases hk : e.2.1 = -1
      · exact hk
      · rw [if_neg hk] at c
        exact absurd c (by decide)
    rw [if_pos hk] at hQ
    refine g_E_2 he ?_
    refine ⟨fun c2 => ?_, fun c2 => ?_⟩
    · rw [if_pos c2] at hQ
      exact hQ
    · rw [if_neg c2] at hQ
      exact hQ
  · have hk : ¬ e.2.1 = -1 := fun hk => c (if_pos hk)
    rw [if_neg hk] at hQ
    refine g_E_1 he ?_
    refine g_E_2 he ?_
    refine ⟨fun c2 => ?_, fun c2 => ?_⟩
    · rw [if_pos c2] at hQ
      exact hQ
    · rw [if_neg c2] at hQ
      exact hQ
theorem i32_nlt {x y : Int32} : ¬ x < y ↔ y ≤ x := by
  rw [Int32.lt_iff_toInt_lt, Int32.le_iff_toInt_le]
  omega
theorem sp_goes {d : Nat → ClassId} {h : xw} {a : Nat} {e : EV} {t : Int32} {Q : Int32 → xw → Prop} (he : h a = some (oE e)) (h1 : ego t e = true → Q 1 h) (h0 : ¬ ego t e = true → Q 0 h) : wp_Entry_goes d h a t Q := by
  unfold wp_Entry_goes
  refine g_E_6 he ?_
  refine ⟨fun c => ?_, fun c => ?_⟩
  · refine is_E he ?_
    refine sp_hasKey he ?_
    refine ⟨fun c1 => ?_, fun c1 => ?_⟩
    · have hk : e.2.1 = -1 := by
        by_cases hk : e.2.1 = -1
        · exact hk
        · rw [if_neg hk] at c1
          exact absurd c1 (by decide)
      exact ⟨Or.inl rfl, h0 (fun q => by rcases ego_t.mp q with q | q; exact q c; exact q.1 hk)⟩
    · have hk : ¬ e.2.1 = -1 := fun hk => c1 (if_pos hk)
      refine g_E_2 he ?_
      refine ⟨fun c2 => ?_, fun c2 => ?_⟩
      · refine g_E_4 he ?_
        refine ⟨fun c3 => ?_, fun c3 => ?_⟩
        · exact ⟨Or.inl rfl, h0 (fun q => by rcases ego_t.mp q with q | q; exact q c; exact absurd c3 (i32_nlt.mpr q.2.2))⟩
        · exact ⟨Or.inr rfl, h1 (ego_t.mpr (Or.inr ⟨hk, c2, i32_nlt.mp c3⟩))⟩
      · exact ⟨Or.inl rfl, h0 (fun q => by rcases ego_t.mp q with q | q; exact q c; exact c2 q.2.1)⟩
  · exact ⟨Or.inr rfl, h1 (ego_t.mpr (Or.inl c))⟩
theorem sp_place {d : Nat → ClassId} {h : xw} {a : Nat} {ls lf sz : Int32} {Q : Int32 → xw → Prop} (hp : h a = some (o_P ls lf))
    (h1 : (ls = -1 ∨ ¬ lf + sz ≤ 1000) → Q (ls + 1) (xup (xup (xup h a (o_P (ls + 1) lf)) a (o_P (ls + 1) 0)) a (o_P (ls + 1) (0 + sz))))
    (h0 : ¬ (ls = -1 ∨ ¬ lf + sz ≤ 1000) → Q ls (xup h a (o_P ls (lf + sz)))) : wp_Packing_place d h a sz Q := by
  have big : (ls = -1 ∨ ¬ lf + sz ≤ 1000) → wb_Packing_place_20 d Q a sz h := fun c => by
    refine g_P_0 hp ?_
    refine p_P_0 hp ?_
    refine p_P_1 (xup_self _ _ _) ?_
    refine g_P_1 (xup_self _ _ _) ?_
    refine p_P_1 (xup_self _ _ _) ?_
    refine g_P_0 (xup_self _ _ _) ?_
    exact h1 c
  unfold wp_Packing_place
  refine g_P_0 hp ?_
  refine ⟨fun c => big (Or.inl c), fun c => ?_⟩
  refine g_P_1 hp ?_
  refine ⟨fun c2 => ?_, fun c2 => big (Or.inr c2)⟩
  refine g_P_1 hp ?_
  refine p_P_1 hp ?_
  refine g_P_0 (xup_self _ _ _) ?_
  exact h0 (fun q => by rcases q with q | q; exact c q; exact q c2)
theorem xup_xup (h : xw) (a : Nat) (o o' : va_E) : xup (xup h a o) a o' = xup h a o' := by
  funext b
  by_cases hb : b = a
  · subst hb
    rw [xup_self, xup_self]
  · rw [xup_ne _ _ hb, xup_ne _ _ hb, xup_ne _ _ hb]
/-- a batch and those of its records that are left, by their addresses -/
def RB (d : Nat → ClassId) (h : xw) (b : Nat) (base prod : Int32) (arr : Nat) (seg : Int32) (els : List Nat) : Prop :=
  h b = some (o_B base prod arr (nI els.length) seg) ∧ ∃ cap g, h arr = some (xaq (d 0) cap g) ∧ els.length ≤ cap ∧ cap ≤ 100 ∧ ∀ i e, els[i]? = some e → g i = some e
theorem wldq_n {h : xw} {a : Nat} {cA : ClassId} {n j : Nat} {g : Nat → Option Nat} {K : Option Nat → Prop} (ha : h a = some (xaq cA n g)) (hj : j < n) (hn : n < 2 ^ 31) (hK : K (g j)) : wldq h a cA (nI j) K := by
  refine ⟨n, g, ha, vp_in_nI hj hn, ?_⟩
  rw [nI_clamp (by omega)]
  exact hK
theorem wstq_n {h : xw} {a : Nat} {cA : ClassId} {ci n j : Nat} {g : Nat → Option Nat} {r : Option Nat} {K : xw → Prop} (ha : h a = some (xaq cA n g)) (hj : j < n) (hn : n < 2 ^ 31) (hr : ∀ b, r = some b → ∃ fs, h b = some (.inr (ci, fs))) (hK : K (xup h a (xaq cA n (va_up g j r)))) : wstq h a cA ci (nI j) r K := by
  refine ⟨n, g, ha, vp_in_nI hj hn, hr, ?_⟩
  rw [nI_clamp (by omega)]
  exact hK
theorem foldl_take {α β : Type} (f : β → α → β) (z : β) (l : List α) (i : Nat) (hi : i < l.length) : (l.take (i + 1)).foldl f z = f ((l.take i).foldl f z) l[i] := by
  rw [List.take_succ_eq_append_getElem hi, List.foldl_append]
  rfl
theorem sp_Bsize {d : Nat → ClassId} {h : xw} {b : Nat} {base prod : Int32} {arr : Nat} {seg : Int32} {els : List Nat} {E : Nat → EV} {Q : Int32 → xw → Prop} (hb : RB d h b base prod arr seg els) (hE : ∀ a ∈ els, h a = some (oE (E a))) (hQ : Q (bsz E els) h) : wp_Batch_sizeInBytes d h b Q := by
  obtain ⟨hb, cap, g, harr, hle, hcap, hg⟩ := hb
  unfold wp_Batch_sizeInBytes
  refine wLoop_ind (fun x h' => h' = h ∧ ∃ i, i ≤ els.length ∧ x = (b, (els.take i).foldl (fun z a => z + esz (E a)) 61, nI i)) (fun x _ => els.length + 1 - x.2.2.toNatClampNeg) ?_ _ _ ⟨rfl, 0, Nat.zero_le _, rfl⟩
  rintro x h' k ⟨rfl, i, hi, rfl⟩ hk
  show wc_Batch_sizeInBytes_5 d Q _ b ((els.take i).foldl (fun z a => z + esz (E a)) 61) (nI i) h'
  refine g_B_3 hb ?_
  refine ⟨fun c => ?_, fun c => ?_⟩
  · have h1 := (nI_leI (by omega) (by omega)).mp c
    have h2 : i = els.length := by omega
    rw [h2, List.take_length]
    exact hQ
  · have hlt : i < els.length := by
      rcases Nat.lt_or_ge i els.length with h1 | h1
      · exact h1
      · exact absurd ((nI_leI (by omega) (by omega)).mpr h1) c
    refine g_B_2 hb ?_
    refine ⟨_, rfl, ?_⟩
    refine wldq_n harr (by omega) (by omega) ?_
    rw [hg i els[i] (by simp [hlt])]
    have he := hE els[i] (List.getElem_mem hlt)
    refine ⟨_, rfl, ?_⟩
    refine is_E he ?_
    refine sp_Esize he ?_
    refine hk _ _ ⟨rfl, i + 1, hlt, ?_⟩ ?_
    · rw [foldl_take _ _ _ _ hlt, ← nI_1]
    · show els.length + 1 - (nI i + 1).toNatClampNeg < els.length + 1 - (nI i).toNatClampNeg
      rw [nI_1, nI_clamp (by omega), nI_clamp (by omega)]
      omega
theorem xup_same {h : xw} {a : Nat} {o : va_E} (ha : h a = some o) : xup h a o = h := by
  funext b
  by_cases hb : b = a
  · subst hb
    rw [xup_self, ha]
  · rw [xup_ne _ _ hb]
theorem i32_m1 (x : Int32) : x + (-1) = x - 1 := by rw [Int32.sub_eq_add_neg]
theorem cmp0 {x y : Int64} : lg_cmp x y = 0 ↔ x = y := by
  unfold lg_cmp
  constructor
  · intro c
    split at c
    · exact absurd c (by decide)
    · split at c
      · assumption
      · exact absurd c (by decide)
  · rintro rfl
    by_cases c : x > x
    · exact absurd c (by rw [gt_iff_lt, Int64.lt_iff_toInt_lt]; omega)
    · rw [if_neg c, if_pos rfl]
/-- the last one with a key -/
def isK (E : Nat → EV) (k : Int64) (b : Int32) (a : Nat) : Bool := decide ((E a).1 = k) && decide ((E a).2.1 = b)
def lastK (E : Nat → EV) (k : Int64) (b : Int32) (l : List Nat) : Option Nat := l.reverse.find? (isK E k b)
theorem lastK_snoc (E : Nat → EV) (k : Int64) (b : Int32) (l : List Nat) (a : Nat) : lastK E k b (l ++ [a]) = if isK E k b a = true then some a else lastK E k b l := by
  unfold lastK
  rw [List.reverse_append]
  show List.find? _ (a :: l.reverse) = _
  rw [List.find?_cons]
  cases isK E k b a <;> rfl
theorem sp_Blatest {d : Nat → ClassId} {h : xw} {b : Nat} {base prod : Int32} {arr : Nat} {seg : Int32} {els : List Nat} {E : Nat → EV} {k : Int64} {kb : Int32} {Q : Option Nat → xw → Prop} (hb : RB d h b base prod arr seg els) (hE : ∀ a ∈ els, h a = some (oE (E a))) (hQ : Q (lastK E k kb els) h) : wp_Batch_latestWithKey d h b k kb Q := by
  obtain ⟨hb, cap, g, harr, hle, hcap, hg⟩ := hb
  unfold wp_Batch_latestWithKey
  refine g_B_3 hb ?_
  refine wLoop_ind (fun x h' => h' = h ∧ ∃ i, i ≤ els.length ∧ x = (b, k, kb, nI i - 1) ∧ lastK E k kb (els.take i) = lastK E k kb els) (fun x _ => (x.2.2.2 + 1).toNatClampNeg) ?_ _ _ ⟨rfl, els.length, Nat.le_refl _, rfl, by rw [List.take_length]⟩
  rintro x h' k0 ⟨rfl, i, hi, rfl, hL⟩ hk
  show wc_Batch_latestWithKey_8 d Q _ b k kb (nI i - 1) h'
  refine ⟨fun c => ?_, fun c => ?_⟩
  · have h0 : i = 0 := by
      rcases Nat.eq_zero_or_pos i with h1 | h1
      · exact h1
      · obtain ⟨j, rfl⟩ : ∃ j, i = j + 1 := ⟨i - 1, by omega⟩
        rw [nI_pred] at c
        exact absurd c (nI_pos (by omega))
    subst h0
    rw [← hL] at hQ
    exact hQ
  · obtain ⟨j, rfl⟩ : ∃ j, i = j + 1 := by
      rcases Nat.eq_zero_or_pos i with h1 | h1
      · subst h1
        exact absurd (by decide) c
      · exact ⟨i - 1, by omega⟩
    rw [nI_pred] at c ⊢
    refine g_B_2 hb ?_
    refine ⟨_, rfl, ?_⟩
    refine wldq_n harr (by omega) (by omega) ?_
    rw [hg j els[j] (by simp [show j < els.length by omega])]
    have he := hE els[j] (List.getElem_mem (by omega))
    have hcut : els.take (j + 1) = els.take j ++ [els[j]] := List.take_succ_eq_append_getElem (by omega)
    rw [hcut, lastK_snoc] at hL
    have next : isK E k kb els[j] = false → k0 (b, k, kb, nI j + (-1)) h' := fun hn => by
      refine hk _ _ ⟨rfl, j, by omega, by rw [i32_m1], ?_⟩ ?_
      · rw [hn] at hL
        exact hL
      · show (nI j + (-1) + 1).toNatClampNeg < (nI (j + 1) - 1 + 1).toNatClampNeg
        have e1 : nI j + (-1) + 1 = nI j := by rw [Int32.add_assoc]; exact Int32.add_zero _
        rw [e1, nI_pred, nI_1, nI_clamp (by omega), nI_clamp (by omega)]
        omega
    refine ⟨_, rfl, ?_⟩
    refine g_E_0 he ?_
    refine ⟨fun c1 => ?_, fun c1 => ?_⟩
    · have c1 := cmp0.mp c1
      refine g_E_1 he ?_
      refine ⟨fun c2 => ?_, fun c2 => ?_⟩
      · have hy : isK E k kb els[j] = true := by simp [isK, c1, c2]
        rw [hy] at hL
        rw [← hL] at hQ
        exact hQ
      · exact next (by simp [isK, c2])
    · have c1 : ¬ (E els[j]).1 = k := fun q => c1 (cmp0.mpr q)
      exact next (by simp [isK, c1])
theorem ne_oe_arr {h : xw} {a b : Nat} {o : Nat × List Value} {x : ClassId × vp_A} (ha : h a = some (.inr o)) (hb : h b = some (.inl x)) : a ≠ b := fun q => by
  subst q
  rw [ha] at hb
  cases hb
theorem sp_BremoveGone {d : Nat → ClassId} {h : xw} {b : Nat} {base prod : Int32} {arr : Nat} {seg : Int32} {els : List Nat} {E : Nat → EV} {t : Int32} {cap : Nat} {g : Nat → Option Nat} {Q : Int32 → xw → Prop} (hb : h b = some (o_B base prod arr (nI els.length) seg)) (harr : h arr = some (xaq (d 0) cap g)) (hle : els.length ≤ cap) (hcap : cap ≤ 100) (hg : ∀ i e, els[i]? = some e → g i = some e) (hE : ∀ a ∈ els, h a = some (oE (E a)))
    (hQ : ∀ g', (∀ i e, (els.filter (fun a => !ego t (E a)))[i]? = some e → g' i = some e) → Q (nI els.length - nI (els.filter (fun a => !ego t (E a))).length) (xup (xup h arr (xaq (d 0) cap g')) b (o_B base prod arr (nI (els.filter (fun a => !ego t (E a))).length) seg))) : wp_Batch_removeGone d h b t Q := by
  have hne : b ≠ arr := ne_oe_arr hb harr
  have hkl : ∀ i, ((els.take i).filter (fun a => !ego t (E a))).length ≤ i := fun i => Nat.le_trans (List.length_filter_le _ _) (by rw [List.length_take]; omega)
  unfold wp_Batch_removeGone
  refine g_B_3 hb ?_
  refine wLoop_ind (fun x h' => ∃ i g', i ≤ els.length ∧ x = (b, t, nI els.length, nI ((els.take i).filter (fun a => !ego t (E a))).length, nI i) ∧ h' = xup h arr (xaq (d 0) cap g') ∧ (∀ j e, ((els.take i).filter (fun a => !ego t (E a)))[j]? = some e → g' j = some e) ∧ ∀ j, i ≤ j → g' j = g j) (fun x _ => els.length + 1 - x.2.2.2.2.toNatClampNeg) ?_ _ _ ⟨0, g, Nat.zero_le _, rfl, (xup_same harr).symm, fun j e hj => by simp at hj, fun _ _ => rfl⟩
  rintro x h' k0 ⟨i, g', hi, rfl, rfl, hk1, hk2⟩ hk
  have hb' : (xup h arr (xaq (d 0) cap g')) b = some (o_B base prod arr (nI els.length) seg) := by rw [xup_ne _ _ hne]; exact hb
  have hE' : ∀ a ∈ els, (xup h arr (xaq (d 0) cap g')) a = some (oE (E a)) := fun a ha => by
    rw [xup_ne _ _ (ne_oe_arr (hE a ha) harr)]
    exact hE a ha
  show wc_Batch_removeGone_10 d Q _ b t (nI els.length) (nI ((els.take i).filter (fun a => !ego t (E a))).length) (nI i) (xup h arr (xaq (d 0) cap g'))
  refine ⟨fun c => ?_, fun c => ?_⟩
  · have h1 := (nI_leI (by omega) (by omega)).mp c
    have h2 : i = els.length := by omega
    subst h2
    rw [List.take_length] at hk1 ⊢
    have hkl2 := hkl els.length
    rw [List.take_length] at hkl2
    generalize hke : els.filter (fun a => !ego t (E a)) = kept at hk1 hkl2 hQ ⊢
    refine wLoop_ind (fun x h' => ∃ j g', kept.length ≤ j ∧ j ≤ els.length ∧ x = (b, nI els.length, nI kept.length, nI j) ∧ h' = xup h arr (xaq (d 0) cap g') ∧ (∀ j e, kept[j]? = some e → g' j = some e)) (fun x _ => els.length + 1 - x.2.2.2.toNatClampNeg) ?_ _ _ ⟨kept.length, g', Nat.le_refl _, hkl2, rfl, rfl, hk1⟩
    rintro x h' k1 ⟨j, g', hj1, hj2, rfl, rfl, hk3⟩ hk
    have hb' : (xup h arr (xaq (d 0) cap g')) b = some (o_B base prod arr (nI els.length) seg) := by rw [xup_ne _ _ hne]; exact hb
    show wc_Batch_removeGone_54 d Q _ b (nI els.length) (nI kept.length) (nI j) (xup h arr (xaq (d 0) cap g'))
    refine ⟨fun c => ?_, fun c => ?_⟩
    · refine p_B_3 hb' ?_
      exact hQ g' hk3
    · have hlt : j < els.length := by
        rcases Nat.lt_or_ge j els.length with h1 | h1
        · exact h1
        · exact absurd ((nI_leI (by omega) (by omega)).mpr h1) c
      refine g_B_2 hb' ?_
      refine ⟨_, rfl, ?_⟩
      refine wstq_n (xup_self _ _ _) (by omega) (by omega) (fun _ q => by cases q) ?_
      rw [xup_xup]
      refine hk _ _ ⟨j + 1, va_up g' j none, by omega, hlt, by rw [← nI_1], rfl, fun i e hie => ?_⟩ ?_
      · have hi2 : i < kept.length := (List.getElem?_eq_some_iff.mp hie).1
        rw [va_up_ne _ _ (by omega)]
        exact hk3 i e hie
      · show els.length + 1 - (nI j + 1).toNatClampNeg < els.length + 1 - (nI j).toNatClampNeg
        rw [nI_1, nI_clamp (by omega), nI_clamp (by omega)]
        omega
  · have hlt : i < els.length := by
      rcases Nat.lt_or_ge i els.length with h1 | h1
      · exact h1
      · exact absurd ((nI_leI (by omega) (by omega)).mpr h1) c
    have hcut : els.take (i + 1) = els.take i ++ [els[i]] := List.take_succ_eq_append_getElem hlt
    have he := hE' els[i] (List.getElem_mem hlt)
    have hkli := hkl i
    have mu : els.length + 1 - (nI i + 1).toNatClampNeg < els.length + 1 - (nI i).toNatClampNeg := by
      rw [nI_1, nI_clamp (by omega), nI_clamp (by omega)]
      omega
    refine g_B_2 hb' ?_
    refine ⟨_, rfl, ?_⟩
    refine wldq_n (xup_self _ _ _) (by omega) (by omega) ?_
    rw [hk2 i (Nat.le_refl _), hg i els[i] (by simp [hlt])]
    refine ⟨_, rfl, ?_⟩
    refine is_E he ?_
    refine sp_goes he (fun hgo => ?_) (fun hgo => ?_)
    · refine ⟨fun q => absurd q (by decide), fun _ => ?_⟩
      refine hk _ _ ⟨i + 1, g', hlt, ?_, rfl, ?_, fun j hj => hk2 j (by omega)⟩ mu
      · rw [hcut, List.filter_append, ← nI_1]
        simp [hgo]
      · rw [hcut, List.filter_append]
        simpa [hgo] using hk1
    · have hgo : ego t (E els[i]) = false := by simpa using hgo
      refine ⟨fun _ => ?_, fun q => absurd rfl q⟩
      refine g_B_2 hb' ?_
      refine ⟨_, rfl, ?_⟩
      refine wstq_n (xup_self _ _ _) (by omega) (by omega) (fun z q => by cases q; exact ⟨_, he⟩) ?_
      rw [xup_xup]
      refine hk _ _ ⟨i + 1, va_up g' ((els.take i).filter (fun a => !ego t (E a))).length (some els[i]), hlt, ?_, rfl, ?_, fun j hj => ?_⟩ mu
      · rw [hcut, List.filter_append, ← nI_1]
        simp [hgo, ← nI_1]
      · intro j e hje
        rw [hcut, List.filter_append] at hje
        simp only [hgo, List.filter_cons, List.filter_nil, Bool.not_false, if_true] at hje
        by_cases hjl : j < ((els.take i).filter (fun a => !ego t (E a))).length
        · rw [List.getElem?_append_left hjl] at hje
          rw [va_up_ne _ _ (by omega)]
          exact hk1 j e hje
        · rw [List.getElem?_append_right (by omega)] at hje
          have hj0 : j - ((els.take i).filter (fun a => !ego t (E a))).length = 0 := by
            have := (List.getElem?_eq_some_iff.mp hje).1
            simp at this
            omega
          rw [hj0] at hje
          simp at hje
          have : j = ((els.take i).filter (fun a => !ego t (E a))).length := by omega
          rw [this, va_up_self, hje]
      · rw [va_up_ne _ _ (by omega)]
        exact hk2 j (by omega)
end
section
/-! the log's own methods that only read -/
abbrev BF : Type := Int32 × Int32 × Nat × Int32
theorem i32_nle {x y : Int32} : ¬ x ≤ y ↔ y < x := by
  rw [Int32.lt_iff_toInt_lt, Int32.le_iff_toInt_le]
  omega
theorem sp_isClosed {d : Nat → ClassId} {h : xw} {x ab pk ad b arr : Nat} {bc rc no dc ls lf base prod n seg : Int32} {Q : Int32 → xw → Prop} (hx : h x = some (o_L ab bc rc no pk ad dc)) (hp : h pk = some (o_P ls lf)) (hb : h b = some (o_B base prod arr n seg)) (h1 : seg < ls → Q 1 h) (h0 : ¬ seg < ls → Q 0 h) : wp_LogCleaner_isClosed d h x (some b) Q := by
  unfold wp_LogCleaner_isClosed
  refine ⟨_, rfl, ?_⟩
  refine g_B_4 hb ?_
  refine g_L_4 hx ?_
  refine ⟨_, rfl, ?_⟩
  refine g_P_0 hp ?_
  exact ⟨fun c => ⟨Or.inl rfl, h0 (i32_nlt.mpr c)⟩, fun c => ⟨Or.inr rfl, h1 (i32_nle.mp c)⟩⟩
theorem lastK_append (E : Nat → EV) (k : Int64) (b : Int32) (l1 l2 : List Nat) : lastK E k b (l1 ++ l2) = (lastK E k b l2).or (lastK E k b l1) := by
  unfold lastK
  rw [List.reverse_append, List.find?_append]
theorem flatMap_take (el : Nat → List Nat) (L : List Nat) (j : Nat) (hj : j < L.length) : (L.take (j + 1)).flatMap el = (L.take j).flatMap el ++ el L[j] := by
  rw [List.take_succ_eq_append_getElem hj, List.flatMap_append]
  simp
theorem flatMap_drop (el : Nat → List Nat) (L : List Nat) (j : Nat) (hj : j < L.length) : (L.drop j).flatMap el = el L[j] ++ (L.drop (j + 1)).flatMap el := by
  rw [List.drop_eq_getElem_cons hj]
  rfl
theorem mem_flat {el : Nat → List Nat} {L : List Nat} {b e : Nat} (hb : b ∈ L) (he : e ∈ el b) : e ∈ L.flatMap el := List.mem_flatMap.mpr ⟨b, hb, he⟩
theorem sp_Llatest {d : Nat → ClassId} {h : xw} {x ab pk ad : Nat} {rc no dc : Int32} {LB : List Nat} {g : Nat → Option Nat} {B : Nat → BF} {el : Nat → List Nat} {E : Nat → EV} {k : Int64} {kb : Int32} {Q : Option Nat → xw → Prop} (hx : h x = some (o_L ab (nI LB.length) rc no pk ad dc)) (hab : h ab = some (xaq (d 1) 400 g)) (hg : ∀ i b, LB[i]? = some b → g i = some b) (hle : LB.length ≤ 400)
    (hRB : ∀ b ∈ LB, RB d h b (B b).1 (B b).2.1 (B b).2.2.1 (B b).2.2.2 (el b)) (hE : ∀ e ∈ LB.flatMap el, h e = some (oE (E e))) (hQ : Q (lastK E k kb (LB.flatMap el)) h) : wp_LogCleaner_latestWithKey d h x k kb Q := by
  unfold wp_LogCleaner_latestWithKey
  refine g_L_1 hx ?_
  refine wLoop_ind (fun y h' => h' = h ∧ ∃ i, i ≤ LB.length ∧ y = (x, k, kb, nI i - 1) ∧ lastK E k kb ((LB.take i).flatMap el) = lastK E k kb (LB.flatMap el)) (fun y _ => (y.2.2.2 + 1).toNatClampNeg) ?_ _ _ ⟨rfl, LB.length, Nat.le_refl _, rfl, by rw [List.take_length]⟩
  rintro y h' k0 ⟨rfl, i, hi, rfl, hL⟩ hk
  show wc_LogCleaner_latestWithKey_8 d Q _ x k kb (nI i - 1) h'
  refine ⟨fun c => ?_, fun c => ?_⟩
  · have h0 : i = 0 := by
      rcases Nat.eq_zero_or_pos i with h1 | h1
      · exact h1
      · obtain ⟨j, rfl⟩ : ∃ j, i = j + 1 := ⟨i - 1, by omega⟩
        rw [nI_pred] at c
        exact absurd c (nI_pos (by omega))
    subst h0
    rw [← hL] at hQ
    exact hQ
  · obtain ⟨j, rfl⟩ : ∃ j, i = j + 1 := by
      rcases Nat.eq_zero_or_pos i with h1 | h1
      · subst h1
        exact absurd (by decide) c
      · exact ⟨i - 1, by omega⟩
    have hj : j < LB.length := by omega
    rw [nI_pred] at c ⊢
    refine g_L_0 hx ?_
    refine ⟨_, rfl, ?_⟩
    refine wldq_n hab (by omega) (by omega) ?_
    rw [hg j LB[j] (by simp [hj])]
    have hbm : LB[j] ∈ LB := List.getElem_mem hj
    have hb := hRB LB[j] hbm
    refine ⟨_, rfl, ?_⟩
    refine is_B hb.1 ?_
    refine sp_Blatest hb (fun a ha => hE a (mem_flat hbm ha)) ?_
    rw [flatMap_take el LB j hj, lastK_append] at hL
    refine ⟨fun hn => ?_, fun a ha => ?_⟩
    · rw [hn] at hL
      refine hk _ _ ⟨rfl, j, by omega, by rw [i32_m1], hL⟩ ?_
      show (nI j + (-1) + 1).toNatClampNeg < (nI (j + 1) - 1 + 1).toNatClampNeg
      have e1 : nI j + (-1) + 1 = nI j := by rw [Int32.add_assoc]; exact Int32.add_zero _
      rw [e1, nI_pred, nI_1, nI_clamp (by omega), nI_clamp (by omega)]
      omega
    · rw [ha] at hL
      rw [← hL] at hQ
      exact hQ
theorem sp_entryAt {d : Nat → ClassId} {h : xw} {x ab pk ad : Nat} {rc no dc r : Int32} {LB : List Nat} {g : Nat → Option Nat} {B : Nat → BF} {el : Nat → List Nat} {Q : Option Nat → xw → Prop} (hx : h x = some (o_L ab (nI LB.length) rc no pk ad dc)) (hab : h ab = some (xaq (d 1) 400 g)) (hg : ∀ i b, LB[i]? = some b → g i = some b) (hle : LB.length ≤ 400)
    (hRB : ∀ b ∈ LB, RB d h b (B b).1 (B b).2.1 (B b).2.2.1 (B b).2.2.2 (el b)) (h0 : r < 0 → Q none h) (h1 : ∀ j, j < 2 ^ 31 → r = nI j → Q (LB.flatMap el)[j]? h) : wp_LogCleaner_entryAt d h x r Q := by
  unfold wp_LogCleaner_entryAt
  refine ⟨fun c => ?_, fun c => h0 (i32_nle.mp c)⟩
  obtain ⟨j, hj, rfl⟩ := nI_of (x := r) (i32_nlt.mpr c)
  have hQ := h1 j hj rfl
  refine wLoop_ind (fun y h' => h' = h ∧ ∃ i t, i ≤ LB.length ∧ t ≤ j ∧ y = (x, nI t, nI i) ∧ (LB.flatMap el)[j]? = ((LB.drop i).flatMap el)[t]?) (fun y _ => LB.length + 1 - y.2.2.toNatClampNeg) ?_ _ _ ⟨rfl, 0, j, Nat.zero_le _, Nat.le_refl _, rfl, by rw [List.drop_zero]⟩
  rintro y h' k0 ⟨rfl, i, t, hi, ht, rfl, hL⟩ hk
  show wc_LogCleaner_entryAt_10 d Q _ x (nI t) (nI i) h'
  refine g_L_1 hx ?_
  refine ⟨fun c => ?_, fun c => ?_⟩
  · have h2 := (nI_leI (by omega) (by omega)).mp c
    have h3 : i = LB.length := by omega
    rw [hL, h3, List.drop_length] at hQ
    exact hQ
  · have hlt : i < LB.length := by
      rcases Nat.lt_or_ge i LB.length with h2 | h2
      · exact h2
      · exact absurd ((nI_leI (by omega) (by omega)).mpr h2) c
    refine g_L_0 hx ?_
    refine ⟨_, rfl, ?_⟩
    refine wldq_n hab (by omega) (by omega) ?_
    rw [hg i LB[i] (by simp [hlt])]
    have hbm : LB[i] ∈ LB := List.getElem_mem hlt
    obtain ⟨hb, cap, g2, harr, hle2, hcap, hg2⟩ := hRB LB[i] hbm
    rw [flatMap_drop el LB i hlt] at hL
    refine ⟨_, rfl, ?_⟩
    refine g_B_3 hb ?_
    refine ⟨fun c2 => ?_, fun c2 => ?_⟩
    · have h2 := (nI_leI (by omega) (by omega)).mp c2
      refine g_B_3 hb ?_
      refine hk _ _ ⟨rfl, i + 1, t - (el LB[i]).length, hlt, by omega, ?_, ?_⟩ ?_
      · rw [pk_sub h2, ← nI_1]
      · rw [List.getElem?_append_right h2] at hL
        exact hL
      · show LB.length + 1 - (nI i + 1).toNatClampNeg < LB.length + 1 - (nI i).toNatClampNeg
        rw [nI_1, nI_clamp (by omega), nI_clamp (by omega)]
        omega
    · have h2 : t < (el LB[i]).length := by
        rcases Nat.lt_or_ge t (el LB[i]).length with h2 | h2
        · exact h2
        · exact absurd ((nI_leI (by omega) (by omega)).mpr h2) c2
      refine g_B_2 hb ?_
      refine ⟨_, rfl, ?_⟩
      refine wldq_n harr (by omega) (by omega) ?_
      rw [hg2 t (el LB[i])[t] (by simp [h2])]
      rw [List.getElem?_append_left h2, List.getElem?_eq_getElem h2] at hL
      rw [hL] at hQ
      exact hQ
/-- the log knows the batch b, behind which the batches 'rest' lie -/
def knownS (B : Nat → BF) (b : Nat) (rest : List Nat) : Bool := decide ((B b).2.1 ≠ -1) && decide ((rest.filter (fun c => decide ((B c).2.1 = (B b).2.1))).length < 2)
theorem sp_isKnown {d : Nat → ClassId} {h : xw} {x ab pk ad i : Nat} {rc no dc : Int32} {LB : List Nat} {g : Nat → Option Nat} {B : Nat → BF} {Q : Int32 → xw → Prop} (hx : h x = some (o_L ab (nI LB.length) rc no pk ad dc)) (hab : h ab = some (xaq (d 1) 400 g)) (hi : i < LB.length) (hg : ∀ j b, i ≤ j → LB[j]? = some b → g j = some b) (hle : LB.length ≤ 400)
    (hB : ∀ b ∈ LB, ∃ n, h b = some (o_B (B b).1 (B b).2.1 (B b).2.2.1 n (B b).2.2.2)) (h1 : knownS B LB[i] (LB.drop (i + 1)) = true → Q 1 h) (h0 : knownS B LB[i] (LB.drop (i + 1)) = false → Q 0 h) : wp_LogCleaner_isKnown d h x (nI i) Q := by
  have hLi : LB[i]? = some LB[i] := List.getElem?_eq_getElem hi
  obtain ⟨n0, hb⟩ := hB LB[i] (List.getElem_mem hi)
  unfold wp_LogCleaner_isKnown
  refine g_L_0 hx ?_
  refine ⟨_, rfl, ?_⟩
  refine wldq_n hab (by omega) (by omega) ?_
  rw [hg i LB[i] (Nat.le_refl _) hLi]
  refine ⟨_, rfl, ?_⟩
  refine g_B_1 hb ?_
  refine ⟨fun c => ?_, fun c => ?_⟩
  · exact ⟨Or.inl rfl, h0 (by simp [knownS, c])⟩
  · refine wLoop_ind (fun y h' => h' = h ∧ ∃ j, i + 1 ≤ j ∧ j ≤ LB.length ∧ y = (x, (B LB[i]).2.1, nI ((((LB.drop (i + 1)).take (j - (i + 1))).filter (fun c => decide ((B c).2.1 = (B LB[i]).2.1))).length), nI j)) (fun y _ => LB.length + 1 - y.2.2.2.toNatClampNeg) ?_ _ _ ⟨rfl, i + 1, Nat.le_refl _, hi, by rw [← nI_1]; simp [nI_0]⟩
    rintro y h' k0 ⟨rfl, j, hj1, hj2, rfl⟩ hk
    have hcl : (((LB.drop (i + 1)).take (j - (i + 1))).filter (fun c => decide ((B c).2.1 = (B LB[i]).2.1))).length ≤ 400 := Nat.le_trans (List.length_filter_le _ _) (by rw [List.length_take, List.length_drop]; omega)
    show wc_LogCleaner_isKnown_24 d Q _ x (B LB[i]).2.1 (nI (((LB.drop (i + 1)).take (j - (i + 1))).filter (fun c => decide ((B c).2.1 = (B LB[i]).2.1))).length) (nI j) h'
    refine g_L_1 hx ?_
    refine ⟨fun c2 => ?_, fun c2 => ?_⟩
    · have h2 := (nI_leI (by omega) (by omega)).mp c2
      have h3 : j = LB.length := by omega
      have h4 : (LB.drop (i + 1)).take (j - (i + 1)) = LB.drop (i + 1) := by
        rw [List.take_of_length_le]
        rw [List.length_drop]
        omega
      rw [h4] at hcl ⊢
      have e2 : (2 : Int32) = nI 2 := by decide
      refine ⟨fun c3 => ?_, fun c3 => ?_⟩
      · rw [e2] at c3
        have h5 := (nI_leI (by omega) (by omega)).mp c3
        exact ⟨Or.inl rfl, h0 (by simp only [knownS, Bool.and_eq_false_iff, decide_eq_false_iff_not]; right; omega)⟩
      · rw [e2] at c3
        have h5 : ¬ 2 ≤ _ := fun q => c3 ((nI_leI (by omega) (by omega)).mpr q)
        exact ⟨Or.inr rfl, h1 (by simp only [knownS, Bool.and_eq_true, decide_eq_true_eq]; exact ⟨c, by omega⟩)⟩
    · have hlt : j < LB.length := by
        rcases Nat.lt_or_ge j LB.length with h2 | h2
        · exact h2
        · exact absurd ((nI_leI (by omega) (by omega)).mpr h2) c2
      have hLj : LB[j]? = some LB[j] := List.getElem?_eq_getElem hlt
      obtain ⟨nj, hbj⟩ := hB LB[j] (List.getElem_mem hlt)
      have hcut : (LB.drop (i + 1)).take (j + 1 - (i + 1)) = (LB.drop (i + 1)).take (j - (i + 1)) ++ [LB[j]] := by
        have e3 : j + 1 - (i + 1) = (j - (i + 1)) + 1 := by omega
        rw [e3, List.take_succ_eq_append_getElem (by rw [List.length_drop]; omega)]
        congr 2
        rw [List.getElem_drop]
        congr 1
        omega
      have mu : LB.length + 1 - (nI j + 1).toNatClampNeg < LB.length + 1 - (nI j).toNatClampNeg := by
        rw [nI_1, nI_clamp (by omega), nI_clamp (by omega)]
        omega
      refine g_L_0 hx ?_
      refine ⟨_, rfl, ?_⟩
      refine wldq_n hab (by omega) (by omega) ?_
      rw [hg j LB[j] (by omega) hLj]
      refine ⟨_, rfl, ?_⟩
      refine g_B_1 hbj ?_
      refine ⟨fun c3 => ?_, fun c3 => ?_⟩
      · refine hk _ _ ⟨rfl, j + 1, by omega, hlt, ?_⟩ mu
        rw [hcut, List.filter_append, ← nI_1 j]
        simp [c3, ← nI_1]
      · refine hk _ _ ⟨rfl, j + 1, by omega, hlt, ?_⟩ mu
        rw [hcut, List.filter_append, ← nI_1 j]
        simp [c3]
end
section
/-! the log's own methods that change which batches it has -/
theorem ne_obj {h : xw} {a b : Nat} {o o' : va_E} (ha : h a = some o) (hb : h b = some o') (hn : o ≠ o') : a ≠ b := fun q => by
  subst q
  rw [ha] at hb
  exact hn (Option.some.inj hb)
theorem sp_keepFirst {d : Nat → ClassId} {h : xw} {x ab pk ad n kept : Nat} {rc no dc : Int32} {g : Nat → Option Nat} {Q : xw → Prop} (hx : h x = some (o_L ab (nI n) rc no pk ad dc)) (hab : h ab = some (xaq (d 1) 400 g)) (hk0 : kept ≤ n) (hn : n ≤ 400)
    (hQ : ∀ g', (∀ j, j < kept → g' j = g j) → Q (xup (xup h ab (xaq (d 1) 400 g')) x (o_L ab (nI kept) rc no pk ad dc))) : wp_LogCleaner_keepFirstBatches d h x (nI kept) Q := by
  have hne : x ≠ ab := ne_oe_arr hx hab
  unfold wp_LogCleaner_keepFirstBatches
  refine wLoop_ind (fun y h' => ∃ j g', kept ≤ j ∧ j ≤ n ∧ y = (x, nI kept, nI j) ∧ h' = xup h ab (xaq (d 1) 400 g') ∧ ∀ i, i < kept → g' i = g i) (fun y _ => n + 1 - y.2.2.toNatClampNeg) ?_ _ _ ⟨kept, g, Nat.le_refl _, hk0, rfl, (xup_same hab).symm, fun _ _ => rfl⟩
  rintro y h' k0 ⟨j, g', hj1, hj2, rfl, rfl, hg⟩ hk
  have hx' : (xup h ab (xaq (d 1) 400 g')) x = some (o_L ab (nI n) rc no pk ad dc) := by rw [xup_ne _ _ hne]; exact hx
  show wc_LogCleaner_keepFirstBatches_2 d Q _ x (nI kept) (nI j) (xup h ab (xaq (d 1) 400 g'))
  refine g_L_1 hx' ?_
  refine ⟨fun c => ?_, fun c => ?_⟩
  · refine p_L_1 hx' ?_
    exact hQ g' hg
  · have hlt : j < n := by
      rcases Nat.lt_or_ge j n with h1 | h1
      · exact h1
      · exact absurd ((nI_leI (by omega) (by omega)).mpr h1) c
    refine g_L_0 hx' ?_
    refine ⟨_, rfl, ?_⟩
    refine wstq_n (xup_self _ _ _) (by omega) (by omega) (fun _ q => by cases q) ?_
    rw [xup_xup]
    refine hk _ _ ⟨j + 1, va_up g' j none, by omega, hlt, by rw [← nI_1], rfl, fun i hi => ?_⟩ ?_
    · rw [va_up_ne _ _ (by omega)]
      exact hg i hi
    · show n + 1 - (nI j + 1).toNatClampNeg < n + 1 - (nI j).toNatClampNeg
      rw [nI_1, nI_clamp (by omega), nI_clamp (by omega)]
      omega
/-- what is left of the batches when those that are closed, empty and unknown go -/
def rmv (B : Nat → BF) (el : Nat → List Nat) (ls : Int32) : List Nat → List Nat
  | [] => []
  | b :: rest => if (decide ((B b).2.2.2 < ls) && ((el b).isEmpty && !knownS B b rest)) = true then rmv B el ls rest else b :: rmv B el ls rest
theorem rmv_drop (B : Nat → BF) (el : Nat → List Nat) (ls : Int32) (LB : List Nat) (i : Nat) (hi : i < LB.length) : rmv B el ls (LB.drop i) = if (decide ((B LB[i]).2.2.2 < ls) && ((el LB[i]).isEmpty && !knownS B LB[i] (LB.drop (i + 1)))) = true then rmv B el ls (LB.drop (i + 1)) else LB[i] :: rmv B el ls (LB.drop (i + 1)) := by
  rw [List.drop_eq_getElem_cons hi]
  rfl
theorem rmv_len (B : Nat → BF) (el : Nat → List Nat) (ls : Int32) (L : List Nat) : (rmv B el ls L).length ≤ L.length := by
  induction L with
  | nil => exact Nat.le_refl _
  | cons b rest ih =>
    unfold rmv
    split
    · exact Nat.le_trans ih (Nat.le_succ _)
    · simp only [List.length_cons]
      omega
theorem sp_removeEmptied {d : Nat → ClassId} {h : xw} {x ab pk ad : Nat} {rc no dc ls lf : Int32} {LB : List Nat} {g : Nat → Option Nat} {B : Nat → BF} {el : Nat → List Nat} {Q : Int32 → xw → Prop} (hx : h x = some (o_L ab (nI LB.length) rc no pk ad dc)) (hp : h pk = some (o_P ls lf)) (hab : h ab = some (xaq (d 1) 400 g)) (hg : ∀ i b, LB[i]? = some b → g i = some b) (hle : LB.length ≤ 400)
    (hB : ∀ b ∈ LB, (el b).length ≤ 100 ∧ h b = some (o_B (B b).1 (B b).2.1 (B b).2.2.1 (nI (el b).length) (B b).2.2.2))
    (hQ : ∀ g', (∀ j b, (rmv B el ls LB)[j]? = some b → g' j = some b) → Q (nI LB.length - nI (rmv B el ls LB).length) (xup (xup h ab (xaq (d 1) 400 g')) x (o_L ab (nI (rmv B el ls LB).length) rc no pk ad dc))) : wp_LogCleaner_removeEmptiedBatches d h x Q := by
  have hne : x ≠ ab := ne_oe_arr hx hab
  have hnp : pk ≠ ab := ne_oe_arr hp hab
  have hrl := rmv_len B el ls LB
  unfold wp_LogCleaner_removeEmptiedBatches
  refine g_L_1 hx ?_
  refine wLoop_ind (fun y h' => ∃ i K g', i ≤ LB.length ∧ K.length ≤ i ∧ rmv B el ls LB = K ++ rmv B el ls (LB.drop i) ∧ y = (x, nI LB.length, nI K.length, nI i) ∧ h' = xup h ab (xaq (d 1) 400 g') ∧ (∀ j b, K[j]? = some b → g' j = some b) ∧ ∀ j, i ≤ j → g' j = g j) (fun y _ => LB.length + 1 - y.2.2.2.toNatClampNeg) ?_ _ _ ⟨0, [], g, Nat.zero_le _, Nat.le_refl _, by rw [List.drop_zero]; rfl, rfl, (xup_same hab).symm, fun j b hj => by simp at hj, fun _ _ => rfl⟩
  rintro y h' k0 ⟨i, K, g', hi, hKl, hKe, rfl, rfl, hk1, hk2⟩ hk
  have hx' : (xup h ab (xaq (d 1) 400 g')) x = some (o_L ab (nI LB.length) rc no pk ad dc) := by rw [xup_ne _ _ hne]; exact hx
  have hp' : (xup h ab (xaq (d 1) 400 g')) pk = some (o_P ls lf) := by rw [xup_ne _ _ hnp]; exact hp
  have hB' : ∀ b ∈ LB, (xup h ab (xaq (d 1) 400 g')) b = some (o_B (B b).1 (B b).2.1 (B b).2.2.1 (nI (el b).length) (B b).2.2.2) := fun b hb => by
    rw [xup_ne _ _ (ne_oe_arr (hB b hb).2 hab)]
    exact (hB b hb).2
  show wc_LogCleaner_removeEmptiedBatches_9 d Q _ x (nI LB.length) (nI K.length) (nI i) (xup h ab (xaq (d 1) 400 g'))
  refine ⟨fun c => ?_, fun c => ?_⟩
  · have h1 := (nI_leI (by omega) (by omega)).mp c
    have h2 : i = LB.length := by omega
    have h3 : rmv B el ls LB = K := by rw [hKe, h2, List.drop_length]; simp [rmv]
    refine is_L hx' ?_
    refine sp_keepFirst hx' (xup_self _ _ _) (by omega) hle (fun g2 hg2 => ?_)
    rw [xup_xup]
    rw [h3] at hQ
    refine hQ g2 (fun j b hj => ?_)
    rw [hg2 j (List.getElem?_eq_some_iff.mp hj).1]
    exact hk1 j b hj
  · have hlt : i < LB.length := by
      rcases Nat.lt_or_ge i LB.length with h1 | h1
      · exact h1
      · exact absurd ((nI_leI (by omega) (by omega)).mpr h1) c
    have hLi : LB[i]? = some LB[i] := List.getElem?_eq_getElem hlt
    have hbm : LB[i] ∈ LB := List.getElem_mem hlt
    have hb := hB' LB[i] hbm
    have hbl := (hB LB[i] hbm).1
    rw [rmv_drop B el ls LB i hlt] at hKe
    have mu : LB.length + 1 - (nI i + 1).toNatClampNeg < LB.length + 1 - (nI i).toNatClampNeg := by
      rw [nI_1, nI_clamp (by omega), nI_clamp (by omega)]
      omega
    -- it stays
    have stay : (decide ((B LB[i]).2.2.2 < ls) && ((el LB[i]).isEmpty && !knownS B LB[i] (LB.drop (i + 1)))) = false → wb_LogCleaner_removeEmptiedBatches_52 d (fun y0 y1 y2 y3 h => k0 (y0, y1, y2, y3) h) Q x (nI LB.length) (nI K.length) (nI i) (some LB[i]) 0 (xup h ab (xaq (d 1) 400 g')) := fun hs => by
      refine ⟨fun _ => ?_, fun q => absurd rfl q⟩
      refine g_L_0 hx' ?_
      refine ⟨_, rfl, ?_⟩
      refine wstq_n (xup_self _ _ _) (by omega) (by omega) (fun z q => by cases q; exact ⟨_, hb⟩) ?_
      rw [xup_xup]
      rw [hs] at hKe
      refine hk _ _ ⟨i + 1, K ++ [LB[i]], va_up g' K.length (some LB[i]), hlt, by simp; omega, by rw [hKe]; simp, ?_, rfl, fun j b hj => ?_, fun j hj => ?_⟩ mu
      · rw [← nI_1 i]
        simp [← nI_1]
      · by_cases hjl : j < K.length
        · rw [List.getElem?_append_left hjl] at hj
          rw [va_up_ne _ _ (by omega)]
          exact hk1 j b hj
        · rw [List.getElem?_append_right (by omega)] at hj
          have hj0 : j - K.length = 0 := by
            have := (List.getElem?_eq_some_iff.mp hj).1
            simp at this
            omega
          rw [hj0] at hj
          simp at hj
          have : j = K.length := by omega
          rw [this, va_up_self, hj]
      · rw [va_up_ne _ _ (by omega)]
        exact hk2 j (by omega)
    refine g_L_0 hx' ?_
    refine ⟨_, rfl, ?_⟩
    refine wldq_n (xup_self _ _ _) (by omega) (by omega) ?_
    rw [hk2 i (Nat.le_refl _), hg i LB[i] hLi]
    refine is_L hx' ?_
    refine sp_isClosed hx' hp' hb (fun hcl => ?_) (fun hcl => ?_)
    · refine ⟨fun q => absurd q (by decide), fun _ => ?_⟩
      refine ⟨_, rfl, ?_⟩
      refine g_B_3 hb ?_
      refine ⟨fun c2 => ?_, fun c2 => ?_⟩
      · have he : (el LB[i]).length = 0 := by
          rw [← nI_0] at c2
          exact (nI_eq (by omega) (by omega)).mp c2
        have he2 : (el LB[i]).isEmpty = true := by simpa using he
        refine is_L hx' ?_
        refine sp_isKnown hx' (xup_self _ _ _) hlt (fun j b hj hjb => by rw [hk2 j hj]; exact hg j b hjb) hle (fun b hb => ⟨_, hB' b hb⟩) (fun hkn => ?_) (fun hkn => ?_)
        · refine ⟨fun q => absurd q (by decide), fun _ => ?_⟩
          exact stay (by simp [hkn])
        · refine ⟨fun _ => ?_, fun q => absurd rfl q⟩
          refine ⟨fun q => absurd q (by decide), fun _ => ?_⟩
          have hgo : (decide ((B LB[i]).2.2.2 < ls) && ((el LB[i]).isEmpty && !knownS B LB[i] (LB.drop (i + 1)))) = true := by simp [hcl, he2, hkn]
          rw [if_pos hgo] at hKe
          refine hk _ _ ⟨i + 1, K, g', hlt, by omega, hKe, by rw [← nI_1 i], rfl, hk1, fun j hj => hk2 j (by omega)⟩ mu
      · have he : (el LB[i]).isEmpty = false := by
          cases hel : el LB[i] with
          | nil => rw [hel] at c2; exact absurd rfl c2
          | cons z zs => rfl
        exact stay (by simp [he])
    · refine ⟨fun _ => stay (by simp [hcl]), fun q => absurd rfl q⟩
theorem B_ne_L {a b : Int32} {c : Nat} {e f : Int32} {a' c' d' : Nat} {e' f' g' h' : Int32} : o_B a b c e f ≠ o_L a' e' f' g' c' d' h' := by simp [o_B, o_L]
theorem B_ne_P {a b : Int32} {c : Nat} {e f a' b' : Int32} : o_B a b c e f ≠ o_P a' b' := by simp [o_B, o_P]
theorem L_ne_P {a' c' d' : Nat} {e' f' g' h' a b : Int32} : o_L a' e' f' g' c' d' h' ≠ o_P a b := by simp [o_L, o_P]
theorem nodup_at {L : List Nat} {i : Nat} (hn : L.Nodup) (hi : i < L.length) : L[i] ∉ L.take i ∧ L[i] ∉ L.drop (i + 1) := by
  have e : L.take i ++ L[i] :: L.drop (i + 1) = L := by rw [← List.drop_eq_getElem_cons hi, List.take_append_drop]
  have h2 : (L.take i ++ L[i] :: L.drop (i + 1)).Nodup := by rw [e]; exact hn
  obtain ⟨h3, h4, h5⟩ := List.nodup_append.mp h2
  exact ⟨fun q => h5 _ q _ List.mem_cons_self rfl, (List.nodup_cons.mp h4).1⟩
theorem mem_drop_cons {L : List Nat} {i b : Nat} (hi : i < L.length) (hb : b ∈ L.drop (i + 1)) : b ∈ L.drop i := by
  rw [List.drop_eq_getElem_cons hi]
  exact List.mem_cons_of_mem _ hb
theorem take_mem_succ {L : List Nat} {i b : Nat} (hi : i < L.length) (hb : b ∈ L.take (i + 1)) : b ∈ L.take i ∨ b = L[i] := by
  rw [List.take_succ_eq_append_getElem hi] at hb
  rcases List.mem_append.mp hb with h | h
  · exact Or.inl h
  · exact Or.inr (List.mem_singleton.mp h)
/-- how many records of the first batches lie before segment n, as the class counts them -/
def wentF (B : Nat → BF) (el : Nat → List Nat) (n : Int32) (L : List Nat) : Int32 := L.foldl (fun z b => if n ≤ (B b).2.2.2 then z else z + nI (el b).length) 0
theorem wentF_snoc (B : Nat → BF) (el : Nat → List Nat) (n : Int32) (L : List Nat) (b : Nat) : wentF B el n (L ++ [b]) = if n ≤ (B b).2.2.2 then wentF B el n L else wentF B el n L + nI (el b).length := by
  unfold wentF
  rw [List.foldl_append]
  rfl
theorem sp_removeFirst {d : Nat → ClassId} {h : xw} {x ab pk ad : Nat} {rc no dc ls lf n : Int32} {LB : List Nat} {g : Nat → Option Nat} {B : Nat → BF} {el : Nat → List Nat} {Q : Int32 → xw → Prop} (hx : h x = some (o_L ab (nI LB.length) rc no pk ad dc)) (hp : h pk = some (o_P ls lf)) (hab : h ab = some (xaq (d 1) 400 g)) (hg : ∀ i b, LB[i]? = some b → g i = some b) (hle : LB.length ≤ 400) (hnd : LB.Nodup)
    (hB : ∀ b ∈ LB, h b = some (o_B (B b).1 (B b).2.1 (B b).2.2.1 (nI (el b).length) (B b).2.2.2))
    (hQ : ∀ h' g', h' ab = some (xaq (d 1) 400 g') → (∀ j b, (LB.filter (fun b => decide (n ≤ (B b).2.2.2)))[j]? = some b → g' j = some b) → h' x = some (o_L ab (nI (LB.filter (fun b => decide (n ≤ (B b).2.2.2))).length) (rc - wentF B el n LB) no pk ad dc) → h' pk = some (o_P (ls - n) lf) →
      (∀ b ∈ LB, n ≤ (B b).2.2.2 → h' b = some (o_B (B b).1 (B b).2.1 (B b).2.2.1 (nI (el b).length) ((B b).2.2.2 - n))) → (∀ a, a ∉ LB → a ≠ ab → a ≠ x → a ≠ pk → h' a = h a) → Q (wentF B el n LB) h') : wp_LogCleaner_removeFirstSegments d h x n Q := by
  have hne : x ≠ ab := ne_oe_arr hx hab
  have hnp : pk ≠ ab := ne_oe_arr hp hab
  have hxp : x ≠ pk := ne_obj hx hp L_ne_P
  have hkl : ∀ i, ((LB.take i).filter (fun b => decide (n ≤ (B b).2.2.2))).length ≤ i := fun i => Nat.le_trans (List.length_filter_le _ _) (by rw [List.length_take]; omega)
  unfold wp_LogCleaner_removeFirstSegments
  refine wLoop_ind (fun y h' => ∃ i g', i ≤ LB.length ∧ y = (x, n, wentF B el n (LB.take i), nI ((LB.take i).filter (fun b => decide (n ≤ (B b).2.2.2))).length, nI i) ∧ h' ab = some (xaq (d 1) 400 g') ∧ (∀ j b, ((LB.take i).filter (fun b => decide (n ≤ (B b).2.2.2)))[j]? = some b → g' j = some b) ∧ (∀ j, i ≤ j → g' j = g j) ∧
      (∀ b ∈ LB.take i, n ≤ (B b).2.2.2 → h' b = some (o_B (B b).1 (B b).2.1 (B b).2.2.1 (nI (el b).length) ((B b).2.2.2 - n))) ∧ (∀ b ∈ LB.drop i, h' b = h b) ∧ ∀ a, a ∉ LB → a ≠ ab → h' a = h a) (fun y _ => LB.length + 1 - y.2.2.2.2.toNatClampNeg) ?_ _ _ ⟨0, g, Nat.zero_le _, rfl, hab, fun j b hj => by simp at hj, fun _ _ => rfl, fun b hb => by simp at hb, fun _ _ => rfl, fun _ _ _ => rfl⟩
  rintro y h' k0 ⟨i, g', hi, rfl, ha', hk1, hk2, hk3, hk4, hk5⟩ hk
  have hxn : x ∉ LB := fun q => absurd rfl (ne_obj (hB x q) hx B_ne_L)
  have hpn : pk ∉ LB := fun q => absurd rfl (ne_obj (hB pk q) hp B_ne_P)
  have hx' : h' x = some (o_L ab (nI LB.length) rc no pk ad dc) := by rw [hk5 x hxn hne]; exact hx
  have hp' : h' pk = some (o_P ls lf) := by rw [hk5 pk hpn hnp]; exact hp
  show wc_LogCleaner_removeFirstSegments_7 d Q _ x n (wentF B el n (LB.take i)) (nI ((LB.take i).filter (fun b => decide (n ≤ (B b).2.2.2))).length) (nI i) h'
  refine g_L_1 hx' ?_
  refine ⟨fun c => ?_, fun c => ?_⟩
  · have h1 := (nI_leI (by omega) (by omega)).mp c
    have h2 : i = LB.length := by omega
    subst h2
    have hkl2 := hkl LB.length
    rw [List.take_length] at hk1 hk3 hkl2 ⊢
    refine is_L hx' ?_
    refine sp_keepFirst hx' ha' hkl2 hle (fun g2 hg2 => ?_)
    have e1 : ∀ a, a ≠ ab → a ≠ x → (xup (xup h' ab (xaq (d 1) 400 g2)) x (o_L ab (nI (LB.filter (fun b => decide (n ≤ (B b).2.2.2))).length) rc no pk ad dc)) a = h' a := fun a n1 n2 => by rw [xup_ne _ _ n2, xup_ne _ _ n1]
    refine g_L_4 (xup_self _ _ _) ?_
    refine ⟨_, rfl, ?_⟩
    refine g_P_0 (by rw [e1 pk hnp (Ne.symm hxp)]; exact hp') ?_
    refine p_P_0 (by rw [e1 pk hnp (Ne.symm hxp)]; exact hp') ?_
    refine g_L_2 (by rw [xup_ne _ _ hxp]; exact xup_self _ _ _) ?_
    refine p_L_2 (by rw [xup_ne _ _ hxp]; exact xup_self _ _ _) ?_
    have hbx : ∀ b ∈ LB, b ≠ x ∧ b ≠ pk ∧ b ≠ ab := fun b hb => ⟨fun q => hxn (q ▸ hb), fun q => hpn (q ▸ hb), ne_oe_arr (hB b hb) hab⟩
    refine hQ _ g2 ?_ (fun j b hj => ?_) (xup_self _ _ _) ?_ (fun b hb hkb => ?_) (fun a n1 n2 n3 n4 => ?_)
    · rw [xup_ne _ _ (Ne.symm hne), xup_ne _ _ (Ne.symm hnp), xup_ne _ _ (Ne.symm hne)]
      exact xup_self _ _ _
    · rw [hg2 j (List.getElem?_eq_some_iff.mp hj).1]
      exact hk1 j b hj
    · rw [xup_ne _ _ (Ne.symm hxp)]
      exact xup_self _ _ _
    · obtain ⟨n1, n2, n3⟩ := hbx b hb
      rw [xup_ne _ _ n1, xup_ne _ _ n2, e1 b n3 n1]
      exact hk3 b hb hkb
    · rw [xup_ne _ _ n3, xup_ne _ _ n4, e1 a n2 n3]
      exact hk5 a n1 n2
  · have hlt : i < LB.length := by
      rcases Nat.lt_or_ge i LB.length with h1 | h1
      · exact h1
      · exact absurd ((nI_leI (by omega) (by omega)).mpr h1) c
    have hLi : LB[i]? = some LB[i] := List.getElem?_eq_getElem hlt
    have hbm : LB[i] ∈ LB := List.getElem_mem hlt
    have hbd : LB[i] ∈ LB.drop i := by rw [List.drop_eq_getElem_cons hlt]; exact List.mem_cons_self
    have hb : h' LB[i] = some (o_B (B LB[i]).1 (B LB[i]).2.1 (B LB[i]).2.2.1 (nI (el LB[i]).length) (B LB[i]).2.2.2) := by rw [hk4 _ hbd]; exact hB _ hbm
    obtain ⟨hn1, hn2⟩ := nodup_at hnd hlt
    have hcut : LB.take (i + 1) = LB.take i ++ [LB[i]] := List.take_succ_eq_append_getElem hlt
    have hkli := hkl i
    have mu : LB.length + 1 - (nI i + 1).toNatClampNeg < LB.length + 1 - (nI i).toNatClampNeg := by
      rw [nI_1, nI_clamp (by omega), nI_clamp (by omega)]
      omega
    refine g_L_0 hx' ?_
    refine ⟨_, rfl, ?_⟩
    refine wldq_n ha' (by omega) (by omega) ?_
    rw [hk2 i (Nat.le_refl _), hg i LB[i] hLi]
    refine ⟨_, rfl, ?_⟩
    refine g_B_4 hb ?_
    refine ⟨fun c2 => ?_, fun c2 => ?_⟩
    · refine g_B_4 hb ?_
      refine p_B_4 hb ?_
      have hbn : ab ≠ LB[i] := Ne.symm (ne_oe_arr hb ha')
      have hbx : x ≠ LB[i] := fun q => hxn (q ▸ hbm)
      refine g_L_0 (by rw [xup_ne _ _ hbx]; exact hx') ?_
      refine ⟨_, rfl, ?_⟩
      refine wstq_n (by rw [xup_ne _ _ hbn]; exact ha') (by omega) (by omega) (fun z q => by cases q; exact ⟨_, xup_self _ _ _⟩) ?_
      refine hk _ _ ⟨i + 1, va_up g' ((LB.take i).filter (fun b => decide (n ≤ (B b).2.2.2))).length (some LB[i]), hlt, ?_, xup_self _ _ _, fun j b hj => ?_, fun j hj => ?_, fun b hb2 hkb => ?_, fun b hb2 => ?_, fun a n1 n2 => ?_⟩ mu
      · rw [hcut, List.filter_append, wentF_snoc, if_pos c2, ← nI_1 i]
        simp [c2, ← nI_1]
      · rw [hcut, List.filter_append] at hj
        simp only [List.filter_cons, List.filter_nil, c2, decide_true, if_true] at hj
        by_cases hjl : j < ((LB.take i).filter (fun b => decide (n ≤ (B b).2.2.2))).length
        · rw [List.getElem?_append_left hjl] at hj
          rw [va_up_ne _ _ (by omega)]
          exact hk1 j b hj
        · rw [List.getElem?_append_right (by omega)] at hj
          have hj0 : j - ((LB.take i).filter (fun b => decide (n ≤ (B b).2.2.2))).length = 0 := by
            have := (List.getElem?_eq_some_iff.mp hj).1
            simp at this
            omega
          rw [hj0] at hj
          simp at hj
          have : j = ((LB.take i).filter (fun b => decide (n ≤ (B b).2.2.2))).length := by omega
          rw [this, va_up_self, hj]
      · rw [va_up_ne _ _ (by omega)]
        exact hk2 j (by omega)
      · have hb3 : b ≠ ab := ne_oe_arr (hB b (List.mem_of_mem_take hb2)) hab
        rw [xup_ne _ _ hb3]
        rcases take_mem_succ hlt hb2 with h1 | h1
        · rw [xup_ne _ _ (fun q => hn1 (by rw [← q]; exact h1))]
          exact hk3 b h1 hkb
        · subst h1
          exact xup_self _ _ _
      · have hb3 : b ≠ ab := ne_oe_arr (hB b (List.mem_of_mem_drop hb2)) hab
        rw [xup_ne _ _ hb3, xup_ne _ _ (fun q => hn2 (by rw [← q]; exact hb2))]
        exact hk4 b (mem_drop_cons hlt hb2)
      · rw [xup_ne _ _ n2, xup_ne _ _ (fun q => n1 (by rw [q]; exact hbm))]
        exact hk5 a n1 n2
    · refine g_B_3 hb ?_
      refine hk _ _ ⟨i + 1, g', hlt, ?_, ha', ?_, fun j hj => hk2 j (by omega), fun b hb2 hkb => ?_, fun b hb2 => hk4 b (mem_drop_cons hlt hb2), hk5⟩ mu
      · rw [hcut, List.filter_append, wentF_snoc, if_neg c2, ← nI_1 i]
        simp [c2]
      · rw [hcut, List.filter_append]
        simpa [c2] using hk1
      · rcases take_mem_succ hlt hb2 with h1 | h1
        · exact hk3 b h1 hkb
        · subst h1
          exact absurd hkb c2
theorem E_ne_B {e : EV} {a b : Int32} {c : Nat} {e' f : Int32} : oE e ≠ o_B a b c e' f := by simp [oE, o_E, o_B]
theorem E_ne_L {e : EV} {a' c' d' : Nat} {e' f' g' h' : Int32} : oE e ≠ o_L a' e' f' g' c' d' h' := by simp [oE, o_E, o_L]
theorem E_ne_P {e : EV} {a b : Int32} : oE e ≠ o_P a b := by simp [oE, o_E, o_P]
theorem RB.congr {d : Nat → ClassId} {h h' : xw} {b : Nat} {base prod : Int32} {arr : Nat} {seg : Int32} {els : List Nat} (hr : RB d h b base prod arr seg els) (hb : h' b = h b) (ha : h' arr = h arr) : RB d h' b base prod arr seg els := by
  obtain ⟨h1, cap, g, h2, h3⟩ := hr
  exact ⟨hb.trans h1, cap, g, ha.trans h2, h3⟩
/-- what is left of a batch's records -/
def elG (B : Nat → BF) (el : Nat → List Nat) (E : Nat → EV) (ls t : Int32) (b : Nat) : List Nat := if (B b).2.2.2 < ls then (el b).filter (fun a => !ego t (E a)) else el b
def wentG (B : Nat → BF) (el : Nat → List Nat) (E : Nat → EV) (ls t : Int32) (L : List Nat) : Int32 := L.foldl (fun z b => if (B b).2.2.2 < ls then z + (nI (el b).length - nI (elG B el E ls t b).length) else z) 0
theorem wentG_snoc (B : Nat → BF) (el : Nat → List Nat) (E : Nat → EV) (ls t : Int32) (L : List Nat) (b : Nat) : wentG B el E ls t (L ++ [b]) = if (B b).2.2.2 < ls then wentG B el E ls t L + (nI (el b).length - nI (elG B el E ls t b).length) else wentG B el E ls t L := by
  unfold wentG
  rw [List.foldl_append]
  rfl
theorem sp_removeGoneRecords {d : Nat → ClassId} {h : xw} {x ab pk ad : Nat} {rc no dc ls lf t : Int32} {LB : List Nat} {g : Nat → Option Nat} {B : Nat → BF} {el : Nat → List Nat} {E : Nat → EV} {Q : Int32 → xw → Prop} (hx : h x = some (o_L ab (nI LB.length) rc no pk ad dc)) (hp : h pk = some (o_P ls lf)) (hab : h ab = some (xaq (d 1) 400 g)) (hg : ∀ i b, LB[i]? = some b → g i = some b) (hle : LB.length ≤ 400) (hnd : LB.Nodup)
    (hda : ∀ b ∈ LB, ∀ c ∈ LB, b ≠ c → (B b).2.2.1 ≠ (B c).2.2.1) (hna : ∀ b ∈ LB, (B b).2.2.1 ≠ ab)
    (hRB : ∀ b ∈ LB, RB d h b (B b).1 (B b).2.1 (B b).2.2.1 (B b).2.2.2 (el b)) (hE : ∀ e ∈ LB.flatMap el, h e = some (oE (E e)))
    (hQ : ∀ h', h' x = some (o_L ab (nI LB.length) (rc - wentG B el E ls t LB) no pk ad dc) → (∀ b ∈ LB, RB d h' b (B b).1 (B b).2.1 (B b).2.2.1 (B b).2.2.2 (elG B el E ls t b)) → (∀ a, a ∉ LB → a ∉ LB.map (fun b => (B b).2.2.1) → a ≠ x → h' a = h a) → Q (wentG B el E ls t LB) h') : wp_LogCleaner_removeGoneRecords d h x t Q := by
  have hxn : x ∉ LB := fun q => absurd rfl (ne_obj (hRB x q).1 hx B_ne_L)
  have hpn : pk ∉ LB := fun q => absurd rfl (ne_obj (hRB pk q).1 hp B_ne_P)
  have obj_na : ∀ a o, h a = some (.inr o) → a ∉ LB.map (fun b => (B b).2.2.1) := fun a o ha q => by
    obtain ⟨b, hb, rfl⟩ := List.mem_map.mp q
    obtain ⟨-, cap, g2, h2, -⟩ := hRB b hb
    exact absurd rfl (ne_oe_arr ha h2)
  have habn : ab ∉ LB := fun q => absurd rfl (ne_oe_arr (hRB ab q).1 hab)
  have haba : ab ∉ LB.map (fun b => (B b).2.2.1) := fun q => by
    obtain ⟨b, hb, e⟩ := List.mem_map.mp q
    exact hna b hb e
  unfold wp_LogCleaner_removeGoneRecords
  refine wLoop_ind (fun y h' => ∃ i, i ≤ LB.length ∧ y = (x, t, wentG B el E ls t (LB.take i), nI i) ∧ (∀ b ∈ LB.take i, RB d h' b (B b).1 (B b).2.1 (B b).2.2.1 (B b).2.2.2 (elG B el E ls t b)) ∧ (∀ b ∈ LB.drop i, h' b = h b ∧ h' (B b).2.2.1 = h (B b).2.2.1) ∧ ∀ a, a ∉ LB → a ∉ LB.map (fun b => (B b).2.2.1) → h' a = h a) (fun y _ => LB.length + 1 - y.2.2.2.toNatClampNeg) ?_ _ _ ⟨0, Nat.zero_le _, rfl, fun b hb => by simp at hb, fun _ _ => ⟨rfl, rfl⟩, fun _ _ _ => rfl⟩
  rintro y h' k0 ⟨i, hi, rfl, hk1, hk2, hk3⟩ hk
  have hx' : h' x = some (o_L ab (nI LB.length) rc no pk ad dc) := by rw [hk3 x hxn (obj_na x _ hx)]; exact hx
  have hp' : h' pk = some (o_P ls lf) := by rw [hk3 pk hpn (obj_na pk _ hp)]; exact hp
  have ha' : h' ab = some (xaq (d 1) 400 g) := by rw [hk3 ab habn haba]; exact hab
  show wc_LogCleaner_removeGoneRecords_4 d Q _ x t (wentG B el E ls t (LB.take i)) (nI i) h'
  refine g_L_1 hx' ?_
  refine ⟨fun c => ?_, fun c => ?_⟩
  · have h1 := (nI_leI (by omega) (by omega)).mp c
    have h2 : i = LB.length := by omega
    subst h2
    rw [List.take_length] at hk1 ⊢
    refine g_L_2 hx' ?_
    refine p_L_2 hx' ?_
    refine hQ _ (xup_self _ _ _) (fun b hb => ?_) (fun a n1 n2 n3 => ?_)
    · refine (hk1 b hb).congr (xup_ne _ _ (fun q => hxn (q ▸ hb))) (xup_ne _ _ (fun q => ?_))
      obtain ⟨-, cap, g2, h2, -⟩ := hk1 b hb
      rw [q] at h2
      exact absurd rfl (ne_oe_arr hx' h2)
    · rw [xup_ne _ _ n3]
      exact hk3 a n1 n2
  · have hlt : i < LB.length := by
      rcases Nat.lt_or_ge i LB.length with h1 | h1
      · exact h1
      · exact absurd ((nI_leI (by omega) (by omega)).mpr h1) c
    have hLi : LB[i]? = some LB[i] := List.getElem?_eq_getElem hlt
    have hbm : LB[i] ∈ LB := List.getElem_mem hlt
    have hbd : LB[i] ∈ LB.drop i := by rw [List.drop_eq_getElem_cons hlt]; exact List.mem_cons_self
    have hb := (hRB _ hbm).congr (hk2 _ hbd).1 (hk2 _ hbd).2
    obtain ⟨hn1, hn2⟩ := nodup_at hnd hlt
    have hcut : LB.take (i + 1) = LB.take i ++ [LB[i]] := List.take_succ_eq_append_getElem hlt
    have mu : LB.length + 1 - (nI i + 1).toNatClampNeg < LB.length + 1 - (nI i).toNatClampNeg := by
      rw [nI_1, nI_clamp (by omega), nI_clamp (by omega)]
      omega
    refine g_L_0 hx' ?_
    refine ⟨_, rfl, ?_⟩
    refine wldq_n ha' (by omega) (by omega) ?_
    rw [hg i LB[i] hLi]
    refine is_L hx' ?_
    refine sp_isClosed hx' hp' hb.1 (fun hcl => ?_) (fun hcl => ?_)
    · refine ⟨fun q => absurd q (by decide), fun _ => ?_⟩
      refine g_L_0 hx' ?_
      refine ⟨_, rfl, ?_⟩
      refine wldq_n ha' (by omega) (by omega) ?_
      rw [hg i LB[i] hLi]
      refine ⟨_, rfl, ?_⟩
      refine is_B hb.1 ?_
      obtain ⟨hb1, cap, g2, harr, hc1, hc2, hc3⟩ := hb
      have hge : elG B el E ls t LB[i] = (el LB[i]).filter (fun a => !ego t (E a)) := if_pos hcl
      refine sp_BremoveGone (E := E) hb1 harr hc1 hc2 hc3 (fun a ha => ?_) (fun g3 hg3 => ?_)
      · have h1 := hE a (mem_flat hbm ha)
        rw [hk3 a (fun q => absurd rfl (ne_obj (hRB a q).1 h1 (Ne.symm E_ne_B))) (obj_na a _ h1)]
        exact h1
      · have hba : LB[i] ≠ (B LB[i]).2.2.1 := ne_oe_arr hb1 harr
        refine hk _ _ ⟨i + 1, hlt, ?_, fun b hb2 => ?_, fun b hb2 => ?_, fun a n1 n2 => ?_⟩ mu
        · rw [hcut, wentG_snoc, if_pos hcl, hge, ← nI_1 i]
        · rcases take_mem_succ hlt hb2 with h1 | h1
          · have hbm2 : b ∈ LB := List.mem_of_mem_take h1
            have hne : b ≠ LB[i] := fun q => hn1 (by rw [← q]; exact h1)
            obtain ⟨q1, cap4, g4, q2, -⟩ := hk1 b h1
            refine (hk1 b h1).congr ?_ ?_
            · rw [xup_ne _ _ hne, xup_ne _ _ (ne_oe_arr q1 harr)]
            · rw [xup_ne _ _ (Ne.symm (ne_oe_arr hb1 q2)), xup_ne _ _ (hda b hbm2 _ hbm hne)]
          · subst h1
            refine ⟨?_, cap, g3, ?_, ?_, hc2, ?_⟩
            · rw [hge]
              exact xup_self _ _ _
            · rw [xup_ne _ _ (Ne.symm hba)]
              exact xup_self _ _ _
            · rw [hge]
              exact Nat.le_trans (List.length_filter_le _ _) hc1
            · rw [hge]
              exact hg3
        · have hbm2 : b ∈ LB := List.mem_of_mem_drop hb2
          have hne : b ≠ LB[i] := fun q => hn2 (by rw [← q]; exact hb2)
          obtain ⟨q1, cap4, g4, q2, -⟩ := hRB b hbm2
          obtain ⟨r1, r2⟩ := hk2 b (mem_drop_cons hlt hb2)
          refine ⟨?_, ?_⟩
          · rw [xup_ne _ _ hne, xup_ne _ _ (ne_oe_arr (r1.trans q1) harr)]
            exact r1
          · rw [xup_ne _ _ (Ne.symm (ne_oe_arr hb1 (r2.trans q2))), xup_ne _ _ (hda b hbm2 _ hbm hne)]
            exact r2
        · rw [xup_ne _ _ (fun q => n1 (by rw [q]; exact hbm)), xup_ne _ _ (fun q => n2 (by rw [q]; exact List.mem_map.mpr ⟨_, hbm, rfl⟩))]
          exact hk3 a n1 n2
    · refine ⟨fun _ => ?_, fun q => absurd rfl q⟩
      have hge : elG B el E ls t LB[i] = el LB[i] := if_neg hcl
      refine hk _ _ ⟨i + 1, hlt, ?_, fun b hb2 => ?_, fun b hb2 => hk2 b (mem_drop_cons hlt hb2), hk3⟩ mu
      · rw [hcut, wentG_snoc, if_neg hcl, ← nI_1 i]
      · rcases take_mem_succ hlt hb2 with h1 | h1
        · exact hk1 b h1
        · subst h1
          rw [hge]
          exact hb
end
section
/-! packing -/
def va_up2 (f : Nat → Int32) (k : Nat) (v : Int32) : Nat → Int32 := fun j => if j = k then v else f j
theorem va_up2_self (f : Nat → Int32) (k : Nat) (v : Int32) : va_up2 f k v k = v := if_pos rfl
theorem va_up2_ne (f : Nat → Int32) {k j : Nat} {v : Int32} (h : j ≠ k) : va_up2 f k v j = f j := if_neg h
def plc (s : Int32 × Int32) (sz : Int32) : Int32 × Int32 := if s.1 = -1 ∨ ¬ s.2 + sz ≤ 1000 then (s.1 + 1, 0 + sz) else (s.1, s.2 + sz)
theorem sp_place2 {d : Nat → ClassId} {h : xw} {a : Nat} {s : Int32 × Int32} {sz : Int32} {Q : Int32 → xw → Prop} (hp : h a = some (o_P s.1 s.2)) (hQ : Q (plc s sz).1 (xup h a (o_P (plc s sz).1 (plc s sz).2))) : wp_Packing_place d h a sz Q := by
  refine sp_place hp (fun c => ?_) (fun c => ?_)
  · rw [plc, if_pos c] at hQ
    rw [xup_xup, xup_xup]
    exact hQ
  · rw [plc, if_neg c] at hQ
    exact hQ
theorem sp_Pinit {d : Nat → ClassId} {h : xw} {a : Nat} {Q : xw → Prop} (hp : h a = some (.inr (3, z_Packing))) (hQ : Q (xup h a (o_P (-1) 0))) : wp_Packing_init d h a Q := by
  unfold wp_Packing_init
  refine ⟨_, hp, Nat.le_of_ble_eq_true rfl, ?_⟩
  refine ⟨_, xup_self _ _ _, Nat.le_of_ble_eq_true rfl, ?_⟩
  rw [xup_xup]
  exact hQ
/-- the segments that batches of these sizes come into -/
def segsOf : Int32 × Int32 → List Int32 → List Int32
  | _, [] => []
  | s, z :: r => (plc s z).1 :: segsOf (plc s z) r
theorem segsOf_snoc (s : Int32 × Int32) (l : List Int32) (z : Int32) : segsOf s (l ++ [z]) = segsOf s l ++ [(plc (l.foldl plc s) z).1] := by
  induction l generalizing s with
  | nil => rfl
  | cons y r ih => simp [segsOf, ih]
theorem takeWhile_get {p : Nat → Bool} {L : List Nat} {i : Nat} (hi : i < (L.takeWhile p).length) : ∃ h : i < L.length, p L[i] = true := by
  have h1 : i < L.length := Nat.lt_of_lt_of_le hi (List.takeWhile_prefix p).length_le
  refine ⟨h1, ?_⟩
  have h2 : (L.takeWhile p)[i] = L[i] := (List.takeWhile_prefix p).getElem hi
  have h3 : (L.takeWhile p)[i] ∈ L.takeWhile p := List.getElem_mem hi
  rw [← h2]
  exact List.all_eq_true.mp List.all_takeWhile _ h3
theorem takeWhile_stop {p : Nat → Bool} {L : List Nat} (hi : (L.takeWhile p).length < L.length) : p L[(L.takeWhile p).length] = false := by
  induction L with
  | nil => simp at hi
  | cons a r ih =>
    cases hp : p a with
    | false => simp [List.takeWhile_cons, hp]
    | true =>
      simp only [List.takeWhile_cons, hp, if_true, List.length_cons] at hi ⊢
      simp only [List.getElem_cons_succ]
      exact ih (by omega)
theorem sp_pack {d : Nat → ClassId} {h : xw} {x ab pk ad : Nat} {rc no dc ls lf : Int32} {LB : List Nat} {g : Nat → Option Nat} {B : Nat → BF} {el : Nat → List Nat} {E : Nat → EV} {Q : xw → Prop} (hx : h x = some (o_L ab (nI LB.length) rc no pk ad dc)) (hp : h pk = some (o_P ls lf)) (hab : h ab = some (xaq (d 1) 400 g)) (hg : ∀ i b, LB[i]? = some b → g i = some b) (hle : LB.length ≤ 400) (hnd : LB.Nodup)
    (hRB : ∀ b ∈ LB, RB d h b (B b).1 (B b).2.1 (B b).2.2.1 (B b).2.2.2 (el b)) (hE : ∀ e ∈ LB.flatMap el, h e = some (oE (E e))) {m : Nat} (hm : m = (LB.takeWhile (fun b => decide ((B b).2.2.2 < ls))).length) {op : Int32} (hop : op = (((LB.take m).map (fun b => bsz E (el b))).foldl plc (-1, 0)).1 + 1)
    (hQ : ∀ h' q (sg : Nat → Int32), h q = none → (∀ b ∈ LB, h' b = some (o_B (B b).1 (B b).2.1 (B b).2.2.1 (nI (el b).length) (sg b))) → (LB.take m).map sg = segsOf (-1, 0) ((LB.take m).map (fun b => bsz E (el b))) → (∀ b ∈ LB.drop m, sg b = op) → h' pk = some (o_P op lf) → (∀ a, a ∉ LB → a ≠ pk → a ≠ q → h' a = h a) → Q h') : wp_LogCleaner_packClosedSegments d h x Q := by
  have hml : m ≤ LB.length := by rw [hm]; exact (List.takeWhile_prefix _).length_le
  have hxp : x ≠ pk := ne_obj hx hp L_ne_P
  have hxn : x ∉ LB := fun q => absurd rfl (ne_obj (hRB x q).1 hx B_ne_L)
  have hpn : pk ∉ LB := fun q => absurd rfl (ne_obj (hRB pk q).1 hp B_ne_P)
  have habn : ab ∉ LB := fun q => absurd rfl (ne_oe_arr (hRB ab q).1 hab)
  unfold wp_LogCleaner_packClosedSegments
  intro q hq
  have old : ∀ a o, h a = some o → a ≠ q := fun a o ha e => by subst e; rw [hq] at ha; cases ha
  refine sp_Pinit (xup_self _ _ _) ?_
  rw [xup_xup]
  refine wLoop_ind (fun y h' => ∃ i, ∃ sg : Nat → Int32, i ≤ m ∧ y = (x, q, nI i) ∧ h' q = some (o_P (((LB.take i).map (fun b => bsz E (el b))).foldl plc (-1, 0)).1 (((LB.take i).map (fun b => bsz E (el b))).foldl plc (-1, 0)).2) ∧ (LB.take i).map sg = segsOf (-1, 0) ((LB.take i).map (fun b => bsz E (el b))) ∧ (∀ b ∈ LB.take i, h' b = some (o_B (B b).1 (B b).2.1 (B b).2.2.1 (nI (el b).length) (sg b))) ∧ (∀ b ∈ LB.drop i, h' b = h b) ∧ ∀ a, a ∉ LB → a ≠ q → h' a = h a) (fun y _ => LB.length + 1 - y.2.2.toNatClampNeg) ?_ _ _ ⟨0, fun _ => 0, Nat.zero_le _, rfl, xup_self _ _ _, rfl, fun b hb => by simp at hb, fun b hb => xup_ne _ _ (old b _ (hRB b (List.mem_of_mem_drop hb)).1), fun a n1 n2 => xup_ne _ _ n2⟩
  rintro y h' k0 ⟨i, sg, hi, rfl, hq', hsg, hk1, hk2, hk3⟩ hk
  have hx' : h' x = some (o_L ab (nI LB.length) rc no pk ad dc) := by rw [hk3 x hxn (old x _ hx)]; exact hx
  have hp' : h' pk = some (o_P ls lf) := by rw [hk3 pk hpn (old pk _ hp)]; exact hp
  have ha' : h' ab = some (xaq (d 1) 400 g) := by rw [hk3 ab habn (old ab _ hab)]; exact hab
  -- the rest comes into the open one
  have rest : i = m → wb_LogCleaner_packClosedSegments_59 d Q x q (nI i) h' := fun him => by
    subst him
    refine g_P_0 hq' ?_
    rw [← hop]
    refine wLoop_ind (fun y h2 => ∃ j, ∃ sg2 : Nat → Int32, i ≤ j ∧ j ≤ LB.length ∧ y = (x, nI j, op) ∧ (∀ b ∈ LB.take i, sg2 b = sg b) ∧ (∀ b ∈ (LB.drop i).take (j - i), sg2 b = op) ∧ (∀ b ∈ LB.take j, h2 b = some (o_B (B b).1 (B b).2.1 (B b).2.2.1 (nI (el b).length) (sg2 b))) ∧ (∀ b ∈ LB.drop j, h2 b = h b) ∧ ∀ a, a ∉ LB → a ≠ q → h2 a = h a) (fun y _ => LB.length + 1 - y.2.1.toNatClampNeg) ?_ _ _ ⟨i, sg, Nat.le_refl _, hml, rfl, fun _ _ => rfl, fun b hb => by simp at hb, hk1, hk2, hk3⟩
    rintro y h2 k1 ⟨j, sg2, hj1, hj2, rfl, hs1, hs2, ht1, ht2, ht3⟩ hk4
    have hx2 : h2 x = some (o_L ab (nI LB.length) rc no pk ad dc) := by rw [ht3 x hxn (old x _ hx)]; exact hx
    have hp2 : h2 pk = some (o_P ls lf) := by rw [ht3 pk hpn (old pk _ hp)]; exact hp
    have ha2 : h2 ab = some (xaq (d 1) 400 g) := by rw [ht3 ab habn (old ab _ hab)]; exact hab
    show wc_LogCleaner_packClosedSegments_66 d Q _ x (nI j) op h2
    refine g_L_1 hx2 ?_
    refine ⟨fun c => ?_, fun c => ?_⟩
    · have h1 := (nI_leI (by omega) (by omega)).mp c
      have h3 : j = LB.length := by omega
      subst h3
      refine g_L_4 hx2 ?_
      refine ⟨_, rfl, ?_⟩
      refine p_P_0 hp2 ?_
      rw [List.take_length] at ht1
      refine hQ _ q sg2 hq (fun b hb => ?_) ?_ (fun b hb => hs2 b ?_) (xup_self _ _ _) (fun a n1 n2 n3 => ?_)
      · rw [xup_ne _ _ (fun e => hpn (by rw [← e]; exact hb))]
        exact ht1 b hb
      · rw [← hsg]
        exact List.map_congr_left hs1
      · rw [List.take_of_length_le (by rw [List.length_drop]; omega)]
        exact hb
      · rw [xup_ne _ _ n2]
        exact ht3 a n1 n3
    · have hlt : j < LB.length := by
        rcases Nat.lt_or_ge j LB.length with h1 | h1
        · exact h1
        · exact absurd ((nI_leI (by omega) (by omega)).mpr h1) c
      have hLj : LB[j]? = some LB[j] := List.getElem?_eq_getElem hlt
      have hbm : LB[j] ∈ LB := List.getElem_mem hlt
      have hbd : LB[j] ∈ LB.drop j := by rw [List.drop_eq_getElem_cons hlt]; exact List.mem_cons_self
      obtain ⟨hn1, hn2⟩ := nodup_at hnd hlt
      refine g_L_0 hx2 ?_
      refine ⟨_, rfl, ?_⟩
      refine wldq_n ha2 (by omega) (by omega) ?_
      rw [hg j LB[j] hLj]
      refine ⟨_, rfl, ?_⟩
      refine p_B_4 ((ht2 _ hbd).trans (hRB _ hbm).1) ?_
      have hne : ∀ b ∈ LB.take j, b ≠ LB[j] := fun b hb e => hn1 (by rw [← e]; exact hb)
      refine hk4 _ _ ⟨j + 1, va_up2 sg2 LB[j] op, by omega, hlt, by rw [← nI_1 j], fun b hb => ?_, fun b hb => ?_, fun b hb => ?_, fun b hb => ?_, fun a n1 n2 => ?_⟩ ?_
      · rw [va_up2_ne _ (hne b (List.take_subset_take_left _ hj1 hb))]
        exact hs1 b hb
      · have hcut : (LB.drop i).take (j + 1 - i) = (LB.drop i).take (j - i) ++ [LB[j]] := by
          rw [show j + 1 - i = (j - i) + 1 by omega, List.take_succ_eq_append_getElem (by rw [List.length_drop]; omega)]
          congr 2
          rw [List.getElem_drop]
          congr 1
          omega
        rw [hcut] at hb
        by_cases e : b = LB[j]
        · rw [e, va_up2_self]
        · rw [va_up2_ne _ e]
          rcases List.mem_append.mp hb with h1 | h1
          · exact hs2 b h1
          · exact absurd (List.mem_singleton.mp h1) e
      · rcases take_mem_succ hlt hb with h1 | h1
        · rw [xup_ne _ _ (hne b h1), va_up2_ne _ (hne b h1)]
          exact ht1 b h1
        · subst h1
          rw [va_up2_self]
          exact xup_self _ _ _
      · rw [xup_ne _ _ (fun e => hn2 (by rw [← e]; exact hb))]
        exact ht2 b (mem_drop_cons hlt hb)
      · rw [xup_ne _ _ (fun e => n1 (by rw [e]; exact hbm))]
        exact ht3 a n1 n2
      · show LB.length + 1 - (nI j + 1).toNatClampNeg < LB.length + 1 - (nI j).toNatClampNeg
        rw [nI_1, nI_clamp (by omega), nI_clamp (by omega)]
        omega
  show wc_LogCleaner_packClosedSegments_10 d Q _ x q (nI i) h'
  refine g_L_1 hx' ?_
  refine ⟨fun c => ?_, fun c => ?_⟩
  · have h1 := (nI_leI (by omega) (by omega)).mp c
    exact rest (by omega)
  · have hlt : i < LB.length := by
      rcases Nat.lt_or_ge i LB.length with h1 | h1
      · exact h1
      · exact absurd ((nI_leI (by omega) (by omega)).mpr h1) c
    have hLi : LB[i]? = some LB[i] := List.getElem?_eq_getElem hlt
    have hbm : LB[i] ∈ LB := List.getElem_mem hlt
    have hbd : LB[i] ∈ LB.drop i := by rw [List.drop_eq_getElem_cons hlt]; exact List.mem_cons_self
    have hb := (hk2 _ hbd).trans (hRB _ hbm).1
    obtain ⟨hn1, hn2⟩ := nodup_at hnd hlt
    refine g_L_0 hx' ?_
    refine ⟨_, rfl, ?_⟩
    refine wldq_n ha' (by omega) (by omega) ?_
    rw [hg i LB[i] hLi]
    refine is_L hx' ?_
    refine sp_isClosed hx' hp' hb (fun hcl => ?_) (fun hcl => ?_)
    · refine ⟨fun e => absurd e (by decide), fun _ => ?_⟩
      have him : i < m := by
        rcases Nat.lt_or_ge i m with h1 | h1
        · exact h1
        · have h2 : i = m := by omega
          rw [hm] at h2
          have h3 := takeWhile_stop (p := fun b => decide ((B b).2.2.2 < ls)) (L := LB) (by omega)
          simp only [← h2] at h3
          simp [hcl] at h3
      refine g_L_0 hx' ?_
      refine ⟨_, rfl, ?_⟩
      refine wldq_n ha' (by omega) (by omega) ?_
      rw [hg i LB[i] hLi]
      refine g_L_0 hx' ?_
      refine ⟨_, rfl, ?_⟩
      refine wldq_n ha' (by omega) (by omega) ?_
      rw [hg i LB[i] hLi]
      refine ⟨_, rfl, ?_⟩
      refine is_B hb ?_
      have hbr : RB d h' LB[i] (B LB[i]).1 (B LB[i]).2.1 (B LB[i]).2.2.1 (B LB[i]).2.2.2 (el LB[i]) := by
        obtain ⟨r1, cap, g2, r2, r3⟩ := hRB _ hbm
        refine ⟨hb, cap, g2, ?_, r3⟩
        rw [hk3 _ (fun e => absurd rfl (ne_oe_arr (hRB _ e).1 r2)) (old _ _ r2)]
        exact r2
      refine sp_Bsize (E := E) hbr (fun a ha => ?_) ?_
      · have h1 := hE a (mem_flat hbm ha)
        rw [hk3 a (fun e => absurd rfl (ne_obj (hRB a e).1 h1 (Ne.symm E_ne_B))) (old a _ h1)]
        exact h1
      · refine is_P hq' ?_
        refine sp_place2 hq' ?_
        have hqb : LB[i] ≠ q := old _ _ (hRB _ hbm).1
        refine ⟨_, rfl, ?_⟩
        refine p_B_4 (by rw [xup_ne _ _ hqb]; exact hb) ?_
        have hcut : LB.take (i + 1) = LB.take i ++ [LB[i]] := List.take_succ_eq_append_getElem hlt
        have hne : ∀ b ∈ LB.take i, b ≠ LB[i] := fun b hb e => hn1 (by rw [← e]; exact hb)
        refine hk _ _ ⟨i + 1, va_up2 sg LB[i] (plc (((LB.take i).map (fun b => bsz E (el b))).foldl plc (-1, 0)) (bsz E (el LB[i]))).1, him, by rw [← nI_1 i], ?_, ?_, fun b hb => ?_, fun b hb => ?_, fun a n1 n2 => ?_⟩ ?_
        · rw [xup_ne _ _ (Ne.symm hqb), hcut, List.map_append, List.foldl_append]
          exact xup_self _ _ _
        · rw [hcut, List.map_append, List.map_append]
          simp only [List.map_cons, List.map_nil]
          rw [segsOf_snoc, va_up2_self, ← hsg]
          congr 1
          exact List.map_congr_left (fun b hb => va_up2_ne _ (hne b hb))
        · rcases take_mem_succ hlt hb with h1 | h1
          · rw [xup_ne _ _ (hne b h1), va_up2_ne _ (hne b h1), xup_ne _ _ (old b _ (hRB b (List.mem_of_mem_take h1)).1)]
            exact hk1 b h1
          · subst h1
            rw [va_up2_self]
            exact xup_self _ _ _
        · rw [xup_ne _ _ (fun e => hn2 (by rw [← e]; exact hb)), xup_ne _ _ (old b _ (hRB b (List.mem_of_mem_drop hb)).1)]
          exact hk2 b (mem_drop_cons hlt hb)
        · rw [xup_ne _ _ (fun e => n1 (by rw [e]; exact hbm)), xup_ne _ _ n2]
          exact hk3 a n1 n2
        · show LB.length + 1 - (nI i + 1).toNatClampNeg < LB.length + 1 - (nI i).toNatClampNeg
          rw [nI_1, nI_clamp (by omega), nI_clamp (by omega)]
          omega
    · refine ⟨fun _ => ?_, fun e => absurd rfl e⟩
      refine rest ?_
      rcases Nat.lt_or_ge i m with h1 | h1
      · rw [hm] at h1
        obtain ⟨h2, h3⟩ := takeWhile_get h1
        simp at h3
        exact absurd h3 hcl
      · omega
end
section
/-! the draft becomes a batch -/
def upE (E : Nat → EV) (a : Nat) (e : EV) : Nat → EV := fun j => if j = a then e else E j
theorem upE_self (E : Nat → EV) (a : Nat) (e : EV) : upE E a e a = e := if_pos rfl
theorem upE_ne (E : Nat → EV) {a j : Nat} {e : EV} (h : j ≠ a) : upE E a e j = E j := if_neg h
def setSup (e : EV) : EV := (e.1, e.2.1, e.2.2.1, e.2.2.2.1, e.2.2.2.2.1, e.2.2.2.2.2.1, 1)
def setOff (e : EV) (no : Int32) : EV := (e.1, e.2.1, e.2.2.1, e.2.2.2.1, e.2.2.2.2.1, no, e.2.2.2.2.2.2)
/-- the latest record of the log with e's key is marked -/
def mark (E : Nat → EV) (log : List Nat) (e : Nat) : Nat → EV := if (E e).2.1 = -1 then E else match lastK E (E e).1 (E e).2.1 log with
  | none => E
  | some a => upE E a (setSup (E a))
theorem lastK_mem {E : Nat → EV} {k : Int64} {b : Int32} {l : List Nat} {a : Nat} (h : lastK E k b l = some a) : a ∈ l := List.mem_reverse.mp (List.mem_of_find?_eq_some h)
/-- entries at these addresses, and a change of one of them -/
theorem ent_up {h : xw} {L : List Nat} {E : Nat → EV} {a : Nat} {e : EV} (hE : ∀ z ∈ L, h z = some (oE (E z))) : ∀ z ∈ L, (xup h a (oE e)) z = some (oE (upE E a e z)) := fun z hz => by
  by_cases q : z = a
  · subst q
    rw [xup_self, upE_self]
  · rw [xup_ne _ _ q, upE_ne _ q]
    exact hE z hz
theorem sp_mark {d : Nat → ClassId} {h : xw} {x ab pk ad e : Nat} {rc no dc : Int32} {LB : List Nat} {g : Nat → Option Nat} {B : Nat → BF} {el : Nat → List Nat} {E : Nat → EV} {Q : xw → Prop} (hx : h x = some (o_L ab (nI LB.length) rc no pk ad dc)) (hab : h ab = some (xaq (d 1) 400 g)) (hg : ∀ i b, LB[i]? = some b → g i = some b) (hle : LB.length ≤ 400)
    (hRB : ∀ b ∈ LB, RB d h b (B b).1 (B b).2.1 (B b).2.2.1 (B b).2.2.2 (el b)) (hE : ∀ z ∈ LB.flatMap el, h z = some (oE (E z))) (he : h e = some (oE (E e)))
    (hQ0 : mark E (LB.flatMap el) e = E → Q h) (hQ1 : ∀ a ∈ LB.flatMap el, mark E (LB.flatMap el) e = upE E a (setSup (E a)) → Q (xup h a (oE (setSup (E a))))) : wp_LogCleaner_markSuperseded d h x (some e) Q := by
  unfold wp_LogCleaner_markSuperseded
  refine ⟨_, rfl, ?_⟩
  refine is_E he ?_
  refine sp_hasKey he ?_
  refine ⟨fun c => ?_, fun c => ?_⟩
  · have hk : (E e).2.1 = -1 := by
      by_cases hk : (E e).2.1 = -1
      · exact hk
      · rw [if_neg hk] at c
        exact absurd c (by decide)
    exact hQ0 (if_pos hk)
  · have hk : ¬ (E e).2.1 = -1 := fun hk => c (if_pos hk)
    refine g_E_0 he ?_
    refine g_E_1 he ?_
    refine is_L hx ?_
    refine sp_Llatest hx hab hg hle hRB hE ?_
    refine ⟨fun hn => ?_, fun a ha => ?_⟩
    · exact hQ0 (by rw [mark, if_neg hk, hn])
    · refine p_E_6 (hE a (lastK_mem ha)) (Or.inr rfl) ?_
      exact hQ1 a (lastK_mem ha) (by rw [mark, if_neg hk, ha])
theorem sp_append {d : Nat → ClassId} {h : xw} {b e arr n cap : Nat} {base prod seg : Int32} {g : Nat → Option Nat} {ev : EV} {Q : xw → Prop} (hb : h b = some (o_B base prod arr (nI n) seg)) (harr : h arr = some (xaq (d 0) cap g)) (he : h e = some (oE ev)) (hn : n < cap) (hcap : cap ≤ 100)
    (hQ : Q (xup (xup h arr (xaq (d 0) cap (va_up g n (some e)))) b (o_B base prod arr (nI (n + 1)) seg))) : wp_Batch_append d h b (some e) Q := by
  have hne : b ≠ arr := ne_oe_arr hb harr
  unfold wp_Batch_append
  refine g_B_3 hb ?_
  refine g_B_2 hb ?_
  refine ⟨_, rfl, ?_⟩
  refine ⟨_, harr, ?_⟩
  refine ⟨fun c => ?_, fun _ => ?_⟩
  · exact absurd ((nI_leI (a := cap) (b := n) (by omega) (by omega)).mp c) (by omega)
  · refine g_B_2 hb ?_
    refine g_B_3 hb ?_
    refine ⟨_, rfl, ?_⟩
    refine wstq_n harr hn (by omega) (fun z q => by cases q; exact ⟨_, he⟩) ?_
    refine g_B_3 (by rw [xup_ne _ _ hne]; exact hb) ?_
    refine p_B_3 (by rw [xup_ne _ _ hne]; exact hb) ?_
    rw [nI_1]
    exact hQ
/-- the records as they are when the draft's have come behind the log -/
def mvE (log : List Nat) (no : Int32) (E : Nat → EV) : List Nat → (Nat → EV)
  | [] => E
  | e :: r => mvE (log ++ [e]) (no + 1) (upE (mark E log e) e (setOff (mark E log e e) no)) r
theorem mvE_snoc (log : List Nat) (no : Nat) (E : Nat → EV) (l : List Nat) (e : Nat) : mvE log (nI no) E (l ++ [e]) = upE (mark (mvE log (nI no) E l) (log ++ l) e) e (setOff (mark (mvE log (nI no) E l) (log ++ l) e e) (nI (no + l.length))) := by
  induction l generalizing log no E with
  | nil => simp [mvE]
  | cons a r ih =>
    show mvE (log ++ [a]) (nI no + 1) _ (r ++ [e]) = _
    rw [nI_1, ih]
    simp only [mvE, nI_1, List.length_cons, List.append_assoc, List.singleton_append]
    rw [show no + 1 + r.length = no + (r.length + 1) by omega]
theorem sp_moveDraft {d : Nat → ClassId} {h : xw} {x ab pk ad b arr no : Nat} {rc base prod seg : Int32} {LB0 dl : List Nat} {g gd ga : Nat → Option Nat} {B : Nat → BF} {el : Nat → List Nat} {E : Nat → EV} {Q : xw → Prop}
    (hx : h x = some (o_L ab (nI (LB0.length + 1)) rc (nI no) pk ad (nI dl.length))) (hab : h ab = some (xaq (d 1) 400 g)) (hg : ∀ i c, (LB0 ++ [b])[i]? = some c → g i = some c) (hle : LB0.length + 1 ≤ 400)
    (had : h ad = some (xaq (d 0) 100 gd)) (hgd : ∀ i e, dl[i]? = some e → gd i = some e) (hdl : dl.length ≤ 100)
    (hRB : ∀ c ∈ LB0, RB d h c (B c).1 (B c).2.1 (B c).2.2.1 (B c).2.2.2 (el c)) (hE : ∀ z ∈ LB0.flatMap el ++ dl, h z = some (oE (E z)))
    (hb : h b = some (o_B base prod arr (nI 0) seg)) (harr : h arr = some (xaq (d 0) dl.length ga)) (hbn : b ∉ LB0) (hra : ∀ c ∈ LB0, (B c).2.2.1 ≠ arr ∧ (B c).2.2.1 ≠ ad) (hra2 : arr ≠ ad) (hraa : ab ≠ arr ∧ ab ≠ ad)
    (hQ : ∀ h' ga', h' x = some (o_L ab (nI (LB0.length + 1)) (rc + nI dl.length) (nI (no + dl.length)) pk ad 0) → h' b = some (o_B base prod arr (nI dl.length) seg) → h' arr = some (xaq (d 0) dl.length ga') → (∀ i e, dl[i]? = some e → ga' i = some e) → (∃ gd', h' ad = some (xaq (d 0) 100 gd')) → (∀ z ∈ LB0.flatMap el ++ dl, h' z = some (oE (mvE (LB0.flatMap el) (nI no) E dl z))) → (∀ a, a ≠ x → a ≠ b → a ≠ arr → a ≠ ad → a ∉ LB0.flatMap el ++ dl → h' a = h a) → Q h') : wp_LogCleaner_moveDraftInto d h x (some b) Q := by
  have notE : ∀ a o, h a = some o → (∀ ev, o ≠ oE ev) → a ∉ LB0.flatMap el ++ dl := fun a o ha hn q => by
    have h1 := hE a q
    rw [ha] at h1
    exact hn _ (Option.some.inj h1)
  have L_n : ∀ ev, o_L ab (nI (LB0.length + 1)) rc (nI no) pk ad (nI dl.length) ≠ oE ev := fun ev => Ne.symm E_ne_L
  have a_n : ∀ (cA : ClassId) n g ev, xaq cA n g ≠ oE ev := fun cA n g ev => by simp [oE, o_E]
  have hxab : x ≠ ab := ne_oe_arr hx hab
  have hxad : x ≠ ad := ne_oe_arr hx had
  have hxar : x ≠ arr := ne_oe_arr hx harr
  have hxb : x ≠ b := Ne.symm (ne_obj hb hx B_ne_L)
  have hbab : b ≠ ab := ne_oe_arr hb hab
  have hbad : b ≠ ad := ne_oe_arr hb had
  have hbar : b ≠ arr := ne_oe_arr hb harr
  unfold wp_LogCleaner_moveDraftInto
  refine wLoop_ind (fun y h' => ∃ i ga' gd', i ≤ dl.length ∧ y = (x, some b, nI i) ∧ h' x = some (o_L ab (nI (LB0.length + 1)) rc (nI (no + i)) pk ad (nI dl.length)) ∧ h' b = some (o_B base prod arr (nI i) seg) ∧ h' arr = some (xaq (d 0) dl.length ga') ∧ (∀ j e, (dl.take i)[j]? = some e → ga' j = some e) ∧ h' ad = some (xaq (d 0) 100 gd') ∧ (∀ j, i ≤ j → gd' j = gd j) ∧ (∀ z ∈ LB0.flatMap el ++ dl, h' z = some (oE (mvE (LB0.flatMap el) (nI no) E (dl.take i) z))) ∧ ∀ a, a ≠ x → a ≠ b → a ≠ arr → a ≠ ad → a ∉ LB0.flatMap el ++ dl → h' a = h a) (fun y _ => dl.length + 1 - y.2.2.toNatClampNeg) ?_ _ _ ⟨0, ga, gd, Nat.zero_le _, rfl, hx, hb, harr, fun j e hj => by simp at hj, had, fun _ _ => rfl, fun z hz => hE z hz, fun _ _ _ _ _ _ => rfl⟩
  rintro y h' k0 ⟨i, ga', gd', hi, rfl, hx', hb', harr', hga', had', hgd', hE', hk5⟩ hk
  have hab' : h' ab = some (xaq (d 1) 400 g) := by rw [hk5 ab (Ne.symm hxab) (Ne.symm hbab) hraa.1 hraa.2 (notE ab _ hab (a_n _ _ _))]; exact hab
  show wc_LogCleaner_moveDraftInto_2 d Q _ x (some b) (nI i) h'
  refine g_L_6 hx' ?_
  refine ⟨fun c => ?_, fun c => ?_⟩
  · have h1 := (nI_leI (by omega) (by omega)).mp c
    have h2 : i = dl.length := by omega
    subst h2
    rw [List.take_length] at hga' hE'
    refine g_L_2 hx' ?_
    refine g_L_6 hx' ?_
    refine p_L_2 hx' ?_
    refine p_L_6 (xup_self _ _ _) ?_
    rw [xup_xup]
    refine hQ _ ga' (xup_self _ _ _) ?_ ?_ hga' ⟨gd', ?_⟩ (fun z hz => ?_) (fun a n1 n2 n3 n4 n5 => ?_)
    · rw [xup_ne _ _ (Ne.symm hxb)]; exact hb'
    · rw [xup_ne _ _ (Ne.symm hxar)]; exact harr'
    · rw [xup_ne _ _ (Ne.symm hxad)]; exact had'
    · rw [xup_ne _ _ (fun q => by subst q; exact notE z _ hx L_n hz)]
      exact hE' z hz
    · rw [xup_ne _ _ n1]
      exact hk5 a n1 n2 n3 n4 n5
  · have hlt : i < dl.length := by
      rcases Nat.lt_or_ge i dl.length with h1 | h1
      · exact h1
      · exact absurd ((nI_leI (by omega) (by omega)).mpr h1) c
    have hdi : dl[i]? = some dl[i] := List.getElem?_eq_getElem hlt
    have hem : dl[i] ∈ LB0.flatMap el ++ dl := List.mem_append_right _ (List.getElem_mem hlt)
    have hcut : dl.take (i + 1) = dl.take i ++ [dl[i]] := List.take_succ_eq_append_getElem hlt
    -- the log as it is now
    have hlogE : ∀ z, z ∈ (LB0 ++ [b]).flatMap (fun c => if c = b then dl.take i else el c) → z ∈ LB0.flatMap el ++ dl := fun z hz => by
      obtain ⟨c, hc, hz⟩ := List.mem_flatMap.mp hz
      by_cases hcb : c = b
      · rw [if_pos hcb] at hz
        exact List.mem_append_right _ (List.mem_of_mem_take hz)
      · rw [if_neg hcb] at hz
        rcases List.mem_append.mp hc with h1 | h1
        · exact List.mem_append_left _ (mem_flat h1 hz)
        · exact absurd (List.mem_singleton.mp h1) hcb
    have hloge : (LB0 ++ [b]).flatMap (fun c => if c = b then dl.take i else el c) = LB0.flatMap el ++ dl.take i := by
      rw [List.flatMap_append]
      congr 1
      · rw [List.flatMap_def, List.flatMap_def]
        congr 1
        exact List.map_congr_left (fun c hc => if_neg (fun q : c = b => hbn (by rw [← q]; exact hc)))
      · simp
    have hRB' : ∀ c ∈ LB0 ++ [b], RB d h' c (if c = b then (base, prod, arr, seg) else B c).1 (if c = b then (base, prod, arr, seg) else B c).2.1 (if c = b then (base, prod, arr, seg) else B c).2.2.1 (if c = b then (base, prod, arr, seg) else B c).2.2.2 (if c = b then dl.take i else el c) := fun c hc => by
      by_cases hcb : c = b
      · rw [if_pos hcb, if_pos hcb]
        subst hcb
        refine ⟨?_, dl.length, ga', harr', ?_, hdl, hga'⟩
        · rw [List.length_take, Nat.min_eq_left hi]; exact hb'
        · rw [List.length_take]; omega
      · rw [if_neg hcb, if_neg hcb]
        have hc0 : c ∈ LB0 := by
          rcases List.mem_append.mp hc with h1 | h1
          · exact h1
          · exact absurd (List.mem_singleton.mp h1) hcb
        obtain ⟨r1, cap, g2, r2, r3⟩ := hRB c hc0
        refine (hRB c hc0).congr ?_ ?_
        · exact hk5 c (ne_obj r1 hx B_ne_L) hcb (ne_oe_arr r1 harr) (ne_oe_arr r1 had) (notE c _ r1 (fun ev => Ne.symm E_ne_B))
        · exact hk5 _ (Ne.symm (ne_oe_arr hx r2)) (Ne.symm (ne_oe_arr hb r2)) (hra c hc0).1 (hra c hc0).2 (notE _ _ r2 (a_n _ _ _))
    have he' := hE' dl[i] hem
    have mu : dl.length + 1 - (nI i + 1).toNatClampNeg < dl.length + 1 - (nI i).toNatClampNeg := by
      rw [nI_1, nI_clamp (by omega), nI_clamp (by omega)]
      omega
    -- behind the marking
    have fin : ∀ (h2 : xw) (E2 : Nat → EV), E2 = mark (mvE (LB0.flatMap el) (nI no) E (dl.take i)) (LB0.flatMap el ++ dl.take i) dl[i] → (∀ z ∈ LB0.flatMap el ++ dl, h2 z = some (oE (E2 z))) → (∀ a, a ∉ LB0.flatMap el ++ dl → h2 a = h' a) →
        wgI h2 x 0 3 fun v10 => wnn (some dl[i]) fun p11 => wpF h2 p11 2 5 (.int v10) fun h12 => wgI h12 x 0 3 fun v13 => wpF h12 x 0 3 (.int (v13 + 1)) fun h14 => wnn (some b) fun p15 => wIs h14 p15 1 (wp_Batch_append d h14 p15 (some p11) fun h16 => wgA h16 x 0 5 fun r17 => wnn r17 fun p18 => wstq h16 p18 (d 0) 2 (nI i) none fun h19 => k0 (x, some p15, nI i + 1) h19) := fun h2 E2 hE2 h2E h2n => by
      have nx : x ∉ LB0.flatMap el ++ dl := notE x _ hx L_n
      have nb : b ∉ LB0.flatMap el ++ dl := notE b _ hb (fun ev => Ne.symm E_ne_B)
      have nar : arr ∉ LB0.flatMap el ++ dl := notE arr _ harr (a_n _ _ _)
      have nad : ad ∉ LB0.flatMap el ++ dl := notE ad _ had (a_n _ _ _)
      have ex : x ≠ dl[i] := fun q => nx (q ▸ hem)
      have eb : b ≠ dl[i] := fun q => nb (q ▸ hem)
      have ear : arr ≠ dl[i] := fun q => nar (q ▸ hem)
      have ead : ad ≠ dl[i] := fun q => nad (q ▸ hem)
      have hx2 : h2 x = _ := (h2n x nx).trans hx'
      have hb2 : h2 b = _ := (h2n b nb).trans hb'
      have har2 : h2 arr = _ := (h2n arr nar).trans harr'
      have had2 : h2 ad = _ := (h2n ad nad).trans had'
      refine g_L_3 hx2 ?_
      refine ⟨_, rfl, ?_⟩
      refine p_E_5 (h2E _ hem) ?_
      have hx3 : (xup h2 dl[i] (oE (setOff (E2 dl[i]) (nI (no + i))))) x = _ := (xup_ne _ _ ex).trans hx2
      refine g_L_3 hx3 ?_
      refine p_L_3 hx3 ?_
      refine ⟨_, rfl, ?_⟩
      have hb4 : (xup (xup h2 dl[i] (oE (setOff (E2 dl[i]) (nI (no + i))))) x (o_L ab (nI (LB0.length + 1)) rc (nI (no + i) + 1) pk ad (nI dl.length))) b = _ := (xup_ne _ _ (Ne.symm hxb)).trans ((xup_ne _ _ eb).trans hb2)
      refine is_B hb4 ?_
      refine sp_append (g := ga') (cap := dl.length) (ev := setOff (E2 dl[i]) (nI (no + i))) hb4 ((xup_ne _ _ (Ne.symm hxar)).trans ((xup_ne _ _ ear).trans har2)) ((xup_ne _ _ (Ne.symm ex)).trans (xup_self _ _ _)) hlt hdl ?_
      refine g_L_5 ((xup_ne _ _ hxb).trans ((xup_ne _ _ hxar).trans (xup_self _ _ _))) ?_
      refine ⟨_, rfl, ?_⟩
      refine wstq_n ((xup_ne _ _ (Ne.symm hbad)).trans ((xup_ne _ _ (Ne.symm hra2)).trans ((xup_ne _ _ (Ne.symm hxad)).trans ((xup_ne _ _ ead).trans had2)))) (by omega) (by omega) (fun _ q => by cases q) ?_
      refine hk _ _ ⟨i + 1, va_up ga' i (some dl[i]), va_up gd' i none, hlt, by rw [← nI_1 i], ?_, ?_, ?_, fun j e hj => ?_, xup_self _ _ _, fun j hj => ?_, fun z hz => ?_, fun a n1 n2 n3 n4 n5 => ?_⟩ mu
      · rw [xup_ne _ _ hxad, xup_ne _ _ hxb, xup_ne _ _ hxar, xup_self, nI_1, Nat.add_assoc]
      · rw [xup_ne _ _ hbad]
        exact xup_self _ _ _
      · rw [xup_ne _ _ hra2, xup_ne _ _ (Ne.symm hbar)]
        exact xup_self _ _ _
      · rw [hcut] at hj
        by_cases hjl : j < i
        · rw [va_up_ne _ _ (by omega)]
          rw [List.getElem?_append_left (by rw [List.length_take]; omega)] at hj
          exact hga' j e hj
        · rw [List.getElem?_append_right (by rw [List.length_take]; omega)] at hj
          have h1 := (List.getElem?_eq_some_iff.mp hj).1
          simp only [List.length_cons, List.length_nil, List.length_take] at h1
          have h3 : j = i := by omega
          subst h3
          rw [List.length_take, Nat.min_eq_left hi, Nat.sub_self] at hj
          simp at hj
          rw [va_up_self, hj]
      · rw [va_up_ne _ _ (by omega)]
        exact hgd' j (by omega)
      · rw [hcut, mvE_snoc, List.length_take, Nat.min_eq_left hi, ← hE2]
        have z1 : z ≠ ad := fun q => nad (q ▸ hz)
        have z2 : z ≠ b := fun q => nb (q ▸ hz)
        have z3 : z ≠ arr := fun q => nar (q ▸ hz)
        have z4 : z ≠ x := fun q => nx (q ▸ hz)
        rw [xup_ne _ _ z1, xup_ne _ _ z2, xup_ne _ _ z3, xup_ne _ _ z4]
        exact ent_up (a := dl[i]) (e := setOff (E2 dl[i]) (nI (no + i))) h2E z hz
      · rw [xup_ne _ _ n4, xup_ne _ _ n2, xup_ne _ _ n3, xup_ne _ _ n1, xup_ne _ _ (fun q : a = dl[i] => n5 (by rw [q]; exact hem)), h2n a n5]
        exact hk5 a n1 n2 n3 n4 n5
    refine g_L_5 hx' ?_
    refine ⟨_, rfl, ?_⟩
    refine wldq_n had' (by omega) (by omega) ?_
    rw [hgd' i (Nat.le_refl _), hgd i dl[i] hdi]
    refine is_L hx' ?_
    have hx9 : h' x = some (o_L ab (nI (LB0 ++ [b]).length) rc (nI (no + i)) pk ad (nI dl.length)) := by rw [List.length_append]; exact hx'
    refine sp_mark (B := fun c => if c = b then (base, prod, arr, seg) else B c) (el := fun c => if c = b then dl.take i else el c) hx9 hab' hg (by rw [List.length_append]; exact hle) hRB' (fun z hz => hE' z (hlogE z hz)) he' (fun hm => ?_) (fun a ha hm => ?_)
    · rw [hloge] at hm
      exact fin h' _ hm.symm hE' (fun _ _ => rfl)
    · rw [hloge] at hm
      refine fin _ _ hm.symm (ent_up hE') (fun z hz => xup_ne _ _ (fun q => hz (q ▸ hlogE a ha)))
end
section
/-! record, close, and the constructors -/
def lowB (k : Int64) (b : Int32) : Int64 := if 0 < b then (if b < 8 then k &&& ((1 <<< ((b * 8).toInt64 &&& 63)) - 1) else k) else 0
theorem sp_low {d : Nat → ClassId} {h : xw} {k : Int64} {b : Int32} {Q : Int64 → xw → Prop} (hQ : Q (lowB k b) h) : wp_LogCleaner_lowestBytes d h k b Q := by
  unfold wp_LogCleaner_lowestBytes
  unfold lowB at hQ
  refine ⟨fun c => ?_, fun c => ?_⟩
  · rw [if_pos c] at hQ
    refine ⟨fun c2 => ?_, fun c2 => ?_⟩
    · rw [if_pos c2] at hQ; exact hQ
    · rw [if_neg c2] at hQ; exact hQ
  · rw [if_neg c] at hQ; exact hQ
theorem sp_Einit {d : Nat → ClassId} {h : xw} {a : Nat} {k w : Int64} {b v t : Int32} {Q : xw → Prop} (ha : h a = some (.inr (2, z_Entry))) (hv : v = 0 ∨ v = 1) (hQ : Q (xup h a (o_E k b v w t (-1) 0))) : wp_Entry_init d h a k b v w t Q := by
  unfold wp_Entry_init
  refine ⟨_, ha, Nat.le_of_ble_eq_true rfl, ?_⟩
  refine ⟨Or.inl rfl, _, xup_self _ _ _, Nat.le_of_ble_eq_true rfl, ?_⟩
  refine ⟨_, xup_self _ _ _, Nat.le_of_ble_eq_true rfl, ?_⟩
  refine ⟨_, xup_self _ _ _, Nat.le_of_ble_eq_true rfl, ?_⟩
  refine ⟨hv, _, xup_self _ _ _, Nat.le_of_ble_eq_true rfl, ?_⟩
  refine ⟨_, xup_self _ _ _, Nat.le_of_ble_eq_true rfl, ?_⟩
  refine ⟨_, xup_self _ _ _, Nat.le_of_ble_eq_true rfl, ?_⟩
  simp only [xup_xup]
  exact hQ
theorem sp_Binit {d : Nat → ClassId} {h : xw} {a n : Nat} {base prod : Int32} {Q : xw → Prop} (ha : h a = some (.inr (1, z_Batch))) (hn : n ≤ 100) (hQ : ∀ q, h q = none → Q (xup (xup h q (xaq (d 0) n (fun _ => none))) a (o_B base prod q 0 (-1)))) : wp_Batch_init d h a base prod (nI n) Q := by
  unfold wp_Batch_init
  refine ⟨_, ha, Nat.le_of_ble_eq_true rfl, ?_⟩
  refine ⟨_, xup_self _ _ _, Nat.le_of_ble_eq_true rfl, ?_⟩
  refine ⟨_, xup_self _ _ _, Nat.le_of_ble_eq_true rfl, ?_⟩
  refine ⟨_, xup_self _ _ _, Nat.le_of_ble_eq_true rfl, ?_⟩
  rw [if_neg (nI_pos (by omega))]
  refine ⟨nI_pos (by omega), by rw [nI_clamp (by omega)]; exact hn, fun q hq => ?_⟩
  have hqa : q ≠ a := fun e => by subst e; rw [xup_self] at hq; cases hq
  rw [nI_clamp (by omega)]
  simp only [xup_xup]
  refine ⟨_, (xup_ne _ _ (Ne.symm hqa)).trans (xup_self _ _ _), Nat.le_of_ble_eq_true rfl, ?_⟩
  have hq0 : h q = none := by
    simp only [xup_xup] at hq
    rw [xup_ne _ _ hqa] at hq
    exact hq
  have e := hQ q hq0
  have e2 : ∀ (h : xw) (o1 o2 o3 : va_E), xup (xup (xup h a o1) q o2) a o3 = xup (xup h q o2) a o3 := fun h o1 o2 o3 => by
    funext z
    by_cases h1 : z = a
    · subst h1; rw [xup_self, xup_self]
    · rw [xup_ne _ _ h1, xup_ne _ _ h1]
      by_cases h2 : z = q
      · subst h2; rw [xup_self, xup_self]
      · rw [xup_ne _ _ h2, xup_ne _ _ h2, xup_ne _ _ h1]
  rw [e2]
  exact e
def IAE : String := "java/lang/IllegalArgumentException"
def ISE : String := "java/lang/IllegalStateException"
theorem lt_nI {n m : Nat} {c : Int32} (hc : c = nI m) (hn : n < 2 ^ 31) (hm : m < 2 ^ 31) : nI n < c ↔ n < m := by
  rw [hc]
  exact nI_ltI hn hm
theorem sp_record {d : Nat → ClassId} {h : xw} {x ab pk ad n : Nat} {bc rc no kb v tm : Int32} {k w : Int64} {gd : Nat → Option Nat} {Q : Int32 → xw → Prop} {X : String → xw → Prop} (hx : h x = some (o_L ab bc rc no pk ad (nI n))) (had : h ad = some (xaq (d 0) 100 gd)) (hn : n ≤ 100) (hv : v = 0 ∨ v = 1)
    (hIA : (kb < -1 ∨ ¬ kb ≤ 8 ∨ ¬ 0 ≤ tm) → X IAE h) (hIS : ¬ (kb < -1 ∨ ¬ kb ≤ 8 ∨ ¬ 0 ≤ tm) → (¬ n < 100 ∨ ¬ rc + nI n < 4000) → X ISE h)
    (hQ : ¬ (kb < -1 ∨ ¬ kb ≤ 8 ∨ ¬ 0 ≤ tm) → n < 100 → rc + nI n < 4000 → ∀ q, h q = none → Q (nI (n + 1)) (xup (xup (xup h q (o_E (lowB k kb) kb v (if v = 0 then 0 else w) tm (-1) 0)) ad (xaq (d 0) 100 (va_up gd n (some q)))) x (o_L ab bc rc no pk ad (nI (n + 1))))) : wp_LogCleaner_record d h x k kb v w tm Q X := by
  have hxad : x ≠ ad := ne_oe_arr hx had
  have e100 : (100 : Int32) = nI 100 := by decide
  unfold wp_LogCleaner_record
  refine ⟨fun c => hIA (Or.inl c), fun c1 => ?_⟩
  refine ⟨fun c2 => ?_, fun c2 => hIA (Or.inr (Or.inl c2))⟩
  refine ⟨fun c3 => ?_, fun c3 => hIA (Or.inr (Or.inr c3))⟩
  have ok : ¬ (kb < -1 ∨ ¬ kb ≤ 8 ∨ ¬ 0 ≤ tm) := fun q => by
    rcases q with q | q | q
    · exact c1 q
    · exact q c2
    · exact q c3
  refine g_L_6 hx ?_
  refine ⟨fun c4 => ?_, fun c4 => hIS ok (Or.inl (fun q => c4 ((lt_nI e100 (by omega) (by omega)).mpr q)))⟩
  have hlt := (lt_nI e100 (by omega) (by omega)).mp c4
  refine g_L_2 hx ?_
  refine g_L_6 hx ?_
  refine ⟨fun c5 => ?_, fun c5 => hIS ok (Or.inr c5)⟩
  have go : ∀ w2, w2 = (if v = 0 then 0 else w) → wb_LogCleaner_record_98 d Q X x kb v tm (lowB k kb) w2 h := fun w2 hw2 => by
    subst hw2
    refine g_L_5 hx ?_
    refine g_L_6 hx ?_
    intro q hq
    have old : ∀ a o, h a = some o → a ≠ q := fun a o ha e => by subst e; rw [hq] at ha; cases ha
    refine sp_Einit (xup_self _ _ _) hv ?_
    rw [xup_xup]
    refine ⟨_, rfl, ?_⟩
    refine wstq_n ((xup_ne _ _ (old _ _ had)).trans had) (by omega) (by omega) (fun z e => by cases e; exact ⟨_, xup_self _ _ _⟩) ?_
    have hx2 : (xup (xup h q (o_E (lowB k kb) kb v (if v = 0 then 0 else w) tm (-1) 0)) ad (xaq (d 0) 100 (va_up gd n (some q)))) x = _ := (xup_ne _ _ hxad).trans ((xup_ne _ _ (old _ _ hx)).trans hx)
    refine g_L_6 hx2 ?_
    refine p_L_6 hx2 ?_
    refine g_L_6 (xup_self _ _ _) ?_
    rw [nI_1]
    exact hQ ok hlt c5 q hq
  refine sp_low ?_
  refine ⟨fun c6 => go _ (by rw [if_pos c6]), fun c6 => go _ (by rw [if_neg c6])⟩
theorem sp_close {d : Nat → ClassId} {h : xw} {x ab pk ad no : Nat} {rc prod ls lf : Int32} {LB0 dl : List Nat} {g gd : Nat → Option Nat} {B : Nat → BF} {el : Nat → List Nat} {E : Nat → EV} {Q : Int32 → xw → Prop} {X : String → xw → Prop}
    (hx : h x = some (o_L ab (nI LB0.length) rc (nI no) pk ad (nI dl.length))) (hp : h pk = some (o_P ls lf)) (hab : h ab = some (xaq (d 1) 400 g)) (hg : ∀ i c, LB0[i]? = some c → g i = some c) (hle : LB0.length ≤ 400)
    (had : h ad = some (xaq (d 0) 100 gd)) (hgd : ∀ i e, dl[i]? = some e → gd i = some e) (hdl : dl.length ≤ 100)
    (hRB : ∀ c ∈ LB0, RB d h c (B c).1 (B c).2.1 (B c).2.2.1 (B c).2.2.2 (el c)) (hE : ∀ z ∈ LB0.flatMap el ++ dl, h z = some (oE (E z))) (hra : ∀ c ∈ LB0, (B c).2.2.1 ≠ ad ∧ (B c).2.2.1 ≠ ab) (habd : ab ≠ ad)
    (hIA : ¬ -1 ≤ prod → X IAE h) (hIS : -1 ≤ prod → (dl.length = 0 ∨ ¬ LB0.length < 400) → X ISE h)
    (hQ : -1 ≤ prod → 0 < dl.length → LB0.length < 400 → ∀ h' b arr g' ga', h b = none → h arr = none → b ≠ arr → h' x = some (o_L ab (nI (LB0.length + 1)) (rc + nI dl.length) (nI (no + dl.length)) pk ad 0) →
      h' pk = some (o_P (plc (ls, lf) (bsz (mvE (LB0.flatMap el) (nI no) E dl) dl)).1 (plc (ls, lf) (bsz (mvE (LB0.flatMap el) (nI no) E dl) dl)).2) → h' ab = some (xaq (d 1) 400 g') → (∀ i c, (LB0 ++ [b])[i]? = some c → g' i = some c) → (∃ gd', h' ad = some (xaq (d 0) 100 gd')) →
      h' b = some (o_B (nI no) prod arr (nI dl.length) (plc (ls, lf) (bsz (mvE (LB0.flatMap el) (nI no) E dl) dl)).1) → h' arr = some (xaq (d 0) dl.length ga') → (∀ i e, dl[i]? = some e → ga' i = some e) →
      (∀ z ∈ LB0.flatMap el ++ dl, h' z = some (oE (mvE (LB0.flatMap el) (nI no) E dl z))) → (∀ a, a ≠ x → a ≠ pk → a ≠ ab → a ≠ b → a ≠ arr → a ≠ ad → a ∉ LB0.flatMap el ++ dl → h' a = h a) → Q (nI no) h') : wp_LogCleaner_close d h x prod Q X := by
  have e400 : (400 : Int32) = nI 400 := by decide
  unfold wp_LogCleaner_close
  refine ⟨fun c1 => ?_, fun c1 => hIA c1⟩
  refine g_L_6 hx ?_
  refine ⟨fun c2 => hIS c1 (Or.inl ?_), fun c2 => ?_⟩
  · rw [← nI_0] at c2
    exact (nI_eq (by omega) (by omega)).mp c2
  have hd0 : 0 < dl.length := by
    rcases Nat.eq_zero_or_pos dl.length with q | q
    · rw [q] at c2; exact absurd nI_0 c2
    · exact q
  refine g_L_1 hx ?_
  refine ⟨fun c3 => ?_, fun c3 => hIS c1 (Or.inr (fun q => c3 ((lt_nI e400 (by omega) (by omega)).mpr q)))⟩
  have hlt := (lt_nI e400 (by omega) (by omega)).mp c3
  intro b hb
  have oldb : ∀ a o, h a = some o → a ≠ b := fun a o ha e => by subst e; rw [hb] at ha; cases ha
  have hx1 : (xup h b (.inr (1, z_Batch))) x = _ := (xup_ne _ _ (oldb _ _ hx)).trans hx
  refine g_L_3 hx1 ?_
  refine g_L_6 hx1 ?_
  refine sp_Binit (xup_self _ _ _) hdl (fun arr har => ?_)
  have hab1 : arr ≠ b := fun e => by subst e; rw [xup_self] at har; cases har
  have har0 : h arr = none := by rw [xup_ne _ _ hab1] at har; exact har
  have olda : ∀ a o, h a = some o → a ≠ arr := fun a o ha e => by subst e; rw [har0] at ha; cases ha
  generalize hh2 : xup (xup (xup h b (.inr (1, z_Batch))) arr (xaq (d 0) dl.length fun _ => none)) b (o_B (nI no) prod arr 0 (-1)) = h2
  have h2o : ∀ a, a ≠ b → a ≠ arr → h2 a = h a := fun a n1 n2 => by rw [← hh2, xup_ne _ _ n1, xup_ne _ _ n2, xup_ne _ _ n1]
  have h2k : ∀ a o, h a = some o → h2 a = some o := fun a o ha => (h2o a (oldb a o ha) (olda a o ha)).trans ha
  have h2b : h2 b = some (o_B (nI no) prod arr (nI 0) (-1)) := by rw [← hh2]; exact xup_self _ _ _
  have h2a : h2 arr = some (xaq (d 0) dl.length fun _ => none) := by rw [← hh2, xup_ne _ _ hab1]; exact xup_self _ _ _
  refine g_L_0 (h2k _ _ hx) ?_
  refine g_L_1 (h2k _ _ hx) ?_
  refine ⟨_, rfl, ?_⟩
  refine wstq_n (h2k _ _ hab) (by omega) (by omega) (fun z e => by cases e; exact ⟨_, h2b⟩) ?_
  have hxab : x ≠ ab := ne_oe_arr hx hab
  have hx3 : (xup h2 ab (xaq (d 1) 400 (va_up g LB0.length (some b)))) x = _ := (xup_ne _ _ hxab).trans (h2k _ _ hx)
  refine g_L_1 hx3 ?_
  refine p_L_1 hx3 ?_
  generalize hh4 : xup (xup h2 ab (xaq (d 1) 400 (va_up g LB0.length (some b)))) x (o_L ab (nI LB0.length + 1) rc (nI no) pk ad (nI dl.length)) = h4
  have h4o : ∀ a, a ≠ x → a ≠ ab → h4 a = h2 a := fun a n1 n2 => by rw [← hh4, xup_ne _ _ n1, xup_ne _ _ n2]
  have h4x : h4 x = some (o_L ab (nI (LB0.length + 1)) rc (nI no) pk ad (nI dl.length)) := by rw [← hh4, xup_self, nI_1]
  have h4ab : h4 ab = some (xaq (d 1) 400 (va_up g LB0.length (some b))) := by rw [← hh4, xup_ne _ _ (Ne.symm hxab)]; exact xup_self _ _ _
  have hxb : b ≠ x := Ne.symm (oldb _ _ hx)
  have hbab : b ≠ ab := Ne.symm (oldb _ _ hab)
  have haab : arr ≠ ab := Ne.symm (olda _ _ hab)
  have hax : arr ≠ x := Ne.symm (olda _ _ hx)
  have hg4 : ∀ i c, (LB0 ++ [b])[i]? = some c → va_up g LB0.length (some b) i = some c := fun i c hi => by
    by_cases hil : i < LB0.length
    · rw [List.getElem?_append_left hil] at hi
      rw [va_up_ne _ _ (by omega)]
      exact hg i c hi
    · rw [List.getElem?_append_right (by omega)] at hi
      have h1 := (List.getElem?_eq_some_iff.mp hi).1
      simp at h1
      have h3 : i = LB0.length := by omega
      subst h3
      simp at hi
      rw [va_up_self, hi]
  have hxad : x ≠ ad := ne_oe_arr hx had
  have h4ad : h4 ad = some (xaq (d 0) 100 gd) := (h4o ad (Ne.symm hxad) (Ne.symm habd)).trans (h2k _ _ had)
  have h4k : ∀ a o, h a = some o → a ≠ x → a ≠ ab → h4 a = some o := fun a o ha n1 n2 => (h4o a n1 n2).trans (h2k a o ha)
  have hpx : pk ≠ x := Ne.symm (ne_obj hx hp L_ne_P)
  have hpab : pk ≠ ab := ne_oe_arr hp hab
  refine is_L h4x ?_
  have hEx : ∀ z ∈ LB0.flatMap el ++ dl, z ≠ x ∧ z ≠ ab ∧ z ≠ pk ∧ z ≠ b ∧ z ≠ arr := fun z hz => ⟨ne_obj (hE z hz) hx E_ne_L, ne_oe_arr (hE z hz) hab, ne_obj (hE z hz) hp E_ne_P, oldb _ _ (hE z hz), olda _ _ (hE z hz)⟩
  refine sp_moveDraft (B := B) (el := el) (E := E) h4x h4ab hg4 (by omega) h4ad hgd hdl (fun c hc => ?_) (fun z hz => h4k z _ (hE z hz) (hEx z hz).1 (hEx z hz).2.1) ((h4o b hxb hbab).trans h2b) ((h4o arr hax haab).trans h2a) (fun q => absurd rfl (oldb _ _ (hRB b q).1)) (fun c hc => ?_) (Ne.symm (olda _ _ had)) ⟨Ne.symm haab, habd⟩ ?_
  · obtain ⟨r1, cap, g2, r2, r3⟩ := hRB c hc
    refine ⟨h4k c _ r1 (ne_obj r1 hx B_ne_L) (ne_oe_arr r1 hab), cap, g2, h4k _ _ r2 (Ne.symm (ne_oe_arr hx r2)) (hra c hc).2, r3⟩
  · obtain ⟨r1, cap, g2, r2, r3⟩ := hRB c hc
    exact ⟨olda _ _ r2, (hra c hc).1⟩
  intro h5 ga' h5x h5b h5a hga h5d h5E h5o
  have h5p : h5 pk = some (o_P ls lf) := by
    rw [h5o pk hpx (oldb _ _ hp) (olda _ _ hp) (ne_oe_arr hp had) (fun q => (hEx pk q).2.2.1 rfl)]
    exact h4k _ _ hp hpx hpab
  refine g_L_4 h5x ?_
  refine is_B h5b ?_
  have hRBb : RB d h5 b (nI no) prod arr (-1) dl := ⟨h5b, dl.length, ga', h5a, Nat.le_refl _, hdl, hga⟩
  refine sp_Bsize (E := mvE (LB0.flatMap el) (nI no) E dl) hRBb (fun a ha => h5E a (List.mem_append_right _ ha)) ?_
  refine ⟨_, rfl, ?_⟩
  refine is_P h5p ?_
  refine sp_place2 (s := (ls, lf)) h5p ?_
  have hbp : b ≠ pk := Ne.symm (oldb _ _ hp)
  have h6b : (xup h5 pk (o_P (plc (ls, lf) (bsz (mvE (LB0.flatMap el) (nI no) E dl) dl)).1 (plc (ls, lf) (bsz (mvE (LB0.flatMap el) (nI no) E dl) dl)).2)) b = _ := (xup_ne _ _ hbp).trans h5b
  refine p_B_4 h6b ?_
  refine g_B_0 (xup_self _ _ _) ?_
  have hap : arr ≠ pk := Ne.symm (olda _ _ hp)
  have h5ab : h5 ab = some (xaq (d 1) 400 (va_up g LB0.length (some b))) := by
    rw [h5o ab (Ne.symm hxab) (Ne.symm hbab) (Ne.symm haab) habd (fun q => (hEx ab q).2.1 rfl)]
    exact h4ab
  obtain ⟨gd', h5d⟩ := h5d
  refine hQ c1 hd0 hlt _ b arr (va_up g LB0.length (some b)) ga' hb har0 (Ne.symm hab1) ?_ ?_ ?_ hg4 ⟨gd', ?_⟩ (xup_self _ _ _) ?_ hga (fun z hz => ?_) (fun a n1 n2 n3 n4 n5 n6 n7 => ?_)
  · rw [xup_ne _ _ (Ne.symm hxb), xup_ne _ _ (Ne.symm hpx)]; exact h5x
  · rw [xup_ne _ _ (Ne.symm hbp)]; exact xup_self _ _ _
  · rw [xup_ne _ _ (Ne.symm hbab), xup_ne _ _ (Ne.symm hpab)]; exact h5ab
  · rw [xup_ne _ _ (oldb _ _ had), xup_ne _ _ (Ne.symm (ne_oe_arr hp had))]; exact h5d
  · rw [xup_ne _ _ hab1, xup_ne _ _ hap]; exact h5a
  · obtain ⟨z1, z2, z3, z4, z5⟩ := hEx z hz
    rw [xup_ne _ _ z4, xup_ne _ _ z3]
    exact h5E z hz
  · rw [xup_ne _ _ n4, xup_ne _ _ n2, h5o a n1 n4 n5 n6 n7, h4o a n1 n3, h2o a n4 n5]
end
section
/-! the marks say whether a later record of the log has the same key -/
def supOK (E : Nat → EV) (log : List Nat) : Prop := ∀ pre a post, log = pre ++ a :: post → ((E a).2.2.2.2.2.2 ≠ 0 ↔ (E a).2.1 ≠ -1 ∧ ∃ z ∈ post, (E z).1 = (E a).1 ∧ (E z).2.1 = (E a).2.1)
theorem supOK_right {E : Nat → EV} {l1 l2 : List Nat} (h : supOK E (l1 ++ l2)) : supOK E l2 := fun pre a post e => h (l1 ++ pre) a post (by rw [e, List.append_assoc])
theorem lastK_split {E : Nat → EV} {k : Int64} {b : Int32} {l : List Nat} {a : Nat} (h : lastK E k b l = some a) : isK E k b a = true ∧ ∃ p q, l = p ++ a :: q ∧ ∀ z ∈ q, isK E k b z = false := by
  obtain ⟨h1, as, bs, h2, h3⟩ := List.find?_eq_some_iff_append.mp h
  refine ⟨h1, bs.reverse, as.reverse, ?_, fun z hz => ?_⟩
  · have h4 : l.reverse.reverse = (as ++ a :: bs).reverse := by rw [h2]
    rw [List.reverse_reverse] at h4
    rw [h4]
    simp
  · have h5 := h3 z (List.mem_reverse.mp hz)
    simpa using h5
theorem lastK_none {E : Nat → EV} {k : Int64} {b : Int32} {l : List Nat} (h : lastK E k b l = none) : ∀ z ∈ l, isK E k b z = false := fun z hz => by
  have h1 := List.find?_eq_none.mp h z (List.mem_reverse.mpr hz)
  simpa using h1
theorem isK_iff {E : Nat → EV} {k : Int64} {b : Int32} {a : Nat} : isK E k b a = true ↔ (E a).1 = k ∧ (E a).2.1 = b := by
  simp [isK]
theorem mark_e {E : Nat → EV} {log : List Nat} {e : Nat} (z : Nat) (hz : z ∉ log) : mark E log e z = E z := by
  unfold mark
  by_cases hk : (E e).2.1 = -1
  · rw [if_pos hk]
  · rw [if_neg hk]
    cases hl : lastK E (E e).1 (E e).2.1 log with
    | none => rfl
    | some a => exact upE_ne _ (fun q => hz (by rw [q]; exact lastK_mem hl))
theorem mark_kv {E : Nat → EV} {log : List Nat} {e : Nat} (z : Nat) : (mark E log e z).1 = (E z).1 ∧ (mark E log e z).2.1 = (E z).2.1 ∧ (mark E log e z).2.2.1 = (E z).2.2.1 ∧ (mark E log e z).2.2.2.1 = (E z).2.2.2.1 ∧ (mark E log e z).2.2.2.2.1 = (E z).2.2.2.2.1 ∧ (mark E log e z).2.2.2.2.2.1 = (E z).2.2.2.2.2.1 := by
  unfold mark
  by_cases hk : (E e).2.1 = -1
  · rw [if_pos hk]
    exact ⟨rfl, rfl, rfl, rfl, rfl, rfl⟩
  · rw [if_neg hk]
    cases hl : lastK E (E e).1 (E e).2.1 log with
    | none => exact ⟨rfl, rfl, rfl, rfl, rfl, rfl⟩
    | some a =>
      show (upE E a (setSup (E a)) z).1 = _ ∧ (upE E a (setSup (E a)) z).2.1 = _ ∧ (upE E a (setSup (E a)) z).2.2.1 = _ ∧ (upE E a (setSup (E a)) z).2.2.2.1 = _ ∧ (upE E a (setSup (E a)) z).2.2.2.2.1 = _ ∧ (upE E a (setSup (E a)) z).2.2.2.2.2.1 = _
      by_cases q : z = a
      · subst q
        rw [upE_self]
        exact ⟨rfl, rfl, rfl, rfl, rfl, rfl⟩
      · rw [upE_ne _ q]
        exact ⟨rfl, rfl, rfl, rfl, rfl, rfl⟩
/-- keys as they were: marks and offsets do not matter -/
theorem supOK_mv {E : Nat → EV} {log : List Nat} {e : Nat} {no : Int32} (h : supOK E log) (hn : e ∉ log) (hnd : log.Nodup) (hs : (E e).2.2.2.2.2.2 = 0) : supOK (upE (mark E log e) e (setOff (mark E log e e) no)) (log ++ [e]) := by
  have kv : ∀ z, (upE (mark E log e) e (setOff (mark E log e e) no) z).1 = (E z).1 ∧ (upE (mark E log e) e (setOff (mark E log e e) no) z).2.1 = (E z).2.1 := fun z => by
    by_cases q : z = e
    · subst q
      rw [upE_self]
      exact ⟨(mark_kv z).1, (mark_kv z).2.1⟩
    · rw [upE_ne _ q]
      exact ⟨(mark_kv z).1, (mark_kv z).2.1⟩
  intro pre a post hd
  rw [(kv a).1, (kv a).2]
  have hex : (∃ z ∈ post, (upE (mark E log e) e (setOff (mark E log e e) no) z).1 = (E a).1 ∧ (upE (mark E log e) e (setOff (mark E log e e) no) z).2.1 = (E a).2.1) ↔ ∃ z ∈ post, (E z).1 = (E a).1 ∧ (E z).2.1 = (E a).2.1 := by
    constructor
    · rintro ⟨z, h1, h2, h3⟩
      exact ⟨z, h1, by rw [← (kv z).1]; exact h2, by rw [← (kv z).2]; exact h3⟩
    · rintro ⟨z, h1, h2, h3⟩
      exact ⟨z, h1, by rw [(kv z).1]; exact h2, by rw [(kv z).2]; exact h3⟩
  rw [hex]
  rcases List.eq_nil_or_concat post with rfl | ⟨post', y, rfl⟩
  · obtain ⟨h1, h2⟩ := List.append_inj' hd rfl
    have h3 : e = a := by simpa using h2
    subst h3
    rw [upE_self]
    constructor
    · intro q
      have h4 : (setOff (mark E log e e) no).2.2.2.2.2.2 = (E e).2.2.2.2.2.2 := by rw [mark_e e hn]; rfl
      rw [h4] at q
      exact absurd hs q
    · rintro ⟨-, z, hz, -⟩
      cases hz
  · have hd2 : log ++ [e] = (pre ++ a :: post') ++ [y] := by rw [hd]; simp
    obtain ⟨h1, h2⟩ := List.append_inj' hd2 rfl
    have h3 : e = y := by simpa using h2
    subst h3
    have ham : a ∈ log := by rw [h1]; simp
    have hae : a ≠ e := fun q => hn (q ▸ ham)
    rw [upE_ne _ hae]
    have hold := h pre a post' h1
    have hex2 : (∃ z ∈ post'.concat e, (E z).1 = (E a).1 ∧ (E z).2.1 = (E a).2.1) ↔ (∃ z ∈ post', (E z).1 = (E a).1 ∧ (E z).2.1 = (E a).2.1) ∨ ((E e).1 = (E a).1 ∧ (E e).2.1 = (E a).2.1) := by
      simp only [List.concat_eq_append, List.mem_append, List.mem_singleton]
      constructor
      · rintro ⟨z, q3 | q3, q4⟩
        · exact Or.inl ⟨z, q3, q4⟩
        · rw [q3] at q4
          exact Or.inr q4
      · rintro (⟨z, q3, q4⟩ | q4)
        · exact ⟨z, Or.inl q3, q4⟩
        · exact ⟨e, Or.inr rfl, q4⟩
    rw [hex2]
    unfold mark
    by_cases hk : (E e).2.1 = -1
    · rw [if_pos hk, hold]
      constructor
      · rintro ⟨q1, q2⟩
        exact ⟨q1, Or.inl q2⟩
      · rintro ⟨q1, q2 | q2⟩
        · exact ⟨q1, q2⟩
        · exact absurd (q2.2.symm.trans hk) q1
    · rw [if_neg hk]
      cases hl : lastK E (E e).1 (E e).2.1 log with
      | none =>
        have hno := lastK_none hl a ham
        show (E a).2.2.2.2.2.2 ≠ 0 ↔ _
        rw [hold]
        constructor
        · rintro ⟨q1, q2⟩
          exact ⟨q1, Or.inl q2⟩
        · rintro ⟨q1, q2 | q2⟩
          · exact ⟨q1, q2⟩
          · have : isK E (E e).1 (E e).2.1 a = true := isK_iff.mpr ⟨q2.1.symm, q2.2.symm⟩
            rw [hno] at this
            cases this
      | some w =>
        obtain ⟨hw1, p, q, hpq, hlast⟩ := lastK_split hl
        have hw2 := isK_iff.mp hw1
        show (upE E w (setSup (E w)) a).2.2.2.2.2.2 ≠ 0 ↔ _
        by_cases haw : a = w
        · subst haw
          rw [upE_self]
          constructor
          · intro _
            exact ⟨by rw [hw2.2]; exact hk, Or.inr ⟨hw2.1.symm, hw2.2.symm⟩⟩
          · intro _
            show (1 : Int32) ≠ 0
            decide
        · rw [upE_ne _ haw, hold]
          constructor
          · rintro ⟨q1, q2⟩
            exact ⟨q1, Or.inl q2⟩
          · rintro ⟨q1, q2 | q2⟩
            · exact ⟨q1, q2⟩
            · refine ⟨q1, w, ?_, hw2.1.trans q2.1, hw2.2.trans q2.2⟩
              -- w lies behind a
              have hkA : isK E (E e).1 (E e).2.1 a = true := isK_iff.mpr ⟨q2.1.symm, q2.2.symm⟩
              have haq : a ∉ q := fun z => by
                have := hlast a z
                rw [hkA] at this
                cases this
              have hsp : pre ++ a :: post' = p ++ w :: q := h1.symm.trans hpq
              rcases List.append_eq_append_iff.mp hsp with ⟨c, e1, e2⟩ | ⟨c, e1, e2⟩
              · cases c with
                | nil =>
                  simp at e2
                  exact absurd e2.1 haw
                | cons z c =>
                  simp only [List.cons_append, List.cons.injEq] at e2
                  rw [e2.2]
                  simp
              · cases c with
                | nil =>
                  simp at e2
                  exact absurd e2.1.symm haw
                | cons z c =>
                  simp only [List.cons_append, List.cons.injEq] at e2
                  exact absurd (by rw [e2.2]; simp) haq
theorem supOK_filter {E : Nat → EV} {p : Nat → Bool} {l2 : List Nat} (hp : ∀ a, p a = true → (E a).2.2.2.2.2.2 = 0) : ∀ {l1 : List Nat}, supOK E (l1 ++ l2) → supOK E (l1.filter p ++ l2) := by
  intro l1
  induction l1 with
  | nil => intro h; exact h
  | cons b r ih =>
    intro h
    have hr : supOK E (r ++ l2) := supOK_right (l1 := [b]) h
    have ih := ih hr
    by_cases hb : p b = true
    · rw [List.filter_cons_of_pos hb]
      intro pre a post e
      cases pre with
      | nil =>
        simp only [List.nil_append, List.cons_append, List.cons.injEq] at e
        obtain ⟨rfl, rfl⟩ := e
        constructor
        · intro q
          exact absurd (hp b hb) q
        · rintro ⟨q1, z, hz, q2⟩
          refine (h [] b (r ++ l2) rfl).mpr ⟨q1, z, ?_, q2⟩
          rcases List.mem_append.mp hz with h1 | h1
          · exact List.mem_append_left _ (List.mem_filter.mp h1).1
          · exact List.mem_append_right _ h1
      | cons c pre =>
        simp only [List.cons_append, List.cons.injEq] at e
        exact ih pre a post e.2
    · rw [List.filter_cons_of_neg hb]
      exact ih
end
section
/-! clean -/
theorem rmv_sub (B : Nat → BF) (el : Nat → List Nat) (ls : Int32) (L : List Nat) : (rmv B el ls L).Sublist L := by
  induction L with
  | nil => exact List.Sublist.refl _
  | cons b rest ih =>
    unfold rmv
    split
    · exact ih.cons _
    · exact ih.cons₂ _
theorem rmv_flat (B : Nat → BF) (el : Nat → List Nat) (ls : Int32) (L : List Nat) : (rmv B el ls L).flatMap el = L.flatMap el := by
  induction L with
  | nil => rfl
  | cons b rest ih =>
    unfold rmv
    split
    · rename_i c
      simp only [Bool.and_eq_true, List.isEmpty_iff] at c
      rw [ih, List.flatMap_cons, c.2.1, List.nil_append]
    · rw [List.flatMap_cons, List.flatMap_cons, ih]
theorem sum_le {el : Nat → List Nat} {L : List Nat} {b : Nat} (hb : b ∈ L) : (el b).length ≤ (L.flatMap el).length := by
  induction L with
  | nil => cases hb
  | cons a r ih =>
    rw [List.flatMap_cons, List.length_append]
    rcases List.mem_cons.mp hb with h | h
    · subst h; omega
    · have := ih h; omega
theorem elG_len (B : Nat → BF) (el : Nat → List Nat) (E : Nat → EV) (ls t : Int32) (b : Nat) : (elG B el E ls t b).length ≤ (el b).length := by
  unfold elG
  split
  · exact List.length_filter_le _ _
  · exact Nat.le_refl _
theorem elG_sub (B : Nat → BF) (el : Nat → List Nat) (E : Nat → EV) (ls t : Int32) (b : Nat) : (elG B el E ls t b).Sublist (el b) := by
  unfold elG
  split
  · exact List.filter_sublist
  · exact List.Sublist.refl _
theorem flat_len (B : Nat → BF) (el : Nat → List Nat) (E : Nat → EV) (ls t : Int32) (L : List Nat) : (L.flatMap (elG B el E ls t)).length ≤ (L.flatMap el).length := by
  induction L with
  | nil => exact Nat.le_refl _
  | cons a r ih =>
    rw [List.flatMap_cons, List.flatMap_cons, List.length_append, List.length_append]
    have := elG_len B el E ls t a
    omega
theorem flat_sub (B : Nat → BF) (el : Nat → List Nat) (E : Nat → EV) (ls t : Int32) (L : List Nat) : (L.flatMap (elG B el E ls t)).Sublist (L.flatMap el) := by
  induction L with
  | nil => exact List.Sublist.refl _
  | cons a r ih =>
    rw [List.flatMap_cons, List.flatMap_cons]
    exact (elG_sub B el E ls t a).append ih
/-- the class's count of what went, as a number -/
theorem wentG_n (B : Nat → BF) (el : Nat → List Nat) (E : Nat → EV) (ls t : Int32) (L : List Nat) : wentG B el E ls t L = nI ((L.flatMap el).length - (L.flatMap (elG B el E ls t)).length) := by
  have key : ∀ (L : List Nat) (z : Nat), L.foldl (fun z b => if (B b).2.2.2 < ls then z + (nI (el b).length - nI (elG B el E ls t b).length) else z) (nI z) = nI (z + ((L.flatMap el).length - (L.flatMap (elG B el E ls t)).length)) := by
    intro L
    induction L with
    | nil => intro z; simp
    | cons a r ih =>
      intro z
      rw [List.foldl_cons, List.flatMap_cons, List.flatMap_cons, List.length_append, List.length_append]
      have h1 := elG_len B el E ls t a
      have h2 := flat_len B el E ls t r
      by_cases c : (B a).2.2.2 < ls
      · rw [if_pos c, pk_sub h1, nI_add, ih]
        congr 1
        omega
      · rw [if_neg c, ih]
        have h3 : elG B el E ls t a = el a := if_neg c
        rw [h3]
        congr 1
        omega
  have := key L 0
  rw [nI_0, Nat.zero_add] at this
  exact this
theorem sp_clean {d : Nat → ClassId} {h : xw} {x ab pk ad : Nat} {no dc ls lf t : Int32} {LB : List Nat} {g : Nat → Option Nat} {B : Nat → BF} {el : Nat → List Nat} {E : Nat → EV} {Q : Int32 → xw → Prop} {X : String → xw → Prop} (hx : h x = some (o_L ab (nI LB.length) (nI (LB.flatMap el).length) no pk ad dc)) (hp : h pk = some (o_P ls lf)) (hab : h ab = some (xaq (d 1) 400 g)) (hg : ∀ i b, LB[i]? = some b → g i = some b) (hle : LB.length ≤ 400) (hnd : LB.Nodup)
    (hda : ∀ b ∈ LB, ∀ c ∈ LB, b ≠ c → (B b).2.2.1 ≠ (B c).2.2.1) (hna : ∀ b ∈ LB, (B b).2.2.1 ≠ ab)
    (hRB : ∀ b ∈ LB, RB d h b (B b).1 (B b).2.1 (B b).2.2.1 (B b).2.2.2 (el b)) (hE : ∀ e ∈ LB.flatMap el, h e = some (oE (E e))) (hlen : (LB.flatMap el).length ≤ 4000) {el2 : Nat → List Nat} (hel2 : el2 = elG B el E ls (t - 1000)) {L2 : List Nat} (hL2 : L2 = rmv B el2 ls LB) {m : Nat} (hm : m = (L2.takeWhile (fun b => decide ((B b).2.2.2 < ls))).length) {op : Int32} (hop : op = (((L2.take m).map (fun b => bsz E (el2 b))).foldl plc (-1, 0)).1 + 1)
    (hIA : ¬ 0 ≤ t → X IAE h)
    (hQ0 : 0 ≤ t → (LB.flatMap el).length = (L2.flatMap el2).length → L2.length = LB.length → ∀ h' g', h' x = some (o_L ab (nI L2.length) (nI (L2.flatMap el2).length) no pk ad dc) → h' ab = some (xaq (d 1) 400 g') → (∀ j b, L2[j]? = some b → g' j = some b) → (∀ b ∈ L2, RB d h' b (B b).1 (B b).2.1 (B b).2.2.1 (B b).2.2.2 (el2 b)) → (∀ a, a ∉ LB → a ∉ LB.map (fun b => (B b).2.2.1) → a ≠ x → a ≠ ab → h' a = h a) → Q 0 h')
    (hQ1 : 0 ≤ t → ¬ ((LB.flatMap el).length = (L2.flatMap el2).length ∧ L2.length = LB.length) → ∀ h' g' q (sg : Nat → Int32), h q = none → h' x = some (o_L ab (nI L2.length) (nI (L2.flatMap el2).length) no pk ad dc) → h' ab = some (xaq (d 1) 400 g') → (∀ j b, L2[j]? = some b → g' j = some b) → (∀ b ∈ L2, RB d h' b (B b).1 (B b).2.1 (B b).2.2.1 (sg b) (el2 b)) → (L2.take m).map sg = segsOf (-1, 0) ((L2.take m).map (fun b => bsz E (el2 b))) → (∀ b ∈ L2.drop m, sg b = op) → h' pk = some (o_P op lf) → (∀ a, a ∉ LB → a ∉ LB.map (fun b => (B b).2.2.1) → a ≠ x → a ≠ ab → a ≠ pk → a ≠ q → h' a = h a) → Q (nI ((LB.flatMap el).length - (L2.flatMap el2).length)) h') : wp_LogCleaner_clean d h x t Q X := by
  have hfl : L2.flatMap el2 = LB.flatMap el2 := by rw [hL2]; exact rmv_flat B el2 ls LB
  have hfle : (LB.flatMap el2).length ≤ (LB.flatMap el).length := by rw [hel2]; exact flat_len B el E ls (t - 1000) LB
  have hL2l : L2.length ≤ LB.length := by rw [hL2]; exact rmv_len B el2 ls LB
  have hsub : L2.Sublist LB := by rw [hL2]; exact rmv_sub B el2 ls LB
  rw [hfl] at hQ0 hQ1
  unfold wp_LogCleaner_clean
  refine ⟨fun c => ?_, fun c => hIA c⟩
  have obj_na : ∀ a o, h a = some (.inr o) → a ∉ LB.map (fun b => (B b).2.2.1) := fun a o ha q => by
    obtain ⟨b, hb, rfl⟩ := List.mem_map.mp q
    obtain ⟨-, cap, g2, h2, -⟩ := hRB b hb
    exact absurd rfl (ne_oe_arr ha h2)
  have hpn : pk ∉ LB := fun q => absurd rfl (ne_obj (hRB pk q).1 hp B_ne_P)
  have hpx : pk ≠ x := Ne.symm (ne_obj hx hp L_ne_P)
  have habn : ab ∉ LB := fun q => absurd rfl (ne_oe_arr (hRB ab q).1 hab)
  have haba : ab ∉ LB.map (fun b => (B b).2.2.1) := fun q => by
    obtain ⟨b, hb, e⟩ := List.mem_map.mp q
    exact hna b hb e
  have habx : ab ≠ x := Ne.symm (ne_oe_arr hx hab)
  refine is_L hx ?_
  refine sp_removeGoneRecords hx hp hab hg hle hnd hda hna hRB hE (fun h1 h1x h1B h1o => ?_)
  rw [← hel2] at h1B
  rw [wentG_n, ← hel2] at h1x ⊢
  rw [pk_sub (by omega), show (LB.flatMap el).length - ((LB.flatMap el).length - (LB.flatMap el2).length) = (LB.flatMap el2).length by omega] at h1x
  have h1p : h1 pk = some (o_P ls lf) := (h1o pk hpn (obj_na pk _ hp) hpx).trans hp
  have h1ab : h1 ab = some (xaq (d 1) 400 g) := (h1o ab habn haba habx).trans hab
  refine is_L h1x ?_
  refine sp_removeEmptied (el := el2) (B := B) h1x h1p h1ab hg hle (fun b hb => ?_) (fun g' hg' => ?_)
  · obtain ⟨r1, cap, g2, r2, r3, r4, r5⟩ := h1B b hb
    exact ⟨by omega, r1⟩
  rw [← hL2] at hg' ⊢
  generalize hh2 : xup (xup h1 ab (xaq (d 1) 400 g')) x (o_L ab (nI L2.length) (nI (LB.flatMap el2).length) no pk ad dc) = h2
  have h2x : h2 x = some (o_L ab (nI L2.length) (nI (LB.flatMap el2).length) no pk ad dc) := by rw [← hh2]; exact xup_self _ _ _
  have h2ab : h2 ab = some (xaq (d 1) 400 g') := by rw [← hh2, xup_ne _ _ habx]; exact xup_self _ _ _
  have h2o : ∀ a, a ≠ x → a ≠ ab → h2 a = h1 a := fun a n1 n2 => by rw [← hh2, xup_ne _ _ n1, xup_ne _ _ n2]
  have h2B : ∀ b ∈ L2, RB d h2 b (B b).1 (B b).2.1 (B b).2.2.1 (B b).2.2.2 (el2 b) := fun b hb => by
    have hb1 := h1B b (hsub.subset hb)
    obtain ⟨r1, cap, g2, r2, r3⟩ := hb1
    refine RB.congr ⟨r1, cap, g2, r2, r3⟩ ?_ ?_
    · exact h2o b (ne_obj r1 h1x B_ne_L) (ne_oe_arr r1 h1ab)
    · exact h2o _ (Ne.symm (ne_oe_arr h1x r2)) (hna b (hsub.subset hb))
  have h2rest : ∀ a, a ∉ LB → a ∉ LB.map (fun b => (B b).2.2.1) → a ≠ x → a ≠ ab → h2 a = h a := fun a n1 n2 n3 n4 => (h2o a n3 n4).trans (h1o a n1 n2 n3)
  have packs : ¬ ((LB.flatMap el).length = (LB.flatMap el2).length ∧ L2.length = LB.length) → wb_LogCleaner_clean_37 d Q X x (nI ((LB.flatMap el).length - (LB.flatMap el2).length)) h2 := fun hch => by
    refine is_L h2x ?_
    have h2p : h2 pk = some (o_P ls lf) := (h2rest pk hpn (obj_na pk _ hp) hpx (ne_oe_arr hp hab)).trans hp
    have h2E : ∀ e ∈ L2.flatMap el2, h2 e = some (oE (E e)) := fun e he => by
      rw [hfl] at he
      have he2 : e ∈ LB.flatMap el := by
        rw [hel2] at he
        exact (flat_sub B el E ls (t - 1000) LB).subset he
      have h3 := hE e he2
      rw [h2rest e (fun q => absurd rfl (ne_obj (hRB e q).1 h3 (Ne.symm E_ne_B))) (obj_na e _ h3) (ne_obj h3 hx E_ne_L) (ne_oe_arr h3 hab)]
      exact h3
    refine sp_pack (B := B) (el := el2) (E := E) h2x h2p h2ab hg' (by omega) (hsub.nodup hnd) h2B h2E hm hop (fun h3 q sg hq k1 k2 k3 k4 k5 => ?_)
    have hq0 : ∀ a o, h2 a = some o → a ≠ q := fun a o ha e => by subst e; rw [hq] at ha; cases ha
    have hqh : h q = none := by
      cases hh : h q with
      | none => rfl
      | some o =>
        -- all that was there is there
        exfalso
        by_cases q1 : q ∈ LB
        · have r1 := (h1B q q1).1
          exact hq0 q _ ((h2o q (ne_obj r1 h1x B_ne_L) (ne_oe_arr r1 h1ab)).trans r1) rfl
        · by_cases q2 : q ∈ LB.map (fun b => (B b).2.2.1)
          · obtain ⟨b, hb, e⟩ := List.mem_map.mp q2
            obtain ⟨-, cap, g2, r2, -⟩ := h1B b hb
            have e : (B b).2.2.1 = q := e
            rw [e] at r2
            exact hq0 q _ ((h2o q (Ne.symm (ne_oe_arr h1x r2)) (by rw [← e]; exact hna b hb)).trans r2) rfl
          · by_cases q3 : q = x
            · exact hq0 q _ (by rw [q3]; exact h2x) rfl
            · by_cases q4 : q = ab
              · exact hq0 q _ (by rw [q4]; exact h2ab) rfl
              · exact hq0 q o ((h2rest q q1 q2 q3 q4).trans hh) rfl
    have nL2 : ∀ a, a ∉ LB → a ∉ L2 := fun a n q2 => n (hsub.subset q2)
    have hxL : x ∉ L2 := fun q2 => absurd rfl (ne_obj (h2B x q2).1 h2x B_ne_L)
    have habL : ab ∉ L2 := fun q2 => absurd rfl (ne_oe_arr (h2B ab q2).1 h2ab)
    refine hQ1 c hch h3 g' q sg hqh ?_ ?_ hg' (fun b hb => ?_) k2 k3 k4 (fun a n1 n2 n3 n4 n5 n6 => ?_)
    · rw [k5 x hxL (Ne.symm hpx) (hq0 _ _ h2x)]; exact h2x
    · rw [k5 ab habL (Ne.symm (ne_oe_arr hp hab)) (hq0 _ _ h2ab)]; exact h2ab
    · obtain ⟨r1, cap, g2, r2, r3⟩ := h2B b hb
      refine ⟨k1 b hb, cap, g2, ?_, r3⟩
      rw [k5 _ (fun q2 => absurd rfl (ne_oe_arr (h2B _ q2).1 r2)) (Ne.symm (ne_oe_arr h2p r2)) (hq0 _ _ r2)]
      exact r2
    · rw [k5 a (nL2 a n1) n5 n6]
      exact h2rest a n1 n2 n3 n4
  have hw4 : (LB.flatMap el).length - (LB.flatMap el2).length ≤ 4000 := by omega
  refine ⟨fun c2 => ?_, fun c2 => ?_⟩
  · refine packs (fun q => ?_)
    rw [q.1, Nat.sub_self, nI_0] at c2
    exact absurd c2 (by decide)
  · have hz : (LB.flatMap el).length - (LB.flatMap el2).length = 0 := by
      rcases Nat.eq_zero_or_pos ((LB.flatMap el).length - (LB.flatMap el2).length) with q | q
      · exact q
      · exfalso
        apply c2
        rw [← nI_0]
        exact nI_lt q (by omega)
    refine ⟨fun c3 => ?_, fun c3 => ?_⟩
    · have hl2 : L2.length = LB.length := by
        rw [pk_sub hL2l, ← nI_0] at c3
        have := (nI_leI (by omega) (by omega)).mp c3
        omega
      rw [hz, nI_0]
      exact hQ0 c (by omega) hl2 h2 g' h2x h2ab hg' h2B h2rest
    · refine packs (fun q => ?_)
      rw [pk_sub hL2l, q.2, Nat.sub_self, nI_0] at c3
      exact absurd (by decide) c3
end
