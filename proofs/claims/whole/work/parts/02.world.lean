/-! THE WORLD AS A MAP: address ↦ content. One pool of all objects and arrays; no parts, no joins. -/
abbrev xw : Type := Nat → Option va_E
def xup (h : xw) (a : Nat) (o : va_E) : xw := fun b => if b = a then some o else h b
theorem xup_self (h : xw) (a : Nat) (o : va_E) : xup h a o a = some o := if_pos rfl
theorem xup_ne (h : xw) {a b : Nat} (o : va_E) (hn : b ≠ a) : xup h a o b = h b := if_neg hn
def xP (D : va_G) (A : Nat → Prop) (h : xw) (H : Heap) : Prop :=
  ∃ (L : List Nat) (f : Nat → va_E), (∀ a o, h a = some o → a ∈ L ∧ f a = o) ∧ va_P D vwCl (va_pl L f) H ∧ va_D A (va_pl L f)
def xA (h : xw) (sz : Nat) : Nat → Prop := fun q => h q ≠ none ∨ sz ≤ q
theorem xP.weaken {D : va_G} {A B : Nat → Prop} {h : xw} {H : Heap} (hP : xP D A h H) (hAB : ∀ q, A q → B q) : xP D B h H := by
  obtain ⟨L, f, h1, h2, h3⟩ := hP
  exact ⟨L, f, h1, h2, h3.1, fun k q hk => hAB _ (h3.2 k q hk)⟩
theorem xpl_get {L : List Nat} {f : Nat → va_E} {a : Nat} (h : a ∈ L) : ∃ k : Nat, (va_pl L f)[k]? = some (a, f a) := by
  obtain ⟨k, hk⟩ := va_pl_get (X := []) (f := f) h
  exact ⟨k, hk⟩
theorem xpl_mem {L : List Nat} {f : Nat → va_E} {k : Nat} {q : Nat × va_E} (h : (va_pl L f)[k]? = some q) : q.1 ∈ L ∧ q.2 = f q.1 := by
  obtain ⟨a, ha, rfl⟩ := List.mem_map.mp (List.mem_of_getElem? h)
  exact ⟨ha, rfl⟩
theorem xP.at {D : va_G} {A : Nat → Prop} {h : xw} {H : Heap} (hP : xP D A h H) {a : Nat} {o : va_E} (ha : h a = some o) : va_at D vwCl (a, o) H ∧ A a := by
  obtain ⟨L, f, h1, h2, h3⟩ := hP
  obtain ⟨hm, hf⟩ := h1 a o ha
  obtain ⟨k, hk⟩ := xpl_get (f := f) hm
  rw [hf] at hk
  exact ⟨h2 k _ hk, h3.2 k _ hk⟩
theorem xP.lt {D : va_G} {A : Nat → Prop} {h : xw} {H : Heap} (hP : xP D A h H) {a : Nat} (ha : h a ≠ none) : a < H.size ∧ A a := by
  cases hh : h a with
  | none => exact absurd hh ha
  | some o => exact ⟨(hP.at hh).1.lt, (hP.at hh).2⟩
/-- a list of cells of the map -/
theorem xP.sub {D : va_G} {A : Nat → Prop} {h h' : xw} {H : Heap} (hP : xP D A h H) (hs : ∀ a o, h' a = some o → h a = some o) : xP D A h' H := by
  obtain ⟨L, f, h1, h2, h3⟩ := hP
  exact ⟨L, f, fun a o ha => h1 a o (hs a o ha), h2, h3⟩
theorem xP.self {D : va_G} {A : Nat → Prop} {h : xw} {H : Heap} (hP : xP D A h H) : xP D (xA h H.size) h H := by
  obtain ⟨L, f, h1, h2, h3⟩ := hP
  obtain ⟨g, hg⟩ : ∃ g : Nat → Bool, ∀ a, g a = true ↔ h a ≠ none := ⟨fun a => (h a).isSome, fun a => by cases hh : h a <;> simp [hh]⟩
  have hnd : L.Nodup := by
    refine List.pairwise_iff_getElem.mpr (fun i j hi hj hij he => ?_)
    have e1 : (va_pl L f)[i]? = some (L[i], f L[i]) := by simp [va_pl, hi]
    have e2 : (va_pl L f)[j]? = some (L[j], f L[j]) := by simp [va_pl, hj]
    exact absurd (h3.1 i j _ _ e1 e2 he) (by omega)
  have hnd2 : (L.filter g).Nodup := hnd.filter _
  refine ⟨L.filter g, f, fun a o ha => ⟨List.mem_filter.mpr ⟨(h1 a o ha).1, (hg a).mpr (by rw [ha]; simp)⟩, (h1 a o ha).2⟩, fun k q hk => ?_, fun i j x y hi hj hxy => ?_, fun k q hk => ?_⟩
  · obtain ⟨m1, m2⟩ := xpl_mem hk
    obtain ⟨k2, hk2⟩ := xpl_get (f := f) (List.mem_filter.mp m1).1
    have : q = (q.1, f q.1) := by rw [← m2]
    rw [this]
    exact h2 k2 _ hk2
  · have l1 : i < (L.filter g).length := by have := (List.getElem?_eq_some_iff.mp hi).1; simpa [va_pl] using this
    have l2 : j < (L.filter g).length := by have := (List.getElem?_eq_some_iff.mp hj).1; simpa [va_pl] using this
    have e1 : x.1 = (L.filter g)[i] := by
      have h9 : (va_pl (L.filter g) f)[i]? = some ((L.filter g)[i], f (L.filter g)[i]) := by simp [va_pl, l1]
      rw [h9] at hi
      cases hi
      rfl
    have e2 : y.1 = (L.filter g)[j] := by
      have h9 : (va_pl (L.filter g) f)[j]? = some ((L.filter g)[j], f (L.filter g)[j]) := by simp [va_pl, l2]
      rw [h9] at hj
      cases hj
      rfl
    rw [e1, e2] at hxy
    exact (List.getElem_inj hnd2).mp hxy
  · obtain ⟨m1, -⟩ := xpl_mem hk
    exact Or.inl ((hg _).mp (List.mem_filter.mp m1).2)
theorem xpl_set {A : Nat → Prop} {L : List Nat} {f : Nat → va_E} {a k : Nat} {e : va_E} (hD : va_D A (va_pl L f)) (h : a ∈ L) (hk : (va_pl L f)[k]? = some (a, f a)) : (va_pl L f).set k (a, e) = va_pl L (va_up f a e) := va_pl_set (X := []) hD h hk
/-- behind a store -/
theorem xP_set {D : va_G} {A : Nat → Prop} {h : xw} {L : List Nat} {f : Nat → va_E} {H1 : Heap} {a k : Nat} {o o' : va_E} (h1 : ∀ a o, h a = some o → a ∈ L ∧ f a = o) (hD : va_D A (va_pl L f)) (ha : h a = some o) (hk : (va_pl L f)[k]? = some (a, o))
    (hP' : va_P D vwCl ((va_pl L f).set k (a, o')) H1) (hD' : va_D A ((va_pl L f).set k (a, o'))) : xP D A (xup h a o') H1 := by
  obtain ⟨hm, hf⟩ := h1 a o ha
  have e := xpl_set (e := o') hD hm (by rw [hf]; exact hk)
  rw [e] at hP' hD'
  refine ⟨L, va_up f a o', fun b z hz => ?_, hP', hD'⟩
  by_cases hb : b = a
  · subst hb
    rw [xup_self] at hz
    cases hz
    exact ⟨hm, va_up_self _ _ _⟩
  · rw [xup_ne _ _ hb] at hz
    rw [va_up_ne _ _ hb]
    exact h1 b z hz
/-- behind a making -/
theorem xP_push {D : va_G} {A : Nat → Prop} {h : xw} {L : List Nat} {f : Nat → va_E} {H1 : Heap} {q : Nat} {o : va_E} (h1 : ∀ a o, h a = some o → a ∈ L ∧ f a = o)
    (hP' : va_P D vwCl (va_pl L f ++ [(q, o)]) H1) (hD' : va_D A (va_pl L f ++ [(q, o)])) : h q = none ∧ xP D A (xup h q o) H1 := by
  have hq : q ∉ L := va_pl_fresh2 (X := []) hD'
  have e : va_pl L f ++ [(q, o)] = va_pl (L ++ [q]) (va_up f q o) := va_pl_push hq
  rw [e] at hP' hD'
  refine ⟨?_, L ++ [q], va_up f q o, fun b z hz => ?_, hP', hD'⟩
  · cases hh : h q with
    | none => rfl
    | some z => exact absurd (h1 q z hh).1 hq
  · by_cases hb : b = q
    · subst hb
      rw [xup_self] at hz
      cases hz
      exact ⟨List.mem_append_right _ (List.mem_singleton.mpr rfl), va_up_self _ _ _⟩
    · rw [xup_ne _ _ hb] at hz
      rw [va_up_ne _ _ hb]
      exact ⟨List.mem_append_left _ (h1 b z hz).1, (h1 b z hz).2⟩
theorem xA_sub {D : va_G} {A : Nat → Prop} {h : xw} {H H0 : Heap} {locs : List Loc} (hP : xP D A h H) (hS : va_S A H0 H locs) (hA : ∀ q, H0.size ≤ q → A q) : ∀ q, xA h H.size q → A q := by
  intro q hq
  rcases hq with hq | hq
  · exact (hP.lt hq).2
  · exact hA q (Nat.le_trans hS.1 hq)
/-- cells of other kinds than σ stay as they were at h0 -/
def xfr (σ : va_E → Prop) (h0 h : xw) : Prop := ∀ a o, h0 a = some o → ¬ σ o → h a = some o
theorem xfr.rf {σ : va_E → Prop} {h : xw} : xfr σ h h := fun _ _ h1 _ => h1
theorem xfr.tr {σ : va_E → Prop} {h0 h1 h2 : xw} (a : xfr σ h0 h1) (b : xfr σ h1 h2) : xfr σ h0 h2 := fun x o h n => b x o (a x o h n) n
theorem xfr.set {σ : va_E → Prop} {h0 h : xw} {a : Nat} {o o' : va_E} (hf : xfr σ h0 h) (ha : h a = some o) (ho : σ o) : xfr σ h0 (xup h a o') := fun x z hx hz => by
  have h1 := hf x z hx hz
  have hne : x ≠ a := fun e => by
    subst e
    rw [ha] at h1
    cases h1
    exact hz ho
  rw [xup_ne _ _ hne]
  exact h1
theorem xfr.push {σ : va_E → Prop} {h0 h : xw} {a : Nat} {o' : va_E} (hf : xfr σ h0 h) (ha : h a = none) : xfr σ h0 (xup h a o') := fun x z hx hz => by
  have h1 := hf x z hx hz
  have hne : x ≠ a := fun e => by
    subst e
    rw [ha] at h1
    cases h1
  rw [xup_ne _ _ hne]
  exact h1
/-- the world of a walk that began at h0 and changes cells of the kinds σ alone -/
def xR (σ : va_E → Prop) (h0 : xw) (D : va_G) (A : Nat → Prop) (h : xw) (H : Heap) : Prop := xP D A h H ∧ xfr σ h0 h

/-! WHAT A STEP ASKS AND GIVES, over the map -/
def wgI (h : xw) (a ci k : Nat) (K : Int32 → Prop) : Prop := ∃ fs v, h a = some (.inr (ci, fs)) ∧ fs[k]? = some (Value.int v) ∧ K v
def wgL (h : xw) (a ci k : Nat) (K : Int64 → Prop) : Prop := ∃ fs v, h a = some (.inr (ci, fs)) ∧ fs[k]? = some (Value.long v) ∧ K v
def wgA (h : xw) (a ci k : Nat) (K : Option Nat → Prop) : Prop := ∃ fs r, h a = some (.inr (ci, fs)) ∧ fs[k]? = some (va_rf r) ∧ K r
def wpF (h : xw) (a ci k : Nat) (v : Value) (K : xw → Prop) : Prop := ∃ fs, h a = some (.inr (ci, fs)) ∧ k < fs.length ∧ K (xup h a (.inr (ci, fs.set k v)))
def wpZ (h : xw) (a ci k : Nat) (v : Int32) (K : xw → Prop) : Prop := (v = 0 ∨ v = 1) ∧ ∃ fs, h a = some (.inr (ci, fs)) ∧ k < fs.length ∧ K (xup h a (.inr (ci, fs.set k (.int v))))
/-- a reference that isn't null -/
abbrev wnn (r : Option Nat) (K : Nat → Prop) : Prop := ∃ a, r = some a ∧ K a
abbrev wIs (h : xw) (a ci : Nat) (P : Prop) : Prop := (∃ fs, h a = some (.inr (ci, fs))) ∧ P
abbrev wIf (c : Prop) (P Q : Prop) : Prop := (c → P) ∧ (¬ c → Q)
abbrev xaq (cA : ClassId) (n : Nat) (g : Nat → Option Nat) : va_E := .inl (cA, n, .inr (.inr (.inr (.inr g))))
abbrev xai (cA : ClassId) (n : Nat) (g : Nat → Int32) : va_E := .inl (cA, n, .inl g)
abbrev xal (cA : ClassId) (n : Nat) (g : Nat → Int64) : va_E := .inl (cA, n, .inr (.inl g))
def wlen (h : xw) (a : Nat) (cA : ClassId) (K : Int32 → Prop) : Prop := ∃ x, h a = some (.inl (cA, x)) ∧ K (Int32.ofNat x.1)
def wldq (h : xw) (a : Nat) (cA : ClassId) (i : Int32) (K : Option Nat → Prop) : Prop := ∃ n g, h a = some (xaq cA n g) ∧ vp_in i n ∧ K (g i.toNatClampNeg)
def wldi (h : xw) (a : Nat) (cA : ClassId) (i : Int32) (K : Int32 → Prop) : Prop := ∃ n g, h a = some (xai cA n g) ∧ vp_in i n ∧ K (g i.toNatClampNeg)
def wldl (h : xw) (a : Nat) (cA : ClassId) (i : Int32) (K : Int64 → Prop) : Prop := ∃ n g, h a = some (xal cA n g) ∧ vp_in i n ∧ K (g i.toNatClampNeg)
/-- the stored reference is null or an object of class ci -/
def wstq (h : xw) (a : Nat) (cA : ClassId) (ci : Nat) (i : Int32) (r : Option Nat) (K : xw → Prop) : Prop := ∃ n g, h a = some (xaq cA n g) ∧ vp_in i n ∧ (∀ b, r = some b → ∃ fs, h b = some (.inr (ci, fs))) ∧ K (xup h a (xaq cA n (va_up g i.toNatClampNeg r)))
def wsti (h : xw) (a : Nat) (cA : ClassId) (i : Int32) (x : Int32) (K : xw → Prop) : Prop := ∃ n g, h a = some (xai cA n g) ∧ vp_in i n ∧ K (xup h a (xai cA n (upd g i.toNatClampNeg x)))
def wstz (h : xw) (a : Nat) (cA : ClassId) (i : Int32) (x : Int32) (K : xw → Prop) : Prop := (x = 0 ∨ x = 1) ∧ ∃ n g, h a = some (xai cA n g) ∧ vp_in i n ∧ K (xup h a (xai cA n (upd g i.toNatClampNeg x)))
def wstl (h : xw) (a : Nat) (cA : ClassId) (i : Int32) (x : Int64) (K : xw → Prop) : Prop := ∃ n g, h a = some (xal cA n g) ∧ vp_in i n ∧ K (xup h a (xal cA n (vp_updL g i.toNatClampNeg x)))
def wnew (h : xw) (o : va_E) (K : Nat → xw → Prop) : Prop := ∀ q, h q = none → K q (xup h q o)
/-- a new array of at most B places -/
def wnewA (h : xw) (B : Nat) (n : Int32) (o : Nat → va_E) (K : Nat → xw → Prop) : Prop := ¬ n < 0 ∧ n.toNatClampNeg ≤ B ∧ ∀ q, h q = none → K q (xup h q (o n.toNatClampNeg))
abbrev wNul (r : Option Nat) (P : Prop) (K : Nat → Prop) : Prop := (r = none → P) ∧ ∀ a, r = some a → K a
abbrev wZ (v : Int32) (P : Prop) : Prop := (v = 0 ∨ v = 1) ∧ P
/-- a loop that ends: n turns are enough -/
def xloop {α : Type} (F : (α → xw → Prop) → α → xw → Prop) : Nat → α → xw → Prop
  | 0 => fun _ _ => False
  | n + 1 => F (xloop F n)
def wLoop {α : Type} (F : (α → xw → Prop) → α → xw → Prop) (x : α) (h : xw) : Prop := ∃ n, xloop F n x h
theorem wLoop_ind {α : Type} {F : (α → xw → Prop) → α → xw → Prop} (I : α → xw → Prop) (μ : α → xw → Nat)
    (hs : ∀ (x : α) (h : xw) (k : α → xw → Prop), I x h → (∀ x' h', I x' h' → μ x' h' < μ x h → k x' h') → F k x h) (x : α) (h : xw) (hi : I x h) : wLoop F x h := by
  have key : ∀ (n : Nat) (x : α) (h : xw), I x h → μ x h < n → xloop F n x h := by
    intro n
    induction n with
    | zero => intro x h _ h2; exact absurd h2 (Nat.not_lt_zero _)
    | succ n ih =>
      intro x h h1 h2
      exact hs x h _ h1 (fun x' h' i' m' => ih x' h' i' (by omega))
  exact ⟨μ x h + 1, key _ x h hi (Nat.lt_succ_self _)⟩
theorem xsw {x y : Int32} {n : Int} (h : x.toInt = n) (hy : y.toInt = n) : x = y := Int32.toInt_inj.mp (h.trans hy.symm)
theorem xcat (x : Option Nat) : (va_rf x).category = 1 := by cases x <;> rfl
theorem xnar (C : String) (x : Option Nat) : narrow (.object C) (va_rf x) = va_rf x := by cases x <;> rfl
def TYS (d : Nat → ClassId) : List (ClassId × FieldType) := xtys.zipIdx.map (fun q => (d q.2, q.1))
abbrev xB (D : va_G) (d : Nat → ClassId) (A : Nat → Prop) : xw → State → Prop := fun u t => xP D A u t.heap ∧ va_K D vwCl (TYS d) t
def xX (X : String → xw → Prop) (D : va_G) (d : Nat → ClassId) (A : Nat → Prop) : String → State → State → Prop := vx_X (fun _ : xw => True) (fun E u t => X E u ∧ xB D d A u t) A
/-- words that are carried by hand: calls across the nest, casts of exceptions -/
def xN (U : State) : Prop := (∀ w ∈ NB, va_Nw w U) ∧ ∀ C ∈ ["LogCleaner$Batch", "LogCleaner$Entry"], va_AO C U
theorem xN.warm {s U : State} (hW : s.WarmedH U.vm) (h : xN s) : xN U := ⟨fun w hw => NB_warm hW w hw (h.1 w hw), fun C hC => va_AO.moved hW.alike (h.2 C hC)⟩
theorem xN.same {s U : State} (hv : s.vm = U.vm) (h : xN s) : xN U := ⟨fun w hw => va_Nw.same (NB_tabs w hw) hv (h.1 w hw), fun C hC => va_AO.moved (hv ▸ Vm.Alike.refl s.vm) (h.2 C hC)⟩
def xPre (D : va_G) (d : Nat → ClassId) (h : xw) (av : List Value) (sz : Nat) : Array Value → State → Prop := va_Pc av (fun U => U.heap.size = sz ∧ xP D (fun _ => True) h U.heap ∧ va_K D vwCl (TYS d) U ∧ xN U)
theorem xPre_blind {D : va_G} {d : Nat → ClassId} {h : xw} {av : List Value} {sz : Nat} : FrameBlind (xPre D d h av sz) := fun a U g mk q => by
  obtain ⟨q0, q1, qP, qK, qN⟩ := q
  exact ⟨q0, q1, qP, va_K.moved (u := U) (U := U.calling g mk a) (Vm.Alike.refl U.vm) qK, xN.same (s := U) (U := U.calling g mk a) rfl qN⟩
section XROWS
variable {p : Program} {l : Launch} {e : Env} {R : Room} {s : State} {m : MethodId} {args : Array Value} {below : List Frame} {meth : Method} {c : Code} {H : Heap} {locs : List Loc} {cells slots : Nat} {Q : State → Prop}
variable {cc : ByteArray} {pc : Nat} {ls : Array Slot} {rest : List Value} {D : va_G} {d : Nat → ClassId} {A : Nat → Prop} {a : Nat} {H0 : Heap} {h h0 : xw} {σ : va_E → Prop} {tys : List (ClassId × FieldType)}
theorem xpreV (hP : xR σ h0 D A h H) (hK : va_K D vwCl (TYS d) s) (hNB : xN s) {ci b : Nat} {r : vw_C} {fs : List Value} {As : List Value} (hc : vwCl[ci]? = some r) (hh : h b = some (.inr (ci, fs))) : PreV s H r.1 b (xPre D d h (.ref b :: As) H.size) As := by
  obtain ⟨r', h1, cell, g1, g2, g3, -⟩ := (hP.1.at hh).1
  refine ⟨xPre_blind, ⟨cell, g1, by rw [g3]; rfl, by rw [g2]; exact (hK.1 ci r hc).2.1⟩, fun U hU hW => ⟨rfl, by rw [hU], by rw [hU]; exact hP.1.weaken (fun _ _ => trivial), va_K.moved hW.alike hK, hNB.warm hW⟩⟩
theorem xpreI (hP : xR σ h0 D A h H) (hK : va_K D vwCl (TYS d) s) (hNB : xN s) {As : List Value} : PreS s H (xPre D d h As H.size) As :=
  ⟨xPre_blind, fun U hU hW => ⟨rfl, by rw [hU], by rw [hU]; exact hP.1.weaken (fun _ _ => trivial), va_K.moved hW.alike hK, hNB.warm hW⟩⟩
/-- references that may be null, carried as they are -/
theorem xv_aload_n (hexec : p.tables.exec = Jvm.exec) (hb : c.code = cc) {k : Fin 4} {i : Nat} {x : Option Nat} (hdg : decode cc pc = .ok (.aload_n k, 1)) (hi : (k : Nat) = i) (hl : ls[i]? = some (.val (va_rf x)))
    (k9 : W p l e R s m args below meth c H locs cells slots Q (F0 m (pc + 1) ls (va_rf x :: rest))) : W p l e R s m args below meth c H locs cells slots Q (F0 m pc ls rest) := by
  cases x with
  | none => exact lv_aload_nN hexec hb hdg hi hl k9
  | some a => exact lv_aload_n hexec hb hdg hi hl k9
theorem xv_aload (hexec : p.tables.exec = Jvm.exec) (hb : c.code = cc) {i : Nat} {x : Option Nat} (hdg : decode cc pc = .ok (.aload i, 2)) (hl : ls[i]? = some (.val (va_rf x)))
    (k9 : W p l e R s m args below meth c H locs cells slots Q (F0 m (pc + 2) ls (va_rf x :: rest))) : W p l e R s m args below meth c H locs cells slots Q (F0 m pc ls rest) := by
  cases x with
  | none => exact lv_aloadN hexec hb hdg hl k9
  | some a => exact lv_aload hexec hb hdg hl k9
theorem xv_astore_n (hexec : p.tables.exec = Jvm.exec) (hb : c.code = cc) {k : Fin 4} {i nL : Nat} {x : Option Nat} {lv lv' : List (Nat × Value)} (hdg : decode cc pc = .ok (.astore_n k, 1)) (hi : (k : Nat) = i) (hh : lv_has ls nL lv) (hn : i < nL) (hl : (i, va_rf x) :: lv.filter (fun q => !(q.1 == i) && !(q.1 + 1 == i && q.2.category == 2)) = lv')
    (kk : ∀ ls' : Array Slot, lv_has ls' nL lv' → W p l e R s m args below meth c H locs cells slots Q (F0 m (pc + 1) ls' rest)) : W p l e R s m args below meth c H locs cells slots Q (F0 m pc ls (va_rf x :: rest)) := by
  cases x with
  | none => exact lv_astore_nN hexec hb hdg hi hh hn hl kk
  | some a => exact lv_astore_n hexec hb hdg hi hh hn hl kk
theorem xv_astore (hexec : p.tables.exec = Jvm.exec) (hb : c.code = cc) {i nL : Nat} {x : Option Nat} {lv lv' : List (Nat × Value)} (hdg : decode cc pc = .ok (.astore i, 2)) (hh : lv_has ls nL lv) (hn : i < nL) (hl : (i, va_rf x) :: lv.filter (fun q => !(q.1 == i) && !(q.1 + 1 == i && q.2.category == 2)) = lv')
    (kk : ∀ ls' : Array Slot, lv_has ls' nL lv' → W p l e R s m args below meth c H locs cells slots Q (F0 m (pc + 2) ls' rest)) : W p l e R s m args below meth c H locs cells slots Q (F0 m pc ls (va_rf x :: rest)) := by
  cases x with
  | none => exact lv_astoreN hexec hb hdg hh hn hl kk
  | some a => exact lv_astore hexec hb hdg hh hn hl kk
theorem xv_null (hexec : p.tables.exec = Jvm.exec) (hb : c.code = cc) (hdg : decode cc pc = .ok (.aconst_null, 1)) (k : W p l e R s m args below meth c H locs cells slots Q (F0 m (pc + 1) ls (va_rf none :: rest))) : W p l e R s m args below meth c H locs cells slots Q (F0 m pc ls rest) := lv_null hexec hb hdg k
/-- fields -/
theorem xgetV (hexec : p.tables.exec = Jvm.exec) (hb : c.code = cc) {own ref C : String} {T : u_T} {N ci index : Nat} {Ts : List Cond} (hts : ∀ w ∈ Ts, w.before args s = true) (hin : ∀ w ∈ u_ws C T N, w ∈ Ts) (hown : s.vm.findClass own = some m.cls) (hK : va_K D vwCl tys s) (hP : xR σ h0 D A h H) (hc : vwCl[ci]? = some (C, T, N)) (k : Nat) (hk : k < N) (hlink : (Cond.fieldLink own index ref (T k).2.1 (T k).2.2.1).before args s = true) (hsame : ∀ x, s.fieldFound? (T k).1 (T k).2.1 (T k).2.2.1 = some x → s.fieldFound? ref (T k).2.1 (T k).2.2.1 = some x) {fs : List Value} {v : Value} (h1 : h a = some (.inr (ci, fs))) (h2 : fs[k]? = some v) (hdg : decode cc pc = .ok (.getfield index, 3))
    (kk : W p l e R s m args below meth c H locs cells slots Q (F0 m (pc + 3) ls (v :: rest))) : W p l e R s m args below meth c H locs cells slots Q (F0 m pc ls (.ref a :: rest)) := by
  obtain ⟨⟨L, f, q1, q2, q3⟩, hF⟩ := id hP
  obtain ⟨hm, hf⟩ := q1 a _ h1
  obtain ⟨k0, hk0⟩ := xpl_get (f := f) hm
  rw [hf] at hk0
  exact va_get hexec hb hts hin hown hK q2 k0 hk0 hc k hk hlink hsame h2 hdg kk
theorem xgetI (hexec : p.tables.exec = Jvm.exec) (hb : c.code = cc) {own ref C : String} {T : u_T} {N ci index : Nat} {Ts : List Cond} (hts : ∀ w ∈ Ts, w.before args s = true) (hin : ∀ w ∈ u_ws C T N, w ∈ Ts) (hown : s.vm.findClass own = some m.cls) (hK : va_K D vwCl tys s) (hP : xR σ h0 D A h H) (hc : vwCl[ci]? = some (C, T, N)) (k : Nat) (hk : k < N) (hlink : (Cond.fieldLink own index ref (T k).2.1 (T k).2.2.1).before args s = true) (hsame : ∀ x, s.fieldFound? (T k).1 (T k).2.1 (T k).2.2.1 = some x → s.fieldFound? ref (T k).2.1 (T k).2.2.1 = some x) {Kw : Int32 → Prop} (hw : wgI h a ci k Kw) (hdg : decode cc pc = .ok (.getfield index, 3))
    (kk : ∀ v, Kw v → W p l e R s m args below meth c H locs cells slots Q (F0 m (pc + 3) ls (.int v :: rest))) : W p l e R s m args below meth c H locs cells slots Q (F0 m pc ls (.ref a :: rest)) := by
  obtain ⟨fs, v, h1, h2, h3⟩ := hw
  exact xgetV hexec hb hts hin hown hK hP hc k hk hlink hsame h1 h2 hdg (kk v h3)
theorem xgetL (hexec : p.tables.exec = Jvm.exec) (hb : c.code = cc) {own ref C : String} {T : u_T} {N ci index : Nat} {Ts : List Cond} (hts : ∀ w ∈ Ts, w.before args s = true) (hin : ∀ w ∈ u_ws C T N, w ∈ Ts) (hown : s.vm.findClass own = some m.cls) (hK : va_K D vwCl tys s) (hP : xR σ h0 D A h H) (hc : vwCl[ci]? = some (C, T, N)) (k : Nat) (hk : k < N) (hlink : (Cond.fieldLink own index ref (T k).2.1 (T k).2.2.1).before args s = true) (hsame : ∀ x, s.fieldFound? (T k).1 (T k).2.1 (T k).2.2.1 = some x → s.fieldFound? ref (T k).2.1 (T k).2.2.1 = some x) {Kw : Int64 → Prop} (hw : wgL h a ci k Kw) (hdg : decode cc pc = .ok (.getfield index, 3))
    (kk : ∀ v, Kw v → W p l e R s m args below meth c H locs cells slots Q (F0 m (pc + 3) ls (.long v :: rest))) : W p l e R s m args below meth c H locs cells slots Q (F0 m pc ls (.ref a :: rest)) := by
  obtain ⟨fs, v, h1, h2, h3⟩ := hw
  exact xgetV hexec hb hts hin hown hK hP hc k hk hlink hsame h1 h2 hdg (kk v h3)
theorem xgetA (hexec : p.tables.exec = Jvm.exec) (hb : c.code = cc) {own ref C : String} {T : u_T} {N ci index : Nat} {Ts : List Cond} (hts : ∀ w ∈ Ts, w.before args s = true) (hin : ∀ w ∈ u_ws C T N, w ∈ Ts) (hown : s.vm.findClass own = some m.cls) (hK : va_K D vwCl tys s) (hP : xR σ h0 D A h H) (hc : vwCl[ci]? = some (C, T, N)) (k : Nat) (hk : k < N) (hlink : (Cond.fieldLink own index ref (T k).2.1 (T k).2.2.1).before args s = true) (hsame : ∀ x, s.fieldFound? (T k).1 (T k).2.1 (T k).2.2.1 = some x → s.fieldFound? ref (T k).2.1 (T k).2.2.1 = some x) {Kw : Option Nat → Prop} (hw : wgA h a ci k Kw) (hdg : decode cc pc = .ok (.getfield index, 3))
    (kk : ∀ v, Kw v → W p l e R s m args below meth c H locs cells slots Q (F0 m (pc + 3) ls (va_rf v :: rest))) : W p l e R s m args below meth c H locs cells slots Q (F0 m pc ls (.ref a :: rest)) := by
  obtain ⟨fs, v, h1, h2, h3⟩ := hw
  exact xgetV hexec hb hts hin hown hK hP hc k hk hlink hsame h1 h2 hdg (kk v h3)
theorem xputV (hexec : p.tables.exec = Jvm.exec) (hb : c.code = cc) {own ref C : String} {T : u_T} {N ci index : Nat} {Ts : List Cond} (hts : ∀ w ∈ Ts, w.before args s = true) (hin : ∀ w ∈ u_ws C T N, w ∈ Ts) (ty0 : Nat → FieldType) (hty : ∀ k, k < N → parseFieldDescriptor (T k).2.2.1 = some (ty0 k)) (hnm : ∀ a, a < N → ∀ b, b < N → a ≠ b → (T a).2.1 ≠ (T b).2.1) (hown : s.vm.findClass own = some m.cls) (hK : va_K D vwCl tys s) (hP : xR σ h0 D A h H) (hS0 : va_S A H0 H locs) (hc : vwCl[ci]? = some (C, T, N)) (hσ : ∀ fs, σ (.inr (ci, fs))) (k : Nat) (hk : k < N) (hlink : (Cond.fieldLink own index ref (T k).2.1 (T k).2.2.1).before args s = true) (hsame : ∀ x, s.fieldFound? (T k).1 (T k).2.1 (T k).2.2.1 = some x → s.fieldFound? ref (T k).2.1 (T k).2.2.1 = some x) (hfin : (T k).2.2.2 = false) {ty : FieldType} {v : Value} (hd : parseFieldDescriptor (T k).2.2.1 = some ty) (hn : narrow ty v = v) (hfit : fits ty v = true) {Kw : xw → Prop} (hw : wpF h a ci k v Kw) (hdg : decode cc pc = .ok (.putfield index, 3))
    (kk : ∀ (h' : xw) (H1 : Heap) (locs1 : List Loc), Kw h' → xR σ h0 D A h' H1 → va_S A H0 H1 locs1 → W p l e R s m args below meth c H1 locs1 cells slots Q (F0 m (pc + 3) ls rest)) : W p l e R s m args below meth c H locs cells slots Q (F0 m pc ls (v :: .ref a :: rest)) := by
  obtain ⟨fs, h1, h2, h3⟩ := hw
  obtain ⟨⟨L, f, q1, q2, q3⟩, hF⟩ := id hP
  obtain ⟨hm, hf⟩ := q1 a _ h1
  obtain ⟨k0, hk0⟩ := xpl_get (f := f) hm
  rw [hf] at hk0
  exact va_put hexec hb hts hin ty0 hty hnm hown hK q2 q3 hS0 k0 hk0 hc k hk hlink hsame hfin hd hn hfit h2 hdg (fun H1 locs1 hP1 hD1 hS1 => kk _ H1 locs1 h3 ⟨xP_set q1 q3 h1 hk0 hP1 hD1, hF.set h1 (hσ _)⟩ hS1)
theorem xputFV (hexec : p.tables.exec = Jvm.exec) (hb : c.code = cc) {own ref C : String} {T : u_T} {N ci index : Nat} {Ts : List Cond} (hts : ∀ w ∈ Ts, w.before args s = true) (hin : ∀ w ∈ u_ws C T N, w ∈ Ts) (ty0 : Nat → FieldType) (hty : ∀ k, k < N → parseFieldDescriptor (T k).2.2.1 = some (ty0 k)) (hnm : ∀ a, a < N → ∀ b, b < N → a ≠ b → (T a).2.1 ≠ (T b).2.1) (hown : s.vm.findClass own = some m.cls) (hK : va_K D vwCl tys s) (hP : xR σ h0 D A h H) (hS0 : va_S A H0 H locs) (hc : vwCl[ci]? = some (C, T, N)) (hσ : ∀ fs, σ (.inr (ci, fs))) (k : Nat) (hk : k < N) (hlink : (Cond.fieldLink own index ref (T k).2.1 (T k).2.2.1).before args s = true) (hsame : ∀ x, s.fieldFound? (T k).1 (T k).2.1 (T k).2.2.1 = some x → s.fieldFound? ref (T k).2.1 (T k).2.2.1 = some x) (hfin : (T k).2.2.2 = true) (hin2 : meth.name = "<init>") (hdecl : (T k).1 = own) {ty : FieldType} {v : Value} (hd : parseFieldDescriptor (T k).2.2.1 = some ty) (hn : narrow ty v = v) (hfit : fits ty v = true) {Kw : xw → Prop} (hw : wpF h a ci k v Kw) (hdg : decode cc pc = .ok (.putfield index, 3))
    (kk : ∀ (h' : xw) (H1 : Heap) (locs1 : List Loc), Kw h' → xR σ h0 D A h' H1 → va_S A H0 H1 locs1 → W p l e R s m args below meth c H1 locs1 cells slots Q (F0 m (pc + 3) ls rest)) : W p l e R s m args below meth c H locs cells slots Q (F0 m pc ls (v :: .ref a :: rest)) := by
  obtain ⟨fs, h1, h2, h3⟩ := hw
  obtain ⟨⟨L, f, q1, q2, q3⟩, hF⟩ := id hP
  obtain ⟨hm, hf⟩ := q1 a _ h1
  obtain ⟨k0, hk0⟩ := xpl_get (f := f) hm
  rw [hf] at hk0
  exact va_putF hexec hb hts hin ty0 hty hnm hown hK q2 q3 hS0 k0 hk0 hc k hk hlink hsame hfin hin2 hdecl hd hn hfit h2 hdg (fun H1 locs1 hP1 hD1 hS1 => kk _ H1 locs1 h3 ⟨xP_set q1 q3 h1 hk0 hP1 hD1, hF.set h1 (hσ _)⟩ hS1)
theorem xputI (hexec : p.tables.exec = Jvm.exec) (hb : c.code = cc) {own ref C : String} {T : u_T} {N ci index : Nat} {Ts : List Cond} (hts : ∀ w ∈ Ts, w.before args s = true) (hin : ∀ w ∈ u_ws C T N, w ∈ Ts) (ty0 : Nat → FieldType) (hty : ∀ k, k < N → parseFieldDescriptor (T k).2.2.1 = some (ty0 k)) (hnm : ∀ a, a < N → ∀ b, b < N → a ≠ b → (T a).2.1 ≠ (T b).2.1) (hown : s.vm.findClass own = some m.cls) (hK : va_K D vwCl tys s) (hP : xR σ h0 D A h H) (hS0 : va_S A H0 H locs) (hc : vwCl[ci]? = some (C, T, N)) (hσ : ∀ fs, σ (.inr (ci, fs))) (k : Nat) (hk : k < N) (hlink : (Cond.fieldLink own index ref (T k).2.1 (T k).2.2.1).before args s = true) (hsame : ∀ x, s.fieldFound? (T k).1 (T k).2.1 (T k).2.2.1 = some x → s.fieldFound? ref (T k).2.1 (T k).2.2.1 = some x) (hfin : (T k).2.2.2 = false) {v : Int32} (hd : parseFieldDescriptor (T k).2.2.1 = some .int) {Kw : xw → Prop} (hw : wpF h a ci k (.int v) Kw) (hdg : decode cc pc = .ok (.putfield index, 3))
    (kk : ∀ (h' : xw) (H1 : Heap) (locs1 : List Loc), Kw h' → xR σ h0 D A h' H1 → va_S A H0 H1 locs1 → W p l e R s m args below meth c H1 locs1 cells slots Q (F0 m (pc + 3) ls rest)) : W p l e R s m args below meth c H locs cells slots Q (F0 m pc ls (.int v :: .ref a :: rest)) := xputV hexec hb hts hin ty0 hty hnm hown hK hP hS0 hc hσ k hk hlink hsame hfin hd rfl rfl hw hdg kk
theorem xputL (hexec : p.tables.exec = Jvm.exec) (hb : c.code = cc) {own ref C : String} {T : u_T} {N ci index : Nat} {Ts : List Cond} (hts : ∀ w ∈ Ts, w.before args s = true) (hin : ∀ w ∈ u_ws C T N, w ∈ Ts) (ty0 : Nat → FieldType) (hty : ∀ k, k < N → parseFieldDescriptor (T k).2.2.1 = some (ty0 k)) (hnm : ∀ a, a < N → ∀ b, b < N → a ≠ b → (T a).2.1 ≠ (T b).2.1) (hown : s.vm.findClass own = some m.cls) (hK : va_K D vwCl tys s) (hP : xR σ h0 D A h H) (hS0 : va_S A H0 H locs) (hc : vwCl[ci]? = some (C, T, N)) (hσ : ∀ fs, σ (.inr (ci, fs))) (k : Nat) (hk : k < N) (hlink : (Cond.fieldLink own index ref (T k).2.1 (T k).2.2.1).before args s = true) (hsame : ∀ x, s.fieldFound? (T k).1 (T k).2.1 (T k).2.2.1 = some x → s.fieldFound? ref (T k).2.1 (T k).2.2.1 = some x) (hfin : (T k).2.2.2 = false) {v : Int64} (hd : parseFieldDescriptor (T k).2.2.1 = some .long) {Kw : xw → Prop} (hw : wpF h a ci k (.long v) Kw) (hdg : decode cc pc = .ok (.putfield index, 3))
    (kk : ∀ (h' : xw) (H1 : Heap) (locs1 : List Loc), Kw h' → xR σ h0 D A h' H1 → va_S A H0 H1 locs1 → W p l e R s m args below meth c H1 locs1 cells slots Q (F0 m (pc + 3) ls rest)) : W p l e R s m args below meth c H locs cells slots Q (F0 m pc ls (.long v :: .ref a :: rest)) := xputV hexec hb hts hin ty0 hty hnm hown hK hP hS0 hc hσ k hk hlink hsame hfin hd rfl rfl hw hdg kk
theorem xputA (hexec : p.tables.exec = Jvm.exec) (hb : c.code = cc) {own ref C : String} {T : u_T} {N ci index : Nat} {Ts : List Cond} (hts : ∀ w ∈ Ts, w.before args s = true) (hin : ∀ w ∈ u_ws C T N, w ∈ Ts) (ty0 : Nat → FieldType) (hty : ∀ k, k < N → parseFieldDescriptor (T k).2.2.1 = some (ty0 k)) (hnm : ∀ a, a < N → ∀ b, b < N → a ≠ b → (T a).2.1 ≠ (T b).2.1) (hown : s.vm.findClass own = some m.cls) (hK : va_K D vwCl tys s) (hP : xR σ h0 D A h H) (hS0 : va_S A H0 H locs) (hc : vwCl[ci]? = some (C, T, N)) (hσ : ∀ fs, σ (.inr (ci, fs))) (k : Nat) (hk : k < N) (hlink : (Cond.fieldLink own index ref (T k).2.1 (T k).2.2.1).before args s = true) (hsame : ∀ x, s.fieldFound? (T k).1 (T k).2.1 (T k).2.2.1 = some x → s.fieldFound? ref (T k).2.1 (T k).2.2.1 = some x) (hfin : (T k).2.2.2 = false) {v : Option Nat} {C9 : String} (hd : parseFieldDescriptor (T k).2.2.1 = some (.object C9)) {Kw : xw → Prop} (hw : wpF h a ci k (va_rf v) Kw) (hdg : decode cc pc = .ok (.putfield index, 3))
    (kk : ∀ (h' : xw) (H1 : Heap) (locs1 : List Loc), Kw h' → xR σ h0 D A h' H1 → va_S A H0 H1 locs1 → W p l e R s m args below meth c H1 locs1 cells slots Q (F0 m (pc + 3) ls rest)) : W p l e R s m args below meth c H locs cells slots Q (F0 m pc ls (va_rf v :: .ref a :: rest)) := xputV hexec hb hts hin ty0 hty hnm hown hK hP hS0 hc hσ k hk hlink hsame hfin hd (xnar _ _) (by cases v <;> rfl) hw hdg kk
theorem xputQ (hexec : p.tables.exec = Jvm.exec) (hb : c.code = cc) {own ref C : String} {T : u_T} {N ci index : Nat} {Ts : List Cond} (hts : ∀ w ∈ Ts, w.before args s = true) (hin : ∀ w ∈ u_ws C T N, w ∈ Ts) (ty0 : Nat → FieldType) (hty : ∀ k, k < N → parseFieldDescriptor (T k).2.2.1 = some (ty0 k)) (hnm : ∀ a, a < N → ∀ b, b < N → a ≠ b → (T a).2.1 ≠ (T b).2.1) (hown : s.vm.findClass own = some m.cls) (hK : va_K D vwCl tys s) (hP : xR σ h0 D A h H) (hS0 : va_S A H0 H locs) (hc : vwCl[ci]? = some (C, T, N)) (hσ : ∀ fs, σ (.inr (ci, fs))) (k : Nat) (hk : k < N) (hlink : (Cond.fieldLink own index ref (T k).2.1 (T k).2.2.1).before args s = true) (hsame : ∀ x, s.fieldFound? (T k).1 (T k).2.1 (T k).2.2.1 = some x → s.fieldFound? ref (T k).2.1 (T k).2.2.1 = some x) (hfin : (T k).2.2.2 = false) {v : Option Nat} {t9 : FieldType} (hd : parseFieldDescriptor (T k).2.2.1 = some (.array t9)) {Kw : xw → Prop} (hw : wpF h a ci k (va_rf v) Kw) (hdg : decode cc pc = .ok (.putfield index, 3))
    (kk : ∀ (h' : xw) (H1 : Heap) (locs1 : List Loc), Kw h' → xR σ h0 D A h' H1 → va_S A H0 H1 locs1 → W p l e R s m args below meth c H1 locs1 cells slots Q (F0 m (pc + 3) ls rest)) : W p l e R s m args below meth c H locs cells slots Q (F0 m pc ls (va_rf v :: .ref a :: rest)) := xputV hexec hb hts hin ty0 hty hnm hown hK hP hS0 hc hσ k hk hlink hsame hfin hd (by cases v <;> rfl) (by cases v <;> rfl) hw hdg kk
theorem xputZ (hexec : p.tables.exec = Jvm.exec) (hb : c.code = cc) {own ref C : String} {T : u_T} {N ci index : Nat} {Ts : List Cond} (hts : ∀ w ∈ Ts, w.before args s = true) (hin : ∀ w ∈ u_ws C T N, w ∈ Ts) (ty0 : Nat → FieldType) (hty : ∀ k, k < N → parseFieldDescriptor (T k).2.2.1 = some (ty0 k)) (hnm : ∀ a, a < N → ∀ b, b < N → a ≠ b → (T a).2.1 ≠ (T b).2.1) (hown : s.vm.findClass own = some m.cls) (hK : va_K D vwCl tys s) (hP : xR σ h0 D A h H) (hS0 : va_S A H0 H locs) (hc : vwCl[ci]? = some (C, T, N)) (hσ : ∀ fs, σ (.inr (ci, fs))) (k : Nat) (hk : k < N) (hlink : (Cond.fieldLink own index ref (T k).2.1 (T k).2.2.1).before args s = true) (hsame : ∀ x, s.fieldFound? (T k).1 (T k).2.1 (T k).2.2.1 = some x → s.fieldFound? ref (T k).2.1 (T k).2.2.1 = some x) (hfin : (T k).2.2.2 = false) {v : Int32} (hd : parseFieldDescriptor (T k).2.2.1 = some .boolean) {Kw : xw → Prop} (hw : wpZ h a ci k v Kw) (hdg : decode cc pc = .ok (.putfield index, 3))
    (kk : ∀ (h' : xw) (H1 : Heap) (locs1 : List Loc), Kw h' → xR σ h0 D A h' H1 → va_S A H0 H1 locs1 → W p l e R s m args below meth c H1 locs1 cells slots Q (F0 m (pc + 3) ls rest)) : W p l e R s m args below meth c H locs cells slots Q (F0 m pc ls (.int v :: .ref a :: rest)) := by
  obtain ⟨hv, hw⟩ := hw
  rcases hv with rfl | rfl
  · exact xputV hexec hb hts hin ty0 hty hnm hown hK hP hS0 hc hσ k hk hlink hsame hfin hd rfl rfl hw hdg kk
  · exact xputV hexec hb hts hin ty0 hty hnm hown hK hP hS0 hc hσ k hk hlink hsame hfin hd rfl rfl hw hdg kk
theorem xputFI (hexec : p.tables.exec = Jvm.exec) (hb : c.code = cc) {own ref C : String} {T : u_T} {N ci index : Nat} {Ts : List Cond} (hts : ∀ w ∈ Ts, w.before args s = true) (hin : ∀ w ∈ u_ws C T N, w ∈ Ts) (ty0 : Nat → FieldType) (hty : ∀ k, k < N → parseFieldDescriptor (T k).2.2.1 = some (ty0 k)) (hnm : ∀ a, a < N → ∀ b, b < N → a ≠ b → (T a).2.1 ≠ (T b).2.1) (hown : s.vm.findClass own = some m.cls) (hK : va_K D vwCl tys s) (hP : xR σ h0 D A h H) (hS0 : va_S A H0 H locs) (hc : vwCl[ci]? = some (C, T, N)) (hσ : ∀ fs, σ (.inr (ci, fs))) (k : Nat) (hk : k < N) (hlink : (Cond.fieldLink own index ref (T k).2.1 (T k).2.2.1).before args s = true) (hsame : ∀ x, s.fieldFound? (T k).1 (T k).2.1 (T k).2.2.1 = some x → s.fieldFound? ref (T k).2.1 (T k).2.2.1 = some x) (hfin : (T k).2.2.2 = true) (hin2 : meth.name = "<init>") (hdecl : (T k).1 = own) {v : Int32} (hd : parseFieldDescriptor (T k).2.2.1 = some .int) {Kw : xw → Prop} (hw : wpF h a ci k (.int v) Kw) (hdg : decode cc pc = .ok (.putfield index, 3))
    (kk : ∀ (h' : xw) (H1 : Heap) (locs1 : List Loc), Kw h' → xR σ h0 D A h' H1 → va_S A H0 H1 locs1 → W p l e R s m args below meth c H1 locs1 cells slots Q (F0 m (pc + 3) ls rest)) : W p l e R s m args below meth c H locs cells slots Q (F0 m pc ls (.int v :: .ref a :: rest)) := xputFV hexec hb hts hin ty0 hty hnm hown hK hP hS0 hc hσ k hk hlink hsame hfin hin2 hdecl hd rfl rfl hw hdg kk
theorem xputFL (hexec : p.tables.exec = Jvm.exec) (hb : c.code = cc) {own ref C : String} {T : u_T} {N ci index : Nat} {Ts : List Cond} (hts : ∀ w ∈ Ts, w.before args s = true) (hin : ∀ w ∈ u_ws C T N, w ∈ Ts) (ty0 : Nat → FieldType) (hty : ∀ k, k < N → parseFieldDescriptor (T k).2.2.1 = some (ty0 k)) (hnm : ∀ a, a < N → ∀ b, b < N → a ≠ b → (T a).2.1 ≠ (T b).2.1) (hown : s.vm.findClass own = some m.cls) (hK : va_K D vwCl tys s) (hP : xR σ h0 D A h H) (hS0 : va_S A H0 H locs) (hc : vwCl[ci]? = some (C, T, N)) (hσ : ∀ fs, σ (.inr (ci, fs))) (k : Nat) (hk : k < N) (hlink : (Cond.fieldLink own index ref (T k).2.1 (T k).2.2.1).before args s = true) (hsame : ∀ x, s.fieldFound? (T k).1 (T k).2.1 (T k).2.2.1 = some x → s.fieldFound? ref (T k).2.1 (T k).2.2.1 = some x) (hfin : (T k).2.2.2 = true) (hin2 : meth.name = "<init>") (hdecl : (T k).1 = own) {v : Int64} (hd : parseFieldDescriptor (T k).2.2.1 = some .long) {Kw : xw → Prop} (hw : wpF h a ci k (.long v) Kw) (hdg : decode cc pc = .ok (.putfield index, 3))
    (kk : ∀ (h' : xw) (H1 : Heap) (locs1 : List Loc), Kw h' → xR σ h0 D A h' H1 → va_S A H0 H1 locs1 → W p l e R s m args below meth c H1 locs1 cells slots Q (F0 m (pc + 3) ls rest)) : W p l e R s m args below meth c H locs cells slots Q (F0 m pc ls (.long v :: .ref a :: rest)) := xputFV hexec hb hts hin ty0 hty hnm hown hK hP hS0 hc hσ k hk hlink hsame hfin hin2 hdecl hd rfl rfl hw hdg kk
theorem xputFA (hexec : p.tables.exec = Jvm.exec) (hb : c.code = cc) {own ref C : String} {T : u_T} {N ci index : Nat} {Ts : List Cond} (hts : ∀ w ∈ Ts, w.before args s = true) (hin : ∀ w ∈ u_ws C T N, w ∈ Ts) (ty0 : Nat → FieldType) (hty : ∀ k, k < N → parseFieldDescriptor (T k).2.2.1 = some (ty0 k)) (hnm : ∀ a, a < N → ∀ b, b < N → a ≠ b → (T a).2.1 ≠ (T b).2.1) (hown : s.vm.findClass own = some m.cls) (hK : va_K D vwCl tys s) (hP : xR σ h0 D A h H) (hS0 : va_S A H0 H locs) (hc : vwCl[ci]? = some (C, T, N)) (hσ : ∀ fs, σ (.inr (ci, fs))) (k : Nat) (hk : k < N) (hlink : (Cond.fieldLink own index ref (T k).2.1 (T k).2.2.1).before args s = true) (hsame : ∀ x, s.fieldFound? (T k).1 (T k).2.1 (T k).2.2.1 = some x → s.fieldFound? ref (T k).2.1 (T k).2.2.1 = some x) (hfin : (T k).2.2.2 = true) (hin2 : meth.name = "<init>") (hdecl : (T k).1 = own) {v : Option Nat} {C9 : String} (hd : parseFieldDescriptor (T k).2.2.1 = some (.object C9)) {Kw : xw → Prop} (hw : wpF h a ci k (va_rf v) Kw) (hdg : decode cc pc = .ok (.putfield index, 3))
    (kk : ∀ (h' : xw) (H1 : Heap) (locs1 : List Loc), Kw h' → xR σ h0 D A h' H1 → va_S A H0 H1 locs1 → W p l e R s m args below meth c H1 locs1 cells slots Q (F0 m (pc + 3) ls rest)) : W p l e R s m args below meth c H locs cells slots Q (F0 m pc ls (va_rf v :: .ref a :: rest)) := xputFV hexec hb hts hin ty0 hty hnm hown hK hP hS0 hc hσ k hk hlink hsame hfin hin2 hdecl hd (xnar _ _) (by cases v <;> rfl) hw hdg kk
theorem xputFQ (hexec : p.tables.exec = Jvm.exec) (hb : c.code = cc) {own ref C : String} {T : u_T} {N ci index : Nat} {Ts : List Cond} (hts : ∀ w ∈ Ts, w.before args s = true) (hin : ∀ w ∈ u_ws C T N, w ∈ Ts) (ty0 : Nat → FieldType) (hty : ∀ k, k < N → parseFieldDescriptor (T k).2.2.1 = some (ty0 k)) (hnm : ∀ a, a < N → ∀ b, b < N → a ≠ b → (T a).2.1 ≠ (T b).2.1) (hown : s.vm.findClass own = some m.cls) (hK : va_K D vwCl tys s) (hP : xR σ h0 D A h H) (hS0 : va_S A H0 H locs) (hc : vwCl[ci]? = some (C, T, N)) (hσ : ∀ fs, σ (.inr (ci, fs))) (k : Nat) (hk : k < N) (hlink : (Cond.fieldLink own index ref (T k).2.1 (T k).2.2.1).before args s = true) (hsame : ∀ x, s.fieldFound? (T k).1 (T k).2.1 (T k).2.2.1 = some x → s.fieldFound? ref (T k).2.1 (T k).2.2.1 = some x) (hfin : (T k).2.2.2 = true) (hin2 : meth.name = "<init>") (hdecl : (T k).1 = own) {v : Option Nat} {t9 : FieldType} (hd : parseFieldDescriptor (T k).2.2.1 = some (.array t9)) {Kw : xw → Prop} (hw : wpF h a ci k (va_rf v) Kw) (hdg : decode cc pc = .ok (.putfield index, 3))
    (kk : ∀ (h' : xw) (H1 : Heap) (locs1 : List Loc), Kw h' → xR σ h0 D A h' H1 → va_S A H0 H1 locs1 → W p l e R s m args below meth c H1 locs1 cells slots Q (F0 m (pc + 3) ls rest)) : W p l e R s m args below meth c H locs cells slots Q (F0 m pc ls (va_rf v :: .ref a :: rest)) := xputFV hexec hb hts hin ty0 hty hnm hown hK hP hS0 hc hσ k hk hlink hsame hfin hin2 hdecl hd (by cases v <;> rfl) (by cases v <;> rfl) hw hdg kk
theorem xputFZ (hexec : p.tables.exec = Jvm.exec) (hb : c.code = cc) {own ref C : String} {T : u_T} {N ci index : Nat} {Ts : List Cond} (hts : ∀ w ∈ Ts, w.before args s = true) (hin : ∀ w ∈ u_ws C T N, w ∈ Ts) (ty0 : Nat → FieldType) (hty : ∀ k, k < N → parseFieldDescriptor (T k).2.2.1 = some (ty0 k)) (hnm : ∀ a, a < N → ∀ b, b < N → a ≠ b → (T a).2.1 ≠ (T b).2.1) (hown : s.vm.findClass own = some m.cls) (hK : va_K D vwCl tys s) (hP : xR σ h0 D A h H) (hS0 : va_S A H0 H locs) (hc : vwCl[ci]? = some (C, T, N)) (hσ : ∀ fs, σ (.inr (ci, fs))) (k : Nat) (hk : k < N) (hlink : (Cond.fieldLink own index ref (T k).2.1 (T k).2.2.1).before args s = true) (hsame : ∀ x, s.fieldFound? (T k).1 (T k).2.1 (T k).2.2.1 = some x → s.fieldFound? ref (T k).2.1 (T k).2.2.1 = some x) (hfin : (T k).2.2.2 = true) (hin2 : meth.name = "<init>") (hdecl : (T k).1 = own) {v : Int32} (hd : parseFieldDescriptor (T k).2.2.1 = some .boolean) {Kw : xw → Prop} (hw : wpZ h a ci k v Kw) (hdg : decode cc pc = .ok (.putfield index, 3))
    (kk : ∀ (h' : xw) (H1 : Heap) (locs1 : List Loc), Kw h' → xR σ h0 D A h' H1 → va_S A H0 H1 locs1 → W p l e R s m args below meth c H1 locs1 cells slots Q (F0 m (pc + 3) ls rest)) : W p l e R s m args below meth c H locs cells slots Q (F0 m pc ls (.int v :: .ref a :: rest)) := by
  obtain ⟨hv, hw⟩ := hw
  rcases hv with rfl | rfl
  · exact xputFV hexec hb hts hin ty0 hty hnm hown hK hP hS0 hc hσ k hk hlink hsame hfin hin2 hdecl hd rfl rfl hw hdg kk
  · exact xputFV hexec hb hts hin ty0 hty hnm hown hK hP hS0 hc hσ k hk hlink hsame hfin hin2 hdecl hd rfl rfl hw hdg kk
/-- arrays -/
theorem TYS_at {t0 : Nat} {ty : FieldType} (ht : xtys[t0]? = some ty) : (TYS d)[t0]? = some (d t0, ty) := by
  simp [TYS, ht]
theorem xlen (hexec : p.tables.exec = Jvm.exec) (hb : c.code = cc) (hK : va_K D vwCl (TYS d) s) (hP : xR σ h0 D A h H) (t0 : Nat) {ty : FieldType} (ht : xtys[t0]? = some ty) {Kw : Int32 → Prop} (hw : wlen h a (d t0) Kw) (hdg : decode cc pc = .ok (.arraylength, 1))
    (kk : ∀ v, Kw v → W p l e R s m args below meth c H locs cells slots Q (F0 m (pc + 1) ls (.int v :: rest))) : W p l e R s m args below meth c H locs cells slots Q (F0 m pc ls (.ref a :: rest)) := by
  obtain ⟨x, h1, h2⟩ := hw
  obtain ⟨⟨L, f, q1, q2, q3⟩, hF⟩ := id hP
  obtain ⟨hm, hf⟩ := q1 a _ h1
  obtain ⟨k0, hk0⟩ := xpl_get (f := f) hm
  rw [hf] at hk0
  exact va_alen hexec hb hK q2 k0 t0 hk0 (TYS_at ht) rfl hdg (kk _ h2)
theorem xldq (hexec : p.tables.exec = Jvm.exec) (hb : c.code = cc) (hK : va_K D vwCl (TYS d) s) (hP : xR σ h0 D A h H) (t0 : Nat) {C : String} (ht : xtys[t0]? = some (.object C)) {i : Int32} {Kw : Option Nat → Prop} (hw : wldq h a (d t0) i Kw) (hdg : decode cc pc = .ok (.aaload, 1))
    (kk : ∀ v, Kw v → W p l e R s m args below meth c H locs cells slots Q (F0 m (pc + 1) ls (va_rf v :: rest))) : W p l e R s m args below meth c H locs cells slots Q (F0 m pc ls (.int i :: .ref a :: rest)) := by
  obtain ⟨n, g, h1, h2, h3⟩ := hw
  obtain ⟨⟨L, f, q1, q2, q3⟩, hF⟩ := id hP
  obtain ⟨hm, hf⟩ := q1 a _ h1
  obtain ⟨k0, hk0⟩ := xpl_get (f := f) hm
  rw [hf] at hk0
  exact va_aldq hexec hb hK q2 k0 t0 hk0 (TYS_at ht) h2 hdg (kk _ h3)
theorem xldi (hexec : p.tables.exec = Jvm.exec) (hb : c.code = cc) (hK : va_K D vwCl (TYS d) s) (hP : xR σ h0 D A h H) (t0 : Nat) (ht : xtys[t0]? = some .int) {i : Int32} {Kw : Int32 → Prop} (hw : wldi h a (d t0) i Kw) (hdg : decode cc pc = .ok (.iaload, 1))
    (kk : ∀ v, Kw v → W p l e R s m args below meth c H locs cells slots Q (F0 m (pc + 1) ls (.int v :: rest))) : W p l e R s m args below meth c H locs cells slots Q (F0 m pc ls (.int i :: .ref a :: rest)) := by
  obtain ⟨n, g, h1, h2, h3⟩ := hw
  obtain ⟨⟨L, f, q1, q2, q3⟩, hF⟩ := id hP
  obtain ⟨hm, hf⟩ := q1 a _ h1
  obtain ⟨k0, hk0⟩ := xpl_get (f := f) hm
  rw [hf] at hk0
  exact va_iald hexec hb hK q2 k0 t0 hk0 (TYS_at ht) h2 hdg (kk _ h3)
theorem xldz (hexec : p.tables.exec = Jvm.exec) (hb : c.code = cc) (hK : va_K D vwCl (TYS d) s) (hP : xR σ h0 D A h H) (t0 : Nat) (ht : xtys[t0]? = some .boolean) {i : Int32} {Kw : Int32 → Prop} (hw : wldi h a (d t0) i Kw) (hdg : decode cc pc = .ok (.baload, 1))
    (kk : ∀ v, Kw v → W p l e R s m args below meth c H locs cells slots Q (F0 m (pc + 1) ls (.int v :: rest))) : W p l e R s m args below meth c H locs cells slots Q (F0 m pc ls (.int i :: .ref a :: rest)) := by
  obtain ⟨n, g, h1, h2, h3⟩ := hw
  obtain ⟨⟨L, f, q1, q2, q3⟩, hF⟩ := id hP
  obtain ⟨hm, hf⟩ := q1 a _ h1
  obtain ⟨k0, hk0⟩ := xpl_get (f := f) hm
  rw [hf] at hk0
  exact va_zald hexec hb hK q2 k0 t0 hk0 (TYS_at ht) h2 hdg (kk _ h3)
theorem xldl (hexec : p.tables.exec = Jvm.exec) (hb : c.code = cc) (hK : va_K D vwCl (TYS d) s) (hP : xR σ h0 D A h H) (t0 : Nat) (ht : xtys[t0]? = some .long) {i : Int32} {Kw : Int64 → Prop} (hw : wldl h a (d t0) i Kw) (hdg : decode cc pc = .ok (.laload, 1))
    (kk : ∀ v, Kw v → W p l e R s m args below meth c H locs cells slots Q (F0 m (pc + 1) ls (.long v :: rest))) : W p l e R s m args below meth c H locs cells slots Q (F0 m pc ls (.int i :: .ref a :: rest)) := by
  obtain ⟨n, g, h1, h2, h3⟩ := hw
  obtain ⟨⟨L, f, q1, q2, q3⟩, hF⟩ := id hP
  obtain ⟨hm, hf⟩ := q1 a _ h1
  obtain ⟨k0, hk0⟩ := xpl_get (f := f) hm
  rw [hf] at hk0
  exact va_lald hexec hb hK q2 k0 t0 hk0 (TYS_at ht) h2 hdg (kk _ h3)
theorem xsti (hexec : p.tables.exec = Jvm.exec) (hb : c.code = cc) (hK : va_K D vwCl (TYS d) s) (hP : xR σ h0 D A h H) (hS : va_S A H0 H locs) (t0 : Nat) (ht : xtys[t0]? = some .int) {i x : Int32} (hσ : ∀ n g, σ (xai (d t0) n g)) {Kw : xw → Prop} (hw : wsti h a (d t0) i x Kw) (hdg : decode cc pc = .ok (.iastore, 1))
    (kk : ∀ (h' : xw) (H1 : Heap) (locs1 : List Loc), Kw h' → xR σ h0 D A h' H1 → va_S A H0 H1 locs1 → W p l e R s m args below meth c H1 locs1 cells slots Q (F0 m (pc + 1) ls rest)) : W p l e R s m args below meth c H locs cells slots Q (F0 m pc ls (.int x :: .int i :: .ref a :: rest)) := by
  obtain ⟨n, g, h1, h2, h3⟩ := hw
  obtain ⟨⟨L, f, q1, q2, q3⟩, hF⟩ := id hP
  obtain ⟨hm, hf⟩ := q1 a _ h1
  obtain ⟨k0, hk0⟩ := xpl_get (f := f) hm
  rw [hf] at hk0
  exact va_iast hexec hb hK q2 q3 hS k0 t0 hk0 (TYS_at ht) h2 hdg (fun H1 locs1 hP1 hD1 hS1 => kk _ H1 locs1 h3 ⟨xP_set q1 q3 h1 hk0 hP1 hD1, hF.set h1 (hσ _ _)⟩ hS1)
theorem xstz (hexec : p.tables.exec = Jvm.exec) (hb : c.code = cc) (hK : va_K D vwCl (TYS d) s) (hP : xR σ h0 D A h H) (hS : va_S A H0 H locs) (t0 : Nat) (ht : xtys[t0]? = some .boolean) {i x : Int32} (hσ : ∀ n g, σ (xai (d t0) n g)) {Kw : xw → Prop} (hw : wstz h a (d t0) i x Kw) (hdg : decode cc pc = .ok (.bastore, 1))
    (kk : ∀ (h' : xw) (H1 : Heap) (locs1 : List Loc), Kw h' → xR σ h0 D A h' H1 → va_S A H0 H1 locs1 → W p l e R s m args below meth c H1 locs1 cells slots Q (F0 m (pc + 1) ls rest)) : W p l e R s m args below meth c H locs cells slots Q (F0 m pc ls (.int x :: .int i :: .ref a :: rest)) := by
  obtain ⟨hx01, n, g, h1, h2, h3⟩ := hw
  have hnar : vp_nar .boolean x = x := by rcases hx01 with rfl | rfl <;> rfl
  obtain ⟨⟨L, f, q1, q2, q3⟩, hF⟩ := id hP
  obtain ⟨hm, hf⟩ := q1 a _ h1
  obtain ⟨k0, hk0⟩ := xpl_get (f := f) hm
  rw [hf] at hk0
  exact va_zast hexec hb hK q2 q3 hS k0 t0 hk0 (TYS_at ht) h2 hdg (fun H1 locs1 hP1 hD1 hS1 => by
    rw [hnar] at hP1 hD1
    exact kk _ H1 locs1 h3 ⟨xP_set q1 q3 h1 hk0 hP1 hD1, hF.set h1 (hσ _ _)⟩ hS1)
theorem xstl (hexec : p.tables.exec = Jvm.exec) (hb : c.code = cc) (hK : va_K D vwCl (TYS d) s) (hP : xR σ h0 D A h H) (hS : va_S A H0 H locs) (t0 : Nat) (ht : xtys[t0]? = some .long) {i : Int32} {x : Int64} (hσ : ∀ n g, σ (xal (d t0) n g)) {Kw : xw → Prop} (hw : wstl h a (d t0) i x Kw) (hdg : decode cc pc = .ok (.lastore, 1))
    (kk : ∀ (h' : xw) (H1 : Heap) (locs1 : List Loc), Kw h' → xR σ h0 D A h' H1 → va_S A H0 H1 locs1 → W p l e R s m args below meth c H1 locs1 cells slots Q (F0 m (pc + 1) ls rest)) : W p l e R s m args below meth c H locs cells slots Q (F0 m pc ls (.long x :: .int i :: .ref a :: rest)) := by
  obtain ⟨n, g, h1, h2, h3⟩ := hw
  obtain ⟨⟨L, f, q1, q2, q3⟩, hF⟩ := id hP
  obtain ⟨hm, hf⟩ := q1 a _ h1
  obtain ⟨k0, hk0⟩ := xpl_get (f := f) hm
  rw [hf] at hk0
  exact va_last hexec hb hK q2 q3 hS k0 t0 hk0 (TYS_at ht) h2 hdg (fun H1 locs1 hP1 hD1 hS1 => kk _ H1 locs1 h3 ⟨xP_set q1 q3 h1 hk0 hP1 hD1, hF.set h1 (hσ _ _)⟩ hS1)
theorem xstq (hexec : p.tables.exec = Jvm.exec) (hb : c.code = cc) (hK : va_K D vwCl (TYS d) s) (hP : xR σ h0 D A h H) (hS : va_S A H0 H locs) (t0 : Nat) {r : vw_C} (ht : xtys[t0]? = some (.object r.1)) {ci : Nat} (hc : vwCl[ci]? = some r) {i : Int32} {x : Option Nat} (hσ : ∀ n g, σ (xaq (d t0) n g)) {Kw : xw → Prop} (hw : wstq h a (d t0) ci i x Kw) (hdg : decode cc pc = .ok (.aastore, 1))
    (kk : ∀ (h' : xw) (H1 : Heap) (locs1 : List Loc), Kw h' → xR σ h0 D A h' H1 → va_S A H0 H1 locs1 → W p l e R s m args below meth c H1 locs1 cells slots Q (F0 m (pc + 1) ls rest)) : W p l e R s m args below meth c H locs cells slots Q (F0 m pc ls (va_rf x :: .int i :: .ref a :: rest)) := by
  obtain ⟨n, g, h1, h2, hx, h3⟩ := hw
  obtain ⟨⟨L, f, q1, q2, q3⟩, hF⟩ := id hP
  obtain ⟨hm, hf⟩ := q1 a _ h1
  obtain ⟨k0, hk0⟩ := xpl_get (f := f) hm
  rw [hf] at hk0
  cases x with
  | none => exact va_astqN hexec hb hK q2 q3 hS k0 t0 hk0 (TYS_at ht) h2 hdg (fun H1 locs1 hP1 hD1 hS1 => kk _ H1 locs1 h3 ⟨xP_set q1 q3 h1 hk0 hP1 hD1, hF.set h1 (hσ _ _)⟩ hS1)
  | some b =>
    obtain ⟨vs, hv⟩ := hx b rfl
    obtain ⟨hm2, hf2⟩ := q1 b _ hv
    obtain ⟨k2, hk2⟩ := xpl_get (f := f) hm2
    rw [hf2] at hk2
    exact va_astq hexec hb hK q2 q3 hS k0 t0 k2 ci hk0 (TYS_at ht) hk2 hc h2 hdg (fun H1 locs1 hP1 hD1 hS1 => kk _ H1 locs1 h3 ⟨xP_set q1 q3 h1 hk0 hP1 hD1, hF.set h1 (hσ _ _)⟩ hS1)
/-- makings -/
theorem xnew (hexec : p.tables.exec = Jvm.exec) (hb : c.code = cc) {own C : String} {T : u_T} {N ci index : Nat} {Ts : List Cond} (hts : ∀ w ∈ Ts, w.before args s = true) (hin : ∀ w ∈ u_ws C T N, w ∈ Ts) (ty : Nat → FieldType) (hty : ∀ k, k < N → parseFieldDescriptor (T k).2.2.1 = some (ty k)) (hown : s.vm.findClass own = some m.cls) (hcl : (Cond.classLink own index C).before args s = true) (hinst : (Cond.instantiable C N).before args s = true) (hini : (Cond.initialized C).before args s = true)
    (hK : va_K D vwCl tys s) (hP : xR σ h0 D A h H) (hS : va_S A H0 H locs) (hA : ∀ q, H0.size ≤ q → A q) (hc : vwCl[ci]? = some (C, T, N)) {fs : List Value} (hfs : ∀ j, j < N → defaultValue (ty j) = vp_V fs j) (hcells : cells + 1 ≤ R.cells) (hslots : slots + N ≤ R.slots) {Kw : Nat → xw → Prop} (hw : wnew h (.inr (ci, fs)) Kw) (hdg : decode cc pc = .ok (.new index, 3))
    (kk : ∀ (q : Nat) (h' : xw) (H1 : Heap), Kw q h' → xR σ h0 D A h' H1 → va_S A H0 H1 locs → W p l e R s m args below meth c H1 locs (cells + 1) (slots + N) Q (F0 m (pc + 3) ls (.ref q :: rest))) : W p l e R s m args below meth c H locs cells slots Q (F0 m pc ls rest) := by
  obtain ⟨⟨L, f, q1, q2, q3⟩, hF⟩ := id hP
  exact va_new hexec hb hts hin ty hty hown hcl hinst hini hK q2 q3 hS hA hc hfs hcells hslots hdg (fun q H1 hP1 hD1 hS1 => by
    obtain ⟨e1, e2⟩ := xP_push q1 hP1 hD1
    exact kk q _ H1 (hw q e1) ⟨e2, hF.push e1⟩ hS1)
theorem xnewq (hexec : p.tables.exec = Jvm.exec) (hb : c.code = cc) {own C : String} {index B : Nat} (hown : s.vm.findClass own = some m.cls) (hclink : (Cond.classLink own index C).before args s = true) (hover : va_AO C s) (hK : va_K D vwCl (TYS d) s) (hP : xR σ h0 D A h H) (hS : va_S A H0 H locs) (hA : ∀ q, H0.size ≤ q → A q)
    (t0 : Nat) (ht : xtys[t0]? = some (.object C)) {n : Int32} (hB : B * 4 ≤ 536870912) (hcells : cells + 1 ≤ R.cells) (hslots : slots + B ≤ R.slots) {Kw : Nat → xw → Prop} (hw : wnewA h B n (fun n => xaq (d t0) n (fun _ => none)) Kw) (hdg : decode cc pc = .ok (.anewarray index, 3))
    (kk : ∀ (q : Nat) (h' : xw) (H1 : Heap), Kw q h' → xR σ h0 D A h' H1 → va_S A H0 H1 locs → W p l e R s m args below meth c H1 locs (cells + 1) (slots + B) Q (F0 m (pc + 3) ls (.ref q :: rest))) : W p l e R s m args below meth c H locs cells slots Q (F0 m pc ls (.int n :: rest)) := by
  obtain ⟨hn, hle, hw⟩ := hw
  obtain ⟨⟨L, f, q1, q2, q3⟩, hF⟩ := id hP
  refine va_newq hexec hb hown hclink hover hK q2 q3 hS hA hn rfl (by omega) hcells (by omega) hdg (fun q cA H1 hK1 hP1 hD1 hS1 => ?_)
  have e9 : cA = d t0 := by
    have a1 := (hK.2 t0 _ (TYS_at ht)).2
    have a2 := (hK1.2 (TYS d).length (cA, .object C) (by simp)).2
    obtain ⟨_, _, _, _, _, b1⟩ := a1
    obtain ⟨_, _, _, _, _, b2⟩ := a2
    exact Option.some.inj (b2.symm.trans b1)
  subst e9
  obtain ⟨e1, e2⟩ := xP_push q1 hP1 hD1
  exact W.widen (Nat.le_refl _) (by omega) (kk q _ H1 (hw q e1) ⟨e2, hF.push e1⟩ hS1)
theorem xnewi (hexec : p.tables.exec = Jvm.exec) (hb : c.code = cc) {B : Nat} (harr : (Cond.arrayClass .int).before args s = true) (hK : va_K D vwCl (TYS d) s) (hP : xR σ h0 D A h H) (hS : va_S A H0 H locs) (hA : ∀ q, H0.size ≤ q → A q)
    (t0 : Nat) (ht : xtys[t0]? = some .int) {n : Int32} (hB : B * 4 ≤ 536870912) (hcells : cells + 1 ≤ R.cells) (hslots : slots + B ≤ R.slots) {Kw : Nat → xw → Prop} (hw : wnewA h B n (fun n => xai (d t0) n (fun _ => 0)) Kw) (hdg : decode cc pc = .ok (.newarray .int, 2))
    (kk : ∀ (q : Nat) (h' : xw) (H1 : Heap), Kw q h' → xR σ h0 D A h' H1 → va_S A H0 H1 locs → W p l e R s m args below meth c H1 locs (cells + 1) (slots + B) Q (F0 m (pc + 2) ls (.ref q :: rest))) : W p l e R s m args below meth c H locs cells slots Q (F0 m pc ls (.int n :: rest)) := by
  obtain ⟨hn, hle, hw⟩ := hw
  obtain ⟨⟨L, f, q1, q2, q3⟩, hF⟩ := id hP
  refine va_newa (atype := .int) (ty := .int) (a0 := (n.toNatClampNeg, .inl (fun _ => 0))) hexec hb harr rfl hK q2 q3 hS hA (fun _ => rfl) hn rfl (by show n.toNatClampNeg * 4 ≤ _; omega) hcells (by omega) hdg (fun q cA H1 hK1 hP1 hD1 hS1 => ?_)
  have e9 : cA = d t0 := by
    have a1 := (hK.2 t0 _ (TYS_at ht)).2
    have a2 := (hK1.2 (TYS d).length (cA, .int) (by simp)).2
    exact Option.some.inj (a2.symm.trans a1)
  subst e9
  obtain ⟨e1, e2⟩ := xP_push q1 hP1 hD1
  exact W.widen (Nat.le_refl _) (by omega) (kk q _ H1 (hw q e1) ⟨e2, hF.push e1⟩ hS1)
theorem xnewz (hexec : p.tables.exec = Jvm.exec) (hb : c.code = cc) {B : Nat} (harr : (Cond.arrayClass .boolean).before args s = true) (hK : va_K D vwCl (TYS d) s) (hP : xR σ h0 D A h H) (hS : va_S A H0 H locs) (hA : ∀ q, H0.size ≤ q → A q)
    (t0 : Nat) (ht : xtys[t0]? = some .boolean) {n : Int32} (hB : B * 1 ≤ 536870912) (hcells : cells + 1 ≤ R.cells) (hslots : slots + B ≤ R.slots) {Kw : Nat → xw → Prop} (hw : wnewA h B n (fun n => xai (d t0) n (fun _ => 0)) Kw) (hdg : decode cc pc = .ok (.newarray .boolean, 2))
    (kk : ∀ (q : Nat) (h' : xw) (H1 : Heap), Kw q h' → xR σ h0 D A h' H1 → va_S A H0 H1 locs → W p l e R s m args below meth c H1 locs (cells + 1) (slots + B) Q (F0 m (pc + 2) ls (.ref q :: rest))) : W p l e R s m args below meth c H locs cells slots Q (F0 m pc ls (.int n :: rest)) := by
  obtain ⟨hn, hle, hw⟩ := hw
  obtain ⟨⟨L, f, q1, q2, q3⟩, hF⟩ := id hP
  refine va_newa (atype := .boolean) (ty := .boolean) (a0 := (n.toNatClampNeg, .inl (fun _ => 0))) hexec hb harr rfl hK q2 q3 hS hA (fun _ => rfl) hn rfl (by show n.toNatClampNeg * 1 ≤ _; omega) hcells (by omega) hdg (fun q cA H1 hK1 hP1 hD1 hS1 => ?_)
  have e9 : cA = d t0 := by
    have a1 := (hK.2 t0 _ (TYS_at ht)).2
    have a2 := (hK1.2 (TYS d).length (cA, .boolean) (by simp)).2
    exact Option.some.inj (a2.symm.trans a1)
  subst e9
  obtain ⟨e1, e2⟩ := xP_push q1 hP1 hD1
  exact W.widen (Nat.le_refl _) (by omega) (kk q _ H1 (hw q e1) ⟨e2, hF.push e1⟩ hS1)
theorem xnewl (hexec : p.tables.exec = Jvm.exec) (hb : c.code = cc) {B : Nat} (harr : (Cond.arrayClass .long).before args s = true) (hK : va_K D vwCl (TYS d) s) (hP : xR σ h0 D A h H) (hS : va_S A H0 H locs) (hA : ∀ q, H0.size ≤ q → A q)
    (t0 : Nat) (ht : xtys[t0]? = some .long) {n : Int32} (hB : B * 8 ≤ 536870912) (hcells : cells + 1 ≤ R.cells) (hslots : slots + B ≤ R.slots) {Kw : Nat → xw → Prop} (hw : wnewA h B n (fun n => xal (d t0) n (fun _ => 0)) Kw) (hdg : decode cc pc = .ok (.newarray .long, 2))
    (kk : ∀ (q : Nat) (h' : xw) (H1 : Heap), Kw q h' → xR σ h0 D A h' H1 → va_S A H0 H1 locs → W p l e R s m args below meth c H1 locs (cells + 1) (slots + B) Q (F0 m (pc + 2) ls (.ref q :: rest))) : W p l e R s m args below meth c H locs cells slots Q (F0 m pc ls (.int n :: rest)) := by
  obtain ⟨hn, hle, hw⟩ := hw
  obtain ⟨⟨L, f, q1, q2, q3⟩, hF⟩ := id hP
  refine va_newa (atype := .long) (ty := .long) (a0 := (n.toNatClampNeg, .inr (.inl (fun _ => 0)))) hexec hb harr rfl hK q2 q3 hS hA (fun _ => rfl) hn rfl (by show n.toNatClampNeg * 8 ≤ _; omega) hcells (by omega) hdg (fun q cA H1 hK1 hP1 hD1 hS1 => ?_)
  have e9 : cA = d t0 := by
    have a1 := (hK.2 t0 _ (TYS_at ht)).2
    have a2 := (hK1.2 (TYS d).length (cA, .long) (by simp)).2
    exact Option.some.inj (a2.symm.trans a1)
  subst e9
  obtain ⟨e1, e2⟩ := xP_push q1 hP1 hD1
  exact W.widen (Nat.le_refl _) (by omega) (kk q _ H1 (hw q e1) ⟨e2, hF.push e1⟩ hS1)
/-- what a method's body knows from its entry on -/
def xctx (p : Program) (s : State) (m : MethodId) (args : Array Value) (meth : Method) (c : Code) (cc : ByteArray) (nL : Nat) (ret : Option FieldType) (own : String) (D : va_G) (d : Nat → ClassId) (A : Nat → Prop) (XT : Prop) : Prop :=
  p.tables.exec = Jvm.exec ∧ c.code = cc ∧ meth.sig.returnType = ret ∧ c.maxLocals = nL ∧ s.vm.findClass own = some m.cls ∧ (∀ w ∈ TB, w.before args s = true) ∧ va_K D vwCl (TYS d) s ∧ (∀ q, s.heap.size ≤ q → A q) ∧ xN s ∧ meth.locks = false ∧ XT
variable {nL : Nat} {own : String} {XT : Prop}
theorem xretI (C0 : xctx p s m args meth c cc nL (some .int) own D d A XT) {Qf : Int32 → xw → Prop} {v : Int32} (hw : Qf v h) (hP : xR σ h0 D A h H) (hS : va_S A s.heap H locs) (hdg : decode cc pc = .ok (.ireturn, 1)) : W p l e R s m args below meth c H locs cells slots (MQ below (va_Qi (fun r u => Qf r u ∧ xfr σ h0 u) (xB D d A) A) args s cells slots A) (F0 m pc ls [.int v]) := by
  obtain ⟨hx, hb, hr, hml, hown, htb, hK, hA, hNB, hlocks, -⟩ := C0
  exact W.iret hx hb hr (fun t ht hW => ⟨⟨v, h, rfl, ⟨hw, hP.2⟩, by rw [ht]; exact hP.1, va_K.moved hW.alike hK⟩, hS.F ht⟩) hS.2.2 hdg hlocks
theorem xretZ (C0 : xctx p s m args meth c cc nL (some .boolean) own D d A XT) {Qf : Int32 → xw → Prop} {v : Int32} (hw : wZ v (Qf v h)) (hP : xR σ h0 D A h H) (hS : va_S A s.heap H locs) (hdg : decode cc pc = .ok (.ireturn, 1)) : W p l e R s m args below meth c H locs cells slots (MQ below (va_Qi (fun r u => Qf r u ∧ xfr σ h0 u) (xB D d A) A) args s cells slots A) (F0 m pc ls [.int v]) := by
  obtain ⟨hx, hb, hr, hml, hown, htb, hK, hA, hNB, hlocks, -⟩ := C0
  obtain ⟨hv, hw⟩ := hw
  exact W.zret hx hb hr (by rcases hv with rfl | rfl <;> rfl) (fun t ht hW => ⟨⟨v, h, rfl, ⟨hw, hP.2⟩, by rw [ht]; exact hP.1, va_K.moved hW.alike hK⟩, hS.F ht⟩) hS.2.2 hdg hlocks
theorem xretL (C0 : xctx p s m args meth c cc nL (some .long) own D d A XT) {Qf : Int64 → xw → Prop} {v : Int64} (hw : Qf v h) (hP : xR σ h0 D A h H) (hS : va_S A s.heap H locs) (hdg : decode cc pc = .ok (.lreturn, 1)) : W p l e R s m args below meth c H locs cells slots (MQ below (va_Ql (fun r u => Qf r u ∧ xfr σ h0 u) (xB D d A) A) args s cells slots A) (F0 m pc ls [.long v]) := by
  obtain ⟨hx, hb, hr, hml, hown, htb, hK, hA, hNB, hlocks, -⟩ := C0
  exact W.lret hx hb hr (fun t ht hW => ⟨⟨v, h, rfl, ⟨hw, hP.2⟩, by rw [ht]; exact hP.1, va_K.moved hW.alike hK⟩, hS.F ht⟩) hS.2.2 hdg hlocks
theorem xretV (C0 : xctx p s m args meth c cc nL none own D d A XT) {Qf : xw → Prop} (hw : Qf h) (hP : xR σ h0 D A h H) (hS : va_S A s.heap H locs) (hdg : decode cc pc = .ok (.return_, 1)) : W p l e R s m args below meth c H locs cells slots (MQ below (va_Qv (fun u => Qf u ∧ xfr σ h0 u) (xB D d A) A) args s cells slots A) (F0 m pc ls []) := by
  obtain ⟨hx, hb, hr, hml, hown, htb, hK, hA, hNB, hlocks, -⟩ := C0
  exact W.vret hx hb hr (fun t ht hW => ⟨⟨h, rfl, ⟨hw, hP.2⟩, by rw [ht]; exact hP.1, va_K.moved hW.alike hK⟩, hS.F ht⟩) hS.2.2 hdg hlocks
theorem xretA {C9 : String} (C0 : xctx p s m args meth c cc nL (some (.object C9)) own D d A XT) {Qf : Option Nat → xw → Prop} {v : Option Nat} (hw : Qf v h) (hP : xR σ h0 D A h H) (hS : va_S A s.heap H locs) (hdg : decode cc pc = .ok (.areturn, 1)) : W p l e R s m args below meth c H locs cells slots (MQ below (va_Qq (fun r u => Qf r u ∧ xfr σ h0 u) (xB D d A) A) args s cells slots A) (F0 m pc ls [va_rf v]) := by
  obtain ⟨hx, hb, hr, hml, hown, htb, hK, hA, hNB, hlocks, -⟩ := C0
  exact W.aret hx hb hr (Or.inl ⟨_, rfl⟩) (va_rf_or v) (fun t ht hW => ⟨⟨v, h, rfl, ⟨hw, hP.2⟩, by rw [ht]; exact hP.1, va_K.moved hW.alike hK⟩, hS.F ht⟩) hS.2.2 hdg hlocks
variable {mc ms : Nat} {st0 : List Value} {aa : Array Value}
theorem xcalli {Qf : Int32 → xw → Prop} (hr : va_Run p l e R s m args below meth c H locs cells slots mc ms (F0 m pc ls st0) rest (va_Qi (fun r u => Qf r u ∧ xfr σ h u) (xB D d (xA h H.size)) (xA h H.size) aa) (xA h H.size)) (hP : xR σ h0 D A h H) (hS : va_S A H0 H locs) (hA : ∀ q, H0.size ≤ q → A q)
    (kk : ∀ (r : Int32) (u : xw) (H1 : Heap) (locs1 : List Loc), Qf r u → xR σ h0 D A u H1 → va_S A H0 H1 locs1 → W p l e R s m args below meth c H1 locs1 (cells + mc) (slots + ms) Q (F0 m (pc + 3) ls (.int r :: rest))) : W p l e R s m args below meth c H locs cells slots Q (F0 m pc ls st0) := by
  have hsub := xA_sub hP.1 hS hA
  exact va_calli hr hS (fun q _ hq => hsub q hq) hsub (fun r u t H1 locs1 ht hvm hpost hB hz hk hS1 => kk r u H1 locs1 hpost.1 ⟨by rw [← ht]; exact hB.1.weaken hsub, hP.2.tr hpost.2⟩ hS1)
theorem xcalll {Qf : Int64 → xw → Prop} (hr : va_Run p l e R s m args below meth c H locs cells slots mc ms (F0 m pc ls st0) rest (va_Ql (fun r u => Qf r u ∧ xfr σ h u) (xB D d (xA h H.size)) (xA h H.size) aa) (xA h H.size)) (hP : xR σ h0 D A h H) (hS : va_S A H0 H locs) (hA : ∀ q, H0.size ≤ q → A q)
    (kk : ∀ (r : Int64) (u : xw) (H1 : Heap) (locs1 : List Loc), Qf r u → xR σ h0 D A u H1 → va_S A H0 H1 locs1 → W p l e R s m args below meth c H1 locs1 (cells + mc) (slots + ms) Q (F0 m (pc + 3) ls (.long r :: rest))) : W p l e R s m args below meth c H locs cells slots Q (F0 m pc ls st0) := by
  have hsub := xA_sub hP.1 hS hA
  exact va_calll hr hS (fun q _ hq => hsub q hq) hsub (fun r u t H1 locs1 ht hvm hpost hB hz hk hS1 => kk r u H1 locs1 hpost.1 ⟨by rw [← ht]; exact hB.1.weaken hsub, hP.2.tr hpost.2⟩ hS1)
theorem xcallq {Qf : Option Nat → xw → Prop} (hr : va_Run p l e R s m args below meth c H locs cells slots mc ms (F0 m pc ls st0) rest (va_Qq (fun r u => Qf r u ∧ xfr σ h u) (xB D d (xA h H.size)) (xA h H.size) aa) (xA h H.size)) (hP : xR σ h0 D A h H) (hS : va_S A H0 H locs) (hA : ∀ q, H0.size ≤ q → A q)
    (kk : ∀ (r : Option Nat) (u : xw) (H1 : Heap) (locs1 : List Loc), Qf r u → xR σ h0 D A u H1 → va_S A H0 H1 locs1 → W p l e R s m args below meth c H1 locs1 (cells + mc) (slots + ms) Q (F0 m (pc + 3) ls (va_rf r :: rest))) : W p l e R s m args below meth c H locs cells slots Q (F0 m pc ls st0) := by
  have hsub := xA_sub hP.1 hS hA
  exact va_callq hr hS (fun q _ hq => hsub q hq) hsub (fun r u t H1 locs1 ht hvm hpost hB hz hk hS1 => kk r u H1 locs1 hpost.1 ⟨by rw [← ht]; exact hB.1.weaken hsub, hP.2.tr hpost.2⟩ hS1)
theorem xcallv {Qf : xw → Prop} (hr : va_Run p l e R s m args below meth c H locs cells slots mc ms (F0 m pc ls st0) rest (va_Qv (fun u => Qf u ∧ xfr σ h u) (xB D d (xA h H.size)) (xA h H.size) aa) (xA h H.size)) (hP : xR σ h0 D A h H) (hS : va_S A H0 H locs) (hA : ∀ q, H0.size ≤ q → A q)
    (kk : ∀ (u : xw) (H1 : Heap) (locs1 : List Loc), Qf u → xR σ h0 D A u H1 → va_S A H0 H1 locs1 → W p l e R s m args below meth c H1 locs1 (cells + mc) (slots + ms) Q (F0 m (pc + 3) ls rest)) : W p l e R s m args below meth c H locs cells slots Q (F0 m pc ls st0) := by
  have hsub := xA_sub hP.1 hS hA
  exact va_callv hr hS (fun q _ hq => hsub q hq) hsub (fun u t H1 locs1 ht hvm hpost hB hz hk hS1 => kk u H1 locs1 hpost.1 ⟨by rw [← ht]; exact hB.1.weaken hsub, hP.2.tr hpost.2⟩ hS1)
theorem TB_in {w0 : Cond} (h0 : w0 ∈ TB) : GoodIn TB (w0 :: TB) := fun w hw => by
  rcases List.mem_cons.mp hw with rfl | hw
  · exact ⟨h0, TB_good _ h0⟩
  · exact ⟨hw, TB_good _ hw⟩
variable {C : String} {index maxL : Nat} {y : MethodName} {bytes : ByteArray} {ret : Option FieldType} {rm : Room}
theorem xcwV (n : Nat) (htb : ∀ w ∈ TB, w.before args s = true) (h1 : Cond.code y bytes maxL ret ∈ TB) (h2 : Cond.initialized y.cls ∈ TB) (h3 : Cond.methodLink own index y ∈ TB) (h4 : Cond.instanceMethod y ∈ TB) (h5 : Cond.selects C y y ∈ TB) (hrc : rm.cells = mc) (hrs : rm.slots = ms) (hd : y.cls ≠ "java/lang/invoke/MethodHandle" ∧ y.cls ≠ "java/lang/invoke/VarHandle" ∧ (parseMethodDescriptor y.desc).map (fun d => d.parameters.length) = some n) (hR : rm.frames + 1 ≤ R.frames ∧ 8 + (maxL + 11) + rm.locals ≤ R.locals) : CallW R s args own C index y bytes maxL ret (Cond.code y bytes maxL ret :: TB) rm mc ms n :=
  ⟨callB_of n htb (TB_in h1) rfl hrc hrs (htb _ h2) (htb _ h3) hd hR, htb _ h4, htb _ h5⟩
theorem xcwS (n : Nat) (htb : ∀ w ∈ TB, w.before args s = true) (h1 : Cond.code y bytes maxL ret ∈ TB) (h2 : Cond.initialized y.cls ∈ TB) (h3 : Cond.methodLink own index y ∈ TB) (h4 : Cond.static y ∈ TB) (hrc : rm.cells = mc) (hrs : rm.slots = ms) (hd : y.cls ≠ "java/lang/invoke/MethodHandle" ∧ y.cls ≠ "java/lang/invoke/VarHandle" ∧ (parseMethodDescriptor y.desc).map (fun d => d.parameters.length) = some n) (hR : rm.frames + 1 ≤ R.frames ∧ 8 + (maxL + 11) + rm.locals ≤ R.locals) : CallB R s args own index y bytes maxL ret (Cond.code y bytes maxL ret :: TB) rm mc ms n ∧ (Cond.static y).before args s = true :=
  ⟨callB_of n htb (TB_in h1) rfl hrc hrs (htb _ h2) (htb _ h3) hd hR, htb _ h4⟩
theorem xcwI (n : Nat) (htb : ∀ w ∈ TB, w.before args s = true) (h1 : Cond.code y bytes maxL none ∈ TB) (h2 : Cond.initialized y.cls ∈ TB) (h3 : Cond.methodLink own index y ∈ TB) (h4 : Cond.instanceMethod y ∈ TB) (hy : y.name = "<init>") (hrc : rm.cells = mc) (hrs : rm.slots = ms) (hd : y.cls ≠ "java/lang/invoke/MethodHandle" ∧ y.cls ≠ "java/lang/invoke/VarHandle" ∧ (parseMethodDescriptor y.desc).map (fun d => d.parameters.length) = some n) (hR : rm.frames + 1 ≤ R.frames ∧ 8 + (maxL + 11) + rm.locals ≤ R.locals) : CallB R s args own index y bytes maxL none (Cond.code y bytes maxL none :: TB) rm mc ms n ∧ y.name = "<init>" ∧ (Cond.instanceMethod y).before args s = true :=
  ⟨callB_of n htb (TB_in h1) rfl hrc hrs (htb _ h2) (htb _ h3) hd hR, hy, htb _ h4⟩
theorem xcwIN {host : String} (n : Nat) (htb : ∀ w ∈ TB, w.before args s = true) (h1 : Cond.code y bytes maxL none ∈ TB) (h2 : Cond.initialized y.cls ∈ TB) (h3 : va_Nw (.methodLinkNest own index y host) s) (h4 : Cond.instanceMethod y ∈ TB) (hy : y.name = "<init>") (hrc : rm.cells = mc) (hrs : rm.slots = ms) (hd : y.cls ≠ "java/lang/invoke/MethodHandle" ∧ y.cls ≠ "java/lang/invoke/VarHandle" ∧ (parseMethodDescriptor y.desc).map (fun d => d.parameters.length) = some n) (hR : rm.frames + 1 ≤ R.frames ∧ 8 + (maxL + 11) + rm.locals ≤ R.locals) : va_CN R s args own index y host bytes maxL none (Cond.code y bytes maxL none :: TB) rm mc ms n ∧ y.name = "<init>" ∧ (Cond.instanceMethod y).before args s = true :=
  ⟨va_cnB n htb (TB_in h1) rfl hrc hrs h3 (htb _ h2) hd hR, hy, htb _ h4⟩
end XROWS
/-! what throws, and who catches -/
theorem xP.kept {D : va_G} {A : Nat → Prop} {h : xw} {H H1 : Heap} (hP : xP D A h H) (hk : ∀ q : Nat, q < H.size → H1[q]? = H[q]?) : xP D A h H1 := by
  obtain ⟨L, f, h1, h2, h3⟩ := hP
  exact ⟨L, f, h1, h2.kept (fun k q hq => hk q.1 (h2 k q hq).lt), h3⟩
def xStr (s : State) : Prop := ∀ q ∈ xstrs, ∃ sa, vk_R q.1 q.2.1 q.2.2 sa s
def xT (l : Launch) (s : State) (c : Code) (A : Nat → Prop) : Prop := l.stackTraces = false ∧ vx_Zq Bundle.tN "UNASSIGNED_STACK" Bundle.steD A s s.heap ∧ vx_Zq Bundle.tN "SUPPRESSED_SENTINEL" Bundle.listD A s s.heap ∧ xStr s ∧ ∀ x ∈ c.exceptionTable.toList, False
def xPreX (D : va_G) (d : Nat → ClassId) (h : xw) (av : List Value) (sz : Nat) : Array Value → State → Prop := va_Pc av (fun U => U.heap.size = sz ∧ xP D (fun _ => True) h U.heap ∧ va_K D vwCl (TYS d) U ∧ xN U ∧ vx_Zq Bundle.tN "UNASSIGNED_STACK" Bundle.steD (xA h sz) U U.heap ∧ vx_Zq Bundle.tN "SUPPRESSED_SENTINEL" Bundle.listD (xA h sz) U U.heap ∧ xStr U)
theorem xPreX_blind {D : va_G} {d : Nat → ClassId} {h : xw} {av : List Value} {sz : Nat} : FrameBlind (xPreX D d h av sz) := fun a U g mk q => by
  obtain ⟨q0, q1, qP, qK, qN, z1, z2, qs⟩ := q
  exact ⟨q0, q1, qP, va_K.moved (u := U) (U := U.calling g mk a) (Vm.Alike.refl U.vm) qK, xN.same (s := U) (U := U.calling g mk a) rfl qN, vx_Zq.moved (u := U) (U := U.calling g mk a) (Vm.Alike.refl U.vm) z1, vx_Zq.moved (u := U) (U := U.calling g mk a) (Vm.Alike.refl U.vm) z2, fun w hw => by
    obtain ⟨sa, hs⟩ := qs w hw
    exact ⟨sa, vk_R.same (u := U) rfl hs⟩⟩
section XTHROW
variable {p : Program} {l : Launch} {e : Env} {R : Room} {s : State} {m : MethodId} {args : Array Value} {below : List Frame} {meth : Method} {c : Code} {H : Heap} {locs : List Loc} {cells slots : Nat}
variable {cc : ByteArray} {pc : Nat} {ls : Array Slot} {rest : List Value} {D : va_G} {d : Nat → ClassId} {A : Nat → Prop} {h h0 : xw} {σ : va_E → Prop} {nL : Nat} {own : String} {ret : Option FieldType} {Qc : Array Value → State → Outcome → State → Prop}
theorem xthrow (C0 : xctx p s m args meth c cc nL ret own D d A (xT l s c A)) {cls text : String} {names : List String} {ik is ic mc ms : Nat} {X : String → xw → Prop}
    (hcls : Bundle.fit cls = true) (hnames : ∀ n ∈ names, Bundle.fit n = true) (hk : Cond.classLink own ik cls ∈ TB) (hini : Cond.initialized cls ∈ TB) (hstr : (own, is, text) ∈ xstrs) (hat : ∀ w ∈ vx_atS own ic cls names, w ∈ TB ∨ w ∈ NB) (hgood : ∀ w ∈ vx_atS own ic cls names, vx_ot w = true) (hg1 : vx_ot (.classLink own ik cls) = true) (hg2 : vx_ot (.initialized cls) = true)
    (hw : X cls h) (hP : xR σ h0 D A h H) (hS : va_S A s.heap H locs) {lv : List (Nat × Value)} (hl : lv_has ls nL lv)
    (d0 : decode cc pc = .ok (.new ik, 3)) (d3 : decode cc (pc + 3) = .ok (.dup, 1)) (d4 : decode cc (pc + 4) = .ok (.ldc is, 2)) (d6 : decode cc (pc + 6) = .ok (.invokespecial ic, 3)) (d9 : decode cc (pc + 9) = .ok (.athrow, 1))
    (hRframes : names.length + 3 < R.frames) (hRlocals : (rest.map fun v => v.category).sum + (13 * (names.length + 1) + 43) ≤ R.locals) (hRcells : cells + 1 ≤ R.cells) (hRslots : slots + 6 ≤ R.slots) (hc : cells + 1 ≤ mc) (hs : slots + 6 ≤ ms) :
    W p l e R s m args below meth c H locs cells slots (vx_MQ below Qc (xX (fun E u => X E u ∧ xfr σ h0 u) D d A) args s mc ms A) (F0 m pc ls rest) := by
  obtain ⟨hx, hb, hr, hml, hown, htb, hK, hA, hNB, hlocks, hlt, hU, hN, hSt, htab⟩ := C0
  obtain ⟨sa, hsa⟩ := hSt _ hstr
  refine vx_throwS hx hb hlt hown hcls hnames (htb _ hk) (htb _ hini) hsa (fun w hw => (hat w hw).elim (htb w) (fun q => va_Nw.use (NB_tabs w q) (hNB.1 w q))) (fun w hw => ?_) hU hN hS (hl.1.trans hml.symm) d0 d3 d4 d6 d9 (fun x hx => (htab x hx).elim) hRframes hRlocals hRcells hRslots hlocks (fun t hvm hz hk => ?_) hS.2.2 hc hs
  · rcases List.mem_cons.mp hw with rfl | hw
    · exact hg1
    · rcases List.mem_cons.mp hw with rfl | hw
      · exact hg2
      · exact hgood w hw
  · exact ⟨h, trivial, ⟨⟨hw, hP.2⟩, hP.1.kept hk, va_K.moved hvm hK⟩, Nat.le_trans hS.1 hz, fun q h1 h2 => (hk q (Nat.lt_of_lt_of_le h1 hS.1)).trans (hS.2.1 q h1 h2)⟩
end XTHROW
