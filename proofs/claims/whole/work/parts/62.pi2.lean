/-! the same under a cleaning and under a drop -/
theorem srt {f : Nat → Bool} : ∀ {L : List Nat}, L.Pairwise (fun a b => f b = true → f a = true) → L.takeWhile f = L.filter f ∧ L = L.filter f ++ L.filter (fun b => !f b) := by
  intro L
  induction L with
  | nil => intro _; exact ⟨rfl, rfl⟩
  | cons a r ih =>
    intro hp
    obtain ⟨h1, h2⟩ := List.pairwise_cons.mp hp
    obtain ⟨i1, i2⟩ := ih h2
    by_cases c : f a = true
    · refine ⟨by simp [c, i1], ?_⟩
      simp only [c, List.filter_cons_of_pos, Bool.not_true, List.cons_append]
      rw [List.filter_cons_of_neg (by simp [c]), ← i2]
    · have hn : ∀ b ∈ r, ¬ f b = true := fun b hb q => c (h1 b hb q)
      have e1 : r.filter f = [] := List.filter_eq_nil_iff.mpr hn
      have e2 : r.filter (fun b => !f b) = r := List.filter_eq_self.mpr (fun b hb => by simpa using hn b hb)
      refine ⟨by simp [c, e1], ?_⟩
      rw [List.filter_cons_of_neg c, e1, List.filter_cons_of_pos (by simpa using c), e2, List.nil_append]
theorem fT_filter2 {α : Type} {p cB : Nat → Bool} {f : α → Bool} (L : List α) : (∀ i a, L[i]? = some a → cB i = f a) → (fT p L).filter f = fT (fun i => cB i && p i) L := by
  refine snoc_ind (P := fun L => (∀ i a, L[i]? = some a → cB i = f a) → (fT p L).filter f = fT (fun i => cB i && p i) L) (fun _ => rfl) (fun l a ih hh => ?_) L
  have h1 := ih (fun i b hb => hh i b (by rw [List.getElem?_append_left (List.getElem?_eq_some_iff.mp hb).1]; exact hb))
  have h2 := hh l.length a (by simp)
  rw [fT_snoc, fT_snoc, ← h1, h2]
  by_cases c1 : f a = true <;> by_cases c2 : p l.length = true <;> simp [c1, c2]
theorem fT_keep {α : Type} {p : Nat → Bool} {g : α → Bool} (L : List α) : (∀ i a, L[i]? = some a → g a = true → p i = true) → (fT p L).filter g = L.filter g := by
  refine snoc_ind (P := fun L => (∀ i a, L[i]? = some a → g a = true → p i = true) → (fT p L).filter g = L.filter g) (fun _ => rfl) (fun l a ih hh => ?_) L
  have h1 := ih (fun i b hb => hh i b (by rw [List.getElem?_append_left (List.getElem?_eq_some_iff.mp hb).1]; exact hb))
  have h2 := hh l.length a (by simp)
  rw [fT_snoc, List.filter_append, ← h1]
  by_cases c1 : g a = true
  · rw [if_pos (h2 c1), List.filter_append]
  · have e : [a].filter g = [] := by simp [c1]
    rw [e, List.append_nil]
    split
    · rw [List.filter_append, e, List.append_nil]
    · rfl
theorem fold_congr {sz sz' : Nat → Int32} {l : List Nat} (h : ∀ b ∈ l, sz b = sz' b) : l.foldl (fun z b => z + sz b) 0 = l.foldl (fun z b => z + sz' b) 0 := by
  revert h
  refine snoc_ind (P := fun l => (∀ b ∈ l, sz b = sz' b) → l.foldl (fun z b => z + sz b) (0 : Int32) = l.foldl (fun z b => z + sz' b) 0) (fun _ => rfl) (fun l a ih h => ?_) l
  rw [List.foldl_append, List.foldl_append, ih (fun b hb => h b (List.mem_append_left _ hb))]
  show _ + sz a = _ + sz' a
  rw [h a (List.mem_append_right _ (List.mem_singleton.mpr rfl))]
theorem segsOf_facts : ∀ (l : List Int32) (s : Int32 × Int32) (n : Nat), (s.1.toInt = -1 ∨ 0 ≤ s.1.toInt) → s.1.toInt < n → n + l.length < 2 ^ 30 → (∀ x ∈ segsOf s l, s.1.toInt ≤ x.toInt ∧ 0 ≤ x.toInt ∧ x.toInt ≤ (l.foldl plc s).1.toInt) ∧ (segsOf s l).Pairwise (fun a b => a ≤ b) := by
  intro l
  induction l with
  | nil => intro s n _ _ _; exact ⟨fun x hx => by simp [segsOf] at hx, List.Pairwise.nil⟩
  | cons a r ih =>
    intro s n h1 h2 h3
    have hl : (a :: r).length = r.length + 1 := rfl
    obtain ⟨p1, p2, p3⟩ := plc_bound [a] s n h1 h2 (by show n + 1 < _; omega)
    have p1 : s.1.toInt ≤ (plc s a).1.toInt := p1
    have p2 : (plc s a).1.toInt < (n : Int) + 1 := p2
    have p3 : 0 ≤ (plc s a).1.toInt := p3 (by simp)
    obtain ⟨q1, q2, q3⟩ := plc_bound r (plc s a) (n + 1) (Or.inr p3) (by omega) (by omega)
    obtain ⟨i1, i2⟩ := ih (plc s a) (n + 1) (Or.inr p3) (by omega) (by omega)
    have e : (a :: r).foldl plc s = r.foldl plc (plc s a) := rfl
    rw [e]
    refine ⟨fun x hx => ?_, ?_⟩
    · rcases List.mem_cons.mp hx with rfl | hx
      · exact ⟨p1, p3, q1⟩
      · obtain ⟨z1, z2, z3⟩ := i1 x hx
        exact ⟨by omega, z2, z3⟩
    · refine List.pairwise_cons.mpr ⟨fun x hx => Int32.le_iff_toInt_le.mpr (i1 x hx).1, i2⟩
theorem cut (l a b : List Nat) (h : l = a ++ b) : l.take a.length = a ∧ l.drop a.length = b := by
  subst h
  exact ⟨List.take_left, List.drop_left⟩
theorem i32_subI {a b : Int32} (h1 : 0 ≤ b.toInt) (h2 : b.toInt ≤ a.toInt) : (a - b).toInt = a.toInt - b.toInt := by
  rw [Int32.toInt_sub]
  have := Int32.toInt_lt a
  exact Int.bmod_eq_of_le (by omega) (by omega)
theorem PI_clean {T : Nat} {LB : List Nat} {B : Nat → BF} {el : Nat → List Nat} {E : Nat → EV} {dl : List Nat} {ls lf tt : Int32} (hP : PI T LB B el E dl ls lf) (hne : LB ≠ []) {el2 : Nat → List Nat} (hel2 : el2 = elG B el E ls tt) {L2 : List Nat} (hL2 : L2 = rmv B el2 ls LB) {sB : Nat → Bool} (hsB : ∀ i (hi : i < LB.length), sB i = !(decide ((B LB[i]).2.2.2 < ls) && ((el2 LB[i]).isEmpty && !knownS B LB[i] (LB.drop (i + 1)))))
    {m : Nat} (hm : m = (L2.takeWhile (fun b => decide ((B b).2.2.2 < ls))).length) {op : Int32} (hop : op = (((L2.take m).map (fun b => bsz E (el2 b))).foldl plc (-1, 0)).1 + 1) :
    m ≤ L2.length ∧ m = (L2.filter (fun b => decide ((B b).2.2.2 < ls))).length ∧ ∀ sg : Nat → Int32, (L2.take m).map sg = segsOf (-1, 0) ((L2.take m).map (fun b => bsz E (el2 b))) → (∀ b ∈ L2.drop m, sg b = op) → PI (T + 1) L2 (fun b => ((B b).1, (B b).2.1, (B b).2.2.1, sg b)) el2 E dl op lf := by
  obtain ⟨a1, a2, a3, a4, a5, a6, a7, a8, a9, a10, a11, a12⟩ := hP
  have hfT : L2 = fT sB LB := by rw [hL2]; exact rmv_fT B el2 ls LB sB hsB
  have hsub : L2.Sublist LB := by rw [hfT]; exact fT_sub _ _
  have hmono : ∀ {L : List Nat}, L.Sublist LB → L.Pairwise (fun a b => decide ((B b).2.2.2 < ls) = true → decide ((B a).2.2.2 < ls) = true) := fun {L} hs => (a8.sublist hs).imp (fun {a b} hab hb => by
    have h1 := Int32.lt_iff_toInt_lt.mp (of_decide_eq_true hb)
    have h2 := Int32.le_iff_toInt_le.mp hab
    exact decide_eq_true (Int32.lt_iff_toInt_lt.mpr (by omega)))
  obtain ⟨t1, t2⟩ := srt (hmono hsub)
  obtain ⟨u1, u2⟩ := srt (hmono (List.Sublist.refl LB))
  have hmf : m = (L2.filter (fun b => decide ((B b).2.2.2 < ls))).length := by rw [hm, t1]
  have htk : L2.take m = L2.filter (fun b => decide ((B b).2.2.2 < ls)) := by
    rw [hmf]
    exact (cut _ _ _ t2).1
  have hdr : L2.drop m = L2.filter (fun b => !decide ((B b).2.2.2 < ls)) := by
    rw [hmf]
    exact (cut _ _ _ t2).2
  have hml : m ≤ L2.length := by rw [hmf]; exact List.length_filter_le _ _
  have hop2 : L2.filter (fun b => !decide ((B b).2.2.2 < ls)) = LB.filter (fun b => !decide ((B b).2.2.2 < ls)) := by
    rw [hfT]
    refine fT_keep LB (fun i a ha hg => ?_)
    obtain ⟨hi, ha⟩ := List.getElem?_eq_some_iff.mp ha
    rw [hsB i hi, ha]
    simp only [Bool.not_eq_true', decide_eq_false_iff_not] at hg
    simp [hg]
  refine ⟨hml, hmf, fun sg hs1 hs2 => ?_⟩
  have hl2 : L2.length ≤ LB.length := hsub.length_le
  -- the last batch is open
  have hpos : 0 < LB.length := List.length_pos_iff.mpr hne
  have hlast : LB[LB.length - 1]? = some LB[LB.length - 1] := List.getElem?_eq_getElem (by omega)
  have hls0 := a10 _ hlast
  have hlm : LB[LB.length - 1] ∈ L2.drop m := by
    rw [hdr, hop2]
    refine List.mem_filter.mpr ⟨List.getElem_mem _, ?_⟩
    rw [hls0]
    simp only [Bool.not_eq_true', decide_eq_false_iff_not]
    exact fun q => absurd (Int32.lt_iff_toInt_lt.mp q) (by omega)
  have hdne : 0 < (L2.drop m).length := List.length_pos_of_mem hlm
  rw [List.length_drop] at hdne
  -- the packed segments
  have hszl : ((L2.take m).map (fun b => bsz E (el2 b))).length = m := by rw [List.length_map, List.length_take]; omega
  have em1 : (-1 : Int32).toInt = -1 := by decide
  have e0 : (0 : Int32).toInt = 0 := by decide
  obtain ⟨g1, g2⟩ := segsOf_facts ((L2.take m).map (fun b => bsz E (el2 b))) (-1, 0) 0 (Or.inl em1) (by show (-1 : Int32).toInt < _; rw [em1]; decide) (by omega)
  obtain ⟨f1, f2, f3⟩ := plc_bound ((L2.take m).map (fun b => bsz E (el2 b))) (-1, 0) 0 (Or.inl em1) (by show (-1 : Int32).toInt < _; rw [em1]; decide) (by omega)
  have f1 : (-1 : Int32).toInt ≤ (((L2.take m).map (fun b => bsz E (el2 b))).foldl plc (-1, 0)).1.toInt := f1
  rw [hszl] at f2
  have hopI : op.toInt = (((L2.take m).map (fun b => bsz E (el2 b))).foldl plc (-1, 0)).1.toInt + 1 := by
    rw [hop]
    exact i32_inc (by omega) (by omega)
  have sgt : ∀ b ∈ L2.take m, 0 ≤ (sg b).toInt ∧ (sg b).toInt < op.toInt := fun b hb => by
    have h1 := g1 (sg b) (by rw [← hs1]; exact List.mem_map.mpr ⟨b, hb, rfl⟩)
    omega
  have hall : ∀ b ∈ L2, b ∈ L2.take m ∨ b ∈ L2.drop m := fun b hb => by
    rw [← List.take_append_drop m L2] at hb
    exact List.mem_append.mp hb
  -- the records
  have hfl : L2.flatMap el2 = LB.flatMap el2 := by rw [hL2]; exact rmv_flat B el2 ls LB
  have hfs : (LB.flatMap el2).Sublist (LB.flatMap el) := by rw [hel2]; exact flat_sub B el E ls tt LB
  have hel : ∀ b, ¬ (B b).2.2.2 < ls → el2 b = el b := fun b hb => by rw [hel2]; exact if_neg hb
  refine ⟨by omega, ?_, a3, ?_, a5, fun e he => ?_, fun b hb => ?_, ?_, fun q => ?_, fun c hc => ?_, ⟨by omega, by omega⟩, ?_⟩
  · rw [hfl]
    have := hfs.length_le
    omega
  · rw [hfl, u2, List.flatMap_append]
    have e1 : (LB.filter (fun b => decide ((B b).2.2.2 < ls))).flatMap el2 = ((LB.filter (fun b => decide ((B b).2.2.2 < ls))).flatMap el).filter (fun a => !ego tt (E a)) := by
      rw [List.filter_flatMap]
      refine flat_congr (el := fun b => (el b).filter (fun a => !ego tt (E a))) (fun b hb => ?_)
      rw [hel2]
      exact if_pos (of_decide_eq_true (List.mem_filter.mp hb).2)
    have e2 : (LB.filter (fun b => !decide ((B b).2.2.2 < ls))).flatMap el2 = (LB.filter (fun b => !decide ((B b).2.2.2 < ls))).flatMap el := flat_congr (fun b hb => hel b (by simpa using (List.mem_filter.mp hb).2))
    rw [e1, e2]
    refine supOK_filter (p := fun a => !ego tt (E a)) (fun a ha => ?_) (by rw [← List.flatMap_append, ← u2]; exact a4)
    by_cases c : (E a).2.2.2.2.2.2 = 0
    · exact c
    · have := ego_t (t := tt).mpr (Or.inl c)
      rw [this] at ha
      cases ha
  · refine a6 e ?_
    rcases List.mem_append.mp he with h1 | h1
    · rw [hfl] at h1
      exact List.mem_append_left _ (hfs.subset h1)
    · exact List.mem_append_right _ h1
  · refine ⟨(a7 b (hsub.subset hb)).1, ?_, ?_⟩
    · rcases hall b hb with q | q
      · exact Int32.le_iff_toInt_le.mpr (by rw [e0]; exact (sgt b q).1)
      · show 0 ≤ sg b
        rw [hs2 b q]
        exact Int32.le_iff_toInt_le.mpr (by omega)
    · rcases hall b hb with q | q
      · exact Int32.le_iff_toInt_le.mpr (Int.le_of_lt (sgt b q).2)
      · show sg b ≤ op
        rw [hs2 b q]
        exact Int32.le_iff_toInt_le.mpr (Int.le_refl _)
  · rw [← List.take_append_drop m L2]
    refine List.pairwise_append.mpr ⟨?_, ?_, fun a ha b hb => ?_⟩
    · have h1 := g2
      rw [← hs1, List.pairwise_map] at h1
      exact h1
    · refine List.pairwise_iff_getElem.mpr (fun i j hi hj hij => ?_)
      show sg _ ≤ sg _
      rw [hs2 _ (List.getElem_mem hi), hs2 _ (List.getElem_mem hj)]
      exact Int32.le_iff_toInt_le.mpr (Int.le_refl _)
    · show sg a ≤ sg b
      rw [hs2 b hb]
      exact Int32.le_iff_toInt_le.mpr (Int.le_of_lt (sgt a ha).2)
  · rw [q] at hdne
    simp at hdne
  · show sg c = op
    refine hs2 c ?_
    obtain ⟨hi, hc⟩ := List.getElem?_eq_some_iff.mp hc
    exact List.mem_iff_getElem.mpr ⟨L2.length - 1 - m, by rw [List.length_drop]; omega, by rw [List.getElem_drop, ← hc]; congr 1; omega⟩
  · rw [a12]
    unfold opn
    have e1 : LB.filter (fun b => decide ((B b).2.2.2 = ls)) = LB.filter (fun b => !decide ((B b).2.2.2 < ls)) := by
      refine List.filter_congr (fun b hb => ?_)
      have h1 := Int32.le_iff_toInt_le.mp (a7 b hb).2.2
      by_cases c : (B b).2.2.2 = ls
      · rw [decide_eq_true c]
        have : ¬ (B b).2.2.2 < ls := fun q => by
          have := Int32.lt_iff_toInt_lt.mp q
          rw [c] at this
          omega
        simp [this]
      · rw [decide_eq_false c]
        have : (B b).2.2.2 < ls := Int32.lt_iff_toInt_lt.mpr (by
          have : (B b).2.2.2.toInt ≠ ls.toInt := fun q => c (Int32.toInt_inj.mp q)
          omega)
        simp [this]
    have e2 : L2.filter (fun b => decide (sg b = op)) = LB.filter (fun b => !decide ((B b).2.2.2 < ls)) := by
      conv => lhs; rw [← List.take_append_drop m L2]
      rw [List.filter_append, List.filter_eq_nil_iff.mpr (fun b hb => ?_), List.filter_eq_self.mpr (fun b hb => decide_eq_true (hs2 b hb)), List.nil_append, hdr, hop2]
      have h1 := (sgt b hb).2
      simp only [decide_eq_true_eq]
      exact fun q => by rw [q] at h1; omega
    show _ = (L2.filter (fun b => decide (sg b = op))).foldl (fun z b => z + bsz E (el2 b)) 0
    rw [e1, e2]
    refine fold_congr (fun b hb => ?_)
    rw [hel b (by simpa using (List.mem_filter.mp hb).2)]
theorem mny_facts {ls n : Int32} (hn : 0 ≤ n) (hl : -1 ≤ ls.toInt) : 0 ≤ (mny ls n).toInt ∧ (ls = -1 → mny ls n = 0) ∧ (0 ≤ ls.toInt → (mny ls n).toInt ≤ ls.toInt) := by
  have e0 : (0 : Int32).toInt = 0 := by decide
  have em1 : (-1 : Int32).toInt = -1 := by decide
  have h1 := Int32.le_iff_toInt_le.mp hn
  unfold mny
  by_cases c : ls < 0
  · rw [if_pos c]
    have c' := Int32.lt_iff_toInt_lt.mp c
    by_cases c2 : 0 < n
    · rw [if_pos c2]
      exact ⟨by omega, fun _ => rfl, fun _ => by omega⟩
    · rw [if_neg c2]
      have c2' := Int32.le_iff_toInt_le.mp (i32_nlt.mp c2)
      exact ⟨by omega, fun _ => Int32.toInt_inj.mp (by omega), fun _ => by omega⟩
  · rw [if_neg c]
    have c' := Int32.le_iff_toInt_le.mp (i32_nlt.mp c)
    by_cases c2 : ls < n
    · rw [if_pos c2]
      exact ⟨by omega, fun q => by rw [q] at c'; omega, fun _ => by omega⟩
    · rw [if_neg c2]
      have c2' := Int32.le_iff_toInt_le.mp (i32_nlt.mp c2)
      exact ⟨by omega, fun q => by rw [q] at c'; omega, fun _ => by omega⟩
theorem PI_drop {T : Nat} {LB : List Nat} {B : Nat → BF} {el : Nat → List Nat} {E : Nat → EV} {dl : List Nat} {ls lf n mn : Int32} (hP : PI T LB B el E dl ls lf) (hT : T ≤ 1000) (hn : 0 ≤ n) (hmn : mn = mny ls n) {L3 : List Nat} (hL3 : L3 = LB.filter (fun b => decide (mn ≤ (B b).2.2.2))) {B' : Nat → BF} (hB' : ∀ b ∈ L3, (B' b).2.1 = (B b).2.1 ∧ (B' b).2.2.2 = (B b).2.2.2 - mn) : PI (T + 1) L3 B' el E dl (ls - mn) lf := by
  obtain ⟨a1, a2, a3, a4, a5, a6, a7, a8, a9, a10, a11, a12⟩ := hP
  obtain ⟨m1, m2, m3⟩ := mny_facts hn a11.1
  rw [← hmn] at m1 m2 m3
  have e0 : (0 : Int32).toInt = 0 := by decide
  have em1 : (-1 : Int32).toInt = -1 := by decide
  have hsub : L3.Sublist LB := by rw [hL3]; exact List.filter_sublist
  have hmem : ∀ b ∈ L3, b ∈ LB ∧ mn.toInt ≤ (B b).2.2.2.toInt := fun b hb => by
    rw [hL3] at hb
    obtain ⟨h1, h2⟩ := List.mem_filter.mp hb
    exact ⟨h1, Int32.le_iff_toInt_le.mp (of_decide_eq_true h2)⟩
  have sI : ∀ b ∈ L3, (B' b).2.2.2.toInt = (B b).2.2.2.toInt - mn.toInt := fun b hb => by
    rw [(hB' b hb).2]
    exact i32_subI m1 (hmem b hb).2
  -- below and above
  have hmono : LB.Pairwise (fun a b => decide ((B b).2.2.2 < mn) = true → decide ((B a).2.2.2 < mn) = true) := a8.imp (fun {a b} hab hb => by
    have h1 := Int32.lt_iff_toInt_lt.mp (of_decide_eq_true hb)
    have h2 := Int32.le_iff_toInt_le.mp hab
    exact decide_eq_true (Int32.lt_iff_toInt_lt.mpr (by omega)))
  obtain ⟨-, u2⟩ := srt hmono
  have hL3' : LB.filter (fun b => !decide ((B b).2.2.2 < mn)) = L3 := by
    rw [hL3]
    refine List.filter_congr (fun b _ => ?_)
    by_cases c : (B b).2.2.2 < mn
    · rw [decide_eq_true c, decide_eq_false (i32_nle.mpr c)]
      rfl
    · rw [decide_eq_false c, decide_eq_true (i32_nlt.mp c)]
      rfl
  rw [hL3'] at u2
  generalize hLo : LB.filter (fun b => decide ((B b).2.2.2 < mn)) = Lo at u2
  have hlo : ∀ b ∈ Lo, (B b).2.2.2 < mn := fun b hb => by
    rw [← hLo] at hb
    exact of_decide_eq_true (List.mem_filter.mp hb).2
  have hsubI : LB ≠ [] → 0 ≤ ls.toInt ∧ L3 ≠ [] := fun hne => by
    have hpos : 0 < LB.length := List.length_pos_iff.mpr hne
    have hlast : LB[LB.length - 1]? = some LB[LB.length - 1] := List.getElem?_eq_getElem (by omega)
    have h1 := a10 _ hlast
    have h2 := a7 _ (List.mem_of_getElem? hlast)
    have h3 := Int32.le_iff_toInt_le.mp h2.2.1
    rw [h1] at h3
    refine ⟨by omega, fun q => ?_⟩
    have : LB[LB.length - 1] ∈ L3 := by
      rw [hL3]
      refine List.mem_filter.mpr ⟨List.getElem_mem _, decide_eq_true (Int32.le_iff_toInt_le.mpr ?_)⟩
      rw [h1]
      exact m3 (by omega)
    rw [q] at this
    cases this
  have lsI : (ls - mn).toInt = ls.toInt - mn.toInt ∧ (LB = [] → mn = 0) := by
    by_cases c : LB = []
    · have := m2 (a9 c)
      rw [this]
      exact ⟨by rw [Int32.sub_zero]; omega, fun _ => rfl⟩
    · exact ⟨i32_subI m1 (m3 (hsubI c).1), fun q => absurd q c⟩
  refine ⟨?_, ?_, a3, ?_, a5, fun e he => ?_, fun b hb => ?_, ?_, fun q => ?_, fun c hc => ?_, ⟨?_, ?_⟩, ?_⟩
  · have := hsub.length_le
    omega
  · rw [u2, List.flatMap_append, List.length_append] at a2
    omega
  · rw [u2, List.flatMap_append] at a4
    exact supOK_right a4
  · refine a6 e ?_
    rcases List.mem_append.mp he with h1 | h1
    · obtain ⟨b, hb, hx⟩ := List.mem_flatMap.mp h1
      exact List.mem_append_left _ (mem_RL_flat (hsub.subset hb) hx)
    · exact List.mem_append_right _ h1
  · obtain ⟨h1, h2⟩ := hmem b hb
    obtain ⟨z1, z2, z3⟩ := a7 b h1
    have z3' := Int32.le_iff_toInt_le.mp z3
    have s := sI b hb
    refine ⟨by rw [(hB' b hb).1]; exact z1, Int32.le_iff_toInt_le.mpr (by omega), Int32.le_iff_toInt_le.mpr (by omega)⟩
  · refine (a8.sublist hsub).imp_of_mem (fun {a b} ha hb hab => ?_)
    have s1 := sI a ha
    have s2 := sI b hb
    have h1 := Int32.le_iff_toInt_le.mp hab
    exact Int32.le_iff_toInt_le.mpr (by omega)
  · by_cases c : LB = []
    · rw [lsI.2 c, a9 c]
      decide
    · exact absurd q (hsubI c).2
  · have hcm : c ∈ L3 := List.mem_of_getElem? hc
    have : LB[LB.length - 1]? = some c := by
      have hl := (List.getElem?_eq_some_iff.mp hc).1
      rw [u2, List.getElem?_append_right (by rw [List.length_append]; omega), List.length_append, show Lo.length + L3.length - 1 - Lo.length = L3.length - 1 by omega]
      exact hc
    rw [(hB' c hcm).2, a10 c this]
  · by_cases c : LB = []
    · have := a9 c
      rw [lsI.1, lsI.2 c]
      omega
    · have := m3 (hsubI c).1
      omega
  · rw [lsI.1]
    omega
  · rw [a12, u2]
    have e1 : opn B ls (fun b => bsz E (el b)) (Lo ++ L3) = opn B ls (fun b => bsz E (el b)) L3 := by
      unfold opn
      rw [List.filter_append, List.filter_eq_nil_iff.mpr (fun b hb => ?_), List.nil_append]
      simp only [decide_eq_true_eq]
      intro q
      have h1 := Int32.lt_iff_toInt_lt.mp (hlo b hb)
      rw [q] at h1
      have hne : LB ≠ [] := fun q2 => by
        rw [q2] at u2
        have := congrArg List.length u2
        rw [List.length_append, List.length_nil] at this
        have h3 := List.length_pos_of_mem hb
        omega
      have := m3 (hsubI hne).1
      omega
    rw [e1]
    refine (opn_congr (fun b hb => ⟨?_, rfl⟩)).symm
    rw [(hB' b hb).2]
    constructor
    · intro q
      have h1 := congrArg Int32.toInt q
      rw [lsI.1, i32_subI m1 (hmem b hb).2] at h1
      exact Int32.toInt_inj.mp (by omega)
    · intro q
      rw [q]
