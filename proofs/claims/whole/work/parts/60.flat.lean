/-! the log as one list of records, each with the number of its batch -/
def RLof (LB : List Nat) (el : Nat → List Nat) : List (Nat × Nat) := LB.zipIdx.flatMap (fun q => (el q.1).map (fun e => (q.2, e)))
theorem RLof_nil (el : Nat → List Nat) : RLof [] el = [] := rfl
theorem RLof_snoc (LB : List Nat) (el : Nat → List Nat) (b : Nat) : RLof (LB ++ [b]) el = RLof LB el ++ (el b).map (fun e => (LB.length, e)) := by
  unfold RLof
  rw [List.zipIdx_append, List.flatMap_append]
  simp
theorem snoc_ind {α : Type} {P : List α → Prop} (h0 : P []) (h1 : ∀ l a, P l → P (l ++ [a])) (l : List α) : P l := by
  have : ∀ r : List α, P r.reverse := by
    intro r
    induction r with
    | nil => exact h0
    | cons a r ih => rw [List.reverse_cons]; exact h1 _ _ ih
  have h2 := this l.reverse
  rw [List.reverse_reverse] at h2
  exact h2
theorem RLof_snd (LB : List Nat) (el : Nat → List Nat) : (RLof LB el).map (fun p => p.2) = LB.flatMap el := by
  refine snoc_ind (P := fun LB => (RLof LB el).map (fun p => p.2) = LB.flatMap el) rfl (fun l a ih => ?_) LB
  rw [RLof_snoc, List.map_append, ih, List.flatMap_append]
  simp [Function.comp_def]
theorem RLof_len (LB : List Nat) (el : Nat → List Nat) : (RLof LB el).length = (LB.flatMap el).length := by
  rw [← RLof_snd, List.length_map]
theorem RLof_mem {LB : List Nat} {el : Nat → List Nat} {p : Nat × Nat} (h : p ∈ RLof LB el) : ∃ b, LB[p.1]? = some b ∧ p.2 ∈ el b := by
  obtain ⟨q, hq, hp⟩ := List.mem_flatMap.mp h
  obtain ⟨e, he, rfl⟩ := List.mem_map.mp hp
  obtain ⟨h1, h2⟩ := List.mem_zipIdx' hq
  exact ⟨q.1, by rw [List.getElem?_eq_getElem h1]; exact congrArg some h2.symm, he⟩
theorem RLof_lt {LB : List Nat} {el : Nat → List Nat} {p : Nat × Nat} (h : p ∈ RLof LB el) : p.1 < LB.length := by
  obtain ⟨b, hb, -⟩ := RLof_mem h
  exact (List.getElem?_eq_some_iff.mp hb).1
theorem RLof_flat {LB : List Nat} {el : Nat → List Nat} {p : Nat × Nat} (h : p ∈ RLof LB el) : p.2 ∈ LB.flatMap el := by
  rw [← RLof_snd]
  exact List.mem_map.mpr ⟨p, h, rfl⟩
theorem selI_append (R1 R2 : List (Nat × Nat)) (i : Nat) : selI (R1 ++ R2) i = selI R1 i ++ selI R2 i := by
  unfold selI
  rw [List.filter_append, List.map_append]
theorem selI_none {R : List (Nat × Nat)} {i : Nat} (h : ∀ p ∈ R, p.1 ≠ i) : selI R i = [] := by
  unfold selI
  rw [List.filter_eq_nil_iff.mpr (fun p hp => by simpa using h p hp)]
  rfl
theorem selI_all (l : List Nat) (i : Nat) : selI (l.map (fun e => (i, e))) i = l := by
  unfold selI
  rw [List.filter_eq_self.mpr (fun p hp => by obtain ⟨e, -, rfl⟩ := List.mem_map.mp hp; simp), List.map_map]
  exact List.map_id l
theorem selI_RL (LB : List Nat) (el : Nat → List Nat) : ∀ i b, LB[i]? = some b → selI (RLof LB el) i = el b := by
  refine snoc_ind (P := fun LB => ∀ i b, LB[i]? = some b → selI (RLof LB el) i = el b) (fun i b h => by simp at h) (fun l a ih i b hb => ?_) LB
  rw [RLof_snoc, selI_append]
  by_cases c : i < l.length
  · rw [List.getElem?_append_left c] at hb
    rw [ih i b hb, selI_none (R := (el a).map (fun e => (l.length, e))) (fun p hp => by obtain ⟨e, -, rfl⟩ := List.mem_map.mp hp; show l.length ≠ i; omega), List.append_nil]
  · rw [List.getElem?_append_right (by omega)] at hb
    have h1 := (List.getElem?_eq_some_iff.mp hb).1
    rw [List.length_singleton] at h1
    have h3 : i = l.length := by omega
    subst h3
    simp only [Nat.sub_self, List.getElem?_cons_zero, Option.some.injEq] at hb
    subst hb
    rw [selI_none (fun p hp => by have := RLof_lt hp; omega), selI_all, List.nil_append]
theorem RLof_congr {LB : List Nat} {el el' : Nat → List Nat} (h : ∀ b ∈ LB, el' b = el b) : RLof LB el' = RLof LB el := by
  revert h
  refine snoc_ind (P := fun LB => (∀ b ∈ LB, el' b = el b) → RLof LB el' = RLof LB el) (fun _ => rfl) (fun l a ih h => ?_) LB
  rw [RLof_snoc, RLof_snoc, ih (fun b hb => h b (List.mem_append_left _ hb)), h a (List.mem_append_right _ (List.mem_singleton.mpr rfl))]
theorem flat_congr {LB : List Nat} {el el' : Nat → List Nat} (h : ∀ b ∈ LB, el' b = el b) : LB.flatMap el' = LB.flatMap el := by
  rw [← RLof_snd, ← RLof_snd, RLof_congr h]
theorem newR_append (sB : Nat → Bool) (LB : List Nat) (go : Nat × Nat → Bool) (R1 R2 : List (Nat × Nat)) : newR sB LB go (R1 ++ R2) = newR sB LB go R1 ++ newR sB LB go R2 := by
  unfold newR
  rw [List.filter_append, List.map_append]
theorem newR_RL {sB : Nat → Bool} {go : Nat × Nat → Bool} {el el2 : Nat → List Nat} (LB : List Nat) : (∀ i b, LB[i]? = some b → if sB i = true then el2 b = (el b).filter (fun e => !go (i, e)) else (el b).filter (fun e => !go (i, e)) = []) → newR sB LB go (RLof LB el) = RLof (fT sB LB) el2 := by
  refine snoc_ind (P := fun LB => (∀ i b, LB[i]? = some b → if sB i = true then el2 b = (el b).filter (fun e => !go (i, e)) else (el b).filter (fun e => !go (i, e)) = []) → newR sB LB go (RLof LB el) = RLof (fT sB LB) el2) (fun _ => rfl) (fun l a ih hh => ?_) LB
  have h1 := ih (fun i b hb => hh i b (by rw [List.getElem?_append_left (List.getElem?_eq_some_iff.mp hb).1]; exact hb))
  have h2 := hh l.length a (by simp)
  have e1 : newR sB (l ++ [a]) go (RLof l el) = newR sB l go (RLof l el) := by
    unfold newR
    refine List.map_congr_left (fun p hp => ?_)
    have := RLof_lt (List.mem_filter.mp hp).1
    rw [List.take_append_of_le_length (by omega)]
  have e2 : newR sB (l ++ [a]) go ((el a).map (fun e => (l.length, e))) = ((el a).filter (fun e => !go (l.length, e))).map (fun e => ((fT sB l).length, e)) := by
    unfold newR
    rw [List.filter_map, List.map_map]
    refine List.map_congr_left (fun e he => ?_)
    show ((fT sB ((l ++ [a]).take l.length)).length, e) = _
    rw [List.take_left]
  rw [RLof_snoc, newR_append, e1, e2, h1, fT_snoc]
  by_cases c : sB l.length = true
  · rw [if_pos c] at h2 ⊢
    rw [RLof_snoc, h2]
  · rw [if_neg c] at h2 ⊢
    rw [h2, List.map_nil, List.append_nil]
theorem fT_mem {α : Type} {p : Nat → Bool} {L : List α} {a : α} (h : a ∈ fT p L) : ∃ i, L[i]? = some a ∧ p i = true := by
  unfold fT at h
  obtain ⟨q, hq, rfl⟩ := List.mem_map.mp h
  obtain ⟨hq, hp⟩ := List.mem_filter.mp hq
  obtain ⟨h1, h2⟩ := List.mem_zipIdx' hq
  exact ⟨q.2, by rw [List.getElem?_eq_getElem h1]; exact congrArg some h2.symm, hp⟩
theorem fT_filter {α : Type} {p : Nat → Bool} {f : α → Bool} (L : List α) : (∀ i a, L[i]? = some a → p i = f a) → fT p L = L.filter f := by
  refine snoc_ind (P := fun L => (∀ i a, L[i]? = some a → p i = f a) → fT p L = L.filter f) (fun _ => rfl) (fun l a ih hh => ?_) L
  rw [fT_snoc, List.filter_append, ih (fun i b hb => hh i b (by rw [List.getElem?_append_left (List.getElem?_eq_some_iff.mp hb).1]; exact hb)), hh l.length a (by simp)]
  by_cases c : f a = true
  · rw [if_pos c]; simp [c]
  · rw [if_neg c]; simp [c]
theorem fT_all {α : Type} {p : Nat → Bool} {L : List α} (h : ∀ i, i < L.length → p i = true) : fT p L = L := by
  rw [fT_filter (f := fun _ => true) L (fun i a ha => h i (List.getElem?_eq_some_iff.mp ha).1)]
  simp
theorem fT_sub {α : Type} (p : Nat → Bool) (L : List α) : (fT p L).Sublist L := by
  refine snoc_ind (P := fun L => (fT p L).Sublist L) (List.Sublist.refl _) (fun l a ih => ?_) L
  rw [fT_snoc]
  split
  · exact ih.append (List.Sublist.refl _)
  · exact ih.trans (List.sublist_append_left _ _)
/-- fT from a number on -/
def fU {α : Type} (p : Nat → Bool) : Nat → List α → List α
  | _, [] => []
  | n, a :: r => if p n = true then a :: fU p (n + 1) r else fU p (n + 1) r
theorem fU_snoc {α : Type} (p : Nat → Bool) (l : List α) (a : α) : ∀ n, fU p n (l ++ [a]) = if p (n + l.length) = true then fU p n l ++ [a] else fU p n l := by
  induction l with
  | nil => intro n; simp [fU]
  | cons b r ih =>
    intro n
    simp only [List.cons_append, fU, ih (n + 1), List.length_cons, show n + 1 + r.length = n + (r.length + 1) by omega]
    by_cases c1 : p n = true <;> by_cases c2 : p (n + (r.length + 1)) = true <;> simp [c1, c2]
theorem fU_fT {α : Type} (p : Nat → Bool) (L : List α) : fU p 0 L = fT p L := by
  refine snoc_ind (P := fun L => fU p 0 L = fT p L) rfl (fun l a ih => ?_) L
  rw [fU_snoc, fT_snoc, ih, Nat.zero_add]
theorem fU_congr {α : Type} {p q : Nat → Bool} (L : List α) : ∀ n, (∀ i, i < L.length → p (n + i) = q (n + i)) → fU p n L = fU q n L := by
  induction L with
  | nil => intro n _; rfl
  | cons a r ih =>
    intro n h
    have h0 := h 0 (by simp)
    rw [Nat.add_zero] at h0
    unfold fU
    rw [h0, ih (n + 1) (fun i hi => by
      have := h (i + 1) (by simpa using hi)
      rw [show n + 1 + i = n + (i + 1) by omega]
      exact this)]
/-- what the class's removal of emptied batches leaves, by numbers -/
theorem rmv_fU (B : Nat → BF) (el : Nat → List Nat) (ls : Int32) (LB : List Nat) (sB : Nat → Bool) : ∀ (L : List Nat) (n : Nat), LB.drop n = L → (∀ i (hi : i < LB.length), sB i = !(decide ((B LB[i]).2.2.2 < ls) && ((el LB[i]).isEmpty && !knownS B LB[i] (LB.drop (i + 1))))) → rmv B el ls L = fU sB n L := by
  intro L
  induction L with
  | nil => intro n _ _; rfl
  | cons a r ih =>
    intro n hn hs
    have hlt : n < LB.length := by
      rcases Nat.lt_or_ge n LB.length with q | q
      · exact q
      · rw [List.drop_eq_nil_of_le q] at hn; cases hn
    rw [List.drop_eq_getElem_cons hlt] at hn
    injection hn with h1 h2
    unfold rmv fU
    rw [hs n hlt, h1, h2, ih (n + 1) h2 hs]
    by_cases c : (decide ((B a).2.2.2 < ls) && ((el a).isEmpty && !knownS B a r)) = true
    · simp [c]
    · simp [c]
theorem rmv_fT (B : Nat → BF) (el : Nat → List Nat) (ls : Int32) (LB : List Nat) (sB : Nat → Bool) (hs : ∀ i (hi : i < LB.length), sB i = !(decide ((B LB[i]).2.2.2 < ls) && ((el LB[i]).isEmpty && !knownS B LB[i] (LB.drop (i + 1))))) : rmv B el ls LB = fT sB LB := by
  rw [← fU_fT]
  exact rmv_fU B el ls LB sB LB 0 (by rw [List.drop_zero]) hs
