/-! clean on both -/
theorem flt_RL (LB : List Nat) (el : Nat → List Nat) : ∀ i b, LB[i]? = some b → (RLof LB el).filter (fun p => decide (p.1 = i)) = (el b).map (fun e => (i, e)) := by
  refine snoc_ind (P := fun LB => ∀ i b, LB[i]? = some b → (RLof LB el).filter (fun p => decide (p.1 = i)) = (el b).map (fun e => (i, e))) (fun i b h => by simp at h) (fun l a ih i b hb => ?_) LB
  rw [RLof_snoc, List.filter_append]
  by_cases c : i < l.length
  · rw [List.getElem?_append_left c] at hb
    rw [ih i b hb, List.filter_eq_nil_iff.mpr (fun p hp => by obtain ⟨e, -, rfl⟩ := List.mem_map.mp hp; simp only [decide_eq_true_eq]; omega), List.append_nil]
  · rw [List.getElem?_append_right (by omega)] at hb
    have h1 := (List.getElem?_eq_some_iff.mp hb).1
    rw [List.length_singleton] at h1
    have h3 : i = l.length := by omega
    subst h3
    simp only [Nat.sub_self, List.getElem?_cons_zero, Option.some.injEq] at hb
    subst hb
    rw [List.filter_eq_nil_iff.mpr (fun p hp => by have := RLof_lt hp; simp only [decide_eq_true_eq]; omega), List.filter_eq_self.mpr (fun p hp => by obtain ⟨e, -, rfl⟩ := List.mem_map.mp hp; simp), List.nil_append]
theorem nlf_RL (go : Nat × Nat → Bool) {LB : List Nat} {el : Nat → List Nat} {i b : Nat} (hb : LB[i]? = some b) : nlf go (RLof LB el) i = ((el b).filter (fun e => !go (i, e))).length := by
  unfold nlf
  have e1 : (RLof LB el).filter (fun p => decide (p.1 = i) && !go p) = ((RLof LB el).filter (fun p => decide (p.1 = i))).filter (fun p => !go p) := by
    rw [List.filter_filter]
    refine List.filter_congr (fun p _ => ?_)
    rw [Bool.and_comm]
  rw [e1, flt_RL LB el i b hb, List.filter_map, List.length_map]
  rfl
theorem CI.el {d : Nat → ClassId} {h : xw} {x : Nat} {LB : List Nat} {B : Nat → BF} {el el2 : Nat → List Nat} {E : Nat → EV} {no : Nat} {dl : List Nat} {ls lf : Int32} (hC : CI d h x LB B el2 E no dl ls lf) (he : ∀ b ∈ LB, el2 b = el b) : CI d h x LB B el E no dl ls lf := by
  obtain ⟨ab, pk, ad, g, gd, c1, c2, c3, c4, c5, c6, c7, c8, c9, c10, c11, c12, c13⟩ := hC
  rw [flat_congr he] at c1 c12 c13
  exact ⟨ab, pk, ad, g, gd, c1, c2, c3, c4, c5, c6, c7, c8, c9, c10, fun b hb => by rw [← he b hb]; exact c11 b hb, c12, c13⟩
theorem fT_len_all {α : Type} {p : Nat → Bool} (L : List α) : (fT p L).length = L.length → ∀ i, i < L.length → p i = true := by
  refine snoc_ind (P := fun L => (fT p L).length = L.length → ∀ i, i < L.length → p i = true) (fun _ i hi => absurd hi (Nat.not_lt_zero _)) (fun l a ih h i hi => ?_) L
  rw [fT_snoc] at h
  have hle := fT_len p l
  by_cases c : p l.length = true
  · rw [if_pos c, List.length_append, List.length_append] at h
    rw [List.length_append, List.length_singleton] at hi
    by_cases ci : i = l.length
    · rw [ci]; exact c
    · exact ih (by omega) i (by omega)
  · rw [if_neg c, List.length_append, List.length_singleton] at h
    omega
section STEPC
variable {d : Nat → ClassId} {h : xw} {x m : Nat} {A : Nat → Nat} {T : Nat} {K : xw → Prop} {Q : Int32 → xw → Prop}
theorem st_clean {t : Int32} (hR : Rel d x m A T h) (hK : ∀ h', Rel d x m A (T + 1) h' → K h')
    (hQ : ∀ r h10, wIs h10 m 4 (wp_LogCleanerModel_clean d h10 m t fun r13 h12 => xfr sgM h10 h12 → cmpT d m (A 23) K r r13.toInt64 h12) → Q r h10) : wp_LogCleanerLaw_clean d h (some x) t (some (A 23)) Q := by
  obtain ⟨LB, B, el, E, no, dl, ls, lf, S, I, J, hC, hP, hM, hI⟩ := hR
  obtain ⟨nd, -, nx, wx⟩ := hC.nd
  obtain ⟨a1, a2, a3, a4, a5, a6, a7, a8, a9, a10, a11, a12⟩ := id hP
  have hlen := RLof_len LB el
  obtain ⟨el2, hel2⟩ : ∃ el2, el2 = elG B el E ls (t - 1000) := ⟨_, rfl⟩
  obtain ⟨L2, hL2⟩ : ∃ L2, L2 = rmv B el2 ls LB := ⟨_, rfl⟩
  obtain ⟨mm, hm⟩ : ∃ mm, mm = (L2.takeWhile (fun b => decide ((B b).2.2.2 < ls))).length := ⟨_, rfl⟩
  obtain ⟨op, hop⟩ : ∃ op, op = (((L2.take mm).map (fun b => bsz E (el2 b))).foldl plc (-1, 0)).1 + 1 := ⟨_, rfl⟩
  obtain ⟨cB, hcB⟩ : ∃ cB : Nat → Bool, ∀ i b, LB[i]? = some b → cB i = decide ((B b).2.2.2 < ls) := ⟨fun i => match LB[i]? with | none => false | some b => decide ((B b).2.2.2 < ls), fun p b hb => by simp only [hb]⟩
  obtain ⟨go, hgo⟩ : ∃ go : Nat × Nat → Bool, ∀ p b, LB[p.1]? = some b → go p = (decide ((B b).2.2.2 < ls) && ego (t - 1000) (E p.2)) := ⟨fun p => match LB[p.1]? with | none => false | some b => decide ((B b).2.2.2 < ls) && ego (t - 1000) (E p.2), fun p b hb => by simp only [hb]⟩
  obtain ⟨sB, hsBd⟩ : ∃ sB, sB = sBof B el2 ls LB := ⟨_, rfl⟩
  have hsB : ∀ i (hi : i < LB.length), sB i = !(decide ((B LB[i]).2.2.2 < ls) && ((el2 LB[i]).isEmpty && !knownS B LB[i] (LB.drop (i + 1)))) := by rw [hsBd]; exact sBof_at B el2 ls LB
  have hfT : L2 = fT sB LB := by rw [hL2]; exact rmv_fT B el2 ls LB sB hsB
  have lt_ne : ∀ b ∈ LB, ((B b).2.2.2 < ls ↔ (B b).2.2.2 ≠ ls) := fun b hb => by
    have h1 := Int32.le_iff_toInt_le.mp (a7 b hb).2.2
    rw [Int32.lt_iff_toInt_lt]
    constructor
    · intro q e
      rw [e] at q
      omega
    · intro q
      have : (B b).2.2.2.toInt ≠ ls.toInt := fun e => q (Int32.toInt_inj.mp e)
      omega
  have hele : ∀ i b, LB[i]? = some b → el2 b = (el b).filter (fun e => !go (i, e)) := fun i b hb => by
    have hg : ∀ e, go (i, e) = (decide ((B b).2.2.2 < ls) && ego (t - 1000) (E e)) := fun e => hgo (i, e) b hb
    rw [hel2]
    unfold elG
    by_cases c : (B b).2.2.2 < ls
    · rw [if_pos c]
      refine List.filter_congr (fun e _ => ?_)
      rw [hg e, decide_eq_true c, Bool.true_and]
    · rw [if_neg c]
      refine (List.filter_eq_self.mpr (fun e _ => ?_)).symm
      rw [hg e, decide_eq_false c]
      rfl
  have hRL : newR sB LB go (RLof LB el) = RLof L2 el2 := by
    rw [hfT]
    refine newR_RL LB (fun i b hb => ?_)
    obtain ⟨hi, hb'⟩ := List.getElem?_eq_some_iff.mp hb
    by_cases c : sB i = true
    · rw [if_pos c]
      exact hele i b hb
    · rw [if_neg c, ← hele i b hb]
      rw [hsB i hi, hb'] at c
      have c : (decide ((B b).2.2.2 < ls) && ((el2 b).isEmpty && !knownS B b (LB.drop (i + 1)))) = true := by simpa using c
      simp only [Bool.and_eq_true, List.isEmpty_iff] at c
      exact c.2.1
  have hlR : (RLof L2 el2).length = ((RLof LB el).filter (fun p => !go p)).length := by rw [← hRL]; unfold newR; rw [List.length_map]
  have hCm : (fT (fun j => cB j && sB j) LB).length = (L2.filter (fun b => decide ((B b).2.2.2 < ls))).length := by rw [hfT, fT_filter2 LB hcB]
  have hl2 : L2.length ≤ LB.length := by rw [hfT]; exact fT_len _ _
  -- the reference's side, whatever the class's is
  have md : ∀ {h : xw} {J : Nat → Nat → Int64} {Q : Int32 → xw → Prop}, MR d h m A S I J → MI S I J LB B (RLof LB el) E no dl → ∀ {C : Nat}, C = (fT (fun j => cB j && sB j) LB).length → C ≤ L2.length → ∀ {op : Int32}, op = (((L2.take C).map (fun b => bsz E (el2 b))).foldl plc (-1, 0)).1 + 1 →
    (¬ 0 ≤ t → ∀ h' S', MR d h' m A S' I J → S' 0 = 1 → MI S' I J LB B (RLof LB el) E no dl → Q 0 h') →
    (0 ≤ t → (∀ p ∈ RLof LB el, go p = false) → (∀ i, i < LB.length → sB i = true) → ∀ h' S' I', MR d h' m A S' I' J → S' 0 = 0 → MI S' I' J LB B (RLof LB el) E no dl → Q 0 h') →
    (0 ≤ t → ((∃ p ∈ RLof LB el, go p = true) ∨ ∃ i, i < LB.length ∧ sB i = false) → ∃ B' : Nat → BF, (∀ c ∈ L2, (B' c).1 = (B c).1 ∧ (B' c).2.1 = (B c).2.1) ∧ (L2.take C).map (fun b => (B' b).2.2.2) = segsOf (-1, 0) ((L2.take C).map (fun b => bsz E (el2 b))) ∧ (∀ b ∈ L2.drop C, (B' b).2.2.2 = op) ∧ ∀ h' S' I' J', MR d h' m A S' I' J' → S' 0 = 0 → MI S' I' J' L2 B' (RLof L2 el2) E no dl → J' 23 0 = J 23 0 → Q (nI ((RLof LB el).length - (RLof L2 el2).length)) h') → wp_LogCleanerModel_clean d h m t Q := fun {h J Q} hM hI {C} hC1 hC2 {op} hop q1 q2 q3 => by
    refine sp_mclean (ls := ls) (sB := sB) (cB := cB) (go := go) hM hI (by omega) a1 (fun p hp => ⟨RLof_lt hp, (a6 p.2 (List.mem_append_left _ (RLof_flat hp))).2.1⟩) (fun p hp => (a6 p.2 (List.mem_append_left _ (RLof_flat hp))).1) (fun b hb => (a7 b hb).1) a10 (fun r p hp => ?_) (fun p hp hb => ?_) (fun i hi => ?_) (fun i hi => ?_) hfT hRL.symm hC1 hC2 (sz := fun b => bsz E (el2 b)) (fun p hp => ?_) (fun i c hc => ?_) hop q1 q2 q3
    · have hr := (List.getElem?_eq_some_iff.mp hp).1
      have hsp : LB.flatMap el = ((RLof LB el).take r).map (fun p => p.2) ++ p.2 :: ((RLof LB el).drop (r + 1)).map (fun p => p.2) := by
        rw [← RLof_snd]
        conv => lhs; rw [← List.take_append_drop r (RLof LB el), List.drop_eq_getElem_cons hr, (List.getElem?_eq_some_iff.mp hp).2]
        rw [List.map_append, List.map_cons]
      rw [a4 _ _ _ hsp]
      refine ⟨fun ⟨h1, z, hz, e⟩ => ?_, fun ⟨h1, z, hz, e⟩ => ⟨h1, z.2, List.mem_map.mpr ⟨z, hz, rfl⟩, e⟩⟩
      obtain ⟨y, hy, rfl⟩ := List.mem_map.mp hz
      exact ⟨h1, y, hy, e⟩
    · rw [hgo p LB[p.1] (List.getElem?_eq_getElem hb), Bool.and_eq_true, decide_eq_true_iff, lt_ne _ (List.getElem_mem hb)]
    · rw [hcB i LB[i] (List.getElem?_eq_getElem hi), decide_eq_true_iff, lt_ne _ (List.getElem_mem hi)]
    · have hLi := List.getElem?_eq_getElem hi
      rw [nlf_RL go hLi, ← hele i _ hLi, hsB i hi, hcB i _ hLi]
      cases hq : el2 LB[i] with
      | nil =>
        cases hk : knownS B LB[i] (LB.drop (i + 1)) <;> by_cases c : (B LB[i]).2.2.2 < ls <;> simp [c]
      | cons a r => simp
    · have h1 := RLof_lt hp
      refine ⟨by omega, ?_⟩
      refine (a6 p.2 (List.mem_append_left _ ?_)).2.1
      have h2 := RLof_flat hp
      have hfl : L2.flatMap el2 = LB.flatMap el2 := by rw [hL2]; exact rmv_flat B el2 ls LB
      rw [hfl, hel2] at h2
      exact (flat_sub B el E ls (t - 1000) LB).subset h2
    · show bsz E (selI (RLof L2 el2) i) = bsz E (el2 c)
      rw [selI_RL L2 el2 i c hc]
  have same : (∀ p ∈ RLof LB el, go p = false) → (∀ i, i < LB.length → sB i = true) → (LB.flatMap el).length = (L2.flatMap el2).length ∧ L2.length = LB.length := fun q1 q2 => by
    refine ⟨?_, by rw [hfT, fT_all q2]⟩
    rw [← RLof_len, ← RLof_len, hlR, List.filter_eq_self.mpr (fun p hp => by rw [q1 p hp]; rfl)]
  have same2 : (LB.flatMap el).length = (L2.flatMap el2).length → L2.length = LB.length → (∀ p ∈ RLof LB el, go p = false) ∧ ∀ i, i < LB.length → sB i = true := fun q1 q2 => by
    refine ⟨fun p hp => ?_, fT_len_all LB (by rw [← hfT]; exact q2)⟩
    rw [← RLof_len, ← RLof_len, hlR] at q1
    have := List.length_filter_eq_length_iff.mp q1.symm p hp
    simpa using this
  refine ⟨x, rfl, wx _ ?_⟩
  have hCle : (fT (fun j => cB j && sB j) LB).length ≤ L2.length := by rw [hCm]; exact List.length_filter_le _ _
  refine cl_clean hC hP hel2 hL2 hm hop (fun bad => ?_) (fun k1 k2 k3 h2 hC2 => ?_) (fun k1 k2 m1 m2 h2 sg f1 f2 hC2 hP2 => ?_)
  · refine fun _ => ⟨fun _ => hQ 1 h ?_, rfl⟩
    refine isM hM (md hM hI rfl hCle rfl (fun _ h' S' hM' h0 hI' hf => ?_) (fun k1 => absurd k1 bad) (fun k1 => absurd k1 bad))
    exact cmp_no (by decide) hM' h0 (hK _ ⟨LB, B, el, E, no, dl, ls, lf, S', I, J, hC.fr hf, hP.up, hM', hI'⟩)
  · obtain ⟨g1, g2⟩ := same2 k2 k3
    have hLL : L2 = LB := by rw [hfT, fT_all g2]
    have heq : ∀ b ∈ LB, el2 b = el b := fun b hb => by
      obtain ⟨i, hi⟩ := List.mem_iff_getElem?.mp hb
      rw [hele i b hi]
      refine List.filter_eq_self.mpr (fun e he => ?_)
      rw [g1 (i, e) ?_]
      · rfl
      · have : (i, e) ∈ (RLof LB el).filter (fun p => decide (p.1 = i)) := by
          rw [flt_RL LB el i b hi]
          exact List.mem_map.mpr ⟨e, he, rfl⟩
        exact (List.mem_filter.mp this).1
    rw [hLL] at hC2
    have hC3 := hC2.el heq
    refine fun hf2 => out_st (hM.fr hf2) (fun h6 J6 hM6 hJ6 hf6 => hQ 0 h6 ?_)
    obtain ⟨hI6, hv6⟩ := hI.out hJ6
    refine isM hM6 (md hM6 hI6 rfl hCle rfl (fun bad => absurd k1 bad) (fun _ _ _ h' S' I' hM' h0 hI' hf => ?_) (fun _ ch => ?_))
    · exact cmp_ok hM' h0 hv6 (hK _ ⟨LB, B, el, E, no, dl, ls, lf, S', I', J6, (hC3.fr hf6).fr hf, hP.up, hM', hI'⟩)
    · exfalso
      rcases ch with ⟨p, hp, e⟩ | ⟨i, hi, e⟩
      · rw [g1 p hp] at e
        cases e
      · rw [g2 i hi] at e
        cases e
  · refine fun hf2 => out_st (hM.fr hf2) (fun h6 J6 hM6 hJ6 hf6 => hQ 0 h6 ?_)
    obtain ⟨hI6, hv6⟩ := hI.out hJ6
    have hmC : mm = (fT (fun j => cB j && sB j) LB).length := m2.trans hCm.symm
    refine isM hM6 (md hM6 hI6 hmC m1 hop (fun bad => absurd k1 bad) (fun _ g1 g2 => absurd (same g1 g2) k2) (fun _ _ => ?_))
    refine ⟨fun b => ((B b).1, (B b).2.1, (B b).2.2.1, sg b), fun c _ => ⟨rfl, rfl⟩, f1, f2, fun h' S' I' J' hM' h0 hI' hJ' hf => ?_⟩
    rw [RLof_len, RLof_len]
    exact cmp_ok hM' h0 (hJ'.trans hv6) (hK _ ⟨L2, _, el2, E, no, dl, op, lf, S', I', J', (hC2.fr hf6).fr hf, hP2, hM', hI'⟩)
end STEPC
