/-! the class's clean and its questions, over the invariant -/
def sBof (B : Nat → BF) (el2 : Nat → List Nat) (ls : Int32) (LB : List Nat) (i : Nat) : Bool := match LB[i]? with
  | none => true
  | some b => !(decide ((B b).2.2.2 < ls) && ((el2 b).isEmpty && !knownS B b (LB.drop (i + 1))))
theorem sBof_at (B : Nat → BF) (el2 : Nat → List Nat) (ls : Int32) (LB : List Nat) (i : Nat) (hi : i < LB.length) : sBof B el2 ls LB i = !(decide ((B LB[i]).2.2.2 < ls) && ((el2 LB[i]).isEmpty && !knownS B LB[i] (LB.drop (i + 1)))) := by
  unfold sBof
  rw [List.getElem?_eq_getElem hi]
section CIS2
variable {d : Nat → ClassId} {h : xw} {x : Nat} {LB : List Nat} {B : Nat → BF} {el : Nat → List Nat} {E : Nat → EV} {no : Nat} {dl : List Nat} {ls lf : Int32} {T : Nat}
theorem cl_clean {t : Int32} {Q : Int32 → xw → Prop} {X : String → xw → Prop} (hC : CI d h x LB B el E no dl ls lf) (hP : PI T LB B el E dl ls lf) {el2 : Nat → List Nat} (hel2 : el2 = elG B el E ls (t - 1000)) {L2 : List Nat} (hL2 : L2 = rmv B el2 ls LB) {m : Nat} (hm : m = (L2.takeWhile (fun b => decide ((B b).2.2.2 < ls))).length) {op : Int32} (hop : op = (((L2.take m).map (fun b => bsz E (el2 b))).foldl plc (-1, 0)).1 + 1)
    (hIA : ¬ 0 ≤ t → X IAE h)
    (hQ0 : 0 ≤ t → (LB.flatMap el).length = (L2.flatMap el2).length → L2.length = LB.length → ∀ h', CI d h' x L2 B el2 E no dl ls lf → Q 0 h')
    (hQ1 : 0 ≤ t → ¬ ((LB.flatMap el).length = (L2.flatMap el2).length ∧ L2.length = LB.length) → m ≤ L2.length → m = (L2.filter (fun b => decide ((B b).2.2.2 < ls))).length → ∀ h' (sg : Nat → Int32), (L2.take m).map sg = segsOf (-1, 0) ((L2.take m).map (fun b => bsz E (el2 b))) → (∀ b ∈ L2.drop m, sg b = op) → CI d h' x L2 (fun b => ((B b).1, (B b).2.1, (B b).2.2.1, sg b)) el2 E no dl op lf → PI (T + 1) L2 (fun b => ((B b).1, (B b).2.1, (B b).2.2.1, sg b)) el2 E dl op lf → Q (nI ((LB.flatMap el).length - (L2.flatMap el2).length)) h') : wp_LogCleaner_clean d h x t Q X := by
  obtain ⟨ab, pk, ad, g, gd, c1, c2, c3, c4, c5, c6, c7, c8, c9, c10, c11, c12, c13⟩ := hC
  obtain ⟨a1, a2, a3, -⟩ := id hP
  have hsub : L2.Sublist LB := by rw [hL2]; exact rmv_sub B el2 ls LB
  have hfl : L2.flatMap el2 = LB.flatMap el2 := by rw [hL2]; exact rmv_flat B el2 ls LB
  have hfs : (L2.flatMap el2).Sublist (LB.flatMap el) := by rw [hfl, hel2]; exact flat_sub B el E ls (t - 1000) LB
  have arrmem : ∀ a, a ∈ LB.map (fun b => (B b).2.2.1) → ∃ y, h a = some (.inl y) := fun a ha => by
    obtain ⟨b, hb, rfl⟩ := List.mem_map.mp ha
    obtain ⟨-, cap, g2, r2, -⟩ := c11 b hb
    exact ⟨_, r2⟩
  have objna : ∀ a o, h a = some (.inr o) → a ∉ LB.map (fun b => (B b).2.2.1) := fun a o ha q => by
    obtain ⟨y, hy⟩ := arrmem a q
    rw [ha] at hy
    cases hy
  have adna : ad ∉ LB.map (fun b => (B b).2.2.1) := fun q => by
    obtain ⟨b, hb, e⟩ := List.mem_map.mp q
    exact (c8 b hb).1 e
  have hz2 : ∀ z ∈ L2.flatMap el2 ++ dl, z ∈ LB.flatMap el ++ dl := fun z hz => by
    rcases List.mem_append.mp hz with q | q
    · exact List.mem_append_left _ (hfs.subset q)
    · exact List.mem_append_right _ q
  refine sp_clean (B := B) (el := el) (E := E) c1 c2 c3 c4 a1 c9 c10 (fun b hb => (c8 b hb).2) c11 (fun e he => c12 e (List.mem_append_left _ he)) (by omega) hel2 hL2 hm hop hIA (fun k1 k2 k3 h' g' f1 f2 f3 f4 f5 => ?_) (fun k1 k2 h' g' q sg hq f1 f2 f3 f4 f5 f6 f7 f8 => ?_)
  · refine hQ0 k1 k2 k3 h' ⟨ab, pk, ad, g', gd, f1, ?_, f2, f3, ?_, c6, c7, fun b hb => c8 b (hsub.subset hb), hsub.nodup c9, fun b hb c hc => c10 b (hsub.subset hb) c (hsub.subset hc), f4, fun z hz => ?_, (hfs.append (List.Sublist.refl dl)).nodup c13⟩
    · rw [f5 pk (fun q => absurd rfl (ne_obj (c11 pk q).1 c2 B_ne_P)) (objna _ _ c2) (Ne.symm (ne_obj c1 c2 L_ne_P)) (ne_oe_arr c2 c3)]
      exact c2
    · rw [f5 ad (fun q => absurd rfl (ne_oe_arr (c11 ad q).1 c5)) adna (Ne.symm (ne_oe_arr c1 c5)) (Ne.symm c7)]
      exact c5
    · have h3 := c12 z (hz2 z hz)
      rw [f5 z (fun q => absurd rfl (ne_obj h3 (c11 z q).1 E_ne_B)) (objna _ _ h3) (ne_obj h3 c1 E_ne_L) (ne_oe_arr h3 c3)]
      exact h3
  · have hne : LB ≠ [] := fun q => by
      apply k2
      rw [q] at hL2
      have : L2 = [] := hL2
      rw [this, q]
      exact ⟨rfl, rfl⟩
    obtain ⟨m1, m2, m3⟩ := PI_clean hP hne hel2 hL2 (sBof_at B el2 ls LB) hm hop
    have oldq : ∀ a o, h a = some o → a ≠ q := fun a o ha e => by subst e; rw [hq] at ha; cases ha
    refine hQ1 k1 k2 m1 m2 h' sg f5 f6 ⟨ab, pk, ad, g', gd, f1, f7, f2, f3, ?_, c6, c7, fun b hb => c8 b (hsub.subset hb), hsub.nodup c9, fun b hb c hc => c10 b (hsub.subset hb) c (hsub.subset hc), f4, fun z hz => ?_, (hfs.append (List.Sublist.refl dl)).nodup c13⟩ (m3 sg f5 f6)
    · rw [f8 ad (fun q => absurd rfl (ne_oe_arr (c11 ad q).1 c5)) adna (Ne.symm (ne_oe_arr c1 c5)) (Ne.symm c7) (Ne.symm (ne_oe_arr c2 c5)) (oldq _ _ c5)]
      exact c5
    · have h3 := c12 z (hz2 z hz)
      rw [f8 z (fun q => absurd rfl (ne_obj h3 (c11 z q).1 E_ne_B)) (objna _ _ h3) (ne_obj h3 c1 E_ne_L) (ne_oe_arr h3 c3) (ne_obj h3 c2 E_ne_P) (oldq _ _ h3)]
      exact h3
theorem sw_not {w : Int32} {k : Nat} {M : Int32} (hM : M.toInt = k) (e : w.toInt < 0 ∨ (k : Int) < w.toInt) : ¬ (0 ≤ w ∧ w ≤ M) := fun q => by
  have h1 := Int32.le_iff_toInt_le.mp q.1
  have h2 := Int32.le_iff_toInt_le.mp q.2
  have e0 : (0 : Int32).toInt = 0 := by decide
  omega
theorem cl_count {w : Int32} {Q : Int32 → xw → Prop} {X : String → xw → Prop} (hC : CI d h x LB B el E no dl ls lf) (hIA : ¬ (0 ≤ w ∧ w ≤ 4) → X IAE h)
    (hQ : 0 ≤ w → w ≤ 4 → Q (if w = 0 then nI (LB.flatMap el).length else if w = 1 then nI LB.length else if w = 2 then ls + 1 else if w = 3 then nI dl.length else nI no) h) : wp_LogCleaner_count d h x w Q X := by
  obtain ⟨ab, pk, ad, g, gd, c1, c2, -⟩ := hC
  unfold wp_LogCleaner_count
  refine ⟨fun e => ?_, fun e => ?_, fun e => ?_, fun e => ?_, fun e => ?_, fun e => hIA (sw_not (k := 4) (by decide) e)⟩
  · subst e
    exact g_L_2 c1 (hQ (by decide) (by decide))
  · subst e
    exact g_L_1 c1 (hQ (by decide) (by decide))
  · subst e
    refine g_L_4 c1 ⟨_, rfl, ?_⟩
    exact g_P_0 c2 (hQ (by decide) (by decide))
  · subst e
    exact g_L_6 c1 (hQ (by decide) (by decide))
  · subst e
    exact g_L_3 c1 (hQ (by decide) (by decide))
theorem cl_batch {b w : Int32} {Q : Int32 → xw → Prop} {X : String → xw → Prop} (hC : CI d h x LB B el E no dl ls lf) (hP : PI T LB B el E dl ls lf) (hIA : (b < 0 ∨ nI LB.length ≤ b ∨ w < 0 ∨ ¬ w ≤ 5) → X IAE h)
    (hQ : ∀ i (hi : i < LB.length), b = nI i → 0 ≤ w → w ≤ 5 → Q (if w = 0 then (B LB[i]).1 else if w = 1 then nI (el LB[i]).length else if w = 2 then (B LB[i]).2.1 else if w = 3 then bsz E (el LB[i]) else if w = 4 then (B LB[i]).2.2.2 else bI (knownS B LB[i] (LB.drop (i + 1)))) h) : wp_LogCleaner_batch d h x b w Q X := by
  obtain ⟨ab, pk, ad, g, gd, c1, c2, c3, c4, c5, c6, c7, c8, c9, c10, c11, c12, c13⟩ := hC
  obtain ⟨a1, -⟩ := hP
  unfold wp_LogCleaner_batch
  refine ⟨fun c => hIA (Or.inl c), fun d1 => ?_⟩
  refine g_L_1 c1 ?_
  refine ⟨fun d2 => ?_, fun c => hIA (Or.inr (Or.inl (i32_nlt.mp c)))⟩
  obtain ⟨i, hi0, hbi⟩ := nI_of d1
  subst hbi
  have hi : i < LB.length := (nI_ltI hi0 (by omega)).mp d2
  have hLi : LB[i]? = some LB[i] := List.getElem?_eq_getElem hi
  have hb := c11 LB[i] (List.getElem_mem hi)
  refine g_L_0 c1 ⟨_, rfl, ?_⟩
  refine wldq_n c3 (by omega) (by omega) ?_
  rw [c4 i LB[i] hLi]
  refine ⟨fun e => ?_, fun e => ?_, fun e => ?_, fun e => ?_, fun e => ?_, fun e => ?_, fun e => hIA ?_⟩
  · subst e
    exact ⟨_, rfl, g_B_0 hb.1 (hQ i hi rfl (by decide) (by decide))⟩
  · subst e
    exact ⟨_, rfl, g_B_3 hb.1 (hQ i hi rfl (by decide) (by decide))⟩
  · subst e
    exact ⟨_, rfl, g_B_1 hb.1 (hQ i hi rfl (by decide) (by decide))⟩
  · subst e
    exact ⟨_, rfl, is_B hb.1 (sp_Bsize (E := E) hb (fun a ha => c12 a (List.mem_append_left _ (mem_RL_flat (List.getElem_mem hi) ha))) (hQ i hi rfl (by decide) (by decide)))⟩
  · subst e
    exact ⟨_, rfl, g_B_4 hb.1 (hQ i hi rfl (by decide) (by decide))⟩
  · subst e
    have q5 := hQ i hi rfl (by decide) (by decide)
    refine is_L c1 (sp_isKnown (B := B) c1 c3 hi (fun j b _ hb => c4 j b hb) a1 (fun b hb => ⟨_, (c11 b hb).1⟩) (fun c => ?_) (fun c => ?_))
    · rw [c] at q5
      exact ⟨fun q => absurd q (by decide), fun _ => q5⟩
    · rw [c] at q5
      exact ⟨fun _ => q5, fun q => absurd rfl q⟩
  · have := sw_not (k := 5) (M := 5) (by decide) e
    by_cases c : w < 0
    · exact Or.inr (Or.inr (Or.inl c))
    · exact Or.inr (Or.inr (Or.inr (fun q => this ⟨i32_nlt.mp c, q⟩)))
theorem cl_told {r w : Int32} {Q : Int64 → xw → Prop} {X : String → xw → Prop} (hC : CI d h x LB B el E no dl ls lf) (hP : PI T LB B el E dl ls lf) (hIA : (r < 0 ∨ nI (LB.flatMap el).length ≤ r ∨ w < 0 ∨ ¬ w ≤ 5) → X IAE h)
    (hQ : ∀ i e, (LB.flatMap el)[i]? = some e → r = nI i → 0 ≤ w → w ≤ 5 → Q (if w = 0 then (E e).2.2.2.2.2.1.toInt64 else if w = 1 then (E e).2.1.toInt64 else if w = 2 then (E e).1 else if w = 3 then (E e).2.2.2.1 else if w = 4 then (if (E e).2.2.1 = 0 then 0 else 1) else (E e).2.2.2.2.1.toInt64) h) : wp_LogCleaner_told d h x r w Q X := by
  obtain ⟨ab, pk, ad, g, gd, c1, c2, c3, c4, c5, c6, c7, c8, c9, c10, c11, c12, c13⟩ := hC
  obtain ⟨a1, a2, -⟩ := hP
  unfold wp_LogCleaner_told
  refine is_L c1 ?_
  refine sp_entryAt (B := B) (el := el) c1 c3 c4 a1 c11 (fun c => ⟨fun _ => hIA (Or.inl c), fun a q => by cases q⟩) (fun j hj hr => ?_)
  subst hr
  refine ⟨fun c => hIA (Or.inr (Or.inl ?_)), fun a ha => ?_⟩
  · have := List.getElem?_eq_none_iff.mp c
    exact (nI_leI (by omega) hj).mpr this
  have he := c12 a (List.mem_append_left _ (List.mem_of_getElem? ha))
  refine ⟨fun e => ?_, fun e => ?_, fun e => ?_, fun e => ?_, fun e => ?_, fun e => ?_, fun e => hIA ?_⟩
  · subst e
    exact g_E_5 he (hQ j a ha rfl (by decide) (by decide))
  · subst e
    exact g_E_1 he (hQ j a ha rfl (by decide) (by decide))
  · subst e
    exact g_E_0 he (hQ j a ha rfl (by decide) (by decide))
  · subst e
    exact g_E_3 he (hQ j a ha rfl (by decide) (by decide))
  · subst e
    have q5 : Q (if (E a).2.2.1 = 0 then 0 else 1) h := hQ j a ha rfl (by decide) (by decide)
    refine g_E_2 he ⟨fun c => ?_, fun c => ?_⟩
    · rw [if_pos c] at q5
      exact q5
    · rw [if_neg c] at q5
      exact q5
  · subst e
    exact g_E_4 he (hQ j a ha rfl (by decide) (by decide))
  · have := sw_not (k := 5) (M := 5) (by decide) e
    by_cases c : w < 0
    · exact Or.inr (Or.inr (Or.inl c))
    · exact Or.inr (Or.inr (Or.inr (fun q => this ⟨i32_nlt.mp c, q⟩)))
theorem cl_latest {k : Int64} {kb : Int32} {Q : Int32 → xw → Prop} {X : String → xw → Prop} (hC : CI d h x LB B el E no dl ls lf) (hP : PI T LB B el E dl ls lf) (hIA : (kb < 0 ∨ ¬ kb ≤ 8) → X IAE h)
    (hQ : 0 ≤ kb → kb ≤ 8 → ∀ v, (∀ e, lastK E (lowB k kb) kb (LB.flatMap el) = some e → v = (E e).2.2.2.2.2.1) → (lastK E (lowB k kb) kb (LB.flatMap el) = none → v = -1) → Q v h) : wp_LogCleaner_latest d h x k kb Q X := by
  obtain ⟨ab, pk, ad, g, gd, c1, c2, c3, c4, c5, c6, c7, c8, c9, c10, c11, c12, c13⟩ := hC
  obtain ⟨a1, a2, -⟩ := hP
  unfold wp_LogCleaner_latest
  refine ⟨fun c => hIA (Or.inl c), fun d1 => ?_⟩
  have d1 : 0 ≤ kb := i32_nlt.mp d1
  refine ⟨fun d2 => ?_, fun c => hIA (Or.inr c)⟩
  refine sp_low ?_
  refine is_L c1 ?_
  refine sp_Llatest (B := B) (el := el) (E := E) c1 c3 c4 a1 c11 (fun e he => c12 e (List.mem_append_left _ he)) ?_
  refine ⟨fun c => hQ d1 d2 _ (fun e he => ?_) (fun _ => rfl), fun a ha => ?_⟩
  · rw [c] at he
    cases he
  · have he := c12 a (List.mem_append_left _ (lastK_mem ha))
    refine g_E_5 he (hQ d1 d2 _ (fun e he => ?_) (fun q => ?_))
    · rw [ha] at he
      cases he
      rfl
    · rw [ha] at q
      cases q
end CIS2
