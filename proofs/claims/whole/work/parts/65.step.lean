/-! one call on both -/
def Rel (d : Nat → ClassId) (x m : Nat) (A : Nat → Nat) (T : Nat) (h : xw) : Prop := ∃ LB B el E no dl ls lf S I J, CI d h x LB B el E no dl ls lf ∧ PI T LB B el E dl ls lf ∧ MR d h m A S I J ∧ MI S I J LB B (RLof LB el) E no dl
theorem PI.up {T : Nat} {LB : List Nat} {B : Nat → BF} {el : Nat → List Nat} {E : Nat → EV} {dl : List Nat} {ls lf : Int32} (hP : PI T LB B el E dl ls lf) : PI (T + 1) LB B el E dl ls lf := by
  obtain ⟨a1, a2, a3, a4, a5, a6, a7, a8, a9, a10, a11, a12⟩ := hP
  exact ⟨a1, a2, a3, a4, a5, a6, a7, a8, a9, a10, ⟨a11.1, by omega⟩, a12⟩
abbrev cmpT (d : Nat → ClassId) (m o : Nat) (K : xw → Prop) (r : Int32) (b : Int64) (h12 : xw) : Prop := wIs h12 m 4 (wp_LogCleanerModel_thrown d h12 m fun r15 h14 => xfr sgM h12 h14 → wIf (r15 = r) (wIf (r = 0) (wldl h14 o (d 3) 0 fun v16 => wIf ((lg_cmp v16 b) = 0) (K h14) (False)) (K h14)) (False))
section STEP
variable {d : Nat → ClassId} {h : xw} {x m : Nat} {A : Nat → Nat} {T : Nat} {K : xw → Prop} {Q : Int32 → xw → Prop}
variable {S : Nat → Int32} {I : Nat → Nat → Int32} {J : Nat → Nat → Int64}
theorem cmp_ok {b : Int64} (hM : MR d h m A S I J) (h0 : S 0 = 0) (hv : J 23 0 = b) (hK : K h) : cmpT d m (A 23) K 0 b h := by
  refine isM hM ?_
  unfold wp_LogCleanerModel_thrown
  refine gs0 hM (fun _ => ?_)
  rw [h0]
  refine ⟨fun _ => ?_, fun q => absurd rfl q⟩
  refine ⟨fun _ => ?_, fun q => absurd rfl q⟩
  refine ld23 hM (i := 0) (by decide) ?_
  rw [hv]
  exact ⟨fun _ => hK, fun q => q (cmp0.mpr rfl)⟩
theorem cmp_no {b : Int64} {r : Int32} (hr : r ≠ 0) (hM : MR d h m A S I J) (h0 : S 0 = r) (hK : K h) : cmpT d m (A 23) K r b h := by
  refine isM hM ?_
  unfold wp_LogCleanerModel_thrown
  refine gs0 hM (fun _ => ?_)
  rw [h0]
  refine ⟨fun _ => ?_, fun q => absurd rfl q⟩
  exact ⟨fun q => absurd q hr, fun _ => hK⟩
/-- the answer goes into the law's cell -/
theorem out_st {v : Int64} {K : xw → Prop} (hM : MR d h m A S I J) (hK : ∀ h' J', MR d h' m A S I J' → J' = u3 J 23 0 v → xfr sgM h h' → K h') : wnn (some (A 23)) fun p5 => wstl h p5 (d 3) 0 v K := by
  refine ⟨_, rfl, 1, J 23, hM.2.2.1 23 (by decide), vp_in_nI (n := 0) (by decide) (by decide), ?_⟩
  exact hK _ _ (hM.stJ (k := 23) 0 v (by decide)) rfl (xfr.set xfr.rf (hM.2.2.1 23 (by decide)) rfl)
theorem MI.out {LB : List Nat} {B : Nat → BF} {RL : List (Nat × Nat)} {E : Nat → EV} {no : Nat} {DL : List Nat} {v : Int64} {J' : Nat → Nat → Int64} (hI : MI S I J LB B RL E no DL) (hJ : J' = u3 J 23 0 v) : MI S I J' LB B RL E no DL ∧ J' 23 0 = v := by
  subst hJ
  obtain ⟨s1, s9, s10, s16, hR, hB, hD⟩ := hI
  refine ⟨⟨s1, s9, s10, s16, fun r p hp => ?_, hB, fun r p hp => ?_⟩, by simp [u3]⟩
  · simp only [u3, Nat.reduceEqDiff, false_and, if_false]
    exact hR r p hp
  · simp only [u3, Nat.reduceEqDiff, false_and, if_false]
    exact hD r p hp
theorem CI.nd {LB : List Nat} {B : Nat → BF} {el : Nat → List Nat} {E : Nat → EV} {no : Nat} {dl : List Nat} {ls lf : Int32} (hC : CI d h x LB B el E no dl ls lf) : (LB.flatMap el ++ dl).Nodup ∧ x ∉ LB.flatMap el ++ dl ∧ x ∉ LB ∧ ∀ P : Prop, P → wIs h x 0 P := by
  obtain ⟨ab, pk, ad, g, gd, c1, c2, c3, c4, c5, c6, c7, c8, c9, c10, c11, c12, c13⟩ := hC
  exact ⟨c13, fun q => absurd rfl (ne_obj (c12 x q) c1 E_ne_L), fun q => absurd rfl (ne_obj (c11 x q).1 c1 B_ne_L), fun P hP => is_L c1 hP⟩
theorem st_record {k w : Int64} {kb v tm : Int32} (hR : Rel d x m A T h) (hv : v = 0 ∨ v = 1) (hK : ∀ h', Rel d x m A (T + 1) h' → K h')
    (hQ : ∀ r h10, wIs h10 m 4 (wp_LogCleanerModel_record d h10 m k kb v w tm fun r13 h12 => xfr sgM h10 h12 → cmpT d m (A 23) K r r13.toInt64 h12) → Q r h10) : wp_LogCleanerLaw_record d h (some x) k kb v w tm (some (A 23)) Q := by
  obtain ⟨LB, B, el, E, no, dl, ls, lf, S, I, J, hC, hP, hM, hI⟩ := hR
  obtain ⟨nd, nx, -, wx⟩ := hC.nd
  obtain ⟨a1, a2, a3, a4, a5, a6, -⟩ := id hP
  have hlen := RLof_len LB el
  have nq : ∀ q, q ∉ LB.flatMap el ++ dl → (∀ p ∈ RLof LB el, p.2 ≠ q) ∧ q ∉ dl := fun q hq => ⟨fun p hp e => hq (List.mem_append_left _ (by rw [← e]; exact RLof_flat hp)), fun e => hq (List.mem_append_right _ e)⟩
  refine ⟨x, rfl, wx _ ?_⟩
  refine cl_record hC hP hv (fun bad => ?_) (fun ok full => ?_) (fun ok l1 l2 h2 q hq hC2 => ?_)
  · refine fun _ => ⟨fun _ => hQ 1 h ?_, fun q => absurd q (by decide), Or.inl rfl⟩
    refine isM hM (sp_mrecord (q := x) hM hI a3 (by omega) hv rfl (nq x nx).1 (nq x nx).2 (fun _ h' S' hM' h0 hI' hf => ?_) (fun ok => absurd bad ok) (fun ok => absurd bad ok))
    exact cmp_no (by decide) hM' h0 (hK _ ⟨LB, B, el, E, no, dl, ls, lf, S', I, J, hC.fr hf, hP.up, hM', hI'⟩)
  · refine fun _ => ⟨fun q => absurd q (by decide), fun _ => hQ 2 h ?_, Or.inr rfl⟩
    refine isM hM (sp_mrecord (q := x) hM hI a3 (by omega) hv rfl (nq x nx).1 (nq x nx).2 (fun bad => absurd bad ok) (fun _ _ h' S' hM' h0 hI' hf => ?_) (fun _ l1 l2 => absurd full (fun q => by rcases q with q | q <;> omega)))
    exact cmp_no (by decide) hM' h0 (hK _ ⟨LB, B, el, E, no, dl, ls, lf, S', I, J, hC.fr hf, hP.up, hM', hI'⟩)
  · refine fun hf2 => out_st (hM.fr hf2) (fun h6 J6 hM6 hJ6 hf6 => hQ 0 h6 ?_)
    obtain ⟨hI6, hv6⟩ := hI.out hJ6
    have hP2 := PI_record hP hq (v := (lowB k kb, kb, v, (if v = 0 then 0 else w), tm, -1, 0)) ⟨hv, i32_nlt.mp (fun q => ok (Or.inl q)), Classical.byContradiction (fun q => ok (Or.inr (Or.inl q)))⟩ rfl l1 l2
    refine isM hM6 (sp_mrecord (q := q) hM6 hI6 a3 (by omega) hv rfl (nq q hq).1 (nq q hq).2 (fun bad => absurd bad ok) (fun _ full => absurd full (fun q => by rcases q with q | q <;> omega)) (fun _ _ _ h' S' I' J' hM' h0 hI' hJ' hf => ?_))
    refine cmp_ok hM' h0 (hJ'.trans hv6) (hK _ ⟨LB, B, el, _, no, _, ls, lf, S', I', J', (hC2.fr hf6).fr hf, hP2, hM', hI'⟩)
theorem md_close {prod : Int32} {b : Nat} {Q : Int32 → xw → Prop} {LB : List Nat} {B : Nat → BF} {el : Nat → List Nat} {E : Nat → EV} {no : Nat} {dl : List Nat} {ls lf : Int32} (hM : MR d h m A S I J) (hI : MI S I J LB B (RLof LB el) E no dl) (hP : PI T LB B el E dl ls lf) (hnd : (LB.flatMap el ++ dl).Nodup)
    {E' : Nat → EV} (hE' : E' = mvE (LB.flatMap el) (nI no) E dl) {B' : Nat → BF} (hB1 : ∀ c ∈ LB, B' c = B c) (hB2 : (B' b).1 = nI no ∧ (B' b).2.1 = prod ∧ (B' b).2.2.2 = (plc (ls, lf) (bsz E' dl)).1)
    (hIA : ¬ -1 ≤ prod → ∀ h' S', MR d h' m A S' I J → S' 0 = 1 → MI S' I J LB B (RLof LB el) E no dl → Q 0 h')
    (hIS : -1 ≤ prod → (dl.length = 0 ∨ ¬ LB.length < 400) → ∀ h' S', MR d h' m A S' I J → S' 0 = 2 → MI S' I J LB B (RLof LB el) E no dl → Q 0 h')
    (hQ : -1 ≤ prod → 0 < dl.length → LB.length < 400 → ∀ h' S' I' J', MR d h' m A S' I' J' → S' 0 = 0 → MI S' I' J' (LB ++ [b]) B' (RLof LB el ++ dl.map (fun e => (LB.length, e))) E' (no + dl.length) [] → J' 23 0 = J 23 0 → Q (nI no) h') : wp_LogCleanerModel_close d h m prod Q := by
  obtain ⟨a1, a2, a3, a4, a5, a6, a7, a8, a9, a10, a11, a12⟩ := id hP
  have hlen := RLof_len LB el
  have nd3 := (List.nodup_append.mp hnd).2.2
  have vo : ∀ z ∈ LB.flatMap el, veq (E' z) (E z) := fun z hz => by rw [hE']; exact mvE_out dl _ _ _ (fun q => nd3 z hz z q rfl)
  have vi : ∀ j e, dl[j]? = some e → veq (E' e) ((E e).1, (E e).2.1, (E e).2.2.1, (E e).2.2.2.1, (E e).2.2.2.2.1, nI (no + j), 0) := fun j e hj => by rw [hE']; exact mvE_in dl _ no E (List.nodup_append.mp hnd).2.1 j e hj
  refine sp_mclose hM hI a3 (by omega) a1 a10 a9 (fun hne q => ?_) a12 (fun p hp => vo p.2 (RLof_flat hp)) vi (fun e he => (a6 e (List.mem_append_right _ he)).1) rfl (fun p hp => ?_) (fun p hp => ?_) (fun i c hc => ?_) ?_ hB1 hB2 hIA hIS hQ
  · have hpos : 0 < LB.length := List.length_pos_iff.mpr hne
    have hlast : LB[LB.length - 1]? = some LB[LB.length - 1] := List.getElem?_eq_getElem (by omega)
    have h1 := a10 _ hlast
    have h2 := (a7 _ (List.mem_of_getElem? hlast)).2.1
    rw [h1, q] at h2
    exact absurd h2 (by decide)
  · rcases List.mem_append.mp hp with q | q
    · have := RLof_lt q
      exact Or.inl (by omega)
    · obtain ⟨e, -, rfl⟩ := List.mem_map.mp q
      exact Or.inr rfl
  · rcases List.mem_append.mp hp with q | q
    · rw [(vo p.2 (RLof_flat q)).2.1]
      exact (a6 p.2 (List.mem_append_left _ (RLof_flat q))).2.1
    · obtain ⟨e, he, rfl⟩ := List.mem_map.mp q
      obtain ⟨j, hj⟩ := List.mem_iff_getElem?.mp he
      rw [(vi j e hj).2.1]
      exact (a6 e (List.mem_append_right _ he)).2.1
  · have hi := (List.getElem?_eq_some_iff.mp hc).1
    rw [selI_append, selI_RL LB el i c hc, selI_none (fun p hp => by obtain ⟨e, -, rfl⟩ := List.mem_map.mp hp; show LB.length ≠ i; omega), List.append_nil]
    exact bsz_veq (fun e he => vo e (mem_RL_flat (List.mem_of_getElem? hc) he))
  · rw [selI_append, selI_none (fun p hp => by have := RLof_lt hp; omega), selI_all, List.nil_append]
theorem st_close {prod : Int32} (hR : Rel d x m A T h) (hT : T ≤ 1000) (hK : ∀ h', Rel d x m A (T + 1) h' → K h')
    (hQ : ∀ r h10, wIs h10 m 4 (wp_LogCleanerModel_close d h10 m prod fun r13 h12 => xfr sgM h10 h12 → cmpT d m (A 23) K r r13.toInt64 h12) → Q r h10) : wp_LogCleanerLaw_close d h (some x) prod (some (A 23)) Q := by
  obtain ⟨LB, B, el, E, no, dl, ls, lf, S, I, J, hC, hP, hM, hI⟩ := hR
  obtain ⟨nd, -, nx, wx⟩ := hC.nd
  obtain ⟨B9, hB9⟩ : ∃ B9 : Nat → BF, B9 = fun z => if z = x then (nI no, prod, 0, (plc (ls, lf) (bsz (mvE (LB.flatMap el) (nI no) E dl) dl)).1) else B z := ⟨_, rfl⟩
  have fB1 : ∀ c ∈ LB, B9 c = B c := fun c hc => by rw [hB9]; exact if_neg (fun e => nx (by rw [← e]; exact hc))
  have fB2 : B9 x = (nI no, prod, 0, (plc (ls, lf) (bsz (mvE (LB.flatMap el) (nI no) E dl) dl)).1) := by rw [hB9]; exact if_pos rfl
  refine ⟨x, rfl, wx _ ?_⟩
  refine cl_close hC hP hT (fun bad => ?_) (fun ok full => ?_) (fun k1 k2 k3 h2 b B' el' E' hE' hb hB1 hB2 he1 he2 hRL hC2 hP2 => ?_)
  · refine fun _ => ⟨fun _ => hQ 1 h ?_, fun q => absurd q (by decide), Or.inl rfl⟩
    refine isM hM (md_close (b := x) hM hI hP nd rfl fB1 (by rw [fB2]; exact ⟨rfl, rfl, rfl⟩) (fun _ h' S' hM' h0 hI' hf => ?_) (fun ok => absurd ok bad) (fun ok => absurd ok bad))
    exact cmp_no (by decide) hM' h0 (hK _ ⟨LB, B, el, E, no, dl, ls, lf, S', I, J, hC.fr hf, hP.up, hM', hI'⟩)
  · refine fun _ => ⟨fun q => absurd q (by decide), fun _ => hQ 2 h ?_, Or.inr rfl⟩
    refine isM hM (md_close (b := x) hM hI hP nd rfl fB1 (by rw [fB2]; exact ⟨rfl, rfl, rfl⟩) (fun bad => absurd ok bad) (fun _ _ h' S' hM' h0 hI' hf => ?_) (fun _ l1 l2 => absurd full (fun q => by rcases q with q | q <;> omega)))
    exact cmp_no (by decide) hM' h0 (hK _ ⟨LB, B, el, E, no, dl, ls, lf, S', I, J, hC.fr hf, hP.up, hM', hI'⟩)
  · refine fun hf2 => out_st (hM.fr hf2) (fun h6 J6 hM6 hJ6 hf6 => hQ 0 h6 ?_)
    obtain ⟨hI6, hv6⟩ := hI.out hJ6
    refine isM hM6 (md_close (b := b) hM6 hI6 hP nd hE' hB1 hB2 (fun bad => absurd k1 bad) (fun _ full => absurd full (fun q => by rcases q with q | q <;> omega)) (fun _ _ _ h' S' I' J' hM' h0 hI' hJ' hf => ?_))
    rw [← hRL] at hI'
    exact cmp_ok hM' h0 (hJ'.trans hv6) (hK _ ⟨LB ++ [b], B', el', E', no + dl.length, [], _, _, S', I', J', (hC2.fr hf6).fr hf, hP2, hM', hI'⟩)
theorem st_drop {n : Int32} (hR : Rel d x m A T h) (hT : T ≤ 1000) (hK : ∀ h', Rel d x m A (T + 1) h' → K h')
    (hQ : ∀ r h10, wIs h10 m 4 (wp_LogCleanerModel_drop d h10 m n fun r13 h12 => xfr sgM h10 h12 → cmpT d m (A 23) K r r13.toInt64 h12) → Q r h10) : wp_LogCleanerLaw_drop d h (some x) n (some (A 23)) Q := by
  obtain ⟨LB, B, el, E, no, dl, ls, lf, S, I, J, hC, hP, hM, hI⟩ := hR
  obtain ⟨nd, -, nx, wx⟩ := hC.nd
  obtain ⟨a1, a2, a3, a4, a5, a6, a7, a8, a9, a10, a11, a12⟩ := id hP
  have hlen := RLof_len LB el
  obtain ⟨mn, hmn⟩ : ∃ mn, mn = mny ls n := ⟨_, rfl⟩
  obtain ⟨go, hgo⟩ : ∃ go : Nat × Nat → Bool, ∀ p b, LB[p.1]? = some b → go p = decide ((B b).2.2.2 < mn) := ⟨fun p => match LB[p.1]? with | none => false | some b => decide ((B b).2.2.2 < mn), fun p b hb => by simp only [hb]⟩
  obtain ⟨sB, hsB⟩ : ∃ sB : Nat → Bool, ∀ i b, LB[i]? = some b → sB i = decide (mn ≤ (B b).2.2.2) := ⟨fun i => match LB[i]? with | none => false | some b => decide (mn ≤ (B b).2.2.2), fun p b hb => by simp only [hb]⟩
  have hfT : fT sB LB = LB.filter (fun b => decide (mn ≤ (B b).2.2.2)) := fT_filter LB hsB
  obtain ⟨L3, hL3⟩ : ∃ L3, L3 = LB.filter (fun b => decide (mn ≤ (B b).2.2.2)) := ⟨_, rfl⟩
  have hRL : newR sB LB go (RLof LB el) = RLof L3 el := by
    rw [hL3, ← hfT]
    refine newR_RL LB (fun i b hb => ?_)
    have hg : ∀ e, go (i, e) = decide ((B b).2.2.2 < mn) := fun e => hgo (i, e) b hb
    rw [hsB i b hb]
    by_cases c : mn ≤ (B b).2.2.2
    · rw [if_pos (decide_eq_true c)]
      refine (List.filter_eq_self.mpr (fun e he => ?_)).symm
      rw [hg e, decide_eq_false (i32_nlt.mpr c)]
      rfl
    · rw [if_neg (fun q => c (of_decide_eq_true q))]
      refine List.filter_eq_nil_iff.mpr (fun e he => ?_)
      rw [hg e, decide_eq_true (i32_nle.mp c)]
      decide
  obtain ⟨B', hB'⟩ : ∃ B' : Nat → BF, B' = fun b => ((B b).1, (B b).2.1, (B b).2.2.1, (B b).2.2.2 - mn) := ⟨_, rfl⟩
  have md : ∀ {h : xw} {J : Nat → Nat → Int64} {Q : Int32 → xw → Prop}, MR d h m A S I J → MI S I J LB B (RLof LB el) E no dl →
    (¬ (0 ≤ n ∧ n ≤ 400) → ∀ h' S', MR d h' m A S' I J → S' 0 = 1 → MI S' I J LB B (RLof LB el) E no dl → Q 0 h') →
    (0 ≤ n → n ≤ 400 → ∀ h' S' I' J', MR d h' m A S' I' J' → S' 0 = 0 → MI S' I' J' L3 B' (RLof L3 el) E no dl → J' 23 0 = J 23 0 → Q (nI ((LB.flatMap el).length - (L3.flatMap el).length)) h') → wp_LogCleanerModel_drop d h m n Q := fun {h J Q} hM hI q1 q2 => by
    refine sp_mdrop (sB := sB) (go := go) (B' := B') hM hI (by omega) a1 (fun p hp => RLof_lt hp) (fun p hp => (a6 p.2 (List.mem_append_left _ (RLof_flat hp))).1) a10 a9 a11.1 (by omega) hmn (fun p hp hb => ?_) (fun i hi => ?_) (fun c hc => ?_) q1 (fun k1 k2 h' S' I' J' hM' h0 hI' hJ' => ?_)
    · rw [hgo p LB[p.1] (List.getElem?_eq_getElem hb)]
      exact decide_eq_true_iff
    · rw [hsB i LB[i] (List.getElem?_eq_getElem hi)]
      exact decide_eq_true_iff
    · rw [hB']
      exact ⟨rfl, rfl, rfl⟩
    · rw [hfT, ← hL3, hRL] at hI'
      rw [hRL, RLof_len, RLof_len]
      exact q2 k1 k2 h' S' I' J' hM' h0 hI' hJ'
  refine ⟨x, rfl, wx _ ?_⟩
  refine cl_drop hC hP hT hmn hL3 hB' (fun bad => ?_) (fun k1 k2 h2 hC2 hP2 => ?_)
  · refine fun _ => ⟨fun _ => hQ 1 h ?_, rfl⟩
    refine isM hM (md hM hI (fun _ h' S' hM' h0 hI' hf => ?_) (fun k1 k2 => absurd ⟨k1, k2⟩ bad))
    exact cmp_no (by decide) hM' h0 (hK _ ⟨LB, B, el, E, no, dl, ls, lf, S', I, J, hC.fr hf, hP.up, hM', hI'⟩)
  · refine fun hf2 => out_st (hM.fr hf2) (fun h6 J6 hM6 hJ6 hf6 => hQ 0 h6 ?_)
    obtain ⟨hI6, hv6⟩ := hI.out hJ6
    refine isM hM6 (md hM6 hI6 (fun bad => absurd ⟨k1, k2⟩ bad) (fun _ _ h' S' I' J' hM' h0 hI' hJ' hf => ?_))
    exact cmp_ok hM' h0 (hJ'.trans hv6) (hK _ ⟨L3, B', el, E, no, dl, _, _, S', I', J', (hC2.fr hf6).fr hf, hP2, hM', hI'⟩)
theorem st_count {w : Int32} (hR : Rel d x m A T h) (hK : ∀ h', Rel d x m A (T + 1) h' → K h')
    (hQ : ∀ r h10, wIs h10 m 4 (wp_LogCleanerModel_count d h10 m w fun r13 h12 => xfr sgM h10 h12 → cmpT d m (A 23) K r r13.toInt64 h12) → Q r h10) : wp_LogCleanerLaw_count d h (some x) w (some (A 23)) Q := by
  obtain ⟨LB, B, el, E, no, dl, ls, lf, S, I, J, hC, hP, hM, hI⟩ := hR
  obtain ⟨nd, -, nx, wx⟩ := hC.nd
  obtain ⟨a1, a2, a3, a4, a5, a6, a7, a8, a9, a10, a11, a12⟩ := id hP
  refine ⟨x, rfl, wx _ ?_⟩
  refine cl_count hC (fun bad => ?_) (fun k1 k2 => ?_)
  · refine fun _ => ⟨fun _ => hQ 1 h ?_, rfl⟩
    refine isM hM (sp_mcnt hM hI a1 a10 a9 (fun _ h' S' hM' h0 hI' hf => ?_) (fun k1 k2 => absurd ⟨k1, k2⟩ bad))
    exact cmp_no (by decide) hM' h0 (hK _ ⟨LB, B, el, E, no, dl, ls, lf, S', I, J, hC.fr hf, hP.up, hM', hI'⟩)
  · refine fun hf2 => out_st (hM.fr hf2) (fun h6 J6 hM6 hJ6 hf6 => hQ 0 h6 ?_)
    obtain ⟨hI6, hv6⟩ := hI.out hJ6
    refine isM hM6 (sp_mcnt hM6 hI6 a1 a10 a9 (fun bad => absurd ⟨k1, k2⟩ bad) (fun _ _ h' S' v hM' h0 hI' hv hf => ?_))
    rw [RLof_len] at hv
    exact cmp_ok hM' h0 (hv6.trans (by rw [hv])) (hK _ ⟨LB, B, el, E, no, dl, ls, lf, S', I, J6, (hC.fr hf6).fr hf, hP.up, hM', hI'⟩)
theorem st_batch {b w : Int32} (hR : Rel d x m A T h) (hK : ∀ h', Rel d x m A (T + 1) h' → K h')
    (hQ : ∀ r h10, wIs h10 m 4 (wp_LogCleanerModel_batch d h10 m b w fun r13 h12 => xfr sgM h10 h12 → cmpT d m (A 23) K r r13.toInt64 h12) → Q r h10) : wp_LogCleanerLaw_batch d h (some x) b w (some (A 23)) Q := by
  obtain ⟨LB, B, el, E, no, dl, ls, lf, S, I, J, hC, hP, hM, hI⟩ := hR
  obtain ⟨nd, -, nx, wx⟩ := hC.nd
  obtain ⟨a1, a2, a3, a4, a5, a6, a7, a8, a9, a10, a11, a12⟩ := id hP
  have hlen := RLof_len LB el
  have hp : ∀ p ∈ RLof LB el, p.1 < 400 ∧ -1 ≤ (E p.2).2.1 := fun p hp => ⟨by have := RLof_lt hp; omega, (a6 p.2 (List.mem_append_left _ (RLof_flat hp))).2.1⟩
  have hpr : ∀ b ∈ LB, -1 ≤ (B b).2.1 := fun b hb => (a7 b hb).1
  refine ⟨x, rfl, wx _ ?_⟩
  refine cl_batch hC hP (fun bad => ?_) (fun i hi hbi k1 k2 => ?_)
  · refine fun _ => ⟨fun _ => hQ 1 h ?_, rfl⟩
    refine isM hM (sp_mbatch hM hI (by omega) a1 hp hpr (fun _ h' S' hM' h0 hI' hf => ?_) (fun i hi hbi k1 k2 => ?_))
    · exact cmp_no (by decide) hM' h0 (hK _ ⟨LB, B, el, E, no, dl, ls, lf, S', I, J, hC.fr hf, hP.up, hM', hI'⟩)
    · exfalso
      rw [hbi] at bad
      rcases bad with q | q | q | q
      · exact nI_pos (by omega) q
      · have := (nI_leI (by omega) (by omega)).mp q
        omega
      · exact i32_nlt.mpr k1 q
      · exact q k2
  · refine fun hf2 => out_st (hM.fr hf2) (fun h6 J6 hM6 hJ6 hf6 => hQ 0 h6 ?_)
    obtain ⟨hI6, hv6⟩ := hI.out hJ6
    refine isM hM6 (sp_mbatch hM6 hI6 (by omega) a1 hp hpr (fun bad => ?_) (fun j hj hbj _ _ h' S' v hM' h0 hI' hv hf => ?_))
    · exfalso
      rw [hbi] at bad
      rcases bad with q | q | q | q
      · exact nI_pos (by omega) q
      · have := (nI_leI (by omega) (by omega)).mp q
        omega
      · exact i32_nlt.mpr k1 q
      · exact q k2
    · have hij : j = i := (nI_eq (by omega) (by omega)).mp (hbj.symm.trans hbi)
      subst hij
      rw [selI_RL LB el j _ (List.getElem?_eq_getElem hi)] at hv
      exact cmp_ok hM' h0 (hv6.trans (by rw [hv])) (hK _ ⟨LB, B, el, E, no, dl, ls, lf, S', I, J6, (hC.fr hf6).fr hf, hP.up, hM', hI'⟩)
theorem st_told {r w : Int32} (hR : Rel d x m A T h) (hK : ∀ h', Rel d x m A (T + 1) h' → K h')
    (hQ : ∀ r1 h10, wIs h10 m 4 (wp_LogCleanerModel_told d h10 m r w fun r13 h12 => xfr sgM h10 h12 → cmpT d m (A 23) K r1 r13 h12) → Q r1 h10) : wp_LogCleanerLaw_told d h (some x) r w (some (A 23)) Q := by
  obtain ⟨LB, B, el, E, no, dl, ls, lf, S, I, J, hC, hP, hM, hI⟩ := hR
  obtain ⟨nd, -, nx, wx⟩ := hC.nd
  obtain ⟨a1, a2, a3, a4, a5, a6, a7, a8, a9, a10, a11, a12⟩ := id hP
  have hlen := RLof_len LB el
  have hgt : ∀ i e, (LB.flatMap el)[i]? = some e ↔ ∃ p : Nat × Nat, (RLof LB el)[i]? = some p ∧ p.2 = e := fun i e => by
    rw [← RLof_snd, List.getElem?_map]
    constructor
    · intro hq
      obtain ⟨p, hp, e1⟩ := Option.map_eq_some_iff.mp hq
      exact ⟨p, hp, e1⟩
    · rintro ⟨p, hp, e1⟩
      rw [hp]
      exact congrArg some e1
  have nobad : ∀ i p, (RLof LB el)[i]? = some p → r = nI i → 0 ≤ w → w ≤ 5 → ¬ (r < 0 ∨ nI (RLof LB el).length ≤ r ∨ w < 0 ∨ ¬ w ≤ 5) := fun i p hp hri k1 k2 bad => by
    have hi := (List.getElem?_eq_some_iff.mp hp).1
    rw [hri] at bad
    rcases bad with q | q | q | q
    · exact nI_pos (by omega) q
    · have := (nI_leI (by omega) (by omega)).mp q
      omega
    · exact i32_nlt.mpr k1 q
    · exact q k2
  refine ⟨x, rfl, wx _ ?_⟩
  refine cl_told hC hP (fun bad => ?_) (fun i e he hri k1 k2 => ?_)
  · refine fun _ => ⟨fun _ => hQ 1 h ?_, rfl⟩
    refine isM hM (sp_mtold hM hI (by omega) (fun _ h' S' hM' h0 hI' hf => ?_) (fun i p hp hri k1 k2 => ?_))
    · exact cmp_no (by decide) hM' h0 (hK _ ⟨LB, B, el, E, no, dl, ls, lf, S', I, J, hC.fr hf, hP.up, hM', hI'⟩)
    · rw [← hlen] at bad
      exact absurd bad (nobad i p hp hri k1 k2)
  · refine fun hf2 => out_st (hM.fr hf2) (fun h6 J6 hM6 hJ6 hf6 => hQ 0 h6 ?_)
    obtain ⟨hI6, hv6⟩ := hI.out hJ6
    obtain ⟨p, hp, hpe⟩ := (hgt i e).mp he
    refine isM hM6 (sp_mtold hM6 hI6 (by omega) (fun bad => absurd bad (nobad i p hp hri k1 k2)) (fun j p2 hp2 hrj _ _ h' S' v hM' h0 hI' hv hf => ?_))
    have hi := (List.getElem?_eq_some_iff.mp hp).1
    have hj := (List.getElem?_eq_some_iff.mp hp2).1
    have hij : j = i := (nI_eq (by omega) (by omega)).mp (hrj.symm.trans hri)
    subst hij
    rw [hp] at hp2
    cases hp2
    rw [hpe] at hv
    exact cmp_ok hM' h0 (hv6.trans hv.symm) (hK _ ⟨LB, B, el, E, no, dl, ls, lf, S', I, J6, (hC.fr hf6).fr hf, hP.up, hM', hI'⟩)
theorem st_latest {k : Int64} {kb : Int32} (hR : Rel d x m A T h) (hK : ∀ h', Rel d x m A (T + 1) h' → K h')
    (hQ : ∀ r1 h10, wIs h10 m 4 (wp_LogCleanerModel_latest d h10 m k kb fun r13 h12 => xfr sgM h10 h12 → cmpT d m (A 23) K r1 r13.toInt64 h12) → Q r1 h10) : wp_LogCleanerLaw_latest d h (some x) k kb (some (A 23)) Q := by
  obtain ⟨LB, B, el, E, no, dl, ls, lf, S, I, J, hC, hP, hM, hI⟩ := hR
  obtain ⟨nd, -, nx, wx⟩ := hC.nd
  obtain ⟨a1, a2, a3, a4, a5, a6, a7, a8, a9, a10, a11, a12⟩ := id hP
  have hlen := RLof_len LB el
  refine ⟨x, rfl, wx _ ?_⟩
  refine cl_latest hC hP (fun bad => ?_) (fun k1 k2 v hv1 hv2 => ?_)
  · refine fun _ => ⟨fun _ => hQ 1 h ?_, rfl⟩
    refine isM hM (sp_mlatest hM hI (by omega) (fun _ h' S' hM' h0 hI' hf => ?_) (fun k1 k2 => ?_))
    · exact cmp_no (by decide) hM' h0 (hK _ ⟨LB, B, el, E, no, dl, ls, lf, S', I, J, hC.fr hf, hP.up, hM', hI'⟩)
    · exact absurd bad (fun q => by rcases q with q | q; exact i32_nlt.mpr k1 q; exact q k2)
  · refine fun hf2 => out_st (hM.fr hf2) (fun h6 J6 hM6 hJ6 hf6 => hQ 0 h6 ?_)
    obtain ⟨hI6, hv6⟩ := hI.out hJ6
    refine isM hM6 (sp_mlatest hM6 hI6 (by omega) (fun bad => absurd bad (fun q => by rcases q with q | q; exact i32_nlt.mpr k1 q; exact q k2)) (fun _ _ h' S' v' hM' h0 hI' hw1 hw2 hf => ?_))
    rw [RLof_snd] at hw1 hw2
    have hvv : v = v' := by
      cases hq : lastK E (lowB k kb) kb (LB.flatMap el) with
      | none => rw [hv2 hq, hw2 hq]
      | some e => rw [hv1 e hq, hw1 e hq]
    exact cmp_ok hM' h0 (hv6.trans (by rw [hvv])) (hK _ ⟨LB, B, el, E, no, dl, ls, lf, S', I, J6, (hC.fr hf6).fr hf, hP.up, hM', hI'⟩)
end STEP
