/-! the class's object over the map, and its calls -/
def CI (d : Nat → ClassId) (h : xw) (x : Nat) (LB : List Nat) (B : Nat → BF) (el : Nat → List Nat) (E : Nat → EV) (no : Nat) (dl : List Nat) (ls lf : Int32) : Prop :=
  ∃ ab pk ad g gd, h x = some (o_L ab (nI LB.length) (nI (LB.flatMap el).length) (nI no) pk ad (nI dl.length)) ∧ h pk = some (o_P ls lf) ∧ h ab = some (xaq (d 1) 400 g) ∧ (∀ i b, LB[i]? = some b → g i = some b) ∧ h ad = some (xaq (d 0) 100 gd) ∧ (∀ i e, dl[i]? = some e → gd i = some e) ∧ ab ≠ ad ∧ (∀ b ∈ LB, (B b).2.2.1 ≠ ad ∧ (B b).2.2.1 ≠ ab) ∧ LB.Nodup ∧ (∀ b ∈ LB, ∀ c ∈ LB, b ≠ c → (B b).2.2.1 ≠ (B c).2.2.1) ∧ (∀ b ∈ LB, RB d h b (B b).1 (B b).2.1 (B b).2.2.1 (B b).2.2.2 (el b)) ∧ (∀ z ∈ LB.flatMap el ++ dl, h z = some (oE (E z))) ∧ (LB.flatMap el ++ dl).Nodup
theorem filter_flat_sub (f : Nat → Bool) (el : Nat → List Nat) (L : List Nat) : ((L.filter f).flatMap el).Sublist (L.flatMap el) := by
  induction L with
  | nil => exact List.Sublist.refl _
  | cons a r ih =>
    by_cases c : f a = true
    · rw [List.filter_cons_of_pos c, List.flatMap_cons, List.flatMap_cons]
      exact (List.Sublist.refl _).append ih
    · rw [List.filter_cons_of_neg c, List.flatMap_cons]
      exact ih.trans (List.sublist_append_right _ _)
section CIS
variable {d : Nat → ClassId} {h : xw} {x : Nat} {LB : List Nat} {B : Nat → BF} {el : Nat → List Nat} {E : Nat → EV} {no : Nat} {dl : List Nat} {ls lf : Int32} {T : Nat}
theorem CI.fr {h' : xw} (hC : CI d h x LB B el E no dl ls lf) (hf : xfr sgM h h') : CI d h' x LB B el E no dl ls lf := by
  obtain ⟨ab, pk, ad, g, gd, c1, c2, c3, c4, c5, c6, c7, c8, c9, c10, c11, c12, c13⟩ := hC
  refine ⟨ab, pk, ad, g, gd, hf _ _ c1 Bool.false_ne_true, hf _ _ c2 Bool.false_ne_true, hf _ _ c3 Bool.false_ne_true, c4, hf _ _ c5 Bool.false_ne_true, c6, c7, c8, c9, c10, fun b hb => ?_, fun z hz => hf _ _ (c12 z hz) Bool.false_ne_true, c13⟩
  obtain ⟨r1, cap, g2, r2, r3⟩ := c11 b hb
  exact ⟨hf _ _ r1 Bool.false_ne_true, cap, g2, hf _ _ r2 Bool.false_ne_true, r3⟩
theorem MR.fr {h' : xw} {m : Nat} {A : Nat → Nat} {S : Nat → Int32} {I : Nat → Nat → Int32} {J : Nat → Nat → Int64} (hM : MR d h m A S I J) (hf : xfr sgX h h') : MR d h' m A S I J := by
  obtain ⟨h1, h2, h3, h4⟩ := hM
  exact ⟨hf _ _ h1 Bool.false_ne_true, fun k hk => hf _ _ (h2 k hk) Bool.false_ne_true, fun k hk => hf _ _ (h3 k hk) Bool.false_ne_true, h4⟩
theorem cl_init {Q : xw → Prop} (hx : h x = some (.inr (0, z_LogCleaner))) (hQ : ∀ h', CI d h' x [] B el E 0 [] (-1) 0 → Q h') : wp_LogCleaner_init d h x Q := by
  unfold wp_LogCleaner_init
  refine ⟨by decide, by decide, fun q2 hq2 => ?_⟩
  have n2 : x ≠ q2 := fun e => by subst e; rw [hx] at hq2; cases hq2
  refine ⟨_, (xup_ne _ _ n2).trans hx, Nat.le_of_ble_eq_true rfl, ?_⟩
  refine ⟨_, xup_self _ _ _, Nat.le_of_ble_eq_true rfl, ?_⟩
  refine ⟨_, xup_self _ _ _, Nat.le_of_ble_eq_true rfl, ?_⟩
  refine ⟨_, xup_self _ _ _, Nat.le_of_ble_eq_true rfl, ?_⟩
  simp only [xup_xup]
  generalize hh1 : xup (xup h q2 _) x _ = h1
  have h1x := xup_self (xup h q2 (xaq (d 1) (400 : Int32).toNatClampNeg fun _ => none)) x (Sum.inr (0, (((z_LogCleaner.set 0 (va_rf (some q2))).set 1 (.int 0)).set 2 (.int 0)).set 3 (.int 0)))
  rw [hh1] at h1x
  have h1q : h1 q2 = some (xaq (d 1) 400 fun _ => none) := by
    rw [← hh1, xup_ne _ _ (Ne.symm n2), xup_self, i400]
  intro q8 hq8
  have n8 : x ≠ q8 := fun e => by subst e; rw [h1x] at hq8; cases hq8
  have n28 : q2 ≠ q8 := fun e => by subst e; rw [h1q] at hq8; cases hq8
  refine sp_Pinit (xup_self _ _ _) ?_
  rw [xup_xup]
  refine ⟨_, (xup_ne _ _ n8).trans h1x, Nat.le_of_ble_eq_true rfl, ?_⟩
  refine ⟨by decide, by decide, fun q12 hq12 => ?_⟩
  have n12 : x ≠ q12 := fun e => by subst e; rw [xup_self] at hq12; cases hq12
  have n212 : q2 ≠ q12 := fun e => by subst e; rw [xup_ne _ _ (Ne.symm n2), xup_ne _ _ n28, h1q] at hq12; cases hq12
  have n812 : q8 ≠ q12 := fun e => by subst e; rw [xup_ne _ _ (Ne.symm n8), xup_self] at hq12; cases hq12
  refine ⟨_, (xup_ne _ _ n12).trans (xup_self _ _ _), Nat.le_of_ble_eq_true rfl, ?_⟩
  refine ⟨_, xup_self _ _ _, Nat.le_of_ble_eq_true rfl, ?_⟩
  rw [xup_xup]
  refine hQ _ ⟨q2, q8, q12, fun _ => none, fun _ => none, ?_, ?_, ?_, fun i b hb => by simp at hb, ?_, fun i b hb => by simp at hb, n212, fun b hb => by simp at hb, List.nodup_nil, fun b hb => by simp at hb, fun b hb => by simp at hb, fun b hb => by simp at hb, List.nodup_nil⟩
  · rw [xup_self]
    rfl
  · rw [xup_ne _ _ (Ne.symm n8), xup_ne _ _ n812, xup_ne _ _ (Ne.symm n8), xup_self]
  · rw [xup_ne _ _ (Ne.symm n2), xup_ne _ _ n212, xup_ne _ _ (Ne.symm n2), xup_ne _ _ n28, h1q]
  · rw [xup_ne _ _ (Ne.symm n12), xup_self, i100]
theorem cl_record {k w : Int64} {kb v tm : Int32} {Q : Int32 → xw → Prop} {X : String → xw → Prop} (hC : CI d h x LB B el E no dl ls lf) (hP : PI T LB B el E dl ls lf) (hv : v = 0 ∨ v = 1)
    (hIA : (kb < -1 ∨ ¬ kb ≤ 8 ∨ ¬ 0 ≤ tm) → X IAE h) (hIS : ¬ (kb < -1 ∨ ¬ kb ≤ 8 ∨ ¬ 0 ≤ tm) → (¬ dl.length < 100 ∨ ¬ (LB.flatMap el).length + dl.length < 4000) → X ISE h)
    (hQ : ¬ (kb < -1 ∨ ¬ kb ≤ 8 ∨ ¬ 0 ≤ tm) → dl.length < 100 → (LB.flatMap el).length + dl.length < 4000 → ∀ h' q, q ∉ LB.flatMap el ++ dl → CI d h' x LB B el (upE E q (lowB k kb, kb, v, (if v = 0 then 0 else w), tm, -1, 0)) no (dl ++ [q]) ls lf → Q (nI (dl.length + 1)) h') : wp_LogCleaner_record d h x k kb v w tm Q X := by
  obtain ⟨ab, pk, ad, g, gd, c1, c2, c3, c4, c5, c6, c7, c8, c9, c10, c11, c12, c13⟩ := hC
  obtain ⟨a1, a2, a3, -⟩ := hP
  have e4000 : (4000 : Int32) = nI 4000 := by decide
  have hlt : nI (LB.flatMap el).length + nI dl.length < 4000 ↔ (LB.flatMap el).length + dl.length < 4000 := by
    rw [nI_add, e4000]
    exact nI_ltI (by omega) (by omega)
  refine sp_record c1 c5 a3 hv hIA (fun ok q => hIS ok ?_) (fun ok l1 l2 q hq => ?_)
  · rcases q with q | q
    · exact Or.inl q
    · exact Or.inr (fun q2 => q (hlt.mpr q2))
  have old : ∀ a o, h a = some o → a ≠ q := fun a o ha e => by subst e; rw [hq] at ha; cases ha
  have hqn : q ∉ LB.flatMap el ++ dl := fun e => absurd rfl (old q _ (c12 q e))
  generalize hh' : xup (xup (xup h q (o_E (lowB k kb) kb v (if v = 0 then 0 else w) tm (-1) 0)) ad (xaq (d 0) 100 (va_up gd dl.length (some q)))) x (o_L ab (nI LB.length) (nI (LB.flatMap el).length) (nI no) pk ad (nI (dl.length + 1))) = h'
  have ho : ∀ a o, h a = some o → a ≠ x → a ≠ ad → h' a = some o := fun a o ha n1 n2 => by
    rw [← hh', xup_ne _ _ n1, xup_ne _ _ n2, xup_ne _ _ (old a o ha)]
    exact ha
  have hxad : x ≠ ad := ne_oe_arr c1 c5
  have hq1 : h' q = some (oE (lowB k kb, kb, v, (if v = 0 then 0 else w), tm, -1, 0)) := by
    rw [← hh', xup_ne _ _ (Ne.symm (old _ _ c1)), xup_ne _ _ (Ne.symm (old _ _ c5)), xup_self]
    rfl
  refine hQ ok l1 (hlt.mp l2) h' q hqn ⟨ab, pk, ad, g, va_up gd dl.length (some q), ?_, ho _ _ c2 (Ne.symm (ne_obj c1 c2 L_ne_P)) (ne_oe_arr c2 c5), ho _ _ c3 (Ne.symm (ne_oe_arr c1 c3)) c7, c4, ?_, fun i e he => ?_, c7, c8, c9, c10, fun b hb => ?_, fun z hz => ?_, ?_⟩
  · rw [← hh', xup_self, List.length_append, List.length_singleton]
  · rw [← hh', xup_ne _ _ (Ne.symm hxad), xup_self]
  · by_cases c : i < dl.length
    · rw [List.getElem?_append_left c] at he
      rw [va_up_ne _ _ (by omega)]
      exact c6 i e he
    · rw [List.getElem?_append_right (by omega)] at he
      have h1 := (List.getElem?_eq_some_iff.mp he).1
      rw [List.length_singleton] at h1
      have h3 : i = dl.length := by omega
      subst h3
      simp only [Nat.sub_self, List.getElem?_cons_zero, Option.some.injEq] at he
      rw [va_up_self, he]
  · obtain ⟨r1, cap, g2, r2, r3⟩ := c11 b hb
    exact ⟨ho _ _ r1 (ne_obj r1 c1 B_ne_L) (ne_oe_arr r1 c5), cap, g2, ho _ _ r2 (Ne.symm (ne_oe_arr c1 r2)) (c8 b hb).1, r3⟩
  · rw [← List.append_assoc] at hz
    rcases List.mem_append.mp hz with hz | hz
    · rw [upE_ne _ (fun e => hqn (by rw [← e]; exact hz))]
      exact ho _ _ (c12 z hz) (ne_obj (c12 z hz) c1 E_ne_L) (ne_oe_arr (c12 z hz) c5)
    · rw [List.mem_singleton.mp hz, upE_self]
      exact hq1
  · rw [← List.append_assoc]
    exact List.nodup_append.mpr ⟨c13, List.pairwise_singleton _ _, fun a ha b hb e => hqn (by rw [← List.mem_singleton.mp hb, ← e]; exact ha)⟩
theorem cl_close {prod : Int32} {Q : Int32 → xw → Prop} {X : String → xw → Prop} (hC : CI d h x LB B el E no dl ls lf) (hP : PI T LB B el E dl ls lf) (hT : T ≤ 1000)
    (hIA : ¬ -1 ≤ prod → X IAE h) (hIS : -1 ≤ prod → (dl.length = 0 ∨ ¬ LB.length < 400) → X ISE h)
    (hQ : -1 ≤ prod → 0 < dl.length → LB.length < 400 → ∀ h' b B' el' E', E' = mvE (LB.flatMap el) (nI no) E dl → b ∉ LB → (∀ c ∈ LB, B' c = B c) → (B' b).1 = nI no ∧ (B' b).2.1 = prod ∧ (B' b).2.2.2 = (plc (ls, lf) (bsz E' dl)).1 → (∀ c ∈ LB, el' c = el c) → el' b = dl → RLof (LB ++ [b]) el' = RLof LB el ++ dl.map (fun e => (LB.length, e)) → CI d h' x (LB ++ [b]) B' el' E' (no + dl.length) [] (plc (ls, lf) (bsz E' dl)).1 (plc (ls, lf) (bsz E' dl)).2 → PI (T + 1) (LB ++ [b]) B' el' E' [] (plc (ls, lf) (bsz E' dl)).1 (plc (ls, lf) (bsz E' dl)).2 → Q (nI no) h') : wp_LogCleaner_close d h x prod Q X := by
  obtain ⟨ab, pk, ad, g, gd, c1, c2, c3, c4, c5, c6, c7, c8, c9, c10, c11, c12, c13⟩ := hC
  obtain ⟨a1, a2, a3, -⟩ := id hP
  refine sp_close (B := B) (el := el) (E := E) c1 c2 c3 c4 a1 c5 c6 a3 c11 c12 c8 c7 hIA hIS (fun k1 k2 k3 h' b arr g' ga' hb harr hbarr f1 f2 f3 f4 f5 f6 f7 f8 f9 f10 => ?_)
  have oldb : ∀ a o, h a = some o → a ≠ b := fun a o ha e => by subst e; rw [hb] at ha; cases ha
  have olda : ∀ a o, h a = some o → a ≠ arr := fun a o ha e => by subst e; rw [harr] at ha; cases ha
  have hbn : b ∉ LB := fun q => absurd rfl (oldb b _ (c11 b q).1)
  obtain ⟨E', hE'⟩ : ∃ E', E' = mvE (LB.flatMap el) (nI no) E dl := ⟨_, rfl⟩
  rw [← hE'] at f2 f6 f9
  obtain ⟨B', hB'⟩ : ∃ B' : Nat → BF, B' = fun z => if z = b then (nI no, prod, arr, (plc (ls, lf) (bsz E' dl)).1) else B z := ⟨_, rfl⟩
  obtain ⟨el', hel'⟩ : ∃ el' : Nat → List Nat, el' = fun z => if z = b then dl else el z := ⟨_, rfl⟩
  have hB1 : ∀ c ∈ LB, B' c = B c := fun c hc => by rw [hB']; exact if_neg (fun e => hbn (by rw [← e]; exact hc))
  have hB2 : B' b = (nI no, prod, arr, (plc (ls, lf) (bsz E' dl)).1) := by rw [hB']; exact if_pos rfl
  have he1 : ∀ c ∈ LB, el' c = el c := fun c hc => by rw [hel']; exact if_neg (fun e => hbn (by rw [← e]; exact hc))
  have he2 : el' b = dl := by rw [hel']; exact if_pos rfl
  obtain ⟨hP', hfl, hRL⟩ := PI_close hP hT c13 hbn k1 k3 hE' hB1 hB2 he1 he2
  obtain ⟨gd', f5⟩ := f5
  have hra : ∀ c ∈ LB, (B c).2.2.1 ≠ arr := fun c hc => by
    obtain ⟨-, cap, g2, r2, -⟩ := c11 c hc
    exact olda _ _ r2
  refine hQ k1 k2 k3 h' b B' el' E' hE' hbn hB1 (by rw [hB2]; exact ⟨rfl, rfl, rfl⟩) he1 he2 hRL ⟨ab, pk, ad, g', gd', ?_, f2, f3, f4, f5, fun i e he => by simp at he, c7, fun c hc => ?_, ?_, fun c hc z hz hcz => ?_, fun c hc => ?_, fun z hz => ?_, ?_⟩ hP'
  · rw [hfl, List.length_append, List.length_append, List.length_singleton, List.length_nil, nI_0, ← nI_add (LB.flatMap el).length]
    exact f1
  · rcases List.mem_append.mp hc with hc | hc
    · rw [hB1 c hc]
      exact c8 c hc
    · rw [List.mem_singleton.mp hc, hB2]
      exact ⟨Ne.symm (olda _ _ c5), Ne.symm (olda _ _ c3)⟩
  · exact List.nodup_append.mpr ⟨c9, List.pairwise_singleton _ _, fun a ha z hz e => hbn (by rw [← List.mem_singleton.mp hz, ← e]; exact ha)⟩
  · rcases List.mem_append.mp hc with hc | hc
    · rcases List.mem_append.mp hz with hz | hz
      · rw [hB1 c hc, hB1 z hz]
        exact c10 c hc z hz hcz
      · rw [hB1 c hc, List.mem_singleton.mp hz, hB2]
        exact hra c hc
    · rcases List.mem_append.mp hz with hz | hz
      · rw [hB1 z hz, List.mem_singleton.mp hc, hB2]
        exact Ne.symm (hra z hz)
      · exact absurd ((List.mem_singleton.mp hc).trans (List.mem_singleton.mp hz).symm) hcz
  · rcases List.mem_append.mp hc with hc | hc
    · rw [hB1 c hc, he1 c hc]
      obtain ⟨r1, cap, g2, r2, r3⟩ := c11 c hc
      refine RB.congr ⟨r1, cap, g2, r2, r3⟩ ?_ ?_
      · exact f10 c (ne_obj r1 c1 B_ne_L) (ne_obj r1 c2 B_ne_P) (ne_oe_arr r1 c3) (oldb _ _ r1) (olda _ _ r1) (ne_oe_arr r1 c5) (fun q => absurd rfl (ne_obj (c12 c q) r1 E_ne_B))
      · exact f10 _ (Ne.symm (ne_oe_arr c1 r2)) (Ne.symm (ne_oe_arr c2 r2)) (c8 c hc).2 (oldb _ _ r2) (olda _ _ r2) (c8 c hc).1 (fun q => absurd rfl (ne_oe_arr (c12 _ q) r2))
    · rw [List.mem_singleton.mp hc, hB2, he2]
      exact ⟨f6, dl.length, ga', f7, Nat.le_refl _, a3, f8⟩
  · rw [hfl, List.append_nil] at hz
    exact f9 z hz
  · rw [hfl, List.append_nil]
    exact c13
theorem cl_drop {n mn : Int32} {Q : Int32 → xw → Prop} {X : String → xw → Prop} (hC : CI d h x LB B el E no dl ls lf) (hP : PI T LB B el E dl ls lf) (hT : T ≤ 1000) (hmn : mn = mny ls n) {L3 : List Nat} (hL3 : L3 = LB.filter (fun b => decide (mn ≤ (B b).2.2.2)))
    {B' : Nat → BF} (hB' : B' = fun b => ((B b).1, (B b).2.1, (B b).2.2.1, (B b).2.2.2 - mn))
    (hIA : ¬ (0 ≤ n ∧ n ≤ 400) → X IAE h) (hQ : 0 ≤ n → n ≤ 400 → ∀ h', CI d h' x L3 B' el E no dl (ls - mn) lf → PI (T + 1) L3 B' el E dl (ls - mn) lf → Q (nI ((LB.flatMap el).length - (L3.flatMap el).length)) h') : wp_LogCleaner_drop d h x n Q X := by
  obtain ⟨ab, pk, ad, g, gd, c1, c2, c3, c4, c5, c6, c7, c8, c9, c10, c11, c12, c13⟩ := hC
  obtain ⟨a1, a2, a3, -⟩ := id hP
  unfold wp_LogCleaner_drop
  refine ⟨fun c => hIA (fun q => i32_nlt.mpr q.1 c), fun d1 => ?_⟩
  have d1 : 0 ≤ n := i32_nlt.mp d1
  refine ⟨fun d2 => ?_, fun c => hIA (fun q => c q.2)⟩
  refine g_L_4 c1 ?_
  refine ⟨_, rfl, ?_⟩
  refine g_P_0 c2 ?_
  refine is_L c1 ?_
  show wp_LogCleaner_removeFirstSegments d h x (mny ls n) _
  rw [← hmn]
  have hw : wentF B el mn LB = nI ((LB.flatMap el).length - (L3.flatMap el).length) ∧ (L3.flatMap el).length ≤ (LB.flatMap el).length := by
    rw [hL3]
    clear hL3 c1 c4 c8 c9 c10 c11 c12 c13 a1 a2 hP hQ
    refine snoc_ind (P := fun LB => wentF B el mn LB = nI ((LB.flatMap el).length - ((LB.filter (fun b => decide (mn ≤ (B b).2.2.2))).flatMap el).length) ∧ ((LB.filter (fun b => decide (mn ≤ (B b).2.2.2))).flatMap el).length ≤ (LB.flatMap el).length) ⟨rfl, Nat.le_refl _⟩ (fun l a ih => ?_) LB
    rw [wentF_snoc, List.filter_append, List.flatMap_append, List.flatMap_append, List.length_append, List.length_append]
    by_cases c : mn ≤ (B a).2.2.2
    · rw [if_pos c, ih.1]
      have e : [a].filter (fun b => decide (mn ≤ (B b).2.2.2)) = [a] := by simp [c]
      rw [e]
      exact ⟨by congr 1; omega, by omega⟩
    · rw [if_neg c, ih.1, nI_add]
      have e : [a].filter (fun b => decide (mn ≤ (B b).2.2.2)) = [] := by simp [c]
      rw [e]
      have e2 : ([a].flatMap el).length = (el a).length := by simp
      have e3 : (([] : List Nat).flatMap el).length = 0 := rfl
      rw [e2, e3]
      exact ⟨by congr 1; omega, by omega⟩
  refine sp_removeFirst (B := B) (el := el) c1 c2 c3 c4 a1 c9 (fun b hb => (c11 b hb).1) (fun h' g' f1 f2 f3 f4 f5 f6 => ?_)
  rw [← hL3] at f2 f3
  rw [hw.1, pk_sub (by omega), show (LB.flatMap el).length - ((LB.flatMap el).length - (L3.flatMap el).length) = (L3.flatMap el).length by omega] at f3
  have hsub : L3.Sublist LB := by rw [hL3]; exact List.filter_sublist
  have hmem : ∀ b ∈ L3, b ∈ LB ∧ mn ≤ (B b).2.2.2 := fun b hb => by
    rw [hL3] at hb
    obtain ⟨h1, h2⟩ := List.mem_filter.mp hb
    exact ⟨h1, of_decide_eq_true h2⟩
  have hBb : ∀ b, B' b = ((B b).1, (B b).2.1, (B b).2.2.1, (B b).2.2.2 - mn) := fun b => by rw [hB']
  have keep : ∀ a o, h a = some o → (∀ b ∈ LB, a ≠ b) → a ≠ ab → a ≠ x → a ≠ pk → h' a = some o := fun a o ha n1 n2 n3 n4 => (f6 a (fun q => n1 a q rfl) n2 n3 n4).trans ha
  have hfs : (L3.flatMap el).Sublist (LB.flatMap el) := by rw [hL3]; exact filter_flat_sub _ _ _
  rw [hw.1]
  refine hQ d1 d2 h' ⟨ab, pk, ad, g', gd, f3, f4, f1, f2, ?_, c6, c7, fun b hb => ?_, hsub.nodup c9, fun b hb c hc hbc => ?_, fun b hb => ?_, fun z hz => ?_, ?_⟩ (PI_drop hP hT d1 hmn hL3 (fun b hb => by rw [hBb]; exact ⟨rfl, rfl⟩))
  · exact keep _ _ c5 (fun b hb => Ne.symm (ne_oe_arr (c11 b hb).1 c5)) (Ne.symm c7) (Ne.symm (ne_oe_arr c1 c5)) (Ne.symm (ne_oe_arr c2 c5))
  · rw [hBb]
    exact c8 b (hmem b hb).1
  · rw [hBb, hBb]
    exact c10 b (hmem b hb).1 c (hmem c hc).1 hbc
  · rw [hBb]
    obtain ⟨r1, cap, g2, r2, r3⟩ := c11 b (hmem b hb).1
    refine ⟨f5 b (hmem b hb).1 (hmem b hb).2, cap, g2, ?_, r3⟩
    exact keep _ _ r2 (fun c hc => Ne.symm (ne_oe_arr (c11 c hc).1 r2)) (c8 b (hmem b hb).1).2 (Ne.symm (ne_oe_arr c1 r2)) (Ne.symm (ne_oe_arr c2 r2))
  · have hz2 : z ∈ LB.flatMap el ++ dl := by
      rcases List.mem_append.mp hz with q | q
      · exact List.mem_append_left _ (hfs.subset q)
      · exact List.mem_append_right _ q
    have hz3 := c12 z hz2
    exact keep _ _ hz3 (fun c hc => ne_obj hz3 (c11 c hc).1 E_ne_B) (ne_oe_arr hz3 c3) (ne_obj hz3 c1 E_ne_L) (ne_obj hz3 c2 E_ne_P)
  · exact (hfs.append (List.Sublist.refl dl)).nodup c13
end CIS
