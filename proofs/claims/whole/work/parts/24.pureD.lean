/-! the draft becomes a batch -/
def upE (E : Nat → EV) (a : Nat) (e : EV) : Nat → EV := fun j => if j = a then e else E j
theorem upE_self (E : Nat → EV) (a : Nat) (e : EV) : upE E a e a = e := if_pos rfl
theorem upE_ne (E : Nat → EV) {a j : Nat} {e : EV} (h : j ≠ a) : upE E a e j = E j := if_neg h
def setSup (e : EV) : EV := (e.1, e.2.1, e.2.2.1, e.2.2.2.1, e.2.2.2.2.1, e.2.2.2.2.2.1, 1)
def setOff (e : EV) (no : Int32) : EV := (e.1, e.2.1, e.2.2.1, e.2.2.2.1, e.2.2.2.2.1, no, e.2.2.2.2.2.2)
/-- the latest record of the log with e's key is marked -/
def mark (E : Nat → EV) (log : List Nat) (e : Nat) : Nat → EV := if (E e).2.1 = -1 then E else match lastK E (E e).1 (E e).2.1 log with
  | none => E
  | some a => upE E a (setSup (E a))
theorem lastK_mem {E : Nat → EV} {k : Int64} {b : Int32} {l : List Nat} {a : Nat} (h : lastK E k b l = some a) : a ∈ l := List.mem_reverse.mp (List.mem_of_find?_eq_some h)
/-- entries at these addresses, and a change of one of them -/
theorem ent_up {h : xw} {L : List Nat} {E : Nat → EV} {a : Nat} {e : EV} (hE : ∀ z ∈ L, h z = some (oE (E z))) : ∀ z ∈ L, (xup h a (oE e)) z = some (oE (upE E a e z)) := fun z hz => by
  by_cases q : z = a
  · subst q
    rw [xup_self, upE_self]
  · rw [xup_ne _ _ q, upE_ne _ q]
    exact hE z hz
theorem sp_mark {d : Nat → ClassId} {h : xw} {x ab pk ad e : Nat} {rc no dc : Int32} {LB : List Nat} {g : Nat → Option Nat} {B : Nat → BF} {el : Nat → List Nat} {E : Nat → EV} {Q : xw → Prop} (hx : h x = some (o_L ab (nI LB.length) rc no pk ad dc)) (hab : h ab = some (xaq (d 1) 400 g)) (hg : ∀ i b, LB[i]? = some b → g i = some b) (hle : LB.length ≤ 400)
    (hRB : ∀ b ∈ LB, RB d h b (B b).1 (B b).2.1 (B b).2.2.1 (B b).2.2.2 (el b)) (hE : ∀ z ∈ LB.flatMap el, h z = some (oE (E z))) (he : h e = some (oE (E e)))
    (hQ0 : mark E (LB.flatMap el) e = E → Q h) (hQ1 : ∀ a ∈ LB.flatMap el, mark E (LB.flatMap el) e = upE E a (setSup (E a)) → Q (xup h a (oE (setSup (E a))))) : wp_LogCleaner_markSuperseded d h x (some e) Q := by
  unfold wp_LogCleaner_markSuperseded
  refine ⟨_, rfl, ?_⟩
  refine is_E he ?_
  refine sp_hasKey he ?_
  refine ⟨fun c => ?_, fun c => ?_⟩
  · have hk : (E e).2.1 = -1 := by
      by_cases hk : (E e).2.1 = -1
      · exact hk
      · rw [if_neg hk] at c
        exact absurd c (by decide)
    exact hQ0 (if_pos hk)
  · have hk : ¬ (E e).2.1 = -1 := fun hk => c (if_pos hk)
    refine g_E_0 he ?_
    refine g_E_1 he ?_
    refine is_L hx ?_
    refine sp_Llatest hx hab hg hle hRB hE ?_
    refine ⟨fun hn => ?_, fun a ha => ?_⟩
    · exact hQ0 (by rw [mark, if_neg hk, hn])
    · refine p_E_6 (hE a (lastK_mem ha)) (Or.inr rfl) ?_
      exact hQ1 a (lastK_mem ha) (by rw [mark, if_neg hk, ha])
theorem sp_append {d : Nat → ClassId} {h : xw} {b e arr n cap : Nat} {base prod seg : Int32} {g : Nat → Option Nat} {ev : EV} {Q : xw → Prop} (hb : h b = some (o_B base prod arr (nI n) seg)) (harr : h arr = some (xaq (d 0) cap g)) (he : h e = some (oE ev)) (hn : n < cap) (hcap : cap ≤ 100)
    (hQ : Q (xup (xup h arr (xaq (d 0) cap (va_up g n (some e)))) b (o_B base prod arr (nI (n + 1)) seg))) : wp_Batch_append d h b (some e) Q := by
  have hne : b ≠ arr := ne_oe_arr hb harr
  unfold wp_Batch_append
  refine g_B_3 hb ?_
  refine g_B_2 hb ?_
  refine ⟨_, rfl, ?_⟩
  refine ⟨_, harr, ?_⟩
  refine ⟨fun c => ?_, fun _ => ?_⟩
  · exact absurd ((nI_leI (a := cap) (b := n) (by omega) (by omega)).mp c) (by omega)
  · refine g_B_2 hb ?_
    refine g_B_3 hb ?_
    refine ⟨_, rfl, ?_⟩
    refine wstq_n harr hn (by omega) (fun z q => by cases q; exact ⟨_, he⟩) ?_
    refine g_B_3 (by rw [xup_ne _ _ hne]; exact hb) ?_
    refine p_B_3 (by rw [xup_ne _ _ hne]; exact hb) ?_
    rw [nI_1]
    exact hQ
/-- the records as they are when the draft's have come behind the log -/
def mvE (log : List Nat) (no : Int32) (E : Nat → EV) : List Nat → (Nat → EV)
  | [] => E
  | e :: r => mvE (log ++ [e]) (no + 1) (upE (mark E log e) e (setOff (mark E log e e) no)) r
theorem mvE_snoc (log : List Nat) (no : Nat) (E : Nat → EV) (l : List Nat) (e : Nat) : mvE log (nI no) E (l ++ [e]) = upE (mark (mvE log (nI no) E l) (log ++ l) e) e (setOff (mark (mvE log (nI no) E l) (log ++ l) e e) (nI (no + l.length))) := by
  induction l generalizing log no E with
  | nil => simp [mvE]
  | cons a r ih =>
    show mvE (log ++ [a]) (nI no + 1) _ (r ++ [e]) = _
    rw [nI_1, ih]
    simp only [mvE, nI_1, List.length_cons, List.append_assoc, List.singleton_append]
    rw [show no + 1 + r.length = no + (r.length + 1) by omega]
theorem sp_moveDraft {d : Nat → ClassId} {h : xw} {x ab pk ad b arr no : Nat} {rc base prod seg : Int32} {LB0 dl : List Nat} {g gd ga : Nat → Option Nat} {B : Nat → BF} {el : Nat → List Nat} {E : Nat → EV} {Q : xw → Prop}
    (hx : h x = some (o_L ab (nI (LB0.length + 1)) rc (nI no) pk ad (nI dl.length))) (hab : h ab = some (xaq (d 1) 400 g)) (hg : ∀ i c, (LB0 ++ [b])[i]? = some c → g i = some c) (hle : LB0.length + 1 ≤ 400)
    (had : h ad = some (xaq (d 0) 100 gd)) (hgd : ∀ i e, dl[i]? = some e → gd i = some e) (hdl : dl.length ≤ 100)
    (hRB : ∀ c ∈ LB0, RB d h c (B c).1 (B c).2.1 (B c).2.2.1 (B c).2.2.2 (el c)) (hE : ∀ z ∈ LB0.flatMap el ++ dl, h z = some (oE (E z)))
    (hb : h b = some (o_B base prod arr (nI 0) seg)) (harr : h arr = some (xaq (d 0) dl.length ga)) (hbn : b ∉ LB0) (hra : ∀ c ∈ LB0, (B c).2.2.1 ≠ arr ∧ (B c).2.2.1 ≠ ad) (hra2 : arr ≠ ad) (hraa : ab ≠ arr ∧ ab ≠ ad)
    (hQ : ∀ h' ga', h' x = some (o_L ab (nI (LB0.length + 1)) (rc + nI dl.length) (nI (no + dl.length)) pk ad 0) → h' b = some (o_B base prod arr (nI dl.length) seg) → h' arr = some (xaq (d 0) dl.length ga') → (∀ i e, dl[i]? = some e → ga' i = some e) → (∃ gd', h' ad = some (xaq (d 0) 100 gd')) → (∀ z ∈ LB0.flatMap el ++ dl, h' z = some (oE (mvE (LB0.flatMap el) (nI no) E dl z))) → (∀ a, a ≠ x → a ≠ b → a ≠ arr → a ≠ ad → a ∉ LB0.flatMap el ++ dl → h' a = h a) → Q h') : wp_LogCleaner_moveDraftInto d h x (some b) Q := by
  have notE : ∀ a o, h a = some o → (∀ ev, o ≠ oE ev) → a ∉ LB0.flatMap el ++ dl := fun a o ha hn q => by
    have h1 := hE a q
    rw [ha] at h1
    exact hn _ (Option.some.inj h1)
  have L_n : ∀ ev, o_L ab (nI (LB0.length + 1)) rc (nI no) pk ad (nI dl.length) ≠ oE ev := fun ev => Ne.symm E_ne_L
  have a_n : ∀ (cA : ClassId) n g ev, xaq cA n g ≠ oE ev := fun cA n g ev => by simp [oE, o_E]
  have hxab : x ≠ ab := ne_oe_arr hx hab
  have hxad : x ≠ ad := ne_oe_arr hx had
  have hxar : x ≠ arr := ne_oe_arr hx harr
  have hxb : x ≠ b := Ne.symm (ne_obj hb hx B_ne_L)
  have hbab : b ≠ ab := ne_oe_arr hb hab
  have hbad : b ≠ ad := ne_oe_arr hb had
  have hbar : b ≠ arr := ne_oe_arr hb harr
  unfold wp_LogCleaner_moveDraftInto
  refine wLoop_ind (fun y h' => ∃ i ga' gd', i ≤ dl.length ∧ y = (x, some b, nI i) ∧ h' x = some (o_L ab (nI (LB0.length + 1)) rc (nI (no + i)) pk ad (nI dl.length)) ∧ h' b = some (o_B base prod arr (nI i) seg) ∧ h' arr = some (xaq (d 0) dl.length ga') ∧ (∀ j e, (dl.take i)[j]? = some e → ga' j = some e) ∧ h' ad = some (xaq (d 0) 100 gd') ∧ (∀ j, i ≤ j → gd' j = gd j) ∧ (∀ z ∈ LB0.flatMap el ++ dl, h' z = some (oE (mvE (LB0.flatMap el) (nI no) E (dl.take i) z))) ∧ ∀ a, a ≠ x → a ≠ b → a ≠ arr → a ≠ ad → a ∉ LB0.flatMap el ++ dl → h' a = h a) (fun y _ => dl.length + 1 - y.2.2.toNatClampNeg) ?_ _ _ ⟨0, ga, gd, Nat.zero_le _, rfl, hx, hb, harr, fun j e hj => by simp at hj, had, fun _ _ => rfl, fun z hz => hE z hz, fun _ _ _ _ _ _ => rfl⟩
  rintro y h' k0 ⟨i, ga', gd', hi, rfl, hx', hb', harr', hga', had', hgd', hE', hk5⟩ hk
  have hab' : h' ab = some (xaq (d 1) 400 g) := by rw [hk5 ab (Ne.symm hxab) (Ne.symm hbab) hraa.1 hraa.2 (notE ab _ hab (a_n _ _ _))]; exact hab
  show wc_LogCleaner_moveDraftInto_2 d Q _ x (some b) (nI i) h'
  refine g_L_6 hx' ?_
  refine ⟨fun c => ?_, fun c => ?_⟩
  · have h1 := (nI_leI (by omega) (by omega)).mp c
    have h2 : i = dl.length := by omega
    subst h2
    rw [List.take_length] at hga' hE'
    refine g_L_2 hx' ?_
    refine g_L_6 hx' ?_
    refine p_L_2 hx' ?_
    refine p_L_6 (xup_self _ _ _) ?_
    rw [xup_xup]
    refine hQ _ ga' (xup_self _ _ _) ?_ ?_ hga' ⟨gd', ?_⟩ (fun z hz => ?_) (fun a n1 n2 n3 n4 n5 => ?_)
    · rw [xup_ne _ _ (Ne.symm hxb)]; exact hb'
    · rw [xup_ne _ _ (Ne.symm hxar)]; exact harr'
    · rw [xup_ne _ _ (Ne.symm hxad)]; exact had'
    · rw [xup_ne _ _ (fun q => by subst q; exact notE z _ hx L_n hz)]
      exact hE' z hz
    · rw [xup_ne _ _ n1]
      exact hk5 a n1 n2 n3 n4 n5
  · have hlt : i < dl.length := by
      rcases Nat.lt_or_ge i dl.length with h1 | h1
      · exact h1
      · exact absurd ((nI_leI (by omega) (by omega)).mpr h1) c
    have hdi : dl[i]? = some dl[i] := List.getElem?_eq_getElem hlt
    have hem : dl[i] ∈ LB0.flatMap el ++ dl := List.mem_append_right _ (List.getElem_mem hlt)
    have hcut : dl.take (i + 1) = dl.take i ++ [dl[i]] := List.take_succ_eq_append_getElem hlt
    -- the log as it is now
    have hlogE : ∀ z, z ∈ (LB0 ++ [b]).flatMap (fun c => if c = b then dl.take i else el c) → z ∈ LB0.flatMap el ++ dl := fun z hz => by
      obtain ⟨c, hc, hz⟩ := List.mem_flatMap.mp hz
      by_cases hcb : c = b
      · rw [if_pos hcb] at hz
        exact List.mem_append_right _ (List.mem_of_mem_take hz)
      · rw [if_neg hcb] at hz
        rcases List.mem_append.mp hc with h1 | h1
        · exact List.mem_append_left _ (mem_flat h1 hz)
        · exact absurd (List.mem_singleton.mp h1) hcb
    have hloge : (LB0 ++ [b]).flatMap (fun c => if c = b then dl.take i else el c) = LB0.flatMap el ++ dl.take i := by
      rw [List.flatMap_append]
      congr 1
      · rw [List.flatMap_def, List.flatMap_def]
        congr 1
        exact List.map_congr_left (fun c hc => if_neg (fun q : c = b => hbn (by rw [← q]; exact hc)))
      · simp
    have hRB' : ∀ c ∈ LB0 ++ [b], RB d h' c (if c = b then (base, prod, arr, seg) else B c).1 (if c = b then (base, prod, arr, seg) else B c).2.1 (if c = b then (base, prod, arr, seg) else B c).2.2.1 (if c = b then (base, prod, arr, seg) else B c).2.2.2 (if c = b then dl.take i else el c) := fun c hc => by
      by_cases hcb : c = b
      · rw [if_pos hcb, if_pos hcb]
        subst hcb
        refine ⟨?_, dl.length, ga', harr', ?_, hdl, hga'⟩
        · rw [List.length_take, Nat.min_eq_left hi]; exact hb'
        · rw [List.length_take]; omega
      · rw [if_neg hcb, if_neg hcb]
        have hc0 : c ∈ LB0 := by
          rcases List.mem_append.mp hc with h1 | h1
          · exact h1
          · exact absurd (List.mem_singleton.mp h1) hcb
        obtain ⟨r1, cap, g2, r2, r3⟩ := hRB c hc0
        refine (hRB c hc0).congr ?_ ?_
        · exact hk5 c (ne_obj r1 hx B_ne_L) hcb (ne_oe_arr r1 harr) (ne_oe_arr r1 had) (notE c _ r1 (fun ev => Ne.symm E_ne_B))
        · exact hk5 _ (Ne.symm (ne_oe_arr hx r2)) (Ne.symm (ne_oe_arr hb r2)) (hra c hc0).1 (hra c hc0).2 (notE _ _ r2 (a_n _ _ _))
    have he' := hE' dl[i] hem
    have mu : dl.length + 1 - (nI i + 1).toNatClampNeg < dl.length + 1 - (nI i).toNatClampNeg := by
      rw [nI_1, nI_clamp (by omega), nI_clamp (by omega)]
      omega
    -- behind the marking
    have fin : ∀ (h2 : xw) (E2 : Nat → EV), E2 = mark (mvE (LB0.flatMap el) (nI no) E (dl.take i)) (LB0.flatMap el ++ dl.take i) dl[i] → (∀ z ∈ LB0.flatMap el ++ dl, h2 z = some (oE (E2 z))) → (∀ a, a ∉ LB0.flatMap el ++ dl → h2 a = h' a) →
        wgI h2 x 0 3 fun v10 => wnn (some dl[i]) fun p11 => wpF h2 p11 2 5 (.int v10) fun h12 => wgI h12 x 0 3 fun v13 => wpF h12 x 0 3 (.int (v13 + 1)) fun h14 => wnn (some b) fun p15 => wIs h14 p15 1 (wp_Batch_append d h14 p15 (some p11) fun h16 => wgA h16 x 0 5 fun r17 => wnn r17 fun p18 => wstq h16 p18 (d 0) 2 (nI i) none fun h19 => k0 (x, some p15, nI i + 1) h19) := fun h2 E2 hE2 h2E h2n => by
      have nx : x ∉ LB0.flatMap el ++ dl := notE x _ hx L_n
      have nb : b ∉ LB0.flatMap el ++ dl := notE b _ hb (fun ev => Ne.symm E_ne_B)
      have nar : arr ∉ LB0.flatMap el ++ dl := notE arr _ harr (a_n _ _ _)
      have nad : ad ∉ LB0.flatMap el ++ dl := notE ad _ had (a_n _ _ _)
      have ex : x ≠ dl[i] := fun q => nx (q ▸ hem)
      have eb : b ≠ dl[i] := fun q => nb (q ▸ hem)
      have ear : arr ≠ dl[i] := fun q => nar (q ▸ hem)
      have ead : ad ≠ dl[i] := fun q => nad (q ▸ hem)
      have hx2 : h2 x = _ := (h2n x nx).trans hx'
      have hb2 : h2 b = _ := (h2n b nb).trans hb'
      have har2 : h2 arr = _ := (h2n arr nar).trans harr'
      have had2 : h2 ad = _ := (h2n ad nad).trans had'
      refine g_L_3 hx2 ?_
      refine ⟨_, rfl, ?_⟩
      refine p_E_5 (h2E _ hem) ?_
      have hx3 : (xup h2 dl[i] (oE (setOff (E2 dl[i]) (nI (no + i))))) x = _ := (xup_ne _ _ ex).trans hx2
      refine g_L_3 hx3 ?_
      refine p_L_3 hx3 ?_
      refine ⟨_, rfl, ?_⟩
      have hb4 : (xup (xup h2 dl[i] (oE (setOff (E2 dl[i]) (nI (no + i))))) x (o_L ab (nI (LB0.length + 1)) rc (nI (no + i) + 1) pk ad (nI dl.length))) b = _ := (xup_ne _ _ (Ne.symm hxb)).trans ((xup_ne _ _ eb).trans hb2)
      refine is_B hb4 ?_
      refine sp_append (g := ga') (cap := dl.length) (ev := setOff (E2 dl[i]) (nI (no + i))) hb4 ((xup_ne _ _ (Ne.symm hxar)).trans ((xup_ne _ _ ear).trans har2)) ((xup_ne _ _ (Ne.symm ex)).trans (xup_self _ _ _)) hlt hdl ?_
      refine g_L_5 ((xup_ne _ _ hxb).trans ((xup_ne _ _ hxar).trans (xup_self _ _ _))) ?_
      refine ⟨_, rfl, ?_⟩
      refine wstq_n ((xup_ne _ _ (Ne.symm hbad)).trans ((xup_ne _ _ (Ne.symm hra2)).trans ((xup_ne _ _ (Ne.symm hxad)).trans ((xup_ne _ _ ead).trans had2)))) (by omega) (by omega) (fun _ q => by cases q) ?_
      refine hk _ _ ⟨i + 1, va_up ga' i (some dl[i]), va_up gd' i none, hlt, by rw [← nI_1 i], ?_, ?_, ?_, fun j e hj => ?_, xup_self _ _ _, fun j hj => ?_, fun z hz => ?_, fun a n1 n2 n3 n4 n5 => ?_⟩ mu
      · rw [xup_ne _ _ hxad, xup_ne _ _ hxb, xup_ne _ _ hxar, xup_self, nI_1, Nat.add_assoc]
      · rw [xup_ne _ _ hbad]
        exact xup_self _ _ _
      · rw [xup_ne _ _ hra2, xup_ne _ _ (Ne.symm hbar)]
        exact xup_self _ _ _
      · rw [hcut] at hj
        by_cases hjl : j < i
        · rw [va_up_ne _ _ (by omega)]
          rw [List.getElem?_append_left (by rw [List.length_take]; omega)] at hj
          exact hga' j e hj
        · rw [List.getElem?_append_right (by rw [List.length_take]; omega)] at hj
          have h1 := (List.getElem?_eq_some_iff.mp hj).1
          simp only [List.length_cons, List.length_nil, List.length_take] at h1
          have h3 : j = i := by omega
          subst h3
          rw [List.length_take, Nat.min_eq_left hi, Nat.sub_self] at hj
          simp at hj
          rw [va_up_self, hj]
      · rw [va_up_ne _ _ (by omega)]
        exact hgd' j (by omega)
      · rw [hcut, mvE_snoc, List.length_take, Nat.min_eq_left hi, ← hE2]
        have z1 : z ≠ ad := fun q => nad (q ▸ hz)
        have z2 : z ≠ b := fun q => nb (q ▸ hz)
        have z3 : z ≠ arr := fun q => nar (q ▸ hz)
        have z4 : z ≠ x := fun q => nx (q ▸ hz)
        rw [xup_ne _ _ z1, xup_ne _ _ z2, xup_ne _ _ z3, xup_ne _ _ z4]
        exact ent_up (a := dl[i]) (e := setOff (E2 dl[i]) (nI (no + i))) h2E z hz
      · rw [xup_ne _ _ n4, xup_ne _ _ n2, xup_ne _ _ n3, xup_ne _ _ n1, xup_ne _ _ (fun q : a = dl[i] => n5 (by rw [q]; exact hem)), h2n a n5]
        exact hk5 a n1 n2 n3 n4 n5
    refine g_L_5 hx' ?_
    refine ⟨_, rfl, ?_⟩
    refine wldq_n had' (by omega) (by omega) ?_
    rw [hgd' i (Nat.le_refl _), hgd i dl[i] hdi]
    refine is_L hx' ?_
    have hx9 : h' x = some (o_L ab (nI (LB0 ++ [b]).length) rc (nI (no + i)) pk ad (nI dl.length)) := by rw [List.length_append]; exact hx'
    refine sp_mark (B := fun c => if c = b then (base, prod, arr, seg) else B c) (el := fun c => if c = b then dl.take i else el c) hx9 hab' hg (by rw [List.length_append]; exact hle) hRB' (fun z hz => hE' z (hlogE z hz)) he' (fun hm => ?_) (fun a ha hm => ?_)
    · rw [hloge] at hm
      exact fin h' _ hm.symm hE' (fun _ _ => rfl)
    · rw [hloge] at hm
      refine fin _ _ hm.symm (ent_up hE') (fun z hz => xup_ne _ _ (fun q => hz (q ▸ hlogE a ha)))
