/-! record, close, and the constructors -/
def lowB (k : Int64) (b : Int32) : Int64 := if 0 < b then (if b < 8 then k &&& ((1 <<< ((b * 8).toInt64 &&& 63)) - 1) else k) else 0
theorem sp_low {d : Nat → ClassId} {h : xw} {k : Int64} {b : Int32} {Q : Int64 → xw → Prop} (hQ : Q (lowB k b) h) : wp_LogCleaner_lowestBytes d h k b Q := by
  unfold wp_LogCleaner_lowestBytes
  unfold lowB at hQ
  refine ⟨fun c => ?_, fun c => ?_⟩
  · rw [if_pos c] at hQ
    refine ⟨fun c2 => ?_, fun c2 => ?_⟩
    · rw [if_pos c2] at hQ; exact hQ
    · rw [if_neg c2] at hQ; exact hQ
  · rw [if_neg c] at hQ; exact hQ
theorem sp_Einit {d : Nat → ClassId} {h : xw} {a : Nat} {k w : Int64} {b v t : Int32} {Q : xw → Prop} (ha : h a = some (.inr (2, z_Entry))) (hv : v = 0 ∨ v = 1) (hQ : Q (xup h a (o_E k b v w t (-1) 0))) : wp_Entry_init d h a k b v w t Q := by
  unfold wp_Entry_init
  refine ⟨_, ha, Nat.le_of_ble_eq_true rfl, ?_⟩
  refine ⟨Or.inl rfl, _, xup_self _ _ _, Nat.le_of_ble_eq_true rfl, ?_⟩
  refine ⟨_, xup_self _ _ _, Nat.le_of_ble_eq_true rfl, ?_⟩
  refine ⟨_, xup_self _ _ _, Nat.le_of_ble_eq_true rfl, ?_⟩
  refine ⟨hv, _, xup_self _ _ _, Nat.le_of_ble_eq_true rfl, ?_⟩
  refine ⟨_, xup_self _ _ _, Nat.le_of_ble_eq_true rfl, ?_⟩
  refine ⟨_, xup_self _ _ _, Nat.le_of_ble_eq_true rfl, ?_⟩
  simp only [xup_xup]
  exact hQ
theorem sp_Binit {d : Nat → ClassId} {h : xw} {a n : Nat} {base prod : Int32} {Q : xw → Prop} (ha : h a = some (.inr (1, z_Batch))) (hn : n ≤ 100) (hQ : ∀ q, h q = none → Q (xup (xup h q (xaq (d 0) n (fun _ => none))) a (o_B base prod q 0 (-1)))) : wp_Batch_init d h a base prod (nI n) Q := by
  unfold wp_Batch_init
  refine ⟨_, ha, Nat.le_of_ble_eq_true rfl, ?_⟩
  refine ⟨_, xup_self _ _ _, Nat.le_of_ble_eq_true rfl, ?_⟩
  refine ⟨_, xup_self _ _ _, Nat.le_of_ble_eq_true rfl, ?_⟩
  refine ⟨_, xup_self _ _ _, Nat.le_of_ble_eq_true rfl, ?_⟩
  rw [if_neg (nI_pos (by omega))]
  refine ⟨nI_pos (by omega), by rw [nI_clamp (by omega)]; exact hn, fun q hq => ?_⟩
  have hqa : q ≠ a := fun e => by subst e; rw [xup_self] at hq; cases hq
  rw [nI_clamp (by omega)]
  simp only [xup_xup]
  refine ⟨_, (xup_ne _ _ (Ne.symm hqa)).trans (xup_self _ _ _), Nat.le_of_ble_eq_true rfl, ?_⟩
  have hq0 : h q = none := by
    simp only [xup_xup] at hq
    rw [xup_ne _ _ hqa] at hq
    exact hq
  have e := hQ q hq0
  have e2 : ∀ (h : xw) (o1 o2 o3 : va_E), xup (xup (xup h a o1) q o2) a o3 = xup (xup h q o2) a o3 := fun h o1 o2 o3 => by
    funext z
    by_cases h1 : z = a
    · subst h1; rw [xup_self, xup_self]
    · rw [xup_ne _ _ h1, xup_ne _ _ h1]
      by_cases h2 : z = q
      · subst h2; rw [xup_self, xup_self]
      · rw [xup_ne _ _ h2, xup_ne _ _ h2, xup_ne _ _ h1]
  rw [e2]
  exact e
def IAE : String := "java/lang/IllegalArgumentException"
def ISE : String := "java/lang/IllegalStateException"
theorem lt_nI {n m : Nat} {c : Int32} (hc : c = nI m) (hn : n < 2 ^ 31) (hm : m < 2 ^ 31) : nI n < c ↔ n < m := by
  rw [hc]
  exact nI_ltI hn hm
theorem sp_record {d : Nat → ClassId} {h : xw} {x ab pk ad n : Nat} {bc rc no kb v tm : Int32} {k w : Int64} {gd : Nat → Option Nat} {Q : Int32 → xw → Prop} {X : String → xw → Prop} (hx : h x = some (o_L ab bc rc no pk ad (nI n))) (had : h ad = some (xaq (d 0) 100 gd)) (hn : n ≤ 100) (hv : v = 0 ∨ v = 1)
    (hIA : (kb < -1 ∨ ¬ kb ≤ 8 ∨ ¬ 0 ≤ tm) → X IAE h) (hIS : ¬ (kb < -1 ∨ ¬ kb ≤ 8 ∨ ¬ 0 ≤ tm) → (¬ n < 100 ∨ ¬ rc + nI n < 4000) → X ISE h)
    (hQ : ¬ (kb < -1 ∨ ¬ kb ≤ 8 ∨ ¬ 0 ≤ tm) → n < 100 → rc + nI n < 4000 → ∀ q, h q = none → Q (nI (n + 1)) (xup (xup (xup h q (o_E (lowB k kb) kb v (if v = 0 then 0 else w) tm (-1) 0)) ad (xaq (d 0) 100 (va_up gd n (some q)))) x (o_L ab bc rc no pk ad (nI (n + 1))))) : wp_LogCleaner_record d h x k kb v w tm Q X := by
  have hxad : x ≠ ad := ne_oe_arr hx had
  have e100 : (100 : Int32) = nI 100 := by decide
  unfold wp_LogCleaner_record
  refine ⟨fun c => hIA (Or.inl c), fun c1 => ?_⟩
  refine ⟨fun c2 => ?_, fun c2 => hIA (Or.inr (Or.inl c2))⟩
  refine ⟨fun c3 => ?_, fun c3 => hIA (Or.inr (Or.inr c3))⟩
  have ok : ¬ (kb < -1 ∨ ¬ kb ≤ 8 ∨ ¬ 0 ≤ tm) := fun q => by
    rcases q with q | q | q
    · exact c1 q
    · exact q c2
    · exact q c3
  refine g_L_6 hx ?_
  refine ⟨fun c4 => ?_, fun c4 => hIS ok (Or.inl (fun q => c4 ((lt_nI e100 (by omega) (by omega)).mpr q)))⟩
  have hlt := (lt_nI e100 (by omega) (by omega)).mp c4
  refine g_L_2 hx ?_
  refine g_L_6 hx ?_
  refine ⟨fun c5 => ?_, fun c5 => hIS ok (Or.inr c5)⟩
  have go : ∀ w2, w2 = (if v = 0 then 0 else w) → wb_LogCleaner_record_98 d Q X x kb v tm (lowB k kb) w2 h := fun w2 hw2 => by
    subst hw2
    refine g_L_5 hx ?_
    refine g_L_6 hx ?_
    intro q hq
    have old : ∀ a o, h a = some o → a ≠ q := fun a o ha e => by subst e; rw [hq] at ha; cases ha
    refine sp_Einit (xup_self _ _ _) hv ?_
    rw [xup_xup]
    refine ⟨_, rfl, ?_⟩
    refine wstq_n ((xup_ne _ _ (old _ _ had)).trans had) (by omega) (by omega) (fun z e => by cases e; exact ⟨_, xup_self _ _ _⟩) ?_
    have hx2 : (xup (xup h q (o_E (lowB k kb) kb v (if v = 0 then 0 else w) tm (-1) 0)) ad (xaq (d 0) 100 (va_up gd n (some q)))) x = _ := (xup_ne _ _ hxad).trans ((xup_ne _ _ (old _ _ hx)).trans hx)
    refine g_L_6 hx2 ?_
    refine p_L_6 hx2 ?_
    refine g_L_6 (xup_self _ _ _) ?_
    rw [nI_1]
    exact hQ ok hlt c5 q hq
  refine sp_low ?_
  refine ⟨fun c6 => go _ (by rw [if_pos c6]), fun c6 => go _ (by rw [if_neg c6])⟩
theorem sp_close {d : Nat → ClassId} {h : xw} {x ab pk ad no : Nat} {rc prod ls lf : Int32} {LB0 dl : List Nat} {g gd : Nat → Option Nat} {B : Nat → BF} {el : Nat → List Nat} {E : Nat → EV} {Q : Int32 → xw → Prop} {X : String → xw → Prop}
    (hx : h x = some (o_L ab (nI LB0.length) rc (nI no) pk ad (nI dl.length))) (hp : h pk = some (o_P ls lf)) (hab : h ab = some (xaq (d 1) 400 g)) (hg : ∀ i c, LB0[i]? = some c → g i = some c) (hle : LB0.length ≤ 400)
    (had : h ad = some (xaq (d 0) 100 gd)) (hgd : ∀ i e, dl[i]? = some e → gd i = some e) (hdl : dl.length ≤ 100)
    (hRB : ∀ c ∈ LB0, RB d h c (B c).1 (B c).2.1 (B c).2.2.1 (B c).2.2.2 (el c)) (hE : ∀ z ∈ LB0.flatMap el ++ dl, h z = some (oE (E z))) (hra : ∀ c ∈ LB0, (B c).2.2.1 ≠ ad ∧ (B c).2.2.1 ≠ ab) (habd : ab ≠ ad)
    (hIA : ¬ -1 ≤ prod → X IAE h) (hIS : -1 ≤ prod → (dl.length = 0 ∨ ¬ LB0.length < 400) → X ISE h)
    (hQ : -1 ≤ prod → 0 < dl.length → LB0.length < 400 → ∀ h' b arr g' ga', h b = none → h arr = none → b ≠ arr → h' x = some (o_L ab (nI (LB0.length + 1)) (rc + nI dl.length) (nI (no + dl.length)) pk ad 0) →
      h' pk = some (o_P (plc (ls, lf) (bsz (mvE (LB0.flatMap el) (nI no) E dl) dl)).1 (plc (ls, lf) (bsz (mvE (LB0.flatMap el) (nI no) E dl) dl)).2) → h' ab = some (xaq (d 1) 400 g') → (∀ i c, (LB0 ++ [b])[i]? = some c → g' i = some c) → (∃ gd', h' ad = some (xaq (d 0) 100 gd')) →
      h' b = some (o_B (nI no) prod arr (nI dl.length) (plc (ls, lf) (bsz (mvE (LB0.flatMap el) (nI no) E dl) dl)).1) → h' arr = some (xaq (d 0) dl.length ga') → (∀ i e, dl[i]? = some e → ga' i = some e) →
      (∀ z ∈ LB0.flatMap el ++ dl, h' z = some (oE (mvE (LB0.flatMap el) (nI no) E dl z))) → (∀ a, a ≠ x → a ≠ pk → a ≠ ab → a ≠ b → a ≠ arr → a ≠ ad → a ∉ LB0.flatMap el ++ dl → h' a = h a) → Q (nI no) h') : wp_LogCleaner_close d h x prod Q X := by
  have e400 : (400 : Int32) = nI 400 := by decide
  unfold wp_LogCleaner_close
  refine ⟨fun c1 => ?_, fun c1 => hIA c1⟩
  refine g_L_6 hx ?_
  refine ⟨fun c2 => hIS c1 (Or.inl ?_), fun c2 => ?_⟩
  · rw [← nI_0] at c2
    exact (nI_eq (by omega) (by omega)).mp c2
  have hd0 : 0 < dl.length := by
    rcases Nat.eq_zero_or_pos dl.length with q | q
    · rw [q] at c2; exact absurd nI_0 c2
    · exact q
  refine g_L_1 hx ?_
  refine ⟨fun c3 => ?_, fun c3 => hIS c1 (Or.inr (fun q => c3 ((lt_nI e400 (by omega) (by omega)).mpr q)))⟩
  have hlt := (lt_nI e400 (by omega) (by omega)).mp c3
  intro b hb
  have oldb : ∀ a o, h a = some o → a ≠ b := fun a o ha e => by subst e; rw [hb] at ha; cases ha
  have hx1 : (xup h b (.inr (1, z_Batch))) x = _ := (xup_ne _ _ (oldb _ _ hx)).trans hx
  refine g_L_3 hx1 ?_
  refine g_L_6 hx1 ?_
  refine sp_Binit (xup_self _ _ _) hdl (fun arr har => ?_)
  have hab1 : arr ≠ b := fun e => by subst e; rw [xup_self] at har; cases har
  have har0 : h arr = none := by rw [xup_ne _ _ hab1] at har; exact har
  have olda : ∀ a o, h a = some o → a ≠ arr := fun a o ha e => by subst e; rw [har0] at ha; cases ha
  generalize hh2 : xup (xup (xup h b (.inr (1, z_Batch))) arr (xaq (d 0) dl.length fun _ => none)) b (o_B (nI no) prod arr 0 (-1)) = h2
  have h2o : ∀ a, a ≠ b → a ≠ arr → h2 a = h a := fun a n1 n2 => by rw [← hh2, xup_ne _ _ n1, xup_ne _ _ n2, xup_ne _ _ n1]
  have h2k : ∀ a o, h a = some o → h2 a = some o := fun a o ha => (h2o a (oldb a o ha) (olda a o ha)).trans ha
  have h2b : h2 b = some (o_B (nI no) prod arr (nI 0) (-1)) := by rw [← hh2]; exact xup_self _ _ _
  have h2a : h2 arr = some (xaq (d 0) dl.length fun _ => none) := by rw [← hh2, xup_ne _ _ hab1]; exact xup_self _ _ _
  refine g_L_0 (h2k _ _ hx) ?_
  refine g_L_1 (h2k _ _ hx) ?_
  refine ⟨_, rfl, ?_⟩
  refine wstq_n (h2k _ _ hab) (by omega) (by omega) (fun z e => by cases e; exact ⟨_, h2b⟩) ?_
  have hxab : x ≠ ab := ne_oe_arr hx hab
  have hx3 : (xup h2 ab (xaq (d 1) 400 (va_up g LB0.length (some b)))) x = _ := (xup_ne _ _ hxab).trans (h2k _ _ hx)
  refine g_L_1 hx3 ?_
  refine p_L_1 hx3 ?_
  generalize hh4 : xup (xup h2 ab (xaq (d 1) 400 (va_up g LB0.length (some b)))) x (o_L ab (nI LB0.length + 1) rc (nI no) pk ad (nI dl.length)) = h4
  have h4o : ∀ a, a ≠ x → a ≠ ab → h4 a = h2 a := fun a n1 n2 => by rw [← hh4, xup_ne _ _ n1, xup_ne _ _ n2]
  have h4x : h4 x = some (o_L ab (nI (LB0.length + 1)) rc (nI no) pk ad (nI dl.length)) := by rw [← hh4, xup_self, nI_1]
  have h4ab : h4 ab = some (xaq (d 1) 400 (va_up g LB0.length (some b))) := by rw [← hh4, xup_ne _ _ (Ne.symm hxab)]; exact xup_self _ _ _
  have hxb : b ≠ x := Ne.symm (oldb _ _ hx)
  have hbab : b ≠ ab := Ne.symm (oldb _ _ hab)
  have haab : arr ≠ ab := Ne.symm (olda _ _ hab)
  have hax : arr ≠ x := Ne.symm (olda _ _ hx)
  have hg4 : ∀ i c, (LB0 ++ [b])[i]? = some c → va_up g LB0.length (some b) i = some c := fun i c hi => by
    by_cases hil : i < LB0.length
    · rw [List.getElem?_append_left hil] at hi
      rw [va_up_ne _ _ (by omega)]
      exact hg i c hi
    · rw [List.getElem?_append_right (by omega)] at hi
      have h1 := (List.getElem?_eq_some_iff.mp hi).1
      simp at h1
      have h3 : i = LB0.length := by omega
      subst h3
      simp at hi
      rw [va_up_self, hi]
  have hxad : x ≠ ad := ne_oe_arr hx had
  have h4ad : h4 ad = some (xaq (d 0) 100 gd) := (h4o ad (Ne.symm hxad) (Ne.symm habd)).trans (h2k _ _ had)
  have h4k : ∀ a o, h a = some o → a ≠ x → a ≠ ab → h4 a = some o := fun a o ha n1 n2 => (h4o a n1 n2).trans (h2k a o ha)
  have hpx : pk ≠ x := Ne.symm (ne_obj hx hp L_ne_P)
  have hpab : pk ≠ ab := ne_oe_arr hp hab
  refine is_L h4x ?_
  have hEx : ∀ z ∈ LB0.flatMap el ++ dl, z ≠ x ∧ z ≠ ab ∧ z ≠ pk ∧ z ≠ b ∧ z ≠ arr := fun z hz => ⟨ne_obj (hE z hz) hx E_ne_L, ne_oe_arr (hE z hz) hab, ne_obj (hE z hz) hp E_ne_P, oldb _ _ (hE z hz), olda _ _ (hE z hz)⟩
  refine sp_moveDraft (B := B) (el := el) (E := E) h4x h4ab hg4 (by omega) h4ad hgd hdl (fun c hc => ?_) (fun z hz => h4k z _ (hE z hz) (hEx z hz).1 (hEx z hz).2.1) ((h4o b hxb hbab).trans h2b) ((h4o arr hax haab).trans h2a) (fun q => absurd rfl (oldb _ _ (hRB b q).1)) (fun c hc => ?_) (Ne.symm (olda _ _ had)) ⟨Ne.symm haab, habd⟩ ?_
  · obtain ⟨r1, cap, g2, r2, r3⟩ := hRB c hc
    refine ⟨h4k c _ r1 (ne_obj r1 hx B_ne_L) (ne_oe_arr r1 hab), cap, g2, h4k _ _ r2 (Ne.symm (ne_oe_arr hx r2)) (hra c hc).2, r3⟩
  · obtain ⟨r1, cap, g2, r2, r3⟩ := hRB c hc
    exact ⟨olda _ _ r2, (hra c hc).1⟩
  intro h5 ga' h5x h5b h5a hga h5d h5E h5o
  have h5p : h5 pk = some (o_P ls lf) := by
    rw [h5o pk hpx (oldb _ _ hp) (olda _ _ hp) (ne_oe_arr hp had) (fun q => (hEx pk q).2.2.1 rfl)]
    exact h4k _ _ hp hpx hpab
  refine g_L_4 h5x ?_
  refine is_B h5b ?_
  have hRBb : RB d h5 b (nI no) prod arr (-1) dl := ⟨h5b, dl.length, ga', h5a, Nat.le_refl _, hdl, hga⟩
  refine sp_Bsize (E := mvE (LB0.flatMap el) (nI no) E dl) hRBb (fun a ha => h5E a (List.mem_append_right _ ha)) ?_
  refine ⟨_, rfl, ?_⟩
  refine is_P h5p ?_
  refine sp_place2 (s := (ls, lf)) h5p ?_
  have hbp : b ≠ pk := Ne.symm (oldb _ _ hp)
  have h6b : (xup h5 pk (o_P (plc (ls, lf) (bsz (mvE (LB0.flatMap el) (nI no) E dl) dl)).1 (plc (ls, lf) (bsz (mvE (LB0.flatMap el) (nI no) E dl) dl)).2)) b = _ := (xup_ne _ _ hbp).trans h5b
  refine p_B_4 h6b ?_
  refine g_B_0 (xup_self _ _ _) ?_
  have hap : arr ≠ pk := Ne.symm (olda _ _ hp)
  have h5ab : h5 ab = some (xaq (d 1) 400 (va_up g LB0.length (some b))) := by
    rw [h5o ab (Ne.symm hxab) (Ne.symm hbab) (Ne.symm haab) habd (fun q => (hEx ab q).2.1 rfl)]
    exact h4ab
  obtain ⟨gd', h5d⟩ := h5d
  refine hQ c1 hd0 hlt _ b arr (va_up g LB0.length (some b)) ga' hb har0 (Ne.symm hab1) ?_ ?_ ?_ hg4 ⟨gd', ?_⟩ (xup_self _ _ _) ?_ hga (fun z hz => ?_) (fun a n1 n2 n3 n4 n5 n6 n7 => ?_)
  · rw [xup_ne _ _ (Ne.symm hxb), xup_ne _ _ (Ne.symm hpx)]; exact h5x
  · rw [xup_ne _ _ (Ne.symm hbp)]; exact xup_self _ _ _
  · rw [xup_ne _ _ (Ne.symm hbab), xup_ne _ _ (Ne.symm hpab)]; exact h5ab
  · rw [xup_ne _ _ (oldb _ _ had), xup_ne _ _ (Ne.symm (ne_oe_arr hp had))]; exact h5d
  · rw [xup_ne _ _ hab1, xup_ne _ _ hap]; exact h5a
  · obtain ⟨z1, z2, z3, z4, z5⟩ := hEx z hz
    rw [xup_ne _ _ z4, xup_ne _ _ z3]
    exact h5E z hz
  · rw [xup_ne _ _ n4, xup_ne _ _ n2, h5o a n1 n4 n5 n6 n7, h4o a n1 n3, h2o a n4 n5]
