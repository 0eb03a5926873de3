/-! the class's small methods, over the map -/
abbrev EV : Type := Int64 × Int32 × Int32 × Int64 × Int32 × Int32 × Int32
def oE (e : EV) : va_E := o_E e.1 e.2.1 e.2.2.1 e.2.2.2.1 e.2.2.2.2.1 e.2.2.2.2.2.1 e.2.2.2.2.2.2
def esz (e : EV) : Int32 := (8 + (if e.2.1 = -1 then 0 else e.2.1)) + (if e.2.2.1 = 0 then 0 else 8)
/-- it goes at a cleaning whose last time is t -/
def ego (t : Int32) (e : EV) : Bool := decide (e.2.2.2.2.2.2 ≠ 0) || (decide (e.2.1 ≠ -1) && (decide (e.2.2.1 = 0) && decide (e.2.2.2.2.1 ≤ t)))
theorem ego_t {t : Int32} {e : EV} : ego t e = true ↔ e.2.2.2.2.2.2 ≠ 0 ∨ (e.2.1 ≠ -1 ∧ e.2.2.1 = 0 ∧ e.2.2.2.2.1 ≤ t) := by
  simp only [ego, Bool.or_eq_true, Bool.and_eq_true, decide_eq_true_eq]
def bsz (E : Nat → EV) (l : List Nat) : Int32 := l.foldl (fun z a => z + esz (E a)) 61
theorem sp_hasKey {d : Nat → ClassId} {h : xw} {a : Nat} {e : EV} {Q : Int32 → xw → Prop} (he : h a = some (oE e)) (hQ : Q (if e.2.1 = -1 then 0 else 1) h) : wp_Entry_hasKey d h a Q := by
  unfold wp_Entry_hasKey
  refine g_E_1 he ?_
  refine ⟨fun c => ?_, fun c => ?_⟩
  · rw [if_pos c] at hQ
    exact ⟨Or.inl rfl, hQ⟩
  · rw [if_neg c] at hQ
    exact ⟨Or.inr rfl, hQ⟩
theorem sp_Esize {d : Nat → ClassId} {h : xw} {a : Nat} {e : EV} {Q : Int32 → xw → Prop} (he : h a = some (oE e)) (hQ : Q (esz e) h) : wp_Entry_sizeInBytes d h a Q := by
  unfold wp_Entry_sizeInBytes
  refine is_E he ?_
  refine sp_hasKey he ?_
  unfold esz at hQ
  refine ⟨fun c => ?_, fun c => ?_⟩
  · have hk : e.2.1 = -1 := by
      by_cases hk : e.2.1 = -1
      · exact hk
      · rw [if_neg hk] at c
        exact absurd c (by decide)
    rw [if_pos hk] at hQ
    refine g_E_2 he ?_
    refine ⟨fun c2 => ?_, fun c2 => ?_⟩
    · rw [if_pos c2] at hQ
      exact hQ
    · rw [if_neg c2] at hQ
      exact hQ
  · have hk : ¬ e.2.1 = -1 := fun hk => c (if_pos hk)
    rw [if_neg hk] at hQ
    refine g_E_1 he ?_
    refine g_E_2 he ?_
    refine ⟨fun c2 => ?_, fun c2 => ?_⟩
    · rw [if_pos c2] at hQ
      exact hQ
    · rw [if_neg c2] at hQ
      exact hQ
theorem i32_nlt {x y : Int32} : ¬ x < y ↔ y ≤ x := by
  rw [Int32.lt_iff_toInt_lt, Int32.le_iff_toInt_le]
  omega
theorem sp_goes {d : Nat → ClassId} {h : xw} {a : Nat} {e : EV} {t : Int32} {Q : Int32 → xw → Prop} (he : h a = some (oE e)) (h1 : ego t e = true → Q 1 h) (h0 : ¬ ego t e = true → Q 0 h) : wp_Entry_goes d h a t Q := by
  unfold wp_Entry_goes
  refine g_E_6 he ?_
  refine ⟨fun c => ?_, fun c => ?_⟩
  · refine is_E he ?_
    refine sp_hasKey he ?_
    refine ⟨fun c1 => ?_, fun c1 => ?_⟩
    · have hk : e.2.1 = -1 := by
        by_cases hk : e.2.1 = -1
        · exact hk
        · rw [if_neg hk] at c1
          exact absurd c1 (by decide)
      exact ⟨Or.inl rfl, h0 (fun q => by rcases ego_t.mp q with q | q; exact q c; exact q.1 hk)⟩
    · have hk : ¬ e.2.1 = -1 := fun hk => c1 (if_pos hk)
      refine g_E_2 he ?_
      refine ⟨fun c2 => ?_, fun c2 => ?_⟩
      · refine g_E_4 he ?_
        refine ⟨fun c3 => ?_, fun c3 => ?_⟩
        · exact ⟨Or.inl rfl, h0 (fun q => by rcases ego_t.mp q with q | q; exact q c; exact absurd c3 (i32_nlt.mpr q.2.2))⟩
        · exact ⟨Or.inr rfl, h1 (ego_t.mpr (Or.inr ⟨hk, c2, i32_nlt.mp c3⟩))⟩
      · exact ⟨Or.inl rfl, h0 (fun q => by rcases ego_t.mp q with q | q; exact q c; exact c2 q.2.1)⟩
  · exact ⟨Or.inr rfl, h1 (ego_t.mpr (Or.inl c))⟩
theorem sp_place {d : Nat → ClassId} {h : xw} {a : Nat} {ls lf sz : Int32} {Q : Int32 → xw → Prop} (hp : h a = some (o_P ls lf))
    (h1 : (ls = -1 ∨ ¬ lf + sz ≤ 1000) → Q (ls + 1) (xup (xup (xup h a (o_P (ls + 1) lf)) a (o_P (ls + 1) 0)) a (o_P (ls + 1) (0 + sz))))
    (h0 : ¬ (ls = -1 ∨ ¬ lf + sz ≤ 1000) → Q ls (xup h a (o_P ls (lf + sz)))) : wp_Packing_place d h a sz Q := by
  have big : (ls = -1 ∨ ¬ lf + sz ≤ 1000) → wb_Packing_place_20 d Q a sz h := fun c => by
    refine g_P_0 hp ?_
    refine p_P_0 hp ?_
    refine p_P_1 (xup_self _ _ _) ?_
    refine g_P_1 (xup_self _ _ _) ?_
    refine p_P_1 (xup_self _ _ _) ?_
    refine g_P_0 (xup_self _ _ _) ?_
    exact h1 c
  unfold wp_Packing_place
  refine g_P_0 hp ?_
  refine ⟨fun c => big (Or.inl c), fun c => ?_⟩
  refine g_P_1 hp ?_
  refine ⟨fun c2 => ?_, fun c2 => big (Or.inr c2)⟩
  refine g_P_1 hp ?_
  refine p_P_1 hp ?_
  refine g_P_0 (xup_self _ _ _) ?_
  exact h0 (fun q => by rcases q with q | q; exact c q; exact q c2)
theorem xup_xup (h : xw) (a : Nat) (o o' : va_E) : xup (xup h a o) a o' = xup h a o' := by
  funext b
  by_cases hb : b = a
  · subst hb
    rw [xup_self, xup_self]
  · rw [xup_ne _ _ hb, xup_ne _ _ hb, xup_ne _ _ hb]
/-- a batch and those of its records that are left, by their addresses -/
def RB (d : Nat → ClassId) (h : xw) (b : Nat) (base prod : Int32) (arr : Nat) (seg : Int32) (els : List Nat) : Prop :=
  h b = some (o_B base prod arr (nI els.length) seg) ∧ ∃ cap g, h arr = some (xaq (d 0) cap g) ∧ els.length ≤ cap ∧ cap ≤ 100 ∧ ∀ i e, els[i]? = some e → g i = some e
theorem wldq_n {h : xw} {a : Nat} {cA : ClassId} {n j : Nat} {g : Nat → Option Nat} {K : Option Nat → Prop} (ha : h a = some (xaq cA n g)) (hj : j < n) (hn : n < 2 ^ 31) (hK : K (g j)) : wldq h a cA (nI j) K := by
  refine ⟨n, g, ha, vp_in_nI hj hn, ?_⟩
  rw [nI_clamp (by omega)]
  exact hK
theorem wstq_n {h : xw} {a : Nat} {cA : ClassId} {ci n j : Nat} {g : Nat → Option Nat} {r : Option Nat} {K : xw → Prop} (ha : h a = some (xaq cA n g)) (hj : j < n) (hn : n < 2 ^ 31) (hr : ∀ b, r = some b → ∃ fs, h b = some (.inr (ci, fs))) (hK : K (xup h a (xaq cA n (va_up g j r)))) : wstq h a cA ci (nI j) r K := by
  refine ⟨n, g, ha, vp_in_nI hj hn, hr, ?_⟩
  rw [nI_clamp (by omega)]
  exact hK
theorem foldl_take {α β : Type} (f : β → α → β) (z : β) (l : List α) (i : Nat) (hi : i < l.length) : (l.take (i + 1)).foldl f z = f ((l.take i).foldl f z) l[i] := by
  rw [List.take_succ_eq_append_getElem hi, List.foldl_append]
  rfl
theorem sp_Bsize {d : Nat → ClassId} {h : xw} {b : Nat} {base prod : Int32} {arr : Nat} {seg : Int32} {els : List Nat} {E : Nat → EV} {Q : Int32 → xw → Prop} (hb : RB d h b base prod arr seg els) (hE : ∀ a ∈ els, h a = some (oE (E a))) (hQ : Q (bsz E els) h) : wp_Batch_sizeInBytes d h b Q := by
  obtain ⟨hb, cap, g, harr, hle, hcap, hg⟩ := hb
  unfold wp_Batch_sizeInBytes
  refine wLoop_ind (fun x h' => h' = h ∧ ∃ i, i ≤ els.length ∧ x = (b, (els.take i).foldl (fun z a => z + esz (E a)) 61, nI i)) (fun x _ => els.length + 1 - x.2.2.toNatClampNeg) ?_ _ _ ⟨rfl, 0, Nat.zero_le _, rfl⟩
  rintro x h' k ⟨rfl, i, hi, rfl⟩ hk
  show wc_Batch_sizeInBytes_5 d Q _ b ((els.take i).foldl (fun z a => z + esz (E a)) 61) (nI i) h'
  refine g_B_3 hb ?_
  refine ⟨fun c => ?_, fun c => ?_⟩
  · have h1 := (nI_leI (by omega) (by omega)).mp c
    have h2 : i = els.length := by omega
    rw [h2, List.take_length]
    exact hQ
  · have hlt : i < els.length := by
      rcases Nat.lt_or_ge i els.length with h1 | h1
      · exact h1
      · exact absurd ((nI_leI (by omega) (by omega)).mpr h1) c
    refine g_B_2 hb ?_
    refine ⟨_, rfl, ?_⟩
    refine wldq_n harr (by omega) (by omega) ?_
    rw [hg i els[i] (by simp [hlt])]
    have he := hE els[i] (List.getElem_mem hlt)
    refine ⟨_, rfl, ?_⟩
    refine is_E he ?_
    refine sp_Esize he ?_
    refine hk _ _ ⟨rfl, i + 1, hlt, ?_⟩ ?_
    · rw [foldl_take _ _ _ _ hlt, ← nI_1]
    · show els.length + 1 - (nI i + 1).toNatClampNeg < els.length + 1 - (nI i).toNatClampNeg
      rw [nI_1, nI_clamp (by omega), nI_clamp (by omega)]
      omega
theorem xup_same {h : xw} {a : Nat} {o : va_E} (ha : h a = some o) : xup h a o = h := by
  funext b
  by_cases hb : b = a
  · subst hb
    rw [xup_self, ha]
  · rw [xup_ne _ _ hb]
theorem i32_m1 (x : Int32) : x + (-1) = x - 1 := by rw [Int32.sub_eq_add_neg]
theorem cmp0 {x y : Int64} : lg_cmp x y = 0 ↔ x = y := by
  unfold lg_cmp
  constructor
  · intro c
    split at c
    · exact absurd c (by decide)
    · split at c
      · assumption
      · exact absurd c (by decide)
  · rintro rfl
    by_cases c : x > x
    · exact absurd c (by rw [gt_iff_lt, Int64.lt_iff_toInt_lt]; omega)
    · rw [if_neg c, if_pos rfl]
/-- the last one with a key -/
def isK (E : Nat → EV) (k : Int64) (b : Int32) (a : Nat) : Bool := decide ((E a).1 = k) && decide ((E a).2.1 = b)
def lastK (E : Nat → EV) (k : Int64) (b : Int32) (l : List Nat) : Option Nat := l.reverse.find? (isK E k b)
theorem lastK_snoc (E : Nat → EV) (k : Int64) (b : Int32) (l : List Nat) (a : Nat) : lastK E k b (l ++ [a]) = if isK E k b a = true then some a else lastK E k b l := by
  unfold lastK
  rw [List.reverse_append]
  show List.find? _ (a :: l.reverse) = _
  rw [List.find?_cons]
  cases isK E k b a <;> rfl
theorem sp_Blatest {d : Nat → ClassId} {h : xw} {b : Nat} {base prod : Int32} {arr : Nat} {seg : Int32} {els : List Nat} {E : Nat → EV} {k : Int64} {kb : Int32} {Q : Option Nat → xw → Prop} (hb : RB d h b base prod arr seg els) (hE : ∀ a ∈ els, h a = some (oE (E a))) (hQ : Q (lastK E k kb els) h) : wp_Batch_latestWithKey d h b k kb Q := by
  obtain ⟨hb, cap, g, harr, hle, hcap, hg⟩ := hb
  unfold wp_Batch_latestWithKey
  refine g_B_3 hb ?_
  refine wLoop_ind (fun x h' => h' = h ∧ ∃ i, i ≤ els.length ∧ x = (b, k, kb, nI i - 1) ∧ lastK E k kb (els.take i) = lastK E k kb els) (fun x _ => (x.2.2.2 + 1).toNatClampNeg) ?_ _ _ ⟨rfl, els.length, Nat.le_refl _, rfl, by rw [List.take_length]⟩
  rintro x h' k0 ⟨rfl, i, hi, rfl, hL⟩ hk
  show wc_Batch_latestWithKey_8 d Q _ b k kb (nI i - 1) h'
  refine ⟨fun c => ?_, fun c => ?_⟩
  · have h0 : i = 0 := by
      rcases Nat.eq_zero_or_pos i with h1 | h1
      · exact h1
      · obtain ⟨j, rfl⟩ : ∃ j, i = j + 1 := ⟨i - 1, by omega⟩
        rw [nI_pred] at c
        exact absurd c (nI_pos (by omega))
    subst h0
    rw [← hL] at hQ
    exact hQ
  · obtain ⟨j, rfl⟩ : ∃ j, i = j + 1 := by
      rcases Nat.eq_zero_or_pos i with h1 | h1
      · subst h1
        exact absurd (by decide) c
      · exact ⟨i - 1, by omega⟩
    rw [nI_pred] at c ⊢
    refine g_B_2 hb ?_
    refine ⟨_, rfl, ?_⟩
    refine wldq_n harr (by omega) (by omega) ?_
    rw [hg j els[j] (by simp [show j < els.length by omega])]
    have he := hE els[j] (List.getElem_mem (by omega))
    have hcut : els.take (j + 1) = els.take j ++ [els[j]] := List.take_succ_eq_append_getElem (by omega)
    rw [hcut, lastK_snoc] at hL
    have next : isK E k kb els[j] = false → k0 (b, k, kb, nI j + (-1)) h' := fun hn => by
      refine hk _ _ ⟨rfl, j, by omega, by rw [i32_m1], ?_⟩ ?_
      · rw [hn] at hL
        exact hL
      · show (nI j + (-1) + 1).toNatClampNeg < (nI (j + 1) - 1 + 1).toNatClampNeg
        have e1 : nI j + (-1) + 1 = nI j := by rw [Int32.add_assoc]; exact Int32.add_zero _
        rw [e1, nI_pred, nI_1, nI_clamp (by omega), nI_clamp (by omega)]
        omega
    refine ⟨_, rfl, ?_⟩
    refine g_E_0 he ?_
    refine ⟨fun c1 => ?_, fun c1 => ?_⟩
    · have c1 := cmp0.mp c1
      refine g_E_1 he ?_
      refine ⟨fun c2 => ?_, fun c2 => ?_⟩
      · have hy : isK E k kb els[j] = true := by simp [isK, c1, c2]
        rw [hy] at hL
        rw [← hL] at hQ
        exact hQ
      · exact next (by simp [isK, c2])
    · have c1 : ¬ (E els[j]).1 = k := fun q => c1 (cmp0.mpr q)
      exact next (by simp [isK, c1])
theorem ne_oe_arr {h : xw} {a b : Nat} {o : Nat × List Value} {x : ClassId × vp_A} (ha : h a = some (.inr o)) (hb : h b = some (.inl x)) : a ≠ b := fun q => by
  subst q
  rw [ha] at hb
  cases hb
theorem sp_BremoveGone {d : Nat → ClassId} {h : xw} {b : Nat} {base prod : Int32} {arr : Nat} {seg : Int32} {els : List Nat} {E : Nat → EV} {t : Int32} {cap : Nat} {g : Nat → Option Nat} {Q : Int32 → xw → Prop} (hb : h b = some (o_B base prod arr (nI els.length) seg)) (harr : h arr = some (xaq (d 0) cap g)) (hle : els.length ≤ cap) (hcap : cap ≤ 100) (hg : ∀ i e, els[i]? = some e → g i = some e) (hE : ∀ a ∈ els, h a = some (oE (E a)))
    (hQ : ∀ g', (∀ i e, (els.filter (fun a => !ego t (E a)))[i]? = some e → g' i = some e) → Q (nI els.length - nI (els.filter (fun a => !ego t (E a))).length) (xup (xup h arr (xaq (d 0) cap g')) b (o_B base prod arr (nI (els.filter (fun a => !ego t (E a))).length) seg))) : wp_Batch_removeGone d h b t Q := by
  have hne : b ≠ arr := ne_oe_arr hb harr
  have hkl : ∀ i, ((els.take i).filter (fun a => !ego t (E a))).length ≤ i := fun i => Nat.le_trans (List.length_filter_le _ _) (by rw [List.length_take]; omega)
  unfold wp_Batch_removeGone
  refine g_B_3 hb ?_
  refine wLoop_ind (fun x h' => ∃ i g', i ≤ els.length ∧ x = (b, t, nI els.length, nI ((els.take i).filter (fun a => !ego t (E a))).length, nI i) ∧ h' = xup h arr (xaq (d 0) cap g') ∧ (∀ j e, ((els.take i).filter (fun a => !ego t (E a)))[j]? = some e → g' j = some e) ∧ ∀ j, i ≤ j → g' j = g j) (fun x _ => els.length + 1 - x.2.2.2.2.toNatClampNeg) ?_ _ _ ⟨0, g, Nat.zero_le _, rfl, (xup_same harr).symm, fun j e hj => by simp at hj, fun _ _ => rfl⟩
  rintro x h' k0 ⟨i, g', hi, rfl, rfl, hk1, hk2⟩ hk
  have hb' : (xup h arr (xaq (d 0) cap g')) b = some (o_B base prod arr (nI els.length) seg) := by rw [xup_ne _ _ hne]; exact hb
  have hE' : ∀ a ∈ els, (xup h arr (xaq (d 0) cap g')) a = some (oE (E a)) := fun a ha => by
    rw [xup_ne _ _ (ne_oe_arr (hE a ha) harr)]
    exact hE a ha
  show wc_Batch_removeGone_10 d Q _ b t (nI els.length) (nI ((els.take i).filter (fun a => !ego t (E a))).length) (nI i) (xup h arr (xaq (d 0) cap g'))
  refine ⟨fun c => ?_, fun c => ?_⟩
  · have h1 := (nI_leI (by omega) (by omega)).mp c
    have h2 : i = els.length := by omega
    subst h2
    rw [List.take_length] at hk1 ⊢
    have hkl2 := hkl els.length
    rw [List.take_length] at hkl2
    generalize hke : els.filter (fun a => !ego t (E a)) = kept at hk1 hkl2 hQ ⊢
    refine wLoop_ind (fun x h' => ∃ j g', kept.length ≤ j ∧ j ≤ els.length ∧ x = (b, nI els.length, nI kept.length, nI j) ∧ h' = xup h arr (xaq (d 0) cap g') ∧ (∀ j e, kept[j]? = some e → g' j = some e)) (fun x _ => els.length + 1 - x.2.2.2.toNatClampNeg) ?_ _ _ ⟨kept.length, g', Nat.le_refl _, hkl2, rfl, rfl, hk1⟩
    rintro x h' k1 ⟨j, g', hj1, hj2, rfl, rfl, hk3⟩ hk
    have hb' : (xup h arr (xaq (d 0) cap g')) b = some (o_B base prod arr (nI els.length) seg) := by rw [xup_ne _ _ hne]; exact hb
    show wc_Batch_removeGone_54 d Q _ b (nI els.length) (nI kept.length) (nI j) (xup h arr (xaq (d 0) cap g'))
    refine ⟨fun c => ?_, fun c => ?_⟩
    · refine p_B_3 hb' ?_
      exact hQ g' hk3
    · have hlt : j < els.length := by
        rcases Nat.lt_or_ge j els.length with h1 | h1
        · exact h1
        · exact absurd ((nI_leI (by omega) (by omega)).mpr h1) c
      refine g_B_2 hb' ?_
      refine ⟨_, rfl, ?_⟩
      refine wstq_n (xup_self _ _ _) (by omega) (by omega) (fun _ q => by cases q) ?_
      rw [xup_xup]
      refine hk _ _ ⟨j + 1, va_up g' j none, by omega, hlt, by rw [← nI_1], rfl, fun i e hie => ?_⟩ ?_
      · have hi2 : i < kept.length := (List.getElem?_eq_some_iff.mp hie).1
        rw [va_up_ne _ _ (by omega)]
        exact hk3 i e hie
      · show els.length + 1 - (nI j + 1).toNatClampNeg < els.length + 1 - (nI j).toNatClampNeg
        rw [nI_1, nI_clamp (by omega), nI_clamp (by omega)]
        omega
  · have hlt : i < els.length := by
      rcases Nat.lt_or_ge i els.length with h1 | h1
      · exact h1
      · exact absurd ((nI_leI (by omega) (by omega)).mpr h1) c
    have hcut : els.take (i + 1) = els.take i ++ [els[i]] := List.take_succ_eq_append_getElem hlt
    have he := hE' els[i] (List.getElem_mem hlt)
    have hkli := hkl i
    have mu : els.length + 1 - (nI i + 1).toNatClampNeg < els.length + 1 - (nI i).toNatClampNeg := by
      rw [nI_1, nI_clamp (by omega), nI_clamp (by omega)]
      omega
    refine g_B_2 hb' ?_
    refine ⟨_, rfl, ?_⟩
    refine wldq_n (xup_self _ _ _) (by omega) (by omega) ?_
    rw [hk2 i (Nat.le_refl _), hg i els[i] (by simp [hlt])]
    refine ⟨_, rfl, ?_⟩
    refine is_E he ?_
    refine sp_goes he (fun hgo => ?_) (fun hgo => ?_)
    · refine ⟨fun q => absurd q (by decide), fun _ => ?_⟩
      refine hk _ _ ⟨i + 1, g', hlt, ?_, rfl, ?_, fun j hj => hk2 j (by omega)⟩ mu
      · rw [hcut, List.filter_append, ← nI_1]
        simp [hgo]
      · rw [hcut, List.filter_append]
        simpa [hgo] using hk1
    · have hgo : ego t (E els[i]) = false := by simpa using hgo
      refine ⟨fun _ => ?_, fun q => absurd rfl q⟩
      refine g_B_2 hb' ?_
      refine ⟨_, rfl, ?_⟩
      refine wstq_n (xup_self _ _ _) (by omega) (by omega) (fun z q => by cases q; exact ⟨_, he⟩) ?_
      rw [xup_xup]
      refine hk _ _ ⟨i + 1, va_up g' ((els.take i).filter (fun a => !ego t (E a))).length (some els[i]), hlt, ?_, rfl, ?_, fun j hj => ?_⟩ mu
      · rw [hcut, List.filter_append, ← nI_1]
        simp [hgo, ← nI_1]
      · intro j e hje
        rw [hcut, List.filter_append] at hje
        simp only [hgo, List.filter_cons, List.filter_nil, Bool.not_false, if_true] at hje
        by_cases hjl : j < ((els.take i).filter (fun a => !ego t (E a))).length
        · rw [List.getElem?_append_left hjl] at hje
          rw [va_up_ne _ _ (by omega)]
          exact hk1 j e hje
        · rw [List.getElem?_append_right (by omega)] at hje
          have hj0 : j - ((els.take i).filter (fun a => !ego t (E a))).length = 0 := by
            have := (List.getElem?_eq_some_iff.mp hje).1
            simp at this
            omega
          rw [hj0] at hje
          simp at hje
          have : j = ((els.take i).filter (fun a => !ego t (E a))).length := by omega
          rw [this, va_up_self, hje]
      · rw [va_up_ne _ _ (by omega)]
        exact hk2 j (by omega)
