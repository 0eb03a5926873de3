/-! the log's own methods that change which batches it has -/
theorem ne_obj {h : xw} {a b : Nat} {o o' : va_E} (ha : h a = some o) (hb : h b = some o') (hn : o ≠ o') : a ≠ b := fun q => by
  subst q
  rw [ha] at hb
  exact hn (Option.some.inj hb)
theorem sp_keepFirst {d : Nat → ClassId} {h : xw} {x ab pk ad n kept : Nat} {rc no dc : Int32} {g : Nat → Option Nat} {Q : xw → Prop} (hx : h x = some (o_L ab (nI n) rc no pk ad dc)) (hab : h ab = some (xaq (d 1) 400 g)) (hk0 : kept ≤ n) (hn : n ≤ 400)
    (hQ : ∀ g', (∀ j, j < kept → g' j = g j) → Q (xup (xup h ab (xaq (d 1) 400 g')) x (o_L ab (nI kept) rc no pk ad dc))) : wp_LogCleaner_keepFirstBatches d h x (nI kept) Q := by
  have hne : x ≠ ab := ne_oe_arr hx hab
  unfold wp_LogCleaner_keepFirstBatches
  refine wLoop_ind (fun y h' => ∃ j g', kept ≤ j ∧ j ≤ n ∧ y = (x, nI kept, nI j) ∧ h' = xup h ab (xaq (d 1) 400 g') ∧ ∀ i, i < kept → g' i = g i) (fun y _ => n + 1 - y.2.2.toNatClampNeg) ?_ _ _ ⟨kept, g, Nat.le_refl _, hk0, rfl, (xup_same hab).symm, fun _ _ => rfl⟩
  rintro y h' k0 ⟨j, g', hj1, hj2, rfl, rfl, hg⟩ hk
  have hx' : (xup h ab (xaq (d 1) 400 g')) x = some (o_L ab (nI n) rc no pk ad dc) := by rw [xup_ne _ _ hne]; exact hx
  show wc_LogCleaner_keepFirstBatches_2 d Q _ x (nI kept) (nI j) (xup h ab (xaq (d 1) 400 g'))
  refine g_L_1 hx' ?_
  refine ⟨fun c => ?_, fun c => ?_⟩
  · refine p_L_1 hx' ?_
    exact hQ g' hg
  · have hlt : j < n := by
      rcases Nat.lt_or_ge j n with h1 | h1
      · exact h1
      · exact absurd ((nI_leI (by omega) (by omega)).mpr h1) c
    refine g_L_0 hx' ?_
    refine ⟨_, rfl, ?_⟩
    refine wstq_n (xup_self _ _ _) (by omega) (by omega) (fun _ q => by cases q) ?_
    rw [xup_xup]
    refine hk _ _ ⟨j + 1, va_up g' j none, by omega, hlt, by rw [← nI_1], rfl, fun i hi => ?_⟩ ?_
    · rw [va_up_ne _ _ (by omega)]
      exact hg i hi
    · show n + 1 - (nI j + 1).toNatClampNeg < n + 1 - (nI j).toNatClampNeg
      rw [nI_1, nI_clamp (by omega), nI_clamp (by omega)]
      omega
/-- what is left of the batches when those that are closed, empty and unknown go -/
def rmv (B : Nat → BF) (el : Nat → List Nat) (ls : Int32) : List Nat → List Nat
  | [] => []
  | b :: rest => if (decide ((B b).2.2.2 < ls) && ((el b).isEmpty && !knownS B b rest)) = true then rmv B el ls rest else b :: rmv B el ls rest
theorem rmv_drop (B : Nat → BF) (el : Nat → List Nat) (ls : Int32) (LB : List Nat) (i : Nat) (hi : i < LB.length) : rmv B el ls (LB.drop i) = if (decide ((B LB[i]).2.2.2 < ls) && ((el LB[i]).isEmpty && !knownS B LB[i] (LB.drop (i + 1)))) = true then rmv B el ls (LB.drop (i + 1)) else LB[i] :: rmv B el ls (LB.drop (i + 1)) := by
  rw [List.drop_eq_getElem_cons hi]
  rfl
theorem rmv_len (B : Nat → BF) (el : Nat → List Nat) (ls : Int32) (L : List Nat) : (rmv B el ls L).length ≤ L.length := by
  induction L with
  | nil => exact Nat.le_refl _
  | cons b rest ih =>
    unfold rmv
    split
    · exact Nat.le_trans ih (Nat.le_succ _)
    · simp only [List.length_cons]
      omega
theorem sp_removeEmptied {d : Nat → ClassId} {h : xw} {x ab pk ad : Nat} {rc no dc ls lf : Int32} {LB : List Nat} {g : Nat → Option Nat} {B : Nat → BF} {el : Nat → List Nat} {Q : Int32 → xw → Prop} (hx : h x = some (o_L ab (nI LB.length) rc no pk ad dc)) (hp : h pk = some (o_P ls lf)) (hab : h ab = some (xaq (d 1) 400 g)) (hg : ∀ i b, LB[i]? = some b → g i = some b) (hle : LB.length ≤ 400)
    (hB : ∀ b ∈ LB, (el b).length ≤ 100 ∧ h b = some (o_B (B b).1 (B b).2.1 (B b).2.2.1 (nI (el b).length) (B b).2.2.2))
    (hQ : ∀ g', (∀ j b, (rmv B el ls LB)[j]? = some b → g' j = some b) → Q (nI LB.length - nI (rmv B el ls LB).length) (xup (xup h ab (xaq (d 1) 400 g')) x (o_L ab (nI (rmv B el ls LB).length) rc no pk ad dc))) : wp_LogCleaner_removeEmptiedBatches d h x Q := by
  have hne : x ≠ ab := ne_oe_arr hx hab
  have hnp : pk ≠ ab := ne_oe_arr hp hab
  have hrl := rmv_len B el ls LB
  unfold wp_LogCleaner_removeEmptiedBatches
  refine g_L_1 hx ?_
  refine wLoop_ind (fun y h' => ∃ i K g', i ≤ LB.length ∧ K.length ≤ i ∧ rmv B el ls LB = K ++ rmv B el ls (LB.drop i) ∧ y = (x, nI LB.length, nI K.length, nI i) ∧ h' = xup h ab (xaq (d 1) 400 g') ∧ (∀ j b, K[j]? = some b → g' j = some b) ∧ ∀ j, i ≤ j → g' j = g j) (fun y _ => LB.length + 1 - y.2.2.2.toNatClampNeg) ?_ _ _ ⟨0, [], g, Nat.zero_le _, Nat.le_refl _, by rw [List.drop_zero]; rfl, rfl, (xup_same hab).symm, fun j b hj => by simp at hj, fun _ _ => rfl⟩
  rintro y h' k0 ⟨i, K, g', hi, hKl, hKe, rfl, rfl, hk1, hk2⟩ hk
  have hx' : (xup h ab (xaq (d 1) 400 g')) x = some (o_L ab (nI LB.length) rc no pk ad dc) := by rw [xup_ne _ _ hne]; exact hx
  have hp' : (xup h ab (xaq (d 1) 400 g')) pk = some (o_P ls lf) := by rw [xup_ne _ _ hnp]; exact hp
  have hB' : ∀ b ∈ LB, (xup h ab (xaq (d 1) 400 g')) b = some (o_B (B b).1 (B b).2.1 (B b).2.2.1 (nI (el b).length) (B b).2.2.2) := fun b hb => by
    rw [xup_ne _ _ (ne_oe_arr (hB b hb).2 hab)]
    exact (hB b hb).2
  show wc_LogCleaner_removeEmptiedBatches_9 d Q _ x (nI LB.length) (nI K.length) (nI i) (xup h ab (xaq (d 1) 400 g'))
  refine ⟨fun c => ?_, fun c => ?_⟩
  · have h1 := (nI_leI (by omega) (by omega)).mp c
    have h2 : i = LB.length := by omega
    have h3 : rmv B el ls LB = K := by rw [hKe, h2, List.drop_length]; simp [rmv]
    refine is_L hx' ?_
    refine sp_keepFirst hx' (xup_self _ _ _) (by omega) hle (fun g2 hg2 => ?_)
    rw [xup_xup]
    rw [h3] at hQ
    refine hQ g2 (fun j b hj => ?_)
    rw [hg2 j (List.getElem?_eq_some_iff.mp hj).1]
    exact hk1 j b hj
  · have hlt : i < LB.length := by
      rcases Nat.lt_or_ge i LB.length with h1 | h1
      · exact h1
      · exact absurd ((nI_leI (by omega) (by omega)).mpr h1) c
    have hLi : LB[i]? = some LB[i] := List.getElem?_eq_getElem hlt
    have hbm : LB[i] ∈ LB := List.getElem_mem hlt
    have hb := hB' LB[i] hbm
    have hbl := (hB LB[i] hbm).1
    rw [rmv_drop B el ls LB i hlt] at hKe
    have mu : LB.length + 1 - (nI i + 1).toNatClampNeg < LB.length + 1 - (nI i).toNatClampNeg := by
      rw [nI_1, nI_clamp (by omega), nI_clamp (by omega)]
      omega
    -- it stays
    have stay : (decide ((B LB[i]).2.2.2 < ls) && ((el LB[i]).isEmpty && !knownS B LB[i] (LB.drop (i + 1)))) = false → wb_LogCleaner_removeEmptiedBatches_52 d (fun y0 y1 y2 y3 h => k0 (y0, y1, y2, y3) h) Q x (nI LB.length) (nI K.length) (nI i) (some LB[i]) 0 (xup h ab (xaq (d 1) 400 g')) := fun hs => by
      refine ⟨fun _ => ?_, fun q => absurd rfl q⟩
      refine g_L_0 hx' ?_
      refine ⟨_, rfl, ?_⟩
      refine wstq_n (xup_self _ _ _) (by omega) (by omega) (fun z q => by cases q; exact ⟨_, hb⟩) ?_
      rw [xup_xup]
      rw [hs] at hKe
      refine hk _ _ ⟨i + 1, K ++ [LB[i]], va_up g' K.length (some LB[i]), hlt, by simp; omega, by rw [hKe]; simp, ?_, rfl, fun j b hj => ?_, fun j hj => ?_⟩ mu
      · rw [← nI_1 i]
        simp [← nI_1]
      · by_cases hjl : j < K.length
        · rw [List.getElem?_append_left hjl] at hj
          rw [va_up_ne _ _ (by omega)]
          exact hk1 j b hj
        · rw [List.getElem?_append_right (by omega)] at hj
          have hj0 : j - K.length = 0 := by
            have := (List.getElem?_eq_some_iff.mp hj).1
            simp at this
            omega
          rw [hj0] at hj
          simp at hj
          have : j = K.length := by omega
          rw [this, va_up_self, hj]
      · rw [va_up_ne _ _ (by omega)]
        exact hk2 j (by omega)
    refine g_L_0 hx' ?_
    refine ⟨_, rfl, ?_⟩
    refine wldq_n (xup_self _ _ _) (by omega) (by omega) ?_
    rw [hk2 i (Nat.le_refl _), hg i LB[i] hLi]
    refine is_L hx' ?_
    refine sp_isClosed hx' hp' hb (fun hcl => ?_) (fun hcl => ?_)
    · refine ⟨fun q => absurd q (by decide), fun _ => ?_⟩
      refine ⟨_, rfl, ?_⟩
      refine g_B_3 hb ?_
      refine ⟨fun c2 => ?_, fun c2 => ?_⟩
      · have he : (el LB[i]).length = 0 := by
          rw [← nI_0] at c2
          exact (nI_eq (by omega) (by omega)).mp c2
        have he2 : (el LB[i]).isEmpty = true := by simpa using he
        refine is_L hx' ?_
        refine sp_isKnown hx' (xup_self _ _ _) hlt (fun j b hj hjb => by rw [hk2 j hj]; exact hg j b hjb) hle (fun b hb => ⟨_, hB' b hb⟩) (fun hkn => ?_) (fun hkn => ?_)
        · refine ⟨fun q => absurd q (by decide), fun _ => ?_⟩
          exact stay (by simp [hkn])
        · refine ⟨fun _ => ?_, fun q => absurd rfl q⟩
          refine ⟨fun q => absurd q (by decide), fun _ => ?_⟩
          have hgo : (decide ((B LB[i]).2.2.2 < ls) && ((el LB[i]).isEmpty && !knownS B LB[i] (LB.drop (i + 1)))) = true := by simp [hcl, he2, hkn]
          rw [if_pos hgo] at hKe
          refine hk _ _ ⟨i + 1, K, g', hlt, by omega, hKe, by rw [← nI_1 i], rfl, hk1, fun j hj => hk2 j (by omega)⟩ mu
      · have he : (el LB[i]).isEmpty = false := by
          cases hel : el LB[i] with
          | nil => rw [hel] at c2; exact absurd rfl c2
          | cons z zs => rfl
        exact stay (by simp [he])
    · refine ⟨fun _ => stay (by simp [hcl]), fun q => absurd rfl q⟩
theorem B_ne_L {a b : Int32} {c : Nat} {e f : Int32} {a' c' d' : Nat} {e' f' g' h' : Int32} : o_B a b c e f ≠ o_L a' e' f' g' c' d' h' := by simp [o_B, o_L]
theorem B_ne_P {a b : Int32} {c : Nat} {e f a' b' : Int32} : o_B a b c e f ≠ o_P a' b' := by simp [o_B, o_P]
theorem L_ne_P {a' c' d' : Nat} {e' f' g' h' a b : Int32} : o_L a' e' f' g' c' d' h' ≠ o_P a b := by simp [o_L, o_P]
theorem nodup_at {L : List Nat} {i : Nat} (hn : L.Nodup) (hi : i < L.length) : L[i] ∉ L.take i ∧ L[i] ∉ L.drop (i + 1) := by
  have e : L.take i ++ L[i] :: L.drop (i + 1) = L := by rw [← List.drop_eq_getElem_cons hi, List.take_append_drop]
  have h2 : (L.take i ++ L[i] :: L.drop (i + 1)).Nodup := by rw [e]; exact hn
  obtain ⟨h3, h4, h5⟩ := List.nodup_append.mp h2
  exact ⟨fun q => h5 _ q _ List.mem_cons_self rfl, (List.nodup_cons.mp h4).1⟩
theorem mem_drop_cons {L : List Nat} {i b : Nat} (hi : i < L.length) (hb : b ∈ L.drop (i + 1)) : b ∈ L.drop i := by
  rw [List.drop_eq_getElem_cons hi]
  exact List.mem_cons_of_mem _ hb
theorem take_mem_succ {L : List Nat} {i b : Nat} (hi : i < L.length) (hb : b ∈ L.take (i + 1)) : b ∈ L.take i ∨ b = L[i] := by
  rw [List.take_succ_eq_append_getElem hi] at hb
  rcases List.mem_append.mp hb with h | h
  · exact Or.inl h
  · exact Or.inr (List.mem_singleton.mp h)
/-- how many records of the first batches lie before segment n, as the class counts them -/
def wentF (B : Nat → BF) (el : Nat → List Nat) (n : Int32) (L : List Nat) : Int32 := L.foldl (fun z b => if n ≤ (B b).2.2.2 then z else z + nI (el b).length) 0
theorem wentF_snoc (B : Nat → BF) (el : Nat → List Nat) (n : Int32) (L : List Nat) (b : Nat) : wentF B el n (L ++ [b]) = if n ≤ (B b).2.2.2 then wentF B el n L else wentF B el n L + nI (el b).length := by
  unfold wentF
  rw [List.foldl_append]
  rfl
theorem sp_removeFirst {d : Nat → ClassId} {h : xw} {x ab pk ad : Nat} {rc no dc ls lf n : Int32} {LB : List Nat} {g : Nat → Option Nat} {B : Nat → BF} {el : Nat → List Nat} {Q : Int32 → xw → Prop} (hx : h x = some (o_L ab (nI LB.length) rc no pk ad dc)) (hp : h pk = some (o_P ls lf)) (hab : h ab = some (xaq (d 1) 400 g)) (hg : ∀ i b, LB[i]? = some b → g i = some b) (hle : LB.length ≤ 400) (hnd : LB.Nodup)
    (hB : ∀ b ∈ LB, h b = some (o_B (B b).1 (B b).2.1 (B b).2.2.1 (nI (el b).length) (B b).2.2.2))
    (hQ : ∀ h' g', h' ab = some (xaq (d 1) 400 g') → (∀ j b, (LB.filter (fun b => decide (n ≤ (B b).2.2.2)))[j]? = some b → g' j = some b) → h' x = some (o_L ab (nI (LB.filter (fun b => decide (n ≤ (B b).2.2.2))).length) (rc - wentF B el n LB) no pk ad dc) → h' pk = some (o_P (ls - n) lf) →
      (∀ b ∈ LB, n ≤ (B b).2.2.2 → h' b = some (o_B (B b).1 (B b).2.1 (B b).2.2.1 (nI (el b).length) ((B b).2.2.2 - n))) → (∀ a, a ∉ LB → a ≠ ab → a ≠ x → a ≠ pk → h' a = h a) → Q (wentF B el n LB) h') : wp_LogCleaner_removeFirstSegments d h x n Q := by
  have hne : x ≠ ab := ne_oe_arr hx hab
  have hnp : pk ≠ ab := ne_oe_arr hp hab
  have hxp : x ≠ pk := ne_obj hx hp L_ne_P
  have hkl : ∀ i, ((LB.take i).filter (fun b => decide (n ≤ (B b).2.2.2))).length ≤ i := fun i => Nat.le_trans (List.length_filter_le _ _) (by rw [List.length_take]; omega)
  unfold wp_LogCleaner_removeFirstSegments
  refine wLoop_ind (fun y h' => ∃ i g', i ≤ LB.length ∧ y = (x, n, wentF B el n (LB.take i), nI ((LB.take i).filter (fun b => decide (n ≤ (B b).2.2.2))).length, nI i) ∧ h' ab = some (xaq (d 1) 400 g') ∧ (∀ j b, ((LB.take i).filter (fun b => decide (n ≤ (B b).2.2.2)))[j]? = some b → g' j = some b) ∧ (∀ j, i ≤ j → g' j = g j) ∧
      (∀ b ∈ LB.take i, n ≤ (B b).2.2.2 → h' b = some (o_B (B b).1 (B b).2.1 (B b).2.2.1 (nI (el b).length) ((B b).2.2.2 - n))) ∧ (∀ b ∈ LB.drop i, h' b = h b) ∧ ∀ a, a ∉ LB → a ≠ ab → h' a = h a) (fun y _ => LB.length + 1 - y.2.2.2.2.toNatClampNeg) ?_ _ _ ⟨0, g, Nat.zero_le _, rfl, hab, fun j b hj => by simp at hj, fun _ _ => rfl, fun b hb => by simp at hb, fun _ _ => rfl, fun _ _ _ => rfl⟩
  rintro y h' k0 ⟨i, g', hi, rfl, ha', hk1, hk2, hk3, hk4, hk5⟩ hk
  have hxn : x ∉ LB := fun q => absurd rfl (ne_obj (hB x q) hx B_ne_L)
  have hpn : pk ∉ LB := fun q => absurd rfl (ne_obj (hB pk q) hp B_ne_P)
  have hx' : h' x = some (o_L ab (nI LB.length) rc no pk ad dc) := by rw [hk5 x hxn hne]; exact hx
  have hp' : h' pk = some (o_P ls lf) := by rw [hk5 pk hpn hnp]; exact hp
  show wc_LogCleaner_removeFirstSegments_7 d Q _ x n (wentF B el n (LB.take i)) (nI ((LB.take i).filter (fun b => decide (n ≤ (B b).2.2.2))).length) (nI i) h'
  refine g_L_1 hx' ?_
  refine ⟨fun c => ?_, fun c => ?_⟩
  · have h1 := (nI_leI (by omega) (by omega)).mp c
    have h2 : i = LB.length := by omega
    subst h2
    have hkl2 := hkl LB.length
    rw [List.take_length] at hk1 hk3 hkl2 ⊢
    refine is_L hx' ?_
    refine sp_keepFirst hx' ha' hkl2 hle (fun g2 hg2 => ?_)
    have e1 : ∀ a, a ≠ ab → a ≠ x → (xup (xup h' ab (xaq (d 1) 400 g2)) x (o_L ab (nI (LB.filter (fun b => decide (n ≤ (B b).2.2.2))).length) rc no pk ad dc)) a = h' a := fun a n1 n2 => by rw [xup_ne _ _ n2, xup_ne _ _ n1]
    refine g_L_4 (xup_self _ _ _) ?_
    refine ⟨_, rfl, ?_⟩
    refine g_P_0 (by rw [e1 pk hnp (Ne.symm hxp)]; exact hp') ?_
    refine p_P_0 (by rw [e1 pk hnp (Ne.symm hxp)]; exact hp') ?_
    refine g_L_2 (by rw [xup_ne _ _ hxp]; exact xup_self _ _ _) ?_
    refine p_L_2 (by rw [xup_ne _ _ hxp]; exact xup_self _ _ _) ?_
    have hbx : ∀ b ∈ LB, b ≠ x ∧ b ≠ pk ∧ b ≠ ab := fun b hb => ⟨fun q => hxn (q ▸ hb), fun q => hpn (q ▸ hb), ne_oe_arr (hB b hb) hab⟩
    refine hQ _ g2 ?_ (fun j b hj => ?_) (xup_self _ _ _) ?_ (fun b hb hkb => ?_) (fun a n1 n2 n3 n4 => ?_)
    · rw [xup_ne _ _ (Ne.symm hne), xup_ne _ _ (Ne.symm hnp), xup_ne _ _ (Ne.symm hne)]
      exact xup_self _ _ _
    · rw [hg2 j (List.getElem?_eq_some_iff.mp hj).1]
      exact hk1 j b hj
    · rw [xup_ne _ _ (Ne.symm hxp)]
      exact xup_self _ _ _
    · obtain ⟨n1, n2, n3⟩ := hbx b hb
      rw [xup_ne _ _ n1, xup_ne _ _ n2, e1 b n3 n1]
      exact hk3 b hb hkb
    · rw [xup_ne _ _ n3, xup_ne _ _ n4, e1 a n2 n3]
      exact hk5 a n1 n2
  · have hlt : i < LB.length := by
      rcases Nat.lt_or_ge i LB.length with h1 | h1
      · exact h1
      · exact absurd ((nI_leI (by omega) (by omega)).mpr h1) c
    have hLi : LB[i]? = some LB[i] := List.getElem?_eq_getElem hlt
    have hbm : LB[i] ∈ LB := List.getElem_mem hlt
    have hbd : LB[i] ∈ LB.drop i := by rw [List.drop_eq_getElem_cons hlt]; exact List.mem_cons_self
    have hb : h' LB[i] = some (o_B (B LB[i]).1 (B LB[i]).2.1 (B LB[i]).2.2.1 (nI (el LB[i]).length) (B LB[i]).2.2.2) := by rw [hk4 _ hbd]; exact hB _ hbm
    obtain ⟨hn1, hn2⟩ := nodup_at hnd hlt
    have hcut : LB.take (i + 1) = LB.take i ++ [LB[i]] := List.take_succ_eq_append_getElem hlt
    have hkli := hkl i
    have mu : LB.length + 1 - (nI i + 1).toNatClampNeg < LB.length + 1 - (nI i).toNatClampNeg := by
      rw [nI_1, nI_clamp (by omega), nI_clamp (by omega)]
      omega
    refine g_L_0 hx' ?_
    refine ⟨_, rfl, ?_⟩
    refine wldq_n ha' (by omega) (by omega) ?_
    rw [hk2 i (Nat.le_refl _), hg i LB[i] hLi]
    refine ⟨_, rfl, ?_⟩
    refine g_B_4 hb ?_
    refine ⟨fun c2 => ?_, fun c2 => ?_⟩
    · refine g_B_4 hb ?_
      refine p_B_4 hb ?_
      have hbn : ab ≠ LB[i] := Ne.symm (ne_oe_arr hb ha')
      have hbx : x ≠ LB[i] := fun q => hxn (q ▸ hbm)
      refine g_L_0 (by rw [xup_ne _ _ hbx]; exact hx') ?_
      refine ⟨_, rfl, ?_⟩
      refine wstq_n (by rw [xup_ne _ _ hbn]; exact ha') (by omega) (by omega) (fun z q => by cases q; exact ⟨_, xup_self _ _ _⟩) ?_
      refine hk _ _ ⟨i + 1, va_up g' ((LB.take i).filter (fun b => decide (n ≤ (B b).2.2.2))).length (some LB[i]), hlt, ?_, xup_self _ _ _, fun j b hj => ?_, fun j hj => ?_, fun b hb2 hkb => ?_, fun b hb2 => ?_, fun a n1 n2 => ?_⟩ mu
      · rw [hcut, List.filter_append, wentF_snoc, if_pos c2, ← nI_1 i]
        simp [c2, ← nI_1]
      · rw [hcut, List.filter_append] at hj
        simp only [List.filter_cons, List.filter_nil, c2, decide_true, if_true] at hj
        by_cases hjl : j < ((LB.take i).filter (fun b => decide (n ≤ (B b).2.2.2))).length
        · rw [List.getElem?_append_left hjl] at hj
          rw [va_up_ne _ _ (by omega)]
          exact hk1 j b hj
        · rw [List.getElem?_append_right (by omega)] at hj
          have hj0 : j - ((LB.take i).filter (fun b => decide (n ≤ (B b).2.2.2))).length = 0 := by
            have := (List.getElem?_eq_some_iff.mp hj).1
            simp at this
            omega
          rw [hj0] at hj
          simp at hj
          have : j = ((LB.take i).filter (fun b => decide (n ≤ (B b).2.2.2))).length := by omega
          rw [this, va_up_self, hj]
      · rw [va_up_ne _ _ (by omega)]
        exact hk2 j (by omega)
      · have hb3 : b ≠ ab := ne_oe_arr (hB b (List.mem_of_mem_take hb2)) hab
        rw [xup_ne _ _ hb3]
        rcases take_mem_succ hlt hb2 with h1 | h1
        · rw [xup_ne _ _ (fun q => hn1 (by rw [← q]; exact h1))]
          exact hk3 b h1 hkb
        · subst h1
          exact xup_self _ _ _
      · have hb3 : b ≠ ab := ne_oe_arr (hB b (List.mem_of_mem_drop hb2)) hab
        rw [xup_ne _ _ hb3, xup_ne _ _ (fun q => hn2 (by rw [← q]; exact hb2))]
        exact hk4 b (mem_drop_cons hlt hb2)
      · rw [xup_ne _ _ n2, xup_ne _ _ (fun q => n1 (by rw [q]; exact hbm))]
        exact hk5 a n1 n2
    · refine g_B_3 hb ?_
      refine hk _ _ ⟨i + 1, g', hlt, ?_, ha', ?_, fun j hj => hk2 j (by omega), fun b hb2 hkb => ?_, fun b hb2 => hk4 b (mem_drop_cons hlt hb2), hk5⟩ mu
      · rw [hcut, List.filter_append, wentF_snoc, if_neg c2, ← nI_1 i]
        simp [c2]
      · rw [hcut, List.filter_append]
        simpa [c2] using hk1
      · rcases take_mem_succ hlt hb2 with h1 | h1
        · exact hk3 b h1 hkb
        · subst h1
          exact absurd hkb c2
theorem E_ne_B {e : EV} {a b : Int32} {c : Nat} {e' f : Int32} : oE e ≠ o_B a b c e' f := by simp [oE, o_E, o_B]
theorem E_ne_L {e : EV} {a' c' d' : Nat} {e' f' g' h' : Int32} : oE e ≠ o_L a' e' f' g' c' d' h' := by simp [oE, o_E, o_L]
theorem E_ne_P {e : EV} {a b : Int32} : oE e ≠ o_P a b := by simp [oE, o_E, o_P]
theorem RB.congr {d : Nat → ClassId} {h h' : xw} {b : Nat} {base prod : Int32} {arr : Nat} {seg : Int32} {els : List Nat} (hr : RB d h b base prod arr seg els) (hb : h' b = h b) (ha : h' arr = h arr) : RB d h' b base prod arr seg els := by
  obtain ⟨h1, cap, g, h2, h3⟩ := hr
  exact ⟨hb.trans h1, cap, g, ha.trans h2, h3⟩
/-- what is left of a batch's records -/
def elG (B : Nat → BF) (el : Nat → List Nat) (E : Nat → EV) (ls t : Int32) (b : Nat) : List Nat := if (B b).2.2.2 < ls then (el b).filter (fun a => !ego t (E a)) else el b
def wentG (B : Nat → BF) (el : Nat → List Nat) (E : Nat → EV) (ls t : Int32) (L : List Nat) : Int32 := L.foldl (fun z b => if (B b).2.2.2 < ls then z + (nI (el b).length - nI (elG B el E ls t b).length) else z) 0
theorem wentG_snoc (B : Nat → BF) (el : Nat → List Nat) (E : Nat → EV) (ls t : Int32) (L : List Nat) (b : Nat) : wentG B el E ls t (L ++ [b]) = if (B b).2.2.2 < ls then wentG B el E ls t L + (nI (el b).length - nI (elG B el E ls t b).length) else wentG B el E ls t L := by
  unfold wentG
  rw [List.foldl_append]
  rfl
theorem sp_removeGoneRecords {d : Nat → ClassId} {h : xw} {x ab pk ad : Nat} {rc no dc ls lf t : Int32} {LB : List Nat} {g : Nat → Option Nat} {B : Nat → BF} {el : Nat → List Nat} {E : Nat → EV} {Q : Int32 → xw → Prop} (hx : h x = some (o_L ab (nI LB.length) rc no pk ad dc)) (hp : h pk = some (o_P ls lf)) (hab : h ab = some (xaq (d 1) 400 g)) (hg : ∀ i b, LB[i]? = some b → g i = some b) (hle : LB.length ≤ 400) (hnd : LB.Nodup)
    (hda : ∀ b ∈ LB, ∀ c ∈ LB, b ≠ c → (B b).2.2.1 ≠ (B c).2.2.1) (hna : ∀ b ∈ LB, (B b).2.2.1 ≠ ab)
    (hRB : ∀ b ∈ LB, RB d h b (B b).1 (B b).2.1 (B b).2.2.1 (B b).2.2.2 (el b)) (hE : ∀ e ∈ LB.flatMap el, h e = some (oE (E e)))
    (hQ : ∀ h', h' x = some (o_L ab (nI LB.length) (rc - wentG B el E ls t LB) no pk ad dc) → (∀ b ∈ LB, RB d h' b (B b).1 (B b).2.1 (B b).2.2.1 (B b).2.2.2 (elG B el E ls t b)) → (∀ a, a ∉ LB → a ∉ LB.map (fun b => (B b).2.2.1) → a ≠ x → h' a = h a) → Q (wentG B el E ls t LB) h') : wp_LogCleaner_removeGoneRecords d h x t Q := by
  have hxn : x ∉ LB := fun q => absurd rfl (ne_obj (hRB x q).1 hx B_ne_L)
  have hpn : pk ∉ LB := fun q => absurd rfl (ne_obj (hRB pk q).1 hp B_ne_P)
  have obj_na : ∀ a o, h a = some (.inr o) → a ∉ LB.map (fun b => (B b).2.2.1) := fun a o ha q => by
    obtain ⟨b, hb, rfl⟩ := List.mem_map.mp q
    obtain ⟨-, cap, g2, h2, -⟩ := hRB b hb
    exact absurd rfl (ne_oe_arr ha h2)
  have habn : ab ∉ LB := fun q => absurd rfl (ne_oe_arr (hRB ab q).1 hab)
  have haba : ab ∉ LB.map (fun b => (B b).2.2.1) := fun q => by
    obtain ⟨b, hb, e⟩ := List.mem_map.mp q
    exact hna b hb e
  unfold wp_LogCleaner_removeGoneRecords
  refine wLoop_ind (fun y h' => ∃ i, i ≤ LB.length ∧ y = (x, t, wentG B el E ls t (LB.take i), nI i) ∧ (∀ b ∈ LB.take i, RB d h' b (B b).1 (B b).2.1 (B b).2.2.1 (B b).2.2.2 (elG B el E ls t b)) ∧ (∀ b ∈ LB.drop i, h' b = h b ∧ h' (B b).2.2.1 = h (B b).2.2.1) ∧ ∀ a, a ∉ LB → a ∉ LB.map (fun b => (B b).2.2.1) → h' a = h a) (fun y _ => LB.length + 1 - y.2.2.2.toNatClampNeg) ?_ _ _ ⟨0, Nat.zero_le _, rfl, fun b hb => by simp at hb, fun _ _ => ⟨rfl, rfl⟩, fun _ _ _ => rfl⟩
  rintro y h' k0 ⟨i, hi, rfl, hk1, hk2, hk3⟩ hk
  have hx' : h' x = some (o_L ab (nI LB.length) rc no pk ad dc) := by rw [hk3 x hxn (obj_na x _ hx)]; exact hx
  have hp' : h' pk = some (o_P ls lf) := by rw [hk3 pk hpn (obj_na pk _ hp)]; exact hp
  have ha' : h' ab = some (xaq (d 1) 400 g) := by rw [hk3 ab habn haba]; exact hab
  show wc_LogCleaner_removeGoneRecords_4 d Q _ x t (wentG B el E ls t (LB.take i)) (nI i) h'
  refine g_L_1 hx' ?_
  refine ⟨fun c => ?_, fun c => ?_⟩
  · have h1 := (nI_leI (by omega) (by omega)).mp c
    have h2 : i = LB.length := by omega
    subst h2
    rw [List.take_length] at hk1 ⊢
    refine g_L_2 hx' ?_
    refine p_L_2 hx' ?_
    refine hQ _ (xup_self _ _ _) (fun b hb => ?_) (fun a n1 n2 n3 => ?_)
    · refine (hk1 b hb).congr (xup_ne _ _ (fun q => hxn (q ▸ hb))) (xup_ne _ _ (fun q => ?_))
      obtain ⟨-, cap, g2, h2, -⟩ := hk1 b hb
      rw [q] at h2
      exact absurd rfl (ne_oe_arr hx' h2)
    · rw [xup_ne _ _ n3]
      exact hk3 a n1 n2
  · have hlt : i < LB.length := by
      rcases Nat.lt_or_ge i LB.length with h1 | h1
      · exact h1
      · exact absurd ((nI_leI (by omega) (by omega)).mpr h1) c
    have hLi : LB[i]? = some LB[i] := List.getElem?_eq_getElem hlt
    have hbm : LB[i] ∈ LB := List.getElem_mem hlt
    have hbd : LB[i] ∈ LB.drop i := by rw [List.drop_eq_getElem_cons hlt]; exact List.mem_cons_self
    have hb := (hRB _ hbm).congr (hk2 _ hbd).1 (hk2 _ hbd).2
    obtain ⟨hn1, hn2⟩ := nodup_at hnd hlt
    have hcut : LB.take (i + 1) = LB.take i ++ [LB[i]] := List.take_succ_eq_append_getElem hlt
    have mu : LB.length + 1 - (nI i + 1).toNatClampNeg < LB.length + 1 - (nI i).toNatClampNeg := by
      rw [nI_1, nI_clamp (by omega), nI_clamp (by omega)]
      omega
    refine g_L_0 hx' ?_
    refine ⟨_, rfl, ?_⟩
    refine wldq_n ha' (by omega) (by omega) ?_
    rw [hg i LB[i] hLi]
    refine is_L hx' ?_
    refine sp_isClosed hx' hp' hb.1 (fun hcl => ?_) (fun hcl => ?_)
    · refine ⟨fun q => absurd q (by decide), fun _ => ?_⟩
      refine g_L_0 hx' ?_
      refine ⟨_, rfl, ?_⟩
      refine wldq_n ha' (by omega) (by omega) ?_
      rw [hg i LB[i] hLi]
      refine ⟨_, rfl, ?_⟩
      refine is_B hb.1 ?_
      obtain ⟨hb1, cap, g2, harr, hc1, hc2, hc3⟩ := hb
      have hge : elG B el E ls t LB[i] = (el LB[i]).filter (fun a => !ego t (E a)) := if_pos hcl
      refine sp_BremoveGone (E := E) hb1 harr hc1 hc2 hc3 (fun a ha => ?_) (fun g3 hg3 => ?_)
      · have h1 := hE a (mem_flat hbm ha)
        rw [hk3 a (fun q => absurd rfl (ne_obj (hRB a q).1 h1 (Ne.symm E_ne_B))) (obj_na a _ h1)]
        exact h1
      · have hba : LB[i] ≠ (B LB[i]).2.2.1 := ne_oe_arr hb1 harr
        refine hk _ _ ⟨i + 1, hlt, ?_, fun b hb2 => ?_, fun b hb2 => ?_, fun a n1 n2 => ?_⟩ mu
        · rw [hcut, wentG_snoc, if_pos hcl, hge, ← nI_1 i]
        · rcases take_mem_succ hlt hb2 with h1 | h1
          · have hbm2 : b ∈ LB := List.mem_of_mem_take h1
            have hne : b ≠ LB[i] := fun q => hn1 (by rw [← q]; exact h1)
            obtain ⟨q1, cap4, g4, q2, -⟩ := hk1 b h1
            refine (hk1 b h1).congr ?_ ?_
            · rw [xup_ne _ _ hne, xup_ne _ _ (ne_oe_arr q1 harr)]
            · rw [xup_ne _ _ (Ne.symm (ne_oe_arr hb1 q2)), xup_ne _ _ (hda b hbm2 _ hbm hne)]
          · subst h1
            refine ⟨?_, cap, g3, ?_, ?_, hc2, ?_⟩
            · rw [hge]
              exact xup_self _ _ _
            · rw [xup_ne _ _ (Ne.symm hba)]
              exact xup_self _ _ _
            · rw [hge]
              exact Nat.le_trans (List.length_filter_le _ _) hc1
            · rw [hge]
              exact hg3
        · have hbm2 : b ∈ LB := List.mem_of_mem_drop hb2
          have hne : b ≠ LB[i] := fun q => hn2 (by rw [← q]; exact hb2)
          obtain ⟨q1, cap4, g4, q2, -⟩ := hRB b hbm2
          obtain ⟨r1, r2⟩ := hk2 b (mem_drop_cons hlt hb2)
          refine ⟨?_, ?_⟩
          · rw [xup_ne _ _ hne, xup_ne _ _ (ne_oe_arr (r1.trans q1) harr)]
            exact r1
          · rw [xup_ne _ _ (Ne.symm (ne_oe_arr hb1 (r2.trans q2))), xup_ne _ _ (hda b hbm2 _ hbm hne)]
            exact r2
        · rw [xup_ne _ _ (fun q => n1 (by rw [q]; exact hbm)), xup_ne _ _ (fun q => n2 (by rw [q]; exact List.mem_map.mpr ⟨_, hbm, rfl⟩))]
          exact hk3 a n1 n2
    · refine ⟨fun _ => ?_, fun q => absurd rfl q⟩
      have hge : elG B el E ls t LB[i] = el LB[i] := if_neg hcl
      refine hk _ _ ⟨i + 1, hlt, ?_, fun b hb2 => ?_, fun b hb2 => hk2 b (mem_drop_cons hlt hb2), hk3⟩ mu
      · rw [hcut, wentG_snoc, if_neg hcl, ← nI_1 i]
      · rcases take_mem_succ hlt hb2 with h1 | h1
        · exact hk1 b h1
        · subst h1
          rw [hge]
          exact hb
