/-! the log's own methods that only read -/
abbrev BF : Type := Int32 × Int32 × Nat × Int32
theorem i32_nle {x y : Int32} : ¬ x ≤ y ↔ y < x := by
  rw [Int32.lt_iff_toInt_lt, Int32.le_iff_toInt_le]
  omega
theorem sp_isClosed {d : Nat → ClassId} {h : xw} {x ab pk ad b arr : Nat} {bc rc no dc ls lf base prod n seg : Int32} {Q : Int32 → xw → Prop} (hx : h x = some (o_L ab bc rc no pk ad dc)) (hp : h pk = some (o_P ls lf)) (hb : h b = some (o_B base prod arr n seg)) (h1 : seg < ls → Q 1 h) (h0 : ¬ seg < ls → Q 0 h) : wp_LogCleaner_isClosed d h x (some b) Q := by
  unfold wp_LogCleaner_isClosed
  refine ⟨_, rfl, ?_⟩
  refine g_B_4 hb ?_
  refine g_L_4 hx ?_
  refine ⟨_, rfl, ?_⟩
  refine g_P_0 hp ?_
  exact ⟨fun c => ⟨Or.inl rfl, h0 (i32_nlt.mpr c)⟩, fun c => ⟨Or.inr rfl, h1 (i32_nle.mp c)⟩⟩
theorem lastK_append (E : Nat → EV) (k : Int64) (b : Int32) (l1 l2 : List Nat) : lastK E k b (l1 ++ l2) = (lastK E k b l2).or (lastK E k b l1) := by
  unfold lastK
  rw [List.reverse_append, List.find?_append]
theorem flatMap_take (el : Nat → List Nat) (L : List Nat) (j : Nat) (hj : j < L.length) : (L.take (j + 1)).flatMap el = (L.take j).flatMap el ++ el L[j] := by
  rw [List.take_succ_eq_append_getElem hj, List.flatMap_append]
  simp
theorem flatMap_drop (el : Nat → List Nat) (L : List Nat) (j : Nat) (hj : j < L.length) : (L.drop j).flatMap el = el L[j] ++ (L.drop (j + 1)).flatMap el := by
  rw [List.drop_eq_getElem_cons hj]
  rfl
theorem mem_flat {el : Nat → List Nat} {L : List Nat} {b e : Nat} (hb : b ∈ L) (he : e ∈ el b) : e ∈ L.flatMap el := List.mem_flatMap.mpr ⟨b, hb, he⟩
theorem sp_Llatest {d : Nat → ClassId} {h : xw} {x ab pk ad : Nat} {rc no dc : Int32} {LB : List Nat} {g : Nat → Option Nat} {B : Nat → BF} {el : Nat → List Nat} {E : Nat → EV} {k : Int64} {kb : Int32} {Q : Option Nat → xw → Prop} (hx : h x = some (o_L ab (nI LB.length) rc no pk ad dc)) (hab : h ab = some (xaq (d 1) 400 g)) (hg : ∀ i b, LB[i]? = some b → g i = some b) (hle : LB.length ≤ 400)
    (hRB : ∀ b ∈ LB, RB d h b (B b).1 (B b).2.1 (B b).2.2.1 (B b).2.2.2 (el b)) (hE : ∀ e ∈ LB.flatMap el, h e = some (oE (E e))) (hQ : Q (lastK E k kb (LB.flatMap el)) h) : wp_LogCleaner_latestWithKey d h x k kb Q := by
  unfold wp_LogCleaner_latestWithKey
  refine g_L_1 hx ?_
  refine wLoop_ind (fun y h' => h' = h ∧ ∃ i, i ≤ LB.length ∧ y = (x, k, kb, nI i - 1) ∧ lastK E k kb ((LB.take i).flatMap el) = lastK E k kb (LB.flatMap el)) (fun y _ => (y.2.2.2 + 1).toNatClampNeg) ?_ _ _ ⟨rfl, LB.length, Nat.le_refl _, rfl, by rw [List.take_length]⟩
  rintro y h' k0 ⟨rfl, i, hi, rfl, hL⟩ hk
  show wc_LogCleaner_latestWithKey_8 d Q _ x k kb (nI i - 1) h'
  refine ⟨fun c => ?_, fun c => ?_⟩
  · have h0 : i = 0 := by
      rcases Nat.eq_zero_or_pos i with h1 | h1
      · exact h1
      · obtain ⟨j, rfl⟩ : ∃ j, i = j + 1 := ⟨i - 1, by omega⟩
        rw [nI_pred] at c
        exact absurd c (nI_pos (by omega))
    subst h0
    rw [← hL] at hQ
    exact hQ
  · obtain ⟨j, rfl⟩ : ∃ j, i = j + 1 := by
      rcases Nat.eq_zero_or_pos i with h1 | h1
      · subst h1
        exact absurd (by decide) c
      · exact ⟨i - 1, by omega⟩
    have hj : j < LB.length := by omega
    rw [nI_pred] at c ⊢
    refine g_L_0 hx ?_
    refine ⟨_, rfl, ?_⟩
    refine wldq_n hab (by omega) (by omega) ?_
    rw [hg j LB[j] (by simp [hj])]
    have hbm : LB[j] ∈ LB := List.getElem_mem hj
    have hb := hRB LB[j] hbm
    refine ⟨_, rfl, ?_⟩
    refine is_B hb.1 ?_
    refine sp_Blatest hb (fun a ha => hE a (mem_flat hbm ha)) ?_
    rw [flatMap_take el LB j hj, lastK_append] at hL
    refine ⟨fun hn => ?_, fun a ha => ?_⟩
    · rw [hn] at hL
      refine hk _ _ ⟨rfl, j, by omega, by rw [i32_m1], hL⟩ ?_
      show (nI j + (-1) + 1).toNatClampNeg < (nI (j + 1) - 1 + 1).toNatClampNeg
      have e1 : nI j + (-1) + 1 = nI j := by rw [Int32.add_assoc]; exact Int32.add_zero _
      rw [e1, nI_pred, nI_1, nI_clamp (by omega), nI_clamp (by omega)]
      omega
    · rw [ha] at hL
      rw [← hL] at hQ
      exact hQ
theorem sp_entryAt {d : Nat → ClassId} {h : xw} {x ab pk ad : Nat} {rc no dc r : Int32} {LB : List Nat} {g : Nat → Option Nat} {B : Nat → BF} {el : Nat → List Nat} {Q : Option Nat → xw → Prop} (hx : h x = some (o_L ab (nI LB.length) rc no pk ad dc)) (hab : h ab = some (xaq (d 1) 400 g)) (hg : ∀ i b, LB[i]? = some b → g i = some b) (hle : LB.length ≤ 400)
    (hRB : ∀ b ∈ LB, RB d h b (B b).1 (B b).2.1 (B b).2.2.1 (B b).2.2.2 (el b)) (h0 : r < 0 → Q none h) (h1 : ∀ j, j < 2 ^ 31 → r = nI j → Q (LB.flatMap el)[j]? h) : wp_LogCleaner_entryAt d h x r Q := by
  unfold wp_LogCleaner_entryAt
  refine ⟨fun c => ?_, fun c => h0 (i32_nle.mp c)⟩
  obtain ⟨j, hj, rfl⟩ := nI_of (x := r) (i32_nlt.mpr c)
  have hQ := h1 j hj rfl
  refine wLoop_ind (fun y h' => h' = h ∧ ∃ i t, i ≤ LB.length ∧ t ≤ j ∧ y = (x, nI t, nI i) ∧ (LB.flatMap el)[j]? = ((LB.drop i).flatMap el)[t]?) (fun y _ => LB.length + 1 - y.2.2.toNatClampNeg) ?_ _ _ ⟨rfl, 0, j, Nat.zero_le _, Nat.le_refl _, rfl, by rw [List.drop_zero]⟩
  rintro y h' k0 ⟨rfl, i, t, hi, ht, rfl, hL⟩ hk
  show wc_LogCleaner_entryAt_10 d Q _ x (nI t) (nI i) h'
  refine g_L_1 hx ?_
  refine ⟨fun c => ?_, fun c => ?_⟩
  · have h2 := (nI_leI (by omega) (by omega)).mp c
    have h3 : i = LB.length := by omega
    rw [hL, h3, List.drop_length] at hQ
    exact hQ
  · have hlt : i < LB.length := by
      rcases Nat.lt_or_ge i LB.length with h2 | h2
      · exact h2
      · exact absurd ((nI_leI (by omega) (by omega)).mpr h2) c
    refine g_L_0 hx ?_
    refine ⟨_, rfl, ?_⟩
    refine wldq_n hab (by omega) (by omega) ?_
    rw [hg i LB[i] (by simp [hlt])]
    have hbm : LB[i] ∈ LB := List.getElem_mem hlt
    obtain ⟨hb, cap, g2, harr, hle2, hcap, hg2⟩ := hRB LB[i] hbm
    rw [flatMap_drop el LB i hlt] at hL
    refine ⟨_, rfl, ?_⟩
    refine g_B_3 hb ?_
    refine ⟨fun c2 => ?_, fun c2 => ?_⟩
    · have h2 := (nI_leI (by omega) (by omega)).mp c2
      refine g_B_3 hb ?_
      refine hk _ _ ⟨rfl, i + 1, t - (el LB[i]).length, hlt, by omega, ?_, ?_⟩ ?_
      · rw [pk_sub h2, ← nI_1]
      · rw [List.getElem?_append_right h2] at hL
        exact hL
      · show LB.length + 1 - (nI i + 1).toNatClampNeg < LB.length + 1 - (nI i).toNatClampNeg
        rw [nI_1, nI_clamp (by omega), nI_clamp (by omega)]
        omega
    · have h2 : t < (el LB[i]).length := by
        rcases Nat.lt_or_ge t (el LB[i]).length with h2 | h2
        · exact h2
        · exact absurd ((nI_leI (by omega) (by omega)).mpr h2) c2
      refine g_B_2 hb ?_
      refine ⟨_, rfl, ?_⟩
      refine wldq_n harr (by omega) (by omega) ?_
      rw [hg2 t (el LB[i])[t] (by simp [h2])]
      rw [List.getElem?_append_left h2, List.getElem?_eq_getElem h2] at hL
      rw [hL] at hQ
      exact hQ
/-- the log knows the batch b, behind which the batches 'rest' lie -/
def knownS (B : Nat → BF) (b : Nat) (rest : List Nat) : Bool := decide ((B b).2.1 ≠ -1) && decide ((rest.filter (fun c => decide ((B c).2.1 = (B b).2.1))).length < 2)
theorem sp_isKnown {d : Nat → ClassId} {h : xw} {x ab pk ad i : Nat} {rc no dc : Int32} {LB : List Nat} {g : Nat → Option Nat} {B : Nat → BF} {Q : Int32 → xw → Prop} (hx : h x = some (o_L ab (nI LB.length) rc no pk ad dc)) (hab : h ab = some (xaq (d 1) 400 g)) (hi : i < LB.length) (hg : ∀ j b, i ≤ j → LB[j]? = some b → g j = some b) (hle : LB.length ≤ 400)
    (hB : ∀ b ∈ LB, ∃ n, h b = some (o_B (B b).1 (B b).2.1 (B b).2.2.1 n (B b).2.2.2)) (h1 : knownS B LB[i] (LB.drop (i + 1)) = true → Q 1 h) (h0 : knownS B LB[i] (LB.drop (i + 1)) = false → Q 0 h) : wp_LogCleaner_isKnown d h x (nI i) Q := by
  have hLi : LB[i]? = some LB[i] := List.getElem?_eq_getElem hi
  obtain ⟨n0, hb⟩ := hB LB[i] (List.getElem_mem hi)
  unfold wp_LogCleaner_isKnown
  refine g_L_0 hx ?_
  refine ⟨_, rfl, ?_⟩
  refine wldq_n hab (by omega) (by omega) ?_
  rw [hg i LB[i] (Nat.le_refl _) hLi]
  refine ⟨_, rfl, ?_⟩
  refine g_B_1 hb ?_
  refine ⟨fun c => ?_, fun c => ?_⟩
  · exact ⟨Or.inl rfl, h0 (by simp [knownS, c])⟩
  · refine wLoop_ind (fun y h' => h' = h ∧ ∃ j, i + 1 ≤ j ∧ j ≤ LB.length ∧ y = (x, (B LB[i]).2.1, nI ((((LB.drop (i + 1)).take (j - (i + 1))).filter (fun c => decide ((B c).2.1 = (B LB[i]).2.1))).length), nI j)) (fun y _ => LB.length + 1 - y.2.2.2.toNatClampNeg) ?_ _ _ ⟨rfl, i + 1, Nat.le_refl _, hi, by rw [← nI_1]; simp [nI_0]⟩
    rintro y h' k0 ⟨rfl, j, hj1, hj2, rfl⟩ hk
    have hcl : (((LB.drop (i + 1)).take (j - (i + 1))).filter (fun c => decide ((B c).2.1 = (B LB[i]).2.1))).length ≤ 400 := Nat.le_trans (List.length_filter_le _ _) (by rw [List.length_take, List.length_drop]; omega)
    show wc_LogCleaner_isKnown_24 d Q _ x (B LB[i]).2.1 (nI (((LB.drop (i + 1)).take (j - (i + 1))).filter (fun c => decide ((B c).2.1 = (B LB[i]).2.1))).length) (nI j) h'
    refine g_L_1 hx ?_
    refine ⟨fun c2 => ?_, fun c2 => ?_⟩
    · have h2 := (nI_leI (by omega) (by omega)).mp c2
      have h3 : j = LB.length := by omega
      have h4 : (LB.drop (i + 1)).take (j - (i + 1)) = LB.drop (i + 1) := by
        rw [List.take_of_length_le]
        rw [List.length_drop]
        omega
      rw [h4] at hcl ⊢
      have e2 : (2 : Int32) = nI 2 := by decide
      refine ⟨fun c3 => ?_, fun c3 => ?_⟩
      · rw [e2] at c3
        have h5 := (nI_leI (by omega) (by omega)).mp c3
        exact ⟨Or.inl rfl, h0 (by simp only [knownS, Bool.and_eq_false_iff, decide_eq_false_iff_not]; right; omega)⟩
      · rw [e2] at c3
        have h5 : ¬ 2 ≤ _ := fun q => c3 ((nI_leI (by omega) (by omega)).mpr q)
        exact ⟨Or.inr rfl, h1 (by simp only [knownS, Bool.and_eq_true, decide_eq_true_eq]; exact ⟨c, by omega⟩)⟩
    · have hlt : j < LB.length := by
        rcases Nat.lt_or_ge j LB.length with h2 | h2
        · exact h2
        · exact absurd ((nI_leI (by omega) (by omega)).mpr h2) c2
      have hLj : LB[j]? = some LB[j] := List.getElem?_eq_getElem hlt
      obtain ⟨nj, hbj⟩ := hB LB[j] (List.getElem_mem hlt)
      have hcut : (LB.drop (i + 1)).take (j + 1 - (i + 1)) = (LB.drop (i + 1)).take (j - (i + 1)) ++ [LB[j]] := by
        have e3 : j + 1 - (i + 1) = (j - (i + 1)) + 1 := by omega
        rw [e3, List.take_succ_eq_append_getElem (by rw [List.length_drop]; omega)]
        congr 2
        rw [List.getElem_drop]
        congr 1
        omega
      have mu : LB.length + 1 - (nI j + 1).toNatClampNeg < LB.length + 1 - (nI j).toNatClampNeg := by
        rw [nI_1, nI_clamp (by omega), nI_clamp (by omega)]
        omega
      refine g_L_0 hx ?_
      refine ⟨_, rfl, ?_⟩
      refine wldq_n hab (by omega) (by omega) ?_
      rw [hg j LB[j] (by omega) hLj]
      refine ⟨_, rfl, ?_⟩
      refine g_B_1 hbj ?_
      refine ⟨fun c3 => ?_, fun c3 => ?_⟩
      · refine hk _ _ ⟨rfl, j + 1, by omega, hlt, ?_⟩ mu
        rw [hcut, List.filter_append, ← nI_1 j]
        simp [c3, ← nI_1]
      · refine hk _ _ ⟨rfl, j + 1, by omega, hlt, ?_⟩ mu
        rw [hcut, List.filter_append, ← nI_1 j]
        simp [c3]
