/-! the reference's clean -/
theorem fT_congr {α : Type} {p q : Nat → Bool} {L : List α} (h : ∀ i, i < L.length → p i = q i) : fT p L = fT q L := by
  unfold fT
  congr 1
  refine List.filter_congr (fun x hx => ?_)
  obtain ⟨h1, h2⟩ := List.mem_zipIdx' hx
  exact h x.2 h1
theorem segsOf_get : ∀ (l : List Int32) (s : Int32 × Int32) (j : Nat), j < l.length → (segsOf s l)[j]? = some ((l.take (j + 1)).foldl plc s).1 := by
  intro l
  induction l with
  | nil => intro s j hj; exact absurd hj (Nat.not_lt_zero _)
  | cons a r ih =>
    intro s j hj
    cases j with
    | zero => rfl
    | succ j =>
      show (segsOf (plc s a) r)[j]? = _
      rw [ih (plc s a) j (by simpa using hj)]
      rfl
theorem plc_bound : ∀ (l : List Int32) (s : Int32 × Int32) (n : Nat), (s.1.toInt = -1 ∨ 0 ≤ s.1.toInt) → s.1.toInt < n → n + l.length < 2 ^ 30 → (s.1.toInt ≤ (l.foldl plc s).1.toInt) ∧ (l.foldl plc s).1.toInt < n + l.length ∧ (l ≠ [] → 0 ≤ (l.foldl plc s).1.toInt) := by
  intro l
  induction l with
  | nil => intro s n h1 h2 h3; exact ⟨Int.le_refl _, by simpa using h2, fun q => absurd rfl q⟩
  | cons a r ih =>
    intro s n h1 h2 h3
    have hl : (a :: r).length = r.length + 1 := rfl
    have e1 : (-1 : Int32).toInt = -1 := by decide
    have inc : (s.1 + 1).toInt = s.1.toInt + 1 := by
      rw [Int32.toInt_add]
      have : (1 : Int32).toInt = 1 := by decide
      rw [this]
      exact Int.bmod_eq_of_le (by omega) (by omega)
    have hs : s.1.toInt ≤ (plc s a).1.toInt ∧ (plc s a).1.toInt < (n + 1 : Nat) ∧ 0 ≤ (plc s a).1.toInt := by
      unfold plc
      by_cases c : s.1 = -1 ∨ ¬ s.2 + a ≤ 1000
      · rw [if_pos c]
        show s.1.toInt ≤ (s.1 + 1).toInt ∧ (s.1 + 1).toInt < (n + 1 : Nat) ∧ 0 ≤ (s.1 + 1).toInt
        rw [inc]
        omega
      · rw [if_neg c]
        show s.1.toInt ≤ s.1.toInt ∧ s.1.toInt < (n + 1 : Nat) ∧ 0 ≤ s.1.toInt
        have : s.1.toInt ≠ -1 := fun q => c (Or.inl (Int32.toInt_inj.mp (by omega)))
        omega
    obtain ⟨a1, a2, a3⟩ := ih (plc s a) (n + 1) (Or.inr hs.2.2) hs.2.1 (by omega)
    refine ⟨?_, ?_, fun _ => ?_⟩
    · show s.1.toInt ≤ (r.foldl plc (plc s a)).1.toInt
      omega
    · show (r.foldl plc (plc s a)).1.toInt < _
      rw [hl]
      omega
    · show 0 ≤ (r.foldl plc (plc s a)).1.toInt
      omega
theorem plc_ne {l : List Int32} (h : l ≠ []) (hl : l.length < 2 ^ 29) : (l.foldl plc (-1, 0)).1 ≠ -1 := fun q => by
  have := (plc_bound l (-1, 0) 0 (Or.inl (by decide)) (by decide) (by omega)).2.2 h
  rw [q] at this
  exact absurd this (by decide)
section MCLEAN
variable {d : Nat → ClassId} {h : xw} {m : Nat} {A : Nat → Nat} {S : Nat → Int32} {I : Nat → Nat → Int32} {J : Nat → Nat → Int64} {RL : List (Nat × Nat)} {E : Nat → EV} {LB : List Nat} {B : Nat → BF} {no : Nat} {DL : List Nat}
theorem MI.other (hI : MI S I J LB B RL E no DL) {I' : Nat → Nat → Int32} (ho : ∀ k, k ≠ 20 → k ≠ 21 → I' k = I k) : MI S I' J LB B RL E no DL := by
  obtain ⟨s1, s9, s10, s16, hR, hB, hD⟩ := hI
  refine ⟨s1, s9, s10, s16, fun r p hp => ?_, fun r p hp => ?_, fun r p hp => ?_⟩
  · rw [ho 2 (by decide) (by decide), ho 3 (by decide) (by decide), ho 5 (by decide) (by decide), ho 6 (by decide) (by decide), ho 8 (by decide) (by decide)]
    exact hR r p hp
  · rw [ho 17 (by decide) (by decide), ho 18 (by decide) (by decide), ho 19 (by decide) (by decide)]
    exact hB r p hp
  · rw [ho 12 (by decide) (by decide), ho 13 (by decide) (by decide), ho 15 (by decide) (by decide)]
    exact hD r p hp
/-- the packing of what is left -/
theorem sp_mpack {sz : Nat → Int32} {ng : Int32} {C : Nat} {op : Int32} {B' : Nat → BF} {Q : Int32 → xw → Prop} (hM : MR d h m A S I J) (hI : MI S I J LB B RL E no DL) (hr : RL.length ≤ 4000) (hb4 : LB.length ≤ 400) (hC : C ≤ LB.length) (hp : ∀ p ∈ RL, p.1 < 400 ∧ -1 ≤ (E p.2).2.1) (hsz : ∀ i c, LB[i]? = some c → bsz E (selI RL i) = sz c)
    (hop : op = (((LB.take C).map sz).foldl plc (-1, 0)).1 + 1) (hB0 : ∀ c ∈ LB, (B' c).1 = (B c).1 ∧ (B' c).2.1 = (B c).2.1) (hB1 : (LB.take C).map (fun b => (B' b).2.2.2) = segsOf (-1, 0) ((LB.take C).map sz)) (hB2 : ∀ b ∈ LB.drop C, (B' b).2.2.2 = op)
    (hQ : ∀ h' I', MR d h' m A S I' J → MI S I' J LB B' RL E no DL → Q ng h') :
    wLoop (fun (k : Nat × Int32 × Int32 × Int32 × Int32 × Int32 → xw → Prop) (x : Nat × Int32 × Int32 × Int32 × Int32 × Int32) (h : xw) => wc_LogCleanerModel_clean_247 d Q (fun y0 y3 y4 y5 y6 y7 h => k (y0, y3, y4, y5, y6, y7) h) x.1 x.2.1 x.2.2.1 x.2.2.2.1 x.2.2.2.2.1 x.2.2.2.2.2 h) (m, nI C, ng, 0, 0, 0) h := by
  obtain ⟨s1, s9, s10, s16, hR, hB, hD⟩ := id hI
  have hCl : ((LB.take C).map sz).length = C := by rw [List.length_map, List.length_take]; omega
  have seg1 : ∀ j (hj : j < C), (B' (LB[j]'(by omega))).2.2.2 = ((((LB.take C).map sz).take (j + 1)).foldl plc (-1, 0)).1 := fun j hj => by
    have h1 := segsOf_get ((LB.take C).map sz) (-1, 0) j (by omega)
    rw [← hB1] at h1
    simp only [List.getElem?_map, List.getElem?_take, hj, if_true, List.getElem?_eq_getElem (show j < LB.length by omega), Option.map_some, Option.some.injEq] at h1
    exact h1
  have seg2 : ∀ j (hj : j < LB.length), C ≤ j → (B' LB[j]).2.2.2 = op := fun j hj hc => hB2 _ (List.mem_iff_getElem.mpr ⟨j - C, by rw [List.length_drop]; omega, by rw [List.getElem_drop]; congr 1; omega⟩)
  have szs : ∀ j (hj : j < C), ((LB.take C).map sz).take (j + 1) = ((LB.take C).map sz).take j ++ [sz (LB[j]'(by omega))] := fun j hj => by
    rw [List.take_succ_eq_append_getElem (by omega)]
    simp
  refine wLoop_ind (fun x h' => ∃ i fl at' I', i ≤ LB.length ∧ x = (m, nI C, ng, fl, at', nI i) ∧ MR d h' m A S I' J ∧ (∀ k, k ≠ 19 → I' k = I k) ∧ (∀ j c, j < i → LB[j]? = some c → I' 19 j = (B' c).2.2.2) ∧ (i ≤ C → (i = 0 ∧ fl = 0 ∧ at' = 0) ∨ (0 < i ∧ (at', fl) = (((LB.take C).map sz).take i).foldl plc (-1, 0))) ∧ (C ≤ i → 0 < C → at' = (((LB.take C).map sz).foldl plc (-1, 0)).1)) (fun x _ => LB.length + 1 - x.2.2.2.2.2.toNatClampNeg) ?_ _ _ ⟨0, 0, 0, I, Nat.zero_le _, rfl, hM, fun _ _ => rfl, fun j c hj => absurd hj (Nat.not_lt_zero _), fun _ => Or.inl ⟨rfl, rfl, rfl⟩, fun h1 h2 => by omega⟩
  rintro x h1 k ⟨i, fl, at', I1, hi, rfl, hM1, hI1, hs1, hst, hen⟩ hk
  show wc_LogCleanerModel_clean_247 d Q _ m (nI C) ng fl at' (nI i) h1
  refine gs16 hM1 ?_
  refine ifle s16 hi (by omega) (fun ci => ?_) (fun ci => ?_)
  · subst ci
    refine hQ h1 I1 hM1 ⟨s1, s9, s10, s16, fun r p hp => ?_, fun r c hc => ?_, fun r p hp => ?_⟩
    · rw [hI1 2 (by decide), hI1 3 (by decide), hI1 5 (by decide), hI1 6 (by decide), hI1 8 (by decide)]
      exact hR r p hp
    · obtain ⟨b1, b2, b3⟩ := hB r c hc
      obtain ⟨c1, c2⟩ := hB0 c (List.mem_of_getElem? hc)
      rw [hI1 17 (by decide), hI1 18 (by decide), c1, c2]
      exact ⟨b1, b2, hs1 r c (List.getElem?_eq_some_iff.mp hc).1 hc⟩
    · rw [hI1 12 (by decide), hI1 13 (by decide), hI1 15 (by decide)]
      exact hD r p hp
  have hR1 : RecOK I1 J RL E := fun r p hp => by
    rw [hI1 2 (by decide), hI1 3 (by decide), hI1 5 (by decide), hI1 6 (by decide), hI1 8 (by decide)]
    exact hR r p hp
  have hLi : LB[i]? = some LB[i] := List.getElem?_eq_getElem ci
  refine isM hM1 ?_
  refine sp_msize hM1 s1 hR1 hr (by omega) hp ?_
  rw [hsz i LB[i] hLi]
  have put : ∀ I2, I2 = u2 I1 19 i (B' LB[i]).2.2.2 → (∀ k, k ≠ 19 → I2 k = I k) ∧ (∀ j c, j < i + 1 → LB[j]? = some c → I2 19 j = (B' c).2.2.2) := fun I2 hI2 => by
    subst hI2
    refine ⟨fun k hk => (u2_ne _ _ _ hk).trans (hI1 k hk), fun j c hj hc => ?_⟩
    by_cases cj : j = i
    · subst cj
      rw [hLi] at hc
      cases hc
      simp [u2]
    · simp only [u2, cj, and_false, if_false]
      exact hs1 j c (by omega) hc
  refine ⟨fun c => ?_, fun c => ?_⟩
  · -- open
    have c := (nI_leI (by omega) (by omega)).mp c
    refine ga19 hM1 ?_
    have go : ∀ s0, s0 = (B' LB[i]).2.2.2 → wb_LogCleanerModel_clean_355 d (fun y0 y3 y4 y5 y6 y7 h => k (y0, y3, y4, y5, y6, y7) h) Q m (nI C) ng fl at' (nI i) s0 (nI i) (some (A 19)) h1 := fun s0 hs0 => by
      subst hs0
      refine ⟨_, rfl, st19 hM1 (by omega) (fun h2 I2 hM2 hI2 => ?_)⟩
      obtain ⟨p1, p2⟩ := put I2 hI2
      exact hk _ _ ⟨i + 1, fl, at', I2, ci, by rw [nI_1], hM2, p1, p2, fun q => by omega, fun _ q => hen c q⟩ (mdec ci (by omega))
    refine ⟨fun c2 => go _ ?_, fun c2 => go _ ?_⟩
    · rw [← nI_0] at c2
      have c2 := (nI_eq (by omega) (by omega)).mp c2
      rw [seg2 i ci c, hop, c2, List.take_zero]
      show (0 : Int32) = -1 + 1
      decide
    · have c2 : 0 < C := by
        rcases Nat.eq_zero_or_pos C with q | q
        · rw [q] at c2; exact absurd nI_0 c2
        · exact q
      rw [seg2 i ci c, hop, hen c c2]
  · -- closed
    have c : i < C := by
      rcases Nat.lt_or_ge i C with q | q
      · exact q
      · exact absurd ((nI_leI (by omega) (by omega)).mpr q) c
    have fin : ∀ at2 fl2, (at2, fl2) = (((LB.take C).map sz).take (i + 1)).foldl plc (-1, 0) → wb_LogCleanerModel_clean_323 d (fun y0 y3 y4 y5 y6 y7 h => k (y0, y3, y4, y5, y6, y7) h) Q m (nI C) ng at2 (nI i) fl2 h1 := fun at2 fl2 he => by
      refine ga19 hM1 ⟨_, rfl, st19 hM1 (by omega) (fun h2 I2 hM2 hI2 => ?_)⟩
      have e1 : at2 = (B' LB[i]).2.2.2 := by rw [seg1 i c, ← he]
      rw [e1] at hI2
      obtain ⟨p1, p2⟩ := put I2 hI2
      refine hk _ _ ⟨i + 1, fl2, at2, I2, ci, by rw [nI_1], hM2, p1, p2, fun _ => Or.inr ⟨by omega, he⟩, fun q1 q2 => ?_⟩ (mdec ci (by omega))
      have : i + 1 = C := by omega
      rw [this, List.take_of_length_le (by omega)] at he
      rw [← he]
    rcases hst (by omega) with ⟨q1, q2, q3⟩ | ⟨q1, q2⟩
    · subst q1 q2 q3
      refine ⟨fun _ => ?_, fun q => absurd nI_0 q⟩
      refine ⟨fun q => absurd q (by decide), fun _ => ?_⟩
      refine ⟨fun q => absurd q (by decide), fun _ => ?_⟩
      refine fin _ _ ?_
      rw [szs 0 c, List.take_zero, List.nil_append]
      show _ = plc (-1, 0) (sz LB[0])
      unfold plc
      rw [if_pos (Or.inl rfl)]
      rfl
    · have hne : at' ≠ -1 := fun q => by
        refine plc_ne (l := ((LB.take C).map sz).take i) (fun q3 => ?_) (by rw [List.length_take]; omega) (by rw [← q2]; exact q)
        have := congrArg List.length q3
        rw [List.length_take] at this
        simp only [List.length_nil] at this
        omega
      refine ⟨fun q => ?_, fun _ => ?_⟩
      · rw [← nI_0] at q
        have := (nI_eq (by omega) (by omega)).mp q
        omega
      have stp : plc (at', fl) (sz LB[i]) = (((LB.take C).map sz).take (i + 1)).foldl plc (-1, 0) := by
        rw [szs i c, List.foldl_append, ← q2]
        rfl
      refine ⟨fun c3 => ?_, fun c3 => ?_⟩
      · refine ⟨fun _ => ?_, fun q => absurd rfl q⟩
        refine ⟨fun _ => ?_, fun q => absurd rfl q⟩
        refine fin _ _ ?_
        rw [← stp]
        unfold plc
        rw [if_pos (Or.inr (fun q => i32_nle.mpr c3 q))]
        show (at' + 1, sz LB[i]) = (at' + 1, 0 + sz LB[i])
        rw [Int32.zero_add]
      · refine ⟨fun q => absurd q (by decide), fun _ => ?_⟩
        refine ⟨fun q => absurd q (by decide), fun _ => ?_⟩
        refine fin _ _ ?_
        rw [← stp]
        unfold plc
        rw [if_neg (fun q => by rcases q with q | q; exact hne q; exact q (i32_nlt.mp c3))]
        show (at' + 0, fl + sz LB[i]) = (at', fl + sz LB[i])
        rw [Int32.add_zero]
end MCLEAN
