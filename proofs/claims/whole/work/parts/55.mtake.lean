/-! the reference's takeOut -/
def fT {α : Type} (p : Nat → Bool) (L : List α) : List α := (L.zipIdx.filter (fun q => p q.2)).map (fun q => q.1)
theorem fT_snoc {α : Type} (p : Nat → Bool) (L : List α) (a : α) : fT p (L ++ [a]) = if p L.length = true then fT p L ++ [a] else fT p L := by
  unfold fT
  rw [List.zipIdx_append, List.filter_append, List.map_append]
  by_cases c : p L.length = true
  · rw [if_pos c]; simp [c]
  · rw [if_neg c]; simp [c]
theorem fT_len {α : Type} (p : Nat → Bool) (L : List α) : (fT p L).length ≤ L.length := by
  unfold fT
  rw [List.length_map]
  exact Nat.le_trans (List.length_filter_le _ _) (by rw [List.length_zipIdx]; exact Nat.le_refl _)
theorem fT_take_len {α : Type} (p : Nat → Bool) (L : List α) (i : Nat) : (fT p (L.take i)).length ≤ i := Nat.le_trans (fT_len p _) (by rw [List.length_take]; omega)
/-- the records that are left, with the new numbers of their batches -/
def newR (sB : Nat → Bool) (LB : List Nat) (go : Nat × Nat → Bool) (RL : List (Nat × Nat)) : List (Nat × Nat) := (RL.filter (fun p => !go p)).map (fun p => ((fT sB (LB.take p.1)).length, p.2))
theorem newR_snoc (sB : Nat → Bool) (LB : List Nat) (go : Nat × Nat → Bool) (RL : List (Nat × Nat)) (p : Nat × Nat) : newR sB LB go (RL ++ [p]) = if go p = true then newR sB LB go RL else newR sB LB go RL ++ [((fT sB (LB.take p.1)).length, p.2)] := by
  unfold newR
  rw [List.filter_append, List.map_append]
  by_cases c : go p = true
  · rw [if_pos c]; simp [c]
  · rw [if_neg c]; simp [c]
theorem newR_len (sB : Nat → Bool) (LB : List Nat) (go : Nat × Nat → Bool) (RL : List (Nat × Nat)) : (newR sB LB go RL).length ≤ RL.length := by
  unfold newR
  rw [List.length_map]
  exact List.length_filter_le _ _
section MTAKE
variable {d : Nat → ClassId} {h : xw} {m : Nat} {A : Nat → Nat} {S : Nat → Int32} {I : Nat → Nat → Int32} {J : Nat → Nat → Int64} {RL : List (Nat × Nat)} {E : Nat → EV} {LB : List Nat} {B : Nat → BF} {no : Nat} {DL : List Nat}
theorem sp_mtake {sB : Nat → Bool} {go : Nat × Nat → Bool} {Q : Int32 → xw → Prop} (hM : MR d h m A S I J) (hI : MI S I J LB B RL E no DL) (hr : RL.length ≤ 4000) (hb4 : LB.length ≤ 400) (hs : ∀ i, i < LB.length → I 21 i = bI (sB i)) (hg : ∀ r p, RL[r]? = some p → I 20 r = bI (go p)) (hp : ∀ p ∈ RL, p.1 < LB.length) (hv : ∀ p ∈ RL, (E p.2).2.2.1 = 0 ∨ (E p.2).2.2.1 = 1)
    (hQ : ∀ h' S' I' J', MR d h' m A S' I' J' → S' 0 = S 0 → MI S' I' J' (fT sB LB) B (newR sB LB go RL) E no DL → J' 23 0 = J 23 0 → Q (nI (RL.length - (newR sB LB go RL).length)) h') : wp_LogCleanerModel_takeOut d h m Q := by
  obtain ⟨s1, s9, s10, s16, hR, hB, hD⟩ := id hI
  unfold wp_LogCleanerModel_takeOut
  refine wLoop_ind (fun x h' => ∃ i I', i ≤ LB.length ∧ x = (m, nI (fT sB (LB.take i)).length, nI i) ∧ MR d h' m A S I' J ∧ BatOK I' (fT sB (LB.take i)) B ∧ (∀ j c, i ≤ j → LB[j]? = some c → I' 17 j = (B c).1 ∧ I' 18 j = (B c).2.1 ∧ I' 19 j = (B c).2.2.2) ∧ (∀ j, j < i → I' 22 j = nI (fT sB (LB.take j)).length) ∧ (∀ j, I' 21 j = I 21 j) ∧ (∀ j, I' 20 j = I 20 j) ∧ RecOK I' J RL E ∧ DrOK I' J DL E) (fun x _ => LB.length + 1 - x.2.2.toNatClampNeg) ?_ _ _ ⟨0, I, Nat.zero_le _, rfl, hM, fun i b hb => by simp [fT] at hb, fun j c _ hc => hB j c hc, fun j hj => absurd hj (Nat.not_lt_zero _), fun _ => rfl, fun _ => rfl, hR, hD⟩
  rintro x h1 k ⟨i, I1, hi, rfl, hM1, hB1, hrest, hnum, h21, h20, hR1, hD1⟩ hk
  show wc_LogCleanerModel_takeOut_4 d Q _ m (nI (fT sB (LB.take i)).length) (nI i) h1
  have hkl := fT_take_len sB LB i
  refine gs16 hM1 ?_
  refine ifle s16 hi (by omega) (fun ci => ?_) (fun ci => ?_)
  rotate_left
  · obtain ⟨q1, q2, q3⟩ := hrest i LB[i] (Nat.le_refl _) (List.getElem?_eq_getElem ci)
    refine ga22 hM1 ⟨_, rfl, st22 hM1 (by omega) (fun h2 I2 hM2 hI2 => ?_)⟩
    refine ga21 hM2 ⟨_, rfl, ld21 hM2 (by omega) ?_⟩
    have z21 : I2 21 i = bI (sB i) := by
      rw [hI2]
      simp only [u2, Nat.reduceEqDiff, false_and, if_false]
      rw [h21, hs i ci]
    rw [z21]
    have hsn : fT sB (LB.take (i + 1)) = if sB i = true then fT sB (LB.take i) ++ [LB[i]] else fT sB (LB.take i) := by
      rw [List.take_succ_eq_append_getElem ci, fT_snoc, List.length_take, Nat.min_eq_left (by omega)]
    refine ⟨fun c => ?_, fun c => ?_⟩
    · have c := bI_0.mp c
      rw [if_neg (by rw [c]; decide)] at hsn
      refine hk _ _ ⟨i + 1, I2, ci, by rw [hsn, nI_1], hM2, ?_, ?_, ?_, ?_, ?_, ?_, ?_⟩ (mdec ci (by omega))
      · rw [hsn]
        intro r c hc
        rw [hI2]
        simp only [u2, Nat.reduceEqDiff, false_and, if_false]
        exact hB1 r c hc
      · intro j c hj hc
        rw [hI2]
        simp only [u2, Nat.reduceEqDiff, false_and, if_false]
        exact hrest j c (by omega) hc
      · intro j hj
        rw [hI2]
        by_cases cj : j = i
        · subst cj
          simp [u2]
        · simp only [u2, cj, and_false, if_false]
          exact hnum j (by omega)
      · intro j
        rw [hI2]
        simp only [u2, Nat.reduceEqDiff, false_and, if_false]
        exact h21 j
      · intro j
        rw [hI2]
        simp only [u2, Nat.reduceEqDiff, false_and, if_false]
        exact h20 j
      · intro r p hp
        rw [hI2]
        simp only [u2, Nat.reduceEqDiff, false_and, if_false]
        exact hR1 r p hp
      · intro r p hp
        rw [hI2]
        simp only [u2, Nat.reduceEqDiff, false_and, if_false]
        exact hD1 r p hp
    · have c : sB i = true := by
        cases hc : sB i with
        | true => rfl
        | false => rw [hc] at c; exact absurd rfl c
      rw [if_pos c] at hsn
      refine ga17 hM2 ?_
      refine ga17 hM2 ⟨_, rfl, ld17 hM2 (by omega) ?_⟩
      refine ⟨_, rfl, st17 hM2 (by omega) (fun h3 I3 hM3 hI3 => ?_)⟩
      refine ga18 hM3 ?_
      refine ga18 hM3 ⟨_, rfl, ld18 hM3 (by omega) ?_⟩
      refine ⟨_, rfl, st18 hM3 (by omega) (fun h4 I4 hM4 hI4 => ?_)⟩
      refine ga19 hM4 ?_
      refine ga19 hM4 ⟨_, rfl, ld19 hM4 (by omega) ?_⟩
      refine ⟨_, rfl, st19 hM4 (by omega) (fun h5 I5 hM5 hI5 => ?_)⟩
      refine hk _ _ ⟨i + 1, I5, ci, by rw [hsn, nI_1, nI_1, List.length_append, List.length_singleton], hM5, ?_, ?_, ?_, ?_, ?_, ?_, ?_⟩ (mdec ci (by omega))
      · rw [hsn]
        refine BatOK_snoc hB1 (fun _ _ => rfl) (fun r hr => ?_) ?_
        · have : ¬ r = (fT sB (LB.take i)).length := by omega
          rw [hI5, hI4, hI3, hI2]
          simp [u2, this]
        · rw [hI5, hI4, hI3, hI2]
          simp [u2, q1, q2, q3]
      · intro j c hj hc
        have : ¬ j = (fT sB (LB.take i)).length := by omega
        rw [hI5, hI4, hI3, hI2]
        simp only [u2, this, Nat.reduceEqDiff, and_false, false_and, if_false]
        exact hrest j c (by omega) hc
      · intro j hj
        rw [hI5, hI4, hI3, hI2]
        by_cases cj : j = i
        · subst cj
          simp [u2]
        · simp only [u2, cj, Nat.reduceEqDiff, and_false, false_and, if_false]
          exact hnum j (by omega)
      · intro j
        rw [hI5, hI4, hI3, hI2]
        simp only [u2, Nat.reduceEqDiff, false_and, if_false]
        exact h21 j
      · intro j
        rw [hI5, hI4, hI3, hI2]
        simp only [u2, Nat.reduceEqDiff, false_and, if_false]
        exact h20 j
      · intro r p hp
        rw [hI5, hI4, hI3, hI2]
        simp only [u2, Nat.reduceEqDiff, false_and, if_false]
        exact hR1 r p hp
      · intro r p hp
        rw [hI5, hI4, hI3, hI2]
        simp only [u2, Nat.reduceEqDiff, false_and, if_false]
        exact hD1 r p hp
  subst ci
  rw [List.take_length] at hB1 ⊢
  refine ps16 hM1 (fun h2 S2 hM2 hS2 => ?_)
  have u1 : S2 1 = nI RL.length := by rw [hS2]; exact s1
  have hg1 : ∀ r p, RL[r]? = some p → I1 20 r = bI (go p) := fun r p hp => (h20 r).trans (hg r p hp)
  refine wLoop_ind (fun x h' => ∃ r I' J', r ≤ RL.length ∧ x = (m, nI (newR sB LB go (RL.take r)).length, nI r) ∧ MR d h' m A S2 I' J' ∧ RecOK I' J' (newR sB LB go (RL.take r)) E ∧ (∀ q p, r ≤ q → RL[q]? = some p → I' 2 q = nI p.1 ∧ I' 3 q = (E p.2).2.2.2.2.2.1 ∧ J' 4 q = (E p.2).1 ∧ I' 5 q = (E p.2).2.1 ∧ I' 6 q = (E p.2).2.2.1 ∧ J' 7 q = (E p.2).2.2.2.1 ∧ I' 8 q = (E p.2).2.2.2.2.1) ∧ (∀ j, j < LB.length → I' 22 j = nI (fT sB (LB.take j)).length) ∧ (∀ j, I' 20 j = I1 20 j) ∧ BatOK I' (fT sB LB) B ∧ DrOK I' J' DL E ∧ J' 23 0 = J 23 0) (fun x _ => RL.length + 1 - x.2.2.toNatClampNeg) ?_ _ _ ⟨0, I1, J, Nat.zero_le _, rfl, hM2, fun i b hb => by simp [newR] at hb, fun q p _ hq => hR1 q p hq, hnum, fun _ => rfl, hB1, hD1, rfl⟩
  rintro x h3 k2 ⟨r, I3, J3, hr3, rfl, hM3, hR3, hrest3, hnum3, h203, hB3, hD3, hJ3⟩ hk2
  show wc_LogCleanerModel_takeOut_82 d Q _ m (nI (newR sB LB go (RL.take r)).length) (nI r) h3
  have hll : (newR sB LB go (RL.take r)).length ≤ r := Nat.le_trans (newR_len sB LB go _) (by rw [List.length_take]; omega)
  refine gs1 hM3 ?_
  refine ifle u1 hr3 (by omega) (fun cr => ?_) (fun cr => ?_)
  · subst cr
    rw [List.take_length] at hR3 ⊢
    refine gs1 hM3 ?_
    refine ps1 hM3 (fun h4 S4 hM4 hS4 => ?_)
    rw [u1, pk_sub (newR_len sB LB go RL)]
    refine hQ h4 S4 I3 J3 hM4 (by rw [hS4, hS2]; rfl) ⟨by rw [hS4]; rfl, by rw [hS4, hS2]; exact s9, by rw [hS4, hS2]; exact s10, by rw [hS4, hS2]; rfl, hR3, hB3, hD3⟩ hJ3
  have hrp : RL[r]? = some RL[r] := List.getElem?_eq_getElem cr
  refine ga20 hM3 ⟨_, rfl, ld20 hM3 (by omega) ?_⟩
  rw [h203, hg1 r _ hrp]
  have hsn : newR sB LB go (RL.take (r + 1)) = if go RL[r] = true then newR sB LB go (RL.take r) else newR sB LB go (RL.take r) ++ [((fT sB (LB.take RL[r].1)).length, RL[r].2)] := by
    rw [List.take_succ_eq_append_getElem cr, newR_snoc]
  refine ⟨fun c => ?_, fun c => ?_⟩
  rotate_left
  · have c : go RL[r] = true := by
      cases hc : go RL[r] with
      | true => rfl
      | false => rw [hc] at c; exact absurd rfl c
    rw [if_pos c] at hsn
    exact hk2 _ _ ⟨r + 1, I3, J3, cr, by rw [hsn, nI_1], hM3, by rw [hsn]; exact hR3, fun q p hq hp => hrest3 q p (by omega) hp, hnum3, h203, hB3, hD3, hJ3⟩ (mdec cr (by omega))
  have c := bI_0.mp c
  rw [if_neg (by rw [c]; decide)] at hsn
  obtain ⟨f2, f3, f4, f5, f6, f7, f8⟩ := hrest3 r RL[r] (Nat.le_refl _) hrp
  have hpb := hp RL[r] (List.getElem_mem cr)
  refine ga2 hM3 ?_
  refine ga22 hM3 ?_
  refine ga2 hM3 ⟨_, rfl, ld2 hM3 (by omega) ?_⟩
  rw [f2]
  refine ⟨_, rfl, ld22 hM3 (by omega) ?_⟩
  rw [hnum3 _ hpb]
  refine ⟨_, rfl, st2 hM3 (by omega) (fun h5 I5 hM5 hI5 => ?_)⟩
  refine ga3 hM5 ?_
  refine ga3 hM5 ⟨_, rfl, ld3 hM5 (by omega) ?_⟩
  refine ⟨_, rfl, st3 hM5 (by omega) (fun h6 I6 hM6 hI6 => ?_)⟩
  refine ga4 hM6 ?_
  refine ga4 hM6 ⟨_, rfl, ld4 hM6 (by omega) ?_⟩
  refine ⟨_, rfl, st4 hM6 (by omega) (fun h7 J7 hM7 hJ7 => ?_)⟩
  refine ga5 hM7 ?_
  refine ga5 hM7 ⟨_, rfl, ld5 hM7 (by omega) ?_⟩
  refine ⟨_, rfl, st5 hM7 (by omega) (fun h8 I8 hM8 hI8 => ?_)⟩
  refine ga6 hM8 ?_
  refine ga6 hM8 ⟨_, rfl, ld6 hM8 (by omega) ?_⟩
  have z6 : I8 6 r = (E RL[r].2).2.2.1 := by
    rw [hI8, hI6, hI5]
    simp only [u2, Nat.reduceEqDiff, false_and, if_false]
    exact f6
  refine ⟨_, rfl, st6 hM8 (by omega) (by rw [z6]; exact hv _ (List.getElem_mem cr)) (fun h9 I9 hM9 hI9 => ?_)⟩
  refine ga7 hM9 ?_
  refine ga7 hM9 ⟨_, rfl, ld7 hM9 (by omega) ?_⟩
  refine ⟨_, rfl, st7 hM9 (by omega) (fun h10 J10 hM10 hJ10 => ?_)⟩
  refine ga8 hM10 ?_
  refine ga8 hM10 ⟨_, rfl, ld8 hM10 (by omega) ?_⟩
  refine ⟨_, rfl, st8 hM10 (by omega) (fun h11 I11 hM11 hI11 => ?_)⟩
  refine hk2 _ _ ⟨r + 1, I11, J10, cr, by rw [hsn, nI_1, nI_1, List.length_append, List.length_singleton], hM11, ?_, ?_, ?_, ?_, ?_, ?_, ?_⟩ (mdec cr (by omega))
  · rw [hsn]
    refine RecOK_snoc hR3 (fun q hq => ?_) ?_
    · have : ¬ q = (newR sB LB go (RL.take r)).length := by omega
      rw [hI11, hI9, hI8, hI6, hI5, hJ10, hJ7]
      simp [u2, u3, this]
    · rw [hI11, hI9, hI8, hI6, hI5, hJ10, hJ7]
      simp [u2, u3, f3, f4, f5, f6, f7, f8]
  · intro q p hq hp
    have : ¬ q = (newR sB LB go (RL.take r)).length := by omega
    rw [hI11, hI9, hI8, hI6, hI5, hJ10, hJ7]
    simp only [u2, u3, this, Nat.reduceEqDiff, and_false, false_and, if_false]
    exact hrest3 q p (by omega) hp
  · intro j hj
    rw [hI11, hI9, hI8, hI6, hI5]
    simp only [u2, Nat.reduceEqDiff, false_and, if_false]
    exact hnum3 j hj
  · intro j
    rw [hI11, hI9, hI8, hI6, hI5]
    simp only [u2, Nat.reduceEqDiff, false_and, if_false]
    exact h203 j
  · intro r p hp
    rw [hI11, hI9, hI8, hI6, hI5]
    simp only [u2, Nat.reduceEqDiff, false_and, if_false]
    exact hB3 r p hp
  · intro r p hp
    rw [hI11, hI9, hI8, hI6, hI5, hJ10, hJ7]
    simp only [u2, u3, Nat.reduceEqDiff, false_and, if_false]
    exact hD3 r p hp
  · rw [hJ10, hJ7]
    simpa [u3] using hJ3
end MTAKE
