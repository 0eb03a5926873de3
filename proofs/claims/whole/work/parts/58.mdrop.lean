/-! the reference's drop and its questions -/
def mny (ls n : Int32) : Int32 := if (if ls < 0 then 0 else ls) < n then (if ls < 0 then 0 else ls) else n
section MDROP
variable {d : Nat → ClassId} {h : xw} {m : Nat} {A : Nat → Nat} {S : Nat → Int32} {I : Nat → Nat → Int32} {J : Nat → Nat → Int64} {RL : List (Nat × Nat)} {E : Nat → EV} {LB : List Nat} {B : Nat → BF} {no : Nat} {DL : List Nat}
theorem i32_inc {ls : Int32} (h : ls.toInt < 2 ^ 30) (h1 : -1 ≤ ls.toInt) : (ls + 1).toInt = ls.toInt + 1 := by
  rw [Int32.toInt_add]
  have : (1 : Int32).toInt = 1 := by decide
  rw [this]
  exact Int.bmod_eq_of_le (by omega) (by omega)
theorem i32_addsub (x : Int32) : x + 1 - 1 = x := by
  rw [Int32.sub_eq_add_neg, Int32.add_assoc]
  exact Int32.add_zero x
theorem sp_mdrop {n ls mn : Int32} {sB : Nat → Bool} {go : Nat × Nat → Bool} {B' : Nat → BF} {Q : Int32 → xw → Prop} (hM : MR d h m A S I J) (hI : MI S I J LB B RL E no DL) (hr : RL.length ≤ 4000) (hb4 : LB.length ≤ 400) (hp : ∀ p ∈ RL, p.1 < LB.length) (hv : ∀ p ∈ RL, (E p.2).2.2.1 = 0 ∨ (E p.2).2.2.1 = 1) (hl : ∀ b, LB[LB.length - 1]? = some b → (B b).2.2.2 = ls) (hl0 : LB = [] → ls = -1) (hls : -1 ≤ ls.toInt) (hls2 : ls.toInt < 2 ^ 30) (hmn : mn = mny ls n)
    (hgo : ∀ p ∈ RL, ∀ hb : p.1 < LB.length, (go p = true ↔ (B LB[p.1]).2.2.2 < mn)) (hsB : ∀ i (hi : i < LB.length), (sB i = true ↔ mn ≤ (B LB[i]).2.2.2))
    (hB' : ∀ c ∈ fT sB LB, (B' c).1 = (B c).1 ∧ (B' c).2.1 = (B c).2.1 ∧ (B' c).2.2.2 = (B c).2.2.2 - mn)
    (hIA : ¬ (0 ≤ n ∧ n ≤ 400) → ∀ h' S', MR d h' m A S' I J → S' 0 = 1 → MI S' I J LB B RL E no DL → Q 0 h')
    (hQ : 0 ≤ n → n ≤ 400 → ∀ h' S' I' J', MR d h' m A S' I' J' → S' 0 = 0 → MI S' I' J' (fT sB LB) B' (newR sB LB go RL) E no DL → J' 23 0 = J 23 0 → Q (nI (RL.length - (newR sB LB go RL).length)) h') : wp_LogCleanerModel_drop d h m n Q := by
  have ia : ¬ (0 ≤ n ∧ n ≤ 400) → wb_LogCleanerModel_drop_12 d Q m n m h := fun bad => by
    refine sp_code hM hI (fun h1 S1 hM1 h10 hI1 => ?_)
    refine gs0 hM1 ?_
    rw [h10]
    exact ⟨fun q => absurd q (by decide), fun _ => hIA bad h1 S1 hM1 h10 hI1⟩
  unfold wp_LogCleanerModel_drop
  refine ⟨fun c => ia (fun q => i32_nlt.mpr q.1 c), fun c1 => ?_⟩
  have c1 : 0 ≤ n := i32_nlt.mp c1
  refine ⟨fun c2 => ?_, fun c => ia (fun q => c q.2)⟩
  refine sp_code hM hI (fun h1 S1 hM1 h10 hI1 => ?_)
  refine gs0 hM1 ?_
  rw [h10]
  refine ⟨fun _ => ?_, fun q => absurd (by decide) q⟩
  obtain ⟨s1, s9, s10, s16, hR, hB, hD⟩ := id hI1
  have go : ∀ s0, s0 = mn → wb_LogCleanerModel_drop_56 d Q m s0 h1 := fun s0 hs0 => by
    subst hs0
    refine wLoop_ind (fun x h' => ∃ r I', r ≤ RL.length ∧ x = (m, s0, nI r) ∧ MR d h' m A S1 I' J ∧ (∀ k, k ≠ 20 → I' k = I k) ∧ ∀ q p, q < r → RL[q]? = some p → I' 20 q = bI (go p)) (fun x _ => RL.length + 1 - x.2.2.toNatClampNeg) ?_ _ _ ⟨0, I, Nat.zero_le _, rfl, hM1, fun _ _ => rfl, fun q p hq => absurd hq (Nat.not_lt_zero _)⟩
    rintro x h2 k ⟨r, I2, hr2, rfl, hM2, ho2, hg2⟩ hk
    show wc_LogCleanerModel_drop_60 d Q _ m s0 (nI r) h2
    have hI2 : MI S1 I2 J LB B RL E no DL := hI1.other (fun k h20 _ => ho2 k h20)
    obtain ⟨-, -, -, -, hR2', hB2', -⟩ := id hI2
    refine gs1 hM2 ?_
    refine ifle s1 hr2 (by omega) (fun cr => ?_) (fun cr => ?_)
    rotate_left
    · have hrp : RL[r]? = some RL[r] := List.getElem?_eq_getElem cr
      have p1 := hp RL[r] (List.getElem_mem cr)
      obtain ⟨f2, -⟩ := hR2' r _ hrp
      obtain ⟨-, -, f19⟩ := hB2' RL[r].1 LB[RL[r].1] (List.getElem?_eq_getElem p1)
      have tl : ∀ v, v = bI (go RL[r]) → wb_LogCleanerModel_drop_96 d (fun y0 y3 y4 h => k (y0, y3, y4) h) Q m s0 (nI r) v (nI r) (some (A 20)) h2 := fun v hv => by
        subst hv
        refine ⟨_, rfl, st20 hM2 (by omega) (bI_01 _) (fun h3 I3 hM3 hI3 => ?_)⟩
        refine hk _ _ ⟨r + 1, I3, cr, by rw [nI_1], hM3, fun k hk => by rw [hI3, u2_ne _ _ _ hk]; exact ho2 k hk, fun q p hq hqp => ?_⟩ (mdec cr (by omega))
        rw [hI3]
        by_cases cq : q = r
        · subst cq
          rw [hrp] at hqp
          cases hqp
          simp [u2]
        · simp only [u2, cq, and_false, if_false]
          exact hg2 q p (by omega) hqp
      refine ga20 hM2 ?_
      refine ga19 hM2 ?_
      refine ga2 hM2 ⟨_, rfl, ld2 hM2 (by omega) ?_⟩
      rw [f2]
      refine ⟨_, rfl, ld19 hM2 (by omega) ?_⟩
      rw [f19]
      refine ⟨fun c => tl _ ?_, fun c => tl _ ?_⟩
      · have : go RL[r] = false := by
          cases hq : go RL[r] with
          | false => rfl
          | true => exact absurd ((hgo _ (List.getElem_mem cr) p1).mp hq) (i32_nlt.mpr c)
        rw [this]
        rfl
      · rw [(hgo _ (List.getElem_mem cr) p1).mpr (i32_nle.mp c)]
        rfl
    subst cr
    have hg2 : ∀ q p, RL[q]? = some p → I2 20 q = bI (go p) := fun q p hq => hg2 q p (List.getElem?_eq_some_iff.mp hq).1 hq
    refine wLoop_ind (fun x h' => ∃ i I', i ≤ LB.length ∧ x = (m, s0, nI i) ∧ MR d h' m A S1 I' J ∧ (∀ k, k ≠ 21 → I' k = I2 k) ∧ ∀ j, j < i → I' 21 j = bI (sB j)) (fun x _ => LB.length + 1 - x.2.2.toNatClampNeg) ?_ _ _ ⟨0, I2, Nat.zero_le _, rfl, hM2, fun _ _ => rfl, fun q hq => absurd hq (Nat.not_lt_zero _)⟩
    rintro x h3 k2 ⟨i, I3, hi, rfl, hM3, ho3, hs3⟩ hk2
    show wc_LogCleanerModel_drop_106 d Q _ m s0 (nI i) h3
    have hI3 : MI S1 I3 J LB B RL E no DL := hI2.other (fun k _ h21 => ho3 k h21)
    obtain ⟨-, -, -, -, hR3, hB3, -⟩ := id hI3
    refine gs16 hM3 ?_
    refine ifle s16 hi (by omega) (fun ci => ?_) (fun ci => ?_)
    rotate_left
    · obtain ⟨-, -, f19⟩ := hB3 i LB[i] (List.getElem?_eq_getElem ci)
      have tl : ∀ v, v = bI (sB i) → wb_LogCleanerModel_drop_137 d (fun y0 y3 y4 h => k2 (y0, y3, y4) h) Q m s0 (nI i) v (nI i) (some (A 21)) h3 := fun v hv => by
        subst hv
        refine ⟨_, rfl, st21 hM3 (by omega) (bI_01 _) (fun h4 I4 hM4 hI4 => ?_)⟩
        refine hk2 _ _ ⟨i + 1, I4, ci, by rw [nI_1], hM4, fun k hk => by rw [hI4, u2_ne _ _ _ hk]; exact ho3 k hk, fun j hj => ?_⟩ (mdec ci (by omega))
        rw [hI4]
        by_cases cj : j = i
        · subst cj
          simp [u2]
        · simp only [u2, cj, and_false, if_false]
          exact hs3 j (by omega)
      refine ga21 hM3 ?_
      refine ga19 hM3 ⟨_, rfl, ld19 hM3 (by omega) ?_⟩
      rw [f19]
      refine ⟨fun c => tl _ ?_, fun c => tl _ ?_⟩
      · have : sB i = false := by
          cases hq : sB i with
          | false => rfl
          | true => exact absurd c (i32_nlt.mpr ((hsB i ci).mp hq))
        rw [this]
        rfl
      · rw [(hsB i ci).mpr (i32_nlt.mp c)]
        rfl
    subst ci
    refine isM hM3 ?_
    refine sp_mtake (sB := sB) (go := go) hM3 hI3 hr hb4 hs3 (fun r p hrp => by rw [ho3 20 (by decide)]; exact hg2 r p hrp) hp hv (fun h4 S4 I4 J4 hM4 h40 hI4 hJ4 => ?_)
    have hb5 : (fT sB LB).length ≤ LB.length := fT_len _ _
    obtain ⟨t1, t9, t10, t16, hR4, hB4, hD4⟩ := id hI4
    refine wLoop_ind (fun x h' => ∃ i I', i ≤ (fT sB LB).length ∧ x = (m, s0, nI (RL.length - (newR sB LB go RL).length), nI i) ∧ MR d h' m A S4 I' J4 ∧ (∀ k, k ≠ 19 → I' k = I4 k) ∧ (∀ j, i ≤ j → I' 19 j = I4 19 j) ∧ ∀ j c, j < i → (fT sB LB)[j]? = some c → I' 19 j = (B' c).2.2.2) (fun x _ => (fT sB LB).length + 1 - x.2.2.2.toNatClampNeg) ?_ _ _ ⟨0, I4, Nat.zero_le _, rfl, hM4, fun _ _ => rfl, fun _ _ => rfl, fun q c hq => absurd hq (Nat.not_lt_zero _)⟩
    rintro x h5 k3 ⟨i, I5, hi5, rfl, hM5, ho5, hr5, hs5⟩ hk3
    show wc_LogCleanerModel_drop_153 d Q _ m s0 (nI (RL.length - (newR sB LB go RL).length)) (nI i) h5
    refine gs16 hM5 ?_
    refine ifle t16 hi5 (by omega) (fun ci => ?_) (fun ci => ?_)
    · subst ci
      refine hQ c1 c2 h5 S4 I5 J4 hM5 (h40.trans h10) ⟨t1, t9, t10, t16, fun r p hp => ?_, fun r c hc => ?_, fun r p hp => ?_⟩ hJ4
      · rw [ho5 2 (by decide), ho5 3 (by decide), ho5 5 (by decide), ho5 6 (by decide), ho5 8 (by decide)]
        exact hR4 r p hp
      · obtain ⟨b1, b2, b3⟩ := hB4 r c hc
        obtain ⟨c1, c2, c3⟩ := hB' c (List.mem_of_getElem? hc)
        rw [ho5 17 (by decide), ho5 18 (by decide), c1, c2]
        exact ⟨b1, b2, hs5 r c (List.getElem?_eq_some_iff.mp hc).1 hc⟩
      · rw [ho5 12 (by decide), ho5 13 (by decide), ho5 15 (by decide)]
        exact hD4 r p hp
    · have hLi : (fT sB LB)[i]? = some (fT sB LB)[i] := List.getElem?_eq_getElem ci
      obtain ⟨-, -, f19⟩ := hB4 i _ hLi
      refine ga19 hM5 ⟨_, rfl, ld19 hM5 (by omega) ?_⟩
      rw [hr5 i (Nat.le_refl _), f19]
      refine st19 hM5 (by omega) (fun h6 I6 hM6 hI6 => ?_)
      refine hk3 _ _ ⟨i + 1, I6, ci, by rw [nI_1], hM6, fun k hk => by rw [hI6, u2_ne _ _ _ hk]; exact ho5 k hk, fun j hj => ?_, fun j c hj hc => ?_⟩ (mdec ci (by omega))
      · rw [hI6]
        have : ¬ j = i := by omega
        simp only [u2, this, and_false, if_false]
        exact hr5 j (by omega)
      · rw [hI6]
        by_cases cj : j = i
        · subst cj
          rw [hLi] at hc
          cases hc
          rw [(hB' _ (List.getElem_mem ci)).2.2]
          simp [u2]
        · simp only [u2, cj, and_false, if_false]
          exact hs5 j c (by omega) hc
  refine isM hM1 ?_
  refine sp_msegs hM1 s16 hB hb4 hl hl0 ?_
  rw [i32_addsub]
  have e0 : (0 : Int32).toInt = 0 := by decide
  have a1 := Int32.le_iff_toInt_le.mp c1
  have inc := i32_inc hls2 hls
  refine ⟨fun c3 => ?_, fun c3 => go _ ?_⟩
  · have a3 := Int32.le_iff_toInt_le.mp c3
    refine ⟨fun c4 => go _ ?_, fun c4 => go _ ?_⟩
    · have a4 := Int32.le_iff_toInt_le.mp c4
      have hneg : ls < 0 := Int32.lt_iff_toInt_lt.mpr (by omega)
      rw [hmn]
      unfold mny
      rw [if_pos hneg]
      by_cases c5 : 0 < n
      · rw [if_pos c5]
      · rw [if_neg c5]
        have a5 := Int32.le_iff_toInt_le.mp (i32_nlt.mp c5)
        exact Int32.toInt_inj.mp (by omega)
    · have a4 := Int32.lt_iff_toInt_lt.mp (i32_nle.mp c4)
      have hneg : ¬ ls < 0 := fun q => by
        have := Int32.lt_iff_toInt_lt.mp q
        omega
      rw [hmn]
      unfold mny
      rw [if_neg hneg]
      by_cases c5 : ls < n
      · rw [if_pos c5]
      · rw [if_neg c5]
        have a5 := Int32.le_iff_toInt_le.mp (i32_nlt.mp c5)
        exact Int32.toInt_inj.mp (by omega)
  · have a3 := Int32.lt_iff_toInt_lt.mp (i32_nle.mp c3)
    have hneg : ¬ ls < 0 := fun q => by
      have := Int32.lt_iff_toInt_lt.mp q
      omega
    rw [hmn]
    unfold mny
    rw [if_neg hneg, if_neg (fun q => by have := Int32.lt_iff_toInt_lt.mp q; omega)]
theorem sp_mcnt {w ls : Int32} {Q : Int32 → xw → Prop} (hM : MR d h m A S I J) (hI : MI S I J LB B RL E no DL) (hb4 : LB.length ≤ 400) (hl : ∀ b, LB[LB.length - 1]? = some b → (B b).2.2.2 = ls) (hl0 : LB = [] → ls = -1)
    (hIA : ¬ (0 ≤ w ∧ w ≤ 4) → ∀ h' S', MR d h' m A S' I J → S' 0 = 1 → MI S' I J LB B RL E no DL → Q 0 h')
    (hQ : 0 ≤ w → w ≤ 4 → ∀ h' S' v, MR d h' m A S' I J → S' 0 = 0 → MI S' I J LB B RL E no DL → v = (if w = 0 then nI RL.length else if w = 1 then nI LB.length else if w = 2 then ls + 1 else if w = 3 then nI DL.length else nI no) → Q v h') : wp_LogCleanerModel_count d h m w Q := by
  have ia : ¬ (0 ≤ w ∧ w ≤ 4) → wb_LogCleanerModel_count_10 d Q m w m h := fun bad => by
    refine sp_code hM hI (fun h1 S1 hM1 h10 hI1 => ?_)
    refine gs0 hM1 ?_
    rw [h10]
    exact ⟨fun q => absurd q (by decide), fun _ => hIA bad h1 S1 hM1 h10 hI1⟩
  unfold wp_LogCleanerModel_count
  refine ⟨fun c => ia (fun q => i32_nlt.mpr q.1 c), fun c1 => ?_⟩
  have c1 : 0 ≤ w := i32_nlt.mp c1
  refine ⟨fun c2 => ?_, fun c => ia (fun q => c q.2)⟩
  refine sp_code hM hI (fun h1 S1 hM1 h10 hI1 => ?_)
  refine gs0 hM1 ?_
  rw [h10]
  refine ⟨fun _ => ?_, fun q => absurd (by decide) q⟩
  obtain ⟨s1, s9, s10, s16, hR, hB, hD⟩ := id hI1
  have fin : ∀ v, v = (if w = 0 then nI RL.length else if w = 1 then nI LB.length else if w = 2 then ls + 1 else if w = 3 then nI DL.length else nI no) → Q v h1 := fun v hv => hQ c1 c2 h1 S1 v hM1 h10 hI1 hv
  refine ⟨fun d0 => gs1 hM1 (fin _ (by rw [if_pos d0]; exact s1)), fun d0 => ?_⟩
  refine ⟨fun d1 => gs16 hM1 (fin _ (by rw [if_neg d0, if_pos d1]; exact s16)), fun d1 => ?_⟩
  refine ⟨fun d2 => ?_, fun d2 => ?_⟩
  · refine isM hM1 (sp_msegs hM1 s16 hB hb4 hl hl0 (fin _ (by rw [if_neg d0, if_neg d1, if_pos d2])))
  refine ⟨fun d3 => gs10 hM1 (fin _ (by rw [if_neg d0, if_neg d1, if_neg d2, if_pos d3]; exact s10)), fun d3 => ?_⟩
  exact gs9 hM1 (fin _ (by rw [if_neg d0, if_neg d1, if_neg d2, if_neg d3]; exact s9))
theorem sp_mbatch {b w : Int32} {Q : Int32 → xw → Prop} (hM : MR d h m A S I J) (hI : MI S I J LB B RL E no DL) (hr : RL.length ≤ 4000) (hb4 : LB.length ≤ 400) (hp : ∀ p ∈ RL, p.1 < 400 ∧ -1 ≤ (E p.2).2.1) (hpr : ∀ b ∈ LB, -1 ≤ (B b).2.1)
    (hIA : (b < 0 ∨ nI LB.length ≤ b ∨ w < 0 ∨ ¬ w ≤ 5) → ∀ h' S', MR d h' m A S' I J → S' 0 = 1 → MI S' I J LB B RL E no DL → Q 0 h')
    (hQ : ∀ i (hi : i < LB.length), b = nI i → 0 ≤ w → w ≤ 5 → ∀ h' S' v, MR d h' m A S' I J → S' 0 = 0 → MI S' I J LB B RL E no DL → v = (if w = 0 then (B LB[i]).1 else if w = 1 then nI (selI RL i).length else if w = 2 then (B LB[i]).2.1 else if w = 3 then bsz E (selI RL i) else if w = 4 then (B LB[i]).2.2.2 else bI (knownS B LB[i] (LB.drop (i + 1)))) → Q v h') : wp_LogCleanerModel_batch d h m b w Q := by
  have ia : (b < 0 ∨ nI LB.length ≤ b ∨ w < 0 ∨ ¬ w ≤ 5) → wb_LogCleanerModel_batch_22 d Q m b w m h := fun bad => by
    refine sp_code hM hI (fun h1 S1 hM1 h10 hI1 => ?_)
    refine gs0 hM1 ?_
    rw [h10]
    exact ⟨fun q => absurd q (by decide), fun _ => hIA bad h1 S1 hM1 h10 hI1⟩
  unfold wp_LogCleanerModel_batch
  refine ⟨fun c => ia (Or.inl c), fun c1 => ?_⟩
  refine gs16 hM ?_
  rw [hI.2.2.2.1]
  refine ⟨fun c => ia (Or.inr (Or.inl c)), fun c2 => ?_⟩
  refine ⟨fun c => ia (Or.inr (Or.inr (Or.inl c))), fun c3 => ?_⟩
  refine ⟨fun c4 => ?_, fun c => ia (Or.inr (Or.inr (Or.inr c)))⟩
  obtain ⟨i, hi0, hbi⟩ := nI_of c1
  have hi : i < LB.length := by
    rw [hbi] at c2
    rcases Nat.lt_or_ge i LB.length with q | q
    · exact q
    · exact absurd ((nI_leI (by omega) hi0).mpr q) c2
  refine sp_code hM hI (fun h1 S1 hM1 h10 hI1 => ?_)
  refine gs0 hM1 ?_
  rw [h10]
  refine ⟨fun _ => ?_, fun q => absurd (by decide) q⟩
  obtain ⟨s1, s9, s10, s16, hR, hB, hD⟩ := id hI1
  obtain ⟨f17, f18, f19⟩ := hB i LB[i] (List.getElem?_eq_getElem hi)
  have fin : ∀ v, v = (if w = 0 then (B LB[i]).1 else if w = 1 then nI (selI RL i).length else if w = 2 then (B LB[i]).2.1 else if w = 3 then bsz E (selI RL i) else if w = 4 then (B LB[i]).2.2.2 else bI (knownS B LB[i] (LB.drop (i + 1)))) → Q v h1 := fun v hv => hQ i hi hbi (i32_nlt.mp c3) c4 h1 S1 v hM1 h10 hI1 hv
  rw [hbi]
  refine ⟨fun e => ?_, fun e => ?_, fun e => ?_, fun e => ?_, fun e => ?_, fun e => ?_⟩
  · refine ga17 hM1 ⟨_, rfl, ld17 hM1 (by omega) (fin _ ?_)⟩
    rw [if_pos e, f17]
  · refine isM hM1 (sp_mcount hM1 s1 hR hr (by omega) (fun p hq => (hp p hq).1) (fin _ ?_))
    rw [e]
    rfl
  · refine ga18 hM1 ⟨_, rfl, ld18 hM1 (by omega) (fin _ ?_)⟩
    rw [e, f18]
    rfl
  · refine isM hM1 (sp_msize hM1 s1 hR hr (by omega) hp (fin _ ?_))
    rw [e]
    rfl
  · refine ga19 hM1 ⟨_, rfl, ld19 hM1 (by omega) (fin _ ?_)⟩
    rw [e, f19]
    rfl
  · have n0 : ∀ k : Int32, k.toInt ≥ 0 → k.toInt ≤ 4 → w ≠ k := fun k h1 h2 q => by
      rw [q] at e
      omega
    rw [if_neg (n0 0 (by decide) (by decide)), if_neg (n0 1 (by decide) (by decide)), if_neg (n0 2 (by decide) (by decide)), if_neg (n0 3 (by decide) (by decide)), if_neg (n0 4 (by decide) (by decide))] at fin
    refine isM hM1 (sp_mknown hM1 s16 hB hb4 hi hpr (fun c => ?_) (fun c => ?_))
    · exact ⟨fun q => absurd q (by decide), fun _ => fin _ (by rw [c]; rfl)⟩
    · exact ⟨fun _ => fin _ (by rw [c]; rfl), fun q => absurd rfl q⟩
theorem sp_mtold {r w : Int32} {Q : Int64 → xw → Prop} (hM : MR d h m A S I J) (hI : MI S I J LB B RL E no DL) (hr : RL.length ≤ 4000)
    (hIA : (r < 0 ∨ nI RL.length ≤ r ∨ w < 0 ∨ ¬ w ≤ 5) → ∀ h' S', MR d h' m A S' I J → S' 0 = 1 → MI S' I J LB B RL E no DL → Q 0 h')
    (hQ : ∀ i p, RL[i]? = some p → r = nI i → 0 ≤ w → w ≤ 5 → ∀ h' S' v, MR d h' m A S' I J → S' 0 = 0 → MI S' I J LB B RL E no DL → v = (if w = 0 then (E p.2).2.2.2.2.2.1.toInt64 else if w = 1 then (E p.2).2.1.toInt64 else if w = 2 then (E p.2).1 else if w = 3 then (E p.2).2.2.2.1 else if w = 4 then (if (E p.2).2.2.1 = 0 then 0 else 1) else (E p.2).2.2.2.2.1.toInt64) → Q v h') : wp_LogCleanerModel_told d h m r w Q := by
  have ia : (r < 0 ∨ nI RL.length ≤ r ∨ w < 0 ∨ ¬ w ≤ 5) → wb_LogCleanerModel_told_22 d Q m r w m h := fun bad => by
    refine sp_code hM hI (fun h1 S1 hM1 h10 hI1 => ?_)
    refine gs0 hM1 ?_
    rw [h10]
    exact ⟨fun q => absurd q (by decide), fun _ => hIA bad h1 S1 hM1 h10 hI1⟩
  unfold wp_LogCleanerModel_told
  refine ⟨fun c => ia (Or.inl c), fun c1 => ?_⟩
  refine gs1 hM ?_
  rw [hI.1]
  refine ⟨fun c => ia (Or.inr (Or.inl c)), fun c2 => ?_⟩
  refine ⟨fun c => ia (Or.inr (Or.inr (Or.inl c))), fun c3 => ?_⟩
  refine ⟨fun c4 => ?_, fun c => ia (Or.inr (Or.inr (Or.inr c)))⟩
  obtain ⟨i, hi0, hbi⟩ := nI_of c1
  have hi : i < RL.length := by
    rw [hbi] at c2
    rcases Nat.lt_or_ge i RL.length with q | q
    · exact q
    · exact absurd ((nI_leI (by omega) hi0).mpr q) c2
  refine sp_code hM hI (fun h1 S1 hM1 h10 hI1 => ?_)
  refine gs0 hM1 ?_
  rw [h10]
  refine ⟨fun _ => ?_, fun q => absurd (by decide) q⟩
  obtain ⟨s1, s9, s10, s16, hR, hB, hD⟩ := id hI1
  have hrp : RL[i]? = some RL[i] := List.getElem?_eq_getElem hi
  obtain ⟨f2, f3, f4, f5, f6, f7, f8⟩ := hR i _ hrp
  have fin : ∀ v, v = (if w = 0 then (E RL[i].2).2.2.2.2.2.1.toInt64 else if w = 1 then (E RL[i].2).2.1.toInt64 else if w = 2 then (E RL[i].2).1 else if w = 3 then (E RL[i].2).2.2.2.1 else if w = 4 then (if (E RL[i].2).2.2.1 = 0 then 0 else 1) else (E RL[i].2).2.2.2.2.1.toInt64) → Q v h1 := fun v hv => hQ i _ hrp hbi (i32_nlt.mp c3) c4 h1 S1 v hM1 h10 hI1 hv
  rw [hbi]
  refine ⟨fun e => ?_, fun e => ?_, fun e => ?_, fun e => ?_, fun e => ?_, fun e => ?_⟩
  · refine ga3 hM1 ⟨_, rfl, ld3 hM1 (by omega) (fin _ ?_)⟩
    rw [if_pos e, f3]
  · refine ga5 hM1 ⟨_, rfl, ld5 hM1 (by omega) (fin _ ?_)⟩
    rw [e, f5]
    rfl
  · refine ga4 hM1 ⟨_, rfl, ld4 hM1 (by omega) (fin _ ?_)⟩
    rw [e, f4]
    rfl
  · refine ga7 hM1 ⟨_, rfl, ld7 hM1 (by omega) (fin _ ?_)⟩
    rw [e, f7]
    rfl
  · refine ga6 hM1 ⟨_, rfl, ld6 hM1 (by omega) ?_⟩
    rw [f6]
    rw [e] at fin
    refine ⟨fun q => fin _ ?_, fun q => fin _ ?_⟩
    · rw [if_pos q]
      rfl
    · rw [if_neg q]
      rfl
  · have n0 : ∀ k : Int32, k.toInt ≥ 0 → k.toInt ≤ 4 → w ≠ k := fun k h1 h2 q => by
      rw [q] at e
      omega
    rw [if_neg (n0 0 (by decide) (by decide)), if_neg (n0 1 (by decide) (by decide)), if_neg (n0 2 (by decide) (by decide)), if_neg (n0 3 (by decide) (by decide)), if_neg (n0 4 (by decide) (by decide))] at fin
    refine ga8 hM1 ⟨_, rfl, ld8 hM1 (by omega) (fin _ ?_)⟩
    rw [f8]
theorem sp_mlatest {k : Int64} {kb : Int32} {Q : Int32 → xw → Prop} (hM : MR d h m A S I J) (hI : MI S I J LB B RL E no DL) (hr : RL.length ≤ 4000)
    (hIA : (kb < 0 ∨ ¬ kb ≤ 8) → ∀ h' S', MR d h' m A S' I J → S' 0 = 1 → MI S' I J LB B RL E no DL → Q 0 h')
    (hQ : 0 ≤ kb → kb ≤ 8 → ∀ h' S' v, MR d h' m A S' I J → S' 0 = 0 → MI S' I J LB B RL E no DL → (∀ e, lastK E (lowB k kb) kb (RL.map (fun p => p.2)) = some e → v = (E e).2.2.2.2.2.1) → (lastK E (lowB k kb) kb (RL.map (fun p => p.2)) = none → v = -1) → Q v h') : wp_LogCleanerModel_latest d h m k kb Q := by
  have ia : (kb < 0 ∨ ¬ kb ≤ 8) → wb_LogCleanerModel_latest_11 d Q m k kb m h := fun bad => by
    refine sp_code hM hI (fun h1 S1 hM1 h10 hI1 => ?_)
    refine gs0 hM1 ?_
    rw [h10]
    exact ⟨fun q => absurd q (by decide), fun _ => hIA bad h1 S1 hM1 h10 hI1⟩
  unfold wp_LogCleanerModel_latest
  refine ⟨fun c => ia (Or.inl c), fun c1 => ?_⟩
  have c1 : 0 ≤ kb := i32_nlt.mp c1
  refine ⟨fun c2 => ?_, fun c => ia (Or.inr c)⟩
  refine sp_code hM hI (fun h1 S1 hM1 h10 hI1 => ?_)
  refine gs0 hM1 ?_
  rw [h10]
  refine ⟨fun _ => ?_, fun q => absurd (by decide) q⟩
  obtain ⟨s1, s9, s10, s16, hR, hB, hD⟩ := id hI1
  have hm1 : (-1 : Int32) ≤ kb := Int32.le_iff_toInt_le.mpr (by
    have := Int32.le_iff_toInt_le.mp c1
    have e0 : (0 : Int32).toInt = 0 := by decide
    have e1 : (-1 : Int32).toInt = -1 := by decide
    omega)
  refine gs1 hM1 ?_
  rw [s1]
  refine wLoop_ind (fun x h' => h' = h1 ∧ ∃ j, j ≤ RL.length ∧ x = (m, k, kb, nI j - 1) ∧ lastK E (lowB k kb) kb ((RL.take j).map (fun p => p.2)) = lastK E (lowB k kb) kb (RL.map (fun p => p.2))) (fun x _ => (x.2.2.2 + 1).toNatClampNeg) ?_ _ _ ⟨rfl, RL.length, Nat.le_refl _, rfl, by rw [List.take_length]⟩
  rintro x h2 kk ⟨rfl, j, hj, rfl, hla⟩ hk
  show wc_LogCleanerModel_latest_36 d Q _ m k kb (nI j - 1) h2
  cases j with
  | zero =>
    refine ⟨fun _ => ?_, fun c => absurd (by decide) c⟩
    rw [List.take_zero] at hla
    refine hQ c1 c2 h2 S1 _ hM1 h10 hI1 (fun e he => ?_) (fun _ => rfl)
    rw [← hla] at he
    cases he
  | succ j =>
    rw [nI_pred]
    refine ⟨fun c => absurd c (nI_pos (by omega)), fun _ => ?_⟩
    have hjr : RL[j]? = some RL[j] := List.getElem?_eq_getElem (by omega)
    obtain ⟨f2, f3, f4, f5, f6, f7, f8⟩ := hR j _ hjr
    rw [List.take_succ_eq_append_getElem (by omega), List.map_append] at hla
    have hla : lastK E (lowB k kb) kb ((RL.take j).map (fun p => p.2) ++ [RL[j].2]) = lastK E (lowB k kb) kb (RL.map (fun p => p.2)) := hla
    rw [lastK_snoc] at hla
    have nxt : ¬ isK E (lowB k kb) kb RL[j].2 = true → wb_LogCleanerModel_latest_76 d (fun y0 y1 y3 y4 h => kk (y0, y1, y3, y4) h) Q m k kb (nI j) h2 := fun hn => by
      rw [if_neg hn] at hla
      refine hk _ _ ⟨rfl, j, by omega, by rw [i32_m1], hla⟩ ?_
      show (nI j + -1 + 1).toNatClampNeg < (nI (j + 1) - 1 + 1).toNatClampNeg
      rw [i32_m1, nI_pred, nI_1, nI_clamp (by omega)]
      have : nI j - 1 + 1 = nI j := by rw [← i32_m1, Int32.add_assoc]; exact Int32.add_zero _
      rw [this, nI_clamp (by omega)]
      omega
    refine ga5 hM1 ⟨_, rfl, ld5 hM1 (by omega) ?_⟩
    rw [f5]
    refine ⟨fun c => ?_, fun c => nxt (fun q => c (isK_iff.mp q).2)⟩
    refine ga4 hM1 ⟨_, rfl, ld4 hM1 (by omega) ?_⟩
    refine sp_mlow hm1 c2 ?_
    rw [f4]
    refine ⟨fun c3 => ?_, fun c3 => nxt (fun q => c3 (cmp0.mpr (isK_iff.mp q).1))⟩
    rw [if_pos (isK_iff.mpr ⟨cmp0.mp c3, c⟩)] at hla
    refine ga3 hM1 ⟨_, rfl, ld3 hM1 (by omega) ?_⟩
    refine hQ c1 c2 h2 S1 _ hM1 h10 hI1 (fun e he => ?_) (fun he => ?_)
    · rw [← hla] at he
      cases he
      exact f3
    · rw [← hla] at he
      cases he
end MDROP
