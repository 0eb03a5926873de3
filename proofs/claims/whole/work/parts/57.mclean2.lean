def nlf (go : Nat × Nat → Bool) (RL : List (Nat × Nat)) (i : Nat) : Nat := (RL.filter (fun p => decide (p.1 = i) && !go p)).length
theorem nlf_snoc (go : Nat × Nat → Bool) (RL : List (Nat × Nat)) (i : Nat) (p : Nat × Nat) : nlf go (RL ++ [p]) i = if p.1 = i ∧ go p = false then nlf go RL i + 1 else nlf go RL i := by
  unfold nlf
  rw [List.filter_append, List.length_append]
  by_cases c : p.1 = i ∧ go p = false
  · rw [if_pos c]; simp [c.1, c.2]
  · rw [if_neg c]
    have : (decide (p.1 = i) && !go p) = false := by
      cases hq : go p <;> simp_all
    simp [this]
theorem nlf_le (go : Nat × Nat → Bool) (RL : List (Nat × Nat)) (i : Nat) : nlf go RL i ≤ RL.length := List.length_filter_le _ _
section MCLEAN2
variable {d : Nat → ClassId} {h : xw} {m : Nat} {A : Nat → Nat} {S : Nat → Int32} {I : Nat → Nat → Int32} {J : Nat → Nat → Int64} {RL : List (Nat × Nat)} {E : Nat → EV} {LB : List Nat} {B : Nat → BF} {no : Nat} {DL : List Nat}
theorem sp_mclean {now ls : Int32} {sB cB : Nat → Bool} {go : Nat × Nat → Bool} {Q : Int32 → xw → Prop} (hM : MR d h m A S I J) (hI : MI S I J LB B RL E no DL) (hr : RL.length ≤ 4000) (hb4 : LB.length ≤ 400) (hp : ∀ p ∈ RL, p.1 < LB.length ∧ -1 ≤ (E p.2).2.1) (hv : ∀ p ∈ RL, (E p.2).2.2.1 = 0 ∨ (E p.2).2.2.1 = 1) (hpr : ∀ b ∈ LB, -1 ≤ (B b).2.1) (hl : ∀ b, LB[LB.length - 1]? = some b → (B b).2.2.2 = ls)
    (hsup : ∀ r p, RL[r]? = some p → ((E p.2).2.2.2.2.2.2 ≠ 0 ↔ (E p.2).2.1 ≠ -1 ∧ ∃ z ∈ RL.drop (r + 1), (E z.2).1 = (E p.2).1 ∧ (E z.2).2.1 = (E p.2).2.1))
    (hgo : ∀ p ∈ RL, ∀ hb : p.1 < LB.length, (go p = true ↔ (B LB[p.1]).2.2.2 ≠ ls ∧ ego (now - 1000) (E p.2) = true))
    (hcB : ∀ i (hi : i < LB.length), (cB i = true ↔ (B LB[i]).2.2.2 ≠ ls))
    (hsB : ∀ i (hi : i < LB.length), (sB i = true ↔ cB i = false ∨ 0 < nlf go RL i ∨ knownS B LB[i] (LB.drop (i + 1)) = true))
    {L2 : List Nat} (hL2 : L2 = fT sB LB) {R2 : List (Nat × Nat)} (hR2 : R2 = newR sB LB go RL) {C : Nat} (hC : C = (fT (fun j => cB j && sB j) LB).length) (hC2 : C ≤ L2.length) {sz : Nat → Int32} (hp2 : ∀ p ∈ R2, p.1 < 400 ∧ -1 ≤ (E p.2).2.1) (hsz : ∀ i c, L2[i]? = some c → bsz E (selI R2 i) = sz c) {op : Int32}
    (hop : op = (((L2.take C).map sz).foldl plc (-1, 0)).1 + 1)
    (hIA : ¬ 0 ≤ now → ∀ h' S', MR d h' m A S' I J → S' 0 = 1 → MI S' I J LB B RL E no DL → Q 0 h')
    (hQ0 : 0 ≤ now → (∀ p ∈ RL, go p = false) → (∀ i, i < LB.length → sB i = true) → ∀ h' S' I', MR d h' m A S' I' J → S' 0 = 0 → MI S' I' J LB B RL E no DL → Q 0 h')
    (hQ1 : 0 ≤ now → ((∃ p ∈ RL, go p = true) ∨ ∃ i, i < LB.length ∧ sB i = false) → ∃ B' : Nat → BF, (∀ c ∈ L2, (B' c).1 = (B c).1 ∧ (B' c).2.1 = (B c).2.1) ∧ (L2.take C).map (fun b => (B' b).2.2.2) = segsOf (-1, 0) ((L2.take C).map sz) ∧ (∀ b ∈ L2.drop C, (B' b).2.2.2 = op) ∧ ∀ h' S' I' J', MR d h' m A S' I' J' → S' 0 = 0 → MI S' I' J' L2 B' R2 E no DL → J' 23 0 = J 23 0 → Q (nI (RL.length - R2.length)) h') : wp_LogCleanerModel_clean d h m now Q := by
  unfold wp_LogCleanerModel_clean
  refine ⟨fun c0 => ?_, fun c0 => ?_⟩
  rotate_left
  · refine sp_code hM hI (fun h1 S1 hM1 h10 hI1 => ?_)
    refine gs0 hM1 ?_
    rw [h10]
    exact ⟨fun q => absurd q (by decide), fun _ => hIA c0 h1 S1 hM1 h10 hI1⟩
  refine sp_code hM hI (fun h1 S1 hM1 h10 hI1 => ?_)
  refine gs0 hM1 ?_
  rw [h10]
  refine ⟨fun _ => ?_, fun q => absurd (by decide) q⟩
  obtain ⟨s1, s9, s10, s16, hR, hB, hD⟩ := id hI1
  -- which records go
  refine wLoop_ind (fun x h' => ∃ r any I', r ≤ RL.length ∧ x = (m, now, bI any, nI r) ∧ MR d h' m A S1 I' J ∧ (∀ k, k ≠ 20 → I' k = I k) ∧ (∀ q p, q < r → RL[q]? = some p → I' 20 q = bI (go p)) ∧ (any = true ↔ ∃ p ∈ RL.take r, go p = true)) (fun x _ => RL.length + 1 - x.2.2.2.toNatClampNeg) ?_ _ _ ⟨0, false, I, Nat.zero_le _, rfl, hM1, fun _ _ => rfl, fun q p hq => absurd hq (Nat.not_lt_zero _), by simp⟩
  rintro x h2 k ⟨r, any, I2, hr2, rfl, hM2, ho2, hg2, ha2⟩ hk
  show wc_LogCleanerModel_clean_26 d Q _ m now (bI any) (nI r) h2
  have hI2 : MI S1 I2 J LB B RL E no DL := hI1.other (fun k h20 _ => ho2 k h20)
  obtain ⟨-, -, -, -, hR2', hB2', -⟩ := id hI2
  refine gs1 hM2 ?_
  refine ifle s1 hr2 (by omega) (fun cr => ?_) (fun cr => ?_)
  rotate_left
  · have hrp : RL[r]? = some RL[r] := List.getElem?_eq_getElem cr
    obtain ⟨p1, p2⟩ := hp RL[r] (List.getElem_mem cr)
    refine ga20 hM2 ?_
    refine isM hM2 ?_
    have tl : ∀ v, v = bI (go RL[r]) → wnn (some (A 20)) fun p41 => wstz h2 p41 (d 4) (nI r) v fun h42 => wIf (bI any = 0) (wgA h42 m 4 20 fun r43 => wnn r43 fun p44 => wldi h42 p44 (d 4) (nI r) fun v45 => wIf (v45 = 0) (wb_LogCleanerModel_clean_64 d (fun y0 y1 y2 y3 h => k (y0, y1, y2, y3) h) Q m now (nI r) 0 h42) (wb_LogCleanerModel_clean_59 d (fun y0 y1 y2 y3 h => k (y0, y1, y2, y3) h) Q m now (nI r) h42)) (wb_LogCleanerModel_clean_59 d (fun y0 y1 y2 y3 h => k (y0, y1, y2, y3) h) Q m now (nI r) h42) := fun v hv => by
      subst hv
      refine ⟨_, rfl, st20 hM2 (by omega) (bI_01 _) (fun h3 I3 hM3 hI3 => ?_)⟩
      have nxt : ∀ a : Bool, a = (any || go RL[r]) → k (m, now, bI a, nI r + 1) h3 := fun a ha => by
        refine hk _ _ ⟨r + 1, a, I3, cr, by rw [nI_1], hM3, fun k hk => by rw [hI3, u2_ne _ _ _ hk]; exact ho2 k hk, fun q p hq hqp => ?_, ?_⟩ (mdec cr (by omega))
        · rw [hI3]
          by_cases cq : q = r
          · subst cq
            rw [hrp] at hqp
            cases hqp
            simp [u2]
          · simp only [u2, cq, and_false, if_false]
            exact hg2 q p (by omega) hqp
        · rw [ha, List.take_succ_eq_append_getElem cr, Bool.or_eq_true, ha2]
          constructor
          · rintro (⟨p, hp, e⟩ | e)
            · exact ⟨p, List.mem_append_left _ hp, e⟩
            · exact ⟨_, List.mem_append_right _ (List.mem_singleton.mpr rfl), e⟩
          · rintro ⟨p, hp, e⟩
            rcases List.mem_append.mp hp with hp | hp
            · exact Or.inl ⟨p, hp, e⟩
            · rw [List.mem_singleton.mp hp] at e
              exact Or.inr e
      refine ⟨fun c => ?_, fun c => ?_⟩
      · have c := bI_0.mp c
        refine ga20 hM3 ⟨_, rfl, ld20 hM3 (by omega) ?_⟩
        have z : I3 20 r = bI (go RL[r]) := by rw [hI3]; simp [u2]
        rw [z]
        refine ⟨fun c2 => ?_, fun c2 => ?_⟩
        · exact nxt false (by rw [c, bI_0.mp c2]; rfl)
        · refine nxt true ?_
          cases hg : go RL[r] with
          | true => rw [Bool.or_true]
          | false => rw [hg] at c2; exact absurd rfl c2
      · refine nxt true ?_
        cases any with
        | true => rfl
        | false => exact absurd rfl c
    refine sp_mover hM2 s1 s16 hR2' hB2' hr hb4 cr hrp p1 p2 hl (hsup r _ hrp) (fun q => tl _ ?_) (fun q => tl _ ?_)
    · rw [(hgo _ (List.getElem_mem cr) p1).mpr q]
      rfl
    · have : go RL[r] = false := by
        cases hg : go RL[r] with
        | true => exact absurd ((hgo _ (List.getElem_mem cr) p1).mp hg) q
        | false => rfl
      rw [this]
      rfl
  subst cr
  rw [List.take_length] at ha2
  have hg2 : ∀ q p, RL[q]? = some p → I2 20 q = bI (go p) := fun q p hq => hg2 q p (List.getElem?_eq_some_iff.mp hq).1 hq
  -- which batches stay
  have hfl : ∀ i, (fT (fun j => cB j && sB j) (LB.take i)).length ≤ 400 := fun i => Nat.le_trans (fT_len _ _) (by rw [List.length_take]; omega)
  refine wLoop_ind (fun x h' => ∃ i an I', i ≤ LB.length ∧ x = (m, bI an, nI (fT (fun j => cB j && sB j) (LB.take i)).length, nI i) ∧ MR d h' m A S1 I' J ∧ (∀ k, k ≠ 21 → I' k = I2 k) ∧ (∀ j, j < i → I' 21 j = bI (sB j)) ∧ (an = true ↔ any = true ∨ ∃ j, j < i ∧ sB j = false)) (fun x _ => LB.length + 1 - x.2.2.2.toNatClampNeg) ?_ _ _ ⟨0, any, I2, Nat.zero_le _, rfl, hM2, fun _ _ => rfl, fun j hj => absurd hj (Nat.not_lt_zero _), ⟨Or.inl, fun q => by rcases q with q | ⟨j, hj, -⟩; exact q; omega⟩⟩
  rintro x h3 k76 ⟨i, an, I3, hi, rfl, hM3, ho3, hs3, ha3⟩ hk76
  show wc_LogCleanerModel_clean_76 d Q _ m (bI an) (nI (fT (fun j => cB j && sB j) (LB.take i)).length) (nI i) h3
  have hI3 : MI S1 I3 J LB B RL E no DL := hI2.other (fun k _ h21 => ho3 k h21)
  obtain ⟨-, -, -, -, hR3, hB3, -⟩ := id hI3
  refine gs16 hM3 ?_
  refine ifle s16 hi (by omega) (fun ci => ?_) (fun ci => ?_)
  · subst ci
    refine ⟨fun c => ?_, fun c => ?_⟩
    · have c := bI_0.mp c
      refine hQ0 c0 (fun p hp => ?_) (fun i hi => ?_) h3 S1 I3 hM3 h10 hI3
      · cases hg : go p with
        | false => rfl
        | true =>
          have := ha3.mpr (Or.inl (ha2.mpr ⟨p, hp, hg⟩))
          rw [c] at this
          cases this
      · cases hg : sB i with
        | true => rfl
        | false =>
          have := ha3.mpr (Or.inr ⟨i, hi, hg⟩)
          rw [c] at this
          cases this
    · have c : an = true := by
        cases an with
        | true => rfl
        | false => exact absurd rfl c
      obtain ⟨B', hB0', hB1', hB2'', hQ'⟩ := hQ1 c0 (by
        rcases ha3.mp c with q | ⟨j, hj, e⟩
        · exact Or.inl (ha2.mp q)
        · exact Or.inr ⟨j, hj, e⟩)
      refine isM hM3 ?_
      refine sp_mtake (sB := sB) (go := go) hM3 hI3 hr hb4 hs3 (fun r p hrp => by rw [ho3 20 (by decide)]; exact hg2 r p hrp) (fun p hq => (hp p hq).1) hv (fun h4 S4 I4 J4 hM4 h40 hI4 hJ4 => ?_)
      rw [← hL2, ← hR2] at hI4
      rw [List.take_length, ← hC, ← hR2]
      have hr4 : R2.length ≤ RL.length := by rw [hR2]; exact newR_len _ _ _ _
      have hb5 : L2.length ≤ LB.length := by rw [hL2]; exact fT_len _ _
      exact sp_mpack hM4 hI4 (by omega) (by omega) hC2 hp2 hsz hop hB0' hB1' hB2'' (fun h5 I5 hM5 hI5 => hQ' h5 S4 I5 J4 hM5 (h40.trans h10) hI5 hJ4)
  -- how many records of batch i are left
  refine wLoop_ind (fun x h' => h' = h3 ∧ ∃ r, r ≤ RL.length ∧ x = (m, bI an, nI (fT (fun j => cB j && sB j) (LB.take i)).length, nI i, nI (nlf go (RL.take r) i), nI r)) (fun x _ => RL.length + 1 - x.2.2.2.2.2.toNatClampNeg) ?_ _ _ ⟨rfl, 0, Nat.zero_le _, rfl⟩
  rintro x h4 k91 ⟨rfl, r, hr4, rfl⟩ hk91
  show wc_LogCleanerModel_clean_91 d _ Q _ m (bI an) (nI (fT (fun j => cB j && sB j) (LB.take i)).length) (nI i) (nI (nlf go (RL.take r) i)) (nI r) h4
  refine gs1 hM3 ?_
  refine ifle s1 hr4 (by omega) (fun cr => ?_) (fun cr => ?_)
  rotate_left
  · have hrp : RL[r]? = some RL[r] := List.getElem?_eq_getElem cr
    obtain ⟨f2, -⟩ := hR3 r _ hrp
    have hpr1 := (hp RL[r] (List.getElem_mem cr)).1
    have nxt : ∀ z, z = nI (nlf go (RL.take (r + 1)) i) → k91 (m, bI an, nI (fT (fun j => cB j && sB j) (LB.take i)).length, nI i, z, nI r + 1) h4 := fun z hz => by
      subst hz
      exact hk91 _ _ ⟨rfl, r + 1, cr, by rw [nI_1]⟩ (mdec cr (by omega))
    rw [List.take_succ_eq_append_getElem cr, nlf_snoc] at nxt
    refine ga2 hM3 ⟨_, rfl, ld2 hM3 (by omega) ?_⟩
    rw [f2]
    refine ⟨fun c => ?_, fun c => nxt _ ?_⟩
    · have c := (nI_eq (by omega) (by omega)).mp c
      refine ga20 hM3 ⟨_, rfl, ld20 hM3 (by omega) ?_⟩
      rw [ho3 20 (by decide), hg2 r _ hrp]
      refine ⟨fun c2 => nxt _ ?_, fun c2 => nxt _ ?_⟩
      · rw [if_pos ⟨c, bI_0.mp c2⟩, nI_1]
      · rw [if_neg (fun q => c2 (bI_0.mpr q.2))]
        exact Int32.add_zero _
    · rw [if_neg (fun q => c (by rw [q.1]))]
      exact Int32.add_zero _
  subst cr
  rw [List.take_length]
  have hnl := nlf_le go RL i
  have tl : ∀ s0, s0 = bI (sB i) → wb_LogCleanerModel_clean_172 d (fun y0 y2 y3 y4 h => k76 (y0, y2, y3, y4) h) Q m (bI an) (nI (fT (fun j => cB j && sB j) (LB.take i)).length) (nI i) s0 (nI i) (some (A 21)) h4 := fun s0 hs0 => by
    subst hs0
    refine ⟨_, rfl, st21 hM3 (by omega) (bI_01 _) (fun h5 I5 hM5 hI5 => ?_)⟩
    have z21 : I5 21 i = bI (sB i) := by rw [hI5]; simp [u2]
    have hB5 : BatOK I5 LB B := fun r c hc => by
      rw [hI5]
      simp only [u2, Nat.reduceEqDiff, false_and, if_false]
      exact hB3 r c hc
    have cnt : ∀ a : Bool, a = (an || !sB i) → wb_LogCleanerModel_clean_192 d (fun y0 y2 y3 y4 h => k76 (y0, y2, y3, y4) h) Q m (nI (fT (fun j => cB j && sB j) (LB.take i)).length) (nI i) (bI a) h5 := fun a ha => by
      have nxt : ∀ z, z = nI (fT (fun j => cB j && sB j) (LB.take (i + 1))).length → k76 (m, bI a, z, nI i + 1) h5 := fun z hz => by
        subst hz
        refine hk76 _ _ ⟨i + 1, a, I5, ci, by rw [nI_1], hM5, fun k hk => by rw [hI5, u2_ne _ _ _ hk]; exact ho3 k hk, fun j hj => ?_, ?_⟩ (mdec ci (by omega))
        · by_cases cj : j = i
          · rw [cj]; exact z21
          · rw [hI5]
            simp only [u2, cj, and_false, if_false]
            exact hs3 j (by omega)
        · rw [ha, Bool.or_eq_true, ha3]
          constructor
          · rintro ((q | ⟨j, hj, e⟩) | q)
            · exact Or.inl q
            · exact Or.inr ⟨j, by omega, e⟩
            · exact Or.inr ⟨i, by omega, by simpa using q⟩
          · rintro (q | ⟨j, hj, e⟩)
            · exact Or.inl (Or.inl q)
            · by_cases cj : j = i
              · subst cj
                exact Or.inr (by rw [e]; rfl)
              · exact Or.inl (Or.inr ⟨j, by omega, e⟩)
      rw [List.take_succ_eq_append_getElem ci, fT_snoc, List.length_take, Nat.min_eq_left (by omega)] at nxt
      refine isM hM5 ?_
      refine sp_mclosed hM5 s16 hB5 hb4 ci hl (fun c => ?_) (fun c => ?_)
      · refine ⟨fun q => absurd q (by decide), fun _ => ?_⟩
        refine ga21 hM5 ⟨_, rfl, ld21 hM5 (by omega) ?_⟩
        rw [z21]
        refine ⟨fun c2 => nxt _ ?_, fun c2 => nxt _ ?_⟩
        · rw [bI_0.mp c2, if_neg (by simp)]
          exact Int32.add_zero _
        · have c2 : sB i = true := by
            cases hq : sB i with
            | true => rfl
            | false => rw [hq] at c2; exact absurd rfl c2
          rw [(hcB i ci).mpr c, c2, if_pos (by rfl), List.length_append, List.length_singleton, nI_1]
      · refine ⟨fun _ => nxt _ ?_, fun q => absurd rfl q⟩
        have : cB i = false := by
          cases hq : cB i with
          | true => exact absurd c ((hcB i ci).mp hq)
          | false => rfl
        rw [this, if_neg (by simp)]
        exact Int32.add_zero _
    refine ⟨fun c => ?_, fun c => ?_⟩
    · have c := bI_0.mp c
      refine ga21 hM5 ⟨_, rfl, ld21 hM5 (by omega) ?_⟩
      rw [z21]
      refine ⟨fun c2 => cnt true ?_, fun c2 => cnt false ?_⟩
      · rw [bI_0.mp c2]
        simp
      · have c2 : sB i = true := by
          cases hq : sB i with
          | true => rfl
          | false => rw [hq] at c2; exact absurd rfl c2
        rw [c, c2]
        rfl
    · refine cnt true ?_
      cases an with
      | true => rfl
      | false => exact absurd rfl c
  refine ga21 hM3 ?_
  refine isM hM3 ?_
  refine sp_mclosed hM3 s16 hB3 hb4 ci hl (fun c => ?_) (fun c => ?_)
  · refine ⟨fun q => absurd q (by decide), fun _ => ?_⟩
    have hcb : cB i = true := (hcB i ci).mpr c
    refine ⟨fun c2 => tl _ ?_, fun c2 => ?_⟩
    · rw [← nI_0] at c2
      have c2 := (nI_ltI (by omega) (by omega)).mp c2
      rw [(hsB i ci).mpr (Or.inr (Or.inl c2))]
      rfl
    have c2 : ¬ 0 < nlf go RL i := fun q => c2 (by rw [← nI_0]; exact nI_lt q (by omega))
    refine isM hM3 ?_
    refine sp_mknown hM3 s16 hB3 hb4 ci hpr (fun c3 => ?_) (fun c3 => ?_)
    · refine ⟨fun q => absurd q (by decide), fun _ => tl _ ?_⟩
      rw [(hsB i ci).mpr (Or.inr (Or.inr c3))]
      rfl
    · refine ⟨fun _ => tl _ ?_, fun q => absurd rfl q⟩
      have : sB i = false := by
        cases hq : sB i with
        | false => rfl
        | true =>
          rcases (hsB i ci).mp hq with q | q | q
          · rw [hcb] at q; cases q
          · exact absurd q c2
          · rw [c3] at q; cases q
      rw [this]
      rfl
  · refine ⟨fun _ => tl _ ?_, fun q => absurd rfl q⟩
    have hcb : cB i = false := by
      cases hq : cB i with
      | true => exact absurd c ((hcB i ci).mp hq)
      | false => rfl
    rw [(hsB i ci).mpr (Or.inl hcb)]
    rfl
end MCLEAN2
