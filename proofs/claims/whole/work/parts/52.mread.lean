/-! what the reference's arrays hold, and its reading methods -/
def RecOK (I : Nat → Nat → Int32) (J : Nat → Nat → Int64) (RL : List (Nat × Nat)) (E : Nat → EV) : Prop := ∀ r p, RL[r]? = some p → I 2 r = nI p.1 ∧ I 3 r = (E p.2).2.2.2.2.2.1 ∧ J 4 r = (E p.2).1 ∧ I 5 r = (E p.2).2.1 ∧ I 6 r = (E p.2).2.2.1 ∧ J 7 r = (E p.2).2.2.2.1 ∧ I 8 r = (E p.2).2.2.2.2.1
def BatOK (I : Nat → Nat → Int32) (LB : List Nat) (B : Nat → BF) : Prop := ∀ i b, LB[i]? = some b → I 17 i = (B b).1 ∧ I 18 i = (B b).2.1 ∧ I 19 i = (B b).2.2.2
def DrOK (I : Nat → Nat → Int32) (J : Nat → Nat → Int64) (DL : List Nat) (E : Nat → EV) : Prop := ∀ r e, DL[r]? = some e → J 11 r = (E e).1 ∧ I 12 r = (E e).2.1 ∧ I 13 r = (E e).2.2.1 ∧ J 14 r = (E e).2.2.2.1 ∧ I 15 r = (E e).2.2.2.2.1
def MI (S : Nat → Int32) (I : Nat → Nat → Int32) (J : Nat → Nat → Int64) (LB : List Nat) (B : Nat → BF) (RL : List (Nat × Nat)) (E : Nat → EV) (no : Nat) (DL : List Nat) : Prop :=
  S 1 = nI RL.length ∧ S 9 = nI no ∧ S 10 = nI DL.length ∧ S 16 = nI LB.length ∧ RecOK I J RL E ∧ BatOK I LB B ∧ DrOK I J DL E
def bI (b : Bool) : Int32 := if b = true then 1 else 0
theorem bI_0 {b : Bool} : bI b = 0 ↔ b = false := by cases b <;> decide
theorem bI_01 (b : Bool) : bI b = 0 ∨ bI b = 1 := by cases b <;> decide
theorem ifle {v : Int32} {n r : Nat} {P Q : Prop} (hv : v = nI n) (hr : r ≤ n) (hn : n < 2 ^ 31) (hp : r = n → P) (hq : r < n → Q) : wIf (v ≤ nI r) P Q := by
  subst hv
  refine ⟨fun c => hp ?_, fun c => hq ?_⟩
  · have := (nI_leI (by omega) (by omega)).mp c
    omega
  · rcases Nat.lt_or_ge r n with h | h
    · exact h
    · exact absurd ((nI_leI (by omega) (by omega)).mpr h) c
theorem mdec {n r : Nat} (hr : r < n) (hn : n < 2 ^ 31) : n + 1 - (nI r + 1).toNatClampNeg < n + 1 - (nI r).toNatClampNeg := by
  rw [nI_1, nI_clamp (by omega), nI_clamp (by omega)]
  omega
/-- the records of batch i -/
def selI (RL : List (Nat × Nat)) (i : Nat) : List Nat := (RL.filter (fun p => decide (p.1 = i))).map (fun p => p.2)
theorem selI_snoc (RL : List (Nat × Nat)) (i : Nat) (p : Nat × Nat) : selI (RL ++ [p]) i = if p.1 = i then selI RL i ++ [p.2] else selI RL i := by
  unfold selI
  rw [List.filter_append, List.map_append]
  by_cases c : p.1 = i
  · rw [if_pos c]; simp [c]
  · rw [if_neg c]; simp [c]
theorem selI_len (RL : List (Nat × Nat)) (i : Nat) : (selI RL i).length ≤ RL.length := by
  unfold selI
  rw [List.length_map]
  exact List.length_filter_le _ _
theorem bsz_snoc (E : Nat → EV) (l : List Nat) (e : Nat) : bsz E (l ++ [e]) = bsz E l + esz (E e) := by
  unfold bsz
  rw [List.foldl_append]
  rfl
section MREAD
variable {d : Nat → ClassId} {h : xw} {m : Nat} {A : Nat → Nat} {S : Nat → Int32} {I : Nat → Nat → Int32} {J : Nat → Nat → Int64} {RL : List (Nat × Nat)} {E : Nat → EV} {LB : List Nat} {B : Nat → BF} {Q : Int32 → xw → Prop}
theorem sp_msize (hM : MR d h m A S I J) (h1 : S 1 = nI RL.length) (hR : RecOK I J RL E) (hn : RL.length ≤ 4000) {i : Nat} (hi : i < 2 ^ 31) (hp : ∀ p ∈ RL, p.1 < 400 ∧ -1 ≤ (E p.2).2.1) (hQ : Q (bsz E (selI RL i)) h) : wp_LogCleanerModel_sizeOf d h m (nI i) Q := by
  unfold wp_LogCleanerModel_sizeOf
  refine wLoop_ind (fun x h' => h' = h ∧ ∃ r, r ≤ RL.length ∧ x = (m, nI i, bsz E (selI (RL.take r) i), nI r)) (fun x _ => RL.length + 1 - x.2.2.2.toNatClampNeg) ?_ _ _ ⟨rfl, 0, Nat.zero_le _, rfl⟩
  rintro x h' k ⟨rfl, r, hr, rfl⟩ hk
  show wc_LogCleanerModel_sizeOf_5 d Q _ m (nI i) (bsz E (selI (RL.take r) i)) (nI r) h'
  refine gs1 hM ?_
  refine ifle h1 hr (by omega) (fun c => ?_) (fun c => ?_)
  · rw [c, List.take_length]
    exact hQ
  obtain ⟨f2, f3, f4, f5, f6, f7, f8⟩ := hR r RL[r] (List.getElem?_eq_getElem c)
  obtain ⟨q1, q2⟩ := hp RL[r] (List.getElem_mem c)
  have nxt : ∀ z, z = bsz E (selI (RL.take (r + 1)) i) → k (m, nI i, z, nI r + 1) h' := fun z hz => by
    subst hz
    exact hk _ _ ⟨rfl, r + 1, c, by rw [nI_1]⟩ (mdec c (by omega))
  rw [List.take_succ_eq_append_getElem c, selI_snoc] at nxt
  refine ga2 hM ⟨_, rfl, ld2 hM (by omega) ?_⟩
  rw [f2]
  refine ⟨fun c2 => ?_, fun c2 => ?_⟩
  · have c2 := (nI_eq (by omega) hi).mp c2
    rw [if_pos c2, bsz_snoc] at nxt
    have tl : ∀ s0, s0 = (if (E RL[r].2).2.1 = -1 then 0 else (E RL[r].2).2.1) → wb_LogCleanerModel_sizeOf_45 d (fun y0 y1 y2 y3 h => k (y0, y1, y2, y3) h) Q m (nI i) (nI r) s0 8 (bsz E (selI (RL.take r) i)) h' := fun s0 hs0 => by
      refine ga6 hM ⟨_, rfl, ld6 hM (by omega) ?_⟩
      rw [f6]
      refine ⟨fun c3 => nxt _ ?_, fun c3 => nxt _ ?_⟩
      · unfold esz
        rw [hs0, if_pos c3]
      · unfold esz
        rw [hs0, if_neg c3]
    refine ga5 hM ⟨_, rfl, ld5 hM (by omega) ?_⟩
    rw [f5]
    refine ⟨fun c3 => tl _ ?_, fun c3 => ?_⟩
    · by_cases c4 : (E RL[r].2).2.1 = -1
      · rw [if_pos c4]
      · rw [if_neg c4]
        have a1 := Int32.le_iff_toInt_le.mp c3
        have a2 := Int32.le_iff_toInt_le.mp q2
        have a3 : (E RL[r].2).2.1.toInt ≠ (-1 : Int32).toInt := fun q => c4 (Int32.toInt_inj.mp q)
        have e1 : (-1 : Int32).toInt = -1 := by decide
        have e2 : (0 : Int32).toInt = 0 := by decide
        exact Int32.toInt_inj.mp (by omega)
    · refine ga5 hM ⟨_, rfl, ld5 hM (by omega) ?_⟩
      rw [f5]
      refine tl _ ?_
      rw [if_neg (fun q => c3 (by rw [q]; decide))]
  · rw [if_neg (fun q => c2 (by rw [q]))] at nxt
    exact nxt _ rfl
theorem sp_mcount (hM : MR d h m A S I J) (h1 : S 1 = nI RL.length) (hR : RecOK I J RL E) (hn : RL.length ≤ 4000) {i : Nat} (hi : i < 2 ^ 31) (hp : ∀ p ∈ RL, p.1 < 400) (hQ : Q (nI (selI RL i).length) h) : wp_LogCleanerModel_countOf d h m (nI i) Q := by
  unfold wp_LogCleanerModel_countOf
  refine wLoop_ind (fun x h' => h' = h ∧ ∃ r, r ≤ RL.length ∧ x = (m, nI i, nI (selI (RL.take r) i).length, nI r)) (fun x _ => RL.length + 1 - x.2.2.2.toNatClampNeg) ?_ _ _ ⟨rfl, 0, Nat.zero_le _, rfl⟩
  rintro x h' k ⟨rfl, r, hr, rfl⟩ hk
  show wc_LogCleanerModel_countOf_4 d Q _ m (nI i) (nI (selI (RL.take r) i).length) (nI r) h'
  refine gs1 hM ?_
  refine ifle h1 hr (by omega) (fun c => ?_) (fun c => ?_)
  · rw [c, List.take_length]
    exact hQ
  obtain ⟨f2, -⟩ := hR r RL[r] (List.getElem?_eq_getElem c)
  have q1 := hp RL[r] (List.getElem_mem c)
  have nxt : ∀ z, z = nI (selI (RL.take (r + 1)) i).length → k (m, nI i, z, nI r + 1) h' := fun z hz => by
    subst hz
    exact hk _ _ ⟨rfl, r + 1, c, by rw [nI_1]⟩ (mdec c (by omega))
  rw [List.take_succ_eq_append_getElem c, selI_snoc] at nxt
  refine ga2 hM ⟨_, rfl, ld2 hM (by omega) ?_⟩
  rw [f2]
  refine ⟨fun c2 => nxt _ ?_, fun c2 => nxt _ ?_⟩
  · have c2 := (nI_eq (by omega) hi).mp c2
    rw [if_pos c2, nI_1, List.length_append, List.length_singleton]
  · rw [if_neg (fun q => c2 (by rw [q]))]
    exact Int32.add_zero _
theorem sp_mclosed (hM : MR d h m A S I J) (h16 : S 16 = nI LB.length) (hB : BatOK I LB B) (hn : LB.length ≤ 400) {i : Nat} (hi : i < LB.length) {ls : Int32} (hl : ∀ b, LB[LB.length - 1]? = some b → (B b).2.2.2 = ls) (hQ1 : (B LB[i]).2.2.2 ≠ ls → Q 1 h) (hQ0 : (B LB[i]).2.2.2 = ls → Q 0 h) : wp_LogCleanerModel_isClosed d h m (nI i) Q := by
  have hlt : LB.length - 1 < LB.length := by omega
  have hl := hl _ (List.getElem?_eq_getElem hlt)
  obtain ⟨-, -, f3⟩ := hB i LB[i] (List.getElem?_eq_getElem hi)
  obtain ⟨-, -, g3⟩ := hB (LB.length - 1) _ (List.getElem?_eq_getElem hlt)
  unfold wp_LogCleanerModel_isClosed
  refine ga19 hM ⟨_, rfl, ld19 hM (by omega) ?_⟩
  refine ga19 hM ?_
  refine gs16 hM ?_
  rw [h16, show nI LB.length - 1 = nI (LB.length - 1) from pk_sub (a := LB.length) (b := 1) (by omega)]
  refine ⟨_, rfl, ld19 hM (by omega) ?_⟩
  rw [f3, g3, hl]
  refine ⟨fun c => ⟨Or.inl rfl, hQ0 c⟩, fun c => ⟨Or.inr rfl, hQ1 c⟩⟩
theorem sp_mknown (hM : MR d h m A S I J) (h16 : S 16 = nI LB.length) (hB : BatOK I LB B) (hn : LB.length ≤ 400) {i : Nat} (hi : i < LB.length) (hp : ∀ b ∈ LB, -1 ≤ (B b).2.1) (hQ1 : knownS B LB[i] (LB.drop (i + 1)) = true → Q 1 h) (hQ0 : knownS B LB[i] (LB.drop (i + 1)) = false → Q 0 h) : wp_LogCleanerModel_isKnown d h m (nI i) Q := by
  obtain ⟨-, f2, -⟩ := hB i LB[i] (List.getElem?_eq_getElem hi)
  have hpi := hp LB[i] (List.getElem_mem hi)
  unfold wp_LogCleanerModel_isKnown
  refine wLoop_ind (fun y h' => h' = h ∧ ∃ j, i + 1 ≤ j ∧ j ≤ LB.length ∧ y = (m, nI i, nI ((((LB.drop (i + 1)).take (j - (i + 1))).filter (fun c => decide ((B c).2.1 = (B LB[i]).2.1))).length), nI j)) (fun y _ => LB.length + 1 - y.2.2.2.toNatClampNeg) ?_ _ _ ⟨rfl, i + 1, Nat.le_refl _, hi, by rw [← nI_1]; simp [nI_0]⟩
  rintro y h' k0 ⟨rfl, j, hj1, hj2, rfl⟩ hk
  have hcl : (((LB.drop (i + 1)).take (j - (i + 1))).filter (fun c => decide ((B c).2.1 = (B LB[i]).2.1))).length ≤ 400 := Nat.le_trans (List.length_filter_le _ _) (by rw [List.length_take, List.length_drop]; omega)
  show wc_LogCleanerModel_isKnown_6 d Q _ m (nI i) (nI (((LB.drop (i + 1)).take (j - (i + 1))).filter (fun c => decide ((B c).2.1 = (B LB[i]).2.1))).length) (nI j) h'
  refine gs16 hM ?_
  refine ifle h16 hj2 (by omega) (fun h3 => ?_) (fun hlt => ?_)
  · have h4 : (LB.drop (i + 1)).take (j - (i + 1)) = LB.drop (i + 1) := by
      rw [List.take_of_length_le]
      rw [List.length_drop]
      omega
    rw [h4] at hcl ⊢
    have e2 : (2 : Int32) = nI 2 := by decide
    refine ga18 hM ⟨_, rfl, ld18 hM (by omega) ?_⟩
    rw [f2]
    refine ⟨fun c => ?_, fun c => ?_⟩
    · have c1 : (B LB[i]).2.1 = -1 := by
        have a1 := Int32.le_iff_toInt_le.mp hpi
        have a2 := Int32.lt_iff_toInt_lt.mp c
        have e1 : (-1 : Int32).toInt = -1 := by decide
        have e2 : (0 : Int32).toInt = 0 := by decide
        exact Int32.toInt_inj.mp (by omega)
      exact ⟨Or.inl rfl, hQ0 (by simp [knownS, c1])⟩
    · have c1 : (B LB[i]).2.1 ≠ -1 := fun q => c (by rw [q]; decide)
      refine ⟨fun c3 => ?_, fun c3 => ?_⟩
      · rw [e2] at c3
        have h5 := (nI_leI (by omega) (by omega)).mp c3
        exact ⟨Or.inl rfl, hQ0 (by simp only [knownS, Bool.and_eq_false_iff, decide_eq_false_iff_not]; right; omega)⟩
      · rw [e2] at c3
        have h5 : ¬ 2 ≤ _ := fun q => c3 ((nI_leI (by omega) (by omega)).mpr q)
        exact ⟨Or.inr rfl, hQ1 (by simp only [knownS, Bool.and_eq_true, decide_eq_true_eq]; exact ⟨c1, by omega⟩)⟩
  · obtain ⟨-, g2, -⟩ := hB j LB[j] (List.getElem?_eq_getElem hlt)
    have hcut : (LB.drop (i + 1)).take (j + 1 - (i + 1)) = (LB.drop (i + 1)).take (j - (i + 1)) ++ [LB[j]] := by
      have e3 : j + 1 - (i + 1) = (j - (i + 1)) + 1 := by omega
      rw [e3, List.take_succ_eq_append_getElem (by rw [List.length_drop]; omega)]
      congr 2
      rw [List.getElem_drop]
      congr 1
      omega
    refine ga18 hM ⟨_, rfl, ld18 hM (by omega) ?_⟩
    refine ga18 hM ⟨_, rfl, ld18 hM (by omega) ?_⟩
    rw [f2, g2]
    refine ⟨fun c3 => ?_, fun c3 => ?_⟩
    · refine hk _ _ ⟨rfl, j + 1, by omega, hlt, ?_⟩ (mdec hlt (by omega))
      rw [hcut, List.filter_append, ← nI_1 j]
      simp [c3, ← nI_1]
    · refine hk _ _ ⟨rfl, j + 1, by omega, hlt, ?_⟩ (mdec hlt (by omega))
      rw [hcut, List.filter_append, ← nI_1 j]
      simp [c3]
theorem sp_mover (hM : MR d h m A S I J) (h1 : S 1 = nI RL.length) (h16 : S 16 = nI LB.length) (hR : RecOK I J RL E) (hB : BatOK I LB B) (hn : RL.length ≤ 4000) (hnB : LB.length ≤ 400) {r : Nat} (hr : r < RL.length) {p : Nat × Nat} (hrp : RL[r]? = some p) (hp : p.1 < LB.length) (hkb : -1 ≤ (E p.2).2.1) {ls : Int32} (hl : ∀ b, LB[LB.length - 1]? = some b → (B b).2.2.2 = ls) {now : Int32}
    (hsup : (E p.2).2.2.2.2.2.2 ≠ 0 ↔ (E p.2).2.1 ≠ -1 ∧ ∃ z ∈ RL.drop (r + 1), (E z.2).1 = (E p.2).1 ∧ (E z.2).2.1 = (E p.2).2.1)
    (hQ1 : ((B LB[p.1]).2.2.2 ≠ ls ∧ ego (now - 1000) (E p.2) = true) → Q 1 h) (hQ0 : ¬ ((B LB[p.1]).2.2.2 ≠ ls ∧ ego (now - 1000) (E p.2) = true) → Q 0 h) : wp_LogCleanerModel_isOver d h m (nI r) now Q := by
  obtain ⟨f2, f3, f4, f5, f6, f7, f8⟩ := hR r p hrp
  unfold wp_LogCleanerModel_isOver
  refine ga5 hM ⟨_, rfl, ld5 hM (by omega) ?_⟩
  rw [f5]
  refine ⟨fun c => ?_, fun c => ?_⟩
  · have c1 : (E p.2).2.1 = -1 := by
      have a1 := Int32.le_iff_toInt_le.mp hkb
      have a2 := Int32.lt_iff_toInt_lt.mp c
      have e1 : (-1 : Int32).toInt = -1 := by decide
      have e2 : (0 : Int32).toInt = 0 := by decide
      exact Int32.toInt_inj.mp (by omega)
    refine ⟨Or.inl rfl, hQ0 (fun q => ?_)⟩
    rcases ego_t.mp q.2 with q2 | q2
    · exact (hsup.mp q2).1 c1
    · exact q2.1 c1
  have c1 : (E p.2).2.1 ≠ -1 := fun q => c (by rw [q]; decide)
  refine ga2 hM ⟨_, rfl, ld2 hM (by omega) ?_⟩
  rw [f2]
  refine isM hM ?_
  refine sp_mclosed hM h16 hB hnB hp hl (fun cc => ?_) (fun cc => ⟨fun _ => ⟨Or.inl rfl, hQ0 (fun q => q.1 cc)⟩, fun q => absurd rfl q⟩)
  refine ⟨fun q => absurd q (by decide), fun _ => ?_⟩
  have fin : ∀ a : Bool, (a = true ↔ ∃ z ∈ RL.drop (r + 1), (E z.2).1 = (E p.2).1 ∧ (E z.2).2.1 = (E p.2).2.1) → wb_LogCleanerModel_isOver_89 d Q m (nI r) now (bI a) h := fun a ha => by
    refine ⟨fun c2 => ?_, fun c2 => ?_⟩
    · have c2 := bI_0.mp c2
      have nf : ¬ (E p.2).2.2.2.2.2.2 ≠ 0 := fun q => by
        have := ha.mpr (hsup.mp q).2
        rw [c2] at this
        cases this
      refine ga6 hM ⟨_, rfl, ld6 hM (by omega) ?_⟩
      rw [f6]
      refine ⟨fun c3 => ?_, fun c3 => ?_⟩
      · refine ga8 hM ⟨_, rfl, ld8 hM (by omega) ?_⟩
        rw [f8]
        refine ⟨fun c4 => ⟨Or.inl rfl, hQ0 (fun q => ?_)⟩, fun c4 => ⟨Or.inr rfl, hQ1 ⟨cc, ego_t.mpr (Or.inr ⟨c1, c3, i32_nlt.mp c4⟩)⟩⟩⟩
        rcases ego_t.mp q.2 with q2 | q2
        · exact nf q2
        · exact i32_nlt.mpr q2.2.2 c4
      · refine ⟨Or.inl rfl, hQ0 (fun q => ?_)⟩
        rcases ego_t.mp q.2 with q2 | q2
        · exact nf q2
        · exact c3 q2.2.1
    · have c2 : a = true := by
        cases a with
        | true => rfl
        | false => exact absurd rfl c2
      exact ⟨Or.inr rfl, hQ1 ⟨cc, ego_t.mpr (Or.inl (hsup.mpr ⟨c1, ha.mp c2⟩))⟩⟩
  refine wLoop_ind (fun y h' => h' = h ∧ ∃ q a, r + 1 ≤ q ∧ q ≤ RL.length ∧ y = (m, nI r, now, bI a, nI q) ∧ (a = true ↔ ∃ z ∈ (RL.drop (r + 1)).take (q - (r + 1)), (E z.2).1 = (E p.2).1 ∧ (E z.2).2.1 = (E p.2).2.1)) (fun y _ => RL.length + 1 - y.2.2.2.2.toNatClampNeg) ?_ _ _ ⟨rfl, r + 1, false, Nat.le_refl _, hr, by rw [← nI_1]; rfl, by simp⟩
  rintro y h' k0 ⟨rfl, q, a, hq1, hq2, rfl, ha⟩ hk
  show wc_LogCleanerModel_isOver_31 d Q _ m (nI r) now (bI a) (nI q) h'
  refine gs1 hM ?_
  refine ifle h1 hq2 (by omega) (fun c2 => ?_) (fun c2 => ?_)
  · refine fin a ?_
    rw [List.take_of_length_le (by rw [List.length_drop]; omega)] at ha
    exact ha
  have hcut : (RL.drop (r + 1)).take (q + 1 - (r + 1)) = (RL.drop (r + 1)).take (q - (r + 1)) ++ [RL[q]] := by
    have e3 : q + 1 - (r + 1) = (q - (r + 1)) + 1 := by omega
    rw [e3, List.take_succ_eq_append_getElem (by rw [List.length_drop]; omega)]
    congr 2
    rw [List.getElem_drop]
    congr 1
    omega
  refine ⟨fun c3 => ?_, fun c3 => ?_⟩
  · have c3 := bI_0.mp c3
    obtain ⟨g2, g3, g4, g5, g6, g7, g8⟩ := hR q RL[q] (List.getElem?_eq_getElem c2)
    have hno : ∀ z ∈ (RL.drop (r + 1)).take (q - (r + 1)), ¬ ((E z.2).1 = (E p.2).1 ∧ (E z.2).2.1 = (E p.2).2.1) := fun z hz e => by
      have := ha.mpr ⟨z, hz, e⟩
      rw [c3] at this
      cases this
    have nxt : ∀ a : Bool, (a = true ↔ (E RL[q].2).1 = (E p.2).1 ∧ (E RL[q].2).2.1 = (E p.2).2.1) → k0 (m, nI r, now, bI a, nI q + 1) h' := fun a ha => by
      refine hk _ _ ⟨rfl, q + 1, a, by omega, c2, by rw [nI_1], ?_⟩ (mdec c2 (by omega))
      rw [hcut]
      refine ha.trans ⟨fun e => ⟨RL[q], List.mem_append_right _ (List.mem_singleton.mpr rfl), e⟩, fun ⟨z, hz, e⟩ => ?_⟩
      rcases List.mem_append.mp hz with hz | hz
      · exact absurd e (hno z hz)
      · rw [List.mem_singleton.mp hz] at e
        exact e
    refine ga5 hM ⟨_, rfl, ld5 hM (by omega) ?_⟩
    refine ga5 hM ⟨_, rfl, ld5 hM (by omega) ?_⟩
    rw [f5, g5]
    refine ⟨fun c4 => ?_, fun c4 => ?_⟩
    · refine ga4 hM ⟨_, rfl, ld4 hM (by omega) ?_⟩
      refine ga4 hM ⟨_, rfl, ld4 hM (by omega) ?_⟩
      rw [f4, g4]
      refine ⟨fun c5 => ?_, fun c5 => ?_⟩
      · exact nxt true ⟨fun _ => ⟨cmp0.mp c5, c4⟩, fun _ => rfl⟩
      · exact nxt false ⟨fun q => (by cases q), fun q => absurd (cmp0.mpr q.1) c5⟩
    · exact nxt false ⟨fun q => (by cases q), fun q => absurd q.2 c4⟩
  · have c3 : a = true := by
      cases a with
      | true => rfl
      | false => exact absurd rfl c3
    refine fin a ⟨fun _ => ?_, fun _ => c3⟩
    obtain ⟨z, hz, e⟩ := ha.mp c3
    exact ⟨z, (List.take_sublist _ _).subset hz, e⟩
theorem sp_msegs (hM : MR d h m A S I J) (h16 : S 16 = nI LB.length) (hB : BatOK I LB B) (hn : LB.length ≤ 400) {ls : Int32} (hl : ∀ b, LB[LB.length - 1]? = some b → (B b).2.2.2 = ls) (h0 : LB = [] → ls = -1) (hQ : Q (ls + 1) h) : wp_LogCleanerModel_segments d h m Q := by
  unfold wp_LogCleanerModel_segments
  refine gs16 hM ?_
  rw [h16]
  refine ⟨fun c => ?_, fun c => ?_⟩
  · rw [← nI_0] at c
    have := (nI_eq (by omega) (by omega)).mp c
    rw [h0 (List.length_eq_zero_iff.mp this)] at hQ
    exact hQ
  · have h1 : 0 < LB.length := by
      rcases Nat.eq_zero_or_pos LB.length with q | q
      · rw [q] at c; exact absurd nI_0 c
      · exact q
    have hlt : LB.length - 1 < LB.length := by omega
    have hl := hl _ (List.getElem?_eq_getElem hlt)
    obtain ⟨-, -, g3⟩ := hB (LB.length - 1) _ (List.getElem?_eq_getElem hlt)
    refine ga19 hM ?_
    refine gs16 hM ?_
    rw [h16, show nI LB.length - 1 = nI (LB.length - 1) from pk_sub (a := LB.length) (b := 1) (by omega)]
    refine ⟨_, rfl, ld19 hM (by omega) ?_⟩
    rw [g3, hl]
    exact hQ
end MREAD
