/-! the reference's close -/
/-- what the open segment holds -/
def opn (B : Nat → BF) (ls : Int32) (sz : Nat → Int32) (L : List Nat) : Int32 := (L.filter (fun b => decide ((B b).2.2.2 = ls))).foldl (fun z b => z + sz b) 0
theorem opn_snoc (B : Nat → BF) (ls : Int32) (sz : Nat → Int32) (L : List Nat) (b : Nat) : opn B ls sz (L ++ [b]) = if (B b).2.2.2 = ls then opn B ls sz L + sz b else opn B ls sz L := by
  unfold opn
  rw [List.filter_append]
  by_cases c : (B b).2.2.2 = ls
  · rw [if_pos c]; simp [c]
  · rw [if_neg c]; simp [c]
section MCLOSE
variable {d : Nat → ClassId} {h : xw} {m : Nat} {A : Nat → Nat} {S : Nat → Int32} {I : Nat → Nat → Int32} {J : Nat → Nat → Int64} {RL : List (Nat × Nat)} {E : Nat → EV} {LB : List Nat} {B : Nat → BF} {no : Nat} {DL : List Nat}
theorem sp_mclose {prod : Int32} {b : Nat} {Q : Int32 → xw → Prop} (hM : MR d h m A S I J) (hI : MI S I J LB B RL E no DL) (hd : DL.length ≤ 100) (hr : RL.length + DL.length ≤ 4000) (hb4 : LB.length ≤ 400) {ls lf : Int32} (hl : ∀ b, LB[LB.length - 1]? = some b → (B b).2.2.2 = ls) (hl0 : LB = [] → ls = -1) (hl1 : LB ≠ [] → ls ≠ -1) {sz : Nat → Int32} (hlf : lf = opn B ls sz LB)
    {E' : Nat → EV} (hE1 : ∀ p ∈ RL, veq (E' p.2) (E p.2)) (hE2 : ∀ j e, DL[j]? = some e → veq (E' e) ((E e).1, (E e).2.1, (E e).2.2.1, (E e).2.2.2.1, (E e).2.2.2.2.1, nI (no + j), 0)) (hkb : ∀ e ∈ DL, (E e).2.2.1 = 0 ∨ (E e).2.2.1 = 1)
    {RL' : List (Nat × Nat)} (hRL : RL' = RL ++ DL.map (fun e => (LB.length, e))) (hp : ∀ p ∈ RL', p.1 < 400 ∨ p.1 = LB.length) (hk1 : ∀ p ∈ RL', -1 ≤ (E' p.2).2.1) (hsz : ∀ i c, LB[i]? = some c → bsz E' (selI RL' i) = sz c) {szn : Int32} (hsn : bsz E' (selI RL' LB.length) = szn)
    {B' : Nat → BF} (hB1 : ∀ c ∈ LB, B' c = B c) (hB2 : (B' b).1 = nI no ∧ (B' b).2.1 = prod ∧ (B' b).2.2.2 = (plc (ls, lf) szn).1)
    (hIA : ¬ -1 ≤ prod → ∀ h' S', MR d h' m A S' I J → S' 0 = 1 → MI S' I J LB B RL E no DL → Q 0 h')
    (hIS : -1 ≤ prod → (DL.length = 0 ∨ ¬ LB.length < 400) → ∀ h' S', MR d h' m A S' I J → S' 0 = 2 → MI S' I J LB B RL E no DL → Q 0 h')
    (hQ : -1 ≤ prod → 0 < DL.length → LB.length < 400 → ∀ h' S' I' J', MR d h' m A S' I' J' → S' 0 = 0 → MI S' I' J' (LB ++ [b]) B' RL' E' (no + DL.length) [] → J' 23 0 = J 23 0 → Q (nI no) h') : wp_LogCleanerModel_close d h m prod Q := by
  obtain ⟨s1, s9, s10, s16, hR, hB, hD⟩ := id hI
  have e400 : (400 : Int32) = nI 400 := by decide
  unfold wp_LogCleanerModel_close
  refine ⟨fun c1 => ?_, fun c1 => ?_⟩
  rotate_left
  · refine sp_code hM hI (fun h1 S1 hM1 h10 hI1 => ?_)
    refine gs0 hM1 ?_
    rw [h10]
    exact ⟨fun q => absurd q (by decide), fun _ => hIA c1 h1 S1 hM1 h10 hI1⟩
  have is : (DL.length = 0 ∨ ¬ LB.length < 400) → wb_LogCleanerModel_close_27 d Q m prod m h := fun full => by
    refine sp_code hM hI (fun h1 S1 hM1 h10 hI1 => ?_)
    refine gs0 hM1 ?_
    rw [h10]
    exact ⟨fun q => absurd q (by decide), fun _ => hIS c1 full h1 S1 hM1 h10 hI1⟩
  refine gs10 hM ?_
  rw [s10]
  refine ⟨fun c2 => is (Or.inl ?_), fun c2 => ?_⟩
  · rw [← nI_0] at c2
    exact (nI_eq (by omega) (by omega)).mp c2
  have c2 : 0 < DL.length := by
    rcases Nat.eq_zero_or_pos DL.length with q | q
    · exact absurd (by rw [q]; exact nI_0) c2
    · exact q
  refine gs16 hM ?_
  rw [s16, e400]
  refine ⟨fun c3 => is (Or.inr ?_), fun c3 => ?_⟩
  · have := (nI_eq (by omega) (by omega)).mp c3
    omega
  have c3 : LB.length < 400 := by
    rcases Nat.lt_or_ge LB.length 400 with q | q
    · exact q
    · exact absurd (by rw [show LB.length = 400 by omega]) c3
  refine sp_code hM hI (fun h1 S1 hM1 h10 hI1 => ?_)
  refine gs0 hM1 ?_
  rw [h10]
  refine ⟨fun _ => ?_, fun q => absurd (by decide) q⟩
  obtain ⟨s1, s9, s10, s16, -, -, -⟩ := id hI1
  refine ga17 hM1 ?_
  refine gs16 hM1 ?_
  refine gs9 hM1 ?_
  rw [s16, s9]
  refine ⟨_, rfl, st17 hM1 c3 (fun h2 I2 hM2 hI2 => ?_)⟩
  refine ga18 hM2 ?_
  refine gs16 hM2 ?_
  rw [s16]
  refine ⟨_, rfl, st18 hM2 c3 (fun h3 I3 hM3 hI3 => ?_)⟩
  -- the draft's records, one by one
  refine wLoop_ind (fun x h' => ∃ j S I' J', j ≤ DL.length ∧ x = (m, nI j) ∧ MR d h' m A S I' J' ∧ S 0 = 0 ∧ S 1 = nI (RL.length + j) ∧ S 9 = nI (no + j) ∧ S 10 = nI DL.length ∧ S 16 = nI LB.length ∧ RecOK I' J' (RL ++ (DL.take j).map (fun e => (LB.length, e))) E' ∧ BatOK I' LB B ∧ DrOK I' J' DL E ∧ I' 17 LB.length = nI no ∧ I' 18 LB.length = prod ∧ J' 23 0 = J 23 0) (fun x _ => DL.length + 1 - x.2.toNatClampNeg) ?_ _ _ ⟨0, S1, I3, J, Nat.zero_le _, rfl, hM3, h10, s1, s9, s10, s16, ?_, ?_, ?_, ?_, ?_, rfl⟩
  rotate_left
  · rw [List.take_zero, List.map_nil, List.append_nil]
    refine RecOK.veq (E := E) ?_ hE1
    intro r p hp
    rw [hI3, hI2]
    simp only [u2, Nat.reduceEqDiff, false_and, if_false]
    exact hR r p hp
  · intro r p hp
    have hlt : ¬ r = LB.length := fun q => by
      have := (List.getElem?_eq_some_iff.mp hp).1
      omega
    rw [hI3, hI2]
    simp only [u2, Nat.reduceEqDiff, hlt, false_and, and_false, if_false]
    exact hB r p hp
  · intro r p hp
    rw [hI3, hI2]
    simp only [u2, Nat.reduceEqDiff, false_and, if_false]
    exact hD r p hp
  · rw [hI3, hI2]
    simp [u2]
  · rw [hI3]
    simp [u2]
  rintro x h4 k ⟨j, S4, I4, J4, hj, rfl, hM4, t0, t1, t9, t10, t16, hR4, hB4, hD4, f17, f18, hJ4⟩ hk
  show wc_LogCleanerModel_close_69 d Q _ m (nI j) h4
  refine gs10 hM4 ?_
  refine ifle t10 hj (by omega) (fun cj => ?_) (fun cj => ?_)
  rotate_left
  · -- one record
    have hDj : DL[j]? = some DL[j] := List.getElem?_eq_getElem cj
    obtain ⟨g11, g12, g13, g14, g15⟩ := hD4 j DL[j] hDj
    obtain ⟨v1, v2, v3, v4, v5, v6⟩ := hE2 j DL[j] hDj
    have hx : RL.length + j < 4000 := by omega
    refine ga2 hM4 ?_
    refine gs1 hM4 ?_
    refine gs16 hM4 ?_
    rw [t1, t16]
    refine ⟨_, rfl, st2 hM4 hx (fun h5 I5 hM5 hI5 => ?_)⟩
    refine ga3 hM5 ?_
    refine gs1 hM5 ?_
    refine gs9 hM5 ?_
    rw [t1, t9]
    refine ⟨_, rfl, st3 hM5 hx (fun h6 I6 hM6 hI6 => ?_)⟩
    refine ga4 hM6 ?_
    refine gs1 hM6 ?_
    refine ga11 hM6 ⟨_, rfl, ld11 hM6 (by omega) ?_⟩
    rw [t1]
    refine ⟨_, rfl, st4 hM6 hx (fun h7 J7 hM7 hJ7 => ?_)⟩
    refine ga5 hM7 ?_
    refine gs1 hM7 ?_
    refine ga12 hM7 ⟨_, rfl, ld12 hM7 (by omega) ?_⟩
    rw [t1]
    refine ⟨_, rfl, st5 hM7 hx (fun h8 I8 hM8 hI8 => ?_)⟩
    refine ga6 hM8 ?_
    refine gs1 hM8 ?_
    refine ga13 hM8 ⟨_, rfl, ld13 hM8 (by omega) ?_⟩
    rw [t1]
    have z13 : I8 13 j = (E DL[j]).2.2.1 := by
      rw [hI8, hI6, hI5]
      simp only [u2, Nat.reduceEqDiff, false_and, if_false]
      exact g13
    refine ⟨_, rfl, st6 hM8 hx (by rw [z13]; exact hkb _ (List.getElem_mem cj)) (fun h9 I9 hM9 hI9 => ?_)⟩
    refine ga7 hM9 ?_
    refine gs1 hM9 ?_
    refine ga14 hM9 ⟨_, rfl, ld14 hM9 (by omega) ?_⟩
    rw [t1]
    refine ⟨_, rfl, st7 hM9 hx (fun h10 J10 hM10 hJ10 => ?_)⟩
    refine ga8 hM10 ?_
    refine gs1 hM10 ?_
    refine ga15 hM10 ⟨_, rfl, ld15 hM10 (by omega) ?_⟩
    rw [t1]
    refine ⟨_, rfl, st8 hM10 hx (fun h11 I11 hM11 hI11 => ?_)⟩
    refine gs1 hM11 ?_
    rw [t1, nI_1]
    refine ps1 hM11 (fun h12 S12 hM12 hS12 => ?_)
    refine gs9 hM12 ?_
    have u9 : S12 9 = nI (no + j) := by rw [hS12]; exact t9
    rw [u9, nI_1]
    refine ps9 hM12 (fun h13 S13 hM13 hS13 => ?_)
    refine hk _ _ ⟨j + 1, S13, I11, J10, cj, by rw [nI_1], hM13, by rw [hS13, hS12]; exact t0, by rw [hS13, hS12]; rfl, by rw [hS13]; rfl, by rw [hS13, hS12]; exact t10, by rw [hS13, hS12]; exact t16, ?_, ?_, ?_, ?_, ?_, ?_⟩ (mdec cj (by omega))
    · rw [List.take_succ_eq_append_getElem cj, List.map_append, ← List.append_assoc]
      have hlen : (RL ++ (DL.take j).map (fun e => (LB.length, e))).length = RL.length + j := by
        rw [List.length_append, List.length_map, List.length_take]
        omega
      refine RecOK_snoc (p := (LB.length, DL[j])) hR4 (fun r hr => ?_) ?_
      · rw [hlen] at hr
        have : ¬ r = RL.length + j := by omega
        rw [hI11, hI9, hI8, hI6, hI5, hJ10, hJ7]
        simp [u2, u3, this]
      · rw [hlen, hI11, hI9, hI8, hI6, hI5, hJ10, hJ7, v1, v2, v3, v4, v5, v6]
        simp [u2, u3, g11, g12, g13, g14, g15]
    · intro r p hp
      rw [hI11, hI9, hI8, hI6, hI5]
      simp only [u2, Nat.reduceEqDiff, false_and, if_false]
      exact hB4 r p hp
    · intro r p hp
      rw [hI11, hI9, hI8, hI6, hI5, hJ10, hJ7]
      simp only [u2, u3, Nat.reduceEqDiff, false_and, if_false]
      exact hD4 r p hp
    · rw [hI11, hI9, hI8, hI6, hI5]
      simpa [u2] using f17
    · rw [hI11, hI9, hI8, hI6, hI5]
      simpa [u2] using f18
    · rw [hJ10, hJ7]
      simpa [u3] using hJ4
  -- the segments
  subst cj
  rw [List.take_length, ← hRL] at hR4
  have hRl : RL'.length = RL.length + DL.length := by rw [hRL, List.length_append, List.length_map]
  rw [← hRl] at t1
  have hp' : ∀ p ∈ RL', p.1 < 400 ∧ -1 ≤ (E' p.2).2.1 := fun p hq => ⟨by rcases hp p hq with q | q <;> omega, hk1 p hq⟩
  refine wLoop_ind (fun x h' => h' = h4 ∧ ∃ i last, i ≤ LB.length ∧ x = (m, 0, last, nI i) ∧ ((i = 0 ∧ last = 0) ∨ (0 < i ∧ ∀ c, LB[i - 1]? = some c → last = (B c).2.2.2))) (fun x _ => LB.length + 1 - x.2.2.2.toNatClampNeg) ?_ _ _ ⟨rfl, 0, 0, Nat.zero_le _, rfl, Or.inl ⟨rfl, rfl⟩⟩
  rintro x h5 k2 ⟨rfl, i, last, hi, rfl, hlast⟩ hk2
  show wc_LogCleanerModel_close_211 d Q _ m 0 last (nI i) h5
  refine gs16 hM4 ?_
  refine ifle t16 hi (by omega) (fun ci => ?_) (fun ci => ?_)
  rotate_left
  · obtain ⟨-, -, g19⟩ := hB4 i LB[i] (List.getElem?_eq_getElem ci)
    refine ga19 hM4 ⟨_, rfl, ld19 hM4 (by omega) ?_⟩
    refine hk2 _ _ ⟨rfl, i + 1, _, ci, by rw [nI_1], Or.inr ⟨by omega, fun c hc => ?_⟩⟩ (mdec ci (by omega))
    rw [show i + 1 - 1 = i by omega, List.getElem?_eq_getElem ci] at hc
    cases hc
    exact g19
  subst ci
  have hls : LB ≠ [] → last = ls := fun hne => by
    have hpos : 0 < LB.length := List.length_pos_iff.mpr hne
    rcases hlast with q | q
    · omega
    · have hlt : LB.length - 1 < LB.length := by omega
      rw [q.2 _ (List.getElem?_eq_getElem hlt)]
      exact hl _ (List.getElem?_eq_getElem hlt)
  refine wLoop_ind (fun x h' => h' = h5 ∧ ∃ i, i ≤ LB.length ∧ x = (m, opn B last sz (LB.take i), last, nI i)) (fun x _ => LB.length + 1 - x.2.2.2.toNatClampNeg) ?_ _ _ ⟨rfl, 0, Nat.zero_le _, rfl⟩
  rintro x h6 k3 ⟨rfl, i, hi, rfl⟩ hk3
  show wc_LogCleanerModel_close_237 d Q _ m (opn B last sz (LB.take i)) last (nI i) h6
  refine gs16 hM4 ?_
  refine ifle t16 hi (by omega) (fun ci => ?_) (fun ci => ?_)
  rotate_left
  · obtain ⟨-, -, g19⟩ := hB4 i LB[i] (List.getElem?_eq_getElem ci)
    have nxt : ∀ z, z = opn B last sz (LB.take (i + 1)) → k3 (m, z, last, nI i + 1) h6 := fun z hz => by
      subst hz
      exact hk3 _ _ ⟨rfl, i + 1, ci, by rw [nI_1]⟩ (mdec ci (by omega))
    rw [List.take_succ_eq_append_getElem ci, opn_snoc] at nxt
    refine ga19 hM4 ⟨_, rfl, ld19 hM4 (by omega) ?_⟩
    rw [g19]
    refine ⟨fun c5 => ?_, fun c5 => nxt _ ?_⟩
    · refine isM hM4 ?_
      refine sp_msize hM4 t1 hR4 (by omega) (by omega) hp' ?_
      rw [hsz i LB[i] (List.getElem?_eq_getElem ci)]
      refine nxt _ ?_
      rw [if_pos c5]
    · rw [if_neg c5]
      exact Int32.add_zero _
  subst ci
  rw [List.take_length]
  have fin : ∀ s0, s0 = (plc (ls, lf) szn).1 → wb_LogCleanerModel_close_318 d Q m s0 (nI LB.length) (some (A 19)) h6 := fun s0 hs0 => by
    refine ⟨_, rfl, st19 hM4 c3 (fun h7 I7 hM7 hI7 => ?_)⟩
    refine gs16 hM7 ?_
    rw [t16, nI_1]
    refine ps16 hM7 (fun h8 S8 hM8 hS8 => ?_)
    refine ps10 hM8 (fun h9 S9 hM9 hS9 => ?_)
    refine ga17 hM9 ?_
    refine gs16 hM9 ?_
    have u16 : S9 16 = nI (LB.length + 1) := by rw [hS9, hS8]; rfl
    rw [u16, nI_pred]
    refine ⟨_, rfl, ld17 hM9 c3 ?_⟩
    have z17 : I7 17 LB.length = nI no := by rw [hI7]; simpa [u2] using f17
    rw [z17]
    refine hQ c1 c2 c3 h9 S9 I7 J4 hM9 (by rw [hS9, hS8]; exact t0) ⟨by rw [hS9, hS8]; exact t1, by rw [hS9, hS8]; exact t9, by rw [hS9]; rfl, by rw [u16, List.length_append, List.length_singleton], ?_, ?_, fun r e he => by simp at he⟩ hJ4
    · intro r p hp
      rw [hI7]
      simp only [u2, Nat.reduceEqDiff, false_and, if_false]
      exact hR4 r p hp
    · refine BatOK_snoc hB4 hB1 (fun r hr => ?_) ?_
      · have : ¬ r = LB.length := by omega
        rw [hI7]
        simp [u2, this]
      · rw [hI7, hB2.1, hB2.2.1, hB2.2.2]
        simp [u2, f17, f18, hs0]
  refine ga19 hM4 ?_
  refine gs16 hM4 ?_
  refine gs16 hM4 ?_
  rw [t16]
  refine ⟨fun c5 => ?_, fun c5 => ?_⟩
  · rw [← nI_0] at c5
    have c5 := (nI_eq (by omega) (by omega)).mp c5
    refine fin _ ?_
    rw [hl0 (List.length_eq_zero_iff.mp c5)]
    unfold plc
    rw [if_pos (Or.inl rfl)]
    show (0 : Int32) = -1 + 1
    decide
  · have hne : LB ≠ [] := fun q => c5 (by rw [q]; rfl)
    refine gs16 hM4 ?_
    rw [t16]
    refine isM hM4 ?_
    refine sp_msize hM4 t1 hR4 (by omega) (by omega) hp' ?_
    rw [hsn, hls hne, ← hlf]
    have e9 : (ls = -1) = False := eq_false (hl1 hne)
    refine ⟨fun c6 => fin _ ?_, fun c6 => fin _ ?_⟩
    · unfold plc
      rw [if_neg (fun q => by rcases q with q | q; exact hl1 hne q; exact q c6)]
    · unfold plc
      rw [if_pos (Or.inr c6)]
end MCLOSE
