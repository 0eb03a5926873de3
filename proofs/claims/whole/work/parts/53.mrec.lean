/-! the reference's record and close -/
theorem RecOK_snoc {I I' : Nat → Nat → Int32} {J J' : Nat → Nat → Int64} {RL : List (Nat × Nat)} {E : Nat → EV} {p : Nat × Nat} (hR : RecOK I J RL E)
    (hu : ∀ r, r < RL.length → I' 2 r = I 2 r ∧ I' 3 r = I 3 r ∧ J' 4 r = J 4 r ∧ I' 5 r = I 5 r ∧ I' 6 r = I 6 r ∧ J' 7 r = J 7 r ∧ I' 8 r = I 8 r)
    (hn : I' 2 RL.length = nI p.1 ∧ I' 3 RL.length = (E p.2).2.2.2.2.2.1 ∧ J' 4 RL.length = (E p.2).1 ∧ I' 5 RL.length = (E p.2).2.1 ∧ I' 6 RL.length = (E p.2).2.2.1 ∧ J' 7 RL.length = (E p.2).2.2.2.1 ∧ I' 8 RL.length = (E p.2).2.2.2.2.1) : RecOK I' J' (RL ++ [p]) E := by
  intro r q hq
  by_cases c : r < RL.length
  · rw [List.getElem?_append_left c] at hq
    obtain ⟨a1, a2, a3, a4, a5, a6, a7⟩ := hu r c
    rw [a1, a2, a3, a4, a5, a6, a7]
    exact hR r q hq
  · rw [List.getElem?_append_right (by omega)] at hq
    have h1 := (List.getElem?_eq_some_iff.mp hq).1
    rw [List.length_singleton] at h1
    have h3 : r = RL.length := by omega
    subst h3
    simp only [Nat.sub_self, List.getElem?_cons_zero, Option.some.injEq] at hq
    subst hq
    exact hn
theorem BatOK_snoc {I I' : Nat → Nat → Int32} {LB : List Nat} {B B' : Nat → BF} {b : Nat} (hB : BatOK I LB B) (hE : ∀ c ∈ LB, B' c = B c)
    (hu : ∀ r, r < LB.length → I' 17 r = I 17 r ∧ I' 18 r = I 18 r ∧ I' 19 r = I 19 r)
    (hn : I' 17 LB.length = (B' b).1 ∧ I' 18 LB.length = (B' b).2.1 ∧ I' 19 LB.length = (B' b).2.2.2) : BatOK I' (LB ++ [b]) B' := by
  intro r q hq
  by_cases c : r < LB.length
  · rw [List.getElem?_append_left c] at hq
    obtain ⟨a1, a2, a3⟩ := hu r c
    rw [a1, a2, a3, hE q (List.mem_of_getElem? hq)]
    exact hB r q hq
  · rw [List.getElem?_append_right (by omega)] at hq
    have h1 := (List.getElem?_eq_some_iff.mp hq).1
    rw [List.length_singleton] at h1
    have h3 : r = LB.length := by omega
    subst h3
    simp only [Nat.sub_self, List.getElem?_cons_zero, Option.some.injEq] at hq
    subst hq
    exact hn
theorem DrOK_snoc {I I' : Nat → Nat → Int32} {J J' : Nat → Nat → Int64} {DL : List Nat} {E : Nat → EV} {p : Nat} (hR : DrOK I J DL E)
    (hu : ∀ r, r < DL.length → J' 11 r = J 11 r ∧ I' 12 r = I 12 r ∧ I' 13 r = I 13 r ∧ J' 14 r = J 14 r ∧ I' 15 r = I 15 r)
    (hn : J' 11 DL.length = (E p).1 ∧ I' 12 DL.length = (E p).2.1 ∧ I' 13 DL.length = (E p).2.2.1 ∧ J' 14 DL.length = (E p).2.2.2.1 ∧ I' 15 DL.length = (E p).2.2.2.2.1) : DrOK I' J' (DL ++ [p]) E := by
  intro r q hq
  by_cases c : r < DL.length
  · rw [List.getElem?_append_left c] at hq
    obtain ⟨a1, a2, a3, a4, a5⟩ := hu r c
    rw [a1, a2, a3, a4, a5]
    exact hR r q hq
  · rw [List.getElem?_append_right (by omega)] at hq
    have h1 := (List.getElem?_eq_some_iff.mp hq).1
    rw [List.length_singleton] at h1
    have h3 : r = DL.length := by omega
    subst h3
    simp only [Nat.sub_self, List.getElem?_cons_zero, Option.some.injEq] at hq
    subst hq
    exact hn
/-- alike but for the mark -/
def veq (a b : EV) : Prop := a.1 = b.1 ∧ a.2.1 = b.2.1 ∧ a.2.2.1 = b.2.2.1 ∧ a.2.2.2.1 = b.2.2.2.1 ∧ a.2.2.2.2.1 = b.2.2.2.2.1 ∧ a.2.2.2.2.2.1 = b.2.2.2.2.2.1
theorem veq.rf {a : EV} : veq a a := ⟨rfl, rfl, rfl, rfl, rfl, rfl⟩
theorem RecOK.veq {I : Nat → Nat → Int32} {J : Nat → Nat → Int64} {RL : List (Nat × Nat)} {E E' : Nat → EV} (hR : RecOK I J RL E) (hv : ∀ p ∈ RL, veq (E' p.2) (E p.2)) : RecOK I J RL E' := fun r p hp => by
  obtain ⟨a1, a2, a3, a4, a5, a6⟩ := hv p (List.mem_of_getElem? hp)
  rw [a1, a2, a3, a4, a5, a6]
  exact hR r p hp
theorem DrOK.veq {I : Nat → Nat → Int32} {J : Nat → Nat → Int64} {RL : List Nat} {E E' : Nat → EV} (hR : DrOK I J RL E) (hv : ∀ p ∈ RL, veq (E' p) (E p)) : DrOK I J RL E' := fun r p hp => by
  obtain ⟨a1, a2, a3, a4, a5, a6⟩ := hv p (List.mem_of_getElem? hp)
  rw [a1, a2, a3, a4, a5]
  exact hR r p hp
section MREC
variable {d : Nat → ClassId} {h : xw} {m : Nat} {A : Nat → Nat} {S : Nat → Int32} {I : Nat → Nat → Int32} {J : Nat → Nat → Int64} {RL : List (Nat × Nat)} {E : Nat → EV} {LB : List Nat} {B : Nat → BF} {no : Nat} {DL : List Nat}
theorem MI.code (hI : MI S I J LB B RL E no DL) {c : Int32} {S' : Nat → Int32} (hS : S' = upd S 0 c) : S' 0 = c ∧ MI S' I J LB B RL E no DL := by
  subst hS
  exact ⟨rfl, hI⟩
/-- the calls that set the code and do no more -/
theorem sp_code {c : Int32} (hM : MR d h m A S I J) (hI : MI S I J LB B RL E no DL) {K : xw → Prop} (hK : ∀ h S', MR d h m A S' I J → S' 0 = c → MI S' I J LB B RL E no DL → K h) : wpF h m 4 0 (.int c) K :=
  ps0 hM (fun h1 S1 hM1 hS1 => hK h1 S1 hM1 (hI.code hS1).1 (hI.code hS1).2)
theorem sp_mrecord {k w : Int64} {kb v tm : Int32} {q : Nat} {Q : Int32 → xw → Prop} (hM : MR d h m A S I J) (hI : MI S I J LB B RL E no DL) (hd : DL.length ≤ 100) (hr : RL.length ≤ 4000) (hv : v = 0 ∨ v = 1) {E' : Nat → EV} (hE' : E' = upE E q (lowB k kb, kb, v, (if v = 0 then 0 else w), tm, -1, 0)) (hq1 : ∀ p ∈ RL, p.2 ≠ q) (hq2 : q ∉ DL)
    (hIA : (kb < -1 ∨ ¬ kb ≤ 8 ∨ ¬ 0 ≤ tm) → ∀ h' S', MR d h' m A S' I J → S' 0 = 1 → MI S' I J LB B RL E no DL → Q 0 h')
    (hIS : ¬ (kb < -1 ∨ ¬ kb ≤ 8 ∨ ¬ 0 ≤ tm) → (¬ DL.length < 100 ∨ ¬ RL.length + DL.length < 4000) → ∀ h' S', MR d h' m A S' I J → S' 0 = 2 → MI S' I J LB B RL E no DL → Q 0 h')
    (hQ : ¬ (kb < -1 ∨ ¬ kb ≤ 8 ∨ ¬ 0 ≤ tm) → DL.length < 100 → RL.length + DL.length < 4000 → ∀ h' S' I' J', MR d h' m A S' I' J' → S' 0 = 0 → MI S' I' J' LB B RL E' no (DL ++ [q]) → J' 23 0 = J 23 0 → Q (nI (DL.length + 1)) h') : wp_LogCleanerModel_record d h m k kb v w tm Q := by
  have e0 : ∀ c : Int32, ∀ P R : Prop, (0 < c → R) → (c ≤ 0 → P) → wIf (c ≤ 0) P R := fun c P R hr hp => ⟨hp, fun q => hr (i32_nle.mp q)⟩
  have ia : (kb < -1 ∨ ¬ kb ≤ 8 ∨ ¬ 0 ≤ tm) → wb_LogCleanerModel_record_17 d Q m k kb v w tm m h := fun bad => by
    refine sp_code hM hI (fun h1 S1 hM1 h10 hI1 => ?_)
    refine gs0 hM1 ?_
    rw [h10]
    exact ⟨fun q => absurd q (by decide), fun _ => hIA bad h1 S1 hM1 h10 hI1⟩
  unfold wp_LogCleanerModel_record
  refine ⟨fun c => ia (Or.inl c), fun c1 => ?_⟩
  refine ⟨fun c => ia (Or.inr (Or.inl (i32_nle.mpr c))), fun c2 => ?_⟩
  have c2 : kb ≤ 8 := i32_nlt.mp c2
  refine ⟨fun c3 => ?_, fun c => ia (Or.inr (Or.inr c))⟩
  have ok : ¬ (kb < -1 ∨ ¬ kb ≤ 8 ∨ ¬ 0 ≤ tm) := fun q => by
    rcases q with q | q | q
    · exact c1 q
    · exact q c2
    · exact q c3
  have is : (¬ DL.length < 100 ∨ ¬ RL.length + DL.length < 4000) → wb_LogCleanerModel_record_47 d Q m k kb v w tm m h := fun full => by
    refine sp_code hM hI (fun h1 S1 hM1 h10 hI1 => ?_)
    refine gs0 hM1 ?_
    rw [h10]
    exact ⟨fun q => absurd q (by decide), fun _ => hIS ok full h1 S1 hM1 h10 hI1⟩
  obtain ⟨s1, s9, s10, s16, hR, hB, hD⟩ := id hI
  have e100 : (100 : Int32) = nI 100 := by decide
  have e4000 : (4000 : Int32) = nI 4000 := by decide
  refine gs10 hM ?_
  rw [s10, e100]
  refine ⟨fun c4 => is (Or.inl ?_), fun c4 => ?_⟩
  · have := (nI_eq (by omega) (by omega)).mp c4
    omega
  have c4 : DL.length < 100 := by
    rcases Nat.lt_or_ge DL.length 100 with q | q
    · exact q
    · exact absurd (by rw [show DL.length = 100 by omega]) c4
  refine gs1 hM ?_
  refine gs10 hM ?_
  rw [s1, s10, nI_add, nI_1, e4000]
  refine ⟨fun c5 => ?_, fun c5 => is (Or.inr (fun q => c5 ((nI_leI (by omega) (by omega)).mpr (by omega))))⟩
  have c5 := (nI_leI (by omega) (by omega)).mp c5
  refine sp_code hM hI (fun h1 S1 hM1 h10 hI1 => ?_)
  refine gs0 hM1 ?_
  rw [h10]
  refine ⟨fun _ => ?_, fun q => absurd (by decide) q⟩
  obtain ⟨s1, s9, s10, s16, -, -, -⟩ := id hI1
  refine ga11 hM1 ?_
  refine gs10 hM1 ?_
  refine sp_mlow (i32_nlt.mp c1) c2 ?_
  rw [s10]
  refine ⟨_, rfl, st11 hM1 c4 (fun h2 J2 hM2 hJ2 => ?_)⟩
  refine ga12 hM2 ?_
  refine gs10 hM2 ?_
  rw [s10]
  refine ⟨_, rfl, st12 hM2 c4 (fun h3 I3 hM3 hI3 => ?_)⟩
  refine ga13 hM3 ?_
  refine gs10 hM3 ?_
  rw [s10]
  refine ⟨_, rfl, st13 hM3 c4 hv (fun h4 I4 hM4 hI4 => ?_)⟩
  refine ga14 hM4 ?_
  refine gs10 hM4 ?_
  rw [s10]
  have go : ∀ w2, w2 = (if v = 0 then 0 else w) → wb_LogCleanerModel_record_118 d Q m tm w2 (nI DL.length) (some (A 14)) h4 := fun w2 hw2 => by
    refine ⟨_, rfl, st14 hM4 c4 (fun h5 J5 hM5 hJ5 => ?_)⟩
    refine ga15 hM5 ?_
    refine gs10 hM5 ?_
    rw [s10]
    refine ⟨_, rfl, st15 hM5 c4 (fun h6 I6 hM6 hI6 => ?_)⟩
    refine gs10 hM6 ?_
    rw [s10, nI_1]
    refine ps10 hM6 (fun h7 S7 hM7 hS7 => ?_)
    refine gs10 hM7 ?_
    have s7 : S7 10 = nI (DL.length + 1) := by rw [hS7]; rfl
    rw [s7]
    have hEq : E' q = (lowB k kb, kb, v, (if v = 0 then 0 else w), tm, -1, 0) := by rw [hE', upE_self]
    refine hQ ok c4 (by omega) h7 S7 I6 J5 hM7 (by rw [hS7]; exact h10) ⟨by rw [hS7]; exact s1, by rw [hS7]; exact s9, by rw [s7, List.length_append, List.length_singleton], by rw [hS7]; exact s16, ?_, ?_, ?_⟩ (by rw [hJ5, hJ2]; simp [u3])
    · refine RecOK.veq (E := E) ?_ (fun p hp => by rw [hE', upE_ne _ (hq1 p hp)]; exact veq.rf)
      intro r p hp
      rw [hI6, hI4, hI3, hJ5, hJ2]
      simp only [u2, u3, Nat.reduceEqDiff, false_and, if_false]
      exact hR r p hp
    · intro r p hp
      rw [hI6, hI4, hI3]
      simp only [u2, Nat.reduceEqDiff, false_and, if_false]
      exact hB r p hp
    · refine DrOK_snoc (I := I) (J := J) (DrOK.veq hD (fun p hp => by have hne : p ≠ q := fun e => hq2 (by rw [← e]; exact hp); rw [hE', upE_ne _ hne]; exact veq.rf)) (fun r hr => ?_) ?_
      · rw [hI6, hI4, hI3, hJ5, hJ2]
        have : ¬ r = DL.length := by omega
        simp [u2, u3, this]
      · rw [hI6, hI4, hI3, hJ5, hJ2, hEq]
        simp [u2, u3, hw2]
  exact ⟨fun c6 => go _ (by rw [if_pos c6]), fun c6 => go _ (by rw [if_neg c6])⟩
end MREC
