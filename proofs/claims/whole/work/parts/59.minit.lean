/-! the reference's constructor, and the law's own cell -/
def zeroA (d : Nat → ClassId) (k : Nat) : va_E := if k ∈ isJ then xal (d 3) (lenA k) (fun _ => 0) else xai (d (tyI k)) (lenA k) (fun _ => 0)
def Ini (d : Nat → ClassId) (h : xw) (m : Nat) (A : Nat → Nat) (ks : List Nat) : Prop :=
  (∃ fs : List Value, h m = some (.inr (4, fs)) ∧ fs.length = 23 ∧ (∀ k ∈ ks, fs[k]? = some (.ref (A k))) ∧ ∀ k, k ∉ ks → fs[k]? = z_LogCleanerModel[k]?) ∧ (∀ k ∈ ks, h (A k) = some (zeroA d k)) ∧ ∀ j ∈ ks, ∀ k ∈ ks, A j = A k → j = k
theorem zeroA_arr (d : Nat → ClassId) (k : Nat) : ∃ x, zeroA d k = .inl x := by
  unfold zeroA
  split
  · exact ⟨_, rfl⟩
  · exact ⟨_, rfl⟩
theorem ini_step {d : Nat → ClassId} {h : xw} {m : Nat} {A : Nat → Nat} {ks : List Nat} (hI : Ini d h m A ks) {k B : Nat} {n : Int32} {o : Nat → va_E} {K : xw → Prop} (hk : k ∉ ks) (hk2 : k < 23) (h1 : ¬ n < 0) (h2 : n.toNatClampNeg ≤ B) (ho : o n.toNatClampNeg = zeroA d k) (hK : ∀ h' A', Ini d h' m A' (k :: ks) → K h') : wnewA h B n o fun q h1 => wpF h1 m 4 k (va_rf (some q)) K := by
  refine ⟨h1, h2, fun q hq => ?_⟩
  obtain ⟨⟨fs, hm, hl, hf, hz⟩, ha, hi⟩ := hI
  rw [ho]
  have hmq : m ≠ q := fun e => by subst e; rw [hq] at hm; cases hm
  refine ⟨fs, (xup_ne _ _ hmq).trans hm, by omega, ?_⟩
  refine hK _ (fun j => if j = k then q else A j) ⟨⟨fs.set k (.ref q), xup_self _ _ _, by rw [List.length_set]; exact hl, fun j hj => ?_, fun j hj => ?_⟩, fun j hj => ?_, fun i hi1 j hj1 e => ?_⟩
  · by_cases c : j = k
    · subst c
      simp only [if_true]
      rw [List.getElem?_set_self (by omega)]
    · simp only [c, if_false]
      rw [List.getElem?_set_ne (Ne.symm c)]
      rcases List.mem_cons.mp hj with q | q
      · exact absurd q c
      · exact hf j q
  · have c : j ≠ k := fun q => hj (q ▸ List.mem_cons_self)
    rw [List.getElem?_set_ne (Ne.symm c)]
    exact hz j (fun q => hj (List.mem_cons_of_mem _ q))
  · obtain ⟨x, hx⟩ := zeroA_arr d j
    by_cases c : j = k
    · subst c
      simp only [if_true]
      rw [xup_ne _ _ (Ne.symm hmq), xup_self]
    · simp only [c, if_false]
      have hj : j ∈ ks := by
        rcases List.mem_cons.mp hj with q | q
        · exact absurd q c
        · exact q
      have h3 := ha j hj
      have e1 : A j ≠ m := fun e => by rw [e, hm, hx] at h3; cases h3
      have e2 : A j ≠ q := fun e => by rw [e, hq] at h3; cases h3
      rw [xup_ne _ _ e1, xup_ne _ _ e2]
      exact h3
  · have old : ∀ j ∈ ks, A j ≠ q := fun j hj e => by
      have h3 := ha j hj
      rw [e, hq] at h3
      cases h3
    have mem : ∀ j, j ∈ k :: ks → j ≠ k → j ∈ ks := fun j hj c => by
      rcases List.mem_cons.mp hj with q | q
      · exact absurd q c
      · exact q
    by_cases ci : i = k
    · by_cases cj : j = k
      · rw [ci, cj]
      · simp only [ci, cj, if_true, if_false] at e
        exact absurd e.symm (old j (mem j hj1 cj))
    · by_cases cj : j = k
      · simp only [ci, cj, if_true, if_false] at e
        exact absurd e (old i (mem i hi1 ci))
      · simp only [ci, cj, if_false] at e
        exact hi i (mem i hi1 ci) j (mem j hj1 cj) e
theorem i4000 : (4000 : Int32).toNatClampNeg = 4000 := by decide
theorem i400 : (400 : Int32).toNatClampNeg = 400 := by decide
theorem i100 : (100 : Int32).toNatClampNeg = 100 := by decide
theorem ini_end {d : Nat → ClassId} {h : xw} {m : Nat} {A : Nat → Nat} (hI : Ini d h m A [22, 21, 20, 19, 18, 17, 15, 14, 13, 12, 11, 8, 7, 6, 5, 4, 3, 2]) {q : Nat} (hq : h q = none) : ∃ A', A' 23 = q ∧ MR d (xup h q (xal (d 3) 1 (fun _ => 0))) m A' (fun _ => 0) (fun _ _ => 0) (fun _ _ => 0) := by
  obtain ⟨⟨fs, hm, hl, hf, hz⟩, ha, hi⟩ := hI
  have hmq : m ≠ q := fun e => by subst e; rw [hq] at hm; cases hm
  have old : ∀ j ∈ [22, 21, 20, 19, 18, 17, 15, 14, 13, 12, 11, 8, 7, 6, 5, 4, 3, 2], A j ≠ q := fun j hj e => by
    have h3 := ha j hj
    rw [e, hq] at h3
    cases h3
  refine ⟨fun j => if j = 23 then q else A j, if_pos rfl, ?_, fun k hk => ?_, fun k hk => ?_, fun i hi1 j hj1 e => ?_⟩
  · rw [xup_ne _ _ hmq, hm]
    congr 1
    show (Sum.inr (4, fs) : va_E) = Sum.inr (4, mfs _ _)
    congr 2
    refine List.ext_getElem? (fun j => ?_)
    match j with
    | 0 => exact hz 0 (by decide)
    | 1 => exact hz 1 (by decide)
    | 2 => exact hf 2 (by decide)
    | 3 => exact hf 3 (by decide)
    | 4 => exact hf 4 (by decide)
    | 5 => exact hf 5 (by decide)
    | 6 => exact hf 6 (by decide)
    | 7 => exact hf 7 (by decide)
    | 8 => exact hf 8 (by decide)
    | 9 => exact hz 9 (by decide)
    | 10 => exact hz 10 (by decide)
    | 11 => exact hf 11 (by decide)
    | 12 => exact hf 12 (by decide)
    | 13 => exact hf 13 (by decide)
    | 14 => exact hf 14 (by decide)
    | 15 => exact hf 15 (by decide)
    | 16 => exact hz 16 (by decide)
    | 17 => exact hf 17 (by decide)
    | 18 => exact hf 18 (by decide)
    | 19 => exact hf 19 (by decide)
    | 20 => exact hf 20 (by decide)
    | 21 => exact hf 21 (by decide)
    | 22 => exact hf 22 (by decide)
    | j + 23 =>
      rw [List.getElem?_eq_none (by omega)]
      rfl
  · have hne : k ≠ 23 := fun e => by subst e; revert hk; decide
    simp only [hne, if_false]
    have hk2 : k ∈ [22, 21, 20, 19, 18, 17, 15, 14, 13, 12, 11, 8, 7, 6, 5, 4, 3, 2] := by
      revert hk
      simp only [isI, List.mem_cons, List.not_mem_nil, or_false]
      omega
    rw [xup_ne _ _ (old k hk2), ha k hk2]
    unfold zeroA
    rw [if_neg (fun q => ?_)]
    revert hk q
    simp only [isI, isJ, List.mem_cons, List.not_mem_nil, or_false]
    omega
  · by_cases c : k = 23
    · subst c
      simp only [if_true]
      rw [xup_self]
      rfl
    · simp only [c, if_false]
      have hk2 : k ∈ [22, 21, 20, 19, 18, 17, 15, 14, 13, 12, 11, 8, 7, 6, 5, 4, 3, 2] := by
        revert hk
        simp only [isJ, List.mem_cons, List.not_mem_nil, or_false]
        omega
      rw [xup_ne _ _ (old k hk2), ha k hk2]
      unfold zeroA
      rw [if_pos hk]
  · have mem : ∀ j, j ∈ isI ++ isJ → j ≠ 23 → j ∈ [22, 21, 20, 19, 18, 17, 15, 14, 13, 12, 11, 8, 7, 6, 5, 4, 3, 2] := fun j hj c => by
      revert hj
      simp only [isI, isJ, List.mem_append, List.mem_cons, List.not_mem_nil, or_false]
      omega
    by_cases ci : i = 23
    · by_cases cj : j = 23
      · rw [ci, cj]
      · simp only [ci, cj, if_true, if_false] at e
        exact absurd e.symm (old j (mem j hj1 cj))
    · by_cases cj : j = 23
      · simp only [ci, cj, if_true, if_false] at e
        exact absurd e (old i (mem i hi1 ci))
      · simp only [ci, cj, if_false] at e
        exact hi i (mem i hi1 ci) j (mem j hj1 cj) e
theorem sp_minit {d : Nat → ClassId} {h : xw} {m : Nat} {Q : xw → Prop} (hm : h m = some (.inr (4, z_LogCleanerModel))) (hQ : ∀ h' A, Ini d h' m A [22, 21, 20, 19, 18, 17, 15, 14, 13, 12, 11, 8, 7, 6, 5, 4, 3, 2] → Q h') : wp_LogCleanerModel_init d h m Q := by
  unfold wp_LogCleanerModel_init
  have h0 : Ini d h m (fun _ => 0) [] := ⟨⟨_, hm, rfl, fun k hk => (by cases hk), fun k _ => rfl⟩, fun k hk => (by cases hk), fun j hj => (by cases hj)⟩
  refine ini_step h0 (by decide) (by decide) (by decide) (by decide) (by rw [i4000]; rfl) (fun g1 A1 h1 => ?_)
  refine ini_step h1 (by decide) (by decide) (by decide) (by decide) (by rw [i4000]; rfl) (fun g2 A2 h2 => ?_)
  refine ini_step h2 (by decide) (by decide) (by decide) (by decide) (by rw [i4000]; rfl) (fun g3 A3 h3 => ?_)
  refine ini_step h3 (by decide) (by decide) (by decide) (by decide) (by rw [i4000]; rfl) (fun g4 A4 h4 => ?_)
  refine ini_step h4 (by decide) (by decide) (by decide) (by decide) (by rw [i4000]; rfl) (fun g5 A5 h5 => ?_)
  refine ini_step h5 (by decide) (by decide) (by decide) (by decide) (by rw [i4000]; rfl) (fun g6 A6 h6 => ?_)
  refine ini_step h6 (by decide) (by decide) (by decide) (by decide) (by rw [i4000]; rfl) (fun g7 A7 h7 => ?_)
  refine ini_step h7 (by decide) (by decide) (by decide) (by decide) (by rw [i100]; rfl) (fun g8 A8 h8 => ?_)
  refine ini_step h8 (by decide) (by decide) (by decide) (by decide) (by rw [i100]; rfl) (fun g9 A9 h9 => ?_)
  refine ini_step h9 (by decide) (by decide) (by decide) (by decide) (by rw [i100]; rfl) (fun g10 A10 h10 => ?_)
  refine ini_step h10 (by decide) (by decide) (by decide) (by decide) (by rw [i100]; rfl) (fun g11 A11 h11 => ?_)
  refine ini_step h11 (by decide) (by decide) (by decide) (by decide) (by rw [i100]; rfl) (fun g12 A12 h12 => ?_)
  refine ini_step h12 (by decide) (by decide) (by decide) (by decide) (by rw [i400]; rfl) (fun g13 A13 h13 => ?_)
  refine ini_step h13 (by decide) (by decide) (by decide) (by decide) (by rw [i400]; rfl) (fun g14 A14 h14 => ?_)
  refine ini_step h14 (by decide) (by decide) (by decide) (by decide) (by rw [i400]; rfl) (fun g15 A15 h15 => ?_)
  refine ini_step h15 (by decide) (by decide) (by decide) (by decide) (by rw [i4000]; rfl) (fun g16 A16 h16 => ?_)
  refine ini_step h16 (by decide) (by decide) (by decide) (by decide) (by rw [i400]; rfl) (fun g17 A17 h17 => ?_)
  refine ini_step h17 (by decide) (by decide) (by decide) (by decide) (by rw [i400]; rfl) (fun g18 A18 h18 => ?_)
  exact hQ _ _ h18
