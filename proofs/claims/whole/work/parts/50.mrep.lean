/-! THE REFERENCE OVER THE MAP: its object, its arrays; array 23 is the law's own cell for an answer -/
def mfs (A : Nat → Nat) (S : Nat → Int32) : List Value := [.int (S 0), .int (S 1), .ref (A 2), .ref (A 3), .ref (A 4), .ref (A 5), .ref (A 6), .ref (A 7), .ref (A 8), .int (S 9), .int (S 10), .ref (A 11), .ref (A 12), .ref (A 13), .ref (A 14), .ref (A 15), .int (S 16), .ref (A 17), .ref (A 18), .ref (A 19), .ref (A 20), .ref (A 21), .ref (A 22)]
def oM (A : Nat → Nat) (S : Nat → Int32) : va_E := .inr (4, mfs A S)
def tyI (k : Nat) : Nat := if k = 6 ∨ k = 13 ∨ k = 20 ∨ k = 21 then 4 else 2
def lenA (k : Nat) : Nat := if 11 ≤ k ∧ k ≤ 15 then 100 else if (17 ≤ k ∧ k ≤ 19) ∨ k = 21 ∨ k = 22 then 400 else if k = 23 then 1 else 4000
def isI : List Nat := [2, 3, 5, 6, 8, 12, 13, 15, 17, 18, 19, 20, 21, 22]
def isJ : List Nat := [4, 7, 11, 14, 23]
def MR (d : Nat → ClassId) (h : xw) (m : Nat) (A : Nat → Nat) (S : Nat → Int32) (I : Nat → Nat → Int32) (J : Nat → Nat → Int64) : Prop :=
  h m = some (oM A S) ∧ (∀ k ∈ isI, h (A k) = some (xai (d (tyI k)) (lenA k) (I k))) ∧ (∀ k ∈ isJ, h (A k) = some (xal (d 3) (lenA k) (J k))) ∧ ∀ j ∈ isI ++ isJ, ∀ k ∈ isI ++ isJ, A j = A k → j = k
def u2 (I : Nat → Nat → Int32) (k i : Nat) (v : Int32) : Nat → Nat → Int32 := fun a b => if a = k ∧ b = i then v else I a b
def u3 (J : Nat → Nat → Int64) (k i : Nat) (v : Int64) : Nat → Nat → Int64 := fun a b => if a = k ∧ b = i then v else J a b
theorem u2_self (I : Nat → Nat → Int32) (k i : Nat) (v : Int32) : u2 I k i v k = upd (I k) i v := by
  funext b
  simp only [u2, upd, true_and]
theorem u2_ne (I : Nat → Nat → Int32) {k j : Nat} (i : Nat) (v : Int32) (h : j ≠ k) : u2 I k i v j = I j := by
  funext b
  simp only [u2, h, false_and, if_false]
theorem u3_self (J : Nat → Nat → Int64) (k i : Nat) (v : Int64) : u3 J k i v k = vp_updL (J k) i v := by
  funext b
  simp only [u3, vp_updL, true_and]
theorem u3_ne (J : Nat → Nat → Int64) {k j : Nat} (i : Nat) (v : Int64) (h : j ≠ k) : u3 J k i v j = J j := by
  funext b
  simp only [u3, h, false_and, if_false]
section MROWS
variable {d : Nat → ClassId} {h : xw} {m : Nat} {A : Nat → Nat} {S : Nat → Int32} {I : Nat → Nat → Int32} {J : Nat → Nat → Int64}
theorem isM (hM : MR d h m A S I J) {P : Prop} (hP : P) : wIs h m 4 P := ⟨⟨_, hM.1⟩, hP⟩
theorem MR.scal (hM : MR d h m A S I J) (S' : Nat → Int32) : MR d (xup h m (oM A S')) m A S' I J := by
  obtain ⟨h1, h2, h3, h4⟩ := hM
  refine ⟨xup_self _ _ _, fun k hk => ?_, fun k hk => ?_, h4⟩
  · rw [xup_ne _ _ (Ne.symm (ne_oe_arr h1 (h2 k hk)))]
    exact h2 k hk
  · rw [xup_ne _ _ (Ne.symm (ne_oe_arr h1 (h3 k hk)))]
    exact h3 k hk
theorem MR.stI (hM : MR d h m A S I J) {k : Nat} (i : Nat) (v : Int32) (hk : k ∈ isI) : MR d (xup h (A k) (xai (d (tyI k)) (lenA k) (upd (I k) i v))) m A S (u2 I k i v) J := by
  obtain ⟨h1, h2, h3, h4⟩ := hM
  refine ⟨?_, fun j hj => ?_, fun j hj => ?_, h4⟩
  · rw [xup_ne _ _ (ne_oe_arr h1 (h2 k hk))]
    exact h1
  · by_cases c : j = k
    · subst c
      rw [xup_self, u2_self]
    · rw [xup_ne _ _ (fun q => c (h4 j (List.mem_append_left _ hj) k (List.mem_append_left _ hk) q)), u2_ne _ _ _ c]
      exact h2 j hj
  · have c : j ≠ k := fun q => by
      subst q
      revert hk hj
      unfold isI isJ
      simp only [List.mem_cons, List.not_mem_nil, or_false]
      omega
    rw [xup_ne _ _ (fun q => c (h4 j (List.mem_append_right _ hj) k (List.mem_append_left _ hk) q))]
    exact h3 j hj
theorem MR.stJ (hM : MR d h m A S I J) {k : Nat} (i : Nat) (v : Int64) (hk : k ∈ isJ) : MR d (xup h (A k) (xal (d 3) (lenA k) (vp_updL (J k) i v))) m A S I (u3 J k i v) := by
  obtain ⟨h1, h2, h3, h4⟩ := hM
  refine ⟨?_, fun j hj => ?_, fun j hj => ?_, h4⟩
  · rw [xup_ne _ _ (ne_oe_arr h1 (h3 k hk))]
    exact h1
  · have c : j ≠ k := fun q => by
      subst q
      revert hk hj
      unfold isI isJ
      simp only [List.mem_cons, List.not_mem_nil, or_false]
      omega
    rw [xup_ne _ _ (fun q => c (h4 j (List.mem_append_left _ hj) k (List.mem_append_right _ hk) q))]
    exact h2 j hj
  · by_cases c : j = k
    · subst c
      rw [xup_self, u3_self]
    · rw [xup_ne _ _ (fun q => c (h4 j (List.mem_append_right _ hj) k (List.mem_append_right _ hk) q)), u3_ne _ _ _ c]
      exact h3 j hj
theorem gs0 (hM : MR d h m A S I J) {K : Int32 → Prop} (hK : K (S 0)) : wgI h m 4 0 K := ⟨_, S 0, hM.1, rfl, hK⟩
theorem ps0 (hM : MR d h m A S I J) {v : Int32} {K : xw → Prop} (hK : ∀ h T, MR d h m A T I J → T = upd S 0 v → K h) : wpF h m 4 0 (.int v) K := ⟨_, hM.1, Nat.le_of_ble_eq_true rfl, hK _ _ (hM.scal (upd S 0 v)) rfl⟩
theorem gs1 (hM : MR d h m A S I J) {K : Int32 → Prop} (hK : K (S 1)) : wgI h m 4 1 K := ⟨_, S 1, hM.1, rfl, hK⟩
theorem ps1 (hM : MR d h m A S I J) {v : Int32} {K : xw → Prop} (hK : ∀ h T, MR d h m A T I J → T = upd S 1 v → K h) : wpF h m 4 1 (.int v) K := ⟨_, hM.1, Nat.le_of_ble_eq_true rfl, hK _ _ (hM.scal (upd S 1 v)) rfl⟩
theorem gs9 (hM : MR d h m A S I J) {K : Int32 → Prop} (hK : K (S 9)) : wgI h m 4 9 K := ⟨_, S 9, hM.1, rfl, hK⟩
theorem ps9 (hM : MR d h m A S I J) {v : Int32} {K : xw → Prop} (hK : ∀ h T, MR d h m A T I J → T = upd S 9 v → K h) : wpF h m 4 9 (.int v) K := ⟨_, hM.1, Nat.le_of_ble_eq_true rfl, hK _ _ (hM.scal (upd S 9 v)) rfl⟩
theorem gs10 (hM : MR d h m A S I J) {K : Int32 → Prop} (hK : K (S 10)) : wgI h m 4 10 K := ⟨_, S 10, hM.1, rfl, hK⟩
theorem ps10 (hM : MR d h m A S I J) {v : Int32} {K : xw → Prop} (hK : ∀ h T, MR d h m A T I J → T = upd S 10 v → K h) : wpF h m 4 10 (.int v) K := ⟨_, hM.1, Nat.le_of_ble_eq_true rfl, hK _ _ (hM.scal (upd S 10 v)) rfl⟩
theorem gs16 (hM : MR d h m A S I J) {K : Int32 → Prop} (hK : K (S 16)) : wgI h m 4 16 K := ⟨_, S 16, hM.1, rfl, hK⟩
theorem ps16 (hM : MR d h m A S I J) {v : Int32} {K : xw → Prop} (hK : ∀ h T, MR d h m A T I J → T = upd S 16 v → K h) : wpF h m 4 16 (.int v) K := ⟨_, hM.1, Nat.le_of_ble_eq_true rfl, hK _ _ (hM.scal (upd S 16 v)) rfl⟩
theorem ga2 (hM : MR d h m A S I J) {K : Option Nat → Prop} (hK : K (some (A 2))) : wgA h m 4 2 K := ⟨_, some (A 2), hM.1, rfl, hK⟩
theorem ga3 (hM : MR d h m A S I J) {K : Option Nat → Prop} (hK : K (some (A 3))) : wgA h m 4 3 K := ⟨_, some (A 3), hM.1, rfl, hK⟩
theorem ga4 (hM : MR d h m A S I J) {K : Option Nat → Prop} (hK : K (some (A 4))) : wgA h m 4 4 K := ⟨_, some (A 4), hM.1, rfl, hK⟩
theorem ga5 (hM : MR d h m A S I J) {K : Option Nat → Prop} (hK : K (some (A 5))) : wgA h m 4 5 K := ⟨_, some (A 5), hM.1, rfl, hK⟩
theorem ga6 (hM : MR d h m A S I J) {K : Option Nat → Prop} (hK : K (some (A 6))) : wgA h m 4 6 K := ⟨_, some (A 6), hM.1, rfl, hK⟩
theorem ga7 (hM : MR d h m A S I J) {K : Option Nat → Prop} (hK : K (some (A 7))) : wgA h m 4 7 K := ⟨_, some (A 7), hM.1, rfl, hK⟩
theorem ga8 (hM : MR d h m A S I J) {K : Option Nat → Prop} (hK : K (some (A 8))) : wgA h m 4 8 K := ⟨_, some (A 8), hM.1, rfl, hK⟩
theorem ga11 (hM : MR d h m A S I J) {K : Option Nat → Prop} (hK : K (some (A 11))) : wgA h m 4 11 K := ⟨_, some (A 11), hM.1, rfl, hK⟩
theorem ga12 (hM : MR d h m A S I J) {K : Option Nat → Prop} (hK : K (some (A 12))) : wgA h m 4 12 K := ⟨_, some (A 12), hM.1, rfl, hK⟩
theorem ga13 (hM : MR d h m A S I J) {K : Option Nat → Prop} (hK : K (some (A 13))) : wgA h m 4 13 K := ⟨_, some (A 13), hM.1, rfl, hK⟩
theorem ga14 (hM : MR d h m A S I J) {K : Option Nat → Prop} (hK : K (some (A 14))) : wgA h m 4 14 K := ⟨_, some (A 14), hM.1, rfl, hK⟩
theorem ga15 (hM : MR d h m A S I J) {K : Option Nat → Prop} (hK : K (some (A 15))) : wgA h m 4 15 K := ⟨_, some (A 15), hM.1, rfl, hK⟩
theorem ga17 (hM : MR d h m A S I J) {K : Option Nat → Prop} (hK : K (some (A 17))) : wgA h m 4 17 K := ⟨_, some (A 17), hM.1, rfl, hK⟩
theorem ga18 (hM : MR d h m A S I J) {K : Option Nat → Prop} (hK : K (some (A 18))) : wgA h m 4 18 K := ⟨_, some (A 18), hM.1, rfl, hK⟩
theorem ga19 (hM : MR d h m A S I J) {K : Option Nat → Prop} (hK : K (some (A 19))) : wgA h m 4 19 K := ⟨_, some (A 19), hM.1, rfl, hK⟩
theorem ga20 (hM : MR d h m A S I J) {K : Option Nat → Prop} (hK : K (some (A 20))) : wgA h m 4 20 K := ⟨_, some (A 20), hM.1, rfl, hK⟩
theorem ga21 (hM : MR d h m A S I J) {K : Option Nat → Prop} (hK : K (some (A 21))) : wgA h m 4 21 K := ⟨_, some (A 21), hM.1, rfl, hK⟩
theorem ga22 (hM : MR d h m A S I J) {K : Option Nat → Prop} (hK : K (some (A 22))) : wgA h m 4 22 K := ⟨_, some (A 22), hM.1, rfl, hK⟩
theorem ld2 (hM : MR d h m A S I J) {i : Nat} (hi : i < 4000) {K : Int32 → Prop} (hK : K (I 2 i)) : wldi h (A 2) (d 2) (nI i) K := by
  refine ⟨4000, I 2, hM.2.1 2 (by decide), vp_in_nI hi (by omega), ?_⟩
  rw [nI_clamp (by omega)]
  exact hK
theorem st2 (hM : MR d h m A S I J) {i : Nat} (hi : i < 4000) {v : Int32} {K : xw → Prop} (hK : ∀ h I', MR d h m A S I' J → I' = u2 I 2 i v → K h) : wsti h (A 2) (d 2) (nI i) v K := by
  refine ⟨4000, I 2, hM.2.1 2 (by decide), vp_in_nI hi (by omega), ?_⟩
  rw [nI_clamp (by omega)]
  exact hK _ _ (hM.stI (k := 2) i v (by decide)) rfl
theorem ld3 (hM : MR d h m A S I J) {i : Nat} (hi : i < 4000) {K : Int32 → Prop} (hK : K (I 3 i)) : wldi h (A 3) (d 2) (nI i) K := by
  refine ⟨4000, I 3, hM.2.1 3 (by decide), vp_in_nI hi (by omega), ?_⟩
  rw [nI_clamp (by omega)]
  exact hK
theorem st3 (hM : MR d h m A S I J) {i : Nat} (hi : i < 4000) {v : Int32} {K : xw → Prop} (hK : ∀ h I', MR d h m A S I' J → I' = u2 I 3 i v → K h) : wsti h (A 3) (d 2) (nI i) v K := by
  refine ⟨4000, I 3, hM.2.1 3 (by decide), vp_in_nI hi (by omega), ?_⟩
  rw [nI_clamp (by omega)]
  exact hK _ _ (hM.stI (k := 3) i v (by decide)) rfl
theorem ld5 (hM : MR d h m A S I J) {i : Nat} (hi : i < 4000) {K : Int32 → Prop} (hK : K (I 5 i)) : wldi h (A 5) (d 2) (nI i) K := by
  refine ⟨4000, I 5, hM.2.1 5 (by decide), vp_in_nI hi (by omega), ?_⟩
  rw [nI_clamp (by omega)]
  exact hK
theorem st5 (hM : MR d h m A S I J) {i : Nat} (hi : i < 4000) {v : Int32} {K : xw → Prop} (hK : ∀ h I', MR d h m A S I' J → I' = u2 I 5 i v → K h) : wsti h (A 5) (d 2) (nI i) v K := by
  refine ⟨4000, I 5, hM.2.1 5 (by decide), vp_in_nI hi (by omega), ?_⟩
  rw [nI_clamp (by omega)]
  exact hK _ _ (hM.stI (k := 5) i v (by decide)) rfl
theorem ld6 (hM : MR d h m A S I J) {i : Nat} (hi : i < 4000) {K : Int32 → Prop} (hK : K (I 6 i)) : wldi h (A 6) (d 4) (nI i) K := by
  refine ⟨4000, I 6, hM.2.1 6 (by decide), vp_in_nI hi (by omega), ?_⟩
  rw [nI_clamp (by omega)]
  exact hK
theorem st6 (hM : MR d h m A S I J) {i : Nat} (hi : i < 4000) {v : Int32} (hv : v = 0 ∨ v = 1) {K : xw → Prop} (hK : ∀ h I', MR d h m A S I' J → I' = u2 I 6 i v → K h) : wstz h (A 6) (d 4) (nI i) v K := by
  refine ⟨hv, 4000, I 6, hM.2.1 6 (by decide), vp_in_nI hi (by omega), ?_⟩
  rw [nI_clamp (by omega)]
  exact hK _ _ (hM.stI (k := 6) i v (by decide)) rfl
theorem ld8 (hM : MR d h m A S I J) {i : Nat} (hi : i < 4000) {K : Int32 → Prop} (hK : K (I 8 i)) : wldi h (A 8) (d 2) (nI i) K := by
  refine ⟨4000, I 8, hM.2.1 8 (by decide), vp_in_nI hi (by omega), ?_⟩
  rw [nI_clamp (by omega)]
  exact hK
theorem st8 (hM : MR d h m A S I J) {i : Nat} (hi : i < 4000) {v : Int32} {K : xw → Prop} (hK : ∀ h I', MR d h m A S I' J → I' = u2 I 8 i v → K h) : wsti h (A 8) (d 2) (nI i) v K := by
  refine ⟨4000, I 8, hM.2.1 8 (by decide), vp_in_nI hi (by omega), ?_⟩
  rw [nI_clamp (by omega)]
  exact hK _ _ (hM.stI (k := 8) i v (by decide)) rfl
theorem ld12 (hM : MR d h m A S I J) {i : Nat} (hi : i < 100) {K : Int32 → Prop} (hK : K (I 12 i)) : wldi h (A 12) (d 2) (nI i) K := by
  refine ⟨100, I 12, hM.2.1 12 (by decide), vp_in_nI hi (by omega), ?_⟩
  rw [nI_clamp (by omega)]
  exact hK
theorem st12 (hM : MR d h m A S I J) {i : Nat} (hi : i < 100) {v : Int32} {K : xw → Prop} (hK : ∀ h I', MR d h m A S I' J → I' = u2 I 12 i v → K h) : wsti h (A 12) (d 2) (nI i) v K := by
  refine ⟨100, I 12, hM.2.1 12 (by decide), vp_in_nI hi (by omega), ?_⟩
  rw [nI_clamp (by omega)]
  exact hK _ _ (hM.stI (k := 12) i v (by decide)) rfl
theorem ld13 (hM : MR d h m A S I J) {i : Nat} (hi : i < 100) {K : Int32 → Prop} (hK : K (I 13 i)) : wldi h (A 13) (d 4) (nI i) K := by
  refine ⟨100, I 13, hM.2.1 13 (by decide), vp_in_nI hi (by omega), ?_⟩
  rw [nI_clamp (by omega)]
  exact hK
theorem st13 (hM : MR d h m A S I J) {i : Nat} (hi : i < 100) {v : Int32} (hv : v = 0 ∨ v = 1) {K : xw → Prop} (hK : ∀ h I', MR d h m A S I' J → I' = u2 I 13 i v → K h) : wstz h (A 13) (d 4) (nI i) v K := by
  refine ⟨hv, 100, I 13, hM.2.1 13 (by decide), vp_in_nI hi (by omega), ?_⟩
  rw [nI_clamp (by omega)]
  exact hK _ _ (hM.stI (k := 13) i v (by decide)) rfl
theorem ld15 (hM : MR d h m A S I J) {i : Nat} (hi : i < 100) {K : Int32 → Prop} (hK : K (I 15 i)) : wldi h (A 15) (d 2) (nI i) K := by
  refine ⟨100, I 15, hM.2.1 15 (by decide), vp_in_nI hi (by omega), ?_⟩
  rw [nI_clamp (by omega)]
  exact hK
theorem st15 (hM : MR d h m A S I J) {i : Nat} (hi : i < 100) {v : Int32} {K : xw → Prop} (hK : ∀ h I', MR d h m A S I' J → I' = u2 I 15 i v → K h) : wsti h (A 15) (d 2) (nI i) v K := by
  refine ⟨100, I 15, hM.2.1 15 (by decide), vp_in_nI hi (by omega), ?_⟩
  rw [nI_clamp (by omega)]
  exact hK _ _ (hM.stI (k := 15) i v (by decide)) rfl
theorem ld17 (hM : MR d h m A S I J) {i : Nat} (hi : i < 400) {K : Int32 → Prop} (hK : K (I 17 i)) : wldi h (A 17) (d 2) (nI i) K := by
  refine ⟨400, I 17, hM.2.1 17 (by decide), vp_in_nI hi (by omega), ?_⟩
  rw [nI_clamp (by omega)]
  exact hK
theorem st17 (hM : MR d h m A S I J) {i : Nat} (hi : i < 400) {v : Int32} {K : xw → Prop} (hK : ∀ h I', MR d h m A S I' J → I' = u2 I 17 i v → K h) : wsti h (A 17) (d 2) (nI i) v K := by
  refine ⟨400, I 17, hM.2.1 17 (by decide), vp_in_nI hi (by omega), ?_⟩
  rw [nI_clamp (by omega)]
  exact hK _ _ (hM.stI (k := 17) i v (by decide)) rfl
theorem ld18 (hM : MR d h m A S I J) {i : Nat} (hi : i < 400) {K : Int32 → Prop} (hK : K (I 18 i)) : wldi h (A 18) (d 2) (nI i) K := by
  refine ⟨400, I 18, hM.2.1 18 (by decide), vp_in_nI hi (by omega), ?_⟩
  rw [nI_clamp (by omega)]
  exact hK
theorem st18 (hM : MR d h m A S I J) {i : Nat} (hi : i < 400) {v : Int32} {K : xw → Prop} (hK : ∀ h I', MR d h m A S I' J → I' = u2 I 18 i v → K h) : wsti h (A 18) (d 2) (nI i) v K := by
  refine ⟨400, I 18, hM.2.1 18 (by decide), vp_in_nI hi (by omega), ?_⟩
  rw [nI_clamp (by omega)]
  exact hK _ _ (hM.stI (k := 18) i v (by decide)) rfl
theorem ld19 (hM : MR d h m A S I J) {i : Nat} (hi : i < 400) {K : Int32 → Prop} (hK : K (I 19 i)) : wldi h (A 19) (d 2) (nI i) K := by
  refine ⟨400, I 19, hM.2.1 19 (by decide), vp_in_nI hi (by omega), ?_⟩
  rw [nI_clamp (by omega)]
  exact hK
theorem st19 (hM : MR d h m A S I J) {i : Nat} (hi : i < 400) {v : Int32} {K : xw → Prop} (hK : ∀ h I', MR d h m A S I' J → I' = u2 I 19 i v → K h) : wsti h (A 19) (d 2) (nI i) v K := by
  refine ⟨400, I 19, hM.2.1 19 (by decide), vp_in_nI hi (by omega), ?_⟩
  rw [nI_clamp (by omega)]
  exact hK _ _ (hM.stI (k := 19) i v (by decide)) rfl
theorem ld20 (hM : MR d h m A S I J) {i : Nat} (hi : i < 4000) {K : Int32 → Prop} (hK : K (I 20 i)) : wldi h (A 20) (d 4) (nI i) K := by
  refine ⟨4000, I 20, hM.2.1 20 (by decide), vp_in_nI hi (by omega), ?_⟩
  rw [nI_clamp (by omega)]
  exact hK
theorem st20 (hM : MR d h m A S I J) {i : Nat} (hi : i < 4000) {v : Int32} (hv : v = 0 ∨ v = 1) {K : xw → Prop} (hK : ∀ h I', MR d h m A S I' J → I' = u2 I 20 i v → K h) : wstz h (A 20) (d 4) (nI i) v K := by
  refine ⟨hv, 4000, I 20, hM.2.1 20 (by decide), vp_in_nI hi (by omega), ?_⟩
  rw [nI_clamp (by omega)]
  exact hK _ _ (hM.stI (k := 20) i v (by decide)) rfl
theorem ld21 (hM : MR d h m A S I J) {i : Nat} (hi : i < 400) {K : Int32 → Prop} (hK : K (I 21 i)) : wldi h (A 21) (d 4) (nI i) K := by
  refine ⟨400, I 21, hM.2.1 21 (by decide), vp_in_nI hi (by omega), ?_⟩
  rw [nI_clamp (by omega)]
  exact hK
theorem st21 (hM : MR d h m A S I J) {i : Nat} (hi : i < 400) {v : Int32} (hv : v = 0 ∨ v = 1) {K : xw → Prop} (hK : ∀ h I', MR d h m A S I' J → I' = u2 I 21 i v → K h) : wstz h (A 21) (d 4) (nI i) v K := by
  refine ⟨hv, 400, I 21, hM.2.1 21 (by decide), vp_in_nI hi (by omega), ?_⟩
  rw [nI_clamp (by omega)]
  exact hK _ _ (hM.stI (k := 21) i v (by decide)) rfl
theorem ld22 (hM : MR d h m A S I J) {i : Nat} (hi : i < 400) {K : Int32 → Prop} (hK : K (I 22 i)) : wldi h (A 22) (d 2) (nI i) K := by
  refine ⟨400, I 22, hM.2.1 22 (by decide), vp_in_nI hi (by omega), ?_⟩
  rw [nI_clamp (by omega)]
  exact hK
theorem st22 (hM : MR d h m A S I J) {i : Nat} (hi : i < 400) {v : Int32} {K : xw → Prop} (hK : ∀ h I', MR d h m A S I' J → I' = u2 I 22 i v → K h) : wsti h (A 22) (d 2) (nI i) v K := by
  refine ⟨400, I 22, hM.2.1 22 (by decide), vp_in_nI hi (by omega), ?_⟩
  rw [nI_clamp (by omega)]
  exact hK _ _ (hM.stI (k := 22) i v (by decide)) rfl
theorem ld4 (hM : MR d h m A S I J) {i : Nat} (hi : i < 4000) {K : Int64 → Prop} (hK : K (J 4 i)) : wldl h (A 4) (d 3) (nI i) K := by
  refine ⟨4000, J 4, hM.2.2.1 4 (by decide), vp_in_nI hi (by omega), ?_⟩
  rw [nI_clamp (by omega)]
  exact hK
theorem st4 (hM : MR d h m A S I J) {i : Nat} (hi : i < 4000) {v : Int64} {K : xw → Prop} (hK : ∀ h J', MR d h m A S I J' → J' = u3 J 4 i v → K h) : wstl h (A 4) (d 3) (nI i) v K := by
  refine ⟨4000, J 4, hM.2.2.1 4 (by decide), vp_in_nI hi (by omega), ?_⟩
  rw [nI_clamp (by omega)]
  exact hK _ _ (hM.stJ (k := 4) i v (by decide)) rfl
theorem ld7 (hM : MR d h m A S I J) {i : Nat} (hi : i < 4000) {K : Int64 → Prop} (hK : K (J 7 i)) : wldl h (A 7) (d 3) (nI i) K := by
  refine ⟨4000, J 7, hM.2.2.1 7 (by decide), vp_in_nI hi (by omega), ?_⟩
  rw [nI_clamp (by omega)]
  exact hK
theorem st7 (hM : MR d h m A S I J) {i : Nat} (hi : i < 4000) {v : Int64} {K : xw → Prop} (hK : ∀ h J', MR d h m A S I J' → J' = u3 J 7 i v → K h) : wstl h (A 7) (d 3) (nI i) v K := by
  refine ⟨4000, J 7, hM.2.2.1 7 (by decide), vp_in_nI hi (by omega), ?_⟩
  rw [nI_clamp (by omega)]
  exact hK _ _ (hM.stJ (k := 7) i v (by decide)) rfl
theorem ld11 (hM : MR d h m A S I J) {i : Nat} (hi : i < 100) {K : Int64 → Prop} (hK : K (J 11 i)) : wldl h (A 11) (d 3) (nI i) K := by
  refine ⟨100, J 11, hM.2.2.1 11 (by decide), vp_in_nI hi (by omega), ?_⟩
  rw [nI_clamp (by omega)]
  exact hK
theorem st11 (hM : MR d h m A S I J) {i : Nat} (hi : i < 100) {v : Int64} {K : xw → Prop} (hK : ∀ h J', MR d h m A S I J' → J' = u3 J 11 i v → K h) : wstl h (A 11) (d 3) (nI i) v K := by
  refine ⟨100, J 11, hM.2.2.1 11 (by decide), vp_in_nI hi (by omega), ?_⟩
  rw [nI_clamp (by omega)]
  exact hK _ _ (hM.stJ (k := 11) i v (by decide)) rfl
theorem ld14 (hM : MR d h m A S I J) {i : Nat} (hi : i < 100) {K : Int64 → Prop} (hK : K (J 14 i)) : wldl h (A 14) (d 3) (nI i) K := by
  refine ⟨100, J 14, hM.2.2.1 14 (by decide), vp_in_nI hi (by omega), ?_⟩
  rw [nI_clamp (by omega)]
  exact hK
theorem st14 (hM : MR d h m A S I J) {i : Nat} (hi : i < 100) {v : Int64} {K : xw → Prop} (hK : ∀ h J', MR d h m A S I J' → J' = u3 J 14 i v → K h) : wstl h (A 14) (d 3) (nI i) v K := by
  refine ⟨100, J 14, hM.2.2.1 14 (by decide), vp_in_nI hi (by omega), ?_⟩
  rw [nI_clamp (by omega)]
  exact hK _ _ (hM.stJ (k := 14) i v (by decide)) rfl
theorem ld23 (hM : MR d h m A S I J) {i : Nat} (hi : i < 1) {K : Int64 → Prop} (hK : K (J 23 i)) : wldl h (A 23) (d 3) (nI i) K := by
  refine ⟨1, J 23, hM.2.2.1 23 (by decide), vp_in_nI hi (by omega), ?_⟩
  rw [nI_clamp (by omega)]
  exact hK
theorem st23 (hM : MR d h m A S I J) {i : Nat} (hi : i < 1) {v : Int64} {K : xw → Prop} (hK : ∀ h J', MR d h m A S I J' → J' = u3 J 23 i v → K h) : wstl h (A 23) (d 3) (nI i) v K := by
  refine ⟨1, J 23, hM.2.2.1 23 (by decide), vp_in_nI hi (by omega), ?_⟩
  rw [nI_clamp (by omega)]
  exact hK _ _ (hM.stJ (k := 23) i v (by decide)) rfl
end MROWS
