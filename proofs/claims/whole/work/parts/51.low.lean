/-! the lowest bytes of a key: the reference's loop and the class's mask -/
def lb (x : Int64) (i : Nat) : Bool := x.toBitVec.getLsbD i
theorem lb_ext {x y : Int64} (h : ∀ i, i < 64 → lb x i = lb y i) : x = y := Int64.toBitVec_inj.mp (BitVec.eq_of_getLsbD_eq (fun i hi => h i hi))
theorem lb_or (x y : Int64) (i : Nat) : lb (x ||| y) i = (lb x i || lb y i) := by unfold lb; rw [Int64.toBitVec_or, BitVec.getLsbD_or]
theorem lb_and (x y : Int64) (i : Nat) : lb (x &&& y) i = (lb x i && lb y i) := by unfold lb; rw [Int64.toBitVec_and, BitVec.getLsbD_and]
theorem lb_big {x : Int64} {i : Nat} (h : 64 ≤ i) : lb x i = false := BitVec.getLsbD_of_ge _ _ h
theorem lb_0 (i : Nat) : lb 0 i = false := BitVec.getLsbD_zero
theorem lb_255 : ∀ i, i < 64 → lb 255 i = decide (i < 8) := by decide +kernel
theorem lb_mask : ∀ n, n < 8 → ∀ i, i < 64 → lb ((1 <<< ((nI n * 8).toInt64 &&& 63)) - 1) i = decide (i < 8 * n) := by decide +kernel
theorem lb_s8 : (((8 : Int32).toInt64 &&& 63).toBitVec.smod 64).toNat = 8 := by decide +kernel
theorem lb_sn : ∀ n, n < 8 → ((((8 : Int32) * nI n).toInt64 &&& 63).toBitVec.smod 64).toNat = 8 * n := by decide +kernel
theorem lb_shl8 (x : Int64) {i : Nat} (hi : i < 64) : lb (x <<< ((8 : Int32).toInt64 &&& 63)) i = (decide (8 ≤ i) && lb x (i - 8)) := by
  unfold lb
  rw [Int64.toBitVec_shiftLeft]
  show (x.toBitVec <<< (((8 : Int32).toInt64 &&& 63).toBitVec.smod 64).toNat).getLsbD i = _
  rw [lb_s8, BitVec.getLsbD_shiftLeft]
  rcases Nat.lt_or_ge i 8 with h | h
  · simp [h, Nat.not_le.mpr h]
  · simp [hi, h, Nat.not_lt.mpr h]
theorem lb_shr (n : Nat) (hn : n < 8) (x : Int64) {i : Nat} (hi : i < 64) (hb : 8 * n + i < 64) : lb (x >>> ((8 * nI n).toInt64 &&& 63)) i = lb x (8 * n + i) := by
  unfold lb
  rw [Int64.toBitVec_shiftRight]
  show (x.toBitVec.sshiftRight (((8 : Int32) * nI n).toInt64 &&& 63 |>.toBitVec.smod 64).toNat).getLsbD i = _
  rw [lb_sn n hn, BitVec.getLsbD_sshiftRight]
  simp [hb, Nat.not_le.mpr hi]
theorem low_step {k v : Int64} {n j : Nat} (hj : j + 1 ≤ n) (hn : n ≤ 8) (hv : ∀ t, t < 64 → lb v t = (decide (t < 8 * (n - (j + 1))) && lb k (8 * (j + 1) + t))) :
    ∀ t, t < 64 → lb ((v <<< ((8 : Int32).toInt64 &&& 63)) ||| ((k >>> ((8 * nI j).toInt64 &&& 63)) &&& 255)) t = (decide (t < 8 * (n - j)) && lb k (8 * j + t)) := by
  intro t ht
  rw [lb_or, lb_and, lb_shl8 _ ht, lb_255 t ht]
  rcases Nat.lt_or_ge t 8 with c | c
  · rw [decide_eq_false (by omega : ¬ 8 ≤ t), decide_eq_true c, decide_eq_true (by omega : t < 8 * (n - j)), lb_shr j (by omega) k ht (by omega)]
    simp
  · rw [decide_eq_true c, decide_eq_false (by omega : ¬ t < 8), hv (t - 8) (by omega), show 8 * (j + 1) + (t - 8) = 8 * j + t by omega]
    simp only [Bool.true_and, Bool.and_false, Bool.or_false]
    congr 1
    exact decide_eq_decide.mpr (by omega)
theorem low_end {k v : Int64} {n : Nat} (hn : n ≤ 8) (hv : ∀ t, t < 64 → lb v t = (decide (t < 8 * n) && lb k t)) : v = lowB k (nI n) := by
  apply lb_ext
  intro t ht
  rw [hv t ht]
  unfold lowB
  have e8 : (8 : Int32) = nI 8 := by decide
  rcases Nat.eq_zero_or_pos n with c | c
  · subst c
    rw [if_neg (by decide), lb_0]
    simp
  · rw [if_pos (by rw [← nI_0]; exact nI_lt c (by omega))]
    rcases Nat.lt_or_ge n 8 with c2 | c2
    · rw [if_pos (by rw [e8]; exact nI_lt c2 (by omega)), lb_and, lb_mask n c2 t ht, Bool.and_comm]
    · have : n = 8 := by omega
      subst this
      rw [if_neg (by decide), decide_eq_true (by omega)]
      simp
theorem kb_of {kb : Int32} (h1 : -1 ≤ kb) (h2 : kb ≤ 8) : kb = -1 ∨ ∃ n, n ≤ 8 ∧ kb = nI n := by
  by_cases c : kb < 0
  · left
    have a1 := Int32.le_iff_toInt_le.mp h1
    have a2 := Int32.lt_iff_toInt_lt.mp c
    have e1 : (-1 : Int32).toInt = -1 := by decide
    have e2 : (0 : Int32).toInt = 0 := by decide
    exact Int32.toInt_inj.mp (by omega)
  · right
    obtain ⟨j, hj, e⟩ := nI_of2 (M := 8) (n := 8) (by decide) c h2
    exact ⟨j, hj, e⟩
theorem sp_mlow {d : Nat → ClassId} {h : xw} {k : Int64} {kb : Int32} {Q : Int64 → xw → Prop} (h1 : -1 ≤ kb) (h2 : kb ≤ 8) (hQ : Q (lowB k kb) h) : wp_LogCleanerModel_lowest d h k kb Q := by
  unfold wp_LogCleanerModel_lowest
  rcases kb_of h1 h2 with c | ⟨n, hn, c⟩
  · subst c
    refine ⟨1, ?_⟩
    rw [xloop]
    unfold wc_LogCleanerModel_lowest_7
    refine ⟨fun _ => ?_, fun c => absurd (show ((-1 : Int32) - 1 < 0) by decide) c⟩
    have e : lowB k (-1) = 0 := by unfold lowB; rw [if_neg (by decide)]
    rw [e] at hQ
    exact hQ
  · subst c
    refine wLoop_ind (fun x h' => h' = h ∧ ∃ j v, j ≤ n ∧ x = (k, v, nI j - 1) ∧ ∀ t, t < 64 → lb v t = (decide (t < 8 * (n - j)) && lb k (8 * j + t))) (fun x _ => (x.2.2 + 1).toNatClampNeg) ?_ _ _ ⟨rfl, n, 0, Nat.le_refl _, rfl, fun t _ => by rw [lb_0, Nat.sub_self]; simp⟩
    rintro x h' kk ⟨rfl, j, v, hj, rfl, hv⟩ hk
    show wc_LogCleanerModel_lowest_7 d Q _ k v (nI j - 1) h'
    cases j with
    | zero =>
      refine ⟨fun _ => ?_, fun c => absurd (by decide) c⟩
      have e := low_end (k := k) (v := v) hn (fun t ht => by rw [hv t ht]; simp)
      rw [e]
      exact hQ
    | succ j =>
      rw [nI_pred]
      refine ⟨fun c => absurd c (nI_pos (by omega)), fun _ => ?_⟩
      refine hk _ _ ⟨rfl, j, _, by omega, ?_, low_step hj hn hv⟩ ?_
      · rw [i32_m1]
      · show (nI j + -1 + 1).toNatClampNeg < (nI (j + 1) - 1 + 1).toNatClampNeg
        rw [i32_m1, nI_pred, nI_1, nI_clamp (by omega)]
        have : nI j - 1 + 1 = nI j := by rw [← i32_m1, Int32.add_assoc]; exact Int32.add_zero _
        rw [this, nI_clamp (by omega)]
        omega
