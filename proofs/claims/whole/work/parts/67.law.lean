/-! the law's loop -/
theorem law_loop {d : Nat → ClassId} {L : Nat} {xs : Nat → Int32} {x m : Nat} {A : Nat → Nat} (hL : L ≤ 4096) : ∀ (n t : Nat) (h : xw), t + n = 513 → 1 ≤ n → Rel d x m A t h → xloop (fun (k : Nat × Nat × Nat × Int32 → xw → Prop) (x : Nat × Nat × Nat × Int32) (h : xw) => wc_LogCleanerLaw_law_23 d L xs (fun y1 y2 y3 y4 h => k (y1, y2, y3, y4) h) x.1 x.2.1 x.2.2.1 x.2.2.2 h) n (x, m, A 23, nI (8 * t)) h := by
  intro n
  induction n with
  | zero => intro t h _ h1; exact absurd h1 (by omega)
  | succ n ih =>
    intro t h htn _ hR
    show wc_LogCleanerLaw_law_23 d L xs (fun y1 y2 y3 y4 h => xloop _ n (y1, y2, y3, y4) h) x m (A 23) (nI (8 * t)) h
    have e8 : (Int32.ofNat L - 8).toInt = (L : Int) - 8 := pk_sub_toInt (a := L) (b := 8) (by omega) (by omega)
    have et : (nI (8 * t)).toInt = ((8 * t : Nat) : Int) := nI_toInt (by omega)
    refine ⟨fun _ => trivial, fun c => ?_⟩
    have hlt : 8 * t + 8 ≤ L := by
      have : ¬ ((Int32.ofNat L - 8).toInt < (nI (8 * t)).toInt) := fun q => c (Int32.lt_iff_toInt_lt.mpr q)
      rw [e8, et] at this
      omega
    have hT : t ≤ 1000 := by omega
    have nxt : ∀ h', Rel d x m A (t + 1) h' → xloop (fun (k : Nat × Nat × Nat × Int32 → xw → Prop) (x : Nat × Nat × Nat × Int32) (h : xw) => wc_LogCleanerLaw_law_23 d L xs (fun y1 y2 y3 y4 h => k (y1, y2, y3, y4) h) x.1 x.2.1 x.2.2.1 x.2.2.2 h) n (x, m, A 23, nI (8 * t) + 8) h' := fun h' hR' => by
      have := ih (t + 1) h' (by omega) (by omega) hR'
      rw [show 8 * (t + 1) = 8 * t + 8 by omega, ← nI_add] at this
      exact this
    have i0 : vp_in (nI (8 * t)) L := vp_in_nI (by omega) (by omega)
    have hv : ∀ j : Nat, j < 8 → vp_in (nI (8 * t) + nI j) L := fun j hj => by
      rw [nI_add]
      exact vp_in_nI (by omega) (by omega)
    have i1 : vp_in (nI (8 * t) + 1) L := hv 1 (by decide)
    have i2 : vp_in (nI (8 * t) + 2) L := hv 2 (by decide)
    have i3 : vp_in (nI (8 * t) + 3) L := hv 3 (by decide)
    have i4 : vp_in (nI (8 * t) + 4) L := hv 4 (by decide)
    have i5 : vp_in (nI (8 * t) + 5) L := hv 5 (by decide)
    have i6 : vp_in (nI (8 * t) + 6) L := hv 6 (by decide)
    have i7 : vp_in (nI (8 * t) + 7) L := hv 7 (by decide)
    refine ⟨i0, fun _ => ⟨i1, i2, i3, i4, ?_⟩, fun _ => ⟨i1, ?_⟩, fun _ => ⟨i1, ?_⟩, fun _ => ⟨i1, ?_⟩, fun _ => ⟨i1, ?_⟩, fun _ => ⟨i1, i2, ?_⟩, fun _ => ⟨i1, i2, ?_⟩, fun _ => ⟨i1, i2, i3, ?_⟩, fun _ => ?_⟩
    · refine ⟨fun c4 => ?_, fun c4 => ?_⟩
      · refine ⟨i5, i6, i7, ?_⟩
        refine st_record hR (Or.inl rfl) nxt (fun r h10 hm => ⟨i1, i2, i3, i4, fun _ => ⟨i5, i6, i7, hm⟩, fun q => absurd c4 q⟩)
      · refine ⟨i5, i6, i7, ?_⟩
        refine st_record hR (Or.inr rfl) nxt (fun r h10 hm => ⟨i1, i2, i3, i4, fun q => absurd q c4, fun _ => ⟨i5, i6, i7, hm⟩⟩)
    · exact st_close hR hT nxt (fun r h10 hm => ⟨i1, hm⟩)
    · exact st_clean hR nxt (fun r h10 hm => ⟨i1, hm⟩)
    · exact st_drop hR hT nxt (fun r h10 hm => ⟨i1, hm⟩)
    · exact st_count hR nxt (fun r h10 hm => ⟨i1, hm⟩)
    · exact st_batch hR nxt (fun r h10 hm => ⟨i1, i2, hm⟩)
    · exact st_told hR nxt (fun r h10 hm => ⟨i1, i2, hm⟩)
    · exact st_latest hR nxt (fun r h10 hm => ⟨i1, i2, i3, hm⟩)
    · obtain ⟨LB, B, el, E, no, dl, ls, lf, S, I, J, hC, hP, hM, hI⟩ := hR
      exact nxt h ⟨LB, B, el, E, no, dl, ls, lf, S, I, J, hC, hP.up, hM, hI⟩
theorem law_true (d : Nat → ClassId) (L : Nat) (xs : Nat → Int32) (hL : L ≤ 4096) : wp_LogCleanerLaw_law d L xs (fun _ => none) := by
  unfold wp_LogCleanerLaw_law
  intro x hx
  refine cl_init (B := fun _ => (0, 0, 0, 0)) (el := fun _ => []) (E := fun _ => (0, 0, 0, 0, 0, 0, 0)) (xup_self _ _ _) (fun h3 hC hf3 => ?_)
  intro m hm
  refine sp_minit (xup_self _ _ _) (fun h6 A0 hIni hf6 => ?_)
  refine ⟨by decide, by decide, fun q hq => ?_⟩
  have e1 : (1 : Int32).toNatClampNeg = 1 := by decide
  rw [e1]
  obtain ⟨A, hA, hM⟩ := ini_end hIni hq
  rw [← hA]
  have hC4 : CI d (xup h3 m (.inr (4, z_LogCleanerModel))) x [] (fun _ => (0, 0, 0, 0)) (fun _ => []) (fun _ => (0, 0, 0, 0, 0, 0, 0)) 0 [] (-1) 0 := hC.fr (xfr.push xfr.rf hm)
  have hC6 := hC4.fr hf6
  have hC7 := hC6.fr (h' := xup h6 q (xal (d 3) 1 (fun _ => 0))) (xfr.push xfr.rf hq)
  rw [hA]
  refine (show Rel d x m A 0 _ → _ from fun hR => ?_) ⟨[], _, _, _, 0, [], -1, 0, _, _, _, hC7, ?_, hM, ?_⟩
  · have := law_loop (xs := xs) hL 513 0 _ rfl (by decide) hR
    rw [hA] at this
    exact this
  · refine ⟨by simp, by simp, by simp, fun pre a post e => ?_, fun e he => by simp at he, fun e he => by simp at he, fun e he => by simp at he, List.Pairwise.nil, fun _ => rfl, fun b hb => by simp at hb, ⟨by decide, by decide⟩, rfl⟩
    have := congrArg List.length e
    simp at this
  · exact ⟨rfl, rfl, rfl, rfl, fun r p hp => by simp [RLof] at hp, fun r p hp => by simp at hp, fun r p hp => by simp at hp⟩
