/-! packing -/
def va_up2 (f : Nat → Int32) (k : Nat) (v : Int32) : Nat → Int32 := fun j => if j = k then v else f j
theorem va_up2_self (f : Nat → Int32) (k : Nat) (v : Int32) : va_up2 f k v k = v := if_pos rfl
theorem va_up2_ne (f : Nat → Int32) {k j : Nat} {v : Int32} (h : j ≠ k) : va_up2 f k v j = f j := if_neg h
def plc (s : Int32 × Int32) (sz : Int32) : Int32 × Int32 := if s.1 = -1 ∨ ¬ s.2 + sz ≤ 1000 then (s.1 + 1, 0 + sz) else (s.1, s.2 + sz)
theorem sp_place2 {d : Nat → ClassId} {h : xw} {a : Nat} {s : Int32 × Int32} {sz : Int32} {Q : Int32 → xw → Prop} (hp : h a = some (o_P s.1 s.2)) (hQ : Q (plc s sz).1 (xup h a (o_P (plc s sz).1 (plc s sz).2))) : wp_Packing_place d h a sz Q := by
  refine sp_place hp (fun c => ?_) (fun c => ?_)
  · rw [plc, if_pos c] at hQ
    rw [xup_xup, xup_xup]
    exact hQ
  · rw [plc, if_neg c] at hQ
    exact hQ
theorem sp_Pinit {d : Nat → ClassId} {h : xw} {a : Nat} {Q : xw → Prop} (hp : h a = some (.inr (3, z_Packing))) (hQ : Q (xup h a (o_P (-1) 0))) : wp_Packing_init d h a Q := by
  unfold wp_Packing_init
  refine ⟨_, hp, Nat.le_of_ble_eq_true rfl, ?_⟩
  refine ⟨_, xup_self _ _ _, Nat.le_of_ble_eq_true rfl, ?_⟩
  rw [xup_xup]
  exact hQ
/-- the segments that batches of these sizes come into -/
def segsOf : Int32 × Int32 → List Int32 → List Int32
  | _, [] => []
  | s, z :: r => (plc s z).1 :: segsOf (plc s z) r
theorem segsOf_snoc (s : Int32 × Int32) (l : List Int32) (z : Int32) : segsOf s (l ++ [z]) = segsOf s l ++ [(plc (l.foldl plc s) z).1] := by
  induction l generalizing s with
  | nil => rfl
  | cons y r ih => simp [segsOf, ih]
theorem takeWhile_get {p : Nat → Bool} {L : List Nat} {i : Nat} (hi : i < (L.takeWhile p).length) : ∃ h : i < L.length, p L[i] = true := by
  have h1 : i < L.length := Nat.lt_of_lt_of_le hi (List.takeWhile_prefix p).length_le
  refine ⟨h1, ?_⟩
  have h2 : (L.takeWhile p)[i] = L[i] := (List.takeWhile_prefix p).getElem hi
  have h3 : (L.takeWhile p)[i] ∈ L.takeWhile p := List.getElem_mem hi
  rw [← h2]
  exact List.all_eq_true.mp List.all_takeWhile _ h3
theorem takeWhile_stop {p : Nat → Bool} {L : List Nat} (hi : (L.takeWhile p).length < L.length) : p L[(L.takeWhile p).length] = false := by
  induction L with
  | nil => simp at hi
  | cons a r ih =>
    cases hp : p a with
    | false => simp [List.takeWhile_cons, hp]
    | true =>
      simp only [List.takeWhile_cons, hp, if_true, List.length_cons] at hi ⊢
      simp only [List.getElem_cons_succ]
      exact ih (by omega)
theorem sp_pack {d : Nat → ClassId} {h : xw} {x ab pk ad : Nat} {rc no dc ls lf : Int32} {LB : List Nat} {g : Nat → Option Nat} {B : Nat → BF} {el : Nat → List Nat} {E : Nat → EV} {Q : xw → Prop} (hx : h x = some (o_L ab (nI LB.length) rc no pk ad dc)) (hp : h pk = some (o_P ls lf)) (hab : h ab = some (xaq (d 1) 400 g)) (hg : ∀ i b, LB[i]? = some b → g i = some b) (hle : LB.length ≤ 400) (hnd : LB.Nodup)
    (hRB : ∀ b ∈ LB, RB d h b (B b).1 (B b).2.1 (B b).2.2.1 (B b).2.2.2 (el b)) (hE : ∀ e ∈ LB.flatMap el, h e = some (oE (E e))) {m : Nat} (hm : m = (LB.takeWhile (fun b => decide ((B b).2.2.2 < ls))).length) {op : Int32} (hop : op = (((LB.take m).map (fun b => bsz E (el b))).foldl plc (-1, 0)).1 + 1)
    (hQ : ∀ h' q (sg : Nat → Int32), h q = none → (∀ b ∈ LB, h' b = some (o_B (B b).1 (B b).2.1 (B b).2.2.1 (nI (el b).length) (sg b))) → (LB.take m).map sg = segsOf (-1, 0) ((LB.take m).map (fun b => bsz E (el b))) → (∀ b ∈ LB.drop m, sg b = op) → h' pk = some (o_P op lf) → (∀ a, a ∉ LB → a ≠ pk → a ≠ q → h' a = h a) → Q h') : wp_LogCleaner_packClosedSegments d h x Q := by
  have hml : m ≤ LB.length := by rw [hm]; exact (List.takeWhile_prefix _).length_le
  have hxp : x ≠ pk := ne_obj hx hp L_ne_P
  have hxn : x ∉ LB := fun q => absurd rfl (ne_obj (hRB x q).1 hx B_ne_L)
  have hpn : pk ∉ LB := fun q => absurd rfl (ne_obj (hRB pk q).1 hp B_ne_P)
  have habn : ab ∉ LB := fun q => absurd rfl (ne_oe_arr (hRB ab q).1 hab)
  unfold wp_LogCleaner_packClosedSegments
  intro q hq
  have old : ∀ a o, h a = some o → a ≠ q := fun a o ha e => by subst e; rw [hq] at ha; cases ha
  refine sp_Pinit (xup_self _ _ _) ?_
  rw [xup_xup]
  refine wLoop_ind (fun y h' => ∃ i, ∃ sg : Nat → Int32, i ≤ m ∧ y = (x, q, nI i) ∧ h' q = some (o_P (((LB.take i).map (fun b => bsz E (el b))).foldl plc (-1, 0)).1 (((LB.take i).map (fun b => bsz E (el b))).foldl plc (-1, 0)).2) ∧ (LB.take i).map sg = segsOf (-1, 0) ((LB.take i).map (fun b => bsz E (el b))) ∧ (∀ b ∈ LB.take i, h' b = some (o_B (B b).1 (B b).2.1 (B b).2.2.1 (nI (el b).length) (sg b))) ∧ (∀ b ∈ LB.drop i, h' b = h b) ∧ ∀ a, a ∉ LB → a ≠ q → h' a = h a) (fun y _ => LB.length + 1 - y.2.2.toNatClampNeg) ?_ _ _ ⟨0, fun _ => 0, Nat.zero_le _, rfl, xup_self _ _ _, rfl, fun b hb => by simp at hb, fun b hb => xup_ne _ _ (old b _ (hRB b (List.mem_of_mem_drop hb)).1), fun a n1 n2 => xup_ne _ _ n2⟩
  rintro y h' k0 ⟨i, sg, hi, rfl, hq', hsg, hk1, hk2, hk3⟩ hk
  have hx' : h' x = some (o_L ab (nI LB.length) rc no pk ad dc) := by rw [hk3 x hxn (old x _ hx)]; exact hx
  have hp' : h' pk = some (o_P ls lf) := by rw [hk3 pk hpn (old pk _ hp)]; exact hp
  have ha' : h' ab = some (xaq (d 1) 400 g) := by rw [hk3 ab habn (old ab _ hab)]; exact hab
  -- the rest comes into the open one
  have rest : i = m → wb_LogCleaner_packClosedSegments_59 d Q x q (nI i) h' := fun him => by
    subst him
    refine g_P_0 hq' ?_
    rw [← hop]
    refine wLoop_ind (fun y h2 => ∃ j, ∃ sg2 : Nat → Int32, i ≤ j ∧ j ≤ LB.length ∧ y = (x, nI j, op) ∧ (∀ b ∈ LB.take i, sg2 b = sg b) ∧ (∀ b ∈ (LB.drop i).take (j - i), sg2 b = op) ∧ (∀ b ∈ LB.take j, h2 b = some (o_B (B b).1 (B b).2.1 (B b).2.2.1 (nI (el b).length) (sg2 b))) ∧ (∀ b ∈ LB.drop j, h2 b = h b) ∧ ∀ a, a ∉ LB → a ≠ q → h2 a = h a) (fun y _ => LB.length + 1 - y.2.1.toNatClampNeg) ?_ _ _ ⟨i, sg, Nat.le_refl _, hml, rfl, fun _ _ => rfl, fun b hb => by simp at hb, hk1, hk2, hk3⟩
    rintro y h2 k1 ⟨j, sg2, hj1, hj2, rfl, hs1, hs2, ht1, ht2, ht3⟩ hk4
    have hx2 : h2 x = some (o_L ab (nI LB.length) rc no pk ad dc) := by rw [ht3 x hxn (old x _ hx)]; exact hx
    have hp2 : h2 pk = some (o_P ls lf) := by rw [ht3 pk hpn (old pk _ hp)]; exact hp
    have ha2 : h2 ab = some (xaq (d 1) 400 g) := by rw [ht3 ab habn (old ab _ hab)]; exact hab
    show wc_LogCleaner_packClosedSegments_66 d Q _ x (nI j) op h2
    refine g_L_1 hx2 ?_
    refine ⟨fun c => ?_, fun c => ?_⟩
    · have h1 := (nI_leI (by omega) (by omega)).mp c
      have h3 : j = LB.length := by omega
      subst h3
      refine g_L_4 hx2 ?_
      refine ⟨_, rfl, ?_⟩
      refine p_P_0 hp2 ?_
      rw [List.take_length] at ht1
      refine hQ _ q sg2 hq (fun b hb => ?_) ?_ (fun b hb => hs2 b ?_) (xup_self _ _ _) (fun a n1 n2 n3 => ?_)
      · rw [xup_ne _ _ (fun e => hpn (by rw [← e]; exact hb))]
        exact ht1 b hb
      · rw [← hsg]
        exact List.map_congr_left hs1
      · rw [List.take_of_length_le (by rw [List.length_drop]; omega)]
        exact hb
      · rw [xup_ne _ _ n2]
        exact ht3 a n1 n3
    · have hlt : j < LB.length := by
        rcases Nat.lt_or_ge j LB.length with h1 | h1
        · exact h1
        · exact absurd ((nI_leI (by omega) (by omega)).mpr h1) c
      have hLj : LB[j]? = some LB[j] := List.getElem?_eq_getElem hlt
      have hbm : LB[j] ∈ LB := List.getElem_mem hlt
      have hbd : LB[j] ∈ LB.drop j := by rw [List.drop_eq_getElem_cons hlt]; exact List.mem_cons_self
      obtain ⟨hn1, hn2⟩ := nodup_at hnd hlt
      refine g_L_0 hx2 ?_
      refine ⟨_, rfl, ?_⟩
      refine wldq_n ha2 (by omega) (by omega) ?_
      rw [hg j LB[j] hLj]
      refine ⟨_, rfl, ?_⟩
      refine p_B_4 ((ht2 _ hbd).trans (hRB _ hbm).1) ?_
      have hne : ∀ b ∈ LB.take j, b ≠ LB[j] := fun b hb e => hn1 (by rw [← e]; exact hb)
      refine hk4 _ _ ⟨j + 1, va_up2 sg2 LB[j] op, by omega, hlt, by rw [← nI_1 j], fun b hb => ?_, fun b hb => ?_, fun b hb => ?_, fun b hb => ?_, fun a n1 n2 => ?_⟩ ?_
      · rw [va_up2_ne _ (hne b (List.take_subset_take_left _ hj1 hb))]
        exact hs1 b hb
      · have hcut : (LB.drop i).take (j + 1 - i) = (LB.drop i).take (j - i) ++ [LB[j]] := by
          rw [show j + 1 - i = (j - i) + 1 by omega, List.take_succ_eq_append_getElem (by rw [List.length_drop]; omega)]
          congr 2
          rw [List.getElem_drop]
          congr 1
          omega
        rw [hcut] at hb
        by_cases e : b = LB[j]
        · rw [e, va_up2_self]
        · rw [va_up2_ne _ e]
          rcases List.mem_append.mp hb with h1 | h1
          · exact hs2 b h1
          · exact absurd (List.mem_singleton.mp h1) e
      · rcases take_mem_succ hlt hb with h1 | h1
        · rw [xup_ne _ _ (hne b h1), va_up2_ne _ (hne b h1)]
          exact ht1 b h1
        · subst h1
          rw [va_up2_self]
          exact xup_self _ _ _
      · rw [xup_ne _ _ (fun e => hn2 (by rw [← e]; exact hb))]
        exact ht2 b (mem_drop_cons hlt hb)
      · rw [xup_ne _ _ (fun e => n1 (by rw [e]; exact hbm))]
        exact ht3 a n1 n2
      · show LB.length + 1 - (nI j + 1).toNatClampNeg < LB.length + 1 - (nI j).toNatClampNeg
        rw [nI_1, nI_clamp (by omega), nI_clamp (by omega)]
        omega
  show wc_LogCleaner_packClosedSegments_10 d Q _ x q (nI i) h'
  refine g_L_1 hx' ?_
  refine ⟨fun c => ?_, fun c => ?_⟩
  · have h1 := (nI_leI (by omega) (by omega)).mp c
    exact rest (by omega)
  · have hlt : i < LB.length := by
      rcases Nat.lt_or_ge i LB.length with h1 | h1
      · exact h1
      · exact absurd ((nI_leI (by omega) (by omega)).mpr h1) c
    have hLi : LB[i]? = some LB[i] := List.getElem?_eq_getElem hlt
    have hbm : LB[i] ∈ LB := List.getElem_mem hlt
    have hbd : LB[i] ∈ LB.drop i := by rw [List.drop_eq_getElem_cons hlt]; exact List.mem_cons_self
    have hb := (hk2 _ hbd).trans (hRB _ hbm).1
    obtain ⟨hn1, hn2⟩ := nodup_at hnd hlt
    refine g_L_0 hx' ?_
    refine ⟨_, rfl, ?_⟩
    refine wldq_n ha' (by omega) (by omega) ?_
    rw [hg i LB[i] hLi]
    refine is_L hx' ?_
    refine sp_isClosed hx' hp' hb (fun hcl => ?_) (fun hcl => ?_)
    · refine ⟨fun e => absurd e (by decide), fun _ => ?_⟩
      have him : i < m := by
        rcases Nat.lt_or_ge i m with h1 | h1
        · exact h1
        · have h2 : i = m := by omega
          rw [hm] at h2
          have h3 := takeWhile_stop (p := fun b => decide ((B b).2.2.2 < ls)) (L := LB) (by omega)
          simp only [← h2] at h3
          simp [hcl] at h3
      refine g_L_0 hx' ?_
      refine ⟨_, rfl, ?_⟩
      refine wldq_n ha' (by omega) (by omega) ?_
      rw [hg i LB[i] hLi]
      refine g_L_0 hx' ?_
      refine ⟨_, rfl, ?_⟩
      refine wldq_n ha' (by omega) (by omega) ?_
      rw [hg i LB[i] hLi]
      refine ⟨_, rfl, ?_⟩
      refine is_B hb ?_
      have hbr : RB d h' LB[i] (B LB[i]).1 (B LB[i]).2.1 (B LB[i]).2.2.1 (B LB[i]).2.2.2 (el LB[i]) := by
        obtain ⟨r1, cap, g2, r2, r3⟩ := hRB _ hbm
        refine ⟨hb, cap, g2, ?_, r3⟩
        rw [hk3 _ (fun e => absurd rfl (ne_oe_arr (hRB _ e).1 r2)) (old _ _ r2)]
        exact r2
      refine sp_Bsize (E := E) hbr (fun a ha => ?_) ?_
      · have h1 := hE a (mem_flat hbm ha)
        rw [hk3 a (fun e => absurd rfl (ne_obj (hRB a e).1 h1 (Ne.symm E_ne_B))) (old a _ h1)]
        exact h1
      · refine is_P hq' ?_
        refine sp_place2 hq' ?_
        have hqb : LB[i] ≠ q := old _ _ (hRB _ hbm).1
        refine ⟨_, rfl, ?_⟩
        refine p_B_4 (by rw [xup_ne _ _ hqb]; exact hb) ?_
        have hcut : LB.take (i + 1) = LB.take i ++ [LB[i]] := List.take_succ_eq_append_getElem hlt
        have hne : ∀ b ∈ LB.take i, b ≠ LB[i] := fun b hb e => hn1 (by rw [← e]; exact hb)
        refine hk _ _ ⟨i + 1, va_up2 sg LB[i] (plc (((LB.take i).map (fun b => bsz E (el b))).foldl plc (-1, 0)) (bsz E (el LB[i]))).1, him, by rw [← nI_1 i], ?_, ?_, fun b hb => ?_, fun b hb => ?_, fun a n1 n2 => ?_⟩ ?_
        · rw [xup_ne _ _ (Ne.symm hqb), hcut, List.map_append, List.foldl_append]
          exact xup_self _ _ _
        · rw [hcut, List.map_append, List.map_append]
          simp only [List.map_cons, List.map_nil]
          rw [segsOf_snoc, va_up2_self, ← hsg]
          congr 1
          exact List.map_congr_left (fun b hb => va_up2_ne _ (hne b hb))
        · rcases take_mem_succ hlt hb with h1 | h1
          · rw [xup_ne _ _ (hne b h1), va_up2_ne _ (hne b h1), xup_ne _ _ (old b _ (hRB b (List.mem_of_mem_take h1)).1)]
            exact hk1 b h1
          · subst h1
            rw [va_up2_self]
            exact xup_self _ _ _
        · rw [xup_ne _ _ (fun e => hn2 (by rw [← e]; exact hb)), xup_ne _ _ (old b _ (hRB b (List.mem_of_mem_drop hb)).1)]
          exact hk2 b (mem_drop_cons hlt hb)
        · rw [xup_ne _ _ (fun e => n1 (by rw [e]; exact hbm)), xup_ne _ _ n2]
          exact hk3 a n1 n2
        · show LB.length + 1 - (nI i + 1).toNatClampNeg < LB.length + 1 - (nI i).toNatClampNeg
          rw [nI_1, nI_clamp (by omega), nI_clamp (by omega)]
          omega
    · refine ⟨fun _ => ?_, fun e => absurd rfl e⟩
      refine rest ?_
      rcases Nat.lt_or_ge i m with h1 | h1
      · rw [hm] at h1
        obtain ⟨h2, h3⟩ := takeWhile_get h1
        simp at h3
        exact absurd h3 hcl
      · omega
