/-! clean -/
theorem rmv_sub (B : Nat → BF) (el : Nat → List Nat) (ls : Int32) (L : List Nat) : (rmv B el ls L).Sublist L := by
  induction L with
  | nil => exact List.Sublist.refl _
  | cons b rest ih =>
    unfold rmv
    split
    · exact ih.cons _
    · exact ih.cons₂ _
theorem rmv_flat (B : Nat → BF) (el : Nat → List Nat) (ls : Int32) (L : List Nat) : (rmv B el ls L).flatMap el = L.flatMap el := by
  induction L with
  | nil => rfl
  | cons b rest ih =>
    unfold rmv
    split
    · rename_i c
      simp only [Bool.and_eq_true, List.isEmpty_iff] at c
      rw [ih, List.flatMap_cons, c.2.1, List.nil_append]
    · rw [List.flatMap_cons, List.flatMap_cons, ih]
theorem sum_le {el : Nat → List Nat} {L : List Nat} {b : Nat} (hb : b ∈ L) : (el b).length ≤ (L.flatMap el).length := by
  induction L with
  | nil => cases hb
  | cons a r ih =>
    rw [List.flatMap_cons, List.length_append]
    rcases List.mem_cons.mp hb with h | h
    · subst h; omega
    · have := ih h; omega
theorem elG_len (B : Nat → BF) (el : Nat → List Nat) (E : Nat → EV) (ls t : Int32) (b : Nat) : (elG B el E ls t b).length ≤ (el b).length := by
  unfold elG
  split
  · exact List.length_filter_le _ _
  · exact Nat.le_refl _
theorem elG_sub (B : Nat → BF) (el : Nat → List Nat) (E : Nat → EV) (ls t : Int32) (b : Nat) : (elG B el E ls t b).Sublist (el b) := by
  unfold elG
  split
  · exact List.filter_sublist
  · exact List.Sublist.refl _
theorem flat_len (B : Nat → BF) (el : Nat → List Nat) (E : Nat → EV) (ls t : Int32) (L : List Nat) : (L.flatMap (elG B el E ls t)).length ≤ (L.flatMap el).length := by
  induction L with
  | nil => exact Nat.le_refl _
  | cons a r ih =>
    rw [List.flatMap_cons, List.flatMap_cons, List.length_append, List.length_append]
    have := elG_len B el E ls t a
    omega
theorem flat_sub (B : Nat → BF) (el : Nat → List Nat) (E : Nat → EV) (ls t : Int32) (L : List Nat) : (L.flatMap (elG B el E ls t)).Sublist (L.flatMap el) := by
  induction L with
  | nil => exact List.Sublist.refl _
  | cons a r ih =>
    rw [List.flatMap_cons, List.flatMap_cons]
    exact (elG_sub B el E ls t a).append ih
/-- the class's count of what went, as a number -/
theorem wentG_n (B : Nat → BF) (el : Nat → List Nat) (E : Nat → EV) (ls t : Int32) (L : List Nat) : wentG B el E ls t L = nI ((L.flatMap el).length - (L.flatMap (elG B el E ls t)).length) := by
  have key : ∀ (L : List Nat) (z : Nat), L.foldl (fun z b => if (B b).2.2.2 < ls then z + (nI (el b).length - nI (elG B el E ls t b).length) else z) (nI z) = nI (z + ((L.flatMap el).length - (L.flatMap (elG B el E ls t)).length)) := by
    intro L
    induction L with
    | nil => intro z; simp
    | cons a r ih =>
      intro z
      rw [List.foldl_cons, List.flatMap_cons, List.flatMap_cons, List.length_append, List.length_append]
      have h1 := elG_len B el E ls t a
      have h2 := flat_len B el E ls t r
      by_cases c : (B a).2.2.2 < ls
      · rw [if_pos c, pk_sub h1, nI_add, ih]
        congr 1
        omega
      · rw [if_neg c, ih]
        have h3 : elG B el E ls t a = el a := if_neg c
        rw [h3]
        congr 1
        omega
  have := key L 0
  rw [nI_0, Nat.zero_add] at this
  exact this
theorem sp_clean {d : Nat → ClassId} {h : xw} {x ab pk ad : Nat} {no dc ls lf t : Int32} {LB : List Nat} {g : Nat → Option Nat} {B : Nat → BF} {el : Nat → List Nat} {E : Nat → EV} {Q : Int32 → xw → Prop} {X : String → xw → Prop} (hx : h x = some (o_L ab (nI LB.length) (nI (LB.flatMap el).length) no pk ad dc)) (hp : h pk = some (o_P ls lf)) (hab : h ab = some (xaq (d 1) 400 g)) (hg : ∀ i b, LB[i]? = some b → g i = some b) (hle : LB.length ≤ 400) (hnd : LB.Nodup)
    (hda : ∀ b ∈ LB, ∀ c ∈ LB, b ≠ c → (B b).2.2.1 ≠ (B c).2.2.1) (hna : ∀ b ∈ LB, (B b).2.2.1 ≠ ab)
    (hRB : ∀ b ∈ LB, RB d h b (B b).1 (B b).2.1 (B b).2.2.1 (B b).2.2.2 (el b)) (hE : ∀ e ∈ LB.flatMap el, h e = some (oE (E e))) (hlen : (LB.flatMap el).length ≤ 4000) {el2 : Nat → List Nat} (hel2 : el2 = elG B el E ls (t - 1000)) {L2 : List Nat} (hL2 : L2 = rmv B el2 ls LB) {m : Nat} (hm : m = (L2.takeWhile (fun b => decide ((B b).2.2.2 < ls))).length) {op : Int32} (hop : op = (((L2.take m).map (fun b => bsz E (el2 b))).foldl plc (-1, 0)).1 + 1)
    (hIA : ¬ 0 ≤ t → X IAE h)
    (hQ0 : 0 ≤ t → (LB.flatMap el).length = (L2.flatMap el2).length → L2.length = LB.length → ∀ h' g', h' x = some (o_L ab (nI L2.length) (nI (L2.flatMap el2).length) no pk ad dc) → h' ab = some (xaq (d 1) 400 g') → (∀ j b, L2[j]? = some b → g' j = some b) → (∀ b ∈ L2, RB d h' b (B b).1 (B b).2.1 (B b).2.2.1 (B b).2.2.2 (el2 b)) → (∀ a, a ∉ LB → a ∉ LB.map (fun b => (B b).2.2.1) → a ≠ x → a ≠ ab → h' a = h a) → Q 0 h')
    (hQ1 : 0 ≤ t → ¬ ((LB.flatMap el).length = (L2.flatMap el2).length ∧ L2.length = LB.length) → ∀ h' g' q (sg : Nat → Int32), h q = none → h' x = some (o_L ab (nI L2.length) (nI (L2.flatMap el2).length) no pk ad dc) → h' ab = some (xaq (d 1) 400 g') → (∀ j b, L2[j]? = some b → g' j = some b) → (∀ b ∈ L2, RB d h' b (B b).1 (B b).2.1 (B b).2.2.1 (sg b) (el2 b)) → (L2.take m).map sg = segsOf (-1, 0) ((L2.take m).map (fun b => bsz E (el2 b))) → (∀ b ∈ L2.drop m, sg b = op) → h' pk = some (o_P op lf) → (∀ a, a ∉ LB → a ∉ LB.map (fun b => (B b).2.2.1) → a ≠ x → a ≠ ab → a ≠ pk → a ≠ q → h' a = h a) → Q (nI ((LB.flatMap el).length - (L2.flatMap el2).length)) h') : wp_LogCleaner_clean d h x t Q X := by
  have hfl : L2.flatMap el2 = LB.flatMap el2 := by rw [hL2]; exact rmv_flat B el2 ls LB
  have hfle : (LB.flatMap el2).length ≤ (LB.flatMap el).length := by rw [hel2]; exact flat_len B el E ls (t - 1000) LB
  have hL2l : L2.length ≤ LB.length := by rw [hL2]; exact rmv_len B el2 ls LB
  have hsub : L2.Sublist LB := by rw [hL2]; exact rmv_sub B el2 ls LB
  rw [hfl] at hQ0 hQ1
  unfold wp_LogCleaner_clean
  refine ⟨fun c => ?_, fun c => hIA c⟩
  have obj_na : ∀ a o, h a = some (.inr o) → a ∉ LB.map (fun b => (B b).2.2.1) := fun a o ha q => by
    obtain ⟨b, hb, rfl⟩ := List.mem_map.mp q
    obtain ⟨-, cap, g2, h2, -⟩ := hRB b hb
    exact absurd rfl (ne_oe_arr ha h2)
  have hpn : pk ∉ LB := fun q => absurd rfl (ne_obj (hRB pk q).1 hp B_ne_P)
  have hpx : pk ≠ x := Ne.symm (ne_obj hx hp L_ne_P)
  have habn : ab ∉ LB := fun q => absurd rfl (ne_oe_arr (hRB ab q).1 hab)
  have haba : ab ∉ LB.map (fun b => (B b).2.2.1) := fun q => by
    obtain ⟨b, hb, e⟩ := List.mem_map.mp q
    exact hna b hb e
  have habx : ab ≠ x := Ne.symm (ne_oe_arr hx hab)
  refine is_L hx ?_
  refine sp_removeGoneRecords hx hp hab hg hle hnd hda hna hRB hE (fun h1 h1x h1B h1o => ?_)
  rw [← hel2] at h1B
  rw [wentG_n, ← hel2] at h1x ⊢
  rw [pk_sub (by omega), show (LB.flatMap el).length - ((LB.flatMap el).length - (LB.flatMap el2).length) = (LB.flatMap el2).length by omega] at h1x
  have h1p : h1 pk = some (o_P ls lf) := (h1o pk hpn (obj_na pk _ hp) hpx).trans hp
  have h1ab : h1 ab = some (xaq (d 1) 400 g) := (h1o ab habn haba habx).trans hab
  refine is_L h1x ?_
  refine sp_removeEmptied (el := el2) (B := B) h1x h1p h1ab hg hle (fun b hb => ?_) (fun g' hg' => ?_)
  · obtain ⟨r1, cap, g2, r2, r3, r4, r5⟩ := h1B b hb
    exact ⟨by omega, r1⟩
  rw [← hL2] at hg' ⊢
  generalize hh2 : xup (xup h1 ab (xaq (d 1) 400 g')) x (o_L ab (nI L2.length) (nI (LB.flatMap el2).length) no pk ad dc) = h2
  have h2x : h2 x = some (o_L ab (nI L2.length) (nI (LB.flatMap el2).length) no pk ad dc) := by rw [← hh2]; exact xup_self _ _ _
  have h2ab : h2 ab = some (xaq (d 1) 400 g') := by rw [← hh2, xup_ne _ _ habx]; exact xup_self _ _ _
  have h2o : ∀ a, a ≠ x → a ≠ ab → h2 a = h1 a := fun a n1 n2 => by rw [← hh2, xup_ne _ _ n1, xup_ne _ _ n2]
  have h2B : ∀ b ∈ L2, RB d h2 b (B b).1 (B b).2.1 (B b).2.2.1 (B b).2.2.2 (el2 b) := fun b hb => by
    have hb1 := h1B b (hsub.subset hb)
    obtain ⟨r1, cap, g2, r2, r3⟩ := hb1
    refine RB.congr ⟨r1, cap, g2, r2, r3⟩ ?_ ?_
    · exact h2o b (ne_obj r1 h1x B_ne_L) (ne_oe_arr r1 h1ab)
    · exact h2o _ (Ne.symm (ne_oe_arr h1x r2)) (hna b (hsub.subset hb))
  have h2rest : ∀ a, a ∉ LB → a ∉ LB.map (fun b => (B b).2.2.1) → a ≠ x → a ≠ ab → h2 a = h a := fun a n1 n2 n3 n4 => (h2o a n3 n4).trans (h1o a n1 n2 n3)
  have packs : ¬ ((LB.flatMap el).length = (LB.flatMap el2).length ∧ L2.length = LB.length) → wb_LogCleaner_clean_37 d Q X x (nI ((LB.flatMap el).length - (LB.flatMap el2).length)) h2 := fun hch => by
    refine is_L h2x ?_
    have h2p : h2 pk = some (o_P ls lf) := (h2rest pk hpn (obj_na pk _ hp) hpx (ne_oe_arr hp hab)).trans hp
    have h2E : ∀ e ∈ L2.flatMap el2, h2 e = some (oE (E e)) := fun e he => by
      rw [hfl] at he
      have he2 : e ∈ LB.flatMap el := by
        rw [hel2] at he
        exact (flat_sub B el E ls (t - 1000) LB).subset he
      have h3 := hE e he2
      rw [h2rest e (fun q => absurd rfl (ne_obj (hRB e q).1 h3 (Ne.symm E_ne_B))) (obj_na e _ h3) (ne_obj h3 hx E_ne_L) (ne_oe_arr h3 hab)]
      exact h3
    refine sp_pack (B := B) (el := el2) (E := E) h2x h2p h2ab hg' (by omega) (hsub.nodup hnd) h2B h2E hm hop (fun h3 q sg hq k1 k2 k3 k4 k5 => ?_)
    have hq0 : ∀ a o, h2 a = some o → a ≠ q := fun a o ha e => by subst e; rw [hq] at ha; cases ha
    have hqh : h q = none := by
      cases hh : h q with
      | none => rfl
      | some o =>
        -- all that was there is there
        exfalso
        by_cases q1 : q ∈ LB
        · have r1 := (h1B q q1).1
          exact hq0 q _ ((h2o q (ne_obj r1 h1x B_ne_L) (ne_oe_arr r1 h1ab)).trans r1) rfl
        · by_cases q2 : q ∈ LB.map (fun b => (B b).2.2.1)
          · obtain ⟨b, hb, e⟩ := List.mem_map.mp q2
            obtain ⟨-, cap, g2, r2, -⟩ := h1B b hb
            have e : (B b).2.2.1 = q := e
            rw [e] at r2
            exact hq0 q _ ((h2o q (Ne.symm (ne_oe_arr h1x r2)) (by rw [← e]; exact hna b hb)).trans r2) rfl
          · by_cases q3 : q = x
            · exact hq0 q _ (by rw [q3]; exact h2x) rfl
            · by_cases q4 : q = ab
              · exact hq0 q _ (by rw [q4]; exact h2ab) rfl
              · exact hq0 q o ((h2rest q q1 q2 q3 q4).trans hh) rfl
    have nL2 : ∀ a, a ∉ LB → a ∉ L2 := fun a n q2 => n (hsub.subset q2)
    have hxL : x ∉ L2 := fun q2 => absurd rfl (ne_obj (h2B x q2).1 h2x B_ne_L)
    have habL : ab ∉ L2 := fun q2 => absurd rfl (ne_oe_arr (h2B ab q2).1 h2ab)
    refine hQ1 c hch h3 g' q sg hqh ?_ ?_ hg' (fun b hb => ?_) k2 k3 k4 (fun a n1 n2 n3 n4 n5 n6 => ?_)
    · rw [k5 x hxL (Ne.symm hpx) (hq0 _ _ h2x)]; exact h2x
    · rw [k5 ab habL (Ne.symm (ne_oe_arr hp hab)) (hq0 _ _ h2ab)]; exact h2ab
    · obtain ⟨r1, cap, g2, r2, r3⟩ := h2B b hb
      refine ⟨k1 b hb, cap, g2, ?_, r3⟩
      rw [k5 _ (fun q2 => absurd rfl (ne_oe_arr (h2B _ q2).1 r2)) (Ne.symm (ne_oe_arr h2p r2)) (hq0 _ _ r2)]
      exact r2
    · rw [k5 a (nL2 a n1) n5 n6]
      exact h2rest a n1 n2 n3 n4
  have hw4 : (LB.flatMap el).length - (LB.flatMap el2).length ≤ 4000 := by omega
  refine ⟨fun c2 => ?_, fun c2 => ?_⟩
  · refine packs (fun q => ?_)
    rw [q.1, Nat.sub_self, nI_0] at c2
    exact absurd c2 (by decide)
  · have hz : (LB.flatMap el).length - (LB.flatMap el2).length = 0 := by
      rcases Nat.eq_zero_or_pos ((LB.flatMap el).length - (LB.flatMap el2).length) with q | q
      · exact q
      · exfalso
        apply c2
        rw [← nI_0]
        exact nI_lt q (by omega)
    refine ⟨fun c3 => ?_, fun c3 => ?_⟩
    · have hl2 : L2.length = LB.length := by
        rw [pk_sub hL2l, ← nI_0] at c3
        have := (nI_leI (by omega) (by omega)).mp c3
        omega
      rw [hz, nI_0]
      exact hQ0 c (by omega) hl2 h2 g' h2x h2ab hg' h2B h2rest
    · refine packs (fun q => ?_)
      rw [pk_sub hL2l, q.2, Nat.sub_self, nI_0] at c3
      exact absurd (by decide) c3
