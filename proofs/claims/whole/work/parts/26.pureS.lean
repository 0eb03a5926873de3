/-! the marks say whether a later record of the log has the same key -/
def supOK (E : Nat → EV) (log : List Nat) : Prop := ∀ pre a post, log = pre ++ a :: post → ((E a).2.2.2.2.2.2 ≠ 0 ↔ (E a).2.1 ≠ -1 ∧ ∃ z ∈ post, (E z).1 = (E a).1 ∧ (E z).2.1 = (E a).2.1)
theorem supOK_right {E : Nat → EV} {l1 l2 : List Nat} (h : supOK E (l1 ++ l2)) : supOK E l2 := fun pre a post e => h (l1 ++ pre) a post (by rw [e, List.append_assoc])
theorem lastK_split {E : Nat → EV} {k : Int64} {b : Int32} {l : List Nat} {a : Nat} (h : lastK E k b l = some a) : isK E k b a = true ∧ ∃ p q, l = p ++ a :: q ∧ ∀ z ∈ q, isK E k b z = false := by
  obtain ⟨h1, as, bs, h2, h3⟩ := List.find?_eq_some_iff_append.mp h
  refine ⟨h1, bs.reverse, as.reverse, ?_, fun z hz => ?_⟩
  · have h4 : l.reverse.reverse = (as ++ a :: bs).reverse := by rw [h2]
    rw [List.reverse_reverse] at h4
    rw [h4]
    simp
  · have h5 := h3 z (List.mem_reverse.mp hz)
    simpa using h5
theorem lastK_none {E : Nat → EV} {k : Int64} {b : Int32} {l : List Nat} (h : lastK E k b l = none) : ∀ z ∈ l, isK E k b z = false := fun z hz => by
  have h1 := List.find?_eq_none.mp h z (List.mem_reverse.mpr hz)
  simpa using h1
theorem isK_iff {E : Nat → EV} {k : Int64} {b : Int32} {a : Nat} : isK E k b a = true ↔ (E a).1 = k ∧ (E a).2.1 = b := by
  simp [isK]
theorem mark_e {E : Nat → EV} {log : List Nat} {e : Nat} (z : Nat) (hz : z ∉ log) : mark E log e z = E z := by
  unfold mark
  by_cases hk : (E e).2.1 = -1
  · rw [if_pos hk]
  · rw [if_neg hk]
    cases hl : lastK E (E e).1 (E e).2.1 log with
    | none => rfl
    | some a => exact upE_ne _ (fun q => hz (by rw [q]; exact lastK_mem hl))
theorem mark_kv {E : Nat → EV} {log : List Nat} {e : Nat} (z : Nat) : (mark E log e z).1 = (E z).1 ∧ (mark E log e z).2.1 = (E z).2.1 ∧ (mark E log e z).2.2.1 = (E z).2.2.1 ∧ (mark E log e z).2.2.2.1 = (E z).2.2.2.1 ∧ (mark E log e z).2.2.2.2.1 = (E z).2.2.2.2.1 ∧ (mark E log e z).2.2.2.2.2.1 = (E z).2.2.2.2.2.1 := by
  unfold mark
  by_cases hk : (E e).2.1 = -1
  · rw [if_pos hk]
    exact ⟨rfl, rfl, rfl, rfl, rfl, rfl⟩
  · rw [if_neg hk]
    cases hl : lastK E (E e).1 (E e).2.1 log with
    | none => exact ⟨rfl, rfl, rfl, rfl, rfl, rfl⟩
    | some a =>
      show (upE E a (setSup (E a)) z).1 = _ ∧ (upE E a (setSup (E a)) z).2.1 = _ ∧ (upE E a (setSup (E a)) z).2.2.1 = _ ∧ (upE E a (setSup (E a)) z).2.2.2.1 = _ ∧ (upE E a (setSup (E a)) z).2.2.2.2.1 = _ ∧ (upE E a (setSup (E a)) z).2.2.2.2.2.1 = _
      by_cases q : z = a
      · subst q
        rw [upE_self]
        exact ⟨rfl, rfl, rfl, rfl, rfl, rfl⟩
      · rw [upE_ne _ q]
        exact ⟨rfl, rfl, rfl, rfl, rfl, rfl⟩
/-- keys as they were: marks and offsets do not matter -/
theorem supOK_mv {E : Nat → EV} {log : List Nat} {e : Nat} {no : Int32} (h : supOK E log) (hn : e ∉ log) (hnd : log.Nodup) (hs : (E e).2.2.2.2.2.2 = 0) : supOK (upE (mark E log e) e (setOff (mark E log e e) no)) (log ++ [e]) := by
  have kv : ∀ z, (upE (mark E log e) e (setOff (mark E log e e) no) z).1 = (E z).1 ∧ (upE (mark E log e) e (setOff (mark E log e e) no) z).2.1 = (E z).2.1 := fun z => by
    by_cases q : z = e
    · subst q
      rw [upE_self]
      exact ⟨(mark_kv z).1, (mark_kv z).2.1⟩
    · rw [upE_ne _ q]
      exact ⟨(mark_kv z).1, (mark_kv z).2.1⟩
  intro pre a post hd
  rw [(kv a).1, (kv a).2]
  have hex : (∃ z ∈ post, (upE (mark E log e) e (setOff (mark E log e e) no) z).1 = (E a).1 ∧ (upE (mark E log e) e (setOff (mark E log e e) no) z).2.1 = (E a).2.1) ↔ ∃ z ∈ post, (E z).1 = (E a).1 ∧ (E z).2.1 = (E a).2.1 := by
    constructor
    · rintro ⟨z, h1, h2, h3⟩
      exact ⟨z, h1, by rw [← (kv z).1]; exact h2, by rw [← (kv z).2]; exact h3⟩
    · rintro ⟨z, h1, h2, h3⟩
      exact ⟨z, h1, by rw [(kv z).1]; exact h2, by rw [(kv z).2]; exact h3⟩
  rw [hex]
  rcases List.eq_nil_or_concat post with rfl | ⟨post', y, rfl⟩
  · obtain ⟨h1, h2⟩ := List.append_inj' hd rfl
    have h3 : e = a := by simpa using h2
    subst h3
    rw [upE_self]
    constructor
    · intro q
      have h4 : (setOff (mark E log e e) no).2.2.2.2.2.2 = (E e).2.2.2.2.2.2 := by rw [mark_e e hn]; rfl
      rw [h4] at q
      exact absurd hs q
    · rintro ⟨-, z, hz, -⟩
      cases hz
  · have hd2 : log ++ [e] = (pre ++ a :: post') ++ [y] := by rw [hd]; simp
    obtain ⟨h1, h2⟩ := List.append_inj' hd2 rfl
    have h3 : e = y := by simpa using h2
    subst h3
    have ham : a ∈ log := by rw [h1]; simp
    have hae : a ≠ e := fun q => hn (q ▸ ham)
    rw [upE_ne _ hae]
    have hold := h pre a post' h1
    have hex2 : (∃ z ∈ post'.concat e, (E z).1 = (E a).1 ∧ (E z).2.1 = (E a).2.1) ↔ (∃ z ∈ post', (E z).1 = (E a).1 ∧ (E z).2.1 = (E a).2.1) ∨ ((E e).1 = (E a).1 ∧ (E e).2.1 = (E a).2.1) := by
      simp only [List.concat_eq_append, List.mem_append, List.mem_singleton]
      constructor
      · rintro ⟨z, q3 | q3, q4⟩
        · exact Or.inl ⟨z, q3, q4⟩
        · rw [q3] at q4
          exact Or.inr q4
      · rintro (⟨z, q3, q4⟩ | q4)
        · exact ⟨z, Or.inl q3, q4⟩
        · exact ⟨e, Or.inr rfl, q4⟩
    rw [hex2]
    unfold mark
    by_cases hk : (E e).2.1 = -1
    · rw [if_pos hk, hold]
      constructor
      · rintro ⟨q1, q2⟩
        exact ⟨q1, Or.inl q2⟩
      · rintro ⟨q1, q2 | q2⟩
        · exact ⟨q1, q2⟩
        · exact absurd (q2.2.symm.trans hk) q1
    · rw [if_neg hk]
      cases hl : lastK E (E e).1 (E e).2.1 log with
      | none =>
        have hno := lastK_none hl a ham
        show (E a).2.2.2.2.2.2 ≠ 0 ↔ _
        rw [hold]
        constructor
        · rintro ⟨q1, q2⟩
          exact ⟨q1, Or.inl q2⟩
        · rintro ⟨q1, q2 | q2⟩
          · exact ⟨q1, q2⟩
          · have : isK E (E e).1 (E e).2.1 a = true := isK_iff.mpr ⟨q2.1.symm, q2.2.symm⟩
            rw [hno] at this
            cases this
      | some w =>
        obtain ⟨hw1, p, q, hpq, hlast⟩ := lastK_split hl
        have hw2 := isK_iff.mp hw1
        show (upE E w (setSup (E w)) a).2.2.2.2.2.2 ≠ 0 ↔ _
        by_cases haw : a = w
        · subst haw
          rw [upE_self]
          constructor
          · intro _
            exact ⟨by rw [hw2.2]; exact hk, Or.inr ⟨hw2.1.symm, hw2.2.symm⟩⟩
          · intro _
            show (1 : Int32) ≠ 0
            decide
        · rw [upE_ne _ haw, hold]
          constructor
          · rintro ⟨q1, q2⟩
            exact ⟨q1, Or.inl q2⟩
          · rintro ⟨q1, q2 | q2⟩
            · exact ⟨q1, q2⟩
            · refine ⟨q1, w, ?_, hw2.1.trans q2.1, hw2.2.trans q2.2⟩
              -- w lies behind a
              have hkA : isK E (E e).1 (E e).2.1 a = true := isK_iff.mpr ⟨q2.1.symm, q2.2.symm⟩
              have haq : a ∉ q := fun z => by
                have := hlast a z
                rw [hkA] at this
                cases this
              have hsp : pre ++ a :: post' = p ++ w :: q := h1.symm.trans hpq
              rcases List.append_eq_append_iff.mp hsp with ⟨c, e1, e2⟩ | ⟨c, e1, e2⟩
              · cases c with
                | nil =>
                  simp at e2
                  exact absurd e2.1 haw
                | cons z c =>
                  simp only [List.cons_append, List.cons.injEq] at e2
                  rw [e2.2]
                  simp
              · cases c with
                | nil =>
                  simp at e2
                  exact absurd e2.1.symm haw
                | cons z c =>
                  simp only [List.cons_append, List.cons.injEq] at e2
                  exact absurd (by rw [e2.2]; simp) haq
theorem supOK_filter {E : Nat → EV} {p : Nat → Bool} {l2 : List Nat} (hp : ∀ a, p a = true → (E a).2.2.2.2.2.2 = 0) : ∀ {l1 : List Nat}, supOK E (l1 ++ l2) → supOK E (l1.filter p ++ l2) := by
  intro l1
  induction l1 with
  | nil => intro h; exact h
  | cons b r ih =>
    intro h
    have hr : supOK E (r ++ l2) := supOK_right (l1 := [b]) h
    have ih := ih hr
    by_cases hb : p b = true
    · rw [List.filter_cons_of_pos hb]
      intro pre a post e
      cases pre with
      | nil =>
        simp only [List.nil_append, List.cons_append, List.cons.injEq] at e
        obtain ⟨rfl, rfl⟩ := e
        constructor
        · intro q
          exact absurd (hp b hb) q
        · rintro ⟨q1, z, hz, q2⟩
          refine (h [] b (r ++ l2) rfl).mpr ⟨q1, z, ?_, q2⟩
          rcases List.mem_append.mp hz with h1 | h1
          · exact List.mem_append_left _ (List.mem_filter.mp h1).1
          · exact List.mem_append_right _ h1
      | cons c pre =>
        simp only [List.cons_append, List.cons.injEq] at e
        exact ih pre a post e.2
    · rw [List.filter_cons_of_neg hb]
      exact ih
