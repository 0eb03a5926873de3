/-! what holds of the class's state between calls, apart from the map -/
def okE (e : EV) : Prop := (e.2.2.1 = 0 ∨ e.2.2.1 = 1) ∧ -1 ≤ e.2.1 ∧ e.2.1 ≤ 8
def PI (T : Nat) (LB : List Nat) (B : Nat → BF) (el : Nat → List Nat) (E : Nat → EV) (dl : List Nat) (ls lf : Int32) : Prop :=
  LB.length ≤ 400 ∧ (LB.flatMap el).length + dl.length ≤ 4000 ∧ dl.length ≤ 100 ∧ supOK E (LB.flatMap el) ∧ (∀ e ∈ dl, (E e).2.2.2.2.2.2 = 0) ∧ (∀ e ∈ LB.flatMap el ++ dl, okE (E e)) ∧ (∀ b ∈ LB, -1 ≤ (B b).2.1 ∧ 0 ≤ (B b).2.2.2 ∧ (B b).2.2.2 ≤ ls) ∧ LB.Pairwise (fun a b => (B a).2.2.2 ≤ (B b).2.2.2) ∧ (LB = [] → ls = -1) ∧ (∀ b, LB[LB.length - 1]? = some b → (B b).2.2.2 = ls) ∧ (-1 ≤ ls.toInt ∧ ls.toInt ≤ 400 + T) ∧ lf = opn B ls (fun b => bsz E (el b)) LB
theorem supOK_congr {E E' : Nat → EV} {log : List Nat} (h : supOK E log) (he : ∀ z ∈ log, E' z = E z) : supOK E' log := by
  intro pre a post hlog
  have ha : a ∈ log := by rw [hlog]; exact List.mem_append_right _ List.mem_cons_self
  have hp : ∀ z ∈ post, z ∈ log := fun z hz => by rw [hlog]; exact List.mem_append_right _ (List.mem_cons_of_mem _ hz)
  rw [he a ha, h pre a post hlog]
  refine ⟨fun ⟨h1, z, hz, e⟩ => ⟨h1, z, hz, by rw [he z (hp z hz)]; exact e⟩, fun ⟨h1, z, hz, e⟩ => ⟨h1, z, hz, by rw [he z (hp z hz)] at e; exact e⟩⟩
theorem veq.esz {a b : EV} (h : veq a b) : esz a = esz b := by
  obtain ⟨-, h2, h3, -⟩ := h
  unfold Pilot.CLogCleanerLaw_law_r9200_5a65ec.esz
  rw [h2, h3]
theorem bsz_veq {E E' : Nat → EV} {l : List Nat} (h : ∀ e ∈ l, veq (E' e) (E e)) : bsz E' l = bsz E l := by
  revert h
  refine snoc_ind (P := fun l => (∀ e ∈ l, veq (E' e) (E e)) → bsz E' l = bsz E l) (fun _ => rfl) (fun l a ih h => ?_) l
  rw [bsz_snoc, bsz_snoc, ih (fun e he => h e (List.mem_append_left _ he)), (h a (List.mem_append_right _ (List.mem_singleton.mpr rfl))).esz]
theorem opn_congr {B B' : Nat → BF} {ls ls' : Int32} {sz sz' : Nat → Int32} {L : List Nat} (h : ∀ b ∈ L, ((B' b).2.2.2 = ls' ↔ (B b).2.2.2 = ls) ∧ sz' b = sz b) : opn B' ls' sz' L = opn B ls sz L := by
  revert h
  refine snoc_ind (P := fun L => (∀ b ∈ L, ((B' b).2.2.2 = ls' ↔ (B b).2.2.2 = ls) ∧ sz' b = sz b) → opn B' ls' sz' L = opn B ls sz L) (fun _ => rfl) (fun l a ih h => ?_) L
  obtain ⟨h1, h2⟩ := h a (List.mem_append_right _ (List.mem_singleton.mpr rfl))
  rw [opn_snoc, opn_snoc, ih (fun b hb => h b (List.mem_append_left _ hb)), h2]
  by_cases c : (B a).2.2.2 = ls
  · rw [if_pos c, if_pos (h1.mpr c)]
  · rw [if_neg c, if_neg (fun q => c (h1.mp q))]
theorem opn_none {B : Nat → BF} {ls : Int32} {sz : Nat → Int32} {L : List Nat} (h : ∀ b ∈ L, (B b).2.2.2 ≠ ls) : opn B ls sz L = 0 := by
  unfold opn
  rw [List.filter_eq_nil_iff.mpr (fun b hb => by simpa using h b hb)]
  rfl
theorem okE.veq {a b : EV} (h : okE b) (hv : veq a b) : okE a := by
  obtain ⟨-, h2, h3, -⟩ := hv
  unfold okE at h ⊢
  rw [h2, h3]
  exact h
theorem mem_RL_flat {LB : List Nat} {el : Nat → List Nat} {b e : Nat} (hb : b ∈ LB) (he : e ∈ el b) : e ∈ LB.flatMap el := List.mem_flatMap.mpr ⟨b, hb, he⟩
theorem PI_record {T : Nat} {LB : List Nat} {B : Nat → BF} {el : Nat → List Nat} {E : Nat → EV} {dl : List Nat} {ls lf : Int32} (hP : PI T LB B el E dl ls lf) {q : Nat} (hq : q ∉ LB.flatMap el ++ dl) {v : EV} (hv : okE v) (hv0 : v.2.2.2.2.2.2 = 0) (h1 : dl.length < 100) (h2 : (LB.flatMap el).length + dl.length < 4000) : PI (T + 1) LB B el (upE E q v) (dl ++ [q]) ls lf := by
  obtain ⟨a1, a2, a3, a4, a5, a6, a7, a8, a9, a10, a11, a12⟩ := hP
  have hne : ∀ z ∈ LB.flatMap el ++ dl, upE E q v z = E z := fun z hz => upE_ne _ (fun e => hq (by rw [← e]; exact hz))
  refine ⟨a1, ?_, ?_, supOK_congr a4 (fun z hz => hne z (List.mem_append_left _ hz)), fun e he => ?_, fun e he => ?_, a7, a8, a9, a10, ⟨a11.1, by omega⟩, ?_⟩
  · rw [List.length_append, List.length_singleton]; omega
  · rw [List.length_append, List.length_singleton]; omega
  · rcases List.mem_append.mp he with he | he
    · rw [hne e (List.mem_append_right _ he)]; exact a5 e he
    · rw [List.mem_singleton.mp he, upE_self]; exact hv0
  · rw [← List.append_assoc] at he
    rcases List.mem_append.mp he with he | he
    · rw [hne e he]; exact a6 e he
    · rw [List.mem_singleton.mp he, upE_self]; exact hv
  · rw [a12]
    refine opn_congr (fun b hb => ⟨Iff.rfl, ?_⟩)
    refine (bsz_veq (fun e he => ?_)).symm
    rw [hne e (List.mem_append_left _ (mem_RL_flat hb he))]
    exact veq.rf
theorem mvE_out {z : Nat} : ∀ (dl log : List Nat) (no : Int32) (E : Nat → EV), z ∉ dl → veq (mvE log no E dl z) (E z) := by
  intro dl
  induction dl with
  | nil => intro log no E _; exact veq.rf
  | cons e r ih =>
    intro log no E hz
    have h1 := ih (log ++ [e]) (no + 1) (upE (mark E log e) e (setOff (mark E log e e) no)) (fun q => hz (List.mem_cons_of_mem _ q))
    rw [upE_ne _ (fun q => hz (by rw [q]; exact List.mem_cons_self))] at h1
    obtain ⟨k1, k2, k3, k4, k5, k6⟩ := mark_kv (E := E) (log := log) (e := e) z
    obtain ⟨b1, b2, b3, b4, b5, b6⟩ := h1
    exact ⟨b1.trans k1, b2.trans k2, b3.trans k3, b4.trans k4, b5.trans k5, b6.trans k6⟩
theorem mvE_in : ∀ (dl log : List Nat) (no : Nat) (E : Nat → EV), dl.Nodup → ∀ j e, dl[j]? = some e → veq (mvE log (nI no) E dl e) ((E e).1, (E e).2.1, (E e).2.2.1, (E e).2.2.2.1, (E e).2.2.2.2.1, nI (no + j), 0) := by
  intro dl
  induction dl with
  | nil => intro log no E _ j e h; simp at h
  | cons a r ih =>
    intro log no E hnd j e hj
    obtain ⟨hn1, hn2⟩ := List.nodup_cons.mp hnd
    cases j with
    | zero =>
      have hj : a = e := by simpa using hj
      subst hj
      have h1 := mvE_out (z := a) r (log ++ [a]) (nI no + 1) (upE (mark E log a) a (setOff (mark E log a a) (nI no))) hn1
      rw [upE_self] at h1
      obtain ⟨k1, k2, k3, k4, k5, k6⟩ := mark_kv (E := E) (log := log) (e := a) a
      obtain ⟨b1, b2, b3, b4, b5, b6⟩ := h1
      exact ⟨b1.trans k1, b2.trans k2, b3.trans k3, b4.trans k4, b5.trans k5, b6⟩
    | succ j =>
      have hj : r[j]? = some e := by simpa using hj
      have he : e ≠ a := fun q => hn1 (by rw [← q]; exact List.mem_of_getElem? hj)
      have h1 := ih (log ++ [a]) (no + 1) (upE (mark E log a) a (setOff (mark E log a a) (nI no))) hn2 j e hj
      rw [upE_ne _ he, ← nI_1] at h1
      obtain ⟨k1, k2, k3, k4, k5, k6⟩ := mark_kv (E := E) (log := log) (e := a) e
      obtain ⟨b1, b2, b3, b4, b5, b6⟩ := h1
      exact ⟨b1.trans k1, b2.trans k2, b3.trans k3, b4.trans k4, b5.trans k5, b6.trans (by show nI (no + 1 + j) = nI (no + (j + 1)); rw [show no + 1 + j = no + (j + 1) by omega])⟩
theorem supOK_mvE : ∀ (dl log : List Nat) (no : Int32) (E : Nat → EV), supOK E log → (log ++ dl).Nodup → (∀ e ∈ dl, (E e).2.2.2.2.2.2 = 0) → supOK (mvE log no E dl) (log ++ dl) := by
  intro dl
  induction dl with
  | nil => intro log no E h _ _; rw [List.append_nil]; exact h
  | cons a r ih =>
    intro log no E h hnd hf
    have hnd2 : (log ++ [a] ++ r).Nodup := by rw [List.append_assoc]; exact hnd
    obtain ⟨n1, n2, n3⟩ := List.nodup_append.mp hnd
    have ha : a ∉ log := fun q => n3 a q a List.mem_cons_self rfl
    have hr : a ∉ r := (List.nodup_cons.mp n2).1
    have h1 := supOK_mv (no := no) h ha n1 (hf a List.mem_cons_self)
    have h2 := ih (log ++ [a]) (no + 1) _ h1 hnd2 (fun e he => by
      rw [upE_ne _ (fun q => hr (by rw [← q]; exact he)), mark_e e (fun q => n3 e q e (List.mem_cons_of_mem _ he) rfl)]
      exact hf e (List.mem_cons_of_mem _ he))
    rw [List.append_assoc] at h2
    exact h2
theorem last_snoc {LB : List Nat} {b c : Nat} (h : (LB ++ [b])[(LB ++ [b]).length - 1]? = some c) : c = b := by
  rw [List.length_append, List.length_singleton, Nat.add_sub_cancel] at h
  simpa using h.symm
theorem PI_close {T : Nat} {LB : List Nat} {B : Nat → BF} {el : Nat → List Nat} {E : Nat → EV} {dl : List Nat} {ls lf : Int32} (hP : PI T LB B el E dl ls lf) (hT : T ≤ 1000) (hnd : (LB.flatMap el ++ dl).Nodup) {b arr no : Nat} {prod : Int32} (hb : b ∉ LB) (hpr : -1 ≤ prod) (h4 : LB.length < 400) {E' : Nat → EV} (hE' : E' = mvE (LB.flatMap el) (nI no) E dl) {B' : Nat → BF} {el' : Nat → List Nat} (hB1 : ∀ c ∈ LB, B' c = B c) (hB2 : B' b = (nI no, prod, arr, (plc (ls, lf) (bsz E' dl)).1)) (he1 : ∀ c ∈ LB, el' c = el c) (he2 : el' b = dl) :
    PI (T + 1) (LB ++ [b]) B' el' E' [] (plc (ls, lf) (bsz E' dl)).1 (plc (ls, lf) (bsz E' dl)).2 ∧ (LB ++ [b]).flatMap el' = LB.flatMap el ++ dl ∧ RLof (LB ++ [b]) el' = RLof LB el ++ dl.map (fun e => (LB.length, e)) := by
  obtain ⟨a1, a2, a3, a4, a5, a6, a7, a8, a9, a10, a11, a12⟩ := hP
  have hfl : (LB ++ [b]).flatMap el' = LB.flatMap el ++ dl := by
    rw [List.flatMap_append, flat_congr he1]
    simp [he2]
  have hRL : RLof (LB ++ [b]) el' = RLof LB el ++ dl.map (fun e => (LB.length, e)) := by rw [RLof_snoc, RLof_congr he1, he2]
  refine ⟨?_, hfl, hRL⟩
  have nd3 := (List.nodup_append.mp hnd).2.2
  have vo : ∀ z ∈ LB.flatMap el, veq (E' z) (E z) := fun z hz => by rw [hE']; exact mvE_out dl _ _ _ (fun q => nd3 z hz z q rfl)
  have inc : (ls + 1).toInt = ls.toInt + 1 := i32_inc (by omega) a11.1
  have e0 : (0 : Int32).toInt = 0 := by decide
  have em1 : (-1 : Int32).toInt = -1 := by decide
  generalize hsz : bsz E' dl = szn at hB2 ⊢
  have key : (0 ≤ (plc (ls, lf) szn).1.toInt ∧ ls.toInt ≤ (plc (ls, lf) szn).1.toInt ∧ (plc (ls, lf) szn).1.toInt ≤ 400 + (T + 1 : Nat)) ∧ (plc (ls, lf) szn).2 = opn B' (plc (ls, lf) szn).1 (fun c => bsz E' (el' c)) (LB ++ [b]) := by
    have hlb : (B' b).2.2.2 = (plc (ls, lf) szn).1 := by rw [hB2]
    rw [opn_snoc, if_pos hlb, he2, hsz]
    unfold plc
    by_cases c : (ls, lf).1 = -1 ∨ ¬ (ls, lf).2 + szn ≤ 1000
    · rw [if_pos c]
      show (0 ≤ (ls + 1).toInt ∧ ls.toInt ≤ (ls + 1).toInt ∧ (ls + 1).toInt ≤ 400 + (T + 1 : Nat)) ∧ 0 + szn = opn B' (ls + 1) (fun c => bsz E' (el' c)) LB + szn
      refine ⟨by rw [inc]; omega, ?_⟩
      rw [opn_none (fun c hc => ?_)]
      rw [hB1 c hc]
      intro q
      have h1 := Int32.le_iff_toInt_le.mp (a7 c hc).2.2
      rw [q, inc] at h1
      omega
    · rw [if_neg c]
      have c1 : ls ≠ -1 := fun q => c (Or.inl q)
      have c2 : ls.toInt ≠ -1 := fun q => c1 (Int32.toInt_inj.mp (by omega))
      show (0 ≤ ls.toInt ∧ ls.toInt ≤ ls.toInt ∧ ls.toInt ≤ 400 + (T + 1 : Nat)) ∧ lf + szn = opn B' ls (fun c => bsz E' (el' c)) LB + szn
      refine ⟨by omega, ?_⟩
      rw [a12]
      congr 1
      refine (opn_congr (fun c hc => ⟨by rw [hB1 c hc], ?_⟩)).symm
      rw [he1 c hc]
      exact bsz_veq (fun e he => vo e (mem_RL_flat hc he))
  generalize hls : (plc (ls, lf) szn).1 = ls2 at hB2 key ⊢
  generalize hlf : (plc (ls, lf) szn).2 = lf2 at key ⊢
  obtain ⟨⟨k1, k2, k3⟩, k4⟩ := key
  have hle : ls ≤ ls2 := Int32.le_iff_toInt_le.mpr k2
  refine ⟨by rw [List.length_append, List.length_singleton]; omega, by rw [hfl, List.length_append, List.length_nil]; omega, by simp, ?_, fun e he => by simp at he, fun e he => ?_, fun c hc => ?_, ?_, fun q => by simp at q, fun c hc => ?_, ⟨by omega, k3⟩, k4⟩
  · rw [hfl, hE']
    exact supOK_mvE dl _ _ E a4 hnd a5
  · rw [List.append_nil, hfl] at he
    rcases List.mem_append.mp he with h1 | h1
    · exact (a6 e he).veq (vo e h1)
    · obtain ⟨j, hj⟩ := List.mem_iff_getElem?.mp h1
      have h2 := mvE_in dl (LB.flatMap el) no E (List.nodup_append.mp hnd).2.1 j e hj
      rw [← hE'] at h2
      have h3 := a6 e he
      obtain ⟨-, v2, v3, -⟩ := h2
      unfold okE at h3 ⊢
      rw [v2, v3]
      exact h3
  · rcases List.mem_append.mp hc with h1 | h1
    · rw [hB1 c h1]
      obtain ⟨q1, q2, q3⟩ := a7 c h1
      exact ⟨q1, q2, Int32.le_iff_toInt_le.mpr (Int.le_trans (Int32.le_iff_toInt_le.mp q3) k2)⟩
    · rw [List.mem_singleton.mp h1, hB2]
      exact ⟨hpr, Int32.le_iff_toInt_le.mpr (by rw [e0]; exact k1), Int32.le_iff_toInt_le.mpr (Int.le_refl _)⟩
  · refine List.pairwise_append.mpr ⟨?_, List.pairwise_singleton _ _, fun c hc z hz => ?_⟩
    · refine a8.imp_of_mem (fun hc hz hcz => ?_)
      rw [hB1 _ hc, hB1 _ hz]
      exact hcz
    · rw [List.mem_singleton.mp hz, hB1 c hc, hB2]
      exact Int32.le_iff_toInt_le.mpr (Int.le_trans (Int32.le_iff_toInt_le.mp (a7 c hc).2.2) k2)
  · rw [last_snoc hc, hB2]
