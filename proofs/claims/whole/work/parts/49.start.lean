theorem ao_arr {s : State} {C : String} (h : va_AO C s) : ∃ cA : ClassId, ArrOfT s cA (.object C) ∧ va_RA s cA (.object C) := by
  obtain ⟨comp, c, k, h1, h2, h3, h4, h5⟩ := Cond.arrayOver_spec h
  exact ⟨c, fun N z => ⟨(fun k h => by cases h), k, h3, comp, h4⟩, k, comp, h3, h4, h1, h5⟩
theorem ac_arr_int {s : State} {args : Array Value} (h : (Cond.arrayClass .int).before args s = true) : ∃ cA : ClassId, ArrOfT s cA .int ∧ va_RA s cA .int := by
  obtain ⟨cA, kA, comp, hfind, hk, hkind⟩ := Cond.arrayClass_spec h
  exact ⟨cA, fun N z => ⟨(fun k h => by cases h), kA, hk, comp, hkind⟩, hfind⟩
theorem ac_arr_long {s : State} {args : Array Value} (h : (Cond.arrayClass .long).before args s = true) : ∃ cA : ClassId, ArrOfT s cA .long ∧ va_RA s cA .long := by
  obtain ⟨cA, kA, comp, hfind, hk, hkind⟩ := Cond.arrayClass_spec h
  exact ⟨cA, fun N z => ⟨(fun k h => by cases h), kA, hk, comp, hkind⟩, hfind⟩
theorem ac_arr_boolean {s : State} {args : Array Value} (h : (Cond.arrayClass .boolean).before args s = true) : ∃ cA : ClassId, ArrOfT s cA .boolean ∧ va_RA s cA .boolean := by
  obtain ⟨cA, kA, comp, hfind, hk, hkind⟩ := Cond.arrayClass_spec h
  exact ⟨cA, fun N z => ⟨(fun k h => by cases h), kA, hk, comp, hkind⟩, hfind⟩
set_option maxHeartbeats 4000000 in
set_option maxRecDepth 100000 in
theorem whole_of {p : Program} {e : Env} {s : State} {m : MethodId} {below : List Frame} {meth : Method} {c : Code} (l : Launch) (hlt : l.stackTraces = false) {b L : Nat} {xs : Nat → Int32} (hL : L ≤ 4096) (C0 : lw_At p s m meth c b L xs) (hwp : ∀ d, wp_LogCleanerLaw_law d L xs (fun _ => none)) : W p l e room_1 s m #[Value.ref b] below meth c s.heap [] 0 0 (lw_Z below #[Value.ref b] s) (entryFrame m ([Value.ref b] : List Value).toArray 8) := by
  obtain ⟨hx, hb, hr, hml, hown, hts, hXs, hbl, hlocks, hgv⟩ := id C0
  have htb : ∀ w ∈ TB, w.before #[Value.ref b] s = true := fun w hw => hts w (List.mem_filter.mp hw).1
  have hfl := flat_of_before _ hgv
  obtain ⟨c0, iS0, hKn0⟩ := u_known (C := R_LogCleaner) (T := F_LogCleaner) (N := 7) (n := 7) htb i_LogCleaner (htb _ g_inst_LogCleaner)
  obtain ⟨c1, iS1, hKn1⟩ := u_known (C := R_Batch) (T := F_Batch) (N := 5) (n := 5) htb i_Batch (htb _ g_inst_Batch)
  obtain ⟨c2, iS2, hKn2⟩ := u_known (C := R_Entry) (T := F_Entry) (N := 7) (n := 7) htb i_Entry (htb _ g_inst_Entry)
  obtain ⟨c3, iS3, hKn3⟩ := u_known (C := R_Packing) (T := F_Packing) (N := 2) (n := 2) htb i_Packing (htb _ g_inst_Packing)
  obtain ⟨c4, iS4, hKn4⟩ := u_known (C := R_LogCleanerModel) (T := F_LogCleanerModel) (N := 23) (n := 23) htb i_LogCleanerModel (htb _ g_inst_LogCleanerModel)
  obtain ⟨dC, dI, hKc⟩ : ∃ (dC : Nat → ClassId) (dI : Nat → Nat → Nat), ∀ (k : Nat) (q : vw_C), vwCl[k]? = some q → u_Kn s q.1 q.2.1 q.2.2 (dC k) (dI k) := by
    refine ⟨fun k => if k = 0 then c0 else if k = 1 then c1 else if k = 2 then c2 else if k = 3 then c3 else c4, fun k => if k = 0 then iS0 else if k = 1 then iS1 else if k = 2 then iS2 else if k = 3 then iS3 else iS4, ?_⟩
    intro k q hq
    match k, hq with
    | 0, hq => cases hq; exact hKn0
    | 1, hq => cases hq; exact hKn1
    | 2, hq => cases hq; exact hKn2
    | 3, hq => cases hq; exact hKn3
    | 4, hq => cases hq; exact hKn4
    | k + 5, hq => simp [vwCl] at hq
  have hNB : xN s := by
    refine ⟨fun w hw => ?_, fun C hC => ?_⟩
    · have hw2 := hw
      simp only [NB, List.mem_cons, List.not_mem_nil, or_false] at hw
      refine va_Nw.of (A := #[Value.ref b]) (NB_tabs w hw2) (hts w ?_)
      rcases hw with rfl | rfl | rfl | rfl | rfl | rfl
      · exact (List.mem_append_right _ (List.mem_of_getElem? (i := 24) (by decide +kernel)))
      · exact (List.mem_append_right _ (List.mem_of_getElem? (i := 73) (by decide +kernel)))
      · exact (List.mem_append_right _ (List.mem_of_getElem? (i := 75) (by decide +kernel)))
      · exact (List.mem_append_right _ (List.mem_of_getElem? (i := 77) (by decide +kernel)))
      · exact (List.mem_append_right _ (List.mem_of_getElem? (i := 71) (by decide +kernel)))
      · exact (List.mem_append_right _ (List.mem_of_getElem? (i := 139) (by decide +kernel)))
    · simp only [List.mem_cons, List.not_mem_nil, or_false] at hC
      rcases hC with rfl | rfl
      · exact va_AO.of (hts _ (List.mem_append_right _ (List.mem_of_getElem? (i := 21) (by decide +kernel))))
      · exact va_AO.of (hts _ (List.mem_append_right _ (List.mem_of_getElem? (i := 37) (by decide +kernel))))
  obtain ⟨e0, he0⟩ := ao_arr (hNB.2 "LogCleaner$Entry" (List.mem_cons_of_mem _ List.mem_cons_self))
  obtain ⟨e1, he1⟩ := ao_arr (hNB.2 "LogCleaner$Batch" List.mem_cons_self)
  obtain ⟨e2, he2⟩ := ac_arr_int (htb _ g_ac_int)
  obtain ⟨e3, he3⟩ := ac_arr_long (htb _ g_ac_long)
  obtain ⟨e4, he4⟩ := ac_arr_boolean (htb _ g_ac_boolean)
  obtain ⟨d, hd⟩ : ∃ d : Nat → ClassId, d 0 = e0 ∧ d 1 = e1 ∧ d 2 = e2 ∧ d 3 = e3 ∧ d 4 = e4 := ⟨fun k => if k = 0 then e0 else if k = 1 then e1 else if k = 2 then e2 else if k = 3 then e3 else e4, rfl, rfl, rfl, rfl, rfl⟩
  obtain ⟨hd0, hd1, hd2, hd3, hd4⟩ := hd
  have hK : va_K (dC, dI) vwCl (TYS d) s := by
    refine ⟨hKc, fun k q hq => ?_⟩
    match k, hq with
    | 0, hq => cases hq; show ArrOfT s (d 0) _ ∧ va_RA s (d 0) _; rw [hd0]; exact he0
    | 1, hq => cases hq; show ArrOfT s (d 1) _ ∧ va_RA s (d 1) _; rw [hd1]; exact he1
    | 2, hq => cases hq; show ArrOfT s (d 2) _ ∧ va_RA s (d 2) _; rw [hd2]; exact he2
    | 3, hq => cases hq; show ArrOfT s (d 3) _ ∧ va_RA s (d 3) _; rw [hd3]; exact he3
    | 4, hq => cases hq; show ArrOfT s (d 4) _ ∧ va_RA s (d 4) _; rw [hd4]; exact he4
    | k + 5, hq => simp [TYS, xtys] at hq
  have hnA : ∀ a : Nat, a < s.heap.size → ¬ (fun q : Nat => s.heap.size ≤ q) a := fun a h => Nat.not_le.mpr h
  have hZ1 : vx_Zq Bundle.tN "UNASSIGNED_STACK" Bundle.steD (fun q : Nat => s.heap.size ≤ q) s s.heap := vx_Zqof (hts _ (List.mem_append_right _ (List.mem_of_getElem? (i := 96) (by decide +kernel)))) (hts _ (List.mem_append_right _ (List.mem_of_getElem? (i := 4) (by decide +kernel)))) (hfl _ (by decide +kernel)) hnA
  have hZ2 : vx_Zq Bundle.tN "SUPPRESSED_SENTINEL" Bundle.listD (fun q : Nat => s.heap.size ≤ q) s s.heap := vx_Zqof (hts _ (List.mem_append_right _ (List.mem_of_getElem? (i := 98) (by decide +kernel)))) (hts _ (List.mem_append_right _ (List.mem_of_getElem? (i := 4) (by decide +kernel)))) (hfl _ (by decide +kernel)) hnA
  have hNc : xNc s := va_Nc.of (hfl (.not (.castable "java/lang/IllegalStateException" "java/lang/IllegalArgumentException")) (by decide +kernel))
  have str : ∀ (own : String) (k : Nat) (tx : String), (Cond.stringRef own k tx).before #[Value.ref b] s = true → (Cond.exactly (.string own k) "java/lang/String").before #[Value.ref b] s = true → ∃ sa, vk_R own k tx sa s := fun own k tx h1 h2 => by
    obtain ⟨a, c9, cA, kA, q1, -⟩ := Cond.exactly_spec (args := #[Value.ref b]) (first := s) (o := none) (s := s) (idx := []) (t := .string own k) (cls := "java/lang/String") h2
    exact ⟨a, vk_R.of h1 q1⟩
  have hSt : xStr s := fun q hq => by
    simp only [xstrs, List.mem_cons, List.not_mem_nil, or_false] at hq
    rcases hq with rfl | rfl | rfl | rfl | rfl | rfl | rfl | rfl | rfl | rfl | rfl | rfl | rfl
    · exact str "LogCleaner" 43 "keyBytes are not -1 .. 8" (hts _ (List.mem_append_right _ (List.mem_of_getElem? (i := 109) (by decide +kernel)))) (hfl _ (by decide +kernel))
    · exact str "LogCleaner" 55 "the log and the draft have 4000 records" (hts _ (List.mem_append_right _ (List.mem_of_getElem? (i := 153) (by decide +kernel)))) (hfl _ (by decide +kernel))
    · exact str "LogCleaner" 52 "the draft has 100 records" (hts _ (List.mem_append_right _ (List.mem_of_getElem? (i := 146) (by decide +kernel)))) (hfl _ (by decide +kernel))
    · exact str "LogCleaner" 48 "time is below 0" (hts _ (List.mem_append_right _ (List.mem_of_getElem? (i := 136) (by decide +kernel)))) (hfl _ (by decide +kernel))
    · exact str "LogCleaner" 68 "there are 400 batches" (hts _ (List.mem_append_right _ (List.mem_of_getElem? (i := 202) (by decide +kernel)))) (hfl _ (by decide +kernel))
    · exact str "LogCleaner" 66 "the draft is empty" (hts _ (List.mem_append_right _ (List.mem_of_getElem? (i := 201) (by decide +kernel)))) (hfl _ (by decide +kernel))
    · exact str "LogCleaner" 64 "the producer is below -1" (hts _ (List.mem_append_right _ (List.mem_of_getElem? (i := 200) (by decide +kernel)))) (hfl _ (by decide +kernel))
    · exact str "LogCleaner" 100 "n is not 0 .. 400" (hts _ (List.mem_append_right _ (List.mem_of_getElem? (i := 316) (by decide +kernel)))) (hfl _ (by decide +kernel))
    · exact str "LogCleaner" 117 "what is not 0 .. 4" (hts _ (List.mem_append_right _ (List.mem_of_getElem? (i := 332) (by decide +kernel)))) (hfl _ (by decide +kernel))
    · exact str "LogCleaner" 119 "there is no such batch" (hts _ (List.mem_append_right _ (List.mem_of_getElem? (i := 340) (by decide +kernel)))) (hfl _ (by decide +kernel))
    · exact str "LogCleaner" 129 "what is not 0 .. 5" (hts _ (List.mem_append_right _ (List.mem_of_getElem? (i := 341) (by decide +kernel)))) (hfl _ (by decide +kernel))
    · exact str "LogCleaner" 135 "there is no such record" (hts _ (List.mem_append_right _ (List.mem_of_getElem? (i := 353) (by decide +kernel)))) (hfl _ (by decide +kernel))
    · exact str "LogCleaner" 157 "keyBytes are not 0 .. 8" (hts _ (List.mem_append_right _ (List.mem_of_getElem? (i := 361) (by decide +kernel)))) (hfl _ (by decide +kernel))
  have C1 : lawC p l s m meth c b L xs (dC, dI) d := ⟨C0, hL, hK, hNB, hlt, hZ1, hZ2, hSt, hNc⟩
  have hA : ∀ q : Nat, s.heap.size ≤ q → (fun q : Nat => s.heap.size ≤ q) q := fun _ h => h
  have hbA : ¬ (fun q : Nat => s.heap.size ≤ q) b := Nat.not_le.mpr hbl
  obtain ⟨h, hhe⟩ : ∃ h : xw, h = fun _ => none := ⟨_, rfl⟩
  have hw := hwp d
  rw [← hhe] at hw
  have hP : xR sgT h (dC, dI) (fun q : Nat => s.heap.size ≤ q) h s.heap := ⟨⟨[], fun _ => .inr (0, []), fun a o ha => (by rw [hhe] at ha; cases ha), fun k q hk => (by simp [va_pl] at hk), ⟨fun i j p q hi => by simp [va_pl] at hi, fun k q hk => by simp [va_pl] at hk⟩⟩, xfr.rf⟩
  have hS : va_S (fun q : Nat => s.heap.size ≤ q) s.heap s.heap [] := va_S.rf
  have hl := lv_entry ([.ref b]) (n := 8) (Nat.le_of_ble_eq_true rfl)
  rw [lg_entry_eq]
  generalize (lg_sl ([.ref b]) ++ List.replicate (8 - (lg_sl ([.ref b])).length) Slot.unset).toArray = ls at hl ⊢
  have hl : lv_has ls 8 [(0, .ref b)] := hl
  have C0 := C1
  obtain ⟨D, hDe⟩ : ∃ D : va_G, D = (dC, dI) := ⟨_, rfl⟩
  rw [← hDe] at C0 hK hP
  refine xnew (ci := 0) (fs := z_LogCleaner) hx hb htb i_LogCleaner t_LogCleaner t_LogCleaner_ok hown (htb _ k_LogCleanerLaw_8c) (htb _ g_inst_LogCleaner) (htb _ g_ini_LogCleaner) hK hP hS hA rfl z_LogCleaner_ok (Nat.le_of_ble_eq_true rfl) (Nat.le_of_ble_eq_true rfl) hw d_LogCleanerLaw_law_0 (fun q2 h1 H hw hP hS => ?_)
  refine W.widen (k := 1) (n := 7) (Nat.le_of_ble_eq_true rfl) (Nat.le_of_ble_eq_true rfl) ?_
  refine lv_dup hx hb d_LogCleanerLaw_law_3 rfl ?_
  refine ycallv (va_runI (b := q2) (As := []) (rest := [.ref q2]) ⟨hx, hb, hml, hown, htb⟩ (m_LogCleaner_init l D d h1 _ q2 _ hw) (xcwI 0 htb g_code_LogCleaner_init g_ini_LogCleaner k_LogCleanerLaw_42 g_im_LogCleaner_init rfl rfl rfl (by decide +kernel) ⟨(Nat.le_of_ble_eq_true rfl), (Nat.le_of_ble_eq_true rfl)⟩) (xpreI hP hK hNB) rfl rfl hl.1 rfl (lv_room (Nat.le_of_ble_eq_true rfl)) d_LogCleanerLaw_law_4 ⟨(by refine Nat.le_trans ?_ lw_rc; omega), (by refine Nat.le_trans ?_ lw_rs; omega)⟩) hP (fun _ _ => rfl) hS hA (fun h3 H locs hw hfr hP hS => ?_)
  replace hw := hw hfr
  refine W.widen (k := 4) (n := 509) (by omega) (by omega) ?_
  refine lv_astore_n (lv' := [(1, .ref q2), (0, .ref b)]) hx hb d_LogCleanerLaw_law_7 rfl hl (by decide) rfl (fun ls hl => ?_)
  refine xnew (ci := 4) (fs := z_LogCleanerModel) hx hb htb i_LogCleanerModel t_LogCleanerModel t_LogCleanerModel_ok hown (htb _ k_LogCleanerLaw_43c) (htb _ g_inst_LogCleanerModel) (htb _ g_ini_LogCleanerModel) hK hP hS hA rfl z_LogCleanerModel_ok (Nat.le_of_ble_eq_true rfl) (Nat.le_of_ble_eq_true rfl) hw d_LogCleanerLaw_law_8 (fun q5 h4 H hw hP hS => ?_)
  refine W.widen (k := 5) (n := 532) (Nat.le_of_ble_eq_true rfl) (Nat.le_of_ble_eq_true rfl) ?_
  refine lv_dup hx hb d_LogCleanerLaw_law_11 rfl ?_
  refine ycallv (va_runI (b := q5) (As := []) (rest := [.ref q5]) ⟨hx, hb, hml, hown, htb⟩ (m_LogCleanerModel_init l D d h4 _ q5 _ hw) (xcwI 0 htb g_code_LogCleanerModel_init g_ini_LogCleanerModel k_LogCleanerLaw_45 g_im_LogCleanerModel_init rfl rfl rfl (by decide +kernel) ⟨(Nat.le_of_ble_eq_true rfl), (Nat.le_of_ble_eq_true rfl)⟩) (xpreI hP hK hNB) rfl rfl hl.1 rfl (lv_room (Nat.le_of_ble_eq_true rfl)) d_LogCleanerLaw_law_12 ⟨(by refine Nat.le_trans ?_ lw_rc; omega), (by refine Nat.le_trans ?_ lw_rs; omega)⟩) hP (fun _ _ => rfl) hS hA (fun h6 H locs hw hfr hP hS => ?_)
  replace hw := hw hfr
  refine W.widen (k := 23) (n := 35032) (by omega) (by omega) ?_
  refine lv_astore_n (lv' := [(2, .ref q5), (1, .ref q2), (0, .ref b)]) hx hb d_LogCleanerLaw_law_15 rfl hl (by decide) rfl (fun ls hl => ?_)
  refine lv_iconst (v := 1) hx hb d_LogCleanerLaw_law_16 (by decide) ?_
  refine xnewl (B := 1) hx hb (htb _ g_ac_long) hK hP hS hA 3 rfl (by decide) (Nat.le_of_ble_eq_true rfl) (Nat.le_of_ble_eq_true rfl) hw d_LogCleanerLaw_law_17 (fun q8 h7 H hw hP hS => ?_)
  refine W.widen (k := 24) (n := 35033) (Nat.le_of_ble_eq_true rfl) (Nat.le_of_ble_eq_true rfl) ?_
  refine lv_astore_n (lv' := [(3, .ref q8), (2, .ref q5), (1, .ref q2), (0, .ref b)]) hx hb d_LogCleanerLaw_law_19 rfl hl (by decide) rfl (fun ls hl => ?_)
  refine lv_iconst (v := 0) hx hb d_LogCleanerLaw_law_20 (by decide) ?_
  refine lv_istore (lv' := [(4, .int 0), (3, .ref q8), (2, .ref q5), (1, .ref q2), (0, .ref b)]) hx hb d_LogCleanerLaw_law_21 hl (by decide) rfl (fun ls hl => ?_)
  exact sl_LogCleanerLaw_law_23 C0 513 0 (q2, q5, q8, 0) h7 _ _ _ (Nat.le_refl _) hw hP hS (lv_sub hl [4, 3, 2, 1, 0] rfl)

