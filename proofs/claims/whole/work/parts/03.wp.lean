def wp_Batch_init (d : Nat → ClassId) (h : xw) (a0 : Nat) (a1 : Int32) (a2 : Int32) (a3 : Int32) (Q : xw → Prop) : Prop :=
  wpF h a0 1 3 (.int 0) fun h1 =>
  wpF h1 a0 1 4 (.int (-1)) fun h2 =>
  wpF h2 a0 1 0 (.int a1) fun h3 =>
  wpF h3 a0 1 1 (.int a2) fun h4 =>
  wnewA h4 100 (if a3 < 0 then 0 else a3) (fun n => xaq (d 0) n (fun _ => none)) fun q6 h5 =>
  wpF h5 a0 1 2 (va_rf (some q6)) fun h7 =>
  Q h7
abbrev wb_Batch_append_32 (d : Nat → ClassId) (Q : xw → Prop) (h : xw) : Prop :=
  Q h
def wp_Batch_append (d : Nat → ClassId) (h : xw) (a0 : Nat) (a1 : Option Nat) (Q : xw → Prop) : Prop :=
  wgI h a0 1 3 fun v1 =>
  wgA h a0 1 2 fun r2 =>
  wnn r2 fun p3 => wlen h p3 (d 0) fun v4 =>
  wIf (v4 ≤ v1) (wb_Batch_append_32 d Q  h) (wgA h a0 1 2 fun r5 =>
  wgI h a0 1 3 fun v6 =>
  wnn r5 fun p7 => wstq h p7 (d 0) 2 v6 a1 fun h8 =>
  wgI h8 a0 1 3 fun v9 =>
  wpF h8 a0 1 3 (.int (v9 + 1)) fun h10 =>
  wb_Batch_append_32 d Q  h10)
abbrev wb_Entry_hasKey_13 (d : Nat → ClassId) (Q : Int32 → xw → Prop) (s0 : Int32) (h : xw) : Prop :=
  wZ s0 (Q s0 h)
def wp_Entry_hasKey (d : Nat → ClassId) (h : xw) (a0 : Nat) (Q : Int32 → xw → Prop) : Prop :=
  wgI h a0 2 1 fun v1 =>
  wIf (v1 = (-1)) (wb_Entry_hasKey_13 d Q 0 h) (wb_Entry_hasKey_13 d Q 1 h)
abbrev wb_Entry_sizeInBytes_31 (d : Nat → ClassId) (Q : Int32 → xw → Prop) (s0 : Int32) (s1 : Int32) (h : xw) : Prop :=
  Q (s1 + s0) h
abbrev wb_Entry_sizeInBytes_17 (d : Nat → ClassId) (Q : Int32 → xw → Prop) (x0 : Nat) (s0 : Int32) (s1 : Int32) (h : xw) : Prop :=
  wgI h x0 2 2 fun v3 =>
  wIf (v3 = 0) (wb_Entry_sizeInBytes_31 d Q 0 (s1 + s0) h) (wb_Entry_sizeInBytes_31 d Q 8 (s1 + s0) h)
def wp_Entry_sizeInBytes (d : Nat → ClassId) (h : xw) (a0 : Nat) (Q : Int32 → xw → Prop) : Prop :=
  wIs h a0 2 (wp_Entry_hasKey d h a0 fun r2 h1 =>
  wIf (r2 = 0) (wb_Entry_sizeInBytes_17 d Q a0 0 8 h1) (wgI h1 a0 2 1 fun v4 =>
  wb_Entry_sizeInBytes_17 d Q a0 v4 8 h1))
def wc_Batch_sizeInBytes_5 (d : Nat → ClassId) (Q : Int32 → xw → Prop) (k5 : Nat → Int32 → Int32 → xw → Prop) (x0 : Nat) (x1 : Int32) (x2 : Int32) (h : xw) : Prop :=
  wgI h x0 1 3 fun v1 =>
  wIf (v1 ≤ x2) (Q x1 h) (wgA h x0 1 2 fun r2 =>
  wnn r2 fun p3 => wldq h p3 (d 0) x2 fun r4 =>
  wnn r4 fun p5 => wIs h p5 2 (wp_Entry_sizeInBytes d h p5 fun r7 h6 =>
  k5 x0 (x1 + r7) (x2 + 1) h6))
def wp_Batch_sizeInBytes (d : Nat → ClassId) (h : xw) (a0 : Nat) (Q : Int32 → xw → Prop) : Prop :=
  wLoop (fun (k : Nat × Int32 × Int32 → xw → Prop) (x : Nat × Int32 × Int32) (h : xw) => wc_Batch_sizeInBytes_5 d Q (fun y0 y1 y2 h => k (y0, y1, y2) h) x.1 x.2.1 x.2.2 h) (a0, 61, 0) h
abbrev wb_Batch_latestWithKey_44 (d : Nat → ClassId) (k8 : Nat → Int64 → Int32 → Int32 → xw → Prop) (Q : Option Nat → xw → Prop) (x0 : Nat) (x1 : Int64) (x3 : Int32) (x4 : Int32) (h : xw) : Prop :=
  k8 x0 x1 x3 (x4 + (-1)) h
def wc_Batch_latestWithKey_8 (d : Nat → ClassId) (Q : Option Nat → xw → Prop) (k8 : Nat → Int64 → Int32 → Int32 → xw → Prop) (x0 : Nat) (x1 : Int64) (x3 : Int32) (x4 : Int32) (h : xw) : Prop :=
  wIf (x4 < 0) (Q none h) (wgA h x0 1 2 fun r2 =>
  wnn r2 fun p3 => wldq h p3 (d 0) x4 fun r4 =>
  wnn r4 fun p5 => wgL h p5 2 0 fun v6 =>
  wIf ((lg_cmp v6 x1) = 0) (wgI h p5 2 1 fun v7 =>
  wIf (v7 = x3) (Q (some p5) h) (wb_Batch_latestWithKey_44 d k8 Q x0 x1 x3 x4 h)) (wb_Batch_latestWithKey_44 d k8 Q x0 x1 x3 x4 h))
def wp_Batch_latestWithKey (d : Nat → ClassId) (h : xw) (a0 : Nat) (a1 : Int64) (a3 : Int32) (Q : Option Nat → xw → Prop) : Prop :=
  wgI h a0 1 3 fun v1 =>
  wLoop (fun (k : Nat × Int64 × Int32 × Int32 → xw → Prop) (x : Nat × Int64 × Int32 × Int32) (h : xw) => wc_Batch_latestWithKey_8 d Q (fun y0 y1 y3 y4 h => k (y0, y1, y3, y4) h) x.1 x.2.1 x.2.2.1 x.2.2.2 h) (a0, a1, a3, (v1 - 1)) h
abbrev wb_Entry_goes_34 (d : Nat → ClassId) (Q : Int32 → xw → Prop) (s0 : Int32) (h : xw) : Prop :=
  wZ s0 (Q s0 h)
abbrev wb_Entry_goes_29 (d : Nat → ClassId) (Q : Int32 → xw → Prop) (h : xw) : Prop :=
  wb_Entry_goes_34 d Q 1 h
abbrev wb_Entry_goes_33 (d : Nat → ClassId) (Q : Int32 → xw → Prop) (h : xw) : Prop :=
  wb_Entry_goes_34 d Q 0 h
def wp_Entry_goes (d : Nat → ClassId) (h : xw) (a0 : Nat) (a1 : Int32) (Q : Int32 → xw → Prop) : Prop :=
  wgI h a0 2 6 fun v1 =>
  wIf (v1 = 0) (wIs h a0 2 (wp_Entry_hasKey d h a0 fun r3 h2 =>
  wIf (r3 = 0) (wb_Entry_goes_33 d Q  h2) (wgI h2 a0 2 2 fun v4 =>
  wIf (v4 = 0) (wgI h2 a0 2 4 fun v5 =>
  wIf (a1 < v5) (wb_Entry_goes_33 d Q  h2) (wb_Entry_goes_29 d Q  h2)) (wb_Entry_goes_33 d Q  h2)))) (wb_Entry_goes_29 d Q  h)
def wc_Batch_removeGone_54 (d : Nat → ClassId) (Q : Int32 → xw → Prop) (k54 : Nat → Int32 → Int32 → Int32 → xw → Prop) (x0 : Nat) (x2 : Int32) (x3 : Int32) (x4 : Int32) (h : xw) : Prop :=
  wIf (x2 ≤ x4) (wpF h x0 1 3 (.int x3) fun h2 =>
  Q (x2 - x3) h2) (wgA h x0 1 2 fun r3 =>
  wnn r3 fun p4 => wstq h p4 (d 0) 2 x4 none fun h5 =>
  k54 x0 x2 x3 (x4 + 1) h5)
abbrev wb_Batch_removeGone_45 (d : Nat → ClassId) (k10 : Nat → Int32 → Int32 → Int32 → Int32 → xw → Prop) (Q : Int32 → xw → Prop) (x0 : Nat) (x1 : Int32) (x2 : Int32) (x3 : Int32) (x4 : Int32) (h : xw) : Prop :=
  k10 x0 x1 x2 x3 (x4 + 1) h
def wc_Batch_removeGone_10 (d : Nat → ClassId) (Q : Int32 → xw → Prop) (k10 : Nat → Int32 → Int32 → Int32 → Int32 → xw → Prop) (x0 : Nat) (x1 : Int32) (x2 : Int32) (x3 : Int32) (x4 : Int32) (h : xw) : Prop :=
  wIf (x2 ≤ x4) (wLoop (fun (k : Nat × Int32 × Int32 × Int32 → xw → Prop) (x : Nat × Int32 × Int32 × Int32) (h : xw) => wc_Batch_removeGone_54 d Q (fun y0 y2 y3 y4 h => k (y0, y2, y3, y4) h) x.1 x.2.1 x.2.2.1 x.2.2.2 h) (x0, x2, x3, x3) h) (wgA h x0 1 2 fun r6 =>
  wnn r6 fun p7 => wldq h p7 (d 0) x4 fun r8 =>
  wnn r8 fun p9 => wIs h p9 2 (wp_Entry_goes d h p9 x1 fun r11 h10 =>
  wIf (r11 = 0) (wgA h10 x0 1 2 fun r12 =>
  wnn r12 fun p13 => wstq h10 p13 (d 0) 2 x3 (some p9) fun h14 =>
  wb_Batch_removeGone_45 d k10 Q x0 x1 x2 (x3 + 1) x4 h14) (wb_Batch_removeGone_45 d k10 Q x0 x1 x2 x3 x4 h10)))
def wp_Batch_removeGone (d : Nat → ClassId) (h : xw) (a0 : Nat) (a1 : Int32) (Q : Int32 → xw → Prop) : Prop :=
  wgI h a0 1 3 fun v1 =>
  wLoop (fun (k : Nat × Int32 × Int32 × Int32 × Int32 → xw → Prop) (x : Nat × Int32 × Int32 × Int32 × Int32) (h : xw) => wc_Batch_removeGone_10 d Q (fun y0 y1 y2 y3 y4 h => k (y0, y1, y2, y3, y4) h) x.1 x.2.1 x.2.2.1 x.2.2.2.1 x.2.2.2.2 h) (a0, a1, v1, 0, 0) h
def wp_Entry_init (d : Nat → ClassId) (h : xw) (a0 : Nat) (a1 : Int64) (a3 : Int32) (a4 : Int32) (a5 : Int64) (a7 : Int32) (Q : xw → Prop) : Prop :=
  wpF h a0 2 5 (.int (-1)) fun h1 =>
  wpZ h1 a0 2 6 0 fun h2 =>
  wpF h2 a0 2 0 (.long a1) fun h3 =>
  wpF h3 a0 2 1 (.int a3) fun h4 =>
  wpZ h4 a0 2 2 a4 fun h5 =>
  wpF h5 a0 2 3 (.long a5) fun h6 =>
  wpF h6 a0 2 4 (.int a7) fun h7 =>
  Q h7
def wp_Packing_init (d : Nat → ClassId) (h : xw) (a0 : Nat) (Q : xw → Prop) : Prop :=
  wpF h a0 3 0 (.int (-1)) fun h1 =>
  wpF h1 a0 3 1 (.int 0) fun h2 =>
  Q h2
abbrev wb_Packing_place_35 (d : Nat → ClassId) (Q : Int32 → xw → Prop) (x0 : Nat) (x1 : Int32) (h : xw) : Prop :=
  wgI h x0 3 1 fun v5 =>
  wpF h x0 3 1 (.int (v5 + x1)) fun h6 =>
  wgI h6 x0 3 0 fun v7 =>
  Q v7 h6
abbrev wb_Packing_place_20 (d : Nat → ClassId) (Q : Int32 → xw → Prop) (x0 : Nat) (x1 : Int32) (h : xw) : Prop :=
  wgI h x0 3 0 fun v2 =>
  wpF h x0 3 0 (.int (v2 + 1)) fun h3 =>
  wpF h3 x0 3 1 (.int 0) fun h4 =>
  wb_Packing_place_35 d Q x0 x1 h4
def wp_Packing_place (d : Nat → ClassId) (h : xw) (a0 : Nat) (a1 : Int32) (Q : Int32 → xw → Prop) : Prop :=
  wgI h a0 3 0 fun v1 =>
  wIf (v1 = (-1)) (wb_Packing_place_20 d Q a0 a1 h) (wgI h a0 3 1 fun v8 =>
  wIf ((v8 + a1) ≤ 1000) (wb_Packing_place_35 d Q a0 a1 h) (wb_Packing_place_20 d Q a0 a1 h))
def wp_LogCleaner_init (d : Nat → ClassId) (h : xw) (a0 : Nat) (Q : xw → Prop) : Prop :=
  wnewA h 400 400 (fun n => xaq (d 1) n (fun _ => none)) fun q2 h1 =>
  wpF h1 a0 0 0 (va_rf (some q2)) fun h3 =>
  wpF h3 a0 0 1 (.int 0) fun h4 =>
  wpF h4 a0 0 2 (.int 0) fun h5 =>
  wpF h5 a0 0 3 (.int 0) fun h6 =>
  wnew h6 (.inr (3, z_Packing)) fun q8 h7 =>
  wp_Packing_init d h7 q8 fun h9 =>
  wpF h9 a0 0 4 (va_rf (some q8)) fun h10 =>
  wnewA h10 100 100 (fun n => xaq (d 0) n (fun _ => none)) fun q12 h11 =>
  wpF h11 a0 0 5 (va_rf (some q12)) fun h13 =>
  wpF h13 a0 0 6 (.int 0) fun h14 =>
  Q h14
def wp_LogCleaner_lowestBytes (d : Nat → ClassId) (h : xw) (a0 : Int64) (a2 : Int32) (Q : Int64 → xw → Prop) : Prop :=
  wIf (0 < a2) (wIf (a2 < 8) (Q (a0 &&& ((1 <<< ((a2 * 8).toInt64 &&& 63)) - 1)) h) (Q a0 h)) (Q 0 h)
abbrev wb_LogCleaner_record_11 (d : Nat → ClassId) (Q : Int32 → xw → Prop) (X : String → xw → Prop) (h : xw) : Prop :=
  X "java/lang/IllegalArgumentException" h
abbrev wb_LogCleaner_record_98 (d : Nat → ClassId) (Q : Int32 → xw → Prop) (X : String → xw → Prop) (x0 : Nat) (x3 : Int32) (x4 : Int32) (x7 : Int32) (x8 : Int64) (s0 : Int64) (h : xw) : Prop :=
  wgA h x0 0 5 fun r6 =>
  wgI h x0 0 6 fun v7 =>
  wnew h (.inr (2, z_Entry)) fun q9 h8 =>
  wp_Entry_init d h8 q9 x8 x3 x4 s0 x7 fun h10 =>
  wnn r6 fun p11 => wstq h10 p11 (d 0) 2 v7 (some q9) fun h12 =>
  wgI h12 x0 0 6 fun v13 =>
  wpF h12 x0 0 6 (.int (v13 + 1)) fun h14 =>
  wgI h14 x0 0 6 fun v15 =>
  Q v15 h14
def wp_LogCleaner_record (d : Nat → ClassId) (h : xw) (a0 : Nat) (a1 : Int64) (a3 : Int32) (a4 : Int32) (a5 : Int64) (a7 : Int32) (Q : Int32 → xw → Prop) (X : String → xw → Prop) : Prop :=
  wIf (a3 < (-1)) (wb_LogCleaner_record_11 d Q X  h) (wIf (a3 ≤ 8) (wIf (0 ≤ a7) (wgI h a0 0 6 fun v1 =>
  wIf (v1 < 100) (wgI h a0 0 2 fun v2 =>
  wgI h a0 0 6 fun v3 =>
  wIf ((v2 + v3) < 4000) (wp_LogCleaner_lowestBytes d h a1 a3 fun r5 h4 =>
  wIf (a4 = 0) (wb_LogCleaner_record_98 d Q X a0 a3 a4 a7 r5 0 h4) (wb_LogCleaner_record_98 d Q X a0 a3 a4 a7 r5 a5 h4)) (X "java/lang/IllegalStateException" h)) (X "java/lang/IllegalStateException" h)) (X "java/lang/IllegalArgumentException" h)) (wb_LogCleaner_record_11 d Q X  h))
def wc_LogCleaner_latestWithKey_8 (d : Nat → ClassId) (Q : Option Nat → xw → Prop) (k8 : Nat → Int64 → Int32 → Int32 → xw → Prop) (x0 : Nat) (x1 : Int64) (x3 : Int32) (x4 : Int32) (h : xw) : Prop :=
  wIf (x4 < 0) (Q none h) (wgA h x0 0 0 fun r2 =>
  wnn r2 fun p3 => wldq h p3 (d 1) x4 fun r4 =>
  wnn r4 fun p5 => wIs h p5 1 (wp_Batch_latestWithKey d h p5 x1 x3 fun r7 h6 =>
  wNul r7 (k8 x0 x1 x3 (x4 + (-1)) h6) (fun p8 => Q (some p8) h6)))
def wp_LogCleaner_latestWithKey (d : Nat → ClassId) (h : xw) (a0 : Nat) (a1 : Int64) (a3 : Int32) (Q : Option Nat → xw → Prop) : Prop :=
  wgI h a0 0 1 fun v1 =>
  wLoop (fun (k : Nat × Int64 × Int32 × Int32 → xw → Prop) (x : Nat × Int64 × Int32 × Int32) (h : xw) => wc_LogCleaner_latestWithKey_8 d Q (fun y0 y1 y3 y4 h => k (y0, y1, y3, y4) h) x.1 x.2.1 x.2.2.1 x.2.2.2 h) (a0, a1, a3, (v1 - 1)) h
abbrev wb_LogCleaner_markSuperseded_30 (d : Nat → ClassId) (Q : xw → Prop) (h : xw) : Prop :=
  Q h
def wp_LogCleaner_markSuperseded (d : Nat → ClassId) (h : xw) (a0 : Nat) (a1 : Option Nat) (Q : xw → Prop) : Prop :=
  wnn a1 fun p1 => wIs h p1 2 (wp_Entry_hasKey d h p1 fun r3 h2 =>
  wIf (r3 = 0) (Q h2) (wgL h2 p1 2 0 fun v4 =>
  wgI h2 p1 2 1 fun v5 =>
  wIs h2 a0 0 (wp_LogCleaner_latestWithKey d h2 a0 v4 v5 fun r7 h6 =>
  wNul r7 (wb_LogCleaner_markSuperseded_30 d Q  h6) (fun p8 => wpZ h6 p8 2 6 1 fun h9 =>
  wb_LogCleaner_markSuperseded_30 d Q  h9))))
def wc_LogCleaner_moveDraftInto_2 (d : Nat → ClassId) (Q : xw → Prop) (k2 : Nat → Option Nat → Int32 → xw → Prop) (x0 : Nat) (x1 : Option Nat) (x2 : Int32) (h : xw) : Prop :=
  wgI h x0 0 6 fun v1 =>
  wIf (v1 ≤ x2) (wgI h x0 0 2 fun v2 =>
  wgI h x0 0 6 fun v3 =>
  wpF h x0 0 2 (.int (v2 + v3)) fun h4 =>
  wpF h4 x0 0 6 (.int 0) fun h5 =>
  Q h5) (wgA h x0 0 5 fun r6 =>
  wnn r6 fun p7 => wldq h p7 (d 0) x2 fun r8 =>
  wIs h x0 0 (wp_LogCleaner_markSuperseded d h x0 r8 fun h9 =>
  wgI h9 x0 0 3 fun v10 =>
  wnn r8 fun p11 => wpF h9 p11 2 5 (.int v10) fun h12 =>
  wgI h12 x0 0 3 fun v13 =>
  wpF h12 x0 0 3 (.int (v13 + 1)) fun h14 =>
  wnn x1 fun p15 => wIs h14 p15 1 (wp_Batch_append d h14 p15 (some p11) fun h16 =>
  wgA h16 x0 0 5 fun r17 =>
  wnn r17 fun p18 => wstq h16 p18 (d 0) 2 x2 none fun h19 =>
  k2 x0 (some p15) (x2 + 1) h19)))
def wp_LogCleaner_moveDraftInto (d : Nat → ClassId) (h : xw) (a0 : Nat) (a1 : Option Nat) (Q : xw → Prop) : Prop :=
  wLoop (fun (k : Nat × Option Nat × Int32 → xw → Prop) (x : Nat × Option Nat × Int32) (h : xw) => wc_LogCleaner_moveDraftInto_2 d Q (fun y0 y1 y2 h => k (y0, y1, y2) h) x.1 x.2.1 x.2.2 h) (a0, a1, 0) h
def wp_LogCleaner_close (d : Nat → ClassId) (h : xw) (a0 : Nat) (a1 : Int32) (Q : Int32 → xw → Prop) (X : String → xw → Prop) : Prop :=
  wIf ((-1) ≤ a1) (wgI h a0 0 6 fun v1 =>
  wIf (v1 = 0) (X "java/lang/IllegalStateException" h) (wgI h a0 0 1 fun v2 =>
  wIf (v2 < 400) (wnew h (.inr (1, z_Batch)) fun q4 h3 =>
  wgI h3 a0 0 3 fun v5 =>
  wgI h3 a0 0 6 fun v6 =>
  wp_Batch_init d h3 q4 v5 a1 v6 fun h7 =>
  wgA h7 a0 0 0 fun r8 =>
  wgI h7 a0 0 1 fun v9 =>
  wnn r8 fun p10 => wstq h7 p10 (d 1) 1 v9 (some q4) fun h11 =>
  wgI h11 a0 0 1 fun v12 =>
  wpF h11 a0 0 1 (.int (v12 + 1)) fun h13 =>
  wIs h13 a0 0 (wp_LogCleaner_moveDraftInto d h13 a0 (some q4) fun h14 =>
  wgA h14 a0 0 4 fun r15 =>
  wIs h14 q4 1 (wp_Batch_sizeInBytes d h14 q4 fun r17 h16 =>
  wnn r15 fun p18 => wIs h16 p18 3 (wp_Packing_place d h16 p18 r17 fun r20 h19 =>
  wpF h19 q4 1 4 (.int r20) fun h21 =>
  wgI h21 q4 1 0 fun v22 =>
  Q v22 h21)))) (X "java/lang/IllegalStateException" h))) (X "java/lang/IllegalArgumentException" h)
abbrev wb_LogCleaner_isClosed_19 (d : Nat → ClassId) (Q : Int32 → xw → Prop) (s0 : Int32) (h : xw) : Prop :=
  wZ s0 (Q s0 h)
def wp_LogCleaner_isClosed (d : Nat → ClassId) (h : xw) (a0 : Nat) (a1 : Option Nat) (Q : Int32 → xw → Prop) : Prop :=
  wnn a1 fun p1 => wgI h p1 1 4 fun v2 =>
  wgA h a0 0 4 fun r3 =>
  wnn r3 fun p4 => wgI h p4 3 0 fun v5 =>
  wIf (v5 ≤ v2) (wb_LogCleaner_isClosed_19 d Q 0 h) (wb_LogCleaner_isClosed_19 d Q 1 h)
abbrev wb_LogCleaner_removeGoneRecords_38 (d : Nat → ClassId) (k4 : Nat → Int32 → Int32 → Int32 → xw → Prop) (Q : Int32 → xw → Prop) (x0 : Nat) (x1 : Int32) (x2 : Int32) (x3 : Int32) (h : xw) : Prop :=
  k4 x0 x1 x2 (x3 + 1) h
def wc_LogCleaner_removeGoneRecords_4 (d : Nat → ClassId) (Q : Int32 → xw → Prop) (k4 : Nat → Int32 → Int32 → Int32 → xw → Prop) (x0 : Nat) (x1 : Int32) (x2 : Int32) (x3 : Int32) (h : xw) : Prop :=
  wgI h x0 0 1 fun v1 =>
  wIf (v1 ≤ x3) (wgI h x0 0 2 fun v2 =>
  wpF h x0 0 2 (.int (v2 - x2)) fun h3 =>
  Q x2 h3) (wgA h x0 0 0 fun r4 =>
  wnn r4 fun p5 => wldq h p5 (d 1) x3 fun r6 =>
  wIs h x0 0 (wp_LogCleaner_isClosed d h x0 r6 fun r8 h7 =>
  wIf (r8 = 0) (wb_LogCleaner_removeGoneRecords_38 d k4 Q x0 x1 x2 x3 h7) (wgA h7 x0 0 0 fun r9 =>
  wnn r9 fun p10 => wldq h7 p10 (d 1) x3 fun r11 =>
  wnn r11 fun p12 => wIs h7 p12 1 (wp_Batch_removeGone d h7 p12 x1 fun r14 h13 =>
  wb_LogCleaner_removeGoneRecords_38 d k4 Q x0 x1 (x2 + r14) x3 h13))))
def wp_LogCleaner_removeGoneRecords (d : Nat → ClassId) (h : xw) (a0 : Nat) (a1 : Int32) (Q : Int32 → xw → Prop) : Prop :=
  wLoop (fun (k : Nat × Int32 × Int32 × Int32 → xw → Prop) (x : Nat × Int32 × Int32 × Int32) (h : xw) => wc_LogCleaner_removeGoneRecords_4 d Q (fun y0 y1 y2 y3 h => k (y0, y1, y2, y3) h) x.1 x.2.1 x.2.2.1 x.2.2.2 h) (a0, a1, 0, 0) h
abbrev wb_LogCleaner_isKnown_66 (d : Nat → ClassId) (Q : Int32 → xw → Prop) (s0 : Int32) (h : xw) : Prop :=
  wZ s0 (Q s0 h)
abbrev wb_LogCleaner_isKnown_50 (d : Nat → ClassId) (k24 : Nat → Int32 → Int32 → Int32 → xw → Prop) (Q : Int32 → xw → Prop) (x0 : Nat) (x2 : Int32) (x3 : Int32) (x4 : Int32) (h : xw) : Prop :=
  k24 x0 x2 x3 (x4 + 1) h
def wc_LogCleaner_isKnown_24 (d : Nat → ClassId) (Q : Int32 → xw → Prop) (k24 : Nat → Int32 → Int32 → Int32 → xw → Prop) (x0 : Nat) (x2 : Int32) (x3 : Int32) (x4 : Int32) (h : xw) : Prop :=
  wgI h x0 0 1 fun v6 =>
  wIf (v6 ≤ x4) (wIf (2 ≤ x3) (wb_LogCleaner_isKnown_66 d Q 0 h) (wb_LogCleaner_isKnown_66 d Q 1 h)) (wgA h x0 0 0 fun r7 =>
  wnn r7 fun p8 => wldq h p8 (d 1) x4 fun r9 =>
  wnn r9 fun p10 => wgI h p10 1 1 fun v11 =>
  wIf (v11 = x2) (wb_LogCleaner_isKnown_50 d k24 Q x0 x2 (x3 + 1) x4 h) (wb_LogCleaner_isKnown_50 d k24 Q x0 x2 x3 x4 h))
def wp_LogCleaner_isKnown (d : Nat → ClassId) (h : xw) (a0 : Nat) (a1 : Int32) (Q : Int32 → xw → Prop) : Prop :=
  wgA h a0 0 0 fun r1 =>
  wnn r1 fun p2 => wldq h p2 (d 1) a1 fun r3 =>
  wnn r3 fun p4 => wgI h p4 1 1 fun v5 =>
  wIf (v5 = (-1)) (wZ 0 (Q 0 h)) (wLoop (fun (k : Nat × Int32 × Int32 × Int32 → xw → Prop) (x : Nat × Int32 × Int32 × Int32) (h : xw) => wc_LogCleaner_isKnown_24 d Q (fun y0 y2 y3 y4 h => k (y0, y2, y3, y4) h) x.1 x.2.1 x.2.2.1 x.2.2.2 h) (a0, v5, 0, (a1 + 1)) h)
def wc_LogCleaner_keepFirstBatches_2 (d : Nat → ClassId) (Q : xw → Prop) (k2 : Nat → Int32 → Int32 → xw → Prop) (x0 : Nat) (x1 : Int32) (x2 : Int32) (h : xw) : Prop :=
  wgI h x0 0 1 fun v1 =>
  wIf (v1 ≤ x2) (wpF h x0 0 1 (.int x1) fun h2 =>
  Q h2) (wgA h x0 0 0 fun r3 =>
  wnn r3 fun p4 => wstq h p4 (d 1) 1 x2 none fun h5 =>
  k2 x0 x1 (x2 + 1) h5)
def wp_LogCleaner_keepFirstBatches (d : Nat → ClassId) (h : xw) (a0 : Nat) (a1 : Int32) (Q : xw → Prop) : Prop :=
  wLoop (fun (k : Nat × Int32 × Int32 → xw → Prop) (x : Nat × Int32 × Int32) (h : xw) => wc_LogCleaner_keepFirstBatches_2 d Q (fun y0 y1 y2 h => k (y0, y1, y2) h) x.1 x.2.1 x.2.2 h) (a0, a1, a1) h
abbrev wb_LogCleaner_removeEmptiedBatches_70 (d : Nat → ClassId) (k9 : Nat → Int32 → Int32 → Int32 → xw → Prop) (Q : Int32 → xw → Prop) (x0 : Nat) (x1 : Int32) (x2 : Int32) (x3 : Int32) (h : xw) : Prop :=
  k9 x0 x1 x2 (x3 + 1) h
abbrev wb_LogCleaner_removeEmptiedBatches_52 (d : Nat → ClassId) (k9 : Nat → Int32 → Int32 → Int32 → xw → Prop) (Q : Int32 → xw → Prop) (x0 : Nat) (x1 : Int32) (x2 : Int32) (x3 : Int32) (x4 : Option Nat) (s0 : Int32) (h : xw) : Prop :=
  wIf (s0 = 0) (wgA h x0 0 0 fun r8 =>
  wnn r8 fun p9 => wstq h p9 (d 1) 1 x2 x4 fun h10 =>
  wb_LogCleaner_removeEmptiedBatches_70 d k9 Q x0 x1 (x2 + 1) x3 h10) (wb_LogCleaner_removeEmptiedBatches_70 d k9 Q x0 x1 x2 x3 h)
abbrev wb_LogCleaner_removeEmptiedBatches_51 (d : Nat → ClassId) (k9 : Nat → Int32 → Int32 → Int32 → xw → Prop) (Q : Int32 → xw → Prop) (x0 : Nat) (x1 : Int32) (x2 : Int32) (x3 : Int32) (x4 : Option Nat) (h : xw) : Prop :=
  wb_LogCleaner_removeEmptiedBatches_52 d k9 Q x0 x1 x2 x3 x4 0 h
def wc_LogCleaner_removeEmptiedBatches_9 (d : Nat → ClassId) (Q : Int32 → xw → Prop) (k9 : Nat → Int32 → Int32 → Int32 → xw → Prop) (x0 : Nat) (x1 : Int32) (x2 : Int32) (x3 : Int32) (h : xw) : Prop :=
  wIf (x1 ≤ x3) (wIs h x0 0 (wp_LogCleaner_keepFirstBatches d h x0 x2 fun h2 =>
  Q (x1 - x2) h2)) (wgA h x0 0 0 fun r3 =>
  wnn r3 fun p4 => wldq h p4 (d 1) x3 fun r5 =>
  wIs h x0 0 (wp_LogCleaner_isClosed d h x0 r5 fun r7 h6 =>
  wIf (r7 = 0) (wb_LogCleaner_removeEmptiedBatches_51 d k9 Q x0 x1 x2 x3 r5 h6) (wnn r5 fun p11 => wgI h6 p11 1 3 fun v12 =>
  wIf (v12 = 0) (wIs h6 x0 0 (wp_LogCleaner_isKnown d h6 x0 x3 fun r14 h13 =>
  wIf (r14 = 0) (wb_LogCleaner_removeEmptiedBatches_52 d k9 Q x0 x1 x2 x3 (some p11) 1 h13) (wb_LogCleaner_removeEmptiedBatches_51 d k9 Q x0 x1 x2 x3 (some p11) h13))) (wb_LogCleaner_removeEmptiedBatches_51 d k9 Q x0 x1 x2 x3 (some p11) h6))))
def wp_LogCleaner_removeEmptiedBatches (d : Nat → ClassId) (h : xw) (a0 : Nat) (Q : Int32 → xw → Prop) : Prop :=
  wgI h a0 0 1 fun v1 =>
  wLoop (fun (k : Nat × Int32 × Int32 × Int32 → xw → Prop) (x : Nat × Int32 × Int32 × Int32) (h : xw) => wc_LogCleaner_removeEmptiedBatches_9 d Q (fun y0 y1 y2 y3 h => k (y0, y1, y2, y3) h) x.1 x.2.1 x.2.2.1 x.2.2.2 h) (a0, v1, 0, 0) h
def wc_LogCleaner_packClosedSegments_66 (d : Nat → ClassId) (Q : xw → Prop) (k66 : Nat → Int32 → Int32 → xw → Prop) (x0 : Nat) (x2 : Int32) (x3 : Int32) (h : xw) : Prop :=
  wgI h x0 0 1 fun v6 =>
  wIf (v6 ≤ x2) (wgA h x0 0 4 fun r7 =>
  wnn r7 fun p8 => wpF h p8 3 0 (.int x3) fun h9 =>
  Q h9) (wgA h x0 0 0 fun r10 =>
  wnn r10 fun p11 => wldq h p11 (d 1) x2 fun r12 =>
  wnn r12 fun p13 => wpF h p13 1 4 (.int x3) fun h14 =>
  k66 x0 (x2 + 1) x3 h14)
abbrev wb_LogCleaner_packClosedSegments_59 (d : Nat → ClassId) (Q : xw → Prop) (x0 : Nat) (x1 : Nat) (x2 : Int32) (h : xw) : Prop :=
  wgI h x1 3 0 fun v5 =>
  wLoop (fun (k : Nat × Int32 × Int32 → xw → Prop) (x : Nat × Int32 × Int32) (h : xw) => wc_LogCleaner_packClosedSegments_66 d Q (fun y0 y2 y3 h => k (y0, y2, y3) h) x.1 x.2.1 x.2.2 h) (x0, x2, (v5 + 1)) h
def wc_LogCleaner_packClosedSegments_10 (d : Nat → ClassId) (Q : xw → Prop) (k10 : Nat → Nat → Int32 → xw → Prop) (x0 : Nat) (x1 : Nat) (x2 : Int32) (h : xw) : Prop :=
  wgI h x0 0 1 fun v4 =>
  wIf (v4 ≤ x2) (wb_LogCleaner_packClosedSegments_59 d Q x0 x1 x2 h) (wgA h x0 0 0 fun r15 =>
  wnn r15 fun p16 => wldq h p16 (d 1) x2 fun r17 =>
  wIs h x0 0 (wp_LogCleaner_isClosed d h x0 r17 fun r19 h18 =>
  wIf (r19 = 0) (wb_LogCleaner_packClosedSegments_59 d Q x0 x1 x2 h18) (wgA h18 x0 0 0 fun r20 =>
  wnn r20 fun p21 => wldq h18 p21 (d 1) x2 fun r22 =>
  wgA h18 x0 0 0 fun r23 =>
  wnn r23 fun p24 => wldq h18 p24 (d 1) x2 fun r25 =>
  wnn r25 fun p26 => wIs h18 p26 1 (wp_Batch_sizeInBytes d h18 p26 fun r28 h27 =>
  wIs h27 x1 3 (wp_Packing_place d h27 x1 r28 fun r30 h29 =>
  wnn r22 fun p31 => wpF h29 p31 1 4 (.int r30) fun h32 =>
  k10 x0 x1 (x2 + 1) h32)))))
def wp_LogCleaner_packClosedSegments (d : Nat → ClassId) (h : xw) (a0 : Nat) (Q : xw → Prop) : Prop :=
  wnew h (.inr (3, z_Packing)) fun q2 h1 =>
  wp_Packing_init d h1 q2 fun h3 =>
  wLoop (fun (k : Nat × Nat × Int32 → xw → Prop) (x : Nat × Nat × Int32) (h : xw) => wc_LogCleaner_packClosedSegments_10 d Q (fun y0 y1 y2 h => k (y0, y1, y2) h) x.1 x.2.1 x.2.2 h) (a0, q2, 0) h3
abbrev wb_LogCleaner_clean_41 (d : Nat → ClassId) (Q : Int32 → xw → Prop) (X : String → xw → Prop) (x2 : Int32) (h : xw) : Prop :=
  Q x2 h
abbrev wb_LogCleaner_clean_37 (d : Nat → ClassId) (Q : Int32 → xw → Prop) (X : String → xw → Prop) (x0 : Nat) (x2 : Int32) (h : xw) : Prop :=
  wIs h x0 0 (wp_LogCleaner_packClosedSegments d h x0 fun h5 =>
  wb_LogCleaner_clean_41 d Q X x2 h5)
def wp_LogCleaner_clean (d : Nat → ClassId) (h : xw) (a0 : Nat) (a1 : Int32) (Q : Int32 → xw → Prop) (X : String → xw → Prop) : Prop :=
  wIf (0 ≤ a1) (wIs h a0 0 (wp_LogCleaner_removeGoneRecords d h a0 (a1 - 1000) fun r2 h1 =>
  wIs h1 a0 0 (wp_LogCleaner_removeEmptiedBatches d h1 a0 fun r4 h3 =>
  wIf (0 < r2) (wb_LogCleaner_clean_37 d Q X a0 r2 h3) (wIf (r4 ≤ 0) (wb_LogCleaner_clean_41 d Q X r2 h3) (wb_LogCleaner_clean_37 d Q X a0 r2 h3))))) (X "java/lang/IllegalArgumentException" h)
abbrev wb_LogCleaner_removeFirstSegments_67 (d : Nat → ClassId) (k7 : Nat → Int32 → Int32 → Int32 → Int32 → xw → Prop) (Q : Int32 → xw → Prop) (x0 : Nat) (x1 : Int32) (x2 : Int32) (x3 : Int32) (x4 : Int32) (h : xw) : Prop :=
  k7 x0 x1 x2 x3 (x4 + 1) h
def wc_LogCleaner_removeFirstSegments_7 (d : Nat → ClassId) (Q : Int32 → xw → Prop) (k7 : Nat → Int32 → Int32 → Int32 → Int32 → xw → Prop) (x0 : Nat) (x1 : Int32) (x2 : Int32) (x3 : Int32) (x4 : Int32) (h : xw) : Prop :=
  wgI h x0 0 1 fun v1 =>
  wIf (v1 ≤ x4) (wIs h x0 0 (wp_LogCleaner_keepFirstBatches d h x0 x3 fun h2 =>
  wgA h2 x0 0 4 fun r3 =>
  wnn r3 fun p4 => wgI h2 p4 3 0 fun v5 =>
  wpF h2 p4 3 0 (.int (v5 - x1)) fun h6 =>
  wgI h6 x0 0 2 fun v7 =>
  wpF h6 x0 0 2 (.int (v7 - x2)) fun h8 =>
  Q x2 h8)) (wgA h x0 0 0 fun r9 =>
  wnn r9 fun p10 => wldq h p10 (d 1) x4 fun r11 =>
  wnn r11 fun p12 => wgI h p12 1 4 fun v13 =>
  wIf (x1 ≤ v13) (wgI h p12 1 4 fun v14 =>
  wpF h p12 1 4 (.int (v14 - x1)) fun h15 =>
  wgA h15 x0 0 0 fun r16 =>
  wnn r16 fun p17 => wstq h15 p17 (d 1) 1 x3 (some p12) fun h18 =>
  wb_LogCleaner_removeFirstSegments_67 d k7 Q x0 x1 x2 (x3 + 1) x4 h18) (wgI h p12 1 3 fun v19 =>
  wb_LogCleaner_removeFirstSegments_67 d k7 Q x0 x1 (x2 + v19) x3 x4 h))
def wp_LogCleaner_removeFirstSegments (d : Nat → ClassId) (h : xw) (a0 : Nat) (a1 : Int32) (Q : Int32 → xw → Prop) : Prop :=
  wLoop (fun (k : Nat × Int32 × Int32 × Int32 × Int32 → xw → Prop) (x : Nat × Int32 × Int32 × Int32 × Int32) (h : xw) => wc_LogCleaner_removeFirstSegments_7 d Q (fun y0 y1 y2 y3 y4 h => k (y0, y1, y2, y3, y4) h) x.1 x.2.1 x.2.2.1 x.2.2.2.1 x.2.2.2.2 h) (a0, a1, 0, 0, 0) h
abbrev wb_LogCleaner_drop_11 (d : Nat → ClassId) (Q : Int32 → xw → Prop) (X : String → xw → Prop) (h : xw) : Prop :=
  X "java/lang/IllegalArgumentException" h
def wp_LogCleaner_drop (d : Nat → ClassId) (h : xw) (a0 : Nat) (a1 : Int32) (Q : Int32 → xw → Prop) (X : String → xw → Prop) : Prop :=
  wIf (a1 < 0) (wb_LogCleaner_drop_11 d Q X  h) (wIf (a1 ≤ 400) (wgA h a0 0 4 fun r1 =>
  wnn r1 fun p2 => wgI h p2 3 0 fun v3 =>
  wIs h a0 0 (wp_LogCleaner_removeFirstSegments d h a0 (if (if v3 < 0 then 0 else v3) < a1 then (if v3 < 0 then 0 else v3) else a1) fun r5 h4 =>
  Q r5 h4)) (wb_LogCleaner_drop_11 d Q X  h))
def wp_LogCleaner_count (d : Nat → ClassId) (h : xw) (a0 : Nat) (a1 : Int32) (Q : Int32 → xw → Prop) (X : String → xw → Prop) : Prop :=
  (a1 = 0 → wgI h a0 0 2 fun v1 =>
  Q v1 h) ∧ (a1 = 1 → wgI h a0 0 1 fun v2 =>
  Q v2 h) ∧ (a1 = 2 → wgA h a0 0 4 fun r3 =>
  wnn r3 fun p4 => wgI h p4 3 0 fun v5 =>
  Q (v5 + 1) h) ∧ (a1 = 3 → wgI h a0 0 6 fun v6 =>
  Q v6 h) ∧ (a1 = 4 → wgI h a0 0 3 fun v7 =>
  Q v7 h) ∧ (a1.toInt < 0 ∨ 4 < a1.toInt → X "java/lang/IllegalArgumentException" h)
abbrev wb_LogCleaner_batch_12 (d : Nat → ClassId) (Q : Int32 → xw → Prop) (X : String → xw → Prop) (h : xw) : Prop :=
  X "java/lang/IllegalArgumentException" h
abbrev wb_LogCleaner_batch_106 (d : Nat → ClassId) (Q : Int32 → xw → Prop) (X : String → xw → Prop) (s0 : Int32) (h : xw) : Prop :=
  Q s0 h
def wp_LogCleaner_batch (d : Nat → ClassId) (h : xw) (a0 : Nat) (a1 : Int32) (a2 : Int32) (Q : Int32 → xw → Prop) (X : String → xw → Prop) : Prop :=
  wIf (a1 < 0) (wb_LogCleaner_batch_12 d Q X  h) (wgI h a0 0 1 fun v1 =>
  wIf (a1 < v1) (wgA h a0 0 0 fun r2 =>
  wnn r2 fun p3 => wldq h p3 (d 1) a1 fun r4 =>
  (a2 = 0 → wnn r4 fun p5 => wgI h p5 1 0 fun v6 =>
  Q v6 h) ∧ (a2 = 1 → wnn r4 fun p7 => wgI h p7 1 3 fun v8 =>
  Q v8 h) ∧ (a2 = 2 → wnn r4 fun p9 => wgI h p9 1 1 fun v10 =>
  Q v10 h) ∧ (a2 = 3 → wnn r4 fun p11 => wIs h p11 1 (wp_Batch_sizeInBytes d h p11 fun r13 h12 =>
  Q r13 h12)) ∧ (a2 = 4 → wnn r4 fun p14 => wgI h p14 1 4 fun v15 =>
  Q v15 h) ∧ (a2 = 5 → wIs h a0 0 (wp_LogCleaner_isKnown d h a0 a1 fun r17 h16 =>
  wIf (r17 = 0) (wb_LogCleaner_batch_106 d Q X 0 h16) (wb_LogCleaner_batch_106 d Q X 1 h16))) ∧ (a2.toInt < 0 ∨ 5 < a2.toInt → X "java/lang/IllegalArgumentException" h)) (wb_LogCleaner_batch_12 d Q X  h))
def wc_LogCleaner_entryAt_10 (d : Nat → ClassId) (Q : Option Nat → xw → Prop) (k10 : Nat → Int32 → Int32 → xw → Prop) (x0 : Nat) (x2 : Int32) (x3 : Int32) (h : xw) : Prop :=
  wgI h x0 0 1 fun v1 =>
  wIf (v1 ≤ x3) (Q none h) (wgA h x0 0 0 fun r2 =>
  wnn r2 fun p3 => wldq h p3 (d 1) x3 fun r4 =>
  wnn r4 fun p5 => wgI h p5 1 3 fun v6 =>
  wIf (v6 ≤ x2) (wgI h p5 1 3 fun v7 =>
  k10 x0 (x2 - v7) (x3 + 1) h) (wgA h p5 1 2 fun r8 =>
  wnn r8 fun p9 => wldq h p9 (d 0) x2 fun r10 =>
  Q r10 h))
def wp_LogCleaner_entryAt (d : Nat → ClassId) (h : xw) (a0 : Nat) (a1 : Int32) (Q : Option Nat → xw → Prop) : Prop :=
  wIf (0 ≤ a1) (wLoop (fun (k : Nat × Int32 × Int32 → xw → Prop) (x : Nat × Int32 × Int32) (h : xw) => wc_LogCleaner_entryAt_10 d Q (fun y0 y2 y3 h => k (y0, y2, y3) h) x.1 x.2.1 x.2.2 h) (a0, a1, 0) h) (Q none h)
abbrev wb_LogCleaner_told_94 (d : Nat → ClassId) (Q : Int64 → xw → Prop) (X : String → xw → Prop) (s0 : Int64) (h : xw) : Prop :=
  Q s0 h
def wp_LogCleaner_told (d : Nat → ClassId) (h : xw) (a0 : Nat) (a1 : Int32) (a2 : Int32) (Q : Int64 → xw → Prop) (X : String → xw → Prop) : Prop :=
  wIs h a0 0 (wp_LogCleaner_entryAt d h a0 a1 fun r2 h1 =>
  wNul r2 (X "java/lang/IllegalArgumentException" h1) (fun p3 => (a2 = 0 → wgI h1 p3 2 5 fun v4 =>
  Q v4.toInt64 h1) ∧ (a2 = 1 → wgI h1 p3 2 1 fun v5 =>
  Q v5.toInt64 h1) ∧ (a2 = 2 → wgL h1 p3 2 0 fun v6 =>
  Q v6 h1) ∧ (a2 = 3 → wgL h1 p3 2 3 fun v7 =>
  Q v7 h1) ∧ (a2 = 4 → wgI h1 p3 2 2 fun v8 =>
  wIf (v8 = 0) (wb_LogCleaner_told_94 d Q X 0 h1) (wb_LogCleaner_told_94 d Q X 1 h1)) ∧ (a2 = 5 → wgI h1 p3 2 4 fun v9 =>
  Q v9.toInt64 h1) ∧ (a2.toInt < 0 ∨ 5 < a2.toInt → X "java/lang/IllegalArgumentException" h1)))
abbrev wb_LogCleaner_latest_10 (d : Nat → ClassId) (Q : Int32 → xw → Prop) (X : String → xw → Prop) (h : xw) : Prop :=
  X "java/lang/IllegalArgumentException" h
abbrev wb_LogCleaner_latest_46 (d : Nat → ClassId) (Q : Int32 → xw → Prop) (X : String → xw → Prop) (s0 : Int32) (h : xw) : Prop :=
  Q s0 h
def wp_LogCleaner_latest (d : Nat → ClassId) (h : xw) (a0 : Nat) (a1 : Int64) (a3 : Int32) (Q : Int32 → xw → Prop) (X : String → xw → Prop) : Prop :=
  wIf (a3 < 0) (wb_LogCleaner_latest_10 d Q X  h) (wIf (a3 ≤ 8) (wp_LogCleaner_lowestBytes d h a1 a3 fun r2 h1 =>
  wIs h1 a0 0 (wp_LogCleaner_latestWithKey d h1 a0 r2 a3 fun r4 h3 =>
  wNul r4 (wb_LogCleaner_latest_46 d Q X (-1) h3) (fun p5 => wgI h3 p5 2 5 fun v6 =>
  wb_LogCleaner_latest_46 d Q X v6 h3))) (wb_LogCleaner_latest_10 d Q X  h))
def wp_LogCleanerModel_init (d : Nat → ClassId) (h : xw) (a0 : Nat) (Q : xw → Prop) : Prop :=
  wnewA h 4000 4000 (fun n => xai (d 2) n (fun _ => 0)) fun q2 h1 =>
  wpF h1 a0 4 2 (va_rf (some q2)) fun h3 =>
  wnewA h3 4000 4000 (fun n => xai (d 2) n (fun _ => 0)) fun q5 h4 =>
  wpF h4 a0 4 3 (va_rf (some q5)) fun h6 =>
  wnewA h6 4000 4000 (fun n => xal (d 3) n (fun _ => 0)) fun q8 h7 =>
  wpF h7 a0 4 4 (va_rf (some q8)) fun h9 =>
  wnewA h9 4000 4000 (fun n => xai (d 2) n (fun _ => 0)) fun q11 h10 =>
  wpF h10 a0 4 5 (va_rf (some q11)) fun h12 =>
  wnewA h12 4000 4000 (fun n => xai (d 4) n (fun _ => 0)) fun q14 h13 =>
  wpF h13 a0 4 6 (va_rf (some q14)) fun h15 =>
  wnewA h15 4000 4000 (fun n => xal (d 3) n (fun _ => 0)) fun q17 h16 =>
  wpF h16 a0 4 7 (va_rf (some q17)) fun h18 =>
  wnewA h18 4000 4000 (fun n => xai (d 2) n (fun _ => 0)) fun q20 h19 =>
  wpF h19 a0 4 8 (va_rf (some q20)) fun h21 =>
  wnewA h21 100 100 (fun n => xal (d 3) n (fun _ => 0)) fun q23 h22 =>
  wpF h22 a0 4 11 (va_rf (some q23)) fun h24 =>
  wnewA h24 100 100 (fun n => xai (d 2) n (fun _ => 0)) fun q26 h25 =>
  wpF h25 a0 4 12 (va_rf (some q26)) fun h27 =>
  wnewA h27 100 100 (fun n => xai (d 4) n (fun _ => 0)) fun q29 h28 =>
  wpF h28 a0 4 13 (va_rf (some q29)) fun h30 =>
  wnewA h30 100 100 (fun n => xal (d 3) n (fun _ => 0)) fun q32 h31 =>
  wpF h31 a0 4 14 (va_rf (some q32)) fun h33 =>
  wnewA h33 100 100 (fun n => xai (d 2) n (fun _ => 0)) fun q35 h34 =>
  wpF h34 a0 4 15 (va_rf (some q35)) fun h36 =>
  wnewA h36 400 400 (fun n => xai (d 2) n (fun _ => 0)) fun q38 h37 =>
  wpF h37 a0 4 17 (va_rf (some q38)) fun h39 =>
  wnewA h39 400 400 (fun n => xai (d 2) n (fun _ => 0)) fun q41 h40 =>
  wpF h40 a0 4 18 (va_rf (some q41)) fun h42 =>
  wnewA h42 400 400 (fun n => xai (d 2) n (fun _ => 0)) fun q44 h43 =>
  wpF h43 a0 4 19 (va_rf (some q44)) fun h45 =>
  wnewA h45 4000 4000 (fun n => xai (d 4) n (fun _ => 0)) fun q47 h46 =>
  wpF h46 a0 4 20 (va_rf (some q47)) fun h48 =>
  wnewA h48 400 400 (fun n => xai (d 4) n (fun _ => 0)) fun q50 h49 =>
  wpF h49 a0 4 21 (va_rf (some q50)) fun h51 =>
  wnewA h51 400 400 (fun n => xai (d 2) n (fun _ => 0)) fun q53 h52 =>
  wpF h52 a0 4 22 (va_rf (some q53)) fun h54 =>
  Q h54
def wc_LogCleanerModel_lowest_7 (d : Nat → ClassId) (Q : Int64 → xw → Prop) (k7 : Int64 → Int64 → Int32 → xw → Prop) (x0 : Int64) (x3 : Int64) (x5 : Int32) (h : xw) : Prop :=
  wIf (x5 < 0) (Q x3 h) (k7 x0 ((x3 <<< ((8 : Int32).toInt64 &&& 63)) ||| ((x0 >>> ((8 * x5).toInt64 &&& 63)) &&& 255)) (x5 + (-1)) h)
def wp_LogCleanerModel_lowest (d : Nat → ClassId) (h : xw) (a0 : Int64) (a2 : Int32) (Q : Int64 → xw → Prop) : Prop :=
  wLoop (fun (k : Int64 × Int64 × Int32 → xw → Prop) (x : Int64 × Int64 × Int32) (h : xw) => wc_LogCleanerModel_lowest_7 d Q (fun y0 y3 y5 h => k (y0, y3, y5) h) x.1 x.2.1 x.2.2 h) (a0, 0, (a2 - 1)) h
abbrev wb_LogCleanerModel_record_118 (d : Nat → ClassId) (Q : Int32 → xw → Prop) (x0 : Nat) (x7 : Int32) (s0 : Int64) (s1 : Int32) (s2 : Option Nat) (h : xw) : Prop :=
  wnn s2 fun p19 => wstl h p19 (d 3) s1 s0 fun h20 =>
  wgA h20 x0 4 15 fun r21 =>
  wgI h20 x0 4 10 fun v22 =>
  wnn r21 fun p23 => wsti h20 p23 (d 2) v22 x7 fun h24 =>
  wgI h24 x0 4 10 fun v25 =>
  wpF h24 x0 4 10 (.int (v25 + 1)) fun h26 =>
  wgI h26 x0 4 10 fun v27 =>
  Q v27 h26
abbrev wb_LogCleanerModel_record_52 (d : Nat → ClassId) (Q : Int32 → xw → Prop) (x0 : Nat) (x1 : Int64) (x3 : Int32) (x4 : Int32) (x5 : Int64) (x7 : Int32) (s0 : Int32) (s1 : Nat) (h : xw) : Prop :=
  wpF h s1 4 0 (.int s0) fun h1 =>
  wgI h1 x0 4 0 fun v2 =>
  wIf (v2 ≤ 0) (wgA h1 x0 4 11 fun r3 =>
  wgI h1 x0 4 10 fun v4 =>
  wp_LogCleanerModel_lowest d h1 x1 x3 fun r6 h5 =>
  wnn r3 fun p7 => wstl h5 p7 (d 3) v4 r6 fun h8 =>
  wgA h8 x0 4 12 fun r9 =>
  wgI h8 x0 4 10 fun v10 =>
  wnn r9 fun p11 => wsti h8 p11 (d 2) v10 x3 fun h12 =>
  wgA h12 x0 4 13 fun r13 =>
  wgI h12 x0 4 10 fun v14 =>
  wnn r13 fun p15 => wstz h12 p15 (d 4) v14 x4 fun h16 =>
  wgA h16 x0 4 14 fun r17 =>
  wgI h16 x0 4 10 fun v18 =>
  wIf (x4 = 0) (wb_LogCleanerModel_record_118 d Q x0 x7 0 v18 r17 h16) (wb_LogCleanerModel_record_118 d Q x0 x7 x5 v18 r17 h16)) (Q 0 h1)
abbrev wb_LogCleanerModel_record_17 (d : Nat → ClassId) (Q : Int32 → xw → Prop) (x0 : Nat) (x1 : Int64) (x3 : Int32) (x4 : Int32) (x5 : Int64) (x7 : Int32) (s0 : Nat) (h : xw) : Prop :=
  wb_LogCleanerModel_record_52 d Q x0 x1 x3 x4 x5 x7 1 s0 h
abbrev wb_LogCleanerModel_record_47 (d : Nat → ClassId) (Q : Int32 → xw → Prop) (x0 : Nat) (x1 : Int64) (x3 : Int32) (x4 : Int32) (x5 : Int64) (x7 : Int32) (s0 : Nat) (h : xw) : Prop :=
  wb_LogCleanerModel_record_52 d Q x0 x1 x3 x4 x5 x7 2 s0 h
def wp_LogCleanerModel_record (d : Nat → ClassId) (h : xw) (a0 : Nat) (a1 : Int64) (a3 : Int32) (a4 : Int32) (a5 : Int64) (a7 : Int32) (Q : Int32 → xw → Prop) : Prop :=
  wIf (a3 < (-1)) (wb_LogCleanerModel_record_17 d Q a0 a1 a3 a4 a5 a7 a0 h) (wIf (8 < a3) (wb_LogCleanerModel_record_17 d Q a0 a1 a3 a4 a5 a7 a0 h) (wIf (0 ≤ a7) (wgI h a0 4 10 fun v28 =>
  wIf (v28 = 100) (wb_LogCleanerModel_record_47 d Q a0 a1 a3 a4 a5 a7 a0 h) (wgI h a0 4 1 fun v29 =>
  wgI h a0 4 10 fun v30 =>
  wIf (((v29 + v30) + 1) ≤ 4000) (wb_LogCleanerModel_record_52 d Q a0 a1 a3 a4 a5 a7 0 a0 h) (wb_LogCleanerModel_record_47 d Q a0 a1 a3 a4 a5 a7 a0 h))) (wb_LogCleanerModel_record_17 d Q a0 a1 a3 a4 a5 a7 a0 h)))
def wp_LogCleanerModel_thrown (d : Nat → ClassId) (h : xw) (a0 : Nat) (Q : Int32 → xw → Prop) : Prop :=
  wgI h a0 4 0 fun v1 =>
  Q v1 h
abbrev wb_LogCleanerModel_sizeOf_64 (d : Nat → ClassId) (k5 : Nat → Int32 → Int32 → Int32 → xw → Prop) (Q : Int32 → xw → Prop) (x0 : Nat) (x1 : Int32) (x2 : Int32) (x3 : Int32) (h : xw) : Prop :=
  k5 x0 x1 x2 (x3 + 1) h
abbrev wb_LogCleanerModel_sizeOf_61 (d : Nat → ClassId) (k5 : Nat → Int32 → Int32 → Int32 → xw → Prop) (Q : Int32 → xw → Prop) (x0 : Nat) (x1 : Int32) (x3 : Int32) (s0 : Int32) (s1 : Int32) (s2 : Int32) (h : xw) : Prop :=
  wb_LogCleanerModel_sizeOf_64 d k5 Q x0 x1 (s2 + (s1 + s0)) x3 h
abbrev wb_LogCleanerModel_sizeOf_45 (d : Nat → ClassId) (k5 : Nat → Int32 → Int32 → Int32 → xw → Prop) (Q : Int32 → xw → Prop) (x0 : Nat) (x1 : Int32) (x3 : Int32) (s0 : Int32) (s1 : Int32) (s2 : Int32) (h : xw) : Prop :=
  wgA h x0 4 6 fun r8 =>
  wnn r8 fun p9 => wldi h p9 (d 4) x3 fun v10 =>
  wIf (v10 = 0) (wb_LogCleanerModel_sizeOf_61 d k5 Q x0 x1 x3 0 (s1 + s0) s2 h) (wb_LogCleanerModel_sizeOf_61 d k5 Q x0 x1 x3 8 (s1 + s0) s2 h)
def wc_LogCleanerModel_sizeOf_5 (d : Nat → ClassId) (Q : Int32 → xw → Prop) (k5 : Nat → Int32 → Int32 → Int32 → xw → Prop) (x0 : Nat) (x1 : Int32) (x2 : Int32) (x3 : Int32) (h : xw) : Prop :=
  wgI h x0 4 1 fun v1 =>
  wIf (v1 ≤ x3) (Q x2 h) (wgA h x0 4 2 fun r2 =>
  wnn r2 fun p3 => wldi h p3 (d 2) x3 fun v4 =>
  wIf (v4 = x1) (wgA h x0 4 5 fun r5 =>
  wnn r5 fun p6 => wldi h p6 (d 2) x3 fun v7 =>
  wIf (v7 ≤ 0) (wb_LogCleanerModel_sizeOf_45 d k5 Q x0 x1 x3 0 8 x2 h) (wgA h x0 4 5 fun r11 =>
  wnn r11 fun p12 => wldi h p12 (d 2) x3 fun v13 =>
  wb_LogCleanerModel_sizeOf_45 d k5 Q x0 x1 x3 v13 8 x2 h)) (wb_LogCleanerModel_sizeOf_64 d k5 Q x0 x1 x2 x3 h))
def wp_LogCleanerModel_sizeOf (d : Nat → ClassId) (h : xw) (a0 : Nat) (a1 : Int32) (Q : Int32 → xw → Prop) : Prop :=
  wLoop (fun (k : Nat × Int32 × Int32 × Int32 → xw → Prop) (x : Nat × Int32 × Int32 × Int32) (h : xw) => wc_LogCleanerModel_sizeOf_5 d Q (fun y0 y1 y2 y3 h => k (y0, y1, y2, y3) h) x.1 x.2.1 x.2.2.1 x.2.2.2 h) (a0, a1, 61, 0) h
abbrev wb_LogCleanerModel_close_318 (d : Nat → ClassId) (Q : Int32 → xw → Prop) (x0 : Nat) (s0 : Int32) (s1 : Int32) (s2 : Option Nat) (h : xw) : Prop :=
  wnn s2 fun p22 => wsti h p22 (d 2) s1 s0 fun h23 =>
  wgI h23 x0 4 16 fun v24 =>
  wpF h23 x0 4 16 (.int (v24 + 1)) fun h25 =>
  wpF h25 x0 4 10 (.int 0) fun h26 =>
  wgA h26 x0 4 17 fun r27 =>
  wgI h26 x0 4 16 fun v28 =>
  wnn r27 fun p29 => wldi h26 p29 (d 2) (v28 - 1) fun v30 =>
  Q v30 h26
abbrev wb_LogCleanerModel_close_268 (d : Nat → ClassId) (k237 : Nat → Int32 → Int32 → Int32 → xw → Prop) (Q : Int32 → xw → Prop) (x0 : Nat) (x3 : Int32) (x4 : Int32) (s0 : Int32) (s1 : Int32) (h : xw) : Prop :=
  k237 x0 (s1 + s0) x3 (x4 + 1) h
def wc_LogCleanerModel_close_237 (d : Nat → ClassId) (Q : Int32 → xw → Prop) (k237 : Nat → Int32 → Int32 → Int32 → xw → Prop) (x0 : Nat) (x2 : Int32) (x3 : Int32) (x4 : Int32) (h : xw) : Prop :=
  wgI h x0 4 16 fun v15 =>
  wIf (v15 ≤ x4) (wgA h x0 4 19 fun r16 =>
  wgI h x0 4 16 fun v17 =>
  wgI h x0 4 16 fun v18 =>
  wIf (v18 = 0) (wb_LogCleanerModel_close_318 d Q x0 0 v17 r16 h) (wgI h x0 4 16 fun v19 =>
  wIs h x0 4 (wp_LogCleanerModel_sizeOf d h x0 v19 fun r21 h20 =>
  wIf ((x2 + r21) ≤ 1000) (wb_LogCleanerModel_close_318 d Q x0 x3 v17 r16 h20) (wb_LogCleanerModel_close_318 d Q x0 (x3 + 1) v17 r16 h20)))) (wgA h x0 4 19 fun r31 =>
  wnn r31 fun p32 => wldi h p32 (d 2) x4 fun v33 =>
  wIf (v33 = x3) (wIs h x0 4 (wp_LogCleanerModel_sizeOf d h x0 x4 fun r35 h34 =>
  wb_LogCleanerModel_close_268 d k237 Q x0 x3 x4 r35 x2 h34)) (wb_LogCleanerModel_close_268 d k237 Q x0 x3 x4 0 x2 h))
def wc_LogCleanerModel_close_211 (d : Nat → ClassId) (Q : Int32 → xw → Prop) (k211 : Nat → Int32 → Int32 → Int32 → xw → Prop) (x0 : Nat) (x2 : Int32) (x3 : Int32) (x4 : Int32) (h : xw) : Prop :=
  wgI h x0 4 16 fun v14 =>
  wIf (v14 ≤ x4) (wLoop (fun (k : Nat × Int32 × Int32 × Int32 → xw → Prop) (x : Nat × Int32 × Int32 × Int32) (h : xw) => wc_LogCleanerModel_close_237 d Q (fun y0 y2 y3 y4 h => k (y0, y2, y3, y4) h) x.1 x.2.1 x.2.2.1 x.2.2.2 h) (x0, x2, x3, 0) h) (wgA h x0 4 19 fun r36 =>
  wnn r36 fun p37 => wldi h p37 (d 2) x4 fun v38 =>
  k211 x0 x2 v38 (x4 + 1) h)
def wc_LogCleanerModel_close_69 (d : Nat → ClassId) (Q : Int32 → xw → Prop) (k69 : Nat → Int32 → xw → Prop) (x0 : Nat) (x2 : Int32) (h : xw) : Prop :=
  wgI h x0 4 10 fun v13 =>
  wIf (v13 ≤ x2) (wLoop (fun (k : Nat × Int32 × Int32 × Int32 → xw → Prop) (x : Nat × Int32 × Int32 × Int32) (h : xw) => wc_LogCleanerModel_close_211 d Q (fun y0 y2 y3 y4 h => k (y0, y2, y3, y4) h) x.1 x.2.1 x.2.2.1 x.2.2.2 h) (x0, 0, 0, 0) h) (wgA h x0 4 2 fun r39 =>
  wgI h x0 4 1 fun v40 =>
  wgI h x0 4 16 fun v41 =>
  wnn r39 fun p42 => wsti h p42 (d 2) v40 v41 fun h43 =>
  wgA h43 x0 4 3 fun r44 =>
  wgI h43 x0 4 1 fun v45 =>
  wgI h43 x0 4 9 fun v46 =>
  wnn r44 fun p47 => wsti h43 p47 (d 2) v45 v46 fun h48 =>
  wgA h48 x0 4 4 fun r49 =>
  wgI h48 x0 4 1 fun v50 =>
  wgA h48 x0 4 11 fun r51 =>
  wnn r51 fun p52 => wldl h48 p52 (d 3) x2 fun v53 =>
  wnn r49 fun p54 => wstl h48 p54 (d 3) v50 v53 fun h55 =>
  wgA h55 x0 4 5 fun r56 =>
  wgI h55 x0 4 1 fun v57 =>
  wgA h55 x0 4 12 fun r58 =>
  wnn r58 fun p59 => wldi h55 p59 (d 2) x2 fun v60 =>
  wnn r56 fun p61 => wsti h55 p61 (d 2) v57 v60 fun h62 =>
  wgA h62 x0 4 6 fun r63 =>
  wgI h62 x0 4 1 fun v64 =>
  wgA h62 x0 4 13 fun r65 =>
  wnn r65 fun p66 => wldi h62 p66 (d 4) x2 fun v67 =>
  wnn r63 fun p68 => wstz h62 p68 (d 4) v64 v67 fun h69 =>
  wgA h69 x0 4 7 fun r70 =>
  wgI h69 x0 4 1 fun v71 =>
  wgA h69 x0 4 14 fun r72 =>
  wnn r72 fun p73 => wldl h69 p73 (d 3) x2 fun v74 =>
  wnn r70 fun p75 => wstl h69 p75 (d 3) v71 v74 fun h76 =>
  wgA h76 x0 4 8 fun r77 =>
  wgI h76 x0 4 1 fun v78 =>
  wgA h76 x0 4 15 fun r79 =>
  wnn r79 fun p80 => wldi h76 p80 (d 2) x2 fun v81 =>
  wnn r77 fun p82 => wsti h76 p82 (d 2) v78 v81 fun h83 =>
  wgI h83 x0 4 1 fun v84 =>
  wpF h83 x0 4 1 (.int (v84 + 1)) fun h85 =>
  wgI h85 x0 4 9 fun v86 =>
  wpF h85 x0 4 9 (.int (v86 + 1)) fun h87 =>
  k69 x0 (x2 + 1) h87)
abbrev wb_LogCleanerModel_close_32 (d : Nat → ClassId) (Q : Int32 → xw → Prop) (x0 : Nat) (x1 : Int32) (s0 : Int32) (s1 : Nat) (h : xw) : Prop :=
  wpF h s1 4 0 (.int s0) fun h2 =>
  wgI h2 x0 4 0 fun v3 =>
  wIf (v3 ≤ 0) (wgA h2 x0 4 17 fun r4 =>
  wgI h2 x0 4 16 fun v5 =>
  wgI h2 x0 4 9 fun v6 =>
  wnn r4 fun p7 => wsti h2 p7 (d 2) v5 v6 fun h8 =>
  wgA h8 x0 4 18 fun r9 =>
  wgI h8 x0 4 16 fun v10 =>
  wnn r9 fun p11 => wsti h8 p11 (d 2) v10 x1 fun h12 =>
  wLoop (fun (k : Nat × Int32 → xw → Prop) (x : Nat × Int32) (h : xw) => wc_LogCleanerModel_close_69 d Q (fun y0 y2 h => k (y0, y2) h) x.1 x.2 h) (x0, 0) h12) (Q 0 h2)
abbrev wb_LogCleanerModel_close_27 (d : Nat → ClassId) (Q : Int32 → xw → Prop) (x0 : Nat) (x1 : Int32) (s0 : Nat) (h : xw) : Prop :=
  wb_LogCleanerModel_close_32 d Q x0 x1 2 s0 h
def wp_LogCleanerModel_close (d : Nat → ClassId) (h : xw) (a0 : Nat) (a1 : Int32) (Q : Int32 → xw → Prop) : Prop :=
  wIf ((-1) ≤ a1) (wgI h a0 4 10 fun v1 =>
  wIf (v1 = 0) (wb_LogCleanerModel_close_27 d Q a0 a1 a0 h) (wgI h a0 4 16 fun v88 =>
  wIf (v88 = 400) (wb_LogCleanerModel_close_27 d Q a0 a1 a0 h) (wb_LogCleanerModel_close_32 d Q a0 a1 0 a0 h))) (wb_LogCleanerModel_close_32 d Q a0 a1 1 a0 h)
abbrev wb_LogCleanerModel_isClosed_25 (d : Nat → ClassId) (Q : Int32 → xw → Prop) (s0 : Int32) (h : xw) : Prop :=
  wZ s0 (Q s0 h)
def wp_LogCleanerModel_isClosed (d : Nat → ClassId) (h : xw) (a0 : Nat) (a1 : Int32) (Q : Int32 → xw → Prop) : Prop :=
  wgA h a0 4 19 fun r1 =>
  wnn r1 fun p2 => wldi h p2 (d 2) a1 fun v3 =>
  wgA h a0 4 19 fun r4 =>
  wgI h a0 4 16 fun v5 =>
  wnn r4 fun p6 => wldi h p6 (d 2) (v5 - 1) fun v7 =>
  wIf (v3 = v7) (wb_LogCleanerModel_isClosed_25 d Q 0 h) (wb_LogCleanerModel_isClosed_25 d Q 1 h)
abbrev wb_LogCleanerModel_isOver_22 (d : Nat → ClassId) (Q : Int32 → xw → Prop) (h : xw) : Prop :=
  wZ 0 (Q 0 h)
abbrev wb_LogCleanerModel_isOver_121 (d : Nat → ClassId) (Q : Int32 → xw → Prop) (s0 : Int32) (h : xw) : Prop :=
  wZ s0 (Q s0 h)
abbrev wb_LogCleanerModel_isOver_116 (d : Nat → ClassId) (Q : Int32 → xw → Prop) (h : xw) : Prop :=
  wb_LogCleanerModel_isOver_121 d Q 1 h
abbrev wb_LogCleanerModel_isOver_120 (d : Nat → ClassId) (Q : Int32 → xw → Prop) (h : xw) : Prop :=
  wb_LogCleanerModel_isOver_121 d Q 0 h
abbrev wb_LogCleanerModel_isOver_89 (d : Nat → ClassId) (Q : Int32 → xw → Prop) (x0 : Nat) (x1 : Int32) (x2 : Int32) (x3 : Int32) (h : xw) : Prop :=
  wIf (x3 = 0) (wgA h x0 4 6 fun r10 =>
  wnn r10 fun p11 => wldi h p11 (d 4) x1 fun v12 =>
  wIf (v12 = 0) (wgA h x0 4 8 fun r13 =>
  wnn r13 fun p14 => wldi h p14 (d 2) x1 fun v15 =>
  wIf ((x2 - 1000) < v15) (wb_LogCleanerModel_isOver_120 d Q  h) (wb_LogCleanerModel_isOver_116 d Q  h)) (wb_LogCleanerModel_isOver_120 d Q  h)) (wb_LogCleanerModel_isOver_116 d Q  h)
abbrev wb_LogCleanerModel_isOver_82 (d : Nat → ClassId) (k31 : Nat → Int32 → Int32 → Int32 → Int32 → xw → Prop) (Q : Int32 → xw → Prop) (x0 : Nat) (x1 : Int32) (x2 : Int32) (x4 : Int32) (s0 : Int32) (h : xw) : Prop :=
  k31 x0 x1 x2 s0 (x4 + 1) h
abbrev wb_LogCleanerModel_isOver_81 (d : Nat → ClassId) (k31 : Nat → Int32 → Int32 → Int32 → Int32 → xw → Prop) (Q : Int32 → xw → Prop) (x0 : Nat) (x1 : Int32) (x2 : Int32) (x4 : Int32) (h : xw) : Prop :=
  wb_LogCleanerModel_isOver_82 d k31 Q x0 x1 x2 x4 0 h
def wc_LogCleanerModel_isOver_31 (d : Nat → ClassId) (Q : Int32 → xw → Prop) (k31 : Nat → Int32 → Int32 → Int32 → Int32 → xw → Prop) (x0 : Nat) (x1 : Int32) (x2 : Int32) (x3 : Int32) (x4 : Int32) (h : xw) : Prop :=
  wgI h x0 4 1 fun v9 =>
  wIf (v9 ≤ x4) (wb_LogCleanerModel_isOver_89 d Q x0 x1 x2 x3 h) (wIf (x3 = 0) (wgA h x0 4 5 fun r16 =>
  wnn r16 fun p17 => wldi h p17 (d 2) x4 fun v18 =>
  wgA h x0 4 5 fun r19 =>
  wnn r19 fun p20 => wldi h p20 (d 2) x1 fun v21 =>
  wIf (v18 = v21) (wgA h x0 4 4 fun r22 =>
  wnn r22 fun p23 => wldl h p23 (d 3) x4 fun v24 =>
  wgA h x0 4 4 fun r25 =>
  wnn r25 fun p26 => wldl h p26 (d 3) x1 fun v27 =>
  wIf ((lg_cmp v24 v27) = 0) (wb_LogCleanerModel_isOver_82 d k31 Q x0 x1 x2 x4 1 h) (wb_LogCleanerModel_isOver_81 d k31 Q x0 x1 x2 x4 h)) (wb_LogCleanerModel_isOver_81 d k31 Q x0 x1 x2 x4 h)) (wb_LogCleanerModel_isOver_89 d Q x0 x1 x2 x3 h))
def wp_LogCleanerModel_isOver (d : Nat → ClassId) (h : xw) (a0 : Nat) (a1 : Int32) (a2 : Int32) (Q : Int32 → xw → Prop) : Prop :=
  wgA h a0 4 5 fun r1 =>
  wnn r1 fun p2 => wldi h p2 (d 2) a1 fun v3 =>
  wIf (v3 < 0) (wb_LogCleanerModel_isOver_22 d Q  h) (wgA h a0 4 2 fun r4 =>
  wnn r4 fun p5 => wldi h p5 (d 2) a1 fun v6 =>
  wIs h a0 4 (wp_LogCleanerModel_isClosed d h a0 v6 fun r8 h7 =>
  wIf (r8 = 0) (wb_LogCleanerModel_isOver_22 d Q  h7) (wLoop (fun (k : Nat × Int32 × Int32 × Int32 × Int32 → xw → Prop) (x : Nat × Int32 × Int32 × Int32 × Int32) (h : xw) => wc_LogCleanerModel_isOver_31 d Q (fun y0 y1 y2 y3 y4 h => k (y0, y1, y2, y3, y4) h) x.1 x.2.1 x.2.2.1 x.2.2.2.1 x.2.2.2.2 h) (a0, a1, a2, 0, (a1 + 1)) h7)))
abbrev wb_LogCleanerModel_isKnown_62 (d : Nat → ClassId) (Q : Int32 → xw → Prop) (s0 : Int32) (h : xw) : Prop :=
  wZ s0 (Q s0 h)
abbrev wb_LogCleanerModel_isKnown_61 (d : Nat → ClassId) (Q : Int32 → xw → Prop) (h : xw) : Prop :=
  wb_LogCleanerModel_isKnown_62 d Q 0 h
abbrev wb_LogCleanerModel_isKnown_35 (d : Nat → ClassId) (k6 : Nat → Int32 → Int32 → Int32 → xw → Prop) (Q : Int32 → xw → Prop) (x0 : Nat) (x1 : Int32) (x3 : Int32) (s0 : Int32) (s1 : Int32) (h : xw) : Prop :=
  k6 x0 x1 (s1 + s0) (x3 + 1) h
def wc_LogCleanerModel_isKnown_6 (d : Nat → ClassId) (Q : Int32 → xw → Prop) (k6 : Nat → Int32 → Int32 → Int32 → xw → Prop) (x0 : Nat) (x1 : Int32) (x2 : Int32) (x3 : Int32) (h : xw) : Prop :=
  wgI h x0 4 16 fun v1 =>
  wIf (v1 ≤ x3) (wgA h x0 4 18 fun r2 =>
  wnn r2 fun p3 => wldi h p3 (d 2) x1 fun v4 =>
  wIf (v4 < 0) (wb_LogCleanerModel_isKnown_61 d Q  h) (wIf (2 ≤ x2) (wb_LogCleanerModel_isKnown_61 d Q  h) (wb_LogCleanerModel_isKnown_62 d Q 1 h))) (wgA h x0 4 18 fun r5 =>
  wnn r5 fun p6 => wldi h p6 (d 2) x3 fun v7 =>
  wgA h x0 4 18 fun r8 =>
  wnn r8 fun p9 => wldi h p9 (d 2) x1 fun v10 =>
  wIf (v7 = v10) (wb_LogCleanerModel_isKnown_35 d k6 Q x0 x1 x3 1 x2 h) (wb_LogCleanerModel_isKnown_35 d k6 Q x0 x1 x3 0 x2 h))
def wp_LogCleanerModel_isKnown (d : Nat → ClassId) (h : xw) (a0 : Nat) (a1 : Int32) (Q : Int32 → xw → Prop) : Prop :=
  wLoop (fun (k : Nat × Int32 × Int32 × Int32 → xw → Prop) (x : Nat × Int32 × Int32 × Int32) (h : xw) => wc_LogCleanerModel_isKnown_6 d Q (fun y0 y1 y2 y3 h => k (y0, y1, y2, y3) h) x.1 x.2.1 x.2.2.1 x.2.2.2 h) (a0, a1, 0, (a1 + 1)) h
abbrev wb_LogCleanerModel_takeOut_191 (d : Nat → ClassId) (k82 : Nat → Int32 → Int32 → xw → Prop) (Q : Int32 → xw → Prop) (x0 : Nat) (x2 : Int32) (x3 : Int32) (h : xw) : Prop :=
  k82 x0 x2 (x3 + 1) h
def wc_LogCleanerModel_takeOut_82 (d : Nat → ClassId) (Q : Int32 → xw → Prop) (k82 : Nat → Int32 → Int32 → xw → Prop) (x0 : Nat) (x2 : Int32) (x3 : Int32) (h : xw) : Prop :=
  wgI h x0 4 1 fun v3 =>
  wIf (v3 ≤ x3) (wgI h x0 4 1 fun v4 =>
  wpF h x0 4 1 (.int x2) fun h5 =>
  Q (v4 - x2) h5) (wgA h x0 4 20 fun r6 =>
  wnn r6 fun p7 => wldi h p7 (d 4) x3 fun v8 =>
  wIf (v8 = 0) (wgA h x0 4 2 fun r9 =>
  wgA h x0 4 22 fun r10 =>
  wgA h x0 4 2 fun r11 =>
  wnn r11 fun p12 => wldi h p12 (d 2) x3 fun v13 =>
  wnn r10 fun p14 => wldi h p14 (d 2) v13 fun v15 =>
  wnn r9 fun p16 => wsti h p16 (d 2) x2 v15 fun h17 =>
  wgA h17 x0 4 3 fun r18 =>
  wgA h17 x0 4 3 fun r19 =>
  wnn r19 fun p20 => wldi h17 p20 (d 2) x3 fun v21 =>
  wnn r18 fun p22 => wsti h17 p22 (d 2) x2 v21 fun h23 =>
  wgA h23 x0 4 4 fun r24 =>
  wgA h23 x0 4 4 fun r25 =>
  wnn r25 fun p26 => wldl h23 p26 (d 3) x3 fun v27 =>
  wnn r24 fun p28 => wstl h23 p28 (d 3) x2 v27 fun h29 =>
  wgA h29 x0 4 5 fun r30 =>
  wgA h29 x0 4 5 fun r31 =>
  wnn r31 fun p32 => wldi h29 p32 (d 2) x3 fun v33 =>
  wnn r30 fun p34 => wsti h29 p34 (d 2) x2 v33 fun h35 =>
  wgA h35 x0 4 6 fun r36 =>
  wgA h35 x0 4 6 fun r37 =>
  wnn r37 fun p38 => wldi h35 p38 (d 4) x3 fun v39 =>
  wnn r36 fun p40 => wstz h35 p40 (d 4) x2 v39 fun h41 =>
  wgA h41 x0 4 7 fun r42 =>
  wgA h41 x0 4 7 fun r43 =>
  wnn r43 fun p44 => wldl h41 p44 (d 3) x3 fun v45 =>
  wnn r42 fun p46 => wstl h41 p46 (d 3) x2 v45 fun h47 =>
  wgA h47 x0 4 8 fun r48 =>
  wgA h47 x0 4 8 fun r49 =>
  wnn r49 fun p50 => wldi h47 p50 (d 2) x3 fun v51 =>
  wnn r48 fun p52 => wsti h47 p52 (d 2) x2 v51 fun h53 =>
  wb_LogCleanerModel_takeOut_191 d k82 Q x0 (x2 + 1) x3 h53) (wb_LogCleanerModel_takeOut_191 d k82 Q x0 x2 x3 h))
abbrev wb_LogCleanerModel_takeOut_67 (d : Nat → ClassId) (k4 : Nat → Int32 → Int32 → xw → Prop) (Q : Int32 → xw → Prop) (x0 : Nat) (x1 : Int32) (x2 : Int32) (h : xw) : Prop :=
  k4 x0 x1 (x2 + 1) h
def wc_LogCleanerModel_takeOut_4 (d : Nat → ClassId) (Q : Int32 → xw → Prop) (k4 : Nat → Int32 → Int32 → xw → Prop) (x0 : Nat) (x1 : Int32) (x2 : Int32) (h : xw) : Prop :=
  wgI h x0 4 16 fun v1 =>
  wIf (v1 ≤ x2) (wpF h x0 4 16 (.int x1) fun h2 =>
  wLoop (fun (k : Nat × Int32 × Int32 → xw → Prop) (x : Nat × Int32 × Int32) (h : xw) => wc_LogCleanerModel_takeOut_82 d Q (fun y0 y2 y3 h => k (y0, y2, y3) h) x.1 x.2.1 x.2.2 h) (x0, 0, 0) h2) (wgA h x0 4 22 fun r54 =>
  wnn r54 fun p55 => wsti h p55 (d 2) x2 x1 fun h56 =>
  wgA h56 x0 4 21 fun r57 =>
  wnn r57 fun p58 => wldi h56 p58 (d 4) x2 fun v59 =>
  wIf (v59 = 0) (wb_LogCleanerModel_takeOut_67 d k4 Q x0 x1 x2 h56) (wgA h56 x0 4 17 fun r60 =>
  wgA h56 x0 4 17 fun r61 =>
  wnn r61 fun p62 => wldi h56 p62 (d 2) x2 fun v63 =>
  wnn r60 fun p64 => wsti h56 p64 (d 2) x1 v63 fun h65 =>
  wgA h65 x0 4 18 fun r66 =>
  wgA h65 x0 4 18 fun r67 =>
  wnn r67 fun p68 => wldi h65 p68 (d 2) x2 fun v69 =>
  wnn r66 fun p70 => wsti h65 p70 (d 2) x1 v69 fun h71 =>
  wgA h71 x0 4 19 fun r72 =>
  wgA h71 x0 4 19 fun r73 =>
  wnn r73 fun p74 => wldi h71 p74 (d 2) x2 fun v75 =>
  wnn r72 fun p76 => wsti h71 p76 (d 2) x1 v75 fun h77 =>
  wb_LogCleanerModel_takeOut_67 d k4 Q x0 (x1 + 1) x2 h77))
def wp_LogCleanerModel_takeOut (d : Nat → ClassId) (h : xw) (a0 : Nat) (Q : Int32 → xw → Prop) : Prop :=
  wLoop (fun (k : Nat × Int32 × Int32 → xw → Prop) (x : Nat × Int32 × Int32) (h : xw) => wc_LogCleanerModel_takeOut_4 d Q (fun y0 y1 y2 h => k (y0, y1, y2) h) x.1 x.2.1 x.2.2 h) (a0, 0, 0) h
abbrev wb_LogCleanerModel_clean_356 (d : Nat → ClassId) (k247 : Nat → Int32 → Int32 → Int32 → Int32 → Int32 → xw → Prop) (Q : Int32 → xw → Prop) (x0 : Nat) (x3 : Int32) (x4 : Int32) (x5 : Int32) (x6 : Int32) (x7 : Int32) (h : xw) : Prop :=
  k247 x0 x3 x4 x5 x6 (x7 + 1) h
abbrev wb_LogCleanerModel_clean_355 (d : Nat → ClassId) (k247 : Nat → Int32 → Int32 → Int32 → Int32 → Int32 → xw → Prop) (Q : Int32 → xw → Prop) (x0 : Nat) (x3 : Int32) (x4 : Int32) (x5 : Int32) (x6 : Int32) (x7 : Int32) (s0 : Int32) (s1 : Int32) (s2 : Option Nat) (h : xw) : Prop :=
  wnn s2 fun p11 => wsti h p11 (d 2) s1 s0 fun h12 =>
  wb_LogCleanerModel_clean_356 d k247 Q x0 x3 x4 x5 x6 x7 h12
abbrev wb_LogCleanerModel_clean_323 (d : Nat → ClassId) (k247 : Nat → Int32 → Int32 → Int32 → Int32 → Int32 → xw → Prop) (Q : Int32 → xw → Prop) (x0 : Nat) (x3 : Int32) (x4 : Int32) (x6 : Int32) (x7 : Int32) (s0 : Int32) (h : xw) : Prop :=
  wgA h x0 4 19 fun r13 =>
  wnn r13 fun p14 => wsti h p14 (d 2) x7 x6 fun h15 =>
  wb_LogCleanerModel_clean_356 d k247 Q x0 x3 x4 s0 x6 x7 h15
abbrev wb_LogCleanerModel_clean_305 (d : Nat → ClassId) (k247 : Nat → Int32 → Int32 → Int32 → Int32 → Int32 → xw → Prop) (Q : Int32 → xw → Prop) (x0 : Nat) (x3 : Int32) (x4 : Int32) (x5 : Int32) (x7 : Int32) (x8 : Int32) (x9 : Int32) (s0 : Int32) (s1 : Int32) (h : xw) : Prop :=
  wIf (x9 = 0) (wb_LogCleanerModel_clean_323 d k247 Q x0 x3 x4 (s1 + s0) x7 x8 h) (wb_LogCleanerModel_clean_323 d k247 Q x0 x3 x4 (s1 + s0) x7 (x5 + x8) h)
abbrev wb_LogCleanerModel_clean_291 (d : Nat → ClassId) (k247 : Nat → Int32 → Int32 → Int32 → Int32 → Int32 → xw → Prop) (Q : Int32 → xw → Prop) (x0 : Nat) (x3 : Int32) (x4 : Int32) (x5 : Int32) (x6 : Int32) (x7 : Int32) (x8 : Int32) (s0 : Int32) (h : xw) : Prop :=
  wIf (s0 = 0) (wb_LogCleanerModel_clean_305 d k247 Q x0 x3 x4 x5 x7 x8 s0 1 x6 h) (wb_LogCleanerModel_clean_305 d k247 Q x0 x3 x4 x5 x7 x8 s0 0 x6 h)
abbrev wb_LogCleanerModel_clean_286 (d : Nat → ClassId) (k247 : Nat → Int32 → Int32 → Int32 → Int32 → Int32 → xw → Prop) (Q : Int32 → xw → Prop) (x0 : Nat) (x3 : Int32) (x4 : Int32) (x5 : Int32) (x6 : Int32) (x7 : Int32) (x8 : Int32) (h : xw) : Prop :=
  wb_LogCleanerModel_clean_291 d k247 Q x0 x3 x4 x5 x6 x7 x8 1 h
def wc_LogCleanerModel_clean_247 (d : Nat → ClassId) (Q : Int32 → xw → Prop) (k247 : Nat → Int32 → Int32 → Int32 → Int32 → Int32 → xw → Prop) (x0 : Nat) (x3 : Int32) (x4 : Int32) (x5 : Int32) (x6 : Int32) (x7 : Int32) (h : xw) : Prop :=
  wgI h x0 4 16 fun v7 =>
  wIf (v7 ≤ x7) (Q x4 h) (wIs h x0 4 (wp_LogCleanerModel_sizeOf d h x0 x7 fun r9 h8 =>
  wIf (x3 ≤ x7) (wgA h8 x0 4 19 fun r10 =>
  wIf (x3 = 0) (wb_LogCleanerModel_clean_355 d k247 Q x0 x3 x4 x5 x6 x7 0 x7 r10 h8) (wb_LogCleanerModel_clean_355 d k247 Q x0 x3 x4 x5 x6 x7 (x6 + 1) x7 r10 h8)) (wIf (x7 = 0) (wb_LogCleanerModel_clean_286 d k247 Q x0 x3 x4 x5 x6 x7 r9 h8) (wIf (1000 < (x5 + r9)) (wb_LogCleanerModel_clean_291 d k247 Q x0 x3 x4 x5 x6 x7 r9 0 h8) (wb_LogCleanerModel_clean_286 d k247 Q x0 x3 x4 x5 x6 x7 r9 h8)))))
abbrev wb_LogCleanerModel_clean_218 (d : Nat → ClassId) (k76 : Nat → Int32 → Int32 → Int32 → xw → Prop) (Q : Int32 → xw → Prop) (x0 : Nat) (x2 : Int32) (x4 : Int32) (s0 : Int32) (s1 : Int32) (h : xw) : Prop :=
  k76 x0 x2 (s1 + s0) (x4 + 1) h
abbrev wb_LogCleanerModel_clean_217 (d : Nat → ClassId) (k76 : Nat → Int32 → Int32 → Int32 → xw → Prop) (Q : Int32 → xw → Prop) (x0 : Nat) (x2 : Int32) (x4 : Int32) (s0 : Int32) (h : xw) : Prop :=
  wb_LogCleanerModel_clean_218 d k76 Q x0 x2 x4 0 s0 h
abbrev wb_LogCleanerModel_clean_192 (d : Nat → ClassId) (k76 : Nat → Int32 → Int32 → Int32 → xw → Prop) (Q : Int32 → xw → Prop) (x0 : Nat) (x3 : Int32) (x4 : Int32) (s0 : Int32) (h : xw) : Prop :=
  wIs h x0 4 (wp_LogCleanerModel_isClosed d h x0 x4 fun r23 h22 =>
  wIf (r23 = 0) (wb_LogCleanerModel_clean_217 d k76 Q x0 s0 x4 x3 h22) (wgA h22 x0 4 21 fun r24 =>
  wnn r24 fun p25 => wldi h22 p25 (d 4) x4 fun v26 =>
  wIf (v26 = 0) (wb_LogCleanerModel_clean_217 d k76 Q x0 s0 x4 x3 h22) (wb_LogCleanerModel_clean_218 d k76 Q x0 s0 x4 1 x3 h22)))
abbrev wb_LogCleanerModel_clean_187 (d : Nat → ClassId) (k76 : Nat → Int32 → Int32 → Int32 → xw → Prop) (Q : Int32 → xw → Prop) (x0 : Nat) (x3 : Int32) (x4 : Int32) (h : xw) : Prop :=
  wb_LogCleanerModel_clean_192 d k76 Q x0 x3 x4 1 h
abbrev wb_LogCleanerModel_clean_172 (d : Nat → ClassId) (k76 : Nat → Int32 → Int32 → Int32 → xw → Prop) (Q : Int32 → xw → Prop) (x0 : Nat) (x2 : Int32) (x3 : Int32) (x4 : Int32) (s0 : Int32) (s1 : Int32) (s2 : Option Nat) (h : xw) : Prop :=
  wnn s2 fun p20 => wstz h p20 (d 4) s1 s0 fun h21 =>
  wIf (x2 = 0) (wgA h21 x0 4 21 fun r27 =>
  wnn r27 fun p28 => wldi h21 p28 (d 4) x4 fun v29 =>
  wIf (v29 = 0) (wb_LogCleanerModel_clean_187 d k76 Q x0 x3 x4 h21) (wb_LogCleanerModel_clean_192 d k76 Q x0 x3 x4 0 h21)) (wb_LogCleanerModel_clean_187 d k76 Q x0 x3 x4 h21)
abbrev wb_LogCleanerModel_clean_167 (d : Nat → ClassId) (k76 : Nat → Int32 → Int32 → Int32 → xw → Prop) (Q : Int32 → xw → Prop) (x0 : Nat) (x2 : Int32) (x3 : Int32) (x4 : Int32) (s0 : Int32) (s1 : Option Nat) (h : xw) : Prop :=
  wb_LogCleanerModel_clean_172 d k76 Q x0 x2 x3 x4 1 s0 s1 h
abbrev wb_LogCleanerModel_clean_129 (d : Nat → ClassId) (k76 : Nat → Int32 → Int32 → Int32 → xw → Prop) (k91 : Nat → Int32 → Int32 → Int32 → Int32 → Int32 → xw → Prop) (Q : Int32 → xw → Prop) (x0 : Nat) (x2 : Int32) (x3 : Int32) (x4 : Int32) (x6 : Int32) (s0 : Int32) (s1 : Int32) (h : xw) : Prop :=
  k91 x0 x2 x3 x4 (s1 + s0) (x6 + 1) h
abbrev wb_LogCleanerModel_clean_128 (d : Nat → ClassId) (k76 : Nat → Int32 → Int32 → Int32 → xw → Prop) (k91 : Nat → Int32 → Int32 → Int32 → Int32 → Int32 → xw → Prop) (Q : Int32 → xw → Prop) (x0 : Nat) (x2 : Int32) (x3 : Int32) (x4 : Int32) (x6 : Int32) (s0 : Int32) (h : xw) : Prop :=
  wb_LogCleanerModel_clean_129 d k76 k91 Q x0 x2 x3 x4 x6 0 s0 h
def wc_LogCleanerModel_clean_91 (d : Nat → ClassId) (k76 : Nat → Int32 → Int32 → Int32 → xw → Prop) (Q : Int32 → xw → Prop) (k91 : Nat → Int32 → Int32 → Int32 → Int32 → Int32 → xw → Prop) (x0 : Nat) (x2 : Int32) (x3 : Int32) (x4 : Int32) (x5 : Int32) (x6 : Int32) (h : xw) : Prop :=
  wgI h x0 4 1 fun v16 =>
  wIf (v16 ≤ x6) (wgA h x0 4 21 fun r17 =>
  wIs h x0 4 (wp_LogCleanerModel_isClosed d h x0 x4 fun r19 h18 =>
  wIf (r19 = 0) (wb_LogCleanerModel_clean_167 d k76 Q x0 x2 x3 x4 x4 r17 h18) (wIf (0 < x5) (wb_LogCleanerModel_clean_167 d k76 Q x0 x2 x3 x4 x4 r17 h18) (wIs h18 x0 4 (wp_LogCleanerModel_isKnown d h18 x0 x4 fun r31 h30 =>
  wIf (r31 = 0) (wb_LogCleanerModel_clean_172 d k76 Q x0 x2 x3 x4 0 x4 r17 h30) (wb_LogCleanerModel_clean_167 d k76 Q x0 x2 x3 x4 x4 r17 h30)))))) (wgA h x0 4 2 fun r32 =>
  wnn r32 fun p33 => wldi h p33 (d 2) x6 fun v34 =>
  wIf (v34 = x4) (wgA h x0 4 20 fun r35 =>
  wnn r35 fun p36 => wldi h p36 (d 4) x6 fun v37 =>
  wIf (v37 = 0) (wb_LogCleanerModel_clean_129 d k76 k91 Q x0 x2 x3 x4 x6 1 x5 h) (wb_LogCleanerModel_clean_128 d k76 k91 Q x0 x2 x3 x4 x6 x5 h)) (wb_LogCleanerModel_clean_128 d k76 k91 Q x0 x2 x3 x4 x6 x5 h))
def wc_LogCleanerModel_clean_76 (d : Nat → ClassId) (Q : Int32 → xw → Prop) (k76 : Nat → Int32 → Int32 → Int32 → xw → Prop) (x0 : Nat) (x2 : Int32) (x3 : Int32) (x4 : Int32) (h : xw) : Prop :=
  wgI h x0 4 16 fun v4 =>
  wIf (v4 ≤ x4) (wIf (x2 = 0) (Q 0 h) (wIs h x0 4 (wp_LogCleanerModel_takeOut d h x0 fun r6 h5 =>
  wLoop (fun (k : Nat × Int32 × Int32 × Int32 × Int32 × Int32 → xw → Prop) (x : Nat × Int32 × Int32 × Int32 × Int32 × Int32) (h : xw) => wc_LogCleanerModel_clean_247 d Q (fun y0 y3 y4 y5 y6 y7 h => k (y0, y3, y4, y5, y6, y7) h) x.1 x.2.1 x.2.2.1 x.2.2.2.1 x.2.2.2.2.1 x.2.2.2.2.2 h) (x0, x3, r6, 0, 0, 0) h5))) (wLoop (fun (k : Nat × Int32 × Int32 × Int32 × Int32 × Int32 → xw → Prop) (x : Nat × Int32 × Int32 × Int32 × Int32 × Int32) (h : xw) => wc_LogCleanerModel_clean_91 d k76 Q (fun y0 y2 y3 y4 y5 y6 h => k (y0, y2, y3, y4, y5, y6) h) x.1 x.2.1 x.2.2.1 x.2.2.2.1 x.2.2.2.2.1 x.2.2.2.2.2 h) (x0, x2, x3, x4, 0, 0) h)
abbrev wb_LogCleanerModel_clean_64 (d : Nat → ClassId) (k26 : Nat → Int32 → Int32 → Int32 → xw → Prop) (Q : Int32 → xw → Prop) (x0 : Nat) (x1 : Int32) (x3 : Int32) (s0 : Int32) (h : xw) : Prop :=
  k26 x0 x1 s0 (x3 + 1) h
abbrev wb_LogCleanerModel_clean_59 (d : Nat → ClassId) (k26 : Nat → Int32 → Int32 → Int32 → xw → Prop) (Q : Int32 → xw → Prop) (x0 : Nat) (x1 : Int32) (x3 : Int32) (h : xw) : Prop :=
  wb_LogCleanerModel_clean_64 d k26 Q x0 x1 x3 1 h
def wc_LogCleanerModel_clean_26 (d : Nat → ClassId) (Q : Int32 → xw → Prop) (k26 : Nat → Int32 → Int32 → Int32 → xw → Prop) (x0 : Nat) (x1 : Int32) (x2 : Int32) (x3 : Int32) (h : xw) : Prop :=
  wgI h x0 4 1 fun v3 =>
  wIf (v3 ≤ x3) (wLoop (fun (k : Nat × Int32 × Int32 × Int32 → xw → Prop) (x : Nat × Int32 × Int32 × Int32) (h : xw) => wc_LogCleanerModel_clean_76 d Q (fun y0 y2 y3 y4 h => k (y0, y2, y3, y4) h) x.1 x.2.1 x.2.2.1 x.2.2.2 h) (x0, x2, 0, 0) h) (wgA h x0 4 20 fun r38 =>
  wIs h x0 4 (wp_LogCleanerModel_isOver d h x0 x3 x1 fun r40 h39 =>
  wnn r38 fun p41 => wstz h39 p41 (d 4) x3 r40 fun h42 =>
  wIf (x2 = 0) (wgA h42 x0 4 20 fun r43 =>
  wnn r43 fun p44 => wldi h42 p44 (d 4) x3 fun v45 =>
  wIf (v45 = 0) (wb_LogCleanerModel_clean_64 d k26 Q x0 x1 x3 0 h42) (wb_LogCleanerModel_clean_59 d k26 Q x0 x1 x3 h42)) (wb_LogCleanerModel_clean_59 d k26 Q x0 x1 x3 h42)))
abbrev wb_LogCleanerModel_clean_10 (d : Nat → ClassId) (Q : Int32 → xw → Prop) (x0 : Nat) (x1 : Int32) (s0 : Int32) (s1 : Nat) (h : xw) : Prop :=
  wpF h s1 4 0 (.int s0) fun h1 =>
  wgI h1 x0 4 0 fun v2 =>
  wIf (v2 ≤ 0) (wLoop (fun (k : Nat × Int32 × Int32 × Int32 → xw → Prop) (x : Nat × Int32 × Int32 × Int32) (h : xw) => wc_LogCleanerModel_clean_26 d Q (fun y0 y1 y2 y3 h => k (y0, y1, y2, y3) h) x.1 x.2.1 x.2.2.1 x.2.2.2 h) (x0, x1, 0, 0) h1) (Q 0 h1)
def wp_LogCleanerModel_clean (d : Nat → ClassId) (h : xw) (a0 : Nat) (a1 : Int32) (Q : Int32 → xw → Prop) : Prop :=
  wIf (0 ≤ a1) (wb_LogCleanerModel_clean_10 d Q a0 a1 0 a0 h) (wb_LogCleanerModel_clean_10 d Q a0 a1 1 a0 h)
abbrev wb_LogCleanerModel_segments_24 (d : Nat → ClassId) (Q : Int32 → xw → Prop) (s0 : Int32) (h : xw) : Prop :=
  Q s0 h
def wp_LogCleanerModel_segments (d : Nat → ClassId) (h : xw) (a0 : Nat) (Q : Int32 → xw → Prop) : Prop :=
  wgI h a0 4 16 fun v1 =>
  wIf (v1 = 0) (wb_LogCleanerModel_segments_24 d Q 0 h) (wgA h a0 4 19 fun r2 =>
  wgI h a0 4 16 fun v3 =>
  wnn r2 fun p4 => wldi h p4 (d 2) (v3 - 1) fun v5 =>
  wb_LogCleanerModel_segments_24 d Q (v5 + 1) h)
def wc_LogCleanerModel_drop_153 (d : Nat → ClassId) (Q : Int32 → xw → Prop) (k153 : Nat → Int32 → Int32 → Int32 → xw → Prop) (x0 : Nat) (x3 : Int32) (x4 : Int32) (x5 : Int32) (h : xw) : Prop :=
  wgI h x0 4 16 fun v9 =>
  wIf (v9 ≤ x5) (Q x4 h) (wgA h x0 4 19 fun r10 =>
  wnn r10 fun p11 => wldi h p11 (d 2) x5 fun v12 =>
  wsti h p11 (d 2) x5 (v12 - x3) fun h13 =>
  k153 x0 x3 x4 (x5 + 1) h13)
abbrev wb_LogCleanerModel_drop_137 (d : Nat → ClassId) (k106 : Nat → Int32 → Int32 → xw → Prop) (Q : Int32 → xw → Prop) (x0 : Nat) (x3 : Int32) (x4 : Int32) (s0 : Int32) (s1 : Int32) (s2 : Option Nat) (h : xw) : Prop :=
  wnn s2 fun p18 => wstz h p18 (d 4) s1 s0 fun h19 =>
  k106 x0 x3 (x4 + 1) h19
def wc_LogCleanerModel_drop_106 (d : Nat → ClassId) (Q : Int32 → xw → Prop) (k106 : Nat → Int32 → Int32 → xw → Prop) (x0 : Nat) (x3 : Int32) (x4 : Int32) (h : xw) : Prop :=
  wgI h x0 4 16 fun v6 =>
  wIf (v6 ≤ x4) (wIs h x0 4 (wp_LogCleanerModel_takeOut d h x0 fun r8 h7 =>
  wLoop (fun (k : Nat × Int32 × Int32 × Int32 → xw → Prop) (x : Nat × Int32 × Int32 × Int32) (h : xw) => wc_LogCleanerModel_drop_153 d Q (fun y0 y3 y4 y5 h => k (y0, y3, y4, y5) h) x.1 x.2.1 x.2.2.1 x.2.2.2 h) (x0, x3, r8, 0) h7)) (wgA h x0 4 21 fun r14 =>
  wgA h x0 4 19 fun r15 =>
  wnn r15 fun p16 => wldi h p16 (d 2) x4 fun v17 =>
  wIf (v17 < x3) (wb_LogCleanerModel_drop_137 d k106 Q x0 x3 x4 0 x4 r14 h) (wb_LogCleanerModel_drop_137 d k106 Q x0 x3 x4 1 x4 r14 h))
abbrev wb_LogCleanerModel_drop_96 (d : Nat → ClassId) (k60 : Nat → Int32 → Int32 → xw → Prop) (Q : Int32 → xw → Prop) (x0 : Nat) (x3 : Int32) (x4 : Int32) (s0 : Int32) (s1 : Int32) (s2 : Option Nat) (h : xw) : Prop :=
  wnn s2 fun p27 => wstz h p27 (d 4) s1 s0 fun h28 =>
  k60 x0 x3 (x4 + 1) h28
def wc_LogCleanerModel_drop_60 (d : Nat → ClassId) (Q : Int32 → xw → Prop) (k60 : Nat → Int32 → Int32 → xw → Prop) (x0 : Nat) (x3 : Int32) (x4 : Int32) (h : xw) : Prop :=
  wgI h x0 4 1 fun v5 =>
  wIf (v5 ≤ x4) (wLoop (fun (k : Nat × Int32 × Int32 → xw → Prop) (x : Nat × Int32 × Int32) (h : xw) => wc_LogCleanerModel_drop_106 d Q (fun y0 y3 y4 h => k (y0, y3, y4) h) x.1 x.2.1 x.2.2 h) (x0, x3, 0) h) (wgA h x0 4 20 fun r20 =>
  wgA h x0 4 19 fun r21 =>
  wgA h x0 4 2 fun r22 =>
  wnn r22 fun p23 => wldi h p23 (d 2) x4 fun v24 =>
  wnn r21 fun p25 => wldi h p25 (d 2) v24 fun v26 =>
  wIf (x3 ≤ v26) (wb_LogCleanerModel_drop_96 d k60 Q x0 x3 x4 0 x4 r20 h) (wb_LogCleanerModel_drop_96 d k60 Q x0 x3 x4 1 x4 r20 h))
abbrev wb_LogCleanerModel_drop_56 (d : Nat → ClassId) (Q : Int32 → xw → Prop) (x0 : Nat) (s0 : Int32) (h : xw) : Prop :=
  wLoop (fun (k : Nat × Int32 × Int32 → xw → Prop) (x : Nat × Int32 × Int32) (h : xw) => wc_LogCleanerModel_drop_60 d Q (fun y0 y3 y4 h => k (y0, y3, y4) h) x.1 x.2.1 x.2.2 h) (x0, s0, 0) h
abbrev wb_LogCleanerModel_drop_17 (d : Nat → ClassId) (Q : Int32 → xw → Prop) (x0 : Nat) (x1 : Int32) (s0 : Int32) (s1 : Nat) (h : xw) : Prop :=
  wpF h s1 4 0 (.int s0) fun h1 =>
  wgI h1 x0 4 0 fun v2 =>
  wIf (v2 ≤ 0) (wIs h1 x0 4 (wp_LogCleanerModel_segments d h1 x0 fun r4 h3 =>
  wIf ((r4 - 1) ≤ x1) (wIf (r4 ≤ 0) (wb_LogCleanerModel_drop_56 d Q x0 0 h3) (wb_LogCleanerModel_drop_56 d Q x0 (r4 - 1) h3)) (wb_LogCleanerModel_drop_56 d Q x0 x1 h3))) (Q 0 h1)
abbrev wb_LogCleanerModel_drop_12 (d : Nat → ClassId) (Q : Int32 → xw → Prop) (x0 : Nat) (x1 : Int32) (s0 : Nat) (h : xw) : Prop :=
  wb_LogCleanerModel_drop_17 d Q x0 x1 1 s0 h
def wp_LogCleanerModel_drop (d : Nat → ClassId) (h : xw) (a0 : Nat) (a1 : Int32) (Q : Int32 → xw → Prop) : Prop :=
  wIf (a1 < 0) (wb_LogCleanerModel_drop_12 d Q a0 a1 a0 h) (wIf (a1 ≤ 400) (wb_LogCleanerModel_drop_17 d Q a0 a1 0 a0 h) (wb_LogCleanerModel_drop_12 d Q a0 a1 a0 h))
abbrev wb_LogCleanerModel_count_78 (d : Nat → ClassId) (Q : Int32 → xw → Prop) (s0 : Int32) (h : xw) : Prop :=
  Q s0 h
abbrev wb_LogCleanerModel_count_15 (d : Nat → ClassId) (Q : Int32 → xw → Prop) (x0 : Nat) (x1 : Int32) (s0 : Int32) (s1 : Nat) (h : xw) : Prop :=
  wpF h s1 4 0 (.int s0) fun h1 =>
  wgI h1 x0 4 0 fun v2 =>
  wIf (v2 ≤ 0) (wIf (x1 = 0) (wgI h1 x0 4 1 fun v8 =>
  wb_LogCleanerModel_count_78 d Q v8 h1) (wIf (x1 = 1) (wgI h1 x0 4 16 fun v7 =>
  wb_LogCleanerModel_count_78 d Q v7 h1) (wIf (x1 = 2) (wIs h1 x0 4 (wp_LogCleanerModel_segments d h1 x0 fun r6 h5 =>
  wb_LogCleanerModel_count_78 d Q r6 h5)) (wIf (x1 = 3) (wgI h1 x0 4 10 fun v4 =>
  wb_LogCleanerModel_count_78 d Q v4 h1) (wgI h1 x0 4 9 fun v3 =>
  wb_LogCleanerModel_count_78 d Q v3 h1))))) (Q 0 h1)
abbrev wb_LogCleanerModel_count_10 (d : Nat → ClassId) (Q : Int32 → xw → Prop) (x0 : Nat) (x1 : Int32) (s0 : Nat) (h : xw) : Prop :=
  wb_LogCleanerModel_count_15 d Q x0 x1 1 s0 h
def wp_LogCleanerModel_count (d : Nat → ClassId) (h : xw) (a0 : Nat) (a1 : Int32) (Q : Int32 → xw → Prop) : Prop :=
  wIf (a1 < 0) (wb_LogCleanerModel_count_10 d Q a0 a1 a0 h) (wIf (a1 ≤ 4) (wb_LogCleanerModel_count_15 d Q a0 a1 0 a0 h) (wb_LogCleanerModel_count_10 d Q a0 a1 a0 h))
abbrev wb_LogCleanerModel_countOf_28 (d : Nat → ClassId) (k4 : Nat → Int32 → Int32 → Int32 → xw → Prop) (Q : Int32 → xw → Prop) (x0 : Nat) (x1 : Int32) (x3 : Int32) (s0 : Int32) (s1 : Int32) (h : xw) : Prop :=
  k4 x0 x1 (s1 + s0) (x3 + 1) h
def wc_LogCleanerModel_countOf_4 (d : Nat → ClassId) (Q : Int32 → xw → Prop) (k4 : Nat → Int32 → Int32 → Int32 → xw → Prop) (x0 : Nat) (x1 : Int32) (x2 : Int32) (x3 : Int32) (h : xw) : Prop :=
  wgI h x0 4 1 fun v1 =>
  wIf (v1 ≤ x3) (Q x2 h) (wgA h x0 4 2 fun r2 =>
  wnn r2 fun p3 => wldi h p3 (d 2) x3 fun v4 =>
  wIf (v4 = x1) (wb_LogCleanerModel_countOf_28 d k4 Q x0 x1 x3 1 x2 h) (wb_LogCleanerModel_countOf_28 d k4 Q x0 x1 x3 0 x2 h))
def wp_LogCleanerModel_countOf (d : Nat → ClassId) (h : xw) (a0 : Nat) (a1 : Int32) (Q : Int32 → xw → Prop) : Prop :=
  wLoop (fun (k : Nat × Int32 × Int32 × Int32 → xw → Prop) (x : Nat × Int32 × Int32 × Int32) (h : xw) => wc_LogCleanerModel_countOf_4 d Q (fun y0 y1 y2 y3 h => k (y0, y1, y2, y3) h) x.1 x.2.1 x.2.2.1 x.2.2.2 h) (a0, a1, 0, 0) h
abbrev wb_LogCleanerModel_batch_122 (d : Nat → ClassId) (Q : Int32 → xw → Prop) (s0 : Int32) (h : xw) : Prop :=
  Q s0 h
abbrev wb_LogCleanerModel_batch_27 (d : Nat → ClassId) (Q : Int32 → xw → Prop) (x0 : Nat) (x1 : Int32) (x2 : Int32) (s0 : Int32) (s1 : Nat) (h : xw) : Prop :=
  wpF h s1 4 0 (.int s0) fun h1 =>
  wgI h1 x0 4 0 fun v2 =>
  wIf (v2 ≤ 0) ((x2 = 0 → wgA h1 x0 4 17 fun r3 =>
  wnn r3 fun p4 => wldi h1 p4 (d 2) x1 fun v5 =>
  Q v5 h1) ∧ (x2 = 1 → wIs h1 x0 4 (wp_LogCleanerModel_countOf d h1 x0 x1 fun r7 h6 =>
  Q r7 h6)) ∧ (x2 = 2 → wgA h1 x0 4 18 fun r8 =>
  wnn r8 fun p9 => wldi h1 p9 (d 2) x1 fun v10 =>
  Q v10 h1) ∧ (x2 = 3 → wIs h1 x0 4 (wp_LogCleanerModel_sizeOf d h1 x0 x1 fun r12 h11 =>
  Q r12 h11)) ∧ (x2 = 4 → wgA h1 x0 4 19 fun r13 =>
  wnn r13 fun p14 => wldi h1 p14 (d 2) x1 fun v15 =>
  Q v15 h1) ∧ (x2.toInt < 0 ∨ 4 < x2.toInt → wIs h1 x0 4 (wp_LogCleanerModel_isKnown d h1 x0 x1 fun r17 h16 =>
  wIf (r17 = 0) (wb_LogCleanerModel_batch_122 d Q 0 h16) (wb_LogCleanerModel_batch_122 d Q 1 h16)))) (Q 0 h1)
abbrev wb_LogCleanerModel_batch_22 (d : Nat → ClassId) (Q : Int32 → xw → Prop) (x0 : Nat) (x1 : Int32) (x2 : Int32) (s0 : Nat) (h : xw) : Prop :=
  wb_LogCleanerModel_batch_27 d Q x0 x1 x2 1 s0 h
def wp_LogCleanerModel_batch (d : Nat → ClassId) (h : xw) (a0 : Nat) (a1 : Int32) (a2 : Int32) (Q : Int32 → xw → Prop) : Prop :=
  wIf (a1 < 0) (wb_LogCleanerModel_batch_22 d Q a0 a1 a2 a0 h) (wgI h a0 4 16 fun v18 =>
  wIf (v18 ≤ a1) (wb_LogCleanerModel_batch_22 d Q a0 a1 a2 a0 h) (wIf (a2 < 0) (wb_LogCleanerModel_batch_22 d Q a0 a1 a2 a0 h) (wIf (a2 ≤ 5) (wb_LogCleanerModel_batch_27 d Q a0 a1 a2 0 a0 h) (wb_LogCleanerModel_batch_22 d Q a0 a1 a2 a0 h))))
abbrev wb_LogCleanerModel_told_120 (d : Nat → ClassId) (Q : Int64 → xw → Prop) (s0 : Int64) (h : xw) : Prop :=
  Q s0 h
abbrev wb_LogCleanerModel_told_27 (d : Nat → ClassId) (Q : Int64 → xw → Prop) (x0 : Nat) (x1 : Int32) (x2 : Int32) (s0 : Int32) (s1 : Nat) (h : xw) : Prop :=
  wpF h s1 4 0 (.int s0) fun h1 =>
  wgI h1 x0 4 0 fun v2 =>
  wIf (v2 ≤ 0) ((x2 = 0 → wgA h1 x0 4 3 fun r3 =>
  wnn r3 fun p4 => wldi h1 p4 (d 2) x1 fun v5 =>
  Q v5.toInt64 h1) ∧ (x2 = 1 → wgA h1 x0 4 5 fun r6 =>
  wnn r6 fun p7 => wldi h1 p7 (d 2) x1 fun v8 =>
  Q v8.toInt64 h1) ∧ (x2 = 2 → wgA h1 x0 4 4 fun r9 =>
  wnn r9 fun p10 => wldl h1 p10 (d 3) x1 fun v11 =>
  Q v11 h1) ∧ (x2 = 3 → wgA h1 x0 4 7 fun r12 =>
  wnn r12 fun p13 => wldl h1 p13 (d 3) x1 fun v14 =>
  Q v14 h1) ∧ (x2 = 4 → wgA h1 x0 4 6 fun r15 =>
  wnn r15 fun p16 => wldi h1 p16 (d 4) x1 fun v17 =>
  wIf (v17 = 0) (wb_LogCleanerModel_told_120 d Q 0 h1) (wb_LogCleanerModel_told_120 d Q 1 h1)) ∧ (x2.toInt < 0 ∨ 4 < x2.toInt → wgA h1 x0 4 8 fun r18 =>
  wnn r18 fun p19 => wldi h1 p19 (d 2) x1 fun v20 =>
  Q v20.toInt64 h1)) (Q 0 h1)
abbrev wb_LogCleanerModel_told_22 (d : Nat → ClassId) (Q : Int64 → xw → Prop) (x0 : Nat) (x1 : Int32) (x2 : Int32) (s0 : Nat) (h : xw) : Prop :=
  wb_LogCleanerModel_told_27 d Q x0 x1 x2 1 s0 h
def wp_LogCleanerModel_told (d : Nat → ClassId) (h : xw) (a0 : Nat) (a1 : Int32) (a2 : Int32) (Q : Int64 → xw → Prop) : Prop :=
  wIf (a1 < 0) (wb_LogCleanerModel_told_22 d Q a0 a1 a2 a0 h) (wgI h a0 4 1 fun v21 =>
  wIf (v21 ≤ a1) (wb_LogCleanerModel_told_22 d Q a0 a1 a2 a0 h) (wIf (a2 < 0) (wb_LogCleanerModel_told_22 d Q a0 a1 a2 a0 h) (wIf (a2 ≤ 5) (wb_LogCleanerModel_told_27 d Q a0 a1 a2 0 a0 h) (wb_LogCleanerModel_told_22 d Q a0 a1 a2 a0 h))))
abbrev wb_LogCleanerModel_latest_76 (d : Nat → ClassId) (k36 : Nat → Int64 → Int32 → Int32 → xw → Prop) (Q : Int32 → xw → Prop) (x0 : Nat) (x1 : Int64) (x3 : Int32) (x4 : Int32) (h : xw) : Prop :=
  k36 x0 x1 x3 (x4 + (-1)) h
def wc_LogCleanerModel_latest_36 (d : Nat → ClassId) (Q : Int32 → xw → Prop) (k36 : Nat → Int64 → Int32 → Int32 → xw → Prop) (x0 : Nat) (x1 : Int64) (x3 : Int32) (x4 : Int32) (h : xw) : Prop :=
  wIf (x4 < 0) (Q (-1) h) (wgA h x0 4 5 fun r4 =>
  wnn r4 fun p5 => wldi h p5 (d 2) x4 fun v6 =>
  wIf (v6 = x3) (wgA h x0 4 4 fun r7 =>
  wnn r7 fun p8 => wldl h p8 (d 3) x4 fun v9 =>
  wp_LogCleanerModel_lowest d h x1 x3 fun r11 h10 =>
  wIf ((lg_cmp v9 r11) = 0) (wgA h10 x0 4 3 fun r12 =>
  wnn r12 fun p13 => wldi h10 p13 (d 2) x4 fun v14 =>
  Q v14 h10) (wb_LogCleanerModel_latest_76 d k36 Q x0 x1 x3 x4 h10)) (wb_LogCleanerModel_latest_76 d k36 Q x0 x1 x3 x4 h))
abbrev wb_LogCleanerModel_latest_16 (d : Nat → ClassId) (Q : Int32 → xw → Prop) (x0 : Nat) (x1 : Int64) (x3 : Int32) (s0 : Int32) (s1 : Nat) (h : xw) : Prop :=
  wpF h s1 4 0 (.int s0) fun h1 =>
  wgI h1 x0 4 0 fun v2 =>
  wIf (v2 ≤ 0) (wgI h1 x0 4 1 fun v3 =>
  wLoop (fun (k : Nat × Int64 × Int32 × Int32 → xw → Prop) (x : Nat × Int64 × Int32 × Int32) (h : xw) => wc_LogCleanerModel_latest_36 d Q (fun y0 y1 y3 y4 h => k (y0, y1, y3, y4) h) x.1 x.2.1 x.2.2.1 x.2.2.2 h) (x0, x1, x3, (v3 - 1)) h1) (Q 0 h1)
abbrev wb_LogCleanerModel_latest_11 (d : Nat → ClassId) (Q : Int32 → xw → Prop) (x0 : Nat) (x1 : Int64) (x3 : Int32) (s0 : Nat) (h : xw) : Prop :=
  wb_LogCleanerModel_latest_16 d Q x0 x1 x3 1 s0 h
def wp_LogCleanerModel_latest (d : Nat → ClassId) (h : xw) (a0 : Nat) (a1 : Int64) (a3 : Int32) (Q : Int32 → xw → Prop) : Prop :=
  wIf (a3 < 0) (wb_LogCleanerModel_latest_11 d Q a0 a1 a3 a0 h) (wIf (a3 ≤ 8) (wb_LogCleanerModel_latest_16 d Q a0 a1 a3 0 a0 h) (wb_LogCleanerModel_latest_11 d Q a0 a1 a3 a0 h))
