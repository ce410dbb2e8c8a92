def sX7_mixed (F : Nat) (a1 : Int64) (a2 : Int32) (M : Mem) : Option Int64 :=
some (((31 : Int64) * a1) + (a2.toInt64))
theorem msX7_mixed : MS yX7_mixed cX7_mixed 3 (some .long) 2 := ⟨⟨m_861, m_67, by decide, by decide, by decide⟩, m_860⟩
set_option maxHeartbeats 4000000 in
set_option maxRecDepth 100000 in
theorem ctX7_mixed (x : Wx) (F : Nat) (a1 : Int64) (a2 : Int32) (M : Mem) : Ct x yX7_mixed cX7_mixed 3 (some .long) { frames := 0, cells := 0, slots := 0, locals := 0 } (φL M) [.long a1, .int a2] M (sX7_mixed F a1 a2 M) := by
  refine ct_of (by decide) (Nat.le_of_ble_eq_true rfl) (fun f hC hm => ?_)
  have hC : Cx x f "AnswersFirst" cX7_mixed 3 { frames := 0, cells := 0, slots := 0, locals := 0 } := hC
  show GG x f 3 (Qm x f (φL M)) 0 [(0, .long a1), (2, .int a2)] [] M _
  unfold sX7_mixed
  refine g_ldc2 hC (v := (31 : Int64)) m_862 dX7_mixed_0 ?_
  refine g_lload_n hC 0 dX7_mixed_3 rfl rfl ?_
  refine g_lmul hC dX7_mixed_4 ?_
  refine g_iload_n hC 1 dX7_mixed_5 rfl rfl ?_
  refine g_i2l hC dX7_mixed_6 ?_
  refine g_ladd hC dX7_mixed_7 ?_
  exact g_lret hC hm rfl dX7_mixed_8
def sX7_mixedWithMatters_L26 (F : Nat) (p4 : Int32) (M5 : Mem) (J8 : Int64 → Option (Int64 × Mem)) (rec13 : Int64 → Int32 → Option (Int64 × Mem)) (p11 : Int64) (p12 : Int32) : Option (Int64 × Mem) :=
if (6 : Int32) ≤ p12 then
(J8 p11)
else
((sX7_matter F p4 p12 M5).bind (fun r14 =>
(sX7_mixed F p11 r14 M5).bind (fun r15 =>
rec13 r15 (p12 + (1 : Int32)))))
def sX7_mixedWithMatters_L16 (F : Nat) (r2 : Int32) (rec6 : Int64 → Int32 → Mem → Option (Int64 × Mem)) (p3 : Int64) (p4 : Int32) (M5 : Mem) : Option (Int64 × Mem) :=
if r2 ≤ p4 then
(some (p3, M5))
else
(nm (fun (p7 : Int64) =>
(sX7_hangs F p4 M5).bind (fun r9 =>
(sX7_mixed F p7 r9.1 r9.2).bind (fun r10 =>
rec6 r10 (p4 + (1 : Int32)) r9.2))) (fun J8 =>
fx2 F (sX7_mixedWithMatters_L26 F p4 M5 J8) p3 (0 : Int32)))
def sX7_mixedWithMatters (F : Nat) (a1 : Int64) (M : Mem) : Option (Int64 × Mem) :=
ib (0 : Int32) 3 (
(sX1_howMany F (8 + 1 + ix (0 : Int32)) M).bind (fun r2 =>
fx3 F (sX7_mixedWithMatters_L16 F r2) a1 (0 : Int32) M))
theorem mvX7_mixedWithMatters : MV yX7_mixedWithMatters cX7_mixedWithMatters 8 (some .long) 1 := ⟨⟨m_867, m_67, by decide, by decide, by decide⟩, m_866, m_20⟩
set_option maxHeartbeats 4000000 in
set_option maxRecDepth 100000 in
theorem ctX7_mixedWithMatters (x : Wx) (F : Nat) (a1 : Int64) (M : Mem) : Ct x yX7_mixedWithMatters cX7_mixedWithMatters 8 (some .long) { frames := 5, cells := 0, slots := 0, locals := 114 } φLM [.ref (x.1 0), .long a1] M (sX7_mixedWithMatters F a1 M) := by
  refine ct_of (by decide) (Nat.le_of_ble_eq_true rfl) (fun f hC hm => ?_)
  have hC : Cx x f "AnswersFirst" cX7_mixedWithMatters 8 { frames := 5, cells := 0, slots := 0, locals := 114 } := hC
  show GG x f 8 (Qm x f φLM) 0 [(0, .ref (x.1 0)), (1, .long a1)] [] M _
  unfold sX7_mixedWithMatters
  refine g_lload_n hC 1 dX7_mixedWithMatters_0 rfl rfl ?_
  refine g_lstore_n hC (lv' := [(0, .ref (x.1 0)), (3, .long a1)]) [1, 0] dX7_mixedWithMatters_1 rfl (by decide) rfl ?_
  refine g_aload_n hC 0 dX7_mixedWithMatters_2 rfl rfl ?_
  refine g_getR hC cf7 (t := 8) rfl 1 (by decide) rfl m_245 dX7_mixedWithMatters_3 ?_
  refine g_iconst hC (v := (0 : Int32)) dX7_mixedWithMatters_6 (by decide) ?_
  refine g_aald hC 12 rfl (by decide) rfl dX7_mixedWithMatters_7 (fun hi1 => ?_)
  show GG x f 8 (Qm x f φLM) 8 [(0, .ref (x.1 0)), (3, .long a1)] [.ref (x.1 (8 + 1 + ix (0 : Int32)))] M _
  refine g_callv hC (st := []) (c := 1) rfl (by decide) (ka_E hi1) (ctX1_howMany x F (8 + 1 + ix (0 : Int32)) (ka_E hi1) M) mvX1_howMany m_456 (by decide) rfl rfl (Nat.le_of_ble_eq_true rfl) dX7_mixedWithMatters_8 (fun r2 => ?_)
  show GG x f 8 (Qm x f φLM) 11 [(0, .ref (x.1 0)), (3, .long a1)] [.int r2] M _
  refine g_istore hC (lv' := [(0, .ref (x.1 0)), (3, .long a1), (5, .int r2)]) [1, 2, 0] dX7_mixedWithMatters_11 (by decide) rfl ?_
  refine g_iconst hC (v := (0 : Int32)) dX7_mixedWithMatters_13 (by decide) ?_
  refine g_istore hC (lv' := [(0, .ref (x.1 0)), (3, .long a1), (5, .int r2), (6, .int (0 : Int32))]) [1, 2, 3, 0] dX7_mixedWithMatters_14 (by decide) rfl ?_
  refine g_fx3 (fun (p3 : Int64) (p4 : Int32) (M5 : Mem) => [(0, .ref (x.1 0)), (3, .long p3), (5, .int r2), (6, .int p4)]) (fun (p3 : Int64) (p4 : Int32) (M5 : Mem) => M5) (fun rec6 hrec6 p3 p4 M5 => ?_) F _ _ _
  show GG x f 8 (Qm x f φLM) 16 [(0, .ref (x.1 0)), (3, .long p3), (5, .int r2), (6, .int p4)] [] M5 _
  unfold sX7_mixedWithMatters_L16
  refine g_iload hC 3 dX7_mixedWithMatters_16 rfl ?_
  refine g_iload hC 2 dX7_mixedWithMatters_18 rfl ?_
  refine g_icmp_ge hC 69 dX7_mixedWithMatters_20 (by decide) ?_ ?_
  · refine g_lload_n hC 1 dX7_mixedWithMatters_69 rfl rfl ?_
    exact g_lret hC hm rfl dX7_mixedWithMatters_70
  · refine g_iconst hC (v := (0 : Int32)) dX7_mixedWithMatters_23 (by decide) ?_
    refine g_istore hC (lv' := [(0, .ref (x.1 0)), (3, .long p3), (5, .int r2), (6, .int p4), (7, .int (0 : Int32))]) [1, 2, 3, 4, 0] dX7_mixedWithMatters_24 (by decide) rfl ?_
    refine g_nm (fun (J8 : Int64 → Option (Int64 × Mem)) => ∀ (p7 : Int64), GG x f 8 (Qm x f φLM) 52 [(0, .ref (x.1 0)), (3, .long p7), (5, .int r2), (6, .int p4)] [] M5 (J8 p7)) (fun p7 => ?_) (fun J8 hJ8 => ?_)
    · show GG x f 8 (Qm x f φLM) 52 [(0, .ref (x.1 0)), (3, .long p7), (5, .int r2), (6, .int p4)] [] M5 _
      refine g_lload_n hC 1 dX7_mixedWithMatters_52 rfl rfl ?_
      refine g_aload_n hC 0 dX7_mixedWithMatters_53 rfl rfl ?_
      refine g_iload hC 3 dX7_mixedWithMatters_54 rfl ?_
      refine g_callv hC (st := [.long p7]) (c := 7) rfl (by decide) rfl (ctX7_hangs x F p4 M5) mvX7_hangs m_869 (by decide) rfl rfl (Nat.le_of_ble_eq_true rfl) dX7_mixedWithMatters_56 (fun r9 => ?_)
      show GG x f 8 (Qm x f φLM) 59 [(0, .ref (x.1 0)), (3, .long p7), (5, .int r2), (6, .int p4)] [.int (r9.1), .long p7] r9.2 _
      refine g_calls hC (st := []) (ctX7_mixed x F p7 r9.1 r9.2) msX7_mixed m_859 (by decide) rfl rfl (Nat.le_of_ble_eq_true rfl) dX7_mixedWithMatters_59 (fun r10 => ?_)
      show GG x f 8 (Qm x f φLM) 62 [(0, .ref (x.1 0)), (3, .long p7), (5, .int r2), (6, .int p4)] [.long r10] r9.2 _
      refine g_lstore_n hC (lv' := [(0, .ref (x.1 0)), (3, .long r10), (5, .int r2), (6, .int p4)]) [1, 0, 2, 3] dX7_mixedWithMatters_62 rfl (by decide) rfl ?_
      refine g_iinc hC (q := 3) (v := (1 : Int32)) (lv' := [(0, .ref (x.1 0)), (3, .long r10), (5, .int r2), (6, .int (p4 + (1 : Int32)))]) [1, 2, 3, 0] dX7_mixedWithMatters_63 rfl (by decide) (by decide) rfl ?_
      refine g_goto hC 16 dX7_mixedWithMatters_66 (by decide) ?_
      exact hrec6 r10 (p4 + (1 : Int32)) r9.2
    refine g_fx2 (fun (p11 : Int64) (p12 : Int32) => [(0, .ref (x.1 0)), (3, .long p11), (5, .int r2), (6, .int p4), (7, .int p12)]) (fun (p11 : Int64) (p12 : Int32) => M5) (fun rec13 hrec13 p11 p12 => ?_) F _ _
    show GG x f 8 (Qm x f φLM) 26 [(0, .ref (x.1 0)), (3, .long p11), (5, .int r2), (6, .int p4), (7, .int p12)] [] M5 _
    unfold sX7_mixedWithMatters_L26
    refine g_iload hC 4 dX7_mixedWithMatters_26 rfl ?_
    refine g_bipush hC (v := (6 : Int32)) dX7_mixedWithMatters_28 (by decide) ?_
    refine g_icmp_ge hC 52 dX7_mixedWithMatters_30 (by decide) ?_ ?_
    · refine g_lv (lv' := [(0, .ref (x.1 0)), (3, .long p11), (5, .int r2), (6, .int p4)]) [0, 1, 2, 3] rfl ?_
      exact hJ8 p11
    · refine g_lload_n hC 1 dX7_mixedWithMatters_33 rfl rfl ?_
      refine g_aload_n hC 0 dX7_mixedWithMatters_34 rfl rfl ?_
      refine g_iload hC 3 dX7_mixedWithMatters_35 rfl ?_
      refine g_iload hC 4 dX7_mixedWithMatters_37 rfl ?_
      refine g_callv hC (st := [.long p11]) (c := 7) rfl (by decide) rfl (ctX7_matter x F p4 p12 M5) mvX7_matter m_868 (by decide) rfl rfl (Nat.le_of_ble_eq_true rfl) dX7_mixedWithMatters_39 (fun r14 => ?_)
      show GG x f 8 (Qm x f φLM) 42 [(0, .ref (x.1 0)), (3, .long p11), (5, .int r2), (6, .int p4), (7, .int p12)] [.int r14, .long p11] M5 _
      refine g_calls hC (st := []) (ctX7_mixed x F p11 r14 M5) msX7_mixed m_859 (by decide) rfl rfl (Nat.le_of_ble_eq_true rfl) dX7_mixedWithMatters_42 (fun r15 => ?_)
      show GG x f 8 (Qm x f φLM) 45 [(0, .ref (x.1 0)), (3, .long p11), (5, .int r2), (6, .int p4), (7, .int p12)] [.long r15] M5 _
      refine g_lstore_n hC (lv' := [(0, .ref (x.1 0)), (3, .long r15), (5, .int r2), (6, .int p4), (7, .int p12)]) [1, 0, 2, 3, 4] dX7_mixedWithMatters_45 rfl (by decide) rfl ?_
      refine g_iinc hC (q := 4) (v := (1 : Int32)) (lv' := [(0, .ref (x.1 0)), (3, .long r15), (5, .int r2), (6, .int p4), (7, .int (p12 + (1 : Int32)))]) [1, 2, 3, 4, 0] dX7_mixedWithMatters_46 rfl (by decide) (by decide) rfl ?_
      refine g_goto hC 26 dX7_mixedWithMatters_49 (by decide) ?_
      exact hrec13 r15 (p12 + (1 : Int32))
def sX7_mixedWithRows (F : Nat) (a1 : Int64) (M : Mem) : Option (Int64 × Mem) :=
(sX7_rows F (-1 : Int32) M).bind (fun r1 =>
(sX7_mixed F a1 r1.1 r1.2).bind (fun r2 =>
(sX7_rows F (0 : Int32) r1.2).bind (fun r3 =>
(sX7_mixed F r2 r3.1 r3.2).bind (fun r4 =>
(sX7_rows F (1 : Int32) r3.2).bind (fun r5 =>
(sX7_mixed F r4 r5.1 r5.2).bind (fun r6 =>
(sX7_sure F (0 : Int32) r5.2).bind (fun r7 =>
(sX7_mixed F r6 r7.1 r7.2).bind (fun r8 =>
(sX7_sure F (1 : Int32) r7.2).bind (fun r9 =>
(sX7_mixed F r8 r9.1 r9.2).bind (fun r10 =>
(sX7_cannot F (0 : Int32) r9.2).bind (fun r11 =>
(sX7_mixed F r10 r11.1 r11.2).bind (fun r12 =>
(sX7_cannot F (1 : Int32) r11.2).bind (fun r13 =>
(sX7_mixed F r12 r13.1 r13.2).bind (fun r14 =>
(sX7_freed F (0 : Int32) r13.2).bind (fun r15 =>
(sX7_mixed F r14 r15.1 r15.2).bind (fun r16 =>
(sX7_freed F (1 : Int32) r15.2).bind (fun r17 =>
(sX7_mixed F r16 r17.1 r17.2).bind (fun r18 =>
(sX7_broken F (0 : Int32) r17.2).bind (fun r19 =>
(sX7_mixed F r18 r19.1 r19.2).bind (fun r20 =>
(sX7_broken F (5 : Int32) r19.2).bind (fun r21 =>
(sX7_mixed F r20 r21.1 r21.2).bind (fun r22 =>
(sX7_broken F (1023 : Int32) r21.2).bind (fun r23 =>
(sX7_mixed F r22 r23.1 r23.2).bind (fun r24 =>
(sX7_nearest F (5 : Int32) r23.2).bind (fun r25 =>
(sX7_mixed F r24 r25.1 r25.2).bind (fun r26 =>
(sX7_steps F (0 : Int32) (3 : Int32) r25.2).bind (fun r27 =>
(sX7_mixed F r26 r27.1 r27.2).bind (fun r28 =>
(sX7_returns F (0 : Int32) (0 : Int32) r27.2).bind (fun r29 =>
(sX7_mixed F r28 r29.1 r29.2).bind (fun r30 =>
(sX7_returns F (0 : Int32) (1 : Int32) r29.2).bind (fun r31 =>
(sX7_mixed F r30 r31.1 r31.2).bind (fun r32 =>
(sX7_rings F r31.2).bind (fun r33 =>
(sX7_mixed F r32 r33.1 r33.2).bind (fun r34 =>
some (r34, r33.2)))))))))))))))))))))))))))))))))))
theorem mvX7_mixedWithRows : MV yX7_mixedWithRows cX7_mixedWithRows 5 (some .long) 1 := ⟨⟨m_873, m_67, by decide, by decide, by decide⟩, m_872, m_21⟩
set_option maxHeartbeats 4000000 in
set_option maxRecDepth 100000 in
theorem ctX7_mixedWithRows (x : Wx) (F : Nat) (a1 : Int64) (M : Mem) : Ct x yX7_mixedWithRows cX7_mixedWithRows 5 (some .long) { frames := 5, cells := 0, slots := 0, locals := 115 } φLM [.ref (x.1 0), .long a1] M (sX7_mixedWithRows F a1 M) := by
  refine ct_of (by decide) (Nat.le_of_ble_eq_true rfl) (fun f hC hm => ?_)
  have hC : Cx x f "AnswersFirst" cX7_mixedWithRows 5 { frames := 5, cells := 0, slots := 0, locals := 115 } := hC
  show GG x f 5 (Qm x f φLM) 0 [(0, .ref (x.1 0)), (1, .long a1)] [] M _
  unfold sX7_mixedWithRows
  refine g_lload_n hC 1 dX7_mixedWithRows_0 rfl rfl ?_
  refine g_lstore_n hC (lv' := [(0, .ref (x.1 0)), (3, .long a1)]) [1, 0] dX7_mixedWithRows_1 rfl (by decide) rfl ?_
  refine g_lload_n hC 1 dX7_mixedWithRows_2 rfl rfl ?_
  refine g_aload_n hC 0 dX7_mixedWithRows_3 rfl rfl ?_
  refine g_iconst hC (v := (-1 : Int32)) dX7_mixedWithRows_4 (by decide) ?_
  refine g_callv hC (st := [.long a1]) (c := 7) rfl (by decide) rfl (ctX7_rows x F (-1 : Int32) M) mvX7_rows m_874 (by decide) rfl rfl (Nat.le_of_ble_eq_true rfl) dX7_mixedWithRows_5 (fun r1 => ?_)
  show GG x f 5 (Qm x f φLM) 8 [(0, .ref (x.1 0)), (3, .long a1)] [.int (r1.1), .long a1] r1.2 _
  refine g_calls hC (st := []) (ctX7_mixed x F a1 r1.1 r1.2) msX7_mixed m_859 (by decide) rfl rfl (Nat.le_of_ble_eq_true rfl) dX7_mixedWithRows_8 (fun r2 => ?_)
  show GG x f 5 (Qm x f φLM) 11 [(0, .ref (x.1 0)), (3, .long a1)] [.long r2] r1.2 _
  refine g_lstore_n hC (lv' := [(0, .ref (x.1 0)), (3, .long r2)]) [1, 0] dX7_mixedWithRows_11 rfl (by decide) rfl ?_
  refine g_lload_n hC 1 dX7_mixedWithRows_12 rfl rfl ?_
  refine g_aload_n hC 0 dX7_mixedWithRows_13 rfl rfl ?_
  refine g_iconst hC (v := (0 : Int32)) dX7_mixedWithRows_14 (by decide) ?_
  refine g_callv hC (st := [.long r2]) (c := 7) rfl (by decide) rfl (ctX7_rows x F (0 : Int32) r1.2) mvX7_rows m_874 (by decide) rfl rfl (Nat.le_of_ble_eq_true rfl) dX7_mixedWithRows_15 (fun r3 => ?_)
  show GG x f 5 (Qm x f φLM) 18 [(0, .ref (x.1 0)), (3, .long r2)] [.int (r3.1), .long r2] r3.2 _
  refine g_calls hC (st := []) (ctX7_mixed x F r2 r3.1 r3.2) msX7_mixed m_859 (by decide) rfl rfl (Nat.le_of_ble_eq_true rfl) dX7_mixedWithRows_18 (fun r4 => ?_)
  show GG x f 5 (Qm x f φLM) 21 [(0, .ref (x.1 0)), (3, .long r2)] [.long r4] r3.2 _
  refine g_lstore_n hC (lv' := [(0, .ref (x.1 0)), (3, .long r4)]) [1, 0] dX7_mixedWithRows_21 rfl (by decide) rfl ?_
  refine g_lload_n hC 1 dX7_mixedWithRows_22 rfl rfl ?_
  refine g_aload_n hC 0 dX7_mixedWithRows_23 rfl rfl ?_
  refine g_iconst hC (v := (1 : Int32)) dX7_mixedWithRows_24 (by decide) ?_
  refine g_callv hC (st := [.long r4]) (c := 7) rfl (by decide) rfl (ctX7_rows x F (1 : Int32) r3.2) mvX7_rows m_874 (by decide) rfl rfl (Nat.le_of_ble_eq_true rfl) dX7_mixedWithRows_25 (fun r5 => ?_)
  show GG x f 5 (Qm x f φLM) 28 [(0, .ref (x.1 0)), (3, .long r4)] [.int (r5.1), .long r4] r5.2 _
  refine g_calls hC (st := []) (ctX7_mixed x F r4 r5.1 r5.2) msX7_mixed m_859 (by decide) rfl rfl (Nat.le_of_ble_eq_true rfl) dX7_mixedWithRows_28 (fun r6 => ?_)
  show GG x f 5 (Qm x f φLM) 31 [(0, .ref (x.1 0)), (3, .long r4)] [.long r6] r5.2 _
  refine g_lstore_n hC (lv' := [(0, .ref (x.1 0)), (3, .long r6)]) [1, 0] dX7_mixedWithRows_31 rfl (by decide) rfl ?_
  refine g_lload_n hC 1 dX7_mixedWithRows_32 rfl rfl ?_
  refine g_aload_n hC 0 dX7_mixedWithRows_33 rfl rfl ?_
  refine g_iconst hC (v := (0 : Int32)) dX7_mixedWithRows_34 (by decide) ?_
  refine g_callv hC (st := [.long r6]) (c := 7) rfl (by decide) rfl (ctX7_sure x F (0 : Int32) r5.2) mvX7_sure m_875 (by decide) rfl rfl (Nat.le_of_ble_eq_true rfl) dX7_mixedWithRows_35 (fun r7 => ?_)
  show GG x f 5 (Qm x f φLM) 38 [(0, .ref (x.1 0)), (3, .long r6)] [.int (r7.1), .long r6] r7.2 _
  refine g_calls hC (st := []) (ctX7_mixed x F r6 r7.1 r7.2) msX7_mixed m_859 (by decide) rfl rfl (Nat.le_of_ble_eq_true rfl) dX7_mixedWithRows_38 (fun r8 => ?_)
  show GG x f 5 (Qm x f φLM) 41 [(0, .ref (x.1 0)), (3, .long r6)] [.long r8] r7.2 _
  refine g_lstore_n hC (lv' := [(0, .ref (x.1 0)), (3, .long r8)]) [1, 0] dX7_mixedWithRows_41 rfl (by decide) rfl ?_
  refine g_lload_n hC 1 dX7_mixedWithRows_42 rfl rfl ?_
  refine g_aload_n hC 0 dX7_mixedWithRows_43 rfl rfl ?_
  refine g_iconst hC (v := (1 : Int32)) dX7_mixedWithRows_44 (by decide) ?_
  refine g_callv hC (st := [.long r8]) (c := 7) rfl (by decide) rfl (ctX7_sure x F (1 : Int32) r7.2) mvX7_sure m_875 (by decide) rfl rfl (Nat.le_of_ble_eq_true rfl) dX7_mixedWithRows_45 (fun r9 => ?_)
  show GG x f 5 (Qm x f φLM) 48 [(0, .ref (x.1 0)), (3, .long r8)] [.int (r9.1), .long r8] r9.2 _
  refine g_calls hC (st := []) (ctX7_mixed x F r8 r9.1 r9.2) msX7_mixed m_859 (by decide) rfl rfl (Nat.le_of_ble_eq_true rfl) dX7_mixedWithRows_48 (fun r10 => ?_)
  show GG x f 5 (Qm x f φLM) 51 [(0, .ref (x.1 0)), (3, .long r8)] [.long r10] r9.2 _
  refine g_lstore_n hC (lv' := [(0, .ref (x.1 0)), (3, .long r10)]) [1, 0] dX7_mixedWithRows_51 rfl (by decide) rfl ?_
  refine g_lload_n hC 1 dX7_mixedWithRows_52 rfl rfl ?_
  refine g_aload_n hC 0 dX7_mixedWithRows_53 rfl rfl ?_
  refine g_iconst hC (v := (0 : Int32)) dX7_mixedWithRows_54 (by decide) ?_
  refine g_callv hC (st := [.long r10]) (c := 7) rfl (by decide) rfl (ctX7_cannot x F (0 : Int32) r9.2) mvX7_cannot m_876 (by decide) rfl rfl (Nat.le_of_ble_eq_true rfl) dX7_mixedWithRows_55 (fun r11 => ?_)
  show GG x f 5 (Qm x f φLM) 58 [(0, .ref (x.1 0)), (3, .long r10)] [.int (r11.1), .long r10] r11.2 _
  refine g_calls hC (st := []) (ctX7_mixed x F r10 r11.1 r11.2) msX7_mixed m_859 (by decide) rfl rfl (Nat.le_of_ble_eq_true rfl) dX7_mixedWithRows_58 (fun r12 => ?_)
  show GG x f 5 (Qm x f φLM) 61 [(0, .ref (x.1 0)), (3, .long r10)] [.long r12] r11.2 _
  refine g_lstore_n hC (lv' := [(0, .ref (x.1 0)), (3, .long r12)]) [1, 0] dX7_mixedWithRows_61 rfl (by decide) rfl ?_
  refine g_lload_n hC 1 dX7_mixedWithRows_62 rfl rfl ?_
  refine g_aload_n hC 0 dX7_mixedWithRows_63 rfl rfl ?_
  refine g_iconst hC (v := (1 : Int32)) dX7_mixedWithRows_64 (by decide) ?_
  refine g_callv hC (st := [.long r12]) (c := 7) rfl (by decide) rfl (ctX7_cannot x F (1 : Int32) r11.2) mvX7_cannot m_876 (by decide) rfl rfl (Nat.le_of_ble_eq_true rfl) dX7_mixedWithRows_65 (fun r13 => ?_)
  show GG x f 5 (Qm x f φLM) 68 [(0, .ref (x.1 0)), (3, .long r12)] [.int (r13.1), .long r12] r13.2 _
  refine g_calls hC (st := []) (ctX7_mixed x F r12 r13.1 r13.2) msX7_mixed m_859 (by decide) rfl rfl (Nat.le_of_ble_eq_true rfl) dX7_mixedWithRows_68 (fun r14 => ?_)
  show GG x f 5 (Qm x f φLM) 71 [(0, .ref (x.1 0)), (3, .long r12)] [.long r14] r13.2 _
  refine g_lstore_n hC (lv' := [(0, .ref (x.1 0)), (3, .long r14)]) [1, 0] dX7_mixedWithRows_71 rfl (by decide) rfl ?_
  refine g_lload_n hC 1 dX7_mixedWithRows_72 rfl rfl ?_
  refine g_aload_n hC 0 dX7_mixedWithRows_73 rfl rfl ?_
  refine g_iconst hC (v := (0 : Int32)) dX7_mixedWithRows_74 (by decide) ?_
  refine g_callv hC (st := [.long r14]) (c := 7) rfl (by decide) rfl (ctX7_freed x F (0 : Int32) r13.2) mvX7_freed m_877 (by decide) rfl rfl (Nat.le_of_ble_eq_true rfl) dX7_mixedWithRows_75 (fun r15 => ?_)
  show GG x f 5 (Qm x f φLM) 78 [(0, .ref (x.1 0)), (3, .long r14)] [.int (r15.1), .long r14] r15.2 _
  refine g_calls hC (st := []) (ctX7_mixed x F r14 r15.1 r15.2) msX7_mixed m_859 (by decide) rfl rfl (Nat.le_of_ble_eq_true rfl) dX7_mixedWithRows_78 (fun r16 => ?_)
  show GG x f 5 (Qm x f φLM) 81 [(0, .ref (x.1 0)), (3, .long r14)] [.long r16] r15.2 _
  refine g_lstore_n hC (lv' := [(0, .ref (x.1 0)), (3, .long r16)]) [1, 0] dX7_mixedWithRows_81 rfl (by decide) rfl ?_
  refine g_lload_n hC 1 dX7_mixedWithRows_82 rfl rfl ?_
  refine g_aload_n hC 0 dX7_mixedWithRows_83 rfl rfl ?_
  refine g_iconst hC (v := (1 : Int32)) dX7_mixedWithRows_84 (by decide) ?_
  refine g_callv hC (st := [.long r16]) (c := 7) rfl (by decide) rfl (ctX7_freed x F (1 : Int32) r15.2) mvX7_freed m_877 (by decide) rfl rfl (Nat.le_of_ble_eq_true rfl) dX7_mixedWithRows_85 (fun r17 => ?_)
  show GG x f 5 (Qm x f φLM) 88 [(0, .ref (x.1 0)), (3, .long r16)] [.int (r17.1), .long r16] r17.2 _
  refine g_calls hC (st := []) (ctX7_mixed x F r16 r17.1 r17.2) msX7_mixed m_859 (by decide) rfl rfl (Nat.le_of_ble_eq_true rfl) dX7_mixedWithRows_88 (fun r18 => ?_)
  show GG x f 5 (Qm x f φLM) 91 [(0, .ref (x.1 0)), (3, .long r16)] [.long r18] r17.2 _
  refine g_lstore_n hC (lv' := [(0, .ref (x.1 0)), (3, .long r18)]) [1, 0] dX7_mixedWithRows_91 rfl (by decide) rfl ?_
  refine g_lload_n hC 1 dX7_mixedWithRows_92 rfl rfl ?_
  refine g_aload_n hC 0 dX7_mixedWithRows_93 rfl rfl ?_
  refine g_iconst hC (v := (0 : Int32)) dX7_mixedWithRows_94 (by decide) ?_
  refine g_callv hC (st := [.long r18]) (c := 7) rfl (by decide) rfl (ctX7_broken x F (0 : Int32) r17.2) mvX7_broken m_878 (by decide) rfl rfl (Nat.le_of_ble_eq_true rfl) dX7_mixedWithRows_95 (fun r19 => ?_)
  show GG x f 5 (Qm x f φLM) 98 [(0, .ref (x.1 0)), (3, .long r18)] [.int (r19.1), .long r18] r19.2 _
  refine g_calls hC (st := []) (ctX7_mixed x F r18 r19.1 r19.2) msX7_mixed m_859 (by decide) rfl rfl (Nat.le_of_ble_eq_true rfl) dX7_mixedWithRows_98 (fun r20 => ?_)
  show GG x f 5 (Qm x f φLM) 101 [(0, .ref (x.1 0)), (3, .long r18)] [.long r20] r19.2 _
  refine g_lstore_n hC (lv' := [(0, .ref (x.1 0)), (3, .long r20)]) [1, 0] dX7_mixedWithRows_101 rfl (by decide) rfl ?_
  refine g_lload_n hC 1 dX7_mixedWithRows_102 rfl rfl ?_
  refine g_aload_n hC 0 dX7_mixedWithRows_103 rfl rfl ?_
  refine g_iconst hC (v := (5 : Int32)) dX7_mixedWithRows_104 (by decide) ?_
  refine g_callv hC (st := [.long r20]) (c := 7) rfl (by decide) rfl (ctX7_broken x F (5 : Int32) r19.2) mvX7_broken m_878 (by decide) rfl rfl (Nat.le_of_ble_eq_true rfl) dX7_mixedWithRows_105 (fun r21 => ?_)
  show GG x f 5 (Qm x f φLM) 108 [(0, .ref (x.1 0)), (3, .long r20)] [.int (r21.1), .long r20] r21.2 _
  refine g_calls hC (st := []) (ctX7_mixed x F r20 r21.1 r21.2) msX7_mixed m_859 (by decide) rfl rfl (Nat.le_of_ble_eq_true rfl) dX7_mixedWithRows_108 (fun r22 => ?_)
  show GG x f 5 (Qm x f φLM) 111 [(0, .ref (x.1 0)), (3, .long r20)] [.long r22] r21.2 _
  refine g_lstore_n hC (lv' := [(0, .ref (x.1 0)), (3, .long r22)]) [1, 0] dX7_mixedWithRows_111 rfl (by decide) rfl ?_
  refine g_lload_n hC 1 dX7_mixedWithRows_112 rfl rfl ?_
  refine g_aload_n hC 0 dX7_mixedWithRows_113 rfl rfl ?_
  refine g_sipush hC (v := (1023 : Int32)) dX7_mixedWithRows_114 (by decide) ?_
  refine g_callv hC (st := [.long r22]) (c := 7) rfl (by decide) rfl (ctX7_broken x F (1023 : Int32) r21.2) mvX7_broken m_878 (by decide) rfl rfl (Nat.le_of_ble_eq_true rfl) dX7_mixedWithRows_117 (fun r23 => ?_)
  show GG x f 5 (Qm x f φLM) 120 [(0, .ref (x.1 0)), (3, .long r22)] [.int (r23.1), .long r22] r23.2 _
  refine g_calls hC (st := []) (ctX7_mixed x F r22 r23.1 r23.2) msX7_mixed m_859 (by decide) rfl rfl (Nat.le_of_ble_eq_true rfl) dX7_mixedWithRows_120 (fun r24 => ?_)
  show GG x f 5 (Qm x f φLM) 123 [(0, .ref (x.1 0)), (3, .long r22)] [.long r24] r23.2 _
  refine g_lstore_n hC (lv' := [(0, .ref (x.1 0)), (3, .long r24)]) [1, 0] dX7_mixedWithRows_123 rfl (by decide) rfl ?_
  refine g_lload_n hC 1 dX7_mixedWithRows_124 rfl rfl ?_
  refine g_aload_n hC 0 dX7_mixedWithRows_125 rfl rfl ?_
  refine g_iconst hC (v := (5 : Int32)) dX7_mixedWithRows_126 (by decide) ?_
  refine g_callv hC (st := [.long r24]) (c := 7) rfl (by decide) rfl (ctX7_nearest x F (5 : Int32) r23.2) mvX7_nearest m_879 (by decide) rfl rfl (Nat.le_of_ble_eq_true rfl) dX7_mixedWithRows_127 (fun r25 => ?_)
  show GG x f 5 (Qm x f φLM) 130 [(0, .ref (x.1 0)), (3, .long r24)] [.int (r25.1), .long r24] r25.2 _
  refine g_calls hC (st := []) (ctX7_mixed x F r24 r25.1 r25.2) msX7_mixed m_859 (by decide) rfl rfl (Nat.le_of_ble_eq_true rfl) dX7_mixedWithRows_130 (fun r26 => ?_)
  show GG x f 5 (Qm x f φLM) 133 [(0, .ref (x.1 0)), (3, .long r24)] [.long r26] r25.2 _
  refine g_lstore_n hC (lv' := [(0, .ref (x.1 0)), (3, .long r26)]) [1, 0] dX7_mixedWithRows_133 rfl (by decide) rfl ?_
  refine g_lload_n hC 1 dX7_mixedWithRows_134 rfl rfl ?_
  refine g_aload_n hC 0 dX7_mixedWithRows_135 rfl rfl ?_
  refine g_iconst hC (v := (0 : Int32)) dX7_mixedWithRows_136 (by decide) ?_
  refine g_iconst hC (v := (3 : Int32)) dX7_mixedWithRows_137 (by decide) ?_
  refine g_callv hC (st := [.long r26]) (c := 7) rfl (by decide) rfl (ctX7_steps x F (0 : Int32) (3 : Int32) r25.2) mvX7_steps m_880 (by decide) rfl rfl (Nat.le_of_ble_eq_true rfl) dX7_mixedWithRows_138 (fun r27 => ?_)
  show GG x f 5 (Qm x f φLM) 141 [(0, .ref (x.1 0)), (3, .long r26)] [.int (r27.1), .long r26] r27.2 _
  refine g_calls hC (st := []) (ctX7_mixed x F r26 r27.1 r27.2) msX7_mixed m_859 (by decide) rfl rfl (Nat.le_of_ble_eq_true rfl) dX7_mixedWithRows_141 (fun r28 => ?_)
  show GG x f 5 (Qm x f φLM) 144 [(0, .ref (x.1 0)), (3, .long r26)] [.long r28] r27.2 _
  refine g_lstore_n hC (lv' := [(0, .ref (x.1 0)), (3, .long r28)]) [1, 0] dX7_mixedWithRows_144 rfl (by decide) rfl ?_
  refine g_lload_n hC 1 dX7_mixedWithRows_145 rfl rfl ?_
  refine g_aload_n hC 0 dX7_mixedWithRows_146 rfl rfl ?_
  refine g_iconst hC (v := (0 : Int32)) dX7_mixedWithRows_147 (by decide) ?_
  refine g_iconst hC (v := (0 : Int32)) dX7_mixedWithRows_148 (by decide) ?_
  refine g_callv hC (st := [.long r28]) (c := 7) rfl (by decide) rfl (ctX7_returns x F (0 : Int32) (0 : Int32) r27.2) mvX7_returns m_881 (by decide) rfl rfl (Nat.le_of_ble_eq_true rfl) dX7_mixedWithRows_149 (fun r29 => ?_)
  show GG x f 5 (Qm x f φLM) 152 [(0, .ref (x.1 0)), (3, .long r28)] [.int (r29.1), .long r28] r29.2 _
  refine g_calls hC (st := []) (ctX7_mixed x F r28 r29.1 r29.2) msX7_mixed m_859 (by decide) rfl rfl (Nat.le_of_ble_eq_true rfl) dX7_mixedWithRows_152 (fun r30 => ?_)
  show GG x f 5 (Qm x f φLM) 155 [(0, .ref (x.1 0)), (3, .long r28)] [.long r30] r29.2 _
  refine g_lstore_n hC (lv' := [(0, .ref (x.1 0)), (3, .long r30)]) [1, 0] dX7_mixedWithRows_155 rfl (by decide) rfl ?_
  refine g_lload_n hC 1 dX7_mixedWithRows_156 rfl rfl ?_
  refine g_aload_n hC 0 dX7_mixedWithRows_157 rfl rfl ?_
  refine g_iconst hC (v := (0 : Int32)) dX7_mixedWithRows_158 (by decide) ?_
  refine g_iconst hC (v := (1 : Int32)) dX7_mixedWithRows_159 (by decide) ?_
  refine g_callv hC (st := [.long r30]) (c := 7) rfl (by decide) rfl (ctX7_returns x F (0 : Int32) (1 : Int32) r29.2) mvX7_returns m_881 (by decide) rfl rfl (Nat.le_of_ble_eq_true rfl) dX7_mixedWithRows_160 (fun r31 => ?_)
  show GG x f 5 (Qm x f φLM) 163 [(0, .ref (x.1 0)), (3, .long r30)] [.int (r31.1), .long r30] r31.2 _
  refine g_calls hC (st := []) (ctX7_mixed x F r30 r31.1 r31.2) msX7_mixed m_859 (by decide) rfl rfl (Nat.le_of_ble_eq_true rfl) dX7_mixedWithRows_163 (fun r32 => ?_)
  show GG x f 5 (Qm x f φLM) 166 [(0, .ref (x.1 0)), (3, .long r30)] [.long r32] r31.2 _
  refine g_lstore_n hC (lv' := [(0, .ref (x.1 0)), (3, .long r32)]) [1, 0] dX7_mixedWithRows_166 rfl (by decide) rfl ?_
  refine g_lload_n hC 1 dX7_mixedWithRows_167 rfl rfl ?_
  refine g_aload_n hC 0 dX7_mixedWithRows_168 rfl rfl ?_
  refine g_callv hC (st := [.long r32]) (c := 7) rfl (by decide) rfl (ctX7_rings x F r31.2) mvX7_rings m_882 (by decide) rfl rfl (Nat.le_of_ble_eq_true rfl) dX7_mixedWithRows_169 (fun r33 => ?_)
  show GG x f 5 (Qm x f φLM) 172 [(0, .ref (x.1 0)), (3, .long r32)] [.int (r33.1), .long r32] r33.2 _
  refine g_calls hC (st := []) (ctX7_mixed x F r32 r33.1 r33.2) msX7_mixed m_859 (by decide) rfl rfl (Nat.le_of_ble_eq_true rfl) dX7_mixedWithRows_172 (fun r34 => ?_)
  show GG x f 5 (Qm x f φLM) 175 [(0, .ref (x.1 0)), (3, .long r32)] [.long r34] r33.2 _
  exact g_lret hC hm rfl dX7_mixedWithRows_175
def sX7_mixedWithPersons_L5 (F : Nat) (rec4 : Int64 → Int32 → Mem → Option (Int64 × Mem)) (p1 : Int64) (p2 : Int32) (M3 : Mem) : Option (Int64 × Mem) :=
if (6 : Int32) ≤ p2 then
(some (p1, M3))
else
((sX7_had F (1023 : Int32) p2 (20 : Int32) M3).bind (fun r5 =>
(sX7_mixed F p1 r5 M3).bind (fun r6 =>
(sX7_asked F (1023 : Int32) p2 (20 : Int32) M3).bind (fun r7 =>
(sX7_mixed F r6 r7 M3).bind (fun r8 =>
(sX7_best F p2 (0 : Int32) M3).bind (fun r9 =>
(sX7_mixed F r8 r9.1 r9.2).bind (fun r10 =>
(sX7_best F p2 (1 : Int32) r9.2).bind (fun r11 =>
(sX7_mixed F r10 r11.1 r11.2).bind (fun r12 =>
(sX7_owed F p2 r11.2).bind (fun r13 =>
(sX7_mixed F r12 r13.1 r13.2).bind (fun r14 =>
(sX7_fines F p2 r13.2).bind (fun r15 =>
(sX7_mixed F r14 r15.1 r15.2).bind (fun r16 =>
rec4 r16 (p2 + (1 : Int32)) r15.2)))))))))))))
def sX7_mixedWithPersons (F : Nat) (a1 : Int64) (M : Mem) : Option (Int64 × Mem) :=
fx3 F (sX7_mixedWithPersons_L5 F) a1 (0 : Int32) M
theorem mvX7_mixedWithPersons : MV yX7_mixedWithPersons cX7_mixedWithPersons 6 (some .long) 1 := ⟨⟨m_886, m_67, by decide, by decide, by decide⟩, m_885, m_22⟩
set_option maxHeartbeats 4000000 in
set_option maxRecDepth 100000 in
theorem ctX7_mixedWithPersons (x : Wx) (F : Nat) (a1 : Int64) (M : Mem) : Ct x yX7_mixedWithPersons cX7_mixedWithPersons 6 (some .long) { frames := 5, cells := 0, slots := 0, locals := 118 } φLM [.ref (x.1 0), .long a1] M (sX7_mixedWithPersons F a1 M) := by
  refine ct_of (by decide) (Nat.le_of_ble_eq_true rfl) (fun f hC hm => ?_)
  have hC : Cx x f "AnswersFirst" cX7_mixedWithPersons 6 { frames := 5, cells := 0, slots := 0, locals := 118 } := hC
  show GG x f 6 (Qm x f φLM) 0 [(0, .ref (x.1 0)), (1, .long a1)] [] M _
  unfold sX7_mixedWithPersons
  refine g_lload_n hC 1 dX7_mixedWithPersons_0 rfl rfl ?_
  refine g_lstore_n hC (lv' := [(0, .ref (x.1 0)), (3, .long a1)]) [1, 0] dX7_mixedWithPersons_1 rfl (by decide) rfl ?_
  refine g_iconst hC (v := (0 : Int32)) dX7_mixedWithPersons_2 (by decide) ?_
  refine g_istore hC (lv' := [(0, .ref (x.1 0)), (3, .long a1), (5, .int (0 : Int32))]) [1, 2, 0] dX7_mixedWithPersons_3 (by decide) rfl ?_
  refine g_fx3 (fun (p1 : Int64) (p2 : Int32) (M3 : Mem) => [(0, .ref (x.1 0)), (3, .long p1), (5, .int p2)]) (fun (p1 : Int64) (p2 : Int32) (M3 : Mem) => M3) (fun rec4 hrec4 p1 p2 M3 => ?_) F _ _ _
  show GG x f 6 (Qm x f φLM) 5 [(0, .ref (x.1 0)), (3, .long p1), (5, .int p2)] [] M3 _
  unfold sX7_mixedWithPersons_L5
  refine g_iload hC 2 dX7_mixedWithPersons_5 rfl ?_
  refine g_bipush hC (v := (6 : Int32)) dX7_mixedWithPersons_7 (by decide) ?_
  refine g_icmp_ge hC 96 dX7_mixedWithPersons_9 (by decide) ?_ ?_
  · refine g_lload_n hC 1 dX7_mixedWithPersons_96 rfl rfl ?_
    exact g_lret hC hm rfl dX7_mixedWithPersons_97
  · refine g_lload_n hC 1 dX7_mixedWithPersons_12 rfl rfl ?_
    refine g_aload_n hC 0 dX7_mixedWithPersons_13 rfl rfl ?_
    refine g_sipush hC (v := (1023 : Int32)) dX7_mixedWithPersons_14 (by decide) ?_
    refine g_iload hC 2 dX7_mixedWithPersons_17 rfl ?_
    refine g_bipush hC (v := (20 : Int32)) dX7_mixedWithPersons_19 (by decide) ?_
    refine g_callv hC (st := [.long p1]) (c := 7) rfl (by decide) rfl (ctX7_had x F (1023 : Int32) p2 (20 : Int32) M3) mvX7_had m_887 (by decide) rfl rfl (Nat.le_of_ble_eq_true rfl) dX7_mixedWithPersons_21 (fun r5 => ?_)
    show GG x f 6 (Qm x f φLM) 24 [(0, .ref (x.1 0)), (3, .long p1), (5, .int p2)] [.int r5, .long p1] M3 _
    refine g_calls hC (st := []) (ctX7_mixed x F p1 r5 M3) msX7_mixed m_859 (by decide) rfl rfl (Nat.le_of_ble_eq_true rfl) dX7_mixedWithPersons_24 (fun r6 => ?_)
    show GG x f 6 (Qm x f φLM) 27 [(0, .ref (x.1 0)), (3, .long p1), (5, .int p2)] [.long r6] M3 _
    refine g_lstore_n hC (lv' := [(0, .ref (x.1 0)), (3, .long r6), (5, .int p2)]) [1, 0, 2] dX7_mixedWithPersons_27 rfl (by decide) rfl ?_
    refine g_lload_n hC 1 dX7_mixedWithPersons_28 rfl rfl ?_
    refine g_aload_n hC 0 dX7_mixedWithPersons_29 rfl rfl ?_
    refine g_sipush hC (v := (1023 : Int32)) dX7_mixedWithPersons_30 (by decide) ?_
    refine g_iload hC 2 dX7_mixedWithPersons_33 rfl ?_
    refine g_bipush hC (v := (20 : Int32)) dX7_mixedWithPersons_35 (by decide) ?_
    refine g_callv hC (st := [.long r6]) (c := 7) rfl (by decide) rfl (ctX7_asked x F (1023 : Int32) p2 (20 : Int32) M3) mvX7_asked m_888 (by decide) rfl rfl (Nat.le_of_ble_eq_true rfl) dX7_mixedWithPersons_37 (fun r7 => ?_)
    show GG x f 6 (Qm x f φLM) 40 [(0, .ref (x.1 0)), (3, .long r6), (5, .int p2)] [.int r7, .long r6] M3 _
    refine g_calls hC (st := []) (ctX7_mixed x F r6 r7 M3) msX7_mixed m_859 (by decide) rfl rfl (Nat.le_of_ble_eq_true rfl) dX7_mixedWithPersons_40 (fun r8 => ?_)
    show GG x f 6 (Qm x f φLM) 43 [(0, .ref (x.1 0)), (3, .long r6), (5, .int p2)] [.long r8] M3 _
    refine g_lstore_n hC (lv' := [(0, .ref (x.1 0)), (3, .long r8), (5, .int p2)]) [1, 0, 2] dX7_mixedWithPersons_43 rfl (by decide) rfl ?_
    refine g_lload_n hC 1 dX7_mixedWithPersons_44 rfl rfl ?_
    refine g_aload_n hC 0 dX7_mixedWithPersons_45 rfl rfl ?_
    refine g_iload hC 2 dX7_mixedWithPersons_46 rfl ?_
    refine g_iconst hC (v := (0 : Int32)) dX7_mixedWithPersons_48 (by decide) ?_
    refine g_callv hC (st := [.long r8]) (c := 7) rfl (by decide) rfl (ctX7_best x F p2 (0 : Int32) M3) mvX7_best m_889 (by decide) rfl rfl (Nat.le_of_ble_eq_true rfl) dX7_mixedWithPersons_49 (fun r9 => ?_)
    show GG x f 6 (Qm x f φLM) 52 [(0, .ref (x.1 0)), (3, .long r8), (5, .int p2)] [.int (r9.1), .long r8] r9.2 _
    refine g_calls hC (st := []) (ctX7_mixed x F r8 r9.1 r9.2) msX7_mixed m_859 (by decide) rfl rfl (Nat.le_of_ble_eq_true rfl) dX7_mixedWithPersons_52 (fun r10 => ?_)
    show GG x f 6 (Qm x f φLM) 55 [(0, .ref (x.1 0)), (3, .long r8), (5, .int p2)] [.long r10] r9.2 _
    refine g_lstore_n hC (lv' := [(0, .ref (x.1 0)), (3, .long r10), (5, .int p2)]) [1, 0, 2] dX7_mixedWithPersons_55 rfl (by decide) rfl ?_
    refine g_lload_n hC 1 dX7_mixedWithPersons_56 rfl rfl ?_
    refine g_aload_n hC 0 dX7_mixedWithPersons_57 rfl rfl ?_
    refine g_iload hC 2 dX7_mixedWithPersons_58 rfl ?_
    refine g_iconst hC (v := (1 : Int32)) dX7_mixedWithPersons_60 (by decide) ?_
    refine g_callv hC (st := [.long r10]) (c := 7) rfl (by decide) rfl (ctX7_best x F p2 (1 : Int32) r9.2) mvX7_best m_889 (by decide) rfl rfl (Nat.le_of_ble_eq_true rfl) dX7_mixedWithPersons_61 (fun r11 => ?_)
    show GG x f 6 (Qm x f φLM) 64 [(0, .ref (x.1 0)), (3, .long r10), (5, .int p2)] [.int (r11.1), .long r10] r11.2 _
    refine g_calls hC (st := []) (ctX7_mixed x F r10 r11.1 r11.2) msX7_mixed m_859 (by decide) rfl rfl (Nat.le_of_ble_eq_true rfl) dX7_mixedWithPersons_64 (fun r12 => ?_)
    show GG x f 6 (Qm x f φLM) 67 [(0, .ref (x.1 0)), (3, .long r10), (5, .int p2)] [.long r12] r11.2 _
    refine g_lstore_n hC (lv' := [(0, .ref (x.1 0)), (3, .long r12), (5, .int p2)]) [1, 0, 2] dX7_mixedWithPersons_67 rfl (by decide) rfl ?_
    refine g_lload_n hC 1 dX7_mixedWithPersons_68 rfl rfl ?_
    refine g_aload_n hC 0 dX7_mixedWithPersons_69 rfl rfl ?_
    refine g_iload hC 2 dX7_mixedWithPersons_70 rfl ?_
    refine g_callv hC (st := [.long r12]) (c := 7) rfl (by decide) rfl (ctX7_owed x F p2 r11.2) mvX7_owed m_890 (by decide) rfl rfl (Nat.le_of_ble_eq_true rfl) dX7_mixedWithPersons_72 (fun r13 => ?_)
    show GG x f 6 (Qm x f φLM) 75 [(0, .ref (x.1 0)), (3, .long r12), (5, .int p2)] [.int (r13.1), .long r12] r13.2 _
    refine g_calls hC (st := []) (ctX7_mixed x F r12 r13.1 r13.2) msX7_mixed m_859 (by decide) rfl rfl (Nat.le_of_ble_eq_true rfl) dX7_mixedWithPersons_75 (fun r14 => ?_)
    show GG x f 6 (Qm x f φLM) 78 [(0, .ref (x.1 0)), (3, .long r12), (5, .int p2)] [.long r14] r13.2 _
    refine g_lstore_n hC (lv' := [(0, .ref (x.1 0)), (3, .long r14), (5, .int p2)]) [1, 0, 2] dX7_mixedWithPersons_78 rfl (by decide) rfl ?_
    refine g_lload_n hC 1 dX7_mixedWithPersons_79 rfl rfl ?_
    refine g_aload_n hC 0 dX7_mixedWithPersons_80 rfl rfl ?_
    refine g_iload hC 2 dX7_mixedWithPersons_81 rfl ?_
    refine g_callv hC (st := [.long r14]) (c := 7) rfl (by decide) rfl (ctX7_fines x F p2 r13.2) mvX7_fines m_891 (by decide) rfl rfl (Nat.le_of_ble_eq_true rfl) dX7_mixedWithPersons_83 (fun r15 => ?_)
    show GG x f 6 (Qm x f φLM) 86 [(0, .ref (x.1 0)), (3, .long r14), (5, .int p2)] [.int (r15.1), .long r14] r15.2 _
    refine g_calls hC (st := []) (ctX7_mixed x F r14 r15.1 r15.2) msX7_mixed m_859 (by decide) rfl rfl (Nat.le_of_ble_eq_true rfl) dX7_mixedWithPersons_86 (fun r16 => ?_)
    show GG x f 6 (Qm x f φLM) 89 [(0, .ref (x.1 0)), (3, .long r14), (5, .int p2)] [.long r16] r15.2 _
    refine g_lstore_n hC (lv' := [(0, .ref (x.1 0)), (3, .long r16), (5, .int p2)]) [1, 0, 2] dX7_mixedWithPersons_89 rfl (by decide) rfl ?_
    refine g_iinc hC (q := 2) (v := (1 : Int32)) (lv' := [(0, .ref (x.1 0)), (3, .long r16), (5, .int (p2 + (1 : Int32)))]) [1, 2, 0] dX7_mixedWithPersons_90 rfl (by decide) (by decide) rfl ?_
    refine g_goto hC 5 dX7_mixedWithPersons_93 (by decide) ?_
    exact hrec4 r16 (p2 + (1 : Int32)) r15.2
def sX7_mixedWithAll (F : Nat) (a1 : Int64) (M : Mem) : Option (Int64 × Mem) :=
(sX7_open F (1023 : Int32) (20 : Int32) M).bind (fun r1 =>
(sX7_mixed F a1 r1 M).bind (fun r2 =>
(sX7_rows F (0 : Int32) M).bind (fun r3 =>
(sX7_rest F (imax (0 : Int32) r3.1) (0 : Int32) r3.2).bind (fun r4 =>
(sX7_mixed F r2 r4.1 r4.2).bind (fun r5 =>
(sX7_owed F (-1 : Int32) r4.2).bind (fun r6 =>
(sX7_mixed F r5 r6.1 r6.2).bind (fun r7 =>
(sX7_lack F r6.2).bind (fun r8 =>
(sX7_mixed F r7 r8.1 r8.2).bind (fun r9 =>
(sX7_unasked F r8.2).bind (fun r10 =>
(sX7_mixed F r9 r10.1 r10.2).bind (fun r11 =>
(sX7_refused F (0 : Int32) r10.2).bind (fun r12 =>
(sX7_mixed F r11 r12.1 r12.2).bind (fun r13 =>
(sX7_refused F (1 : Int32) r12.2).bind (fun r14 =>
(sX7_mixed F r13 r14.1 r14.2).bind (fun r15 =>
(sX7_lot F (7 : Int32) (0 : Int32) r14.2).bind (fun r16 =>
(sX7_mixed F r15 r16.1 r16.2).bind (fun r17 =>
(sX7_lot F (7 : Int32) (20 : Int32) r16.2).bind (fun r18 =>
(sX7_mixed F r17 r18.1 r18.2).bind (fun r19 =>
some (r19, r18.2))))))))))))))))))))
theorem mvX7_mixedWithAll : MV yX7_mixedWithAll cX7_mixedWithAll 5 (some .long) 1 := ⟨⟨m_895, m_67, by decide, by decide, by decide⟩, m_894, m_23⟩
set_option maxHeartbeats 4000000 in
set_option maxRecDepth 100000 in
theorem ctX7_mixedWithAll (x : Wx) (F : Nat) (a1 : Int64) (M : Mem) : Ct x yX7_mixedWithAll cX7_mixedWithAll 5 (some .long) { frames := 5, cells := 0, slots := 0, locals := 119 } φLM [.ref (x.1 0), .long a1] M (sX7_mixedWithAll F a1 M) := by
  refine ct_of (by decide) (Nat.le_of_ble_eq_true rfl) (fun f hC hm => ?_)
  have hC : Cx x f "AnswersFirst" cX7_mixedWithAll 5 { frames := 5, cells := 0, slots := 0, locals := 119 } := hC
  show GG x f 5 (Qm x f φLM) 0 [(0, .ref (x.1 0)), (1, .long a1)] [] M _
  unfold sX7_mixedWithAll
  refine g_lload_n hC 1 dX7_mixedWithAll_0 rfl rfl ?_
  refine g_lstore_n hC (lv' := [(0, .ref (x.1 0)), (3, .long a1)]) [1, 0] dX7_mixedWithAll_1 rfl (by decide) rfl ?_
  refine g_lload_n hC 1 dX7_mixedWithAll_2 rfl rfl ?_
  refine g_aload_n hC 0 dX7_mixedWithAll_3 rfl rfl ?_
  refine g_sipush hC (v := (1023 : Int32)) dX7_mixedWithAll_4 (by decide) ?_
  refine g_bipush hC (v := (20 : Int32)) dX7_mixedWithAll_7 (by decide) ?_
  refine g_callv hC (st := [.long a1]) (c := 7) rfl (by decide) rfl (ctX7_open x F (1023 : Int32) (20 : Int32) M) mvX7_open m_896 (by decide) rfl rfl (Nat.le_of_ble_eq_true rfl) dX7_mixedWithAll_9 (fun r1 => ?_)
  show GG x f 5 (Qm x f φLM) 12 [(0, .ref (x.1 0)), (3, .long a1)] [.int r1, .long a1] M _
  refine g_calls hC (st := []) (ctX7_mixed x F a1 r1 M) msX7_mixed m_859 (by decide) rfl rfl (Nat.le_of_ble_eq_true rfl) dX7_mixedWithAll_12 (fun r2 => ?_)
  show GG x f 5 (Qm x f φLM) 15 [(0, .ref (x.1 0)), (3, .long a1)] [.long r2] M _
  refine g_lstore_n hC (lv' := [(0, .ref (x.1 0)), (3, .long r2)]) [1, 0] dX7_mixedWithAll_15 rfl (by decide) rfl ?_
  refine g_lload_n hC 1 dX7_mixedWithAll_16 rfl rfl ?_
  refine g_aload_n hC 0 dX7_mixedWithAll_17 rfl rfl ?_
  refine g_iconst hC (v := (0 : Int32)) dX7_mixedWithAll_18 (by decide) ?_
  refine g_aload_n hC 0 dX7_mixedWithAll_19 rfl rfl ?_
  refine g_iconst hC (v := (0 : Int32)) dX7_mixedWithAll_20 (by decide) ?_
  refine g_callv hC (st := [.int (0 : Int32), .ref (x.1 0), .long r2]) (c := 7) rfl (by decide) rfl (ctX7_rows x F (0 : Int32) M) mvX7_rows m_874 (by decide) rfl rfl (Nat.le_of_ble_eq_true rfl) dX7_mixedWithAll_21 (fun r3 => ?_)
  show GG x f 5 (Qm x f φLM) 24 [(0, .ref (x.1 0)), (3, .long r2)] [.int (r3.1), .int (0 : Int32), .ref (x.1 0), .long r2] r3.2 _
  refine g_mmax hC m_897 m_101 m_69 (mM_max) (by decide) (Nat.le_of_ble_eq_true rfl) dX7_mixedWithAll_24 ?_
  refine g_iconst hC (v := (0 : Int32)) dX7_mixedWithAll_27 (by decide) ?_
  refine g_callv hC (st := [.long r2]) (c := 7) rfl (by decide) rfl (ctX7_rest x F (imax (0 : Int32) r3.1) (0 : Int32) r3.2) mvX7_rest m_898 (by decide) rfl rfl (Nat.le_of_ble_eq_true rfl) dX7_mixedWithAll_28 (fun r4 => ?_)
  show GG x f 5 (Qm x f φLM) 31 [(0, .ref (x.1 0)), (3, .long r2)] [.int (r4.1), .long r2] r4.2 _
  refine g_calls hC (st := []) (ctX7_mixed x F r2 r4.1 r4.2) msX7_mixed m_859 (by decide) rfl rfl (Nat.le_of_ble_eq_true rfl) dX7_mixedWithAll_31 (fun r5 => ?_)
  show GG x f 5 (Qm x f φLM) 34 [(0, .ref (x.1 0)), (3, .long r2)] [.long r5] r4.2 _
  refine g_lstore_n hC (lv' := [(0, .ref (x.1 0)), (3, .long r5)]) [1, 0] dX7_mixedWithAll_34 rfl (by decide) rfl ?_
  refine g_lload_n hC 1 dX7_mixedWithAll_35 rfl rfl ?_
  refine g_aload_n hC 0 dX7_mixedWithAll_36 rfl rfl ?_
  refine g_iconst hC (v := (-1 : Int32)) dX7_mixedWithAll_37 (by decide) ?_
  refine g_callv hC (st := [.long r5]) (c := 7) rfl (by decide) rfl (ctX7_owed x F (-1 : Int32) r4.2) mvX7_owed m_890 (by decide) rfl rfl (Nat.le_of_ble_eq_true rfl) dX7_mixedWithAll_38 (fun r6 => ?_)
  show GG x f 5 (Qm x f φLM) 41 [(0, .ref (x.1 0)), (3, .long r5)] [.int (r6.1), .long r5] r6.2 _
  refine g_calls hC (st := []) (ctX7_mixed x F r5 r6.1 r6.2) msX7_mixed m_859 (by decide) rfl rfl (Nat.le_of_ble_eq_true rfl) dX7_mixedWithAll_41 (fun r7 => ?_)
  show GG x f 5 (Qm x f φLM) 44 [(0, .ref (x.1 0)), (3, .long r5)] [.long r7] r6.2 _
  refine g_lstore_n hC (lv' := [(0, .ref (x.1 0)), (3, .long r7)]) [1, 0] dX7_mixedWithAll_44 rfl (by decide) rfl ?_
  refine g_lload_n hC 1 dX7_mixedWithAll_45 rfl rfl ?_
  refine g_aload_n hC 0 dX7_mixedWithAll_46 rfl rfl ?_
  refine g_callv hC (st := [.long r7]) (c := 7) rfl (by decide) rfl (ctX7_lack x F r6.2) mvX7_lack m_899 (by decide) rfl rfl (Nat.le_of_ble_eq_true rfl) dX7_mixedWithAll_47 (fun r8 => ?_)
  show GG x f 5 (Qm x f φLM) 50 [(0, .ref (x.1 0)), (3, .long r7)] [.int (r8.1), .long r7] r8.2 _
  refine g_calls hC (st := []) (ctX7_mixed x F r7 r8.1 r8.2) msX7_mixed m_859 (by decide) rfl rfl (Nat.le_of_ble_eq_true rfl) dX7_mixedWithAll_50 (fun r9 => ?_)
  show GG x f 5 (Qm x f φLM) 53 [(0, .ref (x.1 0)), (3, .long r7)] [.long r9] r8.2 _
  refine g_lstore_n hC (lv' := [(0, .ref (x.1 0)), (3, .long r9)]) [1, 0] dX7_mixedWithAll_53 rfl (by decide) rfl ?_
  refine g_lload_n hC 1 dX7_mixedWithAll_54 rfl rfl ?_
  refine g_aload_n hC 0 dX7_mixedWithAll_55 rfl rfl ?_
  refine g_callv hC (st := [.long r9]) (c := 7) rfl (by decide) rfl (ctX7_unasked x F r8.2) mvX7_unasked m_900 (by decide) rfl rfl (Nat.le_of_ble_eq_true rfl) dX7_mixedWithAll_56 (fun r10 => ?_)
  show GG x f 5 (Qm x f φLM) 59 [(0, .ref (x.1 0)), (3, .long r9)] [.int (r10.1), .long r9] r10.2 _
  refine g_calls hC (st := []) (ctX7_mixed x F r9 r10.1 r10.2) msX7_mixed m_859 (by decide) rfl rfl (Nat.le_of_ble_eq_true rfl) dX7_mixedWithAll_59 (fun r11 => ?_)
  show GG x f 5 (Qm x f φLM) 62 [(0, .ref (x.1 0)), (3, .long r9)] [.long r11] r10.2 _
  refine g_lstore_n hC (lv' := [(0, .ref (x.1 0)), (3, .long r11)]) [1, 0] dX7_mixedWithAll_62 rfl (by decide) rfl ?_
  refine g_lload_n hC 1 dX7_mixedWithAll_63 rfl rfl ?_
  refine g_aload_n hC 0 dX7_mixedWithAll_64 rfl rfl ?_
  refine g_iconst hC (v := (0 : Int32)) dX7_mixedWithAll_65 (by decide) ?_
  refine g_callv hC (st := [.long r11]) (c := 7) rfl (by decide) rfl (ctX7_refused x F (0 : Int32) r10.2) mvX7_refused m_901 (by decide) rfl rfl (Nat.le_of_ble_eq_true rfl) dX7_mixedWithAll_66 (fun r12 => ?_)
  show GG x f 5 (Qm x f φLM) 69 [(0, .ref (x.1 0)), (3, .long r11)] [.int (r12.1), .long r11] r12.2 _
  refine g_calls hC (st := []) (ctX7_mixed x F r11 r12.1 r12.2) msX7_mixed m_859 (by decide) rfl rfl (Nat.le_of_ble_eq_true rfl) dX7_mixedWithAll_69 (fun r13 => ?_)
  show GG x f 5 (Qm x f φLM) 72 [(0, .ref (x.1 0)), (3, .long r11)] [.long r13] r12.2 _
  refine g_lstore_n hC (lv' := [(0, .ref (x.1 0)), (3, .long r13)]) [1, 0] dX7_mixedWithAll_72 rfl (by decide) rfl ?_
  refine g_lload_n hC 1 dX7_mixedWithAll_73 rfl rfl ?_
  refine g_aload_n hC 0 dX7_mixedWithAll_74 rfl rfl ?_
  refine g_iconst hC (v := (1 : Int32)) dX7_mixedWithAll_75 (by decide) ?_
  refine g_callv hC (st := [.long r13]) (c := 7) rfl (by decide) rfl (ctX7_refused x F (1 : Int32) r12.2) mvX7_refused m_901 (by decide) rfl rfl (Nat.le_of_ble_eq_true rfl) dX7_mixedWithAll_76 (fun r14 => ?_)
  show GG x f 5 (Qm x f φLM) 79 [(0, .ref (x.1 0)), (3, .long r13)] [.int (r14.1), .long r13] r14.2 _
  refine g_calls hC (st := []) (ctX7_mixed x F r13 r14.1 r14.2) msX7_mixed m_859 (by decide) rfl rfl (Nat.le_of_ble_eq_true rfl) dX7_mixedWithAll_79 (fun r15 => ?_)
  show GG x f 5 (Qm x f φLM) 82 [(0, .ref (x.1 0)), (3, .long r13)] [.long r15] r14.2 _
  refine g_lstore_n hC (lv' := [(0, .ref (x.1 0)), (3, .long r15)]) [1, 0] dX7_mixedWithAll_82 rfl (by decide) rfl ?_
  refine g_lload_n hC 1 dX7_mixedWithAll_83 rfl rfl ?_
  refine g_aload_n hC 0 dX7_mixedWithAll_84 rfl rfl ?_
  refine g_bipush hC (v := (7 : Int32)) dX7_mixedWithAll_85 (by decide) ?_
  refine g_iconst hC (v := (0 : Int32)) dX7_mixedWithAll_87 (by decide) ?_
  refine g_callv hC (st := [.long r15]) (c := 7) rfl (by decide) rfl (ctX7_lot x F (7 : Int32) (0 : Int32) r14.2) mvX7_lot m_902 (by decide) rfl rfl (Nat.le_of_ble_eq_true rfl) dX7_mixedWithAll_88 (fun r16 => ?_)
  show GG x f 5 (Qm x f φLM) 91 [(0, .ref (x.1 0)), (3, .long r15)] [.int (r16.1), .long r15] r16.2 _
  refine g_calls hC (st := []) (ctX7_mixed x F r15 r16.1 r16.2) msX7_mixed m_859 (by decide) rfl rfl (Nat.le_of_ble_eq_true rfl) dX7_mixedWithAll_91 (fun r17 => ?_)
  show GG x f 5 (Qm x f φLM) 94 [(0, .ref (x.1 0)), (3, .long r15)] [.long r17] r16.2 _
  refine g_lstore_n hC (lv' := [(0, .ref (x.1 0)), (3, .long r17)]) [1, 0] dX7_mixedWithAll_94 rfl (by decide) rfl ?_
  refine g_lload_n hC 1 dX7_mixedWithAll_95 rfl rfl ?_
  refine g_aload_n hC 0 dX7_mixedWithAll_96 rfl rfl ?_
  refine g_bipush hC (v := (7 : Int32)) dX7_mixedWithAll_97 (by decide) ?_
  refine g_bipush hC (v := (20 : Int32)) dX7_mixedWithAll_99 (by decide) ?_
  refine g_callv hC (st := [.long r17]) (c := 7) rfl (by decide) rfl (ctX7_lot x F (7 : Int32) (20 : Int32) r16.2) mvX7_lot m_902 (by decide) rfl rfl (Nat.le_of_ble_eq_true rfl) dX7_mixedWithAll_101 (fun r18 => ?_)
  show GG x f 5 (Qm x f φLM) 104 [(0, .ref (x.1 0)), (3, .long r17)] [.int (r18.1), .long r17] r18.2 _
  refine g_calls hC (st := []) (ctX7_mixed x F r17 r18.1 r18.2) msX7_mixed m_859 (by decide) rfl rfl (Nat.le_of_ble_eq_true rfl) dX7_mixedWithAll_104 (fun r19 => ?_)
  show GG x f 5 (Qm x f φLM) 107 [(0, .ref (x.1 0)), (3, .long r17)] [.long r19] r18.2 _
  exact g_lret hC hm rfl dX7_mixedWithAll_107
def sX7_digest_L30 (F : Nat) (M : Mem) (J4 : Int64 → Option (Int64 × Mem)) (rec11 : Int64 → Int32 → Option (Int64 × Mem)) (p9 : Int64) (p10 : Int32) : Option (Int64 × Mem) :=
if (3 : Int32) ≤ p10 then
(J4 p9)
else
((sX7_fault F p10 M).bind (fun r12 =>
(sX7_mixed F p9 r12 M).bind (fun r13 =>
rec11 r13 (p10 + (1 : Int32)))))
def sX7_digest_L6 (F : Nat) (M : Mem) (J2 : Int64 → Option (Int64 × Mem)) (rec16 : Int64 → Int32 → Option (Int64 × Mem)) (p14 : Int64) (p15 : Int32) : Option (Int64 × Mem) :=
if (7 : Int32) < p15 then
(J2 p14)
else
((sX7_count F p15 M).bind (fun r17 =>
(sX7_mixed F p14 r17 M).bind (fun r18 =>
rec16 r18 (p15 + (1 : Int32)))))
def sX7_digest (F : Nat) (M : Mem) : Option (Int64 × Mem) :=
nm (fun (p1 : Int64) =>
nm (fun (p3 : Int64) =>
(sX7_mixedWithMatters F p3 M).bind (fun r5 =>
(sX7_mixedWithRows F r5.1 r5.2).bind (fun r6 =>
(sX7_mixedWithPersons F r6.1 r6.2).bind (fun r7 =>
(sX7_mixedWithAll F r7.1 r7.2).bind (fun r8 =>
some (r8.1, r8.2)))))) (fun J4 =>
fx2 F (sX7_digest_L30 F M J4) p1 (0 : Int32))) (fun J2 =>
fx2 F (sX7_digest_L6 F M J2) (17 : Int64) (0 : Int32))
theorem mvX7_digest : MV yX7_digest cX7_digest 4 (some .long) 0 := ⟨⟨m_856, m_67, by decide, by decide, by decide⟩, m_854, m_855⟩
set_option maxHeartbeats 4000000 in
set_option maxRecDepth 100000 in
theorem ctX7_digest (x : Wx) (F : Nat) (M : Mem) : Ct x yX7_digest cX7_digest 4 (some .long) { frames := 6, cells := 0, slots := 0, locals := 143 } φLM [.ref (x.1 0)] M (sX7_digest F M) := by
  refine ct_of (by decide) (Nat.le_of_ble_eq_true rfl) (fun f hC hm => ?_)
  have hC : Cx x f "AnswersFirst" cX7_digest 4 { frames := 6, cells := 0, slots := 0, locals := 143 } := hC
  show GG x f 4 (Qm x f φLM) 0 [(0, .ref (x.1 0))] [] M _
  unfold sX7_digest
  refine g_ldc2 hC (v := (17 : Int64)) m_857 dX7_digest_0 ?_
  refine g_lstore_n hC (lv' := [(0, .ref (x.1 0)), (1, .long (17 : Int64))]) [1, 0] dX7_digest_3 rfl (by decide) rfl ?_
  refine g_iconst hC (v := (0 : Int32)) dX7_digest_4 (by decide) ?_
  refine g_istore_n hC (lv' := [(0, .ref (x.1 0)), (1, .long (17 : Int64)), (3, .int (0 : Int32))]) [1, 2, 0] dX7_digest_5 rfl (by decide) rfl ?_
  refine g_nm (fun (J2 : Int64 → Option (Int64 × Mem)) => ∀ (p1 : Int64), GG x f 4 (Qm x f φLM) 28 [(0, .ref (x.1 0)), (1, .long p1)] [] M (J2 p1)) (fun p1 => ?_) (fun J2 hJ2 => ?_)
  · show GG x f 4 (Qm x f φLM) 28 [(0, .ref (x.1 0)), (1, .long p1)] [] M _
    refine g_iconst hC (v := (0 : Int32)) dX7_digest_28 (by decide) ?_
    refine g_istore_n hC (lv' := [(0, .ref (x.1 0)), (1, .long p1), (3, .int (0 : Int32))]) [1, 2, 0] dX7_digest_29 rfl (by decide) rfl ?_
    refine g_nm (fun (J4 : Int64 → Option (Int64 × Mem)) => ∀ (p3 : Int64), GG x f 4 (Qm x f φLM) 51 [(0, .ref (x.1 0)), (1, .long p3)] [] M (J4 p3)) (fun p3 => ?_) (fun J4 hJ4 => ?_)
    · show GG x f 4 (Qm x f φLM) 51 [(0, .ref (x.1 0)), (1, .long p3)] [] M _
      refine g_aload_n hC 0 dX7_digest_51 rfl rfl ?_
      refine g_lload_n hC 1 dX7_digest_52 rfl rfl ?_
      refine g_callv hC (st := []) (c := 7) rfl (by decide) rfl (ctX7_mixedWithMatters x F p3 M) mvX7_mixedWithMatters m_864 (by decide) rfl rfl (Nat.le_of_ble_eq_true rfl) dX7_digest_53 (fun r5 => ?_)
      show GG x f 4 (Qm x f φLM) 56 [(0, .ref (x.1 0)), (1, .long p3)] [.long r5.1] r5.2 _
      refine g_lstore_n hC (lv' := [(0, .ref (x.1 0)), (1, .long r5.1)]) [1, 0] dX7_digest_56 rfl (by decide) rfl ?_
      refine g_aload_n hC 0 dX7_digest_57 rfl rfl ?_
      refine g_lload_n hC 1 dX7_digest_58 rfl rfl ?_
      refine g_callv hC (st := []) (c := 7) rfl (by decide) rfl (ctX7_mixedWithRows x F r5.1 r5.2) mvX7_mixedWithRows m_870 (by decide) rfl rfl (Nat.le_of_ble_eq_true rfl) dX7_digest_59 (fun r6 => ?_)
      show GG x f 4 (Qm x f φLM) 62 [(0, .ref (x.1 0)), (1, .long r5.1)] [.long r6.1] r6.2 _
      refine g_lstore_n hC (lv' := [(0, .ref (x.1 0)), (1, .long r6.1)]) [1, 0] dX7_digest_62 rfl (by decide) rfl ?_
      refine g_aload_n hC 0 dX7_digest_63 rfl rfl ?_
      refine g_lload_n hC 1 dX7_digest_64 rfl rfl ?_
      refine g_callv hC (st := []) (c := 7) rfl (by decide) rfl (ctX7_mixedWithPersons x F r6.1 r6.2) mvX7_mixedWithPersons m_883 (by decide) rfl rfl (Nat.le_of_ble_eq_true rfl) dX7_digest_65 (fun r7 => ?_)
      show GG x f 4 (Qm x f φLM) 68 [(0, .ref (x.1 0)), (1, .long r6.1)] [.long r7.1] r7.2 _
      refine g_lstore_n hC (lv' := [(0, .ref (x.1 0)), (1, .long r7.1)]) [1, 0] dX7_digest_68 rfl (by decide) rfl ?_
      refine g_aload_n hC 0 dX7_digest_69 rfl rfl ?_
      refine g_lload_n hC 1 dX7_digest_70 rfl rfl ?_
      refine g_callv hC (st := []) (c := 7) rfl (by decide) rfl (ctX7_mixedWithAll x F r7.1 r7.2) mvX7_mixedWithAll m_892 (by decide) rfl rfl (Nat.le_of_ble_eq_true rfl) dX7_digest_71 (fun r8 => ?_)
      show GG x f 4 (Qm x f φLM) 74 [(0, .ref (x.1 0)), (1, .long r7.1)] [.long r8.1] r8.2 _
      exact g_lret hC hm rfl dX7_digest_74
    refine g_fx2 (fun (p9 : Int64) (p10 : Int32) => [(0, .ref (x.1 0)), (1, .long p9), (3, .int p10)]) (fun (p9 : Int64) (p10 : Int32) => M) (fun rec11 hrec11 p9 p10 => ?_) F _ _
    show GG x f 4 (Qm x f φLM) 30 [(0, .ref (x.1 0)), (1, .long p9), (3, .int p10)] [] M _
    unfold sX7_digest_L30
    refine g_iload_n hC 2 dX7_digest_30 rfl rfl ?_
    refine g_iconst hC (v := (3 : Int32)) dX7_digest_31 (by decide) ?_
    refine g_icmp_ge hC 51 dX7_digest_32 (by decide) ?_ ?_
    · refine g_lv (lv' := [(0, .ref (x.1 0)), (1, .long p9)]) [0, 1] rfl ?_
      exact hJ4 p9
    · refine g_lload_n hC 1 dX7_digest_35 rfl rfl ?_
      refine g_aload_n hC 0 dX7_digest_36 rfl rfl ?_
      refine g_iload_n hC 2 dX7_digest_37 rfl rfl ?_
      refine g_callv hC (st := [.long p9]) (c := 7) rfl (by decide) rfl (ctX7_fault x F p10 M) mvX7_fault m_863 (by decide) rfl rfl (Nat.le_of_ble_eq_true rfl) dX7_digest_38 (fun r12 => ?_)
      show GG x f 4 (Qm x f φLM) 41 [(0, .ref (x.1 0)), (1, .long p9), (3, .int p10)] [.int r12, .long p9] M _
      refine g_calls hC (st := []) (ctX7_mixed x F p9 r12 M) msX7_mixed m_859 (by decide) rfl rfl (Nat.le_of_ble_eq_true rfl) dX7_digest_41 (fun r13 => ?_)
      show GG x f 4 (Qm x f φLM) 44 [(0, .ref (x.1 0)), (1, .long p9), (3, .int p10)] [.long r13] M _
      refine g_lstore_n hC (lv' := [(0, .ref (x.1 0)), (1, .long r13), (3, .int p10)]) [1, 0, 2] dX7_digest_44 rfl (by decide) rfl ?_
      refine g_iinc hC (q := 2) (v := (1 : Int32)) (lv' := [(0, .ref (x.1 0)), (1, .long r13), (3, .int (p10 + (1 : Int32)))]) [1, 2, 0] dX7_digest_45 rfl (by decide) (by decide) rfl ?_
      refine g_goto hC 30 dX7_digest_48 (by decide) ?_
      exact hrec11 r13 (p10 + (1 : Int32))
  refine g_fx2 (fun (p14 : Int64) (p15 : Int32) => [(0, .ref (x.1 0)), (1, .long p14), (3, .int p15)]) (fun (p14 : Int64) (p15 : Int32) => M) (fun rec16 hrec16 p14 p15 => ?_) F _ _
  show GG x f 4 (Qm x f φLM) 6 [(0, .ref (x.1 0)), (1, .long p14), (3, .int p15)] [] M _
  unfold sX7_digest_L6
  refine g_iload_n hC 2 dX7_digest_6 rfl rfl ?_
  refine g_bipush hC (v := (7 : Int32)) dX7_digest_7 (by decide) ?_
  refine g_icmp_gt hC 28 dX7_digest_9 (by decide) ?_ ?_
  · refine g_lv (lv' := [(0, .ref (x.1 0)), (1, .long p14)]) [0, 1] rfl ?_
    exact hJ2 p14
  · refine g_lload_n hC 1 dX7_digest_12 rfl rfl ?_
    refine g_aload_n hC 0 dX7_digest_13 rfl rfl ?_
    refine g_iload_n hC 2 dX7_digest_14 rfl rfl ?_
    refine g_callv hC (st := [.long p14]) (c := 7) rfl (by decide) rfl (ctX7_count x F p15 M) mvX7_count m_858 (by decide) rfl rfl (Nat.le_of_ble_eq_true rfl) dX7_digest_15 (fun r17 => ?_)
    show GG x f 4 (Qm x f φLM) 18 [(0, .ref (x.1 0)), (1, .long p14), (3, .int p15)] [.int r17, .long p14] M _
    refine g_calls hC (st := []) (ctX7_mixed x F p14 r17 M) msX7_mixed m_859 (by decide) rfl rfl (Nat.le_of_ble_eq_true rfl) dX7_digest_18 (fun r18 => ?_)
    show GG x f 4 (Qm x f φLM) 21 [(0, .ref (x.1 0)), (1, .long p14), (3, .int p15)] [.long r18] M _
    refine g_lstore_n hC (lv' := [(0, .ref (x.1 0)), (1, .long r18), (3, .int p15)]) [1, 0, 2] dX7_digest_21 rfl (by decide) rfl ?_
    refine g_iinc hC (q := 2) (v := (1 : Int32)) (lv' := [(0, .ref (x.1 0)), (1, .long r18), (3, .int (p15 + (1 : Int32)))]) [1, 2, 0] dX7_digest_22 rfl (by decide) (by decide) rfl ?_
    refine g_goto hC 6 dX7_digest_25 (by decide) ?_
    exact hrec16 r18 (p15 + (1 : Int32))
