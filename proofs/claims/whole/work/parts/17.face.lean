def sX7_isOutside (F : Nat) (a1 : Int32) (a2 : Int32) (M : Mem) : Option Bool :=
if a1 < 0 then
(some true)
else
(if a1 < a2 then
(some false)
else
(some true))
theorem msX7_isOutside : MS yX7_isOutside cX7_isOutside 2 (some .boolean) 2 := ⟨⟨m_287, m_67, by decide, by decide, by decide⟩, m_286⟩
set_option maxHeartbeats 4000000 in
set_option maxRecDepth 100000 in
theorem ctX7_isOutside (x : Wx) (F : Nat) (a1 : Int32) (a2 : Int32) (M : Mem) : Ct x yX7_isOutside cX7_isOutside 2 (some .boolean) { frames := 0, cells := 0, slots := 0, locals := 0 } (φB M) [.int a1, .int a2] M (sX7_isOutside F a1 a2 M) := by
  refine ct_of (by decide) (Nat.le_of_ble_eq_true rfl) (fun f hC hm => ?_)
  have hC : Cx x f "AnswersFirst" cX7_isOutside 2 { frames := 0, cells := 0, slots := 0, locals := 0 } := hC
  show GG x f 2 (Qm x f (φB M)) 0 [(0, .int a1), (1, .int a2)] [] M _
  unfold sX7_isOutside
  refine g_iload_n hC 0 dX7_isOutside_0 rfl rfl ?_
  refine g_if_lt hC 9 dX7_isOutside_1 (by decide) ?_ ?_
  · refine g_iconst hC (v := (1 : Int32)) dX7_isOutside_9 (by decide) ?_
    refine g_goto hC 14 dX7_isOutside_10 (by decide) ?_
    exact g_zret hC hm rfl rfl dX7_isOutside_14
  · refine g_iload_n hC 0 dX7_isOutside_4 rfl rfl ?_
    refine g_iload_n hC 1 dX7_isOutside_5 rfl rfl ?_
    refine g_icmp_lt hC 13 dX7_isOutside_6 (by decide) ?_ ?_
    · refine g_iconst hC (v := (0 : Int32)) dX7_isOutside_13 (by decide) ?_
      exact g_zret hC hm rfl rfl dX7_isOutside_14
    · refine g_iconst hC (v := (1 : Int32)) dX7_isOutside_9 (by decide) ?_
      refine g_goto hC 14 dX7_isOutside_10 (by decide) ?_
      exact g_zret hC hm rfl rfl dX7_isOutside_14
def sX7_markOld (F : Nat) (M : Mem) : Option Mem :=
nm (st2 M 0 5 (1 : Int32)) (fun M1 =>
nm (st2 M1 0 7 (1 : Int32)) (fun M2 =>
some M2))
theorem mvX7_markOld : MV yX7_markOld cX7_markOld 1 none 0 := ⟨⟨m_404, m_67, by decide, by decide, by decide⟩, m_403, m_3⟩
set_option maxHeartbeats 4000000 in
set_option maxRecDepth 100000 in
theorem ctX7_markOld (x : Wx) (F : Nat) (M : Mem) : Ct x yX7_markOld cX7_markOld 1 none { frames := 0, cells := 0, slots := 0, locals := 0 } φM [.ref (x.1 0)] M (sX7_markOld F M) := by
  refine ct_of (by decide) (Nat.le_of_ble_eq_true rfl) (fun f hC hm => ?_)
  have hC : Cx x f "AnswersFirst" cX7_markOld 1 { frames := 0, cells := 0, slots := 0, locals := 0 } := hC
  show GG x f 1 (Qm x f φM) 0 [(0, .ref (x.1 0))] [] M _
  unfold sX7_markOld
  refine g_aload_n hC 0 dX7_markOld_0 rfl rfl ?_
  refine g_iconst hC (v := (1 : Int32)) dX7_markOld_1 (by decide) ?_
  refine g_put hC cf7 rfl 5 (by decide) rfl m_249 rfl rfl rfl dX7_markOld_2 (fun M1 => ?_)
  show GG x f 1 (Qm x f φM) 5 [(0, .ref (x.1 0))] [] M1 _
  refine g_aload_n hC 0 dX7_markOld_5 rfl rfl ?_
  refine g_iconst hC (v := (1 : Int32)) dX7_markOld_6 (by decide) ?_
  refine g_put hC cf7 rfl 7 (by decide) rfl m_251 rfl rfl rfl dX7_markOld_7 (fun M2 => ?_)
  show GG x f 1 (Qm x f φM) 10 [(0, .ref (x.1 0))] [] M2 _
  exact g_vret hC hm rfl dX7_markOld_10
def sX7_type (F : Nat) (a1 : Int32) (a2 : Int32) (M : Mem) : Option (Int32 × Mem) :=
(sX7_isOutside F a1 (3 : Int32) M).bind (fun r1 =>
if r1 = true then
(some ((-2 : Int32), M))
else
(if a2 < 0 then
(some ((-2 : Int32), M))
else
(if a2 ≤ (255 : Int32) then
(ib a1 3 (
(sX6_isFull F (1 + 1 + ix a1) M).bind (fun r3 =>
if r3 = true then
(some ((-4 : Int32), M))
else
(ib a1 3 (
(sX6_append F (1 + 1 + ix a1) a2 M).bind (fun r5 =>
ib a1 3 (
(sX1_take F (8 + 1 + ix a1) a2 r5).bind (fun r7 =>
(sX7_markOld F r7).bind (fun r8 =>
ib a1 3 (
(sX6_length F (1 + 1 + ix a1) r8).bind (fun r10 =>
some (r10, r8))))))))))))
else
(some ((-2 : Int32), M)))))
theorem mvX7_type : MV yX7_type cX7_type 3 (some .int) 2 := ⟨⟨m_284, m_67, by decide, by decide, by decide⟩, m_282, m_283⟩
set_option maxHeartbeats 4000000 in
set_option maxRecDepth 100000 in
theorem ctX7_type (x : Wx) (F : Nat) (a1 : Int32) (a2 : Int32) (M : Mem) : Ct x yX7_type cX7_type 3 (some .int) { frames := 7, cells := 0, slots := 0, locals := 158 } φIM [.ref (x.1 0), .int a1, .int a2] M (sX7_type F a1 a2 M) := by
  refine ct_of (by decide) (Nat.le_of_ble_eq_true rfl) (fun f hC hm => ?_)
  have hC : Cx x f "AnswersFirst" cX7_type 3 { frames := 7, cells := 0, slots := 0, locals := 158 } := hC
  show GG x f 3 (Qm x f φIM) 0 [(0, .ref (x.1 0)), (1, .int a1), (2, .int a2)] [] M _
  unfold sX7_type
  refine g_iload_n hC 1 dX7_type_0 rfl rfl ?_
  refine g_iconst hC (v := (3 : Int32)) dX7_type_1 (by decide) ?_
  refine g_calls hC (st := []) (ctX7_isOutside x F a1 (3 : Int32) M) msX7_isOutside m_285 (by decide) rfl rfl (Nat.le_of_ble_eq_true rfl) dX7_type_2 (fun r1 => ?_)
  show GG x f 3 (Qm x f φIM) 5 [(0, .ref (x.1 0)), (1, .int a1), (2, .int a2)] [.int (bi r1)] M _
  refine g_ifB_ne hC 19 dX7_type_5 (by decide) ?_ ?_
  · refine g_bipush hC (v := (-2 : Int32)) dX7_type_19 (by decide) ?_
    exact g_iret hC hm rfl dX7_type_21
  · refine g_iload_n hC 2 dX7_type_8 rfl rfl ?_
    refine g_if_lt hC 19 dX7_type_9 (by decide) ?_ ?_
    · refine g_bipush hC (v := (-2 : Int32)) dX7_type_19 (by decide) ?_
      exact g_iret hC hm rfl dX7_type_21
    · refine g_iload_n hC 2 dX7_type_12 rfl rfl ?_
      refine g_sipush hC (v := (255 : Int32)) dX7_type_13 (by decide) ?_
      refine g_icmp_le hC 22 dX7_type_16 (by decide) ?_ ?_
      · refine g_aload_n hC 0 dX7_type_22 rfl rfl ?_
        refine g_getR hC cf7 (t := 1) rfl 0 (by decide) rfl m_244 dX7_type_23 ?_
        refine g_iload_n hC 1 dX7_type_26 rfl rfl ?_
        refine g_aald hC 14 rfl (by decide) rfl dX7_type_27 (fun hi2 => ?_)
        show GG x f 3 (Qm x f φIM) 28 [(0, .ref (x.1 0)), (1, .int a1), (2, .int a2)] [.ref (x.1 (1 + 1 + ix a1))] M _
        refine g_callv hC (st := []) (c := 6) rfl (by decide) (ka_T hi2) (ctX6_isFull x F (1 + 1 + ix a1) (ka_T hi2) M) mvX6_isFull m_288 (by decide) rfl rfl (Nat.le_of_ble_eq_true rfl) dX7_type_28 (fun r3 => ?_)
        show GG x f 3 (Qm x f φIM) 31 [(0, .ref (x.1 0)), (1, .int a1), (2, .int a2)] [.int (bi r3)] M _
        refine g_ifB_eq hC 37 dX7_type_31 (by decide) ?_ ?_
        · refine g_bipush hC (v := (-4 : Int32)) dX7_type_34 (by decide) ?_
          exact g_iret hC hm rfl dX7_type_36
        · refine g_aload_n hC 0 dX7_type_37 rfl rfl ?_
          refine g_getR hC cf7 (t := 1) rfl 0 (by decide) rfl m_244 dX7_type_38 ?_
          refine g_iload_n hC 1 dX7_type_41 rfl rfl ?_
          refine g_aald hC 14 rfl (by decide) rfl dX7_type_42 (fun hi4 => ?_)
          show GG x f 3 (Qm x f φIM) 43 [(0, .ref (x.1 0)), (1, .int a1), (2, .int a2)] [.ref (x.1 (1 + 1 + ix a1))] M _
          refine g_iload_n hC 2 dX7_type_43 rfl rfl ?_
          refine g_callv hC (st := []) (c := 6) rfl (by decide) (ka_T hi4) (ctX6_append x F (1 + 1 + ix a1) a2 (ka_T hi4) M) mvX6_append m_292 (by decide) rfl rfl (Nat.le_of_ble_eq_true rfl) dX7_type_44 (fun r5 => ?_)
          show GG x f 3 (Qm x f φIM) 47 [(0, .ref (x.1 0)), (1, .int a1), (2, .int a2)] [] r5 _
          refine g_aload_n hC 0 dX7_type_47 rfl rfl ?_
          refine g_getR hC cf7 (t := 8) rfl 1 (by decide) rfl m_245 dX7_type_48 ?_
          refine g_iload_n hC 1 dX7_type_51 rfl rfl ?_
          refine g_aald hC 12 rfl (by decide) rfl dX7_type_52 (fun hi6 => ?_)
          show GG x f 3 (Qm x f φIM) 53 [(0, .ref (x.1 0)), (1, .int a1), (2, .int a2)] [.ref (x.1 (8 + 1 + ix a1))] r5 _
          refine g_iload_n hC 2 dX7_type_53 rfl rfl ?_
          refine g_callv hC (st := []) (c := 1) rfl (by decide) (ka_E hi6) (ctX1_take x F (8 + 1 + ix a1) a2 (ka_E hi6) r5) mvX1_take m_296 (by decide) rfl rfl (Nat.le_of_ble_eq_true rfl) dX7_type_54 (fun r7 => ?_)
          show GG x f 3 (Qm x f φIM) 57 [(0, .ref (x.1 0)), (1, .int a1), (2, .int a2)] [] r7 _
          refine g_aload_n hC 0 dX7_type_57 rfl rfl ?_
          refine g_callv hC (st := []) (c := 7) rfl (by decide) rfl (ctX7_markOld x F r7) mvX7_markOld m_401 (by decide) rfl rfl (Nat.le_of_ble_eq_true rfl) dX7_type_58 (fun r8 => ?_)
          show GG x f 3 (Qm x f φIM) 61 [(0, .ref (x.1 0)), (1, .int a1), (2, .int a2)] [] r8 _
          refine g_aload_n hC 0 dX7_type_61 rfl rfl ?_
          refine g_getR hC cf7 (t := 1) rfl 0 (by decide) rfl m_244 dX7_type_62 ?_
          refine g_iload_n hC 1 dX7_type_65 rfl rfl ?_
          refine g_aald hC 14 rfl (by decide) rfl dX7_type_66 (fun hi9 => ?_)
          show GG x f 3 (Qm x f φIM) 67 [(0, .ref (x.1 0)), (1, .int a1), (2, .int a2)] [.ref (x.1 (1 + 1 + ix a1))] r8 _
          refine g_callv hC (st := []) (c := 6) rfl (by decide) (ka_T hi9) (ctX6_length x F (1 + 1 + ix a1) (ka_T hi9) r8) mvX6_length m_405 (by decide) rfl rfl (Nat.le_of_ble_eq_true rfl) dX7_type_67 (fun r10 => ?_)
          show GG x f 3 (Qm x f φIM) 70 [(0, .ref (x.1 0)), (1, .int a1), (2, .int a2)] [.int r10] r8 _
          exact g_iret hC hm rfl dX7_type_70
      · refine g_bipush hC (v := (-2 : Int32)) dX7_type_19 (by decide) ?_
        exact g_iret hC hm rfl dX7_type_21
def sX7_wipe (F : Nat) (a1 : Int32) (M : Mem) : Option (Int32 × Mem) :=
(sX7_isOutside F a1 (3 : Int32) M).bind (fun r1 =>
if r1 = true then
(some ((-2 : Int32), M))
else
(ib a1 3 (
(sX6_length F (1 + 1 + ix a1) M).bind (fun r3 =>
ib a1 3 (
(sX6_clearAll F (1 + 1 + ix a1) M).bind (fun r5 =>
ib a1 3 (
(sX1_begin F (8 + 1 + ix a1) r5).bind (fun r7 =>
(sX7_markOld F r7).bind (fun r8 =>
some (r3, r8))))))))))
theorem mvX7_wipe : MV yX7_wipe cX7_wipe 3 (some .int) 1 := ⟨⟨m_412, m_67, by decide, by decide, by decide⟩, m_410, m_411⟩
set_option maxHeartbeats 4000000 in
set_option maxRecDepth 100000 in
theorem ctX7_wipe (x : Wx) (F : Nat) (a1 : Int32) (M : Mem) : Ct x yX7_wipe cX7_wipe 3 (some .int) { frames := 1, cells := 0, slots := 0, locals := 21 } φIM [.ref (x.1 0), .int a1] M (sX7_wipe F a1 M) := by
  refine ct_of (by decide) (Nat.le_of_ble_eq_true rfl) (fun f hC hm => ?_)
  have hC : Cx x f "AnswersFirst" cX7_wipe 3 { frames := 1, cells := 0, slots := 0, locals := 21 } := hC
  show GG x f 3 (Qm x f φIM) 0 [(0, .ref (x.1 0)), (1, .int a1)] [] M _
  unfold sX7_wipe
  refine g_iload_n hC 1 dX7_wipe_0 rfl rfl ?_
  refine g_iconst hC (v := (3 : Int32)) dX7_wipe_1 (by decide) ?_
  refine g_calls hC (st := []) (ctX7_isOutside x F a1 (3 : Int32) M) msX7_isOutside m_285 (by decide) rfl rfl (Nat.le_of_ble_eq_true rfl) dX7_wipe_2 (fun r1 => ?_)
  show GG x f 3 (Qm x f φIM) 5 [(0, .ref (x.1 0)), (1, .int a1)] [.int (bi r1)] M _
  refine g_ifB_eq hC 11 dX7_wipe_5 (by decide) ?_ ?_
  · refine g_bipush hC (v := (-2 : Int32)) dX7_wipe_8 (by decide) ?_
    exact g_iret hC hm rfl dX7_wipe_10
  · refine g_aload_n hC 0 dX7_wipe_11 rfl rfl ?_
    refine g_getR hC cf7 (t := 1) rfl 0 (by decide) rfl m_244 dX7_wipe_12 ?_
    refine g_iload_n hC 1 dX7_wipe_15 rfl rfl ?_
    refine g_aald hC 14 rfl (by decide) rfl dX7_wipe_16 (fun hi2 => ?_)
    show GG x f 3 (Qm x f φIM) 17 [(0, .ref (x.1 0)), (1, .int a1)] [.ref (x.1 (1 + 1 + ix a1))] M _
    refine g_callv hC (st := []) (c := 6) rfl (by decide) (ka_T hi2) (ctX6_length x F (1 + 1 + ix a1) (ka_T hi2) M) mvX6_length m_405 (by decide) rfl rfl (Nat.le_of_ble_eq_true rfl) dX7_wipe_17 (fun r3 => ?_)
    show GG x f 3 (Qm x f φIM) 20 [(0, .ref (x.1 0)), (1, .int a1)] [.int r3] M _
    refine g_istore_n hC (lv' := [(0, .ref (x.1 0)), (1, .int a1), (2, .int r3)]) [1, 2, 0] dX7_wipe_20 rfl (by decide) rfl ?_
    refine g_aload_n hC 0 dX7_wipe_21 rfl rfl ?_
    refine g_getR hC cf7 (t := 1) rfl 0 (by decide) rfl m_244 dX7_wipe_22 ?_
    refine g_iload_n hC 1 dX7_wipe_25 rfl rfl ?_
    refine g_aald hC 14 rfl (by decide) rfl dX7_wipe_26 (fun hi4 => ?_)
    show GG x f 3 (Qm x f φIM) 27 [(0, .ref (x.1 0)), (1, .int a1), (2, .int r3)] [.ref (x.1 (1 + 1 + ix a1))] M _
    refine g_callv hC (st := []) (c := 6) rfl (by decide) (ka_T hi4) (ctX6_clearAll x F (1 + 1 + ix a1) (ka_T hi4) M) mvX6_clearAll m_413 (by decide) rfl rfl (Nat.le_of_ble_eq_true rfl) dX7_wipe_27 (fun r5 => ?_)
    show GG x f 3 (Qm x f φIM) 30 [(0, .ref (x.1 0)), (1, .int a1), (2, .int r3)] [] r5 _
    refine g_aload_n hC 0 dX7_wipe_30 rfl rfl ?_
    refine g_getR hC cf7 (t := 8) rfl 1 (by decide) rfl m_245 dX7_wipe_31 ?_
    refine g_iload_n hC 1 dX7_wipe_34 rfl rfl ?_
    refine g_aald hC 12 rfl (by decide) rfl dX7_wipe_35 (fun hi6 => ?_)
    show GG x f 3 (Qm x f φIM) 36 [(0, .ref (x.1 0)), (1, .int a1), (2, .int r3)] [.ref (x.1 (8 + 1 + ix a1))] r5 _
    refine g_callv hC (st := []) (c := 1) rfl (by decide) (ka_E hi6) (ctX1_begin x F (8 + 1 + ix a1) (ka_E hi6) r5) mvX1_begin m_417 (by decide) rfl rfl (Nat.le_of_ble_eq_true rfl) dX7_wipe_36 (fun r7 => ?_)
    show GG x f 3 (Qm x f φIM) 39 [(0, .ref (x.1 0)), (1, .int a1), (2, .int r3)] [] r7 _
    refine g_aload_n hC 0 dX7_wipe_39 rfl rfl ?_
    refine g_callv hC (st := []) (c := 7) rfl (by decide) rfl (ctX7_markOld x F r7) mvX7_markOld m_401 (by decide) rfl rfl (Nat.le_of_ble_eq_true rfl) dX7_wipe_40 (fun r8 => ?_)
    show GG x f 3 (Qm x f φIM) 43 [(0, .ref (x.1 0)), (1, .int a1), (2, .int r3)] [] r8 _
    refine g_iload_n hC 2 dX7_wipe_43 rfl rfl ?_
    exact g_iret hC hm rfl dX7_wipe_44
def sX7_undo (F : Nat) (a1 : Int32) (M : Mem) : Option (Int32 × Mem) :=
(sX7_isOutside F a1 (3 : Int32) M).bind (fun r1 =>
if r1 = true then
(some ((-2 : Int32), M))
else
(ib a1 3 (
(sX6_length F (1 + 1 + ix a1) M).bind (fun r3 =>
if ¬ r3 = 0 then
(ib a1 3 (
(sX6_dropLast F (1 + 1 + ix a1) M).bind (fun r5 =>
ib a1 3 (
ib a1 3 (
(sX1_readAgain F (8 + 1 + ix a1) (1 + 1 + ix a1) r5).bind (fun r8 =>
(sX7_markOld F r8).bind (fun r9 =>
ib a1 3 (
(sX6_length F (1 + 1 + ix a1) r9).bind (fun r11 =>
some (r11, r9))))))))))
else
(some ((-3 : Int32), M))))))
theorem mvX7_undo : MV yX7_undo cX7_undo 2 (some .int) 1 := ⟨⟨m_424, m_67, by decide, by decide, by decide⟩, m_422, m_423⟩
set_option maxHeartbeats 4000000 in
set_option maxRecDepth 100000 in
theorem ctX7_undo (x : Wx) (F : Nat) (a1 : Int32) (M : Mem) : Ct x yX7_undo cX7_undo 2 (some .int) { frames := 8, cells := 0, slots := 0, locals := 180 } φIM [.ref (x.1 0), .int a1] M (sX7_undo F a1 M) := by
  refine ct_of (by decide) (Nat.le_of_ble_eq_true rfl) (fun f hC hm => ?_)
  have hC : Cx x f "AnswersFirst" cX7_undo 2 { frames := 8, cells := 0, slots := 0, locals := 180 } := hC
  show GG x f 2 (Qm x f φIM) 0 [(0, .ref (x.1 0)), (1, .int a1)] [] M _
  unfold sX7_undo
  refine g_iload_n hC 1 dX7_undo_0 rfl rfl ?_
  refine g_iconst hC (v := (3 : Int32)) dX7_undo_1 (by decide) ?_
  refine g_calls hC (st := []) (ctX7_isOutside x F a1 (3 : Int32) M) msX7_isOutside m_285 (by decide) rfl rfl (Nat.le_of_ble_eq_true rfl) dX7_undo_2 (fun r1 => ?_)
  show GG x f 2 (Qm x f φIM) 5 [(0, .ref (x.1 0)), (1, .int a1)] [.int (bi r1)] M _
  refine g_ifB_eq hC 11 dX7_undo_5 (by decide) ?_ ?_
  · refine g_bipush hC (v := (-2 : Int32)) dX7_undo_8 (by decide) ?_
    exact g_iret hC hm rfl dX7_undo_10
  · refine g_aload_n hC 0 dX7_undo_11 rfl rfl ?_
    refine g_getR hC cf7 (t := 1) rfl 0 (by decide) rfl m_244 dX7_undo_12 ?_
    refine g_iload_n hC 1 dX7_undo_15 rfl rfl ?_
    refine g_aald hC 14 rfl (by decide) rfl dX7_undo_16 (fun hi2 => ?_)
    show GG x f 2 (Qm x f φIM) 17 [(0, .ref (x.1 0)), (1, .int a1)] [.ref (x.1 (1 + 1 + ix a1))] M _
    refine g_callv hC (st := []) (c := 6) rfl (by decide) (ka_T hi2) (ctX6_length x F (1 + 1 + ix a1) (ka_T hi2) M) mvX6_length m_405 (by decide) rfl rfl (Nat.le_of_ble_eq_true rfl) dX7_undo_17 (fun r3 => ?_)
    show GG x f 2 (Qm x f φIM) 20 [(0, .ref (x.1 0)), (1, .int a1)] [.int r3] M _
    refine g_if_ne hC 26 dX7_undo_20 (by decide) ?_ ?_
    · refine g_aload_n hC 0 dX7_undo_26 rfl rfl ?_
      refine g_getR hC cf7 (t := 1) rfl 0 (by decide) rfl m_244 dX7_undo_27 ?_
      refine g_iload_n hC 1 dX7_undo_30 rfl rfl ?_
      refine g_aald hC 14 rfl (by decide) rfl dX7_undo_31 (fun hi4 => ?_)
      show GG x f 2 (Qm x f φIM) 32 [(0, .ref (x.1 0)), (1, .int a1)] [.ref (x.1 (1 + 1 + ix a1))] M _
      refine g_callv hC (st := []) (c := 6) rfl (by decide) (ka_T hi4) (ctX6_dropLast x F (1 + 1 + ix a1) (ka_T hi4) M) mvX6_dropLast m_425 (by decide) rfl rfl (Nat.le_of_ble_eq_true rfl) dX7_undo_32 (fun r5 => ?_)
      show GG x f 2 (Qm x f φIM) 35 [(0, .ref (x.1 0)), (1, .int a1)] [] r5 _
      refine g_aload_n hC 0 dX7_undo_35 rfl rfl ?_
      refine g_getR hC cf7 (t := 8) rfl 1 (by decide) rfl m_245 dX7_undo_36 ?_
      refine g_iload_n hC 1 dX7_undo_39 rfl rfl ?_
      refine g_aald hC 12 rfl (by decide) rfl dX7_undo_40 (fun hi6 => ?_)
      show GG x f 2 (Qm x f φIM) 41 [(0, .ref (x.1 0)), (1, .int a1)] [.ref (x.1 (8 + 1 + ix a1))] r5 _
      refine g_aload_n hC 0 dX7_undo_41 rfl rfl ?_
      refine g_getR hC cf7 (t := 1) rfl 0 (by decide) rfl m_244 dX7_undo_42 ?_
      refine g_iload_n hC 1 dX7_undo_45 rfl rfl ?_
      refine g_aald hC 14 rfl (by decide) rfl dX7_undo_46 (fun hi7 => ?_)
      show GG x f 2 (Qm x f φIM) 47 [(0, .ref (x.1 0)), (1, .int a1)] [.ref (x.1 (1 + 1 + ix a1)), .ref (x.1 (8 + 1 + ix a1))] r5 _
      refine g_callv hC (st := []) (c := 1) rfl (by decide) (ka_E hi6) (ctX1_readAgain x F (8 + 1 + ix a1) (1 + 1 + ix a1) (ka_E hi6) (ka_T hi7) r5) mvX1_readAgain m_429 (by decide) rfl rfl (Nat.le_of_ble_eq_true rfl) dX7_undo_47 (fun r8 => ?_)
      show GG x f 2 (Qm x f φIM) 50 [(0, .ref (x.1 0)), (1, .int a1)] [] r8 _
      refine g_aload_n hC 0 dX7_undo_50 rfl rfl ?_
      refine g_callv hC (st := []) (c := 7) rfl (by decide) rfl (ctX7_markOld x F r8) mvX7_markOld m_401 (by decide) rfl rfl (Nat.le_of_ble_eq_true rfl) dX7_undo_51 (fun r9 => ?_)
      show GG x f 2 (Qm x f φIM) 54 [(0, .ref (x.1 0)), (1, .int a1)] [] r9 _
      refine g_aload_n hC 0 dX7_undo_54 rfl rfl ?_
      refine g_getR hC cf7 (t := 1) rfl 0 (by decide) rfl m_244 dX7_undo_55 ?_
      refine g_iload_n hC 1 dX7_undo_58 rfl rfl ?_
      refine g_aald hC 14 rfl (by decide) rfl dX7_undo_59 (fun hi10 => ?_)
      show GG x f 2 (Qm x f φIM) 60 [(0, .ref (x.1 0)), (1, .int a1)] [.ref (x.1 (1 + 1 + ix a1))] r9 _
      refine g_callv hC (st := []) (c := 6) rfl (by decide) (ka_T hi10) (ctX6_length x F (1 + 1 + ix a1) (ka_T hi10) r9) mvX6_length m_405 (by decide) rfl rfl (Nat.le_of_ble_eq_true rfl) dX7_undo_60 (fun r11 => ?_)
      show GG x f 2 (Qm x f φIM) 63 [(0, .ref (x.1 0)), (1, .int a1)] [.int r11] r9 _
      exact g_iret hC hm rfl dX7_undo_63
    · refine g_bipush hC (v := (-3 : Int32)) dX7_undo_23 (by decide) ?_
      exact g_iret hC hm rfl dX7_undo_25
def sX7_fault (F : Nat) (a1 : Int32) (M : Mem) : Option Int32 :=
(sX7_isOutside F a1 (3 : Int32) M).bind (fun r1 =>
if r1 = true then
(some (-2 : Int32))
else
(ib a1 3 (
(sX1_faultPlace F (8 + 1 + ix a1) M).bind (fun r3 =>
some r3))))
theorem mvX7_fault : MV yX7_fault cX7_fault 2 (some .int) 1 := ⟨⟨m_443, m_67, by decide, by decide, by decide⟩, m_441, m_442⟩
set_option maxHeartbeats 4000000 in
set_option maxRecDepth 100000 in
theorem ctX7_fault (x : Wx) (F : Nat) (a1 : Int32) (M : Mem) : Ct x yX7_fault cX7_fault 2 (some .int) { frames := 1, cells := 0, slots := 0, locals := 21 } (φI M) [.ref (x.1 0), .int a1] M (sX7_fault F a1 M) := by
  refine ct_of (by decide) (Nat.le_of_ble_eq_true rfl) (fun f hC hm => ?_)
  have hC : Cx x f "AnswersFirst" cX7_fault 2 { frames := 1, cells := 0, slots := 0, locals := 21 } := hC
  show GG x f 2 (Qm x f (φI M)) 0 [(0, .ref (x.1 0)), (1, .int a1)] [] M _
  unfold sX7_fault
  refine g_iload_n hC 1 dX7_fault_0 rfl rfl ?_
  refine g_iconst hC (v := (3 : Int32)) dX7_fault_1 (by decide) ?_
  refine g_calls hC (st := []) (ctX7_isOutside x F a1 (3 : Int32) M) msX7_isOutside m_285 (by decide) rfl rfl (Nat.le_of_ble_eq_true rfl) dX7_fault_2 (fun r1 => ?_)
  show GG x f 2 (Qm x f (φI M)) 5 [(0, .ref (x.1 0)), (1, .int a1)] [.int (bi r1)] M _
  refine g_ifB_eq hC 11 dX7_fault_5 (by decide) ?_ ?_
  · refine g_bipush hC (v := (-2 : Int32)) dX7_fault_8 (by decide) ?_
    exact g_iret hC hm rfl dX7_fault_10
  · refine g_aload_n hC 0 dX7_fault_11 rfl rfl ?_
    refine g_getR hC cf7 (t := 8) rfl 1 (by decide) rfl m_245 dX7_fault_12 ?_
    refine g_iload_n hC 1 dX7_fault_15 rfl rfl ?_
    refine g_aald hC 12 rfl (by decide) rfl dX7_fault_16 (fun hi2 => ?_)
    show GG x f 2 (Qm x f (φI M)) 17 [(0, .ref (x.1 0)), (1, .int a1)] [.ref (x.1 (8 + 1 + ix a1))] M _
    refine g_callv hC (st := []) (c := 1) rfl (by decide) (ka_E hi2) (ctX1_faultPlace x F (8 + 1 + ix a1) (ka_E hi2) M) mvX1_faultPlace m_444 (by decide) rfl rfl (Nat.le_of_ble_eq_true rfl) dX7_fault_17 (fun r3 => ?_)
    show GG x f 2 (Qm x f (φI M)) 20 [(0, .ref (x.1 0)), (1, .int a1)] [.int r3] M _
    exact g_iret hC hm rfl dX7_fault_20
def sX7_isNoMatter (F : Nat) (a1 : Int32) (M : Mem) : Option Bool :=
ib (0 : Int32) 3 (
(sX1_howMany F (8 + 1 + ix (0 : Int32)) M).bind (fun r2 =>
(sX7_isOutside F a1 r2 M).bind (fun r3 =>
some r3)))
theorem mvX7_isNoMatter : MV yX7_isNoMatter cX7_isNoMatter 2 (some .boolean) 1 := ⟨⟨m_455, m_67, by decide, by decide, by decide⟩, m_454, m_4⟩
set_option maxHeartbeats 4000000 in
set_option maxRecDepth 100000 in
theorem ctX7_isNoMatter (x : Wx) (F : Nat) (a1 : Int32) (M : Mem) : Ct x yX7_isNoMatter cX7_isNoMatter 2 (some .boolean) { frames := 1, cells := 0, slots := 0, locals := 21 } (φB M) [.ref (x.1 0), .int a1] M (sX7_isNoMatter F a1 M) := by
  refine ct_of (by decide) (Nat.le_of_ble_eq_true rfl) (fun f hC hm => ?_)
  have hC : Cx x f "AnswersFirst" cX7_isNoMatter 2 { frames := 1, cells := 0, slots := 0, locals := 21 } := hC
  show GG x f 2 (Qm x f (φB M)) 0 [(0, .ref (x.1 0)), (1, .int a1)] [] M _
  unfold sX7_isNoMatter
  refine g_iload_n hC 1 dX7_isNoMatter_0 rfl rfl ?_
  refine g_aload_n hC 0 dX7_isNoMatter_1 rfl rfl ?_
  refine g_getR hC cf7 (t := 8) rfl 1 (by decide) rfl m_245 dX7_isNoMatter_2 ?_
  refine g_iconst hC (v := (0 : Int32)) dX7_isNoMatter_5 (by decide) ?_
  refine g_aald hC 12 rfl (by decide) rfl dX7_isNoMatter_6 (fun hi1 => ?_)
  show GG x f 2 (Qm x f (φB M)) 7 [(0, .ref (x.1 0)), (1, .int a1)] [.ref (x.1 (8 + 1 + ix (0 : Int32))), .int a1] M _
  refine g_callv hC (st := [.int a1]) (c := 1) rfl (by decide) (ka_E hi1) (ctX1_howMany x F (8 + 1 + ix (0 : Int32)) (ka_E hi1) M) mvX1_howMany m_456 (by decide) rfl rfl (Nat.le_of_ble_eq_true rfl) dX7_isNoMatter_7 (fun r2 => ?_)
  show GG x f 2 (Qm x f (φB M)) 10 [(0, .ref (x.1 0)), (1, .int a1)] [.int r2, .int a1] M _
  refine g_calls hC (st := []) (ctX7_isOutside x F a1 r2 M) msX7_isOutside m_285 (by decide) rfl rfl (Nat.le_of_ble_eq_true rfl) dX7_isNoMatter_10 (fun r3 => ?_)
  show GG x f 2 (Qm x f (φB M)) 13 [(0, .ref (x.1 0)), (1, .int a1)] [.int (bi r3)] M _
  exact g_zret hC hm (bi_nar _) rfl dX7_isNoMatter_13
def sX7_matter (F : Nat) (a1 : Int32) (a2 : Int32) (M : Mem) : Option Int32 :=
(sX7_isNoMatter F a1 M).bind (fun r1 =>
if r1 = true then
(some (-2 : Int32))
else
((sX7_isOutside F a2 (6 : Int32) M).bind (fun r2 =>
if r2 = true then
(some (-2 : Int32))
else
(ib (0 : Int32) 3 (
(sX1_part F (8 + 1 + ix (0 : Int32)) a1 a2 M).bind (fun r4 =>
some r4))))))
theorem mvX7_matter : MV yX7_matter cX7_matter 3 (some .int) 2 := ⟨⟨m_451, m_67, by decide, by decide, by decide⟩, m_449, m_450⟩
set_option maxHeartbeats 4000000 in
set_option maxRecDepth 100000 in
theorem ctX7_matter (x : Wx) (F : Nat) (a1 : Int32) (a2 : Int32) (M : Mem) : Ct x yX7_matter cX7_matter 3 (some .int) { frames := 2, cells := 0, slots := 0, locals := 42 } (φI M) [.ref (x.1 0), .int a1, .int a2] M (sX7_matter F a1 a2 M) := by
  refine ct_of (by decide) (Nat.le_of_ble_eq_true rfl) (fun f hC hm => ?_)
  have hC : Cx x f "AnswersFirst" cX7_matter 3 { frames := 2, cells := 0, slots := 0, locals := 42 } := hC
  show GG x f 3 (Qm x f (φI M)) 0 [(0, .ref (x.1 0)), (1, .int a1), (2, .int a2)] [] M _
  unfold sX7_matter
  refine g_aload_n hC 0 dX7_matter_0 rfl rfl ?_
  refine g_iload_n hC 1 dX7_matter_1 rfl rfl ?_
  refine g_callv hC (st := []) (c := 7) rfl (by decide) rfl (ctX7_isNoMatter x F a1 M) mvX7_isNoMatter m_452 (by decide) rfl rfl (Nat.le_of_ble_eq_true rfl) dX7_matter_2 (fun r1 => ?_)
  show GG x f 3 (Qm x f (φI M)) 5 [(0, .ref (x.1 0)), (1, .int a1), (2, .int a2)] [.int (bi r1)] M _
  refine g_ifB_ne hC 17 dX7_matter_5 (by decide) ?_ ?_
  · refine g_bipush hC (v := (-2 : Int32)) dX7_matter_17 (by decide) ?_
    exact g_iret hC hm rfl dX7_matter_19
  · refine g_iload_n hC 2 dX7_matter_8 rfl rfl ?_
    refine g_bipush hC (v := (6 : Int32)) dX7_matter_9 (by decide) ?_
    refine g_calls hC (st := []) (ctX7_isOutside x F a2 (6 : Int32) M) msX7_isOutside m_285 (by decide) rfl rfl (Nat.le_of_ble_eq_true rfl) dX7_matter_11 (fun r2 => ?_)
    show GG x f 3 (Qm x f (φI M)) 14 [(0, .ref (x.1 0)), (1, .int a1), (2, .int a2)] [.int (bi r2)] M _
    refine g_ifB_eq hC 20 dX7_matter_14 (by decide) ?_ ?_
    · refine g_bipush hC (v := (-2 : Int32)) dX7_matter_17 (by decide) ?_
      exact g_iret hC hm rfl dX7_matter_19
    · refine g_aload_n hC 0 dX7_matter_20 rfl rfl ?_
      refine g_getR hC cf7 (t := 8) rfl 1 (by decide) rfl m_245 dX7_matter_21 ?_
      refine g_iconst hC (v := (0 : Int32)) dX7_matter_24 (by decide) ?_
      refine g_aald hC 12 rfl (by decide) rfl dX7_matter_25 (fun hi3 => ?_)
      show GG x f 3 (Qm x f (φI M)) 26 [(0, .ref (x.1 0)), (1, .int a1), (2, .int a2)] [.ref (x.1 (8 + 1 + ix (0 : Int32)))] M _
      refine g_iload_n hC 1 dX7_matter_26 rfl rfl ?_
      refine g_iload_n hC 2 dX7_matter_27 rfl rfl ?_
      refine g_callv hC (st := []) (c := 1) rfl (by decide) (ka_E hi3) (ctX1_part x F (8 + 1 + ix (0 : Int32)) a1 a2 (ka_E hi3) M) mvX1_part m_460 (by decide) rfl rfl (Nat.le_of_ble_eq_true rfl) dX7_matter_28 (fun r4 => ?_)
      show GG x f 3 (Qm x f (φI M)) 31 [(0, .ref (x.1 0)), (1, .int a1), (2, .int a2)] [.int r4] M _
      exact g_iret hC hm rfl dX7_matter_31
def sX7_set (F : Nat) (a1 : Int32) (a2 : Int32) (M : Mem) : Option (Int32 × Mem) :=
(sX7_isOutside F a1 (4 : Int32) M).bind (fun r1 =>
if r1 = true then
(some ((-2 : Int32), M))
else
(ib a1 4 (
if a2 < (roI 62 (ix a1)) then
(some ((-2 : Int32), M))
else
(ib a1 4 (
if a2 ≤ (roI 63 (ix a1)) then
(ib a1 4 (
nm (M 15 (ix a1)) (fun v2 =>
ib a1 4 (
nm (st2 M 15 (ix a1) a2) (fun M3 =>
(sX7_markOld F M3).bind (fun r4 =>
some (v2, r4)))))))
else
(some ((-2 : Int32), M)))))))
theorem mvX7_set : MV yX7_set cX7_set 4 (some .int) 2 := ⟨⟨m_467, m_67, by decide, by decide, by decide⟩, m_465, m_466⟩
set_option maxHeartbeats 4000000 in
set_option maxRecDepth 100000 in
theorem ctX7_set (x : Wx) (F : Nat) (a1 : Int32) (a2 : Int32) (M : Mem) : Ct x yX7_set cX7_set 4 (some .int) { frames := 1, cells := 0, slots := 0, locals := 21 } φIM [.ref (x.1 0), .int a1, .int a2] M (sX7_set F a1 a2 M) := by
  refine ct_of (by decide) (Nat.le_of_ble_eq_true rfl) (fun f hC hm => ?_)
  have hC : Cx x f "AnswersFirst" cX7_set 4 { frames := 1, cells := 0, slots := 0, locals := 21 } := hC
  show GG x f 4 (Qm x f φIM) 0 [(0, .ref (x.1 0)), (1, .int a1), (2, .int a2)] [] M _
  unfold sX7_set
  refine g_iload_n hC 1 dX7_set_0 rfl rfl ?_
  refine g_iconst hC (v := (4 : Int32)) dX7_set_1 (by decide) ?_
  refine g_calls hC (st := []) (ctX7_isOutside x F a1 (4 : Int32) M) msX7_isOutside m_285 (by decide) rfl rfl (Nat.le_of_ble_eq_true rfl) dX7_set_2 (fun r1 => ?_)
  show GG x f 4 (Qm x f φIM) 5 [(0, .ref (x.1 0)), (1, .int a1), (2, .int a2)] [.int (bi r1)] M _
  refine g_ifB_ne hC 26 dX7_set_5 (by decide) ?_ ?_
  · refine g_bipush hC (v := (-2 : Int32)) dX7_set_26 (by decide) ?_
    exact g_iret hC hm rfl dX7_set_28
  · refine g_iload_n hC 2 dX7_set_8 rfl rfl ?_
    refine g_gets62 hC m_468 dX7_set_9 ?_
    refine g_iload_n hC 1 dX7_set_12 rfl rfl ?_
    refine g_roald hC (by decide) rfl dX7_set_13 ?_
    refine g_icmp_lt hC 26 dX7_set_14 (by decide) ?_ ?_
    · refine g_bipush hC (v := (-2 : Int32)) dX7_set_26 (by decide) ?_
      exact g_iret hC hm rfl dX7_set_28
    · refine g_iload_n hC 2 dX7_set_17 rfl rfl ?_
      refine g_gets63 hC m_470 dX7_set_18 ?_
      refine g_iload_n hC 1 dX7_set_21 rfl rfl ?_
      refine g_roald hC (by decide) rfl dX7_set_22 ?_
      refine g_icmp_le hC 29 dX7_set_23 (by decide) ?_ ?_
      · refine g_aload_n hC 0 dX7_set_29 rfl rfl ?_
        refine g_getR hC cf7 (t := 15) rfl 2 (by decide) rfl m_246 dX7_set_30 ?_
        refine g_iload_n hC 1 dX7_set_33 rfl rfl ?_
        refine g_iald hC rfl rfl dX7_set_34 ?_
        refine g_top (fun v2 => ?_)
        show GG x f 4 (Qm x f φIM) 35 [(0, .ref (x.1 0)), (1, .int a1), (2, .int a2)] [.int v2] M _
        refine g_istore_n hC (lv' := [(0, .ref (x.1 0)), (1, .int a1), (2, .int a2), (3, .int v2)]) [1, 2, 3, 0] dX7_set_35 rfl (by decide) rfl ?_
        refine g_aload_n hC 0 dX7_set_36 rfl rfl ?_
        refine g_getR hC cf7 (t := 15) rfl 2 (by decide) rfl m_246 dX7_set_37 ?_
        refine g_iload_n hC 1 dX7_set_40 rfl rfl ?_
        refine g_iload_n hC 2 dX7_set_41 rfl rfl ?_
        refine g_iast hC rfl rfl dX7_set_42 (fun M3 => ?_)
        show GG x f 4 (Qm x f φIM) 43 [(0, .ref (x.1 0)), (1, .int a1), (2, .int a2), (3, .int v2)] [] M3 _
        refine g_aload_n hC 0 dX7_set_43 rfl rfl ?_
        refine g_callv hC (st := []) (c := 7) rfl (by decide) rfl (ctX7_markOld x F M3) mvX7_markOld m_401 (by decide) rfl rfl (Nat.le_of_ble_eq_true rfl) dX7_set_44 (fun r4 => ?_)
        show GG x f 4 (Qm x f φIM) 47 [(0, .ref (x.1 0)), (1, .int a1), (2, .int a2), (3, .int v2)] [] r4 _
        refine g_iload_n hC 3 dX7_set_47 rfl rfl ?_
        exact g_iret hC hm rfl dX7_set_48
      · refine g_bipush hC (v := (-2 : Int32)) dX7_set_26 (by decide) ?_
        exact g_iret hC hm rfl dX7_set_28
def sX7_worth (F : Nat) (a1 : Int32) (a2 : Int32) (M : Mem) : Option (Int32 × Mem) :=
(sX7_isOutside F a1 (10 : Int32) M).bind (fun r1 =>
if r1 = true then
(some ((-1002 : Int32), M))
else
(if a2 < (-9 : Int32) then
(some ((-1002 : Int32), M))
else
(if a2 ≤ (9 : Int32) then
(ib a1 10 (
nm (M 16 (ix a1)) (fun v2 =>
ib a1 10 (
nm (st2 M 16 (ix a1) a2) (fun M3 =>
some (v2, M3))))))
else
(some ((-1002 : Int32), M)))))
theorem mvX7_worth : MV yX7_worth cX7_worth 4 (some .int) 2 := ⟨⟨m_475, m_67, by decide, by decide, by decide⟩, m_473, m_474⟩
set_option maxHeartbeats 4000000 in
set_option maxRecDepth 100000 in
theorem ctX7_worth (x : Wx) (F : Nat) (a1 : Int32) (a2 : Int32) (M : Mem) : Ct x yX7_worth cX7_worth 4 (some .int) { frames := 1, cells := 0, slots := 0, locals := 21 } φIM [.ref (x.1 0), .int a1, .int a2] M (sX7_worth F a1 a2 M) := by
  refine ct_of (by decide) (Nat.le_of_ble_eq_true rfl) (fun f hC hm => ?_)
  have hC : Cx x f "AnswersFirst" cX7_worth 4 { frames := 1, cells := 0, slots := 0, locals := 21 } := hC
  show GG x f 4 (Qm x f φIM) 0 [(0, .ref (x.1 0)), (1, .int a1), (2, .int a2)] [] M _
  unfold sX7_worth
  refine g_iload_n hC 1 dX7_worth_0 rfl rfl ?_
  refine g_bipush hC (v := (10 : Int32)) dX7_worth_1 (by decide) ?_
  refine g_calls hC (st := []) (ctX7_isOutside x F a1 (10 : Int32) M) msX7_isOutside m_285 (by decide) rfl rfl (Nat.le_of_ble_eq_true rfl) dX7_worth_3 (fun r1 => ?_)
  show GG x f 4 (Qm x f φIM) 6 [(0, .ref (x.1 0)), (1, .int a1), (2, .int a2)] [.int (bi r1)] M _
  refine g_ifB_ne hC 21 dX7_worth_6 (by decide) ?_ ?_
  · refine g_sipush hC (v := (-1002 : Int32)) dX7_worth_21 (by decide) ?_
    exact g_iret hC hm rfl dX7_worth_24
  · refine g_iload_n hC 2 dX7_worth_9 rfl rfl ?_
    refine g_bipush hC (v := (-9 : Int32)) dX7_worth_10 (by decide) ?_
    refine g_icmp_lt hC 21 dX7_worth_12 (by decide) ?_ ?_
    · refine g_sipush hC (v := (-1002 : Int32)) dX7_worth_21 (by decide) ?_
      exact g_iret hC hm rfl dX7_worth_24
    · refine g_iload_n hC 2 dX7_worth_15 rfl rfl ?_
      refine g_bipush hC (v := (9 : Int32)) dX7_worth_16 (by decide) ?_
      refine g_icmp_le hC 25 dX7_worth_18 (by decide) ?_ ?_
      · refine g_aload_n hC 0 dX7_worth_25 rfl rfl ?_
        refine g_getR hC cf7 (t := 16) rfl 3 (by decide) rfl m_247 dX7_worth_26 ?_
        refine g_iload_n hC 1 dX7_worth_29 rfl rfl ?_
        refine g_iald hC rfl rfl dX7_worth_30 ?_
        refine g_top (fun v2 => ?_)
        show GG x f 4 (Qm x f φIM) 31 [(0, .ref (x.1 0)), (1, .int a1), (2, .int a2)] [.int v2] M _
        refine g_istore_n hC (lv' := [(0, .ref (x.1 0)), (1, .int a1), (2, .int a2), (3, .int v2)]) [1, 2, 3, 0] dX7_worth_31 rfl (by decide) rfl ?_
        refine g_aload_n hC 0 dX7_worth_32 rfl rfl ?_
        refine g_getR hC cf7 (t := 16) rfl 3 (by decide) rfl m_247 dX7_worth_33 ?_
        refine g_iload_n hC 1 dX7_worth_36 rfl rfl ?_
        refine g_iload_n hC 2 dX7_worth_37 rfl rfl ?_
        refine g_iast hC rfl rfl dX7_worth_38 (fun M3 => ?_)
        show GG x f 4 (Qm x f φIM) 39 [(0, .ref (x.1 0)), (1, .int a1), (2, .int a2), (3, .int v2)] [] M3 _
        refine g_iload_n hC 3 dX7_worth_39 rfl rfl ?_
        exact g_iret hC hm rfl dX7_worth_40
      · refine g_sipush hC (v := (-1002 : Int32)) dX7_worth_21 (by decide) ?_
        exact g_iret hC hm rfl dX7_worth_24
def sX7_finding (F : Nat) (a1 : Int32) (M : Mem) : Option (Int32 × Mem) :=
nm (st2 M 0 11 a1) (fun M1 =>
some (((-10 : Int32) - a1), M1))
theorem mvX7_finding : MV yX7_finding cX7_finding 2 (some .int) 1 := ⟨⟨m_487, m_67, by decide, by decide, by decide⟩, m_486, m_5⟩
set_option maxHeartbeats 4000000 in
set_option maxRecDepth 100000 in
theorem ctX7_finding (x : Wx) (F : Nat) (a1 : Int32) (M : Mem) : Ct x yX7_finding cX7_finding 2 (some .int) { frames := 0, cells := 0, slots := 0, locals := 0 } φIM [.ref (x.1 0), .int a1] M (sX7_finding F a1 M) := by
  refine ct_of (by decide) (Nat.le_of_ble_eq_true rfl) (fun f hC hm => ?_)
  have hC : Cx x f "AnswersFirst" cX7_finding 2 { frames := 0, cells := 0, slots := 0, locals := 0 } := hC
  show GG x f 2 (Qm x f φIM) 0 [(0, .ref (x.1 0)), (1, .int a1)] [] M _
  unfold sX7_finding
  refine g_aload_n hC 0 dX7_finding_0 rfl rfl ?_
  refine g_iload_n hC 1 dX7_finding_1 rfl rfl ?_
  refine g_put hC cf7 rfl 11 (by decide) rfl m_255 rfl rfl rfl dX7_finding_2 (fun M1 => ?_)
  show GG x f 2 (Qm x f φIM) 5 [(0, .ref (x.1 0)), (1, .int a1)] [] M1 _
  refine g_bipush hC (v := (-10 : Int32)) dX7_finding_5 (by decide) ?_
  refine g_iload_n hC 1 dX7_finding_7 rfl rfl ?_
  refine g_isub hC dX7_finding_8 ?_
  exact g_iret hC hm rfl dX7_finding_9
def sX7_isNotSeeable (F : Nat) (a1 : Int32) (a2 : Int32) (M : Mem) : Option Bool :=
(sX7_isOutside F a1 (10 : Int32) M).bind (fun r1 =>
if r1 = true then
(some true)
else
((sX7_isOutside F a2 (2 : Int32) M).bind (fun r2 =>
if r2 = true then
(some true)
else
(some false))))
theorem msX7_isNotSeeable : MS yX7_isNotSeeable cX7_isNotSeeable 2 (some .boolean) 2 := ⟨⟨m_502, m_67, by decide, by decide, by decide⟩, m_501⟩
set_option maxHeartbeats 4000000 in
set_option maxRecDepth 100000 in
theorem ctX7_isNotSeeable (x : Wx) (F : Nat) (a1 : Int32) (a2 : Int32) (M : Mem) : Ct x yX7_isNotSeeable cX7_isNotSeeable 2 (some .boolean) { frames := 1, cells := 0, slots := 0, locals := 21 } (φB M) [.int a1, .int a2] M (sX7_isNotSeeable F a1 a2 M) := by
  refine ct_of (by decide) (Nat.le_of_ble_eq_true rfl) (fun f hC hm => ?_)
  have hC : Cx x f "AnswersFirst" cX7_isNotSeeable 2 { frames := 1, cells := 0, slots := 0, locals := 21 } := hC
  show GG x f 2 (Qm x f (φB M)) 0 [(0, .int a1), (1, .int a2)] [] M _
  unfold sX7_isNotSeeable
  refine g_iload_n hC 0 dX7_isNotSeeable_0 rfl rfl ?_
  refine g_bipush hC (v := (10 : Int32)) dX7_isNotSeeable_1 (by decide) ?_
  refine g_calls hC (st := []) (ctX7_isOutside x F a1 (10 : Int32) M) msX7_isOutside m_285 (by decide) rfl rfl (Nat.le_of_ble_eq_true rfl) dX7_isNotSeeable_3 (fun r1 => ?_)
  show GG x f 2 (Qm x f (φB M)) 6 [(0, .int a1), (1, .int a2)] [.int (bi r1)] M _
  refine g_ifB_ne hC 17 dX7_isNotSeeable_6 (by decide) ?_ ?_
  · refine g_iconst hC (v := (1 : Int32)) dX7_isNotSeeable_17 (by decide) ?_
    refine g_goto hC 22 dX7_isNotSeeable_18 (by decide) ?_
    exact g_zret hC hm rfl rfl dX7_isNotSeeable_22
  · refine g_iload_n hC 1 dX7_isNotSeeable_9 rfl rfl ?_
    refine g_iconst hC (v := (2 : Int32)) dX7_isNotSeeable_10 (by decide) ?_
    refine g_calls hC (st := []) (ctX7_isOutside x F a2 (2 : Int32) M) msX7_isOutside m_285 (by decide) rfl rfl (Nat.le_of_ble_eq_true rfl) dX7_isNotSeeable_11 (fun r2 => ?_)
    show GG x f 2 (Qm x f (φB M)) 14 [(0, .int a1), (1, .int a2)] [.int (bi r2)] M _
    refine g_ifB_eq hC 21 dX7_isNotSeeable_14 (by decide) ?_ ?_
    · refine g_iconst hC (v := (1 : Int32)) dX7_isNotSeeable_17 (by decide) ?_
      refine g_goto hC 22 dX7_isNotSeeable_18 (by decide) ?_
      exact g_zret hC hm rfl rfl dX7_isNotSeeable_22
    · refine g_iconst hC (v := (0 : Int32)) dX7_isNotSeeable_21 (by decide) ?_
      exact g_zret hC hm rfl rfl dX7_isNotSeeable_22
def sX7_read_L39 (F : Nat) (a1 : Int32) (J7 : Mem → Option (Int32 × Mem)) (J10 : Mem → Option (Int32 × Mem)) (rec13 : Int32 → Mem → Option (Int32 × Mem)) (p11 : Int32) (M12 : Mem) : Option (Int32 × Mem) :=
ib a1 4 (
(sX5_length F (28 + 1 + ix a1) M12).bind (fun r15 =>
if r15 ≤ (p11 + (1 : Int32)) then
(J7 M12)
else
(ib a1 4 (
(sX5_item F (28 + 1 + ix a1) p11 M12).bind (fun r17 =>
ib a1 4 (
(sX5_item F (28 + 1 + ix a1) (p11 + (1 : Int32)) M12).bind (fun r19 =>
(sX7_isNotSeeable F r17 r19 M12).bind (fun r20 =>
if r20 = true then
(J7 M12)
else
((sX4_isFull F M12).bind (fun r21 =>
if r21 = true then
(J10 M12)
else
((sX4_add F r17 r19 M12).bind (fun r22 =>
rec13 (p11 + (2 : Int32)) r22))))))))))))
def sX7_read (F : Nat) (a1 : Int32) (M : Mem) : Option (Int32 × Mem) :=
(sX7_isOutside F a1 (4 : Int32) M).bind (fun r1 =>
if r1 = true then
(some ((-2 : Int32), M))
else
(ib a1 4 (
(sX5_isLost F (28 + 1 + ix a1) M).bind (fun r3 =>
if r3 = true then
((sX7_finding F (1 : Int32) M).bind (fun r4 =>
some (r4.1, r4.2)))
else
((sX4_howMany F M).bind (fun r5 =>
nm (fun (M6 : Mem) =>
(sX4_howMany F M6).bind (fun r8 =>
some ((r8 - r5), M6))) (fun J7 =>
nm (fun (M9 : Mem) =>
J7 M9) (fun J10 =>
fx2 F (sX7_read_L39 F a1 J7 J10) (0 : Int32) M))))))))
theorem mvX7_read : MV yX7_read cX7_read 6 (some .int) 1 := ⟨⟨m_479, m_67, by decide, by decide, by decide⟩, m_477, m_478⟩
set_option maxHeartbeats 4000000 in
set_option maxRecDepth 100000 in
theorem ctX7_read (x : Wx) (F : Nat) (a1 : Int32) (M : Mem) : Ct x yX7_read cX7_read 6 (some .int) { frames := 2, cells := 0, slots := 0, locals := 42 } φIM [.ref (x.1 0), .int a1] M (sX7_read F a1 M) := by
  refine ct_of (by decide) (Nat.le_of_ble_eq_true rfl) (fun f hC hm => ?_)
  have hC : Cx x f "AnswersFirst" cX7_read 6 { frames := 2, cells := 0, slots := 0, locals := 42 } := hC
  show GG x f 6 (Qm x f φIM) 0 [(0, .ref (x.1 0)), (1, .int a1)] [] M _
  unfold sX7_read
  refine g_iload_n hC 1 dX7_read_0 rfl rfl ?_
  refine g_iconst hC (v := (4 : Int32)) dX7_read_1 (by decide) ?_
  refine g_calls hC (st := []) (ctX7_isOutside x F a1 (4 : Int32) M) msX7_isOutside m_285 (by decide) rfl rfl (Nat.le_of_ble_eq_true rfl) dX7_read_2 (fun r1 => ?_)
  show GG x f 6 (Qm x f φIM) 5 [(0, .ref (x.1 0)), (1, .int a1)] [.int (bi r1)] M _
  refine g_ifB_eq hC 11 dX7_read_5 (by decide) ?_ ?_
  · refine g_bipush hC (v := (-2 : Int32)) dX7_read_8 (by decide) ?_
    exact g_iret hC hm rfl dX7_read_10
  · refine g_aload_n hC 0 dX7_read_11 rfl rfl ?_
    refine g_getR hC cf7 (t := 28) rfl 10 (by decide) rfl m_254 dX7_read_12 ?_
    refine g_iload_n hC 1 dX7_read_15 rfl rfl ?_
    refine g_aald hC 13 rfl (by decide) rfl dX7_read_16 (fun hi2 => ?_)
    show GG x f 6 (Qm x f φIM) 17 [(0, .ref (x.1 0)), (1, .int a1)] [.ref (x.1 (28 + 1 + ix a1))] M _
    refine g_callv hC (st := []) (c := 5) rfl (by decide) (ka_S hi2) (ctX5_isLost x F (28 + 1 + ix a1) (ka_S hi2) M) mvX5_isLost m_480 (by decide) rfl rfl (Nat.le_of_ble_eq_true rfl) dX7_read_17 (fun r3 => ?_)
    show GG x f 6 (Qm x f φIM) 20 [(0, .ref (x.1 0)), (1, .int a1)] [.int (bi r3)] M _
    refine g_ifB_eq hC 29 dX7_read_20 (by decide) ?_ ?_
    · refine g_aload_n hC 0 dX7_read_23 rfl rfl ?_
      refine g_iconst hC (v := (1 : Int32)) dX7_read_24 (by decide) ?_
      refine g_callv hC (st := []) (c := 7) rfl (by decide) rfl (ctX7_finding x F (1 : Int32) M) mvX7_finding m_484 (by decide) rfl rfl (Nat.le_of_ble_eq_true rfl) dX7_read_25 (fun r4 => ?_)
      show GG x f 6 (Qm x f φIM) 28 [(0, .ref (x.1 0)), (1, .int a1)] [.int (r4.1)] r4.2 _
      exact g_iret hC hm rfl dX7_read_28
    · refine g_aload_n hC 0 dX7_read_29 rfl rfl ?_
      refine g_getR hC cf7 (t := 26) rfl 8 (by decide) rfl m_252 dX7_read_30 ?_
      refine g_callv hC (st := []) (c := 4) rfl (by decide) rfl (ctX4_howMany x F M) mvX4_howMany m_488 (by decide) rfl rfl (Nat.le_of_ble_eq_true rfl) dX7_read_33 (fun r5 => ?_)
      show GG x f 6 (Qm x f φIM) 36 [(0, .ref (x.1 0)), (1, .int a1)] [.int r5] M _
      refine g_istore_n hC (lv' := [(0, .ref (x.1 0)), (1, .int a1), (2, .int r5)]) [1, 2, 0] dX7_read_36 rfl (by decide) rfl ?_
      refine g_iconst hC (v := (0 : Int32)) dX7_read_37 (by decide) ?_
      refine g_istore_n hC (lv' := [(0, .ref (x.1 0)), (1, .int a1), (2, .int r5), (3, .int (0 : Int32))]) [1, 2, 3, 0] dX7_read_38 rfl (by decide) rfl ?_
      refine g_nm (fun (J7 : Mem → Option (Int32 × Mem)) => ∀ (M6 : Mem), GG x f 6 (Qm x f φIM) 120 [(0, .ref (x.1 0)), (2, .int r5)] [] M6 (J7 M6)) (fun M6 => ?_) (fun J7 hJ7 => ?_)
      · show GG x f 6 (Qm x f φIM) 120 [(0, .ref (x.1 0)), (2, .int r5)] [] M6 _
        refine g_aload_n hC 0 dX7_read_120 rfl rfl ?_
        refine g_getR hC cf7 (t := 26) rfl 8 (by decide) rfl m_252 dX7_read_121 ?_
        refine g_callv hC (st := []) (c := 4) rfl (by decide) rfl (ctX4_howMany x F M6) mvX4_howMany m_488 (by decide) rfl rfl (Nat.le_of_ble_eq_true rfl) dX7_read_124 (fun r8 => ?_)
        show GG x f 6 (Qm x f φIM) 127 [(0, .ref (x.1 0)), (2, .int r5)] [.int r8] M6 _
        refine g_iload_n hC 1 dX7_read_127 rfl rfl ?_
        refine g_isub hC dX7_read_128 ?_
        exact g_iret hC hm rfl dX7_read_129
      refine g_nm (fun (J10 : Mem → Option (Int32 × Mem)) => ∀ (M9 : Mem), GG x f 6 (Qm x f φIM) 100 [(0, .ref (x.1 0)), (2, .int r5)] [] M9 (J10 M9)) (fun M9 => ?_) (fun J10 hJ10 => ?_)
      · show GG x f 6 (Qm x f φIM) 100 [(0, .ref (x.1 0)), (2, .int r5)] [] M9 _
        refine g_goto hC 120 dX7_read_100 (by decide) ?_
        exact hJ7 M9
      refine g_fx2 (fun (p11 : Int32) (M12 : Mem) => [(0, .ref (x.1 0)), (1, .int a1), (2, .int r5), (3, .int p11)]) (fun (p11 : Int32) (M12 : Mem) => M12) (fun rec13 hrec13 p11 M12 => ?_) F _ _
      show GG x f 6 (Qm x f φIM) 39 [(0, .ref (x.1 0)), (1, .int a1), (2, .int r5), (3, .int p11)] [] M12 _
      unfold sX7_read_L39
      refine g_iload_n hC 3 dX7_read_39 rfl rfl ?_
      refine g_iconst hC (v := (1 : Int32)) dX7_read_40 (by decide) ?_
      refine g_iadd hC dX7_read_41 ?_
      refine g_aload_n hC 0 dX7_read_42 rfl rfl ?_
      refine g_getR hC cf7 (t := 28) rfl 10 (by decide) rfl m_254 dX7_read_43 ?_
      refine g_iload_n hC 1 dX7_read_46 rfl rfl ?_
      refine g_aald hC 13 rfl (by decide) rfl dX7_read_47 (fun hi14 => ?_)
      show GG x f 6 (Qm x f φIM) 48 [(0, .ref (x.1 0)), (1, .int a1), (2, .int r5), (3, .int p11)] [.ref (x.1 (28 + 1 + ix a1)), .int (p11 + (1 : Int32))] M12 _
      refine g_callv hC (st := [.int (p11 + (1 : Int32))]) (c := 5) rfl (by decide) (ka_S hi14) (ctX5_length x F (28 + 1 + ix a1) (ka_S hi14) M12) mvX5_length m_492 (by decide) rfl rfl (Nat.le_of_ble_eq_true rfl) dX7_read_48 (fun r15 => ?_)
      show GG x f 6 (Qm x f φIM) 51 [(0, .ref (x.1 0)), (1, .int a1), (2, .int r5), (3, .int p11)] [.int r15, .int (p11 + (1 : Int32))] M12 _
      refine g_icmp_ge hC 120 dX7_read_51 (by decide) ?_ ?_
      · refine g_lv (lv' := [(0, .ref (x.1 0)), (2, .int r5)]) [0, 2] rfl ?_
        exact hJ7 M12
      · refine g_aload_n hC 0 dX7_read_54 rfl rfl ?_
        refine g_getR hC cf7 (t := 28) rfl 10 (by decide) rfl m_254 dX7_read_55 ?_
        refine g_iload_n hC 1 dX7_read_58 rfl rfl ?_
        refine g_aald hC 13 rfl (by decide) rfl dX7_read_59 (fun hi16 => ?_)
        show GG x f 6 (Qm x f φIM) 60 [(0, .ref (x.1 0)), (1, .int a1), (2, .int r5), (3, .int p11)] [.ref (x.1 (28 + 1 + ix a1))] M12 _
        refine g_iload_n hC 3 dX7_read_60 rfl rfl ?_
        refine g_callv hC (st := []) (c := 5) rfl (by decide) (ka_S hi16) (ctX5_item x F (28 + 1 + ix a1) p11 (ka_S hi16) M12) mvX5_item m_496 (by decide) rfl rfl (Nat.le_of_ble_eq_true rfl) dX7_read_61 (fun r17 => ?_)
        show GG x f 6 (Qm x f φIM) 64 [(0, .ref (x.1 0)), (1, .int a1), (2, .int r5), (3, .int p11)] [.int r17] M12 _
        refine g_istore hC (lv' := [(0, .ref (x.1 0)), (1, .int a1), (2, .int r5), (3, .int p11), (4, .int r17)]) [1, 2, 3, 4, 0] dX7_read_64 (by decide) rfl ?_
        refine g_aload_n hC 0 dX7_read_66 rfl rfl ?_
        refine g_getR hC cf7 (t := 28) rfl 10 (by decide) rfl m_254 dX7_read_67 ?_
        refine g_iload_n hC 1 dX7_read_70 rfl rfl ?_
        refine g_aald hC 13 rfl (by decide) rfl dX7_read_71 (fun hi18 => ?_)
        show GG x f 6 (Qm x f φIM) 72 [(0, .ref (x.1 0)), (1, .int a1), (2, .int r5), (3, .int p11), (4, .int r17)] [.ref (x.1 (28 + 1 + ix a1))] M12 _
        refine g_iload_n hC 3 dX7_read_72 rfl rfl ?_
        refine g_iconst hC (v := (1 : Int32)) dX7_read_73 (by decide) ?_
        refine g_iadd hC dX7_read_74 ?_
        refine g_callv hC (st := []) (c := 5) rfl (by decide) (ka_S hi18) (ctX5_item x F (28 + 1 + ix a1) (p11 + (1 : Int32)) (ka_S hi18) M12) mvX5_item m_496 (by decide) rfl rfl (Nat.le_of_ble_eq_true rfl) dX7_read_75 (fun r19 => ?_)
        show GG x f 6 (Qm x f φIM) 78 [(0, .ref (x.1 0)), (1, .int a1), (2, .int r5), (3, .int p11), (4, .int r17)] [.int r19] M12 _
        refine g_istore hC (lv' := [(0, .ref (x.1 0)), (1, .int a1), (2, .int r5), (3, .int p11), (4, .int r17), (5, .int r19)]) [1, 2, 3, 4, 5, 0] dX7_read_78 (by decide) rfl ?_
        refine g_iload hC 4 dX7_read_80 rfl ?_
        refine g_iload hC 5 dX7_read_82 rfl ?_
        refine g_calls hC (st := []) (ctX7_isNotSeeable x F r17 r19 M12) msX7_isNotSeeable m_500 (by decide) rfl rfl (Nat.le_of_ble_eq_true rfl) dX7_read_84 (fun r20 => ?_)
        show GG x f 6 (Qm x f φIM) 87 [(0, .ref (x.1 0)), (1, .int a1), (2, .int r5), (3, .int p11), (4, .int r17), (5, .int r19)] [.int (bi r20)] M12 _
        refine g_ifB_ne hC 120 dX7_read_87 (by decide) ?_ ?_
        · refine g_lv (lv' := [(0, .ref (x.1 0)), (2, .int r5)]) [0, 2] rfl ?_
          exact hJ7 M12
        · refine g_aload_n hC 0 dX7_read_90 rfl rfl ?_
          refine g_getR hC cf7 (t := 26) rfl 8 (by decide) rfl m_252 dX7_read_91 ?_
          refine g_callv hC (st := []) (c := 4) rfl (by decide) rfl (ctX4_isFull x F M12) mvX4_isFull m_503 (by decide) rfl rfl (Nat.le_of_ble_eq_true rfl) dX7_read_94 (fun r21 => ?_)
          show GG x f 6 (Qm x f φIM) 97 [(0, .ref (x.1 0)), (1, .int a1), (2, .int r5), (3, .int p11), (4, .int r17), (5, .int r19)] [.int (bi r21)] M12 _
          refine g_ifB_eq hC 103 dX7_read_97 (by decide) ?_ ?_
          · refine g_lv (lv' := [(0, .ref (x.1 0)), (2, .int r5)]) [0, 2] rfl ?_
            exact hJ10 M12
          · refine g_aload_n hC 0 dX7_read_103 rfl rfl ?_
            refine g_getR hC cf7 (t := 26) rfl 8 (by decide) rfl m_252 dX7_read_104 ?_
            refine g_iload hC 4 dX7_read_107 rfl ?_
            refine g_iload hC 5 dX7_read_109 rfl ?_
            refine g_callv hC (st := []) (c := 4) rfl (by decide) rfl (ctX4_add x F r17 r19 M12) mvX4_add m_507 (by decide) rfl rfl (Nat.le_of_ble_eq_true rfl) dX7_read_111 (fun r22 => ?_)
            show GG x f 6 (Qm x f φIM) 114 [(0, .ref (x.1 0)), (1, .int a1), (2, .int r5), (3, .int p11), (4, .int r17), (5, .int r19)] [] r22 _
            refine g_iinc hC (q := 3) (v := (2 : Int32)) (lv' := [(0, .ref (x.1 0)), (1, .int a1), (2, .int r5), (3, .int (p11 + (2 : Int32)))]) [1, 2, 3, 0] dX7_read_114 rfl (by decide) (by decide) rfl ?_
            refine g_goto hC 39 dX7_read_117 (by decide) ?_
            exact hrec13 (p11 + (2 : Int32)) r22
def sX7_rowsNow (F : Nat) (M : Mem) : Option Mem :=
if (M 0 5) = 0 then
(some M)
else
(ib (0 : Int32) 3 (
ib (0 : Int32) 4 (
ib (3 : Int32) 4 (
(sX3_workOut F (8 + 1 + ix (0 : Int32)) (M 15 (ix (0 : Int32))) (M 15 (ix (3 : Int32))) M).bind (fun r2 =>
nm (st2 r2 0 5 (0 : Int32)) (fun M3 =>
some M3))))))
theorem mvX7_rowsNow : MV yX7_rowsNow cX7_rowsNow 1 (some (.object "AnswersFirst$Rows")) 0 := ⟨⟨m_518, m_67, by decide, by decide, by decide⟩, m_517, m_6⟩
set_option maxHeartbeats 4000000 in
set_option maxRecDepth 100000 in
theorem ctX7_rowsNow (x : Wx) (F : Nat) (M : Mem) : Ct x yX7_rowsNow cX7_rowsNow 1 (some (.object "AnswersFirst$Rows")) { frames := 3, cells := 0, slots := 0, locals := 73 } (φR x 17) [.ref (x.1 0)] M (sX7_rowsNow F M) := by
  refine ct_of (by decide) (Nat.le_of_ble_eq_true rfl) (fun f hC hm => ?_)
  have hC : Cx x f "AnswersFirst" cX7_rowsNow 1 { frames := 3, cells := 0, slots := 0, locals := 73 } := hC
  show GG x f 1 (Qm x f (φR x 17)) 0 [(0, .ref (x.1 0))] [] M _
  unfold sX7_rowsNow
  refine g_aload_n hC 0 dX7_rowsNow_0 rfl rfl ?_
  refine g_getI hC cf7 rfl 5 (by decide) rfl m_249 dX7_rowsNow_1 ?_
  refine g_if_eq hC 37 dX7_rowsNow_4 (by decide) ?_ ?_
  · refine g_aload_n hC 0 dX7_rowsNow_37 rfl rfl ?_
    refine g_getR hC cf7 (t := 17) rfl 4 (by decide) rfl m_248 dX7_rowsNow_38 ?_
    exact g_aret hC hm rfl dX7_rowsNow_41
  · refine g_aload_n hC 0 dX7_rowsNow_7 rfl rfl ?_
    refine g_getR hC cf7 (t := 17) rfl 4 (by decide) rfl m_248 dX7_rowsNow_8 ?_
    refine g_aload_n hC 0 dX7_rowsNow_11 rfl rfl ?_
    refine g_getR hC cf7 (t := 8) rfl 1 (by decide) rfl m_245 dX7_rowsNow_12 ?_
    refine g_iconst hC (v := (0 : Int32)) dX7_rowsNow_15 (by decide) ?_
    refine g_aald hC 12 rfl (by decide) rfl dX7_rowsNow_16 (fun hi1 => ?_)
    show GG x f 1 (Qm x f (φR x 17)) 17 [(0, .ref (x.1 0))] [.ref (x.1 (8 + 1 + ix (0 : Int32))), .ref (x.1 17)] M _
    refine g_aload_n hC 0 dX7_rowsNow_17 rfl rfl ?_
    refine g_getR hC cf7 (t := 15) rfl 2 (by decide) rfl m_246 dX7_rowsNow_18 ?_
    refine g_iconst hC (v := (0 : Int32)) dX7_rowsNow_21 (by decide) ?_
    refine g_iald hC rfl rfl dX7_rowsNow_22 ?_
    refine g_aload_n hC 0 dX7_rowsNow_23 rfl rfl ?_
    refine g_getR hC cf7 (t := 15) rfl 2 (by decide) rfl m_246 dX7_rowsNow_24 ?_
    refine g_iconst hC (v := (3 : Int32)) dX7_rowsNow_27 (by decide) ?_
    refine g_iald hC rfl rfl dX7_rowsNow_28 ?_
    refine g_callv hC (st := []) (c := 3) rfl (by decide) rfl (ctX3_workOut x F (8 + 1 + ix (0 : Int32)) (M 15 (ix (0 : Int32))) (M 15 (ix (3 : Int32))) (ka_E hi1) M) mvX3_workOut m_519 (by decide) rfl rfl (Nat.le_of_ble_eq_true rfl) dX7_rowsNow_29 (fun r2 => ?_)
    show GG x f 1 (Qm x f (φR x 17)) 32 [(0, .ref (x.1 0))] [] r2 _
    refine g_aload_n hC 0 dX7_rowsNow_32 rfl rfl ?_
    refine g_iconst hC (v := (0 : Int32)) dX7_rowsNow_33 (by decide) ?_
    refine g_put hC cf7 rfl 5 (by decide) rfl m_249 rfl rfl rfl dX7_rowsNow_34 (fun M3 => ?_)
    show GG x f 1 (Qm x f (φR x 17)) 37 [(0, .ref (x.1 0))] [] M3 _
    refine g_aload_n hC 0 dX7_rowsNow_37 rfl rfl ?_
    refine g_getR hC cf7 (t := 17) rfl 4 (by decide) rfl m_248 dX7_rowsNow_38 ?_
    exact g_aret hC hm rfl dX7_rowsNow_41
def sX7_rows (F : Nat) (a1 : Int32) (M : Mem) : Option (Int32 × Mem) :=
if a1 < (-1 : Int32) then
(some ((-2 : Int32), M))
else
(if a1 < (1024 : Int32) then
(if ¬ a1 = (-1 : Int32) then
((sX7_rowsNow F M).bind (fun r1 =>
(sX3_nth F a1 r1).bind (fun r2 =>
some (r2, r1))))
else
((sX7_rowsNow F M).bind (fun r3 =>
(sX3_howMany F r3).bind (fun r4 =>
some (r4, r3)))))
else
(some ((-2 : Int32), M)))
theorem mvX7_rows : MV yX7_rows cX7_rows 2 (some .int) 1 := ⟨⟨m_514, m_67, by decide, by decide, by decide⟩, m_512, m_513⟩
set_option maxHeartbeats 4000000 in
set_option maxRecDepth 100000 in
theorem ctX7_rows (x : Wx) (F : Nat) (a1 : Int32) (M : Mem) : Ct x yX7_rows cX7_rows 2 (some .int) { frames := 4, cells := 0, slots := 0, locals := 93 } φIM [.ref (x.1 0), .int a1] M (sX7_rows F a1 M) := by
  refine ct_of (by decide) (Nat.le_of_ble_eq_true rfl) (fun f hC hm => ?_)
  have hC : Cx x f "AnswersFirst" cX7_rows 2 { frames := 4, cells := 0, slots := 0, locals := 93 } := hC
  show GG x f 2 (Qm x f φIM) 0 [(0, .ref (x.1 0)), (1, .int a1)] [] M _
  unfold sX7_rows
  refine g_iload_n hC 1 dX7_rows_0 rfl rfl ?_
  refine g_iconst hC (v := (-1 : Int32)) dX7_rows_1 (by decide) ?_
  refine g_icmp_lt hC 12 dX7_rows_2 (by decide) ?_ ?_
  · refine g_bipush hC (v := (-2 : Int32)) dX7_rows_12 (by decide) ?_
    exact g_iret hC hm rfl dX7_rows_14
  · refine g_iload_n hC 1 dX7_rows_5 rfl rfl ?_
    refine g_sipush hC (v := (1024 : Int32)) dX7_rows_6 (by decide) ?_
    refine g_icmp_lt hC 15 dX7_rows_9 (by decide) ?_ ?_
    · refine g_iload_n hC 1 dX7_rows_15 rfl rfl ?_
      refine g_iconst hC (v := (-1 : Int32)) dX7_rows_16 (by decide) ?_
      refine g_icmp_ne hC 30 dX7_rows_17 (by decide) ?_ ?_
      · refine g_aload_n hC 0 dX7_rows_30 rfl rfl ?_
        refine g_callv hC (st := []) (c := 7) rfl (by decide) rfl (ctX7_rowsNow x F M) mvX7_rowsNow m_515 (by decide) rfl rfl (Nat.le_of_ble_eq_true rfl) dX7_rows_31 (fun r1 => ?_)
        show GG x f 2 (Qm x f φIM) 34 [(0, .ref (x.1 0)), (1, .int a1)] [.ref (x.1 17)] r1 _
        refine g_iload_n hC 1 dX7_rows_34 rfl rfl ?_
        refine g_callv hC (st := []) (c := 3) rfl (by decide) rfl (ctX3_nth x F a1 r1) mvX3_nth m_551 (by decide) rfl rfl (Nat.le_of_ble_eq_true rfl) dX7_rows_35 (fun r2 => ?_)
        show GG x f 2 (Qm x f φIM) 38 [(0, .ref (x.1 0)), (1, .int a1)] [.int r2] r1 _
        exact g_iret hC hm rfl dX7_rows_38
      · refine g_aload_n hC 0 dX7_rows_20 rfl rfl ?_
        refine g_callv hC (st := []) (c := 7) rfl (by decide) rfl (ctX7_rowsNow x F M) mvX7_rowsNow m_515 (by decide) rfl rfl (Nat.le_of_ble_eq_true rfl) dX7_rows_21 (fun r3 => ?_)
        show GG x f 2 (Qm x f φIM) 24 [(0, .ref (x.1 0)), (1, .int a1)] [.ref (x.1 17)] r3 _
        refine g_callv hC (st := []) (c := 3) rfl (by decide) rfl (ctX3_howMany x F r3) mvX3_howMany m_547 (by decide) rfl rfl (Nat.le_of_ble_eq_true rfl) dX7_rows_24 (fun r4 => ?_)
        show GG x f 2 (Qm x f φIM) 27 [(0, .ref (x.1 0)), (1, .int a1)] [.int r4] r3 _
        refine g_goto hC 38 dX7_rows_27 (by decide) ?_
        exact g_iret hC hm rfl dX7_rows_38
    · refine g_bipush hC (v := (-2 : Int32)) dX7_rows_12 (by decide) ?_
      exact g_iret hC hm rfl dX7_rows_14
def sX7_sure (F : Nat) (a1 : Int32) (M : Mem) : Option (Int32 × Mem) :=
(sX7_isOutside F a1 (2 : Int32) M).bind (fun r1 =>
if r1 = true then
(some ((-2 : Int32), M))
else
(if ¬ a1 = (1 : Int32) then
((sX7_rowsNow F M).bind (fun r2 =>
(sX3_inNone F r2).bind (fun r3 =>
some (r3, r2))))
else
((sX7_rowsNow F M).bind (fun r4 =>
(sX3_inAll F r4).bind (fun r5 =>
some (r5, r4))))))
theorem mvX7_sure : MV yX7_sure cX7_sure 2 (some .int) 1 := ⟨⟨m_558, m_67, by decide, by decide, by decide⟩, m_556, m_557⟩
set_option maxHeartbeats 4000000 in
set_option maxRecDepth 100000 in
theorem ctX7_sure (x : Wx) (F : Nat) (a1 : Int32) (M : Mem) : Ct x yX7_sure cX7_sure 2 (some .int) { frames := 4, cells := 0, slots := 0, locals := 93 } φIM [.ref (x.1 0), .int a1] M (sX7_sure F a1 M) := by
  refine ct_of (by decide) (Nat.le_of_ble_eq_true rfl) (fun f hC hm => ?_)
  have hC : Cx x f "AnswersFirst" cX7_sure 2 { frames := 4, cells := 0, slots := 0, locals := 93 } := hC
  show GG x f 2 (Qm x f φIM) 0 [(0, .ref (x.1 0)), (1, .int a1)] [] M _
  unfold sX7_sure
  refine g_iload_n hC 1 dX7_sure_0 rfl rfl ?_
  refine g_iconst hC (v := (2 : Int32)) dX7_sure_1 (by decide) ?_
  refine g_calls hC (st := []) (ctX7_isOutside x F a1 (2 : Int32) M) msX7_isOutside m_285 (by decide) rfl rfl (Nat.le_of_ble_eq_true rfl) dX7_sure_2 (fun r1 => ?_)
  show GG x f 2 (Qm x f φIM) 5 [(0, .ref (x.1 0)), (1, .int a1)] [.int (bi r1)] M _
  refine g_ifB_eq hC 11 dX7_sure_5 (by decide) ?_ ?_
  · refine g_bipush hC (v := (-2 : Int32)) dX7_sure_8 (by decide) ?_
    exact g_iret hC hm rfl dX7_sure_10
  · refine g_iload_n hC 1 dX7_sure_11 rfl rfl ?_
    refine g_iconst hC (v := (1 : Int32)) dX7_sure_12 (by decide) ?_
    refine g_icmp_ne hC 26 dX7_sure_13 (by decide) ?_ ?_
    · refine g_aload_n hC 0 dX7_sure_26 rfl rfl ?_
      refine g_callv hC (st := []) (c := 7) rfl (by decide) rfl (ctX7_rowsNow x F M) mvX7_rowsNow m_515 (by decide) rfl rfl (Nat.le_of_ble_eq_true rfl) dX7_sure_27 (fun r2 => ?_)
      show GG x f 2 (Qm x f φIM) 30 [(0, .ref (x.1 0)), (1, .int a1)] [.ref (x.1 17)] r2 _
      refine g_callv hC (st := []) (c := 3) rfl (by decide) rfl (ctX3_inNone x F r2) mvX3_inNone m_563 (by decide) rfl rfl (Nat.le_of_ble_eq_true rfl) dX7_sure_30 (fun r3 => ?_)
      show GG x f 2 (Qm x f φIM) 33 [(0, .ref (x.1 0)), (1, .int a1)] [.int r3] r2 _
      exact g_iret hC hm rfl dX7_sure_33
    · refine g_aload_n hC 0 dX7_sure_16 rfl rfl ?_
      refine g_callv hC (st := []) (c := 7) rfl (by decide) rfl (ctX7_rowsNow x F M) mvX7_rowsNow m_515 (by decide) rfl rfl (Nat.le_of_ble_eq_true rfl) dX7_sure_17 (fun r4 => ?_)
      show GG x f 2 (Qm x f φIM) 20 [(0, .ref (x.1 0)), (1, .int a1)] [.ref (x.1 17)] r4 _
      refine g_callv hC (st := []) (c := 3) rfl (by decide) rfl (ctX3_inAll x F r4) mvX3_inAll m_559 (by decide) rfl rfl (Nat.le_of_ble_eq_true rfl) dX7_sure_20 (fun r5 => ?_)
      show GG x f 2 (Qm x f φIM) 23 [(0, .ref (x.1 0)), (1, .int a1)] [.int r5] r4 _
      refine g_goto hC 33 dX7_sure_23 (by decide) ?_
      exact g_iret hC hm rfl dX7_sure_33
def sX7_cannot (F : Nat) (a1 : Int32) (M : Mem) : Option (Int32 × Mem) :=
(sX7_isOutside F a1 (2 : Int32) M).bind (fun r1 =>
if r1 = true then
(some ((-2 : Int32), M))
else
((sX7_rowsNow F M).bind (fun r2 =>
(sX3_fewestClashing F r2).bind (fun r3 =>
if a1 = (1 : Int32) then
(some (r3.1, r3.2))
else
(if ¬ r3.1 = (-1 : Int32) then
((sJ6_bitCount_0f7a4 F r3.1 r3.2).bind (fun r4 =>
some (r4, r3.2)))
else
(some (r3.1, r3.2)))))))
theorem mvX7_cannot : MV yX7_cannot cX7_cannot 3 (some .int) 1 := ⟨⟨m_570, m_67, by decide, by decide, by decide⟩, m_568, m_569⟩
set_option maxHeartbeats 4000000 in
set_option maxRecDepth 100000 in
theorem ctX7_cannot (x : Wx) (F : Nat) (a1 : Int32) (M : Mem) : Ct x yX7_cannot cX7_cannot 3 (some .int) { frames := 4, cells := 0, slots := 0, locals := 93 } φIM [.ref (x.1 0), .int a1] M (sX7_cannot F a1 M) := by
  refine ct_of (by decide) (Nat.le_of_ble_eq_true rfl) (fun f hC hm => ?_)
  have hC : Cx x f "AnswersFirst" cX7_cannot 3 { frames := 4, cells := 0, slots := 0, locals := 93 } := hC
  show GG x f 3 (Qm x f φIM) 0 [(0, .ref (x.1 0)), (1, .int a1)] [] M _
  unfold sX7_cannot
  refine g_iload_n hC 1 dX7_cannot_0 rfl rfl ?_
  refine g_iconst hC (v := (2 : Int32)) dX7_cannot_1 (by decide) ?_
  refine g_calls hC (st := []) (ctX7_isOutside x F a1 (2 : Int32) M) msX7_isOutside m_285 (by decide) rfl rfl (Nat.le_of_ble_eq_true rfl) dX7_cannot_2 (fun r1 => ?_)
  show GG x f 3 (Qm x f φIM) 5 [(0, .ref (x.1 0)), (1, .int a1)] [.int (bi r1)] M _
  refine g_ifB_eq hC 11 dX7_cannot_5 (by decide) ?_ ?_
  · refine g_bipush hC (v := (-2 : Int32)) dX7_cannot_8 (by decide) ?_
    exact g_iret hC hm rfl dX7_cannot_10
  · refine g_aload_n hC 0 dX7_cannot_11 rfl rfl ?_
    refine g_callv hC (st := []) (c := 7) rfl (by decide) rfl (ctX7_rowsNow x F M) mvX7_rowsNow m_515 (by decide) rfl rfl (Nat.le_of_ble_eq_true rfl) dX7_cannot_12 (fun r2 => ?_)
    show GG x f 3 (Qm x f φIM) 15 [(0, .ref (x.1 0)), (1, .int a1)] [.ref (x.1 17)] r2 _
    refine g_callv hC (st := []) (c := 3) rfl (by decide) rfl (ctX3_fewestClashing x F r2) mvX3_fewestClashing m_571 (by decide) rfl rfl (Nat.le_of_ble_eq_true rfl) dX7_cannot_15 (fun r3 => ?_)
    show GG x f 3 (Qm x f φIM) 18 [(0, .ref (x.1 0)), (1, .int a1)] [.int (r3.1)] r3.2 _
    refine g_istore_n hC (lv' := [(1, .int a1), (2, .int (r3.1))]) [2, 0] dX7_cannot_18 rfl (by decide) rfl ?_
    refine g_iload_n hC 0 dX7_cannot_19 rfl rfl ?_
    refine g_iconst hC (v := (1 : Int32)) dX7_cannot_20 (by decide) ?_
    refine g_icmp_eq hC 29 dX7_cannot_21 (by decide) ?_ ?_
    · refine g_iload_n hC 1 dX7_cannot_29 rfl rfl ?_
      refine g_goto hC 37 dX7_cannot_30 (by decide) ?_
      exact g_iret hC hm rfl dX7_cannot_37
    · refine g_iload_n hC 1 dX7_cannot_24 rfl rfl ?_
      refine g_iconst hC (v := (-1 : Int32)) dX7_cannot_25 (by decide) ?_
      refine g_icmp_ne hC 33 dX7_cannot_26 (by decide) ?_ ?_
      · refine g_iload_n hC 1 dX7_cannot_33 rfl rfl ?_
        refine g_calls hC (st := []) (ctJ6_bitCount_0f7a4 x F r3.1 r3.2) msJ6_bitCount_0f7a4 m_589 (by decide) rfl rfl (Nat.le_of_ble_eq_true rfl) dX7_cannot_34 (fun r4 => ?_)
        show GG x f 3 (Qm x f φIM) 37 [(1, .int a1), (2, .int (r3.1))] [.int r4] r3.2 _
        exact g_iret hC hm rfl dX7_cannot_37
      · refine g_iload_n hC 1 dX7_cannot_29 rfl rfl ?_
        refine g_goto hC 37 dX7_cannot_30 (by decide) ?_
        exact g_iret hC hm rfl dX7_cannot_37
def sX7_freed (F : Nat) (a1 : Int32) (M : Mem) : Option (Int32 × Mem) :=
(sX7_isOutside F a1 (2 : Int32) M).bind (fun r1 =>
if r1 = true then
(some ((-2 : Int32), M))
else
((sX7_rowsNow F M).bind (fun r2 =>
(sX3_fewestBroken F r2).bind (fun r3 =>
if ¬ a1 = (1 : Int32) then
((sJ6_bitCount_0f7a4 F r3 r2).bind (fun r4 =>
some (r4, r2)))
else
(some (r3, r2))))))
theorem mvX7_freed : MV yX7_freed cX7_freed 3 (some .int) 1 := ⟨⟨m_593, m_67, by decide, by decide, by decide⟩, m_591, m_592⟩
set_option maxHeartbeats 4000000 in
set_option maxRecDepth 100000 in
theorem ctX7_freed (x : Wx) (F : Nat) (a1 : Int32) (M : Mem) : Ct x yX7_freed cX7_freed 3 (some .int) { frames := 4, cells := 0, slots := 0, locals := 93 } φIM [.ref (x.1 0), .int a1] M (sX7_freed F a1 M) := by
  refine ct_of (by decide) (Nat.le_of_ble_eq_true rfl) (fun f hC hm => ?_)
  have hC : Cx x f "AnswersFirst" cX7_freed 3 { frames := 4, cells := 0, slots := 0, locals := 93 } := hC
  show GG x f 3 (Qm x f φIM) 0 [(0, .ref (x.1 0)), (1, .int a1)] [] M _
  unfold sX7_freed
  refine g_iload_n hC 1 dX7_freed_0 rfl rfl ?_
  refine g_iconst hC (v := (2 : Int32)) dX7_freed_1 (by decide) ?_
  refine g_calls hC (st := []) (ctX7_isOutside x F a1 (2 : Int32) M) msX7_isOutside m_285 (by decide) rfl rfl (Nat.le_of_ble_eq_true rfl) dX7_freed_2 (fun r1 => ?_)
  show GG x f 3 (Qm x f φIM) 5 [(0, .ref (x.1 0)), (1, .int a1)] [.int (bi r1)] M _
  refine g_ifB_eq hC 11 dX7_freed_5 (by decide) ?_ ?_
  · refine g_bipush hC (v := (-2 : Int32)) dX7_freed_8 (by decide) ?_
    exact g_iret hC hm rfl dX7_freed_10
  · refine g_aload_n hC 0 dX7_freed_11 rfl rfl ?_
    refine g_callv hC (st := []) (c := 7) rfl (by decide) rfl (ctX7_rowsNow x F M) mvX7_rowsNow m_515 (by decide) rfl rfl (Nat.le_of_ble_eq_true rfl) dX7_freed_12 (fun r2 => ?_)
    show GG x f 3 (Qm x f φIM) 15 [(0, .ref (x.1 0)), (1, .int a1)] [.ref (x.1 17)] r2 _
    refine g_callv hC (st := []) (c := 3) rfl (by decide) rfl (ctX3_fewestBroken x F r2) mvX3_fewestBroken m_594 (by decide) rfl rfl (Nat.le_of_ble_eq_true rfl) dX7_freed_15 (fun r3 => ?_)
    show GG x f 3 (Qm x f φIM) 18 [(0, .ref (x.1 0)), (1, .int a1)] [.int r3] r2 _
    refine g_istore_n hC (lv' := [(1, .int a1), (2, .int r3)]) [2, 0] dX7_freed_18 rfl (by decide) rfl ?_
    refine g_iload_n hC 0 dX7_freed_19 rfl rfl ?_
    refine g_iconst hC (v := (1 : Int32)) dX7_freed_20 (by decide) ?_
    refine g_icmp_ne hC 28 dX7_freed_21 (by decide) ?_ ?_
    · refine g_iload_n hC 1 dX7_freed_28 rfl rfl ?_
      refine g_calls hC (st := []) (ctJ6_bitCount_0f7a4 x F r3 r2) msJ6_bitCount_0f7a4 m_589 (by decide) rfl rfl (Nat.le_of_ble_eq_true rfl) dX7_freed_29 (fun r4 => ?_)
      show GG x f 3 (Qm x f φIM) 32 [(1, .int a1), (2, .int r3)] [.int r4] r2 _
      exact g_iret hC hm rfl dX7_freed_32
    · refine g_iload_n hC 1 dX7_freed_24 rfl rfl ?_
      refine g_goto hC 32 dX7_freed_25 (by decide) ?_
      exact g_iret hC hm rfl dX7_freed_32
def sX7_isNoRow (F : Nat) (a1 : Int32) (M : Mem) : Option Bool :=
(sX7_isOutside F a1 (1024 : Int32) M).bind (fun r1 =>
some r1)
theorem msX7_isNoRow : MS yX7_isNoRow cX7_isNoRow 1 (some .boolean) 1 := ⟨⟨m_604, m_67, by decide, by decide, by decide⟩, m_603⟩
set_option maxHeartbeats 4000000 in
set_option maxRecDepth 100000 in
theorem ctX7_isNoRow (x : Wx) (F : Nat) (a1 : Int32) (M : Mem) : Ct x yX7_isNoRow cX7_isNoRow 1 (some .boolean) { frames := 1, cells := 0, slots := 0, locals := 21 } (φB M) [.int a1] M (sX7_isNoRow F a1 M) := by
  refine ct_of (by decide) (Nat.le_of_ble_eq_true rfl) (fun f hC hm => ?_)
  have hC : Cx x f "AnswersFirst" cX7_isNoRow 1 { frames := 1, cells := 0, slots := 0, locals := 21 } := hC
  show GG x f 1 (Qm x f (φB M)) 0 [(0, .int a1)] [] M _
  unfold sX7_isNoRow
  refine g_iload_n hC 0 dX7_isNoRow_0 rfl rfl ?_
  refine g_sipush hC (v := (1024 : Int32)) dX7_isNoRow_1 (by decide) ?_
  refine g_calls hC (st := []) (ctX7_isOutside x F a1 (1024 : Int32) M) msX7_isOutside m_285 (by decide) rfl rfl (Nat.le_of_ble_eq_true rfl) dX7_isNoRow_4 (fun r1 => ?_)
  show GG x f 1 (Qm x f (φB M)) 7 [(0, .int a1)] [.int (bi r1)] M _
  exact g_zret hC hm (bi_nar _) rfl dX7_isNoRow_7
def sX7_broken (F : Nat) (a1 : Int32) (M : Mem) : Option (Int32 × Mem) :=
(sX7_isNoRow F a1 M).bind (fun r1 =>
if r1 = true then
(some ((-2 : Int32), M))
else
((sX7_rowsNow F M).bind (fun r2 =>
(sX3_brokenBy F a1 r2).bind (fun r3 =>
some (r3, r2)))))
theorem mvX7_broken : MV yX7_broken cX7_broken 2 (some .int) 1 := ⟨⟨m_601, m_67, by decide, by decide, by decide⟩, m_599, m_600⟩
set_option maxHeartbeats 4000000 in
set_option maxRecDepth 100000 in
theorem ctX7_broken (x : Wx) (F : Nat) (a1 : Int32) (M : Mem) : Ct x yX7_broken cX7_broken 2 (some .int) { frames := 4, cells := 0, slots := 0, locals := 93 } φIM [.ref (x.1 0), .int a1] M (sX7_broken F a1 M) := by
  refine ct_of (by decide) (Nat.le_of_ble_eq_true rfl) (fun f hC hm => ?_)
  have hC : Cx x f "AnswersFirst" cX7_broken 2 { frames := 4, cells := 0, slots := 0, locals := 93 } := hC
  show GG x f 2 (Qm x f φIM) 0 [(0, .ref (x.1 0)), (1, .int a1)] [] M _
  unfold sX7_broken
  refine g_iload_n hC 1 dX7_broken_0 rfl rfl ?_
  refine g_calls hC (st := []) (ctX7_isNoRow x F a1 M) msX7_isNoRow m_602 (by decide) rfl rfl (Nat.le_of_ble_eq_true rfl) dX7_broken_1 (fun r1 => ?_)
  show GG x f 2 (Qm x f φIM) 4 [(0, .ref (x.1 0)), (1, .int a1)] [.int (bi r1)] M _
  refine g_ifB_eq hC 10 dX7_broken_4 (by decide) ?_ ?_
  · refine g_bipush hC (v := (-2 : Int32)) dX7_broken_7 (by decide) ?_
    exact g_iret hC hm rfl dX7_broken_9
  · refine g_aload_n hC 0 dX7_broken_10 rfl rfl ?_
    refine g_callv hC (st := []) (c := 7) rfl (by decide) rfl (ctX7_rowsNow x F M) mvX7_rowsNow m_515 (by decide) rfl rfl (Nat.le_of_ble_eq_true rfl) dX7_broken_11 (fun r2 => ?_)
    show GG x f 2 (Qm x f φIM) 14 [(0, .ref (x.1 0)), (1, .int a1)] [.ref (x.1 17)] r2 _
    refine g_iload_n hC 1 dX7_broken_14 rfl rfl ?_
    refine g_callv hC (st := []) (c := 3) rfl (by decide) rfl (ctX3_brokenBy x F a1 r2) mvX3_brokenBy m_605 (by decide) rfl rfl (Nat.le_of_ble_eq_true rfl) dX7_broken_15 (fun r3 => ?_)
    show GG x f 2 (Qm x f φIM) 18 [(0, .ref (x.1 0)), (1, .int a1)] [.int r3] r2 _
    exact g_iret hC hm rfl dX7_broken_18
def sX7_nearest (F : Nat) (a1 : Int32) (M : Mem) : Option (Int32 × Mem) :=
(sX7_isNoRow F a1 M).bind (fun r1 =>
if r1 = true then
(some ((-2 : Int32), M))
else
((sX7_rowsNow F M).bind (fun r2 =>
(sX3_closestTo F a1 r2).bind (fun r3 =>
some (r3, r2)))))
theorem mvX7_nearest : MV yX7_nearest cX7_nearest 2 (some .int) 1 := ⟨⟨m_612, m_67, by decide, by decide, by decide⟩, m_610, m_611⟩
set_option maxHeartbeats 4000000 in
set_option maxRecDepth 100000 in
theorem ctX7_nearest (x : Wx) (F : Nat) (a1 : Int32) (M : Mem) : Ct x yX7_nearest cX7_nearest 2 (some .int) { frames := 4, cells := 0, slots := 0, locals := 93 } φIM [.ref (x.1 0), .int a1] M (sX7_nearest F a1 M) := by
  refine ct_of (by decide) (Nat.le_of_ble_eq_true rfl) (fun f hC hm => ?_)
  have hC : Cx x f "AnswersFirst" cX7_nearest 2 { frames := 4, cells := 0, slots := 0, locals := 93 } := hC
  show GG x f 2 (Qm x f φIM) 0 [(0, .ref (x.1 0)), (1, .int a1)] [] M _
  unfold sX7_nearest
  refine g_iload_n hC 1 dX7_nearest_0 rfl rfl ?_
  refine g_calls hC (st := []) (ctX7_isNoRow x F a1 M) msX7_isNoRow m_602 (by decide) rfl rfl (Nat.le_of_ble_eq_true rfl) dX7_nearest_1 (fun r1 => ?_)
  show GG x f 2 (Qm x f φIM) 4 [(0, .ref (x.1 0)), (1, .int a1)] [.int (bi r1)] M _
  refine g_ifB_eq hC 10 dX7_nearest_4 (by decide) ?_ ?_
  · refine g_bipush hC (v := (-2 : Int32)) dX7_nearest_7 (by decide) ?_
    exact g_iret hC hm rfl dX7_nearest_9
  · refine g_aload_n hC 0 dX7_nearest_10 rfl rfl ?_
    refine g_callv hC (st := []) (c := 7) rfl (by decide) rfl (ctX7_rowsNow x F M) mvX7_rowsNow m_515 (by decide) rfl rfl (Nat.le_of_ble_eq_true rfl) dX7_nearest_11 (fun r2 => ?_)
    show GG x f 2 (Qm x f φIM) 14 [(0, .ref (x.1 0)), (1, .int a1)] [.ref (x.1 17)] r2 _
    refine g_iload_n hC 1 dX7_nearest_14 rfl rfl ?_
    refine g_callv hC (st := []) (c := 3) rfl (by decide) rfl (ctX3_closestTo x F a1 r2) mvX3_closestTo m_613 (by decide) rfl rfl (Nat.le_of_ble_eq_true rfl) dX7_nearest_15 (fun r3 => ?_)
    show GG x f 2 (Qm x f φIM) 18 [(0, .ref (x.1 0)), (1, .int a1)] [.int r3] r2 _
    exact g_iret hC hm rfl dX7_nearest_18
def sX7_steps (F : Nat) (a1 : Int32) (a2 : Int32) (M : Mem) : Option (Int32 × Mem) :=
(sX7_isNoRow F a1 M).bind (fun r1 =>
if r1 = true then
(some ((-2 : Int32), M))
else
(if a2 < 0 then
(some ((-2 : Int32), M))
else
(if a2 ≤ (99 : Int32) then
((sX7_rowsNow F M).bind (fun r2 =>
(sX3_behindSteps F a1 a2 r2).bind (fun r3 =>
some (r3, r2))))
else
(some ((-2 : Int32), M)))))
theorem mvX7_steps : MV yX7_steps cX7_steps 3 (some .int) 2 := ⟨⟨m_620, m_67, by decide, by decide, by decide⟩, m_618, m_619⟩
set_option maxHeartbeats 4000000 in
set_option maxRecDepth 100000 in
theorem ctX7_steps (x : Wx) (F : Nat) (a1 : Int32) (a2 : Int32) (M : Mem) : Ct x yX7_steps cX7_steps 3 (some .int) { frames := 4, cells := 0, slots := 0, locals := 93 } φIM [.ref (x.1 0), .int a1, .int a2] M (sX7_steps F a1 a2 M) := by
  refine ct_of (by decide) (Nat.le_of_ble_eq_true rfl) (fun f hC hm => ?_)
  have hC : Cx x f "AnswersFirst" cX7_steps 3 { frames := 4, cells := 0, slots := 0, locals := 93 } := hC
  show GG x f 3 (Qm x f φIM) 0 [(0, .ref (x.1 0)), (1, .int a1), (2, .int a2)] [] M _
  unfold sX7_steps
  refine g_iload_n hC 1 dX7_steps_0 rfl rfl ?_
  refine g_calls hC (st := []) (ctX7_isNoRow x F a1 M) msX7_isNoRow m_602 (by decide) rfl rfl (Nat.le_of_ble_eq_true rfl) dX7_steps_1 (fun r1 => ?_)
  show GG x f 3 (Qm x f φIM) 4 [(0, .ref (x.1 0)), (1, .int a1), (2, .int a2)] [.int (bi r1)] M _
  refine g_ifB_ne hC 17 dX7_steps_4 (by decide) ?_ ?_
  · refine g_bipush hC (v := (-2 : Int32)) dX7_steps_17 (by decide) ?_
    exact g_iret hC hm rfl dX7_steps_19
  · refine g_iload_n hC 2 dX7_steps_7 rfl rfl ?_
    refine g_if_lt hC 17 dX7_steps_8 (by decide) ?_ ?_
    · refine g_bipush hC (v := (-2 : Int32)) dX7_steps_17 (by decide) ?_
      exact g_iret hC hm rfl dX7_steps_19
    · refine g_iload_n hC 2 dX7_steps_11 rfl rfl ?_
      refine g_bipush hC (v := (99 : Int32)) dX7_steps_12 (by decide) ?_
      refine g_icmp_le hC 20 dX7_steps_14 (by decide) ?_ ?_
      · refine g_aload_n hC 0 dX7_steps_20 rfl rfl ?_
        refine g_callv hC (st := []) (c := 7) rfl (by decide) rfl (ctX7_rowsNow x F M) mvX7_rowsNow m_515 (by decide) rfl rfl (Nat.le_of_ble_eq_true rfl) dX7_steps_21 (fun r2 => ?_)
        show GG x f 3 (Qm x f φIM) 24 [(0, .ref (x.1 0)), (1, .int a1), (2, .int a2)] [.ref (x.1 17)] r2 _
        refine g_iload_n hC 1 dX7_steps_24 rfl rfl ?_
        refine g_iload_n hC 2 dX7_steps_25 rfl rfl ?_
        refine g_callv hC (st := []) (c := 3) rfl (by decide) rfl (ctX3_behindSteps x F a1 a2 r2) mvX3_behindSteps m_621 (by decide) rfl rfl (Nat.le_of_ble_eq_true rfl) dX7_steps_26 (fun r3 => ?_)
        show GG x f 3 (Qm x f φIM) 29 [(0, .ref (x.1 0)), (1, .int a1), (2, .int a2)] [.int r3] r2 _
        exact g_iret hC hm rfl dX7_steps_29
      · refine g_bipush hC (v := (-2 : Int32)) dX7_steps_17 (by decide) ?_
        exact g_iret hC hm rfl dX7_steps_19
def sX7_returns (F : Nat) (a1 : Int32) (a2 : Int32) (M : Mem) : Option (Int32 × Mem) :=
(sX7_isNoRow F a1 M).bind (fun r1 =>
if r1 = true then
(some ((-2 : Int32), M))
else
((sX7_isOutside F a2 (2 : Int32) M).bind (fun r2 =>
if r2 = true then
(some ((-2 : Int32), M))
else
((sX7_rowsNow F M).bind (fun r3 =>
nm (fun (q4 : Int32) =>
(sX3_stepsToReturn F a1 q4 r3).bind (fun r6 =>
some (r6.1, r6.2))) (fun J5 =>
if ¬ a2 = (1 : Int32) then
(J5 (0 : Int32))
else
(J5 (1 : Int32))))))))
theorem mvX7_returns : MV yX7_returns cX7_returns 3 (some .int) 2 := ⟨⟨m_628, m_67, by decide, by decide, by decide⟩, m_626, m_627⟩
set_option maxHeartbeats 4000000 in
set_option maxRecDepth 100000 in
theorem ctX7_returns (x : Wx) (F : Nat) (a1 : Int32) (a2 : Int32) (M : Mem) : Ct x yX7_returns cX7_returns 3 (some .int) { frames := 4, cells := 0, slots := 0, locals := 93 } φIM [.ref (x.1 0), .int a1, .int a2] M (sX7_returns F a1 a2 M) := by
  refine ct_of (by decide) (Nat.le_of_ble_eq_true rfl) (fun f hC hm => ?_)
  have hC : Cx x f "AnswersFirst" cX7_returns 3 { frames := 4, cells := 0, slots := 0, locals := 93 } := hC
  show GG x f 3 (Qm x f φIM) 0 [(0, .ref (x.1 0)), (1, .int a1), (2, .int a2)] [] M _
  unfold sX7_returns
  refine g_iload_n hC 1 dX7_returns_0 rfl rfl ?_
  refine g_calls hC (st := []) (ctX7_isNoRow x F a1 M) msX7_isNoRow m_602 (by decide) rfl rfl (Nat.le_of_ble_eq_true rfl) dX7_returns_1 (fun r1 => ?_)
  show GG x f 3 (Qm x f φIM) 4 [(0, .ref (x.1 0)), (1, .int a1), (2, .int a2)] [.int (bi r1)] M _
  refine g_ifB_ne hC 15 dX7_returns_4 (by decide) ?_ ?_
  · refine g_bipush hC (v := (-2 : Int32)) dX7_returns_15 (by decide) ?_
    exact g_iret hC hm rfl dX7_returns_17
  · refine g_iload_n hC 2 dX7_returns_7 rfl rfl ?_
    refine g_iconst hC (v := (2 : Int32)) dX7_returns_8 (by decide) ?_
    refine g_calls hC (st := []) (ctX7_isOutside x F a2 (2 : Int32) M) msX7_isOutside m_285 (by decide) rfl rfl (Nat.le_of_ble_eq_true rfl) dX7_returns_9 (fun r2 => ?_)
    show GG x f 3 (Qm x f φIM) 12 [(0, .ref (x.1 0)), (1, .int a1), (2, .int a2)] [.int (bi r2)] M _
    refine g_ifB_eq hC 18 dX7_returns_12 (by decide) ?_ ?_
    · refine g_bipush hC (v := (-2 : Int32)) dX7_returns_15 (by decide) ?_
      exact g_iret hC hm rfl dX7_returns_17
    · refine g_aload_n hC 0 dX7_returns_18 rfl rfl ?_
      refine g_callv hC (st := []) (c := 7) rfl (by decide) rfl (ctX7_rowsNow x F M) mvX7_rowsNow m_515 (by decide) rfl rfl (Nat.le_of_ble_eq_true rfl) dX7_returns_19 (fun r3 => ?_)
      show GG x f 3 (Qm x f φIM) 22 [(0, .ref (x.1 0)), (1, .int a1), (2, .int a2)] [.ref (x.1 17)] r3 _
      refine g_iload_n hC 1 dX7_returns_22 rfl rfl ?_
      refine g_iload_n hC 2 dX7_returns_23 rfl rfl ?_
      refine g_iconst hC (v := (1 : Int32)) dX7_returns_24 (by decide) ?_
      refine g_nm (fun (J5 : Int32 → Option (Int32 × Mem)) => ∀ (q4 : Int32), GG x f 3 (Qm x f φIM) 33 [] [.int q4, .int a1, .ref (x.1 17)] r3 (J5 q4)) (fun q4 => ?_) (fun J5 hJ5 => ?_)
      · show GG x f 3 (Qm x f φIM) 33 [] [.int q4, .int a1, .ref (x.1 17)] r3 _
        refine g_callv hC (st := []) (c := 3) rfl (by decide) rfl (ctX3_stepsToReturn x F a1 q4 r3) mvX3_stepsToReturn m_629 (by decide) rfl rfl (Nat.le_of_ble_eq_true rfl) dX7_returns_33 (fun r6 => ?_)
        show GG x f 3 (Qm x f φIM) 36 [] [.int (r6.1)] r6.2 _
        exact g_iret hC hm rfl dX7_returns_36
      refine g_icmp_ne hC 32 dX7_returns_25 (by decide) ?_ ?_
      · refine g_iconst hC (v := (0 : Int32)) dX7_returns_32 (by decide) ?_
        refine g_lv (lv' := []) [] rfl ?_
        exact hJ5 (0 : Int32)
      · refine g_iconst hC (v := (1 : Int32)) dX7_returns_28 (by decide) ?_
        refine g_goto hC 33 dX7_returns_29 (by decide) ?_
        refine g_lv (lv' := []) [] rfl ?_
        exact hJ5 (1 : Int32)
def sX7_hangs (F : Nat) (a1 : Int32) (M : Mem) : Option (Int32 × Mem) :=
(sX7_isNoMatter F a1 M).bind (fun r1 =>
if r1 = true then
(some ((-2 : Int32), M))
else
((sX7_rowsNow F M).bind (fun r2 =>
(sX3_hangingOn F a1 r2).bind (fun r3 =>
some (r3, r2)))))
theorem mvX7_hangs : MV yX7_hangs cX7_hangs 2 (some .int) 1 := ⟨⟨m_636, m_67, by decide, by decide, by decide⟩, m_634, m_635⟩
set_option maxHeartbeats 4000000 in
set_option maxRecDepth 100000 in
theorem ctX7_hangs (x : Wx) (F : Nat) (a1 : Int32) (M : Mem) : Ct x yX7_hangs cX7_hangs 2 (some .int) { frames := 4, cells := 0, slots := 0, locals := 93 } φIM [.ref (x.1 0), .int a1] M (sX7_hangs F a1 M) := by
  refine ct_of (by decide) (Nat.le_of_ble_eq_true rfl) (fun f hC hm => ?_)
  have hC : Cx x f "AnswersFirst" cX7_hangs 2 { frames := 4, cells := 0, slots := 0, locals := 93 } := hC
  show GG x f 2 (Qm x f φIM) 0 [(0, .ref (x.1 0)), (1, .int a1)] [] M _
  unfold sX7_hangs
  refine g_aload_n hC 0 dX7_hangs_0 rfl rfl ?_
  refine g_iload_n hC 1 dX7_hangs_1 rfl rfl ?_
  refine g_callv hC (st := []) (c := 7) rfl (by decide) rfl (ctX7_isNoMatter x F a1 M) mvX7_isNoMatter m_452 (by decide) rfl rfl (Nat.le_of_ble_eq_true rfl) dX7_hangs_2 (fun r1 => ?_)
  show GG x f 2 (Qm x f φIM) 5 [(0, .ref (x.1 0)), (1, .int a1)] [.int (bi r1)] M _
  refine g_ifB_eq hC 11 dX7_hangs_5 (by decide) ?_ ?_
  · refine g_bipush hC (v := (-2 : Int32)) dX7_hangs_8 (by decide) ?_
    exact g_iret hC hm rfl dX7_hangs_10
  · refine g_aload_n hC 0 dX7_hangs_11 rfl rfl ?_
    refine g_callv hC (st := []) (c := 7) rfl (by decide) rfl (ctX7_rowsNow x F M) mvX7_rowsNow m_515 (by decide) rfl rfl (Nat.le_of_ble_eq_true rfl) dX7_hangs_12 (fun r2 => ?_)
    show GG x f 2 (Qm x f φIM) 15 [(0, .ref (x.1 0)), (1, .int a1)] [.ref (x.1 17)] r2 _
    refine g_iload_n hC 1 dX7_hangs_15 rfl rfl ?_
    refine g_callv hC (st := []) (c := 3) rfl (by decide) rfl (ctX3_hangingOn x F a1 r2) mvX3_hangingOn m_637 (by decide) rfl rfl (Nat.le_of_ble_eq_true rfl) dX7_hangs_16 (fun r3 => ?_)
    show GG x f 2 (Qm x f φIM) 19 [(0, .ref (x.1 0)), (1, .int a1)] [.int r3] r2 _
    exact g_iret hC hm rfl dX7_hangs_19
def sX7_rings (F : Nat) (M : Mem) : Option (Int32 × Mem) :=
(sX7_rowsNow F M).bind (fun r1 =>
(sX3_inRings F r1).bind (fun r2 =>
some (r2, r1)))
theorem mvX7_rings : MV yX7_rings cX7_rings 1 (some .int) 0 := ⟨⟨m_644, m_67, by decide, by decide, by decide⟩, m_642, m_643⟩
set_option maxHeartbeats 4000000 in
set_option maxRecDepth 100000 in
theorem ctX7_rings (x : Wx) (F : Nat) (M : Mem) : Ct x yX7_rings cX7_rings 1 (some .int) { frames := 4, cells := 0, slots := 0, locals := 93 } φIM [.ref (x.1 0)] M (sX7_rings F M) := by
  refine ct_of (by decide) (Nat.le_of_ble_eq_true rfl) (fun f hC hm => ?_)
  have hC : Cx x f "AnswersFirst" cX7_rings 1 { frames := 4, cells := 0, slots := 0, locals := 93 } := hC
  show GG x f 1 (Qm x f φIM) 0 [(0, .ref (x.1 0))] [] M _
  unfold sX7_rings
  refine g_aload_n hC 0 dX7_rings_0 rfl rfl ?_
  refine g_callv hC (st := []) (c := 7) rfl (by decide) rfl (ctX7_rowsNow x F M) mvX7_rowsNow m_515 (by decide) rfl rfl (Nat.le_of_ble_eq_true rfl) dX7_rings_1 (fun r1 => ?_)
  show GG x f 1 (Qm x f φIM) 4 [(0, .ref (x.1 0))] [.ref (x.1 17)] r1 _
  refine g_callv hC (st := []) (c := 3) rfl (by decide) rfl (ctX3_inRings x F r1) mvX3_inRings m_645 (by decide) rfl rfl (Nat.le_of_ble_eq_true rfl) dX7_rings_4 (fun r2 => ?_)
  show GG x f 1 (Qm x f φIM) 7 [(0, .ref (x.1 0))] [.int r2] r1 _
  exact g_iret hC hm rfl dX7_rings_7
def sX7_isNoDay (F : Nat) (a1 : Int32) (M : Mem) : Option Bool :=
if a1 < 0 then
(some true)
else
(if a1 ≤ (99 : Int32) then
(some false)
else
(some true))
theorem msX7_isNoDay : MS yX7_isNoDay cX7_isNoDay 1 (some .boolean) 1 := ⟨⟨m_656, m_67, by decide, by decide, by decide⟩, m_655⟩
set_option maxHeartbeats 4000000 in
set_option maxRecDepth 100000 in
theorem ctX7_isNoDay (x : Wx) (F : Nat) (a1 : Int32) (M : Mem) : Ct x yX7_isNoDay cX7_isNoDay 1 (some .boolean) { frames := 0, cells := 0, slots := 0, locals := 0 } (φB M) [.int a1] M (sX7_isNoDay F a1 M) := by
  refine ct_of (by decide) (Nat.le_of_ble_eq_true rfl) (fun f hC hm => ?_)
  have hC : Cx x f "AnswersFirst" cX7_isNoDay 1 { frames := 0, cells := 0, slots := 0, locals := 0 } := hC
  show GG x f 1 (Qm x f (φB M)) 0 [(0, .int a1)] [] M _
  unfold sX7_isNoDay
  refine g_iload_n hC 0 dX7_isNoDay_0 rfl rfl ?_
  refine g_if_lt hC 10 dX7_isNoDay_1 (by decide) ?_ ?_
  · refine g_iconst hC (v := (1 : Int32)) dX7_isNoDay_10 (by decide) ?_
    refine g_goto hC 15 dX7_isNoDay_11 (by decide) ?_
    exact g_zret hC hm rfl rfl dX7_isNoDay_15
  · refine g_iload_n hC 0 dX7_isNoDay_4 rfl rfl ?_
    refine g_bipush hC (v := (99 : Int32)) dX7_isNoDay_5 (by decide) ?_
    refine g_icmp_le hC 14 dX7_isNoDay_7 (by decide) ?_ ?_
    · refine g_iconst hC (v := (0 : Int32)) dX7_isNoDay_14 (by decide) ?_
      exact g_zret hC hm rfl rfl dX7_isNoDay_15
    · refine g_iconst hC (v := (1 : Int32)) dX7_isNoDay_10 (by decide) ?_
      refine g_goto hC 15 dX7_isNoDay_11 (by decide) ?_
      exact g_zret hC hm rfl rfl dX7_isNoDay_15
def sX7_had (F : Nat) (a1 : Int32) (a2 : Int32) (a3 : Int32) (M : Mem) : Option Int32 :=
(sX7_isNoRow F a1 M).bind (fun r1 =>
if r1 = true then
(some (-2 : Int32))
else
((sX7_isOutside F a2 (6 : Int32) M).bind (fun r2 =>
if r2 = true then
(some (-2 : Int32))
else
((sX7_isNoDay F a3 M).bind (fun r3 =>
if r3 = true then
(some (-2 : Int32))
else
(ib (0 : Int32) 3 (
(sX1_with F (8 + 1 + ix (0 : Int32)) (0 : Int32) a2 M).bind (fun r5 =>
ib (0 : Int32) 3 (
ib (0 : Int32) 4 (
(sX1_byDay F (8 + 1 + ix (0 : Int32)) (a3 + (M 15 (ix (0 : Int32)))) M).bind (fun r7 =>
some ((a1 &&& r5) &&& r7))))))))))))
theorem mvX7_had : MV yX7_had cX7_had 4 (some .int) 3 := ⟨⟨m_653, m_67, by decide, by decide, by decide⟩, m_651, m_652⟩
set_option maxHeartbeats 4000000 in
set_option maxRecDepth 100000 in
theorem ctX7_had (x : Wx) (F : Nat) (a1 : Int32) (a2 : Int32) (a3 : Int32) (M : Mem) : Ct x yX7_had cX7_had 4 (some .int) { frames := 2, cells := 0, slots := 0, locals := 41 } (φI M) [.ref (x.1 0), .int a1, .int a2, .int a3] M (sX7_had F a1 a2 a3 M) := by
  refine ct_of (by decide) (Nat.le_of_ble_eq_true rfl) (fun f hC hm => ?_)
  have hC : Cx x f "AnswersFirst" cX7_had 4 { frames := 2, cells := 0, slots := 0, locals := 41 } := hC
  show GG x f 4 (Qm x f (φI M)) 0 [(0, .ref (x.1 0)), (1, .int a1), (2, .int a2), (3, .int a3)] [] M _
  unfold sX7_had
  refine g_iload_n hC 1 dX7_had_0 rfl rfl ?_
  refine g_calls hC (st := []) (ctX7_isNoRow x F a1 M) msX7_isNoRow m_602 (by decide) rfl rfl (Nat.le_of_ble_eq_true rfl) dX7_had_1 (fun r1 => ?_)
  show GG x f 4 (Qm x f (φI M)) 4 [(0, .ref (x.1 0)), (1, .int a1), (2, .int a2), (3, .int a3)] [.int (bi r1)] M _
  refine g_ifB_ne hC 23 dX7_had_4 (by decide) ?_ ?_
  · refine g_bipush hC (v := (-2 : Int32)) dX7_had_23 (by decide) ?_
    exact g_iret hC hm rfl dX7_had_25
  · refine g_iload_n hC 2 dX7_had_7 rfl rfl ?_
    refine g_bipush hC (v := (6 : Int32)) dX7_had_8 (by decide) ?_
    refine g_calls hC (st := []) (ctX7_isOutside x F a2 (6 : Int32) M) msX7_isOutside m_285 (by decide) rfl rfl (Nat.le_of_ble_eq_true rfl) dX7_had_10 (fun r2 => ?_)
    show GG x f 4 (Qm x f (φI M)) 13 [(0, .ref (x.1 0)), (1, .int a1), (2, .int a2), (3, .int a3)] [.int (bi r2)] M _
    refine g_ifB_ne hC 23 dX7_had_13 (by decide) ?_ ?_
    · refine g_bipush hC (v := (-2 : Int32)) dX7_had_23 (by decide) ?_
      exact g_iret hC hm rfl dX7_had_25
    · refine g_iload_n hC 3 dX7_had_16 rfl rfl ?_
      refine g_calls hC (st := []) (ctX7_isNoDay x F a3 M) msX7_isNoDay m_654 (by decide) rfl rfl (Nat.le_of_ble_eq_true rfl) dX7_had_17 (fun r3 => ?_)
      show GG x f 4 (Qm x f (φI M)) 20 [(0, .ref (x.1 0)), (1, .int a1), (2, .int a2), (3, .int a3)] [.int (bi r3)] M _
      refine g_ifB_eq hC 26 dX7_had_20 (by decide) ?_ ?_
      · refine g_bipush hC (v := (-2 : Int32)) dX7_had_23 (by decide) ?_
        exact g_iret hC hm rfl dX7_had_25
      · refine g_iload_n hC 1 dX7_had_26 rfl rfl ?_
        refine g_aload_n hC 0 dX7_had_27 rfl rfl ?_
        refine g_getR hC cf7 (t := 8) rfl 1 (by decide) rfl m_245 dX7_had_28 ?_
        refine g_iconst hC (v := (0 : Int32)) dX7_had_31 (by decide) ?_
        refine g_aald hC 12 rfl (by decide) rfl dX7_had_32 (fun hi4 => ?_)
        show GG x f 4 (Qm x f (φI M)) 33 [(0, .ref (x.1 0)), (1, .int a1), (2, .int a2), (3, .int a3)] [.ref (x.1 (8 + 1 + ix (0 : Int32))), .int a1] M _
        refine g_iconst hC (v := (0 : Int32)) dX7_had_33 (by decide) ?_
        refine g_iload_n hC 2 dX7_had_34 rfl rfl ?_
        refine g_callv hC (st := [.int a1]) (c := 1) rfl (by decide) (ka_E hi4) (ctX1_with x F (8 + 1 + ix (0 : Int32)) (0 : Int32) a2 (ka_E hi4) M) mvX1_with m_657 (by decide) rfl rfl (Nat.le_of_ble_eq_true rfl) dX7_had_35 (fun r5 => ?_)
        show GG x f 4 (Qm x f (φI M)) 38 [(0, .ref (x.1 0)), (1, .int a1), (2, .int a2), (3, .int a3)] [.int r5, .int a1] M _
        refine g_iand hC dX7_had_38 ?_
        refine g_aload_n hC 0 dX7_had_39 rfl rfl ?_
        refine g_getR hC cf7 (t := 8) rfl 1 (by decide) rfl m_245 dX7_had_40 ?_
        refine g_iconst hC (v := (0 : Int32)) dX7_had_43 (by decide) ?_
        refine g_aald hC 12 rfl (by decide) rfl dX7_had_44 (fun hi6 => ?_)
        show GG x f 4 (Qm x f (φI M)) 45 [(0, .ref (x.1 0)), (1, .int a1), (2, .int a2), (3, .int a3)] [.ref (x.1 (8 + 1 + ix (0 : Int32))), .int (a1 &&& r5)] M _
        refine g_iload_n hC 3 dX7_had_45 rfl rfl ?_
        refine g_aload_n hC 0 dX7_had_46 rfl rfl ?_
        refine g_getR hC cf7 (t := 15) rfl 2 (by decide) rfl m_246 dX7_had_47 ?_
        refine g_iconst hC (v := (0 : Int32)) dX7_had_50 (by decide) ?_
        refine g_iald hC rfl rfl dX7_had_51 ?_
        refine g_iadd hC dX7_had_52 ?_
        refine g_callv hC (st := [.int (a1 &&& r5)]) (c := 1) rfl (by decide) (ka_E hi6) (ctX1_byDay x F (8 + 1 + ix (0 : Int32)) (a3 + (M 15 (ix (0 : Int32)))) (ka_E hi6) M) mvX1_byDay m_658 (by decide) rfl rfl (Nat.le_of_ble_eq_true rfl) dX7_had_53 (fun r7 => ?_)
        show GG x f 4 (Qm x f (φI M)) 56 [(0, .ref (x.1 0)), (1, .int a1), (2, .int a2), (3, .int a3)] [.int r7, .int (a1 &&& r5)] M _
        refine g_iand hC dX7_had_56 ?_
        exact g_iret hC hm rfl dX7_had_57
def sX7_asked (F : Nat) (a1 : Int32) (a2 : Int32) (a3 : Int32) (M : Mem) : Option Int32 :=
(sX7_isNoRow F a1 M).bind (fun r1 =>
if r1 = true then
(some (-2 : Int32))
else
((sX7_isOutside F a2 (6 : Int32) M).bind (fun r2 =>
if r2 = true then
(some (-2 : Int32))
else
((sX7_isNoDay F a3 M).bind (fun r3 =>
if r3 = true then
(some (-2 : Int32))
else
(ib (0 : Int32) 3 (
(sX1_with F (8 + 1 + ix (0 : Int32)) (0 : Int32) a2 M).bind (fun r5 =>
ib (0 : Int32) 3 (
(sX1_byDay F (8 + 1 + ix (0 : Int32)) a3 M).bind (fun r7 =>
some ((a1 &&& r5) &&& r7)))))))))))
theorem mvX7_asked : MV yX7_asked cX7_asked 4 (some .int) 3 := ⟨⟨m_665, m_67, by decide, by decide, by decide⟩, m_663, m_664⟩
set_option maxHeartbeats 4000000 in
set_option maxRecDepth 100000 in
theorem ctX7_asked (x : Wx) (F : Nat) (a1 : Int32) (a2 : Int32) (a3 : Int32) (M : Mem) : Ct x yX7_asked cX7_asked 4 (some .int) { frames := 2, cells := 0, slots := 0, locals := 41 } (φI M) [.ref (x.1 0), .int a1, .int a2, .int a3] M (sX7_asked F a1 a2 a3 M) := by
  refine ct_of (by decide) (Nat.le_of_ble_eq_true rfl) (fun f hC hm => ?_)
  have hC : Cx x f "AnswersFirst" cX7_asked 4 { frames := 2, cells := 0, slots := 0, locals := 41 } := hC
  show GG x f 4 (Qm x f (φI M)) 0 [(0, .ref (x.1 0)), (1, .int a1), (2, .int a2), (3, .int a3)] [] M _
  unfold sX7_asked
  refine g_iload_n hC 1 dX7_asked_0 rfl rfl ?_
  refine g_calls hC (st := []) (ctX7_isNoRow x F a1 M) msX7_isNoRow m_602 (by decide) rfl rfl (Nat.le_of_ble_eq_true rfl) dX7_asked_1 (fun r1 => ?_)
  show GG x f 4 (Qm x f (φI M)) 4 [(0, .ref (x.1 0)), (1, .int a1), (2, .int a2), (3, .int a3)] [.int (bi r1)] M _
  refine g_ifB_ne hC 23 dX7_asked_4 (by decide) ?_ ?_
  · refine g_bipush hC (v := (-2 : Int32)) dX7_asked_23 (by decide) ?_
    exact g_iret hC hm rfl dX7_asked_25
  · refine g_iload_n hC 2 dX7_asked_7 rfl rfl ?_
    refine g_bipush hC (v := (6 : Int32)) dX7_asked_8 (by decide) ?_
    refine g_calls hC (st := []) (ctX7_isOutside x F a2 (6 : Int32) M) msX7_isOutside m_285 (by decide) rfl rfl (Nat.le_of_ble_eq_true rfl) dX7_asked_10 (fun r2 => ?_)
    show GG x f 4 (Qm x f (φI M)) 13 [(0, .ref (x.1 0)), (1, .int a1), (2, .int a2), (3, .int a3)] [.int (bi r2)] M _
    refine g_ifB_ne hC 23 dX7_asked_13 (by decide) ?_ ?_
    · refine g_bipush hC (v := (-2 : Int32)) dX7_asked_23 (by decide) ?_
      exact g_iret hC hm rfl dX7_asked_25
    · refine g_iload_n hC 3 dX7_asked_16 rfl rfl ?_
      refine g_calls hC (st := []) (ctX7_isNoDay x F a3 M) msX7_isNoDay m_654 (by decide) rfl rfl (Nat.le_of_ble_eq_true rfl) dX7_asked_17 (fun r3 => ?_)
      show GG x f 4 (Qm x f (φI M)) 20 [(0, .ref (x.1 0)), (1, .int a1), (2, .int a2), (3, .int a3)] [.int (bi r3)] M _
      refine g_ifB_eq hC 26 dX7_asked_20 (by decide) ?_ ?_
      · refine g_bipush hC (v := (-2 : Int32)) dX7_asked_23 (by decide) ?_
        exact g_iret hC hm rfl dX7_asked_25
      · refine g_iload_n hC 1 dX7_asked_26 rfl rfl ?_
        refine g_aload_n hC 0 dX7_asked_27 rfl rfl ?_
        refine g_getR hC cf7 (t := 8) rfl 1 (by decide) rfl m_245 dX7_asked_28 ?_
        refine g_iconst hC (v := (0 : Int32)) dX7_asked_31 (by decide) ?_
        refine g_aald hC 12 rfl (by decide) rfl dX7_asked_32 (fun hi4 => ?_)
        show GG x f 4 (Qm x f (φI M)) 33 [(0, .ref (x.1 0)), (1, .int a1), (2, .int a2), (3, .int a3)] [.ref (x.1 (8 + 1 + ix (0 : Int32))), .int a1] M _
        refine g_iconst hC (v := (0 : Int32)) dX7_asked_33 (by decide) ?_
        refine g_iload_n hC 2 dX7_asked_34 rfl rfl ?_
        refine g_callv hC (st := [.int a1]) (c := 1) rfl (by decide) (ka_E hi4) (ctX1_with x F (8 + 1 + ix (0 : Int32)) (0 : Int32) a2 (ka_E hi4) M) mvX1_with m_657 (by decide) rfl rfl (Nat.le_of_ble_eq_true rfl) dX7_asked_35 (fun r5 => ?_)
        show GG x f 4 (Qm x f (φI M)) 38 [(0, .ref (x.1 0)), (1, .int a1), (2, .int a2), (3, .int a3)] [.int r5, .int a1] M _
        refine g_iand hC dX7_asked_38 ?_
        refine g_aload_n hC 0 dX7_asked_39 rfl rfl ?_
        refine g_getR hC cf7 (t := 8) rfl 1 (by decide) rfl m_245 dX7_asked_40 ?_
        refine g_iconst hC (v := (0 : Int32)) dX7_asked_43 (by decide) ?_
        refine g_aald hC 12 rfl (by decide) rfl dX7_asked_44 (fun hi6 => ?_)
        show GG x f 4 (Qm x f (φI M)) 45 [(0, .ref (x.1 0)), (1, .int a1), (2, .int a2), (3, .int a3)] [.ref (x.1 (8 + 1 + ix (0 : Int32))), .int (a1 &&& r5)] M _
        refine g_iload_n hC 3 dX7_asked_45 rfl rfl ?_
        refine g_callv hC (st := [.int (a1 &&& r5)]) (c := 1) rfl (by decide) (ka_E hi6) (ctX1_byDay x F (8 + 1 + ix (0 : Int32)) a3 (ka_E hi6) M) mvX1_byDay m_658 (by decide) rfl rfl (Nat.le_of_ble_eq_true rfl) dX7_asked_46 (fun r7 => ?_)
        show GG x f 4 (Qm x f (φI M)) 49 [(0, .ref (x.1 0)), (1, .int a1), (2, .int a2), (3, .int a3)] [.int r7, .int (a1 &&& r5)] M _
        refine g_iand hC dX7_asked_49 ?_
        exact g_iret hC hm rfl dX7_asked_50
def sX7_open (F : Nat) (a1 : Int32) (a2 : Int32) (M : Mem) : Option Int32 :=
(sX7_isNoRow F a1 M).bind (fun r1 =>
if r1 = true then
(some (-2 : Int32))
else
((sX7_isNoDay F a2 M).bind (fun r2 =>
if r2 = true then
(some (-2 : Int32))
else
(ib (0 : Int32) 3 (
ib (0 : Int32) 4 (
(sX1_byDay F (8 + 1 + ix (0 : Int32)) (a2 + (M 15 (ix (0 : Int32)))) M).bind (fun r4 =>
ib (0 : Int32) 3 (
(sX1_byDay F (8 + 1 + ix (0 : Int32)) a2 M).bind (fun r6 =>
some ((a1 &&& r4) &&& (r6 ^^^ (-1 : Int32))))))))))))
theorem mvX7_open : MV yX7_open cX7_open 3 (some .int) 2 := ⟨⟨m_669, m_67, by decide, by decide, by decide⟩, m_667, m_668⟩
set_option maxHeartbeats 4000000 in
set_option maxRecDepth 100000 in
theorem ctX7_open (x : Wx) (F : Nat) (a1 : Int32) (a2 : Int32) (M : Mem) : Ct x yX7_open cX7_open 3 (some .int) { frames := 2, cells := 0, slots := 0, locals := 41 } (φI M) [.ref (x.1 0), .int a1, .int a2] M (sX7_open F a1 a2 M) := by
  refine ct_of (by decide) (Nat.le_of_ble_eq_true rfl) (fun f hC hm => ?_)
  have hC : Cx x f "AnswersFirst" cX7_open 3 { frames := 2, cells := 0, slots := 0, locals := 41 } := hC
  show GG x f 3 (Qm x f (φI M)) 0 [(0, .ref (x.1 0)), (1, .int a1), (2, .int a2)] [] M _
  unfold sX7_open
  refine g_iload_n hC 1 dX7_open_0 rfl rfl ?_
  refine g_calls hC (st := []) (ctX7_isNoRow x F a1 M) msX7_isNoRow m_602 (by decide) rfl rfl (Nat.le_of_ble_eq_true rfl) dX7_open_1 (fun r1 => ?_)
  show GG x f 3 (Qm x f (φI M)) 4 [(0, .ref (x.1 0)), (1, .int a1), (2, .int a2)] [.int (bi r1)] M _
  refine g_ifB_ne hC 14 dX7_open_4 (by decide) ?_ ?_
  · refine g_bipush hC (v := (-2 : Int32)) dX7_open_14 (by decide) ?_
    exact g_iret hC hm rfl dX7_open_16
  · refine g_iload_n hC 2 dX7_open_7 rfl rfl ?_
    refine g_calls hC (st := []) (ctX7_isNoDay x F a2 M) msX7_isNoDay m_654 (by decide) rfl rfl (Nat.le_of_ble_eq_true rfl) dX7_open_8 (fun r2 => ?_)
    show GG x f 3 (Qm x f (φI M)) 11 [(0, .ref (x.1 0)), (1, .int a1), (2, .int a2)] [.int (bi r2)] M _
    refine g_ifB_eq hC 17 dX7_open_11 (by decide) ?_ ?_
    · refine g_bipush hC (v := (-2 : Int32)) dX7_open_14 (by decide) ?_
      exact g_iret hC hm rfl dX7_open_16
    · refine g_iload_n hC 1 dX7_open_17 rfl rfl ?_
      refine g_aload_n hC 0 dX7_open_18 rfl rfl ?_
      refine g_getR hC cf7 (t := 8) rfl 1 (by decide) rfl m_245 dX7_open_19 ?_
      refine g_iconst hC (v := (0 : Int32)) dX7_open_22 (by decide) ?_
      refine g_aald hC 12 rfl (by decide) rfl dX7_open_23 (fun hi3 => ?_)
      show GG x f 3 (Qm x f (φI M)) 24 [(0, .ref (x.1 0)), (1, .int a1), (2, .int a2)] [.ref (x.1 (8 + 1 + ix (0 : Int32))), .int a1] M _
      refine g_iload_n hC 2 dX7_open_24 rfl rfl ?_
      refine g_aload_n hC 0 dX7_open_25 rfl rfl ?_
      refine g_getR hC cf7 (t := 15) rfl 2 (by decide) rfl m_246 dX7_open_26 ?_
      refine g_iconst hC (v := (0 : Int32)) dX7_open_29 (by decide) ?_
      refine g_iald hC rfl rfl dX7_open_30 ?_
      refine g_iadd hC dX7_open_31 ?_
      refine g_callv hC (st := [.int a1]) (c := 1) rfl (by decide) (ka_E hi3) (ctX1_byDay x F (8 + 1 + ix (0 : Int32)) (a2 + (M 15 (ix (0 : Int32)))) (ka_E hi3) M) mvX1_byDay m_658 (by decide) rfl rfl (Nat.le_of_ble_eq_true rfl) dX7_open_32 (fun r4 => ?_)
      show GG x f 3 (Qm x f (φI M)) 35 [(0, .ref (x.1 0)), (1, .int a1), (2, .int a2)] [.int r4, .int a1] M _
      refine g_iand hC dX7_open_35 ?_
      refine g_aload_n hC 0 dX7_open_36 rfl rfl ?_
      refine g_getR hC cf7 (t := 8) rfl 1 (by decide) rfl m_245 dX7_open_37 ?_
      refine g_iconst hC (v := (0 : Int32)) dX7_open_40 (by decide) ?_
      refine g_aald hC 12 rfl (by decide) rfl dX7_open_41 (fun hi5 => ?_)
      show GG x f 3 (Qm x f (φI M)) 42 [(0, .ref (x.1 0)), (1, .int a1), (2, .int a2)] [.ref (x.1 (8 + 1 + ix (0 : Int32))), .int (a1 &&& r4)] M _
      refine g_iload_n hC 2 dX7_open_42 rfl rfl ?_
      refine g_callv hC (st := [.int (a1 &&& r4)]) (c := 1) rfl (by decide) (ka_E hi5) (ctX1_byDay x F (8 + 1 + ix (0 : Int32)) a2 (ka_E hi5) M) mvX1_byDay m_658 (by decide) rfl rfl (Nat.le_of_ble_eq_true rfl) dX7_open_43 (fun r6 => ?_)
      show GG x f 3 (Qm x f (φI M)) 46 [(0, .ref (x.1 0)), (1, .int a1), (2, .int a2)] [.int r6, .int (a1 &&& r4)] M _
      refine g_iconst hC (v := (-1 : Int32)) dX7_open_46 (by decide) ?_
      refine g_ixor hC dX7_open_47 ?_
      refine g_iand hC dX7_open_48 ?_
      exact g_iret hC hm rfl dX7_open_49
def sX7_worthOf_L10 (F : Nat) (M : Mem) (v1 : Int32) (rec4 : Int32 → Int32 → Option Int32) (p2 : Int32) (p3 : Int32) : Option Int32 :=
if (10 : Int32) ≤ p3 then
(some p2)
else
(nm (fun (p5 : Int32) =>
rec4 p5 (p3 + (1 : Int32))) (fun J6 =>
if ¬ ((v1 >>> (p3 &&& 31)) &&& (1 : Int32)) = (1 : Int32) then
(J6 p2)
else
(ib p3 10 (
nm (p2 + (M 16 (ix p3))) (fun v7 =>
J6 v7)))))
def sX7_worthOf (F : Nat) (a1 : Int32) (a2 : Int32) (M : Mem) : Option Int32 :=
nm (a1 &&& a2) (fun v1 =>
fx2 F (sX7_worthOf_L10 F M v1) (0 : Int32) (0 : Int32))
theorem mvX7_worthOf : MV yX7_worthOf cX7_worthOf 6 (some .int) 2 := ⟨⟨m_681, m_67, by decide, by decide, by decide⟩, m_680, m_12⟩
set_option maxHeartbeats 4000000 in
set_option maxRecDepth 100000 in
theorem ctX7_worthOf (x : Wx) (F : Nat) (a1 : Int32) (a2 : Int32) (M : Mem) : Ct x yX7_worthOf cX7_worthOf 6 (some .int) { frames := 0, cells := 0, slots := 0, locals := 0 } (φI M) [.ref (x.1 0), .int a1, .int a2] M (sX7_worthOf F a1 a2 M) := by
  refine ct_of (by decide) (Nat.le_of_ble_eq_true rfl) (fun f hC hm => ?_)
  have hC : Cx x f "AnswersFirst" cX7_worthOf 6 { frames := 0, cells := 0, slots := 0, locals := 0 } := hC
  show GG x f 6 (Qm x f (φI M)) 0 [(0, .ref (x.1 0)), (1, .int a1), (2, .int a2)] [] M _
  unfold sX7_worthOf
  refine g_iload_n hC 1 dX7_worthOf_0 rfl rfl ?_
  refine g_iload_n hC 2 dX7_worthOf_1 rfl rfl ?_
  refine g_iand hC dX7_worthOf_2 ?_
  refine g_top (fun v1 => ?_)
  show GG x f 6 (Qm x f (φI M)) 3 [(0, .ref (x.1 0)), (1, .int a1), (2, .int a2)] [.int v1] M _
  refine g_istore_n hC (lv' := [(0, .ref (x.1 0)), (3, .int v1)]) [1, 0] dX7_worthOf_3 rfl (by decide) rfl ?_
  refine g_iconst hC (v := (0 : Int32)) dX7_worthOf_4 (by decide) ?_
  refine g_istore hC (lv' := [(0, .ref (x.1 0)), (3, .int v1), (4, .int (0 : Int32))]) [1, 2, 0] dX7_worthOf_5 (by decide) rfl ?_
  refine g_iconst hC (v := (0 : Int32)) dX7_worthOf_7 (by decide) ?_
  refine g_istore hC (lv' := [(0, .ref (x.1 0)), (3, .int v1), (4, .int (0 : Int32)), (5, .int (0 : Int32))]) [1, 2, 3, 0] dX7_worthOf_8 (by decide) rfl ?_
  refine g_fx2 (fun (p2 : Int32) (p3 : Int32) => [(0, .ref (x.1 0)), (3, .int v1), (4, .int p2), (5, .int p3)]) (fun (p2 : Int32) (p3 : Int32) => M) (fun rec4 hrec4 p2 p3 => ?_) F _ _
  show GG x f 6 (Qm x f (φI M)) 10 [(0, .ref (x.1 0)), (3, .int v1), (4, .int p2), (5, .int p3)] [] M _
  unfold sX7_worthOf_L10
  refine g_iload hC 3 dX7_worthOf_10 rfl ?_
  refine g_bipush hC (v := (10 : Int32)) dX7_worthOf_12 (by decide) ?_
  refine g_icmp_ge hC 45 dX7_worthOf_14 (by decide) ?_ ?_
  · refine g_iload hC 2 dX7_worthOf_45 rfl ?_
    exact g_iret hC hm rfl dX7_worthOf_47
  · refine g_iload_n hC 1 dX7_worthOf_17 rfl rfl ?_
    refine g_iload hC 3 dX7_worthOf_18 rfl ?_
    refine g_ishr hC dX7_worthOf_20 ?_
    refine g_iconst hC (v := (1 : Int32)) dX7_worthOf_21 (by decide) ?_
    refine g_iand hC dX7_worthOf_22 ?_
    refine g_iconst hC (v := (1 : Int32)) dX7_worthOf_23 (by decide) ?_
    refine g_nm (fun (J6 : Int32 → Option Int32) => ∀ (p5 : Int32), GG x f 6 (Qm x f (φI M)) 39 [(0, .ref (x.1 0)), (3, .int v1), (4, .int p5), (5, .int p3)] [] M (J6 p5)) (fun p5 => ?_) (fun J6 hJ6 => ?_)
    · show GG x f 6 (Qm x f (φI M)) 39 [(0, .ref (x.1 0)), (3, .int v1), (4, .int p5), (5, .int p3)] [] M _
      refine g_iinc hC (q := 3) (v := (1 : Int32)) (lv' := [(0, .ref (x.1 0)), (3, .int v1), (4, .int p5), (5, .int (p3 + (1 : Int32)))]) [1, 2, 3, 0] dX7_worthOf_39 rfl (by decide) (by decide) rfl ?_
      refine g_goto hC 10 dX7_worthOf_42 (by decide) ?_
      exact hrec4 p5 (p3 + (1 : Int32))
    refine g_icmp_ne hC 39 dX7_worthOf_24 (by decide) ?_ ?_
    · exact hJ6 p2
    · refine g_iload hC 2 dX7_worthOf_27 rfl ?_
      refine g_aload_n hC 0 dX7_worthOf_29 rfl rfl ?_
      refine g_getR hC cf7 (t := 16) rfl 3 (by decide) rfl m_247 dX7_worthOf_30 ?_
      refine g_iload hC 3 dX7_worthOf_33 rfl ?_
      refine g_iald hC rfl rfl dX7_worthOf_35 ?_
      refine g_iadd hC dX7_worthOf_36 ?_
      refine g_top (fun v7 => ?_)
      show GG x f 6 (Qm x f (φI M)) 37 [(0, .ref (x.1 0)), (3, .int v1), (4, .int p2), (5, .int p3)] [.int v7] M _
      refine g_istore hC (lv' := [(0, .ref (x.1 0)), (3, .int v1), (4, .int v7), (5, .int p3)]) [1, 2, 0, 3] dX7_worthOf_37 (by decide) rfl ?_
      exact hJ6 v7
def sX7_bestRow_L8 (F : Nat) (a2 : Int32) (M : Mem) (rec4 : Int32 → Int32 → Int32 → Option Int32) (p1 : Int32) (p2 : Int32) (p3 : Int32) : Option Int32 :=
(sX3_howMany F M).bind (fun r5 =>
if r5 ≤ p3 then
(some p1)
else
((sX3_nth F p3 M).bind (fun r6 =>
(sX7_worthOf F r6 a2 M).bind (fun r7 =>
nm (fun (p8 : Int32) (p9 : Int32) =>
rec4 p8 p9 (p3 + (1 : Int32))) (fun J10 =>
nm ((sX3_nth F p3 M).bind (fun r12 =>
J10 r12 r7)) (fun J11 =>
if p1 = (-1 : Int32) then
(J11)
else
(if r7 ≤ p2 then
(J10 p1 p2)
else
(J11))))))))
def sX7_bestRow (F : Nat) (a2 : Int32) (M : Mem) : Option Int32 :=
fx3 F (sX7_bestRow_L8 F a2 M) (-1 : Int32) (0 : Int32) (0 : Int32)
theorem mvX7_bestRow : MV yX7_bestRow cX7_bestRow 7 (some .int) 2 := ⟨⟨m_677, m_67, by decide, by decide, by decide⟩, m_676, m_11⟩
set_option maxHeartbeats 4000000 in
set_option maxRecDepth 100000 in
theorem ctX7_bestRow (x : Wx) (F : Nat) (a2 : Int32) (M : Mem) : Ct x yX7_bestRow cX7_bestRow 7 (some .int) { frames := 1, cells := 0, slots := 0, locals := 25 } (φI M) [.ref (x.1 0), .ref (x.1 17), .int a2] M (sX7_bestRow F a2 M) := by
  refine ct_of (by decide) (Nat.le_of_ble_eq_true rfl) (fun f hC hm => ?_)
  have hC : Cx x f "AnswersFirst" cX7_bestRow 7 { frames := 1, cells := 0, slots := 0, locals := 25 } := hC
  show GG x f 7 (Qm x f (φI M)) 0 [(0, .ref (x.1 0)), (1, .ref (x.1 17)), (2, .int a2)] [] M _
  unfold sX7_bestRow
  refine g_iconst hC (v := (-1 : Int32)) dX7_bestRow_0 (by decide) ?_
  refine g_istore_n hC (lv' := [(0, .ref (x.1 0)), (1, .ref (x.1 17)), (2, .int a2), (3, .int (-1 : Int32))]) [1, 2, 3, 0] dX7_bestRow_1 rfl (by decide) rfl ?_
  refine g_iconst hC (v := (0 : Int32)) dX7_bestRow_2 (by decide) ?_
  refine g_istore hC (lv' := [(0, .ref (x.1 0)), (1, .ref (x.1 17)), (2, .int a2), (3, .int (-1 : Int32)), (4, .int (0 : Int32))]) [1, 2, 3, 4, 0] dX7_bestRow_3 (by decide) rfl ?_
  refine g_iconst hC (v := (0 : Int32)) dX7_bestRow_5 (by decide) ?_
  refine g_istore hC (lv' := [(0, .ref (x.1 0)), (1, .ref (x.1 17)), (2, .int a2), (3, .int (-1 : Int32)), (4, .int (0 : Int32)), (5, .int (0 : Int32))]) [1, 2, 3, 4, 5, 0] dX7_bestRow_6 (by decide) rfl ?_
  refine g_fx3 (fun (p1 : Int32) (p2 : Int32) (p3 : Int32) => [(0, .ref (x.1 0)), (1, .ref (x.1 17)), (2, .int a2), (3, .int p1), (4, .int p2), (5, .int p3)]) (fun (p1 : Int32) (p2 : Int32) (p3 : Int32) => M) (fun rec4 hrec4 p1 p2 p3 => ?_) F _ _ _
  show GG x f 7 (Qm x f (φI M)) 8 [(0, .ref (x.1 0)), (1, .ref (x.1 17)), (2, .int a2), (3, .int p1), (4, .int p2), (5, .int p3)] [] M _
  unfold sX7_bestRow_L8
  refine g_iload hC 5 dX7_bestRow_8 rfl ?_
  refine g_aload_n hC 1 dX7_bestRow_10 rfl rfl ?_
  refine g_callv hC (st := [.int p3]) (c := 3) rfl (by decide) rfl (ctX3_howMany x F M) mvX3_howMany m_547 (by decide) rfl rfl (Nat.le_of_ble_eq_true rfl) dX7_bestRow_11 (fun r5 => ?_)
  show GG x f 7 (Qm x f (φI M)) 14 [(0, .ref (x.1 0)), (1, .ref (x.1 17)), (2, .int a2), (3, .int p1), (4, .int p2), (5, .int p3)] [.int r5, .int p3] M _
  refine g_icmp_ge hC 59 dX7_bestRow_14 (by decide) ?_ ?_
  · refine g_iload_n hC 3 dX7_bestRow_59 rfl rfl ?_
    exact g_iret hC hm rfl dX7_bestRow_60
  · refine g_aload_n hC 0 dX7_bestRow_17 rfl rfl ?_
    refine g_aload_n hC 1 dX7_bestRow_18 rfl rfl ?_
    refine g_iload hC 5 dX7_bestRow_19 rfl ?_
    refine g_callv hC (st := [.ref (x.1 0)]) (c := 3) rfl (by decide) rfl (ctX3_nth x F p3 M) mvX3_nth m_551 (by decide) rfl rfl (Nat.le_of_ble_eq_true rfl) dX7_bestRow_21 (fun r6 => ?_)
    show GG x f 7 (Qm x f (φI M)) 24 [(0, .ref (x.1 0)), (1, .ref (x.1 17)), (2, .int a2), (3, .int p1), (4, .int p2), (5, .int p3)] [.int r6, .ref (x.1 0)] M _
    refine g_iload_n hC 2 dX7_bestRow_24 rfl rfl ?_
    refine g_callv hC (st := []) (c := 7) rfl (by decide) rfl (ctX7_worthOf x F r6 a2 M) mvX7_worthOf m_678 (by decide) rfl rfl (Nat.le_of_ble_eq_true rfl) dX7_bestRow_25 (fun r7 => ?_)
    show GG x f 7 (Qm x f (φI M)) 28 [(0, .ref (x.1 0)), (1, .ref (x.1 17)), (2, .int a2), (3, .int p1), (4, .int p2), (5, .int p3)] [.int r7] M _
    refine g_istore hC (lv' := [(0, .ref (x.1 0)), (1, .ref (x.1 17)), (2, .int a2), (3, .int p1), (4, .int p2), (5, .int p3), (6, .int r7)]) [1, 2, 3, 4, 5, 6, 0] dX7_bestRow_28 (by decide) rfl ?_
    refine g_iload_n hC 3 dX7_bestRow_30 rfl rfl ?_
    refine g_iconst hC (v := (-1 : Int32)) dX7_bestRow_31 (by decide) ?_
    refine g_nm (fun (J10 : Int32 → Int32 → Option Int32) => ∀ (p8 : Int32) (p9 : Int32), GG x f 7 (Qm x f (φI M)) 53 [(0, .ref (x.1 0)), (1, .ref (x.1 17)), (2, .int a2), (3, .int p8), (4, .int p9), (5, .int p3)] [] M (J10 p8 p9)) (fun p8 p9 => ?_) (fun J10 hJ10 => ?_)
    · show GG x f 7 (Qm x f (φI M)) 53 [(0, .ref (x.1 0)), (1, .ref (x.1 17)), (2, .int a2), (3, .int p8), (4, .int p9), (5, .int p3)] [] M _
      refine g_iinc hC (q := 5) (v := (1 : Int32)) (lv' := [(0, .ref (x.1 0)), (1, .ref (x.1 17)), (2, .int a2), (3, .int p8), (4, .int p9), (5, .int (p3 + (1 : Int32)))]) [1, 2, 3, 4, 5, 0] dX7_bestRow_53 rfl (by decide) (by decide) rfl ?_
      refine g_goto hC 8 dX7_bestRow_56 (by decide) ?_
      exact hrec4 p8 p9 (p3 + (1 : Int32))
    refine g_nm (fun (J11 : Option Int32) => GG x f 7 (Qm x f (φI M)) 42 [(0, .ref (x.1 0)), (1, .ref (x.1 17)), (2, .int a2), (5, .int p3), (6, .int r7)] [] M J11) ?_ (fun J11 hJ11 => ?_)
    · show GG x f 7 (Qm x f (φI M)) 42 [(0, .ref (x.1 0)), (1, .ref (x.1 17)), (2, .int a2), (5, .int p3), (6, .int r7)] [] M _
      refine g_aload_n hC 1 dX7_bestRow_42 rfl rfl ?_
      refine g_iload hC 3 dX7_bestRow_43 rfl ?_
      refine g_callv hC (st := []) (c := 3) rfl (by decide) rfl (ctX3_nth x F p3 M) mvX3_nth m_551 (by decide) rfl rfl (Nat.le_of_ble_eq_true rfl) dX7_bestRow_45 (fun r12 => ?_)
      show GG x f 7 (Qm x f (φI M)) 48 [(0, .ref (x.1 0)), (1, .ref (x.1 17)), (2, .int a2), (5, .int p3), (6, .int r7)] [.int r12] M _
      refine g_istore_n hC (lv' := [(0, .ref (x.1 0)), (1, .ref (x.1 17)), (2, .int a2), (3, .int r12), (5, .int p3), (6, .int r7)]) [1, 2, 3, 0, 4, 5] dX7_bestRow_48 rfl (by decide) rfl ?_
      refine g_iload hC 5 dX7_bestRow_49 rfl ?_
      refine g_istore hC (lv' := [(0, .ref (x.1 0)), (1, .ref (x.1 17)), (2, .int a2), (3, .int r12), (4, .int r7), (5, .int p3)]) [1, 2, 3, 4, 0, 5] dX7_bestRow_51 (by decide) rfl ?_
      exact hJ10 r12 r7
    refine g_icmp_eq hC 42 dX7_bestRow_32 (by decide) ?_ ?_
    · refine g_lv (lv' := [(0, .ref (x.1 0)), (1, .ref (x.1 17)), (2, .int a2), (5, .int p3), (6, .int r7)]) [0, 1, 2, 5, 6] rfl ?_
      exact hJ11
    · refine g_iload hC 6 dX7_bestRow_35 rfl ?_
      refine g_iload hC 4 dX7_bestRow_37 rfl ?_
      refine g_icmp_le hC 53 dX7_bestRow_39 (by decide) ?_ ?_
      · refine g_lv (lv' := [(0, .ref (x.1 0)), (1, .ref (x.1 17)), (2, .int a2), (3, .int p1), (4, .int p2), (5, .int p3)]) [0, 1, 2, 3, 4, 5] rfl ?_
        exact hJ10 p1 p2
      · refine g_lv (lv' := [(0, .ref (x.1 0)), (1, .ref (x.1 17)), (2, .int a2), (5, .int p3), (6, .int r7)]) [0, 1, 2, 5, 6] rfl ?_
        exact hJ11
def sX7_best (F : Nat) (a1 : Int32) (a2 : Int32) (M : Mem) : Option (Int32 × Mem) :=
(sX7_isOutside F a1 (6 : Int32) M).bind (fun r1 =>
if r1 = true then
(some ((-1002 : Int32), M))
else
((sX7_isOutside F a2 (2 : Int32) M).bind (fun r2 =>
if r2 = true then
(some ((-1002 : Int32), M))
else
(ib (0 : Int32) 3 (
(sX1_with F (8 + 1 + ix (0 : Int32)) (0 : Int32) a1 M).bind (fun r4 =>
(sX7_rowsNow F M).bind (fun r5 =>
(sX7_bestRow F r4 r5).bind (fun r6 =>
if ¬ a2 = (1 : Int32) then
(if ¬ r6 = (-1 : Int32) then
((sX7_worthOf F r6 r4 r5).bind (fun r7 =>
some (r7, r5)))
else
(some ((-1003 : Int32), r5)))
else
(some (r6, r5))))))))))
theorem mvX7_best : MV yX7_best cX7_best 5 (some .int) 2 := ⟨⟨m_673, m_67, by decide, by decide, by decide⟩, m_671, m_672⟩
set_option maxHeartbeats 4000000 in
set_option maxRecDepth 100000 in
theorem ctX7_best (x : Wx) (F : Nat) (a1 : Int32) (a2 : Int32) (M : Mem) : Ct x yX7_best cX7_best 5 (some .int) { frames := 4, cells := 0, slots := 0, locals := 93 } φIM [.ref (x.1 0), .int a1, .int a2] M (sX7_best F a1 a2 M) := by
  refine ct_of (by decide) (Nat.le_of_ble_eq_true rfl) (fun f hC hm => ?_)
  have hC : Cx x f "AnswersFirst" cX7_best 5 { frames := 4, cells := 0, slots := 0, locals := 93 } := hC
  show GG x f 5 (Qm x f φIM) 0 [(0, .ref (x.1 0)), (1, .int a1), (2, .int a2)] [] M _
  unfold sX7_best
  refine g_iload_n hC 1 dX7_best_0 rfl rfl ?_
  refine g_bipush hC (v := (6 : Int32)) dX7_best_1 (by decide) ?_
  refine g_calls hC (st := []) (ctX7_isOutside x F a1 (6 : Int32) M) msX7_isOutside m_285 (by decide) rfl rfl (Nat.le_of_ble_eq_true rfl) dX7_best_3 (fun r1 => ?_)
  show GG x f 5 (Qm x f φIM) 6 [(0, .ref (x.1 0)), (1, .int a1), (2, .int a2)] [.int (bi r1)] M _
  refine g_ifB_ne hC 17 dX7_best_6 (by decide) ?_ ?_
  · refine g_sipush hC (v := (-1002 : Int32)) dX7_best_17 (by decide) ?_
    exact g_iret hC hm rfl dX7_best_20
  · refine g_iload_n hC 2 dX7_best_9 rfl rfl ?_
    refine g_iconst hC (v := (2 : Int32)) dX7_best_10 (by decide) ?_
    refine g_calls hC (st := []) (ctX7_isOutside x F a2 (2 : Int32) M) msX7_isOutside m_285 (by decide) rfl rfl (Nat.le_of_ble_eq_true rfl) dX7_best_11 (fun r2 => ?_)
    show GG x f 5 (Qm x f φIM) 14 [(0, .ref (x.1 0)), (1, .int a1), (2, .int a2)] [.int (bi r2)] M _
    refine g_ifB_eq hC 21 dX7_best_14 (by decide) ?_ ?_
    · refine g_sipush hC (v := (-1002 : Int32)) dX7_best_17 (by decide) ?_
      exact g_iret hC hm rfl dX7_best_20
    · refine g_aload_n hC 0 dX7_best_21 rfl rfl ?_
      refine g_getR hC cf7 (t := 8) rfl 1 (by decide) rfl m_245 dX7_best_22 ?_
      refine g_iconst hC (v := (0 : Int32)) dX7_best_25 (by decide) ?_
      refine g_aald hC 12 rfl (by decide) rfl dX7_best_26 (fun hi3 => ?_)
      show GG x f 5 (Qm x f φIM) 27 [(0, .ref (x.1 0)), (1, .int a1), (2, .int a2)] [.ref (x.1 (8 + 1 + ix (0 : Int32)))] M _
      refine g_iconst hC (v := (0 : Int32)) dX7_best_27 (by decide) ?_
      refine g_iload_n hC 1 dX7_best_28 rfl rfl ?_
      refine g_callv hC (st := []) (c := 1) rfl (by decide) (ka_E hi3) (ctX1_with x F (8 + 1 + ix (0 : Int32)) (0 : Int32) a1 (ka_E hi3) M) mvX1_with m_657 (by decide) rfl rfl (Nat.le_of_ble_eq_true rfl) dX7_best_29 (fun r4 => ?_)
      show GG x f 5 (Qm x f φIM) 32 [(0, .ref (x.1 0)), (1, .int a1), (2, .int a2)] [.int r4] M _
      refine g_istore_n hC (lv' := [(0, .ref (x.1 0)), (2, .int a2), (3, .int r4)]) [1, 3, 0] dX7_best_32 rfl (by decide) rfl ?_
      refine g_aload_n hC 0 dX7_best_33 rfl rfl ?_
      refine g_aload_n hC 0 dX7_best_34 rfl rfl ?_
      refine g_callv hC (st := [.ref (x.1 0)]) (c := 7) rfl (by decide) rfl (ctX7_rowsNow x F M) mvX7_rowsNow m_515 (by decide) rfl rfl (Nat.le_of_ble_eq_true rfl) dX7_best_35 (fun r5 => ?_)
      show GG x f 5 (Qm x f φIM) 38 [(0, .ref (x.1 0)), (2, .int a2), (3, .int r4)] [.ref (x.1 17), .ref (x.1 0)] r5 _
      refine g_iload_n hC 2 dX7_best_38 rfl rfl ?_
      refine g_callv hC (st := []) (c := 7) rfl (by decide) rfl (ctX7_bestRow x F r4 r5) mvX7_bestRow m_674 (by decide) rfl rfl (Nat.le_of_ble_eq_true rfl) dX7_best_39 (fun r6 => ?_)
      show GG x f 5 (Qm x f φIM) 42 [(0, .ref (x.1 0)), (2, .int a2), (3, .int r4)] [.int r6] r5 _
      refine g_istore hC (lv' := [(0, .ref (x.1 0)), (2, .int a2), (3, .int r4), (4, .int r6)]) [1, 2, 3, 0] dX7_best_42 (by decide) rfl ?_
      refine g_iload_n hC 1 dX7_best_44 rfl rfl ?_
      refine g_iconst hC (v := (1 : Int32)) dX7_best_45 (by decide) ?_
      refine g_icmp_ne hC 52 dX7_best_46 (by decide) ?_ ?_
      · refine g_iload hC 3 dX7_best_52 rfl ?_
        refine g_iconst hC (v := (-1 : Int32)) dX7_best_54 (by decide) ?_
        refine g_icmp_ne hC 64 dX7_best_55 (by decide) ?_ ?_
        · refine g_aload_n hC 0 dX7_best_64 rfl rfl ?_
          refine g_iload hC 3 dX7_best_65 rfl ?_
          refine g_iload_n hC 2 dX7_best_67 rfl rfl ?_
          refine g_callv hC (st := []) (c := 7) rfl (by decide) rfl (ctX7_worthOf x F r6 r4 r5) mvX7_worthOf m_678 (by decide) rfl rfl (Nat.le_of_ble_eq_true rfl) dX7_best_68 (fun r7 => ?_)
          show GG x f 5 (Qm x f φIM) 71 [(0, .ref (x.1 0)), (2, .int a2), (3, .int r4), (4, .int r6)] [.int r7] r5 _
          exact g_iret hC hm rfl dX7_best_71
        · refine g_sipush hC (v := (-1003 : Int32)) dX7_best_58 (by decide) ?_
          refine g_goto hC 71 dX7_best_61 (by decide) ?_
          exact g_iret hC hm rfl dX7_best_71
      · refine g_iload hC 3 dX7_best_49 rfl ?_
        exact g_iret hC hm rfl dX7_best_51
def sX7_hasBetter_L16 (F : Nat) (a3 : Int32) (M : Mem) (r2 : Int32) (rec4 : Int32 → Option Bool) (p3 : Int32) : Option Bool :=
(sX3_allBits F M).bind (fun r5 =>
if r5 < p3 then
(some false)
else
((sX3_brokenBy F p3 M).bind (fun r6 =>
nm (fun (q7 : Int32) =>
nm (rec4 (p3 + (1 : Int32))) (fun J9 =>
if q7 = 0 then
(J9)
else
((sX7_worthOf F p3 a3 M).bind (fun r10 =>
if r10 ≤ r2 then
(J9)
else
(some true))))) (fun J8 =>
if ¬ (r6 &&& (a3 ^^^ (-1 : Int32))) = 0 then
(J8 (0 : Int32))
else
(J8 (1 : Int32))))))
def sX7_hasBetter (F : Nat) (a2 : Int32) (a3 : Int32) (M : Mem) : Option Bool :=
(sX3_allBits F M).bind (fun r1 =>
(sX7_worthOf F (a2 &&& r1) a3 M).bind (fun r2 =>
fx1 F (sX7_hasBetter_L16 F a3 M r2) (0 : Int32)))
theorem mvX7_hasBetter : MV yX7_hasBetter cX7_hasBetter 7 (some .boolean) 3 := ⟨⟨m_689, m_67, by decide, by decide, by decide⟩, m_688, m_13⟩
set_option maxHeartbeats 4000000 in
set_option maxRecDepth 100000 in
theorem ctX7_hasBetter (x : Wx) (F : Nat) (a2 : Int32) (a3 : Int32) (M : Mem) : Ct x yX7_hasBetter cX7_hasBetter 7 (some .boolean) { frames := 1, cells := 0, slots := 0, locals := 25 } (φB M) [.ref (x.1 0), .ref (x.1 17), .int a2, .int a3] M (sX7_hasBetter F a2 a3 M) := by
  refine ct_of (by decide) (Nat.le_of_ble_eq_true rfl) (fun f hC hm => ?_)
  have hC : Cx x f "AnswersFirst" cX7_hasBetter 7 { frames := 1, cells := 0, slots := 0, locals := 25 } := hC
  show GG x f 7 (Qm x f (φB M)) 0 [(0, .ref (x.1 0)), (1, .ref (x.1 17)), (2, .int a2), (3, .int a3)] [] M _
  unfold sX7_hasBetter
  refine g_aload_n hC 0 dX7_hasBetter_0 rfl rfl ?_
  refine g_iload_n hC 2 dX7_hasBetter_1 rfl rfl ?_
  refine g_aload_n hC 1 dX7_hasBetter_2 rfl rfl ?_
  refine g_callv hC (st := [.int a2, .ref (x.1 0)]) (c := 3) rfl (by decide) rfl (ctX3_allBits x F M) mvX3_allBits m_690 (by decide) rfl rfl (Nat.le_of_ble_eq_true rfl) dX7_hasBetter_3 (fun r1 => ?_)
  show GG x f 7 (Qm x f (φB M)) 6 [(0, .ref (x.1 0)), (1, .ref (x.1 17)), (2, .int a2), (3, .int a3)] [.int r1, .int a2, .ref (x.1 0)] M _
  refine g_iand hC dX7_hasBetter_6 ?_
  refine g_iload_n hC 3 dX7_hasBetter_7 rfl rfl ?_
  refine g_callv hC (st := []) (c := 7) rfl (by decide) rfl (ctX7_worthOf x F (a2 &&& r1) a3 M) mvX7_worthOf m_678 (by decide) rfl rfl (Nat.le_of_ble_eq_true rfl) dX7_hasBetter_8 (fun r2 => ?_)
  show GG x f 7 (Qm x f (φB M)) 11 [(0, .ref (x.1 0)), (1, .ref (x.1 17)), (2, .int a2), (3, .int a3)] [.int r2] M _
  refine g_istore hC (lv' := [(0, .ref (x.1 0)), (1, .ref (x.1 17)), (3, .int a3), (4, .int r2)]) [1, 2, 4, 0] dX7_hasBetter_11 (by decide) rfl ?_
  refine g_iconst hC (v := (0 : Int32)) dX7_hasBetter_13 (by decide) ?_
  refine g_istore hC (lv' := [(0, .ref (x.1 0)), (1, .ref (x.1 17)), (3, .int a3), (4, .int r2), (5, .int (0 : Int32))]) [1, 2, 3, 4, 0] dX7_hasBetter_14 (by decide) rfl ?_
  refine g_fx1 (fun (p3 : Int32) => [(0, .ref (x.1 0)), (1, .ref (x.1 17)), (3, .int a3), (4, .int r2), (5, .int p3)]) (fun (p3 : Int32) => M) (fun rec4 hrec4 p3 => ?_) F _
  show GG x f 7 (Qm x f (φB M)) 16 [(0, .ref (x.1 0)), (1, .ref (x.1 17)), (3, .int a3), (4, .int r2), (5, .int p3)] [] M _
  unfold sX7_hasBetter_L16
  refine g_iload hC 4 dX7_hasBetter_16 rfl ?_
  refine g_aload_n hC 1 dX7_hasBetter_18 rfl rfl ?_
  refine g_callv hC (st := [.int p3]) (c := 3) rfl (by decide) rfl (ctX3_allBits x F M) mvX3_allBits m_690 (by decide) rfl rfl (Nat.le_of_ble_eq_true rfl) dX7_hasBetter_19 (fun r5 => ?_)
  show GG x f 7 (Qm x f (φB M)) 22 [(0, .ref (x.1 0)), (1, .ref (x.1 17)), (3, .int a3), (4, .int r2), (5, .int p3)] [.int r5, .int p3] M _
  refine g_icmp_gt hC 70 dX7_hasBetter_22 (by decide) ?_ ?_
  · refine g_iconst hC (v := (0 : Int32)) dX7_hasBetter_70 (by decide) ?_
    exact g_zret hC hm rfl rfl dX7_hasBetter_71
  · refine g_aload_n hC 1 dX7_hasBetter_25 rfl rfl ?_
    refine g_iload hC 4 dX7_hasBetter_26 rfl ?_
    refine g_callv hC (st := []) (c := 3) rfl (by decide) rfl (ctX3_brokenBy x F p3 M) mvX3_brokenBy m_605 (by decide) rfl rfl (Nat.le_of_ble_eq_true rfl) dX7_hasBetter_28 (fun r6 => ?_)
    show GG x f 7 (Qm x f (φB M)) 31 [(0, .ref (x.1 0)), (1, .ref (x.1 17)), (3, .int a3), (4, .int r2), (5, .int p3)] [.int r6] M _
    refine g_iload_n hC 2 dX7_hasBetter_31 rfl rfl ?_
    refine g_iconst hC (v := (-1 : Int32)) dX7_hasBetter_32 (by decide) ?_
    refine g_ixor hC dX7_hasBetter_33 ?_
    refine g_iand hC dX7_hasBetter_34 ?_
    refine g_nm (fun (J8 : Int32 → Option Bool) => ∀ (q7 : Int32), GG x f 7 (Qm x f (φB M)) 43 [(0, .ref (x.1 0)), (1, .ref (x.1 17)), (3, .int a3), (4, .int r2), (5, .int p3)] [.int q7] M (J8 q7)) (fun q7 => ?_) (fun J8 hJ8 => ?_)
    · show GG x f 7 (Qm x f (φB M)) 43 [(0, .ref (x.1 0)), (1, .ref (x.1 17)), (3, .int a3), (4, .int r2), (5, .int p3)] [.int q7] M _
      refine g_istore hC (lv' := [(0, .ref (x.1 0)), (1, .ref (x.1 17)), (3, .int a3), (4, .int r2), (5, .int p3), (6, .int q7)]) [1, 2, 3, 4, 5, 0] dX7_hasBetter_43 (by decide) rfl ?_
      refine g_iload hC 5 dX7_hasBetter_45 rfl ?_
      refine g_nm (fun (J9 : Option Bool) => GG x f 7 (Qm x f (φB M)) 64 [(0, .ref (x.1 0)), (1, .ref (x.1 17)), (3, .int a3), (4, .int r2), (5, .int p3)] [] M J9) ?_ (fun J9 hJ9 => ?_)
      · show GG x f 7 (Qm x f (φB M)) 64 [(0, .ref (x.1 0)), (1, .ref (x.1 17)), (3, .int a3), (4, .int r2), (5, .int p3)] [] M _
        refine g_iinc hC (q := 4) (v := (1 : Int32)) (lv' := [(0, .ref (x.1 0)), (1, .ref (x.1 17)), (3, .int a3), (4, .int r2), (5, .int (p3 + (1 : Int32)))]) [1, 2, 3, 4, 0] dX7_hasBetter_64 rfl (by decide) (by decide) rfl ?_
        refine g_goto hC 16 dX7_hasBetter_67 (by decide) ?_
        exact hrec4 (p3 + (1 : Int32))
      refine g_if_eq hC 64 dX7_hasBetter_47 (by decide) ?_ ?_
      · refine g_lv (lv' := [(0, .ref (x.1 0)), (1, .ref (x.1 17)), (3, .int a3), (4, .int r2), (5, .int p3)]) [0, 1, 2, 3, 4] rfl ?_
        exact hJ9
      · refine g_aload_n hC 0 dX7_hasBetter_50 rfl rfl ?_
        refine g_iload hC 4 dX7_hasBetter_51 rfl ?_
        refine g_iload_n hC 2 dX7_hasBetter_53 rfl rfl ?_
        refine g_callv hC (st := []) (c := 7) rfl (by decide) rfl (ctX7_worthOf x F p3 a3 M) mvX7_worthOf m_678 (by decide) rfl rfl (Nat.le_of_ble_eq_true rfl) dX7_hasBetter_54 (fun r10 => ?_)
        show GG x f 7 (Qm x f (φB M)) 57 [(0, .ref (x.1 0)), (1, .ref (x.1 17)), (3, .int a3), (4, .int r2), (5, .int p3), (6, .int q7)] [.int r10] M _
        refine g_iload hC 3 dX7_hasBetter_57 rfl ?_
        refine g_icmp_le hC 64 dX7_hasBetter_59 (by decide) ?_ ?_
        · refine g_lv (lv' := [(0, .ref (x.1 0)), (1, .ref (x.1 17)), (3, .int a3), (4, .int r2), (5, .int p3)]) [0, 1, 2, 3, 4] rfl ?_
          exact hJ9
        · refine g_iconst hC (v := (1 : Int32)) dX7_hasBetter_62 (by decide) ?_
          exact g_zret hC hm rfl rfl dX7_hasBetter_63
    refine g_if_ne hC 42 dX7_hasBetter_35 (by decide) ?_ ?_
    · refine g_iconst hC (v := (0 : Int32)) dX7_hasBetter_42 (by decide) ?_
      exact hJ8 (0 : Int32)
    · refine g_iconst hC (v := (1 : Int32)) dX7_hasBetter_38 (by decide) ?_
      refine g_goto hC 43 dX7_hasBetter_39 (by decide) ?_
      exact hJ8 (1 : Int32)
def sX7_rest (F : Nat) (a1 : Int32) (a2 : Int32) (M : Mem) : Option (Int32 × Mem) :=
(sX7_isNoRow F a1 M).bind (fun r1 =>
if r1 = true then
(some ((-2 : Int32), M))
else
((sX7_isOutside F a2 (6 : Int32) M).bind (fun r2 =>
if r2 = true then
(some ((-2 : Int32), M))
else
((sX7_rowsNow F M).bind (fun r3 =>
(sX3_brokenBy F a1 r3).bind (fun r4 =>
if r4 = 0 then
(ib (0 : Int32) 3 (
(sX1_with F (8 + 1 + ix (0 : Int32)) (0 : Int32) a2 r3).bind (fun r6 =>
(sX7_hasBetter F a1 r6 r3).bind (fun r7 =>
if r7 = true then
(some ((0 : Int32), r3))
else
(some ((1 : Int32), r3))))))
else
(some ((-3 : Int32), r3))))))))
theorem mvX7_rest : MV yX7_rest cX7_rest 4 (some .int) 2 := ⟨⟨m_685, m_67, by decide, by decide, by decide⟩, m_683, m_684⟩
set_option maxHeartbeats 4000000 in
set_option maxRecDepth 100000 in
theorem ctX7_rest (x : Wx) (F : Nat) (a1 : Int32) (a2 : Int32) (M : Mem) : Ct x yX7_rest cX7_rest 4 (some .int) { frames := 4, cells := 0, slots := 0, locals := 93 } φIM [.ref (x.1 0), .int a1, .int a2] M (sX7_rest F a1 a2 M) := by
  refine ct_of (by decide) (Nat.le_of_ble_eq_true rfl) (fun f hC hm => ?_)
  have hC : Cx x f "AnswersFirst" cX7_rest 4 { frames := 4, cells := 0, slots := 0, locals := 93 } := hC
  show GG x f 4 (Qm x f φIM) 0 [(0, .ref (x.1 0)), (1, .int a1), (2, .int a2)] [] M _
  unfold sX7_rest
  refine g_iload_n hC 1 dX7_rest_0 rfl rfl ?_
  refine g_calls hC (st := []) (ctX7_isNoRow x F a1 M) msX7_isNoRow m_602 (by decide) rfl rfl (Nat.le_of_ble_eq_true rfl) dX7_rest_1 (fun r1 => ?_)
  show GG x f 4 (Qm x f φIM) 4 [(0, .ref (x.1 0)), (1, .int a1), (2, .int a2)] [.int (bi r1)] M _
  refine g_ifB_ne hC 16 dX7_rest_4 (by decide) ?_ ?_
  · refine g_bipush hC (v := (-2 : Int32)) dX7_rest_16 (by decide) ?_
    exact g_iret hC hm rfl dX7_rest_18
  · refine g_iload_n hC 2 dX7_rest_7 rfl rfl ?_
    refine g_bipush hC (v := (6 : Int32)) dX7_rest_8 (by decide) ?_
    refine g_calls hC (st := []) (ctX7_isOutside x F a2 (6 : Int32) M) msX7_isOutside m_285 (by decide) rfl rfl (Nat.le_of_ble_eq_true rfl) dX7_rest_10 (fun r2 => ?_)
    show GG x f 4 (Qm x f φIM) 13 [(0, .ref (x.1 0)), (1, .int a1), (2, .int a2)] [.int (bi r2)] M _
    refine g_ifB_eq hC 19 dX7_rest_13 (by decide) ?_ ?_
    · refine g_bipush hC (v := (-2 : Int32)) dX7_rest_16 (by decide) ?_
      exact g_iret hC hm rfl dX7_rest_18
    · refine g_aload_n hC 0 dX7_rest_19 rfl rfl ?_
      refine g_callv hC (st := []) (c := 7) rfl (by decide) rfl (ctX7_rowsNow x F M) mvX7_rowsNow m_515 (by decide) rfl rfl (Nat.le_of_ble_eq_true rfl) dX7_rest_20 (fun r3 => ?_)
      show GG x f 4 (Qm x f φIM) 23 [(0, .ref (x.1 0)), (1, .int a1), (2, .int a2)] [.ref (x.1 17)] r3 _
      refine g_astore_n hC (lv' := [(0, .ref (x.1 0)), (1, .int a1), (2, .int a2), (3, .ref (x.1 17))]) [1, 2, 3, 0] dX7_rest_23 rfl (by decide) rfl ?_
      refine g_aload_n hC 3 dX7_rest_24 rfl rfl ?_
      refine g_iload_n hC 1 dX7_rest_25 rfl rfl ?_
      refine g_callv hC (st := []) (c := 3) rfl (by decide) rfl (ctX3_brokenBy x F a1 r3) mvX3_brokenBy m_605 (by decide) rfl rfl (Nat.le_of_ble_eq_true rfl) dX7_rest_26 (fun r4 => ?_)
      show GG x f 4 (Qm x f φIM) 29 [(0, .ref (x.1 0)), (1, .int a1), (2, .int a2), (3, .ref (x.1 17))] [.int r4] r3 _
      refine g_if_eq hC 35 dX7_rest_29 (by decide) ?_ ?_
      · refine g_aload_n hC 0 dX7_rest_35 rfl rfl ?_
        refine g_aload_n hC 3 dX7_rest_36 rfl rfl ?_
        refine g_iload_n hC 1 dX7_rest_37 rfl rfl ?_
        refine g_aload_n hC 0 dX7_rest_38 rfl rfl ?_
        refine g_getR hC cf7 (t := 8) rfl 1 (by decide) rfl m_245 dX7_rest_39 ?_
        refine g_iconst hC (v := (0 : Int32)) dX7_rest_42 (by decide) ?_
        refine g_aald hC 12 rfl (by decide) rfl dX7_rest_43 (fun hi5 => ?_)
        show GG x f 4 (Qm x f φIM) 44 [(0, .ref (x.1 0)), (1, .int a1), (2, .int a2), (3, .ref (x.1 17))] [.ref (x.1 (8 + 1 + ix (0 : Int32))), .int a1, .ref (x.1 17), .ref (x.1 0)] r3 _
        refine g_iconst hC (v := (0 : Int32)) dX7_rest_44 (by decide) ?_
        refine g_iload_n hC 2 dX7_rest_45 rfl rfl ?_
        refine g_callv hC (st := [.int a1, .ref (x.1 17), .ref (x.1 0)]) (c := 1) rfl (by decide) (ka_E hi5) (ctX1_with x F (8 + 1 + ix (0 : Int32)) (0 : Int32) a2 (ka_E hi5) r3) mvX1_with m_657 (by decide) rfl rfl (Nat.le_of_ble_eq_true rfl) dX7_rest_46 (fun r6 => ?_)
        show GG x f 4 (Qm x f φIM) 49 [(0, .ref (x.1 0)), (1, .int a1), (2, .int a2), (3, .ref (x.1 17))] [.int r6, .int a1, .ref (x.1 17), .ref (x.1 0)] r3 _
        refine g_callv hC (st := []) (c := 7) rfl (by decide) rfl (ctX7_hasBetter x F a1 r6 r3) mvX7_hasBetter m_686 (by decide) rfl rfl (Nat.le_of_ble_eq_true rfl) dX7_rest_49 (fun r7 => ?_)
        show GG x f 4 (Qm x f φIM) 52 [(0, .ref (x.1 0)), (1, .int a1), (2, .int a2), (3, .ref (x.1 17))] [.int (bi r7)] r3 _
        refine g_ifB_eq hC 59 dX7_rest_52 (by decide) ?_ ?_
        · refine g_iconst hC (v := (0 : Int32)) dX7_rest_55 (by decide) ?_
          refine g_goto hC 60 dX7_rest_56 (by decide) ?_
          exact g_iret hC hm rfl dX7_rest_60
        · refine g_iconst hC (v := (1 : Int32)) dX7_rest_59 (by decide) ?_
          exact g_iret hC hm rfl dX7_rest_60
      · refine g_bipush hC (v := (-3 : Int32)) dX7_rest_32 (by decide) ?_
        exact g_iret hC hm rfl dX7_rest_34
def sX7_accountsNow (F : Nat) (M : Mem) : Option Mem :=
if (M 0 7) = 0 then
(some M)
else
(ib (1 : Int32) 3 (
ib (2 : Int32) 3 (
ib (0 : Int32) 4 (
ib (1 : Int32) 4 (
(sX0_workOut F (8 + 1 + ix (1 : Int32)) (8 + 1 + ix (2 : Int32)) (M 15 (ix (0 : Int32))) (M 15 (ix (1 : Int32))) M).bind (fun r3 =>
nm (st2 r3 0 7 (0 : Int32)) (fun M4 =>
some M4)))))))
theorem mvX7_accountsNow : MV yX7_accountsNow cX7_accountsNow 1 (some (.object "AnswersFirst$Accounts")) 0 := ⟨⟨m_701, m_67, by decide, by decide, by decide⟩, m_700, m_14⟩
set_option maxHeartbeats 4000000 in
set_option maxRecDepth 100000 in
theorem ctX7_accountsNow (x : Wx) (F : Nat) (M : Mem) : Ct x yX7_accountsNow cX7_accountsNow 1 (some (.object "AnswersFirst$Accounts")) { frames := 3, cells := 0, slots := 0, locals := 76 } (φR x 23) [.ref (x.1 0)] M (sX7_accountsNow F M) := by
  refine ct_of (by decide) (Nat.le_of_ble_eq_true rfl) (fun f hC hm => ?_)
  have hC : Cx x f "AnswersFirst" cX7_accountsNow 1 { frames := 3, cells := 0, slots := 0, locals := 76 } := hC
  show GG x f 1 (Qm x f (φR x 23)) 0 [(0, .ref (x.1 0))] [] M _
  unfold sX7_accountsNow
  refine g_aload_n hC 0 dX7_accountsNow_0 rfl rfl ?_
  refine g_getI hC cf7 rfl 7 (by decide) rfl m_251 dX7_accountsNow_1 ?_
  refine g_if_eq hC 43 dX7_accountsNow_4 (by decide) ?_ ?_
  · refine g_aload_n hC 0 dX7_accountsNow_43 rfl rfl ?_
    refine g_getR hC cf7 (t := 23) rfl 6 (by decide) rfl m_250 dX7_accountsNow_44 ?_
    exact g_aret hC hm rfl dX7_accountsNow_47
  · refine g_aload_n hC 0 dX7_accountsNow_7 rfl rfl ?_
    refine g_getR hC cf7 (t := 23) rfl 6 (by decide) rfl m_250 dX7_accountsNow_8 ?_
    refine g_aload_n hC 0 dX7_accountsNow_11 rfl rfl ?_
    refine g_getR hC cf7 (t := 8) rfl 1 (by decide) rfl m_245 dX7_accountsNow_12 ?_
    refine g_iconst hC (v := (1 : Int32)) dX7_accountsNow_15 (by decide) ?_
    refine g_aald hC 12 rfl (by decide) rfl dX7_accountsNow_16 (fun hi1 => ?_)
    show GG x f 1 (Qm x f (φR x 23)) 17 [(0, .ref (x.1 0))] [.ref (x.1 (8 + 1 + ix (1 : Int32))), .ref (x.1 23)] M _
    refine g_aload_n hC 0 dX7_accountsNow_17 rfl rfl ?_
    refine g_getR hC cf7 (t := 8) rfl 1 (by decide) rfl m_245 dX7_accountsNow_18 ?_
    refine g_iconst hC (v := (2 : Int32)) dX7_accountsNow_21 (by decide) ?_
    refine g_aald hC 12 rfl (by decide) rfl dX7_accountsNow_22 (fun hi2 => ?_)
    show GG x f 1 (Qm x f (φR x 23)) 23 [(0, .ref (x.1 0))] [.ref (x.1 (8 + 1 + ix (2 : Int32))), .ref (x.1 (8 + 1 + ix (1 : Int32))), .ref (x.1 23)] M _
    refine g_aload_n hC 0 dX7_accountsNow_23 rfl rfl ?_
    refine g_getR hC cf7 (t := 15) rfl 2 (by decide) rfl m_246 dX7_accountsNow_24 ?_
    refine g_iconst hC (v := (0 : Int32)) dX7_accountsNow_27 (by decide) ?_
    refine g_iald hC rfl rfl dX7_accountsNow_28 ?_
    refine g_aload_n hC 0 dX7_accountsNow_29 rfl rfl ?_
    refine g_getR hC cf7 (t := 15) rfl 2 (by decide) rfl m_246 dX7_accountsNow_30 ?_
    refine g_iconst hC (v := (1 : Int32)) dX7_accountsNow_33 (by decide) ?_
    refine g_iald hC rfl rfl dX7_accountsNow_34 ?_
    refine g_callv hC (st := []) (c := 0) rfl (by decide) rfl (ctX0_workOut x F (8 + 1 + ix (1 : Int32)) (8 + 1 + ix (2 : Int32)) (M 15 (ix (0 : Int32))) (M 15 (ix (1 : Int32))) (ka_E hi1) (ka_E hi2) M) mvX0_workOut m_702 (by decide) rfl rfl (Nat.le_of_ble_eq_true rfl) dX7_accountsNow_35 (fun r3 => ?_)
    show GG x f 1 (Qm x f (φR x 23)) 38 [(0, .ref (x.1 0))] [] r3 _
    refine g_aload_n hC 0 dX7_accountsNow_38 rfl rfl ?_
    refine g_iconst hC (v := (0 : Int32)) dX7_accountsNow_39 (by decide) ?_
    refine g_put hC cf7 rfl 7 (by decide) rfl m_251 rfl rfl rfl dX7_accountsNow_40 (fun M4 => ?_)
    show GG x f 1 (Qm x f (φR x 23)) 43 [(0, .ref (x.1 0))] [] M4 _
    refine g_aload_n hC 0 dX7_accountsNow_43 rfl rfl ?_
    refine g_getR hC cf7 (t := 23) rfl 6 (by decide) rfl m_250 dX7_accountsNow_44 ?_
    exact g_aret hC hm rfl dX7_accountsNow_47
def sX7_owed (F : Nat) (a1 : Int32) (M : Mem) : Option (Int32 × Mem) :=
nm (nm (fun (q2 : Int32) =>
(sX7_accountsNow F M).bind (fun r4 =>
(sX0_owedAmong F q2 r4).bind (fun r5 =>
some (r5, r4)))) (fun J3 =>
if ¬ a1 = (-1 : Int32) then
(ib (1 : Int32) 3 (
(sX1_with F (8 + 1 + ix (1 : Int32)) (1 : Int32) a1 M).bind (fun r7 =>
J3 r7)))
else
(J3 (1023 : Int32)))) (fun J1 =>
if a1 = (-1 : Int32) then
(J1)
else
((sX7_isOutside F a1 (6 : Int32) M).bind (fun r8 =>
if r8 = true then
(some ((-2 : Int32), M))
else
(J1))))
theorem mvX7_owed : MV yX7_owed cX7_owed 3 (some .int) 1 := ⟨⟨m_697, m_67, by decide, by decide, by decide⟩, m_695, m_696⟩
set_option maxHeartbeats 4000000 in
set_option maxRecDepth 100000 in
theorem ctX7_owed (x : Wx) (F : Nat) (a1 : Int32) (M : Mem) : Ct x yX7_owed cX7_owed 3 (some .int) { frames := 4, cells := 0, slots := 0, locals := 96 } φIM [.ref (x.1 0), .int a1] M (sX7_owed F a1 M) := by
  refine ct_of (by decide) (Nat.le_of_ble_eq_true rfl) (fun f hC hm => ?_)
  have hC : Cx x f "AnswersFirst" cX7_owed 3 { frames := 4, cells := 0, slots := 0, locals := 96 } := hC
  show GG x f 3 (Qm x f φIM) 0 [(0, .ref (x.1 0)), (1, .int a1)] [] M _
  unfold sX7_owed
  refine g_iload_n hC 1 dX7_owed_0 rfl rfl ?_
  refine g_iconst hC (v := (-1 : Int32)) dX7_owed_1 (by decide) ?_
  refine g_nm (fun (J1 : Option (Int32 × Mem)) => GG x f 3 (Qm x f φIM) 17 [(0, .ref (x.1 0)), (1, .int a1)] [] M J1) ?_ (fun J1 hJ1 => ?_)
  · show GG x f 3 (Qm x f φIM) 17 [(0, .ref (x.1 0)), (1, .int a1)] [] M _
    refine g_iload_n hC 1 dX7_owed_17 rfl rfl ?_
    refine g_iconst hC (v := (-1 : Int32)) dX7_owed_18 (by decide) ?_
    refine g_nm (fun (J3 : Int32 → Option (Int32 × Mem)) => ∀ (q2 : Int32), GG x f 3 (Qm x f φIM) 39 [(0, .ref (x.1 0))] [.int q2] M (J3 q2)) (fun q2 => ?_) (fun J3 hJ3 => ?_)
    · show GG x f 3 (Qm x f φIM) 39 [(0, .ref (x.1 0))] [.int q2] M _
      refine g_istore_n hC (lv' := [(0, .ref (x.1 0)), (2, .int q2)]) [1, 0] dX7_owed_39 rfl (by decide) rfl ?_
      refine g_aload_n hC 0 dX7_owed_40 rfl rfl ?_
      refine g_callv hC (st := []) (c := 7) rfl (by decide) rfl (ctX7_accountsNow x F M) mvX7_accountsNow m_698 (by decide) rfl rfl (Nat.le_of_ble_eq_true rfl) dX7_owed_41 (fun r4 => ?_)
      show GG x f 3 (Qm x f φIM) 44 [(0, .ref (x.1 0)), (2, .int q2)] [.ref (x.1 23)] r4 _
      refine g_iload_n hC 1 dX7_owed_44 rfl rfl ?_
      refine g_callv hC (st := []) (c := 0) rfl (by decide) rfl (ctX0_owedAmong x F q2 r4) mvX0_owedAmong m_723 (by decide) rfl rfl (Nat.le_of_ble_eq_true rfl) dX7_owed_45 (fun r5 => ?_)
      show GG x f 3 (Qm x f φIM) 48 [(0, .ref (x.1 0)), (2, .int q2)] [.int r5] r4 _
      exact g_iret hC hm rfl dX7_owed_48
    refine g_icmp_ne hC 28 dX7_owed_19 (by decide) ?_ ?_
    · refine g_aload_n hC 0 dX7_owed_28 rfl rfl ?_
      refine g_getR hC cf7 (t := 8) rfl 1 (by decide) rfl m_245 dX7_owed_29 ?_
      refine g_iconst hC (v := (1 : Int32)) dX7_owed_32 (by decide) ?_
      refine g_aald hC 12 rfl (by decide) rfl dX7_owed_33 (fun hi6 => ?_)
      show GG x f 3 (Qm x f φIM) 34 [(0, .ref (x.1 0)), (1, .int a1)] [.ref (x.1 (8 + 1 + ix (1 : Int32)))] M _
      refine g_iconst hC (v := (1 : Int32)) dX7_owed_34 (by decide) ?_
      refine g_iload_n hC 1 dX7_owed_35 rfl rfl ?_
      refine g_callv hC (st := []) (c := 1) rfl (by decide) (ka_E hi6) (ctX1_with x F (8 + 1 + ix (1 : Int32)) (1 : Int32) a1 (ka_E hi6) M) mvX1_with m_657 (by decide) rfl rfl (Nat.le_of_ble_eq_true rfl) dX7_owed_36 (fun r7 => ?_)
      show GG x f 3 (Qm x f φIM) 39 [(0, .ref (x.1 0)), (1, .int a1)] [.int r7] M _
      refine g_lv (lv' := [(0, .ref (x.1 0))]) [0] rfl ?_
      exact hJ3 r7
    · refine g_sipush hC (v := (1023 : Int32)) dX7_owed_22 (by decide) ?_
      refine g_goto hC 39 dX7_owed_25 (by decide) ?_
      refine g_lv (lv' := [(0, .ref (x.1 0))]) [0] rfl ?_
      exact hJ3 (1023 : Int32)
  refine g_icmp_eq hC 17 dX7_owed_2 (by decide) ?_ ?_
  · exact hJ1
  · refine g_iload_n hC 1 dX7_owed_5 rfl rfl ?_
    refine g_bipush hC (v := (6 : Int32)) dX7_owed_6 (by decide) ?_
    refine g_calls hC (st := []) (ctX7_isOutside x F a1 (6 : Int32) M) msX7_isOutside m_285 (by decide) rfl rfl (Nat.le_of_ble_eq_true rfl) dX7_owed_8 (fun r8 => ?_)
    show GG x f 3 (Qm x f φIM) 11 [(0, .ref (x.1 0)), (1, .int a1)] [.int (bi r8)] M _
    refine g_ifB_eq hC 17 dX7_owed_11 (by decide) ?_ ?_
    · refine g_bipush hC (v := (-2 : Int32)) dX7_owed_14 (by decide) ?_
      exact g_iret hC hm rfl dX7_owed_16
    · exact hJ1
def sX7_lack (F : Nat) (M : Mem) : Option (Int32 × Mem) :=
(sX7_accountsNow F M).bind (fun r1 =>
(sX0_lacking F r1).bind (fun r2 =>
some (r2, r1)))
theorem mvX7_lack : MV yX7_lack cX7_lack 1 (some .int) 0 := ⟨⟨m_730, m_67, by decide, by decide, by decide⟩, m_728, m_729⟩
set_option maxHeartbeats 4000000 in
set_option maxRecDepth 100000 in
theorem ctX7_lack (x : Wx) (F : Nat) (M : Mem) : Ct x yX7_lack cX7_lack 1 (some .int) { frames := 4, cells := 0, slots := 0, locals := 96 } φIM [.ref (x.1 0)] M (sX7_lack F M) := by
  refine ct_of (by decide) (Nat.le_of_ble_eq_true rfl) (fun f hC hm => ?_)
  have hC : Cx x f "AnswersFirst" cX7_lack 1 { frames := 4, cells := 0, slots := 0, locals := 96 } := hC
  show GG x f 1 (Qm x f φIM) 0 [(0, .ref (x.1 0))] [] M _
  unfold sX7_lack
  refine g_aload_n hC 0 dX7_lack_0 rfl rfl ?_
  refine g_callv hC (st := []) (c := 7) rfl (by decide) rfl (ctX7_accountsNow x F M) mvX7_accountsNow m_698 (by decide) rfl rfl (Nat.le_of_ble_eq_true rfl) dX7_lack_1 (fun r1 => ?_)
  show GG x f 1 (Qm x f φIM) 4 [(0, .ref (x.1 0))] [.ref (x.1 23)] r1 _
  refine g_callv hC (st := []) (c := 0) rfl (by decide) rfl (ctX0_lacking x F r1) mvX0_lacking m_731 (by decide) rfl rfl (Nat.le_of_ble_eq_true rfl) dX7_lack_4 (fun r2 => ?_)
  show GG x f 1 (Qm x f φIM) 7 [(0, .ref (x.1 0))] [.int r2] r1 _
  exact g_iret hC hm rfl dX7_lack_7
def sX7_unasked (F : Nat) (M : Mem) : Option (Int32 × Mem) :=
(sX7_accountsNow F M).bind (fun r1 =>
(sX0_withoutReply F r1).bind (fun r2 =>
some (r2, r1)))
theorem mvX7_unasked : MV yX7_unasked cX7_unasked 1 (some .int) 0 := ⟨⟨m_738, m_67, by decide, by decide, by decide⟩, m_736, m_737⟩
set_option maxHeartbeats 4000000 in
set_option maxRecDepth 100000 in
theorem ctX7_unasked (x : Wx) (F : Nat) (M : Mem) : Ct x yX7_unasked cX7_unasked 1 (some .int) { frames := 4, cells := 0, slots := 0, locals := 96 } φIM [.ref (x.1 0)] M (sX7_unasked F M) := by
  refine ct_of (by decide) (Nat.le_of_ble_eq_true rfl) (fun f hC hm => ?_)
  have hC : Cx x f "AnswersFirst" cX7_unasked 1 { frames := 4, cells := 0, slots := 0, locals := 96 } := hC
  show GG x f 1 (Qm x f φIM) 0 [(0, .ref (x.1 0))] [] M _
  unfold sX7_unasked
  refine g_aload_n hC 0 dX7_unasked_0 rfl rfl ?_
  refine g_callv hC (st := []) (c := 7) rfl (by decide) rfl (ctX7_accountsNow x F M) mvX7_accountsNow m_698 (by decide) rfl rfl (Nat.le_of_ble_eq_true rfl) dX7_unasked_1 (fun r1 => ?_)
  show GG x f 1 (Qm x f φIM) 4 [(0, .ref (x.1 0))] [.ref (x.1 23)] r1 _
  refine g_callv hC (st := []) (c := 0) rfl (by decide) rfl (ctX0_withoutReply x F r1) mvX0_withoutReply m_739 (by decide) rfl rfl (Nat.le_of_ble_eq_true rfl) dX7_unasked_4 (fun r2 => ?_)
  show GG x f 1 (Qm x f φIM) 7 [(0, .ref (x.1 0))] [.int r2] r1 _
  exact g_iret hC hm rfl dX7_unasked_7
def sX7_fines (F : Nat) (a1 : Int32) (M : Mem) : Option (Int32 × Mem) :=
(sX7_isOutside F a1 (6 : Int32) M).bind (fun r1 =>
if r1 = true then
(some ((-2 : Int32), M))
else
((sX7_accountsNow F M).bind (fun r2 =>
ib (1 : Int32) 3 (
(sX1_with F (8 + 1 + ix (1 : Int32)) (1 : Int32) a1 r2).bind (fun r4 =>
(sX0_owedAmong F r4 r2).bind (fun r5 =>
ib (2 : Int32) 4 (
some ((r5 * (r2 15 (ix (2 : Int32)))), r2))))))))
theorem mvX7_fines : MV yX7_fines cX7_fines 2 (some .int) 1 := ⟨⟨m_746, m_67, by decide, by decide, by decide⟩, m_744, m_745⟩
set_option maxHeartbeats 4000000 in
set_option maxRecDepth 100000 in
theorem ctX7_fines (x : Wx) (F : Nat) (a1 : Int32) (M : Mem) : Ct x yX7_fines cX7_fines 2 (some .int) { frames := 4, cells := 0, slots := 0, locals := 96 } φIM [.ref (x.1 0), .int a1] M (sX7_fines F a1 M) := by
  refine ct_of (by decide) (Nat.le_of_ble_eq_true rfl) (fun f hC hm => ?_)
  have hC : Cx x f "AnswersFirst" cX7_fines 2 { frames := 4, cells := 0, slots := 0, locals := 96 } := hC
  show GG x f 2 (Qm x f φIM) 0 [(0, .ref (x.1 0)), (1, .int a1)] [] M _
  unfold sX7_fines
  refine g_iload_n hC 1 dX7_fines_0 rfl rfl ?_
  refine g_bipush hC (v := (6 : Int32)) dX7_fines_1 (by decide) ?_
  refine g_calls hC (st := []) (ctX7_isOutside x F a1 (6 : Int32) M) msX7_isOutside m_285 (by decide) rfl rfl (Nat.le_of_ble_eq_true rfl) dX7_fines_3 (fun r1 => ?_)
  show GG x f 2 (Qm x f φIM) 6 [(0, .ref (x.1 0)), (1, .int a1)] [.int (bi r1)] M _
  refine g_ifB_eq hC 12 dX7_fines_6 (by decide) ?_ ?_
  · refine g_bipush hC (v := (-2 : Int32)) dX7_fines_9 (by decide) ?_
    exact g_iret hC hm rfl dX7_fines_11
  · refine g_aload_n hC 0 dX7_fines_12 rfl rfl ?_
    refine g_callv hC (st := []) (c := 7) rfl (by decide) rfl (ctX7_accountsNow x F M) mvX7_accountsNow m_698 (by decide) rfl rfl (Nat.le_of_ble_eq_true rfl) dX7_fines_13 (fun r2 => ?_)
    show GG x f 2 (Qm x f φIM) 16 [(0, .ref (x.1 0)), (1, .int a1)] [.ref (x.1 23)] r2 _
    refine g_aload_n hC 0 dX7_fines_16 rfl rfl ?_
    refine g_getR hC cf7 (t := 8) rfl 1 (by decide) rfl m_245 dX7_fines_17 ?_
    refine g_iconst hC (v := (1 : Int32)) dX7_fines_20 (by decide) ?_
    refine g_aald hC 12 rfl (by decide) rfl dX7_fines_21 (fun hi3 => ?_)
    show GG x f 2 (Qm x f φIM) 22 [(0, .ref (x.1 0)), (1, .int a1)] [.ref (x.1 (8 + 1 + ix (1 : Int32))), .ref (x.1 23)] r2 _
    refine g_iconst hC (v := (1 : Int32)) dX7_fines_22 (by decide) ?_
    refine g_iload_n hC 1 dX7_fines_23 rfl rfl ?_
    refine g_callv hC (st := [.ref (x.1 23)]) (c := 1) rfl (by decide) (ka_E hi3) (ctX1_with x F (8 + 1 + ix (1 : Int32)) (1 : Int32) a1 (ka_E hi3) r2) mvX1_with m_657 (by decide) rfl rfl (Nat.le_of_ble_eq_true rfl) dX7_fines_24 (fun r4 => ?_)
    show GG x f 2 (Qm x f φIM) 27 [(0, .ref (x.1 0)), (1, .int a1)] [.int r4, .ref (x.1 23)] r2 _
    refine g_callv hC (st := []) (c := 0) rfl (by decide) rfl (ctX0_owedAmong x F r4 r2) mvX0_owedAmong m_723 (by decide) rfl rfl (Nat.le_of_ble_eq_true rfl) dX7_fines_27 (fun r5 => ?_)
    show GG x f 2 (Qm x f φIM) 30 [(0, .ref (x.1 0)), (1, .int a1)] [.int r5] r2 _
    refine g_aload_n hC 0 dX7_fines_30 rfl rfl ?_
    refine g_getR hC cf7 (t := 15) rfl 2 (by decide) rfl m_246 dX7_fines_31 ?_
    refine g_iconst hC (v := (2 : Int32)) dX7_fines_34 (by decide) ?_
    refine g_iald hC rfl rfl dX7_fines_35 ?_
    refine g_imul hC dX7_fines_36 ?_
    exact g_iret hC hm rfl dX7_fines_37
def sX7_seen (F : Nat) (a1 : Int32) (a2 : Int32) (M : Mem) : Option (Int32 × Mem) :=
(sX7_isNotSeeable F a1 a2 M).bind (fun r1 =>
if r1 = true then
(some ((-2 : Int32), M))
else
((sX4_isFull F M).bind (fun r2 =>
if r2 = true then
(some ((-4 : Int32), M))
else
((sX4_add F a1 a2 M).bind (fun r3 =>
(sX4_howMany F r3).bind (fun r4 =>
some (r4, r3)))))))
theorem mvX7_seen : MV yX7_seen cX7_seen 3 (some .int) 2 := ⟨⟨m_750, m_67, by decide, by decide, by decide⟩, m_748, m_749⟩
set_option maxHeartbeats 4000000 in
set_option maxRecDepth 100000 in
theorem ctX7_seen (x : Wx) (F : Nat) (a1 : Int32) (a2 : Int32) (M : Mem) : Ct x yX7_seen cX7_seen 3 (some .int) { frames := 2, cells := 0, slots := 0, locals := 42 } φIM [.ref (x.1 0), .int a1, .int a2] M (sX7_seen F a1 a2 M) := by
  refine ct_of (by decide) (Nat.le_of_ble_eq_true rfl) (fun f hC hm => ?_)
  have hC : Cx x f "AnswersFirst" cX7_seen 3 { frames := 2, cells := 0, slots := 0, locals := 42 } := hC
  show GG x f 3 (Qm x f φIM) 0 [(0, .ref (x.1 0)), (1, .int a1), (2, .int a2)] [] M _
  unfold sX7_seen
  refine g_iload_n hC 1 dX7_seen_0 rfl rfl ?_
  refine g_iload_n hC 2 dX7_seen_1 rfl rfl ?_
  refine g_calls hC (st := []) (ctX7_isNotSeeable x F a1 a2 M) msX7_isNotSeeable m_500 (by decide) rfl rfl (Nat.le_of_ble_eq_true rfl) dX7_seen_2 (fun r1 => ?_)
  show GG x f 3 (Qm x f φIM) 5 [(0, .ref (x.1 0)), (1, .int a1), (2, .int a2)] [.int (bi r1)] M _
  refine g_ifB_eq hC 11 dX7_seen_5 (by decide) ?_ ?_
  · refine g_bipush hC (v := (-2 : Int32)) dX7_seen_8 (by decide) ?_
    exact g_iret hC hm rfl dX7_seen_10
  · refine g_aload_n hC 0 dX7_seen_11 rfl rfl ?_
    refine g_getR hC cf7 (t := 26) rfl 8 (by decide) rfl m_252 dX7_seen_12 ?_
    refine g_callv hC (st := []) (c := 4) rfl (by decide) rfl (ctX4_isFull x F M) mvX4_isFull m_503 (by decide) rfl rfl (Nat.le_of_ble_eq_true rfl) dX7_seen_15 (fun r2 => ?_)
    show GG x f 3 (Qm x f φIM) 18 [(0, .ref (x.1 0)), (1, .int a1), (2, .int a2)] [.int (bi r2)] M _
    refine g_ifB_eq hC 24 dX7_seen_18 (by decide) ?_ ?_
    · refine g_bipush hC (v := (-4 : Int32)) dX7_seen_21 (by decide) ?_
      exact g_iret hC hm rfl dX7_seen_23
    · refine g_aload_n hC 0 dX7_seen_24 rfl rfl ?_
      refine g_getR hC cf7 (t := 26) rfl 8 (by decide) rfl m_252 dX7_seen_25 ?_
      refine g_iload_n hC 1 dX7_seen_28 rfl rfl ?_
      refine g_iload_n hC 2 dX7_seen_29 rfl rfl ?_
      refine g_callv hC (st := []) (c := 4) rfl (by decide) rfl (ctX4_add x F a1 a2 M) mvX4_add m_507 (by decide) rfl rfl (Nat.le_of_ble_eq_true rfl) dX7_seen_30 (fun r3 => ?_)
      show GG x f 3 (Qm x f φIM) 33 [(0, .ref (x.1 0)), (1, .int a1), (2, .int a2)] [] r3 _
      refine g_aload_n hC 0 dX7_seen_33 rfl rfl ?_
      refine g_getR hC cf7 (t := 26) rfl 8 (by decide) rfl m_252 dX7_seen_34 ?_
      refine g_callv hC (st := []) (c := 4) rfl (by decide) rfl (ctX4_howMany x F r3) mvX4_howMany m_488 (by decide) rfl rfl (Nat.le_of_ble_eq_true rfl) dX7_seen_37 (fun r4 => ?_)
      show GG x f 3 (Qm x f φIM) 40 [(0, .ref (x.1 0)), (1, .int a1), (2, .int a2)] [.int r4] r3 _
      exact g_iret hC hm rfl dX7_seen_40
def sX7_forget (F : Nat) (M : Mem) : Option (Int32 × Mem) :=
(sX4_howMany F M).bind (fun r1 =>
(sX4_clearAll F M).bind (fun r2 =>
some (r1, r2)))
theorem mvX7_forget : MV yX7_forget cX7_forget 2 (some .int) 0 := ⟨⟨m_754, m_67, by decide, by decide, by decide⟩, m_752, m_753⟩
set_option maxHeartbeats 4000000 in
set_option maxRecDepth 100000 in
theorem ctX7_forget (x : Wx) (F : Nat) (M : Mem) : Ct x yX7_forget cX7_forget 2 (some .int) { frames := 1, cells := 0, slots := 0, locals := 20 } φIM [.ref (x.1 0)] M (sX7_forget F M) := by
  refine ct_of (by decide) (Nat.le_of_ble_eq_true rfl) (fun f hC hm => ?_)
  have hC : Cx x f "AnswersFirst" cX7_forget 2 { frames := 1, cells := 0, slots := 0, locals := 20 } := hC
  show GG x f 2 (Qm x f φIM) 0 [(0, .ref (x.1 0))] [] M _
  unfold sX7_forget
  refine g_aload_n hC 0 dX7_forget_0 rfl rfl ?_
  refine g_getR hC cf7 (t := 26) rfl 8 (by decide) rfl m_252 dX7_forget_1 ?_
  refine g_callv hC (st := []) (c := 4) rfl (by decide) rfl (ctX4_howMany x F M) mvX4_howMany m_488 (by decide) rfl rfl (Nat.le_of_ble_eq_true rfl) dX7_forget_4 (fun r1 => ?_)
  show GG x f 2 (Qm x f φIM) 7 [(0, .ref (x.1 0))] [.int r1] M _
  refine g_istore_n hC (lv' := [(0, .ref (x.1 0)), (1, .int r1)]) [1, 0] dX7_forget_7 rfl (by decide) rfl ?_
  refine g_aload_n hC 0 dX7_forget_8 rfl rfl ?_
  refine g_getR hC cf7 (t := 26) rfl 8 (by decide) rfl m_252 dX7_forget_9 ?_
  refine g_callv hC (st := []) (c := 4) rfl (by decide) rfl (ctX4_clearAll x F M) mvX4_clearAll m_755 (by decide) rfl rfl (Nat.le_of_ble_eq_true rfl) dX7_forget_12 (fun r2 => ?_)
  show GG x f 2 (Qm x f φIM) 15 [(0, .ref (x.1 0)), (1, .int r1)] [] r2 _
  refine g_iload_n hC 1 dX7_forget_15 rfl rfl ?_
  exact g_iret hC hm rfl dX7_forget_16
def sX7_refused_L34 (F : Nat) (r2 : Mem) (J7 : Int32 → Int32 → Option (Int32 × Mem)) (rec11 : Int32 → Int32 → Int32 → Option (Int32 × Mem)) (p8 : Int32) (p9 : Int32) (p10 : Int32) : Option (Int32 × Mem) :=
(sX3_howMany F r2).bind (fun r12 =>
if r12 ≤ p10 then
(J7 p8 p9)
else
((sX3_nth F p10 r2).bind (fun r13 =>
(sX4_agreesWith F r13 r2).bind (fun r14 =>
nm (fun (p15 : Int32) (p16 : Int32) =>
rec11 p15 p16 (p10 + (1 : Int32))) (fun J17 =>
if r14 = true then
(nm (p9 &&& r13) (fun v18 =>
J17 (p8 + (1 : Int32)) v18))
else
(J17 p8 p9))))))
def sX7_refused (F : Nat) (a1 : Int32) (M : Mem) : Option (Int32 × Mem) :=
(sX7_isOutside F a1 (2 : Int32) M).bind (fun r1 =>
if r1 = true then
(some ((-2 : Int32), M))
else
((sX7_rowsNow F M).bind (fun r2 =>
ib (0 : Int32) 3 (
(sX1_with F (8 + 1 + ix (0 : Int32)) (3 : Int32) (0 : Int32) r2).bind (fun r4 =>
nm (fun (p5 : Int32) (p6 : Int32) =>
if ¬ a1 = 0 then
(if ¬ p5 = 0 then
(some (p6, r2))
else
(some ((0 : Int32), r2)))
else
(some (p5, r2))) (fun J7 =>
fx3 F (sX7_refused_L34 F r2 J7) (0 : Int32) r4 (0 : Int32)))))))
theorem mvX7_refused : MV yX7_refused cX7_refused 7 (some .int) 1 := ⟨⟨m_762, m_67, by decide, by decide, by decide⟩, m_760, m_761⟩
set_option maxHeartbeats 4000000 in
set_option maxRecDepth 100000 in
theorem ctX7_refused (x : Wx) (F : Nat) (a1 : Int32) (M : Mem) : Ct x yX7_refused cX7_refused 7 (some .int) { frames := 4, cells := 0, slots := 0, locals := 93 } φIM [.ref (x.1 0), .int a1] M (sX7_refused F a1 M) := by
  refine ct_of (by decide) (Nat.le_of_ble_eq_true rfl) (fun f hC hm => ?_)
  have hC : Cx x f "AnswersFirst" cX7_refused 7 { frames := 4, cells := 0, slots := 0, locals := 93 } := hC
  show GG x f 7 (Qm x f φIM) 0 [(0, .ref (x.1 0)), (1, .int a1)] [] M _
  unfold sX7_refused
  refine g_iload_n hC 1 dX7_refused_0 rfl rfl ?_
  refine g_iconst hC (v := (2 : Int32)) dX7_refused_1 (by decide) ?_
  refine g_calls hC (st := []) (ctX7_isOutside x F a1 (2 : Int32) M) msX7_isOutside m_285 (by decide) rfl rfl (Nat.le_of_ble_eq_true rfl) dX7_refused_2 (fun r1 => ?_)
  show GG x f 7 (Qm x f φIM) 5 [(0, .ref (x.1 0)), (1, .int a1)] [.int (bi r1)] M _
  refine g_ifB_eq hC 11 dX7_refused_5 (by decide) ?_ ?_
  · refine g_bipush hC (v := (-2 : Int32)) dX7_refused_8 (by decide) ?_
    exact g_iret hC hm rfl dX7_refused_10
  · refine g_aload_n hC 0 dX7_refused_11 rfl rfl ?_
    refine g_callv hC (st := []) (c := 7) rfl (by decide) rfl (ctX7_rowsNow x F M) mvX7_rowsNow m_515 (by decide) rfl rfl (Nat.le_of_ble_eq_true rfl) dX7_refused_12 (fun r2 => ?_)
    show GG x f 7 (Qm x f φIM) 15 [(0, .ref (x.1 0)), (1, .int a1)] [.ref (x.1 17)] r2 _
    refine g_astore_n hC (lv' := [(0, .ref (x.1 0)), (1, .int a1), (2, .ref (x.1 17))]) [1, 2, 0] dX7_refused_15 rfl (by decide) rfl ?_
    refine g_iconst hC (v := (0 : Int32)) dX7_refused_16 (by decide) ?_
    refine g_istore_n hC (lv' := [(0, .ref (x.1 0)), (1, .int a1), (2, .ref (x.1 17)), (3, .int (0 : Int32))]) [1, 2, 3, 0] dX7_refused_17 rfl (by decide) rfl ?_
    refine g_aload_n hC 0 dX7_refused_18 rfl rfl ?_
    refine g_getR hC cf7 (t := 8) rfl 1 (by decide) rfl m_245 dX7_refused_19 ?_
    refine g_iconst hC (v := (0 : Int32)) dX7_refused_22 (by decide) ?_
    refine g_aald hC 12 rfl (by decide) rfl dX7_refused_23 (fun hi3 => ?_)
    show GG x f 7 (Qm x f φIM) 24 [(0, .ref (x.1 0)), (1, .int a1), (2, .ref (x.1 17)), (3, .int (0 : Int32))] [.ref (x.1 (8 + 1 + ix (0 : Int32)))] r2 _
    refine g_iconst hC (v := (3 : Int32)) dX7_refused_24 (by decide) ?_
    refine g_iconst hC (v := (0 : Int32)) dX7_refused_25 (by decide) ?_
    refine g_callv hC (st := []) (c := 1) rfl (by decide) (ka_E hi3) (ctX1_with x F (8 + 1 + ix (0 : Int32)) (3 : Int32) (0 : Int32) (ka_E hi3) r2) mvX1_with m_657 (by decide) rfl rfl (Nat.le_of_ble_eq_true rfl) dX7_refused_26 (fun r4 => ?_)
    show GG x f 7 (Qm x f φIM) 29 [(0, .ref (x.1 0)), (1, .int a1), (2, .ref (x.1 17)), (3, .int (0 : Int32))] [.int r4] r2 _
    refine g_istore hC (lv' := [(0, .ref (x.1 0)), (1, .int a1), (2, .ref (x.1 17)), (3, .int (0 : Int32)), (4, .int r4)]) [1, 2, 3, 4, 0] dX7_refused_29 (by decide) rfl ?_
    refine g_iconst hC (v := (0 : Int32)) dX7_refused_31 (by decide) ?_
    refine g_istore hC (lv' := [(0, .ref (x.1 0)), (1, .int a1), (2, .ref (x.1 17)), (3, .int (0 : Int32)), (4, .int r4), (5, .int (0 : Int32))]) [1, 2, 3, 4, 5, 0] dX7_refused_32 (by decide) rfl ?_
    refine g_nm (fun (J7 : Int32 → Int32 → Option (Int32 × Mem)) => ∀ (p5 : Int32) (p6 : Int32), GG x f 7 (Qm x f φIM) 79 [(1, .int a1), (3, .int p5), (4, .int p6)] [] r2 (J7 p5 p6)) (fun p5 p6 => ?_) (fun J7 hJ7 => ?_)
    · show GG x f 7 (Qm x f φIM) 79 [(1, .int a1), (3, .int p5), (4, .int p6)] [] r2 _
      refine g_iload_n hC 0 dX7_refused_79 rfl rfl ?_
      refine g_if_ne hC 85 dX7_refused_80 (by decide) ?_ ?_
      · refine g_iload_n hC 1 dX7_refused_85 rfl rfl ?_
        refine g_if_ne hC 93 dX7_refused_86 (by decide) ?_ ?_
        · refine g_iload hC 2 dX7_refused_93 rfl ?_
          exact g_iret hC hm rfl dX7_refused_95
        · refine g_iconst hC (v := (0 : Int32)) dX7_refused_89 (by decide) ?_
          refine g_goto hC 95 dX7_refused_90 (by decide) ?_
          exact g_iret hC hm rfl dX7_refused_95
      · refine g_iload_n hC 1 dX7_refused_83 rfl rfl ?_
        exact g_iret hC hm rfl dX7_refused_84
    refine g_fx3 (fun (p8 : Int32) (p9 : Int32) (p10 : Int32) => [(0, .ref (x.1 0)), (1, .int a1), (2, .ref (x.1 17)), (3, .int p8), (4, .int p9), (5, .int p10)]) (fun (p8 : Int32) (p9 : Int32) (p10 : Int32) => r2) (fun rec11 hrec11 p8 p9 p10 => ?_) F _ _ _
    show GG x f 7 (Qm x f φIM) 34 [(0, .ref (x.1 0)), (1, .int a1), (2, .ref (x.1 17)), (3, .int p8), (4, .int p9), (5, .int p10)] [] r2 _
    unfold sX7_refused_L34
    refine g_iload hC 5 dX7_refused_34 rfl ?_
    refine g_aload_n hC 2 dX7_refused_36 rfl rfl ?_
    refine g_callv hC (st := [.int p10]) (c := 3) rfl (by decide) rfl (ctX3_howMany x F r2) mvX3_howMany m_547 (by decide) rfl rfl (Nat.le_of_ble_eq_true rfl) dX7_refused_37 (fun r12 => ?_)
    show GG x f 7 (Qm x f φIM) 40 [(0, .ref (x.1 0)), (1, .int a1), (2, .ref (x.1 17)), (3, .int p8), (4, .int p9), (5, .int p10)] [.int r12, .int p10] r2 _
    refine g_icmp_ge hC 79 dX7_refused_40 (by decide) ?_ ?_
    · refine g_lv (lv' := [(1, .int a1), (3, .int p8), (4, .int p9)]) [1, 3, 4] rfl ?_
      exact hJ7 p8 p9
    · refine g_aload_n hC 2 dX7_refused_43 rfl rfl ?_
      refine g_iload hC 5 dX7_refused_44 rfl ?_
      refine g_callv hC (st := []) (c := 3) rfl (by decide) rfl (ctX3_nth x F p10 r2) mvX3_nth m_551 (by decide) rfl rfl (Nat.le_of_ble_eq_true rfl) dX7_refused_46 (fun r13 => ?_)
      show GG x f 7 (Qm x f φIM) 49 [(0, .ref (x.1 0)), (1, .int a1), (2, .ref (x.1 17)), (3, .int p8), (4, .int p9), (5, .int p10)] [.int r13] r2 _
      refine g_istore hC (lv' := [(0, .ref (x.1 0)), (1, .int a1), (2, .ref (x.1 17)), (3, .int p8), (4, .int p9), (5, .int p10), (6, .int r13)]) [1, 2, 3, 4, 5, 6, 0] dX7_refused_49 (by decide) rfl ?_
      refine g_aload_n hC 0 dX7_refused_51 rfl rfl ?_
      refine g_getR hC cf7 (t := 26) rfl 8 (by decide) rfl m_252 dX7_refused_52 ?_
      refine g_iload hC 6 dX7_refused_55 rfl ?_
      refine g_callv hC (st := []) (c := 4) rfl (by decide) rfl (ctX4_agreesWith x F r13 r2) mvX4_agreesWith m_763 (by decide) rfl rfl (Nat.le_of_ble_eq_true rfl) dX7_refused_57 (fun r14 => ?_)
      show GG x f 7 (Qm x f φIM) 60 [(0, .ref (x.1 0)), (1, .int a1), (2, .ref (x.1 17)), (3, .int p8), (4, .int p9), (5, .int p10), (6, .int r13)] [.int (bi r14)] r2 _
      refine g_nm (fun (J17 : Int32 → Int32 → Option (Int32 × Mem)) => ∀ (p15 : Int32) (p16 : Int32), GG x f 7 (Qm x f φIM) 73 [(0, .ref (x.1 0)), (1, .int a1), (2, .ref (x.1 17)), (3, .int p15), (4, .int p16), (5, .int p10)] [] r2 (J17 p15 p16)) (fun p15 p16 => ?_) (fun J17 hJ17 => ?_)
      · show GG x f 7 (Qm x f φIM) 73 [(0, .ref (x.1 0)), (1, .int a1), (2, .ref (x.1 17)), (3, .int p15), (4, .int p16), (5, .int p10)] [] r2 _
        refine g_iinc hC (q := 5) (v := (1 : Int32)) (lv' := [(0, .ref (x.1 0)), (1, .int a1), (2, .ref (x.1 17)), (3, .int p15), (4, .int p16), (5, .int (p10 + (1 : Int32)))]) [1, 2, 3, 4, 5, 0] dX7_refused_73 rfl (by decide) (by decide) rfl ?_
        refine g_goto hC 34 dX7_refused_76 (by decide) ?_
        exact hrec11 p15 p16 (p10 + (1 : Int32))
      refine g_ifB_eq hC 73 dX7_refused_60 (by decide) ?_ ?_
      · refine g_iinc hC (q := 3) (v := (1 : Int32)) (lv' := [(0, .ref (x.1 0)), (1, .int a1), (2, .ref (x.1 17)), (3, .int (p8 + (1 : Int32))), (4, .int p9), (5, .int p10), (6, .int r13)]) [1, 2, 3, 0, 4, 5, 6] dX7_refused_63 rfl (by decide) (by decide) rfl ?_
        refine g_iload hC 4 dX7_refused_66 rfl ?_
        refine g_iload hC 6 dX7_refused_68 rfl ?_
        refine g_iand hC dX7_refused_70 ?_
        refine g_top (fun v18 => ?_)
        show GG x f 7 (Qm x f φIM) 71 [(0, .ref (x.1 0)), (1, .int a1), (2, .ref (x.1 17)), (3, .int (p8 + (1 : Int32))), (4, .int p9), (5, .int p10), (6, .int r13)] [.int v18] r2 _
        refine g_istore hC (lv' := [(0, .ref (x.1 0)), (1, .int a1), (2, .ref (x.1 17)), (3, .int (p8 + (1 : Int32))), (4, .int v18), (5, .int p10)]) [1, 2, 3, 4, 0, 5] dX7_refused_71 (by decide) rfl ?_
        exact hJ17 (p8 + (1 : Int32)) v18
      · refine g_lv (lv' := [(0, .ref (x.1 0)), (1, .int a1), (2, .ref (x.1 17)), (3, .int p8), (4, .int p9), (5, .int p10)]) [0, 1, 2, 3, 4, 5] rfl ?_
        exact hJ17 p8 p9
def sX7_lot_L50 (F : Nat) (a2 : Int32) (r2 : Int32) (rec7 : Int32 → Int32 → Mem → Option (Int32 × Mem)) (p4 : Int32) (p5 : Int32) (M6 : Mem) : Option (Int32 × Mem) :=
if a2 ≤ p5 then
(some (p4, M6))
else
((sX7_rowsNow F M6).bind (fun r8 =>
(sX2_drawRow F r2 r8).bind (fun r9 =>
(sX3_brokenBy F r9.1 r9.2).bind (fun r10 =>
nm (fun (p11 : Int32) =>
rec7 p11 (p5 + (1 : Int32)) r9.2) (fun J12 =>
if ¬ r10 = 0 then
(J12 p4)
else
(J12 (p4 + (1 : Int32))))))))
def sX7_lot (F : Nat) (a1 : Int32) (a2 : Int32) (M : Mem) : Option (Int32 × Mem) :=
if a2 < 0 then
(some ((-2 : Int32), M))
else
(if a2 ≤ (99 : Int32) then
(ib (0 : Int32) 3 (
(sX1_howMany F (8 + 1 + ix (0 : Int32)) M).bind (fun r2 =>
(sX2_beginWith F a1 M).bind (fun r3 =>
if ¬ a2 = 0 then
(fx3 F (sX7_lot_L50 F a2 r2) (0 : Int32) (0 : Int32) r3)
else
((sX2_drawRow F r2 r3).bind (fun r13 =>
some (r13.1, r13.2)))))))
else
(some ((-2 : Int32), M)))
theorem mvX7_lot : MV yX7_lot cX7_lot 6 (some .int) 2 := ⟨⟨m_770, m_67, by decide, by decide, by decide⟩, m_768, m_769⟩
set_option maxHeartbeats 4000000 in
set_option maxRecDepth 100000 in
theorem ctX7_lot (x : Wx) (F : Nat) (a1 : Int32) (a2 : Int32) (M : Mem) : Ct x yX7_lot cX7_lot 6 (some .int) { frames := 4, cells := 0, slots := 0, locals := 93 } φIM [.ref (x.1 0), .int a1, .int a2] M (sX7_lot F a1 a2 M) := by
  refine ct_of (by decide) (Nat.le_of_ble_eq_true rfl) (fun f hC hm => ?_)
  have hC : Cx x f "AnswersFirst" cX7_lot 6 { frames := 4, cells := 0, slots := 0, locals := 93 } := hC
  show GG x f 6 (Qm x f φIM) 0 [(0, .ref (x.1 0)), (1, .int a1), (2, .int a2)] [] M _
  unfold sX7_lot
  refine g_iload_n hC 2 dX7_lot_0 rfl rfl ?_
  refine g_if_lt hC 10 dX7_lot_1 (by decide) ?_ ?_
  · refine g_bipush hC (v := (-2 : Int32)) dX7_lot_10 (by decide) ?_
    exact g_iret hC hm rfl dX7_lot_12
  · refine g_iload_n hC 2 dX7_lot_4 rfl rfl ?_
    refine g_bipush hC (v := (99 : Int32)) dX7_lot_5 (by decide) ?_
    refine g_icmp_le hC 13 dX7_lot_7 (by decide) ?_ ?_
    · refine g_aload_n hC 0 dX7_lot_13 rfl rfl ?_
      refine g_getR hC cf7 (t := 8) rfl 1 (by decide) rfl m_245 dX7_lot_14 ?_
      refine g_iconst hC (v := (0 : Int32)) dX7_lot_17 (by decide) ?_
      refine g_aald hC 12 rfl (by decide) rfl dX7_lot_18 (fun hi1 => ?_)
      show GG x f 6 (Qm x f φIM) 19 [(0, .ref (x.1 0)), (1, .int a1), (2, .int a2)] [.ref (x.1 (8 + 1 + ix (0 : Int32)))] M _
      refine g_callv hC (st := []) (c := 1) rfl (by decide) (ka_E hi1) (ctX1_howMany x F (8 + 1 + ix (0 : Int32)) (ka_E hi1) M) mvX1_howMany m_456 (by decide) rfl rfl (Nat.le_of_ble_eq_true rfl) dX7_lot_19 (fun r2 => ?_)
      show GG x f 6 (Qm x f φIM) 22 [(0, .ref (x.1 0)), (1, .int a1), (2, .int a2)] [.int r2] M _
      refine g_istore_n hC (lv' := [(0, .ref (x.1 0)), (1, .int a1), (2, .int a2), (3, .int r2)]) [1, 2, 3, 0] dX7_lot_22 rfl (by decide) rfl ?_
      refine g_aload_n hC 0 dX7_lot_23 rfl rfl ?_
      refine g_getR hC cf7 (t := 27) rfl 9 (by decide) rfl m_253 dX7_lot_24 ?_
      refine g_iload_n hC 1 dX7_lot_27 rfl rfl ?_
      refine g_callv hC (st := []) (c := 2) rfl (by decide) rfl (ctX2_beginWith x F a1 M) mvX2_beginWith m_771 (by decide) rfl rfl (Nat.le_of_ble_eq_true rfl) dX7_lot_28 (fun r3 => ?_)
      show GG x f 6 (Qm x f φIM) 31 [(0, .ref (x.1 0)), (1, .int a1), (2, .int a2), (3, .int r2)] [] r3 _
      refine g_iload_n hC 2 dX7_lot_31 rfl rfl ?_
      refine g_if_ne hC 44 dX7_lot_32 (by decide) ?_ ?_
      · refine g_iconst hC (v := (0 : Int32)) dX7_lot_44 (by decide) ?_
        refine g_istore hC (lv' := [(0, .ref (x.1 0)), (2, .int a2), (3, .int r2), (4, .int (0 : Int32))]) [1, 3, 4, 0] dX7_lot_45 (by decide) rfl ?_
        refine g_iconst hC (v := (0 : Int32)) dX7_lot_47 (by decide) ?_
        refine g_istore hC (lv' := [(0, .ref (x.1 0)), (2, .int a2), (3, .int r2), (4, .int (0 : Int32)), (5, .int (0 : Int32))]) [1, 2, 3, 4, 0] dX7_lot_48 (by decide) rfl ?_
        refine g_fx3 (fun (p4 : Int32) (p5 : Int32) (M6 : Mem) => [(0, .ref (x.1 0)), (2, .int a2), (3, .int r2), (4, .int p4), (5, .int p5)]) (fun (p4 : Int32) (p5 : Int32) (M6 : Mem) => M6) (fun rec7 hrec7 p4 p5 M6 => ?_) F _ _ _
        show GG x f 6 (Qm x f φIM) 50 [(0, .ref (x.1 0)), (2, .int a2), (3, .int r2), (4, .int p4), (5, .int p5)] [] M6 _
        unfold sX7_lot_L50
        refine g_iload hC 4 dX7_lot_50 rfl ?_
        refine g_iload_n hC 1 dX7_lot_52 rfl rfl ?_
        refine g_icmp_ge hC 83 dX7_lot_53 (by decide) ?_ ?_
        · refine g_iload hC 3 dX7_lot_83 rfl ?_
          exact g_iret hC hm rfl dX7_lot_85
        · refine g_aload_n hC 0 dX7_lot_56 rfl rfl ?_
          refine g_callv hC (st := []) (c := 7) rfl (by decide) rfl (ctX7_rowsNow x F M6) mvX7_rowsNow m_515 (by decide) rfl rfl (Nat.le_of_ble_eq_true rfl) dX7_lot_57 (fun r8 => ?_)
          show GG x f 6 (Qm x f φIM) 60 [(0, .ref (x.1 0)), (2, .int a2), (3, .int r2), (4, .int p4), (5, .int p5)] [.ref (x.1 17)] r8 _
          refine g_aload_n hC 0 dX7_lot_60 rfl rfl ?_
          refine g_getR hC cf7 (t := 27) rfl 9 (by decide) rfl m_253 dX7_lot_61 ?_
          refine g_iload_n hC 2 dX7_lot_64 rfl rfl ?_
          refine g_callv hC (st := [.ref (x.1 17)]) (c := 2) rfl (by decide) rfl (ctX2_drawRow x F r2 r8) mvX2_drawRow m_775 (by decide) rfl rfl (Nat.le_of_ble_eq_true rfl) dX7_lot_65 (fun r9 => ?_)
          show GG x f 6 (Qm x f φIM) 68 [(0, .ref (x.1 0)), (2, .int a2), (3, .int r2), (4, .int p4), (5, .int p5)] [.int (r9.1), .ref (x.1 17)] r9.2 _
          refine g_callv hC (st := []) (c := 3) rfl (by decide) rfl (ctX3_brokenBy x F r9.1 r9.2) mvX3_brokenBy m_605 (by decide) rfl rfl (Nat.le_of_ble_eq_true rfl) dX7_lot_68 (fun r10 => ?_)
          show GG x f 6 (Qm x f φIM) 71 [(0, .ref (x.1 0)), (2, .int a2), (3, .int r2), (4, .int p4), (5, .int p5)] [.int r10] r9.2 _
          refine g_nm (fun (J12 : Int32 → Option (Int32 × Mem)) => ∀ (p11 : Int32), GG x f 6 (Qm x f φIM) 77 [(0, .ref (x.1 0)), (2, .int a2), (3, .int r2), (4, .int p11), (5, .int p5)] [] r9.2 (J12 p11)) (fun p11 => ?_) (fun J12 hJ12 => ?_)
          · show GG x f 6 (Qm x f φIM) 77 [(0, .ref (x.1 0)), (2, .int a2), (3, .int r2), (4, .int p11), (5, .int p5)] [] r9.2 _
            refine g_iinc hC (q := 4) (v := (1 : Int32)) (lv' := [(0, .ref (x.1 0)), (2, .int a2), (3, .int r2), (4, .int p11), (5, .int (p5 + (1 : Int32)))]) [1, 2, 3, 4, 0] dX7_lot_77 rfl (by decide) (by decide) rfl ?_
            refine g_goto hC 50 dX7_lot_80 (by decide) ?_
            exact hrec7 p11 (p5 + (1 : Int32)) r9.2
          refine g_if_ne hC 77 dX7_lot_71 (by decide) ?_ ?_
          · exact hJ12 p4
          · refine g_iinc hC (q := 3) (v := (1 : Int32)) (lv' := [(0, .ref (x.1 0)), (2, .int a2), (3, .int r2), (4, .int (p4 + (1 : Int32))), (5, .int p5)]) [1, 2, 3, 0, 4] dX7_lot_74 rfl (by decide) (by decide) rfl ?_
            exact hJ12 (p4 + (1 : Int32))
      · refine g_aload_n hC 0 dX7_lot_35 rfl rfl ?_
        refine g_getR hC cf7 (t := 27) rfl 9 (by decide) rfl m_253 dX7_lot_36 ?_
        refine g_iload_n hC 3 dX7_lot_39 rfl rfl ?_
        refine g_callv hC (st := []) (c := 2) rfl (by decide) rfl (ctX2_drawRow x F r2 r3) mvX2_drawRow m_775 (by decide) rfl rfl (Nat.le_of_ble_eq_true rfl) dX7_lot_40 (fun r13 => ?_)
        show GG x f 6 (Qm x f φIM) 43 [(0, .ref (x.1 0)), (1, .int a1), (2, .int a2), (3, .int r2)] [.int (r13.1)] r13.2 _
        exact g_iret hC hm rfl dX7_lot_43
    · refine g_bipush hC (v := (-2 : Int32)) dX7_lot_10 (by decide) ?_
      exact g_iret hC hm rfl dX7_lot_12
def sX7_sheet (F : Nat) (a1 : Int32) (a2 : Int32) (a3 : Int32) (M : Mem) : Option (Int32 × Mem) :=
(sX7_isOutside F a1 (4 : Int32) M).bind (fun r1 =>
if r1 = true then
(some ((-2 : Int32), M))
else
((sX7_isOutside F a2 (3 : Int32) M).bind (fun r2 =>
if r2 = true then
(some ((-2 : Int32), M))
else
(if a3 ≤ (48 : Int32) then
(if 0 ≤ a3 then
(ib a1 4 (
(sX5_begin F (28 + 1 + ix a1) a2 a3 M).bind (fun r4 =>
some (a3, r4))))
else
((sX7_finding F (5 : Int32) M).bind (fun r5 =>
some (r5.1, r5.2))))
else
(some ((-2 : Int32), M))))))
theorem mvX7_sheet : MV yX7_sheet cX7_sheet 4 (some .int) 3 := ⟨⟨m_787, m_67, by decide, by decide, by decide⟩, m_785, m_786⟩
set_option maxHeartbeats 4000000 in
set_option maxRecDepth 100000 in
theorem ctX7_sheet (x : Wx) (F : Nat) (a1 : Int32) (a2 : Int32) (a3 : Int32) (M : Mem) : Ct x yX7_sheet cX7_sheet 4 (some .int) { frames := 2, cells := 0, slots := 0, locals := 45 } φIM [.ref (x.1 0), .int a1, .int a2, .int a3] M (sX7_sheet F a1 a2 a3 M) := by
  refine ct_of (by decide) (Nat.le_of_ble_eq_true rfl) (fun f hC hm => ?_)
  have hC : Cx x f "AnswersFirst" cX7_sheet 4 { frames := 2, cells := 0, slots := 0, locals := 45 } := hC
  show GG x f 4 (Qm x f φIM) 0 [(0, .ref (x.1 0)), (1, .int a1), (2, .int a2), (3, .int a3)] [] M _
  unfold sX7_sheet
  refine g_iload_n hC 1 dX7_sheet_0 rfl rfl ?_
  refine g_iconst hC (v := (4 : Int32)) dX7_sheet_1 (by decide) ?_
  refine g_calls hC (st := []) (ctX7_isOutside x F a1 (4 : Int32) M) msX7_isOutside m_285 (by decide) rfl rfl (Nat.le_of_ble_eq_true rfl) dX7_sheet_2 (fun r1 => ?_)
  show GG x f 4 (Qm x f φIM) 5 [(0, .ref (x.1 0)), (1, .int a1), (2, .int a2), (3, .int a3)] [.int (bi r1)] M _
  refine g_ifB_ne hC 22 dX7_sheet_5 (by decide) ?_ ?_
  · refine g_bipush hC (v := (-2 : Int32)) dX7_sheet_22 (by decide) ?_
    exact g_iret hC hm rfl dX7_sheet_24
  · refine g_iload_n hC 2 dX7_sheet_8 rfl rfl ?_
    refine g_iconst hC (v := (3 : Int32)) dX7_sheet_9 (by decide) ?_
    refine g_calls hC (st := []) (ctX7_isOutside x F a2 (3 : Int32) M) msX7_isOutside m_285 (by decide) rfl rfl (Nat.le_of_ble_eq_true rfl) dX7_sheet_10 (fun r2 => ?_)
    show GG x f 4 (Qm x f φIM) 13 [(0, .ref (x.1 0)), (1, .int a1), (2, .int a2), (3, .int a3)] [.int (bi r2)] M _
    refine g_ifB_ne hC 22 dX7_sheet_13 (by decide) ?_ ?_
    · refine g_bipush hC (v := (-2 : Int32)) dX7_sheet_22 (by decide) ?_
      exact g_iret hC hm rfl dX7_sheet_24
    · refine g_iload_n hC 3 dX7_sheet_16 rfl rfl ?_
      refine g_bipush hC (v := (48 : Int32)) dX7_sheet_17 (by decide) ?_
      refine g_icmp_le hC 25 dX7_sheet_19 (by decide) ?_ ?_
      · refine g_iload_n hC 3 dX7_sheet_25 rfl rfl ?_
        refine g_if_ge hC 35 dX7_sheet_26 (by decide) ?_ ?_
        · refine g_aload_n hC 0 dX7_sheet_35 rfl rfl ?_
          refine g_getR hC cf7 (t := 28) rfl 10 (by decide) rfl m_254 dX7_sheet_36 ?_
          refine g_iload_n hC 1 dX7_sheet_39 rfl rfl ?_
          refine g_aald hC 13 rfl (by decide) rfl dX7_sheet_40 (fun hi3 => ?_)
          show GG x f 4 (Qm x f φIM) 41 [(0, .ref (x.1 0)), (1, .int a1), (2, .int a2), (3, .int a3)] [.ref (x.1 (28 + 1 + ix a1))] M _
          refine g_iload_n hC 2 dX7_sheet_41 rfl rfl ?_
          refine g_iload_n hC 3 dX7_sheet_42 rfl rfl ?_
          refine g_callv hC (st := []) (c := 5) rfl (by decide) (ka_S hi3) (ctX5_begin x F (28 + 1 + ix a1) a2 a3 (ka_S hi3) M) mvX5_begin m_788 (by decide) rfl rfl (Nat.le_of_ble_eq_true rfl) dX7_sheet_43 (fun r4 => ?_)
          show GG x f 4 (Qm x f φIM) 46 [(0, .ref (x.1 0)), (1, .int a1), (2, .int a2), (3, .int a3)] [] r4 _
          refine g_iload_n hC 3 dX7_sheet_46 rfl rfl ?_
          exact g_iret hC hm rfl dX7_sheet_47
        · refine g_aload_n hC 0 dX7_sheet_29 rfl rfl ?_
          refine g_iconst hC (v := (5 : Int32)) dX7_sheet_30 (by decide) ?_
          refine g_callv hC (st := []) (c := 7) rfl (by decide) rfl (ctX7_finding x F (5 : Int32) M) mvX7_finding m_484 (by decide) rfl rfl (Nat.le_of_ble_eq_true rfl) dX7_sheet_31 (fun r5 => ?_)
          show GG x f 4 (Qm x f φIM) 34 [(0, .ref (x.1 0)), (1, .int a1), (2, .int a2), (3, .int a3)] [.int (r5.1)] r5.2 _
          exact g_iret hC hm rfl dX7_sheet_34
      · refine g_bipush hC (v := (-2 : Int32)) dX7_sheet_22 (by decide) ?_
        exact g_iret hC hm rfl dX7_sheet_24
def sX7_lose (F : Nat) (a1 : Int32) (M : Mem) : Option (Int32 × Mem) :=
(sX7_isOutside F a1 (4 : Int32) M).bind (fun r1 =>
if r1 = true then
(some ((-2 : Int32), M))
else
(ib a1 4 (
(sX5_isLost F (28 + 1 + ix a1) M).bind (fun r3 =>
if r3 = true then
((sX7_finding F (1 : Int32) M).bind (fun r4 =>
some (r4.1, r4.2)))
else
(ib a1 4 (
(sX5_length F (28 + 1 + ix a1) M).bind (fun r6 =>
ib a1 4 (
(sX5_becomeLost F (28 + 1 + ix a1) M).bind (fun r8 =>
some (r6, r8))))))))))
theorem mvX7_lose : MV yX7_lose cX7_lose 3 (some .int) 1 := ⟨⟨m_798, m_67, by decide, by decide, by decide⟩, m_796, m_797⟩
set_option maxHeartbeats 4000000 in
set_option maxRecDepth 100000 in
theorem ctX7_lose (x : Wx) (F : Nat) (a1 : Int32) (M : Mem) : Ct x yX7_lose cX7_lose 3 (some .int) { frames := 1, cells := 0, slots := 0, locals := 21 } φIM [.ref (x.1 0), .int a1] M (sX7_lose F a1 M) := by
  refine ct_of (by decide) (Nat.le_of_ble_eq_true rfl) (fun f hC hm => ?_)
  have hC : Cx x f "AnswersFirst" cX7_lose 3 { frames := 1, cells := 0, slots := 0, locals := 21 } := hC
  show GG x f 3 (Qm x f φIM) 0 [(0, .ref (x.1 0)), (1, .int a1)] [] M _
  unfold sX7_lose
  refine g_iload_n hC 1 dX7_lose_0 rfl rfl ?_
  refine g_iconst hC (v := (4 : Int32)) dX7_lose_1 (by decide) ?_
  refine g_calls hC (st := []) (ctX7_isOutside x F a1 (4 : Int32) M) msX7_isOutside m_285 (by decide) rfl rfl (Nat.le_of_ble_eq_true rfl) dX7_lose_2 (fun r1 => ?_)
  show GG x f 3 (Qm x f φIM) 5 [(0, .ref (x.1 0)), (1, .int a1)] [.int (bi r1)] M _
  refine g_ifB_eq hC 11 dX7_lose_5 (by decide) ?_ ?_
  · refine g_bipush hC (v := (-2 : Int32)) dX7_lose_8 (by decide) ?_
    exact g_iret hC hm rfl dX7_lose_10
  · refine g_aload_n hC 0 dX7_lose_11 rfl rfl ?_
    refine g_getR hC cf7 (t := 28) rfl 10 (by decide) rfl m_254 dX7_lose_12 ?_
    refine g_iload_n hC 1 dX7_lose_15 rfl rfl ?_
    refine g_aald hC 13 rfl (by decide) rfl dX7_lose_16 (fun hi2 => ?_)
    show GG x f 3 (Qm x f φIM) 17 [(0, .ref (x.1 0)), (1, .int a1)] [.ref (x.1 (28 + 1 + ix a1))] M _
    refine g_callv hC (st := []) (c := 5) rfl (by decide) (ka_S hi2) (ctX5_isLost x F (28 + 1 + ix a1) (ka_S hi2) M) mvX5_isLost m_480 (by decide) rfl rfl (Nat.le_of_ble_eq_true rfl) dX7_lose_17 (fun r3 => ?_)
    show GG x f 3 (Qm x f φIM) 20 [(0, .ref (x.1 0)), (1, .int a1)] [.int (bi r3)] M _
    refine g_ifB_eq hC 29 dX7_lose_20 (by decide) ?_ ?_
    · refine g_aload_n hC 0 dX7_lose_23 rfl rfl ?_
      refine g_iconst hC (v := (1 : Int32)) dX7_lose_24 (by decide) ?_
      refine g_callv hC (st := []) (c := 7) rfl (by decide) rfl (ctX7_finding x F (1 : Int32) M) mvX7_finding m_484 (by decide) rfl rfl (Nat.le_of_ble_eq_true rfl) dX7_lose_25 (fun r4 => ?_)
      show GG x f 3 (Qm x f φIM) 28 [(0, .ref (x.1 0)), (1, .int a1)] [.int (r4.1)] r4.2 _
      exact g_iret hC hm rfl dX7_lose_28
    · refine g_aload_n hC 0 dX7_lose_29 rfl rfl ?_
      refine g_getR hC cf7 (t := 28) rfl 10 (by decide) rfl m_254 dX7_lose_30 ?_
      refine g_iload_n hC 1 dX7_lose_33 rfl rfl ?_
      refine g_aald hC 13 rfl (by decide) rfl dX7_lose_34 (fun hi5 => ?_)
      show GG x f 3 (Qm x f φIM) 35 [(0, .ref (x.1 0)), (1, .int a1)] [.ref (x.1 (28 + 1 + ix a1))] M _
      refine g_callv hC (st := []) (c := 5) rfl (by decide) (ka_S hi5) (ctX5_length x F (28 + 1 + ix a1) (ka_S hi5) M) mvX5_length m_492 (by decide) rfl rfl (Nat.le_of_ble_eq_true rfl) dX7_lose_35 (fun r6 => ?_)
      show GG x f 3 (Qm x f φIM) 38 [(0, .ref (x.1 0)), (1, .int a1)] [.int r6] M _
      refine g_istore_n hC (lv' := [(0, .ref (x.1 0)), (1, .int a1), (2, .int r6)]) [1, 2, 0] dX7_lose_38 rfl (by decide) rfl ?_
      refine g_aload_n hC 0 dX7_lose_39 rfl rfl ?_
      refine g_getR hC cf7 (t := 28) rfl 10 (by decide) rfl m_254 dX7_lose_40 ?_
      refine g_iload_n hC 1 dX7_lose_43 rfl rfl ?_
      refine g_aald hC 13 rfl (by decide) rfl dX7_lose_44 (fun hi7 => ?_)
      show GG x f 3 (Qm x f φIM) 45 [(0, .ref (x.1 0)), (1, .int a1), (2, .int r6)] [.ref (x.1 (28 + 1 + ix a1))] M _
      refine g_callv hC (st := []) (c := 5) rfl (by decide) (ka_S hi7) (ctX5_becomeLost x F (28 + 1 + ix a1) (ka_S hi7) M) mvX5_becomeLost m_799 (by decide) rfl rfl (Nat.le_of_ble_eq_true rfl) dX7_lose_45 (fun r8 => ?_)
      show GG x f 3 (Qm x f φIM) 48 [(0, .ref (x.1 0)), (1, .int a1), (2, .int r6)] [] r8 _
      refine g_iload_n hC 2 dX7_lose_48 rfl rfl ?_
      exact g_iret hC hm rfl dX7_lose_49
def sX7_itemRefusal (F : Nat) (k1 : Nat) (a2 : Int32) (a3 : Int32) (M : Mem) : Option (Int32 × Mem) :=
(sX7_isOutside F a2 (3 : Int32) M).bind (fun r1 =>
if r1 = true then
(some ((-2 : Int32), M))
else
((sX5_isLost F k1 M).bind (fun r2 =>
if r2 = true then
((sX7_finding F (1 : Int32) M).bind (fun r3 =>
some (r3.1, r3.2)))
else
((sX5_form F k1 M).bind (fun r4 =>
if r4 = a2 then
((sX5_length F k1 M).bind (fun r5 =>
(sX7_isOutside F a3 r5 M).bind (fun r6 =>
if r6 = true then
((sX7_finding F (2 : Int32) M).bind (fun r7 =>
some (r7.1, r7.2)))
else
(some ((0 : Int32), M)))))
else
((sX7_finding F (3 : Int32) M).bind (fun r8 =>
some (r8.1, r8.2))))))))
theorem mvX7_itemRefusal : MV yX7_itemRefusal cX7_itemRefusal 4 (some .int) 3 := ⟨⟨m_810, m_67, by decide, by decide, by decide⟩, m_809, m_18⟩
set_option maxHeartbeats 4000000 in
set_option maxRecDepth 100000 in
theorem ctX7_itemRefusal (x : Wx) (F : Nat) (k1 : Nat) (a2 : Int32) (a3 : Int32) (h1 : kd k1 = 5) (M : Mem) : Ct x yX7_itemRefusal cX7_itemRefusal 4 (some .int) { frames := 1, cells := 0, slots := 0, locals := 21 } φIM [.ref (x.1 0), .ref (x.1 k1), .int a2, .int a3] M (sX7_itemRefusal F k1 a2 a3 M) := by
  refine ct_of (by decide) (Nat.le_of_ble_eq_true rfl) (fun f hC hm => ?_)
  have hC : Cx x f "AnswersFirst" cX7_itemRefusal 4 { frames := 1, cells := 0, slots := 0, locals := 21 } := hC
  show GG x f 4 (Qm x f φIM) 0 [(0, .ref (x.1 0)), (1, .ref (x.1 k1)), (2, .int a2), (3, .int a3)] [] M _
  unfold sX7_itemRefusal
  refine g_iload_n hC 2 dX7_itemRefusal_0 rfl rfl ?_
  refine g_iconst hC (v := (3 : Int32)) dX7_itemRefusal_1 (by decide) ?_
  refine g_calls hC (st := []) (ctX7_isOutside x F a2 (3 : Int32) M) msX7_isOutside m_285 (by decide) rfl rfl (Nat.le_of_ble_eq_true rfl) dX7_itemRefusal_2 (fun r1 => ?_)
  show GG x f 4 (Qm x f φIM) 5 [(0, .ref (x.1 0)), (1, .ref (x.1 k1)), (2, .int a2), (3, .int a3)] [.int (bi r1)] M _
  refine g_ifB_eq hC 11 dX7_itemRefusal_5 (by decide) ?_ ?_
  · refine g_bipush hC (v := (-2 : Int32)) dX7_itemRefusal_8 (by decide) ?_
    exact g_iret hC hm rfl dX7_itemRefusal_10
  · refine g_aload_n hC 1 dX7_itemRefusal_11 rfl rfl ?_
    refine g_callv hC (st := []) (c := 5) rfl (by decide) h1 (ctX5_isLost x F k1 h1 M) mvX5_isLost m_480 (by decide) rfl rfl (Nat.le_of_ble_eq_true rfl) dX7_itemRefusal_12 (fun r2 => ?_)
    show GG x f 4 (Qm x f φIM) 15 [(0, .ref (x.1 0)), (1, .ref (x.1 k1)), (2, .int a2), (3, .int a3)] [.int (bi r2)] M _
    refine g_ifB_eq hC 24 dX7_itemRefusal_15 (by decide) ?_ ?_
    · refine g_aload_n hC 0 dX7_itemRefusal_18 rfl rfl ?_
      refine g_iconst hC (v := (1 : Int32)) dX7_itemRefusal_19 (by decide) ?_
      refine g_callv hC (st := []) (c := 7) rfl (by decide) rfl (ctX7_finding x F (1 : Int32) M) mvX7_finding m_484 (by decide) rfl rfl (Nat.le_of_ble_eq_true rfl) dX7_itemRefusal_20 (fun r3 => ?_)
      show GG x f 4 (Qm x f φIM) 23 [(0, .ref (x.1 0)), (1, .ref (x.1 k1)), (2, .int a2), (3, .int a3)] [.int (r3.1)] r3.2 _
      exact g_iret hC hm rfl dX7_itemRefusal_23
    · refine g_aload_n hC 1 dX7_itemRefusal_24 rfl rfl ?_
      refine g_callv hC (st := []) (c := 5) rfl (by decide) h1 (ctX5_form x F k1 h1 M) mvX5_form m_811 (by decide) rfl rfl (Nat.le_of_ble_eq_true rfl) dX7_itemRefusal_25 (fun r4 => ?_)
      show GG x f 4 (Qm x f φIM) 28 [(0, .ref (x.1 0)), (1, .ref (x.1 k1)), (2, .int a2), (3, .int a3)] [.int r4] M _
      refine g_iload_n hC 2 dX7_itemRefusal_28 rfl rfl ?_
      refine g_icmp_eq hC 38 dX7_itemRefusal_29 (by decide) ?_ ?_
      · refine g_iload_n hC 3 dX7_itemRefusal_38 rfl rfl ?_
        refine g_aload_n hC 1 dX7_itemRefusal_39 rfl rfl ?_
        refine g_callv hC (st := [.int a3]) (c := 5) rfl (by decide) h1 (ctX5_length x F k1 h1 M) mvX5_length m_492 (by decide) rfl rfl (Nat.le_of_ble_eq_true rfl) dX7_itemRefusal_40 (fun r5 => ?_)
        show GG x f 4 (Qm x f φIM) 43 [(0, .ref (x.1 0)), (1, .ref (x.1 k1)), (2, .int a2), (3, .int a3)] [.int r5, .int a3] M _
        refine g_calls hC (st := []) (ctX7_isOutside x F a3 r5 M) msX7_isOutside m_285 (by decide) rfl rfl (Nat.le_of_ble_eq_true rfl) dX7_itemRefusal_43 (fun r6 => ?_)
        show GG x f 4 (Qm x f φIM) 46 [(0, .ref (x.1 0)), (1, .ref (x.1 k1)), (2, .int a2), (3, .int a3)] [.int (bi r6)] M _
        refine g_ifB_eq hC 57 dX7_itemRefusal_46 (by decide) ?_ ?_
        · refine g_aload_n hC 0 dX7_itemRefusal_49 rfl rfl ?_
          refine g_iconst hC (v := (2 : Int32)) dX7_itemRefusal_50 (by decide) ?_
          refine g_callv hC (st := []) (c := 7) rfl (by decide) rfl (ctX7_finding x F (2 : Int32) M) mvX7_finding m_484 (by decide) rfl rfl (Nat.le_of_ble_eq_true rfl) dX7_itemRefusal_51 (fun r7 => ?_)
          show GG x f 4 (Qm x f φIM) 54 [(0, .ref (x.1 0)), (1, .ref (x.1 k1)), (2, .int a2), (3, .int a3)] [.int (r7.1)] r7.2 _
          refine g_goto hC 58 dX7_itemRefusal_54 (by decide) ?_
          exact g_iret hC hm rfl dX7_itemRefusal_58
        · refine g_iconst hC (v := (0 : Int32)) dX7_itemRefusal_57 (by decide) ?_
          exact g_iret hC hm rfl dX7_itemRefusal_58
      · refine g_aload_n hC 0 dX7_itemRefusal_32 rfl rfl ?_
        refine g_iconst hC (v := (3 : Int32)) dX7_itemRefusal_33 (by decide) ?_
        refine g_callv hC (st := []) (c := 7) rfl (by decide) rfl (ctX7_finding x F (3 : Int32) M) mvX7_finding m_484 (by decide) rfl rfl (Nat.le_of_ble_eq_true rfl) dX7_itemRefusal_34 (fun r8 => ?_)
        show GG x f 4 (Qm x f φIM) 37 [(0, .ref (x.1 0)), (1, .ref (x.1 k1)), (2, .int a2), (3, .int a3)] [.int (r8.1)] r8.2 _
        exact g_iret hC hm rfl dX7_itemRefusal_37
def sX7_put (F : Nat) (a1 : Int32) (a2 : Int32) (a3 : Int32) (a4 : Int32) (M : Mem) : Option (Int32 × Mem) :=
(sX7_isOutside F a1 (4 : Int32) M).bind (fun r1 =>
if r1 = true then
(some ((-2 : Int32), M))
else
(ib a1 4 (
(sX7_itemRefusal F (28 + 1 + ix a1) a2 a3 M).bind (fun r3 =>
if r3.1 = 0 then
(ib a1 4 (
(sX5_setItem F (28 + 1 + ix a1) a3 a4 r3.2).bind (fun r5 =>
some ((1 : Int32), r5))))
else
(some (r3.1, r3.2))))))
theorem mvX7_put : MV yX7_put cX7_put 6 (some .int) 4 := ⟨⟨m_806, m_67, by decide, by decide, by decide⟩, m_804, m_805⟩
set_option maxHeartbeats 4000000 in
set_option maxRecDepth 100000 in
theorem ctX7_put (x : Wx) (F : Nat) (a1 : Int32) (a2 : Int32) (a3 : Int32) (a4 : Int32) (M : Mem) : Ct x yX7_put cX7_put 6 (some .int) { frames := 2, cells := 0, slots := 0, locals := 44 } φIM [.ref (x.1 0), .int a1, .int a2, .int a3, .int a4] M (sX7_put F a1 a2 a3 a4 M) := by
  refine ct_of (by decide) (Nat.le_of_ble_eq_true rfl) (fun f hC hm => ?_)
  have hC : Cx x f "AnswersFirst" cX7_put 6 { frames := 2, cells := 0, slots := 0, locals := 44 } := hC
  show GG x f 6 (Qm x f φIM) 0 [(0, .ref (x.1 0)), (1, .int a1), (2, .int a2), (3, .int a3), (4, .int a4)] [] M _
  unfold sX7_put
  refine g_iload_n hC 1 dX7_put_0 rfl rfl ?_
  refine g_iconst hC (v := (4 : Int32)) dX7_put_1 (by decide) ?_
  refine g_calls hC (st := []) (ctX7_isOutside x F a1 (4 : Int32) M) msX7_isOutside m_285 (by decide) rfl rfl (Nat.le_of_ble_eq_true rfl) dX7_put_2 (fun r1 => ?_)
  show GG x f 6 (Qm x f φIM) 5 [(0, .ref (x.1 0)), (1, .int a1), (2, .int a2), (3, .int a3), (4, .int a4)] [.int (bi r1)] M _
  refine g_ifB_eq hC 11 dX7_put_5 (by decide) ?_ ?_
  · refine g_bipush hC (v := (-2 : Int32)) dX7_put_8 (by decide) ?_
    exact g_iret hC hm rfl dX7_put_10
  · refine g_aload_n hC 0 dX7_put_11 rfl rfl ?_
    refine g_aload_n hC 0 dX7_put_12 rfl rfl ?_
    refine g_getR hC cf7 (t := 28) rfl 10 (by decide) rfl m_254 dX7_put_13 ?_
    refine g_iload_n hC 1 dX7_put_16 rfl rfl ?_
    refine g_aald hC 13 rfl (by decide) rfl dX7_put_17 (fun hi2 => ?_)
    show GG x f 6 (Qm x f φIM) 18 [(0, .ref (x.1 0)), (1, .int a1), (2, .int a2), (3, .int a3), (4, .int a4)] [.ref (x.1 (28 + 1 + ix a1)), .ref (x.1 0)] M _
    refine g_iload_n hC 2 dX7_put_18 rfl rfl ?_
    refine g_iload_n hC 3 dX7_put_19 rfl rfl ?_
    refine g_callv hC (st := []) (c := 7) rfl (by decide) rfl (ctX7_itemRefusal x F (28 + 1 + ix a1) a2 a3 (ka_S hi2) M) mvX7_itemRefusal m_807 (by decide) rfl rfl (Nat.le_of_ble_eq_true rfl) dX7_put_20 (fun r3 => ?_)
    show GG x f 6 (Qm x f φIM) 23 [(0, .ref (x.1 0)), (1, .int a1), (2, .int a2), (3, .int a3), (4, .int a4)] [.int (r3.1)] r3.2 _
    refine g_istore hC (lv' := [(0, .ref (x.1 0)), (1, .int a1), (3, .int a3), (4, .int a4), (5, .int (r3.1))]) [1, 2, 4, 5, 0] dX7_put_23 (by decide) rfl ?_
    refine g_iload hC 4 dX7_put_25 rfl ?_
    refine g_if_eq hC 33 dX7_put_27 (by decide) ?_ ?_
    · refine g_aload_n hC 0 dX7_put_33 rfl rfl ?_
      refine g_getR hC cf7 (t := 28) rfl 10 (by decide) rfl m_254 dX7_put_34 ?_
      refine g_iload_n hC 1 dX7_put_37 rfl rfl ?_
      refine g_aald hC 13 rfl (by decide) rfl dX7_put_38 (fun hi4 => ?_)
      show GG x f 6 (Qm x f φIM) 39 [(0, .ref (x.1 0)), (1, .int a1), (3, .int a3), (4, .int a4), (5, .int (r3.1))] [.ref (x.1 (28 + 1 + ix a1))] r3.2 _
      refine g_iload_n hC 2 dX7_put_39 rfl rfl ?_
      refine g_iload hC 3 dX7_put_40 rfl ?_
      refine g_callv hC (st := []) (c := 5) rfl (by decide) (ka_S hi4) (ctX5_setItem x F (28 + 1 + ix a1) a3 a4 (ka_S hi4) r3.2) mvX5_setItem m_815 (by decide) rfl rfl (Nat.le_of_ble_eq_true rfl) dX7_put_42 (fun r5 => ?_)
      show GG x f 6 (Qm x f φIM) 45 [(0, .ref (x.1 0)), (1, .int a1), (3, .int a3), (4, .int a4), (5, .int (r3.1))] [] r5 _
      refine g_iconst hC (v := (1 : Int32)) dX7_put_45 (by decide) ?_
      exact g_iret hC hm rfl dX7_put_46
    · refine g_iload hC 4 dX7_put_30 rfl ?_
      exact g_iret hC hm rfl dX7_put_32
def sX7_get (F : Nat) (a1 : Int32) (a2 : Int32) (a3 : Int32) (M : Mem) : Option (Int32 × Mem) :=
(sX7_isOutside F a1 (4 : Int32) M).bind (fun r1 =>
if r1 = true then
(some ((-2147483648 : Int32), M))
else
(ib a1 4 (
(sX7_itemRefusal F (28 + 1 + ix a1) a2 a3 M).bind (fun r3 =>
if r3.1 = 0 then
(ib a1 4 (
(sX5_item F (28 + 1 + ix a1) a3 r3.2).bind (fun r5 =>
some (r5, r3.2))))
else
(some ((-2147483648 : Int32), r3.2))))))
theorem mvX7_get : MV yX7_get cX7_get 4 (some .int) 3 := ⟨⟨m_826, m_67, by decide, by decide, by decide⟩, m_824, m_825⟩
set_option maxHeartbeats 4000000 in
set_option maxRecDepth 100000 in
theorem ctX7_get (x : Wx) (F : Nat) (a1 : Int32) (a2 : Int32) (a3 : Int32) (M : Mem) : Ct x yX7_get cX7_get 4 (some .int) { frames := 2, cells := 0, slots := 0, locals := 44 } φIM [.ref (x.1 0), .int a1, .int a2, .int a3] M (sX7_get F a1 a2 a3 M) := by
  refine ct_of (by decide) (Nat.le_of_ble_eq_true rfl) (fun f hC hm => ?_)
  have hC : Cx x f "AnswersFirst" cX7_get 4 { frames := 2, cells := 0, slots := 0, locals := 44 } := hC
  show GG x f 4 (Qm x f φIM) 0 [(0, .ref (x.1 0)), (1, .int a1), (2, .int a2), (3, .int a3)] [] M _
  unfold sX7_get
  refine g_iload_n hC 1 dX7_get_0 rfl rfl ?_
  refine g_iconst hC (v := (4 : Int32)) dX7_get_1 (by decide) ?_
  refine g_calls hC (st := []) (ctX7_isOutside x F a1 (4 : Int32) M) msX7_isOutside m_285 (by decide) rfl rfl (Nat.le_of_ble_eq_true rfl) dX7_get_2 (fun r1 => ?_)
  show GG x f 4 (Qm x f φIM) 5 [(0, .ref (x.1 0)), (1, .int a1), (2, .int a2), (3, .int a3)] [.int (bi r1)] M _
  refine g_ifB_ne hC 23 dX7_get_5 (by decide) ?_ ?_
  · refine g_ldcw hC (v := (-2147483648 : Int32)) m_827 dX7_get_23 ?_
    exact g_iret hC hm rfl dX7_get_26
  · refine g_aload_n hC 0 dX7_get_8 rfl rfl ?_
    refine g_aload_n hC 0 dX7_get_9 rfl rfl ?_
    refine g_getR hC cf7 (t := 28) rfl 10 (by decide) rfl m_254 dX7_get_10 ?_
    refine g_iload_n hC 1 dX7_get_13 rfl rfl ?_
    refine g_aald hC 13 rfl (by decide) rfl dX7_get_14 (fun hi2 => ?_)
    show GG x f 4 (Qm x f φIM) 15 [(0, .ref (x.1 0)), (1, .int a1), (2, .int a2), (3, .int a3)] [.ref (x.1 (28 + 1 + ix a1)), .ref (x.1 0)] M _
    refine g_iload_n hC 2 dX7_get_15 rfl rfl ?_
    refine g_iload_n hC 3 dX7_get_16 rfl rfl ?_
    refine g_callv hC (st := []) (c := 7) rfl (by decide) rfl (ctX7_itemRefusal x F (28 + 1 + ix a1) a2 a3 (ka_S hi2) M) mvX7_itemRefusal m_807 (by decide) rfl rfl (Nat.le_of_ble_eq_true rfl) dX7_get_17 (fun r3 => ?_)
    show GG x f 4 (Qm x f φIM) 20 [(0, .ref (x.1 0)), (1, .int a1), (2, .int a2), (3, .int a3)] [.int (r3.1)] r3.2 _
    refine g_if_eq hC 27 dX7_get_20 (by decide) ?_ ?_
    · refine g_aload_n hC 0 dX7_get_27 rfl rfl ?_
      refine g_getR hC cf7 (t := 28) rfl 10 (by decide) rfl m_254 dX7_get_28 ?_
      refine g_iload_n hC 1 dX7_get_31 rfl rfl ?_
      refine g_aald hC 13 rfl (by decide) rfl dX7_get_32 (fun hi4 => ?_)
      show GG x f 4 (Qm x f φIM) 33 [(0, .ref (x.1 0)), (1, .int a1), (2, .int a2), (3, .int a3)] [.ref (x.1 (28 + 1 + ix a1))] r3.2 _
      refine g_iload_n hC 3 dX7_get_33 rfl rfl ?_
      refine g_callv hC (st := []) (c := 5) rfl (by decide) (ka_S hi4) (ctX5_item x F (28 + 1 + ix a1) a3 (ka_S hi4) r3.2) mvX5_item m_496 (by decide) rfl rfl (Nat.le_of_ble_eq_true rfl) dX7_get_34 (fun r5 => ?_)
      show GG x f 4 (Qm x f φIM) 37 [(0, .ref (x.1 0)), (1, .int a1), (2, .int a2), (3, .int a3)] [.int r5] r3.2 _
      exact g_iret hC hm rfl dX7_get_37
    · refine g_ldcw hC (v := (-2147483648 : Int32)) m_827 dX7_get_23 ?_
      exact g_iret hC hm rfl dX7_get_26
def sX7_copy (F : Nat) (a1 : Int32) (a2 : Int32) (a3 : Int32) (a4 : Int32) (a5 : Int32) (M : Mem) : Option (Int32 × Mem) :=
(sX7_isOutside F a1 (4 : Int32) M).bind (fun r1 =>
if r1 = true then
(some ((-2 : Int32), M))
else
((sX7_isOutside F a3 (4 : Int32) M).bind (fun r2 =>
if r2 = true then
(some ((-2 : Int32), M))
else
(ib a1 4 (
(sX5_isLost F (28 + 1 + ix a1) M).bind (fun r4 =>
nm ((sX7_finding F (1 : Int32) M).bind (fun r6 =>
some (r6.1, r6.2))) (fun J5 =>
if r4 = true then
(J5)
else
(ib a3 4 (
(sX5_isLost F (28 + 1 + ix a3) M).bind (fun r8 =>
if r8 = true then
(J5)
else
(ib a1 4 (
(sX5_form F (28 + 1 + ix a1) M).bind (fun r10 =>
ib a3 4 (
(sX5_form F (28 + 1 + ix a3) M).bind (fun r12 =>
if r10 = r12 then
(ib a1 4 (
(sX5_hasRun F (28 + 1 + ix a1) a2 a5 M).bind (fun r14 =>
nm ((sX7_finding F (2 : Int32) M).bind (fun r16 =>
some (r16.1, r16.2))) (fun J15 =>
if r14 = true then
(ib a3 4 (
(sX5_hasRun F (28 + 1 + ix a3) a4 a5 M).bind (fun r18 =>
if r18 = true then
(ib a3 4 (
ib a1 4 (
(sX5_takeRun F (28 + 1 + ix a3) (28 + 1 + ix a1) a2 a4 a5 M).bind (fun r21 =>
some ((1 : Int32), r21)))))
else
(J15))))
else
(J15)))))
else
((sX7_finding F (4 : Int32) M).bind (fun r22 =>
some (r22.1, r22.2))))))))))))))))))
theorem mvX7_copy : MV yX7_copy cX7_copy 6 (some .int) 5 := ⟨⟨m_831, m_67, by decide, by decide, by decide⟩, m_829, m_830⟩
set_option maxHeartbeats 4000000 in
set_option maxRecDepth 100000 in
theorem ctX7_copy (x : Wx) (F : Nat) (a1 : Int32) (a2 : Int32) (a3 : Int32) (a4 : Int32) (a5 : Int32) (M : Mem) : Ct x yX7_copy cX7_copy 6 (some .int) { frames := 2, cells := 0, slots := 0, locals := 54 } φIM [.ref (x.1 0), .int a1, .int a2, .int a3, .int a4, .int a5] M (sX7_copy F a1 a2 a3 a4 a5 M) := by
  refine ct_of (by decide) (Nat.le_of_ble_eq_true rfl) (fun f hC hm => ?_)
  have hC : Cx x f "AnswersFirst" cX7_copy 6 { frames := 2, cells := 0, slots := 0, locals := 54 } := hC
  show GG x f 6 (Qm x f φIM) 0 [(0, .ref (x.1 0)), (1, .int a1), (2, .int a2), (3, .int a3), (4, .int a4), (5, .int a5)] [] M _
  unfold sX7_copy
  refine g_iload_n hC 1 dX7_copy_0 rfl rfl ?_
  refine g_iconst hC (v := (4 : Int32)) dX7_copy_1 (by decide) ?_
  refine g_calls hC (st := []) (ctX7_isOutside x F a1 (4 : Int32) M) msX7_isOutside m_285 (by decide) rfl rfl (Nat.le_of_ble_eq_true rfl) dX7_copy_2 (fun r1 => ?_)
  show GG x f 6 (Qm x f φIM) 5 [(0, .ref (x.1 0)), (1, .int a1), (2, .int a2), (3, .int a3), (4, .int a4), (5, .int a5)] [.int (bi r1)] M _
  refine g_ifB_ne hC 16 dX7_copy_5 (by decide) ?_ ?_
  · refine g_bipush hC (v := (-2 : Int32)) dX7_copy_16 (by decide) ?_
    exact g_iret hC hm rfl dX7_copy_18
  · refine g_iload_n hC 3 dX7_copy_8 rfl rfl ?_
    refine g_iconst hC (v := (4 : Int32)) dX7_copy_9 (by decide) ?_
    refine g_calls hC (st := []) (ctX7_isOutside x F a3 (4 : Int32) M) msX7_isOutside m_285 (by decide) rfl rfl (Nat.le_of_ble_eq_true rfl) dX7_copy_10 (fun r2 => ?_)
    show GG x f 6 (Qm x f φIM) 13 [(0, .ref (x.1 0)), (1, .int a1), (2, .int a2), (3, .int a3), (4, .int a4), (5, .int a5)] [.int (bi r2)] M _
    refine g_ifB_eq hC 19 dX7_copy_13 (by decide) ?_ ?_
    · refine g_bipush hC (v := (-2 : Int32)) dX7_copy_16 (by decide) ?_
      exact g_iret hC hm rfl dX7_copy_18
    · refine g_aload_n hC 0 dX7_copy_19 rfl rfl ?_
      refine g_getR hC cf7 (t := 28) rfl 10 (by decide) rfl m_254 dX7_copy_20 ?_
      refine g_iload_n hC 1 dX7_copy_23 rfl rfl ?_
      refine g_aald hC 13 rfl (by decide) rfl dX7_copy_24 (fun hi3 => ?_)
      show GG x f 6 (Qm x f φIM) 25 [(0, .ref (x.1 0)), (1, .int a1), (2, .int a2), (3, .int a3), (4, .int a4), (5, .int a5)] [.ref (x.1 (28 + 1 + ix a1))] M _
      refine g_callv hC (st := []) (c := 5) rfl (by decide) (ka_S hi3) (ctX5_isLost x F (28 + 1 + ix a1) (ka_S hi3) M) mvX5_isLost m_480 (by decide) rfl rfl (Nat.le_of_ble_eq_true rfl) dX7_copy_25 (fun r4 => ?_)
      show GG x f 6 (Qm x f φIM) 28 [(0, .ref (x.1 0)), (1, .int a1), (2, .int a2), (3, .int a3), (4, .int a4), (5, .int a5)] [.int (bi r4)] M _
      refine g_nm (fun (J5 : Option (Int32 × Mem)) => GG x f 6 (Qm x f φIM) 43 [(0, .ref (x.1 0))] [] M J5) ?_ (fun J5 hJ5 => ?_)
      · show GG x f 6 (Qm x f φIM) 43 [(0, .ref (x.1 0))] [] M _
        refine g_aload_n hC 0 dX7_copy_43 rfl rfl ?_
        refine g_iconst hC (v := (1 : Int32)) dX7_copy_44 (by decide) ?_
        refine g_callv hC (st := []) (c := 7) rfl (by decide) rfl (ctX7_finding x F (1 : Int32) M) mvX7_finding m_484 (by decide) rfl rfl (Nat.le_of_ble_eq_true rfl) dX7_copy_45 (fun r6 => ?_)
        show GG x f 6 (Qm x f φIM) 48 [(0, .ref (x.1 0))] [.int (r6.1)] r6.2 _
        exact g_iret hC hm rfl dX7_copy_48
      refine g_ifB_ne hC 43 dX7_copy_28 (by decide) ?_ ?_
      · refine g_lv (lv' := [(0, .ref (x.1 0))]) [0] rfl ?_
        exact hJ5
      · refine g_aload_n hC 0 dX7_copy_31 rfl rfl ?_
        refine g_getR hC cf7 (t := 28) rfl 10 (by decide) rfl m_254 dX7_copy_32 ?_
        refine g_iload_n hC 3 dX7_copy_35 rfl rfl ?_
        refine g_aald hC 13 rfl (by decide) rfl dX7_copy_36 (fun hi7 => ?_)
        show GG x f 6 (Qm x f φIM) 37 [(0, .ref (x.1 0)), (1, .int a1), (2, .int a2), (3, .int a3), (4, .int a4), (5, .int a5)] [.ref (x.1 (28 + 1 + ix a3))] M _
        refine g_callv hC (st := []) (c := 5) rfl (by decide) (ka_S hi7) (ctX5_isLost x F (28 + 1 + ix a3) (ka_S hi7) M) mvX5_isLost m_480 (by decide) rfl rfl (Nat.le_of_ble_eq_true rfl) dX7_copy_37 (fun r8 => ?_)
        show GG x f 6 (Qm x f φIM) 40 [(0, .ref (x.1 0)), (1, .int a1), (2, .int a2), (3, .int a3), (4, .int a4), (5, .int a5)] [.int (bi r8)] M _
        refine g_ifB_eq hC 49 dX7_copy_40 (by decide) ?_ ?_
        · refine g_lv (lv' := [(0, .ref (x.1 0))]) [0] rfl ?_
          exact hJ5
        · refine g_aload_n hC 0 dX7_copy_49 rfl rfl ?_
          refine g_getR hC cf7 (t := 28) rfl 10 (by decide) rfl m_254 dX7_copy_50 ?_
          refine g_iload_n hC 1 dX7_copy_53 rfl rfl ?_
          refine g_aald hC 13 rfl (by decide) rfl dX7_copy_54 (fun hi9 => ?_)
          show GG x f 6 (Qm x f φIM) 55 [(0, .ref (x.1 0)), (1, .int a1), (2, .int a2), (3, .int a3), (4, .int a4), (5, .int a5)] [.ref (x.1 (28 + 1 + ix a1))] M _
          refine g_callv hC (st := []) (c := 5) rfl (by decide) (ka_S hi9) (ctX5_form x F (28 + 1 + ix a1) (ka_S hi9) M) mvX5_form m_811 (by decide) rfl rfl (Nat.le_of_ble_eq_true rfl) dX7_copy_55 (fun r10 => ?_)
          show GG x f 6 (Qm x f φIM) 58 [(0, .ref (x.1 0)), (1, .int a1), (2, .int a2), (3, .int a3), (4, .int a4), (5, .int a5)] [.int r10] M _
          refine g_aload_n hC 0 dX7_copy_58 rfl rfl ?_
          refine g_getR hC cf7 (t := 28) rfl 10 (by decide) rfl m_254 dX7_copy_59 ?_
          refine g_iload_n hC 3 dX7_copy_62 rfl rfl ?_
          refine g_aald hC 13 rfl (by decide) rfl dX7_copy_63 (fun hi11 => ?_)
          show GG x f 6 (Qm x f φIM) 64 [(0, .ref (x.1 0)), (1, .int a1), (2, .int a2), (3, .int a3), (4, .int a4), (5, .int a5)] [.ref (x.1 (28 + 1 + ix a3)), .int r10] M _
          refine g_callv hC (st := [.int r10]) (c := 5) rfl (by decide) (ka_S hi11) (ctX5_form x F (28 + 1 + ix a3) (ka_S hi11) M) mvX5_form m_811 (by decide) rfl rfl (Nat.le_of_ble_eq_true rfl) dX7_copy_64 (fun r12 => ?_)
          show GG x f 6 (Qm x f φIM) 67 [(0, .ref (x.1 0)), (1, .int a1), (2, .int a2), (3, .int a3), (4, .int a4), (5, .int a5)] [.int r12, .int r10] M _
          refine g_icmp_eq hC 76 dX7_copy_67 (by decide) ?_ ?_
          · refine g_aload_n hC 0 dX7_copy_76 rfl rfl ?_
            refine g_getR hC cf7 (t := 28) rfl 10 (by decide) rfl m_254 dX7_copy_77 ?_
            refine g_iload_n hC 1 dX7_copy_80 rfl rfl ?_
            refine g_aald hC 13 rfl (by decide) rfl dX7_copy_81 (fun hi13 => ?_)
            show GG x f 6 (Qm x f φIM) 82 [(0, .ref (x.1 0)), (1, .int a1), (2, .int a2), (3, .int a3), (4, .int a4), (5, .int a5)] [.ref (x.1 (28 + 1 + ix a1))] M _
            refine g_iload_n hC 2 dX7_copy_82 rfl rfl ?_
            refine g_iload hC 5 dX7_copy_83 rfl ?_
            refine g_callv hC (st := []) (c := 5) rfl (by decide) (ka_S hi13) (ctX5_hasRun x F (28 + 1 + ix a1) a2 a5 (ka_S hi13) M) mvX5_hasRun m_832 (by decide) rfl rfl (Nat.le_of_ble_eq_true rfl) dX7_copy_85 (fun r14 => ?_)
            show GG x f 6 (Qm x f φIM) 88 [(0, .ref (x.1 0)), (1, .int a1), (2, .int a2), (3, .int a3), (4, .int a4), (5, .int a5)] [.int (bi r14)] M _
            refine g_nm (fun (J15 : Option (Int32 × Mem)) => GG x f 6 (Qm x f φIM) 107 [(0, .ref (x.1 0))] [] M J15) ?_ (fun J15 hJ15 => ?_)
            · show GG x f 6 (Qm x f φIM) 107 [(0, .ref (x.1 0))] [] M _
              refine g_aload_n hC 0 dX7_copy_107 rfl rfl ?_
              refine g_iconst hC (v := (2 : Int32)) dX7_copy_108 (by decide) ?_
              refine g_callv hC (st := []) (c := 7) rfl (by decide) rfl (ctX7_finding x F (2 : Int32) M) mvX7_finding m_484 (by decide) rfl rfl (Nat.le_of_ble_eq_true rfl) dX7_copy_109 (fun r16 => ?_)
              show GG x f 6 (Qm x f φIM) 112 [(0, .ref (x.1 0))] [.int (r16.1)] r16.2 _
              exact g_iret hC hm rfl dX7_copy_112
            refine g_ifB_eq hC 107 dX7_copy_88 (by decide) ?_ ?_
            · refine g_aload_n hC 0 dX7_copy_91 rfl rfl ?_
              refine g_getR hC cf7 (t := 28) rfl 10 (by decide) rfl m_254 dX7_copy_92 ?_
              refine g_iload_n hC 3 dX7_copy_95 rfl rfl ?_
              refine g_aald hC 13 rfl (by decide) rfl dX7_copy_96 (fun hi17 => ?_)
              show GG x f 6 (Qm x f φIM) 97 [(0, .ref (x.1 0)), (1, .int a1), (2, .int a2), (3, .int a3), (4, .int a4), (5, .int a5)] [.ref (x.1 (28 + 1 + ix a3))] M _
              refine g_iload hC 4 dX7_copy_97 rfl ?_
              refine g_iload hC 5 dX7_copy_99 rfl ?_
              refine g_callv hC (st := []) (c := 5) rfl (by decide) (ka_S hi17) (ctX5_hasRun x F (28 + 1 + ix a3) a4 a5 (ka_S hi17) M) mvX5_hasRun m_832 (by decide) rfl rfl (Nat.le_of_ble_eq_true rfl) dX7_copy_101 (fun r18 => ?_)
              show GG x f 6 (Qm x f φIM) 104 [(0, .ref (x.1 0)), (1, .int a1), (2, .int a2), (3, .int a3), (4, .int a4), (5, .int a5)] [.int (bi r18)] M _
              refine g_ifB_ne hC 113 dX7_copy_104 (by decide) ?_ ?_
              · refine g_aload_n hC 0 dX7_copy_113 rfl rfl ?_
                refine g_getR hC cf7 (t := 28) rfl 10 (by decide) rfl m_254 dX7_copy_114 ?_
                refine g_iload_n hC 3 dX7_copy_117 rfl rfl ?_
                refine g_aald hC 13 rfl (by decide) rfl dX7_copy_118 (fun hi19 => ?_)
                show GG x f 6 (Qm x f φIM) 119 [(0, .ref (x.1 0)), (1, .int a1), (2, .int a2), (3, .int a3), (4, .int a4), (5, .int a5)] [.ref (x.1 (28 + 1 + ix a3))] M _
                refine g_aload_n hC 0 dX7_copy_119 rfl rfl ?_
                refine g_getR hC cf7 (t := 28) rfl 10 (by decide) rfl m_254 dX7_copy_120 ?_
                refine g_iload_n hC 1 dX7_copy_123 rfl rfl ?_
                refine g_aald hC 13 rfl (by decide) rfl dX7_copy_124 (fun hi20 => ?_)
                show GG x f 6 (Qm x f φIM) 125 [(0, .ref (x.1 0)), (1, .int a1), (2, .int a2), (3, .int a3), (4, .int a4), (5, .int a5)] [.ref (x.1 (28 + 1 + ix a1)), .ref (x.1 (28 + 1 + ix a3))] M _
                refine g_iload_n hC 2 dX7_copy_125 rfl rfl ?_
                refine g_iload hC 4 dX7_copy_126 rfl ?_
                refine g_iload hC 5 dX7_copy_128 rfl ?_
                refine g_callv hC (st := []) (c := 5) rfl (by decide) (ka_S hi19) (ctX5_takeRun x F (28 + 1 + ix a3) (28 + 1 + ix a1) a2 a4 a5 (ka_S hi19) (ka_S hi20) M) mvX5_takeRun m_836 (by decide) rfl rfl (Nat.le_of_ble_eq_true rfl) dX7_copy_130 (fun r21 => ?_)
                show GG x f 6 (Qm x f φIM) 133 [(0, .ref (x.1 0)), (1, .int a1), (2, .int a2), (3, .int a3), (4, .int a4), (5, .int a5)] [] r21 _
                refine g_iconst hC (v := (1 : Int32)) dX7_copy_133 (by decide) ?_
                exact g_iret hC hm rfl dX7_copy_134
              · refine g_lv (lv' := [(0, .ref (x.1 0))]) [0] rfl ?_
                exact hJ15
            · refine g_lv (lv' := [(0, .ref (x.1 0))]) [0] rfl ?_
              exact hJ15
          · refine g_aload_n hC 0 dX7_copy_70 rfl rfl ?_
            refine g_iconst hC (v := (4 : Int32)) dX7_copy_71 (by decide) ?_
            refine g_callv hC (st := []) (c := 7) rfl (by decide) rfl (ctX7_finding x F (4 : Int32) M) mvX7_finding m_484 (by decide) rfl rfl (Nat.le_of_ble_eq_true rfl) dX7_copy_72 (fun r22 => ?_)
            show GG x f 6 (Qm x f φIM) 75 [(0, .ref (x.1 0)), (1, .int a1), (2, .int a2), (3, .int a3), (4, .int a4), (5, .int a5)] [.int (r22.1)] r22.2 _
            exact g_iret hC hm rfl dX7_copy_75
def sX7_write_L51 (F : Nat) (a1 : Int32) (v9 : Int32) (rec12 : Int32 → Mem → Option (Int32 × Mem)) (p10 : Int32) (M11 : Mem) : Option (Int32 × Mem) :=
if v9 ≤ p10 then
(some (v9, M11))
else
(ib a1 4 (
(sX7_rowsNow F M11).bind (fun r14 =>
(sX3_nth F p10 r14).bind (fun r15 =>
(sX5_setItem F (28 + 1 + ix a1) p10 r15 r14).bind (fun r16 =>
rec12 (p10 + (1 : Int32)) r16)))))
def sX7_write (F : Nat) (a1 : Int32) (M : Mem) : Option (Int32 × Mem) :=
(sX7_isOutside F a1 (4 : Int32) M).bind (fun r1 =>
if r1 = true then
(some ((-2 : Int32), M))
else
(ib a1 4 (
(sX5_isLost F (28 + 1 + ix a1) M).bind (fun r3 =>
if r3 = true then
((sX7_finding F (1 : Int32) M).bind (fun r4 =>
some (r4.1, r4.2)))
else
(ib a1 4 (
(sX5_length F (28 + 1 + ix a1) M).bind (fun r6 =>
(sX7_rowsNow F M).bind (fun r7 =>
(sX3_howMany F r7).bind (fun r8 =>
nm (imin r6 r8) (fun v9 =>
fx2 F (sX7_write_L51 F a1 v9) (0 : Int32) r7))))))))))
theorem mvX7_write : MV yX7_write cX7_write 4 (some .int) 1 := ⟨⟨m_847, m_67, by decide, by decide, by decide⟩, m_845, m_846⟩
set_option maxHeartbeats 4000000 in
set_option maxRecDepth 100000 in
theorem ctX7_write (x : Wx) (F : Nat) (a1 : Int32) (M : Mem) : Ct x yX7_write cX7_write 4 (some .int) { frames := 4, cells := 0, slots := 0, locals := 93 } φIM [.ref (x.1 0), .int a1] M (sX7_write F a1 M) := by
  refine ct_of (by decide) (Nat.le_of_ble_eq_true rfl) (fun f hC hm => ?_)
  have hC : Cx x f "AnswersFirst" cX7_write 4 { frames := 4, cells := 0, slots := 0, locals := 93 } := hC
  show GG x f 4 (Qm x f φIM) 0 [(0, .ref (x.1 0)), (1, .int a1)] [] M _
  unfold sX7_write
  refine g_iload_n hC 1 dX7_write_0 rfl rfl ?_
  refine g_iconst hC (v := (4 : Int32)) dX7_write_1 (by decide) ?_
  refine g_calls hC (st := []) (ctX7_isOutside x F a1 (4 : Int32) M) msX7_isOutside m_285 (by decide) rfl rfl (Nat.le_of_ble_eq_true rfl) dX7_write_2 (fun r1 => ?_)
  show GG x f 4 (Qm x f φIM) 5 [(0, .ref (x.1 0)), (1, .int a1)] [.int (bi r1)] M _
  refine g_ifB_eq hC 11 dX7_write_5 (by decide) ?_ ?_
  · refine g_bipush hC (v := (-2 : Int32)) dX7_write_8 (by decide) ?_
    exact g_iret hC hm rfl dX7_write_10
  · refine g_aload_n hC 0 dX7_write_11 rfl rfl ?_
    refine g_getR hC cf7 (t := 28) rfl 10 (by decide) rfl m_254 dX7_write_12 ?_
    refine g_iload_n hC 1 dX7_write_15 rfl rfl ?_
    refine g_aald hC 13 rfl (by decide) rfl dX7_write_16 (fun hi2 => ?_)
    show GG x f 4 (Qm x f φIM) 17 [(0, .ref (x.1 0)), (1, .int a1)] [.ref (x.1 (28 + 1 + ix a1))] M _
    refine g_callv hC (st := []) (c := 5) rfl (by decide) (ka_S hi2) (ctX5_isLost x F (28 + 1 + ix a1) (ka_S hi2) M) mvX5_isLost m_480 (by decide) rfl rfl (Nat.le_of_ble_eq_true rfl) dX7_write_17 (fun r3 => ?_)
    show GG x f 4 (Qm x f φIM) 20 [(0, .ref (x.1 0)), (1, .int a1)] [.int (bi r3)] M _
    refine g_ifB_eq hC 29 dX7_write_20 (by decide) ?_ ?_
    · refine g_aload_n hC 0 dX7_write_23 rfl rfl ?_
      refine g_iconst hC (v := (1 : Int32)) dX7_write_24 (by decide) ?_
      refine g_callv hC (st := []) (c := 7) rfl (by decide) rfl (ctX7_finding x F (1 : Int32) M) mvX7_finding m_484 (by decide) rfl rfl (Nat.le_of_ble_eq_true rfl) dX7_write_25 (fun r4 => ?_)
      show GG x f 4 (Qm x f φIM) 28 [(0, .ref (x.1 0)), (1, .int a1)] [.int (r4.1)] r4.2 _
      exact g_iret hC hm rfl dX7_write_28
    · refine g_aload_n hC 0 dX7_write_29 rfl rfl ?_
      refine g_getR hC cf7 (t := 28) rfl 10 (by decide) rfl m_254 dX7_write_30 ?_
      refine g_iload_n hC 1 dX7_write_33 rfl rfl ?_
      refine g_aald hC 13 rfl (by decide) rfl dX7_write_34 (fun hi5 => ?_)
      show GG x f 4 (Qm x f φIM) 35 [(0, .ref (x.1 0)), (1, .int a1)] [.ref (x.1 (28 + 1 + ix a1))] M _
      refine g_callv hC (st := []) (c := 5) rfl (by decide) (ka_S hi5) (ctX5_length x F (28 + 1 + ix a1) (ka_S hi5) M) mvX5_length m_492 (by decide) rfl rfl (Nat.le_of_ble_eq_true rfl) dX7_write_35 (fun r6 => ?_)
      show GG x f 4 (Qm x f φIM) 38 [(0, .ref (x.1 0)), (1, .int a1)] [.int r6] M _
      refine g_aload_n hC 0 dX7_write_38 rfl rfl ?_
      refine g_callv hC (st := [.int r6]) (c := 7) rfl (by decide) rfl (ctX7_rowsNow x F M) mvX7_rowsNow m_515 (by decide) rfl rfl (Nat.le_of_ble_eq_true rfl) dX7_write_39 (fun r7 => ?_)
      show GG x f 4 (Qm x f φIM) 42 [(0, .ref (x.1 0)), (1, .int a1)] [.ref (x.1 17), .int r6] r7 _
      refine g_callv hC (st := [.int r6]) (c := 3) rfl (by decide) rfl (ctX3_howMany x F r7) mvX3_howMany m_547 (by decide) rfl rfl (Nat.le_of_ble_eq_true rfl) dX7_write_42 (fun r8 => ?_)
      show GG x f 4 (Qm x f φIM) 45 [(0, .ref (x.1 0)), (1, .int a1)] [.int r8, .int r6] r7 _
      refine g_mmin hC m_848 m_342 m_69 (mM_min) (by decide) (Nat.le_of_ble_eq_true rfl) dX7_write_45 ?_
      refine g_top (fun v9 => ?_)
      show GG x f 4 (Qm x f φIM) 48 [(0, .ref (x.1 0)), (1, .int a1)] [.int v9] r7 _
      refine g_istore_n hC (lv' := [(0, .ref (x.1 0)), (1, .int a1), (2, .int v9)]) [1, 2, 0] dX7_write_48 rfl (by decide) rfl ?_
      refine g_iconst hC (v := (0 : Int32)) dX7_write_49 (by decide) ?_
      refine g_istore_n hC (lv' := [(0, .ref (x.1 0)), (1, .int a1), (2, .int v9), (3, .int (0 : Int32))]) [1, 2, 3, 0] dX7_write_50 rfl (by decide) rfl ?_
      refine g_fx2 (fun (p10 : Int32) (M11 : Mem) => [(0, .ref (x.1 0)), (1, .int a1), (2, .int v9), (3, .int p10)]) (fun (p10 : Int32) (M11 : Mem) => M11) (fun rec12 hrec12 p10 M11 => ?_) F _ _
      show GG x f 4 (Qm x f φIM) 51 [(0, .ref (x.1 0)), (1, .int a1), (2, .int v9), (3, .int p10)] [] M11 _
      unfold sX7_write_L51
      refine g_iload_n hC 3 dX7_write_51 rfl rfl ?_
      refine g_iload_n hC 2 dX7_write_52 rfl rfl ?_
      refine g_icmp_ge hC 80 dX7_write_53 (by decide) ?_ ?_
      · refine g_iload_n hC 2 dX7_write_80 rfl rfl ?_
        exact g_iret hC hm rfl dX7_write_81
      · refine g_aload_n hC 0 dX7_write_56 rfl rfl ?_
        refine g_getR hC cf7 (t := 28) rfl 10 (by decide) rfl m_254 dX7_write_57 ?_
        refine g_iload_n hC 1 dX7_write_60 rfl rfl ?_
        refine g_aald hC 13 rfl (by decide) rfl dX7_write_61 (fun hi13 => ?_)
        show GG x f 4 (Qm x f φIM) 62 [(0, .ref (x.1 0)), (1, .int a1), (2, .int v9), (3, .int p10)] [.ref (x.1 (28 + 1 + ix a1))] M11 _
        refine g_iload_n hC 3 dX7_write_62 rfl rfl ?_
        refine g_aload_n hC 0 dX7_write_63 rfl rfl ?_
        refine g_callv hC (st := [.int p10, .ref (x.1 (28 + 1 + ix a1))]) (c := 7) rfl (by decide) rfl (ctX7_rowsNow x F M11) mvX7_rowsNow m_515 (by decide) rfl rfl (Nat.le_of_ble_eq_true rfl) dX7_write_64 (fun r14 => ?_)
        show GG x f 4 (Qm x f φIM) 67 [(0, .ref (x.1 0)), (1, .int a1), (2, .int v9), (3, .int p10)] [.ref (x.1 17), .int p10, .ref (x.1 (28 + 1 + ix a1))] r14 _
        refine g_iload_n hC 3 dX7_write_67 rfl rfl ?_
        refine g_callv hC (st := [.int p10, .ref (x.1 (28 + 1 + ix a1))]) (c := 3) rfl (by decide) rfl (ctX3_nth x F p10 r14) mvX3_nth m_551 (by decide) rfl rfl (Nat.le_of_ble_eq_true rfl) dX7_write_68 (fun r15 => ?_)
        show GG x f 4 (Qm x f φIM) 71 [(0, .ref (x.1 0)), (1, .int a1), (2, .int v9), (3, .int p10)] [.int r15, .int p10, .ref (x.1 (28 + 1 + ix a1))] r14 _
        refine g_callv hC (st := []) (c := 5) rfl (by decide) (ka_S hi13) (ctX5_setItem x F (28 + 1 + ix a1) p10 r15 (ka_S hi13) r14) mvX5_setItem m_815 (by decide) rfl rfl (Nat.le_of_ble_eq_true rfl) dX7_write_71 (fun r16 => ?_)
        show GG x f 4 (Qm x f φIM) 74 [(0, .ref (x.1 0)), (1, .int a1), (2, .int v9), (3, .int p10)] [] r16 _
        refine g_iinc hC (q := 3) (v := (1 : Int32)) (lv' := [(0, .ref (x.1 0)), (1, .int a1), (2, .int v9), (3, .int (p10 + (1 : Int32)))]) [1, 2, 3, 0] dX7_write_74 rfl (by decide) (by decide) rfl ?_
        refine g_goto hC 51 dX7_write_77 (by decide) ?_
        exact hrec12 (p10 + (1 : Int32)) r16
def sX7_count (F : Nat) (a1 : Int32) (M : Mem) : Option Int32 :=
if a1 = (0 : Int32) then
(ib a1 3 (
(sX1_howMany F (8 + 1 + ix a1) M).bind (fun r2 =>
some r2)))
else if a1 = (1 : Int32) then
(ib a1 3 (
(sX1_howMany F (8 + 1 + ix a1) M).bind (fun r4 =>
some r4)))
else if a1 = (2 : Int32) then
(ib a1 3 (
(sX1_howMany F (8 + 1 + ix a1) M).bind (fun r6 =>
some r6)))
else if a1 = (3 : Int32) then
(ib (a1 - (3 : Int32)) 3 (
(sX6_length F (1 + 1 + ix (a1 - (3 : Int32))) M).bind (fun r8 =>
some r8)))
else if a1 = (4 : Int32) then
(ib (a1 - (3 : Int32)) 3 (
(sX6_length F (1 + 1 + ix (a1 - (3 : Int32))) M).bind (fun r10 =>
some r10)))
else if a1 = (5 : Int32) then
(ib (a1 - (3 : Int32)) 3 (
(sX6_length F (1 + 1 + ix (a1 - (3 : Int32))) M).bind (fun r12 =>
some r12)))
else if a1 = (6 : Int32) then
((sX4_howMany F M).bind (fun r13 =>
some r13))
else if a1 = (7 : Int32) then
(ib (0 : Int32) 4 (
some (M 15 (ix (0 : Int32)))))
else if a1 = (8 : Int32) then
(some (M 0 11))
else (some (-2 : Int32))
theorem mvX7_count : MV yX7_count cX7_count 2 (some .int) 1 := ⟨⟨m_852, m_67, by decide, by decide, by decide⟩, m_850, m_851⟩
set_option maxHeartbeats 4000000 in
set_option maxRecDepth 100000 in
theorem ctX7_count (x : Wx) (F : Nat) (a1 : Int32) (M : Mem) : Ct x yX7_count cX7_count 2 (some .int) { frames := 1, cells := 0, slots := 0, locals := 20 } (φI M) [.ref (x.1 0), .int a1] M (sX7_count F a1 M) := by
  refine ct_of (by decide) (Nat.le_of_ble_eq_true rfl) (fun f hC hm => ?_)
  have hC : Cx x f "AnswersFirst" cX7_count 2 { frames := 1, cells := 0, slots := 0, locals := 20 } := hC
  show GG x f 2 (Qm x f (φI M)) 0 [(0, .ref (x.1 0)), (1, .int a1)] [] M _
  unfold sX7_count
  refine g_iload_n hC 1 dX7_count_0 rfl rfl ?_
  refine g_tcase hC (i := (0 : Int32)) (51) 52 dX7_count_1 (by decide) (by decide) (by decide) (by decide) ?_ (fun hn0 => ?_)
  · refine g_aload_n hC 0 dX7_count_52 rfl rfl ?_
    refine g_getR hC cf7 (t := 8) rfl 1 (by decide) rfl m_245 dX7_count_53 ?_
    refine g_iload_n hC 1 dX7_count_56 rfl rfl ?_
    refine g_aald hC 12 rfl (by decide) rfl dX7_count_57 (fun hi1 => ?_)
    show GG x f 2 (Qm x f (φI M)) 58 [(0, .ref (x.1 0)), (1, .int a1)] [.ref (x.1 (8 + 1 + ix a1))] M _
    refine g_callv hC (st := []) (c := 1) rfl (by decide) (ka_E hi1) (ctX1_howMany x F (8 + 1 + ix a1) (ka_E hi1) M) mvX1_howMany m_456 (by decide) rfl rfl (Nat.le_of_ble_eq_true rfl) dX7_count_58 (fun r2 => ?_)
    show GG x f 2 (Qm x f (φI M)) 61 [(0, .ref (x.1 0)), (1, .int a1)] [.int r2] M _
    exact g_iret hC hm rfl dX7_count_61
  refine g_tcase hC (i := (1 : Int32)) (51) 52 dX7_count_1 (by decide) (by decide) (by decide) (by decide) ?_ (fun hn1 => ?_)
  · refine g_aload_n hC 0 dX7_count_52 rfl rfl ?_
    refine g_getR hC cf7 (t := 8) rfl 1 (by decide) rfl m_245 dX7_count_53 ?_
    refine g_iload_n hC 1 dX7_count_56 rfl rfl ?_
    refine g_aald hC 12 rfl (by decide) rfl dX7_count_57 (fun hi3 => ?_)
    show GG x f 2 (Qm x f (φI M)) 58 [(0, .ref (x.1 0)), (1, .int a1)] [.ref (x.1 (8 + 1 + ix a1))] M _
    refine g_callv hC (st := []) (c := 1) rfl (by decide) (ka_E hi3) (ctX1_howMany x F (8 + 1 + ix a1) (ka_E hi3) M) mvX1_howMany m_456 (by decide) rfl rfl (Nat.le_of_ble_eq_true rfl) dX7_count_58 (fun r4 => ?_)
    show GG x f 2 (Qm x f (φI M)) 61 [(0, .ref (x.1 0)), (1, .int a1)] [.int r4] M _
    exact g_iret hC hm rfl dX7_count_61
  refine g_tcase hC (i := (2 : Int32)) (51) 52 dX7_count_1 (by decide) (by decide) (by decide) (by decide) ?_ (fun hn2 => ?_)
  · refine g_aload_n hC 0 dX7_count_52 rfl rfl ?_
    refine g_getR hC cf7 (t := 8) rfl 1 (by decide) rfl m_245 dX7_count_53 ?_
    refine g_iload_n hC 1 dX7_count_56 rfl rfl ?_
    refine g_aald hC 12 rfl (by decide) rfl dX7_count_57 (fun hi5 => ?_)
    show GG x f 2 (Qm x f (φI M)) 58 [(0, .ref (x.1 0)), (1, .int a1)] [.ref (x.1 (8 + 1 + ix a1))] M _
    refine g_callv hC (st := []) (c := 1) rfl (by decide) (ka_E hi5) (ctX1_howMany x F (8 + 1 + ix a1) (ka_E hi5) M) mvX1_howMany m_456 (by decide) rfl rfl (Nat.le_of_ble_eq_true rfl) dX7_count_58 (fun r6 => ?_)
    show GG x f 2 (Qm x f (φI M)) 61 [(0, .ref (x.1 0)), (1, .int a1)] [.int r6] M _
    exact g_iret hC hm rfl dX7_count_61
  refine g_tcase hC (i := (3 : Int32)) (61) 62 dX7_count_1 (by decide) (by decide) (by decide) (by decide) ?_ (fun hn3 => ?_)
  · refine g_aload_n hC 0 dX7_count_62 rfl rfl ?_
    refine g_getR hC cf7 (t := 1) rfl 0 (by decide) rfl m_244 dX7_count_63 ?_
    refine g_iload_n hC 1 dX7_count_66 rfl rfl ?_
    refine g_iconst hC (v := (3 : Int32)) dX7_count_67 (by decide) ?_
    refine g_isub hC dX7_count_68 ?_
    refine g_aald hC 14 rfl (by decide) rfl dX7_count_69 (fun hi7 => ?_)
    show GG x f 2 (Qm x f (φI M)) 70 [(0, .ref (x.1 0)), (1, .int a1)] [.ref (x.1 (1 + 1 + ix (a1 - (3 : Int32))))] M _
    refine g_callv hC (st := []) (c := 6) rfl (by decide) (ka_T hi7) (ctX6_length x F (1 + 1 + ix (a1 - (3 : Int32))) (ka_T hi7) M) mvX6_length m_405 (by decide) rfl rfl (Nat.le_of_ble_eq_true rfl) dX7_count_70 (fun r8 => ?_)
    show GG x f 2 (Qm x f (φI M)) 73 [(0, .ref (x.1 0)), (1, .int a1)] [.int r8] M _
    exact g_iret hC hm rfl dX7_count_73
  refine g_tcase hC (i := (4 : Int32)) (61) 62 dX7_count_1 (by decide) (by decide) (by decide) (by decide) ?_ (fun hn4 => ?_)
  · refine g_aload_n hC 0 dX7_count_62 rfl rfl ?_
    refine g_getR hC cf7 (t := 1) rfl 0 (by decide) rfl m_244 dX7_count_63 ?_
    refine g_iload_n hC 1 dX7_count_66 rfl rfl ?_
    refine g_iconst hC (v := (3 : Int32)) dX7_count_67 (by decide) ?_
    refine g_isub hC dX7_count_68 ?_
    refine g_aald hC 14 rfl (by decide) rfl dX7_count_69 (fun hi9 => ?_)
    show GG x f 2 (Qm x f (φI M)) 70 [(0, .ref (x.1 0)), (1, .int a1)] [.ref (x.1 (1 + 1 + ix (a1 - (3 : Int32))))] M _
    refine g_callv hC (st := []) (c := 6) rfl (by decide) (ka_T hi9) (ctX6_length x F (1 + 1 + ix (a1 - (3 : Int32))) (ka_T hi9) M) mvX6_length m_405 (by decide) rfl rfl (Nat.le_of_ble_eq_true rfl) dX7_count_70 (fun r10 => ?_)
    show GG x f 2 (Qm x f (φI M)) 73 [(0, .ref (x.1 0)), (1, .int a1)] [.int r10] M _
    exact g_iret hC hm rfl dX7_count_73
  refine g_tcase hC (i := (5 : Int32)) (61) 62 dX7_count_1 (by decide) (by decide) (by decide) (by decide) ?_ (fun hn5 => ?_)
  · refine g_aload_n hC 0 dX7_count_62 rfl rfl ?_
    refine g_getR hC cf7 (t := 1) rfl 0 (by decide) rfl m_244 dX7_count_63 ?_
    refine g_iload_n hC 1 dX7_count_66 rfl rfl ?_
    refine g_iconst hC (v := (3 : Int32)) dX7_count_67 (by decide) ?_
    refine g_isub hC dX7_count_68 ?_
    refine g_aald hC 14 rfl (by decide) rfl dX7_count_69 (fun hi11 => ?_)
    show GG x f 2 (Qm x f (φI M)) 70 [(0, .ref (x.1 0)), (1, .int a1)] [.ref (x.1 (1 + 1 + ix (a1 - (3 : Int32))))] M _
    refine g_callv hC (st := []) (c := 6) rfl (by decide) (ka_T hi11) (ctX6_length x F (1 + 1 + ix (a1 - (3 : Int32))) (ka_T hi11) M) mvX6_length m_405 (by decide) rfl rfl (Nat.le_of_ble_eq_true rfl) dX7_count_70 (fun r12 => ?_)
    show GG x f 2 (Qm x f (φI M)) 73 [(0, .ref (x.1 0)), (1, .int a1)] [.int r12] M _
    exact g_iret hC hm rfl dX7_count_73
  refine g_tcase hC (i := (6 : Int32)) (73) 74 dX7_count_1 (by decide) (by decide) (by decide) (by decide) ?_ (fun hn6 => ?_)
  · refine g_aload_n hC 0 dX7_count_74 rfl rfl ?_
    refine g_getR hC cf7 (t := 26) rfl 8 (by decide) rfl m_252 dX7_count_75 ?_
    refine g_callv hC (st := []) (c := 4) rfl (by decide) rfl (ctX4_howMany x F M) mvX4_howMany m_488 (by decide) rfl rfl (Nat.le_of_ble_eq_true rfl) dX7_count_78 (fun r13 => ?_)
    show GG x f 2 (Qm x f (φI M)) 81 [(0, .ref (x.1 0)), (1, .int a1)] [.int r13] M _
    exact g_iret hC hm rfl dX7_count_81
  refine g_tcase hC (i := (7 : Int32)) (81) 82 dX7_count_1 (by decide) (by decide) (by decide) (by decide) ?_ (fun hn7 => ?_)
  · refine g_aload_n hC 0 dX7_count_82 rfl rfl ?_
    refine g_getR hC cf7 (t := 15) rfl 2 (by decide) rfl m_246 dX7_count_83 ?_
    refine g_iconst hC (v := (0 : Int32)) dX7_count_86 (by decide) ?_
    refine g_iald hC rfl rfl dX7_count_87 ?_
    exact g_iret hC hm rfl dX7_count_88
  refine g_tcase hC (i := (8 : Int32)) (88) 89 dX7_count_1 (by decide) (by decide) (by decide) (by decide) ?_ (fun hn8 => ?_)
  · refine g_aload_n hC 0 dX7_count_89 rfl rfl ?_
    refine g_getI hC cf7 rfl 11 (by decide) rfl m_255 dX7_count_90 ?_
    exact g_iret hC hm rfl dX7_count_93
  refine g_tout hC 94 dX7_count_1 (q_out9 hn0 hn1 hn2 hn3 hn4 hn5 hn6 hn7 hn8) (by decide) ?_
  refine g_bipush hC (v := (-2 : Int32)) dX7_count_94 (by decide) ?_
  exact g_iret hC hm rfl dX7_count_96
