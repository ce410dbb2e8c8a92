def sX8_in (F : Nat) (a1 : Int32) (a2 : Int32) (a3 : Int32) (M : Mem) : Option Bool :=
if a1 < a2 then
(some false)
else
(if a3 < a1 then
(some false)
else
(some true))
theorem msX8_in : MS yX8_in cX8_in 3 (some .boolean) 3 := ⟨⟨m_989, m_76, by decide, by decide, by decide⟩, m_988⟩
set_option maxHeartbeats 4000000 in
set_option maxRecDepth 100000 in
theorem ctX8_in (x : Wx) (F : Nat) (a1 : Int32) (a2 : Int32) (a3 : Int32) (M : Mem) : Ct x yX8_in cX8_in 3 (some .boolean) { frames := 0, cells := 0, slots := 0, locals := 0 } (φB M) [.int a1, .int a2, .int a3] M (sX8_in F a1 a2 a3 M) := by
  refine ct_of (by decide) (Nat.le_of_ble_eq_true rfl) (fun f hC hm => ?_)
  have hC : Cx x f "AnswersFirstModel" cX8_in 3 { frames := 0, cells := 0, slots := 0, locals := 0 } := hC
  show GG x f 3 (Qm x f (φB M)) 0 [(0, .int a1), (1, .int a2), (2, .int a3)] [] M _
  unfold sX8_in
  refine g_iload_n hC 0 dX8_in_0 rfl rfl ?_
  refine g_iload_n hC 1 dX8_in_1 rfl rfl ?_
  refine g_icmp_lt hC 14 dX8_in_2 (by decide) ?_ ?_
  · refine g_iconst hC (v := (0 : Int32)) dX8_in_14 (by decide) ?_
    exact g_zret hC hm rfl rfl dX8_in_15
  · refine g_iload_n hC 0 dX8_in_5 rfl rfl ?_
    refine g_iload_n hC 2 dX8_in_6 rfl rfl ?_
    refine g_icmp_gt hC 14 dX8_in_7 (by decide) ?_ ?_
    · refine g_iconst hC (v := (0 : Int32)) dX8_in_14 (by decide) ?_
      exact g_zret hC hm rfl rfl dX8_in_15
    · refine g_iconst hC (v := (1 : Int32)) dX8_in_10 (by decide) ?_
      refine g_goto hC 15 dX8_in_11 (by decide) ?_
      exact g_zret hC hm rfl rfl dX8_in_15
def sX8_isText (F : Nat) (a1 : Int32) (M : Mem) : Option Bool :=
(sX8_in F a1 (0 : Int32) (2 : Int32) M).bind (fun r1 =>
some r1)
theorem msX8_isText : MS yX8_isText cX8_isText 1 (some .boolean) 1 := ⟨⟨m_986, m_76, by decide, by decide, by decide⟩, m_985⟩
set_option maxHeartbeats 4000000 in
set_option maxRecDepth 100000 in
theorem ctX8_isText (x : Wx) (F : Nat) (a1 : Int32) (M : Mem) : Ct x yX8_isText cX8_isText 1 (some .boolean) { frames := 1, cells := 0, slots := 0, locals := 22 } (φB M) [.int a1] M (sX8_isText F a1 M) := by
  refine ct_of (by decide) (Nat.le_of_ble_eq_true rfl) (fun f hC hm => ?_)
  have hC : Cx x f "AnswersFirstModel" cX8_isText 1 { frames := 1, cells := 0, slots := 0, locals := 22 } := hC
  show GG x f 1 (Qm x f (φB M)) 0 [(0, .int a1)] [] M _
  unfold sX8_isText
  refine g_iload_n hC 0 dX8_isText_0 rfl rfl ?_
  refine g_iconst hC (v := (0 : Int32)) dX8_isText_1 (by decide) ?_
  refine g_iconst hC (v := (2 : Int32)) dX8_isText_2 (by decide) ?_
  refine g_calls hC (st := []) (ctX8_in x F a1 (0 : Int32) (2 : Int32) M) msX8_in m_987 (by decide) rfl rfl (Nat.le_of_ble_eq_true rfl) dX8_isText_3 (fun r1 => ?_)
  show GG x f 1 (Qm x f (φB M)) 6 [(0, .int a1)] [.int (bi r1)] M _
  exact g_zret hC hm (bi_nar _) rfl dX8_isText_6
def sX8_type (F : Nat) (a1 : Int32) (a2 : Int32) (M : Mem) : Option (Int32 × Mem) :=
(sX8_isText F a1 M).bind (fun r1 =>
if r1 = true then
((sX8_in F a2 (0 : Int32) (255 : Int32) M).bind (fun r2 =>
if r2 = true then
(ib a1 3 (
nm (fun (q3 : Int32) =>
if ¬ (M 38 (ix a1)) = q3 then
(ib a1 3 (
ib (((80 : Int32) * a1) + (M 38 (ix a1))) 240 (
nm (st2 M 39 (ix (((80 : Int32) * a1) + (M 38 (ix a1)))) a2) (fun M5 =>
ib a1 3 (
ib a1 3 (
nm (st2 M5 38 (ix a1) ((M5 38 (ix a1)) + (1 : Int32))) (fun M6 =>
ib a1 3 (
some ((M6 38 (ix a1)), M6)))))))))
else
(some ((-4 : Int32), M))) (fun J4 =>
if ¬ a1 = 0 then
(J4 (60 : Int32))
else
(J4 (80 : Int32)))))
else
(some ((-2 : Int32), M))))
else
(some ((-2 : Int32), M)))
theorem mvX8_type : MV yX8_type cX8_type 3 (some .int) 2 := ⟨⟨m_983, m_76, by decide, by decide, by decide⟩, m_981, m_982⟩
set_option maxHeartbeats 4000000 in
set_option maxRecDepth 100000 in
theorem ctX8_type (x : Wx) (F : Nat) (a1 : Int32) (a2 : Int32) (M : Mem) : Ct x yX8_type cX8_type 3 (some .int) { frames := 2, cells := 0, slots := 0, locals := 42 } φIM [.ref (x.1 37), .int a1, .int a2] M (sX8_type F a1 a2 M) := by
  refine ct_of (by decide) (Nat.le_of_ble_eq_true rfl) (fun f hC hm => ?_)
  have hC : Cx x f "AnswersFirstModel" cX8_type 3 { frames := 2, cells := 0, slots := 0, locals := 42 } := hC
  show GG x f 3 (Qm x f φIM) 0 [(0, .ref (x.1 37)), (1, .int a1), (2, .int a2)] [] M _
  unfold sX8_type
  refine g_iload_n hC 1 dX8_type_0 rfl rfl ?_
  refine g_calls hC (st := []) (ctX8_isText x F a1 M) msX8_isText m_984 (by decide) rfl rfl (Nat.le_of_ble_eq_true rfl) dX8_type_1 (fun r1 => ?_)
  show GG x f 3 (Qm x f φIM) 4 [(0, .ref (x.1 37)), (1, .int a1), (2, .int a2)] [.int (bi r1)] M _
  refine g_ifB_eq hC 18 dX8_type_4 (by decide) ?_ ?_
  · refine g_iload_n hC 2 dX8_type_7 rfl rfl ?_
    refine g_iconst hC (v := (0 : Int32)) dX8_type_8 (by decide) ?_
    refine g_sipush hC (v := (255 : Int32)) dX8_type_9 (by decide) ?_
    refine g_calls hC (st := []) (ctX8_in x F a2 (0 : Int32) (255 : Int32) M) msX8_in m_987 (by decide) rfl rfl (Nat.le_of_ble_eq_true rfl) dX8_type_12 (fun r2 => ?_)
    show GG x f 3 (Qm x f φIM) 15 [(0, .ref (x.1 37)), (1, .int a1), (2, .int a2)] [.int (bi r2)] M _
    refine g_ifB_ne hC 21 dX8_type_15 (by decide) ?_ ?_
    · refine g_aload_n hC 0 dX8_type_21 rfl rfl ?_
      refine g_getR hC cf8 (t := 38) rfl 0 (by decide) rfl m_909 dX8_type_22 ?_
      refine g_iload_n hC 1 dX8_type_25 rfl rfl ?_
      refine g_iald hC rfl rfl dX8_type_26 ?_
      refine g_iload_n hC 1 dX8_type_27 rfl rfl ?_
      refine g_nm (fun (J4 : Int32 → Option (Int32 × Mem)) => ∀ (q3 : Int32), GG x f 3 (Qm x f φIM) 38 [(0, .ref (x.1 37)), (1, .int a1), (2, .int a2)] [.int q3, .int (M 38 (ix a1))] M (J4 q3)) (fun q3 => ?_) (fun J4 hJ4 => ?_)
      · show GG x f 3 (Qm x f φIM) 38 [(0, .ref (x.1 37)), (1, .int a1), (2, .int a2)] [.int q3, .int (M 38 (ix a1))] M _
        refine g_icmp_ne hC 44 dX8_type_38 (by decide) ?_ ?_
        · refine g_aload_n hC 0 dX8_type_44 rfl rfl ?_
          refine g_getR hC cf8 (t := 39) rfl 1 (by decide) rfl m_910 dX8_type_45 ?_
          refine g_bipush hC (v := (80 : Int32)) dX8_type_48 (by decide) ?_
          refine g_iload_n hC 1 dX8_type_50 rfl rfl ?_
          refine g_imul hC dX8_type_51 ?_
          refine g_aload_n hC 0 dX8_type_52 rfl rfl ?_
          refine g_getR hC cf8 (t := 38) rfl 0 (by decide) rfl m_909 dX8_type_53 ?_
          refine g_iload_n hC 1 dX8_type_56 rfl rfl ?_
          refine g_iald hC rfl rfl dX8_type_57 ?_
          refine g_iadd hC dX8_type_58 ?_
          refine g_iload_n hC 2 dX8_type_59 rfl rfl ?_
          refine g_iast hC rfl rfl dX8_type_60 (fun M5 => ?_)
          show GG x f 3 (Qm x f φIM) 61 [(0, .ref (x.1 37)), (1, .int a1), (2, .int a2)] [] M5 _
          refine g_aload_n hC 0 dX8_type_61 rfl rfl ?_
          refine g_getR hC cf8 (t := 38) rfl 0 (by decide) rfl m_909 dX8_type_62 ?_
          refine g_iload_n hC 1 dX8_type_65 rfl rfl ?_
          refine g_dup2 hC dX8_type_66 rfl rfl ?_
          refine g_iald hC rfl rfl dX8_type_67 ?_
          refine g_iconst hC (v := (1 : Int32)) dX8_type_68 (by decide) ?_
          refine g_iadd hC dX8_type_69 ?_
          refine g_iast hC rfl rfl dX8_type_70 (fun M6 => ?_)
          show GG x f 3 (Qm x f φIM) 71 [(0, .ref (x.1 37)), (1, .int a1), (2, .int a2)] [] M6 _
          refine g_aload_n hC 0 dX8_type_71 rfl rfl ?_
          refine g_getR hC cf8 (t := 38) rfl 0 (by decide) rfl m_909 dX8_type_72 ?_
          refine g_iload_n hC 1 dX8_type_75 rfl rfl ?_
          refine g_iald hC rfl rfl dX8_type_76 ?_
          exact g_iret hC hm rfl dX8_type_77
        · refine g_bipush hC (v := (-4 : Int32)) dX8_type_41 (by decide) ?_
          exact g_iret hC hm rfl dX8_type_43
      refine g_if_ne hC 36 dX8_type_28 (by decide) ?_ ?_
      · refine g_bipush hC (v := (60 : Int32)) dX8_type_36 (by decide) ?_
        exact hJ4 (60 : Int32)
      · refine g_bipush hC (v := (80 : Int32)) dX8_type_31 (by decide) ?_
        refine g_goto hC 38 dX8_type_33 (by decide) ?_
        exact hJ4 (80 : Int32)
    · refine g_bipush hC (v := (-2 : Int32)) dX8_type_18 (by decide) ?_
      exact g_iret hC hm rfl dX8_type_20
  · refine g_bipush hC (v := (-2 : Int32)) dX8_type_18 (by decide) ?_
    exact g_iret hC hm rfl dX8_type_20
def sX8_wipe (F : Nat) (a1 : Int32) (M : Mem) : Option (Int32 × Mem) :=
(sX8_isText F a1 M).bind (fun r1 =>
if r1 = true then
(ib a1 3 (
nm (M 38 (ix a1)) (fun v2 =>
ib a1 3 (
nm (st2 M 38 (ix a1) (0 : Int32)) (fun M3 =>
some (v2, M3))))))
else
(some ((-2 : Int32), M)))
theorem mvX8_wipe : MV yX8_wipe cX8_wipe 3 (some .int) 1 := ⟨⟨m_993, m_76, by decide, by decide, by decide⟩, m_991, m_992⟩
set_option maxHeartbeats 4000000 in
set_option maxRecDepth 100000 in
theorem ctX8_wipe (x : Wx) (F : Nat) (a1 : Int32) (M : Mem) : Ct x yX8_wipe cX8_wipe 3 (some .int) { frames := 2, cells := 0, slots := 0, locals := 42 } φIM [.ref (x.1 37), .int a1] M (sX8_wipe F a1 M) := by
  refine ct_of (by decide) (Nat.le_of_ble_eq_true rfl) (fun f hC hm => ?_)
  have hC : Cx x f "AnswersFirstModel" cX8_wipe 3 { frames := 2, cells := 0, slots := 0, locals := 42 } := hC
  show GG x f 3 (Qm x f φIM) 0 [(0, .ref (x.1 37)), (1, .int a1)] [] M _
  unfold sX8_wipe
  refine g_iload_n hC 1 dX8_wipe_0 rfl rfl ?_
  refine g_calls hC (st := []) (ctX8_isText x F a1 M) msX8_isText m_984 (by decide) rfl rfl (Nat.le_of_ble_eq_true rfl) dX8_wipe_1 (fun r1 => ?_)
  show GG x f 3 (Qm x f φIM) 4 [(0, .ref (x.1 37)), (1, .int a1)] [.int (bi r1)] M _
  refine g_ifB_ne hC 10 dX8_wipe_4 (by decide) ?_ ?_
  · refine g_aload_n hC 0 dX8_wipe_10 rfl rfl ?_
    refine g_getR hC cf8 (t := 38) rfl 0 (by decide) rfl m_909 dX8_wipe_11 ?_
    refine g_iload_n hC 1 dX8_wipe_14 rfl rfl ?_
    refine g_iald hC rfl rfl dX8_wipe_15 ?_
    refine g_top (fun v2 => ?_)
    show GG x f 3 (Qm x f φIM) 16 [(0, .ref (x.1 37)), (1, .int a1)] [.int v2] M _
    refine g_istore_n hC (lv' := [(0, .ref (x.1 37)), (1, .int a1), (2, .int v2)]) [1, 2, 0] dX8_wipe_16 rfl (by decide) rfl ?_
    refine g_aload_n hC 0 dX8_wipe_17 rfl rfl ?_
    refine g_getR hC cf8 (t := 38) rfl 0 (by decide) rfl m_909 dX8_wipe_18 ?_
    refine g_iload_n hC 1 dX8_wipe_21 rfl rfl ?_
    refine g_iconst hC (v := (0 : Int32)) dX8_wipe_22 (by decide) ?_
    refine g_iast hC rfl rfl dX8_wipe_23 (fun M3 => ?_)
    show GG x f 3 (Qm x f φIM) 24 [(0, .ref (x.1 37)), (1, .int a1), (2, .int v2)] [] M3 _
    refine g_iload_n hC 2 dX8_wipe_24 rfl rfl ?_
    exact g_iret hC hm rfl dX8_wipe_25
  · refine g_bipush hC (v := (-2 : Int32)) dX8_wipe_7 (by decide) ?_
    exact g_iret hC hm rfl dX8_wipe_9
def sX8_undo (F : Nat) (a1 : Int32) (M : Mem) : Option (Int32 × Mem) :=
(sX8_isText F a1 M).bind (fun r1 =>
if r1 = true then
(ib a1 3 (
if ¬ (M 38 (ix a1)) = 0 then
(ib a1 3 (
ib a1 3 (
nm (st2 M 38 (ix a1) ((M 38 (ix a1)) - (1 : Int32))) (fun M2 =>
ib a1 3 (
some ((M2 38 (ix a1)), M2))))))
else
(some ((-3 : Int32), M))))
else
(some ((-2 : Int32), M)))
theorem mvX8_undo : MV yX8_undo cX8_undo 2 (some .int) 1 := ⟨⟨m_997, m_76, by decide, by decide, by decide⟩, m_995, m_996⟩
set_option maxHeartbeats 4000000 in
set_option maxRecDepth 100000 in
theorem ctX8_undo (x : Wx) (F : Nat) (a1 : Int32) (M : Mem) : Ct x yX8_undo cX8_undo 2 (some .int) { frames := 2, cells := 0, slots := 0, locals := 42 } φIM [.ref (x.1 37), .int a1] M (sX8_undo F a1 M) := by
  refine ct_of (by decide) (Nat.le_of_ble_eq_true rfl) (fun f hC hm => ?_)
  have hC : Cx x f "AnswersFirstModel" cX8_undo 2 { frames := 2, cells := 0, slots := 0, locals := 42 } := hC
  show GG x f 2 (Qm x f φIM) 0 [(0, .ref (x.1 37)), (1, .int a1)] [] M _
  unfold sX8_undo
  refine g_iload_n hC 1 dX8_undo_0 rfl rfl ?_
  refine g_calls hC (st := []) (ctX8_isText x F a1 M) msX8_isText m_984 (by decide) rfl rfl (Nat.le_of_ble_eq_true rfl) dX8_undo_1 (fun r1 => ?_)
  show GG x f 2 (Qm x f φIM) 4 [(0, .ref (x.1 37)), (1, .int a1)] [.int (bi r1)] M _
  refine g_ifB_ne hC 10 dX8_undo_4 (by decide) ?_ ?_
  · refine g_aload_n hC 0 dX8_undo_10 rfl rfl ?_
    refine g_getR hC cf8 (t := 38) rfl 0 (by decide) rfl m_909 dX8_undo_11 ?_
    refine g_iload_n hC 1 dX8_undo_14 rfl rfl ?_
    refine g_iald hC rfl rfl dX8_undo_15 ?_
    refine g_if_ne hC 22 dX8_undo_16 (by decide) ?_ ?_
    · refine g_aload_n hC 0 dX8_undo_22 rfl rfl ?_
      refine g_getR hC cf8 (t := 38) rfl 0 (by decide) rfl m_909 dX8_undo_23 ?_
      refine g_iload_n hC 1 dX8_undo_26 rfl rfl ?_
      refine g_dup2 hC dX8_undo_27 rfl rfl ?_
      refine g_iald hC rfl rfl dX8_undo_28 ?_
      refine g_iconst hC (v := (1 : Int32)) dX8_undo_29 (by decide) ?_
      refine g_isub hC dX8_undo_30 ?_
      refine g_iast hC rfl rfl dX8_undo_31 (fun M2 => ?_)
      show GG x f 2 (Qm x f φIM) 32 [(0, .ref (x.1 37)), (1, .int a1)] [] M2 _
      refine g_aload_n hC 0 dX8_undo_32 rfl rfl ?_
      refine g_getR hC cf8 (t := 38) rfl 0 (by decide) rfl m_909 dX8_undo_33 ?_
      refine g_iload_n hC 1 dX8_undo_36 rfl rfl ?_
      refine g_iald hC rfl rfl dX8_undo_37 ?_
      exact g_iret hC hm rfl dX8_undo_38
    · refine g_bipush hC (v := (-3 : Int32)) dX8_undo_19 (by decide) ?_
      exact g_iret hC hm rfl dX8_undo_21
  · refine g_bipush hC (v := (-2 : Int32)) dX8_undo_7 (by decide) ?_
    exact g_iret hC hm rfl dX8_undo_9
def sX8_byteAt (F : Nat) (a1 : Int32) (a2 : Int32) (M : Mem) : Option Int32 :=
ib a1 3 (
if (M 38 (ix a1)) ≤ a2 then
(some (-1 : Int32))
else
(ib (((80 : Int32) * a1) + a2) 240 (
some (M 39 (ix (((80 : Int32) * a1) + a2))))))
theorem mvX8_byteAt : MV yX8_byteAt cX8_byteAt 3 (some .int) 2 := ⟨⟨m_1021, m_76, by decide, by decide, by decide⟩, m_1020, m_28⟩
set_option maxHeartbeats 4000000 in
set_option maxRecDepth 100000 in
theorem ctX8_byteAt (x : Wx) (F : Nat) (a1 : Int32) (a2 : Int32) (M : Mem) : Ct x yX8_byteAt cX8_byteAt 3 (some .int) { frames := 0, cells := 0, slots := 0, locals := 0 } (φI M) [.ref (x.1 37), .int a1, .int a2] M (sX8_byteAt F a1 a2 M) := by
  refine ct_of (by decide) (Nat.le_of_ble_eq_true rfl) (fun f hC hm => ?_)
  have hC : Cx x f "AnswersFirstModel" cX8_byteAt 3 { frames := 0, cells := 0, slots := 0, locals := 0 } := hC
  show GG x f 3 (Qm x f (φI M)) 0 [(0, .ref (x.1 37)), (1, .int a1), (2, .int a2)] [] M _
  unfold sX8_byteAt
  refine g_iload_n hC 2 dX8_byteAt_0 rfl rfl ?_
  refine g_aload_n hC 0 dX8_byteAt_1 rfl rfl ?_
  refine g_getR hC cf8 (t := 38) rfl 0 (by decide) rfl m_909 dX8_byteAt_2 ?_
  refine g_iload_n hC 1 dX8_byteAt_5 rfl rfl ?_
  refine g_iald hC rfl rfl dX8_byteAt_6 ?_
  refine g_icmp_ge hC 24 dX8_byteAt_7 (by decide) ?_ ?_
  · refine g_iconst hC (v := (-1 : Int32)) dX8_byteAt_24 (by decide) ?_
    exact g_iret hC hm rfl dX8_byteAt_25
  · refine g_aload_n hC 0 dX8_byteAt_10 rfl rfl ?_
    refine g_getR hC cf8 (t := 39) rfl 1 (by decide) rfl m_910 dX8_byteAt_11 ?_
    refine g_bipush hC (v := (80 : Int32)) dX8_byteAt_14 (by decide) ?_
    refine g_iload_n hC 1 dX8_byteAt_16 rfl rfl ?_
    refine g_imul hC dX8_byteAt_17 ?_
    refine g_iload_n hC 2 dX8_byteAt_18 rfl rfl ?_
    refine g_iadd hC dX8_byteAt_19 ?_
    refine g_iald hC rfl rfl dX8_byteAt_20 ?_
    refine g_goto hC 25 dX8_byteAt_21 (by decide) ?_
    exact g_iret hC hm rfl dX8_byteAt_25
def sX8_figureAt (F : Nat) (a1 : Int32) (a2 : Int32) (a3 : Int32) (M : Mem) : Option Int32 :=
(sX8_byteAt F a1 a2 M).bind (fun r1 =>
nm (r1 - (48 : Int32)) (fun v2 =>
(sX8_in F v2 (0 : Int32) a3 M).bind (fun r3 =>
if r3 = true then
(some v2)
else
(some (-1 : Int32)))))
theorem mvX8_figureAt : MV yX8_figureAt cX8_figureAt 5 (some .int) 3 := ⟨⟨m_1017, m_76, by decide, by decide, by decide⟩, m_1016, m_27⟩
set_option maxHeartbeats 4000000 in
set_option maxRecDepth 100000 in
theorem ctX8_figureAt (x : Wx) (F : Nat) (a1 : Int32) (a2 : Int32) (a3 : Int32) (M : Mem) : Ct x yX8_figureAt cX8_figureAt 5 (some .int) { frames := 1, cells := 0, slots := 0, locals := 22 } (φI M) [.ref (x.1 37), .int a1, .int a2, .int a3] M (sX8_figureAt F a1 a2 a3 M) := by
  refine ct_of (by decide) (Nat.le_of_ble_eq_true rfl) (fun f hC hm => ?_)
  have hC : Cx x f "AnswersFirstModel" cX8_figureAt 5 { frames := 1, cells := 0, slots := 0, locals := 22 } := hC
  show GG x f 5 (Qm x f (φI M)) 0 [(0, .ref (x.1 37)), (1, .int a1), (2, .int a2), (3, .int a3)] [] M _
  unfold sX8_figureAt
  refine g_aload_n hC 0 dX8_figureAt_0 rfl rfl ?_
  refine g_iload_n hC 1 dX8_figureAt_1 rfl rfl ?_
  refine g_iload_n hC 2 dX8_figureAt_2 rfl rfl ?_
  refine g_callv hC (st := []) (c := 8) rfl (by decide) rfl (ctX8_byteAt x F a1 a2 M) mvX8_byteAt m_1018 (by decide) rfl rfl (Nat.le_of_ble_eq_true rfl) dX8_figureAt_3 (fun r1 => ?_)
  show GG x f 5 (Qm x f (φI M)) 6 [(0, .ref (x.1 37)), (1, .int a1), (2, .int a2), (3, .int a3)] [.int r1] M _
  refine g_bipush hC (v := (48 : Int32)) dX8_figureAt_6 (by decide) ?_
  refine g_isub hC dX8_figureAt_8 ?_
  refine g_top (fun v2 => ?_)
  show GG x f 5 (Qm x f (φI M)) 9 [(0, .ref (x.1 37)), (1, .int a1), (2, .int a2), (3, .int a3)] [.int v2] M _
  refine g_istore hC (lv' := [(3, .int a3), (4, .int v2)]) [4, 0] dX8_figureAt_9 (by decide) rfl ?_
  refine g_iload hC 1 dX8_figureAt_11 rfl ?_
  refine g_iconst hC (v := (0 : Int32)) dX8_figureAt_13 (by decide) ?_
  refine g_iload_n hC 0 dX8_figureAt_14 rfl rfl ?_
  refine g_calls hC (st := []) (ctX8_in x F v2 (0 : Int32) a3 M) msX8_in m_987 (by decide) rfl rfl (Nat.le_of_ble_eq_true rfl) dX8_figureAt_15 (fun r3 => ?_)
  show GG x f 5 (Qm x f (φI M)) 18 [(3, .int a3), (4, .int v2)] [.int (bi r3)] M _
  refine g_ifB_eq hC 26 dX8_figureAt_18 (by decide) ?_ ?_
  · refine g_iload hC 1 dX8_figureAt_21 rfl ?_
    refine g_goto hC 27 dX8_figureAt_23 (by decide) ?_
    exact g_iret hC hm rfl dX8_figureAt_27
  · refine g_iconst hC (v := (-1 : Int32)) dX8_figureAt_26 (by decide) ?_
    exact g_iret hC hm rfl dX8_figureAt_27
def sX8_whenAt (F : Nat) (a1 : Int32) (M : Mem) : Option Int32 :=
(sX8_byteAt F (0 : Int32) a1 M).bind (fun r1 =>
if ¬ r1 = (97 : Int32) then
(if ¬ r1 = (101 : Int32) then
(if ¬ r1 = (121 : Int32) then
(if ¬ r1 = (110 : Int32) then
(if ¬ r1 = (115 : Int32) then
(some (-1 : Int32))
else
(some (4 : Int32)))
else
(some (3 : Int32)))
else
(some (2 : Int32)))
else
(some (1 : Int32)))
else
(some (0 : Int32)))
theorem mvX8_whenAt : MV yX8_whenAt cX8_whenAt 3 (some .int) 1 := ⟨⟨m_1025, m_76, by decide, by decide, by decide⟩, m_1024, m_29⟩
set_option maxHeartbeats 4000000 in
set_option maxRecDepth 100000 in
theorem ctX8_whenAt (x : Wx) (F : Nat) (a1 : Int32) (M : Mem) : Ct x yX8_whenAt cX8_whenAt 3 (some .int) { frames := 1, cells := 0, slots := 0, locals := 22 } (φI M) [.ref (x.1 37), .int a1] M (sX8_whenAt F a1 M) := by
  refine ct_of (by decide) (Nat.le_of_ble_eq_true rfl) (fun f hC hm => ?_)
  have hC : Cx x f "AnswersFirstModel" cX8_whenAt 3 { frames := 1, cells := 0, slots := 0, locals := 22 } := hC
  show GG x f 3 (Qm x f (φI M)) 0 [(0, .ref (x.1 37)), (1, .int a1)] [] M _
  unfold sX8_whenAt
  refine g_aload_n hC 0 dX8_whenAt_0 rfl rfl ?_
  refine g_iconst hC (v := (0 : Int32)) dX8_whenAt_1 (by decide) ?_
  refine g_iload_n hC 1 dX8_whenAt_2 rfl rfl ?_
  refine g_callv hC (st := []) (c := 8) rfl (by decide) rfl (ctX8_byteAt x F (0 : Int32) a1 M) mvX8_byteAt m_1018 (by decide) rfl rfl (Nat.le_of_ble_eq_true rfl) dX8_whenAt_3 (fun r1 => ?_)
  show GG x f 3 (Qm x f (φI M)) 6 [(0, .ref (x.1 37)), (1, .int a1)] [.int r1] M _
  refine g_istore_n hC (lv' := [(2, .int r1)]) [0] dX8_whenAt_6 rfl (by decide) rfl ?_
  refine g_iload_n hC 0 dX8_whenAt_7 rfl rfl ?_
  refine g_bipush hC (v := (97 : Int32)) dX8_whenAt_8 (by decide) ?_
  refine g_icmp_ne hC 17 dX8_whenAt_10 (by decide) ?_ ?_
  · refine g_iload_n hC 0 dX8_whenAt_17 rfl rfl ?_
    refine g_bipush hC (v := (101 : Int32)) dX8_whenAt_18 (by decide) ?_
    refine g_icmp_ne hC 27 dX8_whenAt_20 (by decide) ?_ ?_
    · refine g_iload_n hC 0 dX8_whenAt_27 rfl rfl ?_
      refine g_bipush hC (v := (121 : Int32)) dX8_whenAt_28 (by decide) ?_
      refine g_icmp_ne hC 37 dX8_whenAt_30 (by decide) ?_ ?_
      · refine g_iload_n hC 0 dX8_whenAt_37 rfl rfl ?_
        refine g_bipush hC (v := (110 : Int32)) dX8_whenAt_38 (by decide) ?_
        refine g_icmp_ne hC 47 dX8_whenAt_40 (by decide) ?_ ?_
        · refine g_iload_n hC 0 dX8_whenAt_47 rfl rfl ?_
          refine g_bipush hC (v := (115 : Int32)) dX8_whenAt_48 (by decide) ?_
          refine g_icmp_ne hC 57 dX8_whenAt_50 (by decide) ?_ ?_
          · refine g_iconst hC (v := (-1 : Int32)) dX8_whenAt_57 (by decide) ?_
            exact g_iret hC hm rfl dX8_whenAt_58
          · refine g_iconst hC (v := (4 : Int32)) dX8_whenAt_53 (by decide) ?_
            refine g_goto hC 58 dX8_whenAt_54 (by decide) ?_
            exact g_iret hC hm rfl dX8_whenAt_58
        · refine g_iconst hC (v := (3 : Int32)) dX8_whenAt_43 (by decide) ?_
          refine g_goto hC 58 dX8_whenAt_44 (by decide) ?_
          exact g_iret hC hm rfl dX8_whenAt_58
      · refine g_iconst hC (v := (2 : Int32)) dX8_whenAt_33 (by decide) ?_
        refine g_goto hC 58 dX8_whenAt_34 (by decide) ?_
        exact g_iret hC hm rfl dX8_whenAt_58
    · refine g_iconst hC (v := (1 : Int32)) dX8_whenAt_23 (by decide) ?_
      refine g_goto hC 58 dX8_whenAt_24 (by decide) ?_
      exact g_iret hC hm rfl dX8_whenAt_58
  · refine g_iconst hC (v := (0 : Int32)) dX8_whenAt_13 (by decide) ?_
    refine g_goto hC 58 dX8_whenAt_14 (by decide) ?_
    exact g_iret hC hm rfl dX8_whenAt_58
def sX8_readsMatter (F : Nat) (a1 : Int32) (a2 : Int32) (M : Mem) : Option (Int32 × Mem) :=
(sX8_figureAt F (0 : Int32) a2 (5 : Int32) M).bind (fun r1 =>
(sX8_figureAt F (0 : Int32) (a2 + (1 : Int32)) (5 : Int32) M).bind (fun r2 =>
(sX8_figureAt F (0 : Int32) (a2 + (2 : Int32)) (9 : Int32) M).bind (fun r3 =>
(sX8_figureAt F (0 : Int32) (a2 + (3 : Int32)) (9 : Int32) M).bind (fun r4 =>
(sX8_byteAt F (0 : Int32) (a2 + (4 : Int32)) M).bind (fun r5 =>
(sX8_whenAt F (a2 + (5 : Int32)) M).bind (fun r6 =>
(sX8_figureAt F (0 : Int32) (a2 + (6 : Int32)) (9 : Int32) M).bind (fun r7 =>
nm (fun (q8 : Int32) =>
if (7 : Int32) ≤ q8 then
(ib ((6 : Int32) * a1) 66 (
nm (st2 M 40 (ix ((6 : Int32) * a1)) r1) (fun M10 =>
ib (((6 : Int32) * a1) + (1 : Int32)) 66 (
nm (st2 M10 40 (ix (((6 : Int32) * a1) + (1 : Int32))) r2) (fun M11 =>
ib (((6 : Int32) * a1) + (2 : Int32)) 66 (
nm (st2 M11 40 (ix (((6 : Int32) * a1) + (2 : Int32))) (((10 : Int32) * r3) + r4)) (fun M12 =>
nm (fun (q13 : Int32) =>
ib (((6 : Int32) * a1) + (3 : Int32)) 66 (
nm (st2 M12 40 (ix (((6 : Int32) * a1) + (3 : Int32))) q13) (fun M15 =>
ib (((6 : Int32) * a1) + (4 : Int32)) 66 (
nm (st2 M15 40 (ix (((6 : Int32) * a1) + (4 : Int32))) r6) (fun M16 =>
nm (fun (q17 : Int32) =>
ib (((6 : Int32) * a1) + (5 : Int32)) 66 (
nm (st2 M16 40 (ix (((6 : Int32) * a1) + (5 : Int32))) q17) (fun M19 =>
if r6 ≤ (1 : Int32) then
(some ((6 : Int32), M19))
else
(some ((7 : Int32), M19))))) (fun J18 =>
if r6 ≤ (1 : Int32) then
(J18 (-1 : Int32))
else
(J18 r7))))))) (fun J14 =>
if ¬ r5 = (121 : Int32) then
(J14 (0 : Int32))
else
(J14 (1 : Int32))))))))))
else
(some ((((-a2) - q8) - (1 : Int32)), M))) (fun J9 =>
if ¬ r1 = (-1 : Int32) then
(nm (J9 (1 : Int32)) (fun J20 =>
if r2 = (-1 : Int32) then
(J20)
else
(if ¬ r2 = r1 then
(if ¬ r3 = (-1 : Int32) then
(if ¬ r4 = (-1 : Int32) then
(nm (if ¬ r6 = (-1 : Int32) then
(nm (J9 (7 : Int32)) (fun J22 =>
if r6 ≤ (1 : Int32) then
(J22)
else
(if ¬ r7 = (-1 : Int32) then
(J22)
else
(J9 (6 : Int32)))))
else
(J9 (5 : Int32))) (fun J21 =>
if r5 = (121 : Int32) then
(J21)
else
(if r5 = (110 : Int32) then
(J21)
else
(J9 (4 : Int32)))))
else
(J9 (3 : Int32)))
else
(J9 (2 : Int32)))
else
(J20))))
else
(J9 (0 : Int32))))))))))
theorem mvX8_readsMatter : MV yX8_readsMatter cX8_readsMatter 11 (some .int) 2 := ⟨⟨m_1013, m_76, by decide, by decide, by decide⟩, m_1012, m_26⟩
set_option maxHeartbeats 4000000 in
set_option maxRecDepth 100000 in
theorem ctX8_readsMatter (x : Wx) (F : Nat) (a1 : Int32) (a2 : Int32) (M : Mem) : Ct x yX8_readsMatter cX8_readsMatter 11 (some .int) { frames := 2, cells := 0, slots := 0, locals := 46 } φIM [.ref (x.1 37), .int a1, .int a2] M (sX8_readsMatter F a1 a2 M) := by
  refine ct_of (by decide) (Nat.le_of_ble_eq_true rfl) (fun f hC hm => ?_)
  have hC : Cx x f "AnswersFirstModel" cX8_readsMatter 11 { frames := 2, cells := 0, slots := 0, locals := 46 } := hC
  show GG x f 11 (Qm x f φIM) 0 [(0, .ref (x.1 37)), (1, .int a1), (2, .int a2)] [] M _
  unfold sX8_readsMatter
  refine g_aload_n hC 0 dX8_readsMatter_0 rfl rfl ?_
  refine g_iconst hC (v := (0 : Int32)) dX8_readsMatter_1 (by decide) ?_
  refine g_iload_n hC 2 dX8_readsMatter_2 rfl rfl ?_
  refine g_iconst hC (v := (5 : Int32)) dX8_readsMatter_3 (by decide) ?_
  refine g_callv hC (st := []) (c := 8) rfl (by decide) rfl (ctX8_figureAt x F (0 : Int32) a2 (5 : Int32) M) mvX8_figureAt m_1014 (by decide) rfl rfl (Nat.le_of_ble_eq_true rfl) dX8_readsMatter_4 (fun r1 => ?_)
  show GG x f 11 (Qm x f φIM) 7 [(0, .ref (x.1 37)), (1, .int a1), (2, .int a2)] [.int r1] M _
  refine g_istore_n hC (lv' := [(0, .ref (x.1 37)), (1, .int a1), (2, .int a2), (3, .int r1)]) [1, 2, 3, 0] dX8_readsMatter_7 rfl (by decide) rfl ?_
  refine g_aload_n hC 0 dX8_readsMatter_8 rfl rfl ?_
  refine g_iconst hC (v := (0 : Int32)) dX8_readsMatter_9 (by decide) ?_
  refine g_iload_n hC 2 dX8_readsMatter_10 rfl rfl ?_
  refine g_iconst hC (v := (1 : Int32)) dX8_readsMatter_11 (by decide) ?_
  refine g_iadd hC dX8_readsMatter_12 ?_
  refine g_iconst hC (v := (5 : Int32)) dX8_readsMatter_13 (by decide) ?_
  refine g_callv hC (st := []) (c := 8) rfl (by decide) rfl (ctX8_figureAt x F (0 : Int32) (a2 + (1 : Int32)) (5 : Int32) M) mvX8_figureAt m_1014 (by decide) rfl rfl (Nat.le_of_ble_eq_true rfl) dX8_readsMatter_14 (fun r2 => ?_)
  show GG x f 11 (Qm x f φIM) 17 [(0, .ref (x.1 37)), (1, .int a1), (2, .int a2), (3, .int r1)] [.int r2] M _
  refine g_istore hC (lv' := [(0, .ref (x.1 37)), (1, .int a1), (2, .int a2), (3, .int r1), (4, .int r2)]) [1, 2, 3, 4, 0] dX8_readsMatter_17 (by decide) rfl ?_
  refine g_aload_n hC 0 dX8_readsMatter_19 rfl rfl ?_
  refine g_iconst hC (v := (0 : Int32)) dX8_readsMatter_20 (by decide) ?_
  refine g_iload_n hC 2 dX8_readsMatter_21 rfl rfl ?_
  refine g_iconst hC (v := (2 : Int32)) dX8_readsMatter_22 (by decide) ?_
  refine g_iadd hC dX8_readsMatter_23 ?_
  refine g_bipush hC (v := (9 : Int32)) dX8_readsMatter_24 (by decide) ?_
  refine g_callv hC (st := []) (c := 8) rfl (by decide) rfl (ctX8_figureAt x F (0 : Int32) (a2 + (2 : Int32)) (9 : Int32) M) mvX8_figureAt m_1014 (by decide) rfl rfl (Nat.le_of_ble_eq_true rfl) dX8_readsMatter_26 (fun r3 => ?_)
  show GG x f 11 (Qm x f φIM) 29 [(0, .ref (x.1 37)), (1, .int a1), (2, .int a2), (3, .int r1), (4, .int r2)] [.int r3] M _
  refine g_istore hC (lv' := [(0, .ref (x.1 37)), (1, .int a1), (2, .int a2), (3, .int r1), (4, .int r2), (5, .int r3)]) [1, 2, 3, 4, 5, 0] dX8_readsMatter_29 (by decide) rfl ?_
  refine g_aload_n hC 0 dX8_readsMatter_31 rfl rfl ?_
  refine g_iconst hC (v := (0 : Int32)) dX8_readsMatter_32 (by decide) ?_
  refine g_iload_n hC 2 dX8_readsMatter_33 rfl rfl ?_
  refine g_iconst hC (v := (3 : Int32)) dX8_readsMatter_34 (by decide) ?_
  refine g_iadd hC dX8_readsMatter_35 ?_
  refine g_bipush hC (v := (9 : Int32)) dX8_readsMatter_36 (by decide) ?_
  refine g_callv hC (st := []) (c := 8) rfl (by decide) rfl (ctX8_figureAt x F (0 : Int32) (a2 + (3 : Int32)) (9 : Int32) M) mvX8_figureAt m_1014 (by decide) rfl rfl (Nat.le_of_ble_eq_true rfl) dX8_readsMatter_38 (fun r4 => ?_)
  show GG x f 11 (Qm x f φIM) 41 [(0, .ref (x.1 37)), (1, .int a1), (2, .int a2), (3, .int r1), (4, .int r2), (5, .int r3)] [.int r4] M _
  refine g_istore hC (lv' := [(0, .ref (x.1 37)), (1, .int a1), (2, .int a2), (3, .int r1), (4, .int r2), (5, .int r3), (6, .int r4)]) [1, 2, 3, 4, 5, 6, 0] dX8_readsMatter_41 (by decide) rfl ?_
  refine g_aload_n hC 0 dX8_readsMatter_43 rfl rfl ?_
  refine g_iconst hC (v := (0 : Int32)) dX8_readsMatter_44 (by decide) ?_
  refine g_iload_n hC 2 dX8_readsMatter_45 rfl rfl ?_
  refine g_iconst hC (v := (4 : Int32)) dX8_readsMatter_46 (by decide) ?_
  refine g_iadd hC dX8_readsMatter_47 ?_
  refine g_callv hC (st := []) (c := 8) rfl (by decide) rfl (ctX8_byteAt x F (0 : Int32) (a2 + (4 : Int32)) M) mvX8_byteAt m_1018 (by decide) rfl rfl (Nat.le_of_ble_eq_true rfl) dX8_readsMatter_48 (fun r5 => ?_)
  show GG x f 11 (Qm x f φIM) 51 [(0, .ref (x.1 37)), (1, .int a1), (2, .int a2), (3, .int r1), (4, .int r2), (5, .int r3), (6, .int r4)] [.int r5] M _
  refine g_istore hC (lv' := [(0, .ref (x.1 37)), (1, .int a1), (2, .int a2), (3, .int r1), (4, .int r2), (5, .int r3), (6, .int r4), (7, .int r5)]) [1, 2, 3, 4, 5, 6, 7, 0] dX8_readsMatter_51 (by decide) rfl ?_
  refine g_aload_n hC 0 dX8_readsMatter_53 rfl rfl ?_
  refine g_iload_n hC 2 dX8_readsMatter_54 rfl rfl ?_
  refine g_iconst hC (v := (5 : Int32)) dX8_readsMatter_55 (by decide) ?_
  refine g_iadd hC dX8_readsMatter_56 ?_
  refine g_callv hC (st := []) (c := 8) rfl (by decide) rfl (ctX8_whenAt x F (a2 + (5 : Int32)) M) mvX8_whenAt m_1022 (by decide) rfl rfl (Nat.le_of_ble_eq_true rfl) dX8_readsMatter_57 (fun r6 => ?_)
  show GG x f 11 (Qm x f φIM) 60 [(0, .ref (x.1 37)), (1, .int a1), (2, .int a2), (3, .int r1), (4, .int r2), (5, .int r3), (6, .int r4), (7, .int r5)] [.int r6] M _
  refine g_istore hC (lv' := [(0, .ref (x.1 37)), (1, .int a1), (2, .int a2), (3, .int r1), (4, .int r2), (5, .int r3), (6, .int r4), (7, .int r5), (8, .int r6)]) [1, 2, 3, 4, 5, 6, 7, 8, 0] dX8_readsMatter_60 (by decide) rfl ?_
  refine g_aload_n hC 0 dX8_readsMatter_62 rfl rfl ?_
  refine g_iconst hC (v := (0 : Int32)) dX8_readsMatter_63 (by decide) ?_
  refine g_iload_n hC 2 dX8_readsMatter_64 rfl rfl ?_
  refine g_bipush hC (v := (6 : Int32)) dX8_readsMatter_65 (by decide) ?_
  refine g_iadd hC dX8_readsMatter_67 ?_
  refine g_bipush hC (v := (9 : Int32)) dX8_readsMatter_68 (by decide) ?_
  refine g_callv hC (st := []) (c := 8) rfl (by decide) rfl (ctX8_figureAt x F (0 : Int32) (a2 + (6 : Int32)) (9 : Int32) M) mvX8_figureAt m_1014 (by decide) rfl rfl (Nat.le_of_ble_eq_true rfl) dX8_readsMatter_70 (fun r7 => ?_)
  show GG x f 11 (Qm x f φIM) 73 [(0, .ref (x.1 37)), (1, .int a1), (2, .int a2), (3, .int r1), (4, .int r2), (5, .int r3), (6, .int r4), (7, .int r5), (8, .int r6)] [.int r7] M _
  refine g_istore hC (lv' := [(0, .ref (x.1 37)), (1, .int a1), (2, .int a2), (3, .int r1), (4, .int r2), (5, .int r3), (6, .int r4), (7, .int r5), (8, .int r6), (9, .int r7)]) [1, 2, 3, 4, 5, 6, 7, 8, 9, 0] dX8_readsMatter_73 (by decide) rfl ?_
  refine g_iload_n hC 3 dX8_readsMatter_75 rfl rfl ?_
  refine g_iconst hC (v := (-1 : Int32)) dX8_readsMatter_76 (by decide) ?_
  refine g_nm (fun (J9 : Int32 → Option (Int32 × Mem)) => ∀ (q8 : Int32), GG x f 11 (Qm x f φIM) 167 [(0, .ref (x.1 37)), (1, .int a1), (2, .int a2), (3, .int r1), (4, .int r2), (5, .int r3), (6, .int r4), (7, .int r5), (8, .int r6), (9, .int r7)] [.int q8] M (J9 q8)) (fun q8 => ?_) (fun J9 hJ9 => ?_)
  · show GG x f 11 (Qm x f φIM) 167 [(0, .ref (x.1 37)), (1, .int a1), (2, .int a2), (3, .int r1), (4, .int r2), (5, .int r3), (6, .int r4), (7, .int r5), (8, .int r6), (9, .int r7)] [.int q8] M _
    refine g_istore hC (lv' := [(0, .ref (x.1 37)), (1, .int a1), (2, .int a2), (3, .int r1), (4, .int r2), (5, .int r3), (6, .int r4), (7, .int r5), (8, .int r6), (9, .int r7), (10, .int q8)]) [1, 2, 3, 4, 5, 6, 7, 8, 9, 10, 0] dX8_readsMatter_167 (by decide) rfl ?_
    refine g_iload hC 10 dX8_readsMatter_169 rfl ?_
    refine g_bipush hC (v := (7 : Int32)) dX8_readsMatter_171 (by decide) ?_
    refine g_icmp_ge hC 184 dX8_readsMatter_173 (by decide) ?_ ?_
    · refine g_aload_n hC 0 dX8_readsMatter_184 rfl rfl ?_
      refine g_getR hC cf8 (t := 40) rfl 3 (by decide) rfl m_912 dX8_readsMatter_185 ?_
      refine g_bipush hC (v := (6 : Int32)) dX8_readsMatter_188 (by decide) ?_
      refine g_iload_n hC 1 dX8_readsMatter_190 rfl rfl ?_
      refine g_imul hC dX8_readsMatter_191 ?_
      refine g_iload_n hC 3 dX8_readsMatter_192 rfl rfl ?_
      refine g_iast hC rfl rfl dX8_readsMatter_193 (fun M10 => ?_)
      show GG x f 11 (Qm x f φIM) 194 [(0, .ref (x.1 37)), (1, .int a1), (2, .int a2), (3, .int r1), (4, .int r2), (5, .int r3), (6, .int r4), (7, .int r5), (8, .int r6), (9, .int r7), (10, .int q8)] [] M10 _
      refine g_aload_n hC 0 dX8_readsMatter_194 rfl rfl ?_
      refine g_getR hC cf8 (t := 40) rfl 3 (by decide) rfl m_912 dX8_readsMatter_195 ?_
      refine g_bipush hC (v := (6 : Int32)) dX8_readsMatter_198 (by decide) ?_
      refine g_iload_n hC 1 dX8_readsMatter_200 rfl rfl ?_
      refine g_imul hC dX8_readsMatter_201 ?_
      refine g_iconst hC (v := (1 : Int32)) dX8_readsMatter_202 (by decide) ?_
      refine g_iadd hC dX8_readsMatter_203 ?_
      refine g_iload hC 4 dX8_readsMatter_204 rfl ?_
      refine g_iast hC rfl rfl dX8_readsMatter_206 (fun M11 => ?_)
      show GG x f 11 (Qm x f φIM) 207 [(0, .ref (x.1 37)), (1, .int a1), (2, .int a2), (3, .int r1), (4, .int r2), (5, .int r3), (6, .int r4), (7, .int r5), (8, .int r6), (9, .int r7), (10, .int q8)] [] M11 _
      refine g_aload_n hC 0 dX8_readsMatter_207 rfl rfl ?_
      refine g_getR hC cf8 (t := 40) rfl 3 (by decide) rfl m_912 dX8_readsMatter_208 ?_
      refine g_bipush hC (v := (6 : Int32)) dX8_readsMatter_211 (by decide) ?_
      refine g_iload_n hC 1 dX8_readsMatter_213 rfl rfl ?_
      refine g_imul hC dX8_readsMatter_214 ?_
      refine g_iconst hC (v := (2 : Int32)) dX8_readsMatter_215 (by decide) ?_
      refine g_iadd hC dX8_readsMatter_216 ?_
      refine g_bipush hC (v := (10 : Int32)) dX8_readsMatter_217 (by decide) ?_
      refine g_iload hC 5 dX8_readsMatter_219 rfl ?_
      refine g_imul hC dX8_readsMatter_221 ?_
      refine g_iload hC 6 dX8_readsMatter_222 rfl ?_
      refine g_iadd hC dX8_readsMatter_224 ?_
      refine g_iast hC rfl rfl dX8_readsMatter_225 (fun M12 => ?_)
      show GG x f 11 (Qm x f φIM) 226 [(0, .ref (x.1 37)), (1, .int a1), (2, .int a2), (3, .int r1), (4, .int r2), (5, .int r3), (6, .int r4), (7, .int r5), (8, .int r6), (9, .int r7), (10, .int q8)] [] M12 _
      refine g_aload_n hC 0 dX8_readsMatter_226 rfl rfl ?_
      refine g_getR hC cf8 (t := 40) rfl 3 (by decide) rfl m_912 dX8_readsMatter_227 ?_
      refine g_bipush hC (v := (6 : Int32)) dX8_readsMatter_230 (by decide) ?_
      refine g_iload_n hC 1 dX8_readsMatter_232 rfl rfl ?_
      refine g_imul hC dX8_readsMatter_233 ?_
      refine g_iconst hC (v := (3 : Int32)) dX8_readsMatter_234 (by decide) ?_
      refine g_iadd hC dX8_readsMatter_235 ?_
      refine g_iload hC 7 dX8_readsMatter_236 rfl ?_
      refine g_bipush hC (v := (121 : Int32)) dX8_readsMatter_238 (by decide) ?_
      refine g_nm (fun (J14 : Int32 → Option (Int32 × Mem)) => ∀ (q13 : Int32), GG x f 11 (Qm x f φIM) 248 [(0, .ref (x.1 37)), (1, .int a1), (8, .int r6), (9, .int r7)] [.int q13, .int (((6 : Int32) * a1) + (3 : Int32)), .ref (x.1 40)] M12 (J14 q13)) (fun q13 => ?_) (fun J14 hJ14 => ?_)
      · show GG x f 11 (Qm x f φIM) 248 [(0, .ref (x.1 37)), (1, .int a1), (8, .int r6), (9, .int r7)] [.int q13, .int (((6 : Int32) * a1) + (3 : Int32)), .ref (x.1 40)] M12 _
        refine g_iast hC rfl rfl dX8_readsMatter_248 (fun M15 => ?_)
        show GG x f 11 (Qm x f φIM) 249 [(0, .ref (x.1 37)), (1, .int a1), (8, .int r6), (9, .int r7)] [] M15 _
        refine g_aload_n hC 0 dX8_readsMatter_249 rfl rfl ?_
        refine g_getR hC cf8 (t := 40) rfl 3 (by decide) rfl m_912 dX8_readsMatter_250 ?_
        refine g_bipush hC (v := (6 : Int32)) dX8_readsMatter_253 (by decide) ?_
        refine g_iload_n hC 1 dX8_readsMatter_255 rfl rfl ?_
        refine g_imul hC dX8_readsMatter_256 ?_
        refine g_iconst hC (v := (4 : Int32)) dX8_readsMatter_257 (by decide) ?_
        refine g_iadd hC dX8_readsMatter_258 ?_
        refine g_iload hC 2 dX8_readsMatter_259 rfl ?_
        refine g_iast hC rfl rfl dX8_readsMatter_261 (fun M16 => ?_)
        show GG x f 11 (Qm x f φIM) 262 [(0, .ref (x.1 37)), (1, .int a1), (8, .int r6), (9, .int r7)] [] M16 _
        refine g_aload_n hC 0 dX8_readsMatter_262 rfl rfl ?_
        refine g_getR hC cf8 (t := 40) rfl 3 (by decide) rfl m_912 dX8_readsMatter_263 ?_
        refine g_bipush hC (v := (6 : Int32)) dX8_readsMatter_266 (by decide) ?_
        refine g_iload_n hC 1 dX8_readsMatter_268 rfl rfl ?_
        refine g_imul hC dX8_readsMatter_269 ?_
        refine g_iconst hC (v := (5 : Int32)) dX8_readsMatter_270 (by decide) ?_
        refine g_iadd hC dX8_readsMatter_271 ?_
        refine g_iload hC 2 dX8_readsMatter_272 rfl ?_
        refine g_iconst hC (v := (1 : Int32)) dX8_readsMatter_274 (by decide) ?_
        refine g_nm (fun (J18 : Int32 → Option (Int32 × Mem)) => ∀ (q17 : Int32), GG x f 11 (Qm x f φIM) 284 [(8, .int r6)] [.int q17, .int (((6 : Int32) * a1) + (5 : Int32)), .ref (x.1 40)] M16 (J18 q17)) (fun q17 => ?_) (fun J18 hJ18 => ?_)
        · show GG x f 11 (Qm x f φIM) 284 [(8, .int r6)] [.int q17, .int (((6 : Int32) * a1) + (5 : Int32)), .ref (x.1 40)] M16 _
          refine g_iast hC rfl rfl dX8_readsMatter_284 (fun M19 => ?_)
          show GG x f 11 (Qm x f φIM) 285 [(8, .int r6)] [] M19 _
          refine g_iload hC 0 dX8_readsMatter_285 rfl ?_
          refine g_iconst hC (v := (1 : Int32)) dX8_readsMatter_287 (by decide) ?_
          refine g_icmp_le hC 296 dX8_readsMatter_288 (by decide) ?_ ?_
          · refine g_bipush hC (v := (6 : Int32)) dX8_readsMatter_296 (by decide) ?_
            exact g_iret hC hm rfl dX8_readsMatter_298
          · refine g_bipush hC (v := (7 : Int32)) dX8_readsMatter_291 (by decide) ?_
            refine g_goto hC 298 dX8_readsMatter_293 (by decide) ?_
            exact g_iret hC hm rfl dX8_readsMatter_298
        refine g_icmp_le hC 283 dX8_readsMatter_275 (by decide) ?_ ?_
        · refine g_iconst hC (v := (-1 : Int32)) dX8_readsMatter_283 (by decide) ?_
          refine g_lv (lv' := [(8, .int r6)]) [2] rfl ?_
          exact hJ18 (-1 : Int32)
        · refine g_iload hC 3 dX8_readsMatter_278 rfl ?_
          refine g_goto hC 284 dX8_readsMatter_280 (by decide) ?_
          refine g_lv (lv' := [(8, .int r6)]) [2] rfl ?_
          exact hJ18 r7
      refine g_icmp_ne hC 247 dX8_readsMatter_240 (by decide) ?_ ?_
      · refine g_iconst hC (v := (0 : Int32)) dX8_readsMatter_247 (by decide) ?_
        refine g_lv (lv' := [(0, .ref (x.1 37)), (1, .int a1), (8, .int r6), (9, .int r7)]) [0, 1, 8, 9] rfl ?_
        exact hJ14 (0 : Int32)
      · refine g_iconst hC (v := (1 : Int32)) dX8_readsMatter_243 (by decide) ?_
        refine g_goto hC 248 dX8_readsMatter_244 (by decide) ?_
        refine g_lv (lv' := [(0, .ref (x.1 37)), (1, .int a1), (8, .int r6), (9, .int r7)]) [0, 1, 8, 9] rfl ?_
        exact hJ14 (1 : Int32)
    · refine g_iload_n hC 2 dX8_readsMatter_176 rfl rfl ?_
      refine g_ineg hC dX8_readsMatter_177 ?_
      refine g_iload hC 10 dX8_readsMatter_178 rfl ?_
      refine g_isub hC dX8_readsMatter_180 ?_
      refine g_iconst hC (v := (1 : Int32)) dX8_readsMatter_181 (by decide) ?_
      refine g_isub hC dX8_readsMatter_182 ?_
      exact g_iret hC hm rfl dX8_readsMatter_183
  refine g_icmp_ne hC 84 dX8_readsMatter_77 (by decide) ?_ ?_
  · refine g_iload hC 4 dX8_readsMatter_84 rfl ?_
    refine g_iconst hC (v := (-1 : Int32)) dX8_readsMatter_86 (by decide) ?_
    refine g_nm (fun (J20 : Option (Int32 × Mem)) => GG x f 11 (Qm x f φIM) 96 [(0, .ref (x.1 37)), (1, .int a1), (2, .int a2), (3, .int r1), (4, .int r2), (5, .int r3), (6, .int r4), (7, .int r5), (8, .int r6), (9, .int r7)] [] M J20) ?_ (fun J20 hJ20 => ?_)
    · show GG x f 11 (Qm x f φIM) 96 [(0, .ref (x.1 37)), (1, .int a1), (2, .int a2), (3, .int r1), (4, .int r2), (5, .int r3), (6, .int r4), (7, .int r5), (8, .int r6), (9, .int r7)] [] M _
      refine g_iconst hC (v := (1 : Int32)) dX8_readsMatter_96 (by decide) ?_
      refine g_goto hC 167 dX8_readsMatter_97 (by decide) ?_
      exact hJ9 (1 : Int32)
    refine g_icmp_eq hC 96 dX8_readsMatter_87 (by decide) ?_ ?_
    · exact hJ20
    · refine g_iload hC 4 dX8_readsMatter_90 rfl ?_
      refine g_iload_n hC 3 dX8_readsMatter_92 rfl rfl ?_
      refine g_icmp_ne hC 100 dX8_readsMatter_93 (by decide) ?_ ?_
      · refine g_iload hC 5 dX8_readsMatter_100 rfl ?_
        refine g_iconst hC (v := (-1 : Int32)) dX8_readsMatter_102 (by decide) ?_
        refine g_icmp_ne hC 110 dX8_readsMatter_103 (by decide) ?_ ?_
        · refine g_iload hC 6 dX8_readsMatter_110 rfl ?_
          refine g_iconst hC (v := (-1 : Int32)) dX8_readsMatter_112 (by decide) ?_
          refine g_icmp_ne hC 120 dX8_readsMatter_113 (by decide) ?_ ?_
          · refine g_iload hC 7 dX8_readsMatter_120 rfl ?_
            refine g_bipush hC (v := (121 : Int32)) dX8_readsMatter_122 (by decide) ?_
            refine g_nm (fun (J21 : Option (Int32 × Mem)) => GG x f 11 (Qm x f φIM) 138 [(0, .ref (x.1 37)), (1, .int a1), (2, .int a2), (3, .int r1), (4, .int r2), (5, .int r3), (6, .int r4), (7, .int r5), (8, .int r6), (9, .int r7)] [] M J21) ?_ (fun J21 hJ21 => ?_)
            · show GG x f 11 (Qm x f φIM) 138 [(0, .ref (x.1 37)), (1, .int a1), (2, .int a2), (3, .int r1), (4, .int r2), (5, .int r3), (6, .int r4), (7, .int r5), (8, .int r6), (9, .int r7)] [] M _
              refine g_iload hC 8 dX8_readsMatter_138 rfl ?_
              refine g_iconst hC (v := (-1 : Int32)) dX8_readsMatter_140 (by decide) ?_
              refine g_icmp_ne hC 148 dX8_readsMatter_141 (by decide) ?_ ?_
              · refine g_iload hC 8 dX8_readsMatter_148 rfl ?_
                refine g_iconst hC (v := (1 : Int32)) dX8_readsMatter_150 (by decide) ?_
                refine g_nm (fun (J22 : Option (Int32 × Mem)) => GG x f 11 (Qm x f φIM) 165 [(0, .ref (x.1 37)), (1, .int a1), (2, .int a2), (3, .int r1), (4, .int r2), (5, .int r3), (6, .int r4), (7, .int r5), (8, .int r6), (9, .int r7)] [] M J22) ?_ (fun J22 hJ22 => ?_)
                · show GG x f 11 (Qm x f φIM) 165 [(0, .ref (x.1 37)), (1, .int a1), (2, .int a2), (3, .int r1), (4, .int r2), (5, .int r3), (6, .int r4), (7, .int r5), (8, .int r6), (9, .int r7)] [] M _
                  refine g_bipush hC (v := (7 : Int32)) dX8_readsMatter_165 (by decide) ?_
                  exact hJ9 (7 : Int32)
                refine g_icmp_le hC 165 dX8_readsMatter_151 (by decide) ?_ ?_
                · exact hJ22
                · refine g_iload hC 9 dX8_readsMatter_154 rfl ?_
                  refine g_iconst hC (v := (-1 : Int32)) dX8_readsMatter_156 (by decide) ?_
                  refine g_icmp_ne hC 165 dX8_readsMatter_157 (by decide) ?_ ?_
                  · exact hJ22
                  · refine g_bipush hC (v := (6 : Int32)) dX8_readsMatter_160 (by decide) ?_
                    refine g_goto hC 167 dX8_readsMatter_162 (by decide) ?_
                    exact hJ9 (6 : Int32)
              · refine g_iconst hC (v := (5 : Int32)) dX8_readsMatter_144 (by decide) ?_
                refine g_goto hC 167 dX8_readsMatter_145 (by decide) ?_
                exact hJ9 (5 : Int32)
            refine g_icmp_eq hC 138 dX8_readsMatter_124 (by decide) ?_ ?_
            · exact hJ21
            · refine g_iload hC 7 dX8_readsMatter_127 rfl ?_
              refine g_bipush hC (v := (110 : Int32)) dX8_readsMatter_129 (by decide) ?_
              refine g_icmp_eq hC 138 dX8_readsMatter_131 (by decide) ?_ ?_
              · exact hJ21
              · refine g_iconst hC (v := (4 : Int32)) dX8_readsMatter_134 (by decide) ?_
                refine g_goto hC 167 dX8_readsMatter_135 (by decide) ?_
                exact hJ9 (4 : Int32)
          · refine g_iconst hC (v := (3 : Int32)) dX8_readsMatter_116 (by decide) ?_
            refine g_goto hC 167 dX8_readsMatter_117 (by decide) ?_
            exact hJ9 (3 : Int32)
        · refine g_iconst hC (v := (2 : Int32)) dX8_readsMatter_106 (by decide) ?_
          refine g_goto hC 167 dX8_readsMatter_107 (by decide) ?_
          exact hJ9 (2 : Int32)
      · exact hJ20
  · refine g_iconst hC (v := (0 : Int32)) dX8_readsMatter_80 (by decide) ?_
    refine g_goto hC 167 dX8_readsMatter_81 (by decide) ?_
    exact hJ9 (0 : Int32)
def sX8_readsMatters_L9 (F : Nat) (J4 : Int32 → Mem → Option (Int32 × Mem)) (J8 : Int32 → Mem → Option (Int32 × Mem)) (rec12 : Int32 → Int32 → Mem → Option (Int32 × Mem)) (p9 : Int32) (p10 : Int32) (M11 : Mem) : Option (Int32 × Mem) :=
ib (0 : Int32) 3 (
nm (if ¬ p9 = (10 : Int32) then
((sX8_readsMatter F p9 p10 M11).bind (fun r14 =>
if 0 ≤ r14.1 then
(nm (p10 + r14.1) (fun v15 =>
ib (0 : Int32) 3 (
if ¬ v15 = (r14.2 38 (ix (0 : Int32))) then
((sX8_byteAt F (0 : Int32) v15 r14.2).bind (fun r16 =>
if r16 = (59 : Int32) then
(rec12 (p9 + (1 : Int32)) (v15 + (1 : Int32)) r14.2)
else
(some (v15, r14.2))))
else
(J4 (p9 + (1 : Int32)) r14.2))))
else
(J8 r14.1 r14.2)))
else
(some (p10, M11))) (fun J13 =>
if p10 < (M11 38 (ix (0 : Int32))) then
(J13)
else
(if p10 ≤ 0 then
(some ((-1 : Int32), M11))
else
(J13))))
def sX8_readsMatters (F : Nat) (M : Mem) : Option (Int32 × Mem) :=
nm (st2 M 37 2 (0 : Int32)) (fun M1 =>
nm (fun (p2 : Int32) (M3 : Mem) =>
nm (st2 M3 37 2 p2) (fun M5 =>
some ((-1 : Int32), M5))) (fun J4 =>
nm (fun (p6 : Int32) (M7 : Mem) =>
some (((-p6) - (1 : Int32)), M7)) (fun J8 =>
fx3 F (sX8_readsMatters_L9 F J4 J8) (0 : Int32) (0 : Int32) M1)))
theorem mvX8_readsMatters : MV yX8_readsMatters cX8_readsMatters 4 (some .int) 0 := ⟨⟨m_1009, m_76, by decide, by decide, by decide⟩, m_1008, m_25⟩
set_option maxHeartbeats 4000000 in
set_option maxRecDepth 100000 in
theorem ctX8_readsMatters (x : Wx) (F : Nat) (M : Mem) : Ct x yX8_readsMatters cX8_readsMatters 4 (some .int) { frames := 3, cells := 0, slots := 0, locals := 76 } φIM [.ref (x.1 37)] M (sX8_readsMatters F M) := by
  refine ct_of (by decide) (Nat.le_of_ble_eq_true rfl) (fun f hC hm => ?_)
  have hC : Cx x f "AnswersFirstModel" cX8_readsMatters 4 { frames := 3, cells := 0, slots := 0, locals := 76 } := hC
  show GG x f 4 (Qm x f φIM) 0 [(0, .ref (x.1 37))] [] M _
  unfold sX8_readsMatters
  refine g_aload_n hC 0 dX8_readsMatters_0 rfl rfl ?_
  refine g_iconst hC (v := (0 : Int32)) dX8_readsMatters_1 (by decide) ?_
  refine g_put hC cf8 rfl 2 (by decide) rfl m_911 rfl rfl rfl dX8_readsMatters_2 (fun M1 => ?_)
  show GG x f 4 (Qm x f φIM) 5 [(0, .ref (x.1 37))] [] M1 _
  refine g_iconst hC (v := (0 : Int32)) dX8_readsMatters_5 (by decide) ?_
  refine g_istore_n hC (lv' := [(0, .ref (x.1 37)), (1, .int (0 : Int32))]) [1, 0] dX8_readsMatters_6 rfl (by decide) rfl ?_
  refine g_iconst hC (v := (0 : Int32)) dX8_readsMatters_7 (by decide) ?_
  refine g_istore_n hC (lv' := [(0, .ref (x.1 37)), (1, .int (0 : Int32)), (2, .int (0 : Int32))]) [1, 2, 0] dX8_readsMatters_8 rfl (by decide) rfl ?_
  refine g_nm (fun (J4 : Int32 → Mem → Option (Int32 × Mem)) => ∀ (p2 : Int32) (M3 : Mem), GG x f 4 (Qm x f φIM) 64 [(0, .ref (x.1 37)), (1, .int p2)] [] M3 (J4 p2 M3)) (fun p2 M3 => ?_) (fun J4 hJ4 => ?_)
  · show GG x f 4 (Qm x f φIM) 64 [(0, .ref (x.1 37)), (1, .int p2)] [] M3 _
    refine g_aload_n hC 0 dX8_readsMatters_64 rfl rfl ?_
    refine g_iload_n hC 1 dX8_readsMatters_65 rfl rfl ?_
    refine g_put hC cf8 rfl 2 (by decide) rfl m_911 rfl rfl rfl dX8_readsMatters_66 (fun M5 => ?_)
    show GG x f 4 (Qm x f φIM) 69 [(0, .ref (x.1 37)), (1, .int p2)] [] M5 _
    refine g_iconst hC (v := (-1 : Int32)) dX8_readsMatters_69 (by decide) ?_
    exact g_iret hC hm rfl dX8_readsMatters_70
  refine g_nm (fun (J8 : Int32 → Mem → Option (Int32 × Mem)) => ∀ (p6 : Int32) (M7 : Mem), GG x f 4 (Qm x f φIM) 42 [(3, .int p6)] [] M7 (J8 p6 M7)) (fun p6 M7 => ?_) (fun J8 hJ8 => ?_)
  · show GG x f 4 (Qm x f φIM) 42 [(3, .int p6)] [] M7 _
    refine g_iload_n hC 0 dX8_readsMatters_42 rfl rfl ?_
    refine g_ineg hC dX8_readsMatters_43 ?_
    refine g_iconst hC (v := (1 : Int32)) dX8_readsMatters_44 (by decide) ?_
    refine g_isub hC dX8_readsMatters_45 ?_
    exact g_iret hC hm rfl dX8_readsMatters_46
  refine g_fx3 (fun (p9 : Int32) (p10 : Int32) (M11 : Mem) => [(0, .ref (x.1 37)), (1, .int p9), (2, .int p10)]) (fun (p9 : Int32) (p10 : Int32) (M11 : Mem) => M11) (fun rec12 hrec12 p9 p10 M11 => ?_) F _ _ _
  show GG x f 4 (Qm x f φIM) 9 [(0, .ref (x.1 37)), (1, .int p9), (2, .int p10)] [] M11 _
  unfold sX8_readsMatters_L9
  refine g_iload_n hC 2 dX8_readsMatters_9 rfl rfl ?_
  refine g_aload_n hC 0 dX8_readsMatters_10 rfl rfl ?_
  refine g_getR hC cf8 (t := 38) rfl 0 (by decide) rfl m_909 dX8_readsMatters_11 ?_
  refine g_iconst hC (v := (0 : Int32)) dX8_readsMatters_14 (by decide) ?_
  refine g_iald hC rfl rfl dX8_readsMatters_15 ?_
  refine g_nm (fun (J13 : Option (Int32 × Mem)) => GG x f 4 (Qm x f φIM) 23 [(0, .ref (x.1 37)), (1, .int p9), (2, .int p10)] [] M11 J13) ?_ (fun J13 hJ13 => ?_)
  · show GG x f 4 (Qm x f φIM) 23 [(0, .ref (x.1 37)), (1, .int p9), (2, .int p10)] [] M11 _
    refine g_iload_n hC 1 dX8_readsMatters_23 rfl rfl ?_
    refine g_bipush hC (v := (10 : Int32)) dX8_readsMatters_24 (by decide) ?_
    refine g_icmp_ne hC 31 dX8_readsMatters_26 (by decide) ?_ ?_
    · refine g_aload_n hC 0 dX8_readsMatters_31 rfl rfl ?_
      refine g_iload_n hC 1 dX8_readsMatters_32 rfl rfl ?_
      refine g_iload_n hC 2 dX8_readsMatters_33 rfl rfl ?_
      refine g_callv hC (st := []) (c := 8) rfl (by decide) rfl (ctX8_readsMatter x F p9 p10 M11) mvX8_readsMatter m_1010 (by decide) rfl rfl (Nat.le_of_ble_eq_true rfl) dX8_readsMatters_34 (fun r14 => ?_)
      show GG x f 4 (Qm x f φIM) 37 [(0, .ref (x.1 37)), (1, .int p9), (2, .int p10)] [.int (r14.1)] r14.2 _
      refine g_istore_n hC (lv' := [(0, .ref (x.1 37)), (1, .int p9), (2, .int p10), (3, .int (r14.1))]) [1, 2, 3, 0] dX8_readsMatters_37 rfl (by decide) rfl ?_
      refine g_iload_n hC 3 dX8_readsMatters_38 rfl rfl ?_
      refine g_if_ge hC 47 dX8_readsMatters_39 (by decide) ?_ ?_
      · refine g_iinc hC (q := 1) (v := (1 : Int32)) (lv' := [(0, .ref (x.1 37)), (1, .int (p9 + (1 : Int32))), (2, .int p10), (3, .int (r14.1))]) [1, 0, 2, 3] dX8_readsMatters_47 rfl (by decide) (by decide) rfl ?_
        refine g_iload_n hC 2 dX8_readsMatters_50 rfl rfl ?_
        refine g_iload_n hC 3 dX8_readsMatters_51 rfl rfl ?_
        refine g_iadd hC dX8_readsMatters_52 ?_
        refine g_top (fun v15 => ?_)
        show GG x f 4 (Qm x f φIM) 53 [(0, .ref (x.1 37)), (1, .int (p9 + (1 : Int32))), (2, .int p10), (3, .int (r14.1))] [.int v15] r14.2 _
        refine g_istore_n hC (lv' := [(0, .ref (x.1 37)), (1, .int (p9 + (1 : Int32))), (2, .int v15)]) [1, 2, 0] dX8_readsMatters_53 rfl (by decide) rfl ?_
        refine g_iload_n hC 2 dX8_readsMatters_54 rfl rfl ?_
        refine g_aload_n hC 0 dX8_readsMatters_55 rfl rfl ?_
        refine g_getR hC cf8 (t := 38) rfl 0 (by decide) rfl m_909 dX8_readsMatters_56 ?_
        refine g_iconst hC (v := (0 : Int32)) dX8_readsMatters_59 (by decide) ?_
        refine g_iald hC rfl rfl dX8_readsMatters_60 ?_
        refine g_icmp_ne hC 71 dX8_readsMatters_61 (by decide) ?_ ?_
        · refine g_aload_n hC 0 dX8_readsMatters_71 rfl rfl ?_
          refine g_iconst hC (v := (0 : Int32)) dX8_readsMatters_72 (by decide) ?_
          refine g_iload_n hC 2 dX8_readsMatters_73 rfl rfl ?_
          refine g_callv hC (st := []) (c := 8) rfl (by decide) rfl (ctX8_byteAt x F (0 : Int32) v15 r14.2) mvX8_byteAt m_1018 (by decide) rfl rfl (Nat.le_of_ble_eq_true rfl) dX8_readsMatters_74 (fun r16 => ?_)
          show GG x f 4 (Qm x f φIM) 77 [(0, .ref (x.1 37)), (1, .int (p9 + (1 : Int32))), (2, .int v15)] [.int r16] r14.2 _
          refine g_bipush hC (v := (59 : Int32)) dX8_readsMatters_77 (by decide) ?_
          refine g_icmp_eq hC 84 dX8_readsMatters_79 (by decide) ?_ ?_
          · refine g_iinc hC (q := 2) (v := (1 : Int32)) (lv' := [(0, .ref (x.1 37)), (1, .int (p9 + (1 : Int32))), (2, .int (v15 + (1 : Int32)))]) [1, 2, 0] dX8_readsMatters_84 rfl (by decide) (by decide) rfl ?_
            refine g_goto hC 9 dX8_readsMatters_87 (by decide) ?_
            exact hrec12 (p9 + (1 : Int32)) (v15 + (1 : Int32)) r14.2
          · refine g_iload_n hC 2 dX8_readsMatters_82 rfl rfl ?_
            exact g_iret hC hm rfl dX8_readsMatters_83
        · refine g_lv (lv' := [(0, .ref (x.1 37)), (1, .int (p9 + (1 : Int32)))]) [0, 1] rfl ?_
          exact hJ4 (p9 + (1 : Int32)) r14.2
      · refine g_lv (lv' := [(3, .int (r14.1))]) [3] rfl ?_
        exact hJ8 r14.1 r14.2
    · refine g_iload_n hC 2 dX8_readsMatters_29 rfl rfl ?_
      exact g_iret hC hm rfl dX8_readsMatters_30
  refine g_icmp_lt hC 23 dX8_readsMatters_16 (by decide) ?_ ?_
  · exact hJ13
  · refine g_iload_n hC 2 dX8_readsMatters_19 rfl rfl ?_
    refine g_if_le hC 90 dX8_readsMatters_20 (by decide) ?_ ?_
    · refine g_iconst hC (v := (-1 : Int32)) dX8_readsMatters_90 (by decide) ?_
      exact g_iret hC hm rfl dX8_readsMatters_91
    · exact hJ13
def sX8_readsPosts_L16 (F : Nat) (a1 : Int32) (v1 : Int32) (J5 : Int32 → Mem → Option (Int32 × Mem)) (J10 : Int32 → Int32 → Mem → Option (Int32 × Mem)) (rec14 : Int32 → Int32 → Mem → Option (Int32 × Mem)) (p11 : Int32) (p12 : Int32) (M13 : Mem) : Option (Int32 × Mem) :=
ib a1 3 (
nm (if ¬ p11 = (10 : Int32) then
((sX8_figureAt F a1 p12 (9 : Int32) M13).bind (fun r16 =>
(sX8_figureAt F a1 (p12 + (1 : Int32)) (9 : Int32) M13).bind (fun r17 =>
(sX8_figureAt F a1 (p12 + (2 : Int32)) (5 : Int32) M13).bind (fun r18 =>
(sX8_figureAt F a1 (p12 + (3 : Int32)) (5 : Int32) M13).bind (fun r19 =>
nm (fun (q20 : Int32) =>
if (4 : Int32) ≤ q20 then
(ib (((33 : Int32) * v1) + ((3 : Int32) * p11)) 66 (
nm (st2 M13 42 (ix (((33 : Int32) * v1) + ((3 : Int32) * p11))) (((10 : Int32) * r16) + r17)) (fun M22 =>
ib ((((33 : Int32) * v1) + ((3 : Int32) * p11)) + (1 : Int32)) 66 (
nm (st2 M22 42 (ix ((((33 : Int32) * v1) + ((3 : Int32) * p11)) + (1 : Int32))) r18) (fun M23 =>
ib ((((33 : Int32) * v1) + ((3 : Int32) * p11)) + (2 : Int32)) 66 (
nm (st2 M23 42 (ix ((((33 : Int32) * v1) + ((3 : Int32) * p11)) + (2 : Int32))) r19) (fun M24 =>
ib a1 3 (
if ¬ (p12 + (4 : Int32)) = (M24 38 (ix a1)) then
((sX8_byteAt F a1 (p12 + (4 : Int32)) M24).bind (fun r25 =>
if r25 = (59 : Int32) then
(rec14 (p11 + (1 : Int32)) ((p12 + (4 : Int32)) + (1 : Int32)) M24)
else
(some ((p12 + (4 : Int32)), M24))))
else
(J5 (p11 + (1 : Int32)) M24)))))))))
else
(J10 p12 q20 M13)) (fun J21 =>
if ¬ r16 = (-1 : Int32) then
(if ¬ r17 = (-1 : Int32) then
(if ¬ r18 = (-1 : Int32) then
(nm (J21 (3 : Int32)) (fun J26 =>
if r19 = (-1 : Int32) then
(J26)
else
(if ¬ r19 = r18 then
(J21 (4 : Int32))
else
(J26))))
else
(J21 (2 : Int32)))
else
(J21 (1 : Int32)))
else
(J21 (0 : Int32))))))))
else
(some (p12, M13))) (fun J15 =>
if p12 < (M13 38 (ix a1)) then
(J15)
else
(if p12 ≤ 0 then
(some ((-1 : Int32), M13))
else
(J15))))
def sX8_readsPosts (F : Nat) (a1 : Int32) (M : Mem) : Option (Int32 × Mem) :=
nm (a1 - (1 : Int32)) (fun v1 =>
ib v1 2 (
nm (st2 M 41 (ix v1) (0 : Int32)) (fun M2 =>
nm (fun (p3 : Int32) (M4 : Mem) =>
ib v1 2 (
nm (st2 M4 41 (ix v1) p3) (fun M6 =>
some ((-1 : Int32), M6)))) (fun J5 =>
nm (fun (p7 : Int32) (p8 : Int32) (M9 : Mem) =>
some ((p7 + p8), M9)) (fun J10 =>
fx3 F (sX8_readsPosts_L16 F a1 v1 J5 J10) (0 : Int32) (0 : Int32) M2)))))
theorem mvX8_readsPosts : MV yX8_readsPosts cX8_readsPosts 10 (some .int) 1 := ⟨⟨m_1029, m_76, by decide, by decide, by decide⟩, m_1028, m_30⟩
set_option maxHeartbeats 4000000 in
set_option maxRecDepth 100000 in
theorem ctX8_readsPosts (x : Wx) (F : Nat) (a1 : Int32) (M : Mem) : Ct x yX8_readsPosts cX8_readsPosts 10 (some .int) { frames := 2, cells := 0, slots := 0, locals := 46 } φIM [.ref (x.1 37), .int a1] M (sX8_readsPosts F a1 M) := by
  refine ct_of (by decide) (Nat.le_of_ble_eq_true rfl) (fun f hC hm => ?_)
  have hC : Cx x f "AnswersFirstModel" cX8_readsPosts 10 { frames := 2, cells := 0, slots := 0, locals := 46 } := hC
  show GG x f 10 (Qm x f φIM) 0 [(0, .ref (x.1 37)), (1, .int a1)] [] M _
  unfold sX8_readsPosts
  refine g_iload_n hC 1 dX8_readsPosts_0 rfl rfl ?_
  refine g_iconst hC (v := (1 : Int32)) dX8_readsPosts_1 (by decide) ?_
  refine g_isub hC dX8_readsPosts_2 ?_
  refine g_top (fun v1 => ?_)
  show GG x f 10 (Qm x f φIM) 3 [(0, .ref (x.1 37)), (1, .int a1)] [.int v1] M _
  refine g_istore_n hC (lv' := [(0, .ref (x.1 37)), (1, .int a1), (2, .int v1)]) [1, 2, 0] dX8_readsPosts_3 rfl (by decide) rfl ?_
  refine g_aload_n hC 0 dX8_readsPosts_4 rfl rfl ?_
  refine g_getR hC cf8 (t := 41) rfl 4 (by decide) rfl m_913 dX8_readsPosts_5 ?_
  refine g_iload_n hC 2 dX8_readsPosts_8 rfl rfl ?_
  refine g_iconst hC (v := (0 : Int32)) dX8_readsPosts_9 (by decide) ?_
  refine g_iast hC rfl rfl dX8_readsPosts_10 (fun M2 => ?_)
  show GG x f 10 (Qm x f φIM) 11 [(0, .ref (x.1 37)), (1, .int a1), (2, .int v1)] [] M2 _
  refine g_iconst hC (v := (0 : Int32)) dX8_readsPosts_11 (by decide) ?_
  refine g_istore_n hC (lv' := [(0, .ref (x.1 37)), (1, .int a1), (2, .int v1), (3, .int (0 : Int32))]) [1, 2, 3, 0] dX8_readsPosts_12 rfl (by decide) rfl ?_
  refine g_iconst hC (v := (0 : Int32)) dX8_readsPosts_13 (by decide) ?_
  refine g_istore hC (lv' := [(0, .ref (x.1 37)), (1, .int a1), (2, .int v1), (3, .int (0 : Int32)), (4, .int (0 : Int32))]) [1, 2, 3, 4, 0] dX8_readsPosts_14 (by decide) rfl ?_
  refine g_nm (fun (J5 : Int32 → Mem → Option (Int32 × Mem)) => ∀ (p3 : Int32) (M4 : Mem), GG x f 10 (Qm x f φIM) 223 [(0, .ref (x.1 37)), (2, .int v1), (3, .int p3)] [] M4 (J5 p3 M4)) (fun p3 M4 => ?_) (fun J5 hJ5 => ?_)
  · show GG x f 10 (Qm x f φIM) 223 [(0, .ref (x.1 37)), (2, .int v1), (3, .int p3)] [] M4 _
    refine g_aload_n hC 0 dX8_readsPosts_223 rfl rfl ?_
    refine g_getR hC cf8 (t := 41) rfl 4 (by decide) rfl m_913 dX8_readsPosts_224 ?_
    refine g_iload_n hC 1 dX8_readsPosts_227 rfl rfl ?_
    refine g_iload_n hC 2 dX8_readsPosts_228 rfl rfl ?_
    refine g_iast hC rfl rfl dX8_readsPosts_229 (fun M6 => ?_)
    show GG x f 10 (Qm x f φIM) 230 [(0, .ref (x.1 37)), (2, .int v1), (3, .int p3)] [] M6 _
    refine g_iconst hC (v := (-1 : Int32)) dX8_readsPosts_230 (by decide) ?_
    exact g_iret hC hm rfl dX8_readsPosts_231
  refine g_nm (fun (J10 : Int32 → Int32 → Mem → Option (Int32 × Mem)) => ∀ (p7 : Int32) (p8 : Int32) (M9 : Mem), GG x f 10 (Qm x f φIM) 145 [(4, .int p7), (9, .int p8)] [] M9 (J10 p7 p8 M9)) (fun p7 p8 M9 => ?_) (fun J10 hJ10 => ?_)
  · show GG x f 10 (Qm x f φIM) 145 [(4, .int p7), (9, .int p8)] [] M9 _
    refine g_iload hC 0 dX8_readsPosts_145 rfl ?_
    refine g_iload hC 1 dX8_readsPosts_147 rfl ?_
    refine g_iadd hC dX8_readsPosts_149 ?_
    exact g_iret hC hm rfl dX8_readsPosts_150
  refine g_fx3 (fun (p11 : Int32) (p12 : Int32) (M13 : Mem) => [(0, .ref (x.1 37)), (1, .int a1), (2, .int v1), (3, .int p11), (4, .int p12)]) (fun (p11 : Int32) (p12 : Int32) (M13 : Mem) => M13) (fun rec14 hrec14 p11 p12 M13 => ?_) F _ _ _
  show GG x f 10 (Qm x f φIM) 16 [(0, .ref (x.1 37)), (1, .int a1), (2, .int v1), (3, .int p11), (4, .int p12)] [] M13 _
  unfold sX8_readsPosts_L16
  refine g_iload hC 4 dX8_readsPosts_16 rfl ?_
  refine g_aload_n hC 0 dX8_readsPosts_18 rfl rfl ?_
  refine g_getR hC cf8 (t := 38) rfl 0 (by decide) rfl m_909 dX8_readsPosts_19 ?_
  refine g_iload_n hC 1 dX8_readsPosts_22 rfl rfl ?_
  refine g_iald hC rfl rfl dX8_readsPosts_23 ?_
  refine g_nm (fun (J15 : Option (Int32 × Mem)) => GG x f 10 (Qm x f φIM) 32 [(0, .ref (x.1 37)), (1, .int a1), (2, .int v1), (3, .int p11), (4, .int p12)] [] M13 J15) ?_ (fun J15 hJ15 => ?_)
  · show GG x f 10 (Qm x f φIM) 32 [(0, .ref (x.1 37)), (1, .int a1), (2, .int v1), (3, .int p11), (4, .int p12)] [] M13 _
    refine g_iload_n hC 3 dX8_readsPosts_32 rfl rfl ?_
    refine g_bipush hC (v := (10 : Int32)) dX8_readsPosts_33 (by decide) ?_
    refine g_icmp_ne hC 41 dX8_readsPosts_35 (by decide) ?_ ?_
    · refine g_aload_n hC 0 dX8_readsPosts_41 rfl rfl ?_
      refine g_iload_n hC 1 dX8_readsPosts_42 rfl rfl ?_
      refine g_iload hC 4 dX8_readsPosts_43 rfl ?_
      refine g_bipush hC (v := (9 : Int32)) dX8_readsPosts_45 (by decide) ?_
      refine g_callv hC (st := []) (c := 8) rfl (by decide) rfl (ctX8_figureAt x F a1 p12 (9 : Int32) M13) mvX8_figureAt m_1014 (by decide) rfl rfl (Nat.le_of_ble_eq_true rfl) dX8_readsPosts_47 (fun r16 => ?_)
      show GG x f 10 (Qm x f φIM) 50 [(0, .ref (x.1 37)), (1, .int a1), (2, .int v1), (3, .int p11), (4, .int p12)] [.int r16] M13 _
      refine g_istore hC (lv' := [(0, .ref (x.1 37)), (1, .int a1), (2, .int v1), (3, .int p11), (4, .int p12), (5, .int r16)]) [1, 2, 3, 4, 5, 0] dX8_readsPosts_50 (by decide) rfl ?_
      refine g_aload_n hC 0 dX8_readsPosts_52 rfl rfl ?_
      refine g_iload_n hC 1 dX8_readsPosts_53 rfl rfl ?_
      refine g_iload hC 4 dX8_readsPosts_54 rfl ?_
      refine g_iconst hC (v := (1 : Int32)) dX8_readsPosts_56 (by decide) ?_
      refine g_iadd hC dX8_readsPosts_57 ?_
      refine g_bipush hC (v := (9 : Int32)) dX8_readsPosts_58 (by decide) ?_
      refine g_callv hC (st := []) (c := 8) rfl (by decide) rfl (ctX8_figureAt x F a1 (p12 + (1 : Int32)) (9 : Int32) M13) mvX8_figureAt m_1014 (by decide) rfl rfl (Nat.le_of_ble_eq_true rfl) dX8_readsPosts_60 (fun r17 => ?_)
      show GG x f 10 (Qm x f φIM) 63 [(0, .ref (x.1 37)), (1, .int a1), (2, .int v1), (3, .int p11), (4, .int p12), (5, .int r16)] [.int r17] M13 _
      refine g_istore hC (lv' := [(0, .ref (x.1 37)), (1, .int a1), (2, .int v1), (3, .int p11), (4, .int p12), (5, .int r16), (6, .int r17)]) [1, 2, 3, 4, 5, 6, 0] dX8_readsPosts_63 (by decide) rfl ?_
      refine g_aload_n hC 0 dX8_readsPosts_65 rfl rfl ?_
      refine g_iload_n hC 1 dX8_readsPosts_66 rfl rfl ?_
      refine g_iload hC 4 dX8_readsPosts_67 rfl ?_
      refine g_iconst hC (v := (2 : Int32)) dX8_readsPosts_69 (by decide) ?_
      refine g_iadd hC dX8_readsPosts_70 ?_
      refine g_iconst hC (v := (5 : Int32)) dX8_readsPosts_71 (by decide) ?_
      refine g_callv hC (st := []) (c := 8) rfl (by decide) rfl (ctX8_figureAt x F a1 (p12 + (2 : Int32)) (5 : Int32) M13) mvX8_figureAt m_1014 (by decide) rfl rfl (Nat.le_of_ble_eq_true rfl) dX8_readsPosts_72 (fun r18 => ?_)
      show GG x f 10 (Qm x f φIM) 75 [(0, .ref (x.1 37)), (1, .int a1), (2, .int v1), (3, .int p11), (4, .int p12), (5, .int r16), (6, .int r17)] [.int r18] M13 _
      refine g_istore hC (lv' := [(0, .ref (x.1 37)), (1, .int a1), (2, .int v1), (3, .int p11), (4, .int p12), (5, .int r16), (6, .int r17), (7, .int r18)]) [1, 2, 3, 4, 5, 6, 7, 0] dX8_readsPosts_75 (by decide) rfl ?_
      refine g_aload_n hC 0 dX8_readsPosts_77 rfl rfl ?_
      refine g_iload_n hC 1 dX8_readsPosts_78 rfl rfl ?_
      refine g_iload hC 4 dX8_readsPosts_79 rfl ?_
      refine g_iconst hC (v := (3 : Int32)) dX8_readsPosts_81 (by decide) ?_
      refine g_iadd hC dX8_readsPosts_82 ?_
      refine g_iconst hC (v := (5 : Int32)) dX8_readsPosts_83 (by decide) ?_
      refine g_callv hC (st := []) (c := 8) rfl (by decide) rfl (ctX8_figureAt x F a1 (p12 + (3 : Int32)) (5 : Int32) M13) mvX8_figureAt m_1014 (by decide) rfl rfl (Nat.le_of_ble_eq_true rfl) dX8_readsPosts_84 (fun r19 => ?_)
      show GG x f 10 (Qm x f φIM) 87 [(0, .ref (x.1 37)), (1, .int a1), (2, .int v1), (3, .int p11), (4, .int p12), (5, .int r16), (6, .int r17), (7, .int r18)] [.int r19] M13 _
      refine g_istore hC (lv' := [(0, .ref (x.1 37)), (1, .int a1), (2, .int v1), (3, .int p11), (4, .int p12), (5, .int r16), (6, .int r17), (7, .int r18), (8, .int r19)]) [1, 2, 3, 4, 5, 6, 7, 8, 0] dX8_readsPosts_87 (by decide) rfl ?_
      refine g_iload hC 5 dX8_readsPosts_89 rfl ?_
      refine g_iconst hC (v := (-1 : Int32)) dX8_readsPosts_91 (by decide) ?_
      refine g_nm (fun (J21 : Int32 → Option (Int32 × Mem)) => ∀ (q20 : Int32), GG x f 10 (Qm x f φIM) 137 [(0, .ref (x.1 37)), (1, .int a1), (2, .int v1), (3, .int p11), (4, .int p12), (5, .int r16), (6, .int r17), (7, .int r18), (8, .int r19)] [.int q20] M13 (J21 q20)) (fun q20 => ?_) (fun J21 hJ21 => ?_)
      · show GG x f 10 (Qm x f φIM) 137 [(0, .ref (x.1 37)), (1, .int a1), (2, .int v1), (3, .int p11), (4, .int p12), (5, .int r16), (6, .int r17), (7, .int r18), (8, .int r19)] [.int q20] M13 _
        refine g_istore hC (lv' := [(0, .ref (x.1 37)), (1, .int a1), (2, .int v1), (3, .int p11), (4, .int p12), (5, .int r16), (6, .int r17), (7, .int r18), (8, .int r19), (9, .int q20)]) [1, 2, 3, 4, 5, 6, 7, 8, 9, 0] dX8_readsPosts_137 (by decide) rfl ?_
        refine g_iload hC 9 dX8_readsPosts_139 rfl ?_
        refine g_iconst hC (v := (4 : Int32)) dX8_readsPosts_141 (by decide) ?_
        refine g_icmp_ge hC 151 dX8_readsPosts_142 (by decide) ?_ ?_
        · refine g_aload_n hC 0 dX8_readsPosts_151 rfl rfl ?_
          refine g_getR hC cf8 (t := 42) rfl 5 (by decide) rfl m_914 dX8_readsPosts_152 ?_
          refine g_bipush hC (v := (33 : Int32)) dX8_readsPosts_155 (by decide) ?_
          refine g_iload_n hC 2 dX8_readsPosts_157 rfl rfl ?_
          refine g_imul hC dX8_readsPosts_158 ?_
          refine g_iconst hC (v := (3 : Int32)) dX8_readsPosts_159 (by decide) ?_
          refine g_iload_n hC 3 dX8_readsPosts_160 rfl rfl ?_
          refine g_imul hC dX8_readsPosts_161 ?_
          refine g_iadd hC dX8_readsPosts_162 ?_
          refine g_bipush hC (v := (10 : Int32)) dX8_readsPosts_163 (by decide) ?_
          refine g_iload hC 5 dX8_readsPosts_165 rfl ?_
          refine g_imul hC dX8_readsPosts_167 ?_
          refine g_iload hC 6 dX8_readsPosts_168 rfl ?_
          refine g_iadd hC dX8_readsPosts_170 ?_
          refine g_iast hC rfl rfl dX8_readsPosts_171 (fun M22 => ?_)
          show GG x f 10 (Qm x f φIM) 172 [(0, .ref (x.1 37)), (1, .int a1), (2, .int v1), (3, .int p11), (4, .int p12), (5, .int r16), (6, .int r17), (7, .int r18), (8, .int r19), (9, .int q20)] [] M22 _
          refine g_aload_n hC 0 dX8_readsPosts_172 rfl rfl ?_
          refine g_getR hC cf8 (t := 42) rfl 5 (by decide) rfl m_914 dX8_readsPosts_173 ?_
          refine g_bipush hC (v := (33 : Int32)) dX8_readsPosts_176 (by decide) ?_
          refine g_iload_n hC 2 dX8_readsPosts_178 rfl rfl ?_
          refine g_imul hC dX8_readsPosts_179 ?_
          refine g_iconst hC (v := (3 : Int32)) dX8_readsPosts_180 (by decide) ?_
          refine g_iload_n hC 3 dX8_readsPosts_181 rfl rfl ?_
          refine g_imul hC dX8_readsPosts_182 ?_
          refine g_iadd hC dX8_readsPosts_183 ?_
          refine g_iconst hC (v := (1 : Int32)) dX8_readsPosts_184 (by decide) ?_
          refine g_iadd hC dX8_readsPosts_185 ?_
          refine g_iload hC 7 dX8_readsPosts_186 rfl ?_
          refine g_iast hC rfl rfl dX8_readsPosts_188 (fun M23 => ?_)
          show GG x f 10 (Qm x f φIM) 189 [(0, .ref (x.1 37)), (1, .int a1), (2, .int v1), (3, .int p11), (4, .int p12), (5, .int r16), (6, .int r17), (7, .int r18), (8, .int r19), (9, .int q20)] [] M23 _
          refine g_aload_n hC 0 dX8_readsPosts_189 rfl rfl ?_
          refine g_getR hC cf8 (t := 42) rfl 5 (by decide) rfl m_914 dX8_readsPosts_190 ?_
          refine g_bipush hC (v := (33 : Int32)) dX8_readsPosts_193 (by decide) ?_
          refine g_iload_n hC 2 dX8_readsPosts_195 rfl rfl ?_
          refine g_imul hC dX8_readsPosts_196 ?_
          refine g_iconst hC (v := (3 : Int32)) dX8_readsPosts_197 (by decide) ?_
          refine g_iload_n hC 3 dX8_readsPosts_198 rfl rfl ?_
          refine g_imul hC dX8_readsPosts_199 ?_
          refine g_iadd hC dX8_readsPosts_200 ?_
          refine g_iconst hC (v := (2 : Int32)) dX8_readsPosts_201 (by decide) ?_
          refine g_iadd hC dX8_readsPosts_202 ?_
          refine g_iload hC 8 dX8_readsPosts_203 rfl ?_
          refine g_iast hC rfl rfl dX8_readsPosts_205 (fun M24 => ?_)
          show GG x f 10 (Qm x f φIM) 206 [(0, .ref (x.1 37)), (1, .int a1), (2, .int v1), (3, .int p11), (4, .int p12), (5, .int r16), (6, .int r17), (7, .int r18), (8, .int r19), (9, .int q20)] [] M24 _
          refine g_iinc hC (q := 3) (v := (1 : Int32)) (lv' := [(0, .ref (x.1 37)), (1, .int a1), (2, .int v1), (3, .int (p11 + (1 : Int32))), (4, .int p12)]) [1, 2, 3, 0, 4] dX8_readsPosts_206 rfl (by decide) (by decide) rfl ?_
          refine g_iinc hC (q := 4) (v := (4 : Int32)) (lv' := [(0, .ref (x.1 37)), (1, .int a1), (2, .int v1), (3, .int (p11 + (1 : Int32))), (4, .int (p12 + (4 : Int32)))]) [1, 2, 3, 4, 0] dX8_readsPosts_209 rfl (by decide) (by decide) rfl ?_
          refine g_iload hC 4 dX8_readsPosts_212 rfl ?_
          refine g_aload_n hC 0 dX8_readsPosts_214 rfl rfl ?_
          refine g_getR hC cf8 (t := 38) rfl 0 (by decide) rfl m_909 dX8_readsPosts_215 ?_
          refine g_iload_n hC 1 dX8_readsPosts_218 rfl rfl ?_
          refine g_iald hC rfl rfl dX8_readsPosts_219 ?_
          refine g_icmp_ne hC 232 dX8_readsPosts_220 (by decide) ?_ ?_
          · refine g_aload_n hC 0 dX8_readsPosts_232 rfl rfl ?_
            refine g_iload_n hC 1 dX8_readsPosts_233 rfl rfl ?_
            refine g_iload hC 4 dX8_readsPosts_234 rfl ?_
            refine g_callv hC (st := []) (c := 8) rfl (by decide) rfl (ctX8_byteAt x F a1 (p12 + (4 : Int32)) M24) mvX8_byteAt m_1018 (by decide) rfl rfl (Nat.le_of_ble_eq_true rfl) dX8_readsPosts_236 (fun r25 => ?_)
            show GG x f 10 (Qm x f φIM) 239 [(0, .ref (x.1 37)), (1, .int a1), (2, .int v1), (3, .int (p11 + (1 : Int32))), (4, .int (p12 + (4 : Int32)))] [.int r25] M24 _
            refine g_bipush hC (v := (59 : Int32)) dX8_readsPosts_239 (by decide) ?_
            refine g_icmp_eq hC 247 dX8_readsPosts_241 (by decide) ?_ ?_
            · refine g_iinc hC (q := 4) (v := (1 : Int32)) (lv' := [(0, .ref (x.1 37)), (1, .int a1), (2, .int v1), (3, .int (p11 + (1 : Int32))), (4, .int ((p12 + (4 : Int32)) + (1 : Int32)))]) [1, 2, 3, 4, 0] dX8_readsPosts_247 rfl (by decide) (by decide) rfl ?_
              refine g_goto hC 16 dX8_readsPosts_250 (by decide) ?_
              exact hrec14 (p11 + (1 : Int32)) ((p12 + (4 : Int32)) + (1 : Int32)) M24
            · refine g_iload hC 4 dX8_readsPosts_244 rfl ?_
              exact g_iret hC hm rfl dX8_readsPosts_246
          · refine g_lv (lv' := [(0, .ref (x.1 37)), (2, .int v1), (3, .int (p11 + (1 : Int32)))]) [0, 2, 3] rfl ?_
            exact hJ5 (p11 + (1 : Int32)) M24
        · refine g_lv (lv' := [(4, .int p12), (9, .int q20)]) [4, 9] rfl ?_
          exact hJ10 p12 q20 M13
      refine g_icmp_ne hC 99 dX8_readsPosts_92 (by decide) ?_ ?_
      · refine g_iload hC 6 dX8_readsPosts_99 rfl ?_
        refine g_iconst hC (v := (-1 : Int32)) dX8_readsPosts_101 (by decide) ?_
        refine g_icmp_ne hC 109 dX8_readsPosts_102 (by decide) ?_ ?_
        · refine g_iload hC 7 dX8_readsPosts_109 rfl ?_
          refine g_iconst hC (v := (-1 : Int32)) dX8_readsPosts_111 (by decide) ?_
          refine g_icmp_ne hC 119 dX8_readsPosts_112 (by decide) ?_ ?_
          · refine g_iload hC 8 dX8_readsPosts_119 rfl ?_
            refine g_iconst hC (v := (-1 : Int32)) dX8_readsPosts_121 (by decide) ?_
            refine g_nm (fun (J26 : Option (Int32 × Mem)) => GG x f 10 (Qm x f φIM) 132 [(0, .ref (x.1 37)), (1, .int a1), (2, .int v1), (3, .int p11), (4, .int p12), (5, .int r16), (6, .int r17), (7, .int r18), (8, .int r19)] [] M13 J26) ?_ (fun J26 hJ26 => ?_)
            · show GG x f 10 (Qm x f φIM) 132 [(0, .ref (x.1 37)), (1, .int a1), (2, .int v1), (3, .int p11), (4, .int p12), (5, .int r16), (6, .int r17), (7, .int r18), (8, .int r19)] [] M13 _
              refine g_iconst hC (v := (3 : Int32)) dX8_readsPosts_132 (by decide) ?_
              refine g_goto hC 137 dX8_readsPosts_133 (by decide) ?_
              exact hJ21 (3 : Int32)
            refine g_icmp_eq hC 132 dX8_readsPosts_122 (by decide) ?_ ?_
            · exact hJ26
            · refine g_iload hC 8 dX8_readsPosts_125 rfl ?_
              refine g_iload hC 7 dX8_readsPosts_127 rfl ?_
              refine g_icmp_ne hC 136 dX8_readsPosts_129 (by decide) ?_ ?_
              · refine g_iconst hC (v := (4 : Int32)) dX8_readsPosts_136 (by decide) ?_
                exact hJ21 (4 : Int32)
              · exact hJ26
          · refine g_iconst hC (v := (2 : Int32)) dX8_readsPosts_115 (by decide) ?_
            refine g_goto hC 137 dX8_readsPosts_116 (by decide) ?_
            exact hJ21 (2 : Int32)
        · refine g_iconst hC (v := (1 : Int32)) dX8_readsPosts_105 (by decide) ?_
          refine g_goto hC 137 dX8_readsPosts_106 (by decide) ?_
          exact hJ21 (1 : Int32)
      · refine g_iconst hC (v := (0 : Int32)) dX8_readsPosts_95 (by decide) ?_
        refine g_goto hC 137 dX8_readsPosts_96 (by decide) ?_
        exact hJ21 (0 : Int32)
    · refine g_iload hC 4 dX8_readsPosts_38 rfl ?_
      exact g_iret hC hm rfl dX8_readsPosts_40
  refine g_icmp_lt hC 32 dX8_readsPosts_24 (by decide) ?_ ?_
  · exact hJ15
  · refine g_iload hC 4 dX8_readsPosts_27 rfl ?_
    refine g_if_le hC 253 dX8_readsPosts_29 (by decide) ?_ ?_
    · refine g_iconst hC (v := (-1 : Int32)) dX8_readsPosts_253 (by decide) ?_
      exact g_iret hC hm rfl dX8_readsPosts_254
    · exact hJ15
def sX8_faultOf (F : Nat) (a1 : Int32) (M : Mem) : Option (Int32 × Mem) :=
(sX8_readsMatters F M).bind (fun r1 =>
(sX8_readsPosts F (1 : Int32) r1.2).bind (fun r2 =>
(sX8_readsPosts F (2 : Int32) r2.2).bind (fun r3 =>
if ¬ a1 = 0 then
(if ¬ a1 = (1 : Int32) then
(some (r3.1, r3.2))
else
(some (r2.1, r3.2)))
else
(some (r1.1, r3.2)))))
theorem mvX8_faultOf : MV yX8_faultOf cX8_faultOf 5 (some .int) 1 := ⟨⟨m_1005, m_76, by decide, by decide, by decide⟩, m_1004, m_24⟩
set_option maxHeartbeats 4000000 in
set_option maxRecDepth 100000 in
theorem ctX8_faultOf (x : Wx) (F : Nat) (a1 : Int32) (M : Mem) : Ct x yX8_faultOf cX8_faultOf 5 (some .int) { frames := 4, cells := 0, slots := 0, locals := 99 } φIM [.ref (x.1 37), .int a1] M (sX8_faultOf F a1 M) := by
  refine ct_of (by decide) (Nat.le_of_ble_eq_true rfl) (fun f hC hm => ?_)
  have hC : Cx x f "AnswersFirstModel" cX8_faultOf 5 { frames := 4, cells := 0, slots := 0, locals := 99 } := hC
  show GG x f 5 (Qm x f φIM) 0 [(0, .ref (x.1 37)), (1, .int a1)] [] M _
  unfold sX8_faultOf
  refine g_aload_n hC 0 dX8_faultOf_0 rfl rfl ?_
  refine g_callv hC (st := []) (c := 8) rfl (by decide) rfl (ctX8_readsMatters x F M) mvX8_readsMatters m_1006 (by decide) rfl rfl (Nat.le_of_ble_eq_true rfl) dX8_faultOf_1 (fun r1 => ?_)
  show GG x f 5 (Qm x f φIM) 4 [(0, .ref (x.1 37)), (1, .int a1)] [.int (r1.1)] r1.2 _
  refine g_istore_n hC (lv' := [(0, .ref (x.1 37)), (1, .int a1), (2, .int (r1.1))]) [1, 2, 0] dX8_faultOf_4 rfl (by decide) rfl ?_
  refine g_aload_n hC 0 dX8_faultOf_5 rfl rfl ?_
  refine g_iconst hC (v := (1 : Int32)) dX8_faultOf_6 (by decide) ?_
  refine g_callv hC (st := []) (c := 8) rfl (by decide) rfl (ctX8_readsPosts x F (1 : Int32) r1.2) mvX8_readsPosts m_1026 (by decide) rfl rfl (Nat.le_of_ble_eq_true rfl) dX8_faultOf_7 (fun r2 => ?_)
  show GG x f 5 (Qm x f φIM) 10 [(0, .ref (x.1 37)), (1, .int a1), (2, .int (r1.1))] [.int (r2.1)] r2.2 _
  refine g_istore_n hC (lv' := [(0, .ref (x.1 37)), (1, .int a1), (2, .int (r1.1)), (3, .int (r2.1))]) [1, 2, 3, 0] dX8_faultOf_10 rfl (by decide) rfl ?_
  refine g_aload_n hC 0 dX8_faultOf_11 rfl rfl ?_
  refine g_iconst hC (v := (2 : Int32)) dX8_faultOf_12 (by decide) ?_
  refine g_callv hC (st := []) (c := 8) rfl (by decide) rfl (ctX8_readsPosts x F (2 : Int32) r2.2) mvX8_readsPosts m_1026 (by decide) rfl rfl (Nat.le_of_ble_eq_true rfl) dX8_faultOf_13 (fun r3 => ?_)
  show GG x f 5 (Qm x f φIM) 16 [(0, .ref (x.1 37)), (1, .int a1), (2, .int (r1.1)), (3, .int (r2.1))] [.int (r3.1)] r3.2 _
  refine g_istore hC (lv' := [(1, .int a1), (2, .int (r1.1)), (3, .int (r2.1)), (4, .int (r3.1))]) [2, 3, 4, 0] dX8_faultOf_16 (by decide) rfl ?_
  refine g_iload_n hC 0 dX8_faultOf_18 rfl rfl ?_
  refine g_if_ne hC 26 dX8_faultOf_19 (by decide) ?_ ?_
  · refine g_iload_n hC 0 dX8_faultOf_26 rfl rfl ?_
    refine g_iconst hC (v := (1 : Int32)) dX8_faultOf_27 (by decide) ?_
    refine g_icmp_ne hC 35 dX8_faultOf_28 (by decide) ?_ ?_
    · refine g_iload hC 3 dX8_faultOf_35 rfl ?_
      exact g_iret hC hm rfl dX8_faultOf_37
    · refine g_iload_n hC 2 dX8_faultOf_31 rfl rfl ?_
      refine g_goto hC 37 dX8_faultOf_32 (by decide) ?_
      exact g_iret hC hm rfl dX8_faultOf_37
  · refine g_iload_n hC 1 dX8_faultOf_22 rfl rfl ?_
    refine g_goto hC 37 dX8_faultOf_23 (by decide) ?_
    exact g_iret hC hm rfl dX8_faultOf_37
def sX8_fault (F : Nat) (a1 : Int32) (M : Mem) : Option (Int32 × Mem) :=
(sX8_isText F a1 M).bind (fun r1 =>
if r1 = true then
((sX8_faultOf F a1 M).bind (fun r2 =>
some (r2.1, r2.2)))
else
(some ((-2 : Int32), M)))
theorem mvX8_fault : MV yX8_fault cX8_fault 2 (some .int) 1 := ⟨⟨m_1001, m_76, by decide, by decide, by decide⟩, m_999, m_1000⟩
set_option maxHeartbeats 4000000 in
set_option maxRecDepth 100000 in
theorem ctX8_fault (x : Wx) (F : Nat) (a1 : Int32) (M : Mem) : Ct x yX8_fault cX8_fault 2 (some .int) { frames := 5, cells := 0, slots := 0, locals := 123 } φIM [.ref (x.1 37), .int a1] M (sX8_fault F a1 M) := by
  refine ct_of (by decide) (Nat.le_of_ble_eq_true rfl) (fun f hC hm => ?_)
  have hC : Cx x f "AnswersFirstModel" cX8_fault 2 { frames := 5, cells := 0, slots := 0, locals := 123 } := hC
  show GG x f 2 (Qm x f φIM) 0 [(0, .ref (x.1 37)), (1, .int a1)] [] M _
  unfold sX8_fault
  refine g_iload_n hC 1 dX8_fault_0 rfl rfl ?_
  refine g_calls hC (st := []) (ctX8_isText x F a1 M) msX8_isText m_984 (by decide) rfl rfl (Nat.le_of_ble_eq_true rfl) dX8_fault_1 (fun r1 => ?_)
  show GG x f 2 (Qm x f φIM) 4 [(0, .ref (x.1 37)), (1, .int a1)] [.int (bi r1)] M _
  refine g_ifB_eq hC 15 dX8_fault_4 (by decide) ?_ ?_
  · refine g_aload_n hC 0 dX8_fault_7 rfl rfl ?_
    refine g_iload_n hC 1 dX8_fault_8 rfl rfl ?_
    refine g_callv hC (st := []) (c := 8) rfl (by decide) rfl (ctX8_faultOf x F a1 M) mvX8_faultOf m_1002 (by decide) rfl rfl (Nat.le_of_ble_eq_true rfl) dX8_fault_9 (fun r2 => ?_)
    show GG x f 2 (Qm x f φIM) 12 [(0, .ref (x.1 37)), (1, .int a1)] [.int (r2.1)] r2.2 _
    refine g_goto hC 17 dX8_fault_12 (by decide) ?_
    exact g_iret hC hm rfl dX8_fault_17
  · refine g_bipush hC (v := (-2 : Int32)) dX8_fault_15 (by decide) ?_
    exact g_iret hC hm rfl dX8_fault_17
def sX8_reads (F : Nat) (M : Mem) : Option Mem :=
(sX8_faultOf F (0 : Int32) M).bind (fun r1 =>
some r1.2)
theorem mvX8_reads : MV yX8_reads cX8_reads 2 none 0 := ⟨⟨m_1041, m_76, by decide, by decide, by decide⟩, m_1040, m_32⟩
set_option maxHeartbeats 4000000 in
set_option maxRecDepth 100000 in
theorem ctX8_reads (x : Wx) (F : Nat) (M : Mem) : Ct x yX8_reads cX8_reads 2 none { frames := 5, cells := 0, slots := 0, locals := 123 } φM [.ref (x.1 37)] M (sX8_reads F M) := by
  refine ct_of (by decide) (Nat.le_of_ble_eq_true rfl) (fun f hC hm => ?_)
  have hC : Cx x f "AnswersFirstModel" cX8_reads 2 { frames := 5, cells := 0, slots := 0, locals := 123 } := hC
  show GG x f 2 (Qm x f φM) 0 [(0, .ref (x.1 37))] [] M _
  unfold sX8_reads
  refine g_aload_n hC 0 dX8_reads_0 rfl rfl ?_
  refine g_iconst hC (v := (0 : Int32)) dX8_reads_1 (by decide) ?_
  refine g_callv hC (st := []) (c := 8) rfl (by decide) rfl (ctX8_faultOf x F (0 : Int32) M) mvX8_faultOf m_1002 (by decide) rfl rfl (Nat.le_of_ble_eq_true rfl) dX8_reads_2 (fun r1 => ?_)
  show GG x f 2 (Qm x f φM) 5 [(0, .ref (x.1 37))] [.int (r1.1)] r1.2 _
  refine g_istore_n hC (lv' := []) [] dX8_reads_5 rfl (by decide) rfl ?_
  exact g_vret hC hm rfl dX8_reads_6
def sX8_isMatter (F : Nat) (a1 : Int32) (M : Mem) : Option (Bool × Mem) :=
(sX8_reads F M).bind (fun r1 =>
(sX8_in F a1 (0 : Int32) ((r1 37 2) - (1 : Int32)) r1).bind (fun r2 =>
some (r2, r1)))
theorem mvX8_isMatter : MV yX8_isMatter cX8_isMatter 2 (some .boolean) 1 := ⟨⟨m_1037, m_76, by decide, by decide, by decide⟩, m_1036, m_31⟩
set_option maxHeartbeats 4000000 in
set_option maxRecDepth 100000 in
theorem ctX8_isMatter (x : Wx) (F : Nat) (a1 : Int32) (M : Mem) : Ct x yX8_isMatter cX8_isMatter 2 (some .boolean) { frames := 6, cells := 0, slots := 0, locals := 144 } φBM [.ref (x.1 37), .int a1] M (sX8_isMatter F a1 M) := by
  refine ct_of (by decide) (Nat.le_of_ble_eq_true rfl) (fun f hC hm => ?_)
  have hC : Cx x f "AnswersFirstModel" cX8_isMatter 2 { frames := 6, cells := 0, slots := 0, locals := 144 } := hC
  show GG x f 2 (Qm x f φBM) 0 [(0, .ref (x.1 37)), (1, .int a1)] [] M _
  unfold sX8_isMatter
  refine g_aload_n hC 0 dX8_isMatter_0 rfl rfl ?_
  refine g_callv hC (st := []) (c := 8) rfl (by decide) rfl (ctX8_reads x F M) mvX8_reads m_1038 (by decide) rfl rfl (Nat.le_of_ble_eq_true rfl) dX8_isMatter_1 (fun r1 => ?_)
  show GG x f 2 (Qm x f φBM) 4 [(0, .ref (x.1 37)), (1, .int a1)] [] r1 _
  refine g_iload_n hC 1 dX8_isMatter_4 rfl rfl ?_
  refine g_iconst hC (v := (0 : Int32)) dX8_isMatter_5 (by decide) ?_
  refine g_aload_n hC 0 dX8_isMatter_6 rfl rfl ?_
  refine g_getI hC cf8 rfl 2 (by decide) rfl m_911 dX8_isMatter_7 ?_
  refine g_iconst hC (v := (1 : Int32)) dX8_isMatter_10 (by decide) ?_
  refine g_isub hC dX8_isMatter_11 ?_
  refine g_calls hC (st := []) (ctX8_in x F a1 (0 : Int32) ((r1 37 2) - (1 : Int32)) r1) msX8_in m_987 (by decide) rfl rfl (Nat.le_of_ble_eq_true rfl) dX8_isMatter_12 (fun r2 => ?_)
  show GG x f 2 (Qm x f φBM) 15 [(0, .ref (x.1 37)), (1, .int a1)] [.int (bi r2)] r1 _
  exact g_zret hC hm (bi_nar _) rfl dX8_isMatter_15
def sX8_matter (F : Nat) (a1 : Int32) (a2 : Int32) (M : Mem) : Option (Int32 × Mem) :=
(sX8_isMatter F a1 M).bind (fun r1 =>
if r1.1 = true then
((sX8_in F a2 (0 : Int32) (5 : Int32) r1.2).bind (fun r2 =>
if r2 = true then
(ib (((6 : Int32) * a1) + a2) 66 (
some ((r1.2 40 (ix (((6 : Int32) * a1) + a2))), r1.2)))
else
(some ((-2 : Int32), r1.2))))
else
(some ((-2 : Int32), r1.2)))
theorem mvX8_matter : MV yX8_matter cX8_matter 3 (some .int) 2 := ⟨⟨m_1033, m_76, by decide, by decide, by decide⟩, m_1031, m_1032⟩
set_option maxHeartbeats 4000000 in
set_option maxRecDepth 100000 in
theorem ctX8_matter (x : Wx) (F : Nat) (a1 : Int32) (a2 : Int32) (M : Mem) : Ct x yX8_matter cX8_matter 3 (some .int) { frames := 7, cells := 0, slots := 0, locals := 165 } φIM [.ref (x.1 37), .int a1, .int a2] M (sX8_matter F a1 a2 M) := by
  refine ct_of (by decide) (Nat.le_of_ble_eq_true rfl) (fun f hC hm => ?_)
  have hC : Cx x f "AnswersFirstModel" cX8_matter 3 { frames := 7, cells := 0, slots := 0, locals := 165 } := hC
  show GG x f 3 (Qm x f φIM) 0 [(0, .ref (x.1 37)), (1, .int a1), (2, .int a2)] [] M _
  unfold sX8_matter
  refine g_aload_n hC 0 dX8_matter_0 rfl rfl ?_
  refine g_iload_n hC 1 dX8_matter_1 rfl rfl ?_
  refine g_callv hC (st := []) (c := 8) rfl (by decide) rfl (ctX8_isMatter x F a1 M) mvX8_isMatter m_1034 (by decide) rfl rfl (Nat.le_of_ble_eq_true rfl) dX8_matter_2 (fun r1 => ?_)
  show GG x f 3 (Qm x f φIM) 5 [(0, .ref (x.1 37)), (1, .int a1), (2, .int a2)] [.int (bi r1.1)] r1.2 _
  refine g_ifB_eq hC 31 dX8_matter_5 (by decide) ?_ ?_
  · refine g_iload_n hC 2 dX8_matter_8 rfl rfl ?_
    refine g_iconst hC (v := (0 : Int32)) dX8_matter_9 (by decide) ?_
    refine g_iconst hC (v := (5 : Int32)) dX8_matter_10 (by decide) ?_
    refine g_calls hC (st := []) (ctX8_in x F a2 (0 : Int32) (5 : Int32) r1.2) msX8_in m_987 (by decide) rfl rfl (Nat.le_of_ble_eq_true rfl) dX8_matter_11 (fun r2 => ?_)
    show GG x f 3 (Qm x f φIM) 14 [(0, .ref (x.1 37)), (1, .int a1), (2, .int a2)] [.int (bi r2)] r1.2 _
    refine g_ifB_eq hC 31 dX8_matter_14 (by decide) ?_ ?_
    · refine g_aload_n hC 0 dX8_matter_17 rfl rfl ?_
      refine g_getR hC cf8 (t := 40) rfl 3 (by decide) rfl m_912 dX8_matter_18 ?_
      refine g_bipush hC (v := (6 : Int32)) dX8_matter_21 (by decide) ?_
      refine g_iload_n hC 1 dX8_matter_23 rfl rfl ?_
      refine g_imul hC dX8_matter_24 ?_
      refine g_iload_n hC 2 dX8_matter_25 rfl rfl ?_
      refine g_iadd hC dX8_matter_26 ?_
      refine g_iald hC rfl rfl dX8_matter_27 ?_
      refine g_goto hC 33 dX8_matter_28 (by decide) ?_
      exact g_iret hC hm rfl dX8_matter_33
    · refine g_bipush hC (v := (-2 : Int32)) dX8_matter_31 (by decide) ?_
      exact g_iret hC hm rfl dX8_matter_33
  · refine g_bipush hC (v := (-2 : Int32)) dX8_matter_31 (by decide) ?_
    exact g_iret hC hm rfl dX8_matter_33
def sX8_set (F : Nat) (a1 : Int32) (a2 : Int32) (M : Mem) : Option (Int32 × Mem) :=
nm (fun (q1 : Int32) =>
(sX8_in F a1 (0 : Int32) (3 : Int32) M).bind (fun r3 =>
if r3 = true then
(nm (fun (q4 : Int32) =>
(sX8_in F a2 q4 q1 M).bind (fun r6 =>
if r6 = true then
(nm (fun (q7 : Int32) =>
nm (fun (q9 : Int32) =>
nm (st2 M 37 6 q9) (fun M11 =>
nm (fun (q12 : Int32) =>
nm (st2 M11 37 7 q12) (fun M14 =>
nm (fun (q15 : Int32) =>
nm (st2 M14 37 8 q15) (fun M17 =>
nm (fun (q18 : Int32) =>
nm (st2 M17 37 9 q18) (fun M20 =>
some (q7, M20))) (fun J19 =>
if ¬ a1 = (3 : Int32) then
(J19 (M17 37 9))
else
(J19 a2)))) (fun J16 =>
if ¬ a1 = (2 : Int32) then
(J16 (M14 37 8))
else
(J16 a2)))) (fun J13 =>
if ¬ a1 = (1 : Int32) then
(J13 (M11 37 7))
else
(J13 a2)))) (fun J10 =>
if ¬ a1 = 0 then
(J10 (M 37 6))
else
(J10 a2))) (fun J8 =>
if ¬ a1 = 0 then
(if ¬ a1 = (1 : Int32) then
(if ¬ a1 = (2 : Int32) then
(J8 (M 37 9))
else
(J8 (M 37 8)))
else
(J8 (M 37 7)))
else
(J8 (M 37 6))))
else
(some ((-2 : Int32), M)))) (fun J5 =>
if ¬ a1 = 0 then
(J5 (0 : Int32))
else
(J5 (1 : Int32))))
else
(some ((-2 : Int32), M)))) (fun J2 =>
if ¬ a1 = 0 then
(if ¬ a1 = (1 : Int32) then
(if ¬ a1 = (2 : Int32) then
(J2 (1023 : Int32))
else
(J2 (99 : Int32)))
else
(J2 (9 : Int32)))
else
(J2 (20 : Int32)))
theorem mvX8_set : MV yX8_set cX8_set 5 (some .int) 2 := ⟨⟨m_1045, m_76, by decide, by decide, by decide⟩, m_1043, m_1044⟩
set_option maxHeartbeats 4000000 in
set_option maxRecDepth 100000 in
theorem ctX8_set (x : Wx) (F : Nat) (a1 : Int32) (a2 : Int32) (M : Mem) : Ct x yX8_set cX8_set 5 (some .int) { frames := 1, cells := 0, slots := 0, locals := 22 } φIM [.ref (x.1 37), .int a1, .int a2] M (sX8_set F a1 a2 M) := by
  refine ct_of (by decide) (Nat.le_of_ble_eq_true rfl) (fun f hC hm => ?_)
  have hC : Cx x f "AnswersFirstModel" cX8_set 5 { frames := 1, cells := 0, slots := 0, locals := 22 } := hC
  show GG x f 5 (Qm x f φIM) 0 [(0, .ref (x.1 37)), (1, .int a1), (2, .int a2)] [] M _
  unfold sX8_set
  refine g_iload_n hC 1 dX8_set_0 rfl rfl ?_
  refine g_nm (fun (J2 : Int32 → Option (Int32 × Mem)) => ∀ (q1 : Int32), GG x f 5 (Qm x f φIM) 32 [(0, .ref (x.1 37)), (1, .int a1), (2, .int a2)] [.int q1] M (J2 q1)) (fun q1 => ?_) (fun J2 hJ2 => ?_)
  · show GG x f 5 (Qm x f φIM) 32 [(0, .ref (x.1 37)), (1, .int a1), (2, .int a2)] [.int q1] M _
    refine g_istore_n hC (lv' := [(0, .ref (x.1 37)), (1, .int a1), (2, .int a2), (3, .int q1)]) [1, 2, 3, 0] dX8_set_32 rfl (by decide) rfl ?_
    refine g_iload_n hC 1 dX8_set_33 rfl rfl ?_
    refine g_iconst hC (v := (0 : Int32)) dX8_set_34 (by decide) ?_
    refine g_iconst hC (v := (3 : Int32)) dX8_set_35 (by decide) ?_
    refine g_calls hC (st := []) (ctX8_in x F a1 (0 : Int32) (3 : Int32) M) msX8_in m_987 (by decide) rfl rfl (Nat.le_of_ble_eq_true rfl) dX8_set_36 (fun r3 => ?_)
    show GG x f 5 (Qm x f φIM) 39 [(0, .ref (x.1 37)), (1, .int a1), (2, .int a2), (3, .int q1)] [.int (bi r3)] M _
    refine g_ifB_eq hC 59 dX8_set_39 (by decide) ?_ ?_
    · refine g_iload_n hC 2 dX8_set_42 rfl rfl ?_
      refine g_iload_n hC 1 dX8_set_43 rfl rfl ?_
      refine g_nm (fun (J5 : Int32 → Option (Int32 × Mem)) => ∀ (q4 : Int32), GG x f 5 (Qm x f φIM) 52 [(0, .ref (x.1 37)), (1, .int a1), (2, .int a2), (3, .int q1)] [.int q4, .int a2] M (J5 q4)) (fun q4 => ?_) (fun J5 hJ5 => ?_)
      · show GG x f 5 (Qm x f φIM) 52 [(0, .ref (x.1 37)), (1, .int a1), (2, .int a2), (3, .int q1)] [.int q4, .int a2] M _
        refine g_iload_n hC 3 dX8_set_52 rfl rfl ?_
        refine g_calls hC (st := []) (ctX8_in x F a2 q4 q1 M) msX8_in m_987 (by decide) rfl rfl (Nat.le_of_ble_eq_true rfl) dX8_set_53 (fun r6 => ?_)
        show GG x f 5 (Qm x f φIM) 56 [(0, .ref (x.1 37)), (1, .int a1), (2, .int a2), (3, .int q1)] [.int (bi r6)] M _
        refine g_ifB_ne hC 62 dX8_set_56 (by decide) ?_ ?_
        · refine g_iload_n hC 1 dX8_set_62 rfl rfl ?_
          refine g_nm (fun (J8 : Int32 → Option (Int32 × Mem)) => ∀ (q7 : Int32), GG x f 5 (Qm x f φIM) 101 [(0, .ref (x.1 37)), (1, .int a1), (2, .int a2)] [.int q7] M (J8 q7)) (fun q7 => ?_) (fun J8 hJ8 => ?_)
          · show GG x f 5 (Qm x f φIM) 101 [(0, .ref (x.1 37)), (1, .int a1), (2, .int a2)] [.int q7] M _
            refine g_istore hC (lv' := [(0, .ref (x.1 37)), (1, .int a1), (2, .int a2), (4, .int q7)]) [1, 2, 3, 0] dX8_set_101 (by decide) rfl ?_
            refine g_aload_n hC 0 dX8_set_103 rfl rfl ?_
            refine g_iload_n hC 1 dX8_set_104 rfl rfl ?_
            refine g_nm (fun (J10 : Int32 → Option (Int32 × Mem)) => ∀ (q9 : Int32), GG x f 5 (Qm x f φIM) 116 [(0, .ref (x.1 37)), (1, .int a1), (2, .int a2), (4, .int q7)] [.int q9, .ref (x.1 37)] M (J10 q9)) (fun q9 => ?_) (fun J10 hJ10 => ?_)
            · show GG x f 5 (Qm x f φIM) 116 [(0, .ref (x.1 37)), (1, .int a1), (2, .int a2), (4, .int q7)] [.int q9, .ref (x.1 37)] M _
              refine g_put hC cf8 rfl 6 (by decide) rfl m_915 rfl rfl rfl dX8_set_116 (fun M11 => ?_)
              show GG x f 5 (Qm x f φIM) 119 [(0, .ref (x.1 37)), (1, .int a1), (2, .int a2), (4, .int q7)] [] M11 _
              refine g_aload_n hC 0 dX8_set_119 rfl rfl ?_
              refine g_iload_n hC 1 dX8_set_120 rfl rfl ?_
              refine g_iconst hC (v := (1 : Int32)) dX8_set_121 (by decide) ?_
              refine g_nm (fun (J13 : Int32 → Option (Int32 × Mem)) => ∀ (q12 : Int32), GG x f 5 (Qm x f φIM) 133 [(0, .ref (x.1 37)), (1, .int a1), (2, .int a2), (4, .int q7)] [.int q12, .ref (x.1 37)] M11 (J13 q12)) (fun q12 => ?_) (fun J13 hJ13 => ?_)
              · show GG x f 5 (Qm x f φIM) 133 [(0, .ref (x.1 37)), (1, .int a1), (2, .int a2), (4, .int q7)] [.int q12, .ref (x.1 37)] M11 _
                refine g_put hC cf8 rfl 7 (by decide) rfl m_916 rfl rfl rfl dX8_set_133 (fun M14 => ?_)
                show GG x f 5 (Qm x f φIM) 136 [(0, .ref (x.1 37)), (1, .int a1), (2, .int a2), (4, .int q7)] [] M14 _
                refine g_aload_n hC 0 dX8_set_136 rfl rfl ?_
                refine g_iload_n hC 1 dX8_set_137 rfl rfl ?_
                refine g_iconst hC (v := (2 : Int32)) dX8_set_138 (by decide) ?_
                refine g_nm (fun (J16 : Int32 → Option (Int32 × Mem)) => ∀ (q15 : Int32), GG x f 5 (Qm x f φIM) 150 [(0, .ref (x.1 37)), (1, .int a1), (2, .int a2), (4, .int q7)] [.int q15, .ref (x.1 37)] M14 (J16 q15)) (fun q15 => ?_) (fun J16 hJ16 => ?_)
                · show GG x f 5 (Qm x f φIM) 150 [(0, .ref (x.1 37)), (1, .int a1), (2, .int a2), (4, .int q7)] [.int q15, .ref (x.1 37)] M14 _
                  refine g_put hC cf8 rfl 8 (by decide) rfl m_917 rfl rfl rfl dX8_set_150 (fun M17 => ?_)
                  show GG x f 5 (Qm x f φIM) 153 [(0, .ref (x.1 37)), (1, .int a1), (2, .int a2), (4, .int q7)] [] M17 _
                  refine g_aload_n hC 0 dX8_set_153 rfl rfl ?_
                  refine g_iload_n hC 1 dX8_set_154 rfl rfl ?_
                  refine g_iconst hC (v := (3 : Int32)) dX8_set_155 (by decide) ?_
                  refine g_nm (fun (J19 : Int32 → Option (Int32 × Mem)) => ∀ (q18 : Int32), GG x f 5 (Qm x f φIM) 167 [(4, .int q7)] [.int q18, .ref (x.1 37)] M17 (J19 q18)) (fun q18 => ?_) (fun J19 hJ19 => ?_)
                  · show GG x f 5 (Qm x f φIM) 167 [(4, .int q7)] [.int q18, .ref (x.1 37)] M17 _
                    refine g_put hC cf8 rfl 9 (by decide) rfl m_918 rfl rfl rfl dX8_set_167 (fun M20 => ?_)
                    show GG x f 5 (Qm x f φIM) 170 [(4, .int q7)] [] M20 _
                    refine g_iload hC 0 dX8_set_170 rfl ?_
                    exact g_iret hC hm rfl dX8_set_172
                  refine g_icmp_ne hC 163 dX8_set_156 (by decide) ?_ ?_
                  · refine g_aload_n hC 0 dX8_set_163 rfl rfl ?_
                    refine g_getI hC cf8 rfl 9 (by decide) rfl m_918 dX8_set_164 ?_
                    refine g_lv (lv' := [(4, .int q7)]) [3] rfl ?_
                    exact hJ19 (M17 37 9)
                  · refine g_iload_n hC 2 dX8_set_159 rfl rfl ?_
                    refine g_goto hC 167 dX8_set_160 (by decide) ?_
                    refine g_lv (lv' := [(4, .int q7)]) [3] rfl ?_
                    exact hJ19 a2
                refine g_icmp_ne hC 146 dX8_set_139 (by decide) ?_ ?_
                · refine g_aload_n hC 0 dX8_set_146 rfl rfl ?_
                  refine g_getI hC cf8 rfl 8 (by decide) rfl m_917 dX8_set_147 ?_
                  exact hJ16 (M14 37 8)
                · refine g_iload_n hC 2 dX8_set_142 rfl rfl ?_
                  refine g_goto hC 150 dX8_set_143 (by decide) ?_
                  exact hJ16 a2
              refine g_icmp_ne hC 129 dX8_set_122 (by decide) ?_ ?_
              · refine g_aload_n hC 0 dX8_set_129 rfl rfl ?_
                refine g_getI hC cf8 rfl 7 (by decide) rfl m_916 dX8_set_130 ?_
                exact hJ13 (M11 37 7)
              · refine g_iload_n hC 2 dX8_set_125 rfl rfl ?_
                refine g_goto hC 133 dX8_set_126 (by decide) ?_
                exact hJ13 a2
            refine g_if_ne hC 112 dX8_set_105 (by decide) ?_ ?_
            · refine g_aload_n hC 0 dX8_set_112 rfl rfl ?_
              refine g_getI hC cf8 rfl 6 (by decide) rfl m_915 dX8_set_113 ?_
              exact hJ10 (M 37 6)
            · refine g_iload_n hC 2 dX8_set_108 rfl rfl ?_
              refine g_goto hC 116 dX8_set_109 (by decide) ?_
              exact hJ10 a2
          refine g_if_ne hC 73 dX8_set_63 (by decide) ?_ ?_
          · refine g_iload_n hC 1 dX8_set_73 rfl rfl ?_
            refine g_iconst hC (v := (1 : Int32)) dX8_set_74 (by decide) ?_
            refine g_icmp_ne hC 85 dX8_set_75 (by decide) ?_ ?_
            · refine g_iload_n hC 1 dX8_set_85 rfl rfl ?_
              refine g_iconst hC (v := (2 : Int32)) dX8_set_86 (by decide) ?_
              refine g_icmp_ne hC 97 dX8_set_87 (by decide) ?_ ?_
              · refine g_aload_n hC 0 dX8_set_97 rfl rfl ?_
                refine g_getI hC cf8 rfl 9 (by decide) rfl m_918 dX8_set_98 ?_
                refine g_lv (lv' := [(0, .ref (x.1 37)), (1, .int a1), (2, .int a2)]) [0, 1, 2] rfl ?_
                exact hJ8 (M 37 9)
              · refine g_aload_n hC 0 dX8_set_90 rfl rfl ?_
                refine g_getI hC cf8 rfl 8 (by decide) rfl m_917 dX8_set_91 ?_
                refine g_goto hC 101 dX8_set_94 (by decide) ?_
                refine g_lv (lv' := [(0, .ref (x.1 37)), (1, .int a1), (2, .int a2)]) [0, 1, 2] rfl ?_
                exact hJ8 (M 37 8)
            · refine g_aload_n hC 0 dX8_set_78 rfl rfl ?_
              refine g_getI hC cf8 rfl 7 (by decide) rfl m_916 dX8_set_79 ?_
              refine g_goto hC 101 dX8_set_82 (by decide) ?_
              refine g_lv (lv' := [(0, .ref (x.1 37)), (1, .int a1), (2, .int a2)]) [0, 1, 2] rfl ?_
              exact hJ8 (M 37 7)
          · refine g_aload_n hC 0 dX8_set_66 rfl rfl ?_
            refine g_getI hC cf8 rfl 6 (by decide) rfl m_915 dX8_set_67 ?_
            refine g_goto hC 101 dX8_set_70 (by decide) ?_
            refine g_lv (lv' := [(0, .ref (x.1 37)), (1, .int a1), (2, .int a2)]) [0, 1, 2] rfl ?_
            exact hJ8 (M 37 6)
        · refine g_bipush hC (v := (-2 : Int32)) dX8_set_59 (by decide) ?_
          exact g_iret hC hm rfl dX8_set_61
      refine g_if_ne hC 51 dX8_set_44 (by decide) ?_ ?_
      · refine g_iconst hC (v := (0 : Int32)) dX8_set_51 (by decide) ?_
        exact hJ5 (0 : Int32)
      · refine g_iconst hC (v := (1 : Int32)) dX8_set_47 (by decide) ?_
        refine g_goto hC 52 dX8_set_48 (by decide) ?_
        exact hJ5 (1 : Int32)
    · refine g_bipush hC (v := (-2 : Int32)) dX8_set_59 (by decide) ?_
      exact g_iret hC hm rfl dX8_set_61
  refine g_if_ne hC 9 dX8_set_1 (by decide) ?_ ?_
  · refine g_iload_n hC 1 dX8_set_9 rfl rfl ?_
    refine g_iconst hC (v := (1 : Int32)) dX8_set_10 (by decide) ?_
    refine g_icmp_ne hC 19 dX8_set_11 (by decide) ?_ ?_
    · refine g_iload_n hC 1 dX8_set_19 rfl rfl ?_
      refine g_iconst hC (v := (2 : Int32)) dX8_set_20 (by decide) ?_
      refine g_icmp_ne hC 29 dX8_set_21 (by decide) ?_ ?_
      · refine g_sipush hC (v := (1023 : Int32)) dX8_set_29 (by decide) ?_
        exact hJ2 (1023 : Int32)
      · refine g_bipush hC (v := (99 : Int32)) dX8_set_24 (by decide) ?_
        refine g_goto hC 32 dX8_set_26 (by decide) ?_
        exact hJ2 (99 : Int32)
    · refine g_bipush hC (v := (9 : Int32)) dX8_set_14 (by decide) ?_
      refine g_goto hC 32 dX8_set_16 (by decide) ?_
      exact hJ2 (9 : Int32)
  · refine g_bipush hC (v := (20 : Int32)) dX8_set_4 (by decide) ?_
    refine g_goto hC 32 dX8_set_6 (by decide) ?_
    exact hJ2 (20 : Int32)
def sX8_isTen (F : Nat) (a1 : Int32) (M : Mem) : Option Bool :=
(sX8_in F a1 (0 : Int32) (9 : Int32) M).bind (fun r1 =>
some r1)
theorem msX8_isTen : MS yX8_isTen cX8_isTen 1 (some .boolean) 1 := ⟨⟨m_1052, m_76, by decide, by decide, by decide⟩, m_1051⟩
set_option maxHeartbeats 4000000 in
set_option maxRecDepth 100000 in
theorem ctX8_isTen (x : Wx) (F : Nat) (a1 : Int32) (M : Mem) : Ct x yX8_isTen cX8_isTen 1 (some .boolean) { frames := 1, cells := 0, slots := 0, locals := 22 } (φB M) [.int a1] M (sX8_isTen F a1 M) := by
  refine ct_of (by decide) (Nat.le_of_ble_eq_true rfl) (fun f hC hm => ?_)
  have hC : Cx x f "AnswersFirstModel" cX8_isTen 1 { frames := 1, cells := 0, slots := 0, locals := 22 } := hC
  show GG x f 1 (Qm x f (φB M)) 0 [(0, .int a1)] [] M _
  unfold sX8_isTen
  refine g_iload_n hC 0 dX8_isTen_0 rfl rfl ?_
  refine g_iconst hC (v := (0 : Int32)) dX8_isTen_1 (by decide) ?_
  refine g_bipush hC (v := (9 : Int32)) dX8_isTen_2 (by decide) ?_
  refine g_calls hC (st := []) (ctX8_in x F a1 (0 : Int32) (9 : Int32) M) msX8_in m_987 (by decide) rfl rfl (Nat.le_of_ble_eq_true rfl) dX8_isTen_4 (fun r1 => ?_)
  show GG x f 1 (Qm x f (φB M)) 7 [(0, .int a1)] [.int (bi r1)] M _
  exact g_zret hC hm (bi_nar _) rfl dX8_isTen_7
def sX8_worth (F : Nat) (a1 : Int32) (a2 : Int32) (M : Mem) : Option (Int32 × Mem) :=
(sX8_isTen F a1 M).bind (fun r1 =>
if r1 = true then
((sX8_in F a2 (-9 : Int32) (9 : Int32) M).bind (fun r2 =>
if r2 = true then
(ib a1 10 (
nm (M 43 (ix a1)) (fun v3 =>
ib a1 10 (
nm (st2 M 43 (ix a1) a2) (fun M4 =>
some (v3, M4))))))
else
(some ((-1002 : Int32), M))))
else
(some ((-1002 : Int32), M)))
theorem mvX8_worth : MV yX8_worth cX8_worth 4 (some .int) 2 := ⟨⟨m_1049, m_76, by decide, by decide, by decide⟩, m_1047, m_1048⟩
set_option maxHeartbeats 4000000 in
set_option maxRecDepth 100000 in
theorem ctX8_worth (x : Wx) (F : Nat) (a1 : Int32) (a2 : Int32) (M : Mem) : Ct x yX8_worth cX8_worth 4 (some .int) { frames := 2, cells := 0, slots := 0, locals := 42 } φIM [.ref (x.1 37), .int a1, .int a2] M (sX8_worth F a1 a2 M) := by
  refine ct_of (by decide) (Nat.le_of_ble_eq_true rfl) (fun f hC hm => ?_)
  have hC : Cx x f "AnswersFirstModel" cX8_worth 4 { frames := 2, cells := 0, slots := 0, locals := 42 } := hC
  show GG x f 4 (Qm x f φIM) 0 [(0, .ref (x.1 37)), (1, .int a1), (2, .int a2)] [] M _
  unfold sX8_worth
  refine g_iload_n hC 1 dX8_worth_0 rfl rfl ?_
  refine g_calls hC (st := []) (ctX8_isTen x F a1 M) msX8_isTen m_1050 (by decide) rfl rfl (Nat.le_of_ble_eq_true rfl) dX8_worth_1 (fun r1 => ?_)
  show GG x f 4 (Qm x f φIM) 4 [(0, .ref (x.1 37)), (1, .int a1), (2, .int a2)] [.int (bi r1)] M _
  refine g_ifB_eq hC 18 dX8_worth_4 (by decide) ?_ ?_
  · refine g_iload_n hC 2 dX8_worth_7 rfl rfl ?_
    refine g_bipush hC (v := (-9 : Int32)) dX8_worth_8 (by decide) ?_
    refine g_bipush hC (v := (9 : Int32)) dX8_worth_10 (by decide) ?_
    refine g_calls hC (st := []) (ctX8_in x F a2 (-9 : Int32) (9 : Int32) M) msX8_in m_987 (by decide) rfl rfl (Nat.le_of_ble_eq_true rfl) dX8_worth_12 (fun r2 => ?_)
    show GG x f 4 (Qm x f φIM) 15 [(0, .ref (x.1 37)), (1, .int a1), (2, .int a2)] [.int (bi r2)] M _
    refine g_ifB_ne hC 22 dX8_worth_15 (by decide) ?_ ?_
    · refine g_aload_n hC 0 dX8_worth_22 rfl rfl ?_
      refine g_getR hC cf8 (t := 43) rfl 10 (by decide) rfl m_919 dX8_worth_23 ?_
      refine g_iload_n hC 1 dX8_worth_26 rfl rfl ?_
      refine g_iald hC rfl rfl dX8_worth_27 ?_
      refine g_top (fun v3 => ?_)
      show GG x f 4 (Qm x f φIM) 28 [(0, .ref (x.1 37)), (1, .int a1), (2, .int a2)] [.int v3] M _
      refine g_istore_n hC (lv' := [(0, .ref (x.1 37)), (1, .int a1), (2, .int a2), (3, .int v3)]) [1, 2, 3, 0] dX8_worth_28 rfl (by decide) rfl ?_
      refine g_aload_n hC 0 dX8_worth_29 rfl rfl ?_
      refine g_getR hC cf8 (t := 43) rfl 10 (by decide) rfl m_919 dX8_worth_30 ?_
      refine g_iload_n hC 1 dX8_worth_33 rfl rfl ?_
      refine g_iload_n hC 2 dX8_worth_34 rfl rfl ?_
      refine g_iast hC rfl rfl dX8_worth_35 (fun M4 => ?_)
      show GG x f 4 (Qm x f φIM) 36 [(0, .ref (x.1 37)), (1, .int a1), (2, .int a2), (3, .int v3)] [] M4 _
      refine g_iload_n hC 3 dX8_worth_36 rfl rfl ?_
      exact g_iret hC hm rfl dX8_worth_37
    · refine g_sipush hC (v := (-1002 : Int32)) dX8_worth_18 (by decide) ?_
      exact g_iret hC hm rfl dX8_worth_21
  · refine g_sipush hC (v := (-1002 : Int32)) dX8_worth_18 (by decide) ?_
    exact g_iret hC hm rfl dX8_worth_21
def sX8_isSheet (F : Nat) (a1 : Int32) (M : Mem) : Option Bool :=
(sX8_in F a1 (0 : Int32) (3 : Int32) M).bind (fun r1 =>
some r1)
theorem msX8_isSheet : MS yX8_isSheet cX8_isSheet 1 (some .boolean) 1 := ⟨⟨m_1059, m_76, by decide, by decide, by decide⟩, m_1058⟩
set_option maxHeartbeats 4000000 in
set_option maxRecDepth 100000 in
theorem ctX8_isSheet (x : Wx) (F : Nat) (a1 : Int32) (M : Mem) : Ct x yX8_isSheet cX8_isSheet 1 (some .boolean) { frames := 1, cells := 0, slots := 0, locals := 22 } (φB M) [.int a1] M (sX8_isSheet F a1 M) := by
  refine ct_of (by decide) (Nat.le_of_ble_eq_true rfl) (fun f hC hm => ?_)
  have hC : Cx x f "AnswersFirstModel" cX8_isSheet 1 { frames := 1, cells := 0, slots := 0, locals := 22 } := hC
  show GG x f 1 (Qm x f (φB M)) 0 [(0, .int a1)] [] M _
  unfold sX8_isSheet
  refine g_iload_n hC 0 dX8_isSheet_0 rfl rfl ?_
  refine g_iconst hC (v := (0 : Int32)) dX8_isSheet_1 (by decide) ?_
  refine g_iconst hC (v := (3 : Int32)) dX8_isSheet_2 (by decide) ?_
  refine g_calls hC (st := []) (ctX8_in x F a1 (0 : Int32) (3 : Int32) M) msX8_in m_987 (by decide) rfl rfl (Nat.le_of_ble_eq_true rfl) dX8_isSheet_3 (fun r1 => ?_)
  show GG x f 1 (Qm x f (φB M)) 6 [(0, .int a1)] [.int (bi r1)] M _
  exact g_zret hC hm (bi_nar _) rfl dX8_isSheet_6
def sX8_seen (F : Nat) (a1 : Int32) (a2 : Int32) (M : Mem) : Option (Int32 × Mem) :=
(sX8_isTen F a1 M).bind (fun r1 =>
if r1 = true then
((sX8_in F a2 (0 : Int32) (1 : Int32) M).bind (fun r2 =>
if r2 = true then
(if ¬ (M 37 14) = (8 : Int32) then
(ib (M 37 14) 8 (
nm (st2 M 47 (ix (M 37 14)) a1) (fun M3 =>
ib (M3 37 14) 8 (
nm (st2 M3 48 (ix (M3 37 14)) a2) (fun M4 =>
nm (st2 M4 37 14 ((M4 37 14) + (1 : Int32))) (fun M5 =>
some ((M5 37 14), M5)))))))
else
(some ((-4 : Int32), M)))
else
(some ((-2 : Int32), M))))
else
(some ((-2 : Int32), M)))
theorem mvX8_seen : MV yX8_seen cX8_seen 3 (some .int) 2 := ⟨⟨m_1067, m_76, by decide, by decide, by decide⟩, m_1065, m_1066⟩
set_option maxHeartbeats 4000000 in
set_option maxRecDepth 100000 in
theorem ctX8_seen (x : Wx) (F : Nat) (a1 : Int32) (a2 : Int32) (M : Mem) : Ct x yX8_seen cX8_seen 3 (some .int) { frames := 2, cells := 0, slots := 0, locals := 42 } φIM [.ref (x.1 37), .int a1, .int a2] M (sX8_seen F a1 a2 M) := by
  refine ct_of (by decide) (Nat.le_of_ble_eq_true rfl) (fun f hC hm => ?_)
  have hC : Cx x f "AnswersFirstModel" cX8_seen 3 { frames := 2, cells := 0, slots := 0, locals := 42 } := hC
  show GG x f 3 (Qm x f φIM) 0 [(0, .ref (x.1 37)), (1, .int a1), (2, .int a2)] [] M _
  unfold sX8_seen
  refine g_iload_n hC 1 dX8_seen_0 rfl rfl ?_
  refine g_calls hC (st := []) (ctX8_isTen x F a1 M) msX8_isTen m_1050 (by decide) rfl rfl (Nat.le_of_ble_eq_true rfl) dX8_seen_1 (fun r1 => ?_)
  show GG x f 3 (Qm x f φIM) 4 [(0, .ref (x.1 37)), (1, .int a1), (2, .int a2)] [.int (bi r1)] M _
  refine g_ifB_eq hC 16 dX8_seen_4 (by decide) ?_ ?_
  · refine g_iload_n hC 2 dX8_seen_7 rfl rfl ?_
    refine g_iconst hC (v := (0 : Int32)) dX8_seen_8 (by decide) ?_
    refine g_iconst hC (v := (1 : Int32)) dX8_seen_9 (by decide) ?_
    refine g_calls hC (st := []) (ctX8_in x F a2 (0 : Int32) (1 : Int32) M) msX8_in m_987 (by decide) rfl rfl (Nat.le_of_ble_eq_true rfl) dX8_seen_10 (fun r2 => ?_)
    show GG x f 3 (Qm x f φIM) 13 [(0, .ref (x.1 37)), (1, .int a1), (2, .int a2)] [.int (bi r2)] M _
    refine g_ifB_ne hC 19 dX8_seen_13 (by decide) ?_ ?_
    · refine g_aload_n hC 0 dX8_seen_19 rfl rfl ?_
      refine g_getI hC cf8 rfl 14 (by decide) rfl m_923 dX8_seen_20 ?_
      refine g_bipush hC (v := (8 : Int32)) dX8_seen_23 (by decide) ?_
      refine g_icmp_ne hC 31 dX8_seen_25 (by decide) ?_ ?_
      · refine g_aload_n hC 0 dX8_seen_31 rfl rfl ?_
        refine g_getR hC cf8 (t := 47) rfl 15 (by decide) rfl m_924 dX8_seen_32 ?_
        refine g_aload_n hC 0 dX8_seen_35 rfl rfl ?_
        refine g_getI hC cf8 rfl 14 (by decide) rfl m_923 dX8_seen_36 ?_
        refine g_iload_n hC 1 dX8_seen_39 rfl rfl ?_
        refine g_iast hC rfl rfl dX8_seen_40 (fun M3 => ?_)
        show GG x f 3 (Qm x f φIM) 41 [(0, .ref (x.1 37)), (1, .int a1), (2, .int a2)] [] M3 _
        refine g_aload_n hC 0 dX8_seen_41 rfl rfl ?_
        refine g_getR hC cf8 (t := 48) rfl 16 (by decide) rfl m_925 dX8_seen_42 ?_
        refine g_aload_n hC 0 dX8_seen_45 rfl rfl ?_
        refine g_getI hC cf8 rfl 14 (by decide) rfl m_923 dX8_seen_46 ?_
        refine g_iload_n hC 2 dX8_seen_49 rfl rfl ?_
        refine g_iast hC rfl rfl dX8_seen_50 (fun M4 => ?_)
        show GG x f 3 (Qm x f φIM) 51 [(0, .ref (x.1 37)), (1, .int a1), (2, .int a2)] [] M4 _
        refine g_aload_n hC 0 dX8_seen_51 rfl rfl ?_
        refine g_dup hC dX8_seen_52 rfl ?_
        refine g_getI hC cf8 rfl 14 (by decide) rfl m_923 dX8_seen_53 ?_
        refine g_iconst hC (v := (1 : Int32)) dX8_seen_56 (by decide) ?_
        refine g_iadd hC dX8_seen_57 ?_
        refine g_put hC cf8 rfl 14 (by decide) rfl m_923 rfl rfl rfl dX8_seen_58 (fun M5 => ?_)
        show GG x f 3 (Qm x f φIM) 61 [(0, .ref (x.1 37)), (1, .int a1), (2, .int a2)] [] M5 _
        refine g_aload_n hC 0 dX8_seen_61 rfl rfl ?_
        refine g_getI hC cf8 rfl 14 (by decide) rfl m_923 dX8_seen_62 ?_
        exact g_iret hC hm rfl dX8_seen_65
      · refine g_bipush hC (v := (-4 : Int32)) dX8_seen_28 (by decide) ?_
        exact g_iret hC hm rfl dX8_seen_30
    · refine g_bipush hC (v := (-2 : Int32)) dX8_seen_16 (by decide) ?_
      exact g_iret hC hm rfl dX8_seen_18
  · refine g_bipush hC (v := (-2 : Int32)) dX8_seen_16 (by decide) ?_
    exact g_iret hC hm rfl dX8_seen_18
def sX8_meets (F : Nat) (a1 : Int32) (M : Mem) : Option (Int32 × Mem) :=
nm (st2 M 37 22 a1) (fun M1 =>
some (((-10 : Int32) - a1), M1))
theorem mvX8_meets : MV yX8_meets cX8_meets 2 (some .int) 1 := ⟨⟨m_1063, m_76, by decide, by decide, by decide⟩, m_1062, m_33⟩
set_option maxHeartbeats 4000000 in
set_option maxRecDepth 100000 in
theorem ctX8_meets (x : Wx) (F : Nat) (a1 : Int32) (M : Mem) : Ct x yX8_meets cX8_meets 2 (some .int) { frames := 0, cells := 0, slots := 0, locals := 0 } φIM [.ref (x.1 37), .int a1] M (sX8_meets F a1 M) := by
  refine ct_of (by decide) (Nat.le_of_ble_eq_true rfl) (fun f hC hm => ?_)
  have hC : Cx x f "AnswersFirstModel" cX8_meets 2 { frames := 0, cells := 0, slots := 0, locals := 0 } := hC
  show GG x f 2 (Qm x f φIM) 0 [(0, .ref (x.1 37)), (1, .int a1)] [] M _
  unfold sX8_meets
  refine g_aload_n hC 0 dX8_meets_0 rfl rfl ?_
  refine g_iload_n hC 1 dX8_meets_1 rfl rfl ?_
  refine g_put hC cf8 rfl 22 (by decide) rfl m_931 rfl rfl rfl dX8_meets_2 (fun M1 => ?_)
  show GG x f 2 (Qm x f φIM) 5 [(0, .ref (x.1 37)), (1, .int a1)] [] M1 _
  refine g_bipush hC (v := (-10 : Int32)) dX8_meets_5 (by decide) ?_
  refine g_iload_n hC 1 dX8_meets_7 rfl rfl ?_
  refine g_isub hC dX8_meets_8 ?_
  exact g_iret hC hm rfl dX8_meets_9
def sX8_read_L27 (F : Nat) (a1 : Int32) (rec4 : Int32 → Mem → Option (Int32 × Mem)) (p2 : Int32) (M3 : Mem) : Option (Int32 × Mem) :=
ib a1 4 (
if (M3 51 (ix a1)) ≤ (((2 : Int32) * p2) + (1 : Int32)) then
(some (p2, M3))
else
(ib (((48 : Int32) * a1) + ((2 : Int32) * p2)) 192 (
ib ((((48 : Int32) * a1) + ((2 : Int32) * p2)) + (1 : Int32)) 192 (
(sX8_seen F (M3 52 (ix (((48 : Int32) * a1) + ((2 : Int32) * p2)))) (M3 52 (ix ((((48 : Int32) * a1) + ((2 : Int32) * p2)) + (1 : Int32)))) M3).bind (fun r5 =>
if r5.1 ≤ 0 then
(some (p2, r5.2))
else
(rec4 (p2 + (1 : Int32)) r5.2))))))
def sX8_read (F : Nat) (a1 : Int32) (M : Mem) : Option (Int32 × Mem) :=
(sX8_isSheet F a1 M).bind (fun r1 =>
if r1 = true then
(ib a1 4 (
if ¬ (M 49 (ix a1)) = 0 then
(fx2 F (sX8_read_L27 F a1) (0 : Int32) M)
else
((sX8_meets F (1 : Int32) M).bind (fun r6 =>
some (r6.1, r6.2)))))
else
(some ((-2 : Int32), M)))
theorem mvX8_read : MV yX8_read cX8_read 3 (some .int) 1 := ⟨⟨m_1056, m_76, by decide, by decide, by decide⟩, m_1054, m_1055⟩
set_option maxHeartbeats 4000000 in
set_option maxRecDepth 100000 in
theorem ctX8_read (x : Wx) (F : Nat) (a1 : Int32) (M : Mem) : Ct x yX8_read cX8_read 3 (some .int) { frames := 3, cells := 0, slots := 0, locals := 64 } φIM [.ref (x.1 37), .int a1] M (sX8_read F a1 M) := by
  refine ct_of (by decide) (Nat.le_of_ble_eq_true rfl) (fun f hC hm => ?_)
  have hC : Cx x f "AnswersFirstModel" cX8_read 3 { frames := 3, cells := 0, slots := 0, locals := 64 } := hC
  show GG x f 3 (Qm x f φIM) 0 [(0, .ref (x.1 37)), (1, .int a1)] [] M _
  unfold sX8_read
  refine g_iload_n hC 1 dX8_read_0 rfl rfl ?_
  refine g_calls hC (st := []) (ctX8_isSheet x F a1 M) msX8_isSheet m_1057 (by decide) rfl rfl (Nat.le_of_ble_eq_true rfl) dX8_read_1 (fun r1 => ?_)
  show GG x f 3 (Qm x f φIM) 4 [(0, .ref (x.1 37)), (1, .int a1)] [.int (bi r1)] M _
  refine g_ifB_ne hC 10 dX8_read_4 (by decide) ?_ ?_
  · refine g_aload_n hC 0 dX8_read_10 rfl rfl ?_
    refine g_getR hC cf8 (t := 49) rfl 17 (by decide) rfl m_926 dX8_read_11 ?_
    refine g_iload_n hC 1 dX8_read_14 rfl rfl ?_
    refine g_zald hC rfl rfl dX8_read_15 ?_
    refine g_if_ne hC 25 dX8_read_16 (by decide) ?_ ?_
    · refine g_iconst hC (v := (0 : Int32)) dX8_read_25 (by decide) ?_
      refine g_istore_n hC (lv' := [(0, .ref (x.1 37)), (1, .int a1), (2, .int (0 : Int32))]) [1, 2, 0] dX8_read_26 rfl (by decide) rfl ?_
      refine g_fx2 (fun (p2 : Int32) (M3 : Mem) => [(0, .ref (x.1 37)), (1, .int a1), (2, .int p2)]) (fun (p2 : Int32) (M3 : Mem) => M3) (fun rec4 hrec4 p2 M3 => ?_) F _ _
      show GG x f 3 (Qm x f φIM) 27 [(0, .ref (x.1 37)), (1, .int a1), (2, .int p2)] [] M3 _
      unfold sX8_read_L27
      refine g_iconst hC (v := (2 : Int32)) dX8_read_27 (by decide) ?_
      refine g_iload_n hC 2 dX8_read_28 rfl rfl ?_
      refine g_imul hC dX8_read_29 ?_
      refine g_iconst hC (v := (1 : Int32)) dX8_read_30 (by decide) ?_
      refine g_iadd hC dX8_read_31 ?_
      refine g_aload_n hC 0 dX8_read_32 rfl rfl ?_
      refine g_getR hC cf8 (t := 51) rfl 19 (by decide) rfl m_928 dX8_read_33 ?_
      refine g_iload_n hC 1 dX8_read_36 rfl rfl ?_
      refine g_iald hC rfl rfl dX8_read_37 ?_
      refine g_icmp_ge hC 82 dX8_read_38 (by decide) ?_ ?_
      · refine g_iload_n hC 2 dX8_read_82 rfl rfl ?_
        exact g_iret hC hm rfl dX8_read_83
      · refine g_aload_n hC 0 dX8_read_41 rfl rfl ?_
        refine g_aload_n hC 0 dX8_read_42 rfl rfl ?_
        refine g_getR hC cf8 (t := 52) rfl 20 (by decide) rfl m_929 dX8_read_43 ?_
        refine g_bipush hC (v := (48 : Int32)) dX8_read_46 (by decide) ?_
        refine g_iload_n hC 1 dX8_read_48 rfl rfl ?_
        refine g_imul hC dX8_read_49 ?_
        refine g_iconst hC (v := (2 : Int32)) dX8_read_50 (by decide) ?_
        refine g_iload_n hC 2 dX8_read_51 rfl rfl ?_
        refine g_imul hC dX8_read_52 ?_
        refine g_iadd hC dX8_read_53 ?_
        refine g_iald hC rfl rfl dX8_read_54 ?_
        refine g_aload_n hC 0 dX8_read_55 rfl rfl ?_
        refine g_getR hC cf8 (t := 52) rfl 20 (by decide) rfl m_929 dX8_read_56 ?_
        refine g_bipush hC (v := (48 : Int32)) dX8_read_59 (by decide) ?_
        refine g_iload_n hC 1 dX8_read_61 rfl rfl ?_
        refine g_imul hC dX8_read_62 ?_
        refine g_iconst hC (v := (2 : Int32)) dX8_read_63 (by decide) ?_
        refine g_iload_n hC 2 dX8_read_64 rfl rfl ?_
        refine g_imul hC dX8_read_65 ?_
        refine g_iadd hC dX8_read_66 ?_
        refine g_iconst hC (v := (1 : Int32)) dX8_read_67 (by decide) ?_
        refine g_iadd hC dX8_read_68 ?_
        refine g_iald hC rfl rfl dX8_read_69 ?_
        refine g_callv hC (st := []) (c := 8) rfl (by decide) rfl (ctX8_seen x F (M3 52 (ix (((48 : Int32) * a1) + ((2 : Int32) * p2)))) (M3 52 (ix ((((48 : Int32) * a1) + ((2 : Int32) * p2)) + (1 : Int32)))) M3) mvX8_seen m_1064 (by decide) rfl rfl (Nat.le_of_ble_eq_true rfl) dX8_read_70 (fun r5 => ?_)
        show GG x f 3 (Qm x f φIM) 73 [(0, .ref (x.1 37)), (1, .int a1), (2, .int p2)] [.int (r5.1)] r5.2 _
        refine g_if_le hC 82 dX8_read_73 (by decide) ?_ ?_
        · refine g_iload_n hC 2 dX8_read_82 rfl rfl ?_
          exact g_iret hC hm rfl dX8_read_83
        · refine g_iinc hC (q := 2) (v := (1 : Int32)) (lv' := [(0, .ref (x.1 37)), (1, .int a1), (2, .int (p2 + (1 : Int32)))]) [1, 2, 0] dX8_read_76 rfl (by decide) (by decide) rfl ?_
          refine g_goto hC 27 dX8_read_79 (by decide) ?_
          exact hrec4 (p2 + (1 : Int32)) r5.2
    · refine g_aload_n hC 0 dX8_read_19 rfl rfl ?_
      refine g_iconst hC (v := (1 : Int32)) dX8_read_20 (by decide) ?_
      refine g_callv hC (st := []) (c := 8) rfl (by decide) rfl (ctX8_meets x F (1 : Int32) M) mvX8_meets m_1060 (by decide) rfl rfl (Nat.le_of_ble_eq_true rfl) dX8_read_21 (fun r6 => ?_)
      show GG x f 3 (Qm x f φIM) 24 [(0, .ref (x.1 37)), (1, .int a1)] [.int (r6.1)] r6.2 _
      exact g_iret hC hm rfl dX8_read_24
  · refine g_bipush hC (v := (-2 : Int32)) dX8_read_7 (by decide) ?_
    exact g_iret hC hm rfl dX8_read_9
def sX8_there (F : Nat) (M : Mem) : Option (Int32 × Mem) :=
(sX8_reads F M).bind (fun r1 =>
some ((((1 : Int32) <<< ((r1 37 2) &&& 31)) - (1 : Int32)), r1))
theorem mvX8_there : MV yX8_there cX8_there 1 (some .int) 0 := ⟨⟨m_1082, m_76, by decide, by decide, by decide⟩, m_1081, m_35⟩
set_option maxHeartbeats 4000000 in
set_option maxRecDepth 100000 in
theorem ctX8_there (x : Wx) (F : Nat) (M : Mem) : Ct x yX8_there cX8_there 1 (some .int) { frames := 6, cells := 0, slots := 0, locals := 144 } φIM [.ref (x.1 37)] M (sX8_there F M) := by
  refine ct_of (by decide) (Nat.le_of_ble_eq_true rfl) (fun f hC hm => ?_)
  have hC : Cx x f "AnswersFirstModel" cX8_there 1 { frames := 6, cells := 0, slots := 0, locals := 144 } := hC
  show GG x f 1 (Qm x f φIM) 0 [(0, .ref (x.1 37))] [] M _
  unfold sX8_there
  refine g_aload_n hC 0 dX8_there_0 rfl rfl ?_
  refine g_callv hC (st := []) (c := 8) rfl (by decide) rfl (ctX8_reads x F M) mvX8_reads m_1038 (by decide) rfl rfl (Nat.le_of_ble_eq_true rfl) dX8_there_1 (fun r1 => ?_)
  show GG x f 1 (Qm x f φIM) 4 [(0, .ref (x.1 37))] [] r1 _
  refine g_iconst hC (v := (1 : Int32)) dX8_there_4 (by decide) ?_
  refine g_aload_n hC 0 dX8_there_5 rfl rfl ?_
  refine g_getI hC cf8 rfl 2 (by decide) rfl m_911 dX8_there_6 ?_
  refine g_ishl hC dX8_there_9 ?_
  refine g_iconst hC (v := (1 : Int32)) dX8_there_10 (by decide) ?_
  refine g_isub hC dX8_there_11 ?_
  exact g_iret hC hm rfl dX8_there_12
def sX8_isIn (F : Nat) (a1 : Int32) (a2 : Int32) (M : Mem) : Option Bool :=
if ¬ ((a1 >>> (a2 &&& 31)) &&& (1 : Int32)) = (1 : Int32) then
(some false)
else
(some true)
theorem msX8_isIn : MS yX8_isIn cX8_isIn 2 (some .boolean) 2 := ⟨⟨m_1093, m_76, by decide, by decide, by decide⟩, m_1092⟩
set_option maxHeartbeats 4000000 in
set_option maxRecDepth 100000 in
theorem ctX8_isIn (x : Wx) (F : Nat) (a1 : Int32) (a2 : Int32) (M : Mem) : Ct x yX8_isIn cX8_isIn 2 (some .boolean) { frames := 0, cells := 0, slots := 0, locals := 0 } (φB M) [.int a1, .int a2] M (sX8_isIn F a1 a2 M) := by
  refine ct_of (by decide) (Nat.le_of_ble_eq_true rfl) (fun f hC hm => ?_)
  have hC : Cx x f "AnswersFirstModel" cX8_isIn 2 { frames := 0, cells := 0, slots := 0, locals := 0 } := hC
  show GG x f 2 (Qm x f (φB M)) 0 [(0, .int a1), (1, .int a2)] [] M _
  unfold sX8_isIn
  refine g_iload_n hC 0 dX8_isIn_0 rfl rfl ?_
  refine g_iload_n hC 1 dX8_isIn_1 rfl rfl ?_
  refine g_ishr hC dX8_isIn_2 ?_
  refine g_iconst hC (v := (1 : Int32)) dX8_isIn_3 (by decide) ?_
  refine g_iand hC dX8_isIn_4 ?_
  refine g_iconst hC (v := (1 : Int32)) dX8_isIn_5 (by decide) ?_
  refine g_icmp_ne hC 13 dX8_isIn_6 (by decide) ?_ ?_
  · refine g_iconst hC (v := (0 : Int32)) dX8_isIn_13 (by decide) ?_
    exact g_zret hC hm rfl rfl dX8_isIn_14
  · refine g_iconst hC (v := (1 : Int32)) dX8_isIn_9 (by decide) ?_
    refine g_goto hC 14 dX8_isIn_10 (by decide) ?_
    exact g_zret hC hm rfl rfl dX8_isIn_14
def sX8_isKnown (F : Nat) (a1 : Int32) (a2 : Int32) (M : Mem) : Option Bool :=
ib (((6 : Int32) * a1) + (2 : Int32)) 66 (
ib (((6 : Int32) * a2) + (2 : Int32)) 66 (
if (M 40 (ix (((6 : Int32) * a2) + (2 : Int32)))) < ((M 40 (ix (((6 : Int32) * a1) + (2 : Int32)))) - (M 37 6)) then
(some false)
else
(some true)))
theorem mvX8_isKnown : MV yX8_isKnown cX8_isKnown 3 (some .boolean) 2 := ⟨⟨m_1101, m_76, by decide, by decide, by decide⟩, m_1100, m_39⟩
set_option maxHeartbeats 4000000 in
set_option maxRecDepth 100000 in
theorem ctX8_isKnown (x : Wx) (F : Nat) (a1 : Int32) (a2 : Int32) (M : Mem) : Ct x yX8_isKnown cX8_isKnown 3 (some .boolean) { frames := 0, cells := 0, slots := 0, locals := 0 } (φB M) [.ref (x.1 37), .int a1, .int a2] M (sX8_isKnown F a1 a2 M) := by
  refine ct_of (by decide) (Nat.le_of_ble_eq_true rfl) (fun f hC hm => ?_)
  have hC : Cx x f "AnswersFirstModel" cX8_isKnown 3 { frames := 0, cells := 0, slots := 0, locals := 0 } := hC
  show GG x f 3 (Qm x f (φB M)) 0 [(0, .ref (x.1 37)), (1, .int a1), (2, .int a2)] [] M _
  unfold sX8_isKnown
  refine g_aload_n hC 0 dX8_isKnown_0 rfl rfl ?_
  refine g_getR hC cf8 (t := 40) rfl 3 (by decide) rfl m_912 dX8_isKnown_1 ?_
  refine g_bipush hC (v := (6 : Int32)) dX8_isKnown_4 (by decide) ?_
  refine g_iload_n hC 1 dX8_isKnown_6 rfl rfl ?_
  refine g_imul hC dX8_isKnown_7 ?_
  refine g_iconst hC (v := (2 : Int32)) dX8_isKnown_8 (by decide) ?_
  refine g_iadd hC dX8_isKnown_9 ?_
  refine g_iald hC rfl rfl dX8_isKnown_10 ?_
  refine g_aload_n hC 0 dX8_isKnown_11 rfl rfl ?_
  refine g_getI hC cf8 rfl 6 (by decide) rfl m_915 dX8_isKnown_12 ?_
  refine g_isub hC dX8_isKnown_15 ?_
  refine g_aload_n hC 0 dX8_isKnown_16 rfl rfl ?_
  refine g_getR hC cf8 (t := 40) rfl 3 (by decide) rfl m_912 dX8_isKnown_17 ?_
  refine g_bipush hC (v := (6 : Int32)) dX8_isKnown_20 (by decide) ?_
  refine g_iload_n hC 2 dX8_isKnown_22 rfl rfl ?_
  refine g_imul hC dX8_isKnown_23 ?_
  refine g_iconst hC (v := (2 : Int32)) dX8_isKnown_24 (by decide) ?_
  refine g_iadd hC dX8_isKnown_25 ?_
  refine g_iald hC rfl rfl dX8_isKnown_26 ?_
  refine g_icmp_gt hC 34 dX8_isKnown_27 (by decide) ?_ ?_
  · refine g_iconst hC (v := (0 : Int32)) dX8_isKnown_34 (by decide) ?_
    exact g_zret hC hm rfl rfl dX8_isKnown_35
  · refine g_iconst hC (v := (1 : Int32)) dX8_isKnown_30 (by decide) ?_
    refine g_goto hC 35 dX8_isKnown_31 (by decide) ?_
    exact g_zret hC hm rfl rfl dX8_isKnown_35
def sX8_isWritten (F : Nat) (a1 : Int32) (a2 : Int32) (M : Mem) : Option Bool :=
ib (((6 : Int32) * a1) + (4 : Int32)) 66 (
nm (M 40 (ix (((6 : Int32) * a1) + (4 : Int32)))) (fun v1 =>
ib (((6 : Int32) * a1) + (5 : Int32)) 66 (
nm (M 40 (ix (((6 : Int32) * a1) + (5 : Int32)))) (fun v2 =>
if (2 : Int32) ≤ v1 then
(nm (fun (q3 : Int32) =>
if ¬ v1 = (4 : Int32) then
(if q3 = 0 then
(some false)
else
(ib (((6 : Int32) * v2) + (3 : Int32)) 66 (
nm (fun (q5 : Int32) =>
if ¬ (M 40 (ix (((6 : Int32) * v2) + (3 : Int32)))) = q5 then
(some false)
else
(some true)) (fun J6 =>
if ¬ v1 = (2 : Int32) then
(J6 (0 : Int32))
else
(J6 (1 : Int32))))))
else
(if ¬ q3 = 0 then
(some false)
else
(some true))) (fun J4 =>
nm (J4 (0 : Int32)) (fun J7 =>
if (M 37 2) ≤ v2 then
(J7)
else
((sX8_isIn F a2 v2 M).bind (fun r8 =>
if r8 = true then
((sX8_isKnown F v2 a1 M).bind (fun r9 =>
if r9 = true then
(J4 (1 : Int32))
else
(J7)))
else
(J7))))))
else
(if ¬ v1 = 0 then
(some false)
else
(some true))))))
theorem mvX8_isWritten : MV yX8_isWritten cX8_isWritten 6 (some .boolean) 2 := ⟨⟨m_1097, m_76, by decide, by decide, by decide⟩, m_1096, m_38⟩
set_option maxHeartbeats 4000000 in
set_option maxRecDepth 100000 in
theorem ctX8_isWritten (x : Wx) (F : Nat) (a1 : Int32) (a2 : Int32) (M : Mem) : Ct x yX8_isWritten cX8_isWritten 6 (some .boolean) { frames := 1, cells := 0, slots := 0, locals := 22 } (φB M) [.ref (x.1 37), .int a1, .int a2] M (sX8_isWritten F a1 a2 M) := by
  refine ct_of (by decide) (Nat.le_of_ble_eq_true rfl) (fun f hC hm => ?_)
  have hC : Cx x f "AnswersFirstModel" cX8_isWritten 6 { frames := 1, cells := 0, slots := 0, locals := 22 } := hC
  show GG x f 6 (Qm x f (φB M)) 0 [(0, .ref (x.1 37)), (1, .int a1), (2, .int a2)] [] M _
  unfold sX8_isWritten
  refine g_aload_n hC 0 dX8_isWritten_0 rfl rfl ?_
  refine g_getR hC cf8 (t := 40) rfl 3 (by decide) rfl m_912 dX8_isWritten_1 ?_
  refine g_bipush hC (v := (6 : Int32)) dX8_isWritten_4 (by decide) ?_
  refine g_iload_n hC 1 dX8_isWritten_6 rfl rfl ?_
  refine g_imul hC dX8_isWritten_7 ?_
  refine g_iconst hC (v := (4 : Int32)) dX8_isWritten_8 (by decide) ?_
  refine g_iadd hC dX8_isWritten_9 ?_
  refine g_iald hC rfl rfl dX8_isWritten_10 ?_
  refine g_top (fun v1 => ?_)
  show GG x f 6 (Qm x f (φB M)) 11 [(0, .ref (x.1 37)), (1, .int a1), (2, .int a2)] [.int v1] M _
  refine g_istore_n hC (lv' := [(0, .ref (x.1 37)), (1, .int a1), (2, .int a2), (3, .int v1)]) [1, 2, 3, 0] dX8_isWritten_11 rfl (by decide) rfl ?_
  refine g_aload_n hC 0 dX8_isWritten_12 rfl rfl ?_
  refine g_getR hC cf8 (t := 40) rfl 3 (by decide) rfl m_912 dX8_isWritten_13 ?_
  refine g_bipush hC (v := (6 : Int32)) dX8_isWritten_16 (by decide) ?_
  refine g_iload_n hC 1 dX8_isWritten_18 rfl rfl ?_
  refine g_imul hC dX8_isWritten_19 ?_
  refine g_iconst hC (v := (5 : Int32)) dX8_isWritten_20 (by decide) ?_
  refine g_iadd hC dX8_isWritten_21 ?_
  refine g_iald hC rfl rfl dX8_isWritten_22 ?_
  refine g_top (fun v2 => ?_)
  show GG x f 6 (Qm x f (φB M)) 23 [(0, .ref (x.1 37)), (1, .int a1), (2, .int a2), (3, .int v1)] [.int v2] M _
  refine g_istore hC (lv' := [(0, .ref (x.1 37)), (1, .int a1), (2, .int a2), (3, .int v1), (4, .int v2)]) [1, 2, 3, 4, 0] dX8_isWritten_23 (by decide) rfl ?_
  refine g_iload_n hC 3 dX8_isWritten_25 rfl rfl ?_
  refine g_iconst hC (v := (2 : Int32)) dX8_isWritten_26 (by decide) ?_
  refine g_icmp_ge hC 40 dX8_isWritten_27 (by decide) ?_ ?_
  · refine g_iload hC 4 dX8_isWritten_40 rfl ?_
    refine g_aload_n hC 0 dX8_isWritten_42 rfl rfl ?_
    refine g_getI hC cf8 rfl 2 (by decide) rfl m_911 dX8_isWritten_43 ?_
    refine g_nm (fun (J4 : Int32 → Option Bool) => ∀ (q3 : Int32), GG x f 6 (Qm x f (φB M)) 73 [(0, .ref (x.1 37)), (3, .int v1), (4, .int v2)] [.int q3] M (J4 q3)) (fun q3 => ?_) (fun J4 hJ4 => ?_)
    · show GG x f 6 (Qm x f (φB M)) 73 [(0, .ref (x.1 37)), (3, .int v1), (4, .int v2)] [.int q3] M _
      refine g_istore hC (lv' := [(0, .ref (x.1 37)), (3, .int v1), (4, .int v2), (5, .int q3)]) [1, 2, 3, 0] dX8_isWritten_73 (by decide) rfl ?_
      refine g_iload_n hC 1 dX8_isWritten_75 rfl rfl ?_
      refine g_iconst hC (v := (4 : Int32)) dX8_isWritten_76 (by decide) ?_
      refine g_icmp_ne hC 93 dX8_isWritten_77 (by decide) ?_ ?_
      · refine g_iload hC 3 dX8_isWritten_93 rfl ?_
        refine g_if_eq hC 127 dX8_isWritten_95 (by decide) ?_ ?_
        · refine g_iconst hC (v := (0 : Int32)) dX8_isWritten_127 (by decide) ?_
          exact g_zret hC hm rfl rfl dX8_isWritten_128
        · refine g_aload_n hC 0 dX8_isWritten_98 rfl rfl ?_
          refine g_getR hC cf8 (t := 40) rfl 3 (by decide) rfl m_912 dX8_isWritten_99 ?_
          refine g_bipush hC (v := (6 : Int32)) dX8_isWritten_102 (by decide) ?_
          refine g_iload hC 2 dX8_isWritten_104 rfl ?_
          refine g_imul hC dX8_isWritten_106 ?_
          refine g_iconst hC (v := (3 : Int32)) dX8_isWritten_107 (by decide) ?_
          refine g_iadd hC dX8_isWritten_108 ?_
          refine g_iald hC rfl rfl dX8_isWritten_109 ?_
          refine g_iload_n hC 1 dX8_isWritten_110 rfl rfl ?_
          refine g_iconst hC (v := (2 : Int32)) dX8_isWritten_111 (by decide) ?_
          refine g_nm (fun (J6 : Int32 → Option Bool) => ∀ (q5 : Int32), GG x f 6 (Qm x f (φB M)) 120 [] [.int q5, .int (M 40 (ix (((6 : Int32) * v2) + (3 : Int32))))] M (J6 q5)) (fun q5 => ?_) (fun J6 hJ6 => ?_)
          · show GG x f 6 (Qm x f (φB M)) 120 [] [.int q5, .int (M 40 (ix (((6 : Int32) * v2) + (3 : Int32))))] M _
            refine g_icmp_ne hC 127 dX8_isWritten_120 (by decide) ?_ ?_
            · refine g_iconst hC (v := (0 : Int32)) dX8_isWritten_127 (by decide) ?_
              exact g_zret hC hm rfl rfl dX8_isWritten_128
            · refine g_iconst hC (v := (1 : Int32)) dX8_isWritten_123 (by decide) ?_
              refine g_goto hC 128 dX8_isWritten_124 (by decide) ?_
              exact g_zret hC hm rfl rfl dX8_isWritten_128
          refine g_icmp_ne hC 119 dX8_isWritten_112 (by decide) ?_ ?_
          · refine g_iconst hC (v := (0 : Int32)) dX8_isWritten_119 (by decide) ?_
            refine g_lv (lv' := []) [] rfl ?_
            exact hJ6 (0 : Int32)
          · refine g_iconst hC (v := (1 : Int32)) dX8_isWritten_115 (by decide) ?_
            refine g_goto hC 120 dX8_isWritten_116 (by decide) ?_
            refine g_lv (lv' := []) [] rfl ?_
            exact hJ6 (1 : Int32)
      · refine g_iload hC 3 dX8_isWritten_80 rfl ?_
        refine g_if_ne hC 89 dX8_isWritten_82 (by decide) ?_ ?_
        · refine g_iconst hC (v := (0 : Int32)) dX8_isWritten_89 (by decide) ?_
          refine g_goto hC 128 dX8_isWritten_90 (by decide) ?_
          exact g_zret hC hm rfl rfl dX8_isWritten_128
        · refine g_iconst hC (v := (1 : Int32)) dX8_isWritten_85 (by decide) ?_
          refine g_goto hC 128 dX8_isWritten_86 (by decide) ?_
          exact g_zret hC hm rfl rfl dX8_isWritten_128
    refine g_nm (fun (J7 : Option Bool) => GG x f 6 (Qm x f (φB M)) 72 [(0, .ref (x.1 37)), (3, .int v1), (4, .int v2)] [] M J7) ?_ (fun J7 hJ7 => ?_)
    · show GG x f 6 (Qm x f (φB M)) 72 [(0, .ref (x.1 37)), (3, .int v1), (4, .int v2)] [] M _
      refine g_iconst hC (v := (0 : Int32)) dX8_isWritten_72 (by decide) ?_
      exact hJ4 (0 : Int32)
    refine g_icmp_ge hC 72 dX8_isWritten_46 (by decide) ?_ ?_
    · refine g_lv (lv' := [(0, .ref (x.1 37)), (3, .int v1), (4, .int v2)]) [0, 3, 4] rfl ?_
      exact hJ7
    · refine g_iload_n hC 2 dX8_isWritten_49 rfl rfl ?_
      refine g_iload hC 4 dX8_isWritten_50 rfl ?_
      refine g_calls hC (st := []) (ctX8_isIn x F a2 v2 M) msX8_isIn m_1091 (by decide) rfl rfl (Nat.le_of_ble_eq_true rfl) dX8_isWritten_52 (fun r8 => ?_)
      show GG x f 6 (Qm x f (φB M)) 55 [(0, .ref (x.1 37)), (1, .int a1), (2, .int a2), (3, .int v1), (4, .int v2)] [.int (bi r8)] M _
      refine g_ifB_eq hC 72 dX8_isWritten_55 (by decide) ?_ ?_
      · refine g_aload_n hC 0 dX8_isWritten_58 rfl rfl ?_
        refine g_iload hC 4 dX8_isWritten_59 rfl ?_
        refine g_iload_n hC 1 dX8_isWritten_61 rfl rfl ?_
        refine g_callv hC (st := []) (c := 8) rfl (by decide) rfl (ctX8_isKnown x F v2 a1 M) mvX8_isKnown m_1098 (by decide) rfl rfl (Nat.le_of_ble_eq_true rfl) dX8_isWritten_62 (fun r9 => ?_)
        show GG x f 6 (Qm x f (φB M)) 65 [(0, .ref (x.1 37)), (1, .int a1), (2, .int a2), (3, .int v1), (4, .int v2)] [.int (bi r9)] M _
        refine g_ifB_eq hC 72 dX8_isWritten_65 (by decide) ?_ ?_
        · refine g_iconst hC (v := (1 : Int32)) dX8_isWritten_68 (by decide) ?_
          refine g_goto hC 73 dX8_isWritten_69 (by decide) ?_
          refine g_lv (lv' := [(0, .ref (x.1 37)), (3, .int v1), (4, .int v2)]) [0, 3, 4] rfl ?_
          exact hJ4 (1 : Int32)
        · refine g_lv (lv' := [(0, .ref (x.1 37)), (3, .int v1), (4, .int v2)]) [0, 3, 4] rfl ?_
          exact hJ7
      · refine g_lv (lv' := [(0, .ref (x.1 37)), (3, .int v1), (4, .int v2)]) [0, 3, 4] rfl ?_
        exact hJ7
  · refine g_iload_n hC 3 dX8_isWritten_30 rfl rfl ?_
    refine g_if_ne hC 38 dX8_isWritten_31 (by decide) ?_ ?_
    · refine g_iconst hC (v := (0 : Int32)) dX8_isWritten_38 (by decide) ?_
      exact g_zret hC hm rfl rfl dX8_isWritten_39
    · refine g_iconst hC (v := (1 : Int32)) dX8_isWritten_34 (by decide) ?_
      refine g_goto hC 39 dX8_isWritten_35 (by decide) ?_
      exact g_zret hC hm rfl rfl dX8_isWritten_39
def sX8_next_L5 (F : Nat) (a1 : Int32) (a2 : Int32) (M : Mem) (rec3 : Int32 → Int32 → Option Int32) (p1 : Int32) (p2 : Int32) : Option Int32 :=
if (M 37 2) ≤ p2 then
(some p1)
else
((sX8_isIn F a2 p2 M).bind (fun r4 =>
nm (fun (q5 : Int32) =>
nm (fun (q7 : Int32) =>
nm (p1 ||| q7) (fun v9 =>
rec3 v9 (p2 + (1 : Int32)))) (fun J8 =>
if q5 = 0 then
(J8 (0 : Int32))
else
(J8 ((1 : Int32) <<< (p2 &&& 31))))) (fun J6 =>
if r4 = true then
((sX8_isIn F a1 p2 M).bind (fun r10 =>
J6 (bi r10)))
else
((sX8_isWritten F p2 a1 M).bind (fun r11 =>
J6 (bi r11))))))
def sX8_next (F : Nat) (a1 : Int32) (a2 : Int32) (M : Mem) : Option Int32 :=
fx2 F (sX8_next_L5 F a1 a2 M) (0 : Int32) (0 : Int32)
theorem mvX8_next : MV yX8_next cX8_next 6 (some .int) 2 := ⟨⟨m_1090, m_76, by decide, by decide, by decide⟩, m_1089, m_37⟩
set_option maxHeartbeats 4000000 in
set_option maxRecDepth 100000 in
theorem ctX8_next (x : Wx) (F : Nat) (a1 : Int32) (a2 : Int32) (M : Mem) : Ct x yX8_next cX8_next 6 (some .int) { frames := 2, cells := 0, slots := 0, locals := 47 } (φI M) [.ref (x.1 37), .int a1, .int a2] M (sX8_next F a1 a2 M) := by
  refine ct_of (by decide) (Nat.le_of_ble_eq_true rfl) (fun f hC hm => ?_)
  have hC : Cx x f "AnswersFirstModel" cX8_next 6 { frames := 2, cells := 0, slots := 0, locals := 47 } := hC
  show GG x f 6 (Qm x f (φI M)) 0 [(0, .ref (x.1 37)), (1, .int a1), (2, .int a2)] [] M _
  unfold sX8_next
  refine g_iconst hC (v := (0 : Int32)) dX8_next_0 (by decide) ?_
  refine g_istore_n hC (lv' := [(0, .ref (x.1 37)), (1, .int a1), (2, .int a2), (3, .int (0 : Int32))]) [1, 2, 3, 0] dX8_next_1 rfl (by decide) rfl ?_
  refine g_iconst hC (v := (0 : Int32)) dX8_next_2 (by decide) ?_
  refine g_istore hC (lv' := [(0, .ref (x.1 37)), (1, .int a1), (2, .int a2), (3, .int (0 : Int32)), (4, .int (0 : Int32))]) [1, 2, 3, 4, 0] dX8_next_3 (by decide) rfl ?_
  refine g_fx2 (fun (p1 : Int32) (p2 : Int32) => [(0, .ref (x.1 37)), (1, .int a1), (2, .int a2), (3, .int p1), (4, .int p2)]) (fun (p1 : Int32) (p2 : Int32) => M) (fun rec3 hrec3 p1 p2 => ?_) F _ _
  show GG x f 6 (Qm x f (φI M)) 5 [(0, .ref (x.1 37)), (1, .int a1), (2, .int a2), (3, .int p1), (4, .int p2)] [] M _
  unfold sX8_next_L5
  refine g_iload hC 4 dX8_next_5 rfl ?_
  refine g_aload_n hC 0 dX8_next_7 rfl rfl ?_
  refine g_getI hC cf8 rfl 2 (by decide) rfl m_911 dX8_next_8 ?_
  refine g_icmp_ge hC 63 dX8_next_11 (by decide) ?_ ?_
  · refine g_iload_n hC 3 dX8_next_63 rfl rfl ?_
    exact g_iret hC hm rfl dX8_next_64
  · refine g_iload_n hC 2 dX8_next_14 rfl rfl ?_
    refine g_iload hC 4 dX8_next_15 rfl ?_
    refine g_calls hC (st := []) (ctX8_isIn x F a2 p2 M) msX8_isIn m_1091 (by decide) rfl rfl (Nat.le_of_ble_eq_true rfl) dX8_next_17 (fun r4 => ?_)
    show GG x f 6 (Qm x f (φI M)) 20 [(0, .ref (x.1 37)), (1, .int a1), (2, .int a2), (3, .int p1), (4, .int p2)] [.int (bi r4)] M _
    refine g_nm (fun (J6 : Int32 → Option Int32) => ∀ (q5 : Int32), GG x f 6 (Qm x f (φI M)) 39 [(0, .ref (x.1 37)), (1, .int a1), (2, .int a2), (3, .int p1), (4, .int p2)] [.int q5] M (J6 q5)) (fun q5 => ?_) (fun J6 hJ6 => ?_)
    · show GG x f 6 (Qm x f (φI M)) 39 [(0, .ref (x.1 37)), (1, .int a1), (2, .int a2), (3, .int p1), (4, .int p2)] [.int q5] M _
      refine g_istore hC (lv' := [(0, .ref (x.1 37)), (1, .int a1), (2, .int a2), (3, .int p1), (4, .int p2), (5, .int q5)]) [1, 2, 3, 4, 5, 0] dX8_next_39 (by decide) rfl ?_
      refine g_iload_n hC 3 dX8_next_41 rfl rfl ?_
      refine g_iload hC 5 dX8_next_42 rfl ?_
      refine g_nm (fun (J8 : Int32 → Option Int32) => ∀ (q7 : Int32), GG x f 6 (Qm x f (φI M)) 55 [(0, .ref (x.1 37)), (1, .int a1), (2, .int a2), (4, .int p2)] [.int q7, .int p1] M (J8 q7)) (fun q7 => ?_) (fun J8 hJ8 => ?_)
      · show GG x f 6 (Qm x f (φI M)) 55 [(0, .ref (x.1 37)), (1, .int a1), (2, .int a2), (4, .int p2)] [.int q7, .int p1] M _
        refine g_ior hC dX8_next_55 ?_
        refine g_top (fun v9 => ?_)
        show GG x f 6 (Qm x f (φI M)) 56 [(0, .ref (x.1 37)), (1, .int a1), (2, .int a2), (4, .int p2)] [.int v9] M _
        refine g_istore_n hC (lv' := [(0, .ref (x.1 37)), (1, .int a1), (2, .int a2), (3, .int v9), (4, .int p2)]) [1, 2, 3, 0, 4] dX8_next_56 rfl (by decide) rfl ?_
        refine g_iinc hC (q := 4) (v := (1 : Int32)) (lv' := [(0, .ref (x.1 37)), (1, .int a1), (2, .int a2), (3, .int v9), (4, .int (p2 + (1 : Int32)))]) [1, 2, 3, 4, 0] dX8_next_57 rfl (by decide) (by decide) rfl ?_
        refine g_goto hC 5 dX8_next_60 (by decide) ?_
        exact hrec3 v9 (p2 + (1 : Int32))
      refine g_if_eq hC 54 dX8_next_44 (by decide) ?_ ?_
      · refine g_iconst hC (v := (0 : Int32)) dX8_next_54 (by decide) ?_
        refine g_lv (lv' := [(0, .ref (x.1 37)), (1, .int a1), (2, .int a2), (4, .int p2)]) [0, 1, 2, 4] rfl ?_
        exact hJ8 (0 : Int32)
      · refine g_iconst hC (v := (1 : Int32)) dX8_next_47 (by decide) ?_
        refine g_iload hC 4 dX8_next_48 rfl ?_
        refine g_ishl hC dX8_next_50 ?_
        refine g_goto hC 55 dX8_next_51 (by decide) ?_
        refine g_lv (lv' := [(0, .ref (x.1 37)), (1, .int a1), (2, .int a2), (4, .int p2)]) [0, 1, 2, 4] rfl ?_
        exact hJ8 ((1 : Int32) <<< (p2 &&& 31))
    refine g_ifB_eq hC 32 dX8_next_20 (by decide) ?_ ?_
    · refine g_iload_n hC 1 dX8_next_23 rfl rfl ?_
      refine g_iload hC 4 dX8_next_24 rfl ?_
      refine g_calls hC (st := []) (ctX8_isIn x F a1 p2 M) msX8_isIn m_1091 (by decide) rfl rfl (Nat.le_of_ble_eq_true rfl) dX8_next_26 (fun r10 => ?_)
      show GG x f 6 (Qm x f (φI M)) 29 [(0, .ref (x.1 37)), (1, .int a1), (2, .int a2), (3, .int p1), (4, .int p2)] [.int (bi r10)] M _
      refine g_goto hC 39 dX8_next_29 (by decide) ?_
      exact hJ6 (bi r10)
    · refine g_aload_n hC 0 dX8_next_32 rfl rfl ?_
      refine g_iload hC 4 dX8_next_33 rfl ?_
      refine g_iload_n hC 1 dX8_next_35 rfl rfl ?_
      refine g_callv hC (st := []) (c := 8) rfl (by decide) rfl (ctX8_isWritten x F p2 a1 M) mvX8_isWritten m_1094 (by decide) rfl rfl (Nat.le_of_ble_eq_true rfl) dX8_next_36 (fun r11 => ?_)
      show GG x f 6 (Qm x f (φI M)) 39 [(0, .ref (x.1 37)), (1, .int a1), (2, .int a2), (3, .int p1), (4, .int p2)] [.int (bi r11)] M _
      exact hJ6 (bi r11)
def sX8_brokenBy (F : Nat) (a1 : Int32) (a2 : Int32) (M : Mem) : Option Int32 :=
(sX8_next F a1 a2 M).bind (fun r1 =>
some (a1 ^^^ r1))
theorem mvX8_brokenBy : MV yX8_brokenBy cX8_brokenBy 3 (some .int) 2 := ⟨⟨m_1086, m_76, by decide, by decide, by decide⟩, m_1085, m_36⟩
set_option maxHeartbeats 4000000 in
set_option maxRecDepth 100000 in
theorem ctX8_brokenBy (x : Wx) (F : Nat) (a1 : Int32) (a2 : Int32) (M : Mem) : Ct x yX8_brokenBy cX8_brokenBy 3 (some .int) { frames := 3, cells := 0, slots := 0, locals := 72 } (φI M) [.ref (x.1 37), .int a1, .int a2] M (sX8_brokenBy F a1 a2 M) := by
  refine ct_of (by decide) (Nat.le_of_ble_eq_true rfl) (fun f hC hm => ?_)
  have hC : Cx x f "AnswersFirstModel" cX8_brokenBy 3 { frames := 3, cells := 0, slots := 0, locals := 72 } := hC
  show GG x f 3 (Qm x f (φI M)) 0 [(0, .ref (x.1 37)), (1, .int a1), (2, .int a2)] [] M _
  unfold sX8_brokenBy
  refine g_iload_n hC 1 dX8_brokenBy_0 rfl rfl ?_
  refine g_aload_n hC 0 dX8_brokenBy_1 rfl rfl ?_
  refine g_iload_n hC 1 dX8_brokenBy_2 rfl rfl ?_
  refine g_iload_n hC 2 dX8_brokenBy_3 rfl rfl ?_
  refine g_callv hC (st := [.int a1]) (c := 8) rfl (by decide) rfl (ctX8_next x F a1 a2 M) mvX8_next m_1087 (by decide) rfl rfl (Nat.le_of_ble_eq_true rfl) dX8_brokenBy_4 (fun r1 => ?_)
  show GG x f 3 (Qm x f (φI M)) 7 [(0, .ref (x.1 37)), (1, .int a1), (2, .int a2)] [.int r1, .int a1] M _
  refine g_ixor hC dX8_brokenBy_7 ?_
  exact g_iret hC hm rfl dX8_brokenBy_8
def sX8_rowsOf_L10 (F : Nat) (a1 : Int32) (r1 : (Int32 × Mem)) (J3 : Int32 → Option (Int32 × Mem)) (rec6 : Int32 → Int32 → Option (Int32 × Mem)) (p4 : Int32) (p5 : Int32) : Option (Int32 × Mem) :=
if r1.1 < p5 then
(J3 p4)
else
((sX8_brokenBy F p5 (r1.2 37 9) r1.2).bind (fun r7 =>
nm (fun (p8 : Int32) =>
rec6 p8 (p5 + (1 : Int32))) (fun J9 =>
if ¬ r7 = 0 then
(J9 p4)
else
(if ¬ p4 = a1 then
(J9 (p4 + (1 : Int32)))
else
(some (p5, r1.2))))))
def sX8_rowsOf (F : Nat) (a1 : Int32) (M : Mem) : Option (Int32 × Mem) :=
(sX8_there F M).bind (fun r1 =>
nm (fun (p2 : Int32) =>
if ¬ a1 = (-1 : Int32) then
(some ((-1 : Int32), r1.2))
else
(some (p2, r1.2))) (fun J3 =>
fx2 F (sX8_rowsOf_L10 F a1 r1 J3) (0 : Int32) (0 : Int32)))
theorem mvX8_rowsOf : MV yX8_rowsOf cX8_rowsOf 5 (some .int) 1 := ⟨⟨m_1109, m_76, by decide, by decide, by decide⟩, m_1108, m_40⟩
set_option maxHeartbeats 4000000 in
set_option maxRecDepth 100000 in
theorem ctX8_rowsOf (x : Wx) (F : Nat) (a1 : Int32) (M : Mem) : Ct x yX8_rowsOf cX8_rowsOf 5 (some .int) { frames := 7, cells := 0, slots := 0, locals := 164 } φIM [.ref (x.1 37), .int a1] M (sX8_rowsOf F a1 M) := by
  refine ct_of (by decide) (Nat.le_of_ble_eq_true rfl) (fun f hC hm => ?_)
  have hC : Cx x f "AnswersFirstModel" cX8_rowsOf 5 { frames := 7, cells := 0, slots := 0, locals := 164 } := hC
  show GG x f 5 (Qm x f φIM) 0 [(0, .ref (x.1 37)), (1, .int a1)] [] M _
  unfold sX8_rowsOf
  refine g_aload_n hC 0 dX8_rowsOf_0 rfl rfl ?_
  refine g_callv hC (st := []) (c := 8) rfl (by decide) rfl (ctX8_there x F M) mvX8_there m_1079 (by decide) rfl rfl (Nat.le_of_ble_eq_true rfl) dX8_rowsOf_1 (fun r1 => ?_)
  show GG x f 5 (Qm x f φIM) 4 [(0, .ref (x.1 37)), (1, .int a1)] [.int (r1.1)] r1.2 _
  refine g_istore_n hC (lv' := [(0, .ref (x.1 37)), (1, .int a1), (2, .int (r1.1))]) [1, 2, 0] dX8_rowsOf_4 rfl (by decide) rfl ?_
  refine g_iconst hC (v := (0 : Int32)) dX8_rowsOf_5 (by decide) ?_
  refine g_istore_n hC (lv' := [(0, .ref (x.1 37)), (1, .int a1), (2, .int (r1.1)), (3, .int (0 : Int32))]) [1, 2, 3, 0] dX8_rowsOf_6 rfl (by decide) rfl ?_
  refine g_iconst hC (v := (0 : Int32)) dX8_rowsOf_7 (by decide) ?_
  refine g_istore hC (lv' := [(0, .ref (x.1 37)), (1, .int a1), (2, .int (r1.1)), (3, .int (0 : Int32)), (4, .int (0 : Int32))]) [1, 2, 3, 4, 0] dX8_rowsOf_8 (by decide) rfl ?_
  refine g_nm (fun (J3 : Int32 → Option (Int32 × Mem)) => ∀ (p2 : Int32), GG x f 5 (Qm x f φIM) 46 [(1, .int a1), (3, .int p2)] [] r1.2 (J3 p2)) (fun p2 => ?_) (fun J3 hJ3 => ?_)
  · show GG x f 5 (Qm x f φIM) 46 [(1, .int a1), (3, .int p2)] [] r1.2 _
    refine g_iload_n hC 0 dX8_rowsOf_46 rfl rfl ?_
    refine g_iconst hC (v := (-1 : Int32)) dX8_rowsOf_47 (by decide) ?_
    refine g_icmp_ne hC 55 dX8_rowsOf_48 (by decide) ?_ ?_
    · refine g_iconst hC (v := (-1 : Int32)) dX8_rowsOf_55 (by decide) ?_
      exact g_iret hC hm rfl dX8_rowsOf_56
    · refine g_iload_n hC 1 dX8_rowsOf_51 rfl rfl ?_
      refine g_goto hC 56 dX8_rowsOf_52 (by decide) ?_
      exact g_iret hC hm rfl dX8_rowsOf_56
  refine g_fx2 (fun (p4 : Int32) (p5 : Int32) => [(0, .ref (x.1 37)), (1, .int a1), (2, .int (r1.1)), (3, .int p4), (4, .int p5)]) (fun (p4 : Int32) (p5 : Int32) => r1.2) (fun rec6 hrec6 p4 p5 => ?_) F _ _
  show GG x f 5 (Qm x f φIM) 10 [(0, .ref (x.1 37)), (1, .int a1), (2, .int (r1.1)), (3, .int p4), (4, .int p5)] [] r1.2 _
  unfold sX8_rowsOf_L10
  refine g_iload hC 4 dX8_rowsOf_10 rfl ?_
  refine g_iload_n hC 2 dX8_rowsOf_12 rfl rfl ?_
  refine g_icmp_gt hC 46 dX8_rowsOf_13 (by decide) ?_ ?_
  · refine g_lv (lv' := [(1, .int a1), (3, .int p4)]) [1, 3] rfl ?_
    exact hJ3 p4
  · refine g_aload_n hC 0 dX8_rowsOf_16 rfl rfl ?_
    refine g_iload hC 4 dX8_rowsOf_17 rfl ?_
    refine g_aload_n hC 0 dX8_rowsOf_19 rfl rfl ?_
    refine g_getI hC cf8 rfl 9 (by decide) rfl m_918 dX8_rowsOf_20 ?_
    refine g_callv hC (st := []) (c := 8) rfl (by decide) rfl (ctX8_brokenBy x F p5 (r1.2 37 9) r1.2) mvX8_brokenBy m_1083 (by decide) rfl rfl (Nat.le_of_ble_eq_true rfl) dX8_rowsOf_23 (fun r7 => ?_)
    show GG x f 5 (Qm x f φIM) 26 [(0, .ref (x.1 37)), (1, .int a1), (2, .int (r1.1)), (3, .int p4), (4, .int p5)] [.int r7] r1.2 _
    refine g_nm (fun (J9 : Int32 → Option (Int32 × Mem)) => ∀ (p8 : Int32), GG x f 5 (Qm x f φIM) 40 [(0, .ref (x.1 37)), (1, .int a1), (2, .int (r1.1)), (3, .int p8), (4, .int p5)] [] r1.2 (J9 p8)) (fun p8 => ?_) (fun J9 hJ9 => ?_)
    · show GG x f 5 (Qm x f φIM) 40 [(0, .ref (x.1 37)), (1, .int a1), (2, .int (r1.1)), (3, .int p8), (4, .int p5)] [] r1.2 _
      refine g_iinc hC (q := 4) (v := (1 : Int32)) (lv' := [(0, .ref (x.1 37)), (1, .int a1), (2, .int (r1.1)), (3, .int p8), (4, .int (p5 + (1 : Int32)))]) [1, 2, 3, 4, 0] dX8_rowsOf_40 rfl (by decide) (by decide) rfl ?_
      refine g_goto hC 10 dX8_rowsOf_43 (by decide) ?_
      exact hrec6 p8 (p5 + (1 : Int32))
    refine g_if_ne hC 40 dX8_rowsOf_26 (by decide) ?_ ?_
    · exact hJ9 p4
    · refine g_iload_n hC 3 dX8_rowsOf_29 rfl rfl ?_
      refine g_iload_n hC 1 dX8_rowsOf_30 rfl rfl ?_
      refine g_icmp_ne hC 37 dX8_rowsOf_31 (by decide) ?_ ?_
      · refine g_iinc hC (q := 3) (v := (1 : Int32)) (lv' := [(0, .ref (x.1 37)), (1, .int a1), (2, .int (r1.1)), (3, .int (p4 + (1 : Int32))), (4, .int p5)]) [1, 2, 3, 0, 4] dX8_rowsOf_37 rfl (by decide) (by decide) rfl ?_
        exact hJ9 (p4 + (1 : Int32))
      · refine g_iload hC 4 dX8_rowsOf_34 rfl ?_
        exact g_iret hC hm rfl dX8_rowsOf_36
def sX8_rows (F : Nat) (a1 : Int32) (M : Mem) : Option (Int32 × Mem) :=
(sX8_in F a1 (-1 : Int32) (1023 : Int32) M).bind (fun r1 =>
if r1 = true then
((sX8_rowsOf F a1 M).bind (fun r2 =>
some (r2.1, r2.2)))
else
(some ((-2 : Int32), M)))
theorem mvX8_rows : MV yX8_rows cX8_rows 2 (some .int) 1 := ⟨⟨m_1105, m_76, by decide, by decide, by decide⟩, m_1103, m_1104⟩
set_option maxHeartbeats 4000000 in
set_option maxRecDepth 100000 in
theorem ctX8_rows (x : Wx) (F : Nat) (a1 : Int32) (M : Mem) : Ct x yX8_rows cX8_rows 2 (some .int) { frames := 8, cells := 0, slots := 0, locals := 188 } φIM [.ref (x.1 37), .int a1] M (sX8_rows F a1 M) := by
  refine ct_of (by decide) (Nat.le_of_ble_eq_true rfl) (fun f hC hm => ?_)
  have hC : Cx x f "AnswersFirstModel" cX8_rows 2 { frames := 8, cells := 0, slots := 0, locals := 188 } := hC
  show GG x f 2 (Qm x f φIM) 0 [(0, .ref (x.1 37)), (1, .int a1)] [] M _
  unfold sX8_rows
  refine g_iload_n hC 1 dX8_rows_0 rfl rfl ?_
  refine g_iconst hC (v := (-1 : Int32)) dX8_rows_1 (by decide) ?_
  refine g_sipush hC (v := (1023 : Int32)) dX8_rows_2 (by decide) ?_
  refine g_calls hC (st := []) (ctX8_in x F a1 (-1 : Int32) (1023 : Int32) M) msX8_in m_987 (by decide) rfl rfl (Nat.le_of_ble_eq_true rfl) dX8_rows_5 (fun r1 => ?_)
  show GG x f 2 (Qm x f φIM) 8 [(0, .ref (x.1 37)), (1, .int a1)] [.int (bi r1)] M _
  refine g_ifB_eq hC 19 dX8_rows_8 (by decide) ?_ ?_
  · refine g_aload_n hC 0 dX8_rows_11 rfl rfl ?_
    refine g_iload_n hC 1 dX8_rows_12 rfl rfl ?_
    refine g_callv hC (st := []) (c := 8) rfl (by decide) rfl (ctX8_rowsOf x F a1 M) mvX8_rowsOf m_1106 (by decide) rfl rfl (Nat.le_of_ble_eq_true rfl) dX8_rows_13 (fun r2 => ?_)
    show GG x f 2 (Qm x f φIM) 16 [(0, .ref (x.1 37)), (1, .int a1)] [.int (r2.1)] r2.2 _
    refine g_goto hC 21 dX8_rows_16 (by decide) ?_
    exact g_iret hC hm rfl dX8_rows_21
  · refine g_bipush hC (v := (-2 : Int32)) dX8_rows_19 (by decide) ?_
    exact g_iret hC hm rfl dX8_rows_21
def sX8_sureOf_L10 (F : Nat) (a1 : Int32) (r1 : (Int32 × Mem)) (rec4 : Int32 → Int32 → Option (Int32 × Mem)) (p2 : Int32) (p3 : Int32) : Option (Int32 × Mem) :=
if r1.1 < p3 then
(some (p2, r1.2))
else
((sX8_brokenBy F p3 (r1.2 37 9) r1.2).bind (fun r5 =>
nm (fun (q6 : Int32) =>
nm (p2 &&& q6) (fun v8 =>
rec4 v8 (p3 + (1 : Int32)))) (fun J7 =>
if r5 = 0 then
(if ¬ a1 = (1 : Int32) then
(J7 (p3 ^^^ (-1 : Int32)))
else
(J7 p3))
else
(J7 r1.1))))
def sX8_sureOf (F : Nat) (a1 : Int32) (M : Mem) : Option (Int32 × Mem) :=
(sX8_there F M).bind (fun r1 =>
fx2 F (sX8_sureOf_L10 F a1 r1) r1.1 (0 : Int32))
theorem mvX8_sureOf : MV yX8_sureOf cX8_sureOf 5 (some .int) 1 := ⟨⟨m_1117, m_76, by decide, by decide, by decide⟩, m_1116, m_41⟩
set_option maxHeartbeats 4000000 in
set_option maxRecDepth 100000 in
theorem ctX8_sureOf (x : Wx) (F : Nat) (a1 : Int32) (M : Mem) : Ct x yX8_sureOf cX8_sureOf 5 (some .int) { frames := 7, cells := 0, slots := 0, locals := 164 } φIM [.ref (x.1 37), .int a1] M (sX8_sureOf F a1 M) := by
  refine ct_of (by decide) (Nat.le_of_ble_eq_true rfl) (fun f hC hm => ?_)
  have hC : Cx x f "AnswersFirstModel" cX8_sureOf 5 { frames := 7, cells := 0, slots := 0, locals := 164 } := hC
  show GG x f 5 (Qm x f φIM) 0 [(0, .ref (x.1 37)), (1, .int a1)] [] M _
  unfold sX8_sureOf
  refine g_aload_n hC 0 dX8_sureOf_0 rfl rfl ?_
  refine g_callv hC (st := []) (c := 8) rfl (by decide) rfl (ctX8_there x F M) mvX8_there m_1079 (by decide) rfl rfl (Nat.le_of_ble_eq_true rfl) dX8_sureOf_1 (fun r1 => ?_)
  show GG x f 5 (Qm x f φIM) 4 [(0, .ref (x.1 37)), (1, .int a1)] [.int (r1.1)] r1.2 _
  refine g_istore_n hC (lv' := [(0, .ref (x.1 37)), (1, .int a1), (2, .int (r1.1))]) [1, 2, 0] dX8_sureOf_4 rfl (by decide) rfl ?_
  refine g_iload_n hC 2 dX8_sureOf_5 rfl rfl ?_
  refine g_istore_n hC (lv' := [(0, .ref (x.1 37)), (1, .int a1), (2, .int (r1.1)), (3, .int (r1.1))]) [1, 2, 3, 0] dX8_sureOf_6 rfl (by decide) rfl ?_
  refine g_iconst hC (v := (0 : Int32)) dX8_sureOf_7 (by decide) ?_
  refine g_istore hC (lv' := [(0, .ref (x.1 37)), (1, .int a1), (2, .int (r1.1)), (3, .int (r1.1)), (4, .int (0 : Int32))]) [1, 2, 3, 4, 0] dX8_sureOf_8 (by decide) rfl ?_
  refine g_fx2 (fun (p2 : Int32) (p3 : Int32) => [(0, .ref (x.1 37)), (1, .int a1), (2, .int (r1.1)), (3, .int p2), (4, .int p3)]) (fun (p2 : Int32) (p3 : Int32) => r1.2) (fun rec4 hrec4 p2 p3 => ?_) F _ _
  show GG x f 5 (Qm x f φIM) 10 [(0, .ref (x.1 37)), (1, .int a1), (2, .int (r1.1)), (3, .int p2), (4, .int p3)] [] r1.2 _
  unfold sX8_sureOf_L10
  refine g_iload hC 4 dX8_sureOf_10 rfl ?_
  refine g_iload_n hC 2 dX8_sureOf_12 rfl rfl ?_
  refine g_icmp_gt hC 56 dX8_sureOf_13 (by decide) ?_ ?_
  · refine g_iload_n hC 3 dX8_sureOf_56 rfl rfl ?_
    exact g_iret hC hm rfl dX8_sureOf_57
  · refine g_iload_n hC 3 dX8_sureOf_16 rfl rfl ?_
    refine g_aload_n hC 0 dX8_sureOf_17 rfl rfl ?_
    refine g_iload hC 4 dX8_sureOf_18 rfl ?_
    refine g_aload_n hC 0 dX8_sureOf_20 rfl rfl ?_
    refine g_getI hC cf8 rfl 9 (by decide) rfl m_918 dX8_sureOf_21 ?_
    refine g_callv hC (st := [.int p2]) (c := 8) rfl (by decide) rfl (ctX8_brokenBy x F p3 (r1.2 37 9) r1.2) mvX8_brokenBy m_1083 (by decide) rfl rfl (Nat.le_of_ble_eq_true rfl) dX8_sureOf_24 (fun r5 => ?_)
    show GG x f 5 (Qm x f φIM) 27 [(0, .ref (x.1 37)), (1, .int a1), (2, .int (r1.1)), (3, .int p2), (4, .int p3)] [.int r5, .int p2] r1.2 _
    refine g_nm (fun (J7 : Int32 → Option (Int32 × Mem)) => ∀ (q6 : Int32), GG x f 5 (Qm x f φIM) 48 [(0, .ref (x.1 37)), (1, .int a1), (2, .int (r1.1)), (4, .int p3)] [.int q6, .int p2] r1.2 (J7 q6)) (fun q6 => ?_) (fun J7 hJ7 => ?_)
    · show GG x f 5 (Qm x f φIM) 48 [(0, .ref (x.1 37)), (1, .int a1), (2, .int (r1.1)), (4, .int p3)] [.int q6, .int p2] r1.2 _
      refine g_iand hC dX8_sureOf_48 ?_
      refine g_top (fun v8 => ?_)
      show GG x f 5 (Qm x f φIM) 49 [(0, .ref (x.1 37)), (1, .int a1), (2, .int (r1.1)), (4, .int p3)] [.int v8] r1.2 _
      refine g_istore_n hC (lv' := [(0, .ref (x.1 37)), (1, .int a1), (2, .int (r1.1)), (3, .int v8), (4, .int p3)]) [1, 2, 3, 0, 4] dX8_sureOf_49 rfl (by decide) rfl ?_
      refine g_iinc hC (q := 4) (v := (1 : Int32)) (lv' := [(0, .ref (x.1 37)), (1, .int a1), (2, .int (r1.1)), (3, .int v8), (4, .int (p3 + (1 : Int32)))]) [1, 2, 3, 4, 0] dX8_sureOf_50 rfl (by decide) (by decide) rfl ?_
      refine g_goto hC 10 dX8_sureOf_53 (by decide) ?_
      exact hrec4 v8 (p3 + (1 : Int32))
    refine g_if_eq hC 34 dX8_sureOf_27 (by decide) ?_ ?_
    · refine g_iload_n hC 1 dX8_sureOf_34 rfl rfl ?_
      refine g_iconst hC (v := (1 : Int32)) dX8_sureOf_35 (by decide) ?_
      refine g_icmp_ne hC 44 dX8_sureOf_36 (by decide) ?_ ?_
      · refine g_iload hC 4 dX8_sureOf_44 rfl ?_
        refine g_iconst hC (v := (-1 : Int32)) dX8_sureOf_46 (by decide) ?_
        refine g_ixor hC dX8_sureOf_47 ?_
        refine g_lv (lv' := [(0, .ref (x.1 37)), (1, .int a1), (2, .int (r1.1)), (4, .int p3)]) [0, 1, 2, 4] rfl ?_
        exact hJ7 (p3 ^^^ (-1 : Int32))
      · refine g_iload hC 4 dX8_sureOf_39 rfl ?_
        refine g_goto hC 48 dX8_sureOf_41 (by decide) ?_
        refine g_lv (lv' := [(0, .ref (x.1 37)), (1, .int a1), (2, .int (r1.1)), (4, .int p3)]) [0, 1, 2, 4] rfl ?_
        exact hJ7 p3
    · refine g_iload_n hC 2 dX8_sureOf_30 rfl rfl ?_
      refine g_goto hC 48 dX8_sureOf_31 (by decide) ?_
      refine g_lv (lv' := [(0, .ref (x.1 37)), (1, .int a1), (2, .int (r1.1)), (4, .int p3)]) [0, 1, 2, 4] rfl ?_
      exact hJ7 r1.1
def sX8_sure (F : Nat) (a1 : Int32) (M : Mem) : Option (Int32 × Mem) :=
(sX8_in F a1 (0 : Int32) (1 : Int32) M).bind (fun r1 =>
if r1 = true then
((sX8_sureOf F a1 M).bind (fun r2 =>
some (r2.1, r2.2)))
else
(some ((-2 : Int32), M)))
theorem mvX8_sure : MV yX8_sure cX8_sure 2 (some .int) 1 := ⟨⟨m_1113, m_76, by decide, by decide, by decide⟩, m_1111, m_1112⟩
set_option maxHeartbeats 4000000 in
set_option maxRecDepth 100000 in
theorem ctX8_sure (x : Wx) (F : Nat) (a1 : Int32) (M : Mem) : Ct x yX8_sure cX8_sure 2 (some .int) { frames := 8, cells := 0, slots := 0, locals := 188 } φIM [.ref (x.1 37), .int a1] M (sX8_sure F a1 M) := by
  refine ct_of (by decide) (Nat.le_of_ble_eq_true rfl) (fun f hC hm => ?_)
  have hC : Cx x f "AnswersFirstModel" cX8_sure 2 { frames := 8, cells := 0, slots := 0, locals := 188 } := hC
  show GG x f 2 (Qm x f φIM) 0 [(0, .ref (x.1 37)), (1, .int a1)] [] M _
  unfold sX8_sure
  refine g_iload_n hC 1 dX8_sure_0 rfl rfl ?_
  refine g_iconst hC (v := (0 : Int32)) dX8_sure_1 (by decide) ?_
  refine g_iconst hC (v := (1 : Int32)) dX8_sure_2 (by decide) ?_
  refine g_calls hC (st := []) (ctX8_in x F a1 (0 : Int32) (1 : Int32) M) msX8_in m_987 (by decide) rfl rfl (Nat.le_of_ble_eq_true rfl) dX8_sure_3 (fun r1 => ?_)
  show GG x f 2 (Qm x f φIM) 6 [(0, .ref (x.1 37)), (1, .int a1)] [.int (bi r1)] M _
  refine g_ifB_eq hC 17 dX8_sure_6 (by decide) ?_ ?_
  · refine g_aload_n hC 0 dX8_sure_9 rfl rfl ?_
    refine g_iload_n hC 1 dX8_sure_10 rfl rfl ?_
    refine g_callv hC (st := []) (c := 8) rfl (by decide) rfl (ctX8_sureOf x F a1 M) mvX8_sureOf m_1114 (by decide) rfl rfl (Nat.le_of_ble_eq_true rfl) dX8_sure_11 (fun r2 => ?_)
    show GG x f 2 (Qm x f φIM) 14 [(0, .ref (x.1 37)), (1, .int a1)] [.int (r2.1)] r2.2 _
    refine g_goto hC 19 dX8_sure_14 (by decide) ?_
    exact g_iret hC hm rfl dX8_sure_19
  · refine g_bipush hC (v := (-2 : Int32)) dX8_sure_17 (by decide) ?_
    exact g_iret hC hm rfl dX8_sure_19
def sX8_ones_L4 (F : Nat) (a1 : Int32) (rec3 : Int32 → Int32 → Option Int32) (p1 : Int32) (p2 : Int32) : Option Int32 :=
if (10 : Int32) ≤ p2 then
(some p1)
else
(nm (p1 + ((a1 >>> (p2 &&& 31)) &&& (1 : Int32))) (fun v4 =>
rec3 v4 (p2 + (1 : Int32))))
def sX8_ones (F : Nat) (a1 : Int32) (M : Mem) : Option Int32 :=
fx2 F (sX8_ones_L4 F a1) (0 : Int32) (0 : Int32)
theorem msX8_ones : MS yX8_ones cX8_ones 3 (some .int) 1 := ⟨⟨m_1128, m_76, by decide, by decide, by decide⟩, m_1127⟩
set_option maxHeartbeats 4000000 in
set_option maxRecDepth 100000 in
theorem ctX8_ones (x : Wx) (F : Nat) (a1 : Int32) (M : Mem) : Ct x yX8_ones cX8_ones 3 (some .int) { frames := 0, cells := 0, slots := 0, locals := 0 } (φI M) [.int a1] M (sX8_ones F a1 M) := by
  refine ct_of (by decide) (Nat.le_of_ble_eq_true rfl) (fun f hC hm => ?_)
  have hC : Cx x f "AnswersFirstModel" cX8_ones 3 { frames := 0, cells := 0, slots := 0, locals := 0 } := hC
  show GG x f 3 (Qm x f (φI M)) 0 [(0, .int a1)] [] M _
  unfold sX8_ones
  refine g_iconst hC (v := (0 : Int32)) dX8_ones_0 (by decide) ?_
  refine g_istore_n hC (lv' := [(0, .int a1), (1, .int (0 : Int32))]) [1, 0] dX8_ones_1 rfl (by decide) rfl ?_
  refine g_iconst hC (v := (0 : Int32)) dX8_ones_2 (by decide) ?_
  refine g_istore_n hC (lv' := [(0, .int a1), (1, .int (0 : Int32)), (2, .int (0 : Int32))]) [1, 2, 0] dX8_ones_3 rfl (by decide) rfl ?_
  refine g_fx2 (fun (p1 : Int32) (p2 : Int32) => [(0, .int a1), (1, .int p1), (2, .int p2)]) (fun (p1 : Int32) (p2 : Int32) => M) (fun rec3 hrec3 p1 p2 => ?_) F _ _
  show GG x f 3 (Qm x f (φI M)) 4 [(0, .int a1), (1, .int p1), (2, .int p2)] [] M _
  unfold sX8_ones_L4
  refine g_iload_n hC 2 dX8_ones_4 rfl rfl ?_
  refine g_bipush hC (v := (10 : Int32)) dX8_ones_5 (by decide) ?_
  refine g_icmp_ge hC 24 dX8_ones_7 (by decide) ?_ ?_
  · refine g_iload_n hC 1 dX8_ones_24 rfl rfl ?_
    exact g_iret hC hm rfl dX8_ones_25
  · refine g_iload_n hC 1 dX8_ones_10 rfl rfl ?_
    refine g_iload_n hC 0 dX8_ones_11 rfl rfl ?_
    refine g_iload_n hC 2 dX8_ones_12 rfl rfl ?_
    refine g_ishr hC dX8_ones_13 ?_
    refine g_iconst hC (v := (1 : Int32)) dX8_ones_14 (by decide) ?_
    refine g_iand hC dX8_ones_15 ?_
    refine g_iadd hC dX8_ones_16 ?_
    refine g_top (fun v4 => ?_)
    show GG x f 3 (Qm x f (φI M)) 17 [(0, .int a1), (1, .int p1), (2, .int p2)] [.int v4] M _
    refine g_istore_n hC (lv' := [(0, .int a1), (1, .int v4), (2, .int p2)]) [1, 0, 2] dX8_ones_17 rfl (by decide) rfl ?_
    refine g_iinc hC (q := 2) (v := (1 : Int32)) (lv' := [(0, .int a1), (1, .int v4), (2, .int (p2 + (1 : Int32)))]) [1, 2, 0] dX8_ones_18 rfl (by decide) (by decide) rfl ?_
    refine g_goto hC 4 dX8_ones_21 (by decide) ?_
    exact hrec3 v4 (p2 + (1 : Int32))
def sX8_cannotOf_L71 (F : Nat) (r1 : (Int32 × Mem)) (M2 : Mem) (p8 : Int32) (J13 : Int32 → Option (Int32 × Mem)) (rec18 : Int32 → Int32 → Option (Int32 × Mem)) (p16 : Int32) (p17 : Int32) : Option (Int32 × Mem) :=
if r1.1 < p17 then
(J13 p16)
else
(if p16 = 0 then
(J13 p16)
else
(ib p17 1024 (
nm (fun (q19 : Int32) =>
rec18 q19 (p17 + (1 : Int32))) (fun J20 =>
if ((M2 44 (ix p17)) &&& p8) = 0 then
(J20 (0 : Int32))
else
(J20 (1 : Int32))))))
def sX8_cannotOf_L38 (F : Nat) (r1 : (Int32 × Mem)) (M2 : Mem) (J5 : Int32 → Option (Int32 × Mem)) (rec9 : Int32 → Int32 → Option (Int32 × Mem)) (p7 : Int32) (p8 : Int32) : Option (Int32 × Mem) :=
if r1.1 < p8 then
(J5 p7)
else
(nm (fun (q10 : Int32) =>
nm (fun (p12 : Int32) =>
nm (fun (q14 : Int32) =>
rec9 q14 (p8 + (1 : Int32))) (fun J15 =>
if p12 = 0 then
(J15 p7)
else
(J15 p8))) (fun J13 =>
fx2 F (sX8_cannotOf_L71 F r1 M2 p8 J13) q10 (0 : Int32))) (fun J11 =>
nm (J11 (1 : Int32)) (fun J21 =>
if p7 = (-1 : Int32) then
(J21)
else
((sX8_ones F p8 M2).bind (fun r22 =>
(sX8_ones F p7 M2).bind (fun r23 =>
if r23 ≤ r22 then
(J11 (0 : Int32))
else
(J21)))))))
def sX8_cannotOf_L7 (F : Nat) (r1 : (Int32 × Mem)) (J3 : Mem → Option (Int32 × Mem)) (rec26 : Int32 → Mem → Option (Int32 × Mem)) (p24 : Int32) (M25 : Mem) : Option (Int32 × Mem) :=
if r1.1 < p24 then
(J3 M25)
else
((sX8_brokenBy F p24 (M25 37 9) M25).bind (fun r27 =>
ib p24 1024 (
nm (st2 M25 44 (ix p24) r27) (fun M28 =>
rec26 (p24 + (1 : Int32)) M28))))
def sX8_cannotOf (F : Nat) (a1 : Int32) (M : Mem) : Option (Int32 × Mem) :=
(sX8_there F M).bind (fun r1 =>
nm (fun (M2 : Mem) =>
nm (fun (p4 : Int32) =>
if p4 = (-1 : Int32) then
(some (p4, M2))
else
(if ¬ a1 = (1 : Int32) then
((sX8_ones F p4 M2).bind (fun r6 =>
some (r6, M2)))
else
(some (p4, M2)))) (fun J5 =>
fx2 F (sX8_cannotOf_L38 F r1 M2 J5) (-1 : Int32) (0 : Int32))) (fun J3 =>
fx2 F (sX8_cannotOf_L7 F r1 J3) (0 : Int32) r1.2))
theorem mvX8_cannotOf : MV yX8_cannotOf cX8_cannotOf 7 (some .int) 1 := ⟨⟨m_1125, m_76, by decide, by decide, by decide⟩, m_1124, m_42⟩
set_option maxHeartbeats 4000000 in
set_option maxRecDepth 100000 in
theorem ctX8_cannotOf (x : Wx) (F : Nat) (a1 : Int32) (M : Mem) : Ct x yX8_cannotOf cX8_cannotOf 7 (some .int) { frames := 7, cells := 0, slots := 0, locals := 164 } φIM [.ref (x.1 37), .int a1] M (sX8_cannotOf F a1 M) := by
  refine ct_of (by decide) (Nat.le_of_ble_eq_true rfl) (fun f hC hm => ?_)
  have hC : Cx x f "AnswersFirstModel" cX8_cannotOf 7 { frames := 7, cells := 0, slots := 0, locals := 164 } := hC
  show GG x f 7 (Qm x f φIM) 0 [(0, .ref (x.1 37)), (1, .int a1)] [] M _
  unfold sX8_cannotOf
  refine g_aload_n hC 0 dX8_cannotOf_0 rfl rfl ?_
  refine g_callv hC (st := []) (c := 8) rfl (by decide) rfl (ctX8_there x F M) mvX8_there m_1079 (by decide) rfl rfl (Nat.le_of_ble_eq_true rfl) dX8_cannotOf_1 (fun r1 => ?_)
  show GG x f 7 (Qm x f φIM) 4 [(0, .ref (x.1 37)), (1, .int a1)] [.int (r1.1)] r1.2 _
  refine g_istore_n hC (lv' := [(0, .ref (x.1 37)), (1, .int a1), (2, .int (r1.1))]) [1, 2, 0] dX8_cannotOf_4 rfl (by decide) rfl ?_
  refine g_iconst hC (v := (0 : Int32)) dX8_cannotOf_5 (by decide) ?_
  refine g_istore_n hC (lv' := [(0, .ref (x.1 37)), (1, .int a1), (2, .int (r1.1)), (3, .int (0 : Int32))]) [1, 2, 3, 0] dX8_cannotOf_6 rfl (by decide) rfl ?_
  refine g_nm (fun (J3 : Mem → Option (Int32 × Mem)) => ∀ (M2 : Mem), GG x f 7 (Qm x f φIM) 33 [(0, .ref (x.1 37)), (1, .int a1), (2, .int (r1.1))] [] M2 (J3 M2)) (fun M2 => ?_) (fun J3 hJ3 => ?_)
  · show GG x f 7 (Qm x f φIM) 33 [(0, .ref (x.1 37)), (1, .int a1), (2, .int (r1.1))] [] M2 _
    refine g_iconst hC (v := (-1 : Int32)) dX8_cannotOf_33 (by decide) ?_
    refine g_istore_n hC (lv' := [(0, .ref (x.1 37)), (1, .int a1), (2, .int (r1.1)), (3, .int (-1 : Int32))]) [1, 2, 3, 0] dX8_cannotOf_34 rfl (by decide) rfl ?_
    refine g_iconst hC (v := (0 : Int32)) dX8_cannotOf_35 (by decide) ?_
    refine g_istore hC (lv' := [(0, .ref (x.1 37)), (1, .int a1), (2, .int (r1.1)), (3, .int (-1 : Int32)), (4, .int (0 : Int32))]) [1, 2, 3, 4, 0] dX8_cannotOf_36 (by decide) rfl ?_
    refine g_nm (fun (J5 : Int32 → Option (Int32 × Mem)) => ∀ (p4 : Int32), GG x f 7 (Qm x f φIM) 126 [(1, .int a1), (3, .int p4)] [] M2 (J5 p4)) (fun p4 => ?_) (fun J5 hJ5 => ?_)
    · show GG x f 7 (Qm x f φIM) 126 [(1, .int a1), (3, .int p4)] [] M2 _
      refine g_iload_n hC 1 dX8_cannotOf_126 rfl rfl ?_
      refine g_iconst hC (v := (-1 : Int32)) dX8_cannotOf_127 (by decide) ?_
      refine g_icmp_eq hC 136 dX8_cannotOf_128 (by decide) ?_ ?_
      · refine g_iload_n hC 1 dX8_cannotOf_136 rfl rfl ?_
        refine g_goto hC 144 dX8_cannotOf_137 (by decide) ?_
        exact g_iret hC hm rfl dX8_cannotOf_144
      · refine g_iload_n hC 0 dX8_cannotOf_131 rfl rfl ?_
        refine g_iconst hC (v := (1 : Int32)) dX8_cannotOf_132 (by decide) ?_
        refine g_icmp_ne hC 140 dX8_cannotOf_133 (by decide) ?_ ?_
        · refine g_iload_n hC 1 dX8_cannotOf_140 rfl rfl ?_
          refine g_calls hC (st := []) (ctX8_ones x F p4 M2) msX8_ones m_1126 (by decide) rfl rfl (Nat.le_of_ble_eq_true rfl) dX8_cannotOf_141 (fun r6 => ?_)
          show GG x f 7 (Qm x f φIM) 144 [(1, .int a1), (3, .int p4)] [.int r6] M2 _
          exact g_iret hC hm rfl dX8_cannotOf_144
        · refine g_iload_n hC 1 dX8_cannotOf_136 rfl rfl ?_
          refine g_goto hC 144 dX8_cannotOf_137 (by decide) ?_
          exact g_iret hC hm rfl dX8_cannotOf_144
    refine g_fx2 (fun (p7 : Int32) (p8 : Int32) => [(0, .ref (x.1 37)), (1, .int a1), (2, .int (r1.1)), (3, .int p7), (4, .int p8)]) (fun (p7 : Int32) (p8 : Int32) => M2) (fun rec9 hrec9 p7 p8 => ?_) F _ _
    show GG x f 7 (Qm x f φIM) 38 [(0, .ref (x.1 37)), (1, .int a1), (2, .int (r1.1)), (3, .int p7), (4, .int p8)] [] M2 _
    unfold sX8_cannotOf_L38
    refine g_iload hC 4 dX8_cannotOf_38 rfl ?_
    refine g_iload_n hC 2 dX8_cannotOf_40 rfl rfl ?_
    refine g_icmp_gt hC 126 dX8_cannotOf_41 (by decide) ?_ ?_
    · refine g_lv (lv' := [(1, .int a1), (3, .int p7)]) [1, 3] rfl ?_
      exact hJ5 p7
    · refine g_iload_n hC 3 dX8_cannotOf_44 rfl rfl ?_
      refine g_iconst hC (v := (-1 : Int32)) dX8_cannotOf_45 (by decide) ?_
      refine g_nm (fun (J11 : Int32 → Option (Int32 × Mem)) => ∀ (q10 : Int32), GG x f 7 (Qm x f φIM) 66 [(0, .ref (x.1 37)), (1, .int a1), (2, .int (r1.1)), (3, .int p7), (4, .int p8)] [.int q10] M2 (J11 q10)) (fun q10 => ?_) (fun J11 hJ11 => ?_)
      · show GG x f 7 (Qm x f φIM) 66 [(0, .ref (x.1 37)), (1, .int a1), (2, .int (r1.1)), (3, .int p7), (4, .int p8)] [.int q10] M2 _
        refine g_istore hC (lv' := [(0, .ref (x.1 37)), (1, .int a1), (2, .int (r1.1)), (3, .int p7), (4, .int p8), (5, .int q10)]) [1, 2, 3, 4, 5, 0] dX8_cannotOf_66 (by decide) rfl ?_
        refine g_iconst hC (v := (0 : Int32)) dX8_cannotOf_68 (by decide) ?_
        refine g_istore hC (lv' := [(0, .ref (x.1 37)), (1, .int a1), (2, .int (r1.1)), (3, .int p7), (4, .int p8), (5, .int q10), (6, .int (0 : Int32))]) [1, 2, 3, 4, 5, 6, 0] dX8_cannotOf_69 (by decide) rfl ?_
        refine g_nm (fun (J13 : Int32 → Option (Int32 × Mem)) => ∀ (p12 : Int32), GG x f 7 (Qm x f φIM) 108 [(0, .ref (x.1 37)), (1, .int a1), (2, .int (r1.1)), (3, .int p7), (4, .int p8), (5, .int p12)] [] M2 (J13 p12)) (fun p12 => ?_) (fun J13 hJ13 => ?_)
        · show GG x f 7 (Qm x f φIM) 108 [(0, .ref (x.1 37)), (1, .int a1), (2, .int (r1.1)), (3, .int p7), (4, .int p8), (5, .int p12)] [] M2 _
          refine g_iload hC 5 dX8_cannotOf_108 rfl ?_
          refine g_nm (fun (J15 : Int32 → Option (Int32 × Mem)) => ∀ (q14 : Int32), GG x f 7 (Qm x f φIM) 119 [(0, .ref (x.1 37)), (1, .int a1), (2, .int (r1.1)), (4, .int p8)] [.int q14] M2 (J15 q14)) (fun q14 => ?_) (fun J15 hJ15 => ?_)
          · show GG x f 7 (Qm x f φIM) 119 [(0, .ref (x.1 37)), (1, .int a1), (2, .int (r1.1)), (4, .int p8)] [.int q14] M2 _
            refine g_istore_n hC (lv' := [(0, .ref (x.1 37)), (1, .int a1), (2, .int (r1.1)), (3, .int q14), (4, .int p8)]) [1, 2, 3, 0, 4] dX8_cannotOf_119 rfl (by decide) rfl ?_
            refine g_iinc hC (q := 4) (v := (1 : Int32)) (lv' := [(0, .ref (x.1 37)), (1, .int a1), (2, .int (r1.1)), (3, .int q14), (4, .int (p8 + (1 : Int32)))]) [1, 2, 3, 4, 0] dX8_cannotOf_120 rfl (by decide) (by decide) rfl ?_
            refine g_goto hC 38 dX8_cannotOf_123 (by decide) ?_
            exact hrec9 q14 (p8 + (1 : Int32))
          refine g_if_eq hC 118 dX8_cannotOf_110 (by decide) ?_ ?_
          · refine g_iload_n hC 3 dX8_cannotOf_118 rfl rfl ?_
            refine g_lv (lv' := [(0, .ref (x.1 37)), (1, .int a1), (2, .int (r1.1)), (4, .int p8)]) [0, 1, 2, 4] rfl ?_
            exact hJ15 p7
          · refine g_iload hC 4 dX8_cannotOf_113 rfl ?_
            refine g_goto hC 119 dX8_cannotOf_115 (by decide) ?_
            refine g_lv (lv' := [(0, .ref (x.1 37)), (1, .int a1), (2, .int (r1.1)), (4, .int p8)]) [0, 1, 2, 4] rfl ?_
            exact hJ15 p8
        refine g_fx2 (fun (p16 : Int32) (p17 : Int32) => [(0, .ref (x.1 37)), (1, .int a1), (2, .int (r1.1)), (3, .int p7), (4, .int p8), (5, .int p16), (6, .int p17)]) (fun (p16 : Int32) (p17 : Int32) => M2) (fun rec18 hrec18 p16 p17 => ?_) F _ _
        show GG x f 7 (Qm x f φIM) 71 [(0, .ref (x.1 37)), (1, .int a1), (2, .int (r1.1)), (3, .int p7), (4, .int p8), (5, .int p16), (6, .int p17)] [] M2 _
        unfold sX8_cannotOf_L71
        refine g_iload hC 6 dX8_cannotOf_71 rfl ?_
        refine g_iload_n hC 2 dX8_cannotOf_73 rfl rfl ?_
        refine g_icmp_gt hC 108 dX8_cannotOf_74 (by decide) ?_ ?_
        · refine g_lv (lv' := [(0, .ref (x.1 37)), (1, .int a1), (2, .int (r1.1)), (3, .int p7), (4, .int p8), (5, .int p16)]) [0, 1, 2, 3, 4, 5] rfl ?_
          exact hJ13 p16
        · refine g_iload hC 5 dX8_cannotOf_77 rfl ?_
          refine g_if_eq hC 108 dX8_cannotOf_79 (by decide) ?_ ?_
          · refine g_lv (lv' := [(0, .ref (x.1 37)), (1, .int a1), (2, .int (r1.1)), (3, .int p7), (4, .int p8), (5, .int p16)]) [0, 1, 2, 3, 4, 5] rfl ?_
            exact hJ13 p16
          · refine g_aload_n hC 0 dX8_cannotOf_82 rfl rfl ?_
            refine g_getR hC cf8 (t := 44) rfl 11 (by decide) rfl m_920 dX8_cannotOf_83 ?_
            refine g_iload hC 6 dX8_cannotOf_86 rfl ?_
            refine g_iald hC rfl rfl dX8_cannotOf_88 ?_
            refine g_iload hC 4 dX8_cannotOf_89 rfl ?_
            refine g_iand hC dX8_cannotOf_91 ?_
            refine g_nm (fun (J20 : Int32 → Option (Int32 × Mem)) => ∀ (q19 : Int32), GG x f 7 (Qm x f φIM) 100 [(0, .ref (x.1 37)), (1, .int a1), (2, .int (r1.1)), (3, .int p7), (4, .int p8), (6, .int p17)] [.int q19] M2 (J20 q19)) (fun q19 => ?_) (fun J20 hJ20 => ?_)
            · show GG x f 7 (Qm x f φIM) 100 [(0, .ref (x.1 37)), (1, .int a1), (2, .int (r1.1)), (3, .int p7), (4, .int p8), (6, .int p17)] [.int q19] M2 _
              refine g_istore hC (lv' := [(0, .ref (x.1 37)), (1, .int a1), (2, .int (r1.1)), (3, .int p7), (4, .int p8), (5, .int q19), (6, .int p17)]) [1, 2, 3, 4, 5, 0, 6] dX8_cannotOf_100 (by decide) rfl ?_
              refine g_iinc hC (q := 6) (v := (1 : Int32)) (lv' := [(0, .ref (x.1 37)), (1, .int a1), (2, .int (r1.1)), (3, .int p7), (4, .int p8), (5, .int q19), (6, .int (p17 + (1 : Int32)))]) [1, 2, 3, 4, 5, 6, 0] dX8_cannotOf_102 rfl (by decide) (by decide) rfl ?_
              refine g_goto hC 71 dX8_cannotOf_105 (by decide) ?_
              exact hrec18 q19 (p17 + (1 : Int32))
            refine g_if_eq hC 99 dX8_cannotOf_92 (by decide) ?_ ?_
            · refine g_iconst hC (v := (0 : Int32)) dX8_cannotOf_99 (by decide) ?_
              refine g_lv (lv' := [(0, .ref (x.1 37)), (1, .int a1), (2, .int (r1.1)), (3, .int p7), (4, .int p8), (6, .int p17)]) [0, 1, 2, 3, 4, 6] rfl ?_
              exact hJ20 (0 : Int32)
            · refine g_iconst hC (v := (1 : Int32)) dX8_cannotOf_95 (by decide) ?_
              refine g_goto hC 100 dX8_cannotOf_96 (by decide) ?_
              refine g_lv (lv' := [(0, .ref (x.1 37)), (1, .int a1), (2, .int (r1.1)), (3, .int p7), (4, .int p8), (6, .int p17)]) [0, 1, 2, 3, 4, 6] rfl ?_
              exact hJ20 (1 : Int32)
      refine g_nm (fun (J21 : Option (Int32 × Mem)) => GG x f 7 (Qm x f φIM) 61 [(0, .ref (x.1 37)), (1, .int a1), (2, .int (r1.1)), (3, .int p7), (4, .int p8)] [] M2 J21) ?_ (fun J21 hJ21 => ?_)
      · show GG x f 7 (Qm x f φIM) 61 [(0, .ref (x.1 37)), (1, .int a1), (2, .int (r1.1)), (3, .int p7), (4, .int p8)] [] M2 _
        refine g_iconst hC (v := (1 : Int32)) dX8_cannotOf_61 (by decide) ?_
        refine g_goto hC 66 dX8_cannotOf_62 (by decide) ?_
        exact hJ11 (1 : Int32)
      refine g_icmp_eq hC 61 dX8_cannotOf_46 (by decide) ?_ ?_
      · exact hJ21
      · refine g_iload hC 4 dX8_cannotOf_49 rfl ?_
        refine g_calls hC (st := []) (ctX8_ones x F p8 M2) msX8_ones m_1126 (by decide) rfl rfl (Nat.le_of_ble_eq_true rfl) dX8_cannotOf_51 (fun r22 => ?_)
        show GG x f 7 (Qm x f φIM) 54 [(0, .ref (x.1 37)), (1, .int a1), (2, .int (r1.1)), (3, .int p7), (4, .int p8)] [.int r22] M2 _
        refine g_iload_n hC 3 dX8_cannotOf_54 rfl rfl ?_
        refine g_calls hC (st := [.int r22]) (ctX8_ones x F p7 M2) msX8_ones m_1126 (by decide) rfl rfl (Nat.le_of_ble_eq_true rfl) dX8_cannotOf_55 (fun r23 => ?_)
        show GG x f 7 (Qm x f φIM) 58 [(0, .ref (x.1 37)), (1, .int a1), (2, .int (r1.1)), (3, .int p7), (4, .int p8)] [.int r23, .int r22] M2 _
        refine g_icmp_ge hC 65 dX8_cannotOf_58 (by decide) ?_ ?_
        · refine g_iconst hC (v := (0 : Int32)) dX8_cannotOf_65 (by decide) ?_
          exact hJ11 (0 : Int32)
        · exact hJ21
  refine g_fx2 (fun (p24 : Int32) (M25 : Mem) => [(0, .ref (x.1 37)), (1, .int a1), (2, .int (r1.1)), (3, .int p24)]) (fun (p24 : Int32) (M25 : Mem) => M25) (fun rec26 hrec26 p24 M25 => ?_) F _ _
  show GG x f 7 (Qm x f φIM) 7 [(0, .ref (x.1 37)), (1, .int a1), (2, .int (r1.1)), (3, .int p24)] [] M25 _
  unfold sX8_cannotOf_L7
  refine g_iload_n hC 3 dX8_cannotOf_7 rfl rfl ?_
  refine g_iload_n hC 2 dX8_cannotOf_8 rfl rfl ?_
  refine g_icmp_gt hC 33 dX8_cannotOf_9 (by decide) ?_ ?_
  · refine g_lv (lv' := [(0, .ref (x.1 37)), (1, .int a1), (2, .int (r1.1))]) [0, 1, 2] rfl ?_
    exact hJ3 M25
  · refine g_aload_n hC 0 dX8_cannotOf_12 rfl rfl ?_
    refine g_getR hC cf8 (t := 44) rfl 11 (by decide) rfl m_920 dX8_cannotOf_13 ?_
    refine g_iload_n hC 3 dX8_cannotOf_16 rfl rfl ?_
    refine g_aload_n hC 0 dX8_cannotOf_17 rfl rfl ?_
    refine g_iload_n hC 3 dX8_cannotOf_18 rfl rfl ?_
    refine g_aload_n hC 0 dX8_cannotOf_19 rfl rfl ?_
    refine g_getI hC cf8 rfl 9 (by decide) rfl m_918 dX8_cannotOf_20 ?_
    refine g_callv hC (st := [.int p24, .ref (x.1 44)]) (c := 8) rfl (by decide) rfl (ctX8_brokenBy x F p24 (M25 37 9) M25) mvX8_brokenBy m_1083 (by decide) rfl rfl (Nat.le_of_ble_eq_true rfl) dX8_cannotOf_23 (fun r27 => ?_)
    show GG x f 7 (Qm x f φIM) 26 [(0, .ref (x.1 37)), (1, .int a1), (2, .int (r1.1)), (3, .int p24)] [.int r27, .int p24, .ref (x.1 44)] M25 _
    refine g_iast hC rfl rfl dX8_cannotOf_26 (fun M28 => ?_)
    show GG x f 7 (Qm x f φIM) 27 [(0, .ref (x.1 37)), (1, .int a1), (2, .int (r1.1)), (3, .int p24)] [] M28 _
    refine g_iinc hC (q := 3) (v := (1 : Int32)) (lv' := [(0, .ref (x.1 37)), (1, .int a1), (2, .int (r1.1)), (3, .int (p24 + (1 : Int32)))]) [1, 2, 3, 0] dX8_cannotOf_27 rfl (by decide) (by decide) rfl ?_
    refine g_goto hC 7 dX8_cannotOf_30 (by decide) ?_
    exact hrec26 (p24 + (1 : Int32)) M28
def sX8_cannot (F : Nat) (a1 : Int32) (M : Mem) : Option (Int32 × Mem) :=
(sX8_in F a1 (0 : Int32) (1 : Int32) M).bind (fun r1 =>
if r1 = true then
((sX8_cannotOf F a1 M).bind (fun r2 =>
some (r2.1, r2.2)))
else
(some ((-2 : Int32), M)))
theorem mvX8_cannot : MV yX8_cannot cX8_cannot 2 (some .int) 1 := ⟨⟨m_1121, m_76, by decide, by decide, by decide⟩, m_1119, m_1120⟩
set_option maxHeartbeats 4000000 in
set_option maxRecDepth 100000 in
theorem ctX8_cannot (x : Wx) (F : Nat) (a1 : Int32) (M : Mem) : Ct x yX8_cannot cX8_cannot 2 (some .int) { frames := 8, cells := 0, slots := 0, locals := 190 } φIM [.ref (x.1 37), .int a1] M (sX8_cannot F a1 M) := by
  refine ct_of (by decide) (Nat.le_of_ble_eq_true rfl) (fun f hC hm => ?_)
  have hC : Cx x f "AnswersFirstModel" cX8_cannot 2 { frames := 8, cells := 0, slots := 0, locals := 190 } := hC
  show GG x f 2 (Qm x f φIM) 0 [(0, .ref (x.1 37)), (1, .int a1)] [] M _
  unfold sX8_cannot
  refine g_iload_n hC 1 dX8_cannot_0 rfl rfl ?_
  refine g_iconst hC (v := (0 : Int32)) dX8_cannot_1 (by decide) ?_
  refine g_iconst hC (v := (1 : Int32)) dX8_cannot_2 (by decide) ?_
  refine g_calls hC (st := []) (ctX8_in x F a1 (0 : Int32) (1 : Int32) M) msX8_in m_987 (by decide) rfl rfl (Nat.le_of_ble_eq_true rfl) dX8_cannot_3 (fun r1 => ?_)
  show GG x f 2 (Qm x f φIM) 6 [(0, .ref (x.1 37)), (1, .int a1)] [.int (bi r1)] M _
  refine g_ifB_eq hC 17 dX8_cannot_6 (by decide) ?_ ?_
  · refine g_aload_n hC 0 dX8_cannot_9 rfl rfl ?_
    refine g_iload_n hC 1 dX8_cannot_10 rfl rfl ?_
    refine g_callv hC (st := []) (c := 8) rfl (by decide) rfl (ctX8_cannotOf x F a1 M) mvX8_cannotOf m_1122 (by decide) rfl rfl (Nat.le_of_ble_eq_true rfl) dX8_cannot_11 (fun r2 => ?_)
    show GG x f 2 (Qm x f φIM) 14 [(0, .ref (x.1 37)), (1, .int a1)] [.int (r2.1)] r2.2 _
    refine g_goto hC 19 dX8_cannot_14 (by decide) ?_
    exact g_iret hC hm rfl dX8_cannot_19
  · refine g_bipush hC (v := (-2 : Int32)) dX8_cannot_17 (by decide) ?_
    exact g_iret hC hm rfl dX8_cannot_19
def sX8_freedOf_L10 (F : Nat) (r1 : (Int32 × Mem)) (J3 : Int32 → Option (Int32 × Mem)) (rec7 : Int32 → Int32 → Option (Int32 × Mem)) (p5 : Int32) (p6 : Int32) : Option (Int32 × Mem) :=
if r1.1 < p6 then
(J3 p5)
else
((sX8_brokenBy F p6 (r1.2 37 9) r1.2).bind (fun r8 =>
(sX8_ones F r8 r1.2).bind (fun r9 =>
(sX8_ones F p5 r1.2).bind (fun r10 =>
nm (fun (q11 : Int32) =>
nm (fun (q13 : Int32) =>
rec7 q13 (p6 + (1 : Int32))) (fun J14 =>
if q11 = 0 then
(J14 p5)
else
(J14 r8))) (fun J12 =>
nm (J12 (1 : Int32)) (fun J15 =>
if r9 < r10 then
(J15)
else
((sX8_ones F r8 r1.2).bind (fun r16 =>
(sX8_ones F p5 r1.2).bind (fun r17 =>
nm (J12 (0 : Int32)) (fun J18 =>
if ¬ r16 = r17 then
(J18)
else
(if p5 ≤ r8 then
(J18)
else
(J15))))))))))))
def sX8_freedOf (F : Nat) (a1 : Int32) (M : Mem) : Option (Int32 × Mem) :=
(sX8_there F M).bind (fun r1 =>
nm (fun (p2 : Int32) =>
if ¬ a1 = 0 then
(some (p2, r1.2))
else
((sX8_ones F p2 r1.2).bind (fun r4 =>
some (r4, r1.2)))) (fun J3 =>
fx2 F (sX8_freedOf_L10 F r1 J3) r1.1 (0 : Int32)))
theorem mvX8_freedOf : MV yX8_freedOf cX8_freedOf 7 (some .int) 1 := ⟨⟨m_1136, m_76, by decide, by decide, by decide⟩, m_1135, m_43⟩
set_option maxHeartbeats 4000000 in
set_option maxRecDepth 100000 in
theorem ctX8_freedOf (x : Wx) (F : Nat) (a1 : Int32) (M : Mem) : Ct x yX8_freedOf cX8_freedOf 7 (some .int) { frames := 7, cells := 0, slots := 0, locals := 164 } φIM [.ref (x.1 37), .int a1] M (sX8_freedOf F a1 M) := by
  refine ct_of (by decide) (Nat.le_of_ble_eq_true rfl) (fun f hC hm => ?_)
  have hC : Cx x f "AnswersFirstModel" cX8_freedOf 7 { frames := 7, cells := 0, slots := 0, locals := 164 } := hC
  show GG x f 7 (Qm x f φIM) 0 [(0, .ref (x.1 37)), (1, .int a1)] [] M _
  unfold sX8_freedOf
  refine g_aload_n hC 0 dX8_freedOf_0 rfl rfl ?_
  refine g_callv hC (st := []) (c := 8) rfl (by decide) rfl (ctX8_there x F M) mvX8_there m_1079 (by decide) rfl rfl (Nat.le_of_ble_eq_true rfl) dX8_freedOf_1 (fun r1 => ?_)
  show GG x f 7 (Qm x f φIM) 4 [(0, .ref (x.1 37)), (1, .int a1)] [.int (r1.1)] r1.2 _
  refine g_istore_n hC (lv' := [(0, .ref (x.1 37)), (1, .int a1), (2, .int (r1.1))]) [1, 2, 0] dX8_freedOf_4 rfl (by decide) rfl ?_
  refine g_iload_n hC 2 dX8_freedOf_5 rfl rfl ?_
  refine g_istore_n hC (lv' := [(0, .ref (x.1 37)), (1, .int a1), (2, .int (r1.1)), (3, .int (r1.1))]) [1, 2, 3, 0] dX8_freedOf_6 rfl (by decide) rfl ?_
  refine g_iconst hC (v := (0 : Int32)) dX8_freedOf_7 (by decide) ?_
  refine g_istore hC (lv' := [(0, .ref (x.1 37)), (1, .int a1), (2, .int (r1.1)), (3, .int (r1.1)), (4, .int (0 : Int32))]) [1, 2, 3, 4, 0] dX8_freedOf_8 (by decide) rfl ?_
  refine g_nm (fun (J3 : Int32 → Option (Int32 × Mem)) => ∀ (p2 : Int32), GG x f 7 (Qm x f φIM) 83 [(1, .int a1), (3, .int p2)] [] r1.2 (J3 p2)) (fun p2 => ?_) (fun J3 hJ3 => ?_)
  · show GG x f 7 (Qm x f φIM) 83 [(1, .int a1), (3, .int p2)] [] r1.2 _
    refine g_iload_n hC 0 dX8_freedOf_83 rfl rfl ?_
    refine g_if_ne hC 94 dX8_freedOf_84 (by decide) ?_ ?_
    · refine g_iload_n hC 1 dX8_freedOf_94 rfl rfl ?_
      exact g_iret hC hm rfl dX8_freedOf_95
    · refine g_iload_n hC 1 dX8_freedOf_87 rfl rfl ?_
      refine g_calls hC (st := []) (ctX8_ones x F p2 r1.2) msX8_ones m_1126 (by decide) rfl rfl (Nat.le_of_ble_eq_true rfl) dX8_freedOf_88 (fun r4 => ?_)
      show GG x f 7 (Qm x f φIM) 91 [(1, .int a1), (3, .int p2)] [.int r4] r1.2 _
      refine g_goto hC 95 dX8_freedOf_91 (by decide) ?_
      exact g_iret hC hm rfl dX8_freedOf_95
  refine g_fx2 (fun (p5 : Int32) (p6 : Int32) => [(0, .ref (x.1 37)), (1, .int a1), (2, .int (r1.1)), (3, .int p5), (4, .int p6)]) (fun (p5 : Int32) (p6 : Int32) => r1.2) (fun rec7 hrec7 p5 p6 => ?_) F _ _
  show GG x f 7 (Qm x f φIM) 10 [(0, .ref (x.1 37)), (1, .int a1), (2, .int (r1.1)), (3, .int p5), (4, .int p6)] [] r1.2 _
  unfold sX8_freedOf_L10
  refine g_iload hC 4 dX8_freedOf_10 rfl ?_
  refine g_iload_n hC 2 dX8_freedOf_12 rfl rfl ?_
  refine g_icmp_gt hC 83 dX8_freedOf_13 (by decide) ?_ ?_
  · refine g_lv (lv' := [(1, .int a1), (3, .int p5)]) [1, 3] rfl ?_
    exact hJ3 p5
  · refine g_aload_n hC 0 dX8_freedOf_16 rfl rfl ?_
    refine g_iload hC 4 dX8_freedOf_17 rfl ?_
    refine g_aload_n hC 0 dX8_freedOf_19 rfl rfl ?_
    refine g_getI hC cf8 rfl 9 (by decide) rfl m_918 dX8_freedOf_20 ?_
    refine g_callv hC (st := []) (c := 8) rfl (by decide) rfl (ctX8_brokenBy x F p6 (r1.2 37 9) r1.2) mvX8_brokenBy m_1083 (by decide) rfl rfl (Nat.le_of_ble_eq_true rfl) dX8_freedOf_23 (fun r8 => ?_)
    show GG x f 7 (Qm x f φIM) 26 [(0, .ref (x.1 37)), (1, .int a1), (2, .int (r1.1)), (3, .int p5), (4, .int p6)] [.int r8] r1.2 _
    refine g_istore hC (lv' := [(0, .ref (x.1 37)), (1, .int a1), (2, .int (r1.1)), (3, .int p5), (4, .int p6), (5, .int r8)]) [1, 2, 3, 4, 5, 0] dX8_freedOf_26 (by decide) rfl ?_
    refine g_iload hC 5 dX8_freedOf_28 rfl ?_
    refine g_calls hC (st := []) (ctX8_ones x F r8 r1.2) msX8_ones m_1126 (by decide) rfl rfl (Nat.le_of_ble_eq_true rfl) dX8_freedOf_30 (fun r9 => ?_)
    show GG x f 7 (Qm x f φIM) 33 [(0, .ref (x.1 37)), (1, .int a1), (2, .int (r1.1)), (3, .int p5), (4, .int p6), (5, .int r8)] [.int r9] r1.2 _
    refine g_iload_n hC 3 dX8_freedOf_33 rfl rfl ?_
    refine g_calls hC (st := [.int r9]) (ctX8_ones x F p5 r1.2) msX8_ones m_1126 (by decide) rfl rfl (Nat.le_of_ble_eq_true rfl) dX8_freedOf_34 (fun r10 => ?_)
    show GG x f 7 (Qm x f φIM) 37 [(0, .ref (x.1 37)), (1, .int a1), (2, .int (r1.1)), (3, .int p5), (4, .int p6), (5, .int r8)] [.int r10, .int r9] r1.2 _
    refine g_nm (fun (J12 : Int32 → Option (Int32 × Mem)) => ∀ (q11 : Int32), GG x f 7 (Qm x f φIM) 63 [(0, .ref (x.1 37)), (1, .int a1), (2, .int (r1.1)), (3, .int p5), (4, .int p6), (5, .int r8)] [.int q11] r1.2 (J12 q11)) (fun q11 => ?_) (fun J12 hJ12 => ?_)
    · show GG x f 7 (Qm x f φIM) 63 [(0, .ref (x.1 37)), (1, .int a1), (2, .int (r1.1)), (3, .int p5), (4, .int p6), (5, .int r8)] [.int q11] r1.2 _
      refine g_istore hC (lv' := [(0, .ref (x.1 37)), (1, .int a1), (2, .int (r1.1)), (3, .int p5), (4, .int p6), (5, .int r8), (6, .int q11)]) [1, 2, 3, 4, 5, 6, 0] dX8_freedOf_63 (by decide) rfl ?_
      refine g_iload hC 6 dX8_freedOf_65 rfl ?_
      refine g_nm (fun (J14 : Int32 → Option (Int32 × Mem)) => ∀ (q13 : Int32), GG x f 7 (Qm x f φIM) 76 [(0, .ref (x.1 37)), (1, .int a1), (2, .int (r1.1)), (4, .int p6)] [.int q13] r1.2 (J14 q13)) (fun q13 => ?_) (fun J14 hJ14 => ?_)
      · show GG x f 7 (Qm x f φIM) 76 [(0, .ref (x.1 37)), (1, .int a1), (2, .int (r1.1)), (4, .int p6)] [.int q13] r1.2 _
        refine g_istore_n hC (lv' := [(0, .ref (x.1 37)), (1, .int a1), (2, .int (r1.1)), (3, .int q13), (4, .int p6)]) [1, 2, 3, 0, 4] dX8_freedOf_76 rfl (by decide) rfl ?_
        refine g_iinc hC (q := 4) (v := (1 : Int32)) (lv' := [(0, .ref (x.1 37)), (1, .int a1), (2, .int (r1.1)), (3, .int q13), (4, .int (p6 + (1 : Int32)))]) [1, 2, 3, 4, 0] dX8_freedOf_77 rfl (by decide) (by decide) rfl ?_
        refine g_goto hC 10 dX8_freedOf_80 (by decide) ?_
        exact hrec7 q13 (p6 + (1 : Int32))
      refine g_if_eq hC 75 dX8_freedOf_67 (by decide) ?_ ?_
      · refine g_iload_n hC 3 dX8_freedOf_75 rfl rfl ?_
        refine g_lv (lv' := [(0, .ref (x.1 37)), (1, .int a1), (2, .int (r1.1)), (4, .int p6)]) [0, 1, 2, 4] rfl ?_
        exact hJ14 p5
      · refine g_iload hC 5 dX8_freedOf_70 rfl ?_
        refine g_goto hC 76 dX8_freedOf_72 (by decide) ?_
        refine g_lv (lv' := [(0, .ref (x.1 37)), (1, .int a1), (2, .int (r1.1)), (4, .int p6)]) [0, 1, 2, 4] rfl ?_
        exact hJ14 r8
    refine g_nm (fun (J15 : Option (Int32 × Mem)) => GG x f 7 (Qm x f φIM) 58 [(0, .ref (x.1 37)), (1, .int a1), (2, .int (r1.1)), (3, .int p5), (4, .int p6), (5, .int r8)] [] r1.2 J15) ?_ (fun J15 hJ15 => ?_)
    · show GG x f 7 (Qm x f φIM) 58 [(0, .ref (x.1 37)), (1, .int a1), (2, .int (r1.1)), (3, .int p5), (4, .int p6), (5, .int r8)] [] r1.2 _
      refine g_iconst hC (v := (1 : Int32)) dX8_freedOf_58 (by decide) ?_
      refine g_goto hC 63 dX8_freedOf_59 (by decide) ?_
      exact hJ12 (1 : Int32)
    refine g_icmp_lt hC 58 dX8_freedOf_37 (by decide) ?_ ?_
    · exact hJ15
    · refine g_iload hC 5 dX8_freedOf_40 rfl ?_
      refine g_calls hC (st := []) (ctX8_ones x F r8 r1.2) msX8_ones m_1126 (by decide) rfl rfl (Nat.le_of_ble_eq_true rfl) dX8_freedOf_42 (fun r16 => ?_)
      show GG x f 7 (Qm x f φIM) 45 [(0, .ref (x.1 37)), (1, .int a1), (2, .int (r1.1)), (3, .int p5), (4, .int p6), (5, .int r8)] [.int r16] r1.2 _
      refine g_iload_n hC 3 dX8_freedOf_45 rfl rfl ?_
      refine g_calls hC (st := [.int r16]) (ctX8_ones x F p5 r1.2) msX8_ones m_1126 (by decide) rfl rfl (Nat.le_of_ble_eq_true rfl) dX8_freedOf_46 (fun r17 => ?_)
      show GG x f 7 (Qm x f φIM) 49 [(0, .ref (x.1 37)), (1, .int a1), (2, .int (r1.1)), (3, .int p5), (4, .int p6), (5, .int r8)] [.int r17, .int r16] r1.2 _
      refine g_nm (fun (J18 : Option (Int32 × Mem)) => GG x f 7 (Qm x f φIM) 62 [(0, .ref (x.1 37)), (1, .int a1), (2, .int (r1.1)), (3, .int p5), (4, .int p6), (5, .int r8)] [] r1.2 J18) ?_ (fun J18 hJ18 => ?_)
      · show GG x f 7 (Qm x f φIM) 62 [(0, .ref (x.1 37)), (1, .int a1), (2, .int (r1.1)), (3, .int p5), (4, .int p6), (5, .int r8)] [] r1.2 _
        refine g_iconst hC (v := (0 : Int32)) dX8_freedOf_62 (by decide) ?_
        exact hJ12 (0 : Int32)
      refine g_icmp_ne hC 62 dX8_freedOf_49 (by decide) ?_ ?_
      · exact hJ18
      · refine g_iload hC 5 dX8_freedOf_52 rfl ?_
        refine g_iload_n hC 3 dX8_freedOf_54 rfl rfl ?_
        refine g_icmp_ge hC 62 dX8_freedOf_55 (by decide) ?_ ?_
        · exact hJ18
        · exact hJ15
def sX8_freed (F : Nat) (a1 : Int32) (M : Mem) : Option (Int32 × Mem) :=
(sX8_in F a1 (0 : Int32) (1 : Int32) M).bind (fun r1 =>
if r1 = true then
((sX8_freedOf F a1 M).bind (fun r2 =>
some (r2.1, r2.2)))
else
(some ((-2 : Int32), M)))
theorem mvX8_freed : MV yX8_freed cX8_freed 2 (some .int) 1 := ⟨⟨m_1132, m_76, by decide, by decide, by decide⟩, m_1130, m_1131⟩
set_option maxHeartbeats 4000000 in
set_option maxRecDepth 100000 in
theorem ctX8_freed (x : Wx) (F : Nat) (a1 : Int32) (M : Mem) : Ct x yX8_freed cX8_freed 2 (some .int) { frames := 8, cells := 0, slots := 0, locals := 190 } φIM [.ref (x.1 37), .int a1] M (sX8_freed F a1 M) := by
  refine ct_of (by decide) (Nat.le_of_ble_eq_true rfl) (fun f hC hm => ?_)
  have hC : Cx x f "AnswersFirstModel" cX8_freed 2 { frames := 8, cells := 0, slots := 0, locals := 190 } := hC
  show GG x f 2 (Qm x f φIM) 0 [(0, .ref (x.1 37)), (1, .int a1)] [] M _
  unfold sX8_freed
  refine g_iload_n hC 1 dX8_freed_0 rfl rfl ?_
  refine g_iconst hC (v := (0 : Int32)) dX8_freed_1 (by decide) ?_
  refine g_iconst hC (v := (1 : Int32)) dX8_freed_2 (by decide) ?_
  refine g_calls hC (st := []) (ctX8_in x F a1 (0 : Int32) (1 : Int32) M) msX8_in m_987 (by decide) rfl rfl (Nat.le_of_ble_eq_true rfl) dX8_freed_3 (fun r1 => ?_)
  show GG x f 2 (Qm x f φIM) 6 [(0, .ref (x.1 37)), (1, .int a1)] [.int (bi r1)] M _
  refine g_ifB_eq hC 17 dX8_freed_6 (by decide) ?_ ?_
  · refine g_aload_n hC 0 dX8_freed_9 rfl rfl ?_
    refine g_iload_n hC 1 dX8_freed_10 rfl rfl ?_
    refine g_callv hC (st := []) (c := 8) rfl (by decide) rfl (ctX8_freedOf x F a1 M) mvX8_freedOf m_1133 (by decide) rfl rfl (Nat.le_of_ble_eq_true rfl) dX8_freed_11 (fun r2 => ?_)
    show GG x f 2 (Qm x f φIM) 14 [(0, .ref (x.1 37)), (1, .int a1)] [.int (r2.1)] r2.2 _
    refine g_goto hC 19 dX8_freed_14 (by decide) ?_
    exact g_iret hC hm rfl dX8_freed_19
  · refine g_bipush hC (v := (-2 : Int32)) dX8_freed_17 (by decide) ?_
    exact g_iret hC hm rfl dX8_freed_19
def sX8_isRow (F : Nat) (a1 : Int32) (M : Mem) : Option Bool :=
(sX8_in F a1 (0 : Int32) (1023 : Int32) M).bind (fun r1 =>
some r1)
theorem msX8_isRow : MS yX8_isRow cX8_isRow 1 (some .boolean) 1 := ⟨⟨m_1074, m_76, by decide, by decide, by decide⟩, m_1073⟩
set_option maxHeartbeats 4000000 in
set_option maxRecDepth 100000 in
theorem ctX8_isRow (x : Wx) (F : Nat) (a1 : Int32) (M : Mem) : Ct x yX8_isRow cX8_isRow 1 (some .boolean) { frames := 1, cells := 0, slots := 0, locals := 22 } (φB M) [.int a1] M (sX8_isRow F a1 M) := by
  refine ct_of (by decide) (Nat.le_of_ble_eq_true rfl) (fun f hC hm => ?_)
  have hC : Cx x f "AnswersFirstModel" cX8_isRow 1 { frames := 1, cells := 0, slots := 0, locals := 22 } := hC
  show GG x f 1 (Qm x f (φB M)) 0 [(0, .int a1)] [] M _
  unfold sX8_isRow
  refine g_iload_n hC 0 dX8_isRow_0 rfl rfl ?_
  refine g_iconst hC (v := (0 : Int32)) dX8_isRow_1 (by decide) ?_
  refine g_sipush hC (v := (1023 : Int32)) dX8_isRow_2 (by decide) ?_
  refine g_calls hC (st := []) (ctX8_in x F a1 (0 : Int32) (1023 : Int32) M) msX8_in m_987 (by decide) rfl rfl (Nat.le_of_ble_eq_true rfl) dX8_isRow_5 (fun r1 => ?_)
  show GG x f 1 (Qm x f (φB M)) 8 [(0, .int a1)] [.int (bi r1)] M _
  exact g_zret hC hm (bi_nar _) rfl dX8_isRow_8
def sX8_brokenOf (F : Nat) (a1 : Int32) (M : Mem) : Option (Int32 × Mem) :=
(sX8_there F M).bind (fun r1 =>
(sX8_brokenBy F (a1 &&& r1.1) (r1.2 37 9) r1.2).bind (fun r2 =>
some (r2, r1.2)))
theorem mvX8_brokenOf : MV yX8_brokenOf cX8_brokenOf 2 (some .int) 1 := ⟨⟨m_1078, m_76, by decide, by decide, by decide⟩, m_1077, m_34⟩
set_option maxHeartbeats 4000000 in
set_option maxRecDepth 100000 in
theorem ctX8_brokenOf (x : Wx) (F : Nat) (a1 : Int32) (M : Mem) : Ct x yX8_brokenOf cX8_brokenOf 2 (some .int) { frames := 7, cells := 0, slots := 0, locals := 164 } φIM [.ref (x.1 37), .int a1] M (sX8_brokenOf F a1 M) := by
  refine ct_of (by decide) (Nat.le_of_ble_eq_true rfl) (fun f hC hm => ?_)
  have hC : Cx x f "AnswersFirstModel" cX8_brokenOf 2 { frames := 7, cells := 0, slots := 0, locals := 164 } := hC
  show GG x f 2 (Qm x f φIM) 0 [(0, .ref (x.1 37)), (1, .int a1)] [] M _
  unfold sX8_brokenOf
  refine g_aload_n hC 0 dX8_brokenOf_0 rfl rfl ?_
  refine g_iload_n hC 1 dX8_brokenOf_1 rfl rfl ?_
  refine g_aload_n hC 0 dX8_brokenOf_2 rfl rfl ?_
  refine g_callv hC (st := [.int a1, .ref (x.1 37)]) (c := 8) rfl (by decide) rfl (ctX8_there x F M) mvX8_there m_1079 (by decide) rfl rfl (Nat.le_of_ble_eq_true rfl) dX8_brokenOf_3 (fun r1 => ?_)
  show GG x f 2 (Qm x f φIM) 6 [(0, .ref (x.1 37)), (1, .int a1)] [.int (r1.1), .int a1, .ref (x.1 37)] r1.2 _
  refine g_iand hC dX8_brokenOf_6 ?_
  refine g_aload_n hC 0 dX8_brokenOf_7 rfl rfl ?_
  refine g_getI hC cf8 rfl 9 (by decide) rfl m_918 dX8_brokenOf_8 ?_
  refine g_callv hC (st := []) (c := 8) rfl (by decide) rfl (ctX8_brokenBy x F (a1 &&& r1.1) (r1.2 37 9) r1.2) mvX8_brokenBy m_1083 (by decide) rfl rfl (Nat.le_of_ble_eq_true rfl) dX8_brokenOf_11 (fun r2 => ?_)
  show GG x f 2 (Qm x f φIM) 14 [(0, .ref (x.1 37)), (1, .int a1)] [.int r2] r1.2 _
  exact g_iret hC hm rfl dX8_brokenOf_14
def sX8_broken (F : Nat) (a1 : Int32) (M : Mem) : Option (Int32 × Mem) :=
(sX8_isRow F a1 M).bind (fun r1 =>
if r1 = true then
((sX8_brokenOf F a1 M).bind (fun r2 =>
some (r2.1, r2.2)))
else
(some ((-2 : Int32), M)))
theorem mvX8_broken : MV yX8_broken cX8_broken 2 (some .int) 1 := ⟨⟨m_1071, m_76, by decide, by decide, by decide⟩, m_1069, m_1070⟩
set_option maxHeartbeats 4000000 in
set_option maxRecDepth 100000 in
theorem ctX8_broken (x : Wx) (F : Nat) (a1 : Int32) (M : Mem) : Ct x yX8_broken cX8_broken 2 (some .int) { frames := 8, cells := 0, slots := 0, locals := 185 } φIM [.ref (x.1 37), .int a1] M (sX8_broken F a1 M) := by
  refine ct_of (by decide) (Nat.le_of_ble_eq_true rfl) (fun f hC hm => ?_)
  have hC : Cx x f "AnswersFirstModel" cX8_broken 2 { frames := 8, cells := 0, slots := 0, locals := 185 } := hC
  show GG x f 2 (Qm x f φIM) 0 [(0, .ref (x.1 37)), (1, .int a1)] [] M _
  unfold sX8_broken
  refine g_iload_n hC 1 dX8_broken_0 rfl rfl ?_
  refine g_calls hC (st := []) (ctX8_isRow x F a1 M) msX8_isRow m_1072 (by decide) rfl rfl (Nat.le_of_ble_eq_true rfl) dX8_broken_1 (fun r1 => ?_)
  show GG x f 2 (Qm x f φIM) 4 [(0, .ref (x.1 37)), (1, .int a1)] [.int (bi r1)] M _
  refine g_ifB_eq hC 15 dX8_broken_4 (by decide) ?_ ?_
  · refine g_aload_n hC 0 dX8_broken_7 rfl rfl ?_
    refine g_iload_n hC 1 dX8_broken_8 rfl rfl ?_
    refine g_callv hC (st := []) (c := 8) rfl (by decide) rfl (ctX8_brokenOf x F a1 M) mvX8_brokenOf m_1075 (by decide) rfl rfl (Nat.le_of_ble_eq_true rfl) dX8_broken_9 (fun r2 => ?_)
    show GG x f 2 (Qm x f φIM) 12 [(0, .ref (x.1 37)), (1, .int a1)] [.int (r2.1)] r2.2 _
    refine g_goto hC 17 dX8_broken_12 (by decide) ?_
    exact g_iret hC hm rfl dX8_broken_17
  · refine g_bipush hC (v := (-2 : Int32)) dX8_broken_15 (by decide) ?_
    exact g_iret hC hm rfl dX8_broken_17
def sX8_nearestOf_L14 (F : Nat) (a1 : Int32) (r1 : (Int32 × Mem)) (rec5 : Int32 → Int32 → Int32 → Option (Int32 × Mem)) (p2 : Int32) (p3 : Int32) (p4 : Int32) : Option (Int32 × Mem) :=
if r1.1 < p4 then
(some (p2, r1.2))
else
((sX8_ones F ((p4 ^^^ a1) &&& r1.1) r1.2).bind (fun r6 =>
(sX8_brokenBy F p4 (r1.2 37 9) r1.2).bind (fun r7 =>
nm (fun (p8 : Int32) (p9 : Int32) =>
rec5 p8 p9 (p4 + (1 : Int32))) (fun J10 =>
if ¬ r7 = 0 then
(J10 p2 p3)
else
(if p3 ≤ r6 then
(J10 p2 p3)
else
(J10 p4 r6))))))
def sX8_nearestOf (F : Nat) (a1 : Int32) (M : Mem) : Option (Int32 × Mem) :=
(sX8_there F M).bind (fun r1 =>
fx3 F (sX8_nearestOf_L14 F a1 r1) (-1 : Int32) (99 : Int32) (0 : Int32))
theorem mvX8_nearestOf : MV yX8_nearestOf cX8_nearestOf 7 (some .int) 1 := ⟨⟨m_1144, m_76, by decide, by decide, by decide⟩, m_1143, m_44⟩
set_option maxHeartbeats 4000000 in
set_option maxRecDepth 100000 in
theorem ctX8_nearestOf (x : Wx) (F : Nat) (a1 : Int32) (M : Mem) : Ct x yX8_nearestOf cX8_nearestOf 7 (some .int) { frames := 7, cells := 0, slots := 0, locals := 164 } φIM [.ref (x.1 37), .int a1] M (sX8_nearestOf F a1 M) := by
  refine ct_of (by decide) (Nat.le_of_ble_eq_true rfl) (fun f hC hm => ?_)
  have hC : Cx x f "AnswersFirstModel" cX8_nearestOf 7 { frames := 7, cells := 0, slots := 0, locals := 164 } := hC
  show GG x f 7 (Qm x f φIM) 0 [(0, .ref (x.1 37)), (1, .int a1)] [] M _
  unfold sX8_nearestOf
  refine g_aload_n hC 0 dX8_nearestOf_0 rfl rfl ?_
  refine g_callv hC (st := []) (c := 8) rfl (by decide) rfl (ctX8_there x F M) mvX8_there m_1079 (by decide) rfl rfl (Nat.le_of_ble_eq_true rfl) dX8_nearestOf_1 (fun r1 => ?_)
  show GG x f 7 (Qm x f φIM) 4 [(0, .ref (x.1 37)), (1, .int a1)] [.int (r1.1)] r1.2 _
  refine g_istore_n hC (lv' := [(0, .ref (x.1 37)), (1, .int a1), (2, .int (r1.1))]) [1, 2, 0] dX8_nearestOf_4 rfl (by decide) rfl ?_
  refine g_iconst hC (v := (-1 : Int32)) dX8_nearestOf_5 (by decide) ?_
  refine g_istore_n hC (lv' := [(0, .ref (x.1 37)), (1, .int a1), (2, .int (r1.1)), (3, .int (-1 : Int32))]) [1, 2, 3, 0] dX8_nearestOf_6 rfl (by decide) rfl ?_
  refine g_bipush hC (v := (99 : Int32)) dX8_nearestOf_7 (by decide) ?_
  refine g_istore hC (lv' := [(0, .ref (x.1 37)), (1, .int a1), (2, .int (r1.1)), (3, .int (-1 : Int32)), (4, .int (99 : Int32))]) [1, 2, 3, 4, 0] dX8_nearestOf_9 (by decide) rfl ?_
  refine g_iconst hC (v := (0 : Int32)) dX8_nearestOf_11 (by decide) ?_
  refine g_istore hC (lv' := [(0, .ref (x.1 37)), (1, .int a1), (2, .int (r1.1)), (3, .int (-1 : Int32)), (4, .int (99 : Int32)), (5, .int (0 : Int32))]) [1, 2, 3, 4, 5, 0] dX8_nearestOf_12 (by decide) rfl ?_
  refine g_fx3 (fun (p2 : Int32) (p3 : Int32) (p4 : Int32) => [(0, .ref (x.1 37)), (1, .int a1), (2, .int (r1.1)), (3, .int p2), (4, .int p3), (5, .int p4)]) (fun (p2 : Int32) (p3 : Int32) (p4 : Int32) => r1.2) (fun rec5 hrec5 p2 p3 p4 => ?_) F _ _ _
  show GG x f 7 (Qm x f φIM) 14 [(0, .ref (x.1 37)), (1, .int a1), (2, .int (r1.1)), (3, .int p2), (4, .int p3), (5, .int p4)] [] r1.2 _
  unfold sX8_nearestOf_L14
  refine g_iload hC 5 dX8_nearestOf_14 rfl ?_
  refine g_iload_n hC 2 dX8_nearestOf_16 rfl rfl ?_
  refine g_icmp_gt hC 64 dX8_nearestOf_17 (by decide) ?_ ?_
  · refine g_iload_n hC 3 dX8_nearestOf_64 rfl rfl ?_
    exact g_iret hC hm rfl dX8_nearestOf_65
  · refine g_iload hC 5 dX8_nearestOf_20 rfl ?_
    refine g_iload_n hC 1 dX8_nearestOf_22 rfl rfl ?_
    refine g_ixor hC dX8_nearestOf_23 ?_
    refine g_iload_n hC 2 dX8_nearestOf_24 rfl rfl ?_
    refine g_iand hC dX8_nearestOf_25 ?_
    refine g_calls hC (st := []) (ctX8_ones x F ((p4 ^^^ a1) &&& r1.1) r1.2) msX8_ones m_1126 (by decide) rfl rfl (Nat.le_of_ble_eq_true rfl) dX8_nearestOf_26 (fun r6 => ?_)
    show GG x f 7 (Qm x f φIM) 29 [(0, .ref (x.1 37)), (1, .int a1), (2, .int (r1.1)), (3, .int p2), (4, .int p3), (5, .int p4)] [.int r6] r1.2 _
    refine g_istore hC (lv' := [(0, .ref (x.1 37)), (1, .int a1), (2, .int (r1.1)), (3, .int p2), (4, .int p3), (5, .int p4), (6, .int r6)]) [1, 2, 3, 4, 5, 6, 0] dX8_nearestOf_29 (by decide) rfl ?_
    refine g_aload_n hC 0 dX8_nearestOf_31 rfl rfl ?_
    refine g_iload hC 5 dX8_nearestOf_32 rfl ?_
    refine g_aload_n hC 0 dX8_nearestOf_34 rfl rfl ?_
    refine g_getI hC cf8 rfl 9 (by decide) rfl m_918 dX8_nearestOf_35 ?_
    refine g_callv hC (st := []) (c := 8) rfl (by decide) rfl (ctX8_brokenBy x F p4 (r1.2 37 9) r1.2) mvX8_brokenBy m_1083 (by decide) rfl rfl (Nat.le_of_ble_eq_true rfl) dX8_nearestOf_38 (fun r7 => ?_)
    show GG x f 7 (Qm x f φIM) 41 [(0, .ref (x.1 37)), (1, .int a1), (2, .int (r1.1)), (3, .int p2), (4, .int p3), (5, .int p4), (6, .int r6)] [.int r7] r1.2 _
    refine g_nm (fun (J10 : Int32 → Int32 → Option (Int32 × Mem)) => ∀ (p8 : Int32) (p9 : Int32), GG x f 7 (Qm x f φIM) 58 [(0, .ref (x.1 37)), (1, .int a1), (2, .int (r1.1)), (3, .int p8), (4, .int p9), (5, .int p4)] [] r1.2 (J10 p8 p9)) (fun p8 p9 => ?_) (fun J10 hJ10 => ?_)
    · show GG x f 7 (Qm x f φIM) 58 [(0, .ref (x.1 37)), (1, .int a1), (2, .int (r1.1)), (3, .int p8), (4, .int p9), (5, .int p4)] [] r1.2 _
      refine g_iinc hC (q := 5) (v := (1 : Int32)) (lv' := [(0, .ref (x.1 37)), (1, .int a1), (2, .int (r1.1)), (3, .int p8), (4, .int p9), (5, .int (p4 + (1 : Int32)))]) [1, 2, 3, 4, 5, 0] dX8_nearestOf_58 rfl (by decide) (by decide) rfl ?_
      refine g_goto hC 14 dX8_nearestOf_61 (by decide) ?_
      exact hrec5 p8 p9 (p4 + (1 : Int32))
    refine g_if_ne hC 58 dX8_nearestOf_41 (by decide) ?_ ?_
    · refine g_lv (lv' := [(0, .ref (x.1 37)), (1, .int a1), (2, .int (r1.1)), (3, .int p2), (4, .int p3), (5, .int p4)]) [0, 1, 2, 3, 4, 5] rfl ?_
      exact hJ10 p2 p3
    · refine g_iload hC 6 dX8_nearestOf_44 rfl ?_
      refine g_iload hC 4 dX8_nearestOf_46 rfl ?_
      refine g_icmp_ge hC 58 dX8_nearestOf_48 (by decide) ?_ ?_
      · refine g_lv (lv' := [(0, .ref (x.1 37)), (1, .int a1), (2, .int (r1.1)), (3, .int p2), (4, .int p3), (5, .int p4)]) [0, 1, 2, 3, 4, 5] rfl ?_
        exact hJ10 p2 p3
      · refine g_iload hC 5 dX8_nearestOf_51 rfl ?_
        refine g_istore_n hC (lv' := [(0, .ref (x.1 37)), (1, .int a1), (2, .int (r1.1)), (3, .int p4), (5, .int p4), (6, .int r6)]) [1, 2, 3, 0, 5, 6] dX8_nearestOf_53 rfl (by decide) rfl ?_
        refine g_iload hC 5 dX8_nearestOf_54 rfl ?_
        refine g_istore hC (lv' := [(0, .ref (x.1 37)), (1, .int a1), (2, .int (r1.1)), (3, .int p4), (4, .int r6), (5, .int p4)]) [1, 2, 3, 4, 0, 5] dX8_nearestOf_56 (by decide) rfl ?_
        exact hJ10 p4 r6
def sX8_nearest (F : Nat) (a1 : Int32) (M : Mem) : Option (Int32 × Mem) :=
(sX8_isRow F a1 M).bind (fun r1 =>
if r1 = true then
((sX8_nearestOf F a1 M).bind (fun r2 =>
some (r2.1, r2.2)))
else
(some ((-2 : Int32), M)))
theorem mvX8_nearest : MV yX8_nearest cX8_nearest 2 (some .int) 1 := ⟨⟨m_1140, m_76, by decide, by decide, by decide⟩, m_1138, m_1139⟩
set_option maxHeartbeats 4000000 in
set_option maxRecDepth 100000 in
theorem ctX8_nearest (x : Wx) (F : Nat) (a1 : Int32) (M : Mem) : Ct x yX8_nearest cX8_nearest 2 (some .int) { frames := 8, cells := 0, slots := 0, locals := 190 } φIM [.ref (x.1 37), .int a1] M (sX8_nearest F a1 M) := by
  refine ct_of (by decide) (Nat.le_of_ble_eq_true rfl) (fun f hC hm => ?_)
  have hC : Cx x f "AnswersFirstModel" cX8_nearest 2 { frames := 8, cells := 0, slots := 0, locals := 190 } := hC
  show GG x f 2 (Qm x f φIM) 0 [(0, .ref (x.1 37)), (1, .int a1)] [] M _
  unfold sX8_nearest
  refine g_iload_n hC 1 dX8_nearest_0 rfl rfl ?_
  refine g_calls hC (st := []) (ctX8_isRow x F a1 M) msX8_isRow m_1072 (by decide) rfl rfl (Nat.le_of_ble_eq_true rfl) dX8_nearest_1 (fun r1 => ?_)
  show GG x f 2 (Qm x f φIM) 4 [(0, .ref (x.1 37)), (1, .int a1)] [.int (bi r1)] M _
  refine g_ifB_eq hC 15 dX8_nearest_4 (by decide) ?_ ?_
  · refine g_aload_n hC 0 dX8_nearest_7 rfl rfl ?_
    refine g_iload_n hC 1 dX8_nearest_8 rfl rfl ?_
    refine g_callv hC (st := []) (c := 8) rfl (by decide) rfl (ctX8_nearestOf x F a1 M) mvX8_nearestOf m_1141 (by decide) rfl rfl (Nat.le_of_ble_eq_true rfl) dX8_nearest_9 (fun r2 => ?_)
    show GG x f 2 (Qm x f φIM) 12 [(0, .ref (x.1 37)), (1, .int a1)] [.int (r2.1)] r2.2 _
    refine g_goto hC 17 dX8_nearest_12 (by decide) ?_
    exact g_iret hC hm rfl dX8_nearest_17
  · refine g_bipush hC (v := (-2 : Int32)) dX8_nearest_15 (by decide) ?_
    exact g_iret hC hm rfl dX8_nearest_17
def sX8_stepsOf_L10 (F : Nat) (a2 : Int32) (r1 : (Int32 × Mem)) (rec5 : Int32 → Int32 → Option (Int32 × Mem)) (p3 : Int32) (p4 : Int32) : Option (Int32 × Mem) :=
if a2 ≤ p4 then
(some (p3, r1.2))
else
((sX8_next F p3 (r1.2 37 9) r1.2).bind (fun r6 =>
rec5 r6 (p4 + (1 : Int32))))
def sX8_stepsOf (F : Nat) (a1 : Int32) (a2 : Int32) (M : Mem) : Option (Int32 × Mem) :=
(sX8_there F M).bind (fun r1 =>
nm (a1 &&& r1.1) (fun v2 =>
fx2 F (sX8_stepsOf_L10 F a2 r1) v2 (0 : Int32)))
theorem mvX8_stepsOf : MV yX8_stepsOf cX8_stepsOf 5 (some .int) 2 := ⟨⟨m_1152, m_76, by decide, by decide, by decide⟩, m_1151, m_45⟩
set_option maxHeartbeats 4000000 in
set_option maxRecDepth 100000 in
theorem ctX8_stepsOf (x : Wx) (F : Nat) (a1 : Int32) (a2 : Int32) (M : Mem) : Ct x yX8_stepsOf cX8_stepsOf 5 (some .int) { frames := 7, cells := 0, slots := 0, locals := 164 } φIM [.ref (x.1 37), .int a1, .int a2] M (sX8_stepsOf F a1 a2 M) := by
  refine ct_of (by decide) (Nat.le_of_ble_eq_true rfl) (fun f hC hm => ?_)
  have hC : Cx x f "AnswersFirstModel" cX8_stepsOf 5 { frames := 7, cells := 0, slots := 0, locals := 164 } := hC
  show GG x f 5 (Qm x f φIM) 0 [(0, .ref (x.1 37)), (1, .int a1), (2, .int a2)] [] M _
  unfold sX8_stepsOf
  refine g_iload_n hC 1 dX8_stepsOf_0 rfl rfl ?_
  refine g_aload_n hC 0 dX8_stepsOf_1 rfl rfl ?_
  refine g_callv hC (st := [.int a1]) (c := 8) rfl (by decide) rfl (ctX8_there x F M) mvX8_there m_1079 (by decide) rfl rfl (Nat.le_of_ble_eq_true rfl) dX8_stepsOf_2 (fun r1 => ?_)
  show GG x f 5 (Qm x f φIM) 5 [(0, .ref (x.1 37)), (1, .int a1), (2, .int a2)] [.int (r1.1), .int a1] r1.2 _
  refine g_iand hC dX8_stepsOf_5 ?_
  refine g_top (fun v2 => ?_)
  show GG x f 5 (Qm x f φIM) 6 [(0, .ref (x.1 37)), (1, .int a1), (2, .int a2)] [.int v2] r1.2 _
  refine g_istore_n hC (lv' := [(0, .ref (x.1 37)), (2, .int a2), (3, .int v2)]) [1, 3, 0] dX8_stepsOf_6 rfl (by decide) rfl ?_
  refine g_iconst hC (v := (0 : Int32)) dX8_stepsOf_7 (by decide) ?_
  refine g_istore hC (lv' := [(0, .ref (x.1 37)), (2, .int a2), (3, .int v2), (4, .int (0 : Int32))]) [1, 2, 3, 0] dX8_stepsOf_8 (by decide) rfl ?_
  refine g_fx2 (fun (p3 : Int32) (p4 : Int32) => [(0, .ref (x.1 37)), (2, .int a2), (3, .int p3), (4, .int p4)]) (fun (p3 : Int32) (p4 : Int32) => r1.2) (fun rec5 hrec5 p3 p4 => ?_) F _ _
  show GG x f 5 (Qm x f φIM) 10 [(0, .ref (x.1 37)), (2, .int a2), (3, .int p3), (4, .int p4)] [] r1.2 _
  unfold sX8_stepsOf_L10
  refine g_iload hC 3 dX8_stepsOf_10 rfl ?_
  refine g_iload_n hC 1 dX8_stepsOf_12 rfl rfl ?_
  refine g_icmp_ge hC 32 dX8_stepsOf_13 (by decide) ?_ ?_
  · refine g_iload_n hC 2 dX8_stepsOf_32 rfl rfl ?_
    exact g_iret hC hm rfl dX8_stepsOf_33
  · refine g_aload_n hC 0 dX8_stepsOf_16 rfl rfl ?_
    refine g_iload_n hC 2 dX8_stepsOf_17 rfl rfl ?_
    refine g_aload_n hC 0 dX8_stepsOf_18 rfl rfl ?_
    refine g_getI hC cf8 rfl 9 (by decide) rfl m_918 dX8_stepsOf_19 ?_
    refine g_callv hC (st := []) (c := 8) rfl (by decide) rfl (ctX8_next x F p3 (r1.2 37 9) r1.2) mvX8_next m_1087 (by decide) rfl rfl (Nat.le_of_ble_eq_true rfl) dX8_stepsOf_22 (fun r6 => ?_)
    show GG x f 5 (Qm x f φIM) 25 [(0, .ref (x.1 37)), (2, .int a2), (3, .int p3), (4, .int p4)] [.int r6] r1.2 _
    refine g_istore_n hC (lv' := [(0, .ref (x.1 37)), (2, .int a2), (3, .int r6), (4, .int p4)]) [1, 2, 0, 3] dX8_stepsOf_25 rfl (by decide) rfl ?_
    refine g_iinc hC (q := 3) (v := (1 : Int32)) (lv' := [(0, .ref (x.1 37)), (2, .int a2), (3, .int r6), (4, .int (p4 + (1 : Int32)))]) [1, 2, 3, 0] dX8_stepsOf_26 rfl (by decide) (by decide) rfl ?_
    refine g_goto hC 10 dX8_stepsOf_29 (by decide) ?_
    exact hrec5 r6 (p4 + (1 : Int32))
def sX8_steps (F : Nat) (a1 : Int32) (a2 : Int32) (M : Mem) : Option (Int32 × Mem) :=
(sX8_isRow F a1 M).bind (fun r1 =>
if r1 = true then
((sX8_in F a2 (0 : Int32) (99 : Int32) M).bind (fun r2 =>
if r2 = true then
((sX8_stepsOf F a1 a2 M).bind (fun r3 =>
some (r3.1, r3.2)))
else
(some ((-2 : Int32), M))))
else
(some ((-2 : Int32), M)))
theorem mvX8_steps : MV yX8_steps cX8_steps 3 (some .int) 2 := ⟨⟨m_1148, m_76, by decide, by decide, by decide⟩, m_1146, m_1147⟩
set_option maxHeartbeats 4000000 in
set_option maxRecDepth 100000 in
theorem ctX8_steps (x : Wx) (F : Nat) (a1 : Int32) (a2 : Int32) (M : Mem) : Ct x yX8_steps cX8_steps 3 (some .int) { frames := 8, cells := 0, slots := 0, locals := 188 } φIM [.ref (x.1 37), .int a1, .int a2] M (sX8_steps F a1 a2 M) := by
  refine ct_of (by decide) (Nat.le_of_ble_eq_true rfl) (fun f hC hm => ?_)
  have hC : Cx x f "AnswersFirstModel" cX8_steps 3 { frames := 8, cells := 0, slots := 0, locals := 188 } := hC
  show GG x f 3 (Qm x f φIM) 0 [(0, .ref (x.1 37)), (1, .int a1), (2, .int a2)] [] M _
  unfold sX8_steps
  refine g_iload_n hC 1 dX8_steps_0 rfl rfl ?_
  refine g_calls hC (st := []) (ctX8_isRow x F a1 M) msX8_isRow m_1072 (by decide) rfl rfl (Nat.le_of_ble_eq_true rfl) dX8_steps_1 (fun r1 => ?_)
  show GG x f 3 (Qm x f φIM) 4 [(0, .ref (x.1 37)), (1, .int a1), (2, .int a2)] [.int (bi r1)] M _
  refine g_ifB_eq hC 26 dX8_steps_4 (by decide) ?_ ?_
  · refine g_iload_n hC 2 dX8_steps_7 rfl rfl ?_
    refine g_iconst hC (v := (0 : Int32)) dX8_steps_8 (by decide) ?_
    refine g_bipush hC (v := (99 : Int32)) dX8_steps_9 (by decide) ?_
    refine g_calls hC (st := []) (ctX8_in x F a2 (0 : Int32) (99 : Int32) M) msX8_in m_987 (by decide) rfl rfl (Nat.le_of_ble_eq_true rfl) dX8_steps_11 (fun r2 => ?_)
    show GG x f 3 (Qm x f φIM) 14 [(0, .ref (x.1 37)), (1, .int a1), (2, .int a2)] [.int (bi r2)] M _
    refine g_ifB_eq hC 26 dX8_steps_14 (by decide) ?_ ?_
    · refine g_aload_n hC 0 dX8_steps_17 rfl rfl ?_
      refine g_iload_n hC 1 dX8_steps_18 rfl rfl ?_
      refine g_iload_n hC 2 dX8_steps_19 rfl rfl ?_
      refine g_callv hC (st := []) (c := 8) rfl (by decide) rfl (ctX8_stepsOf x F a1 a2 M) mvX8_stepsOf m_1149 (by decide) rfl rfl (Nat.le_of_ble_eq_true rfl) dX8_steps_20 (fun r3 => ?_)
      show GG x f 3 (Qm x f φIM) 23 [(0, .ref (x.1 37)), (1, .int a1), (2, .int a2)] [.int (r3.1)] r3.2 _
      refine g_goto hC 28 dX8_steps_23 (by decide) ?_
      exact g_iret hC hm rfl dX8_steps_28
    · refine g_bipush hC (v := (-2 : Int32)) dX8_steps_26 (by decide) ?_
      exact g_iret hC hm rfl dX8_steps_28
  · refine g_bipush hC (v := (-2 : Int32)) dX8_steps_26 (by decide) ?_
    exact g_iret hC hm rfl dX8_steps_28
def sX8_returnsOf_L35 (F : Nat) (J8 : Int32 → Int32 → Mem → Option (Int32 × Mem)) (rec12 : Int32 → Int32 → Mem → Option (Int32 × Mem)) (p9 : Int32) (p10 : Int32) (M11 : Mem) : Option (Int32 × Mem) :=
ib p9 1024 (
if ¬ (M11 45 (ix p9)) = (-1 : Int32) then
(J8 p9 p10 M11)
else
(ib p9 1024 (
nm (st2 M11 45 (ix p9) p10) (fun M13 =>
(sX8_next F p9 (M13 37 9) M13).bind (fun r14 =>
rec12 r14 (p10 + (1 : Int32)) M13)))))
def sX8_returnsOf_L10 (F : Nat) (J4 : Mem → Option (Int32 × Mem)) (rec17 : Int32 → Mem → Option (Int32 × Mem)) (p15 : Int32) (M16 : Mem) : Option (Int32 × Mem) :=
if (1024 : Int32) ≤ p15 then
(J4 M16)
else
(ib p15 1024 (
nm (st2 M16 45 (ix p15) (-1 : Int32)) (fun M18 =>
rec17 (p15 + (1 : Int32)) M18)))
def sX8_returnsOf (F : Nat) (a1 : Int32) (a2 : Int32) (M : Mem) : Option (Int32 × Mem) :=
(sX8_there F M).bind (fun r1 =>
nm (a1 &&& r1.1) (fun v2 =>
nm (fun (M3 : Mem) =>
nm (fun (p5 : Int32) (p6 : Int32) (M7 : Mem) =>
if ¬ a2 = 0 then
(ib p5 1024 (
some ((p6 - (M7 45 (ix p5))), M7)))
else
(some (p6, M7))) (fun J8 =>
fx3 F (sX8_returnsOf_L35 F J8) v2 (0 : Int32) M3)) (fun J4 =>
fx2 F (sX8_returnsOf_L10 F J4) (0 : Int32) r1.2)))
theorem mvX8_returnsOf : MV yX8_returnsOf cX8_returnsOf 5 (some .int) 2 := ⟨⟨m_1160, m_76, by decide, by decide, by decide⟩, m_1159, m_46⟩
set_option maxHeartbeats 4000000 in
set_option maxRecDepth 100000 in
theorem ctX8_returnsOf (x : Wx) (F : Nat) (a1 : Int32) (a2 : Int32) (M : Mem) : Ct x yX8_returnsOf cX8_returnsOf 5 (some .int) { frames := 7, cells := 0, slots := 0, locals := 164 } φIM [.ref (x.1 37), .int a1, .int a2] M (sX8_returnsOf F a1 a2 M) := by
  refine ct_of (by decide) (Nat.le_of_ble_eq_true rfl) (fun f hC hm => ?_)
  have hC : Cx x f "AnswersFirstModel" cX8_returnsOf 5 { frames := 7, cells := 0, slots := 0, locals := 164 } := hC
  show GG x f 5 (Qm x f φIM) 0 [(0, .ref (x.1 37)), (1, .int a1), (2, .int a2)] [] M _
  unfold sX8_returnsOf
  refine g_iload_n hC 1 dX8_returnsOf_0 rfl rfl ?_
  refine g_aload_n hC 0 dX8_returnsOf_1 rfl rfl ?_
  refine g_callv hC (st := [.int a1]) (c := 8) rfl (by decide) rfl (ctX8_there x F M) mvX8_there m_1079 (by decide) rfl rfl (Nat.le_of_ble_eq_true rfl) dX8_returnsOf_2 (fun r1 => ?_)
  show GG x f 5 (Qm x f φIM) 5 [(0, .ref (x.1 37)), (1, .int a1), (2, .int a2)] [.int (r1.1), .int a1] r1.2 _
  refine g_iand hC dX8_returnsOf_5 ?_
  refine g_top (fun v2 => ?_)
  show GG x f 5 (Qm x f φIM) 6 [(0, .ref (x.1 37)), (1, .int a1), (2, .int a2)] [.int v2] r1.2 _
  refine g_istore_n hC (lv' := [(0, .ref (x.1 37)), (2, .int a2), (3, .int v2)]) [1, 3, 0] dX8_returnsOf_6 rfl (by decide) rfl ?_
  refine g_iconst hC (v := (0 : Int32)) dX8_returnsOf_7 (by decide) ?_
  refine g_istore hC (lv' := [(0, .ref (x.1 37)), (2, .int a2), (3, .int v2), (4, .int (0 : Int32))]) [1, 2, 3, 0] dX8_returnsOf_8 (by decide) rfl ?_
  refine g_nm (fun (J4 : Mem → Option (Int32 × Mem)) => ∀ (M3 : Mem), GG x f 5 (Qm x f φIM) 32 [(0, .ref (x.1 37)), (2, .int a2), (3, .int v2)] [] M3 (J4 M3)) (fun M3 => ?_) (fun J4 hJ4 => ?_)
  · show GG x f 5 (Qm x f φIM) 32 [(0, .ref (x.1 37)), (2, .int a2), (3, .int v2)] [] M3 _
    refine g_iconst hC (v := (0 : Int32)) dX8_returnsOf_32 (by decide) ?_
    refine g_istore hC (lv' := [(0, .ref (x.1 37)), (2, .int a2), (3, .int v2), (4, .int (0 : Int32))]) [1, 2, 3, 0] dX8_returnsOf_33 (by decide) rfl ?_
    refine g_nm (fun (J8 : Int32 → Int32 → Mem → Option (Int32 × Mem)) => ∀ (p5 : Int32) (p6 : Int32) (M7 : Mem), GG x f 5 (Qm x f φIM) 69 [(0, .ref (x.1 37)), (2, .int a2), (3, .int p5), (4, .int p6)] [] M7 (J8 p5 p6 M7)) (fun p5 p6 M7 => ?_) (fun J8 hJ8 => ?_)
    · show GG x f 5 (Qm x f φIM) 69 [(0, .ref (x.1 37)), (2, .int a2), (3, .int p5), (4, .int p6)] [] M7 _
      refine g_iload_n hC 1 dX8_returnsOf_69 rfl rfl ?_
      refine g_if_ne hC 78 dX8_returnsOf_70 (by decide) ?_ ?_
      · refine g_iload hC 3 dX8_returnsOf_78 rfl ?_
        refine g_aload_n hC 0 dX8_returnsOf_80 rfl rfl ?_
        refine g_getR hC cf8 (t := 45) rfl 12 (by decide) rfl m_921 dX8_returnsOf_81 ?_
        refine g_iload_n hC 2 dX8_returnsOf_84 rfl rfl ?_
        refine g_iald hC rfl rfl dX8_returnsOf_85 ?_
        refine g_isub hC dX8_returnsOf_86 ?_
        exact g_iret hC hm rfl dX8_returnsOf_87
      · refine g_iload hC 3 dX8_returnsOf_73 rfl ?_
        refine g_goto hC 87 dX8_returnsOf_75 (by decide) ?_
        exact g_iret hC hm rfl dX8_returnsOf_87
    refine g_fx3 (fun (p9 : Int32) (p10 : Int32) (M11 : Mem) => [(0, .ref (x.1 37)), (2, .int a2), (3, .int p9), (4, .int p10)]) (fun (p9 : Int32) (p10 : Int32) (M11 : Mem) => M11) (fun rec12 hrec12 p9 p10 M11 => ?_) F _ _ _
    show GG x f 5 (Qm x f φIM) 35 [(0, .ref (x.1 37)), (2, .int a2), (3, .int p9), (4, .int p10)] [] M11 _
    unfold sX8_returnsOf_L35
    refine g_aload_n hC 0 dX8_returnsOf_35 rfl rfl ?_
    refine g_getR hC cf8 (t := 45) rfl 12 (by decide) rfl m_921 dX8_returnsOf_36 ?_
    refine g_iload_n hC 2 dX8_returnsOf_39 rfl rfl ?_
    refine g_iald hC rfl rfl dX8_returnsOf_40 ?_
    refine g_iconst hC (v := (-1 : Int32)) dX8_returnsOf_41 (by decide) ?_
    refine g_icmp_ne hC 69 dX8_returnsOf_42 (by decide) ?_ ?_
    · exact hJ8 p9 p10 M11
    · refine g_aload_n hC 0 dX8_returnsOf_45 rfl rfl ?_
      refine g_getR hC cf8 (t := 45) rfl 12 (by decide) rfl m_921 dX8_returnsOf_46 ?_
      refine g_iload_n hC 2 dX8_returnsOf_49 rfl rfl ?_
      refine g_iload hC 3 dX8_returnsOf_50 rfl ?_
      refine g_iast hC rfl rfl dX8_returnsOf_52 (fun M13 => ?_)
      show GG x f 5 (Qm x f φIM) 53 [(0, .ref (x.1 37)), (2, .int a2), (3, .int p9), (4, .int p10)] [] M13 _
      refine g_aload_n hC 0 dX8_returnsOf_53 rfl rfl ?_
      refine g_iload_n hC 2 dX8_returnsOf_54 rfl rfl ?_
      refine g_aload_n hC 0 dX8_returnsOf_55 rfl rfl ?_
      refine g_getI hC cf8 rfl 9 (by decide) rfl m_918 dX8_returnsOf_56 ?_
      refine g_callv hC (st := []) (c := 8) rfl (by decide) rfl (ctX8_next x F p9 (M13 37 9) M13) mvX8_next m_1087 (by decide) rfl rfl (Nat.le_of_ble_eq_true rfl) dX8_returnsOf_59 (fun r14 => ?_)
      show GG x f 5 (Qm x f φIM) 62 [(0, .ref (x.1 37)), (2, .int a2), (3, .int p9), (4, .int p10)] [.int r14] M13 _
      refine g_istore_n hC (lv' := [(0, .ref (x.1 37)), (2, .int a2), (3, .int r14), (4, .int p10)]) [1, 2, 0, 3] dX8_returnsOf_62 rfl (by decide) rfl ?_
      refine g_iinc hC (q := 3) (v := (1 : Int32)) (lv' := [(0, .ref (x.1 37)), (2, .int a2), (3, .int r14), (4, .int (p10 + (1 : Int32)))]) [1, 2, 3, 0] dX8_returnsOf_63 rfl (by decide) (by decide) rfl ?_
      refine g_goto hC 35 dX8_returnsOf_66 (by decide) ?_
      exact hrec12 r14 (p10 + (1 : Int32)) M13
  refine g_fx2 (fun (p15 : Int32) (M16 : Mem) => [(0, .ref (x.1 37)), (2, .int a2), (3, .int v2), (4, .int p15)]) (fun (p15 : Int32) (M16 : Mem) => M16) (fun rec17 hrec17 p15 M16 => ?_) F _ _
  show GG x f 5 (Qm x f φIM) 10 [(0, .ref (x.1 37)), (2, .int a2), (3, .int v2), (4, .int p15)] [] M16 _
  unfold sX8_returnsOf_L10
  refine g_iload hC 3 dX8_returnsOf_10 rfl ?_
  refine g_sipush hC (v := (1024 : Int32)) dX8_returnsOf_12 (by decide) ?_
  refine g_icmp_ge hC 32 dX8_returnsOf_15 (by decide) ?_ ?_
  · refine g_lv (lv' := [(0, .ref (x.1 37)), (2, .int a2), (3, .int v2)]) [0, 1, 2] rfl ?_
    exact hJ4 M16
  · refine g_aload_n hC 0 dX8_returnsOf_18 rfl rfl ?_
    refine g_getR hC cf8 (t := 45) rfl 12 (by decide) rfl m_921 dX8_returnsOf_19 ?_
    refine g_iload hC 3 dX8_returnsOf_22 rfl ?_
    refine g_iconst hC (v := (-1 : Int32)) dX8_returnsOf_24 (by decide) ?_
    refine g_iast hC rfl rfl dX8_returnsOf_25 (fun M18 => ?_)
    show GG x f 5 (Qm x f φIM) 26 [(0, .ref (x.1 37)), (2, .int a2), (3, .int v2), (4, .int p15)] [] M18 _
    refine g_iinc hC (q := 3) (v := (1 : Int32)) (lv' := [(0, .ref (x.1 37)), (2, .int a2), (3, .int v2), (4, .int (p15 + (1 : Int32)))]) [1, 2, 3, 0] dX8_returnsOf_26 rfl (by decide) (by decide) rfl ?_
    refine g_goto hC 10 dX8_returnsOf_29 (by decide) ?_
    exact hrec17 (p15 + (1 : Int32)) M18
def sX8_returns (F : Nat) (a1 : Int32) (a2 : Int32) (M : Mem) : Option (Int32 × Mem) :=
(sX8_isRow F a1 M).bind (fun r1 =>
if r1 = true then
((sX8_in F a2 (0 : Int32) (1 : Int32) M).bind (fun r2 =>
if r2 = true then
((sX8_returnsOf F a1 a2 M).bind (fun r3 =>
some (r3.1, r3.2)))
else
(some ((-2 : Int32), M))))
else
(some ((-2 : Int32), M)))
theorem mvX8_returns : MV yX8_returns cX8_returns 3 (some .int) 2 := ⟨⟨m_1156, m_76, by decide, by decide, by decide⟩, m_1154, m_1155⟩
set_option maxHeartbeats 4000000 in
set_option maxRecDepth 100000 in
theorem ctX8_returns (x : Wx) (F : Nat) (a1 : Int32) (a2 : Int32) (M : Mem) : Ct x yX8_returns cX8_returns 3 (some .int) { frames := 8, cells := 0, slots := 0, locals := 188 } φIM [.ref (x.1 37), .int a1, .int a2] M (sX8_returns F a1 a2 M) := by
  refine ct_of (by decide) (Nat.le_of_ble_eq_true rfl) (fun f hC hm => ?_)
  have hC : Cx x f "AnswersFirstModel" cX8_returns 3 { frames := 8, cells := 0, slots := 0, locals := 188 } := hC
  show GG x f 3 (Qm x f φIM) 0 [(0, .ref (x.1 37)), (1, .int a1), (2, .int a2)] [] M _
  unfold sX8_returns
  refine g_iload_n hC 1 dX8_returns_0 rfl rfl ?_
  refine g_calls hC (st := []) (ctX8_isRow x F a1 M) msX8_isRow m_1072 (by decide) rfl rfl (Nat.le_of_ble_eq_true rfl) dX8_returns_1 (fun r1 => ?_)
  show GG x f 3 (Qm x f φIM) 4 [(0, .ref (x.1 37)), (1, .int a1), (2, .int a2)] [.int (bi r1)] M _
  refine g_ifB_eq hC 25 dX8_returns_4 (by decide) ?_ ?_
  · refine g_iload_n hC 2 dX8_returns_7 rfl rfl ?_
    refine g_iconst hC (v := (0 : Int32)) dX8_returns_8 (by decide) ?_
    refine g_iconst hC (v := (1 : Int32)) dX8_returns_9 (by decide) ?_
    refine g_calls hC (st := []) (ctX8_in x F a2 (0 : Int32) (1 : Int32) M) msX8_in m_987 (by decide) rfl rfl (Nat.le_of_ble_eq_true rfl) dX8_returns_10 (fun r2 => ?_)
    show GG x f 3 (Qm x f φIM) 13 [(0, .ref (x.1 37)), (1, .int a1), (2, .int a2)] [.int (bi r2)] M _
    refine g_ifB_eq hC 25 dX8_returns_13 (by decide) ?_ ?_
    · refine g_aload_n hC 0 dX8_returns_16 rfl rfl ?_
      refine g_iload_n hC 1 dX8_returns_17 rfl rfl ?_
      refine g_iload_n hC 2 dX8_returns_18 rfl rfl ?_
      refine g_callv hC (st := []) (c := 8) rfl (by decide) rfl (ctX8_returnsOf x F a1 a2 M) mvX8_returnsOf m_1157 (by decide) rfl rfl (Nat.le_of_ble_eq_true rfl) dX8_returns_19 (fun r3 => ?_)
      show GG x f 3 (Qm x f φIM) 22 [(0, .ref (x.1 37)), (1, .int a1), (2, .int a2)] [.int (r3.1)] r3.2 _
      refine g_goto hC 27 dX8_returns_22 (by decide) ?_
      exact g_iret hC hm rfl dX8_returns_27
    · refine g_bipush hC (v := (-2 : Int32)) dX8_returns_25 (by decide) ?_
      exact g_iret hC hm rfl dX8_returns_27
  · refine g_bipush hC (v := (-2 : Int32)) dX8_returns_25 (by decide) ?_
    exact g_iret hC hm rfl dX8_returns_27
def sX8_hangsAt (F : Nat) (a1 : Int32) (M : Mem) : Option Int32 :=
ib (((6 : Int32) * a1) + (5 : Int32)) 66 (
nm (M 40 (ix (((6 : Int32) * a1) + (5 : Int32)))) (fun v1 =>
if v1 = (-1 : Int32) then
(some (0 : Int32))
else
(if (M 37 2) ≤ v1 then
(some (0 : Int32))
else
((sX8_isKnown F v1 a1 M).bind (fun r2 =>
if r2 = true then
(some ((1 : Int32) <<< (v1 &&& 31)))
else
(some (0 : Int32)))))))
theorem mvX8_hangsAt : MV yX8_hangsAt cX8_hangsAt 3 (some .int) 1 := ⟨⟨m_1172, m_76, by decide, by decide, by decide⟩, m_1171, m_48⟩
set_option maxHeartbeats 4000000 in
set_option maxRecDepth 100000 in
theorem ctX8_hangsAt (x : Wx) (F : Nat) (a1 : Int32) (M : Mem) : Ct x yX8_hangsAt cX8_hangsAt 3 (some .int) { frames := 1, cells := 0, slots := 0, locals := 22 } (φI M) [.ref (x.1 37), .int a1] M (sX8_hangsAt F a1 M) := by
  refine ct_of (by decide) (Nat.le_of_ble_eq_true rfl) (fun f hC hm => ?_)
  have hC : Cx x f "AnswersFirstModel" cX8_hangsAt 3 { frames := 1, cells := 0, slots := 0, locals := 22 } := hC
  show GG x f 3 (Qm x f (φI M)) 0 [(0, .ref (x.1 37)), (1, .int a1)] [] M _
  unfold sX8_hangsAt
  refine g_aload_n hC 0 dX8_hangsAt_0 rfl rfl ?_
  refine g_getR hC cf8 (t := 40) rfl 3 (by decide) rfl m_912 dX8_hangsAt_1 ?_
  refine g_bipush hC (v := (6 : Int32)) dX8_hangsAt_4 (by decide) ?_
  refine g_iload_n hC 1 dX8_hangsAt_6 rfl rfl ?_
  refine g_imul hC dX8_hangsAt_7 ?_
  refine g_iconst hC (v := (5 : Int32)) dX8_hangsAt_8 (by decide) ?_
  refine g_iadd hC dX8_hangsAt_9 ?_
  refine g_iald hC rfl rfl dX8_hangsAt_10 ?_
  refine g_top (fun v1 => ?_)
  show GG x f 3 (Qm x f (φI M)) 11 [(0, .ref (x.1 37)), (1, .int a1)] [.int v1] M _
  refine g_istore_n hC (lv' := [(0, .ref (x.1 37)), (1, .int a1), (2, .int v1)]) [1, 2, 0] dX8_hangsAt_11 rfl (by decide) rfl ?_
  refine g_iload_n hC 2 dX8_hangsAt_12 rfl rfl ?_
  refine g_iconst hC (v := (-1 : Int32)) dX8_hangsAt_13 (by decide) ?_
  refine g_icmp_eq hC 40 dX8_hangsAt_14 (by decide) ?_ ?_
  · refine g_iconst hC (v := (0 : Int32)) dX8_hangsAt_40 (by decide) ?_
    exact g_iret hC hm rfl dX8_hangsAt_41
  · refine g_iload_n hC 2 dX8_hangsAt_17 rfl rfl ?_
    refine g_aload_n hC 0 dX8_hangsAt_18 rfl rfl ?_
    refine g_getI hC cf8 rfl 2 (by decide) rfl m_911 dX8_hangsAt_19 ?_
    refine g_icmp_ge hC 40 dX8_hangsAt_22 (by decide) ?_ ?_
    · refine g_iconst hC (v := (0 : Int32)) dX8_hangsAt_40 (by decide) ?_
      exact g_iret hC hm rfl dX8_hangsAt_41
    · refine g_aload_n hC 0 dX8_hangsAt_25 rfl rfl ?_
      refine g_iload_n hC 2 dX8_hangsAt_26 rfl rfl ?_
      refine g_iload_n hC 1 dX8_hangsAt_27 rfl rfl ?_
      refine g_callv hC (st := []) (c := 8) rfl (by decide) rfl (ctX8_isKnown x F v1 a1 M) mvX8_isKnown m_1098 (by decide) rfl rfl (Nat.le_of_ble_eq_true rfl) dX8_hangsAt_28 (fun r2 => ?_)
      show GG x f 3 (Qm x f (φI M)) 31 [(0, .ref (x.1 37)), (1, .int a1), (2, .int v1)] [.int (bi r2)] M _
      refine g_ifB_eq hC 40 dX8_hangsAt_31 (by decide) ?_ ?_
      · refine g_iconst hC (v := (1 : Int32)) dX8_hangsAt_34 (by decide) ?_
        refine g_iload_n hC 2 dX8_hangsAt_35 rfl rfl ?_
        refine g_ishl hC dX8_hangsAt_36 ?_
        refine g_goto hC 41 dX8_hangsAt_37 (by decide) ?_
        exact g_iret hC hm rfl dX8_hangsAt_41
      · refine g_iconst hC (v := (0 : Int32)) dX8_hangsAt_40 (by decide) ?_
        exact g_iret hC hm rfl dX8_hangsAt_41
def sX8_hangsOf_L17 (F : Nat) (M : Mem) (J6 : Int32 → Option Int32) (rec9 : Int32 → Int32 → Option Int32) (p7 : Int32) (p8 : Int32) : Option Int32 :=
if (M 37 2) ≤ p8 then
(J6 p7)
else
((sX8_isIn F p7 p8 M).bind (fun r10 =>
nm (fun (q11 : Int32) =>
nm (p7 ||| q11) (fun v13 =>
rec9 v13 (p8 + (1 : Int32)))) (fun J12 =>
if r10 = true then
((sX8_hangsAt F p8 M).bind (fun r14 =>
J12 r14))
else
(J12 (0 : Int32)))))
def sX8_hangsOf_L8 (F : Nat) (M : Mem) (rec4 : Int32 → Int32 → Option Int32) (p2 : Int32) (p3 : Int32) : Option Int32 :=
if (10 : Int32) ≤ p3 then
(some p2)
else
(nm (fun (p5 : Int32) =>
rec4 p5 (p3 + (1 : Int32))) (fun J6 =>
fx2 F (sX8_hangsOf_L17 F M J6) p2 (0 : Int32)))
def sX8_hangsOf (F : Nat) (a1 : Int32) (M : Mem) : Option Int32 :=
(sX8_hangsAt F a1 M).bind (fun r1 =>
fx2 F (sX8_hangsOf_L8 F M) r1 (0 : Int32))
theorem mvX8_hangsOf : MV yX8_hangsOf cX8_hangsOf 5 (some .int) 1 := ⟨⟨m_1168, m_76, by decide, by decide, by decide⟩, m_1167, m_47⟩
set_option maxHeartbeats 4000000 in
set_option maxRecDepth 100000 in
theorem ctX8_hangsOf (x : Wx) (F : Nat) (a1 : Int32) (M : Mem) : Ct x yX8_hangsOf cX8_hangsOf 5 (some .int) { frames := 2, cells := 0, slots := 0, locals := 44 } (φI M) [.ref (x.1 37), .int a1] M (sX8_hangsOf F a1 M) := by
  refine ct_of (by decide) (Nat.le_of_ble_eq_true rfl) (fun f hC hm => ?_)
  have hC : Cx x f "AnswersFirstModel" cX8_hangsOf 5 { frames := 2, cells := 0, slots := 0, locals := 44 } := hC
  show GG x f 5 (Qm x f (φI M)) 0 [(0, .ref (x.1 37)), (1, .int a1)] [] M _
  unfold sX8_hangsOf
  refine g_aload_n hC 0 dX8_hangsOf_0 rfl rfl ?_
  refine g_iload_n hC 1 dX8_hangsOf_1 rfl rfl ?_
  refine g_callv hC (st := []) (c := 8) rfl (by decide) rfl (ctX8_hangsAt x F a1 M) mvX8_hangsAt m_1169 (by decide) rfl rfl (Nat.le_of_ble_eq_true rfl) dX8_hangsOf_2 (fun r1 => ?_)
  show GG x f 5 (Qm x f (φI M)) 5 [(0, .ref (x.1 37)), (1, .int a1)] [.int r1] M _
  refine g_istore_n hC (lv' := [(0, .ref (x.1 37)), (2, .int r1)]) [1, 0] dX8_hangsOf_5 rfl (by decide) rfl ?_
  refine g_iconst hC (v := (0 : Int32)) dX8_hangsOf_6 (by decide) ?_
  refine g_istore_n hC (lv' := [(0, .ref (x.1 37)), (2, .int r1), (3, .int (0 : Int32))]) [1, 2, 0] dX8_hangsOf_7 rfl (by decide) rfl ?_
  refine g_fx2 (fun (p2 : Int32) (p3 : Int32) => [(0, .ref (x.1 37)), (2, .int p2), (3, .int p3)]) (fun (p2 : Int32) (p3 : Int32) => M) (fun rec4 hrec4 p2 p3 => ?_) F _ _
  show GG x f 5 (Qm x f (φI M)) 8 [(0, .ref (x.1 37)), (2, .int p2), (3, .int p3)] [] M _
  unfold sX8_hangsOf_L8
  refine g_iload_n hC 2 dX8_hangsOf_8 rfl rfl ?_
  refine g_bipush hC (v := (10 : Int32)) dX8_hangsOf_9 (by decide) ?_
  refine g_icmp_ge hC 60 dX8_hangsOf_11 (by decide) ?_ ?_
  · refine g_iload_n hC 1 dX8_hangsOf_60 rfl rfl ?_
    exact g_iret hC hm rfl dX8_hangsOf_61
  · refine g_iconst hC (v := (0 : Int32)) dX8_hangsOf_14 (by decide) ?_
    refine g_istore hC (lv' := [(0, .ref (x.1 37)), (2, .int p2), (3, .int p3), (4, .int (0 : Int32))]) [1, 2, 3, 0] dX8_hangsOf_15 (by decide) rfl ?_
    refine g_nm (fun (J6 : Int32 → Option Int32) => ∀ (p5 : Int32), GG x f 5 (Qm x f (φI M)) 54 [(0, .ref (x.1 37)), (2, .int p5), (3, .int p3)] [] M (J6 p5)) (fun p5 => ?_) (fun J6 hJ6 => ?_)
    · show GG x f 5 (Qm x f (φI M)) 54 [(0, .ref (x.1 37)), (2, .int p5), (3, .int p3)] [] M _
      refine g_iinc hC (q := 2) (v := (1 : Int32)) (lv' := [(0, .ref (x.1 37)), (2, .int p5), (3, .int (p3 + (1 : Int32)))]) [1, 2, 0] dX8_hangsOf_54 rfl (by decide) (by decide) rfl ?_
      refine g_goto hC 8 dX8_hangsOf_57 (by decide) ?_
      exact hrec4 p5 (p3 + (1 : Int32))
    refine g_fx2 (fun (p7 : Int32) (p8 : Int32) => [(0, .ref (x.1 37)), (2, .int p7), (3, .int p3), (4, .int p8)]) (fun (p7 : Int32) (p8 : Int32) => M) (fun rec9 hrec9 p7 p8 => ?_) F _ _
    show GG x f 5 (Qm x f (φI M)) 17 [(0, .ref (x.1 37)), (2, .int p7), (3, .int p3), (4, .int p8)] [] M _
    unfold sX8_hangsOf_L17
    refine g_iload hC 3 dX8_hangsOf_17 rfl ?_
    refine g_aload_n hC 0 dX8_hangsOf_19 rfl rfl ?_
    refine g_getI hC cf8 rfl 2 (by decide) rfl m_911 dX8_hangsOf_20 ?_
    refine g_icmp_ge hC 54 dX8_hangsOf_23 (by decide) ?_ ?_
    · refine g_lv (lv' := [(0, .ref (x.1 37)), (2, .int p7), (3, .int p3)]) [0, 1, 2] rfl ?_
      exact hJ6 p7
    · refine g_iload_n hC 1 dX8_hangsOf_26 rfl rfl ?_
      refine g_iload_n hC 1 dX8_hangsOf_27 rfl rfl ?_
      refine g_iload hC 3 dX8_hangsOf_28 rfl ?_
      refine g_calls hC (st := [.int p7]) (ctX8_isIn x F p7 p8 M) msX8_isIn m_1091 (by decide) rfl rfl (Nat.le_of_ble_eq_true rfl) dX8_hangsOf_30 (fun r10 => ?_)
      show GG x f 5 (Qm x f (φI M)) 33 [(0, .ref (x.1 37)), (2, .int p7), (3, .int p3), (4, .int p8)] [.int (bi r10), .int p7] M _
      refine g_nm (fun (J12 : Int32 → Option Int32) => ∀ (q11 : Int32), GG x f 5 (Qm x f (φI M)) 46 [(0, .ref (x.1 37)), (3, .int p3), (4, .int p8)] [.int q11, .int p7] M (J12 q11)) (fun q11 => ?_) (fun J12 hJ12 => ?_)
      · show GG x f 5 (Qm x f (φI M)) 46 [(0, .ref (x.1 37)), (3, .int p3), (4, .int p8)] [.int q11, .int p7] M _
        refine g_ior hC dX8_hangsOf_46 ?_
        refine g_top (fun v13 => ?_)
        show GG x f 5 (Qm x f (φI M)) 47 [(0, .ref (x.1 37)), (3, .int p3), (4, .int p8)] [.int v13] M _
        refine g_istore_n hC (lv' := [(0, .ref (x.1 37)), (2, .int v13), (3, .int p3), (4, .int p8)]) [1, 0, 2, 3] dX8_hangsOf_47 rfl (by decide) rfl ?_
        refine g_iinc hC (q := 3) (v := (1 : Int32)) (lv' := [(0, .ref (x.1 37)), (2, .int v13), (3, .int p3), (4, .int (p8 + (1 : Int32)))]) [1, 2, 3, 0] dX8_hangsOf_48 rfl (by decide) (by decide) rfl ?_
        refine g_goto hC 17 dX8_hangsOf_51 (by decide) ?_
        exact hrec9 v13 (p8 + (1 : Int32))
      refine g_ifB_eq hC 45 dX8_hangsOf_33 (by decide) ?_ ?_
      · refine g_aload_n hC 0 dX8_hangsOf_36 rfl rfl ?_
        refine g_iload hC 3 dX8_hangsOf_37 rfl ?_
        refine g_callv hC (st := [.int p7]) (c := 8) rfl (by decide) rfl (ctX8_hangsAt x F p8 M) mvX8_hangsAt m_1169 (by decide) rfl rfl (Nat.le_of_ble_eq_true rfl) dX8_hangsOf_39 (fun r14 => ?_)
        show GG x f 5 (Qm x f (φI M)) 42 [(0, .ref (x.1 37)), (2, .int p7), (3, .int p3), (4, .int p8)] [.int r14, .int p7] M _
        refine g_goto hC 46 dX8_hangsOf_42 (by decide) ?_
        refine g_lv (lv' := [(0, .ref (x.1 37)), (3, .int p3), (4, .int p8)]) [0, 2, 3] rfl ?_
        exact hJ12 r14
      · refine g_iconst hC (v := (0 : Int32)) dX8_hangsOf_45 (by decide) ?_
        refine g_lv (lv' := [(0, .ref (x.1 37)), (3, .int p3), (4, .int p8)]) [0, 2, 3] rfl ?_
        exact hJ12 (0 : Int32)
def sX8_hangs (F : Nat) (a1 : Int32) (M : Mem) : Option (Int32 × Mem) :=
(sX8_isMatter F a1 M).bind (fun r1 =>
if r1.1 = true then
((sX8_hangsOf F a1 r1.2).bind (fun r2 =>
some (r2, r1.2)))
else
(some ((-2 : Int32), r1.2)))
theorem mvX8_hangs : MV yX8_hangs cX8_hangs 2 (some .int) 1 := ⟨⟨m_1164, m_76, by decide, by decide, by decide⟩, m_1162, m_1163⟩
set_option maxHeartbeats 4000000 in
set_option maxRecDepth 100000 in
theorem ctX8_hangs (x : Wx) (F : Nat) (a1 : Int32) (M : Mem) : Ct x yX8_hangs cX8_hangs 2 (some .int) { frames := 7, cells := 0, slots := 0, locals := 165 } φIM [.ref (x.1 37), .int a1] M (sX8_hangs F a1 M) := by
  refine ct_of (by decide) (Nat.le_of_ble_eq_true rfl) (fun f hC hm => ?_)
  have hC : Cx x f "AnswersFirstModel" cX8_hangs 2 { frames := 7, cells := 0, slots := 0, locals := 165 } := hC
  show GG x f 2 (Qm x f φIM) 0 [(0, .ref (x.1 37)), (1, .int a1)] [] M _
  unfold sX8_hangs
  refine g_aload_n hC 0 dX8_hangs_0 rfl rfl ?_
  refine g_iload_n hC 1 dX8_hangs_1 rfl rfl ?_
  refine g_callv hC (st := []) (c := 8) rfl (by decide) rfl (ctX8_isMatter x F a1 M) mvX8_isMatter m_1034 (by decide) rfl rfl (Nat.le_of_ble_eq_true rfl) dX8_hangs_2 (fun r1 => ?_)
  show GG x f 2 (Qm x f φIM) 5 [(0, .ref (x.1 37)), (1, .int a1)] [.int (bi r1.1)] r1.2 _
  refine g_ifB_eq hC 16 dX8_hangs_5 (by decide) ?_ ?_
  · refine g_aload_n hC 0 dX8_hangs_8 rfl rfl ?_
    refine g_iload_n hC 1 dX8_hangs_9 rfl rfl ?_
    refine g_callv hC (st := []) (c := 8) rfl (by decide) rfl (ctX8_hangsOf x F a1 r1.2) mvX8_hangsOf m_1165 (by decide) rfl rfl (Nat.le_of_ble_eq_true rfl) dX8_hangs_10 (fun r2 => ?_)
    show GG x f 2 (Qm x f φIM) 13 [(0, .ref (x.1 37)), (1, .int a1)] [.int r2] r1.2 _
    refine g_goto hC 18 dX8_hangs_13 (by decide) ?_
    exact g_iret hC hm rfl dX8_hangs_18
  · refine g_bipush hC (v := (-2 : Int32)) dX8_hangs_16 (by decide) ?_
    exact g_iret hC hm rfl dX8_hangs_18
def sX8_ringsNow_L8 (F : Nat) (r1 : Mem) (rec4 : Int32 → Int32 → Option (Int32 × Mem)) (p2 : Int32) (p3 : Int32) : Option (Int32 × Mem) :=
if (r1 37 2) ≤ p3 then
(some (p2, r1))
else
((sX8_hangsOf F p3 r1).bind (fun r5 =>
(sX8_isIn F r5 p3 r1).bind (fun r6 =>
nm (fun (q7 : Int32) =>
nm (p2 ||| q7) (fun v9 =>
rec4 v9 (p3 + (1 : Int32)))) (fun J8 =>
if r6 = true then
(J8 ((1 : Int32) <<< (p3 &&& 31)))
else
(J8 (0 : Int32))))))
def sX8_ringsNow (F : Nat) (M : Mem) : Option (Int32 × Mem) :=
(sX8_reads F M).bind (fun r1 =>
fx2 F (sX8_ringsNow_L8 F r1) (0 : Int32) (0 : Int32))
theorem mvX8_ringsNow : MV yX8_ringsNow cX8_ringsNow 3 (some .int) 0 := ⟨⟨m_1180, m_76, by decide, by decide, by decide⟩, m_1179, m_49⟩
set_option maxHeartbeats 4000000 in
set_option maxRecDepth 100000 in
theorem ctX8_ringsNow (x : Wx) (F : Nat) (M : Mem) : Ct x yX8_ringsNow cX8_ringsNow 3 (some .int) { frames := 6, cells := 0, slots := 0, locals := 144 } φIM [.ref (x.1 37)] M (sX8_ringsNow F M) := by
  refine ct_of (by decide) (Nat.le_of_ble_eq_true rfl) (fun f hC hm => ?_)
  have hC : Cx x f "AnswersFirstModel" cX8_ringsNow 3 { frames := 6, cells := 0, slots := 0, locals := 144 } := hC
  show GG x f 3 (Qm x f φIM) 0 [(0, .ref (x.1 37))] [] M _
  unfold sX8_ringsNow
  refine g_aload_n hC 0 dX8_ringsNow_0 rfl rfl ?_
  refine g_callv hC (st := []) (c := 8) rfl (by decide) rfl (ctX8_reads x F M) mvX8_reads m_1038 (by decide) rfl rfl (Nat.le_of_ble_eq_true rfl) dX8_ringsNow_1 (fun r1 => ?_)
  show GG x f 3 (Qm x f φIM) 4 [(0, .ref (x.1 37))] [] r1 _
  refine g_iconst hC (v := (0 : Int32)) dX8_ringsNow_4 (by decide) ?_
  refine g_istore_n hC (lv' := [(0, .ref (x.1 37)), (1, .int (0 : Int32))]) [1, 0] dX8_ringsNow_5 rfl (by decide) rfl ?_
  refine g_iconst hC (v := (0 : Int32)) dX8_ringsNow_6 (by decide) ?_
  refine g_istore_n hC (lv' := [(0, .ref (x.1 37)), (1, .int (0 : Int32)), (2, .int (0 : Int32))]) [1, 2, 0] dX8_ringsNow_7 rfl (by decide) rfl ?_
  refine g_fx2 (fun (p2 : Int32) (p3 : Int32) => [(0, .ref (x.1 37)), (1, .int p2), (2, .int p3)]) (fun (p2 : Int32) (p3 : Int32) => r1) (fun rec4 hrec4 p2 p3 => ?_) F _ _
  show GG x f 3 (Qm x f φIM) 8 [(0, .ref (x.1 37)), (1, .int p2), (2, .int p3)] [] r1 _
  unfold sX8_ringsNow_L8
  refine g_iload_n hC 2 dX8_ringsNow_8 rfl rfl ?_
  refine g_aload_n hC 0 dX8_ringsNow_9 rfl rfl ?_
  refine g_getI hC cf8 rfl 2 (by decide) rfl m_911 dX8_ringsNow_10 ?_
  refine g_icmp_ge hC 44 dX8_ringsNow_13 (by decide) ?_ ?_
  · refine g_iload_n hC 1 dX8_ringsNow_44 rfl rfl ?_
    exact g_iret hC hm rfl dX8_ringsNow_45
  · refine g_iload_n hC 1 dX8_ringsNow_16 rfl rfl ?_
    refine g_aload_n hC 0 dX8_ringsNow_17 rfl rfl ?_
    refine g_iload_n hC 2 dX8_ringsNow_18 rfl rfl ?_
    refine g_callv hC (st := [.int p2]) (c := 8) rfl (by decide) rfl (ctX8_hangsOf x F p3 r1) mvX8_hangsOf m_1165 (by decide) rfl rfl (Nat.le_of_ble_eq_true rfl) dX8_ringsNow_19 (fun r5 => ?_)
    show GG x f 3 (Qm x f φIM) 22 [(0, .ref (x.1 37)), (1, .int p2), (2, .int p3)] [.int r5, .int p2] r1 _
    refine g_iload_n hC 2 dX8_ringsNow_22 rfl rfl ?_
    refine g_calls hC (st := [.int p2]) (ctX8_isIn x F r5 p3 r1) msX8_isIn m_1091 (by decide) rfl rfl (Nat.le_of_ble_eq_true rfl) dX8_ringsNow_23 (fun r6 => ?_)
    show GG x f 3 (Qm x f φIM) 26 [(0, .ref (x.1 37)), (1, .int p2), (2, .int p3)] [.int (bi r6), .int p2] r1 _
    refine g_nm (fun (J8 : Int32 → Option (Int32 × Mem)) => ∀ (q7 : Int32), GG x f 3 (Qm x f φIM) 36 [(0, .ref (x.1 37)), (2, .int p3)] [.int q7, .int p2] r1 (J8 q7)) (fun q7 => ?_) (fun J8 hJ8 => ?_)
    · show GG x f 3 (Qm x f φIM) 36 [(0, .ref (x.1 37)), (2, .int p3)] [.int q7, .int p2] r1 _
      refine g_ior hC dX8_ringsNow_36 ?_
      refine g_top (fun v9 => ?_)
      show GG x f 3 (Qm x f φIM) 37 [(0, .ref (x.1 37)), (2, .int p3)] [.int v9] r1 _
      refine g_istore_n hC (lv' := [(0, .ref (x.1 37)), (1, .int v9), (2, .int p3)]) [1, 0, 2] dX8_ringsNow_37 rfl (by decide) rfl ?_
      refine g_iinc hC (q := 2) (v := (1 : Int32)) (lv' := [(0, .ref (x.1 37)), (1, .int v9), (2, .int (p3 + (1 : Int32)))]) [1, 2, 0] dX8_ringsNow_38 rfl (by decide) (by decide) rfl ?_
      refine g_goto hC 8 dX8_ringsNow_41 (by decide) ?_
      exact hrec4 v9 (p3 + (1 : Int32))
    refine g_ifB_eq hC 35 dX8_ringsNow_26 (by decide) ?_ ?_
    · refine g_iconst hC (v := (1 : Int32)) dX8_ringsNow_29 (by decide) ?_
      refine g_iload_n hC 2 dX8_ringsNow_30 rfl rfl ?_
      refine g_ishl hC dX8_ringsNow_31 ?_
      refine g_goto hC 36 dX8_ringsNow_32 (by decide) ?_
      refine g_lv (lv' := [(0, .ref (x.1 37)), (2, .int p3)]) [0, 2] rfl ?_
      exact hJ8 ((1 : Int32) <<< (p3 &&& 31))
    · refine g_iconst hC (v := (0 : Int32)) dX8_ringsNow_35 (by decide) ?_
      refine g_lv (lv' := [(0, .ref (x.1 37)), (2, .int p3)]) [0, 2] rfl ?_
      exact hJ8 (0 : Int32)
def sX8_rings (F : Nat) (M : Mem) : Option (Int32 × Mem) :=
(sX8_ringsNow F M).bind (fun r1 =>
some (r1.1, r1.2))
theorem mvX8_rings : MV yX8_rings cX8_rings 1 (some .int) 0 := ⟨⟨m_1176, m_76, by decide, by decide, by decide⟩, m_1174, m_1175⟩
set_option maxHeartbeats 4000000 in
set_option maxRecDepth 100000 in
theorem ctX8_rings (x : Wx) (F : Nat) (M : Mem) : Ct x yX8_rings cX8_rings 1 (some .int) { frames := 7, cells := 0, slots := 0, locals := 166 } φIM [.ref (x.1 37)] M (sX8_rings F M) := by
  refine ct_of (by decide) (Nat.le_of_ble_eq_true rfl) (fun f hC hm => ?_)
  have hC : Cx x f "AnswersFirstModel" cX8_rings 1 { frames := 7, cells := 0, slots := 0, locals := 166 } := hC
  show GG x f 1 (Qm x f φIM) 0 [(0, .ref (x.1 37))] [] M _
  unfold sX8_rings
  refine g_aload_n hC 0 dX8_rings_0 rfl rfl ?_
  refine g_callv hC (st := []) (c := 8) rfl (by decide) rfl (ctX8_ringsNow x F M) mvX8_ringsNow m_1177 (by decide) rfl rfl (Nat.le_of_ble_eq_true rfl) dX8_rings_1 (fun r1 => ?_)
  show GG x f 1 (Qm x f φIM) 4 [(0, .ref (x.1 37))] [.int (r1.1)] r1.2 _
  exact g_iret hC hm rfl dX8_rings_4
def sX8_isPerson (F : Nat) (a1 : Int32) (M : Mem) : Option Bool :=
(sX8_in F a1 (0 : Int32) (5 : Int32) M).bind (fun r1 =>
some r1)
theorem msX8_isPerson : MS yX8_isPerson cX8_isPerson 1 (some .boolean) 1 := ⟨⟨m_1187, m_76, by decide, by decide, by decide⟩, m_1186⟩
set_option maxHeartbeats 4000000 in
set_option maxRecDepth 100000 in
theorem ctX8_isPerson (x : Wx) (F : Nat) (a1 : Int32) (M : Mem) : Ct x yX8_isPerson cX8_isPerson 1 (some .boolean) { frames := 1, cells := 0, slots := 0, locals := 22 } (φB M) [.int a1] M (sX8_isPerson F a1 M) := by
  refine ct_of (by decide) (Nat.le_of_ble_eq_true rfl) (fun f hC hm => ?_)
  have hC : Cx x f "AnswersFirstModel" cX8_isPerson 1 { frames := 1, cells := 0, slots := 0, locals := 22 } := hC
  show GG x f 1 (Qm x f (φB M)) 0 [(0, .int a1)] [] M _
  unfold sX8_isPerson
  refine g_iload_n hC 0 dX8_isPerson_0 rfl rfl ?_
  refine g_iconst hC (v := (0 : Int32)) dX8_isPerson_1 (by decide) ?_
  refine g_iconst hC (v := (5 : Int32)) dX8_isPerson_2 (by decide) ?_
  refine g_calls hC (st := []) (ctX8_in x F a1 (0 : Int32) (5 : Int32) M) msX8_in m_987 (by decide) rfl rfl (Nat.le_of_ble_eq_true rfl) dX8_isPerson_3 (fun r1 => ?_)
  show GG x f 1 (Qm x f (φB M)) 6 [(0, .int a1)] [.int (bi r1)] M _
  exact g_zret hC hm (bi_nar _) rfl dX8_isPerson_6
def sX8_isDay (F : Nat) (a1 : Int32) (M : Mem) : Option Bool :=
(sX8_in F a1 (0 : Int32) (99 : Int32) M).bind (fun r1 =>
some r1)
theorem msX8_isDay : MS yX8_isDay cX8_isDay 1 (some .boolean) 1 := ⟨⟨m_1190, m_76, by decide, by decide, by decide⟩, m_1189⟩
set_option maxHeartbeats 4000000 in
set_option maxRecDepth 100000 in
theorem ctX8_isDay (x : Wx) (F : Nat) (a1 : Int32) (M : Mem) : Ct x yX8_isDay cX8_isDay 1 (some .boolean) { frames := 1, cells := 0, slots := 0, locals := 22 } (φB M) [.int a1] M (sX8_isDay F a1 M) := by
  refine ct_of (by decide) (Nat.le_of_ble_eq_true rfl) (fun f hC hm => ?_)
  have hC : Cx x f "AnswersFirstModel" cX8_isDay 1 { frames := 1, cells := 0, slots := 0, locals := 22 } := hC
  show GG x f 1 (Qm x f (φB M)) 0 [(0, .int a1)] [] M _
  unfold sX8_isDay
  refine g_iload_n hC 0 dX8_isDay_0 rfl rfl ?_
  refine g_iconst hC (v := (0 : Int32)) dX8_isDay_1 (by decide) ?_
  refine g_bipush hC (v := (99 : Int32)) dX8_isDay_2 (by decide) ?_
  refine g_calls hC (st := []) (ctX8_in x F a1 (0 : Int32) (99 : Int32) M) msX8_in m_987 (by decide) rfl rfl (Nat.le_of_ble_eq_true rfl) dX8_isDay_4 (fun r1 => ?_)
  show GG x f 1 (Qm x f (φB M)) 7 [(0, .int a1)] [.int (bi r1)] M _
  exact g_zret hC hm (bi_nar _) rfl dX8_isDay_7
def sX8_hadOf_L14 (F : Nat) (a2 : Int32) (a3 : Int32) (r1 : (Int32 × Mem)) (v2 : Int32) (rec5 : Int32 → Int32 → Option (Int32 × Mem)) (p3 : Int32) (p4 : Int32) : Option (Int32 × Mem) :=
if (r1.2 37 2) ≤ p4 then
(some (p3, r1.2))
else
((sX8_isIn F v2 p4 r1.2).bind (fun r6 =>
nm (fun (q7 : Int32) =>
nm (p3 ||| q7) (fun v9 =>
rec5 v9 (p4 + (1 : Int32)))) (fun J8 =>
nm (J8 (0 : Int32)) (fun J10 =>
if r6 = true then
(ib ((6 : Int32) * p4) 66 (
if ¬ (r1.2 40 (ix ((6 : Int32) * p4))) = a2 then
(J10)
else
(ib (((6 : Int32) * p4) + (2 : Int32)) 66 (
if a3 < ((r1.2 40 (ix (((6 : Int32) * p4) + (2 : Int32)))) - (r1.2 37 6)) then
(J10)
else
(J8 ((1 : Int32) <<< (p4 &&& 31)))))))
else
(J10)))))
def sX8_hadOf (F : Nat) (a1 : Int32) (a2 : Int32) (a3 : Int32) (M : Mem) : Option (Int32 × Mem) :=
(sX8_there F M).bind (fun r1 =>
nm (a1 &&& r1.1) (fun v2 =>
fx2 F (sX8_hadOf_L14 F a2 a3 r1 v2) (0 : Int32) (0 : Int32)))
theorem mvX8_hadOf : MV yX8_hadOf cX8_hadOf 7 (some .int) 3 := ⟨⟨m_1194, m_76, by decide, by decide, by decide⟩, m_1193, m_50⟩
set_option maxHeartbeats 4000000 in
set_option maxRecDepth 100000 in
theorem ctX8_hadOf (x : Wx) (F : Nat) (a1 : Int32) (a2 : Int32) (a3 : Int32) (M : Mem) : Ct x yX8_hadOf cX8_hadOf 7 (some .int) { frames := 7, cells := 0, slots := 0, locals := 164 } φIM [.ref (x.1 37), .int a1, .int a2, .int a3] M (sX8_hadOf F a1 a2 a3 M) := by
  refine ct_of (by decide) (Nat.le_of_ble_eq_true rfl) (fun f hC hm => ?_)
  have hC : Cx x f "AnswersFirstModel" cX8_hadOf 7 { frames := 7, cells := 0, slots := 0, locals := 164 } := hC
  show GG x f 7 (Qm x f φIM) 0 [(0, .ref (x.1 37)), (1, .int a1), (2, .int a2), (3, .int a3)] [] M _
  unfold sX8_hadOf
  refine g_iconst hC (v := (0 : Int32)) dX8_hadOf_0 (by decide) ?_
  refine g_istore hC (lv' := [(0, .ref (x.1 37)), (1, .int a1), (2, .int a2), (3, .int a3), (4, .int (0 : Int32))]) [1, 2, 3, 4, 0] dX8_hadOf_1 (by decide) rfl ?_
  refine g_iload_n hC 1 dX8_hadOf_3 rfl rfl ?_
  refine g_aload_n hC 0 dX8_hadOf_4 rfl rfl ?_
  refine g_callv hC (st := [.int a1]) (c := 8) rfl (by decide) rfl (ctX8_there x F M) mvX8_there m_1079 (by decide) rfl rfl (Nat.le_of_ble_eq_true rfl) dX8_hadOf_5 (fun r1 => ?_)
  show GG x f 7 (Qm x f φIM) 8 [(0, .ref (x.1 37)), (1, .int a1), (2, .int a2), (3, .int a3), (4, .int (0 : Int32))] [.int (r1.1), .int a1] r1.2 _
  refine g_iand hC dX8_hadOf_8 ?_
  refine g_top (fun v2 => ?_)
  show GG x f 7 (Qm x f φIM) 9 [(0, .ref (x.1 37)), (1, .int a1), (2, .int a2), (3, .int a3), (4, .int (0 : Int32))] [.int v2] r1.2 _
  refine g_istore hC (lv' := [(0, .ref (x.1 37)), (2, .int a2), (3, .int a3), (4, .int (0 : Int32)), (5, .int v2)]) [1, 3, 4, 5, 0] dX8_hadOf_9 (by decide) rfl ?_
  refine g_iconst hC (v := (0 : Int32)) dX8_hadOf_11 (by decide) ?_
  refine g_istore hC (lv' := [(0, .ref (x.1 37)), (2, .int a2), (3, .int a3), (4, .int (0 : Int32)), (5, .int v2), (6, .int (0 : Int32))]) [1, 2, 3, 4, 5, 0] dX8_hadOf_12 (by decide) rfl ?_
  refine g_fx2 (fun (p3 : Int32) (p4 : Int32) => [(0, .ref (x.1 37)), (2, .int a2), (3, .int a3), (4, .int p3), (5, .int v2), (6, .int p4)]) (fun (p3 : Int32) (p4 : Int32) => r1.2) (fun rec5 hrec5 p3 p4 => ?_) F _ _
  show GG x f 7 (Qm x f φIM) 14 [(0, .ref (x.1 37)), (2, .int a2), (3, .int a3), (4, .int p3), (5, .int v2), (6, .int p4)] [] r1.2 _
  unfold sX8_hadOf_L14
  refine g_iload hC 5 dX8_hadOf_14 rfl ?_
  refine g_aload_n hC 0 dX8_hadOf_16 rfl rfl ?_
  refine g_getI hC cf8 rfl 2 (by decide) rfl m_911 dX8_hadOf_17 ?_
  refine g_icmp_ge hC 87 dX8_hadOf_20 (by decide) ?_ ?_
  · refine g_iload hC 3 dX8_hadOf_87 rfl ?_
    exact g_iret hC hm rfl dX8_hadOf_89
  · refine g_iload hC 3 dX8_hadOf_23 rfl ?_
    refine g_iload hC 4 dX8_hadOf_25 rfl ?_
    refine g_iload hC 5 dX8_hadOf_27 rfl ?_
    refine g_calls hC (st := [.int p3]) (ctX8_isIn x F v2 p4 r1.2) msX8_isIn m_1091 (by decide) rfl rfl (Nat.le_of_ble_eq_true rfl) dX8_hadOf_29 (fun r6 => ?_)
    show GG x f 7 (Qm x f φIM) 32 [(0, .ref (x.1 37)), (2, .int a2), (3, .int a3), (4, .int p3), (5, .int v2), (6, .int p4)] [.int (bi r6), .int p3] r1.2 _
    refine g_nm (fun (J8 : Int32 → Option (Int32 × Mem)) => ∀ (q7 : Int32), GG x f 7 (Qm x f φIM) 78 [(0, .ref (x.1 37)), (2, .int a2), (3, .int a3), (5, .int v2), (6, .int p4)] [.int q7, .int p3] r1.2 (J8 q7)) (fun q7 => ?_) (fun J8 hJ8 => ?_)
    · show GG x f 7 (Qm x f φIM) 78 [(0, .ref (x.1 37)), (2, .int a2), (3, .int a3), (5, .int v2), (6, .int p4)] [.int q7, .int p3] r1.2 _
      refine g_ior hC dX8_hadOf_78 ?_
      refine g_top (fun v9 => ?_)
      show GG x f 7 (Qm x f φIM) 79 [(0, .ref (x.1 37)), (2, .int a2), (3, .int a3), (5, .int v2), (6, .int p4)] [.int v9] r1.2 _
      refine g_istore hC (lv' := [(0, .ref (x.1 37)), (2, .int a2), (3, .int a3), (4, .int v9), (5, .int v2), (6, .int p4)]) [1, 2, 3, 0, 4, 5] dX8_hadOf_79 (by decide) rfl ?_
      refine g_iinc hC (q := 5) (v := (1 : Int32)) (lv' := [(0, .ref (x.1 37)), (2, .int a2), (3, .int a3), (4, .int v9), (5, .int v2), (6, .int (p4 + (1 : Int32)))]) [1, 2, 3, 4, 5, 0] dX8_hadOf_81 rfl (by decide) (by decide) rfl ?_
      refine g_goto hC 14 dX8_hadOf_84 (by decide) ?_
      exact hrec5 v9 (p4 + (1 : Int32))
    refine g_nm (fun (J10 : Option (Int32 × Mem)) => GG x f 7 (Qm x f φIM) 77 [(0, .ref (x.1 37)), (2, .int a2), (3, .int a3), (5, .int v2), (6, .int p4)] [.int p3] r1.2 J10) ?_ (fun J10 hJ10 => ?_)
    · show GG x f 7 (Qm x f φIM) 77 [(0, .ref (x.1 37)), (2, .int a2), (3, .int a3), (5, .int v2), (6, .int p4)] [.int p3] r1.2 _
      refine g_iconst hC (v := (0 : Int32)) dX8_hadOf_77 (by decide) ?_
      exact hJ8 (0 : Int32)
    refine g_ifB_eq hC 77 dX8_hadOf_32 (by decide) ?_ ?_
    · refine g_aload_n hC 0 dX8_hadOf_35 rfl rfl ?_
      refine g_getR hC cf8 (t := 40) rfl 3 (by decide) rfl m_912 dX8_hadOf_36 ?_
      refine g_bipush hC (v := (6 : Int32)) dX8_hadOf_39 (by decide) ?_
      refine g_iload hC 5 dX8_hadOf_41 rfl ?_
      refine g_imul hC dX8_hadOf_43 ?_
      refine g_iald hC rfl rfl dX8_hadOf_44 ?_
      refine g_iload_n hC 1 dX8_hadOf_45 rfl rfl ?_
      refine g_icmp_ne hC 77 dX8_hadOf_46 (by decide) ?_ ?_
      · refine g_lv (lv' := [(0, .ref (x.1 37)), (2, .int a2), (3, .int a3), (5, .int v2), (6, .int p4)]) [0, 1, 2, 4, 5] rfl ?_
        exact hJ10
      · refine g_aload_n hC 0 dX8_hadOf_49 rfl rfl ?_
        refine g_getR hC cf8 (t := 40) rfl 3 (by decide) rfl m_912 dX8_hadOf_50 ?_
        refine g_bipush hC (v := (6 : Int32)) dX8_hadOf_53 (by decide) ?_
        refine g_iload hC 5 dX8_hadOf_55 rfl ?_
        refine g_imul hC dX8_hadOf_57 ?_
        refine g_iconst hC (v := (2 : Int32)) dX8_hadOf_58 (by decide) ?_
        refine g_iadd hC dX8_hadOf_59 ?_
        refine g_iald hC rfl rfl dX8_hadOf_60 ?_
        refine g_aload_n hC 0 dX8_hadOf_61 rfl rfl ?_
        refine g_getI hC cf8 rfl 6 (by decide) rfl m_915 dX8_hadOf_62 ?_
        refine g_isub hC dX8_hadOf_65 ?_
        refine g_iload_n hC 2 dX8_hadOf_66 rfl rfl ?_
        refine g_icmp_gt hC 77 dX8_hadOf_67 (by decide) ?_ ?_
        · refine g_lv (lv' := [(0, .ref (x.1 37)), (2, .int a2), (3, .int a3), (5, .int v2), (6, .int p4)]) [0, 1, 2, 4, 5] rfl ?_
          exact hJ10
        · refine g_iconst hC (v := (1 : Int32)) dX8_hadOf_70 (by decide) ?_
          refine g_iload hC 5 dX8_hadOf_71 rfl ?_
          refine g_ishl hC dX8_hadOf_73 ?_
          refine g_goto hC 78 dX8_hadOf_74 (by decide) ?_
          refine g_lv (lv' := [(0, .ref (x.1 37)), (2, .int a2), (3, .int a3), (5, .int v2), (6, .int p4)]) [0, 1, 2, 4, 5] rfl ?_
          exact hJ8 ((1 : Int32) <<< (p4 &&& 31))
    · refine g_lv (lv' := [(0, .ref (x.1 37)), (2, .int a2), (3, .int a3), (5, .int v2), (6, .int p4)]) [0, 1, 2, 4, 5] rfl ?_
      exact hJ10
def sX8_had (F : Nat) (a1 : Int32) (a2 : Int32) (a3 : Int32) (M : Mem) : Option (Int32 × Mem) :=
(sX8_isRow F a1 M).bind (fun r1 =>
if r1 = true then
((sX8_isPerson F a2 M).bind (fun r2 =>
if r2 = true then
((sX8_isDay F a3 M).bind (fun r3 =>
if r3 = true then
((sX8_hadOf F a1 a2 a3 M).bind (fun r4 =>
some (r4.1, r4.2)))
else
(some ((-2 : Int32), M))))
else
(some ((-2 : Int32), M))))
else
(some ((-2 : Int32), M)))
theorem mvX8_had : MV yX8_had cX8_had 4 (some .int) 3 := ⟨⟨m_1184, m_76, by decide, by decide, by decide⟩, m_1182, m_1183⟩
set_option maxHeartbeats 4000000 in
set_option maxRecDepth 100000 in
theorem ctX8_had (x : Wx) (F : Nat) (a1 : Int32) (a2 : Int32) (a3 : Int32) (M : Mem) : Ct x yX8_had cX8_had 4 (some .int) { frames := 8, cells := 0, slots := 0, locals := 190 } φIM [.ref (x.1 37), .int a1, .int a2, .int a3] M (sX8_had F a1 a2 a3 M) := by
  refine ct_of (by decide) (Nat.le_of_ble_eq_true rfl) (fun f hC hm => ?_)
  have hC : Cx x f "AnswersFirstModel" cX8_had 4 { frames := 8, cells := 0, slots := 0, locals := 190 } := hC
  show GG x f 4 (Qm x f φIM) 0 [(0, .ref (x.1 37)), (1, .int a1), (2, .int a2), (3, .int a3)] [] M _
  unfold sX8_had
  refine g_iload_n hC 1 dX8_had_0 rfl rfl ?_
  refine g_calls hC (st := []) (ctX8_isRow x F a1 M) msX8_isRow m_1072 (by decide) rfl rfl (Nat.le_of_ble_eq_true rfl) dX8_had_1 (fun r1 => ?_)
  show GG x f 4 (Qm x f φIM) 4 [(0, .ref (x.1 37)), (1, .int a1), (2, .int a2), (3, .int a3)] [.int (bi r1)] M _
  refine g_ifB_eq hC 31 dX8_had_4 (by decide) ?_ ?_
  · refine g_iload_n hC 2 dX8_had_7 rfl rfl ?_
    refine g_calls hC (st := []) (ctX8_isPerson x F a2 M) msX8_isPerson m_1185 (by decide) rfl rfl (Nat.le_of_ble_eq_true rfl) dX8_had_8 (fun r2 => ?_)
    show GG x f 4 (Qm x f φIM) 11 [(0, .ref (x.1 37)), (1, .int a1), (2, .int a2), (3, .int a3)] [.int (bi r2)] M _
    refine g_ifB_eq hC 31 dX8_had_11 (by decide) ?_ ?_
    · refine g_iload_n hC 3 dX8_had_14 rfl rfl ?_
      refine g_calls hC (st := []) (ctX8_isDay x F a3 M) msX8_isDay m_1188 (by decide) rfl rfl (Nat.le_of_ble_eq_true rfl) dX8_had_15 (fun r3 => ?_)
      show GG x f 4 (Qm x f φIM) 18 [(0, .ref (x.1 37)), (1, .int a1), (2, .int a2), (3, .int a3)] [.int (bi r3)] M _
      refine g_ifB_eq hC 31 dX8_had_18 (by decide) ?_ ?_
      · refine g_aload_n hC 0 dX8_had_21 rfl rfl ?_
        refine g_iload_n hC 1 dX8_had_22 rfl rfl ?_
        refine g_iload_n hC 2 dX8_had_23 rfl rfl ?_
        refine g_iload_n hC 3 dX8_had_24 rfl rfl ?_
        refine g_callv hC (st := []) (c := 8) rfl (by decide) rfl (ctX8_hadOf x F a1 a2 a3 M) mvX8_hadOf m_1191 (by decide) rfl rfl (Nat.le_of_ble_eq_true rfl) dX8_had_25 (fun r4 => ?_)
        show GG x f 4 (Qm x f φIM) 28 [(0, .ref (x.1 37)), (1, .int a1), (2, .int a2), (3, .int a3)] [.int (r4.1)] r4.2 _
        refine g_goto hC 33 dX8_had_28 (by decide) ?_
        exact g_iret hC hm rfl dX8_had_33
      · refine g_bipush hC (v := (-2 : Int32)) dX8_had_31 (by decide) ?_
        exact g_iret hC hm rfl dX8_had_33
    · refine g_bipush hC (v := (-2 : Int32)) dX8_had_31 (by decide) ?_
      exact g_iret hC hm rfl dX8_had_33
  · refine g_bipush hC (v := (-2 : Int32)) dX8_had_31 (by decide) ?_
    exact g_iret hC hm rfl dX8_had_33
def sX8_askedOf_L14 (F : Nat) (a2 : Int32) (a3 : Int32) (r1 : (Int32 × Mem)) (v2 : Int32) (rec5 : Int32 → Int32 → Option (Int32 × Mem)) (p3 : Int32) (p4 : Int32) : Option (Int32 × Mem) :=
if (r1.2 37 2) ≤ p4 then
(some (p3, r1.2))
else
((sX8_isIn F v2 p4 r1.2).bind (fun r6 =>
nm (fun (q7 : Int32) =>
nm (p3 ||| q7) (fun v9 =>
rec5 v9 (p4 + (1 : Int32)))) (fun J8 =>
nm (J8 (0 : Int32)) (fun J10 =>
if r6 = true then
(ib ((6 : Int32) * p4) 66 (
if ¬ (r1.2 40 (ix ((6 : Int32) * p4))) = a2 then
(J10)
else
(ib (((6 : Int32) * p4) + (2 : Int32)) 66 (
if a3 < (r1.2 40 (ix (((6 : Int32) * p4) + (2 : Int32)))) then
(J10)
else
(J8 ((1 : Int32) <<< (p4 &&& 31)))))))
else
(J10)))))
def sX8_askedOf (F : Nat) (a1 : Int32) (a2 : Int32) (a3 : Int32) (M : Mem) : Option (Int32 × Mem) :=
(sX8_there F M).bind (fun r1 =>
nm (a1 &&& r1.1) (fun v2 =>
fx2 F (sX8_askedOf_L14 F a2 a3 r1 v2) (0 : Int32) (0 : Int32)))
theorem mvX8_askedOf : MV yX8_askedOf cX8_askedOf 7 (some .int) 3 := ⟨⟨m_1202, m_76, by decide, by decide, by decide⟩, m_1201, m_51⟩
set_option maxHeartbeats 4000000 in
set_option maxRecDepth 100000 in
theorem ctX8_askedOf (x : Wx) (F : Nat) (a1 : Int32) (a2 : Int32) (a3 : Int32) (M : Mem) : Ct x yX8_askedOf cX8_askedOf 7 (some .int) { frames := 7, cells := 0, slots := 0, locals := 164 } φIM [.ref (x.1 37), .int a1, .int a2, .int a3] M (sX8_askedOf F a1 a2 a3 M) := by
  refine ct_of (by decide) (Nat.le_of_ble_eq_true rfl) (fun f hC hm => ?_)
  have hC : Cx x f "AnswersFirstModel" cX8_askedOf 7 { frames := 7, cells := 0, slots := 0, locals := 164 } := hC
  show GG x f 7 (Qm x f φIM) 0 [(0, .ref (x.1 37)), (1, .int a1), (2, .int a2), (3, .int a3)] [] M _
  unfold sX8_askedOf
  refine g_iconst hC (v := (0 : Int32)) dX8_askedOf_0 (by decide) ?_
  refine g_istore hC (lv' := [(0, .ref (x.1 37)), (1, .int a1), (2, .int a2), (3, .int a3), (4, .int (0 : Int32))]) [1, 2, 3, 4, 0] dX8_askedOf_1 (by decide) rfl ?_
  refine g_iload_n hC 1 dX8_askedOf_3 rfl rfl ?_
  refine g_aload_n hC 0 dX8_askedOf_4 rfl rfl ?_
  refine g_callv hC (st := [.int a1]) (c := 8) rfl (by decide) rfl (ctX8_there x F M) mvX8_there m_1079 (by decide) rfl rfl (Nat.le_of_ble_eq_true rfl) dX8_askedOf_5 (fun r1 => ?_)
  show GG x f 7 (Qm x f φIM) 8 [(0, .ref (x.1 37)), (1, .int a1), (2, .int a2), (3, .int a3), (4, .int (0 : Int32))] [.int (r1.1), .int a1] r1.2 _
  refine g_iand hC dX8_askedOf_8 ?_
  refine g_top (fun v2 => ?_)
  show GG x f 7 (Qm x f φIM) 9 [(0, .ref (x.1 37)), (1, .int a1), (2, .int a2), (3, .int a3), (4, .int (0 : Int32))] [.int v2] r1.2 _
  refine g_istore hC (lv' := [(0, .ref (x.1 37)), (2, .int a2), (3, .int a3), (4, .int (0 : Int32)), (5, .int v2)]) [1, 3, 4, 5, 0] dX8_askedOf_9 (by decide) rfl ?_
  refine g_iconst hC (v := (0 : Int32)) dX8_askedOf_11 (by decide) ?_
  refine g_istore hC (lv' := [(0, .ref (x.1 37)), (2, .int a2), (3, .int a3), (4, .int (0 : Int32)), (5, .int v2), (6, .int (0 : Int32))]) [1, 2, 3, 4, 5, 0] dX8_askedOf_12 (by decide) rfl ?_
  refine g_fx2 (fun (p3 : Int32) (p4 : Int32) => [(0, .ref (x.1 37)), (2, .int a2), (3, .int a3), (4, .int p3), (5, .int v2), (6, .int p4)]) (fun (p3 : Int32) (p4 : Int32) => r1.2) (fun rec5 hrec5 p3 p4 => ?_) F _ _
  show GG x f 7 (Qm x f φIM) 14 [(0, .ref (x.1 37)), (2, .int a2), (3, .int a3), (4, .int p3), (5, .int v2), (6, .int p4)] [] r1.2 _
  unfold sX8_askedOf_L14
  refine g_iload hC 5 dX8_askedOf_14 rfl ?_
  refine g_aload_n hC 0 dX8_askedOf_16 rfl rfl ?_
  refine g_getI hC cf8 rfl 2 (by decide) rfl m_911 dX8_askedOf_17 ?_
  refine g_icmp_ge hC 82 dX8_askedOf_20 (by decide) ?_ ?_
  · refine g_iload hC 3 dX8_askedOf_82 rfl ?_
    exact g_iret hC hm rfl dX8_askedOf_84
  · refine g_iload hC 3 dX8_askedOf_23 rfl ?_
    refine g_iload hC 4 dX8_askedOf_25 rfl ?_
    refine g_iload hC 5 dX8_askedOf_27 rfl ?_
    refine g_calls hC (st := [.int p3]) (ctX8_isIn x F v2 p4 r1.2) msX8_isIn m_1091 (by decide) rfl rfl (Nat.le_of_ble_eq_true rfl) dX8_askedOf_29 (fun r6 => ?_)
    show GG x f 7 (Qm x f φIM) 32 [(0, .ref (x.1 37)), (2, .int a2), (3, .int a3), (4, .int p3), (5, .int v2), (6, .int p4)] [.int (bi r6), .int p3] r1.2 _
    refine g_nm (fun (J8 : Int32 → Option (Int32 × Mem)) => ∀ (q7 : Int32), GG x f 7 (Qm x f φIM) 73 [(0, .ref (x.1 37)), (2, .int a2), (3, .int a3), (5, .int v2), (6, .int p4)] [.int q7, .int p3] r1.2 (J8 q7)) (fun q7 => ?_) (fun J8 hJ8 => ?_)
    · show GG x f 7 (Qm x f φIM) 73 [(0, .ref (x.1 37)), (2, .int a2), (3, .int a3), (5, .int v2), (6, .int p4)] [.int q7, .int p3] r1.2 _
      refine g_ior hC dX8_askedOf_73 ?_
      refine g_top (fun v9 => ?_)
      show GG x f 7 (Qm x f φIM) 74 [(0, .ref (x.1 37)), (2, .int a2), (3, .int a3), (5, .int v2), (6, .int p4)] [.int v9] r1.2 _
      refine g_istore hC (lv' := [(0, .ref (x.1 37)), (2, .int a2), (3, .int a3), (4, .int v9), (5, .int v2), (6, .int p4)]) [1, 2, 3, 0, 4, 5] dX8_askedOf_74 (by decide) rfl ?_
      refine g_iinc hC (q := 5) (v := (1 : Int32)) (lv' := [(0, .ref (x.1 37)), (2, .int a2), (3, .int a3), (4, .int v9), (5, .int v2), (6, .int (p4 + (1 : Int32)))]) [1, 2, 3, 4, 5, 0] dX8_askedOf_76 rfl (by decide) (by decide) rfl ?_
      refine g_goto hC 14 dX8_askedOf_79 (by decide) ?_
      exact hrec5 v9 (p4 + (1 : Int32))
    refine g_nm (fun (J10 : Option (Int32 × Mem)) => GG x f 7 (Qm x f φIM) 72 [(0, .ref (x.1 37)), (2, .int a2), (3, .int a3), (5, .int v2), (6, .int p4)] [.int p3] r1.2 J10) ?_ (fun J10 hJ10 => ?_)
    · show GG x f 7 (Qm x f φIM) 72 [(0, .ref (x.1 37)), (2, .int a2), (3, .int a3), (5, .int v2), (6, .int p4)] [.int p3] r1.2 _
      refine g_iconst hC (v := (0 : Int32)) dX8_askedOf_72 (by decide) ?_
      exact hJ8 (0 : Int32)
    refine g_ifB_eq hC 72 dX8_askedOf_32 (by decide) ?_ ?_
    · refine g_aload_n hC 0 dX8_askedOf_35 rfl rfl ?_
      refine g_getR hC cf8 (t := 40) rfl 3 (by decide) rfl m_912 dX8_askedOf_36 ?_
      refine g_bipush hC (v := (6 : Int32)) dX8_askedOf_39 (by decide) ?_
      refine g_iload hC 5 dX8_askedOf_41 rfl ?_
      refine g_imul hC dX8_askedOf_43 ?_
      refine g_iald hC rfl rfl dX8_askedOf_44 ?_
      refine g_iload_n hC 1 dX8_askedOf_45 rfl rfl ?_
      refine g_icmp_ne hC 72 dX8_askedOf_46 (by decide) ?_ ?_
      · refine g_lv (lv' := [(0, .ref (x.1 37)), (2, .int a2), (3, .int a3), (5, .int v2), (6, .int p4)]) [0, 1, 2, 4, 5] rfl ?_
        exact hJ10
      · refine g_aload_n hC 0 dX8_askedOf_49 rfl rfl ?_
        refine g_getR hC cf8 (t := 40) rfl 3 (by decide) rfl m_912 dX8_askedOf_50 ?_
        refine g_bipush hC (v := (6 : Int32)) dX8_askedOf_53 (by decide) ?_
        refine g_iload hC 5 dX8_askedOf_55 rfl ?_
        refine g_imul hC dX8_askedOf_57 ?_
        refine g_iconst hC (v := (2 : Int32)) dX8_askedOf_58 (by decide) ?_
        refine g_iadd hC dX8_askedOf_59 ?_
        refine g_iald hC rfl rfl dX8_askedOf_60 ?_
        refine g_iload_n hC 2 dX8_askedOf_61 rfl rfl ?_
        refine g_icmp_gt hC 72 dX8_askedOf_62 (by decide) ?_ ?_
        · refine g_lv (lv' := [(0, .ref (x.1 37)), (2, .int a2), (3, .int a3), (5, .int v2), (6, .int p4)]) [0, 1, 2, 4, 5] rfl ?_
          exact hJ10
        · refine g_iconst hC (v := (1 : Int32)) dX8_askedOf_65 (by decide) ?_
          refine g_iload hC 5 dX8_askedOf_66 rfl ?_
          refine g_ishl hC dX8_askedOf_68 ?_
          refine g_goto hC 73 dX8_askedOf_69 (by decide) ?_
          refine g_lv (lv' := [(0, .ref (x.1 37)), (2, .int a2), (3, .int a3), (5, .int v2), (6, .int p4)]) [0, 1, 2, 4, 5] rfl ?_
          exact hJ8 ((1 : Int32) <<< (p4 &&& 31))
    · refine g_lv (lv' := [(0, .ref (x.1 37)), (2, .int a2), (3, .int a3), (5, .int v2), (6, .int p4)]) [0, 1, 2, 4, 5] rfl ?_
      exact hJ10
def sX8_asked (F : Nat) (a1 : Int32) (a2 : Int32) (a3 : Int32) (M : Mem) : Option (Int32 × Mem) :=
(sX8_isRow F a1 M).bind (fun r1 =>
if r1 = true then
((sX8_isPerson F a2 M).bind (fun r2 =>
if r2 = true then
((sX8_isDay F a3 M).bind (fun r3 =>
if r3 = true then
((sX8_askedOf F a1 a2 a3 M).bind (fun r4 =>
some (r4.1, r4.2)))
else
(some ((-2 : Int32), M))))
else
(some ((-2 : Int32), M))))
else
(some ((-2 : Int32), M)))
theorem mvX8_asked : MV yX8_asked cX8_asked 4 (some .int) 3 := ⟨⟨m_1198, m_76, by decide, by decide, by decide⟩, m_1196, m_1197⟩
set_option maxHeartbeats 4000000 in
set_option maxRecDepth 100000 in
theorem ctX8_asked (x : Wx) (F : Nat) (a1 : Int32) (a2 : Int32) (a3 : Int32) (M : Mem) : Ct x yX8_asked cX8_asked 4 (some .int) { frames := 8, cells := 0, slots := 0, locals := 190 } φIM [.ref (x.1 37), .int a1, .int a2, .int a3] M (sX8_asked F a1 a2 a3 M) := by
  refine ct_of (by decide) (Nat.le_of_ble_eq_true rfl) (fun f hC hm => ?_)
  have hC : Cx x f "AnswersFirstModel" cX8_asked 4 { frames := 8, cells := 0, slots := 0, locals := 190 } := hC
  show GG x f 4 (Qm x f φIM) 0 [(0, .ref (x.1 37)), (1, .int a1), (2, .int a2), (3, .int a3)] [] M _
  unfold sX8_asked
  refine g_iload_n hC 1 dX8_asked_0 rfl rfl ?_
  refine g_calls hC (st := []) (ctX8_isRow x F a1 M) msX8_isRow m_1072 (by decide) rfl rfl (Nat.le_of_ble_eq_true rfl) dX8_asked_1 (fun r1 => ?_)
  show GG x f 4 (Qm x f φIM) 4 [(0, .ref (x.1 37)), (1, .int a1), (2, .int a2), (3, .int a3)] [.int (bi r1)] M _
  refine g_ifB_eq hC 31 dX8_asked_4 (by decide) ?_ ?_
  · refine g_iload_n hC 2 dX8_asked_7 rfl rfl ?_
    refine g_calls hC (st := []) (ctX8_isPerson x F a2 M) msX8_isPerson m_1185 (by decide) rfl rfl (Nat.le_of_ble_eq_true rfl) dX8_asked_8 (fun r2 => ?_)
    show GG x f 4 (Qm x f φIM) 11 [(0, .ref (x.1 37)), (1, .int a1), (2, .int a2), (3, .int a3)] [.int (bi r2)] M _
    refine g_ifB_eq hC 31 dX8_asked_11 (by decide) ?_ ?_
    · refine g_iload_n hC 3 dX8_asked_14 rfl rfl ?_
      refine g_calls hC (st := []) (ctX8_isDay x F a3 M) msX8_isDay m_1188 (by decide) rfl rfl (Nat.le_of_ble_eq_true rfl) dX8_asked_15 (fun r3 => ?_)
      show GG x f 4 (Qm x f φIM) 18 [(0, .ref (x.1 37)), (1, .int a1), (2, .int a2), (3, .int a3)] [.int (bi r3)] M _
      refine g_ifB_eq hC 31 dX8_asked_18 (by decide) ?_ ?_
      · refine g_aload_n hC 0 dX8_asked_21 rfl rfl ?_
        refine g_iload_n hC 1 dX8_asked_22 rfl rfl ?_
        refine g_iload_n hC 2 dX8_asked_23 rfl rfl ?_
        refine g_iload_n hC 3 dX8_asked_24 rfl rfl ?_
        refine g_callv hC (st := []) (c := 8) rfl (by decide) rfl (ctX8_askedOf x F a1 a2 a3 M) mvX8_askedOf m_1199 (by decide) rfl rfl (Nat.le_of_ble_eq_true rfl) dX8_asked_25 (fun r4 => ?_)
        show GG x f 4 (Qm x f φIM) 28 [(0, .ref (x.1 37)), (1, .int a1), (2, .int a2), (3, .int a3)] [.int (r4.1)] r4.2 _
        refine g_goto hC 33 dX8_asked_28 (by decide) ?_
        exact g_iret hC hm rfl dX8_asked_33
      · refine g_bipush hC (v := (-2 : Int32)) dX8_asked_31 (by decide) ?_
        exact g_iret hC hm rfl dX8_asked_33
    · refine g_bipush hC (v := (-2 : Int32)) dX8_asked_31 (by decide) ?_
      exact g_iret hC hm rfl dX8_asked_33
  · refine g_bipush hC (v := (-2 : Int32)) dX8_asked_31 (by decide) ?_
    exact g_iret hC hm rfl dX8_asked_33
def sX8_openOf_L13 (F : Nat) (a2 : Int32) (r1 : (Int32 × Mem)) (v2 : Int32) (rec5 : Int32 → Int32 → Option (Int32 × Mem)) (p3 : Int32) (p4 : Int32) : Option (Int32 × Mem) :=
if (r1.2 37 2) ≤ p4 then
(some (p3, r1.2))
else
((sX8_isIn F v2 p4 r1.2).bind (fun r6 =>
nm (fun (q7 : Int32) =>
nm (p3 ||| q7) (fun v9 =>
rec5 v9 (p4 + (1 : Int32)))) (fun J8 =>
nm (J8 (0 : Int32)) (fun J10 =>
if r6 = true then
(ib (((6 : Int32) * p4) + (2 : Int32)) 66 (
if a2 < ((r1.2 40 (ix (((6 : Int32) * p4) + (2 : Int32)))) - (r1.2 37 6)) then
(J10)
else
(ib (((6 : Int32) * p4) + (2 : Int32)) 66 (
if (r1.2 40 (ix (((6 : Int32) * p4) + (2 : Int32)))) ≤ a2 then
(J10)
else
(J8 ((1 : Int32) <<< (p4 &&& 31)))))))
else
(J10)))))
def sX8_openOf (F : Nat) (a1 : Int32) (a2 : Int32) (M : Mem) : Option (Int32 × Mem) :=
(sX8_there F M).bind (fun r1 =>
nm (a1 &&& r1.1) (fun v2 =>
fx2 F (sX8_openOf_L13 F a2 r1 v2) (0 : Int32) (0 : Int32)))
theorem mvX8_openOf : MV yX8_openOf cX8_openOf 6 (some .int) 2 := ⟨⟨m_1210, m_76, by decide, by decide, by decide⟩, m_1209, m_52⟩
set_option maxHeartbeats 4000000 in
set_option maxRecDepth 100000 in
theorem ctX8_openOf (x : Wx) (F : Nat) (a1 : Int32) (a2 : Int32) (M : Mem) : Ct x yX8_openOf cX8_openOf 6 (some .int) { frames := 7, cells := 0, slots := 0, locals := 164 } φIM [.ref (x.1 37), .int a1, .int a2] M (sX8_openOf F a1 a2 M) := by
  refine ct_of (by decide) (Nat.le_of_ble_eq_true rfl) (fun f hC hm => ?_)
  have hC : Cx x f "AnswersFirstModel" cX8_openOf 6 { frames := 7, cells := 0, slots := 0, locals := 164 } := hC
  show GG x f 6 (Qm x f φIM) 0 [(0, .ref (x.1 37)), (1, .int a1), (2, .int a2)] [] M _
  unfold sX8_openOf
  refine g_iconst hC (v := (0 : Int32)) dX8_openOf_0 (by decide) ?_
  refine g_istore_n hC (lv' := [(0, .ref (x.1 37)), (1, .int a1), (2, .int a2), (3, .int (0 : Int32))]) [1, 2, 3, 0] dX8_openOf_1 rfl (by decide) rfl ?_
  refine g_iload_n hC 1 dX8_openOf_2 rfl rfl ?_
  refine g_aload_n hC 0 dX8_openOf_3 rfl rfl ?_
  refine g_callv hC (st := [.int a1]) (c := 8) rfl (by decide) rfl (ctX8_there x F M) mvX8_there m_1079 (by decide) rfl rfl (Nat.le_of_ble_eq_true rfl) dX8_openOf_4 (fun r1 => ?_)
  show GG x f 6 (Qm x f φIM) 7 [(0, .ref (x.1 37)), (1, .int a1), (2, .int a2), (3, .int (0 : Int32))] [.int (r1.1), .int a1] r1.2 _
  refine g_iand hC dX8_openOf_7 ?_
  refine g_top (fun v2 => ?_)
  show GG x f 6 (Qm x f φIM) 8 [(0, .ref (x.1 37)), (1, .int a1), (2, .int a2), (3, .int (0 : Int32))] [.int v2] r1.2 _
  refine g_istore hC (lv' := [(0, .ref (x.1 37)), (2, .int a2), (3, .int (0 : Int32)), (4, .int v2)]) [1, 3, 4, 0] dX8_openOf_8 (by decide) rfl ?_
  refine g_iconst hC (v := (0 : Int32)) dX8_openOf_10 (by decide) ?_
  refine g_istore hC (lv' := [(0, .ref (x.1 37)), (2, .int a2), (3, .int (0 : Int32)), (4, .int v2), (5, .int (0 : Int32))]) [1, 2, 3, 4, 0] dX8_openOf_11 (by decide) rfl ?_
  refine g_fx2 (fun (p3 : Int32) (p4 : Int32) => [(0, .ref (x.1 37)), (2, .int a2), (3, .int p3), (4, .int v2), (5, .int p4)]) (fun (p3 : Int32) (p4 : Int32) => r1.2) (fun rec5 hrec5 p3 p4 => ?_) F _ _
  show GG x f 6 (Qm x f φIM) 13 [(0, .ref (x.1 37)), (2, .int a2), (3, .int p3), (4, .int v2), (5, .int p4)] [] r1.2 _
  unfold sX8_openOf_L13
  refine g_iload hC 4 dX8_openOf_13 rfl ?_
  refine g_aload_n hC 0 dX8_openOf_15 rfl rfl ?_
  refine g_getI hC cf8 rfl 2 (by decide) rfl m_911 dX8_openOf_16 ?_
  refine g_icmp_ge hC 86 dX8_openOf_19 (by decide) ?_ ?_
  · refine g_iload_n hC 2 dX8_openOf_86 rfl rfl ?_
    exact g_iret hC hm rfl dX8_openOf_87
  · refine g_iload_n hC 2 dX8_openOf_22 rfl rfl ?_
    refine g_iload hC 3 dX8_openOf_23 rfl ?_
    refine g_iload hC 4 dX8_openOf_25 rfl ?_
    refine g_calls hC (st := [.int p3]) (ctX8_isIn x F v2 p4 r1.2) msX8_isIn m_1091 (by decide) rfl rfl (Nat.le_of_ble_eq_true rfl) dX8_openOf_27 (fun r6 => ?_)
    show GG x f 6 (Qm x f φIM) 30 [(0, .ref (x.1 37)), (2, .int a2), (3, .int p3), (4, .int v2), (5, .int p4)] [.int (bi r6), .int p3] r1.2 _
    refine g_nm (fun (J8 : Int32 → Option (Int32 × Mem)) => ∀ (q7 : Int32), GG x f 6 (Qm x f φIM) 78 [(0, .ref (x.1 37)), (2, .int a2), (4, .int v2), (5, .int p4)] [.int q7, .int p3] r1.2 (J8 q7)) (fun q7 => ?_) (fun J8 hJ8 => ?_)
    · show GG x f 6 (Qm x f φIM) 78 [(0, .ref (x.1 37)), (2, .int a2), (4, .int v2), (5, .int p4)] [.int q7, .int p3] r1.2 _
      refine g_ior hC dX8_openOf_78 ?_
      refine g_top (fun v9 => ?_)
      show GG x f 6 (Qm x f φIM) 79 [(0, .ref (x.1 37)), (2, .int a2), (4, .int v2), (5, .int p4)] [.int v9] r1.2 _
      refine g_istore_n hC (lv' := [(0, .ref (x.1 37)), (2, .int a2), (3, .int v9), (4, .int v2), (5, .int p4)]) [1, 2, 0, 3, 4] dX8_openOf_79 rfl (by decide) rfl ?_
      refine g_iinc hC (q := 4) (v := (1 : Int32)) (lv' := [(0, .ref (x.1 37)), (2, .int a2), (3, .int v9), (4, .int v2), (5, .int (p4 + (1 : Int32)))]) [1, 2, 3, 4, 0] dX8_openOf_80 rfl (by decide) (by decide) rfl ?_
      refine g_goto hC 13 dX8_openOf_83 (by decide) ?_
      exact hrec5 v9 (p4 + (1 : Int32))
    refine g_nm (fun (J10 : Option (Int32 × Mem)) => GG x f 6 (Qm x f φIM) 77 [(0, .ref (x.1 37)), (2, .int a2), (4, .int v2), (5, .int p4)] [.int p3] r1.2 J10) ?_ (fun J10 hJ10 => ?_)
    · show GG x f 6 (Qm x f φIM) 77 [(0, .ref (x.1 37)), (2, .int a2), (4, .int v2), (5, .int p4)] [.int p3] r1.2 _
      refine g_iconst hC (v := (0 : Int32)) dX8_openOf_77 (by decide) ?_
      exact hJ8 (0 : Int32)
    refine g_ifB_eq hC 77 dX8_openOf_30 (by decide) ?_ ?_
    · refine g_aload_n hC 0 dX8_openOf_33 rfl rfl ?_
      refine g_getR hC cf8 (t := 40) rfl 3 (by decide) rfl m_912 dX8_openOf_34 ?_
      refine g_bipush hC (v := (6 : Int32)) dX8_openOf_37 (by decide) ?_
      refine g_iload hC 4 dX8_openOf_39 rfl ?_
      refine g_imul hC dX8_openOf_41 ?_
      refine g_iconst hC (v := (2 : Int32)) dX8_openOf_42 (by decide) ?_
      refine g_iadd hC dX8_openOf_43 ?_
      refine g_iald hC rfl rfl dX8_openOf_44 ?_
      refine g_aload_n hC 0 dX8_openOf_45 rfl rfl ?_
      refine g_getI hC cf8 rfl 6 (by decide) rfl m_915 dX8_openOf_46 ?_
      refine g_isub hC dX8_openOf_49 ?_
      refine g_iload_n hC 1 dX8_openOf_50 rfl rfl ?_
      refine g_icmp_gt hC 77 dX8_openOf_51 (by decide) ?_ ?_
      · refine g_lv (lv' := [(0, .ref (x.1 37)), (2, .int a2), (4, .int v2), (5, .int p4)]) [0, 1, 3, 4] rfl ?_
        exact hJ10
      · refine g_aload_n hC 0 dX8_openOf_54 rfl rfl ?_
        refine g_getR hC cf8 (t := 40) rfl 3 (by decide) rfl m_912 dX8_openOf_55 ?_
        refine g_bipush hC (v := (6 : Int32)) dX8_openOf_58 (by decide) ?_
        refine g_iload hC 4 dX8_openOf_60 rfl ?_
        refine g_imul hC dX8_openOf_62 ?_
        refine g_iconst hC (v := (2 : Int32)) dX8_openOf_63 (by decide) ?_
        refine g_iadd hC dX8_openOf_64 ?_
        refine g_iald hC rfl rfl dX8_openOf_65 ?_
        refine g_iload_n hC 1 dX8_openOf_66 rfl rfl ?_
        refine g_icmp_le hC 77 dX8_openOf_67 (by decide) ?_ ?_
        · refine g_lv (lv' := [(0, .ref (x.1 37)), (2, .int a2), (4, .int v2), (5, .int p4)]) [0, 1, 3, 4] rfl ?_
          exact hJ10
        · refine g_iconst hC (v := (1 : Int32)) dX8_openOf_70 (by decide) ?_
          refine g_iload hC 4 dX8_openOf_71 rfl ?_
          refine g_ishl hC dX8_openOf_73 ?_
          refine g_goto hC 78 dX8_openOf_74 (by decide) ?_
          refine g_lv (lv' := [(0, .ref (x.1 37)), (2, .int a2), (4, .int v2), (5, .int p4)]) [0, 1, 3, 4] rfl ?_
          exact hJ8 ((1 : Int32) <<< (p4 &&& 31))
    · refine g_lv (lv' := [(0, .ref (x.1 37)), (2, .int a2), (4, .int v2), (5, .int p4)]) [0, 1, 3, 4] rfl ?_
      exact hJ10
def sX8_open (F : Nat) (a1 : Int32) (a2 : Int32) (M : Mem) : Option (Int32 × Mem) :=
(sX8_isRow F a1 M).bind (fun r1 =>
if r1 = true then
((sX8_isDay F a2 M).bind (fun r2 =>
if r2 = true then
((sX8_openOf F a1 a2 M).bind (fun r3 =>
some (r3.1, r3.2)))
else
(some ((-2 : Int32), M))))
else
(some ((-2 : Int32), M)))
theorem mvX8_open : MV yX8_open cX8_open 3 (some .int) 2 := ⟨⟨m_1206, m_76, by decide, by decide, by decide⟩, m_1204, m_1205⟩
set_option maxHeartbeats 4000000 in
set_option maxRecDepth 100000 in
theorem ctX8_open (x : Wx) (F : Nat) (a1 : Int32) (a2 : Int32) (M : Mem) : Ct x yX8_open cX8_open 3 (some .int) { frames := 8, cells := 0, slots := 0, locals := 189 } φIM [.ref (x.1 37), .int a1, .int a2] M (sX8_open F a1 a2 M) := by
  refine ct_of (by decide) (Nat.le_of_ble_eq_true rfl) (fun f hC hm => ?_)
  have hC : Cx x f "AnswersFirstModel" cX8_open 3 { frames := 8, cells := 0, slots := 0, locals := 189 } := hC
  show GG x f 3 (Qm x f φIM) 0 [(0, .ref (x.1 37)), (1, .int a1), (2, .int a2)] [] M _
  unfold sX8_open
  refine g_iload_n hC 1 dX8_open_0 rfl rfl ?_
  refine g_calls hC (st := []) (ctX8_isRow x F a1 M) msX8_isRow m_1072 (by decide) rfl rfl (Nat.le_of_ble_eq_true rfl) dX8_open_1 (fun r1 => ?_)
  show GG x f 3 (Qm x f φIM) 4 [(0, .ref (x.1 37)), (1, .int a1), (2, .int a2)] [.int (bi r1)] M _
  refine g_ifB_eq hC 23 dX8_open_4 (by decide) ?_ ?_
  · refine g_iload_n hC 2 dX8_open_7 rfl rfl ?_
    refine g_calls hC (st := []) (ctX8_isDay x F a2 M) msX8_isDay m_1188 (by decide) rfl rfl (Nat.le_of_ble_eq_true rfl) dX8_open_8 (fun r2 => ?_)
    show GG x f 3 (Qm x f φIM) 11 [(0, .ref (x.1 37)), (1, .int a1), (2, .int a2)] [.int (bi r2)] M _
    refine g_ifB_eq hC 23 dX8_open_11 (by decide) ?_ ?_
    · refine g_aload_n hC 0 dX8_open_14 rfl rfl ?_
      refine g_iload_n hC 1 dX8_open_15 rfl rfl ?_
      refine g_iload_n hC 2 dX8_open_16 rfl rfl ?_
      refine g_callv hC (st := []) (c := 8) rfl (by decide) rfl (ctX8_openOf x F a1 a2 M) mvX8_openOf m_1207 (by decide) rfl rfl (Nat.le_of_ble_eq_true rfl) dX8_open_17 (fun r3 => ?_)
      show GG x f 3 (Qm x f φIM) 20 [(0, .ref (x.1 37)), (1, .int a1), (2, .int a2)] [.int (r3.1)] r3.2 _
      refine g_goto hC 25 dX8_open_20 (by decide) ?_
      exact g_iret hC hm rfl dX8_open_25
    · refine g_bipush hC (v := (-2 : Int32)) dX8_open_23 (by decide) ?_
      exact g_iret hC hm rfl dX8_open_25
  · refine g_bipush hC (v := (-2 : Int32)) dX8_open_23 (by decide) ?_
    exact g_iret hC hm rfl dX8_open_25
def sX8_worthOf_L5 (F : Nat) (a1 : Int32) (a2 : Int32) (M : Mem) (rec3 : Int32 → Int32 → Option Int32) (p1 : Int32) (p2 : Int32) : Option Int32 :=
if (M 37 2) ≤ p2 then
(some p1)
else
((sX8_isIn F a1 p2 M).bind (fun r4 =>
nm (fun (q5 : Int32) =>
nm (p1 + q5) (fun v7 =>
rec3 v7 (p2 + (1 : Int32)))) (fun J6 =>
nm (J6 (0 : Int32)) (fun J8 =>
if r4 = true then
(ib ((6 : Int32) * p2) 66 (
if ¬ (M 40 (ix ((6 : Int32) * p2))) = a2 then
(J8)
else
(ib p2 10 (
J6 (M 43 (ix p2))))))
else
(J8)))))
def sX8_worthOf (F : Nat) (a1 : Int32) (a2 : Int32) (M : Mem) : Option Int32 :=
fx2 F (sX8_worthOf_L5 F a1 a2 M) (0 : Int32) (0 : Int32)
theorem mvX8_worthOf : MV yX8_worthOf cX8_worthOf 5 (some .int) 2 := ⟨⟨m_1226, m_76, by decide, by decide, by decide⟩, m_1225, m_55⟩
set_option maxHeartbeats 4000000 in
set_option maxRecDepth 100000 in
theorem ctX8_worthOf (x : Wx) (F : Nat) (a1 : Int32) (a2 : Int32) (M : Mem) : Ct x yX8_worthOf cX8_worthOf 5 (some .int) { frames := 1, cells := 0, slots := 0, locals := 21 } (φI M) [.ref (x.1 37), .int a1, .int a2] M (sX8_worthOf F a1 a2 M) := by
  refine ct_of (by decide) (Nat.le_of_ble_eq_true rfl) (fun f hC hm => ?_)
  have hC : Cx x f "AnswersFirstModel" cX8_worthOf 5 { frames := 1, cells := 0, slots := 0, locals := 21 } := hC
  show GG x f 5 (Qm x f (φI M)) 0 [(0, .ref (x.1 37)), (1, .int a1), (2, .int a2)] [] M _
  unfold sX8_worthOf
  refine g_iconst hC (v := (0 : Int32)) dX8_worthOf_0 (by decide) ?_
  refine g_istore_n hC (lv' := [(0, .ref (x.1 37)), (1, .int a1), (2, .int a2), (3, .int (0 : Int32))]) [1, 2, 3, 0] dX8_worthOf_1 rfl (by decide) rfl ?_
  refine g_iconst hC (v := (0 : Int32)) dX8_worthOf_2 (by decide) ?_
  refine g_istore hC (lv' := [(0, .ref (x.1 37)), (1, .int a1), (2, .int a2), (3, .int (0 : Int32)), (4, .int (0 : Int32))]) [1, 2, 3, 4, 0] dX8_worthOf_3 (by decide) rfl ?_
  refine g_fx2 (fun (p1 : Int32) (p2 : Int32) => [(0, .ref (x.1 37)), (1, .int a1), (2, .int a2), (3, .int p1), (4, .int p2)]) (fun (p1 : Int32) (p2 : Int32) => M) (fun rec3 hrec3 p1 p2 => ?_) F _ _
  show GG x f 5 (Qm x f (φI M)) 5 [(0, .ref (x.1 37)), (1, .int a1), (2, .int a2), (3, .int p1), (4, .int p2)] [] M _
  unfold sX8_worthOf_L5
  refine g_iload hC 4 dX8_worthOf_5 rfl ?_
  refine g_aload_n hC 0 dX8_worthOf_7 rfl rfl ?_
  refine g_getI hC cf8 rfl 2 (by decide) rfl m_911 dX8_worthOf_8 ?_
  refine g_icmp_ge hC 57 dX8_worthOf_11 (by decide) ?_ ?_
  · refine g_iload_n hC 3 dX8_worthOf_57 rfl rfl ?_
    exact g_iret hC hm rfl dX8_worthOf_58
  · refine g_iload_n hC 3 dX8_worthOf_14 rfl rfl ?_
    refine g_iload_n hC 1 dX8_worthOf_15 rfl rfl ?_
    refine g_iload hC 4 dX8_worthOf_16 rfl ?_
    refine g_calls hC (st := [.int p1]) (ctX8_isIn x F a1 p2 M) msX8_isIn m_1091 (by decide) rfl rfl (Nat.le_of_ble_eq_true rfl) dX8_worthOf_18 (fun r4 => ?_)
    show GG x f 5 (Qm x f (φI M)) 21 [(0, .ref (x.1 37)), (1, .int a1), (2, .int a2), (3, .int p1), (4, .int p2)] [.int (bi r4), .int p1] M _
    refine g_nm (fun (J6 : Int32 → Option Int32) => ∀ (q5 : Int32), GG x f 5 (Qm x f (φI M)) 49 [(0, .ref (x.1 37)), (1, .int a1), (2, .int a2), (4, .int p2)] [.int q5, .int p1] M (J6 q5)) (fun q5 => ?_) (fun J6 hJ6 => ?_)
    · show GG x f 5 (Qm x f (φI M)) 49 [(0, .ref (x.1 37)), (1, .int a1), (2, .int a2), (4, .int p2)] [.int q5, .int p1] M _
      refine g_iadd hC dX8_worthOf_49 ?_
      refine g_top (fun v7 => ?_)
      show GG x f 5 (Qm x f (φI M)) 50 [(0, .ref (x.1 37)), (1, .int a1), (2, .int a2), (4, .int p2)] [.int v7] M _
      refine g_istore_n hC (lv' := [(0, .ref (x.1 37)), (1, .int a1), (2, .int a2), (3, .int v7), (4, .int p2)]) [1, 2, 3, 0, 4] dX8_worthOf_50 rfl (by decide) rfl ?_
      refine g_iinc hC (q := 4) (v := (1 : Int32)) (lv' := [(0, .ref (x.1 37)), (1, .int a1), (2, .int a2), (3, .int v7), (4, .int (p2 + (1 : Int32)))]) [1, 2, 3, 4, 0] dX8_worthOf_51 rfl (by decide) (by decide) rfl ?_
      refine g_goto hC 5 dX8_worthOf_54 (by decide) ?_
      exact hrec3 v7 (p2 + (1 : Int32))
    refine g_nm (fun (J8 : Option Int32) => GG x f 5 (Qm x f (φI M)) 48 [(0, .ref (x.1 37)), (1, .int a1), (2, .int a2), (4, .int p2)] [.int p1] M J8) ?_ (fun J8 hJ8 => ?_)
    · show GG x f 5 (Qm x f (φI M)) 48 [(0, .ref (x.1 37)), (1, .int a1), (2, .int a2), (4, .int p2)] [.int p1] M _
      refine g_iconst hC (v := (0 : Int32)) dX8_worthOf_48 (by decide) ?_
      exact hJ6 (0 : Int32)
    refine g_ifB_eq hC 48 dX8_worthOf_21 (by decide) ?_ ?_
    · refine g_aload_n hC 0 dX8_worthOf_24 rfl rfl ?_
      refine g_getR hC cf8 (t := 40) rfl 3 (by decide) rfl m_912 dX8_worthOf_25 ?_
      refine g_bipush hC (v := (6 : Int32)) dX8_worthOf_28 (by decide) ?_
      refine g_iload hC 4 dX8_worthOf_30 rfl ?_
      refine g_imul hC dX8_worthOf_32 ?_
      refine g_iald hC rfl rfl dX8_worthOf_33 ?_
      refine g_iload_n hC 2 dX8_worthOf_34 rfl rfl ?_
      refine g_icmp_ne hC 48 dX8_worthOf_35 (by decide) ?_ ?_
      · refine g_lv (lv' := [(0, .ref (x.1 37)), (1, .int a1), (2, .int a2), (4, .int p2)]) [0, 1, 2, 4] rfl ?_
        exact hJ8
      · refine g_aload_n hC 0 dX8_worthOf_38 rfl rfl ?_
        refine g_getR hC cf8 (t := 43) rfl 10 (by decide) rfl m_919 dX8_worthOf_39 ?_
        refine g_iload hC 4 dX8_worthOf_42 rfl ?_
        refine g_iald hC rfl rfl dX8_worthOf_44 ?_
        refine g_goto hC 49 dX8_worthOf_45 (by decide) ?_
        refine g_lv (lv' := [(0, .ref (x.1 37)), (1, .int a1), (2, .int a2), (4, .int p2)]) [0, 1, 2, 4] rfl ?_
        exact hJ6 (M 43 (ix p2))
    · refine g_lv (lv' := [(0, .ref (x.1 37)), (1, .int a1), (2, .int a2), (4, .int p2)]) [0, 1, 2, 4] rfl ?_
      exact hJ8
def sX8_bestBy_L11 (F : Nat) (a1 : Int32) (a2 : Int32) (r1 : (Int32 × Mem)) (rec4 : Int32 → Int32 → Option (Int32 × Mem)) (p2 : Int32) (p3 : Int32) : Option (Int32 × Mem) :=
if r1.1 < p3 then
(some (p2, r1.2))
else
((sX8_brokenBy F p3 a2 r1.2).bind (fun r5 =>
nm (fun (q6 : Int32) =>
nm (fun (q8 : Int32) =>
rec4 q8 (p3 + (1 : Int32))) (fun J9 =>
nm (J9 p2) (fun J10 =>
if q6 = 0 then
(J10)
else
(nm (J9 p3) (fun J11 =>
if p2 = (-1 : Int32) then
(J11)
else
((sX8_worthOf F p3 a1 r1.2).bind (fun r12 =>
(sX8_worthOf F p2 a1 r1.2).bind (fun r13 =>
if r12 ≤ r13 then
(J10)
else
(J11))))))))) (fun J7 =>
if ¬ r5 = 0 then
(J7 (0 : Int32))
else
(J7 (1 : Int32)))))
def sX8_bestBy (F : Nat) (a1 : Int32) (a2 : Int32) (M : Mem) : Option (Int32 × Mem) :=
(sX8_there F M).bind (fun r1 =>
fx2 F (sX8_bestBy_L11 F a1 a2 r1) (-1 : Int32) (0 : Int32))
theorem mvX8_bestBy : MV yX8_bestBy cX8_bestBy 7 (some .int) 2 := ⟨⟨m_1222, m_76, by decide, by decide, by decide⟩, m_1221, m_54⟩
set_option maxHeartbeats 4000000 in
set_option maxRecDepth 100000 in
theorem ctX8_bestBy (x : Wx) (F : Nat) (a1 : Int32) (a2 : Int32) (M : Mem) : Ct x yX8_bestBy cX8_bestBy 7 (some .int) { frames := 7, cells := 0, slots := 0, locals := 164 } φIM [.ref (x.1 37), .int a1, .int a2] M (sX8_bestBy F a1 a2 M) := by
  refine ct_of (by decide) (Nat.le_of_ble_eq_true rfl) (fun f hC hm => ?_)
  have hC : Cx x f "AnswersFirstModel" cX8_bestBy 7 { frames := 7, cells := 0, slots := 0, locals := 164 } := hC
  show GG x f 7 (Qm x f φIM) 0 [(0, .ref (x.1 37)), (1, .int a1), (2, .int a2)] [] M _
  unfold sX8_bestBy
  refine g_aload_n hC 0 dX8_bestBy_0 rfl rfl ?_
  refine g_callv hC (st := []) (c := 8) rfl (by decide) rfl (ctX8_there x F M) mvX8_there m_1079 (by decide) rfl rfl (Nat.le_of_ble_eq_true rfl) dX8_bestBy_1 (fun r1 => ?_)
  show GG x f 7 (Qm x f φIM) 4 [(0, .ref (x.1 37)), (1, .int a1), (2, .int a2)] [.int (r1.1)] r1.2 _
  refine g_istore_n hC (lv' := [(0, .ref (x.1 37)), (1, .int a1), (2, .int a2), (3, .int (r1.1))]) [1, 2, 3, 0] dX8_bestBy_4 rfl (by decide) rfl ?_
  refine g_iconst hC (v := (-1 : Int32)) dX8_bestBy_5 (by decide) ?_
  refine g_istore hC (lv' := [(0, .ref (x.1 37)), (1, .int a1), (2, .int a2), (3, .int (r1.1)), (4, .int (-1 : Int32))]) [1, 2, 3, 4, 0] dX8_bestBy_6 (by decide) rfl ?_
  refine g_iconst hC (v := (0 : Int32)) dX8_bestBy_8 (by decide) ?_
  refine g_istore hC (lv' := [(0, .ref (x.1 37)), (1, .int a1), (2, .int a2), (3, .int (r1.1)), (4, .int (-1 : Int32)), (5, .int (0 : Int32))]) [1, 2, 3, 4, 5, 0] dX8_bestBy_9 (by decide) rfl ?_
  refine g_fx2 (fun (p2 : Int32) (p3 : Int32) => [(0, .ref (x.1 37)), (1, .int a1), (2, .int a2), (3, .int (r1.1)), (4, .int p2), (5, .int p3)]) (fun (p2 : Int32) (p3 : Int32) => r1.2) (fun rec4 hrec4 p2 p3 => ?_) F _ _
  show GG x f 7 (Qm x f φIM) 11 [(0, .ref (x.1 37)), (1, .int a1), (2, .int a2), (3, .int (r1.1)), (4, .int p2), (5, .int p3)] [] r1.2 _
  unfold sX8_bestBy_L11
  refine g_iload hC 5 dX8_bestBy_11 rfl ?_
  refine g_iload_n hC 3 dX8_bestBy_13 rfl rfl ?_
  refine g_icmp_gt hC 77 dX8_bestBy_14 (by decide) ?_ ?_
  · refine g_iload hC 4 dX8_bestBy_77 rfl ?_
    exact g_iret hC hm rfl dX8_bestBy_79
  · refine g_aload_n hC 0 dX8_bestBy_17 rfl rfl ?_
    refine g_iload hC 5 dX8_bestBy_18 rfl ?_
    refine g_iload_n hC 2 dX8_bestBy_20 rfl rfl ?_
    refine g_callv hC (st := []) (c := 8) rfl (by decide) rfl (ctX8_brokenBy x F p3 a2 r1.2) mvX8_brokenBy m_1083 (by decide) rfl rfl (Nat.le_of_ble_eq_true rfl) dX8_bestBy_21 (fun r5 => ?_)
    show GG x f 7 (Qm x f φIM) 24 [(0, .ref (x.1 37)), (1, .int a1), (2, .int a2), (3, .int (r1.1)), (4, .int p2), (5, .int p3)] [.int r5] r1.2 _
    refine g_nm (fun (J7 : Int32 → Option (Int32 × Mem)) => ∀ (q6 : Int32), GG x f 7 (Qm x f φIM) 32 [(0, .ref (x.1 37)), (1, .int a1), (2, .int a2), (3, .int (r1.1)), (4, .int p2), (5, .int p3)] [.int q6] r1.2 (J7 q6)) (fun q6 => ?_) (fun J7 hJ7 => ?_)
    · show GG x f 7 (Qm x f φIM) 32 [(0, .ref (x.1 37)), (1, .int a1), (2, .int a2), (3, .int (r1.1)), (4, .int p2), (5, .int p3)] [.int q6] r1.2 _
      refine g_istore hC (lv' := [(0, .ref (x.1 37)), (1, .int a1), (2, .int a2), (3, .int (r1.1)), (4, .int p2), (5, .int p3), (6, .int q6)]) [1, 2, 3, 4, 5, 6, 0] dX8_bestBy_32 (by decide) rfl ?_
      refine g_iload hC 6 dX8_bestBy_34 rfl ?_
      refine g_nm (fun (J9 : Int32 → Option (Int32 × Mem)) => ∀ (q8 : Int32), GG x f 7 (Qm x f φIM) 69 [(0, .ref (x.1 37)), (1, .int a1), (2, .int a2), (3, .int (r1.1)), (5, .int p3)] [.int q8] r1.2 (J9 q8)) (fun q8 => ?_) (fun J9 hJ9 => ?_)
      · show GG x f 7 (Qm x f φIM) 69 [(0, .ref (x.1 37)), (1, .int a1), (2, .int a2), (3, .int (r1.1)), (5, .int p3)] [.int q8] r1.2 _
        refine g_istore hC (lv' := [(0, .ref (x.1 37)), (1, .int a1), (2, .int a2), (3, .int (r1.1)), (4, .int q8), (5, .int p3)]) [1, 2, 3, 4, 0, 5] dX8_bestBy_69 (by decide) rfl ?_
        refine g_iinc hC (q := 5) (v := (1 : Int32)) (lv' := [(0, .ref (x.1 37)), (1, .int a1), (2, .int a2), (3, .int (r1.1)), (4, .int q8), (5, .int (p3 + (1 : Int32)))]) [1, 2, 3, 4, 5, 0] dX8_bestBy_71 rfl (by decide) (by decide) rfl ?_
        refine g_goto hC 11 dX8_bestBy_74 (by decide) ?_
        exact hrec4 q8 (p3 + (1 : Int32))
      refine g_nm (fun (J10 : Option (Int32 × Mem)) => GG x f 7 (Qm x f φIM) 67 [(0, .ref (x.1 37)), (1, .int a1), (2, .int a2), (3, .int (r1.1)), (4, .int p2), (5, .int p3)] [] r1.2 J10) ?_ (fun J10 hJ10 => ?_)
      · show GG x f 7 (Qm x f φIM) 67 [(0, .ref (x.1 37)), (1, .int a1), (2, .int a2), (3, .int (r1.1)), (4, .int p2), (5, .int p3)] [] r1.2 _
        refine g_iload hC 4 dX8_bestBy_67 rfl ?_
        refine g_lv (lv' := [(0, .ref (x.1 37)), (1, .int a1), (2, .int a2), (3, .int (r1.1)), (5, .int p3)]) [0, 1, 2, 3, 5] rfl ?_
        exact hJ9 p2
      refine g_if_eq hC 67 dX8_bestBy_36 (by decide) ?_ ?_
      · refine g_lv (lv' := [(0, .ref (x.1 37)), (1, .int a1), (2, .int a2), (3, .int (r1.1)), (4, .int p2), (5, .int p3)]) [0, 1, 2, 3, 4, 5] rfl ?_
        exact hJ10
      · refine g_iload hC 4 dX8_bestBy_39 rfl ?_
        refine g_iconst hC (v := (-1 : Int32)) dX8_bestBy_41 (by decide) ?_
        refine g_nm (fun (J11 : Option (Int32 × Mem)) => GG x f 7 (Qm x f φIM) 62 [(0, .ref (x.1 37)), (1, .int a1), (2, .int a2), (3, .int (r1.1)), (5, .int p3)] [] r1.2 J11) ?_ (fun J11 hJ11 => ?_)
        · show GG x f 7 (Qm x f φIM) 62 [(0, .ref (x.1 37)), (1, .int a1), (2, .int a2), (3, .int (r1.1)), (5, .int p3)] [] r1.2 _
          refine g_iload hC 4 dX8_bestBy_62 rfl ?_
          refine g_goto hC 69 dX8_bestBy_64 (by decide) ?_
          exact hJ9 p3
        refine g_icmp_eq hC 62 dX8_bestBy_42 (by decide) ?_ ?_
        · refine g_lv (lv' := [(0, .ref (x.1 37)), (1, .int a1), (2, .int a2), (3, .int (r1.1)), (5, .int p3)]) [0, 1, 2, 3, 5] rfl ?_
          exact hJ11
        · refine g_aload_n hC 0 dX8_bestBy_45 rfl rfl ?_
          refine g_iload hC 5 dX8_bestBy_46 rfl ?_
          refine g_iload_n hC 1 dX8_bestBy_48 rfl rfl ?_
          refine g_callv hC (st := []) (c := 8) rfl (by decide) rfl (ctX8_worthOf x F p3 a1 r1.2) mvX8_worthOf m_1223 (by decide) rfl rfl (Nat.le_of_ble_eq_true rfl) dX8_bestBy_49 (fun r12 => ?_)
          show GG x f 7 (Qm x f φIM) 52 [(0, .ref (x.1 37)), (1, .int a1), (2, .int a2), (3, .int (r1.1)), (4, .int p2), (5, .int p3), (6, .int q6)] [.int r12] r1.2 _
          refine g_aload_n hC 0 dX8_bestBy_52 rfl rfl ?_
          refine g_iload hC 4 dX8_bestBy_53 rfl ?_
          refine g_iload_n hC 1 dX8_bestBy_55 rfl rfl ?_
          refine g_callv hC (st := [.int r12]) (c := 8) rfl (by decide) rfl (ctX8_worthOf x F p2 a1 r1.2) mvX8_worthOf m_1223 (by decide) rfl rfl (Nat.le_of_ble_eq_true rfl) dX8_bestBy_56 (fun r13 => ?_)
          show GG x f 7 (Qm x f φIM) 59 [(0, .ref (x.1 37)), (1, .int a1), (2, .int a2), (3, .int (r1.1)), (4, .int p2), (5, .int p3), (6, .int q6)] [.int r13, .int r12] r1.2 _
          refine g_icmp_le hC 67 dX8_bestBy_59 (by decide) ?_ ?_
          · refine g_lv (lv' := [(0, .ref (x.1 37)), (1, .int a1), (2, .int a2), (3, .int (r1.1)), (4, .int p2), (5, .int p3)]) [0, 1, 2, 3, 4, 5] rfl ?_
            exact hJ10
          · refine g_lv (lv' := [(0, .ref (x.1 37)), (1, .int a1), (2, .int a2), (3, .int (r1.1)), (5, .int p3)]) [0, 1, 2, 3, 5] rfl ?_
            exact hJ11
    refine g_if_ne hC 31 dX8_bestBy_24 (by decide) ?_ ?_
    · refine g_iconst hC (v := (0 : Int32)) dX8_bestBy_31 (by decide) ?_
      exact hJ7 (0 : Int32)
    · refine g_iconst hC (v := (1 : Int32)) dX8_bestBy_27 (by decide) ?_
      refine g_goto hC 32 dX8_bestBy_28 (by decide) ?_
      exact hJ7 (1 : Int32)
def sX8_bestOf (F : Nat) (a1 : Int32) (a2 : Int32) (M : Mem) : Option (Int32 × Mem) :=
(sX8_bestBy F a1 (M 37 9) M).bind (fun r1 =>
if ¬ a2 = (1 : Int32) then
(if ¬ r1.1 = (-1 : Int32) then
((sX8_worthOf F r1.1 a1 r1.2).bind (fun r2 =>
some (r2, r1.2)))
else
(some ((-1003 : Int32), r1.2)))
else
(some (r1.1, r1.2)))
theorem mvX8_bestOf : MV yX8_bestOf cX8_bestOf 4 (some .int) 2 := ⟨⟨m_1218, m_76, by decide, by decide, by decide⟩, m_1217, m_53⟩
set_option maxHeartbeats 4000000 in
set_option maxRecDepth 100000 in
theorem ctX8_bestOf (x : Wx) (F : Nat) (a1 : Int32) (a2 : Int32) (M : Mem) : Ct x yX8_bestOf cX8_bestOf 4 (some .int) { frames := 8, cells := 0, slots := 0, locals := 190 } φIM [.ref (x.1 37), .int a1, .int a2] M (sX8_bestOf F a1 a2 M) := by
  refine ct_of (by decide) (Nat.le_of_ble_eq_true rfl) (fun f hC hm => ?_)
  have hC : Cx x f "AnswersFirstModel" cX8_bestOf 4 { frames := 8, cells := 0, slots := 0, locals := 190 } := hC
  show GG x f 4 (Qm x f φIM) 0 [(0, .ref (x.1 37)), (1, .int a1), (2, .int a2)] [] M _
  unfold sX8_bestOf
  refine g_aload_n hC 0 dX8_bestOf_0 rfl rfl ?_
  refine g_iload_n hC 1 dX8_bestOf_1 rfl rfl ?_
  refine g_aload_n hC 0 dX8_bestOf_2 rfl rfl ?_
  refine g_getI hC cf8 rfl 9 (by decide) rfl m_918 dX8_bestOf_3 ?_
  refine g_callv hC (st := []) (c := 8) rfl (by decide) rfl (ctX8_bestBy x F a1 (M 37 9) M) mvX8_bestBy m_1219 (by decide) rfl rfl (Nat.le_of_ble_eq_true rfl) dX8_bestOf_6 (fun r1 => ?_)
  show GG x f 4 (Qm x f φIM) 9 [(0, .ref (x.1 37)), (1, .int a1), (2, .int a2)] [.int (r1.1)] r1.2 _
  refine g_istore_n hC (lv' := [(0, .ref (x.1 37)), (1, .int a1), (2, .int a2), (3, .int (r1.1))]) [1, 2, 3, 0] dX8_bestOf_9 rfl (by decide) rfl ?_
  refine g_iload_n hC 2 dX8_bestOf_10 rfl rfl ?_
  refine g_iconst hC (v := (1 : Int32)) dX8_bestOf_11 (by decide) ?_
  refine g_icmp_ne hC 19 dX8_bestOf_12 (by decide) ?_ ?_
  · refine g_iload_n hC 3 dX8_bestOf_19 rfl rfl ?_
    refine g_iconst hC (v := (-1 : Int32)) dX8_bestOf_20 (by decide) ?_
    refine g_icmp_ne hC 30 dX8_bestOf_21 (by decide) ?_ ?_
    · refine g_aload_n hC 0 dX8_bestOf_30 rfl rfl ?_
      refine g_iload_n hC 3 dX8_bestOf_31 rfl rfl ?_
      refine g_iload_n hC 1 dX8_bestOf_32 rfl rfl ?_
      refine g_callv hC (st := []) (c := 8) rfl (by decide) rfl (ctX8_worthOf x F r1.1 a1 r1.2) mvX8_worthOf m_1223 (by decide) rfl rfl (Nat.le_of_ble_eq_true rfl) dX8_bestOf_33 (fun r2 => ?_)
      show GG x f 4 (Qm x f φIM) 36 [(0, .ref (x.1 37)), (1, .int a1), (2, .int a2), (3, .int (r1.1))] [.int r2] r1.2 _
      exact g_iret hC hm rfl dX8_bestOf_36
    · refine g_sipush hC (v := (-1003 : Int32)) dX8_bestOf_24 (by decide) ?_
      refine g_goto hC 36 dX8_bestOf_27 (by decide) ?_
      exact g_iret hC hm rfl dX8_bestOf_36
  · refine g_iload_n hC 3 dX8_bestOf_15 rfl rfl ?_
    refine g_goto hC 36 dX8_bestOf_16 (by decide) ?_
    exact g_iret hC hm rfl dX8_bestOf_36
def sX8_best (F : Nat) (a1 : Int32) (a2 : Int32) (M : Mem) : Option (Int32 × Mem) :=
(sX8_isPerson F a1 M).bind (fun r1 =>
if r1 = true then
((sX8_in F a2 (0 : Int32) (1 : Int32) M).bind (fun r2 =>
if r2 = true then
((sX8_bestOf F a1 a2 M).bind (fun r3 =>
some (r3.1, r3.2)))
else
(some ((-1002 : Int32), M))))
else
(some ((-1002 : Int32), M)))
theorem mvX8_best : MV yX8_best cX8_best 3 (some .int) 2 := ⟨⟨m_1214, m_76, by decide, by decide, by decide⟩, m_1212, m_1213⟩
set_option maxHeartbeats 4000000 in
set_option maxRecDepth 100000 in
theorem ctX8_best (x : Wx) (F : Nat) (a1 : Int32) (a2 : Int32) (M : Mem) : Ct x yX8_best cX8_best 3 (some .int) { frames := 9, cells := 0, slots := 0, locals := 213 } φIM [.ref (x.1 37), .int a1, .int a2] M (sX8_best F a1 a2 M) := by
  refine ct_of (by decide) (Nat.le_of_ble_eq_true rfl) (fun f hC hm => ?_)
  have hC : Cx x f "AnswersFirstModel" cX8_best 3 { frames := 9, cells := 0, slots := 0, locals := 213 } := hC
  show GG x f 3 (Qm x f φIM) 0 [(0, .ref (x.1 37)), (1, .int a1), (2, .int a2)] [] M _
  unfold sX8_best
  refine g_iload_n hC 1 dX8_best_0 rfl rfl ?_
  refine g_calls hC (st := []) (ctX8_isPerson x F a1 M) msX8_isPerson m_1185 (by decide) rfl rfl (Nat.le_of_ble_eq_true rfl) dX8_best_1 (fun r1 => ?_)
  show GG x f 3 (Qm x f φIM) 4 [(0, .ref (x.1 37)), (1, .int a1), (2, .int a2)] [.int (bi r1)] M _
  refine g_ifB_eq hC 25 dX8_best_4 (by decide) ?_ ?_
  · refine g_iload_n hC 2 dX8_best_7 rfl rfl ?_
    refine g_iconst hC (v := (0 : Int32)) dX8_best_8 (by decide) ?_
    refine g_iconst hC (v := (1 : Int32)) dX8_best_9 (by decide) ?_
    refine g_calls hC (st := []) (ctX8_in x F a2 (0 : Int32) (1 : Int32) M) msX8_in m_987 (by decide) rfl rfl (Nat.le_of_ble_eq_true rfl) dX8_best_10 (fun r2 => ?_)
    show GG x f 3 (Qm x f φIM) 13 [(0, .ref (x.1 37)), (1, .int a1), (2, .int a2)] [.int (bi r2)] M _
    refine g_ifB_eq hC 25 dX8_best_13 (by decide) ?_ ?_
    · refine g_aload_n hC 0 dX8_best_16 rfl rfl ?_
      refine g_iload_n hC 1 dX8_best_17 rfl rfl ?_
      refine g_iload_n hC 2 dX8_best_18 rfl rfl ?_
      refine g_callv hC (st := []) (c := 8) rfl (by decide) rfl (ctX8_bestOf x F a1 a2 M) mvX8_bestOf m_1215 (by decide) rfl rfl (Nat.le_of_ble_eq_true rfl) dX8_best_19 (fun r3 => ?_)
      show GG x f 3 (Qm x f φIM) 22 [(0, .ref (x.1 37)), (1, .int a1), (2, .int a2)] [.int (r3.1)] r3.2 _
      refine g_goto hC 28 dX8_best_22 (by decide) ?_
      exact g_iret hC hm rfl dX8_best_28
    · refine g_sipush hC (v := (-1002 : Int32)) dX8_best_25 (by decide) ?_
      exact g_iret hC hm rfl dX8_best_28
  · refine g_sipush hC (v := (-1002 : Int32)) dX8_best_25 (by decide) ?_
    exact g_iret hC hm rfl dX8_best_28
def sX8_restOf_L31 (F : Nat) (a2 : Int32) (r1 : (Int32 × Mem)) (J6 : Int32 → Option (Int32 × Mem)) (rec12 : Int32 → Int32 → Option (Int32 × Mem)) (p10 : Int32) (p11 : Int32) : Option (Int32 × Mem) :=
if (r1.2 37 2) ≤ p11 then
(J6 p10)
else
(ib ((6 : Int32) * p11) 66 (
nm (fun (q13 : Int32) =>
nm (p10 ||| q13) (fun v15 =>
rec12 v15 (p11 + (1 : Int32)))) (fun J14 =>
if ¬ (r1.2 40 (ix ((6 : Int32) * p11))) = a2 then
(J14 (0 : Int32))
else
(J14 ((1 : Int32) <<< (p11 &&& 31))))))
def sX8_restOf (F : Nat) (a1 : Int32) (a2 : Int32) (M : Mem) : Option (Int32 × Mem) :=
(sX8_there F M).bind (fun r1 =>
nm (a1 &&& r1.1) (fun v2 =>
(sX8_brokenBy F v2 (r1.2 37 9) r1.2).bind (fun r3 =>
if r3 = 0 then
(nm (r1.2 37 9) (fun v4 =>
nm (fun (p5 : Int32) =>
(sX8_bestBy F a2 p5 r1.2).bind (fun r7 =>
(sX8_worthOf F r7.1 a2 r7.2).bind (fun r8 =>
(sX8_worthOf F v2 a2 r7.2).bind (fun r9 =>
if r8 ≤ r9 then
(some ((1 : Int32), r7.2))
else
(some ((0 : Int32), r7.2)))))) (fun J6 =>
fx2 F (sX8_restOf_L31 F a2 r1 J6) v4 (0 : Int32))))
else
(some ((-3 : Int32), r1.2)))))
theorem mvX8_restOf : MV yX8_restOf cX8_restOf 6 (some .int) 2 := ⟨⟨m_1234, m_76, by decide, by decide, by decide⟩, m_1233, m_56⟩
set_option maxHeartbeats 4000000 in
set_option maxRecDepth 100000 in
theorem ctX8_restOf (x : Wx) (F : Nat) (a1 : Int32) (a2 : Int32) (M : Mem) : Ct x yX8_restOf cX8_restOf 6 (some .int) { frames := 8, cells := 0, slots := 0, locals := 190 } φIM [.ref (x.1 37), .int a1, .int a2] M (sX8_restOf F a1 a2 M) := by
  refine ct_of (by decide) (Nat.le_of_ble_eq_true rfl) (fun f hC hm => ?_)
  have hC : Cx x f "AnswersFirstModel" cX8_restOf 6 { frames := 8, cells := 0, slots := 0, locals := 190 } := hC
  show GG x f 6 (Qm x f φIM) 0 [(0, .ref (x.1 37)), (1, .int a1), (2, .int a2)] [] M _
  unfold sX8_restOf
  refine g_iload_n hC 1 dX8_restOf_0 rfl rfl ?_
  refine g_aload_n hC 0 dX8_restOf_1 rfl rfl ?_
  refine g_callv hC (st := [.int a1]) (c := 8) rfl (by decide) rfl (ctX8_there x F M) mvX8_there m_1079 (by decide) rfl rfl (Nat.le_of_ble_eq_true rfl) dX8_restOf_2 (fun r1 => ?_)
  show GG x f 6 (Qm x f φIM) 5 [(0, .ref (x.1 37)), (1, .int a1), (2, .int a2)] [.int (r1.1), .int a1] r1.2 _
  refine g_iand hC dX8_restOf_5 ?_
  refine g_top (fun v2 => ?_)
  show GG x f 6 (Qm x f φIM) 6 [(0, .ref (x.1 37)), (1, .int a1), (2, .int a2)] [.int v2] r1.2 _
  refine g_istore_n hC (lv' := [(0, .ref (x.1 37)), (2, .int a2), (3, .int v2)]) [1, 3, 0] dX8_restOf_6 rfl (by decide) rfl ?_
  refine g_aload_n hC 0 dX8_restOf_7 rfl rfl ?_
  refine g_iload_n hC 2 dX8_restOf_8 rfl rfl ?_
  refine g_aload_n hC 0 dX8_restOf_9 rfl rfl ?_
  refine g_getI hC cf8 rfl 9 (by decide) rfl m_918 dX8_restOf_10 ?_
  refine g_callv hC (st := []) (c := 8) rfl (by decide) rfl (ctX8_brokenBy x F v2 (r1.2 37 9) r1.2) mvX8_brokenBy m_1083 (by decide) rfl rfl (Nat.le_of_ble_eq_true rfl) dX8_restOf_13 (fun r3 => ?_)
  show GG x f 6 (Qm x f φIM) 16 [(0, .ref (x.1 37)), (2, .int a2), (3, .int v2)] [.int r3] r1.2 _
  refine g_if_eq hC 22 dX8_restOf_16 (by decide) ?_ ?_
  · refine g_aload_n hC 0 dX8_restOf_22 rfl rfl ?_
    refine g_getI hC cf8 rfl 9 (by decide) rfl m_918 dX8_restOf_23 ?_
    refine g_top (fun v4 => ?_)
    show GG x f 6 (Qm x f φIM) 26 [(0, .ref (x.1 37)), (2, .int a2), (3, .int v2)] [.int v4] r1.2 _
    refine g_istore hC (lv' := [(0, .ref (x.1 37)), (2, .int a2), (3, .int v2), (4, .int v4)]) [1, 2, 3, 0] dX8_restOf_26 (by decide) rfl ?_
    refine g_iconst hC (v := (0 : Int32)) dX8_restOf_28 (by decide) ?_
    refine g_istore hC (lv' := [(0, .ref (x.1 37)), (2, .int a2), (3, .int v2), (4, .int v4), (5, .int (0 : Int32))]) [1, 2, 3, 4, 0] dX8_restOf_29 (by decide) rfl ?_
    refine g_nm (fun (J6 : Int32 → Option (Int32 × Mem)) => ∀ (p5 : Int32), GG x f 6 (Qm x f φIM) 73 [(0, .ref (x.1 37)), (2, .int a2), (3, .int v2), (4, .int p5)] [] r1.2 (J6 p5)) (fun p5 => ?_) (fun J6 hJ6 => ?_)
    · show GG x f 6 (Qm x f φIM) 73 [(0, .ref (x.1 37)), (2, .int a2), (3, .int v2), (4, .int p5)] [] r1.2 _
      refine g_aload_n hC 0 dX8_restOf_73 rfl rfl ?_
      refine g_aload_n hC 0 dX8_restOf_74 rfl rfl ?_
      refine g_iload_n hC 1 dX8_restOf_75 rfl rfl ?_
      refine g_iload hC 3 dX8_restOf_76 rfl ?_
      refine g_callv hC (st := [.ref (x.1 37)]) (c := 8) rfl (by decide) rfl (ctX8_bestBy x F a2 p5 r1.2) mvX8_bestBy m_1219 (by decide) rfl rfl (Nat.le_of_ble_eq_true rfl) dX8_restOf_78 (fun r7 => ?_)
      show GG x f 6 (Qm x f φIM) 81 [(0, .ref (x.1 37)), (2, .int a2), (3, .int v2), (4, .int p5)] [.int (r7.1), .ref (x.1 37)] r7.2 _
      refine g_iload_n hC 1 dX8_restOf_81 rfl rfl ?_
      refine g_callv hC (st := []) (c := 8) rfl (by decide) rfl (ctX8_worthOf x F r7.1 a2 r7.2) mvX8_worthOf m_1223 (by decide) rfl rfl (Nat.le_of_ble_eq_true rfl) dX8_restOf_82 (fun r8 => ?_)
      show GG x f 6 (Qm x f φIM) 85 [(0, .ref (x.1 37)), (2, .int a2), (3, .int v2), (4, .int p5)] [.int r8] r7.2 _
      refine g_aload_n hC 0 dX8_restOf_85 rfl rfl ?_
      refine g_iload_n hC 2 dX8_restOf_86 rfl rfl ?_
      refine g_iload_n hC 1 dX8_restOf_87 rfl rfl ?_
      refine g_callv hC (st := [.int r8]) (c := 8) rfl (by decide) rfl (ctX8_worthOf x F v2 a2 r7.2) mvX8_worthOf m_1223 (by decide) rfl rfl (Nat.le_of_ble_eq_true rfl) dX8_restOf_88 (fun r9 => ?_)
      show GG x f 6 (Qm x f φIM) 91 [(0, .ref (x.1 37)), (2, .int a2), (3, .int v2), (4, .int p5)] [.int r9, .int r8] r7.2 _
      refine g_icmp_le hC 98 dX8_restOf_91 (by decide) ?_ ?_
      · refine g_iconst hC (v := (1 : Int32)) dX8_restOf_98 (by decide) ?_
        exact g_iret hC hm rfl dX8_restOf_99
      · refine g_iconst hC (v := (0 : Int32)) dX8_restOf_94 (by decide) ?_
        refine g_goto hC 99 dX8_restOf_95 (by decide) ?_
        exact g_iret hC hm rfl dX8_restOf_99
    refine g_fx2 (fun (p10 : Int32) (p11 : Int32) => [(0, .ref (x.1 37)), (2, .int a2), (3, .int v2), (4, .int p10), (5, .int p11)]) (fun (p10 : Int32) (p11 : Int32) => r1.2) (fun rec12 hrec12 p10 p11 => ?_) F _ _
    show GG x f 6 (Qm x f φIM) 31 [(0, .ref (x.1 37)), (2, .int a2), (3, .int v2), (4, .int p10), (5, .int p11)] [] r1.2 _
    unfold sX8_restOf_L31
    refine g_iload hC 4 dX8_restOf_31 rfl ?_
    refine g_aload_n hC 0 dX8_restOf_33 rfl rfl ?_
    refine g_getI hC cf8 rfl 2 (by decide) rfl m_911 dX8_restOf_34 ?_
    refine g_icmp_ge hC 73 dX8_restOf_37 (by decide) ?_ ?_
    · refine g_lv (lv' := [(0, .ref (x.1 37)), (2, .int a2), (3, .int v2), (4, .int p10)]) [0, 1, 2, 3] rfl ?_
      exact hJ6 p10
    · refine g_iload hC 3 dX8_restOf_40 rfl ?_
      refine g_aload_n hC 0 dX8_restOf_42 rfl rfl ?_
      refine g_getR hC cf8 (t := 40) rfl 3 (by decide) rfl m_912 dX8_restOf_43 ?_
      refine g_bipush hC (v := (6 : Int32)) dX8_restOf_46 (by decide) ?_
      refine g_iload hC 4 dX8_restOf_48 rfl ?_
      refine g_imul hC dX8_restOf_50 ?_
      refine g_iald hC rfl rfl dX8_restOf_51 ?_
      refine g_iload_n hC 1 dX8_restOf_52 rfl rfl ?_
      refine g_nm (fun (J14 : Int32 → Option (Int32 × Mem)) => ∀ (q13 : Int32), GG x f 6 (Qm x f φIM) 64 [(0, .ref (x.1 37)), (2, .int a2), (3, .int v2), (5, .int p11)] [.int q13, .int p10] r1.2 (J14 q13)) (fun q13 => ?_) (fun J14 hJ14 => ?_)
      · show GG x f 6 (Qm x f φIM) 64 [(0, .ref (x.1 37)), (2, .int a2), (3, .int v2), (5, .int p11)] [.int q13, .int p10] r1.2 _
        refine g_ior hC dX8_restOf_64 ?_
        refine g_top (fun v15 => ?_)
        show GG x f 6 (Qm x f φIM) 65 [(0, .ref (x.1 37)), (2, .int a2), (3, .int v2), (5, .int p11)] [.int v15] r1.2 _
        refine g_istore hC (lv' := [(0, .ref (x.1 37)), (2, .int a2), (3, .int v2), (4, .int v15), (5, .int p11)]) [1, 2, 3, 0, 4] dX8_restOf_65 (by decide) rfl ?_
        refine g_iinc hC (q := 4) (v := (1 : Int32)) (lv' := [(0, .ref (x.1 37)), (2, .int a2), (3, .int v2), (4, .int v15), (5, .int (p11 + (1 : Int32)))]) [1, 2, 3, 4, 0] dX8_restOf_67 rfl (by decide) (by decide) rfl ?_
        refine g_goto hC 31 dX8_restOf_70 (by decide) ?_
        exact hrec12 v15 (p11 + (1 : Int32))
      refine g_icmp_ne hC 63 dX8_restOf_53 (by decide) ?_ ?_
      · refine g_iconst hC (v := (0 : Int32)) dX8_restOf_63 (by decide) ?_
        refine g_lv (lv' := [(0, .ref (x.1 37)), (2, .int a2), (3, .int v2), (5, .int p11)]) [0, 1, 2, 4] rfl ?_
        exact hJ14 (0 : Int32)
      · refine g_iconst hC (v := (1 : Int32)) dX8_restOf_56 (by decide) ?_
        refine g_iload hC 4 dX8_restOf_57 rfl ?_
        refine g_ishl hC dX8_restOf_59 ?_
        refine g_goto hC 64 dX8_restOf_60 (by decide) ?_
        refine g_lv (lv' := [(0, .ref (x.1 37)), (2, .int a2), (3, .int v2), (5, .int p11)]) [0, 1, 2, 4] rfl ?_
        exact hJ14 ((1 : Int32) <<< (p11 &&& 31))
  · refine g_bipush hC (v := (-3 : Int32)) dX8_restOf_19 (by decide) ?_
    exact g_iret hC hm rfl dX8_restOf_21
def sX8_rest (F : Nat) (a1 : Int32) (a2 : Int32) (M : Mem) : Option (Int32 × Mem) :=
(sX8_isRow F a1 M).bind (fun r1 =>
if r1 = true then
((sX8_isPerson F a2 M).bind (fun r2 =>
if r2 = true then
((sX8_restOf F a1 a2 M).bind (fun r3 =>
some (r3.1, r3.2)))
else
(some ((-2 : Int32), M))))
else
(some ((-2 : Int32), M)))
theorem mvX8_rest : MV yX8_rest cX8_rest 3 (some .int) 2 := ⟨⟨m_1230, m_76, by decide, by decide, by decide⟩, m_1228, m_1229⟩
set_option maxHeartbeats 4000000 in
set_option maxRecDepth 100000 in
theorem ctX8_rest (x : Wx) (F : Nat) (a1 : Int32) (a2 : Int32) (M : Mem) : Ct x yX8_rest cX8_rest 3 (some .int) { frames := 9, cells := 0, slots := 0, locals := 215 } φIM [.ref (x.1 37), .int a1, .int a2] M (sX8_rest F a1 a2 M) := by
  refine ct_of (by decide) (Nat.le_of_ble_eq_true rfl) (fun f hC hm => ?_)
  have hC : Cx x f "AnswersFirstModel" cX8_rest 3 { frames := 9, cells := 0, slots := 0, locals := 215 } := hC
  show GG x f 3 (Qm x f φIM) 0 [(0, .ref (x.1 37)), (1, .int a1), (2, .int a2)] [] M _
  unfold sX8_rest
  refine g_iload_n hC 1 dX8_rest_0 rfl rfl ?_
  refine g_calls hC (st := []) (ctX8_isRow x F a1 M) msX8_isRow m_1072 (by decide) rfl rfl (Nat.le_of_ble_eq_true rfl) dX8_rest_1 (fun r1 => ?_)
  show GG x f 3 (Qm x f φIM) 4 [(0, .ref (x.1 37)), (1, .int a1), (2, .int a2)] [.int (bi r1)] M _
  refine g_ifB_eq hC 23 dX8_rest_4 (by decide) ?_ ?_
  · refine g_iload_n hC 2 dX8_rest_7 rfl rfl ?_
    refine g_calls hC (st := []) (ctX8_isPerson x F a2 M) msX8_isPerson m_1185 (by decide) rfl rfl (Nat.le_of_ble_eq_true rfl) dX8_rest_8 (fun r2 => ?_)
    show GG x f 3 (Qm x f φIM) 11 [(0, .ref (x.1 37)), (1, .int a1), (2, .int a2)] [.int (bi r2)] M _
    refine g_ifB_eq hC 23 dX8_rest_11 (by decide) ?_ ?_
    · refine g_aload_n hC 0 dX8_rest_14 rfl rfl ?_
      refine g_iload_n hC 1 dX8_rest_15 rfl rfl ?_
      refine g_iload_n hC 2 dX8_rest_16 rfl rfl ?_
      refine g_callv hC (st := []) (c := 8) rfl (by decide) rfl (ctX8_restOf x F a1 a2 M) mvX8_restOf m_1231 (by decide) rfl rfl (Nat.le_of_ble_eq_true rfl) dX8_rest_17 (fun r3 => ?_)
      show GG x f 3 (Qm x f φIM) 20 [(0, .ref (x.1 37)), (1, .int a1), (2, .int a2)] [.int (r3.1)] r3.2 _
      refine g_goto hC 25 dX8_rest_20 (by decide) ?_
      exact g_iret hC hm rfl dX8_rest_25
    · refine g_bipush hC (v := (-2 : Int32)) dX8_rest_23 (by decide) ?_
      exact g_iret hC hm rfl dX8_rest_25
  · refine g_bipush hC (v := (-2 : Int32)) dX8_rest_23 (by decide) ?_
    exact g_iret hC hm rfl dX8_rest_25
def sX8_canBe (F : Nat) (a1 : Int32) (a2 : Int32) (M : Mem) : Option Bool :=
nm ((3 : Int32) * a2) (fun v1 =>
nm ((33 : Int32) + ((3 : Int32) * a1)) (fun v2 =>
ib v2 66 (
ib v1 66 (
nm (((M 42 (ix v2)) - (M 42 (ix v1))) - (M 37 6)) (fun v3 =>
ib (v2 + (1 : Int32)) 66 (
ib (v1 + (2 : Int32)) 66 (
if ¬ (M 42 (ix (v2 + (1 : Int32)))) = (M 42 (ix (v1 + (2 : Int32)))) then
(some false)
else
(ib (v2 + (2 : Int32)) 66 (
ib (v1 + (1 : Int32)) 66 (
if ¬ (M 42 (ix (v2 + (2 : Int32)))) = (M 42 (ix (v1 + (1 : Int32)))) then
(some false)
else
((sX8_in F v3 (0 : Int32) (M 37 7) M).bind (fun r4 =>
if r4 = true then
(some true)
else
(some false)))))))))))))
theorem mvX8_canBe : MV yX8_canBe cX8_canBe 6 (some .boolean) 2 := ⟨⟨m_1246, m_76, by decide, by decide, by decide⟩, m_1245, m_58⟩
set_option maxHeartbeats 4000000 in
set_option maxRecDepth 100000 in
theorem ctX8_canBe (x : Wx) (F : Nat) (a1 : Int32) (a2 : Int32) (M : Mem) : Ct x yX8_canBe cX8_canBe 6 (some .boolean) { frames := 1, cells := 0, slots := 0, locals := 22 } (φB M) [.ref (x.1 37), .int a1, .int a2] M (sX8_canBe F a1 a2 M) := by
  refine ct_of (by decide) (Nat.le_of_ble_eq_true rfl) (fun f hC hm => ?_)
  have hC : Cx x f "AnswersFirstModel" cX8_canBe 6 { frames := 1, cells := 0, slots := 0, locals := 22 } := hC
  show GG x f 6 (Qm x f (φB M)) 0 [(0, .ref (x.1 37)), (1, .int a1), (2, .int a2)] [] M _
  unfold sX8_canBe
  refine g_iconst hC (v := (3 : Int32)) dX8_canBe_0 (by decide) ?_
  refine g_iload_n hC 2 dX8_canBe_1 rfl rfl ?_
  refine g_imul hC dX8_canBe_2 ?_
  refine g_top (fun v1 => ?_)
  show GG x f 6 (Qm x f (φB M)) 3 [(0, .ref (x.1 37)), (1, .int a1), (2, .int a2)] [.int v1] M _
  refine g_istore_n hC (lv' := [(0, .ref (x.1 37)), (1, .int a1), (3, .int v1)]) [1, 2, 0] dX8_canBe_3 rfl (by decide) rfl ?_
  refine g_bipush hC (v := (33 : Int32)) dX8_canBe_4 (by decide) ?_
  refine g_iconst hC (v := (3 : Int32)) dX8_canBe_6 (by decide) ?_
  refine g_iload_n hC 1 dX8_canBe_7 rfl rfl ?_
  refine g_imul hC dX8_canBe_8 ?_
  refine g_iadd hC dX8_canBe_9 ?_
  refine g_top (fun v2 => ?_)
  show GG x f 6 (Qm x f (φB M)) 10 [(0, .ref (x.1 37)), (1, .int a1), (3, .int v1)] [.int v2] M _
  refine g_istore hC (lv' := [(0, .ref (x.1 37)), (3, .int v1), (4, .int v2)]) [1, 3, 0] dX8_canBe_10 (by decide) rfl ?_
  refine g_aload_n hC 0 dX8_canBe_12 rfl rfl ?_
  refine g_getR hC cf8 (t := 42) rfl 5 (by decide) rfl m_914 dX8_canBe_13 ?_
  refine g_iload hC 2 dX8_canBe_16 rfl ?_
  refine g_iald hC rfl rfl dX8_canBe_18 ?_
  refine g_aload_n hC 0 dX8_canBe_19 rfl rfl ?_
  refine g_getR hC cf8 (t := 42) rfl 5 (by decide) rfl m_914 dX8_canBe_20 ?_
  refine g_iload_n hC 1 dX8_canBe_23 rfl rfl ?_
  refine g_iald hC rfl rfl dX8_canBe_24 ?_
  refine g_isub hC dX8_canBe_25 ?_
  refine g_aload_n hC 0 dX8_canBe_26 rfl rfl ?_
  refine g_getI hC cf8 rfl 6 (by decide) rfl m_915 dX8_canBe_27 ?_
  refine g_isub hC dX8_canBe_30 ?_
  refine g_top (fun v3 => ?_)
  show GG x f 6 (Qm x f (φB M)) 31 [(0, .ref (x.1 37)), (3, .int v1), (4, .int v2)] [.int v3] M _
  refine g_istore hC (lv' := [(0, .ref (x.1 37)), (3, .int v1), (4, .int v2), (5, .int v3)]) [1, 2, 3, 0] dX8_canBe_31 (by decide) rfl ?_
  refine g_aload_n hC 0 dX8_canBe_33 rfl rfl ?_
  refine g_getR hC cf8 (t := 42) rfl 5 (by decide) rfl m_914 dX8_canBe_34 ?_
  refine g_iload hC 2 dX8_canBe_37 rfl ?_
  refine g_iconst hC (v := (1 : Int32)) dX8_canBe_39 (by decide) ?_
  refine g_iadd hC dX8_canBe_40 ?_
  refine g_iald hC rfl rfl dX8_canBe_41 ?_
  refine g_aload_n hC 0 dX8_canBe_42 rfl rfl ?_
  refine g_getR hC cf8 (t := 42) rfl 5 (by decide) rfl m_914 dX8_canBe_43 ?_
  refine g_iload_n hC 1 dX8_canBe_46 rfl rfl ?_
  refine g_iconst hC (v := (2 : Int32)) dX8_canBe_47 (by decide) ?_
  refine g_iadd hC dX8_canBe_48 ?_
  refine g_iald hC rfl rfl dX8_canBe_49 ?_
  refine g_icmp_ne hC 90 dX8_canBe_50 (by decide) ?_ ?_
  · refine g_iconst hC (v := (0 : Int32)) dX8_canBe_90 (by decide) ?_
    exact g_zret hC hm rfl rfl dX8_canBe_91
  · refine g_aload_n hC 0 dX8_canBe_53 rfl rfl ?_
    refine g_getR hC cf8 (t := 42) rfl 5 (by decide) rfl m_914 dX8_canBe_54 ?_
    refine g_iload hC 2 dX8_canBe_57 rfl ?_
    refine g_iconst hC (v := (2 : Int32)) dX8_canBe_59 (by decide) ?_
    refine g_iadd hC dX8_canBe_60 ?_
    refine g_iald hC rfl rfl dX8_canBe_61 ?_
    refine g_aload_n hC 0 dX8_canBe_62 rfl rfl ?_
    refine g_getR hC cf8 (t := 42) rfl 5 (by decide) rfl m_914 dX8_canBe_63 ?_
    refine g_iload_n hC 1 dX8_canBe_66 rfl rfl ?_
    refine g_iconst hC (v := (1 : Int32)) dX8_canBe_67 (by decide) ?_
    refine g_iadd hC dX8_canBe_68 ?_
    refine g_iald hC rfl rfl dX8_canBe_69 ?_
    refine g_icmp_ne hC 90 dX8_canBe_70 (by decide) ?_ ?_
    · refine g_iconst hC (v := (0 : Int32)) dX8_canBe_90 (by decide) ?_
      exact g_zret hC hm rfl rfl dX8_canBe_91
    · refine g_iload hC 3 dX8_canBe_73 rfl ?_
      refine g_iconst hC (v := (0 : Int32)) dX8_canBe_75 (by decide) ?_
      refine g_aload_n hC 0 dX8_canBe_76 rfl rfl ?_
      refine g_getI hC cf8 rfl 7 (by decide) rfl m_916 dX8_canBe_77 ?_
      refine g_calls hC (st := []) (ctX8_in x F v3 (0 : Int32) (M 37 7) M) msX8_in m_987 (by decide) rfl rfl (Nat.le_of_ble_eq_true rfl) dX8_canBe_80 (fun r4 => ?_)
      show GG x f 6 (Qm x f (φB M)) 83 [(0, .ref (x.1 37)), (3, .int v1), (4, .int v2), (5, .int v3)] [.int (bi r4)] M _
      refine g_ifB_eq hC 90 dX8_canBe_83 (by decide) ?_ ?_
      · refine g_iconst hC (v := (1 : Int32)) dX8_canBe_86 (by decide) ?_
        refine g_goto hC 91 dX8_canBe_87 (by decide) ?_
        exact g_zret hC hm rfl rfl dX8_canBe_91
      · refine g_iconst hC (v := (0 : Int32)) dX8_canBe_90 (by decide) ?_
        exact g_zret hC hm rfl rfl dX8_canBe_91
def sX8_owedOf_L196 (F : Nat) (M5 : Mem) (J8 : Int32 → Option (Int32 × Mem)) (rec11 : Int32 → Int32 → Option (Int32 × Mem)) (p9 : Int32) (p10 : Int32) : Option (Int32 × Mem) :=
if (1024 : Int32) ≤ p10 then
(J8 p9)
else
(ib p10 1024 (
nm (fun (q12 : Int32) =>
rec11 q12 (p10 + (1 : Int32))) (fun J13 =>
if (M5 46 (ix p10)) ≤ p9 then
(J13 p9)
else
(ib p10 1024 (
J13 (M5 46 (ix p10)))))))
def sX8_owedOf_L86 (F : Nat) (p15 : Int32) (p22 : Int32) (J26 : Mem → Option (Int32 × Mem)) (rec29 : Int32 → Mem → Option (Int32 × Mem)) (p27 : Int32) (M28 : Mem) : Option (Int32 × Mem) :=
ib (1 : Int32) 2 (
if (M28 41 (ix (1 : Int32))) ≤ p27 then
(J26 M28)
else
(ib p22 1024 (
if (M28 46 (ix p22)) = (-1 : Int32) then
(J26 M28)
else
((sX8_isIn F p22 p27 M28).bind (fun r30 =>
nm (fun (M31 : Mem) =>
rec29 (p27 + (1 : Int32)) M31) (fun J32 =>
if r30 = true then
(J32 M28)
else
((sX8_canBe F p27 p15 M28).bind (fun r33 =>
if r33 = true then
(ib (p22 ||| ((1 : Int32) <<< (p27 &&& 31))) 1024 (
ib p22 1024 (
if ((M28 46 (ix p22)) + (1 : Int32)) ≤ (M28 46 (ix (p22 ||| ((1 : Int32) <<< (p27 &&& 31))))) then
(J32 M28)
else
(ib p22 1024 (
ib (p22 ||| ((1 : Int32) <<< (p27 &&& 31))) 1024 (
nm (st2 M28 46 (ix (p22 ||| ((1 : Int32) <<< (p27 &&& 31)))) ((M28 46 (ix p22)) + (1 : Int32))) (fun M34 =>
J32 M34)))))))
else
(J32 M28)))))))))
def sX8_owedOf_L78 (F : Nat) (p14 : Int32) (p15 : Int32) (J20 : Int32 → Mem → Option (Int32 × Mem)) (rec24 : Int32 → Mem → Option (Int32 × Mem)) (p22 : Int32) (M23 : Mem) : Option (Int32 × Mem) :=
if p22 < 0 then
(J20 (p14 + (1 : Int32)) M23)
else
(nm (fun (M25 : Mem) =>
rec24 (p22 + (-1 : Int32)) M25) (fun J26 =>
fx2 F (sX8_owedOf_L86 F p15 p22 J26) (0 : Int32) M23))
def sX8_owedOf_L38 (F : Nat) (a1 : Int32) (J6 : Int32 → Mem → Option (Int32 × Mem)) (rec17 : Int32 → Int32 → Mem → Option (Int32 × Mem)) (p14 : Int32) (p15 : Int32) (M16 : Mem) : Option (Int32 × Mem) :=
ib (0 : Int32) 2 (
if (M16 41 (ix (0 : Int32))) ≤ p15 then
(J6 p14 M16)
else
(nm (fun (p18 : Int32) (M19 : Mem) =>
rec17 p18 (p15 + (1 : Int32)) M19) (fun J20 =>
nm (fx2 F (sX8_owedOf_L78 F p14 p15 J20) (1023 : Int32) M16) (fun J21 =>
if a1 = (-1 : Int32) then
(J21)
else
(ib (((3 : Int32) * p15) + (2 : Int32)) 66 (
if (M16 42 (ix (((3 : Int32) * p15) + (2 : Int32)))) = a1 then
(J21)
else
(J20 p14 M16)))))))
def sX8_owedOf_L6 (F : Nat) (J3 : Mem → Option (Int32 × Mem)) (rec37 : Int32 → Mem → Option (Int32 × Mem)) (p35 : Int32) (M36 : Mem) : Option (Int32 × Mem) :=
if (1024 : Int32) ≤ p35 then
(J3 M36)
else
(nm (fun (q38 : Int32) =>
ib p35 1024 (
nm (st2 M36 46 (ix p35) q38) (fun M40 =>
rec37 (p35 + (1 : Int32)) M40))) (fun J39 =>
if ¬ p35 = 0 then
(J39 (-1 : Int32))
else
(J39 (0 : Int32))))
def sX8_owedOf (F : Nat) (a1 : Int32) (M : Mem) : Option (Int32 × Mem) :=
(sX8_reads F M).bind (fun r1 =>
nm (fun (M2 : Mem) =>
nm (fun (p4 : Int32) (M5 : Mem) =>
nm (fun (p7 : Int32) =>
some ((p4 - p7), M5)) (fun J8 =>
fx2 F (sX8_owedOf_L196 F M5 J8) (0 : Int32) (0 : Int32))) (fun J6 =>
fx3 F (sX8_owedOf_L38 F a1 J6) (0 : Int32) (0 : Int32) M2)) (fun J3 =>
fx2 F (sX8_owedOf_L6 F J3) (0 : Int32) r1))
theorem mvX8_owedOf : MV yX8_owedOf cX8_owedOf 6 (some .int) 1 := ⟨⟨m_1242, m_76, by decide, by decide, by decide⟩, m_1241, m_57⟩
set_option maxHeartbeats 4000000 in
set_option maxRecDepth 100000 in
theorem ctX8_owedOf (x : Wx) (F : Nat) (a1 : Int32) (M : Mem) : Ct x yX8_owedOf cX8_owedOf 6 (some .int) { frames := 6, cells := 0, slots := 0, locals := 144 } φIM [.ref (x.1 37), .int a1] M (sX8_owedOf F a1 M) := by
  refine ct_of (by decide) (Nat.le_of_ble_eq_true rfl) (fun f hC hm => ?_)
  have hC : Cx x f "AnswersFirstModel" cX8_owedOf 6 { frames := 6, cells := 0, slots := 0, locals := 144 } := hC
  show GG x f 6 (Qm x f φIM) 0 [(0, .ref (x.1 37)), (1, .int a1)] [] M _
  unfold sX8_owedOf
  refine g_aload_n hC 0 dX8_owedOf_0 rfl rfl ?_
  refine g_callv hC (st := []) (c := 8) rfl (by decide) rfl (ctX8_reads x F M) mvX8_reads m_1038 (by decide) rfl rfl (Nat.le_of_ble_eq_true rfl) dX8_owedOf_1 (fun r1 => ?_)
  show GG x f 6 (Qm x f φIM) 4 [(0, .ref (x.1 37)), (1, .int a1)] [] r1 _
  refine g_iconst hC (v := (0 : Int32)) dX8_owedOf_4 (by decide) ?_
  refine g_istore_n hC (lv' := [(0, .ref (x.1 37)), (1, .int a1), (2, .int (0 : Int32))]) [1, 2, 0] dX8_owedOf_5 rfl (by decide) rfl ?_
  refine g_nm (fun (J3 : Mem → Option (Int32 × Mem)) => ∀ (M2 : Mem), GG x f 6 (Qm x f φIM) 34 [(0, .ref (x.1 37)), (1, .int a1)] [] M2 (J3 M2)) (fun M2 => ?_) (fun J3 hJ3 => ?_)
  · show GG x f 6 (Qm x f φIM) 34 [(0, .ref (x.1 37)), (1, .int a1)] [] M2 _
    refine g_iconst hC (v := (0 : Int32)) dX8_owedOf_34 (by decide) ?_
    refine g_istore_n hC (lv' := [(0, .ref (x.1 37)), (1, .int a1), (2, .int (0 : Int32))]) [1, 2, 0] dX8_owedOf_35 rfl (by decide) rfl ?_
    refine g_iconst hC (v := (0 : Int32)) dX8_owedOf_36 (by decide) ?_
    refine g_istore_n hC (lv' := [(0, .ref (x.1 37)), (1, .int a1), (2, .int (0 : Int32)), (3, .int (0 : Int32))]) [1, 2, 3, 0] dX8_owedOf_37 rfl (by decide) rfl ?_
    refine g_nm (fun (J6 : Int32 → Mem → Option (Int32 × Mem)) => ∀ (p4 : Int32) (M5 : Mem), GG x f 6 (Qm x f φIM) 191 [(0, .ref (x.1 37)), (2, .int p4)] [] M5 (J6 p4 M5)) (fun p4 M5 => ?_) (fun J6 hJ6 => ?_)
    · show GG x f 6 (Qm x f φIM) 191 [(0, .ref (x.1 37)), (2, .int p4)] [] M5 _
      refine g_iconst hC (v := (0 : Int32)) dX8_owedOf_191 (by decide) ?_
      refine g_istore_n hC (lv' := [(0, .ref (x.1 37)), (2, .int p4), (3, .int (0 : Int32))]) [1, 2, 0] dX8_owedOf_192 rfl (by decide) rfl ?_
      refine g_iconst hC (v := (0 : Int32)) dX8_owedOf_193 (by decide) ?_
      refine g_istore hC (lv' := [(0, .ref (x.1 37)), (2, .int p4), (3, .int (0 : Int32)), (4, .int (0 : Int32))]) [1, 2, 3, 0] dX8_owedOf_194 (by decide) rfl ?_
      refine g_nm (fun (J8 : Int32 → Option (Int32 × Mem)) => ∀ (p7 : Int32), GG x f 6 (Qm x f φIM) 233 [(2, .int p4), (3, .int p7)] [] M5 (J8 p7)) (fun p7 => ?_) (fun J8 hJ8 => ?_)
      · show GG x f 6 (Qm x f φIM) 233 [(2, .int p4), (3, .int p7)] [] M5 _
        refine g_iload_n hC 0 dX8_owedOf_233 rfl rfl ?_
        refine g_iload_n hC 1 dX8_owedOf_234 rfl rfl ?_
        refine g_isub hC dX8_owedOf_235 ?_
        exact g_iret hC hm rfl dX8_owedOf_236
      refine g_fx2 (fun (p9 : Int32) (p10 : Int32) => [(0, .ref (x.1 37)), (2, .int p4), (3, .int p9), (4, .int p10)]) (fun (p9 : Int32) (p10 : Int32) => M5) (fun rec11 hrec11 p9 p10 => ?_) F _ _
      show GG x f 6 (Qm x f φIM) 196 [(0, .ref (x.1 37)), (2, .int p4), (3, .int p9), (4, .int p10)] [] M5 _
      unfold sX8_owedOf_L196
      refine g_iload hC 3 dX8_owedOf_196 rfl ?_
      refine g_sipush hC (v := (1024 : Int32)) dX8_owedOf_198 (by decide) ?_
      refine g_icmp_ge hC 233 dX8_owedOf_201 (by decide) ?_ ?_
      · refine g_lv (lv' := [(2, .int p4), (3, .int p9)]) [1, 2] rfl ?_
        exact hJ8 p9
      · refine g_aload_n hC 0 dX8_owedOf_204 rfl rfl ?_
        refine g_getR hC cf8 (t := 46) rfl 13 (by decide) rfl m_922 dX8_owedOf_205 ?_
        refine g_iload hC 3 dX8_owedOf_208 rfl ?_
        refine g_iald hC rfl rfl dX8_owedOf_210 ?_
        refine g_iload_n hC 2 dX8_owedOf_211 rfl rfl ?_
        refine g_nm (fun (J13 : Int32 → Option (Int32 × Mem)) => ∀ (q12 : Int32), GG x f 6 (Qm x f φIM) 226 [(0, .ref (x.1 37)), (2, .int p4), (4, .int p10)] [.int q12] M5 (J13 q12)) (fun q12 => ?_) (fun J13 hJ13 => ?_)
        · show GG x f 6 (Qm x f φIM) 226 [(0, .ref (x.1 37)), (2, .int p4), (4, .int p10)] [.int q12] M5 _
          refine g_istore_n hC (lv' := [(0, .ref (x.1 37)), (2, .int p4), (3, .int q12), (4, .int p10)]) [1, 2, 0, 3] dX8_owedOf_226 rfl (by decide) rfl ?_
          refine g_iinc hC (q := 3) (v := (1 : Int32)) (lv' := [(0, .ref (x.1 37)), (2, .int p4), (3, .int q12), (4, .int (p10 + (1 : Int32)))]) [1, 2, 3, 0] dX8_owedOf_227 rfl (by decide) (by decide) rfl ?_
          refine g_goto hC 196 dX8_owedOf_230 (by decide) ?_
          exact hrec11 q12 (p10 + (1 : Int32))
        refine g_icmp_le hC 225 dX8_owedOf_212 (by decide) ?_ ?_
        · refine g_iload_n hC 2 dX8_owedOf_225 rfl rfl ?_
          refine g_lv (lv' := [(0, .ref (x.1 37)), (2, .int p4), (4, .int p10)]) [0, 1, 3] rfl ?_
          exact hJ13 p9
        · refine g_aload_n hC 0 dX8_owedOf_215 rfl rfl ?_
          refine g_getR hC cf8 (t := 46) rfl 13 (by decide) rfl m_922 dX8_owedOf_216 ?_
          refine g_iload hC 3 dX8_owedOf_219 rfl ?_
          refine g_iald hC rfl rfl dX8_owedOf_221 ?_
          refine g_goto hC 226 dX8_owedOf_222 (by decide) ?_
          refine g_lv (lv' := [(0, .ref (x.1 37)), (2, .int p4), (4, .int p10)]) [0, 1, 3] rfl ?_
          exact hJ13 (M5 46 (ix p10))
    refine g_fx3 (fun (p14 : Int32) (p15 : Int32) (M16 : Mem) => [(0, .ref (x.1 37)), (1, .int a1), (2, .int p14), (3, .int p15)]) (fun (p14 : Int32) (p15 : Int32) (M16 : Mem) => M16) (fun rec17 hrec17 p14 p15 M16 => ?_) F _ _ _
    show GG x f 6 (Qm x f φIM) 38 [(0, .ref (x.1 37)), (1, .int a1), (2, .int p14), (3, .int p15)] [] M16 _
    unfold sX8_owedOf_L38
    refine g_iload_n hC 3 dX8_owedOf_38 rfl rfl ?_
    refine g_aload_n hC 0 dX8_owedOf_39 rfl rfl ?_
    refine g_getR hC cf8 (t := 41) rfl 4 (by decide) rfl m_913 dX8_owedOf_40 ?_
    refine g_iconst hC (v := (0 : Int32)) dX8_owedOf_43 (by decide) ?_
    refine g_iald hC rfl rfl dX8_owedOf_44 ?_
    refine g_icmp_ge hC 191 dX8_owedOf_45 (by decide) ?_ ?_
    · refine g_lv (lv' := [(0, .ref (x.1 37)), (2, .int p14)]) [0, 2] rfl ?_
      exact hJ6 p14 M16
    · refine g_iload_n hC 1 dX8_owedOf_48 rfl rfl ?_
      refine g_iconst hC (v := (-1 : Int32)) dX8_owedOf_49 (by decide) ?_
      refine g_nm (fun (J20 : Int32 → Mem → Option (Int32 × Mem)) => ∀ (p18 : Int32) (M19 : Mem), GG x f 6 (Qm x f φIM) 185 [(0, .ref (x.1 37)), (1, .int a1), (2, .int p18), (3, .int p15)] [] M19 (J20 p18 M19)) (fun p18 M19 => ?_) (fun J20 hJ20 => ?_)
      · show GG x f 6 (Qm x f φIM) 185 [(0, .ref (x.1 37)), (1, .int a1), (2, .int p18), (3, .int p15)] [] M19 _
        refine g_iinc hC (q := 3) (v := (1 : Int32)) (lv' := [(0, .ref (x.1 37)), (1, .int a1), (2, .int p18), (3, .int (p15 + (1 : Int32)))]) [1, 2, 3, 0] dX8_owedOf_185 rfl (by decide) (by decide) rfl ?_
        refine g_goto hC 38 dX8_owedOf_188 (by decide) ?_
        exact hrec17 p18 (p15 + (1 : Int32)) M19
      refine g_nm (fun (J21 : Option (Int32 × Mem)) => GG x f 6 (Qm x f φIM) 70 [(0, .ref (x.1 37)), (1, .int a1), (2, .int p14), (3, .int p15)] [] M16 J21) ?_ (fun J21 hJ21 => ?_)
      · show GG x f 6 (Qm x f φIM) 70 [(0, .ref (x.1 37)), (1, .int a1), (2, .int p14), (3, .int p15)] [] M16 _
        refine g_iinc hC (q := 2) (v := (1 : Int32)) (lv' := [(0, .ref (x.1 37)), (1, .int a1), (2, .int (p14 + (1 : Int32))), (3, .int p15)]) [1, 2, 0, 3] dX8_owedOf_70 rfl (by decide) (by decide) rfl ?_
        refine g_sipush hC (v := (1023 : Int32)) dX8_owedOf_73 (by decide) ?_
        refine g_istore hC (lv' := [(0, .ref (x.1 37)), (1, .int a1), (2, .int (p14 + (1 : Int32))), (3, .int p15), (4, .int (1023 : Int32))]) [1, 2, 3, 4, 0] dX8_owedOf_76 (by decide) rfl ?_
        refine g_fx2 (fun (p22 : Int32) (M23 : Mem) => [(0, .ref (x.1 37)), (1, .int a1), (2, .int (p14 + (1 : Int32))), (3, .int p15), (4, .int p22)]) (fun (p22 : Int32) (M23 : Mem) => M23) (fun rec24 hrec24 p22 M23 => ?_) F _ _
        show GG x f 6 (Qm x f φIM) 78 [(0, .ref (x.1 37)), (1, .int a1), (2, .int (p14 + (1 : Int32))), (3, .int p15), (4, .int p22)] [] M23 _
        unfold sX8_owedOf_L78
        refine g_iload hC 4 dX8_owedOf_78 rfl ?_
        refine g_if_lt hC 185 dX8_owedOf_80 (by decide) ?_ ?_
        · refine g_lv (lv' := [(0, .ref (x.1 37)), (1, .int a1), (2, .int (p14 + (1 : Int32))), (3, .int p15)]) [0, 1, 2, 3] rfl ?_
          exact hJ20 (p14 + (1 : Int32)) M23
        · refine g_iconst hC (v := (0 : Int32)) dX8_owedOf_83 (by decide) ?_
          refine g_istore hC (lv' := [(0, .ref (x.1 37)), (1, .int a1), (2, .int (p14 + (1 : Int32))), (3, .int p15), (4, .int p22), (5, .int (0 : Int32))]) [1, 2, 3, 4, 5, 0] dX8_owedOf_84 (by decide) rfl ?_
          refine g_nm (fun (J26 : Mem → Option (Int32 × Mem)) => ∀ (M25 : Mem), GG x f 6 (Qm x f φIM) 179 [(0, .ref (x.1 37)), (1, .int a1), (2, .int (p14 + (1 : Int32))), (3, .int p15), (4, .int p22)] [] M25 (J26 M25)) (fun M25 => ?_) (fun J26 hJ26 => ?_)
          · show GG x f 6 (Qm x f φIM) 179 [(0, .ref (x.1 37)), (1, .int a1), (2, .int (p14 + (1 : Int32))), (3, .int p15), (4, .int p22)] [] M25 _
            refine g_iinc hC (q := 4) (v := (-1 : Int32)) (lv' := [(0, .ref (x.1 37)), (1, .int a1), (2, .int (p14 + (1 : Int32))), (3, .int p15), (4, .int (p22 + (-1 : Int32)))]) [1, 2, 3, 4, 0] dX8_owedOf_179 rfl (by decide) (by decide) rfl ?_
            refine g_goto hC 78 dX8_owedOf_182 (by decide) ?_
            exact hrec24 (p22 + (-1 : Int32)) M25
          refine g_fx2 (fun (p27 : Int32) (M28 : Mem) => [(0, .ref (x.1 37)), (1, .int a1), (2, .int (p14 + (1 : Int32))), (3, .int p15), (4, .int p22), (5, .int p27)]) (fun (p27 : Int32) (M28 : Mem) => M28) (fun rec29 hrec29 p27 M28 => ?_) F _ _
          show GG x f 6 (Qm x f φIM) 86 [(0, .ref (x.1 37)), (1, .int a1), (2, .int (p14 + (1 : Int32))), (3, .int p15), (4, .int p22), (5, .int p27)] [] M28 _
          unfold sX8_owedOf_L86
          refine g_iload hC 5 dX8_owedOf_86 rfl ?_
          refine g_aload_n hC 0 dX8_owedOf_88 rfl rfl ?_
          refine g_getR hC cf8 (t := 41) rfl 4 (by decide) rfl m_913 dX8_owedOf_89 ?_
          refine g_iconst hC (v := (1 : Int32)) dX8_owedOf_92 (by decide) ?_
          refine g_iald hC rfl rfl dX8_owedOf_93 ?_
          refine g_icmp_ge hC 179 dX8_owedOf_94 (by decide) ?_ ?_
          · refine g_lv (lv' := [(0, .ref (x.1 37)), (1, .int a1), (2, .int (p14 + (1 : Int32))), (3, .int p15), (4, .int p22)]) [0, 1, 2, 3, 4] rfl ?_
            exact hJ26 M28
          · refine g_aload_n hC 0 dX8_owedOf_97 rfl rfl ?_
            refine g_getR hC cf8 (t := 46) rfl 13 (by decide) rfl m_922 dX8_owedOf_98 ?_
            refine g_iload hC 4 dX8_owedOf_101 rfl ?_
            refine g_iald hC rfl rfl dX8_owedOf_103 ?_
            refine g_iconst hC (v := (-1 : Int32)) dX8_owedOf_104 (by decide) ?_
            refine g_icmp_eq hC 179 dX8_owedOf_105 (by decide) ?_ ?_
            · refine g_lv (lv' := [(0, .ref (x.1 37)), (1, .int a1), (2, .int (p14 + (1 : Int32))), (3, .int p15), (4, .int p22)]) [0, 1, 2, 3, 4] rfl ?_
              exact hJ26 M28
            · refine g_iload hC 4 dX8_owedOf_108 rfl ?_
              refine g_iload hC 5 dX8_owedOf_110 rfl ?_
              refine g_calls hC (st := []) (ctX8_isIn x F p22 p27 M28) msX8_isIn m_1091 (by decide) rfl rfl (Nat.le_of_ble_eq_true rfl) dX8_owedOf_112 (fun r30 => ?_)
              show GG x f 6 (Qm x f φIM) 115 [(0, .ref (x.1 37)), (1, .int a1), (2, .int (p14 + (1 : Int32))), (3, .int p15), (4, .int p22), (5, .int p27)] [.int (bi r30)] M28 _
              refine g_nm (fun (J32 : Mem → Option (Int32 × Mem)) => ∀ (M31 : Mem), GG x f 6 (Qm x f φIM) 173 [(0, .ref (x.1 37)), (1, .int a1), (2, .int (p14 + (1 : Int32))), (3, .int p15), (4, .int p22), (5, .int p27)] [] M31 (J32 M31)) (fun M31 => ?_) (fun J32 hJ32 => ?_)
              · show GG x f 6 (Qm x f φIM) 173 [(0, .ref (x.1 37)), (1, .int a1), (2, .int (p14 + (1 : Int32))), (3, .int p15), (4, .int p22), (5, .int p27)] [] M31 _
                refine g_iinc hC (q := 5) (v := (1 : Int32)) (lv' := [(0, .ref (x.1 37)), (1, .int a1), (2, .int (p14 + (1 : Int32))), (3, .int p15), (4, .int p22), (5, .int (p27 + (1 : Int32)))]) [1, 2, 3, 4, 5, 0] dX8_owedOf_173 rfl (by decide) (by decide) rfl ?_
                refine g_goto hC 86 dX8_owedOf_176 (by decide) ?_
                exact hrec29 (p27 + (1 : Int32)) M31
              refine g_ifB_ne hC 173 dX8_owedOf_115 (by decide) ?_ ?_
              · exact hJ32 M28
              · refine g_aload_n hC 0 dX8_owedOf_118 rfl rfl ?_
                refine g_iload hC 5 dX8_owedOf_119 rfl ?_
                refine g_iload_n hC 3 dX8_owedOf_121 rfl rfl ?_
                refine g_callv hC (st := []) (c := 8) rfl (by decide) rfl (ctX8_canBe x F p27 p15 M28) mvX8_canBe m_1243 (by decide) rfl rfl (Nat.le_of_ble_eq_true rfl) dX8_owedOf_122 (fun r33 => ?_)
                show GG x f 6 (Qm x f φIM) 125 [(0, .ref (x.1 37)), (1, .int a1), (2, .int (p14 + (1 : Int32))), (3, .int p15), (4, .int p22), (5, .int p27)] [.int (bi r33)] M28 _
                refine g_ifB_eq hC 173 dX8_owedOf_125 (by decide) ?_ ?_
                · refine g_aload_n hC 0 dX8_owedOf_128 rfl rfl ?_
                  refine g_getR hC cf8 (t := 46) rfl 13 (by decide) rfl m_922 dX8_owedOf_129 ?_
                  refine g_iload hC 4 dX8_owedOf_132 rfl ?_
                  refine g_iconst hC (v := (1 : Int32)) dX8_owedOf_134 (by decide) ?_
                  refine g_iload hC 5 dX8_owedOf_135 rfl ?_
                  refine g_ishl hC dX8_owedOf_137 ?_
                  refine g_ior hC dX8_owedOf_138 ?_
                  refine g_iald hC rfl rfl dX8_owedOf_139 ?_
                  refine g_aload_n hC 0 dX8_owedOf_140 rfl rfl ?_
                  refine g_getR hC cf8 (t := 46) rfl 13 (by decide) rfl m_922 dX8_owedOf_141 ?_
                  refine g_iload hC 4 dX8_owedOf_144 rfl ?_
                  refine g_iald hC rfl rfl dX8_owedOf_146 ?_
                  refine g_iconst hC (v := (1 : Int32)) dX8_owedOf_147 (by decide) ?_
                  refine g_iadd hC dX8_owedOf_148 ?_
                  refine g_icmp_ge hC 173 dX8_owedOf_149 (by decide) ?_ ?_
                  · exact hJ32 M28
                  · refine g_aload_n hC 0 dX8_owedOf_152 rfl rfl ?_
                    refine g_getR hC cf8 (t := 46) rfl 13 (by decide) rfl m_922 dX8_owedOf_153 ?_
                    refine g_iload hC 4 dX8_owedOf_156 rfl ?_
                    refine g_iconst hC (v := (1 : Int32)) dX8_owedOf_158 (by decide) ?_
                    refine g_iload hC 5 dX8_owedOf_159 rfl ?_
                    refine g_ishl hC dX8_owedOf_161 ?_
                    refine g_ior hC dX8_owedOf_162 ?_
                    refine g_aload_n hC 0 dX8_owedOf_163 rfl rfl ?_
                    refine g_getR hC cf8 (t := 46) rfl 13 (by decide) rfl m_922 dX8_owedOf_164 ?_
                    refine g_iload hC 4 dX8_owedOf_167 rfl ?_
                    refine g_iald hC rfl rfl dX8_owedOf_169 ?_
                    refine g_iconst hC (v := (1 : Int32)) dX8_owedOf_170 (by decide) ?_
                    refine g_iadd hC dX8_owedOf_171 ?_
                    refine g_iast hC rfl rfl dX8_owedOf_172 (fun M34 => ?_)
                    show GG x f 6 (Qm x f φIM) 173 [(0, .ref (x.1 37)), (1, .int a1), (2, .int (p14 + (1 : Int32))), (3, .int p15), (4, .int p22), (5, .int p27)] [] M34 _
                    exact hJ32 M34
                · exact hJ32 M28
      refine g_icmp_eq hC 70 dX8_owedOf_50 (by decide) ?_ ?_
      · exact hJ21
      · refine g_aload_n hC 0 dX8_owedOf_53 rfl rfl ?_
        refine g_getR hC cf8 (t := 42) rfl 5 (by decide) rfl m_914 dX8_owedOf_54 ?_
        refine g_iconst hC (v := (3 : Int32)) dX8_owedOf_57 (by decide) ?_
        refine g_iload_n hC 3 dX8_owedOf_58 rfl rfl ?_
        refine g_imul hC dX8_owedOf_59 ?_
        refine g_iconst hC (v := (2 : Int32)) dX8_owedOf_60 (by decide) ?_
        refine g_iadd hC dX8_owedOf_61 ?_
        refine g_iald hC rfl rfl dX8_owedOf_62 ?_
        refine g_iload_n hC 1 dX8_owedOf_63 rfl rfl ?_
        refine g_icmp_eq hC 70 dX8_owedOf_64 (by decide) ?_ ?_
        · exact hJ21
        · refine g_goto hC 185 dX8_owedOf_67 (by decide) ?_
          exact hJ20 p14 M16
  refine g_fx2 (fun (p35 : Int32) (M36 : Mem) => [(0, .ref (x.1 37)), (1, .int a1), (2, .int p35)]) (fun (p35 : Int32) (M36 : Mem) => M36) (fun rec37 hrec37 p35 M36 => ?_) F _ _
  show GG x f 6 (Qm x f φIM) 6 [(0, .ref (x.1 37)), (1, .int a1), (2, .int p35)] [] M36 _
  unfold sX8_owedOf_L6
  refine g_iload_n hC 2 dX8_owedOf_6 rfl rfl ?_
  refine g_sipush hC (v := (1024 : Int32)) dX8_owedOf_7 (by decide) ?_
  refine g_icmp_ge hC 34 dX8_owedOf_10 (by decide) ?_ ?_
  · refine g_lv (lv' := [(0, .ref (x.1 37)), (1, .int a1)]) [0, 1] rfl ?_
    exact hJ3 M36
  · refine g_aload_n hC 0 dX8_owedOf_13 rfl rfl ?_
    refine g_getR hC cf8 (t := 46) rfl 13 (by decide) rfl m_922 dX8_owedOf_14 ?_
    refine g_iload_n hC 2 dX8_owedOf_17 rfl rfl ?_
    refine g_iload_n hC 2 dX8_owedOf_18 rfl rfl ?_
    refine g_nm (fun (J39 : Int32 → Option (Int32 × Mem)) => ∀ (q38 : Int32), GG x f 6 (Qm x f φIM) 27 [(0, .ref (x.1 37)), (1, .int a1), (2, .int p35)] [.int q38, .int p35, .ref (x.1 46)] M36 (J39 q38)) (fun q38 => ?_) (fun J39 hJ39 => ?_)
    · show GG x f 6 (Qm x f φIM) 27 [(0, .ref (x.1 37)), (1, .int a1), (2, .int p35)] [.int q38, .int p35, .ref (x.1 46)] M36 _
      refine g_iast hC rfl rfl dX8_owedOf_27 (fun M40 => ?_)
      show GG x f 6 (Qm x f φIM) 28 [(0, .ref (x.1 37)), (1, .int a1), (2, .int p35)] [] M40 _
      refine g_iinc hC (q := 2) (v := (1 : Int32)) (lv' := [(0, .ref (x.1 37)), (1, .int a1), (2, .int (p35 + (1 : Int32)))]) [1, 2, 0] dX8_owedOf_28 rfl (by decide) (by decide) rfl ?_
      refine g_goto hC 6 dX8_owedOf_31 (by decide) ?_
      exact hrec37 (p35 + (1 : Int32)) M40
    refine g_if_ne hC 26 dX8_owedOf_19 (by decide) ?_ ?_
    · refine g_iconst hC (v := (-1 : Int32)) dX8_owedOf_26 (by decide) ?_
      exact hJ39 (-1 : Int32)
    · refine g_iconst hC (v := (0 : Int32)) dX8_owedOf_22 (by decide) ?_
      refine g_goto hC 27 dX8_owedOf_23 (by decide) ?_
      exact hJ39 (0 : Int32)
def sX8_owed (F : Nat) (a1 : Int32) (M : Mem) : Option (Int32 × Mem) :=
nm ((sX8_owedOf F a1 M).bind (fun r2 =>
some (r2.1, r2.2))) (fun J1 =>
if a1 = (-1 : Int32) then
(J1)
else
((sX8_isPerson F a1 M).bind (fun r3 =>
if r3 = true then
(J1)
else
(some ((-2 : Int32), M)))))
theorem mvX8_owed : MV yX8_owed cX8_owed 2 (some .int) 1 := ⟨⟨m_1238, m_76, by decide, by decide, by decide⟩, m_1236, m_1237⟩
set_option maxHeartbeats 4000000 in
set_option maxRecDepth 100000 in
theorem ctX8_owed (x : Wx) (F : Nat) (a1 : Int32) (M : Mem) : Ct x yX8_owed cX8_owed 2 (some .int) { frames := 7, cells := 0, slots := 0, locals := 169 } φIM [.ref (x.1 37), .int a1] M (sX8_owed F a1 M) := by
  refine ct_of (by decide) (Nat.le_of_ble_eq_true rfl) (fun f hC hm => ?_)
  have hC : Cx x f "AnswersFirstModel" cX8_owed 2 { frames := 7, cells := 0, slots := 0, locals := 169 } := hC
  show GG x f 2 (Qm x f φIM) 0 [(0, .ref (x.1 37)), (1, .int a1)] [] M _
  unfold sX8_owed
  refine g_iload_n hC 1 dX8_owed_0 rfl rfl ?_
  refine g_iconst hC (v := (-1 : Int32)) dX8_owed_1 (by decide) ?_
  refine g_nm (fun (J1 : Option (Int32 × Mem)) => GG x f 2 (Qm x f φIM) 12 [(0, .ref (x.1 37)), (1, .int a1)] [] M J1) ?_ (fun J1 hJ1 => ?_)
  · show GG x f 2 (Qm x f φIM) 12 [(0, .ref (x.1 37)), (1, .int a1)] [] M _
    refine g_aload_n hC 0 dX8_owed_12 rfl rfl ?_
    refine g_iload_n hC 1 dX8_owed_13 rfl rfl ?_
    refine g_callv hC (st := []) (c := 8) rfl (by decide) rfl (ctX8_owedOf x F a1 M) mvX8_owedOf m_1239 (by decide) rfl rfl (Nat.le_of_ble_eq_true rfl) dX8_owed_14 (fun r2 => ?_)
    show GG x f 2 (Qm x f φIM) 17 [(0, .ref (x.1 37)), (1, .int a1)] [.int (r2.1)] r2.2 _
    refine g_goto hC 22 dX8_owed_17 (by decide) ?_
    exact g_iret hC hm rfl dX8_owed_22
  refine g_icmp_eq hC 12 dX8_owed_2 (by decide) ?_ ?_
  · exact hJ1
  · refine g_iload_n hC 1 dX8_owed_5 rfl rfl ?_
    refine g_calls hC (st := []) (ctX8_isPerson x F a1 M) msX8_isPerson m_1185 (by decide) rfl rfl (Nat.le_of_ble_eq_true rfl) dX8_owed_6 (fun r3 => ?_)
    show GG x f 2 (Qm x f φIM) 9 [(0, .ref (x.1 37)), (1, .int a1)] [.int (bi r3)] M _
    refine g_ifB_eq hC 20 dX8_owed_9 (by decide) ?_ ?_
    · exact hJ1
    · refine g_bipush hC (v := (-2 : Int32)) dX8_owed_20 (by decide) ?_
      exact g_iret hC hm rfl dX8_owed_22
def sX8_lackNow_L45 (F : Nat) (r1 : Mem) (p4 : Int32) (p21 : Int32) (J24 : Int32 → Option (Int32 × Mem)) (rec30 : Int32 → Int32 → Option (Int32 × Mem)) (p28 : Int32) (p29 : Int32) : Option (Int32 × Mem) :=
ib (0 : Int32) 2 (
if (r1 41 (ix (0 : Int32))) ≤ p29 then
(J24 p28)
else
(nm (fun (q31 : Int32) =>
rec30 q31 (p29 + (1 : Int32))) (fun J32 =>
nm (J32 (1 : Int32)) (fun J33 =>
if ¬ p28 = 0 then
(J33)
else
((sX8_isIn F p4 p29 r1).bind (fun r34 =>
nm (J32 (0 : Int32)) (fun J35 =>
if r34 = true then
((sX8_canBe F p21 p29 r1).bind (fun r36 =>
if r36 = true then
(J33)
else
(J35)))
else
(J35))))))))
def sX8_lackNow_L28 (F : Nat) (r1 : Mem) (p4 : Int32) (J7 : Int32 → Option (Int32 × Mem)) (rec22 : Int32 → Int32 → Option (Int32 × Mem)) (p20 : Int32) (p21 : Int32) : Option (Int32 × Mem) :=
ib (1 : Int32) 2 (
if (r1 41 (ix (1 : Int32))) ≤ p21 then
(J7 p20)
else
(nm (fun (p23 : Int32) =>
nm (fun (q25 : Int32) =>
nm (p20 + q25) (fun v27 =>
rec22 v27 (p21 + (1 : Int32)))) (fun J26 =>
if p23 = 0 then
(J26 (0 : Int32))
else
(J26 (1 : Int32)))) (fun J24 =>
fx2 F (sX8_lackNow_L45 F r1 p4 p21 J24) (0 : Int32) (0 : Int32))))
def sX8_lackNow_L10 (F : Nat) (r1 : Mem) (rec5 : Int32 → Int32 → Int32 → Option (Int32 × Mem)) (p2 : Int32) (p3 : Int32) (p4 : Int32) : Option (Int32 × Mem) :=
ib (0 : Int32) 2 (
if ((1 : Int32) <<< ((r1 41 (ix (0 : Int32))) &&& 31)) ≤ p4 then
(some (p2, r1))
else
(nm (fun (p6 : Int32) =>
(sX8_ones F p4 r1).bind (fun r8 =>
nm (r8 - p6) (fun v9 =>
nm (fun (q10 : Int32) =>
nm (fun (q12 : Int32) =>
nm (fun (q14 : Int32) =>
rec5 q12 q14 (p4 + (1 : Int32))) (fun J15 =>
if q10 = 0 then
(J15 p3)
else
(J15 v9))) (fun J13 =>
if q10 = 0 then
(J13 p2)
else
(J13 p4))) (fun J11 =>
nm (J11 (1 : Int32)) (fun J16 =>
if p3 < v9 then
(J16)
else
(nm (J11 (0 : Int32)) (fun J17 =>
if ¬ v9 = p3 then
(J17)
else
((sX8_ones F p4 r1).bind (fun r18 =>
(sX8_ones F p2 r1).bind (fun r19 =>
if r19 ≤ r18 then
(J17)
else
(J16))))))))))) (fun J7 =>
fx2 F (sX8_lackNow_L28 F r1 p4 J7) (0 : Int32) (0 : Int32))))
def sX8_lackNow (F : Nat) (M : Mem) : Option (Int32 × Mem) :=
(sX8_reads F M).bind (fun r1 =>
fx3 F (sX8_lackNow_L10 F r1) (0 : Int32) (0 : Int32) (1 : Int32))
theorem mvX8_lackNow : MV yX8_lackNow cX8_lackNow 8 (some .int) 0 := ⟨⟨m_1254, m_76, by decide, by decide, by decide⟩, m_1253, m_59⟩
set_option maxHeartbeats 4000000 in
set_option maxRecDepth 100000 in
theorem ctX8_lackNow (x : Wx) (F : Nat) (M : Mem) : Ct x yX8_lackNow cX8_lackNow 8 (some .int) { frames := 6, cells := 0, slots := 0, locals := 144 } φIM [.ref (x.1 37)] M (sX8_lackNow F M) := by
  refine ct_of (by decide) (Nat.le_of_ble_eq_true rfl) (fun f hC hm => ?_)
  have hC : Cx x f "AnswersFirstModel" cX8_lackNow 8 { frames := 6, cells := 0, slots := 0, locals := 144 } := hC
  show GG x f 8 (Qm x f φIM) 0 [(0, .ref (x.1 37))] [] M _
  unfold sX8_lackNow
  refine g_aload_n hC 0 dX8_lackNow_0 rfl rfl ?_
  refine g_callv hC (st := []) (c := 8) rfl (by decide) rfl (ctX8_reads x F M) mvX8_reads m_1038 (by decide) rfl rfl (Nat.le_of_ble_eq_true rfl) dX8_lackNow_1 (fun r1 => ?_)
  show GG x f 8 (Qm x f φIM) 4 [(0, .ref (x.1 37))] [] r1 _
  refine g_iconst hC (v := (0 : Int32)) dX8_lackNow_4 (by decide) ?_
  refine g_istore_n hC (lv' := [(0, .ref (x.1 37)), (1, .int (0 : Int32))]) [1, 0] dX8_lackNow_5 rfl (by decide) rfl ?_
  refine g_iconst hC (v := (0 : Int32)) dX8_lackNow_6 (by decide) ?_
  refine g_istore_n hC (lv' := [(0, .ref (x.1 37)), (1, .int (0 : Int32)), (2, .int (0 : Int32))]) [1, 2, 0] dX8_lackNow_7 rfl (by decide) rfl ?_
  refine g_iconst hC (v := (1 : Int32)) dX8_lackNow_8 (by decide) ?_
  refine g_istore_n hC (lv' := [(0, .ref (x.1 37)), (1, .int (0 : Int32)), (2, .int (0 : Int32)), (3, .int (1 : Int32))]) [1, 2, 3, 0] dX8_lackNow_9 rfl (by decide) rfl ?_
  refine g_fx3 (fun (p2 : Int32) (p3 : Int32) (p4 : Int32) => [(0, .ref (x.1 37)), (1, .int p2), (2, .int p3), (3, .int p4)]) (fun (p2 : Int32) (p3 : Int32) (p4 : Int32) => r1) (fun rec5 hrec5 p2 p3 p4 => ?_) F _ _ _
  show GG x f 8 (Qm x f φIM) 10 [(0, .ref (x.1 37)), (1, .int p2), (2, .int p3), (3, .int p4)] [] r1 _
  unfold sX8_lackNow_L10
  refine g_iload_n hC 3 dX8_lackNow_10 rfl rfl ?_
  refine g_iconst hC (v := (1 : Int32)) dX8_lackNow_11 (by decide) ?_
  refine g_aload_n hC 0 dX8_lackNow_12 rfl rfl ?_
  refine g_getR hC cf8 (t := 41) rfl 4 (by decide) rfl m_913 dX8_lackNow_13 ?_
  refine g_iconst hC (v := (0 : Int32)) dX8_lackNow_16 (by decide) ?_
  refine g_iald hC rfl rfl dX8_lackNow_17 ?_
  refine g_ishl hC dX8_lackNow_18 ?_
  refine g_icmp_ge hC 183 dX8_lackNow_19 (by decide) ?_ ?_
  · refine g_iload_n hC 1 dX8_lackNow_183 rfl rfl ?_
    exact g_iret hC hm rfl dX8_lackNow_184
  · refine g_iconst hC (v := (0 : Int32)) dX8_lackNow_22 (by decide) ?_
    refine g_istore hC (lv' := [(0, .ref (x.1 37)), (1, .int p2), (2, .int p3), (3, .int p4), (4, .int (0 : Int32))]) [1, 2, 3, 4, 0] dX8_lackNow_23 (by decide) rfl ?_
    refine g_iconst hC (v := (0 : Int32)) dX8_lackNow_25 (by decide) ?_
    refine g_istore hC (lv' := [(0, .ref (x.1 37)), (1, .int p2), (2, .int p3), (3, .int p4), (4, .int (0 : Int32)), (5, .int (0 : Int32))]) [1, 2, 3, 4, 5, 0] dX8_lackNow_26 (by decide) rfl ?_
    refine g_nm (fun (J7 : Int32 → Option (Int32 × Mem)) => ∀ (p6 : Int32), GG x f 8 (Qm x f φIM) 115 [(0, .ref (x.1 37)), (1, .int p2), (2, .int p3), (3, .int p4), (4, .int p6)] [] r1 (J7 p6)) (fun p6 => ?_) (fun J7 hJ7 => ?_)
    · show GG x f 8 (Qm x f φIM) 115 [(0, .ref (x.1 37)), (1, .int p2), (2, .int p3), (3, .int p4), (4, .int p6)] [] r1 _
      refine g_iload_n hC 3 dX8_lackNow_115 rfl rfl ?_
      refine g_calls hC (st := []) (ctX8_ones x F p4 r1) msX8_ones m_1126 (by decide) rfl rfl (Nat.le_of_ble_eq_true rfl) dX8_lackNow_116 (fun r8 => ?_)
      show GG x f 8 (Qm x f φIM) 119 [(0, .ref (x.1 37)), (1, .int p2), (2, .int p3), (3, .int p4), (4, .int p6)] [.int r8] r1 _
      refine g_iload hC 4 dX8_lackNow_119 rfl ?_
      refine g_isub hC dX8_lackNow_121 ?_
      refine g_top (fun v9 => ?_)
      show GG x f 8 (Qm x f φIM) 122 [(0, .ref (x.1 37)), (1, .int p2), (2, .int p3), (3, .int p4), (4, .int p6)] [.int v9] r1 _
      refine g_istore hC (lv' := [(0, .ref (x.1 37)), (1, .int p2), (2, .int p3), (3, .int p4), (5, .int v9)]) [1, 2, 3, 4, 0] dX8_lackNow_122 (by decide) rfl ?_
      refine g_iload hC 4 dX8_lackNow_124 rfl ?_
      refine g_iload_n hC 2 dX8_lackNow_126 rfl rfl ?_
      refine g_nm (fun (J11 : Int32 → Option (Int32 × Mem)) => ∀ (q10 : Int32), GG x f 8 (Qm x f φIM) 152 [(0, .ref (x.1 37)), (1, .int p2), (2, .int p3), (3, .int p4), (5, .int v9)] [.int q10] r1 (J11 q10)) (fun q10 => ?_) (fun J11 hJ11 => ?_)
      · show GG x f 8 (Qm x f φIM) 152 [(0, .ref (x.1 37)), (1, .int p2), (2, .int p3), (3, .int p4), (5, .int v9)] [.int q10] r1 _
        refine g_istore hC (lv' := [(0, .ref (x.1 37)), (1, .int p2), (2, .int p3), (3, .int p4), (5, .int v9), (6, .int q10)]) [1, 2, 3, 4, 5, 0] dX8_lackNow_152 (by decide) rfl ?_
        refine g_iload hC 5 dX8_lackNow_154 rfl ?_
        refine g_nm (fun (J13 : Int32 → Option (Int32 × Mem)) => ∀ (q12 : Int32), GG x f 8 (Qm x f φIM) 164 [(0, .ref (x.1 37)), (2, .int p3), (3, .int p4), (5, .int v9), (6, .int q10)] [.int q12] r1 (J13 q12)) (fun q12 => ?_) (fun J13 hJ13 => ?_)
        · show GG x f 8 (Qm x f φIM) 164 [(0, .ref (x.1 37)), (2, .int p3), (3, .int p4), (5, .int v9), (6, .int q10)] [.int q12] r1 _
          refine g_istore_n hC (lv' := [(0, .ref (x.1 37)), (1, .int q12), (2, .int p3), (3, .int p4), (5, .int v9), (6, .int q10)]) [1, 0, 2, 3, 4, 5] dX8_lackNow_164 rfl (by decide) rfl ?_
          refine g_iload hC 5 dX8_lackNow_165 rfl ?_
          refine g_nm (fun (J15 : Int32 → Option (Int32 × Mem)) => ∀ (q14 : Int32), GG x f 8 (Qm x f φIM) 176 [(0, .ref (x.1 37)), (1, .int q12), (3, .int p4)] [.int q14] r1 (J15 q14)) (fun q14 => ?_) (fun J15 hJ15 => ?_)
          · show GG x f 8 (Qm x f φIM) 176 [(0, .ref (x.1 37)), (1, .int q12), (3, .int p4)] [.int q14] r1 _
            refine g_istore_n hC (lv' := [(0, .ref (x.1 37)), (1, .int q12), (2, .int q14), (3, .int p4)]) [1, 2, 0, 3] dX8_lackNow_176 rfl (by decide) rfl ?_
            refine g_iinc hC (q := 3) (v := (1 : Int32)) (lv' := [(0, .ref (x.1 37)), (1, .int q12), (2, .int q14), (3, .int (p4 + (1 : Int32)))]) [1, 2, 3, 0] dX8_lackNow_177 rfl (by decide) (by decide) rfl ?_
            refine g_goto hC 10 dX8_lackNow_180 (by decide) ?_
            exact hrec5 q12 q14 (p4 + (1 : Int32))
          refine g_if_eq hC 175 dX8_lackNow_167 (by decide) ?_ ?_
          · refine g_iload_n hC 2 dX8_lackNow_175 rfl rfl ?_
            refine g_lv (lv' := [(0, .ref (x.1 37)), (1, .int q12), (3, .int p4)]) [0, 1, 3] rfl ?_
            exact hJ15 p3
          · refine g_iload hC 4 dX8_lackNow_170 rfl ?_
            refine g_goto hC 176 dX8_lackNow_172 (by decide) ?_
            refine g_lv (lv' := [(0, .ref (x.1 37)), (1, .int q12), (3, .int p4)]) [0, 1, 3] rfl ?_
            exact hJ15 v9
        refine g_if_eq hC 163 dX8_lackNow_156 (by decide) ?_ ?_
        · refine g_iload_n hC 1 dX8_lackNow_163 rfl rfl ?_
          refine g_lv (lv' := [(0, .ref (x.1 37)), (2, .int p3), (3, .int p4), (5, .int v9), (6, .int q10)]) [0, 2, 3, 4, 5] rfl ?_
          exact hJ13 p2
        · refine g_iload_n hC 3 dX8_lackNow_159 rfl rfl ?_
          refine g_goto hC 164 dX8_lackNow_160 (by decide) ?_
          refine g_lv (lv' := [(0, .ref (x.1 37)), (2, .int p3), (3, .int p4), (5, .int v9), (6, .int q10)]) [0, 2, 3, 4, 5] rfl ?_
          exact hJ13 p4
      refine g_nm (fun (J16 : Option (Int32 × Mem)) => GG x f 8 (Qm x f φIM) 147 [(0, .ref (x.1 37)), (1, .int p2), (2, .int p3), (3, .int p4), (5, .int v9)] [] r1 J16) ?_ (fun J16 hJ16 => ?_)
      · show GG x f 8 (Qm x f φIM) 147 [(0, .ref (x.1 37)), (1, .int p2), (2, .int p3), (3, .int p4), (5, .int v9)] [] r1 _
        refine g_iconst hC (v := (1 : Int32)) dX8_lackNow_147 (by decide) ?_
        refine g_goto hC 152 dX8_lackNow_148 (by decide) ?_
        exact hJ11 (1 : Int32)
      refine g_icmp_gt hC 147 dX8_lackNow_127 (by decide) ?_ ?_
      · exact hJ16
      · refine g_iload hC 4 dX8_lackNow_130 rfl ?_
        refine g_iload_n hC 2 dX8_lackNow_132 rfl rfl ?_
        refine g_nm (fun (J17 : Option (Int32 × Mem)) => GG x f 8 (Qm x f φIM) 151 [(0, .ref (x.1 37)), (1, .int p2), (2, .int p3), (3, .int p4), (5, .int v9)] [] r1 J17) ?_ (fun J17 hJ17 => ?_)
        · show GG x f 8 (Qm x f φIM) 151 [(0, .ref (x.1 37)), (1, .int p2), (2, .int p3), (3, .int p4), (5, .int v9)] [] r1 _
          refine g_iconst hC (v := (0 : Int32)) dX8_lackNow_151 (by decide) ?_
          exact hJ11 (0 : Int32)
        refine g_icmp_ne hC 151 dX8_lackNow_133 (by decide) ?_ ?_
        · exact hJ17
        · refine g_iload_n hC 3 dX8_lackNow_136 rfl rfl ?_
          refine g_calls hC (st := []) (ctX8_ones x F p4 r1) msX8_ones m_1126 (by decide) rfl rfl (Nat.le_of_ble_eq_true rfl) dX8_lackNow_137 (fun r18 => ?_)
          show GG x f 8 (Qm x f φIM) 140 [(0, .ref (x.1 37)), (1, .int p2), (2, .int p3), (3, .int p4), (5, .int v9)] [.int r18] r1 _
          refine g_iload_n hC 1 dX8_lackNow_140 rfl rfl ?_
          refine g_calls hC (st := [.int r18]) (ctX8_ones x F p2 r1) msX8_ones m_1126 (by decide) rfl rfl (Nat.le_of_ble_eq_true rfl) dX8_lackNow_141 (fun r19 => ?_)
          show GG x f 8 (Qm x f φIM) 144 [(0, .ref (x.1 37)), (1, .int p2), (2, .int p3), (3, .int p4), (5, .int v9)] [.int r19, .int r18] r1 _
          refine g_icmp_ge hC 151 dX8_lackNow_144 (by decide) ?_ ?_
          · exact hJ17
          · exact hJ16
    refine g_fx2 (fun (p20 : Int32) (p21 : Int32) => [(0, .ref (x.1 37)), (1, .int p2), (2, .int p3), (3, .int p4), (4, .int p20), (5, .int p21)]) (fun (p20 : Int32) (p21 : Int32) => r1) (fun rec22 hrec22 p20 p21 => ?_) F _ _
    show GG x f 8 (Qm x f φIM) 28 [(0, .ref (x.1 37)), (1, .int p2), (2, .int p3), (3, .int p4), (4, .int p20), (5, .int p21)] [] r1 _
    unfold sX8_lackNow_L28
    refine g_iload hC 5 dX8_lackNow_28 rfl ?_
    refine g_aload_n hC 0 dX8_lackNow_30 rfl rfl ?_
    refine g_getR hC cf8 (t := 41) rfl 4 (by decide) rfl m_913 dX8_lackNow_31 ?_
    refine g_iconst hC (v := (1 : Int32)) dX8_lackNow_34 (by decide) ?_
    refine g_iald hC rfl rfl dX8_lackNow_35 ?_
    refine g_icmp_ge hC 115 dX8_lackNow_36 (by decide) ?_ ?_
    · refine g_lv (lv' := [(0, .ref (x.1 37)), (1, .int p2), (2, .int p3), (3, .int p4), (4, .int p20)]) [0, 1, 2, 3, 4] rfl ?_
      exact hJ7 p20
    · refine g_iconst hC (v := (0 : Int32)) dX8_lackNow_39 (by decide) ?_
      refine g_istore hC (lv' := [(0, .ref (x.1 37)), (1, .int p2), (2, .int p3), (3, .int p4), (4, .int p20), (5, .int p21), (6, .int (0 : Int32))]) [1, 2, 3, 4, 5, 6, 0] dX8_lackNow_40 (by decide) rfl ?_
      refine g_iconst hC (v := (0 : Int32)) dX8_lackNow_42 (by decide) ?_
      refine g_istore hC (lv' := [(0, .ref (x.1 37)), (1, .int p2), (2, .int p3), (3, .int p4), (4, .int p20), (5, .int p21), (6, .int (0 : Int32)), (7, .int (0 : Int32))]) [1, 2, 3, 4, 5, 6, 7, 0] dX8_lackNow_43 (by decide) rfl ?_
      refine g_nm (fun (J24 : Int32 → Option (Int32 × Mem)) => ∀ (p23 : Int32), GG x f 8 (Qm x f φIM) 94 [(0, .ref (x.1 37)), (1, .int p2), (2, .int p3), (3, .int p4), (4, .int p20), (5, .int p21), (6, .int p23)] [] r1 (J24 p23)) (fun p23 => ?_) (fun J24 hJ24 => ?_)
      · show GG x f 8 (Qm x f φIM) 94 [(0, .ref (x.1 37)), (1, .int p2), (2, .int p3), (3, .int p4), (4, .int p20), (5, .int p21), (6, .int p23)] [] r1 _
        refine g_iload hC 4 dX8_lackNow_94 rfl ?_
        refine g_iload hC 6 dX8_lackNow_96 rfl ?_
        refine g_nm (fun (J26 : Int32 → Option (Int32 × Mem)) => ∀ (q25 : Int32), GG x f 8 (Qm x f φIM) 106 [(0, .ref (x.1 37)), (1, .int p2), (2, .int p3), (3, .int p4), (5, .int p21)] [.int q25, .int p20] r1 (J26 q25)) (fun q25 => ?_) (fun J26 hJ26 => ?_)
        · show GG x f 8 (Qm x f φIM) 106 [(0, .ref (x.1 37)), (1, .int p2), (2, .int p3), (3, .int p4), (5, .int p21)] [.int q25, .int p20] r1 _
          refine g_iadd hC dX8_lackNow_106 ?_
          refine g_top (fun v27 => ?_)
          show GG x f 8 (Qm x f φIM) 107 [(0, .ref (x.1 37)), (1, .int p2), (2, .int p3), (3, .int p4), (5, .int p21)] [.int v27] r1 _
          refine g_istore hC (lv' := [(0, .ref (x.1 37)), (1, .int p2), (2, .int p3), (3, .int p4), (4, .int v27), (5, .int p21)]) [1, 2, 3, 4, 0, 5] dX8_lackNow_107 (by decide) rfl ?_
          refine g_iinc hC (q := 5) (v := (1 : Int32)) (lv' := [(0, .ref (x.1 37)), (1, .int p2), (2, .int p3), (3, .int p4), (4, .int v27), (5, .int (p21 + (1 : Int32)))]) [1, 2, 3, 4, 5, 0] dX8_lackNow_109 rfl (by decide) (by decide) rfl ?_
          refine g_goto hC 28 dX8_lackNow_112 (by decide) ?_
          exact hrec22 v27 (p21 + (1 : Int32))
        refine g_if_eq hC 105 dX8_lackNow_98 (by decide) ?_ ?_
        · refine g_iconst hC (v := (0 : Int32)) dX8_lackNow_105 (by decide) ?_
          refine g_lv (lv' := [(0, .ref (x.1 37)), (1, .int p2), (2, .int p3), (3, .int p4), (5, .int p21)]) [0, 1, 2, 3, 5] rfl ?_
          exact hJ26 (0 : Int32)
        · refine g_iconst hC (v := (1 : Int32)) dX8_lackNow_101 (by decide) ?_
          refine g_goto hC 106 dX8_lackNow_102 (by decide) ?_
          refine g_lv (lv' := [(0, .ref (x.1 37)), (1, .int p2), (2, .int p3), (3, .int p4), (5, .int p21)]) [0, 1, 2, 3, 5] rfl ?_
          exact hJ26 (1 : Int32)
      refine g_fx2 (fun (p28 : Int32) (p29 : Int32) => [(0, .ref (x.1 37)), (1, .int p2), (2, .int p3), (3, .int p4), (4, .int p20), (5, .int p21), (6, .int p28), (7, .int p29)]) (fun (p28 : Int32) (p29 : Int32) => r1) (fun rec30 hrec30 p28 p29 => ?_) F _ _
      show GG x f 8 (Qm x f φIM) 45 [(0, .ref (x.1 37)), (1, .int p2), (2, .int p3), (3, .int p4), (4, .int p20), (5, .int p21), (6, .int p28), (7, .int p29)] [] r1 _
      unfold sX8_lackNow_L45
      refine g_iload hC 7 dX8_lackNow_45 rfl ?_
      refine g_aload_n hC 0 dX8_lackNow_47 rfl rfl ?_
      refine g_getR hC cf8 (t := 41) rfl 4 (by decide) rfl m_913 dX8_lackNow_48 ?_
      refine g_iconst hC (v := (0 : Int32)) dX8_lackNow_51 (by decide) ?_
      refine g_iald hC rfl rfl dX8_lackNow_52 ?_
      refine g_icmp_ge hC 94 dX8_lackNow_53 (by decide) ?_ ?_
      · refine g_lv (lv' := [(0, .ref (x.1 37)), (1, .int p2), (2, .int p3), (3, .int p4), (4, .int p20), (5, .int p21), (6, .int p28)]) [0, 1, 2, 3, 4, 5, 6] rfl ?_
        exact hJ24 p28
      · refine g_iload hC 6 dX8_lackNow_56 rfl ?_
        refine g_nm (fun (J32 : Int32 → Option (Int32 × Mem)) => ∀ (q31 : Int32), GG x f 8 (Qm x f φIM) 86 [(0, .ref (x.1 37)), (1, .int p2), (2, .int p3), (3, .int p4), (4, .int p20), (5, .int p21), (7, .int p29)] [.int q31] r1 (J32 q31)) (fun q31 => ?_) (fun J32 hJ32 => ?_)
        · show GG x f 8 (Qm x f φIM) 86 [(0, .ref (x.1 37)), (1, .int p2), (2, .int p3), (3, .int p4), (4, .int p20), (5, .int p21), (7, .int p29)] [.int q31] r1 _
          refine g_istore hC (lv' := [(0, .ref (x.1 37)), (1, .int p2), (2, .int p3), (3, .int p4), (4, .int p20), (5, .int p21), (6, .int q31), (7, .int p29)]) [1, 2, 3, 4, 5, 6, 0, 7] dX8_lackNow_86 (by decide) rfl ?_
          refine g_iinc hC (q := 7) (v := (1 : Int32)) (lv' := [(0, .ref (x.1 37)), (1, .int p2), (2, .int p3), (3, .int p4), (4, .int p20), (5, .int p21), (6, .int q31), (7, .int (p29 + (1 : Int32)))]) [1, 2, 3, 4, 5, 6, 7, 0] dX8_lackNow_88 rfl (by decide) (by decide) rfl ?_
          refine g_goto hC 45 dX8_lackNow_91 (by decide) ?_
          exact hrec30 q31 (p29 + (1 : Int32))
        refine g_nm (fun (J33 : Option (Int32 × Mem)) => GG x f 8 (Qm x f φIM) 81 [(0, .ref (x.1 37)), (1, .int p2), (2, .int p3), (3, .int p4), (4, .int p20), (5, .int p21), (7, .int p29)] [] r1 J33) ?_ (fun J33 hJ33 => ?_)
        · show GG x f 8 (Qm x f φIM) 81 [(0, .ref (x.1 37)), (1, .int p2), (2, .int p3), (3, .int p4), (4, .int p20), (5, .int p21), (7, .int p29)] [] r1 _
          refine g_iconst hC (v := (1 : Int32)) dX8_lackNow_81 (by decide) ?_
          refine g_goto hC 86 dX8_lackNow_82 (by decide) ?_
          exact hJ32 (1 : Int32)
        refine g_if_ne hC 81 dX8_lackNow_58 (by decide) ?_ ?_
        · refine g_lv (lv' := [(0, .ref (x.1 37)), (1, .int p2), (2, .int p3), (3, .int p4), (4, .int p20), (5, .int p21), (7, .int p29)]) [0, 1, 2, 3, 4, 5, 7] rfl ?_
          exact hJ33
        · refine g_iload_n hC 3 dX8_lackNow_61 rfl rfl ?_
          refine g_iload hC 7 dX8_lackNow_62 rfl ?_
          refine g_calls hC (st := []) (ctX8_isIn x F p4 p29 r1) msX8_isIn m_1091 (by decide) rfl rfl (Nat.le_of_ble_eq_true rfl) dX8_lackNow_64 (fun r34 => ?_)
          show GG x f 8 (Qm x f φIM) 67 [(0, .ref (x.1 37)), (1, .int p2), (2, .int p3), (3, .int p4), (4, .int p20), (5, .int p21), (6, .int p28), (7, .int p29)] [.int (bi r34)] r1 _
          refine g_nm (fun (J35 : Option (Int32 × Mem)) => GG x f 8 (Qm x f φIM) 85 [(0, .ref (x.1 37)), (1, .int p2), (2, .int p3), (3, .int p4), (4, .int p20), (5, .int p21), (7, .int p29)] [] r1 J35) ?_ (fun J35 hJ35 => ?_)
          · show GG x f 8 (Qm x f φIM) 85 [(0, .ref (x.1 37)), (1, .int p2), (2, .int p3), (3, .int p4), (4, .int p20), (5, .int p21), (7, .int p29)] [] r1 _
            refine g_iconst hC (v := (0 : Int32)) dX8_lackNow_85 (by decide) ?_
            exact hJ32 (0 : Int32)
          refine g_ifB_eq hC 85 dX8_lackNow_67 (by decide) ?_ ?_
          · refine g_aload_n hC 0 dX8_lackNow_70 rfl rfl ?_
            refine g_iload hC 5 dX8_lackNow_71 rfl ?_
            refine g_iload hC 7 dX8_lackNow_73 rfl ?_
            refine g_callv hC (st := []) (c := 8) rfl (by decide) rfl (ctX8_canBe x F p21 p29 r1) mvX8_canBe m_1243 (by decide) rfl rfl (Nat.le_of_ble_eq_true rfl) dX8_lackNow_75 (fun r36 => ?_)
            show GG x f 8 (Qm x f φIM) 78 [(0, .ref (x.1 37)), (1, .int p2), (2, .int p3), (3, .int p4), (4, .int p20), (5, .int p21), (6, .int p28), (7, .int p29)] [.int (bi r36)] r1 _
            refine g_ifB_eq hC 85 dX8_lackNow_78 (by decide) ?_ ?_
            · refine g_lv (lv' := [(0, .ref (x.1 37)), (1, .int p2), (2, .int p3), (3, .int p4), (4, .int p20), (5, .int p21), (7, .int p29)]) [0, 1, 2, 3, 4, 5, 7] rfl ?_
              exact hJ33
            · refine g_lv (lv' := [(0, .ref (x.1 37)), (1, .int p2), (2, .int p3), (3, .int p4), (4, .int p20), (5, .int p21), (7, .int p29)]) [0, 1, 2, 3, 4, 5, 7] rfl ?_
              exact hJ35
          · refine g_lv (lv' := [(0, .ref (x.1 37)), (1, .int p2), (2, .int p3), (3, .int p4), (4, .int p20), (5, .int p21), (7, .int p29)]) [0, 1, 2, 3, 4, 5, 7] rfl ?_
            exact hJ35
def sX8_lack (F : Nat) (M : Mem) : Option (Int32 × Mem) :=
(sX8_lackNow F M).bind (fun r1 =>
some (r1.1, r1.2))
theorem mvX8_lack : MV yX8_lack cX8_lack 1 (some .int) 0 := ⟨⟨m_1250, m_76, by decide, by decide, by decide⟩, m_1248, m_1249⟩
set_option maxHeartbeats 4000000 in
set_option maxRecDepth 100000 in
theorem ctX8_lack (x : Wx) (F : Nat) (M : Mem) : Ct x yX8_lack cX8_lack 1 (some .int) { frames := 7, cells := 0, slots := 0, locals := 171 } φIM [.ref (x.1 37)] M (sX8_lack F M) := by
  refine ct_of (by decide) (Nat.le_of_ble_eq_true rfl) (fun f hC hm => ?_)
  have hC : Cx x f "AnswersFirstModel" cX8_lack 1 { frames := 7, cells := 0, slots := 0, locals := 171 } := hC
  show GG x f 1 (Qm x f φIM) 0 [(0, .ref (x.1 37))] [] M _
  unfold sX8_lack
  refine g_aload_n hC 0 dX8_lack_0 rfl rfl ?_
  refine g_callv hC (st := []) (c := 8) rfl (by decide) rfl (ctX8_lackNow x F M) mvX8_lackNow m_1251 (by decide) rfl rfl (Nat.le_of_ble_eq_true rfl) dX8_lack_1 (fun r1 => ?_)
  show GG x f 1 (Qm x f φIM) 4 [(0, .ref (x.1 37))] [.int (r1.1)] r1.2 _
  exact g_iret hC hm rfl dX8_lack_4
def sX8_unaskedNow_L23 (F : Nat) (r1 : Mem) (p3 : Int32) (J6 : Int32 → Option (Int32 × Mem)) (rec12 : Int32 → Int32 → Option (Int32 × Mem)) (p10 : Int32) (p11 : Int32) : Option (Int32 × Mem) :=
ib (0 : Int32) 2 (
if (r1 41 (ix (0 : Int32))) ≤ p11 then
(J6 p10)
else
(nm (fun (q13 : Int32) =>
rec12 q13 (p11 + (1 : Int32))) (fun J14 =>
nm (J14 (1 : Int32)) (fun J15 =>
if ¬ p10 = 0 then
(J15)
else
((sX8_canBe F p3 p11 r1).bind (fun r16 =>
if r16 = true then
(J15)
else
(J14 (0 : Int32))))))))
def sX8_unaskedNow_L8 (F : Nat) (r1 : Mem) (rec4 : Int32 → Int32 → Option (Int32 × Mem)) (p2 : Int32) (p3 : Int32) : Option (Int32 × Mem) :=
ib (1 : Int32) 2 (
if (r1 41 (ix (1 : Int32))) ≤ p3 then
(some (p2, r1))
else
(nm (fun (p5 : Int32) =>
nm (fun (q7 : Int32) =>
nm (p2 ||| q7) (fun v9 =>
rec4 v9 (p3 + (1 : Int32)))) (fun J8 =>
if p5 = 0 then
(J8 ((1 : Int32) <<< (p3 &&& 31)))
else
(J8 (0 : Int32)))) (fun J6 =>
fx2 F (sX8_unaskedNow_L23 F r1 p3 J6) (0 : Int32) (0 : Int32))))
def sX8_unaskedNow (F : Nat) (M : Mem) : Option (Int32 × Mem) :=
(sX8_reads F M).bind (fun r1 =>
fx2 F (sX8_unaskedNow_L8 F r1) (0 : Int32) (0 : Int32))
theorem mvX8_unaskedNow : MV yX8_unaskedNow cX8_unaskedNow 5 (some .int) 0 := ⟨⟨m_1262, m_76, by decide, by decide, by decide⟩, m_1261, m_60⟩
set_option maxHeartbeats 4000000 in
set_option maxRecDepth 100000 in
theorem ctX8_unaskedNow (x : Wx) (F : Nat) (M : Mem) : Ct x yX8_unaskedNow cX8_unaskedNow 5 (some .int) { frames := 6, cells := 0, slots := 0, locals := 144 } φIM [.ref (x.1 37)] M (sX8_unaskedNow F M) := by
  refine ct_of (by decide) (Nat.le_of_ble_eq_true rfl) (fun f hC hm => ?_)
  have hC : Cx x f "AnswersFirstModel" cX8_unaskedNow 5 { frames := 6, cells := 0, slots := 0, locals := 144 } := hC
  show GG x f 5 (Qm x f φIM) 0 [(0, .ref (x.1 37))] [] M _
  unfold sX8_unaskedNow
  refine g_aload_n hC 0 dX8_unaskedNow_0 rfl rfl ?_
  refine g_callv hC (st := []) (c := 8) rfl (by decide) rfl (ctX8_reads x F M) mvX8_reads m_1038 (by decide) rfl rfl (Nat.le_of_ble_eq_true rfl) dX8_unaskedNow_1 (fun r1 => ?_)
  show GG x f 5 (Qm x f φIM) 4 [(0, .ref (x.1 37))] [] r1 _
  refine g_iconst hC (v := (0 : Int32)) dX8_unaskedNow_4 (by decide) ?_
  refine g_istore_n hC (lv' := [(0, .ref (x.1 37)), (1, .int (0 : Int32))]) [1, 0] dX8_unaskedNow_5 rfl (by decide) rfl ?_
  refine g_iconst hC (v := (0 : Int32)) dX8_unaskedNow_6 (by decide) ?_
  refine g_istore_n hC (lv' := [(0, .ref (x.1 37)), (1, .int (0 : Int32)), (2, .int (0 : Int32))]) [1, 2, 0] dX8_unaskedNow_7 rfl (by decide) rfl ?_
  refine g_fx2 (fun (p2 : Int32) (p3 : Int32) => [(0, .ref (x.1 37)), (1, .int p2), (2, .int p3)]) (fun (p2 : Int32) (p3 : Int32) => r1) (fun rec4 hrec4 p2 p3 => ?_) F _ _
  show GG x f 5 (Qm x f φIM) 8 [(0, .ref (x.1 37)), (1, .int p2), (2, .int p3)] [] r1 _
  unfold sX8_unaskedNow_L8
  refine g_iload_n hC 2 dX8_unaskedNow_8 rfl rfl ?_
  refine g_aload_n hC 0 dX8_unaskedNow_9 rfl rfl ?_
  refine g_getR hC cf8 (t := 41) rfl 4 (by decide) rfl m_913 dX8_unaskedNow_10 ?_
  refine g_iconst hC (v := (1 : Int32)) dX8_unaskedNow_13 (by decide) ?_
  refine g_iald hC rfl rfl dX8_unaskedNow_14 ?_
  refine g_icmp_ge hC 80 dX8_unaskedNow_15 (by decide) ?_ ?_
  · refine g_iload_n hC 1 dX8_unaskedNow_80 rfl rfl ?_
    exact g_iret hC hm rfl dX8_unaskedNow_81
  · refine g_iconst hC (v := (0 : Int32)) dX8_unaskedNow_18 (by decide) ?_
    refine g_istore_n hC (lv' := [(0, .ref (x.1 37)), (1, .int p2), (2, .int p3), (3, .int (0 : Int32))]) [1, 2, 3, 0] dX8_unaskedNow_19 rfl (by decide) rfl ?_
    refine g_iconst hC (v := (0 : Int32)) dX8_unaskedNow_20 (by decide) ?_
    refine g_istore hC (lv' := [(0, .ref (x.1 37)), (1, .int p2), (2, .int p3), (3, .int (0 : Int32)), (4, .int (0 : Int32))]) [1, 2, 3, 4, 0] dX8_unaskedNow_21 (by decide) rfl ?_
    refine g_nm (fun (J6 : Int32 → Option (Int32 × Mem)) => ∀ (p5 : Int32), GG x f 5 (Qm x f φIM) 60 [(0, .ref (x.1 37)), (1, .int p2), (2, .int p3), (3, .int p5)] [] r1 (J6 p5)) (fun p5 => ?_) (fun J6 hJ6 => ?_)
    · show GG x f 5 (Qm x f φIM) 60 [(0, .ref (x.1 37)), (1, .int p2), (2, .int p3), (3, .int p5)] [] r1 _
      refine g_iload_n hC 1 dX8_unaskedNow_60 rfl rfl ?_
      refine g_iload_n hC 3 dX8_unaskedNow_61 rfl rfl ?_
      refine g_nm (fun (J8 : Int32 → Option (Int32 × Mem)) => ∀ (q7 : Int32), GG x f 5 (Qm x f φIM) 72 [(0, .ref (x.1 37)), (2, .int p3)] [.int q7, .int p2] r1 (J8 q7)) (fun q7 => ?_) (fun J8 hJ8 => ?_)
      · show GG x f 5 (Qm x f φIM) 72 [(0, .ref (x.1 37)), (2, .int p3)] [.int q7, .int p2] r1 _
        refine g_ior hC dX8_unaskedNow_72 ?_
        refine g_top (fun v9 => ?_)
        show GG x f 5 (Qm x f φIM) 73 [(0, .ref (x.1 37)), (2, .int p3)] [.int v9] r1 _
        refine g_istore_n hC (lv' := [(0, .ref (x.1 37)), (1, .int v9), (2, .int p3)]) [1, 0, 2] dX8_unaskedNow_73 rfl (by decide) rfl ?_
        refine g_iinc hC (q := 2) (v := (1 : Int32)) (lv' := [(0, .ref (x.1 37)), (1, .int v9), (2, .int (p3 + (1 : Int32)))]) [1, 2, 0] dX8_unaskedNow_74 rfl (by decide) (by decide) rfl ?_
        refine g_goto hC 8 dX8_unaskedNow_77 (by decide) ?_
        exact hrec4 v9 (p3 + (1 : Int32))
      refine g_if_eq hC 69 dX8_unaskedNow_62 (by decide) ?_ ?_
      · refine g_iconst hC (v := (1 : Int32)) dX8_unaskedNow_69 (by decide) ?_
        refine g_iload_n hC 2 dX8_unaskedNow_70 rfl rfl ?_
        refine g_ishl hC dX8_unaskedNow_71 ?_
        refine g_lv (lv' := [(0, .ref (x.1 37)), (2, .int p3)]) [0, 2] rfl ?_
        exact hJ8 ((1 : Int32) <<< (p3 &&& 31))
      · refine g_iconst hC (v := (0 : Int32)) dX8_unaskedNow_65 (by decide) ?_
        refine g_goto hC 72 dX8_unaskedNow_66 (by decide) ?_
        refine g_lv (lv' := [(0, .ref (x.1 37)), (2, .int p3)]) [0, 2] rfl ?_
        exact hJ8 (0 : Int32)
    refine g_fx2 (fun (p10 : Int32) (p11 : Int32) => [(0, .ref (x.1 37)), (1, .int p2), (2, .int p3), (3, .int p10), (4, .int p11)]) (fun (p10 : Int32) (p11 : Int32) => r1) (fun rec12 hrec12 p10 p11 => ?_) F _ _
    show GG x f 5 (Qm x f φIM) 23 [(0, .ref (x.1 37)), (1, .int p2), (2, .int p3), (3, .int p10), (4, .int p11)] [] r1 _
    unfold sX8_unaskedNow_L23
    refine g_iload hC 4 dX8_unaskedNow_23 rfl ?_
    refine g_aload_n hC 0 dX8_unaskedNow_25 rfl rfl ?_
    refine g_getR hC cf8 (t := 41) rfl 4 (by decide) rfl m_913 dX8_unaskedNow_26 ?_
    refine g_iconst hC (v := (0 : Int32)) dX8_unaskedNow_29 (by decide) ?_
    refine g_iald hC rfl rfl dX8_unaskedNow_30 ?_
    refine g_icmp_ge hC 60 dX8_unaskedNow_31 (by decide) ?_ ?_
    · refine g_lv (lv' := [(0, .ref (x.1 37)), (1, .int p2), (2, .int p3), (3, .int p10)]) [0, 1, 2, 3] rfl ?_
      exact hJ6 p10
    · refine g_iload_n hC 3 dX8_unaskedNow_34 rfl rfl ?_
      refine g_nm (fun (J14 : Int32 → Option (Int32 × Mem)) => ∀ (q13 : Int32), GG x f 5 (Qm x f φIM) 53 [(0, .ref (x.1 37)), (1, .int p2), (2, .int p3), (4, .int p11)] [.int q13] r1 (J14 q13)) (fun q13 => ?_) (fun J14 hJ14 => ?_)
      · show GG x f 5 (Qm x f φIM) 53 [(0, .ref (x.1 37)), (1, .int p2), (2, .int p3), (4, .int p11)] [.int q13] r1 _
        refine g_istore_n hC (lv' := [(0, .ref (x.1 37)), (1, .int p2), (2, .int p3), (3, .int q13), (4, .int p11)]) [1, 2, 3, 0, 4] dX8_unaskedNow_53 rfl (by decide) rfl ?_
        refine g_iinc hC (q := 4) (v := (1 : Int32)) (lv' := [(0, .ref (x.1 37)), (1, .int p2), (2, .int p3), (3, .int q13), (4, .int (p11 + (1 : Int32)))]) [1, 2, 3, 4, 0] dX8_unaskedNow_54 rfl (by decide) (by decide) rfl ?_
        refine g_goto hC 23 dX8_unaskedNow_57 (by decide) ?_
        exact hrec12 q13 (p11 + (1 : Int32))
      refine g_nm (fun (J15 : Option (Int32 × Mem)) => GG x f 5 (Qm x f φIM) 48 [(0, .ref (x.1 37)), (1, .int p2), (2, .int p3), (4, .int p11)] [] r1 J15) ?_ (fun J15 hJ15 => ?_)
      · show GG x f 5 (Qm x f φIM) 48 [(0, .ref (x.1 37)), (1, .int p2), (2, .int p3), (4, .int p11)] [] r1 _
        refine g_iconst hC (v := (1 : Int32)) dX8_unaskedNow_48 (by decide) ?_
        refine g_goto hC 53 dX8_unaskedNow_49 (by decide) ?_
        exact hJ14 (1 : Int32)
      refine g_if_ne hC 48 dX8_unaskedNow_35 (by decide) ?_ ?_
      · refine g_lv (lv' := [(0, .ref (x.1 37)), (1, .int p2), (2, .int p3), (4, .int p11)]) [0, 1, 2, 4] rfl ?_
        exact hJ15
      · refine g_aload_n hC 0 dX8_unaskedNow_38 rfl rfl ?_
        refine g_iload_n hC 2 dX8_unaskedNow_39 rfl rfl ?_
        refine g_iload hC 4 dX8_unaskedNow_40 rfl ?_
        refine g_callv hC (st := []) (c := 8) rfl (by decide) rfl (ctX8_canBe x F p3 p11 r1) mvX8_canBe m_1243 (by decide) rfl rfl (Nat.le_of_ble_eq_true rfl) dX8_unaskedNow_42 (fun r16 => ?_)
        show GG x f 5 (Qm x f φIM) 45 [(0, .ref (x.1 37)), (1, .int p2), (2, .int p3), (3, .int p10), (4, .int p11)] [.int (bi r16)] r1 _
        refine g_ifB_eq hC 52 dX8_unaskedNow_45 (by decide) ?_ ?_
        · refine g_lv (lv' := [(0, .ref (x.1 37)), (1, .int p2), (2, .int p3), (4, .int p11)]) [0, 1, 2, 4] rfl ?_
          exact hJ15
        · refine g_iconst hC (v := (0 : Int32)) dX8_unaskedNow_52 (by decide) ?_
          refine g_lv (lv' := [(0, .ref (x.1 37)), (1, .int p2), (2, .int p3), (4, .int p11)]) [0, 1, 2, 4] rfl ?_
          exact hJ14 (0 : Int32)
def sX8_unasked (F : Nat) (M : Mem) : Option (Int32 × Mem) :=
(sX8_unaskedNow F M).bind (fun r1 =>
some (r1.1, r1.2))
theorem mvX8_unasked : MV yX8_unasked cX8_unasked 1 (some .int) 0 := ⟨⟨m_1258, m_76, by decide, by decide, by decide⟩, m_1256, m_1257⟩
set_option maxHeartbeats 4000000 in
set_option maxRecDepth 100000 in
theorem ctX8_unasked (x : Wx) (F : Nat) (M : Mem) : Ct x yX8_unasked cX8_unasked 1 (some .int) { frames := 7, cells := 0, slots := 0, locals := 168 } φIM [.ref (x.1 37)] M (sX8_unasked F M) := by
  refine ct_of (by decide) (Nat.le_of_ble_eq_true rfl) (fun f hC hm => ?_)
  have hC : Cx x f "AnswersFirstModel" cX8_unasked 1 { frames := 7, cells := 0, slots := 0, locals := 168 } := hC
  show GG x f 1 (Qm x f φIM) 0 [(0, .ref (x.1 37))] [] M _
  unfold sX8_unasked
  refine g_aload_n hC 0 dX8_unasked_0 rfl rfl ?_
  refine g_callv hC (st := []) (c := 8) rfl (by decide) rfl (ctX8_unaskedNow x F M) mvX8_unaskedNow m_1259 (by decide) rfl rfl (Nat.le_of_ble_eq_true rfl) dX8_unasked_1 (fun r1 => ?_)
  show GG x f 1 (Qm x f φIM) 4 [(0, .ref (x.1 37))] [.int (r1.1)] r1.2 _
  exact g_iret hC hm rfl dX8_unasked_4
def sX8_fines (F : Nat) (a1 : Int32) (M : Mem) : Option (Int32 × Mem) :=
(sX8_isPerson F a1 M).bind (fun r1 =>
if r1 = true then
((sX8_owedOf F a1 M).bind (fun r2 =>
some ((r2.1 * (r2.2 37 8)), r2.2)))
else
(some ((-2 : Int32), M)))
theorem mvX8_fines : MV yX8_fines cX8_fines 2 (some .int) 1 := ⟨⟨m_1266, m_76, by decide, by decide, by decide⟩, m_1264, m_1265⟩
set_option maxHeartbeats 4000000 in
set_option maxRecDepth 100000 in
theorem ctX8_fines (x : Wx) (F : Nat) (a1 : Int32) (M : Mem) : Ct x yX8_fines cX8_fines 2 (some .int) { frames := 7, cells := 0, slots := 0, locals := 169 } φIM [.ref (x.1 37), .int a1] M (sX8_fines F a1 M) := by
  refine ct_of (by decide) (Nat.le_of_ble_eq_true rfl) (fun f hC hm => ?_)
  have hC : Cx x f "AnswersFirstModel" cX8_fines 2 { frames := 7, cells := 0, slots := 0, locals := 169 } := hC
  show GG x f 2 (Qm x f φIM) 0 [(0, .ref (x.1 37)), (1, .int a1)] [] M _
  unfold sX8_fines
  refine g_iload_n hC 1 dX8_fines_0 rfl rfl ?_
  refine g_calls hC (st := []) (ctX8_isPerson x F a1 M) msX8_isPerson m_1185 (by decide) rfl rfl (Nat.le_of_ble_eq_true rfl) dX8_fines_1 (fun r1 => ?_)
  show GG x f 2 (Qm x f φIM) 4 [(0, .ref (x.1 37)), (1, .int a1)] [.int (bi r1)] M _
  refine g_ifB_eq hC 20 dX8_fines_4 (by decide) ?_ ?_
  · refine g_aload_n hC 0 dX8_fines_7 rfl rfl ?_
    refine g_iload_n hC 1 dX8_fines_8 rfl rfl ?_
    refine g_callv hC (st := []) (c := 8) rfl (by decide) rfl (ctX8_owedOf x F a1 M) mvX8_owedOf m_1239 (by decide) rfl rfl (Nat.le_of_ble_eq_true rfl) dX8_fines_9 (fun r2 => ?_)
    show GG x f 2 (Qm x f φIM) 12 [(0, .ref (x.1 37)), (1, .int a1)] [.int (r2.1)] r2.2 _
    refine g_aload_n hC 0 dX8_fines_12 rfl rfl ?_
    refine g_getI hC cf8 rfl 8 (by decide) rfl m_917 dX8_fines_13 ?_
    refine g_imul hC dX8_fines_16 ?_
    refine g_goto hC 22 dX8_fines_17 (by decide) ?_
    exact g_iret hC hm rfl dX8_fines_22
  · refine g_bipush hC (v := (-2 : Int32)) dX8_fines_20 (by decide) ?_
    exact g_iret hC hm rfl dX8_fines_22
def sX8_forget (F : Nat) (M : Mem) : Option (Int32 × Mem) :=
nm (M 37 14) (fun v1 =>
nm (st2 M 37 14 (0 : Int32)) (fun M2 =>
some (v1, M2)))
theorem mvX8_forget : MV yX8_forget cX8_forget 2 (some .int) 0 := ⟨⟨m_1271, m_76, by decide, by decide, by decide⟩, m_1269, m_1270⟩
set_option maxHeartbeats 4000000 in
set_option maxRecDepth 100000 in
theorem ctX8_forget (x : Wx) (F : Nat) (M : Mem) : Ct x yX8_forget cX8_forget 2 (some .int) { frames := 0, cells := 0, slots := 0, locals := 0 } φIM [.ref (x.1 37)] M (sX8_forget F M) := by
  refine ct_of (by decide) (Nat.le_of_ble_eq_true rfl) (fun f hC hm => ?_)
  have hC : Cx x f "AnswersFirstModel" cX8_forget 2 { frames := 0, cells := 0, slots := 0, locals := 0 } := hC
  show GG x f 2 (Qm x f φIM) 0 [(0, .ref (x.1 37))] [] M _
  unfold sX8_forget
  refine g_aload_n hC 0 dX8_forget_0 rfl rfl ?_
  refine g_getI hC cf8 rfl 14 (by decide) rfl m_923 dX8_forget_1 ?_
  refine g_top (fun v1 => ?_)
  show GG x f 2 (Qm x f φIM) 4 [(0, .ref (x.1 37))] [.int v1] M _
  refine g_istore_n hC (lv' := [(0, .ref (x.1 37)), (1, .int v1)]) [1, 0] dX8_forget_4 rfl (by decide) rfl ?_
  refine g_aload_n hC 0 dX8_forget_5 rfl rfl ?_
  refine g_iconst hC (v := (0 : Int32)) dX8_forget_6 (by decide) ?_
  refine g_put hC cf8 rfl 14 (by decide) rfl m_923 rfl rfl rfl dX8_forget_7 (fun M2 => ?_)
  show GG x f 2 (Qm x f φIM) 10 [(0, .ref (x.1 37)), (1, .int v1)] [] M2 _
  refine g_iload_n hC 1 dX8_forget_10 rfl rfl ?_
  exact g_iret hC hm rfl dX8_forget_11
def sX8_refusedOf_L88 (F : Nat) (r1 : (Int32 × Mem)) (p9 : Int32) (J15 : Int32 → Option (Int32 × Mem)) (rec24 : Int32 → Int32 → Option (Int32 × Mem)) (p22 : Int32) (p23 : Int32) : Option (Int32 × Mem) :=
if (r1.2 37 14) ≤ p23 then
(J15 p22)
else
(nm (fun (q25 : Int32) =>
rec24 q25 (p23 + (1 : Int32))) (fun J26 =>
nm (J26 (0 : Int32)) (fun J27 =>
if p22 = 0 then
(J27)
else
(ib p23 8 (
ib p23 8 (
if ¬ ((p9 >>> ((r1.2 47 (ix p23)) &&& 31)) &&& (1 : Int32)) = (r1.2 48 (ix p23)) then
(J27)
else
(J26 (1 : Int32))))))))
def sX8_refusedOf_L59 (F : Nat) (r1 : (Int32 × Mem)) (J6 : Int32 → Int32 → Option (Int32 × Mem)) (rec10 : Int32 → Int32 → Int32 → Option (Int32 × Mem)) (p7 : Int32) (p8 : Int32) (p9 : Int32) : Option (Int32 × Mem) :=
if r1.1 < p9 then
(J6 p7 p8)
else
((sX8_brokenBy F p9 (r1.2 37 9) r1.2).bind (fun r11 =>
nm (fun (q12 : Int32) =>
nm (fun (p14 : Int32) =>
nm (fun (q16 : Int32) =>
nm (p7 + q16) (fun v18 =>
nm (fun (q19 : Int32) =>
nm (p8 &&& q19) (fun v21 =>
rec10 v18 v21 (p9 + (1 : Int32)))) (fun J20 =>
if p14 = 0 then
(J20 r1.1)
else
(J20 p9)))) (fun J17 =>
if p14 = 0 then
(J17 (0 : Int32))
else
(J17 (1 : Int32)))) (fun J15 =>
fx2 F (sX8_refusedOf_L88 F r1 p9 J15) q12 (0 : Int32))) (fun J13 =>
if ¬ r11 = 0 then
(J13 (0 : Int32))
else
(J13 (1 : Int32)))))
def sX8_refusedOf_L13 (F : Nat) (r1 : (Int32 × Mem)) (J3 : Int32 → Option (Int32 × Mem)) (rec30 : Int32 → Int32 → Option (Int32 × Mem)) (p28 : Int32) (p29 : Int32) : Option (Int32 × Mem) :=
if (r1.2 37 2) ≤ p29 then
(J3 p28)
else
(ib (((6 : Int32) * p29) + (3 : Int32)) 66 (
nm (fun (q31 : Int32) =>
nm (p28 ||| q31) (fun v33 =>
rec30 v33 (p29 + (1 : Int32)))) (fun J32 =>
if ¬ (r1.2 40 (ix (((6 : Int32) * p29) + (3 : Int32)))) = 0 then
(J32 (0 : Int32))
else
(J32 ((1 : Int32) <<< (p29 &&& 31))))))
def sX8_refusedOf (F : Nat) (a1 : Int32) (M : Mem) : Option (Int32 × Mem) :=
(sX8_there F M).bind (fun r1 =>
nm (fun (p2 : Int32) =>
nm (fun (p4 : Int32) (p5 : Int32) =>
if ¬ a1 = 0 then
(if ¬ p4 = 0 then
(some (p5, r1.2))
else
(some ((0 : Int32), r1.2)))
else
(some (p4, r1.2))) (fun J6 =>
fx3 F (sX8_refusedOf_L59 F r1 J6) (0 : Int32) p2 (0 : Int32))) (fun J3 =>
fx2 F (sX8_refusedOf_L13 F r1 J3) (0 : Int32) (0 : Int32)))
theorem mvX8_refusedOf : MV yX8_refusedOf cX8_refusedOf 8 (some .int) 1 := ⟨⟨m_1279, m_76, by decide, by decide, by decide⟩, m_1278, m_61⟩
set_option maxHeartbeats 4000000 in
set_option maxRecDepth 100000 in
theorem ctX8_refusedOf (x : Wx) (F : Nat) (a1 : Int32) (M : Mem) : Ct x yX8_refusedOf cX8_refusedOf 8 (some .int) { frames := 7, cells := 0, slots := 0, locals := 164 } φIM [.ref (x.1 37), .int a1] M (sX8_refusedOf F a1 M) := by
  refine ct_of (by decide) (Nat.le_of_ble_eq_true rfl) (fun f hC hm => ?_)
  have hC : Cx x f "AnswersFirstModel" cX8_refusedOf 8 { frames := 7, cells := 0, slots := 0, locals := 164 } := hC
  show GG x f 8 (Qm x f φIM) 0 [(0, .ref (x.1 37)), (1, .int a1)] [] M _
  unfold sX8_refusedOf
  refine g_aload_n hC 0 dX8_refusedOf_0 rfl rfl ?_
  refine g_callv hC (st := []) (c := 8) rfl (by decide) rfl (ctX8_there x F M) mvX8_there m_1079 (by decide) rfl rfl (Nat.le_of_ble_eq_true rfl) dX8_refusedOf_1 (fun r1 => ?_)
  show GG x f 8 (Qm x f φIM) 4 [(0, .ref (x.1 37)), (1, .int a1)] [.int (r1.1)] r1.2 _
  refine g_istore_n hC (lv' := [(0, .ref (x.1 37)), (1, .int a1), (2, .int (r1.1))]) [1, 2, 0] dX8_refusedOf_4 rfl (by decide) rfl ?_
  refine g_iconst hC (v := (0 : Int32)) dX8_refusedOf_5 (by decide) ?_
  refine g_istore_n hC (lv' := [(0, .ref (x.1 37)), (1, .int a1), (2, .int (r1.1)), (3, .int (0 : Int32))]) [1, 2, 3, 0] dX8_refusedOf_6 rfl (by decide) rfl ?_
  refine g_iconst hC (v := (0 : Int32)) dX8_refusedOf_7 (by decide) ?_
  refine g_istore hC (lv' := [(0, .ref (x.1 37)), (1, .int a1), (2, .int (r1.1)), (3, .int (0 : Int32)), (4, .int (0 : Int32))]) [1, 2, 3, 4, 0] dX8_refusedOf_8 (by decide) rfl ?_
  refine g_iconst hC (v := (0 : Int32)) dX8_refusedOf_10 (by decide) ?_
  refine g_istore hC (lv' := [(0, .ref (x.1 37)), (1, .int a1), (2, .int (r1.1)), (3, .int (0 : Int32)), (4, .int (0 : Int32)), (5, .int (0 : Int32))]) [1, 2, 3, 4, 5, 0] dX8_refusedOf_11 (by decide) rfl ?_
  refine g_nm (fun (J3 : Int32 → Option (Int32 × Mem)) => ∀ (p2 : Int32), GG x f 8 (Qm x f φIM) 56 [(0, .ref (x.1 37)), (1, .int a1), (2, .int (r1.1)), (3, .int (0 : Int32)), (4, .int p2)] [] r1.2 (J3 p2)) (fun p2 => ?_) (fun J3 hJ3 => ?_)
  · show GG x f 8 (Qm x f φIM) 56 [(0, .ref (x.1 37)), (1, .int a1), (2, .int (r1.1)), (3, .int (0 : Int32)), (4, .int p2)] [] r1.2 _
    refine g_iconst hC (v := (0 : Int32)) dX8_refusedOf_56 (by decide) ?_
    refine g_istore hC (lv' := [(0, .ref (x.1 37)), (1, .int a1), (2, .int (r1.1)), (3, .int (0 : Int32)), (4, .int p2), (5, .int (0 : Int32))]) [1, 2, 3, 4, 5, 0] dX8_refusedOf_57 (by decide) rfl ?_
    refine g_nm (fun (J6 : Int32 → Int32 → Option (Int32 × Mem)) => ∀ (p4 : Int32) (p5 : Int32), GG x f 8 (Qm x f φIM) 172 [(1, .int a1), (3, .int p4), (4, .int p5)] [] r1.2 (J6 p4 p5)) (fun p4 p5 => ?_) (fun J6 hJ6 => ?_)
    · show GG x f 8 (Qm x f φIM) 172 [(1, .int a1), (3, .int p4), (4, .int p5)] [] r1.2 _
      refine g_iload_n hC 0 dX8_refusedOf_172 rfl rfl ?_
      refine g_if_ne hC 180 dX8_refusedOf_173 (by decide) ?_ ?_
      · refine g_iload_n hC 1 dX8_refusedOf_180 rfl rfl ?_
        refine g_if_ne hC 188 dX8_refusedOf_181 (by decide) ?_ ?_
        · refine g_iload hC 2 dX8_refusedOf_188 rfl ?_
          exact g_iret hC hm rfl dX8_refusedOf_190
        · refine g_iconst hC (v := (0 : Int32)) dX8_refusedOf_184 (by decide) ?_
          refine g_goto hC 190 dX8_refusedOf_185 (by decide) ?_
          exact g_iret hC hm rfl dX8_refusedOf_190
      · refine g_iload_n hC 1 dX8_refusedOf_176 rfl rfl ?_
        refine g_goto hC 190 dX8_refusedOf_177 (by decide) ?_
        exact g_iret hC hm rfl dX8_refusedOf_190
    refine g_fx3 (fun (p7 : Int32) (p8 : Int32) (p9 : Int32) => [(0, .ref (x.1 37)), (1, .int a1), (2, .int (r1.1)), (3, .int p7), (4, .int p8), (5, .int p9)]) (fun (p7 : Int32) (p8 : Int32) (p9 : Int32) => r1.2) (fun rec10 hrec10 p7 p8 p9 => ?_) F _ _ _
    show GG x f 8 (Qm x f φIM) 59 [(0, .ref (x.1 37)), (1, .int a1), (2, .int (r1.1)), (3, .int p7), (4, .int p8), (5, .int p9)] [] r1.2 _
    unfold sX8_refusedOf_L59
    refine g_iload hC 5 dX8_refusedOf_59 rfl ?_
    refine g_iload_n hC 2 dX8_refusedOf_61 rfl rfl ?_
    refine g_icmp_gt hC 172 dX8_refusedOf_62 (by decide) ?_ ?_
    · refine g_lv (lv' := [(1, .int a1), (3, .int p7), (4, .int p8)]) [1, 3, 4] rfl ?_
      exact hJ6 p7 p8
    · refine g_aload_n hC 0 dX8_refusedOf_65 rfl rfl ?_
      refine g_iload hC 5 dX8_refusedOf_66 rfl ?_
      refine g_aload_n hC 0 dX8_refusedOf_68 rfl rfl ?_
      refine g_getI hC cf8 rfl 9 (by decide) rfl m_918 dX8_refusedOf_69 ?_
      refine g_callv hC (st := []) (c := 8) rfl (by decide) rfl (ctX8_brokenBy x F p9 (r1.2 37 9) r1.2) mvX8_brokenBy m_1083 (by decide) rfl rfl (Nat.le_of_ble_eq_true rfl) dX8_refusedOf_72 (fun r11 => ?_)
      show GG x f 8 (Qm x f φIM) 75 [(0, .ref (x.1 37)), (1, .int a1), (2, .int (r1.1)), (3, .int p7), (4, .int p8), (5, .int p9)] [.int r11] r1.2 _
      refine g_nm (fun (J13 : Int32 → Option (Int32 × Mem)) => ∀ (q12 : Int32), GG x f 8 (Qm x f φIM) 83 [(0, .ref (x.1 37)), (1, .int a1), (2, .int (r1.1)), (3, .int p7), (4, .int p8), (5, .int p9)] [.int q12] r1.2 (J13 q12)) (fun q12 => ?_) (fun J13 hJ13 => ?_)
      · show GG x f 8 (Qm x f φIM) 83 [(0, .ref (x.1 37)), (1, .int a1), (2, .int (r1.1)), (3, .int p7), (4, .int p8), (5, .int p9)] [.int q12] r1.2 _
        refine g_istore hC (lv' := [(0, .ref (x.1 37)), (1, .int a1), (2, .int (r1.1)), (3, .int p7), (4, .int p8), (5, .int p9), (6, .int q12)]) [1, 2, 3, 4, 5, 6, 0] dX8_refusedOf_83 (by decide) rfl ?_
        refine g_iconst hC (v := (0 : Int32)) dX8_refusedOf_85 (by decide) ?_
        refine g_istore hC (lv' := [(0, .ref (x.1 37)), (1, .int a1), (2, .int (r1.1)), (3, .int p7), (4, .int p8), (5, .int p9), (6, .int q12), (7, .int (0 : Int32))]) [1, 2, 3, 4, 5, 6, 7, 0] dX8_refusedOf_86 (by decide) rfl ?_
        refine g_nm (fun (J15 : Int32 → Option (Int32 × Mem)) => ∀ (p14 : Int32), GG x f 8 (Qm x f φIM) 137 [(0, .ref (x.1 37)), (1, .int a1), (2, .int (r1.1)), (3, .int p7), (4, .int p8), (5, .int p9), (6, .int p14)] [] r1.2 (J15 p14)) (fun p14 => ?_) (fun J15 hJ15 => ?_)
        · show GG x f 8 (Qm x f φIM) 137 [(0, .ref (x.1 37)), (1, .int a1), (2, .int (r1.1)), (3, .int p7), (4, .int p8), (5, .int p9), (6, .int p14)] [] r1.2 _
          refine g_iload_n hC 3 dX8_refusedOf_137 rfl rfl ?_
          refine g_iload hC 6 dX8_refusedOf_138 rfl ?_
          refine g_nm (fun (J17 : Int32 → Option (Int32 × Mem)) => ∀ (q16 : Int32), GG x f 8 (Qm x f φIM) 148 [(0, .ref (x.1 37)), (1, .int a1), (2, .int (r1.1)), (4, .int p8), (5, .int p9), (6, .int p14)] [.int q16, .int p7] r1.2 (J17 q16)) (fun q16 => ?_) (fun J17 hJ17 => ?_)
          · show GG x f 8 (Qm x f φIM) 148 [(0, .ref (x.1 37)), (1, .int a1), (2, .int (r1.1)), (4, .int p8), (5, .int p9), (6, .int p14)] [.int q16, .int p7] r1.2 _
            refine g_iadd hC dX8_refusedOf_148 ?_
            refine g_top (fun v18 => ?_)
            show GG x f 8 (Qm x f φIM) 149 [(0, .ref (x.1 37)), (1, .int a1), (2, .int (r1.1)), (4, .int p8), (5, .int p9), (6, .int p14)] [.int v18] r1.2 _
            refine g_istore_n hC (lv' := [(0, .ref (x.1 37)), (1, .int a1), (2, .int (r1.1)), (3, .int v18), (4, .int p8), (5, .int p9), (6, .int p14)]) [1, 2, 3, 0, 4, 5, 6] dX8_refusedOf_149 rfl (by decide) rfl ?_
            refine g_iload hC 4 dX8_refusedOf_150 rfl ?_
            refine g_iload hC 6 dX8_refusedOf_152 rfl ?_
            refine g_nm (fun (J20 : Int32 → Option (Int32 × Mem)) => ∀ (q19 : Int32), GG x f 8 (Qm x f φIM) 163 [(0, .ref (x.1 37)), (1, .int a1), (2, .int (r1.1)), (3, .int v18), (5, .int p9)] [.int q19, .int p8] r1.2 (J20 q19)) (fun q19 => ?_) (fun J20 hJ20 => ?_)
            · show GG x f 8 (Qm x f φIM) 163 [(0, .ref (x.1 37)), (1, .int a1), (2, .int (r1.1)), (3, .int v18), (5, .int p9)] [.int q19, .int p8] r1.2 _
              refine g_iand hC dX8_refusedOf_163 ?_
              refine g_top (fun v21 => ?_)
              show GG x f 8 (Qm x f φIM) 164 [(0, .ref (x.1 37)), (1, .int a1), (2, .int (r1.1)), (3, .int v18), (5, .int p9)] [.int v21] r1.2 _
              refine g_istore hC (lv' := [(0, .ref (x.1 37)), (1, .int a1), (2, .int (r1.1)), (3, .int v18), (4, .int v21), (5, .int p9)]) [1, 2, 3, 4, 0, 5] dX8_refusedOf_164 (by decide) rfl ?_
              refine g_iinc hC (q := 5) (v := (1 : Int32)) (lv' := [(0, .ref (x.1 37)), (1, .int a1), (2, .int (r1.1)), (3, .int v18), (4, .int v21), (5, .int (p9 + (1 : Int32)))]) [1, 2, 3, 4, 5, 0] dX8_refusedOf_166 rfl (by decide) (by decide) rfl ?_
              refine g_goto hC 59 dX8_refusedOf_169 (by decide) ?_
              exact hrec10 v18 v21 (p9 + (1 : Int32))
            refine g_if_eq hC 162 dX8_refusedOf_154 (by decide) ?_ ?_
            · refine g_iload_n hC 2 dX8_refusedOf_162 rfl rfl ?_
              refine g_lv (lv' := [(0, .ref (x.1 37)), (1, .int a1), (2, .int (r1.1)), (3, .int v18), (5, .int p9)]) [0, 1, 2, 3, 5] rfl ?_
              exact hJ20 r1.1
            · refine g_iload hC 5 dX8_refusedOf_157 rfl ?_
              refine g_goto hC 163 dX8_refusedOf_159 (by decide) ?_
              refine g_lv (lv' := [(0, .ref (x.1 37)), (1, .int a1), (2, .int (r1.1)), (3, .int v18), (5, .int p9)]) [0, 1, 2, 3, 5] rfl ?_
              exact hJ20 p9
          refine g_if_eq hC 147 dX8_refusedOf_140 (by decide) ?_ ?_
          · refine g_iconst hC (v := (0 : Int32)) dX8_refusedOf_147 (by decide) ?_
            refine g_lv (lv' := [(0, .ref (x.1 37)), (1, .int a1), (2, .int (r1.1)), (4, .int p8), (5, .int p9), (6, .int p14)]) [0, 1, 2, 4, 5, 6] rfl ?_
            exact hJ17 (0 : Int32)
          · refine g_iconst hC (v := (1 : Int32)) dX8_refusedOf_143 (by decide) ?_
            refine g_goto hC 148 dX8_refusedOf_144 (by decide) ?_
            refine g_lv (lv' := [(0, .ref (x.1 37)), (1, .int a1), (2, .int (r1.1)), (4, .int p8), (5, .int p9), (6, .int p14)]) [0, 1, 2, 4, 5, 6] rfl ?_
            exact hJ17 (1 : Int32)
        refine g_fx2 (fun (p22 : Int32) (p23 : Int32) => [(0, .ref (x.1 37)), (1, .int a1), (2, .int (r1.1)), (3, .int p7), (4, .int p8), (5, .int p9), (6, .int p22), (7, .int p23)]) (fun (p22 : Int32) (p23 : Int32) => r1.2) (fun rec24 hrec24 p22 p23 => ?_) F _ _
        show GG x f 8 (Qm x f φIM) 88 [(0, .ref (x.1 37)), (1, .int a1), (2, .int (r1.1)), (3, .int p7), (4, .int p8), (5, .int p9), (6, .int p22), (7, .int p23)] [] r1.2 _
        unfold sX8_refusedOf_L88
        refine g_iload hC 7 dX8_refusedOf_88 rfl ?_
        refine g_aload_n hC 0 dX8_refusedOf_90 rfl rfl ?_
        refine g_getI hC cf8 rfl 14 (by decide) rfl m_923 dX8_refusedOf_91 ?_
        refine g_icmp_ge hC 137 dX8_refusedOf_94 (by decide) ?_ ?_
        · refine g_lv (lv' := [(0, .ref (x.1 37)), (1, .int a1), (2, .int (r1.1)), (3, .int p7), (4, .int p8), (5, .int p9), (6, .int p22)]) [0, 1, 2, 3, 4, 5, 6] rfl ?_
          exact hJ15 p22
        · refine g_iload hC 6 dX8_refusedOf_97 rfl ?_
          refine g_nm (fun (J26 : Int32 → Option (Int32 × Mem)) => ∀ (q25 : Int32), GG x f 8 (Qm x f φIM) 129 [(0, .ref (x.1 37)), (1, .int a1), (2, .int (r1.1)), (3, .int p7), (4, .int p8), (5, .int p9), (7, .int p23)] [.int q25] r1.2 (J26 q25)) (fun q25 => ?_) (fun J26 hJ26 => ?_)
          · show GG x f 8 (Qm x f φIM) 129 [(0, .ref (x.1 37)), (1, .int a1), (2, .int (r1.1)), (3, .int p7), (4, .int p8), (5, .int p9), (7, .int p23)] [.int q25] r1.2 _
            refine g_istore hC (lv' := [(0, .ref (x.1 37)), (1, .int a1), (2, .int (r1.1)), (3, .int p7), (4, .int p8), (5, .int p9), (6, .int q25), (7, .int p23)]) [1, 2, 3, 4, 5, 6, 0, 7] dX8_refusedOf_129 (by decide) rfl ?_
            refine g_iinc hC (q := 7) (v := (1 : Int32)) (lv' := [(0, .ref (x.1 37)), (1, .int a1), (2, .int (r1.1)), (3, .int p7), (4, .int p8), (5, .int p9), (6, .int q25), (7, .int (p23 + (1 : Int32)))]) [1, 2, 3, 4, 5, 6, 7, 0] dX8_refusedOf_131 rfl (by decide) (by decide) rfl ?_
            refine g_goto hC 88 dX8_refusedOf_134 (by decide) ?_
            exact hrec24 q25 (p23 + (1 : Int32))
          refine g_nm (fun (J27 : Option (Int32 × Mem)) => GG x f 8 (Qm x f φIM) 128 [(0, .ref (x.1 37)), (1, .int a1), (2, .int (r1.1)), (3, .int p7), (4, .int p8), (5, .int p9), (7, .int p23)] [] r1.2 J27) ?_ (fun J27 hJ27 => ?_)
          · show GG x f 8 (Qm x f φIM) 128 [(0, .ref (x.1 37)), (1, .int a1), (2, .int (r1.1)), (3, .int p7), (4, .int p8), (5, .int p9), (7, .int p23)] [] r1.2 _
            refine g_iconst hC (v := (0 : Int32)) dX8_refusedOf_128 (by decide) ?_
            exact hJ26 (0 : Int32)
          refine g_if_eq hC 128 dX8_refusedOf_99 (by decide) ?_ ?_
          · refine g_lv (lv' := [(0, .ref (x.1 37)), (1, .int a1), (2, .int (r1.1)), (3, .int p7), (4, .int p8), (5, .int p9), (7, .int p23)]) [0, 1, 2, 3, 4, 5, 7] rfl ?_
            exact hJ27
          · refine g_iload hC 5 dX8_refusedOf_102 rfl ?_
            refine g_aload_n hC 0 dX8_refusedOf_104 rfl rfl ?_
            refine g_getR hC cf8 (t := 47) rfl 15 (by decide) rfl m_924 dX8_refusedOf_105 ?_
            refine g_iload hC 7 dX8_refusedOf_108 rfl ?_
            refine g_iald hC rfl rfl dX8_refusedOf_110 ?_
            refine g_ishr hC dX8_refusedOf_111 ?_
            refine g_iconst hC (v := (1 : Int32)) dX8_refusedOf_112 (by decide) ?_
            refine g_iand hC dX8_refusedOf_113 ?_
            refine g_aload_n hC 0 dX8_refusedOf_114 rfl rfl ?_
            refine g_getR hC cf8 (t := 48) rfl 16 (by decide) rfl m_925 dX8_refusedOf_115 ?_
            refine g_iload hC 7 dX8_refusedOf_118 rfl ?_
            refine g_iald hC rfl rfl dX8_refusedOf_120 ?_
            refine g_icmp_ne hC 128 dX8_refusedOf_121 (by decide) ?_ ?_
            · refine g_lv (lv' := [(0, .ref (x.1 37)), (1, .int a1), (2, .int (r1.1)), (3, .int p7), (4, .int p8), (5, .int p9), (7, .int p23)]) [0, 1, 2, 3, 4, 5, 7] rfl ?_
              exact hJ27
            · refine g_iconst hC (v := (1 : Int32)) dX8_refusedOf_124 (by decide) ?_
              refine g_goto hC 129 dX8_refusedOf_125 (by decide) ?_
              refine g_lv (lv' := [(0, .ref (x.1 37)), (1, .int a1), (2, .int (r1.1)), (3, .int p7), (4, .int p8), (5, .int p9), (7, .int p23)]) [0, 1, 2, 3, 4, 5, 7] rfl ?_
              exact hJ26 (1 : Int32)
      refine g_if_ne hC 82 dX8_refusedOf_75 (by decide) ?_ ?_
      · refine g_iconst hC (v := (0 : Int32)) dX8_refusedOf_82 (by decide) ?_
        exact hJ13 (0 : Int32)
      · refine g_iconst hC (v := (1 : Int32)) dX8_refusedOf_78 (by decide) ?_
        refine g_goto hC 83 dX8_refusedOf_79 (by decide) ?_
        exact hJ13 (1 : Int32)
  refine g_fx2 (fun (p28 : Int32) (p29 : Int32) => [(0, .ref (x.1 37)), (1, .int a1), (2, .int (r1.1)), (3, .int (0 : Int32)), (4, .int p28), (5, .int p29)]) (fun (p28 : Int32) (p29 : Int32) => r1.2) (fun rec30 hrec30 p28 p29 => ?_) F _ _
  show GG x f 8 (Qm x f φIM) 13 [(0, .ref (x.1 37)), (1, .int a1), (2, .int (r1.1)), (3, .int (0 : Int32)), (4, .int p28), (5, .int p29)] [] r1.2 _
  unfold sX8_refusedOf_L13
  refine g_iload hC 5 dX8_refusedOf_13 rfl ?_
  refine g_aload_n hC 0 dX8_refusedOf_15 rfl rfl ?_
  refine g_getI hC cf8 rfl 2 (by decide) rfl m_911 dX8_refusedOf_16 ?_
  refine g_icmp_ge hC 56 dX8_refusedOf_19 (by decide) ?_ ?_
  · refine g_lv (lv' := [(0, .ref (x.1 37)), (1, .int a1), (2, .int (r1.1)), (3, .int (0 : Int32)), (4, .int p28)]) [0, 1, 2, 3, 4] rfl ?_
    exact hJ3 p28
  · refine g_iload hC 4 dX8_refusedOf_22 rfl ?_
    refine g_aload_n hC 0 dX8_refusedOf_24 rfl rfl ?_
    refine g_getR hC cf8 (t := 40) rfl 3 (by decide) rfl m_912 dX8_refusedOf_25 ?_
    refine g_bipush hC (v := (6 : Int32)) dX8_refusedOf_28 (by decide) ?_
    refine g_iload hC 5 dX8_refusedOf_30 rfl ?_
    refine g_imul hC dX8_refusedOf_32 ?_
    refine g_iconst hC (v := (3 : Int32)) dX8_refusedOf_33 (by decide) ?_
    refine g_iadd hC dX8_refusedOf_34 ?_
    refine g_iald hC rfl rfl dX8_refusedOf_35 ?_
    refine g_nm (fun (J32 : Int32 → Option (Int32 × Mem)) => ∀ (q31 : Int32), GG x f 8 (Qm x f φIM) 47 [(0, .ref (x.1 37)), (1, .int a1), (2, .int (r1.1)), (3, .int (0 : Int32)), (5, .int p29)] [.int q31, .int p28] r1.2 (J32 q31)) (fun q31 => ?_) (fun J32 hJ32 => ?_)
    · show GG x f 8 (Qm x f φIM) 47 [(0, .ref (x.1 37)), (1, .int a1), (2, .int (r1.1)), (3, .int (0 : Int32)), (5, .int p29)] [.int q31, .int p28] r1.2 _
      refine g_ior hC dX8_refusedOf_47 ?_
      refine g_top (fun v33 => ?_)
      show GG x f 8 (Qm x f φIM) 48 [(0, .ref (x.1 37)), (1, .int a1), (2, .int (r1.1)), (3, .int (0 : Int32)), (5, .int p29)] [.int v33] r1.2 _
      refine g_istore hC (lv' := [(0, .ref (x.1 37)), (1, .int a1), (2, .int (r1.1)), (3, .int (0 : Int32)), (4, .int v33), (5, .int p29)]) [1, 2, 3, 4, 0, 5] dX8_refusedOf_48 (by decide) rfl ?_
      refine g_iinc hC (q := 5) (v := (1 : Int32)) (lv' := [(0, .ref (x.1 37)), (1, .int a1), (2, .int (r1.1)), (3, .int (0 : Int32)), (4, .int v33), (5, .int (p29 + (1 : Int32)))]) [1, 2, 3, 4, 5, 0] dX8_refusedOf_50 rfl (by decide) (by decide) rfl ?_
      refine g_goto hC 13 dX8_refusedOf_53 (by decide) ?_
      exact hrec30 v33 (p29 + (1 : Int32))
    refine g_if_ne hC 46 dX8_refusedOf_36 (by decide) ?_ ?_
    · refine g_iconst hC (v := (0 : Int32)) dX8_refusedOf_46 (by decide) ?_
      refine g_lv (lv' := [(0, .ref (x.1 37)), (1, .int a1), (2, .int (r1.1)), (3, .int (0 : Int32)), (5, .int p29)]) [0, 1, 2, 3, 5] rfl ?_
      exact hJ32 (0 : Int32)
    · refine g_iconst hC (v := (1 : Int32)) dX8_refusedOf_39 (by decide) ?_
      refine g_iload hC 5 dX8_refusedOf_40 rfl ?_
      refine g_ishl hC dX8_refusedOf_42 ?_
      refine g_goto hC 47 dX8_refusedOf_43 (by decide) ?_
      refine g_lv (lv' := [(0, .ref (x.1 37)), (1, .int a1), (2, .int (r1.1)), (3, .int (0 : Int32)), (5, .int p29)]) [0, 1, 2, 3, 5] rfl ?_
      exact hJ32 ((1 : Int32) <<< (p29 &&& 31))
def sX8_refused (F : Nat) (a1 : Int32) (M : Mem) : Option (Int32 × Mem) :=
(sX8_in F a1 (0 : Int32) (1 : Int32) M).bind (fun r1 =>
if r1 = true then
((sX8_refusedOf F a1 M).bind (fun r2 =>
some (r2.1, r2.2)))
else
(some ((-2 : Int32), M)))
theorem mvX8_refused : MV yX8_refused cX8_refused 2 (some .int) 1 := ⟨⟨m_1275, m_76, by decide, by decide, by decide⟩, m_1273, m_1274⟩
set_option maxHeartbeats 4000000 in
set_option maxRecDepth 100000 in
theorem ctX8_refused (x : Wx) (F : Nat) (a1 : Int32) (M : Mem) : Ct x yX8_refused cX8_refused 2 (some .int) { frames := 8, cells := 0, slots := 0, locals := 191 } φIM [.ref (x.1 37), .int a1] M (sX8_refused F a1 M) := by
  refine ct_of (by decide) (Nat.le_of_ble_eq_true rfl) (fun f hC hm => ?_)
  have hC : Cx x f "AnswersFirstModel" cX8_refused 2 { frames := 8, cells := 0, slots := 0, locals := 191 } := hC
  show GG x f 2 (Qm x f φIM) 0 [(0, .ref (x.1 37)), (1, .int a1)] [] M _
  unfold sX8_refused
  refine g_iload_n hC 1 dX8_refused_0 rfl rfl ?_
  refine g_iconst hC (v := (0 : Int32)) dX8_refused_1 (by decide) ?_
  refine g_iconst hC (v := (1 : Int32)) dX8_refused_2 (by decide) ?_
  refine g_calls hC (st := []) (ctX8_in x F a1 (0 : Int32) (1 : Int32) M) msX8_in m_987 (by decide) rfl rfl (Nat.le_of_ble_eq_true rfl) dX8_refused_3 (fun r1 => ?_)
  show GG x f 2 (Qm x f φIM) 6 [(0, .ref (x.1 37)), (1, .int a1)] [.int (bi r1)] M _
  refine g_ifB_eq hC 17 dX8_refused_6 (by decide) ?_ ?_
  · refine g_aload_n hC 0 dX8_refused_9 rfl rfl ?_
    refine g_iload_n hC 1 dX8_refused_10 rfl rfl ?_
    refine g_callv hC (st := []) (c := 8) rfl (by decide) rfl (ctX8_refusedOf x F a1 M) mvX8_refusedOf m_1276 (by decide) rfl rfl (Nat.le_of_ble_eq_true rfl) dX8_refused_11 (fun r2 => ?_)
    show GG x f 2 (Qm x f φIM) 14 [(0, .ref (x.1 37)), (1, .int a1)] [.int (r2.1)] r2.2 _
    refine g_goto hC 19 dX8_refused_14 (by decide) ?_
    exact g_iret hC hm rfl dX8_refused_19
  · refine g_bipush hC (v := (-2 : Int32)) dX8_refused_17 (by decide) ?_
    exact g_iret hC hm rfl dX8_refused_19
def sX8_lotOf_L37 (F : Nat) (r1 : (Int32 × Mem)) (J14 : Int32 → Int32 → Option (Int32 × Mem)) (rec22 : Int32 → Int32 → Int32 → Option (Int32 × Mem)) (p19 : Int32) (p20 : Int32) (p21 : Int32) : Option (Int32 × Mem) :=
if (r1.2 37 2) ≤ p21 then
(J14 p19 p20)
else
(nm (((1103515245 : Int32) * p19) + (12345 : Int32)) (fun v23 =>
nz (2 : Int32) (
nm (p20 ||| (((ush v23 (16 : Int32)) - (ush v23 (16 : Int32)) / (2 : Int32) * (2 : Int32)) <<< (p21 &&& 31))) (fun v24 =>
rec22 v23 v24 (p21 + (1 : Int32))))))
def sX8_lotOf_L17 (F : Nat) (a2 : Int32) (r1 : (Int32 × Mem)) (J4 : Int32 → Int32 → Option (Int32 × Mem)) (rec9 : Int32 → Int32 → Int32 → Int32 → Option (Int32 × Mem)) (p5 : Int32) (p6 : Int32) (p7 : Int32) (p8 : Int32) : Option (Int32 × Mem) :=
nm (fun (q10 : Int32) =>
if q10 ≤ p8 then
(J4 p6 p7)
else
(nm (fun (p12 : Int32) (p13 : Int32) =>
(sX8_brokenBy F (p13 &&& r1.1) (r1.2 37 9) r1.2).bind (fun r15 =>
nm (fun (q16 : Int32) =>
nm (p6 + q16) (fun v18 =>
rec9 p12 v18 p13 (p8 + (1 : Int32)))) (fun J17 =>
if ¬ r15 = 0 then
(J17 (0 : Int32))
else
(J17 (1 : Int32))))) (fun J14 =>
fx3 F (sX8_lotOf_L37 F r1 J14) p5 (0 : Int32) (0 : Int32)))) (fun J11 =>
if ¬ a2 = 0 then
(J11 a2)
else
(J11 (1 : Int32)))
def sX8_lotOf (F : Nat) (a1 : Int32) (a2 : Int32) (M : Mem) : Option (Int32 × Mem) :=
(sX8_there F M).bind (fun r1 =>
nm (fun (p2 : Int32) (p3 : Int32) =>
if ¬ a2 = 0 then
(some (p2, r1.2))
else
(some (p3, r1.2))) (fun J4 =>
fx4 F (sX8_lotOf_L17 F a2 r1 J4) a1 (0 : Int32) (0 : Int32) (0 : Int32)))
theorem mvX8_lotOf : MV yX8_lotOf cX8_lotOf 9 (some .int) 2 := ⟨⟨m_1287, m_76, by decide, by decide, by decide⟩, m_1286, m_62⟩
set_option maxHeartbeats 4000000 in
set_option maxRecDepth 100000 in
theorem ctX8_lotOf (x : Wx) (F : Nat) (a1 : Int32) (a2 : Int32) (M : Mem) : Ct x yX8_lotOf cX8_lotOf 9 (some .int) { frames := 7, cells := 0, slots := 0, locals := 164 } φIM [.ref (x.1 37), .int a1, .int a2] M (sX8_lotOf F a1 a2 M) := by
  refine ct_of (by decide) (Nat.le_of_ble_eq_true rfl) (fun f hC hm => ?_)
  have hC : Cx x f "AnswersFirstModel" cX8_lotOf 9 { frames := 7, cells := 0, slots := 0, locals := 164 } := hC
  show GG x f 9 (Qm x f φIM) 0 [(0, .ref (x.1 37)), (1, .int a1), (2, .int a2)] [] M _
  unfold sX8_lotOf
  refine g_aload_n hC 0 dX8_lotOf_0 rfl rfl ?_
  refine g_callv hC (st := []) (c := 8) rfl (by decide) rfl (ctX8_there x F M) mvX8_there m_1079 (by decide) rfl rfl (Nat.le_of_ble_eq_true rfl) dX8_lotOf_1 (fun r1 => ?_)
  show GG x f 9 (Qm x f φIM) 4 [(0, .ref (x.1 37)), (1, .int a1), (2, .int a2)] [.int (r1.1)] r1.2 _
  refine g_istore_n hC (lv' := [(0, .ref (x.1 37)), (1, .int a1), (2, .int a2), (3, .int (r1.1))]) [1, 2, 3, 0] dX8_lotOf_4 rfl (by decide) rfl ?_
  refine g_iload_n hC 1 dX8_lotOf_5 rfl rfl ?_
  refine g_istore hC (lv' := [(0, .ref (x.1 37)), (2, .int a2), (3, .int (r1.1)), (4, .int a1)]) [1, 3, 4, 0] dX8_lotOf_6 (by decide) rfl ?_
  refine g_iconst hC (v := (0 : Int32)) dX8_lotOf_8 (by decide) ?_
  refine g_istore hC (lv' := [(0, .ref (x.1 37)), (2, .int a2), (3, .int (r1.1)), (4, .int a1), (5, .int (0 : Int32))]) [1, 2, 3, 4, 0] dX8_lotOf_9 (by decide) rfl ?_
  refine g_iconst hC (v := (0 : Int32)) dX8_lotOf_11 (by decide) ?_
  refine g_istore hC (lv' := [(0, .ref (x.1 37)), (2, .int a2), (3, .int (r1.1)), (4, .int a1), (5, .int (0 : Int32)), (6, .int (0 : Int32))]) [1, 2, 3, 4, 5, 0] dX8_lotOf_12 (by decide) rfl ?_
  refine g_iconst hC (v := (0 : Int32)) dX8_lotOf_14 (by decide) ?_
  refine g_istore hC (lv' := [(0, .ref (x.1 37)), (2, .int a2), (3, .int (r1.1)), (4, .int a1), (5, .int (0 : Int32)), (6, .int (0 : Int32)), (7, .int (0 : Int32))]) [1, 2, 3, 4, 5, 6, 0] dX8_lotOf_15 (by decide) rfl ?_
  refine g_nm (fun (J4 : Int32 → Int32 → Option (Int32 × Mem)) => ∀ (p2 : Int32) (p3 : Int32), GG x f 9 (Qm x f φIM) 109 [(2, .int a2), (5, .int p2), (6, .int p3)] [] r1.2 (J4 p2 p3)) (fun p2 p3 => ?_) (fun J4 hJ4 => ?_)
  · show GG x f 9 (Qm x f φIM) 109 [(2, .int a2), (5, .int p2), (6, .int p3)] [] r1.2 _
    refine g_iload_n hC 0 dX8_lotOf_109 rfl rfl ?_
    refine g_if_ne hC 118 dX8_lotOf_110 (by decide) ?_ ?_
    · refine g_iload hC 1 dX8_lotOf_118 rfl ?_
      exact g_iret hC hm rfl dX8_lotOf_120
    · refine g_iload hC 2 dX8_lotOf_113 rfl ?_
      refine g_goto hC 120 dX8_lotOf_115 (by decide) ?_
      exact g_iret hC hm rfl dX8_lotOf_120
  refine g_fx4 (fun (p5 : Int32) (p6 : Int32) (p7 : Int32) (p8 : Int32) => [(0, .ref (x.1 37)), (2, .int a2), (3, .int (r1.1)), (4, .int p5), (5, .int p6), (6, .int p7), (7, .int p8)]) (fun (p5 : Int32) (p6 : Int32) (p7 : Int32) (p8 : Int32) => r1.2) (fun rec9 hrec9 p5 p6 p7 p8 => ?_) F _ _ _ _
  show GG x f 9 (Qm x f φIM) 17 [(0, .ref (x.1 37)), (2, .int a2), (3, .int (r1.1)), (4, .int p5), (5, .int p6), (6, .int p7), (7, .int p8)] [] r1.2 _
  unfold sX8_lotOf_L17
  refine g_iload hC 6 dX8_lotOf_17 rfl ?_
  refine g_iload_n hC 1 dX8_lotOf_19 rfl rfl ?_
  refine g_nm (fun (J11 : Int32 → Option (Int32 × Mem)) => ∀ (q10 : Int32), GG x f 9 (Qm x f φIM) 28 [(0, .ref (x.1 37)), (2, .int a2), (3, .int (r1.1)), (4, .int p5), (5, .int p6), (6, .int p7), (7, .int p8)] [.int q10, .int p8] r1.2 (J11 q10)) (fun q10 => ?_) (fun J11 hJ11 => ?_)
  · show GG x f 9 (Qm x f φIM) 28 [(0, .ref (x.1 37)), (2, .int a2), (3, .int (r1.1)), (4, .int p5), (5, .int p6), (6, .int p7), (7, .int p8)] [.int q10, .int p8] r1.2 _
    refine g_icmp_ge hC 109 dX8_lotOf_28 (by decide) ?_ ?_
    · refine g_lv (lv' := [(2, .int a2), (5, .int p6), (6, .int p7)]) [1, 4, 5] rfl ?_
      exact hJ4 p6 p7
    · refine g_iconst hC (v := (0 : Int32)) dX8_lotOf_31 (by decide) ?_
      refine g_istore hC (lv' := [(0, .ref (x.1 37)), (2, .int a2), (3, .int (r1.1)), (4, .int p5), (5, .int p6), (6, .int (0 : Int32)), (7, .int p8)]) [1, 2, 3, 4, 5, 0, 6] dX8_lotOf_32 (by decide) rfl ?_
      refine g_iconst hC (v := (0 : Int32)) dX8_lotOf_34 (by decide) ?_
      refine g_istore hC (lv' := [(0, .ref (x.1 37)), (2, .int a2), (3, .int (r1.1)), (4, .int p5), (5, .int p6), (6, .int (0 : Int32)), (7, .int p8), (8, .int (0 : Int32))]) [1, 2, 3, 4, 5, 6, 7, 0] dX8_lotOf_35 (by decide) rfl ?_
      refine g_nm (fun (J14 : Int32 → Int32 → Option (Int32 × Mem)) => ∀ (p12 : Int32) (p13 : Int32), GG x f 9 (Qm x f φIM) 78 [(0, .ref (x.1 37)), (2, .int a2), (3, .int (r1.1)), (4, .int p12), (5, .int p6), (6, .int p13), (7, .int p8)] [] r1.2 (J14 p12 p13)) (fun p12 p13 => ?_) (fun J14 hJ14 => ?_)
      · show GG x f 9 (Qm x f φIM) 78 [(0, .ref (x.1 37)), (2, .int a2), (3, .int (r1.1)), (4, .int p12), (5, .int p6), (6, .int p13), (7, .int p8)] [] r1.2 _
        refine g_iload hC 4 dX8_lotOf_78 rfl ?_
        refine g_aload_n hC 0 dX8_lotOf_80 rfl rfl ?_
        refine g_iload hC 5 dX8_lotOf_81 rfl ?_
        refine g_iload_n hC 2 dX8_lotOf_83 rfl rfl ?_
        refine g_iand hC dX8_lotOf_84 ?_
        refine g_aload_n hC 0 dX8_lotOf_85 rfl rfl ?_
        refine g_getI hC cf8 rfl 9 (by decide) rfl m_918 dX8_lotOf_86 ?_
        refine g_callv hC (st := [.int p6]) (c := 8) rfl (by decide) rfl (ctX8_brokenBy x F (p13 &&& r1.1) (r1.2 37 9) r1.2) mvX8_brokenBy m_1083 (by decide) rfl rfl (Nat.le_of_ble_eq_true rfl) dX8_lotOf_89 (fun r15 => ?_)
        show GG x f 9 (Qm x f φIM) 92 [(0, .ref (x.1 37)), (2, .int a2), (3, .int (r1.1)), (4, .int p12), (5, .int p6), (6, .int p13), (7, .int p8)] [.int r15, .int p6] r1.2 _
        refine g_nm (fun (J17 : Int32 → Option (Int32 × Mem)) => ∀ (q16 : Int32), GG x f 9 (Qm x f φIM) 100 [(0, .ref (x.1 37)), (2, .int a2), (3, .int (r1.1)), (4, .int p12), (6, .int p13), (7, .int p8)] [.int q16, .int p6] r1.2 (J17 q16)) (fun q16 => ?_) (fun J17 hJ17 => ?_)
        · show GG x f 9 (Qm x f φIM) 100 [(0, .ref (x.1 37)), (2, .int a2), (3, .int (r1.1)), (4, .int p12), (6, .int p13), (7, .int p8)] [.int q16, .int p6] r1.2 _
          refine g_iadd hC dX8_lotOf_100 ?_
          refine g_top (fun v18 => ?_)
          show GG x f 9 (Qm x f φIM) 101 [(0, .ref (x.1 37)), (2, .int a2), (3, .int (r1.1)), (4, .int p12), (6, .int p13), (7, .int p8)] [.int v18] r1.2 _
          refine g_istore hC (lv' := [(0, .ref (x.1 37)), (2, .int a2), (3, .int (r1.1)), (4, .int p12), (5, .int v18), (6, .int p13), (7, .int p8)]) [1, 2, 3, 4, 0, 5, 6] dX8_lotOf_101 (by decide) rfl ?_
          refine g_iinc hC (q := 6) (v := (1 : Int32)) (lv' := [(0, .ref (x.1 37)), (2, .int a2), (3, .int (r1.1)), (4, .int p12), (5, .int v18), (6, .int p13), (7, .int (p8 + (1 : Int32)))]) [1, 2, 3, 4, 5, 6, 0] dX8_lotOf_103 rfl (by decide) (by decide) rfl ?_
          refine g_goto hC 17 dX8_lotOf_106 (by decide) ?_
          exact hrec9 p12 v18 p13 (p8 + (1 : Int32))
        refine g_if_ne hC 99 dX8_lotOf_92 (by decide) ?_ ?_
        · refine g_iconst hC (v := (0 : Int32)) dX8_lotOf_99 (by decide) ?_
          refine g_lv (lv' := [(0, .ref (x.1 37)), (2, .int a2), (3, .int (r1.1)), (4, .int p12), (6, .int p13), (7, .int p8)]) [0, 1, 2, 3, 5, 6] rfl ?_
          exact hJ17 (0 : Int32)
        · refine g_iconst hC (v := (1 : Int32)) dX8_lotOf_95 (by decide) ?_
          refine g_goto hC 100 dX8_lotOf_96 (by decide) ?_
          refine g_lv (lv' := [(0, .ref (x.1 37)), (2, .int a2), (3, .int (r1.1)), (4, .int p12), (6, .int p13), (7, .int p8)]) [0, 1, 2, 3, 5, 6] rfl ?_
          exact hJ17 (1 : Int32)
      refine g_fx3 (fun (p19 : Int32) (p20 : Int32) (p21 : Int32) => [(0, .ref (x.1 37)), (2, .int a2), (3, .int (r1.1)), (4, .int p19), (5, .int p6), (6, .int p20), (7, .int p8), (8, .int p21)]) (fun (p19 : Int32) (p20 : Int32) (p21 : Int32) => r1.2) (fun rec22 hrec22 p19 p20 p21 => ?_) F _ _ _
      show GG x f 9 (Qm x f φIM) 37 [(0, .ref (x.1 37)), (2, .int a2), (3, .int (r1.1)), (4, .int p19), (5, .int p6), (6, .int p20), (7, .int p8), (8, .int p21)] [] r1.2 _
      unfold sX8_lotOf_L37
      refine g_iload hC 7 dX8_lotOf_37 rfl ?_
      refine g_aload_n hC 0 dX8_lotOf_39 rfl rfl ?_
      refine g_getI hC cf8 rfl 2 (by decide) rfl m_911 dX8_lotOf_40 ?_
      refine g_icmp_ge hC 78 dX8_lotOf_43 (by decide) ?_ ?_
      · refine g_lv (lv' := [(0, .ref (x.1 37)), (2, .int a2), (3, .int (r1.1)), (4, .int p19), (5, .int p6), (6, .int p20), (7, .int p8)]) [0, 1, 2, 3, 4, 5, 6] rfl ?_
        exact hJ14 p19 p20
      · refine g_ldc hC (v := (1103515245 : Int32)) m_1288 dX8_lotOf_46 ?_
        refine g_iload hC 3 dX8_lotOf_48 rfl ?_
        refine g_imul hC dX8_lotOf_50 ?_
        refine g_sipush hC (v := (12345 : Int32)) dX8_lotOf_51 (by decide) ?_
        refine g_iadd hC dX8_lotOf_54 ?_
        refine g_top (fun v23 => ?_)
        show GG x f 9 (Qm x f φIM) 55 [(0, .ref (x.1 37)), (2, .int a2), (3, .int (r1.1)), (4, .int p19), (5, .int p6), (6, .int p20), (7, .int p8), (8, .int p21)] [.int v23] r1.2 _
        refine g_istore hC (lv' := [(0, .ref (x.1 37)), (2, .int a2), (3, .int (r1.1)), (4, .int v23), (5, .int p6), (6, .int p20), (7, .int p8), (8, .int p21)]) [1, 2, 3, 0, 4, 5, 6, 7] dX8_lotOf_55 (by decide) rfl ?_
        refine g_iload hC 5 dX8_lotOf_57 rfl ?_
        refine g_iload hC 3 dX8_lotOf_59 rfl ?_
        refine g_bipush hC (v := (16 : Int32)) dX8_lotOf_61 (by decide) ?_
        refine g_iushr hC dX8_lotOf_63 ?_
        refine g_iconst hC (v := (2 : Int32)) dX8_lotOf_64 (by decide) ?_
        refine g_irem hC dX8_lotOf_65 ?_
        refine g_iload hC 7 dX8_lotOf_66 rfl ?_
        refine g_ishl hC dX8_lotOf_68 ?_
        refine g_ior hC dX8_lotOf_69 ?_
        refine g_top (fun v24 => ?_)
        show GG x f 9 (Qm x f φIM) 70 [(0, .ref (x.1 37)), (2, .int a2), (3, .int (r1.1)), (4, .int v23), (5, .int p6), (6, .int p20), (7, .int p8), (8, .int p21)] [.int v24] r1.2 _
        refine g_istore hC (lv' := [(0, .ref (x.1 37)), (2, .int a2), (3, .int (r1.1)), (4, .int v23), (5, .int p6), (6, .int v24), (7, .int p8), (8, .int p21)]) [1, 2, 3, 4, 5, 0, 6, 7] dX8_lotOf_70 (by decide) rfl ?_
        refine g_iinc hC (q := 7) (v := (1 : Int32)) (lv' := [(0, .ref (x.1 37)), (2, .int a2), (3, .int (r1.1)), (4, .int v23), (5, .int p6), (6, .int v24), (7, .int p8), (8, .int (p21 + (1 : Int32)))]) [1, 2, 3, 4, 5, 6, 7, 0] dX8_lotOf_72 rfl (by decide) (by decide) rfl ?_
        refine g_goto hC 37 dX8_lotOf_75 (by decide) ?_
        exact hrec22 v23 v24 (p21 + (1 : Int32))
  refine g_if_ne hC 27 dX8_lotOf_20 (by decide) ?_ ?_
  · refine g_iload_n hC 1 dX8_lotOf_27 rfl rfl ?_
    exact hJ11 a2
  · refine g_iconst hC (v := (1 : Int32)) dX8_lotOf_23 (by decide) ?_
    refine g_goto hC 28 dX8_lotOf_24 (by decide) ?_
    exact hJ11 (1 : Int32)
def sX8_lot (F : Nat) (a1 : Int32) (a2 : Int32) (M : Mem) : Option (Int32 × Mem) :=
(sX8_in F a2 (0 : Int32) (99 : Int32) M).bind (fun r1 =>
if r1 = true then
((sX8_lotOf F a1 a2 M).bind (fun r2 =>
some (r2.1, r2.2)))
else
(some ((-2 : Int32), M)))
theorem mvX8_lot : MV yX8_lot cX8_lot 3 (some .int) 2 := ⟨⟨m_1283, m_76, by decide, by decide, by decide⟩, m_1281, m_1282⟩
set_option maxHeartbeats 4000000 in
set_option maxRecDepth 100000 in
theorem ctX8_lot (x : Wx) (F : Nat) (a1 : Int32) (a2 : Int32) (M : Mem) : Ct x yX8_lot cX8_lot 3 (some .int) { frames := 8, cells := 0, slots := 0, locals := 192 } φIM [.ref (x.1 37), .int a1, .int a2] M (sX8_lot F a1 a2 M) := by
  refine ct_of (by decide) (Nat.le_of_ble_eq_true rfl) (fun f hC hm => ?_)
  have hC : Cx x f "AnswersFirstModel" cX8_lot 3 { frames := 8, cells := 0, slots := 0, locals := 192 } := hC
  show GG x f 3 (Qm x f φIM) 0 [(0, .ref (x.1 37)), (1, .int a1), (2, .int a2)] [] M _
  unfold sX8_lot
  refine g_iload_n hC 2 dX8_lot_0 rfl rfl ?_
  refine g_iconst hC (v := (0 : Int32)) dX8_lot_1 (by decide) ?_
  refine g_bipush hC (v := (99 : Int32)) dX8_lot_2 (by decide) ?_
  refine g_calls hC (st := []) (ctX8_in x F a2 (0 : Int32) (99 : Int32) M) msX8_in m_987 (by decide) rfl rfl (Nat.le_of_ble_eq_true rfl) dX8_lot_4 (fun r1 => ?_)
  show GG x f 3 (Qm x f φIM) 7 [(0, .ref (x.1 37)), (1, .int a1), (2, .int a2)] [.int (bi r1)] M _
  refine g_ifB_eq hC 19 dX8_lot_7 (by decide) ?_ ?_
  · refine g_aload_n hC 0 dX8_lot_10 rfl rfl ?_
    refine g_iload_n hC 1 dX8_lot_11 rfl rfl ?_
    refine g_iload_n hC 2 dX8_lot_12 rfl rfl ?_
    refine g_callv hC (st := []) (c := 8) rfl (by decide) rfl (ctX8_lotOf x F a1 a2 M) mvX8_lotOf m_1284 (by decide) rfl rfl (Nat.le_of_ble_eq_true rfl) dX8_lot_13 (fun r2 => ?_)
    show GG x f 3 (Qm x f φIM) 16 [(0, .ref (x.1 37)), (1, .int a1), (2, .int a2)] [.int (r2.1)] r2.2 _
    refine g_goto hC 21 dX8_lot_16 (by decide) ?_
    exact g_iret hC hm rfl dX8_lot_21
  · refine g_bipush hC (v := (-2 : Int32)) dX8_lot_19 (by decide) ?_
    exact g_iret hC hm rfl dX8_lot_21
def sX8_sheet_L59 (F : Nat) (a1 : Int32) (a3 : Int32) (rec8 : Int32 → Mem → Option (Int32 × Mem)) (p6 : Int32) (M7 : Mem) : Option (Int32 × Mem) :=
if (48 : Int32) ≤ p6 then
(some (a3, M7))
else
(ib (((48 : Int32) * a1) + p6) 192 (
nm (st2 M7 52 (ix (((48 : Int32) * a1) + p6)) (0 : Int32)) (fun M9 =>
rec8 (p6 + (1 : Int32)) M9)))
def sX8_sheet (F : Nat) (a1 : Int32) (a2 : Int32) (a3 : Int32) (M : Mem) : Option (Int32 × Mem) :=
(sX8_isSheet F a1 M).bind (fun r1 =>
if r1 = true then
((sX8_in F a2 (0 : Int32) (2 : Int32) M).bind (fun r2 =>
if r2 = true then
(if a3 ≤ (48 : Int32) then
(if 0 ≤ a3 then
(ib a1 4 (
nm (st2 M 49 (ix a1) (1 : Int32)) (fun M3 =>
ib a1 4 (
nm (st2 M3 50 (ix a1) a2) (fun M4 =>
ib a1 4 (
nm (st2 M4 51 (ix a1) a3) (fun M5 =>
fx2 F (sX8_sheet_L59 F a1 a3) (0 : Int32) M5)))))))
else
((sX8_meets F (5 : Int32) M).bind (fun r10 =>
some (r10.1, r10.2))))
else
(some ((-2 : Int32), M)))
else
(some ((-2 : Int32), M))))
else
(some ((-2 : Int32), M)))
theorem mvX8_sheet : MV yX8_sheet cX8_sheet 5 (some .int) 3 := ⟨⟨m_1292, m_76, by decide, by decide, by decide⟩, m_1290, m_1291⟩
set_option maxHeartbeats 4000000 in
set_option maxRecDepth 100000 in
theorem ctX8_sheet (x : Wx) (F : Nat) (a1 : Int32) (a2 : Int32) (a3 : Int32) (M : Mem) : Ct x yX8_sheet cX8_sheet 5 (some .int) { frames := 2, cells := 0, slots := 0, locals := 42 } φIM [.ref (x.1 37), .int a1, .int a2, .int a3] M (sX8_sheet F a1 a2 a3 M) := by
  refine ct_of (by decide) (Nat.le_of_ble_eq_true rfl) (fun f hC hm => ?_)
  have hC : Cx x f "AnswersFirstModel" cX8_sheet 5 { frames := 2, cells := 0, slots := 0, locals := 42 } := hC
  show GG x f 5 (Qm x f φIM) 0 [(0, .ref (x.1 37)), (1, .int a1), (2, .int a2), (3, .int a3)] [] M _
  unfold sX8_sheet
  refine g_iload_n hC 1 dX8_sheet_0 rfl rfl ?_
  refine g_calls hC (st := []) (ctX8_isSheet x F a1 M) msX8_isSheet m_1057 (by decide) rfl rfl (Nat.le_of_ble_eq_true rfl) dX8_sheet_1 (fun r1 => ?_)
  show GG x f 5 (Qm x f φIM) 4 [(0, .ref (x.1 37)), (1, .int a1), (2, .int a2), (3, .int a3)] [.int (bi r1)] M _
  refine g_ifB_eq hC 22 dX8_sheet_4 (by decide) ?_ ?_
  · refine g_iload_n hC 2 dX8_sheet_7 rfl rfl ?_
    refine g_iconst hC (v := (0 : Int32)) dX8_sheet_8 (by decide) ?_
    refine g_iconst hC (v := (2 : Int32)) dX8_sheet_9 (by decide) ?_
    refine g_calls hC (st := []) (ctX8_in x F a2 (0 : Int32) (2 : Int32) M) msX8_in m_987 (by decide) rfl rfl (Nat.le_of_ble_eq_true rfl) dX8_sheet_10 (fun r2 => ?_)
    show GG x f 5 (Qm x f φIM) 13 [(0, .ref (x.1 37)), (1, .int a1), (2, .int a2), (3, .int a3)] [.int (bi r2)] M _
    refine g_ifB_eq hC 22 dX8_sheet_13 (by decide) ?_ ?_
    · refine g_iload_n hC 3 dX8_sheet_16 rfl rfl ?_
      refine g_bipush hC (v := (48 : Int32)) dX8_sheet_17 (by decide) ?_
      refine g_icmp_le hC 25 dX8_sheet_19 (by decide) ?_ ?_
      · refine g_iload_n hC 3 dX8_sheet_25 rfl rfl ?_
        refine g_if_ge hC 35 dX8_sheet_26 (by decide) ?_ ?_
        · refine g_aload_n hC 0 dX8_sheet_35 rfl rfl ?_
          refine g_getR hC cf8 (t := 49) rfl 17 (by decide) rfl m_926 dX8_sheet_36 ?_
          refine g_iload_n hC 1 dX8_sheet_39 rfl rfl ?_
          refine g_iconst hC (v := (1 : Int32)) dX8_sheet_40 (by decide) ?_
          refine g_zast hC rfl rfl rfl dX8_sheet_41 (fun M3 => ?_)
          show GG x f 5 (Qm x f φIM) 42 [(0, .ref (x.1 37)), (1, .int a1), (2, .int a2), (3, .int a3)] [] M3 _
          refine g_aload_n hC 0 dX8_sheet_42 rfl rfl ?_
          refine g_getR hC cf8 (t := 50) rfl 18 (by decide) rfl m_927 dX8_sheet_43 ?_
          refine g_iload_n hC 1 dX8_sheet_46 rfl rfl ?_
          refine g_iload_n hC 2 dX8_sheet_47 rfl rfl ?_
          refine g_iast hC rfl rfl dX8_sheet_48 (fun M4 => ?_)
          show GG x f 5 (Qm x f φIM) 49 [(0, .ref (x.1 37)), (1, .int a1), (2, .int a2), (3, .int a3)] [] M4 _
          refine g_aload_n hC 0 dX8_sheet_49 rfl rfl ?_
          refine g_getR hC cf8 (t := 51) rfl 19 (by decide) rfl m_928 dX8_sheet_50 ?_
          refine g_iload_n hC 1 dX8_sheet_53 rfl rfl ?_
          refine g_iload_n hC 3 dX8_sheet_54 rfl rfl ?_
          refine g_iast hC rfl rfl dX8_sheet_55 (fun M5 => ?_)
          show GG x f 5 (Qm x f φIM) 56 [(0, .ref (x.1 37)), (1, .int a1), (2, .int a2), (3, .int a3)] [] M5 _
          refine g_iconst hC (v := (0 : Int32)) dX8_sheet_56 (by decide) ?_
          refine g_istore hC (lv' := [(0, .ref (x.1 37)), (1, .int a1), (3, .int a3), (4, .int (0 : Int32))]) [1, 2, 4, 0] dX8_sheet_57 (by decide) rfl ?_
          refine g_fx2 (fun (p6 : Int32) (M7 : Mem) => [(0, .ref (x.1 37)), (1, .int a1), (3, .int a3), (4, .int p6)]) (fun (p6 : Int32) (M7 : Mem) => M7) (fun rec8 hrec8 p6 M7 => ?_) F _ _
          show GG x f 5 (Qm x f φIM) 59 [(0, .ref (x.1 37)), (1, .int a1), (3, .int a3), (4, .int p6)] [] M7 _
          unfold sX8_sheet_L59
          refine g_iload hC 3 dX8_sheet_59 rfl ?_
          refine g_bipush hC (v := (48 : Int32)) dX8_sheet_61 (by decide) ?_
          refine g_icmp_ge hC 85 dX8_sheet_63 (by decide) ?_ ?_
          · refine g_iload_n hC 2 dX8_sheet_85 rfl rfl ?_
            exact g_iret hC hm rfl dX8_sheet_86
          · refine g_aload_n hC 0 dX8_sheet_66 rfl rfl ?_
            refine g_getR hC cf8 (t := 52) rfl 20 (by decide) rfl m_929 dX8_sheet_67 ?_
            refine g_bipush hC (v := (48 : Int32)) dX8_sheet_70 (by decide) ?_
            refine g_iload_n hC 1 dX8_sheet_72 rfl rfl ?_
            refine g_imul hC dX8_sheet_73 ?_
            refine g_iload hC 3 dX8_sheet_74 rfl ?_
            refine g_iadd hC dX8_sheet_76 ?_
            refine g_iconst hC (v := (0 : Int32)) dX8_sheet_77 (by decide) ?_
            refine g_iast hC rfl rfl dX8_sheet_78 (fun M9 => ?_)
            show GG x f 5 (Qm x f φIM) 79 [(0, .ref (x.1 37)), (1, .int a1), (3, .int a3), (4, .int p6)] [] M9 _
            refine g_iinc hC (q := 3) (v := (1 : Int32)) (lv' := [(0, .ref (x.1 37)), (1, .int a1), (3, .int a3), (4, .int (p6 + (1 : Int32)))]) [1, 2, 3, 0] dX8_sheet_79 rfl (by decide) (by decide) rfl ?_
            refine g_goto hC 59 dX8_sheet_82 (by decide) ?_
            exact hrec8 (p6 + (1 : Int32)) M9
        · refine g_aload_n hC 0 dX8_sheet_29 rfl rfl ?_
          refine g_iconst hC (v := (5 : Int32)) dX8_sheet_30 (by decide) ?_
          refine g_callv hC (st := []) (c := 8) rfl (by decide) rfl (ctX8_meets x F (5 : Int32) M) mvX8_meets m_1060 (by decide) rfl rfl (Nat.le_of_ble_eq_true rfl) dX8_sheet_31 (fun r10 => ?_)
          show GG x f 5 (Qm x f φIM) 34 [(0, .ref (x.1 37)), (1, .int a1), (2, .int a2), (3, .int a3)] [.int (r10.1)] r10.2 _
          exact g_iret hC hm rfl dX8_sheet_34
      · refine g_bipush hC (v := (-2 : Int32)) dX8_sheet_22 (by decide) ?_
        exact g_iret hC hm rfl dX8_sheet_24
    · refine g_bipush hC (v := (-2 : Int32)) dX8_sheet_22 (by decide) ?_
      exact g_iret hC hm rfl dX8_sheet_24
  · refine g_bipush hC (v := (-2 : Int32)) dX8_sheet_22 (by decide) ?_
    exact g_iret hC hm rfl dX8_sheet_24
def sX8_lose (F : Nat) (a1 : Int32) (M : Mem) : Option (Int32 × Mem) :=
(sX8_isSheet F a1 M).bind (fun r1 =>
if r1 = true then
(ib a1 4 (
if ¬ (M 49 (ix a1)) = 0 then
(ib a1 4 (
nm (st2 M 49 (ix a1) (0 : Int32)) (fun M2 =>
ib a1 4 (
some ((M2 51 (ix a1)), M2)))))
else
((sX8_meets F (1 : Int32) M).bind (fun r3 =>
some (r3.1, r3.2)))))
else
(some ((-2 : Int32), M)))
theorem mvX8_lose : MV yX8_lose cX8_lose 2 (some .int) 1 := ⟨⟨m_1296, m_76, by decide, by decide, by decide⟩, m_1294, m_1295⟩
set_option maxHeartbeats 4000000 in
set_option maxRecDepth 100000 in
theorem ctX8_lose (x : Wx) (F : Nat) (a1 : Int32) (M : Mem) : Ct x yX8_lose cX8_lose 2 (some .int) { frames := 2, cells := 0, slots := 0, locals := 42 } φIM [.ref (x.1 37), .int a1] M (sX8_lose F a1 M) := by
  refine ct_of (by decide) (Nat.le_of_ble_eq_true rfl) (fun f hC hm => ?_)
  have hC : Cx x f "AnswersFirstModel" cX8_lose 2 { frames := 2, cells := 0, slots := 0, locals := 42 } := hC
  show GG x f 2 (Qm x f φIM) 0 [(0, .ref (x.1 37)), (1, .int a1)] [] M _
  unfold sX8_lose
  refine g_iload_n hC 1 dX8_lose_0 rfl rfl ?_
  refine g_calls hC (st := []) (ctX8_isSheet x F a1 M) msX8_isSheet m_1057 (by decide) rfl rfl (Nat.le_of_ble_eq_true rfl) dX8_lose_1 (fun r1 => ?_)
  show GG x f 2 (Qm x f φIM) 4 [(0, .ref (x.1 37)), (1, .int a1)] [.int (bi r1)] M _
  refine g_ifB_ne hC 10 dX8_lose_4 (by decide) ?_ ?_
  · refine g_aload_n hC 0 dX8_lose_10 rfl rfl ?_
    refine g_getR hC cf8 (t := 49) rfl 17 (by decide) rfl m_926 dX8_lose_11 ?_
    refine g_iload_n hC 1 dX8_lose_14 rfl rfl ?_
    refine g_zald hC rfl rfl dX8_lose_15 ?_
    refine g_if_ne hC 25 dX8_lose_16 (by decide) ?_ ?_
    · refine g_aload_n hC 0 dX8_lose_25 rfl rfl ?_
      refine g_getR hC cf8 (t := 49) rfl 17 (by decide) rfl m_926 dX8_lose_26 ?_
      refine g_iload_n hC 1 dX8_lose_29 rfl rfl ?_
      refine g_iconst hC (v := (0 : Int32)) dX8_lose_30 (by decide) ?_
      refine g_zast hC rfl rfl rfl dX8_lose_31 (fun M2 => ?_)
      show GG x f 2 (Qm x f φIM) 32 [(0, .ref (x.1 37)), (1, .int a1)] [] M2 _
      refine g_aload_n hC 0 dX8_lose_32 rfl rfl ?_
      refine g_getR hC cf8 (t := 51) rfl 19 (by decide) rfl m_928 dX8_lose_33 ?_
      refine g_iload_n hC 1 dX8_lose_36 rfl rfl ?_
      refine g_iald hC rfl rfl dX8_lose_37 ?_
      exact g_iret hC hm rfl dX8_lose_38
    · refine g_aload_n hC 0 dX8_lose_19 rfl rfl ?_
      refine g_iconst hC (v := (1 : Int32)) dX8_lose_20 (by decide) ?_
      refine g_callv hC (st := []) (c := 8) rfl (by decide) rfl (ctX8_meets x F (1 : Int32) M) mvX8_meets m_1060 (by decide) rfl rfl (Nat.le_of_ble_eq_true rfl) dX8_lose_21 (fun r3 => ?_)
      show GG x f 2 (Qm x f φIM) 24 [(0, .ref (x.1 37)), (1, .int a1)] [.int (r3.1)] r3.2 _
      exact g_iret hC hm rfl dX8_lose_24
  · refine g_bipush hC (v := (-2 : Int32)) dX8_lose_7 (by decide) ?_
    exact g_iret hC hm rfl dX8_lose_9
def sX8_lacks (F : Nat) (a1 : Int32) (a2 : Int32) (a3 : Int32) (M : Mem) : Option Int32 :=
ib a1 4 (
if ¬ (M 49 (ix a1)) = 0 then
(ib a1 4 (
if (M 50 (ix a1)) = a2 then
(ib a1 4 (
(sX8_in F a3 (0 : Int32) ((M 51 (ix a1)) - (1 : Int32)) M).bind (fun r1 =>
if r1 = true then
(some (0 : Int32))
else
(some (2 : Int32)))))
else
(some (3 : Int32))))
else
(some (1 : Int32)))
theorem mvX8_lacks : MV yX8_lacks cX8_lacks 4 (some .int) 3 := ⟨⟨m_1304, m_76, by decide, by decide, by decide⟩, m_1303, m_63⟩
set_option maxHeartbeats 4000000 in
set_option maxRecDepth 100000 in
theorem ctX8_lacks (x : Wx) (F : Nat) (a1 : Int32) (a2 : Int32) (a3 : Int32) (M : Mem) : Ct x yX8_lacks cX8_lacks 4 (some .int) { frames := 1, cells := 0, slots := 0, locals := 22 } (φI M) [.ref (x.1 37), .int a1, .int a2, .int a3] M (sX8_lacks F a1 a2 a3 M) := by
  refine ct_of (by decide) (Nat.le_of_ble_eq_true rfl) (fun f hC hm => ?_)
  have hC : Cx x f "AnswersFirstModel" cX8_lacks 4 { frames := 1, cells := 0, slots := 0, locals := 22 } := hC
  show GG x f 4 (Qm x f (φI M)) 0 [(0, .ref (x.1 37)), (1, .int a1), (2, .int a2), (3, .int a3)] [] M _
  unfold sX8_lacks
  refine g_aload_n hC 0 dX8_lacks_0 rfl rfl ?_
  refine g_getR hC cf8 (t := 49) rfl 17 (by decide) rfl m_926 dX8_lacks_1 ?_
  refine g_iload_n hC 1 dX8_lacks_4 rfl rfl ?_
  refine g_zald hC rfl rfl dX8_lacks_5 ?_
  refine g_if_ne hC 13 dX8_lacks_6 (by decide) ?_ ?_
  · refine g_aload_n hC 0 dX8_lacks_13 rfl rfl ?_
    refine g_getR hC cf8 (t := 50) rfl 18 (by decide) rfl m_927 dX8_lacks_14 ?_
    refine g_iload_n hC 1 dX8_lacks_17 rfl rfl ?_
    refine g_iald hC rfl rfl dX8_lacks_18 ?_
    refine g_iload_n hC 2 dX8_lacks_19 rfl rfl ?_
    refine g_icmp_eq hC 27 dX8_lacks_20 (by decide) ?_ ?_
    · refine g_iload_n hC 3 dX8_lacks_27 rfl rfl ?_
      refine g_iconst hC (v := (0 : Int32)) dX8_lacks_28 (by decide) ?_
      refine g_aload_n hC 0 dX8_lacks_29 rfl rfl ?_
      refine g_getR hC cf8 (t := 51) rfl 19 (by decide) rfl m_928 dX8_lacks_30 ?_
      refine g_iload_n hC 1 dX8_lacks_33 rfl rfl ?_
      refine g_iald hC rfl rfl dX8_lacks_34 ?_
      refine g_iconst hC (v := (1 : Int32)) dX8_lacks_35 (by decide) ?_
      refine g_isub hC dX8_lacks_36 ?_
      refine g_calls hC (st := []) (ctX8_in x F a3 (0 : Int32) ((M 51 (ix a1)) - (1 : Int32)) M) msX8_in m_987 (by decide) rfl rfl (Nat.le_of_ble_eq_true rfl) dX8_lacks_37 (fun r1 => ?_)
      show GG x f 4 (Qm x f (φI M)) 40 [(0, .ref (x.1 37)), (1, .int a1), (2, .int a2), (3, .int a3)] [.int (bi r1)] M _
      refine g_ifB_eq hC 47 dX8_lacks_40 (by decide) ?_ ?_
      · refine g_iconst hC (v := (0 : Int32)) dX8_lacks_43 (by decide) ?_
        refine g_goto hC 48 dX8_lacks_44 (by decide) ?_
        exact g_iret hC hm rfl dX8_lacks_48
      · refine g_iconst hC (v := (2 : Int32)) dX8_lacks_47 (by decide) ?_
        exact g_iret hC hm rfl dX8_lacks_48
    · refine g_iconst hC (v := (3 : Int32)) dX8_lacks_23 (by decide) ?_
      refine g_goto hC 48 dX8_lacks_24 (by decide) ?_
      exact g_iret hC hm rfl dX8_lacks_48
  · refine g_iconst hC (v := (1 : Int32)) dX8_lacks_9 (by decide) ?_
    refine g_goto hC 48 dX8_lacks_10 (by decide) ?_
    exact g_iret hC hm rfl dX8_lacks_48
def sX8_keep (F : Nat) (a1 : Int32) (a2 : Int32) (a3 : Int32) (M : Mem) : Option Mem :=
ib a1 4 (
nm (fun (q1 : Int32) =>
ib (((48 : Int32) * a1) + a2) 192 (
nm (st2 M 52 (ix (((48 : Int32) * a1) + a2)) q1) (fun M3 =>
some M3))) (fun J2 =>
if ¬ (M 50 (ix a1)) = 0 then
(ib a1 4 (
if ¬ (M 50 (ix a1)) = (1 : Int32) then
(J2 a3)
else
(J2 (a3.toInt16.toInt32))))
else
(J2 (a3.toInt8.toInt32))))
theorem mvX8_keep : MV yX8_keep cX8_keep 4 none 3 := ⟨⟨m_1308, m_76, by decide, by decide, by decide⟩, m_1307, m_64⟩
set_option maxHeartbeats 4000000 in
set_option maxRecDepth 100000 in
theorem ctX8_keep (x : Wx) (F : Nat) (a1 : Int32) (a2 : Int32) (a3 : Int32) (M : Mem) : Ct x yX8_keep cX8_keep 4 none { frames := 0, cells := 0, slots := 0, locals := 0 } φM [.ref (x.1 37), .int a1, .int a2, .int a3] M (sX8_keep F a1 a2 a3 M) := by
  refine ct_of (by decide) (Nat.le_of_ble_eq_true rfl) (fun f hC hm => ?_)
  have hC : Cx x f "AnswersFirstModel" cX8_keep 4 { frames := 0, cells := 0, slots := 0, locals := 0 } := hC
  show GG x f 4 (Qm x f φM) 0 [(0, .ref (x.1 37)), (1, .int a1), (2, .int a2), (3, .int a3)] [] M _
  unfold sX8_keep
  refine g_aload_n hC 0 dX8_keep_0 rfl rfl ?_
  refine g_getR hC cf8 (t := 52) rfl 20 (by decide) rfl m_929 dX8_keep_1 ?_
  refine g_bipush hC (v := (48 : Int32)) dX8_keep_4 (by decide) ?_
  refine g_iload_n hC 1 dX8_keep_6 rfl rfl ?_
  refine g_imul hC dX8_keep_7 ?_
  refine g_iload_n hC 2 dX8_keep_8 rfl rfl ?_
  refine g_iadd hC dX8_keep_9 ?_
  refine g_aload_n hC 0 dX8_keep_10 rfl rfl ?_
  refine g_getR hC cf8 (t := 50) rfl 18 (by decide) rfl m_927 dX8_keep_11 ?_
  refine g_iload_n hC 1 dX8_keep_14 rfl rfl ?_
  refine g_iald hC rfl rfl dX8_keep_15 ?_
  refine g_nm (fun (J2 : Int32 → Option Mem) => ∀ (q1 : Int32), GG x f 4 (Qm x f φM) 40 [] [.int q1, .int (((48 : Int32) * a1) + a2), .ref (x.1 52)] M (J2 q1)) (fun q1 => ?_) (fun J2 hJ2 => ?_)
  · show GG x f 4 (Qm x f φM) 40 [] [.int q1, .int (((48 : Int32) * a1) + a2), .ref (x.1 52)] M _
    refine g_iast hC rfl rfl dX8_keep_40 (fun M3 => ?_)
    show GG x f 4 (Qm x f φM) 41 [] [] M3 _
    exact g_vret hC hm rfl dX8_keep_41
  refine g_if_ne hC 24 dX8_keep_16 (by decide) ?_ ?_
  · refine g_aload_n hC 0 dX8_keep_24 rfl rfl ?_
    refine g_getR hC cf8 (t := 50) rfl 18 (by decide) rfl m_927 dX8_keep_25 ?_
    refine g_iload_n hC 1 dX8_keep_28 rfl rfl ?_
    refine g_iald hC rfl rfl dX8_keep_29 ?_
    refine g_iconst hC (v := (1 : Int32)) dX8_keep_30 (by decide) ?_
    refine g_icmp_ne hC 39 dX8_keep_31 (by decide) ?_ ?_
    · refine g_iload_n hC 3 dX8_keep_39 rfl rfl ?_
      refine g_lv (lv' := []) [] rfl ?_
      exact hJ2 a3
    · refine g_iload_n hC 3 dX8_keep_34 rfl rfl ?_
      refine g_i2s hC dX8_keep_35 ?_
      refine g_goto hC 40 dX8_keep_36 (by decide) ?_
      refine g_lv (lv' := []) [] rfl ?_
      exact hJ2 (a3.toInt16.toInt32)
  · refine g_iload_n hC 3 dX8_keep_19 rfl rfl ?_
    refine g_i2b hC dX8_keep_20 ?_
    refine g_goto hC 40 dX8_keep_21 (by decide) ?_
    refine g_lv (lv' := []) [] rfl ?_
    exact hJ2 (a3.toInt8.toInt32)
def sX8_put (F : Nat) (a1 : Int32) (a2 : Int32) (a3 : Int32) (a4 : Int32) (M : Mem) : Option (Int32 × Mem) :=
(sX8_isSheet F a1 M).bind (fun r1 =>
if r1 = true then
((sX8_in F a2 (0 : Int32) (2 : Int32) M).bind (fun r2 =>
if r2 = true then
((sX8_lacks F a1 a2 a3 M).bind (fun r3 =>
if r3 ≤ 0 then
((sX8_keep F a1 a3 a4 M).bind (fun r4 =>
some ((1 : Int32), r4)))
else
((sX8_meets F r3 M).bind (fun r5 =>
some (r5.1, r5.2)))))
else
(some ((-2 : Int32), M))))
else
(some ((-2 : Int32), M)))
theorem mvX8_put : MV yX8_put cX8_put 6 (some .int) 4 := ⟨⟨m_1300, m_76, by decide, by decide, by decide⟩, m_1298, m_1299⟩
set_option maxHeartbeats 4000000 in
set_option maxRecDepth 100000 in
theorem ctX8_put (x : Wx) (F : Nat) (a1 : Int32) (a2 : Int32) (a3 : Int32) (a4 : Int32) (M : Mem) : Ct x yX8_put cX8_put 6 (some .int) { frames := 2, cells := 0, slots := 0, locals := 45 } φIM [.ref (x.1 37), .int a1, .int a2, .int a3, .int a4] M (sX8_put F a1 a2 a3 a4 M) := by
  refine ct_of (by decide) (Nat.le_of_ble_eq_true rfl) (fun f hC hm => ?_)
  have hC : Cx x f "AnswersFirstModel" cX8_put 6 { frames := 2, cells := 0, slots := 0, locals := 45 } := hC
  show GG x f 6 (Qm x f φIM) 0 [(0, .ref (x.1 37)), (1, .int a1), (2, .int a2), (3, .int a3), (4, .int a4)] [] M _
  unfold sX8_put
  refine g_iload_n hC 1 dX8_put_0 rfl rfl ?_
  refine g_calls hC (st := []) (ctX8_isSheet x F a1 M) msX8_isSheet m_1057 (by decide) rfl rfl (Nat.le_of_ble_eq_true rfl) dX8_put_1 (fun r1 => ?_)
  show GG x f 6 (Qm x f φIM) 4 [(0, .ref (x.1 37)), (1, .int a1), (2, .int a2), (3, .int a3), (4, .int a4)] [.int (bi r1)] M _
  refine g_ifB_eq hC 16 dX8_put_4 (by decide) ?_ ?_
  · refine g_iload_n hC 2 dX8_put_7 rfl rfl ?_
    refine g_iconst hC (v := (0 : Int32)) dX8_put_8 (by decide) ?_
    refine g_iconst hC (v := (2 : Int32)) dX8_put_9 (by decide) ?_
    refine g_calls hC (st := []) (ctX8_in x F a2 (0 : Int32) (2 : Int32) M) msX8_in m_987 (by decide) rfl rfl (Nat.le_of_ble_eq_true rfl) dX8_put_10 (fun r2 => ?_)
    show GG x f 6 (Qm x f φIM) 13 [(0, .ref (x.1 37)), (1, .int a1), (2, .int a2), (3, .int a3), (4, .int a4)] [.int (bi r2)] M _
    refine g_ifB_ne hC 19 dX8_put_13 (by decide) ?_ ?_
    · refine g_aload_n hC 0 dX8_put_19 rfl rfl ?_
      refine g_iload_n hC 1 dX8_put_20 rfl rfl ?_
      refine g_iload_n hC 2 dX8_put_21 rfl rfl ?_
      refine g_iload_n hC 3 dX8_put_22 rfl rfl ?_
      refine g_callv hC (st := []) (c := 8) rfl (by decide) rfl (ctX8_lacks x F a1 a2 a3 M) mvX8_lacks m_1301 (by decide) rfl rfl (Nat.le_of_ble_eq_true rfl) dX8_put_23 (fun r3 => ?_)
      show GG x f 6 (Qm x f φIM) 26 [(0, .ref (x.1 37)), (1, .int a1), (2, .int a2), (3, .int a3), (4, .int a4)] [.int r3] M _
      refine g_istore hC (lv' := [(0, .ref (x.1 37)), (1, .int a1), (3, .int a3), (4, .int a4), (5, .int r3)]) [1, 2, 4, 5, 0] dX8_put_26 (by decide) rfl ?_
      refine g_iload hC 4 dX8_put_28 rfl ?_
      refine g_if_le hC 40 dX8_put_30 (by decide) ?_ ?_
      · refine g_aload_n hC 0 dX8_put_40 rfl rfl ?_
        refine g_iload_n hC 1 dX8_put_41 rfl rfl ?_
        refine g_iload_n hC 2 dX8_put_42 rfl rfl ?_
        refine g_iload hC 3 dX8_put_43 rfl ?_
        refine g_callv hC (st := []) (c := 8) rfl (by decide) rfl (ctX8_keep x F a1 a3 a4 M) mvX8_keep m_1305 (by decide) rfl rfl (Nat.le_of_ble_eq_true rfl) dX8_put_45 (fun r4 => ?_)
        show GG x f 6 (Qm x f φIM) 48 [(0, .ref (x.1 37)), (1, .int a1), (3, .int a3), (4, .int a4), (5, .int r3)] [] r4 _
        refine g_iconst hC (v := (1 : Int32)) dX8_put_48 (by decide) ?_
        exact g_iret hC hm rfl dX8_put_49
      · refine g_aload_n hC 0 dX8_put_33 rfl rfl ?_
        refine g_iload hC 4 dX8_put_34 rfl ?_
        refine g_callv hC (st := []) (c := 8) rfl (by decide) rfl (ctX8_meets x F r3 M) mvX8_meets m_1060 (by decide) rfl rfl (Nat.le_of_ble_eq_true rfl) dX8_put_36 (fun r5 => ?_)
        show GG x f 6 (Qm x f φIM) 39 [(0, .ref (x.1 37)), (1, .int a1), (3, .int a3), (4, .int a4), (5, .int r3)] [.int (r5.1)] r5.2 _
        exact g_iret hC hm rfl dX8_put_39
    · refine g_bipush hC (v := (-2 : Int32)) dX8_put_16 (by decide) ?_
      exact g_iret hC hm rfl dX8_put_18
  · refine g_bipush hC (v := (-2 : Int32)) dX8_put_16 (by decide) ?_
    exact g_iret hC hm rfl dX8_put_18
def sX8_get (F : Nat) (a1 : Int32) (a2 : Int32) (a3 : Int32) (M : Mem) : Option (Int32 × Mem) :=
(sX8_isSheet F a1 M).bind (fun r1 =>
if r1 = true then
((sX8_in F a2 (0 : Int32) (2 : Int32) M).bind (fun r2 =>
if r2 = true then
((sX8_lacks F a1 a2 a3 M).bind (fun r3 =>
if r3 ≤ 0 then
(ib (((48 : Int32) * a1) + a3) 192 (
some ((M 52 (ix (((48 : Int32) * a1) + a3))), M)))
else
(nm (st2 M 37 22 r3) (fun M4 =>
some ((-2147483648 : Int32), M4)))))
else
(some ((-2147483648 : Int32), M))))
else
(some ((-2147483648 : Int32), M)))
theorem mvX8_get : MV yX8_get cX8_get 5 (some .int) 3 := ⟨⟨m_1312, m_76, by decide, by decide, by decide⟩, m_1310, m_1311⟩
set_option maxHeartbeats 4000000 in
set_option maxRecDepth 100000 in
theorem ctX8_get (x : Wx) (F : Nat) (a1 : Int32) (a2 : Int32) (a3 : Int32) (M : Mem) : Ct x yX8_get cX8_get 5 (some .int) { frames := 2, cells := 0, slots := 0, locals := 45 } φIM [.ref (x.1 37), .int a1, .int a2, .int a3] M (sX8_get F a1 a2 a3 M) := by
  refine ct_of (by decide) (Nat.le_of_ble_eq_true rfl) (fun f hC hm => ?_)
  have hC : Cx x f "AnswersFirstModel" cX8_get 5 { frames := 2, cells := 0, slots := 0, locals := 45 } := hC
  show GG x f 5 (Qm x f φIM) 0 [(0, .ref (x.1 37)), (1, .int a1), (2, .int a2), (3, .int a3)] [] M _
  unfold sX8_get
  refine g_iload_n hC 1 dX8_get_0 rfl rfl ?_
  refine g_calls hC (st := []) (ctX8_isSheet x F a1 M) msX8_isSheet m_1057 (by decide) rfl rfl (Nat.le_of_ble_eq_true rfl) dX8_get_1 (fun r1 => ?_)
  show GG x f 5 (Qm x f φIM) 4 [(0, .ref (x.1 37)), (1, .int a1), (2, .int a2), (3, .int a3)] [.int (bi r1)] M _
  refine g_ifB_eq hC 16 dX8_get_4 (by decide) ?_ ?_
  · refine g_iload_n hC 2 dX8_get_7 rfl rfl ?_
    refine g_iconst hC (v := (0 : Int32)) dX8_get_8 (by decide) ?_
    refine g_iconst hC (v := (2 : Int32)) dX8_get_9 (by decide) ?_
    refine g_calls hC (st := []) (ctX8_in x F a2 (0 : Int32) (2 : Int32) M) msX8_in m_987 (by decide) rfl rfl (Nat.le_of_ble_eq_true rfl) dX8_get_10 (fun r2 => ?_)
    show GG x f 5 (Qm x f φIM) 13 [(0, .ref (x.1 37)), (1, .int a1), (2, .int a2), (3, .int a3)] [.int (bi r2)] M _
    refine g_ifB_ne hC 19 dX8_get_13 (by decide) ?_ ?_
    · refine g_aload_n hC 0 dX8_get_19 rfl rfl ?_
      refine g_iload_n hC 1 dX8_get_20 rfl rfl ?_
      refine g_iload_n hC 2 dX8_get_21 rfl rfl ?_
      refine g_iload_n hC 3 dX8_get_22 rfl rfl ?_
      refine g_callv hC (st := []) (c := 8) rfl (by decide) rfl (ctX8_lacks x F a1 a2 a3 M) mvX8_lacks m_1301 (by decide) rfl rfl (Nat.le_of_ble_eq_true rfl) dX8_get_23 (fun r3 => ?_)
      show GG x f 5 (Qm x f φIM) 26 [(0, .ref (x.1 37)), (1, .int a1), (2, .int a2), (3, .int a3)] [.int r3] M _
      refine g_istore hC (lv' := [(0, .ref (x.1 37)), (1, .int a1), (3, .int a3), (4, .int r3)]) [1, 2, 4, 0] dX8_get_26 (by decide) rfl ?_
      refine g_iload hC 3 dX8_get_28 rfl ?_
      refine g_if_le hC 42 dX8_get_30 (by decide) ?_ ?_
      · refine g_aload_n hC 0 dX8_get_42 rfl rfl ?_
        refine g_getR hC cf8 (t := 52) rfl 20 (by decide) rfl m_929 dX8_get_43 ?_
        refine g_bipush hC (v := (48 : Int32)) dX8_get_46 (by decide) ?_
        refine g_iload_n hC 1 dX8_get_48 rfl rfl ?_
        refine g_imul hC dX8_get_49 ?_
        refine g_iload_n hC 2 dX8_get_50 rfl rfl ?_
        refine g_iadd hC dX8_get_51 ?_
        refine g_iald hC rfl rfl dX8_get_52 ?_
        exact g_iret hC hm rfl dX8_get_53
      · refine g_aload_n hC 0 dX8_get_33 rfl rfl ?_
        refine g_iload hC 3 dX8_get_34 rfl ?_
        refine g_put hC cf8 rfl 22 (by decide) rfl m_931 rfl rfl rfl dX8_get_36 (fun M4 => ?_)
        show GG x f 5 (Qm x f φIM) 39 [(0, .ref (x.1 37)), (1, .int a1), (3, .int a3), (4, .int r3)] [] M4 _
        refine g_ldc hC (v := (-2147483648 : Int32)) m_1313 dX8_get_39 ?_
        exact g_iret hC hm rfl dX8_get_41
    · refine g_ldc hC (v := (-2147483648 : Int32)) m_1313 dX8_get_16 ?_
      exact g_iret hC hm rfl dX8_get_18
  · refine g_ldc hC (v := (-2147483648 : Int32)) m_1313 dX8_get_16 ?_
    exact g_iret hC hm rfl dX8_get_18
def sX8_copy_L157 (F : Nat) (a3 : Int32) (a4 : Int32) (a5 : Int32) (rec11 : Int32 → Mem → Option (Int32 × Mem)) (p9 : Int32) (M10 : Mem) : Option (Int32 × Mem) :=
if a5 ≤ p9 then
(some ((1 : Int32), M10))
else
(ib p9 48 (
ib ((((48 : Int32) * a3) + a4) + p9) 192 (
nm (st2 M10 52 (ix ((((48 : Int32) * a3) + a4) + p9)) (M10 53 (ix p9))) (fun M12 =>
rec11 (p9 + (1 : Int32)) M12))))
def sX8_copy_L120 (F : Nat) (a1 : Int32) (a2 : Int32) (a5 : Int32) (J8 : Mem → Option (Int32 × Mem)) (rec15 : Int32 → Mem → Option (Int32 × Mem)) (p13 : Int32) (M14 : Mem) : Option (Int32 × Mem) :=
if a5 ≤ p13 then
(J8 M14)
else
(ib ((((48 : Int32) * a1) + a2) + p13) 192 (
ib p13 48 (
nm (st2 M14 53 (ix p13) (M14 52 (ix ((((48 : Int32) * a1) + a2) + p13)))) (fun M16 =>
rec15 (p13 + (1 : Int32)) M16))))
def sX8_copy (F : Nat) (a1 : Int32) (a2 : Int32) (a3 : Int32) (a4 : Int32) (a5 : Int32) (M : Mem) : Option (Int32 × Mem) :=
(sX8_isSheet F a1 M).bind (fun r1 =>
if r1 = true then
((sX8_isSheet F a3 M).bind (fun r2 =>
if r2 = true then
(ib a1 4 (
nm ((sX8_meets F (1 : Int32) M).bind (fun r4 =>
some (r4.1, r4.2))) (fun J3 =>
if (M 49 (ix a1)) = 0 then
(J3)
else
(ib a3 4 (
if ¬ (M 49 (ix a3)) = 0 then
(ib a1 4 (
ib a3 4 (
if (M 50 (ix a1)) = (M 50 (ix a3)) then
(nm ((sX8_meets F (2 : Int32) M).bind (fun r6 =>
some (r6.1, r6.2))) (fun J5 =>
if a2 < 0 then
(J5)
else
(if a4 < 0 then
(J5)
else
(if a5 < 0 then
(J5)
else
(ib a1 4 (
if ((M 51 (ix a1)).toInt64) < ((a2.toInt64) + (a5.toInt64)) then
(J5)
else
(ib a3 4 (
if ((a4.toInt64) + (a5.toInt64)) ≤ ((M 51 (ix a3)).toInt64) then
(nm (fun (M7 : Mem) =>
fx2 F (sX8_copy_L157 F a3 a4 a5) (0 : Int32) M7) (fun J8 =>
fx2 F (sX8_copy_L120 F a1 a2 a5 J8) (0 : Int32) M))
else
(J5)))))))))
else
((sX8_meets F (4 : Int32) M).bind (fun r17 =>
some (r17.1, r17.2))))))
else
(J3))))))
else
(some ((-2 : Int32), M))))
else
(some ((-2 : Int32), M)))
theorem mvX8_copy : MV yX8_copy cX8_copy 7 (some .int) 5 := ⟨⟨m_1317, m_76, by decide, by decide, by decide⟩, m_1315, m_1316⟩
set_option maxHeartbeats 4000000 in
set_option maxRecDepth 100000 in
theorem ctX8_copy (x : Wx) (F : Nat) (a1 : Int32) (a2 : Int32) (a3 : Int32) (a4 : Int32) (a5 : Int32) (M : Mem) : Ct x yX8_copy cX8_copy 7 (some .int) { frames := 2, cells := 0, slots := 0, locals := 42 } φIM [.ref (x.1 37), .int a1, .int a2, .int a3, .int a4, .int a5] M (sX8_copy F a1 a2 a3 a4 a5 M) := by
  refine ct_of (by decide) (Nat.le_of_ble_eq_true rfl) (fun f hC hm => ?_)
  have hC : Cx x f "AnswersFirstModel" cX8_copy 7 { frames := 2, cells := 0, slots := 0, locals := 42 } := hC
  show GG x f 7 (Qm x f φIM) 0 [(0, .ref (x.1 37)), (1, .int a1), (2, .int a2), (3, .int a3), (4, .int a4), (5, .int a5)] [] M _
  unfold sX8_copy
  refine g_iload_n hC 1 dX8_copy_0 rfl rfl ?_
  refine g_calls hC (st := []) (ctX8_isSheet x F a1 M) msX8_isSheet m_1057 (by decide) rfl rfl (Nat.le_of_ble_eq_true rfl) dX8_copy_1 (fun r1 => ?_)
  show GG x f 7 (Qm x f φIM) 4 [(0, .ref (x.1 37)), (1, .int a1), (2, .int a2), (3, .int a3), (4, .int a4), (5, .int a5)] [.int (bi r1)] M _
  refine g_ifB_eq hC 14 dX8_copy_4 (by decide) ?_ ?_
  · refine g_iload_n hC 3 dX8_copy_7 rfl rfl ?_
    refine g_calls hC (st := []) (ctX8_isSheet x F a3 M) msX8_isSheet m_1057 (by decide) rfl rfl (Nat.le_of_ble_eq_true rfl) dX8_copy_8 (fun r2 => ?_)
    show GG x f 7 (Qm x f φIM) 11 [(0, .ref (x.1 37)), (1, .int a1), (2, .int a2), (3, .int a3), (4, .int a4), (5, .int a5)] [.int (bi r2)] M _
    refine g_ifB_ne hC 17 dX8_copy_11 (by decide) ?_ ?_
    · refine g_aload_n hC 0 dX8_copy_17 rfl rfl ?_
      refine g_getR hC cf8 (t := 49) rfl 17 (by decide) rfl m_926 dX8_copy_18 ?_
      refine g_iload_n hC 1 dX8_copy_21 rfl rfl ?_
      refine g_zald hC rfl rfl dX8_copy_22 ?_
      refine g_nm (fun (J3 : Option (Int32 × Mem)) => GG x f 7 (Qm x f φIM) 35 [(0, .ref (x.1 37))] [] M J3) ?_ (fun J3 hJ3 => ?_)
      · show GG x f 7 (Qm x f φIM) 35 [(0, .ref (x.1 37))] [] M _
        refine g_aload_n hC 0 dX8_copy_35 rfl rfl ?_
        refine g_iconst hC (v := (1 : Int32)) dX8_copy_36 (by decide) ?_
        refine g_callv hC (st := []) (c := 8) rfl (by decide) rfl (ctX8_meets x F (1 : Int32) M) mvX8_meets m_1060 (by decide) rfl rfl (Nat.le_of_ble_eq_true rfl) dX8_copy_37 (fun r4 => ?_)
        show GG x f 7 (Qm x f φIM) 40 [(0, .ref (x.1 37))] [.int (r4.1)] r4.2 _
        exact g_iret hC hm rfl dX8_copy_40
      refine g_if_eq hC 35 dX8_copy_23 (by decide) ?_ ?_
      · refine g_lv (lv' := [(0, .ref (x.1 37))]) [0] rfl ?_
        exact hJ3
      · refine g_aload_n hC 0 dX8_copy_26 rfl rfl ?_
        refine g_getR hC cf8 (t := 49) rfl 17 (by decide) rfl m_926 dX8_copy_27 ?_
        refine g_iload_n hC 3 dX8_copy_30 rfl rfl ?_
        refine g_zald hC rfl rfl dX8_copy_31 ?_
        refine g_if_ne hC 41 dX8_copy_32 (by decide) ?_ ?_
        · refine g_aload_n hC 0 dX8_copy_41 rfl rfl ?_
          refine g_getR hC cf8 (t := 50) rfl 18 (by decide) rfl m_927 dX8_copy_42 ?_
          refine g_iload_n hC 1 dX8_copy_45 rfl rfl ?_
          refine g_iald hC rfl rfl dX8_copy_46 ?_
          refine g_aload_n hC 0 dX8_copy_47 rfl rfl ?_
          refine g_getR hC cf8 (t := 50) rfl 18 (by decide) rfl m_927 dX8_copy_48 ?_
          refine g_iload_n hC 3 dX8_copy_51 rfl rfl ?_
          refine g_iald hC rfl rfl dX8_copy_52 ?_
          refine g_icmp_eq hC 62 dX8_copy_53 (by decide) ?_ ?_
          · refine g_iload_n hC 2 dX8_copy_62 rfl rfl ?_
            refine g_nm (fun (J5 : Option (Int32 × Mem)) => GG x f 7 (Qm x f φIM) 111 [(0, .ref (x.1 37))] [] M J5) ?_ (fun J5 hJ5 => ?_)
            · show GG x f 7 (Qm x f φIM) 111 [(0, .ref (x.1 37))] [] M _
              refine g_aload_n hC 0 dX8_copy_111 rfl rfl ?_
              refine g_iconst hC (v := (2 : Int32)) dX8_copy_112 (by decide) ?_
              refine g_callv hC (st := []) (c := 8) rfl (by decide) rfl (ctX8_meets x F (2 : Int32) M) mvX8_meets m_1060 (by decide) rfl rfl (Nat.le_of_ble_eq_true rfl) dX8_copy_113 (fun r6 => ?_)
              show GG x f 7 (Qm x f φIM) 116 [(0, .ref (x.1 37))] [.int (r6.1)] r6.2 _
              exact g_iret hC hm rfl dX8_copy_116
            refine g_if_lt hC 111 dX8_copy_63 (by decide) ?_ ?_
            · refine g_lv (lv' := [(0, .ref (x.1 37))]) [0] rfl ?_
              exact hJ5
            · refine g_iload hC 4 dX8_copy_66 rfl ?_
              refine g_if_lt hC 111 dX8_copy_68 (by decide) ?_ ?_
              · refine g_lv (lv' := [(0, .ref (x.1 37))]) [0] rfl ?_
                exact hJ5
              · refine g_iload hC 5 dX8_copy_71 rfl ?_
                refine g_if_lt hC 111 dX8_copy_73 (by decide) ?_ ?_
                · refine g_lv (lv' := [(0, .ref (x.1 37))]) [0] rfl ?_
                  exact hJ5
                · refine g_iload_n hC 2 dX8_copy_76 rfl rfl ?_
                  refine g_i2l hC dX8_copy_77 ?_
                  refine g_iload hC 5 dX8_copy_78 rfl ?_
                  refine g_i2l hC dX8_copy_80 ?_
                  refine g_ladd hC dX8_copy_81 ?_
                  refine g_aload_n hC 0 dX8_copy_82 rfl rfl ?_
                  refine g_getR hC cf8 (t := 51) rfl 19 (by decide) rfl m_928 dX8_copy_83 ?_
                  refine g_iload_n hC 1 dX8_copy_86 rfl rfl ?_
                  refine g_iald hC rfl rfl dX8_copy_87 ?_
                  refine g_i2l hC dX8_copy_88 ?_
                  refine g_lcmp_gt hC 111 dX8_copy_89 dX8_copy_90 (by decide) ?_ ?_
                  · refine g_lv (lv' := [(0, .ref (x.1 37))]) [0] rfl ?_
                    exact hJ5
                  · refine g_iload hC 4 dX8_copy_93 rfl ?_
                    refine g_i2l hC dX8_copy_95 ?_
                    refine g_iload hC 5 dX8_copy_96 rfl ?_
                    refine g_i2l hC dX8_copy_98 ?_
                    refine g_ladd hC dX8_copy_99 ?_
                    refine g_aload_n hC 0 dX8_copy_100 rfl rfl ?_
                    refine g_getR hC cf8 (t := 51) rfl 19 (by decide) rfl m_928 dX8_copy_101 ?_
                    refine g_iload_n hC 3 dX8_copy_104 rfl rfl ?_
                    refine g_iald hC rfl rfl dX8_copy_105 ?_
                    refine g_i2l hC dX8_copy_106 ?_
                    refine g_lcmp_le hC 117 dX8_copy_107 dX8_copy_108 (by decide) ?_ ?_
                    · refine g_iconst hC (v := (0 : Int32)) dX8_copy_117 (by decide) ?_
                      refine g_istore hC (lv' := [(0, .ref (x.1 37)), (1, .int a1), (2, .int a2), (3, .int a3), (4, .int a4), (5, .int a5), (6, .int (0 : Int32))]) [1, 2, 3, 4, 5, 6, 0] dX8_copy_118 (by decide) rfl ?_
                      refine g_nm (fun (J8 : Mem → Option (Int32 × Mem)) => ∀ (M7 : Mem), GG x f 7 (Qm x f φIM) 154 [(0, .ref (x.1 37)), (3, .int a3), (4, .int a4), (5, .int a5)] [] M7 (J8 M7)) (fun M7 => ?_) (fun J8 hJ8 => ?_)
                      · show GG x f 7 (Qm x f φIM) 154 [(0, .ref (x.1 37)), (3, .int a3), (4, .int a4), (5, .int a5)] [] M7 _
                        refine g_iconst hC (v := (0 : Int32)) dX8_copy_154 (by decide) ?_
                        refine g_istore hC (lv' := [(0, .ref (x.1 37)), (3, .int a3), (4, .int a4), (5, .int a5), (6, .int (0 : Int32))]) [1, 2, 3, 4, 0] dX8_copy_155 (by decide) rfl ?_
                        refine g_fx2 (fun (p9 : Int32) (M10 : Mem) => [(0, .ref (x.1 37)), (3, .int a3), (4, .int a4), (5, .int a5), (6, .int p9)]) (fun (p9 : Int32) (M10 : Mem) => M10) (fun rec11 hrec11 p9 M10 => ?_) F _ _
                        show GG x f 7 (Qm x f φIM) 157 [(0, .ref (x.1 37)), (3, .int a3), (4, .int a4), (5, .int a5), (6, .int p9)] [] M10 _
                        unfold sX8_copy_L157
                        refine g_iload hC 4 dX8_copy_157 rfl ?_
                        refine g_iload hC 3 dX8_copy_159 rfl ?_
                        refine g_icmp_ge hC 192 dX8_copy_161 (by decide) ?_ ?_
                        · refine g_iconst hC (v := (1 : Int32)) dX8_copy_192 (by decide) ?_
                          exact g_iret hC hm rfl dX8_copy_193
                        · refine g_aload_n hC 0 dX8_copy_164 rfl rfl ?_
                          refine g_getR hC cf8 (t := 52) rfl 20 (by decide) rfl m_929 dX8_copy_165 ?_
                          refine g_bipush hC (v := (48 : Int32)) dX8_copy_168 (by decide) ?_
                          refine g_iload_n hC 1 dX8_copy_170 rfl rfl ?_
                          refine g_imul hC dX8_copy_171 ?_
                          refine g_iload hC 2 dX8_copy_172 rfl ?_
                          refine g_iadd hC dX8_copy_174 ?_
                          refine g_iload hC 4 dX8_copy_175 rfl ?_
                          refine g_iadd hC dX8_copy_177 ?_
                          refine g_aload_n hC 0 dX8_copy_178 rfl rfl ?_
                          refine g_getR hC cf8 (t := 53) rfl 21 (by decide) rfl m_930 dX8_copy_179 ?_
                          refine g_iload hC 4 dX8_copy_182 rfl ?_
                          refine g_iald hC rfl rfl dX8_copy_184 ?_
                          refine g_iast hC rfl rfl dX8_copy_185 (fun M12 => ?_)
                          show GG x f 7 (Qm x f φIM) 186 [(0, .ref (x.1 37)), (3, .int a3), (4, .int a4), (5, .int a5), (6, .int p9)] [] M12 _
                          refine g_iinc hC (q := 4) (v := (1 : Int32)) (lv' := [(0, .ref (x.1 37)), (3, .int a3), (4, .int a4), (5, .int a5), (6, .int (p9 + (1 : Int32)))]) [1, 2, 3, 4, 0] dX8_copy_186 rfl (by decide) (by decide) rfl ?_
                          refine g_goto hC 157 dX8_copy_189 (by decide) ?_
                          exact hrec11 (p9 + (1 : Int32)) M12
                      refine g_fx2 (fun (p13 : Int32) (M14 : Mem) => [(0, .ref (x.1 37)), (1, .int a1), (2, .int a2), (3, .int a3), (4, .int a4), (5, .int a5), (6, .int p13)]) (fun (p13 : Int32) (M14 : Mem) => M14) (fun rec15 hrec15 p13 M14 => ?_) F _ _
                      show GG x f 7 (Qm x f φIM) 120 [(0, .ref (x.1 37)), (1, .int a1), (2, .int a2), (3, .int a3), (4, .int a4), (5, .int a5), (6, .int p13)] [] M14 _
                      unfold sX8_copy_L120
                      refine g_iload hC 6 dX8_copy_120 rfl ?_
                      refine g_iload hC 5 dX8_copy_122 rfl ?_
                      refine g_icmp_ge hC 154 dX8_copy_124 (by decide) ?_ ?_
                      · refine g_lv (lv' := [(0, .ref (x.1 37)), (3, .int a3), (4, .int a4), (5, .int a5)]) [0, 3, 4, 5] rfl ?_
                        exact hJ8 M14
                      · refine g_aload_n hC 0 dX8_copy_127 rfl rfl ?_
                        refine g_getR hC cf8 (t := 53) rfl 21 (by decide) rfl m_930 dX8_copy_128 ?_
                        refine g_iload hC 6 dX8_copy_131 rfl ?_
                        refine g_aload_n hC 0 dX8_copy_133 rfl rfl ?_
                        refine g_getR hC cf8 (t := 52) rfl 20 (by decide) rfl m_929 dX8_copy_134 ?_
                        refine g_bipush hC (v := (48 : Int32)) dX8_copy_137 (by decide) ?_
                        refine g_iload_n hC 1 dX8_copy_139 rfl rfl ?_
                        refine g_imul hC dX8_copy_140 ?_
                        refine g_iload_n hC 2 dX8_copy_141 rfl rfl ?_
                        refine g_iadd hC dX8_copy_142 ?_
                        refine g_iload hC 6 dX8_copy_143 rfl ?_
                        refine g_iadd hC dX8_copy_145 ?_
                        refine g_iald hC rfl rfl dX8_copy_146 ?_
                        refine g_iast hC rfl rfl dX8_copy_147 (fun M16 => ?_)
                        show GG x f 7 (Qm x f φIM) 148 [(0, .ref (x.1 37)), (1, .int a1), (2, .int a2), (3, .int a3), (4, .int a4), (5, .int a5), (6, .int p13)] [] M16 _
                        refine g_iinc hC (q := 6) (v := (1 : Int32)) (lv' := [(0, .ref (x.1 37)), (1, .int a1), (2, .int a2), (3, .int a3), (4, .int a4), (5, .int a5), (6, .int (p13 + (1 : Int32)))]) [1, 2, 3, 4, 5, 6, 0] dX8_copy_148 rfl (by decide) (by decide) rfl ?_
                        refine g_goto hC 120 dX8_copy_151 (by decide) ?_
                        exact hrec15 (p13 + (1 : Int32)) M16
                    · refine g_lv (lv' := [(0, .ref (x.1 37))]) [0] rfl ?_
                      exact hJ5
          · refine g_aload_n hC 0 dX8_copy_56 rfl rfl ?_
            refine g_iconst hC (v := (4 : Int32)) dX8_copy_57 (by decide) ?_
            refine g_callv hC (st := []) (c := 8) rfl (by decide) rfl (ctX8_meets x F (4 : Int32) M) mvX8_meets m_1060 (by decide) rfl rfl (Nat.le_of_ble_eq_true rfl) dX8_copy_58 (fun r17 => ?_)
            show GG x f 7 (Qm x f φIM) 61 [(0, .ref (x.1 37)), (1, .int a1), (2, .int a2), (3, .int a3), (4, .int a4), (5, .int a5)] [.int (r17.1)] r17.2 _
            exact g_iret hC hm rfl dX8_copy_61
        · refine g_lv (lv' := [(0, .ref (x.1 37))]) [0] rfl ?_
          exact hJ3
    · refine g_bipush hC (v := (-2 : Int32)) dX8_copy_14 (by decide) ?_
      exact g_iret hC hm rfl dX8_copy_16
  · refine g_bipush hC (v := (-2 : Int32)) dX8_copy_14 (by decide) ?_
    exact g_iret hC hm rfl dX8_copy_16
def sX8_write_L35 (F : Nat) (a1 : Int32) (r2 : (Int32 × Mem)) (rec6 : Int32 → Int32 → Mem → Option (Int32 × Mem)) (p3 : Int32) (p4 : Int32) (M5 : Mem) : Option (Int32 × Mem) :=
if r2.1 < p4 then
(some (p3, M5))
else
(ib a1 4 (
if (M5 51 (ix a1)) ≤ p3 then
(some (p3, M5))
else
((sX8_brokenBy F p4 (M5 37 9) M5).bind (fun r7 =>
nm (fun (p8 : Int32) (M9 : Mem) =>
rec6 p8 (p4 + (1 : Int32)) M9) (fun J10 =>
if ¬ r7 = 0 then
(J10 p3 M5)
else
((sX8_keep F a1 p3 p4 M5).bind (fun r11 =>
J10 (p3 + (1 : Int32)) r11)))))))
def sX8_write (F : Nat) (a1 : Int32) (M : Mem) : Option (Int32 × Mem) :=
(sX8_isSheet F a1 M).bind (fun r1 =>
if r1 = true then
(ib a1 4 (
if ¬ (M 49 (ix a1)) = 0 then
((sX8_there F M).bind (fun r2 =>
fx3 F (sX8_write_L35 F a1 r2) (0 : Int32) (0 : Int32) r2.2))
else
((sX8_meets F (1 : Int32) M).bind (fun r12 =>
some (r12.1, r12.2)))))
else
(some ((-2 : Int32), M)))
theorem mvX8_write : MV yX8_write cX8_write 5 (some .int) 1 := ⟨⟨m_1321, m_76, by decide, by decide, by decide⟩, m_1319, m_1320⟩
set_option maxHeartbeats 4000000 in
set_option maxRecDepth 100000 in
theorem ctX8_write (x : Wx) (F : Nat) (a1 : Int32) (M : Mem) : Ct x yX8_write cX8_write 5 (some .int) { frames := 7, cells := 0, slots := 0, locals := 164 } φIM [.ref (x.1 37), .int a1] M (sX8_write F a1 M) := by
  refine ct_of (by decide) (Nat.le_of_ble_eq_true rfl) (fun f hC hm => ?_)
  have hC : Cx x f "AnswersFirstModel" cX8_write 5 { frames := 7, cells := 0, slots := 0, locals := 164 } := hC
  show GG x f 5 (Qm x f φIM) 0 [(0, .ref (x.1 37)), (1, .int a1)] [] M _
  unfold sX8_write
  refine g_iload_n hC 1 dX8_write_0 rfl rfl ?_
  refine g_calls hC (st := []) (ctX8_isSheet x F a1 M) msX8_isSheet m_1057 (by decide) rfl rfl (Nat.le_of_ble_eq_true rfl) dX8_write_1 (fun r1 => ?_)
  show GG x f 5 (Qm x f φIM) 4 [(0, .ref (x.1 37)), (1, .int a1)] [.int (bi r1)] M _
  refine g_ifB_ne hC 10 dX8_write_4 (by decide) ?_ ?_
  · refine g_aload_n hC 0 dX8_write_10 rfl rfl ?_
    refine g_getR hC cf8 (t := 49) rfl 17 (by decide) rfl m_926 dX8_write_11 ?_
    refine g_iload_n hC 1 dX8_write_14 rfl rfl ?_
    refine g_zald hC rfl rfl dX8_write_15 ?_
    refine g_if_ne hC 25 dX8_write_16 (by decide) ?_ ?_
    · refine g_aload_n hC 0 dX8_write_25 rfl rfl ?_
      refine g_callv hC (st := []) (c := 8) rfl (by decide) rfl (ctX8_there x F M) mvX8_there m_1079 (by decide) rfl rfl (Nat.le_of_ble_eq_true rfl) dX8_write_26 (fun r2 => ?_)
      show GG x f 5 (Qm x f φIM) 29 [(0, .ref (x.1 37)), (1, .int a1)] [.int (r2.1)] r2.2 _
      refine g_istore_n hC (lv' := [(0, .ref (x.1 37)), (1, .int a1), (2, .int (r2.1))]) [1, 2, 0] dX8_write_29 rfl (by decide) rfl ?_
      refine g_iconst hC (v := (0 : Int32)) dX8_write_30 (by decide) ?_
      refine g_istore_n hC (lv' := [(0, .ref (x.1 37)), (1, .int a1), (2, .int (r2.1)), (3, .int (0 : Int32))]) [1, 2, 3, 0] dX8_write_31 rfl (by decide) rfl ?_
      refine g_iconst hC (v := (0 : Int32)) dX8_write_32 (by decide) ?_
      refine g_istore hC (lv' := [(0, .ref (x.1 37)), (1, .int a1), (2, .int (r2.1)), (3, .int (0 : Int32)), (4, .int (0 : Int32))]) [1, 2, 3, 4, 0] dX8_write_33 (by decide) rfl ?_
      refine g_fx3 (fun (p3 : Int32) (p4 : Int32) (M5 : Mem) => [(0, .ref (x.1 37)), (1, .int a1), (2, .int (r2.1)), (3, .int p3), (4, .int p4)]) (fun (p3 : Int32) (p4 : Int32) (M5 : Mem) => M5) (fun rec6 hrec6 p3 p4 M5 => ?_) F _ _ _
      show GG x f 5 (Qm x f φIM) 35 [(0, .ref (x.1 37)), (1, .int a1), (2, .int (r2.1)), (3, .int p3), (4, .int p4)] [] M5 _
      unfold sX8_write_L35
      refine g_iload hC 4 dX8_write_35 rfl ?_
      refine g_iload_n hC 2 dX8_write_37 rfl rfl ?_
      refine g_icmp_gt hC 81 dX8_write_38 (by decide) ?_ ?_
      · refine g_iload_n hC 3 dX8_write_81 rfl rfl ?_
        exact g_iret hC hm rfl dX8_write_82
      · refine g_iload_n hC 3 dX8_write_41 rfl rfl ?_
        refine g_aload_n hC 0 dX8_write_42 rfl rfl ?_
        refine g_getR hC cf8 (t := 51) rfl 19 (by decide) rfl m_928 dX8_write_43 ?_
        refine g_iload_n hC 1 dX8_write_46 rfl rfl ?_
        refine g_iald hC rfl rfl dX8_write_47 ?_
        refine g_icmp_ge hC 81 dX8_write_48 (by decide) ?_ ?_
        · refine g_iload_n hC 3 dX8_write_81 rfl rfl ?_
          exact g_iret hC hm rfl dX8_write_82
        · refine g_aload_n hC 0 dX8_write_51 rfl rfl ?_
          refine g_iload hC 4 dX8_write_52 rfl ?_
          refine g_aload_n hC 0 dX8_write_54 rfl rfl ?_
          refine g_getI hC cf8 rfl 9 (by decide) rfl m_918 dX8_write_55 ?_
          refine g_callv hC (st := []) (c := 8) rfl (by decide) rfl (ctX8_brokenBy x F p4 (M5 37 9) M5) mvX8_brokenBy m_1083 (by decide) rfl rfl (Nat.le_of_ble_eq_true rfl) dX8_write_58 (fun r7 => ?_)
          show GG x f 5 (Qm x f φIM) 61 [(0, .ref (x.1 37)), (1, .int a1), (2, .int (r2.1)), (3, .int p3), (4, .int p4)] [.int r7] M5 _
          refine g_nm (fun (J10 : Int32 → Mem → Option (Int32 × Mem)) => ∀ (p8 : Int32) (M9 : Mem), GG x f 5 (Qm x f φIM) 75 [(0, .ref (x.1 37)), (1, .int a1), (2, .int (r2.1)), (3, .int p8), (4, .int p4)] [] M9 (J10 p8 M9)) (fun p8 M9 => ?_) (fun J10 hJ10 => ?_)
          · show GG x f 5 (Qm x f φIM) 75 [(0, .ref (x.1 37)), (1, .int a1), (2, .int (r2.1)), (3, .int p8), (4, .int p4)] [] M9 _
            refine g_iinc hC (q := 4) (v := (1 : Int32)) (lv' := [(0, .ref (x.1 37)), (1, .int a1), (2, .int (r2.1)), (3, .int p8), (4, .int (p4 + (1 : Int32)))]) [1, 2, 3, 4, 0] dX8_write_75 rfl (by decide) (by decide) rfl ?_
            refine g_goto hC 35 dX8_write_78 (by decide) ?_
            exact hrec6 p8 (p4 + (1 : Int32)) M9
          refine g_if_ne hC 75 dX8_write_61 (by decide) ?_ ?_
          · exact hJ10 p3 M5
          · refine g_aload_n hC 0 dX8_write_64 rfl rfl ?_
            refine g_iload_n hC 1 dX8_write_65 rfl rfl ?_
            refine g_iload_n hC 3 dX8_write_66 rfl rfl ?_
            refine g_iload hC 4 dX8_write_67 rfl ?_
            refine g_callv hC (st := []) (c := 8) rfl (by decide) rfl (ctX8_keep x F a1 p3 p4 M5) mvX8_keep m_1305 (by decide) rfl rfl (Nat.le_of_ble_eq_true rfl) dX8_write_69 (fun r11 => ?_)
            show GG x f 5 (Qm x f φIM) 72 [(0, .ref (x.1 37)), (1, .int a1), (2, .int (r2.1)), (3, .int p3), (4, .int p4)] [] r11 _
            refine g_iinc hC (q := 3) (v := (1 : Int32)) (lv' := [(0, .ref (x.1 37)), (1, .int a1), (2, .int (r2.1)), (3, .int (p3 + (1 : Int32))), (4, .int p4)]) [1, 2, 3, 0, 4] dX8_write_72 rfl (by decide) (by decide) rfl ?_
            exact hJ10 (p3 + (1 : Int32)) r11
    · refine g_aload_n hC 0 dX8_write_19 rfl rfl ?_
      refine g_iconst hC (v := (1 : Int32)) dX8_write_20 (by decide) ?_
      refine g_callv hC (st := []) (c := 8) rfl (by decide) rfl (ctX8_meets x F (1 : Int32) M) mvX8_meets m_1060 (by decide) rfl rfl (Nat.le_of_ble_eq_true rfl) dX8_write_21 (fun r12 => ?_)
      show GG x f 5 (Qm x f φIM) 24 [(0, .ref (x.1 37)), (1, .int a1)] [.int (r12.1)] r12.2 _
      exact g_iret hC hm rfl dX8_write_24
  · refine g_bipush hC (v := (-2 : Int32)) dX8_write_7 (by decide) ?_
    exact g_iret hC hm rfl dX8_write_9
def sX8_readsMany (F : Nat) (a1 : Int32) (M : Mem) : Option (Int32 × Mem) :=
(sX8_reads F M).bind (fun r1 =>
if ¬ a1 = 0 then
(ib (a1 - (1 : Int32)) 2 (
some ((r1 41 (ix (a1 - (1 : Int32)))), r1)))
else
(some ((r1 37 2), r1)))
theorem mvX8_readsMany : MV yX8_readsMany cX8_readsMany 2 (some .int) 1 := ⟨⟨m_1329, m_76, by decide, by decide, by decide⟩, m_1328, m_65⟩
set_option maxHeartbeats 4000000 in
set_option maxRecDepth 100000 in
theorem ctX8_readsMany (x : Wx) (F : Nat) (a1 : Int32) (M : Mem) : Ct x yX8_readsMany cX8_readsMany 2 (some .int) { frames := 6, cells := 0, slots := 0, locals := 144 } φIM [.ref (x.1 37), .int a1] M (sX8_readsMany F a1 M) := by
  refine ct_of (by decide) (Nat.le_of_ble_eq_true rfl) (fun f hC hm => ?_)
  have hC : Cx x f "AnswersFirstModel" cX8_readsMany 2 { frames := 6, cells := 0, slots := 0, locals := 144 } := hC
  show GG x f 2 (Qm x f φIM) 0 [(0, .ref (x.1 37)), (1, .int a1)] [] M _
  unfold sX8_readsMany
  refine g_aload_n hC 0 dX8_readsMany_0 rfl rfl ?_
  refine g_callv hC (st := []) (c := 8) rfl (by decide) rfl (ctX8_reads x F M) mvX8_reads m_1038 (by decide) rfl rfl (Nat.le_of_ble_eq_true rfl) dX8_readsMany_1 (fun r1 => ?_)
  show GG x f 2 (Qm x f φIM) 4 [(0, .ref (x.1 37)), (1, .int a1)] [] r1 _
  refine g_iload_n hC 1 dX8_readsMany_4 rfl rfl ?_
  refine g_if_ne hC 15 dX8_readsMany_5 (by decide) ?_ ?_
  · refine g_aload_n hC 0 dX8_readsMany_15 rfl rfl ?_
    refine g_getR hC cf8 (t := 41) rfl 4 (by decide) rfl m_913 dX8_readsMany_16 ?_
    refine g_iload_n hC 1 dX8_readsMany_19 rfl rfl ?_
    refine g_iconst hC (v := (1 : Int32)) dX8_readsMany_20 (by decide) ?_
    refine g_isub hC dX8_readsMany_21 ?_
    refine g_iald hC rfl rfl dX8_readsMany_22 ?_
    exact g_iret hC hm rfl dX8_readsMany_23
  · refine g_aload_n hC 0 dX8_readsMany_8 rfl rfl ?_
    refine g_getI hC cf8 rfl 2 (by decide) rfl m_911 dX8_readsMany_9 ?_
    refine g_goto hC 23 dX8_readsMany_12 (by decide) ?_
    exact g_iret hC hm rfl dX8_readsMany_23
def sX8_count (F : Nat) (a1 : Int32) (M : Mem) : Option (Int32 × Mem) :=
if a1 = (0 : Int32) then
((sX8_readsMany F a1 M).bind (fun r1 =>
some (r1.1, r1.2)))
else if a1 = (1 : Int32) then
((sX8_readsMany F a1 M).bind (fun r2 =>
some (r2.1, r2.2)))
else if a1 = (2 : Int32) then
((sX8_readsMany F a1 M).bind (fun r3 =>
some (r3.1, r3.2)))
else if a1 = (3 : Int32) then
(ib (a1 - (3 : Int32)) 3 (
some ((M 38 (ix (a1 - (3 : Int32)))), M)))
else if a1 = (4 : Int32) then
(ib (a1 - (3 : Int32)) 3 (
some ((M 38 (ix (a1 - (3 : Int32)))), M)))
else if a1 = (5 : Int32) then
(ib (a1 - (3 : Int32)) 3 (
some ((M 38 (ix (a1 - (3 : Int32)))), M)))
else if a1 = (6 : Int32) then
(some ((M 37 14), M))
else if a1 = (7 : Int32) then
(some ((M 37 6), M))
else if a1 = (8 : Int32) then
(some ((M 37 22), M))
else (some ((-2 : Int32), M))
theorem mvX8_count : MV yX8_count cX8_count 2 (some .int) 1 := ⟨⟨m_1325, m_76, by decide, by decide, by decide⟩, m_1323, m_1324⟩
set_option maxHeartbeats 4000000 in
set_option maxRecDepth 100000 in
theorem ctX8_count (x : Wx) (F : Nat) (a1 : Int32) (M : Mem) : Ct x yX8_count cX8_count 2 (some .int) { frames := 7, cells := 0, slots := 0, locals := 165 } φIM [.ref (x.1 37), .int a1] M (sX8_count F a1 M) := by
  refine ct_of (by decide) (Nat.le_of_ble_eq_true rfl) (fun f hC hm => ?_)
  have hC : Cx x f "AnswersFirstModel" cX8_count 2 { frames := 7, cells := 0, slots := 0, locals := 165 } := hC
  show GG x f 2 (Qm x f φIM) 0 [(0, .ref (x.1 37)), (1, .int a1)] [] M _
  unfold sX8_count
  refine g_iload_n hC 1 dX8_count_0 rfl rfl ?_
  refine g_tcase hC (i := (0 : Int32)) (51) 52 dX8_count_1 (by decide) (by decide) (by decide) (by decide) ?_ (fun hn0 => ?_)
  · refine g_aload_n hC 0 dX8_count_52 rfl rfl ?_
    refine g_iload_n hC 1 dX8_count_53 rfl rfl ?_
    refine g_callv hC (st := []) (c := 8) rfl (by decide) rfl (ctX8_readsMany x F a1 M) mvX8_readsMany m_1326 (by decide) rfl rfl (Nat.le_of_ble_eq_true rfl) dX8_count_54 (fun r1 => ?_)
    show GG x f 2 (Qm x f φIM) 57 [(0, .ref (x.1 37)), (1, .int a1)] [.int (r1.1)] r1.2 _
    exact g_iret hC hm rfl dX8_count_57
  refine g_tcase hC (i := (1 : Int32)) (51) 52 dX8_count_1 (by decide) (by decide) (by decide) (by decide) ?_ (fun hn1 => ?_)
  · refine g_aload_n hC 0 dX8_count_52 rfl rfl ?_
    refine g_iload_n hC 1 dX8_count_53 rfl rfl ?_
    refine g_callv hC (st := []) (c := 8) rfl (by decide) rfl (ctX8_readsMany x F a1 M) mvX8_readsMany m_1326 (by decide) rfl rfl (Nat.le_of_ble_eq_true rfl) dX8_count_54 (fun r2 => ?_)
    show GG x f 2 (Qm x f φIM) 57 [(0, .ref (x.1 37)), (1, .int a1)] [.int (r2.1)] r2.2 _
    exact g_iret hC hm rfl dX8_count_57
  refine g_tcase hC (i := (2 : Int32)) (51) 52 dX8_count_1 (by decide) (by decide) (by decide) (by decide) ?_ (fun hn2 => ?_)
  · refine g_aload_n hC 0 dX8_count_52 rfl rfl ?_
    refine g_iload_n hC 1 dX8_count_53 rfl rfl ?_
    refine g_callv hC (st := []) (c := 8) rfl (by decide) rfl (ctX8_readsMany x F a1 M) mvX8_readsMany m_1326 (by decide) rfl rfl (Nat.le_of_ble_eq_true rfl) dX8_count_54 (fun r3 => ?_)
    show GG x f 2 (Qm x f φIM) 57 [(0, .ref (x.1 37)), (1, .int a1)] [.int (r3.1)] r3.2 _
    exact g_iret hC hm rfl dX8_count_57
  refine g_tcase hC (i := (3 : Int32)) (57) 58 dX8_count_1 (by decide) (by decide) (by decide) (by decide) ?_ (fun hn3 => ?_)
  · refine g_aload_n hC 0 dX8_count_58 rfl rfl ?_
    refine g_getR hC cf8 (t := 38) rfl 0 (by decide) rfl m_909 dX8_count_59 ?_
    refine g_iload_n hC 1 dX8_count_62 rfl rfl ?_
    refine g_iconst hC (v := (3 : Int32)) dX8_count_63 (by decide) ?_
    refine g_isub hC dX8_count_64 ?_
    refine g_iald hC rfl rfl dX8_count_65 ?_
    exact g_iret hC hm rfl dX8_count_66
  refine g_tcase hC (i := (4 : Int32)) (57) 58 dX8_count_1 (by decide) (by decide) (by decide) (by decide) ?_ (fun hn4 => ?_)
  · refine g_aload_n hC 0 dX8_count_58 rfl rfl ?_
    refine g_getR hC cf8 (t := 38) rfl 0 (by decide) rfl m_909 dX8_count_59 ?_
    refine g_iload_n hC 1 dX8_count_62 rfl rfl ?_
    refine g_iconst hC (v := (3 : Int32)) dX8_count_63 (by decide) ?_
    refine g_isub hC dX8_count_64 ?_
    refine g_iald hC rfl rfl dX8_count_65 ?_
    exact g_iret hC hm rfl dX8_count_66
  refine g_tcase hC (i := (5 : Int32)) (57) 58 dX8_count_1 (by decide) (by decide) (by decide) (by decide) ?_ (fun hn5 => ?_)
  · refine g_aload_n hC 0 dX8_count_58 rfl rfl ?_
    refine g_getR hC cf8 (t := 38) rfl 0 (by decide) rfl m_909 dX8_count_59 ?_
    refine g_iload_n hC 1 dX8_count_62 rfl rfl ?_
    refine g_iconst hC (v := (3 : Int32)) dX8_count_63 (by decide) ?_
    refine g_isub hC dX8_count_64 ?_
    refine g_iald hC rfl rfl dX8_count_65 ?_
    exact g_iret hC hm rfl dX8_count_66
  refine g_tcase hC (i := (6 : Int32)) (66) 67 dX8_count_1 (by decide) (by decide) (by decide) (by decide) ?_ (fun hn6 => ?_)
  · refine g_aload_n hC 0 dX8_count_67 rfl rfl ?_
    refine g_getI hC cf8 rfl 14 (by decide) rfl m_923 dX8_count_68 ?_
    exact g_iret hC hm rfl dX8_count_71
  refine g_tcase hC (i := (7 : Int32)) (71) 72 dX8_count_1 (by decide) (by decide) (by decide) (by decide) ?_ (fun hn7 => ?_)
  · refine g_aload_n hC 0 dX8_count_72 rfl rfl ?_
    refine g_getI hC cf8 rfl 6 (by decide) rfl m_915 dX8_count_73 ?_
    exact g_iret hC hm rfl dX8_count_76
  refine g_tcase hC (i := (8 : Int32)) (76) 77 dX8_count_1 (by decide) (by decide) (by decide) (by decide) ?_ (fun hn8 => ?_)
  · refine g_aload_n hC 0 dX8_count_77 rfl rfl ?_
    refine g_getI hC cf8 rfl 22 (by decide) rfl m_931 dX8_count_78 ?_
    exact g_iret hC hm rfl dX8_count_81
  refine g_tout hC 82 dX8_count_1 (q_out9 hn0 hn1 hn2 hn3 hn4 hn5 hn6 hn7 hn8) (by decide) ?_
  refine g_bipush hC (v := (-2 : Int32)) dX8_count_82 (by decide) ?_
  exact g_iret hC hm rfl dX8_count_84
