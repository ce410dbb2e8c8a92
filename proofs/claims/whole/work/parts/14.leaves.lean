def sX6_isFull (F : Nat) (k : Nat) (M : Mem) : Option Bool :=
if (M k 1) < (Int32.ofNat (ln (k + 3))) then
(some false)
else
(some true)
theorem mvX6_isFull : MV yX6_isFull cX6_isFull 1 (some .boolean) 0 := ⟨⟨m_291, m_68, by decide, by decide, by decide⟩, m_289, m_290⟩
set_option maxHeartbeats 4000000 in
set_option maxRecDepth 100000 in
theorem ctX6_isFull (x : Wx) (F : Nat) (k : Nat) (hk : kd k = 6) (M : Mem) : Ct x yX6_isFull cX6_isFull 1 (some .boolean) { frames := 0, cells := 0, slots := 0, locals := 0 } (φB M) [.ref (x.1 k)] M (sX6_isFull F k M) := by
  refine ct_of (by decide) (Nat.le_of_ble_eq_true rfl) (fun f hC hm => ?_)
  have hC : Cx x f "AnswersFirst$Text" cX6_isFull 1 { frames := 0, cells := 0, slots := 0, locals := 0 } := hC
  show GG x f 1 (Qm x f (φB M)) 0 [(0, .ref (x.1 k))] [] M _
  unfold sX6_isFull
  refine g_aload_n hC 0 dX6_isFull_0 rfl rfl ?_
  refine g_getI hC cf6 hk 1 (by decide) rfl m_104 dX6_isFull_1 ?_
  refine g_aload_n hC 0 dX6_isFull_4 rfl rfl ?_
  refine g_getR hC cf6 (t := (k + 3)) hk 0 (by decide) rfl m_103 dX6_isFull_5 ?_
  refine g_alen hC (n := (Int32.ofNat (ln (k + 3)))) 10 1 (kb_T hk) (by decide) rfl dX6_isFull_8 ?_
  refine g_icmp_lt hC 16 dX6_isFull_9 (by decide) ?_ ?_
  · refine g_iconst hC (v := (0 : Int32)) dX6_isFull_16 (by decide) ?_
    exact g_zret hC hm rfl rfl dX6_isFull_17
  · refine g_iconst hC (v := (1 : Int32)) dX6_isFull_12 (by decide) ?_
    refine g_goto hC 17 dX6_isFull_13 (by decide) ?_
    exact g_zret hC hm rfl rfl dX6_isFull_17
def sX6_append (F : Nat) (k : Nat) (a1 : Int32) (M : Mem) : Option Mem :=
if (M k 1) < 0 then
(some M)
else
(if (Int32.ofNat (ln (k + 3))) ≤ (M k 1) then
(some M)
else
(ib (M k 1) (ln (k + 3)) (
nm (st2 M (k + 3) (ix (M k 1)) (a1.toInt8.toInt32).toInt8.toInt32) (fun M1 =>
nm (st2 M1 k 1 ((M1 k 1) + (1 : Int32))) (fun M2 =>
some M2)))))
theorem mvX6_append : MV yX6_append cX6_append 2 none 1 := ⟨⟨m_295, m_68, by decide, by decide, by decide⟩, m_293, m_294⟩
set_option maxHeartbeats 4000000 in
set_option maxRecDepth 100000 in
theorem ctX6_append (x : Wx) (F : Nat) (k : Nat) (a1 : Int32) (hk : kd k = 6) (M : Mem) : Ct x yX6_append cX6_append 2 none { frames := 0, cells := 0, slots := 0, locals := 0 } φM [.ref (x.1 k), .int a1] M (sX6_append F k a1 M) := by
  refine ct_of (by decide) (Nat.le_of_ble_eq_true rfl) (fun f hC hm => ?_)
  have hC : Cx x f "AnswersFirst$Text" cX6_append 2 { frames := 0, cells := 0, slots := 0, locals := 0 } := hC
  show GG x f 2 (Qm x f φM) 0 [(0, .ref (x.1 k)), (1, .int a1)] [] M _
  unfold sX6_append
  refine g_aload_n hC 0 dX6_append_0 rfl rfl ?_
  refine g_getI hC cf6 hk 1 (by decide) rfl m_104 dX6_append_1 ?_
  refine g_if_lt hC 40 dX6_append_4 (by decide) ?_ ?_
  · exact g_vret hC hm rfl dX6_append_40
  · refine g_aload_n hC 0 dX6_append_7 rfl rfl ?_
    refine g_getI hC cf6 hk 1 (by decide) rfl m_104 dX6_append_8 ?_
    refine g_aload_n hC 0 dX6_append_11 rfl rfl ?_
    refine g_getR hC cf6 (t := (k + 3)) hk 0 (by decide) rfl m_103 dX6_append_12 ?_
    refine g_alen hC (n := (Int32.ofNat (ln (k + 3)))) 10 1 (kb_T hk) (by decide) rfl dX6_append_15 ?_
    refine g_icmp_ge hC 40 dX6_append_16 (by decide) ?_ ?_
    · exact g_vret hC hm rfl dX6_append_40
    · refine g_aload_n hC 0 dX6_append_19 rfl rfl ?_
      refine g_getR hC cf6 (t := (k + 3)) hk 0 (by decide) rfl m_103 dX6_append_20 ?_
      refine g_aload_n hC 0 dX6_append_23 rfl rfl ?_
      refine g_getI hC cf6 hk 1 (by decide) rfl m_104 dX6_append_24 ?_
      refine g_iload_n hC 1 dX6_append_27 rfl rfl ?_
      refine g_i2b hC dX6_append_28 ?_
      refine g_bast hC (kb_T hk) rfl dX6_append_29 (fun M1 => ?_)
      show GG x f 2 (Qm x f φM) 30 [(0, .ref (x.1 k)), (1, .int a1)] [] M1 _
      refine g_aload_n hC 0 dX6_append_30 rfl rfl ?_
      refine g_dup hC dX6_append_31 rfl ?_
      refine g_getI hC cf6 hk 1 (by decide) rfl m_104 dX6_append_32 ?_
      refine g_iconst hC (v := (1 : Int32)) dX6_append_35 (by decide) ?_
      refine g_iadd hC dX6_append_36 ?_
      refine g_put hC cf6 hk 1 (by decide) rfl m_104 rfl rfl rfl dX6_append_37 (fun M2 => ?_)
      show GG x f 2 (Qm x f φM) 40 [(0, .ref (x.1 k)), (1, .int a1)] [] M2 _
      exact g_vret hC hm rfl dX6_append_40
def sX6_length (F : Nat) (k : Nat) (M : Mem) : Option Int32 :=
some (M k 1)
theorem mvX6_length : MV yX6_length cX6_length 1 (some .int) 0 := ⟨⟨m_408, m_68, by decide, by decide, by decide⟩, m_406, m_407⟩
set_option maxHeartbeats 4000000 in
set_option maxRecDepth 100000 in
theorem ctX6_length (x : Wx) (F : Nat) (k : Nat) (hk : kd k = 6) (M : Mem) : Ct x yX6_length cX6_length 1 (some .int) { frames := 0, cells := 0, slots := 0, locals := 0 } (φI M) [.ref (x.1 k)] M (sX6_length F k M) := by
  refine ct_of (by decide) (Nat.le_of_ble_eq_true rfl) (fun f hC hm => ?_)
  have hC : Cx x f "AnswersFirst$Text" cX6_length 1 { frames := 0, cells := 0, slots := 0, locals := 0 } := hC
  show GG x f 1 (Qm x f (φI M)) 0 [(0, .ref (x.1 k))] [] M _
  unfold sX6_length
  refine g_aload_n hC 0 dX6_length_0 rfl rfl ?_
  refine g_getI hC cf6 hk 1 (by decide) rfl m_104 dX6_length_1 ?_
  exact g_iret hC hm rfl dX6_length_4
def sX6_clearAll (F : Nat) (k : Nat) (M : Mem) : Option Mem :=
nm (st2 M k 1 (0 : Int32)) (fun M1 =>
some M1)
theorem mvX6_clearAll : MV yX6_clearAll cX6_clearAll 1 none 0 := ⟨⟨m_416, m_68, by decide, by decide, by decide⟩, m_414, m_415⟩
set_option maxHeartbeats 4000000 in
set_option maxRecDepth 100000 in
theorem ctX6_clearAll (x : Wx) (F : Nat) (k : Nat) (hk : kd k = 6) (M : Mem) : Ct x yX6_clearAll cX6_clearAll 1 none { frames := 0, cells := 0, slots := 0, locals := 0 } φM [.ref (x.1 k)] M (sX6_clearAll F k M) := by
  refine ct_of (by decide) (Nat.le_of_ble_eq_true rfl) (fun f hC hm => ?_)
  have hC : Cx x f "AnswersFirst$Text" cX6_clearAll 1 { frames := 0, cells := 0, slots := 0, locals := 0 } := hC
  show GG x f 1 (Qm x f φM) 0 [(0, .ref (x.1 k))] [] M _
  unfold sX6_clearAll
  refine g_aload_n hC 0 dX6_clearAll_0 rfl rfl ?_
  refine g_iconst hC (v := (0 : Int32)) dX6_clearAll_1 (by decide) ?_
  refine g_put hC cf6 hk 1 (by decide) rfl m_104 rfl rfl rfl dX6_clearAll_2 (fun M1 => ?_)
  show GG x f 1 (Qm x f φM) 5 [(0, .ref (x.1 k))] [] M1 _
  exact g_vret hC hm rfl dX6_clearAll_5
def sX6_dropLast (F : Nat) (k : Nat) (M : Mem) : Option Mem :=
if (M k 1) ≤ 0 then
(some M)
else
(nm (st2 M k 1 ((M k 1) - (1 : Int32))) (fun M1 =>
some M1))
theorem mvX6_dropLast : MV yX6_dropLast cX6_dropLast 1 none 0 := ⟨⟨m_428, m_68, by decide, by decide, by decide⟩, m_426, m_427⟩
set_option maxHeartbeats 4000000 in
set_option maxRecDepth 100000 in
theorem ctX6_dropLast (x : Wx) (F : Nat) (k : Nat) (hk : kd k = 6) (M : Mem) : Ct x yX6_dropLast cX6_dropLast 1 none { frames := 0, cells := 0, slots := 0, locals := 0 } φM [.ref (x.1 k)] M (sX6_dropLast F k M) := by
  refine ct_of (by decide) (Nat.le_of_ble_eq_true rfl) (fun f hC hm => ?_)
  have hC : Cx x f "AnswersFirst$Text" cX6_dropLast 1 { frames := 0, cells := 0, slots := 0, locals := 0 } := hC
  show GG x f 1 (Qm x f φM) 0 [(0, .ref (x.1 k))] [] M _
  unfold sX6_dropLast
  refine g_aload_n hC 0 dX6_dropLast_0 rfl rfl ?_
  refine g_getI hC cf6 hk 1 (by decide) rfl m_104 dX6_dropLast_1 ?_
  refine g_if_le hC 17 dX6_dropLast_4 (by decide) ?_ ?_
  · exact g_vret hC hm rfl dX6_dropLast_17
  · refine g_aload_n hC 0 dX6_dropLast_7 rfl rfl ?_
    refine g_dup hC dX6_dropLast_8 rfl ?_
    refine g_getI hC cf6 hk 1 (by decide) rfl m_104 dX6_dropLast_9 ?_
    refine g_iconst hC (v := (1 : Int32)) dX6_dropLast_12 (by decide) ?_
    refine g_isub hC dX6_dropLast_13 ?_
    refine g_put hC cf6 hk 1 (by decide) rfl m_104 rfl rfl rfl dX6_dropLast_14 (fun M1 => ?_)
    show GG x f 1 (Qm x f φM) 17 [(0, .ref (x.1 k))] [] M1 _
    exact g_vret hC hm rfl dX6_dropLast_17
def sX6_at (F : Nat) (k : Nat) (a1 : Int32) (M : Mem) : Option Int32 :=
if a1 < 0 then
(some (-1 : Int32))
else
(if (M k 1) ≤ a1 then
(some (-1 : Int32))
else
(if (Int32.ofNat (ln (k + 3))) ≤ a1 then
(some (-1 : Int32))
else
(ib a1 (ln (k + 3)) (
some ((M (k + 3) (ix a1)) &&& (255 : Int32))))))
theorem mvX6_at : MV yX6_at cX6_at 2 (some .int) 1 := ⟨⟨m_438, m_68, by decide, by decide, by decide⟩, m_436, m_437⟩
set_option maxHeartbeats 4000000 in
set_option maxRecDepth 100000 in
theorem ctX6_at (x : Wx) (F : Nat) (k : Nat) (a1 : Int32) (hk : kd k = 6) (M : Mem) : Ct x yX6_at cX6_at 2 (some .int) { frames := 0, cells := 0, slots := 0, locals := 0 } (φI M) [.ref (x.1 k), .int a1] M (sX6_at F k a1 M) := by
  refine ct_of (by decide) (Nat.le_of_ble_eq_true rfl) (fun f hC hm => ?_)
  have hC : Cx x f "AnswersFirst$Text" cX6_at 2 { frames := 0, cells := 0, slots := 0, locals := 0 } := hC
  show GG x f 2 (Qm x f (φI M)) 0 [(0, .ref (x.1 k)), (1, .int a1)] [] M _
  unfold sX6_at
  refine g_iload_n hC 1 dX6_at_0 rfl rfl ?_
  refine g_if_lt hC 34 dX6_at_1 (by decide) ?_ ?_
  · refine g_iconst hC (v := (-1 : Int32)) dX6_at_34 (by decide) ?_
    exact g_iret hC hm rfl dX6_at_35
  · refine g_iload_n hC 1 dX6_at_4 rfl rfl ?_
    refine g_aload_n hC 0 dX6_at_5 rfl rfl ?_
    refine g_getI hC cf6 hk 1 (by decide) rfl m_104 dX6_at_6 ?_
    refine g_icmp_ge hC 34 dX6_at_9 (by decide) ?_ ?_
    · refine g_iconst hC (v := (-1 : Int32)) dX6_at_34 (by decide) ?_
      exact g_iret hC hm rfl dX6_at_35
    · refine g_iload_n hC 1 dX6_at_12 rfl rfl ?_
      refine g_aload_n hC 0 dX6_at_13 rfl rfl ?_
      refine g_getR hC cf6 (t := (k + 3)) hk 0 (by decide) rfl m_103 dX6_at_14 ?_
      refine g_alen hC (n := (Int32.ofNat (ln (k + 3)))) 10 1 (kb_T hk) (by decide) rfl dX6_at_17 ?_
      refine g_icmp_ge hC 34 dX6_at_18 (by decide) ?_ ?_
      · refine g_iconst hC (v := (-1 : Int32)) dX6_at_34 (by decide) ?_
        exact g_iret hC hm rfl dX6_at_35
      · refine g_aload_n hC 0 dX6_at_21 rfl rfl ?_
        refine g_getR hC cf6 (t := (k + 3)) hk 0 (by decide) rfl m_103 dX6_at_22 ?_
        refine g_iload_n hC 1 dX6_at_25 rfl rfl ?_
        refine g_bald hC (kb_T hk) rfl dX6_at_26 ?_
        refine g_sipush hC (v := (255 : Int32)) dX6_at_27 (by decide) ?_
        refine g_iand hC dX6_at_30 ?_
        refine g_goto hC 35 dX6_at_31 (by decide) ?_
        exact g_iret hC hm rfl dX6_at_35
def sX5_isLost (F : Nat) (k : Nat) (M : Mem) : Option Bool :=
if ¬ (M k 1) = (-1 : Int32) then
(some false)
else
(some true)
theorem mvX5_isLost : MV yX5_isLost cX5_isLost 1 (some .boolean) 0 := ⟨⟨m_483, m_75, by decide, by decide, by decide⟩, m_481, m_482⟩
set_option maxHeartbeats 4000000 in
set_option maxRecDepth 100000 in
theorem ctX5_isLost (x : Wx) (F : Nat) (k : Nat) (hk : kd k = 5) (M : Mem) : Ct x yX5_isLost cX5_isLost 1 (some .boolean) { frames := 0, cells := 0, slots := 0, locals := 0 } (φB M) [.ref (x.1 k)] M (sX5_isLost F k M) := by
  refine ct_of (by decide) (Nat.le_of_ble_eq_true rfl) (fun f hC hm => ?_)
  have hC : Cx x f "AnswersFirst$Sheet" cX5_isLost 1 { frames := 0, cells := 0, slots := 0, locals := 0 } := hC
  show GG x f 1 (Qm x f (φB M)) 0 [(0, .ref (x.1 k))] [] M _
  unfold sX5_isLost
  refine g_aload_n hC 0 dX5_isLost_0 rfl rfl ?_
  refine g_getI hC cf5 hk 1 (by decide) rfl m_235 dX5_isLost_1 ?_
  refine g_iconst hC (v := (-1 : Int32)) dX5_isLost_4 (by decide) ?_
  refine g_icmp_ne hC 12 dX5_isLost_5 (by decide) ?_ ?_
  · refine g_iconst hC (v := (0 : Int32)) dX5_isLost_12 (by decide) ?_
    exact g_zret hC hm rfl rfl dX5_isLost_13
  · refine g_iconst hC (v := (1 : Int32)) dX5_isLost_8 (by decide) ?_
    refine g_goto hC 13 dX5_isLost_9 (by decide) ?_
    exact g_zret hC hm rfl rfl dX5_isLost_13
def sX4_howMany (F : Nat) (M : Mem) : Option Int32 :=
some (M 26 0)
theorem mvX4_howMany : MV yX4_howMany cX4_howMany 1 (some .int) 0 := ⟨⟨m_491, m_73, by decide, by decide, by decide⟩, m_489, m_490⟩
set_option maxHeartbeats 4000000 in
set_option maxRecDepth 100000 in
theorem ctX4_howMany (x : Wx) (F : Nat) (M : Mem) : Ct x yX4_howMany cX4_howMany 1 (some .int) { frames := 0, cells := 0, slots := 0, locals := 0 } (φI M) [.ref (x.1 26)] M (sX4_howMany F M) := by
  refine ct_of (by decide) (Nat.le_of_ble_eq_true rfl) (fun f hC hm => ?_)
  have hC : Cx x f "AnswersFirst$Seen" cX4_howMany 1 { frames := 0, cells := 0, slots := 0, locals := 0 } := hC
  show GG x f 1 (Qm x f (φI M)) 0 [(0, .ref (x.1 26))] [] M _
  unfold sX4_howMany
  refine g_aload_n hC 0 dX4_howMany_0 rfl rfl ?_
  refine g_getI hC cf4 rfl 0 (by decide) rfl m_207 dX4_howMany_1 ?_
  exact g_iret hC hm rfl dX4_howMany_4
def sX5_length (F : Nat) (k : Nat) (M : Mem) : Option Int32 :=
some (M k 2)
theorem mvX5_length : MV yX5_length cX5_length 1 (some .int) 0 := ⟨⟨m_495, m_75, by decide, by decide, by decide⟩, m_493, m_494⟩
set_option maxHeartbeats 4000000 in
set_option maxRecDepth 100000 in
theorem ctX5_length (x : Wx) (F : Nat) (k : Nat) (hk : kd k = 5) (M : Mem) : Ct x yX5_length cX5_length 1 (some .int) { frames := 0, cells := 0, slots := 0, locals := 0 } (φI M) [.ref (x.1 k)] M (sX5_length F k M) := by
  refine ct_of (by decide) (Nat.le_of_ble_eq_true rfl) (fun f hC hm => ?_)
  have hC : Cx x f "AnswersFirst$Sheet" cX5_length 1 { frames := 0, cells := 0, slots := 0, locals := 0 } := hC
  show GG x f 1 (Qm x f (φI M)) 0 [(0, .ref (x.1 k))] [] M _
  unfold sX5_length
  refine g_aload_n hC 0 dX5_length_0 rfl rfl ?_
  refine g_getI hC cf5 hk 2 (by decide) rfl m_236 dX5_length_1 ?_
  exact g_iret hC hm rfl dX5_length_4
def sX5_item (F : Nat) (k : Nat) (a1 : Int32) (M : Mem) : Option Int32 :=
if a1 < 0 then
(some (0 : Int32))
else
(if (M k 2) ≤ a1 then
(some (0 : Int32))
else
(if (48 : Int32) ≤ a1 then
(some (0 : Int32))
else
(ib a1 48 (
some (M (k + 4) (ix a1))))))
theorem mvX5_item : MV yX5_item cX5_item 2 (some .int) 1 := ⟨⟨m_499, m_75, by decide, by decide, by decide⟩, m_497, m_498⟩
set_option maxHeartbeats 4000000 in
set_option maxRecDepth 100000 in
theorem ctX5_item (x : Wx) (F : Nat) (k : Nat) (a1 : Int32) (hk : kd k = 5) (M : Mem) : Ct x yX5_item cX5_item 2 (some .int) { frames := 0, cells := 0, slots := 0, locals := 0 } (φI M) [.ref (x.1 k), .int a1] M (sX5_item F k a1 M) := by
  refine ct_of (by decide) (Nat.le_of_ble_eq_true rfl) (fun f hC hm => ?_)
  have hC : Cx x f "AnswersFirst$Sheet" cX5_item 2 { frames := 0, cells := 0, slots := 0, locals := 0 } := hC
  show GG x f 2 (Qm x f (φI M)) 0 [(0, .ref (x.1 k)), (1, .int a1)] [] M _
  unfold sX5_item
  refine g_iload_n hC 1 dX5_item_0 rfl rfl ?_
  refine g_if_lt hC 27 dX5_item_1 (by decide) ?_ ?_
  · refine g_iconst hC (v := (0 : Int32)) dX5_item_27 (by decide) ?_
    exact g_iret hC hm rfl dX5_item_28
  · refine g_iload_n hC 1 dX5_item_4 rfl rfl ?_
    refine g_aload_n hC 0 dX5_item_5 rfl rfl ?_
    refine g_getI hC cf5 hk 2 (by decide) rfl m_236 dX5_item_6 ?_
    refine g_icmp_ge hC 27 dX5_item_9 (by decide) ?_ ?_
    · refine g_iconst hC (v := (0 : Int32)) dX5_item_27 (by decide) ?_
      exact g_iret hC hm rfl dX5_item_28
    · refine g_iload_n hC 1 dX5_item_12 rfl rfl ?_
      refine g_bipush hC (v := (48 : Int32)) dX5_item_13 (by decide) ?_
      refine g_icmp_ge hC 27 dX5_item_15 (by decide) ?_ ?_
      · refine g_iconst hC (v := (0 : Int32)) dX5_item_27 (by decide) ?_
        exact g_iret hC hm rfl dX5_item_28
      · refine g_aload_n hC 0 dX5_item_18 rfl rfl ?_
        refine g_getR hC cf5 (t := (k + 4)) hk 0 (by decide) rfl m_234 dX5_item_19 ?_
        refine g_iload_n hC 1 dX5_item_22 rfl rfl ?_
        refine g_iald hC (ki_S hk) (li_S hk) dX5_item_23 ?_
        refine g_goto hC 28 dX5_item_24 (by decide) ?_
        exact g_iret hC hm rfl dX5_item_28
def sX4_isFull (F : Nat) (M : Mem) : Option Bool :=
if (M 26 0) < (8 : Int32) then
(some false)
else
(some true)
theorem mvX4_isFull : MV yX4_isFull cX4_isFull 1 (some .boolean) 0 := ⟨⟨m_506, m_73, by decide, by decide, by decide⟩, m_504, m_505⟩
set_option maxHeartbeats 4000000 in
set_option maxRecDepth 100000 in
theorem ctX4_isFull (x : Wx) (F : Nat) (M : Mem) : Ct x yX4_isFull cX4_isFull 1 (some .boolean) { frames := 0, cells := 0, slots := 0, locals := 0 } (φB M) [.ref (x.1 26)] M (sX4_isFull F M) := by
  refine ct_of (by decide) (Nat.le_of_ble_eq_true rfl) (fun f hC hm => ?_)
  have hC : Cx x f "AnswersFirst$Seen" cX4_isFull 1 { frames := 0, cells := 0, slots := 0, locals := 0 } := hC
  show GG x f 1 (Qm x f (φB M)) 0 [(0, .ref (x.1 26))] [] M _
  unfold sX4_isFull
  refine g_aload_n hC 0 dX4_isFull_0 rfl rfl ?_
  refine g_getI hC cf4 rfl 0 (by decide) rfl m_207 dX4_isFull_1 ?_
  refine g_bipush hC (v := (8 : Int32)) dX4_isFull_4 (by decide) ?_
  refine g_icmp_lt hC 13 dX4_isFull_6 (by decide) ?_ ?_
  · refine g_iconst hC (v := (0 : Int32)) dX4_isFull_13 (by decide) ?_
    exact g_zret hC hm rfl rfl dX4_isFull_14
  · refine g_iconst hC (v := (1 : Int32)) dX4_isFull_9 (by decide) ?_
    refine g_goto hC 14 dX4_isFull_10 (by decide) ?_
    exact g_zret hC hm rfl rfl dX4_isFull_14
def sX4_add (F : Nat) (a1 : Int32) (a2 : Int32) (M : Mem) : Option Mem :=
nm (fun (M1 : Mem) =>
nm (st2 M1 26 0 ((M1 26 0) + (1 : Int32))) (fun M3 =>
some M3)) (fun J2 =>
if ¬ a2 = (1 : Int32) then
(nm (st2 M 26 2 ((M 26 2) ||| ((1 : Int32) <<< (a1 &&& 31)))) (fun M4 =>
J2 M4))
else
(nm (st2 M 26 1 ((M 26 1) ||| ((1 : Int32) <<< (a1 &&& 31)))) (fun M5 =>
J2 M5)))
theorem mvX4_add : MV yX4_add cX4_add 3 none 2 := ⟨⟨m_510, m_73, by decide, by decide, by decide⟩, m_508, m_509⟩
set_option maxHeartbeats 4000000 in
set_option maxRecDepth 100000 in
theorem ctX4_add (x : Wx) (F : Nat) (a1 : Int32) (a2 : Int32) (M : Mem) : Ct x yX4_add cX4_add 3 none { frames := 0, cells := 0, slots := 0, locals := 0 } φM [.ref (x.1 26), .int a1, .int a2] M (sX4_add F a1 a2 M) := by
  refine ct_of (by decide) (Nat.le_of_ble_eq_true rfl) (fun f hC hm => ?_)
  have hC : Cx x f "AnswersFirst$Seen" cX4_add 3 { frames := 0, cells := 0, slots := 0, locals := 0 } := hC
  show GG x f 3 (Qm x f φM) 0 [(0, .ref (x.1 26)), (1, .int a1), (2, .int a2)] [] M _
  unfold sX4_add
  refine g_iload_n hC 2 dX4_add_0 rfl rfl ?_
  refine g_iconst hC (v := (1 : Int32)) dX4_add_1 (by decide) ?_
  refine g_nm (fun (J2 : Mem → Option Mem) => ∀ (M1 : Mem), GG x f 3 (Qm x f φM) 32 [(0, .ref (x.1 26))] [] M1 (J2 M1)) (fun M1 => ?_) (fun J2 hJ2 => ?_)
  · show GG x f 3 (Qm x f φM) 32 [(0, .ref (x.1 26))] [] M1 _
    refine g_aload_n hC 0 dX4_add_32 rfl rfl ?_
    refine g_dup hC dX4_add_33 rfl ?_
    refine g_getI hC cf4 rfl 0 (by decide) rfl m_207 dX4_add_34 ?_
    refine g_iconst hC (v := (1 : Int32)) dX4_add_37 (by decide) ?_
    refine g_iadd hC dX4_add_38 ?_
    refine g_put hC cf4 rfl 0 (by decide) rfl m_207 rfl rfl rfl dX4_add_39 (fun M3 => ?_)
    show GG x f 3 (Qm x f φM) 42 [(0, .ref (x.1 26))] [] M3 _
    exact g_vret hC hm rfl dX4_add_42
  refine g_icmp_ne hC 20 dX4_add_2 (by decide) ?_ ?_
  · refine g_aload_n hC 0 dX4_add_20 rfl rfl ?_
    refine g_dup hC dX4_add_21 rfl ?_
    refine g_getI hC cf4 rfl 2 (by decide) rfl m_209 dX4_add_22 ?_
    refine g_iconst hC (v := (1 : Int32)) dX4_add_25 (by decide) ?_
    refine g_iload_n hC 1 dX4_add_26 rfl rfl ?_
    refine g_ishl hC dX4_add_27 ?_
    refine g_ior hC dX4_add_28 ?_
    refine g_put hC cf4 rfl 2 (by decide) rfl m_209 rfl rfl rfl dX4_add_29 (fun M4 => ?_)
    show GG x f 3 (Qm x f φM) 32 [(0, .ref (x.1 26)), (1, .int a1), (2, .int a2)] [] M4 _
    refine g_lv (lv' := [(0, .ref (x.1 26))]) [0] rfl ?_
    exact hJ2 M4
  · refine g_aload_n hC 0 dX4_add_5 rfl rfl ?_
    refine g_dup hC dX4_add_6 rfl ?_
    refine g_getI hC cf4 rfl 1 (by decide) rfl m_208 dX4_add_7 ?_
    refine g_iconst hC (v := (1 : Int32)) dX4_add_10 (by decide) ?_
    refine g_iload_n hC 1 dX4_add_11 rfl rfl ?_
    refine g_ishl hC dX4_add_12 ?_
    refine g_ior hC dX4_add_13 ?_
    refine g_put hC cf4 rfl 1 (by decide) rfl m_208 rfl rfl rfl dX4_add_14 (fun M5 => ?_)
    show GG x f 3 (Qm x f φM) 17 [(0, .ref (x.1 26)), (1, .int a1), (2, .int a2)] [] M5 _
    refine g_goto hC 32 dX4_add_17 (by decide) ?_
    refine g_lv (lv' := [(0, .ref (x.1 26))]) [0] rfl ?_
    exact hJ2 M5
def sX4_clearAll (F : Nat) (M : Mem) : Option Mem :=
nm (st2 M 26 0 (0 : Int32)) (fun M1 =>
nm (st2 M1 26 1 (0 : Int32)) (fun M2 =>
nm (st2 M2 26 2 (0 : Int32)) (fun M3 =>
some M3)))
theorem mvX4_clearAll : MV yX4_clearAll cX4_clearAll 1 none 0 := ⟨⟨m_758, m_73, by decide, by decide, by decide⟩, m_756, m_757⟩
set_option maxHeartbeats 4000000 in
set_option maxRecDepth 100000 in
theorem ctX4_clearAll (x : Wx) (F : Nat) (M : Mem) : Ct x yX4_clearAll cX4_clearAll 1 none { frames := 0, cells := 0, slots := 0, locals := 0 } φM [.ref (x.1 26)] M (sX4_clearAll F M) := by
  refine ct_of (by decide) (Nat.le_of_ble_eq_true rfl) (fun f hC hm => ?_)
  have hC : Cx x f "AnswersFirst$Seen" cX4_clearAll 1 { frames := 0, cells := 0, slots := 0, locals := 0 } := hC
  show GG x f 1 (Qm x f φM) 0 [(0, .ref (x.1 26))] [] M _
  unfold sX4_clearAll
  refine g_aload_n hC 0 dX4_clearAll_0 rfl rfl ?_
  refine g_iconst hC (v := (0 : Int32)) dX4_clearAll_1 (by decide) ?_
  refine g_put hC cf4 rfl 0 (by decide) rfl m_207 rfl rfl rfl dX4_clearAll_2 (fun M1 => ?_)
  show GG x f 1 (Qm x f φM) 5 [(0, .ref (x.1 26))] [] M1 _
  refine g_aload_n hC 0 dX4_clearAll_5 rfl rfl ?_
  refine g_iconst hC (v := (0 : Int32)) dX4_clearAll_6 (by decide) ?_
  refine g_put hC cf4 rfl 1 (by decide) rfl m_208 rfl rfl rfl dX4_clearAll_7 (fun M2 => ?_)
  show GG x f 1 (Qm x f φM) 10 [(0, .ref (x.1 26))] [] M2 _
  refine g_aload_n hC 0 dX4_clearAll_10 rfl rfl ?_
  refine g_iconst hC (v := (0 : Int32)) dX4_clearAll_11 (by decide) ?_
  refine g_put hC cf4 rfl 2 (by decide) rfl m_209 rfl rfl rfl dX4_clearAll_12 (fun M3 => ?_)
  show GG x f 1 (Qm x f φM) 15 [(0, .ref (x.1 26))] [] M3 _
  exact g_vret hC hm rfl dX4_clearAll_15
def sX4_agreesWith (F : Nat) (a1 : Int32) (M : Mem) : Option Bool :=
if ¬ (a1 &&& (M 26 1)) = (M 26 1) then
(some false)
else
(if ¬ (a1 &&& (M 26 2)) = 0 then
(some false)
else
(some true))
theorem mvX4_agreesWith : MV yX4_agreesWith cX4_agreesWith 2 (some .boolean) 1 := ⟨⟨m_766, m_73, by decide, by decide, by decide⟩, m_764, m_765⟩
set_option maxHeartbeats 4000000 in
set_option maxRecDepth 100000 in
theorem ctX4_agreesWith (x : Wx) (F : Nat) (a1 : Int32) (M : Mem) : Ct x yX4_agreesWith cX4_agreesWith 2 (some .boolean) { frames := 0, cells := 0, slots := 0, locals := 0 } (φB M) [.ref (x.1 26), .int a1] M (sX4_agreesWith F a1 M) := by
  refine ct_of (by decide) (Nat.le_of_ble_eq_true rfl) (fun f hC hm => ?_)
  have hC : Cx x f "AnswersFirst$Seen" cX4_agreesWith 2 { frames := 0, cells := 0, slots := 0, locals := 0 } := hC
  show GG x f 2 (Qm x f (φB M)) 0 [(0, .ref (x.1 26)), (1, .int a1)] [] M _
  unfold sX4_agreesWith
  refine g_iload_n hC 1 dX4_agreesWith_0 rfl rfl ?_
  refine g_aload_n hC 0 dX4_agreesWith_1 rfl rfl ?_
  refine g_getI hC cf4 rfl 1 (by decide) rfl m_208 dX4_agreesWith_2 ?_
  refine g_iand hC dX4_agreesWith_5 ?_
  refine g_aload_n hC 0 dX4_agreesWith_6 rfl rfl ?_
  refine g_getI hC cf4 rfl 1 (by decide) rfl m_208 dX4_agreesWith_7 ?_
  refine g_icmp_ne hC 26 dX4_agreesWith_10 (by decide) ?_ ?_
  · refine g_iconst hC (v := (0 : Int32)) dX4_agreesWith_26 (by decide) ?_
    exact g_zret hC hm rfl rfl dX4_agreesWith_27
  · refine g_iload_n hC 1 dX4_agreesWith_13 rfl rfl ?_
    refine g_aload_n hC 0 dX4_agreesWith_14 rfl rfl ?_
    refine g_getI hC cf4 rfl 2 (by decide) rfl m_209 dX4_agreesWith_15 ?_
    refine g_iand hC dX4_agreesWith_18 ?_
    refine g_if_ne hC 26 dX4_agreesWith_19 (by decide) ?_ ?_
    · refine g_iconst hC (v := (0 : Int32)) dX4_agreesWith_26 (by decide) ?_
      exact g_zret hC hm rfl rfl dX4_agreesWith_27
    · refine g_iconst hC (v := (1 : Int32)) dX4_agreesWith_22 (by decide) ?_
      refine g_goto hC 27 dX4_agreesWith_23 (by decide) ?_
      exact g_zret hC hm rfl rfl dX4_agreesWith_27
def sX2_beginWith (F : Nat) (a1 : Int32) (M : Mem) : Option Mem :=
nm (st2 M 27 0 a1) (fun M1 =>
some M1)
theorem mvX2_beginWith : MV yX2_beginWith cX2_beginWith 2 none 1 := ⟨⟨m_774, m_74, by decide, by decide, by decide⟩, m_772, m_773⟩
set_option maxHeartbeats 4000000 in
set_option maxRecDepth 100000 in
theorem ctX2_beginWith (x : Wx) (F : Nat) (a1 : Int32) (M : Mem) : Ct x yX2_beginWith cX2_beginWith 2 none { frames := 0, cells := 0, slots := 0, locals := 0 } φM [.ref (x.1 27), .int a1] M (sX2_beginWith F a1 M) := by
  refine ct_of (by decide) (Nat.le_of_ble_eq_true rfl) (fun f hC hm => ?_)
  have hC : Cx x f "AnswersFirst$Lots" cX2_beginWith 2 { frames := 0, cells := 0, slots := 0, locals := 0 } := hC
  show GG x f 2 (Qm x f φM) 0 [(0, .ref (x.1 27)), (1, .int a1)] [] M _
  unfold sX2_beginWith
  refine g_aload_n hC 0 dX2_beginWith_0 rfl rfl ?_
  refine g_iload_n hC 1 dX2_beginWith_1 rfl rfl ?_
  refine g_put hC cf2 rfl 0 (by decide) rfl m_223 rfl rfl rfl dX2_beginWith_2 (fun M1 => ?_)
  show GG x f 2 (Qm x f φM) 5 [(0, .ref (x.1 27)), (1, .int a1)] [] M1 _
  exact g_vret hC hm rfl dX2_beginWith_5
def sX2_draw (F : Nat) (a1 : Int32) (M : Mem) : Option (Int32 × Mem) :=
nm (st2 M 27 0 (((1103515245 : Int32) * (M 27 0)) + (12345 : Int32))) (fun M1 =>
if a1 ≤ 0 then
(some ((0 : Int32), M1))
else
(nz a1 (
some (((ush (M1 27 0) (16 : Int32)) - (ush (M1 27 0) (16 : Int32)) / a1 * a1), M1))))
theorem mvX2_draw : MV yX2_draw cX2_draw 2 (some .int) 1 := ⟨⟨m_782, m_74, by decide, by decide, by decide⟩, m_781, m_17⟩
set_option maxHeartbeats 4000000 in
set_option maxRecDepth 100000 in
theorem ctX2_draw (x : Wx) (F : Nat) (a1 : Int32) (M : Mem) : Ct x yX2_draw cX2_draw 2 (some .int) { frames := 0, cells := 0, slots := 0, locals := 0 } φIM [.ref (x.1 27), .int a1] M (sX2_draw F a1 M) := by
  refine ct_of (by decide) (Nat.le_of_ble_eq_true rfl) (fun f hC hm => ?_)
  have hC : Cx x f "AnswersFirst$Lots" cX2_draw 2 { frames := 0, cells := 0, slots := 0, locals := 0 } := hC
  show GG x f 2 (Qm x f φIM) 0 [(0, .ref (x.1 27)), (1, .int a1)] [] M _
  unfold sX2_draw
  refine g_aload_n hC 0 dX2_draw_0 rfl rfl ?_
  refine g_ldc hC (v := (1103515245 : Int32)) m_783 dX2_draw_1 ?_
  refine g_aload_n hC 0 dX2_draw_3 rfl rfl ?_
  refine g_getI hC cf2 rfl 0 (by decide) rfl m_223 dX2_draw_4 ?_
  refine g_imul hC dX2_draw_7 ?_
  refine g_sipush hC (v := (12345 : Int32)) dX2_draw_8 (by decide) ?_
  refine g_iadd hC dX2_draw_11 ?_
  refine g_put hC cf2 rfl 0 (by decide) rfl m_223 rfl rfl rfl dX2_draw_12 (fun M1 => ?_)
  show GG x f 2 (Qm x f φIM) 15 [(0, .ref (x.1 27)), (1, .int a1)] [] M1 _
  refine g_iload_n hC 1 dX2_draw_15 rfl rfl ?_
  refine g_if_le hC 31 dX2_draw_16 (by decide) ?_ ?_
  · refine g_iconst hC (v := (0 : Int32)) dX2_draw_31 (by decide) ?_
    exact g_iret hC hm rfl dX2_draw_32
  · refine g_aload_n hC 0 dX2_draw_19 rfl rfl ?_
    refine g_getI hC cf2 rfl 0 (by decide) rfl m_223 dX2_draw_20 ?_
    refine g_bipush hC (v := (16 : Int32)) dX2_draw_23 (by decide) ?_
    refine g_iushr hC dX2_draw_25 ?_
    refine g_iload_n hC 1 dX2_draw_26 rfl rfl ?_
    refine g_irem hC dX2_draw_27 ?_
    refine g_goto hC 32 dX2_draw_28 (by decide) ?_
    exact g_iret hC hm rfl dX2_draw_32
def sX2_drawRow_L4 (F : Nat) (a1 : Int32) (rec4 : Int32 → Int32 → Mem → Option (Int32 × Mem)) (p1 : Int32) (p2 : Int32) (M3 : Mem) : Option (Int32 × Mem) :=
if a1 ≤ p2 then
(some (p1, M3))
else
((sX2_draw F (2 : Int32) M3).bind (fun r5 =>
nm (p1 ||| (r5.1 <<< (p2 &&& 31))) (fun v6 =>
rec4 v6 (p2 + (1 : Int32)) r5.2)))
def sX2_drawRow (F : Nat) (a1 : Int32) (M : Mem) : Option (Int32 × Mem) :=
fx3 F (sX2_drawRow_L4 F a1) (0 : Int32) (0 : Int32) M
theorem mvX2_drawRow : MV yX2_drawRow cX2_drawRow 4 (some .int) 1 := ⟨⟨m_778, m_74, by decide, by decide, by decide⟩, m_776, m_777⟩
set_option maxHeartbeats 4000000 in
set_option maxRecDepth 100000 in
theorem ctX2_drawRow (x : Wx) (F : Nat) (a1 : Int32) (M : Mem) : Ct x yX2_drawRow cX2_drawRow 4 (some .int) { frames := 1, cells := 0, slots := 0, locals := 21 } φIM [.ref (x.1 27), .int a1] M (sX2_drawRow F a1 M) := by
  refine ct_of (by decide) (Nat.le_of_ble_eq_true rfl) (fun f hC hm => ?_)
  have hC : Cx x f "AnswersFirst$Lots" cX2_drawRow 4 { frames := 1, cells := 0, slots := 0, locals := 21 } := hC
  show GG x f 4 (Qm x f φIM) 0 [(0, .ref (x.1 27)), (1, .int a1)] [] M _
  unfold sX2_drawRow
  refine g_iconst hC (v := (0 : Int32)) dX2_drawRow_0 (by decide) ?_
  refine g_istore_n hC (lv' := [(0, .ref (x.1 27)), (1, .int a1), (2, .int (0 : Int32))]) [1, 2, 0] dX2_drawRow_1 rfl (by decide) rfl ?_
  refine g_iconst hC (v := (0 : Int32)) dX2_drawRow_2 (by decide) ?_
  refine g_istore_n hC (lv' := [(0, .ref (x.1 27)), (1, .int a1), (2, .int (0 : Int32)), (3, .int (0 : Int32))]) [1, 2, 3, 0] dX2_drawRow_3 rfl (by decide) rfl ?_
  refine g_fx3 (fun (p1 : Int32) (p2 : Int32) (M3 : Mem) => [(0, .ref (x.1 27)), (1, .int a1), (2, .int p1), (3, .int p2)]) (fun (p1 : Int32) (p2 : Int32) (M3 : Mem) => M3) (fun rec4 hrec4 p1 p2 M3 => ?_) F _ _ _
  show GG x f 4 (Qm x f φIM) 4 [(0, .ref (x.1 27)), (1, .int a1), (2, .int p1), (3, .int p2)] [] M3 _
  unfold sX2_drawRow_L4
  refine g_iload_n hC 3 dX2_drawRow_4 rfl rfl ?_
  refine g_iload_n hC 1 dX2_drawRow_5 rfl rfl ?_
  refine g_icmp_ge hC 25 dX2_drawRow_6 (by decide) ?_ ?_
  · refine g_iload_n hC 2 dX2_drawRow_25 rfl rfl ?_
    exact g_iret hC hm rfl dX2_drawRow_26
  · refine g_iload_n hC 2 dX2_drawRow_9 rfl rfl ?_
    refine g_aload_n hC 0 dX2_drawRow_10 rfl rfl ?_
    refine g_iconst hC (v := (2 : Int32)) dX2_drawRow_11 (by decide) ?_
    refine g_callv hC (st := [.int p1]) (c := 2) rfl (by decide) rfl (ctX2_draw x F (2 : Int32) M3) mvX2_draw m_779 (by decide) rfl rfl (Nat.le_of_ble_eq_true rfl) dX2_drawRow_12 (fun r5 => ?_)
    show GG x f 4 (Qm x f φIM) 15 [(0, .ref (x.1 27)), (1, .int a1), (2, .int p1), (3, .int p2)] [.int (r5.1), .int p1] r5.2 _
    refine g_iload_n hC 3 dX2_drawRow_15 rfl rfl ?_
    refine g_ishl hC dX2_drawRow_16 ?_
    refine g_ior hC dX2_drawRow_17 ?_
    refine g_top (fun v6 => ?_)
    show GG x f 4 (Qm x f φIM) 18 [(0, .ref (x.1 27)), (1, .int a1), (2, .int p1), (3, .int p2)] [.int v6] r5.2 _
    refine g_istore_n hC (lv' := [(0, .ref (x.1 27)), (1, .int a1), (2, .int v6), (3, .int p2)]) [1, 2, 0, 3] dX2_drawRow_18 rfl (by decide) rfl ?_
    refine g_iinc hC (q := 3) (v := (1 : Int32)) (lv' := [(0, .ref (x.1 27)), (1, .int a1), (2, .int v6), (3, .int (p2 + (1 : Int32)))]) [1, 2, 3, 0] dX2_drawRow_19 rfl (by decide) (by decide) rfl ?_
    refine g_goto hC 4 dX2_drawRow_22 (by decide) ?_
    exact hrec4 v6 (p2 + (1 : Int32)) r5.2
def sX5_begin (F : Nat) (k : Nat) (a1 : Int32) (a2 : Int32) (M : Mem) : Option Mem :=
nm (st2 M k 1 a1) (fun M1 =>
nm (st2 M1 k 2 (imax (0 : Int32) (imin a2 (48 : Int32)))) (fun M2 =>
(sJ7_fill_53178 F (k + 4) (0 : Int32) M2).bind (fun r3 =>
some r3)))
theorem mvX5_begin : MV yX5_begin cX5_begin 3 none 2 := ⟨⟨m_791, m_75, by decide, by decide, by decide⟩, m_789, m_790⟩
set_option maxHeartbeats 4000000 in
set_option maxRecDepth 100000 in
theorem ctX5_begin (x : Wx) (F : Nat) (k : Nat) (a1 : Int32) (a2 : Int32) (hk : kd k = 5) (M : Mem) : Ct x yX5_begin cX5_begin 3 none { frames := 1, cells := 0, slots := 0, locals := 23 } φM [.ref (x.1 k), .int a1, .int a2] M (sX5_begin F k a1 a2 M) := by
  refine ct_of (by decide) (Nat.le_of_ble_eq_true rfl) (fun f hC hm => ?_)
  have hC : Cx x f "AnswersFirst$Sheet" cX5_begin 3 { frames := 1, cells := 0, slots := 0, locals := 23 } := hC
  show GG x f 3 (Qm x f φM) 0 [(0, .ref (x.1 k)), (1, .int a1), (2, .int a2)] [] M _
  unfold sX5_begin
  refine g_aload_n hC 0 dX5_begin_0 rfl rfl ?_
  refine g_iload_n hC 1 dX5_begin_1 rfl rfl ?_
  refine g_put hC cf5 hk 1 (by decide) rfl m_235 rfl rfl rfl dX5_begin_2 (fun M1 => ?_)
  show GG x f 3 (Qm x f φM) 5 [(0, .ref (x.1 k)), (1, .int a1), (2, .int a2)] [] M1 _
  refine g_aload_n hC 0 dX5_begin_5 rfl rfl ?_
  refine g_iconst hC (v := (0 : Int32)) dX5_begin_6 (by decide) ?_
  refine g_iload_n hC 2 dX5_begin_7 rfl rfl ?_
  refine g_bipush hC (v := (48 : Int32)) dX5_begin_8 (by decide) ?_
  refine g_mmin hC m_792 m_342 m_69 (mM_min) (by decide) (Nat.le_of_ble_eq_true rfl) dX5_begin_10 ?_
  refine g_mmax hC m_793 m_101 m_69 (mM_max) (by decide) (Nat.le_of_ble_eq_true rfl) dX5_begin_13 ?_
  refine g_put hC cf5 hk 2 (by decide) rfl m_236 rfl rfl rfl dX5_begin_16 (fun M2 => ?_)
  show GG x f 3 (Qm x f φM) 19 [(0, .ref (x.1 k)), (1, .int a1), (2, .int a2)] [] M2 _
  refine g_aload_n hC 0 dX5_begin_19 rfl rfl ?_
  refine g_getR hC cf5 (t := (k + 4)) hk 0 (by decide) rfl m_234 dX5_begin_20 ?_
  refine g_iconst hC (v := (0 : Int32)) dX5_begin_23 (by decide) ?_
  refine g_calls hC (st := []) (ctJ7_fill_53178 x F (k + 4) (0 : Int32) (ki_S hk) M2) msJ7_fill_53178 m_794 (by decide) rfl rfl (Nat.le_of_ble_eq_true rfl) dX5_begin_24 (fun r3 => ?_)
  show GG x f 3 (Qm x f φM) 27 [(0, .ref (x.1 k)), (1, .int a1), (2, .int a2)] [] r3 _
  exact g_vret hC hm rfl dX5_begin_27
def sX5_becomeLost (F : Nat) (k : Nat) (M : Mem) : Option Mem :=
nm (st2 M k 1 (-1 : Int32)) (fun M1 =>
nm (st2 M1 k 2 (0 : Int32)) (fun M2 =>
some M2))
theorem mvX5_becomeLost : MV yX5_becomeLost cX5_becomeLost 1 none 0 := ⟨⟨m_802, m_75, by decide, by decide, by decide⟩, m_800, m_801⟩
set_option maxHeartbeats 4000000 in
set_option maxRecDepth 100000 in
theorem ctX5_becomeLost (x : Wx) (F : Nat) (k : Nat) (hk : kd k = 5) (M : Mem) : Ct x yX5_becomeLost cX5_becomeLost 1 none { frames := 0, cells := 0, slots := 0, locals := 0 } φM [.ref (x.1 k)] M (sX5_becomeLost F k M) := by
  refine ct_of (by decide) (Nat.le_of_ble_eq_true rfl) (fun f hC hm => ?_)
  have hC : Cx x f "AnswersFirst$Sheet" cX5_becomeLost 1 { frames := 0, cells := 0, slots := 0, locals := 0 } := hC
  show GG x f 1 (Qm x f φM) 0 [(0, .ref (x.1 k))] [] M _
  unfold sX5_becomeLost
  refine g_aload_n hC 0 dX5_becomeLost_0 rfl rfl ?_
  refine g_iconst hC (v := (-1 : Int32)) dX5_becomeLost_1 (by decide) ?_
  refine g_put hC cf5 hk 1 (by decide) rfl m_235 rfl rfl rfl dX5_becomeLost_2 (fun M1 => ?_)
  show GG x f 1 (Qm x f φM) 5 [(0, .ref (x.1 k))] [] M1 _
  refine g_aload_n hC 0 dX5_becomeLost_5 rfl rfl ?_
  refine g_iconst hC (v := (0 : Int32)) dX5_becomeLost_6 (by decide) ?_
  refine g_put hC cf5 hk 2 (by decide) rfl m_236 rfl rfl rfl dX5_becomeLost_7 (fun M2 => ?_)
  show GG x f 1 (Qm x f φM) 10 [(0, .ref (x.1 k))] [] M2 _
  exact g_vret hC hm rfl dX5_becomeLost_10
def sX5_form (F : Nat) (k : Nat) (M : Mem) : Option Int32 :=
some (M k 1)
theorem mvX5_form : MV yX5_form cX5_form 1 (some .int) 0 := ⟨⟨m_814, m_75, by decide, by decide, by decide⟩, m_812, m_813⟩
set_option maxHeartbeats 4000000 in
set_option maxRecDepth 100000 in
theorem ctX5_form (x : Wx) (F : Nat) (k : Nat) (hk : kd k = 5) (M : Mem) : Ct x yX5_form cX5_form 1 (some .int) { frames := 0, cells := 0, slots := 0, locals := 0 } (φI M) [.ref (x.1 k)] M (sX5_form F k M) := by
  refine ct_of (by decide) (Nat.le_of_ble_eq_true rfl) (fun f hC hm => ?_)
  have hC : Cx x f "AnswersFirst$Sheet" cX5_form 1 { frames := 0, cells := 0, slots := 0, locals := 0 } := hC
  show GG x f 1 (Qm x f (φI M)) 0 [(0, .ref (x.1 k))] [] M _
  unfold sX5_form
  refine g_aload_n hC 0 dX5_form_0 rfl rfl ?_
  refine g_getI hC cf5 hk 1 (by decide) rfl m_235 dX5_form_1 ?_
  exact g_iret hC hm rfl dX5_form_4
def sX5_narrowed (F : Nat) (k : Nat) (a1 : Int32) (M : Mem) : Option Int32 :=
nm (M k 1) (fun v1 =>
if v1 = (0 : Int32) then
(some (a1.toInt8.toInt32))
else if v1 = (1 : Int32) then
(some (a1.toInt16.toInt32))
else
(some a1))
theorem mvX5_narrowed : MV yX5_narrowed cX5_narrowed 2 (some .int) 1 := ⟨⟨m_822, m_75, by decide, by decide, by decide⟩, m_821, m_19⟩
set_option maxHeartbeats 4000000 in
set_option maxRecDepth 100000 in
theorem ctX5_narrowed (x : Wx) (F : Nat) (k : Nat) (a1 : Int32) (hk : kd k = 5) (M : Mem) : Ct x yX5_narrowed cX5_narrowed 2 (some .int) { frames := 0, cells := 0, slots := 0, locals := 0 } (φI M) [.ref (x.1 k), .int a1] M (sX5_narrowed F k a1 M) := by
  refine ct_of (by decide) (Nat.le_of_ble_eq_true rfl) (fun f hC hm => ?_)
  have hC : Cx x f "AnswersFirst$Sheet" cX5_narrowed 2 { frames := 0, cells := 0, slots := 0, locals := 0 } := hC
  show GG x f 2 (Qm x f (φI M)) 0 [(0, .ref (x.1 k)), (1, .int a1)] [] M _
  unfold sX5_narrowed
  refine g_aload_n hC 0 dX5_narrowed_0 rfl rfl ?_
  refine g_getI hC cf5 hk 1 (by decide) rfl m_235 dX5_narrowed_1 ?_
  refine g_top (fun v1 => ?_)
  show GG x f 2 (Qm x f (φI M)) 4 [(0, .ref (x.1 k)), (1, .int a1)] [.int v1] M _
  refine g_lookup2 hC (a := 28) (b := 31) (dflt := 34) (0 : Int32) (1 : Int32) 32 35 38 dX5_narrowed_4 (by decide) (by decide) (by decide) (by decide) ?_ ?_ ?_
  · refine g_iload_n hC 1 dX5_narrowed_32 rfl rfl ?_
    refine g_i2b hC dX5_narrowed_33 ?_
    exact g_iret hC hm rfl dX5_narrowed_34
  · refine g_iload_n hC 1 dX5_narrowed_35 rfl rfl ?_
    refine g_i2s hC dX5_narrowed_36 ?_
    exact g_iret hC hm rfl dX5_narrowed_37
  · refine g_iload_n hC 1 dX5_narrowed_38 rfl rfl ?_
    exact g_iret hC hm rfl dX5_narrowed_39
def sX5_setItem (F : Nat) (k : Nat) (a1 : Int32) (a2 : Int32) (M : Mem) : Option Mem :=
if a1 < 0 then
(some M)
else
(if (M k 2) ≤ a1 then
(some M)
else
(if (48 : Int32) ≤ a1 then
(some M)
else
((sX5_narrowed F k a2 M).bind (fun r1 =>
ib a1 48 (
nm (st2 M (k + 4) (ix a1) r1) (fun M2 =>
some M2))))))
theorem mvX5_setItem : MV yX5_setItem cX5_setItem 3 none 2 := ⟨⟨m_818, m_75, by decide, by decide, by decide⟩, m_816, m_817⟩
set_option maxHeartbeats 4000000 in
set_option maxRecDepth 100000 in
theorem ctX5_setItem (x : Wx) (F : Nat) (k : Nat) (a1 : Int32) (a2 : Int32) (hk : kd k = 5) (M : Mem) : Ct x yX5_setItem cX5_setItem 3 none { frames := 1, cells := 0, slots := 0, locals := 21 } φM [.ref (x.1 k), .int a1, .int a2] M (sX5_setItem F k a1 a2 M) := by
  refine ct_of (by decide) (Nat.le_of_ble_eq_true rfl) (fun f hC hm => ?_)
  have hC : Cx x f "AnswersFirst$Sheet" cX5_setItem 3 { frames := 1, cells := 0, slots := 0, locals := 21 } := hC
  show GG x f 3 (Qm x f φM) 0 [(0, .ref (x.1 k)), (1, .int a1), (2, .int a2)] [] M _
  unfold sX5_setItem
  refine g_iload_n hC 1 dX5_setItem_0 rfl rfl ?_
  refine g_if_lt hC 29 dX5_setItem_1 (by decide) ?_ ?_
  · exact g_vret hC hm rfl dX5_setItem_29
  · refine g_iload_n hC 1 dX5_setItem_4 rfl rfl ?_
    refine g_aload_n hC 0 dX5_setItem_5 rfl rfl ?_
    refine g_getI hC cf5 hk 2 (by decide) rfl m_236 dX5_setItem_6 ?_
    refine g_icmp_ge hC 29 dX5_setItem_9 (by decide) ?_ ?_
    · exact g_vret hC hm rfl dX5_setItem_29
    · refine g_iload_n hC 1 dX5_setItem_12 rfl rfl ?_
      refine g_bipush hC (v := (48 : Int32)) dX5_setItem_13 (by decide) ?_
      refine g_icmp_ge hC 29 dX5_setItem_15 (by decide) ?_ ?_
      · exact g_vret hC hm rfl dX5_setItem_29
      · refine g_aload_n hC 0 dX5_setItem_18 rfl rfl ?_
        refine g_getR hC cf5 (t := (k + 4)) hk 0 (by decide) rfl m_234 dX5_setItem_19 ?_
        refine g_iload_n hC 1 dX5_setItem_22 rfl rfl ?_
        refine g_aload_n hC 0 dX5_setItem_23 rfl rfl ?_
        refine g_iload_n hC 2 dX5_setItem_24 rfl rfl ?_
        refine g_callv hC (st := [.int a1, .ref (x.1 (k + 4))]) (c := 5) rfl (by decide) hk (ctX5_narrowed x F k a2 hk M) mvX5_narrowed m_819 (by decide) rfl rfl (Nat.le_of_ble_eq_true rfl) dX5_setItem_25 (fun r1 => ?_)
        show GG x f 3 (Qm x f φM) 28 [(0, .ref (x.1 k)), (1, .int a1), (2, .int a2)] [.int r1, .int a1, .ref (x.1 (k + 4))] M _
        refine g_iast hC (ki_S hk) (li_S hk) dX5_setItem_28 (fun M2 => ?_)
        show GG x f 3 (Qm x f φM) 29 [(0, .ref (x.1 k)), (1, .int a1), (2, .int a2)] [] M2 _
        exact g_vret hC hm rfl dX5_setItem_29
def sX5_hasRun (F : Nat) (k : Nat) (a1 : Int32) (a2 : Int32) (M : Mem) : Option Bool :=
if a1 < 0 then
(some false)
else
(if a2 < 0 then
(some false)
else
(if (M k 2) < a1 then
(some false)
else
(if ((M k 2) - a1) < a2 then
(some false)
else
(some true))))
theorem mvX5_hasRun : MV yX5_hasRun cX5_hasRun 3 (some .boolean) 2 := ⟨⟨m_835, m_75, by decide, by decide, by decide⟩, m_833, m_834⟩
set_option maxHeartbeats 4000000 in
set_option maxRecDepth 100000 in
theorem ctX5_hasRun (x : Wx) (F : Nat) (k : Nat) (a1 : Int32) (a2 : Int32) (hk : kd k = 5) (M : Mem) : Ct x yX5_hasRun cX5_hasRun 3 (some .boolean) { frames := 0, cells := 0, slots := 0, locals := 0 } (φB M) [.ref (x.1 k), .int a1, .int a2] M (sX5_hasRun F k a1 a2 M) := by
  refine ct_of (by decide) (Nat.le_of_ble_eq_true rfl) (fun f hC hm => ?_)
  have hC : Cx x f "AnswersFirst$Sheet" cX5_hasRun 3 { frames := 0, cells := 0, slots := 0, locals := 0 } := hC
  show GG x f 3 (Qm x f (φB M)) 0 [(0, .ref (x.1 k)), (1, .int a1), (2, .int a2)] [] M _
  unfold sX5_hasRun
  refine g_iload_n hC 1 dX5_hasRun_0 rfl rfl ?_
  refine g_if_lt hC 30 dX5_hasRun_1 (by decide) ?_ ?_
  · refine g_iconst hC (v := (0 : Int32)) dX5_hasRun_30 (by decide) ?_
    exact g_zret hC hm rfl rfl dX5_hasRun_31
  · refine g_iload_n hC 2 dX5_hasRun_4 rfl rfl ?_
    refine g_if_lt hC 30 dX5_hasRun_5 (by decide) ?_ ?_
    · refine g_iconst hC (v := (0 : Int32)) dX5_hasRun_30 (by decide) ?_
      exact g_zret hC hm rfl rfl dX5_hasRun_31
    · refine g_iload_n hC 1 dX5_hasRun_8 rfl rfl ?_
      refine g_aload_n hC 0 dX5_hasRun_9 rfl rfl ?_
      refine g_getI hC cf5 hk 2 (by decide) rfl m_236 dX5_hasRun_10 ?_
      refine g_icmp_gt hC 30 dX5_hasRun_13 (by decide) ?_ ?_
      · refine g_iconst hC (v := (0 : Int32)) dX5_hasRun_30 (by decide) ?_
        exact g_zret hC hm rfl rfl dX5_hasRun_31
      · refine g_iload_n hC 2 dX5_hasRun_16 rfl rfl ?_
        refine g_aload_n hC 0 dX5_hasRun_17 rfl rfl ?_
        refine g_getI hC cf5 hk 2 (by decide) rfl m_236 dX5_hasRun_18 ?_
        refine g_iload_n hC 1 dX5_hasRun_21 rfl rfl ?_
        refine g_isub hC dX5_hasRun_22 ?_
        refine g_icmp_gt hC 30 dX5_hasRun_23 (by decide) ?_ ?_
        · refine g_iconst hC (v := (0 : Int32)) dX5_hasRun_30 (by decide) ?_
          exact g_zret hC hm rfl rfl dX5_hasRun_31
        · refine g_iconst hC (v := (1 : Int32)) dX5_hasRun_26 (by decide) ?_
          refine g_goto hC 31 dX5_hasRun_27 (by decide) ?_
          exact g_zret hC hm rfl rfl dX5_hasRun_31
def sX5_takeRun (F : Nat) (k : Nat) (k1 : Nat) (a2 : Int32) (a3 : Int32) (a4 : Int32) (M : Mem) : Option Mem :=
(sX5_hasRun F k1 a2 a4 M).bind (fun r1 =>
if r1 = true then
((sX5_hasRun F k a3 a4 M).bind (fun r2 =>
if r2 = true then
(cpb 48 48 a2 a3 a4 (
nm (stC M (k + 4) (va_cpy (M (k1 + 4)) (M (k + 4)) (ix a2) (ix a3) (ix a4))) (fun M3 =>
some M3)))
else
(some M)))
else
(some M))
theorem mvX5_takeRun : MV yX5_takeRun cX5_takeRun 5 none 4 := ⟨⟨m_839, m_75, by decide, by decide, by decide⟩, m_837, m_838⟩
set_option maxHeartbeats 4000000 in
set_option maxRecDepth 100000 in
theorem ctX5_takeRun (x : Wx) (F : Nat) (k : Nat) (k1 : Nat) (a2 : Int32) (a3 : Int32) (a4 : Int32) (hk : kd k = 5) (h1 : kd k1 = 5) (M : Mem) : Ct x yX5_takeRun cX5_takeRun 5 none { frames := 1, cells := 0, slots := 0, locals := 30 } φM [.ref (x.1 k), .ref (x.1 k1), .int a2, .int a3, .int a4] M (sX5_takeRun F k k1 a2 a3 a4 M) := by
  refine ct_of (by decide) (Nat.le_of_ble_eq_true rfl) (fun f hC hm => ?_)
  have hC : Cx x f "AnswersFirst$Sheet" cX5_takeRun 5 { frames := 1, cells := 0, slots := 0, locals := 30 } := hC
  show GG x f 5 (Qm x f φM) 0 [(0, .ref (x.1 k)), (1, .ref (x.1 k1)), (2, .int a2), (3, .int a3), (4, .int a4)] [] M _
  unfold sX5_takeRun
  refine g_aload_n hC 1 dX5_takeRun_0 rfl rfl ?_
  refine g_ifnull hC dX5_takeRun_1 ?_
  refine g_aload_n hC 1 dX5_takeRun_4 rfl rfl ?_
  refine g_iload_n hC 2 dX5_takeRun_5 rfl rfl ?_
  refine g_iload hC 4 dX5_takeRun_6 rfl ?_
  refine g_callv hC (st := []) (c := 5) rfl (by decide) h1 (ctX5_hasRun x F k1 a2 a4 h1 M) mvX5_hasRun m_840 (by decide) rfl rfl (Nat.le_of_ble_eq_true rfl) dX5_takeRun_8 (fun r1 => ?_)
  show GG x f 5 (Qm x f φM) 11 [(0, .ref (x.1 k)), (1, .ref (x.1 k1)), (2, .int a2), (3, .int a3), (4, .int a4)] [.int (bi r1)] M _
  refine g_ifB_eq hC 39 dX5_takeRun_11 (by decide) ?_ ?_
  · refine g_aload_n hC 0 dX5_takeRun_14 rfl rfl ?_
    refine g_iload_n hC 3 dX5_takeRun_15 rfl rfl ?_
    refine g_iload hC 4 dX5_takeRun_16 rfl ?_
    refine g_callv hC (st := []) (c := 5) rfl (by decide) hk (ctX5_hasRun x F k a3 a4 hk M) mvX5_hasRun m_840 (by decide) rfl rfl (Nat.le_of_ble_eq_true rfl) dX5_takeRun_18 (fun r2 => ?_)
    show GG x f 5 (Qm x f φM) 21 [(0, .ref (x.1 k)), (1, .ref (x.1 k1)), (2, .int a2), (3, .int a3), (4, .int a4)] [.int (bi r2)] M _
    refine g_ifB_eq hC 39 dX5_takeRun_21 (by decide) ?_ ?_
    · refine g_aload_n hC 1 dX5_takeRun_24 rfl rfl ?_
      refine g_getR hC cf5 (t := (k1 + 4)) h1 0 (by decide) rfl m_234 dX5_takeRun_25 ?_
      refine g_iload_n hC 2 dX5_takeRun_28 rfl rfl ?_
      refine g_aload_n hC 0 dX5_takeRun_29 rfl rfl ?_
      refine g_getR hC cf5 (t := (k + 4)) hk 0 (by decide) rfl m_234 dX5_takeRun_30 ?_
      refine g_iload_n hC 3 dX5_takeRun_33 rfl rfl ?_
      refine g_iload hC 4 dX5_takeRun_34 rfl ?_
      refine g_copy hC (ki_S h1) (ki_S hk) (li_S h1) (li_S hk) m_841 m_843 m_842 m_84 (by decide) (by decide) dX5_takeRun_36 (fun M3 => ?_)
      show GG x f 5 (Qm x f φM) 39 [(0, .ref (x.1 k)), (1, .ref (x.1 k1)), (2, .int a2), (3, .int a3), (4, .int a4)] [] M3 _
      exact g_vret hC hm rfl dX5_takeRun_39
    · exact g_vret hC hm rfl dX5_takeRun_39
  · exact g_vret hC hm rfl dX5_takeRun_39
