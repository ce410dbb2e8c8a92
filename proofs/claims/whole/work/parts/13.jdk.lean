def sJ0_isLatin1_aae02 (F : Nat) (k : Nat) (M : Mem) : Option Bool :=
if (1 : Int32) = 0 then
(some false)
else
(if ¬ (0 : Int32) = 0 then
(some false)
else
(some true))
theorem mvJ0_isLatin1_aae02 : MV yJ0_isLatin1_aae02 cJ0_isLatin1_aae02 1 (some .boolean) 0 := ⟨⟨m_323, m_77, by decide, by decide, by decide⟩, m_321, m_322⟩
set_option maxHeartbeats 4000000 in
set_option maxRecDepth 100000 in
theorem ctJ0_isLatin1_aae02 (x : Wx) (F : Nat) (k : Nat) (hk : 64 ≤ k ∧ k < 66) (M : Mem) : Ct x yJ0_isLatin1_aae02 cJ0_isLatin1_aae02 1 (some .boolean) { frames := 0, cells := 0, slots := 0, locals := 0 } (φB M) [.ref (x.1 k)] M (sJ0_isLatin1_aae02 F k M) := by
  refine ct_of (by decide) (Nat.le_of_ble_eq_true rfl) (fun f hC hm => ?_)
  have hC : Cx x f "java/lang/String" cJ0_isLatin1_aae02 1 { frames := 0, cells := 0, slots := 0, locals := 0 } := hC
  show GG x f 1 (Qm x f (φB M)) 0 [(0, .ref (x.1 k))] [] M _
  unfold sJ0_isLatin1_aae02
  refine g_tcs hC m_324 dJ0_isLatin1_aae02_0 ?_
  refine g_if_eq hC 17 dJ0_isLatin1_aae02_3 (by decide) ?_ ?_
  · refine g_iconst hC (v := (0 : Int32)) dJ0_isLatin1_aae02_17 (by decide) ?_
    exact g_zret hC hm rfl rfl dJ0_isLatin1_aae02_18
  · refine g_aload_n hC 0 dJ0_isLatin1_aae02_6 rfl rfl ?_
    refine g_tcod hC hk m_1338 dJ0_isLatin1_aae02_7 ?_
    refine g_if_ne hC 17 dJ0_isLatin1_aae02_10 (by decide) ?_ ?_
    · refine g_iconst hC (v := (0 : Int32)) dJ0_isLatin1_aae02_17 (by decide) ?_
      exact g_zret hC hm rfl rfl dJ0_isLatin1_aae02_18
    · refine g_iconst hC (v := (1 : Int32)) dJ0_isLatin1_aae02_13 (by decide) ?_
      refine g_goto hC 18 dJ0_isLatin1_aae02_14 (by decide) ?_
      exact g_zret hC hm rfl rfl dJ0_isLatin1_aae02_18
def sJ0_coder_7d493 (F : Nat) (k : Nat) (M : Mem) : Option Int32 :=
if (1 : Int32) = 0 then
(some (1 : Int32))
else
(some (0 : Int32))
theorem mvJ0_coder_7d493 : MV yJ0_coder_7d493 cJ0_coder_7d493 1 (some .byte) 0 := ⟨⟨m_333, m_77, by decide, by decide, by decide⟩, m_331, m_332⟩
set_option maxHeartbeats 4000000 in
set_option maxRecDepth 100000 in
theorem ctJ0_coder_7d493 (x : Wx) (F : Nat) (k : Nat) (hk : 64 ≤ k ∧ k < 66) (M : Mem) : Ct x yJ0_coder_7d493 cJ0_coder_7d493 1 (some .byte) { frames := 0, cells := 0, slots := 0, locals := 0 } (φI M) [.ref (x.1 k)] M (sJ0_coder_7d493 F k M) := by
  refine ct_of (by decide) (Nat.le_of_ble_eq_true rfl) (fun f hC hm => ?_)
  have hC : Cx x f "java/lang/String" cJ0_coder_7d493 1 { frames := 0, cells := 0, slots := 0, locals := 0 } := hC
  show GG x f 1 (Qm x f (φI M)) 0 [(0, .ref (x.1 k))] [] M _
  unfold sJ0_coder_7d493
  refine g_tcs hC m_324 dJ0_coder_7d493_0 ?_
  refine g_if_eq hC 13 dJ0_coder_7d493_3 (by decide) ?_ ?_
  · refine g_iconst hC (v := (1 : Int32)) dJ0_coder_7d493_13 (by decide) ?_
    exact g_bret hC hm rfl rfl dJ0_coder_7d493_14
  · refine g_aload_n hC 0 dJ0_coder_7d493_6 rfl rfl ?_
    refine g_tcod hC hk m_1338 dJ0_coder_7d493_7 ?_
    refine g_goto hC 14 dJ0_coder_7d493_10 (by decide) ?_
    exact g_bret hC hm rfl rfl dJ0_coder_7d493_14
def sJ0_length_8abf5 (F : Nat) (k : Nat) (M : Mem) : Option Int32 :=
(sJ0_coder_7d493 F k M).bind (fun r1 =>
some ((Int32.ofNat (rbL (k + 2))) >>> (r1 &&& 31)))
theorem mvJ0_length_8abf5 : MV yJ0_length_8abf5 cJ0_length_8abf5 1 (some .int) 0 := ⟨⟨m_329, m_77, by decide, by decide, by decide⟩, m_327, m_328⟩
set_option maxHeartbeats 4000000 in
set_option maxRecDepth 100000 in
theorem ctJ0_length_8abf5 (x : Wx) (F : Nat) (k : Nat) (hk : 64 ≤ k ∧ k < 66) (M : Mem) : Ct x yJ0_length_8abf5 cJ0_length_8abf5 1 (some .int) { frames := 1, cells := 0, slots := 0, locals := 20 } (φI M) [.ref (x.1 k)] M (sJ0_length_8abf5 F k M) := by
  refine ct_of (by decide) (Nat.le_of_ble_eq_true rfl) (fun f hC hm => ?_)
  have hC : Cx x f "java/lang/String" cJ0_length_8abf5 1 { frames := 1, cells := 0, slots := 0, locals := 20 } := hC
  show GG x f 1 (Qm x f (φI M)) 0 [(0, .ref (x.1 k))] [] M _
  unfold sJ0_length_8abf5
  refine g_aload_n hC 0 dJ0_length_8abf5_0 rfl rfl ?_
  refine g_tval hC hk m_1339 dJ0_length_8abf5_1 ?_
  refine g_tlen hC (n := (Int32.ofNat (rbL (k + 2)))) (ka_t hk) rfl dJ0_length_8abf5_4 ?_
  refine g_aload_n hC 0 dJ0_length_8abf5_5 rfl rfl ?_
  refine g_callt hC (st := [.int (Int32.ofNat (rbL (k + 2)))]) hk rfl (ctJ0_coder_7d493 x F k hk M) mvJ0_coder_7d493 m_330 (by decide) rfl rfl (Nat.le_of_ble_eq_true rfl) dJ0_length_8abf5_6 (fun r1 => ?_)
  show GG x f 1 (Qm x f (φI M)) 9 [(0, .ref (x.1 k))] [.int r1, .int (Int32.ofNat (rbL (k + 2)))] M _
  refine g_ishr hC dJ0_length_8abf5_9 ?_
  exact g_iret hC hm rfl dJ0_length_8abf5_10
def sJ1_canEncode_9a6ad (F : Nat) (a1 : Int32) (M : Mem) : Option Bool :=
if a1 < 0 then
(some false)
else
(if (255 : Int32) < a1 then
(some false)
else
(some true))
theorem msJ1_canEncode_9a6ad : MS yJ1_canEncode_9a6ad cJ1_canEncode_9a6ad 1 (some .boolean) 1 := ⟨⟨m_339, m_78, by decide, by decide, by decide⟩, m_338⟩
set_option maxHeartbeats 4000000 in
set_option maxRecDepth 100000 in
theorem ctJ1_canEncode_9a6ad (x : Wx) (F : Nat) (a1 : Int32) (M : Mem) : Ct x yJ1_canEncode_9a6ad cJ1_canEncode_9a6ad 1 (some .boolean) { frames := 0, cells := 0, slots := 0, locals := 0 } (φB M) [.int a1] M (sJ1_canEncode_9a6ad F a1 M) := by
  refine ct_of (by decide) (Nat.le_of_ble_eq_true rfl) (fun f hC hm => ?_)
  have hC : Cx x f "java/lang/StringLatin1" cJ1_canEncode_9a6ad 1 { frames := 0, cells := 0, slots := 0, locals := 0 } := hC
  show GG x f 1 (Qm x f (φB M)) 0 [(0, .int a1)] [] M _
  unfold sJ1_canEncode_9a6ad
  refine g_iload_n hC 0 dJ1_canEncode_9a6ad_0 rfl rfl ?_
  refine g_if_lt hC 15 dJ1_canEncode_9a6ad_1 (by decide) ?_ ?_
  · refine g_iconst hC (v := (0 : Int32)) dJ1_canEncode_9a6ad_15 (by decide) ?_
    exact g_zret hC hm rfl rfl dJ1_canEncode_9a6ad_16
  · refine g_iload_n hC 0 dJ1_canEncode_9a6ad_4 rfl rfl ?_
    refine g_sipush hC (v := (255 : Int32)) dJ1_canEncode_9a6ad_5 (by decide) ?_
    refine g_icmp_gt hC 15 dJ1_canEncode_9a6ad_8 (by decide) ?_ ?_
    · refine g_iconst hC (v := (0 : Int32)) dJ1_canEncode_9a6ad_15 (by decide) ?_
      exact g_zret hC hm rfl rfl dJ1_canEncode_9a6ad_16
    · refine g_iconst hC (v := (1 : Int32)) dJ1_canEncode_9a6ad_11 (by decide) ?_
      refine g_goto hC 16 dJ1_canEncode_9a6ad_12 (by decide) ?_
      exact g_zret hC hm rfl rfl dJ1_canEncode_9a6ad_16
def sJ1_indexOfChar_4cfef_L7 (F : Nat) (k1 : Nat) (a4 : Int32) (v1 : Int32) (rec3 : Int32 → Option Int32) (p2 : Int32) : Option Int32 :=
if a4 ≤ p2 then
(some (-1 : Int32))
else
(ib p2 (rbL k1) (
if ¬ (roB k1 (ix p2)) = v1 then
(rec3 (p2 + (1 : Int32)))
else
(some p2)))
def sJ1_indexOfChar_4cfef (F : Nat) (k1 : Nat) (a2 : Int32) (a3 : Int32) (a4 : Int32) (M : Mem) : Option Int32 :=
nm (a2.toInt8.toInt32) (fun v1 =>
fx1 F (sJ1_indexOfChar_4cfef_L7 F k1 a4 v1) a3)
theorem msJ1_indexOfChar_4cfef : MS yJ1_indexOfChar_4cfef cJ1_indexOfChar_4cfef 6 (some .int) 4 := ⟨⟨m_346, m_78, by decide, by decide, by decide⟩, m_345⟩
set_option maxHeartbeats 4000000 in
set_option maxRecDepth 100000 in
theorem ctJ1_indexOfChar_4cfef (x : Wx) (F : Nat) (k1 : Nat) (a2 : Int32) (a3 : Int32) (a4 : Int32) (h1 : 66 ≤ k1 ∧ k1 < 68) (M : Mem) : Ct x yJ1_indexOfChar_4cfef cJ1_indexOfChar_4cfef 6 (some .int) { frames := 0, cells := 0, slots := 0, locals := 0 } (φI M) [.ref (x.1 k1), .int a2, .int a3, .int a4] M (sJ1_indexOfChar_4cfef F k1 a2 a3 a4 M) := by
  refine ct_of (by decide) (Nat.le_of_ble_eq_true rfl) (fun f hC hm => ?_)
  have hC : Cx x f "java/lang/StringLatin1" cJ1_indexOfChar_4cfef 6 { frames := 0, cells := 0, slots := 0, locals := 0 } := hC
  show GG x f 6 (Qm x f (φI M)) 0 [(0, .ref (x.1 k1)), (1, .int a2), (2, .int a3), (3, .int a4)] [] M _
  unfold sJ1_indexOfChar_4cfef
  refine g_iload_n hC 1 dJ1_indexOfChar_4cfef_0 rfl rfl ?_
  refine g_i2b hC dJ1_indexOfChar_4cfef_1 ?_
  refine g_top (fun v1 => ?_)
  show GG x f 6 (Qm x f (φI M)) 2 [(0, .ref (x.1 k1)), (1, .int a2), (2, .int a3), (3, .int a4)] [.int v1] M _
  refine g_istore hC (lv' := [(0, .ref (x.1 k1)), (2, .int a3), (3, .int a4), (4, .int v1)]) [1, 3, 4, 0] dJ1_indexOfChar_4cfef_2 (by decide) rfl ?_
  refine g_iload_n hC 1 dJ1_indexOfChar_4cfef_4 rfl rfl ?_
  refine g_istore hC (lv' := [(0, .ref (x.1 k1)), (3, .int a4), (4, .int v1), (5, .int a3)]) [1, 3, 4, 0] dJ1_indexOfChar_4cfef_5 (by decide) rfl ?_
  refine g_fx1 (fun (p2 : Int32) => [(0, .ref (x.1 k1)), (3, .int a4), (4, .int v1), (5, .int p2)]) (fun (p2 : Int32) => M) (fun rec3 hrec3 p2 => ?_) F _
  show GG x f 6 (Qm x f (φI M)) 7 [(0, .ref (x.1 k1)), (3, .int a4), (4, .int v1), (5, .int p2)] [] M _
  unfold sJ1_indexOfChar_4cfef_L7
  refine g_iload hC 3 dJ1_indexOfChar_4cfef_7 rfl ?_
  refine g_iload_n hC 1 dJ1_indexOfChar_4cfef_9 rfl rfl ?_
  refine g_icmp_ge hC 31 dJ1_indexOfChar_4cfef_10 (by decide) ?_ ?_
  · refine g_iconst hC (v := (-1 : Int32)) dJ1_indexOfChar_4cfef_31 (by decide) ?_
    exact g_iret hC hm rfl dJ1_indexOfChar_4cfef_32
  · refine g_aload_n hC 0 dJ1_indexOfChar_4cfef_13 rfl rfl ?_
    refine g_iload hC 3 dJ1_indexOfChar_4cfef_14 rfl ?_
    refine g_tald hC h1 rfl dJ1_indexOfChar_4cfef_16 ?_
    refine g_iload hC 2 dJ1_indexOfChar_4cfef_17 rfl ?_
    refine g_icmp_ne hC 25 dJ1_indexOfChar_4cfef_19 (by decide) ?_ ?_
    · refine g_iinc hC (q := 3) (v := (1 : Int32)) (lv' := [(0, .ref (x.1 k1)), (3, .int a4), (4, .int v1), (5, .int (p2 + (1 : Int32)))]) [1, 2, 3, 0] dJ1_indexOfChar_4cfef_25 rfl (by decide) (by decide) rfl ?_
      refine g_goto hC 7 dJ1_indexOfChar_4cfef_28 (by decide) ?_
      exact hrec3 (p2 + (1 : Int32))
    · refine g_iload hC 3 dJ1_indexOfChar_4cfef_22 rfl ?_
      exact g_iret hC hm rfl dJ1_indexOfChar_4cfef_24
def sJ1_indexOf_4cfef (F : Nat) (k1 : Nat) (a2 : Int32) (a3 : Int32) (a4 : Int32) (M : Mem) : Option Int32 :=
(sJ1_canEncode_9a6ad F a2 M).bind (fun r1 =>
if r1 = true then
(nm (imax a3 (0 : Int32)) (fun v2 =>
nm (imin a4 (Int32.ofNat (rbL k1))) (fun v3 =>
if v2 < v3 then
((sJ1_indexOfChar_4cfef F k1 a2 v2 v3 M).bind (fun r4 =>
some r4))
else
(some (-1 : Int32)))))
else
(some (-1 : Int32)))
theorem msJ1_indexOf_4cfef : MS yJ1_indexOf_4cfef cJ1_indexOf_4cfef 4 (some .int) 4 := ⟨⟨m_336, m_78, by decide, by decide, by decide⟩, m_335⟩
set_option maxHeartbeats 4000000 in
set_option maxRecDepth 100000 in
theorem ctJ1_indexOf_4cfef (x : Wx) (F : Nat) (k1 : Nat) (a2 : Int32) (a3 : Int32) (a4 : Int32) (h1 : 66 ≤ k1 ∧ k1 < 68) (M : Mem) : Ct x yJ1_indexOf_4cfef cJ1_indexOf_4cfef 4 (some .int) { frames := 1, cells := 0, slots := 0, locals := 25 } (φI M) [.ref (x.1 k1), .int a2, .int a3, .int a4] M (sJ1_indexOf_4cfef F k1 a2 a3 a4 M) := by
  refine ct_of (by decide) (Nat.le_of_ble_eq_true rfl) (fun f hC hm => ?_)
  have hC : Cx x f "java/lang/StringLatin1" cJ1_indexOf_4cfef 4 { frames := 1, cells := 0, slots := 0, locals := 25 } := hC
  show GG x f 4 (Qm x f (φI M)) 0 [(0, .ref (x.1 k1)), (1, .int a2), (2, .int a3), (3, .int a4)] [] M _
  unfold sJ1_indexOf_4cfef
  refine g_iload_n hC 1 dJ1_indexOf_4cfef_0 rfl rfl ?_
  refine g_calls hC (st := []) (ctJ1_canEncode_9a6ad x F a2 M) msJ1_canEncode_9a6ad m_337 (by decide) rfl rfl (Nat.le_of_ble_eq_true rfl) dJ1_indexOf_4cfef_1 (fun r1 => ?_)
  show GG x f 4 (Qm x f (φI M)) 4 [(0, .ref (x.1 k1)), (1, .int a2), (2, .int a3), (3, .int a4)] [.int (bi r1)] M _
  refine g_ifB_ne hC 9 dJ1_indexOf_4cfef_4 (by decide) ?_ ?_
  · refine g_iload_n hC 2 dJ1_indexOf_4cfef_9 rfl rfl ?_
    refine g_iconst hC (v := (0 : Int32)) dJ1_indexOf_4cfef_10 (by decide) ?_
    refine g_mmax hC m_340 m_101 m_69 (mM_max) (by decide) (Nat.le_of_ble_eq_true rfl) dJ1_indexOf_4cfef_11 ?_
    refine g_top (fun v2 => ?_)
    show GG x f 4 (Qm x f (φI M)) 14 [(0, .ref (x.1 k1)), (1, .int a2), (2, .int a3), (3, .int a4)] [.int v2] M _
    refine g_istore_n hC (lv' := [(0, .ref (x.1 k1)), (1, .int a2), (2, .int v2), (3, .int a4)]) [1, 2, 0, 3] dJ1_indexOf_4cfef_14 rfl (by decide) rfl ?_
    refine g_iload_n hC 3 dJ1_indexOf_4cfef_15 rfl rfl ?_
    refine g_aload_n hC 0 dJ1_indexOf_4cfef_16 rfl rfl ?_
    refine g_tlen hC (n := (Int32.ofNat (rbL k1))) h1 rfl dJ1_indexOf_4cfef_17 ?_
    refine g_mmin hC m_341 m_342 m_69 (mM_min) (by decide) (Nat.le_of_ble_eq_true rfl) dJ1_indexOf_4cfef_18 ?_
    refine g_top (fun v3 => ?_)
    show GG x f 4 (Qm x f (φI M)) 21 [(0, .ref (x.1 k1)), (1, .int a2), (2, .int v2), (3, .int a4)] [.int v3] M _
    refine g_istore_n hC (lv' := [(0, .ref (x.1 k1)), (1, .int a2), (2, .int v2), (3, .int v3)]) [1, 2, 3, 0] dJ1_indexOf_4cfef_21 rfl (by decide) rfl ?_
    refine g_iload_n hC 2 dJ1_indexOf_4cfef_22 rfl rfl ?_
    refine g_iload_n hC 3 dJ1_indexOf_4cfef_23 rfl rfl ?_
    refine g_icmp_lt hC 29 dJ1_indexOf_4cfef_24 (by decide) ?_ ?_
    · refine g_aload_n hC 0 dJ1_indexOf_4cfef_29 rfl rfl ?_
      refine g_iload_n hC 1 dJ1_indexOf_4cfef_30 rfl rfl ?_
      refine g_iload_n hC 2 dJ1_indexOf_4cfef_31 rfl rfl ?_
      refine g_iload_n hC 3 dJ1_indexOf_4cfef_32 rfl rfl ?_
      refine g_calls hC (st := []) (ctJ1_indexOfChar_4cfef x F k1 a2 v2 v3 h1 M) msJ1_indexOfChar_4cfef m_344 (by decide) rfl rfl (Nat.le_of_ble_eq_true rfl) dJ1_indexOf_4cfef_33 (fun r4 => ?_)
      show GG x f 4 (Qm x f (φI M)) 36 [(0, .ref (x.1 k1)), (1, .int a2), (2, .int v2), (3, .int v3)] [.int r4] M _
      exact g_iret hC hm rfl dJ1_indexOf_4cfef_36
    · refine g_iconst hC (v := (-1 : Int32)) dJ1_indexOf_4cfef_27 (by decide) ?_
      exact g_iret hC hm rfl dJ1_indexOf_4cfef_28
  · refine g_iconst hC (v := (-1 : Int32)) dJ1_indexOf_4cfef_7 (by decide) ?_
    exact g_iret hC hm rfl dJ1_indexOf_4cfef_8
def sJ0_indexOf_7cf53 (F : Nat) (k : Nat) (a1 : Int32) (a2 : Int32) (M : Mem) : Option Int32 :=
(sJ0_isLatin1_aae02 F k M).bind (fun r1 =>
if r1 = true then
((sJ0_length_8abf5 F k M).bind (fun r2 =>
(sJ1_indexOf_4cfef F (k + 2) a1 a2 r2 M).bind (fun r3 =>
some r3)))
else
((sJ0_length_8abf5 F k M).bind (fun r4 =>
none)))
theorem mvJ0_indexOf_7cf53 : MV yJ0_indexOf_7cf53 cJ0_indexOf_7cf53 3 (some .int) 2 := ⟨⟨m_319, m_77, by decide, by decide, by decide⟩, m_317, m_318⟩
set_option maxHeartbeats 4000000 in
set_option maxRecDepth 100000 in
theorem ctJ0_indexOf_7cf53 (x : Wx) (F : Nat) (k : Nat) (a1 : Int32) (a2 : Int32) (hk : 64 ≤ k ∧ k < 66) (M : Mem) : Ct x yJ0_indexOf_7cf53 cJ0_indexOf_7cf53 3 (some .int) { frames := 2, cells := 0, slots := 0, locals := 48 } (φI M) [.ref (x.1 k), .int a1, .int a2] M (sJ0_indexOf_7cf53 F k a1 a2 M) := by
  refine ct_of (by decide) (Nat.le_of_ble_eq_true rfl) (fun f hC hm => ?_)
  have hC : Cx x f "java/lang/String" cJ0_indexOf_7cf53 3 { frames := 2, cells := 0, slots := 0, locals := 48 } := hC
  show GG x f 3 (Qm x f (φI M)) 0 [(0, .ref (x.1 k)), (1, .int a1), (2, .int a2)] [] M _
  unfold sJ0_indexOf_7cf53
  refine g_aload_n hC 0 dJ0_indexOf_7cf53_0 rfl rfl ?_
  refine g_callt hC (st := []) hk rfl (ctJ0_isLatin1_aae02 x F k hk M) mvJ0_isLatin1_aae02 m_320 (by decide) rfl rfl (Nat.le_of_ble_eq_true rfl) dJ0_indexOf_7cf53_1 (fun r1 => ?_)
  show GG x f 3 (Qm x f (φI M)) 4 [(0, .ref (x.1 k)), (1, .int a1), (2, .int a2)] [.int (bi r1)] M _
  refine g_ifB_eq hC 23 dJ0_indexOf_7cf53_4 (by decide) ?_ ?_
  · refine g_aload_n hC 0 dJ0_indexOf_7cf53_7 rfl rfl ?_
    refine g_tval hC hk m_1339 dJ0_indexOf_7cf53_8 ?_
    refine g_iload_n hC 1 dJ0_indexOf_7cf53_11 rfl rfl ?_
    refine g_iload_n hC 2 dJ0_indexOf_7cf53_12 rfl rfl ?_
    refine g_aload_n hC 0 dJ0_indexOf_7cf53_13 rfl rfl ?_
    refine g_callt hC (st := [.int a2, .int a1, .ref (x.1 (k + 2))]) hk rfl (ctJ0_length_8abf5 x F k hk M) mvJ0_length_8abf5 m_326 (by decide) rfl rfl (Nat.le_of_ble_eq_true rfl) dJ0_indexOf_7cf53_14 (fun r2 => ?_)
    show GG x f 3 (Qm x f (φI M)) 17 [(0, .ref (x.1 k)), (1, .int a1), (2, .int a2)] [.int r2, .int a2, .int a1, .ref (x.1 (k + 2))] M _
    refine g_calls hC (st := []) (ctJ1_indexOf_4cfef x F (k + 2) a1 a2 r2 (ka_t hk) M) msJ1_indexOf_4cfef m_334 (by decide) rfl rfl (Nat.le_of_ble_eq_true rfl) dJ0_indexOf_7cf53_17 (fun r3 => ?_)
    show GG x f 3 (Qm x f (φI M)) 20 [(0, .ref (x.1 k)), (1, .int a1), (2, .int a2)] [.int r3] M _
    refine g_goto hC 36 dJ0_indexOf_7cf53_20 (by decide) ?_
    exact g_iret hC hm rfl dJ0_indexOf_7cf53_36
  · refine g_aload_n hC 0 dJ0_indexOf_7cf53_23 rfl rfl ?_
    refine g_tval hC hk m_1339 dJ0_indexOf_7cf53_24 ?_
    refine g_iload_n hC 1 dJ0_indexOf_7cf53_27 rfl rfl ?_
    refine g_iload_n hC 2 dJ0_indexOf_7cf53_28 rfl rfl ?_
    refine g_aload_n hC 0 dJ0_indexOf_7cf53_29 rfl rfl ?_
    refine g_callt hC (st := [.int a2, .int a1, .ref (x.1 (k + 2))]) hk rfl (ctJ0_length_8abf5 x F k hk M) mvJ0_length_8abf5 m_326 (by decide) rfl rfl (Nat.le_of_ble_eq_true rfl) dJ0_indexOf_7cf53_30 (fun r4 => ?_)
    show GG x f 3 (Qm x f (φI M)) 33 [(0, .ref (x.1 k)), (1, .int a1), (2, .int a2)] [.int r4, .int a2, .int a1, .ref (x.1 (k + 2))] M _
    exact g_none
def sJ0_indexOf_0f7a4 (F : Nat) (k : Nat) (a1 : Int32) (M : Mem) : Option Int32 :=
(sJ0_indexOf_7cf53 F k a1 (0 : Int32) M).bind (fun r1 =>
some r1)
theorem mvJ0_indexOf_0f7a4 : MV yJ0_indexOf_0f7a4 cJ0_indexOf_0f7a4 2 (some .int) 1 := ⟨⟨m_315, m_77, by decide, by decide, by decide⟩, m_313, m_314⟩
set_option maxHeartbeats 4000000 in
set_option maxRecDepth 100000 in
theorem ctJ0_indexOf_0f7a4 (x : Wx) (F : Nat) (k : Nat) (a1 : Int32) (hk : 64 ≤ k ∧ k < 66) (M : Mem) : Ct x yJ0_indexOf_0f7a4 cJ0_indexOf_0f7a4 2 (some .int) { frames := 3, cells := 0, slots := 0, locals := 70 } (φI M) [.ref (x.1 k), .int a1] M (sJ0_indexOf_0f7a4 F k a1 M) := by
  refine ct_of (by decide) (Nat.le_of_ble_eq_true rfl) (fun f hC hm => ?_)
  have hC : Cx x f "java/lang/String" cJ0_indexOf_0f7a4 2 { frames := 3, cells := 0, slots := 0, locals := 70 } := hC
  show GG x f 2 (Qm x f (φI M)) 0 [(0, .ref (x.1 k)), (1, .int a1)] [] M _
  unfold sJ0_indexOf_0f7a4
  refine g_aload_n hC 0 dJ0_indexOf_0f7a4_0 rfl rfl ?_
  refine g_iload_n hC 1 dJ0_indexOf_0f7a4_1 rfl rfl ?_
  refine g_iconst hC (v := (0 : Int32)) dJ0_indexOf_0f7a4_2 (by decide) ?_
  refine g_callt hC (st := []) hk rfl (ctJ0_indexOf_7cf53 x F k a1 (0 : Int32) hk M) mvJ0_indexOf_7cf53 m_316 (by decide) rfl rfl (Nat.le_of_ble_eq_true rfl) dJ0_indexOf_0f7a4_3 (fun r1 => ?_)
  show GG x f 2 (Qm x f (φI M)) 6 [(0, .ref (x.1 k)), (1, .int a1)] [.int r1] M _
  exact g_iret hC hm rfl dJ0_indexOf_0f7a4_6
def sJ7_fill_53178_L5 (F : Nat) (k1 : Nat) (a2 : Int32) (v1 : Int32) (rec4 : Int32 → Mem → Option Mem) (p2 : Int32) (M3 : Mem) : Option Mem :=
if v1 ≤ p2 then
(some M3)
else
(ib p2 (ln k1) (
nm (st2 M3 k1 (ix p2) a2) (fun M5 =>
rec4 (p2 + (1 : Int32)) M5)))
def sJ7_fill_53178 (F : Nat) (k1 : Nat) (a2 : Int32) (M : Mem) : Option Mem :=
nm (Int32.ofNat (ln k1)) (fun v1 =>
fx2 F (sJ7_fill_53178_L5 F k1 a2 v1) (0 : Int32) M)
theorem msJ7_fill_53178 : MS yJ7_fill_53178 cJ7_fill_53178 4 none 2 := ⟨⟨m_531, m_82, by decide, by decide, by decide⟩, m_530⟩
set_option maxHeartbeats 4000000 in
set_option maxRecDepth 100000 in
theorem ctJ7_fill_53178 (x : Wx) (F : Nat) (k1 : Nat) (a2 : Int32) (h1 : kd k1 = 9) (M : Mem) : Ct x yJ7_fill_53178 cJ7_fill_53178 4 none { frames := 0, cells := 0, slots := 0, locals := 0 } φM [.ref (x.1 k1), .int a2] M (sJ7_fill_53178 F k1 a2 M) := by
  refine ct_of (by decide) (Nat.le_of_ble_eq_true rfl) (fun f hC hm => ?_)
  have hC : Cx x f "java/util/Arrays" cJ7_fill_53178 4 { frames := 0, cells := 0, slots := 0, locals := 0 } := hC
  show GG x f 4 (Qm x f φM) 0 [(0, .ref (x.1 k1)), (1, .int a2)] [] M _
  unfold sJ7_fill_53178
  refine g_iconst hC (v := (0 : Int32)) dJ7_fill_53178_0 (by decide) ?_
  refine g_istore_n hC (lv' := [(0, .ref (x.1 k1)), (1, .int a2), (2, .int (0 : Int32))]) [1, 2, 0] dJ7_fill_53178_1 rfl (by decide) rfl ?_
  refine g_aload_n hC 0 dJ7_fill_53178_2 rfl rfl ?_
  refine g_alen hC (n := (Int32.ofNat (ln k1))) 9 0 h1 (by decide) rfl dJ7_fill_53178_3 ?_
  refine g_top (fun v1 => ?_)
  show GG x f 4 (Qm x f φM) 4 [(0, .ref (x.1 k1)), (1, .int a2), (2, .int (0 : Int32))] [.int v1] M _
  refine g_istore_n hC (lv' := [(0, .ref (x.1 k1)), (1, .int a2), (2, .int (0 : Int32)), (3, .int v1)]) [1, 2, 3, 0] dJ7_fill_53178_4 rfl (by decide) rfl ?_
  refine g_fx2 (fun (p2 : Int32) (M3 : Mem) => [(0, .ref (x.1 k1)), (1, .int a2), (2, .int p2), (3, .int v1)]) (fun (p2 : Int32) (M3 : Mem) => M3) (fun rec4 hrec4 p2 M3 => ?_) F _ _
  show GG x f 4 (Qm x f φM) 5 [(0, .ref (x.1 k1)), (1, .int a2), (2, .int p2), (3, .int v1)] [] M3 _
  unfold sJ7_fill_53178_L5
  refine g_iload_n hC 2 dJ7_fill_53178_5 rfl rfl ?_
  refine g_iload_n hC 3 dJ7_fill_53178_6 rfl rfl ?_
  refine g_icmp_ge hC 20 dJ7_fill_53178_7 (by decide) ?_ ?_
  · exact g_vret hC hm rfl dJ7_fill_53178_20
  · refine g_aload_n hC 0 dJ7_fill_53178_10 rfl rfl ?_
    refine g_iload_n hC 2 dJ7_fill_53178_11 rfl rfl ?_
    refine g_iload_n hC 1 dJ7_fill_53178_12 rfl rfl ?_
    refine g_iast hC h1 rfl dJ7_fill_53178_13 (fun M5 => ?_)
    show GG x f 4 (Qm x f φM) 14 [(0, .ref (x.1 k1)), (1, .int a2), (2, .int p2), (3, .int v1)] [] M5 _
    refine g_iinc hC (q := 2) (v := (1 : Int32)) (lv' := [(0, .ref (x.1 k1)), (1, .int a2), (2, .int (p2 + (1 : Int32))), (3, .int v1)]) [1, 2, 0, 3] dJ7_fill_53178_14 rfl (by decide) (by decide) rfl ?_
    refine g_goto hC 5 dJ7_fill_53178_17 (by decide) ?_
    exact hrec4 (p2 + (1 : Int32)) M5
def sJ6_bitCount_0f7a4 (F : Nat) (a1 : Int32) (M : Mem) : Option Int32 :=
nm (a1 - ((ush a1 (1 : Int32)) &&& (1431655765 : Int32))) (fun v1 =>
nm ((v1 &&& (858993459 : Int32)) + ((ush v1 (2 : Int32)) &&& (858993459 : Int32))) (fun v2 =>
nm ((v2 + (ush v2 (4 : Int32))) &&& (252645135 : Int32)) (fun v3 =>
nm (v3 + (ush v3 (8 : Int32))) (fun v4 =>
nm (v4 + (ush v4 (16 : Int32))) (fun v5 =>
some (v5 &&& (63 : Int32)))))))
theorem msJ6_bitCount_0f7a4 : MS yJ6_bitCount_0f7a4 cJ6_bitCount_0f7a4 1 (some .int) 1 := ⟨⟨m_585, m_83, by decide, by decide, by decide⟩, m_584⟩
set_option maxHeartbeats 4000000 in
set_option maxRecDepth 100000 in
theorem ctJ6_bitCount_0f7a4 (x : Wx) (F : Nat) (a1 : Int32) (M : Mem) : Ct x yJ6_bitCount_0f7a4 cJ6_bitCount_0f7a4 1 (some .int) { frames := 0, cells := 0, slots := 0, locals := 0 } (φI M) [.int a1] M (sJ6_bitCount_0f7a4 F a1 M) := by
  refine ct_of (by decide) (Nat.le_of_ble_eq_true rfl) (fun f hC hm => ?_)
  have hC : Cx x f "java/lang/Integer" cJ6_bitCount_0f7a4 1 { frames := 0, cells := 0, slots := 0, locals := 0 } := hC
  show GG x f 1 (Qm x f (φI M)) 0 [(0, .int a1)] [] M _
  unfold sJ6_bitCount_0f7a4
  refine g_iload_n hC 0 dJ6_bitCount_0f7a4_0 rfl rfl ?_
  refine g_iload_n hC 0 dJ6_bitCount_0f7a4_1 rfl rfl ?_
  refine g_iconst hC (v := (1 : Int32)) dJ6_bitCount_0f7a4_2 (by decide) ?_
  refine g_iushr hC dJ6_bitCount_0f7a4_3 ?_
  refine g_ldcw hC (v := (1431655765 : Int32)) m_586 dJ6_bitCount_0f7a4_4 ?_
  refine g_iand hC dJ6_bitCount_0f7a4_7 ?_
  refine g_isub hC dJ6_bitCount_0f7a4_8 ?_
  refine g_top (fun v1 => ?_)
  show GG x f 1 (Qm x f (φI M)) 9 [(0, .int a1)] [.int v1] M _
  refine g_istore_n hC (lv' := [(0, .int v1)]) [0] dJ6_bitCount_0f7a4_9 rfl (by decide) rfl ?_
  refine g_iload_n hC 0 dJ6_bitCount_0f7a4_10 rfl rfl ?_
  refine g_ldcw hC (v := (858993459 : Int32)) m_587 dJ6_bitCount_0f7a4_11 ?_
  refine g_iand hC dJ6_bitCount_0f7a4_14 ?_
  refine g_iload_n hC 0 dJ6_bitCount_0f7a4_15 rfl rfl ?_
  refine g_iconst hC (v := (2 : Int32)) dJ6_bitCount_0f7a4_16 (by decide) ?_
  refine g_iushr hC dJ6_bitCount_0f7a4_17 ?_
  refine g_ldcw hC (v := (858993459 : Int32)) m_587 dJ6_bitCount_0f7a4_18 ?_
  refine g_iand hC dJ6_bitCount_0f7a4_21 ?_
  refine g_iadd hC dJ6_bitCount_0f7a4_22 ?_
  refine g_top (fun v2 => ?_)
  show GG x f 1 (Qm x f (φI M)) 23 [(0, .int v1)] [.int v2] M _
  refine g_istore_n hC (lv' := [(0, .int v2)]) [0] dJ6_bitCount_0f7a4_23 rfl (by decide) rfl ?_
  refine g_iload_n hC 0 dJ6_bitCount_0f7a4_24 rfl rfl ?_
  refine g_iload_n hC 0 dJ6_bitCount_0f7a4_25 rfl rfl ?_
  refine g_iconst hC (v := (4 : Int32)) dJ6_bitCount_0f7a4_26 (by decide) ?_
  refine g_iushr hC dJ6_bitCount_0f7a4_27 ?_
  refine g_iadd hC dJ6_bitCount_0f7a4_28 ?_
  refine g_ldcw hC (v := (252645135 : Int32)) m_588 dJ6_bitCount_0f7a4_29 ?_
  refine g_iand hC dJ6_bitCount_0f7a4_32 ?_
  refine g_top (fun v3 => ?_)
  show GG x f 1 (Qm x f (φI M)) 33 [(0, .int v2)] [.int v3] M _
  refine g_istore_n hC (lv' := [(0, .int v3)]) [0] dJ6_bitCount_0f7a4_33 rfl (by decide) rfl ?_
  refine g_iload_n hC 0 dJ6_bitCount_0f7a4_34 rfl rfl ?_
  refine g_iload_n hC 0 dJ6_bitCount_0f7a4_35 rfl rfl ?_
  refine g_bipush hC (v := (8 : Int32)) dJ6_bitCount_0f7a4_36 (by decide) ?_
  refine g_iushr hC dJ6_bitCount_0f7a4_38 ?_
  refine g_iadd hC dJ6_bitCount_0f7a4_39 ?_
  refine g_top (fun v4 => ?_)
  show GG x f 1 (Qm x f (φI M)) 40 [(0, .int v3)] [.int v4] M _
  refine g_istore_n hC (lv' := [(0, .int v4)]) [0] dJ6_bitCount_0f7a4_40 rfl (by decide) rfl ?_
  refine g_iload_n hC 0 dJ6_bitCount_0f7a4_41 rfl rfl ?_
  refine g_iload_n hC 0 dJ6_bitCount_0f7a4_42 rfl rfl ?_
  refine g_bipush hC (v := (16 : Int32)) dJ6_bitCount_0f7a4_43 (by decide) ?_
  refine g_iushr hC dJ6_bitCount_0f7a4_45 ?_
  refine g_iadd hC dJ6_bitCount_0f7a4_46 ?_
  refine g_top (fun v5 => ?_)
  show GG x f 1 (Qm x f (φI M)) 47 [(0, .int v4)] [.int v5] M _
  refine g_istore_n hC (lv' := [(0, .int v5)]) [0] dJ6_bitCount_0f7a4_47 rfl (by decide) rfl ?_
  refine g_iload_n hC 0 dJ6_bitCount_0f7a4_48 rfl rfl ?_
  refine g_bipush hC (v := (63 : Int32)) dJ6_bitCount_0f7a4_49 (by decide) ?_
  refine g_iand hC dJ6_bitCount_0f7a4_51 ?_
  exact g_iret hC hm rfl dJ6_bitCount_0f7a4_52
