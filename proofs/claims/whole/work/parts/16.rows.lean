def sX3_isTurnedBy (F : Nat) (a1 : Int32) (a2 : Int32) (M : Mem) : Option Bool :=
if a1 = (4 : Int32) then
(some true)
else
(nm (if ¬ a1 = (3 : Int32) then
(some false)
else
(if ¬ a2 = 0 then
(some false)
else
(some true))) (fun J1 =>
if ¬ a1 = (2 : Int32) then
(J1)
else
(if a2 = (1 : Int32) then
(some true)
else
(J1))))
theorem msX3_isTurnedBy : MS yX3_isTurnedBy cX3_isTurnedBy 2 (some .boolean) 2 := ⟨⟨m_535, m_71, by decide, by decide, by decide⟩, m_534⟩
set_option maxHeartbeats 4000000 in
set_option maxRecDepth 100000 in
theorem ctX3_isTurnedBy (x : Wx) (F : Nat) (a1 : Int32) (a2 : Int32) (M : Mem) : Ct x yX3_isTurnedBy cX3_isTurnedBy 2 (some .boolean) { frames := 0, cells := 0, slots := 0, locals := 0 } (φB M) [.int a1, .int a2] M (sX3_isTurnedBy F a1 a2 M) := by
  refine ct_of (by decide) (Nat.le_of_ble_eq_true rfl) (fun f hC hm => ?_)
  have hC : Cx x f "AnswersFirst$Rows" cX3_isTurnedBy 2 { frames := 0, cells := 0, slots := 0, locals := 0 } := hC
  show GG x f 2 (Qm x f (φB M)) 0 [(0, .int a1), (1, .int a2)] [] M _
  unfold sX3_isTurnedBy
  refine g_iload_n hC 0 dX3_isTurnedBy_0 rfl rfl ?_
  refine g_iconst hC (v := (4 : Int32)) dX3_isTurnedBy_1 (by decide) ?_
  refine g_icmp_eq hC 24 dX3_isTurnedBy_2 (by decide) ?_ ?_
  · refine g_iconst hC (v := (1 : Int32)) dX3_isTurnedBy_24 (by decide) ?_
    refine g_goto hC 29 dX3_isTurnedBy_25 (by decide) ?_
    exact g_zret hC hm rfl rfl dX3_isTurnedBy_29
  · refine g_iload_n hC 0 dX3_isTurnedBy_5 rfl rfl ?_
    refine g_iconst hC (v := (2 : Int32)) dX3_isTurnedBy_6 (by decide) ?_
    refine g_nm (fun (J1 : Option Bool) => GG x f 2 (Qm x f (φB M)) 15 [(0, .int a1), (1, .int a2)] [] M J1) ?_ (fun J1 hJ1 => ?_)
    · show GG x f 2 (Qm x f (φB M)) 15 [(0, .int a1), (1, .int a2)] [] M _
      refine g_iload_n hC 0 dX3_isTurnedBy_15 rfl rfl ?_
      refine g_iconst hC (v := (3 : Int32)) dX3_isTurnedBy_16 (by decide) ?_
      refine g_icmp_ne hC 28 dX3_isTurnedBy_17 (by decide) ?_ ?_
      · refine g_iconst hC (v := (0 : Int32)) dX3_isTurnedBy_28 (by decide) ?_
        exact g_zret hC hm rfl rfl dX3_isTurnedBy_29
      · refine g_iload_n hC 1 dX3_isTurnedBy_20 rfl rfl ?_
        refine g_if_ne hC 28 dX3_isTurnedBy_21 (by decide) ?_ ?_
        · refine g_iconst hC (v := (0 : Int32)) dX3_isTurnedBy_28 (by decide) ?_
          exact g_zret hC hm rfl rfl dX3_isTurnedBy_29
        · refine g_iconst hC (v := (1 : Int32)) dX3_isTurnedBy_24 (by decide) ?_
          refine g_goto hC 29 dX3_isTurnedBy_25 (by decide) ?_
          exact g_zret hC hm rfl rfl dX3_isTurnedBy_29
    refine g_icmp_ne hC 15 dX3_isTurnedBy_7 (by decide) ?_ ?_
    · exact hJ1
    · refine g_iload_n hC 1 dX3_isTurnedBy_10 rfl rfl ?_
      refine g_iconst hC (v := (1 : Int32)) dX3_isTurnedBy_11 (by decide) ?_
      refine g_icmp_eq hC 24 dX3_isTurnedBy_12 (by decide) ?_ ?_
      · refine g_iconst hC (v := (1 : Int32)) dX3_isTurnedBy_24 (by decide) ?_
        refine g_goto hC 29 dX3_isTurnedBy_25 (by decide) ?_
        exact g_zret hC hm rfl rfl dX3_isTurnedBy_29
      · exact hJ1
def sX3_findTies_L10 (F : Nat) (k1 : Nat) (a2 : Int32) (rec4 : Int32 → Mem → Option Mem) (p2 : Int32) (M3 : Mem) : Option Mem :=
if (M3 17 5) ≤ p2 then
(some M3)
else
((sX1_part F k1 p2 (5 : Int32) M3).bind (fun r5 =>
nm (fun (q6 : Int32) =>
nm (fun (q8 : Int32) =>
nm (fun (q10 : Int32) =>
ib p2 10 (
nm (st2 M3 21 (ix p2) q10) (fun M12 =>
nm (fun (M13 : Mem) =>
rec4 (p2 + (1 : Int32)) M13) (fun J14 =>
if q8 = 0 then
(J14 M12)
else
((sX1_part F k1 p2 (4 : Int32) M12).bind (fun r15 =>
(sX1_part F k1 r5 (3 : Int32) M12).bind (fun r16 =>
(sX3_isTurnedBy F r15 r16 M12).bind (fun r17 =>
if r17 = true then
(ib r5 10 (
ib r5 10 (
nm (st2 M12 22 (ix r5) ((M12 22 (ix r5)) ||| ((1 : Int32) <<< (p2 &&& 31)))) (fun M18 =>
J14 M18))))
else
(J14 M12))))))))) (fun J11 =>
if q8 = 0 then
(J11 (-1 : Int32))
else
(J11 r5))) (fun J9 =>
nm (J9 (0 : Int32)) (fun J19 =>
if q6 = 0 then
(J19)
else
((sX1_part F k1 r5 (2 : Int32) M3).bind (fun r20 =>
(sX1_part F k1 p2 (2 : Int32) M3).bind (fun r21 =>
if r21 < (r20 - a2) then
(J19)
else
(J9 (1 : Int32)))))))) (fun J7 =>
nm (J7 (0 : Int32)) (fun J22 =>
if r5 < 0 then
(J22)
else
(if (M3 17 5) ≤ r5 then
(J22)
else
(J7 (1 : Int32)))))))
def sX3_findTies (F : Nat) (k1 : Nat) (a2 : Int32) (M : Mem) : Option Mem :=
(sJ7_fill_53178 F 22 (0 : Int32) M).bind (fun r1 =>
fx2 F (sX3_findTies_L10 F k1 a2) (0 : Int32) r1)
theorem mvX3_findTies : MV yX3_findTies cX3_findTies 7 none 2 := ⟨⟨m_528, m_71, by decide, by decide, by decide⟩, m_527, m_7⟩
set_option maxHeartbeats 4000000 in
set_option maxRecDepth 100000 in
theorem ctX3_findTies (x : Wx) (F : Nat) (k1 : Nat) (a2 : Int32) (h1 : kd k1 = 1) (M : Mem) : Ct x yX3_findTies cX3_findTies 7 none { frames := 1, cells := 0, slots := 0, locals := 23 } φM [.ref (x.1 17), .ref (x.1 k1), .int a2] M (sX3_findTies F k1 a2 M) := by
  refine ct_of (by decide) (Nat.le_of_ble_eq_true rfl) (fun f hC hm => ?_)
  have hC : Cx x f "AnswersFirst$Rows" cX3_findTies 7 { frames := 1, cells := 0, slots := 0, locals := 23 } := hC
  show GG x f 7 (Qm x f φM) 0 [(0, .ref (x.1 17)), (1, .ref (x.1 k1)), (2, .int a2)] [] M _
  unfold sX3_findTies
  refine g_aload_n hC 0 dX3_findTies_0 rfl rfl ?_
  refine g_getR hC cf3 (t := 22) rfl 4 (by decide) rfl m_158 dX3_findTies_1 ?_
  refine g_iconst hC (v := (0 : Int32)) dX3_findTies_4 (by decide) ?_
  refine g_calls hC (st := []) (ctJ7_fill_53178 x F 22 (0 : Int32) rfl M) msJ7_fill_53178 m_529 (by decide) rfl rfl (Nat.le_of_ble_eq_true rfl) dX3_findTies_5 (fun r1 => ?_)
  show GG x f 7 (Qm x f φM) 8 [(0, .ref (x.1 17)), (1, .ref (x.1 k1)), (2, .int a2)] [] r1 _
  refine g_iconst hC (v := (0 : Int32)) dX3_findTies_8 (by decide) ?_
  refine g_istore_n hC (lv' := [(0, .ref (x.1 17)), (1, .ref (x.1 k1)), (2, .int a2), (3, .int (0 : Int32))]) [1, 2, 3, 0] dX3_findTies_9 rfl (by decide) rfl ?_
  refine g_fx2 (fun (p2 : Int32) (M3 : Mem) => [(0, .ref (x.1 17)), (1, .ref (x.1 k1)), (2, .int a2), (3, .int p2)]) (fun (p2 : Int32) (M3 : Mem) => M3) (fun rec4 hrec4 p2 M3 => ?_) F _ _
  show GG x f 7 (Qm x f φM) 10 [(0, .ref (x.1 17)), (1, .ref (x.1 k1)), (2, .int a2), (3, .int p2)] [] M3 _
  unfold sX3_findTies_L10
  refine g_iload_n hC 3 dX3_findTies_10 rfl rfl ?_
  refine g_aload_n hC 0 dX3_findTies_11 rfl rfl ?_
  refine g_getI hC cf3 rfl 5 (by decide) rfl m_159 dX3_findTies_12 ?_
  refine g_icmp_ge hC 137 dX3_findTies_15 (by decide) ?_ ?_
  · exact g_vret hC hm rfl dX3_findTies_137
  · refine g_aload_n hC 1 dX3_findTies_18 rfl rfl ?_
    refine g_iload_n hC 3 dX3_findTies_19 rfl rfl ?_
    refine g_iconst hC (v := (5 : Int32)) dX3_findTies_20 (by decide) ?_
    refine g_callv hC (st := []) (c := 1) rfl (by decide) h1 (ctX1_part x F k1 p2 (5 : Int32) h1 M3) mvX1_part m_532 (by decide) rfl rfl (Nat.le_of_ble_eq_true rfl) dX3_findTies_21 (fun r5 => ?_)
    show GG x f 7 (Qm x f φM) 24 [(0, .ref (x.1 17)), (1, .ref (x.1 k1)), (2, .int a2), (3, .int p2)] [.int r5] M3 _
    refine g_istore hC (lv' := [(0, .ref (x.1 17)), (1, .ref (x.1 k1)), (2, .int a2), (3, .int p2), (4, .int r5)]) [1, 2, 3, 4, 0] dX3_findTies_24 (by decide) rfl ?_
    refine g_iload hC 4 dX3_findTies_26 rfl ?_
    refine g_nm (fun (J7 : Int32 → Option Mem) => ∀ (q6 : Int32), GG x f 7 (Qm x f φM) 45 [(0, .ref (x.1 17)), (1, .ref (x.1 k1)), (2, .int a2), (3, .int p2), (4, .int r5)] [.int q6] M3 (J7 q6)) (fun q6 => ?_) (fun J7 hJ7 => ?_)
    · show GG x f 7 (Qm x f φM) 45 [(0, .ref (x.1 17)), (1, .ref (x.1 k1)), (2, .int a2), (3, .int p2), (4, .int r5)] [.int q6] M3 _
      refine g_istore hC (lv' := [(0, .ref (x.1 17)), (1, .ref (x.1 k1)), (2, .int a2), (3, .int p2), (4, .int r5), (5, .int q6)]) [1, 2, 3, 4, 5, 0] dX3_findTies_45 (by decide) rfl ?_
      refine g_iload hC 5 dX3_findTies_47 rfl ?_
      refine g_nm (fun (J9 : Int32 → Option Mem) => ∀ (q8 : Int32), GG x f 7 (Qm x f φM) 75 [(0, .ref (x.1 17)), (1, .ref (x.1 k1)), (2, .int a2), (3, .int p2), (4, .int r5)] [.int q8] M3 (J9 q8)) (fun q8 => ?_) (fun J9 hJ9 => ?_)
      · show GG x f 7 (Qm x f φM) 75 [(0, .ref (x.1 17)), (1, .ref (x.1 k1)), (2, .int a2), (3, .int p2), (4, .int r5)] [.int q8] M3 _
        refine g_istore hC (lv' := [(0, .ref (x.1 17)), (1, .ref (x.1 k1)), (2, .int a2), (3, .int p2), (4, .int r5), (6, .int q8)]) [1, 2, 3, 4, 5, 0] dX3_findTies_75 (by decide) rfl ?_
        refine g_aload_n hC 0 dX3_findTies_77 rfl rfl ?_
        refine g_getR hC cf3 (t := 21) rfl 3 (by decide) rfl m_157 dX3_findTies_78 ?_
        refine g_iload_n hC 3 dX3_findTies_81 rfl rfl ?_
        refine g_iload hC 5 dX3_findTies_82 rfl ?_
        refine g_nm (fun (J11 : Int32 → Option Mem) => ∀ (q10 : Int32), GG x f 7 (Qm x f φM) 93 [(0, .ref (x.1 17)), (1, .ref (x.1 k1)), (2, .int a2), (3, .int p2), (4, .int r5), (6, .int q8)] [.int q10, .int p2, .ref (x.1 21)] M3 (J11 q10)) (fun q10 => ?_) (fun J11 hJ11 => ?_)
        · show GG x f 7 (Qm x f φM) 93 [(0, .ref (x.1 17)), (1, .ref (x.1 k1)), (2, .int a2), (3, .int p2), (4, .int r5), (6, .int q8)] [.int q10, .int p2, .ref (x.1 21)] M3 _
          refine g_iast hC rfl rfl dX3_findTies_93 (fun M12 => ?_)
          show GG x f 7 (Qm x f φM) 94 [(0, .ref (x.1 17)), (1, .ref (x.1 k1)), (2, .int a2), (3, .int p2), (4, .int r5), (6, .int q8)] [] M12 _
          refine g_iload hC 5 dX3_findTies_94 rfl ?_
          refine g_nm (fun (J14 : Mem → Option Mem) => ∀ (M13 : Mem), GG x f 7 (Qm x f φM) 131 [(0, .ref (x.1 17)), (1, .ref (x.1 k1)), (2, .int a2), (3, .int p2)] [] M13 (J14 M13)) (fun M13 => ?_) (fun J14 hJ14 => ?_)
          · show GG x f 7 (Qm x f φM) 131 [(0, .ref (x.1 17)), (1, .ref (x.1 k1)), (2, .int a2), (3, .int p2)] [] M13 _
            refine g_iinc hC (q := 3) (v := (1 : Int32)) (lv' := [(0, .ref (x.1 17)), (1, .ref (x.1 k1)), (2, .int a2), (3, .int (p2 + (1 : Int32)))]) [1, 2, 3, 0] dX3_findTies_131 rfl (by decide) (by decide) rfl ?_
            refine g_goto hC 10 dX3_findTies_134 (by decide) ?_
            exact hrec4 (p2 + (1 : Int32)) M13
          refine g_if_eq hC 131 dX3_findTies_96 (by decide) ?_ ?_
          · refine g_lv (lv' := [(0, .ref (x.1 17)), (1, .ref (x.1 k1)), (2, .int a2), (3, .int p2)]) [0, 1, 2, 3] rfl ?_
            exact hJ14 M12
          · refine g_aload_n hC 1 dX3_findTies_99 rfl rfl ?_
            refine g_iload_n hC 3 dX3_findTies_100 rfl rfl ?_
            refine g_iconst hC (v := (4 : Int32)) dX3_findTies_101 (by decide) ?_
            refine g_callv hC (st := []) (c := 1) rfl (by decide) h1 (ctX1_part x F k1 p2 (4 : Int32) h1 M12) mvX1_part m_532 (by decide) rfl rfl (Nat.le_of_ble_eq_true rfl) dX3_findTies_102 (fun r15 => ?_)
            show GG x f 7 (Qm x f φM) 105 [(0, .ref (x.1 17)), (1, .ref (x.1 k1)), (2, .int a2), (3, .int p2), (4, .int r5), (6, .int q8)] [.int r15] M12 _
            refine g_aload_n hC 1 dX3_findTies_105 rfl rfl ?_
            refine g_iload hC 4 dX3_findTies_106 rfl ?_
            refine g_iconst hC (v := (3 : Int32)) dX3_findTies_108 (by decide) ?_
            refine g_callv hC (st := [.int r15]) (c := 1) rfl (by decide) h1 (ctX1_part x F k1 r5 (3 : Int32) h1 M12) mvX1_part m_532 (by decide) rfl rfl (Nat.le_of_ble_eq_true rfl) dX3_findTies_109 (fun r16 => ?_)
            show GG x f 7 (Qm x f φM) 112 [(0, .ref (x.1 17)), (1, .ref (x.1 k1)), (2, .int a2), (3, .int p2), (4, .int r5), (6, .int q8)] [.int r16, .int r15] M12 _
            refine g_calls hC (st := []) (ctX3_isTurnedBy x F r15 r16 M12) msX3_isTurnedBy m_533 (by decide) rfl rfl (Nat.le_of_ble_eq_true rfl) dX3_findTies_112 (fun r17 => ?_)
            show GG x f 7 (Qm x f φM) 115 [(0, .ref (x.1 17)), (1, .ref (x.1 k1)), (2, .int a2), (3, .int p2), (4, .int r5), (6, .int q8)] [.int (bi r17)] M12 _
            refine g_ifB_eq hC 131 dX3_findTies_115 (by decide) ?_ ?_
            · refine g_aload_n hC 0 dX3_findTies_118 rfl rfl ?_
              refine g_getR hC cf3 (t := 22) rfl 4 (by decide) rfl m_158 dX3_findTies_119 ?_
              refine g_iload hC 4 dX3_findTies_122 rfl ?_
              refine g_dup2 hC dX3_findTies_124 rfl rfl ?_
              refine g_iald hC rfl rfl dX3_findTies_125 ?_
              refine g_iconst hC (v := (1 : Int32)) dX3_findTies_126 (by decide) ?_
              refine g_iload_n hC 3 dX3_findTies_127 rfl rfl ?_
              refine g_ishl hC dX3_findTies_128 ?_
              refine g_ior hC dX3_findTies_129 ?_
              refine g_iast hC rfl rfl dX3_findTies_130 (fun M18 => ?_)
              show GG x f 7 (Qm x f φM) 131 [(0, .ref (x.1 17)), (1, .ref (x.1 k1)), (2, .int a2), (3, .int p2), (4, .int r5), (6, .int q8)] [] M18 _
              refine g_lv (lv' := [(0, .ref (x.1 17)), (1, .ref (x.1 k1)), (2, .int a2), (3, .int p2)]) [0, 1, 2, 3] rfl ?_
              exact hJ14 M18
            · refine g_lv (lv' := [(0, .ref (x.1 17)), (1, .ref (x.1 k1)), (2, .int a2), (3, .int p2)]) [0, 1, 2, 3] rfl ?_
              exact hJ14 M12
        refine g_if_eq hC 92 dX3_findTies_84 (by decide) ?_ ?_
        · refine g_iconst hC (v := (-1 : Int32)) dX3_findTies_92 (by decide) ?_
          exact hJ11 (-1 : Int32)
        · refine g_iload hC 4 dX3_findTies_87 rfl ?_
          refine g_goto hC 93 dX3_findTies_89 (by decide) ?_
          exact hJ11 r5
      refine g_nm (fun (J19 : Option Mem) => GG x f 7 (Qm x f φM) 74 [(0, .ref (x.1 17)), (1, .ref (x.1 k1)), (2, .int a2), (3, .int p2), (4, .int r5)] [] M3 J19) ?_ (fun J19 hJ19 => ?_)
      · show GG x f 7 (Qm x f φM) 74 [(0, .ref (x.1 17)), (1, .ref (x.1 k1)), (2, .int a2), (3, .int p2), (4, .int r5)] [] M3 _
        refine g_iconst hC (v := (0 : Int32)) dX3_findTies_74 (by decide) ?_
        exact hJ9 (0 : Int32)
      refine g_if_eq hC 74 dX3_findTies_49 (by decide) ?_ ?_
      · refine g_lv (lv' := [(0, .ref (x.1 17)), (1, .ref (x.1 k1)), (2, .int a2), (3, .int p2), (4, .int r5)]) [0, 1, 2, 3, 4] rfl ?_
        exact hJ19
      · refine g_aload_n hC 1 dX3_findTies_52 rfl rfl ?_
        refine g_iload hC 4 dX3_findTies_53 rfl ?_
        refine g_iconst hC (v := (2 : Int32)) dX3_findTies_55 (by decide) ?_
        refine g_callv hC (st := []) (c := 1) rfl (by decide) h1 (ctX1_part x F k1 r5 (2 : Int32) h1 M3) mvX1_part m_532 (by decide) rfl rfl (Nat.le_of_ble_eq_true rfl) dX3_findTies_56 (fun r20 => ?_)
        show GG x f 7 (Qm x f φM) 59 [(0, .ref (x.1 17)), (1, .ref (x.1 k1)), (2, .int a2), (3, .int p2), (4, .int r5), (5, .int q6)] [.int r20] M3 _
        refine g_iload_n hC 2 dX3_findTies_59 rfl rfl ?_
        refine g_isub hC dX3_findTies_60 ?_
        refine g_aload_n hC 1 dX3_findTies_61 rfl rfl ?_
        refine g_iload_n hC 3 dX3_findTies_62 rfl rfl ?_
        refine g_iconst hC (v := (2 : Int32)) dX3_findTies_63 (by decide) ?_
        refine g_callv hC (st := [.int (r20 - a2)]) (c := 1) rfl (by decide) h1 (ctX1_part x F k1 p2 (2 : Int32) h1 M3) mvX1_part m_532 (by decide) rfl rfl (Nat.le_of_ble_eq_true rfl) dX3_findTies_64 (fun r21 => ?_)
        show GG x f 7 (Qm x f φM) 67 [(0, .ref (x.1 17)), (1, .ref (x.1 k1)), (2, .int a2), (3, .int p2), (4, .int r5), (5, .int q6)] [.int r21, .int (r20 - a2)] M3 _
        refine g_icmp_gt hC 74 dX3_findTies_67 (by decide) ?_ ?_
        · refine g_lv (lv' := [(0, .ref (x.1 17)), (1, .ref (x.1 k1)), (2, .int a2), (3, .int p2), (4, .int r5)]) [0, 1, 2, 3, 4] rfl ?_
          exact hJ19
        · refine g_iconst hC (v := (1 : Int32)) dX3_findTies_70 (by decide) ?_
          refine g_goto hC 75 dX3_findTies_71 (by decide) ?_
          refine g_lv (lv' := [(0, .ref (x.1 17)), (1, .ref (x.1 k1)), (2, .int a2), (3, .int p2), (4, .int r5)]) [0, 1, 2, 3, 4] rfl ?_
          exact hJ9 (1 : Int32)
    refine g_nm (fun (J22 : Option Mem) => GG x f 7 (Qm x f φM) 44 [(0, .ref (x.1 17)), (1, .ref (x.1 k1)), (2, .int a2), (3, .int p2), (4, .int r5)] [] M3 J22) ?_ (fun J22 hJ22 => ?_)
    · show GG x f 7 (Qm x f φM) 44 [(0, .ref (x.1 17)), (1, .ref (x.1 k1)), (2, .int a2), (3, .int p2), (4, .int r5)] [] M3 _
      refine g_iconst hC (v := (0 : Int32)) dX3_findTies_44 (by decide) ?_
      exact hJ7 (0 : Int32)
    refine g_if_lt hC 44 dX3_findTies_28 (by decide) ?_ ?_
    · exact hJ22
    · refine g_iload hC 4 dX3_findTies_31 rfl ?_
      refine g_aload_n hC 0 dX3_findTies_33 rfl rfl ?_
      refine g_getI hC cf3 rfl 5 (by decide) rfl m_159 dX3_findTies_34 ?_
      refine g_icmp_ge hC 44 dX3_findTies_37 (by decide) ?_ ?_
      · exact hJ22
      · refine g_iconst hC (v := (1 : Int32)) dX3_findTies_40 (by decide) ?_
        refine g_goto hC 45 dX3_findTies_41 (by decide) ?_
        exact hJ7 (1 : Int32)
def sX3_writtenUnanswered (F : Nat) (k1 : Nat) (M : Mem) : Option Int32 :=
(sX1_with F k1 (4 : Int32) (0 : Int32) M).bind (fun r1 =>
(sX1_with F k1 (4 : Int32) (4 : Int32) M).bind (fun r2 =>
some (r1 ||| r2)))
theorem msX3_writtenUnanswered : MS yX3_writtenUnanswered cX3_writtenUnanswered 1 (some .int) 1 := ⟨⟨m_538, m_71, by decide, by decide, by decide⟩, m_537⟩
set_option maxHeartbeats 4000000 in
set_option maxRecDepth 100000 in
theorem ctX3_writtenUnanswered (x : Wx) (F : Nat) (k1 : Nat) (h1 : kd k1 = 1) (M : Mem) : Ct x yX3_writtenUnanswered cX3_writtenUnanswered 1 (some .int) { frames := 1, cells := 0, slots := 0, locals := 24 } (φI M) [.ref (x.1 k1)] M (sX3_writtenUnanswered F k1 M) := by
  refine ct_of (by decide) (Nat.le_of_ble_eq_true rfl) (fun f hC hm => ?_)
  have hC : Cx x f "AnswersFirst$Rows" cX3_writtenUnanswered 1 { frames := 1, cells := 0, slots := 0, locals := 24 } := hC
  show GG x f 1 (Qm x f (φI M)) 0 [(0, .ref (x.1 k1))] [] M _
  unfold sX3_writtenUnanswered
  refine g_aload_n hC 0 dX3_writtenUnanswered_0 rfl rfl ?_
  refine g_iconst hC (v := (4 : Int32)) dX3_writtenUnanswered_1 (by decide) ?_
  refine g_iconst hC (v := (0 : Int32)) dX3_writtenUnanswered_2 (by decide) ?_
  refine g_callv hC (st := []) (c := 1) rfl (by decide) h1 (ctX1_with x F k1 (4 : Int32) (0 : Int32) h1 M) mvX1_with m_539 (by decide) rfl rfl (Nat.le_of_ble_eq_true rfl) dX3_writtenUnanswered_3 (fun r1 => ?_)
  show GG x f 1 (Qm x f (φI M)) 6 [(0, .ref (x.1 k1))] [.int r1] M _
  refine g_aload_n hC 0 dX3_writtenUnanswered_6 rfl rfl ?_
  refine g_iconst hC (v := (4 : Int32)) dX3_writtenUnanswered_7 (by decide) ?_
  refine g_iconst hC (v := (4 : Int32)) dX3_writtenUnanswered_8 (by decide) ?_
  refine g_callv hC (st := [.int r1]) (c := 1) rfl (by decide) h1 (ctX1_with x F k1 (4 : Int32) (4 : Int32) h1 M) mvX1_with m_539 (by decide) rfl rfl (Nat.le_of_ble_eq_true rfl) dX3_writtenUnanswered_9 (fun r2 => ?_)
  show GG x f 1 (Qm x f (φI M)) 12 [(0, .ref (x.1 k1))] [.int r2, .int r1] M _
  refine g_ior hC dX3_writtenUnanswered_12 ?_
  exact g_iret hC hm rfl dX3_writtenUnanswered_13
def sX3_fillShould_L16 (F : Nat) (p1 : Int32) (v4 : Int32) (J6 : Mem → Option Mem) (rec9 : Int32 → Mem → Option Mem) (p7 : Int32) (M8 : Mem) : Option Mem :=
if ((2 : Int32) * v4) ≤ p7 then
(J6 M8)
else
(if (1024 : Int32) ≤ p7 then
(J6 M8)
else
(ib (p7 - v4) 1024 (
ib p1 10 (
ib p7 1024 (
nm (st2 M8 18 (ix p7) ((M8 18 (ix (p7 - v4))) ^^^ (M8 22 (ix p1)))) (fun M10 =>
rec9 (p7 + (1 : Int32)) M10))))))
def sX3_fillShould_L2 (F : Nat) (rec3 : Int32 → Mem → Option Mem) (p1 : Int32) (M2 : Mem) : Option Mem :=
if (M2 17 5) ≤ p1 then
(some M2)
else
(nm ((1 : Int32) <<< (p1 &&& 31)) (fun v4 =>
nm (fun (M5 : Mem) =>
rec3 (p1 + (1 : Int32)) M5) (fun J6 =>
fx2 F (sX3_fillShould_L16 F p1 v4 J6) v4 M2)))
def sX3_fillShould (F : Nat) (M : Mem) : Option Mem :=
fx2 F (sX3_fillShould_L2 F) (0 : Int32) M
theorem mvX3_fillShould : MV yX3_fillShould cX3_fillShould 4 none 0 := ⟨⟨m_546, m_71, by decide, by decide, by decide⟩, m_545, m_8⟩
set_option maxHeartbeats 4000000 in
set_option maxRecDepth 100000 in
theorem ctX3_fillShould (x : Wx) (F : Nat) (M : Mem) : Ct x yX3_fillShould cX3_fillShould 4 none { frames := 0, cells := 0, slots := 0, locals := 0 } φM [.ref (x.1 17)] M (sX3_fillShould F M) := by
  refine ct_of (by decide) (Nat.le_of_ble_eq_true rfl) (fun f hC hm => ?_)
  have hC : Cx x f "AnswersFirst$Rows" cX3_fillShould 4 { frames := 0, cells := 0, slots := 0, locals := 0 } := hC
  show GG x f 4 (Qm x f φM) 0 [(0, .ref (x.1 17))] [] M _
  unfold sX3_fillShould
  refine g_iconst hC (v := (0 : Int32)) dX3_fillShould_0 (by decide) ?_
  refine g_istore_n hC (lv' := [(0, .ref (x.1 17)), (1, .int (0 : Int32))]) [1, 0] dX3_fillShould_1 rfl (by decide) rfl ?_
  refine g_fx2 (fun (p1 : Int32) (M2 : Mem) => [(0, .ref (x.1 17)), (1, .int p1)]) (fun (p1 : Int32) (M2 : Mem) => M2) (fun rec3 hrec3 p1 M2 => ?_) F _ _
  show GG x f 4 (Qm x f φM) 2 [(0, .ref (x.1 17)), (1, .int p1)] [] M2 _
  unfold sX3_fillShould_L2
  refine g_iload_n hC 1 dX3_fillShould_2 rfl rfl ?_
  refine g_aload_n hC 0 dX3_fillShould_3 rfl rfl ?_
  refine g_getI hC cf3 rfl 5 (by decide) rfl m_159 dX3_fillShould_4 ?_
  refine g_icmp_ge hC 63 dX3_fillShould_7 (by decide) ?_ ?_
  · exact g_vret hC hm rfl dX3_fillShould_63
  · refine g_iconst hC (v := (1 : Int32)) dX3_fillShould_10 (by decide) ?_
    refine g_iload_n hC 1 dX3_fillShould_11 rfl rfl ?_
    refine g_ishl hC dX3_fillShould_12 ?_
    refine g_top (fun v4 => ?_)
    show GG x f 4 (Qm x f φM) 13 [(0, .ref (x.1 17)), (1, .int p1)] [.int v4] M2 _
    refine g_istore_n hC (lv' := [(0, .ref (x.1 17)), (1, .int p1), (2, .int v4)]) [1, 2, 0] dX3_fillShould_13 rfl (by decide) rfl ?_
    refine g_iload_n hC 2 dX3_fillShould_14 rfl rfl ?_
    refine g_istore_n hC (lv' := [(0, .ref (x.1 17)), (1, .int p1), (2, .int v4), (3, .int v4)]) [1, 2, 3, 0] dX3_fillShould_15 rfl (by decide) rfl ?_
    refine g_nm (fun (J6 : Mem → Option Mem) => ∀ (M5 : Mem), GG x f 4 (Qm x f φM) 57 [(0, .ref (x.1 17)), (1, .int p1)] [] M5 (J6 M5)) (fun M5 => ?_) (fun J6 hJ6 => ?_)
    · show GG x f 4 (Qm x f φM) 57 [(0, .ref (x.1 17)), (1, .int p1)] [] M5 _
      refine g_iinc hC (q := 1) (v := (1 : Int32)) (lv' := [(0, .ref (x.1 17)), (1, .int (p1 + (1 : Int32)))]) [1, 0] dX3_fillShould_57 rfl (by decide) (by decide) rfl ?_
      refine g_goto hC 2 dX3_fillShould_60 (by decide) ?_
      exact hrec3 (p1 + (1 : Int32)) M5
    refine g_fx2 (fun (p7 : Int32) (M8 : Mem) => [(0, .ref (x.1 17)), (1, .int p1), (2, .int v4), (3, .int p7)]) (fun (p7 : Int32) (M8 : Mem) => M8) (fun rec9 hrec9 p7 M8 => ?_) F _ _
    show GG x f 4 (Qm x f φM) 16 [(0, .ref (x.1 17)), (1, .int p1), (2, .int v4), (3, .int p7)] [] M8 _
    unfold sX3_fillShould_L16
    refine g_iload_n hC 3 dX3_fillShould_16 rfl rfl ?_
    refine g_iconst hC (v := (2 : Int32)) dX3_fillShould_17 (by decide) ?_
    refine g_iload_n hC 2 dX3_fillShould_18 rfl rfl ?_
    refine g_imul hC dX3_fillShould_19 ?_
    refine g_icmp_ge hC 57 dX3_fillShould_20 (by decide) ?_ ?_
    · refine g_lv (lv' := [(0, .ref (x.1 17)), (1, .int p1)]) [0, 1] rfl ?_
      exact hJ6 M8
    · refine g_iload_n hC 3 dX3_fillShould_23 rfl rfl ?_
      refine g_sipush hC (v := (1024 : Int32)) dX3_fillShould_24 (by decide) ?_
      refine g_icmp_ge hC 57 dX3_fillShould_27 (by decide) ?_ ?_
      · refine g_lv (lv' := [(0, .ref (x.1 17)), (1, .int p1)]) [0, 1] rfl ?_
        exact hJ6 M8
      · refine g_aload_n hC 0 dX3_fillShould_30 rfl rfl ?_
        refine g_getR hC cf3 (t := 18) rfl 0 (by decide) rfl m_154 dX3_fillShould_31 ?_
        refine g_iload_n hC 3 dX3_fillShould_34 rfl rfl ?_
        refine g_aload_n hC 0 dX3_fillShould_35 rfl rfl ?_
        refine g_getR hC cf3 (t := 18) rfl 0 (by decide) rfl m_154 dX3_fillShould_36 ?_
        refine g_iload_n hC 3 dX3_fillShould_39 rfl rfl ?_
        refine g_iload_n hC 2 dX3_fillShould_40 rfl rfl ?_
        refine g_isub hC dX3_fillShould_41 ?_
        refine g_iald hC rfl rfl dX3_fillShould_42 ?_
        refine g_aload_n hC 0 dX3_fillShould_43 rfl rfl ?_
        refine g_getR hC cf3 (t := 22) rfl 4 (by decide) rfl m_158 dX3_fillShould_44 ?_
        refine g_iload_n hC 1 dX3_fillShould_47 rfl rfl ?_
        refine g_iald hC rfl rfl dX3_fillShould_48 ?_
        refine g_ixor hC dX3_fillShould_49 ?_
        refine g_iast hC rfl rfl dX3_fillShould_50 (fun M10 => ?_)
        show GG x f 4 (Qm x f φM) 51 [(0, .ref (x.1 17)), (1, .int p1), (2, .int v4), (3, .int p7)] [] M10 _
        refine g_iinc hC (q := 3) (v := (1 : Int32)) (lv' := [(0, .ref (x.1 17)), (1, .int p1), (2, .int v4), (3, .int (p7 + (1 : Int32)))]) [1, 2, 3, 0] dX3_fillShould_51 rfl (by decide) (by decide) rfl ?_
        refine g_goto hC 16 dX3_fillShould_54 (by decide) ?_
        exact hrec9 (p7 + (1 : Int32)) M10
def sX3_workOut_L53 (F : Nat) (a3 : Int32) (rec11 : Int32 → Mem → Option Mem) (p9 : Int32) (M10 : Mem) : Option Mem :=
if (M10 17 6) < p9 then
(some M10)
else
(ib p9 1024 (
ib p9 1024 (
nm (st2 M10 18 (ix p9) ((((M10 18 (ix p9)) ^^^ p9) &&& (M10 17 6)) &&& (a3 ^^^ (-1 : Int32)))) (fun M12 =>
ib p9 1024 (
nm (fun (M13 : Mem) =>
rec11 (p9 + (1 : Int32)) M13) (fun J14 =>
if ¬ (M12 18 (ix p9)) = 0 then
(J14 M12)
else
(if (1024 : Int32) ≤ (M12 17 7) then
(J14 M12)
else
(ib (M12 17 7) 1024 (
nm (st2 M12 19 (ix (M12 17 7)) p9) (fun M15 =>
nm (st2 M15 17 7 ((M15 17 7) + (1 : Int32))) (fun M16 =>
J14 M16)))))))))))
def sX3_workOut (F : Nat) (k1 : Nat) (a2 : Int32) (a3 : Int32) (M : Mem) : Option Mem :=
(sX1_howMany F k1 M).bind (fun r1 =>
nm (st2 M 17 5 (imin r1 (10 : Int32))) (fun M2 =>
nm (st2 M2 17 6 (((1 : Int32) <<< ((M2 17 5) &&& 31)) - (1 : Int32))) (fun M3 =>
(sX3_findTies F k1 a2 M3).bind (fun r4 =>
(sX3_writtenUnanswered F k1 r4).bind (fun r5 =>
ib (0 : Int32) 1024 (
nm (st2 r4 18 (ix (0 : Int32)) r5) (fun M6 =>
(sX3_fillShould F M6).bind (fun r7 =>
nm (st2 r7 17 7 (0 : Int32)) (fun M8 =>
fx2 F (sX3_workOut_L53 F a3) (0 : Int32) M8)))))))))
theorem mvX3_workOut : MV yX3_workOut cX3_workOut 5 none 3 := ⟨⟨m_522, m_71, by decide, by decide, by decide⟩, m_520, m_521⟩
set_option maxHeartbeats 4000000 in
set_option maxRecDepth 100000 in
theorem ctX3_workOut (x : Wx) (F : Nat) (k1 : Nat) (a2 : Int32) (a3 : Int32) (h1 : kd k1 = 1) (M : Mem) : Ct x yX3_workOut cX3_workOut 5 none { frames := 2, cells := 0, slots := 0, locals := 49 } φM [.ref (x.1 17), .ref (x.1 k1), .int a2, .int a3] M (sX3_workOut F k1 a2 a3 M) := by
  refine ct_of (by decide) (Nat.le_of_ble_eq_true rfl) (fun f hC hm => ?_)
  have hC : Cx x f "AnswersFirst$Rows" cX3_workOut 5 { frames := 2, cells := 0, slots := 0, locals := 49 } := hC
  show GG x f 5 (Qm x f φM) 0 [(0, .ref (x.1 17)), (1, .ref (x.1 k1)), (2, .int a2), (3, .int a3)] [] M _
  unfold sX3_workOut
  refine g_aload_n hC 0 dX3_workOut_0 rfl rfl ?_
  refine g_aload_n hC 1 dX3_workOut_1 rfl rfl ?_
  refine g_callv hC (st := [.ref (x.1 17)]) (c := 1) rfl (by decide) h1 (ctX1_howMany x F k1 h1 M) mvX1_howMany m_523 (by decide) rfl rfl (Nat.le_of_ble_eq_true rfl) dX3_workOut_2 (fun r1 => ?_)
  show GG x f 5 (Qm x f φM) 5 [(0, .ref (x.1 17)), (1, .ref (x.1 k1)), (2, .int a2), (3, .int a3)] [.int r1, .ref (x.1 17)] M _
  refine g_bipush hC (v := (10 : Int32)) dX3_workOut_5 (by decide) ?_
  refine g_mmin hC m_524 m_342 m_69 (mM_min) (by decide) (Nat.le_of_ble_eq_true rfl) dX3_workOut_7 ?_
  refine g_put hC cf3 rfl 5 (by decide) rfl m_159 rfl rfl rfl dX3_workOut_10 (fun M2 => ?_)
  show GG x f 5 (Qm x f φM) 13 [(0, .ref (x.1 17)), (1, .ref (x.1 k1)), (2, .int a2), (3, .int a3)] [] M2 _
  refine g_aload_n hC 0 dX3_workOut_13 rfl rfl ?_
  refine g_iconst hC (v := (1 : Int32)) dX3_workOut_14 (by decide) ?_
  refine g_aload_n hC 0 dX3_workOut_15 rfl rfl ?_
  refine g_getI hC cf3 rfl 5 (by decide) rfl m_159 dX3_workOut_16 ?_
  refine g_ishl hC dX3_workOut_19 ?_
  refine g_iconst hC (v := (1 : Int32)) dX3_workOut_20 (by decide) ?_
  refine g_isub hC dX3_workOut_21 ?_
  refine g_put hC cf3 rfl 6 (by decide) rfl m_160 rfl rfl rfl dX3_workOut_22 (fun M3 => ?_)
  show GG x f 5 (Qm x f φM) 25 [(0, .ref (x.1 17)), (1, .ref (x.1 k1)), (2, .int a2), (3, .int a3)] [] M3 _
  refine g_aload_n hC 0 dX3_workOut_25 rfl rfl ?_
  refine g_aload_n hC 1 dX3_workOut_26 rfl rfl ?_
  refine g_iload_n hC 2 dX3_workOut_27 rfl rfl ?_
  refine g_callv hC (st := []) (c := 3) rfl (by decide) rfl (ctX3_findTies x F k1 a2 h1 M3) mvX3_findTies m_525 (by decide) rfl rfl (Nat.le_of_ble_eq_true rfl) dX3_workOut_28 (fun r4 => ?_)
  show GG x f 5 (Qm x f φM) 31 [(0, .ref (x.1 17)), (1, .ref (x.1 k1)), (2, .int a2), (3, .int a3)] [] r4 _
  refine g_aload_n hC 0 dX3_workOut_31 rfl rfl ?_
  refine g_getR hC cf3 (t := 18) rfl 0 (by decide) rfl m_154 dX3_workOut_32 ?_
  refine g_iconst hC (v := (0 : Int32)) dX3_workOut_35 (by decide) ?_
  refine g_aload_n hC 1 dX3_workOut_36 rfl rfl ?_
  refine g_calls hC (st := [.int (0 : Int32), .ref (x.1 18)]) (ctX3_writtenUnanswered x F k1 h1 r4) msX3_writtenUnanswered m_536 (by decide) rfl rfl (Nat.le_of_ble_eq_true rfl) dX3_workOut_37 (fun r5 => ?_)
  show GG x f 5 (Qm x f φM) 40 [(0, .ref (x.1 17)), (1, .ref (x.1 k1)), (2, .int a2), (3, .int a3)] [.int r5, .int (0 : Int32), .ref (x.1 18)] r4 _
  refine g_iast hC rfl rfl dX3_workOut_40 (fun M6 => ?_)
  show GG x f 5 (Qm x f φM) 41 [(0, .ref (x.1 17)), (1, .ref (x.1 k1)), (2, .int a2), (3, .int a3)] [] M6 _
  refine g_aload_n hC 0 dX3_workOut_41 rfl rfl ?_
  refine g_callv hC (st := []) (c := 3) rfl (by decide) rfl (ctX3_fillShould x F M6) mvX3_fillShould m_543 (by decide) rfl rfl (Nat.le_of_ble_eq_true rfl) dX3_workOut_42 (fun r7 => ?_)
  show GG x f 5 (Qm x f φM) 45 [(0, .ref (x.1 17)), (1, .ref (x.1 k1)), (2, .int a2), (3, .int a3)] [] r7 _
  refine g_aload_n hC 0 dX3_workOut_45 rfl rfl ?_
  refine g_iconst hC (v := (0 : Int32)) dX3_workOut_46 (by decide) ?_
  refine g_put hC cf3 rfl 7 (by decide) rfl m_161 rfl rfl rfl dX3_workOut_47 (fun M8 => ?_)
  show GG x f 5 (Qm x f φM) 50 [(0, .ref (x.1 17)), (1, .ref (x.1 k1)), (2, .int a2), (3, .int a3)] [] M8 _
  refine g_iconst hC (v := (0 : Int32)) dX3_workOut_50 (by decide) ?_
  refine g_istore hC (lv' := [(0, .ref (x.1 17)), (3, .int a3), (4, .int (0 : Int32))]) [1, 4, 0] dX3_workOut_51 (by decide) rfl ?_
  refine g_fx2 (fun (p9 : Int32) (M10 : Mem) => [(0, .ref (x.1 17)), (3, .int a3), (4, .int p9)]) (fun (p9 : Int32) (M10 : Mem) => M10) (fun rec11 hrec11 p9 M10 => ?_) F _ _
  show GG x f 5 (Qm x f φM) 53 [(0, .ref (x.1 17)), (3, .int a3), (4, .int p9)] [] M10 _
  unfold sX3_workOut_L53
  refine g_iload hC 2 dX3_workOut_53 rfl ?_
  refine g_aload_n hC 0 dX3_workOut_55 rfl rfl ?_
  refine g_getI hC cf3 rfl 6 (by decide) rfl m_160 dX3_workOut_56 ?_
  refine g_icmp_gt hC 135 dX3_workOut_59 (by decide) ?_ ?_
  · exact g_vret hC hm rfl dX3_workOut_135
  · refine g_aload_n hC 0 dX3_workOut_62 rfl rfl ?_
    refine g_getR hC cf3 (t := 18) rfl 0 (by decide) rfl m_154 dX3_workOut_63 ?_
    refine g_iload hC 2 dX3_workOut_66 rfl ?_
    refine g_aload_n hC 0 dX3_workOut_68 rfl rfl ?_
    refine g_getR hC cf3 (t := 18) rfl 0 (by decide) rfl m_154 dX3_workOut_69 ?_
    refine g_iload hC 2 dX3_workOut_72 rfl ?_
    refine g_iald hC rfl rfl dX3_workOut_74 ?_
    refine g_iload hC 2 dX3_workOut_75 rfl ?_
    refine g_ixor hC dX3_workOut_77 ?_
    refine g_aload_n hC 0 dX3_workOut_78 rfl rfl ?_
    refine g_getI hC cf3 rfl 6 (by decide) rfl m_160 dX3_workOut_79 ?_
    refine g_iand hC dX3_workOut_82 ?_
    refine g_iload_n hC 1 dX3_workOut_83 rfl rfl ?_
    refine g_iconst hC (v := (-1 : Int32)) dX3_workOut_84 (by decide) ?_
    refine g_ixor hC dX3_workOut_85 ?_
    refine g_iand hC dX3_workOut_86 ?_
    refine g_iast hC rfl rfl dX3_workOut_87 (fun M12 => ?_)
    show GG x f 5 (Qm x f φM) 88 [(0, .ref (x.1 17)), (3, .int a3), (4, .int p9)] [] M12 _
    refine g_aload_n hC 0 dX3_workOut_88 rfl rfl ?_
    refine g_getR hC cf3 (t := 18) rfl 0 (by decide) rfl m_154 dX3_workOut_89 ?_
    refine g_iload hC 2 dX3_workOut_92 rfl ?_
    refine g_iald hC rfl rfl dX3_workOut_94 ?_
    refine g_nm (fun (J14 : Mem → Option Mem) => ∀ (M13 : Mem), GG x f 5 (Qm x f φM) 129 [(0, .ref (x.1 17)), (3, .int a3), (4, .int p9)] [] M13 (J14 M13)) (fun M13 => ?_) (fun J14 hJ14 => ?_)
    · show GG x f 5 (Qm x f φM) 129 [(0, .ref (x.1 17)), (3, .int a3), (4, .int p9)] [] M13 _
      refine g_iinc hC (q := 2) (v := (1 : Int32)) (lv' := [(0, .ref (x.1 17)), (3, .int a3), (4, .int (p9 + (1 : Int32)))]) [1, 2, 0] dX3_workOut_129 rfl (by decide) (by decide) rfl ?_
      refine g_goto hC 53 dX3_workOut_132 (by decide) ?_
      exact hrec11 (p9 + (1 : Int32)) M13
    refine g_if_ne hC 129 dX3_workOut_95 (by decide) ?_ ?_
    · exact hJ14 M12
    · refine g_aload_n hC 0 dX3_workOut_98 rfl rfl ?_
      refine g_getI hC cf3 rfl 7 (by decide) rfl m_161 dX3_workOut_99 ?_
      refine g_sipush hC (v := (1024 : Int32)) dX3_workOut_102 (by decide) ?_
      refine g_icmp_ge hC 129 dX3_workOut_105 (by decide) ?_ ?_
      · exact hJ14 M12
      · refine g_aload_n hC 0 dX3_workOut_108 rfl rfl ?_
        refine g_getR hC cf3 (t := 19) rfl 1 (by decide) rfl m_155 dX3_workOut_109 ?_
        refine g_aload_n hC 0 dX3_workOut_112 rfl rfl ?_
        refine g_getI hC cf3 rfl 7 (by decide) rfl m_161 dX3_workOut_113 ?_
        refine g_iload hC 2 dX3_workOut_116 rfl ?_
        refine g_iast hC rfl rfl dX3_workOut_118 (fun M15 => ?_)
        show GG x f 5 (Qm x f φM) 119 [(0, .ref (x.1 17)), (3, .int a3), (4, .int p9)] [] M15 _
        refine g_aload_n hC 0 dX3_workOut_119 rfl rfl ?_
        refine g_dup hC dX3_workOut_120 rfl ?_
        refine g_getI hC cf3 rfl 7 (by decide) rfl m_161 dX3_workOut_121 ?_
        refine g_iconst hC (v := (1 : Int32)) dX3_workOut_124 (by decide) ?_
        refine g_iadd hC dX3_workOut_125 ?_
        refine g_put hC cf3 rfl 7 (by decide) rfl m_161 rfl rfl rfl dX3_workOut_126 (fun M16 => ?_)
        show GG x f 5 (Qm x f φM) 129 [(0, .ref (x.1 17)), (3, .int a3), (4, .int p9)] [] M16 _
        exact hJ14 M16
def sX3_nth (F : Nat) (a1 : Int32) (M : Mem) : Option Int32 :=
if a1 < 0 then
(some (-1 : Int32))
else
(if (M 17 7) ≤ a1 then
(some (-1 : Int32))
else
(if (1024 : Int32) ≤ a1 then
(some (-1 : Int32))
else
(ib a1 1024 (
some (M 19 (ix a1))))))
theorem mvX3_nth : MV yX3_nth cX3_nth 2 (some .int) 1 := ⟨⟨m_554, m_71, by decide, by decide, by decide⟩, m_552, m_553⟩
set_option maxHeartbeats 4000000 in
set_option maxRecDepth 100000 in
theorem ctX3_nth (x : Wx) (F : Nat) (a1 : Int32) (M : Mem) : Ct x yX3_nth cX3_nth 2 (some .int) { frames := 0, cells := 0, slots := 0, locals := 0 } (φI M) [.ref (x.1 17), .int a1] M (sX3_nth F a1 M) := by
  refine ct_of (by decide) (Nat.le_of_ble_eq_true rfl) (fun f hC hm => ?_)
  have hC : Cx x f "AnswersFirst$Rows" cX3_nth 2 { frames := 0, cells := 0, slots := 0, locals := 0 } := hC
  show GG x f 2 (Qm x f (φI M)) 0 [(0, .ref (x.1 17)), (1, .int a1)] [] M _
  unfold sX3_nth
  refine g_iload_n hC 1 dX3_nth_0 rfl rfl ?_
  refine g_if_lt hC 28 dX3_nth_1 (by decide) ?_ ?_
  · refine g_iconst hC (v := (-1 : Int32)) dX3_nth_28 (by decide) ?_
    exact g_iret hC hm rfl dX3_nth_29
  · refine g_iload_n hC 1 dX3_nth_4 rfl rfl ?_
    refine g_aload_n hC 0 dX3_nth_5 rfl rfl ?_
    refine g_getI hC cf3 rfl 7 (by decide) rfl m_161 dX3_nth_6 ?_
    refine g_icmp_ge hC 28 dX3_nth_9 (by decide) ?_ ?_
    · refine g_iconst hC (v := (-1 : Int32)) dX3_nth_28 (by decide) ?_
      exact g_iret hC hm rfl dX3_nth_29
    · refine g_iload_n hC 1 dX3_nth_12 rfl rfl ?_
      refine g_sipush hC (v := (1024 : Int32)) dX3_nth_13 (by decide) ?_
      refine g_icmp_ge hC 28 dX3_nth_16 (by decide) ?_ ?_
      · refine g_iconst hC (v := (-1 : Int32)) dX3_nth_28 (by decide) ?_
        exact g_iret hC hm rfl dX3_nth_29
      · refine g_aload_n hC 0 dX3_nth_19 rfl rfl ?_
        refine g_getR hC cf3 (t := 19) rfl 1 (by decide) rfl m_155 dX3_nth_20 ?_
        refine g_iload_n hC 1 dX3_nth_23 rfl rfl ?_
        refine g_iald hC rfl rfl dX3_nth_24 ?_
        refine g_goto hC 29 dX3_nth_25 (by decide) ?_
        exact g_iret hC hm rfl dX3_nth_29
def sX3_howMany (F : Nat) (M : Mem) : Option Int32 :=
some (M 17 7)
theorem mvX3_howMany : MV yX3_howMany cX3_howMany 1 (some .int) 0 := ⟨⟨m_550, m_71, by decide, by decide, by decide⟩, m_548, m_549⟩
set_option maxHeartbeats 4000000 in
set_option maxRecDepth 100000 in
theorem ctX3_howMany (x : Wx) (F : Nat) (M : Mem) : Ct x yX3_howMany cX3_howMany 1 (some .int) { frames := 0, cells := 0, slots := 0, locals := 0 } (φI M) [.ref (x.1 17)] M (sX3_howMany F M) := by
  refine ct_of (by decide) (Nat.le_of_ble_eq_true rfl) (fun f hC hm => ?_)
  have hC : Cx x f "AnswersFirst$Rows" cX3_howMany 1 { frames := 0, cells := 0, slots := 0, locals := 0 } := hC
  show GG x f 1 (Qm x f (φI M)) 0 [(0, .ref (x.1 17))] [] M _
  unfold sX3_howMany
  refine g_aload_n hC 0 dX3_howMany_0 rfl rfl ?_
  refine g_getI hC cf3 rfl 7 (by decide) rfl m_161 dX3_howMany_1 ?_
  exact g_iret hC hm rfl dX3_howMany_4
def sX3_inNone_L7 (F : Nat) (M : Mem) (rec4 : Int32 → Int32 → Option Int32) (p2 : Int32) (p3 : Int32) : Option Int32 :=
if (M 17 7) ≤ p3 then
(some p2)
else
(ib p3 1024 (
nm (p2 &&& ((M 19 (ix p3)) ^^^ (-1 : Int32))) (fun v5 =>
rec4 v5 (p3 + (1 : Int32)))))
def sX3_inNone (F : Nat) (M : Mem) : Option Int32 :=
nm (M 17 6) (fun v1 =>
fx2 F (sX3_inNone_L7 F M) v1 (0 : Int32))
theorem mvX3_inNone : MV yX3_inNone cX3_inNone 3 (some .int) 0 := ⟨⟨m_566, m_71, by decide, by decide, by decide⟩, m_564, m_565⟩
set_option maxHeartbeats 4000000 in
set_option maxRecDepth 100000 in
theorem ctX3_inNone (x : Wx) (F : Nat) (M : Mem) : Ct x yX3_inNone cX3_inNone 3 (some .int) { frames := 0, cells := 0, slots := 0, locals := 0 } (φI M) [.ref (x.1 17)] M (sX3_inNone F M) := by
  refine ct_of (by decide) (Nat.le_of_ble_eq_true rfl) (fun f hC hm => ?_)
  have hC : Cx x f "AnswersFirst$Rows" cX3_inNone 3 { frames := 0, cells := 0, slots := 0, locals := 0 } := hC
  show GG x f 3 (Qm x f (φI M)) 0 [(0, .ref (x.1 17))] [] M _
  unfold sX3_inNone
  refine g_aload_n hC 0 dX3_inNone_0 rfl rfl ?_
  refine g_getI hC cf3 rfl 6 (by decide) rfl m_160 dX3_inNone_1 ?_
  refine g_top (fun v1 => ?_)
  show GG x f 3 (Qm x f (φI M)) 4 [(0, .ref (x.1 17))] [.int v1] M _
  refine g_istore_n hC (lv' := [(0, .ref (x.1 17)), (1, .int v1)]) [1, 0] dX3_inNone_4 rfl (by decide) rfl ?_
  refine g_iconst hC (v := (0 : Int32)) dX3_inNone_5 (by decide) ?_
  refine g_istore_n hC (lv' := [(0, .ref (x.1 17)), (1, .int v1), (2, .int (0 : Int32))]) [1, 2, 0] dX3_inNone_6 rfl (by decide) rfl ?_
  refine g_fx2 (fun (p2 : Int32) (p3 : Int32) => [(0, .ref (x.1 17)), (1, .int p2), (2, .int p3)]) (fun (p2 : Int32) (p3 : Int32) => M) (fun rec4 hrec4 p2 p3 => ?_) F _ _
  show GG x f 3 (Qm x f (φI M)) 7 [(0, .ref (x.1 17)), (1, .int p2), (2, .int p3)] [] M _
  unfold sX3_inNone_L7
  refine g_iload_n hC 2 dX3_inNone_7 rfl rfl ?_
  refine g_aload_n hC 0 dX3_inNone_8 rfl rfl ?_
  refine g_getI hC cf3 rfl 7 (by decide) rfl m_161 dX3_inNone_9 ?_
  refine g_icmp_ge hC 32 dX3_inNone_12 (by decide) ?_ ?_
  · refine g_iload_n hC 1 dX3_inNone_32 rfl rfl ?_
    exact g_iret hC hm rfl dX3_inNone_33
  · refine g_iload_n hC 1 dX3_inNone_15 rfl rfl ?_
    refine g_aload_n hC 0 dX3_inNone_16 rfl rfl ?_
    refine g_getR hC cf3 (t := 19) rfl 1 (by decide) rfl m_155 dX3_inNone_17 ?_
    refine g_iload_n hC 2 dX3_inNone_20 rfl rfl ?_
    refine g_iald hC rfl rfl dX3_inNone_21 ?_
    refine g_iconst hC (v := (-1 : Int32)) dX3_inNone_22 (by decide) ?_
    refine g_ixor hC dX3_inNone_23 ?_
    refine g_iand hC dX3_inNone_24 ?_
    refine g_top (fun v5 => ?_)
    show GG x f 3 (Qm x f (φI M)) 25 [(0, .ref (x.1 17)), (1, .int p2), (2, .int p3)] [.int v5] M _
    refine g_istore_n hC (lv' := [(0, .ref (x.1 17)), (1, .int v5), (2, .int p3)]) [1, 0, 2] dX3_inNone_25 rfl (by decide) rfl ?_
    refine g_iinc hC (q := 2) (v := (1 : Int32)) (lv' := [(0, .ref (x.1 17)), (1, .int v5), (2, .int (p3 + (1 : Int32)))]) [1, 2, 0] dX3_inNone_26 rfl (by decide) (by decide) rfl ?_
    refine g_goto hC 7 dX3_inNone_29 (by decide) ?_
    exact hrec4 v5 (p3 + (1 : Int32))
def sX3_inAll_L7 (F : Nat) (M : Mem) (rec4 : Int32 → Int32 → Option Int32) (p2 : Int32) (p3 : Int32) : Option Int32 :=
if (M 17 7) ≤ p3 then
(some p2)
else
(ib p3 1024 (
nm (p2 &&& (M 19 (ix p3))) (fun v5 =>
rec4 v5 (p3 + (1 : Int32)))))
def sX3_inAll (F : Nat) (M : Mem) : Option Int32 :=
nm (M 17 6) (fun v1 =>
fx2 F (sX3_inAll_L7 F M) v1 (0 : Int32))
theorem mvX3_inAll : MV yX3_inAll cX3_inAll 3 (some .int) 0 := ⟨⟨m_562, m_71, by decide, by decide, by decide⟩, m_560, m_561⟩
set_option maxHeartbeats 4000000 in
set_option maxRecDepth 100000 in
theorem ctX3_inAll (x : Wx) (F : Nat) (M : Mem) : Ct x yX3_inAll cX3_inAll 3 (some .int) { frames := 0, cells := 0, slots := 0, locals := 0 } (φI M) [.ref (x.1 17)] M (sX3_inAll F M) := by
  refine ct_of (by decide) (Nat.le_of_ble_eq_true rfl) (fun f hC hm => ?_)
  have hC : Cx x f "AnswersFirst$Rows" cX3_inAll 3 { frames := 0, cells := 0, slots := 0, locals := 0 } := hC
  show GG x f 3 (Qm x f (φI M)) 0 [(0, .ref (x.1 17))] [] M _
  unfold sX3_inAll
  refine g_aload_n hC 0 dX3_inAll_0 rfl rfl ?_
  refine g_getI hC cf3 rfl 6 (by decide) rfl m_160 dX3_inAll_1 ?_
  refine g_top (fun v1 => ?_)
  show GG x f 3 (Qm x f (φI M)) 4 [(0, .ref (x.1 17))] [.int v1] M _
  refine g_istore_n hC (lv' := [(0, .ref (x.1 17)), (1, .int v1)]) [1, 0] dX3_inAll_4 rfl (by decide) rfl ?_
  refine g_iconst hC (v := (0 : Int32)) dX3_inAll_5 (by decide) ?_
  refine g_istore_n hC (lv' := [(0, .ref (x.1 17)), (1, .int v1), (2, .int (0 : Int32))]) [1, 2, 0] dX3_inAll_6 rfl (by decide) rfl ?_
  refine g_fx2 (fun (p2 : Int32) (p3 : Int32) => [(0, .ref (x.1 17)), (1, .int p2), (2, .int p3)]) (fun (p2 : Int32) (p3 : Int32) => M) (fun rec4 hrec4 p2 p3 => ?_) F _ _
  show GG x f 3 (Qm x f (φI M)) 7 [(0, .ref (x.1 17)), (1, .int p2), (2, .int p3)] [] M _
  unfold sX3_inAll_L7
  refine g_iload_n hC 2 dX3_inAll_7 rfl rfl ?_
  refine g_aload_n hC 0 dX3_inAll_8 rfl rfl ?_
  refine g_getI hC cf3 rfl 7 (by decide) rfl m_161 dX3_inAll_9 ?_
  refine g_icmp_ge hC 30 dX3_inAll_12 (by decide) ?_ ?_
  · refine g_iload_n hC 1 dX3_inAll_30 rfl rfl ?_
    exact g_iret hC hm rfl dX3_inAll_31
  · refine g_iload_n hC 1 dX3_inAll_15 rfl rfl ?_
    refine g_aload_n hC 0 dX3_inAll_16 rfl rfl ?_
    refine g_getR hC cf3 (t := 19) rfl 1 (by decide) rfl m_155 dX3_inAll_17 ?_
    refine g_iload_n hC 2 dX3_inAll_20 rfl rfl ?_
    refine g_iald hC rfl rfl dX3_inAll_21 ?_
    refine g_iand hC dX3_inAll_22 ?_
    refine g_top (fun v5 => ?_)
    show GG x f 3 (Qm x f (φI M)) 23 [(0, .ref (x.1 17)), (1, .int p2), (2, .int p3)] [.int v5] M _
    refine g_istore_n hC (lv' := [(0, .ref (x.1 17)), (1, .int v5), (2, .int p3)]) [1, 0, 2] dX3_inAll_23 rfl (by decide) rfl ?_
    refine g_iinc hC (q := 2) (v := (1 : Int32)) (lv' := [(0, .ref (x.1 17)), (1, .int v5), (2, .int (p3 + (1 : Int32)))]) [1, 2, 0] dX3_inAll_24 rfl (by decide) (by decide) rfl ?_
    refine g_goto hC 7 dX3_inAll_27 (by decide) ?_
    exact hrec4 v5 (p3 + (1 : Int32))
def sX3_fillMarks_L2 (F : Nat) (a1 : Int32) (rec3 : Int32 → Mem → Option Mem) (p1 : Int32) (M2 : Mem) : Option Mem :=
if (M2 17 6) < p1 then
(some M2)
else
(ib p1 1024 (
nm (st2 M2 20 (ix p1) a1) (fun M4 =>
rec3 (p1 + (1 : Int32)) M4)))
def sX3_fillMarks (F : Nat) (a1 : Int32) (M : Mem) : Option Mem :=
fx2 F (sX3_fillMarks_L2 F a1) (0 : Int32) M
theorem mvX3_fillMarks : MV yX3_fillMarks cX3_fillMarks 3 none 1 := ⟨⟨m_582, m_71, by decide, by decide, by decide⟩, m_581, m_10⟩
set_option maxHeartbeats 4000000 in
set_option maxRecDepth 100000 in
theorem ctX3_fillMarks (x : Wx) (F : Nat) (a1 : Int32) (M : Mem) : Ct x yX3_fillMarks cX3_fillMarks 3 none { frames := 0, cells := 0, slots := 0, locals := 0 } φM [.ref (x.1 17), .int a1] M (sX3_fillMarks F a1 M) := by
  refine ct_of (by decide) (Nat.le_of_ble_eq_true rfl) (fun f hC hm => ?_)
  have hC : Cx x f "AnswersFirst$Rows" cX3_fillMarks 3 { frames := 0, cells := 0, slots := 0, locals := 0 } := hC
  show GG x f 3 (Qm x f φM) 0 [(0, .ref (x.1 17)), (1, .int a1)] [] M _
  unfold sX3_fillMarks
  refine g_iconst hC (v := (0 : Int32)) dX3_fillMarks_0 (by decide) ?_
  refine g_istore_n hC (lv' := [(0, .ref (x.1 17)), (1, .int a1), (2, .int (0 : Int32))]) [1, 2, 0] dX3_fillMarks_1 rfl (by decide) rfl ?_
  refine g_fx2 (fun (p1 : Int32) (M2 : Mem) => [(0, .ref (x.1 17)), (1, .int a1), (2, .int p1)]) (fun (p1 : Int32) (M2 : Mem) => M2) (fun rec3 hrec3 p1 M2 => ?_) F _ _
  show GG x f 3 (Qm x f φM) 2 [(0, .ref (x.1 17)), (1, .int a1), (2, .int p1)] [] M2 _
  unfold sX3_fillMarks_L2
  refine g_iload_n hC 2 dX3_fillMarks_2 rfl rfl ?_
  refine g_aload_n hC 0 dX3_fillMarks_3 rfl rfl ?_
  refine g_getI hC cf3 rfl 6 (by decide) rfl m_160 dX3_fillMarks_4 ?_
  refine g_icmp_gt hC 23 dX3_fillMarks_7 (by decide) ?_ ?_
  · exact g_vret hC hm rfl dX3_fillMarks_23
  · refine g_aload_n hC 0 dX3_fillMarks_10 rfl rfl ?_
    refine g_getR hC cf3 (t := 20) rfl 2 (by decide) rfl m_156 dX3_fillMarks_11 ?_
    refine g_iload_n hC 2 dX3_fillMarks_14 rfl rfl ?_
    refine g_iload_n hC 1 dX3_fillMarks_15 rfl rfl ?_
    refine g_iast hC rfl rfl dX3_fillMarks_16 (fun M4 => ?_)
    show GG x f 3 (Qm x f φM) 17 [(0, .ref (x.1 17)), (1, .int a1), (2, .int p1)] [] M4 _
    refine g_iinc hC (q := 2) (v := (1 : Int32)) (lv' := [(0, .ref (x.1 17)), (1, .int a1), (2, .int (p1 + (1 : Int32)))]) [1, 2, 0] dX3_fillMarks_17 rfl (by decide) (by decide) rfl ?_
    refine g_goto hC 2 dX3_fillMarks_20 (by decide) ?_
    exact hrec3 (p1 + (1 : Int32)) M4
def sX3_markBreakable_L54 (F : Nat) (v7 : Int32) (J9 : Mem → Option Mem) (rec12 : Int32 → Mem → Option Mem) (p10 : Int32) (M11 : Mem) : Option Mem :=
if (M11 17 6) < p10 then
(J9 M11)
else
(nm (fun (M13 : Mem) =>
rec12 (p10 + (1 : Int32)) M13) (fun J14 =>
if (p10 &&& v7) = 0 then
(J14 M11)
else
(ib (p10 &&& (v7 ^^^ (-1 : Int32))) 1024 (
if ¬ (M11 20 (ix (p10 &&& (v7 ^^^ (-1 : Int32))))) = (1 : Int32) then
(J14 M11)
else
(ib p10 1024 (
nm (st2 M11 20 (ix p10) (1 : Int32)) (fun M15 =>
J14 M15)))))))
def sX3_markBreakable_L40 (F : Nat) (rec6 : Int32 → Mem → Option Mem) (p4 : Int32) (M5 : Mem) : Option Mem :=
if (M5 17 5) ≤ p4 then
(some M5)
else
(nm ((1 : Int32) <<< (p4 &&& 31)) (fun v7 =>
nm (fun (M8 : Mem) =>
rec6 (p4 + (1 : Int32)) M8) (fun J9 =>
fx2 F (sX3_markBreakable_L54 F v7 J9) (0 : Int32) M5)))
def sX3_markBreakable_L7 (F : Nat) (J3 : Mem → Option Mem) (rec18 : Int32 → Mem → Option Mem) (p16 : Int32) (M17 : Mem) : Option Mem :=
if (M17 17 6) < p16 then
(J3 M17)
else
(ib p16 1024 (
ib ((M17 18 (ix p16)) &&& (M17 17 6)) 1024 (
nm (st2 M17 20 (ix ((M17 18 (ix p16)) &&& (M17 17 6))) (1 : Int32)) (fun M19 =>
rec18 (p16 + (1 : Int32)) M19))))
def sX3_markBreakable (F : Nat) (M : Mem) : Option Mem :=
(sX3_fillMarks F (0 : Int32) M).bind (fun r1 =>
nm (fun (M2 : Mem) =>
fx2 F (sX3_markBreakable_L40 F) (0 : Int32) M2) (fun J3 =>
fx2 F (sX3_markBreakable_L7 F J3) (0 : Int32) r1))
theorem mvX3_markBreakable : MV yX3_markBreakable cX3_markBreakable 4 none 0 := ⟨⟨m_578, m_71, by decide, by decide, by decide⟩, m_577, m_9⟩
set_option maxHeartbeats 4000000 in
set_option maxRecDepth 100000 in
theorem ctX3_markBreakable (x : Wx) (F : Nat) (M : Mem) : Ct x yX3_markBreakable cX3_markBreakable 4 none { frames := 1, cells := 0, slots := 0, locals := 22 } φM [.ref (x.1 17)] M (sX3_markBreakable F M) := by
  refine ct_of (by decide) (Nat.le_of_ble_eq_true rfl) (fun f hC hm => ?_)
  have hC : Cx x f "AnswersFirst$Rows" cX3_markBreakable 4 { frames := 1, cells := 0, slots := 0, locals := 22 } := hC
  show GG x f 4 (Qm x f φM) 0 [(0, .ref (x.1 17))] [] M _
  unfold sX3_markBreakable
  refine g_aload_n hC 0 dX3_markBreakable_0 rfl rfl ?_
  refine g_iconst hC (v := (0 : Int32)) dX3_markBreakable_1 (by decide) ?_
  refine g_callv hC (st := []) (c := 3) rfl (by decide) rfl (ctX3_fillMarks x F (0 : Int32) M) mvX3_fillMarks m_579 (by decide) rfl rfl (Nat.le_of_ble_eq_true rfl) dX3_markBreakable_2 (fun r1 => ?_)
  show GG x f 4 (Qm x f φM) 5 [(0, .ref (x.1 17))] [] r1 _
  refine g_iconst hC (v := (0 : Int32)) dX3_markBreakable_5 (by decide) ?_
  refine g_istore_n hC (lv' := [(0, .ref (x.1 17)), (1, .int (0 : Int32))]) [1, 0] dX3_markBreakable_6 rfl (by decide) rfl ?_
  refine g_nm (fun (J3 : Mem → Option Mem) => ∀ (M2 : Mem), GG x f 4 (Qm x f φM) 38 [(0, .ref (x.1 17))] [] M2 (J3 M2)) (fun M2 => ?_) (fun J3 hJ3 => ?_)
  · show GG x f 4 (Qm x f φM) 38 [(0, .ref (x.1 17))] [] M2 _
    refine g_iconst hC (v := (0 : Int32)) dX3_markBreakable_38 (by decide) ?_
    refine g_istore_n hC (lv' := [(0, .ref (x.1 17)), (1, .int (0 : Int32))]) [1, 0] dX3_markBreakable_39 rfl (by decide) rfl ?_
    refine g_fx2 (fun (p4 : Int32) (M5 : Mem) => [(0, .ref (x.1 17)), (1, .int p4)]) (fun (p4 : Int32) (M5 : Mem) => M5) (fun rec6 hrec6 p4 M5 => ?_) F _ _
    show GG x f 4 (Qm x f φM) 40 [(0, .ref (x.1 17)), (1, .int p4)] [] M5 _
    unfold sX3_markBreakable_L40
    refine g_iload_n hC 1 dX3_markBreakable_40 rfl rfl ?_
    refine g_aload_n hC 0 dX3_markBreakable_41 rfl rfl ?_
    refine g_getI hC cf3 rfl 5 (by decide) rfl m_159 dX3_markBreakable_42 ?_
    refine g_icmp_ge hC 101 dX3_markBreakable_45 (by decide) ?_ ?_
    · exact g_vret hC hm rfl dX3_markBreakable_101
    · refine g_iconst hC (v := (1 : Int32)) dX3_markBreakable_48 (by decide) ?_
      refine g_iload_n hC 1 dX3_markBreakable_49 rfl rfl ?_
      refine g_ishl hC dX3_markBreakable_50 ?_
      refine g_top (fun v7 => ?_)
      show GG x f 4 (Qm x f φM) 51 [(0, .ref (x.1 17)), (1, .int p4)] [.int v7] M5 _
      refine g_istore_n hC (lv' := [(0, .ref (x.1 17)), (1, .int p4), (2, .int v7)]) [1, 2, 0] dX3_markBreakable_51 rfl (by decide) rfl ?_
      refine g_iconst hC (v := (0 : Int32)) dX3_markBreakable_52 (by decide) ?_
      refine g_istore_n hC (lv' := [(0, .ref (x.1 17)), (1, .int p4), (2, .int v7), (3, .int (0 : Int32))]) [1, 2, 3, 0] dX3_markBreakable_53 rfl (by decide) rfl ?_
      refine g_nm (fun (J9 : Mem → Option Mem) => ∀ (M8 : Mem), GG x f 4 (Qm x f φM) 95 [(0, .ref (x.1 17)), (1, .int p4)] [] M8 (J9 M8)) (fun M8 => ?_) (fun J9 hJ9 => ?_)
      · show GG x f 4 (Qm x f φM) 95 [(0, .ref (x.1 17)), (1, .int p4)] [] M8 _
        refine g_iinc hC (q := 1) (v := (1 : Int32)) (lv' := [(0, .ref (x.1 17)), (1, .int (p4 + (1 : Int32)))]) [1, 0] dX3_markBreakable_95 rfl (by decide) (by decide) rfl ?_
        refine g_goto hC 40 dX3_markBreakable_98 (by decide) ?_
        exact hrec6 (p4 + (1 : Int32)) M8
      refine g_fx2 (fun (p10 : Int32) (M11 : Mem) => [(0, .ref (x.1 17)), (1, .int p4), (2, .int v7), (3, .int p10)]) (fun (p10 : Int32) (M11 : Mem) => M11) (fun rec12 hrec12 p10 M11 => ?_) F _ _
      show GG x f 4 (Qm x f φM) 54 [(0, .ref (x.1 17)), (1, .int p4), (2, .int v7), (3, .int p10)] [] M11 _
      unfold sX3_markBreakable_L54
      refine g_iload_n hC 3 dX3_markBreakable_54 rfl rfl ?_
      refine g_aload_n hC 0 dX3_markBreakable_55 rfl rfl ?_
      refine g_getI hC cf3 rfl 6 (by decide) rfl m_160 dX3_markBreakable_56 ?_
      refine g_icmp_gt hC 95 dX3_markBreakable_59 (by decide) ?_ ?_
      · refine g_lv (lv' := [(0, .ref (x.1 17)), (1, .int p4)]) [0, 1] rfl ?_
        exact hJ9 M11
      · refine g_iload_n hC 3 dX3_markBreakable_62 rfl rfl ?_
        refine g_iload_n hC 2 dX3_markBreakable_63 rfl rfl ?_
        refine g_iand hC dX3_markBreakable_64 ?_
        refine g_nm (fun (J14 : Mem → Option Mem) => ∀ (M13 : Mem), GG x f 4 (Qm x f φM) 89 [(0, .ref (x.1 17)), (1, .int p4), (2, .int v7), (3, .int p10)] [] M13 (J14 M13)) (fun M13 => ?_) (fun J14 hJ14 => ?_)
        · show GG x f 4 (Qm x f φM) 89 [(0, .ref (x.1 17)), (1, .int p4), (2, .int v7), (3, .int p10)] [] M13 _
          refine g_iinc hC (q := 3) (v := (1 : Int32)) (lv' := [(0, .ref (x.1 17)), (1, .int p4), (2, .int v7), (3, .int (p10 + (1 : Int32)))]) [1, 2, 3, 0] dX3_markBreakable_89 rfl (by decide) (by decide) rfl ?_
          refine g_goto hC 54 dX3_markBreakable_92 (by decide) ?_
          exact hrec12 (p10 + (1 : Int32)) M13
        refine g_if_eq hC 89 dX3_markBreakable_65 (by decide) ?_ ?_
        · exact hJ14 M11
        · refine g_aload_n hC 0 dX3_markBreakable_68 rfl rfl ?_
          refine g_getR hC cf3 (t := 20) rfl 2 (by decide) rfl m_156 dX3_markBreakable_69 ?_
          refine g_iload_n hC 3 dX3_markBreakable_72 rfl rfl ?_
          refine g_iload_n hC 2 dX3_markBreakable_73 rfl rfl ?_
          refine g_iconst hC (v := (-1 : Int32)) dX3_markBreakable_74 (by decide) ?_
          refine g_ixor hC dX3_markBreakable_75 ?_
          refine g_iand hC dX3_markBreakable_76 ?_
          refine g_iald hC rfl rfl dX3_markBreakable_77 ?_
          refine g_iconst hC (v := (1 : Int32)) dX3_markBreakable_78 (by decide) ?_
          refine g_icmp_ne hC 89 dX3_markBreakable_79 (by decide) ?_ ?_
          · exact hJ14 M11
          · refine g_aload_n hC 0 dX3_markBreakable_82 rfl rfl ?_
            refine g_getR hC cf3 (t := 20) rfl 2 (by decide) rfl m_156 dX3_markBreakable_83 ?_
            refine g_iload_n hC 3 dX3_markBreakable_86 rfl rfl ?_
            refine g_iconst hC (v := (1 : Int32)) dX3_markBreakable_87 (by decide) ?_
            refine g_iast hC rfl rfl dX3_markBreakable_88 (fun M15 => ?_)
            show GG x f 4 (Qm x f φM) 89 [(0, .ref (x.1 17)), (1, .int p4), (2, .int v7), (3, .int p10)] [] M15 _
            exact hJ14 M15
  refine g_fx2 (fun (p16 : Int32) (M17 : Mem) => [(0, .ref (x.1 17)), (1, .int p16)]) (fun (p16 : Int32) (M17 : Mem) => M17) (fun rec18 hrec18 p16 M17 => ?_) F _ _
  show GG x f 4 (Qm x f φM) 7 [(0, .ref (x.1 17)), (1, .int p16)] [] M17 _
  unfold sX3_markBreakable_L7
  refine g_iload_n hC 1 dX3_markBreakable_7 rfl rfl ?_
  refine g_aload_n hC 0 dX3_markBreakable_8 rfl rfl ?_
  refine g_getI hC cf3 rfl 6 (by decide) rfl m_160 dX3_markBreakable_9 ?_
  refine g_icmp_gt hC 38 dX3_markBreakable_12 (by decide) ?_ ?_
  · refine g_lv (lv' := [(0, .ref (x.1 17))]) [0] rfl ?_
    exact hJ3 M17
  · refine g_aload_n hC 0 dX3_markBreakable_15 rfl rfl ?_
    refine g_getR hC cf3 (t := 20) rfl 2 (by decide) rfl m_156 dX3_markBreakable_16 ?_
    refine g_aload_n hC 0 dX3_markBreakable_19 rfl rfl ?_
    refine g_getR hC cf3 (t := 18) rfl 0 (by decide) rfl m_154 dX3_markBreakable_20 ?_
    refine g_iload_n hC 1 dX3_markBreakable_23 rfl rfl ?_
    refine g_iald hC rfl rfl dX3_markBreakable_24 ?_
    refine g_aload_n hC 0 dX3_markBreakable_25 rfl rfl ?_
    refine g_getI hC cf3 rfl 6 (by decide) rfl m_160 dX3_markBreakable_26 ?_
    refine g_iand hC dX3_markBreakable_29 ?_
    refine g_iconst hC (v := (1 : Int32)) dX3_markBreakable_30 (by decide) ?_
    refine g_iast hC rfl rfl dX3_markBreakable_31 (fun M19 => ?_)
    show GG x f 4 (Qm x f φM) 32 [(0, .ref (x.1 17)), (1, .int p16)] [] M19 _
    refine g_iinc hC (q := 1) (v := (1 : Int32)) (lv' := [(0, .ref (x.1 17)), (1, .int (p16 + (1 : Int32)))]) [1, 0] dX3_markBreakable_32 rfl (by decide) (by decide) rfl ?_
    refine g_goto hC 7 dX3_markBreakable_35 (by decide) ?_
    exact hrec18 (p16 + (1 : Int32)) M19
def sX3_fewestClashing_L17 (F : Nat) (r1 : Mem) (rec4 : Int32 → Int32 → Option (Int32 × Mem)) (p2 : Int32) (p3 : Int32) : Option (Int32 × Mem) :=
if (r1 17 6) < p3 then
(some (p2, r1))
else
(ib ((r1 17 6) &&& (p3 ^^^ (-1 : Int32))) 1024 (
nm (fun (q5 : Int32) =>
nm (fun (p7 : Int32) =>
rec4 p7 (p3 + (1 : Int32))) (fun J8 =>
if q5 = 0 then
(J8 p2)
else
(nm (J8 p3) (fun J9 =>
if p2 = (-1 : Int32) then
(J9)
else
((sJ6_bitCount_0f7a4 F p3 r1).bind (fun r10 =>
(sJ6_bitCount_0f7a4 F p2 r1).bind (fun r11 =>
if r11 ≤ r10 then
(J8 p2)
else
(J9)))))))) (fun J6 =>
if ¬ (r1 20 (ix ((r1 17 6) &&& (p3 ^^^ (-1 : Int32))))) = 0 then
(J6 (0 : Int32))
else
(J6 (1 : Int32)))))
def sX3_fewestClashing (F : Nat) (M : Mem) : Option (Int32 × Mem) :=
if (M 17 7) ≤ 0 then
((sX3_markBreakable F M).bind (fun r1 =>
fx2 F (sX3_fewestClashing_L17 F r1) (-1 : Int32) (0 : Int32)))
else
(some ((-1 : Int32), M))
theorem mvX3_fewestClashing : MV yX3_fewestClashing cX3_fewestClashing 4 (some .int) 0 := ⟨⟨m_574, m_71, by decide, by decide, by decide⟩, m_572, m_573⟩
set_option maxHeartbeats 4000000 in
set_option maxRecDepth 100000 in
theorem ctX3_fewestClashing (x : Wx) (F : Nat) (M : Mem) : Ct x yX3_fewestClashing cX3_fewestClashing 4 (some .int) { frames := 2, cells := 0, slots := 0, locals := 45 } φIM [.ref (x.1 17)] M (sX3_fewestClashing F M) := by
  refine ct_of (by decide) (Nat.le_of_ble_eq_true rfl) (fun f hC hm => ?_)
  have hC : Cx x f "AnswersFirst$Rows" cX3_fewestClashing 4 { frames := 2, cells := 0, slots := 0, locals := 45 } := hC
  show GG x f 4 (Qm x f φIM) 0 [(0, .ref (x.1 17))] [] M _
  unfold sX3_fewestClashing
  refine g_aload_n hC 0 dX3_fewestClashing_0 rfl rfl ?_
  refine g_getI hC cf3 rfl 7 (by decide) rfl m_161 dX3_fewestClashing_1 ?_
  refine g_if_le hC 9 dX3_fewestClashing_4 (by decide) ?_ ?_
  · refine g_aload_n hC 0 dX3_fewestClashing_9 rfl rfl ?_
    refine g_callv hC (st := []) (c := 3) rfl (by decide) rfl (ctX3_markBreakable x F M) mvX3_markBreakable m_575 (by decide) rfl rfl (Nat.le_of_ble_eq_true rfl) dX3_fewestClashing_10 (fun r1 => ?_)
    show GG x f 4 (Qm x f φIM) 13 [(0, .ref (x.1 17))] [] r1 _
    refine g_iconst hC (v := (-1 : Int32)) dX3_fewestClashing_13 (by decide) ?_
    refine g_istore_n hC (lv' := [(0, .ref (x.1 17)), (1, .int (-1 : Int32))]) [1, 0] dX3_fewestClashing_14 rfl (by decide) rfl ?_
    refine g_iconst hC (v := (0 : Int32)) dX3_fewestClashing_15 (by decide) ?_
    refine g_istore_n hC (lv' := [(0, .ref (x.1 17)), (1, .int (-1 : Int32)), (2, .int (0 : Int32))]) [1, 2, 0] dX3_fewestClashing_16 rfl (by decide) rfl ?_
    refine g_fx2 (fun (p2 : Int32) (p3 : Int32) => [(0, .ref (x.1 17)), (1, .int p2), (2, .int p3)]) (fun (p2 : Int32) (p3 : Int32) => r1) (fun rec4 hrec4 p2 p3 => ?_) F _ _
    show GG x f 4 (Qm x f φIM) 17 [(0, .ref (x.1 17)), (1, .int p2), (2, .int p3)] [] r1 _
    unfold sX3_fewestClashing_L17
    refine g_iload_n hC 2 dX3_fewestClashing_17 rfl rfl ?_
    refine g_aload_n hC 0 dX3_fewestClashing_18 rfl rfl ?_
    refine g_getI hC cf3 rfl 6 (by decide) rfl m_160 dX3_fewestClashing_19 ?_
    refine g_icmp_gt hC 75 dX3_fewestClashing_22 (by decide) ?_ ?_
    · refine g_iload_n hC 1 dX3_fewestClashing_75 rfl rfl ?_
      exact g_iret hC hm rfl dX3_fewestClashing_76
    · refine g_aload_n hC 0 dX3_fewestClashing_25 rfl rfl ?_
      refine g_getR hC cf3 (t := 20) rfl 2 (by decide) rfl m_156 dX3_fewestClashing_26 ?_
      refine g_aload_n hC 0 dX3_fewestClashing_29 rfl rfl ?_
      refine g_getI hC cf3 rfl 6 (by decide) rfl m_160 dX3_fewestClashing_30 ?_
      refine g_iload_n hC 2 dX3_fewestClashing_33 rfl rfl ?_
      refine g_iconst hC (v := (-1 : Int32)) dX3_fewestClashing_34 (by decide) ?_
      refine g_ixor hC dX3_fewestClashing_35 ?_
      refine g_iand hC dX3_fewestClashing_36 ?_
      refine g_iald hC rfl rfl dX3_fewestClashing_37 ?_
      refine g_nm (fun (J6 : Int32 → Option (Int32 × Mem)) => ∀ (q5 : Int32), GG x f 4 (Qm x f φIM) 46 [(0, .ref (x.1 17)), (1, .int p2), (2, .int p3)] [.int q5] r1 (J6 q5)) (fun q5 => ?_) (fun J6 hJ6 => ?_)
      · show GG x f 4 (Qm x f φIM) 46 [(0, .ref (x.1 17)), (1, .int p2), (2, .int p3)] [.int q5] r1 _
        refine g_istore_n hC (lv' := [(0, .ref (x.1 17)), (1, .int p2), (2, .int p3), (3, .int q5)]) [1, 2, 3, 0] dX3_fewestClashing_46 rfl (by decide) rfl ?_
        refine g_iload_n hC 3 dX3_fewestClashing_47 rfl rfl ?_
        refine g_nm (fun (J8 : Int32 → Option (Int32 × Mem)) => ∀ (p7 : Int32), GG x f 4 (Qm x f φIM) 69 [(0, .ref (x.1 17)), (1, .int p7), (2, .int p3)] [] r1 (J8 p7)) (fun p7 => ?_) (fun J8 hJ8 => ?_)
        · show GG x f 4 (Qm x f φIM) 69 [(0, .ref (x.1 17)), (1, .int p7), (2, .int p3)] [] r1 _
          refine g_iinc hC (q := 2) (v := (1 : Int32)) (lv' := [(0, .ref (x.1 17)), (1, .int p7), (2, .int (p3 + (1 : Int32)))]) [1, 2, 0] dX3_fewestClashing_69 rfl (by decide) (by decide) rfl ?_
          refine g_goto hC 17 dX3_fewestClashing_72 (by decide) ?_
          exact hrec4 p7 (p3 + (1 : Int32))
        refine g_if_eq hC 69 dX3_fewestClashing_48 (by decide) ?_ ?_
        · refine g_lv (lv' := [(0, .ref (x.1 17)), (1, .int p2), (2, .int p3)]) [0, 1, 2] rfl ?_
          exact hJ8 p2
        · refine g_iload_n hC 1 dX3_fewestClashing_51 rfl rfl ?_
          refine g_iconst hC (v := (-1 : Int32)) dX3_fewestClashing_52 (by decide) ?_
          refine g_nm (fun (J9 : Option (Int32 × Mem)) => GG x f 4 (Qm x f φIM) 67 [(0, .ref (x.1 17)), (2, .int p3)] [] r1 J9) ?_ (fun J9 hJ9 => ?_)
          · show GG x f 4 (Qm x f φIM) 67 [(0, .ref (x.1 17)), (2, .int p3)] [] r1 _
            refine g_iload_n hC 1 dX3_fewestClashing_67 rfl rfl ?_
            refine g_istore_n hC (lv' := [(0, .ref (x.1 17)), (1, .int p3), (2, .int p3)]) [1, 0, 2] dX3_fewestClashing_68 rfl (by decide) rfl ?_
            exact hJ8 p3
          refine g_icmp_eq hC 67 dX3_fewestClashing_53 (by decide) ?_ ?_
          · refine g_lv (lv' := [(0, .ref (x.1 17)), (2, .int p3)]) [0, 2] rfl ?_
            exact hJ9
          · refine g_iload_n hC 2 dX3_fewestClashing_56 rfl rfl ?_
            refine g_calls hC (st := []) (ctJ6_bitCount_0f7a4 x F p3 r1) msJ6_bitCount_0f7a4 m_583 (by decide) rfl rfl (Nat.le_of_ble_eq_true rfl) dX3_fewestClashing_57 (fun r10 => ?_)
            show GG x f 4 (Qm x f φIM) 60 [(0, .ref (x.1 17)), (1, .int p2), (2, .int p3), (3, .int q5)] [.int r10] r1 _
            refine g_iload_n hC 1 dX3_fewestClashing_60 rfl rfl ?_
            refine g_calls hC (st := [.int r10]) (ctJ6_bitCount_0f7a4 x F p2 r1) msJ6_bitCount_0f7a4 m_583 (by decide) rfl rfl (Nat.le_of_ble_eq_true rfl) dX3_fewestClashing_61 (fun r11 => ?_)
            show GG x f 4 (Qm x f φIM) 64 [(0, .ref (x.1 17)), (1, .int p2), (2, .int p3), (3, .int q5)] [.int r11, .int r10] r1 _
            refine g_icmp_ge hC 69 dX3_fewestClashing_64 (by decide) ?_ ?_
            · refine g_lv (lv' := [(0, .ref (x.1 17)), (1, .int p2), (2, .int p3)]) [0, 1, 2] rfl ?_
              exact hJ8 p2
            · refine g_lv (lv' := [(0, .ref (x.1 17)), (2, .int p3)]) [0, 2] rfl ?_
              exact hJ9
      refine g_if_ne hC 45 dX3_fewestClashing_38 (by decide) ?_ ?_
      · refine g_iconst hC (v := (0 : Int32)) dX3_fewestClashing_45 (by decide) ?_
        exact hJ6 (0 : Int32)
      · refine g_iconst hC (v := (1 : Int32)) dX3_fewestClashing_41 (by decide) ?_
        refine g_goto hC 46 dX3_fewestClashing_42 (by decide) ?_
        exact hJ6 (1 : Int32)
  · refine g_iconst hC (v := (-1 : Int32)) dX3_fewestClashing_7 (by decide) ?_
    exact g_iret hC hm rfl dX3_fewestClashing_8
def sX3_fewestBroken_L9 (F : Nat) (M : Mem) (rec4 : Int32 → Int32 → Option Int32) (p2 : Int32) (p3 : Int32) : Option Int32 :=
if (M 17 6) < p3 then
(some p2)
else
(ib p3 1024 (
(sJ6_bitCount_0f7a4 F (M 18 (ix p3)) M).bind (fun r5 =>
(sJ6_bitCount_0f7a4 F p2 M).bind (fun r6 =>
nm (r5 - r6) (fun v7 =>
nm (fun (p8 : Int32) =>
rec4 p8 (p3 + (1 : Int32))) (fun J9 =>
nm (ib p3 1024 (
nm (M 18 (ix p3)) (fun v11 =>
J9 v11))) (fun J10 =>
if v7 < 0 then
(J10)
else
(if ¬ v7 = 0 then
(J9 p2)
else
(ib p3 1024 (
if p2 ≤ (M 18 (ix p3)) then
(J9 p2)
else
(J10)))))))))))
def sX3_fewestBroken (F : Nat) (M : Mem) : Option Int32 :=
ib (0 : Int32) 1024 (
nm (M 18 (ix (0 : Int32))) (fun v1 =>
fx2 F (sX3_fewestBroken_L9 F M) v1 (1 : Int32)))
theorem mvX3_fewestBroken : MV yX3_fewestBroken cX3_fewestBroken 4 (some .int) 0 := ⟨⟨m_597, m_71, by decide, by decide, by decide⟩, m_595, m_596⟩
set_option maxHeartbeats 4000000 in
set_option maxRecDepth 100000 in
theorem ctX3_fewestBroken (x : Wx) (F : Nat) (M : Mem) : Ct x yX3_fewestBroken cX3_fewestBroken 4 (some .int) { frames := 1, cells := 0, slots := 0, locals := 20 } (φI M) [.ref (x.1 17)] M (sX3_fewestBroken F M) := by
  refine ct_of (by decide) (Nat.le_of_ble_eq_true rfl) (fun f hC hm => ?_)
  have hC : Cx x f "AnswersFirst$Rows" cX3_fewestBroken 4 { frames := 1, cells := 0, slots := 0, locals := 20 } := hC
  show GG x f 4 (Qm x f (φI M)) 0 [(0, .ref (x.1 17))] [] M _
  unfold sX3_fewestBroken
  refine g_aload_n hC 0 dX3_fewestBroken_0 rfl rfl ?_
  refine g_getR hC cf3 (t := 18) rfl 0 (by decide) rfl m_154 dX3_fewestBroken_1 ?_
  refine g_iconst hC (v := (0 : Int32)) dX3_fewestBroken_4 (by decide) ?_
  refine g_iald hC rfl rfl dX3_fewestBroken_5 ?_
  refine g_top (fun v1 => ?_)
  show GG x f 4 (Qm x f (φI M)) 6 [(0, .ref (x.1 17))] [.int v1] M _
  refine g_istore_n hC (lv' := [(0, .ref (x.1 17)), (1, .int v1)]) [1, 0] dX3_fewestBroken_6 rfl (by decide) rfl ?_
  refine g_iconst hC (v := (1 : Int32)) dX3_fewestBroken_7 (by decide) ?_
  refine g_istore_n hC (lv' := [(0, .ref (x.1 17)), (1, .int v1), (2, .int (1 : Int32))]) [1, 2, 0] dX3_fewestBroken_8 rfl (by decide) rfl ?_
  refine g_fx2 (fun (p2 : Int32) (p3 : Int32) => [(0, .ref (x.1 17)), (1, .int p2), (2, .int p3)]) (fun (p2 : Int32) (p3 : Int32) => M) (fun rec4 hrec4 p2 p3 => ?_) F _ _
  show GG x f 4 (Qm x f (φI M)) 9 [(0, .ref (x.1 17)), (1, .int p2), (2, .int p3)] [] M _
  unfold sX3_fewestBroken_L9
  refine g_iload_n hC 2 dX3_fewestBroken_9 rfl rfl ?_
  refine g_aload_n hC 0 dX3_fewestBroken_10 rfl rfl ?_
  refine g_getI hC cf3 rfl 6 (by decide) rfl m_160 dX3_fewestBroken_11 ?_
  refine g_icmp_gt hC 63 dX3_fewestBroken_14 (by decide) ?_ ?_
  · refine g_iload_n hC 1 dX3_fewestBroken_63 rfl rfl ?_
    exact g_iret hC hm rfl dX3_fewestBroken_64
  · refine g_aload_n hC 0 dX3_fewestBroken_17 rfl rfl ?_
    refine g_getR hC cf3 (t := 18) rfl 0 (by decide) rfl m_154 dX3_fewestBroken_18 ?_
    refine g_iload_n hC 2 dX3_fewestBroken_21 rfl rfl ?_
    refine g_iald hC rfl rfl dX3_fewestBroken_22 ?_
    refine g_calls hC (st := []) (ctJ6_bitCount_0f7a4 x F (M 18 (ix p3)) M) msJ6_bitCount_0f7a4 m_583 (by decide) rfl rfl (Nat.le_of_ble_eq_true rfl) dX3_fewestBroken_23 (fun r5 => ?_)
    show GG x f 4 (Qm x f (φI M)) 26 [(0, .ref (x.1 17)), (1, .int p2), (2, .int p3)] [.int r5] M _
    refine g_iload_n hC 1 dX3_fewestBroken_26 rfl rfl ?_
    refine g_calls hC (st := [.int r5]) (ctJ6_bitCount_0f7a4 x F p2 M) msJ6_bitCount_0f7a4 m_583 (by decide) rfl rfl (Nat.le_of_ble_eq_true rfl) dX3_fewestBroken_27 (fun r6 => ?_)
    show GG x f 4 (Qm x f (φI M)) 30 [(0, .ref (x.1 17)), (1, .int p2), (2, .int p3)] [.int r6, .int r5] M _
    refine g_isub hC dX3_fewestBroken_30 ?_
    refine g_top (fun v7 => ?_)
    show GG x f 4 (Qm x f (φI M)) 31 [(0, .ref (x.1 17)), (1, .int p2), (2, .int p3)] [.int v7] M _
    refine g_istore_n hC (lv' := [(0, .ref (x.1 17)), (1, .int p2), (2, .int p3), (3, .int v7)]) [1, 2, 3, 0] dX3_fewestBroken_31 rfl (by decide) rfl ?_
    refine g_iload_n hC 3 dX3_fewestBroken_32 rfl rfl ?_
    refine g_nm (fun (J9 : Int32 → Option Int32) => ∀ (p8 : Int32), GG x f 4 (Qm x f (φI M)) 57 [(0, .ref (x.1 17)), (1, .int p8), (2, .int p3)] [] M (J9 p8)) (fun p8 => ?_) (fun J9 hJ9 => ?_)
    · show GG x f 4 (Qm x f (φI M)) 57 [(0, .ref (x.1 17)), (1, .int p8), (2, .int p3)] [] M _
      refine g_iinc hC (q := 2) (v := (1 : Int32)) (lv' := [(0, .ref (x.1 17)), (1, .int p8), (2, .int (p3 + (1 : Int32)))]) [1, 2, 0] dX3_fewestBroken_57 rfl (by decide) (by decide) rfl ?_
      refine g_goto hC 9 dX3_fewestBroken_60 (by decide) ?_
      exact hrec4 p8 (p3 + (1 : Int32))
    refine g_nm (fun (J10 : Option Int32) => GG x f 4 (Qm x f (φI M)) 50 [(0, .ref (x.1 17)), (2, .int p3)] [] M J10) ?_ (fun J10 hJ10 => ?_)
    · show GG x f 4 (Qm x f (φI M)) 50 [(0, .ref (x.1 17)), (2, .int p3)] [] M _
      refine g_aload_n hC 0 dX3_fewestBroken_50 rfl rfl ?_
      refine g_getR hC cf3 (t := 18) rfl 0 (by decide) rfl m_154 dX3_fewestBroken_51 ?_
      refine g_iload_n hC 1 dX3_fewestBroken_54 rfl rfl ?_
      refine g_iald hC rfl rfl dX3_fewestBroken_55 ?_
      refine g_top (fun v11 => ?_)
      show GG x f 4 (Qm x f (φI M)) 56 [(0, .ref (x.1 17)), (2, .int p3)] [.int v11] M _
      refine g_istore_n hC (lv' := [(0, .ref (x.1 17)), (1, .int v11), (2, .int p3)]) [1, 0, 2] dX3_fewestBroken_56 rfl (by decide) rfl ?_
      exact hJ9 v11
    refine g_if_lt hC 50 dX3_fewestBroken_33 (by decide) ?_ ?_
    · refine g_lv (lv' := [(0, .ref (x.1 17)), (2, .int p3)]) [0, 2] rfl ?_
      exact hJ10
    · refine g_iload_n hC 3 dX3_fewestBroken_36 rfl rfl ?_
      refine g_if_ne hC 57 dX3_fewestBroken_37 (by decide) ?_ ?_
      · refine g_lv (lv' := [(0, .ref (x.1 17)), (1, .int p2), (2, .int p3)]) [0, 1, 2] rfl ?_
        exact hJ9 p2
      · refine g_aload_n hC 0 dX3_fewestBroken_40 rfl rfl ?_
        refine g_getR hC cf3 (t := 18) rfl 0 (by decide) rfl m_154 dX3_fewestBroken_41 ?_
        refine g_iload_n hC 2 dX3_fewestBroken_44 rfl rfl ?_
        refine g_iald hC rfl rfl dX3_fewestBroken_45 ?_
        refine g_iload_n hC 1 dX3_fewestBroken_46 rfl rfl ?_
        refine g_icmp_ge hC 57 dX3_fewestBroken_47 (by decide) ?_ ?_
        · refine g_lv (lv' := [(0, .ref (x.1 17)), (1, .int p2), (2, .int p3)]) [0, 1, 2] rfl ?_
          exact hJ9 p2
        · refine g_lv (lv' := [(0, .ref (x.1 17)), (2, .int p3)]) [0, 2] rfl ?_
          exact hJ10
def sX3_brokenBy (F : Nat) (a1 : Int32) (M : Mem) : Option Int32 :=
ib (a1 &&& (M 17 6)) 1024 (
some (M 18 (ix (a1 &&& (M 17 6)))))
theorem mvX3_brokenBy : MV yX3_brokenBy cX3_brokenBy 2 (some .int) 1 := ⟨⟨m_608, m_71, by decide, by decide, by decide⟩, m_606, m_607⟩
set_option maxHeartbeats 4000000 in
set_option maxRecDepth 100000 in
theorem ctX3_brokenBy (x : Wx) (F : Nat) (a1 : Int32) (M : Mem) : Ct x yX3_brokenBy cX3_brokenBy 2 (some .int) { frames := 0, cells := 0, slots := 0, locals := 0 } (φI M) [.ref (x.1 17), .int a1] M (sX3_brokenBy F a1 M) := by
  refine ct_of (by decide) (Nat.le_of_ble_eq_true rfl) (fun f hC hm => ?_)
  have hC : Cx x f "AnswersFirst$Rows" cX3_brokenBy 2 { frames := 0, cells := 0, slots := 0, locals := 0 } := hC
  show GG x f 2 (Qm x f (φI M)) 0 [(0, .ref (x.1 17)), (1, .int a1)] [] M _
  unfold sX3_brokenBy
  refine g_aload_n hC 0 dX3_brokenBy_0 rfl rfl ?_
  refine g_getR hC cf3 (t := 18) rfl 0 (by decide) rfl m_154 dX3_brokenBy_1 ?_
  refine g_iload_n hC 1 dX3_brokenBy_4 rfl rfl ?_
  refine g_aload_n hC 0 dX3_brokenBy_5 rfl rfl ?_
  refine g_getI hC cf3 rfl 6 (by decide) rfl m_160 dX3_brokenBy_6 ?_
  refine g_iand hC dX3_brokenBy_9 ?_
  refine g_iald hC rfl rfl dX3_brokenBy_10 ?_
  exact g_iret hC hm rfl dX3_brokenBy_11
def sX3_closestTo_L8 (F : Nat) (a1 : Int32) (M : Mem) (rec4 : Int32 → Int32 → Int32 → Option Int32) (p1 : Int32) (p2 : Int32) (p3 : Int32) : Option Int32 :=
if (M 17 7) ≤ p3 then
(some p1)
else
(ib p3 1024 (
(sJ6_bitCount_0f7a4 F ((M 19 (ix p3)) ^^^ (a1 &&& (M 17 6))) M).bind (fun r5 =>
nm (fun (p6 : Int32) (p7 : Int32) =>
rec4 p6 p7 (p3 + (1 : Int32))) (fun J8 =>
if p2 ≤ r5 then
(J8 p1 p2)
else
(ib p3 1024 (
nm (M 19 (ix p3)) (fun v9 =>
J8 v9 r5)))))))
def sX3_closestTo (F : Nat) (a1 : Int32) (M : Mem) : Option Int32 :=
fx3 F (sX3_closestTo_L8 F a1 M) (-1 : Int32) (11 : Int32) (0 : Int32)
theorem mvX3_closestTo : MV yX3_closestTo cX3_closestTo 6 (some .int) 1 := ⟨⟨m_616, m_71, by decide, by decide, by decide⟩, m_614, m_615⟩
set_option maxHeartbeats 4000000 in
set_option maxRecDepth 100000 in
theorem ctX3_closestTo (x : Wx) (F : Nat) (a1 : Int32) (M : Mem) : Ct x yX3_closestTo cX3_closestTo 6 (some .int) { frames := 1, cells := 0, slots := 0, locals := 20 } (φI M) [.ref (x.1 17), .int a1] M (sX3_closestTo F a1 M) := by
  refine ct_of (by decide) (Nat.le_of_ble_eq_true rfl) (fun f hC hm => ?_)
  have hC : Cx x f "AnswersFirst$Rows" cX3_closestTo 6 { frames := 1, cells := 0, slots := 0, locals := 20 } := hC
  show GG x f 6 (Qm x f (φI M)) 0 [(0, .ref (x.1 17)), (1, .int a1)] [] M _
  unfold sX3_closestTo
  refine g_iconst hC (v := (-1 : Int32)) dX3_closestTo_0 (by decide) ?_
  refine g_istore_n hC (lv' := [(0, .ref (x.1 17)), (1, .int a1), (2, .int (-1 : Int32))]) [1, 2, 0] dX3_closestTo_1 rfl (by decide) rfl ?_
  refine g_bipush hC (v := (11 : Int32)) dX3_closestTo_2 (by decide) ?_
  refine g_istore_n hC (lv' := [(0, .ref (x.1 17)), (1, .int a1), (2, .int (-1 : Int32)), (3, .int (11 : Int32))]) [1, 2, 3, 0] dX3_closestTo_4 rfl (by decide) rfl ?_
  refine g_iconst hC (v := (0 : Int32)) dX3_closestTo_5 (by decide) ?_
  refine g_istore hC (lv' := [(0, .ref (x.1 17)), (1, .int a1), (2, .int (-1 : Int32)), (3, .int (11 : Int32)), (4, .int (0 : Int32))]) [1, 2, 3, 4, 0] dX3_closestTo_6 (by decide) rfl ?_
  refine g_fx3 (fun (p1 : Int32) (p2 : Int32) (p3 : Int32) => [(0, .ref (x.1 17)), (1, .int a1), (2, .int p1), (3, .int p2), (4, .int p3)]) (fun (p1 : Int32) (p2 : Int32) (p3 : Int32) => M) (fun rec4 hrec4 p1 p2 p3 => ?_) F _ _ _
  show GG x f 6 (Qm x f (φI M)) 8 [(0, .ref (x.1 17)), (1, .int a1), (2, .int p1), (3, .int p2), (4, .int p3)] [] M _
  unfold sX3_closestTo_L8
  refine g_iload hC 4 dX3_closestTo_8 rfl ?_
  refine g_aload_n hC 0 dX3_closestTo_10 rfl rfl ?_
  refine g_getI hC cf3 rfl 7 (by decide) rfl m_161 dX3_closestTo_11 ?_
  refine g_icmp_ge hC 59 dX3_closestTo_14 (by decide) ?_ ?_
  · refine g_iload_n hC 2 dX3_closestTo_59 rfl rfl ?_
    exact g_iret hC hm rfl dX3_closestTo_60
  · refine g_aload_n hC 0 dX3_closestTo_17 rfl rfl ?_
    refine g_getR hC cf3 (t := 19) rfl 1 (by decide) rfl m_155 dX3_closestTo_18 ?_
    refine g_iload hC 4 dX3_closestTo_21 rfl ?_
    refine g_iald hC rfl rfl dX3_closestTo_23 ?_
    refine g_iload_n hC 1 dX3_closestTo_24 rfl rfl ?_
    refine g_aload_n hC 0 dX3_closestTo_25 rfl rfl ?_
    refine g_getI hC cf3 rfl 6 (by decide) rfl m_160 dX3_closestTo_26 ?_
    refine g_iand hC dX3_closestTo_29 ?_
    refine g_ixor hC dX3_closestTo_30 ?_
    refine g_calls hC (st := []) (ctJ6_bitCount_0f7a4 x F ((M 19 (ix p3)) ^^^ (a1 &&& (M 17 6))) M) msJ6_bitCount_0f7a4 m_583 (by decide) rfl rfl (Nat.le_of_ble_eq_true rfl) dX3_closestTo_31 (fun r5 => ?_)
    show GG x f 6 (Qm x f (φI M)) 34 [(0, .ref (x.1 17)), (1, .int a1), (2, .int p1), (3, .int p2), (4, .int p3)] [.int r5] M _
    refine g_istore hC (lv' := [(0, .ref (x.1 17)), (1, .int a1), (2, .int p1), (3, .int p2), (4, .int p3), (5, .int r5)]) [1, 2, 3, 4, 5, 0] dX3_closestTo_34 (by decide) rfl ?_
    refine g_iload hC 5 dX3_closestTo_36 rfl ?_
    refine g_iload_n hC 3 dX3_closestTo_38 rfl rfl ?_
    refine g_nm (fun (J8 : Int32 → Int32 → Option Int32) => ∀ (p6 : Int32) (p7 : Int32), GG x f 6 (Qm x f (φI M)) 53 [(0, .ref (x.1 17)), (1, .int a1), (2, .int p6), (3, .int p7), (4, .int p3)] [] M (J8 p6 p7)) (fun p6 p7 => ?_) (fun J8 hJ8 => ?_)
    · show GG x f 6 (Qm x f (φI M)) 53 [(0, .ref (x.1 17)), (1, .int a1), (2, .int p6), (3, .int p7), (4, .int p3)] [] M _
      refine g_iinc hC (q := 4) (v := (1 : Int32)) (lv' := [(0, .ref (x.1 17)), (1, .int a1), (2, .int p6), (3, .int p7), (4, .int (p3 + (1 : Int32)))]) [1, 2, 3, 4, 0] dX3_closestTo_53 rfl (by decide) (by decide) rfl ?_
      refine g_goto hC 8 dX3_closestTo_56 (by decide) ?_
      exact hrec4 p6 p7 (p3 + (1 : Int32))
    refine g_icmp_ge hC 53 dX3_closestTo_39 (by decide) ?_ ?_
    · refine g_lv (lv' := [(0, .ref (x.1 17)), (1, .int a1), (2, .int p1), (3, .int p2), (4, .int p3)]) [0, 1, 2, 3, 4] rfl ?_
      exact hJ8 p1 p2
    · refine g_aload_n hC 0 dX3_closestTo_42 rfl rfl ?_
      refine g_getR hC cf3 (t := 19) rfl 1 (by decide) rfl m_155 dX3_closestTo_43 ?_
      refine g_iload hC 4 dX3_closestTo_46 rfl ?_
      refine g_iald hC rfl rfl dX3_closestTo_48 ?_
      refine g_top (fun v9 => ?_)
      show GG x f 6 (Qm x f (φI M)) 49 [(0, .ref (x.1 17)), (1, .int a1), (2, .int p1), (3, .int p2), (4, .int p3), (5, .int r5)] [.int v9] M _
      refine g_istore_n hC (lv' := [(0, .ref (x.1 17)), (1, .int a1), (2, .int v9), (4, .int p3), (5, .int r5)]) [1, 2, 0, 4, 5] dX3_closestTo_49 rfl (by decide) rfl ?_
      refine g_iload hC 4 dX3_closestTo_50 rfl ?_
      refine g_istore_n hC (lv' := [(0, .ref (x.1 17)), (1, .int a1), (2, .int v9), (3, .int r5), (4, .int p3)]) [1, 2, 3, 0, 4] dX3_closestTo_52 rfl (by decide) rfl ?_
      exact hJ8 v9 r5
def sX3_behindSteps_L10 (F : Nat) (a2 : Int32) (M : Mem) (rec4 : Int32 → Int32 → Option Int32) (p2 : Int32) (p3 : Int32) : Option Int32 :=
if a2 ≤ p3 then
(some p2)
else
(ib p2 1024 (
nm (p2 ^^^ (M 18 (ix p2))) (fun v5 =>
rec4 v5 (p3 + (1 : Int32)))))
def sX3_behindSteps (F : Nat) (a1 : Int32) (a2 : Int32) (M : Mem) : Option Int32 :=
nm (a1 &&& (M 17 6)) (fun v1 =>
fx2 F (sX3_behindSteps_L10 F a2 M) v1 (0 : Int32))
theorem mvX3_behindSteps : MV yX3_behindSteps cX3_behindSteps 5 (some .int) 2 := ⟨⟨m_624, m_71, by decide, by decide, by decide⟩, m_622, m_623⟩
set_option maxHeartbeats 4000000 in
set_option maxRecDepth 100000 in
theorem ctX3_behindSteps (x : Wx) (F : Nat) (a1 : Int32) (a2 : Int32) (M : Mem) : Ct x yX3_behindSteps cX3_behindSteps 5 (some .int) { frames := 0, cells := 0, slots := 0, locals := 0 } (φI M) [.ref (x.1 17), .int a1, .int a2] M (sX3_behindSteps F a1 a2 M) := by
  refine ct_of (by decide) (Nat.le_of_ble_eq_true rfl) (fun f hC hm => ?_)
  have hC : Cx x f "AnswersFirst$Rows" cX3_behindSteps 5 { frames := 0, cells := 0, slots := 0, locals := 0 } := hC
  show GG x f 5 (Qm x f (φI M)) 0 [(0, .ref (x.1 17)), (1, .int a1), (2, .int a2)] [] M _
  unfold sX3_behindSteps
  refine g_iload_n hC 1 dX3_behindSteps_0 rfl rfl ?_
  refine g_aload_n hC 0 dX3_behindSteps_1 rfl rfl ?_
  refine g_getI hC cf3 rfl 6 (by decide) rfl m_160 dX3_behindSteps_2 ?_
  refine g_iand hC dX3_behindSteps_5 ?_
  refine g_top (fun v1 => ?_)
  show GG x f 5 (Qm x f (φI M)) 6 [(0, .ref (x.1 17)), (1, .int a1), (2, .int a2)] [.int v1] M _
  refine g_istore_n hC (lv' := [(0, .ref (x.1 17)), (2, .int a2), (3, .int v1)]) [1, 3, 0] dX3_behindSteps_6 rfl (by decide) rfl ?_
  refine g_iconst hC (v := (0 : Int32)) dX3_behindSteps_7 (by decide) ?_
  refine g_istore hC (lv' := [(0, .ref (x.1 17)), (2, .int a2), (3, .int v1), (4, .int (0 : Int32))]) [1, 2, 3, 0] dX3_behindSteps_8 (by decide) rfl ?_
  refine g_fx2 (fun (p2 : Int32) (p3 : Int32) => [(0, .ref (x.1 17)), (2, .int a2), (3, .int p2), (4, .int p3)]) (fun (p2 : Int32) (p3 : Int32) => M) (fun rec4 hrec4 p2 p3 => ?_) F _ _
  show GG x f 5 (Qm x f (φI M)) 10 [(0, .ref (x.1 17)), (2, .int a2), (3, .int p2), (4, .int p3)] [] M _
  unfold sX3_behindSteps_L10
  refine g_iload hC 3 dX3_behindSteps_10 rfl ?_
  refine g_iload_n hC 1 dX3_behindSteps_12 rfl rfl ?_
  refine g_icmp_ge hC 31 dX3_behindSteps_13 (by decide) ?_ ?_
  · refine g_iload_n hC 2 dX3_behindSteps_31 rfl rfl ?_
    exact g_iret hC hm rfl dX3_behindSteps_32
  · refine g_iload_n hC 2 dX3_behindSteps_16 rfl rfl ?_
    refine g_aload_n hC 0 dX3_behindSteps_17 rfl rfl ?_
    refine g_getR hC cf3 (t := 18) rfl 0 (by decide) rfl m_154 dX3_behindSteps_18 ?_
    refine g_iload_n hC 2 dX3_behindSteps_21 rfl rfl ?_
    refine g_iald hC rfl rfl dX3_behindSteps_22 ?_
    refine g_ixor hC dX3_behindSteps_23 ?_
    refine g_top (fun v5 => ?_)
    show GG x f 5 (Qm x f (φI M)) 24 [(0, .ref (x.1 17)), (2, .int a2), (3, .int p2), (4, .int p3)] [.int v5] M _
    refine g_istore_n hC (lv' := [(0, .ref (x.1 17)), (2, .int a2), (3, .int v5), (4, .int p3)]) [1, 2, 0, 3] dX3_behindSteps_24 rfl (by decide) rfl ?_
    refine g_iinc hC (q := 3) (v := (1 : Int32)) (lv' := [(0, .ref (x.1 17)), (2, .int a2), (3, .int v5), (4, .int (p3 + (1 : Int32)))]) [1, 2, 3, 0] dX3_behindSteps_25 rfl (by decide) (by decide) rfl ?_
    refine g_goto hC 10 dX3_behindSteps_28 (by decide) ?_
    exact hrec4 v5 (p3 + (1 : Int32))
def sX3_stepsToReturn_L15 (F : Nat) (J6 : Int32 → Int32 → Mem → Option (Int32 × Mem)) (rec10 : Int32 → Int32 → Mem → Option (Int32 × Mem)) (p7 : Int32) (p8 : Int32) (M9 : Mem) : Option (Int32 × Mem) :=
if (1024 : Int32) < p8 then
(J6 p7 p8 M9)
else
(ib p7 1024 (
if ¬ (M9 20 (ix p7)) = (-1 : Int32) then
(J6 p7 p8 M9)
else
(ib p7 1024 (
nm (st2 M9 20 (ix p7) p8) (fun M11 =>
ib p7 1024 (
nm (p7 ^^^ (M11 18 (ix p7))) (fun v12 =>
rec10 v12 (p8 + (1 : Int32)) M11)))))))
def sX3_stepsToReturn (F : Nat) (a1 : Int32) (a2 : Int32) (M : Mem) : Option (Int32 × Mem) :=
(sX3_fillMarks F (-1 : Int32) M).bind (fun r1 =>
nm (a1 &&& (r1 17 6)) (fun v2 =>
nm (fun (p3 : Int32) (p4 : Int32) (M5 : Mem) =>
if a2 = 0 then
(some (p4, M5))
else
(ib p3 1024 (
some ((p4 - (M5 20 (ix p3))), M5)))) (fun J6 =>
fx3 F (sX3_stepsToReturn_L15 F J6) v2 (0 : Int32) r1)))
theorem mvX3_stepsToReturn : MV yX3_stepsToReturn cX3_stepsToReturn 5 (some .int) 2 := ⟨⟨m_632, m_71, by decide, by decide, by decide⟩, m_630, m_631⟩
set_option maxHeartbeats 4000000 in
set_option maxRecDepth 100000 in
theorem ctX3_stepsToReturn (x : Wx) (F : Nat) (a1 : Int32) (a2 : Int32) (M : Mem) : Ct x yX3_stepsToReturn cX3_stepsToReturn 5 (some .int) { frames := 1, cells := 0, slots := 0, locals := 22 } φIM [.ref (x.1 17), .int a1, .int a2] M (sX3_stepsToReturn F a1 a2 M) := by
  refine ct_of (by decide) (Nat.le_of_ble_eq_true rfl) (fun f hC hm => ?_)
  have hC : Cx x f "AnswersFirst$Rows" cX3_stepsToReturn 5 { frames := 1, cells := 0, slots := 0, locals := 22 } := hC
  show GG x f 5 (Qm x f φIM) 0 [(0, .ref (x.1 17)), (1, .int a1), (2, .int a2)] [] M _
  unfold sX3_stepsToReturn
  refine g_aload_n hC 0 dX3_stepsToReturn_0 rfl rfl ?_
  refine g_iconst hC (v := (-1 : Int32)) dX3_stepsToReturn_1 (by decide) ?_
  refine g_callv hC (st := []) (c := 3) rfl (by decide) rfl (ctX3_fillMarks x F (-1 : Int32) M) mvX3_fillMarks m_579 (by decide) rfl rfl (Nat.le_of_ble_eq_true rfl) dX3_stepsToReturn_2 (fun r1 => ?_)
  show GG x f 5 (Qm x f φIM) 5 [(0, .ref (x.1 17)), (1, .int a1), (2, .int a2)] [] r1 _
  refine g_iload_n hC 1 dX3_stepsToReturn_5 rfl rfl ?_
  refine g_aload_n hC 0 dX3_stepsToReturn_6 rfl rfl ?_
  refine g_getI hC cf3 rfl 6 (by decide) rfl m_160 dX3_stepsToReturn_7 ?_
  refine g_iand hC dX3_stepsToReturn_10 ?_
  refine g_top (fun v2 => ?_)
  show GG x f 5 (Qm x f φIM) 11 [(0, .ref (x.1 17)), (1, .int a1), (2, .int a2)] [.int v2] r1 _
  refine g_istore_n hC (lv' := [(0, .ref (x.1 17)), (2, .int a2), (3, .int v2)]) [1, 3, 0] dX3_stepsToReturn_11 rfl (by decide) rfl ?_
  refine g_iconst hC (v := (0 : Int32)) dX3_stepsToReturn_12 (by decide) ?_
  refine g_istore hC (lv' := [(0, .ref (x.1 17)), (2, .int a2), (3, .int v2), (4, .int (0 : Int32))]) [1, 2, 3, 0] dX3_stepsToReturn_13 (by decide) rfl ?_
  refine g_nm (fun (J6 : Int32 → Int32 → Mem → Option (Int32 × Mem)) => ∀ (p3 : Int32) (p4 : Int32) (M5 : Mem), GG x f 5 (Qm x f φIM) 56 [(0, .ref (x.1 17)), (2, .int a2), (3, .int p3), (4, .int p4)] [] M5 (J6 p3 p4 M5)) (fun p3 p4 M5 => ?_) (fun J6 hJ6 => ?_)
  · show GG x f 5 (Qm x f φIM) 56 [(0, .ref (x.1 17)), (2, .int a2), (3, .int p3), (4, .int p4)] [] M5 _
    refine g_iload_n hC 1 dX3_stepsToReturn_56 rfl rfl ?_
    refine g_if_eq hC 72 dX3_stepsToReturn_57 (by decide) ?_ ?_
    · refine g_iload hC 3 dX3_stepsToReturn_72 rfl ?_
      exact g_iret hC hm rfl dX3_stepsToReturn_74
    · refine g_iload hC 3 dX3_stepsToReturn_60 rfl ?_
      refine g_aload_n hC 0 dX3_stepsToReturn_62 rfl rfl ?_
      refine g_getR hC cf3 (t := 20) rfl 2 (by decide) rfl m_156 dX3_stepsToReturn_63 ?_
      refine g_iload_n hC 2 dX3_stepsToReturn_66 rfl rfl ?_
      refine g_iald hC rfl rfl dX3_stepsToReturn_67 ?_
      refine g_isub hC dX3_stepsToReturn_68 ?_
      refine g_goto hC 74 dX3_stepsToReturn_69 (by decide) ?_
      exact g_iret hC hm rfl dX3_stepsToReturn_74
  refine g_fx3 (fun (p7 : Int32) (p8 : Int32) (M9 : Mem) => [(0, .ref (x.1 17)), (2, .int a2), (3, .int p7), (4, .int p8)]) (fun (p7 : Int32) (p8 : Int32) (M9 : Mem) => M9) (fun rec10 hrec10 p7 p8 M9 => ?_) F _ _ _
  show GG x f 5 (Qm x f φIM) 15 [(0, .ref (x.1 17)), (2, .int a2), (3, .int p7), (4, .int p8)] [] M9 _
  unfold sX3_stepsToReturn_L15
  refine g_iload hC 3 dX3_stepsToReturn_15 rfl ?_
  refine g_sipush hC (v := (1024 : Int32)) dX3_stepsToReturn_17 (by decide) ?_
  refine g_icmp_gt hC 56 dX3_stepsToReturn_20 (by decide) ?_ ?_
  · exact hJ6 p7 p8 M9
  · refine g_aload_n hC 0 dX3_stepsToReturn_23 rfl rfl ?_
    refine g_getR hC cf3 (t := 20) rfl 2 (by decide) rfl m_156 dX3_stepsToReturn_24 ?_
    refine g_iload_n hC 2 dX3_stepsToReturn_27 rfl rfl ?_
    refine g_iald hC rfl rfl dX3_stepsToReturn_28 ?_
    refine g_iconst hC (v := (-1 : Int32)) dX3_stepsToReturn_29 (by decide) ?_
    refine g_icmp_ne hC 56 dX3_stepsToReturn_30 (by decide) ?_ ?_
    · exact hJ6 p7 p8 M9
    · refine g_aload_n hC 0 dX3_stepsToReturn_33 rfl rfl ?_
      refine g_getR hC cf3 (t := 20) rfl 2 (by decide) rfl m_156 dX3_stepsToReturn_34 ?_
      refine g_iload_n hC 2 dX3_stepsToReturn_37 rfl rfl ?_
      refine g_iload hC 3 dX3_stepsToReturn_38 rfl ?_
      refine g_iast hC rfl rfl dX3_stepsToReturn_40 (fun M11 => ?_)
      show GG x f 5 (Qm x f φIM) 41 [(0, .ref (x.1 17)), (2, .int a2), (3, .int p7), (4, .int p8)] [] M11 _
      refine g_iload_n hC 2 dX3_stepsToReturn_41 rfl rfl ?_
      refine g_aload_n hC 0 dX3_stepsToReturn_42 rfl rfl ?_
      refine g_getR hC cf3 (t := 18) rfl 0 (by decide) rfl m_154 dX3_stepsToReturn_43 ?_
      refine g_iload_n hC 2 dX3_stepsToReturn_46 rfl rfl ?_
      refine g_iald hC rfl rfl dX3_stepsToReturn_47 ?_
      refine g_ixor hC dX3_stepsToReturn_48 ?_
      refine g_top (fun v12 => ?_)
      show GG x f 5 (Qm x f φIM) 49 [(0, .ref (x.1 17)), (2, .int a2), (3, .int p7), (4, .int p8)] [.int v12] M11 _
      refine g_istore_n hC (lv' := [(0, .ref (x.1 17)), (2, .int a2), (3, .int v12), (4, .int p8)]) [1, 2, 0, 3] dX3_stepsToReturn_49 rfl (by decide) rfl ?_
      refine g_iinc hC (q := 3) (v := (1 : Int32)) (lv' := [(0, .ref (x.1 17)), (2, .int a2), (3, .int v12), (4, .int (p8 + (1 : Int32)))]) [1, 2, 3, 0] dX3_stepsToReturn_50 rfl (by decide) (by decide) rfl ?_
      refine g_goto hC 15 dX3_stepsToReturn_53 (by decide) ?_
      exact hrec10 v12 (p8 + (1 : Int32)) M11
def sX3_hangingOn_L7 (F : Nat) (M : Mem) (rec4 : Int32 → Int32 → Int32 → Option Int32) (p1 : Int32) (p2 : Int32) (p3 : Int32) : Option Int32 :=
if (M 17 5) ≤ p3 then
(some p1)
else
(if p2 < 0 then
(some p1)
else
(if (M 17 5) ≤ p2 then
(some p1)
else
(ib p2 10 (
nm (M 21 (ix p2)) (fun v5 =>
nm (fun (p6 : Int32) =>
rec4 p6 v5 (p3 + (1 : Int32))) (fun J7 =>
if v5 < 0 then
(J7 p1)
else
(nm (p1 ||| ((1 : Int32) <<< (v5 &&& 31))) (fun v8 =>
J7 v8))))))))
def sX3_hangingOn (F : Nat) (a1 : Int32) (M : Mem) : Option Int32 :=
fx3 F (sX3_hangingOn_L7 F M) (0 : Int32) a1 (0 : Int32)
theorem mvX3_hangingOn : MV yX3_hangingOn cX3_hangingOn 5 (some .int) 1 := ⟨⟨m_640, m_71, by decide, by decide, by decide⟩, m_638, m_639⟩
set_option maxHeartbeats 4000000 in
set_option maxRecDepth 100000 in
theorem ctX3_hangingOn (x : Wx) (F : Nat) (a1 : Int32) (M : Mem) : Ct x yX3_hangingOn cX3_hangingOn 5 (some .int) { frames := 0, cells := 0, slots := 0, locals := 0 } (φI M) [.ref (x.1 17), .int a1] M (sX3_hangingOn F a1 M) := by
  refine ct_of (by decide) (Nat.le_of_ble_eq_true rfl) (fun f hC hm => ?_)
  have hC : Cx x f "AnswersFirst$Rows" cX3_hangingOn 5 { frames := 0, cells := 0, slots := 0, locals := 0 } := hC
  show GG x f 5 (Qm x f (φI M)) 0 [(0, .ref (x.1 17)), (1, .int a1)] [] M _
  unfold sX3_hangingOn
  refine g_iconst hC (v := (0 : Int32)) dX3_hangingOn_0 (by decide) ?_
  refine g_istore_n hC (lv' := [(0, .ref (x.1 17)), (1, .int a1), (2, .int (0 : Int32))]) [1, 2, 0] dX3_hangingOn_1 rfl (by decide) rfl ?_
  refine g_iload_n hC 1 dX3_hangingOn_2 rfl rfl ?_
  refine g_istore_n hC (lv' := [(0, .ref (x.1 17)), (2, .int (0 : Int32)), (3, .int a1)]) [1, 3, 0] dX3_hangingOn_3 rfl (by decide) rfl ?_
  refine g_iconst hC (v := (0 : Int32)) dX3_hangingOn_4 (by decide) ?_
  refine g_istore hC (lv' := [(0, .ref (x.1 17)), (2, .int (0 : Int32)), (3, .int a1), (4, .int (0 : Int32))]) [1, 2, 3, 0] dX3_hangingOn_5 (by decide) rfl ?_
  refine g_fx3 (fun (p1 : Int32) (p2 : Int32) (p3 : Int32) => [(0, .ref (x.1 17)), (2, .int p1), (3, .int p2), (4, .int p3)]) (fun (p1 : Int32) (p2 : Int32) (p3 : Int32) => M) (fun rec4 hrec4 p1 p2 p3 => ?_) F _ _ _
  show GG x f 5 (Qm x f (φI M)) 7 [(0, .ref (x.1 17)), (2, .int p1), (3, .int p2), (4, .int p3)] [] M _
  unfold sX3_hangingOn_L7
  refine g_iload hC 3 dX3_hangingOn_7 rfl ?_
  refine g_aload_n hC 0 dX3_hangingOn_9 rfl rfl ?_
  refine g_getI hC cf3 rfl 5 (by decide) rfl m_159 dX3_hangingOn_10 ?_
  refine g_icmp_ge hC 51 dX3_hangingOn_13 (by decide) ?_ ?_
  · refine g_iload_n hC 1 dX3_hangingOn_51 rfl rfl ?_
    exact g_iret hC hm rfl dX3_hangingOn_52
  · refine g_iload_n hC 2 dX3_hangingOn_16 rfl rfl ?_
    refine g_if_lt hC 51 dX3_hangingOn_17 (by decide) ?_ ?_
    · refine g_iload_n hC 1 dX3_hangingOn_51 rfl rfl ?_
      exact g_iret hC hm rfl dX3_hangingOn_52
    · refine g_iload_n hC 2 dX3_hangingOn_20 rfl rfl ?_
      refine g_aload_n hC 0 dX3_hangingOn_21 rfl rfl ?_
      refine g_getI hC cf3 rfl 5 (by decide) rfl m_159 dX3_hangingOn_22 ?_
      refine g_icmp_ge hC 51 dX3_hangingOn_25 (by decide) ?_ ?_
      · refine g_iload_n hC 1 dX3_hangingOn_51 rfl rfl ?_
        exact g_iret hC hm rfl dX3_hangingOn_52
      · refine g_aload_n hC 0 dX3_hangingOn_28 rfl rfl ?_
        refine g_getR hC cf3 (t := 21) rfl 3 (by decide) rfl m_157 dX3_hangingOn_29 ?_
        refine g_iload_n hC 2 dX3_hangingOn_32 rfl rfl ?_
        refine g_iald hC rfl rfl dX3_hangingOn_33 ?_
        refine g_top (fun v5 => ?_)
        show GG x f 5 (Qm x f (φI M)) 34 [(0, .ref (x.1 17)), (2, .int p1), (3, .int p2), (4, .int p3)] [.int v5] M _
        refine g_istore_n hC (lv' := [(0, .ref (x.1 17)), (2, .int p1), (3, .int v5), (4, .int p3)]) [1, 2, 0, 3] dX3_hangingOn_34 rfl (by decide) rfl ?_
        refine g_iload_n hC 2 dX3_hangingOn_35 rfl rfl ?_
        refine g_nm (fun (J7 : Int32 → Option Int32) => ∀ (p6 : Int32), GG x f 5 (Qm x f (φI M)) 45 [(0, .ref (x.1 17)), (2, .int p6), (3, .int v5), (4, .int p3)] [] M (J7 p6)) (fun p6 => ?_) (fun J7 hJ7 => ?_)
        · show GG x f 5 (Qm x f (φI M)) 45 [(0, .ref (x.1 17)), (2, .int p6), (3, .int v5), (4, .int p3)] [] M _
          refine g_iinc hC (q := 3) (v := (1 : Int32)) (lv' := [(0, .ref (x.1 17)), (2, .int p6), (3, .int v5), (4, .int (p3 + (1 : Int32)))]) [1, 2, 3, 0] dX3_hangingOn_45 rfl (by decide) (by decide) rfl ?_
          refine g_goto hC 7 dX3_hangingOn_48 (by decide) ?_
          exact hrec4 p6 v5 (p3 + (1 : Int32))
        refine g_if_lt hC 45 dX3_hangingOn_36 (by decide) ?_ ?_
        · exact hJ7 p1
        · refine g_iload_n hC 1 dX3_hangingOn_39 rfl rfl ?_
          refine g_iconst hC (v := (1 : Int32)) dX3_hangingOn_40 (by decide) ?_
          refine g_iload_n hC 2 dX3_hangingOn_41 rfl rfl ?_
          refine g_ishl hC dX3_hangingOn_42 ?_
          refine g_ior hC dX3_hangingOn_43 ?_
          refine g_top (fun v8 => ?_)
          show GG x f 5 (Qm x f (φI M)) 44 [(0, .ref (x.1 17)), (2, .int p1), (3, .int v5), (4, .int p3)] [.int v8] M _
          refine g_istore_n hC (lv' := [(0, .ref (x.1 17)), (2, .int v8), (3, .int v5), (4, .int p3)]) [1, 0, 2, 3] dX3_hangingOn_44 rfl (by decide) rfl ?_
          exact hJ7 v8
def sX3_inRings_L4 (F : Nat) (M : Mem) (rec3 : Int32 → Int32 → Option Int32) (p1 : Int32) (p2 : Int32) : Option Int32 :=
if (M 17 5) ≤ p2 then
(some p1)
else
((sX3_hangingOn F p2 M).bind (fun r4 =>
nm (p1 ||| (r4 &&& ((1 : Int32) <<< (p2 &&& 31)))) (fun v5 =>
rec3 v5 (p2 + (1 : Int32)))))
def sX3_inRings (F : Nat) (M : Mem) : Option Int32 :=
fx2 F (sX3_inRings_L4 F M) (0 : Int32) (0 : Int32)
theorem mvX3_inRings : MV yX3_inRings cX3_inRings 3 (some .int) 0 := ⟨⟨m_648, m_71, by decide, by decide, by decide⟩, m_646, m_647⟩
set_option maxHeartbeats 4000000 in
set_option maxRecDepth 100000 in
theorem ctX3_inRings (x : Wx) (F : Nat) (M : Mem) : Ct x yX3_inRings cX3_inRings 3 (some .int) { frames := 1, cells := 0, slots := 0, locals := 24 } (φI M) [.ref (x.1 17)] M (sX3_inRings F M) := by
  refine ct_of (by decide) (Nat.le_of_ble_eq_true rfl) (fun f hC hm => ?_)
  have hC : Cx x f "AnswersFirst$Rows" cX3_inRings 3 { frames := 1, cells := 0, slots := 0, locals := 24 } := hC
  show GG x f 3 (Qm x f (φI M)) 0 [(0, .ref (x.1 17))] [] M _
  unfold sX3_inRings
  refine g_iconst hC (v := (0 : Int32)) dX3_inRings_0 (by decide) ?_
  refine g_istore_n hC (lv' := [(0, .ref (x.1 17)), (1, .int (0 : Int32))]) [1, 0] dX3_inRings_1 rfl (by decide) rfl ?_
  refine g_iconst hC (v := (0 : Int32)) dX3_inRings_2 (by decide) ?_
  refine g_istore_n hC (lv' := [(0, .ref (x.1 17)), (1, .int (0 : Int32)), (2, .int (0 : Int32))]) [1, 2, 0] dX3_inRings_3 rfl (by decide) rfl ?_
  refine g_fx2 (fun (p1 : Int32) (p2 : Int32) => [(0, .ref (x.1 17)), (1, .int p1), (2, .int p2)]) (fun (p1 : Int32) (p2 : Int32) => M) (fun rec3 hrec3 p1 p2 => ?_) F _ _
  show GG x f 3 (Qm x f (φI M)) 4 [(0, .ref (x.1 17)), (1, .int p1), (2, .int p2)] [] M _
  unfold sX3_inRings_L4
  refine g_iload_n hC 2 dX3_inRings_4 rfl rfl ?_
  refine g_aload_n hC 0 dX3_inRings_5 rfl rfl ?_
  refine g_getI hC cf3 rfl 5 (by decide) rfl m_159 dX3_inRings_6 ?_
  refine g_icmp_ge hC 30 dX3_inRings_9 (by decide) ?_ ?_
  · refine g_iload_n hC 1 dX3_inRings_30 rfl rfl ?_
    exact g_iret hC hm rfl dX3_inRings_31
  · refine g_iload_n hC 1 dX3_inRings_12 rfl rfl ?_
    refine g_aload_n hC 0 dX3_inRings_13 rfl rfl ?_
    refine g_iload_n hC 2 dX3_inRings_14 rfl rfl ?_
    refine g_callv hC (st := [.int p1]) (c := 3) rfl (by decide) rfl (ctX3_hangingOn x F p2 M) mvX3_hangingOn m_649 (by decide) rfl rfl (Nat.le_of_ble_eq_true rfl) dX3_inRings_15 (fun r4 => ?_)
    show GG x f 3 (Qm x f (φI M)) 18 [(0, .ref (x.1 17)), (1, .int p1), (2, .int p2)] [.int r4, .int p1] M _
    refine g_iconst hC (v := (1 : Int32)) dX3_inRings_18 (by decide) ?_
    refine g_iload_n hC 2 dX3_inRings_19 rfl rfl ?_
    refine g_ishl hC dX3_inRings_20 ?_
    refine g_iand hC dX3_inRings_21 ?_
    refine g_ior hC dX3_inRings_22 ?_
    refine g_top (fun v5 => ?_)
    show GG x f 3 (Qm x f (φI M)) 23 [(0, .ref (x.1 17)), (1, .int p1), (2, .int p2)] [.int v5] M _
    refine g_istore_n hC (lv' := [(0, .ref (x.1 17)), (1, .int v5), (2, .int p2)]) [1, 0, 2] dX3_inRings_23 rfl (by decide) rfl ?_
    refine g_iinc hC (q := 2) (v := (1 : Int32)) (lv' := [(0, .ref (x.1 17)), (1, .int v5), (2, .int (p2 + (1 : Int32)))]) [1, 2, 0] dX3_inRings_24 rfl (by decide) (by decide) rfl ?_
    refine g_goto hC 4 dX3_inRings_27 (by decide) ?_
    exact hrec3 v5 (p2 + (1 : Int32))
def sX3_allBits (F : Nat) (M : Mem) : Option Int32 :=
some (M 17 6)
theorem mvX3_allBits : MV yX3_allBits cX3_allBits 1 (some .int) 0 := ⟨⟨m_693, m_71, by decide, by decide, by decide⟩, m_691, m_692⟩
set_option maxHeartbeats 4000000 in
set_option maxRecDepth 100000 in
theorem ctX3_allBits (x : Wx) (F : Nat) (M : Mem) : Ct x yX3_allBits cX3_allBits 1 (some .int) { frames := 0, cells := 0, slots := 0, locals := 0 } (φI M) [.ref (x.1 17)] M (sX3_allBits F M) := by
  refine ct_of (by decide) (Nat.le_of_ble_eq_true rfl) (fun f hC hm => ?_)
  have hC : Cx x f "AnswersFirst$Rows" cX3_allBits 1 { frames := 0, cells := 0, slots := 0, locals := 0 } := hC
  show GG x f 1 (Qm x f (φI M)) 0 [(0, .ref (x.1 17))] [] M _
  unfold sX3_allBits
  refine g_aload_n hC 0 dX3_allBits_0 rfl rfl ?_
  refine g_getI hC cf3 rfl 6 (by decide) rfl m_160 dX3_allBits_1 ?_
  exact g_iret hC hm rfl dX3_allBits_4
def sX0_fillTheirs_L21 (F : Nat) (p2 : Int32) (v5 : Int32) (J7 : Mem → Option Mem) (rec10 : Int32 → Mem → Option Mem) (p8 : Int32) (M9 : Mem) : Option Mem :=
if ((2 : Int32) * v5) ≤ p8 then
(J7 M9)
else
(if (1024 : Int32) ≤ p8 then
(J7 M9)
else
(ib (p8 - v5) 1024 (
ib p2 10 (
ib p8 1024 (
nm (st2 M9 25 (ix p8) ((M9 25 (ix (p8 - v5))) ||| (M9 24 (ix p2)))) (fun M11 =>
rec10 (p8 + (1 : Int32)) M11))))))
def sX0_fillTheirs_L9 (F : Nat) (a1 : Int32) (rec4 : Int32 → Mem → Option Mem) (p2 : Int32) (M3 : Mem) : Option Mem :=
if a1 ≤ p2 then
(some M3)
else
(nm ((1 : Int32) <<< (p2 &&& 31)) (fun v5 =>
nm (fun (M6 : Mem) =>
rec4 (p2 + (1 : Int32)) M6) (fun J7 =>
fx2 F (sX0_fillTheirs_L21 F p2 v5 J7) v5 M3)))
def sX0_fillTheirs (F : Nat) (a1 : Int32) (M : Mem) : Option Mem :=
ib (0 : Int32) 1024 (
nm (st2 M 25 (ix (0 : Int32)) (0 : Int32)) (fun M1 =>
fx2 F (sX0_fillTheirs_L9 F a1) (0 : Int32) M1))
theorem mvX0_fillTheirs : MV yX0_fillTheirs cX0_fillTheirs 5 none 1 := ⟨⟨m_717, m_72, by decide, by decide, by decide⟩, m_716, m_15⟩
set_option maxHeartbeats 4000000 in
set_option maxRecDepth 100000 in
theorem ctX0_fillTheirs (x : Wx) (F : Nat) (a1 : Int32) (M : Mem) : Ct x yX0_fillTheirs cX0_fillTheirs 5 none { frames := 0, cells := 0, slots := 0, locals := 0 } φM [.ref (x.1 23), .int a1] M (sX0_fillTheirs F a1 M) := by
  refine ct_of (by decide) (Nat.le_of_ble_eq_true rfl) (fun f hC hm => ?_)
  have hC : Cx x f "AnswersFirst$Accounts" cX0_fillTheirs 5 { frames := 0, cells := 0, slots := 0, locals := 0 } := hC
  show GG x f 5 (Qm x f φM) 0 [(0, .ref (x.1 23)), (1, .int a1)] [] M _
  unfold sX0_fillTheirs
  refine g_aload_n hC 0 dX0_fillTheirs_0 rfl rfl ?_
  refine g_getR hC cf0 (t := 25) rfl 1 (by decide) rfl m_186 dX0_fillTheirs_1 ?_
  refine g_iconst hC (v := (0 : Int32)) dX0_fillTheirs_4 (by decide) ?_
  refine g_iconst hC (v := (0 : Int32)) dX0_fillTheirs_5 (by decide) ?_
  refine g_iast hC rfl rfl dX0_fillTheirs_6 (fun M1 => ?_)
  show GG x f 5 (Qm x f φM) 7 [(0, .ref (x.1 23)), (1, .int a1)] [] M1 _
  refine g_iconst hC (v := (0 : Int32)) dX0_fillTheirs_7 (by decide) ?_
  refine g_istore_n hC (lv' := [(0, .ref (x.1 23)), (1, .int a1), (2, .int (0 : Int32))]) [1, 2, 0] dX0_fillTheirs_8 rfl (by decide) rfl ?_
  refine g_fx2 (fun (p2 : Int32) (M3 : Mem) => [(0, .ref (x.1 23)), (1, .int a1), (2, .int p2)]) (fun (p2 : Int32) (M3 : Mem) => M3) (fun rec4 hrec4 p2 M3 => ?_) F _ _
  show GG x f 5 (Qm x f φM) 9 [(0, .ref (x.1 23)), (1, .int a1), (2, .int p2)] [] M3 _
  unfold sX0_fillTheirs_L9
  refine g_iload_n hC 2 dX0_fillTheirs_9 rfl rfl ?_
  refine g_iload_n hC 1 dX0_fillTheirs_10 rfl rfl ?_
  refine g_icmp_ge hC 72 dX0_fillTheirs_11 (by decide) ?_ ?_
  · exact g_vret hC hm rfl dX0_fillTheirs_72
  · refine g_iconst hC (v := (1 : Int32)) dX0_fillTheirs_14 (by decide) ?_
    refine g_iload_n hC 2 dX0_fillTheirs_15 rfl rfl ?_
    refine g_ishl hC dX0_fillTheirs_16 ?_
    refine g_top (fun v5 => ?_)
    show GG x f 5 (Qm x f φM) 17 [(0, .ref (x.1 23)), (1, .int a1), (2, .int p2)] [.int v5] M3 _
    refine g_istore_n hC (lv' := [(0, .ref (x.1 23)), (1, .int a1), (2, .int p2), (3, .int v5)]) [1, 2, 3, 0] dX0_fillTheirs_17 rfl (by decide) rfl ?_
    refine g_iload_n hC 3 dX0_fillTheirs_18 rfl rfl ?_
    refine g_istore hC (lv' := [(0, .ref (x.1 23)), (1, .int a1), (2, .int p2), (3, .int v5), (4, .int v5)]) [1, 2, 3, 4, 0] dX0_fillTheirs_19 (by decide) rfl ?_
    refine g_nm (fun (J7 : Mem → Option Mem) => ∀ (M6 : Mem), GG x f 5 (Qm x f φM) 66 [(0, .ref (x.1 23)), (1, .int a1), (2, .int p2)] [] M6 (J7 M6)) (fun M6 => ?_) (fun J7 hJ7 => ?_)
    · show GG x f 5 (Qm x f φM) 66 [(0, .ref (x.1 23)), (1, .int a1), (2, .int p2)] [] M6 _
      refine g_iinc hC (q := 2) (v := (1 : Int32)) (lv' := [(0, .ref (x.1 23)), (1, .int a1), (2, .int (p2 + (1 : Int32)))]) [1, 2, 0] dX0_fillTheirs_66 rfl (by decide) (by decide) rfl ?_
      refine g_goto hC 9 dX0_fillTheirs_69 (by decide) ?_
      exact hrec4 (p2 + (1 : Int32)) M6
    refine g_fx2 (fun (p8 : Int32) (M9 : Mem) => [(0, .ref (x.1 23)), (1, .int a1), (2, .int p2), (3, .int v5), (4, .int p8)]) (fun (p8 : Int32) (M9 : Mem) => M9) (fun rec10 hrec10 p8 M9 => ?_) F _ _
    show GG x f 5 (Qm x f φM) 21 [(0, .ref (x.1 23)), (1, .int a1), (2, .int p2), (3, .int v5), (4, .int p8)] [] M9 _
    unfold sX0_fillTheirs_L21
    refine g_iload hC 4 dX0_fillTheirs_21 rfl ?_
    refine g_iconst hC (v := (2 : Int32)) dX0_fillTheirs_23 (by decide) ?_
    refine g_iload_n hC 3 dX0_fillTheirs_24 rfl rfl ?_
    refine g_imul hC dX0_fillTheirs_25 ?_
    refine g_icmp_ge hC 66 dX0_fillTheirs_26 (by decide) ?_ ?_
    · refine g_lv (lv' := [(0, .ref (x.1 23)), (1, .int a1), (2, .int p2)]) [0, 1, 2] rfl ?_
      exact hJ7 M9
    · refine g_iload hC 4 dX0_fillTheirs_29 rfl ?_
      refine g_sipush hC (v := (1024 : Int32)) dX0_fillTheirs_31 (by decide) ?_
      refine g_icmp_ge hC 66 dX0_fillTheirs_34 (by decide) ?_ ?_
      · refine g_lv (lv' := [(0, .ref (x.1 23)), (1, .int a1), (2, .int p2)]) [0, 1, 2] rfl ?_
        exact hJ7 M9
      · refine g_aload_n hC 0 dX0_fillTheirs_37 rfl rfl ?_
        refine g_getR hC cf0 (t := 25) rfl 1 (by decide) rfl m_186 dX0_fillTheirs_38 ?_
        refine g_iload hC 4 dX0_fillTheirs_41 rfl ?_
        refine g_aload_n hC 0 dX0_fillTheirs_43 rfl rfl ?_
        refine g_getR hC cf0 (t := 25) rfl 1 (by decide) rfl m_186 dX0_fillTheirs_44 ?_
        refine g_iload hC 4 dX0_fillTheirs_47 rfl ?_
        refine g_iload_n hC 3 dX0_fillTheirs_49 rfl rfl ?_
        refine g_isub hC dX0_fillTheirs_50 ?_
        refine g_iald hC rfl rfl dX0_fillTheirs_51 ?_
        refine g_aload_n hC 0 dX0_fillTheirs_52 rfl rfl ?_
        refine g_getR hC cf0 (t := 24) rfl 0 (by decide) rfl m_185 dX0_fillTheirs_53 ?_
        refine g_iload_n hC 2 dX0_fillTheirs_56 rfl rfl ?_
        refine g_iald hC rfl rfl dX0_fillTheirs_57 ?_
        refine g_ior hC dX0_fillTheirs_58 ?_
        refine g_iast hC rfl rfl dX0_fillTheirs_59 (fun M11 => ?_)
        show GG x f 5 (Qm x f φM) 60 [(0, .ref (x.1 23)), (1, .int a1), (2, .int p2), (3, .int v5), (4, .int p8)] [] M11 _
        refine g_iinc hC (q := 4) (v := (1 : Int32)) (lv' := [(0, .ref (x.1 23)), (1, .int a1), (2, .int p2), (3, .int v5), (4, .int (p8 + (1 : Int32)))]) [1, 2, 3, 4, 0] dX0_fillTheirs_60 rfl (by decide) (by decide) rfl ?_
        refine g_goto hC 21 dX0_fillTheirs_63 (by decide) ?_
        exact hrec10 (p8 + (1 : Int32)) M11
def sX0_excess (F : Nat) (a1 : Int32) (M : Mem) : Option Int32 :=
(sJ6_bitCount_0f7a4 F a1 M).bind (fun r1 =>
ib (a1 &&& (M 23 3)) 1024 (
(sJ6_bitCount_0f7a4 F (M 25 (ix (a1 &&& (M 23 3)))) M).bind (fun r2 =>
some (r1 - r2))))
theorem mvX0_excess : MV yX0_excess cX0_excess 2 (some .int) 1 := ⟨⟨m_721, m_72, by decide, by decide, by decide⟩, m_720, m_16⟩
set_option maxHeartbeats 4000000 in
set_option maxRecDepth 100000 in
theorem ctX0_excess (x : Wx) (F : Nat) (a1 : Int32) (M : Mem) : Ct x yX0_excess cX0_excess 2 (some .int) { frames := 1, cells := 0, slots := 0, locals := 20 } (φI M) [.ref (x.1 23), .int a1] M (sX0_excess F a1 M) := by
  refine ct_of (by decide) (Nat.le_of_ble_eq_true rfl) (fun f hC hm => ?_)
  have hC : Cx x f "AnswersFirst$Accounts" cX0_excess 2 { frames := 1, cells := 0, slots := 0, locals := 20 } := hC
  show GG x f 2 (Qm x f (φI M)) 0 [(0, .ref (x.1 23)), (1, .int a1)] [] M _
  unfold sX0_excess
  refine g_iload_n hC 1 dX0_excess_0 rfl rfl ?_
  refine g_calls hC (st := []) (ctJ6_bitCount_0f7a4 x F a1 M) msJ6_bitCount_0f7a4 m_722 (by decide) rfl rfl (Nat.le_of_ble_eq_true rfl) dX0_excess_1 (fun r1 => ?_)
  show GG x f 2 (Qm x f (φI M)) 4 [(0, .ref (x.1 23)), (1, .int a1)] [.int r1] M _
  refine g_aload_n hC 0 dX0_excess_4 rfl rfl ?_
  refine g_getR hC cf0 (t := 25) rfl 1 (by decide) rfl m_186 dX0_excess_5 ?_
  refine g_iload_n hC 1 dX0_excess_8 rfl rfl ?_
  refine g_aload_n hC 0 dX0_excess_9 rfl rfl ?_
  refine g_getI hC cf0 rfl 3 (by decide) rfl m_188 dX0_excess_10 ?_
  refine g_iand hC dX0_excess_13 ?_
  refine g_iald hC rfl rfl dX0_excess_14 ?_
  refine g_calls hC (st := [.int r1]) (ctJ6_bitCount_0f7a4 x F (M 25 (ix (a1 &&& (M 23 3)))) M) msJ6_bitCount_0f7a4 m_722 (by decide) rfl rfl (Nat.le_of_ble_eq_true rfl) dX0_excess_15 (fun r2 => ?_)
  show GG x f 2 (Qm x f (φI M)) 18 [(0, .ref (x.1 23)), (1, .int a1)] [.int r2, .int r1] M _
  refine g_isub hC dX0_excess_18 ?_
  exact g_iret hC hm rfl dX0_excess_19
def sX0_lettersFor (F : Nat) (k1 : Nat) (a2 : Int32) (k3 : Nat) (a4 : Int32) (a5 : Int32) (M : Mem) : Option Int32 :=
(sX1_part F k1 a2 (2 : Int32) M).bind (fun r1 =>
nm (r1 + a4) (fun v2 =>
(sX1_part F k1 a2 (1 : Int32) M).bind (fun r3 =>
(sX1_with F k3 (0 : Int32) r3 M).bind (fun r4 =>
(sX1_part F k1 a2 (0 : Int32) M).bind (fun r5 =>
(sX1_with F k3 (1 : Int32) r5 M).bind (fun r6 =>
(sX1_byDay F k3 (v2 + a5) M).bind (fun r7 =>
(sX1_byDay F k3 (v2 - (1 : Int32)) M).bind (fun r8 =>
some (((r4 &&& r6) &&& r7) &&& (r8 ^^^ (-1 : Int32)))))))))))
theorem msX0_lettersFor : MS yX0_lettersFor cX0_lettersFor 6 (some .int) 5 := ⟨⟨m_710, m_72, by decide, by decide, by decide⟩, m_709⟩
set_option maxHeartbeats 4000000 in
set_option maxRecDepth 100000 in
theorem ctX0_lettersFor (x : Wx) (F : Nat) (k1 : Nat) (a2 : Int32) (k3 : Nat) (a4 : Int32) (a5 : Int32) (h1 : kd k1 = 1) (h3 : kd k3 = 1) (M : Mem) : Ct x yX0_lettersFor cX0_lettersFor 6 (some .int) { frames := 1, cells := 0, slots := 0, locals := 24 } (φI M) [.ref (x.1 k1), .int a2, .ref (x.1 k3), .int a4, .int a5] M (sX0_lettersFor F k1 a2 k3 a4 a5 M) := by
  refine ct_of (by decide) (Nat.le_of_ble_eq_true rfl) (fun f hC hm => ?_)
  have hC : Cx x f "AnswersFirst$Accounts" cX0_lettersFor 6 { frames := 1, cells := 0, slots := 0, locals := 24 } := hC
  show GG x f 6 (Qm x f (φI M)) 0 [(0, .ref (x.1 k1)), (1, .int a2), (2, .ref (x.1 k3)), (3, .int a4), (4, .int a5)] [] M _
  unfold sX0_lettersFor
  refine g_aload_n hC 0 dX0_lettersFor_0 rfl rfl ?_
  refine g_iload_n hC 1 dX0_lettersFor_1 rfl rfl ?_
  refine g_iconst hC (v := (2 : Int32)) dX0_lettersFor_2 (by decide) ?_
  refine g_callv hC (st := []) (c := 1) rfl (by decide) h1 (ctX1_part x F k1 a2 (2 : Int32) h1 M) mvX1_part m_711 (by decide) rfl rfl (Nat.le_of_ble_eq_true rfl) dX0_lettersFor_3 (fun r1 => ?_)
  show GG x f 6 (Qm x f (φI M)) 6 [(0, .ref (x.1 k1)), (1, .int a2), (2, .ref (x.1 k3)), (3, .int a4), (4, .int a5)] [.int r1] M _
  refine g_iload_n hC 3 dX0_lettersFor_6 rfl rfl ?_
  refine g_iadd hC dX0_lettersFor_7 ?_
  refine g_top (fun v2 => ?_)
  show GG x f 6 (Qm x f (φI M)) 8 [(0, .ref (x.1 k1)), (1, .int a2), (2, .ref (x.1 k3)), (3, .int a4), (4, .int a5)] [.int v2] M _
  refine g_istore hC (lv' := [(0, .ref (x.1 k1)), (1, .int a2), (2, .ref (x.1 k3)), (4, .int a5), (5, .int v2)]) [1, 2, 3, 5, 0] dX0_lettersFor_8 (by decide) rfl ?_
  refine g_aload_n hC 2 dX0_lettersFor_10 rfl rfl ?_
  refine g_iconst hC (v := (0 : Int32)) dX0_lettersFor_11 (by decide) ?_
  refine g_aload_n hC 0 dX0_lettersFor_12 rfl rfl ?_
  refine g_iload_n hC 1 dX0_lettersFor_13 rfl rfl ?_
  refine g_iconst hC (v := (1 : Int32)) dX0_lettersFor_14 (by decide) ?_
  refine g_callv hC (st := [.int (0 : Int32), .ref (x.1 k3)]) (c := 1) rfl (by decide) h1 (ctX1_part x F k1 a2 (1 : Int32) h1 M) mvX1_part m_711 (by decide) rfl rfl (Nat.le_of_ble_eq_true rfl) dX0_lettersFor_15 (fun r3 => ?_)
  show GG x f 6 (Qm x f (φI M)) 18 [(0, .ref (x.1 k1)), (1, .int a2), (2, .ref (x.1 k3)), (4, .int a5), (5, .int v2)] [.int r3, .int (0 : Int32), .ref (x.1 k3)] M _
  refine g_callv hC (st := []) (c := 1) rfl (by decide) h3 (ctX1_with x F k3 (0 : Int32) r3 h3 M) mvX1_with m_712 (by decide) rfl rfl (Nat.le_of_ble_eq_true rfl) dX0_lettersFor_18 (fun r4 => ?_)
  show GG x f 6 (Qm x f (φI M)) 21 [(0, .ref (x.1 k1)), (1, .int a2), (2, .ref (x.1 k3)), (4, .int a5), (5, .int v2)] [.int r4] M _
  refine g_aload_n hC 2 dX0_lettersFor_21 rfl rfl ?_
  refine g_iconst hC (v := (1 : Int32)) dX0_lettersFor_22 (by decide) ?_
  refine g_aload_n hC 0 dX0_lettersFor_23 rfl rfl ?_
  refine g_iload_n hC 1 dX0_lettersFor_24 rfl rfl ?_
  refine g_iconst hC (v := (0 : Int32)) dX0_lettersFor_25 (by decide) ?_
  refine g_callv hC (st := [.int (1 : Int32), .ref (x.1 k3), .int r4]) (c := 1) rfl (by decide) h1 (ctX1_part x F k1 a2 (0 : Int32) h1 M) mvX1_part m_711 (by decide) rfl rfl (Nat.le_of_ble_eq_true rfl) dX0_lettersFor_26 (fun r5 => ?_)
  show GG x f 6 (Qm x f (φI M)) 29 [(0, .ref (x.1 k1)), (1, .int a2), (2, .ref (x.1 k3)), (4, .int a5), (5, .int v2)] [.int r5, .int (1 : Int32), .ref (x.1 k3), .int r4] M _
  refine g_callv hC (st := [.int r4]) (c := 1) rfl (by decide) h3 (ctX1_with x F k3 (1 : Int32) r5 h3 M) mvX1_with m_712 (by decide) rfl rfl (Nat.le_of_ble_eq_true rfl) dX0_lettersFor_29 (fun r6 => ?_)
  show GG x f 6 (Qm x f (φI M)) 32 [(0, .ref (x.1 k1)), (1, .int a2), (2, .ref (x.1 k3)), (4, .int a5), (5, .int v2)] [.int r6, .int r4] M _
  refine g_iand hC dX0_lettersFor_32 ?_
  refine g_aload_n hC 2 dX0_lettersFor_33 rfl rfl ?_
  refine g_iload hC 4 dX0_lettersFor_34 rfl ?_
  refine g_iload hC 3 dX0_lettersFor_36 rfl ?_
  refine g_iadd hC dX0_lettersFor_38 ?_
  refine g_callv hC (st := [.int (r4 &&& r6)]) (c := 1) rfl (by decide) h3 (ctX1_byDay x F k3 (v2 + a5) h3 M) mvX1_byDay m_713 (by decide) rfl rfl (Nat.le_of_ble_eq_true rfl) dX0_lettersFor_39 (fun r7 => ?_)
  show GG x f 6 (Qm x f (φI M)) 42 [(0, .ref (x.1 k1)), (1, .int a2), (2, .ref (x.1 k3)), (4, .int a5), (5, .int v2)] [.int r7, .int (r4 &&& r6)] M _
  refine g_iand hC dX0_lettersFor_42 ?_
  refine g_aload_n hC 2 dX0_lettersFor_43 rfl rfl ?_
  refine g_iload hC 4 dX0_lettersFor_44 rfl ?_
  refine g_iconst hC (v := (1 : Int32)) dX0_lettersFor_46 (by decide) ?_
  refine g_isub hC dX0_lettersFor_47 ?_
  refine g_callv hC (st := [.int ((r4 &&& r6) &&& r7)]) (c := 1) rfl (by decide) h3 (ctX1_byDay x F k3 (v2 - (1 : Int32)) h3 M) mvX1_byDay m_713 (by decide) rfl rfl (Nat.le_of_ble_eq_true rfl) dX0_lettersFor_48 (fun r8 => ?_)
  show GG x f 6 (Qm x f (φI M)) 51 [(0, .ref (x.1 k1)), (1, .int a2), (2, .ref (x.1 k3)), (4, .int a5), (5, .int v2)] [.int r8, .int ((r4 &&& r6) &&& r7)] M _
  refine g_iconst hC (v := (-1 : Int32)) dX0_lettersFor_51 (by decide) ?_
  refine g_ixor hC dX0_lettersFor_52 ?_
  refine g_iand hC dX0_lettersFor_53 ?_
  exact g_iret hC hm rfl dX0_lettersFor_54
def sX0_workOut_L98 (F : Nat) (rec12 : Int32 → Mem → Option Mem) (p10 : Int32) (M11 : Mem) : Option Mem :=
if (M11 23 3) < p10 then
(some M11)
else
((sX0_excess F p10 M11).bind (fun r13 =>
(sX0_excess F (M11 23 2) M11).bind (fun r14 =>
nm (r13 - r14) (fun v15 =>
nm (fun (M16 : Mem) =>
rec12 (p10 + (1 : Int32)) M16) (fun J17 =>
nm (nm (st2 M11 23 2 p10) (fun M19 =>
J17 M19)) (fun J18 =>
if 0 < v15 then
(J18)
else
(if ¬ v15 = 0 then
(J17 M11)
else
((sJ6_bitCount_0f7a4 F p10 M11).bind (fun r20 =>
(sJ6_bitCount_0f7a4 F (M11 23 2) M11).bind (fun r21 =>
if r21 ≤ r20 then
(J17 M11)
else
(J18)))))))))))
def sX0_workOut_L36 (F : Nat) (k1 : Nat) (k2 : Nat) (a3 : Int32) (a4 : Int32) (v2 : Int32) (J7 : Mem → Option Mem) (rec24 : Int32 → Mem → Option Mem) (p22 : Int32) (M23 : Mem) : Option Mem :=
if v2 ≤ p22 then
(J7 M23)
else
((sX0_lettersFor F k1 p22 k2 a3 a4 M23).bind (fun r25 =>
ib p22 10 (
nm (st2 M23 24 (ix p22) r25) (fun M26 =>
ib p22 10 (
nm (st2 M26 23 4 ((M26 23 4) &&& ((M26 24 (ix p22)) ^^^ (-1 : Int32)))) (fun M27 =>
rec24 (p22 + (1 : Int32)) M27))))))
def sX0_workOut (F : Nat) (k1 : Nat) (k2 : Nat) (a3 : Int32) (a4 : Int32) (M : Mem) : Option Mem :=
(sX1_howMany F k1 M).bind (fun r1 =>
nm (imin r1 (10 : Int32)) (fun v2 =>
nm (st2 M 23 3 (((1 : Int32) <<< (v2 &&& 31)) - (1 : Int32))) (fun M3 =>
(sX1_howMany F k2 M3).bind (fun r4 =>
nm (st2 M3 23 4 (((1 : Int32) <<< (r4 &&& 31)) - (1 : Int32))) (fun M5 =>
nm (fun (M6 : Mem) =>
(sX0_fillTheirs F v2 M6).bind (fun r8 =>
nm (st2 r8 23 2 (0 : Int32)) (fun M9 =>
fx2 F (sX0_workOut_L98 F) (1 : Int32) M9))) (fun J7 =>
fx2 F (sX0_workOut_L36 F k1 k2 a3 a4 v2 J7) (0 : Int32) M5))))))
theorem mvX0_workOut : MV yX0_workOut cX0_workOut 8 none 4 := ⟨⟨m_705, m_72, by decide, by decide, by decide⟩, m_703, m_704⟩
set_option maxHeartbeats 4000000 in
set_option maxRecDepth 100000 in
theorem ctX0_workOut (x : Wx) (F : Nat) (k1 : Nat) (k2 : Nat) (a3 : Int32) (a4 : Int32) (h1 : kd k1 = 1) (h2 : kd k2 = 1) (M : Mem) : Ct x yX0_workOut cX0_workOut 8 none { frames := 2, cells := 0, slots := 0, locals := 49 } φM [.ref (x.1 23), .ref (x.1 k1), .ref (x.1 k2), .int a3, .int a4] M (sX0_workOut F k1 k2 a3 a4 M) := by
  refine ct_of (by decide) (Nat.le_of_ble_eq_true rfl) (fun f hC hm => ?_)
  have hC : Cx x f "AnswersFirst$Accounts" cX0_workOut 8 { frames := 2, cells := 0, slots := 0, locals := 49 } := hC
  show GG x f 8 (Qm x f φM) 0 [(0, .ref (x.1 23)), (1, .ref (x.1 k1)), (2, .ref (x.1 k2)), (3, .int a3), (4, .int a4)] [] M _
  unfold sX0_workOut
  refine g_aload_n hC 1 dX0_workOut_0 rfl rfl ?_
  refine g_callv hC (st := []) (c := 1) rfl (by decide) h1 (ctX1_howMany x F k1 h1 M) mvX1_howMany m_706 (by decide) rfl rfl (Nat.le_of_ble_eq_true rfl) dX0_workOut_1 (fun r1 => ?_)
  show GG x f 8 (Qm x f φM) 4 [(0, .ref (x.1 23)), (1, .ref (x.1 k1)), (2, .ref (x.1 k2)), (3, .int a3), (4, .int a4)] [.int r1] M _
  refine g_bipush hC (v := (10 : Int32)) dX0_workOut_4 (by decide) ?_
  refine g_mmin hC m_707 m_342 m_69 (mM_min) (by decide) (Nat.le_of_ble_eq_true rfl) dX0_workOut_6 ?_
  refine g_top (fun v2 => ?_)
  show GG x f 8 (Qm x f φM) 9 [(0, .ref (x.1 23)), (1, .ref (x.1 k1)), (2, .ref (x.1 k2)), (3, .int a3), (4, .int a4)] [.int v2] M _
  refine g_istore hC (lv' := [(0, .ref (x.1 23)), (1, .ref (x.1 k1)), (2, .ref (x.1 k2)), (3, .int a3), (4, .int a4), (5, .int v2)]) [1, 2, 3, 4, 5, 0] dX0_workOut_9 (by decide) rfl ?_
  refine g_aload_n hC 0 dX0_workOut_11 rfl rfl ?_
  refine g_iconst hC (v := (1 : Int32)) dX0_workOut_12 (by decide) ?_
  refine g_iload hC 5 dX0_workOut_13 rfl ?_
  refine g_ishl hC dX0_workOut_15 ?_
  refine g_iconst hC (v := (1 : Int32)) dX0_workOut_16 (by decide) ?_
  refine g_isub hC dX0_workOut_17 ?_
  refine g_put hC cf0 rfl 3 (by decide) rfl m_188 rfl rfl rfl dX0_workOut_18 (fun M3 => ?_)
  show GG x f 8 (Qm x f φM) 21 [(0, .ref (x.1 23)), (1, .ref (x.1 k1)), (2, .ref (x.1 k2)), (3, .int a3), (4, .int a4), (5, .int v2)] [] M3 _
  refine g_aload_n hC 0 dX0_workOut_21 rfl rfl ?_
  refine g_iconst hC (v := (1 : Int32)) dX0_workOut_22 (by decide) ?_
  refine g_aload_n hC 2 dX0_workOut_23 rfl rfl ?_
  refine g_callv hC (st := [.int (1 : Int32), .ref (x.1 23)]) (c := 1) rfl (by decide) h2 (ctX1_howMany x F k2 h2 M3) mvX1_howMany m_706 (by decide) rfl rfl (Nat.le_of_ble_eq_true rfl) dX0_workOut_24 (fun r4 => ?_)
  show GG x f 8 (Qm x f φM) 27 [(0, .ref (x.1 23)), (1, .ref (x.1 k1)), (2, .ref (x.1 k2)), (3, .int a3), (4, .int a4), (5, .int v2)] [.int r4, .int (1 : Int32), .ref (x.1 23)] M3 _
  refine g_ishl hC dX0_workOut_27 ?_
  refine g_iconst hC (v := (1 : Int32)) dX0_workOut_28 (by decide) ?_
  refine g_isub hC dX0_workOut_29 ?_
  refine g_put hC cf0 rfl 4 (by decide) rfl m_189 rfl rfl rfl dX0_workOut_30 (fun M5 => ?_)
  show GG x f 8 (Qm x f φM) 33 [(0, .ref (x.1 23)), (1, .ref (x.1 k1)), (2, .ref (x.1 k2)), (3, .int a3), (4, .int a4), (5, .int v2)] [] M5 _
  refine g_iconst hC (v := (0 : Int32)) dX0_workOut_33 (by decide) ?_
  refine g_istore hC (lv' := [(0, .ref (x.1 23)), (1, .ref (x.1 k1)), (2, .ref (x.1 k2)), (3, .int a3), (4, .int a4), (5, .int v2), (6, .int (0 : Int32))]) [1, 2, 3, 4, 5, 6, 0] dX0_workOut_34 (by decide) rfl ?_
  refine g_nm (fun (J7 : Mem → Option Mem) => ∀ (M6 : Mem), GG x f 8 (Qm x f φM) 84 [(0, .ref (x.1 23)), (5, .int v2)] [] M6 (J7 M6)) (fun M6 => ?_) (fun J7 hJ7 => ?_)
  · show GG x f 8 (Qm x f φM) 84 [(0, .ref (x.1 23)), (5, .int v2)] [] M6 _
    refine g_aload_n hC 0 dX0_workOut_84 rfl rfl ?_
    refine g_iload hC 1 dX0_workOut_85 rfl ?_
    refine g_callv hC (st := []) (c := 0) rfl (by decide) rfl (ctX0_fillTheirs x F v2 M6) mvX0_fillTheirs m_714 (by decide) rfl rfl (Nat.le_of_ble_eq_true rfl) dX0_workOut_87 (fun r8 => ?_)
    show GG x f 8 (Qm x f φM) 90 [(0, .ref (x.1 23)), (5, .int v2)] [] r8 _
    refine g_aload_n hC 0 dX0_workOut_90 rfl rfl ?_
    refine g_iconst hC (v := (0 : Int32)) dX0_workOut_91 (by decide) ?_
    refine g_put hC cf0 rfl 2 (by decide) rfl m_187 rfl rfl rfl dX0_workOut_92 (fun M9 => ?_)
    show GG x f 8 (Qm x f φM) 95 [(0, .ref (x.1 23)), (5, .int v2)] [] M9 _
    refine g_iconst hC (v := (1 : Int32)) dX0_workOut_95 (by decide) ?_
    refine g_istore hC (lv' := [(0, .ref (x.1 23)), (6, .int (1 : Int32))]) [1, 0] dX0_workOut_96 (by decide) rfl ?_
    refine g_fx2 (fun (p10 : Int32) (M11 : Mem) => [(0, .ref (x.1 23)), (6, .int p10)]) (fun (p10 : Int32) (M11 : Mem) => M11) (fun rec12 hrec12 p10 M11 => ?_) F _ _
    show GG x f 8 (Qm x f φM) 98 [(0, .ref (x.1 23)), (6, .int p10)] [] M11 _
    unfold sX0_workOut_L98
    refine g_iload hC 1 dX0_workOut_98 rfl ?_
    refine g_aload_n hC 0 dX0_workOut_100 rfl rfl ?_
    refine g_getI hC cf0 rfl 3 (by decide) rfl m_188 dX0_workOut_101 ?_
    refine g_icmp_gt hC 161 dX0_workOut_104 (by decide) ?_ ?_
    · exact g_vret hC hm rfl dX0_workOut_161
    · refine g_aload_n hC 0 dX0_workOut_107 rfl rfl ?_
      refine g_iload hC 1 dX0_workOut_108 rfl ?_
      refine g_callv hC (st := []) (c := 0) rfl (by decide) rfl (ctX0_excess x F p10 M11) mvX0_excess m_718 (by decide) rfl rfl (Nat.le_of_ble_eq_true rfl) dX0_workOut_110 (fun r13 => ?_)
      show GG x f 8 (Qm x f φM) 113 [(0, .ref (x.1 23)), (6, .int p10)] [.int r13] M11 _
      refine g_aload_n hC 0 dX0_workOut_113 rfl rfl ?_
      refine g_aload_n hC 0 dX0_workOut_114 rfl rfl ?_
      refine g_getI hC cf0 rfl 2 (by decide) rfl m_187 dX0_workOut_115 ?_
      refine g_callv hC (st := [.int r13]) (c := 0) rfl (by decide) rfl (ctX0_excess x F (M11 23 2) M11) mvX0_excess m_718 (by decide) rfl rfl (Nat.le_of_ble_eq_true rfl) dX0_workOut_118 (fun r14 => ?_)
      show GG x f 8 (Qm x f φM) 121 [(0, .ref (x.1 23)), (6, .int p10)] [.int r14, .int r13] M11 _
      refine g_isub hC dX0_workOut_121 ?_
      refine g_top (fun v15 => ?_)
      show GG x f 8 (Qm x f φM) 122 [(0, .ref (x.1 23)), (6, .int p10)] [.int v15] M11 _
      refine g_istore hC (lv' := [(0, .ref (x.1 23)), (6, .int p10), (7, .int v15)]) [1, 2, 0] dX0_workOut_122 (by decide) rfl ?_
      refine g_iload hC 2 dX0_workOut_124 rfl ?_
      refine g_nm (fun (J17 : Mem → Option Mem) => ∀ (M16 : Mem), GG x f 8 (Qm x f φM) 155 [(0, .ref (x.1 23)), (6, .int p10)] [] M16 (J17 M16)) (fun M16 => ?_) (fun J17 hJ17 => ?_)
      · show GG x f 8 (Qm x f φM) 155 [(0, .ref (x.1 23)), (6, .int p10)] [] M16 _
        refine g_iinc hC (q := 1) (v := (1 : Int32)) (lv' := [(0, .ref (x.1 23)), (6, .int (p10 + (1 : Int32)))]) [1, 0] dX0_workOut_155 rfl (by decide) (by decide) rfl ?_
        refine g_goto hC 98 dX0_workOut_158 (by decide) ?_
        exact hrec12 (p10 + (1 : Int32)) M16
      refine g_nm (fun (J18 : Option Mem) => GG x f 8 (Qm x f φM) 149 [(0, .ref (x.1 23)), (6, .int p10)] [] M11 J18) ?_ (fun J18 hJ18 => ?_)
      · show GG x f 8 (Qm x f φM) 149 [(0, .ref (x.1 23)), (6, .int p10)] [] M11 _
        refine g_aload_n hC 0 dX0_workOut_149 rfl rfl ?_
        refine g_iload hC 1 dX0_workOut_150 rfl ?_
        refine g_put hC cf0 rfl 2 (by decide) rfl m_187 rfl rfl rfl dX0_workOut_152 (fun M19 => ?_)
        show GG x f 8 (Qm x f φM) 155 [(0, .ref (x.1 23)), (6, .int p10)] [] M19 _
        exact hJ17 M19
      refine g_if_gt hC 149 dX0_workOut_126 (by decide) ?_ ?_
      · refine g_lv (lv' := [(0, .ref (x.1 23)), (6, .int p10)]) [0, 1] rfl ?_
        exact hJ18
      · refine g_iload hC 2 dX0_workOut_129 rfl ?_
        refine g_if_ne hC 155 dX0_workOut_131 (by decide) ?_ ?_
        · refine g_lv (lv' := [(0, .ref (x.1 23)), (6, .int p10)]) [0, 1] rfl ?_
          exact hJ17 M11
        · refine g_iload hC 1 dX0_workOut_134 rfl ?_
          refine g_calls hC (st := []) (ctJ6_bitCount_0f7a4 x F p10 M11) msJ6_bitCount_0f7a4 m_722 (by decide) rfl rfl (Nat.le_of_ble_eq_true rfl) dX0_workOut_136 (fun r20 => ?_)
          show GG x f 8 (Qm x f φM) 139 [(0, .ref (x.1 23)), (6, .int p10), (7, .int v15)] [.int r20] M11 _
          refine g_aload_n hC 0 dX0_workOut_139 rfl rfl ?_
          refine g_getI hC cf0 rfl 2 (by decide) rfl m_187 dX0_workOut_140 ?_
          refine g_calls hC (st := [.int r20]) (ctJ6_bitCount_0f7a4 x F (M11 23 2) M11) msJ6_bitCount_0f7a4 m_722 (by decide) rfl rfl (Nat.le_of_ble_eq_true rfl) dX0_workOut_143 (fun r21 => ?_)
          show GG x f 8 (Qm x f φM) 146 [(0, .ref (x.1 23)), (6, .int p10), (7, .int v15)] [.int r21, .int r20] M11 _
          refine g_icmp_ge hC 155 dX0_workOut_146 (by decide) ?_ ?_
          · refine g_lv (lv' := [(0, .ref (x.1 23)), (6, .int p10)]) [0, 1] rfl ?_
            exact hJ17 M11
          · refine g_lv (lv' := [(0, .ref (x.1 23)), (6, .int p10)]) [0, 1] rfl ?_
            exact hJ18
  refine g_fx2 (fun (p22 : Int32) (M23 : Mem) => [(0, .ref (x.1 23)), (1, .ref (x.1 k1)), (2, .ref (x.1 k2)), (3, .int a3), (4, .int a4), (5, .int v2), (6, .int p22)]) (fun (p22 : Int32) (M23 : Mem) => M23) (fun rec24 hrec24 p22 M23 => ?_) F _ _
  show GG x f 8 (Qm x f φM) 36 [(0, .ref (x.1 23)), (1, .ref (x.1 k1)), (2, .ref (x.1 k2)), (3, .int a3), (4, .int a4), (5, .int v2), (6, .int p22)] [] M23 _
  unfold sX0_workOut_L36
  refine g_iload hC 6 dX0_workOut_36 rfl ?_
  refine g_iload hC 5 dX0_workOut_38 rfl ?_
  refine g_icmp_ge hC 84 dX0_workOut_40 (by decide) ?_ ?_
  · refine g_lv (lv' := [(0, .ref (x.1 23)), (5, .int v2)]) [0, 5] rfl ?_
    exact hJ7 M23
  · refine g_aload_n hC 0 dX0_workOut_43 rfl rfl ?_
    refine g_getR hC cf0 (t := 24) rfl 0 (by decide) rfl m_185 dX0_workOut_44 ?_
    refine g_iload hC 6 dX0_workOut_47 rfl ?_
    refine g_aload_n hC 1 dX0_workOut_49 rfl rfl ?_
    refine g_iload hC 6 dX0_workOut_50 rfl ?_
    refine g_aload_n hC 2 dX0_workOut_52 rfl rfl ?_
    refine g_iload_n hC 3 dX0_workOut_53 rfl rfl ?_
    refine g_iload hC 4 dX0_workOut_54 rfl ?_
    refine g_calls hC (st := [.int p22, .ref (x.1 24)]) (ctX0_lettersFor x F k1 p22 k2 a3 a4 h1 h2 M23) msX0_lettersFor m_708 (by decide) rfl rfl (Nat.le_of_ble_eq_true rfl) dX0_workOut_56 (fun r25 => ?_)
    show GG x f 8 (Qm x f φM) 59 [(0, .ref (x.1 23)), (1, .ref (x.1 k1)), (2, .ref (x.1 k2)), (3, .int a3), (4, .int a4), (5, .int v2), (6, .int p22)] [.int r25, .int p22, .ref (x.1 24)] M23 _
    refine g_iast hC rfl rfl dX0_workOut_59 (fun M26 => ?_)
    show GG x f 8 (Qm x f φM) 60 [(0, .ref (x.1 23)), (1, .ref (x.1 k1)), (2, .ref (x.1 k2)), (3, .int a3), (4, .int a4), (5, .int v2), (6, .int p22)] [] M26 _
    refine g_aload_n hC 0 dX0_workOut_60 rfl rfl ?_
    refine g_dup hC dX0_workOut_61 rfl ?_
    refine g_getI hC cf0 rfl 4 (by decide) rfl m_189 dX0_workOut_62 ?_
    refine g_aload_n hC 0 dX0_workOut_65 rfl rfl ?_
    refine g_getR hC cf0 (t := 24) rfl 0 (by decide) rfl m_185 dX0_workOut_66 ?_
    refine g_iload hC 6 dX0_workOut_69 rfl ?_
    refine g_iald hC rfl rfl dX0_workOut_71 ?_
    refine g_iconst hC (v := (-1 : Int32)) dX0_workOut_72 (by decide) ?_
    refine g_ixor hC dX0_workOut_73 ?_
    refine g_iand hC dX0_workOut_74 ?_
    refine g_put hC cf0 rfl 4 (by decide) rfl m_189 rfl rfl rfl dX0_workOut_75 (fun M27 => ?_)
    show GG x f 8 (Qm x f φM) 78 [(0, .ref (x.1 23)), (1, .ref (x.1 k1)), (2, .ref (x.1 k2)), (3, .int a3), (4, .int a4), (5, .int v2), (6, .int p22)] [] M27 _
    refine g_iinc hC (q := 6) (v := (1 : Int32)) (lv' := [(0, .ref (x.1 23)), (1, .ref (x.1 k1)), (2, .ref (x.1 k2)), (3, .int a3), (4, .int a4), (5, .int v2), (6, .int (p22 + (1 : Int32)))]) [1, 2, 3, 4, 5, 6, 0] dX0_workOut_78 rfl (by decide) (by decide) rfl ?_
    refine g_goto hC 36 dX0_workOut_81 (by decide) ?_
    exact hrec24 (p22 + (1 : Int32)) M27
def sX0_owedAmong (F : Nat) (a1 : Int32) (M : Mem) : Option Int32 :=
(sX0_excess F ((M 23 2) &&& a1) M).bind (fun r1 =>
some r1)
theorem mvX0_owedAmong : MV yX0_owedAmong cX0_owedAmong 2 (some .int) 1 := ⟨⟨m_726, m_72, by decide, by decide, by decide⟩, m_724, m_725⟩
set_option maxHeartbeats 4000000 in
set_option maxRecDepth 100000 in
theorem ctX0_owedAmong (x : Wx) (F : Nat) (a1 : Int32) (M : Mem) : Ct x yX0_owedAmong cX0_owedAmong 2 (some .int) { frames := 2, cells := 0, slots := 0, locals := 41 } (φI M) [.ref (x.1 23), .int a1] M (sX0_owedAmong F a1 M) := by
  refine ct_of (by decide) (Nat.le_of_ble_eq_true rfl) (fun f hC hm => ?_)
  have hC : Cx x f "AnswersFirst$Accounts" cX0_owedAmong 2 { frames := 2, cells := 0, slots := 0, locals := 41 } := hC
  show GG x f 2 (Qm x f (φI M)) 0 [(0, .ref (x.1 23)), (1, .int a1)] [] M _
  unfold sX0_owedAmong
  refine g_aload_n hC 0 dX0_owedAmong_0 rfl rfl ?_
  refine g_aload_n hC 0 dX0_owedAmong_1 rfl rfl ?_
  refine g_getI hC cf0 rfl 2 (by decide) rfl m_187 dX0_owedAmong_2 ?_
  refine g_iload_n hC 1 dX0_owedAmong_5 rfl rfl ?_
  refine g_iand hC dX0_owedAmong_6 ?_
  refine g_callv hC (st := []) (c := 0) rfl (by decide) rfl (ctX0_excess x F ((M 23 2) &&& a1) M) mvX0_excess m_718 (by decide) rfl rfl (Nat.le_of_ble_eq_true rfl) dX0_owedAmong_7 (fun r1 => ?_)
  show GG x f 2 (Qm x f (φI M)) 10 [(0, .ref (x.1 23)), (1, .int a1)] [.int r1] M _
  exact g_iret hC hm rfl dX0_owedAmong_10
def sX0_lacking (F : Nat) (M : Mem) : Option Int32 :=
some (M 23 2)
theorem mvX0_lacking : MV yX0_lacking cX0_lacking 1 (some .int) 0 := ⟨⟨m_734, m_72, by decide, by decide, by decide⟩, m_732, m_733⟩
set_option maxHeartbeats 4000000 in
set_option maxRecDepth 100000 in
theorem ctX0_lacking (x : Wx) (F : Nat) (M : Mem) : Ct x yX0_lacking cX0_lacking 1 (some .int) { frames := 0, cells := 0, slots := 0, locals := 0 } (φI M) [.ref (x.1 23)] M (sX0_lacking F M) := by
  refine ct_of (by decide) (Nat.le_of_ble_eq_true rfl) (fun f hC hm => ?_)
  have hC : Cx x f "AnswersFirst$Accounts" cX0_lacking 1 { frames := 0, cells := 0, slots := 0, locals := 0 } := hC
  show GG x f 1 (Qm x f (φI M)) 0 [(0, .ref (x.1 23))] [] M _
  unfold sX0_lacking
  refine g_aload_n hC 0 dX0_lacking_0 rfl rfl ?_
  refine g_getI hC cf0 rfl 2 (by decide) rfl m_187 dX0_lacking_1 ?_
  exact g_iret hC hm rfl dX0_lacking_4
def sX0_withoutReply (F : Nat) (M : Mem) : Option Int32 :=
some (M 23 4)
theorem mvX0_withoutReply : MV yX0_withoutReply cX0_withoutReply 1 (some .int) 0 := ⟨⟨m_742, m_72, by decide, by decide, by decide⟩, m_740, m_741⟩
set_option maxHeartbeats 4000000 in
set_option maxRecDepth 100000 in
theorem ctX0_withoutReply (x : Wx) (F : Nat) (M : Mem) : Ct x yX0_withoutReply cX0_withoutReply 1 (some .int) { frames := 0, cells := 0, slots := 0, locals := 0 } (φI M) [.ref (x.1 23)] M (sX0_withoutReply F M) := by
  refine ct_of (by decide) (Nat.le_of_ble_eq_true rfl) (fun f hC hm => ?_)
  have hC : Cx x f "AnswersFirst$Accounts" cX0_withoutReply 1 { frames := 0, cells := 0, slots := 0, locals := 0 } := hC
  show GG x f 1 (Qm x f (φI M)) 0 [(0, .ref (x.1 23))] [] M _
  unfold sX0_withoutReply
  refine g_aload_n hC 0 dX0_withoutReply_0 rfl rfl ?_
  refine g_getI hC cf0 rfl 4 (by decide) rfl m_189 dX0_withoutReply_1 ?_
  exact g_iret hC hm rfl dX0_withoutReply_4
