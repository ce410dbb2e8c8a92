def sX1_figure (F : Nat) (a1 : Int32) (a2 : Int32) (M : Mem) : Option Int32 :=
nm (a1 - (48 : Int32)) (fun v1 =>
if v1 < 0 then
(some (-1 : Int32))
else
(if v1 ≤ a2 then
(some v1)
else
(some (-1 : Int32))))
theorem msX1_figure : MS yX1_figure cX1_figure 3 (some .int) 2 := ⟨⟨m_310, m_70, by decide, by decide, by decide⟩, m_309⟩
set_option maxHeartbeats 4000000 in
set_option maxRecDepth 100000 in
theorem ctX1_figure (x : Wx) (F : Nat) (a1 : Int32) (a2 : Int32) (M : Mem) : Ct x yX1_figure cX1_figure 3 (some .int) { frames := 0, cells := 0, slots := 0, locals := 0 } (φI M) [.int a1, .int a2] M (sX1_figure F a1 a2 M) := by
  refine ct_of (by decide) (Nat.le_of_ble_eq_true rfl) (fun f hC hm => ?_)
  have hC : Cx x f "AnswersFirst$Entries" cX1_figure 3 { frames := 0, cells := 0, slots := 0, locals := 0 } := hC
  show GG x f 3 (Qm x f (φI M)) 0 [(0, .int a1), (1, .int a2)] [] M _
  unfold sX1_figure
  refine g_iload_n hC 0 dX1_figure_0 rfl rfl ?_
  refine g_bipush hC (v := (48 : Int32)) dX1_figure_1 (by decide) ?_
  refine g_isub hC dX1_figure_3 ?_
  refine g_top (fun v1 => ?_)
  show GG x f 3 (Qm x f (φI M)) 4 [(0, .int a1), (1, .int a2)] [.int v1] M _
  refine g_istore_n hC (lv' := [(1, .int a2), (2, .int v1)]) [2, 0] dX1_figure_4 rfl (by decide) rfl ?_
  refine g_iload_n hC 1 dX1_figure_5 rfl rfl ?_
  refine g_if_lt hC 14 dX1_figure_6 (by decide) ?_ ?_
  · refine g_iconst hC (v := (-1 : Int32)) dX1_figure_14 (by decide) ?_
    refine g_goto hC 19 dX1_figure_15 (by decide) ?_
    exact g_iret hC hm rfl dX1_figure_19
  · refine g_iload_n hC 1 dX1_figure_9 rfl rfl ?_
    refine g_iload_n hC 0 dX1_figure_10 rfl rfl ?_
    refine g_icmp_le hC 18 dX1_figure_11 (by decide) ?_ ?_
    · refine g_iload_n hC 1 dX1_figure_18 rfl rfl ?_
      exact g_iret hC hm rfl dX1_figure_19
    · refine g_iconst hC (v := (-1 : Int32)) dX1_figure_14 (by decide) ?_
      refine g_goto hC 19 dX1_figure_15 (by decide) ?_
      exact g_iret hC hm rfl dX1_figure_19
def sX1_valueOf (F : Nat) (k : Nat) (a1 : Int32) (a2 : Int32) (M : Mem) : Option Int32 :=
if a1 = (0 : Int32) then
((sX1_figure F a2 (5 : Int32) M).bind (fun r1 =>
some r1))
else if a1 = (1 : Int32) then
(if ¬ (a2 - (48 : Int32)) = (M k 5) then
((sX1_figure F a2 (5 : Int32) M).bind (fun r2 =>
some r2))
else
(some (-1 : Int32)))
else if a1 = (2 : Int32) then
((sX1_figure F a2 (9 : Int32) M).bind (fun r3 =>
some r3))
else if a1 = (3 : Int32) then
((sJ0_indexOf_0f7a4 F 64 (i2c a2) M).bind (fun r4 =>
some r4))
else if a1 = (4 : Int32) then
((sJ0_indexOf_0f7a4 F 65 (i2c a2) M).bind (fun r5 =>
some r5))
else ((sX1_figure F a2 (9 : Int32) M).bind (fun r6 =>
some r6))
theorem mvX1_valueOf : MV yX1_valueOf cX1_valueOf 3 (some .int) 2 := ⟨⟨m_307, m_70, by decide, by decide, by decide⟩, m_306, m_1⟩
set_option maxHeartbeats 4000000 in
set_option maxRecDepth 100000 in
theorem ctX1_valueOf (x : Wx) (F : Nat) (k : Nat) (a1 : Int32) (a2 : Int32) (hk : kd k = 1) (M : Mem) : Ct x yX1_valueOf cX1_valueOf 3 (some .int) { frames := 4, cells := 0, slots := 0, locals := 91 } (φI M) [.ref (x.1 k), .int a1, .int a2] M (sX1_valueOf F k a1 a2 M) := by
  refine ct_of (by decide) (Nat.le_of_ble_eq_true rfl) (fun f hC hm => ?_)
  have hC : Cx x f "AnswersFirst$Entries" cX1_valueOf 3 { frames := 4, cells := 0, slots := 0, locals := 91 } := hC
  show GG x f 3 (Qm x f (φI M)) 0 [(0, .ref (x.1 k)), (1, .int a1), (2, .int a2)] [] M _
  unfold sX1_valueOf
  refine g_iload_n hC 1 dX1_valueOf_0 rfl rfl ?_
  refine g_tcase hC (i := (0 : Int32)) (35) 36 dX1_valueOf_1 (by decide) (by decide) (by decide) (by decide) ?_ (fun hn0 => ?_)
  · refine g_iload_n hC 2 dX1_valueOf_36 rfl rfl ?_
    refine g_iconst hC (v := (5 : Int32)) dX1_valueOf_37 (by decide) ?_
    refine g_calls hC (st := []) (ctX1_figure x F a2 (5 : Int32) M) msX1_figure m_308 (by decide) rfl rfl (Nat.le_of_ble_eq_true rfl) dX1_valueOf_38 (fun r1 => ?_)
    show GG x f 3 (Qm x f (φI M)) 41 [(0, .ref (x.1 k)), (1, .int a1), (2, .int a2)] [.int r1] M _
    exact g_iret hC hm rfl dX1_valueOf_41
  refine g_tcase hC (i := (1 : Int32)) (41) 42 dX1_valueOf_1 (by decide) (by decide) (by decide) (by decide) ?_ (fun hn1 => ?_)
  · refine g_iload_n hC 2 dX1_valueOf_42 rfl rfl ?_
    refine g_bipush hC (v := (48 : Int32)) dX1_valueOf_43 (by decide) ?_
    refine g_isub hC dX1_valueOf_45 ?_
    refine g_aload_n hC 0 dX1_valueOf_46 rfl rfl ?_
    refine g_getI hC cf1 hk 5 (by decide) rfl m_125 dX1_valueOf_47 ?_
    refine g_icmp_ne hC 57 dX1_valueOf_50 (by decide) ?_ ?_
    · refine g_iload_n hC 2 dX1_valueOf_57 rfl rfl ?_
      refine g_iconst hC (v := (5 : Int32)) dX1_valueOf_58 (by decide) ?_
      refine g_calls hC (st := []) (ctX1_figure x F a2 (5 : Int32) M) msX1_figure m_308 (by decide) rfl rfl (Nat.le_of_ble_eq_true rfl) dX1_valueOf_59 (fun r2 => ?_)
      show GG x f 3 (Qm x f (φI M)) 62 [(0, .ref (x.1 k)), (1, .int a1), (2, .int a2)] [.int r2] M _
      exact g_iret hC hm rfl dX1_valueOf_62
    · refine g_iconst hC (v := (-1 : Int32)) dX1_valueOf_53 (by decide) ?_
      refine g_goto hC 62 dX1_valueOf_54 (by decide) ?_
      exact g_iret hC hm rfl dX1_valueOf_62
  refine g_tcase hC (i := (2 : Int32)) (78) 79 dX1_valueOf_1 (by decide) (by decide) (by decide) (by decide) ?_ (fun hn2 => ?_)
  · refine g_iload_n hC 2 dX1_valueOf_79 rfl rfl ?_
    refine g_bipush hC (v := (9 : Int32)) dX1_valueOf_80 (by decide) ?_
    refine g_calls hC (st := []) (ctX1_figure x F a2 (9 : Int32) M) msX1_figure m_308 (by decide) rfl rfl (Nat.le_of_ble_eq_true rfl) dX1_valueOf_82 (fun r3 => ?_)
    show GG x f 3 (Qm x f (φI M)) 85 [(0, .ref (x.1 k)), (1, .int a1), (2, .int a2)] [.int r3] M _
    exact g_iret hC hm rfl dX1_valueOf_85
  refine g_tcase hC (i := (3 : Int32)) (62) 63 dX1_valueOf_1 (by decide) (by decide) (by decide) (by decide) ?_ (fun hn3 => ?_)
  · refine g_ldcS0 hC dX1_valueOf_63 ?_
    refine g_iload_n hC 2 dX1_valueOf_65 rfl rfl ?_
    refine g_i2c hC dX1_valueOf_66 ?_
    refine g_callt hC (st := []) (by decide) rfl (ctJ0_indexOf_0f7a4 x F 64 (i2c a2) (by decide) M) mvJ0_indexOf_0f7a4 m_312 (by decide) rfl rfl (Nat.le_of_ble_eq_true rfl) dX1_valueOf_67 (fun r4 => ?_)
    show GG x f 3 (Qm x f (φI M)) 70 [(0, .ref (x.1 k)), (1, .int a1), (2, .int a2)] [.int r4] M _
    exact g_iret hC hm rfl dX1_valueOf_70
  refine g_tcase hC (i := (4 : Int32)) (70) 71 dX1_valueOf_1 (by decide) (by decide) (by decide) (by decide) ?_ (fun hn4 => ?_)
  · refine g_ldcS1 hC dX1_valueOf_71 ?_
    refine g_iload_n hC 2 dX1_valueOf_73 rfl rfl ?_
    refine g_i2c hC dX1_valueOf_74 ?_
    refine g_callt hC (st := []) (by decide) rfl (ctJ0_indexOf_0f7a4 x F 65 (i2c a2) (by decide) M) mvJ0_indexOf_0f7a4 m_312 (by decide) rfl rfl (Nat.le_of_ble_eq_true rfl) dX1_valueOf_75 (fun r5 => ?_)
    show GG x f 3 (Qm x f (φI M)) 78 [(0, .ref (x.1 k)), (1, .int a1), (2, .int a2)] [.int r5] M _
    exact g_iret hC hm rfl dX1_valueOf_78
  refine g_tout hC 79 dX1_valueOf_1 (q_out5 hn0 hn1 hn2 hn3 hn4) (by decide) ?_
  refine g_iload_n hC 2 dX1_valueOf_79 rfl rfl ?_
  refine g_bipush hC (v := (9 : Int32)) dX1_valueOf_80 (by decide) ?_
  refine g_calls hC (st := []) (ctX1_figure x F a2 (9 : Int32) M) msX1_figure m_308 (by decide) rfl rfl (Nat.le_of_ble_eq_true rfl) dX1_valueOf_82 (fun r6 => ?_)
  show GG x f 3 (Qm x f (φI M)) 85 [(0, .ref (x.1 k)), (1, .int a1), (2, .int a2)] [.int r6] M _
  exact g_iret hC hm rfl dX1_valueOf_85
def sX1_keep (F : Nat) (k : Nat) (a1 : Int32) (a2 : Int32) (M : Mem) : Option Mem :=
nm (((M k 3) * (6 : Int32)) + a1) (fun v1 =>
if v1 < 0 then
(some M)
else
(if v1 < (60 : Int32) then
(nm (fun (q2 : Int32) =>
nm (fun (q4 : Int32) =>
ib v1 60 (
nm (st2 M (k + 3) (ix v1) q4) (fun M6 =>
nm (fun (q7 : Int32) =>
nm (st2 M6 k 5 q7) (fun M9 =>
some M9)) (fun J8 =>
if ¬ a1 = 0 then
(J8 (M6 k 5))
else
(J8 a2))))) (fun J5 =>
if q2 = 0 then
(J5 a2)
else
(ib v1 60 (
J5 (((10 : Int32) * (M (k + 3) (ix v1))) + a2))))) (fun J3 =>
nm (J3 (0 : Int32)) (fun J10 =>
if ¬ a1 = (2 : Int32) then
(J10)
else
(if (M k 4) ≤ 0 then
(J10)
else
(if (Int32.ofNat (roL (fm k))) < (M k 4) then
(J10)
else
(ib ((M k 4) - (1 : Int32)) (roL (fm k)) (
if ¬ (roI (fm k) (ix ((M k 4) - (1 : Int32)))) = (2 : Int32) then
(J10)
else
(J3 (1 : Int32)))))))))
else
(some M)))
theorem mvX1_keep : MV yX1_keep cX1_keep 5 none 2 := ⟨⟨m_400, m_70, by decide, by decide, by decide⟩, m_399, m_2⟩
set_option maxHeartbeats 4000000 in
set_option maxRecDepth 100000 in
theorem ctX1_keep (x : Wx) (F : Nat) (k : Nat) (a1 : Int32) (a2 : Int32) (hk : kd k = 1) (M : Mem) : Ct x yX1_keep cX1_keep 5 none { frames := 0, cells := 0, slots := 0, locals := 0 } φM [.ref (x.1 k), .int a1, .int a2] M (sX1_keep F k a1 a2 M) := by
  refine ct_of (by decide) (Nat.le_of_ble_eq_true rfl) (fun f hC hm => ?_)
  have hC : Cx x f "AnswersFirst$Entries" cX1_keep 5 { frames := 0, cells := 0, slots := 0, locals := 0 } := hC
  show GG x f 5 (Qm x f φM) 0 [(0, .ref (x.1 k)), (1, .int a1), (2, .int a2)] [] M _
  unfold sX1_keep
  refine g_aload_n hC 0 dX1_keep_0 rfl rfl ?_
  refine g_getI hC cf1 hk 3 (by decide) rfl m_123 dX1_keep_1 ?_
  refine g_bipush hC (v := (6 : Int32)) dX1_keep_4 (by decide) ?_
  refine g_imul hC dX1_keep_6 ?_
  refine g_iload_n hC 1 dX1_keep_7 rfl rfl ?_
  refine g_iadd hC dX1_keep_8 ?_
  refine g_top (fun v1 => ?_)
  show GG x f 5 (Qm x f φM) 9 [(0, .ref (x.1 k)), (1, .int a1), (2, .int a2)] [.int v1] M _
  refine g_istore_n hC (lv' := [(0, .ref (x.1 k)), (1, .int a1), (2, .int a2), (3, .int v1)]) [1, 2, 3, 0] dX1_keep_9 rfl (by decide) rfl ?_
  refine g_iload_n hC 3 dX1_keep_10 rfl rfl ?_
  refine g_if_lt hC 23 dX1_keep_11 (by decide) ?_ ?_
  · exact g_vret hC hm rfl dX1_keep_23
  · refine g_iload_n hC 3 dX1_keep_14 rfl rfl ?_
    refine g_aload_n hC 0 dX1_keep_15 rfl rfl ?_
    refine g_getR hC cf1 (t := (k + 3)) hk 1 (by decide) rfl m_121 dX1_keep_16 ?_
    refine g_alen hC (n := (60 : Int32)) 9 0 (kp_E hk) (by decide) (by rw [lp_E hk]; rfl) dX1_keep_19 ?_
    refine g_icmp_lt hC 24 dX1_keep_20 (by decide) ?_ ?_
    · refine g_iload_n hC 1 dX1_keep_24 rfl rfl ?_
      refine g_iconst hC (v := (2 : Int32)) dX1_keep_25 (by decide) ?_
      refine g_nm (fun (J3 : Int32 → Option Mem) => ∀ (q2 : Int32), GG x f 5 (Qm x f φM) 68 [(0, .ref (x.1 k)), (1, .int a1), (2, .int a2), (3, .int v1)] [.int q2] M (J3 q2)) (fun q2 => ?_) (fun J3 hJ3 => ?_)
      · show GG x f 5 (Qm x f φM) 68 [(0, .ref (x.1 k)), (1, .int a1), (2, .int a2), (3, .int v1)] [.int q2] M _
        refine g_istore hC (lv' := [(0, .ref (x.1 k)), (1, .int a1), (2, .int a2), (3, .int v1), (4, .int q2)]) [1, 2, 3, 4, 0] dX1_keep_68 (by decide) rfl ?_
        refine g_aload_n hC 0 dX1_keep_70 rfl rfl ?_
        refine g_getR hC cf1 (t := (k + 3)) hk 1 (by decide) rfl m_121 dX1_keep_71 ?_
        refine g_iload_n hC 3 dX1_keep_74 rfl rfl ?_
        refine g_iload hC 4 dX1_keep_75 rfl ?_
        refine g_nm (fun (J5 : Int32 → Option Mem) => ∀ (q4 : Int32), GG x f 5 (Qm x f φM) 95 [(0, .ref (x.1 k)), (1, .int a1), (2, .int a2)] [.int q4, .int v1, .ref (x.1 (k + 3))] M (J5 q4)) (fun q4 => ?_) (fun J5 hJ5 => ?_)
        · show GG x f 5 (Qm x f φM) 95 [(0, .ref (x.1 k)), (1, .int a1), (2, .int a2)] [.int q4, .int v1, .ref (x.1 (k + 3))] M _
          refine g_iast hC (kp_E hk) (lp_E hk) dX1_keep_95 (fun M6 => ?_)
          show GG x f 5 (Qm x f φM) 96 [(0, .ref (x.1 k)), (1, .int a1), (2, .int a2)] [] M6 _
          refine g_aload_n hC 0 dX1_keep_96 rfl rfl ?_
          refine g_iload_n hC 1 dX1_keep_97 rfl rfl ?_
          refine g_nm (fun (J8 : Int32 → Option Mem) => ∀ (q7 : Int32), GG x f 5 (Qm x f φM) 109 [] [.int q7, .ref (x.1 k)] M6 (J8 q7)) (fun q7 => ?_) (fun J8 hJ8 => ?_)
          · show GG x f 5 (Qm x f φM) 109 [] [.int q7, .ref (x.1 k)] M6 _
            refine g_put hC cf1 hk 5 (by decide) rfl m_125 rfl rfl rfl dX1_keep_109 (fun M9 => ?_)
            show GG x f 5 (Qm x f φM) 112 [] [] M9 _
            exact g_vret hC hm rfl dX1_keep_112
          refine g_if_ne hC 105 dX1_keep_98 (by decide) ?_ ?_
          · refine g_aload_n hC 0 dX1_keep_105 rfl rfl ?_
            refine g_getI hC cf1 hk 5 (by decide) rfl m_125 dX1_keep_106 ?_
            refine g_lv (lv' := []) [] rfl ?_
            exact hJ8 (M6 k 5)
          · refine g_iload_n hC 2 dX1_keep_101 rfl rfl ?_
            refine g_goto hC 109 dX1_keep_102 (by decide) ?_
            refine g_lv (lv' := []) [] rfl ?_
            exact hJ8 a2
        refine g_if_eq hC 94 dX1_keep_77 (by decide) ?_ ?_
        · refine g_iload_n hC 2 dX1_keep_94 rfl rfl ?_
          refine g_lv (lv' := [(0, .ref (x.1 k)), (1, .int a1), (2, .int a2)]) [0, 1, 2] rfl ?_
          exact hJ5 a2
        · refine g_bipush hC (v := (10 : Int32)) dX1_keep_80 (by decide) ?_
          refine g_aload_n hC 0 dX1_keep_82 rfl rfl ?_
          refine g_getR hC cf1 (t := (k + 3)) hk 1 (by decide) rfl m_121 dX1_keep_83 ?_
          refine g_iload_n hC 3 dX1_keep_86 rfl rfl ?_
          refine g_iald hC (kp_E hk) (lp_E hk) dX1_keep_87 ?_
          refine g_imul hC dX1_keep_88 ?_
          refine g_iload_n hC 2 dX1_keep_89 rfl rfl ?_
          refine g_iadd hC dX1_keep_90 ?_
          refine g_goto hC 95 dX1_keep_91 (by decide) ?_
          refine g_lv (lv' := [(0, .ref (x.1 k)), (1, .int a1), (2, .int a2)]) [0, 1, 2] rfl ?_
          exact hJ5 (((10 : Int32) * (M (k + 3) (ix v1))) + a2)
      refine g_nm (fun (J10 : Option Mem) => GG x f 5 (Qm x f φM) 67 [(0, .ref (x.1 k)), (1, .int a1), (2, .int a2), (3, .int v1)] [] M J10) ?_ (fun J10 hJ10 => ?_)
      · show GG x f 5 (Qm x f φM) 67 [(0, .ref (x.1 k)), (1, .int a1), (2, .int a2), (3, .int v1)] [] M _
        refine g_iconst hC (v := (0 : Int32)) dX1_keep_67 (by decide) ?_
        exact hJ3 (0 : Int32)
      refine g_icmp_ne hC 67 dX1_keep_26 (by decide) ?_ ?_
      · exact hJ10
      · refine g_aload_n hC 0 dX1_keep_29 rfl rfl ?_
        refine g_getI hC cf1 hk 4 (by decide) rfl m_124 dX1_keep_30 ?_
        refine g_if_le hC 67 dX1_keep_33 (by decide) ?_ ?_
        · exact hJ10
        · refine g_aload_n hC 0 dX1_keep_36 rfl rfl ?_
          refine g_getI hC cf1 hk 4 (by decide) rfl m_124 dX1_keep_37 ?_
          refine g_aload_n hC 0 dX1_keep_40 rfl rfl ?_
          refine g_getR hC cf1 (t := (fm k)) hk 0 (by decide) rfl m_120 dX1_keep_41 ?_
          refine g_rolen hC (n := (Int32.ofNat (roL (fm k)))) (kf_E k) rfl dX1_keep_44 ?_
          refine g_icmp_gt hC 67 dX1_keep_45 (by decide) ?_ ?_
          · exact hJ10
          · refine g_aload_n hC 0 dX1_keep_48 rfl rfl ?_
            refine g_getR hC cf1 (t := (fm k)) hk 0 (by decide) rfl m_120 dX1_keep_49 ?_
            refine g_aload_n hC 0 dX1_keep_52 rfl rfl ?_
            refine g_getI hC cf1 hk 4 (by decide) rfl m_124 dX1_keep_53 ?_
            refine g_iconst hC (v := (1 : Int32)) dX1_keep_56 (by decide) ?_
            refine g_isub hC dX1_keep_57 ?_
            refine g_roald hC (kf_E k) rfl dX1_keep_58 ?_
            refine g_iconst hC (v := (2 : Int32)) dX1_keep_59 (by decide) ?_
            refine g_icmp_ne hC 67 dX1_keep_60 (by decide) ?_ ?_
            · exact hJ10
            · refine g_iconst hC (v := (1 : Int32)) dX1_keep_63 (by decide) ?_
              refine g_goto hC 68 dX1_keep_64 (by decide) ?_
              exact hJ3 (1 : Int32)
    · exact g_vret hC hm rfl dX1_keep_23
def sX1_goesOnWith (F : Nat) (k : Nat) (a1 : Int32) (M : Mem) : Option (Bool × Mem) :=
if (M k 4) < (Int32.ofNat (roL (fm k))) then
(if (M k 4) < 0 then
(some (false, M))
else
(if (M k 3) < 0 then
(some (false, M))
else
(if (M k 3) < (10 : Int32) then
(ib (M k 4) (roL (fm k)) (
nm (roI (fm k) (ix (M k 4))) (fun v1 =>
(sX1_valueOf F k v1 a1 M).bind (fun r2 =>
if ¬ r2 = (-1 : Int32) then
((sX1_keep F k v1 r2 M).bind (fun r3 =>
nm (st2 r3 k 4 ((r3 k 4) + (1 : Int32))) (fun M4 =>
if ¬ v1 = (4 : Int32) then
(some (true, M4))
else
(if (2 : Int32) ≤ r2 then
(some (true, M4))
else
((sX1_keep F k (5 : Int32) (-1 : Int32) M4).bind (fun r5 =>
nm (st2 r5 k 4 (Int32.ofNat (roL (fm k)))) (fun M6 =>
some (true, M6))))))))
else
(some (false, M))))))
else
(some (false, M)))))
else
(nm (st2 M k 3 ((M k 3) + (1 : Int32))) (fun M7 =>
nm (st2 M7 k 4 (0 : Int32)) (fun M8 =>
if ¬ a1 = (59 : Int32) then
(some (false, M8))
else
(some (true, M8)))))
theorem mvX1_goesOnWith : MV yX1_goesOnWith cX1_goesOnWith 4 (some .boolean) 1 := ⟨⟨m_303, m_70, by decide, by decide, by decide⟩, m_302, m_0⟩
set_option maxHeartbeats 4000000 in
set_option maxRecDepth 100000 in
theorem ctX1_goesOnWith (x : Wx) (F : Nat) (k : Nat) (a1 : Int32) (hk : kd k = 1) (M : Mem) : Ct x yX1_goesOnWith cX1_goesOnWith 4 (some .boolean) { frames := 5, cells := 0, slots := 0, locals := 113 } φBM [.ref (x.1 k), .int a1] M (sX1_goesOnWith F k a1 M) := by
  refine ct_of (by decide) (Nat.le_of_ble_eq_true rfl) (fun f hC hm => ?_)
  have hC : Cx x f "AnswersFirst$Entries" cX1_goesOnWith 4 { frames := 5, cells := 0, slots := 0, locals := 113 } := hC
  show GG x f 4 (Qm x f φBM) 0 [(0, .ref (x.1 k)), (1, .int a1)] [] M _
  unfold sX1_goesOnWith
  refine g_aload_n hC 0 dX1_goesOnWith_0 rfl rfl ?_
  refine g_getI hC cf1 hk 4 (by decide) rfl m_124 dX1_goesOnWith_1 ?_
  refine g_aload_n hC 0 dX1_goesOnWith_4 rfl rfl ?_
  refine g_getR hC cf1 (t := (fm k)) hk 0 (by decide) rfl m_120 dX1_goesOnWith_5 ?_
  refine g_rolen hC (n := (Int32.ofNat (roL (fm k)))) (kf_E k) rfl dX1_goesOnWith_8 ?_
  refine g_icmp_lt hC 39 dX1_goesOnWith_9 (by decide) ?_ ?_
  · refine g_aload_n hC 0 dX1_goesOnWith_39 rfl rfl ?_
    refine g_getI hC cf1 hk 4 (by decide) rfl m_124 dX1_goesOnWith_40 ?_
    refine g_if_lt hC 62 dX1_goesOnWith_43 (by decide) ?_ ?_
    · refine g_iconst hC (v := (0 : Int32)) dX1_goesOnWith_62 (by decide) ?_
      exact g_zret hC hm rfl rfl dX1_goesOnWith_63
    · refine g_aload_n hC 0 dX1_goesOnWith_46 rfl rfl ?_
      refine g_getI hC cf1 hk 3 (by decide) rfl m_123 dX1_goesOnWith_47 ?_
      refine g_if_lt hC 62 dX1_goesOnWith_50 (by decide) ?_ ?_
      · refine g_iconst hC (v := (0 : Int32)) dX1_goesOnWith_62 (by decide) ?_
        exact g_zret hC hm rfl rfl dX1_goesOnWith_63
      · refine g_aload_n hC 0 dX1_goesOnWith_53 rfl rfl ?_
        refine g_getI hC cf1 hk 3 (by decide) rfl m_123 dX1_goesOnWith_54 ?_
        refine g_bipush hC (v := (10 : Int32)) dX1_goesOnWith_57 (by decide) ?_
        refine g_icmp_lt hC 64 dX1_goesOnWith_59 (by decide) ?_ ?_
        · refine g_aload_n hC 0 dX1_goesOnWith_64 rfl rfl ?_
          refine g_getR hC cf1 (t := (fm k)) hk 0 (by decide) rfl m_120 dX1_goesOnWith_65 ?_
          refine g_aload_n hC 0 dX1_goesOnWith_68 rfl rfl ?_
          refine g_getI hC cf1 hk 4 (by decide) rfl m_124 dX1_goesOnWith_69 ?_
          refine g_roald hC (kf_E k) rfl dX1_goesOnWith_72 ?_
          refine g_top (fun v1 => ?_)
          show GG x f 4 (Qm x f φBM) 73 [(0, .ref (x.1 k)), (1, .int a1)] [.int v1] M _
          refine g_istore_n hC (lv' := [(0, .ref (x.1 k)), (1, .int a1), (2, .int v1)]) [1, 2, 0] dX1_goesOnWith_73 rfl (by decide) rfl ?_
          refine g_aload_n hC 0 dX1_goesOnWith_74 rfl rfl ?_
          refine g_iload_n hC 2 dX1_goesOnWith_75 rfl rfl ?_
          refine g_iload_n hC 1 dX1_goesOnWith_76 rfl rfl ?_
          refine g_callv hC (st := []) (c := 1) rfl (by decide) hk (ctX1_valueOf x F k v1 a1 hk M) mvX1_valueOf m_304 (by decide) rfl rfl (Nat.le_of_ble_eq_true rfl) dX1_goesOnWith_77 (fun r2 => ?_)
          show GG x f 4 (Qm x f φBM) 80 [(0, .ref (x.1 k)), (1, .int a1), (2, .int v1)] [.int r2] M _
          refine g_istore_n hC (lv' := [(0, .ref (x.1 k)), (2, .int v1), (3, .int r2)]) [1, 3, 0] dX1_goesOnWith_80 rfl (by decide) rfl ?_
          refine g_iload_n hC 2 dX1_goesOnWith_81 rfl rfl ?_
          refine g_iconst hC (v := (-1 : Int32)) dX1_goesOnWith_82 (by decide) ?_
          refine g_icmp_ne hC 88 dX1_goesOnWith_83 (by decide) ?_ ?_
          · refine g_aload_n hC 0 dX1_goesOnWith_88 rfl rfl ?_
            refine g_iload_n hC 1 dX1_goesOnWith_89 rfl rfl ?_
            refine g_iload_n hC 2 dX1_goesOnWith_90 rfl rfl ?_
            refine g_callv hC (st := []) (c := 1) rfl (by decide) hk (ctX1_keep x F k v1 r2 hk M) mvX1_keep m_397 (by decide) rfl rfl (Nat.le_of_ble_eq_true rfl) dX1_goesOnWith_91 (fun r3 => ?_)
            show GG x f 4 (Qm x f φBM) 94 [(0, .ref (x.1 k)), (2, .int v1), (3, .int r2)] [] r3 _
            refine g_aload_n hC 0 dX1_goesOnWith_94 rfl rfl ?_
            refine g_dup hC dX1_goesOnWith_95 rfl ?_
            refine g_getI hC cf1 hk 4 (by decide) rfl m_124 dX1_goesOnWith_96 ?_
            refine g_iconst hC (v := (1 : Int32)) dX1_goesOnWith_99 (by decide) ?_
            refine g_iadd hC dX1_goesOnWith_100 ?_
            refine g_put hC cf1 hk 4 (by decide) rfl m_124 rfl rfl rfl dX1_goesOnWith_101 (fun M4 => ?_)
            show GG x f 4 (Qm x f φBM) 104 [(0, .ref (x.1 k)), (2, .int v1), (3, .int r2)] [] M4 _
            refine g_iload_n hC 1 dX1_goesOnWith_104 rfl rfl ?_
            refine g_iconst hC (v := (4 : Int32)) dX1_goesOnWith_105 (by decide) ?_
            refine g_icmp_ne hC 129 dX1_goesOnWith_106 (by decide) ?_ ?_
            · refine g_iconst hC (v := (1 : Int32)) dX1_goesOnWith_129 (by decide) ?_
              exact g_zret hC hm rfl rfl dX1_goesOnWith_130
            · refine g_iload_n hC 2 dX1_goesOnWith_109 rfl rfl ?_
              refine g_iconst hC (v := (2 : Int32)) dX1_goesOnWith_110 (by decide) ?_
              refine g_icmp_ge hC 129 dX1_goesOnWith_111 (by decide) ?_ ?_
              · refine g_iconst hC (v := (1 : Int32)) dX1_goesOnWith_129 (by decide) ?_
                exact g_zret hC hm rfl rfl dX1_goesOnWith_130
              · refine g_aload_n hC 0 dX1_goesOnWith_114 rfl rfl ?_
                refine g_iconst hC (v := (5 : Int32)) dX1_goesOnWith_115 (by decide) ?_
                refine g_iconst hC (v := (-1 : Int32)) dX1_goesOnWith_116 (by decide) ?_
                refine g_callv hC (st := []) (c := 1) rfl (by decide) hk (ctX1_keep x F k (5 : Int32) (-1 : Int32) hk M4) mvX1_keep m_397 (by decide) rfl rfl (Nat.le_of_ble_eq_true rfl) dX1_goesOnWith_117 (fun r5 => ?_)
                show GG x f 4 (Qm x f φBM) 120 [(0, .ref (x.1 k)), (2, .int v1), (3, .int r2)] [] r5 _
                refine g_aload_n hC 0 dX1_goesOnWith_120 rfl rfl ?_
                refine g_aload_n hC 0 dX1_goesOnWith_121 rfl rfl ?_
                refine g_getR hC cf1 (t := (fm k)) hk 0 (by decide) rfl m_120 dX1_goesOnWith_122 ?_
                refine g_rolen hC (n := (Int32.ofNat (roL (fm k)))) (kf_E k) rfl dX1_goesOnWith_125 ?_
                refine g_put hC cf1 hk 4 (by decide) rfl m_124 rfl rfl rfl dX1_goesOnWith_126 (fun M6 => ?_)
                show GG x f 4 (Qm x f φBM) 129 [(0, .ref (x.1 k)), (2, .int v1), (3, .int r2)] [] M6 _
                refine g_iconst hC (v := (1 : Int32)) dX1_goesOnWith_129 (by decide) ?_
                exact g_zret hC hm rfl rfl dX1_goesOnWith_130
          · refine g_iconst hC (v := (0 : Int32)) dX1_goesOnWith_86 (by decide) ?_
            exact g_zret hC hm rfl rfl dX1_goesOnWith_87
        · refine g_iconst hC (v := (0 : Int32)) dX1_goesOnWith_62 (by decide) ?_
          exact g_zret hC hm rfl rfl dX1_goesOnWith_63
  · refine g_aload_n hC 0 dX1_goesOnWith_12 rfl rfl ?_
    refine g_dup hC dX1_goesOnWith_13 rfl ?_
    refine g_getI hC cf1 hk 3 (by decide) rfl m_123 dX1_goesOnWith_14 ?_
    refine g_iconst hC (v := (1 : Int32)) dX1_goesOnWith_17 (by decide) ?_
    refine g_iadd hC dX1_goesOnWith_18 ?_
    refine g_put hC cf1 hk 3 (by decide) rfl m_123 rfl rfl rfl dX1_goesOnWith_19 (fun M7 => ?_)
    show GG x f 4 (Qm x f φBM) 22 [(0, .ref (x.1 k)), (1, .int a1)] [] M7 _
    refine g_aload_n hC 0 dX1_goesOnWith_22 rfl rfl ?_
    refine g_iconst hC (v := (0 : Int32)) dX1_goesOnWith_23 (by decide) ?_
    refine g_put hC cf1 hk 4 (by decide) rfl m_124 rfl rfl rfl dX1_goesOnWith_24 (fun M8 => ?_)
    show GG x f 4 (Qm x f φBM) 27 [(0, .ref (x.1 k)), (1, .int a1)] [] M8 _
    refine g_iload_n hC 1 dX1_goesOnWith_27 rfl rfl ?_
    refine g_bipush hC (v := (59 : Int32)) dX1_goesOnWith_28 (by decide) ?_
    refine g_icmp_ne hC 37 dX1_goesOnWith_30 (by decide) ?_ ?_
    · refine g_iconst hC (v := (0 : Int32)) dX1_goesOnWith_37 (by decide) ?_
      exact g_zret hC hm rfl rfl dX1_goesOnWith_38
    · refine g_iconst hC (v := (1 : Int32)) dX1_goesOnWith_33 (by decide) ?_
      refine g_goto hC 38 dX1_goesOnWith_34 (by decide) ?_
      exact g_zret hC hm rfl rfl dX1_goesOnWith_38
def sX1_take (F : Nat) (k : Nat) (a1 : Int32) (M : Mem) : Option Mem :=
nm (fun (M1 : Mem) =>
nm (st2 M1 k 2 ((M1 k 2) + (1 : Int32))) (fun M3 =>
nm (fun (q4 : Int32) =>
nm (fun (q6 : Int32) =>
nm (st2 M3 k 6 q6) (fun M8 =>
some M8)) (fun J7 =>
if q4 = 0 then
(J7 (0 : Int32))
else
(J7 ((M3 k 3) + (1 : Int32))))) (fun J5 =>
nm (J5 (0 : Int32)) (fun J9 =>
if ¬ (M3 k 7) = (-1 : Int32) then
(J9)
else
(if ¬ (M3 k 4) = (Int32.ofNat (roL (fm k))) then
(J9)
else
(J5 (1 : Int32))))))) (fun J2 =>
if ¬ (M k 7) = (-1 : Int32) then
(J2 M)
else
((sX1_goesOnWith F k a1 M).bind (fun r10 =>
if r10.1 = true then
(J2 r10.2)
else
(nm (st2 r10.2 k 7 (r10.2 k 2)) (fun M11 =>
J2 M11)))))
theorem mvX1_take : MV yX1_take cX1_take 3 none 1 := ⟨⟨m_299, m_70, by decide, by decide, by decide⟩, m_297, m_298⟩
set_option maxHeartbeats 4000000 in
set_option maxRecDepth 100000 in
theorem ctX1_take (x : Wx) (F : Nat) (k : Nat) (a1 : Int32) (hk : kd k = 1) (M : Mem) : Ct x yX1_take cX1_take 3 none { frames := 6, cells := 0, slots := 0, locals := 136 } φM [.ref (x.1 k), .int a1] M (sX1_take F k a1 M) := by
  refine ct_of (by decide) (Nat.le_of_ble_eq_true rfl) (fun f hC hm => ?_)
  have hC : Cx x f "AnswersFirst$Entries" cX1_take 3 { frames := 6, cells := 0, slots := 0, locals := 136 } := hC
  show GG x f 3 (Qm x f φM) 0 [(0, .ref (x.1 k)), (1, .int a1)] [] M _
  unfold sX1_take
  refine g_aload_n hC 0 dX1_take_0 rfl rfl ?_
  refine g_getI hC cf1 hk 7 (by decide) rfl m_127 dX1_take_1 ?_
  refine g_iconst hC (v := (-1 : Int32)) dX1_take_4 (by decide) ?_
  refine g_nm (fun (J2 : Mem → Option Mem) => ∀ (M1 : Mem), GG x f 3 (Qm x f φM) 24 [(0, .ref (x.1 k))] [] M1 (J2 M1)) (fun M1 => ?_) (fun J2 hJ2 => ?_)
  · show GG x f 3 (Qm x f φM) 24 [(0, .ref (x.1 k))] [] M1 _
    refine g_aload_n hC 0 dX1_take_24 rfl rfl ?_
    refine g_dup hC dX1_take_25 rfl ?_
    refine g_getI hC cf1 hk 2 (by decide) rfl m_122 dX1_take_26 ?_
    refine g_iconst hC (v := (1 : Int32)) dX1_take_29 (by decide) ?_
    refine g_iadd hC dX1_take_30 ?_
    refine g_put hC cf1 hk 2 (by decide) rfl m_122 rfl rfl rfl dX1_take_31 (fun M3 => ?_)
    show GG x f 3 (Qm x f φM) 34 [(0, .ref (x.1 k))] [] M3 _
    refine g_aload_n hC 0 dX1_take_34 rfl rfl ?_
    refine g_getI hC cf1 hk 7 (by decide) rfl m_127 dX1_take_35 ?_
    refine g_iconst hC (v := (-1 : Int32)) dX1_take_38 (by decide) ?_
    refine g_nm (fun (J5 : Int32 → Option Mem) => ∀ (q4 : Int32), GG x f 3 (Qm x f φM) 59 [(0, .ref (x.1 k))] [.int q4] M3 (J5 q4)) (fun q4 => ?_) (fun J5 hJ5 => ?_)
    · show GG x f 3 (Qm x f φM) 59 [(0, .ref (x.1 k))] [.int q4] M3 _
      refine g_istore_n hC (lv' := [(0, .ref (x.1 k)), (2, .int q4)]) [1, 0] dX1_take_59 rfl (by decide) rfl ?_
      refine g_aload_n hC 0 dX1_take_60 rfl rfl ?_
      refine g_iload_n hC 1 dX1_take_61 rfl rfl ?_
      refine g_nm (fun (J7 : Int32 → Option Mem) => ∀ (q6 : Int32), GG x f 3 (Qm x f φM) 75 [] [.int q6, .ref (x.1 k)] M3 (J7 q6)) (fun q6 => ?_) (fun J7 hJ7 => ?_)
      · show GG x f 3 (Qm x f φM) 75 [] [.int q6, .ref (x.1 k)] M3 _
        refine g_put hC cf1 hk 6 (by decide) rfl m_126 rfl rfl rfl dX1_take_75 (fun M8 => ?_)
        show GG x f 3 (Qm x f φM) 78 [] [] M8 _
        exact g_vret hC hm rfl dX1_take_78
      refine g_if_eq hC 74 dX1_take_62 (by decide) ?_ ?_
      · refine g_iconst hC (v := (0 : Int32)) dX1_take_74 (by decide) ?_
        refine g_lv (lv' := []) [] rfl ?_
        exact hJ7 (0 : Int32)
      · refine g_aload_n hC 0 dX1_take_65 rfl rfl ?_
        refine g_getI hC cf1 hk 3 (by decide) rfl m_123 dX1_take_66 ?_
        refine g_iconst hC (v := (1 : Int32)) dX1_take_69 (by decide) ?_
        refine g_iadd hC dX1_take_70 ?_
        refine g_goto hC 75 dX1_take_71 (by decide) ?_
        refine g_lv (lv' := []) [] rfl ?_
        exact hJ7 ((M3 k 3) + (1 : Int32))
    refine g_nm (fun (J9 : Option Mem) => GG x f 3 (Qm x f φM) 58 [(0, .ref (x.1 k))] [] M3 J9) ?_ (fun J9 hJ9 => ?_)
    · show GG x f 3 (Qm x f φM) 58 [(0, .ref (x.1 k))] [] M3 _
      refine g_iconst hC (v := (0 : Int32)) dX1_take_58 (by decide) ?_
      exact hJ5 (0 : Int32)
    refine g_icmp_ne hC 58 dX1_take_39 (by decide) ?_ ?_
    · exact hJ9
    · refine g_aload_n hC 0 dX1_take_42 rfl rfl ?_
      refine g_getI hC cf1 hk 4 (by decide) rfl m_124 dX1_take_43 ?_
      refine g_aload_n hC 0 dX1_take_46 rfl rfl ?_
      refine g_getR hC cf1 (t := (fm k)) hk 0 (by decide) rfl m_120 dX1_take_47 ?_
      refine g_rolen hC (n := (Int32.ofNat (roL (fm k)))) (kf_E k) rfl dX1_take_50 ?_
      refine g_icmp_ne hC 58 dX1_take_51 (by decide) ?_ ?_
      · exact hJ9
      · refine g_iconst hC (v := (1 : Int32)) dX1_take_54 (by decide) ?_
        refine g_goto hC 59 dX1_take_55 (by decide) ?_
        exact hJ5 (1 : Int32)
  refine g_icmp_ne hC 24 dX1_take_5 (by decide) ?_ ?_
  · refine g_lv (lv' := [(0, .ref (x.1 k))]) [0] rfl ?_
    exact hJ2 M
  · refine g_aload_n hC 0 dX1_take_8 rfl rfl ?_
    refine g_iload_n hC 1 dX1_take_9 rfl rfl ?_
    refine g_callv hC (st := []) (c := 1) rfl (by decide) hk (ctX1_goesOnWith x F k a1 hk M) mvX1_goesOnWith m_300 (by decide) rfl rfl (Nat.le_of_ble_eq_true rfl) dX1_take_10 (fun r10 => ?_)
    show GG x f 3 (Qm x f φM) 13 [(0, .ref (x.1 k)), (1, .int a1)] [.int (bi r10.1)] r10.2 _
    refine g_ifB_ne hC 24 dX1_take_13 (by decide) ?_ ?_
    · refine g_lv (lv' := [(0, .ref (x.1 k))]) [0] rfl ?_
      exact hJ2 r10.2
    · refine g_aload_n hC 0 dX1_take_16 rfl rfl ?_
      refine g_aload_n hC 0 dX1_take_17 rfl rfl ?_
      refine g_getI hC cf1 hk 2 (by decide) rfl m_122 dX1_take_18 ?_
      refine g_put hC cf1 hk 7 (by decide) rfl m_127 rfl rfl rfl dX1_take_21 (fun M11 => ?_)
      show GG x f 3 (Qm x f φM) 24 [(0, .ref (x.1 k)), (1, .int a1)] [] M11 _
      refine g_lv (lv' := [(0, .ref (x.1 k))]) [0] rfl ?_
      exact hJ2 M11
def sX1_begin (F : Nat) (k : Nat) (M : Mem) : Option Mem :=
nm (st2 M k 2 (0 : Int32)) (fun M1 =>
nm (st2 M1 k 3 (0 : Int32)) (fun M2 =>
nm (st2 M2 k 4 (0 : Int32)) (fun M3 =>
nm (st2 M3 k 6 (0 : Int32)) (fun M4 =>
nm (st2 M4 k 7 (-1 : Int32)) (fun M5 =>
some M5)))))
theorem mvX1_begin : MV yX1_begin cX1_begin 1 none 0 := ⟨⟨m_420, m_70, by decide, by decide, by decide⟩, m_418, m_419⟩
set_option maxHeartbeats 4000000 in
set_option maxRecDepth 100000 in
theorem ctX1_begin (x : Wx) (F : Nat) (k : Nat) (hk : kd k = 1) (M : Mem) : Ct x yX1_begin cX1_begin 1 none { frames := 0, cells := 0, slots := 0, locals := 0 } φM [.ref (x.1 k)] M (sX1_begin F k M) := by
  refine ct_of (by decide) (Nat.le_of_ble_eq_true rfl) (fun f hC hm => ?_)
  have hC : Cx x f "AnswersFirst$Entries" cX1_begin 1 { frames := 0, cells := 0, slots := 0, locals := 0 } := hC
  show GG x f 1 (Qm x f φM) 0 [(0, .ref (x.1 k))] [] M _
  unfold sX1_begin
  refine g_aload_n hC 0 dX1_begin_0 rfl rfl ?_
  refine g_iconst hC (v := (0 : Int32)) dX1_begin_1 (by decide) ?_
  refine g_put hC cf1 hk 2 (by decide) rfl m_122 rfl rfl rfl dX1_begin_2 (fun M1 => ?_)
  show GG x f 1 (Qm x f φM) 5 [(0, .ref (x.1 k))] [] M1 _
  refine g_aload_n hC 0 dX1_begin_5 rfl rfl ?_
  refine g_iconst hC (v := (0 : Int32)) dX1_begin_6 (by decide) ?_
  refine g_put hC cf1 hk 3 (by decide) rfl m_123 rfl rfl rfl dX1_begin_7 (fun M2 => ?_)
  show GG x f 1 (Qm x f φM) 10 [(0, .ref (x.1 k))] [] M2 _
  refine g_aload_n hC 0 dX1_begin_10 rfl rfl ?_
  refine g_iconst hC (v := (0 : Int32)) dX1_begin_11 (by decide) ?_
  refine g_put hC cf1 hk 4 (by decide) rfl m_124 rfl rfl rfl dX1_begin_12 (fun M3 => ?_)
  show GG x f 1 (Qm x f φM) 15 [(0, .ref (x.1 k))] [] M3 _
  refine g_aload_n hC 0 dX1_begin_15 rfl rfl ?_
  refine g_iconst hC (v := (0 : Int32)) dX1_begin_16 (by decide) ?_
  refine g_put hC cf1 hk 6 (by decide) rfl m_126 rfl rfl rfl dX1_begin_17 (fun M4 => ?_)
  show GG x f 1 (Qm x f φM) 20 [(0, .ref (x.1 k))] [] M4 _
  refine g_aload_n hC 0 dX1_begin_20 rfl rfl ?_
  refine g_iconst hC (v := (-1 : Int32)) dX1_begin_21 (by decide) ?_
  refine g_put hC cf1 hk 7 (by decide) rfl m_127 rfl rfl rfl dX1_begin_22 (fun M5 => ?_)
  show GG x f 1 (Qm x f φM) 25 [(0, .ref (x.1 k))] [] M5 _
  exact g_vret hC hm rfl dX1_begin_25
def sX1_readAgain_L6 (F : Nat) (k : Nat) (k1 : Nat) (rec4 : Int32 → Mem → Option Mem) (p2 : Int32) (M3 : Mem) : Option Mem :=
(sX6_length F k1 M3).bind (fun r5 =>
if r5 ≤ p2 then
(some M3)
else
((sX6_at F k1 p2 M3).bind (fun r6 =>
(sX1_take F k r6 M3).bind (fun r7 =>
rec4 (p2 + (1 : Int32)) r7))))
def sX1_readAgain (F : Nat) (k : Nat) (k1 : Nat) (M : Mem) : Option Mem :=
(sX1_begin F k M).bind (fun r1 =>
fx2 F (sX1_readAgain_L6 F k k1) (0 : Int32) r1)
theorem mvX1_readAgain : MV yX1_readAgain cX1_readAgain 3 none 1 := ⟨⟨m_432, m_70, by decide, by decide, by decide⟩, m_430, m_431⟩
set_option maxHeartbeats 4000000 in
set_option maxRecDepth 100000 in
theorem ctX1_readAgain (x : Wx) (F : Nat) (k : Nat) (k1 : Nat) (hk : kd k = 1) (h1 : kd k1 = 6) (M : Mem) : Ct x yX1_readAgain cX1_readAgain 3 none { frames := 7, cells := 0, slots := 0, locals := 158 } φM [.ref (x.1 k), .ref (x.1 k1)] M (sX1_readAgain F k k1 M) := by
  refine ct_of (by decide) (Nat.le_of_ble_eq_true rfl) (fun f hC hm => ?_)
  have hC : Cx x f "AnswersFirst$Entries" cX1_readAgain 3 { frames := 7, cells := 0, slots := 0, locals := 158 } := hC
  show GG x f 3 (Qm x f φM) 0 [(0, .ref (x.1 k)), (1, .ref (x.1 k1))] [] M _
  unfold sX1_readAgain
  refine g_aload_n hC 0 dX1_readAgain_0 rfl rfl ?_
  refine g_callv hC (st := []) (c := 1) rfl (by decide) hk (ctX1_begin x F k hk M) mvX1_begin m_433 (by decide) rfl rfl (Nat.le_of_ble_eq_true rfl) dX1_readAgain_1 (fun r1 => ?_)
  show GG x f 3 (Qm x f φM) 4 [(0, .ref (x.1 k)), (1, .ref (x.1 k1))] [] r1 _
  refine g_iconst hC (v := (0 : Int32)) dX1_readAgain_4 (by decide) ?_
  refine g_istore_n hC (lv' := [(0, .ref (x.1 k)), (1, .ref (x.1 k1)), (2, .int (0 : Int32))]) [1, 2, 0] dX1_readAgain_5 rfl (by decide) rfl ?_
  refine g_fx2 (fun (p2 : Int32) (M3 : Mem) => [(0, .ref (x.1 k)), (1, .ref (x.1 k1)), (2, .int p2)]) (fun (p2 : Int32) (M3 : Mem) => M3) (fun rec4 hrec4 p2 M3 => ?_) F _ _
  show GG x f 3 (Qm x f φM) 6 [(0, .ref (x.1 k)), (1, .ref (x.1 k1)), (2, .int p2)] [] M3 _
  unfold sX1_readAgain_L6
  refine g_iload_n hC 2 dX1_readAgain_6 rfl rfl ?_
  refine g_aload_n hC 1 dX1_readAgain_7 rfl rfl ?_
  refine g_callv hC (st := [.int p2]) (c := 6) rfl (by decide) h1 (ctX6_length x F k1 h1 M3) mvX6_length m_434 (by decide) rfl rfl (Nat.le_of_ble_eq_true rfl) dX1_readAgain_8 (fun r5 => ?_)
  show GG x f 3 (Qm x f φM) 11 [(0, .ref (x.1 k)), (1, .ref (x.1 k1)), (2, .int p2)] [.int r5, .int p2] M3 _
  refine g_icmp_ge hC 29 dX1_readAgain_11 (by decide) ?_ ?_
  · exact g_vret hC hm rfl dX1_readAgain_29
  · refine g_aload_n hC 0 dX1_readAgain_14 rfl rfl ?_
    refine g_aload_n hC 1 dX1_readAgain_15 rfl rfl ?_
    refine g_iload_n hC 2 dX1_readAgain_16 rfl rfl ?_
    refine g_callv hC (st := [.ref (x.1 k)]) (c := 6) rfl (by decide) h1 (ctX6_at x F k1 p2 h1 M3) mvX6_at m_435 (by decide) rfl rfl (Nat.le_of_ble_eq_true rfl) dX1_readAgain_17 (fun r6 => ?_)
    show GG x f 3 (Qm x f φM) 20 [(0, .ref (x.1 k)), (1, .ref (x.1 k1)), (2, .int p2)] [.int r6, .ref (x.1 k)] M3 _
    refine g_callv hC (st := []) (c := 1) rfl (by decide) hk (ctX1_take x F k r6 hk M3) mvX1_take m_439 (by decide) rfl rfl (Nat.le_of_ble_eq_true rfl) dX1_readAgain_20 (fun r7 => ?_)
    show GG x f 3 (Qm x f φM) 23 [(0, .ref (x.1 k)), (1, .ref (x.1 k1)), (2, .int p2)] [] r7 _
    refine g_iinc hC (q := 2) (v := (1 : Int32)) (lv' := [(0, .ref (x.1 k)), (1, .ref (x.1 k1)), (2, .int (p2 + (1 : Int32)))]) [1, 2, 0] dX1_readAgain_23 rfl (by decide) (by decide) rfl ?_
    refine g_goto hC 6 dX1_readAgain_26 (by decide) ?_
    exact hrec4 (p2 + (1 : Int32)) r7
def sX1_faultPlace (F : Nat) (k : Nat) (M : Mem) : Option Int32 :=
if (M k 7) = (-1 : Int32) then
(if (M k 2) = 0 then
(some (-1 : Int32))
else
(if ¬ (M k 4) = (Int32.ofNat (roL (fm k))) then
(some (M k 2))
else
(some (-1 : Int32))))
else
(some (M k 7))
theorem mvX1_faultPlace : MV yX1_faultPlace cX1_faultPlace 1 (some .int) 0 := ⟨⟨m_447, m_70, by decide, by decide, by decide⟩, m_445, m_446⟩
set_option maxHeartbeats 4000000 in
set_option maxRecDepth 100000 in
theorem ctX1_faultPlace (x : Wx) (F : Nat) (k : Nat) (hk : kd k = 1) (M : Mem) : Ct x yX1_faultPlace cX1_faultPlace 1 (some .int) { frames := 0, cells := 0, slots := 0, locals := 0 } (φI M) [.ref (x.1 k)] M (sX1_faultPlace F k M) := by
  refine ct_of (by decide) (Nat.le_of_ble_eq_true rfl) (fun f hC hm => ?_)
  have hC : Cx x f "AnswersFirst$Entries" cX1_faultPlace 1 { frames := 0, cells := 0, slots := 0, locals := 0 } := hC
  show GG x f 1 (Qm x f (φI M)) 0 [(0, .ref (x.1 k))] [] M _
  unfold sX1_faultPlace
  refine g_aload_n hC 0 dX1_faultPlace_0 rfl rfl ?_
  refine g_getI hC cf1 hk 7 (by decide) rfl m_127 dX1_faultPlace_1 ?_
  refine g_iconst hC (v := (-1 : Int32)) dX1_faultPlace_4 (by decide) ?_
  refine g_icmp_eq hC 13 dX1_faultPlace_5 (by decide) ?_ ?_
  · refine g_aload_n hC 0 dX1_faultPlace_13 rfl rfl ?_
    refine g_getI hC cf1 hk 2 (by decide) rfl m_122 dX1_faultPlace_14 ?_
    refine g_if_eq hC 32 dX1_faultPlace_17 (by decide) ?_ ?_
    · refine g_iconst hC (v := (-1 : Int32)) dX1_faultPlace_32 (by decide) ?_
      refine g_goto hC 40 dX1_faultPlace_33 (by decide) ?_
      exact g_iret hC hm rfl dX1_faultPlace_40
    · refine g_aload_n hC 0 dX1_faultPlace_20 rfl rfl ?_
      refine g_getI hC cf1 hk 4 (by decide) rfl m_124 dX1_faultPlace_21 ?_
      refine g_aload_n hC 0 dX1_faultPlace_24 rfl rfl ?_
      refine g_getR hC cf1 (t := (fm k)) hk 0 (by decide) rfl m_120 dX1_faultPlace_25 ?_
      refine g_rolen hC (n := (Int32.ofNat (roL (fm k)))) (kf_E k) rfl dX1_faultPlace_28 ?_
      refine g_icmp_ne hC 36 dX1_faultPlace_29 (by decide) ?_ ?_
      · refine g_aload_n hC 0 dX1_faultPlace_36 rfl rfl ?_
        refine g_getI hC cf1 hk 2 (by decide) rfl m_122 dX1_faultPlace_37 ?_
        exact g_iret hC hm rfl dX1_faultPlace_40
      · refine g_iconst hC (v := (-1 : Int32)) dX1_faultPlace_32 (by decide) ?_
        refine g_goto hC 40 dX1_faultPlace_33 (by decide) ?_
        exact g_iret hC hm rfl dX1_faultPlace_40
  · refine g_aload_n hC 0 dX1_faultPlace_8 rfl rfl ?_
    refine g_getI hC cf1 hk 7 (by decide) rfl m_127 dX1_faultPlace_9 ?_
    exact g_iret hC hm rfl dX1_faultPlace_12
def sX1_howMany (F : Nat) (k : Nat) (M : Mem) : Option Int32 :=
some (M k 6)
theorem mvX1_howMany : MV yX1_howMany cX1_howMany 1 (some .int) 0 := ⟨⟨m_459, m_70, by decide, by decide, by decide⟩, m_457, m_458⟩
set_option maxHeartbeats 4000000 in
set_option maxRecDepth 100000 in
theorem ctX1_howMany (x : Wx) (F : Nat) (k : Nat) (hk : kd k = 1) (M : Mem) : Ct x yX1_howMany cX1_howMany 1 (some .int) { frames := 0, cells := 0, slots := 0, locals := 0 } (φI M) [.ref (x.1 k)] M (sX1_howMany F k M) := by
  refine ct_of (by decide) (Nat.le_of_ble_eq_true rfl) (fun f hC hm => ?_)
  have hC : Cx x f "AnswersFirst$Entries" cX1_howMany 1 { frames := 0, cells := 0, slots := 0, locals := 0 } := hC
  show GG x f 1 (Qm x f (φI M)) 0 [(0, .ref (x.1 k))] [] M _
  unfold sX1_howMany
  refine g_aload_n hC 0 dX1_howMany_0 rfl rfl ?_
  refine g_getI hC cf1 hk 6 (by decide) rfl m_126 dX1_howMany_1 ?_
  exact g_iret hC hm rfl dX1_howMany_4
def sX1_part (F : Nat) (k : Nat) (a1 : Int32) (a2 : Int32) (M : Mem) : Option Int32 :=
nm (fun (q1 : Int32) =>
if q1 = 0 then
(some (-1 : Int32))
else
(ib ((a1 * (6 : Int32)) + a2) 60 (
some (M (k + 3) (ix ((a1 * (6 : Int32)) + a2)))))) (fun J2 =>
nm (J2 (0 : Int32)) (fun J3 =>
if a1 < 0 then
(J3)
else
(if (M k 6) ≤ a1 then
(J3)
else
(if (10 : Int32) ≤ a1 then
(J3)
else
(if a2 < 0 then
(J3)
else
(if (6 : Int32) ≤ a2 then
(J3)
else
(J2 (1 : Int32))))))))
theorem mvX1_part : MV yX1_part cX1_part 4 (some .int) 2 := ⟨⟨m_463, m_70, by decide, by decide, by decide⟩, m_461, m_462⟩
set_option maxHeartbeats 4000000 in
set_option maxRecDepth 100000 in
theorem ctX1_part (x : Wx) (F : Nat) (k : Nat) (a1 : Int32) (a2 : Int32) (hk : kd k = 1) (M : Mem) : Ct x yX1_part cX1_part 4 (some .int) { frames := 0, cells := 0, slots := 0, locals := 0 } (φI M) [.ref (x.1 k), .int a1, .int a2] M (sX1_part F k a1 a2 M) := by
  refine ct_of (by decide) (Nat.le_of_ble_eq_true rfl) (fun f hC hm => ?_)
  have hC : Cx x f "AnswersFirst$Entries" cX1_part 4 { frames := 0, cells := 0, slots := 0, locals := 0 } := hC
  show GG x f 4 (Qm x f (φI M)) 0 [(0, .ref (x.1 k)), (1, .int a1), (2, .int a2)] [] M _
  unfold sX1_part
  refine g_iload_n hC 1 dX1_part_0 rfl rfl ?_
  refine g_nm (fun (J2 : Int32 → Option Int32) => ∀ (q1 : Int32), GG x f 4 (Qm x f (φI M)) 33 [(0, .ref (x.1 k)), (1, .int a1), (2, .int a2)] [.int q1] M (J2 q1)) (fun q1 => ?_) (fun J2 hJ2 => ?_)
  · show GG x f 4 (Qm x f (φI M)) 33 [(0, .ref (x.1 k)), (1, .int a1), (2, .int a2)] [.int q1] M _
    refine g_istore_n hC (lv' := [(0, .ref (x.1 k)), (1, .int a1), (2, .int a2), (3, .int q1)]) [1, 2, 3, 0] dX1_part_33 rfl (by decide) rfl ?_
    refine g_iload_n hC 3 dX1_part_34 rfl rfl ?_
    refine g_if_eq hC 52 dX1_part_35 (by decide) ?_ ?_
    · refine g_iconst hC (v := (-1 : Int32)) dX1_part_52 (by decide) ?_
      exact g_iret hC hm rfl dX1_part_53
    · refine g_aload_n hC 0 dX1_part_38 rfl rfl ?_
      refine g_getR hC cf1 (t := (k + 3)) hk 1 (by decide) rfl m_121 dX1_part_39 ?_
      refine g_iload_n hC 1 dX1_part_42 rfl rfl ?_
      refine g_bipush hC (v := (6 : Int32)) dX1_part_43 (by decide) ?_
      refine g_imul hC dX1_part_45 ?_
      refine g_iload_n hC 2 dX1_part_46 rfl rfl ?_
      refine g_iadd hC dX1_part_47 ?_
      refine g_iald hC (kp_E hk) (lp_E hk) dX1_part_48 ?_
      refine g_goto hC 53 dX1_part_49 (by decide) ?_
      exact g_iret hC hm rfl dX1_part_53
  refine g_nm (fun (J3 : Option Int32) => GG x f 4 (Qm x f (φI M)) 32 [(0, .ref (x.1 k)), (1, .int a1), (2, .int a2)] [] M J3) ?_ (fun J3 hJ3 => ?_)
  · show GG x f 4 (Qm x f (φI M)) 32 [(0, .ref (x.1 k)), (1, .int a1), (2, .int a2)] [] M _
    refine g_iconst hC (v := (0 : Int32)) dX1_part_32 (by decide) ?_
    exact hJ2 (0 : Int32)
  refine g_if_lt hC 32 dX1_part_1 (by decide) ?_ ?_
  · exact hJ3
  · refine g_iload_n hC 1 dX1_part_4 rfl rfl ?_
    refine g_aload_n hC 0 dX1_part_5 rfl rfl ?_
    refine g_getI hC cf1 hk 6 (by decide) rfl m_126 dX1_part_6 ?_
    refine g_icmp_ge hC 32 dX1_part_9 (by decide) ?_ ?_
    · exact hJ3
    · refine g_iload_n hC 1 dX1_part_12 rfl rfl ?_
      refine g_bipush hC (v := (10 : Int32)) dX1_part_13 (by decide) ?_
      refine g_icmp_ge hC 32 dX1_part_15 (by decide) ?_ ?_
      · exact hJ3
      · refine g_iload_n hC 2 dX1_part_18 rfl rfl ?_
        refine g_if_lt hC 32 dX1_part_19 (by decide) ?_ ?_
        · exact hJ3
        · refine g_iload_n hC 2 dX1_part_22 rfl rfl ?_
          refine g_bipush hC (v := (6 : Int32)) dX1_part_23 (by decide) ?_
          refine g_icmp_ge hC 32 dX1_part_25 (by decide) ?_ ?_
          · exact hJ3
          · refine g_iconst hC (v := (1 : Int32)) dX1_part_28 (by decide) ?_
            refine g_goto hC 33 dX1_part_29 (by decide) ?_
            exact hJ2 (1 : Int32)
def sX1_with_L5 (F : Nat) (k : Nat) (a1 : Int32) (a2 : Int32) (M : Mem) (rec3 : Int32 → Int32 → Option Int32) (p1 : Int32) (p2 : Int32) : Option Int32 :=
if (M k 6) ≤ p2 then
(some p1)
else
(if (10 : Int32) ≤ p2 then
(some p1)
else
(nm (fun (p4 : Int32) =>
rec3 p4 (p2 + (1 : Int32))) (fun J5 =>
if a1 < 0 then
(J5 p1)
else
(if (6 : Int32) ≤ a1 then
(J5 p1)
else
(ib ((p2 * (6 : Int32)) + a1) 60 (
if ¬ (M (k + 3) (ix ((p2 * (6 : Int32)) + a1))) = a2 then
(J5 p1)
else
(nm (p1 ||| ((1 : Int32) <<< (p2 &&& 31))) (fun v6 =>
J5 v6))))))))
def sX1_with (F : Nat) (k : Nat) (a1 : Int32) (a2 : Int32) (M : Mem) : Option Int32 :=
fx2 F (sX1_with_L5 F k a1 a2 M) (0 : Int32) (0 : Int32)
theorem mvX1_with : MV yX1_with cX1_with 5 (some .int) 2 := ⟨⟨m_542, m_70, by decide, by decide, by decide⟩, m_540, m_541⟩
set_option maxHeartbeats 4000000 in
set_option maxRecDepth 100000 in
theorem ctX1_with (x : Wx) (F : Nat) (k : Nat) (a1 : Int32) (a2 : Int32) (hk : kd k = 1) (M : Mem) : Ct x yX1_with cX1_with 5 (some .int) { frames := 0, cells := 0, slots := 0, locals := 0 } (φI M) [.ref (x.1 k), .int a1, .int a2] M (sX1_with F k a1 a2 M) := by
  refine ct_of (by decide) (Nat.le_of_ble_eq_true rfl) (fun f hC hm => ?_)
  have hC : Cx x f "AnswersFirst$Entries" cX1_with 5 { frames := 0, cells := 0, slots := 0, locals := 0 } := hC
  show GG x f 5 (Qm x f (φI M)) 0 [(0, .ref (x.1 k)), (1, .int a1), (2, .int a2)] [] M _
  unfold sX1_with
  refine g_iconst hC (v := (0 : Int32)) dX1_with_0 (by decide) ?_
  refine g_istore_n hC (lv' := [(0, .ref (x.1 k)), (1, .int a1), (2, .int a2), (3, .int (0 : Int32))]) [1, 2, 3, 0] dX1_with_1 rfl (by decide) rfl ?_
  refine g_iconst hC (v := (0 : Int32)) dX1_with_2 (by decide) ?_
  refine g_istore hC (lv' := [(0, .ref (x.1 k)), (1, .int a1), (2, .int a2), (3, .int (0 : Int32)), (4, .int (0 : Int32))]) [1, 2, 3, 4, 0] dX1_with_3 (by decide) rfl ?_
  refine g_fx2 (fun (p1 : Int32) (p2 : Int32) => [(0, .ref (x.1 k)), (1, .int a1), (2, .int a2), (3, .int p1), (4, .int p2)]) (fun (p1 : Int32) (p2 : Int32) => M) (fun rec3 hrec3 p1 p2 => ?_) F _ _
  show GG x f 5 (Qm x f (φI M)) 5 [(0, .ref (x.1 k)), (1, .int a1), (2, .int a2), (3, .int p1), (4, .int p2)] [] M _
  unfold sX1_with_L5
  refine g_iload hC 4 dX1_with_5 rfl ?_
  refine g_aload_n hC 0 dX1_with_7 rfl rfl ?_
  refine g_getI hC cf1 hk 6 (by decide) rfl m_126 dX1_with_8 ?_
  refine g_icmp_ge hC 60 dX1_with_11 (by decide) ?_ ?_
  · refine g_iload_n hC 3 dX1_with_60 rfl rfl ?_
    exact g_iret hC hm rfl dX1_with_61
  · refine g_iload hC 4 dX1_with_14 rfl ?_
    refine g_bipush hC (v := (10 : Int32)) dX1_with_16 (by decide) ?_
    refine g_icmp_ge hC 60 dX1_with_18 (by decide) ?_ ?_
    · refine g_iload_n hC 3 dX1_with_60 rfl rfl ?_
      exact g_iret hC hm rfl dX1_with_61
    · refine g_iload_n hC 1 dX1_with_21 rfl rfl ?_
      refine g_nm (fun (J5 : Int32 → Option Int32) => ∀ (p4 : Int32), GG x f 5 (Qm x f (φI M)) 54 [(0, .ref (x.1 k)), (1, .int a1), (2, .int a2), (3, .int p4), (4, .int p2)] [] M (J5 p4)) (fun p4 => ?_) (fun J5 hJ5 => ?_)
      · show GG x f 5 (Qm x f (φI M)) 54 [(0, .ref (x.1 k)), (1, .int a1), (2, .int a2), (3, .int p4), (4, .int p2)] [] M _
        refine g_iinc hC (q := 4) (v := (1 : Int32)) (lv' := [(0, .ref (x.1 k)), (1, .int a1), (2, .int a2), (3, .int p4), (4, .int (p2 + (1 : Int32)))]) [1, 2, 3, 4, 0] dX1_with_54 rfl (by decide) (by decide) rfl ?_
        refine g_goto hC 5 dX1_with_57 (by decide) ?_
        exact hrec3 p4 (p2 + (1 : Int32))
      refine g_if_lt hC 54 dX1_with_22 (by decide) ?_ ?_
      · exact hJ5 p1
      · refine g_iload_n hC 1 dX1_with_25 rfl rfl ?_
        refine g_bipush hC (v := (6 : Int32)) dX1_with_26 (by decide) ?_
        refine g_icmp_ge hC 54 dX1_with_28 (by decide) ?_ ?_
        · exact hJ5 p1
        · refine g_aload_n hC 0 dX1_with_31 rfl rfl ?_
          refine g_getR hC cf1 (t := (k + 3)) hk 1 (by decide) rfl m_121 dX1_with_32 ?_
          refine g_iload hC 4 dX1_with_35 rfl ?_
          refine g_bipush hC (v := (6 : Int32)) dX1_with_37 (by decide) ?_
          refine g_imul hC dX1_with_39 ?_
          refine g_iload_n hC 1 dX1_with_40 rfl rfl ?_
          refine g_iadd hC dX1_with_41 ?_
          refine g_iald hC (kp_E hk) (lp_E hk) dX1_with_42 ?_
          refine g_iload_n hC 2 dX1_with_43 rfl rfl ?_
          refine g_icmp_ne hC 54 dX1_with_44 (by decide) ?_ ?_
          · exact hJ5 p1
          · refine g_iload_n hC 3 dX1_with_47 rfl rfl ?_
            refine g_iconst hC (v := (1 : Int32)) dX1_with_48 (by decide) ?_
            refine g_iload hC 4 dX1_with_49 rfl ?_
            refine g_ishl hC dX1_with_51 ?_
            refine g_ior hC dX1_with_52 ?_
            refine g_top (fun v6 => ?_)
            show GG x f 5 (Qm x f (φI M)) 53 [(0, .ref (x.1 k)), (1, .int a1), (2, .int a2), (3, .int p1), (4, .int p2)] [.int v6] M _
            refine g_istore_n hC (lv' := [(0, .ref (x.1 k)), (1, .int a1), (2, .int a2), (3, .int v6), (4, .int p2)]) [1, 2, 3, 0, 4] dX1_with_53 rfl (by decide) rfl ?_
            exact hJ5 v6
def sX1_byDay_L4 (F : Nat) (k : Nat) (a1 : Int32) (M : Mem) (rec3 : Int32 → Int32 → Option Int32) (p1 : Int32) (p2 : Int32) : Option Int32 :=
if (M k 6) ≤ p2 then
(some p1)
else
(if (10 : Int32) ≤ p2 then
(some p1)
else
(ib ((p2 * (6 : Int32)) + (2 : Int32)) 60 (
nm (fun (p4 : Int32) =>
rec3 p4 (p2 + (1 : Int32))) (fun J5 =>
if a1 < (M (k + 3) (ix ((p2 * (6 : Int32)) + (2 : Int32)))) then
(J5 p1)
else
(nm (p1 ||| ((1 : Int32) <<< (p2 &&& 31))) (fun v6 =>
J5 v6))))))
def sX1_byDay (F : Nat) (k : Nat) (a1 : Int32) (M : Mem) : Option Int32 :=
fx2 F (sX1_byDay_L4 F k a1 M) (0 : Int32) (0 : Int32)
theorem mvX1_byDay : MV yX1_byDay cX1_byDay 4 (some .int) 1 := ⟨⟨m_661, m_70, by decide, by decide, by decide⟩, m_659, m_660⟩
set_option maxHeartbeats 4000000 in
set_option maxRecDepth 100000 in
theorem ctX1_byDay (x : Wx) (F : Nat) (k : Nat) (a1 : Int32) (hk : kd k = 1) (M : Mem) : Ct x yX1_byDay cX1_byDay 4 (some .int) { frames := 0, cells := 0, slots := 0, locals := 0 } (φI M) [.ref (x.1 k), .int a1] M (sX1_byDay F k a1 M) := by
  refine ct_of (by decide) (Nat.le_of_ble_eq_true rfl) (fun f hC hm => ?_)
  have hC : Cx x f "AnswersFirst$Entries" cX1_byDay 4 { frames := 0, cells := 0, slots := 0, locals := 0 } := hC
  show GG x f 4 (Qm x f (φI M)) 0 [(0, .ref (x.1 k)), (1, .int a1)] [] M _
  unfold sX1_byDay
  refine g_iconst hC (v := (0 : Int32)) dX1_byDay_0 (by decide) ?_
  refine g_istore_n hC (lv' := [(0, .ref (x.1 k)), (1, .int a1), (2, .int (0 : Int32))]) [1, 2, 0] dX1_byDay_1 rfl (by decide) rfl ?_
  refine g_iconst hC (v := (0 : Int32)) dX1_byDay_2 (by decide) ?_
  refine g_istore_n hC (lv' := [(0, .ref (x.1 k)), (1, .int a1), (2, .int (0 : Int32)), (3, .int (0 : Int32))]) [1, 2, 3, 0] dX1_byDay_3 rfl (by decide) rfl ?_
  refine g_fx2 (fun (p1 : Int32) (p2 : Int32) => [(0, .ref (x.1 k)), (1, .int a1), (2, .int p1), (3, .int p2)]) (fun (p1 : Int32) (p2 : Int32) => M) (fun rec3 hrec3 p1 p2 => ?_) F _ _
  show GG x f 4 (Qm x f (φI M)) 4 [(0, .ref (x.1 k)), (1, .int a1), (2, .int p1), (3, .int p2)] [] M _
  unfold sX1_byDay_L4
  refine g_iload_n hC 3 dX1_byDay_4 rfl rfl ?_
  refine g_aload_n hC 0 dX1_byDay_5 rfl rfl ?_
  refine g_getI hC cf1 hk 6 (by decide) rfl m_126 dX1_byDay_6 ?_
  refine g_icmp_ge hC 45 dX1_byDay_9 (by decide) ?_ ?_
  · refine g_iload_n hC 2 dX1_byDay_45 rfl rfl ?_
    exact g_iret hC hm rfl dX1_byDay_46
  · refine g_iload_n hC 3 dX1_byDay_12 rfl rfl ?_
    refine g_bipush hC (v := (10 : Int32)) dX1_byDay_13 (by decide) ?_
    refine g_icmp_ge hC 45 dX1_byDay_15 (by decide) ?_ ?_
    · refine g_iload_n hC 2 dX1_byDay_45 rfl rfl ?_
      exact g_iret hC hm rfl dX1_byDay_46
    · refine g_aload_n hC 0 dX1_byDay_18 rfl rfl ?_
      refine g_getR hC cf1 (t := (k + 3)) hk 1 (by decide) rfl m_121 dX1_byDay_19 ?_
      refine g_iload_n hC 3 dX1_byDay_22 rfl rfl ?_
      refine g_bipush hC (v := (6 : Int32)) dX1_byDay_23 (by decide) ?_
      refine g_imul hC dX1_byDay_25 ?_
      refine g_iconst hC (v := (2 : Int32)) dX1_byDay_26 (by decide) ?_
      refine g_iadd hC dX1_byDay_27 ?_
      refine g_iald hC (kp_E hk) (lp_E hk) dX1_byDay_28 ?_
      refine g_iload_n hC 1 dX1_byDay_29 rfl rfl ?_
      refine g_nm (fun (J5 : Int32 → Option Int32) => ∀ (p4 : Int32), GG x f 4 (Qm x f (φI M)) 39 [(0, .ref (x.1 k)), (1, .int a1), (2, .int p4), (3, .int p2)] [] M (J5 p4)) (fun p4 => ?_) (fun J5 hJ5 => ?_)
      · show GG x f 4 (Qm x f (φI M)) 39 [(0, .ref (x.1 k)), (1, .int a1), (2, .int p4), (3, .int p2)] [] M _
        refine g_iinc hC (q := 3) (v := (1 : Int32)) (lv' := [(0, .ref (x.1 k)), (1, .int a1), (2, .int p4), (3, .int (p2 + (1 : Int32)))]) [1, 2, 3, 0] dX1_byDay_39 rfl (by decide) (by decide) rfl ?_
        refine g_goto hC 4 dX1_byDay_42 (by decide) ?_
        exact hrec3 p4 (p2 + (1 : Int32))
      refine g_icmp_gt hC 39 dX1_byDay_30 (by decide) ?_ ?_
      · exact hJ5 p1
      · refine g_iload_n hC 2 dX1_byDay_33 rfl rfl ?_
        refine g_iconst hC (v := (1 : Int32)) dX1_byDay_34 (by decide) ?_
        refine g_iload_n hC 3 dX1_byDay_35 rfl rfl ?_
        refine g_ishl hC dX1_byDay_36 ?_
        refine g_ior hC dX1_byDay_37 ?_
        refine g_top (fun v6 => ?_)
        show GG x f 4 (Qm x f (φI M)) 38 [(0, .ref (x.1 k)), (1, .int a1), (2, .int p1), (3, .int p2)] [.int v6] M _
        refine g_istore_n hC (lv' := [(0, .ref (x.1 k)), (1, .int a1), (2, .int v6), (3, .int p2)]) [1, 2, 0, 3] dX1_byDay_38 rfl (by decide) rfl ?_
        exact hJ5 v6
