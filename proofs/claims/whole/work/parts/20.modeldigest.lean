def sX8_digest_L336 (F : Nat) (J39 : Int64 → Mem → Option (Int64 × Mem)) (rec63 : Int64 → Int32 → Mem → Option (Int64 × Mem)) (p60 : Int64) (p61 : Int32) (M62 : Mem) : Option (Int64 × Mem) :=
if (6 : Int32) ≤ p61 then
(J39 p60 M62)
else
((sX8_hadOf F (1023 : Int32) p61 (20 : Int32) M62).bind (fun r64 =>
nm (((31 : Int64) * p60) + (r64.1.toInt64)) (fun v65 =>
(sX8_askedOf F (1023 : Int32) p61 (20 : Int32) r64.2).bind (fun r66 =>
nm (((31 : Int64) * v65) + (r66.1.toInt64)) (fun v67 =>
(sX8_bestOf F p61 (0 : Int32) r66.2).bind (fun r68 =>
nm (((31 : Int64) * v67) + (r68.1.toInt64)) (fun v69 =>
(sX8_bestOf F p61 (1 : Int32) r68.2).bind (fun r70 =>
nm (((31 : Int64) * v69) + (r70.1.toInt64)) (fun v71 =>
(sX8_owedOf F p61 r70.2).bind (fun r72 =>
nm (((31 : Int64) * v71) + (r72.1.toInt64)) (fun v73 =>
(sX8_fines F p61 r72.2).bind (fun r74 =>
nm (((31 : Int64) * v73) + (r74.1.toInt64)) (fun v75 =>
rec63 v75 (p61 + (1 : Int32)) r74.2)))))))))))))
def sX8_digest_L202 (F : Nat) (J20 : Int64 → Mem → Option (Int64 × Mem)) (rec79 : Int64 → Int32 → Mem → Option (Int64 × Mem)) (p76 : Int64) (p77 : Int32) (M78 : Mem) : Option (Int64 × Mem) :=
if (2 : Int32) ≤ p77 then
(J20 p76 M78)
else
((sX8_freedOf F p77 M78).bind (fun r80 =>
nm (((31 : Int64) * p76) + (r80.1.toInt64)) (fun v81 =>
rec79 v81 (p77 + (1 : Int32)) r80.2)))
def sX8_digest_L176 (F : Nat) (J17 : Int64 → Mem → Option (Int64 × Mem)) (rec85 : Int64 → Int32 → Mem → Option (Int64 × Mem)) (p82 : Int64) (p83 : Int32) (M84 : Mem) : Option (Int64 × Mem) :=
if (2 : Int32) ≤ p83 then
(J17 p82 M84)
else
((sX8_cannotOf F p83 M84).bind (fun r86 =>
nm (((31 : Int64) * p82) + (r86.1.toInt64)) (fun v87 =>
rec85 v87 (p83 + (1 : Int32)) r86.2)))
def sX8_digest_L150 (F : Nat) (J14 : Int64 → Mem → Option (Int64 × Mem)) (rec91 : Int64 → Int32 → Mem → Option (Int64 × Mem)) (p88 : Int64) (p89 : Int32) (M90 : Mem) : Option (Int64 × Mem) :=
if (2 : Int32) ≤ p89 then
(J14 p88 M90)
else
((sX8_sureOf F p89 M90).bind (fun r92 =>
nm (((31 : Int64) * p88) + (r92.1.toInt64)) (fun v93 =>
rec91 v93 (p89 + (1 : Int32)) r92.2)))
def sX8_digest_L124 (F : Nat) (J11 : Int64 → Mem → Option (Int64 × Mem)) (rec97 : Int64 → Int32 → Mem → Option (Int64 × Mem)) (p94 : Int64) (p95 : Int32) (M96 : Mem) : Option (Int64 × Mem) :=
if (2 : Int32) ≤ p95 then
(J11 p94 M96)
else
((sX8_rowsOf F p95 M96).bind (fun r98 =>
nm (((31 : Int64) * p94) + (r98.1.toInt64)) (fun v99 =>
rec97 v99 (p95 + (1 : Int32)) r98.2)))
def sX8_digest_L70 (F : Nat) (M5 : Mem) (p101 : Int32) (J104 : Int64 → Option (Int64 × Mem)) (rec109 : Int64 → Int32 → Option (Int64 × Mem)) (p107 : Int64) (p108 : Int32) : Option (Int64 × Mem) :=
if (6 : Int32) ≤ p108 then
(J104 p107)
else
(ib (((6 : Int32) * p101) + p108) 66 (
nm (((31 : Int64) * p107) + ((M5 40 (ix (((6 : Int32) * p101) + p108))).toInt64)) (fun v110 =>
rec109 v110 (p108 + (1 : Int32)))))
def sX8_digest_L59 (F : Nat) (M5 : Mem) (J8 : Int64 → Option (Int64 × Mem)) (rec102 : Int64 → Int32 → Option (Int64 × Mem)) (p100 : Int64) (p101 : Int32) : Option (Int64 × Mem) :=
if (M5 37 2) ≤ p101 then
(J8 p100)
else
(nm (fun (p103 : Int64) =>
(sX8_hangsOf F p101 M5).bind (fun r105 =>
nm (((31 : Int64) * p103) + (r105.toInt64)) (fun v106 =>
rec102 v106 (p101 + (1 : Int32))))) (fun J104 =>
fx2 F (sX8_digest_L70 F M5 p101 J104) p100 (0 : Int32)))
def sX8_digest_L33 (F : Nat) (J6 : Int64 → Mem → Option (Int64 × Mem)) (rec114 : Int64 → Int32 → Mem → Option (Int64 × Mem)) (p111 : Int64) (p112 : Int32) (M113 : Mem) : Option (Int64 × Mem) :=
if (3 : Int32) ≤ p112 then
(J6 p111 M113)
else
((sX8_faultOf F p112 M113).bind (fun r115 =>
nm (((31 : Int64) * p111) + (r115.1.toInt64)) (fun v116 =>
rec114 v116 (p112 + (1 : Int32)) r115.2)))
def sX8_digest_L6 (F : Nat) (J3 : Int64 → Mem → Option (Int64 × Mem)) (rec120 : Int64 → Int32 → Mem → Option (Int64 × Mem)) (p117 : Int64) (p118 : Int32) (M119 : Mem) : Option (Int64 × Mem) :=
if (8 : Int32) ≤ p118 then
(J3 p117 M119)
else
((sX8_count F p118 M119).bind (fun r121 =>
nm (((31 : Int64) * p117) + (r121.1.toInt64)) (fun v122 =>
rec120 v122 (p118 + (1 : Int32)) r121.2)))
def sX8_digest (F : Nat) (M : Mem) : Option (Int64 × Mem) :=
nm (fun (p1 : Int64) (M2 : Mem) =>
nm (fun (p4 : Int64) (M5 : Mem) =>
nm (fun (p7 : Int64) =>
nm (fun (p9 : Int64) (M10 : Mem) =>
nm (fun (p12 : Int64) (M13 : Mem) =>
nm (fun (p15 : Int64) (M16 : Mem) =>
nm (fun (p18 : Int64) (M19 : Mem) =>
(sX8_brokenOf F (0 : Int32) M19).bind (fun r21 =>
nm (((31 : Int64) * p18) + (r21.1.toInt64)) (fun v22 =>
(sX8_brokenOf F (5 : Int32) r21.2).bind (fun r23 =>
nm (((31 : Int64) * v22) + (r23.1.toInt64)) (fun v24 =>
(sX8_brokenOf F (1023 : Int32) r23.2).bind (fun r25 =>
nm (((31 : Int64) * v24) + (r25.1.toInt64)) (fun v26 =>
(sX8_nearestOf F (5 : Int32) r25.2).bind (fun r27 =>
nm (((31 : Int64) * v26) + (r27.1.toInt64)) (fun v28 =>
(sX8_stepsOf F (0 : Int32) (3 : Int32) r27.2).bind (fun r29 =>
nm (((31 : Int64) * v28) + (r29.1.toInt64)) (fun v30 =>
(sX8_returnsOf F (0 : Int32) (0 : Int32) r29.2).bind (fun r31 =>
nm (((31 : Int64) * v30) + (r31.1.toInt64)) (fun v32 =>
(sX8_returnsOf F (0 : Int32) (1 : Int32) r31.2).bind (fun r33 =>
nm (((31 : Int64) * v32) + (r33.1.toInt64)) (fun v34 =>
(sX8_ringsNow F r33.2).bind (fun r35 =>
nm (((31 : Int64) * v34) + (r35.1.toInt64)) (fun v36 =>
nm (fun (p37 : Int64) (M38 : Mem) =>
(sX8_openOf F (1023 : Int32) (20 : Int32) M38).bind (fun r40 =>
nm (((31 : Int64) * p37) + (r40.1.toInt64)) (fun v41 =>
(sX8_rowsOf F (0 : Int32) r40.2).bind (fun r42 =>
nm (fun (q43 : Int32) =>
(sX8_restOf F q43 (0 : Int32) r42.2).bind (fun r45 =>
nm (((31 : Int64) * v41) + (r45.1.toInt64)) (fun v46 =>
(sX8_owedOf F (-1 : Int32) r45.2).bind (fun r47 =>
nm (((31 : Int64) * v46) + (r47.1.toInt64)) (fun v48 =>
(sX8_lackNow F r47.2).bind (fun r49 =>
nm (((31 : Int64) * v48) + (r49.1.toInt64)) (fun v50 =>
(sX8_unaskedNow F r49.2).bind (fun r51 =>
nm (((31 : Int64) * v50) + (r51.1.toInt64)) (fun v52 =>
(sX8_refusedOf F (0 : Int32) r51.2).bind (fun r53 =>
nm (((31 : Int64) * v52) + (r53.1.toInt64)) (fun v54 =>
(sX8_refusedOf F (1 : Int32) r53.2).bind (fun r55 =>
nm (((31 : Int64) * v54) + (r55.1.toInt64)) (fun v56 =>
(sX8_lotOf F (7 : Int32) (0 : Int32) r55.2).bind (fun r57 =>
nm (((31 : Int64) * v56) + (r57.1.toInt64)) (fun v58 =>
(sX8_lotOf F (7 : Int32) (20 : Int32) r57.2).bind (fun r59 =>
some ((((31 : Int64) * v58) + (r59.1.toInt64)), r59.2))))))))))))))))) (fun J44 =>
if ¬ r42.1 = (-1 : Int32) then
(J44 r42.1)
else
(J44 (0 : Int32))))))) (fun J39 =>
fx3 F (sX8_digest_L336 F J39) v36 (0 : Int32) r35.2)))))))))))))))))) (fun J20 =>
fx3 F (sX8_digest_L202 F J20) p15 (0 : Int32) M16)) (fun J17 =>
fx3 F (sX8_digest_L176 F J17) p12 (0 : Int32) M13)) (fun J14 =>
fx3 F (sX8_digest_L150 F J14) p9 (0 : Int32) M10)) (fun J11 =>
fx3 F (sX8_digest_L124 F J11) p7 (-1 : Int32) M5)) (fun J8 =>
fx2 F (sX8_digest_L59 F M5 J8) p4 (0 : Int32))) (fun J6 =>
fx3 F (sX8_digest_L33 F J6) p1 (0 : Int32) M2)) (fun J3 =>
fx3 F (sX8_digest_L6 F J3) (17 : Int64) (0 : Int32) M)
theorem mvX8_digest : MV yX8_digest cX8_digest 5 (some .long) 0 := ⟨⟨m_1333, m_76, by decide, by decide, by decide⟩, m_1331, m_1332⟩
set_option maxHeartbeats 4000000 in
set_option maxRecDepth 100000 in
theorem ctX8_digest (x : Wx) (F : Nat) (M : Mem) : Ct x yX8_digest cX8_digest 5 (some .long) { frames := 9, cells := 0, slots := 0, locals := 215 } φLM [.ref (x.1 37)] M (sX8_digest F M) := by
  refine ct_of (by decide) (Nat.le_of_ble_eq_true rfl) (fun f hC hm => ?_)
  have hC : Cx x f "AnswersFirstModel" cX8_digest 5 { frames := 9, cells := 0, slots := 0, locals := 215 } := hC
  show GG x f 5 (Qm x f φLM) 0 [(0, .ref (x.1 37))] [] M _
  unfold sX8_digest
  refine g_ldc2 hC (v := (17 : Int64)) m_1334 dX8_digest_0 ?_
  refine g_lstore_n hC (lv' := [(0, .ref (x.1 37)), (1, .long (17 : Int64))]) [1, 0] dX8_digest_3 rfl (by decide) rfl ?_
  refine g_iconst hC (v := (0 : Int32)) dX8_digest_4 (by decide) ?_
  refine g_istore_n hC (lv' := [(0, .ref (x.1 37)), (1, .long (17 : Int64)), (3, .int (0 : Int32))]) [1, 2, 0] dX8_digest_5 rfl (by decide) rfl ?_
  refine g_nm (fun (J3 : Int64 → Mem → Option (Int64 × Mem)) => ∀ (p1 : Int64) (M2 : Mem), GG x f 5 (Qm x f φLM) 31 [(0, .ref (x.1 37)), (1, .long p1)] [] M2 (J3 p1 M2)) (fun p1 M2 => ?_) (fun J3 hJ3 => ?_)
  · show GG x f 5 (Qm x f φLM) 31 [(0, .ref (x.1 37)), (1, .long p1)] [] M2 _
    refine g_iconst hC (v := (0 : Int32)) dX8_digest_31 (by decide) ?_
    refine g_istore_n hC (lv' := [(0, .ref (x.1 37)), (1, .long p1), (3, .int (0 : Int32))]) [1, 2, 0] dX8_digest_32 rfl (by decide) rfl ?_
    refine g_nm (fun (J6 : Int64 → Mem → Option (Int64 × Mem)) => ∀ (p4 : Int64) (M5 : Mem), GG x f 5 (Qm x f φLM) 57 [(0, .ref (x.1 37)), (1, .long p4)] [] M5 (J6 p4 M5)) (fun p4 M5 => ?_) (fun J6 hJ6 => ?_)
    · show GG x f 5 (Qm x f φLM) 57 [(0, .ref (x.1 37)), (1, .long p4)] [] M5 _
      refine g_iconst hC (v := (0 : Int32)) dX8_digest_57 (by decide) ?_
      refine g_istore_n hC (lv' := [(0, .ref (x.1 37)), (1, .long p4), (3, .int (0 : Int32))]) [1, 2, 0] dX8_digest_58 rfl (by decide) rfl ?_
      refine g_nm (fun (J8 : Int64 → Option (Int64 × Mem)) => ∀ (p7 : Int64), GG x f 5 (Qm x f φLM) 122 [(0, .ref (x.1 37)), (1, .long p7)] [] M5 (J8 p7)) (fun p7 => ?_) (fun J8 hJ8 => ?_)
      · show GG x f 5 (Qm x f φLM) 122 [(0, .ref (x.1 37)), (1, .long p7)] [] M5 _
        refine g_iconst hC (v := (-1 : Int32)) dX8_digest_122 (by decide) ?_
        refine g_istore_n hC (lv' := [(0, .ref (x.1 37)), (1, .long p7), (3, .int (-1 : Int32))]) [1, 2, 0] dX8_digest_123 rfl (by decide) rfl ?_
        refine g_nm (fun (J11 : Int64 → Mem → Option (Int64 × Mem)) => ∀ (p9 : Int64) (M10 : Mem), GG x f 5 (Qm x f φLM) 148 [(0, .ref (x.1 37)), (1, .long p9)] [] M10 (J11 p9 M10)) (fun p9 M10 => ?_) (fun J11 hJ11 => ?_)
        · show GG x f 5 (Qm x f φLM) 148 [(0, .ref (x.1 37)), (1, .long p9)] [] M10 _
          refine g_iconst hC (v := (0 : Int32)) dX8_digest_148 (by decide) ?_
          refine g_istore_n hC (lv' := [(0, .ref (x.1 37)), (1, .long p9), (3, .int (0 : Int32))]) [1, 2, 0] dX8_digest_149 rfl (by decide) rfl ?_
          refine g_nm (fun (J14 : Int64 → Mem → Option (Int64 × Mem)) => ∀ (p12 : Int64) (M13 : Mem), GG x f 5 (Qm x f φLM) 174 [(0, .ref (x.1 37)), (1, .long p12)] [] M13 (J14 p12 M13)) (fun p12 M13 => ?_) (fun J14 hJ14 => ?_)
          · show GG x f 5 (Qm x f φLM) 174 [(0, .ref (x.1 37)), (1, .long p12)] [] M13 _
            refine g_iconst hC (v := (0 : Int32)) dX8_digest_174 (by decide) ?_
            refine g_istore_n hC (lv' := [(0, .ref (x.1 37)), (1, .long p12), (3, .int (0 : Int32))]) [1, 2, 0] dX8_digest_175 rfl (by decide) rfl ?_
            refine g_nm (fun (J17 : Int64 → Mem → Option (Int64 × Mem)) => ∀ (p15 : Int64) (M16 : Mem), GG x f 5 (Qm x f φLM) 200 [(0, .ref (x.1 37)), (1, .long p15)] [] M16 (J17 p15 M16)) (fun p15 M16 => ?_) (fun J17 hJ17 => ?_)
            · show GG x f 5 (Qm x f φLM) 200 [(0, .ref (x.1 37)), (1, .long p15)] [] M16 _
              refine g_iconst hC (v := (0 : Int32)) dX8_digest_200 (by decide) ?_
              refine g_istore_n hC (lv' := [(0, .ref (x.1 37)), (1, .long p15), (3, .int (0 : Int32))]) [1, 2, 0] dX8_digest_201 rfl (by decide) rfl ?_
              refine g_nm (fun (J20 : Int64 → Mem → Option (Int64 × Mem)) => ∀ (p18 : Int64) (M19 : Mem), GG x f 5 (Qm x f φLM) 226 [(0, .ref (x.1 37)), (1, .long p18)] [] M19 (J20 p18 M19)) (fun p18 M19 => ?_) (fun J20 hJ20 => ?_)
              · show GG x f 5 (Qm x f φLM) 226 [(0, .ref (x.1 37)), (1, .long p18)] [] M19 _
                refine g_ldc2 hC (v := (31 : Int64)) m_1335 dX8_digest_226 ?_
                refine g_lload_n hC 1 dX8_digest_229 rfl rfl ?_
                refine g_lmul hC dX8_digest_230 ?_
                refine g_aload_n hC 0 dX8_digest_231 rfl rfl ?_
                refine g_iconst hC (v := (0 : Int32)) dX8_digest_232 (by decide) ?_
                refine g_callv hC (st := [.long ((31 : Int64) * p18)]) (c := 8) rfl (by decide) rfl (ctX8_brokenOf x F (0 : Int32) M19) mvX8_brokenOf m_1075 (by decide) rfl rfl (Nat.le_of_ble_eq_true rfl) dX8_digest_233 (fun r21 => ?_)
                show GG x f 5 (Qm x f φLM) 236 [(0, .ref (x.1 37)), (1, .long p18)] [.int (r21.1), .long ((31 : Int64) * p18)] r21.2 _
                refine g_i2l hC dX8_digest_236 ?_
                refine g_ladd hC dX8_digest_237 ?_
                refine g_topl (fun v22 => ?_)
                show GG x f 5 (Qm x f φLM) 238 [(0, .ref (x.1 37)), (1, .long p18)] [.long v22] r21.2 _
                refine g_lstore_n hC (lv' := [(0, .ref (x.1 37)), (1, .long v22)]) [1, 0] dX8_digest_238 rfl (by decide) rfl ?_
                refine g_ldc2 hC (v := (31 : Int64)) m_1335 dX8_digest_239 ?_
                refine g_lload_n hC 1 dX8_digest_242 rfl rfl ?_
                refine g_lmul hC dX8_digest_243 ?_
                refine g_aload_n hC 0 dX8_digest_244 rfl rfl ?_
                refine g_iconst hC (v := (5 : Int32)) dX8_digest_245 (by decide) ?_
                refine g_callv hC (st := [.long ((31 : Int64) * v22)]) (c := 8) rfl (by decide) rfl (ctX8_brokenOf x F (5 : Int32) r21.2) mvX8_brokenOf m_1075 (by decide) rfl rfl (Nat.le_of_ble_eq_true rfl) dX8_digest_246 (fun r23 => ?_)
                show GG x f 5 (Qm x f φLM) 249 [(0, .ref (x.1 37)), (1, .long v22)] [.int (r23.1), .long ((31 : Int64) * v22)] r23.2 _
                refine g_i2l hC dX8_digest_249 ?_
                refine g_ladd hC dX8_digest_250 ?_
                refine g_topl (fun v24 => ?_)
                show GG x f 5 (Qm x f φLM) 251 [(0, .ref (x.1 37)), (1, .long v22)] [.long v24] r23.2 _
                refine g_lstore_n hC (lv' := [(0, .ref (x.1 37)), (1, .long v24)]) [1, 0] dX8_digest_251 rfl (by decide) rfl ?_
                refine g_ldc2 hC (v := (31 : Int64)) m_1335 dX8_digest_252 ?_
                refine g_lload_n hC 1 dX8_digest_255 rfl rfl ?_
                refine g_lmul hC dX8_digest_256 ?_
                refine g_aload_n hC 0 dX8_digest_257 rfl rfl ?_
                refine g_sipush hC (v := (1023 : Int32)) dX8_digest_258 (by decide) ?_
                refine g_callv hC (st := [.long ((31 : Int64) * v24)]) (c := 8) rfl (by decide) rfl (ctX8_brokenOf x F (1023 : Int32) r23.2) mvX8_brokenOf m_1075 (by decide) rfl rfl (Nat.le_of_ble_eq_true rfl) dX8_digest_261 (fun r25 => ?_)
                show GG x f 5 (Qm x f φLM) 264 [(0, .ref (x.1 37)), (1, .long v24)] [.int (r25.1), .long ((31 : Int64) * v24)] r25.2 _
                refine g_i2l hC dX8_digest_264 ?_
                refine g_ladd hC dX8_digest_265 ?_
                refine g_topl (fun v26 => ?_)
                show GG x f 5 (Qm x f φLM) 266 [(0, .ref (x.1 37)), (1, .long v24)] [.long v26] r25.2 _
                refine g_lstore_n hC (lv' := [(0, .ref (x.1 37)), (1, .long v26)]) [1, 0] dX8_digest_266 rfl (by decide) rfl ?_
                refine g_ldc2 hC (v := (31 : Int64)) m_1335 dX8_digest_267 ?_
                refine g_lload_n hC 1 dX8_digest_270 rfl rfl ?_
                refine g_lmul hC dX8_digest_271 ?_
                refine g_aload_n hC 0 dX8_digest_272 rfl rfl ?_
                refine g_iconst hC (v := (5 : Int32)) dX8_digest_273 (by decide) ?_
                refine g_callv hC (st := [.long ((31 : Int64) * v26)]) (c := 8) rfl (by decide) rfl (ctX8_nearestOf x F (5 : Int32) r25.2) mvX8_nearestOf m_1141 (by decide) rfl rfl (Nat.le_of_ble_eq_true rfl) dX8_digest_274 (fun r27 => ?_)
                show GG x f 5 (Qm x f φLM) 277 [(0, .ref (x.1 37)), (1, .long v26)] [.int (r27.1), .long ((31 : Int64) * v26)] r27.2 _
                refine g_i2l hC dX8_digest_277 ?_
                refine g_ladd hC dX8_digest_278 ?_
                refine g_topl (fun v28 => ?_)
                show GG x f 5 (Qm x f φLM) 279 [(0, .ref (x.1 37)), (1, .long v26)] [.long v28] r27.2 _
                refine g_lstore_n hC (lv' := [(0, .ref (x.1 37)), (1, .long v28)]) [1, 0] dX8_digest_279 rfl (by decide) rfl ?_
                refine g_ldc2 hC (v := (31 : Int64)) m_1335 dX8_digest_280 ?_
                refine g_lload_n hC 1 dX8_digest_283 rfl rfl ?_
                refine g_lmul hC dX8_digest_284 ?_
                refine g_aload_n hC 0 dX8_digest_285 rfl rfl ?_
                refine g_iconst hC (v := (0 : Int32)) dX8_digest_286 (by decide) ?_
                refine g_iconst hC (v := (3 : Int32)) dX8_digest_287 (by decide) ?_
                refine g_callv hC (st := [.long ((31 : Int64) * v28)]) (c := 8) rfl (by decide) rfl (ctX8_stepsOf x F (0 : Int32) (3 : Int32) r27.2) mvX8_stepsOf m_1149 (by decide) rfl rfl (Nat.le_of_ble_eq_true rfl) dX8_digest_288 (fun r29 => ?_)
                show GG x f 5 (Qm x f φLM) 291 [(0, .ref (x.1 37)), (1, .long v28)] [.int (r29.1), .long ((31 : Int64) * v28)] r29.2 _
                refine g_i2l hC dX8_digest_291 ?_
                refine g_ladd hC dX8_digest_292 ?_
                refine g_topl (fun v30 => ?_)
                show GG x f 5 (Qm x f φLM) 293 [(0, .ref (x.1 37)), (1, .long v28)] [.long v30] r29.2 _
                refine g_lstore_n hC (lv' := [(0, .ref (x.1 37)), (1, .long v30)]) [1, 0] dX8_digest_293 rfl (by decide) rfl ?_
                refine g_ldc2 hC (v := (31 : Int64)) m_1335 dX8_digest_294 ?_
                refine g_lload_n hC 1 dX8_digest_297 rfl rfl ?_
                refine g_lmul hC dX8_digest_298 ?_
                refine g_aload_n hC 0 dX8_digest_299 rfl rfl ?_
                refine g_iconst hC (v := (0 : Int32)) dX8_digest_300 (by decide) ?_
                refine g_iconst hC (v := (0 : Int32)) dX8_digest_301 (by decide) ?_
                refine g_callv hC (st := [.long ((31 : Int64) * v30)]) (c := 8) rfl (by decide) rfl (ctX8_returnsOf x F (0 : Int32) (0 : Int32) r29.2) mvX8_returnsOf m_1157 (by decide) rfl rfl (Nat.le_of_ble_eq_true rfl) dX8_digest_302 (fun r31 => ?_)
                show GG x f 5 (Qm x f φLM) 305 [(0, .ref (x.1 37)), (1, .long v30)] [.int (r31.1), .long ((31 : Int64) * v30)] r31.2 _
                refine g_i2l hC dX8_digest_305 ?_
                refine g_ladd hC dX8_digest_306 ?_
                refine g_topl (fun v32 => ?_)
                show GG x f 5 (Qm x f φLM) 307 [(0, .ref (x.1 37)), (1, .long v30)] [.long v32] r31.2 _
                refine g_lstore_n hC (lv' := [(0, .ref (x.1 37)), (1, .long v32)]) [1, 0] dX8_digest_307 rfl (by decide) rfl ?_
                refine g_ldc2 hC (v := (31 : Int64)) m_1335 dX8_digest_308 ?_
                refine g_lload_n hC 1 dX8_digest_311 rfl rfl ?_
                refine g_lmul hC dX8_digest_312 ?_
                refine g_aload_n hC 0 dX8_digest_313 rfl rfl ?_
                refine g_iconst hC (v := (0 : Int32)) dX8_digest_314 (by decide) ?_
                refine g_iconst hC (v := (1 : Int32)) dX8_digest_315 (by decide) ?_
                refine g_callv hC (st := [.long ((31 : Int64) * v32)]) (c := 8) rfl (by decide) rfl (ctX8_returnsOf x F (0 : Int32) (1 : Int32) r31.2) mvX8_returnsOf m_1157 (by decide) rfl rfl (Nat.le_of_ble_eq_true rfl) dX8_digest_316 (fun r33 => ?_)
                show GG x f 5 (Qm x f φLM) 319 [(0, .ref (x.1 37)), (1, .long v32)] [.int (r33.1), .long ((31 : Int64) * v32)] r33.2 _
                refine g_i2l hC dX8_digest_319 ?_
                refine g_ladd hC dX8_digest_320 ?_
                refine g_topl (fun v34 => ?_)
                show GG x f 5 (Qm x f φLM) 321 [(0, .ref (x.1 37)), (1, .long v32)] [.long v34] r33.2 _
                refine g_lstore_n hC (lv' := [(0, .ref (x.1 37)), (1, .long v34)]) [1, 0] dX8_digest_321 rfl (by decide) rfl ?_
                refine g_ldc2 hC (v := (31 : Int64)) m_1335 dX8_digest_322 ?_
                refine g_lload_n hC 1 dX8_digest_325 rfl rfl ?_
                refine g_lmul hC dX8_digest_326 ?_
                refine g_aload_n hC 0 dX8_digest_327 rfl rfl ?_
                refine g_callv hC (st := [.long ((31 : Int64) * v34)]) (c := 8) rfl (by decide) rfl (ctX8_ringsNow x F r33.2) mvX8_ringsNow m_1177 (by decide) rfl rfl (Nat.le_of_ble_eq_true rfl) dX8_digest_328 (fun r35 => ?_)
                show GG x f 5 (Qm x f φLM) 331 [(0, .ref (x.1 37)), (1, .long v34)] [.int (r35.1), .long ((31 : Int64) * v34)] r35.2 _
                refine g_i2l hC dX8_digest_331 ?_
                refine g_ladd hC dX8_digest_332 ?_
                refine g_topl (fun v36 => ?_)
                show GG x f 5 (Qm x f φLM) 333 [(0, .ref (x.1 37)), (1, .long v34)] [.long v36] r35.2 _
                refine g_lstore_n hC (lv' := [(0, .ref (x.1 37)), (1, .long v36)]) [1, 0] dX8_digest_333 rfl (by decide) rfl ?_
                refine g_iconst hC (v := (0 : Int32)) dX8_digest_334 (by decide) ?_
                refine g_istore_n hC (lv' := [(0, .ref (x.1 37)), (1, .long v36), (3, .int (0 : Int32))]) [1, 2, 0] dX8_digest_335 rfl (by decide) rfl ?_
                refine g_nm (fun (J39 : Int64 → Mem → Option (Int64 × Mem)) => ∀ (p37 : Int64) (M38 : Mem), GG x f 5 (Qm x f φLM) 438 [(0, .ref (x.1 37)), (1, .long p37)] [] M38 (J39 p37 M38)) (fun p37 M38 => ?_) (fun J39 hJ39 => ?_)
                · show GG x f 5 (Qm x f φLM) 438 [(0, .ref (x.1 37)), (1, .long p37)] [] M38 _
                  refine g_ldc2 hC (v := (31 : Int64)) m_1335 dX8_digest_438 ?_
                  refine g_lload_n hC 1 dX8_digest_441 rfl rfl ?_
                  refine g_lmul hC dX8_digest_442 ?_
                  refine g_aload_n hC 0 dX8_digest_443 rfl rfl ?_
                  refine g_sipush hC (v := (1023 : Int32)) dX8_digest_444 (by decide) ?_
                  refine g_bipush hC (v := (20 : Int32)) dX8_digest_447 (by decide) ?_
                  refine g_callv hC (st := [.long ((31 : Int64) * p37)]) (c := 8) rfl (by decide) rfl (ctX8_openOf x F (1023 : Int32) (20 : Int32) M38) mvX8_openOf m_1207 (by decide) rfl rfl (Nat.le_of_ble_eq_true rfl) dX8_digest_449 (fun r40 => ?_)
                  show GG x f 5 (Qm x f φLM) 452 [(0, .ref (x.1 37)), (1, .long p37)] [.int (r40.1), .long ((31 : Int64) * p37)] r40.2 _
                  refine g_i2l hC dX8_digest_452 ?_
                  refine g_ladd hC dX8_digest_453 ?_
                  refine g_topl (fun v41 => ?_)
                  show GG x f 5 (Qm x f φLM) 454 [(0, .ref (x.1 37)), (1, .long p37)] [.long v41] r40.2 _
                  refine g_lstore_n hC (lv' := [(0, .ref (x.1 37)), (1, .long v41)]) [1, 0] dX8_digest_454 rfl (by decide) rfl ?_
                  refine g_aload_n hC 0 dX8_digest_455 rfl rfl ?_
                  refine g_iconst hC (v := (0 : Int32)) dX8_digest_456 (by decide) ?_
                  refine g_callv hC (st := []) (c := 8) rfl (by decide) rfl (ctX8_rowsOf x F (0 : Int32) r40.2) mvX8_rowsOf m_1106 (by decide) rfl rfl (Nat.le_of_ble_eq_true rfl) dX8_digest_457 (fun r42 => ?_)
                  show GG x f 5 (Qm x f φLM) 460 [(0, .ref (x.1 37)), (1, .long v41)] [.int (r42.1)] r42.2 _
                  refine g_istore_n hC (lv' := [(0, .ref (x.1 37)), (1, .long v41), (3, .int (r42.1))]) [1, 2, 0] dX8_digest_460 rfl (by decide) rfl ?_
                  refine g_ldc2 hC (v := (31 : Int64)) m_1335 dX8_digest_461 ?_
                  refine g_lload_n hC 1 dX8_digest_464 rfl rfl ?_
                  refine g_lmul hC dX8_digest_465 ?_
                  refine g_aload_n hC 0 dX8_digest_466 rfl rfl ?_
                  refine g_iload_n hC 2 dX8_digest_467 rfl rfl ?_
                  refine g_iconst hC (v := (-1 : Int32)) dX8_digest_468 (by decide) ?_
                  refine g_nm (fun (J44 : Int32 → Option (Int64 × Mem)) => ∀ (q43 : Int32), GG x f 5 (Qm x f φLM) 477 [(0, .ref (x.1 37))] [.int q43, .ref (x.1 37), .long ((31 : Int64) * v41)] r42.2 (J44 q43)) (fun q43 => ?_) (fun J44 hJ44 => ?_)
                  · show GG x f 5 (Qm x f φLM) 477 [(0, .ref (x.1 37))] [.int q43, .ref (x.1 37), .long ((31 : Int64) * v41)] r42.2 _
                    refine g_iconst hC (v := (0 : Int32)) dX8_digest_477 (by decide) ?_
                    refine g_callv hC (st := [.long ((31 : Int64) * v41)]) (c := 8) rfl (by decide) rfl (ctX8_restOf x F q43 (0 : Int32) r42.2) mvX8_restOf m_1231 (by decide) rfl rfl (Nat.le_of_ble_eq_true rfl) dX8_digest_478 (fun r45 => ?_)
                    show GG x f 5 (Qm x f φLM) 481 [(0, .ref (x.1 37))] [.int (r45.1), .long ((31 : Int64) * v41)] r45.2 _
                    refine g_i2l hC dX8_digest_481 ?_
                    refine g_ladd hC dX8_digest_482 ?_
                    refine g_topl (fun v46 => ?_)
                    show GG x f 5 (Qm x f φLM) 483 [(0, .ref (x.1 37))] [.long v46] r45.2 _
                    refine g_lstore_n hC (lv' := [(0, .ref (x.1 37)), (1, .long v46)]) [1, 0] dX8_digest_483 rfl (by decide) rfl ?_
                    refine g_ldc2 hC (v := (31 : Int64)) m_1335 dX8_digest_484 ?_
                    refine g_lload_n hC 1 dX8_digest_487 rfl rfl ?_
                    refine g_lmul hC dX8_digest_488 ?_
                    refine g_aload_n hC 0 dX8_digest_489 rfl rfl ?_
                    refine g_iconst hC (v := (-1 : Int32)) dX8_digest_490 (by decide) ?_
                    refine g_callv hC (st := [.long ((31 : Int64) * v46)]) (c := 8) rfl (by decide) rfl (ctX8_owedOf x F (-1 : Int32) r45.2) mvX8_owedOf m_1239 (by decide) rfl rfl (Nat.le_of_ble_eq_true rfl) dX8_digest_491 (fun r47 => ?_)
                    show GG x f 5 (Qm x f φLM) 494 [(0, .ref (x.1 37)), (1, .long v46)] [.int (r47.1), .long ((31 : Int64) * v46)] r47.2 _
                    refine g_i2l hC dX8_digest_494 ?_
                    refine g_ladd hC dX8_digest_495 ?_
                    refine g_topl (fun v48 => ?_)
                    show GG x f 5 (Qm x f φLM) 496 [(0, .ref (x.1 37)), (1, .long v46)] [.long v48] r47.2 _
                    refine g_lstore_n hC (lv' := [(0, .ref (x.1 37)), (1, .long v48)]) [1, 0] dX8_digest_496 rfl (by decide) rfl ?_
                    refine g_ldc2 hC (v := (31 : Int64)) m_1335 dX8_digest_497 ?_
                    refine g_lload_n hC 1 dX8_digest_500 rfl rfl ?_
                    refine g_lmul hC dX8_digest_501 ?_
                    refine g_aload_n hC 0 dX8_digest_502 rfl rfl ?_
                    refine g_callv hC (st := [.long ((31 : Int64) * v48)]) (c := 8) rfl (by decide) rfl (ctX8_lackNow x F r47.2) mvX8_lackNow m_1251 (by decide) rfl rfl (Nat.le_of_ble_eq_true rfl) dX8_digest_503 (fun r49 => ?_)
                    show GG x f 5 (Qm x f φLM) 506 [(0, .ref (x.1 37)), (1, .long v48)] [.int (r49.1), .long ((31 : Int64) * v48)] r49.2 _
                    refine g_i2l hC dX8_digest_506 ?_
                    refine g_ladd hC dX8_digest_507 ?_
                    refine g_topl (fun v50 => ?_)
                    show GG x f 5 (Qm x f φLM) 508 [(0, .ref (x.1 37)), (1, .long v48)] [.long v50] r49.2 _
                    refine g_lstore_n hC (lv' := [(0, .ref (x.1 37)), (1, .long v50)]) [1, 0] dX8_digest_508 rfl (by decide) rfl ?_
                    refine g_ldc2 hC (v := (31 : Int64)) m_1335 dX8_digest_509 ?_
                    refine g_lload_n hC 1 dX8_digest_512 rfl rfl ?_
                    refine g_lmul hC dX8_digest_513 ?_
                    refine g_aload_n hC 0 dX8_digest_514 rfl rfl ?_
                    refine g_callv hC (st := [.long ((31 : Int64) * v50)]) (c := 8) rfl (by decide) rfl (ctX8_unaskedNow x F r49.2) mvX8_unaskedNow m_1259 (by decide) rfl rfl (Nat.le_of_ble_eq_true rfl) dX8_digest_515 (fun r51 => ?_)
                    show GG x f 5 (Qm x f φLM) 518 [(0, .ref (x.1 37)), (1, .long v50)] [.int (r51.1), .long ((31 : Int64) * v50)] r51.2 _
                    refine g_i2l hC dX8_digest_518 ?_
                    refine g_ladd hC dX8_digest_519 ?_
                    refine g_topl (fun v52 => ?_)
                    show GG x f 5 (Qm x f φLM) 520 [(0, .ref (x.1 37)), (1, .long v50)] [.long v52] r51.2 _
                    refine g_lstore_n hC (lv' := [(0, .ref (x.1 37)), (1, .long v52)]) [1, 0] dX8_digest_520 rfl (by decide) rfl ?_
                    refine g_ldc2 hC (v := (31 : Int64)) m_1335 dX8_digest_521 ?_
                    refine g_lload_n hC 1 dX8_digest_524 rfl rfl ?_
                    refine g_lmul hC dX8_digest_525 ?_
                    refine g_aload_n hC 0 dX8_digest_526 rfl rfl ?_
                    refine g_iconst hC (v := (0 : Int32)) dX8_digest_527 (by decide) ?_
                    refine g_callv hC (st := [.long ((31 : Int64) * v52)]) (c := 8) rfl (by decide) rfl (ctX8_refusedOf x F (0 : Int32) r51.2) mvX8_refusedOf m_1276 (by decide) rfl rfl (Nat.le_of_ble_eq_true rfl) dX8_digest_528 (fun r53 => ?_)
                    show GG x f 5 (Qm x f φLM) 531 [(0, .ref (x.1 37)), (1, .long v52)] [.int (r53.1), .long ((31 : Int64) * v52)] r53.2 _
                    refine g_i2l hC dX8_digest_531 ?_
                    refine g_ladd hC dX8_digest_532 ?_
                    refine g_topl (fun v54 => ?_)
                    show GG x f 5 (Qm x f φLM) 533 [(0, .ref (x.1 37)), (1, .long v52)] [.long v54] r53.2 _
                    refine g_lstore_n hC (lv' := [(0, .ref (x.1 37)), (1, .long v54)]) [1, 0] dX8_digest_533 rfl (by decide) rfl ?_
                    refine g_ldc2 hC (v := (31 : Int64)) m_1335 dX8_digest_534 ?_
                    refine g_lload_n hC 1 dX8_digest_537 rfl rfl ?_
                    refine g_lmul hC dX8_digest_538 ?_
                    refine g_aload_n hC 0 dX8_digest_539 rfl rfl ?_
                    refine g_iconst hC (v := (1 : Int32)) dX8_digest_540 (by decide) ?_
                    refine g_callv hC (st := [.long ((31 : Int64) * v54)]) (c := 8) rfl (by decide) rfl (ctX8_refusedOf x F (1 : Int32) r53.2) mvX8_refusedOf m_1276 (by decide) rfl rfl (Nat.le_of_ble_eq_true rfl) dX8_digest_541 (fun r55 => ?_)
                    show GG x f 5 (Qm x f φLM) 544 [(0, .ref (x.1 37)), (1, .long v54)] [.int (r55.1), .long ((31 : Int64) * v54)] r55.2 _
                    refine g_i2l hC dX8_digest_544 ?_
                    refine g_ladd hC dX8_digest_545 ?_
                    refine g_topl (fun v56 => ?_)
                    show GG x f 5 (Qm x f φLM) 546 [(0, .ref (x.1 37)), (1, .long v54)] [.long v56] r55.2 _
                    refine g_lstore_n hC (lv' := [(0, .ref (x.1 37)), (1, .long v56)]) [1, 0] dX8_digest_546 rfl (by decide) rfl ?_
                    refine g_ldc2 hC (v := (31 : Int64)) m_1335 dX8_digest_547 ?_
                    refine g_lload_n hC 1 dX8_digest_550 rfl rfl ?_
                    refine g_lmul hC dX8_digest_551 ?_
                    refine g_aload_n hC 0 dX8_digest_552 rfl rfl ?_
                    refine g_bipush hC (v := (7 : Int32)) dX8_digest_553 (by decide) ?_
                    refine g_iconst hC (v := (0 : Int32)) dX8_digest_555 (by decide) ?_
                    refine g_callv hC (st := [.long ((31 : Int64) * v56)]) (c := 8) rfl (by decide) rfl (ctX8_lotOf x F (7 : Int32) (0 : Int32) r55.2) mvX8_lotOf m_1284 (by decide) rfl rfl (Nat.le_of_ble_eq_true rfl) dX8_digest_556 (fun r57 => ?_)
                    show GG x f 5 (Qm x f φLM) 559 [(0, .ref (x.1 37)), (1, .long v56)] [.int (r57.1), .long ((31 : Int64) * v56)] r57.2 _
                    refine g_i2l hC dX8_digest_559 ?_
                    refine g_ladd hC dX8_digest_560 ?_
                    refine g_topl (fun v58 => ?_)
                    show GG x f 5 (Qm x f φLM) 561 [(0, .ref (x.1 37)), (1, .long v56)] [.long v58] r57.2 _
                    refine g_lstore_n hC (lv' := [(0, .ref (x.1 37)), (1, .long v58)]) [1, 0] dX8_digest_561 rfl (by decide) rfl ?_
                    refine g_ldc2 hC (v := (31 : Int64)) m_1335 dX8_digest_562 ?_
                    refine g_lload_n hC 1 dX8_digest_565 rfl rfl ?_
                    refine g_lmul hC dX8_digest_566 ?_
                    refine g_aload_n hC 0 dX8_digest_567 rfl rfl ?_
                    refine g_bipush hC (v := (7 : Int32)) dX8_digest_568 (by decide) ?_
                    refine g_bipush hC (v := (20 : Int32)) dX8_digest_570 (by decide) ?_
                    refine g_callv hC (st := [.long ((31 : Int64) * v58)]) (c := 8) rfl (by decide) rfl (ctX8_lotOf x F (7 : Int32) (20 : Int32) r57.2) mvX8_lotOf m_1284 (by decide) rfl rfl (Nat.le_of_ble_eq_true rfl) dX8_digest_572 (fun r59 => ?_)
                    show GG x f 5 (Qm x f φLM) 575 [(0, .ref (x.1 37)), (1, .long v58)] [.int (r59.1), .long ((31 : Int64) * v58)] r59.2 _
                    refine g_i2l hC dX8_digest_575 ?_
                    refine g_ladd hC dX8_digest_576 ?_
                    exact g_lret hC hm rfl dX8_digest_577
                  refine g_icmp_ne hC 476 dX8_digest_469 (by decide) ?_ ?_
                  · refine g_iload_n hC 2 dX8_digest_476 rfl rfl ?_
                    refine g_lv (lv' := [(0, .ref (x.1 37))]) [0] rfl ?_
                    exact hJ44 r42.1
                  · refine g_iconst hC (v := (0 : Int32)) dX8_digest_472 (by decide) ?_
                    refine g_goto hC 477 dX8_digest_473 (by decide) ?_
                    refine g_lv (lv' := [(0, .ref (x.1 37))]) [0] rfl ?_
                    exact hJ44 (0 : Int32)
                refine g_fx3 (fun (p60 : Int64) (p61 : Int32) (M62 : Mem) => [(0, .ref (x.1 37)), (1, .long p60), (3, .int p61)]) (fun (p60 : Int64) (p61 : Int32) (M62 : Mem) => M62) (fun rec63 hrec63 p60 p61 M62 => ?_) F _ _ _
                show GG x f 5 (Qm x f φLM) 336 [(0, .ref (x.1 37)), (1, .long p60), (3, .int p61)] [] M62 _
                unfold sX8_digest_L336
                refine g_iload_n hC 2 dX8_digest_336 rfl rfl ?_
                refine g_bipush hC (v := (6 : Int32)) dX8_digest_337 (by decide) ?_
                refine g_icmp_ge hC 438 dX8_digest_339 (by decide) ?_ ?_
                · refine g_lv (lv' := [(0, .ref (x.1 37)), (1, .long p60)]) [0, 1] rfl ?_
                  exact hJ39 p60 M62
                · refine g_ldc2 hC (v := (31 : Int64)) m_1335 dX8_digest_342 ?_
                  refine g_lload_n hC 1 dX8_digest_345 rfl rfl ?_
                  refine g_lmul hC dX8_digest_346 ?_
                  refine g_aload_n hC 0 dX8_digest_347 rfl rfl ?_
                  refine g_sipush hC (v := (1023 : Int32)) dX8_digest_348 (by decide) ?_
                  refine g_iload_n hC 2 dX8_digest_351 rfl rfl ?_
                  refine g_bipush hC (v := (20 : Int32)) dX8_digest_352 (by decide) ?_
                  refine g_callv hC (st := [.long ((31 : Int64) * p60)]) (c := 8) rfl (by decide) rfl (ctX8_hadOf x F (1023 : Int32) p61 (20 : Int32) M62) mvX8_hadOf m_1191 (by decide) rfl rfl (Nat.le_of_ble_eq_true rfl) dX8_digest_354 (fun r64 => ?_)
                  show GG x f 5 (Qm x f φLM) 357 [(0, .ref (x.1 37)), (1, .long p60), (3, .int p61)] [.int (r64.1), .long ((31 : Int64) * p60)] r64.2 _
                  refine g_i2l hC dX8_digest_357 ?_
                  refine g_ladd hC dX8_digest_358 ?_
                  refine g_topl (fun v65 => ?_)
                  show GG x f 5 (Qm x f φLM) 359 [(0, .ref (x.1 37)), (1, .long p60), (3, .int p61)] [.long v65] r64.2 _
                  refine g_lstore_n hC (lv' := [(0, .ref (x.1 37)), (1, .long v65), (3, .int p61)]) [1, 0, 2] dX8_digest_359 rfl (by decide) rfl ?_
                  refine g_ldc2 hC (v := (31 : Int64)) m_1335 dX8_digest_360 ?_
                  refine g_lload_n hC 1 dX8_digest_363 rfl rfl ?_
                  refine g_lmul hC dX8_digest_364 ?_
                  refine g_aload_n hC 0 dX8_digest_365 rfl rfl ?_
                  refine g_sipush hC (v := (1023 : Int32)) dX8_digest_366 (by decide) ?_
                  refine g_iload_n hC 2 dX8_digest_369 rfl rfl ?_
                  refine g_bipush hC (v := (20 : Int32)) dX8_digest_370 (by decide) ?_
                  refine g_callv hC (st := [.long ((31 : Int64) * v65)]) (c := 8) rfl (by decide) rfl (ctX8_askedOf x F (1023 : Int32) p61 (20 : Int32) r64.2) mvX8_askedOf m_1199 (by decide) rfl rfl (Nat.le_of_ble_eq_true rfl) dX8_digest_372 (fun r66 => ?_)
                  show GG x f 5 (Qm x f φLM) 375 [(0, .ref (x.1 37)), (1, .long v65), (3, .int p61)] [.int (r66.1), .long ((31 : Int64) * v65)] r66.2 _
                  refine g_i2l hC dX8_digest_375 ?_
                  refine g_ladd hC dX8_digest_376 ?_
                  refine g_topl (fun v67 => ?_)
                  show GG x f 5 (Qm x f φLM) 377 [(0, .ref (x.1 37)), (1, .long v65), (3, .int p61)] [.long v67] r66.2 _
                  refine g_lstore_n hC (lv' := [(0, .ref (x.1 37)), (1, .long v67), (3, .int p61)]) [1, 0, 2] dX8_digest_377 rfl (by decide) rfl ?_
                  refine g_ldc2 hC (v := (31 : Int64)) m_1335 dX8_digest_378 ?_
                  refine g_lload_n hC 1 dX8_digest_381 rfl rfl ?_
                  refine g_lmul hC dX8_digest_382 ?_
                  refine g_aload_n hC 0 dX8_digest_383 rfl rfl ?_
                  refine g_iload_n hC 2 dX8_digest_384 rfl rfl ?_
                  refine g_iconst hC (v := (0 : Int32)) dX8_digest_385 (by decide) ?_
                  refine g_callv hC (st := [.long ((31 : Int64) * v67)]) (c := 8) rfl (by decide) rfl (ctX8_bestOf x F p61 (0 : Int32) r66.2) mvX8_bestOf m_1215 (by decide) rfl rfl (Nat.le_of_ble_eq_true rfl) dX8_digest_386 (fun r68 => ?_)
                  show GG x f 5 (Qm x f φLM) 389 [(0, .ref (x.1 37)), (1, .long v67), (3, .int p61)] [.int (r68.1), .long ((31 : Int64) * v67)] r68.2 _
                  refine g_i2l hC dX8_digest_389 ?_
                  refine g_ladd hC dX8_digest_390 ?_
                  refine g_topl (fun v69 => ?_)
                  show GG x f 5 (Qm x f φLM) 391 [(0, .ref (x.1 37)), (1, .long v67), (3, .int p61)] [.long v69] r68.2 _
                  refine g_lstore_n hC (lv' := [(0, .ref (x.1 37)), (1, .long v69), (3, .int p61)]) [1, 0, 2] dX8_digest_391 rfl (by decide) rfl ?_
                  refine g_ldc2 hC (v := (31 : Int64)) m_1335 dX8_digest_392 ?_
                  refine g_lload_n hC 1 dX8_digest_395 rfl rfl ?_
                  refine g_lmul hC dX8_digest_396 ?_
                  refine g_aload_n hC 0 dX8_digest_397 rfl rfl ?_
                  refine g_iload_n hC 2 dX8_digest_398 rfl rfl ?_
                  refine g_iconst hC (v := (1 : Int32)) dX8_digest_399 (by decide) ?_
                  refine g_callv hC (st := [.long ((31 : Int64) * v69)]) (c := 8) rfl (by decide) rfl (ctX8_bestOf x F p61 (1 : Int32) r68.2) mvX8_bestOf m_1215 (by decide) rfl rfl (Nat.le_of_ble_eq_true rfl) dX8_digest_400 (fun r70 => ?_)
                  show GG x f 5 (Qm x f φLM) 403 [(0, .ref (x.1 37)), (1, .long v69), (3, .int p61)] [.int (r70.1), .long ((31 : Int64) * v69)] r70.2 _
                  refine g_i2l hC dX8_digest_403 ?_
                  refine g_ladd hC dX8_digest_404 ?_
                  refine g_topl (fun v71 => ?_)
                  show GG x f 5 (Qm x f φLM) 405 [(0, .ref (x.1 37)), (1, .long v69), (3, .int p61)] [.long v71] r70.2 _
                  refine g_lstore_n hC (lv' := [(0, .ref (x.1 37)), (1, .long v71), (3, .int p61)]) [1, 0, 2] dX8_digest_405 rfl (by decide) rfl ?_
                  refine g_ldc2 hC (v := (31 : Int64)) m_1335 dX8_digest_406 ?_
                  refine g_lload_n hC 1 dX8_digest_409 rfl rfl ?_
                  refine g_lmul hC dX8_digest_410 ?_
                  refine g_aload_n hC 0 dX8_digest_411 rfl rfl ?_
                  refine g_iload_n hC 2 dX8_digest_412 rfl rfl ?_
                  refine g_callv hC (st := [.long ((31 : Int64) * v71)]) (c := 8) rfl (by decide) rfl (ctX8_owedOf x F p61 r70.2) mvX8_owedOf m_1239 (by decide) rfl rfl (Nat.le_of_ble_eq_true rfl) dX8_digest_413 (fun r72 => ?_)
                  show GG x f 5 (Qm x f φLM) 416 [(0, .ref (x.1 37)), (1, .long v71), (3, .int p61)] [.int (r72.1), .long ((31 : Int64) * v71)] r72.2 _
                  refine g_i2l hC dX8_digest_416 ?_
                  refine g_ladd hC dX8_digest_417 ?_
                  refine g_topl (fun v73 => ?_)
                  show GG x f 5 (Qm x f φLM) 418 [(0, .ref (x.1 37)), (1, .long v71), (3, .int p61)] [.long v73] r72.2 _
                  refine g_lstore_n hC (lv' := [(0, .ref (x.1 37)), (1, .long v73), (3, .int p61)]) [1, 0, 2] dX8_digest_418 rfl (by decide) rfl ?_
                  refine g_ldc2 hC (v := (31 : Int64)) m_1335 dX8_digest_419 ?_
                  refine g_lload_n hC 1 dX8_digest_422 rfl rfl ?_
                  refine g_lmul hC dX8_digest_423 ?_
                  refine g_aload_n hC 0 dX8_digest_424 rfl rfl ?_
                  refine g_iload_n hC 2 dX8_digest_425 rfl rfl ?_
                  refine g_callv hC (st := [.long ((31 : Int64) * v73)]) (c := 8) rfl (by decide) rfl (ctX8_fines x F p61 r72.2) mvX8_fines m_1337 (by decide) rfl rfl (Nat.le_of_ble_eq_true rfl) dX8_digest_426 (fun r74 => ?_)
                  show GG x f 5 (Qm x f φLM) 429 [(0, .ref (x.1 37)), (1, .long v73), (3, .int p61)] [.int (r74.1), .long ((31 : Int64) * v73)] r74.2 _
                  refine g_i2l hC dX8_digest_429 ?_
                  refine g_ladd hC dX8_digest_430 ?_
                  refine g_topl (fun v75 => ?_)
                  show GG x f 5 (Qm x f φLM) 431 [(0, .ref (x.1 37)), (1, .long v73), (3, .int p61)] [.long v75] r74.2 _
                  refine g_lstore_n hC (lv' := [(0, .ref (x.1 37)), (1, .long v75), (3, .int p61)]) [1, 0, 2] dX8_digest_431 rfl (by decide) rfl ?_
                  refine g_iinc hC (q := 2) (v := (1 : Int32)) (lv' := [(0, .ref (x.1 37)), (1, .long v75), (3, .int (p61 + (1 : Int32)))]) [1, 2, 0] dX8_digest_432 rfl (by decide) (by decide) rfl ?_
                  refine g_goto hC 336 dX8_digest_435 (by decide) ?_
                  exact hrec63 v75 (p61 + (1 : Int32)) r74.2
              refine g_fx3 (fun (p76 : Int64) (p77 : Int32) (M78 : Mem) => [(0, .ref (x.1 37)), (1, .long p76), (3, .int p77)]) (fun (p76 : Int64) (p77 : Int32) (M78 : Mem) => M78) (fun rec79 hrec79 p76 p77 M78 => ?_) F _ _ _
              show GG x f 5 (Qm x f φLM) 202 [(0, .ref (x.1 37)), (1, .long p76), (3, .int p77)] [] M78 _
              unfold sX8_digest_L202
              refine g_iload_n hC 2 dX8_digest_202 rfl rfl ?_
              refine g_iconst hC (v := (2 : Int32)) dX8_digest_203 (by decide) ?_
              refine g_icmp_ge hC 226 dX8_digest_204 (by decide) ?_ ?_
              · refine g_lv (lv' := [(0, .ref (x.1 37)), (1, .long p76)]) [0, 1] rfl ?_
                exact hJ20 p76 M78
              · refine g_ldc2 hC (v := (31 : Int64)) m_1335 dX8_digest_207 ?_
                refine g_lload_n hC 1 dX8_digest_210 rfl rfl ?_
                refine g_lmul hC dX8_digest_211 ?_
                refine g_aload_n hC 0 dX8_digest_212 rfl rfl ?_
                refine g_iload_n hC 2 dX8_digest_213 rfl rfl ?_
                refine g_callv hC (st := [.long ((31 : Int64) * p76)]) (c := 8) rfl (by decide) rfl (ctX8_freedOf x F p77 M78) mvX8_freedOf m_1133 (by decide) rfl rfl (Nat.le_of_ble_eq_true rfl) dX8_digest_214 (fun r80 => ?_)
                show GG x f 5 (Qm x f φLM) 217 [(0, .ref (x.1 37)), (1, .long p76), (3, .int p77)] [.int (r80.1), .long ((31 : Int64) * p76)] r80.2 _
                refine g_i2l hC dX8_digest_217 ?_
                refine g_ladd hC dX8_digest_218 ?_
                refine g_topl (fun v81 => ?_)
                show GG x f 5 (Qm x f φLM) 219 [(0, .ref (x.1 37)), (1, .long p76), (3, .int p77)] [.long v81] r80.2 _
                refine g_lstore_n hC (lv' := [(0, .ref (x.1 37)), (1, .long v81), (3, .int p77)]) [1, 0, 2] dX8_digest_219 rfl (by decide) rfl ?_
                refine g_iinc hC (q := 2) (v := (1 : Int32)) (lv' := [(0, .ref (x.1 37)), (1, .long v81), (3, .int (p77 + (1 : Int32)))]) [1, 2, 0] dX8_digest_220 rfl (by decide) (by decide) rfl ?_
                refine g_goto hC 202 dX8_digest_223 (by decide) ?_
                exact hrec79 v81 (p77 + (1 : Int32)) r80.2
            refine g_fx3 (fun (p82 : Int64) (p83 : Int32) (M84 : Mem) => [(0, .ref (x.1 37)), (1, .long p82), (3, .int p83)]) (fun (p82 : Int64) (p83 : Int32) (M84 : Mem) => M84) (fun rec85 hrec85 p82 p83 M84 => ?_) F _ _ _
            show GG x f 5 (Qm x f φLM) 176 [(0, .ref (x.1 37)), (1, .long p82), (3, .int p83)] [] M84 _
            unfold sX8_digest_L176
            refine g_iload_n hC 2 dX8_digest_176 rfl rfl ?_
            refine g_iconst hC (v := (2 : Int32)) dX8_digest_177 (by decide) ?_
            refine g_icmp_ge hC 200 dX8_digest_178 (by decide) ?_ ?_
            · refine g_lv (lv' := [(0, .ref (x.1 37)), (1, .long p82)]) [0, 1] rfl ?_
              exact hJ17 p82 M84
            · refine g_ldc2 hC (v := (31 : Int64)) m_1335 dX8_digest_181 ?_
              refine g_lload_n hC 1 dX8_digest_184 rfl rfl ?_
              refine g_lmul hC dX8_digest_185 ?_
              refine g_aload_n hC 0 dX8_digest_186 rfl rfl ?_
              refine g_iload_n hC 2 dX8_digest_187 rfl rfl ?_
              refine g_callv hC (st := [.long ((31 : Int64) * p82)]) (c := 8) rfl (by decide) rfl (ctX8_cannotOf x F p83 M84) mvX8_cannotOf m_1122 (by decide) rfl rfl (Nat.le_of_ble_eq_true rfl) dX8_digest_188 (fun r86 => ?_)
              show GG x f 5 (Qm x f φLM) 191 [(0, .ref (x.1 37)), (1, .long p82), (3, .int p83)] [.int (r86.1), .long ((31 : Int64) * p82)] r86.2 _
              refine g_i2l hC dX8_digest_191 ?_
              refine g_ladd hC dX8_digest_192 ?_
              refine g_topl (fun v87 => ?_)
              show GG x f 5 (Qm x f φLM) 193 [(0, .ref (x.1 37)), (1, .long p82), (3, .int p83)] [.long v87] r86.2 _
              refine g_lstore_n hC (lv' := [(0, .ref (x.1 37)), (1, .long v87), (3, .int p83)]) [1, 0, 2] dX8_digest_193 rfl (by decide) rfl ?_
              refine g_iinc hC (q := 2) (v := (1 : Int32)) (lv' := [(0, .ref (x.1 37)), (1, .long v87), (3, .int (p83 + (1 : Int32)))]) [1, 2, 0] dX8_digest_194 rfl (by decide) (by decide) rfl ?_
              refine g_goto hC 176 dX8_digest_197 (by decide) ?_
              exact hrec85 v87 (p83 + (1 : Int32)) r86.2
          refine g_fx3 (fun (p88 : Int64) (p89 : Int32) (M90 : Mem) => [(0, .ref (x.1 37)), (1, .long p88), (3, .int p89)]) (fun (p88 : Int64) (p89 : Int32) (M90 : Mem) => M90) (fun rec91 hrec91 p88 p89 M90 => ?_) F _ _ _
          show GG x f 5 (Qm x f φLM) 150 [(0, .ref (x.1 37)), (1, .long p88), (3, .int p89)] [] M90 _
          unfold sX8_digest_L150
          refine g_iload_n hC 2 dX8_digest_150 rfl rfl ?_
          refine g_iconst hC (v := (2 : Int32)) dX8_digest_151 (by decide) ?_
          refine g_icmp_ge hC 174 dX8_digest_152 (by decide) ?_ ?_
          · refine g_lv (lv' := [(0, .ref (x.1 37)), (1, .long p88)]) [0, 1] rfl ?_
            exact hJ14 p88 M90
          · refine g_ldc2 hC (v := (31 : Int64)) m_1335 dX8_digest_155 ?_
            refine g_lload_n hC 1 dX8_digest_158 rfl rfl ?_
            refine g_lmul hC dX8_digest_159 ?_
            refine g_aload_n hC 0 dX8_digest_160 rfl rfl ?_
            refine g_iload_n hC 2 dX8_digest_161 rfl rfl ?_
            refine g_callv hC (st := [.long ((31 : Int64) * p88)]) (c := 8) rfl (by decide) rfl (ctX8_sureOf x F p89 M90) mvX8_sureOf m_1114 (by decide) rfl rfl (Nat.le_of_ble_eq_true rfl) dX8_digest_162 (fun r92 => ?_)
            show GG x f 5 (Qm x f φLM) 165 [(0, .ref (x.1 37)), (1, .long p88), (3, .int p89)] [.int (r92.1), .long ((31 : Int64) * p88)] r92.2 _
            refine g_i2l hC dX8_digest_165 ?_
            refine g_ladd hC dX8_digest_166 ?_
            refine g_topl (fun v93 => ?_)
            show GG x f 5 (Qm x f φLM) 167 [(0, .ref (x.1 37)), (1, .long p88), (3, .int p89)] [.long v93] r92.2 _
            refine g_lstore_n hC (lv' := [(0, .ref (x.1 37)), (1, .long v93), (3, .int p89)]) [1, 0, 2] dX8_digest_167 rfl (by decide) rfl ?_
            refine g_iinc hC (q := 2) (v := (1 : Int32)) (lv' := [(0, .ref (x.1 37)), (1, .long v93), (3, .int (p89 + (1 : Int32)))]) [1, 2, 0] dX8_digest_168 rfl (by decide) (by decide) rfl ?_
            refine g_goto hC 150 dX8_digest_171 (by decide) ?_
            exact hrec91 v93 (p89 + (1 : Int32)) r92.2
        refine g_fx3 (fun (p94 : Int64) (p95 : Int32) (M96 : Mem) => [(0, .ref (x.1 37)), (1, .long p94), (3, .int p95)]) (fun (p94 : Int64) (p95 : Int32) (M96 : Mem) => M96) (fun rec97 hrec97 p94 p95 M96 => ?_) F _ _ _
        show GG x f 5 (Qm x f φLM) 124 [(0, .ref (x.1 37)), (1, .long p94), (3, .int p95)] [] M96 _
        unfold sX8_digest_L124
        refine g_iload_n hC 2 dX8_digest_124 rfl rfl ?_
        refine g_iconst hC (v := (2 : Int32)) dX8_digest_125 (by decide) ?_
        refine g_icmp_ge hC 148 dX8_digest_126 (by decide) ?_ ?_
        · refine g_lv (lv' := [(0, .ref (x.1 37)), (1, .long p94)]) [0, 1] rfl ?_
          exact hJ11 p94 M96
        · refine g_ldc2 hC (v := (31 : Int64)) m_1335 dX8_digest_129 ?_
          refine g_lload_n hC 1 dX8_digest_132 rfl rfl ?_
          refine g_lmul hC dX8_digest_133 ?_
          refine g_aload_n hC 0 dX8_digest_134 rfl rfl ?_
          refine g_iload_n hC 2 dX8_digest_135 rfl rfl ?_
          refine g_callv hC (st := [.long ((31 : Int64) * p94)]) (c := 8) rfl (by decide) rfl (ctX8_rowsOf x F p95 M96) mvX8_rowsOf m_1106 (by decide) rfl rfl (Nat.le_of_ble_eq_true rfl) dX8_digest_136 (fun r98 => ?_)
          show GG x f 5 (Qm x f φLM) 139 [(0, .ref (x.1 37)), (1, .long p94), (3, .int p95)] [.int (r98.1), .long ((31 : Int64) * p94)] r98.2 _
          refine g_i2l hC dX8_digest_139 ?_
          refine g_ladd hC dX8_digest_140 ?_
          refine g_topl (fun v99 => ?_)
          show GG x f 5 (Qm x f φLM) 141 [(0, .ref (x.1 37)), (1, .long p94), (3, .int p95)] [.long v99] r98.2 _
          refine g_lstore_n hC (lv' := [(0, .ref (x.1 37)), (1, .long v99), (3, .int p95)]) [1, 0, 2] dX8_digest_141 rfl (by decide) rfl ?_
          refine g_iinc hC (q := 2) (v := (1 : Int32)) (lv' := [(0, .ref (x.1 37)), (1, .long v99), (3, .int (p95 + (1 : Int32)))]) [1, 2, 0] dX8_digest_142 rfl (by decide) (by decide) rfl ?_
          refine g_goto hC 124 dX8_digest_145 (by decide) ?_
          exact hrec97 v99 (p95 + (1 : Int32)) r98.2
      refine g_fx2 (fun (p100 : Int64) (p101 : Int32) => [(0, .ref (x.1 37)), (1, .long p100), (3, .int p101)]) (fun (p100 : Int64) (p101 : Int32) => M5) (fun rec102 hrec102 p100 p101 => ?_) F _ _
      show GG x f 5 (Qm x f φLM) 59 [(0, .ref (x.1 37)), (1, .long p100), (3, .int p101)] [] M5 _
      unfold sX8_digest_L59
      refine g_iload_n hC 2 dX8_digest_59 rfl rfl ?_
      refine g_aload_n hC 0 dX8_digest_60 rfl rfl ?_
      refine g_getI hC cf8 rfl 2 (by decide) rfl m_911 dX8_digest_61 ?_
      refine g_icmp_ge hC 122 dX8_digest_64 (by decide) ?_ ?_
      · refine g_lv (lv' := [(0, .ref (x.1 37)), (1, .long p100)]) [0, 1] rfl ?_
        exact hJ8 p100
      · refine g_iconst hC (v := (0 : Int32)) dX8_digest_67 (by decide) ?_
        refine g_istore hC (lv' := [(0, .ref (x.1 37)), (1, .long p100), (3, .int p101), (4, .int (0 : Int32))]) [1, 2, 3, 0] dX8_digest_68 (by decide) rfl ?_
        refine g_nm (fun (J104 : Int64 → Option (Int64 × Mem)) => ∀ (p103 : Int64), GG x f 5 (Qm x f φLM) 103 [(0, .ref (x.1 37)), (1, .long p103), (3, .int p101)] [] M5 (J104 p103)) (fun p103 => ?_) (fun J104 hJ104 => ?_)
        · show GG x f 5 (Qm x f φLM) 103 [(0, .ref (x.1 37)), (1, .long p103), (3, .int p101)] [] M5 _
          refine g_ldc2 hC (v := (31 : Int64)) m_1335 dX8_digest_103 ?_
          refine g_lload_n hC 1 dX8_digest_106 rfl rfl ?_
          refine g_lmul hC dX8_digest_107 ?_
          refine g_aload_n hC 0 dX8_digest_108 rfl rfl ?_
          refine g_iload_n hC 2 dX8_digest_109 rfl rfl ?_
          refine g_callv hC (st := [.long ((31 : Int64) * p103)]) (c := 8) rfl (by decide) rfl (ctX8_hangsOf x F p101 M5) mvX8_hangsOf m_1165 (by decide) rfl rfl (Nat.le_of_ble_eq_true rfl) dX8_digest_110 (fun r105 => ?_)
          show GG x f 5 (Qm x f φLM) 113 [(0, .ref (x.1 37)), (1, .long p103), (3, .int p101)] [.int r105, .long ((31 : Int64) * p103)] M5 _
          refine g_i2l hC dX8_digest_113 ?_
          refine g_ladd hC dX8_digest_114 ?_
          refine g_topl (fun v106 => ?_)
          show GG x f 5 (Qm x f φLM) 115 [(0, .ref (x.1 37)), (1, .long p103), (3, .int p101)] [.long v106] M5 _
          refine g_lstore_n hC (lv' := [(0, .ref (x.1 37)), (1, .long v106), (3, .int p101)]) [1, 0, 2] dX8_digest_115 rfl (by decide) rfl ?_
          refine g_iinc hC (q := 2) (v := (1 : Int32)) (lv' := [(0, .ref (x.1 37)), (1, .long v106), (3, .int (p101 + (1 : Int32)))]) [1, 2, 0] dX8_digest_116 rfl (by decide) (by decide) rfl ?_
          refine g_goto hC 59 dX8_digest_119 (by decide) ?_
          exact hrec102 v106 (p101 + (1 : Int32))
        refine g_fx2 (fun (p107 : Int64) (p108 : Int32) => [(0, .ref (x.1 37)), (1, .long p107), (3, .int p101), (4, .int p108)]) (fun (p107 : Int64) (p108 : Int32) => M5) (fun rec109 hrec109 p107 p108 => ?_) F _ _
        show GG x f 5 (Qm x f φLM) 70 [(0, .ref (x.1 37)), (1, .long p107), (3, .int p101), (4, .int p108)] [] M5 _
        unfold sX8_digest_L70
        refine g_iload hC 3 dX8_digest_70 rfl ?_
        refine g_bipush hC (v := (6 : Int32)) dX8_digest_72 (by decide) ?_
        refine g_icmp_ge hC 103 dX8_digest_74 (by decide) ?_ ?_
        · refine g_lv (lv' := [(0, .ref (x.1 37)), (1, .long p107), (3, .int p101)]) [0, 1, 2] rfl ?_
          exact hJ104 p107
        · refine g_ldc2 hC (v := (31 : Int64)) m_1335 dX8_digest_77 ?_
          refine g_lload_n hC 1 dX8_digest_80 rfl rfl ?_
          refine g_lmul hC dX8_digest_81 ?_
          refine g_aload_n hC 0 dX8_digest_82 rfl rfl ?_
          refine g_getR hC cf8 (t := 40) rfl 3 (by decide) rfl m_912 dX8_digest_83 ?_
          refine g_bipush hC (v := (6 : Int32)) dX8_digest_86 (by decide) ?_
          refine g_iload_n hC 2 dX8_digest_88 rfl rfl ?_
          refine g_imul hC dX8_digest_89 ?_
          refine g_iload hC 3 dX8_digest_90 rfl ?_
          refine g_iadd hC dX8_digest_92 ?_
          refine g_iald hC rfl rfl dX8_digest_93 ?_
          refine g_i2l hC dX8_digest_94 ?_
          refine g_ladd hC dX8_digest_95 ?_
          refine g_topl (fun v110 => ?_)
          show GG x f 5 (Qm x f φLM) 96 [(0, .ref (x.1 37)), (1, .long p107), (3, .int p101), (4, .int p108)] [.long v110] M5 _
          refine g_lstore_n hC (lv' := [(0, .ref (x.1 37)), (1, .long v110), (3, .int p101), (4, .int p108)]) [1, 0, 2, 3] dX8_digest_96 rfl (by decide) rfl ?_
          refine g_iinc hC (q := 3) (v := (1 : Int32)) (lv' := [(0, .ref (x.1 37)), (1, .long v110), (3, .int p101), (4, .int (p108 + (1 : Int32)))]) [1, 2, 3, 0] dX8_digest_97 rfl (by decide) (by decide) rfl ?_
          refine g_goto hC 70 dX8_digest_100 (by decide) ?_
          exact hrec109 v110 (p108 + (1 : Int32))
    refine g_fx3 (fun (p111 : Int64) (p112 : Int32) (M113 : Mem) => [(0, .ref (x.1 37)), (1, .long p111), (3, .int p112)]) (fun (p111 : Int64) (p112 : Int32) (M113 : Mem) => M113) (fun rec114 hrec114 p111 p112 M113 => ?_) F _ _ _
    show GG x f 5 (Qm x f φLM) 33 [(0, .ref (x.1 37)), (1, .long p111), (3, .int p112)] [] M113 _
    unfold sX8_digest_L33
    refine g_iload_n hC 2 dX8_digest_33 rfl rfl ?_
    refine g_iconst hC (v := (3 : Int32)) dX8_digest_34 (by decide) ?_
    refine g_icmp_ge hC 57 dX8_digest_35 (by decide) ?_ ?_
    · refine g_lv (lv' := [(0, .ref (x.1 37)), (1, .long p111)]) [0, 1] rfl ?_
      exact hJ6 p111 M113
    · refine g_ldc2 hC (v := (31 : Int64)) m_1335 dX8_digest_38 ?_
      refine g_lload_n hC 1 dX8_digest_41 rfl rfl ?_
      refine g_lmul hC dX8_digest_42 ?_
      refine g_aload_n hC 0 dX8_digest_43 rfl rfl ?_
      refine g_iload_n hC 2 dX8_digest_44 rfl rfl ?_
      refine g_callv hC (st := [.long ((31 : Int64) * p111)]) (c := 8) rfl (by decide) rfl (ctX8_faultOf x F p112 M113) mvX8_faultOf m_1002 (by decide) rfl rfl (Nat.le_of_ble_eq_true rfl) dX8_digest_45 (fun r115 => ?_)
      show GG x f 5 (Qm x f φLM) 48 [(0, .ref (x.1 37)), (1, .long p111), (3, .int p112)] [.int (r115.1), .long ((31 : Int64) * p111)] r115.2 _
      refine g_i2l hC dX8_digest_48 ?_
      refine g_ladd hC dX8_digest_49 ?_
      refine g_topl (fun v116 => ?_)
      show GG x f 5 (Qm x f φLM) 50 [(0, .ref (x.1 37)), (1, .long p111), (3, .int p112)] [.long v116] r115.2 _
      refine g_lstore_n hC (lv' := [(0, .ref (x.1 37)), (1, .long v116), (3, .int p112)]) [1, 0, 2] dX8_digest_50 rfl (by decide) rfl ?_
      refine g_iinc hC (q := 2) (v := (1 : Int32)) (lv' := [(0, .ref (x.1 37)), (1, .long v116), (3, .int (p112 + (1 : Int32)))]) [1, 2, 0] dX8_digest_51 rfl (by decide) (by decide) rfl ?_
      refine g_goto hC 33 dX8_digest_54 (by decide) ?_
      exact hrec114 v116 (p112 + (1 : Int32)) r115.2
  refine g_fx3 (fun (p117 : Int64) (p118 : Int32) (M119 : Mem) => [(0, .ref (x.1 37)), (1, .long p117), (3, .int p118)]) (fun (p117 : Int64) (p118 : Int32) (M119 : Mem) => M119) (fun rec120 hrec120 p117 p118 M119 => ?_) F _ _ _
  show GG x f 5 (Qm x f φLM) 6 [(0, .ref (x.1 37)), (1, .long p117), (3, .int p118)] [] M119 _
  unfold sX8_digest_L6
  refine g_iload_n hC 2 dX8_digest_6 rfl rfl ?_
  refine g_bipush hC (v := (8 : Int32)) dX8_digest_7 (by decide) ?_
  refine g_icmp_ge hC 31 dX8_digest_9 (by decide) ?_ ?_
  · refine g_lv (lv' := [(0, .ref (x.1 37)), (1, .long p117)]) [0, 1] rfl ?_
    exact hJ3 p117 M119
  · refine g_ldc2 hC (v := (31 : Int64)) m_1335 dX8_digest_12 ?_
    refine g_lload_n hC 1 dX8_digest_15 rfl rfl ?_
    refine g_lmul hC dX8_digest_16 ?_
    refine g_aload_n hC 0 dX8_digest_17 rfl rfl ?_
    refine g_iload_n hC 2 dX8_digest_18 rfl rfl ?_
    refine g_callv hC (st := [.long ((31 : Int64) * p117)]) (c := 8) rfl (by decide) rfl (ctX8_count x F p118 M119) mvX8_count m_1336 (by decide) rfl rfl (Nat.le_of_ble_eq_true rfl) dX8_digest_19 (fun r121 => ?_)
    show GG x f 5 (Qm x f φLM) 22 [(0, .ref (x.1 37)), (1, .long p117), (3, .int p118)] [.int (r121.1), .long ((31 : Int64) * p117)] r121.2 _
    refine g_i2l hC dX8_digest_22 ?_
    refine g_ladd hC dX8_digest_23 ?_
    refine g_topl (fun v122 => ?_)
    show GG x f 5 (Qm x f φLM) 24 [(0, .ref (x.1 37)), (1, .long p117), (3, .int p118)] [.long v122] r121.2 _
    refine g_lstore_n hC (lv' := [(0, .ref (x.1 37)), (1, .long v122), (3, .int p118)]) [1, 0, 2] dX8_digest_24 rfl (by decide) rfl ?_
    refine g_iinc hC (q := 2) (v := (1 : Int32)) (lv' := [(0, .ref (x.1 37)), (1, .long v122), (3, .int (p118 + (1 : Int32)))]) [1, 2, 0] dX8_digest_25 rfl (by decide) (by decide) rfl ?_
    refine g_goto hC 6 dX8_digest_28 (by decide) ?_
    exact hrec120 v122 (p118 + (1 : Int32)) r121.2
