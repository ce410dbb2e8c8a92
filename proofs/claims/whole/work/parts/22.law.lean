theorem q_out39 {v : Int32} (h0 : ¬ v = 0) (h1 : ¬ v = 1) (h2 : ¬ v = 2) (h3 : ¬ v = 3) (h4 : ¬ v = 4) (h5 : ¬ v = 5) (h6 : ¬ v = 6) (h7 : ¬ v = 7) (h8 : ¬ v = 8) (h9 : ¬ v = 9) (h10 : ¬ v = 10) (h11 : ¬ v = 11) (h12 : ¬ v = 12) (h13 : ¬ v = 13) (h14 : ¬ v = 14) (h15 : ¬ v = 15) (h16 : ¬ v = 16) (h17 : ¬ v = 17) (h18 : ¬ v = 18) (h19 : ¬ v = 19) (h20 : ¬ v = 20) (h21 : ¬ v = 21) (h22 : ¬ v = 22) (h23 : ¬ v = 23) (h24 : ¬ v = 24) (h25 : ¬ v = 25) (h26 : ¬ v = 26) (h27 : ¬ v = 27) (h28 : ¬ v = 28) (h29 : ¬ v = 29) (h30 : ¬ v = 30) (h31 : ¬ v = 31) (h32 : ¬ v = 32) (h33 : ¬ v = 33) (h34 : ¬ v = 34) (h35 : ¬ v = 35) (h36 : ¬ v = 36) (h37 : ¬ v = 37) (h38 : ¬ v = 38) : v.toInt < 0 ∨ 38 < v.toInt := by
  have a0 : ¬ v.toInt = 0 := q_tne h0
  have a1 : ¬ v.toInt = 1 := q_tne h1
  have a2 : ¬ v.toInt = 2 := q_tne h2
  have a3 : ¬ v.toInt = 3 := q_tne h3
  have a4 : ¬ v.toInt = 4 := q_tne h4
  have a5 : ¬ v.toInt = 5 := q_tne h5
  have a6 : ¬ v.toInt = 6 := q_tne h6
  have a7 : ¬ v.toInt = 7 := q_tne h7
  have a8 : ¬ v.toInt = 8 := q_tne h8
  have a9 : ¬ v.toInt = 9 := q_tne h9
  have a10 : ¬ v.toInt = 10 := q_tne h10
  have a11 : ¬ v.toInt = 11 := q_tne h11
  have a12 : ¬ v.toInt = 12 := q_tne h12
  have a13 : ¬ v.toInt = 13 := q_tne h13
  have a14 : ¬ v.toInt = 14 := q_tne h14
  have a15 : ¬ v.toInt = 15 := q_tne h15
  have a16 : ¬ v.toInt = 16 := q_tne h16
  have a17 : ¬ v.toInt = 17 := q_tne h17
  have a18 : ¬ v.toInt = 18 := q_tne h18
  have a19 : ¬ v.toInt = 19 := q_tne h19
  have a20 : ¬ v.toInt = 20 := q_tne h20
  have a21 : ¬ v.toInt = 21 := q_tne h21
  have a22 : ¬ v.toInt = 22 := q_tne h22
  have a23 : ¬ v.toInt = 23 := q_tne h23
  have a24 : ¬ v.toInt = 24 := q_tne h24
  have a25 : ¬ v.toInt = 25 := q_tne h25
  have a26 : ¬ v.toInt = 26 := q_tne h26
  have a27 : ¬ v.toInt = 27 := q_tne h27
  have a28 : ¬ v.toInt = 28 := q_tne h28
  have a29 : ¬ v.toInt = 29 := q_tne h29
  have a30 : ¬ v.toInt = 30 := q_tne h30
  have a31 : ¬ v.toInt = 31 := q_tne h31
  have a32 : ¬ v.toInt = 32 := q_tne h32
  have a33 : ¬ v.toInt = 33 := q_tne h33
  have a34 : ¬ v.toInt = 34 := q_tne h34
  have a35 : ¬ v.toInt = 35 := q_tne h35
  have a36 : ¬ v.toInt = 36 := q_tne h36
  have a37 : ¬ v.toInt = 37 := q_tne h37
  have a38 : ¬ v.toInt = 38 := q_tne h38
  omega
section EqRow
variable {β : Type} {x : Wx} {f : Fx} {own : String} {cc : ByteArray} {nL : Nat} {R : Room} {Qf : β → State → Prop} {pc : Nat} {lv : List (Nat × Value)} {st : List Value} {M : Mem} {o : Option β}
theorem g_lcmp_eq {o1 o2 : Option β} (hC : Cx x f own cc nL R) {a b : Int64} {off : Int} (tgt : Nat) (hd : decode cc pc = .ok (.lcmp, 1)) (hd2 : decode cc (pc + 1) = .ok (.ifCond .eq off, 3)) (ht : ((pc + 1 : Nat) : Int) + off = (tgt : Int)) (k1 : GG x f nL Qf tgt lv st M o1) (k2 : GG x f nL Qf (pc + 1 + 3) lv st M o2) : GG x f nL Qf pc lv (.long b :: .long a :: st) M (if a = b then o1 else o2) := by
  intro r hr H locs ls hW hS hl
  refine W.lcmp hC.1 hC.2.1 hd ?_
  have e := lg_cmp_eq a b
  exact lv_if_eq hC.1 hC.2.1 hd2 ht (fun h => k1 r (by rw [if_pos (e.mp h)] at hr; exact hr) H locs ls hW hS hl) (fun h => k2 r (by rw [if_neg (fun z => h (e.mpr z))] at hr; exact hr) H locs ls hW hS hl)
end EqRow
def Ql (f : Fx) : Unit → State → Prop := fun _ => lw_Z (fB f) (fV f) (fS f)
section LawRows
variable {β : Type} {x : Wx} {f : Fx} {own : String} {cc : ByteArray} {nL : Nat} {R : Room} {Qf : β → State → Prop} {pc : Nat} {lv : List (Nat × Value)} {st : List Value} {M : Mem} {o : Option β} {b L : Nat} {xs : Nat → Int32}
theorem g_sld (hC : Cx x f own cc nL R) (hX : va_X b L xs (fS f) (fS f).heap) (hbl : b < (fS f).heap.size) (hbA : ¬ fA f b) {i : Int32} (hd : decode cc pc = .ok (.iaload, 1)) (kk : GG x f nL Qf (pc + 1) lv (.int (xs (ix i)) :: st) M o) : GG x f nL Qf pc lv (.int i :: .ref b :: st) M (ib i L o) := by
  intro r h H locs ls hW hS hl
  unfold ib at h
  by_cases hi : inb i L = true
  · rw [if_pos hi] at h
    exact va_sld hC.1 hC.2.1 hX hbl hbA hS (inb_iff.mp hi) hd (kk r h H locs ls hW hS hl)
  · rw [if_neg hi] at h; cases h
theorem g_slen (hC : Cx x f own cc nL R) (hX : va_X b L xs (fS f) (fS f).heap) (hbl : b < (fS f).heap.size) (hbA : ¬ fA f b) (hd : decode cc pc = .ok (.arraylength, 1)) (kk : GG x f nL Qf (pc + 1) lv (.int (Int32.ofNat L) :: st) M o) : GG x f nL Qf pc lv (.ref b :: st) M o :=
  fun r h H locs ls hW hS hl => va_slen hC.1 hC.2.1 hX hbl hbA hS hd (kk r h H locs ls hW hS hl)
theorem g_lawret (hC : Cx x f own code nL room_1) (hfa : fA f = fun q => (fS f).heap.size ≤ q) (hfv : fV f = #[Value.ref b]) (hlr : (fT f).sig.returnType = ret) (hd : decode code pc = .ok (.ireturn, 1)) : GG x f nL (Ql f) pc lv [.int 1] M (some ()) := by
  intro r hr H locs ls hW hS hl
  have hfo : ∀ q ∈ locs, (fS f).heap.size ≤ q.base := fun q hq => by have h2 := hS.2.2 q hq; rw [hfa] at h2; exact h2
  obtain ⟨p, l, e, R, s, m, args, below, meth, c, A, ck, cn⟩ := f
  have hR := hC.2.2.2.2.2.2.2.2.2.1
  have hK := hC.2.2.2.2.2.2.2.2.2.2.2
  have hfv : args = #[Value.ref b] := hfv
  have hR : R = room_1 := hR
  have hlr : meth.sig.returnType = ret := hlr
  subst hfv
  subst hR
  refine va_forget hfo ?_
  refine W.widen (k := 600000) (n := 7302250) hK.1 hK.2 ?_
  exact lw_ret hC.1 hC.2.1 hlr hC.2.2.2.2.2.2.2.2.2.2.1 hd
end LawRows
def sL_law_L18 (F : Nat) (L : Nat) (xs : Nat → Int32) (rec3 : Int32 → Mem → Option Unit) (p1 : Int32) (M2 : Mem) : Option Unit :=
if ((Int32.ofNat L) - (6 : Int32)) < p1 then
(some ())
else
(ib p1 L (
nm (fun (M4 : Mem) =>
rec3 (p1 + (6 : Int32)) M4) (fun J5 =>
nm ((xs (ix p1)) &&& (63 : Int32)) (fun v6 =>
if v6 = (0 : Int32) then
(ib (p1 + (1 : Int32)) L (
ib (p1 + (2 : Int32)) L (
(sX7_type F (xs (ix (p1 + (1 : Int32)))) (xs (ix (p1 + (2 : Int32)))) M2).bind (fun r7 =>
ib (p1 + (1 : Int32)) L (
ib (p1 + (2 : Int32)) L (
(sX8_type F (xs (ix (p1 + (1 : Int32)))) (xs (ix (p1 + (2 : Int32)))) r7.2).bind (fun r8 =>
if r7.1 = r8.1 then
(J5 r8.2)
else
(none))))))))
else if v6 = (1 : Int32) then
(ib (p1 + (1 : Int32)) L (
(sX7_wipe F (xs (ix (p1 + (1 : Int32)))) M2).bind (fun r9 =>
ib (p1 + (1 : Int32)) L (
(sX8_wipe F (xs (ix (p1 + (1 : Int32)))) r9.2).bind (fun r10 =>
if r9.1 = r10.1 then
(J5 r10.2)
else
(none))))))
else if v6 = (2 : Int32) then
(ib (p1 + (1 : Int32)) L (
(sX7_undo F (xs (ix (p1 + (1 : Int32)))) M2).bind (fun r11 =>
ib (p1 + (1 : Int32)) L (
(sX8_undo F (xs (ix (p1 + (1 : Int32)))) r11.2).bind (fun r12 =>
if r11.1 = r12.1 then
(J5 r12.2)
else
(none))))))
else if v6 = (3 : Int32) then
(ib (p1 + (1 : Int32)) L (
(sX7_fault F (xs (ix (p1 + (1 : Int32)))) M2).bind (fun r13 =>
ib (p1 + (1 : Int32)) L (
(sX8_fault F (xs (ix (p1 + (1 : Int32)))) M2).bind (fun r14 =>
if r13 = r14.1 then
(J5 r14.2)
else
(none))))))
else if v6 = (4 : Int32) then
(ib (p1 + (1 : Int32)) L (
ib (p1 + (2 : Int32)) L (
(sX7_matter F (xs (ix (p1 + (1 : Int32)))) (xs (ix (p1 + (2 : Int32)))) M2).bind (fun r15 =>
ib (p1 + (1 : Int32)) L (
ib (p1 + (2 : Int32)) L (
(sX8_matter F (xs (ix (p1 + (1 : Int32)))) (xs (ix (p1 + (2 : Int32)))) M2).bind (fun r16 =>
if r15 = r16.1 then
(J5 r16.2)
else
(none))))))))
else if v6 = (5 : Int32) then
(ib (p1 + (1 : Int32)) L (
ib (p1 + (2 : Int32)) L (
(sX7_set F (xs (ix (p1 + (1 : Int32)))) (xs (ix (p1 + (2 : Int32)))) M2).bind (fun r17 =>
ib (p1 + (1 : Int32)) L (
ib (p1 + (2 : Int32)) L (
(sX8_set F (xs (ix (p1 + (1 : Int32)))) (xs (ix (p1 + (2 : Int32)))) r17.2).bind (fun r18 =>
if r17.1 = r18.1 then
(J5 r18.2)
else
(none))))))))
else if v6 = (6 : Int32) then
(ib (p1 + (1 : Int32)) L (
ib (p1 + (2 : Int32)) L (
(sX7_worth F (xs (ix (p1 + (1 : Int32)))) (xs (ix (p1 + (2 : Int32)))) M2).bind (fun r19 =>
ib (p1 + (1 : Int32)) L (
ib (p1 + (2 : Int32)) L (
(sX8_worth F (xs (ix (p1 + (1 : Int32)))) (xs (ix (p1 + (2 : Int32)))) r19.2).bind (fun r20 =>
if r19.1 = r20.1 then
(J5 r20.2)
else
(none))))))))
else if v6 = (7 : Int32) then
(ib (p1 + (1 : Int32)) L (
(sX7_read F (xs (ix (p1 + (1 : Int32)))) M2).bind (fun r21 =>
ib (p1 + (1 : Int32)) L (
(sX8_read F (xs (ix (p1 + (1 : Int32)))) r21.2).bind (fun r22 =>
if r21.1 = r22.1 then
(J5 r22.2)
else
(none))))))
else if v6 = (8 : Int32) then
(ib (p1 + (1 : Int32)) L (
(sX7_rows F (xs (ix (p1 + (1 : Int32)))) M2).bind (fun r23 =>
ib (p1 + (1 : Int32)) L (
(sX8_rows F (xs (ix (p1 + (1 : Int32)))) r23.2).bind (fun r24 =>
if r23.1 = r24.1 then
(J5 r24.2)
else
(none))))))
else if v6 = (9 : Int32) then
(ib (p1 + (1 : Int32)) L (
(sX7_sure F (xs (ix (p1 + (1 : Int32)))) M2).bind (fun r25 =>
ib (p1 + (1 : Int32)) L (
(sX8_sure F (xs (ix (p1 + (1 : Int32)))) r25.2).bind (fun r26 =>
if r25.1 = r26.1 then
(J5 r26.2)
else
(none))))))
else if v6 = (10 : Int32) then
(ib (p1 + (1 : Int32)) L (
(sX7_cannot F (xs (ix (p1 + (1 : Int32)))) M2).bind (fun r27 =>
ib (p1 + (1 : Int32)) L (
(sX8_cannot F (xs (ix (p1 + (1 : Int32)))) r27.2).bind (fun r28 =>
if r27.1 = r28.1 then
(J5 r28.2)
else
(none))))))
else if v6 = (11 : Int32) then
(ib (p1 + (1 : Int32)) L (
(sX7_freed F (xs (ix (p1 + (1 : Int32)))) M2).bind (fun r29 =>
ib (p1 + (1 : Int32)) L (
(sX8_freed F (xs (ix (p1 + (1 : Int32)))) r29.2).bind (fun r30 =>
if r29.1 = r30.1 then
(J5 r30.2)
else
(none))))))
else if v6 = (12 : Int32) then
(ib (p1 + (1 : Int32)) L (
(sX7_broken F (xs (ix (p1 + (1 : Int32)))) M2).bind (fun r31 =>
ib (p1 + (1 : Int32)) L (
(sX8_broken F (xs (ix (p1 + (1 : Int32)))) r31.2).bind (fun r32 =>
if r31.1 = r32.1 then
(J5 r32.2)
else
(none))))))
else if v6 = (13 : Int32) then
(ib (p1 + (1 : Int32)) L (
(sX7_nearest F (xs (ix (p1 + (1 : Int32)))) M2).bind (fun r33 =>
ib (p1 + (1 : Int32)) L (
(sX8_nearest F (xs (ix (p1 + (1 : Int32)))) r33.2).bind (fun r34 =>
if r33.1 = r34.1 then
(J5 r34.2)
else
(none))))))
else if v6 = (14 : Int32) then
(ib (p1 + (1 : Int32)) L (
ib (p1 + (2 : Int32)) L (
(sX7_steps F (xs (ix (p1 + (1 : Int32)))) (xs (ix (p1 + (2 : Int32)))) M2).bind (fun r35 =>
ib (p1 + (1 : Int32)) L (
ib (p1 + (2 : Int32)) L (
(sX8_steps F (xs (ix (p1 + (1 : Int32)))) (xs (ix (p1 + (2 : Int32)))) r35.2).bind (fun r36 =>
if r35.1 = r36.1 then
(J5 r36.2)
else
(none))))))))
else if v6 = (15 : Int32) then
(ib (p1 + (1 : Int32)) L (
ib (p1 + (2 : Int32)) L (
(sX7_returns F (xs (ix (p1 + (1 : Int32)))) (xs (ix (p1 + (2 : Int32)))) M2).bind (fun r37 =>
ib (p1 + (1 : Int32)) L (
ib (p1 + (2 : Int32)) L (
(sX8_returns F (xs (ix (p1 + (1 : Int32)))) (xs (ix (p1 + (2 : Int32)))) r37.2).bind (fun r38 =>
if r37.1 = r38.1 then
(J5 r38.2)
else
(none))))))))
else if v6 = (16 : Int32) then
(ib (p1 + (1 : Int32)) L (
(sX7_hangs F (xs (ix (p1 + (1 : Int32)))) M2).bind (fun r39 =>
ib (p1 + (1 : Int32)) L (
(sX8_hangs F (xs (ix (p1 + (1 : Int32)))) r39.2).bind (fun r40 =>
if r39.1 = r40.1 then
(J5 r40.2)
else
(none))))))
else if v6 = (17 : Int32) then
((sX7_rings F M2).bind (fun r41 =>
(sX8_rings F r41.2).bind (fun r42 =>
if r41.1 = r42.1 then
(J5 r42.2)
else
(none))))
else if v6 = (18 : Int32) then
(ib (p1 + (1 : Int32)) L (
ib (p1 + (2 : Int32)) L (
ib (p1 + (3 : Int32)) L (
(sX7_had F (xs (ix (p1 + (1 : Int32)))) (xs (ix (p1 + (2 : Int32)))) (xs (ix (p1 + (3 : Int32)))) M2).bind (fun r43 =>
ib (p1 + (1 : Int32)) L (
ib (p1 + (2 : Int32)) L (
ib (p1 + (3 : Int32)) L (
(sX8_had F (xs (ix (p1 + (1 : Int32)))) (xs (ix (p1 + (2 : Int32)))) (xs (ix (p1 + (3 : Int32)))) M2).bind (fun r44 =>
if r43 = r44.1 then
(J5 r44.2)
else
(none))))))))))
else if v6 = (19 : Int32) then
(ib (p1 + (1 : Int32)) L (
ib (p1 + (2 : Int32)) L (
ib (p1 + (3 : Int32)) L (
(sX7_asked F (xs (ix (p1 + (1 : Int32)))) (xs (ix (p1 + (2 : Int32)))) (xs (ix (p1 + (3 : Int32)))) M2).bind (fun r45 =>
ib (p1 + (1 : Int32)) L (
ib (p1 + (2 : Int32)) L (
ib (p1 + (3 : Int32)) L (
(sX8_asked F (xs (ix (p1 + (1 : Int32)))) (xs (ix (p1 + (2 : Int32)))) (xs (ix (p1 + (3 : Int32)))) M2).bind (fun r46 =>
if r45 = r46.1 then
(J5 r46.2)
else
(none))))))))))
else if v6 = (20 : Int32) then
(ib (p1 + (1 : Int32)) L (
ib (p1 + (2 : Int32)) L (
(sX7_open F (xs (ix (p1 + (1 : Int32)))) (xs (ix (p1 + (2 : Int32)))) M2).bind (fun r47 =>
ib (p1 + (1 : Int32)) L (
ib (p1 + (2 : Int32)) L (
(sX8_open F (xs (ix (p1 + (1 : Int32)))) (xs (ix (p1 + (2 : Int32)))) M2).bind (fun r48 =>
if r47 = r48.1 then
(J5 r48.2)
else
(none))))))))
else if v6 = (21 : Int32) then
(ib (p1 + (1 : Int32)) L (
ib (p1 + (2 : Int32)) L (
(sX7_best F (xs (ix (p1 + (1 : Int32)))) (xs (ix (p1 + (2 : Int32)))) M2).bind (fun r49 =>
ib (p1 + (1 : Int32)) L (
ib (p1 + (2 : Int32)) L (
(sX8_best F (xs (ix (p1 + (1 : Int32)))) (xs (ix (p1 + (2 : Int32)))) r49.2).bind (fun r50 =>
if r49.1 = r50.1 then
(J5 r50.2)
else
(none))))))))
else if v6 = (22 : Int32) then
(ib (p1 + (1 : Int32)) L (
ib (p1 + (2 : Int32)) L (
(sX7_rest F (xs (ix (p1 + (1 : Int32)))) (xs (ix (p1 + (2 : Int32)))) M2).bind (fun r51 =>
ib (p1 + (1 : Int32)) L (
ib (p1 + (2 : Int32)) L (
(sX8_rest F (xs (ix (p1 + (1 : Int32)))) (xs (ix (p1 + (2 : Int32)))) r51.2).bind (fun r52 =>
if r51.1 = r52.1 then
(J5 r52.2)
else
(none))))))))
else if v6 = (23 : Int32) then
(ib (p1 + (1 : Int32)) L (
(sX7_owed F (xs (ix (p1 + (1 : Int32)))) M2).bind (fun r53 =>
ib (p1 + (1 : Int32)) L (
(sX8_owed F (xs (ix (p1 + (1 : Int32)))) r53.2).bind (fun r54 =>
if r53.1 = r54.1 then
(J5 r54.2)
else
(none))))))
else if v6 = (24 : Int32) then
((sX7_lack F M2).bind (fun r55 =>
(sX8_lack F r55.2).bind (fun r56 =>
if r55.1 = r56.1 then
(J5 r56.2)
else
(none))))
else if v6 = (25 : Int32) then
((sX7_unasked F M2).bind (fun r57 =>
(sX8_unasked F r57.2).bind (fun r58 =>
if r57.1 = r58.1 then
(J5 r58.2)
else
(none))))
else if v6 = (26 : Int32) then
(ib (p1 + (1 : Int32)) L (
(sX7_fines F (xs (ix (p1 + (1 : Int32)))) M2).bind (fun r59 =>
ib (p1 + (1 : Int32)) L (
(sX8_fines F (xs (ix (p1 + (1 : Int32)))) r59.2).bind (fun r60 =>
if r59.1 = r60.1 then
(J5 r60.2)
else
(none))))))
else if v6 = (27 : Int32) then
(ib (p1 + (1 : Int32)) L (
ib (p1 + (2 : Int32)) L (
(sX7_seen F (xs (ix (p1 + (1 : Int32)))) (xs (ix (p1 + (2 : Int32)))) M2).bind (fun r61 =>
ib (p1 + (1 : Int32)) L (
ib (p1 + (2 : Int32)) L (
(sX8_seen F (xs (ix (p1 + (1 : Int32)))) (xs (ix (p1 + (2 : Int32)))) r61.2).bind (fun r62 =>
if r61.1 = r62.1 then
(J5 r62.2)
else
(none))))))))
else if v6 = (28 : Int32) then
((sX7_forget F M2).bind (fun r63 =>
(sX8_forget F r63.2).bind (fun r64 =>
if r63.1 = r64.1 then
(J5 r64.2)
else
(none))))
else if v6 = (29 : Int32) then
(ib (p1 + (1 : Int32)) L (
(sX7_refused F (xs (ix (p1 + (1 : Int32)))) M2).bind (fun r65 =>
ib (p1 + (1 : Int32)) L (
(sX8_refused F (xs (ix (p1 + (1 : Int32)))) r65.2).bind (fun r66 =>
if r65.1 = r66.1 then
(J5 r66.2)
else
(none))))))
else if v6 = (30 : Int32) then
(ib (p1 + (1 : Int32)) L (
ib (p1 + (2 : Int32)) L (
(sX7_lot F (xs (ix (p1 + (1 : Int32)))) (xs (ix (p1 + (2 : Int32)))) M2).bind (fun r67 =>
ib (p1 + (1 : Int32)) L (
ib (p1 + (2 : Int32)) L (
(sX8_lot F (xs (ix (p1 + (1 : Int32)))) (xs (ix (p1 + (2 : Int32)))) r67.2).bind (fun r68 =>
if r67.1 = r68.1 then
(J5 r68.2)
else
(none))))))))
else if v6 = (31 : Int32) then
(ib (p1 + (1 : Int32)) L (
ib (p1 + (2 : Int32)) L (
ib (p1 + (3 : Int32)) L (
(sX7_sheet F (xs (ix (p1 + (1 : Int32)))) (xs (ix (p1 + (2 : Int32)))) (xs (ix (p1 + (3 : Int32)))) M2).bind (fun r69 =>
ib (p1 + (1 : Int32)) L (
ib (p1 + (2 : Int32)) L (
ib (p1 + (3 : Int32)) L (
(sX8_sheet F (xs (ix (p1 + (1 : Int32)))) (xs (ix (p1 + (2 : Int32)))) (xs (ix (p1 + (3 : Int32)))) r69.2).bind (fun r70 =>
if r69.1 = r70.1 then
(J5 r70.2)
else
(none))))))))))
else if v6 = (32 : Int32) then
(ib (p1 + (1 : Int32)) L (
(sX7_lose F (xs (ix (p1 + (1 : Int32)))) M2).bind (fun r71 =>
ib (p1 + (1 : Int32)) L (
(sX8_lose F (xs (ix (p1 + (1 : Int32)))) r71.2).bind (fun r72 =>
if r71.1 = r72.1 then
(J5 r72.2)
else
(none))))))
else if v6 = (33 : Int32) then
(ib (p1 + (1 : Int32)) L (
ib (p1 + (2 : Int32)) L (
ib (p1 + (3 : Int32)) L (
ib (p1 + (4 : Int32)) L (
(sX7_put F (xs (ix (p1 + (1 : Int32)))) (xs (ix (p1 + (2 : Int32)))) (xs (ix (p1 + (3 : Int32)))) (xs (ix (p1 + (4 : Int32)))) M2).bind (fun r73 =>
ib (p1 + (1 : Int32)) L (
ib (p1 + (2 : Int32)) L (
ib (p1 + (3 : Int32)) L (
ib (p1 + (4 : Int32)) L (
(sX8_put F (xs (ix (p1 + (1 : Int32)))) (xs (ix (p1 + (2 : Int32)))) (xs (ix (p1 + (3 : Int32)))) (xs (ix (p1 + (4 : Int32)))) r73.2).bind (fun r74 =>
if r73.1 = r74.1 then
(J5 r74.2)
else
(none))))))))))))
else if v6 = (34 : Int32) then
(ib (p1 + (1 : Int32)) L (
ib (p1 + (2 : Int32)) L (
ib (p1 + (3 : Int32)) L (
(sX7_get F (xs (ix (p1 + (1 : Int32)))) (xs (ix (p1 + (2 : Int32)))) (xs (ix (p1 + (3 : Int32)))) M2).bind (fun r75 =>
ib (p1 + (1 : Int32)) L (
ib (p1 + (2 : Int32)) L (
ib (p1 + (3 : Int32)) L (
(sX8_get F (xs (ix (p1 + (1 : Int32)))) (xs (ix (p1 + (2 : Int32)))) (xs (ix (p1 + (3 : Int32)))) r75.2).bind (fun r76 =>
if r75.1 = r76.1 then
(J5 r76.2)
else
(none))))))))))
else if v6 = (35 : Int32) then
(ib (p1 + (1 : Int32)) L (
ib (p1 + (2 : Int32)) L (
ib (p1 + (3 : Int32)) L (
ib (p1 + (4 : Int32)) L (
ib (p1 + (5 : Int32)) L (
(sX7_copy F (xs (ix (p1 + (1 : Int32)))) (xs (ix (p1 + (2 : Int32)))) (xs (ix (p1 + (3 : Int32)))) (xs (ix (p1 + (4 : Int32)))) (xs (ix (p1 + (5 : Int32)))) M2).bind (fun r77 =>
ib (p1 + (1 : Int32)) L (
ib (p1 + (2 : Int32)) L (
ib (p1 + (3 : Int32)) L (
ib (p1 + (4 : Int32)) L (
ib (p1 + (5 : Int32)) L (
(sX8_copy F (xs (ix (p1 + (1 : Int32)))) (xs (ix (p1 + (2 : Int32)))) (xs (ix (p1 + (3 : Int32)))) (xs (ix (p1 + (4 : Int32)))) (xs (ix (p1 + (5 : Int32)))) r77.2).bind (fun r78 =>
if r77.1 = r78.1 then
(J5 r78.2)
else
(none))))))))))))))
else if v6 = (36 : Int32) then
(ib (p1 + (1 : Int32)) L (
(sX7_write F (xs (ix (p1 + (1 : Int32)))) M2).bind (fun r79 =>
ib (p1 + (1 : Int32)) L (
(sX8_write F (xs (ix (p1 + (1 : Int32)))) r79.2).bind (fun r80 =>
if r79.1 = r80.1 then
(J5 r80.2)
else
(none))))))
else if v6 = (37 : Int32) then
(ib (p1 + (1 : Int32)) L (
(sX7_count F (xs (ix (p1 + (1 : Int32)))) M2).bind (fun r81 =>
ib (p1 + (1 : Int32)) L (
(sX8_count F (xs (ix (p1 + (1 : Int32)))) M2).bind (fun r82 =>
if r81 = r82.1 then
(J5 r82.2)
else
(none))))))
else if v6 = (38 : Int32) then
((sX7_digest F M2).bind (fun r83 =>
(sX8_digest F r83.2).bind (fun r84 =>
if r83.1 = r84.1 then
(J5 r84.2)
else
(none))))
else (J5 M2)))))
def sL_law (F L : Nat) (xs : Nat → Int32) (M : Mem) : Option Unit :=
fx2 F (sL_law_L18 F L xs) (0 : Int32) M
set_option maxHeartbeats 4000000 in
set_option maxRecDepth 100000 in
theorem gL_law {x : Wx} {f : Fx} {b L : Nat} {xs : Nat → Int32} (F : Nat) (M : Mem) (hC : Cx x f "AnswersFirstLaw" cL_law 4 room_1) (hX : va_X b L xs (fS f) (fS f).heap) (hbl : b < (fS f).heap.size) (hbA : ¬ fA f b) (hfa : fA f = fun q => (fS f).heap.size ≤ q) (hfv : fV f = #[Value.ref b]) (hlr : (fT f).sig.returnType = ret) : GG x f 4 (Ql f) 16 [(0, .ref b), (1, .ref (x.1 0)), (2, .ref (x.1 37))] [] M (sL_law F L xs M) := by
  unfold sL_law
  refine g_iconst hC (v := (0 : Int32)) dL_law_16 (by decide) ?_
  refine g_istore_n hC (lv' := [(0, .ref b), (1, .ref (x.1 0)), (2, .ref (x.1 37)), (3, .int (0 : Int32))]) [1, 2, 3, 0] dL_law_17 rfl (by decide) rfl ?_
  refine g_fx2 (fun (p1 : Int32) (M2 : Mem) => [(0, .ref b), (1, .ref (x.1 0)), (2, .ref (x.1 37)), (3, .int p1)]) (fun (p1 : Int32) (M2 : Mem) => M2) (fun rec3 hrec3 p1 M2 => ?_) F _ _
  show GG x f 4 (Ql f) 18 [(0, .ref b), (1, .ref (x.1 0)), (2, .ref (x.1 37)), (3, .int p1)] [] M2 _
  unfold sL_law_L18
  refine g_iload_n hC 3 dL_law_18 rfl rfl ?_
  refine g_aload_n hC 0 dL_law_19 rfl rfl ?_
  refine g_slen hC hX hbl hbA dL_law_20 ?_
  refine g_bipush hC (v := (6 : Int32)) dL_law_21 (by decide) ?_
  refine g_isub hC dL_law_23 ?_
  refine g_icmp_gt hC 1318 dL_law_24 (by decide) ?_ ?_
  · refine g_iconst hC (v := (1 : Int32)) dL_law_1318 (by decide) ?_
    exact g_lawret hC hfa hfv hlr dL_law_1319
  · refine g_aload_n hC 0 dL_law_27 rfl rfl ?_
    refine g_iload_n hC 3 dL_law_28 rfl rfl ?_
    refine g_sld hC hX hbl hbA dL_law_29 ?_
    refine g_bipush hC (v := (63 : Int32)) dL_law_30 (by decide) ?_
    refine g_iand hC dL_law_32 ?_
    refine g_nm (fun (J5 : Mem → Option Unit) => ∀ (M4 : Mem), GG x f 4 (Ql f) 1312 [(0, .ref b), (1, .ref (x.1 0)), (2, .ref (x.1 37)), (3, .int p1)] [] M4 (J5 M4)) (fun M4 => ?_) (fun J5 hJ5 => ?_)
    · show GG x f 4 (Ql f) 1312 [(0, .ref b), (1, .ref (x.1 0)), (2, .ref (x.1 37)), (3, .int p1)] [] M4 _
      refine g_iinc hC (q := 3) (v := (6 : Int32)) (lv' := [(0, .ref b), (1, .ref (x.1 0)), (2, .ref (x.1 37)), (3, .int (p1 + (6 : Int32)))]) [1, 2, 3, 0] dL_law_1312 rfl (by decide) (by decide) rfl ?_
      refine g_goto hC 18 dL_law_1315 (by decide) ?_
      exact hrec3 (p1 + (6 : Int32)) M4
    refine g_top (fun v6 => ?_)
    show GG x f 4 (Ql f) 33 [(0, .ref b), (1, .ref (x.1 0)), (2, .ref (x.1 37)), (3, .int p1)] [.int v6] M2 _
    refine g_tcase hC (i := (0 : Int32)) (171) 204 dL_law_33 (by decide) (by decide) (by decide) (by decide) ?_ (fun hn0 => ?_)
    · refine g_aload_n hC 1 dL_law_204 rfl rfl ?_
      refine g_aload_n hC 0 dL_law_205 rfl rfl ?_
      refine g_iload_n hC 3 dL_law_206 rfl rfl ?_
      refine g_iconst hC (v := (1 : Int32)) dL_law_207 (by decide) ?_
      refine g_iadd hC dL_law_208 ?_
      refine g_sld hC hX hbl hbA dL_law_209 ?_
      refine g_aload_n hC 0 dL_law_210 rfl rfl ?_
      refine g_iload_n hC 3 dL_law_211 rfl rfl ?_
      refine g_iconst hC (v := (2 : Int32)) dL_law_212 (by decide) ?_
      refine g_iadd hC dL_law_213 ?_
      refine g_sld hC hX hbl hbA dL_law_214 ?_
      refine g_callv hC (st := []) (c := 7) rfl (by decide) rfl (ctX7_type x F (xs (ix (p1 + (1 : Int32)))) (xs (ix (p1 + (2 : Int32)))) M2) mvX7_type m_281 (by decide) rfl rfl (Nat.le_of_ble_eq_true rfl) dL_law_215 (fun r7 => ?_)
      show GG x f 4 (Ql f) 218 [(0, .ref b), (1, .ref (x.1 0)), (2, .ref (x.1 37)), (3, .int p1)] [.int (r7.1)] r7.2 _
      refine g_aload_n hC 2 dL_law_218 rfl rfl ?_
      refine g_aload_n hC 0 dL_law_219 rfl rfl ?_
      refine g_iload_n hC 3 dL_law_220 rfl rfl ?_
      refine g_iconst hC (v := (1 : Int32)) dL_law_221 (by decide) ?_
      refine g_iadd hC dL_law_222 ?_
      refine g_sld hC hX hbl hbA dL_law_223 ?_
      refine g_aload_n hC 0 dL_law_224 rfl rfl ?_
      refine g_iload_n hC 3 dL_law_225 rfl rfl ?_
      refine g_iconst hC (v := (2 : Int32)) dL_law_226 (by decide) ?_
      refine g_iadd hC dL_law_227 ?_
      refine g_sld hC hX hbl hbA dL_law_228 ?_
      refine g_callv hC (st := [.int (r7.1)]) (c := 8) rfl (by decide) rfl (ctX8_type x F (xs (ix (p1 + (1 : Int32)))) (xs (ix (p1 + (2 : Int32)))) r7.2) mvX8_type m_980 (by decide) rfl rfl (Nat.le_of_ble_eq_true rfl) dL_law_229 (fun r8 => ?_)
      show GG x f 4 (Ql f) 232 [(0, .ref b), (1, .ref (x.1 0)), (2, .ref (x.1 37)), (3, .int p1)] [.int (r8.1), .int (r7.1)] r8.2 _
      refine g_icmp_eq hC 1312 dL_law_232 (by decide) ?_ ?_
      · exact hJ5 r8.2
      · refine g_iconst hC (v := (0 : Int32)) dL_law_235 (by decide) ?_
        exact g_none
    refine g_tcase hC (i := (1 : Int32)) (204) 237 dL_law_33 (by decide) (by decide) (by decide) (by decide) ?_ (fun hn1 => ?_)
    · refine g_aload_n hC 1 dL_law_237 rfl rfl ?_
      refine g_aload_n hC 0 dL_law_238 rfl rfl ?_
      refine g_iload_n hC 3 dL_law_239 rfl rfl ?_
      refine g_iconst hC (v := (1 : Int32)) dL_law_240 (by decide) ?_
      refine g_iadd hC dL_law_241 ?_
      refine g_sld hC hX hbl hbA dL_law_242 ?_
      refine g_callv hC (st := []) (c := 7) rfl (by decide) rfl (ctX7_wipe x F (xs (ix (p1 + (1 : Int32)))) M2) mvX7_wipe m_409 (by decide) rfl rfl (Nat.le_of_ble_eq_true rfl) dL_law_243 (fun r9 => ?_)
      show GG x f 4 (Ql f) 246 [(0, .ref b), (1, .ref (x.1 0)), (2, .ref (x.1 37)), (3, .int p1)] [.int (r9.1)] r9.2 _
      refine g_aload_n hC 2 dL_law_246 rfl rfl ?_
      refine g_aload_n hC 0 dL_law_247 rfl rfl ?_
      refine g_iload_n hC 3 dL_law_248 rfl rfl ?_
      refine g_iconst hC (v := (1 : Int32)) dL_law_249 (by decide) ?_
      refine g_iadd hC dL_law_250 ?_
      refine g_sld hC hX hbl hbA dL_law_251 ?_
      refine g_callv hC (st := [.int (r9.1)]) (c := 8) rfl (by decide) rfl (ctX8_wipe x F (xs (ix (p1 + (1 : Int32)))) r9.2) mvX8_wipe m_990 (by decide) rfl rfl (Nat.le_of_ble_eq_true rfl) dL_law_252 (fun r10 => ?_)
      show GG x f 4 (Ql f) 255 [(0, .ref b), (1, .ref (x.1 0)), (2, .ref (x.1 37)), (3, .int p1)] [.int (r10.1), .int (r9.1)] r10.2 _
      refine g_icmp_eq hC 1312 dL_law_255 (by decide) ?_ ?_
      · exact hJ5 r10.2
      · refine g_iconst hC (v := (0 : Int32)) dL_law_258 (by decide) ?_
        exact g_none
    refine g_tcase hC (i := (2 : Int32)) (227) 260 dL_law_33 (by decide) (by decide) (by decide) (by decide) ?_ (fun hn2 => ?_)
    · refine g_aload_n hC 1 dL_law_260 rfl rfl ?_
      refine g_aload_n hC 0 dL_law_261 rfl rfl ?_
      refine g_iload_n hC 3 dL_law_262 rfl rfl ?_
      refine g_iconst hC (v := (1 : Int32)) dL_law_263 (by decide) ?_
      refine g_iadd hC dL_law_264 ?_
      refine g_sld hC hX hbl hbA dL_law_265 ?_
      refine g_callv hC (st := []) (c := 7) rfl (by decide) rfl (ctX7_undo x F (xs (ix (p1 + (1 : Int32)))) M2) mvX7_undo m_421 (by decide) rfl rfl (Nat.le_of_ble_eq_true rfl) dL_law_266 (fun r11 => ?_)
      show GG x f 4 (Ql f) 269 [(0, .ref b), (1, .ref (x.1 0)), (2, .ref (x.1 37)), (3, .int p1)] [.int (r11.1)] r11.2 _
      refine g_aload_n hC 2 dL_law_269 rfl rfl ?_
      refine g_aload_n hC 0 dL_law_270 rfl rfl ?_
      refine g_iload_n hC 3 dL_law_271 rfl rfl ?_
      refine g_iconst hC (v := (1 : Int32)) dL_law_272 (by decide) ?_
      refine g_iadd hC dL_law_273 ?_
      refine g_sld hC hX hbl hbA dL_law_274 ?_
      refine g_callv hC (st := [.int (r11.1)]) (c := 8) rfl (by decide) rfl (ctX8_undo x F (xs (ix (p1 + (1 : Int32)))) r11.2) mvX8_undo m_994 (by decide) rfl rfl (Nat.le_of_ble_eq_true rfl) dL_law_275 (fun r12 => ?_)
      show GG x f 4 (Ql f) 278 [(0, .ref b), (1, .ref (x.1 0)), (2, .ref (x.1 37)), (3, .int p1)] [.int (r12.1), .int (r11.1)] r12.2 _
      refine g_icmp_eq hC 1312 dL_law_278 (by decide) ?_ ?_
      · exact hJ5 r12.2
      · refine g_iconst hC (v := (0 : Int32)) dL_law_281 (by decide) ?_
        exact g_none
    refine g_tcase hC (i := (3 : Int32)) (250) 283 dL_law_33 (by decide) (by decide) (by decide) (by decide) ?_ (fun hn3 => ?_)
    · refine g_aload_n hC 1 dL_law_283 rfl rfl ?_
      refine g_aload_n hC 0 dL_law_284 rfl rfl ?_
      refine g_iload_n hC 3 dL_law_285 rfl rfl ?_
      refine g_iconst hC (v := (1 : Int32)) dL_law_286 (by decide) ?_
      refine g_iadd hC dL_law_287 ?_
      refine g_sld hC hX hbl hbA dL_law_288 ?_
      refine g_callv hC (st := []) (c := 7) rfl (by decide) rfl (ctX7_fault x F (xs (ix (p1 + (1 : Int32)))) M2) mvX7_fault m_440 (by decide) rfl rfl (Nat.le_of_ble_eq_true rfl) dL_law_289 (fun r13 => ?_)
      show GG x f 4 (Ql f) 292 [(0, .ref b), (1, .ref (x.1 0)), (2, .ref (x.1 37)), (3, .int p1)] [.int r13] M2 _
      refine g_aload_n hC 2 dL_law_292 rfl rfl ?_
      refine g_aload_n hC 0 dL_law_293 rfl rfl ?_
      refine g_iload_n hC 3 dL_law_294 rfl rfl ?_
      refine g_iconst hC (v := (1 : Int32)) dL_law_295 (by decide) ?_
      refine g_iadd hC dL_law_296 ?_
      refine g_sld hC hX hbl hbA dL_law_297 ?_
      refine g_callv hC (st := [.int r13]) (c := 8) rfl (by decide) rfl (ctX8_fault x F (xs (ix (p1 + (1 : Int32)))) M2) mvX8_fault m_998 (by decide) rfl rfl (Nat.le_of_ble_eq_true rfl) dL_law_298 (fun r14 => ?_)
      show GG x f 4 (Ql f) 301 [(0, .ref b), (1, .ref (x.1 0)), (2, .ref (x.1 37)), (3, .int p1)] [.int (r14.1), .int r13] r14.2 _
      refine g_icmp_eq hC 1312 dL_law_301 (by decide) ?_ ?_
      · exact hJ5 r14.2
      · refine g_iconst hC (v := (0 : Int32)) dL_law_304 (by decide) ?_
        exact g_none
    refine g_tcase hC (i := (4 : Int32)) (273) 306 dL_law_33 (by decide) (by decide) (by decide) (by decide) ?_ (fun hn4 => ?_)
    · refine g_aload_n hC 1 dL_law_306 rfl rfl ?_
      refine g_aload_n hC 0 dL_law_307 rfl rfl ?_
      refine g_iload_n hC 3 dL_law_308 rfl rfl ?_
      refine g_iconst hC (v := (1 : Int32)) dL_law_309 (by decide) ?_
      refine g_iadd hC dL_law_310 ?_
      refine g_sld hC hX hbl hbA dL_law_311 ?_
      refine g_aload_n hC 0 dL_law_312 rfl rfl ?_
      refine g_iload_n hC 3 dL_law_313 rfl rfl ?_
      refine g_iconst hC (v := (2 : Int32)) dL_law_314 (by decide) ?_
      refine g_iadd hC dL_law_315 ?_
      refine g_sld hC hX hbl hbA dL_law_316 ?_
      refine g_callv hC (st := []) (c := 7) rfl (by decide) rfl (ctX7_matter x F (xs (ix (p1 + (1 : Int32)))) (xs (ix (p1 + (2 : Int32)))) M2) mvX7_matter m_448 (by decide) rfl rfl (Nat.le_of_ble_eq_true rfl) dL_law_317 (fun r15 => ?_)
      show GG x f 4 (Ql f) 320 [(0, .ref b), (1, .ref (x.1 0)), (2, .ref (x.1 37)), (3, .int p1)] [.int r15] M2 _
      refine g_aload_n hC 2 dL_law_320 rfl rfl ?_
      refine g_aload_n hC 0 dL_law_321 rfl rfl ?_
      refine g_iload_n hC 3 dL_law_322 rfl rfl ?_
      refine g_iconst hC (v := (1 : Int32)) dL_law_323 (by decide) ?_
      refine g_iadd hC dL_law_324 ?_
      refine g_sld hC hX hbl hbA dL_law_325 ?_
      refine g_aload_n hC 0 dL_law_326 rfl rfl ?_
      refine g_iload_n hC 3 dL_law_327 rfl rfl ?_
      refine g_iconst hC (v := (2 : Int32)) dL_law_328 (by decide) ?_
      refine g_iadd hC dL_law_329 ?_
      refine g_sld hC hX hbl hbA dL_law_330 ?_
      refine g_callv hC (st := [.int r15]) (c := 8) rfl (by decide) rfl (ctX8_matter x F (xs (ix (p1 + (1 : Int32)))) (xs (ix (p1 + (2 : Int32)))) M2) mvX8_matter m_1030 (by decide) rfl rfl (Nat.le_of_ble_eq_true rfl) dL_law_331 (fun r16 => ?_)
      show GG x f 4 (Ql f) 334 [(0, .ref b), (1, .ref (x.1 0)), (2, .ref (x.1 37)), (3, .int p1)] [.int (r16.1), .int r15] r16.2 _
      refine g_icmp_eq hC 1312 dL_law_334 (by decide) ?_ ?_
      · exact hJ5 r16.2
      · refine g_iconst hC (v := (0 : Int32)) dL_law_337 (by decide) ?_
        exact g_none
    refine g_tcase hC (i := (5 : Int32)) (306) 339 dL_law_33 (by decide) (by decide) (by decide) (by decide) ?_ (fun hn5 => ?_)
    · refine g_aload_n hC 1 dL_law_339 rfl rfl ?_
      refine g_aload_n hC 0 dL_law_340 rfl rfl ?_
      refine g_iload_n hC 3 dL_law_341 rfl rfl ?_
      refine g_iconst hC (v := (1 : Int32)) dL_law_342 (by decide) ?_
      refine g_iadd hC dL_law_343 ?_
      refine g_sld hC hX hbl hbA dL_law_344 ?_
      refine g_aload_n hC 0 dL_law_345 rfl rfl ?_
      refine g_iload_n hC 3 dL_law_346 rfl rfl ?_
      refine g_iconst hC (v := (2 : Int32)) dL_law_347 (by decide) ?_
      refine g_iadd hC dL_law_348 ?_
      refine g_sld hC hX hbl hbA dL_law_349 ?_
      refine g_callv hC (st := []) (c := 7) rfl (by decide) rfl (ctX7_set x F (xs (ix (p1 + (1 : Int32)))) (xs (ix (p1 + (2 : Int32)))) M2) mvX7_set m_464 (by decide) rfl rfl (Nat.le_of_ble_eq_true rfl) dL_law_350 (fun r17 => ?_)
      show GG x f 4 (Ql f) 353 [(0, .ref b), (1, .ref (x.1 0)), (2, .ref (x.1 37)), (3, .int p1)] [.int (r17.1)] r17.2 _
      refine g_aload_n hC 2 dL_law_353 rfl rfl ?_
      refine g_aload_n hC 0 dL_law_354 rfl rfl ?_
      refine g_iload_n hC 3 dL_law_355 rfl rfl ?_
      refine g_iconst hC (v := (1 : Int32)) dL_law_356 (by decide) ?_
      refine g_iadd hC dL_law_357 ?_
      refine g_sld hC hX hbl hbA dL_law_358 ?_
      refine g_aload_n hC 0 dL_law_359 rfl rfl ?_
      refine g_iload_n hC 3 dL_law_360 rfl rfl ?_
      refine g_iconst hC (v := (2 : Int32)) dL_law_361 (by decide) ?_
      refine g_iadd hC dL_law_362 ?_
      refine g_sld hC hX hbl hbA dL_law_363 ?_
      refine g_callv hC (st := [.int (r17.1)]) (c := 8) rfl (by decide) rfl (ctX8_set x F (xs (ix (p1 + (1 : Int32)))) (xs (ix (p1 + (2 : Int32)))) r17.2) mvX8_set m_1042 (by decide) rfl rfl (Nat.le_of_ble_eq_true rfl) dL_law_364 (fun r18 => ?_)
      show GG x f 4 (Ql f) 367 [(0, .ref b), (1, .ref (x.1 0)), (2, .ref (x.1 37)), (3, .int p1)] [.int (r18.1), .int (r17.1)] r18.2 _
      refine g_icmp_eq hC 1312 dL_law_367 (by decide) ?_ ?_
      · exact hJ5 r18.2
      · refine g_iconst hC (v := (0 : Int32)) dL_law_370 (by decide) ?_
        exact g_none
    refine g_tcase hC (i := (6 : Int32)) (339) 372 dL_law_33 (by decide) (by decide) (by decide) (by decide) ?_ (fun hn6 => ?_)
    · refine g_aload_n hC 1 dL_law_372 rfl rfl ?_
      refine g_aload_n hC 0 dL_law_373 rfl rfl ?_
      refine g_iload_n hC 3 dL_law_374 rfl rfl ?_
      refine g_iconst hC (v := (1 : Int32)) dL_law_375 (by decide) ?_
      refine g_iadd hC dL_law_376 ?_
      refine g_sld hC hX hbl hbA dL_law_377 ?_
      refine g_aload_n hC 0 dL_law_378 rfl rfl ?_
      refine g_iload_n hC 3 dL_law_379 rfl rfl ?_
      refine g_iconst hC (v := (2 : Int32)) dL_law_380 (by decide) ?_
      refine g_iadd hC dL_law_381 ?_
      refine g_sld hC hX hbl hbA dL_law_382 ?_
      refine g_callv hC (st := []) (c := 7) rfl (by decide) rfl (ctX7_worth x F (xs (ix (p1 + (1 : Int32)))) (xs (ix (p1 + (2 : Int32)))) M2) mvX7_worth m_472 (by decide) rfl rfl (Nat.le_of_ble_eq_true rfl) dL_law_383 (fun r19 => ?_)
      show GG x f 4 (Ql f) 386 [(0, .ref b), (1, .ref (x.1 0)), (2, .ref (x.1 37)), (3, .int p1)] [.int (r19.1)] r19.2 _
      refine g_aload_n hC 2 dL_law_386 rfl rfl ?_
      refine g_aload_n hC 0 dL_law_387 rfl rfl ?_
      refine g_iload_n hC 3 dL_law_388 rfl rfl ?_
      refine g_iconst hC (v := (1 : Int32)) dL_law_389 (by decide) ?_
      refine g_iadd hC dL_law_390 ?_
      refine g_sld hC hX hbl hbA dL_law_391 ?_
      refine g_aload_n hC 0 dL_law_392 rfl rfl ?_
      refine g_iload_n hC 3 dL_law_393 rfl rfl ?_
      refine g_iconst hC (v := (2 : Int32)) dL_law_394 (by decide) ?_
      refine g_iadd hC dL_law_395 ?_
      refine g_sld hC hX hbl hbA dL_law_396 ?_
      refine g_callv hC (st := [.int (r19.1)]) (c := 8) rfl (by decide) rfl (ctX8_worth x F (xs (ix (p1 + (1 : Int32)))) (xs (ix (p1 + (2 : Int32)))) r19.2) mvX8_worth m_1046 (by decide) rfl rfl (Nat.le_of_ble_eq_true rfl) dL_law_397 (fun r20 => ?_)
      show GG x f 4 (Ql f) 400 [(0, .ref b), (1, .ref (x.1 0)), (2, .ref (x.1 37)), (3, .int p1)] [.int (r20.1), .int (r19.1)] r20.2 _
      refine g_icmp_eq hC 1312 dL_law_400 (by decide) ?_ ?_
      · exact hJ5 r20.2
      · refine g_iconst hC (v := (0 : Int32)) dL_law_403 (by decide) ?_
        exact g_none
    refine g_tcase hC (i := (7 : Int32)) (372) 405 dL_law_33 (by decide) (by decide) (by decide) (by decide) ?_ (fun hn7 => ?_)
    · refine g_aload_n hC 1 dL_law_405 rfl rfl ?_
      refine g_aload_n hC 0 dL_law_406 rfl rfl ?_
      refine g_iload_n hC 3 dL_law_407 rfl rfl ?_
      refine g_iconst hC (v := (1 : Int32)) dL_law_408 (by decide) ?_
      refine g_iadd hC dL_law_409 ?_
      refine g_sld hC hX hbl hbA dL_law_410 ?_
      refine g_callv hC (st := []) (c := 7) rfl (by decide) rfl (ctX7_read x F (xs (ix (p1 + (1 : Int32)))) M2) mvX7_read m_476 (by decide) rfl rfl (Nat.le_of_ble_eq_true rfl) dL_law_411 (fun r21 => ?_)
      show GG x f 4 (Ql f) 414 [(0, .ref b), (1, .ref (x.1 0)), (2, .ref (x.1 37)), (3, .int p1)] [.int (r21.1)] r21.2 _
      refine g_aload_n hC 2 dL_law_414 rfl rfl ?_
      refine g_aload_n hC 0 dL_law_415 rfl rfl ?_
      refine g_iload_n hC 3 dL_law_416 rfl rfl ?_
      refine g_iconst hC (v := (1 : Int32)) dL_law_417 (by decide) ?_
      refine g_iadd hC dL_law_418 ?_
      refine g_sld hC hX hbl hbA dL_law_419 ?_
      refine g_callv hC (st := [.int (r21.1)]) (c := 8) rfl (by decide) rfl (ctX8_read x F (xs (ix (p1 + (1 : Int32)))) r21.2) mvX8_read m_1053 (by decide) rfl rfl (Nat.le_of_ble_eq_true rfl) dL_law_420 (fun r22 => ?_)
      show GG x f 4 (Ql f) 423 [(0, .ref b), (1, .ref (x.1 0)), (2, .ref (x.1 37)), (3, .int p1)] [.int (r22.1), .int (r21.1)] r22.2 _
      refine g_icmp_eq hC 1312 dL_law_423 (by decide) ?_ ?_
      · exact hJ5 r22.2
      · refine g_iconst hC (v := (0 : Int32)) dL_law_426 (by decide) ?_
        exact g_none
    refine g_tcase hC (i := (8 : Int32)) (395) 428 dL_law_33 (by decide) (by decide) (by decide) (by decide) ?_ (fun hn8 => ?_)
    · refine g_aload_n hC 1 dL_law_428 rfl rfl ?_
      refine g_aload_n hC 0 dL_law_429 rfl rfl ?_
      refine g_iload_n hC 3 dL_law_430 rfl rfl ?_
      refine g_iconst hC (v := (1 : Int32)) dL_law_431 (by decide) ?_
      refine g_iadd hC dL_law_432 ?_
      refine g_sld hC hX hbl hbA dL_law_433 ?_
      refine g_callv hC (st := []) (c := 7) rfl (by decide) rfl (ctX7_rows x F (xs (ix (p1 + (1 : Int32)))) M2) mvX7_rows m_511 (by decide) rfl rfl (Nat.le_of_ble_eq_true rfl) dL_law_434 (fun r23 => ?_)
      show GG x f 4 (Ql f) 437 [(0, .ref b), (1, .ref (x.1 0)), (2, .ref (x.1 37)), (3, .int p1)] [.int (r23.1)] r23.2 _
      refine g_aload_n hC 2 dL_law_437 rfl rfl ?_
      refine g_aload_n hC 0 dL_law_438 rfl rfl ?_
      refine g_iload_n hC 3 dL_law_439 rfl rfl ?_
      refine g_iconst hC (v := (1 : Int32)) dL_law_440 (by decide) ?_
      refine g_iadd hC dL_law_441 ?_
      refine g_sld hC hX hbl hbA dL_law_442 ?_
      refine g_callv hC (st := [.int (r23.1)]) (c := 8) rfl (by decide) rfl (ctX8_rows x F (xs (ix (p1 + (1 : Int32)))) r23.2) mvX8_rows m_1102 (by decide) rfl rfl (Nat.le_of_ble_eq_true rfl) dL_law_443 (fun r24 => ?_)
      show GG x f 4 (Ql f) 446 [(0, .ref b), (1, .ref (x.1 0)), (2, .ref (x.1 37)), (3, .int p1)] [.int (r24.1), .int (r23.1)] r24.2 _
      refine g_icmp_eq hC 1312 dL_law_446 (by decide) ?_ ?_
      · exact hJ5 r24.2
      · refine g_iconst hC (v := (0 : Int32)) dL_law_449 (by decide) ?_
        exact g_none
    refine g_tcase hC (i := (9 : Int32)) (418) 451 dL_law_33 (by decide) (by decide) (by decide) (by decide) ?_ (fun hn9 => ?_)
    · refine g_aload_n hC 1 dL_law_451 rfl rfl ?_
      refine g_aload_n hC 0 dL_law_452 rfl rfl ?_
      refine g_iload_n hC 3 dL_law_453 rfl rfl ?_
      refine g_iconst hC (v := (1 : Int32)) dL_law_454 (by decide) ?_
      refine g_iadd hC dL_law_455 ?_
      refine g_sld hC hX hbl hbA dL_law_456 ?_
      refine g_callv hC (st := []) (c := 7) rfl (by decide) rfl (ctX7_sure x F (xs (ix (p1 + (1 : Int32)))) M2) mvX7_sure m_555 (by decide) rfl rfl (Nat.le_of_ble_eq_true rfl) dL_law_457 (fun r25 => ?_)
      show GG x f 4 (Ql f) 460 [(0, .ref b), (1, .ref (x.1 0)), (2, .ref (x.1 37)), (3, .int p1)] [.int (r25.1)] r25.2 _
      refine g_aload_n hC 2 dL_law_460 rfl rfl ?_
      refine g_aload_n hC 0 dL_law_461 rfl rfl ?_
      refine g_iload_n hC 3 dL_law_462 rfl rfl ?_
      refine g_iconst hC (v := (1 : Int32)) dL_law_463 (by decide) ?_
      refine g_iadd hC dL_law_464 ?_
      refine g_sld hC hX hbl hbA dL_law_465 ?_
      refine g_callv hC (st := [.int (r25.1)]) (c := 8) rfl (by decide) rfl (ctX8_sure x F (xs (ix (p1 + (1 : Int32)))) r25.2) mvX8_sure m_1110 (by decide) rfl rfl (Nat.le_of_ble_eq_true rfl) dL_law_466 (fun r26 => ?_)
      show GG x f 4 (Ql f) 469 [(0, .ref b), (1, .ref (x.1 0)), (2, .ref (x.1 37)), (3, .int p1)] [.int (r26.1), .int (r25.1)] r26.2 _
      refine g_icmp_eq hC 1312 dL_law_469 (by decide) ?_ ?_
      · exact hJ5 r26.2
      · refine g_iconst hC (v := (0 : Int32)) dL_law_472 (by decide) ?_
        exact g_none
    refine g_tcase hC (i := (10 : Int32)) (441) 474 dL_law_33 (by decide) (by decide) (by decide) (by decide) ?_ (fun hn10 => ?_)
    · refine g_aload_n hC 1 dL_law_474 rfl rfl ?_
      refine g_aload_n hC 0 dL_law_475 rfl rfl ?_
      refine g_iload_n hC 3 dL_law_476 rfl rfl ?_
      refine g_iconst hC (v := (1 : Int32)) dL_law_477 (by decide) ?_
      refine g_iadd hC dL_law_478 ?_
      refine g_sld hC hX hbl hbA dL_law_479 ?_
      refine g_callv hC (st := []) (c := 7) rfl (by decide) rfl (ctX7_cannot x F (xs (ix (p1 + (1 : Int32)))) M2) mvX7_cannot m_567 (by decide) rfl rfl (Nat.le_of_ble_eq_true rfl) dL_law_480 (fun r27 => ?_)
      show GG x f 4 (Ql f) 483 [(0, .ref b), (1, .ref (x.1 0)), (2, .ref (x.1 37)), (3, .int p1)] [.int (r27.1)] r27.2 _
      refine g_aload_n hC 2 dL_law_483 rfl rfl ?_
      refine g_aload_n hC 0 dL_law_484 rfl rfl ?_
      refine g_iload_n hC 3 dL_law_485 rfl rfl ?_
      refine g_iconst hC (v := (1 : Int32)) dL_law_486 (by decide) ?_
      refine g_iadd hC dL_law_487 ?_
      refine g_sld hC hX hbl hbA dL_law_488 ?_
      refine g_callv hC (st := [.int (r27.1)]) (c := 8) rfl (by decide) rfl (ctX8_cannot x F (xs (ix (p1 + (1 : Int32)))) r27.2) mvX8_cannot m_1118 (by decide) rfl rfl (Nat.le_of_ble_eq_true rfl) dL_law_489 (fun r28 => ?_)
      show GG x f 4 (Ql f) 492 [(0, .ref b), (1, .ref (x.1 0)), (2, .ref (x.1 37)), (3, .int p1)] [.int (r28.1), .int (r27.1)] r28.2 _
      refine g_icmp_eq hC 1312 dL_law_492 (by decide) ?_ ?_
      · exact hJ5 r28.2
      · refine g_iconst hC (v := (0 : Int32)) dL_law_495 (by decide) ?_
        exact g_none
    refine g_tcase hC (i := (11 : Int32)) (464) 497 dL_law_33 (by decide) (by decide) (by decide) (by decide) ?_ (fun hn11 => ?_)
    · refine g_aload_n hC 1 dL_law_497 rfl rfl ?_
      refine g_aload_n hC 0 dL_law_498 rfl rfl ?_
      refine g_iload_n hC 3 dL_law_499 rfl rfl ?_
      refine g_iconst hC (v := (1 : Int32)) dL_law_500 (by decide) ?_
      refine g_iadd hC dL_law_501 ?_
      refine g_sld hC hX hbl hbA dL_law_502 ?_
      refine g_callv hC (st := []) (c := 7) rfl (by decide) rfl (ctX7_freed x F (xs (ix (p1 + (1 : Int32)))) M2) mvX7_freed m_590 (by decide) rfl rfl (Nat.le_of_ble_eq_true rfl) dL_law_503 (fun r29 => ?_)
      show GG x f 4 (Ql f) 506 [(0, .ref b), (1, .ref (x.1 0)), (2, .ref (x.1 37)), (3, .int p1)] [.int (r29.1)] r29.2 _
      refine g_aload_n hC 2 dL_law_506 rfl rfl ?_
      refine g_aload_n hC 0 dL_law_507 rfl rfl ?_
      refine g_iload_n hC 3 dL_law_508 rfl rfl ?_
      refine g_iconst hC (v := (1 : Int32)) dL_law_509 (by decide) ?_
      refine g_iadd hC dL_law_510 ?_
      refine g_sld hC hX hbl hbA dL_law_511 ?_
      refine g_callv hC (st := [.int (r29.1)]) (c := 8) rfl (by decide) rfl (ctX8_freed x F (xs (ix (p1 + (1 : Int32)))) r29.2) mvX8_freed m_1129 (by decide) rfl rfl (Nat.le_of_ble_eq_true rfl) dL_law_512 (fun r30 => ?_)
      show GG x f 4 (Ql f) 515 [(0, .ref b), (1, .ref (x.1 0)), (2, .ref (x.1 37)), (3, .int p1)] [.int (r30.1), .int (r29.1)] r30.2 _
      refine g_icmp_eq hC 1312 dL_law_515 (by decide) ?_ ?_
      · exact hJ5 r30.2
      · refine g_iconst hC (v := (0 : Int32)) dL_law_518 (by decide) ?_
        exact g_none
    refine g_tcase hC (i := (12 : Int32)) (487) 520 dL_law_33 (by decide) (by decide) (by decide) (by decide) ?_ (fun hn12 => ?_)
    · refine g_aload_n hC 1 dL_law_520 rfl rfl ?_
      refine g_aload_n hC 0 dL_law_521 rfl rfl ?_
      refine g_iload_n hC 3 dL_law_522 rfl rfl ?_
      refine g_iconst hC (v := (1 : Int32)) dL_law_523 (by decide) ?_
      refine g_iadd hC dL_law_524 ?_
      refine g_sld hC hX hbl hbA dL_law_525 ?_
      refine g_callv hC (st := []) (c := 7) rfl (by decide) rfl (ctX7_broken x F (xs (ix (p1 + (1 : Int32)))) M2) mvX7_broken m_598 (by decide) rfl rfl (Nat.le_of_ble_eq_true rfl) dL_law_526 (fun r31 => ?_)
      show GG x f 4 (Ql f) 529 [(0, .ref b), (1, .ref (x.1 0)), (2, .ref (x.1 37)), (3, .int p1)] [.int (r31.1)] r31.2 _
      refine g_aload_n hC 2 dL_law_529 rfl rfl ?_
      refine g_aload_n hC 0 dL_law_530 rfl rfl ?_
      refine g_iload_n hC 3 dL_law_531 rfl rfl ?_
      refine g_iconst hC (v := (1 : Int32)) dL_law_532 (by decide) ?_
      refine g_iadd hC dL_law_533 ?_
      refine g_sld hC hX hbl hbA dL_law_534 ?_
      refine g_callv hC (st := [.int (r31.1)]) (c := 8) rfl (by decide) rfl (ctX8_broken x F (xs (ix (p1 + (1 : Int32)))) r31.2) mvX8_broken m_1068 (by decide) rfl rfl (Nat.le_of_ble_eq_true rfl) dL_law_535 (fun r32 => ?_)
      show GG x f 4 (Ql f) 538 [(0, .ref b), (1, .ref (x.1 0)), (2, .ref (x.1 37)), (3, .int p1)] [.int (r32.1), .int (r31.1)] r32.2 _
      refine g_icmp_eq hC 1312 dL_law_538 (by decide) ?_ ?_
      · exact hJ5 r32.2
      · refine g_iconst hC (v := (0 : Int32)) dL_law_541 (by decide) ?_
        exact g_none
    refine g_tcase hC (i := (13 : Int32)) (510) 543 dL_law_33 (by decide) (by decide) (by decide) (by decide) ?_ (fun hn13 => ?_)
    · refine g_aload_n hC 1 dL_law_543 rfl rfl ?_
      refine g_aload_n hC 0 dL_law_544 rfl rfl ?_
      refine g_iload_n hC 3 dL_law_545 rfl rfl ?_
      refine g_iconst hC (v := (1 : Int32)) dL_law_546 (by decide) ?_
      refine g_iadd hC dL_law_547 ?_
      refine g_sld hC hX hbl hbA dL_law_548 ?_
      refine g_callv hC (st := []) (c := 7) rfl (by decide) rfl (ctX7_nearest x F (xs (ix (p1 + (1 : Int32)))) M2) mvX7_nearest m_609 (by decide) rfl rfl (Nat.le_of_ble_eq_true rfl) dL_law_549 (fun r33 => ?_)
      show GG x f 4 (Ql f) 552 [(0, .ref b), (1, .ref (x.1 0)), (2, .ref (x.1 37)), (3, .int p1)] [.int (r33.1)] r33.2 _
      refine g_aload_n hC 2 dL_law_552 rfl rfl ?_
      refine g_aload_n hC 0 dL_law_553 rfl rfl ?_
      refine g_iload_n hC 3 dL_law_554 rfl rfl ?_
      refine g_iconst hC (v := (1 : Int32)) dL_law_555 (by decide) ?_
      refine g_iadd hC dL_law_556 ?_
      refine g_sld hC hX hbl hbA dL_law_557 ?_
      refine g_callv hC (st := [.int (r33.1)]) (c := 8) rfl (by decide) rfl (ctX8_nearest x F (xs (ix (p1 + (1 : Int32)))) r33.2) mvX8_nearest m_1137 (by decide) rfl rfl (Nat.le_of_ble_eq_true rfl) dL_law_558 (fun r34 => ?_)
      show GG x f 4 (Ql f) 561 [(0, .ref b), (1, .ref (x.1 0)), (2, .ref (x.1 37)), (3, .int p1)] [.int (r34.1), .int (r33.1)] r34.2 _
      refine g_icmp_eq hC 1312 dL_law_561 (by decide) ?_ ?_
      · exact hJ5 r34.2
      · refine g_iconst hC (v := (0 : Int32)) dL_law_564 (by decide) ?_
        exact g_none
    refine g_tcase hC (i := (14 : Int32)) (533) 566 dL_law_33 (by decide) (by decide) (by decide) (by decide) ?_ (fun hn14 => ?_)
    · refine g_aload_n hC 1 dL_law_566 rfl rfl ?_
      refine g_aload_n hC 0 dL_law_567 rfl rfl ?_
      refine g_iload_n hC 3 dL_law_568 rfl rfl ?_
      refine g_iconst hC (v := (1 : Int32)) dL_law_569 (by decide) ?_
      refine g_iadd hC dL_law_570 ?_
      refine g_sld hC hX hbl hbA dL_law_571 ?_
      refine g_aload_n hC 0 dL_law_572 rfl rfl ?_
      refine g_iload_n hC 3 dL_law_573 rfl rfl ?_
      refine g_iconst hC (v := (2 : Int32)) dL_law_574 (by decide) ?_
      refine g_iadd hC dL_law_575 ?_
      refine g_sld hC hX hbl hbA dL_law_576 ?_
      refine g_callv hC (st := []) (c := 7) rfl (by decide) rfl (ctX7_steps x F (xs (ix (p1 + (1 : Int32)))) (xs (ix (p1 + (2 : Int32)))) M2) mvX7_steps m_617 (by decide) rfl rfl (Nat.le_of_ble_eq_true rfl) dL_law_577 (fun r35 => ?_)
      show GG x f 4 (Ql f) 580 [(0, .ref b), (1, .ref (x.1 0)), (2, .ref (x.1 37)), (3, .int p1)] [.int (r35.1)] r35.2 _
      refine g_aload_n hC 2 dL_law_580 rfl rfl ?_
      refine g_aload_n hC 0 dL_law_581 rfl rfl ?_
      refine g_iload_n hC 3 dL_law_582 rfl rfl ?_
      refine g_iconst hC (v := (1 : Int32)) dL_law_583 (by decide) ?_
      refine g_iadd hC dL_law_584 ?_
      refine g_sld hC hX hbl hbA dL_law_585 ?_
      refine g_aload_n hC 0 dL_law_586 rfl rfl ?_
      refine g_iload_n hC 3 dL_law_587 rfl rfl ?_
      refine g_iconst hC (v := (2 : Int32)) dL_law_588 (by decide) ?_
      refine g_iadd hC dL_law_589 ?_
      refine g_sld hC hX hbl hbA dL_law_590 ?_
      refine g_callv hC (st := [.int (r35.1)]) (c := 8) rfl (by decide) rfl (ctX8_steps x F (xs (ix (p1 + (1 : Int32)))) (xs (ix (p1 + (2 : Int32)))) r35.2) mvX8_steps m_1145 (by decide) rfl rfl (Nat.le_of_ble_eq_true rfl) dL_law_591 (fun r36 => ?_)
      show GG x f 4 (Ql f) 594 [(0, .ref b), (1, .ref (x.1 0)), (2, .ref (x.1 37)), (3, .int p1)] [.int (r36.1), .int (r35.1)] r36.2 _
      refine g_icmp_eq hC 1312 dL_law_594 (by decide) ?_ ?_
      · exact hJ5 r36.2
      · refine g_iconst hC (v := (0 : Int32)) dL_law_597 (by decide) ?_
        exact g_none
    refine g_tcase hC (i := (15 : Int32)) (566) 599 dL_law_33 (by decide) (by decide) (by decide) (by decide) ?_ (fun hn15 => ?_)
    · refine g_aload_n hC 1 dL_law_599 rfl rfl ?_
      refine g_aload_n hC 0 dL_law_600 rfl rfl ?_
      refine g_iload_n hC 3 dL_law_601 rfl rfl ?_
      refine g_iconst hC (v := (1 : Int32)) dL_law_602 (by decide) ?_
      refine g_iadd hC dL_law_603 ?_
      refine g_sld hC hX hbl hbA dL_law_604 ?_
      refine g_aload_n hC 0 dL_law_605 rfl rfl ?_
      refine g_iload_n hC 3 dL_law_606 rfl rfl ?_
      refine g_iconst hC (v := (2 : Int32)) dL_law_607 (by decide) ?_
      refine g_iadd hC dL_law_608 ?_
      refine g_sld hC hX hbl hbA dL_law_609 ?_
      refine g_callv hC (st := []) (c := 7) rfl (by decide) rfl (ctX7_returns x F (xs (ix (p1 + (1 : Int32)))) (xs (ix (p1 + (2 : Int32)))) M2) mvX7_returns m_625 (by decide) rfl rfl (Nat.le_of_ble_eq_true rfl) dL_law_610 (fun r37 => ?_)
      show GG x f 4 (Ql f) 613 [(0, .ref b), (1, .ref (x.1 0)), (2, .ref (x.1 37)), (3, .int p1)] [.int (r37.1)] r37.2 _
      refine g_aload_n hC 2 dL_law_613 rfl rfl ?_
      refine g_aload_n hC 0 dL_law_614 rfl rfl ?_
      refine g_iload_n hC 3 dL_law_615 rfl rfl ?_
      refine g_iconst hC (v := (1 : Int32)) dL_law_616 (by decide) ?_
      refine g_iadd hC dL_law_617 ?_
      refine g_sld hC hX hbl hbA dL_law_618 ?_
      refine g_aload_n hC 0 dL_law_619 rfl rfl ?_
      refine g_iload_n hC 3 dL_law_620 rfl rfl ?_
      refine g_iconst hC (v := (2 : Int32)) dL_law_621 (by decide) ?_
      refine g_iadd hC dL_law_622 ?_
      refine g_sld hC hX hbl hbA dL_law_623 ?_
      refine g_callv hC (st := [.int (r37.1)]) (c := 8) rfl (by decide) rfl (ctX8_returns x F (xs (ix (p1 + (1 : Int32)))) (xs (ix (p1 + (2 : Int32)))) r37.2) mvX8_returns m_1153 (by decide) rfl rfl (Nat.le_of_ble_eq_true rfl) dL_law_624 (fun r38 => ?_)
      show GG x f 4 (Ql f) 627 [(0, .ref b), (1, .ref (x.1 0)), (2, .ref (x.1 37)), (3, .int p1)] [.int (r38.1), .int (r37.1)] r38.2 _
      refine g_icmp_eq hC 1312 dL_law_627 (by decide) ?_ ?_
      · exact hJ5 r38.2
      · refine g_iconst hC (v := (0 : Int32)) dL_law_630 (by decide) ?_
        exact g_none
    refine g_tcase hC (i := (16 : Int32)) (599) 632 dL_law_33 (by decide) (by decide) (by decide) (by decide) ?_ (fun hn16 => ?_)
    · refine g_aload_n hC 1 dL_law_632 rfl rfl ?_
      refine g_aload_n hC 0 dL_law_633 rfl rfl ?_
      refine g_iload_n hC 3 dL_law_634 rfl rfl ?_
      refine g_iconst hC (v := (1 : Int32)) dL_law_635 (by decide) ?_
      refine g_iadd hC dL_law_636 ?_
      refine g_sld hC hX hbl hbA dL_law_637 ?_
      refine g_callv hC (st := []) (c := 7) rfl (by decide) rfl (ctX7_hangs x F (xs (ix (p1 + (1 : Int32)))) M2) mvX7_hangs m_633 (by decide) rfl rfl (Nat.le_of_ble_eq_true rfl) dL_law_638 (fun r39 => ?_)
      show GG x f 4 (Ql f) 641 [(0, .ref b), (1, .ref (x.1 0)), (2, .ref (x.1 37)), (3, .int p1)] [.int (r39.1)] r39.2 _
      refine g_aload_n hC 2 dL_law_641 rfl rfl ?_
      refine g_aload_n hC 0 dL_law_642 rfl rfl ?_
      refine g_iload_n hC 3 dL_law_643 rfl rfl ?_
      refine g_iconst hC (v := (1 : Int32)) dL_law_644 (by decide) ?_
      refine g_iadd hC dL_law_645 ?_
      refine g_sld hC hX hbl hbA dL_law_646 ?_
      refine g_callv hC (st := [.int (r39.1)]) (c := 8) rfl (by decide) rfl (ctX8_hangs x F (xs (ix (p1 + (1 : Int32)))) r39.2) mvX8_hangs m_1161 (by decide) rfl rfl (Nat.le_of_ble_eq_true rfl) dL_law_647 (fun r40 => ?_)
      show GG x f 4 (Ql f) 650 [(0, .ref b), (1, .ref (x.1 0)), (2, .ref (x.1 37)), (3, .int p1)] [.int (r40.1), .int (r39.1)] r40.2 _
      refine g_icmp_eq hC 1312 dL_law_650 (by decide) ?_ ?_
      · exact hJ5 r40.2
      · refine g_iconst hC (v := (0 : Int32)) dL_law_653 (by decide) ?_
        exact g_none
    refine g_tcase hC (i := (17 : Int32)) (622) 655 dL_law_33 (by decide) (by decide) (by decide) (by decide) ?_ (fun hn17 => ?_)
    · refine g_aload_n hC 1 dL_law_655 rfl rfl ?_
      refine g_callv hC (st := []) (c := 7) rfl (by decide) rfl (ctX7_rings x F M2) mvX7_rings m_641 (by decide) rfl rfl (Nat.le_of_ble_eq_true rfl) dL_law_656 (fun r41 => ?_)
      show GG x f 4 (Ql f) 659 [(0, .ref b), (1, .ref (x.1 0)), (2, .ref (x.1 37)), (3, .int p1)] [.int (r41.1)] r41.2 _
      refine g_aload_n hC 2 dL_law_659 rfl rfl ?_
      refine g_callv hC (st := [.int (r41.1)]) (c := 8) rfl (by decide) rfl (ctX8_rings x F r41.2) mvX8_rings m_1173 (by decide) rfl rfl (Nat.le_of_ble_eq_true rfl) dL_law_660 (fun r42 => ?_)
      show GG x f 4 (Ql f) 663 [(0, .ref b), (1, .ref (x.1 0)), (2, .ref (x.1 37)), (3, .int p1)] [.int (r42.1), .int (r41.1)] r42.2 _
      refine g_icmp_eq hC 1312 dL_law_663 (by decide) ?_ ?_
      · exact hJ5 r42.2
      · refine g_iconst hC (v := (0 : Int32)) dL_law_666 (by decide) ?_
        exact g_none
    refine g_tcase hC (i := (18 : Int32)) (635) 668 dL_law_33 (by decide) (by decide) (by decide) (by decide) ?_ (fun hn18 => ?_)
    · refine g_aload_n hC 1 dL_law_668 rfl rfl ?_
      refine g_aload_n hC 0 dL_law_669 rfl rfl ?_
      refine g_iload_n hC 3 dL_law_670 rfl rfl ?_
      refine g_iconst hC (v := (1 : Int32)) dL_law_671 (by decide) ?_
      refine g_iadd hC dL_law_672 ?_
      refine g_sld hC hX hbl hbA dL_law_673 ?_
      refine g_aload_n hC 0 dL_law_674 rfl rfl ?_
      refine g_iload_n hC 3 dL_law_675 rfl rfl ?_
      refine g_iconst hC (v := (2 : Int32)) dL_law_676 (by decide) ?_
      refine g_iadd hC dL_law_677 ?_
      refine g_sld hC hX hbl hbA dL_law_678 ?_
      refine g_aload_n hC 0 dL_law_679 rfl rfl ?_
      refine g_iload_n hC 3 dL_law_680 rfl rfl ?_
      refine g_iconst hC (v := (3 : Int32)) dL_law_681 (by decide) ?_
      refine g_iadd hC dL_law_682 ?_
      refine g_sld hC hX hbl hbA dL_law_683 ?_
      refine g_callv hC (st := []) (c := 7) rfl (by decide) rfl (ctX7_had x F (xs (ix (p1 + (1 : Int32)))) (xs (ix (p1 + (2 : Int32)))) (xs (ix (p1 + (3 : Int32)))) M2) mvX7_had m_650 (by decide) rfl rfl (Nat.le_of_ble_eq_true rfl) dL_law_684 (fun r43 => ?_)
      show GG x f 4 (Ql f) 687 [(0, .ref b), (1, .ref (x.1 0)), (2, .ref (x.1 37)), (3, .int p1)] [.int r43] M2 _
      refine g_aload_n hC 2 dL_law_687 rfl rfl ?_
      refine g_aload_n hC 0 dL_law_688 rfl rfl ?_
      refine g_iload_n hC 3 dL_law_689 rfl rfl ?_
      refine g_iconst hC (v := (1 : Int32)) dL_law_690 (by decide) ?_
      refine g_iadd hC dL_law_691 ?_
      refine g_sld hC hX hbl hbA dL_law_692 ?_
      refine g_aload_n hC 0 dL_law_693 rfl rfl ?_
      refine g_iload_n hC 3 dL_law_694 rfl rfl ?_
      refine g_iconst hC (v := (2 : Int32)) dL_law_695 (by decide) ?_
      refine g_iadd hC dL_law_696 ?_
      refine g_sld hC hX hbl hbA dL_law_697 ?_
      refine g_aload_n hC 0 dL_law_698 rfl rfl ?_
      refine g_iload_n hC 3 dL_law_699 rfl rfl ?_
      refine g_iconst hC (v := (3 : Int32)) dL_law_700 (by decide) ?_
      refine g_iadd hC dL_law_701 ?_
      refine g_sld hC hX hbl hbA dL_law_702 ?_
      refine g_callv hC (st := [.int r43]) (c := 8) rfl (by decide) rfl (ctX8_had x F (xs (ix (p1 + (1 : Int32)))) (xs (ix (p1 + (2 : Int32)))) (xs (ix (p1 + (3 : Int32)))) M2) mvX8_had m_1181 (by decide) rfl rfl (Nat.le_of_ble_eq_true rfl) dL_law_703 (fun r44 => ?_)
      show GG x f 4 (Ql f) 706 [(0, .ref b), (1, .ref (x.1 0)), (2, .ref (x.1 37)), (3, .int p1)] [.int (r44.1), .int r43] r44.2 _
      refine g_icmp_eq hC 1312 dL_law_706 (by decide) ?_ ?_
      · exact hJ5 r44.2
      · refine g_iconst hC (v := (0 : Int32)) dL_law_709 (by decide) ?_
        exact g_none
    refine g_tcase hC (i := (19 : Int32)) (678) 711 dL_law_33 (by decide) (by decide) (by decide) (by decide) ?_ (fun hn19 => ?_)
    · refine g_aload_n hC 1 dL_law_711 rfl rfl ?_
      refine g_aload_n hC 0 dL_law_712 rfl rfl ?_
      refine g_iload_n hC 3 dL_law_713 rfl rfl ?_
      refine g_iconst hC (v := (1 : Int32)) dL_law_714 (by decide) ?_
      refine g_iadd hC dL_law_715 ?_
      refine g_sld hC hX hbl hbA dL_law_716 ?_
      refine g_aload_n hC 0 dL_law_717 rfl rfl ?_
      refine g_iload_n hC 3 dL_law_718 rfl rfl ?_
      refine g_iconst hC (v := (2 : Int32)) dL_law_719 (by decide) ?_
      refine g_iadd hC dL_law_720 ?_
      refine g_sld hC hX hbl hbA dL_law_721 ?_
      refine g_aload_n hC 0 dL_law_722 rfl rfl ?_
      refine g_iload_n hC 3 dL_law_723 rfl rfl ?_
      refine g_iconst hC (v := (3 : Int32)) dL_law_724 (by decide) ?_
      refine g_iadd hC dL_law_725 ?_
      refine g_sld hC hX hbl hbA dL_law_726 ?_
      refine g_callv hC (st := []) (c := 7) rfl (by decide) rfl (ctX7_asked x F (xs (ix (p1 + (1 : Int32)))) (xs (ix (p1 + (2 : Int32)))) (xs (ix (p1 + (3 : Int32)))) M2) mvX7_asked m_662 (by decide) rfl rfl (Nat.le_of_ble_eq_true rfl) dL_law_727 (fun r45 => ?_)
      show GG x f 4 (Ql f) 730 [(0, .ref b), (1, .ref (x.1 0)), (2, .ref (x.1 37)), (3, .int p1)] [.int r45] M2 _
      refine g_aload_n hC 2 dL_law_730 rfl rfl ?_
      refine g_aload_n hC 0 dL_law_731 rfl rfl ?_
      refine g_iload_n hC 3 dL_law_732 rfl rfl ?_
      refine g_iconst hC (v := (1 : Int32)) dL_law_733 (by decide) ?_
      refine g_iadd hC dL_law_734 ?_
      refine g_sld hC hX hbl hbA dL_law_735 ?_
      refine g_aload_n hC 0 dL_law_736 rfl rfl ?_
      refine g_iload_n hC 3 dL_law_737 rfl rfl ?_
      refine g_iconst hC (v := (2 : Int32)) dL_law_738 (by decide) ?_
      refine g_iadd hC dL_law_739 ?_
      refine g_sld hC hX hbl hbA dL_law_740 ?_
      refine g_aload_n hC 0 dL_law_741 rfl rfl ?_
      refine g_iload_n hC 3 dL_law_742 rfl rfl ?_
      refine g_iconst hC (v := (3 : Int32)) dL_law_743 (by decide) ?_
      refine g_iadd hC dL_law_744 ?_
      refine g_sld hC hX hbl hbA dL_law_745 ?_
      refine g_callv hC (st := [.int r45]) (c := 8) rfl (by decide) rfl (ctX8_asked x F (xs (ix (p1 + (1 : Int32)))) (xs (ix (p1 + (2 : Int32)))) (xs (ix (p1 + (3 : Int32)))) M2) mvX8_asked m_1195 (by decide) rfl rfl (Nat.le_of_ble_eq_true rfl) dL_law_746 (fun r46 => ?_)
      show GG x f 4 (Ql f) 749 [(0, .ref b), (1, .ref (x.1 0)), (2, .ref (x.1 37)), (3, .int p1)] [.int (r46.1), .int r45] r46.2 _
      refine g_icmp_eq hC 1312 dL_law_749 (by decide) ?_ ?_
      · exact hJ5 r46.2
      · refine g_iconst hC (v := (0 : Int32)) dL_law_752 (by decide) ?_
        exact g_none
    refine g_tcase hC (i := (20 : Int32)) (721) 754 dL_law_33 (by decide) (by decide) (by decide) (by decide) ?_ (fun hn20 => ?_)
    · refine g_aload_n hC 1 dL_law_754 rfl rfl ?_
      refine g_aload_n hC 0 dL_law_755 rfl rfl ?_
      refine g_iload_n hC 3 dL_law_756 rfl rfl ?_
      refine g_iconst hC (v := (1 : Int32)) dL_law_757 (by decide) ?_
      refine g_iadd hC dL_law_758 ?_
      refine g_sld hC hX hbl hbA dL_law_759 ?_
      refine g_aload_n hC 0 dL_law_760 rfl rfl ?_
      refine g_iload_n hC 3 dL_law_761 rfl rfl ?_
      refine g_iconst hC (v := (2 : Int32)) dL_law_762 (by decide) ?_
      refine g_iadd hC dL_law_763 ?_
      refine g_sld hC hX hbl hbA dL_law_764 ?_
      refine g_callv hC (st := []) (c := 7) rfl (by decide) rfl (ctX7_open x F (xs (ix (p1 + (1 : Int32)))) (xs (ix (p1 + (2 : Int32)))) M2) mvX7_open m_666 (by decide) rfl rfl (Nat.le_of_ble_eq_true rfl) dL_law_765 (fun r47 => ?_)
      show GG x f 4 (Ql f) 768 [(0, .ref b), (1, .ref (x.1 0)), (2, .ref (x.1 37)), (3, .int p1)] [.int r47] M2 _
      refine g_aload_n hC 2 dL_law_768 rfl rfl ?_
      refine g_aload_n hC 0 dL_law_769 rfl rfl ?_
      refine g_iload_n hC 3 dL_law_770 rfl rfl ?_
      refine g_iconst hC (v := (1 : Int32)) dL_law_771 (by decide) ?_
      refine g_iadd hC dL_law_772 ?_
      refine g_sld hC hX hbl hbA dL_law_773 ?_
      refine g_aload_n hC 0 dL_law_774 rfl rfl ?_
      refine g_iload_n hC 3 dL_law_775 rfl rfl ?_
      refine g_iconst hC (v := (2 : Int32)) dL_law_776 (by decide) ?_
      refine g_iadd hC dL_law_777 ?_
      refine g_sld hC hX hbl hbA dL_law_778 ?_
      refine g_callv hC (st := [.int r47]) (c := 8) rfl (by decide) rfl (ctX8_open x F (xs (ix (p1 + (1 : Int32)))) (xs (ix (p1 + (2 : Int32)))) M2) mvX8_open m_1203 (by decide) rfl rfl (Nat.le_of_ble_eq_true rfl) dL_law_779 (fun r48 => ?_)
      show GG x f 4 (Ql f) 782 [(0, .ref b), (1, .ref (x.1 0)), (2, .ref (x.1 37)), (3, .int p1)] [.int (r48.1), .int r47] r48.2 _
      refine g_icmp_eq hC 1312 dL_law_782 (by decide) ?_ ?_
      · exact hJ5 r48.2
      · refine g_iconst hC (v := (0 : Int32)) dL_law_785 (by decide) ?_
        exact g_none
    refine g_tcase hC (i := (21 : Int32)) (754) 787 dL_law_33 (by decide) (by decide) (by decide) (by decide) ?_ (fun hn21 => ?_)
    · refine g_aload_n hC 1 dL_law_787 rfl rfl ?_
      refine g_aload_n hC 0 dL_law_788 rfl rfl ?_
      refine g_iload_n hC 3 dL_law_789 rfl rfl ?_
      refine g_iconst hC (v := (1 : Int32)) dL_law_790 (by decide) ?_
      refine g_iadd hC dL_law_791 ?_
      refine g_sld hC hX hbl hbA dL_law_792 ?_
      refine g_aload_n hC 0 dL_law_793 rfl rfl ?_
      refine g_iload_n hC 3 dL_law_794 rfl rfl ?_
      refine g_iconst hC (v := (2 : Int32)) dL_law_795 (by decide) ?_
      refine g_iadd hC dL_law_796 ?_
      refine g_sld hC hX hbl hbA dL_law_797 ?_
      refine g_callv hC (st := []) (c := 7) rfl (by decide) rfl (ctX7_best x F (xs (ix (p1 + (1 : Int32)))) (xs (ix (p1 + (2 : Int32)))) M2) mvX7_best m_670 (by decide) rfl rfl (Nat.le_of_ble_eq_true rfl) dL_law_798 (fun r49 => ?_)
      show GG x f 4 (Ql f) 801 [(0, .ref b), (1, .ref (x.1 0)), (2, .ref (x.1 37)), (3, .int p1)] [.int (r49.1)] r49.2 _
      refine g_aload_n hC 2 dL_law_801 rfl rfl ?_
      refine g_aload_n hC 0 dL_law_802 rfl rfl ?_
      refine g_iload_n hC 3 dL_law_803 rfl rfl ?_
      refine g_iconst hC (v := (1 : Int32)) dL_law_804 (by decide) ?_
      refine g_iadd hC dL_law_805 ?_
      refine g_sld hC hX hbl hbA dL_law_806 ?_
      refine g_aload_n hC 0 dL_law_807 rfl rfl ?_
      refine g_iload_n hC 3 dL_law_808 rfl rfl ?_
      refine g_iconst hC (v := (2 : Int32)) dL_law_809 (by decide) ?_
      refine g_iadd hC dL_law_810 ?_
      refine g_sld hC hX hbl hbA dL_law_811 ?_
      refine g_callv hC (st := [.int (r49.1)]) (c := 8) rfl (by decide) rfl (ctX8_best x F (xs (ix (p1 + (1 : Int32)))) (xs (ix (p1 + (2 : Int32)))) r49.2) mvX8_best m_1211 (by decide) rfl rfl (Nat.le_of_ble_eq_true rfl) dL_law_812 (fun r50 => ?_)
      show GG x f 4 (Ql f) 815 [(0, .ref b), (1, .ref (x.1 0)), (2, .ref (x.1 37)), (3, .int p1)] [.int (r50.1), .int (r49.1)] r50.2 _
      refine g_icmp_eq hC 1312 dL_law_815 (by decide) ?_ ?_
      · exact hJ5 r50.2
      · refine g_iconst hC (v := (0 : Int32)) dL_law_818 (by decide) ?_
        exact g_none
    refine g_tcase hC (i := (22 : Int32)) (787) 820 dL_law_33 (by decide) (by decide) (by decide) (by decide) ?_ (fun hn22 => ?_)
    · refine g_aload_n hC 1 dL_law_820 rfl rfl ?_
      refine g_aload_n hC 0 dL_law_821 rfl rfl ?_
      refine g_iload_n hC 3 dL_law_822 rfl rfl ?_
      refine g_iconst hC (v := (1 : Int32)) dL_law_823 (by decide) ?_
      refine g_iadd hC dL_law_824 ?_
      refine g_sld hC hX hbl hbA dL_law_825 ?_
      refine g_aload_n hC 0 dL_law_826 rfl rfl ?_
      refine g_iload_n hC 3 dL_law_827 rfl rfl ?_
      refine g_iconst hC (v := (2 : Int32)) dL_law_828 (by decide) ?_
      refine g_iadd hC dL_law_829 ?_
      refine g_sld hC hX hbl hbA dL_law_830 ?_
      refine g_callv hC (st := []) (c := 7) rfl (by decide) rfl (ctX7_rest x F (xs (ix (p1 + (1 : Int32)))) (xs (ix (p1 + (2 : Int32)))) M2) mvX7_rest m_682 (by decide) rfl rfl (Nat.le_of_ble_eq_true rfl) dL_law_831 (fun r51 => ?_)
      show GG x f 4 (Ql f) 834 [(0, .ref b), (1, .ref (x.1 0)), (2, .ref (x.1 37)), (3, .int p1)] [.int (r51.1)] r51.2 _
      refine g_aload_n hC 2 dL_law_834 rfl rfl ?_
      refine g_aload_n hC 0 dL_law_835 rfl rfl ?_
      refine g_iload_n hC 3 dL_law_836 rfl rfl ?_
      refine g_iconst hC (v := (1 : Int32)) dL_law_837 (by decide) ?_
      refine g_iadd hC dL_law_838 ?_
      refine g_sld hC hX hbl hbA dL_law_839 ?_
      refine g_aload_n hC 0 dL_law_840 rfl rfl ?_
      refine g_iload_n hC 3 dL_law_841 rfl rfl ?_
      refine g_iconst hC (v := (2 : Int32)) dL_law_842 (by decide) ?_
      refine g_iadd hC dL_law_843 ?_
      refine g_sld hC hX hbl hbA dL_law_844 ?_
      refine g_callv hC (st := [.int (r51.1)]) (c := 8) rfl (by decide) rfl (ctX8_rest x F (xs (ix (p1 + (1 : Int32)))) (xs (ix (p1 + (2 : Int32)))) r51.2) mvX8_rest m_1227 (by decide) rfl rfl (Nat.le_of_ble_eq_true rfl) dL_law_845 (fun r52 => ?_)
      show GG x f 4 (Ql f) 848 [(0, .ref b), (1, .ref (x.1 0)), (2, .ref (x.1 37)), (3, .int p1)] [.int (r52.1), .int (r51.1)] r52.2 _
      refine g_icmp_eq hC 1312 dL_law_848 (by decide) ?_ ?_
      · exact hJ5 r52.2
      · refine g_iconst hC (v := (0 : Int32)) dL_law_851 (by decide) ?_
        exact g_none
    refine g_tcase hC (i := (23 : Int32)) (820) 853 dL_law_33 (by decide) (by decide) (by decide) (by decide) ?_ (fun hn23 => ?_)
    · refine g_aload_n hC 1 dL_law_853 rfl rfl ?_
      refine g_aload_n hC 0 dL_law_854 rfl rfl ?_
      refine g_iload_n hC 3 dL_law_855 rfl rfl ?_
      refine g_iconst hC (v := (1 : Int32)) dL_law_856 (by decide) ?_
      refine g_iadd hC dL_law_857 ?_
      refine g_sld hC hX hbl hbA dL_law_858 ?_
      refine g_callv hC (st := []) (c := 7) rfl (by decide) rfl (ctX7_owed x F (xs (ix (p1 + (1 : Int32)))) M2) mvX7_owed m_694 (by decide) rfl rfl (Nat.le_of_ble_eq_true rfl) dL_law_859 (fun r53 => ?_)
      show GG x f 4 (Ql f) 862 [(0, .ref b), (1, .ref (x.1 0)), (2, .ref (x.1 37)), (3, .int p1)] [.int (r53.1)] r53.2 _
      refine g_aload_n hC 2 dL_law_862 rfl rfl ?_
      refine g_aload_n hC 0 dL_law_863 rfl rfl ?_
      refine g_iload_n hC 3 dL_law_864 rfl rfl ?_
      refine g_iconst hC (v := (1 : Int32)) dL_law_865 (by decide) ?_
      refine g_iadd hC dL_law_866 ?_
      refine g_sld hC hX hbl hbA dL_law_867 ?_
      refine g_callv hC (st := [.int (r53.1)]) (c := 8) rfl (by decide) rfl (ctX8_owed x F (xs (ix (p1 + (1 : Int32)))) r53.2) mvX8_owed m_1235 (by decide) rfl rfl (Nat.le_of_ble_eq_true rfl) dL_law_868 (fun r54 => ?_)
      show GG x f 4 (Ql f) 871 [(0, .ref b), (1, .ref (x.1 0)), (2, .ref (x.1 37)), (3, .int p1)] [.int (r54.1), .int (r53.1)] r54.2 _
      refine g_icmp_eq hC 1312 dL_law_871 (by decide) ?_ ?_
      · exact hJ5 r54.2
      · refine g_iconst hC (v := (0 : Int32)) dL_law_874 (by decide) ?_
        exact g_none
    refine g_tcase hC (i := (24 : Int32)) (843) 876 dL_law_33 (by decide) (by decide) (by decide) (by decide) ?_ (fun hn24 => ?_)
    · refine g_aload_n hC 1 dL_law_876 rfl rfl ?_
      refine g_callv hC (st := []) (c := 7) rfl (by decide) rfl (ctX7_lack x F M2) mvX7_lack m_727 (by decide) rfl rfl (Nat.le_of_ble_eq_true rfl) dL_law_877 (fun r55 => ?_)
      show GG x f 4 (Ql f) 880 [(0, .ref b), (1, .ref (x.1 0)), (2, .ref (x.1 37)), (3, .int p1)] [.int (r55.1)] r55.2 _
      refine g_aload_n hC 2 dL_law_880 rfl rfl ?_
      refine g_callv hC (st := [.int (r55.1)]) (c := 8) rfl (by decide) rfl (ctX8_lack x F r55.2) mvX8_lack m_1247 (by decide) rfl rfl (Nat.le_of_ble_eq_true rfl) dL_law_881 (fun r56 => ?_)
      show GG x f 4 (Ql f) 884 [(0, .ref b), (1, .ref (x.1 0)), (2, .ref (x.1 37)), (3, .int p1)] [.int (r56.1), .int (r55.1)] r56.2 _
      refine g_icmp_eq hC 1312 dL_law_884 (by decide) ?_ ?_
      · exact hJ5 r56.2
      · refine g_iconst hC (v := (0 : Int32)) dL_law_887 (by decide) ?_
        exact g_none
    refine g_tcase hC (i := (25 : Int32)) (856) 889 dL_law_33 (by decide) (by decide) (by decide) (by decide) ?_ (fun hn25 => ?_)
    · refine g_aload_n hC 1 dL_law_889 rfl rfl ?_
      refine g_callv hC (st := []) (c := 7) rfl (by decide) rfl (ctX7_unasked x F M2) mvX7_unasked m_735 (by decide) rfl rfl (Nat.le_of_ble_eq_true rfl) dL_law_890 (fun r57 => ?_)
      show GG x f 4 (Ql f) 893 [(0, .ref b), (1, .ref (x.1 0)), (2, .ref (x.1 37)), (3, .int p1)] [.int (r57.1)] r57.2 _
      refine g_aload_n hC 2 dL_law_893 rfl rfl ?_
      refine g_callv hC (st := [.int (r57.1)]) (c := 8) rfl (by decide) rfl (ctX8_unasked x F r57.2) mvX8_unasked m_1255 (by decide) rfl rfl (Nat.le_of_ble_eq_true rfl) dL_law_894 (fun r58 => ?_)
      show GG x f 4 (Ql f) 897 [(0, .ref b), (1, .ref (x.1 0)), (2, .ref (x.1 37)), (3, .int p1)] [.int (r58.1), .int (r57.1)] r58.2 _
      refine g_icmp_eq hC 1312 dL_law_897 (by decide) ?_ ?_
      · exact hJ5 r58.2
      · refine g_iconst hC (v := (0 : Int32)) dL_law_900 (by decide) ?_
        exact g_none
    refine g_tcase hC (i := (26 : Int32)) (869) 902 dL_law_33 (by decide) (by decide) (by decide) (by decide) ?_ (fun hn26 => ?_)
    · refine g_aload_n hC 1 dL_law_902 rfl rfl ?_
      refine g_aload_n hC 0 dL_law_903 rfl rfl ?_
      refine g_iload_n hC 3 dL_law_904 rfl rfl ?_
      refine g_iconst hC (v := (1 : Int32)) dL_law_905 (by decide) ?_
      refine g_iadd hC dL_law_906 ?_
      refine g_sld hC hX hbl hbA dL_law_907 ?_
      refine g_callv hC (st := []) (c := 7) rfl (by decide) rfl (ctX7_fines x F (xs (ix (p1 + (1 : Int32)))) M2) mvX7_fines m_743 (by decide) rfl rfl (Nat.le_of_ble_eq_true rfl) dL_law_908 (fun r59 => ?_)
      show GG x f 4 (Ql f) 911 [(0, .ref b), (1, .ref (x.1 0)), (2, .ref (x.1 37)), (3, .int p1)] [.int (r59.1)] r59.2 _
      refine g_aload_n hC 2 dL_law_911 rfl rfl ?_
      refine g_aload_n hC 0 dL_law_912 rfl rfl ?_
      refine g_iload_n hC 3 dL_law_913 rfl rfl ?_
      refine g_iconst hC (v := (1 : Int32)) dL_law_914 (by decide) ?_
      refine g_iadd hC dL_law_915 ?_
      refine g_sld hC hX hbl hbA dL_law_916 ?_
      refine g_callv hC (st := [.int (r59.1)]) (c := 8) rfl (by decide) rfl (ctX8_fines x F (xs (ix (p1 + (1 : Int32)))) r59.2) mvX8_fines m_1263 (by decide) rfl rfl (Nat.le_of_ble_eq_true rfl) dL_law_917 (fun r60 => ?_)
      show GG x f 4 (Ql f) 920 [(0, .ref b), (1, .ref (x.1 0)), (2, .ref (x.1 37)), (3, .int p1)] [.int (r60.1), .int (r59.1)] r60.2 _
      refine g_icmp_eq hC 1312 dL_law_920 (by decide) ?_ ?_
      · exact hJ5 r60.2
      · refine g_iconst hC (v := (0 : Int32)) dL_law_923 (by decide) ?_
        exact g_none
    refine g_tcase hC (i := (27 : Int32)) (892) 925 dL_law_33 (by decide) (by decide) (by decide) (by decide) ?_ (fun hn27 => ?_)
    · refine g_aload_n hC 1 dL_law_925 rfl rfl ?_
      refine g_aload_n hC 0 dL_law_926 rfl rfl ?_
      refine g_iload_n hC 3 dL_law_927 rfl rfl ?_
      refine g_iconst hC (v := (1 : Int32)) dL_law_928 (by decide) ?_
      refine g_iadd hC dL_law_929 ?_
      refine g_sld hC hX hbl hbA dL_law_930 ?_
      refine g_aload_n hC 0 dL_law_931 rfl rfl ?_
      refine g_iload_n hC 3 dL_law_932 rfl rfl ?_
      refine g_iconst hC (v := (2 : Int32)) dL_law_933 (by decide) ?_
      refine g_iadd hC dL_law_934 ?_
      refine g_sld hC hX hbl hbA dL_law_935 ?_
      refine g_callv hC (st := []) (c := 7) rfl (by decide) rfl (ctX7_seen x F (xs (ix (p1 + (1 : Int32)))) (xs (ix (p1 + (2 : Int32)))) M2) mvX7_seen m_747 (by decide) rfl rfl (Nat.le_of_ble_eq_true rfl) dL_law_936 (fun r61 => ?_)
      show GG x f 4 (Ql f) 939 [(0, .ref b), (1, .ref (x.1 0)), (2, .ref (x.1 37)), (3, .int p1)] [.int (r61.1)] r61.2 _
      refine g_aload_n hC 2 dL_law_939 rfl rfl ?_
      refine g_aload_n hC 0 dL_law_940 rfl rfl ?_
      refine g_iload_n hC 3 dL_law_941 rfl rfl ?_
      refine g_iconst hC (v := (1 : Int32)) dL_law_942 (by decide) ?_
      refine g_iadd hC dL_law_943 ?_
      refine g_sld hC hX hbl hbA dL_law_944 ?_
      refine g_aload_n hC 0 dL_law_945 rfl rfl ?_
      refine g_iload_n hC 3 dL_law_946 rfl rfl ?_
      refine g_iconst hC (v := (2 : Int32)) dL_law_947 (by decide) ?_
      refine g_iadd hC dL_law_948 ?_
      refine g_sld hC hX hbl hbA dL_law_949 ?_
      refine g_callv hC (st := [.int (r61.1)]) (c := 8) rfl (by decide) rfl (ctX8_seen x F (xs (ix (p1 + (1 : Int32)))) (xs (ix (p1 + (2 : Int32)))) r61.2) mvX8_seen m_1267 (by decide) rfl rfl (Nat.le_of_ble_eq_true rfl) dL_law_950 (fun r62 => ?_)
      show GG x f 4 (Ql f) 953 [(0, .ref b), (1, .ref (x.1 0)), (2, .ref (x.1 37)), (3, .int p1)] [.int (r62.1), .int (r61.1)] r62.2 _
      refine g_icmp_eq hC 1312 dL_law_953 (by decide) ?_ ?_
      · exact hJ5 r62.2
      · refine g_iconst hC (v := (0 : Int32)) dL_law_956 (by decide) ?_
        exact g_none
    refine g_tcase hC (i := (28 : Int32)) (925) 958 dL_law_33 (by decide) (by decide) (by decide) (by decide) ?_ (fun hn28 => ?_)
    · refine g_aload_n hC 1 dL_law_958 rfl rfl ?_
      refine g_callv hC (st := []) (c := 7) rfl (by decide) rfl (ctX7_forget x F M2) mvX7_forget m_751 (by decide) rfl rfl (Nat.le_of_ble_eq_true rfl) dL_law_959 (fun r63 => ?_)
      show GG x f 4 (Ql f) 962 [(0, .ref b), (1, .ref (x.1 0)), (2, .ref (x.1 37)), (3, .int p1)] [.int (r63.1)] r63.2 _
      refine g_aload_n hC 2 dL_law_962 rfl rfl ?_
      refine g_callv hC (st := [.int (r63.1)]) (c := 8) rfl (by decide) rfl (ctX8_forget x F r63.2) mvX8_forget m_1268 (by decide) rfl rfl (Nat.le_of_ble_eq_true rfl) dL_law_963 (fun r64 => ?_)
      show GG x f 4 (Ql f) 966 [(0, .ref b), (1, .ref (x.1 0)), (2, .ref (x.1 37)), (3, .int p1)] [.int (r64.1), .int (r63.1)] r64.2 _
      refine g_icmp_eq hC 1312 dL_law_966 (by decide) ?_ ?_
      · exact hJ5 r64.2
      · refine g_iconst hC (v := (0 : Int32)) dL_law_969 (by decide) ?_
        exact g_none
    refine g_tcase hC (i := (29 : Int32)) (938) 971 dL_law_33 (by decide) (by decide) (by decide) (by decide) ?_ (fun hn29 => ?_)
    · refine g_aload_n hC 1 dL_law_971 rfl rfl ?_
      refine g_aload_n hC 0 dL_law_972 rfl rfl ?_
      refine g_iload_n hC 3 dL_law_973 rfl rfl ?_
      refine g_iconst hC (v := (1 : Int32)) dL_law_974 (by decide) ?_
      refine g_iadd hC dL_law_975 ?_
      refine g_sld hC hX hbl hbA dL_law_976 ?_
      refine g_callv hC (st := []) (c := 7) rfl (by decide) rfl (ctX7_refused x F (xs (ix (p1 + (1 : Int32)))) M2) mvX7_refused m_759 (by decide) rfl rfl (Nat.le_of_ble_eq_true rfl) dL_law_977 (fun r65 => ?_)
      show GG x f 4 (Ql f) 980 [(0, .ref b), (1, .ref (x.1 0)), (2, .ref (x.1 37)), (3, .int p1)] [.int (r65.1)] r65.2 _
      refine g_aload_n hC 2 dL_law_980 rfl rfl ?_
      refine g_aload_n hC 0 dL_law_981 rfl rfl ?_
      refine g_iload_n hC 3 dL_law_982 rfl rfl ?_
      refine g_iconst hC (v := (1 : Int32)) dL_law_983 (by decide) ?_
      refine g_iadd hC dL_law_984 ?_
      refine g_sld hC hX hbl hbA dL_law_985 ?_
      refine g_callv hC (st := [.int (r65.1)]) (c := 8) rfl (by decide) rfl (ctX8_refused x F (xs (ix (p1 + (1 : Int32)))) r65.2) mvX8_refused m_1272 (by decide) rfl rfl (Nat.le_of_ble_eq_true rfl) dL_law_986 (fun r66 => ?_)
      show GG x f 4 (Ql f) 989 [(0, .ref b), (1, .ref (x.1 0)), (2, .ref (x.1 37)), (3, .int p1)] [.int (r66.1), .int (r65.1)] r66.2 _
      refine g_icmp_eq hC 1312 dL_law_989 (by decide) ?_ ?_
      · exact hJ5 r66.2
      · refine g_iconst hC (v := (0 : Int32)) dL_law_992 (by decide) ?_
        exact g_none
    refine g_tcase hC (i := (30 : Int32)) (961) 994 dL_law_33 (by decide) (by decide) (by decide) (by decide) ?_ (fun hn30 => ?_)
    · refine g_aload_n hC 1 dL_law_994 rfl rfl ?_
      refine g_aload_n hC 0 dL_law_995 rfl rfl ?_
      refine g_iload_n hC 3 dL_law_996 rfl rfl ?_
      refine g_iconst hC (v := (1 : Int32)) dL_law_997 (by decide) ?_
      refine g_iadd hC dL_law_998 ?_
      refine g_sld hC hX hbl hbA dL_law_999 ?_
      refine g_aload_n hC 0 dL_law_1000 rfl rfl ?_
      refine g_iload_n hC 3 dL_law_1001 rfl rfl ?_
      refine g_iconst hC (v := (2 : Int32)) dL_law_1002 (by decide) ?_
      refine g_iadd hC dL_law_1003 ?_
      refine g_sld hC hX hbl hbA dL_law_1004 ?_
      refine g_callv hC (st := []) (c := 7) rfl (by decide) rfl (ctX7_lot x F (xs (ix (p1 + (1 : Int32)))) (xs (ix (p1 + (2 : Int32)))) M2) mvX7_lot m_767 (by decide) rfl rfl (Nat.le_of_ble_eq_true rfl) dL_law_1005 (fun r67 => ?_)
      show GG x f 4 (Ql f) 1008 [(0, .ref b), (1, .ref (x.1 0)), (2, .ref (x.1 37)), (3, .int p1)] [.int (r67.1)] r67.2 _
      refine g_aload_n hC 2 dL_law_1008 rfl rfl ?_
      refine g_aload_n hC 0 dL_law_1009 rfl rfl ?_
      refine g_iload_n hC 3 dL_law_1010 rfl rfl ?_
      refine g_iconst hC (v := (1 : Int32)) dL_law_1011 (by decide) ?_
      refine g_iadd hC dL_law_1012 ?_
      refine g_sld hC hX hbl hbA dL_law_1013 ?_
      refine g_aload_n hC 0 dL_law_1014 rfl rfl ?_
      refine g_iload_n hC 3 dL_law_1015 rfl rfl ?_
      refine g_iconst hC (v := (2 : Int32)) dL_law_1016 (by decide) ?_
      refine g_iadd hC dL_law_1017 ?_
      refine g_sld hC hX hbl hbA dL_law_1018 ?_
      refine g_callv hC (st := [.int (r67.1)]) (c := 8) rfl (by decide) rfl (ctX8_lot x F (xs (ix (p1 + (1 : Int32)))) (xs (ix (p1 + (2 : Int32)))) r67.2) mvX8_lot m_1280 (by decide) rfl rfl (Nat.le_of_ble_eq_true rfl) dL_law_1019 (fun r68 => ?_)
      show GG x f 4 (Ql f) 1022 [(0, .ref b), (1, .ref (x.1 0)), (2, .ref (x.1 37)), (3, .int p1)] [.int (r68.1), .int (r67.1)] r68.2 _
      refine g_icmp_eq hC 1312 dL_law_1022 (by decide) ?_ ?_
      · exact hJ5 r68.2
      · refine g_iconst hC (v := (0 : Int32)) dL_law_1025 (by decide) ?_
        exact g_none
    refine g_tcase hC (i := (31 : Int32)) (994) 1027 dL_law_33 (by decide) (by decide) (by decide) (by decide) ?_ (fun hn31 => ?_)
    · refine g_aload_n hC 1 dL_law_1027 rfl rfl ?_
      refine g_aload_n hC 0 dL_law_1028 rfl rfl ?_
      refine g_iload_n hC 3 dL_law_1029 rfl rfl ?_
      refine g_iconst hC (v := (1 : Int32)) dL_law_1030 (by decide) ?_
      refine g_iadd hC dL_law_1031 ?_
      refine g_sld hC hX hbl hbA dL_law_1032 ?_
      refine g_aload_n hC 0 dL_law_1033 rfl rfl ?_
      refine g_iload_n hC 3 dL_law_1034 rfl rfl ?_
      refine g_iconst hC (v := (2 : Int32)) dL_law_1035 (by decide) ?_
      refine g_iadd hC dL_law_1036 ?_
      refine g_sld hC hX hbl hbA dL_law_1037 ?_
      refine g_aload_n hC 0 dL_law_1038 rfl rfl ?_
      refine g_iload_n hC 3 dL_law_1039 rfl rfl ?_
      refine g_iconst hC (v := (3 : Int32)) dL_law_1040 (by decide) ?_
      refine g_iadd hC dL_law_1041 ?_
      refine g_sld hC hX hbl hbA dL_law_1042 ?_
      refine g_callv hC (st := []) (c := 7) rfl (by decide) rfl (ctX7_sheet x F (xs (ix (p1 + (1 : Int32)))) (xs (ix (p1 + (2 : Int32)))) (xs (ix (p1 + (3 : Int32)))) M2) mvX7_sheet m_784 (by decide) rfl rfl (Nat.le_of_ble_eq_true rfl) dL_law_1043 (fun r69 => ?_)
      show GG x f 4 (Ql f) 1046 [(0, .ref b), (1, .ref (x.1 0)), (2, .ref (x.1 37)), (3, .int p1)] [.int (r69.1)] r69.2 _
      refine g_aload_n hC 2 dL_law_1046 rfl rfl ?_
      refine g_aload_n hC 0 dL_law_1047 rfl rfl ?_
      refine g_iload_n hC 3 dL_law_1048 rfl rfl ?_
      refine g_iconst hC (v := (1 : Int32)) dL_law_1049 (by decide) ?_
      refine g_iadd hC dL_law_1050 ?_
      refine g_sld hC hX hbl hbA dL_law_1051 ?_
      refine g_aload_n hC 0 dL_law_1052 rfl rfl ?_
      refine g_iload_n hC 3 dL_law_1053 rfl rfl ?_
      refine g_iconst hC (v := (2 : Int32)) dL_law_1054 (by decide) ?_
      refine g_iadd hC dL_law_1055 ?_
      refine g_sld hC hX hbl hbA dL_law_1056 ?_
      refine g_aload_n hC 0 dL_law_1057 rfl rfl ?_
      refine g_iload_n hC 3 dL_law_1058 rfl rfl ?_
      refine g_iconst hC (v := (3 : Int32)) dL_law_1059 (by decide) ?_
      refine g_iadd hC dL_law_1060 ?_
      refine g_sld hC hX hbl hbA dL_law_1061 ?_
      refine g_callv hC (st := [.int (r69.1)]) (c := 8) rfl (by decide) rfl (ctX8_sheet x F (xs (ix (p1 + (1 : Int32)))) (xs (ix (p1 + (2 : Int32)))) (xs (ix (p1 + (3 : Int32)))) r69.2) mvX8_sheet m_1289 (by decide) rfl rfl (Nat.le_of_ble_eq_true rfl) dL_law_1062 (fun r70 => ?_)
      show GG x f 4 (Ql f) 1065 [(0, .ref b), (1, .ref (x.1 0)), (2, .ref (x.1 37)), (3, .int p1)] [.int (r70.1), .int (r69.1)] r70.2 _
      refine g_icmp_eq hC 1312 dL_law_1065 (by decide) ?_ ?_
      · exact hJ5 r70.2
      · refine g_iconst hC (v := (0 : Int32)) dL_law_1068 (by decide) ?_
        exact g_none
    refine g_tcase hC (i := (32 : Int32)) (1037) 1070 dL_law_33 (by decide) (by decide) (by decide) (by decide) ?_ (fun hn32 => ?_)
    · refine g_aload_n hC 1 dL_law_1070 rfl rfl ?_
      refine g_aload_n hC 0 dL_law_1071 rfl rfl ?_
      refine g_iload_n hC 3 dL_law_1072 rfl rfl ?_
      refine g_iconst hC (v := (1 : Int32)) dL_law_1073 (by decide) ?_
      refine g_iadd hC dL_law_1074 ?_
      refine g_sld hC hX hbl hbA dL_law_1075 ?_
      refine g_callv hC (st := []) (c := 7) rfl (by decide) rfl (ctX7_lose x F (xs (ix (p1 + (1 : Int32)))) M2) mvX7_lose m_795 (by decide) rfl rfl (Nat.le_of_ble_eq_true rfl) dL_law_1076 (fun r71 => ?_)
      show GG x f 4 (Ql f) 1079 [(0, .ref b), (1, .ref (x.1 0)), (2, .ref (x.1 37)), (3, .int p1)] [.int (r71.1)] r71.2 _
      refine g_aload_n hC 2 dL_law_1079 rfl rfl ?_
      refine g_aload_n hC 0 dL_law_1080 rfl rfl ?_
      refine g_iload_n hC 3 dL_law_1081 rfl rfl ?_
      refine g_iconst hC (v := (1 : Int32)) dL_law_1082 (by decide) ?_
      refine g_iadd hC dL_law_1083 ?_
      refine g_sld hC hX hbl hbA dL_law_1084 ?_
      refine g_callv hC (st := [.int (r71.1)]) (c := 8) rfl (by decide) rfl (ctX8_lose x F (xs (ix (p1 + (1 : Int32)))) r71.2) mvX8_lose m_1293 (by decide) rfl rfl (Nat.le_of_ble_eq_true rfl) dL_law_1085 (fun r72 => ?_)
      show GG x f 4 (Ql f) 1088 [(0, .ref b), (1, .ref (x.1 0)), (2, .ref (x.1 37)), (3, .int p1)] [.int (r72.1), .int (r71.1)] r72.2 _
      refine g_icmp_eq hC 1312 dL_law_1088 (by decide) ?_ ?_
      · exact hJ5 r72.2
      · refine g_iconst hC (v := (0 : Int32)) dL_law_1091 (by decide) ?_
        exact g_none
    refine g_tcase hC (i := (33 : Int32)) (1060) 1093 dL_law_33 (by decide) (by decide) (by decide) (by decide) ?_ (fun hn33 => ?_)
    · refine g_aload_n hC 1 dL_law_1093 rfl rfl ?_
      refine g_aload_n hC 0 dL_law_1094 rfl rfl ?_
      refine g_iload_n hC 3 dL_law_1095 rfl rfl ?_
      refine g_iconst hC (v := (1 : Int32)) dL_law_1096 (by decide) ?_
      refine g_iadd hC dL_law_1097 ?_
      refine g_sld hC hX hbl hbA dL_law_1098 ?_
      refine g_aload_n hC 0 dL_law_1099 rfl rfl ?_
      refine g_iload_n hC 3 dL_law_1100 rfl rfl ?_
      refine g_iconst hC (v := (2 : Int32)) dL_law_1101 (by decide) ?_
      refine g_iadd hC dL_law_1102 ?_
      refine g_sld hC hX hbl hbA dL_law_1103 ?_
      refine g_aload_n hC 0 dL_law_1104 rfl rfl ?_
      refine g_iload_n hC 3 dL_law_1105 rfl rfl ?_
      refine g_iconst hC (v := (3 : Int32)) dL_law_1106 (by decide) ?_
      refine g_iadd hC dL_law_1107 ?_
      refine g_sld hC hX hbl hbA dL_law_1108 ?_
      refine g_aload_n hC 0 dL_law_1109 rfl rfl ?_
      refine g_iload_n hC 3 dL_law_1110 rfl rfl ?_
      refine g_iconst hC (v := (4 : Int32)) dL_law_1111 (by decide) ?_
      refine g_iadd hC dL_law_1112 ?_
      refine g_sld hC hX hbl hbA dL_law_1113 ?_
      refine g_callv hC (st := []) (c := 7) rfl (by decide) rfl (ctX7_put x F (xs (ix (p1 + (1 : Int32)))) (xs (ix (p1 + (2 : Int32)))) (xs (ix (p1 + (3 : Int32)))) (xs (ix (p1 + (4 : Int32)))) M2) mvX7_put m_803 (by decide) rfl rfl (Nat.le_of_ble_eq_true rfl) dL_law_1114 (fun r73 => ?_)
      show GG x f 4 (Ql f) 1117 [(0, .ref b), (1, .ref (x.1 0)), (2, .ref (x.1 37)), (3, .int p1)] [.int (r73.1)] r73.2 _
      refine g_aload_n hC 2 dL_law_1117 rfl rfl ?_
      refine g_aload_n hC 0 dL_law_1118 rfl rfl ?_
      refine g_iload_n hC 3 dL_law_1119 rfl rfl ?_
      refine g_iconst hC (v := (1 : Int32)) dL_law_1120 (by decide) ?_
      refine g_iadd hC dL_law_1121 ?_
      refine g_sld hC hX hbl hbA dL_law_1122 ?_
      refine g_aload_n hC 0 dL_law_1123 rfl rfl ?_
      refine g_iload_n hC 3 dL_law_1124 rfl rfl ?_
      refine g_iconst hC (v := (2 : Int32)) dL_law_1125 (by decide) ?_
      refine g_iadd hC dL_law_1126 ?_
      refine g_sld hC hX hbl hbA dL_law_1127 ?_
      refine g_aload_n hC 0 dL_law_1128 rfl rfl ?_
      refine g_iload_n hC 3 dL_law_1129 rfl rfl ?_
      refine g_iconst hC (v := (3 : Int32)) dL_law_1130 (by decide) ?_
      refine g_iadd hC dL_law_1131 ?_
      refine g_sld hC hX hbl hbA dL_law_1132 ?_
      refine g_aload_n hC 0 dL_law_1133 rfl rfl ?_
      refine g_iload_n hC 3 dL_law_1134 rfl rfl ?_
      refine g_iconst hC (v := (4 : Int32)) dL_law_1135 (by decide) ?_
      refine g_iadd hC dL_law_1136 ?_
      refine g_sld hC hX hbl hbA dL_law_1137 ?_
      refine g_callv hC (st := [.int (r73.1)]) (c := 8) rfl (by decide) rfl (ctX8_put x F (xs (ix (p1 + (1 : Int32)))) (xs (ix (p1 + (2 : Int32)))) (xs (ix (p1 + (3 : Int32)))) (xs (ix (p1 + (4 : Int32)))) r73.2) mvX8_put m_1297 (by decide) rfl rfl (Nat.le_of_ble_eq_true rfl) dL_law_1138 (fun r74 => ?_)
      show GG x f 4 (Ql f) 1141 [(0, .ref b), (1, .ref (x.1 0)), (2, .ref (x.1 37)), (3, .int p1)] [.int (r74.1), .int (r73.1)] r74.2 _
      refine g_icmp_eq hC 1312 dL_law_1141 (by decide) ?_ ?_
      · exact hJ5 r74.2
      · refine g_iconst hC (v := (0 : Int32)) dL_law_1144 (by decide) ?_
        exact g_none
    refine g_tcase hC (i := (34 : Int32)) (1113) 1146 dL_law_33 (by decide) (by decide) (by decide) (by decide) ?_ (fun hn34 => ?_)
    · refine g_aload_n hC 1 dL_law_1146 rfl rfl ?_
      refine g_aload_n hC 0 dL_law_1147 rfl rfl ?_
      refine g_iload_n hC 3 dL_law_1148 rfl rfl ?_
      refine g_iconst hC (v := (1 : Int32)) dL_law_1149 (by decide) ?_
      refine g_iadd hC dL_law_1150 ?_
      refine g_sld hC hX hbl hbA dL_law_1151 ?_
      refine g_aload_n hC 0 dL_law_1152 rfl rfl ?_
      refine g_iload_n hC 3 dL_law_1153 rfl rfl ?_
      refine g_iconst hC (v := (2 : Int32)) dL_law_1154 (by decide) ?_
      refine g_iadd hC dL_law_1155 ?_
      refine g_sld hC hX hbl hbA dL_law_1156 ?_
      refine g_aload_n hC 0 dL_law_1157 rfl rfl ?_
      refine g_iload_n hC 3 dL_law_1158 rfl rfl ?_
      refine g_iconst hC (v := (3 : Int32)) dL_law_1159 (by decide) ?_
      refine g_iadd hC dL_law_1160 ?_
      refine g_sld hC hX hbl hbA dL_law_1161 ?_
      refine g_callv hC (st := []) (c := 7) rfl (by decide) rfl (ctX7_get x F (xs (ix (p1 + (1 : Int32)))) (xs (ix (p1 + (2 : Int32)))) (xs (ix (p1 + (3 : Int32)))) M2) mvX7_get m_823 (by decide) rfl rfl (Nat.le_of_ble_eq_true rfl) dL_law_1162 (fun r75 => ?_)
      show GG x f 4 (Ql f) 1165 [(0, .ref b), (1, .ref (x.1 0)), (2, .ref (x.1 37)), (3, .int p1)] [.int (r75.1)] r75.2 _
      refine g_aload_n hC 2 dL_law_1165 rfl rfl ?_
      refine g_aload_n hC 0 dL_law_1166 rfl rfl ?_
      refine g_iload_n hC 3 dL_law_1167 rfl rfl ?_
      refine g_iconst hC (v := (1 : Int32)) dL_law_1168 (by decide) ?_
      refine g_iadd hC dL_law_1169 ?_
      refine g_sld hC hX hbl hbA dL_law_1170 ?_
      refine g_aload_n hC 0 dL_law_1171 rfl rfl ?_
      refine g_iload_n hC 3 dL_law_1172 rfl rfl ?_
      refine g_iconst hC (v := (2 : Int32)) dL_law_1173 (by decide) ?_
      refine g_iadd hC dL_law_1174 ?_
      refine g_sld hC hX hbl hbA dL_law_1175 ?_
      refine g_aload_n hC 0 dL_law_1176 rfl rfl ?_
      refine g_iload_n hC 3 dL_law_1177 rfl rfl ?_
      refine g_iconst hC (v := (3 : Int32)) dL_law_1178 (by decide) ?_
      refine g_iadd hC dL_law_1179 ?_
      refine g_sld hC hX hbl hbA dL_law_1180 ?_
      refine g_callv hC (st := [.int (r75.1)]) (c := 8) rfl (by decide) rfl (ctX8_get x F (xs (ix (p1 + (1 : Int32)))) (xs (ix (p1 + (2 : Int32)))) (xs (ix (p1 + (3 : Int32)))) r75.2) mvX8_get m_1309 (by decide) rfl rfl (Nat.le_of_ble_eq_true rfl) dL_law_1181 (fun r76 => ?_)
      show GG x f 4 (Ql f) 1184 [(0, .ref b), (1, .ref (x.1 0)), (2, .ref (x.1 37)), (3, .int p1)] [.int (r76.1), .int (r75.1)] r76.2 _
      refine g_icmp_eq hC 1312 dL_law_1184 (by decide) ?_ ?_
      · exact hJ5 r76.2
      · refine g_iconst hC (v := (0 : Int32)) dL_law_1187 (by decide) ?_
        exact g_none
    refine g_tcase hC (i := (35 : Int32)) (1156) 1189 dL_law_33 (by decide) (by decide) (by decide) (by decide) ?_ (fun hn35 => ?_)
    · refine g_aload_n hC 1 dL_law_1189 rfl rfl ?_
      refine g_aload_n hC 0 dL_law_1190 rfl rfl ?_
      refine g_iload_n hC 3 dL_law_1191 rfl rfl ?_
      refine g_iconst hC (v := (1 : Int32)) dL_law_1192 (by decide) ?_
      refine g_iadd hC dL_law_1193 ?_
      refine g_sld hC hX hbl hbA dL_law_1194 ?_
      refine g_aload_n hC 0 dL_law_1195 rfl rfl ?_
      refine g_iload_n hC 3 dL_law_1196 rfl rfl ?_
      refine g_iconst hC (v := (2 : Int32)) dL_law_1197 (by decide) ?_
      refine g_iadd hC dL_law_1198 ?_
      refine g_sld hC hX hbl hbA dL_law_1199 ?_
      refine g_aload_n hC 0 dL_law_1200 rfl rfl ?_
      refine g_iload_n hC 3 dL_law_1201 rfl rfl ?_
      refine g_iconst hC (v := (3 : Int32)) dL_law_1202 (by decide) ?_
      refine g_iadd hC dL_law_1203 ?_
      refine g_sld hC hX hbl hbA dL_law_1204 ?_
      refine g_aload_n hC 0 dL_law_1205 rfl rfl ?_
      refine g_iload_n hC 3 dL_law_1206 rfl rfl ?_
      refine g_iconst hC (v := (4 : Int32)) dL_law_1207 (by decide) ?_
      refine g_iadd hC dL_law_1208 ?_
      refine g_sld hC hX hbl hbA dL_law_1209 ?_
      refine g_aload_n hC 0 dL_law_1210 rfl rfl ?_
      refine g_iload_n hC 3 dL_law_1211 rfl rfl ?_
      refine g_iconst hC (v := (5 : Int32)) dL_law_1212 (by decide) ?_
      refine g_iadd hC dL_law_1213 ?_
      refine g_sld hC hX hbl hbA dL_law_1214 ?_
      refine g_callv hC (st := []) (c := 7) rfl (by decide) rfl (ctX7_copy x F (xs (ix (p1 + (1 : Int32)))) (xs (ix (p1 + (2 : Int32)))) (xs (ix (p1 + (3 : Int32)))) (xs (ix (p1 + (4 : Int32)))) (xs (ix (p1 + (5 : Int32)))) M2) mvX7_copy m_828 (by decide) rfl rfl (Nat.le_of_ble_eq_true rfl) dL_law_1215 (fun r77 => ?_)
      show GG x f 4 (Ql f) 1218 [(0, .ref b), (1, .ref (x.1 0)), (2, .ref (x.1 37)), (3, .int p1)] [.int (r77.1)] r77.2 _
      refine g_aload_n hC 2 dL_law_1218 rfl rfl ?_
      refine g_aload_n hC 0 dL_law_1219 rfl rfl ?_
      refine g_iload_n hC 3 dL_law_1220 rfl rfl ?_
      refine g_iconst hC (v := (1 : Int32)) dL_law_1221 (by decide) ?_
      refine g_iadd hC dL_law_1222 ?_
      refine g_sld hC hX hbl hbA dL_law_1223 ?_
      refine g_aload_n hC 0 dL_law_1224 rfl rfl ?_
      refine g_iload_n hC 3 dL_law_1225 rfl rfl ?_
      refine g_iconst hC (v := (2 : Int32)) dL_law_1226 (by decide) ?_
      refine g_iadd hC dL_law_1227 ?_
      refine g_sld hC hX hbl hbA dL_law_1228 ?_
      refine g_aload_n hC 0 dL_law_1229 rfl rfl ?_
      refine g_iload_n hC 3 dL_law_1230 rfl rfl ?_
      refine g_iconst hC (v := (3 : Int32)) dL_law_1231 (by decide) ?_
      refine g_iadd hC dL_law_1232 ?_
      refine g_sld hC hX hbl hbA dL_law_1233 ?_
      refine g_aload_n hC 0 dL_law_1234 rfl rfl ?_
      refine g_iload_n hC 3 dL_law_1235 rfl rfl ?_
      refine g_iconst hC (v := (4 : Int32)) dL_law_1236 (by decide) ?_
      refine g_iadd hC dL_law_1237 ?_
      refine g_sld hC hX hbl hbA dL_law_1238 ?_
      refine g_aload_n hC 0 dL_law_1239 rfl rfl ?_
      refine g_iload_n hC 3 dL_law_1240 rfl rfl ?_
      refine g_iconst hC (v := (5 : Int32)) dL_law_1241 (by decide) ?_
      refine g_iadd hC dL_law_1242 ?_
      refine g_sld hC hX hbl hbA dL_law_1243 ?_
      refine g_callv hC (st := [.int (r77.1)]) (c := 8) rfl (by decide) rfl (ctX8_copy x F (xs (ix (p1 + (1 : Int32)))) (xs (ix (p1 + (2 : Int32)))) (xs (ix (p1 + (3 : Int32)))) (xs (ix (p1 + (4 : Int32)))) (xs (ix (p1 + (5 : Int32)))) r77.2) mvX8_copy m_1314 (by decide) rfl rfl (Nat.le_of_ble_eq_true rfl) dL_law_1244 (fun r78 => ?_)
      show GG x f 4 (Ql f) 1247 [(0, .ref b), (1, .ref (x.1 0)), (2, .ref (x.1 37)), (3, .int p1)] [.int (r78.1), .int (r77.1)] r78.2 _
      refine g_icmp_eq hC 1312 dL_law_1247 (by decide) ?_ ?_
      · exact hJ5 r78.2
      · refine g_iconst hC (v := (0 : Int32)) dL_law_1250 (by decide) ?_
        exact g_none
    refine g_tcase hC (i := (36 : Int32)) (1219) 1252 dL_law_33 (by decide) (by decide) (by decide) (by decide) ?_ (fun hn36 => ?_)
    · refine g_aload_n hC 1 dL_law_1252 rfl rfl ?_
      refine g_aload_n hC 0 dL_law_1253 rfl rfl ?_
      refine g_iload_n hC 3 dL_law_1254 rfl rfl ?_
      refine g_iconst hC (v := (1 : Int32)) dL_law_1255 (by decide) ?_
      refine g_iadd hC dL_law_1256 ?_
      refine g_sld hC hX hbl hbA dL_law_1257 ?_
      refine g_callv hC (st := []) (c := 7) rfl (by decide) rfl (ctX7_write x F (xs (ix (p1 + (1 : Int32)))) M2) mvX7_write m_844 (by decide) rfl rfl (Nat.le_of_ble_eq_true rfl) dL_law_1258 (fun r79 => ?_)
      show GG x f 4 (Ql f) 1261 [(0, .ref b), (1, .ref (x.1 0)), (2, .ref (x.1 37)), (3, .int p1)] [.int (r79.1)] r79.2 _
      refine g_aload_n hC 2 dL_law_1261 rfl rfl ?_
      refine g_aload_n hC 0 dL_law_1262 rfl rfl ?_
      refine g_iload_n hC 3 dL_law_1263 rfl rfl ?_
      refine g_iconst hC (v := (1 : Int32)) dL_law_1264 (by decide) ?_
      refine g_iadd hC dL_law_1265 ?_
      refine g_sld hC hX hbl hbA dL_law_1266 ?_
      refine g_callv hC (st := [.int (r79.1)]) (c := 8) rfl (by decide) rfl (ctX8_write x F (xs (ix (p1 + (1 : Int32)))) r79.2) mvX8_write m_1318 (by decide) rfl rfl (Nat.le_of_ble_eq_true rfl) dL_law_1267 (fun r80 => ?_)
      show GG x f 4 (Ql f) 1270 [(0, .ref b), (1, .ref (x.1 0)), (2, .ref (x.1 37)), (3, .int p1)] [.int (r80.1), .int (r79.1)] r80.2 _
      refine g_icmp_eq hC 1312 dL_law_1270 (by decide) ?_ ?_
      · exact hJ5 r80.2
      · refine g_iconst hC (v := (0 : Int32)) dL_law_1273 (by decide) ?_
        exact g_none
    refine g_tcase hC (i := (37 : Int32)) (1242) 1275 dL_law_33 (by decide) (by decide) (by decide) (by decide) ?_ (fun hn37 => ?_)
    · refine g_aload_n hC 1 dL_law_1275 rfl rfl ?_
      refine g_aload_n hC 0 dL_law_1276 rfl rfl ?_
      refine g_iload_n hC 3 dL_law_1277 rfl rfl ?_
      refine g_iconst hC (v := (1 : Int32)) dL_law_1278 (by decide) ?_
      refine g_iadd hC dL_law_1279 ?_
      refine g_sld hC hX hbl hbA dL_law_1280 ?_
      refine g_callv hC (st := []) (c := 7) rfl (by decide) rfl (ctX7_count x F (xs (ix (p1 + (1 : Int32)))) M2) mvX7_count m_849 (by decide) rfl rfl (Nat.le_of_ble_eq_true rfl) dL_law_1281 (fun r81 => ?_)
      show GG x f 4 (Ql f) 1284 [(0, .ref b), (1, .ref (x.1 0)), (2, .ref (x.1 37)), (3, .int p1)] [.int r81] M2 _
      refine g_aload_n hC 2 dL_law_1284 rfl rfl ?_
      refine g_aload_n hC 0 dL_law_1285 rfl rfl ?_
      refine g_iload_n hC 3 dL_law_1286 rfl rfl ?_
      refine g_iconst hC (v := (1 : Int32)) dL_law_1287 (by decide) ?_
      refine g_iadd hC dL_law_1288 ?_
      refine g_sld hC hX hbl hbA dL_law_1289 ?_
      refine g_callv hC (st := [.int r81]) (c := 8) rfl (by decide) rfl (ctX8_count x F (xs (ix (p1 + (1 : Int32)))) M2) mvX8_count m_1322 (by decide) rfl rfl (Nat.le_of_ble_eq_true rfl) dL_law_1290 (fun r82 => ?_)
      show GG x f 4 (Ql f) 1293 [(0, .ref b), (1, .ref (x.1 0)), (2, .ref (x.1 37)), (3, .int p1)] [.int (r82.1), .int r81] r82.2 _
      refine g_icmp_eq hC 1312 dL_law_1293 (by decide) ?_ ?_
      · exact hJ5 r82.2
      · refine g_iconst hC (v := (0 : Int32)) dL_law_1296 (by decide) ?_
        exact g_none
    refine g_tcase hC (i := (38 : Int32)) (1265) 1298 dL_law_33 (by decide) (by decide) (by decide) (by decide) ?_ (fun hn38 => ?_)
    · refine g_aload_n hC 1 dL_law_1298 rfl rfl ?_
      refine g_callv hC (st := []) (c := 7) rfl (by decide) rfl (ctX7_digest x F M2) mvX7_digest m_853 (by decide) rfl rfl (Nat.le_of_ble_eq_true rfl) dL_law_1299 (fun r83 => ?_)
      show GG x f 4 (Ql f) 1302 [(0, .ref b), (1, .ref (x.1 0)), (2, .ref (x.1 37)), (3, .int p1)] [.long r83.1] r83.2 _
      refine g_aload_n hC 2 dL_law_1302 rfl rfl ?_
      refine g_callv hC (st := [.long r83.1]) (c := 8) rfl (by decide) rfl (ctX8_digest x F r83.2) mvX8_digest m_1330 (by decide) rfl rfl (Nat.le_of_ble_eq_true rfl) dL_law_1303 (fun r84 => ?_)
      show GG x f 4 (Ql f) 1306 [(0, .ref b), (1, .ref (x.1 0)), (2, .ref (x.1 37)), (3, .int p1)] [.long r84.1, .long r83.1] r84.2 _
      refine g_lcmp_eq hC 1312 dL_law_1306 dL_law_1307 (by decide) ?_ ?_
      · exact hJ5 r84.2
      · refine g_iconst hC (v := (0 : Int32)) dL_law_1310 (by decide) ?_
        exact g_none
    refine g_tout hC 1312 dL_law_33 (q_out39 hn0 hn1 hn2 hn3 hn4 hn5 hn6 hn7 hn8 hn9 hn10 hn11 hn12 hn13 hn14 hn15 hn16 hn17 hn18 hn19 hn20 hn21 hn22 hn23 hn24 hn25 hn26 hn27 hn28 hn29 hn30 hn31 hn32 hn33 hn34 hn35 hn36 hn37 hn38) (by decide) ?_
    exact hJ5 M2
