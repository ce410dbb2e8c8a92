/-! String constants: cells 64, 65; their bytes: 66, 67 -/
def roB (k i : Nat) : Int32 := (tx_byt.getD (k - 66) []).getD i 0
def rbL (k : Nat) : Nat := tx_len.getD (k - 66) 0
section Texts
variable {β γ : Type} {x : Wx} {f : Fx} {own : String} {cc cc' : ByteArray} {nL nL' n idx : Nat} {R rm : Room} {Qf : β → State → Prop} {pc : Nat} {lv lv' : List (Nat × Value)} {st st0 av : List Value} {M : Mem} {o o1 o2 : Option β} {y : MethodName} {rt : Option FieldType} {φ : γ → Option Value × Mem} {oc : Option γ} {κ : γ → Option β}
theorem Cx.tx (hC : Cx x f own cc nL R) : vk_S 2 tx_len tx_byt (fun i => x.1 (64 + i)) (fun i => x.1 (66 + i)) (fA f) (fS f) (fS f).heap := hC.2.2.2.2.2.2.2.2.1.2.1
theorem g_tval (hC : Cx x f own cc nL R) {k i : Nat} (hk : 64 ≤ k ∧ k < 66) (hm : Cond.fieldLink own i "java/lang/String" "value" "[B" ∈ lw_g) (hd : decode cc pc = .ok (.getfield i, 3)) (kk : GG x f nL Qf (pc + 3) lv (.ref (x.1 (k + 2)) :: st) M o) : GG x f nL Qf pc lv (.ref (x.1 k) :: st) M o := by
  intro r h H locs ls hW hS hl
  obtain ⟨j, rfl⟩ : ∃ j, k = 64 + j := ⟨k - 64, by omega⟩
  have e : 64 + j + 2 = 66 + j := by omega
  have := kk r h H locs ls hW hS hl
  rw [e] at this
  exact vk_getf hC.1 hC.2.1 (hC.tx.1 j (by omega)).2.2.1 hS hC.2.2.2.1 (hC.2.2.2.2.1 _ hm) (fun _ h => h) hd this
theorem g_tcod (hC : Cx x f own cc nL R) {k i : Nat} (hk : 64 ≤ k ∧ k < 66) (hm : Cond.fieldLink own i "java/lang/String" "coder" "B" ∈ lw_g) (hd : decode cc pc = .ok (.getfield i, 3)) (kk : GG x f nL Qf (pc + 3) lv (.int 0 :: st) M o) : GG x f nL Qf pc lv (.ref (x.1 k) :: st) M o := by
  intro r h H locs ls hW hS hl
  obtain ⟨j, rfl⟩ : ∃ j, k = 64 + j := ⟨k - 64, by omega⟩
  exact vk_getf hC.1 hC.2.1 (hC.tx.1 j (by omega)).2.1 hS hC.2.2.2.1 (hC.2.2.2.2.1 _ hm) (fun _ h => h) hd (kk r h H locs ls hW hS hl)
theorem g_tcs (hC : Cx x f own cc nL R) {i : Nat} (hm : Cond.fieldLink own i "java/lang/String" "COMPACT_STRINGS" "Z" ∈ lw_g) (hd : decode cc pc = .ok (.getstatic i, 3)) (k : GG x f nL Qf (pc + 3) lv (.int 1 :: st) M o) : GG x f nL Qf pc lv st M o :=
  fun r hr H locs ls hW hS hl => va_gets hC.1 hC.2.1 hC.2.2.2.2.2.2.2.2.1.1.1.2.2 hS hC.2.2.2.1 (hC.2.2.2.2.1 _ hm) (fun _ h => h) hd (k r hr H locs ls hW hS hl)
theorem g_tb (hC : Cx x f own cc nL R) {k : Nat} (hk : 66 ≤ k ∧ k < 68) : va_T .byte (x.1 k) (rbL k) (fun j => .int (roB k j)) (fA f) (fS f) (fS f).heap := by
  obtain ⟨j, rfl⟩ : ∃ j, k = 66 + j := ⟨k - 66, by omega⟩
  have := (hC.tx.1 j (by omega)).2.2.2
  unfold rbL roB
  rw [show 66 + j - 66 = j by omega]
  exact this
theorem g_tald (hC : Cx x f own cc nL R) {k n : Nat} (hk : 66 ≤ k ∧ k < 68) (hn : rbL k = n) {i : Int32} (hd : decode cc pc = .ok (.baload, 1)) (kk : GG x f nL Qf (pc + 1) lv (.int (roB k (ix i)) :: st) M o) : GG x f nL Qf pc lv (.int i :: .ref (x.1 k) :: st) M (ib i n o) := by
  intro r h H locs ls hW hS hl
  unfold ib at h
  by_cases hi : inb i n = true
  · rw [if_pos hi] at h
    exact va_tb hC.1 hC.2.1 (g_tb hC hk) hS (by rw [hn]; exact inb_iff.mp hi) rfl hd (kk r h H locs ls hW hS hl)
  · rw [if_neg hi] at h; cases h
theorem g_tlen (hC : Cx x f own cc nL R) {k : Nat} {n : Int32} (hk : 66 ≤ k ∧ k < 68) (hn : Int32.ofNat (rbL k) = n) (hd : decode cc pc = .ok (.arraylength, 1)) (kk : GG x f nL Qf (pc + 1) lv (.int n :: st) M o) : GG x f nL Qf pc lv (.ref (x.1 k) :: st) M o :=
  fun r h H locs ls hW hS hl => va_tlen hC.1 hC.2.1 (g_tb hC hk) hS hn hd (kk r h H locs ls hW hS hl)
theorem g_ldcS0 (hC : Cx x f "AnswersFirst$Entries" cc nL R) (hd : decode cc pc = .ok (.ldc 69, 2)) (k : GG x f nL Qf (pc + 2) lv (.ref (x.1 64) :: st) M o) : GG x f nL Qf pc lv st M o :=
  fun r hr H locs ls hW hS hl => va_ldcS hC.1 hC.2.1 hC.2.2.2.1 hC.2.2.2.2.2.2.2.2.1.2.2.1 hd (k r hr H locs ls hW hS hl)
theorem g_ldcS1 (hC : Cx x f "AnswersFirst$Entries" cc nL R) (hd : decode cc pc = .ok (.ldc 76, 2)) (k : GG x f nL Qf (pc + 2) lv (.ref (x.1 65) :: st) M o) : GG x f nL Qf pc lv st M o :=
  fun r hr H locs ls hW hS hl => va_ldcS hC.1 hC.2.1 hC.2.2.2.1 hC.2.2.2.2.2.2.2.2.1.2.2.2 hd (k r hr H locs ls hW hS hl)
theorem g_callt (hC : Cx x f own cc nL R) {k : Nat} {as : List Value} (hk : 64 ≤ k ∧ k < 66) (hy : y.cls = "java/lang/String") (hct : Ct x y cc' nL' rt rm φ (.ref (x.1 k) :: as) M oc) (hm : MV y cc' nL' rt n) (hlk : Cond.methodLink own idx y ∈ lw_g) (hrm : rm.cells = 0 ∧ rm.slots = 0 ∧ rm.frames + 1 ≤ R.frames ∧ 8 + (nL' + 11) + rm.locals ≤ R.locals)
    (hn : as.length = n) (hst : st0 = as.reverse ++ .ref (x.1 k) :: st) (hcat : (st.map fun v => v.category).sum ≤ 8) (hd : decode cc pc = .ok (.invokevirtual idx, 3)) (kk : ∀ q, GG x f nL Qf (pc + 3) lv ((φ q).1.toList ++ st) (φ q).2 (κ q)) : GG x f nL Qf pc lv st0 M (oc.bind κ) := by
  intro r hr H locs ls hW hS hl
  cases ho : oc with
  | none => rw [ho] at hr; cases hr
  | some q =>
    rw [ho] at hr
    have hp := g_pre (av := .ref (x.1 k) :: as) hC hW hS
    have hrec : ∃ cell : Cell, H[x.1 k]? = some cell ∧ cell.vm.isStatics = false ∧ (fS f).vm.findClass y.cls = some cell.cls := by
      obtain ⟨j, rfl⟩ : ∃ j, k = 64 + j := ⟨k - 64, by omega⟩
      rw [hy]
      exact vk_recv hC.tx (i := j) (by omega) hS
    exact g_ran (κ := κ) (q := q) (φ := φ) hC hS hl hr (va_runV (C := y.cls) (As := as) ⟨hC.1, hC.2.1, hC.2.2.1, hC.2.2.2.1, hC.2.2.2.2.1⟩ (hct q ho (fL f)) ⟨g_callB hC hm.1 hlk hrm, hC.2.2.2.2.1 _ hm.2.1, hC.2.2.2.2.1 _ hm.2.2⟩ ⟨hp.1, hrec, hp.2⟩ rfl hn hl.1 hst (lv_room hcat) hd (g_room hC)) kk
theorem g_bret {ψ : β → Option Value × Mem} (hC : Cx x f own cc nL R) (hm : Mx x f (some .byte)) {v : Int32} {r : β} (hv : narrow .byte (.int v) = .int v) (hφ : ψ r = (some (.int v), M)) (hd : decode cc pc = .ok (.ireturn, 1)) : GG x f nL (Qm x f ψ) pc lv [.int v] M (some r) := by
  intro r' hr H locs ls hW hS hl
  cases hr
  unfold Qm
  exact W.zret (v := v) hC.1 hC.2.1 hm.2 hv (fun t ht hWm => by
    rw [hφ]
    exact ⟨rfl, by rw [ht]; exact hW, by rw [← hm.1]; exact hS.F ht⟩) hS.2.2 hd hC.2.2.2.2.2.2.2.2.2.2.1
end Texts
theorem ka_t {k : Nat} (h : 64 ≤ k ∧ k < 66) : 66 ≤ k + 2 ∧ k + 2 < 68 := by omega
theorem q_out5 {v : Int32} (h0 : ¬ v = 0) (h1 : ¬ v = 1) (h2 : ¬ v = 2) (h3 : ¬ v = 3) (h4 : ¬ v = 4) : v.toInt < 0 ∨ 4 < v.toInt := by
  have a0 : ¬ v.toInt = 0 := q_tne h0
  have a1 : ¬ v.toInt = 1 := q_tne h1
  have a2 : ¬ v.toInt = 2 := q_tne h2
  have a3 : ¬ v.toInt = 3 := q_tne h3
  have a4 : ¬ v.toInt = 4 := q_tne h4
  omega
theorem q_out9 {v : Int32} (h0 : ¬ v = 0) (h1 : ¬ v = 1) (h2 : ¬ v = 2) (h3 : ¬ v = 3) (h4 : ¬ v = 4) (h5 : ¬ v = 5) (h6 : ¬ v = 6) (h7 : ¬ v = 7) (h8 : ¬ v = 8) : v.toInt < 0 ∨ 8 < v.toInt := by
  have a0 : ¬ v.toInt = 0 := q_tne h0
  have a1 : ¬ v.toInt = 1 := q_tne h1
  have a2 : ¬ v.toInt = 2 := q_tne h2
  have a3 : ¬ v.toInt = 3 := q_tne h3
  have a4 : ¬ v.toInt = 4 := q_tne h4
  have a5 : ¬ v.toInt = 5 := q_tne h5
  have a6 : ¬ v.toInt = 6 := q_tne h6
  have a7 : ¬ v.toInt = 7 := q_tne h7
  have a8 : ¬ v.toInt = 8 := q_tne h8
  omega
def imax (a b : Int32) : Int32 := if a < b then b else a
def imin (a b : Int32) : Int32 := if b < a then b else a
section MathRows
variable {β : Type} {x : Wx} {f : Fx} {own : String} {cc : ByteArray} {nL : Nat} {R : Room} {Qf : β → State → Prop} {pc : Nat} {lv : List (Nat × Value)} {st : List Value} {M : Mem} {o : Option β}
theorem g_mmax (hC : Cx x f own cc nL R) {i : Nat} {a b : Int32} (hm : Cond.methodLink own i Lib.Math.max.name ∈ lw_g) (hst : Cond.static Lib.Math.max.name ∈ lw_g) (hini : Cond.initialized "java/lang/Math" ∈ lw_g) (hcode : Cond.code Lib.Math.max.name Lib.Math.max.code 2 (some .int) ∈ lw_g) (hfr : 1 ≤ R.frames) (hlo : (st.map fun v => v.category).sum + 13 ≤ R.locals) (hd : decode cc pc = .ok (.invokestatic i, 3)) (k : GG x f nL Qf (pc + 3) lv (.int (imax a b) :: st) M o) : GG x f nL Qf pc lv (.int b :: .int a :: st) M o :=
  fun r hr H locs ls hW hS hl => va_mmax hC.1 hC.2.1 (hC.2.2.1.trans hl.1.symm) hC.2.2.2.1 (hC.2.2.2.2.1 _ hm) (hC.2.2.2.2.1 _ hst) (hC.2.2.2.2.1 _ hini) (hC.2.2.2.2.1 _ hcode) (by rw [hC.2.2.2.2.2.2.2.2.2.1]; exact hfr) (by rw [hC.2.2.2.2.2.2.2.2.2.1]; exact hlo) (g_room hC).1 (g_room hC).2 hd (k r hr H locs ls hW hS hl)
theorem g_mmin (hC : Cx x f own cc nL R) {i : Nat} {a b : Int32} (hm : Cond.methodLink own i Lib.Math.min.name ∈ lw_g) (hst : Cond.static Lib.Math.min.name ∈ lw_g) (hini : Cond.initialized "java/lang/Math" ∈ lw_g) (hcode : Cond.code Lib.Math.min.name Lib.Math.min.code 2 (some .int) ∈ lw_g) (hfr : 1 ≤ R.frames) (hlo : (st.map fun v => v.category).sum + 13 ≤ R.locals) (hd : decode cc pc = .ok (.invokestatic i, 3)) (k : GG x f nL Qf (pc + 3) lv (.int (imin a b) :: st) M o) : GG x f nL Qf pc lv (.int b :: .int a :: st) M o :=
  fun r hr H locs ls hW hS hl => va_mmin hC.1 hC.2.1 (hC.2.2.1.trans hl.1.symm) hC.2.2.2.1 (hC.2.2.2.2.1 _ hm) (hC.2.2.2.2.1 _ hst) (hC.2.2.2.2.1 _ hini) (hC.2.2.2.2.1 _ hcode) (by rw [hC.2.2.2.2.2.2.2.2.2.1]; exact hfr) (by rw [hC.2.2.2.2.2.2.2.2.2.1]; exact hlo) (g_room hC).1 (g_room hC).2 hd (k r hr H locs ls hW hS hl)
theorem g_lcmp_le {o1 o2 : Option β} (hC : Cx x f own cc nL R) {a b : Int64} {off : Int} (tgt : Nat) (hd : decode cc pc = .ok (.lcmp, 1)) (hd2 : decode cc (pc + 1) = .ok (.ifCond .le off, 3)) (ht : ((pc + 1 : Nat) : Int) + off = (tgt : Int)) (k1 : GG x f nL Qf tgt lv st M o1) (k2 : GG x f nL Qf (pc + 1 + 3) lv st M o2) : GG x f nL Qf pc lv (.long b :: .long a :: st) M (if a ≤ b then o1 else o2) := by
  intro r hr H locs ls hW hS hl
  refine W.lcmp hC.1 hC.2.1 hd ?_
  have e := lg_cmp_le a b
  exact lv_if_le hC.1 hC.2.1 hd2 ht (fun h => k1 r (by rw [if_pos (e.mp h)] at hr; exact hr) H locs ls hW hS hl) (fun h => k2 r (by rw [if_neg (fun z => h (e.mpr z))] at hr; exact hr) H locs ls hW hS hl)
end MathRows
