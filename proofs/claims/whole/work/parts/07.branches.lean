section Branches
variable {β : Type} {x : Wx} {f : Fx} {own : String} {cc : ByteArray} {nL : Nat} {R : Room} {Qf : β → State → Prop} {pc : Nat} {lv lv' : List (Nat × Value)} {st : List Value} {M : Mem} {o o1 o2 : Option β}
theorem g_icmp_eq (hC : Cx x f own cc nL R) {a b : Int32} {off : Int} (tgt : Nat) {inst : Decidable (a = b)} (hd : decode cc pc = .ok (.if_icmp .eq off, 3)) (ht : (pc : Int) + off = (tgt : Int)) (k1 : GG x f nL Qf tgt lv st M o1) (k2 : GG x f nL Qf (pc + 3) lv st M o2) : GG x f nL Qf pc lv (.int b :: .int a :: st) M (@ite _ (a = b) inst o1 o2) :=
  fun r hr H locs ls hW hS hl => lv_icmp_eq hC.1 hC.2.1 hd ht (fun h => k1 r (by rw [if_pos h] at hr; exact hr) H locs ls hW hS hl) (fun h => k2 r (by rw [if_neg h] at hr; exact hr) H locs ls hW hS hl)
theorem g_if_eq (hC : Cx x f own cc nL R) {a : Int32} {off : Int} (tgt : Nat) {inst : Decidable (a = 0)} (hd : decode cc pc = .ok (.ifCond .eq off, 3)) (ht : (pc : Int) + off = (tgt : Int)) (k1 : GG x f nL Qf tgt lv st M o1) (k2 : GG x f nL Qf (pc + 3) lv st M o2) : GG x f nL Qf pc lv (.int a :: st) M (@ite _ (a = 0) inst o1 o2) :=
  fun r hr H locs ls hW hS hl => lv_if_eq hC.1 hC.2.1 hd ht (fun h => k1 r (by rw [if_pos h] at hr; exact hr) H locs ls hW hS hl) (fun h => k2 r (by rw [if_neg h] at hr; exact hr) H locs ls hW hS hl)
theorem g_icmp_ne (hC : Cx x f own cc nL R) {a b : Int32} {off : Int} (tgt : Nat) {inst : Decidable (¬ a = b)} (hd : decode cc pc = .ok (.if_icmp .ne off, 3)) (ht : (pc : Int) + off = (tgt : Int)) (k1 : GG x f nL Qf tgt lv st M o1) (k2 : GG x f nL Qf (pc + 3) lv st M o2) : GG x f nL Qf pc lv (.int b :: .int a :: st) M (@ite _ (¬ a = b) inst o1 o2) :=
  fun r hr H locs ls hW hS hl => lv_icmp_ne hC.1 hC.2.1 hd ht (fun h => k1 r (by rw [if_pos h] at hr; exact hr) H locs ls hW hS hl) (fun h => k2 r (by rw [if_neg (fun z => z h)] at hr; exact hr) H locs ls hW hS hl)
theorem g_if_ne (hC : Cx x f own cc nL R) {a : Int32} {off : Int} (tgt : Nat) {inst : Decidable (¬ a = 0)} (hd : decode cc pc = .ok (.ifCond .ne off, 3)) (ht : (pc : Int) + off = (tgt : Int)) (k1 : GG x f nL Qf tgt lv st M o1) (k2 : GG x f nL Qf (pc + 3) lv st M o2) : GG x f nL Qf pc lv (.int a :: st) M (@ite _ (¬ a = 0) inst o1 o2) :=
  fun r hr H locs ls hW hS hl => lv_if_ne hC.1 hC.2.1 hd ht (fun h => k1 r (by rw [if_pos h] at hr; exact hr) H locs ls hW hS hl) (fun h => k2 r (by rw [if_neg (fun z => z h)] at hr; exact hr) H locs ls hW hS hl)
theorem g_icmp_lt (hC : Cx x f own cc nL R) {a b : Int32} {off : Int} (tgt : Nat) {inst : Decidable (a < b)} (hd : decode cc pc = .ok (.if_icmp .lt off, 3)) (ht : (pc : Int) + off = (tgt : Int)) (k1 : GG x f nL Qf tgt lv st M o1) (k2 : GG x f nL Qf (pc + 3) lv st M o2) : GG x f nL Qf pc lv (.int b :: .int a :: st) M (@ite _ (a < b) inst o1 o2) :=
  fun r hr H locs ls hW hS hl => lv_icmp_lt hC.1 hC.2.1 hd ht (fun h => k1 r (by rw [if_pos h] at hr; exact hr) H locs ls hW hS hl) (fun h => k2 r (by rw [if_neg h] at hr; exact hr) H locs ls hW hS hl)
theorem g_if_lt (hC : Cx x f own cc nL R) {a : Int32} {off : Int} (tgt : Nat) {inst : Decidable (a < 0)} (hd : decode cc pc = .ok (.ifCond .lt off, 3)) (ht : (pc : Int) + off = (tgt : Int)) (k1 : GG x f nL Qf tgt lv st M o1) (k2 : GG x f nL Qf (pc + 3) lv st M o2) : GG x f nL Qf pc lv (.int a :: st) M (@ite _ (a < 0) inst o1 o2) :=
  fun r hr H locs ls hW hS hl => lv_if_lt hC.1 hC.2.1 hd ht (fun h => k1 r (by rw [if_pos h] at hr; exact hr) H locs ls hW hS hl) (fun h => k2 r (by rw [if_neg h] at hr; exact hr) H locs ls hW hS hl)
theorem g_icmp_ge (hC : Cx x f own cc nL R) {a b : Int32} {off : Int} (tgt : Nat) {inst : Decidable (b ≤ a)} (hd : decode cc pc = .ok (.if_icmp .ge off, 3)) (ht : (pc : Int) + off = (tgt : Int)) (k1 : GG x f nL Qf tgt lv st M o1) (k2 : GG x f nL Qf (pc + 3) lv st M o2) : GG x f nL Qf pc lv (.int b :: .int a :: st) M (@ite _ (b ≤ a) inst o1 o2) :=
  fun r hr H locs ls hW hS hl => lv_icmp_ge hC.1 hC.2.1 hd ht (fun h => k1 r (by rw [if_pos h] at hr; exact hr) H locs ls hW hS hl) (fun h => k2 r (by rw [if_neg h] at hr; exact hr) H locs ls hW hS hl)
theorem g_if_ge (hC : Cx x f own cc nL R) {a : Int32} {off : Int} (tgt : Nat) {inst : Decidable (0 ≤ a)} (hd : decode cc pc = .ok (.ifCond .ge off, 3)) (ht : (pc : Int) + off = (tgt : Int)) (k1 : GG x f nL Qf tgt lv st M o1) (k2 : GG x f nL Qf (pc + 3) lv st M o2) : GG x f nL Qf pc lv (.int a :: st) M (@ite _ (0 ≤ a) inst o1 o2) :=
  fun r hr H locs ls hW hS hl => lv_if_ge hC.1 hC.2.1 hd ht (fun h => k1 r (by rw [if_pos h] at hr; exact hr) H locs ls hW hS hl) (fun h => k2 r (by rw [if_neg h] at hr; exact hr) H locs ls hW hS hl)
theorem g_icmp_gt (hC : Cx x f own cc nL R) {a b : Int32} {off : Int} (tgt : Nat) {inst : Decidable (b < a)} (hd : decode cc pc = .ok (.if_icmp .gt off, 3)) (ht : (pc : Int) + off = (tgt : Int)) (k1 : GG x f nL Qf tgt lv st M o1) (k2 : GG x f nL Qf (pc + 3) lv st M o2) : GG x f nL Qf pc lv (.int b :: .int a :: st) M (@ite _ (b < a) inst o1 o2) :=
  fun r hr H locs ls hW hS hl => lv_icmp_gt hC.1 hC.2.1 hd ht (fun h => k1 r (by rw [if_pos h] at hr; exact hr) H locs ls hW hS hl) (fun h => k2 r (by rw [if_neg h] at hr; exact hr) H locs ls hW hS hl)
theorem g_if_gt (hC : Cx x f own cc nL R) {a : Int32} {off : Int} (tgt : Nat) {inst : Decidable (0 < a)} (hd : decode cc pc = .ok (.ifCond .gt off, 3)) (ht : (pc : Int) + off = (tgt : Int)) (k1 : GG x f nL Qf tgt lv st M o1) (k2 : GG x f nL Qf (pc + 3) lv st M o2) : GG x f nL Qf pc lv (.int a :: st) M (@ite _ (0 < a) inst o1 o2) :=
  fun r hr H locs ls hW hS hl => lv_if_gt hC.1 hC.2.1 hd ht (fun h => k1 r (by rw [if_pos h] at hr; exact hr) H locs ls hW hS hl) (fun h => k2 r (by rw [if_neg h] at hr; exact hr) H locs ls hW hS hl)
theorem g_icmp_le (hC : Cx x f own cc nL R) {a b : Int32} {off : Int} (tgt : Nat) {inst : Decidable (a ≤ b)} (hd : decode cc pc = .ok (.if_icmp .le off, 3)) (ht : (pc : Int) + off = (tgt : Int)) (k1 : GG x f nL Qf tgt lv st M o1) (k2 : GG x f nL Qf (pc + 3) lv st M o2) : GG x f nL Qf pc lv (.int b :: .int a :: st) M (@ite _ (a ≤ b) inst o1 o2) :=
  fun r hr H locs ls hW hS hl => lv_icmp_le hC.1 hC.2.1 hd ht (fun h => k1 r (by rw [if_pos h] at hr; exact hr) H locs ls hW hS hl) (fun h => k2 r (by rw [if_neg h] at hr; exact hr) H locs ls hW hS hl)
theorem g_if_le (hC : Cx x f own cc nL R) {a : Int32} {off : Int} (tgt : Nat) {inst : Decidable (a ≤ 0)} (hd : decode cc pc = .ok (.ifCond .le off, 3)) (ht : (pc : Int) + off = (tgt : Int)) (k1 : GG x f nL Qf tgt lv st M o1) (k2 : GG x f nL Qf (pc + 3) lv st M o2) : GG x f nL Qf pc lv (.int a :: st) M (@ite _ (a ≤ 0) inst o1 o2) :=
  fun r hr H locs ls hW hS hl => lv_if_le hC.1 hC.2.1 hd ht (fun h => k1 r (by rw [if_pos h] at hr; exact hr) H locs ls hW hS hl) (fun h => k2 r (by rw [if_neg h] at hr; exact hr) H locs ls hW hS hl)
theorem g_ifB_eq (hC : Cx x f own cc nL R) {a : Bool} {off : Int} (tgt : Nat) (hd : decode cc pc = .ok (.ifCond .eq off, 3)) (ht : (pc : Int) + off = (tgt : Int)) (k1 : GG x f nL Qf (pc + 3) lv st M o1) (k2 : GG x f nL Qf tgt lv st M o2) : GG x f nL Qf pc lv (.int (bi a) :: st) M (if a = true then o1 else o2) :=
  fun r hr H locs ls hW hS hl => lv_if_eq hC.1 hC.2.1 hd ht (fun h => k2 r (by cases a with | true => exact absurd h (by decide) | false => exact hr) H locs ls hW hS hl) (fun h => k1 r (by cases a with | true => exact hr | false => exact absurd rfl h) H locs ls hW hS hl)
theorem g_ifB_ne (hC : Cx x f own cc nL R) {a : Bool} {off : Int} (tgt : Nat) (hd : decode cc pc = .ok (.ifCond .ne off, 3)) (ht : (pc : Int) + off = (tgt : Int)) (k1 : GG x f nL Qf tgt lv st M o1) (k2 : GG x f nL Qf (pc + 3) lv st M o2) : GG x f nL Qf pc lv (.int (bi a) :: st) M (if a = true then o1 else o2) :=
  fun r hr H locs ls hW hS hl => lv_if_ne hC.1 hC.2.1 hd ht (fun h => k1 r (by cases a with | true => exact hr | false => exact absurd rfl h) H locs ls hW hS hl) (fun h => k2 r (by cases a with | true => exact absurd h (by decide) | false => exact hr) H locs ls hW hS hl)
/-- a long compare and the branch on it: if x > y -/
theorem g_lcmp_gt (hC : Cx x f own cc nL R) {a b : Int64} {off : Int} (tgt : Nat) (hd : decode cc pc = .ok (.lcmp, 1)) (hd2 : decode cc (pc + 1) = .ok (.ifCond .gt off, 3)) (ht : ((pc + 1 : Nat) : Int) + off = (tgt : Int)) (k1 : GG x f nL Qf tgt lv st M o1) (k2 : GG x f nL Qf (pc + 1 + 3) lv st M o2) : GG x f nL Qf pc lv (.long b :: .long a :: st) M (if b < a then o1 else o2) := by
  intro r hr H locs ls hW hS hl
  refine W.lcmp hC.1 hC.2.1 hd ?_
  have e : (0 < lg_cmp a b) ↔ b < a := by
    unfold lg_cmp
    by_cases q1 : a > b
    · rw [if_pos q1]
      exact ⟨fun _ => q1, fun _ => by decide⟩
    · rw [if_neg q1]
      refine ⟨fun h => ?_, fun h => absurd h q1⟩
      by_cases q2 : a = b
      · rw [if_pos q2] at h; exact absurd h (by decide)
      · rw [if_neg q2] at h; exact absurd h (by decide)
  first
    | exact lv_if_gt hC.1 hC.2.1 hd2 ht (fun h => k1 r (by rw [if_pos (e.mp h)] at hr; exact hr) H locs ls hW hS hl) (fun h => k2 r (by rw [if_neg (fun z => h (e.mpr z))] at hr; exact hr) H locs ls hW hS hl)
end Branches
