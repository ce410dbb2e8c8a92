/-! rows that read and write cells -/
/-- what is known of a class, by its number -/
def CF (c : Nat) (C : String) (T : u_T) (N : Nat) (ty : Nat → FieldType) : Prop :=
  c < 9 ∧ vwCl[c]? = some (C, T, N) ∧ (∀ w ∈ u_ws C T N, w ∈ lw_g) ∧ N = nfL.getD c 0 ∧ (∀ k, k < N → parseFieldDescriptor (T k).2.2.1 = some (ty k)) ∧ (∀ a, a < N → ∀ b, b < N → a ≠ b → (T a).2.1 ≠ (T b).2.1)
section Heap
variable {β : Type} {x : Wx} {f : Fx} {own : String} {cc : ByteArray} {nL : Nat} {R : Room} {Qf : β → State → Prop} {pc : Nat} {lv lv' : List (Nat × Value)} {st : List Value} {M : Mem} {o o1 o2 : Option β}
theorem Cx.D (hC : Cx x f own cc nL R) : va_D (fA f) (wl x M) := wl_D hC.2.2.2.2.2.2.1 hC.2.2.2.2.2.2.2.1
theorem g_getI (hC : Cx x f own cc nL R) {c : Nat} {C : String} {T : u_T} {N : Nat} {ty : Nat → FieldType} (hF : CF c C T N ty) {k i : Nat} (hk : kd k = c) (j : Nat) (hj : j < N) (hr : rfO c k j = none) (hm : Cond.fieldLink own i (T j).1 (T j).2.1 (T j).2.2.1 ∈ lw_g) (hd : decode cc pc = .ok (.getfield i, 3)) (kk : GG x f nL Qf (pc + 3) lv (.int (M k j) :: st) M o) : GG x f nL Qf pc lv (.ref (x.1 k) :: st) M o := by
  intro r h H locs ls hW hS hl
  obtain ⟨f1, f2, f3, f4, f5, f6⟩ := hF
  have he : (wl x M)[k]? = some (x.1 k, .inr (c, fsL x M c k)) := by rw [wl_get (kd_lt hk (by omega)), cE_obj hk f1]
  refine va_get (C := C) (T := T) (N := N) hC.1 hC.2.1 hC.2.2.2.2.1 f3 hC.2.2.2.1 hC.2.2.2.2.2.1 hW k he f2 j hj (hC.2.2.2.2.1 _ hm) (fun _ h => h) (v := .int (M k j)) ?_ hd (kk r h H locs ls hW hS hl)
  rw [fsL_get (by omega)]
  unfold fv
  rw [hr]
theorem g_getR (hC : Cx x f own cc nL R) {c : Nat} {C : String} {T : u_T} {N : Nat} {ty : Nat → FieldType} (hF : CF c C T N ty) {k i t : Nat} (hk : kd k = c) (j : Nat) (hj : j < N) (hr : rfO c k j = some t) (hm : Cond.fieldLink own i (T j).1 (T j).2.1 (T j).2.2.1 ∈ lw_g) (hd : decode cc pc = .ok (.getfield i, 3)) (kk : GG x f nL Qf (pc + 3) lv (.ref (x.1 t) :: st) M o) : GG x f nL Qf pc lv (.ref (x.1 k) :: st) M o := by
  intro r h H locs ls hW hS hl
  obtain ⟨f1, f2, f3, f4, f5, f6⟩ := hF
  have he : (wl x M)[k]? = some (x.1 k, .inr (c, fsL x M c k)) := by rw [wl_get (kd_lt hk (by omega)), cE_obj hk f1]
  refine va_get (C := C) (T := T) (N := N) hC.1 hC.2.1 hC.2.2.2.2.1 f3 hC.2.2.2.1 hC.2.2.2.2.2.1 hW k he f2 j hj (hC.2.2.2.2.1 _ hm) (fun _ h => h) (v := .ref (x.1 t)) ?_ hd (kk r h H locs ls hW hS hl)
  rw [fsL_get (by omega)]
  unfold fv
  rw [hr]
theorem g_put (hC : Cx x f own cc nL R) {c : Nat} {C : String} {T : u_T} {N : Nat} {ty : Nat → FieldType} (hF : CF c C T N ty) {k i : Nat} (hk : kd k = c) (j : Nat) {v : Int32} (hj : j < N) (hr : rfO c k j = none) (hm : Cond.fieldLink own i (T j).1 (T j).2.1 (T j).2.2.1 ∈ lw_g) (hfin : (T j).2.2.2 = false) (hn : narrow (ty j) (.int v) = .int v) (hfit : fits (ty j) (.int v) = true) (hd : decode cc pc = .ok (.putfield i, 3)) {κ : Mem → Option β} (kk : ∀ M1, GG x f nL Qf (pc + 3) lv st M1 (κ M1)) : GG x f nL Qf pc lv (.int v :: .ref (x.1 k) :: st) M (nm (st2 M k j v) κ) := by
  intro r h H locs ls hW hS hl
  obtain ⟨f1, f2, f3, f4, f5, f6⟩ := hF
  have he : (wl x M)[k]? = some (x.1 k, .inr (c, fsL x M c k)) := by rw [wl_get (kd_lt hk (by omega)), cE_obj hk f1]
  refine va_put (C := C) (T := T) (N := N) hC.1 hC.2.1 hC.2.2.2.2.1 f3 ty f5 f6 hC.2.2.2.1 hC.2.2.2.2.2.1 hW hC.D hS k he f2 j hj (hC.2.2.2.2.1 _ hm) (fun _ h => h) hfin (f5 j hj) hn hfit (by simp [fsL]; rw [List.getD_eq_getElem?_getD] at f4; omega) hd (fun H1 locs1 hP hD hS1 => ?_)
  rw [fsL_set hr, wl_set (M' := st2 M k j v) (cE_obj hk f1) st2_ne] at hP
  exact kk (st2 M k j v) r h H1 locs1 ls hP hS1 hl
theorem g_iald (hC : Cx x f own cc nL R) {k n : Nat} (hk : kd k = 9) (hn : ln k = n) {i : Int32} (hd : decode cc pc = .ok (.iaload, 1)) (kk : GG x f nL Qf (pc + 1) lv (.int (M k (ix i)) :: st) M o) : GG x f nL Qf pc lv (.int i :: .ref (x.1 k) :: st) M (ib i n o) := by
  intro r h H locs ls hW hS hl
  unfold ib at h
  by_cases hi : inb i n = true
  · rw [if_pos hi] at h
    have he : (wl x M)[k]? = some (x.1 k, .inl (x.2.2 9, ln k, .inl (M k))) := by rw [wl_get (kd_lt hk (by omega)), cE_arr hk (by omega) (by omega)]
    exact va_iald hC.1 hC.2.1 hC.2.2.2.2.2.1 hW k 0 he rfl (by rw [hn]; exact inb_iff.mp hi) hd (kk r h H locs ls hW hS hl)
  · rw [if_neg hi] at h; cases h
theorem g_bald (hC : Cx x f own cc nL R) {k n : Nat} (hk : kd k = 10) (hn : ln k = n) {i : Int32} (hd : decode cc pc = .ok (.baload, 1)) (kk : GG x f nL Qf (pc + 1) lv (.int (M k (ix i)) :: st) M o) : GG x f nL Qf pc lv (.int i :: .ref (x.1 k) :: st) M (ib i n o) := by
  intro r h H locs ls hW hS hl
  unfold ib at h
  by_cases hi : inb i n = true
  · rw [if_pos hi] at h
    have he : (wl x M)[k]? = some (x.1 k, .inl (x.2.2 10, ln k, .inl (M k))) := by rw [wl_get (kd_lt hk (by omega)), cE_arr hk (by omega) (by omega)]
    exact va_bald hC.1 hC.2.1 hC.2.2.2.2.2.1 hW k 1 he rfl (by rw [hn]; exact inb_iff.mp hi) hd (kk r h H locs ls hW hS hl)
  · rw [if_neg hi] at h; cases h
theorem g_zald (hC : Cx x f own cc nL R) {k n : Nat} (hk : kd k = 11) (hn : ln k = n) {i : Int32} (hd : decode cc pc = .ok (.baload, 1)) (kk : GG x f nL Qf (pc + 1) lv (.int (M k (ix i)) :: st) M o) : GG x f nL Qf pc lv (.int i :: .ref (x.1 k) :: st) M (ib i n o) := by
  intro r h H locs ls hW hS hl
  unfold ib at h
  by_cases hi : inb i n = true
  · rw [if_pos hi] at h
    have he : (wl x M)[k]? = some (x.1 k, .inl (x.2.2 11, ln k, .inl (M k))) := by rw [wl_get (kd_lt hk (by omega)), cE_arr hk (by omega) (by omega)]
    exact va_zald hC.1 hC.2.1 hC.2.2.2.2.2.1 hW k 2 he rfl (by rw [hn]; exact inb_iff.mp hi) hd (kk r h H locs ls hW hS hl)
  · rw [if_neg hi] at h; cases h
theorem g_roald (hC : Cx x f own cc nL R) {k n : Nat} (hk : 60 ≤ k ∧ k < 64) (hn : roL k = n) {i : Int32} (hd : decode cc pc = .ok (.iaload, 1)) (kk : GG x f nL Qf (pc + 1) lv (.int (roI k (ix i)) :: st) M o) : GG x f nL Qf pc lv (.int i :: .ref (x.1 k) :: st) M (ib i n o) := by
  intro r h H locs ls hW hS hl
  unfold ib at h
  by_cases hi : inb i n = true
  · rw [if_pos hi] at h
    exact va_ti hC.1 hC.2.1 (hC.2.2.2.2.2.2.2.2.1.1.2 k hk.1 hk.2) hS (by rw [hn]; exact inb_iff.mp hi) rfl hd (kk r h H locs ls hW hS hl)
  · rw [if_neg hi] at h; cases h
theorem g_alen (hC : Cx x f own cc nL R) {k : Nat} {n : Int32} (c t : Nat) (hk : kd k = c) (hc : ¬ c < 9 ∧ c < 12 ∧ t + 9 = c) (hn : Int32.ofNat (ln k) = n) (hd : decode cc pc = .ok (.arraylength, 1)) (kk : GG x f nL Qf (pc + 1) lv (.int n :: st) M o) : GG x f nL Qf pc lv (.ref (x.1 k) :: st) M o := by
  intro r h H locs ls hW hS hl
  obtain ⟨h1, h2, h3⟩ := hc
  have he : (wl x M)[k]? = some (x.1 k, .inl (x.2.2 c, ln k, .inl (M k))) := by rw [wl_get (kd_lt hk (by omega)), cE_arr hk h1 h2]
  rcases (show t = 0 ∨ t = 1 ∨ t = 2 by omega) with e | e | e <;> subst e <;> subst h3
  · exact va_alen hC.1 hC.2.1 hC.2.2.2.2.2.1 hW k 0 he rfl hn hd (kk r h H locs ls hW hS hl)
  · exact va_alen hC.1 hC.2.1 hC.2.2.2.2.2.1 hW k 1 he rfl hn hd (kk r h H locs ls hW hS hl)
  · exact va_alen hC.1 hC.2.1 hC.2.2.2.2.2.1 hW k 2 he rfl hn hd (kk r h H locs ls hW hS hl)
theorem g_rolen (hC : Cx x f own cc nL R) {k : Nat} {n : Int32} (hk : 60 ≤ k ∧ k < 64) (hn : Int32.ofNat (roL k) = n) (hd : decode cc pc = .ok (.arraylength, 1)) (kk : GG x f nL Qf (pc + 1) lv (.int n :: st) M o) : GG x f nL Qf pc lv (.ref (x.1 k) :: st) M o :=
  fun r h H locs ls hW hS hl => va_tlen hC.1 hC.2.1 (hC.2.2.2.2.2.2.2.2.1.1.2 k hk.1 hk.2) hS hn hd (kk r h H locs ls hW hS hl)
theorem g_aald (hC : Cx x f own cc nL R) {k n : Nat} (c : Nat) (hk : kd k = c) (hc : 12 ≤ c ∧ c < 15) (hn : ln k = n) {i : Int32} (hd : decode cc pc = .ok (.aaload, 1)) (kk : inb i n = true → GG x f nL Qf (pc + 1) lv (.ref (x.1 (k + 1 + ix i)) :: st) M o) : GG x f nL Qf pc lv (.int i :: .ref (x.1 k) :: st) M (ib i n o) := by
  intro r h H locs ls hW hS hl
  unfold ib at h
  by_cases hi : inb i n = true
  · rw [if_pos hi] at h
    have he : (wl x M)[k]? = some (x.1 k, .inl (x.2.2 c, ln k, .inr (.inr (.inr (.inr (fun i => some (x.1 (k + 1 + i)))))))) := by rw [wl_get (kd_lt hk (by omega)), cE_ref hk (by omega) (by omega)]
    rcases (show c = 12 ∨ c = 13 ∨ c = 14 by omega) with e | e | e <;> subst e
    · exact va_aldq hC.1 hC.2.1 hC.2.2.2.2.2.1 hW k 3 he rfl (by rw [hn]; exact inb_iff.mp hi) hd (kk hi r h H locs ls hW hS hl)
    · exact va_aldq hC.1 hC.2.1 hC.2.2.2.2.2.1 hW k 4 he rfl (by rw [hn]; exact inb_iff.mp hi) hd (kk hi r h H locs ls hW hS hl)
    · exact va_aldq hC.1 hC.2.1 hC.2.2.2.2.2.1 hW k 5 he rfl (by rw [hn]; exact inb_iff.mp hi) hd (kk hi r h H locs ls hW hS hl)
  · rw [if_neg hi] at h; cases h
theorem g_iast (hC : Cx x f own cc nL R) {k n : Nat} (hk : kd k = 9) (hn : ln k = n) {i v : Int32} (hd : decode cc pc = .ok (.iastore, 1)) {κ : Mem → Option β} (kk : ∀ M1, GG x f nL Qf (pc + 1) lv st M1 (κ M1)) : GG x f nL Qf pc lv (.int v :: .int i :: .ref (x.1 k) :: st) M (ib i n (nm (st2 M k (ix i) v) κ)) := by
  intro r h H locs ls hW hS hl
  unfold ib at h
  by_cases hi : inb i n = true
  · rw [if_pos hi] at h
    have he : (wl x M)[k]? = some (x.1 k, .inl (x.2.2 9, ln k, .inl (M k))) := by rw [wl_get (kd_lt hk (by omega)), cE_arr hk (by omega) (by omega)]
    refine va_iast hC.1 hC.2.1 hC.2.2.2.2.2.1 hW hC.D hS k 0 he rfl (by rw [hn]; exact inb_iff.mp hi) hd (fun H1 locs1 hP hD hS1 => ?_)
    rw [wl_set (M' := st2 M k (ix i) v) (by rw [cE_arr hk (by omega) (by omega)]; rw [st2, stC_same]) st2_ne] at hP
    exact kk _ r h H1 locs1 ls hP hS1 hl
  · rw [if_neg hi] at h; cases h
theorem g_bast (hC : Cx x f own cc nL R) {k n : Nat} (hk : kd k = 10) (hn : ln k = n) {i v : Int32} (hd : decode cc pc = .ok (.bastore, 1)) {κ : Mem → Option β} (kk : ∀ M1, GG x f nL Qf (pc + 1) lv st M1 (κ M1)) : GG x f nL Qf pc lv (.int v :: .int i :: .ref (x.1 k) :: st) M (ib i n (nm (st2 M k (ix i) v.toInt8.toInt32) κ)) := by
  intro r h H locs ls hW hS hl
  unfold ib at h
  by_cases hi : inb i n = true
  · rw [if_pos hi] at h
    have he : (wl x M)[k]? = some (x.1 k, .inl (x.2.2 10, ln k, .inl (M k))) := by rw [wl_get (kd_lt hk (by omega)), cE_arr hk (by omega) (by omega)]
    refine va_bast hC.1 hC.2.1 hC.2.2.2.2.2.1 hW hC.D hS k 1 he rfl (by rw [hn]; exact inb_iff.mp hi) hd (fun H1 locs1 hP hD hS1 => ?_)
    rw [vp_nar_byte, wl_set (M' := st2 M k (ix i) v.toInt8.toInt32) (by rw [cE_arr hk (by omega) (by omega)]; rw [st2, stC_same]) st2_ne] at hP
    exact kk _ r h H1 locs1 ls hP hS1 hl
  · rw [if_neg hi] at h; cases h
theorem g_zast (hC : Cx x f own cc nL R) {k n : Nat} (hk : kd k = 11) (hn : ln k = n) {i v : Int32} (hv : vp_nar .boolean v = v) (hd : decode cc pc = .ok (.bastore, 1)) {κ : Mem → Option β} (kk : ∀ M1, GG x f nL Qf (pc + 1) lv st M1 (κ M1)) : GG x f nL Qf pc lv (.int v :: .int i :: .ref (x.1 k) :: st) M (ib i n (nm (st2 M k (ix i) v) κ)) := by
  intro r h H locs ls hW hS hl
  unfold ib at h
  by_cases hi : inb i n = true
  · rw [if_pos hi] at h
    have he : (wl x M)[k]? = some (x.1 k, .inl (x.2.2 11, ln k, .inl (M k))) := by rw [wl_get (kd_lt hk (by omega)), cE_arr hk (by omega) (by omega)]
    refine va_zast hC.1 hC.2.1 hC.2.2.2.2.2.1 hW hC.D hS k 2 he rfl (by rw [hn]; exact inb_iff.mp hi) hd (fun H1 locs1 hP hD hS1 => ?_)
    rw [hv, wl_set (M' := st2 M k (ix i) v) (by rw [cE_arr hk (by omega) (by omega)]; rw [st2, stC_same]) st2_ne] at hP
    exact kk _ r h H1 locs1 ls hP hS1 hl
  · rw [if_neg hi] at h; cases h
end Heap
