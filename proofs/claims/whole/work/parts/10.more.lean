section More
variable {β : Type} {x : Wx} {f : Fx} {own : String} {cc : ByteArray} {nL : Nat} {R : Room} {Qf : β → State → Prop} {pc : Nat} {lv lv' : List (Nat × Value)} {st : List Value} {M : Mem} {o o1 o2 : Option β}
theorem g_top {e : Int32} {κ : Int32 → Option β} (k : ∀ v : Int32, GG x f nL Qf pc lv (.int v :: st) M (κ v)) : GG x f nL Qf pc lv (.int e :: st) M (nm e κ) := k e
theorem g_topl {e : Int64} {κ : Int64 → Option β} (k : ∀ v : Int64, GG x f nL Qf pc lv (.long v :: st) M (κ v)) : GG x f nL Qf pc lv (.long e :: st) M (nm e κ) := k e
theorem g_dup2 (hC : Cx x f own cc nL R) {v w : Value} (hd : decode cc pc = .ok (.dup2, 1)) (hv : v.category = 1) (hw : w.category = 1) (k : GG x f nL Qf (pc + 1) lv (v :: w :: v :: w :: st) M o) : GG x f nL Qf pc lv (v :: w :: st) M o :=
  fun r hr H locs ls hW hS hl => lv_dup2_11 hC.1 hC.2.1 hd hv hw (k r hr H locs ls hW hS hl)
theorem g_pop (hC : Cx x f own cc nL R) {v : Value} (hd : decode cc pc = .ok (.pop, 1)) (hv : v.category = 1) (k : GG x f nL Qf (pc + 1) lv st M o) : GG x f nL Qf pc lv (v :: st) M o :=
  fun r hr H locs ls hW hS hl => lv_pop hC.1 hC.2.1 hd hv (k r hr H locs ls hW hS hl)
theorem g_ldcw (hC : Cx x f own cc nL R) {i : Nat} {v : Int32} (hm : Cond.constant own i v ∈ lw_g) (hd : decode cc pc = .ok (.ldc_w i, 3)) (k : GG x f nL Qf (pc + 3) lv (.int v :: st) M o) : GG x f nL Qf pc lv st M o :=
  fun r hr H locs ls hW hS hl => lv_ldcw hC.1 hC.2.1 hC.2.2.2.1 (hC.2.2.2.2.1 _ hm) hd (k r hr H locs ls hW hS hl)
theorem g_ifnull (hC : Cx x f own cc nL R) {k : Nat} {off : Int} (hd : decode cc pc = .ok (.ifnull off, 3)) (kk : GG x f nL Qf (pc + 3) lv st M o) : GG x f nL Qf pc lv (.ref (x.1 k) :: st) M o :=
  fun r hr H locs ls hW hS hl => lv_ifnull hC.1 hC.2.1 hd (kk r hr H locs ls hW hS hl)
theorem g_gets62 (hC : Cx x f own cc nL R) {i : Nat} (hm : Cond.fieldLink own i "AnswersFirst" "LEAST_SETTING" "[I" ∈ lw_g) (hd : decode cc pc = .ok (.getstatic i, 3)) (k : GG x f nL Qf (pc + 3) lv (.ref (x.1 62) :: st) M o) : GG x f nL Qf pc lv st M o :=
  fun r hr H locs ls hW hS hl => va_gets hC.1 hC.2.1 hC.2.2.2.2.2.2.2.2.1.1.1.1 hS hC.2.2.2.1 (hC.2.2.2.2.1 _ hm) (fun _ h => h) hd (k r hr H locs ls hW hS hl)
theorem g_gets63 (hC : Cx x f own cc nL R) {i : Nat} (hm : Cond.fieldLink own i "AnswersFirst" "MOST_SETTING" "[I" ∈ lw_g) (hd : decode cc pc = .ok (.getstatic i, 3)) (k : GG x f nL Qf (pc + 3) lv (.ref (x.1 63) :: st) M o) : GG x f nL Qf pc lv st M o :=
  fun r hr H locs ls hW hS hl => va_gets hC.1 hC.2.1 hC.2.2.2.2.2.2.2.2.1.1.1.2.1 hS hC.2.2.2.1 (hC.2.2.2.2.1 _ hm) (fun _ h => h) hd (k r hr H locs ls hW hS hl)
/-- a table switch, case by case -/
theorem g_tcase (hC : Cx x f own cc nL R) {dflt lo hi : Int} {offs : Array Int} {len : Nat} {v i : Int32} (off : Int) (tgt : Nat) (hd : decode cc pc = .ok (.tableswitch dflt lo hi offs, len)) (h1 : ¬ i.toInt < lo) (h2 : ¬ hi < i.toInt) (ho : offs[(i.toInt - lo).toNat]? = some off) (ht : (pc : Int) + off = (tgt : Int)) (k1 : GG x f nL Qf tgt lv st M o1) (k2 : ¬ v = i → GG x f nL Qf pc lv (.int v :: st) M o2) : GG x f nL Qf pc lv (.int v :: st) M (if v = i then o1 else o2) := by
  intro r hr H locs ls hW hS hl
  by_cases e : v = i
  · rw [if_pos e] at hr
    subst e
    exact lv_tableIn hC.1 hC.2.1 hd h1 h2 ho ht (k1 r hr H locs ls hW hS hl)
  · rw [if_neg e] at hr
    exact k2 e r hr H locs ls hW hS hl
theorem g_tout (hC : Cx x f own cc nL R) {dflt lo hi : Int} {offs : Array Int} {len : Nat} {v : Int32} (tgt : Nat) (hd : decode cc pc = .ok (.tableswitch dflt lo hi offs, len)) (h : v.toInt < lo ∨ hi < v.toInt) (ht : (pc : Int) + dflt = (tgt : Int)) (k1 : GG x f nL Qf tgt lv st M o) : GG x f nL Qf pc lv (.int v :: st) M o :=
  fun r hr H locs ls hW hS hl => lv_tableOut hC.1 hC.2.1 hd h ht (k1 r hr H locs ls hW hS hl)
theorem g_lookup2 (hC : Cx x f own cc nL R) {dflt a b : Int} {len : Nat} {v : Int32} (i j : Int32) (ti tj td : Nat) (hd : decode cc pc = .ok (.lookupswitch dflt #[(i.toInt, a), (j.toInt, b)], len)) (hij : i.toInt < j.toInt) (h1 : (pc : Int) + a = (ti : Int)) (h2 : (pc : Int) + b = (tj : Int)) (h3 : (pc : Int) + dflt = (td : Int)) (k1 : GG x f nL Qf ti lv st M o1) {o3 : Option β} (k2 : GG x f nL Qf tj lv st M o2) (k3 : GG x f nL Qf td lv st M o3) : GG x f nL Qf pc lv (.int v :: st) M (if v = i then o1 else if v = j then o2 else o3) := by
  intro r hr H locs ls hW hS hl
  have hp : ((#[(i.toInt, a), (j.toInt, b)] : Array (Int × Int)).toList.zip ((#[(i.toInt, a), (j.toInt, b)] : Array (Int × Int)).toList.drop 1)).all (fun (q, next) => q.1 < next.1) = true := by simp [hij]
  by_cases e : v = i
  · rw [if_pos e] at hr
    exact lv_lookup hC.1 hC.2.1 hd hp (off := a) (by subst e; simp [Op.lookupswitch.offset]) h1 (k1 r hr H locs ls hW hS hl)
  · rw [if_neg e] at hr
    have e' : ¬ v.toInt = i.toInt := fun z => e (Int32.toInt_inj.mp z)
    by_cases e2 : v = j
    · rw [if_pos e2] at hr
      exact lv_lookup hC.1 hC.2.1 hd hp (off := b) (by subst e2; simp [Op.lookupswitch.offset, Ne.symm e', e']) h2 (k2 r hr H locs ls hW hS hl)
    · rw [if_neg e2] at hr
      have e2' : ¬ v.toInt = j.toInt := fun z => e2 (Int32.toInt_inj.mp z)
      exact lv_lookup hC.1 hC.2.1 hd hp (off := dflt) (by simp [Op.lookupswitch.offset, Ne.symm e', e', Ne.symm e2', e2']) h3 (k3 r hr H locs ls hW hS hl)
/-- System.arraycopy over two rows of ints of the world -/
def cpb {β : Type} (n0 n1 : Nat) (sp dp n : Int32) (o : Option β) : Option β := if (¬ sp < 0 ∧ ¬ dp < 0 ∧ ¬ n < 0) ∧ ix sp + ix n ≤ n0 ∧ ix dp + ix n ≤ n1 then o else none
theorem g_copy (hC : Cx x f own cc nL R) {i a b n0 n1 : Nat} (ha : kd a = 9) (hb : kd b = 9) (hna : ln a = n0) (hnb : ln b = n1) (hm : Cond.methodLink own i arraycopyName ∈ lw_g) (hnat : Cond.native arraycopyName ∈ lw_g) (hst : Cond.static arraycopyName ∈ lw_g) (hini : Cond.initialized "java/lang/System" ∈ lw_g) (hfr : 1 ≤ R.frames) (hlo : (st.map fun v => v.category).sum + 18 ≤ R.locals) {sp dp n : Int32} (hd : decode cc pc = .ok (.invokestatic i, 3)) {κ : Mem → Option β} (kk : ∀ M1, GG x f nL Qf (pc + 3) lv st M1 (κ M1)) :
    GG x f nL Qf pc lv (.int n :: .int dp :: .ref (x.1 b) :: .int sp :: .ref (x.1 a) :: st) M (cpb n0 n1 sp dp n (nm (stC M b (va_cpy (M a) (M b) (ix sp) (ix dp) (ix n))) κ)) := by
  intro r h H locs ls hW hS hl
  unfold cpb at h
  by_cases hi : (¬ sp < 0 ∧ ¬ dp < 0 ∧ ¬ n < 0) ∧ ix sp + ix n ≤ n0 ∧ ix dp + ix n ≤ n1
  · rw [if_pos hi] at h
    obtain ⟨⟨h1, h2, h3⟩, h4, h5⟩ := hi
    have hea : (wl x M)[a]? = some (x.1 a, .inl (x.2.2 9, ln a, .inl (M a))) := by rw [wl_get (kd_lt ha (by omega)), cE_arr ha (by omega) (by omega)]
    have heb : (wl x M)[b]? = some (x.1 b, .inl (x.2.2 9, ln b, .inl (M b))) := by rw [wl_get (kd_lt hb (by omega)), cE_arr hb (by omega) (by omega)]
    have hR := hC.2.2.2.2.2.2.2.2.2.1
    refine va_copyi hC.1 hC.2.1 (hC.2.2.1.trans hl.1.symm) hC.2.2.2.1 (hC.2.2.2.2.1 _ hm) (hC.2.2.2.2.1 _ hnat) (hC.2.2.2.2.1 _ hst) (hC.2.2.2.2.1 _ hini) hC.2.2.2.2.2.1 hW hC.D hS a b 0 0 hea heb rfl rfl rfl h1 h2 h3 (by rw [hna]; exact h4) (by rw [hnb]; exact h5) (fun _ _ => rfl) (by rw [hR]; exact hfr) (by rw [hR]; exact hlo) hd (fun H1 locs1 hP hD hS1 => ?_)
    rw [wl_set (M' := stC M b (va_cpy (M a) (M b) (ix sp) (ix dp) (ix n))) (by rw [cE_arr hb (by omega) (by omega), stC_same]) (fun j hj => stC_ne M _ hj)] at hP
    exact kk _ r h H1 locs1 ls hP hS1 hl
  · rw [if_neg hi] at h; cases h
end More
/-! kinds of the cells that are many -/
theorem kdT {k : Nat} (h : kd k = 6) : k = 2 ∨ k = 3 ∨ k = 4 := by
  have h1 := kd_lt h (by omega)
  have : ∀ j, j < 54 → kd j = 6 → j = 2 ∨ j = 3 ∨ j = 4 := by decide
  exact this k h1 h
theorem kdE {k : Nat} (h : kd k = 1) : k = 9 ∨ k = 10 ∨ k = 11 := by
  have h1 := kd_lt h (by omega)
  have : ∀ j, j < 54 → kd j = 1 → j = 9 ∨ j = 10 ∨ j = 11 := by decide
  exact this k h1 h
theorem kdS {k : Nat} (h : kd k = 5) : k = 29 ∨ k = 30 ∨ k = 31 ∨ k = 32 := by
  have h1 := kd_lt h (by omega)
  have : ∀ j, j < 54 → kd j = 5 → j = 29 ∨ j = 30 ∨ j = 31 ∨ j = 32 := by decide
  exact this k h1 h
theorem kb_T {k : Nat} (h : kd k = 6) : kd (k + 3) = 10 := by rcases kdT h with e | e | e <;> subst e <;> rfl
theorem kp_E {k : Nat} (h : kd k = 1) : kd (k + 3) = 9 := by rcases kdE h with e | e | e <;> subst e <;> rfl
theorem lp_E {k : Nat} (h : kd k = 1) : ln (k + 3) = 60 := by rcases kdE h with e | e | e <;> subst e <;> rfl
theorem kf_E (k : Nat) : 60 ≤ fm k ∧ fm k < 64 := by unfold fm; split <;> omega
theorem ki_S {k : Nat} (h : kd k = 5) : kd (k + 4) = 9 := by rcases kdS h with e | e | e | e <;> subst e <;> rfl
theorem li_S {k : Nat} (h : kd k = 5) : ln (k + 4) = 48 := by rcases kdS h with e | e | e | e <;> subst e <;> rfl
theorem inb_lt {i : Int32} {n : Nat} (h : inb i n = true) : ix i < n := by
  have := inb_iff.mp h
  unfold vp_in at this
  exact Nat.not_le.mp fun q => this (Or.inr q)
theorem ka_T {i : Int32} (h : inb i 3 = true) : kd (1 + 1 + ix i) = 6 := by
  have := inb_lt h
  rcases (show ix i = 0 ∨ ix i = 1 ∨ ix i = 2 by omega) with e | e | e <;> rw [e] <;> rfl
theorem ka_E {i : Int32} (h : inb i 3 = true) : kd (8 + 1 + ix i) = 1 := by
  have := inb_lt h
  rcases (show ix i = 0 ∨ ix i = 1 ∨ ix i = 2 by omega) with e | e | e <;> rw [e] <;> rfl
theorem ka_S {i : Int32} (h : inb i 4 = true) : kd (28 + 1 + ix i) = 5 := by
  have := inb_lt h
  rcases (show ix i = 0 ∨ ix i = 1 ∨ ix i = 2 ∨ ix i = 3 by omega) with e | e | e | e <;> rw [e] <;> rfl
theorem q_tne {v i : Int32} (h : ¬ v = i) : ¬ v.toInt = i.toInt := fun e => h (Int32.toInt_inj.mp e)
