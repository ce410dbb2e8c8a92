/-! CONSTRUCTION: a judgement over a growing list of cells -/
abbrev tysC (c : Nat → ClassId) : List (ClassId × FieldType) := [(c 9, .int), (c 10, .byte), (c 11, .boolean), (c 12, .object "AnswersFirst$Entries"), (c 13, .object "AnswersFirst$Sheet"), (c 14, .object "AnswersFirst$Text")]
abbrev qF (f : Nat → Option Nat) : ((Nat → Int32) ⊕ (Nat → Int64) ⊕ (Nat → UInt32) ⊕ (Nat → UInt64) ⊕ (Nat → Option Nat)) := .inr (.inr (.inr (.inr f)))
def CA (D : va_G) (cT : Nat → ClassId) (f : Fx) (own : String) (cc : ByteArray) (nL : Nat) (R : Room) : Prop :=
  (fP f).tables.exec = Jvm.exec ∧ (fC f).code = cc ∧ (fC f).maxLocals = nL ∧ (fS f).vm.findClass own = some (fM f).cls ∧ (∀ w ∈ lw_g, w.before (fV f) (fS f) = true) ∧ va_K D vwCl (tysC cT) (fS f) ∧ (∀ q, (fS f).heap.size ≤ q → fA f q) ∧ fR f = R ∧ (fT f).locks = false
abbrev AW (f : Fx) (H : Heap) (locs : List Loc) (cs sl : Nat) (Q : State → Prop) (g : JFrame) : Prop := W (fP f) (fL f) (fE f) (fR f) (fS f) (fM f) (fV f) (fB f) (fT f) (fC f) H locs cs sl Q g
def GA (D : va_G) (f : Fx) (nL : Nat) (Q : State → Prop) (pc : Nat) (lv : List (Nat × Value)) (st : List Value) (ws : va_W) (cs sl : Nat) : Prop :=
  ∀ (H : Heap) (locs : List Loc) (ls : Array Slot), va_P D vwCl ws H → va_D (fA f) ws → va_S (fA f) (fS f).heap H locs → lv_has ls nL lv → AW f H locs cs sl Q (F0 (fM f) pc ls st)
section Making
variable {D : va_G} {cT : Nat → ClassId} {f : Fx} {own : String} {cc : ByteArray} {nL : Nat} {R : Room} {Q : State → Prop} {pc : Nat} {lv : List (Nat × Value)} {st : List Value} {ws ws' : va_W} {cs sl : Nat}
theorem a_iconst (hC : CA D cT f own cc nL R) {n : Int} {v : Int32} (hd : decode cc pc = .ok (.iconst n, 1)) (hv : Int32.ofInt n = v) (k : GA D f nL Q (pc + 1) lv (.int v :: st) ws cs sl) : GA D f nL Q pc lv st ws cs sl :=
  fun H locs ls hP hD hS hl => lv_iconst hC.1 hC.2.1 hd hv (k H locs ls hP hD hS hl)
theorem a_bipush (hC : CA D cT f own cc nL R) {n : Int} {v : Int32} (hd : decode cc pc = .ok (.bipush n, 2)) (hv : (Int8.ofInt n).toInt32 = v) (k : GA D f nL Q (pc + 2) lv (.int v :: st) ws cs sl) : GA D f nL Q pc lv st ws cs sl :=
  fun H locs ls hP hD hS hl => lv_bipush hC.1 hC.2.1 hd hv (k H locs ls hP hD hS hl)
theorem a_sipush (hC : CA D cT f own cc nL R) {n : Int} {v : Int32} (hd : decode cc pc = .ok (.sipush n, 3)) (hv : (Int16.ofInt n).toInt32 = v) (k : GA D f nL Q (pc + 3) lv (.int v :: st) ws cs sl) : GA D f nL Q pc lv st ws cs sl :=
  fun H locs ls hP hD hS hl => lv_sipush hC.1 hC.2.1 hd hv (k H locs ls hP hD hS hl)
theorem a_aload_n (hC : CA D cT f own cc nL R) {j : Fin 4} {i : Nat} {a : Nat} (q : Nat) (hd : decode cc pc = .ok (.aload_n j, 1)) (hi : (j : Nat) = i) (hq : lv[q]? = some (i, .ref a)) (k : GA D f nL Q (pc + 1) lv (.ref a :: st) ws cs sl) : GA D f nL Q pc lv st ws cs sl :=
  fun H locs ls hP hD hS hl => lv_aload_n hC.1 hC.2.1 hd hi (lv_at hl q hq) (k H locs ls hP hD hS hl)
theorem a_iload_n (hC : CA D cT f own cc nL R) {j : Fin 4} {i : Nat} {a : Int32} (q : Nat) (hd : decode cc pc = .ok (.iload_n j, 1)) (hi : (j : Nat) = i) (hq : lv[q]? = some (i, .int a)) (k : GA D f nL Q (pc + 1) lv (.int a :: st) ws cs sl) : GA D f nL Q pc lv st ws cs sl :=
  fun H locs ls hP hD hS hl => lv_iload_n hC.1 hC.2.1 hd hi (lv_at hl q hq) (k H locs ls hP hD hS hl)
theorem a_istore_n (hC : CA D cT f own cc nL R) {lv' : List (Nat × Value)} {j : Fin 4} {i : Nat} {a : Int32} (ks : List Nat) (hd : decode cc pc = .ok (.istore_n j, 1)) (hi : (j : Nat) = i) (hn : i < nL) (hl' : lv_pick ((i, Value.int a) :: lv.filter (fun q => !(q.1 == i) && !(q.1 + 1 == i && q.2.category == 2))) ks = lv') (k : GA D f nL Q (pc + 1) lv' st ws cs sl) : GA D f nL Q pc lv (.int a :: st) ws cs sl :=
  fun H locs ls hP hD hS hl => lv_istore_n hC.1 hC.2.1 hd hi hl hn rfl (fun ls' h' => k H locs ls' hP hD hS (lv_sub h' ks hl'))
theorem a_astore_n (hC : CA D cT f own cc nL R) {lv' : List (Nat × Value)} {j : Fin 4} {i : Nat} {a : Nat} (ks : List Nat) (hd : decode cc pc = .ok (.astore_n j, 1)) (hi : (j : Nat) = i) (hn : i < nL) (hl' : lv_pick ((i, Value.ref a) :: lv.filter (fun q => !(q.1 == i) && !(q.1 + 1 == i && q.2.category == 2))) ks = lv') (k : GA D f nL Q (pc + 1) lv' st ws cs sl) : GA D f nL Q pc lv (.ref a :: st) ws cs sl :=
  fun H locs ls hP hD hS hl => lv_astore_n hC.1 hC.2.1 hd hi hl hn rfl (fun ls' h' => k H locs ls' hP hD hS (lv_sub h' ks hl'))
theorem a_iinc (hC : CA D cT f own cc nL R) {lv' : List (Nat × Value)} {i q : Nat} {n : Int} {a w : Int32} (ks : List Nat) (hd : decode cc pc = .ok (.iinc i n, 3)) (hq : lv[q]? = some (i, .int a)) (hv : a + Int32.ofInt n = w) (hn : i < nL) (hl' : lv_pick ((i, Value.int w) :: lv.filter (fun q => !(q.1 == i) && !(q.1 + 1 == i && q.2.category == 2))) ks = lv') (k : GA D f nL Q (pc + 3) lv' st ws cs sl) : GA D f nL Q pc lv st ws cs sl :=
  fun H locs ls hP hD hS hl => lv_iinc hC.1 hC.2.1 hd hl hq hv hn rfl (fun ls' h' => k H locs ls' hP hD hS (lv_sub h' ks hl'))
theorem a_dup (hC : CA D cT f own cc nL R) {v : Value} (hd : decode cc pc = .ok (.dup, 1)) (hv : v.category = 1) (k : GA D f nL Q (pc + 1) lv (v :: v :: st) ws cs sl) : GA D f nL Q pc lv (v :: st) ws cs sl :=
  fun H locs ls hP hD hS hl => lv_dup hC.1 hC.2.1 hd hv (k H locs ls hP hD hS hl)
theorem a_goto (hC : CA D cT f own cc nL R) {off : Int} (tgt : Nat) (hd : decode cc pc = .ok (.goto off, 3)) (ht : (pc : Int) + off = (tgt : Int)) (k : GA D f nL Q tgt lv st ws cs sl) : GA D f nL Q pc lv st ws cs sl :=
  fun H locs ls hP hD hS hl => lv_goto hC.1 hC.2.1 hd ht (k H locs ls hP hD hS hl)
theorem a_geF (hC : CA D cT f own cc nL R) {a b : Int32} {off : Int} (tgt : Nat) (hd : decode cc pc = .ok (.if_icmp .ge off, 3)) (ht : (pc : Int) + off = (tgt : Int)) (h : ¬ b ≤ a) (k : GA D f nL Q (pc + 3) lv st ws cs sl) : GA D f nL Q pc lv (.int b :: .int a :: st) ws cs sl :=
  fun H locs ls hP hD hS hl => lv_icmp_ge hC.1 hC.2.1 hd ht (fun q => absurd q h) (fun _ => k H locs ls hP hD hS hl)
theorem a_geT (hC : CA D cT f own cc nL R) {a b : Int32} {off : Int} (tgt : Nat) (hd : decode cc pc = .ok (.if_icmp .ge off, 3)) (ht : (pc : Int) + off = (tgt : Int)) (h : b ≤ a) (k : GA D f nL Q tgt lv st ws cs sl) : GA D f nL Q pc lv (.int b :: .int a :: st) ws cs sl :=
  fun H locs ls hP hD hS hl => lv_icmp_ge hC.1 hC.2.1 hd ht (fun _ => k H locs ls hP hD hS hl) (fun q => absurd h q)
theorem a_mmax (hC : CA D cT f own cc nL R) {i : Nat} {a b v : Int32} (hm : Cond.methodLink own i Lib.Math.max.name ∈ lw_g) (hst : Cond.static Lib.Math.max.name ∈ lw_g) (hini : Cond.initialized "java/lang/Math" ∈ lw_g) (hcode : Cond.code Lib.Math.max.name Lib.Math.max.code 2 (some .int) ∈ lw_g) (hfr : 1 ≤ R.frames) (hlo : (st.map fun v => v.category).sum + 13 ≤ R.locals) (hcs : cs ≤ R.cells) (hsl : sl ≤ R.slots) (hv : (if a < b then b else a) = v) (hd : decode cc pc = .ok (.invokestatic i, 3)) (k : GA D f nL Q (pc + 3) lv (.int v :: st) ws cs sl) : GA D f nL Q pc lv (.int b :: .int a :: st) ws cs sl := by
  subst hv
  exact fun H locs ls hP hD hS hl => va_mmax hC.1 hC.2.1 (hC.2.2.1.trans hl.1.symm) hC.2.2.2.1 (hC.2.2.2.2.1 _ hm) (hC.2.2.2.2.1 _ hst) (hC.2.2.2.2.1 _ hini) (hC.2.2.2.2.1 _ hcode) (by rw [hC.2.2.2.2.2.2.2.1]; exact hfr) (by rw [hC.2.2.2.2.2.2.2.1]; exact hlo) (by rw [hC.2.2.2.2.2.2.2.1]; exact hcs) (by rw [hC.2.2.2.2.2.2.2.1]; exact hsl) hd (k H locs ls hP hD hS hl)
theorem a_objinit (hC : CA D cT f own cc nL R) {i a : Nat} (hm : Cond.methodLink own i objectInit ∈ lw_g) (hin : Cond.instanceMethod objectInit ∈ lw_g) (hcode : Cond.code objectInit ⟨#[0xb1]⟩ 1 none ∈ lw_g) (hfr : 1 ≤ R.frames) (hlo : 12 ≤ R.locals) (hd : decode cc pc = .ok (.invokespecial i, 3)) (k : GA D f nL Q (pc + 3) lv [] ws cs sl) : GA D f nL Q pc lv [.ref a] ws cs sl :=
  fun H locs ls hP hD hS hl => W.objInit hC.1 hC.2.1 hC.2.2.2.1 (hC.2.2.2.2.1 _ hm) (hC.2.2.2.2.1 _ hin) (hC.2.2.2.2.1 _ hcode) rfl (hl.1.trans hC.2.2.1.symm) rfl hd (by rw [hC.2.2.2.2.2.2.2.1]; exact hfr) (by rw [hC.2.2.2.2.2.2.2.1]; exact hlo) (k H locs ls hP hD hS hl)
theorem a_new (hC : CA D cT f own cc nL R) {c : Nat} {C : String} {T : u_T} {N i : Nat} {ty : Nat → FieldType} (hF : CF c C T N ty) {fs : List Value} (hfs : ∀ j, j < N → defaultValue (ty j) = vp_V fs j) (hcl : Cond.classLink own i C ∈ lw_g) (hinst : Cond.instantiable C N ∈ lw_g) (hini : Cond.initialized C ∈ lw_g) (hcs : cs + 1 ≤ R.cells) (hsl : sl + N ≤ R.slots) (hd : decode cc pc = .ok (.new i, 3)) (k : ∀ q : Nat, GA D f nL Q (pc + 3) lv (.ref q :: st) (ws ++ [(q, .inr (c, fs))]) (cs + 1) (sl + N)) : GA D f nL Q pc lv st ws cs sl :=
  fun H locs ls hP hD hS hl => va_new (C := C) (T := T) (N := N) hC.1 hC.2.1 hC.2.2.2.2.1 hF.2.2.1 ty hF.2.2.2.2.1 hC.2.2.2.1 (hC.2.2.2.2.1 _ hcl) (hC.2.2.2.2.1 _ hinst) (hC.2.2.2.2.1 _ hini) hC.2.2.2.2.2.1 hP hD hS hC.2.2.2.2.2.2.1 hF.2.1 hfs (by rw [hC.2.2.2.2.2.2.2.1]; exact hcs) (by rw [hC.2.2.2.2.2.2.2.1]; exact hsl) hd (fun q H1 hP1 hD1 hS1 => k q H1 locs ls hP1 hD1 hS1 hl)
theorem a_newa (hC : CA D cT f own cc nL R) {at' : ArrayType} {ty : FieldType} (t0 : Nat) {cA : ClassId} (ht : (tysC cT)[t0]? = some (cA, ty)) (hra : va_RA (fS f) cA ty → (fS f).vm.findClass ("[" ++ ty.toString) = some cA) (hra2 : ∀ c2, va_RA (fS f) c2 ty → (fS f).vm.findClass ("[" ++ ty.toString) = some c2) (hty : newarray.typeOf at' = ty) (hm : Cond.arrayClass (newarray.typeOf at') ∈ lw_g) {n : Int32} {N : Nat} {a0 : vp_A} (ha : ∀ cA : ClassId, vp_cell cA a0 = arrV cA N (fun _ => defaultValue ty)) (hn : ¬ n < 0) (hN : n.toNatClampNeg = N) (hby : N * componentBytes ty ≤ 536870912) (hcs : cs + 1 ≤ R.cells) (hsl : sl + N ≤ R.slots) (hd : decode cc pc = .ok (.newarray at', 2)) (k : ∀ q : Nat, GA D f nL Q (pc + 2) lv (.ref q :: st) (ws ++ [(q, .inl (cA, a0))]) (cs + 1) (sl + N)) : GA D f nL Q pc lv (.int n :: st) ws cs sl :=
  fun H locs ls hP hD hS hl => va_newa hC.1 hC.2.1 (hC.2.2.2.2.1 _ hm) hty hC.2.2.2.2.2.1 hP hD hS hC.2.2.2.2.2.2.1 ha hn hN hby (by rw [hC.2.2.2.2.2.2.2.1]; exact hcs) (by rw [hC.2.2.2.2.2.2.2.1]; exact hsl) hd (fun q c2 H1 hK1 hP1 hD1 hS1 => by
    have h1 := hra (hC.2.2.2.2.2.1.2 t0 _ ht).2
    have h2 := hra2 c2 (hK1.2 6 (c2, ty) rfl).2
    have e : c2 = cA := Option.some.inj (h2.symm.trans h1)
    subst e
    exact k q H1 locs ls hP1 hD1 hS1 hl)
theorem a_newq (hC : CA D cT f own cc nL R) {C : String} {i : Nat} (t0 : Nat) {cA : ClassId} (ht : (tysC cT)[t0]? = some (cA, .object C)) (hcl : Cond.classLink own i C ∈ lw_g) (hao : va_AO C (fS f)) {n : Int32} {N : Nat} (hn : ¬ n < 0) (hN : n.toNatClampNeg = N) (hby : N * 4 ≤ 536870912) (hcs : cs + 1 ≤ R.cells) (hsl : sl + N ≤ R.slots) (hd : decode cc pc = .ok (.anewarray i, 3)) (k : ∀ q : Nat, GA D f nL Q (pc + 3) lv (.ref q :: st) (ws ++ [(q, .inl (cA, N, qF (fun _ => none)))]) (cs + 1) (sl + N)) : GA D f nL Q pc lv (.int n :: st) ws cs sl :=
  fun H locs ls hP hD hS hl => va_newq hC.1 hC.2.1 hC.2.2.2.1 (hC.2.2.2.2.1 _ hcl) hao hC.2.2.2.2.2.1 hP hD hS hC.2.2.2.2.2.2.1 hn hN hby (by rw [hC.2.2.2.2.2.2.2.1]; exact hcs) (by rw [hC.2.2.2.2.2.2.2.1]; exact hsl) hd (fun q c2 H1 hK1 hP1 hD1 hS1 => by
    obtain ⟨k1, c1, -, -, -, h1⟩ := (hC.2.2.2.2.2.1.2 t0 _ ht).2
    obtain ⟨k2, c3, -, -, -, h2⟩ := (hK1.2 6 (c2, .object C) rfl).2
    have e : c2 = cA := Option.some.inj (h2.symm.trans h1)
    subst e
    exact k q H1 locs ls hP1 hD1 hS1 hl)
theorem a_putF (hC : CA D cT f own cc nL R) (hname : (fT f).name = "<init>") {c : Nat} {C : String} {T : u_T} {N : Nat} {ty : Nat → FieldType} (hF : CF c C T N ty) {i a : Nat} (q0 : Nat) {fs : List Value} (he : ws[q0]? = some (a, .inr (c, fs))) (j : Nat) {v : Value} (hj : j < N) (hm : Cond.fieldLink own i (T j).1 (T j).2.1 (T j).2.2.1 ∈ lw_g) (hfin : (T j).2.2.2 = true) (hdecl : (T j).1 = own) (hn : narrow (ty j) v = v) (hfit : fits (ty j) v = true) (hl0 : j < fs.length) (hws : ws.set q0 (a, .inr (c, fs.set j v)) = ws') (hd : decode cc pc = .ok (.putfield i, 3)) (k : GA D f nL Q (pc + 3) lv st ws' cs sl) : GA D f nL Q pc lv (v :: .ref a :: st) ws cs sl := by
  subst hws
  exact fun H locs ls hP hD hS hl => va_putF (C := C) (T := T) (N := N) hC.1 hC.2.1 hC.2.2.2.2.1 hF.2.2.1 ty hF.2.2.2.2.1 hF.2.2.2.2.2 hC.2.2.2.1 hC.2.2.2.2.2.1 hP hD hS q0 he hF.2.1 j hj (hC.2.2.2.2.1 _ hm) (fun _ h => h) hfin hname hdecl (hF.2.2.2.2.1 j hj) hn hfit hl0 hd (fun H1 locs1 hP1 hD1 hS1 => k H1 locs1 ls hP1 hD1 hS1 hl)
theorem a_put (hC : CA D cT f own cc nL R) {c : Nat} {C : String} {T : u_T} {N : Nat} {ty : Nat → FieldType} (hF : CF c C T N ty) {i a : Nat} (q0 : Nat) {fs : List Value} (he : ws[q0]? = some (a, .inr (c, fs))) (j : Nat) {v : Value} (hj : j < N) (hm : Cond.fieldLink own i (T j).1 (T j).2.1 (T j).2.2.1 ∈ lw_g) (hfin : (T j).2.2.2 = false) (hn : narrow (ty j) v = v) (hfit : fits (ty j) v = true) (hl0 : j < fs.length) (hws : ws.set q0 (a, .inr (c, fs.set j v)) = ws') (hd : decode cc pc = .ok (.putfield i, 3)) (k : GA D f nL Q (pc + 3) lv st ws' cs sl) : GA D f nL Q pc lv (v :: .ref a :: st) ws cs sl := by
  subst hws
  exact fun H locs ls hP hD hS hl => va_put (C := C) (T := T) (N := N) hC.1 hC.2.1 hC.2.2.2.2.1 hF.2.2.1 ty hF.2.2.2.2.1 hF.2.2.2.2.2 hC.2.2.2.1 hC.2.2.2.2.2.1 hP hD hS q0 he hF.2.1 j hj (hC.2.2.2.2.1 _ hm) (fun _ h => h) hfin (hF.2.2.2.2.1 j hj) hn hfit hl0 hd (fun H1 locs1 hP1 hD1 hS1 => k H1 locs1 ls hP1 hD1 hS1 hl)
theorem a_get (hC : CA D cT f own cc nL R) {c : Nat} {C : String} {T : u_T} {N : Nat} {ty : Nat → FieldType} (hF : CF c C T N ty) {i a : Nat} (q0 : Nat) {fs : List Value} (he : ws[q0]? = some (a, .inr (c, fs))) (j : Nat) {v : Value} (hj : j < N) (hm : Cond.fieldLink own i (T j).1 (T j).2.1 (T j).2.2.1 ∈ lw_g) (hv : fs[j]? = some v) (hd : decode cc pc = .ok (.getfield i, 3)) (k : GA D f nL Q (pc + 3) lv (v :: st) ws cs sl) : GA D f nL Q pc lv (.ref a :: st) ws cs sl :=
  fun H locs ls hP hD hS hl => va_get (C := C) (T := T) (N := N) hC.1 hC.2.1 hC.2.2.2.2.1 hF.2.2.1 hC.2.2.2.1 hC.2.2.2.2.2.1 hP q0 he hF.2.1 j hj (hC.2.2.2.2.1 _ hm) (fun _ h => h) hv hd (k H locs ls hP hD hS hl)
theorem a_iast (hC : CA D cT f own cc nL R) (q0 : Nat) {a n j : Nat} {g : Nat → Int32} (he : ws[q0]? = some (a, .inl (cT 9, n, .inl g))) {i v : Int32} (hi : vp_in i n) (hj : i.toNatClampNeg = j) (hws : ws.set q0 (a, .inl (cT 9, n, .inl (upd g j v))) = ws') (hd : decode cc pc = .ok (.iastore, 1)) (k : GA D f nL Q (pc + 1) lv st ws' cs sl) : GA D f nL Q pc lv (.int v :: .int i :: .ref a :: st) ws cs sl := by
  subst hws
  subst hj
  exact fun H locs ls hP hD hS hl => va_iast hC.1 hC.2.1 hC.2.2.2.2.2.1 hP hD hS q0 0 he rfl hi hd (fun H1 locs1 hP1 hD1 hS1 => k H1 locs1 ls hP1 hD1 hS1 hl)
theorem a_aast (hC : CA D cT f own cc nL R) (q0 t0 qk c : Nat) {C : String} {T : u_T} {N a n j w : Nat} {cA : ClassId} {g : Nat → Option Nat} {vs : List Value} (he : ws[q0]? = some (a, .inl (cA, n, qF g))) (ht : (tysC cT)[t0]? = some (cA, .object C)) (hv : ws[qk]? = some (w, .inr (c, vs))) (hc : vwCl[c]? = some (C, T, N)) {i : Int32} (hi : vp_in i n) (hj : i.toNatClampNeg = j) (hws : ws.set q0 (a, .inl (cA, n, qF (va_up g j (some w)))) = ws') (hd : decode cc pc = .ok (.aastore, 1)) (k : GA D f nL Q (pc + 1) lv st ws' cs sl) : GA D f nL Q pc lv (.ref w :: .int i :: .ref a :: st) ws cs sl := by
  subst hws
  subst hj
  exact fun H locs ls hP hD hS hl => va_astq hC.1 hC.2.1 hC.2.2.2.2.2.1 hP hD hS q0 t0 qk c he ht hv hc hi hd (fun H1 locs1 hP1 hD1 hS1 => k H1 locs1 ls hP1 hD1 hS1 hl)
theorem a_gets (hC : CA D cT f own cc nL R) {n d ref : String} {i t : Nat} (hZ : va_Z "AnswersFirst" n d (.ref t) (fA f) (fS f) (fS f).heap) (hm : Cond.fieldLink own i "AnswersFirst" n d ∈ lw_g) (hd : decode cc pc = .ok (.getstatic i, 3)) (k : GA D f nL Q (pc + 3) lv (.ref t :: st) ws cs sl) : GA D f nL Q pc lv st ws cs sl :=
  fun H locs ls hP hD hS hl => va_gets hC.1 hC.2.1 hZ hS hC.2.2.2.1 (hC.2.2.2.2.1 _ hm) (fun _ h => h) hd (k H locs ls hP hD hS hl)
theorem a_re (is : List Nat) (hP : is.filterMap (fun i => ws[i]?) = ws') (hn : va_nd is = true) (hD : is.map (fun i => ws[i]?) = ws'.map some) (k : GA D f nL Q pc lv st ws' cs sl) : GA D f nL Q pc lv st ws cs sl :=
  fun H locs ls hP0 hD0 hS hl => k H locs ls (hP0.sub is hP) (hD0.sub is hn hD) hS hl
/-- a row of references is what it holds within its length -/
theorem a_qf (q0 : Nat) {a n : Nat} {cA : ClassId} {g h : Nat → Option Nat} (he : ws[q0]? = some (a, .inl (cA, n, qF g))) (hgh : ∀ j, j < n → g j = h j) (hws : ws.set q0 (a, .inl (cA, n, qF h)) = ws') (k : GA D f nL Q pc lv st ws' cs sl) : GA D f nL Q pc lv st ws cs sl := by
  subst hws
  intro H locs ls hP hD hS hl
  refine k H locs ls (hP.set hD he ?_ (fun _ _ => rfl)) (hD.set he) hS hl
  have h1 : H[a]? = some (vp_cell cA (n, qF g)) := hP q0 _ he
  have h2 : vp_cell cA (n, qF g) = vp_cell cA (n, qF h) := by
    rw [vp_cell_q, vp_cell_q]
    unfold arrV
    congr 1
    congr 1
    funext j
    show va_rf (g j.val) = va_rf (h j.val)
    rw [hgh j.val j.isLt]
  show H[a]? = some (vp_cell cA (n, qF h))
  rw [← h2]; exact h1
end Making
/-- the contract of a constructor: from the bare cell to the cells w1 -/
def Ci {S : Type} (D : va_G) (cT : Nat → ClassId) (y : MethodName) (cc : ByteArray) (nL : Nat) (rm : Room) (mc ms : Nat) (av : List Value) (e0 : va_E) (Pre : (Nat → Prop) → State → Prop) (w1 : Nat → S → va_W) : Prop :=
  ∀ (l : Launch) (h0 sz : Nat), Met l y (Cond.code y cc nL none :: lw_g) rm (va_Pc (.ref h0 :: av) (fun U => U.heap.size = sz ∧ va_P D vwCl [(h0, e0)] U.heap ∧ va_K D vwCl (tysC cT) U ∧ va_D (fun _ => True) [(h0, e0)] ∧ Pre (va_A [(h0, e0)] sz) U)) (va_Qv (fun _ : S => True) (fun u t => va_P D vwCl (w1 h0 u) t.heap ∧ va_D (va_A [(h0, e0)] sz) (w1 h0 u)) (va_A [(h0, e0)] sz)) mc ms (va_A [(h0, e0)] sz)
def Qc {S : Type} (D : va_G) (f : Fx) (mc ms : Nat) (w1 : S → va_W) : State → Prop := MQ (fB f) (va_Qv (fun _ : S => True) (fun u t => va_P D vwCl (w1 u) t.heap ∧ va_D (fA f) (w1 u)) (fA f)) (fV f) (fS f) mc ms (fA f)
theorem ci_of {S : Type} {D : va_G} {cT : Nat → ClassId} {y : MethodName} {cc : ByteArray} {nL : Nat} {rm : Room} {mc ms : Nat} {av : List Value} {e0 : va_E} {Pre : (Nat → Prop) → State → Prop} {w1 : Nat → S → va_W} (hy : plainName y.cls = true) (hyn : y.name = "<init>") (hlen : ∀ h0, (lg_sl (.ref h0 :: av)).length ≤ nL)
    (body : ∀ f h0, CA D cT f y.cls cc nL rm → (fT f).sig.returnType = none → (fT f).name = "<init>" → Pre (fA f) (fS f) → GA D f nL (Qc D f mc ms (w1 h0)) 0 (lv_args 0 (.ref h0 :: av)) [] [(h0, e0)] 0 0) : Ci D cT y cc nL rm mc ms av e0 Pre w1 := by
  intro l h0 sz
  refine Met.ofW (cc := cc) (maxL := nL) (ret := none) hy rfl ?_
  intro p e s m args below meth c s₁ B hml hv
  obtain ⟨rfl, hsz, hP, hK, hD0, hPre⟩ := hv
  subst hsz
  have hts := atoms_spec (ws := Cond.code y cc nL none :: lw_g) B.pre
  have hl := lv_entry (.ref h0 :: av) (n := nL) (hlen h0)
  have hb := body (p, l, e, rm, s, m, (.ref h0 :: av).toArray, below, meth, c, va_A [(h0, e0)] s.heap.size, 0, 0) h0 ⟨B.exec, B.bytes, hml, findClass_of_methodNamed B.named, fun w hw => hts w (List.mem_cons_of_mem _ hw), hK, fun q h => Or.inr h, rfl, B.notSynchronized⟩ B.returns ((name_of_methodNamed B.named B.method).1.trans hyn) hPre s.heap [] _ hP hD0.self va_S.rf hl
  rw [lg_entry_eq]
  exact hb
section MakingCalls
variable {D : va_G} {cT : Nat → ClassId} {f : Fx} {own : String} {cc cc' : ByteArray} {nL nL' : Nat} {R rm : Room} {Q : State → Prop} {pc : Nat} {lv : List (Nat × Value)} {st : List Value} {ws wr : va_W} {cs sl mc ms n idx h0 : Nat} {S : Type} {y : MethodName} {av : List Value} {e0 : va_E} {Pre : (Nat → Prop) → State → Prop} {w1 : Nat → S → va_W} {st0 : List Value}
theorem a_vret (hC : CA D cT f own cc nL R) (hr : (fT f).sig.returnType = none) {w : S → va_W} (u : S) (hw : ws = w u) (hd : decode cc pc = .ok (.return_, 1)) : GA D f nL (Qc D f cs sl w) pc lv [] ws cs sl := by
  subst hw
  intro H locs ls hP hD hS hl
  unfold Qc
  exact W.vret hC.1 hC.2.1 hr (fun t ht hWm => ⟨⟨u, rfl, trivial, by rw [ht]; exact hP, hD⟩, hS.F ht⟩) hS.2.2 hd hC.2.2.2.2.2.2.2.2
/-- what is the same for every call of a constructor -/
theorem a_ran (hC : CA D cT f own cc nL R) (i : Nat) (isR : List Nat) (hi : [i].map (fun i => ws[i]?) = [(h0, e0)].map some) (hR : isR.map (fun i => ws[i]?) = wr.map some) (hn : va_nd isR = true) (hdis : ∀ j ∈ isR, j ∉ [i])
    {H : Heap} {locs : List Loc} {ls : Array Slot} {a : Array Value} (hP : va_P D vwCl ws H) (hD : va_D (fA f) ws) (hS : va_S (fA f) (fS f).heap H locs) (hl : lv_has ls nL lv)
    (run : va_Run (fP f) (fL f) (fE f) (fR f) (fS f) (fM f) (fV f) (fB f) (fT f) (fC f) H locs cs sl mc ms (F0 (fM f) pc ls st0) st (va_Qv (fun _ : S => True) (fun u t => va_P D vwCl (w1 h0 u) t.heap ∧ va_D (va_A [(h0, e0)] H.size) (w1 h0 u)) (va_A [(h0, e0)] H.size) a) (va_A [(h0, e0)] H.size))
    (kk : ∀ u, GA D f nL Q (pc + 3) lv st (wr ++ w1 h0 u) (cs + mc) (sl + ms)) : AW f H locs cs sl Q (F0 (fM f) pc ls st0) := by
  have hF := va_free (wc := [(h0, e0)]) hD hS hC.2.2.2.2.2.2.1 [i] hi
  refine va_callv run hS (fun q _ h => hF q h) hF (fun u t H1 locs1 ht hvm hw hB hz hk hS1 => ?_)
  obtain ⟨hP1, hD1⟩ := hB
  rw [ht] at hP1
  obtain ⟨hP2, hD2⟩ := va_join (wc := [(h0, e0)]) (wr := wr) (w1 := w1 h0 u) hP hD [i] isR hi hR hn hdis hk hF hP1 hD1
  exact kk u H1 locs1 ls hP2 hD2 hS1 hl
theorem a_pre (hC : CA D cT f own cc nL R) (i : Nat) (hi : [i].map (fun i => ws[i]?) = [(h0, e0)].map some) (hbl : ∀ (A : Nat → Prop) (U : State) (g : JFrame) (mk : MethodId) (a : Array Value), Pre A U → Pre A (U.calling g mk a)) {H : Heap} {locs : List Loc} (hP : va_P D vwCl ws H) (hD : va_D (fA f) ws) (hS : va_S (fA f) (fS f).heap H locs)
    (hpre : ∀ U : State, U.heap = H → (fS f).WarmedH U.vm → (∀ q, va_A [(h0, e0)] H.size q → fA f q) → Pre (va_A [(h0, e0)] H.size) U) : PreS (fS f) H (va_Pc (.ref h0 :: av) (fun U => U.heap.size = H.size ∧ va_P D vwCl [(h0, e0)] U.heap ∧ va_K D vwCl (tysC cT) U ∧ va_D (fun _ => True) [(h0, e0)] ∧ Pre (va_A [(h0, e0)] H.size) U)) (.ref h0 :: av) := by
  have hF := va_free (wc := [(h0, e0)]) hD hS hC.2.2.2.2.2.2.1 [i] hi
  have hi2 : ws[i]? = some (h0, e0) := by simpa using hi
  have h1 : va_P D vwCl [(h0, e0)] H := hP.sub [i] (by simp [hi2])
  refine ⟨fun a U g mk q => ?_, fun U hU hW => ⟨rfl, by rw [hU], by rw [hU]; exact h1, va_K.moved hW.alike hC.2.2.2.2.2.1, ⟨fun a b p q ha hb _ => ?_, fun _ _ _ => trivial⟩, hpre U hU hW hF⟩⟩
  · obtain ⟨q0, q1, qP, qK, qD, qPre⟩ := q
    exact ⟨q0, q1, qP, va_K.moved (u := U) (U := U.calling g mk a) (Vm.Alike.refl U.vm) qK, qD, hbl _ U g mk a qPre⟩
  · have a1 : a < 1 := (List.getElem?_eq_some_iff.mp ha).1
    have b1 : b < 1 := (List.getElem?_eq_some_iff.mp hb).1
    omega
/-- a constructor that is called by an ordinary link -/
theorem a_callI (hC : CA D cT f own cc nL R) (hci : Ci D cT y cc' nL' rm mc ms av e0 Pre w1) (hm : MA y cc' nL' none n) (hins : Cond.instanceMethod y ∈ lw_g) (hyn : y.name = "<init>") (hlk : Cond.methodLink own idx y ∈ lw_g) (i : Nat) (isR : List Nat) (hi : [i].map (fun i => ws[i]?) = [(h0, e0)].map some) (hR : isR.map (fun i => ws[i]?) = wr.map some) (hnd : va_nd isR = true) (hdis : ∀ j ∈ isR, j ∉ [i])
    (hbl : ∀ (A : Nat → Prop) (U : State) (g : JFrame) (mk : MethodId) (a : Array Value), Pre A U → Pre A (U.calling g mk a)) (hpre : ∀ (H : Heap) (locs : List Loc) (U : State), va_S (fA f) (fS f).heap H locs → U.heap = H → (fS f).WarmedH U.vm → (∀ q, va_A [(h0, e0)] H.size q → fA f q) → Pre (va_A [(h0, e0)] H.size) U)
    (hrm : rm.cells = mc ∧ rm.slots = ms ∧ rm.frames + 1 ≤ R.frames ∧ 8 + (nL' + 11) + rm.locals ≤ R.locals) (hro : cs + mc ≤ R.cells ∧ sl + ms ≤ R.slots) (hn : av.length = n) (hst : st0 = av.reverse ++ .ref h0 :: st) (hcat : (st.map fun v => v.category).sum ≤ 8) (hd : decode cc pc = .ok (.invokespecial idx, 3)) (kk : ∀ u, GA D f nL Q (pc + 3) lv st (wr ++ w1 h0 u) (cs + mc) (sl + ms)) : GA D f nL Q pc lv st0 ws cs sl := by
  intro H locs ls hP hD hS hl
  have hR' := hC.2.2.2.2.2.2.2.1
  exact a_ran hC i isR hi hR hnd hdis hP hD hS hl (va_runI (As := av) ⟨hC.1, hC.2.1, hC.2.2.1, hC.2.2.2.1, hC.2.2.2.2.1⟩ (hci (fL f) h0 H.size) ⟨by rw [hR']; exact callB_of n hC.2.2.2.2.1 (lw_g_good hm.1) rfl hrm.1 hrm.2.1 (hC.2.2.2.2.1 _ hm.2.1) (hC.2.2.2.2.1 _ hlk) hm.2.2 hrm.2.2, hyn, hC.2.2.2.2.1 _ hins⟩ (a_pre hC i hi hbl hP hD hS (fun U h1 h2 h3 => hpre H locs U hS h1 h2 h3)) rfl hn hl.1 hst (lv_room hcat) hd (by rw [hR']; exact hro)) kk
/-- a constructor of a nest mate -/
theorem a_callN (hC : CA D cT f own cc nL R) (hci : Ci D cT y cc' nL' rm mc ms av e0 Pre w1) (hm : MA y cc' nL' none n) (hins : Cond.instanceMethod y ∈ lw_g) (hyn : y.name = "<init>") {host : String} (hlk : va_Nw (.methodLinkNest own idx y host) (fS f)) (i : Nat) (isR : List Nat) (hi : [i].map (fun i => ws[i]?) = [(h0, e0)].map some) (hR : isR.map (fun i => ws[i]?) = wr.map some) (hnd : va_nd isR = true) (hdis : ∀ j ∈ isR, j ∉ [i])
    (hbl : ∀ (A : Nat → Prop) (U : State) (g : JFrame) (mk : MethodId) (a : Array Value), Pre A U → Pre A (U.calling g mk a)) (hpre : ∀ (H : Heap) (locs : List Loc) (U : State), va_S (fA f) (fS f).heap H locs → U.heap = H → (fS f).WarmedH U.vm → (∀ q, va_A [(h0, e0)] H.size q → fA f q) → Pre (va_A [(h0, e0)] H.size) U)
    (hrm : rm.cells = mc ∧ rm.slots = ms ∧ rm.frames + 1 ≤ R.frames ∧ 8 + (nL' + 11) + rm.locals ≤ R.locals) (hro : cs + mc ≤ R.cells ∧ sl + ms ≤ R.slots) (hn : av.length = n) (hst : st0 = av.reverse ++ .ref h0 :: st) (hcat : (st.map fun v => v.category).sum ≤ 8) (hd : decode cc pc = .ok (.invokespecial idx, 3)) (kk : ∀ u, GA D f nL Q (pc + 3) lv st (wr ++ w1 h0 u) (cs + mc) (sl + ms)) : GA D f nL Q pc lv st0 ws cs sl := by
  intro H locs ls hP hD hS hl
  have hR' := hC.2.2.2.2.2.2.2.1
  exact a_ran hC i isR hi hR hnd hdis hP hD hS hl (va_runIN (As := av) (host := host) ⟨hC.1, hC.2.1, hC.2.2.1, hC.2.2.2.1, hC.2.2.2.2.1⟩ (hci (fL f) h0 H.size) ⟨by rw [hR']; exact va_cnB n hC.2.2.2.2.1 (lw_g_good hm.1) rfl hrm.1 hrm.2.1 hlk (hC.2.2.2.2.1 _ hm.2.1) hm.2.2 hrm.2.2, hyn, hC.2.2.2.2.1 _ hins⟩ (a_pre hC i hi hbl hP hD hS (fun U h1 h2 h3 => hpre H locs U hS h1 h2 h3)) rfl hn hl.1 hst (lv_room hcat) hd (by rw [hR']; exact hro)) kk
end MakingCalls
