/-! OUR JUDGEMENT: GG .. pc lv st M o: at pc, with locals lv, stack st, memory M, the machine comes to what o says (if o says anything) -/
abbrev Fx := Program × Launch × Env × Room × State × MethodId × Array Value × List Frame × Method × Code × (Nat → Prop) × Nat × Nat
abbrev fP (f : Fx) : Program := f.1
abbrev fL (f : Fx) : Launch := f.2.1
abbrev fE (f : Fx) : Env := f.2.2.1
abbrev fR (f : Fx) : Room := f.2.2.2.1
abbrev fS (f : Fx) : State := f.2.2.2.2.1
abbrev fM (f : Fx) : MethodId := f.2.2.2.2.2.1
abbrev fV (f : Fx) : Array Value := f.2.2.2.2.2.2.1
abbrev fB (f : Fx) : List Frame := f.2.2.2.2.2.2.2.1
abbrev fT (f : Fx) : Method := f.2.2.2.2.2.2.2.2.1
abbrev fC (f : Fx) : Code := f.2.2.2.2.2.2.2.2.2.1
abbrev fA (f : Fx) : Nat → Prop := f.2.2.2.2.2.2.2.2.2.2.1
abbrev fK (f : Fx) : Nat := f.2.2.2.2.2.2.2.2.2.2.2.1
abbrev fN (f : Fx) : Nat := f.2.2.2.2.2.2.2.2.2.2.2.2
abbrev GW (f : Fx) (H : Heap) (locs : List Loc) (Q : State → Prop) (g : JFrame) : Prop := W (fP f) (fL f) (fE f) (fR f) (fS f) (fM f) (fV f) (fB f) (fT f) (fC f) H locs (fK f) (fN f) Q g
def Cx (x : Wx) (f : Fx) (own : String) (cc : ByteArray) (nL : Nat) (R : Room) : Prop :=
  (fP f).tables.exec = Jvm.exec ∧ (fC f).code = cc ∧ (fC f).maxLocals = nL ∧ (fS f).vm.findClass own = some (fM f).cls ∧ (∀ w ∈ lw_g, w.before (fV f) (fS f) = true) ∧ va_K x.2.1 vwCl (tysX x) (fS f) ∧ Inj x ∧ (∀ k, k < 54 → fA f (x.1 k)) ∧ RoX x (fA f) (fS f) (fS f).heap ∧ fR f = R ∧ (fT f).locks = false ∧ fK f ≤ R.cells ∧ fN f ≤ R.slots
def GG {β : Type} (x : Wx) (f : Fx) (nL : Nat) (Qf : β → State → Prop) (pc : Nat) (lv : List (Nat × Value)) (st : List Value) (M : Mem) (o : Option β) : Prop :=
  ∀ r, o = some r → ∀ (H : Heap) (locs : List Loc) (ls : Array Slot), Wd x M H → va_S (fA f) (fS f).heap H locs → lv_has ls nL lv → GW f H locs (Qf r) (F0 (fM f) pc ls st)
/-! the words of what a method computes -/
def nm {α β : Type} (a : α) (g : α → β) : β := g a
def inb (i : Int32) (n : Nat) : Bool := !(decide (i < 0) || decide (n ≤ i.toNatClampNeg))
def ib {β : Type} (i : Int32) (n : Nat) (o : Option β) : Option β := if inb i n = true then o else none
def nz {β : Type} (y : Int32) (o : Option β) : Option β := if y = 0 then none else o
abbrev ix (i : Int32) : Nat := i.toNatClampNeg
def bi (b : Bool) : Int32 := if b = true then 1 else 0
def ush (a b : Int32) : Int32 := (a.toUInt32 >>> (b.toUInt32 &&& Int32.toUInt32 31)).toInt32
def i2c (a : Int32) : Int32 := (a.toUInt32 % 65536).toInt32
theorem inb_iff {i : Int32} {n : Nat} : inb i n = true ↔ vp_in i n := by
  unfold inb vp_in
  simp
section Rows
variable {β : Type} {x : Wx} {f : Fx} {own : String} {cc : ByteArray} {nL : Nat} {R : Room} {Qf : β → State → Prop} {pc : Nat} {lv lv' : List (Nat × Value)} {st : List Value} {M : Mem} {o o1 o2 : Option β}
theorem g_lv (ks : List Nat) (h : lv_pick lv ks = lv') (k : GG x f nL Qf pc lv' st M o) : GG x f nL Qf pc lv st M o :=
  fun r hr H locs ls hW hS hl => k r hr H locs ls hW hS (lv_sub hl ks h)
theorem g_nm {α : Type} {j : α} {κ : α → Option β} (P : α → Prop) (hj : P j) (hk : ∀ J, P J → GG x f nL Qf pc lv st M (κ J)) : GG x f nL Qf pc lv st M (nm j κ) := hk j hj
theorem g_none : GG x f nL Qf pc lv st M none := fun r hr => by cases hr
-- constants
theorem g_iconst (hC : Cx x f own cc nL R) {n : Int} {v : Int32} (hd : decode cc pc = .ok (.iconst n, 1)) (hv : Int32.ofInt n = v) (k : GG x f nL Qf (pc + 1) lv (.int v :: st) M o) : GG x f nL Qf pc lv st M o :=
  fun r hr H locs ls hW hS hl => lv_iconst hC.1 hC.2.1 hd hv (k r hr H locs ls hW hS hl)
theorem g_bipush (hC : Cx x f own cc nL R) {n : Int} {v : Int32} (hd : decode cc pc = .ok (.bipush n, 2)) (hv : (Int8.ofInt n).toInt32 = v) (k : GG x f nL Qf (pc + 2) lv (.int v :: st) M o) : GG x f nL Qf pc lv st M o :=
  fun r hr H locs ls hW hS hl => lv_bipush hC.1 hC.2.1 hd hv (k r hr H locs ls hW hS hl)
theorem g_sipush (hC : Cx x f own cc nL R) {n : Int} {v : Int32} (hd : decode cc pc = .ok (.sipush n, 3)) (hv : (Int16.ofInt n).toInt32 = v) (k : GG x f nL Qf (pc + 3) lv (.int v :: st) M o) : GG x f nL Qf pc lv st M o :=
  fun r hr H locs ls hW hS hl => lv_sipush hC.1 hC.2.1 hd hv (k r hr H locs ls hW hS hl)
theorem g_ldc (hC : Cx x f own cc nL R) {i : Nat} {v : Int32} (hm : Cond.constant own i v ∈ lw_g) (hd : decode cc pc = .ok (.ldc i, 2)) (k : GG x f nL Qf (pc + 2) lv (.int v :: st) M o) : GG x f nL Qf pc lv st M o :=
  fun r hr H locs ls hW hS hl => lv_ldc hC.1 hC.2.1 hC.2.2.2.1 (hC.2.2.2.2.1 _ hm) hd (k r hr H locs ls hW hS hl)
theorem g_ldc2 (hC : Cx x f own cc nL R) {i : Nat} {v : Int64} (hm : Cond.constantLong own i v ∈ lw_g) (hd : decode cc pc = .ok (.ldc2_w i, 3)) (k : GG x f nL Qf (pc + 3) lv (.long v :: st) M o) : GG x f nL Qf pc lv st M o :=
  fun r hr H locs ls hW hS hl => lv_ldc2 hC.1 hC.2.1 hC.2.2.2.1 (hC.2.2.2.2.1 _ hm) hd (k r hr H locs ls hW hS hl)
-- locals
theorem g_iload_n (hC : Cx x f own cc nL R) {j : Fin 4} {i : Nat} {a : Int32} (q : Nat) (hd : decode cc pc = .ok (.iload_n j, 1)) (hi : (j : Nat) = i) (hq : lv[q]? = some (i, .int a)) (k : GG x f nL Qf (pc + 1) lv (.int a :: st) M o) : GG x f nL Qf pc lv st M o :=
  fun r hr H locs ls hW hS hl => lv_iload_n hC.1 hC.2.1 hd hi (lv_at hl q hq) (k r hr H locs ls hW hS hl)
theorem g_iload (hC : Cx x f own cc nL R) {i : Nat} {a : Int32} (q : Nat) (hd : decode cc pc = .ok (.iload i, 2)) (hq : lv[q]? = some (i, .int a)) (k : GG x f nL Qf (pc + 2) lv (.int a :: st) M o) : GG x f nL Qf pc lv st M o :=
  fun r hr H locs ls hW hS hl => lv_iload hC.1 hC.2.1 hd (lv_at hl q hq) (k r hr H locs ls hW hS hl)
theorem g_lload_n (hC : Cx x f own cc nL R) {j : Fin 4} {i : Nat} {a : Int64} (q : Nat) (hd : decode cc pc = .ok (.lload_n j, 1)) (hi : (j : Nat) = i) (hq : lv[q]? = some (i, .long a)) (k : GG x f nL Qf (pc + 1) lv (.long a :: st) M o) : GG x f nL Qf pc lv st M o :=
  fun r hr H locs ls hW hS hl => lv_lload_n hC.1 hC.2.1 hd hi (lv_at hl q hq) (k r hr H locs ls hW hS hl)
theorem g_aload_n (hC : Cx x f own cc nL R) {j : Fin 4} {i : Nat} {a : Nat} (q : Nat) (hd : decode cc pc = .ok (.aload_n j, 1)) (hi : (j : Nat) = i) (hq : lv[q]? = some (i, .ref a)) (k : GG x f nL Qf (pc + 1) lv (.ref a :: st) M o) : GG x f nL Qf pc lv st M o :=
  fun r hr H locs ls hW hS hl => lv_aload_n hC.1 hC.2.1 hd hi (lv_at hl q hq) (k r hr H locs ls hW hS hl)
/-- the list of locals, sorted, with one more -/
theorem g_lvP {ls : Array Slot} {l : List (Nat × Value)} (h : lv_has ls nL l) (hs : ∀ q ∈ lv', q ∈ l) : lv_has ls nL lv' := ⟨h.1, h.2.1, fun q hq => h.2.2 q (hs q hq)⟩
theorem g_istore_n (hC : Cx x f own cc nL R) {j : Fin 4} {i : Nat} {a : Int32} (ks : List Nat) (hd : decode cc pc = .ok (.istore_n j, 1)) (hi : (j : Nat) = i) (hn : i < nL) (hl' : lv_pick ((i, Value.int a) :: lv.filter (fun q => !(q.1 == i) && !(q.1 + 1 == i && q.2.category == 2))) ks = lv') (k : GG x f nL Qf (pc + 1) lv' st M o) : GG x f nL Qf pc lv (.int a :: st) M o :=
  fun r hr H locs ls hW hS hl => lv_istore_n hC.1 hC.2.1 hd hi hl hn rfl (fun ls' h' => k r hr H locs ls' hW hS (lv_sub h' ks hl'))
theorem g_istore (hC : Cx x f own cc nL R) {i : Nat} {a : Int32} (ks : List Nat) (hd : decode cc pc = .ok (.istore i, 2)) (hn : i < nL) (hl' : lv_pick ((i, Value.int a) :: lv.filter (fun q => !(q.1 == i) && !(q.1 + 1 == i && q.2.category == 2))) ks = lv') (k : GG x f nL Qf (pc + 2) lv' st M o) : GG x f nL Qf pc lv (.int a :: st) M o :=
  fun r hr H locs ls hW hS hl => lv_istore hC.1 hC.2.1 hd hl hn rfl (fun ls' h' => k r hr H locs ls' hW hS (lv_sub h' ks hl'))
theorem g_astore_n (hC : Cx x f own cc nL R) {j : Fin 4} {i : Nat} {a : Nat} (ks : List Nat) (hd : decode cc pc = .ok (.astore_n j, 1)) (hi : (j : Nat) = i) (hn : i < nL) (hl' : lv_pick ((i, Value.ref a) :: lv.filter (fun q => !(q.1 == i) && !(q.1 + 1 == i && q.2.category == 2))) ks = lv') (k : GG x f nL Qf (pc + 1) lv' st M o) : GG x f nL Qf pc lv (.ref a :: st) M o :=
  fun r hr H locs ls hW hS hl => lv_astore_n hC.1 hC.2.1 hd hi hl hn rfl (fun ls' h' => k r hr H locs ls' hW hS (lv_sub h' ks hl'))
theorem g_lstore_n (hC : Cx x f own cc nL R) {j : Fin 4} {i : Nat} {a : Int64} (ks : List Nat) (hd : decode cc pc = .ok (.lstore_n j, 1)) (hi : (j : Nat) = i) (hn : i + 1 < nL) (hl' : lv_pick ((i, Value.long a) :: lv.filter (fun q => !(q.1 == i) && (!(q.1 == i + 1) && !(q.1 + 1 == i && q.2.category == 2)))) ks = lv') (k : GG x f nL Qf (pc + 1) lv' st M o) : GG x f nL Qf pc lv (.long a :: st) M o :=
  fun r hr H locs ls hW hS hl => lv_lstore_n hC.1 hC.2.1 hd hi hl hn rfl (fun ls' h' => k r hr H locs ls' hW hS (lv_sub h' ks hl'))
theorem g_iinc (hC : Cx x f own cc nL R) {i q : Nat} {n : Int} {a v : Int32} (ks : List Nat) (hd : decode cc pc = .ok (.iinc i n, 3)) (hq : lv[q]? = some (i, .int a)) (hv : Int32.ofInt n = v) (hn : i < nL) (hl' : lv_pick ((i, Value.int (a + v)) :: lv.filter (fun q => !(q.1 == i) && !(q.1 + 1 == i && q.2.category == 2))) ks = lv') (k : GG x f nL Qf (pc + 3) lv' st M o) : GG x f nL Qf pc lv st M o :=
  fun r hr H locs ls hW hS hl => lv_iinc hC.1 hC.2.1 hd hl hq (by rw [hv]) hn rfl (fun ls' h' => k r hr H locs ls' hW hS (lv_sub h' ks hl'))
-- numbers
theorem g_iadd (hC : Cx x f own cc nL R) {a b : Int32} (hd : decode cc pc = .ok (.iadd, 1)) (k : GG x f nL Qf (pc + 1) lv (.int (a + b) :: st) M o) : GG x f nL Qf pc lv (.int b :: .int a :: st) M o :=
  fun r hr H locs ls hW hS hl => lv_iadd hC.1 hC.2.1 hd (k r hr H locs ls hW hS hl)
theorem g_isub (hC : Cx x f own cc nL R) {a b : Int32} (hd : decode cc pc = .ok (.isub, 1)) (k : GG x f nL Qf (pc + 1) lv (.int (a - b) :: st) M o) : GG x f nL Qf pc lv (.int b :: .int a :: st) M o :=
  fun r hr H locs ls hW hS hl => lv_isub hC.1 hC.2.1 hd (k r hr H locs ls hW hS hl)
theorem g_imul (hC : Cx x f own cc nL R) {a b : Int32} (hd : decode cc pc = .ok (.imul, 1)) (k : GG x f nL Qf (pc + 1) lv (.int (a * b) :: st) M o) : GG x f nL Qf pc lv (.int b :: .int a :: st) M o :=
  fun r hr H locs ls hW hS hl => lv_imul hC.1 hC.2.1 hd (k r hr H locs ls hW hS hl)
theorem g_iand (hC : Cx x f own cc nL R) {a b : Int32} (hd : decode cc pc = .ok (.iand, 1)) (k : GG x f nL Qf (pc + 1) lv (.int (a &&& b) :: st) M o) : GG x f nL Qf pc lv (.int b :: .int a :: st) M o :=
  fun r hr H locs ls hW hS hl => lv_iand hC.1 hC.2.1 hd (k r hr H locs ls hW hS hl)
theorem g_ior (hC : Cx x f own cc nL R) {a b : Int32} (hd : decode cc pc = .ok (.ior, 1)) (k : GG x f nL Qf (pc + 1) lv (.int (a ||| b) :: st) M o) : GG x f nL Qf pc lv (.int b :: .int a :: st) M o :=
  fun r hr H locs ls hW hS hl => lv_ior hC.1 hC.2.1 hd (k r hr H locs ls hW hS hl)
theorem g_ixor (hC : Cx x f own cc nL R) {a b : Int32} (hd : decode cc pc = .ok (.ixor, 1)) (k : GG x f nL Qf (pc + 1) lv (.int (a ^^^ b) :: st) M o) : GG x f nL Qf pc lv (.int b :: .int a :: st) M o :=
  fun r hr H locs ls hW hS hl => lv_ixor hC.1 hC.2.1 hd (k r hr H locs ls hW hS hl)
theorem g_ishl (hC : Cx x f own cc nL R) {a b : Int32} (hd : decode cc pc = .ok (.ishl, 1)) (k : GG x f nL Qf (pc + 1) lv (.int (a <<< (b &&& 31)) :: st) M o) : GG x f nL Qf pc lv (.int b :: .int a :: st) M o :=
  fun r hr H locs ls hW hS hl => lv_ishl hC.1 hC.2.1 hd (k r hr H locs ls hW hS hl)
theorem g_ishr (hC : Cx x f own cc nL R) {a b : Int32} (hd : decode cc pc = .ok (.ishr, 1)) (k : GG x f nL Qf (pc + 1) lv (.int (a >>> (b &&& 31)) :: st) M o) : GG x f nL Qf pc lv (.int b :: .int a :: st) M o :=
  fun r hr H locs ls hW hS hl => lv_ishr hC.1 hC.2.1 hd (k r hr H locs ls hW hS hl)
theorem g_iushr (hC : Cx x f own cc nL R) {a b : Int32} (hd : decode cc pc = .ok (.iushr, 1)) (k : GG x f nL Qf (pc + 1) lv (.int (ush a b) :: st) M o) : GG x f nL Qf pc lv (.int b :: .int a :: st) M o :=
  fun r hr H locs ls hW hS hl => lv_iushr hC.1 hC.2.1 hd rfl (k r hr H locs ls hW hS hl)
theorem g_ineg (hC : Cx x f own cc nL R) {a : Int32} (hd : decode cc pc = .ok (.ineg, 1)) (k : GG x f nL Qf (pc + 1) lv (.int (-a) :: st) M o) : GG x f nL Qf pc lv (.int a :: st) M o :=
  fun r hr H locs ls hW hS hl => lv_ineg hC.1 hC.2.1 hd (k r hr H locs ls hW hS hl)
theorem g_irem (hC : Cx x f own cc nL R) {a b : Int32} (hd : decode cc pc = .ok (.irem, 1)) (k : GG x f nL Qf (pc + 1) lv (.int (a - a / b * b) :: st) M o) : GG x f nL Qf pc lv (.int b :: .int a :: st) M (nz b o) :=
  fun r hr H locs ls hW hS hl => by
    unfold nz at hr
    by_cases hb : b = 0
    · rw [if_pos hb] at hr; cases hr
    · rw [if_neg hb] at hr
      exact lv_irem hC.1 hC.2.1 hd hb (k r hr H locs ls hW hS hl)
theorem g_i2b (hC : Cx x f own cc nL R) {a : Int32} (hd : decode cc pc = .ok (.i2b, 1)) (k : GG x f nL Qf (pc + 1) lv (.int a.toInt8.toInt32 :: st) M o) : GG x f nL Qf pc lv (.int a :: st) M o :=
  fun r hr H locs ls hW hS hl => lv_i2b hC.1 hC.2.1 hd rfl (k r hr H locs ls hW hS hl)
theorem g_i2s (hC : Cx x f own cc nL R) {a : Int32} (hd : decode cc pc = .ok (.i2s, 1)) (k : GG x f nL Qf (pc + 1) lv (.int a.toInt16.toInt32 :: st) M o) : GG x f nL Qf pc lv (.int a :: st) M o :=
  fun r hr H locs ls hW hS hl => lv_i2s hC.1 hC.2.1 hd rfl (k r hr H locs ls hW hS hl)
theorem g_i2c (hC : Cx x f own cc nL R) {a : Int32} (hd : decode cc pc = .ok (.i2c, 1)) (k : GG x f nL Qf (pc + 1) lv (.int (i2c a) :: st) M o) : GG x f nL Qf pc lv (.int a :: st) M o :=
  fun r hr H locs ls hW hS hl => lv_i2c hC.1 hC.2.1 hd rfl (k r hr H locs ls hW hS hl)
theorem g_i2l (hC : Cx x f own cc nL R) {a : Int32} (hd : decode cc pc = .ok (.i2l, 1)) (k : GG x f nL Qf (pc + 1) lv (.long a.toInt64 :: st) M o) : GG x f nL Qf pc lv (.int a :: st) M o :=
  fun r hr H locs ls hW hS hl => lv_i2l hC.1 hC.2.1 hd rfl (k r hr H locs ls hW hS hl)
theorem g_ladd (hC : Cx x f own cc nL R) {a b : Int64} (hd : decode cc pc = .ok (.ladd, 1)) (k : GG x f nL Qf (pc + 1) lv (.long (a + b) :: st) M o) : GG x f nL Qf pc lv (.long b :: .long a :: st) M o :=
  fun r hr H locs ls hW hS hl => lv_ladd hC.1 hC.2.1 hd (k r hr H locs ls hW hS hl)
theorem g_lmul (hC : Cx x f own cc nL R) {a b : Int64} (hd : decode cc pc = .ok (.lmul, 1)) (k : GG x f nL Qf (pc + 1) lv (.long (a * b) :: st) M o) : GG x f nL Qf pc lv (.long b :: .long a :: st) M o :=
  fun r hr H locs ls hW hS hl => lv_lmul hC.1 hC.2.1 hd (k r hr H locs ls hW hS hl)
theorem g_dup (hC : Cx x f own cc nL R) {v : Value} (hd : decode cc pc = .ok (.dup, 1)) (hv : v.category = 1) (k : GG x f nL Qf (pc + 1) lv (v :: v :: st) M o) : GG x f nL Qf pc lv (v :: st) M o :=
  fun r hr H locs ls hW hS hl => lv_dup hC.1 hC.2.1 hd hv (k r hr H locs ls hW hS hl)
-- branches
theorem g_goto (hC : Cx x f own cc nL R) {off : Int} (tgt : Nat) (hd : decode cc pc = .ok (.goto off, 3)) (ht : (pc : Int) + off = (tgt : Int)) (k : GG x f nL Qf tgt lv st M o) : GG x f nL Qf pc lv st M o :=
  fun r hr H locs ls hW hS hl => lv_goto hC.1 hC.2.1 hd ht (k r hr H locs ls hW hS hl)
end Rows
