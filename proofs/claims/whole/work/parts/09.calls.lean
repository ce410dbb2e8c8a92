/-! contracts: what a method does to the memory, as a function; calls and returns -/
def Qx (x : Wx) (v : Option Value) (M : Mem) : Array Value → State → Outcome → State → Prop := fun _ st oc t => oc = .returned v ∧ Wd x M t.heap ∧ va_F (Ax x) st t
def Px (x : Wx) (av : List Value) (M : Mem) : Array Value → State → Prop := va_Pc av (fun U => Wd x M U.heap ∧ va_K x.2.1 vwCl (tysX x) U ∧ RoX x (Ax x) U U.heap ∧ Inj x)
def Qm {β : Type} (x : Wx) (f : Fx) (φ : β → Option Value × Mem) : β → State → Prop := fun r => MQ (fB f) (Qx x (φ r).1 (φ r).2) (fV f) (fS f) (fK f) (fN f) (fA f)
/-- the contract of a method: given the memory M and the arguments av, if o says r, it comes to φ r -/
def Ct {β : Type} (x : Wx) (y : MethodName) (cc : ByteArray) (nL : Nat) (rt : Option FieldType) (rm : Room) (φ : β → Option Value × Mem) (av : List Value) (M : Mem) (o : Option β) : Prop :=
  ∀ r, o = some r → ∀ l : Launch, Met l y (Cond.code y cc nL rt :: lw_g) rm (Px x av M) (Qx x (φ r).1 (φ r).2) 0 0 (Ax x)
def Mx (x : Wx) (f : Fx) (rt : Option FieldType) : Prop := fA f = Ax x ∧ (fT f).sig.returnType = rt
theorem FrameBlind.Px {x : Wx} {av : List Value} {M : Mem} : FrameBlind (Px x av M) := by
  intro a U g mk h
  obtain ⟨h1, h2, h3, h4, h5⟩ := h
  exact ⟨h1, h2, va_K.moved (u := U) (U := U.calling g mk a) (Vm.Alike.refl U.vm) h3, RoX.same h4 rfl, h5⟩
theorem ct_of {β : Type} {x : Wx} {y : MethodName} {cc : ByteArray} {nL : Nat} {rt : Option FieldType} {rm : Room} {φ : β → Option Value × Mem} {av : List Value} {M : Mem} {o : Option β} (hy : plainName y.cls = true) (hlen : (lg_sl av).length ≤ nL)
    (body : ∀ f, Cx x f y.cls cc nL rm → Mx x f rt → GG x f nL (Qm x f φ) 0 (lv_args 0 av) [] M o) : Ct x y cc nL rt rm φ av M o := by
  intro r hr l
  refine Met.ofW (cc := cc) (maxL := nL) (ret := rt) hy rfl ?_
  intro p e s m args below meth c s₁ B hml hv
  obtain ⟨rfl, hW, hK, hRo, hI⟩ := hv
  have hts := atoms_spec (ws := Cond.code y cc nL rt :: lw_g) B.pre
  have hl := lv_entry av (n := nL) hlen
  have hb := body (p, l, e, rm, s, m, av.toArray, below, meth, c, Ax x, 0, 0) ⟨B.exec, B.bytes, hml, findClass_of_methodNamed B.named, fun w hw => hts w (List.mem_cons_of_mem _ hw), hK, hI, fun k hk => ⟨k, hk, rfl⟩, hRo, rfl, B.notSynchronized, Nat.zero_le _, Nat.zero_le _⟩ ⟨rfl, B.returns⟩ r hr s.heap [] _ hW va_S.rf hl
  rw [lg_entry_eq]
  exact hb
/-- what is known of a method -/
def MA (y : MethodName) (cc : ByteArray) (nL : Nat) (rt : Option FieldType) (n : Nat) : Prop :=
  Cond.code y cc nL rt ∈ lw_g ∧ Cond.initialized y.cls ∈ lw_g ∧ (y.cls ≠ "java/lang/invoke/MethodHandle" ∧ y.cls ≠ "java/lang/invoke/VarHandle" ∧ (parseMethodDescriptor y.desc).map (fun d => d.parameters.length) = some n)
def MS (y : MethodName) (cc : ByteArray) (nL : Nat) (rt : Option FieldType) (n : Nat) : Prop := MA y cc nL rt n ∧ Cond.static y ∈ lw_g
def MV (y : MethodName) (cc : ByteArray) (nL : Nat) (rt : Option FieldType) (n : Nat) : Prop := MA y cc nL rt n ∧ Cond.instanceMethod y ∈ lw_g ∧ Cond.selects y.cls y y ∈ lw_g
section Calls
variable {β γ : Type} {x : Wx} {f : Fx} {own : String} {cc cc' : ByteArray} {nL nL' n idx : Nat} {R rm : Room} {Qf : β → State → Prop} {pc : Nat} {lv lv' : List (Nat × Value)} {st st0 av : List Value} {M : Mem} {o o1 o2 : Option β} {y : MethodName} {rt : Option FieldType} {φ : γ → Option Value × Mem} {oc : Option γ} {κ : γ → Option β}
theorem g_ran (hC : Cx x f own cc nL R) {r : β} {q : γ} {H : Heap} {locs : List Loc} {ls : Array Slot} {a : Array Value} (hS : va_S (fA f) (fS f).heap H locs) (hl : lv_has ls nL lv) (hr : κ q = some r)
    (run : va_Run (fP f) (fL f) (fE f) (fR f) (fS f) (fM f) (fV f) (fB f) (fT f) (fC f) H locs (fK f) (fN f) 0 0 (F0 (fM f) pc ls st0) st (Qx x (φ q).1 (φ q).2 a) (Ax x))
    (kk : ∀ q, GG x f nL Qf (pc + 3) lv ((φ q).1.toList ++ st) (φ q).2 (κ q)) : GW f H locs (Qf r) (F0 (fM f) pc ls st0) := by
  intro T hT X
  have hA : ∀ q, Ax x q → fA f q := fun q hq => by obtain ⟨k, hk, e⟩ := hq; rw [e]; exact hC.2.2.2.2.2.2.2.1 k hk
  obtain ⟨v, st₀, t, T', L, h0, X', hL, e1, e2, ⟨hv, hWd, hz, hk⟩, go⟩ := run T hT X
  have hv : v = (φ q).1 := by injection hv
  subst hv
  rw [h0] at hz hk
  obtain ⟨t2, a1, b1⟩ := kk q r hr T'.heap (locs ++ L) ls (by rw [e1]; exact hWd)
    ⟨Nat.le_trans hS.1 (by rw [e1]; exact hz), fun q h1 h2 => by rw [e1, hk q (Nat.lt_of_lt_of_le h1 hS.1) (fun z => h2 (hA q z))]; exact hS.2.1 q h1 h2, fun q hq => by
      rcases List.mem_append.mp hq with h | h
      · exact hS.2.2 q h
      · exact hA _ (hL q h)⟩ hl T' rfl X'
  exact ⟨t2, go t2 a1, b1⟩
theorem g_pre (hC : Cx x f own cc nL R) {H : Heap} {locs : List Loc} (hW : Wd x M H) (hS : va_S (fA f) (fS f).heap H locs) : FrameBlind (Px x av M) ∧ ∀ U : State, U.heap = H → (fS f).WarmedH U.vm → Px x av M av.toArray U := by
  refine ⟨FrameBlind.Px, fun U hU hWm => ⟨rfl, by rw [hU]; exact hW, va_K.moved hWm.alike hC.2.2.2.2.2.1, ?_, hC.2.2.2.2.2.2.1⟩⟩
  rw [hU]
  exact RoX.go hC.2.2.2.2.2.2.2.2.1 hS.2.1 (fun q hq => by obtain ⟨k, hk, e⟩ := hq; rw [e]; exact hC.2.2.2.2.2.2.2.1 k hk) hWm
theorem g_callB (hC : Cx x f own cc nL R) (hm : MA y cc' nL' rt n) (hlk : Cond.methodLink own idx y ∈ lw_g) (hrm : rm.cells = 0 ∧ rm.slots = 0 ∧ rm.frames + 1 ≤ R.frames ∧ 8 + (nL' + 11) + rm.locals ≤ R.locals) : CallB (fR f) (fS f) (fV f) own idx y cc' nL' rt (Cond.code y cc' nL' rt :: lw_g) rm 0 0 n := by
  rw [hC.2.2.2.2.2.2.2.2.2.1]
  exact callB_of n hC.2.2.2.2.1 (lw_g_good hm.1) rfl hrm.1 hrm.2.1 (hC.2.2.2.2.1 _ hm.2.1) (hC.2.2.2.2.1 _ hlk) hm.2.2 hrm.2.2
theorem g_room (hC : Cx x f own cc nL R) : fK f + 0 ≤ (fR f).cells ∧ fN f + 0 ≤ (fR f).slots := by
  rw [hC.2.2.2.2.2.2.2.2.2.1]
  exact hC.2.2.2.2.2.2.2.2.2.2.2
theorem g_calls (hC : Cx x f own cc nL R) (hct : Ct x y cc' nL' rt rm φ av M oc) (hm : MS y cc' nL' rt n) (hlk : Cond.methodLink own idx y ∈ lw_g) (hrm : rm.cells = 0 ∧ rm.slots = 0 ∧ rm.frames + 1 ≤ R.frames ∧ 8 + (nL' + 11) + rm.locals ≤ R.locals)
    (hn : av.length = n) (hst : st0 = av.reverse ++ st) (hcat : (st.map fun v => v.category).sum ≤ 8) (hd : decode cc pc = .ok (.invokestatic idx, 3)) (kk : ∀ q, GG x f nL Qf (pc + 3) lv ((φ q).1.toList ++ st) (φ q).2 (κ q)) : GG x f nL Qf pc lv st0 M (oc.bind κ) := by
  intro r hr H locs ls hW hS hl
  cases ho : oc with
  | none => rw [ho] at hr; cases hr
  | some q =>
    rw [ho] at hr
    exact g_ran (κ := κ) (q := q) (φ := φ) hC hS hl hr (va_runS (As := av) ⟨hC.1, hC.2.1, hC.2.2.1, hC.2.2.2.1, hC.2.2.2.2.1⟩ (hct q ho (fL f)) ⟨g_callB hC hm.1 hlk hrm, hC.2.2.2.2.1 _ hm.2⟩ (g_pre hC hW hS) rfl hn hl.1 hst (lv_room hcat) hd (g_room hC)) kk
theorem g_callv (hC : Cx x f own cc nL R) {c k N : Nat} {T : u_T} {as : List Value} (hc : vwCl[c]? = some (y.cls, T, N)) (hc9 : c < 9) (hk : kd k = c) (hct : Ct x y cc' nL' rt rm φ (.ref (x.1 k) :: as) M oc) (hm : MV y cc' nL' rt n) (hlk : Cond.methodLink own idx y ∈ lw_g) (hrm : rm.cells = 0 ∧ rm.slots = 0 ∧ rm.frames + 1 ≤ R.frames ∧ 8 + (nL' + 11) + rm.locals ≤ R.locals)
    (hn : as.length = n) (hst : st0 = as.reverse ++ .ref (x.1 k) :: st) (hcat : (st.map fun v => v.category).sum ≤ 8) (hd : decode cc pc = .ok (.invokevirtual idx, 3)) (kk : ∀ q, GG x f nL Qf (pc + 3) lv ((φ q).1.toList ++ st) (φ q).2 (κ q)) : GG x f nL Qf pc lv st0 M (oc.bind κ) := by
  intro r hr H locs ls hW hS hl
  cases ho : oc with
  | none => rw [ho] at hr; cases hr
  | some q =>
    rw [ho] at hr
    have he : (wl x M)[k]? = some (x.1 k, .inr (c, fsL x M c k)) := by rw [wl_get (kd_lt hk (by omega)), cE_obj hk hc9]
    have hp := g_pre (av := .ref (x.1 k) :: as) hC hW hS
    exact g_ran (κ := κ) (q := q) (φ := φ) hC hS hl hr (va_runV (C := y.cls) (As := as) ⟨hC.1, hC.2.1, hC.2.2.1, hC.2.2.2.1, hC.2.2.2.2.1⟩ (hct q ho (fL f)) ⟨g_callB hC hm.1 hlk hrm, hC.2.2.2.2.1 _ hm.2.1, hC.2.2.2.2.1 _ hm.2.2⟩ ⟨hp.1, va_recv hC.2.2.2.2.2.1 hW hc he, hp.2⟩ rfl hn hl.1 hst (lv_room hcat) hd (g_room hC)) kk
-- returns
theorem g_iret {ψ : β → Option Value × Mem} (hC : Cx x f own cc nL R) (hm : Mx x f (some .int)) {v : Int32} {r : β} (hφ : ψ r = (some (.int v), M)) (hd : decode cc pc = .ok (.ireturn, 1)) : GG x f nL (Qm x f ψ) pc lv [.int v] M (some r) := by
  intro r' hr H locs ls hW hS hl
  cases hr
  unfold Qm
  exact W.iret (v := v) hC.1 hC.2.1 hm.2 (fun t ht hWm => by
    rw [hφ]
    exact ⟨rfl, by rw [ht]; exact hW, by rw [← hm.1]; exact hS.F ht⟩) hS.2.2 hd hC.2.2.2.2.2.2.2.2.2.2.1
theorem g_zret {ψ : β → Option Value × Mem} (hC : Cx x f own cc nL R) (hm : Mx x f (some .boolean)) {v : Int32} {r : β} (hv : narrow .boolean (.int v) = .int v) (hφ : ψ r = (some (.int v), M)) (hd : decode cc pc = .ok (.ireturn, 1)) : GG x f nL (Qm x f ψ) pc lv [.int v] M (some r) := by
  intro r' hr H locs ls hW hS hl
  cases hr
  unfold Qm
  exact W.zret (v := v) hC.1 hC.2.1 hm.2 hv (fun t ht hWm => by
    rw [hφ]
    exact ⟨rfl, by rw [ht]; exact hW, by rw [← hm.1]; exact hS.F ht⟩) hS.2.2 hd hC.2.2.2.2.2.2.2.2.2.2.1
theorem g_lret {ψ : β → Option Value × Mem} (hC : Cx x f own cc nL R) (hm : Mx x f (some .long)) {v : Int64} {r : β} (hφ : ψ r = (some (.long v), M)) (hd : decode cc pc = .ok (.lreturn, 1)) : GG x f nL (Qm x f ψ) pc lv [.long v] M (some r) := by
  intro r' hr H locs ls hW hS hl
  cases hr
  unfold Qm
  exact W.lret (v := v) hC.1 hC.2.1 hm.2 (fun t ht hWm => by
    rw [hφ]
    exact ⟨rfl, by rw [ht]; exact hW, by rw [← hm.1]; exact hS.F ht⟩) hS.2.2 hd hC.2.2.2.2.2.2.2.2.2.2.1
theorem g_vret {ψ : β → Option Value × Mem} (hC : Cx x f own cc nL R) (hm : Mx x f none) {r : β} (hφ : ψ r = (none, M)) (hd : decode cc pc = .ok (.return_, 1)) : GG x f nL (Qm x f ψ) pc lv [] M (some r) := by
  intro r' hr H locs ls hW hS hl
  cases hr
  unfold Qm
  exact W.vret hC.1 hC.2.1 hm.2 (fun t ht hWm => by
    rw [hφ]
    exact ⟨rfl, by rw [ht]; exact hW, by rw [← hm.1]; exact hS.F ht⟩) hS.2.2 hd hC.2.2.2.2.2.2.2.2.2.2.1
theorem g_aret {ψ : β → Option Value × Mem} (hC : Cx x f own cc nL R) {ty : String} (hm : Mx x f (some (.object ty))) {k : Nat} {r : β} (hφ : ψ r = (some (.ref (x.1 k)), M)) (hd : decode cc pc = .ok (.areturn, 1)) : GG x f nL (Qm x f ψ) pc lv [.ref (x.1 k)] M (some r) := by
  intro r' hr H locs ls hW hS hl
  cases hr
  unfold Qm
  exact W.aret (v := .ref (x.1 k)) hC.1 hC.2.1 hm.2 (Or.inl ⟨ty, rfl⟩) (Or.inr ⟨_, rfl⟩) (fun t ht hWm => by
    rw [hφ]
    exact ⟨rfl, by rw [ht]; exact hW, by rw [← hm.1]; exact hS.F ht⟩) hS.2.2 hd hC.2.2.2.2.2.2.2.2.2.2.1
theorem bi_nar (b : Bool) : narrow .boolean (.int (bi b)) = .int (bi b) := by cases b <;> rfl
end Calls
/-! the forms that answers take -/
abbrev φI (M : Mem) : Int32 → Option Value × Mem := fun r => (some (.int r), M)
abbrev φB (M : Mem) : Bool → Option Value × Mem := fun r => (some (.int (bi r)), M)
abbrev φL (M : Mem) : Int64 → Option Value × Mem := fun r => (some (.long r), M)
abbrev φIM : Int32 × Mem → Option Value × Mem := fun r => (some (.int r.1), r.2)
abbrev φBM : Bool × Mem → Option Value × Mem := fun r => (some (.int (bi r.1)), r.2)
abbrev φLM : Int64 × Mem → Option Value × Mem := fun r => (some (.long r.1), r.2)
abbrev φM : Mem → Option Value × Mem := fun r => (none, r)
abbrev φR (x : Wx) (k : Nat) : Mem → Option Value × Mem := fun r => (some (.ref (x.1 k)), r)
/-! loops -/
def fx1 {A β : Type} : Nat → ((A → Option β) → A → Option β) → A → Option β
  | 0, _ => fun _ => none
  | n + 1, g => g (fx1 n g)
def fx2 {A B β : Type} : Nat → ((A → B → Option β) → A → B → Option β) → A → B → Option β
  | 0, _ => fun _ _ => none
  | n + 1, g => g (fx2 n g)
def fx3 {A B C β : Type} : Nat → ((A → B → C → Option β) → A → B → C → Option β) → A → B → C → Option β
  | 0, _ => fun _ _ _ => none
  | n + 1, g => g (fx3 n g)
def fx4 {A B C D β : Type} : Nat → ((A → B → C → D → Option β) → A → B → C → D → Option β) → A → B → C → D → Option β
  | 0, _ => fun _ _ _ _ => none
  | n + 1, g => g (fx4 n g)
def fx5 {A B C D E β : Type} : Nat → ((A → B → C → D → E → Option β) → A → B → C → D → E → Option β) → A → B → C → D → E → Option β
  | 0, _ => fun _ _ _ _ _ => none
  | n + 1, g => g (fx5 n g)
section Loops
variable {β A B C D E : Type} {x : Wx} {f : Fx} {nL : Nat} {Qf : β → State → Prop} {pc : Nat} {st : List Value}
theorem g_fx1 {g : (A → Option β) → A → Option β} (lv : A → List (Nat × Value)) (mm : A → Mem) (hb : ∀ rec, (∀ a, GG x f nL Qf pc (lv a) st (mm a) (rec a)) → ∀ a, GG x f nL Qf pc (lv a) st (mm a) (g rec a)) : ∀ n a, GG x f nL Qf pc (lv a) st (mm a) (fx1 n g a)
  | 0, _ => g_none
  | n + 1, a => hb _ (g_fx1 lv mm hb n) a
theorem g_fx2 {g : (A → B → Option β) → A → B → Option β} (lv : A → B → List (Nat × Value)) (mm : A → B → Mem) (hb : ∀ rec, (∀ a b, GG x f nL Qf pc (lv a b) st (mm a b) (rec a b)) → ∀ a b, GG x f nL Qf pc (lv a b) st (mm a b) (g rec a b)) : ∀ n a b, GG x f nL Qf pc (lv a b) st (mm a b) (fx2 n g a b)
  | 0, _, _ => g_none
  | n + 1, a, b => hb _ (g_fx2 lv mm hb n) a b
theorem g_fx3 {g : (A → B → C → Option β) → A → B → C → Option β} (lv : A → B → C → List (Nat × Value)) (mm : A → B → C → Mem) (hb : ∀ rec, (∀ a b c, GG x f nL Qf pc (lv a b c) st (mm a b c) (rec a b c)) → ∀ a b c, GG x f nL Qf pc (lv a b c) st (mm a b c) (g rec a b c)) : ∀ n a b c, GG x f nL Qf pc (lv a b c) st (mm a b c) (fx3 n g a b c)
  | 0, _, _, _ => g_none
  | n + 1, a, b, c => hb _ (g_fx3 lv mm hb n) a b c
theorem g_fx4 {g : (A → B → C → D → Option β) → A → B → C → D → Option β} (lv : A → B → C → D → List (Nat × Value)) (mm : A → B → C → D → Mem) (hb : ∀ rec, (∀ a b c d, GG x f nL Qf pc (lv a b c d) st (mm a b c d) (rec a b c d)) → ∀ a b c d, GG x f nL Qf pc (lv a b c d) st (mm a b c d) (g rec a b c d)) : ∀ n a b c d, GG x f nL Qf pc (lv a b c d) st (mm a b c d) (fx4 n g a b c d)
  | 0, _, _, _, _ => g_none
  | n + 1, a, b, c, d => hb _ (g_fx4 lv mm hb n) a b c d
theorem g_fx5 {g : (A → B → C → D → E → Option β) → A → B → C → D → E → Option β} (lv : A → B → C → D → E → List (Nat × Value)) (mm : A → B → C → D → E → Mem) (hb : ∀ rec, (∀ a b c d e, GG x f nL Qf pc (lv a b c d e) st (mm a b c d e) (rec a b c d e)) → ∀ a b c d e, GG x f nL Qf pc (lv a b c d e) st (mm a b c d e) (g rec a b c d e)) : ∀ n a b c d e, GG x f nL Qf pc (lv a b c d e) st (mm a b c d e) (fx5 n g a b c d e)
  | 0, _, _, _, _, _ => g_none
  | n + 1, a, b, c, d, e => hb _ (g_fx5 lv mm hb n) a b c d e
end Loops
