/-! OUR WORLD: the cells that the class and its reference live in, by numbers 0 .. 53; the memory is what they hold, all of it ints -/
abbrev Mem := Nat → Nat → Int32
/-- where the cells lie; the class tables; the array classes by kind -/
abbrev Wx := (Nat → Nat) × va_G × (Nat → ClassId)
def stC (M : Mem) (k : Nat) (g : Nat → Int32) : Mem := fun j => if j = k then g else M j
def st2 (M : Mem) (k i : Nat) (v : Int32) : Mem := stC M k (upd (M k) i v)
theorem stC_same (M : Mem) (k : Nat) (g : Nat → Int32) : stC M k g k = g := by simp [stC]
theorem stC_ne (M : Mem) {k j : Nat} (g : Nat → Int32) (h : j ≠ k) : stC M k g j = M j := by simp [stC, h]
/-- kinds: 0 .. 8 an object of that class; 9 ints, 10 bytes, 11 booleans, 12 Entries, 13 Sheets, 14 Texts -/
def kdL : List Nat := [7, 14, 6, 6, 6, 10, 10, 10, 12, 1, 1, 1, 9, 9, 9, 9, 9, 3, 9, 9, 9, 9, 9, 0, 9, 9, 4, 2, 13, 5, 5, 5, 5, 9, 9, 9, 9, 8, 9, 9, 9, 9, 9, 9, 9, 9, 9, 9, 9, 11, 9, 9, 9, 9]
def kd (k : Nat) : Nat := kdL.getD k 99
def lnL : List Nat := [0, 3, 0, 0, 0, 80, 60, 60, 3, 0, 0, 0, 60, 60, 60, 4, 10, 0, 1024, 1024, 1024, 10, 10, 0, 10, 1024, 0, 0, 4, 0, 0, 0, 0, 48, 48, 48, 48, 0, 3, 240, 66, 2, 66, 10, 1024, 1024, 1024, 8, 8, 4, 4, 4, 192, 48]
def ln (k : Nat) : Nat := lnL.getD k 0
theorem kd_lt {k c : Nat} (h : kd k = c) (hc : c < 15) : k < 54 := by
  rcases Nat.lt_or_ge k 54 with q | q
  · exact q
  · have : kd k = 99 := by unfold kd; rw [List.getD_eq_getElem?_getD, List.getElem?_eq_none (by simpa [kdL] using q)]; rfl
    omega
def fm (k : Nat) : Nat := if k = 9 then 60 else 61
def rfO (c k j : Nat) : Option Nat := match c, j with
  | 0, 0 => some (k + 1)
  | 0, 1 => some (k + 2)
  | 1, 0 => some (fm k)
  | 1, 1 => some (k + 3)
  | 3, 0 => some (k + 1)
  | 3, 1 => some (k + 2)
  | 3, 2 => some (k + 3)
  | 3, 3 => some (k + 4)
  | 3, 4 => some (k + 5)
  | 5, 0 => some (k + 4)
  | 6, 0 => some (k + 3)
  | 7, 0 => some 1
  | 7, 1 => some 8
  | 7, 2 => some 15
  | 7, 3 => some 16
  | 7, 4 => some 17
  | 7, 6 => some 23
  | 7, 8 => some 26
  | 7, 9 => some 27
  | 7, 10 => some 28
  | 8, 0 => some 38
  | 8, 1 => some 39
  | 8, 3 => some 40
  | 8, 4 => some 41
  | 8, 5 => some 42
  | 8, 10 => some 43
  | 8, 11 => some 44
  | 8, 12 => some 45
  | 8, 13 => some 46
  | 8, 15 => some 47
  | 8, 16 => some 48
  | 8, 17 => some 49
  | 8, 18 => some 50
  | 8, 19 => some 51
  | 8, 20 => some 52
  | 8, 21 => some 53
  | _, _ => none
def nfL : List Nat := [5, 8, 1, 8, 3, 3, 2, 12, 23]
def fv (x : Wx) (M : Mem) (c k j : Nat) : Value := match rfO c k j with
  | some t => .ref (x.1 t)
  | none => .int (M k j)
def fsL (x : Wx) (M : Mem) (c k : Nat) : List Value := (List.range (nfL.getD c 0)).map (fv x M c k)
/-- what a cell is -/
def cE (x : Wx) (M : Mem) (k : Nat) : va_E :=
  if kd k < 9 then .inr (kd k, fsL x M (kd k) k)
  else if kd k < 12 then .inl (x.2.2 (kd k), ln k, .inl (M k))
  else .inl (x.2.2 (kd k), ln k, .inr (.inr (.inr (.inr (fun i => some (x.1 (k + 1 + i)))))))
def wl (x : Wx) (M : Mem) : va_W := (List.range 54).map fun k => (x.1 k, cE x M k)
abbrev tysX (x : Wx) : List (ClassId × FieldType) := [(x.2.2 9, .int), (x.2.2 10, .byte), (x.2.2 11, .boolean), (x.2.2 12, .object "AnswersFirst$Entries"), (x.2.2 13, .object "AnswersFirst$Sheet"), (x.2.2 14, .object "AnswersFirst$Text")]
def Wd (x : Wx) (M : Mem) (H : Heap) : Prop := va_P x.2.1 vwCl (wl x M) H
def Inj (x : Wx) : Prop := ∀ i j, i < 54 → j < 54 → x.1 i = x.1 j → i = j
def Ax (x : Wx) : Nat → Prop := fun q => ∃ k, k < 54 ∧ q = x.1 k
theorem wl_get {x : Wx} {M : Mem} {k : Nat} (h : k < 54) : (wl x M)[k]? = some (x.1 k, cE x M k) := by
  simp [wl, h]
theorem wl_D {x : Wx} {M : Mem} {A : Nat → Prop} (hI : Inj x) (hA : ∀ k, k < 54 → A (x.1 k)) : va_D A (wl x M) := by
  have key : ∀ (k : Nat) (q : Nat × va_E), (wl x M)[k]? = some q → k < 54 ∧ q.1 = x.1 k := by
    intro k q h
    have hk : k < 54 := by
      have := (List.getElem?_eq_some_iff.mp h).1
      simpa [wl] using this
    rw [wl_get hk] at h
    cases h
    exact ⟨hk, rfl⟩
  refine ⟨fun i j p q hi hj e => ?_, fun k q hk => ?_⟩
  · obtain ⟨a1, a2⟩ := key i p hi
    obtain ⟨b1, b2⟩ := key j q hj
    exact hI i j a1 b1 (by rw [← a2, ← b2, e])
  · obtain ⟨a1, a2⟩ := key k q hk
    rw [a2]
    exact hA k a1
theorem cE_congr {x : Wx} {M M' : Mem} {k : Nat} (h : M' k = M k) : cE x M' k = cE x M k := by
  have e : ∀ c j, fv x M' c k j = fv x M c k j := by
    intro c j
    unfold fv
    cases rfO c k j <;> simp [h]
  have e2 : ∀ c, fsL x M' c k = fsL x M c k := by
    intro c
    unfold fsL
    exact List.map_congr_left (fun j _ => e c j)
  unfold cE
  rw [e2, h]
theorem wl_set {x : Wx} {M M' : Mem} {k : Nat} {e : va_E} (he : cE x M' k = e) (hM : ∀ j, j ≠ k → M' j = M j) : (wl x M).set k (x.1 k, e) = wl x M' := by
  refine List.ext_getElem? (fun i => ?_)
  rw [List.getElem?_set]
  by_cases hik : k = i
  · subst hik
    rw [if_pos rfl]
    by_cases hk : k < 54
    · rw [if_pos (by simpa [wl] using hk), wl_get hk, he]
    · have h1 : (wl x M').length ≤ k := by simpa [wl] using hk
      rw [if_neg (by simpa [wl] using hk), List.getElem?_eq_none h1]
  · rw [if_neg hik]
    by_cases hi : i < 54
    · rw [wl_get hi, wl_get hi, cE_congr (hM i (fun q => hik q.symm))]
    · have h1 : (wl x M).length ≤ i := by simpa [wl] using hi
      have h2 : (wl x M').length ≤ i := by simpa [wl] using hi
      rw [List.getElem?_eq_none h1, List.getElem?_eq_none h2]
theorem cE_obj {x : Wx} {M : Mem} {k c : Nat} (h : kd k = c) (hc : c < 9) : cE x M k = .inr (c, fsL x M c k) := by
  unfold cE; rw [h, if_pos hc]
theorem cE_arr {x : Wx} {M : Mem} {k c : Nat} (h : kd k = c) (h1 : ¬ c < 9) (h2 : c < 12) : cE x M k = .inl (x.2.2 c, ln k, .inl (M k)) := by
  unfold cE; rw [h, if_neg h1, if_pos h2]
theorem cE_ref {x : Wx} {M : Mem} {k c : Nat} (h : kd k = c) (h1 : ¬ c < 9) (h2 : ¬ c < 12) : cE x M k = .inl (x.2.2 c, ln k, .inr (.inr (.inr (.inr (fun i => some (x.1 (k + 1 + i))))))) := by
  unfold cE; rw [h, if_neg h1, if_neg h2]
theorem fsL_get {x : Wx} {M : Mem} {c k j : Nat} (h : j < nfL.getD c 0) : (fsL x M c k)[j]? = some (fv x M c k j) := by
  unfold fsL
  rw [List.getElem?_map, List.getElem?_range h]
  rfl
theorem fsL_set {x : Wx} {M : Mem} {c k j : Nat} {v : Int32} (hr : rfO c k j = none) : (fsL x M c k).set j (.int v) = fsL x (st2 M k j v) c k := by
  refine List.ext_getElem? (fun i => ?_)
  rw [List.getElem?_set]
  have hlen : (fsL x M c k).length = nfL.getD c 0 := by simp [fsL]
  by_cases hij : j = i
  · subst hij
    rw [if_pos rfl, hlen]
    by_cases hj : j < nfL.getD c 0
    · rw [if_pos hj, fsL_get hj]
      unfold fv
      rw [hr]
      simp [st2, stC, upd]
    · rw [if_neg hj, List.getElem?_eq_none (by simpa [fsL] using hj)]
  · rw [if_neg hij]
    by_cases hi : i < nfL.getD c 0
    · rw [fsL_get hi, fsL_get hi]
      unfold fv
      cases rfO c k i with
      | some t => rfl
      | none =>
        have : st2 M k j v k i = M k i := by simp [st2, stC, upd, Ne.symm hij]
        rw [this]
    · rw [List.getElem?_eq_none (by simpa [fsL] using hi), List.getElem?_eq_none (by simpa [fsL] using hi)]
theorem st2_ne {M : Mem} {k i : Nat} {v : Int32} : ∀ j, j ≠ k → st2 M k i v j = M j := fun j h => stC_ne M _ h
/-! what nobody writes: static arrays, String constants -/
def roL (k : Nat) : Nat := if k = 60 then 7 else 4
def roT (k : Nat) : List Int32 := if k = 60 then [0, 1, 2, 2, 3, 4, 5] else if k = 61 then [2, 2, 0, 1] else if k = 62 then [1, 0, 0, 0] else [20, 9, 99, 1023]
def roI (k i : Nat) : Int32 := (roT k).getD i 0
def tx_len : List Nat := [2, 5]
def tx_byt : List (List Int32) := [[110, 121], [97, 101, 121, 110, 115]]
def RoX (x : Wx) (A : Nat → Prop) (U : State) (H : Heap) : Prop :=
  ((va_Z "AnswersFirst" "LEAST_SETTING" "[I" (.ref (x.1 62)) A U H ∧ va_Z "AnswersFirst" "MOST_SETTING" "[I" (.ref (x.1 63)) A U H ∧ va_Z "java/lang/String" "COMPACT_STRINGS" "Z" (.int 1) A U H) ∧
  (∀ k, 60 ≤ k → k < 64 → va_T .int (x.1 k) (roL k) (fun j => .int (roI k j)) A U H)) ∧
  vk_S 2 tx_len tx_byt (fun i => x.1 (64 + i)) (fun i => x.1 (66 + i)) A U H ∧
  vk_R "AnswersFirst$Entries" 69 "ny" (x.1 64) U ∧ vk_R "AnswersFirst$Entries" 76 "aeyns" (x.1 65) U
theorem RoX.go {x : Wx} {A B : Nat → Prop} {s U : State} {H H1 : Heap} (h : RoX x A s H) (hq : ∀ a : Nat, a < H.size → ¬ A a → H1[a]? = H[a]?) (hAB : ∀ q, B q → A q) (hW : s.WarmedH U.vm) : RoX x B U H1 := by
  obtain ⟨⟨⟨h1, h2, h3⟩, h4⟩, h5, h6, h7⟩ := h
  have z : ∀ {C n d : String} {v : Value}, va_Z C n d v A s H → va_Z C n d v B U H1 := fun q => va_Z.moved hW.alike ((q.kept hq).narrow hAB)
  exact ⟨⟨⟨z h1, z h2, z h3⟩, fun k a b => va_T.moved hW.alike (((h4 k a b).kept hq).narrow hAB)⟩, vk_S.moved hW.alike ((h5.kept hq).narrow hAB), vk_R.warm hW h6, vk_R.warm hW h7⟩
theorem RoX.same {x : Wx} {A : Nat → Prop} {u U : State} {H : Heap} (h : RoX x A u H) (hv : U.vm = u.vm) : RoX x A U H := by
  obtain ⟨⟨⟨h1, h2, h3⟩, h4⟩, h5, h6, h7⟩ := h
  have al : u.vm.Alike U.vm := by rw [hv]; exact Vm.Alike.refl u.vm
  exact ⟨⟨⟨va_Z.moved al h1, va_Z.moved al h2, va_Z.moved al h3⟩, fun k a b => va_T.moved al (h4 k a b)⟩, vk_S.moved al h5, vk_R.same hv h6, vk_R.same hv h7⟩
/-- the tables' words that last -/
def lw_g : List Cond := lw_tbl.filter goodWord
theorem lw_g_in {w : Cond} (i : Nat) (h : lw_tbl[i]? = some w) (hg : goodWord w = true) : w ∈ lw_g := List.mem_filter.mpr ⟨List.mem_of_getElem? h, hg⟩
theorem lw_g_sub {w : Cond} (h : w ∈ lw_g) : w ∈ lw_tbl := (List.mem_filter.mp h).1
theorem lw_g_good {y : Cond} (hy : y ∈ lw_g) : GoodIn lw_g (y :: lw_g) := fun w hw => by
  have hw : w ∈ lw_g := (List.mem_cons.mp hw).elim (fun e => e ▸ hy) id
  exact ⟨hw, good_of_word (List.mem_filter.mp hw).2⟩
