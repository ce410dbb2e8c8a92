/-! PURE: words for ints, loops, memory -/
theorem nm_eq {α β : Type} (a : α) (g : α → β) : nm a g = g a := rfl
theorem ob_some {α β : Type} (a : α) (g : α → Option β) : (some a).bind g = g a := rfl
theorem z_lit (n : Nat) : (OfNat.ofNat n : Int32) = nI n := rfl
theorem z_lt {a b : Nat} (ha : a < 2147483648) (hb : b < 2147483648) : (nI a < nI b) = (a < b) := propext (nI_ltI ha hb)
theorem z_le {a b : Nat} (ha : a < 2147483648) (hb : b < 2147483648) : (nI a ≤ nI b) = (a ≤ b) := propext (nI_leI ha hb)
theorem z_eq {a b : Nat} (ha : a < 2147483648) (hb : b < 2147483648) : (nI a = nI b) = (a = b) := propext (nI_eq ha hb)
theorem z_lL {a b : Nat} (ha : (OfNat.ofNat a : Nat) < 2147483648) (hb : b < 2147483648) : ((no_index (OfNat.ofNat a) : Int32) < nI b) = ((OfNat.ofNat a : Nat) < b) := z_lt ha hb
theorem z_lR {a b : Nat} (ha : a < 2147483648) (hb : (OfNat.ofNat b : Nat) < 2147483648) : (nI a < (no_index (OfNat.ofNat b) : Int32)) = (a < (OfNat.ofNat b : Nat)) := z_lt ha hb
theorem z_leL {a b : Nat} (ha : (OfNat.ofNat a : Nat) < 2147483648) (hb : b < 2147483648) : ((no_index (OfNat.ofNat a) : Int32) ≤ nI b) = ((OfNat.ofNat a : Nat) ≤ b) := z_le ha hb
theorem z_leR {a b : Nat} (ha : a < 2147483648) (hb : (OfNat.ofNat b : Nat) < 2147483648) : (nI a ≤ (no_index (OfNat.ofNat b) : Int32)) = (a ≤ (OfNat.ofNat b : Nat)) := z_le ha hb
theorem z_eL {a b : Nat} (ha : (OfNat.ofNat a : Nat) < 2147483648) (hb : b < 2147483648) : ((no_index (OfNat.ofNat a) : Int32) = nI b) = ((OfNat.ofNat a : Nat) = b) := z_eq ha hb
theorem z_eR {a b : Nat} (ha : a < 2147483648) (hb : (OfNat.ofNat b : Nat) < 2147483648) : (nI a = (no_index (OfNat.ofNat b) : Int32)) = (a = (OfNat.ofNat b : Nat)) := z_eq ha hb
theorem z_add (a b : Nat) : nI a + nI b = nI (a + b) := nI_add a b
theorem z_addL (a b : Nat) : (no_index (OfNat.ofNat a) : Int32) + nI b = nI ((OfNat.ofNat a : Nat) + b) := nI_add a b
theorem z_addR (a b : Nat) : nI a + (no_index (OfNat.ofNat b) : Int32) = nI (a + (OfNat.ofNat b : Nat)) := nI_add a b
theorem z_mul (a b : Nat) : nI a * nI b = nI (a * b) := pk_mul a b
theorem z_mulL (a b : Nat) : (no_index (OfNat.ofNat a) : Int32) * nI b = nI ((OfNat.ofNat a : Nat) * b) := pk_mul a b
theorem z_mulR (a b : Nat) : nI a * (no_index (OfNat.ofNat b) : Int32) = nI (a * (OfNat.ofNat b : Nat)) := pk_mul a b
theorem z_sub {a b : Nat} (h : b ≤ a) : nI a - nI b = nI (a - b) := pk_sub h
theorem z_subR {a b : Nat} (h : (OfNat.ofNat b : Nat) ≤ a) : nI a - (no_index (OfNat.ofNat b) : Int32) = nI (a - (OfNat.ofNat b : Nat)) := pk_sub h
theorem z_subL {a b : Nat} (h : b ≤ (OfNat.ofNat a : Nat)) : (no_index (OfNat.ofNat a) : Int32) - nI b = nI ((OfNat.ofNat a : Nat) - b) := pk_sub h
theorem z_ix {a : Nat} (h : a < 2147483648) : ix (nI a) = a := nI_clamp h
theorem z_cl {a : Nat} (h : a < 2147483648) : (nI a).toNatClampNeg = a := nI_clamp h
theorem z_ixL {a : Nat} (h : (OfNat.ofNat a : Nat) < 2147483648) : ix (no_index (OfNat.ofNat a) : Int32) = (OfNat.ofNat a : Nat) := nI_clamp h
theorem z_inb {a n : Nat} (h : a < n) (hn : n < 2147483648) : inb (nI a) n = true := inb_iff.mpr (vp_in_nI h hn)
theorem z_ib {β : Type} {a n : Nat} {o : Option β} (h : a < n) (hn : n < 2147483648) : ib (nI a) n o = o := by unfold ib; rw [if_pos (z_inb h hn)]
theorem z_ibL {β : Type} {a n : Nat} {o : Option β} (h : (OfNat.ofNat a : Nat) < n) (hn : n < 2147483648) : ib (no_index (OfNat.ofNat a) : Int32) n o = o := z_ib h hn
theorem z_bi_t : bi true = 1 := rfl
theorem z_bi_f : bi false = 0 := rfl
theorem m1_ne {a : Nat} (h : a < 2147483648) : ¬ (nI a = -1) := by
  intro e
  have h1 := congrArg Int32.toInt e
  rw [nI_toInt h] at h1
  have : ((-1 : Int32)).toInt = -1 := by decide
  omega
theorem m1_ne' {a : Nat} (h : a < 2147483648) : ¬ (-1 = nI a) := fun e => m1_ne h e.symm
theorem m1_lt {a : Nat} (h : a < 2147483648) : (-1 : Int32) < nI a := by
  rw [Int32.lt_iff_toInt_lt, nI_toInt h]
  have : ((-1 : Int32)).toInt = -1 := by decide
  omega
/-- an int is below 0, from n on, or one of 0 .. n - 1 -/
theorem z_cases (v : Int32) (n : Nat) (hn : n < 2147483648) : v < 0 ∨ (nI n ≤ v ∧ ¬ v < 0) ∨ ∃ j : Nat, j < n ∧ v = nI j := by
  rcases pk_ix v hn with h | h | h
  · exact Or.inl h
  · by_cases h0 : v < 0
    · exact Or.inl h0
    · exact Or.inr (Or.inl ⟨h, h0⟩)
  · exact Or.inr (Or.inr h)
/-! loops along a known road -/
section Roads
variable {A B C D E β : Type}
theorem fx1_road {g : (A → Option β) → A → Option β} (s : Nat → A) (e : Nat) (res : Option β) (hs : ∀ i, i < e → ∀ rec : A → Option β, g rec (s i) = rec (s (i + 1))) (he : ∀ rec : A → Option β, g rec (s e) = res) : ∀ (n i : Nat), i ≤ e → e - i < n → fx1 n g (s i) = res := by
  intro n
  induction n with
  | zero => intro i _ h; omega
  | succ n ih =>
    intro i hi h
    show g (fx1 n g) (s i) = res
    by_cases hie : i = e
    · subst hie; exact he _
    · rw [hs i (by omega)]; exact ih (i + 1) (by omega) (by omega)
theorem fx2_road {g : (A → B → Option β) → A → B → Option β} (s : Nat → A) (t : Nat → B) (e : Nat) (res : Option β) (hs : ∀ i, i < e → ∀ rec : A → B → Option β, g rec (s i) (t i) = rec (s (i + 1)) (t (i + 1))) (he : ∀ rec : A → B → Option β, g rec (s e) (t e) = res) : ∀ (n i : Nat), i ≤ e → e - i < n → fx2 n g (s i) (t i) = res := by
  intro n
  induction n with
  | zero => intro i _ h; omega
  | succ n ih =>
    intro i hi h
    show g (fx2 n g) (s i) (t i) = res
    by_cases hie : i = e
    · subst hie; exact he _
    · rw [hs i (by omega)]; exact ih (i + 1) (by omega) (by omega)
theorem fx3_road {g : (A → B → C → Option β) → A → B → C → Option β} (s : Nat → A) (t : Nat → B) (u : Nat → C) (e : Nat) (res : Option β) (hs : ∀ i, i < e → ∀ rec : A → B → C → Option β, g rec (s i) (t i) (u i) = rec (s (i + 1)) (t (i + 1)) (u (i + 1))) (he : ∀ rec : A → B → C → Option β, g rec (s e) (t e) (u e) = res) : ∀ (n i : Nat), i ≤ e → e - i < n → fx3 n g (s i) (t i) (u i) = res := by
  intro n
  induction n with
  | zero => intro i _ h; omega
  | succ n ih =>
    intro i hi h
    show g (fx3 n g) (s i) (t i) (u i) = res
    by_cases hie : i = e
    · subst hie; exact he _
    · rw [hs i (by omega)]; exact ih (i + 1) (by omega) (by omega)
theorem fx4_road {g : (A → B → C → D → Option β) → A → B → C → D → Option β} (s : Nat → A) (t : Nat → B) (u : Nat → C) (v : Nat → D) (e : Nat) (res : Option β) (hs : ∀ i, i < e → ∀ rec : A → B → C → D → Option β, g rec (s i) (t i) (u i) (v i) = rec (s (i + 1)) (t (i + 1)) (u (i + 1)) (v (i + 1))) (he : ∀ rec : A → B → C → D → Option β, g rec (s e) (t e) (u e) (v e) = res) : ∀ (n i : Nat), i ≤ e → e - i < n → fx4 n g (s i) (t i) (u i) (v i) = res := by
  intro n
  induction n with
  | zero => intro i _ h; omega
  | succ n ih =>
    intro i hi h
    show g (fx4 n g) (s i) (t i) (u i) (v i) = res
    by_cases hie : i = e
    · subst hie; exact he _
    · rw [hs i (by omega)]; exact ih (i + 1) (by omega) (by omega)
end Roads
/-! memory -/
theorem st2_at (M : Mem) (k i : Nat) (v : Int32) (k' i' : Nat) : st2 M k i v k' i' = if k' = k ∧ i' = i then v else M k' i' := by
  unfold st2 stC upd
  by_cases h : k' = k
  · subst h
    by_cases h2 : i' = i
    · simp [h2]
    · simp [h2]
  · simp [h]
theorem st2_same (M : Mem) (k i : Nat) (v : Int32) : st2 M k i v k i = v := by rw [st2_at]; simp
theorem st2_k (M : Mem) {k k' : Nat} (i : Nat) (v : Int32) (h : k' ≠ k) : st2 M k i v k' = M k' := stC_ne M _ h
theorem st2_i (M : Mem) (k : Nat) {i i' : Nat} (v : Int32) (h : i' ≠ i) : st2 M k i v k i' = M k i' := by rw [st2_at]; simp [h]
/-! leaves: tests of numbers -/
theorem e_isOutside (F : Nat) (a b : Int32) (M : Mem) : sX7_isOutside F a b M = some (decide (a < 0 ∨ b ≤ a)) := by
  unfold sX7_isOutside
  by_cases h1 : a < 0
  · simp [h1]
  · by_cases h2 : a < b
    · have h3 : ¬ b ≤ a := by rw [Int32.le_iff_toInt_le]; rw [Int32.lt_iff_toInt_lt] at h2; omega
      simp [h1, h2, h3]
    · have h3 : b ≤ a := by rw [Int32.le_iff_toInt_le]; rw [Int32.lt_iff_toInt_lt] at h2; omega
      simp [h1, h2, h3]
theorem e_in (F : Nat) (v lo hi : Int32) (M : Mem) : sX8_in F v lo hi M = some (decide (lo ≤ v ∧ v ≤ hi)) := by
  unfold sX8_in
  have e1 : v < lo ↔ ¬ lo ≤ v := by rw [Int32.le_iff_toInt_le, Int32.lt_iff_toInt_lt]; omega
  have e2 : hi < v ↔ ¬ v ≤ hi := by rw [Int32.le_iff_toInt_le, Int32.lt_iff_toInt_lt]; omega
  by_cases h1 : lo ≤ v <;> by_cases h2 : v ≤ hi <;> simp [h1, h2, e1, e2]
