/-! a text as it is read: the marks of an entry, where the entries begin, how far it goes well -/
section Reading
def fg (x m : Nat) : Bool := decide (48 ≤ x ∧ x ≤ 48 + m)
def okM (b : Nat → Nat) (s : Nat) : Nat → Bool
  | 0 => fg (b s) 5
  | 1 => fg (b (s + 1)) 5 && !decide (b (s + 1) = b s)
  | 2 => fg (b (s + 2)) 9
  | 3 => fg (b (s + 3)) 9
  | 4 => decide (b (s + 4) = 110) || decide (b (s + 4) = 121)
  | 5 => decide (b (s + 5) = 97) || decide (b (s + 5) = 101) || decide (b (s + 5) = 121) || decide (b (s + 5) = 110) || decide (b (s + 5) = 115)
  | _ => fg (b (s + 6)) 9
def okP (b : Nat → Nat) (s : Nat) : Nat → Bool
  | 0 => fg (b s) 9
  | 1 => fg (b (s + 1)) 9
  | 2 => fg (b (s + 2)) 5
  | _ => fg (b (s + 3)) 5 && !decide (b (s + 3) = b (s + 2))
def ok (t : Nat) (b : Nat → Nat) (s j : Nat) : Bool := if t = 0 then okM b s j else okP b s j
def le7 (t : Nat) (b : Nat → Nat) (s : Nat) : Nat := if t = 0 then (if b (s + 5) = 97 ∨ b (s + 5) = 101 then 6 else 7) else 4
def sn (t : Nat) (b : Nat → Nat) : Nat → Nat
  | 0 => 0
  | i + 1 => sn t b i + le7 t b (sn t b i) + 1
def Wl (t : Nat) (b : Nat → Nat) (p e : Nat) : Prop :=
  (∀ i, i < e → (∀ j, j < le7 t b (sn t b i) → ok t b (sn t b i) j = true) ∧ b (sn t b i + le7 t b (sn t b i)) = 59) ∧ (sn t b e ≤ p ∧ p ≤ sn t b e + le7 t b (sn t b e)) ∧ (∀ j, j < p - sn t b e → ok t b (sn t b e) j = true) ∧ e ≤ 10 ∧ (e = 10 → p = sn t b e)
def Bd (t : Nat) (b : Nat → Nat) (p e : Nat) : Prop := (p = sn t b e + le7 t b (sn t b e) ∧ ¬ b p = 59) ∨ (p < sn t b e + le7 t b (sn t b e) ∧ (e = 10 ∨ ok t b (sn t b e) (p - sn t b e) = false))
variable {t n e p : Nat} {b b' : Nat → Nat}
theorem le_pos (t : Nat) (b : Nat → Nat) (s : Nat) : 4 ≤ le7 t b s ∧ le7 t b s ≤ 7 := by
  unfold le7
  by_cases h : t = 0
  · rw [if_pos h]
    by_cases h2 : b (s + 5) = 97 ∨ b (s + 5) = 101
    · rw [if_pos h2]; decide
    · rw [if_neg h2]; decide
  · rw [if_neg h]; decide
theorem sn_mono {i : Nat} : ∀ d, sn t b i + 5 * d ≤ sn t b (i + d)
  | 0 => Nat.le_refl _
  | d + 1 => by
    have h1 := sn_mono (i := i) d
    have h2 : sn t b (i + (d + 1)) = sn t b (i + d) + le7 t b (sn t b (i + d)) + 1 := rfl
    have h3 := (le_pos t b (sn t b (i + d))).1
    omega
theorem sn_le {i j : Nat} (h : i ≤ j) : sn t b i + 5 * (j - i) ≤ sn t b j := by
  have := sn_mono (t := t) (b := b) (i := i) (j - i)
  rw [show i + (j - i) = j by omega] at this
  exact this
theorem W0 : Wl t b 0 0 := ⟨fun i h => by omega, ⟨Nat.le_refl _, Nat.zero_le _⟩, fun j h => by simp [sn] at h, by decide, fun h => by omega⟩
theorem Wl.lt10 (h : Wl t b n e) (hn : n = sn t b e + le7 t b (sn t b e)) : e < 10 := by
  have h1 := h.2.2.2.1
  rcases Nat.lt_or_ge e 10 with c | c
  · exact c
  · have := h.2.2.2.2 (by omega)
    have := (le_pos t b (sn t b e)).1
    omega
theorem Wl.sep (h : Wl t b n e) (hn : n = sn t b e + le7 t b (sn t b e)) (hb : b n = 59) : Wl t b (n + 1) (e + 1) ∧ sn t b (e + 1) = n + 1 := by
  have he := h.lt10 hn
  have es : sn t b (e + 1) = n + 1 := by show sn t b e + le7 t b (sn t b e) + 1 = n + 1; omega
  refine ⟨⟨fun i hi => ?_, ⟨by omega, by omega⟩, fun j hj => by omega, by omega, fun _ => es.symm⟩, es⟩
  by_cases c : i = e
  · subst c
    exact ⟨fun j hj => h.2.2.1 j (by omega), by rw [← hn]; exact hb⟩
  · exact h.1 i (by omega)
theorem Wl.go (h : Wl t b n e) (hn : n < sn t b e + le7 t b (sn t b e)) (he : e < 10) (ho : ok t b (sn t b e) (n - sn t b e) = true) : Wl t b (n + 1) e := by
  obtain ⟨h1, ⟨h2, h3⟩, h4, h5, h6⟩ := h
  refine ⟨h1, ⟨by omega, by omega⟩, fun j hj => ?_, h5, fun z => by omega⟩
  by_cases c : j = n - sn t b e
  · rw [c]; exact ho
  · exact h4 j (by omega)
theorem le_cong {s : Nat} (h : ∀ i, i < n → b i = b' i) (hs : s + 5 < n) : le7 t b s = le7 t b' s := by
  unfold le7
  rw [h (s + 5) hs]
theorem sn_cong (h : ∀ i, i < n → b i = b' i) : ∀ i, sn t b i ≤ n → sn t b i = sn t b' i
  | 0 => fun _ => rfl
  | i + 1 => fun hi => by
    have e1 : sn t b (i + 1) = sn t b i + le7 t b (sn t b i) + 1 := rfl
    have h3 := le_pos t b (sn t b i)
    have ih := sn_cong h i (by omega)
    show sn t b i + le7 t b (sn t b i) + 1 = sn t b' i + le7 t b' (sn t b' i) + 1
    rw [← ih]
    by_cases ht : t = 0
    · subst ht
      have h6 : 6 ≤ le7 0 b (sn 0 b i) := by unfold le7; rw [if_pos rfl]; split <;> decide
      rw [le_cong h (show sn 0 b i + 5 < n by omega)]
    · unfold le7
      rw [if_neg ht, if_neg ht]
theorem ok_cong {s j : Nat} (h : ∀ i, i < n → b i = b' i) (hs : s + j < n) (hj : j < 7) (hj2 : t ≠ 0 → j < 4) : ok t b s j = ok t b' s j := by
  unfold ok
  by_cases ht : t = 0
  · rw [if_pos ht, if_pos ht]
    rcases (show j = 0 ∨ j = 1 ∨ j = 2 ∨ j = 3 ∨ j = 4 ∨ j = 5 ∨ j = 6 by omega) with c | c | c | c | c | c | c
    · subst c; unfold okM; rw [h s (by omega)]; rfl
    · subst c; unfold okM; rw [h (s + 1) (by omega), h s (by omega)]; rfl
    · subst c; unfold okM; rw [h (s + 2) (by omega)]; rfl
    · subst c; unfold okM; rw [h (s + 3) (by omega)]; rfl
    · subst c; unfold okM; rw [h (s + 4) (by omega)]; rfl
    · subst c; unfold okM; rw [h (s + 5) (by omega)]; rfl
    · subst c; unfold okM; rw [h (s + 6) (by omega)]; rfl
  · rw [if_neg ht, if_neg ht]
    have := hj2 ht
    rcases (show j = 0 ∨ j = 1 ∨ j = 2 ∨ j = 3 by omega) with c | c | c | c
    · subst c; unfold okP; rw [h s (by omega)]; rfl
    · subst c; unfold okP; rw [h (s + 1) (by omega)]; rfl
    · subst c; unfold okP; rw [h (s + 2) (by omega)]; rfl
    · subst c; unfold okP; rw [h (s + 3) (by omega), h (s + 2) (by omega)]; rfl
theorem le_post (ht : t ≠ 0) (s : Nat) : le7 t b s = 4 := by unfold le7; rw [if_neg ht]
theorem le_mat (ht : t = 0) (s : Nat) : le7 t b s = 6 ∨ le7 t b s = 7 := by unfold le7; rw [if_pos ht]; split <;> simp
/-- what is read depends on what was typed alone -/
theorem Wl.cong (hw : Wl t b p e) (hp : p ≤ n) (h : ∀ i, i < n → b i = b' i) : Wl t b' p e ∧ (∀ i, i ≤ e → sn t b' i = sn t b i) ∧ (∀ i, i < e → le7 t b' (sn t b i) = le7 t b (sn t b i)) ∧ (p = sn t b e + le7 t b (sn t b e) ↔ p = sn t b e + le7 t b' (sn t b e)) := by
  obtain ⟨h1, ⟨h2, h3⟩, h4, h5, h6⟩ := hw
  have hs : ∀ i, i ≤ e → sn t b' i = sn t b i := fun i hi => (sn_cong h i (by have := sn_le (t := t) (b := b) hi; omega)).symm
  have hl : ∀ i, i < e → le7 t b' (sn t b i) = le7 t b (sn t b i) := by
    intro i hi
    by_cases ht : t = 0
    · have e1 : sn t b (i + 1) = sn t b i + le7 t b (sn t b i) + 1 := rfl
      have e2 := sn_le (t := t) (b := b) (show i + 1 ≤ e by omega)
      have e3 := le_mat (b := b) ht (sn t b i)
      exact (le_cong h (by omega)).symm
    · rw [le_post ht, le_post ht]
  have hl2 : sn t b e + 6 ≤ p → le7 t b' (sn t b e) = le7 t b (sn t b e) := fun hh => (le_cong h (by omega)).symm
  have hle : p ≤ sn t b e + le7 t b' (sn t b e) := by
    by_cases ht : t = 0
    · rcases Nat.lt_or_ge p (sn t b e + 6) with c | c
      · have := le_mat (b := b') ht (sn t b e); omega
      · rw [hl2 c]; exact h3
    · rw [le_post ht] at h3 ⊢; exact h3
  refine ⟨⟨fun i hi => ?_, ?_, ?_, h5, ?_⟩, hs, hl, ?_⟩
  · rw [hs i (by omega), hl i hi]
    have e1 : sn t b (i + 1) = sn t b i + le7 t b (sn t b i) + 1 := rfl
    have e2 := sn_le (t := t) (b := b) (show i + 1 ≤ e by omega)
    have e3 := le_pos t b (sn t b i)
    refine ⟨fun j hj => ?_, ?_⟩
    · rw [← ok_cong h (by omega) (by omega) (fun z => by rw [le_post z] at hj; exact hj)]
      exact (h1 i hi).1 j hj
    · rw [← h _ (by omega)]; exact (h1 i hi).2
  · rw [hs e (Nat.le_refl _)]; exact ⟨h2, hle⟩
  · rw [hs e (Nat.le_refl _)]
    intro j hj
    have e3 := le_pos t b (sn t b e)
    rw [← ok_cong h (by omega) (by omega) (fun z => by rw [le_post z] at h3; omega)]
    exact h4 j hj
  · rw [hs e (Nat.le_refl _)]; exact h6
  · by_cases ht : t = 0
    · rcases Nat.lt_or_ge p (sn t b e + 6) with c | c
      · have := le_mat (b := b) ht (sn t b e)
        have := le_mat (b := b') ht (sn t b e)
        omega
      · rw [hl2 c]
    · rw [le_post ht, le_post ht]
theorem Bd.cong (hb : Bd t b p e) (hw : Wl t b p e) (hp : p < n) (h : ∀ i, i < n → b i = b' i) : Bd t b' p e := by
  obtain ⟨w1, w2, w3, w4⟩ := hw.cong (Nat.le_of_lt hp) h
  have hs := w2 e (Nat.le_refl _)
  unfold Bd
  rw [hs]
  rcases hb with ⟨c1, c2⟩ | ⟨c1, c2⟩
  · exact Or.inl ⟨w4.mp c1, by rw [← h p hp]; exact c2⟩
  · refine Or.inr ⟨?_, ?_⟩
    · have := w1.2.1.2
      rw [hs] at this
      rcases Nat.lt_or_ge p (sn t b e + le7 t b' (sn t b e)) with c | c
      · exact c
      · exact absurd (w4.mpr (by omega)) (by omega)
    · rcases c2 with c2 | c2
      · exact Or.inl c2
      · have e3 := le_pos t b (sn t b e)
        have e4 := hw.2.1.1
        exact Or.inr (by rw [← ok_cong h (by omega) (by omega) (fun z => by rw [le_post z] at c1; omega)]; exact c2)
/-! the parts of an entry -/
def wI (x : Nat) : Nat := if x = 97 then 0 else if x = 101 then 1 else if x = 121 then 2 else if x = 110 then 3 else 4
def qM (b : Nat → Nat) (w i : Nat) : Nat := match w with
  | 0 => b (sn 0 b i) - 48
  | 1 => b (sn 0 b i + 1) - 48
  | 2 => 10 * (b (sn 0 b i + 2) - 48) + (b (sn 0 b i + 3) - 48)
  | 3 => if b (sn 0 b i + 4) = 121 then 1 else 0
  | 4 => wI (b (sn 0 b i + 5))
  | _ => if 2 ≤ wI (b (sn 0 b i + 5)) then b (sn 0 b i + 6) - 48 else 0
def qP (b : Nat → Nat) (w i : Nat) : Nat := match w with
  | 0 => b (sn 1 b i + 2) - 48
  | 1 => b (sn 1 b i + 3) - 48
  | _ => 10 * (b (sn 1 b i) - 48) + (b (sn 1 b i + 1) - 48)
theorem wI_le (x : Nat) : wI x ≤ 4 := by unfold wI; repeat' split <;> try decide
theorem le_wI (s : Nat) : le7 0 b s = if wI (b (s + 5)) < 2 then 6 else 7 := by
  unfold le7 wI
  rw [if_pos rfl]
  by_cases c1 : b (s + 5) = 97
  · rw [c1]; rfl
  · by_cases c2 : b (s + 5) = 101
    · rw [c2]; rfl
    · rw [if_neg (by omega), if_neg c1, if_neg c2]
      by_cases c3 : b (s + 5) = 121
      · rw [if_pos c3]; rfl
      · by_cases c4 : b (s + 5) = 110
        · rw [if_neg c3, if_pos c4]; rfl
        · rw [if_neg c3, if_neg c4]; rfl
theorem fg_t {x m : Nat} (h : fg x m = true) : 48 ≤ x ∧ x ≤ 48 + m := of_decide_eq_true h
/-- a whole entry's parts are in their ranges -/
theorem qM_rng {i : Nat} (h : ∀ j, j < le7 0 b (sn 0 b i) → ok 0 b (sn 0 b i) j = true) : qM b 0 i ≤ 5 ∧ qM b 1 i ≤ 5 ∧ qM b 2 i ≤ 99 ∧ qM b 3 i ≤ 1 ∧ qM b 4 i ≤ 4 ∧ qM b 5 i ≤ 9 := by
  have hl := le_mat (b := b) (t := 0) rfl (sn 0 b i)
  have h0 := fg_t (h 0 (by omega))
  have h1 := h 1 (by omega)
  have h1 : (fg (b (sn 0 b i + 1)) 5 && !decide (b (sn 0 b i + 1) = b (sn 0 b i))) = true := h1
  rw [Bool.and_eq_true] at h1
  have h1 := fg_t h1.1
  have h2 := fg_t (h 2 (by omega))
  have h3 := fg_t (h 3 (by omega))
  refine ⟨by show b _ - 48 ≤ 5; omega, by show b _ - 48 ≤ 5; omega, by show 10 * (b _ - 48) + (b _ - 48) ≤ 99; omega, by show (if _ then 1 else 0) ≤ 1; split <;> decide, wI_le _, ?_⟩
  show (if 2 ≤ wI (b (sn 0 b i + 5)) then b (sn 0 b i + 6) - 48 else 0) ≤ 9
  by_cases c : 2 ≤ wI (b (sn 0 b i + 5))
  · rw [if_pos c]
    have := le_wI (b := b) (sn 0 b i)
    rw [if_neg (by omega)] at this
    have := fg_t (h 6 (by omega))
    omega
  · rw [if_neg c]; decide
theorem qP_rng {i : Nat} (h : ∀ j, j < 4 → ok 1 b (sn 1 b i) j = true) : qP b 0 i ≤ 5 ∧ qP b 1 i ≤ 5 ∧ qP b 2 i ≤ 99 ∧ qP b 0 i ≠ qP b 1 i := by
  have h0 := fg_t (h 0 (by omega))
  have h1 := fg_t (h 1 (by omega))
  have h2 := fg_t (h 2 (by omega))
  have h3 : (fg (b (sn 1 b i + 3)) 5 && !decide (b (sn 1 b i + 3) = b (sn 1 b i + 2))) = true := h 3 (by omega)
  rw [Bool.and_eq_true] at h3
  have h4 := fg_t h3.1
  have h5 : ¬ b (sn 1 b i + 3) = b (sn 1 b i + 2) := by simpa using h3.2
  refine ⟨by show b _ - 48 ≤ 5; omega, by show b _ - 48 ≤ 5; omega, by show 10 * (b _ - 48) + (b _ - 48) ≤ 99; omega, ?_⟩
  show b (sn 1 b i + 2) - 48 ≠ b (sn 1 b i + 3) - 48
  omega
end Reading
