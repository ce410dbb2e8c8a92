/-! both sides have read the same -/
section Reads
variable {F : Nat} {M X : Mem}
def k3 (t : Nat) : Nat := if t = 0 then 0 else 1
/-- the texts: what was typed, on both sides; the class's readers behind it -/
def TI (M : Mem) (n : Nat → Nat) (b : Nat → Nat → Nat) : Prop := ∀ t, t < 3 → (M (2 + t) 1 = nI (n t) ∧ n t ≤ ln (5 + t)) ∧ TXm M t (n t) (b t) ∧ (∀ i, i < n t → M (5 + t) i = (nI (b t i)).toInt8.toInt32) ∧ EI (k3 t) (9 + t) M (n t) (b t)
/-- replies or letters, as they stand in the class -/
def PVc (P : Nat → Int32) (N : Nat) (q : Nat → Nat → Nat) : Prop := ∀ i, i < N → (P (6 * i) = nI (q 0 i) ∧ P (6 * i + 1) = nI (q 1 i) ∧ P (6 * i + 2) = nI (q 2 i)) ∧ (q 0 i ≤ 5 ∧ q 1 i ≤ 5 ∧ q 2 i ≤ 99 ∧ q 0 i ≠ q 1 i)
def PVm (P : Nat → Int32) (N : Nat) (q : Nat → Nat → Nat) : Prop := ∀ i, i < N → (P (3 * i) = nI (q 2 i) ∧ P (3 * i + 1) = nI (q 0 i) ∧ P (3 * i + 2) = nI (q 1 i)) ∧ (q 0 i ≤ 5 ∧ q 1 i ≤ 5 ∧ q 2 i ≤ 99 ∧ q 0 i ≠ q 1 i)
/-- what was read: numbers of entries, faults -/
def CR (M : Mem) (N : Nat → Nat) (f : Nat → Int32) (b : Nat → Nat → Nat) : Prop := (∀ t, t < 3 → M (9 + t) 6 = nI (N t) ∧ N t ≤ 10 ∧ ∀ F, sX1_faultPlace F (9 + t) M = some (f t)) ∧ MVw (M 12) (N 0) (qM (b 0)) ∧ PVc (M 13) (N 1) (qP (b 1)) ∧ PVc (M 14) (N 2) (qP (b 2))
def MR (X : Mem) (N : Nat → Nat) (b : Nat → Nat → Nat) : Prop := (X 37 2 = nI (N 0) ∧ X 41 0 = nI (N 1) ∧ X 41 1 = nI (N 2)) ∧ MVw (X 40) (N 0) (qM (b 0)) ∧ PVm (X 42) (N 1) (qP (b 1)) ∧ PVm (fun x => X 42 (33 + x)) (N 2) (qP (b 2))
def MSm (M X : Mem) : Prop := (∀ a, a ≠ 37 → a ≠ 40 → a ≠ 41 → a ≠ 42 → X a = M a) ∧ ∀ x, x ≠ 2 → X 37 x = M 37 x
theorem TI.out {n : Nat → Nat} {b : Nat → Nat → Nat} (h : TI M n b) : ∃ (N : Nat → Nat) (f : Nat → Int32), (∀ t, t < 3 → Out (k3 t) (b t) (n t) (f t) (N t)) ∧ CR M N f b := by
  have key : ∀ t, t < 3 → ∃ f N, Out (k3 t) (b t) (n t) f N ∧ (∀ F, sX1_faultPlace F (9 + t) M = some f) ∧ M (9 + t) 6 = nI N ∧ N ≤ 10 ∧ ∀ i, i < N → Fu (k3 t) (b t) i (M (9 + t + 3)) ∧ ∀ j, j < le7 (k3 t) (b t) (sn (k3 t) (b t) i) → ok (k3 t) (b t) (sn (k3 t) (b t) i) j = true := by
    intro t ht
    have hk : k3 t ≤ 1 ∧ fm (9 + t) = 60 + k3 t := by
      rcases (show t = 0 ∨ t = 1 ∨ t = 2 by omega) with c | c | c <;> subst c <;> decide
    obtain ⟨f, N, a1, a2, a3, a4, a5⟩ := EI.out (F := 0) hk.1 hk.2 (by have := (h t ht).2.1.2.1; omega) (h t ht).2.2.2
    exact ⟨f, N, a1, fun F => a2, a3, a4, a5⟩
  obtain ⟨f0, N0, a1, a2, a3, a4, a5⟩ := key 0 (by decide)
  obtain ⟨f1, N1, b1, b2, b3, b4, b5⟩ := key 1 (by decide)
  obtain ⟨f2, N2, c1, c2, c3, c4, c5⟩ := key 2 (by decide)
  refine ⟨fun t => if t = 0 then N0 else if t = 1 then N1 else N2, fun t => if t = 0 then f0 else if t = 1 then f1 else f2, fun t ht => ?_, fun t ht => ?_, fun i hi => ?_, fun i hi => ?_, fun i hi => ?_⟩
  · rcases (show t = 0 ∨ t = 1 ∨ t = 2 by omega) with c | c | c
    · subst c; exact a1
    · subst c; exact b1
    · subst c; exact c1
  · rcases (show t = 0 ∨ t = 1 ∨ t = 2 by omega) with c | c | c
    · subst c; exact ⟨a3, a4, a2⟩
    · subst c; exact ⟨b3, b4, b2⟩
    · subst c; exact ⟨c3, c4, c2⟩
  · obtain ⟨g1, g2⟩ := a5 i hi
    unfold Fu at g1
    rw [if_pos (show k3 0 = 0 from rfl)] at g1
    exact ⟨g1, qM_rng g2⟩
  · obtain ⟨g1, g2⟩ := b5 i hi
    unfold Fu at g1
    rw [if_neg (show ¬ k3 1 = 0 by decide)] at g1
    exact ⟨g1, qP_rng (fun j hj => g2 j (by rw [show k3 1 = 1 from rfl, le_post (by decide)]; exact hj))⟩
  · obtain ⟨g1, g2⟩ := c5 i hi
    unfold Fu at g1
    rw [if_neg (show ¬ k3 2 = 0 by decide)] at g1
    exact ⟨g1, qP_rng (fun j hj => g2 j (by rw [show k3 2 = 1 from rfl, le_post (by decide)]; exact hj))⟩
theorem e_faultOf {n N : Nat → Nat} {b : Nat → Nat → Nat} {f : Nat → Int32} (h : TI M n b) (hO : ∀ t, t < 3 → Out (k3 t) (b t) (n t) (f t) (N t)) (hC : CR M N f b) (hF : 20 < F) : ∃ X, (∀ t, t < 3 → sX8_faultOf F (nI t) M = some (f t, X)) ∧ sX8_reads F M = some X ∧ MR X N b ∧ MSm M X := by
  obtain ⟨X0, a1, a2, a3, a4, a5⟩ := e_readsMatters (hO 0 (by decide)) (h 0 (by decide)).2.1 hF
  have hT1 : TXm X0 1 (n 1) (b 1) := (h 1 (by decide)).2.1.fr (a4 38 (by decide) (by decide)) (a4 39 (by decide) (by decide))
  obtain ⟨X1, b1, b2, b3, b4, b5, b6⟩ := e_readsPosts (v := 0) (by decide) (hO 1 (by decide)) hT1 hF
  have hT2 : TXm X1 2 (n 2) (b 2) := ((h 2 (by decide)).2.1.fr (a4 38 (by decide) (by decide)) (a4 39 (by decide) (by decide))).fr (b4 38 (by decide) (by decide)) (b4 39 (by decide) (by decide))
  obtain ⟨X2, c1, c2, c3, c4, c5, c6⟩ := e_readsPosts (v := 1) (by decide) (hO 2 (by decide)) hT2 hF
  have all : ∀ a : Int32, sX8_faultOf F a M = if ¬ a = 0 then (if ¬ a = 1 then some (f 2, X2) else some (f 1, X2)) else some (f 0, X2) := by
    intro a
    unfold sX8_faultOf
    rw [a1]
    simp only [ob_some]
    rw [show (1 : Int32) = nI (0 + 1) from rfl, b1]
    simp only [ob_some]
    rw [show (2 : Int32) = nI (1 + 1) from rfl, c1]
    simp only [ob_some]
  refine ⟨X2, fun t ht => ?_, ?_, ⟨⟨?_, ?_, c2⟩, fun i hi => ?_, fun i hi => ?_, fun i hi => ?_⟩, fun a h1 h2 h3 h4 => ?_, fun x hx => ?_⟩
  · rw [all]
    rcases (show t = 0 ∨ t = 1 ∨ t = 2 by omega) with c | c | c <;> subst c <;> rfl
  · unfold sX8_reads
    rw [all, if_neg (by decide)]
    rfl
  · rw [c4 37 (by decide) (by decide), b4 37 (by decide) (by decide)]; exact a2
  · rw [c5 0 (by decide)]; exact b2
  · rw [c4 40 (by decide) (by decide), b4 40 (by decide) (by decide)]
    have := a3 i hi
    unfold Fu at this
    rw [if_pos rfl] at this
    exact ⟨this, (hC.2.1 i hi).2⟩
  · have := b3 i hi
    have hN := (hC.1 1 (by decide)).2.1
    refine ⟨⟨?_, ?_, ?_⟩, (hC.2.2.1 i hi).2⟩
    · rw [c6 _ (by omega)]; have := this.1; simpa using this
    · rw [c6 _ (by omega)]; have := this.2.1; simpa using this
    · rw [c6 _ (by omega)]; have := this.2.2; simpa using this
  · exact ⟨c3 i hi, (hC.2.2.2 i hi).2⟩
  · rw [c4 a h3 h4, b4 a h3 h4]; exact a4 a h1 h2
  · rw [c4 37 (by decide) (by decide), b4 37 (by decide) (by decide)]; exact a5 x hx
end Reads
