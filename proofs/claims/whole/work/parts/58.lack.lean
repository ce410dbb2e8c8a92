/-! the set that lacks most, of like ones the fewest, the least -/
section Lack
variable {cb : Nat → Nat → Bool} {e : Nat → Bool} {R : Nat}
def exP (cb : Nat → Nat → Bool) (R : Nat) (S : Nat → Bool) : Int := (ct S : Int) - (ct (nbB cb R S) : Int)
def exI (cb : Nat → Nat → Bool) (R S : Nat) : Int := exP cb R (fun r => S.testBit r)
def lkF (cb : Nat → Nat → Bool) (R S t : Nat) : Nat := if exI cb R t < exI cb R S ∨ (exI cb R S = exI cb R t ∧ pc S < pc t) then S else t
def lk (cb : Nat → Nat → Bool) (R : Nat) : Nat → Nat
  | 0 => 0
  | s + 1 => lkF cb R s (lk cb R s)
theorem lk_s (s : Nat) : lk cb R (s + 1) = lkF cb R s (lk cb R s) := rfl
theorem lk_1 : lk cb R 1 = 0 := by
  rw [lk_s]
  show lkF cb R 0 0 = 0
  unfold lkF
  split <;> rfl
theorem lk_lt : ∀ s, 0 < s → lk cb R s < s
  | 0 => fun h => by omega
  | s + 1 => fun _ => by
    rw [lk_s]
    unfold lkF
    split
    · omega
    · rcases Nat.eq_zero_or_pos s with h | h
      · subst h; show 0 < 1; omega
      · have := lk_lt s h; omega
theorem lk_max : ∀ s S, S < s → exI cb R S ≤ exI cb R (lk cb R s)
  | 0 => fun S h => by omega
  | s + 1 => fun S h => by
    rw [lk_s]
    unfold lkF
    have ih := lk_max s
    by_cases c : exI cb R (lk cb R s) < exI cb R s ∨ (exI cb R s = exI cb R (lk cb R s) ∧ pc s < pc (lk cb R s))
    · rw [if_pos c]
      by_cases hs : S = s
      · rw [hs]; exact Int.le_refl _
      · have := ih S (by omega)
        omega
    · rw [if_neg c]
      by_cases hs : S = s
      · rw [hs]
        omega
      · exact ih S (by omega)
/-- sets of unlike persons: what they lack is added -/
theorem ex_add (hdis : ∀ l r r', r < R → r' < R → cb l r = true → cb l r' = true → e r = e r') {S1 S2 : Nat → Bool} (h1 : ∀ r, S1 r = true → e r = false) (h2 : ∀ r, S2 r = true → e r = true) : exP cb R (fun r => S1 r || S2 r) = exP cb R S1 + exP cb R S2 := by
  unfold exP
  have a1 : ct (fun r => S1 r || S2 r) = ct S1 + ct S2 := fb_ct_or (fun k _ hk => by
    have b1 := h1 k hk.1
    have b2 := h2 k hk.2
    rw [b1] at b2
    exact absurd b2 (by decide))
  have a2 : ct (nbB cb R (fun r => S1 r || S2 r)) = ct (fun l => nbB cb R S1 l || nbB cb R S2 l) := ct_cong (fun l _ => by
    apply Bool.eq_iff_iff.mpr
    rw [Bool.or_eq_true, nb_t, nb_t, nb_t]
    constructor
    · rintro ⟨r, b1, b2, b3⟩
      simp only [Bool.or_eq_true] at b2
      rcases b2 with b2 | b2
      · exact Or.inl ⟨r, b1, b2, b3⟩
      · exact Or.inr ⟨r, b1, b2, b3⟩
    · rintro (⟨r, b1, b2, b3⟩ | ⟨r, b1, b2, b3⟩)
      · exact ⟨r, b1, by simp [b2], b3⟩
      · exact ⟨r, b1, by simp [b2], b3⟩)
  have a3 : ct (fun l => nbB cb R S1 l || nbB cb R S2 l) = ct (nbB cb R S1) + ct (nbB cb R S2) := fb_ct_or (fun l _ hl => by
    obtain ⟨r, b1, b2, b3⟩ := nb_t.mp hl.1
    obtain ⟨r', c1, c2, c3⟩ := nb_t.mp hl.2
    have := hdis l r r' b1 c1 b3 c3
    rw [h1 r b2, h2 r' c2] at this
    exact absurd this (by decide))
  rw [a1, a2, a3]
  omega
/-- what the most that can be laid leave over is what the set that lacks most lacks -/
theorem owed_ex (hR : R ≤ 10) (hdis : ∀ l r r', r < R → r' < R → cb l r = true → cb l r' = true → e r = e r') : ∃ T, rc e cb R T = true ∧ (∀ T', rc e cb R T' = true → pc T' ≤ pc T) ∧ exI cb R (lk cb R (2 ^ R) &&& mk e R) = (ct (Eb e R) : Int) - (pc T : Int) := by
  obtain ⟨T, d, S0, r0, a0, c0, s0, t0⟩ := hall (e := e) (cb := cb) hR R (Nat.le_refl _) (fun _ => true)
  have hN : ct (fun l => nbB cb R S0 l && true) = ct (nbB cb R S0) := ct_cong (fun k _ => by simp)
  rw [hN] at t0
  have hg := lk_lt (cb := cb) (R := R) (2 ^ R) (pow_pos2 R)
  have hgx := lk_max (cb := cb) (R := R) (2 ^ R)
  generalize lk cb R (2 ^ R) = g at hg hgx ⊢
  refine ⟨T, r0, fun T' hT' => ?_, ?_⟩
  · have h1 := rc_up hR R (Nat.le_refl _) T' hT' S0 s0
    have h2 : ct (fun l => nbB cb R S0 l && T'.testBit l) ≤ ct (nbB cb R S0) := ct_sub (fun k _ hk => by
      simp only [Bool.and_eq_true] at hk
      exact hk.1)
    show ct (fun i => T'.testBit i) ≤ ct (fun i => T.testBit i)
    omega
  · have hsplit : (fun r => g.testBit r) = fun r => (g.testBit r && !e r) || (g.testBit r && e r) := funext fun r => by
      cases g.testBit r <;> cases e r <;> rfl
    have hme : (fun r => (g &&& mk e R).testBit r) = fun r => g.testBit r && e r := funext fun r => by
      rw [Nat.testBit_and, mk_tb]
      by_cases c : r < R
      · simp [c]
      · rw [tb_lt hg (by omega)]; simp
    have hU : (fun r => ((g ^^^ (g &&& mk e R)) ||| mk S0 R).testBit r) = fun r => (g.testBit r && !e r) || S0 r := funext fun r => by
      rw [Nat.testBit_or, Nat.testBit_xor, Nat.testBit_and, mk_tb, mk_tb]
      by_cases c : r < R
      · simp only [c, decide_true, Bool.true_and]
        cases g.testBit r <;> cases e r <;> cases S0 r <;> rfl
      · rw [tb_lt hg (by omega)]
        have : S0 r = false := by
          cases h : S0 r with
          | false => rfl
          | true => exact absurd (s0 r h).1 c
        simp [c, this]
    have hUl : (g ^^^ (g &&& mk e R)) ||| mk S0 R < 2 ^ R := or_lt (xsub_lt hg) (mk_lt _ _)
    have hx := hgx _ hUl
    unfold exI at hx ⊢
    rw [hU, hsplit] at hx
    rw [hme]
    have n1 : ∀ r, (g.testBit r && !e r) = true → e r = false := fun r hr => by
      cases he : e r with
      | false => rfl
      | true => rw [he] at hr; simp at hr
    have n2 : ∀ r, (g.testBit r && e r) = true → e r = true := fun r hr => by
      simp only [Bool.and_eq_true] at hr
      exact hr.2
    rw [ex_add hdis n1 (fun r hr => (s0 r hr).2), ex_add hdis n1 n2] at hx
    have h0 : exP cb R S0 = d := by unfold exP; omega
    have hup := rc_up hR R (Nat.le_refl _) T r0 (fun r => g.testBit r && e r) (fun r hr => by
      simp only [Bool.and_eq_true] at hr
      refine ⟨?_, hr.2⟩
      rcases Nat.lt_or_ge r R with q | q
      · exact q
      · have := tb_lt hg q
        rw [this] at hr
        exact absurd hr.1 (by decide))
    have h2 : ct (fun l => nbB cb R (fun r => g.testBit r && e r) l && T.testBit l) ≤ ct (nbB cb R (fun r => g.testBit r && e r)) := ct_sub (fun k _ hk => by
      simp only [Bool.and_eq_true] at hk
      exact hk.1)
    have h3 : (pc T : Int) = (ct (fun k => T.testBit k) : Int) := rfl
    rw [h3]
    have h4 : exP cb R (fun r => g.testBit r && e r) = (ct (fun r => g.testBit r && e r) : Int) - (ct (nbB cb R (fun r => g.testBit r && e r)) : Int) := rfl
    omega
end Lack
