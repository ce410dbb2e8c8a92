/-! the model's reading -/
section MReads
variable {F n e t : Nat} {M : Mem} {b : Nat → Nat}
def TXm (M : Mem) (t n : Nat) (b : Nat → Nat) : Prop := M 38 t = nI n ∧ n ≤ 80 ∧ ∀ i, i < n → b i < 256 ∧ M 39 (80 * t + i) = nI (b i)
theorem m_byteAt (h : TXm M t n b) (ht : t < 3) {p : Nat} (hp : p < 1000) : sX8_byteAt F (nI t) (nI p) M = some (if p < n then nI (b p) else -1) := by
  obtain ⟨h1, h2, h3⟩ := h
  unfold sX8_byteAt
  rw [z_ib ht (by decide), z_ix (by omega), h1]
  by_cases c : p < n
  · rw [if_neg (nI_ge c (by omega)), z_mulL, z_add, z_ib (by omega) (by decide), z_ix (by omega), (h3 p c).2, if_pos c]
  · rw [if_pos (nI_le (by omega) (by omega)), if_neg c]
theorem m_figureAt (h : TXm M t n b) (ht : t < 3) {p m : Nat} (hp : p < 1000) (hm : m ≤ 9) : sX8_figureAt F (nI t) (nI p) (nI m) M = some (if p < n ∧ fg (b p) m = true then nI (b p - 48) else -1) := by
  unfold sX8_figureAt
  rw [m_byteAt h ht hp]
  simp only [ob_some, nm_eq, e_in]
  by_cases c : p < n
  · have hc := (h.2.2 p c).1
    rw [if_pos c, show (48 : Int32) = nI 48 from rfl]
    by_cases c1 : 48 ≤ b p
    · rw [z_sub c1]
      by_cases c2 : b p ≤ 48 + m
      · rw [if_pos (show decide (0 ≤ nI (b p - 48) ∧ nI (b p - 48) ≤ nI m) = true from decide_eq_true ⟨nI_le (Nat.zero_le _) (by omega), nI_le (by omega) (by omega)⟩), if_pos (show p < n ∧ fg (b p) m = true from ⟨c, decide_eq_true ⟨c1, c2⟩⟩)]
      · rw [if_neg (show ¬ decide (0 ≤ nI (b p - 48) ∧ nI (b p - 48) ≤ nI m) = true from fun z => by have := (of_decide_eq_true z).2; rw [z_le (by omega) (by omega)] at this; omega), if_neg (show ¬ (p < n ∧ fg (b p) m = true) from fun z => c2 (fg_t z.2).2)]
    · rw [if_neg (show ¬ decide (0 ≤ nI (b p) - nI 48 ∧ nI (b p) - nI 48 ≤ nI m) = true from fun z => by
        have z1 := (of_decide_eq_true z).1
        have z2 : nI (b p) - nI 48 < 0 := by rw [z_subneg (by omega) (by omega)]; omega
        rw [Int32.le_iff_toInt_le] at z1
        rw [Int32.lt_iff_toInt_lt] at z2
        omega), if_neg (show ¬ (p < n ∧ fg (b p) m = true) from fun z => c1 (fg_t z.2).1)]
  · rw [if_neg c, if_neg (show ¬ (p < n ∧ fg (b p) m = true) from fun z => c z.1), if_neg (show ¬ decide ((0 : Int32) ≤ -1 - 48 ∧ -1 - 48 ≤ nI m) = true from fun z => absurd (of_decide_eq_true z).1 (by decide))]
theorem m_whenAt (h : TXm M 0 n b) {p : Nat} (hp : p < 1000) : sX8_whenAt F (nI p) M = some (if p < n ∧ (b p = 97 ∨ b p = 101 ∨ b p = 121 ∨ b p = 110 ∨ b p = 115) then nI (wI (b p)) else -1) := by
  unfold sX8_whenAt
  rw [show (0 : Int32) = nI 0 from rfl, m_byteAt h (by decide) hp]
  simp only [ob_some]
  by_cases c : p < n
  · have hc := (h.2.2 p c).1
    rw [if_pos c]
    have key : ∀ x, x < 256 → (if ¬ nI x = 97 then (if ¬ nI x = 101 then (if ¬ nI x = 121 then (if ¬ nI x = 110 then (if ¬ nI x = 115 then some (-1 : Int32) else some 4) else some 3) else some 2) else some 1) else some 0) = some (if (x = 97 ∨ x = 101 ∨ x = 121 ∨ x = 110 ∨ x = 115) then nI (wI x) else -1) := by decide +kernel
    rw [show nI 0 = 0 from rfl, key _ hc]
    congr 1
    by_cases z : b p = 97 ∨ b p = 101 ∨ b p = 121 ∨ b p = 110 ∨ b p = 115
    · rw [if_pos z, if_pos ⟨c, z⟩]
    · rw [if_neg z, if_neg (fun y => z y.2)]
  · rw [if_neg c, if_neg (show ¬ (p < n ∧ _) from fun z => c z.1)]
    decide
/-- a matter with a fault at the d-th sign -/
theorem m_rmBad (h : TXm M 0 n b) {s d : Nat} (i : Int32) (hs : s < 500) (hd : d < le7 0 b s) (hg : ∀ j, j < d → s + j < n ∧ ok 0 b s j = true) (hb : n ≤ s + d ∨ ok 0 b s d = false) : sX8_readsMatter F i (nI s) M = some (-(nI s) - nI d - 1, M) := by
  have hl := le_wI (b := b) s
  have hl7 := le_pos 0 b s
  unfold sX8_readsMatter
  rw [show (0 : Int32) = nI 0 from rfl, show (5 : Int32) = nI 5 from rfl, show (9 : Int32) = nI 9 from rfl]
  simp only [z_addR]
  rw [m_figureAt h (by decide) (by omega) (by decide), m_figureAt h (by decide) (by omega) (by decide), m_figureAt h (by decide) (by omega) (by decide), m_figureAt h (by decide) (by omega) (by decide), m_byteAt h (by decide) (by omega)]
  simp only [ob_some]
  rw [show nI s + nI 5 = nI (s + 5) from nI_add _ _, m_whenAt h (by omega), m_figureAt h (by decide) (by omega) (by decide)]
  simp only [ob_some, nm_eq]
  have y0 : 0 < d → (if s < n ∧ fg (b s) 5 = true then nI (b s - 48) else (-1 : Int32)) = nI (b s - 48) := fun z => if_pos (hg 0 z)
  have z1 : 1 < d → fg (b (s + 1)) 5 = true ∧ ¬ b (s + 1) = b s := fun z => by
    have : (fg (b (s + 1)) 5 && !decide (b (s + 1) = b s)) = true := (hg 1 z).2
    rw [Bool.and_eq_true] at this
    exact ⟨this.1, by simpa using this.2⟩
  have y1 : 1 < d → (if s + 1 < n ∧ fg (b (s + 1)) 5 = true then nI (b (s + 1) - 48) else (-1 : Int32)) = nI (b (s + 1) - 48) := fun z => if_pos ⟨(hg 1 z).1, (z1 z).1⟩
  have y2 : 2 < d → (if s + 2 < n ∧ fg (b (s + 2)) 9 = true then nI (b (s + 2) - 48) else (-1 : Int32)) = nI (b (s + 2) - 48) := fun z => if_pos (hg 2 z)
  have y3 : 3 < d → (if s + 3 < n ∧ fg (b (s + 3)) 9 = true then nI (b (s + 3) - 48) else (-1 : Int32)) = nI (b (s + 3) - 48) := fun z => if_pos (hg 3 z)
  have bl : ∀ j, j < d → b (s + j) < 256 := fun j hj => (h.2.2 _ (hg j hj).1).1
  rcases (show d = 0 ∨ d = 1 ∨ d = 2 ∨ d = 3 ∨ d = 4 ∨ d = 5 ∨ d = 6 by omega) with c | c | c | c | c | c | c
  · subst c
    rw [if_neg (show ¬ (s < n ∧ fg (b s) 5 = true) from fun z => by
      rcases hb with y | y
      · omega
      · exact absurd z.2 (by rw [show fg (b s) 5 = false from y]; decide)), if_neg (not_not_intro rfl), if_neg (by decide)]
  · subst c
    have b0 : b s < 256 := bl 0 (by decide)
    rw [y0 (by decide), if_pos (m1_ne (by omega))]
    by_cases c1 : s + 1 < n ∧ fg (b (s + 1)) 5 = true
    · have c2 : b (s + 1) = b s := by
        rcases hb with y | y
        · omega
        · have : (fg (b (s + 1)) 5 && !decide (b (s + 1) = b s)) = false := y
          rw [c1.2] at this
          simpa using this
      rw [if_pos c1, c2, if_neg (m1_ne (by omega)), if_neg (not_not_intro rfl), if_neg (by decide)]
      rfl
    · rw [if_neg c1, if_pos rfl, if_neg (by decide)]
      rfl
  · subst c
    have b0 := bl 0 (by decide)
    have b1 := bl 1 (by decide)
    have f0 := fg_t (show fg (b s) 5 = true from (hg 0 (by decide)).2)
    have f1 := fg_t (z1 (by decide)).1
    have f2 := (z1 (by decide)).2
    rw [y0 (by decide), y1 (by decide), if_pos (m1_ne (by omega)), if_neg (m1_ne (by omega)), if_pos (show ¬ nI (b (s + 1) - 48) = nI (b s - 48) from fun z => by have := (nI_eq (by omega) (by omega)).mp z; omega)]
    rw [if_neg (show ¬ (s + 2 < n ∧ fg (b (s + 2)) 9 = true) from fun z => by
      rcases hb with y | y
      · omega
      · exact absurd z.2 (by rw [show fg (b (s + 2)) 9 = false from y]; decide)), if_neg (not_not_intro rfl), if_neg (by decide)]
    rfl
  · subst c
    have b0 := bl 0 (by decide)
    have b1 := bl 1 (by decide)
    have b2 := bl 2 (by decide)
    have f0 := fg_t (show fg (b s) 5 = true from (hg 0 (by decide)).2)
    have f1 := fg_t (z1 (by decide)).1
    have f2 := (z1 (by decide)).2
    rw [y0 (by decide), y1 (by decide), y2 (by decide), if_pos (m1_ne (by omega)), if_neg (m1_ne (by omega)), if_pos (show ¬ nI (b (s + 1) - 48) = nI (b s - 48) from fun z => by have := (nI_eq (by omega) (by omega)).mp z; omega), if_pos (m1_ne (by omega))]
    rw [if_neg (show ¬ (s + 3 < n ∧ fg (b (s + 3)) 9 = true) from fun z => by
      rcases hb with y | y
      · omega
      · exact absurd z.2 (by rw [show fg (b (s + 3)) 9 = false from y]; decide)), if_neg (not_not_intro rfl), if_neg (by decide)]
    rfl
  · subst c
    have b0 := bl 0 (by decide)
    have b1 := bl 1 (by decide)
    have b2 := bl 2 (by decide)
    have b3 := bl 3 (by decide)
    have f0 := fg_t (show fg (b s) 5 = true from (hg 0 (by decide)).2)
    have f1 := fg_t (z1 (by decide)).1
    have f2 := (z1 (by decide)).2
    rw [y0 (by decide), y1 (by decide), y2 (by decide), y3 (by decide), if_pos (m1_ne (by omega)), if_neg (m1_ne (by omega)), if_pos (show ¬ nI (b (s + 1) - 48) = nI (b s - 48) from fun z => by have := (nI_eq (by omega) (by omega)).mp z; omega), if_pos (m1_ne (by omega)), if_pos (m1_ne (by omega))]
    have hx : ∀ x : Nat, x = 110 ∨ x = 121 → ¬ (if s + 4 < n then nI (b (s + 4)) else (-1 : Int32)) = nI x := fun x hx z => by
      by_cases y : s + 4 < n
      · rw [if_pos y] at z
        have q1 := (h.2.2 _ y).1
        have q2 := (nI_eq (by omega) (by omega)).mp z
        rcases hb with y | y
        · omega
        · have : (decide (b (s + 4) = 110) || decide (b (s + 4) = 121)) = false := y
          rw [Bool.or_eq_false_iff, decide_eq_false_iff_not, decide_eq_false_iff_not] at this
          omega
      · rw [if_neg y] at z
        exact absurd z (m1_ne' (by omega))
    rw [if_neg (show ¬ (if s + 4 < n then nI (b (s + 4)) else (-1 : Int32)) = 121 from hx 121 (Or.inr rfl)), if_neg (show ¬ (if s + 4 < n then nI (b (s + 4)) else (-1 : Int32)) = 110 from hx 110 (Or.inl rfl)), if_neg (by decide)]
    rfl
  all_goals
    subst c
    have b0 := bl 0 (by decide)
    have b1 := bl 1 (by decide)
    have b2 := bl 2 (by decide)
    have b3 := bl 3 (by decide)
    have f0 := fg_t (show fg (b s) 5 = true from (hg 0 (by decide)).2)
    have f1 := fg_t (z1 (by decide)).1
    have f2 := (z1 (by decide)).2
    have f4 : (decide (b (s + 4) = 110) || decide (b (s + 4) = 121)) = true := (hg 4 (by decide)).2
    rw [Bool.or_eq_true, decide_eq_true_eq, decide_eq_true_eq] at f4
    rw [y0 (by decide), y1 (by decide), y2 (by decide), y3 (by decide), if_pos (m1_ne (by omega)), if_neg (m1_ne (by omega)), if_pos (show ¬ nI (b (s + 1) - 48) = nI (b s - 48) from fun z => by have := (nI_eq (by omega) (by omega)).mp z; omega), if_pos (m1_ne (by omega)), if_pos (m1_ne (by omega)), if_pos (hg 4 (by decide)).1]
    have two : ∀ (o : Option (Int32 × Mem)) (o' : Option (Int32 × Mem)), (if nI (b (s + 4)) = 121 then o else if nI (b (s + 4)) = 110 then o else o') = o := fun o o' => by
      rcases f4 with z | z
      · rw [z]; rfl
      · rw [z]; rfl
    rw [two]
  · rw [if_neg (show ¬ (s + 5 < n ∧ (b (s + 5) = 97 ∨ b (s + 5) = 101 ∨ b (s + 5) = 121 ∨ b (s + 5) = 110 ∨ b (s + 5) = 115)) from fun z => by
      rcases hb with y | y
      · omega
      · have : (decide (b (s + 5) = 97) || decide (b (s + 5) = 101) || decide (b (s + 5) = 121) || decide (b (s + 5) = 110) || decide (b (s + 5) = 115)) = false := y
        simp only [Bool.or_eq_false_iff, decide_eq_false_iff_not] at this
        omega), if_neg (not_not_intro rfl), if_neg (by decide)]
  · have f5 : (decide (b (s + 5) = 97) || decide (b (s + 5) = 101) || decide (b (s + 5) = 121) || decide (b (s + 5) = 110) || decide (b (s + 5) = 115)) = true := (hg 5 (by decide)).2
    simp only [Bool.or_eq_true, decide_eq_true_eq] at f5
    have w2 : ¬ wI (b (s + 5)) < 2 := fun z => by rw [if_pos z] at hl; omega
    have w4 := wI_le (b (s + 5))
    rw [if_pos (show s + 5 < n ∧ (b (s + 5) = 97 ∨ b (s + 5) = 101 ∨ b (s + 5) = 121 ∨ b (s + 5) = 110 ∨ b (s + 5) = 115) from ⟨(hg 5 (by decide)).1, by omega⟩), if_pos (wI_ne _), if_neg (show ¬ nI (wI (b (s + 5))) ≤ 1 by rw [show (1 : Int32) = nI 1 from rfl, z_le (by omega) (by omega)]; omega)]
    rw [if_neg (show ¬ (s + 6 < n ∧ fg (b (s + 6)) 9 = true) from fun z => by
      rcases hb with y | y
      · omega
      · exact absurd z.2 (by rw [show fg (b (s + 6)) 9 = false from y]; decide)), if_neg (not_not_intro rfl), if_neg (by decide)]
    rfl
end MReads
