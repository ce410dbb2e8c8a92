/-! matters: what is written, what should be, what is broken; the reference's own reading of it -/
def MVw (P : Nat → Int32) (N : Nat) (q : Nat → Nat → Nat) : Prop := ∀ m, m < N → (P (6 * m) = nI (q 0 m) ∧ P (6 * m + 1) = nI (q 1 m) ∧ P (6 * m + 2) = nI (q 2 m) ∧ P (6 * m + 3) = nI (q 3 m) ∧ P (6 * m + 4) = nI (q 4 m) ∧ P (6 * m + 5) = if 2 ≤ q 4 m then nI (q 5 m) else -1) ∧ (q 0 m ≤ 5 ∧ q 1 m ≤ 5 ∧ q 2 m ≤ 99 ∧ q 3 m ≤ 1 ∧ q 4 m ≤ 4 ∧ q 5 m ≤ 9)
def tied (q : Nat → Nat → Nat) (L N m : Nat) : Bool := decide (2 ≤ q 4 m ∧ q 5 m < N ∧ q 2 (q 5 m) ≤ q 2 m + L)
def wrt (q : Nat → Nat → Nat) (L N row m : Nat) : Bool :=
  if q 4 m < 2 then decide (q 4 m = 0) else if q 4 m = 4 then !(tied q L N m && row.testBit (q 5 m)) else (tied q L N m && row.testBit (q 5 m)) && decide (q 3 (q 5 m) = if q 4 m = 2 then 1 else 0)
def nxt (q : Nat → Nat → Nat) (L N row free : Nat) : Nat := mk (fun m => if free.testBit m then row.testBit m else wrt q L N row m) N
def Bk (q : Nat → Nat → Nat) (L N row free : Nat) : Nat := row ^^^ nxt q L N row free
/-- the reference's memory behind a reading: N matters q, the lag, who is let off -/
def PM (M : Mem) (N : Nat) (q : Nat → Nat → Nat) (L O : Nat) : Prop := (M 37 2 = nI N ∧ N ≤ 10 ∧ MVw (M 40) N q) ∧ (M 37 6 = nI L ∧ 1 ≤ L ∧ L ≤ 20) ∧ M 37 9 = nI O ∧ O < 1024
theorem z_subcmp {a b c : Nat} (ha : a < 1000000) (hb : b < 1000000) (hc : c < 1000000) : (nI a < nI b - nI c) = (a + c < b) := by
  apply propext
  rw [Int32.lt_iff_toInt_lt, pk_sub_toInt (by omega) (by omega), nI_toInt (by omega)]
  omega
theorem e_isKnown {F N L O : Nat} {q : Nat → Nat → Nat} {M : Mem} (h : PM M N q L O) {a b : Nat} (ha : a < N) (hb : b < N) : sX8_isKnown F (nI a) (nI b) M = some (decide (q 2 a ≤ q 2 b + L)) := by
  obtain ⟨⟨h1, h2, h3⟩, ⟨h4, h5, h6⟩, h7, h8⟩ := h
  obtain ⟨⟨-, -, a2, -⟩, -, -, a3, -⟩ := h3 a ha
  obtain ⟨⟨-, -, b2, -⟩, -, -, b3, -⟩ := h3 b hb
  unfold sX8_isKnown
  simp (disch := omega) only [nm_eq, ob_some, z_lt, z_le, z_eq, z_lL, z_lR, z_leL, z_leR, z_eL, z_eR, z_add, z_addL, z_addR, z_mul, z_mulL, z_mulR, z_ix, z_cl, z_ixL, z_ib, z_ibL]
  rw [a2, b2, h4]
  by_cases c : q 2 a ≤ q 2 b + L
  · rw [if_neg (by rw [z_subcmp (by omega) (by omega) (by omega)]; omega)]; simp [c]
  · rw [if_pos (by rw [z_subcmp (by omega) (by omega) (by omega)]; omega)]; simp [c]
theorem e_isWritten {F N L O : Nat} {q : Nat → Nat → Nat} {M : Mem} (h : PM M N q L O) {m row : Nat} (hm : m < N) (hr : row < 1024) : sX8_isWritten F (nI m) (nI row) M = some (wrt q L N row m) := by
  have hP := h
  obtain ⟨⟨h1, h2, h3⟩, ⟨h4, h5, h6⟩, h7, h8⟩ := h
  obtain ⟨⟨-, -, -, -, a4, a5⟩, -, -, -, -, b4, b5⟩ := h3 m hm
  unfold sX8_isWritten
  rw [z_mulL, z_addR, z_addR, z_ib (by omega) (by decide), nm_eq, z_ib (by omega) (by decide), nm_eq, z_ix (by omega), z_ix (by omega), a4, a5]
  by_cases c : 2 ≤ q 4 m
  · rw [if_pos c, h1]
    simp (maxSteps := 1000000) (disch := omega) only [nm_eq, ob_some, z_lt, z_le, z_eq, z_lL, z_lR, z_leL, z_leR, z_eL, z_eR, z_add, z_addL, z_addR, z_mul, z_mulL, z_mulR, z_ix, z_cl, z_ixL, z_ib, z_ibL]
    rw [if_pos c, e_isIn F (by omega) (by omega)]
    simp only [ob_some]
    have key : ∀ (cm : Bool), (if ¬ q 4 m = 4 then (if (bi cm) = 0 then some false else (if ¬ q 4 m = 2 then (if ¬ M 40 (6 * q 5 m + 3) = 0 then some false else some true) else (if ¬ M 40 (6 * q 5 m + 3) = 1 then some false else some true))) else if ¬ (bi cm) = 0 then some false else some true) = (if ¬ q 4 m = 4 then (if cm = false then some false else (if ¬ q 4 m = 2 then (if ¬ M 40 (6 * q 5 m + 3) = 0 then some false else some true) else (if ¬ M 40 (6 * q 5 m + 3) = 1 then some false else some true))) else some (!cm)) := by
      intro cm
      cases cm <;> simp [bi]
    have fin : ∀ (cm : Bool), cm = (tied q L N m && row.testBit (q 5 m)) → (if ¬ q 4 m = 4 then (if cm = false then some false else (if ¬ q 4 m = 2 then (if ¬ M 40 (6 * q 5 m + 3) = 0 then some false else some true) else (if ¬ M 40 (6 * q 5 m + 3) = 1 then some false else some true))) else some (!cm)) = some (wrt q L N row m) := by
      intro cm hcm
      have hw : wrt q L N row m = if q 4 m = 4 then !(tied q L N m && row.testBit (q 5 m)) else (tied q L N m && row.testBit (q 5 m)) && decide (q 3 (q 5 m) = if q 4 m = 2 then 1 else 0) := by
        unfold wrt
        rw [if_neg (by omega)]
      rw [hw, ← hcm]
      by_cases c4 : q 4 m = 4
      · simp [c4]
      · simp only [c4, if_false, not_false_eq_true, if_true]
        cases hc : cm with
        | false => simp
        | true =>
          have ht : tied q L N m = true := by
            rw [hc] at hcm
            have := hcm.symm
            simp only [Bool.and_eq_true] at this
            exact this.1
          unfold tied at ht
          have ht := of_decide_eq_true ht
          obtain ⟨⟨-, -, -, y3, -⟩, -, -, -, y4, -⟩ := h3 (q 5 m) ht.2.1
          rw [y3]
          by_cases c2 : q 4 m = 2
          · simp only [c2, not_true_eq_false, if_false, if_true]
            have e1 : (nI (q 3 (q 5 m)) = 1) ↔ q 3 (q 5 m) = 1 := by rw [show (1 : Int32) = nI 1 from rfl]; exact nI_eq (by omega) (by decide)
            rw [if_neg (by decide)]
            by_cases e : q 3 (q 5 m) = 1
            · rw [if_neg (not_not_intro (e1.mpr e))]; simp [e]
            · rw [if_pos (fun z => e (e1.mp z))]; simp [e]
          · simp only [c2, not_false_eq_true, if_true, if_false]
            have e1 : (nI (q 3 (q 5 m)) = 0) ↔ q 3 (q 5 m) = 0 := by rw [show (0 : Int32) = nI 0 from rfl]; exact nI_eq (by omega) (by decide)
            rw [if_neg (by decide)]
            by_cases e : q 3 (q 5 m) = 0
            · rw [if_neg (not_not_intro (e1.mpr e))]; simp [e]
            · rw [if_pos (fun z => e (e1.mp z))]; simp [e]
    by_cases cN : N ≤ q 5 m
    · rw [if_pos cN]
      refine (key false).trans (fin false ?_)
      unfold tied
      simp; omega
    · rw [if_neg cN]
      cases hb : row.testBit (q 5 m) with
      | false =>
        rw [if_neg (by decide)]
        refine (key false).trans (fin false ?_)
        rw [hb]; simp
      | true =>
        rw [if_pos rfl, e_isKnown hP (by omega) hm]
        simp only [ob_some]
        by_cases ck : q 2 (q 5 m) ≤ q 2 m + L
        · rw [if_pos (by simp [ck])]
          refine (key true).trans (fin true ?_)
          rw [hb]; unfold tied
          simp; omega
        · rw [if_neg (by simp [ck])]
          refine (key false).trans (fin false ?_)
          rw [hb]; unfold tied
          simp; omega
  · have c' : ¬ (2 : Int32) ≤ nI (q 4 m) := by rw [show (2 : Int32) = nI 2 from rfl, z_le (by decide) (by omega)]; exact c
    rw [if_neg c']
    have hw : wrt q L N row m = decide (q 4 m = 0) := by
      unfold wrt
      rw [if_pos (by omega)]
    have e1 : (nI (q 4 m) = 0) ↔ q 4 m = 0 := by rw [show (0 : Int32) = nI 0 from rfl]; exact nI_eq (by omega) (by decide)
    rw [hw]
    by_cases e : q 4 m = 0
    · rw [if_neg (not_not_intro (e1.mpr e))]; simp [e]
    · rw [if_pos (fun z => e (e1.mp z))]; simp [e]
theorem nxt_lt (q : Nat → Nat → Nat) (L N row free : Nat) : nxt q L N row free < 2 ^ N := mk_lt _ _
theorem e_next {F N L O : Nat} {q : Nat → Nat → Nat} {M : Mem} (h : PM M N q L O) {row free : Nat} (hr : row < 1024) (hf : free < 1024) (hF : 10 < F) : sX8_next F (nI row) (nI free) M = some (nI (nxt q L N row free)) := by
  have hN : N ≤ 10 := h.1.2.1
  unfold sX8_next
  refine fx2_road (fun i => nI (mk (fun m => if free.testBit m then row.testBit m else wrt q L N row m) i)) (fun i => nI i) N _ (fun i hi rec => ?_) (fun rec => ?_) F 0 (Nat.zero_le _) (by omega)
  · unfold sX8_next_L5
    rw [h.1.1, if_neg (nI_ge hi (by omega)), e_isIn F (by omega) (by omega), e_isIn F (by omega) (by omega), e_isWritten h hi hr]
    simp (disch := omega) only [nm_eq, ob_some, z_lt, z_le, z_eq, z_lL, z_lR, z_leL, z_leR, z_eL, z_eR, z_add, z_addL, z_addR, z_mul, z_mulL, z_mulR, z_ix, z_cl, z_ixL, z_ib, z_ibL]
    rw [z_shl1 (by omega)]
    have fin : ∀ b : Bool, b = (if free.testBit i then row.testBit i else wrt q L N row i) → (if bi b = 0 then rec (nI (mk (fun m => if free.testBit m then row.testBit m else wrt q L N row m) i) ||| 0) (nI (i + 1)) else rec (nI (mk (fun m => if free.testBit m then row.testBit m else wrt q L N row m) i) ||| nI (2 ^ i)) (nI (i + 1))) = rec (nI (mk (fun m => if free.testBit m then row.testBit m else wrt q L N row m) (i + 1))) (nI (i + 1)) := by
      intro b hb
      rw [mk]
      cases b with
      | false =>
        rw [if_pos (show bi false = 0 from rfl), if_neg (by rw [← hb]; decide), show (0 : Int32) = nI 0 from rfl, z_or]
        simp
      | true =>
        rw [if_neg (by decide), if_pos hb.symm, z_or]
    cases hfi : free.testBit i with
    | true => rw [if_pos rfl]; exact fin _ (by rw [hfi]; rfl)
    | false => rw [if_neg (by decide)]; exact fin _ (by rw [hfi]; rfl)
  · unfold sX8_next_L5
    rw [h.1.1, if_pos (nI_le (Nat.le_refl _) (by omega))]
    rfl
theorem e_brokenBy {F N L O : Nat} {q : Nat → Nat → Nat} {M : Mem} (h : PM M N q L O) {row free : Nat} (hr : row < 1024) (hf : free < 1024) (hF : 10 < F) : sX8_brokenBy F (nI row) (nI free) M = some (nI (Bk q L N row free)) := by
  unfold sX8_brokenBy
  rw [e_next h hr hf hF]
  simp only [ob_some, z_xor]
  rfl
theorem Bk_lt {q : Nat → Nat → Nat} {L N row free : Nat} (h : row < 2 ^ N) : Bk q L N row free < 2 ^ N := xor_lt h (nxt_lt _ _ _ _ _)
theorem Bk_tb {q : Nat → Nat → Nat} {L N row free : Nat} (h : row < 2 ^ N) (i : Nat) : (Bk q L N row free).testBit i = (decide (i < N) && (!free.testBit i && (row.testBit i ^^ wrt q L N row i))) := by
  unfold Bk nxt
  rw [Nat.testBit_xor, mk_tb]
  by_cases hi : i < N
  · cases free.testBit i <;> simp [hi]
  · rw [tb_lt h (by omega)]; simp [hi]
