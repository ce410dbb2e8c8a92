/-! the class's table of rows -/
def trn (q : Nat → Nat → Nat) (L N m : Nat) : Bool := tied q L N m && (decide (q 4 m = 4) || (decide (q 4 m = 2) && decide (q 3 (q 5 m) = 1)) || (decide (q 4 m = 3) && decide (q 3 (q 5 m) = 0)))
def bse (q : Nat → Nat → Nat) (m : Nat) : Bool := decide (q 4 m = 0) || decide (q 4 m = 4)
def Tn (q : Nat → Nat → Nat) (L N i j : Nat) : Nat := mk (fun m => trn q L N m && decide (q 5 m = j)) i
def Shd (q : Nat → Nat → Nat) (L N row : Nat) : Nat := mk (fun m => bse q m ^^ (trn q L N m && row.testBit (q 5 m))) N
def cn (q : Nat → Nat → Nat) (L N O r : Nat) : Nat := fb_ct (fun j => decide (Bk q L N j O = 0)) r
theorem wrt_sh {q : Nat → Nat → Nat} {L N row m : Nat} (h4 : q 4 m ≤ 4) (h3 : q 5 m < N → q 3 (q 5 m) ≤ 1) : wrt q L N row m = (bse q m ^^ (trn q L N m && row.testBit (q 5 m))) := by
  unfold wrt bse trn
  rcases (show q 4 m = 0 ∨ q 4 m = 1 ∨ q 4 m = 2 ∨ q 4 m = 3 ∨ q 4 m = 4 by omega) with e | e | e | e | e
  · have : tied q L N m = false := by unfold tied; simp; omega
    simp [e]
  · have : tied q L N m = false := by unfold tied; simp; omega
    simp [e]
  · cases ht : tied q L N m with
    | false => simp [e]
    | true =>
      cases row.testBit (q 5 m) <;> simp [e]
  · cases ht : tied q L N m with
    | false => simp [e]
    | true =>
      cases row.testBit (q 5 m) <;> simp [e]
  · cases ht : tied q L N m <;> cases row.testBit (q 5 m) <;> simp [e]
theorem Shd_lt (q : Nat → Nat → Nat) (L N row : Nat) : Shd q L N row < 2 ^ N := mk_lt _ _
theorem Tn_lt (q : Nat → Nat → Nat) (L N i j : Nat) : Tn q L N i j < 2 ^ i := mk_lt _ _
theorem Shd_add {q : Nat → Nat → Nat} {L N r m : Nat} (hr : r < 2 ^ m) : Shd q L N (2 ^ m + r) = Shd q L N r ^^^ Tn q L N N m := by
  apply Nat.eq_of_testBit_eq
  intro i
  unfold Shd Tn
  rw [Nat.testBit_xor, mk_tb, mk_tb, mk_tb]
  by_cases hi : i < N
  · by_cases he : q 5 i = m
    · rw [he, Nat.testBit_two_pow_add_eq, tb_lt hr (Nat.le_refl _)]
      simp [hi]
    · have : (2 ^ m + r).testBit (q 5 i) = r.testBit (q 5 i) := by
        rcases Nat.lt_or_ge (q 5 i) m with h | h
        · exact Nat.testBit_two_pow_add_gt h r
        · have h1 : (2 ^ m + r).testBit (q 5 i) = false := tb_lt (n := m + 1) (by rw [Nat.pow_succ]; omega) (by omega)
          rw [h1, tb_lt hr (by omega)]
      rw [this]
      simp [hi, he]
  · simp [hi]
theorem Shd_0 {q : Nat → Nat → Nat} {L N : Nat} : Shd q L N 0 = mk (fun m => bse q m) N := by
  unfold Shd
  exact mk_cong (fun i _ => by simp)
theorem Bk_sh {q : Nat → Nat → Nat} {L N row O : Nat} (h : row < 2 ^ N) (h4 : ∀ m, m < N → q 4 m ≤ 4 ∧ q 3 m ≤ 1) : ((Shd q L N row ^^^ row) &&& (2 ^ N - 1)) ^^^ (((Shd q L N row ^^^ row) &&& (2 ^ N - 1)) &&& O) = Bk q L N row O := by
  apply Nat.eq_of_testBit_eq
  intro i
  rw [Bk_tb h]
  unfold Shd
  simp only [Nat.testBit_xor, Nat.testBit_and, tb_all, mk_tb]
  by_cases hi : i < N
  · rw [wrt_sh (h4 i hi).1 (fun q5 => (h4 _ q5).2)]
    cases O.testBit i <;> cases row.testBit i <;> cases bse q i <;> cases trn q L N i <;> cases row.testBit (q 5 i) <;> simp [hi]
  · simp [hi]
/-- the class's parsed matters -/
def PC (M : Mem) (N : Nat) (q : Nat → Nat → Nat) : Prop := M 9 6 = nI N ∧ N ≤ 10 ∧ MVw (M 12) N q
def RowsOK (M : Mem) (N : Nat) (q : Nat → Nat → Nat) (L O : Nat) : Prop :=
  (M 17 5 = nI N ∧ N ≤ 10 ∧ M 17 6 = nI (2 ^ N - 1) ∧ M 17 7 = nI (cn q L N O (2 ^ N))) ∧ (∀ j, j < 2 ^ N → M 18 j = nI (Bk q L N j O)) ∧ (∀ j, j < 2 ^ N → Bk q L N j O = 0 → M 19 (cn q L N O j) = nI j) ∧ (∀ m, m < N → M 21 m = if tied q L N m = true then nI (q 5 m) else -1)
theorem e_isTurnedBy (F h o : Nat) (M : Mem) (hh : h ≤ 4) (ho : o ≤ 1) : sX3_isTurnedBy F (nI h) (nI o) M = some (decide (h = 4) || (decide (h = 2) && decide (o = 1)) || (decide (h = 3) && decide (o = 0))) := by
  have : ∀ a, a ≤ 4 → ∀ b, b ≤ 1 → (if nI a = 4 then some true else if ¬ nI a = 2 then (if ¬ nI a = 3 then some false else if ¬ nI b = 0 then some false else some true) else if nI b = 1 then some true else (if ¬ nI a = 3 then some false else if ¬ nI b = 0 then some false else some true)) = some (decide (a = 4) || (decide (a = 2) && decide (b = 1)) || (decide (a = 3) && decide (b = 0))) := by decide
  exact this h hh o ho
/-- the memory of the loop over ties, behind i matters -/
def tieM (q : Nat → Nat → Nat) (L N : Nat) (M : Mem) (i : Nat) : Mem := stC (stC M 21 (fun j => if j < i then (if tied q L N j = true then nI (q 5 j) else -1) else M 21 j)) 22 (fun j => if j < 10 then nI (Tn q L N i j) else M 22 j)
theorem tieM_k {q : Nat → Nat → Nat} {L N i k : Nat} {M : Mem} (h1 : k ≠ 21) (h2 : k ≠ 22) : tieM q L N M i k = M k := by
  unfold tieM; rw [stC_ne _ _ h2, stC_ne _ _ h1]
theorem PC.tie {q q' : Nat → Nat → Nat} {L N N' i : Nat} {M : Mem} (h : PC M N' q') : PC (tieM q L N M i) N' q' := by
  unfold PC at *
  rw [tieM_k (by decide) (by decide), tieM_k (by decide) (by decide)]
  exact h
theorem e_findTies_step {F N L i : Nat} {q : Nat → Nat → Nat} {M : Mem} (h : PC M N q) (h5 : M 17 5 = nI N) (hL : 1 ≤ L ∧ L ≤ 20) (hi : i < N) (rec : Int32 → Mem → Option Mem) : sX3_findTies_L10 F 9 (nI L) rec (nI i) (tieM q L N M i) = rec (nI (i + 1)) (tieM q L N M (i + 1)) := by
  have hT : PC (tieM q L N M i) N q := h.tie
  obtain ⟨h1, h2, h3⟩ := hT
  have h5' : tieM q L N M i 17 5 = nI N := by rw [tieM_k (by decide) (by decide)]; exact h5
  obtain ⟨⟨-, -, a2, -, a4, a5⟩, -, -, b2, -, b4, b5⟩ := h3 i hi
  unfold sX3_findTies_L10
  rw [h5', if_neg (nI_ge hi (by omega)), show (5 : Int32) = nI 5 from rfl, e_part F 9 N i 5 _ h1 h2 hi (by decide)]
  simp only [ob_some]
  rw [show (9 + 3 : Nat) = 12 from rfl, a5]
  -- the state behind the store of hangsOn
  have hst : ∀ v : Int32, v = (if tied q L N i = true then nI (q 5 i) else -1) → st2 (tieM q L N M i) 21 (ix (nI i)) v = stC (stC M 21 (fun j => if j < i + 1 then (if tied q L N j = true then nI (q 5 j) else -1) else M 21 j)) 22 (fun j => if j < 10 then nI (Tn q L N i j) else M 22 j) := by
    intro v hv
    funext a b
    rw [st2_at, z_ix (by omega)]
    unfold tieM
    by_cases ha : a = 22
    · subst ha; simp [stC]
    · by_cases ha' : a = 21
      · subst ha'
        by_cases hb : b = i
        · subst hb; simp [stC, hv]
        · by_cases hb2 : b < i
          · simp [stC, hb, hb2, Nat.lt_succ_of_lt hb2]
          · have : ¬ b < i + 1 := by omega
            simp [stC, hb, hb2, this]
      · simp [stC, ha, ha']
  have hno : trn q L N i = false → stC (stC M 21 (fun j => if j < i + 1 then (if tied q L N j = true then nI (q 5 j) else -1) else M 21 j)) 22 (fun j => if j < 10 then nI (Tn q L N i j) else M 22 j) = tieM q L N M (i + 1) := by
    intro ht
    unfold tieM
    congr 1
    funext j
    have : Tn q L N (i + 1) j = Tn q L N i j := by unfold Tn; rw [mk]; simp [ht]
    rw [this]
  by_cases c : 2 ≤ q 4 i
  · rw [if_pos c]
    by_cases cN : q 5 i < N
    · obtain ⟨⟨-, -, y2, y3, -⟩, -, -, z2, z3, -⟩ := h3 (q 5 i) cN
      simp only [nm_eq]
      rw [if_neg (show ¬ nI (q 5 i) < 0 from nI_pos (by omega)), if_neg (show ¬ nI N ≤ nI (q 5 i) from nI_ge cN (by omega))]
      rw [if_neg (show ¬ (1 : Int32) = 0 by decide), show (2 : Int32) = nI 2 from rfl, e_part F 9 N (q 5 i) 2 _ h1 h2 cN (by decide), e_part F 9 N i 2 _ h1 h2 hi (by decide)]
      simp only [ob_some]
      rw [show (9 + 3 : Nat) = 12 from rfl, y2, a2]
      by_cases ck : q 2 (q 5 i) ≤ q 2 i + L
      · have ht : tied q L N i = true := by unfold tied; simp; omega
        rw [if_neg (by rw [z_subcmp (by omega) (by omega) (by omega)]; omega)]
        rw [if_neg (show ¬ (1 : Int32) = 0 by decide), z_ib (by omega) (by decide), if_neg (show ¬ (1 : Int32) = 0 by decide)]
        rw [hst (nI (q 5 i)) (by rw [if_pos ht])]
        generalize hX : stC (stC M 21 (fun j => if j < i + 1 then (if tied q L N j = true then nI (q 5 j) else -1) else M 21 j)) 22 (fun j => if j < 10 then nI (Tn q L N i j) else M 22 j) = X
        have hXk : ∀ k, k ≠ 21 → k ≠ 22 → X k = M k := fun k p1 p2 => by rw [← hX, stC_ne _ _ p2, stC_ne _ _ p1]
        have x1 : X 9 6 = nI N := by rw [hXk 9 (by decide) (by decide)]; exact h.1
        rw [show (4 : Int32) = nI 4 from rfl, show (3 : Int32) = nI 3 from rfl, e_part F 9 N i 4 _ x1 h2 hi (by decide), e_part F 9 N (q 5 i) 3 _ x1 h2 cN (by decide)]
        simp only [ob_some]
        rw [show (9 + 3 : Nat) = 12 from rfl, hXk 12 (by decide) (by decide)]
        obtain ⟨⟨-, -, -, -, w4, -⟩, -⟩ := h.2.2 i hi
        obtain ⟨⟨-, -, -, w3, -⟩, -⟩ := h.2.2 (q 5 i) cN
        rw [w4, w3, e_isTurnedBy F _ _ _ b4 z3]
        simp only [ob_some]
        by_cases ct : trn q L N i = true
        · have ct' := ct
          unfold trn at ct'
          rw [ht] at ct'
          rw [if_pos (by simpa using ct'), z_ib (by omega) (by decide), z_ib (by omega) (by decide), z_ix (by omega), z_shl1 (by omega), z_addR]
          congr 1
          have hX22 : X 22 (q 5 i) = nI (Tn q L N i (q 5 i)) := by rw [← hX, stC_same]; simp; omega
          rw [hX22, z_or]
          funext a b
          rw [st2_at, ← hX]
          unfold tieM
          by_cases ha : a = 22
          · subst ha
            rw [stC_same, stC_same]
            by_cases hb : b = q 5 i
            · subst hb
              have : Tn q L N (i + 1) (q 5 i) = Tn q L N i (q 5 i) ||| 2 ^ i := by unfold Tn; rw [mk]; simp [ct]
              rw [if_pos ⟨rfl, rfl⟩, this, if_pos (by omega)]
            · have : Tn q L N (i + 1) b = Tn q L N i b := by unfold Tn; rw [mk]; simp; intro _ e; exact absurd e.symm hb
              rw [if_neg (fun z => hb z.2), this]
          · rw [if_neg (fun z => ha z.1)]
            simp [stC, ha]
        · have ct0 : trn q L N i = false := by simpa using ct
          have ct' := ct0
          unfold trn at ct'
          rw [ht] at ct'
          rw [if_neg (by simpa using ct'), ← hX, hno ct0, z_addR]
      · have ht : tied q L N i = false := by unfold tied; simp; omega
        rw [if_pos (by rw [z_subcmp (by omega) (by omega) (by omega)]; omega)]
        simp only [if_true]
        rw [z_ib (by omega) (by decide)]
        rw [hst (-1) (by rw [ht]; rfl), hno (by unfold trn; rw [ht]; rfl), z_addR]
    · have ht : tied q L N i = false := by unfold tied; simp; omega
      simp only [nm_eq]
      rw [if_neg (show ¬ nI (q 5 i) < 0 from nI_pos (by omega)), if_pos (show nI N ≤ nI (q 5 i) from nI_le (by omega) (by omega))]
      simp only [if_true]
      rw [z_ib (by omega) (by decide)]
      rw [hst (-1) (by rw [ht]; rfl), hno (by unfold trn; rw [ht]; rfl), z_addR]
  · have ht : tied q L N i = false := by unfold tied; simp; omega
    rw [if_neg c]
    simp only [nm_eq]
    rw [if_pos (show (-1 : Int32) < 0 by decide)]
    simp only [if_true]
    rw [z_ib (by omega) (by decide)]
    rw [hst (-1) (by rw [ht]; rfl), hno (by unfold trn; rw [ht]; rfl), z_addR]
theorem e_findTies {F N L : Nat} {q : Nat → Nat → Nat} {M : Mem} (h : PC M N q) (h5 : M 17 5 = nI N) (hL : 1 ≤ L ∧ L ≤ 20) (hF : 1024 < F) : sX3_findTies F 9 (nI L) M = some (tieM q L N M N) := by
  obtain ⟨g, hg, hg1, hg2⟩ := e_fill F 22 10 0 M rfl (by decide) hF
  unfold sX3_findTies
  rw [hg]
  simp only [ob_some]
  have e0 : stC M 22 g = tieM q L N M 0 := by
    funext a b
    unfold tieM stC
    by_cases ha : a = 22
    · subst ha
      simp only [if_true]
      by_cases hb : b < 10
      · rw [if_pos hb, hg1 b hb]; rfl
      · rw [if_neg hb, hg2 b (by omega)]
    · rw [if_neg ha, if_neg ha]
      by_cases ha' : a = 21
      · subst ha'; simp
      · rw [if_neg ha']
  rw [e0]
  refine fx2_road (fun i => nI i) (fun i => tieM q L N M i) N _ (fun i hi rec => e_findTies_step h h5 hL hi rec) (fun rec => ?_) F 0 (Nat.zero_le _) (by have := h.2.1; omega)
  unfold sX3_findTies_L10
  have h5' : tieM q L N M N 17 5 = nI N := by rw [tieM_k (by decide) (by decide)]; exact h5
  rw [h5', if_pos (nI_le (Nat.le_refl _) (by have := h.2.1; omega))]
