/-- the memory with the first r rows of the table as they should be -/
def shM (q : Nat → Nat → Nat) (L N : Nat) (M : Mem) (r : Nat) : Mem := stC M 18 (fun j => if j < r then nI (Shd q L N j) else M 18 j)
theorem shM_k {q : Nat → Nat → Nat} {L N r k : Nat} {M : Mem} (h : k ≠ 18) : shM q L N M r k = M k := stC_ne _ _ h
theorem shM_18 {q : Nat → Nat → Nat} {L N r : Nat} {M : Mem} (j : Nat) : shM q L N M r 18 j = if j < r then nI (Shd q L N j) else M 18 j := by unfold shM; rw [stC_same]
theorem shM_step {q : Nat → Nat → Nat} {L N r : Nat} {M : Mem} : st2 (shM q L N M r) 18 r (nI (Shd q L N r)) = shM q L N M (r + 1) := by
  funext a b
  rw [st2_at]
  unfold shM stC
  by_cases ha : a = 18
  · subst ha
    by_cases hb : b = r
    · subst hb; simp
    · by_cases hb2 : b < r
      · simp [hb, hb2, Nat.lt_succ_of_lt hb2]
      · have : ¬ b < r + 1 := by omega
        simp [hb, hb2, this]
  · simp [ha]
theorem e_fillIn {F N L m : Nat} {q : Nat → Nat → Nat} {M : Mem} {β : Option Mem} (J : Mem → Option Mem) (hm : m < N) (hN : N ≤ 10) (h22 : M 22 m = nI (Tn q L N N m)) (hF : 1024 < F) (hJ : J (shM q L N M (2 ^ (m + 1))) = β) : fx2 F (sX3_fillShould_L16 F (nI m) (nI (2 ^ m)) J) (nI (2 ^ m)) (shM q L N M (2 ^ m)) = β := by
  have h1 : 2 ^ (m + 1) ≤ 1024 := pow_le10 (by omega)
  have h2 : 2 ^ (m + 1) = 2 ^ m + 2 ^ m := by rw [Nat.pow_succ]; omega
  have h3 := pow_pos2 m
  refine fx2_road (fun i => nI (2 ^ m + i)) (fun i => shM q L N M (2 ^ m + i)) (2 ^ m) _ (fun i hi rec => ?_) (fun rec => ?_) F 0 (Nat.zero_le _) (by omega)
  · unfold sX3_fillShould_L16
    rw [z_mulL, if_neg (nI_ge (by omega) (by omega)), show (1024 : Int32) = nI 1024 from rfl, if_neg (nI_ge (by omega) (by omega)), z_sub (by omega), z_ib (by omega) (by decide), z_ib (by omega) (by decide), z_ib (by omega) (by decide), z_ix (by omega), z_ix (by omega), z_ix (by omega), nm_eq, z_addR]
    rw [shM_18, if_pos (by omega), shM_k (by decide), h22, z_xor, show 2 ^ m + i - 2 ^ m = i by omega, ← Shd_add hi, shM_step]
    rfl
  · unfold sX3_fillShould_L16
    rw [z_mulL, if_pos (nI_le (by omega) (by omega)), show 2 ^ m + 2 ^ m = 2 ^ (m + 1) by omega]
    exact hJ
theorem e_fillShould {F N L : Nat} {q : Nat → Nat → Nat} {M : Mem} (hN : N ≤ 10) (h5 : M 17 5 = nI N) (h18 : M 18 0 = nI (Shd q L N 0)) (h22 : ∀ m, m < N → M 22 m = nI (Tn q L N N m)) (hF : 1024 < F) : sX3_fillShould F M = some (shM q L N M (2 ^ N)) := by
  unfold sX3_fillShould
  have e0 : M = shM q L N M (2 ^ 0) := by
    funext a b
    unfold shM stC
    by_cases ha : a = 18
    · subst ha
      by_cases hb : b < 1
      · have : b = 0 := by omega
        subst this
        simp [h18]
      · simp [hb]
    · simp [ha]
  have road := fx2_road (g := sX3_fillShould_L2 F) (fun i => nI i) (fun i => shM q L N M (2 ^ i)) N (some (shM q L N M (2 ^ N))) (fun i hi rec => by
    unfold sX3_fillShould_L2
    rw [shM_k (by decide), h5, if_neg (nI_ge hi (by omega)), z_shl1 (by omega)]
    simp only [nm_eq]
    exact e_fillIn _ hi hN (h22 i hi) hF (by rw [z_addR])) (fun rec => by
    unfold sX3_fillShould_L2
    rw [shM_k (by decide), h5, if_pos (nI_le (Nat.le_refl _) (by omega))]) F 0 (Nat.zero_le _) (by omega)
  rw [← e0] at road
  exact road
/-! the last loop: what is broken, the rows that fit -/
def fiT (q : Nat → Nat → Nat) (L N O : Nat) (f : Nat → Int32) : Nat → (Nat → Int32)
  | 0 => f
  | r + 1 => if Bk q L N r O = 0 then upd (fiT q L N O f r) (cn q L N O r) (nI r) else fiT q L N O f r
theorem cn_succ (q : Nat → Nat → Nat) (L N O r : Nat) : cn q L N O (r + 1) = cn q L N O r + if Bk q L N r O = 0 then 1 else 0 := by
  unfold cn
  rw [fb_ct_succ]
  by_cases h : Bk q L N r O = 0 <;> simp [h]
theorem cn_le (q : Nat → Nat → Nat) (L N O r : Nat) : cn q L N O r ≤ r := fb_ct_le _ _
theorem cn_mono (q : Nat → Nat → Nat) (L N O : Nat) {a b : Nat} (h : a ≤ b) : cn q L N O a ≤ cn q L N O b := fb_ct_mono _ h
theorem fiT_get {q : Nat → Nat → Nat} {L N O : Nat} {f : Nat → Int32} : ∀ (r j : Nat), j < r → Bk q L N j O = 0 → fiT q L N O f r (cn q L N O j) = nI j := by
  intro r
  induction r with
  | zero => intro j h; omega
  | succ r ih =>
    intro j hj hb
    unfold fiT
    by_cases e : j = r
    · subst e
      rw [if_pos hb]
      simp [upd]
    · have hjr : j < r := by omega
      have hlt : cn q L N O j < cn q L N O r := by
        have h1 := cn_succ q L N O j
        rw [if_pos hb] at h1
        have h2 := cn_mono q L N O (show j + 1 ≤ r by omega)
        omega
      by_cases hr : Bk q L N r O = 0
      · rw [if_pos hr]
        unfold upd
        rw [if_neg (by omega)]
        exact ih j hjr hb
      · rw [if_neg hr]; exact ih j hjr hb
/-- the memory behind r rows of the last loop -/
def lpM (q : Nat → Nat → Nat) (L N O : Nat) (M : Mem) (r : Nat) : Mem := stC (stC (stC M 18 (fun j => if j < r then nI (Bk q L N j O) else M 18 j)) 19 (fiT q L N O (M 19) r)) 17 (upd (M 17) 7 (nI (cn q L N O r)))
theorem lpM_18 {q : Nat → Nat → Nat} {L N O r : Nat} {M : Mem} (j : Nat) : lpM q L N O M r 18 j = if j < r then nI (Bk q L N j O) else M 18 j := by
  unfold lpM; rw [stC_ne _ _ (by decide), stC_ne _ _ (by decide), stC_same]
theorem lpM_19 {q : Nat → Nat → Nat} {L N O r : Nat} {M : Mem} : lpM q L N O M r 19 = fiT q L N O (M 19) r := by
  unfold lpM; rw [stC_ne _ _ (by decide), stC_same]
theorem lpM_17 {q : Nat → Nat → Nat} {L N O r : Nat} {M : Mem} (j : Nat) : lpM q L N O M r 17 j = if j = 7 then nI (cn q L N O r) else M 17 j := by
  unfold lpM; rw [stC_same]; rfl
theorem lpM_k {q : Nat → Nat → Nat} {L N O r k : Nat} {M : Mem} (h1 : k ≠ 17) (h2 : k ≠ 18) (h3 : k ≠ 19) : lpM q L N O M r k = M k := by
  unfold lpM; rw [stC_ne _ _ h1, stC_ne _ _ h3, stC_ne _ _ h2]
theorem e_last_step {F N L O i : Nat} {q : Nat → Nat → Nat} {M : Mem} (hN : N ≤ 10) (h6 : M 17 6 = nI (2 ^ N - 1)) (h4 : ∀ m, m < N → q 4 m ≤ 4 ∧ q 3 m ≤ 1) (h18 : ∀ j, j < 2 ^ N → M 18 j = nI (Shd q L N j)) (hi : i < 2 ^ N) (rec : Int32 → Mem → Option Mem) : sX3_workOut_L53 F (nI O) rec (nI i) (lpM q L N O M i) = rec (nI (i + 1)) (lpM q L N O M (i + 1)) := by
  have hp := pow_le10 hN
  have hc := cn_le q L N O i
  unfold sX3_workOut_L53
  have e6 : lpM q L N O M i 17 6 = nI (2 ^ N - 1) := by rw [lpM_17, if_neg (by decide)]; exact h6
  rw [e6, if_neg (by rw [z_lt (by omega) (by omega)]; omega)]
  rw [z_ib (by omega) (by decide), z_ib (by omega) (by decide), z_ix (by omega), lpM_18, if_neg (by omega), h18 i hi, z_xor, z_and, z_not, Bk_sh hi h4]
  simp only [nm_eq]
  rw [z_ib (by omega) (by decide)]
  have e18 : st2 (lpM q L N O M i) 18 i (nI (Bk q L N i O)) 18 i = nI (Bk q L N i O) := st2_same _ _ _ _
  have e17 : st2 (lpM q L N O M i) 18 i (nI (Bk q L N i O)) 17 7 = nI (cn q L N O i) := by rw [st2_k _ _ _ (by decide), lpM_17, if_pos rfl]
  have hB := Bk_lt (q := q) (L := L) (free := O) hi
  rw [e18, e17, show (1024 : Int32) = nI 1024 from rfl, show (0 : Int32) = nI 0 from rfl]
  have cc : (nI (Bk q L N i O) = nI 0) ↔ Bk q L N i O = 0 := nI_eq (by omega) (by decide)
  by_cases hb : Bk q L N i O = 0
  · rw [if_neg (not_not_intro (cc.mpr hb)), if_neg (nI_ge (by omega) (by omega)), z_ib (by omega) (by decide), z_ix (by omega), z_addR]
    congr 1
    funext a b
    by_cases ha : a = 17
    · subst ha
      by_cases hb7 : b = 7
      · subst hb7; simp [st2_at, lpM_17, cn_succ, hb, z_addR]
      · simp [st2_at, lpM_17, hb7]
    · by_cases ha9 : a = 19
      · subst ha9
        simp [st2_at, lpM_19, fiT, hb, upd]
      · by_cases ha8 : a = 18
        · subst ha8
          by_cases hbi : b = i
          · subst hbi; simp [st2_at, lpM_18]
          · by_cases hb2 : b < i
            · simp [st2_at, lpM_18, hbi, hb2, Nat.lt_succ_of_lt hb2]
            · have : ¬ b < i + 1 := by omega
              simp [st2_at, lpM_18, hbi, hb2, this]
        · simp [st2_at, ha, ha8, ha9, lpM_k]
  · rw [if_pos (fun z => hb (cc.mp z)), z_addR]
    congr 1
    funext a b
    by_cases ha : a = 17
    · subst ha
      simp [st2_at, lpM_17, cn_succ, hb]
    · by_cases ha9 : a = 19
      · subst ha9
        simp [st2_at, lpM_19, fiT, hb]
      · by_cases ha8 : a = 18
        · subst ha8
          by_cases hbi : b = i
          · subst hbi; simp [st2_at, lpM_18]
          · by_cases hb2 : b < i
            · simp [st2_at, lpM_18, hbi, hb2, Nat.lt_succ_of_lt hb2]
            · have : ¬ b < i + 1 := by omega
              simp [st2_at, lpM_18, hbi, hb2, this]
        · simp [st2_at, ha, ha8, ha9, lpM_k]
/-- cells that the working out of rows writes -/
def rowK (k : Nat) : Bool := k == 17 || k == 18 || k == 19 || k == 21 || k == 22
theorem e_workOut {F N L O : Nat} {q : Nat → Nat → Nat} {M : Mem} (h : PC M N q) (hL : 1 ≤ L ∧ L ≤ 20) (hO : O < 1024) (hF : 1024 < F) : ∃ M', sX3_workOut F 9 (nI L) (nI O) M = some M' ∧ RowsOK M' N q L O ∧ ∀ k, rowK k = false → M' k = M k := by
  have hN := h.2.1
  have hp := pow_le10 hN
  have hpos := pow_pos2 N
  have h4 : ∀ m, m < N → q 4 m ≤ 4 ∧ q 3 m ≤ 1 := fun m hm => by
    obtain ⟨-, -, -, -, a, b, -⟩ := h.2.2 m hm
    exact ⟨b, a⟩
  unfold sX3_workOut sX1_howMany
  rw [h.1]
  simp only [ob_some, nm_eq]
  have emin : imin (nI N) 10 = nI N := by
    unfold imin
    rw [if_neg (by rw [show (10 : Int32) = nI 10 from rfl, z_lt (by decide) (by omega)]; omega)]
  rw [emin]
  have e5 : st2 M 17 5 (nI N) 17 5 = nI N := st2_same _ _ _ _
  rw [e5, z_shl1 (by omega), z_subR (by omega)]
  generalize hM3 : st2 (st2 M 17 5 (nI N)) 17 6 (nI (2 ^ N - 1)) = M3
  have m5 : M3 17 5 = nI N := by rw [← hM3]; simp [st2_at]
  have m6 : M3 17 6 = nI (2 ^ N - 1) := by rw [← hM3]; simp [st2_at]
  have mk3 : ∀ k, k ≠ 17 → M3 k = M k := fun k hk => by rw [← hM3, st2_k _ _ _ hk, st2_k _ _ _ hk]
  have p3 : PC M3 N q := by
    unfold PC
    rw [mk3 9 (by decide), mk3 12 (by decide)]
    exact h
  rw [e_findTies p3 m5 hL hF]
  simp only [ob_some]
  have p4 : PC (tieM q L N M3 N) N q := p3.tie
  unfold sX3_writtenUnanswered
  rw [show (4 : Int32) = nI 4 from rfl, show (0 : Int32) = nI 0 from rfl, e_with F 9 N 4 (nI 0) _ p4.1 hN (by decide) (by omega), e_with F 9 N 4 (nI 4) _ p4.1 hN (by decide) (by omega)]
  simp only [ob_some, z_or]
  have ebase : mk (fun i => decide (tieM q L N M3 N (9 + 3) (6 * i + 4) = nI 0)) N ||| mk (fun i => decide (tieM q L N M3 N (9 + 3) (6 * i + 4) = nI 4)) N = Shd q L N 0 := by
    rw [Shd_0]
    apply Nat.eq_of_testBit_eq
    intro i
    rw [Nat.testBit_or, mk_tb, mk_tb, mk_tb]
    by_cases hi : i < N
    · obtain ⟨⟨-, -, -, -, a4, -⟩, -, -, -, -, b4, -⟩ := p4.2.2 i hi
      rw [show (9 + 3 : Nat) = 12 from rfl, a4]
      unfold bse
      have c0 : (nI (q 4 i) = nI 0) ↔ q 4 i = 0 := nI_eq (by omega) (by decide)
      have c4 : (nI (q 4 i) = nI 4) ↔ q 4 i = 4 := nI_eq (by omega) (by decide)
      simp [hi, c0, c4]
    · simp [hi]
  rw [ebase, z_ib (by decide) (by decide), z_ix (by decide)]
  generalize hM6 : st2 (tieM q L N M3 N) 18 0 (nI (Shd q L N 0)) = M6
  have k6 : ∀ k, k ≠ 18 → k ≠ 21 → k ≠ 22 → M6 k = M3 k := fun k a b c => by rw [← hM6, st2_k _ _ _ a, tieM_k b c]
  have s22 : ∀ m, m < N → M6 22 m = nI (Tn q L N N m) := fun m hm => by
    rw [← hM6, st2_k _ _ _ (by decide)]
    unfold tieM
    rw [stC_same, if_pos (by omega)]
  have s21 : ∀ m, m < N → M6 21 m = if tied q L N m = true then nI (q 5 m) else -1 := fun m hm => by
    rw [← hM6, st2_k _ _ _ (by decide)]
    unfold tieM
    rw [stC_ne _ _ (by decide), stC_same, if_pos hm]
  rw [e_fillShould hN (by rw [k6 17 (by decide) (by decide) (by decide)]; exact m5) (by rw [← hM6, st2_same]) s22 hF]
  simp only [ob_some]
  generalize hM8 : st2 (shM q L N M6 (2 ^ N)) 17 7 (nI 0) = M8
  have k8 : ∀ k, k ≠ 17 → k ≠ 18 → k ≠ 21 → k ≠ 22 → M8 k = M k := fun k a b c d => by rw [← hM8, st2_k _ _ _ a, shM_k b, k6 k b c d, mk3 k a]
  have t18 : ∀ j, j < 2 ^ N → M8 18 j = nI (Shd q L N j) := fun j hj => by rw [← hM8, st2_k _ _ _ (by decide), shM_18, if_pos hj]
  have t21 : M8 21 = M6 21 := by rw [← hM8, st2_k _ _ _ (by decide), shM_k (by decide)]
  have t17 : ∀ j, j ≠ 7 → M8 17 j = M3 17 j := fun j hj => by rw [← hM8, st2_i _ _ _ hj, shM_k (by decide), k6 17 (by decide) (by decide) (by decide)]
  have e0 : M8 = lpM q L N O M8 0 := by
    funext a b
    by_cases ha : a = 17
    · subst ha
      rw [lpM_17]
      by_cases hb : b = 7
      · subst hb; rw [if_pos rfl, ← hM8, st2_same]; rfl
      · rw [if_neg hb]
    · by_cases h18' : a = 18
      · subst h18'; rw [lpM_18, if_neg (by omega)]
      · by_cases h19 : a = 19
        · subst h19; rw [lpM_19]; rfl
        · rw [lpM_k ha h18' h19]
  have road := fx2_road (g := sX3_workOut_L53 F (nI O)) (fun i => nI i) (fun i => lpM q L N O M8 i) (2 ^ N) (some (lpM q L N O M8 (2 ^ N))) (fun i hi rec => e_last_step hN (by rw [t17 6 (by decide)]; exact m6) h4 t18 hi rec) (fun rec => by
    unfold sX3_workOut_L53
    have e6 : lpM q L N O M8 (2 ^ N) 17 6 = nI (2 ^ N - 1) := by rw [lpM_17, if_neg (by decide), t17 6 (by decide)]; exact m6
    rw [e6, if_pos (by rw [z_lt (by omega) (by omega)]; omega)]) F 0 (Nat.zero_le _) (by omega)
  rw [← e0] at road
  refine ⟨_, road, ⟨⟨?_, hN, ?_, ?_⟩, ?_, ?_, ?_⟩, fun k hk => ?_⟩
  · rw [lpM_17, if_neg (by decide), t17 5 (by decide)]; exact m5
  · rw [lpM_17, if_neg (by decide), t17 6 (by decide)]; exact m6
  · rw [lpM_17, if_pos rfl]
  · intro j hj; rw [lpM_18, if_pos hj]
  · intro j hj hb; rw [lpM_19]; exact fiT_get _ j hj hb
  · intro m hm; rw [lpM_k (by decide) (by decide) (by decide), t21]; exact s21 m hm
  · unfold rowK at hk
    simp only [Bool.or_eq_false_iff, beq_eq_false_iff_ne] at hk
    obtain ⟨⟨⟨⟨a, b⟩, c⟩, d⟩, e⟩ := hk
    rw [lpM_k a b c, k8 k a b d e]
