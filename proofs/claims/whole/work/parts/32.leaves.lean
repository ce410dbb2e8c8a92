/-! leaves of the class, in numbers -/
theorem e_fill (F k n : Nat) (v : Int32) (M : Mem) (hk : ln k = n) (hn : n ≤ 1024) (hF : 1024 < F) : ∃ g, sJ7_fill_53178 F k v M = some (stC M k g) ∧ (∀ i, i < n → g i = v) ∧ ∀ i, n ≤ i → g i = M k i := by
  have hroad : sJ7_fill_53178 F k v M = some (stC M k (fun i => if i < n then v else M k i)) := by
    unfold sJ7_fill_53178
    rw [hk]
    show fx2 F (sJ7_fill_53178_L5 F k v (nI n)) 0 M = _
    have h0 : M = stC M k (fun j => if j < 0 then v else M k j) := by
      funext a b
      unfold stC
      by_cases h : a = k
      · subst h; simp
      · simp [h]
    have := fx2_road (g := sJ7_fill_53178_L5 F k v (nI n)) (fun i => nI i) (fun i => stC M k (fun j => if j < i then v else M k j)) n (some (stC M k (fun i => if i < n then v else M k i))) (fun i hi rec => by
      unfold sJ7_fill_53178_L5
      rw [hk]
      simp (disch := omega) only [nm_eq, ob_some, z_lt, z_le, z_eq, z_lL, z_lR, z_leL, z_leR, z_eL, z_eR, z_add, z_addL, z_addR, z_mul, z_mulL, z_mulR, z_ix, z_cl, z_ixL, z_ib, z_ibL]
      rw [if_neg (by omega)]
      congr 1
      funext a b
      rw [st2_at]
      unfold stC
      by_cases h : a = k
      · subst h
        by_cases h2 : b = i
        · subst h2; simp
        · by_cases h3 : b < i
          · simp [h2, h3, Nat.lt_succ_of_lt h3]
          · have : ¬ b < i + 1 := by omega
            simp [h2, h3, this]
      · simp [h]) (fun rec => by
      unfold sJ7_fill_53178_L5
      rw [if_pos (nI_le (Nat.le_refl _) (by omega))]) F 0 (Nat.zero_le _) (by omega)
    rw [← h0] at this
    exact this
  exact ⟨_, hroad, fun i hi => by simp [hi], fun i hi => by rw [if_neg (by omega)]⟩
theorem e_with (F k N w : Nat) (v : Int32) (M : Mem) (hN : M k 6 = nI N) (h10 : N ≤ 10) (hw : w < 6) (hF : 10 < F) : sX1_with F k (nI w) v M = some (nI (mk (fun i => decide (M (k + 3) (6 * i + w) = v)) N)) := by
  unfold sX1_with
  refine fx2_road (fun i => nI (mk (fun i => decide (M (k + 3) (6 * i + w) = v)) i)) (fun i => nI i) N _ (fun i hi rec => ?_) (fun rec => ?_) F 0 (Nat.zero_le _) (by omega)
  · unfold sX1_with_L5
    rw [hN]
    simp (disch := omega) only [nm_eq, ob_some, z_lt, z_le, z_eq, z_lL, z_lR, z_leL, z_leR, z_eL, z_eR, z_add, z_addL, z_addR, z_mul, z_mulL, z_mulR, z_ix, z_cl, z_ixL, z_ib, z_ibL]
    rw [if_neg (by omega), if_neg (by omega), if_neg (by omega), if_neg (by omega)]
    rw [show i * 6 + w = 6 * i + w by omega]
    by_cases h : M (k + 3) (6 * i + w) = v
    · rw [if_neg (not_not_intro h), z_shl1 (by omega), z_or]
      simp [mk, h]
    · rw [if_pos h]
      simp [mk, h]
  · unfold sX1_with_L5
    rw [hN, if_pos (nI_le (Nat.le_refl _) (by omega))]
theorem e_byDay (F k N : Nat) (v : Int32) (M : Mem) (hN : M k 6 = nI N) (h10 : N ≤ 10) (hF : 10 < F) : sX1_byDay F k v M = some (nI (mk (fun i => decide (M (k + 3) (6 * i + 2) ≤ v)) N)) := by
  unfold sX1_byDay
  refine fx2_road (fun i => nI (mk (fun i => decide (M (k + 3) (6 * i + 2) ≤ v)) i)) (fun i => nI i) N _ (fun i hi rec => ?_) (fun rec => ?_) F 0 (Nat.zero_le _) (by omega)
  · unfold sX1_byDay_L4
    rw [hN]
    simp (disch := omega) only [nm_eq, ob_some, z_lt, z_le, z_eq, z_lL, z_lR, z_leL, z_leR, z_eL, z_eR, z_add, z_addL, z_addR, z_mul, z_mulL, z_mulR, z_ix, z_cl, z_ixL, z_ib, z_ibL]
    rw [if_neg (by omega), if_neg (by omega)]
    rw [show i * 6 + 2 = 6 * i + 2 by omega]
    have e : v < M (k + 3) (6 * i + 2) ↔ ¬ M (k + 3) (6 * i + 2) ≤ v := by rw [Int32.le_iff_toInt_le, Int32.lt_iff_toInt_lt]; omega
    by_cases h : M (k + 3) (6 * i + 2) ≤ v
    · rw [if_neg (fun q => e.mp q h), z_shl1 (by omega), z_or]
      simp [mk, h]
    · rw [if_pos (e.mpr h)]
      simp [mk, h]
  · unfold sX1_byDay_L4
    rw [hN, if_pos (nI_le (Nat.le_refl _) (by omega))]
theorem e_part (F k N i w : Nat) (M : Mem) (hN : M k 6 = nI N) (h10 : N ≤ 10) (hi : i < N) (hw : w < 6) : sX1_part F k (nI i) (nI w) M = some (M (k + 3) (6 * i + w)) := by
  unfold sX1_part
  rw [hN]
  simp (disch := omega) only [nm_eq, ob_some, z_lt, z_le, z_eq, z_lL, z_lR, z_leL, z_leR, z_eL, z_eR, z_add, z_addL, z_addR, z_mul, z_mulL, z_mulR, z_ix, z_cl, z_ixL, z_ib, z_ibL]
  rw [if_neg (by omega), if_neg (by omega), if_neg (by omega), if_neg (by omega), if_neg (by omega)]
  rw [if_neg (by decide), show i * 6 + w = 6 * i + w by omega]
theorem e_ones (F : Nat) {a : Nat} (h : a < 1024) (M : Mem) (hF : 10 < F) : sX8_ones F (nI a) M = some (nI (pc a)) := by
  unfold sX8_ones
  refine fx2_road (fun i => nI (fb_ct (fun j => a.testBit j) i)) (fun i => nI i) 10 _ (fun i hi rec => ?_) (fun rec => ?_) F 0 (Nat.zero_le _) (by omega)
  · unfold sX8_ones_L4
    rw [if_neg (show ¬ (10 : Int32) ≤ nI i from by rw [show (10 : Int32) = nI 10 from rfl]; exact nI_ge hi (by decide)), z_bit (by omega) (by omega)]
    simp only [nm_eq, z_add, z_addR]
    congr 2
  · unfold sX8_ones_L4
    rw [if_pos (show (10 : Int32) ≤ nI 10 from by decide)]
    rfl
theorem e_isIn (F : Nat) {a k : Nat} (ha : a < 2147483648) (hk : k < 31) (M : Mem) : sX8_isIn F (nI a) (nI k) M = some (a.testBit k) := by
  unfold sX8_isIn
  rw [z_bit ha hk]
  cases h : a.testBit k <;> simp <;> decide
