section OnRows2
variable {F N L O : Nat} {q : Nat → Nat → Nat} {M M' : Mem}
def sAll (q : Nat → Nat → Nat) (L N O r : Nat) : Nat := ff (fp q L N O) (fun a r => a &&& r) (2 ^ N - 1) r
def sNo (q : Nat → Nat → Nat) (L N O r : Nat) : Nat := ff (fp q L N O) (fun a r => a ^^^ (a &&& r)) (2 ^ N - 1) r
theorem sAll_lt (r : Nat) : sAll q L N O r < 2 ^ N := by
  induction r with
  | zero => show 2 ^ N - 1 < 2 ^ N; have := pow_pos2 N; omega
  | succ r ih =>
    unfold sAll at *
    rw [ff]
    split
    · exact Nat.lt_of_le_of_lt Nat.and_le_left ih
    · exact ih
theorem xsub_lt {a b n : Nat} (h : a < 2 ^ n) : a ^^^ (a &&& b) < 2 ^ n := xor_lt h (Nat.lt_of_le_of_lt Nat.and_le_left h)
theorem sNo_lt (r : Nat) : sNo q L N O r < 2 ^ N := by
  induction r with
  | zero => show 2 ^ N - 1 < 2 ^ N; have := pow_pos2 N; omega
  | succ r ih =>
    unfold sNo at *
    rw [ff]
    split
    · exact xsub_lt ih
    · exact ih
theorem and_all {a n : Nat} (h : a < 2 ^ n) : a &&& (2 ^ n - 1) = a := by rw [Nat.and_two_pow_sub_one_eq_mod, Nat.mod_eq_of_lt h]
theorem e_inAll (h : RowsOK M N q L O) (hF : 1024 < F) : sX3_inAll F M = some (nI (sAll q L N O (2 ^ N))) := by
  have hp := pow_le10 h.1.2.1
  have hc := cn_le q L N O (2 ^ N)
  unfold sX3_inAll
  rw [nm_eq, h.1.2.2.1]
  have road := fx2_road (g := sX3_inAll_L7 F M) (fun i => nI (sAll q L N O (ps (fp q L N O) (2 ^ N) i))) (fun i => nI i) (cn q L N O (2 ^ N)) (some (nI (sAll q L N O (2 ^ N)))) (fun i hi rec => by
    unfold sX3_inAll_L7
    rw [h.1.2.2.2, if_neg (nI_ge hi (by omega)), z_ib (by omega) (by decide), z_ix (by omega), h.nth hi, z_and, nm_eq, z_addR]
    unfold sAll
    rw [ff_step (p := fp q L N O) hi]) (fun rec => by
    unfold sX3_inAll_L7
    rw [h.1.2.2.2, if_pos (nI_le (Nat.le_refl _) (by omega))]
    rw [cn_fp, ps_end (Nat.le_refl _)]) F 0 (Nat.zero_le _) (by omega)
  have e0 : sAll q L N O (ps (fp q L N O) (2 ^ N) 0) = 2 ^ N - 1 := ff_start
  rw [e0] at road
  exact road
theorem e_inNone (h : RowsOK M N q L O) (hF : 1024 < F) : sX3_inNone F M = some (nI (sNo q L N O (2 ^ N))) := by
  have hp := pow_le10 h.1.2.1
  have hc := cn_le q L N O (2 ^ N)
  unfold sX3_inNone
  rw [nm_eq, h.1.2.2.1]
  have road := fx2_road (g := sX3_inNone_L7 F M) (fun i => nI (sNo q L N O (ps (fp q L N O) (2 ^ N) i))) (fun i => nI i) (cn q L N O (2 ^ N)) (some (nI (sNo q L N O (2 ^ N)))) (fun i hi rec => by
    unfold sX3_inNone_L7
    rw [h.1.2.2.2, if_neg (nI_ge hi (by omega)), z_ib (by omega) (by decide), z_ix (by omega), h.nth hi, z_not, nm_eq, z_addR]
    unfold sNo
    rw [ff_step (p := fp q L N O) hi]) (fun rec => by
    unfold sX3_inNone_L7
    rw [h.1.2.2.2, if_pos (nI_le (Nat.le_refl _) (by omega))]
    rw [cn_fp, ps_end (Nat.le_refl _)]) F 0 (Nat.zero_le _) (by omega)
  have e0 : sNo q L N O (ps (fp q L N O) (2 ^ N) 0) = 2 ^ N - 1 := ff_start
  rw [e0] at road
  exact road
theorem e_sureOf1 (hth : sX8_there F M = some (nI (2 ^ N - 1), M')) (h : PM M' N q L O) (hF : 1024 < F) : sX8_sureOf F 1 M = some (nI (sAll q L N O (2 ^ N)), M') := by
  have hp := pow_le10 h.1.2.1
  have hpos := pow_pos2 N
  have e9 : M' 37 9 = nI O := h.2.2.1
  unfold sX8_sureOf
  rw [hth]
  simp only [ob_some]
  refine fx2_road (fun r => nI (sAll q L N O r)) (fun r => nI r) (2 ^ N) _ (fun r hr rec => ?_) (fun rec => ?_) F 0 (Nat.zero_le _) (by omega)
  · have hB := Bk_lt (q := q) (L := L) (free := O) hr
    have hs := sAll_lt (q := q) (L := L) (N := N) (O := O) r
    unfold sX8_sureOf_L10
    rw [if_neg (by rw [z_lt (by omega) (by omega)]; omega)]
    show (sX8_brokenBy F (nI r) (M' 37 9) M').bind _ = _
    rw [e9, e_brokenBy h (by omega) h.2.2.2 (by omega)]
    simp only [ob_some, nm_eq, z_addR, z_and]
    have cc : (nI (Bk q L N r O) = 0) ↔ Bk q L N r O = 0 := by rw [show (0 : Int32) = nI 0 from rfl]; exact nI_eq (by omega) (by decide)
    by_cases hb : Bk q L N r O = 0
    · rw [if_pos (cc.mpr hb), if_neg (by simp)]
      congr 2
      unfold sAll
      rw [ff, if_pos (fp_t.mpr hb)]
    · rw [if_neg (fun z => hb (cc.mp z)), and_all hs]
      congr 2
      unfold sAll
      rw [ff, if_neg (fun z => hb (fp_t.mp z))]
  · unfold sX8_sureOf_L10
    rw [if_pos (by rw [z_lt (by omega) (by omega)]; omega)]
theorem e_sureOf0 (hth : sX8_there F M = some (nI (2 ^ N - 1), M')) (h : PM M' N q L O) (hF : 1024 < F) : sX8_sureOf F 0 M = some (nI (sNo q L N O (2 ^ N)), M') := by
  have hp := pow_le10 h.1.2.1
  have hpos := pow_pos2 N
  have e9 : M' 37 9 = nI O := h.2.2.1
  unfold sX8_sureOf
  rw [hth]
  simp only [ob_some]
  refine fx2_road (fun r => nI (sNo q L N O r)) (fun r => nI r) (2 ^ N) _ (fun r hr rec => ?_) (fun rec => ?_) F 0 (Nat.zero_le _) (by omega)
  · have hB := Bk_lt (q := q) (L := L) (free := O) hr
    have hs := sNo_lt (q := q) (L := L) (N := N) (O := O) r
    unfold sX8_sureOf_L10
    rw [if_neg (by rw [z_lt (by omega) (by omega)]; omega)]
    show (sX8_brokenBy F (nI r) (M' 37 9) M').bind _ = _
    rw [e9, e_brokenBy h (by omega) h.2.2.2 (by omega)]
    simp only [ob_some, nm_eq, z_addR, z_and, z_not]
    have cc : (nI (Bk q L N r O) = 0) ↔ Bk q L N r O = 0 := by rw [show (0 : Int32) = nI 0 from rfl]; exact nI_eq (by omega) (by decide)
    by_cases hb : Bk q L N r O = 0
    · rw [if_pos (cc.mpr hb), if_pos (by decide)]
      congr 2
      unfold sNo
      rw [ff, if_pos (fp_t.mpr hb)]
    · rw [if_neg (fun z => hb (cc.mp z)), and_all hs]
      congr 2
      unfold sNo
      rw [ff, if_neg (fun z => hb (fp_t.mp z))]
  · unfold sX8_sureOf_L10
    rw [if_pos (by rw [z_lt (by omega) (by omega)]; omega)]
/-! broken -/
theorem and_lt_all (a N : Nat) : a &&& (2 ^ N - 1) < 2 ^ N := and_lt (by have := pow_pos2 N; omega)
theorem e_brokenBy7 (h : RowsOK M N q L O) {a : Nat} : sX3_brokenBy F (nI a) M = some (nI (Bk q L N (a &&& (2 ^ N - 1)) O)) := by
  have hp := pow_le10 h.1.2.1
  have hl := and_lt_all a N
  unfold sX3_brokenBy
  rw [h.1.2.2.1, z_and, z_ib (by omega) (by decide), z_ix (by omega), h.2.1 _ hl]
theorem e_brokenOf (hth : sX8_there F M = some (nI (2 ^ N - 1), M')) (h : PM M' N q L O) (hF : 1024 < F) {a : Nat} : sX8_brokenOf F (nI a) M = some (nI (Bk q L N (a &&& (2 ^ N - 1)) O), M') := by
  have hp := pow_le10 h.1.2.1
  have hl := and_lt_all a N
  have e9 : M' 37 9 = nI O := h.2.2.1
  unfold sX8_brokenOf
  rw [hth]
  simp only [ob_some, z_and]
  rw [e9, e_brokenBy h (by omega) h.2.2.2 (by omega)]
  rfl
/-! steps -/
def itr (q : Nat → Nat → Nat) (L N O a : Nat) : Nat → Nat
  | 0 => a
  | k + 1 => nxt q L N (itr q L N O a k) O
theorem itr_lt {a : Nat} (ha : a < 2 ^ N) : ∀ k, itr q L N O a k < 2 ^ N
  | 0 => ha
  | k + 1 => nxt_lt _ _ _ _ _
theorem Bk_nxt (row : Nat) : row ^^^ Bk q L N row O = nxt q L N row O := by
  unfold Bk
  rw [← Nat.xor_assoc, Nat.xor_self, Nat.zero_xor]
theorem e_behindSteps (h : RowsOK M N q L O) (hF : 1024 < F) {a k : Nat} (hk : k ≤ 99) : sX3_behindSteps F (nI a) (nI k) M = some (nI (itr q L N O (a &&& (2 ^ N - 1)) k)) := by
  have hp := pow_le10 h.1.2.1
  have hl := and_lt_all a N
  unfold sX3_behindSteps
  rw [h.1.2.2.1, z_and, nm_eq]
  refine fx2_road (fun i => nI (itr q L N O (a &&& (2 ^ N - 1)) i)) (fun i => nI i) k _ (fun i hi rec => ?_) (fun rec => ?_) F 0 (Nat.zero_le _) (by omega)
  · have hi2 := itr_lt (q := q) (L := L) (O := O) hl i
    unfold sX3_behindSteps_L10
    rw [if_neg (nI_ge hi (by omega)), z_ib (by omega) (by decide), z_ix (by omega), h.2.1 _ hi2, z_xor, Bk_nxt, nm_eq, z_addR]
    rfl
  · unfold sX3_behindSteps_L10
    rw [if_pos (nI_le (Nat.le_refl _) (by omega))]
theorem e_stepsOf (hth : sX8_there F M = some (nI (2 ^ N - 1), M')) (h : PM M' N q L O) (hF : 1024 < F) {a k : Nat} (hk : k ≤ 99) : sX8_stepsOf F (nI a) (nI k) M = some (nI (itr q L N O (a &&& (2 ^ N - 1)) k), M') := by
  have hp := pow_le10 h.1.2.1
  have hl := and_lt_all a N
  have e9 : M' 37 9 = nI O := h.2.2.1
  unfold sX8_stepsOf
  rw [hth]
  simp only [ob_some, z_and, nm_eq]
  refine fx2_road (fun i => nI (itr q L N O (a &&& (2 ^ N - 1)) i)) (fun i => nI i) k _ (fun i hi rec => ?_) (fun rec => ?_) F 0 (Nat.zero_le _) (by omega)
  · have hi2 := itr_lt (q := q) (L := L) (O := O) hl i
    unfold sX8_stepsOf_L10
    rw [if_neg (nI_ge hi (by omega))]
    show (sX8_next F _ (M' 37 9) M').bind _ = _
    rw [e9, e_next h (by omega) h.2.2.2 (by omega)]
    simp only [ob_some, z_addR]
    rfl
  · unfold sX8_stepsOf_L10
    rw [if_pos (nI_le (Nat.le_refl _) (by omega))]
end OnRows2
