/-! had, asked, open -/
section Days
variable {F N L O : Nat} {q : Nat → Nat → Nat} {M M' : Mem}
def owS (q : Nat → Nat → Nat) (N p : Nat) : Nat := mk (fun i => decide (q 0 i = p)) N
def dyS (q : Nat → Nat → Nat) (N d : Nat) : Nat := mk (fun i => decide (q 2 i ≤ d)) N
theorem owS_lt (q : Nat → Nat → Nat) (N p : Nat) : owS q N p < 2 ^ N := mk_lt _ _
theorem dyS_lt (q : Nat → Nat → Nat) (N d : Nat) : dyS q N d < 2 ^ N := mk_lt _ _
theorem e_with0 (h : PC M N q) (hF : 10 < F) {p : Nat} (hp : p < 1000) : sX1_with F 9 0 (nI p) M = some (nI (owS q N p)) := by
  rw [show (0 : Int32) = nI 0 from rfl, e_with F 9 N 0 (nI p) M h.1 h.2.1 (by decide) hF]
  congr 2
  unfold owS
  refine mk_cong (fun i hi => ?_)
  obtain ⟨⟨a0, -⟩, b0, -⟩ := h.2.2 i hi
  show decide (M 12 (6 * i) = nI p) = _
  rw [a0]
  exact decide_eq_decide.mpr (nI_eq (by omega) (by omega))
theorem e_byDay0 (h : PC M N q) (hF : 10 < F) {d : Nat} (hd : d < 1000) : sX1_byDay F 9 (nI d) M = some (nI (dyS q N d)) := by
  rw [e_byDay F 9 N (nI d) M h.1 h.2.1 hF]
  congr 2
  unfold dyS
  refine mk_cong (fun i hi => ?_)
  obtain ⟨⟨-, -, a2, -⟩, -, -, b2, -⟩ := h.2.2 i hi
  show decide (M 12 (6 * i + 2) ≤ nI d) = _
  rw [a2]
  exact decide_eq_decide.mpr (nI_leI (by omega) (by omega))
theorem mk_step {g : Nat → Bool} {i : Nat} (rec : Int32 → Int32 → Option (Int32 × Mem)) (hi : i < 31) : (if g i = true then rec (nI (mk g i) ||| (1 : Int32) <<< (nI i &&& 31)) (nI (i + 1)) else rec (nI (mk g i) ||| 0) (nI (i + 1))) = rec (nI (mk g (i + 1))) (nI (i + 1)) := by
  rw [mk]
  cases h : g i with
  | true => rw [if_pos rfl, if_pos rfl, z_shl1 hi, z_or]
  | false => rw [if_neg (by decide), if_neg (by decide), show (0 : Int32) = nI 0 from rfl, z_or, Nat.or_zero]
theorem e_hadOf (hth : sX8_there F M = some (nI (2 ^ N - 1), M')) (h : PM M' N q L O) (hF : 1024 < F) {a p d : Nat} (ha : a < 1024) (hp : p < 1000) (hd : d < 1000) : sX8_hadOf F (nI a) (nI p) (nI d) M = some (nI (a &&& owS q N p &&& dyS q N (d + L)), M') := by
  have h10 : N ≤ 10 := h.1.2.1
  have hl := and_lt_all a N
  have hpw := pow_le10 h10
  have e : a &&& owS q N p &&& dyS q N (d + L) = mk (fun i => a.testBit i && decide (q 0 i = p) && decide (q 2 i ≤ d + L)) N := by
    apply Nat.eq_of_testBit_eq
    intro i
    unfold owS dyS
    rw [Nat.testBit_and, Nat.testBit_and, mk_tb, mk_tb, mk_tb]
    by_cases hi : i < N <;> simp [hi]
  rw [e]
  unfold sX8_hadOf
  rw [hth]
  have hr2 : (nI (2 ^ N - 1), M').2 = M' := rfl
  have hr1 : (nI (2 ^ N - 1), M').1 = nI (2 ^ N - 1) := rfl
  generalize (nI (2 ^ N - 1), M') = r1 at hr1 hr2
  simp only [ob_some, nm_eq]
  rw [hr1, z_and]
  refine fx2_road (fun i => nI (mk (fun i => a.testBit i && decide (q 0 i = p) && decide (q 2 i ≤ d + L)) i)) (fun i => nI i) N _ (fun i hi rec => ?_) (fun rec => ?_) F 0 (Nat.zero_le _) (by omega)
  · obtain ⟨⟨a0, -, a2, -⟩, b0, -, b2, -⟩ := h.1.2.2 i hi
    unfold sX8_hadOf_L14
    rw [hr2, h.1.1, if_neg (nI_ge hi (by omega)), e_isIn F (by omega) (by omega)]
    simp only [ob_some, nm_eq]
    rw [z_mulL, z_addR, z_addR, z_ib (by omega) (by decide), z_ib (by omega) (by decide), z_ix (by omega), z_ix (by omega), a0, a2, h.2.1.1]
    refine Eq.trans ?_ (mk_step (g := fun i => a.testBit i && decide (q 0 i = p) && decide (q 2 i ≤ d + L)) rec (by omega))
    have et : (a &&& (2 ^ N - 1)).testBit i = a.testBit i := by rw [Nat.testBit_and, tb_all]; simp [hi]
    rw [et]
    cases hb : a.testBit i with
    | false => rw [if_neg (by decide), if_neg (by simp)]
    | true =>
      rw [if_pos rfl]
      by_cases c1 : q 0 i = p
      · rw [if_neg (not_not_intro (by rw [c1]))]
        by_cases c2 : q 2 i ≤ d + L
        · rw [if_neg (by rw [z_subcmp (by omega) (by omega) (by have := h.2.1.2.2; omega)]; omega), if_pos (by simp [c1, c2])]
        · rw [if_pos (by rw [z_subcmp (by omega) (by omega) (by have := h.2.1.2.2; omega)]; omega), if_neg (by simp [c2])]
      · rw [if_pos (show ¬ nI (q 0 i) = nI p from fun z => c1 ((nI_eq (by omega) (by omega)).mp z)), if_neg (by simp [c1])]
  · unfold sX8_hadOf_L14
    rw [hr2, h.1.1, if_pos (nI_le (Nat.le_refl _) (by omega))]
theorem e_askedOf (hth : sX8_there F M = some (nI (2 ^ N - 1), M')) (h : PM M' N q L O) (hF : 1024 < F) {a p d : Nat} (ha : a < 1024) (hp : p < 1000) (hd : d < 1000) : sX8_askedOf F (nI a) (nI p) (nI d) M = some (nI (a &&& owS q N p &&& dyS q N d), M') := by
  have h10 : N ≤ 10 := h.1.2.1
  have hl := and_lt_all a N
  have hpw := pow_le10 h10
  have e : a &&& owS q N p &&& dyS q N d = mk (fun i => a.testBit i && decide (q 0 i = p) && decide (q 2 i ≤ d)) N := by
    apply Nat.eq_of_testBit_eq
    intro i
    unfold owS dyS
    rw [Nat.testBit_and, Nat.testBit_and, mk_tb, mk_tb, mk_tb]
    by_cases hi : i < N <;> simp [hi]
  rw [e]
  unfold sX8_askedOf
  rw [hth]
  have hr2 : (nI (2 ^ N - 1), M').2 = M' := rfl
  have hr1 : (nI (2 ^ N - 1), M').1 = nI (2 ^ N - 1) := rfl
  generalize (nI (2 ^ N - 1), M') = r1 at hr1 hr2
  simp only [ob_some, nm_eq]
  rw [hr1, z_and]
  refine fx2_road (fun i => nI (mk (fun i => a.testBit i && decide (q 0 i = p) && decide (q 2 i ≤ d)) i)) (fun i => nI i) N _ (fun i hi rec => ?_) (fun rec => ?_) F 0 (Nat.zero_le _) (by omega)
  · obtain ⟨⟨a0, -, a2, -⟩, b0, -, b2, -⟩ := h.1.2.2 i hi
    unfold sX8_askedOf_L14
    rw [hr2, h.1.1, if_neg (nI_ge hi (by omega)), e_isIn F (by omega) (by omega)]
    simp only [ob_some, nm_eq]
    rw [z_mulL, z_addR, z_addR, z_ib (by omega) (by decide), z_ib (by omega) (by decide), z_ix (by omega), z_ix (by omega), a0, a2]
    refine Eq.trans ?_ (mk_step (g := fun i => a.testBit i && decide (q 0 i = p) && decide (q 2 i ≤ d)) rec (by omega))
    have et : (a &&& (2 ^ N - 1)).testBit i = a.testBit i := by rw [Nat.testBit_and, tb_all]; simp [hi]
    rw [et]
    cases hb : a.testBit i with
    | false => rw [if_neg (by decide), if_neg (by simp)]
    | true =>
      rw [if_pos rfl]
      by_cases c1 : q 0 i = p
      · rw [if_neg (not_not_intro (by rw [c1]))]
        by_cases c2 : q 2 i ≤ d
        · rw [if_neg (by rw [z_lt (by omega) (by omega)]; omega), if_pos (by simp [c1, c2])]
        · rw [if_pos (by rw [z_lt (by omega) (by omega)]; omega), if_neg (by simp [c2])]
      · rw [if_pos (show ¬ nI (q 0 i) = nI p from fun z => c1 ((nI_eq (by omega) (by omega)).mp z)), if_neg (by simp [c1])]
  · unfold sX8_askedOf_L14
    rw [hr2, h.1.1, if_pos (nI_le (Nat.le_refl _) (by omega))]
theorem e_openOf (hth : sX8_there F M = some (nI (2 ^ N - 1), M')) (h : PM M' N q L O) (hF : 1024 < F) {a d : Nat} (ha : a < 1024) (hd : d < 1000) : sX8_openOf F (nI a) (nI d) M = some (nI (a &&& dyS q N (d + L) ^^^ (a &&& dyS q N (d + L) &&& dyS q N d)), M') := by
  have h10 : N ≤ 10 := h.1.2.1
  have hl := and_lt_all a N
  have hpw := pow_le10 h10
  have e : a &&& dyS q N (d + L) ^^^ (a &&& dyS q N (d + L) &&& dyS q N d) = mk (fun i => a.testBit i && decide (q 2 i ≤ d + L) && !decide (q 2 i ≤ d)) N := by
    apply Nat.eq_of_testBit_eq
    intro i
    unfold dyS
    rw [Nat.testBit_xor, Nat.testBit_and, Nat.testBit_and, Nat.testBit_and, mk_tb, mk_tb, mk_tb]
    by_cases hi : i < N
    · simp only [hi, decide_true, Bool.true_and]
      cases a.testBit i <;> cases decide (q 2 i ≤ d + L) <;> cases decide (q 2 i ≤ d) <;> rfl
    · simp [hi]
  rw [e]
  unfold sX8_openOf
  rw [hth]
  have hr2 : (nI (2 ^ N - 1), M').2 = M' := rfl
  have hr1 : (nI (2 ^ N - 1), M').1 = nI (2 ^ N - 1) := rfl
  generalize (nI (2 ^ N - 1), M') = r1 at hr1 hr2
  simp only [ob_some, nm_eq]
  rw [hr1, z_and]
  refine fx2_road (fun i => nI (mk (fun i => a.testBit i && decide (q 2 i ≤ d + L) && !decide (q 2 i ≤ d)) i)) (fun i => nI i) N _ (fun i hi rec => ?_) (fun rec => ?_) F 0 (Nat.zero_le _) (by omega)
  · obtain ⟨⟨-, -, a2, -⟩, -, -, b2, -⟩ := h.1.2.2 i hi
    unfold sX8_openOf_L13
    rw [hr2, h.1.1, if_neg (nI_ge hi (by omega)), e_isIn F (by omega) (by omega)]
    simp only [ob_some, nm_eq]
    rw [z_mulL, z_addR, z_addR, z_ib (by omega) (by decide), z_ib (by omega) (by decide), z_ix (by omega), a2, h.2.1.1]
    refine Eq.trans ?_ (mk_step (g := fun i => a.testBit i && decide (q 2 i ≤ d + L) && !decide (q 2 i ≤ d)) rec (by omega))
    have et : (a &&& (2 ^ N - 1)).testBit i = a.testBit i := by rw [Nat.testBit_and, tb_all]; simp [hi]
    rw [et]
    cases hb : a.testBit i with
    | false => rw [if_neg (by decide), if_neg (by simp)]
    | true =>
      rw [if_pos rfl]
      by_cases c1 : q 2 i ≤ d + L
      · rw [if_neg (by rw [z_subcmp (by omega) (by omega) (by have := h.2.1.2.2; omega)]; omega)]
        by_cases c2 : q 2 i ≤ d
        · rw [if_pos (by rw [z_le (by omega) (by omega)]; omega), if_neg (by simp [c2])]
        · rw [if_neg (by rw [z_le (by omega) (by omega)]; omega), if_pos (by simp [c1]; omega)]
      · rw [if_pos (by rw [z_subcmp (by omega) (by omega) (by have := h.2.1.2.2; omega)]; omega), if_neg (by simp [c1])]
  · unfold sX8_openOf_L13
    rw [hr2, h.1.1, if_pos (nI_le (Nat.le_refl _) (by omega))]
end Days
