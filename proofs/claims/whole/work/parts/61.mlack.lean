/-! the model's lack and unasked -/
section MLack
variable {F R K L G : Nat} {q1 q2 : Nat → Nat → Nat} {M M' : Mem} {cb : Nat → Nat → Bool}
/-- the model's replies and letters behind a reading -/
def PO (M : Mem) (R K : Nat) (q1 q2 : Nat → Nat → Nat) (L G : Nat) : Prop := (M 41 0 = nI R ∧ R ≤ 10 ∧ PVm (M 42) R q1) ∧ (M 41 1 = nI K ∧ K ≤ 10 ∧ PVm (fun x => M 42 (33 + x)) K q2) ∧ (M 37 6 = nI L ∧ 1 ≤ L ∧ L ≤ 20) ∧ (M 37 7 = nI G ∧ G ≤ 9)
theorem PO.fr {X : Mem} (h : PO M R K q1 q2 L G) (h1 : X 41 = M 41) (h2 : X 42 = M 42) (h3 : X 37 = M 37) : PO X R K q1 q2 L G := by
  unfold PO at *
  rw [h1, h2, h3]
  exact h
theorem e_canBe (h : PO M R K q1 q2 L G) {l r : Nat} (hl : l < K) (hr : r < R) : sX8_canBe F (nI l) (nI r) M = some (cB q1 q2 L G K l r) := by
  obtain ⟨⟨-, hR, hp⟩, ⟨-, hK, hq⟩, ⟨h6, hL1, hL2⟩, h7, hG⟩ := h
  obtain ⟨⟨a0, a1, a2⟩, b0, b1, b2, -⟩ := hp r hr
  obtain ⟨⟨c0, c1, c2⟩, d0, d1, d2, -⟩ := hq l hl
  have c0' : M 42 (33 + 3 * l) = nI (q2 2 l) := c0
  have c1' : M 42 (33 + 3 * l + 1) = nI (q2 0 l) := c1
  have c2' : M 42 (33 + 3 * l + 2) = nI (q2 1 l) := c2
  unfold sX8_canBe
  simp only [nm_eq]
  rw [z_mulL, z_mulL, z_addL, z_addR, z_addR, z_addR, z_addR]
  rw [z_ib (by omega) (by decide), z_ib (by omega) (by decide), z_ib (by omega) (by decide), z_ib (by omega) (by decide), z_ib (by omega) (by decide), z_ib (by omega) (by decide)]
  rw [z_ix (by omega), z_ix (by omega), z_ix (by omega), z_ix (by omega), z_ix (by omega), z_ix (by omega)]
  rw [c0', c1', c2', a0, a1, a2, h6, h7, e_in]
  simp only [ob_some]
  unfold cB
  have f0 : (nI (q2 0 l) = nI (q1 1 r)) ↔ q2 0 l = q1 1 r := nI_eq (by omega) (by omega)
  have f1 : (nI (q2 1 l) = nI (q1 0 r)) ↔ q2 1 l = q1 0 r := nI_eq (by omega) (by omega)
  have t1 : (nI (q2 2 l) - nI (q1 2 r)).toInt = (q2 2 l : Int) - (q1 2 r : Int) := pk_sub_toInt (by omega) (by omega)
  have t2 : (nI (q2 2 l) - nI (q1 2 r) - nI L).toInt = (q2 2 l : Int) - (q1 2 r : Int) - (L : Int) := by
    rw [fb_subI (by rw [t1, nI_toInt (by omega)]; omega) (by rw [t1, nI_toInt (by omega)]; omega), t1, nI_toInt (by omega)]
  have f2 : (0 ≤ nI (q2 2 l) - nI (q1 2 r) - nI L ∧ nI (q2 2 l) - nI (q1 2 r) - nI L ≤ nI G) ↔ (q1 2 r + L ≤ q2 2 l ∧ q2 2 l ≤ q1 2 r + L + G) := by
    rw [Int32.le_iff_toInt_le, Int32.le_iff_toInt_le, t2, nI_toInt (by omega), show (0 : Int32).toInt = 0 from rfl]
    omega
  by_cases g0 : q2 0 l = q1 1 r
  · rw [if_neg (not_not_intro (f0.mpr g0))]
    by_cases g1 : q2 1 l = q1 0 r
    · rw [if_neg (not_not_intro (f1.mpr g1))]
      by_cases g2 : q1 2 r + L ≤ q2 2 l ∧ q2 2 l ≤ q1 2 r + L + G
      · rw [if_pos (decide_eq_true (f2.mpr g2))]; simp [hl, g0, g1, g2]
      · rw [if_neg (fun z => g2 (f2.mp (of_decide_eq_true z)))]
        have : decide (q1 2 r + L ≤ q2 2 l ∧ q2 2 l ≤ q1 2 r + L + G) = false := decide_eq_false g2
        rw [this]; simp
    · rw [if_pos (fun z => g1 (f1.mp z))]; simp [g1]
  · rw [if_pos (fun z => g0 (f0.mp z))]; simp [g0]
theorem nb_0 (S : Nat → Bool) (l : Nat) : nbB cb 0 S l = false := by
  cases h : nbB cb 0 S l with
  | false => rfl
  | true =>
    obtain ⟨r, b, -, -⟩ := nb_t.mp h
    omega
theorem nb_s (S : Nat → Bool) (l i : Nat) : nbB cb (i + 1) S l = (nbB cb i S l || (S i && cb l i)) := by
  apply Bool.eq_iff_iff.mpr
  rw [Bool.or_eq_true, nb_t, nb_t, Bool.and_eq_true]
  constructor
  · rintro ⟨x, b1, b2, b3⟩
    by_cases c : x = i
    · subst c; exact Or.inr ⟨b2, b3⟩
    · exact Or.inl ⟨x, by omega, b2, b3⟩
  · rintro (⟨x, b1, b2, b3⟩ | ⟨b2, b3⟩)
    · exact ⟨x, by omega, b2, b3⟩
    · exact ⟨i, by omega, b2, b3⟩
theorem e_unIn (h : PO M R K q1 q2 L G) (hF : 1024 < F) {l : Nat} (hl : l < K) (J : Int32 → Option (Int32 × Mem)) : fx2 F (sX8_unaskedNow_L23 F M (nI l) J) 0 0 = J (bi (nbB (cB q1 q2 L G K) R (fun _ => true) l)) := by
  have hR : R ≤ 10 := h.1.2.1
  have road := fx2_road (g := sX8_unaskedNow_L23 F M (nI l) J) (fun i => bi (nbB (cB q1 q2 L G K) i (fun _ => true) l)) (fun i => nI i) R (J (bi (nbB (cB q1 q2 L G K) R (fun _ => true) l))) (fun i hi rec => by
    unfold sX8_unaskedNow_L23
    rw [z_ibL (by decide) (by decide), z_ixL (by decide), h.1.1, if_neg (nI_ge hi (by omega)), e_canBe h hl hi]
    simp only [nm_eq, ob_some]
    rw [z_addR, nb_s]
    cases nbB (cB q1 q2 L G K) i (fun _ => true) l with
    | true => rw [if_pos (by decide)]; rfl
    | false =>
      rw [if_neg (by decide)]
      cases cB q1 q2 L G K l i with
      | true => rw [if_pos rfl]; rfl
      | false => rw [if_neg (by decide)]; rfl) (fun rec => by
    unfold sX8_unaskedNow_L23
    rw [z_ibL (by decide) (by decide), z_ixL (by decide), h.1.1, if_pos (nI_le (Nat.le_refl _) (by omega))]) F 0 (Nat.zero_le _) (by omega)
  rw [nb_0] at road
  exact road
theorem e_unaskedNow (hrd : sX8_reads F M = some M') (h : PO M' R K q1 q2 L G) (hF : 1024 < F) : sX8_unaskedNow F M = some (nI (unM (cB q1 q2 L G K) K R), M') := by
  have hK : K ≤ 10 := h.2.1.2.1
  unfold sX8_unaskedNow
  rw [hrd]
  simp only [ob_some]
  refine fx2_road (fun l => nI (mk (fun l => !nbB (cB q1 q2 L G K) R (fun _ => true) l) l)) (fun l => nI l) K _ (fun l hl rec => ?_) (fun rec => ?_) F 0 (Nat.zero_le _) (by omega)
  · unfold sX8_unaskedNow_L8
    rw [z_ibL (by decide) (by decide), z_ixL (by decide), h.2.1.1, if_neg (nI_ge hl (by omega))]
    simp only [nm_eq]
    rw [e_unIn h hF hl, z_shl1 (by omega), z_addR, z_or, mk]
    cases nbB (cB q1 q2 L G K) R (fun _ => true) l with
    | true => rw [if_neg (by decide), if_neg (by decide), show (0 : Int32) = nI 0 from rfl, z_or, Nat.or_zero]
    | false => rw [if_pos (by decide), if_pos (by decide)]
  · unfold sX8_unaskedNow_L8
    rw [z_ibL (by decide) (by decide), z_ixL (by decide), h.2.1.1, if_pos (nI_le (Nat.le_refl _) (by omega))]
    rfl
theorem e_lkIn (h : PO M R K q1 q2 L G) (hF : 1024 < F) {l S : Nat} (hl : l < K) (hS : S < 1024) (J : Int32 → Option (Int32 × Mem)) : fx2 F (sX8_lackNow_L45 F M (nI S) (nI l) J) 0 0 = J (bi (nbB (cB q1 q2 L G K) R (fun r => S.testBit r) l)) := by
  have hR : R ≤ 10 := h.1.2.1
  have road := fx2_road (g := sX8_lackNow_L45 F M (nI S) (nI l) J) (fun i => bi (nbB (cB q1 q2 L G K) i (fun r => S.testBit r) l)) (fun i => nI i) R (J (bi (nbB (cB q1 q2 L G K) R (fun r => S.testBit r) l))) (fun i hi rec => by
    unfold sX8_lackNow_L45
    rw [z_ibL (by decide) (by decide), z_ixL (by decide), h.1.1, if_neg (nI_ge hi (by omega)), e_isIn F (by omega) (by omega), e_canBe h hl hi]
    simp only [nm_eq, ob_some]
    rw [z_addR, nb_s]
    cases nbB (cB q1 q2 L G K) i (fun r => S.testBit r) l with
    | true => rw [if_pos (by decide)]; rfl
    | false =>
      rw [if_neg (by decide)]
      cases S.testBit i with
      | true =>
        rw [if_pos rfl]
        cases cB q1 q2 L G K l i with
        | true => rw [if_pos rfl]; rfl
        | false => rw [if_neg (by decide)]; rfl
      | false => rw [if_neg (by decide)]; rfl) (fun rec => by
    unfold sX8_lackNow_L45
    rw [z_ibL (by decide) (by decide), z_ixL (by decide), h.1.1, if_pos (nI_le (Nat.le_refl _) (by omega))]) F 0 (Nat.zero_le _) (by omega)
  rw [nb_0] at road
  exact road
theorem ct_K (hcb : ∀ l r, cb l r = true → l < K) (hK : K ≤ 10) (S : Nat → Bool) : fb_ct (fun l => nbB cb R S l) K = ct (nbB cb R S) := by
  have h1 := fb_ct_split (nbB cb R S) K (10 - K)
  rw [show K + (10 - K) = 10 by omega] at h1
  have h2 : fb_ct (fun k => nbB cb R S (K + k)) (10 - K) = 0 := fb_ct_zero.mpr (fun k _ => by
    cases h : nbB cb R S (K + k) with
    | false => rfl
    | true =>
      obtain ⟨r, -, -, b⟩ := nb_t.mp h
      have := hcb _ _ b
      omega)
  unfold ct
  rw [h1, h2, Nat.add_zero]
theorem e_lkMid (h : PO M R K q1 q2 L G) (hF : 1024 < F) {S : Nat} (hS : S < 1024) (J : Int32 → Option (Int32 × Mem)) : fx2 F (sX8_lackNow_L28 F M (nI S) J) 0 0 = J (nI (ct (nbB (cB q1 q2 L G K) R (fun r => S.testBit r)))) := by
  have hK : K ≤ 10 := h.2.1.2.1
  rw [← ct_K (fun l r z => cB_lt z) hK]
  refine fx2_road (fun l => nI (fb_ct (fun l => nbB (cB q1 q2 L G K) R (fun r => S.testBit r) l) l)) (fun l => nI l) K _ (fun l hl rec => ?_) (fun rec => ?_) F 0 (Nat.zero_le _) (by omega)
  · unfold sX8_lackNow_L28
    rw [z_ibL (by decide) (by decide), z_ixL (by decide), h.2.1.1, if_neg (nI_ge hl (by omega))]
    simp only [nm_eq]
    rw [e_lkIn h hF hl hS, fb_ct_succ]
    simp only [z_addR]
    cases nbB (cB q1 q2 L G K) R (fun r => S.testBit r) l with
    | true => rw [if_neg (by decide), if_pos rfl]
    | false => rw [if_pos (by decide), if_neg (by decide)]
  · unfold sX8_lackNow_L28
    rw [z_ibL (by decide) (by decide), z_ixL (by decide), h.2.1.1, if_pos (nI_le (Nat.le_refl _) (by omega))]
theorem xI_0 : xI cb R 0 = 0 := by
  apply Int32.toInt_inj.mp
  rw [xI_toInt]
  unfold exI exP
  have h1 : ct (fun r => (0 : Nat).testBit r) = 0 := fb_ct_zero.mpr (fun k _ => by simp)
  have h2 : ct (nbB cb R (fun r => (0 : Nat).testBit r)) = 0 := fb_ct_zero.mpr (fun k _ => by
    cases h : nbB cb R (fun r => (0 : Nat).testBit r) k with
    | false => rfl
    | true =>
      obtain ⟨r, -, b, -⟩ := nb_t.mp h
      simp at b)
  rw [h1, h2]
  rfl
theorem e_lackNow (hrd : sX8_reads F M = some M') (h : PO M' R K q1 q2 L G) (hF : 1024 < F) : sX8_lackNow F M = some (nI (lk (cB q1 q2 L G K) R (2 ^ R)), M') := by
  have hR : R ≤ 10 := h.1.2.1
  have hp := pow_le10 hR
  have hpos := pow_pos2 R
  unfold sX8_lackNow
  rw [hrd]
  simp only [ob_some]
  have road := fx3_road (g := sX8_lackNow_L10 F M') (fun i => nI (lk (cB q1 q2 L G K) R (i + 1))) (fun i => xI (cB q1 q2 L G K) R (lk (cB q1 q2 L G K) R (i + 1))) (fun i => nI (i + 1)) (2 ^ R - 1) (some (nI (lk (cB q1 q2 L G K) R (2 ^ R)), M')) (fun i hi rec => by
    have hl := lk_lt (cb := cB q1 q2 L G K) (R := R) (i + 1) (by omega)
    have p1 := pc_le (i + 1)
    have p2 := pc_le (lk (cB q1 q2 L G K) R (i + 1))
    unfold sX8_lackNow_L10
    rw [z_ibL (by decide) (by decide), z_ixL (by decide), h.1.1, z_shl1 (by omega), if_neg (nI_ge (by omega) (by omega))]
    simp only [nm_eq]
    rw [e_lkMid h hF (by omega), e_ones F (by omega) M' (by omega), e_ones F (by omega) M' (by omega)]
    simp only [ob_some]
    simp only [z_addR, if_true, show ¬ ((1 : Int32) = 0) from by decide, if_false]
    rw [show nI (pc (i + 1)) - nI (ct (nbB (cB q1 q2 L G K) R (fun r => (i + 1).testBit r))) = xI (cB q1 q2 L G K) R (i + 1) from rfl, lk_s (i + 1)]
    have c1 : (xI (cB q1 q2 L G K) R (lk (cB q1 q2 L G K) R (i + 1)) < xI (cB q1 q2 L G K) R (i + 1)) ↔ exI (cB q1 q2 L G K) R (lk (cB q1 q2 L G K) R (i + 1)) < exI (cB q1 q2 L G K) R (i + 1) := by
      rw [Int32.lt_iff_toInt_lt, xI_toInt, xI_toInt]
    have c2 : (xI (cB q1 q2 L G K) R (i + 1) = xI (cB q1 q2 L G K) R (lk (cB q1 q2 L G K) R (i + 1))) ↔ exI (cB q1 q2 L G K) R (i + 1) = exI (cB q1 q2 L G K) R (lk (cB q1 q2 L G K) R (i + 1)) := by
      rw [← Int32.toInt_inj, xI_toInt, xI_toInt]
    generalize hg : lk (cB q1 q2 L G K) R (i + 1) = g at c1 c2 hl p2
    unfold lkF
    by_cases d1 : exI (cB q1 q2 L G K) R g < exI (cB q1 q2 L G K) R (i + 1)
    · rw [if_pos (c1.mpr d1), if_pos (Or.inl d1)]
    · rw [if_neg (fun z => d1 (c1.mp z))]
      by_cases d2 : exI (cB q1 q2 L G K) R (i + 1) = exI (cB q1 q2 L G K) R g
      · rw [if_neg (not_not_intro (c2.mpr d2))]
        by_cases d3 : pc (i + 1) < pc g
        · rw [if_neg (by rw [z_le (by omega) (by omega)]; omega), if_pos (Or.inr ⟨d2, d3⟩)]
        · rw [if_pos (by rw [z_le (by omega) (by omega)]; omega), if_neg (by omega)]
      · rw [if_pos (fun z => d2 (c2.mp z)), if_neg (by omega)]) (fun rec => by
    unfold sX8_lackNow_L10
    rw [z_ibL (by decide) (by decide), z_ixL (by decide), h.1.1, z_shl1 (by omega), if_pos (nI_le (by omega) (by omega)), show 2 ^ R - 1 + 1 = 2 ^ R by omega]) F 0 (Nat.zero_le _) (by omega)
  rw [show lk (cB q1 q2 L G K) R (0 + 1) = 0 from lk_1, xI_0] at road
  exact road
end MLack
