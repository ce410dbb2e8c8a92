/-! digest: the model's, and both -/
section DigestM
variable {F : Nat} {P : Pm} {M : Mem}
theorem m_L6 {rc : Nat → Int32} (hF : 1025 < F) (hc : ∀ i, i < 8 → Qy P (sX8_count F (nI i)) (rc i)) {v h : Int64} {J : Int64 → Mem → Option (Int64 × Mem)} (hM : Inv P M) (hJ : ∀ M, Inv P M → Rr P v (J (mxs rc h 8) M)) : Rr P v (fx3 F (sX8_digest_L6 F J) h 0 M) := by
  refine fx3_s (g := sX8_digest_L6 F J) (fun i => mxs rc h i) (fun i => nI i) 8 (Rr P v) (fun _ M => Inv P M) (fun i hi M hM => ?_) (fun M hM rec => ?_) F 0 M (Nat.zero_le _) (by omega) hM
  · obtain ⟨M1, a1, b1⟩ := hc i hi M hM
    refine ⟨M1, b1, fun rec => ?_⟩
    unfold sX8_digest_L6
    rw [if_neg (show ¬ (8 : Int32) ≤ nI i from nI_ge (b := 8) hi (by decide)), a1, ob_some, nm_eq, z_addR]
    rfl
  · unfold sX8_digest_L6
    rw [if_pos (by decide)]
    exact hJ M hM
theorem m_L150 {rc : Nat → Int32} (hF : 1025 < F) (hc : ∀ i, i < 2 → Qy P (sX8_sureOf F (nI i)) (rc i)) {v h : Int64} {J : Int64 → Mem → Option (Int64 × Mem)} (hM : Inv P M) (hJ : ∀ M, Inv P M → Rr P v (J (mxs rc h 2) M)) : Rr P v (fx3 F (sX8_digest_L150 F J) h 0 M) := by
  refine fx3_s (g := sX8_digest_L150 F J) (fun i => mxs rc h i) (fun i => nI i) 2 (Rr P v) (fun _ M => Inv P M) (fun i hi M hM => ?_) (fun M hM rec => ?_) F 0 M (Nat.zero_le _) (by omega) hM
  · obtain ⟨M1, a1, b1⟩ := hc i hi M hM
    refine ⟨M1, b1, fun rec => ?_⟩
    unfold sX8_digest_L150
    rw [if_neg (show ¬ (2 : Int32) ≤ nI i from nI_ge (b := 2) hi (by decide)), a1, ob_some, nm_eq, z_addR]
    rfl
  · unfold sX8_digest_L150
    rw [if_pos (by decide)]
    exact hJ M hM
theorem m_L176 {rc : Nat → Int32} (hF : 1025 < F) (hc : ∀ i, i < 2 → Qy P (sX8_cannotOf F (nI i)) (rc i)) {v h : Int64} {J : Int64 → Mem → Option (Int64 × Mem)} (hM : Inv P M) (hJ : ∀ M, Inv P M → Rr P v (J (mxs rc h 2) M)) : Rr P v (fx3 F (sX8_digest_L176 F J) h 0 M) := by
  refine fx3_s (g := sX8_digest_L176 F J) (fun i => mxs rc h i) (fun i => nI i) 2 (Rr P v) (fun _ M => Inv P M) (fun i hi M hM => ?_) (fun M hM rec => ?_) F 0 M (Nat.zero_le _) (by omega) hM
  · obtain ⟨M1, a1, b1⟩ := hc i hi M hM
    refine ⟨M1, b1, fun rec => ?_⟩
    unfold sX8_digest_L176
    rw [if_neg (show ¬ (2 : Int32) ≤ nI i from nI_ge (b := 2) hi (by decide)), a1, ob_some, nm_eq, z_addR]
    rfl
  · unfold sX8_digest_L176
    rw [if_pos (by decide)]
    exact hJ M hM
theorem m_L202 {rc : Nat → Int32} (hF : 1025 < F) (hc : ∀ i, i < 2 → Qy P (sX8_freedOf F (nI i)) (rc i)) {v h : Int64} {J : Int64 → Mem → Option (Int64 × Mem)} (hM : Inv P M) (hJ : ∀ M, Inv P M → Rr P v (J (mxs rc h 2) M)) : Rr P v (fx3 F (sX8_digest_L202 F J) h 0 M) := by
  refine fx3_s (g := sX8_digest_L202 F J) (fun i => mxs rc h i) (fun i => nI i) 2 (Rr P v) (fun _ M => Inv P M) (fun i hi M hM => ?_) (fun M hM rec => ?_) F 0 M (Nat.zero_le _) (by omega) hM
  · obtain ⟨M1, a1, b1⟩ := hc i hi M hM
    refine ⟨M1, b1, fun rec => ?_⟩
    unfold sX8_digest_L202
    rw [if_neg (show ¬ (2 : Int32) ≤ nI i from nI_ge (b := 2) hi (by decide)), a1, ob_some, nm_eq, z_addR]
    rfl
  · unfold sX8_digest_L202
    rw [if_pos (by decide)]
    exact hJ M hM
def i3 (i : Nat) : Int32 := if i = 0 then -1 else nI (i - 1)
theorem i3_s {i : Nat} (hi : i < 3) : i3 i + 1 = i3 (i + 1) := by
  rcases (show i = 0 ∨ i = 1 ∨ i = 2 by omega) with c | c | c <;> subst c <;> decide
theorem i3_n {i : Nat} (hi : i < 3) : ¬ (2 : Int32) ≤ i3 i := by
  rcases (show i = 0 ∨ i = 1 ∨ i = 2 by omega) with c | c | c <;> subst c <;> decide
theorem m_L124 {rc : Nat → Int32} (hF : 1025 < F) (hc : ∀ i, i < 3 → Qy P (sX8_rowsOf F (i3 i)) (rc i)) {v h : Int64} {J : Int64 → Mem → Option (Int64 × Mem)} (hM : Inv P M) (hJ : ∀ M, Inv P M → Rr P v (J (mxs rc h 3) M)) : Rr P v (fx3 F (sX8_digest_L124 F J) h (-1) M) := by
  refine fx3_s (g := sX8_digest_L124 F J) (fun i => mxs rc h i) i3 3 (Rr P v) (fun _ M => Inv P M) (fun i hi M hM => ?_) (fun M hM rec => ?_) F 0 M (Nat.zero_le _) (by omega) hM
  · obtain ⟨M1, a1, b1⟩ := hc i hi M hM
    refine ⟨M1, b1, fun rec => ?_⟩
    unfold sX8_digest_L124
    rw [if_neg (i3_n hi), a1, ob_some, nm_eq, i3_s hi]
    rfl
  · unfold sX8_digest_L124
    rw [if_pos (by decide)]
    exact hJ M hM
theorem m_L33 (hF : 1025 < F) {v h : Int64} {J : Int64 → Mem → Option (Int64 × Mem)} (hM : Inv P M) (hJ : ∀ M, Inv P M → PM M (pN P) (pq P) (pL P) (pO P) → Rr P v (J (mxs (pf P) h 3) M)) : Rr P v (fx3 F (sX8_digest_L33 F J) h 0 M) := by
  refine fx3_s (g := sX8_digest_L33 F J) (fun i => mxs (pf P) h i) (fun i => nI i) 3 (Rr P v) (fun i M => Inv P M ∧ (0 < i → PM M (pN P) (pq P) (pL P) (pO P))) (fun i hi M hM => ?_) (fun M hM rec => ?_) F 0 M (Nat.zero_le _) (by omega) ⟨hM, fun z => by omega⟩
  · obtain ⟨X, x1, -, -, x4, -, x6⟩ := e_rd (F := F) hM.1 (by omega)
    refine ⟨X, ⟨x6, fun _ => x4⟩, fun rec => ?_⟩
    unfold sX8_digest_L33
    rw [if_neg (show ¬ (3 : Int32) ≤ nI i from nI_ge (b := 3) hi (by decide)), x1 i hi, ob_some, nm_eq, z_addR]
    rfl
  · unfold sX8_digest_L33
    rw [if_pos (by decide)]
    exact hJ M hM.1 (hM.2 (by omega))
theorem m_L59 (hF : 1025 < F) (hM : Inv P M) (x4 : PM M (pN P) (pq P) (pL P) (pO P)) (h : Int64) (J : Int64 → Option (Int64 × Mem)) : fx2 F (sX8_digest_L59 F M J) h 0 = J (mtS P h (pN P)) := by
  have h10 := hM.n10.1
  refine fx2_road (g := sX8_digest_L59 F M J) (fun m => mtS P h m) (fun m => nI m) (pN P) _ (fun m hm rec => ?_) (fun rec => ?_) F 0 (Nat.zero_le _) (by omega)
  · unfold sX8_digest_L59
    rw [x4.1.1, if_neg (nI_ge hm (by omega))]
    simp only [nm_eq]
    have key := fx2_road (g := sX8_digest_L70 F M (nI m) (fun p103 => (sX8_hangsOf F (nI m) M).bind (fun r105 => rec (31 * p103 + r105.toInt64) (nI m + 1)))) (fun w => mxs (fun w => pM P 12 (6 * m + w)) (mtS P h m) w) (fun w => nI w) 6 (rec (mtS P h (m + 1)) (nI (m + 1))) (fun w hw rec2 => by
      unfold sX8_digest_L70
      rw [if_neg (show ¬ (6 : Int32) ≤ nI w from nI_ge (b := 6) hw (by decide)), z_mulL, z_add, z_ib (by omega) (by decide), z_ix (by omega), e_matter40 hM x4 hm hw, nm_eq, z_addR]
      rfl) (fun rec2 => by
      unfold sX8_digest_L70
      rw [if_pos (by decide), e_hangsOf x4 (by omega) hm, z_addR]
      rfl) F 0 (Nat.zero_le _) (by omega)
    exact key
  · unfold sX8_digest_L59
    rw [x4.1.1, if_pos (nI_le (Nat.le_refl _) (by omega))]
theorem m_L336 {u : Nat → Nat → Int32} (hF : 1025 < F) (hu : ∀ p, p < 6 → Qy P (sX8_hadOf F 1023 (nI p) 20) (u p 0) ∧ Qy P (sX8_askedOf F 1023 (nI p) 20) (u p 1) ∧ Qy P (sX8_bestOf F (nI p) 0) (u p 2) ∧ Qy P (sX8_bestOf F (nI p) 1) (u p 3) ∧ Qy P (sX8_owedOf F (nI p)) (u p 4) ∧ Qy P (sX8_fines F (nI p)) (u p 5)) {v h : Int64} {J : Int64 → Mem → Option (Int64 × Mem)} (hM : Inv P M) (hJ : ∀ M, Inv P M → Rr P v (J (psV u h 6) M)) : Rr P v (fx3 F (sX8_digest_L336 F J) h 0 M) := by
  refine fx3_s (g := sX8_digest_L336 F J) (fun p => psV u h p) (fun p => nI p) 6 (Rr P v) (fun _ M => Inv P M) (fun p hp M hM => ?_) (fun M hM rec => ?_) F 0 M (Nat.zero_le _) (by omega) hM
  · obtain ⟨u0, u1, u2, u3, u4, u5⟩ := hu p hp
    obtain ⟨M1, a1, b1⟩ := u0 M hM
    obtain ⟨M2, a2, b2⟩ := u1 M1 b1
    obtain ⟨M3, a3, b3⟩ := u2 M2 b2
    obtain ⟨M4, a4, b4⟩ := u3 M3 b3
    obtain ⟨M5, a5, b5⟩ := u4 M4 b4
    obtain ⟨M6, a6, b6⟩ := u5 M5 b5
    refine ⟨M6, b6, fun rec => ?_⟩
    unfold sX8_digest_L336
    rw [if_neg (show ¬ (6 : Int32) ≤ nI p from nI_ge (b := 6) hp (by decide)), a1, ob_some, nm_eq, a2, ob_some, nm_eq, a3, ob_some, nm_eq, a4, ob_some, nm_eq, a5, ob_some, nm_eq, a6, ob_some, nm_eq, z_addR]
    rfl
  · unfold sX8_digest_L336
    rw [if_pos (by decide)]
    exact hJ M hM
theorem d_model {rc rr rs rk rf2 : Nat → Int32} {u : Nat → Nat → Int32} {v10 v11 v12 v13 v14 v15 v16 v17 w1 r0 x0 w2 w3 w4 w5 w6 w7 w8 w9 : Int32} (hF : 1025 < F) (hc : ∀ i, i < 8 → Qy P (sX8_count F (nI i)) (rc i)) (hr : ∀ i, i < 3 → Qy P (sX8_rowsOf F (i3 i)) (rr i)) (hs : ∀ i, i < 2 → Qy P (sX8_sureOf F (nI i)) (rs i)) (hk : ∀ i, i < 2 → Qy P (sX8_cannotOf F (nI i)) (rk i)) (hf : ∀ i, i < 2 → Qy P (sX8_freedOf F (nI i)) (rf2 i)) (hv10 : Qy P (sX8_brokenOf F 0) v10) (hv11 : Qy P (sX8_brokenOf F 5) v11) (hv12 : Qy P (sX8_brokenOf F 1023) v12) (hv13 : Qy P (sX8_nearestOf F 5) v13) (hv14 : Qy P (sX8_stepsOf F 0 3) v14) (hv15 : Qy P (sX8_returnsOf F 0 0) v15) (hv16 : Qy P (sX8_returnsOf F 0 1) v16) (hv17 : Qy P (sX8_ringsNow F) v17) (hu : ∀ p, p < 6 → Qy P (sX8_hadOf F 1023 (nI p) 20) (u p 0) ∧ Qy P (sX8_askedOf F 1023 (nI p) 20) (u p 1) ∧ Qy P (sX8_bestOf F (nI p) 0) (u p 2) ∧ Qy P (sX8_bestOf F (nI p) 1) (u p 3) ∧ Qy P (sX8_owedOf F (nI p)) (u p 4) ∧ Qy P (sX8_fines F (nI p)) (u p 5)) (hw1 : Qy P (sX8_openOf F 1023 20) w1) (hr0 : Qy P (sX8_rowsOf F 0) r0) (hx : (¬ r0 = -1 → r0 = x0) ∧ (r0 = -1 → x0 = 0)) (hw2 : Qy P (sX8_restOf F x0 0) w2) (hw3 : Qy P (sX8_owedOf F (-1)) w3) (hw4 : Qy P (sX8_lackNow F) w4) (hw5 : Qy P (sX8_unaskedNow F) w5) (hw6 : Qy P (sX8_refusedOf F 0) w6) (hw7 : Qy P (sX8_refusedOf F 1) w7) (hw8 : Qy P (sX8_lotOf F 7 0) w8) (hw9 : Qy P (sX8_lotOf F 7 20) w9) (hM : Inv P M) : Rr P (mx (mx (mx (mx (mx (mx (mx (mx (mx ((psV u (mx (mx (mx (mx (mx (mx (mx (mx (mx (mx (mx (mx (mx (mx (mx (mx (mx ((mtS P (mxs (pf P) (mxs rc 17 8) 3) (pN P))) (rr 0)) (rr 1)) (rr 2)) (rs 0)) (rs 1)) (rk 0)) (rk 1)) (rf2 0)) (rf2 1)) v10) v11) v12) v13) v14) v15) v16) v17) 6)) w1) w2) w3) w4) w5) w6) w7) w8) w9) (sX8_digest F M) := by
  unfold sX8_digest
  simp only [nm_eq]
  refine m_L6 hF hc hM (fun M hM => ?_)
  refine m_L33 hF hM (fun M hM x4 => ?_)
  rw [m_L59 hF hM x4]
  refine m_L124 hF hr hM (fun M hM => ?_)
  refine m_L150 hF hs hM (fun M hM => ?_)
  refine m_L176 hF hk hM (fun M hM => ?_)
  refine m_L202 hF hf hM (fun M hM => ?_)
  refine qb hv10 hM (fun M hM => ?_)
  refine qb hv11 hM (fun M hM => ?_)
  refine qb hv12 hM (fun M hM => ?_)
  refine qb hv13 hM (fun M hM => ?_)
  refine qb hv14 hM (fun M hM => ?_)
  refine qb hv15 hM (fun M hM => ?_)
  refine qb hv16 hM (fun M hM => ?_)
  refine qb hv17 hM (fun M hM => ?_)
  refine m_L336 hF hu hM (fun M hM => ?_)
  refine qb hw1 hM (fun M hM => ?_)
  refine qb hr0 hM (fun M hM => ?_)
  by_cases cz : r0 = -1
  · have hx0 := hx.2 cz
    subst hx0
    rw [if_neg (not_not_intro cz)]
    refine qb hw2 hM (fun M hM => ?_)
    refine qb hw3 hM (fun M hM => ?_)
    refine qb hw4 hM (fun M hM => ?_)
    refine qb hw5 hM (fun M hM => ?_)
    refine qb hw6 hM (fun M hM => ?_)
    refine qb hw7 hM (fun M hM => ?_)
    refine qb hw8 hM (fun M hM => ?_)
    refine qb hw9 hM (fun M hM => ?_)
    exact ⟨_, rfl, hM⟩
  · have hx0 := hx.1 cz
    subst hx0
    rw [if_pos cz]
    refine qb hw2 hM (fun M hM => ?_)
    refine qb hw3 hM (fun M hM => ?_)
    refine qb hw4 hM (fun M hM => ?_)
    refine qb hw5 hM (fun M hM => ?_)
    refine qb hw6 hM (fun M hM => ?_)
    refine qb hw7 hM (fun M hM => ?_)
    refine qb hw8 hM (fun M hM => ?_)
    refine qb hw9 hM (fun M hM => ?_)
    exact ⟨_, rfl, hM⟩
end DigestM
