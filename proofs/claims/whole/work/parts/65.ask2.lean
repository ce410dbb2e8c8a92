/-! questions: faults, matters, what hangs, days, worths, accounts, counts -/
section Ask2
variable {F : Nat} {P : Pm} {M : Mem}
theorem q_fault_t {t : Nat} (hF : 1025 < F) (ht : t < 3) : Qz P (sX7_fault F (nI t)) (pf P t) ∧ Qy P (sX8_faultOf F (nI t)) (pf P t) := by
  refine ⟨fun M h => ?_, fun M h => ?_⟩
  · unfold sX7_fault
    rw [out_f F M (show ¬ (nI t < 0 ∨ 3 ≤ nI t) by rcases (show t = 0 ∨ t = 1 ∨ t = 2 by omega) with c | c | c <;> subst c <;> decide)]
    simp only [ob_some, nm_eq, if_true, if_false, Bool.false_eq_true, not_true_eq_false, not_false_eq_true]
    rw [z_ib ht (by decide), z_ix (by omega), show 8 + 1 + t = 9 + t from rfl, (h.cr.1 t ht).2.2 F]
    simp only [ob_some, nm_eq, if_true, if_false, Bool.false_eq_true, not_true_eq_false, not_false_eq_true]
  · obtain ⟨X, x1, -, -, -, -, x6⟩ := e_rd (F := F) h (by omega)
    exact ⟨X, x1 t ht, x6⟩
theorem q_fault (hF : 1025 < F) (a : Int32) : ∃ r, Qz P (sX7_fault F a) r ∧ Qy P (sX8_fault F a) r := by
  rcases rg a 3 2 3 rfl rfl (by decide) (by decide) with ⟨o, i⟩ | ⟨t, ht, rfl, o, i⟩
  · refine ⟨-2, fun M h => ?_, fun M h => ⟨M, ?_, h⟩⟩
    · unfold sX7_fault
      rw [out_t F M o]
      simp only [ob_some, nm_eq, if_true, if_false, Bool.false_eq_true, not_true_eq_false, not_false_eq_true]
    · unfold sX8_fault sX8_isText
      rw [in_f F M i]
      simp only [ob_some, nm_eq, if_true, if_false, Bool.false_eq_true, not_true_eq_false, not_false_eq_true]
  · obtain ⟨h1, h2⟩ := q_fault_t (P := P) hF ht
    refine ⟨_, h1, fun M h => ?_⟩
    unfold sX8_fault sX8_isText
    rw [in_t F M i]
    simp only [ob_some, nm_eq, if_true, if_false, Bool.false_eq_true, not_true_eq_false, not_false_eq_true]
    exact h2.wr h
/-! matters -/
theorem MVw.eq {A B : Nat → Int32} {N : Nat} {q : Nat → Nat → Nat} (h1 : MVw A N q) (h2 : MVw B N q) {m w : Nat} (hm : m < N) (hw : w < 6) : A (6 * m + w) = B (6 * m + w) := by
  obtain ⟨⟨a0, a1, a2, a3, a4, a5⟩, -⟩ := h1 m hm
  obtain ⟨⟨b0, b1, b2, b3, b4, b5⟩, -⟩ := h2 m hm
  rcases (show w = 0 ∨ w = 1 ∨ w = 2 ∨ w = 3 ∨ w = 4 ∨ w = 5 by omega) with c | c | c | c | c | c <;> subst c
  · rw [Nat.add_zero, a0, b0]
  · rw [a1, b1]
  · rw [a2, b2]
  · rw [a3, b3]
  · rw [a4, b4]
  · rw [a5, b5]
theorem mat_rg (a : Int32) {N : Nat} (hN : N ≤ 10) : ((a < 0 ∨ nI N ≤ a) ∧ ¬ (0 ≤ a ∧ a ≤ nI N - 1)) ∨ ∃ j, j < N ∧ a = nI j ∧ ¬ (a < 0 ∨ nI N ≤ a) ∧ (0 ≤ a ∧ a ≤ nI N - 1) := by
  rcases Nat.eq_zero_or_pos N with c | c
  · subst c
    refine Or.inl ⟨?_, ?_⟩
    · rw [Int32.lt_iff_toInt_lt, Int32.le_iff_toInt_le]
      have h1 : (0 : Int32).toInt = 0 := rfl
      have h2 : (nI 0).toInt = 0 := rfl
      omega
    · rw [Int32.le_iff_toInt_le, Int32.le_iff_toInt_le]
      have h1 : (0 : Int32).toInt = 0 := rfl
      have h2 : (nI 0 - 1).toInt = -1 := by decide
      omega
  · rw [z_subR (by omega)]
    exact rg a _ _ N rfl rfl c (by omega)
theorem Inv.n10 (h : Inv P M) : pN P ≤ 10 ∧ pR P ≤ 10 ∧ pK P ≤ 10 := ⟨(h.cr.1 0 (by decide)).2.1, (h.cr.1 1 (by decide)).2.1, (h.cr.1 2 (by decide)).2.1⟩
theorem nmat (h : Inv P M) (a : Int32) : sX7_isNoMatter F a M = sX7_isOutside F a (nI (pN P)) M := by
  unfold sX7_isNoMatter sX1_howMany
  rw [z_ibL (by decide) (by decide), z_ixL (by decide), show (8 + 1 + OfNat.ofNat 0 : Nat) = 9 from rfl, h.pc.1]
  simp only [ob_some]
  rw [e_isOutside]
  rfl
theorem q_matter_mw {m w : Nat} (hm : m < pN P) (hw : w < 6) : Qz P (sX7_matter F (nI m) (nI w)) (pM P 12 (6 * m + w)) := fun M h => by
  have h10 := h.n10.1
  unfold sX7_matter
  rw [nmat h, out_f F M (fun z => z.elim (nI_pos (by omega)) (nI_ge hm (by omega))), out_f F M (show ¬ (nI w < 0 ∨ 6 ≤ nI w) from fun z => z.elim (nI_pos (by omega)) (nI_ge (b := 6) hw (by decide)))]
  simp only [ob_some, nm_eq, if_true, if_false, Bool.false_eq_true, not_true_eq_false, not_false_eq_true]
  rw [z_ibL (by decide) (by decide), z_ixL (by decide), show (8 + 1 + OfNat.ofNat 0 : Nat) = 9 from rfl, e_part F 9 (pN P) m w M h.pc.1 h10 hm hw]
  simp only [ob_some, nm_eq, if_true, if_false, Bool.false_eq_true, not_true_eq_false, not_false_eq_true]
  rw [show (9 + 3 : Nat) = 12 from rfl, h.k rfl]
theorem e_matter40 (h : Inv P M) {X : Mem} (hX : PM X (pN P) (pq P) (pL P) (pO P)) {m w : Nat} (hm : m < pN P) (hw : w < 6) : X 40 (6 * m + w) = pM P 12 (6 * m + w) := by
  rw [← h.k (k := 12) rfl]
  exact MVw.eq hX.1.2.2 h.pc.2.2 hm hw
theorem q_matter (hF : 1025 < F) (hN : pN P ≤ 10) (a b : Int32) : ∃ r, Qz P (sX7_matter F a b) r ∧ Qy P (sX8_matter F a b) r := by
  rcases mat_rg a hN with ⟨o, i⟩ | ⟨m, hm, rfl, o, i⟩
  · refine ⟨-2, fun M h => ?_, fun M h => ?_⟩
    · unfold sX7_matter
      rw [nmat h, out_t F M o]
      simp only [ob_some, nm_eq, if_true, if_false, Bool.false_eq_true, not_true_eq_false, not_false_eq_true]
    · obtain ⟨X, x1, x2, -, x4, -, x6⟩ := e_rd (F := F) h (by omega)
      refine ⟨X, ?_, x6⟩
      unfold sX8_matter sX8_isMatter
      rw [x2]
      simp only [ob_some, nm_eq, if_true, if_false, Bool.false_eq_true, not_true_eq_false, not_false_eq_true]
      rw [x4.1.1, in_f F X i]
      simp only [ob_some, nm_eq, if_true, if_false, Bool.false_eq_true, not_true_eq_false, not_false_eq_true]
  · rcases rg b 6 5 6 rfl rfl (by decide) (by decide) with ⟨o2, i2⟩ | ⟨w, hw, rfl, o2, i2⟩
    · refine ⟨-2, fun M h => ?_, fun M h => ?_⟩
      · unfold sX7_matter
        rw [nmat h, out_f F M o, out_t F M o2]
        simp only [ob_some, nm_eq, if_true, if_false, Bool.false_eq_true, not_true_eq_false, not_false_eq_true]
      · obtain ⟨X, x1, x2, -, x4, -, x6⟩ := e_rd (F := F) h (by omega)
        refine ⟨X, ?_, x6⟩
        unfold sX8_matter sX8_isMatter
        rw [x2]
        simp only [ob_some, nm_eq, if_true, if_false, Bool.false_eq_true, not_true_eq_false, not_false_eq_true]
        rw [x4.1.1, in_t F X i]
        simp only [ob_some, nm_eq, if_true, if_false, Bool.false_eq_true, not_true_eq_false, not_false_eq_true]
        rw [in_f F X i2]
        simp only [ob_some, nm_eq, if_true, if_false, Bool.false_eq_true, not_true_eq_false, not_false_eq_true]
    · refine ⟨_, q_matter_mw hm hw, fun M h => ?_⟩
      obtain ⟨X, x1, x2, -, x4, -, x6⟩ := e_rd (F := F) h (by omega)
      refine ⟨X, ?_, x6⟩
      unfold sX8_matter sX8_isMatter
      rw [x2]
      simp only [ob_some, nm_eq, if_true, if_false, Bool.false_eq_true, not_true_eq_false, not_false_eq_true]
      rw [x4.1.1, in_t F X i]
      simp only [ob_some, nm_eq, if_true, if_false, Bool.false_eq_true, not_true_eq_false, not_false_eq_true]
      rw [in_t F X i2, z_mulL, z_add, z_ib (by omega) (by decide), z_ix (by omega), e_matter40 h x4 hm hw]
      simp only [ob_some, nm_eq, if_true, if_false, Bool.false_eq_true, not_true_eq_false, not_false_eq_true]
/-! hangs, rings -/
theorem q_hangs_m (hF : 1025 < F) {m : Nat} (hm : m < pN P) : Qy P (sX7_hangs F (nI m)) (nI (CB (pq P) (pL P) (pN P) m (pN P))) := fun M h => by
  have h10 := h.n10.1
  obtain ⟨M1, a1, a2, a3⟩ := e_rowsNow (F := F) h (by omega)
  refine ⟨M1, ?_, a2⟩
  unfold sX7_hangs
  rw [nmat h, out_f F M (fun z => z.elim (nI_pos (by omega)) (nI_ge hm (by omega))), a1]
  simp only [ob_some, nm_eq, if_true, if_false, Bool.false_eq_true, not_true_eq_false, not_false_eq_true]
  rw [e_hangingOn a3 (by omega) hm (fun i hi => (h.pc.2.2 i hi).2.2.2.2.2.2)]
  simp only [ob_some, nm_eq, if_true, if_false, Bool.false_eq_true, not_true_eq_false, not_false_eq_true]
theorem q_hangs (hF : 1025 < F) (hN : pN P ≤ 10) (a : Int32) : ∃ r, Qy P (sX7_hangs F a) r ∧ Qy P (sX8_hangs F a) r := by
  rcases mat_rg a hN with ⟨o, i⟩ | ⟨m, hm, rfl, o, i⟩
  · refine ⟨-2, fun M h => ⟨M, ?_, h⟩, fun M h => ?_⟩
    · unfold sX7_hangs
      rw [nmat h, out_t F M o]
      simp only [ob_some, nm_eq, if_true, if_false, Bool.false_eq_true, not_true_eq_false, not_false_eq_true]
    · obtain ⟨X, x1, x2, -, x4, -, x6⟩ := e_rd (F := F) h (by omega)
      refine ⟨X, ?_, x6⟩
      unfold sX8_hangs sX8_isMatter
      rw [x2]
      simp only [ob_some, nm_eq, if_true, if_false, Bool.false_eq_true, not_true_eq_false, not_false_eq_true]
      rw [x4.1.1, in_f F X i]
      simp only [ob_some, nm_eq, if_true, if_false, Bool.false_eq_true, not_true_eq_false, not_false_eq_true]
  · refine ⟨_, q_hangs_m hF hm, fun M h => ?_⟩
    obtain ⟨X, x1, x2, -, x4, -, x6⟩ := e_rd (F := F) h (by omega)
    refine ⟨X, ?_, x6⟩
    unfold sX8_hangs sX8_isMatter
    rw [x2]
    simp only [ob_some, nm_eq, if_true, if_false, Bool.false_eq_true, not_true_eq_false, not_false_eq_true]
    rw [x4.1.1, in_t F X i]
    simp only [ob_some, nm_eq, if_true, if_false, Bool.false_eq_true, not_true_eq_false, not_false_eq_true]
    rw [e_hangsOf x4 (by omega) hm]
    simp only [ob_some, nm_eq, if_true, if_false, Bool.false_eq_true, not_true_eq_false, not_false_eq_true]
theorem q_ringsN (hF : 1025 < F) : ∃ r, Qy P (sX7_rings F) r ∧ Qy P (sX8_ringsNow F) r := by
  refine ⟨nI (rgS (pq P) (pL P) (pN P) (pN P)), fun M h => ?_, fun M h => ?_⟩
  · obtain ⟨M1, a1, a2, a3⟩ := e_rowsNow (F := F) h (by omega)
    refine ⟨M1, ?_, a2⟩
    unfold sX7_rings
    rw [a1]
    simp only [ob_some, nm_eq, if_true, if_false, Bool.false_eq_true, not_true_eq_false, not_false_eq_true]
    rw [e_inRings a3 (by omega) (fun i hi => (h.pc.2.2 i hi).2.2.2.2.2.2)]
    simp only [ob_some, nm_eq, if_true, if_false, Bool.false_eq_true, not_true_eq_false, not_false_eq_true]
  · obtain ⟨X, x1, x2, -, x4, -, x6⟩ := e_rd (F := F) h (by omega)
    exact ⟨X, e_ringsNow x2 x4 (by omega), x6⟩
theorem q_rings (hF : 1025 < F) : ∃ r, Qy P (sX7_rings F) r ∧ Qy P (sX8_rings F) r := by
  obtain ⟨r, h1, h2⟩ := q_ringsN (P := P) hF
  exact ⟨r, h1, fun M h => h2.wr h⟩
/-! days -/
theorem q_had_i (hF : 1025 < F) {i p d : Nat} (hi : i < 1024) (hp : p < 6) (hd : d < 100) : ∃ r, Qz P (sX7_had F (nI i) (nI p) (nI d)) r ∧ Qy P (sX8_hadOf F (nI i) (nI p) (nI d)) r := by
  refine ⟨nI (i &&& owS (pq P) (pN P) p &&& dyS (pq P) (pN P) (d + pL P)), fun M h => ?_, fun M h => ?_⟩
  · have hL := h.se.2.1
    unfold sX7_had
    rw [nrow_f F M (row_in hi), out_f F M (show ¬ (nI p < 0 ∨ 6 ≤ nI p) from fun z => z.elim (nI_pos (by omega)) (nI_ge (b := 6) hp (by decide))), nday_f F M (show ¬ (nI d < 0 ∨ 100 ≤ nI d) from fun z => z.elim (nI_pos (by omega)) (nI_ge (b := 100) hd (by decide)))]
    simp only [ob_some, nm_eq, if_true, if_false, Bool.false_eq_true, not_true_eq_false, not_false_eq_true]
    rw [z_ibL (by decide) (by decide), z_ixL (by decide), show (8 + 1 + OfNat.ofNat 0 : Nat) = 9 from rfl, e_with0 h.pc (by omega) (by omega)]
    simp only [ob_some, nm_eq, if_true, if_false, Bool.false_eq_true, not_true_eq_false, not_false_eq_true]
    rw [z_ibL (by decide) (by decide), z_ibL (by decide) (by decide), (h.se.1 0 (by decide)).1, z_add, e_byDay0 h.pc (by omega) (by have : pL P ≤ 20 := hL.2; show d + pL P < 1000; omega)]
    simp only [ob_some, nm_eq, if_true, if_false, Bool.false_eq_true, not_true_eq_false, not_false_eq_true]
    rw [z_and, z_and]
    rfl
  · obtain ⟨X, x1, x2, x3, x4, -, x6⟩ := e_rd (F := F) h (by omega)
    exact ⟨X, e_hadOf x3 x4 (by omega) hi (by omega) (by omega), x6⟩
theorem q_asked_i (hF : 1025 < F) {i p d : Nat} (hi : i < 1024) (hp : p < 6) (hd : d < 100) : ∃ r, Qz P (sX7_asked F (nI i) (nI p) (nI d)) r ∧ Qy P (sX8_askedOf F (nI i) (nI p) (nI d)) r := by
  refine ⟨nI (i &&& owS (pq P) (pN P) p &&& dyS (pq P) (pN P) d), fun M h => ?_, fun M h => ?_⟩
  · unfold sX7_asked
    rw [nrow_f F M (row_in hi), out_f F M (show ¬ (nI p < 0 ∨ 6 ≤ nI p) from fun z => z.elim (nI_pos (by omega)) (nI_ge (b := 6) hp (by decide))), nday_f F M (show ¬ (nI d < 0 ∨ 100 ≤ nI d) from fun z => z.elim (nI_pos (by omega)) (nI_ge (b := 100) hd (by decide)))]
    simp only [ob_some, nm_eq, if_true, if_false, Bool.false_eq_true, not_true_eq_false, not_false_eq_true]
    rw [z_ibL (by decide) (by decide), z_ixL (by decide), show (8 + 1 + OfNat.ofNat 0 : Nat) = 9 from rfl, e_with0 h.pc (by omega) (by omega)]
    simp only [ob_some, nm_eq, if_true, if_false, Bool.false_eq_true, not_true_eq_false, not_false_eq_true]
    rw [z_ibL (by decide) (by decide), e_byDay0 h.pc (by omega) (by omega)]
    simp only [ob_some, nm_eq, if_true, if_false, Bool.false_eq_true, not_true_eq_false, not_false_eq_true]
    rw [z_and, z_and]
  · obtain ⟨X, x1, x2, x3, x4, -, x6⟩ := e_rd (F := F) h (by omega)
    exact ⟨X, e_askedOf x3 x4 (by omega) hi (by omega) (by omega), x6⟩
theorem q_open_i (hF : 1025 < F) {i d : Nat} (hi : i < 1024) (hd : d < 100) : ∃ r, Qz P (sX7_open F (nI i) (nI d)) r ∧ Qy P (sX8_openOf F (nI i) (nI d)) r := by
  refine ⟨nI (i &&& dyS (pq P) (pN P) (d + pL P) ^^^ (i &&& dyS (pq P) (pN P) (d + pL P) &&& dyS (pq P) (pN P) d)), fun M h => ?_, fun M h => ?_⟩
  · have hL := h.se.2.1
    unfold sX7_open
    rw [nrow_f F M (row_in hi), nday_f F M (show ¬ (nI d < 0 ∨ 100 ≤ nI d) from fun z => z.elim (nI_pos (by omega)) (nI_ge (b := 100) hd (by decide)))]
    simp only [ob_some, nm_eq, if_true, if_false, Bool.false_eq_true, not_true_eq_false, not_false_eq_true]
    rw [z_ibL (by decide) (by decide), z_ibL (by decide) (by decide), z_ixL (by decide), show (8 + 1 + OfNat.ofNat 0 : Nat) = 9 from rfl, (h.se.1 0 (by decide)).1, z_add, e_byDay0 h.pc (by omega) (by have : pL P ≤ 20 := hL.2; show d + pL P < 1000; omega)]
    simp only [ob_some, nm_eq, if_true, if_false, Bool.false_eq_true, not_true_eq_false, not_false_eq_true]
    rw [z_ibL (by decide) (by decide), e_byDay0 h.pc (by omega) (by omega)]
    simp only [ob_some, nm_eq, if_true, if_false, Bool.false_eq_true, not_true_eq_false, not_false_eq_true]
    rw [z_and, z_not]
    rfl
  · obtain ⟨X, x1, x2, x3, x4, -, x6⟩ := e_rd (F := F) h (by omega)
    exact ⟨X, e_openOf x3 x4 (by omega) hi (by omega), x6⟩
theorem q_had (hF : 1025 < F) (a b c : Int32) : ∃ r, Qz P (sX7_had F a b c) r ∧ Qy P (sX8_had F a b c) r := by
  rcases rg a 1024 1023 1024 rfl rfl (by decide) (by decide) with ⟨o, i⟩ | ⟨j, hj, rfl, o, i⟩
  · refine ⟨-2, fun M h => ?_, fun M h => ⟨M, ?_, h⟩⟩
    · unfold sX7_had
      rw [nrow_t F M o]
      simp only [ob_some, nm_eq, if_true, if_false, Bool.false_eq_true, not_true_eq_false, not_false_eq_true]
    · unfold sX8_had
      rw [row_f F M i]
      simp only [ob_some, nm_eq, if_true, if_false, Bool.false_eq_true, not_true_eq_false, not_false_eq_true]
  · rcases rg b 6 5 6 rfl rfl (by decide) (by decide) with ⟨o2, i2⟩ | ⟨p, hp, rfl, o2, i2⟩
    · refine ⟨-2, fun M h => ?_, fun M h => ⟨M, ?_, h⟩⟩
      · unfold sX7_had
        rw [nrow_f F M o, out_t F M o2]
        simp only [ob_some, nm_eq, if_true, if_false, Bool.false_eq_true, not_true_eq_false, not_false_eq_true]
      · unfold sX8_had
        rw [row_t F M i, per_f F M i2]
        simp only [ob_some, nm_eq, if_true, if_false, Bool.false_eq_true, not_true_eq_false, not_false_eq_true]
    · rcases rg c 100 99 100 rfl rfl (by decide) (by decide) with ⟨o3, i3⟩ | ⟨d, hd, rfl, o3, i3⟩
      · refine ⟨-2, fun M h => ?_, fun M h => ⟨M, ?_, h⟩⟩
        · unfold sX7_had
          rw [nrow_f F M o, out_f F M o2, nday_t F M o3]
          simp only [ob_some, nm_eq, if_true, if_false, Bool.false_eq_true, not_true_eq_false, not_false_eq_true]
        · unfold sX8_had
          rw [row_t F M i, per_t F M i2, day_f F M i3]
          simp only [ob_some, nm_eq, if_true, if_false, Bool.false_eq_true, not_true_eq_false, not_false_eq_true]
      · obtain ⟨r, h1, h2⟩ := q_had_i (P := P) hF hj hp hd
        refine ⟨r, h1, fun M h => ?_⟩
        unfold sX8_had
        rw [row_t F M i, per_t F M i2, day_t F M i3]
        simp only [ob_some, nm_eq, if_true, if_false, Bool.false_eq_true, not_true_eq_false, not_false_eq_true]
        exact h2.wr h
theorem q_asked (hF : 1025 < F) (a b c : Int32) : ∃ r, Qz P (sX7_asked F a b c) r ∧ Qy P (sX8_asked F a b c) r := by
  rcases rg a 1024 1023 1024 rfl rfl (by decide) (by decide) with ⟨o, i⟩ | ⟨j, hj, rfl, o, i⟩
  · refine ⟨-2, fun M h => ?_, fun M h => ⟨M, ?_, h⟩⟩
    · unfold sX7_asked
      rw [nrow_t F M o]
      simp only [ob_some, nm_eq, if_true, if_false, Bool.false_eq_true, not_true_eq_false, not_false_eq_true]
    · unfold sX8_asked
      rw [row_f F M i]
      simp only [ob_some, nm_eq, if_true, if_false, Bool.false_eq_true, not_true_eq_false, not_false_eq_true]
  · rcases rg b 6 5 6 rfl rfl (by decide) (by decide) with ⟨o2, i2⟩ | ⟨p, hp, rfl, o2, i2⟩
    · refine ⟨-2, fun M h => ?_, fun M h => ⟨M, ?_, h⟩⟩
      · unfold sX7_asked
        rw [nrow_f F M o, out_t F M o2]
        simp only [ob_some, nm_eq, if_true, if_false, Bool.false_eq_true, not_true_eq_false, not_false_eq_true]
      · unfold sX8_asked
        rw [row_t F M i, per_f F M i2]
        simp only [ob_some, nm_eq, if_true, if_false, Bool.false_eq_true, not_true_eq_false, not_false_eq_true]
    · rcases rg c 100 99 100 rfl rfl (by decide) (by decide) with ⟨o3, i3⟩ | ⟨d, hd, rfl, o3, i3⟩
      · refine ⟨-2, fun M h => ?_, fun M h => ⟨M, ?_, h⟩⟩
        · unfold sX7_asked
          rw [nrow_f F M o, out_f F M o2, nday_t F M o3]
          simp only [ob_some, nm_eq, if_true, if_false, Bool.false_eq_true, not_true_eq_false, not_false_eq_true]
        · unfold sX8_asked
          rw [row_t F M i, per_t F M i2, day_f F M i3]
          simp only [ob_some, nm_eq, if_true, if_false, Bool.false_eq_true, not_true_eq_false, not_false_eq_true]
      · obtain ⟨r, h1, h2⟩ := q_asked_i (P := P) hF hj hp hd
        refine ⟨r, h1, fun M h => ?_⟩
        unfold sX8_asked
        rw [row_t F M i, per_t F M i2, day_t F M i3]
        simp only [ob_some, nm_eq, if_true, if_false, Bool.false_eq_true, not_true_eq_false, not_false_eq_true]
        exact h2.wr h
theorem q_open (hF : 1025 < F) (a c : Int32) : ∃ r, Qz P (sX7_open F a c) r ∧ Qy P (sX8_open F a c) r := by
  rcases rg a 1024 1023 1024 rfl rfl (by decide) (by decide) with ⟨o, i⟩ | ⟨j, hj, rfl, o, i⟩
  · refine ⟨-2, fun M h => ?_, fun M h => ⟨M, ?_, h⟩⟩
    · unfold sX7_open
      rw [nrow_t F M o]
      simp only [ob_some, nm_eq, if_true, if_false, Bool.false_eq_true, not_true_eq_false, not_false_eq_true]
    · unfold sX8_open
      rw [row_f F M i]
      simp only [ob_some, nm_eq, if_true, if_false, Bool.false_eq_true, not_true_eq_false, not_false_eq_true]
  · rcases rg c 100 99 100 rfl rfl (by decide) (by decide) with ⟨o3, i3⟩ | ⟨d, hd, rfl, o3, i3⟩
    · refine ⟨-2, fun M h => ?_, fun M h => ⟨M, ?_, h⟩⟩
      · unfold sX7_open
        rw [nrow_f F M o, nday_t F M o3]
        simp only [ob_some, nm_eq, if_true, if_false, Bool.false_eq_true, not_true_eq_false, not_false_eq_true]
      · unfold sX8_open
        rw [row_t F M i, day_f F M i3]
        simp only [ob_some, nm_eq, if_true, if_false, Bool.false_eq_true, not_true_eq_false, not_false_eq_true]
    · obtain ⟨r, h1, h2⟩ := q_open_i (P := P) hF hj hd
      refine ⟨r, h1, fun M h => ?_⟩
      unfold sX8_open
      rw [row_t F M i, day_t F M i3]
      simp only [ob_some, nm_eq, if_true, if_false, Bool.false_eq_true, not_true_eq_false, not_false_eq_true]
      exact h2.wr h
end Ask2
