/-! questions: both sides answer alike, and nothing but scratch changes -/
section Ask
variable {F : Nat} {P : Pm} {M : Mem}
def Qy (P : Pm) (g : Mem → Option (Int32 × Mem)) (r : Int32) : Prop := ∀ M, Inv P M → ∃ M1, g M = some (r, M1) ∧ Inv P M1
def Qz (P : Pm) (g : Mem → Option Int32) (r : Int32) : Prop := ∀ M, Inv P M → g M = some r
theorem rg (v b hi : Int32) (n : Nat) (hb : b = nI n) (hh : hi = nI (n - 1)) (h0 : 0 < n) (hn : n < 2147483648) : ((v < 0 ∨ b ≤ v) ∧ ¬ (0 ≤ v ∧ v ≤ hi)) ∨ ∃ j, j < n ∧ v = nI j ∧ ¬ (v < 0 ∨ b ≤ v) ∧ (0 ≤ v ∧ v ≤ hi) := by
  subst hb hh
  rcases z_cases v n hn with h | ⟨h1, h2⟩ | ⟨j, hj, rfl⟩
  · refine Or.inl ⟨Or.inl h, fun z => ?_⟩
    have z1 := z.1
    rw [Int32.le_iff_toInt_le] at z1
    rw [Int32.lt_iff_toInt_lt] at h
    omega
  · refine Or.inl ⟨Or.inr h1, fun z => ?_⟩
    have z2 := z.2
    rw [Int32.le_iff_toInt_le, nI_toInt (by omega)] at z2 h1
    omega
  · refine Or.inr ⟨j, hj, rfl, fun z => ?_, ?_, ?_⟩
    · rcases z with z | z
      · exact nI_pos (by omega) z
      · exact nI_ge hj (by omega) z
    · rw [Int32.le_iff_toInt_le, nI_toInt (by omega)]
      have : (0 : Int32).toInt = 0 := rfl
      omega
    · exact nI_le (by omega) (by omega)
theorem out_t (F : Nat) {a b : Int32} (M : Mem) (h : a < 0 ∨ b ≤ a) : sX7_isOutside F a b M = some true := by rw [e_isOutside, decide_eq_true h]
theorem out_f (F : Nat) {a b : Int32} (M : Mem) (h : ¬ (a < 0 ∨ b ≤ a)) : sX7_isOutside F a b M = some false := by rw [e_isOutside, decide_eq_false h]
theorem in_t (F : Nat) {a l b : Int32} (M : Mem) (h : l ≤ a ∧ a ≤ b) : sX8_in F a l b M = some true := by rw [e_in, decide_eq_true h]
theorem in_f (F : Nat) {a l b : Int32} (M : Mem) (h : ¬ (l ≤ a ∧ a ≤ b)) : sX8_in F a l b M = some false := by rw [e_in, decide_eq_false h]
theorem nrow_t (F : Nat) {a : Int32} (M : Mem) (h : a < 0 ∨ 1024 ≤ a) : sX7_isNoRow F a M = some true := by unfold sX7_isNoRow; rw [out_t F M h]; rfl
theorem nrow_f (F : Nat) {a : Int32} (M : Mem) (h : ¬ (a < 0 ∨ 1024 ≤ a)) : sX7_isNoRow F a M = some false := by unfold sX7_isNoRow; rw [out_f F M h]; rfl
theorem row_t (F : Nat) {a : Int32} (M : Mem) (h : 0 ≤ a ∧ a ≤ 1023) : sX8_isRow F a M = some true := by unfold sX8_isRow; rw [in_t F M h]; rfl
theorem row_f (F : Nat) {a : Int32} (M : Mem) (h : ¬ (0 ≤ a ∧ a ≤ 1023)) : sX8_isRow F a M = some false := by unfold sX8_isRow; rw [in_f F M h]; rfl
theorem per_t (F : Nat) {a : Int32} (M : Mem) (h : 0 ≤ a ∧ a ≤ 5) : sX8_isPerson F a M = some true := by unfold sX8_isPerson; rw [in_t F M h]; rfl
theorem per_f (F : Nat) {a : Int32} (M : Mem) (h : ¬ (0 ≤ a ∧ a ≤ 5)) : sX8_isPerson F a M = some false := by unfold sX8_isPerson; rw [in_f F M h]; rfl
theorem day_t (F : Nat) {a : Int32} (M : Mem) (h : 0 ≤ a ∧ a ≤ 99) : sX8_isDay F a M = some true := by unfold sX8_isDay; rw [in_t F M h]; rfl
theorem day_f (F : Nat) {a : Int32} (M : Mem) (h : ¬ (0 ≤ a ∧ a ≤ 99)) : sX8_isDay F a M = some false := by unfold sX8_isDay; rw [in_f F M h]; rfl
theorem z_99 (a : Int32) : (a ≤ 99) ↔ ¬ (100 : Int32) ≤ a := by
  rw [Int32.le_iff_toInt_le, Int32.le_iff_toInt_le]
  have h1 : (99 : Int32).toInt = 99 := rfl
  have h2 : (100 : Int32).toInt = 100 := rfl
  omega
theorem nday_t (F : Nat) {a : Int32} (M : Mem) (h : a < 0 ∨ 100 ≤ a) : sX7_isNoDay F a M = some true := by
  unfold sX7_isNoDay
  by_cases c : a < 0
  · rw [if_pos c]
  · rw [if_neg c, if_neg (fun z => (z_99 a).mp z (h.resolve_left c))]
theorem nday_f (F : Nat) {a : Int32} (M : Mem) (h : ¬ (a < 0 ∨ 100 ≤ a)) : sX7_isNoDay F a M = some false := by
  unfold sX7_isNoDay
  rw [if_neg (fun z => h (Or.inl z)), if_pos ((z_99 a).mpr (fun z => h (Or.inr z)))]
/-! rows -/
theorem row_in {i : Nat} (hi : i < 1024) : ¬ (nI i < 0 ∨ 1024 ≤ nI i) := fun z => by
  rcases z with z | z
  · exact nI_pos (by omega) z
  · exact nI_ge (b := 1024) hi (by decide) z
theorem q_rows_i (hF : 1025 < F) {i : Nat} (hi : i < 1024) : ∃ r, Qy P (sX7_rows F (nI i)) r ∧ Qy P (sX8_rowsOf F (nI i)) r := by
  refine ⟨if i < cn (pq P) (pL P) (pN P) (pO P) (2 ^ pN P) then nI (ps (fp (pq P) (pL P) (pN P) (pO P)) (2 ^ pN P) i) else -1, fun M h => ?_, fun M h => ?_⟩
  · obtain ⟨M1, a1, a2, a3⟩ := e_rowsNow (F := F) h (by omega)
    refine ⟨M1, ?_, a2⟩
    unfold sX7_rows
    rw [if_neg (show ¬ nI i < -1 from fun z => by
      rw [Int32.lt_iff_toInt_lt, nI_toInt (by omega)] at z
      have : ((-1 : Int32)).toInt = -1 := by decide
      omega), if_pos (show nI i < 1024 from (nI_ltI (b := 1024) (by omega) (by decide)).mpr hi), if_pos (m1_ne (by omega)), a1]
    simp only [ob_some, nm_eq, if_true, if_false, Bool.false_eq_true, not_true_eq_false, not_false_eq_true]
    rw [e_nth a3 hi]
    simp only [ob_some, nm_eq, if_true, if_false, Bool.false_eq_true, not_true_eq_false, not_false_eq_true]
  · obtain ⟨X, -, -, x3, x4, -, x6⟩ := e_rd (F := F) h (by omega)
    exact ⟨X, e_rowsOf_i x3 x4 (by omega) hi, x6⟩
theorem q_rows_n (hF : 1025 < F) : ∃ r, Qy P (sX7_rows F (-1)) r ∧ Qy P (sX8_rowsOf F (-1)) r := by
  refine ⟨nI (cn (pq P) (pL P) (pN P) (pO P) (2 ^ pN P)), fun M h => ?_, fun M h => ?_⟩
  · obtain ⟨M1, a1, a2, a3⟩ := e_rowsNow (F := F) h (by omega)
    refine ⟨M1, ?_, a2⟩
    unfold sX7_rows sX3_howMany
    rw [if_neg (by decide), if_pos (by decide), if_neg (by decide), a1]
    simp only [ob_some, nm_eq, if_true, if_false, Bool.false_eq_true, not_true_eq_false, not_false_eq_true]
    rw [a3.1.2.2.2]
  · obtain ⟨X, -, -, x3, x4, -, x6⟩ := e_rd (F := F) h (by omega)
    exact ⟨X, e_rowsOf_n x3 x4 (by omega), x6⟩
theorem Qy.wr {g : Mem → Option (Int32 × Mem)} {r : Int32} (h : Qy P g r) {M : Mem} (hM : Inv P M) : ∃ M1, (g M).bind (fun r2 => some (r2.1, r2.2)) = some (r, M1) ∧ Inv P M1 := by
  obtain ⟨M1, a, b⟩ := h M hM
  exact ⟨M1, by rw [a]; rfl, b⟩
theorem q_rows (hF : 1025 < F) (a : Int32) : ∃ r, Qy P (sX7_rows F a) r ∧ Qy P (sX8_rows F a) r := by
  have hm : ((-1 : Int32)).toInt = -1 := by decide
  by_cases c : a = -1
  · subst c
    obtain ⟨r, h1, h2⟩ := q_rows_n (P := P) hF
    refine ⟨r, h1, fun M h => ?_⟩
    unfold sX8_rows
    rw [in_t F M (by decide)]
    simp only [ob_some, nm_eq, if_true, if_false, Bool.false_eq_true, not_true_eq_false, not_false_eq_true]
    exact h2.wr h
  · rcases rg a 1024 1023 1024 rfl rfl (by decide) (by decide) with ⟨o, i⟩ | ⟨j, hj, rfl, o, i⟩
    · have hi : ¬ (-1 ≤ a ∧ a ≤ 1023) := fun z => i ⟨by
        have z1 := z.1
        have : a.toInt ≠ -1 := fun e => c (Int32.toInt_inj.mp (by rw [e, hm]))
        rw [Int32.le_iff_toInt_le] at *
        have : (0 : Int32).toInt = 0 := rfl
        omega, z.2⟩
      refine ⟨-2, fun M h => ⟨M, ?_, h⟩, fun M h => ⟨M, ?_, h⟩⟩
      · unfold sX7_rows
        by_cases c1 : a < -1
        · rw [if_pos c1]
        · rw [if_neg c1, if_neg (fun z => ?_)]
          rcases o with o | o
          · have : a.toInt ≠ -1 := fun e => c (Int32.toInt_inj.mp (by rw [e, hm]))
            rw [Int32.lt_iff_toInt_lt] at *
            have : (0 : Int32).toInt = 0 := rfl
            omega
          · rw [Int32.lt_iff_toInt_lt] at z
            rw [Int32.le_iff_toInt_le] at o
            omega
      · unfold sX8_rows
        rw [in_f F M hi]
        simp only [ob_some, nm_eq, if_true, if_false, Bool.false_eq_true, not_true_eq_false, not_false_eq_true]
    · obtain ⟨r, h1, h2⟩ := q_rows_i (P := P) hF hj
      refine ⟨r, h1, fun M h => ?_⟩
      unfold sX8_rows
      rw [in_t F M ⟨by
        rw [Int32.le_iff_toInt_le, hm, nI_toInt (by omega)]; omega, i.2⟩]
      simp only [ob_some, nm_eq, if_true, if_false, Bool.false_eq_true, not_true_eq_false, not_false_eq_true]
      exact h2.wr h
/-! sure, cannot, freed -/
theorem two {j : Nat} (h : j < 2) : j = 0 ∨ j = 1 := by omega
theorem q_sure_j (hF : 1025 < F) {j : Nat} (hj : j < 2) : ∃ r, Qy P (sX7_sure F (nI j)) r ∧ Qy P (sX8_sureOf F (nI j)) r := by
  rcases two hj with c | c
  · subst c
    refine ⟨nI (sNo (pq P) (pL P) (pN P) (pO P) (2 ^ pN P)), fun M h => ?_, fun M h => ?_⟩
    · obtain ⟨M1, a1, a2, a3⟩ := e_rowsNow (F := F) h (by omega)
      refine ⟨M1, ?_, a2⟩
      unfold sX7_sure
      rw [out_f F M (by decide), a1]
      simp only [ob_some, nm_eq, if_true, if_false, Bool.false_eq_true, not_true_eq_false, not_false_eq_true]
      rw [if_pos (by decide), e_inNone a3 (by omega)]
      simp only [ob_some, nm_eq, if_true, if_false, Bool.false_eq_true, not_true_eq_false, not_false_eq_true]
    · obtain ⟨X, -, -, x3, x4, -, x6⟩ := e_rd (F := F) h (by omega)
      exact ⟨X, e_sureOf0 x3 x4 (by omega), x6⟩
  · subst c
    refine ⟨nI (sAll (pq P) (pL P) (pN P) (pO P) (2 ^ pN P)), fun M h => ?_, fun M h => ?_⟩
    · obtain ⟨M1, a1, a2, a3⟩ := e_rowsNow (F := F) h (by omega)
      refine ⟨M1, ?_, a2⟩
      unfold sX7_sure
      rw [out_f F M (by decide), a1]
      simp only [ob_some, nm_eq, if_true, if_false, Bool.false_eq_true, not_true_eq_false, not_false_eq_true]
      rw [if_neg (by decide), e_inAll a3 (by omega)]
      simp only [ob_some, nm_eq, if_true, if_false, Bool.false_eq_true, not_true_eq_false, not_false_eq_true]
    · obtain ⟨X, -, -, x3, x4, -, x6⟩ := e_rd (F := F) h (by omega)
      exact ⟨X, e_sureOf1 x3 x4 (by omega), x6⟩
theorem q_sure (hF : 1025 < F) (a : Int32) : ∃ r, Qy P (sX7_sure F a) r ∧ Qy P (sX8_sure F a) r := by
  rcases rg a 2 1 2 rfl rfl (by decide) (by decide) with ⟨o, i⟩ | ⟨j, hj, rfl, o, i⟩
  · refine ⟨-2, fun M h => ⟨M, ?_, h⟩, fun M h => ⟨M, ?_, h⟩⟩
    · unfold sX7_sure
      rw [out_t F M o]
      simp only [ob_some, nm_eq, if_true, if_false, Bool.false_eq_true, not_true_eq_false, not_false_eq_true]
    · unfold sX8_sure
      rw [in_f F M i]
      simp only [ob_some, nm_eq, if_true, if_false, Bool.false_eq_true, not_true_eq_false, not_false_eq_true]
  · obtain ⟨r, h1, h2⟩ := q_sure_j (P := P) hF hj
    refine ⟨r, h1, fun M h => ?_⟩
    unfold sX8_sure
    rw [in_t F M i]
    simp only [ob_some, nm_eq, if_true, if_false, Bool.false_eq_true, not_true_eq_false, not_false_eq_true]
    exact h2.wr h
theorem q_cannot_j (hF : 1025 < F) {j : Nat} (hj : j < 2) : ∃ r, Qy P (sX7_cannot F (nI j)) r ∧ Qy P (sX8_cannotOf F (nI j)) r := by
  refine ⟨if cnS (pq P) (pL P) (pN P) (pO P) (2 ^ pN P) = none ∨ nI j = 1 then oI (cnS (pq P) (pL P) (pN P) (pO P) (2 ^ pN P)) else nI (pc ((cnS (pq P) (pL P) (pN P) (pO P) (2 ^ pN P)).getD 0)), fun M h => ?_, fun M h => ?_⟩
  · obtain ⟨M1, a1, a2, a3⟩ := e_rowsNow (F := F) h (by omega)
    obtain ⟨M2, b1, b2, b3⟩ := e_fewestClashing (F := F) a3 (by omega)
    refine ⟨M2, ?_, a2.one (c := 20) rfl (by decide) b3⟩
    have hp := pow_le10 a3.1.2.1
    have hl := cnS_lt (q := pq P) (L := pL P) (N := pN P) (O := pO P) (2 ^ pN P)
    have hm := oI_m1 (a := cnS (pq P) (pL P) (pN P) (pO P) (2 ^ pN P)) (fun b hb => by have := hl b hb; omega)
    unfold sX7_cannot
    rw [out_f F M (by rcases two hj with c | c <;> subst c <;> decide), a1]
    simp only [ob_some, nm_eq, if_true, if_false, Bool.false_eq_true, not_true_eq_false, not_false_eq_true]
    rw [b1]
    simp only [ob_some, nm_eq, if_true, if_false, Bool.false_eq_true, not_true_eq_false, not_false_eq_true]
    by_cases c : nI j = 1
    · rw [if_pos c, if_pos (Or.inr c)]
    · rw [if_neg c]
      by_cases d : cnS (pq P) (pL P) (pN P) (pO P) (2 ^ pN P) = none
      · rw [if_neg (not_not_intro (hm.mpr d)), if_pos (Or.inl d)]
      · rw [if_pos (fun z => d (hm.mp z)), if_neg (fun z => z.elim d c)]
        cases hq : cnS (pq P) (pL P) (pN P) (pO P) (2 ^ pN P) with
        | none => exact absurd hq d
        | some b =>
          have := hl b hq
          show (sJ6_bitCount_0f7a4 F (nI b) M2).bind _ = _
          rw [e_bitCount F (by omega)]
          rfl
  · obtain ⟨X, -, -, x3, x4, -, x6⟩ := e_rd (F := F) h (by omega)
    obtain ⟨g, hg⟩ := e_cannotOf x3 x4 (by omega) (nI j)
    exact ⟨_, hg, x6.stC g rfl (by decide)⟩
theorem q_cannot (hF : 1025 < F) (a : Int32) : ∃ r, Qy P (sX7_cannot F a) r ∧ Qy P (sX8_cannot F a) r := by
  rcases rg a 2 1 2 rfl rfl (by decide) (by decide) with ⟨o, i⟩ | ⟨j, hj, rfl, o, i⟩
  · refine ⟨-2, fun M h => ⟨M, ?_, h⟩, fun M h => ⟨M, ?_, h⟩⟩
    · unfold sX7_cannot
      rw [out_t F M o]
      simp only [ob_some, nm_eq, if_true, if_false, Bool.false_eq_true, not_true_eq_false, not_false_eq_true]
    · unfold sX8_cannot
      rw [in_f F M i]
      simp only [ob_some, nm_eq, if_true, if_false, Bool.false_eq_true, not_true_eq_false, not_false_eq_true]
  · obtain ⟨r, h1, h2⟩ := q_cannot_j (P := P) hF hj
    refine ⟨r, h1, fun M h => ?_⟩
    unfold sX8_cannot
    rw [in_t F M i]
    simp only [ob_some, nm_eq, if_true, if_false, Bool.false_eq_true, not_true_eq_false, not_false_eq_true]
    exact h2.wr h
theorem q_freed_j (hF : 1025 < F) {j : Nat} (hj : j < 2) : ∃ r, Qy P (sX7_freed F (nI j)) r ∧ Qy P (sX8_freedOf F (nI j)) r := by
  refine ⟨if ¬ nI j = 0 then nI (frd (pq P) (pL P) (pN P) (pO P) (2 ^ pN P)) else nI (pc (frd (pq P) (pL P) (pN P) (pO P) (2 ^ pN P))), fun M h => ?_, fun M h => ?_⟩
  · obtain ⟨M1, a1, a2, a3⟩ := e_rowsNow (F := F) h (by omega)
    have hp := pow_le10 a3.1.2.1
    have hl := frd_lt (q := pq P) (L := pL P) (N := pN P) (O := pO P) (2 ^ pN P) (Nat.le_refl _)
    refine ⟨M1, ?_, a2⟩
    unfold sX7_freed
    rw [out_f F M (by rcases two hj with c | c <;> subst c <;> decide), a1]
    simp only [ob_some, nm_eq, if_true, if_false, Bool.false_eq_true, not_true_eq_false, not_false_eq_true]
    rw [e_fewestBroken a3 (by omega)]
    simp only [ob_some, nm_eq, if_true, if_false, Bool.false_eq_true, not_true_eq_false, not_false_eq_true]
    rw [e_bitCount F (by omega)]
    simp only [ob_some, nm_eq, if_true, if_false, Bool.false_eq_true, not_true_eq_false, not_false_eq_true]
    rcases two hj with c | c
    · subst c; rw [if_pos (by decide), if_neg (by decide)]
    · subst c; rw [if_neg (by decide), if_pos (by decide)]
  · obtain ⟨X, -, -, x3, x4, -, x6⟩ := e_rd (F := F) h (by omega)
    refine ⟨X, ?_, x6⟩
    rw [e_freedLoop x3 x4 (by omega)]
    split <;> rfl
theorem q_freed (hF : 1025 < F) (a : Int32) : ∃ r, Qy P (sX7_freed F a) r ∧ Qy P (sX8_freed F a) r := by
  rcases rg a 2 1 2 rfl rfl (by decide) (by decide) with ⟨o, i⟩ | ⟨j, hj, rfl, o, i⟩
  · refine ⟨-2, fun M h => ⟨M, ?_, h⟩, fun M h => ⟨M, ?_, h⟩⟩
    · unfold sX7_freed
      rw [out_t F M o]
      simp only [ob_some, nm_eq, if_true, if_false, Bool.false_eq_true, not_true_eq_false, not_false_eq_true]
    · unfold sX8_freed
      rw [in_f F M i]
      simp only [ob_some, nm_eq, if_true, if_false, Bool.false_eq_true, not_true_eq_false, not_false_eq_true]
  · obtain ⟨r, h1, h2⟩ := q_freed_j (P := P) hF hj
    refine ⟨r, h1, fun M h => ?_⟩
    unfold sX8_freed
    rw [in_t F M i]
    simp only [ob_some, nm_eq, if_true, if_false, Bool.false_eq_true, not_true_eq_false, not_false_eq_true]
    exact h2.wr h
/-! broken, nearest, steps, returns -/
theorem q_broken_i (hF : 1025 < F) {i : Nat} (hi : i < 1024) : ∃ r, Qy P (sX7_broken F (nI i)) r ∧ Qy P (sX8_brokenOf F (nI i)) r := by
  refine ⟨nI (Bk (pq P) (pL P) (pN P) (i &&& (2 ^ pN P - 1)) (pO P)), fun M h => ?_, fun M h => ?_⟩
  · obtain ⟨M1, a1, a2, a3⟩ := e_rowsNow (F := F) h (by omega)
    refine ⟨M1, ?_, a2⟩
    unfold sX7_broken
    rw [nrow_f F M (row_in hi), a1]
    simp only [ob_some, nm_eq, if_true, if_false, Bool.false_eq_true, not_true_eq_false, not_false_eq_true]
    rw [e_brokenBy7 a3]
    simp only [ob_some, nm_eq, if_true, if_false, Bool.false_eq_true, not_true_eq_false, not_false_eq_true]
  · obtain ⟨X, -, -, x3, x4, -, x6⟩ := e_rd (F := F) h (by omega)
    exact ⟨X, e_brokenOf x3 x4 (by omega), x6⟩
theorem q_broken (hF : 1025 < F) (a : Int32) : ∃ r, Qy P (sX7_broken F a) r ∧ Qy P (sX8_broken F a) r := by
  rcases rg a 1024 1023 1024 rfl rfl (by decide) (by decide) with ⟨o, i⟩ | ⟨j, hj, rfl, o, i⟩
  · refine ⟨-2, fun M h => ⟨M, ?_, h⟩, fun M h => ⟨M, ?_, h⟩⟩
    · unfold sX7_broken
      rw [nrow_t F M o]
      simp only [ob_some, nm_eq, if_true, if_false, Bool.false_eq_true, not_true_eq_false, not_false_eq_true]
    · unfold sX8_broken
      rw [row_f F M i]
      simp only [ob_some, nm_eq, if_true, if_false, Bool.false_eq_true, not_true_eq_false, not_false_eq_true]
  · obtain ⟨r, h1, h2⟩ := q_broken_i (P := P) hF hj
    refine ⟨r, h1, fun M h => ?_⟩
    unfold sX8_broken
    rw [row_t F M i]
    simp only [ob_some, nm_eq, if_true, if_false, Bool.false_eq_true, not_true_eq_false, not_false_eq_true]
    exact h2.wr h
theorem q_nearest_i (hF : 1025 < F) {i : Nat} (hi : i < 1024) : ∃ r, Qy P (sX7_nearest F (nI i)) r ∧ Qy P (sX8_nearestOf F (nI i)) r := by
  refine ⟨oI (nrS (pq P) (pL P) (pN P) (pO P) (i &&& (2 ^ pN P - 1)) (2 ^ pN P)), fun M h => ?_, fun M h => ?_⟩
  · obtain ⟨M1, a1, a2, a3⟩ := e_rowsNow (F := F) h (by omega)
    refine ⟨M1, ?_, a2⟩
    unfold sX7_nearest
    rw [nrow_f F M (row_in hi), a1]
    simp only [ob_some, nm_eq, if_true, if_false, Bool.false_eq_true, not_true_eq_false, not_false_eq_true]
    rw [e_closestTo a3 (by omega)]
    simp only [ob_some, nm_eq, if_true, if_false, Bool.false_eq_true, not_true_eq_false, not_false_eq_true]
  · obtain ⟨X, -, -, x3, x4, -, x6⟩ := e_rd (F := F) h (by omega)
    exact ⟨X, e_nearestOf x3 x4 (by omega), x6⟩
theorem q_nearest (hF : 1025 < F) (a : Int32) : ∃ r, Qy P (sX7_nearest F a) r ∧ Qy P (sX8_nearest F a) r := by
  rcases rg a 1024 1023 1024 rfl rfl (by decide) (by decide) with ⟨o, i⟩ | ⟨j, hj, rfl, o, i⟩
  · refine ⟨-2, fun M h => ⟨M, ?_, h⟩, fun M h => ⟨M, ?_, h⟩⟩
    · unfold sX7_nearest
      rw [nrow_t F M o]
      simp only [ob_some, nm_eq, if_true, if_false, Bool.false_eq_true, not_true_eq_false, not_false_eq_true]
    · unfold sX8_nearest
      rw [row_f F M i]
      simp only [ob_some, nm_eq, if_true, if_false, Bool.false_eq_true, not_true_eq_false, not_false_eq_true]
  · obtain ⟨r, h1, h2⟩ := q_nearest_i (P := P) hF hj
    refine ⟨r, h1, fun M h => ?_⟩
    unfold sX8_nearest
    rw [row_t F M i]
    simp only [ob_some, nm_eq, if_true, if_false, Bool.false_eq_true, not_true_eq_false, not_false_eq_true]
    exact h2.wr h
theorem q_steps_i (hF : 1025 < F) {i k : Nat} (hi : i < 1024) (hk : k < 100) : ∃ r, Qy P (sX7_steps F (nI i) (nI k)) r ∧ Qy P (sX8_stepsOf F (nI i) (nI k)) r := by
  refine ⟨nI (itr (pq P) (pL P) (pN P) (pO P) (i &&& (2 ^ pN P - 1)) k), fun M h => ?_, fun M h => ?_⟩
  · obtain ⟨M1, a1, a2, a3⟩ := e_rowsNow (F := F) h (by omega)
    refine ⟨M1, ?_, a2⟩
    unfold sX7_steps
    rw [nrow_f F M (row_in hi), a1, if_neg (show ¬ nI k < 0 from nI_pos (by omega)), if_pos (show nI k ≤ 99 from nI_le (b := 99) (by omega) (by decide))]
    simp only [ob_some, nm_eq, if_true, if_false, Bool.false_eq_true, not_true_eq_false, not_false_eq_true]
    rw [e_behindSteps a3 (by omega) (by omega)]
    simp only [ob_some, nm_eq, if_true, if_false, Bool.false_eq_true, not_true_eq_false, not_false_eq_true]
  · obtain ⟨X, -, -, x3, x4, -, x6⟩ := e_rd (F := F) h (by omega)
    exact ⟨X, e_stepsOf x3 x4 (by omega) (by omega), x6⟩
theorem q_steps (hF : 1025 < F) (a b : Int32) : ∃ r, Qy P (sX7_steps F a b) r ∧ Qy P (sX8_steps F a b) r := by
  rcases rg a 1024 1023 1024 rfl rfl (by decide) (by decide) with ⟨o, i⟩ | ⟨j, hj, rfl, o, i⟩
  · refine ⟨-2, fun M h => ⟨M, ?_, h⟩, fun M h => ⟨M, ?_, h⟩⟩
    · unfold sX7_steps
      rw [nrow_t F M o]
      simp only [ob_some, nm_eq, if_true, if_false, Bool.false_eq_true, not_true_eq_false, not_false_eq_true]
    · unfold sX8_steps
      rw [row_f F M i]
      simp only [ob_some, nm_eq, if_true, if_false, Bool.false_eq_true, not_true_eq_false, not_false_eq_true]
  · rcases rg b 100 99 100 rfl rfl (by decide) (by decide) with ⟨o2, i2⟩ | ⟨k, hk, rfl, o2, i2⟩
    · refine ⟨-2, fun M h => ⟨M, ?_, h⟩, fun M h => ⟨M, ?_, h⟩⟩
      · unfold sX7_steps
        rw [nrow_f F M o]
        simp only [ob_some, nm_eq, if_true, if_false, Bool.false_eq_true, not_true_eq_false, not_false_eq_true]
        by_cases c : b < 0
        · rw [if_pos c]
        · rw [if_neg c, if_neg (fun z => (z_99 b).mp z (o2.resolve_left c))]
      · unfold sX8_steps
        rw [row_t F M i, in_f F M i2]
        simp only [ob_some, nm_eq, if_true, if_false, Bool.false_eq_true, not_true_eq_false, not_false_eq_true]
    · obtain ⟨r, h1, h2⟩ := q_steps_i (P := P) hF hj hk
      refine ⟨r, h1, fun M h => ?_⟩
      unfold sX8_steps
      rw [row_t F M i, in_t F M i2]
      simp only [ob_some, nm_eq, if_true, if_false, Bool.false_eq_true, not_true_eq_false, not_false_eq_true]
      exact h2.wr h
theorem q_returns_i (hF : 1025 < F) {i k : Nat} (hi : i < 1024) (hk : k < 2) : ∃ r, Qy P (sX7_returns F (nI i) (nI k)) r ∧ Qy P (sX8_returnsOf F (nI i) (nI k)) r := by
  refine ⟨if nI k = 0 then nI (rpT (pq P) (pL P) (pN P) (pO P) (i &&& (2 ^ pN P - 1))) else nI (rpR (pq P) (pL P) (pN P) (pO P) (i &&& (2 ^ pN P - 1))), fun M h => ?_, fun M h => ?_⟩
  · obtain ⟨M1, a1, a2, a3⟩ := e_rowsNow (F := F) h (by omega)
    obtain ⟨M2, b1, b2, b3⟩ := e_stepsToReturn (F := F) a3 (by omega) (a := i) (nI k)
    refine ⟨M2, ?_, a2.one (c := 20) rfl (by decide) b3⟩
    unfold sX7_returns
    rw [nrow_f F M (row_in hi), out_f F M (show ¬ (nI k < 0 ∨ 2 ≤ nI k) by rcases two hk with c | c <;> subst c <;> decide), a1]
    simp only [ob_some, nm_eq, if_true, if_false, Bool.false_eq_true, not_true_eq_false, not_false_eq_true]
    have : (if ¬ nI k = 1 then (sX3_stepsToReturn F (nI i) 0 M1).bind (fun r6 => some (r6.1, r6.2)) else (sX3_stepsToReturn F (nI i) 1 M1).bind (fun r6 => some (r6.1, r6.2))) = (sX3_stepsToReturn F (nI i) (nI k) M1).bind (fun r6 => some (r6.1, r6.2)) := by
      rcases two hk with c | c
      · subst c; rw [if_pos (by decide)]; rfl
      · subst c; rw [if_neg (by decide)]; rfl
    rw [this, b1]
    rfl
  · obtain ⟨X, -, -, x3, x4, -, x6⟩ := e_rd (F := F) h (by omega)
    obtain ⟨g, hg⟩ := e_returnsOf (F := F) x3 x4 (by omega) (a := i) (nI k)
    exact ⟨_, hg, x6.stC g rfl (by decide)⟩
theorem q_returns (hF : 1025 < F) (a b : Int32) : ∃ r, Qy P (sX7_returns F a b) r ∧ Qy P (sX8_returns F a b) r := by
  rcases rg a 1024 1023 1024 rfl rfl (by decide) (by decide) with ⟨o, i⟩ | ⟨j, hj, rfl, o, i⟩
  · refine ⟨-2, fun M h => ⟨M, ?_, h⟩, fun M h => ⟨M, ?_, h⟩⟩
    · unfold sX7_returns
      rw [nrow_t F M o]
      simp only [ob_some, nm_eq, if_true, if_false, Bool.false_eq_true, not_true_eq_false, not_false_eq_true]
    · unfold sX8_returns
      rw [row_f F M i]
      simp only [ob_some, nm_eq, if_true, if_false, Bool.false_eq_true, not_true_eq_false, not_false_eq_true]
  · rcases rg b 2 1 2 rfl rfl (by decide) (by decide) with ⟨o2, i2⟩ | ⟨k, hk, rfl, o2, i2⟩
    · refine ⟨-2, fun M h => ⟨M, ?_, h⟩, fun M h => ⟨M, ?_, h⟩⟩
      · unfold sX7_returns
        rw [nrow_f F M o, out_t F M o2]
        simp only [ob_some, nm_eq, if_true, if_false, Bool.false_eq_true, not_true_eq_false, not_false_eq_true]
      · unfold sX8_returns
        rw [row_t F M i, in_f F M i2]
        simp only [ob_some, nm_eq, if_true, if_false, Bool.false_eq_true, not_true_eq_false, not_false_eq_true]
    · obtain ⟨r, h1, h2⟩ := q_returns_i (P := P) hF hj hk
      refine ⟨r, h1, fun M h => ?_⟩
      unfold sX8_returns
      rw [row_t F M i, in_t F M i2]
      simp only [ob_some, nm_eq, if_true, if_false, Bool.false_eq_true, not_true_eq_false, not_false_eq_true]
      exact h2.wr h
end Ask
