/-! copy, write -/
section CopyS
variable {F : Nat} {P : Pm} {M X : Mem}
theorem nat_of {a : Int32} (h0 : 0 ≤ a.toInt) (h1 : a.toInt ≤ 48) : ∃ x : Nat, x ≤ 48 ∧ a = nI x := by
  rcases z_cases a 49 (by decide) with c | ⟨c, -⟩ | ⟨x, hx, e⟩
  · rw [Int32.lt_iff_toInt_lt] at c
    have : (0 : Int32).toInt = 0 := rfl
    omega
  · rw [Int32.le_iff_toInt_le, nI_toInt (by decide)] at c
    omega
  · exact ⟨x, by omega, e⟩
/-- the model's test of a run -/
theorem run_no {zs zt : Nat} (hs : zs ≤ 48) (ht : zt ≤ 48) (a b c : Int32) (hn : ¬ ((0 ≤ a.toInt ∧ 0 ≤ c.toInt ∧ a.toInt + c.toInt ≤ zs) ∧ (0 ≤ b.toInt ∧ 0 ≤ c.toInt ∧ b.toInt + c.toInt ≤ zt))) (J K : Option (Int32 × Mem)) : (if a < 0 then J else if b < 0 then J else if c < 0 then J else if (nI zs).toInt64 < a.toInt64 + c.toInt64 then J else if b.toInt64 + c.toInt64 ≤ (nI zt).toInt64 then K else J) = J := by
  have z0 : (0 : Int32).toInt = 0 := rfl
  by_cases c1 : a < 0
  · rw [if_pos c1]
  · by_cases c2 : b < 0
    · rw [if_neg c1, if_pos c2]
    · by_cases c3 : c < 0
      · rw [if_neg c1, if_neg c2, if_pos c3]
      · rw [if_neg c1, if_neg c2, if_neg c3]
        by_cases c4 : (nI zs).toInt64 < a.toInt64 + c.toInt64
        · rw [if_pos c4]
        · rw [if_neg c4, if_neg (fun c5 => hn ?_)]
          rw [Int32.lt_iff_toInt_lt] at c1 c2 c3
          rw [Int64.lt_iff_toInt_lt, l64_sum, Int32.toInt_toInt64, nI_toInt (by omega)] at c4
          rw [Int64.le_iff_toInt_le, l64_sum, Int32.toInt_toInt64, nI_toInt (by omega)] at c5
          omega
theorem run_yes {zs zt : Nat} (hs : zs ≤ 48) (ht : zt ≤ 48) (a b c : Int32) (hn : (0 ≤ a.toInt ∧ 0 ≤ c.toInt ∧ a.toInt + c.toInt ≤ zs) ∧ (0 ≤ b.toInt ∧ 0 ≤ c.toInt ∧ b.toInt + c.toInt ≤ zt)) (J K : Option (Int32 × Mem)) : (if a < 0 then J else if b < 0 then J else if c < 0 then J else if (nI zs).toInt64 < a.toInt64 + c.toInt64 then J else if b.toInt64 + c.toInt64 ≤ (nI zt).toInt64 then K else J) = K := by
  have z0 : (0 : Int32).toInt = 0 := rfl
  rw [if_neg (by rw [Int32.lt_iff_toInt_lt]; omega), if_neg (by rw [Int32.lt_iff_toInt_lt]; omega), if_neg (by rw [Int32.lt_iff_toInt_lt]; omega), if_neg (by rw [Int64.lt_iff_toInt_lt, l64_sum, Int32.toInt_toInt64, nI_toInt (by omega)]; omega), if_pos (by rw [Int64.le_iff_toInt_le, l64_sum, Int32.toInt_toInt64, nI_toInt (by omega)]; omega)]
theorem u_copy (hF : 1025 < F) (a b c d e : Int32) : Up (sX7_copy F a b c d e) (sX8_copy F a b c d e) := fun M hM => by
  obtain ⟨n, bb, N, f, st, h⟩ := hM
  rcases rg a 4 3 4 rfl rfl (by decide) (by decide) with ⟨o, i⟩ | ⟨s, hs, rfl, o, i⟩
  · refine ⟨-2, M, M, ?_, ?_, h.iv⟩
    · unfold sX7_copy
      rw [out_t F M o]
      simp only [ob_some, nm_eq, if_true, if_false, Bool.false_eq_true, not_true_eq_false, not_false_eq_true]
    · unfold sX8_copy sX8_isSheet
      rw [in_f F M i]
      simp only [ob_some, nm_eq, if_true, if_false, Bool.false_eq_true, not_true_eq_false, not_false_eq_true]
  · rcases rg c 4 3 4 rfl rfl (by decide) (by decide) with ⟨o2, i2⟩ | ⟨t, ht, rfl, o2, i2⟩
    · refine ⟨-2, M, M, ?_, ?_, h.iv⟩
      · unfold sX7_copy
        rw [out_f F M o, out_t F M o2]
        simp only [ob_some, nm_eq, if_true, if_false, Bool.false_eq_true, not_true_eq_false, not_false_eq_true]
      · unfold sX8_copy sX8_isSheet
        rw [in_t F M i, in_f F M i2]
        simp only [ob_some, nm_eq, if_true, if_false, Bool.false_eq_true, not_true_eq_false, not_false_eq_true]
    · rcases h.sh s hs with ⟨⟨l1, l2⟩, l3⟩ | ⟨fo, z, ⟨hfo, hz48⟩, ⟨c1, c2⟩, ⟨m1, m2, m3⟩, hit⟩
      · refine ⟨-10 - 1, st2 M 0 11 1, st2 (st2 M 0 11 1) 37 22 1, ?_, ?_, Iv.find h 1⟩
        · unfold sX7_copy
          rw [out_f F M o, out_f F M o2]
          simp only [ob_some, nm_eq, if_true, if_false, Bool.false_eq_true, not_true_eq_false, not_false_eq_true]
          rw [z_ib hs (by decide), z_ix (by omega), show 28 + 1 + s = 29 + s from rfl, lost_t l1]
          simp only [ob_some, nm_eq, if_true, if_false, Bool.false_eq_true, not_true_eq_false, not_false_eq_true]
          rfl
        · unfold sX8_copy sX8_isSheet
          rw [in_t F _ i, in_t F _ i2]
          simp only [ob_some, nm_eq, if_true, if_false, Bool.false_eq_true, not_true_eq_false, not_false_eq_true]
          rw [z_ib hs (by decide), z_ix (by omega), st2_k _ _ _ (show (49 : Nat) ≠ 0 by decide), l3, if_pos rfl]
          rfl
      · rcases h.sh t ht with ⟨⟨k1, k2⟩, k3'⟩ | ⟨fo', z', ⟨hfo', hz48'⟩, ⟨d1, d2⟩, ⟨n1, n2, n3⟩, hit'⟩
        · refine ⟨-10 - 1, st2 M 0 11 1, st2 (st2 M 0 11 1) 37 22 1, ?_, ?_, Iv.find h 1⟩
          · unfold sX7_copy
            rw [out_f F M o, out_f F M o2]
            simp only [ob_some, nm_eq, if_true, if_false, Bool.false_eq_true, not_true_eq_false, not_false_eq_true]
            rw [z_ib hs (by decide), z_ix (by omega), show 28 + 1 + s = 29 + s from rfl, lost_f hfo c1]
            simp only [ob_some, nm_eq, if_true, if_false, Bool.false_eq_true, not_true_eq_false, not_false_eq_true]
            rw [z_ib ht (by decide), z_ix (by omega), show 28 + 1 + t = 29 + t from rfl, lost_t k1]
            simp only [ob_some, nm_eq, if_true, if_false, Bool.false_eq_true, not_true_eq_false, not_false_eq_true]
            rfl
          · unfold sX8_copy sX8_isSheet
            rw [in_t F _ i, in_t F _ i2]
            simp only [ob_some, nm_eq, if_true, if_false, Bool.false_eq_true, not_true_eq_false, not_false_eq_true]
            rw [z_ib hs (by decide), z_ix (by omega), st2_k _ _ _ (show (49 : Nat) ≠ 0 by decide), m1, if_neg (by decide), z_ib ht (by decide), z_ix (by omega), k3', if_neg (not_not_intro rfl)]
            rfl
        · by_cases cf : fo = fo'
          · subst cf
            by_cases cr : (0 ≤ b.toInt ∧ 0 ≤ e.toInt ∧ b.toInt + e.toInt ≤ z) ∧ (0 ≤ d.toInt ∧ 0 ≤ e.toInt ∧ d.toInt + e.toInt ≤ z')
            · obtain ⟨x, hx, rfl⟩ := nat_of (a := b) cr.1.1 (by omega)
              obtain ⟨y, hy, rfl⟩ := nat_of (a := d) cr.2.1 (by omega)
              obtain ⟨w, hw, rfl⟩ := nat_of (a := e) cr.1.2.1 (by omega)
              have hxw : x + w ≤ z := by
                have := cr.1.2.2
                rw [nI_toInt (by omega), nI_toInt (by omega)] at this
                omega
              have hyw : y + w ≤ z' := by
                have := cr.2.2.2
                rw [nI_toInt (by omega), nI_toInt (by omega)] at this
                omega
              generalize hM1 : stC M (33 + t) (va_cpy (M (33 + s)) (M (33 + t)) x y w) = M1
              have m1k : ∀ k, k ≠ 33 + t → M1 k = M k := fun k q => by rw [← hM1, stC_ne _ _ q]
              generalize hM2 : stC M1 53 (fun p => if p < w then M1 52 (48 * s + x + p) else M1 53 p) = M2
              have m2k : ∀ k, k ≠ 53 → M2 k = M1 k := fun k q => by rw [← hM2, stC_ne _ _ q]
              generalize hM3 : stC M2 52 (fun p => if 48 * t + y ≤ p ∧ p < 48 * t + y + w then M2 53 (p - (48 * t + y)) else M2 52 p) = M3
              have m3k : ∀ k, k ≠ 52 → M3 k = M2 k := fun k q => by rw [← hM3, stC_ne _ _ q]
              have m352 : ∀ p, M3 52 p = if 48 * t + y ≤ p ∧ p < 48 * t + y + w then M 52 (48 * s + x + (p - (48 * t + y))) else M 52 p := fun p => by
                rw [← hM3, stC_same]
                by_cases q : 48 * t + y ≤ p ∧ p < 48 * t + y + w
                · rw [if_pos q, if_pos q, ← hM2, stC_same, if_pos (by omega), m1k 52 (by omega)]
                · rw [if_neg q, if_neg q, m2k 52 (by decide), m1k 52 (by omega)]
              refine ⟨1, M1, M3, ?_, ?_, ?_⟩
              · unfold sX7_copy
                rw [out_f F M o, out_f F M o2]
                simp only [ob_some, nm_eq, if_true, if_false, Bool.false_eq_true, not_true_eq_false, not_false_eq_true]
                rw [z_ib hs (by decide), z_ix (by omega), show 28 + 1 + s = 29 + s from rfl, lost_f hfo c1]
                simp only [ob_some, nm_eq, if_true, if_false, Bool.false_eq_true, not_true_eq_false, not_false_eq_true]
                rw [z_ib ht (by decide), z_ix (by omega), show 28 + 1 + t = 29 + t from rfl, lost_f hfo d1]
                simp only [ob_some, nm_eq, if_true, if_false, Bool.false_eq_true, not_true_eq_false, not_false_eq_true]
                unfold sX5_form sX5_takeRun
                simp only [ob_some]
                rw [z_ib hs (by decide), z_ib ht (by decide), c1, d1, if_pos rfl, z_ib hs (by decide), e_hasRun c2 hz48, decide_eq_true cr.1]
                simp only [ob_some, nm_eq, if_true, if_false, Bool.false_eq_true, not_true_eq_false, not_false_eq_true]
                rw [z_ib ht (by decide), e_hasRun d2 hz48', decide_eq_true cr.2]
                simp only [ob_some, nm_eq, if_true, if_false, Bool.false_eq_true, not_true_eq_false, not_false_eq_true]
                rw [z_ib ht (by decide), z_ib hs (by decide)]
                unfold cpb
                rw [if_pos ⟨⟨nI_pos (by omega), nI_pos (by omega), nI_pos (by omega)⟩, by rw [z_ix (by omega), z_ix (by omega)]; omega, by rw [z_ix (by omega), z_ix (by omega)]; omega⟩, z_ix (by omega), z_ix (by omega), z_ix (by omega), show 29 + t + 4 = 33 + t by omega, show 29 + s + 4 = 33 + s by omega, hM1]
                simp only [ob_some, nm_eq, if_true, if_false, Bool.false_eq_true, not_true_eq_false, not_false_eq_true]
              · unfold sX8_copy sX8_isSheet
                rw [in_t F _ i, in_t F _ i2]
                simp only [ob_some, nm_eq, if_true, if_false, Bool.false_eq_true, not_true_eq_false, not_false_eq_true]
                rw [z_ib hs (by decide), z_ix (by omega), m1k 49 (by omega), m1, if_neg (by decide), z_ib ht (by decide), z_ix (by omega), n1, if_pos (by decide), z_ib hs (by decide), z_ib ht (by decide), m1k 50 (by omega), m2, n2, if_pos rfl, z_ib hs (by decide), z_ib ht (by decide), m1k 51 (by omega), m3, n3, run_yes hz48 hz48' _ _ _ cr, e_moved hs (by omega) hF, hM2, e_movedBack ht (by omega) hF, hM3]
              · refine Iv.sheet h (X := M3) (fun k q1 q2 => ?_) (h.sh.set1 (X := M3) (s := t) (fun k q1 q2 q3 q4 => ?_) (fun r e => ⟨?_, ?_, ?_⟩) (fun r p hr e hp => ?_) ht (Or.inr ⟨fo, z', ⟨hfo, hz48'⟩, ⟨?_, ?_⟩, ⟨?_, ?_, ?_⟩, fun p hp => ?_⟩))
                · rw [m3k k (by omega), m2k k (by omega), m1k k (by omega)]
                · rw [m3k k (by omega), m2k k (by omega), m1k k (by omega)]
                · rw [m3k 49 (by decide), m2k 49 (by decide), m1k 49 (by omega)]
                · rw [m3k 50 (by decide), m2k 50 (by decide), m1k 50 (by omega)]
                · rw [m3k 51 (by decide), m2k 51 (by decide), m1k 51 (by omega)]
                · rw [m352, if_neg (by omega)]
                · rw [m3k _ (by omega), m2k _ (by omega), m1k _ (by omega)]; exact d1
                · rw [m3k _ (by omega), m2k _ (by omega), m1k _ (by omega)]; exact d2
                · rw [m3k _ (by omega), m2k _ (by omega), m1k _ (by omega)]; exact n1
                · rw [m3k _ (by omega), m2k _ (by omega), m1k _ (by omega)]; exact n2
                · rw [m3k _ (by omega), m2k _ (by omega), m1k _ (by omega)]; exact n3
                · rw [m3k _ (by omega), m2k _ (by omega), m352, ← hM1, stC_same]
                  by_cases q : y ≤ p ∧ p < y + w
                  · rw [pk_cpy_in q.1 q.2, if_pos (by omega), hit _ (by omega)]
                    congr 1
                    omega
                  · rw [pk_cpy_out (by omega), if_neg (by omega), hit' p hp]
            · refine ⟨-10 - 2, st2 M 0 11 2, st2 (st2 M 0 11 2) 37 22 2, ?_, ?_, Iv.find h 2⟩
              · unfold sX7_copy
                rw [out_f F M o, out_f F M o2]
                simp only [ob_some, nm_eq, if_true, if_false, Bool.false_eq_true, not_true_eq_false, not_false_eq_true]
                rw [z_ib hs (by decide), z_ix (by omega), show 28 + 1 + s = 29 + s from rfl, lost_f hfo c1]
                simp only [ob_some, nm_eq, if_true, if_false, Bool.false_eq_true, not_true_eq_false, not_false_eq_true]
                rw [z_ib ht (by decide), z_ix (by omega), show 28 + 1 + t = 29 + t from rfl, lost_f hfo d1]
                simp only [ob_some, nm_eq, if_true, if_false, Bool.false_eq_true, not_true_eq_false, not_false_eq_true]
                unfold sX5_form
                simp only [ob_some]
                rw [z_ib hs (by decide), z_ib ht (by decide), c1, d1, if_pos rfl, z_ib hs (by decide), e_hasRun c2 hz48]
                simp only [ob_some]
                by_cases q : 0 ≤ b.toInt ∧ 0 ≤ e.toInt ∧ b.toInt + e.toInt ≤ z
                · rw [if_pos (decide_eq_true q), z_ib ht (by decide), e_hasRun d2 hz48', decide_eq_false (fun w => cr ⟨q, w⟩)]
                  rfl
                · rw [if_neg (fun w => q (of_decide_eq_true w))]
                  rfl
              · unfold sX8_copy sX8_isSheet
                rw [in_t F _ i, in_t F _ i2]
                simp only [ob_some, nm_eq, if_true, if_false, Bool.false_eq_true, not_true_eq_false, not_false_eq_true]
                rw [z_ib hs (by decide), z_ix (by omega), st2_k _ _ _ (show (49 : Nat) ≠ 0 by decide), m1, if_neg (by decide), z_ib ht (by decide), z_ix (by omega), n1, if_pos (by decide), z_ib hs (by decide), z_ib ht (by decide), st2_k _ _ _ (show (50 : Nat) ≠ 0 by decide), m2, n2, if_pos rfl, z_ib hs (by decide), z_ib ht (by decide), st2_k _ _ _ (show (51 : Nat) ≠ 0 by decide), m3, n3, run_no hz48 hz48' _ _ _ cr]
                rfl
          · have hne : ¬ nI fo = nI fo' := fun w => cf ((nI_eq (by omega) (by omega)).mp w)
            refine ⟨-10 - 4, st2 M 0 11 4, st2 (st2 M 0 11 4) 37 22 4, ?_, ?_, Iv.find h 4⟩
            · unfold sX7_copy
              rw [out_f F M o, out_f F M o2]
              simp only [ob_some, nm_eq, if_true, if_false, Bool.false_eq_true, not_true_eq_false, not_false_eq_true]
              rw [z_ib hs (by decide), z_ix (by omega), show 28 + 1 + s = 29 + s from rfl, lost_f hfo c1]
              simp only [ob_some, nm_eq, if_true, if_false, Bool.false_eq_true, not_true_eq_false, not_false_eq_true]
              rw [z_ib ht (by decide), z_ix (by omega), show 28 + 1 + t = 29 + t from rfl, lost_f hfo' d1]
              simp only [ob_some, nm_eq, if_true, if_false, Bool.false_eq_true, not_true_eq_false, not_false_eq_true]
              unfold sX5_form
              simp only [ob_some]
              rw [z_ib hs (by decide), z_ib ht (by decide), c1, d1, if_neg hne]
              rfl
            · unfold sX8_copy sX8_isSheet
              rw [in_t F _ i, in_t F _ i2]
              simp only [ob_some, nm_eq, if_true, if_false, Bool.false_eq_true, not_true_eq_false, not_false_eq_true]
              rw [z_ib hs (by decide), z_ix (by omega), st2_k _ _ _ (show (49 : Nat) ≠ 0 by decide), m1, if_neg (by decide), z_ib ht (by decide), z_ix (by omega), n1, if_pos (by decide), z_ib hs (by decide), z_ib ht (by decide), st2_k _ _ _ (show (50 : Nat) ≠ 0 by decide), m2, n2, if_neg hne]
              rfl
end CopyS
