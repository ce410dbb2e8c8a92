/-! put -/
section PutS
variable {F : Nat} {P : Pm} {M X : Mem}
theorem put_find {s g : Nat} (hs : s < 4) {l c v v2 : Int32} (o : ¬ (nI s < 0 ∨ 4 ≤ nI s)) (l2 : ¬ v2 = 0) (l3 : sX7_itemRefusal F (29 + s) (nI g) c M = some (v2, st2 M 0 11 l)) : sX7_put F (nI s) (nI g) c v M = some (v2, st2 M 0 11 l) := by
  unfold sX7_put
  rw [out_f F M o]
  simp only [ob_some, nm_eq, if_true, if_false, Bool.false_eq_true, not_true_eq_false, not_false_eq_true]
  rw [z_ib hs (by decide), z_ix (by omega), show 28 + 1 + s = 29 + s from rfl, l3, ob_some]
  show (if v2 = 0 then _ else _) = _
  rw [if_neg l2]
theorem u_put (hF : 1025 < F) (a b c v : Int32) : Up (sX7_put F a b c v) (sX8_put F a b c v) := fun M hM => by
  obtain ⟨n, bb, N, f, st, h⟩ := hM
  rcases rg a 4 3 4 rfl rfl (by decide) (by decide) with ⟨o, i⟩ | ⟨s, hs, rfl, o, i⟩
  · refine ⟨-2, M, M, ?_, ?_, h.iv⟩
    · unfold sX7_put
      rw [out_t F M o]
      simp only [ob_some, nm_eq, if_true, if_false, Bool.false_eq_true, not_true_eq_false, not_false_eq_true]
    · unfold sX8_put sX8_isSheet
      rw [in_f F M i]
      simp only [ob_some, nm_eq, if_true, if_false, Bool.false_eq_true, not_true_eq_false, not_false_eq_true]
  · rcases rg b 3 2 3 rfl rfl (by decide) (by decide) with ⟨o2, i2⟩ | ⟨g, hg, rfl, o2, i2⟩
    · refine ⟨-2, M, M, ?_, ?_, h.iv⟩
      · unfold sX7_put sX7_itemRefusal
        rw [out_f F M o]
        simp only [ob_some, nm_eq, if_true, if_false, Bool.false_eq_true, not_true_eq_false, not_false_eq_true]
        rw [z_ib hs (by decide), out_t F M o2]
        simp only [ob_some, nm_eq, if_true, if_false, Bool.false_eq_true, not_true_eq_false, not_false_eq_true]
        rw [if_neg (by decide)]
      · unfold sX8_put sX8_isSheet
        rw [in_t F M i, in_f F M i2]
        simp only [ob_some, nm_eq, if_true, if_false, Bool.false_eq_true, not_true_eq_false, not_false_eq_true]
    · rcases e_lacks (F := F) (h.sh s hs) hs hg c with ⟨l, l1, l2, l3, l4⟩ | ⟨j, z, ⟨hj, hz, rfl⟩, ⟨c1, c2⟩, ⟨m1, m2, m3⟩, hit, l3, l4⟩
      · refine ⟨-10 - l, st2 M 0 11 l, st2 (st2 M 0 11 l) 37 22 l, ?_, ?_, Iv.find h l⟩
        · exact put_find hs o l2 l3
        · unfold sX8_put sX8_isSheet
          rw [in_t F _ i, in_t F _ i2]
          simp only [ob_some, nm_eq, if_true, if_false, Bool.false_eq_true, not_true_eq_false, not_false_eq_true]
          rw [l4 _ (st2_k _ _ _ (by decide)) (st2_k _ _ _ (by decide)) (st2_k _ _ _ (by decide))]
          simp only [ob_some, nm_eq, if_true, if_false, Bool.false_eq_true, not_true_eq_false, not_false_eq_true]
          rw [if_neg l1]
          rfl
      · generalize hM1 : st2 M (33 + s) j (nar g v) = M1
        have m1k : ∀ k, k ≠ 33 + s → M1 k = M k := fun k q1 => by rw [← hM1, st2_k _ _ _ q1]
        generalize hM2 : st2 M1 52 (48 * s + j) (nar g v) = M2
        have m2k : ∀ k, k ≠ 52 → M2 k = M1 k := fun k q1 => by rw [← hM2, st2_k _ _ _ q1]
        have l4' : sX8_lacks F (nI s) (nI g) (nI j) M1 = some 0 := by
          have : sX8_lacks F (nI s) (nI g) (nI j) M1 = sX8_lacks F (nI s) (nI g) (nI j) M := by
            unfold sX8_lacks
            rw [m1k 49 (by omega), m1k 50 (by omega), m1k 51 (by omega), e_in, e_in]
          rw [this]; exact l4
        refine ⟨1, M1, M2, ?_, ?_, ?_⟩
        · unfold sX7_put
          rw [out_f F M o]
          simp only [ob_some, nm_eq, if_true, if_false, Bool.false_eq_true, not_true_eq_false, not_false_eq_true]
          rw [z_ib hs (by decide), z_ix (by omega), show 28 + 1 + s = 29 + s from rfl, l3]
          simp only [ob_some, nm_eq, if_true, if_false, Bool.false_eq_true, not_true_eq_false, not_false_eq_true]
          rw [z_ib hs (by decide), e_setItem hg c1 c2 hz hj, hM1]
          simp only [ob_some, nm_eq, if_true, if_false, Bool.false_eq_true, not_true_eq_false, not_false_eq_true]
        · unfold sX8_put sX8_isSheet
          rw [in_t F _ i, in_t F _ i2]
          simp only [ob_some, nm_eq, if_true, if_false, Bool.false_eq_true, not_true_eq_false, not_false_eq_true]
          rw [l4']
          simp only [ob_some, nm_eq, if_true, if_false, Bool.false_eq_true, not_true_eq_false, not_false_eq_true]
          rw [if_pos (by decide), e_keep hs hg (by rw [m1k 50 (by omega)]; exact m2) (by omega), hM2]
          simp only [ob_some, nm_eq, if_true, if_false, Bool.false_eq_true, not_true_eq_false, not_false_eq_true]
        · refine Iv.sheet h (X := M2) (fun k q1 q2 => ?_) (h.sh.set1 (X := M2) (s := s) (fun k q1 q2 q3 q4 => ?_) (fun t e => ⟨?_, ?_, ?_⟩) (fun t x ht e hx => ?_) hs (Or.inr ⟨g, z, ⟨hg, hz⟩, ⟨?_, ?_⟩, ⟨?_, ?_, ?_⟩, fun x hx => ?_⟩))
          · rw [m2k k (by omega), m1k k (by omega)]
          · rw [m2k k (by omega), m1k k (by omega)]
          · rw [m2k 49 (by decide), m1k 49 (by omega)]
          · rw [m2k 50 (by decide), m1k 50 (by omega)]
          · rw [m2k 51 (by decide), m1k 51 (by omega)]
          · rw [← hM2, st2_i _ _ _ (by omega), m1k 52 (by omega)]
          · rw [m2k _ (by omega), m1k _ (by omega)]; exact c1
          · rw [m2k _ (by omega), m1k _ (by omega)]; exact c2
          · rw [m2k _ (by omega), m1k _ (by omega)]; exact m1
          · rw [m2k _ (by omega), m1k _ (by omega)]; exact m2
          · rw [m2k _ (by omega), m1k _ (by omega)]; exact m3
          · rw [m2k _ (by omega), ← hM2, ← hM1, st2_at, st2_at]
            by_cases e : x = j
            · rw [if_pos ⟨rfl, e⟩, if_pos ⟨rfl, by omega⟩]
            · rw [if_neg (fun w => e w.2), if_neg (by omega), st2_k _ _ _ (by omega)]
              exact hit x hx
end PutS
