/-! get -/
section GetS
variable {F : Nat} {P : Pm} {M X : Mem}
theorem get_find {s g : Nat} (hs : s < 4) {l c v2 : Int32} (o : ¬ (nI s < 0 ∨ 4 ≤ nI s)) (l2 : ¬ v2 = 0) (l3 : sX7_itemRefusal F (29 + s) (nI g) c M = some (v2, st2 M 0 11 l)) : sX7_get F (nI s) (nI g) c M = some (-2147483648, st2 M 0 11 l) := by
  unfold sX7_get
  rw [out_f F M o]
  simp only [ob_some, nm_eq, if_true, if_false, Bool.false_eq_true, not_true_eq_false, not_false_eq_true]
  rw [z_ib hs (by decide), z_ix (by omega), show 28 + 1 + s = 29 + s from rfl, l3, ob_some]
  show (if v2 = 0 then _ else _) = _
  rw [if_neg l2]
theorem u_get (hF : 1025 < F) (a b c : Int32) : Up (sX7_get F a b c) (sX8_get F a b c) := fun M hM => by
  obtain ⟨n, bb, N, f, st, h⟩ := hM
  rcases rg a 4 3 4 rfl rfl (by decide) (by decide) with ⟨o, i⟩ | ⟨s, hs, rfl, o, i⟩
  · refine ⟨-2147483648, M, M, ?_, ?_, h.iv⟩
    · unfold sX7_get
      rw [out_t F M o]
      simp only [ob_some, nm_eq, if_true, if_false, Bool.false_eq_true, not_true_eq_false, not_false_eq_true]
    · unfold sX8_get sX8_isSheet
      rw [in_f F M i]
      simp only [ob_some, nm_eq, if_true, if_false, Bool.false_eq_true, not_true_eq_false, not_false_eq_true]
  · rcases rg b 3 2 3 rfl rfl (by decide) (by decide) with ⟨o2, i2⟩ | ⟨g, hg, rfl, o2, i2⟩
    · refine ⟨-2147483648, M, M, ?_, ?_, h.iv⟩
      · unfold sX7_get sX7_itemRefusal
        rw [out_f F M o]
        simp only [ob_some, nm_eq, if_true, if_false, Bool.false_eq_true, not_true_eq_false, not_false_eq_true]
        rw [z_ib hs (by decide), out_t F M o2]
        simp only [ob_some, nm_eq, if_true, if_false, Bool.false_eq_true, not_true_eq_false, not_false_eq_true]
        rw [if_neg (by decide)]
      · unfold sX8_get sX8_isSheet
        rw [in_t F M i, in_f F M i2]
        simp only [ob_some, nm_eq, if_true, if_false, Bool.false_eq_true, not_true_eq_false, not_false_eq_true]
    · rcases e_lacks (F := F) (h.sh s hs) hs hg c with ⟨l, l1, l2, l3, l4⟩ | ⟨j, z, ⟨hj, hz, rfl⟩, ⟨c1, c2⟩, ⟨m1, m2, m3⟩, hit, l3, l4⟩
      · refine ⟨-2147483648, st2 M 0 11 l, st2 (st2 M 0 11 l) 37 22 l, ?_, ?_, Iv.find h l⟩
        · exact get_find hs o l2 l3
        · unfold sX8_get sX8_isSheet
          rw [in_t F _ i, in_t F _ i2]
          simp only [ob_some, nm_eq, if_true, if_false, Bool.false_eq_true, not_true_eq_false, not_false_eq_true]
          rw [l4 _ (st2_k _ _ _ (by decide)) (st2_k _ _ _ (by decide)) (st2_k _ _ _ (by decide))]
          simp only [ob_some, nm_eq, if_true, if_false, Bool.false_eq_true, not_true_eq_false, not_false_eq_true]
          rw [if_neg l1]
      · refine ⟨M (33 + s) j, M, M, ?_, ?_, h.iv⟩
        · unfold sX7_get
          rw [out_f F M o]
          simp only [ob_some, nm_eq, if_true, if_false, Bool.false_eq_true, not_true_eq_false, not_false_eq_true]
          rw [z_ib hs (by decide), z_ix (by omega), show 28 + 1 + s = 29 + s from rfl, l3]
          simp only [ob_some, nm_eq, if_true, if_false, Bool.false_eq_true, not_true_eq_false, not_false_eq_true]
          rw [z_ib hs (by decide), e_item c2 hz hj]
          simp only [ob_some, nm_eq, if_true, if_false, Bool.false_eq_true, not_true_eq_false, not_false_eq_true]
        · unfold sX8_get sX8_isSheet
          rw [in_t F _ i, in_t F _ i2]
          simp only [ob_some, nm_eq, if_true, if_false, Bool.false_eq_true, not_true_eq_false, not_false_eq_true]
          rw [l4]
          simp only [ob_some, nm_eq, if_true, if_false, Bool.false_eq_true, not_true_eq_false, not_false_eq_true]
          rw [if_pos (by decide), z_mulL, z_add, z_ib (by omega) (by decide), z_ix (by omega), hit j hj]
end GetS
