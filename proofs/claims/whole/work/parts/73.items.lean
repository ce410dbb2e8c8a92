/-! sheets: put, get, copy -/
section Items
variable {F : Nat} {P : Pm} {M X : Mem}
theorem idx_rg (a : Int32) {N : Nat} (hN : N ≤ 1000) : ((a < 0 ∨ nI N ≤ a) ∧ ¬ (0 ≤ a ∧ a ≤ nI N - 1)) ∨ ∃ j, j < N ∧ a = nI j ∧ ¬ (a < 0 ∨ nI N ≤ a) ∧ (0 ≤ a ∧ a ≤ nI N - 1) := by
  rcases Nat.eq_zero_or_pos N with c | c
  · subst c
    refine Or.inl ⟨?_, ?_⟩
    · rw [Int32.lt_iff_toInt_lt, Int32.le_iff_toInt_le]
      have h1 : (0 : Int32).toInt = 0 := rfl
      have h2 : (nI 0).toInt = 0 := rfl
      omega
    · rw [Int32.le_iff_toInt_le, Int32.le_iff_toInt_le]
      have h1 : (0 : Int32).toInt = 0 := rfl
      have h2 : (nI 0 - 1).toInt = -1 := by decide
      omega
  · rw [z_subR (by omega)]
    exact rg a _ _ N rfl rfl c (by omega)
/-- what an item asked for by a form comes to: a finding, or well -/
theorem e_lacks {s : Nat} (h : SHp M s) (hs : s < 4) {g : Nat} (hg : g < 3) (i : Int32) : (∃ l : Int32, ¬ l ≤ 0 ∧ ¬ (-10 - l) = 0 ∧ sX7_itemRefusal F (29 + s) (nI g) i M = some (-10 - l, st2 M 0 11 l) ∧ ∀ X, X 49 = M 49 → X 50 = M 50 → X 51 = M 51 → sX8_lacks F (nI s) (nI g) i X = some l) ∨ (∃ j z, (j < z ∧ z ≤ 48 ∧ i = nI j) ∧ (M (29 + s) 1 = nI g ∧ M (29 + s) 2 = nI z) ∧ (M 49 s = 1 ∧ M 50 s = nI g ∧ M 51 s = nI z) ∧ (∀ x, x < z → M (33 + s) x = M 52 (48 * s + x)) ∧ sX7_itemRefusal F (29 + s) (nI g) i M = some (0, M) ∧ sX8_lacks F (nI s) (nI g) i M = some 0) := by
  have hout : sX7_isOutside F (nI g) 3 M = some false := out_f F M (fun z => z.elim (nI_pos (by omega)) (nI_ge (b := 3) hg (by decide)))
  rcases h with ⟨⟨l1, l2⟩, l3⟩ | ⟨fo, z, ⟨hfo, hz48⟩, ⟨c1, c2⟩, ⟨m1, m2, m3⟩, hit⟩
  · refine Or.inl ⟨1, by decide, by decide, ?_, fun X x1 x2 x3 => ?_⟩
    · unfold sX7_itemRefusal
      rw [hout, lost_t l1]
      simp only [ob_some, nm_eq, if_true, if_false, Bool.false_eq_true, not_true_eq_false, not_false_eq_true]
      rfl
    · unfold sX8_lacks
      rw [z_ib hs (by decide), z_ix (by omega), x1, l3, if_neg (not_not_intro rfl)]
  · by_cases cf : fo = g
    · subst cf
      rcases idx_rg i (N := z) (by omega) with ⟨o, n⟩ | ⟨j, hj, rfl, o, n⟩
      · refine Or.inl ⟨2, by decide, by decide, ?_, fun X x1 x2 x3 => ?_⟩
        · unfold sX7_itemRefusal sX5_form sX5_length
          rw [hout, lost_f hfo c1]
          simp only [ob_some, nm_eq, if_true, if_false, Bool.false_eq_true, not_true_eq_false, not_false_eq_true]
          rw [c1, if_pos rfl, c2, out_t F M o]
          simp only [ob_some, nm_eq, if_true, if_false, Bool.false_eq_true, not_true_eq_false, not_false_eq_true]
          rfl
        · unfold sX8_lacks
          rw [z_ib hs (by decide), z_ix (by omega), x1, m1, if_pos (by decide), z_ib hs (by decide), x2, m2, if_pos rfl, z_ib hs (by decide), x3, m3, in_f F X n]
          simp only [ob_some, nm_eq, if_true, if_false, Bool.false_eq_true, not_true_eq_false, not_false_eq_true]
      · refine Or.inr ⟨j, z, ⟨hj, hz48, rfl⟩, ⟨c1, c2⟩, ⟨m1, m2, m3⟩, hit, ?_, ?_⟩
        · unfold sX7_itemRefusal sX5_form sX5_length
          rw [hout, lost_f hfo c1]
          simp only [ob_some, nm_eq, if_true, if_false, Bool.false_eq_true, not_true_eq_false, not_false_eq_true]
          rw [c1, if_pos rfl, c2, out_f F M o]
          simp only [ob_some, nm_eq, if_true, if_false, Bool.false_eq_true, not_true_eq_false, not_false_eq_true]
        · unfold sX8_lacks
          rw [z_ib hs (by decide), z_ix (by omega), m1, if_pos (by decide), z_ib hs (by decide), m2, if_pos rfl, z_ib hs (by decide), m3, in_t F M n]
          simp only [ob_some, nm_eq, if_true, if_false, Bool.false_eq_true, not_true_eq_false, not_false_eq_true]
    · have hne : ¬ nI fo = nI g := fun z => cf ((nI_eq (by omega) (by omega)).mp z)
      refine Or.inl ⟨3, by decide, by decide, ?_, fun X x1 x2 x3 => ?_⟩
      · unfold sX7_itemRefusal sX5_form sX5_length
        rw [hout, lost_f hfo c1]
        simp only [ob_some, nm_eq, if_true, if_false, Bool.false_eq_true, not_true_eq_false, not_false_eq_true]
        rw [c1, if_neg hne]
        rfl
      · unfold sX8_lacks
        rw [z_ib hs (by decide), z_ix (by omega), x1, m1, if_pos (by decide), z_ib hs (by decide), x2, m2, if_neg hne]
/-- what is kept of a number under a form -/
def nar (fo : Nat) (v : Int32) : Int32 := if fo = 0 then v.toInt8.toInt32 else if fo = 1 then v.toInt16.toInt32 else v
theorem e_setItem {s fo z : Nat} (hfo : fo < 3) (h1 : X (29 + s) 1 = nI fo) (h2 : X (29 + s) 2 = nI z) (hz : z ≤ 48) {j : Nat} (hj : j < z) (v : Int32) : sX5_setItem F (29 + s) (nI j) v X = some (st2 X (33 + s) j (nar fo v)) := by
  have hn : sX5_narrowed F (29 + s) v X = some (nar fo v) := by
    unfold sX5_narrowed
    simp only [nm_eq]
    rw [h1]
    rcases (show fo = 0 ∨ fo = 1 ∨ fo = 2 by omega) with c | c | c <;> subst c
    · rw [if_pos (by decide)]; rfl
    · rw [if_neg (by decide), if_pos (by decide)]; rfl
    · rw [if_neg (by decide), if_neg (by decide)]; rfl
  unfold sX5_setItem
  rw [h2, if_neg (nI_pos (by omega)), if_neg (nI_ge hj (by omega)), if_neg (show ¬ (48 : Int32) ≤ nI j from nI_ge (b := 48) (show j < 48 by omega) (by decide)), hn]
  simp only [ob_some, nm_eq, if_true, if_false, Bool.false_eq_true, not_true_eq_false, not_false_eq_true]
  rw [z_ib (show j < 48 by omega) (by decide), z_ix (by omega), show 29 + s + 4 = 33 + s by omega]
theorem e_keep {s fo : Nat} (hs : s < 4) (hfo : fo < 3) (h1 : X 50 s = nI fo) {j : Nat} (hj : j < 48) (v : Int32) : sX8_keep F (nI s) (nI j) v X = some (st2 X 52 (48 * s + j) (nar fo v)) := by
  unfold sX8_keep
  simp only [nm_eq]
  rw [z_ib hs (by decide), z_ix (by omega), h1, z_mulL, z_add, z_ib (by omega) (by decide), z_ib (by omega) (by decide), z_ib (by omega) (by decide), z_ix (by omega), z_ib (by omega) (by decide)]
  rcases (show fo = 0 ∨ fo = 1 ∨ fo = 2 by omega) with c | c | c <;> subst c
  · rw [if_neg (by decide)]; rfl
  · rw [if_pos (by decide), if_neg (by decide)]; rfl
  · rw [if_pos (by decide), if_pos (by decide)]; rfl
/-! copy -/
theorem e_hasRun {s z : Nat} (h : X (29 + s) 2 = nI z) (hz : z ≤ 48) (a b : Int32) : sX5_hasRun F (29 + s) a b X = some (decide (0 ≤ a.toInt ∧ 0 ≤ b.toInt ∧ a.toInt + b.toInt ≤ z)) := by
  unfold sX5_hasRun
  have z0 : (0 : Int32).toInt = 0 := rfl
  rw [h]
  by_cases c1 : a < 0
  · rw [if_pos c1, decide_eq_false]
    rw [Int32.lt_iff_toInt_lt] at c1
    omega
  · rw [if_neg c1]
    by_cases c2 : b < 0
    · rw [if_pos c2, decide_eq_false]
      rw [Int32.lt_iff_toInt_lt] at c2
      omega
    · rw [if_neg c2]
      rw [Int32.lt_iff_toInt_lt] at c1 c2
      by_cases c3 : nI z < a
      · rw [if_pos c3, decide_eq_false]
        rw [Int32.lt_iff_toInt_lt, nI_toInt (by omega)] at c3
        omega
      · rw [if_neg c3]
        rw [Int32.lt_iff_toInt_lt, nI_toInt (by omega)] at c3
        have hs : (nI z - a).toInt = (z : Int) - a.toInt := by
          rw [fb_subI (by rw [nI_toInt (by omega)]; omega) (by rw [nI_toInt (by omega)]; omega), nI_toInt (by omega)]
        by_cases c4 : nI z - a < b
        · rw [if_pos c4, decide_eq_false]
          rw [Int32.lt_iff_toInt_lt, hs] at c4
          omega
        · rw [if_neg c4, decide_eq_true]
          rw [Int32.lt_iff_toInt_lt, hs] at c4
          omega
theorem l64_sum (a b : Int32) : (a.toInt64 + b.toInt64).toInt = a.toInt + b.toInt := by
  have h1 := fb_rng a
  have h2 := fb_rng b
  rw [fb_addL (by rw [Int32.toInt_toInt64, Int32.toInt_toInt64]; omega) (by rw [Int32.toInt_toInt64, Int32.toInt_toInt64]; omega), Int32.toInt_toInt64, Int32.toInt_toInt64]
theorem e_moved {s x c : Nat} (hs : s < 4) (hc : x + c ≤ 48) (hF : 1025 < F) (J : Mem → Option (Int32 × Mem)) : fx2 F (sX8_copy_L120 F (nI s) (nI x) (nI c) J) 0 M = J (stC M 53 (fun y => if y < c then M 52 (48 * s + x + y) else M 53 y)) := by
  have e0 : M = stC M 53 (fun y => if y < 0 then M 52 (48 * s + x + y) else M 53 y) := by
    funext a b
    by_cases ha : a = 53
    · subst ha; rw [stC_same, if_neg (by omega)]
    · rw [stC_ne _ _ ha]
  have road := fx2_road (g := sX8_copy_L120 F (nI s) (nI x) (nI c) J) (fun i => nI i) (fun i => stC M 53 (fun y => if y < i then M 52 (48 * s + x + y) else M 53 y)) c (J (stC M 53 (fun y => if y < c then M 52 (48 * s + x + y) else M 53 y))) (fun i hi rec => by
    unfold sX8_copy_L120
    rw [if_neg (nI_ge hi (by omega)), z_mulL, z_add, z_add, z_ib (by omega) (by decide), z_ib (by omega) (by decide), z_ix (by omega), z_ix (by omega), nm_eq, z_addR, stC_ne _ _ (show (52 : Nat) ≠ 53 by decide)]
    congr 1
    funext a b
    rw [st2_at]
    by_cases ha : a = 53
    · subst ha
      rw [stC_same, stC_same]
      by_cases hb : b = i
      · subst hb; rw [if_pos ⟨rfl, rfl⟩, if_pos (by omega)]
      · rw [if_neg (fun z => hb z.2)]
        by_cases q : b < i
        · rw [if_pos q, if_pos (by omega)]
        · rw [if_neg q, if_neg (by omega)]
    · rw [if_neg (fun z => ha z.1), stC_ne _ _ ha, stC_ne _ _ ha]) (fun rec => by
    unfold sX8_copy_L120
    rw [if_pos (nI_le (Nat.le_refl _) (by omega))]) F 0 (Nat.zero_le _) (by omega)
  rw [← e0] at road
  exact road
theorem e_movedBack {t y c : Nat} (ht : t < 4) (hc : y + c ≤ 48) (hF : 1025 < F) : fx2 F (sX8_copy_L157 F (nI t) (nI y) (nI c)) 0 M = some (1, stC M 52 (fun x => if 48 * t + y ≤ x ∧ x < 48 * t + y + c then M 53 (x - (48 * t + y)) else M 52 x)) := by
  have e0 : M = stC M 52 (fun x => if 48 * t + y ≤ x ∧ x < 48 * t + y + 0 then M 53 (x - (48 * t + y)) else M 52 x) := by
    funext a b
    by_cases ha : a = 52
    · subst ha; rw [stC_same, if_neg (by omega)]
    · rw [stC_ne _ _ ha]
  have road := fx2_road (g := sX8_copy_L157 F (nI t) (nI y) (nI c)) (fun i => nI i) (fun i => stC M 52 (fun x => if 48 * t + y ≤ x ∧ x < 48 * t + y + i then M 53 (x - (48 * t + y)) else M 52 x)) c (some (1, stC M 52 (fun x => if 48 * t + y ≤ x ∧ x < 48 * t + y + c then M 53 (x - (48 * t + y)) else M 52 x))) (fun i hi rec => by
    unfold sX8_copy_L157
    rw [if_neg (nI_ge hi (by omega)), z_mulL, z_add, z_add, z_ib (by omega) (by decide), z_ib (by omega) (by decide), z_ix (by omega), z_ix (by omega), nm_eq, z_addR, stC_ne _ _ (show (53 : Nat) ≠ 52 by decide)]
    congr 1
    funext a b
    rw [st2_at]
    by_cases ha : a = 52
    · subst ha
      rw [stC_same, stC_same]
      by_cases hb : b = 48 * t + y + i
      · subst hb; rw [if_pos ⟨rfl, rfl⟩, if_pos (by omega), show 48 * t + y + i - (48 * t + y) = i by omega]
      · rw [if_neg (fun z => hb z.2)]
        by_cases q : 48 * t + y ≤ b ∧ b < 48 * t + y + i
        · rw [if_pos q, if_pos (by omega)]
        · rw [if_neg q, if_neg (by omega)]
    · rw [if_neg (fun z => ha z.1), stC_ne _ _ ha, stC_ne _ _ ha]) (fun rec => by
    unfold sX8_copy_L157
    rw [if_pos (nI_le (Nat.le_refl _) (by omega))]) F 0 (Nat.zero_le _) (by omega)
  rw [← e0] at road
  exact road
end Items
