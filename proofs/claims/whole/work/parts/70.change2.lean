/-! wipe, undo, set, worth, forget -/
section Change2
variable {F : Nat} {P : Pm} {M X : Mem}
theorem Iv.text (h : Inv P M) {t : Nat} (ht : t < 3) (hk : ∀ k, k ≠ 0 → k ≠ 2 + t → k ≠ 5 + t → k ≠ 9 + t → k ≠ 12 + t → k ≠ 38 → k ≠ 39 → X k = M k) (h0 : X 0 11 = M 0 11) (h5 : X 0 5 = 1) (h7 : X 0 7 = 1) {n : Nat → Nat} {b : Nat → Nat → Nat} (hT : TI X n b) : Iv X := by
  refine Iv.old (st := pst P) hT ?_ ?_ ?_ ?_ ?_ h5 h7
  · exact h.se.fr (hk _ (by omega) (by omega) (by omega) (by omega) (by omega) (by omega) (by omega)) (fun j hj => by rw [hk 37 (by omega) (by omega) (by omega) (by omega) (by omega) (by omega) (by omega)])
  · exact h.wo.fr (hk _ (by omega) (by omega) (by omega) (by omega) (by omega) (by omega) (by omega)) (hk _ (by omega) (by omega) (by omega) (by omega) (by omega) (by omega) (by omega))
  · exact h.sn.fr (hk _ (by omega) (by omega) (by omega) (by omega) (by omega) (by omega) (by omega)) (hk _ (by omega) (by omega) (by omega) (by omega) (by omega) (by omega) (by omega)) (hk _ (by omega) (by omega) (by omega) (by omega) (by omega) (by omega) (by omega)) (by rw [hk 37 (by omega) (by omega) (by omega) (by omega) (by omega) (by omega) (by omega)])
  · exact h.sh.fr (fun k q1 q2 => hk _ (by omega) (by omega) (by omega) (by omega) (by omega) (by omega) (by omega)) (hk _ (by omega) (by omega) (by omega) (by omega) (by omega) (by omega) (by omega)) (hk _ (by omega) (by omega) (by omega) (by omega) (by omega) (by omega) (by omega)) (hk _ (by omega) (by omega) (by omega) (by omega) (by omega) (by omega) (by omega)) (hk _ (by omega) (by omega) (by omega) (by omega) (by omega) (by omega) (by omega))
  · rw [h0, hk 37 (by omega) (by omega) (by omega) (by omega) (by omega) (by omega) (by omega)]; exact h.fi
theorem u_wipe (hF : 1025 < F) (a : Int32) : Up (sX7_wipe F a) (sX8_wipe F a) := fun M hM => by
  obtain ⟨n, bb, N, f, st, h⟩ := hM
  rcases rg a 3 2 3 rfl rfl (by decide) (by decide) with ⟨o, i⟩ | ⟨t, ht, rfl, o, i⟩
  · refine ⟨-2, M, M, ?_, ?_, h.iv⟩
    · unfold sX7_wipe
      rw [out_t F M o]
      simp only [ob_some, nm_eq, if_true, if_false, Bool.false_eq_true, not_true_eq_false, not_false_eq_true]
    · unfold sX8_wipe sX8_isText
      rw [in_f F M i]
      simp only [ob_some, nm_eq, if_true, if_false, Bool.false_eq_true, not_true_eq_false, not_false_eq_true]
  · have hti : TI M n bb := h.ti
    obtain ⟨⟨a1, a2⟩, ⟨a3, a4, a5⟩, a6, a7⟩ := hti t ht
    have k2 : (1 + 1 + t : Nat) = 2 + t := by omega
    obtain ⟨M3, t1, t2, t3⟩ := e_begin (F := F) (k := 9 + t) (M := st2 M (2 + t) 1 0) (t := k3 t) (b := bb t)
    generalize hM4 : st2 (st2 M3 0 5 1) 0 7 1 = M4
    have m4t : ∀ k, k ≠ 0 → M4 k = M3 k := fun k q0 => by rw [← hM4, mo_k q0]
    have m4k : ∀ k, k ≠ 0 → k ≠ 2 + t → k ≠ 9 + t → M4 k = M k := fun k q0 q1 q2 => by rw [m4t k q0, t2 k q2, st2_k _ _ _ q1]
    generalize hM6 : st2 M4 38 t 0 = M6
    have m6k : ∀ k, k ≠ 38 → M6 k = M4 k := fun k q => by rw [← hM6, st2_k _ _ _ q]
    refine ⟨nI (n t), M4, M6, ?_, ?_, ?_⟩
    · unfold sX7_wipe sX6_length sX6_clearAll
      rw [out_f F M o]
      simp only [ob_some, nm_eq, if_true, if_false, Bool.false_eq_true, not_true_eq_false, not_false_eq_true]
      rw [z_ib ht (by decide), z_ib ht (by decide), z_ib ht (by decide), z_ix (by omega), k2, show 8 + 1 + t = 9 + t from rfl, t1]
      simp only [ob_some, nm_eq, if_true, if_false, Bool.false_eq_true, not_true_eq_false, not_false_eq_true]
      rw [e_markOld, hM4, a1]
      simp only [ob_some, nm_eq, if_true, if_false, Bool.false_eq_true, not_true_eq_false, not_false_eq_true]
    · unfold sX8_wipe sX8_isText
      rw [in_t F M4 i]
      simp only [ob_some, nm_eq, if_true, if_false, Bool.false_eq_true, not_true_eq_false, not_false_eq_true]
      rw [z_ib ht (by decide), z_ib ht (by decide), z_ix (by omega), hM6, m4k 38 (by omega) (by omega) (by omega), a3]
    · refine Iv.text h ht (X := M6) (fun k q0 q1 q2 q3 q4 q5 q6 => ?_) ?_ ?_ ?_ (hti.set1 (X := M6) ht (m := 0) (c := bb t) (fun k q0 q1 q2 q3 q4 q5 q6 => ?_) (fun s hs e => ?_) (fun s x hs e hx => ?_) ⟨?_, by omega⟩ ⟨?_, by omega, fun x hx => by omega⟩ (fun x hx => by omega) ?_)
      · rw [m6k k q5, m4k k q0 q1 q3]
      · rw [m6k _ (by omega), ← hM4, st2_i _ _ _ (by decide), st2_i _ _ _ (by decide), t2 _ (by omega), st2_k _ _ _ (by omega)]
      · rw [m6k _ (by omega), ← hM4, st2_i _ _ _ (by decide), st2_same]
      · rw [m6k _ (by omega), ← hM4, st2_same]
      · rw [m6k k q5, m4k k (fun z => by rw [z] at q0; exact absurd q0 (by decide)) q1 q3]
      · rw [← hM6, st2_i _ _ _ e, m4k 38 (by omega) (by omega) (by omega)]
      · rw [m6k _ (by omega), m4k 39 (by omega) (by omega) (by omega)]
      · rw [m6k _ (by omega), m4t _ (by omega), t2 _ (by omega), st2_same]; rfl
      · rw [← hM6, st2_same]; rfl
      · exact t3.fr (by rw [m6k _ (by omega), m4t _ (by omega)]) (by rw [m6k _ (by omega), m4t _ (by omega)])
theorem u_undo (hF : 1025 < F) (a : Int32) : Up (sX7_undo F a) (sX8_undo F a) := fun M hM => by
  obtain ⟨n, bb, N, f, st, h⟩ := hM
  rcases rg a 3 2 3 rfl rfl (by decide) (by decide) with ⟨o, i⟩ | ⟨t, ht, rfl, o, i⟩
  · refine ⟨-2, M, M, ?_, ?_, h.iv⟩
    · unfold sX7_undo
      rw [out_t F M o]
      simp only [ob_some, nm_eq, if_true, if_false, Bool.false_eq_true, not_true_eq_false, not_false_eq_true]
    · unfold sX8_undo sX8_isText
      rw [in_f F M i]
      simp only [ob_some, nm_eq, if_true, if_false, Bool.false_eq_true, not_true_eq_false, not_false_eq_true]
  · have hti : TI M n bb := h.ti
    obtain ⟨⟨a1, a2⟩, ⟨a3, a4, a5⟩, a6, a7⟩ := hti t ht
    have k2 : (1 + 1 + t : Nat) = 2 + t := by omega
    have hln := ln_t ht
    have hl80 : ln (5 + t) ≤ 80 ∧ 60 ≤ ln (5 + t) := by rw [hln]; split <;> omega
    by_cases c0 : n t = 0
    · refine ⟨-3, M, M, ?_, ?_, h.iv⟩
      · unfold sX7_undo sX6_length
        rw [out_f F M o]
        simp only [ob_some, nm_eq, if_true, if_false, Bool.false_eq_true, not_true_eq_false, not_false_eq_true]
        rw [z_ib ht (by decide), z_ix (by omega), k2, a1, if_neg (show ¬ ¬ nI (n t) = 0 from not_not_intro (by rw [c0]; rfl))]
      · unfold sX8_undo sX8_isText
        rw [in_t F M i]
        simp only [ob_some, nm_eq, if_true, if_false, Bool.false_eq_true, not_true_eq_false, not_false_eq_true]
        rw [z_ib ht (by decide), z_ix (by omega), a3, if_neg (show ¬ ¬ nI (n t) = 0 from not_not_intro (by rw [c0]; rfl))]
    · have hne : ¬ nI (n t) = 0 := fun z => c0 ((nI_eq (b := 0) (by omega) (by decide)).mp z)
      generalize hM1 : st2 M (2 + t) 1 (nI (n t - 1)) = M1
      have m1k : ∀ k, k ≠ 2 + t → M1 k = M k := fun k q => by rw [← hM1, st2_k _ _ _ q]
      have m11 : M1 (2 + t) 1 = nI (n t - 1) := by rw [← hM1, st2_same]
      have hdrop : sX6_dropLast F (2 + t) M = some M1 := by
        unfold sX6_dropLast
        rw [a1, if_neg (show ¬ nI (n t) ≤ 0 from nI_ge (a := 0) (by omega) (by omega))]
        simp only [nm_eq]
        rw [z_subR (by omega), hM1]
      obtain ⟨M3, t1, t2, t3⟩ := e_readAgain (F := F) (t := k3 t) (k := 9 + t) (k1 := 2 + t) (n := n t - 1) (b := bb t) (M := M1) (by omega) (k3_ok ht).1 (k3_ok ht).2 (by omega) (by omega) (by rw [show 2 + t + 3 = 5 + t by omega]; omega) m11 (fun x hx => by
        rw [show 2 + t + 3 = 5 + t by omega, m1k _ (by omega)]
        exact ⟨(a5 x (by omega)).1, a6 x (by omega)⟩)
      generalize hM4 : st2 (st2 M3 0 5 1) 0 7 1 = M4
      have m4t : ∀ k, k ≠ 0 → M4 k = M3 k := fun k q0 => by rw [← hM4, mo_k q0]
      have m4k : ∀ k, k ≠ 0 → k ≠ 2 + t → k ≠ 9 + t → k ≠ 12 + t → M4 k = M k := fun k q0 q1 q2 q3 => by rw [m4t k q0, t2 k q2 (by omega), m1k k q1]
      generalize hM6 : st2 M4 38 t (nI (n t - 1)) = M6
      have m6k : ∀ k, k ≠ 38 → M6 k = M4 k := fun k q => by rw [← hM6, st2_k _ _ _ q]
      refine ⟨nI (n t - 1), M4, M6, ?_, ?_, ?_⟩
      · unfold sX7_undo sX6_length
        rw [out_f F M o]
        simp only [ob_some, nm_eq, if_true, if_false, Bool.false_eq_true, not_true_eq_false, not_false_eq_true]
        rw [z_ib ht (by decide), z_ix (by omega), k2, a1, if_pos hne, z_ib ht (by decide), hdrop]
        simp only [ob_some, nm_eq, if_true, if_false, Bool.false_eq_true, not_true_eq_false, not_false_eq_true]
        rw [z_ib ht (by decide), z_ib ht (by decide), show 8 + 1 + t = 9 + t from rfl, t1]
        simp only [ob_some, nm_eq, if_true, if_false, Bool.false_eq_true, not_true_eq_false, not_false_eq_true]
        rw [e_markOld, hM4]
        simp only [ob_some, nm_eq, if_true, if_false, Bool.false_eq_true, not_true_eq_false, not_false_eq_true]
        rw [z_ib ht (by decide), m4t _ (by omega), t2 _ (by omega) (by omega), m11]
      · unfold sX8_undo sX8_isText
        rw [in_t F M4 i]
        simp only [ob_some, nm_eq, if_true, if_false, Bool.false_eq_true, not_true_eq_false, not_false_eq_true]
        rw [z_ib ht (by decide), z_ix (by omega), m4k 38 (by omega) (by omega) (by omega) (by omega), a3, if_pos hne, z_ib ht (by decide), z_ib ht (by decide), z_ib ht (by decide), z_subR (by omega), hM6, ← hM6, st2_same]
      · refine Iv.text h ht (X := M6) (fun k q0 q1 q2 q3 q4 q5 q6 => ?_) ?_ ?_ ?_ (hti.set1 (X := M6) ht (m := n t - 1) (c := bb t) (fun k q0 q1 q2 q3 q4 q5 q6 => ?_) (fun s hs e => ?_) (fun s x hs e hx => ?_) ⟨?_, by omega⟩ ⟨?_, by omega, fun x hx => ?_⟩ (fun x hx => ?_) ?_)
        · rw [m6k k q5, m4k k q0 q1 q3 q4]
        · rw [m6k _ (by omega), ← hM4, st2_i _ _ _ (by decide), st2_i _ _ _ (by decide), t2 _ (by omega) (by omega), m1k _ (by omega)]
        · rw [m6k _ (by omega), ← hM4, st2_i _ _ _ (by decide), st2_same]
        · rw [m6k _ (by omega), ← hM4, st2_same]
        · rw [m6k k q5, m4k k (fun z => by rw [z] at q0; exact absurd q0 (by decide)) q1 q3 q4]
        · rw [← hM6, st2_i _ _ _ e, m4k 38 (by omega) (by omega) (by omega) (by omega)]
        · rw [m6k _ (by omega), m4k 39 (by omega) (by omega) (by omega) (by omega)]
        · rw [m6k _ (by omega), m4t _ (by omega), t2 _ (by omega) (by omega), m11]
        · rw [← hM6, st2_same]
        · rw [m6k _ (by omega), m4k 39 (by omega) (by omega) (by omega) (by omega)]
          exact a5 x (by omega)
        · rw [m6k _ (by omega), m4k _ (by omega) (by omega) (by omega) (by omega)]
          exact a6 x (by omega)
        · exact t3.fr (by rw [m6k _ (by omega), m4t _ (by omega)]) (by rw [m6k _ (by omega), m4t _ (by omega)])
/-! settings -/
theorem e_setM {w : Nat} (hw : w < 4) (b : Int32) : sX8_set F (nI w) b M = if roI 62 w ≤ b ∧ b ≤ roI 63 w then some (M 37 (6 + w), st2 M 37 (6 + w) b) else some (-2, M) := by
  unfold sX8_set
  simp only [nm_eq]
  rw [in_t F M (show (0 : Int32) ≤ nI w ∧ nI w ≤ 3 by rcases (show w = 0 ∨ w = 1 ∨ w = 2 ∨ w = 3 by omega) with c | c | c | c <;> subst c <;> decide)]
  simp only [ob_some, e_in]
  rcases (show w = 0 ∨ w = 1 ∨ w = 2 ∨ w = 3 by omega) with c | c | c | c
  · subst c
    simp only [show (nI 0 = 0) = True from eq_true rfl, show (nI 0 = 1) = False from eq_false (by decide), show (nI 0 = 2) = False from eq_false (by decide), show (nI 0 = 3) = False from eq_false (by decide), not_true_eq_false, not_false_eq_true, if_true, if_false, st2_self, decide_eq_true_eq]
    rfl
  · subst c
    simp only [show (nI 1 = 0) = False from eq_false (by decide), show (nI 1 = 1) = True from eq_true rfl, show (nI 1 = 2) = False from eq_false (by decide), show (nI 1 = 3) = False from eq_false (by decide), not_true_eq_false, not_false_eq_true, if_true, if_false, st2_self, decide_eq_true_eq]
    rfl
  · subst c
    simp only [show (nI 2 = 0) = False from eq_false (by decide), show (nI 2 = 1) = False from eq_false (by decide), show (nI 2 = 2) = True from eq_true rfl, show (nI 2 = 3) = False from eq_false (by decide), not_true_eq_false, not_false_eq_true, if_true, if_false, st2_self, decide_eq_true_eq]
    rfl
  · subst c
    simp only [show (nI 3 = 0) = False from eq_false (by decide), show (nI 3 = 1) = False from eq_false (by decide), show (nI 3 = 2) = False from eq_false (by decide), show (nI 3 = 3) = True from eq_true rfl, not_true_eq_false, not_false_eq_true, if_true, if_false, st2_self, decide_eq_true_eq]
    rfl
theorem set_rng {w : Nat} (hw : w < 4) {b : Int32} (h : roI 62 w ≤ b ∧ b ≤ roI 63 w) : ∃ v, b = nI v ∧ ((w = 0 → 1 ≤ v ∧ v ≤ 20) ∧ (w = 1 → v ≤ 9) ∧ (w = 2 → v ≤ 99) ∧ (w = 3 → v < 1024)) := by
  have key : ∀ lo hi : Nat, lo < 2 → hi < 1024 → nI lo ≤ b → b ≤ nI hi → ∃ v, b = nI v ∧ lo ≤ v ∧ v ≤ hi := fun lo hi h0 h1 h2 h3 => by
    rcases z_cases b (hi + 1) (by omega) with c | ⟨c, -⟩ | ⟨v, hv, rfl⟩
    · rw [Int32.lt_iff_toInt_lt] at c
      rw [Int32.le_iff_toInt_le, nI_toInt (by omega)] at h2
      have : (0 : Int32).toInt = 0 := rfl
      omega
    · rw [Int32.le_iff_toInt_le, nI_toInt (by omega)] at c
      rw [Int32.le_iff_toInt_le, nI_toInt (by omega)] at h3
      omega
    · exact ⟨v, rfl, (nI_leI (by omega) (by omega)).mp h2, by omega⟩
  rcases (show w = 0 ∨ w = 1 ∨ w = 2 ∨ w = 3 by omega) with c | c | c | c
  · subst c
    obtain ⟨v, e, q1, q2⟩ := key 1 20 (by decide) (by decide) h.1 h.2
    exact ⟨v, e, fun _ => ⟨q1, q2⟩, fun z => by omega, fun z => by omega, fun z => by omega⟩
  · subst c
    obtain ⟨v, e, q1, q2⟩ := key 0 9 (by decide) (by decide) h.1 h.2
    exact ⟨v, e, fun z => by omega, fun _ => q2, fun z => by omega, fun z => by omega⟩
  · subst c
    obtain ⟨v, e, q1, q2⟩ := key 0 99 (by decide) (by decide) h.1 h.2
    exact ⟨v, e, fun z => by omega, fun z => by omega, fun _ => q2, fun z => by omega⟩
  · subst c
    obtain ⟨v, e, q1, q2⟩ := key 0 1023 (by decide) (by decide) h.1 h.2
    exact ⟨v, e, fun z => by omega, fun z => by omega, fun z => by omega, fun _ => by omega⟩
theorem u_set (hF : 1025 < F) (a b : Int32) : Up (sX7_set F a b) (sX8_set F a b) := fun M hM => by
  obtain ⟨n, bb, N, f, st, h⟩ := hM
  rcases rg a 4 3 4 rfl rfl (by decide) (by decide) with ⟨o, i⟩ | ⟨w, hw, rfl, o, i⟩
  · refine ⟨-2, M, M, ?_, ?_, h.iv⟩
    · unfold sX7_set
      rw [out_t F M o]
      simp only [ob_some, nm_eq, if_true, if_false, Bool.false_eq_true, not_true_eq_false, not_false_eq_true]
    · unfold sX8_set
      simp only [nm_eq]
      rw [in_f F M i]
      simp only [ob_some, nm_eq, if_true, if_false, Bool.false_eq_true, not_true_eq_false, not_false_eq_true, ite_self]
  · have hse : SE M st := h.se
    have e7 : sX7_set F (nI w) b M = if roI 62 w ≤ b ∧ b ≤ roI 63 w then some (M 15 w, st2 (st2 (st2 M 15 w b) 0 5 1) 0 7 1) else some (-2, M) := by
      unfold sX7_set
      rw [out_f F M o]
      simp only [ob_some, nm_eq, if_true, if_false, Bool.false_eq_true, not_true_eq_false, not_false_eq_true]
      rw [z_ib hw (by decide), z_ix (by omega), z_ib hw (by decide), z_ib hw (by decide), z_ib hw (by decide), e_markOld]
      simp only [ob_some, nm_eq, if_true, if_false, Bool.false_eq_true, not_true_eq_false, not_false_eq_true]
      have e1 : b < roI 62 w ↔ ¬ roI 62 w ≤ b := by rw [Int32.le_iff_toInt_le, Int32.lt_iff_toInt_lt]; omega
      by_cases c1 : roI 62 w ≤ b
      · rw [if_neg (fun z => e1.mp z c1)]
        by_cases c2 : b ≤ roI 63 w
        · rw [if_pos c2, if_pos ⟨c1, c2⟩]
        · rw [if_neg c2, if_neg (fun z => c2 z.2)]
      · rw [if_pos (e1.mpr c1), if_neg (fun z => c1 z.1)]
    by_cases c : roI 62 w ≤ b ∧ b ≤ roI 63 w
    · obtain ⟨v, hv, r0, r1, r2, r3⟩ := set_rng hw c
      subst hv
      generalize hM4 : st2 (st2 (st2 M 15 w (nI v)) 0 5 1) 0 7 1 = M4
      have m4k : ∀ k, k ≠ 0 → k ≠ 15 → M4 k = M k := fun k q0 q1 => by rw [← hM4, mo_k q0, st2_k _ _ _ q1]
      generalize hM6 : st2 M4 37 (6 + w) (nI v) = M6
      have m6k : ∀ k, k ≠ 37 → M6 k = M4 k := fun k q => by rw [← hM6, st2_k _ _ _ q]
      have m6x : ∀ x, x ≠ 6 + w → M6 37 x = M 37 x := fun x q => by rw [← hM6, st2_i _ _ _ q, m4k 37 (by decide) (by decide)]
      refine ⟨nI (st w), M4, M6, ?_, ?_, ?_⟩
      · rw [e7, if_pos c, hM4, (hse.1 w hw).1]
      · rw [e_setM hw, if_pos c, hM6, m4k 37 (by decide) (by decide), (hse.1 w hw).2]
      · refine Iv.old (M := M6) (n := n) (b := bb) (st := fun j => if j = w then v else st j) ?_ ⟨fun j hj => ⟨?_, ?_⟩, ⟨?_, ?_⟩, ?_, ?_, ?_⟩ ?_ ?_ ?_ ?_ ?_ ?_
        · exact TI.fr h.ti (fun k hk => by
            have := txK_sc hk
            rw [m6k k (fun z => by rw [z] at hk; exact absurd hk (by decide)), m4k k (fun z => by rw [z] at hk; exact absurd hk (by decide)) (fun z => by rw [z] at hk; exact absurd hk (by decide))])
        · rw [m6k 15 (by decide), ← hM4, mo_k (by decide), st2_at]
          by_cases e : j = w
          · simp [e]
          · simp [e, (hse.1 j hj).1]
        · by_cases e : j = w
          · simp only [e, if_true]; rw [← hM6, st2_same]
          · simp only [e, if_false]; rw [m6x _ (by omega)]; exact (hse.1 j hj).2
        · show 1 ≤ if 0 = w then v else st 0
          by_cases e : 0 = w
          · rw [if_pos e]; exact (r0 e.symm).1
          · rw [if_neg e]; exact hse.2.1.1
        · show (if 0 = w then v else st 0) ≤ 20
          by_cases e : 0 = w
          · rw [if_pos e]; exact (r0 e.symm).2
          · rw [if_neg e]; exact hse.2.1.2
        · show (if 1 = w then v else st 1) ≤ 9
          by_cases e : 1 = w
          · rw [if_pos e]; exact r1 e.symm
          · rw [if_neg e]; exact hse.2.2.1
        · show (if 2 = w then v else st 2) ≤ 99
          by_cases e : 2 = w
          · rw [if_pos e]; exact r2 e.symm
          · rw [if_neg e]; exact hse.2.2.2.1
        · show (if 3 = w then v else st 3) < 1024
          by_cases e : 3 = w
          · rw [if_pos e]; exact r3 e.symm
          · rw [if_neg e]; exact hse.2.2.2.2
        · exact h.wo.fr (by rw [m6k 16 (by decide), m4k 16 (by decide) (by decide)]) (by rw [m6k 43 (by decide), m4k 43 (by decide) (by decide)])
        · exact h.sn.fr (by rw [m6k 26 (by decide), m4k 26 (by decide) (by decide)]) (by rw [m6k 47 (by decide), m4k 47 (by decide) (by decide)]) (by rw [m6k 48 (by decide), m4k 48 (by decide) (by decide)]) (m6x 14 (by omega))
        · exact h.sh.fr (fun k q1 q2 => by rw [m6k k (by omega), m4k k (by omega) (by omega)]) (by rw [m6k 49 (by decide), m4k 49 (by decide) (by decide)]) (by rw [m6k 50 (by decide), m4k 50 (by decide) (by decide)]) (by rw [m6k 51 (by decide), m4k 51 (by decide) (by decide)]) (by rw [m6k 52 (by decide), m4k 52 (by decide) (by decide)])
        · rw [m6x 22 (by omega), m6k 0 (by decide), ← hM4, st2_i _ _ _ (by decide), st2_i _ _ _ (by decide), st2_k _ _ _ (by decide)]
          exact h.fi
        · rw [m6k 0 (by decide), ← hM4, st2_i _ _ _ (by decide), st2_same]
        · rw [m6k 0 (by decide), ← hM4, st2_same]
    · refine ⟨-2, M, M, ?_, ?_, h.iv⟩
      · rw [e7, if_neg c]
      · rw [e_setM hw, if_neg c]
/-! worth -/
theorem u_worth (hF : 1025 < F) (a b : Int32) : Up (sX7_worth F a b) (sX8_worth F a b) := fun M hM => by
  obtain ⟨n, bb, N, f, st, h⟩ := hM
  rcases rg a 10 9 10 rfl rfl (by decide) (by decide) with ⟨o, i⟩ | ⟨m, hm, rfl, o, i⟩
  · refine ⟨-1002, M, M, ?_, ?_, h.iv⟩
    · unfold sX7_worth
      rw [out_t F M o]
      simp only [ob_some, nm_eq, if_true, if_false, Bool.false_eq_true, not_true_eq_false, not_false_eq_true]
    · unfold sX8_worth sX8_isTen
      rw [in_f F M i]
      simp only [ob_some, nm_eq, if_true, if_false, Bool.false_eq_true, not_true_eq_false, not_false_eq_true]
  · have e1 : b < -9 ↔ ¬ -9 ≤ b := by rw [Int32.le_iff_toInt_le, Int32.lt_iff_toInt_lt]; omega
    by_cases c : -9 ≤ b ∧ b ≤ 9
    · generalize hM1 : st2 M 16 m b = M1
      have m1k : ∀ k, k ≠ 16 → M1 k = M k := fun k q => by rw [← hM1, st2_k _ _ _ q]
      generalize hM2 : st2 M1 43 m b = M2
      have m2k : ∀ k, k ≠ 43 → M2 k = M1 k := fun k q => by rw [← hM2, st2_k _ _ _ q]
      refine ⟨M 16 m, M1, M2, ?_, ?_, ?_⟩
      · unfold sX7_worth
        rw [out_f F M o, if_neg (fun z => e1.mp z c.1), if_pos c.2]
        simp only [ob_some, nm_eq, if_true, if_false, Bool.false_eq_true, not_true_eq_false, not_false_eq_true]
        rw [z_ib hm (by decide), z_ib hm (by decide), z_ix (by omega), hM1]
      · unfold sX8_worth sX8_isTen
        rw [in_t F M1 i]
        simp only [ob_some, nm_eq, if_true, if_false, Bool.false_eq_true, not_true_eq_false, not_false_eq_true]
        rw [in_t F M1 c]
        simp only [ob_some, nm_eq, if_true, if_false, Bool.false_eq_true, not_true_eq_false, not_false_eq_true]
        rw [z_ib hm (by decide), z_ib hm (by decide), z_ix (by omega), hM2, m1k 43 (by decide), ← h.wo m hm]
      · refine h.chg (X := M2) (fun k hk => ?_) ?_ ?_ (fun j hj => ?_) (fun j hj => ?_) ?_ ?_ ?_
        · rw [m2k k (fun z => by rw [z] at hk; exact absurd hk (by decide)), m1k k (fun z => by rw [z] at hk; exact absurd hk (by decide))]
        · rw [m2k 0 (by decide), m1k 0 (by decide)]
        · rw [m2k 0 (by decide), m1k 0 (by decide)]
        · rw [m2k 37 (by decide), m1k 37 (by decide)]
        · rw [m2k 16 (by decide), ← hM2, ← hM1, st2_at, st2_at, st2_k _ _ _ (show (43 : Nat) ≠ 16 by decide)]
          by_cases e : j = m
          · rw [if_pos ⟨rfl, e⟩, if_pos ⟨rfl, e⟩]
          · rw [if_neg (fun z => e z.2), if_neg (fun z => e z.2)]
            exact h.wo j hj
        · exact h.sn.fr (by rw [m2k 26 (by decide), m1k 26 (by decide)]) (by rw [m2k 47 (by decide), m1k 47 (by decide)]) (by rw [m2k 48 (by decide), m1k 48 (by decide)]) (by rw [m2k 37 (by decide), m1k 37 (by decide)])
        · exact h.sh.fr (fun k q1 q2 => by rw [m2k k (by omega), m1k k (by omega)]) (by rw [m2k 49 (by decide), m1k 49 (by decide)]) (by rw [m2k 50 (by decide), m1k 50 (by decide)]) (by rw [m2k 51 (by decide), m1k 51 (by decide)]) (by rw [m2k 52 (by decide), m1k 52 (by decide)])
        · rw [m2k 0 (by decide), m2k 37 (by decide), m1k 0 (by decide), m1k 37 (by decide)]
          exact h.fi
    · refine ⟨-1002, M, M, ?_, ?_, h.iv⟩
      · unfold sX7_worth
        rw [out_f F M o]
        simp only [ob_some, nm_eq, if_true, if_false, Bool.false_eq_true, not_true_eq_false, not_false_eq_true]
        by_cases c1 : -9 ≤ b
        · rw [if_neg (fun z => e1.mp z c1), if_neg (fun z => c ⟨c1, z⟩)]
        · rw [if_pos (e1.mpr c1)]
      · unfold sX8_worth sX8_isTen
        rw [in_t F M i]
        simp only [ob_some, nm_eq, if_true, if_false, Bool.false_eq_true, not_true_eq_false, not_false_eq_true]
        rw [in_f F M c]
        simp only [ob_some, nm_eq, if_true, if_false, Bool.false_eq_true, not_true_eq_false, not_false_eq_true]
/-! forget -/
theorem u_forget (hF : 1025 < F) : Up (sX7_forget F) (sX8_forget F) := fun M hM => by
  obtain ⟨n, bb, N, f, st, h⟩ := hM
  obtain ⟨k, sm, si, w, u, ⟨s1, s2, s3⟩, -⟩ := h.sn
  generalize hM1 : st2 (st2 (st2 M 26 0 0) 26 1 0) 26 2 0 = M1
  have m1k : ∀ k, k ≠ 26 → M1 k = M k := fun k q => by rw [← hM1, st2_k _ _ _ q, st2_k _ _ _ q, st2_k _ _ _ q]
  generalize hM2 : st2 M1 37 14 0 = M2
  have m2k : ∀ k, k ≠ 37 → M2 k = M1 k := fun k q => by rw [← hM2, st2_k _ _ _ q]
  have m2x : ∀ x, x ≠ 14 → M2 37 x = M 37 x := fun x q => by rw [← hM2, st2_i _ _ _ q, m1k 37 (by decide)]
  refine ⟨nI k, M1, M2, ?_, ?_, ?_⟩
  · unfold sX7_forget sX4_howMany sX4_clearAll
    simp only [ob_some, nm_eq, if_true, if_false, Bool.false_eq_true, not_true_eq_false, not_false_eq_true]
    rw [hM1, s1]
  · unfold sX8_forget
    simp only [ob_some, nm_eq, if_true, if_false, Bool.false_eq_true, not_true_eq_false, not_false_eq_true]
    rw [hM2, m1k 37 (by decide), s3]
  · refine h.chg (X := M2) (fun k hk => ?_) ?_ ?_ (fun j hj => ?_) ?_ ⟨0, sm, si, 0, 0, ⟨?_, by omega, ?_⟩, fun i hi => by omega, ⟨?_, ?_, by decide, by decide⟩, fun j => ?_, fun j => ?_⟩ ?_ ?_
    · rw [m2k k (fun z => by rw [z] at hk; exact absurd hk (by decide)), m1k k (fun z => by rw [z] at hk; exact absurd hk (by decide))]
    · rw [m2k 0 (by decide), m1k 0 (by decide)]
    · rw [m2k 0 (by decide), m1k 0 (by decide)]
    · rw [m2x _ (by omega)]
    · exact h.wo.fr (by rw [m2k 16 (by decide), m1k 16 (by decide)]) (by rw [m2k 43 (by decide), m1k 43 (by decide)])
    · rw [m2k 26 (by decide), ← hM1, st2_i _ _ _ (by decide), st2_i _ _ _ (by decide), st2_same]; rfl
    · rw [← hM2, st2_same]; rfl
    · rw [m2k 26 (by decide), ← hM1, st2_i _ _ _ (by decide), st2_same]; rfl
    · rw [m2k 26 (by decide), ← hM1, st2_same]; rfl
    · rw [Nat.zero_testBit]
      constructor
      · intro z; exact absurd z (by decide)
      · rintro ⟨i, hi, -⟩; omega
    · rw [Nat.zero_testBit]
      constructor
      · intro z; exact absurd z (by decide)
      · rintro ⟨i, hi, -⟩; omega
    · exact h.sh.fr (fun k q1 q2 => by rw [m2k k (by omega), m1k k (by omega)]) (by rw [m2k 49 (by decide), m1k 49 (by decide)]) (by rw [m2k 50 (by decide), m1k 50 (by decide)]) (by rw [m2k 51 (by decide), m1k 51 (by decide)]) (by rw [m2k 52 (by decide), m1k 52 (by decide)])
    · rw [m2k 0 (by decide), m2x 22 (by decide), m1k 0 (by decide)]
      exact h.fi
end Change2
