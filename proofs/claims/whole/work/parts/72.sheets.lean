/-! read; sheets: new, lost, an item -/
section Sheets
variable {F : Nat} {P : Pm} {M X : Mem}
theorem sh_in {s : Nat} (hs : s < 4) : ¬ (nI s < 0 ∨ 4 ≤ nI s) := fun z => z.elim (nI_pos (by omega)) (nI_ge (b := 4) hs (by decide))
theorem lost_t {s : Nat} (h : M (29 + s) 1 = -1) : sX5_isLost F (29 + s) M = some true := by
  unfold sX5_isLost
  rw [h, if_neg (by decide)]
theorem lost_f {s fo : Nat} (hfo : fo < 3) (h : M (29 + s) 1 = nI fo) : sX5_isLost F (29 + s) M = some false := by
  unfold sX5_isLost
  rw [h, if_pos (m1_ne (by omega))]
theorem z_1148 : (-10 : Int32) - 1 = -11 := by decide
/-- both sides meet the same finding -/
theorem e_find (v : Int32) : sX7_finding F v M = some (-10 - v, st2 M 0 11 v) := rfl
theorem e_meets (v : Int32) : sX8_meets F v M = some (-10 - v, st2 M 37 22 v) := rfl
theorem u_read (hF : 1025 < F) (a : Int32) : Up (sX7_read F a) (sX8_read F a) := fun M hM => by
  obtain ⟨n, bb, N, f, st, h⟩ := hM
  rcases rg a 4 3 4 rfl rfl (by decide) (by decide) with ⟨o, i⟩ | ⟨s, hs, rfl, o, i⟩
  · refine ⟨-2, M, M, ?_, ?_, h.iv⟩
    · unfold sX7_read
      rw [out_t F M o]
      simp only [ob_some, nm_eq, if_true, if_false, Bool.false_eq_true, not_true_eq_false, not_false_eq_true]
    · unfold sX8_read sX8_isSheet
      rw [in_f F M i]
      simp only [ob_some, nm_eq, if_true, if_false, Bool.false_eq_true, not_true_eq_false, not_false_eq_true]
  · rcases h.sh s hs with ⟨⟨l1, l2⟩, l3⟩ | ⟨fo, z, ⟨hfo, hz48⟩, ⟨c1, c2⟩, ⟨m1, m2, m3⟩, hit⟩
    · refine ⟨-10 - 1, st2 M 0 11 1, st2 (st2 M 0 11 1) 37 22 1, ?_, ?_, Iv.find h 1⟩
      · unfold sX7_read
        rw [out_f F M o]
        simp only [ob_some, nm_eq, if_true, if_false, Bool.false_eq_true, not_true_eq_false, not_false_eq_true]
        rw [z_ib hs (by decide), z_ix (by omega), show 28 + 1 + s = 29 + s from rfl, lost_t l1]
        simp only [ob_some, nm_eq, if_true, if_false, Bool.false_eq_true, not_true_eq_false, not_false_eq_true]
        rfl
      · unfold sX8_read sX8_isSheet
        rw [in_t F _ i]
        simp only [ob_some, nm_eq, if_true, if_false, Bool.false_eq_true, not_true_eq_false, not_false_eq_true]
        rw [z_ib hs (by decide), z_ix (by omega), st2_k _ _ _ (by decide), l3, if_neg (not_not_intro rfl)]
        rfl
    · obtain ⟨k, sm, si, hk, hc, hmm⟩ := h.sn.parts
      have hle := fa_first_le (fun n => !gdR F (M (33 + s)) z k n) 25
      have hno := fa_first_no (fun n => !gdR F (M (33 + s)) z k n) 25
      have hyes := fa_first_yes (fun n => !gdR F (M (33 + s)) z k n) 25
      generalize fa_first (fun n => !gdR F (M (33 + s)) z k n) 25 = T at hle hno hyes
      have hgo : ∀ n, n < T → gdR F (M (33 + s)) z k n = true := fun n hn => by
        have := hno n hn
        simpa using this
      have h24 : gdR F (M (33 + s)) z k 24 = false := by
        cases hh : gdR F (M (33 + s)) z k 24 with
        | false => rfl
        | true => have := (gdR_t hh).1; omega
      have hT25 : T < 25 := by
        rcases Nat.lt_or_ge T 25 with q | q
        · exact q
        · have := hgo 24 (by omega)
          rw [h24] at this
          exact absurd this (by decide)
      have hst : gdR F (M (33 + s)) z k T = false := by
        have := hyes hT25
        simpa using this
      have hT : k + T ≤ 8 := by
        rcases Nat.eq_zero_or_pos T with q | q
        · omega
        · have := (gdR_t (hgo (T - 1) (by omega))).2.1
          omega
      have eC : ∀ j, j < k → sm j = (if j < k then sm j else (M (33 + s) (2 * (j - k))).toNatClampNeg) ∧ si j = (if j < k then si j else (M (33 + s) (2 * (j - k) + 1)).toNatClampNeg) := fun j hj => by
        rw [if_pos hj, if_pos hj]; exact ⟨rfl, rfl⟩
      have hsm : ∀ n, n < T → (if k + n < k then sm (k + n) else (M (33 + s) (2 * (k + n - k))).toNatClampNeg) < 10 ∧ (if k + n < k then si (k + n) else (M (33 + s) (2 * (k + n - k) + 1)).toNatClampNeg) < 2 ∧ M (33 + s) (2 * n) = nI (if k + n < k then sm (k + n) else (M (33 + s) (2 * (k + n - k))).toNatClampNeg) ∧ M (33 + s) (2 * n + 1) = nI (if k + n < k then si (k + n) else (M (33 + s) (2 * (k + n - k) + 1)).toNatClampNeg) := fun n hn => by
        obtain ⟨-, -, m, i, hm, hi, e1, e2, -⟩ := gdR_t (hgo n hn)
        rw [if_neg (by omega), if_neg (by omega), show k + n - k = n by omega, e1, e2, z_cl (by omega), z_cl (by omega)]
        exact ⟨hm, hi, rfl, rfl⟩
      obtain ⟨Y, y1, y2, y3⟩ := e_readC (F := F) hs c2 hz48 hk (sm := fun j => if j < k then sm j else (M (33 + s) (2 * (j - k))).toNatClampNeg) (si := fun j => if j < k then si j else (M (33 + s) (2 * (j - k) + 1)).toNatClampNeg) hgo hst hT hsm (fun M6 => some (M6 26 0 - nI k, M6)) T 0 M F (by omega) (by omega) (fun a _ => rfl) (hc.cong eC)
      have hmY : SNm Y (k + 0) (fun j => if j < k then sm j else (M (33 + s) (2 * (j - k))).toNatClampNeg) (fun j => if j < k then si j else (M (33 + s) (2 * (j - k) + 1)).toNatClampNeg) := (hmm.cong eC).fr (by rw [y2 37 (by decide)]) (y2 47 (by decide)) (y2 48 (by decide))
      obtain ⟨Z, z1, z2, z3, z4⟩ := e_readM (F := F) (M := Y) hs (z := z) (k := k) (T := T) (it := M (33 + s)) (by rw [y2 51 (by decide)]; exact m3) hz48 (fun j hj => by rw [y2 52 (by decide)]; exact (hit j hj).symm) hgo hst hT hsm T 0 Y F (by omega) (by omega) (fun a _ _ _ => rfl) (fun x _ => rfl) hmY
      refine ⟨nI T, Y, Z, ?_, ?_, ?_⟩
      · unfold sX7_read sX4_howMany
        rw [out_f F M o]
        simp only [ob_some, nm_eq, if_true, if_false, Bool.false_eq_true, not_true_eq_false, not_false_eq_true]
        rw [z_ib hs (by decide), z_ix (by omega), show 28 + 1 + s = 29 + s from rfl, lost_f hfo c1]
        simp only [ob_some, nm_eq, if_true, if_false, Bool.false_eq_true, not_true_eq_false, not_false_eq_true]
        rw [hc.1]
        refine y1.trans ?_
        rw [y3.1, z_sub (by omega), show k + T - k = T by omega]
      · unfold sX8_read sX8_isSheet
        rw [in_t F _ i]
        simp only [ob_some, nm_eq, if_true, if_false, Bool.false_eq_true, not_true_eq_false, not_false_eq_true]
        rw [z_ib hs (by decide), z_ix (by omega), y2 49 (by decide), m1, if_pos (by decide)]
        exact z1
      · exact Iv.seen h (fun q q1 q2 q3 q4 => by rw [z2 q q2 q3 q4, y2 q q1]) (fun x hx => by rw [z3 x hx, y2 37 (by decide)]) (SN.join hT (y3.fr (z2 26 (by decide) (by decide) (by decide))) z4)
/-! sheets -/
theorem SH.set1 (h : SH M) {s : Nat} (h1 : ∀ k, 29 ≤ k → k ≤ 36 → k ≠ 29 + s → k ≠ 33 + s → X k = M k) (h3 : ∀ t, t ≠ s → X 49 t = M 49 t ∧ X 50 t = M 50 t ∧ X 51 t = M 51 t) (h6 : ∀ t i, t < 4 → t ≠ s → i < 48 → X 52 (48 * t + i) = M 52 (48 * t + i)) (hs : s < 4) (hnew : SHp X s) : SH X := fun t ht => by
  by_cases e : t = s
  · rw [e]; exact hnew
  · exact (h t ht).fr (h1 _ (by omega) (by omega) (by omega) (by omega)) (h1 _ (by omega) (by omega) (by omega) (by omega)) (h3 t e).1 (h3 t e).2.1 (h3 t e).2.2 (fun i hi => h6 t i ht e hi)
theorem Iv.sheet (h : Inv P M) (hk : ∀ k, ¬ (29 ≤ k ∧ k ≤ 36) → ¬ (49 ≤ k ∧ k ≤ 53) → X k = M k) (hS : SH X) : Iv X := by
  refine h.chg (X := X) (fun k q => hk k ?_ ?_) ?_ ?_ (fun j hj => ?_) ?_ ?_ hS ?_
  · intro z
    unfold upK at q
    simp only [Bool.or_eq_false_iff, Bool.and_eq_false_iff, decide_eq_false_iff_not] at q
    omega
  · intro z
    unfold upK at q
    simp only [Bool.or_eq_false_iff, Bool.and_eq_false_iff, decide_eq_false_iff_not] at q
    omega
  · rw [hk 0 (by omega) (by omega)]
  · rw [hk 0 (by omega) (by omega)]
  · rw [hk 37 (by omega) (by omega)]
  · exact h.wo.fr (hk 16 (by omega) (by omega)) (hk 43 (by omega) (by omega))
  · exact h.sn.fr (hk 26 (by omega) (by omega)) (hk 47 (by omega) (by omega)) (hk 48 (by omega) (by omega)) (by rw [hk 37 (by omega) (by omega)])
  · rw [hk 0 (by omega) (by omega), hk 37 (by omega) (by omega)]; exact h.fi
theorem e_zeros {s : Nat} (hs : s < 4) (hF : 1025 < F) (v : Int32) : fx2 F (sX8_sheet_L59 F (nI s) v) 0 M = some (v, stC M 52 (fun x => if 48 * s ≤ x ∧ x < 48 * s + 48 then 0 else M 52 x)) := by
  have e0 : M = stC M 52 (fun x => if 48 * s ≤ x ∧ x < 48 * s + 0 then 0 else M 52 x) := by
    funext a b
    by_cases ha : a = 52
    · subst ha; rw [stC_same, if_neg (by omega)]
    · rw [stC_ne _ _ ha]
  have road := fx2_road (g := sX8_sheet_L59 F (nI s) v) (fun i => nI i) (fun i => stC M 52 (fun x => if 48 * s ≤ x ∧ x < 48 * s + i then 0 else M 52 x)) 48 (some (v, stC M 52 (fun x => if 48 * s ≤ x ∧ x < 48 * s + 48 then 0 else M 52 x))) (fun i hi rec => by
    unfold sX8_sheet_L59
    rw [if_neg (show ¬ (48 : Int32) ≤ nI i from nI_ge (b := 48) hi (by decide)), z_mulL, z_add, z_ib (by omega) (by decide), z_ix (by omega), nm_eq, z_addR]
    congr 1
    funext a b
    rw [st2_at]
    by_cases ha : a = 52
    · subst ha
      rw [stC_same, stC_same]
      by_cases hb : b = 48 * s + i
      · rw [if_pos ⟨rfl, hb⟩, if_pos (by omega)]
      · rw [if_neg (fun z => hb z.2)]
        by_cases c : 48 * s ≤ b ∧ b < 48 * s + i
        · rw [if_pos c, if_pos (by omega)]
        · rw [if_neg c, if_neg (by omega)]
    · rw [if_neg (fun z => ha z.1), stC_ne _ _ ha, stC_ne _ _ ha]) (fun rec => by
    unfold sX8_sheet_L59
    rw [if_pos (by decide)]) F 0 (Nat.zero_le _) (by omega)
  rw [← e0] at road
  exact road
theorem ln_sh {s : Nat} (hs : s < 4) : ln (33 + s) = 48 := by
  rcases (show s = 0 ∨ s = 1 ∨ s = 2 ∨ s = 3 by omega) with c | c | c | c <;> subst c <;> rfl
theorem u_sheet (hF : 1025 < F) (a b c : Int32) : Up (sX7_sheet F a b c) (sX8_sheet F a b c) := fun M hM => by
  obtain ⟨n, bb, N, f, st, h⟩ := hM
  rcases rg a 4 3 4 rfl rfl (by decide) (by decide) with ⟨o, i⟩ | ⟨s, hs, rfl, o, i⟩
  · refine ⟨-2, M, M, ?_, ?_, h.iv⟩
    · unfold sX7_sheet
      rw [out_t F M o]
      simp only [ob_some, nm_eq, if_true, if_false, Bool.false_eq_true, not_true_eq_false, not_false_eq_true]
    · unfold sX8_sheet sX8_isSheet
      rw [in_f F M i]
      simp only [ob_some, nm_eq, if_true, if_false, Bool.false_eq_true, not_true_eq_false, not_false_eq_true]
  · rcases rg b 3 2 3 rfl rfl (by decide) (by decide) with ⟨o2, i2⟩ | ⟨fo, hfo, rfl, o2, i2⟩
    · refine ⟨-2, M, M, ?_, ?_, h.iv⟩
      · unfold sX7_sheet
        rw [out_f F M o, out_t F M o2]
        simp only [ob_some, nm_eq, if_true, if_false, Bool.false_eq_true, not_true_eq_false, not_false_eq_true]
      · unfold sX8_sheet sX8_isSheet
        rw [in_t F M i, in_f F M i2]
        simp only [ob_some, nm_eq, if_true, if_false, Bool.false_eq_true, not_true_eq_false, not_false_eq_true]
    · by_cases c48 : c ≤ 48
      · by_cases c0 : 0 ≤ c
        · obtain ⟨z, hz, rfl⟩ : ∃ z, z ≤ 48 ∧ c = nI z := by
            rcases z_cases c 49 (by decide) with q | ⟨q, -⟩ | ⟨z, hz, e⟩
            · rw [Int32.lt_iff_toInt_lt] at q
              rw [Int32.le_iff_toInt_le] at c0
              omega
            · rw [Int32.le_iff_toInt_le, nI_toInt (by decide)] at q
              rw [Int32.le_iff_toInt_le] at c48
              have : (48 : Int32).toInt = 48 := rfl
              omega
            · exact ⟨z, by omega, e⟩
          obtain ⟨g, g1, g2, g3⟩ := e_fill F (33 + s) 48 0 (st2 (st2 M (29 + s) 1 (nI fo)) (29 + s) 2 (nI z)) (ln_sh hs) (by decide) (by omega)
          generalize hM1 : stC (st2 (st2 M (29 + s) 1 (nI fo)) (29 + s) 2 (nI z)) (33 + s) g = M1 at g1
          have m1k : ∀ k, k ≠ 29 + s → k ≠ 33 + s → M1 k = M k := fun k q1 q2 => by rw [← hM1, stC_ne _ _ q2, st2_k _ _ _ q1, st2_k _ _ _ q1]
          generalize hM2 : st2 (st2 (st2 M1 49 s 1) 50 s (nI fo)) 51 s (nI z) = M2
          have m2k : ∀ k, k ≠ 49 → k ≠ 50 → k ≠ 51 → M2 k = M1 k := fun k q1 q2 q3 => by rw [← hM2, st2_k _ _ _ q3, st2_k _ _ _ q2, st2_k _ _ _ q1]
          generalize hM3 : stC M2 52 (fun x => if 48 * s ≤ x ∧ x < 48 * s + 48 then 0 else M2 52 x) = M3
          have m3k : ∀ k, k ≠ 52 → M3 k = M2 k := fun k q => by rw [← hM3, stC_ne _ _ q]
          have m352 : ∀ x, M3 52 x = if 48 * s ≤ x ∧ x < 48 * s + 48 then 0 else M 52 x := fun x => by
            rw [← hM3, stC_same, m2k 52 (by decide) (by decide) (by decide), m1k 52 (by omega) (by omega)]
          refine ⟨nI z, M1, M3, ?_, ?_, ?_⟩
          · unfold sX7_sheet sX5_begin
            rw [out_f F M o, out_f F M o2]
            simp only [ob_some, nm_eq, if_true, if_false, Bool.false_eq_true, not_true_eq_false, not_false_eq_true]
            rw [if_pos c48, if_pos c0, z_ib hs (by decide), z_ix (by omega), show 28 + 1 + s = 29 + s from rfl]
            have emin : imax 0 (imin (nI z) 48) = nI z := by
              unfold imin
              rw [if_neg (show ¬ (48 : Int32) < nI z from fun w => by have := (nI_ltI (a := 48) (by decide) (by omega)).mp w; omega)]
              unfold imax
              by_cases q : (0 : Int32) < nI z
              · rw [if_pos q]
              · rw [if_neg q]
                have : ¬ 0 < z := fun w => q ((nI_ltI (a := 0) (by decide) (by omega)).mpr w)
                have : z = 0 := by omega
                rw [this]; rfl
            rw [emin, show 29 + s + 4 = 33 + s by omega, g1]
            simp only [ob_some, nm_eq, if_true, if_false, Bool.false_eq_true, not_true_eq_false, not_false_eq_true]
          · unfold sX8_sheet sX8_isSheet
            rw [in_t F M1 i, in_t F M1 i2]
            simp only [ob_some, nm_eq, if_true, if_false, Bool.false_eq_true, not_true_eq_false, not_false_eq_true]
            rw [if_pos c48, if_pos c0, z_ib hs (by decide), z_ib hs (by decide), z_ib hs (by decide), z_ix (by omega), hM2, e_zeros hs hF, hM3]
          · refine Iv.sheet h (X := M3) (fun k q1 q2 => ?_) (h.sh.set1 (X := M3) (s := s) (fun k q1 q2 q3 q4 => ?_) (fun t e => ⟨?_, ?_, ?_⟩) (fun t x ht e hx => ?_) hs (Or.inr ⟨fo, z, ⟨hfo, hz⟩, ⟨?_, ?_⟩, ⟨?_, ?_, ?_⟩, fun x hx => ?_⟩))
            · rw [m3k k (by omega), m2k k (by omega) (by omega) (by omega), m1k k (by omega) (by omega)]
            · rw [m3k k (by omega), m2k k (by omega) (by omega) (by omega), m1k k (by omega) (by omega)]
            · rw [m3k 49 (by decide), ← hM2, st2_k _ _ _ (by decide), st2_k _ _ _ (by decide), st2_i _ _ _ e, m1k 49 (by omega) (by omega)]
            · rw [m3k 50 (by decide), ← hM2, st2_k _ _ _ (by decide), st2_i _ _ _ e, st2_k _ _ _ (by decide), m1k 50 (by omega) (by omega)]
            · rw [m3k 51 (by decide), ← hM2, st2_i _ _ _ e, st2_k _ _ _ (by decide), st2_k _ _ _ (by decide), m1k 51 (by omega) (by omega)]
            · rw [m352, if_neg (by omega)]
            · rw [m3k _ (by omega), m2k _ (by omega) (by omega) (by omega), ← hM1, stC_ne _ _ (by omega), st2_i _ _ _ (by decide), st2_same]
            · rw [m3k _ (by omega), m2k _ (by omega) (by omega) (by omega), ← hM1, stC_ne _ _ (by omega), st2_same]
            · rw [m3k 49 (by decide), ← hM2, st2_k _ _ _ (by decide), st2_k _ _ _ (by decide), st2_same]
            · rw [m3k 50 (by decide), ← hM2, st2_k _ _ _ (by decide), st2_same]
            · rw [m3k 51 (by decide), ← hM2, st2_same]
            · rw [m3k _ (by omega), m2k _ (by omega) (by omega) (by omega), ← hM1, stC_same, g2 x (by omega), m352, if_pos (by omega)]
        · refine ⟨-10 - 5, st2 M 0 11 5, st2 (st2 M 0 11 5) 37 22 5, ?_, ?_, Iv.find h 5⟩
          · unfold sX7_sheet
            rw [out_f F M o, out_f F M o2]
            simp only [ob_some, nm_eq, if_true, if_false, Bool.false_eq_true, not_true_eq_false, not_false_eq_true]
            rw [if_pos c48, if_neg c0]
            rfl
          · unfold sX8_sheet sX8_isSheet
            rw [in_t F _ i, in_t F _ i2]
            simp only [ob_some, nm_eq, if_true, if_false, Bool.false_eq_true, not_true_eq_false, not_false_eq_true]
            rw [if_pos c48, if_neg c0]
            rfl
      · refine ⟨-2, M, M, ?_, ?_, h.iv⟩
        · unfold sX7_sheet
          rw [out_f F M o, out_f F M o2]
          simp only [ob_some, nm_eq, if_true, if_false, Bool.false_eq_true, not_true_eq_false, not_false_eq_true]
          rw [if_neg c48]
        · unfold sX8_sheet sX8_isSheet
          rw [in_t F M i, in_t F M i2]
          simp only [ob_some, nm_eq, if_true, if_false, Bool.false_eq_true, not_true_eq_false, not_false_eq_true]
          rw [if_neg c48]
theorem u_lose (hF : 1025 < F) (a : Int32) : Up (sX7_lose F a) (sX8_lose F a) := fun M hM => by
  obtain ⟨n, bb, N, f, st, h⟩ := hM
  rcases rg a 4 3 4 rfl rfl (by decide) (by decide) with ⟨o, i⟩ | ⟨s, hs, rfl, o, i⟩
  · refine ⟨-2, M, M, ?_, ?_, h.iv⟩
    · unfold sX7_lose
      rw [out_t F M o]
      simp only [ob_some, nm_eq, if_true, if_false, Bool.false_eq_true, not_true_eq_false, not_false_eq_true]
    · unfold sX8_lose sX8_isSheet
      rw [in_f F M i]
      simp only [ob_some, nm_eq, if_true, if_false, Bool.false_eq_true, not_true_eq_false, not_false_eq_true]
  · rcases h.sh s hs with ⟨⟨l1, l2⟩, l3⟩ | ⟨fo, z, ⟨hfo, hz48⟩, ⟨c1, c2⟩, ⟨m1, m2, m3⟩, hit⟩
    · refine ⟨-10 - 1, st2 M 0 11 1, st2 (st2 M 0 11 1) 37 22 1, ?_, ?_, Iv.find h 1⟩
      · unfold sX7_lose
        rw [out_f F M o]
        simp only [ob_some, nm_eq, if_true, if_false, Bool.false_eq_true, not_true_eq_false, not_false_eq_true]
        rw [z_ib hs (by decide), z_ix (by omega), show 28 + 1 + s = 29 + s from rfl, lost_t l1]
        simp only [ob_some, nm_eq, if_true, if_false, Bool.false_eq_true, not_true_eq_false, not_false_eq_true]
        rfl
      · unfold sX8_lose sX8_isSheet
        rw [in_t F _ i]
        simp only [ob_some, nm_eq, if_true, if_false, Bool.false_eq_true, not_true_eq_false, not_false_eq_true]
        rw [z_ib hs (by decide), z_ix (by omega), st2_k _ _ _ (by decide), l3, if_neg (not_not_intro rfl)]
        rfl
    · generalize hM1 : st2 (st2 M (29 + s) 1 (-1)) (29 + s) 2 0 = M1
      have m1k : ∀ k, k ≠ 29 + s → M1 k = M k := fun k q1 => by rw [← hM1, st2_k _ _ _ q1, st2_k _ _ _ q1]
      generalize hM2 : st2 M1 49 s 0 = M2
      have m2k : ∀ k, k ≠ 49 → M2 k = M1 k := fun k q1 => by rw [← hM2, st2_k _ _ _ q1]
      refine ⟨nI z, M1, M2, ?_, ?_, ?_⟩
      · unfold sX7_lose sX5_length sX5_becomeLost
        rw [out_f F M o]
        simp only [ob_some, nm_eq, if_true, if_false, Bool.false_eq_true, not_true_eq_false, not_false_eq_true]
        rw [z_ib hs (by decide), z_ix (by omega), show 28 + 1 + s = 29 + s from rfl, lost_f hfo c1]
        simp only [ob_some, nm_eq, if_true, if_false, Bool.false_eq_true, not_true_eq_false, not_false_eq_true]
        rw [z_ib hs (by decide), z_ib hs (by decide), hM1, c2]
      · unfold sX8_lose sX8_isSheet
        rw [in_t F _ i]
        simp only [ob_some, nm_eq, if_true, if_false, Bool.false_eq_true, not_true_eq_false, not_false_eq_true]
        rw [z_ib hs (by decide), z_ix (by omega), m1k 49 (by omega), m1, if_pos (by decide), z_ib hs (by decide), z_ib hs (by decide), hM2, m2k 51 (by decide), m1k 51 (by omega), m3]
      · refine Iv.sheet h (X := M2) (fun k q1 q2 => ?_) (h.sh.set1 (X := M2) (s := s) (fun k q1 q2 q3 q4 => ?_) (fun t e => ⟨?_, ?_, ?_⟩) (fun t x ht e hx => ?_) hs (Or.inl ⟨⟨?_, ?_⟩, ?_⟩))
        · rw [m2k k (by omega), m1k k (by omega)]
        · rw [m2k k (by omega), m1k k (by omega)]
        · rw [← hM2, st2_i _ _ _ e, m1k 49 (by omega)]
        · rw [m2k 50 (by decide), m1k 50 (by omega)]
        · rw [m2k 51 (by decide), m1k 51 (by omega)]
        · rw [m2k 52 (by decide), m1k 52 (by omega)]
        · rw [m2k _ (by omega), ← hM1, st2_i _ _ _ (by decide), st2_same]
        · rw [m2k _ (by omega), ← hM1, st2_same]
        · rw [← hM2, st2_same]
end Sheets
