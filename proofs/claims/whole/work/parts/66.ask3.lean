/-! questions: best, rest, accounts, counts -/
section Ask3
variable {F : Nat} {P : Pm} {M : Mem}
theorem wS_cong {W W' : Nat → Int32} (h : ∀ i, i < 10 → W i = W' i) (c : Nat) : ∀ n, n ≤ 10 → wS W c n = wS W' c n
  | 0 => fun _ => rfl
  | n + 1 => fun hn => by
    show (if c.testBit n = true then wS W c n + W n else wS W c n) = (if c.testBit n = true then wS W' c n + W' n else wS W' c n)
    rw [wS_cong h c n (by omega), h n (by omega)]
theorem bsF_cong {W W' : Nat → Int32} (h : ∀ i, i < 10 → W i = W' i) (o : Nat) : bsF W o = bsF W' o := by
  funext a r
  cases a with
  | none => rfl
  | some x =>
    show (if wS W (r &&& o) 10 ≤ wS W (x &&& o) 10 then some x else some r) = (if wS W' (r &&& o) 10 ≤ wS W' (x &&& o) 10 then some x else some r)
    rw [wS_cong h _ 10 (Nat.le_refl _), wS_cong h _ 10 (Nat.le_refl _)]
theorem bsS_cong {W W' : Nat → Int32} (h : ∀ i, i < 10 → W i = W' i) (o : Nat) (q : Nat → Nat → Nat) (L N fr r : Nat) : bsS W o q L N fr r = bsS W' o q L N fr r := by
  unfold bsS
  rw [bsF_cong h]
theorem Inv.w43 (h : Inv P M) : ∀ i, i < 10 → M 43 i = pM P 16 i := fun i hi => by
  rw [h.k (k := 43) rfl]
  exact (h.1.2.2.1 i hi).symm
def bsV (P : Pm) (p : Nat) (fr : Nat) : Option Nat := bsS (pM P 16) (owS (pq P) (pN P) p) (pq P) (pL P) (pN P) fr (2 ^ pN P)
def bestV (P : Pm) (p j : Nat) : Int32 := if ¬ nI j = 1 then (match bsV P p (pO P) with
  | none => -1003
  | some x => wS (pM P 16) (x &&& owS (pq P) (pN P) p) 10) else oI (bsV P p (pO P))
theorem ow_lt (h : Inv P M) (p : Nat) : owS (pq P) (pN P) p < 1024 := by
  have := owS_lt (pq P) (pN P) p
  have := pow_le10 h.n10.1
  omega
theorem per_in {p : Nat} (hp : p < 6) : ¬ (nI p < 0 ∨ 6 ≤ nI p) := fun z => z.elim (nI_pos (by omega)) (nI_ge (b := 6) hp (by decide))
theorem q_best_p (hF : 1025 < F) {p j : Nat} (hp : p < 6) (hj : j < 2) : ∃ r, Qy P (sX7_best F (nI p) (nI j)) r ∧ Qy P (sX8_bestOf F (nI p) (nI j)) r := by
  refine ⟨bestV P p j, fun M h => ?_, fun M h => ?_⟩
  · obtain ⟨M1, a1, a2, a3⟩ := e_rowsNow (F := F) h (by omega)
    have hp10 := pow_le10 h.n10.1
    have h16 : M1 16 = pM P 16 := a2.k rfl
    refine ⟨M1, ?_, a2⟩
    unfold sX7_best
    rw [out_f F M (per_in hp), out_f F M (show ¬ (nI j < 0 ∨ 2 ≤ nI j) by rcases two hj with c | c <;> subst c <;> decide)]
    simp only [ob_some, nm_eq, if_true, if_false, Bool.false_eq_true, not_true_eq_false, not_false_eq_true]
    rw [z_ibL (by decide) (by decide), z_ixL (by decide), show (8 + 1 + OfNat.ofNat 0 : Nat) = 9 from rfl, e_with0 h.pc (by omega) (by omega), a1]
    simp only [ob_some, nm_eq, if_true, if_false, Bool.false_eq_true, not_true_eq_false, not_false_eq_true]
    rw [e_bestRow a3 (by omega) (ow_lt h p), h16]
    simp only [ob_some, nm_eq, if_true, if_false, Bool.false_eq_true, not_true_eq_false, not_false_eq_true]
    unfold bestV
    generalize hb : bsV P p (pO P) = bo
    unfold bsV at hb
    rw [hb]
    by_cases c : nI j = 1
    · rw [if_neg (not_not_intro c), if_neg (not_not_intro c)]
    · rw [if_pos c, if_pos c]
      cases bo with
      | none => rw [if_neg (not_not_intro (show oI none = -1 from rfl))]
      | some x =>
        have hx := (bsS_lt _ _ hb).1
        rw [if_pos (show ¬ oI (some x) = -1 from m1_ne (by omega)), show oI (some x) = nI x from rfl, e_worthOf7 (by omega) (ow_lt h p), h16]
        simp only [ob_some, nm_eq, if_true, if_false, Bool.false_eq_true, not_true_eq_false, not_false_eq_true]
  · obtain ⟨X, x1, x2, x3, x4, -, x6⟩ := e_rd (F := F) h (by omega)
    have hp10 := pow_le10 h.n10.1
    refine ⟨X, ?_, x6⟩
    unfold sX8_bestOf
    rw [(h.se.1 3 (by decide)).2, show pst P 3 = pO P from rfl, e_bestBy x3 x4 (by omega) (by omega) x4.2.2.2, bsS_cong x6.w43]
    simp only [ob_some, nm_eq, if_true, if_false, Bool.false_eq_true, not_true_eq_false, not_false_eq_true]
    unfold bestV
    generalize hb : bsV P p (pO P) = bo
    unfold bsV at hb
    rw [hb]
    by_cases c : nI j = 1
    · rw [if_neg (not_not_intro c), if_neg (not_not_intro c)]
    · rw [if_pos c, if_pos c]
      cases bo with
      | none => rw [if_neg (not_not_intro (show oI none = -1 from rfl))]
      | some x =>
        have hx := (bsS_lt _ _ hb).1
        rw [if_pos (show ¬ oI (some x) = -1 from m1_ne (by omega)), show oI (some x) = nI x from rfl, e_worthOf8 x4 (by omega) (by omega) (by omega), wS_cong x6.w43 _ 10 (Nat.le_refl _)]
        simp only [ob_some, nm_eq, if_true, if_false, Bool.false_eq_true, not_true_eq_false, not_false_eq_true]
theorem q_best (hF : 1025 < F) (a b : Int32) : ∃ r, Qy P (sX7_best F a b) r ∧ Qy P (sX8_best F a b) r := by
  rcases rg a 6 5 6 rfl rfl (by decide) (by decide) with ⟨o, i⟩ | ⟨p, hp, rfl, o, i⟩
  · refine ⟨-1002, fun M h => ⟨M, ?_, h⟩, fun M h => ⟨M, ?_, h⟩⟩
    · unfold sX7_best
      rw [out_t F M o]
      simp only [ob_some, nm_eq, if_true, if_false, Bool.false_eq_true, not_true_eq_false, not_false_eq_true]
    · unfold sX8_best
      rw [per_f F M i]
      simp only [ob_some, nm_eq, if_true, if_false, Bool.false_eq_true, not_true_eq_false, not_false_eq_true]
  · rcases rg b 2 1 2 rfl rfl (by decide) (by decide) with ⟨o2, i2⟩ | ⟨j, hj, rfl, o2, i2⟩
    · refine ⟨-1002, fun M h => ⟨M, ?_, h⟩, fun M h => ⟨M, ?_, h⟩⟩
      · unfold sX7_best
        rw [out_f F M o, out_t F M o2]
        simp only [ob_some, nm_eq, if_true, if_false, Bool.false_eq_true, not_true_eq_false, not_false_eq_true]
      · unfold sX8_best
        rw [per_t F M i, in_f F M i2]
        simp only [ob_some, nm_eq, if_true, if_false, Bool.false_eq_true, not_true_eq_false, not_false_eq_true]
    · obtain ⟨r, h1, h2⟩ := q_best_p (P := P) hF hp hj
      refine ⟨r, h1, fun M h => ?_⟩
      unfold sX8_best
      rw [per_t F M i, in_t F M i2]
      simp only [ob_some, nm_eq, if_true, if_false, Bool.false_eq_true, not_true_eq_false, not_false_eq_true]
      exact h2.wr h
/-! rest -/
theorem Bk_free {q : Nat → Nat → Nat} {L N r O o : Nat} (hr : r < 2 ^ N) : Bk q L N r (O ||| o) = Bk q L N r O ^^^ (Bk q L N r O &&& o) := by
  apply Nat.eq_of_testBit_eq
  intro i
  rw [Nat.testBit_xor, Nat.testBit_and, Bk_tb hr, Bk_tb hr, Nat.testBit_or]
  cases decide (i < N) <;> cases O.testBit i <;> cases o.testBit i <;> cases (r.testBit i ^^ wrt q L N r i) <;> rfl
def btB (P : Pm) (p a r : Nat) : Bool := decide (Bk (pq P) (pL P) (pN P) r (pO P ||| owS (pq P) (pN P) p) = 0) && !decide (wS (pM P 16) (r &&& owS (pq P) (pN P) p) 10 ≤ wS (pM P 16) (a &&& owS (pq P) (pN P) p) 10)
theorem bt_t {p a r : Nat} : btB P p a r = true ↔ Bk (pq P) (pL P) (pN P) r (pO P ||| owS (pq P) (pN P) p) = 0 ∧ ¬ wS (pM P 16) (r &&& owS (pq P) (pN P) p) 10 ≤ wS (pM P 16) (a &&& owS (pq P) (pN P) p) 10 := by
  unfold btB
  simp only [Bool.and_eq_true, decide_eq_true_eq, Bool.not_eq_true', decide_eq_false_iff_not]
theorem e_hasBetter (h : Inv P M) (a3 : RowsOK M (pN P) (pq P) (pL P) (pO P)) (hF : 1025 < F) {i p : Nat} (hi : i < 1024) (hp : p < 6) : sX7_hasBetter F (nI i) (nI (owS (pq P) (pN P) p)) M = some (hasB (btB P p (i &&& (2 ^ pN P - 1))) (2 ^ pN P)) := by
  have h10 := h.n10.1
  have hpw := pow_le10 h10
  have hpos := pow_pos2 (pN P)
  have hal := and_lt_all i (pN P)
  have h16 : M 16 = pM P 16 := h.k rfl
  unfold sX7_hasBetter sX3_allBits
  simp only [ob_some]
  rw [a3.1.2.2.1, z_and, e_worthOf7 (by omega) (ow_lt h p), h16]
  simp only [ob_some]
  have hle := fa_first_le (btB P p (i &&& (2 ^ pN P - 1))) (2 ^ pN P)
  have hno := fa_first_no (btB P p (i &&& (2 ^ pN P - 1))) (2 ^ pN P)
  have hyes := fa_first_yes (btB P p (i &&& (2 ^ pN P - 1))) (2 ^ pN P)
  generalize hE : fa_first (btB P p (i &&& (2 ^ pN P - 1))) (2 ^ pN P) = E at hle hno hyes
  have hval : hasB (btB P p (i &&& (2 ^ pN P - 1))) (2 ^ pN P) = decide (E < 2 ^ pN P) := bq (by
    rw [has_t, decide_eq_true_eq]
    constructor
    · rintro ⟨r, h1, h2⟩
      rcases Nat.lt_or_ge E (2 ^ pN P) with c | c
      · exact c
      · have := hno r (by omega)
        rw [this] at h2
        exact absurd h2 (by decide)
    · intro c
      exact ⟨E, c, hyes c⟩)
  -- one turn
  have turn : ∀ r, r < 2 ^ pN P → ∀ rec : Int32 → Option Bool, sX7_hasBetter_L16 F (nI (owS (pq P) (pN P) p)) M (wS (pM P 16) (i &&& (2 ^ pN P - 1) &&& owS (pq P) (pN P) p) 10) rec (nI r) = if btB P p (i &&& (2 ^ pN P - 1)) r = true then some true else rec (nI (r + 1)) := by
    intro r hr rec
    unfold sX7_hasBetter_L16 sX3_allBits
    simp only [ob_some]
    rw [a3.1.2.2.1, if_neg (by rw [z_lt (by omega) (by omega)]; omega), e_brokenBy7 a3]
    simp only [ob_some, nm_eq]
    rw [and_all hr, z_not, ← Bk_free hr, e_worthOf7 (by omega) (ow_lt h p), h16, z_addR]
    simp only [ob_some]
    have hB := Bk_lt (q := pq P) (L := pL P) (free := pO P ||| owS (pq P) (pN P) p) hr
    by_cases c : Bk (pq P) (pL P) (pN P) r (pO P ||| owS (pq P) (pN P) p) = 0
    · rw [if_neg (show ¬ ¬ nI (Bk (pq P) (pL P) (pN P) r (pO P ||| owS (pq P) (pN P) p)) = 0 from not_not_intro (by rw [c]; rfl)), if_neg (show ¬ (1 : Int32) = 0 by decide)]
      by_cases d : wS (pM P 16) (r &&& owS (pq P) (pN P) p) 10 ≤ wS (pM P 16) (i &&& (2 ^ pN P - 1) &&& owS (pq P) (pN P) p) 10
      · rw [if_pos d, if_neg (fun z => (bt_t.mp z).2 d)]
      · rw [if_neg d, if_pos (bt_t.mpr ⟨c, d⟩)]
    · rw [if_pos (show ¬ nI (Bk (pq P) (pL P) (pN P) r (pO P ||| owS (pq P) (pN P) p)) = 0 from fun z => c ((nI_eq (b := 0) (by omega) (by decide)).mp z)), if_pos trivial, if_neg (fun z => c (bt_t.mp z).1)]
  rw [hval]
  refine fx1_road (fun r => nI r) E _ (fun r hr rec => ?_) (fun rec => ?_) F 0 (Nat.zero_le _) (by omega)
  · rw [turn r (by omega), if_neg (by rw [hno r hr]; decide)]
  · rcases Nat.lt_or_ge E (2 ^ pN P) with c | c
    · rw [turn E c, if_pos (hyes c), decide_eq_true c]
    · have : E = 2 ^ pN P := by omega
      unfold sX7_hasBetter_L16 sX3_allBits
      simp only [ob_some]
      rw [a3.1.2.2.1, if_pos (by rw [z_lt (by omega) (by omega)]; omega), decide_eq_false (by omega)]
theorem e_restLoop {X : Mem} {r1 : Int32 × Mem} (hr2 : r1.2 = X) {N L O : Nat} {q : Nat → Nat → Nat} (x4 : PM X N q L O) (hF : 1025 < F) {p : Nat} (hp : p < 6) (J : Int32 → Option (Int32 × Mem)) : fx2 F (sX8_restOf_L31 F (nI p) r1 J) (nI O) 0 = J (nI (O ||| owS q N p)) := by
  have h10 : N ≤ 10 := x4.1.2.1
  have road := fx2_road (g := sX8_restOf_L31 F (nI p) r1 J) (fun m => nI (O ||| mk (fun i => decide (q 0 i = p)) m)) (fun m => nI m) N (J (nI (O ||| owS q N p))) (fun m hm rec => by
    obtain ⟨⟨a0, -⟩, b0, -⟩ := x4.1.2.2 m hm
    unfold sX8_restOf_L31
    rw [hr2, x4.1.1, if_neg (nI_ge hm (by omega)), z_mulL, z_ib (by omega) (by decide), z_ix (by omega), a0]
    simp only [nm_eq]
    rw [z_shl1 (by omega), z_or, z_addR, mk]
    by_cases c : q 0 m = p
    · rw [if_neg (not_not_intro (by rw [c])), if_pos (decide_eq_true c), Nat.or_assoc]
    · rw [if_pos (show ¬ nI (q 0 m) = nI p from fun z => c ((nI_eq (by omega) (by omega)).mp z)), if_neg (by simp [c]), show (0 : Int32) = nI 0 from rfl, z_or, Nat.or_zero]) (fun rec => by
    unfold sX8_restOf_L31
    rw [hr2, x4.1.1, if_pos (nI_le (Nat.le_refl _) (by omega))]
    rfl) F 0 (Nat.zero_le _) (by omega)
  rw [show mk (fun i => decide (q 0 i = p)) 0 = 0 from rfl, Nat.or_zero] at road
  exact road
theorem q_rest_i (hF : 1025 < F) {i p : Nat} (hi : i < 1024) (hp : p < 6) : ∃ r, Qy P (sX7_rest F (nI i) (nI p)) r ∧ Qy P (sX8_restOf F (nI i) (nI p)) r := by
  refine ⟨if Bk (pq P) (pL P) (pN P) (i &&& (2 ^ pN P - 1)) (pO P) = 0 then (if hasB (btB P p (i &&& (2 ^ pN P - 1))) (2 ^ pN P) = true then 0 else 1) else -3, fun M h => ?_, fun M h => ?_⟩
  · obtain ⟨M1, a1, a2, a3⟩ := e_rowsNow (F := F) h (by omega)
    have hpw := pow_le10 h.n10.1
    have hB := Bk_lt (q := pq P) (L := pL P) (free := pO P) (and_lt_all i (pN P))
    refine ⟨M1, ?_, a2⟩
    unfold sX7_rest
    rw [nrow_f F M (row_in hi), out_f F M (per_in hp), a1]
    simp only [ob_some, nm_eq, if_true, if_false, Bool.false_eq_true, not_true_eq_false, not_false_eq_true]
    rw [e_brokenBy7 a3]
    simp only [ob_some, nm_eq, if_true, if_false, Bool.false_eq_true, not_true_eq_false, not_false_eq_true]
    by_cases c : Bk (pq P) (pL P) (pN P) (i &&& (2 ^ pN P - 1)) (pO P) = 0
    · rw [if_pos (show nI (Bk (pq P) (pL P) (pN P) (i &&& (2 ^ pN P - 1)) (pO P)) = 0 by rw [c]; rfl), if_pos c]
      rw [z_ibL (by decide) (by decide), z_ixL (by decide), show (8 + 1 + OfNat.ofNat 0 : Nat) = 9 from rfl, e_with0 a2.pc (by omega) (by omega)]
      simp only [ob_some, nm_eq, if_true, if_false, Bool.false_eq_true, not_true_eq_false, not_false_eq_true]
      rw [e_hasBetter a2 a3 hF hi hp]
      simp only [ob_some, nm_eq, if_true, if_false, Bool.false_eq_true, not_true_eq_false, not_false_eq_true]
      split <;> rfl
    · rw [if_neg (show ¬ nI (Bk (pq P) (pL P) (pN P) (i &&& (2 ^ pN P - 1)) (pO P)) = 0 from fun z => c ((nI_eq (b := 0) (by omega) (by decide)).mp z)), if_neg c]
  · obtain ⟨X, x1, x2, x3, x4, -, x6⟩ := e_rd (F := F) h (by omega)
    obtain ⟨Y, y1, y2, y3, y4, -, y6⟩ := e_rd (F := F) x6 (by omega)
    have hpw := pow_le10 h.n10.1
    have hal := and_lt_all i (pN P)
    have hB := Bk_lt (q := pq P) (L := pL P) (free := pO P) hal
    unfold sX8_restOf
    rw [x3]
    have hr2 : (nI (2 ^ pN P - 1), X).2 = X := rfl
    have hr1 : (nI (2 ^ pN P - 1), X).1 = nI (2 ^ pN P - 1) := rfl
    generalize (nI (2 ^ pN P - 1), X) = r1 at hr1 hr2
    simp only [ob_some, nm_eq]
    rw [hr1, hr2, z_and, x4.2.2.1, e_brokenBy x4 (by omega) x4.2.2.2 (by omega)]
    simp only [ob_some]
    by_cases c : Bk (pq P) (pL P) (pN P) (i &&& (2 ^ pN P - 1)) (pO P) = 0
    · refine ⟨Y, ?_, y6⟩
      have hfa : fp (pq P) (pL P) (pN P) (pO P ||| owS (pq P) (pN P) p) (i &&& (2 ^ pN P - 1)) = true := fp_t.mpr (by rw [Bk_free hal, c]; simp)
      obtain ⟨x, hx, hxle⟩ := bsS_max (W := pM P 16) (o := owS (pq P) (pN P) p) (2 ^ pN P) _ hal hfa
      have hxl := bsS_lt _ _ hx
      rw [if_pos (show nI (Bk (pq P) (pL P) (pN P) (i &&& (2 ^ pN P - 1)) (pO P)) = 0 by rw [c]; rfl), if_pos c, e_restLoop hr2 x4 hF hp]
      have hfr : pO P ||| owS (pq P) (pN P) p < 1024 := or_lt (n := 10) x4.2.2.2 (ow_lt h p)
      rw [e_bestBy y3 y4 (by omega) (by omega) hfr, bsS_cong y6.w43, hx]
      simp only [ob_some]
      rw [show oI (some x) = nI x from rfl, e_worthOf8 y4 (by omega) (by omega) (by omega), e_worthOf8 y4 (by omega) (by omega) (by omega), wS_cong y6.w43 _ 10 (Nat.le_refl _), wS_cong y6.w43 _ 10 (Nat.le_refl _)]
      simp only [ob_some]
      by_cases d : wS (pM P 16) (x &&& owS (pq P) (pN P) p) 10 ≤ wS (pM P 16) (i &&& (2 ^ pN P - 1) &&& owS (pq P) (pN P) p) 10
      · rw [if_pos d, if_neg (fun z => ?_)]
        obtain ⟨r, z1, z2⟩ := has_t.mp z
        have z2 := bt_t.mp z2
        obtain ⟨x', hx', hle'⟩ := bsS_max (W := pM P 16) (o := owS (pq P) (pN P) p) (2 ^ pN P) r z1 (fp_t.mpr z2.1)
        rw [hx] at hx'
        have : x = x' := by simpa using hx'
        subst this
        apply z2.2
        rw [Int32.le_iff_toInt_le] at *
        omega
      · rw [if_neg d, if_pos (has_t.mpr ⟨x, hxl.1, bt_t.mpr ⟨fp_t.mp hxl.2, d⟩⟩)]
    · refine ⟨X, ?_, x6⟩
      rw [if_neg (show ¬ nI (Bk (pq P) (pL P) (pN P) (i &&& (2 ^ pN P - 1)) (pO P)) = 0 from fun z => c ((nI_eq (b := 0) (by omega) (by decide)).mp z)), if_neg c]
theorem q_rest (hF : 1025 < F) (a b : Int32) : ∃ r, Qy P (sX7_rest F a b) r ∧ Qy P (sX8_rest F a b) r := by
  rcases rg a 1024 1023 1024 rfl rfl (by decide) (by decide) with ⟨o, i⟩ | ⟨j, hj, rfl, o, i⟩
  · refine ⟨-2, fun M h => ⟨M, ?_, h⟩, fun M h => ⟨M, ?_, h⟩⟩
    · unfold sX7_rest
      rw [nrow_t F M o]
      simp only [ob_some, nm_eq, if_true, if_false, Bool.false_eq_true, not_true_eq_false, not_false_eq_true]
    · unfold sX8_rest
      rw [row_f F M i]
      simp only [ob_some, nm_eq, if_true, if_false, Bool.false_eq_true, not_true_eq_false, not_false_eq_true]
  · rcases rg b 6 5 6 rfl rfl (by decide) (by decide) with ⟨o2, i2⟩ | ⟨p, hp, rfl, o2, i2⟩
    · refine ⟨-2, fun M h => ⟨M, ?_, h⟩, fun M h => ⟨M, ?_, h⟩⟩
      · unfold sX7_rest
        rw [nrow_f F M o, out_t F M o2]
        simp only [ob_some, nm_eq, if_true, if_false, Bool.false_eq_true, not_true_eq_false, not_false_eq_true]
      · unfold sX8_rest
        rw [row_t F M i, per_f F M i2]
        simp only [ob_some, nm_eq, if_true, if_false, Bool.false_eq_true, not_true_eq_false, not_false_eq_true]
    · obtain ⟨r, h1, h2⟩ := q_rest_i (P := P) hF hj hp
      refine ⟨r, h1, fun M h => ?_⟩
      unfold sX8_rest
      rw [row_t F M i, per_t F M i2]
      simp only [ob_some, nm_eq, if_true, if_false, Bool.false_eq_true, not_true_eq_false, not_false_eq_true]
      exact h2.wr h
/-! accounts -/
theorem pcb_lt (P : Pm) : ∀ l r, pcb P l r = true → l < pK P := fun l r z => cB_lt z
def owV (P : Pm) (a : Option Nat) : Int32 := xI (pcb P) (pR P) (lk (pcb P) (pR P) (2 ^ pR P) &&& mk (eP (pq1 P) a) (pR P))
theorem q_owedM (hF : 1025 < F) (a : Option Nat) (ha : ∀ p, a = some p → p < 6) : Qy P (sX8_owedOf F (oI a)) (owV P a) := fun M h => by
  obtain ⟨X, x1, x2, x3, x4, x5, x6⟩ := e_rd (F := F) h (by omega)
  obtain ⟨g, hg⟩ := e_owedOf x2 x5 hF a (fun p hp => by have := ha p hp; omega)
  exact ⟨_, hg, x6.stC g rfl (by decide)⟩
theorem e_with1 (h : Inv P M) (hF : 10 < F) {p : Nat} (hp : p < 6) : sX1_with F 10 1 (nI p) M = some (nI (mk (eP (pq1 P) (some p)) (pR P))) := by
  rw [show (1 : Int32) = nI 1 from rfl, e_with F 10 (pR P) 1 (nI p) M h.pca.1.1 h.pca.1.2.1 (by decide) hF]
  congr 2
  refine mk_cong (fun i hi => ?_)
  obtain ⟨⟨-, a1, -⟩, -, b1, -⟩ := h.pca.1.2.2 i hi
  show decide (M 13 (6 * i + 1) = nI p) = _
  rw [a1]
  exact decide_eq_decide.mpr (nI_eq (by omega) (by omega))
theorem e_owedC (h : Inv P M) (hA : AccOK M (pR P) (pK P) (pcb P)) (a : Option Nat) : sX0_owedAmong F (nI (mk (eP (pq1 P) a) (pR P))) M = some (owV P a) := e_owedAmong hA (pcb_lt P)
theorem e_owedAll (h : Inv P M) (hA : AccOK M (pR P) (pK P) (pcb P)) : sX0_owedAmong F 1023 M = some (owV P none) := by
  rw [show (1023 : Int32) = nI 1023 from rfl, e_owedAmong hA (pcb_lt P)]
  unfold owV
  congr 2
  have hl := lk_lt (cb := pcb P) (R := pR P) (2 ^ pR P) (pow_pos2 _)
  have hp := pow_le10 h.n10.2.1
  rw [show (1023 : Nat) = 2 ^ 10 - 1 from rfl, and_all (n := 10) (by omega)]
  have : mk (eP (pq1 P) none) (pR P) = 2 ^ pR P - 1 := Nat.eq_of_testBit_eq (fun i => by rw [mk_tb, tb_all]; simp [eP])
  rw [this, and_all hl]
theorem q_owedC (hF : 1025 < F) (a : Option Nat) (ha : ∀ p, a = some p → p < 6) : Qy P (sX7_owed F (oI a)) (owV P a) := fun M h => by
  obtain ⟨M1, a1, a2, a3⟩ := e_accountsNow (F := F) h (by omega)
  refine ⟨M1, ?_, a2⟩
  unfold sX7_owed
  simp only [nm_eq]
  rw [a1]
  simp only [ob_some]
  cases a with
  | none =>
    rw [if_pos (show oI none = -1 from rfl), if_neg (not_not_intro (show oI none = -1 from rfl)), e_owedAll a2 a3]
    rfl
  | some p =>
    have hp := ha p rfl
    rw [if_neg (show ¬ oI (some p) = -1 from m1_ne (by omega)), if_pos (show ¬ oI (some p) = -1 from m1_ne (by omega)), show oI (some p) = nI p from rfl, out_f F M (per_in hp)]
    simp only [ob_some, nm_eq, if_true, if_false, Bool.false_eq_true, not_true_eq_false, not_false_eq_true]
    rw [z_ibL (by decide) (by decide), z_ixL (by decide), show (8 + 1 + OfNat.ofNat 1 : Nat) = 10 from rfl, e_with1 h (by omega) hp]
    simp only [ob_some, nm_eq, if_true, if_false, Bool.false_eq_true, not_true_eq_false, not_false_eq_true]
    rw [e_owedC a2 a3]
    rfl
theorem q_owed (hF : 1025 < F) (a : Int32) : ∃ r, Qy P (sX7_owed F a) r ∧ Qy P (sX8_owed F a) r := by
  by_cases c : a = -1
  · refine ⟨owV P none, by rw [c]; exact q_owedC hF none (fun p hp => by simp at hp), fun M h => ?_⟩
    unfold sX8_owed
    simp only [nm_eq]
    rw [if_pos c, c]
    exact (q_owedM hF none (fun p hp => by simp at hp)).wr h
  · rcases rg a 6 5 6 rfl rfl (by decide) (by decide) with ⟨o, i⟩ | ⟨p, hp, rfl, o, i⟩
    · refine ⟨-2, fun M h => ⟨M, ?_, h⟩, fun M h => ⟨M, ?_, h⟩⟩
      · unfold sX7_owed
        simp only [nm_eq]
        rw [if_neg c, out_t F M o]
        simp only [ob_some, nm_eq, if_true, if_false, Bool.false_eq_true, not_true_eq_false, not_false_eq_true]
      · unfold sX8_owed
        simp only [nm_eq]
        rw [if_neg c, per_f F M i]
        simp only [ob_some, nm_eq, if_true, if_false, Bool.false_eq_true, not_true_eq_false, not_false_eq_true]
    · refine ⟨owV P (some p), q_owedC hF (some p) (fun p' e => by cases e; exact hp), fun M h => ?_⟩
      unfold sX8_owed
      simp only [nm_eq]
      rw [if_neg c, per_t F M i]
      simp only [ob_some, nm_eq, if_true, if_false, Bool.false_eq_true, not_true_eq_false, not_false_eq_true]
      exact (q_owedM hF (some p) (fun p' e => by cases e; exact hp)).wr h
theorem q_lackN (hF : 1025 < F) : ∃ r, Qy P (sX7_lack F) r ∧ Qy P (sX8_lackNow F) r := by
  refine ⟨nI (lk (pcb P) (pR P) (2 ^ pR P)), fun M h => ?_, fun M h => ?_⟩
  · obtain ⟨M1, a1, a2, a3⟩ := e_accountsNow (F := F) h (by omega)
    refine ⟨M1, ?_, a2⟩
    unfold sX7_lack sX0_lacking
    rw [a1]
    simp only [ob_some, nm_eq, if_true, if_false, Bool.false_eq_true, not_true_eq_false, not_false_eq_true]
    rw [a3.2.2.2]
  · obtain ⟨X, x1, x2, x3, x4, x5, x6⟩ := e_rd (F := F) h (by omega)
    exact ⟨X, e_lackNow x2 x5 (by omega), x6⟩
theorem q_lack (hF : 1025 < F) : ∃ r, Qy P (sX7_lack F) r ∧ Qy P (sX8_lack F) r := by
  obtain ⟨r, h1, h2⟩ := q_lackN (P := P) hF
  exact ⟨r, h1, fun M h => h2.wr h⟩
theorem q_unaskedN (hF : 1025 < F) : ∃ r, Qy P (sX7_unasked F) r ∧ Qy P (sX8_unaskedNow F) r := by
  refine ⟨nI (unM (pcb P) (pK P) (pR P)), fun M h => ?_, fun M h => ?_⟩
  · obtain ⟨M1, a1, a2, a3⟩ := e_accountsNow (F := F) h (by omega)
    refine ⟨M1, ?_, a2⟩
    unfold sX7_unasked sX0_withoutReply
    rw [a1]
    simp only [ob_some, nm_eq, if_true, if_false, Bool.false_eq_true, not_true_eq_false, not_false_eq_true]
    rw [a3.2.1]
  · obtain ⟨X, x1, x2, x3, x4, x5, x6⟩ := e_rd (F := F) h (by omega)
    exact ⟨X, e_unaskedNow x2 x5 (by omega), x6⟩
theorem q_unasked (hF : 1025 < F) : ∃ r, Qy P (sX7_unasked F) r ∧ Qy P (sX8_unasked F) r := by
  obtain ⟨r, h1, h2⟩ := q_unaskedN (P := P) hF
  exact ⟨r, h1, fun M h => h2.wr h⟩
theorem q_fines (hF : 1025 < F) (a : Int32) : ∃ r, Qy P (sX7_fines F a) r ∧ Qy P (sX8_fines F a) r := by
  rcases rg a 6 5 6 rfl rfl (by decide) (by decide) with ⟨o, i⟩ | ⟨p, hp, rfl, o, i⟩
  · refine ⟨-2, fun M h => ⟨M, ?_, h⟩, fun M h => ⟨M, ?_, h⟩⟩
    · unfold sX7_fines
      rw [out_t F M o]
      simp only [ob_some, nm_eq, if_true, if_false, Bool.false_eq_true, not_true_eq_false, not_false_eq_true]
    · unfold sX8_fines
      rw [per_f F M i]
      simp only [ob_some, nm_eq, if_true, if_false, Bool.false_eq_true, not_true_eq_false, not_false_eq_true]
  · refine ⟨owV P (some p) * nI (pst P 2), fun M h => ?_, fun M h => ?_⟩
    · obtain ⟨M1, a1, a2, a3⟩ := e_accountsNow (F := F) h (by omega)
      refine ⟨M1, ?_, a2⟩
      unfold sX7_fines
      rw [out_f F M o, a1]
      simp only [ob_some, nm_eq, if_true, if_false, Bool.false_eq_true, not_true_eq_false, not_false_eq_true]
      rw [z_ibL (by decide) (by decide), z_ixL (by decide), show (8 + 1 + OfNat.ofNat 1 : Nat) = 10 from rfl, e_with1 a2 (by omega) hp]
      simp only [ob_some, nm_eq, if_true, if_false, Bool.false_eq_true, not_true_eq_false, not_false_eq_true]
      rw [e_owedC a2 a3]
      simp only [ob_some, nm_eq, if_true, if_false, Bool.false_eq_true, not_true_eq_false, not_false_eq_true]
      rw [z_ibL (by decide) (by decide), z_ixL (by decide), (a2.se.1 2 (by decide)).1]
    · obtain ⟨X, y1, y2⟩ := q_owedM (P := P) hF (some p) (fun p' e => by cases e; exact hp) M h
      refine ⟨X, ?_, y2⟩
      unfold sX8_fines
      rw [per_t F M i]
      simp only [ob_some, nm_eq, if_true, if_false, Bool.false_eq_true, not_true_eq_false, not_false_eq_true]
      rw [show nI p = oI (some p) from rfl, y1]
      simp only [ob_some, nm_eq, if_true, if_false, Bool.false_eq_true, not_true_eq_false, not_false_eq_true]
      rw [(y2.se.1 2 (by decide)).2]
/-! counts -/
theorem q_count (hF : 1025 < F) (a : Int32) : ∃ r, Qz P (sX7_count F a) r ∧ Qy P (sX8_count F a) r := by
  by_cases c0 : a = 0
  · subst c0
    refine ⟨nI (P.2.2.1 0), fun M h => ?_, fun M h => ?_⟩
    · unfold sX7_count sX1_howMany
      rw [if_pos rfl, z_ibL (by decide) (by decide), z_ixL (by decide), show (8 + 1 + OfNat.ofNat 0 : Nat) = 9 + 0 from rfl, (h.cr.1 0 (by decide)).1]
      rfl
    · obtain ⟨X, x1, x2, x3, x4, x5, x6⟩ := e_rd (F := F) h (by omega)
      refine ⟨X, ?_, x6⟩
      unfold sX8_count sX8_readsMany
      rw [if_pos rfl, x2]
      simp only [ob_some, nm_eq, if_true, if_false, Bool.false_eq_true, not_true_eq_false, not_false_eq_true]
      rw [x4.1.1]
      rfl
  · by_cases c1 : a = 1
    · subst c1
      refine ⟨nI (P.2.2.1 1), fun M h => ?_, fun M h => ?_⟩
      · unfold sX7_count sX1_howMany
        rw [if_neg (by decide), if_pos rfl, z_ibL (by decide) (by decide), z_ixL (by decide), show (8 + 1 + OfNat.ofNat 1 : Nat) = 9 + 1 from rfl, (h.cr.1 1 (by decide)).1]
        rfl
      · obtain ⟨X, x1, x2, x3, x4, x5, x6⟩ := e_rd (F := F) h (by omega)
        refine ⟨X, ?_, x6⟩
        unfold sX8_count sX8_readsMany
        rw [if_neg (by decide), if_pos rfl, x2]
        simp only [ob_some]
        rw [if_pos (by decide), show ((1 : Int32) - 1) = 0 from rfl, z_ibL (by decide) (by decide), z_ixL (by decide), x5.1.1]
        rfl
    · by_cases c2 : a = 2
      · subst c2
        refine ⟨nI (P.2.2.1 2), fun M h => ?_, fun M h => ?_⟩
        · unfold sX7_count sX1_howMany
          rw [if_neg (by decide), if_neg (by decide), if_pos rfl, z_ibL (by decide) (by decide), z_ixL (by decide), show (8 + 1 + OfNat.ofNat 2 : Nat) = 9 + 2 from rfl, (h.cr.1 2 (by decide)).1]
          rfl
        · obtain ⟨X, x1, x2, x3, x4, x5, x6⟩ := e_rd (F := F) h (by omega)
          refine ⟨X, ?_, x6⟩
          unfold sX8_count sX8_readsMany
          rw [if_neg (by decide), if_neg (by decide), if_pos rfl, x2]
          simp only [ob_some]
          rw [if_pos (by decide), show ((2 : Int32) - 1) = 1 from rfl, z_ibL (by decide) (by decide), z_ixL (by decide), x5.2.1.1]
          rfl
      · by_cases c3 : a = 3
        · subst c3
          refine ⟨nI (P.1 0), fun M h => ?_, fun M h => ⟨M, ?_, h⟩⟩
          · unfold sX7_count sX6_length
            rw [if_neg (by decide), if_neg (by decide), if_neg (by decide), if_pos rfl, show ((3 : Int32) - 3) = 0 from rfl, z_ibL (by decide) (by decide), z_ixL (by decide), show (1 + 1 + OfNat.ofNat 0 : Nat) = 2 + 0 from rfl, (h.ti 0 (by decide)).1.1]
            rfl
          · unfold sX8_count
            rw [if_neg (by decide), if_neg (by decide), if_neg (by decide), if_pos rfl, show ((3 : Int32) - 3) = 0 from rfl, z_ibL (by decide) (by decide), z_ixL (by decide), show (OfNat.ofNat 0 : Nat) = 0 from rfl, (h.ti 0 (by decide)).2.1.1]
        · by_cases c4 : a = 4
          · subst c4
            refine ⟨nI (P.1 1), fun M h => ?_, fun M h => ⟨M, ?_, h⟩⟩
            · unfold sX7_count sX6_length
              rw [if_neg (by decide), if_neg (by decide), if_neg (by decide), if_neg (by decide), if_pos rfl, show ((4 : Int32) - 3) = 1 from rfl, z_ibL (by decide) (by decide), z_ixL (by decide), show (1 + 1 + OfNat.ofNat 1 : Nat) = 2 + 1 from rfl, (h.ti 1 (by decide)).1.1]
              rfl
            · unfold sX8_count
              rw [if_neg (by decide), if_neg (by decide), if_neg (by decide), if_neg (by decide), if_pos rfl, show ((4 : Int32) - 3) = 1 from rfl, z_ibL (by decide) (by decide), z_ixL (by decide), show (OfNat.ofNat 1 : Nat) = 1 from rfl, (h.ti 1 (by decide)).2.1.1]
          · by_cases c5 : a = 5
            · subst c5
              refine ⟨nI (P.1 2), fun M h => ?_, fun M h => ⟨M, ?_, h⟩⟩
              · unfold sX7_count sX6_length
                rw [if_neg (by decide), if_neg (by decide), if_neg (by decide), if_neg (by decide), if_neg (by decide), if_pos rfl, show ((5 : Int32) - 3) = 2 from rfl, z_ibL (by decide) (by decide), z_ixL (by decide), show (1 + 1 + OfNat.ofNat 2 : Nat) = 2 + 2 from rfl, (h.ti 2 (by decide)).1.1]
                rfl
              · unfold sX8_count
                rw [if_neg (by decide), if_neg (by decide), if_neg (by decide), if_neg (by decide), if_neg (by decide), if_pos rfl, show ((5 : Int32) - 3) = 2 from rfl, z_ibL (by decide) (by decide), z_ixL (by decide), show (OfNat.ofNat 2 : Nat) = 2 from rfl, (h.ti 2 (by decide)).2.1.1]
            · by_cases c6 : a = 6
              · subst c6
                refine ⟨pM P 26 0, fun M h => ?_, fun M h => ⟨M, ?_, h⟩⟩
                · unfold sX7_count sX4_howMany
                  rw [if_neg (by decide), if_neg (by decide), if_neg (by decide), if_neg (by decide), if_neg (by decide), if_neg (by decide), if_pos rfl, h.k (k := 26) rfl]
                  rfl
                · unfold sX8_count
                  obtain ⟨k, sm, si, w, u, ⟨s1, s2, s3⟩, -⟩ := h.1.2.2.2.1
                  rw [if_neg (by decide), if_neg (by decide), if_neg (by decide), if_neg (by decide), if_neg (by decide), if_neg (by decide), if_pos rfl, h.x (x := 14) (by decide), s3, s1]
              · by_cases c7 : a = 7
                · subst c7
                  refine ⟨nI (pst P 0), fun M h => ?_, fun M h => ⟨M, ?_, h⟩⟩
                  · unfold sX7_count
                    rw [if_neg (by decide), if_neg (by decide), if_neg (by decide), if_neg (by decide), if_neg (by decide), if_neg (by decide), if_neg (by decide), if_pos rfl, z_ibL (by decide) (by decide), z_ixL (by decide), (h.se.1 0 (by decide)).1]
                  · unfold sX8_count
                    rw [if_neg (by decide), if_neg (by decide), if_neg (by decide), if_neg (by decide), if_neg (by decide), if_neg (by decide), if_neg (by decide), if_pos rfl, (h.se.1 0 (by decide)).2]
                · by_cases c8 : a = 8
                  · subst c8
                    refine ⟨pM P 0 11, fun M h => ?_, fun M h => ⟨M, ?_, h⟩⟩
                    · unfold sX7_count
                      rw [if_neg (by decide), if_neg (by decide), if_neg (by decide), if_neg (by decide), if_neg (by decide), if_neg (by decide), if_neg (by decide), if_neg (by decide), if_pos rfl, h.2.1.2.1]
                    · unfold sX8_count
                      rw [if_neg (by decide), if_neg (by decide), if_neg (by decide), if_neg (by decide), if_neg (by decide), if_neg (by decide), if_neg (by decide), if_neg (by decide), if_pos rfl, h.x (x := 22) (by decide), h.1.2.2.2.2.2]
                  · refine ⟨-2, fun M h => ?_, fun M h => ⟨M, ?_, h⟩⟩
                    · unfold sX7_count
                      rw [if_neg c0, if_neg c1, if_neg c2, if_neg c3, if_neg c4, if_neg c5, if_neg c6, if_neg c7, if_neg c8]
                    · unfold sX8_count
                      rw [if_neg c0, if_neg c1, if_neg c2, if_neg c3, if_neg c4, if_neg c5, if_neg c6, if_neg c7, if_neg c8]
end Ask3
