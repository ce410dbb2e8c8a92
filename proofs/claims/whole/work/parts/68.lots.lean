/-! questions: lots -/
section Lots
variable {F : Nat} {P : Pm} {M : Mem}
def gN (s : Int32) : Int32 := 1103515245 * s + 12345
def bN (s : Int32) : Int32 := ush (gN s) 16 - ush (gN s) 16 / 2 * 2
/-- a row drawn: its bits, the seed behind it -/
def dr (s : Int32) : Nat → Int32 × Int32
  | 0 => (0, s)
  | m + 1 => ((dr s m).1 ||| (bN (dr s m).2 <<< (nI m &&& 31)), gN (dr s m).2)
theorem st2_st2 (M : Mem) (k i : Nat) (v v' : Int32) : st2 (st2 M k i v) k i v' = st2 M k i v' := by
  funext a b
  rw [st2_at, st2_at, st2_at]
  by_cases c : a = k ∧ b = i
  · rw [if_pos c, if_pos c]
  · rw [if_neg c, if_neg c, if_neg c]
theorem st2_self (M : Mem) (k i : Nat) : st2 M k i (M k i) = M := by
  funext a b
  rw [st2_at]
  by_cases c : a = k ∧ b = i
  · rw [if_pos c, c.1, c.2]
  · rw [if_neg c]
theorem e_draw : sX2_draw F 2 M = some (bN (M 27 0), st2 M 27 0 (gN (M 27 0))) := by
  unfold sX2_draw nz
  simp only [nm_eq]
  rw [if_neg (by decide), if_neg (by decide), st2_same]
  rfl
theorem e_drawRow {N : Nat} (hN : N ≤ 10) (hF : 1025 < F) : sX2_drawRow F (nI N) M = some ((dr (M 27 0) N).1, st2 M 27 0 (dr (M 27 0) N).2) := by
  unfold sX2_drawRow
  have road := fx3_road (g := sX2_drawRow_L4 F (nI N)) (fun m => (dr (M 27 0) m).1) (fun m => nI m) (fun m => st2 M 27 0 (dr (M 27 0) m).2) N (some ((dr (M 27 0) N).1, st2 M 27 0 (dr (M 27 0) N).2)) (fun m hm rec => by
    unfold sX2_drawRow_L4
    rw [if_neg (nI_ge hm (by omega)), e_draw]
    simp only [ob_some, nm_eq]
    rw [st2_same, st2_st2, z_addR]
    rfl) (fun rec => by
    unfold sX2_drawRow_L4
    rw [if_pos (nI_le (Nat.le_refl _) (by omega))]) F 0 (Nat.zero_le _) (by omega)
  rw [show (dr (M 27 0) 0).2 = M 27 0 from rfl, st2_self] at road
  exact road
theorem e_drawM {X : Mem} {r1 : Int32 × Mem} (hr2 : r1.2 = X) {N : Nat} (h2 : X 37 2 = nI N) (hN : N ≤ 10) (hF : 1025 < F) (s : Int32) (J : Int32 → Int32 → Option (Int32 × Mem)) : fx3 F (sX8_lotOf_L37 F r1 J) s 0 0 = J (dr s N).2 (dr s N).1 := by
  refine fx3_road (g := sX8_lotOf_L37 F r1 J) (fun m => (dr s m).2) (fun m => (dr s m).1) (fun m => nI m) N _ (fun m hm rec => ?_) (fun rec => ?_) F 0 (Nat.zero_le _) (by omega)
  · unfold sX8_lotOf_L37 nz
    rw [hr2, h2, if_neg (nI_ge hm (by omega))]
    simp only [nm_eq]
    rw [if_neg (show ¬ (2 : Int32) = 0 by decide), z_addR]
    rfl
  · unfold sX8_lotOf_L37
    rw [hr2, h2, if_pos (nI_le (Nat.le_refl _) (by omega))]
def rowN (v : Int32) : Nat := v.toBitVec.toNat
theorem rowN_is (v : Int32) : nI (rowN v) = v := by
  apply Int32.toBitVec_inj.mp
  show BitVec.ofNat 32 v.toBitVec.toNat = v.toBitVec
  simp
def sqS (N : Nat) (s : Int32) : Nat → Int32
  | 0 => s
  | k + 1 => (dr (sqS N s k) N).2
def fitB (P : Pm) (s : Int32) (k : Nat) : Bool := decide (Bk (pq P) (pL P) (pN P) (rowN (dr (sqS (pN P) s k) (pN P)).1 &&& (2 ^ pN P - 1)) (pO P) = 0)
theorem e_rows27 (h : Inv P M) (hF : 1024 < F) {M1 : Mem} (e : sX7_rowsNow F M = some M1) : M1 27 = M 27 := by
  unfold sX7_rowsNow at e
  by_cases c : M 0 5 = 0
  · rw [if_pos c] at e
    have : M = M1 := by simpa using e
    rw [this]
  · have hs := h.se
    rw [if_neg c, z_ibL (by decide) (by decide), z_ibL (by decide) (by decide), z_ibL (by decide) (by decide), z_ixL (by decide), z_ixL (by decide), (hs.1 0 (by decide)).1, (hs.1 3 (by decide)).1] at e
    obtain ⟨M', w1, w2, w3⟩ := e_workOut (F := F) (L := pL P) (O := pO P) h.pc hs.2.1 hs.2.2.2.2 hF
    rw [show (8 + 1 + OfNat.ofNat 0 : Nat) = 9 from rfl, show pst P 0 = pL P from rfl, show pst P 3 = pO P from rfl, w1] at e
    simp only [ob_some, nm_eq] at e
    have : st2 M' 0 5 0 = M1 := by simpa using e
    rw [← this, st2_k _ _ _ (by decide), w3 27 rfl]
theorem e_lotC (hF : 1025 < F) (s : Int32) {n : Nat} (hn : n < 100) : ∀ d k X g, k + d = n → d < g → Inv P X → X 27 0 = sqS (pN P) s k → ∃ X', fx3 g (sX7_lot_L50 F (nI n) (nI (pN P))) (nI (fb_ct (fitB P s) k)) (nI k) X = some (nI (fb_ct (fitB P s) n), X') ∧ Inv P X'
  | 0 => fun k X g hk hg h _ => by
    obtain ⟨g', rfl⟩ : ∃ g', g = g' + 1 := ⟨g - 1, by omega⟩
    refine ⟨X, ?_, h⟩
    show sX7_lot_L50 F (nI n) (nI (pN P)) (fx3 g' (sX7_lot_L50 F (nI n) (nI (pN P)))) _ _ _ = _
    unfold sX7_lot_L50
    rw [if_pos (nI_le (by omega) (by omega)), show k = n by omega]
  | d + 1 => fun k X g hk hg h hx => by
    obtain ⟨g', rfl⟩ : ∃ g', g = g' + 1 := ⟨g - 1, by omega⟩
    have h10 := h.n10.1
    obtain ⟨X1, a1, a2, a3⟩ := e_rowsNow (F := F) h (by omega)
    have x27 : X1 27 0 = sqS (pN P) s k := by rw [e_rows27 h (by omega) a1]; exact hx
    have hI2 : Inv P (st2 X1 27 0 (sqS (pN P) s (k + 1))) := a2.one (c := 27) rfl (by decide) (fun k hk => st2_k _ _ _ hk)
    have hR2 : RowsOK (st2 X1 27 0 (sqS (pN P) s (k + 1))) (pN P) (pq P) (pL P) (pO P) := a3.fr (st2_k _ _ _ (by decide)) (st2_k _ _ _ (by decide)) (st2_k _ _ _ (by decide)) (st2_k _ _ _ (by decide))
    have hpw := pow_le10 h10
    have hB := Bk_lt (q := pq P) (L := pL P) (free := pO P) (and_lt_all (rowN (dr (sqS (pN P) s k) (pN P)).1) (pN P))
    obtain ⟨X', b1, b2⟩ := e_lotC hF s hn d (k + 1) (st2 X1 27 0 (sqS (pN P) s (k + 1))) g' (by omega) (by omega) hI2 (st2_same _ _ _ _)
    refine ⟨X', ?_, b2⟩
    show sX7_lot_L50 F (nI n) (nI (pN P)) (fx3 g' (sX7_lot_L50 F (nI n) (nI (pN P)))) _ _ _ = _
    unfold sX7_lot_L50
    rw [if_neg (nI_ge (by omega) (by omega)), a1]
    simp only [ob_some]
    rw [e_drawRow h10 hF, x27]
    simp only [ob_some, nm_eq]
    rw [show (dr (sqS (pN P) s k) (pN P)).2 = sqS (pN P) s (k + 1) from rfl, ← rowN_is (dr (sqS (pN P) s k) (pN P)).1, e_brokenBy7 hR2]
    simp only [ob_some]
    rw [z_addR, z_addR]
    rw [fb_ct_succ] at b1
    by_cases c : Bk (pq P) (pL P) (pN P) (rowN (dr (sqS (pN P) s k) (pN P)).1 &&& (2 ^ pN P - 1)) (pO P) = 0
    · have hf : fitB P s k = true := decide_eq_true c
      rw [hf, if_pos rfl] at b1
      rw [if_neg (show ¬ ¬ nI (Bk (pq P) (pL P) (pN P) (rowN (dr (sqS (pN P) s k) (pN P)).1 &&& (2 ^ pN P - 1)) (pO P)) = 0 from not_not_intro (by rw [c]; rfl))]
      exact b1
    · have hf : fitB P s k = false := decide_eq_false c
      rw [hf, if_neg (by decide)] at b1
      rw [if_pos (show ¬ nI (Bk (pq P) (pL P) (pN P) (rowN (dr (sqS (pN P) s k) (pN P)).1 &&& (2 ^ pN P - 1)) (pO P)) = 0 from fun z => c ((nI_eq (b := 0) (by omega) (by decide)).mp z))]
      exact b1
/-- the row drawn last -/
def lastR (N : Nat) (s : Int32) : Nat → Int32
  | 0 => 0
  | k + 1 => (dr (sqS N s k) N).1
theorem e_lotM {X : Mem} {r1 : Int32 × Mem} (hr1 : r1.1 = nI (2 ^ pN P - 1)) (hr2 : r1.2 = X) (x4 : PM X (pN P) (pq P) (pL P) (pO P)) (hF : 1025 < F) (s : Int32) {n : Nat} (hn : n < 100) (J : Int32 → Int32 → Option (Int32 × Mem)) : fx4 F (sX8_lotOf_L17 F (nI n) r1 J) s 0 0 0 = J (nI (fb_ct (fitB P s) (if n = 0 then 1 else n))) (lastR (pN P) s (if n = 0 then 1 else n)) := by
  have h10 : pN P ≤ 10 := x4.1.2.1
  have hpw := pow_le10 h10
  have hq : ∀ (A : Int32 → Option (Int32 × Mem)), (if ¬ nI n = 0 then A (nI n) else A 1) = A (nI (if n = 0 then 1 else n)) := fun A => by
    by_cases c : n = 0
    · subst c; rw [if_neg (by decide), if_pos rfl]; rfl
    · rw [if_pos (show ¬ nI n = 0 from fun z => c ((nI_eq (b := 0) (by omega) (by decide)).mp z)), if_neg c]
  have he : (if n = 0 then 1 else n) < 101 := by split <;> omega
  generalize hE : (if n = 0 then 1 else n) = E at hq he
  refine fx4_road (g := sX8_lotOf_L17 F (nI n) r1 J) (fun k => sqS (pN P) s k) (fun k => nI (fb_ct (fitB P s) k)) (fun k => lastR (pN P) s k) (fun k => nI k) E _ (fun k hk rec => ?_) (fun rec => ?_) F 0 (Nat.zero_le _) (by omega)
  · unfold sX8_lotOf_L17
    simp only [nm_eq]
    rw [hq (fun q10 => if q10 ≤ nI k then J (nI (fb_ct (fitB P s) k)) (lastR (pN P) s k) else _), if_neg (nI_ge hk (by omega)), e_drawM hr2 x4.1.1 h10 hF]
    have hB := Bk_lt (q := pq P) (L := pL P) (free := pO P) (and_lt_all (rowN (dr (sqS (pN P) s k) (pN P)).1) (pN P))
    have hal := and_lt_all (rowN (dr (sqS (pN P) s k) (pN P)).1) (pN P)
    rw [hr1, hr2, x4.2.2.1]
    rw [show (dr (sqS (pN P) s k) (pN P)).1 &&& nI (2 ^ pN P - 1) = nI (rowN (dr (sqS (pN P) s k) (pN P)).1 &&& (2 ^ pN P - 1)) by rw [← z_and, rowN_is], e_brokenBy x4 (by omega) x4.2.2.2 (by omega)]
    simp only [ob_some]
    rw [z_addR, fb_ct_succ, show (dr (sqS (pN P) s k) (pN P)).2 = sqS (pN P) s (k + 1) from rfl, show (dr (sqS (pN P) s k) (pN P)).1 = lastR (pN P) s (k + 1) from rfl]
    by_cases c : Bk (pq P) (pL P) (pN P) (rowN (dr (sqS (pN P) s k) (pN P)).1 &&& (2 ^ pN P - 1)) (pO P) = 0
    · have hf : fitB P s k = true := decide_eq_true c
      rw [if_neg (show ¬ ¬ nI (Bk (pq P) (pL P) (pN P) (rowN (lastR (pN P) s (k + 1)) &&& (2 ^ pN P - 1)) (pO P)) = 0 from not_not_intro (by rw [show lastR (pN P) s (k + 1) = (dr (sqS (pN P) s k) (pN P)).1 from rfl, c]; rfl)), hf, if_pos rfl, z_addR, z_addR]
    · have hf : fitB P s k = false := decide_eq_false c
      rw [if_pos (show ¬ nI (Bk (pq P) (pL P) (pN P) (rowN (lastR (pN P) s (k + 1)) &&& (2 ^ pN P - 1)) (pO P)) = 0 from fun z => c ((nI_eq (b := 0) (by omega) (by decide)).mp z)), hf, if_neg (by decide), z_addR]
  · unfold sX8_lotOf_L17
    simp only [nm_eq]
    rw [hq (fun q10 => if q10 ≤ nI E then J (nI (fb_ct (fitB P s) E)) (lastR (pN P) s E) else _), if_pos (nI_le (Nat.le_refl _) (by omega))]
theorem q_lot_n (hF : 1025 < F) (s : Int32) {n : Nat} (hn : n < 100) : ∃ r, Qy P (sX7_lot F s (nI n)) r ∧ Qy P (sX8_lotOf F s (nI n)) r := by
  refine ⟨if n = 0 then (dr s (pN P)).1 else nI (fb_ct (fitB P s) n), fun M h => ?_, fun M h => ?_⟩
  · have h10 := h.n10.1
    unfold sX7_lot sX1_howMany sX2_beginWith
    rw [if_neg (nI_pos (by omega)), if_pos (show nI n ≤ 99 from nI_le (b := 99) (by omega) (by decide)), z_ibL (by decide) (by decide), z_ixL (by decide), show (8 + 1 + OfNat.ofNat 0 : Nat) = 9 from rfl, h.pc.1]
    simp only [ob_some, nm_eq, if_true, if_false, Bool.false_eq_true, not_true_eq_false, not_false_eq_true]
    have hI : Inv P (st2 M 27 0 s) := h.one (c := 27) rfl (by decide) (fun k hk => st2_k _ _ _ hk)
    by_cases c : n = 0
    · subst c
      rw [if_neg (by decide), if_pos rfl, e_drawRow h10 hF, st2_same, st2_st2]
      exact ⟨_, rfl, h.one (c := 27) rfl (by decide) (fun k hk => st2_k _ _ _ hk)⟩
    · rw [if_pos (show ¬ nI n = 0 from fun z => c ((nI_eq (b := 0) (by omega) (by decide)).mp z)), if_neg c]
      exact e_lotC hF s hn n 0 (st2 M 27 0 s) F (by omega) (by omega) hI (st2_same _ _ _ _)
  · obtain ⟨X, x1, x2, x3, x4, x5, x6⟩ := e_rd (F := F) h (by omega)
    refine ⟨X, ?_, x6⟩
    unfold sX8_lotOf
    rw [x3]
    have hr2 : (nI (2 ^ pN P - 1), X).2 = X := rfl
    have hr1 : (nI (2 ^ pN P - 1), X).1 = nI (2 ^ pN P - 1) := rfl
    generalize (nI (2 ^ pN P - 1), X) = r1 at hr1 hr2
    simp only [ob_some, nm_eq]
    rw [e_lotM hr1 hr2 x4 hF s hn, hr2]
    by_cases c : n = 0
    · subst c
      rw [if_neg (by decide), if_pos rfl, if_pos rfl]
      rfl
    · rw [if_pos (show ¬ nI n = 0 from fun z => c ((nI_eq (b := 0) (by omega) (by decide)).mp z)), if_neg c, if_neg c]
theorem q_lot (hF : 1025 < F) (s b : Int32) : ∃ r, Qy P (sX7_lot F s b) r ∧ Qy P (sX8_lot F s b) r := by
  rcases rg b 100 99 100 rfl rfl (by decide) (by decide) with ⟨o, i⟩ | ⟨n, hn, rfl, o, i⟩
  · refine ⟨-2, fun M h => ⟨M, ?_, h⟩, fun M h => ⟨M, ?_, h⟩⟩
    · unfold sX7_lot
      by_cases c : b < 0
      · rw [if_pos c]
      · rw [if_neg c, if_neg (fun z => (z_99 b).mp z (o.resolve_left c))]
    · unfold sX8_lot
      rw [in_f F M i]
      simp only [ob_some, nm_eq, if_true, if_false, Bool.false_eq_true, not_true_eq_false, not_false_eq_true]
  · obtain ⟨r, h1, h2⟩ := q_lot_n (P := P) hF s hn
    refine ⟨r, h1, fun M h => ?_⟩
    unfold sX8_lot
    rw [in_t F M i]
    simp only [ob_some, nm_eq, if_true, if_false, Bool.false_eq_true, not_true_eq_false, not_false_eq_true]
    exact h2.wr h
end Lots
