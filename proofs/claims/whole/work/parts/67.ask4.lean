/-! questions: refused, lots -/
section Ask4
variable {F : Nat} {P : Pm} {M : Mem}
def noS (q : Nat → Nat → Nat) (N : Nat) : Nat := mk (fun i => decide (q 3 i = 0)) N
def agB (w u r : Nat) : Bool := decide (r &&& w = w) && decide (r &&& u = 0)
theorem e_agrees {w u r : Nat} (h1 : M 26 1 = nI w) (h2 : M 26 2 = nI u) (hw : w < 1024) (hu : u < 1024) : sX4_agreesWith F (nI r) M = some (agB w u r) := by
  have l1 : r &&& w ≤ w := Nat.and_le_right
  have l2 : r &&& u ≤ u := Nat.and_le_right
  unfold sX4_agreesWith agB
  rw [h1, h2, z_and, z_and]
  have e1 : (nI (r &&& w) = nI w) ↔ r &&& w = w := nI_eq (by omega) (by omega)
  have e2 : (nI (r &&& u) = 0) ↔ r &&& u = 0 := nI_eq (b := 0) (by omega) (by decide)
  by_cases c : r &&& w = w
  · rw [if_neg (not_not_intro (e1.mpr c))]
    by_cases d : r &&& u = 0
    · rw [if_neg (not_not_intro (e2.mpr d))]; simp [c, d]
    · rw [if_pos (fun z => d (e2.mp z))]; simp [d]
  · rw [if_pos (fun z => c (e1.mp z))]; simp [c]
def rf (w u : Nat) (s : Nat × Nat) (r : Nat) : Nat × Nat := if agB w u r = true then (s.1 + 1, s.2 &&& r) else s
def rfS (P : Pm) (w u r : Nat) : Nat × Nat := ff (fp (pq P) (pL P) (pN P) (pO P)) (rf w u) (0, noS (pq P) (pN P)) r
theorem rfS_lt {w u : Nat} : ∀ r, (rfS P w u r).2 < 2 ^ pN P
  | 0 => mk_lt _ _
  | r + 1 => by
    have ih := rfS_lt (w := w) (u := u) r
    unfold rfS at *
    unfold ff
    split
    · unfold rf
      split
      · exact Nat.lt_of_le_of_lt Nat.and_le_left ih
      · exact ih
    · exact ih
def rfV (P : Pm) (w u j : Nat) : Int32 := if ¬ nI j = 0 then (if ¬ nI (rfS P w u (2 ^ pN P)).1 = 0 then nI (rfS P w u (2 ^ pN P)).2 else 0) else nI (rfS P w u (2 ^ pN P)).1
theorem e_refusedC (h : Inv P M) (a3 : RowsOK M (pN P) (pq P) (pL P) (pO P)) (hF : 1025 < F) {w u : Nat} (h1 : M 26 1 = nI w) (h2 : M 26 2 = nI u) (hw : w < 1024) (hu : u < 1024) (J : Int32 → Int32 → Option (Int32 × Mem)) : fx3 F (sX7_refused_L34 F M J) 0 (nI (noS (pq P) (pN P))) 0 = J (nI (rfS P w u (2 ^ pN P)).1) (nI (rfS P w u (2 ^ pN P)).2) := by
  have hp := pow_le10 h.n10.1
  have hcn := cn_le (pq P) (pL P) (pN P) (pO P) (2 ^ pN P)
  have road := fx3_road (g := sX7_refused_L34 F M J) (fun i => nI (rfS P w u (ps (fp (pq P) (pL P) (pN P) (pO P)) (2 ^ pN P) i)).1) (fun i => nI (rfS P w u (ps (fp (pq P) (pL P) (pN P) (pO P)) (2 ^ pN P) i)).2) (fun i => nI i) (cn (pq P) (pL P) (pN P) (pO P) (2 ^ pN P)) (J (nI (rfS P w u (2 ^ pN P)).1) (nI (rfS P w u (2 ^ pN P)).2)) (fun i hi rec => by
    have hst : rfS P w u (ps (fp (pq P) (pL P) (pN P) (pO P)) (2 ^ pN P) (i + 1)) = rf w u (rfS P w u (ps (fp (pq P) (pL P) (pN P) (pO P)) (2 ^ pN P) i)) (ps (fp (pq P) (pL P) (pN P) (pO P)) (2 ^ pN P) i) := by
      unfold rfS; exact ff_step hi
    unfold sX7_refused_L34 sX3_howMany
    simp only [ob_some]
    rw [a3.1.2.2.2, if_neg (nI_ge hi (by omega)), e_nth a3 (by omega), if_pos hi]
    simp only [ob_some, nm_eq]
    rw [e_agrees h1 h2 hw hu]
    simp only [ob_some]
    rw [hst, z_addR, z_addR, z_and]
    unfold rf
    split <;> rfl) (fun rec => by
    unfold sX7_refused_L34 sX3_howMany
    simp only [ob_some]
    rw [a3.1.2.2.2, if_pos (nI_le (Nat.le_refl _) (by omega))]
    unfold rfS
    rw [cn_fp, ff_end]) F 0 (Nat.zero_le _) (by omega)
  have e0 : rfS P w u (ps (fp (pq P) (pL P) (pN P) (pO P)) (2 ^ pN P) 0) = (0, noS (pq P) (pN P)) := by unfold rfS; exact ff_start
  rw [e0] at road
  exact road
/-! the model -/
def agK (sm si : Nat → Nat) (r : Nat) : Nat → Bool
  | 0 => true
  | i + 1 => agK sm si r i && (r.testBit (sm i) == decide (si i = 1))
theorem agK_t {sm si : Nat → Nat} {r : Nat} : ∀ k, agK sm si r k = true ↔ ∀ i, i < k → r.testBit (sm i) = decide (si i = 1)
  | 0 => ⟨fun _ i hi => by omega, fun _ => rfl⟩
  | k + 1 => by
    unfold agK
    rw [Bool.and_eq_true, agK_t k, beq_iff_eq]
    constructor
    · rintro ⟨h1, h2⟩ i hi
      by_cases c : i = k
      · subst c; exact h2
      · exact h1 i (by omega)
    · intro h
      exact ⟨fun i hi => h i (by omega), h k (by omega)⟩
theorem ag_eq {k : Nat} {sm si : Nat → Nat} {w u : Nat} (h : SNp M k sm si w u) (r : Nat) : agK sm si r k = agB w u r := bq (by
  obtain ⟨-, h2, -, h4, h5⟩ := h
  rw [agK_t]
  unfold agB
  rw [Bool.and_eq_true, decide_eq_true_eq, decide_eq_true_eq]
  constructor
  · intro hh
    refine ⟨Nat.eq_of_testBit_eq (fun j => ?_), Nat.eq_of_testBit_eq (fun j => ?_)⟩
    · rw [Nat.testBit_and]
      cases hw : w.testBit j with
      | false => simp
      | true =>
        obtain ⟨i, b1, b2, b3⟩ := (h4 j).mp hw
        have := hh i b1
        rw [b2, b3] at this
        rw [this]; rfl
    · rw [Nat.testBit_and, Nat.zero_testBit]
      cases hu : u.testBit j with
      | false => simp
      | true =>
        obtain ⟨i, b1, b2, b3⟩ := (h5 j).mp hu
        have := hh i b1
        rw [b2, b3] at this
        rw [this]; rfl
  · rintro ⟨e1, e2⟩ i hi
    obtain ⟨⟨-, -⟩, -, s2⟩ := h2 i hi
    rcases two s2 with c | c
    · have hu : u.testBit (sm i) = true := (h5 _).mpr ⟨i, hi, rfl, c⟩
      have := congrArg (fun x => x.testBit (sm i)) e2
      simp only [Nat.testBit_and, hu, Bool.and_true, Nat.zero_testBit] at this
      rw [this, c]; rfl
    · have hw : w.testBit (sm i) = true := (h4 _).mpr ⟨i, hi, rfl, c⟩
      have := congrArg (fun x => x.testBit (sm i)) e1
      simp only [Nat.testBit_and, hw, Bool.and_true] at this
      rw [this, c]; rfl)
theorem e_sights {X : Mem} {r1 : Int32 × Mem} (hr2 : r1.2 = X) {k : Nat} {sm si : Nat → Nat} {w u : Nat} (h : SNp X k sm si w u) (hF : 1025 < F) {r : Nat} (hr : r < 1024) (c : Bool) (J : Int32 → Option (Int32 × Mem)) : fx2 F (sX8_refusedOf_L88 F r1 (nI r) J) (bi c) 0 = J (bi (c && agB w u r)) := by
  rw [← ag_eq h]
  have hk := h.1.2.1
  have road := fx2_road (g := sX8_refusedOf_L88 F r1 (nI r) J) (fun i => bi (c && agK sm si r i)) (fun i => nI i) k (J (bi (c && agK sm si r k))) (fun i hi rec => by
    obtain ⟨⟨s1, s2⟩, s3, s4⟩ := h.2.1 i hi
    unfold sX8_refusedOf_L88
    rw [hr2, h.1.2.2, if_neg (nI_ge hi (by omega))]
    simp only [nm_eq]
    rw [z_ib (by omega) (by decide), z_ib (by omega) (by decide), z_ix (by omega), s1, s3, z_bit (by omega) (by omega), z_addR]
    show _ = rec (bi (c && (agK sm si r i && (r.testBit (sm i) == decide (si i = 1))))) (nI (i + 1))
    rw [← Bool.and_assoc]
    cases (c && agK sm si r i) with
    | false => rw [if_pos (show bi false = 0 from rfl)]; rfl
    | true =>
      rw [if_neg (show ¬ bi true = 0 by decide)]
      rcases two s4 with d | d
      · rw [d]
        cases r.testBit (sm i) with
        | false => rw [if_neg (by decide)]; rfl
        | true => rw [if_pos (by decide)]; rfl
      · rw [d]
        cases r.testBit (sm i) with
        | false => rw [if_pos (by decide)]; rfl
        | true => rw [if_neg (by decide)]; rfl) (fun rec => by
    unfold sX8_refusedOf_L88
    rw [hr2, h.1.2.2, if_pos (nI_le (Nat.le_refl _) (by omega))]) F 0 (Nat.zero_le _) (by omega)
  rw [show (c && agK sm si r 0) = c from Bool.and_true c] at road
  exact road
theorem e_refusedM0 {X : Mem} {r1 : Int32 × Mem} (hr2 : r1.2 = X) {N L O : Nat} {q : Nat → Nat → Nat} (x4 : PM X N q L O) (hF : 1025 < F) (J : Int32 → Option (Int32 × Mem)) : fx2 F (sX8_refusedOf_L13 F r1 J) 0 0 = J (nI (noS q N)) := by
  have h10 : N ≤ 10 := x4.1.2.1
  refine fx2_road (fun m => nI (mk (fun i => decide (q 3 i = 0)) m)) (fun m => nI m) N _ (fun m hm rec => ?_) (fun rec => ?_) F 0 (Nat.zero_le _) (by omega)
  · obtain ⟨⟨-, -, -, a3, -⟩, -, -, -, b3, -⟩ := x4.1.2.2 m hm
    unfold sX8_refusedOf_L13
    rw [hr2, x4.1.1, if_neg (nI_ge hm (by omega)), z_mulL, z_addR, z_ib (by omega) (by decide), z_ix (by omega), a3]
    simp only [nm_eq]
    rw [z_shl1 (by omega), z_or, z_addR, mk]
    by_cases c : q 3 m = 0
    · rw [if_neg (show ¬ ¬ nI (q 3 m) = 0 from not_not_intro (by rw [c]; rfl)), if_pos (decide_eq_true c)]
    · rw [if_pos (show ¬ nI (q 3 m) = 0 from fun z => c ((nI_eq (b := 0) (by omega) (by decide)).mp z)), if_neg (by simp [c]), show (0 : Int32) = nI 0 from rfl, z_or, Nat.or_zero]
  · unfold sX8_refusedOf_L13
    rw [hr2, x4.1.1, if_pos (nI_le (Nat.le_refl _) (by omega))]
    rfl
theorem e_refusedM {X : Mem} {r1 : Int32 × Mem} (hr1 : r1.1 = nI (2 ^ pN P - 1)) (hr2 : r1.2 = X) (x4 : PM X (pN P) (pq P) (pL P) (pO P)) {k : Nat} {sm si : Nat → Nat} {w u : Nat} (h : SNp X k sm si w u) (hF : 1025 < F) (J : Int32 → Int32 → Option (Int32 × Mem)) : fx3 F (sX8_refusedOf_L59 F r1 J) 0 (nI (noS (pq P) (pN P))) 0 = J (nI (rfS P w u (2 ^ pN P)).1) (nI (rfS P w u (2 ^ pN P)).2) := by
  have h10 : pN P ≤ 10 := x4.1.2.1
  have hpw := pow_le10 h10
  have hpos := pow_pos2 (pN P)
  refine fx3_road (fun r => nI (rfS P w u r).1) (fun r => nI (rfS P w u r).2) (fun r => nI r) (2 ^ pN P) _ (fun r hr rec => ?_) (fun rec => ?_) F 0 (Nat.zero_le _) (by omega)
  · have hB := Bk_lt (q := pq P) (L := pL P) (free := pO P) hr
    have hlt := rfS_lt (P := P) (w := w) (u := u) r
    unfold sX8_refusedOf_L59
    rw [hr1, hr2, if_neg (by rw [z_lt (by omega) (by omega)]; omega), x4.2.2.1, e_brokenBy x4 (by omega) x4.2.2.2 (by omega)]
    simp only [ob_some, nm_eq]
    have hs : rfS P w u (r + 1) = if fp (pq P) (pL P) (pN P) (pO P) r = true then rf w u (rfS P w u r) r else rfS P w u r := rfl
    have fin : ∀ b : Bool, b = (fp (pq P) (pL P) (pN P) (pO P) r && agB w u r) → (if bi b = 0 then (if bi b = 0 then rec (nI (rfS P w u r).1 + 0) (nI (rfS P w u r).2 &&& nI (2 ^ pN P - 1)) (nI r + 1) else rec (nI (rfS P w u r).1 + 0) (nI (rfS P w u r).2 &&& nI r) (nI r + 1)) else (if bi b = 0 then rec (nI (rfS P w u r).1 + 1) (nI (rfS P w u r).2 &&& nI (2 ^ pN P - 1)) (nI r + 1) else rec (nI (rfS P w u r).1 + 1) (nI (rfS P w u r).2 &&& nI r) (nI r + 1))) = rec (nI (rfS P w u (r + 1)).1) (nI (rfS P w u (r + 1)).2) (nI (r + 1)) := by
      intro b hb
      rw [hs]
      cases hbb : b with
      | false =>
        rw [if_pos (show bi false = 0 from rfl), if_pos (show bi false = 0 from rfl), Int32.add_zero, z_and, and_all hlt, z_addR]
        rw [hbb] at hb
        by_cases cf : fp (pq P) (pL P) (pN P) (pO P) r = true
        · rw [cf, Bool.true_and] at hb
          rw [if_pos cf]
          unfold rf
          rw [if_neg (by rw [← hb]; decide)]
        · rw [if_neg cf]
      | true =>
        rw [hbb] at hb
        have hb := hb.symm
        rw [Bool.and_eq_true] at hb
        rw [if_neg (show ¬ bi true = 0 by decide), if_neg (show ¬ bi true = 0 by decide), z_and, z_addR, z_addR, if_pos hb.1]
        unfold rf
        rw [if_pos hb.2]
    by_cases c : Bk (pq P) (pL P) (pN P) r (pO P) = 0
    · rw [if_neg (show ¬ ¬ nI (Bk (pq P) (pL P) (pN P) r (pO P)) = 0 from not_not_intro (by rw [c]; rfl)), show (1 : Int32) = bi true from rfl, e_sights hr2 h hF (by omega)]
      exact fin _ (by rw [fp_t.mpr c])
    · rw [if_pos (show ¬ nI (Bk (pq P) (pL P) (pN P) r (pO P)) = 0 from fun z => c ((nI_eq (b := 0) (by omega) (by decide)).mp z))]
      refine Eq.trans (e_sights (F := F) hr2 h hF (r := r) (by omega) false _) ?_
      refine fin _ ?_
      have : fp (pq P) (pL P) (pN P) (pO P) r = false := by
        cases hh : fp (pq P) (pL P) (pN P) (pO P) r with
        | false => rfl
        | true => exact absurd (fp_t.mp hh) c
      rw [this]
  · unfold sX8_refusedOf_L59
    rw [hr1, if_pos (by rw [z_lt (by omega) (by omega)]; omega)]
theorem q_refused_j (hF : 1025 < F) (hW : Wf P) {j : Nat} (hj : j < 2) : ∃ r, Qy P (sX7_refused F (nI j)) r ∧ Qy P (sX8_refusedOf F (nI j)) r := by
  obtain ⟨k, sm, si, w, u, hS⟩ := hW.2.2.2.1
  refine ⟨rfV P w u j, fun M h => ?_, fun M h => ?_⟩
  · obtain ⟨M1, a1, a2, a3⟩ := e_rowsNow (F := F) h (by omega)
    have h26 : M1 26 = pM P 26 := a2.k rfl
    refine ⟨M1, ?_, a2⟩
    unfold sX7_refused
    rw [out_f F M (show ¬ (nI j < 0 ∨ 2 ≤ nI j) by rcases two hj with c | c <;> subst c <;> decide), a1]
    simp only [ob_some, nm_eq, if_true, if_false, Bool.false_eq_true, not_true_eq_false, not_false_eq_true]
    rw [z_ibL (by decide) (by decide), z_ixL (by decide), show (8 + 1 + OfNat.ofNat 0 : Nat) = 9 from rfl, show (3 : Int32) = nI 3 from rfl, e_with F 9 (pN P) 3 _ M1 a2.pc.1 a2.pc.2.1 (by decide) (by omega)]
    simp only [ob_some]
    have hno : mk (fun i => decide (M1 (9 + 3) (6 * i + 3) = 0)) (pN P) = noS (pq P) (pN P) := mk_cong (fun i hi => by
      obtain ⟨⟨-, -, -, b3, -⟩, -, -, -, c3, -⟩ := a2.pc.2.2 i hi
      rw [show (9 + 3 : Nat) = 12 from rfl, b3]
      exact decide_eq_decide.mpr (nI_eq (b := 0) (by omega) (by decide)))
    rw [hno, e_refusedC a2 a3 hF (by rw [h26]; exact hS.2.2.1.1) (by rw [h26]; exact hS.2.2.1.2.1) hS.2.2.1.2.2.1 hS.2.2.1.2.2.2]
    unfold rfV
    split
    · split <;> rfl
    · rfl
  · obtain ⟨X, x1, x2, x3, x4, x5, x6⟩ := e_rd (F := F) h (by omega)
    have hSX : SNp X k sm si w u := hS.fr (x6.k rfl) (x6.k rfl) (x6.k rfl) (x6.x (by decide))
    refine ⟨X, ?_, x6⟩
    unfold sX8_refusedOf
    rw [x3]
    have hr2 : (nI (2 ^ pN P - 1), X).2 = X := rfl
    have hr1 : (nI (2 ^ pN P - 1), X).1 = nI (2 ^ pN P - 1) := rfl
    generalize (nI (2 ^ pN P - 1), X) = r1 at hr1 hr2
    simp only [ob_some, nm_eq]
    rw [e_refusedM0 hr2 x4 hF, e_refusedM hr1 hr2 x4 hSX hF, hr2]
    unfold rfV
    split
    · split <;> rfl
    · rfl
theorem q_refused (hF : 1025 < F) (hW : Wf P) (a : Int32) : ∃ r, Qy P (sX7_refused F a) r ∧ Qy P (sX8_refused F a) r := by
  rcases rg a 2 1 2 rfl rfl (by decide) (by decide) with ⟨o, i⟩ | ⟨j, hj, rfl, o, i⟩
  · refine ⟨-2, fun M h => ⟨M, ?_, h⟩, fun M h => ⟨M, ?_, h⟩⟩
    · unfold sX7_refused
      rw [out_t F M o]
      simp only [ob_some, nm_eq, if_true, if_false, Bool.false_eq_true, not_true_eq_false, not_false_eq_true]
    · unfold sX8_refused
      rw [in_f F M i]
      simp only [ob_some, nm_eq, if_true, if_false, Bool.false_eq_true, not_true_eq_false, not_false_eq_true]
  · obtain ⟨r, h1, h2⟩ := q_refused_j (P := P) hF hW hj
    refine ⟨r, h1, fun M h => ?_⟩
    unfold sX8_refused
    rw [in_t F M i]
    simp only [ob_some, nm_eq, if_true, if_false, Bool.false_eq_true, not_true_eq_false, not_false_eq_true]
    exact h2.wr h
end Ask4
