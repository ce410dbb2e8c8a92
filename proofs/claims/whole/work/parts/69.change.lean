/-! what holds of both between two calls -/
section Change
variable {F : Nat} {P : Pm} {M X : Mem}
def Iv (M : Mem) : Prop := ∃ n b N f st, Inv (n, b, N, f, st, M) M
/-- a call that changes: the class, then the reference, behind it the same holds -/
def Up (g7 g8 : Mem → Option (Int32 × Mem)) : Prop := ∀ M, Iv M → ∃ r M1 M2, g7 M = some (r, M1) ∧ g8 M1 = some (r, M2) ∧ Iv M2
def Uq (g7 : Mem → Option Int32) (g8 : Mem → Option (Int32 × Mem)) : Prop := ∀ M, Iv M → ∃ r M2, g7 M = some r ∧ g8 M = some (r, M2) ∧ Iv M2
theorem Inv.wo (h : Inv P M) : WO M := h.1.2.2.1.fr (h.k rfl) (h.k rfl)
theorem Inv.sn (h : Inv P M) : SN M := h.1.2.2.2.1.fr (h.k rfl) (h.k rfl) (h.k rfl) (h.x (by decide))
theorem shK {k : Nat} (h1 : 29 ≤ k) (h2 : k ≤ 36) : scQ k = false := by
  unfold scQ
  simp only [Bool.or_eq_false_iff, Bool.and_eq_false_iff, decide_eq_false_iff_not]
  omega
theorem Inv.sh (h : Inv P M) : SH M := h.1.2.2.2.2.1.fr (fun k h1 h2 => h.k (shK h1 h2)) (h.k rfl) (h.k rfl) (h.k rfl) (h.k rfl)
theorem Inv.fi (h : Inv P M) : M 0 11 = M 37 22 := by
  rw [h.2.1.2.1, h.x (x := 22) (by decide)]
  exact h.1.2.2.2.2.2
theorem Inv.iv (h : Inv P M) : Iv M := by
  obtain ⟨n, b, N, f, st, A⟩ := P
  refine ⟨n, b, N, f, st, ⟨⟨h.ti, h.1.1.2.1, h.cr⟩, h.se, h.wo, h.sn, h.sh, h.fi⟩, ⟨fun k _ => rfl, rfl, fun x _ => rfl⟩, h.2.2.1, h.2.2.2⟩
theorem ask_up {g7 g8 : Mem → Option (Int32 × Mem)} (h : ∀ P, Wf P → ∃ r, Qy P g7 r ∧ Qy P g8 r) : Up g7 g8 := fun M hM => by
  obtain ⟨n, b, N, f, st, hI⟩ := hM
  obtain ⟨r, h1, h2⟩ := h _ hI.1
  obtain ⟨M1, a1, a2⟩ := h1 M hI
  obtain ⟨M2, b1, b2⟩ := h2 M1 a2
  exact ⟨r, M1, M2, a1, b1, b2.iv⟩
theorem ask_uq {g7 : Mem → Option Int32} {g8 : Mem → Option (Int32 × Mem)} (h : ∀ P, Wf P → ∃ r, Qz P g7 r ∧ Qy P g8 r) : Uq g7 g8 := fun M hM => by
  obtain ⟨n, b, N, f, st, hI⟩ := hM
  obtain ⟨r, h1, h2⟩ := h _ hI.1
  obtain ⟨M2, b1, b2⟩ := h2 M hI
  exact ⟨r, M2, h1 M hI, b1, b2.iv⟩
/-- texts or settings have changed: all is old -/
theorem Iv.old {n : Nat → Nat} {b : Nat → Nat → Nat} {st : Nat → Nat} (h1 : TI M n b) (h2 : SE M st) (h3 : WO M) (h4 : SN M) (h5 : SH M) (h6 : M 0 11 = M 37 22) (h7 : M 0 5 = 1) (h8 : M 0 7 = 1) : Iv M := by
  obtain ⟨N, f, a, c⟩ := h1.out
  refine ⟨n, b, N, f, st, ⟨⟨h1, a, c⟩, h2, h3, h4, h5, h6⟩, ⟨fun k _ => rfl, rfl, fun x _ => rfl⟩, fun z => ?_, fun z => ?_⟩
  · rw [h7] at z; exact absurd z (by decide)
  · rw [h8] at z; exact absurd z (by decide)
/-- cells that neither texts, settings nor rows and accounts read -/
def upK (k : Nat) : Bool := decide (k = 0) || decide (k = 16) || decide (k = 20) || decide (k = 26) || decide (k = 27) || (decide (29 ≤ k) && decide (k ≤ 37)) || (decide (40 ≤ k) && decide (k ≤ 53))
theorem Inv.chg (h : Inv P M) (hk : ∀ k, upK k = false → X k = M k) (h05 : X 0 5 = M 0 5) (h07 : X 0 7 = M 0 7) (h37 : ∀ i, i < 4 → X 37 (6 + i) = M 37 (6 + i)) (h3 : WO X) (h4 : SN X) (h5 : SH X) (h6 : X 0 11 = X 37 22) : Iv X := by
  have ht : ∀ k, txK k = true → X k = M k := fun k hh => hk k (by
    unfold txK at hh
    unfold upK
    simp only [Bool.or_eq_true, Bool.and_eq_true, decide_eq_true_eq, Bool.not_eq_true', decide_eq_false_iff_not, Bool.or_eq_false_iff, Bool.and_eq_false_iff] at *
    omega)
  obtain ⟨n, b, N, f, st, A⟩ := P
  refine ⟨n, b, N, f, st, ⟨⟨h.ti.fr ht, h.1.1.2.1, h.cr.fr ht⟩, h.se.fr (hk 15 rfl) h37, h3, h4, h5, h6⟩, ⟨fun k _ => rfl, rfl, fun x _ => rfl⟩, fun z => ?_, fun z => ?_⟩
  · rw [h05] at z
    exact (h.2.2.1 z).fr (hk 17 rfl) (hk 18 rfl) (hk 19 rfl) (hk 21 rfl)
  · rw [h07] at z
    exact (h.2.2.2 z).fr (hk 23 rfl) (hk 25 rfl)
/-! texts -/
theorem mo_k {k : Nat} (h : k ≠ 0) : st2 (st2 M 0 5 1) 0 7 1 k = M k := by rw [st2_k _ _ _ h, st2_k _ _ _ h]
theorem e_markOld : sX7_markOld F M = some (st2 (st2 M 0 5 1) 0 7 1) := rfl
theorem k3_ok {t : Nat} (ht : t < 3) : k3 t ≤ 1 ∧ fm (9 + t) = 60 + k3 t := by
  rcases (show t = 0 ∨ t = 1 ∨ t = 2 by omega) with c | c | c <;> subst c <;> decide
theorem ln_t {t : Nat} (ht : t < 3) : ln (5 + t) = if t = 0 then 80 else 60 := by
  rcases (show t = 0 ∨ t = 1 ∨ t = 2 by omega) with c | c | c <;> subst c <;> rfl
/-- one text changed, the others as they were -/
theorem TI.set1 {n : Nat → Nat} {b : Nat → Nat → Nat} (h : TI M n b) {t : Nat} (ht : t < 3) {m : Nat} {c : Nat → Nat} (hk : ∀ k, txK k = true → k ≠ 2 + t → k ≠ 5 + t → k ≠ 9 + t → k ≠ 12 + t → k ≠ 38 → k ≠ 39 → X k = M k) (h38 : ∀ s, s < 3 → s ≠ t → X 38 s = M 38 s) (h39 : ∀ s i, s < 3 → s ≠ t → i < 80 → X 39 (80 * s + i) = M 39 (80 * s + i)) (h1 : X (2 + t) 1 = nI m ∧ m ≤ ln (5 + t)) (h2 : TXm X t m c) (h3 : ∀ i, i < m → X (5 + t) i = (nI (c i)).toInt8.toInt32) (h4 : EI (k3 t) (9 + t) X m c) : TI X (fun s => if s = t then m else n s) (fun s => if s = t then c else b s) := by
  intro s hs
  by_cases e : s = t
  · subst e
    simp only [if_true]
    exact ⟨h1, h2, h3, h4⟩
  · simp only [if_neg e]
    obtain ⟨⟨a1, a2⟩, ⟨a3, a4, a5⟩, a6, a7⟩ := h s hs
    have q : ∀ k, (k = 2 + s ∨ k = 5 + s ∨ k = 9 + s ∨ k = 12 + s) → X k = M k := fun k hh => hk k (by
      unfold txK
      have h1 : 2 ≤ k := by omega
      have h2 : k ≤ 14 := by omega
      have h3 : ¬ k = 8 := by omega
      simp [h1, h2, h3]) (by omega) (by omega) (by omega) (by omega) (by omega) (by omega)
    refine ⟨⟨by rw [q _ (by omega)]; exact a1, a2⟩, ⟨by rw [h38 s hs e]; exact a3, a4, fun i hi => ⟨(a5 i hi).1, by rw [h39 s i hs e (by omega)]; exact (a5 i hi).2⟩⟩, fun i hi => ?_, a7.fr (q _ (by omega)) (q _ (by omega))⟩
    rw [q _ (by omega)]; exact a6 i hi
theorem z_255 (a : Int32) : (a ≤ 255) ↔ ¬ (256 : Int32) ≤ a := by
  rw [Int32.le_iff_toInt_le, Int32.le_iff_toInt_le]
  have h1 : (255 : Int32).toInt = 255 := rfl
  have h2 : (256 : Int32).toInt = 256 := rfl
  omega
theorem tx_in {t : Nat} (ht : t < 3) : ¬ (nI t < 0 ∨ 3 ≤ nI t) := fun z => z.elim (nI_pos (by omega)) (nI_ge (b := 3) ht (by decide))
theorem scQ_txt {t : Nat} (ht : t < 3) : 2 + t ≤ 14 ∧ 5 + t ≤ 14 := by omega
theorem u_type (hF : 1025 < F) (a b : Int32) : Up (sX7_type F a b) (sX8_type F a b) := fun M hM => by
  obtain ⟨n, bb, N, f, st, h⟩ := hM
  rcases rg a 3 2 3 rfl rfl (by decide) (by decide) with ⟨o, i⟩ | ⟨t, ht, rfl, o, i⟩
  · refine ⟨-2, M, M, ?_, ?_, h.iv⟩
    · unfold sX7_type
      rw [out_t F M o]
      simp only [ob_some, nm_eq, if_true, if_false, Bool.false_eq_true, not_true_eq_false, not_false_eq_true]
    · unfold sX8_type sX8_isText
      rw [in_f F M i]
      simp only [ob_some, nm_eq, if_true, if_false, Bool.false_eq_true, not_true_eq_false, not_false_eq_true]
  · rcases rg b 256 255 256 rfl rfl (by decide) (by decide) with ⟨o2, i2⟩ | ⟨c, hc, rfl, o2, i2⟩
    · refine ⟨-2, M, M, ?_, ?_, h.iv⟩
      · unfold sX7_type
        rw [out_f F M o]
        simp only [ob_some, nm_eq, if_true, if_false, Bool.false_eq_true, not_true_eq_false, not_false_eq_true]
        by_cases c : b < 0
        · rw [if_pos c]
        · rw [if_neg c, if_neg (fun z => (z_255 b).mp z (o2.resolve_left c))]
      · unfold sX8_type sX8_isText
        rw [in_t F M i, in_f F M i2]
        simp only [ob_some, nm_eq, if_true, if_false, Bool.false_eq_true, not_true_eq_false, not_false_eq_true]
    · have hti : TI M n bb := h.ti
      obtain ⟨⟨a1, a2⟩, ⟨a3, a4, a5⟩, a6, a7⟩ := hti t ht
      have a1 : M (2 + t) 1 = nI (n t) := a1
      have a2 : n t ≤ ln (5 + t) := a2
      have a3 : M 38 t = nI (n t) := a3
      have hln := ln_t ht
      have hl80 : ln (5 + t) ≤ 80 ∧ 60 ≤ ln (5 + t) := by rw [hln]; split <;> omega
      have hfullM : (if ¬ nI t = 0 then (60 : Int32) else 80) = nI (ln (5 + t)) := by
        rw [hln]
        rcases (show t = 0 ∨ t = 1 ∨ t = 2 by omega) with e | e | e <;> subst e <;> rfl
      have hJ : ∀ (A : Int32 → Option (Int32 × Mem)), (if ¬ nI t = 0 then A 60 else A 80) = A (nI (ln (5 + t))) := fun A => by
        rw [← hfullM]
        split <;> rfl
      have k2 : (1 + 1 + t : Nat) = 2 + t := by omega
      by_cases cf : n t = ln (5 + t)
      · -- full
        refine ⟨-4, M, M, ?_, ?_, h.iv⟩
        · unfold sX7_type sX6_isFull
          rw [out_f F M o]
          simp only [ob_some, nm_eq, if_true, if_false, Bool.false_eq_true, not_true_eq_false, not_false_eq_true]
          rw [if_neg (nI_pos (by omega)), if_pos ((z_255 _).mpr (fun z => o2 (Or.inr z))), z_ib ht (by decide), z_ix (by omega), k2, show 2 + t + 3 = 5 + t by omega, a1, if_neg (show ¬ nI (n t) < Int32.ofNat (ln (5 + t)) by rw [show Int32.ofNat (ln (5 + t)) = nI (ln (5 + t)) from rfl, z_lt (by omega) (by omega)]; omega)]
          simp only [ob_some, nm_eq, if_true, if_false, Bool.false_eq_true, not_true_eq_false, not_false_eq_true]
        · unfold sX8_type sX8_isText
          rw [in_t F M i, in_t F M i2]
          simp only [ob_some, nm_eq, if_true, if_false, Bool.false_eq_true, not_true_eq_false, not_false_eq_true]
          rw [z_ib ht (by decide), hJ (fun q3 => if ¬ M 38 (ix (nI t)) = q3 then _ else _), z_ix (by omega), a3, cf, if_neg (not_not_intro rfl)]
      · have hlt : n t < ln (5 + t) := by omega
        -- the class's bytes
        generalize hM1 : st2 (st2 M (5 + t) (n t) (nI c).toInt8.toInt32) (2 + t) 1 (nI (n t + 1)) = M1
        have m1k : ∀ k, k ≠ 2 + t → k ≠ 5 + t → M1 k = M k := fun k q1 q2 => by rw [← hM1, st2_k _ _ _ q1, st2_k _ _ _ q2]
        have m11 : M1 (2 + t) 1 = nI (n t + 1) := by rw [← hM1, st2_same]
        have m15 : ∀ x, M1 (5 + t) x = if x = n t then (nI c).toInt8.toInt32 else M (5 + t) x := fun x => by
          rw [← hM1, st2_k _ _ _ (show 5 + t ≠ 2 + t by omega), st2_at]
          by_cases e : x = n t
          · rw [if_pos ⟨rfl, e⟩, if_pos e]
          · rw [if_neg (fun z => e z.2), if_neg e]
        have happ : sX6_append F (2 + t) (nI c) M = some M1 := by
          unfold sX6_append
          rw [a1, show 2 + t + 3 = 5 + t by omega, if_neg (nI_pos (by omega)), if_neg (show ¬ Int32.ofNat (ln (5 + t)) ≤ nI (n t) from nI_ge hlt (by omega)), z_ib hlt (by omega), z_ix (by omega)]
          simp only [nm_eq]
          rw [st2_k _ _ _ (show 2 + t ≠ 5 + t by omega), a1, fb_byte_twice, z_addR, hM1]
        -- the reader
        have hE1 : EI (k3 t) (9 + t) M1 (n t) (fun x => if x = n t then c else bb t x) := by
          refine EI.cong (k3_ok ht).1 (EI.fr a7 (m1k _ (by omega) (by omega)) (m1k _ (by omega) (by omega))) (fun x hx => ?_)
          rw [if_neg (by omega)]
        obtain ⟨M3, t1, t2, t3⟩ := e_take (F := F) (by omega) (k3_ok ht).1 (k3_ok ht).2 hE1 (by omega) (fun x hx => by
          by_cases e : x = n t
          · simp [e, hc]
          · simp only [e, if_false]
            exact (a5 x (by omega)).1)
        simp only [if_true] at t1
        generalize hM4 : st2 (st2 M3 0 5 1) 0 7 1 = M4
        have m4k : ∀ k, k ≠ 0 → k ≠ 2 + t → k ≠ 5 + t → k ≠ 9 + t → k ≠ 12 + t → M4 k = M k := fun k q0 q1 q2 q3 q4 => by
          rw [← hM4, mo_k q0, t2 k q3 (by omega), m1k k q1 q2]
        have m4t : ∀ k, k ≠ 0 → M4 k = M3 k := fun k q0 => by rw [← hM4, mo_k q0]
        generalize hM6 : st2 (st2 M4 39 (80 * t + n t) (nI c)) 38 t (nI (n t + 1)) = M6
        have m6k : ∀ k, k ≠ 38 → k ≠ 39 → M6 k = M4 k := fun k q1 q2 => by rw [← hM6, st2_k _ _ _ q1, st2_k _ _ _ q2]
        have h38 : M4 38 t = nI (n t) := by rw [m4k 38 (by decide) (by omega) (by omega) (by omega) (by omega)]; exact a3
        refine ⟨nI (n t + 1), M4, M6, ?_, ?_, ?_⟩
        · unfold sX7_type sX6_isFull
          rw [out_f F M o]
          simp only [ob_some, nm_eq, if_true, if_false, Bool.false_eq_true, not_true_eq_false, not_false_eq_true]
          rw [if_neg (nI_pos (by omega)), if_pos ((z_255 _).mpr (fun z => o2 (Or.inr z))), z_ib ht (by decide), z_ix (by omega), k2, show 2 + t + 3 = 5 + t by omega, a1, if_pos (show nI (n t) < Int32.ofNat (ln (5 + t)) by rw [show Int32.ofNat (ln (5 + t)) = nI (ln (5 + t)) from rfl, z_lt (by omega) (by omega)]; omega)]
          simp only [ob_some, nm_eq, if_true, if_false, Bool.false_eq_true, not_true_eq_false, not_false_eq_true]
          rw [z_ib ht (by decide), happ]
          simp only [ob_some, nm_eq, if_true, if_false, Bool.false_eq_true, not_true_eq_false, not_false_eq_true]
          rw [z_ib ht (by decide), show 8 + 1 + t = 9 + t from rfl, t1]
          simp only [ob_some, nm_eq, if_true, if_false, Bool.false_eq_true, not_true_eq_false, not_false_eq_true]
          rw [e_markOld, hM4]
          simp only [ob_some, nm_eq, if_true, if_false, Bool.false_eq_true, not_true_eq_false, not_false_eq_true]
          rw [z_ib ht (by decide)]
          unfold sX6_length
          simp only [ob_some, nm_eq, if_true, if_false, Bool.false_eq_true, not_true_eq_false, not_false_eq_true]
          rw [m4t _ (by omega), t2 _ (by omega) (by omega), m11]
        · unfold sX8_type sX8_isText
          rw [in_t F M4 i, in_t F M4 i2]
          simp only [ob_some, nm_eq, if_true, if_false, Bool.false_eq_true, not_true_eq_false, not_false_eq_true]
          rw [z_ib ht (by decide), hJ (fun q3 => if ¬ M4 38 (ix (nI t)) = q3 then _ else _), z_ix (by omega), h38, if_pos (show ¬ nI (n t) = nI (ln (5 + t)) from fun z => cf ((nI_eq (by omega) (by omega)).mp z)), z_ib ht (by decide), z_mulL, z_add, z_ib (by omega) (by decide), z_ix (by omega), z_ib ht (by decide), z_ib ht (by decide), z_ib ht (by decide)]
          rw [st2_k _ _ _ (show (38 : Nat) ≠ 39 by decide), h38, z_addR, hM6, ← hM6, st2_same]
        · refine Iv.old (M := M6) (st := st) (hti.set1 (X := M6) ht (m := n t + 1) (c := fun x => if x = n t then c else bb t x) (fun k q0 q1 q2 q3 q4 q5 q6 => ?_) (fun s hs e => ?_) (fun s x hs e hx => ?_) ⟨?_, by omega⟩ ⟨?_, by omega, fun x hx => ?_⟩ (fun x hx => ?_) ?_) ?_ ?_ ?_ ?_ ?_ ?_ ?_
          · rw [m6k k q5 q6, m4k k (fun z => by rw [z] at q0; exact absurd q0 (by decide)) q1 q2 q3 q4]
          · rw [← hM6, st2_i _ _ _ e, st2_k _ _ _ (by decide), m4k 38 (by decide) (by omega) (by omega) (by omega) (by omega)]
          · rw [← hM6, st2_k _ _ _ (by decide), st2_i _ _ _ (by omega), m4k 39 (by decide) (by omega) (by omega) (by omega) (by omega)]
          · rw [m6k _ (by omega) (by omega), m4t _ (by omega), t2 _ (by omega) (by omega), m11]
          · rw [← hM6, st2_same]
          · by_cases e : x = n t
            · subst e
              simp only [if_true]
              exact ⟨hc, by rw [← hM6, st2_k _ _ _ (by decide), st2_same]⟩
            · simp only [e, if_false]
              refine ⟨(a5 x (by omega)).1, ?_⟩
              rw [← hM6, st2_k _ _ _ (by decide), st2_i _ _ _ (by omega), m4k 39 (by decide) (by omega) (by omega) (by omega) (by omega)]
              exact (a5 x (by omega)).2
          · rw [m6k _ (by omega) (by omega), m4t _ (by omega), t2 _ (by omega) (by omega), m15]
            by_cases e : x = n t
            · subst e; simp
            · simp only [e, if_false]
              exact a6 x (by omega)
          · exact t3.fr (by rw [m6k _ (by omega) (by omega), m4t _ (by omega)]) (by rw [m6k _ (by omega) (by omega), m4t _ (by omega)])
          · refine h.se.fr (by rw [m6k _ (by omega) (by omega), m4k _ (by omega) (by omega) (by omega) (by omega) (by omega)]) (fun j hj => by rw [m6k _ (by omega) (by omega), m4k _ (by omega) (by omega) (by omega) (by omega) (by omega)])
          · exact h.wo.fr (by rw [m6k _ (by omega) (by omega), m4k _ (by omega) (by omega) (by omega) (by omega) (by omega)]) (by rw [m6k _ (by omega) (by omega), m4k _ (by omega) (by omega) (by omega) (by omega) (by omega)])
          · exact h.sn.fr (by rw [m6k _ (by omega) (by omega), m4k _ (by omega) (by omega) (by omega) (by omega) (by omega)]) (by rw [m6k _ (by omega) (by omega), m4k _ (by omega) (by omega) (by omega) (by omega) (by omega)]) (by rw [m6k _ (by omega) (by omega), m4k _ (by omega) (by omega) (by omega) (by omega) (by omega)]) (by rw [m6k _ (by omega) (by omega), m4k _ (by omega) (by omega) (by omega) (by omega) (by omega)])
          · exact h.sh.fr (fun k q1 q2 => by rw [m6k _ (by omega) (by omega), m4k _ (by omega) (by omega) (by omega) (by omega) (by omega)]) (by rw [m6k _ (by omega) (by omega), m4k _ (by omega) (by omega) (by omega) (by omega) (by omega)]) (by rw [m6k _ (by omega) (by omega), m4k _ (by omega) (by omega) (by omega) (by omega) (by omega)]) (by rw [m6k _ (by omega) (by omega), m4k _ (by omega) (by omega) (by omega) (by omega) (by omega)]) (by rw [m6k _ (by omega) (by omega), m4k _ (by omega) (by omega) (by omega) (by omega) (by omega)])
          · rw [m6k _ (by omega) (by omega), m6k _ (by omega) (by omega), m4k 37 (by omega) (by omega) (by omega) (by omega) (by omega), ← hM4, st2_i _ _ _ (by decide), st2_i _ _ _ (by decide), t2 _ (by omega) (by omega), m1k _ (by omega) (by omega)]
            exact h.fi
          · rw [m6k _ (by omega) (by omega), ← hM4, st2_i _ _ _ (by decide), st2_same]
          · rw [m6k _ (by omega) (by omega), ← hM4, st2_same]
end Change
