/-! the class's accounts -/
section Accounts
variable {F R K L G : Nat} {q1 q2 : Nat → Nat → Nat} {M : Mem} {cb : Nat → Nat → Bool}
def cB (q1 q2 : Nat → Nat → Nat) (L G K l r : Nat) : Bool := decide (l < K) && (decide (q2 0 l = q1 1 r) && (decide (q2 1 l = q1 0 r) && decide (q1 2 r + L ≤ q2 2 l ∧ q2 2 l ≤ q1 2 r + L + G)))
theorem cB_lt {l r : Nat} (h : cB q1 q2 L G K l r = true) : l < K := by
  unfold cB at h
  simp only [Bool.and_eq_true] at h
  exact of_decide_eq_true h.1
theorem cB_who {l r : Nat} (h : cB q1 q2 L G K l r = true) : q2 0 l = q1 1 r := by
  unfold cB at h
  simp only [Bool.and_eq_true] at h
  exact of_decide_eq_true h.2.1
/-- the class's parsed replies and letters -/
def PCa (M : Mem) (R K : Nat) (q1 q2 : Nat → Nat → Nat) : Prop := (M 10 6 = nI R ∧ R ≤ 10 ∧ PVc (M 13) R q1) ∧ (M 11 6 = nI K ∧ K ≤ 10 ∧ PVc (M 14) K q2)
theorem PCa.fr {X : Mem} (h : PCa M R K q1 q2) (h1 : X 10 = M 10) (h2 : X 11 = M 11) (h3 : X 13 = M 13) (h4 : X 14 = M 14) : PCa X R K q1 q2 := by
  unfold PCa at *
  rw [h1, h2, h3, h4]
  exact h
theorem e_lettersFor (h : PCa M R K q1 q2) (hL : 1 ≤ L ∧ L ≤ 20) (hG : G ≤ 9) {i : Nat} (hi : i < R) (hF : 10 < F) : sX0_lettersFor F 10 (nI i) 11 (nI L) (nI G) M = some (nI (mk (fun l => cB q1 q2 L G K l i) K)) := by
  obtain ⟨⟨h1, h2, h3⟩, h4, h5, h6⟩ := h
  obtain ⟨⟨a0, a1, a2⟩, b0, b1, b2, -⟩ := h3 i hi
  unfold sX0_lettersFor
  rw [show (2 : Int32) = nI 2 from rfl, e_part F 10 R i 2 M h1 h2 hi (by decide), ob_some, nm_eq, show (10 + 3 : Nat) = 13 from rfl, a2, z_add]
  rw [show (1 : Int32) = nI 1 from rfl, e_part F 10 R i 1 M h1 h2 hi (by decide), ob_some, show (10 + 3 : Nat) = 13 from rfl, a1]
  rw [show (0 : Int32) = nI 0 from rfl, e_with F 11 K 0 _ M h4 h5 (by decide) hF, ob_some]
  rw [e_part F 10 R i 0 M h1 h2 hi (by decide), ob_some, show (10 + 3 : Nat) = 13 from rfl, Nat.add_zero, a0]
  rw [e_with F 11 K 1 _ M h4 h5 (by decide) hF, ob_some]
  rw [z_add, e_byDay F 11 K _ M h4 h5 hF, ob_some, z_sub (by omega), e_byDay F 11 K _ M h4 h5 hF, ob_some]
  rw [z_and, z_and, show -nI 1 = (-1 : Int32) from rfl, z_not]
  congr 2
  apply Nat.eq_of_testBit_eq
  intro l
  simp only [Nat.testBit_xor, Nat.testBit_and, mk_tb]
  by_cases hl : l < K
  · obtain ⟨⟨c0, c1, c2⟩, d0, d1, d2, -⟩ := h6 l hl
    rw [show (11 + 3 : Nat) = 14 from rfl, Nat.add_zero, c0, c1, c2]
    have e0 : decide (nI (q2 0 l) = nI (q1 1 i)) = decide (q2 0 l = q1 1 i) := decide_eq_decide.mpr (nI_eq (by omega) (by omega))
    have e1 : decide (nI (q2 1 l) = nI (q1 0 i)) = decide (q2 1 l = q1 0 i) := decide_eq_decide.mpr (nI_eq (by omega) (by omega))
    have e2 : decide (nI (q2 2 l) ≤ nI (q1 2 i + L + G)) = decide (q2 2 l ≤ q1 2 i + L + G) := decide_eq_decide.mpr (nI_leI (by omega) (by omega))
    have e3 : decide (nI (q2 2 l) ≤ nI (q1 2 i + L - 1)) = decide (q2 2 l ≤ q1 2 i + L - 1) := decide_eq_decide.mpr (nI_leI (by omega) (by omega))
    rw [e0, e1, e2, e3]
    unfold cB
    simp only [hl, decide_true, Bool.true_and]
    by_cases f0 : q2 0 l = q1 1 i
    · by_cases f1 : q2 1 l = q1 0 i
      · by_cases f2 : q2 2 l ≤ q1 2 i + L + G
        · by_cases f3 : q2 2 l ≤ q1 2 i + L - 1
          · have : ¬ q1 2 i + L ≤ q2 2 l := by omega
            simp [f0, f1, f2, f3, this]
          · have : q1 2 i + L ≤ q2 2 l := by omega
            simp [f0, f1, f2, f3, this]
        · simp [f0, f1, f2]
      · simp [f1]
    · simp [f0]
  · simp [hl]
/-- letters of a set of replies -/
def nbM (cb : Nat → Nat → Bool) (R K S : Nat) : Nat := mk (nbB cb R (fun r => S.testBit r)) K
theorem nbM_lt (S : Nat) : nbM cb R K S < 2 ^ K := mk_lt _ _
theorem pc_nbM (hcb : ∀ l r, cb l r = true → l < K) (S : Nat) : pc (nbM cb R K S) = ct (nbB cb R (fun r => S.testBit r)) := ct_cong (fun l _ => by
  unfold nbM
  rw [mk_tb]
  by_cases c : l < K
  · simp [c]
  · have : nbB cb R (fun r => S.testBit r) l = false := by
      cases h : nbB cb R (fun r => S.testBit r) l with
      | false => rfl
      | true =>
        obtain ⟨r, -, -, b⟩ := nb_t.mp h
        exact absurd (hcb l r b) c
    simp [c, this])
theorem nbM_0 : nbM cb R K 0 = 0 := by
  apply Nat.eq_of_testBit_eq
  intro l
  unfold nbM
  rw [mk_tb, Nat.zero_testBit]
  have : nbB cb R (fun r => (0 : Nat).testBit r) l = false := by
    cases h : nbB cb R (fun r => (0 : Nat).testBit r) l with
    | false => rfl
    | true =>
      obtain ⟨r, -, b, -⟩ := nb_t.mp h
      simp at b
  rw [this]
  simp
theorem nbM_add {r m : Nat} (hr : r < 2 ^ m) (hm : m < R) : nbM cb R K (2 ^ m + r) = nbM cb R K r ||| mk (fun l => cb l m) K := by
  apply Nat.eq_of_testBit_eq
  intro l
  unfold nbM
  rw [Nat.testBit_or, mk_tb, mk_tb, mk_tb]
  by_cases hl : l < K
  · simp only [hl, decide_true, Bool.true_and]
    apply Bool.eq_iff_iff.mpr
    rw [Bool.or_eq_true, nb_t, nb_t]
    have tb : ∀ x, (2 ^ m + r).testBit x = if x = m then true else r.testBit x := fun x => by
      by_cases c : x = m
      · subst c
        rw [if_pos rfl, Nat.testBit_two_pow_add_eq, tb_lt hr (Nat.le_refl _)]; rfl
      · rw [if_neg c]
        rcases Nat.lt_or_ge x m with h | h
        · exact Nat.testBit_two_pow_add_gt h r
        · have h1 : (2 ^ m + r).testBit x = false := tb_lt (n := m + 1) (by rw [Nat.pow_succ]; omega) (by omega)
          rw [h1, tb_lt hr (by omega)]
    constructor
    · rintro ⟨x, b1, b2, b3⟩
      rw [tb] at b2
      by_cases c : x = m
      · subst c; exact Or.inr b3
      · rw [if_neg c] at b2
        exact Or.inl ⟨x, b1, b2, b3⟩
    · rintro (⟨x, b1, b2, b3⟩ | b3)
      · refine ⟨x, b1, ?_, b3⟩
        rw [tb]
        by_cases c : x = m
        · rw [if_pos c]
        · rw [if_neg c]; exact b2
      · exact ⟨m, hm, by rw [tb, if_pos rfl], b3⟩
  · simp [hl]
def unM (cb : Nat → Nat → Bool) (K i : Nat) : Nat := mk (fun l => !nbB cb i (fun _ => true) l) K
theorem unM_0 : unM cb K 0 = 2 ^ K - 1 := by
  apply Nat.eq_of_testBit_eq
  intro l
  unfold unM
  rw [mk_tb, tb_all]
  have : nbB cb 0 (fun _ => true) l = false := by
    cases h : nbB cb 0 (fun _ => true) l with
    | false => rfl
    | true =>
      obtain ⟨r, b, -, -⟩ := nb_t.mp h
      omega
  rw [this]
  simp
theorem unM_s (i : Nat) : unM cb K i ^^^ (unM cb K i &&& mk (fun l => cb l i) K) = unM cb K (i + 1) := by
  apply Nat.eq_of_testBit_eq
  intro l
  unfold unM
  simp only [Nat.testBit_xor, Nat.testBit_and, mk_tb]
  by_cases hl : l < K
  · have : nbB cb (i + 1) (fun _ => true) l = (nbB cb i (fun _ => true) l || cb l i) := by
      apply Bool.eq_iff_iff.mpr
      rw [Bool.or_eq_true, nb_t, nb_t]
      constructor
      · rintro ⟨x, b1, b2, b3⟩
        by_cases c : x = i
        · subst c; exact Or.inr b3
        · exact Or.inl ⟨x, by omega, b2, b3⟩
      · rintro (⟨x, b1, b2, b3⟩ | b3)
        · exact ⟨x, by omega, b2, b3⟩
        · exact ⟨i, by omega, rfl, b3⟩
    rw [this]
    simp only [hl, decide_true, Bool.true_and]
    cases nbB cb i (fun _ => true) l <;> cases cb l i <;> rfl
  · simp [hl]
def AccOK (M : Mem) (R K : Nat) (cb : Nat → Nat → Bool) : Prop := (M 23 3 = nI (2 ^ R - 1) ∧ R ≤ 10 ∧ K ≤ 10) ∧ M 23 4 = nI (unM cb K R) ∧ (∀ S, S < 2 ^ R → M 25 S = nI (nbM cb R K S)) ∧ M 23 2 = nI (lk cb R (2 ^ R))
/-- the first loop -/
def caM (cb : Nat → Nat → Bool) (K : Nat) (M : Mem) (i : Nat) : Mem := stC (stC M 24 (fun j => if j < i then nI (mk (fun l => cb l j) K) else M 24 j)) 23 (upd (M 23) 4 (nI (unM cb K i)))
theorem caM_k {i k : Nat} (h1 : k ≠ 23) (h2 : k ≠ 24) : caM cb K M i k = M k := by unfold caM; rw [stC_ne _ _ h1, stC_ne _ _ h2]
theorem caM_23 {i j : Nat} : caM cb K M i 23 j = if j = 4 then nI (unM cb K i) else M 23 j := by
  unfold caM; rw [stC_same]; unfold upd; rfl
theorem caM_24 {i j : Nat} : caM cb K M i 24 j = if j < i then nI (mk (fun l => cb l j) K) else M 24 j := by
  unfold caM; rw [stC_ne _ _ (by decide), stC_same]
theorem caM_s {i : Nat} : st2 (st2 (caM cb K M i) 24 i (nI (mk (fun l => cb l i) K))) 23 4 (nI (unM cb K (i + 1))) = caM cb K M (i + 1) := by
  funext a b
  rw [st2_at]
  by_cases ha : a = 23
  · subst ha
    rw [caM_23, st2_k _ _ _ (by decide), caM_23]
    by_cases hb : b = 4
    · simp [hb]
    · simp [hb]
  · rw [if_neg (fun z => ha z.1), st2_at]
    by_cases ha2 : a = 24
    · subst ha2
      rw [caM_24, caM_24]
      by_cases hb : b = i
      · subst hb; simp
      · by_cases hb2 : b < i
        · simp [hb, hb2, Nat.lt_succ_of_lt hb2]
        · have : ¬ b < i + 1 := by omega
          simp [hb, hb2, this]
    · rw [if_neg (fun z => ha2 z.1), caM_k ha ha2, caM_k ha ha2]
theorem e_acc1 (h : PCa M R K q1 q2) (hL : 1 ≤ L ∧ L ≤ 20) (hG : G ≤ 9) (hF : 1024 < F) (J : Mem → Option Mem) (h4 : M 23 4 = nI (2 ^ K - 1)) : fx2 F (sX0_workOut_L36 F 10 11 (nI L) (nI G) (nI R) J) 0 M = J (caM (cB q1 q2 L G K) K M R) := by
  have e0 : M = caM (cB q1 q2 L G K) K M 0 := by
    funext a b
    by_cases ha : a = 23
    · subst ha
      rw [caM_23]
      by_cases hb : b = 4
      · rw [if_pos hb, unM_0, hb]; exact h4
      · rw [if_neg hb]
    · by_cases ha2 : a = 24
      · subst ha2
        rw [caM_24, if_neg (by omega)]
      · rw [caM_k ha ha2]
  have road := fx2_road (g := sX0_workOut_L36 F 10 11 (nI L) (nI G) (nI R) J) (fun i => nI i) (fun i => caM (cB q1 q2 L G K) K M i) R (J (caM (cB q1 q2 L G K) K M R)) (fun i hi rec => by
    have hR10 := h.1.2.1
    have hi10 : i < 10 := by omega
    unfold sX0_workOut_L36
    rw [if_neg (nI_ge hi (by omega)), e_lettersFor (h.fr (caM_k (by decide) (by decide)) (caM_k (by decide) (by decide)) (caM_k (by decide) (by decide)) (caM_k (by decide) (by decide))) hL hG hi (by omega)]
    simp only [ob_some, nm_eq]
    rw [z_ib hi10 (by decide), z_ib hi10 (by decide), z_ix (by omega), z_addR]
    rw [st2_same, st2_k _ _ _ (show (23 : Nat) ≠ 24 by decide), caM_23, if_pos rfl, z_not, unM_s, caM_s]) (fun rec => by
    unfold sX0_workOut_L36
    rw [if_pos (nI_le (Nat.le_refl _) (by have := h.1.2.1; omega))]) F 0 (Nat.zero_le _) (by have := h.1.2.1; omega)
  rw [← e0] at road
  exact road
/-- the table of letters -/
def thM (cb : Nat → Nat → Bool) (R K : Nat) (M : Mem) (r : Nat) : Mem := stC M 25 (fun j => if j < r then nI (nbM cb R K j) else M 25 j)
theorem thM_k {r k : Nat} (h : k ≠ 25) : thM cb R K M r k = M k := stC_ne _ _ h
theorem thM_25 {r : Nat} (j : Nat) : thM cb R K M r 25 j = if j < r then nI (nbM cb R K j) else M 25 j := by unfold thM; rw [stC_same]
theorem thM_step {r : Nat} : st2 (thM cb R K M r) 25 r (nI (nbM cb R K r)) = thM cb R K M (r + 1) := by
  funext a b
  rw [st2_at]
  unfold thM stC
  by_cases ha : a = 25
  · subst ha
    by_cases hb : b = r
    · subst hb; simp
    · by_cases hb2 : b < r
      · simp [hb, hb2, Nat.lt_succ_of_lt hb2]
      · have : ¬ b < r + 1 := by omega
        simp [hb, hb2, this]
  · simp [ha]
theorem e_theirsIn {m : Nat} {β : Option Mem} (J : Mem → Option Mem) (hm : m < R) (hR : R ≤ 10) (h24 : M 24 m = nI (mk (fun l => cb l m) K)) (hF : 1024 < F) (hJ : J (thM cb R K M (2 ^ (m + 1))) = β) : fx2 F (sX0_fillTheirs_L21 F (nI m) (nI (2 ^ m)) J) (nI (2 ^ m)) (thM cb R K M (2 ^ m)) = β := by
  have h1 : 2 ^ (m + 1) ≤ 1024 := pow_le10 (by omega)
  have h2 : 2 ^ (m + 1) = 2 ^ m + 2 ^ m := by rw [Nat.pow_succ]; omega
  have h3 := pow_pos2 m
  refine fx2_road (fun i => nI (2 ^ m + i)) (fun i => thM cb R K M (2 ^ m + i)) (2 ^ m) _ (fun i hi rec => ?_) (fun rec => ?_) F 0 (Nat.zero_le _) (by omega)
  · unfold sX0_fillTheirs_L21
    rw [z_mulL, if_neg (nI_ge (by omega) (by omega)), show (1024 : Int32) = nI 1024 from rfl, if_neg (nI_ge (by omega) (by omega)), z_sub (by omega), z_ib (by omega) (by decide), z_ib (by omega) (by decide), z_ib (by omega) (by decide), z_ix (by omega), z_ix (by omega), z_ix (by omega), nm_eq, z_addR]
    rw [thM_25, if_pos (by omega), thM_k (by decide), h24, z_or, show 2 ^ m + i - 2 ^ m = i by omega, ← nbM_add hi hm, thM_step]
    rfl
  · unfold sX0_fillTheirs_L21
    rw [z_mulL, if_pos (nI_le (by omega) (by omega)), show 2 ^ m + 2 ^ m = 2 ^ (m + 1) by omega]
    exact hJ
theorem e_fillTheirs (hR : R ≤ 10) (h24 : ∀ m, m < R → M 24 m = nI (mk (fun l => cb l m) K)) (hF : 1024 < F) : sX0_fillTheirs F (nI R) M = some (thM cb R K M (2 ^ R)) := by
  unfold sX0_fillTheirs
  rw [z_ibL (by decide) (by decide), nm_eq, z_ixL (by decide)]
  have e0 : st2 M 25 (OfNat.ofNat 0) 0 = thM cb R K M (2 ^ 0) := by
    funext a b
    rw [st2_at]
    by_cases ha : a = 25
    · subst ha
      rw [thM_25]
      by_cases hb : b = 0
      · subst hb
        rw [if_pos ⟨rfl, rfl⟩, if_pos (by decide), nbM_0]; rfl
      · rw [if_neg (fun z => hb z.2), if_neg (by simp; omega)]
    · rw [if_neg (fun z => ha z.1), thM_k ha]
  rw [e0]
  refine fx2_road (fun i => nI i) (fun i => thM cb R K M (2 ^ i)) R _ (fun i hi rec => ?_) (fun rec => ?_) F 0 (Nat.zero_le _) (by omega)
  · unfold sX0_fillTheirs_L9
    rw [if_neg (nI_ge hi (by omega)), z_shl1 (by omega)]
    simp only [nm_eq]
    exact e_theirsIn _ hi hR (h24 i hi) hF (by rw [z_addR])
  · unfold sX0_fillTheirs_L9
    rw [if_pos (nI_le (Nat.le_refl _) (by omega))]
end Accounts
