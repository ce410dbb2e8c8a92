/-! the class's accounts: what is lacking -/
section Accounts2
variable {F R K L G : Nat} {q1 q2 : Nat → Nat → Nat} {M : Mem} {cb : Nat → Nat → Bool}
def xI (cb : Nat → Nat → Bool) (R S : Nat) : Int32 := nI (pc S) - nI (ct (nbB cb R (fun r => S.testBit r)))
theorem ct_le (p : Nat → Bool) : ct p ≤ 10 := fb_ct_le _ 10
theorem xI_toInt (S : Nat) : (xI cb R S).toInt = exI cb R S := by
  have h1 := pc_le S
  have h2 := ct_le (nbB cb R (fun r => S.testBit r))
  unfold xI
  rw [pk_sub_toInt (by omega) (by omega)]
  rfl
theorem exI_rng (S : Nat) : -10 ≤ exI cb R S ∧ exI cb R S ≤ 10 := by
  have h1 := ct_le (fun r => S.testBit r)
  have h2 := ct_le (nbB cb R (fun r => S.testBit r))
  unfold exI exP
  omega
theorem xI_sub (S T : Nat) : (xI cb R S - xI cb R T).toInt = exI cb R S - exI cb R T := by
  have h1 := exI_rng (cb := cb) (R := R) S
  have h2 := exI_rng (cb := cb) (R := R) T
  rw [fb_subI (by rw [xI_toInt, xI_toInt]; omega) (by rw [xI_toInt, xI_toInt]; omega), xI_toInt, xI_toInt]
theorem e_excess (h3 : M 23 3 = nI (2 ^ R - 1)) (hR : R ≤ 10) (hK : K ≤ 10) (h25 : ∀ S, S < 2 ^ R → M 25 S = nI (nbM cb R K S)) (hcb : ∀ l r, cb l r = true → l < K) {S : Nat} (hS : S < 2 ^ R) : sX0_excess F (nI S) M = some (xI cb R S) := by
  have hp := pow_le10 hR
  have hk := pow_le10 hK
  have hn := nbM_lt (cb := cb) (R := R) (K := K) S
  unfold sX0_excess
  rw [e_bitCount F (by omega)]
  simp only [ob_some]
  rw [h3, z_and, and_all hS, z_ib (by omega) (by decide), z_ix (by omega), h25 S hS, e_bitCount F (by omega)]
  simp only [ob_some]
  rw [pc_nbM hcb]
  rfl
theorem e_lackStep (h3 : M 23 3 = nI (2 ^ R - 1)) (hR : R ≤ 10) (hK : K ≤ 10) (h25 : ∀ S, S < 2 ^ R → M 25 S = nI (nbM cb R K S)) (hcb : ∀ l r, cb l r = true → l < K) {S : Nat} (h0 : 0 < S) (hS : S < 2 ^ R) (rec : Int32 → Mem → Option Mem) : sX0_workOut_L98 F rec (nI S) (st2 M 23 2 (nI (lk cb R S))) = rec (nI (S + 1)) (st2 M 23 2 (nI (lk cb R (S + 1)))) := by
  have hp := pow_le10 hR
  have hl := lk_lt (cb := cb) (R := R) S h0
  have m3 : st2 M 23 2 (nI (lk cb R S)) 23 3 = nI (2 ^ R - 1) := by rw [st2_i _ _ _ (by decide)]; exact h3
  have m25 : ∀ T, T < 2 ^ R → st2 M 23 2 (nI (lk cb R S)) 25 T = nI (nbM cb R K T) := fun T hT => by rw [st2_k _ _ _ (by decide)]; exact h25 T hT
  have m2 : st2 M 23 2 (nI (lk cb R S)) 23 2 = nI (lk cb R S) := st2_same _ _ _ _
  have hst : ∀ v, st2 (st2 M 23 2 (nI (lk cb R S))) 23 2 v = st2 M 23 2 v := fun v => by
    funext a b
    rw [st2_at, st2_at, st2_at]
    by_cases c : a = 23 ∧ b = 2
    · rw [if_pos c, if_pos c]
    · rw [if_neg c, if_neg c, if_neg c]
  unfold sX0_workOut_L98
  rw [m3, m2, if_neg (by rw [z_lt (by omega) (by omega)]; omega), e_excess m3 hR hK m25 hcb hS, ob_some, e_excess m3 hR hK m25 hcb (by omega), ob_some]
  simp only [nm_eq]
  rw [e_bitCount F (by omega), ob_some, e_bitCount F (by omega), ob_some, z_addR, hst, lk_s]
  have hd := xI_sub (cb := cb) (R := R) S (lk cb R S)
  have c1 : (0 < xI cb R S - xI cb R (lk cb R S)) ↔ exI cb R (lk cb R S) < exI cb R S := by
    rw [Int32.lt_iff_toInt_lt, hd, show (0 : Int32).toInt = 0 from rfl]
    omega
  have c2 : (xI cb R S - xI cb R (lk cb R S) = 0) ↔ exI cb R S = exI cb R (lk cb R S) := by
    rw [← Int32.toInt_inj, hd, show (0 : Int32).toInt = 0 from rfl]
    omega
  have p1 := pc_le S
  have p2 := pc_le (lk cb R S)
  unfold lkF
  by_cases d1 : exI cb R (lk cb R S) < exI cb R S
  · rw [if_pos (c1.mpr d1), if_pos (Or.inl d1)]
  · rw [if_neg (fun z => d1 (c1.mp z))]
    by_cases d2 : exI cb R S = exI cb R (lk cb R S)
    · rw [if_neg (not_not_intro (c2.mpr d2))]
      by_cases d3 : pc S < pc (lk cb R S)
      · rw [if_neg (by rw [z_le (by omega) (by omega)]; omega), if_pos (Or.inr ⟨d2, d3⟩)]
      · rw [if_pos (by rw [z_le (by omega) (by omega)]; omega), if_neg (by omega)]
    · rw [if_pos (fun z => d2 (c2.mp z)), if_neg (by omega)]
/-- cells that the working out of accounts writes -/
def accK (k : Nat) : Bool := k == 23 || k == 24 || k == 25
theorem e_accWork (h : PCa M R K q1 q2) (hL : 1 ≤ L ∧ L ≤ 20) (hG : G ≤ 9) (hF : 1024 < F) : ∃ M', sX0_workOut F 10 11 (nI L) (nI G) M = some M' ∧ AccOK M' R K (cB q1 q2 L G K) ∧ ∀ k, accK k = false → M' k = M k := by
  have hR : R ≤ 10 := h.1.2.1
  have hK : K ≤ 10 := h.2.2.1
  have hp := pow_le10 hR
  have hpos := pow_pos2 R
  have hcb : ∀ l r, cB q1 q2 L G K l r = true → l < K := fun l r z => cB_lt z
  unfold sX0_workOut sX1_howMany
  rw [h.1.1]
  simp only [ob_some, nm_eq]
  have emin : imin (nI R) 10 = nI R := by
    unfold imin
    rw [if_neg (by rw [show (10 : Int32) = nI 10 from rfl, z_lt (by decide) (by omega)]; omega)]
  rw [emin, z_shl1 (by omega), z_subR (by omega), st2_k _ _ _ (show (11 : Nat) ≠ 23 by decide), h.2.1, z_shl1 (by omega), z_subR (by have := pow_pos2 K; omega)]
  generalize hM5 : st2 (st2 M 23 3 (nI (2 ^ R - 1))) 23 4 (nI (2 ^ K - 1)) = M5
  have k5 : ∀ k, k ≠ 23 → M5 k = M k := fun k hk => by rw [← hM5, st2_k _ _ _ hk, st2_k _ _ _ hk]
  have m3 : M5 23 3 = nI (2 ^ R - 1) := by rw [← hM5]; simp [st2_at]
  have m4 : M5 23 4 = nI (2 ^ K - 1) := by rw [← hM5]; simp [st2_at]
  rw [e_acc1 (h.fr (k5 10 (by decide)) (k5 11 (by decide)) (k5 13 (by decide)) (k5 14 (by decide))) hL hG hF _ m4]
  have hfill := e_fillTheirs (M := caM (cB q1 q2 L G K) K M5 R) (cb := cB q1 q2 L G K) (K := K) hR (fun m hm => by rw [caM_24, if_pos hm]) hF
  rw [hfill]
  simp only [ob_some]
  generalize hX : thM (cB q1 q2 L G K) R K (caM (cB q1 q2 L G K) K M5 R) (2 ^ R) = X
  have x3 : X 23 3 = nI (2 ^ R - 1) := by rw [← hX, thM_k (by decide), caM_23, if_neg (by decide)]; exact m3
  have x4 : X 23 4 = nI (unM (cB q1 q2 L G K) K R) := by rw [← hX, thM_k (by decide), caM_23, if_pos rfl]
  have x25 : ∀ S, S < 2 ^ R → X 25 S = nI (nbM (cB q1 q2 L G K) R K S) := fun S hS => by rw [← hX, thM_25, if_pos hS]
  have xk : ∀ k, accK k = false → X k = M k := fun k hk => by
    unfold accK at hk
    simp only [Bool.or_eq_false_iff, beq_eq_false_iff_ne] at hk
    obtain ⟨⟨a, b⟩, c⟩ := hk
    rw [← hX, thM_k c, caM_k a b, k5 k a]
  have road := fx2_road (g := sX0_workOut_L98 F) (fun i => nI (i + 1)) (fun i => st2 X 23 2 (nI (lk (cB q1 q2 L G K) R (i + 1)))) (2 ^ R - 1) (some (st2 X 23 2 (nI (lk (cB q1 q2 L G K) R (2 ^ R))))) (fun i hi rec => e_lackStep x3 hR hK x25 hcb (by omega) (by omega) rec) (fun rec => by
    unfold sX0_workOut_L98
    rw [st2_i _ _ _ (by decide), x3, if_pos (by rw [z_lt (by omega) (by omega)]; omega), show 2 ^ R - 1 + 1 = 2 ^ R by omega]) F 0 (Nat.zero_le _) (by omega)
  rw [show lk (cB q1 q2 L G K) R (0 + 1) = 0 from lk_1] at road
  refine ⟨_, road, ⟨⟨?_, hR, hK⟩, ?_, fun S hS => ?_, st2_same _ _ _ _⟩, fun k hk => ?_⟩
  · rw [st2_i _ _ _ (by decide)]; exact x3
  · rw [st2_i _ _ _ (by decide)]; exact x4
  · rw [st2_k _ _ _ (by decide)]; exact x25 S hS
  · have hk' := hk
    unfold accK at hk'
    simp only [Bool.or_eq_false_iff, beq_eq_false_iff_ne] at hk'
    rw [st2_k _ _ _ hk'.1.1]
    exact xk k hk
theorem e_owedAmong (h : AccOK M R K cb) (hcb : ∀ l r, cb l r = true → l < K) {a : Nat} : sX0_owedAmong F (nI a) M = some (xI cb R (lk cb R (2 ^ R) &&& a)) := by
  obtain ⟨⟨h1, h2, h3⟩, h4, h5, h6⟩ := h
  have hl := lk_lt (cb := cb) (R := R) (2 ^ R) (pow_pos2 R)
  unfold sX0_owedAmong
  rw [h6, z_and, e_excess h1 h2 h3 h5 hcb (Nat.lt_of_le_of_lt Nat.and_le_left hl)]
  rfl
end Accounts2
