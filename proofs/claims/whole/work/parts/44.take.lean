/-! the class's reader, one byte more -/
section Take
variable {F k : Nat} {M : Mem}
theorem figI {c m : Nat} (hc : c < 256) (hm : m ≤ 9) : sX1_figure F (nI c) (nI m) M = some (if fg c m = true then nI (c - 48) else -1) := by
  unfold sX1_figure
  simp only [nm_eq]
  rw [show (48 : Int32) = nI 48 from rfl]
  by_cases h : 48 ≤ c
  · rw [z_sub h, if_neg (nI_pos (by omega))]
    by_cases h2 : c ≤ 48 + m
    · rw [if_pos (by rw [z_le (by omega) (by omega)]; omega), if_pos (show fg c m = true from decide_eq_true ⟨h, h2⟩)]
    · rw [if_neg (by rw [z_le (by omega) (by omega)]; omega), if_neg (by unfold fg; simp; omega)]
  · rw [if_pos (by rw [z_subneg (by omega) (by omega)]; omega), if_neg (by unfold fg; simp; omega)]
theorem i2c_b : ∀ c, c < 256 → i2c (nI c) = nI c := by decide +kernel
theorem byS : ∀ c, c < 256 → (nI c).toInt8.toInt32 = if c < 128 then nI c else -nI (256 - c) := by decide +kernel
theorem byN : ∀ c, c < 256 → ¬ c < 128 → -nI (256 - c) < 0 := by decide +kernel
theorem byI : ∀ c, c < 256 → ∀ x, x < 128 → ((nI x = (nI c).toInt8.toInt32) ↔ c = x) := by
  intro c hc x hx
  rw [byS c hc]
  by_cases h : c < 128
  · rw [if_pos h, nI_eq (by omega) (by omega)]; omega
  · rw [if_neg h]
    constructor
    · intro z
      have := byN c hc h
      rw [← z] at this
      exact absurd this (nI_pos (by omega))
    · intro z; omega
theorem chrI (hF : 10 < F) {c : Nat} (hc : c < 256) (k1 n : Nat) (xs : Nat → Nat) (hn : n ≤ 5) (hl : rbL k1 = n) (hx : ∀ i, i < n → roB k1 i = nI (xs i) ∧ xs i < 128) : sJ1_indexOfChar_4cfef F k1 (nI c) 0 (nI n) M = some (if fa_first (fun i => decide (c = xs i)) n < n then nI (fa_first (fun i => decide (c = xs i)) n) else -1) := by
  have h1 := fa_first_le (fun i => decide (c = xs i)) n
  have h2 := fa_first_no (fun i => decide (c = xs i)) n
  have h3 := fa_first_yes (fun i => decide (c = xs i)) n
  generalize fa_first (fun i => decide (c = xs i)) n = K at h1 h2 h3 ⊢
  unfold sJ1_indexOfChar_4cfef
  simp only [nm_eq]
  refine fx1_road (fun i => nI i) K _ (fun i hi rec => ?_) (fun rec => ?_) F 0 (Nat.zero_le _) (by omega)
  · unfold sJ1_indexOfChar_4cfef_L7
    rw [if_neg (nI_ge (by omega) (by omega)), hl, z_ib (by omega) (by omega), z_ix (by omega), (hx i (by omega)).1, if_pos (fun z => by
      have := (byI c hc _ (hx i (by omega)).2).mp z
      have h4 := h2 i hi
      simp at h4
      exact h4 this), z_addR]
  · unfold sJ1_indexOfChar_4cfef_L7
    rcases Nat.lt_or_ge K n with c1 | c1
    · rw [if_neg (nI_ge c1 (by omega)), hl, z_ib (by omega) (by omega), z_ix (by omega), (hx K c1).1, if_neg (not_not_intro ((byI c hc _ (hx K c1).2).mpr (of_decide_eq_true (h3 c1)))), if_pos c1]
    · have : K = n := by omega
      rw [this, if_pos (nI_le (Nat.le_refl _) (by omega)), if_neg (by omega)]
theorem idxI (hF : 10 < F) {c : Nat} (hc : c < 256) (k n : Nat) (xs : Nat → Nat) (hn : 0 < n ∧ n ≤ 5) (hl : rbL (k + 2) = n) (hx : ∀ i, i < n → roB (k + 2) i = nI (xs i) ∧ xs i < 128) : sJ0_indexOf_0f7a4 F k (i2c (nI c)) M = some (if fa_first (fun i => decide (c = xs i)) n < n then nI (fa_first (fun i => decide (c = xs i)) n) else -1) := by
  have hsh : ∀ m, m ≤ 5 → (Int32.ofNat m) >>> ((0 : Int32) &&& 31) = nI m := by decide
  unfold sJ0_indexOf_0f7a4 sJ0_indexOf_7cf53 sJ0_isLatin1_aae02 sJ0_length_8abf5 sJ0_coder_7d493
  rw [i2c_b c hc, hl]
  rw [if_neg (show ¬ (1 : Int32) = 0 by decide), if_neg (show ¬ ¬ (0 : Int32) = 0 by decide)]
  simp only [ob_some, if_true]
  rw [if_neg (show ¬ (1 : Int32) = 0 by decide)]
  simp only [ob_some]
  rw [hsh n hn.2]
  unfold sJ1_indexOf_4cfef sJ1_canEncode_9a6ad
  rw [if_neg (nI_pos (by omega)), if_neg (by rw [show (255 : Int32) = nI 255 from rfl, z_lt (by omega) (by omega)]; omega)]
  simp only [ob_some, if_true, nm_eq]
  have e1 : imax 0 0 = 0 := by decide
  have e2 : imin (nI n) (Int32.ofNat (rbL (k + 2))) = nI n := by
    rw [hl]; show imin (nI n) (nI n) = nI n; unfold imin; split <;> rfl
  rw [e1, e2, if_pos (by rw [show (0 : Int32) = nI 0 from rfl, z_lt (by omega) (by omega)]; omega), chrI hF hc _ n xs hn.2 hl hx]
  rfl
theorem nyI (hF : 10 < F) {c : Nat} (hc : c < 256) : sJ0_indexOf_0f7a4 F 64 (i2c (nI c)) M = some (if c = 110 then 0 else if c = 121 then 1 else -1) := by
  rw [idxI hF hc 64 2 (fun i => if i = 0 then 110 else 121) (by decide) rfl (by decide)]
  congr 1
  have : ∀ c, c < 256 → (if fa_first (fun i => decide (c = if i = 0 then 110 else 121)) 2 < 2 then nI (fa_first (fun i => decide (c = if i = 0 then 110 else 121)) 2) else -1) = if c = 110 then 0 else if c = 121 then 1 else -1 := by decide +kernel
  exact this c hc
theorem whI (hF : 10 < F) {c : Nat} (hc : c < 256) : sJ0_indexOf_0f7a4 F 65 (i2c (nI c)) M = some (if c = 97 ∨ c = 101 ∨ c = 121 ∨ c = 110 ∨ c = 115 then nI (wI c) else -1) := by
  rw [idxI hF hc 65 5 (fun i => if i = 0 then 97 else if i = 1 then 101 else if i = 2 then 121 else if i = 3 then 110 else 115) (by decide) rfl (by decide)]
  congr 1
  have : ∀ c, c < 256 → (if fa_first (fun i => decide (c = if i = 0 then 97 else if i = 1 then 101 else if i = 2 then 121 else if i = 3 then 110 else 115)) 5 < 5 then nI (fa_first (fun i => decide (c = if i = 0 then 97 else if i = 1 then 101 else if i = 2 then 121 else if i = 3 then 110 else 115)) 5) else -1) = if c = 97 ∨ c = 101 ∨ c = 121 ∨ c = 110 ∨ c = 115 then nI (wI c) else -1 := by decide +kernel
  exact this c hc
/-- the value of a byte under a form, as the class has it -/
def vlI (w : Nat) (who : Int32) (c : Nat) : Int32 := match w with
  | 0 => if fg c 5 = true then nI (c - 48) else -1
  | 1 => if nI c - 48 = who then -1 else if fg c 5 = true then nI (c - 48) else -1
  | 2 => if fg c 9 = true then nI (c - 48) else -1
  | 3 => if c = 110 then 0 else if c = 121 then 1 else -1
  | 4 => if c = 97 ∨ c = 101 ∨ c = 121 ∨ c = 110 ∨ c = 115 then nI (wI c) else -1
  | _ => if fg c 9 = true then nI (c - 48) else -1
theorem valI (hF : 10 < F) {c w : Nat} (hc : c < 256) (hw : w < 6) : sX1_valueOf F k (nI w) (nI c) M = some (vlI w (M k 5) c) := by
  unfold sX1_valueOf
  rcases (show w = 0 ∨ w = 1 ∨ w = 2 ∨ w = 3 ∨ w = 4 ∨ w = 5 by omega) with h | h | h | h | h | h
  · subst h
    rw [if_pos (by decide), show (5 : Int32) = nI 5 from rfl, figI hc (by decide)]; rfl
  · subst h
    rw [if_neg (by decide), if_pos (by decide), show (5 : Int32) = nI 5 from rfl, figI hc (by decide)]
    simp only [ob_some]
    unfold vlI
    by_cases e : nI c - 48 = M k 5
    · rw [if_neg (not_not_intro e), if_pos e]; rfl
    · rw [if_pos e, if_neg e]; rfl
  · subst h
    rw [if_neg (by decide), if_neg (by decide), if_pos (by decide), show (9 : Int32) = nI 9 from rfl, figI hc (by decide)]; rfl
  · subst h
    rw [if_neg (by decide), if_neg (by decide), if_neg (by decide), if_pos (by decide), nyI hF hc]; rfl
  · subst h
    rw [if_neg (by decide), if_neg (by decide), if_neg (by decide), if_neg (by decide), if_pos (by decide), whI hF hc]; rfl
  · subst h
    rw [if_neg (by decide), if_neg (by decide), if_neg (by decide), if_neg (by decide), if_neg (by decide), show (9 : Int32) = nI 9 from rfl, figI hc (by decide)]; rfl
theorem roL_fm (k : Nat) : roL (fm k) = 7 ∨ roL (fm k) = 4 := by unfold roL; split <;> simp
/-- what is kept of a value -/
theorem keepI {e w j : Nat} (h3 : M k 3 = nI e) (he : e < 10) (hw : w < 6) (h4 : M k 4 = nI j) (hj : j ≤ roL (fm k)) (v : Int32) : sX1_keep F k (nI w) v M = some (st2 (st2 M (k + 3) (6 * e + w) (if w = 2 ∧ 0 < j ∧ roI (fm k) (j - 1) = 2 then 10 * M (k + 3) (6 * e + w) + v else v)) k 5 (if w = 0 then v else M k 5)) := by
  have hr := roL_fm k
  unfold sX1_keep
  rw [h3, h4, z_mulR, z_add, show e * 6 + w = 6 * e + w by omega]
  simp only [nm_eq]
  rw [if_neg (nI_pos (by omega)), if_pos (by rw [show (60 : Int32) = nI 60 from rfl, z_lt (by omega) (by omega)]; omega)]
  have k5 : ∀ u : Int32, st2 M (k + 3) (6 * e + w) u k 5 = M k 5 := fun u => by rw [st2_k _ _ _ (by omega)]
  have fin : ∀ u : Int32, ib (nI (6 * e + w)) 60 (if ¬ nI w = 0 then some (st2 (st2 M (k + 3) (ix (nI (6 * e + w))) u) k 5 (st2 M (k + 3) (ix (nI (6 * e + w))) u k 5)) else some (st2 (st2 M (k + 3) (ix (nI (6 * e + w))) u) k 5 v)) = some (st2 (st2 M (k + 3) (6 * e + w) u) k 5 (if w = 0 then v else M k 5)) := by
    intro u
    rw [z_ib (by omega) (by decide), z_ix (by omega), k5]
    by_cases e0 : w = 0
    · subst e0; rw [if_neg (by decide), if_pos rfl]
    · rw [if_pos (show ¬ nI w = 0 from fun z => e0 ((nI_eq (b := 0) (by omega) (by decide)).mp z)), if_neg e0]
  by_cases c2 : w = 2
  · subst c2
    rw [if_neg (show ¬ ¬ nI 2 = 2 by decide)]
    by_cases cj : j = 0
    · subst cj
      rw [if_pos (show nI 0 ≤ 0 by decide), if_pos trivial, if_neg (show ¬ (2 = 2 ∧ 0 < 0 ∧ roI (fm k) (0 - 1) = 2) by omega)]
      exact fin v
    · rw [if_neg (by rw [show (0 : Int32) = nI 0 from rfl, z_le (by omega) (by omega)]; omega), if_neg (show ¬ Int32.ofNat (roL (fm k)) < nI j by show ¬ nI (roL (fm k)) < nI j; rw [z_lt (by omega) (by omega)]; omega), z_subR (show (1 : Nat) ≤ j by omega), z_ib (by omega) (by omega), z_ix (by omega)]
      by_cases cf : roI (fm k) (j - 1) = 2
      · rw [if_neg (not_not_intro cf), if_pos (⟨rfl, by omega, cf⟩ : 2 = 2 ∧ 0 < j ∧ roI (fm k) (j - 1) = 2), if_neg (show ¬ (1 : Int32) = 0 by decide), z_ib (by omega) (by decide), fin, z_ix (by omega)]
      · rw [if_pos cf, if_neg (show ¬ (2 = 2 ∧ 0 < j ∧ roI (fm k) (j - 1) = 2) from fun z => cf z.2.2), if_pos trivial]
        exact fin v
  · rw [if_pos (show ¬ nI w = 2 from fun z => c2 ((nI_eq (b := 2) (by omega) (by decide)).mp z)), if_neg (show ¬ (w = 2 ∧ 0 < j ∧ roI (fm k) (j - 1) = 2) from fun z => c2 z.1), if_pos trivial]
    exact fin v
end Take
