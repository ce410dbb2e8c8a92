/-! bits -/
theorem z_and (a b : Nat) : nI a &&& nI b = nI (a &&& b) := fa_and a b
theorem z_or (a b : Nat) : nI a ||| nI b = nI (a ||| b) := fa_or a b
theorem z_xor (a b : Nat) : nI a ^^^ nI b = nI (a ^^^ b) := fb_xorI a b
theorem z_andR (a b : Nat) : nI a &&& (no_index (OfNat.ofNat b) : Int32) = nI (a &&& (OfNat.ofNat b : Nat)) := fa_and a b
theorem z_shl1 {m : Nat} (h : m < 31) : (1 : Int32) <<< (nI m &&& 31) = nI (2 ^ m) := by
  have : ∀ j, j < 31 → (1 : Int32) <<< (nI j &&& 31) = nI (2 ^ j) := by decide +kernel
  exact this m h
theorem z_shr {a k : Nat} (ha : a < 2147483648) (hk : k < 31) : nI a >>> (nI k &&& 31) = nI (a / 2 ^ k) := by
  have e : ∀ j, j < 31 → ((nI j &&& 31).toBitVec.smod 32).toNat = j := by decide +kernel
  exact pk_shrN ha _ k (e k hk)
theorem z_bit {a k : Nat} (ha : a < 2147483648) (hk : k < 31) : (nI a >>> (nI k &&& 31)) &&& 1 = nI (if a.testBit k then 1 else 0) := by
  rw [z_shr ha hk, show (1 : Int32) = nI 1 from rfl, z_and]
  congr 1
  rw [Nat.testBit_eq_decide_div_mod_eq]
  have h1 : a / 2 ^ k &&& 1 = a / 2 ^ k % 2 := Nat.and_one_is_mod _
  rw [h1]
  rcases Nat.mod_two_eq_zero_or_one (a / 2 ^ k) with h | h <;> simp [h]
theorem z_not (a b : Nat) : nI a &&& (nI b ^^^ (-1)) = nI (a ^^^ (a &&& b)) := by
  apply Int32.toBitVec_inj.mp
  show (nI a).toBitVec &&& ((nI b).toBitVec ^^^ (-1 : Int32).toBitVec) = (nI (a ^^^ (a &&& b))).toBitVec
  have e1 : ∀ n, (nI n).toBitVec = BitVec.ofNat 32 n := fun n => rfl
  have e2 : (-1 : Int32).toBitVec = BitVec.allOnes 32 := by decide
  rw [e1, e1, e1, e2]
  apply BitVec.eq_of_getLsbD_eq
  intro i hi
  simp only [BitVec.getLsbD_and, BitVec.getLsbD_xor, BitVec.getLsbD_ofNat, BitVec.getLsbD_allOnes, Nat.testBit_xor, Nat.testBit_and, hi, decide_true, Bool.true_and]
  cases a.testBit i <;> cases b.testBit i <;> rfl
theorem z_bz {a m : Nat} (hm : m < 31) (ha : a < 2147483648) : (nI a &&& nI (2 ^ m) = 0) = (a.testBit m = false) := propext (fa_bit hm)
/-- less than 2 ^ n: no bit from n on -/
theorem tb_lt {a n : Nat} (h : a < 2 ^ n) {i : Nat} (hi : n ≤ i) : a.testBit i = false := Nat.testBit_lt_two_pow (Nat.lt_of_lt_of_le h (Nat.pow_le_pow_right (by decide) hi))
theorem tb_all {n i : Nat} : (2 ^ n - 1).testBit i = decide (i < n) := Nat.testBit_two_pow_sub_one n i
theorem tb_pow {m i : Nat} : (2 ^ m).testBit i = decide (m = i) := Nat.testBit_two_pow
theorem lt_of_tb {a n : Nat} (h : ∀ i, n ≤ i → a.testBit i = false) : a < 2 ^ n := Nat.lt_pow_two_of_testBit a (fun i hi => h i hi)
theorem and_lt {a b n : Nat} (h : b < 2 ^ n) : a &&& b < 2 ^ n := Nat.and_lt_two_pow a h
theorem or_lt {a b n : Nat} (ha : a < 2 ^ n) (hb : b < 2 ^ n) : a ||| b < 2 ^ n := Nat.or_lt_two_pow ha hb
theorem xor_lt {a b n : Nat} (ha : a < 2 ^ n) (hb : b < 2 ^ n) : a ^^^ b < 2 ^ n := Nat.xor_lt_two_pow ha hb
theorem pow_le10 {n : Nat} (h : n ≤ 10) : 2 ^ n ≤ 1024 := by
  have : 2 ^ n ≤ 2 ^ 10 := Nat.pow_le_pow_right (by decide) h
  simpa using this
theorem pow_pos2 (n : Nat) : 0 < 2 ^ n := Nat.pow_pos (by decide)
/-- the set of those below n for which p holds, as bits -/
def mk (p : Nat → Bool) : Nat → Nat
  | 0 => 0
  | n + 1 => if p n then mk p n ||| 2 ^ n else mk p n
theorem mk_tb (p : Nat → Bool) : ∀ n i, (mk p n).testBit i = (decide (i < n) && p i)
  | 0, i => by simp [mk]
  | n + 1, i => by
    have ih := mk_tb p n i
    unfold mk
    by_cases h : p n = true
    · rw [if_pos h, Nat.testBit_or, ih, tb_pow]
      by_cases hi : n = i
      · subst hi; simp [h]
      · have e : decide (i < n + 1) = decide (i < n) := by
          by_cases q : i < n
          · simp [q]; omega
          · simp [q]; omega
        simp [hi, e]
    · rw [if_neg h, ih]
      by_cases hi : n = i
      · subst hi; simp [h]
      · have e : decide (i < n + 1) = decide (i < n) := by
          by_cases q : i < n
          · simp [q]; omega
          · simp [q]; omega
        rw [e]
theorem mk_lt (p : Nat → Bool) (n : Nat) : mk p n < 2 ^ n := lt_of_tb (fun i hi => by rw [mk_tb]; simp; omega)
theorem mk_cong {p q : Nat → Bool} {n : Nat} (h : ∀ i, i < n → p i = q i) : mk p n = mk q n := Nat.eq_of_testBit_eq (fun i => by
  rw [mk_tb, mk_tb]
  by_cases hi : i < n
  · rw [h i hi]
  · simp [hi])
theorem eq_mk {a n : Nat} (h : a < 2 ^ n) : a = mk (fun i => a.testBit i) n := Nat.eq_of_testBit_eq (fun i => by
  rw [mk_tb]
  by_cases hi : i < n
  · simp [hi]
  · rw [tb_lt h (by omega)]; simp [hi])
/-- how many bits of the first ten -/
def pc (a : Nat) : Nat := fb_ct (fun i => a.testBit i) 10
def bcF (a1 : Int32) : Int32 :=
  let v1 := a1 - ((ush a1 1) &&& 1431655765)
  let v2 := (v1 &&& 858993459) + ((ush v1 2) &&& 858993459)
  let v3 := (v2 + (ush v2 4)) &&& 252645135
  let v4 := v3 + (ush v3 8)
  let v5 := v4 + (ush v4 16)
  v5 &&& 63
theorem bcF_tab : ∀ a, a < 1024 → bcF (nI a) = nI (pc a) := by decide +kernel
theorem e_bitCount (F : Nat) {a : Nat} (h : a < 1024) (M : Mem) : sJ6_bitCount_0f7a4 F (nI a) M = some (nI (pc a)) := by
  rw [← bcF_tab a h]; rfl
theorem pc_le (a : Nat) : pc a ≤ 10 := fb_ct_le _ 10
