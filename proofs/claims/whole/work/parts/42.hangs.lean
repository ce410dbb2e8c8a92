/-! what a matter hangs on: the chain of ties, on both sides -/
section Hangs
variable {F N L O : Nat} {q : Nat → Nat → Nat} {M M' : Mem}
def tn (q : Nat → Nat → Nat) (L N m : Nat) : Nat := if m < N ∧ tied q L N m = true then q 5 m else 10
def ch (q : Nat → Nat → Nat) (L N m : Nat) : Nat → Nat
  | 0 => m
  | k + 1 => tn q L N (ch q L N m k)
def CB (q : Nat → Nat → Nat) (L N m : Nat) : Nat → Nat
  | 0 => 0
  | k + 1 => if ch q L N m (k + 1) < N then CB q L N m k ||| 2 ^ ch q L N m (k + 1) else CB q L N m k
theorem tn_out {m : Nat} (h : N ≤ m) : tn q L N m = 10 := by unfold tn; rw [if_neg (by omega)]
theorem tn_cases {m : Nat} : tn q L N m < N ∨ tn q L N m = 10 := by
  unfold tn
  by_cases c : m < N ∧ tied q L N m = true
  · rw [if_pos c]
    have := of_decide_eq_true c.2
    exact Or.inl this.2.1
  · rw [if_neg c]; exact Or.inr rfl
theorem ch_out {m k : Nat} (h : N ≤ ch q L N m k) : ∀ j, N ≤ 10 → N ≤ ch q L N m (k + j) := by
  intro j h10
  induction j with
  | zero => exact h
  | succ j ih =>
    show N ≤ tn q L N (ch q L N m (k + j))
    rw [tn_out ih]; exact h10
theorem ch_lt_back {m k : Nat} (h10 : N ≤ 10) (h : ch q L N m k < N) {j : Nat} (hj : j ≤ k) : ch q L N m j < N := by
  rcases Nat.lt_or_ge (ch q L N m j) N with c | c
  · exact c
  · have := ch_out c (k - j) h10
    rw [show j + (k - j) = k by omega] at this
    omega
theorem CB_tb {m i : Nat} : ∀ k, (CB q L N m k).testBit i = true ↔ ∃ j, j < k ∧ ch q L N m (j + 1) = i ∧ i < N
  | 0 => by simp [CB]
  | k + 1 => by
    unfold CB
    by_cases c : ch q L N m (k + 1) < N
    · rw [if_pos c, fb_bit_set, Bool.or_eq_true, CB_tb k]
      constructor
      · rintro (⟨j, h1, h2⟩ | h)
        · exact ⟨j, by omega, h2⟩
        · have := of_decide_eq_true h
          exact ⟨k, by omega, this.symm, by omega⟩
      · rintro ⟨j, h1, h2, h3⟩
        by_cases e : j = k
        · subst e; exact Or.inr (decide_eq_true h2.symm)
        · exact Or.inl ⟨j, by omega, h2, h3⟩
    · rw [if_neg c, CB_tb k]
      constructor
      · rintro ⟨j, h1, h2⟩; exact ⟨j, by omega, h2⟩
      · rintro ⟨j, h1, h2, h3⟩
        by_cases e : j = k
        · subst e; omega
        · exact ⟨j, by omega, h2, h3⟩
theorem CB_lt {m k : Nat} : CB q L N m k < 2 ^ N := lt_of_tb (fun i hi => by
  cases h : (CB q L N m k).testBit i with
  | false => rfl
  | true => obtain ⟨j, -, -, h3⟩ := (CB_tb k).mp h; omega)
/-- the chain runs round behind N steps -/
theorem ch_round {m j : Nat} (h10 : N ≤ 10) (h : ch q L N m (j + 1) < N) : ∃ i, i < N ∧ ch q L N m (i + 1) = ch q L N m (j + 1) := by
  induction j using Nat.strongRecOn with
  | _ j ih =>
    rcases Nat.lt_or_ge j N with c | c
    · exact ⟨j, c, rfl⟩
    · obtain ⟨a, b, h1, h2, h3⟩ := fb_twice (m := N) (n := j + 1) (f := fun i => ch q L N m (i + 1)) (fun i hi => ch_lt_back h10 h (by omega)) (by omega)
      have shift : ∀ d, ch q L N m (a + 1 + d) = ch q L N m (b + 1 + d) := by
        intro d
        induction d with
        | zero => exact h3
        | succ d ihd => show tn q L N (ch q L N m (a + 1 + d)) = tn q L N (ch q L N m (b + 1 + d)); rw [ihd]
      have e := shift (j - b)
      rw [show b + 1 + (j - b) = j + 1 by omega, show a + 1 + (j - b) = a + (j - b) + 1 by omega] at e
      obtain ⟨i, h4, h5⟩ := ih (a + (j - b)) (by omega) (by rw [e]; exact h)
      exact ⟨i, h4, h5.trans e⟩
theorem CB_stable {m K : Nat} (h10 : N ≤ 10) (h : N ≤ ch q L N m K) : ∀ j, CB q L N m (K + j) = CB q L N m K
  | 0 => rfl
  | j + 1 => by
    show (if ch q L N m (K + j + 1) < N then _ else CB q L N m (K + j)) = _
    rw [if_neg (by have := ch_out h (j + 1) h10; rw [← Nat.add_assoc] at this; omega)]
    exact CB_stable h10 h j
theorem e_hangingOn (h : RowsOK M N q L O) (hF : 10 < F) {m : Nat} (hm : m < N) (h5 : ∀ i, i < N → q 5 i ≤ 9) : sX3_hangingOn F (nI m) M = some (nI (CB q L N m N)) := by
  obtain ⟨⟨a1, a2, a3, a4⟩, -, -, a5⟩ := h
  unfold sX3_hangingOn
  have hK := fa_first_le (fun k => decide (N ≤ ch q L N m k)) N
  have hno := fa_first_no (fun k => decide (N ≤ ch q L N m k)) N
  have hyes := fa_first_yes (fun k => decide (N ≤ ch q L N m k)) N
  generalize hKe : fa_first (fun k => decide (N ≤ ch q L N m k)) N = K at hK hno hyes
  have e0 : (nI m : Int32) = if ch q L N m 0 < N then nI (ch q L N m 0) else -1 := by rw [if_pos (show ch q L N m 0 < N from hm)]; rfl
  rw [e0]
  refine fx3_road (fun k => nI (CB q L N m k)) (fun k => if ch q L N m k < N then nI (ch q L N m k) else -1) (fun k => nI k) K _ (fun k hk rec => ?_) (fun rec => ?_) F 0 (Nat.zero_le _) (by omega)
  · have hc : ch q L N m k < N := by have := hno k hk; simp at this; exact this
    unfold sX3_hangingOn_L7
    rw [a1, if_neg (nI_ge (by omega) (by omega)), if_pos hc, if_neg (nI_pos (by omega)), if_neg (nI_ge hc (by omega)), z_ib (by omega) (by decide), z_ix (by omega), a5 _ hc]
    simp only [nm_eq, z_addR]
    have hch : ch q L N m (k + 1) = if tied q L N (ch q L N m k) = true then q 5 (ch q L N m k) else 10 := by
      show tn q L N (ch q L N m k) = _
      unfold tn
      by_cases c : tied q L N (ch q L N m k) = true
      · rw [if_pos ⟨hc, c⟩, if_pos c]
      · rw [if_neg (fun z => c z.2), if_neg c]
    by_cases c : tied q L N (ch q L N m k) = true
    · rw [if_pos c] at hch
      have hlt : ch q L N m (k + 1) < N := by rw [hch]; exact (of_decide_eq_true c).2.1
      rw [if_pos c, ← hch, if_neg (nI_pos (by omega)), z_shl1 (by omega), z_or, if_pos hlt]
      congr 1
      show _ = nI (if ch q L N m (k + 1) < N then _ else _)
      rw [if_pos hlt]
    · rw [if_neg c] at hch
      have hge : ¬ ch q L N m (k + 1) < N := by omega
      rw [if_neg c, if_pos (by decide), if_neg hge]
      congr 1
      show _ = nI (if ch q L N m (k + 1) < N then _ else _)
      rw [if_neg hge]
  · unfold sX3_hangingOn_L7
    rw [a1]
    rcases Nat.lt_or_ge K N with c | c
    · have hc : N ≤ ch q L N m K := by have := hyes c; simpa using this
      rw [if_neg (nI_ge c (by omega)), if_neg (show ¬ ch q L N m K < N by omega), if_pos (by decide)]
      have := CB_stable a2 hc (N - K)
      rw [show K + (N - K) = N by omega] at this
      rw [this]
    · have : K = N := by omega
      rw [this, if_pos (nI_le (Nat.le_refl _) (by omega))]
def haB (q : Nat → Nat → Nat) (L N m : Nat) : Nat := if tn q L N m < N then 2 ^ tn q L N m else 0
theorem haB_tb {m i : Nat} : (haB q L N m).testBit i = true ↔ tn q L N m = i ∧ i < N := by
  unfold haB
  by_cases c : tn q L N m < N
  · rw [if_pos c, tb_pow]
    constructor
    · intro h; have := of_decide_eq_true h; omega
    · intro h; exact decide_eq_true h.1
  · rw [if_neg c]; simp; omega
theorem e_hangsAt (h : PM M N q L O) {m : Nat} (hm : m < N) : sX8_hangsAt F (nI m) M = some (nI (haB q L N m)) := by
  have hP := h
  obtain ⟨⟨h1, h2, h3⟩, ⟨h4, h5, h6⟩, h7, h8⟩ := h
  obtain ⟨⟨-, -, -, -, a4, a5⟩, -, -, -, -, b4, b5⟩ := h3 m hm
  unfold sX8_hangsAt
  rw [z_mulL, z_addR, z_ib (by omega) (by decide), nm_eq, z_ix (by omega), a5]
  by_cases c : 2 ≤ q 4 m
  · rw [if_pos c, if_neg (m1_ne (by omega)), h1]
    by_cases cN : q 5 m < N
    · rw [if_neg (nI_ge cN (by omega)), e_isKnown hP cN hm]
      simp only [ob_some]
      by_cases ck : q 2 (q 5 m) ≤ q 2 m + L
      · have ht : tied q L N m = true := decide_eq_true ⟨c, cN, ck⟩
        have e : tn q L N m = q 5 m := by unfold tn; rw [if_pos ⟨hm, ht⟩]
        rw [if_pos (decide_eq_true ck), z_shl1 (by omega)]
        unfold haB
        rw [e, if_pos cN]
      · have ht : ¬ tied q L N m = true := fun z => ck (of_decide_eq_true z).2.2
        have e : tn q L N m = 10 := by unfold tn; rw [if_neg (fun z => ht z.2)]
        rw [if_neg (by simpa using ck)]
        unfold haB
        rw [e, if_neg (by omega)]; rfl
    · have ht : ¬ tied q L N m = true := fun z => cN (of_decide_eq_true z).2.1
      have e : tn q L N m = 10 := by unfold tn; rw [if_neg (fun z => ht z.2)]
      rw [if_pos (nI_le (by omega) (by omega))]
      unfold haB
      rw [e, if_neg (by omega)]; rfl
  · have ht : ¬ tied q L N m = true := fun z => c (of_decide_eq_true z).1
    have e : tn q L N m = 10 := by unfold tn; rw [if_neg (fun z => ht z.2)]
    rw [if_neg c, if_pos rfl]
    unfold haB
    rw [e, if_neg (by omega)]; rfl
def il (q : Nat → Nat → Nat) (L N p : Nat) : Nat → Nat
  | 0 => p
  | i + 1 => if (il q L N p i).testBit i = true then il q L N p i ||| haB q L N i else il q L N p i
def ol (q : Nat → Nat → Nat) (L N m : Nat) : Nat → Nat
  | 0 => haB q L N m
  | t + 1 => il q L N (ol q L N m t) N
theorem il_in {p m : Nat} (hp : ∀ i, p.testBit i = true → i < N ∧ ∃ j, ch q L N m (j + 1) = i) : ∀ k i, (il q L N p k).testBit i = true → i < N ∧ ∃ j, ch q L N m (j + 1) = i
  | 0 => hp
  | k + 1 => by
    intro i h
    unfold il at h
    by_cases c : (il q L N p k).testBit k = true
    · rw [if_pos c, Nat.testBit_or, Bool.or_eq_true] at h
      rcases h with h | h
      · exact il_in hp k i h
      · have h := haB_tb.mp h
        obtain ⟨-, j, hj⟩ := il_in hp k k c
        exact ⟨h.2, j + 1, by show tn q L N (ch q L N m (j + 1)) = i; rw [hj]; exact h.1⟩
    · rw [if_neg c] at h
      exact il_in hp k i h
theorem il_up {p i : Nat} : ∀ k, (il q L N p k).testBit i = true → ∀ d, (il q L N p (k + d)).testBit i = true := by
  intro k h d
  induction d with
  | zero => exact h
  | succ d ih =>
    show (if (il q L N p (k + d)).testBit (k + d) = true then il q L N p (k + d) ||| haB q L N (k + d) else il q L N p (k + d)).testBit i = true
    by_cases c : (il q L N p (k + d)).testBit (k + d) = true
    · rw [if_pos c, Nat.testBit_or, ih]; rfl
    · rw [if_neg c]; exact ih
theorem il_next {p a : Nat} (ha : a < N) (h : p.testBit a = true) (ht : tn q L N a < N) : (il q L N p N).testBit (tn q L N a) = true := by
  have h1 : (il q L N p (0 + a)).testBit a = true := il_up 0 h a
  rw [Nat.zero_add] at h1
  have h2 : (il q L N p (a + 1)).testBit (tn q L N a) = true := by
    show (if _ then _ else _ : Nat).testBit _ = true
    rw [if_pos h1, Nat.testBit_or, haB_tb.mpr ⟨rfl, ht⟩]; simp
  have := il_up (a + 1) h2 (N - (a + 1))
  rw [show a + 1 + (N - (a + 1)) = N by omega] at this
  exact this
theorem ol_in {m : Nat} : ∀ t i, (ol q L N m t).testBit i = true → i < N ∧ ∃ j, ch q L N m (j + 1) = i
  | 0 => fun i h => by
    have := haB_tb.mp h
    exact ⟨this.2, 0, this.1⟩
  | t + 1 => il_in (ol_in t) N
theorem ol_has {m : Nat} (h10 : N ≤ 10) : ∀ t j, j ≤ t → ch q L N m (j + 1) < N → (ol q L N m t).testBit (ch q L N m (j + 1)) = true
  | 0 => fun j hj h => by
    have : j = 0 := by omega
    subst this
    exact haB_tb.mpr ⟨rfl, h⟩
  | t + 1 => fun j hj h => by
    by_cases e : j = t + 1
    · subst e
      have hb : ch q L N m (t + 1) < N := ch_lt_back h10 h (by omega)
      exact il_next hb (ol_has h10 t t (Nat.le_refl _) hb) h
    · have := il_up (q := q) (L := L) (N := N) (p := ol q L N m t) 0 (ol_has h10 t j (by omega) h) N
      rw [Nat.zero_add] at this
      exact this
theorem ol_CB {m : Nat} (h10 : N ≤ 10) : ol q L N m 10 = CB q L N m N := by
  apply Nat.eq_of_testBit_eq
  intro i
  rw [Bool.eq_iff_iff, CB_tb]
  constructor
  · intro h
    obtain ⟨h1, j, h2⟩ := ol_in 10 i h
    obtain ⟨k, h3, h4⟩ := ch_round (j := j) h10 (by rw [h2]; exact h1)
    exact ⟨k, h3, by rw [h4, h2], h1⟩
  · rintro ⟨j, h1, h2, h3⟩
    rw [← h2]
    exact ol_has h10 10 j (by omega) (by omega)
theorem ol_lt {m : Nat} (t : Nat) : ol q L N m t < 2 ^ N := lt_of_tb (fun i hi => by
  cases h : (ol q L N m t).testBit i with
  | false => rfl
  | true => have := (ol_in t i h).1; omega)
theorem il_lt {m : Nat} (t k : Nat) : il q L N (ol q L N m t) k < 2 ^ N := lt_of_tb (fun i hi => by
  cases h : (il q L N (ol q L N m t) k).testBit i with
  | false => rfl
  | true => have := (il_in (ol_in t) k i h).1; omega)
theorem e_hangsOf (h : PM M N q L O) (hF : 10 < F) {m : Nat} (hm : m < N) : sX8_hangsOf F (nI m) M = some (nI (CB q L N m N)) := by
  have h10 : N ≤ 10 := h.1.2.1
  have hp := pow_le10 h10
  unfold sX8_hangsOf
  rw [e_hangsAt h hm]
  simp only [ob_some]
  rw [← ol_CB h10]
  refine fx2_road (fun t => nI (ol q L N m t)) (fun t => nI t) 10 _ (fun t ht rec => ?_) (fun rec => ?_) F 0 (Nat.zero_le _) (by omega)
  · unfold sX8_hangsOf_L8
    rw [show (10 : Int32) = nI 10 from rfl, if_neg (nI_ge ht (by decide))]
    simp only [nm_eq]
    refine fx2_road (fun i => nI (il q L N (ol q L N m t) i)) (fun i => nI i) N _ (fun i hi rec => ?_) (fun rec => ?_) F 0 (Nat.zero_le _) (by omega)
    · unfold sX8_hangsOf_L17
      have hl := il_lt (q := q) (L := L) (N := N) (m := m) t i
      rw [h.1.1, if_neg (nI_ge hi (by omega)), e_isIn F (by omega) (by omega)]
      simp only [ob_some, nm_eq, z_addR]
      cases hb : (il q L N (ol q L N m t) i).testBit i with
      | true =>
        rw [if_pos rfl, e_hangsAt h hi]
        simp only [ob_some, z_or]
        congr 1
        show _ = nI (if _ then _ else _)
        rw [if_pos hb]
      | false =>
        rw [if_neg (by decide), show (0 : Int32) = nI 0 from rfl, z_or, Nat.or_zero]
        congr 1
        show _ = nI (if _ then _ else _)
        rw [if_neg (by rw [hb]; decide)]
    · unfold sX8_hangsOf_L17
      rw [h.1.1, if_pos (nI_le (Nat.le_refl _) (by omega)), z_addR]
      rfl
  · unfold sX8_hangsOf_L8
    rw [if_pos (show (10 : Int32) ≤ nI 10 from by decide)]
def rgS (q : Nat → Nat → Nat) (L N k : Nat) : Nat := mk (fun m => (CB q L N m N).testBit m) k
theorem e_inRings (h : RowsOK M N q L O) (hF : 10 < F) (h5 : ∀ i, i < N → q 5 i ≤ 9) : sX3_inRings F M = some (nI (rgS q L N N)) := by
  have h10 : N ≤ 10 := h.1.2.1
  have hp := pow_le10 h10
  unfold sX3_inRings
  refine fx2_road (fun i => nI (rgS q L N i)) (fun i => nI i) N _ (fun i hi rec => ?_) (fun rec => ?_) F 0 (Nat.zero_le _) (by omega)
  · unfold sX3_inRings_L4
    rw [h.1.1, if_neg (nI_ge hi (by omega)), e_hangingOn h hF hi h5]
    simp only [ob_some, nm_eq]
    rw [z_shl1 (by omega), z_and, z_or, z_addR]
    congr 2
    unfold rgS
    rw [mk]
    cases hb : (CB q L N i N).testBit i with
    | true =>
      rw [if_pos rfl]
      congr 1
      apply Nat.eq_of_testBit_eq
      intro k
      rw [Nat.testBit_and, tb_pow]
      by_cases e : i = k
      · subst e; simp [hb]
      · simp [e]
    | false =>
      rw [if_neg (by decide)]
      have : CB q L N i N &&& 2 ^ i = 0 := (fb_bit_nat _ _).mpr hb
      rw [this, Nat.or_zero]
  · unfold sX3_inRings_L4
    rw [h.1.1, if_pos (nI_le (Nat.le_refl _) (by omega))]
theorem e_ringsNow (hth : sX8_reads F M = some M') (h : PM M' N q L O) (hF : 10 < F) : sX8_ringsNow F M = some (nI (rgS q L N N), M') := by
  have h10 : N ≤ 10 := h.1.2.1
  have hp := pow_le10 h10
  unfold sX8_ringsNow
  rw [hth]
  simp only [ob_some]
  refine fx2_road (fun i => nI (rgS q L N i)) (fun i => nI i) N _ (fun i hi rec => ?_) (fun rec => ?_) F 0 (Nat.zero_le _) (by omega)
  · unfold sX8_ringsNow_L8
    have hl := CB_lt (q := q) (L := L) (N := N) (m := i) (k := N)
    rw [h.1.1, if_neg (nI_ge hi (by omega)), e_hangsOf h hF hi]
    simp only [ob_some, nm_eq]
    rw [e_isIn F (by omega) (by omega)]
    simp only [ob_some, z_addR]
    unfold rgS
    rw [mk]
    cases hb : (CB q L N i N).testBit i with
    | true => rw [if_pos rfl, if_pos rfl, z_shl1 (by omega), z_or]
    | false => rw [if_neg (by decide), if_neg (by decide), show (0 : Int32) = nI 0 from rfl, z_or, Nat.or_zero]
  · unfold sX8_ringsNow_L8
    rw [h.1.1, if_pos (nI_le (Nat.le_refl _) (by omega))]
end Hangs
