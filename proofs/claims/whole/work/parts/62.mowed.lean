/-! the model's owed: letters laid, set by set -/
section MOwed
variable {F R K L G : Nat} {q1 q2 : Nat → Nat → Nat} {M M' : Mem} {cb : Nat → Nat → Bool} {e : Nat → Bool}
def enc (b : Bool) (T : Nat) : Int32 := if b = true then nI (pc T) else -1
/-- the memory with the table of sets that can be laid -/
def lsM (g : Nat → Bool) (M : Mem) : Mem := stC M 46 (fun T => if T < 1024 then enc (g T) T else M 46 T)
theorem lsM_k {g : Nat → Bool} {k : Nat} (h : k ≠ 46) : lsM g M k = M k := stC_ne _ _ h
theorem lsM_46 {g : Nat → Bool} {T : Nat} (h : T < 1024) : lsM g M 46 T = enc (g T) T := by unfold lsM; rw [stC_same, if_pos h]
theorem lsM_cong {g g' : Nat → Bool} (h : ∀ T, T < 1024 → g T = g' T) : lsM g M = lsM g' M := by
  unfold lsM
  congr 1
  funext T
  by_cases c : T < 1024
  · rw [if_pos c, if_pos c, h T c]
  · rw [if_neg c, if_neg c]
theorem lsM_set {g g' : Nat → Bool} {y : Nat} (hy : y < 1024) (h1 : g' y = true) (h2 : ∀ T, T < 1024 → T ≠ y → g' T = g T) : st2 (lsM g M) 46 y (nI (pc y)) = lsM g' M := by
  funext a b
  rw [st2_at]
  by_cases ha : a = 46
  · subst ha
    by_cases hb : b = y
    · subst hb
      rw [if_pos ⟨rfl, rfl⟩, lsM_46 hy, h1]; rfl
    · rw [if_neg (fun z => hb z.2)]
      by_cases c : b < 1024
      · rw [lsM_46 c, lsM_46 c, h2 b c hb]
      · unfold lsM; rw [stC_same, stC_same, if_neg c, if_neg c]
  · rw [if_neg (fun z => ha z.1), lsM_k ha, lsM_k ha]
theorem PO.ls {g : Nat → Bool} (h : PO M R K q1 q2 L G) : PO (lsM g M) R K q1 q2 L G := h.fr (lsM_k (by decide)) (lsM_k (by decide)) (lsM_k (by decide))
/-- the start of the table -/
theorem e_owed0 (hF : 1025 < F) {β : Option (Int32 × Mem)} (J : Mem → Option (Int32 × Mem)) (hJ : J (lsM (fun T => decide (T = 0)) M) = β) : fx2 F (sX8_owedOf_L6 F J) 0 M = β := by
  have e0 : M = stC M 46 (fun T => if T < 0 then enc (decide (T = 0)) T else M 46 T) := by
    funext a b
    by_cases ha : a = 46
    · subst ha; rw [stC_same, if_neg (by omega)]
    · rw [stC_ne _ _ ha]
  have road := fx2_road (g := sX8_owedOf_L6 F J) (fun i => nI i) (fun i => stC M 46 (fun T => if T < i then enc (decide (T = 0)) T else M 46 T)) 1024 β (fun i hi rec => by
    unfold sX8_owedOf_L6
    rw [show (1024 : Int32) = nI 1024 from rfl, if_neg (nI_ge hi (by omega))]
    simp only [nm_eq]
    rw [z_ib hi (by decide), z_ib hi (by decide), z_ix (by omega), z_addR]
    have key : ∀ v, v = enc (decide (i = 0)) i → st2 (stC M 46 (fun T => if T < i then enc (decide (T = 0)) T else M 46 T)) 46 i v = stC M 46 (fun T => if T < i + 1 then enc (decide (T = 0)) T else M 46 T) := by
      intro v hv
      funext a b
      rw [st2_at]
      by_cases ha : a = 46
      · subst ha
        rw [stC_same, stC_same]
        by_cases hb : b = i
        · subst hb; rw [if_pos ⟨rfl, rfl⟩, if_pos (by omega)]; exact hv
        · rw [if_neg (fun z => hb z.2)]
          by_cases c : b < i
          · rw [if_pos c, if_pos (by omega)]
          · rw [if_neg c, if_neg (by omega)]
      · rw [if_neg (fun z => ha z.1), stC_ne _ _ ha, stC_ne _ _ ha]
    by_cases c : i = 0
    · subst c
      rw [if_neg (show ¬ ¬ nI 0 = 0 from not_not_intro rfl), key 0 (by decide)]
    · rw [if_pos (show ¬ nI i = 0 from fun z => c ((nI_eq (b := 0) (by omega) (by decide)).mp z)), key (-1) (by unfold enc; rw [if_neg (by simp [c])])]) (fun rec => by
    unfold sX8_owedOf_L6
    rw [if_pos (by decide)]
    exact hJ) F 0 (Nat.zero_le _) (by omega)
  rw [← e0] at road
  exact road
/-- the table while one reply is laid: sets from s on done, of the one before s the letters below j -/
def gdP (cb : Nat → Nat → Bool) (g : Nat → Bool) (i s j T l : Nat) : Bool := (T.testBit l && (cb l i && g (T ^^^ 2 ^ l))) && (decide (s ≤ T ^^^ 2 ^ l) || (decide ((T ^^^ 2 ^ l) + 1 = s) && decide (l < j)))
def gd (cb : Nat → Nat → Bool) (g : Nat → Bool) (i s j T : Nat) : Bool := g T || hasB (gdP cb g i s j T) 10
theorem gdP_t {g : Nat → Bool} {i s j T l : Nat} : gdP cb g i s j T l = true ↔ (T.testBit l = true ∧ cb l i = true ∧ g (T ^^^ 2 ^ l) = true) ∧ (s ≤ T ^^^ 2 ^ l ∨ ((T ^^^ 2 ^ l) + 1 = s ∧ l < j)) := by
  unfold gdP
  simp only [Bool.and_eq_true, Bool.or_eq_true, decide_eq_true_eq]
theorem gd_t {g : Nat → Bool} {i s j T : Nat} : gd cb g i s j T = true ↔ g T = true ∨ ∃ l, l < 10 ∧ (T.testBit l = true ∧ cb l i = true ∧ g (T ^^^ 2 ^ l) = true) ∧ (s ≤ T ^^^ 2 ^ l ∨ ((T ^^^ 2 ^ l) + 1 = s ∧ l < j)) := by
  unfold gd
  rw [Bool.or_eq_true, has_t]
  simp only [gdP_t]
theorem bq {a b : Bool} (h : a = true ↔ b = true) : a = b := Bool.eq_iff_iff.mpr h
theorem flip_flip (T l : Nat) : T ^^^ 2 ^ l ^^^ 2 ^ l = T := by rw [Nat.xor_assoc, Nat.xor_self, Nat.xor_zero]
theorem or_flip {x l : Nat} (h : x.testBit l = false) : x ||| 2 ^ l = x ^^^ 2 ^ l := by
  apply Nat.eq_of_testBit_eq
  intro i
  rw [fb_bit_set, fb_bit_flip]
  by_cases c : i = l
  · subst c; simp [h]
  · simp [c]
theorem flip_lt {T l : Nat} (h : T.testBit l = true) : T ^^^ 2 ^ l < T := by
  have hb : (T ^^^ 2 ^ l).testBit l = false := by rw [fb_bit_flip, h]; simp
  have h1 := q_or_add _ _ hb
  rw [or_flip hb, flip_flip] at h1
  have := pow_pos2 l
  omega
/-- the set at work isn't changed -/
theorem gd_self {g : Nat → Bool} {i x j : Nat} : gd cb g i (x + 1) j x = g x := bq (by
  rw [gd_t]
  constructor
  · rintro (h | ⟨l, hl, ⟨h1, h2, h3⟩, h4⟩)
    · exact h
    · have := flip_lt h1
      omega
  · exact Or.inl)
theorem gd_start {g : Nat → Bool} {i T : Nat} (hT : T < 1024) : gd cb g i 1024 0 T = g T := bq (by
  rw [gd_t]
  constructor
  · rintro (h | ⟨l, hl, ⟨h1, h2, h3⟩, h4⟩)
    · exact h
    · have := flip_lt h1
      omega
  · exact Or.inl)
theorem gd_next {g : Nat → Bool} {i x T : Nat} (hcb : ∀ l r, cb l r = true → l < K) : gd cb g i (x + 1) K T = gd cb g i x 0 T := bq (by
  rw [gd_t, gd_t]
  constructor
  · rintro (h | ⟨l, hl, ⟨h1, h2, h3⟩, h4⟩)
    · exact Or.inl h
    · exact Or.inr ⟨l, hl, ⟨h1, h2, h3⟩, by omega⟩
  · rintro (h | ⟨l, hl, ⟨h1, h2, h3⟩, h4⟩)
    · exact Or.inl h
    · have := hcb l i h2
      exact Or.inr ⟨l, hl, ⟨h1, h2, h3⟩, by omega⟩)
/-- a set that can't be laid adds nothing -/
theorem gd_none {g : Nat → Bool} {i x T : Nat} (hx : g x = false) : gd cb g i (x + 1) 0 T = gd cb g i x 0 T := bq (by
  rw [gd_t, gd_t]
  constructor
  · rintro (h | ⟨l, hl, ⟨h1, h2, h3⟩, h4⟩)
    · exact Or.inl h
    · exact Or.inr ⟨l, hl, ⟨h1, h2, h3⟩, by omega⟩
  · rintro (h | ⟨l, hl, ⟨h1, h2, h3⟩, h4⟩)
    · exact Or.inl h
    · by_cases c : T ^^^ 2 ^ l = x
      · rw [c, hx] at h3; exact absurd h3 (by decide)
      · exact Or.inr ⟨l, hl, ⟨h1, h2, h3⟩, by omega⟩)
theorem gd_end {g : Nat → Bool} {i T : Nat} (he : e i = true) : gd cb g i 0 0 T = rcS e cb g i T := bq (by
  rw [gd_t, rcS_t]
  constructor
  · rintro (h | ⟨l, hl, ⟨h1, h2, h3⟩, h4⟩)
    · exact Or.inl h
    · exact Or.inr ⟨he, l, hl, h1, h2, h3⟩
  · rintro (h | ⟨-, l, hl, h1, h2, h3⟩)
    · exact Or.inl h
    · exact Or.inr ⟨l, hl, ⟨h1, h2, h3⟩, Or.inl (Nat.zero_le _)⟩)
/-- the next letter: what it adds -/
theorem gd_letter {g : Nat → Bool} {i x l T : Nat} (hl : l < 10) : gd cb g i (x + 1) (l + 1) T = true ↔ gd cb g i (x + 1) l T = true ∨ (T.testBit l = true ∧ cb l i = true ∧ g x = true ∧ T ^^^ 2 ^ l = x) := by
  rw [gd_t, gd_t]
  constructor
  · rintro (h | ⟨m, hm, ⟨h1, h2, h3⟩, h4⟩)
    · exact Or.inl (Or.inl h)
    · by_cases c : m = l ∧ T ^^^ 2 ^ m = x
      · obtain ⟨c1, c2⟩ := c
        subst c1
        rw [c2] at h3
        exact Or.inr ⟨h1, h2, h3, c2⟩
      · refine Or.inl (Or.inr ⟨m, hm, ⟨h1, h2, h3⟩, ?_⟩)
        rcases h4 with h4 | ⟨h4, h5⟩
        · exact Or.inl h4
        · refine Or.inr ⟨h4, ?_⟩
          have : ¬ m = l := fun z => c ⟨z, by omega⟩
          omega
  · rintro ((h | ⟨m, hm, ⟨h1, h2, h3⟩, h4⟩) | ⟨h1, h2, h3, h4⟩)
    · exact Or.inl h
    · exact Or.inr ⟨m, hm, ⟨h1, h2, h3⟩, by omega⟩
    · exact Or.inr ⟨l, hl, ⟨h1, h2, by rw [h4]; exact h3⟩, Or.inr ⟨by omega, by omega⟩⟩
theorem e_letter (h : PO M R K q1 q2 L G) {i x l : Nat} (hi : i < R) (hx : x < 1024) (hl : l < K) {g : Nat → Bool} (hg : g x = true) (J : Mem → Option (Int32 × Mem)) (rec : Int32 → Mem → Option (Int32 × Mem)) : sX8_owedOf_L86 F (nI i) (nI x) J rec (nI l) (lsM (gd (cB q1 q2 L G K) g i (x + 1) l) M) = rec (nI (l + 1)) (lsM (gd (cB q1 q2 L G K) g i (x + 1) (l + 1)) M) := by
  have hK : K ≤ 10 := h.2.1.2.1
  have hp := pc_le x
  unfold sX8_owedOf_L86
  rw [z_ibL (by decide) (by decide), z_ixL (by decide), lsM_k (show (41 : Nat) ≠ 46 by decide), h.2.1.1, if_neg (nI_ge hl (by omega)), z_ib hx (by decide), z_ix (by omega), lsM_46 hx, gd_self, hg]
  rw [show enc true x = nI (pc x) from rfl, if_neg (m1_ne (by omega)), e_isIn F (by omega) (by omega), e_canBe h.ls hl hi, z_shl1 (by omega), z_or]
  simp only [ob_some, nm_eq, z_addR]
  rw [z_ib hx (by decide), z_ib hx (by decide)]
  -- nothing new
  have hno : (x.testBit l = true ∨ cB q1 q2 L G K l i = false) → lsM (gd (cB q1 q2 L G K) g i (x + 1) l) M = lsM (gd (cB q1 q2 L G K) g i (x + 1) (l + 1)) M := fun hc => lsM_cong (fun T _ => bq (by
    rw [gd_letter (by omega)]
    constructor
    · exact Or.inl
    · rintro (z | ⟨z1, z2, z3, z4⟩)
      · exact z
      · rcases hc with hc | hc
        · rw [← z4, fb_bit_flip, z1] at hc
          simp at hc
        · rw [hc] at z2; exact absurd z2 (by decide)))
  cases hb : x.testBit l with
  | true => rw [if_pos rfl, hno (Or.inl hb)]
  | false =>
    rw [if_neg (by decide)]
    cases hc : cB q1 q2 L G K l i with
    | false => rw [if_neg (by decide), hno (Or.inr hc)]
    | true =>
      have hy : x ||| 2 ^ l < 1024 := or_lt (n := 10) hx (Nat.pow_lt_pow_right (by decide) (by omega))
      have hyp : pc (x ||| 2 ^ l) = pc x + 1 := by
        rw [or_flip hb]
        exact flip_add hb (by omega)
      rw [if_pos rfl, z_ib hy (by decide), z_ib hy (by decide), z_ix (by omega), lsM_46 hy]
      have hyes : gd (cB q1 q2 L G K) g i (x + 1) (l + 1) (x ||| 2 ^ l) = true := by
        rw [gd_letter (by omega)]
        refine Or.inr ⟨by rw [fb_bit_set]; simp, hc, hg, ?_⟩
        rw [or_flip hb, flip_flip]
      have hoth : ∀ T, T < 1024 → T ≠ x ||| 2 ^ l → gd (cB q1 q2 L G K) g i (x + 1) (l + 1) T = gd (cB q1 q2 L G K) g i (x + 1) l T := fun T _ hT => bq (by
        rw [gd_letter (by omega)]
        constructor
        · rintro (z | ⟨z1, z2, z3, z4⟩)
          · exact z
          · refine absurd ?_ hT
            rw [or_flip hb, ← z4, flip_flip]
        · exact Or.inl)
      cases hd : gd (cB q1 q2 L G K) g i (x + 1) l (x ||| 2 ^ l) with
      | true =>
        rw [show enc true (x ||| 2 ^ l) = nI (pc (x ||| 2 ^ l)) from rfl, hyp, if_pos (nI_le (Nat.le_refl _) (by omega))]
        congr 1
        refine lsM_cong (fun T hT => ?_)
        by_cases c : T = x ||| 2 ^ l
        · rw [c, hd, hyes]
        · exact (hoth T hT c).symm
      | false =>
        have hlt : ¬ nI (pc x + 1) ≤ enc false (x ||| 2 ^ l) := by
          rw [show enc false (x ||| 2 ^ l) = -1 from rfl, Int32.le_iff_toInt_le, nI_toInt (by omega)]
          have : ((-1 : Int32)).toInt = -1 := by decide
          omega
        rw [if_neg hlt, ← hyp, lsM_set hy hyes hoth]
theorem e_laidIn (h : PO M R K q1 q2 L G) (hF : 1025 < F) {i x : Nat} (hi : i < R) (hx : x < 1024) (g : Nat → Bool) (J : Mem → Option (Int32 × Mem)) : fx2 F (sX8_owedOf_L86 F (nI i) (nI x) J) 0 (lsM (gd (cB q1 q2 L G K) g i (x + 1) 0) M) = J (lsM (gd (cB q1 q2 L G K) g i x 0) M) := by
  have hK : K ≤ 10 := h.2.1.2.1
  have hcb : ∀ l r, cB q1 q2 L G K l r = true → l < K := fun l r z => cB_lt z
  cases hg : g x with
  | true =>
    refine fx2_road (fun l => nI l) (fun l => lsM (gd (cB q1 q2 L G K) g i (x + 1) l) M) K _ (fun l hl rec => e_letter h hi hx hl hg J rec) (fun rec => ?_) F 0 (Nat.zero_le _) (by omega)
    unfold sX8_owedOf_L86
    rw [z_ibL (by decide) (by decide), z_ixL (by decide), lsM_k (show (41 : Nat) ≠ 46 by decide), h.2.1.1, if_pos (nI_le (Nat.le_refl _) (by omega))]
    rw [lsM_cong (fun T _ => gd_next hcb)]
  | false =>
    obtain ⟨F', rfl⟩ : ∃ F', F = F' + 1 := ⟨F - 1, by omega⟩
    show sX8_owedOf_L86 (F' + 1) (nI i) (nI x) J (fx2 F' (sX8_owedOf_L86 (F' + 1) (nI i) (nI x) J)) 0 _ = _
    unfold sX8_owedOf_L86
    have hend : J (lsM (gd (cB q1 q2 L G K) g i (x + 1) 0) M) = J (lsM (gd (cB q1 q2 L G K) g i x 0) M) := by rw [lsM_cong (fun T _ => gd_none hg)]
    rw [z_ibL (by decide) (by decide), z_ixL (by decide), lsM_k (show (41 : Nat) ≠ 46 by decide), h.2.1.1, z_ib hx (by decide), z_ix (by omega), lsM_46 hx, gd_self, hg, if_pos (show enc false x = -1 from rfl), hend]
    by_cases c : nI K ≤ 0
    · rw [if_pos c]
    · rw [if_neg c]
def pd (j : Nat) : Int32 := if j < 1024 then nI (1023 - j) else -1
theorem dn1 : ∀ s, s < 1024 → nI (s + 1) + (-1) = nI s := by decide +kernel
theorem pd_s {j : Nat} (hj : j < 1024) : nI (1023 - j) + (-1) = pd (j + 1) := by
  unfold pd
  by_cases c : j + 1 < 1024
  · rw [if_pos c, show 1023 - j = (1023 - (j + 1)) + 1 by omega, dn1 _ (by omega)]
  · have : j = 1023 := by omega
    subst this
    decide
theorem e_laidAll (h : PO M R K q1 q2 L G) (hF : 1025 < F) {i : Nat} (hi : i < R) (he : e i = true) (v : Int32) (J : Int32 → Mem → Option (Int32 × Mem)) : fx2 F (sX8_owedOf_L78 F v (nI i) J) 1023 (lsM (rc e (cB q1 q2 L G K) i) M) = J (v + 1) (lsM (rc e (cB q1 q2 L G K) (i + 1)) M) := by
  have road := fx2_road (g := sX8_owedOf_L78 F v (nI i) J) pd (fun j => lsM (gd (cB q1 q2 L G K) (rc e (cB q1 q2 L G K) i) i (1024 - j) 0) M) 1024 (J (v + 1) (lsM (rc e (cB q1 q2 L G K) (i + 1)) M)) (fun j hj rec => by
    have epd : pd j = nI (1023 - j) := by unfold pd; rw [if_pos hj]
    unfold sX8_owedOf_L78
    rw [epd, if_neg (nI_pos (by omega))]
    simp only [nm_eq]
    rw [show 1024 - j = (1023 - j) + 1 by omega, e_laidIn h hF hi (by omega), pd_s hj, show 1023 - j = 1024 - (j + 1) by omega]) (fun rec => by
    unfold sX8_owedOf_L78
    rw [if_pos (show pd 1024 < 0 by decide), show 1024 - 1024 = 0 from rfl, lsM_cong (fun T _ => gd_end (e := e) he)]
    rfl) F 0 (Nat.zero_le _) (by omega)
  rw [show pd 0 = 1023 from rfl, show 1024 - 0 = 1024 from rfl, lsM_cong (fun T hT => gd_start hT)] at road
  exact road
/-- the greatest number of letters laid -/
def mxS (g : Nat → Bool) : Nat → Nat
  | 0 => 0
  | j + 1 => if g j = true ∧ mxS g j < pc j then pc j else mxS g j
theorem mxS_le (g : Nat → Bool) : ∀ j, mxS g j ≤ 10
  | 0 => Nat.zero_le _
  | j + 1 => by
    have := mxS_le g j
    have h := pc_le j
    unfold mxS
    split <;> omega
theorem mxS_is (g : Nat → Bool) {m : Nat} (h : ∀ T, g T = true → pc T ≤ m) : ∀ j, mxS g j ≤ m ∧ ∀ T, T < j → g T = true → pc T ≤ mxS g j
  | 0 => ⟨Nat.zero_le _, fun T hT => by omega⟩
  | j + 1 => by
    obtain ⟨a, b⟩ := mxS_is g h j
    unfold mxS
    by_cases c : g j = true ∧ mxS g j < pc j
    · rw [if_pos c]
      refine ⟨h j c.1, fun T hT hg => ?_⟩
      by_cases d : T = j
      · rw [d]; exact Nat.le_refl _
      · have := b T (by omega) hg
        omega
    · rw [if_neg c]
      refine ⟨a, fun T hT hg => ?_⟩
      by_cases d : T = j
      · subst d
        have : ¬ mxS g T < pc T := fun z => c ⟨hg, z⟩
        omega
      · exact b T (by omega) hg
theorem e_owedMax (hF : 1025 < F) (g : Nat → Bool) (J : Int32 → Option (Int32 × Mem)) : fx2 F (sX8_owedOf_L196 F (lsM g M) J) 0 0 = J (nI (mxS g 1024)) := by
  refine fx2_road (fun j => nI (mxS g j)) (fun j => nI j) 1024 _ (fun j hj rec => ?_) (fun rec => ?_) F 0 (Nat.zero_le _) (by omega)
  · have hm := mxS_le g j
    have hp := pc_le j
    unfold sX8_owedOf_L196
    rw [show (1024 : Int32) = nI 1024 from rfl, if_neg (nI_ge hj (by omega)), z_ib hj (by decide), z_ix (by omega), lsM_46 hj]
    simp only [nm_eq]
    rw [z_ib hj (by decide), z_addR, mxS]
    cases hg : g j with
    | true =>
      rw [show enc true j = nI (pc j) from rfl]
      by_cases c : mxS g j < pc j
      · rw [if_neg (nI_ge c (by omega)), if_pos ⟨rfl, c⟩]
      · rw [if_pos (nI_le (by omega) (by omega)), if_neg (fun z => c z.2)]
    | false =>
      have : enc false j ≤ nI (mxS g j) := by
        rw [show enc false j = -1 from rfl, Int32.le_iff_toInt_le, nI_toInt (by omega)]
        have : ((-1 : Int32)).toInt = -1 := by decide
        omega
      rw [if_pos this, if_neg (fun z => absurd z.1 (by decide))]
  · unfold sX8_owedOf_L196
    rw [if_pos (by decide)]
theorem ct_Eb (hR : R ≤ 10) : fb_ct e R = ct (Eb e R) := by
  have h1 := fb_ct_split (Eb e R) R (10 - R)
  rw [show R + (10 - R) = 10 by omega] at h1
  have h2 : fb_ct (fun k => Eb e R (R + k)) (10 - R) = 0 := fb_ct_zero.mpr (fun k _ => by unfold Eb; simp; intro hh; omega)
  have h3 : fb_ct (Eb e R) R = fb_ct e R := fb_ct_cong (fun k hk => by unfold Eb; simp [hk])
  unfold ct
  rw [h1, h2, h3, Nat.add_zero]
/-- whom it is about: all (-1), or a person -/
def eP (q1 : Nat → Nat → Nat) (a : Option Nat) (r : Nat) : Bool := match a with
  | none => true
  | some p => decide (q1 1 r = p)
theorem e_owedOf (hrd : sX8_reads F M = some M') (h : PO M' R K q1 q2 L G) (hF : 1025 < F) (a : Option Nat) (ha : ∀ p, a = some p → p < 1000) : ∃ g, sX8_owedOf F (oI a) M = some (xI (cB q1 q2 L G K) R (lk (cB q1 q2 L G K) R (2 ^ R) &&& mk (eP q1 a) R), stC M' 46 g) := by
  have hR : R ≤ 10 := h.1.2.1
  obtain ⟨T, t1, t2, t3⟩ := owed_ex (cb := cB q1 q2 L G K) (e := eP q1 a) hR (fun l r r' _ _ c1 c2 => by
    have d1 := cB_who c1
    have d2 := cB_who c2
    unfold eP
    cases a with
    | none => rfl
    | some p => show decide (q1 1 r = p) = decide (q1 1 r' = p); rw [← d1, ← d2])
  have hm : mxS (rc (eP q1 a) (cB q1 q2 L G K) R) 1024 = pc T := by
    obtain ⟨m1, m2⟩ := mxS_is (rc (eP q1 a) (cB q1 q2 L G K) R) (m := pc T) t2 1024
    have := m2 T (rc_lt R T t1) t1
    omega
  have hv : nI (ct (Eb (eP q1 a) R)) - nI (pc T) = xI (cB q1 q2 L G K) R (lk (cB q1 q2 L G K) R (2 ^ R) &&& mk (eP q1 a) R) := by
    apply Int32.toInt_inj.mp
    have p1 := pc_le T
    have p2 := ct_le (Eb (eP q1 a) R)
    rw [xI_toInt, t3, pk_sub_toInt (by omega) (by omega)]
  refine ⟨fun T => if T < 1024 then enc (rc (eP q1 a) (cB q1 q2 L G K) R T) T else M' 46 T, ?_⟩
  unfold sX8_owedOf
  rw [hrd]
  simp only [ob_some, nm_eq]
  refine e_owed0 hF _ ?_
  refine fx3_road (fun r => nI (fb_ct (eP q1 a) r)) (fun r => nI r) (fun r => lsM (rc (eP q1 a) (cB q1 q2 L G K) r) M') R _ (fun r hr rec => ?_) (fun rec => ?_) F 0 (Nat.zero_le _) (by omega)
  · obtain ⟨⟨-, -, a2⟩, -, b1, -, -⟩ := h.1.2.2 r hr
    unfold sX8_owedOf_L38
    rw [z_ibL (by decide) (by decide), z_ixL (by decide), lsM_k (show (41 : Nat) ≠ 46 by decide), lsM_k (show (42 : Nat) ≠ 46 by decide), h.1.1, if_neg (nI_ge hr (by omega))]
    simp only [nm_eq, z_mulL, z_addR]
    rw [z_ib (by omega) (by decide), z_ix (by omega), a2]
    have hin : eP q1 a r = true → fx2 F (sX8_owedOf_L78 F (nI (fb_ct (eP q1 a) r)) (nI r) (fun p18 M19 => rec p18 (nI (r + 1)) M19)) 1023 (lsM (rc (eP q1 a) (cB q1 q2 L G K) r) M') = rec (nI (fb_ct (eP q1 a) (r + 1))) (nI (r + 1)) (lsM (rc (eP q1 a) (cB q1 q2 L G K) (r + 1)) M') := fun he => by
      rw [e_laidAll h hF hr he, fb_ct_succ, he, z_addR]
      rfl
    cases a with
    | none =>
      rw [if_pos (show oI none = -1 from rfl)]
      exact hin rfl
    | some p =>
      have hp := ha p rfl
      rw [if_neg (show ¬ oI (some p) = -1 from m1_ne (by omega))]
      by_cases c : q1 1 r = p
      · rw [if_pos (show nI (q1 1 r) = oI (some p) by rw [c]; rfl)]
        exact hin (decide_eq_true c)
      · have he : eP q1 (some p) r = false := decide_eq_false c
        rw [if_neg (show ¬ nI (q1 1 r) = oI (some p) from fun z => c ((nI_eq (by omega) (by omega)).mp z)), fb_ct_succ, he]
        have : rc (eP q1 (some p)) (cB q1 q2 L G K) (r + 1) = rc (eP q1 (some p)) (cB q1 q2 L G K) r := by
          funext T
          exact bq (by rw [rc_s, he]; simp)
        rw [this]
        rfl
  · unfold sX8_owedOf_L38
    rw [z_ibL (by decide) (by decide), z_ixL (by decide), lsM_k (show (41 : Nat) ≠ 46 by decide), h.1.1, if_pos (nI_le (Nat.le_refl _) (by omega))]
    refine Eq.trans (e_owedMax hF _ _) ?_
    show some (nI (fb_ct (eP q1 a) R) - nI (mxS (rc (eP q1 a) (cB q1 q2 L G K) R) 1024), _) = _
    rw [hm, ct_Eb hR, hv]
    rfl
end MOwed
