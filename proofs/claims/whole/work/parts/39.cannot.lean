/-- a bit that isn't there, added -/
theorem q_or_add (a m : Nat) (h : a.testBit m = false) : a ||| 2 ^ m = a + 2 ^ m := by
  have e := Nat.div_add_mod a (2 ^ (m + 1))
  have hm : a % 2 ^ (m + 1) < 2 ^ m := by
    have hlt : a % 2 ^ (m + 1) < 2 ^ (m + 1) := Nat.mod_lt _ (pow_pos2 _)
    refine lt_of_tb (fun i hi => ?_)
    rw [Nat.testBit_mod_two_pow]
    by_cases e : i = m
    · subst e; simp [h]
    · have : ¬ i < m + 1 := by omega
      simp [this]
  have h2 : (2 ^ (m + 1) * (a / 2 ^ (m + 1)) + a % 2 ^ (m + 1)) ||| 2 ^ m = 2 ^ (m + 1) * (a / 2 ^ (m + 1)) + (2 ^ m + a % 2 ^ (m + 1)) := by
    apply Nat.eq_of_testBit_eq
    intro k
    have b1 : a % 2 ^ (m + 1) < 2 ^ (m + 1) := Nat.mod_lt _ (pow_pos2 _)
    have b2 : 2 ^ m + a % 2 ^ (m + 1) < 2 ^ (m + 1) := by
      generalize a % 2 ^ (m + 1) = z at hm ⊢
      have h5 : 2 ^ (m + 1) = 2 ^ m * 2 := Nat.pow_succ 2 m
      omega
    rw [Nat.testBit_or, Nat.testBit_two_pow_mul_add _ b1, Nat.testBit_two_pow_mul_add _ b2, tb_pow]
    by_cases hk : k < m + 1
    · rw [if_pos hk, if_pos hk]
      by_cases e : m = k
      · subst e; rw [Nat.testBit_two_pow_add_eq, tb_lt hm (Nat.le_refl _)]; simp
      · rw [Nat.testBit_two_pow_add_gt (by omega)]; simp [e]
    · rw [if_neg hk, if_neg hk]
      have : ¬ m = k := by omega
      simp [this]
  rw [e] at h2
  rw [h2]
  omega
/-! cannot: the fewest that meet every row's broken ones -/
section Cannot
variable {F N L O : Nat} {q : Nat → Nat → Nat} {M M' : Mem}
def clB (q : Nat → Nat → Nat) (L N O s : Nat) : Bool := decide (∀ r, r < 2 ^ N → ¬ Bk q L N r O &&& s = 0)
def cnF (q : Nat → Nat → Nat) (L N O : Nat) (a : Option Nat) (s : Nat) : Option Nat := match a with
  | none => if clB q L N O s = true then some s else none
  | some b => if clB q L N O s = true ∧ pc s < pc b then some s else some b
def cnS (q : Nat → Nat → Nat) (L N O : Nat) : Nat → Option Nat
  | 0 => none
  | s + 1 => cnF q L N O (cnS q L N O s) s
theorem cnS_lt : ∀ s b, cnS q L N O s = some b → b < s
  | 0, b, h => by cases h
  | s + 1, b, h => by
    unfold cnS cnF at h
    cases e : cnS q L N O s with
    | none =>
      rw [e] at h
      simp only at h
      split at h
      · cases h; omega
      · cases h
    | some c =>
      have := cnS_lt s c e
      rw [e] at h
      simp only at h
      split at h
      · cases h; omega
      · cases h; omega
def Dk (q : Nat → Nat → Nat) (L N O : Nat) : Nat → Nat → Bool
  | 0, X => decide (∃ r, r < 2 ^ N ∧ Bk q L N r O = X)
  | m + 1, X => Dk q L N O m X || (X.testBit m && Dk q L N O m (X ^^^ 2 ^ m))
theorem Dk_iff : ∀ m X, Dk q L N O m X = true ↔ ∃ r, r < 2 ^ N ∧ (∀ i, (Bk q L N r O).testBit i = true → X.testBit i = true) ∧ ∀ i, m ≤ i → (Bk q L N r O).testBit i = X.testBit i
  | 0, X => by
    unfold Dk
    rw [decide_eq_true_eq]
    constructor
    · rintro ⟨r, h1, h2⟩
      exact ⟨r, h1, fun i h => by rw [← h2]; exact h, fun i _ => by rw [h2]⟩
    · rintro ⟨r, h1, h2, h3⟩
      exact ⟨r, h1, Nat.eq_of_testBit_eq (fun i => h3 i (Nat.zero_le i))⟩
  | m + 1, X => by
    unfold Dk
    rw [Bool.or_eq_true, Bool.and_eq_true, Dk_iff m X, Dk_iff m (X ^^^ 2 ^ m)]
    have hx : ∀ i, i ≠ m → (X ^^^ 2 ^ m).testBit i = X.testBit i := fun i hi => by
      rw [Nat.testBit_xor, tb_pow]
      have : decide (m = i) = false := by simp; omega
      rw [this]; simp
    have hxm : (X ^^^ 2 ^ m).testBit m = !X.testBit m := by rw [Nat.testBit_xor, tb_pow]; simp
    constructor
    · rintro (⟨r, h1, h2, h3⟩ | ⟨hm, r, h1, h2, h3⟩)
      · exact ⟨r, h1, h2, fun i hi => h3 i (by omega)⟩
      · refine ⟨r, h1, fun i hi => ?_, fun i hi => ?_⟩
        · by_cases e : i = m
          · subst e; exact hm
          · rw [← hx i e]; exact h2 i hi
        · rw [h3 i (by omega), hx i (by omega)]
    · rintro ⟨r, h1, h2, h3⟩
      by_cases e : (Bk q L N r O).testBit m = X.testBit m
      · refine Or.inl ⟨r, h1, h2, fun i hi => ?_⟩
        by_cases ei : i = m
        · subst ei; exact e
        · exact h3 i (by omega)
      · have hB : (Bk q L N r O).testBit m = false := by
          cases hb : (Bk q L N r O).testBit m with
          | false => rfl
          | true => exact absurd (hb.trans (h2 m hb).symm) e
        have hX : X.testBit m = true := by
          cases hb : X.testBit m with
          | true => rfl
          | false => exact absurd (hB.trans hb.symm) e
        refine Or.inr ⟨hX, r, h1, fun i hi => ?_, fun i hi => ?_⟩
        · by_cases ei : i = m
          · subst ei; rw [hB] at hi; cases hi
          · rw [hx i ei]; exact h2 i hi
        · by_cases ei : i = m
          · subst ei; rw [hB, hxm, hX]; rfl
          · rw [hx i ei]; exact h3 i (by omega)
theorem cl_iff {s : Nat} (hs : s < 2 ^ N) : clB q L N O s = !Dk q L N O N ((2 ^ N - 1) ^^^ ((2 ^ N - 1) &&& s)) := by
  have hX : ∀ i, ((2 ^ N - 1) ^^^ ((2 ^ N - 1) &&& s)).testBit i = (decide (i < N) && !s.testBit i) := fun i => by
    rw [Nat.testBit_xor, Nat.testBit_and, tb_all]
    cases decide (i < N) <;> cases s.testBit i <;> rfl
  have key : Dk q L N O N ((2 ^ N - 1) ^^^ ((2 ^ N - 1) &&& s)) = true ↔ ∃ r, r < 2 ^ N ∧ Bk q L N r O &&& s = 0 := by
    rw [Dk_iff]
    constructor
    · rintro ⟨r, h1, h2, h3⟩
      refine ⟨r, h1, Nat.eq_of_testBit_eq (fun i => ?_)⟩
      rw [Nat.testBit_and, Nat.zero_testBit]
      cases hb : (Bk q L N r O).testBit i with
      | false => rfl
      | true =>
        have := h2 i hb
        rw [hX] at this
        simp only [Bool.and_eq_true, Bool.not_eq_true'] at this
        rw [this.2]; rfl
    · rintro ⟨r, h1, h2⟩
      have hB := Bk_lt (q := q) (L := L) (free := O) h1
      refine ⟨r, h1, fun i hi => ?_, fun i hi => ?_⟩
      · rw [hX]
        have h3 : (Bk q L N r O &&& s).testBit i = false := by rw [h2]; simp
        rw [Nat.testBit_and, hi] at h3
        have hiN : i < N := by
          rcases Nat.lt_or_ge i N with z | z
          · exact z
          · rw [tb_lt hB z] at hi; cases hi
        simp only [Bool.true_and] at h3
        simp [hiN, h3]
      · rw [tb_lt hB hi, hX]
        have : ¬ i < N := by omega
        simp [this]
  unfold clB
  cases hd : Dk q L N O N ((2 ^ N - 1) ^^^ ((2 ^ N - 1) &&& s)) with
  | true =>
    obtain ⟨r, h1, h2⟩ := key.mp hd
    simp only [Bool.not_true, decide_eq_false_iff_not]
    exact fun z => z r h1 h2
  | false =>
    simp only [Bool.not_false, decide_eq_true_eq]
    intro r h1 h2
    have := key.mpr ⟨r, h1, h2⟩
    rw [hd] at this; cases this
/-! the class's marks -/
def mkM (N : Nat) (g : Nat → Int32) (M : Mem) : Mem := stC M 20 (fun X => if X < 2 ^ N then g X else M 20 X)
theorem mkM_k {k : Nat} {g : Nat → Int32} (h : k ≠ 20) : mkM N g M k = M k := stC_ne _ _ h
theorem mkM_20 {g : Nat → Int32} {X : Nat} (h : X < 2 ^ N) : mkM N g M 20 X = g X := by unfold mkM; rw [stC_same, if_pos h]
theorem mkM_cong {g g' : Nat → Int32} (h : ∀ X, X < 2 ^ N → g X = g' X) : mkM N g M = mkM N g' M := by
  unfold mkM
  congr 1
  funext X
  by_cases hX : X < 2 ^ N
  · rw [if_pos hX, if_pos hX, h X hX]
  · rw [if_neg hX, if_neg hX]
theorem mkM_set {g : Nat → Int32} {X : Nat} {v : Int32} (hX : X < 2 ^ N) : st2 (mkM N g M) 20 X v = mkM N (fun Y => if Y = X then v else g Y) M := by
  funext a b
  rw [st2_at]
  unfold mkM stC
  by_cases ha : a = 20
  · subst ha
    by_cases hb : b = X
    · subst hb; simp [hX]
    · simp [hb]
  · simp [ha]
theorem RowsOK.mk {g : Nat → Int32} (h : RowsOK M N q L O) : RowsOK (mkM N g M) N q L O := by
  unfold RowsOK at *
  rw [mkM_k (by decide), mkM_k (by decide), mkM_k (by decide), mkM_k (by decide)]
  exact h
theorem e_fillMarks (h : RowsOK M N q L O) (hF : 1024 < F) (v : Int32) : sX3_fillMarks F v M = some (mkM N (fun _ => v) M) := by
  have hp := pow_le10 h.1.2.1
  have hpos := pow_pos2 N
  unfold sX3_fillMarks
  have e0 : M = mkM N (fun X => if X < 0 then v else M 20 X) M := by
    funext a b
    unfold mkM stC
    by_cases ha : a = 20
    · subst ha; simp
    · simp [ha]
  have road := fx2_road (g := sX3_fillMarks_L2 F v) (fun i => nI i) (fun i => mkM N (fun X => if X < i then v else M 20 X) M) (2 ^ N) (some (mkM N (fun _ => v) M)) (fun i hi rec => by
    unfold sX3_fillMarks_L2
    rw [mkM_k (by decide), h.1.2.2.1, if_neg (by rw [z_lt (by omega) (by omega)]; omega), z_ib (by omega) (by decide), z_ix (by omega), nm_eq, mkM_set hi, z_addR]
    congr 1
    refine mkM_cong (fun X hX => ?_)
    by_cases e : X = i
    · subst e; simp
    · by_cases e2 : X < i
      · simp [e, e2, Nat.lt_succ_of_lt e2]
      · have : ¬ X < i + 1 := by omega
        simp [e, e2, this]) (fun rec => by
    unfold sX3_fillMarks_L2
    rw [mkM_k (by decide), h.1.2.2.1, if_pos (by rw [z_lt (by omega) (by omega)]; omega)]
    congr 1
    exact mkM_cong (fun X hX => by rw [if_pos hX])) F 0 (Nat.zero_le _) (by omega)
  rw [← e0] at road
  exact road
theorem e_mark1 (h : RowsOK M N q L O) (hF : 1024 < F) {β : Option Mem} (J : Mem → Option Mem) (hJ : J (mkM N (fun X => bi (Dk q L N O 0 X)) M) = β) : fx2 F (sX3_markBreakable_L7 F J) 0 (mkM N (fun _ => 0) M) = β := by
  have hp := pow_le10 h.1.2.1
  have hpos := pow_pos2 N
  have road := fx2_road (g := sX3_markBreakable_L7 F J) (fun i => nI i) (fun i => mkM N (fun X => bi (decide (∃ r, r < i ∧ Bk q L N r O = X))) M) (2 ^ N) β (fun i hi rec => by
    have hB := Bk_lt (q := q) (L := L) (free := O) hi
    have h18 : mkM N (fun X => bi (decide (∃ r, r < i ∧ Bk q L N r O = X))) M 18 i = nI (Bk q L N i O) := by rw [mkM_k (by decide), h.2.1 i hi]
    unfold sX3_markBreakable_L7
    rw [mkM_k (by decide), h.1.2.2.1, if_neg (by rw [z_lt (by omega) (by omega)]; omega), z_ib (by omega) (by decide), z_ix (by omega), mkM_k (show (18 : Nat) ≠ 20 by decide), h.2.1 i hi, z_and, and_all hB, z_ib (by omega) (by decide), z_ix (by omega), nm_eq, mkM_set hB, z_addR]
    congr 1
    refine mkM_cong (fun X hX => ?_)
    by_cases e : X = Bk q L N i O
    · have : (∃ r, r < i + 1 ∧ Bk q L N r O = X) := ⟨i, by omega, e.symm⟩
      rw [if_pos e]; simp [this, bi]
    · have : (∃ r, r < i + 1 ∧ Bk q L N r O = X) ↔ (∃ r, r < i ∧ Bk q L N r O = X) := by
        constructor
        · rintro ⟨r, a, b⟩
          refine ⟨r, ?_, b⟩
          rcases Nat.lt_or_ge r i with z | z
          · exact z
          · have : r = i := by omega
            subst this
            exact absurd b.symm e
        · rintro ⟨r, a, b⟩
          exact ⟨r, by omega, b⟩
      rw [if_neg e]
      simp only [this]) (fun rec => by
    unfold sX3_markBreakable_L7
    rw [mkM_k (by decide), h.1.2.2.1, if_pos (by rw [z_lt (by omega) (by omega)]; omega)]
    rw [← hJ]
    rfl) F 0 (Nat.zero_le _) (by omega)
  refine Eq.trans ?_ road
  congr 1
theorem e_mark2 (h : RowsOK M N q L O) (hF : 1024 < F) {m : Nat} (hm : m < N) {β : Option Mem} (J : Mem → Option Mem) (hJ : J (mkM N (fun X => bi (Dk q L N O (m + 1) X)) M) = β) : fx2 F (sX3_markBreakable_L54 F (nI (2 ^ m)) J) 0 (mkM N (fun X => bi (Dk q L N O m X)) M) = β := by
  have hN := h.1.2.1
  have hp := pow_le10 hN
  have hpos := pow_pos2 N
  have road := fx2_road (g := sX3_markBreakable_L54 F (nI (2 ^ m)) J) (fun i => nI i) (fun i => mkM N (fun X => bi (if X < i then Dk q L N O (m + 1) X else Dk q L N O m X)) M) (2 ^ N) β (fun i hi rec => by
    unfold sX3_markBreakable_L54
    rw [mkM_k (by decide), h.1.2.2.1, if_neg (by rw [z_lt (by omega) (by omega)]; omega)]
    simp only [nm_eq, z_addR]
    have keep : Dk q L N O (m + 1) i = Dk q L N O m i → rec (nI (i + 1)) (mkM N (fun X => bi (if X < i then Dk q L N O (m + 1) X else Dk q L N O m X)) M) = rec (nI (i + 1)) (mkM N (fun X => bi (if X < i + 1 then Dk q L N O (m + 1) X else Dk q L N O m X)) M) := by
      intro hk
      congr 1
      refine mkM_cong (fun X hX => ?_)
      by_cases e : X = i
      · subst e; simp [hk]
      · by_cases e2 : X < i
        · simp [e2, Nat.lt_succ_of_lt e2]
        · have : ¬ X < i + 1 := by omega
          simp [e2, this]
    cases hb : i.testBit m with
    | false =>
      rw [if_pos (by rw [z_bz (by omega) (by omega)]; exact hb)]
      exact keep (by rw [Dk, hb]; simp)
    | true =>
      rw [if_neg (by rw [z_bz (by omega) (by omega), hb]; decide), z_not]
      have e1 : i ^^^ (i &&& 2 ^ m) = i ^^^ 2 ^ m := by
        apply Nat.eq_of_testBit_eq
        intro k
        rw [Nat.testBit_xor, Nat.testBit_xor, Nat.testBit_and, tb_pow]
        by_cases e : m = k
        · subst e; simp [hb]
        · simp [e]
      have e2 : i ^^^ 2 ^ m < 2 ^ N := xor_lt hi (Nat.pow_lt_pow_right (by decide) hm)
      have e3 : i ^^^ 2 ^ m < i := by
        have a1 : (i ^^^ 2 ^ m) + 2 ^ m = i := by
          have h1 : (i ^^^ 2 ^ m) &&& 2 ^ m = 0 := by
            apply Nat.eq_of_testBit_eq
            intro k
            rw [Nat.testBit_and, Nat.testBit_xor, tb_pow, Nat.zero_testBit]
            by_cases e : m = k
            · subst e; simp [hb]
            · simp [e]
          have h2 : (i ^^^ 2 ^ m) ||| 2 ^ m = i := by
            apply Nat.eq_of_testBit_eq
            intro k
            rw [Nat.testBit_or, Nat.testBit_xor, tb_pow]
            by_cases e : m = k
            · subst e; simp [hb]
            · simp [e]
          have h3 := q_or_add (i ^^^ 2 ^ m) m (by
            have := congrArg (fun z => z.testBit m) h1
            simpa [Nat.testBit_and, tb_pow] using this)
          rw [← h3, h2]
        have := pow_pos2 m
        omega
      have e4 : (i ^^^ 2 ^ m).testBit m = false := by rw [Nat.testBit_xor, tb_pow, hb]; simp
      have e5 : Dk q L N O (m + 1) (i ^^^ 2 ^ m) = Dk q L N O m (i ^^^ 2 ^ m) := by rw [Dk, e4]; simp
      rw [e1, z_ib (by omega) (by decide), z_ix (by omega), mkM_20 e2, if_pos e3, e5, z_ib (by omega) (by decide), z_ix (by omega)]
      cases hd : Dk q L N O m (i ^^^ 2 ^ m) with
      | false =>
        rw [if_pos (by decide)]
        exact keep (by rw [Dk, hd]; simp)
      | true =>
        rw [if_neg (by decide), mkM_set hi]
        congr 1
        refine mkM_cong (fun X hX => ?_)
        by_cases e : X = i
        · subst e
          have : Dk q L N O (m + 1) X = true := by rw [Dk, hb, hd]; simp
          simp [this, bi]
        · by_cases e2 : X < i
          · simp [e, e2, Nat.lt_succ_of_lt e2]
          · have : ¬ X < i + 1 := by omega
            simp [e, e2, this]) (fun rec => by
    unfold sX3_markBreakable_L54
    rw [mkM_k (by decide), h.1.2.2.1, if_pos (by rw [z_lt (by omega) (by omega)]; omega), ← hJ]
    congr 1
    exact mkM_cong (fun X hX => by rw [if_pos hX])) F 0 (Nat.zero_le _) (by omega)
  have e0 : mkM N (fun X => bi (if X < 0 then Dk q L N O (m + 1) X else Dk q L N O m X)) M = mkM N (fun X => bi (Dk q L N O m X)) M := mkM_cong (fun X _ => by simp)
  rw [e0] at road
  exact road
theorem e_markBreakable (h : RowsOK M N q L O) (hF : 1024 < F) : sX3_markBreakable F M = some (mkM N (fun X => bi (Dk q L N O N X)) M) := by
  have hN := h.1.2.1
  unfold sX3_markBreakable
  rw [e_fillMarks h hF 0]
  simp only [ob_some, nm_eq]
  refine e_mark1 h hF _ ?_
  refine fx2_road (g := sX3_markBreakable_L40 F) (fun i => nI i) (fun i => mkM N (fun X => bi (Dk q L N O i X)) M) N _ (fun i hi rec => ?_) (fun rec => ?_) F 0 (Nat.zero_le _) (by omega)
  · unfold sX3_markBreakable_L40
    rw [mkM_k (by decide), h.1.1, if_neg (nI_ge hi (by omega)), z_shl1 (by omega)]
    simp only [nm_eq]
    exact e_mark2 h hF hi _ (by rw [z_addR])
  · unfold sX3_markBreakable_L40
    rw [mkM_k (by decide), h.1.1, if_pos (nI_le (Nat.le_refl _) (by omega))]
end Cannot
