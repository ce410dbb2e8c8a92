/-! worth, best, rest -/
section Best
variable {F N L O : Nat} {q : Nat → Nat → Nat} {M M' M'' : Mem}
def wS (W : Nat → Int32) (c : Nat) : Nat → Int32
  | 0 => 0
  | m + 1 => if c.testBit m = true then wS W c m + W m else wS W c m
theorem wS_end {W : Nat → Int32} {c N : Nat} (hc : c < 2 ^ N) : ∀ d, wS W c (N + d) = wS W c N
  | 0 => rfl
  | d + 1 => by
    show (if c.testBit (N + d) = true then _ else wS W c (N + d)) = _
    rw [if_neg (by rw [tb_lt hc (by omega)]; decide)]
    exact wS_end hc d
theorem e_worthOf7 (hF : 10 < F) {a o : Nat} (ho : o < 1024) : sX7_worthOf F (nI a) (nI o) M = some (wS (M 16) (a &&& o) 10) := by
  have hl : a &&& o < 1024 := Nat.lt_of_le_of_lt Nat.and_le_right ho
  unfold sX7_worthOf
  simp only [nm_eq, z_and]
  refine fx2_road (fun i => wS (M 16) (a &&& o) i) (fun i => nI i) 10 _ (fun i hi rec => ?_) (fun rec => ?_) F 0 (Nat.zero_le _) (by omega)
  · unfold sX7_worthOf_L10
    rw [show (10 : Int32) = nI 10 from rfl, if_neg (nI_ge hi (by decide)), z_bit (by omega) (by omega)]
    simp only [nm_eq]
    rw [z_ib hi (by decide), z_ix (by omega), z_addR]
    show _ = rec (if (a &&& o).testBit i = true then wS (M 16) (a &&& o) i + M 16 i else wS (M 16) (a &&& o) i) (nI (i + 1))
    cases hb : (a &&& o).testBit i with
    | true => rw [if_neg (show ¬ ¬ nI (if true = true then 1 else 0) = 1 by decide), if_pos rfl]
    | false => rw [if_pos (show ¬ nI (if false = true then 1 else 0) = 1 by decide), if_neg (show ¬ false = true by decide)]
  · unfold sX7_worthOf_L10
    rw [if_pos (by decide)]
theorem e_worthOf8 (h : PM M N q L O) (hF : 10 < F) {a p : Nat} (ha : a < 1024) (hp : p < 1000) : sX8_worthOf F (nI a) (nI p) M = some (wS (M 43) (a &&& owS q N p) 10) := by
  have h10 : N ≤ 10 := h.1.2.1
  have hlt : a &&& owS q N p < 2 ^ N := and_lt (owS_lt _ _ _)
  have e10 := wS_end (W := M 43) hlt (10 - N)
  rw [show N + (10 - N) = 10 by omega] at e10
  rw [e10]
  unfold sX8_worthOf
  refine fx2_road (fun i => wS (M 43) (a &&& owS q N p) i) (fun i => nI i) N _ (fun i hi rec => ?_) (fun rec => ?_) F 0 (Nat.zero_le _) (by omega)
  · obtain ⟨⟨a0, -⟩, b0, -⟩ := h.1.2.2 i hi
    unfold sX8_worthOf_L5
    rw [h.1.1, if_neg (nI_ge hi (by omega)), e_isIn F (by omega) (by omega)]
    simp only [ob_some, nm_eq]
    rw [z_mulL, z_ib (by omega) (by decide), z_ib (by omega) (by decide), z_ix (by omega), z_ix (by omega), a0, z_addR, Int32.add_zero]
    show _ = rec (if (a &&& owS q N p).testBit i = true then wS (M 43) (a &&& owS q N p) i + M 43 i else wS (M 43) (a &&& owS q N p) i) (nI (i + 1))
    have et : (a &&& owS q N p).testBit i = (a.testBit i && decide (q 0 i = p)) := by
      unfold owS
      rw [Nat.testBit_and, mk_tb]; simp [hi]
    rw [et]
    cases hb : a.testBit i with
    | false => rw [if_neg (by decide), if_neg (by simp)]
    | true =>
      rw [if_pos rfl]
      by_cases c1 : q 0 i = p
      · rw [if_neg (not_not_intro (by rw [c1])), if_pos (by simp [c1])]
      · rw [if_pos (show ¬ nI (q 0 i) = nI p from fun z => c1 ((nI_eq (by omega) (by omega)).mp z)), if_neg (by simp [c1])]
  · unfold sX8_worthOf_L5
    rw [h.1.1, if_pos (nI_le (Nat.le_refl _) (by omega))]
/-- the first best of those before -/
def bsF (W : Nat → Int32) (o : Nat) (a : Option Nat) (r : Nat) : Option Nat := match a with
  | none => some r
  | some x => if wS W (r &&& o) 10 ≤ wS W (x &&& o) 10 then some x else some r
def bsS (W : Nat → Int32) (o : Nat) (q : Nat → Nat → Nat) (L N fr r : Nat) : Option Nat := ff (fp q L N fr) (bsF W o) none r
theorem bsS_lt {W : Nat → Int32} {o fr : Nat} : ∀ r x, bsS W o q L N fr r = some x → x < r ∧ fp q L N fr x = true
  | 0 => fun x h => by simp [bsS, ff] at h
  | r + 1 => fun x h => by
    unfold bsS ff at h
    by_cases c : fp q L N fr r = true
    · rw [if_pos c] at h
      have ih := bsS_lt (W := W) (o := o) (fr := fr) r
      unfold bsS at ih
      cases hb : ff (fp q L N fr) (bsF W o) none r with
      | none =>
        rw [hb] at h
        have : r = x := by simpa [bsF] using h
        subst this
        exact ⟨Nat.lt_succ_self _, c⟩
      | some y =>
        rw [hb] at h
        have hy := ih y hb
        have h' : (if wS W (r &&& o) 10 ≤ wS W (y &&& o) 10 then some y else some r) = some x := h
        by_cases c2 : wS W (r &&& o) 10 ≤ wS W (y &&& o) 10
        · rw [if_pos c2] at h'
          have : y = x := by simpa using h'
          subst this
          exact ⟨by omega, hy.2⟩
        · rw [if_neg c2] at h'
          have : r = x := by simpa using h'
          subst this
          exact ⟨Nat.lt_succ_self _, c⟩
    · rw [if_neg c] at h
      have := bsS_lt r x h
      exact ⟨by omega, this.2⟩
theorem bsS_max {W : Nat → Int32} {o fr : Nat} : ∀ r y, y < r → fp q L N fr y = true → ∃ x, bsS W o q L N fr r = some x ∧ wS W (y &&& o) 10 ≤ wS W (x &&& o) 10
  | 0 => fun y h => by omega
  | r + 1 => fun y hy hf => by
    have ih := bsS_max (W := W) (o := o) (fr := fr) r
    unfold bsS ff
    by_cases c : fp q L N fr r = true
    · rw [if_pos c]
      by_cases e : y = r
      · subst e
        cases hb : ff (fp q L N fr) (bsF W o) none y with
        | none => exact ⟨y, rfl, by rw [Int32.le_iff_toInt_le]; omega⟩
        | some z =>
          by_cases c2 : wS W (y &&& o) 10 ≤ wS W (z &&& o) 10
          · exact ⟨z, if_pos c2, c2⟩
          · exact ⟨y, if_neg c2, by rw [Int32.le_iff_toInt_le]; omega⟩
      · obtain ⟨z, hz, hle⟩ := ih y (by omega) hf
        unfold bsS at hz
        rw [hz]
        by_cases c2 : wS W (r &&& o) 10 ≤ wS W (z &&& o) 10
        · exact ⟨z, if_pos c2, hle⟩
        · refine ⟨r, if_neg c2, ?_⟩
          rw [Int32.le_iff_toInt_le] at *
          omega
    · rw [if_neg c]
      have : y ≠ r := fun e => c (e ▸ hf)
      exact ih y (by omega) hf
theorem e_bestRow (h : RowsOK M N q L O) (hF : 1024 < F) {o : Nat} (ho : o < 1024) : sX7_bestRow F (nI o) M = some (oI (bsS (M 16) o q L N O (2 ^ N))) := by
  have h10 : N ≤ 10 := h.1.2.1
  have hp := pow_le10 h10
  have hcn := cn_le q L N O (2 ^ N)
  unfold sX7_bestRow
  have e0 : (-1 : Int32) = oI (bsS (M 16) o q L N O (ps (fp q L N O) (2 ^ N) 0)) := by
    unfold bsS; rw [ff_start]; rfl
  have key := fx3_road (g := sX7_bestRow_L8 F (nI o) M) (fun i => oI (bsS (M 16) o q L N O (ps (fp q L N O) (2 ^ N) i))) (fun i => match bsS (M 16) o q L N O (ps (fp q L N O) (2 ^ N) i) with
    | none => 0
    | some x => wS (M 16) (x &&& o) 10) (fun i => nI i) (cn q L N O (2 ^ N)) (some (oI (bsS (M 16) o q L N O (2 ^ N)))) (fun i hi rec => by
    obtain ⟨s1, s2, s3⟩ := ps_spec (p := fp q L N O) (n := 2 ^ N) hi
    have hst : bsS (M 16) o q L N O (ps (fp q L N O) (2 ^ N) (i + 1)) = bsF (M 16) o (bsS (M 16) o q L N O (ps (fp q L N O) (2 ^ N) i)) (ps (fp q L N O) (2 ^ N) i) := by
      unfold bsS; exact ff_step hi
    unfold sX7_bestRow_L8 sX3_howMany
    simp only [ob_some]
    rw [h.1.2.2.2, if_neg (nI_ge hi (by omega)), e_nth h (by omega), if_pos hi]
    simp only [ob_some, nm_eq]
    rw [e_worthOf7 (by omega) ho]
    simp only [ob_some]
    rw [hst, z_addR]
    generalize hb : bsS (M 16) o q L N O (ps (fp q L N O) (2 ^ N) i) = bo
    cases bo with
    | none =>
      rw [if_pos (show oI none = -1 from rfl)]
      rfl
    | some x =>
      have hx := bsS_lt _ _ hb
      rw [if_neg (show ¬ oI (some x) = -1 from m1_ne (by omega))]
      by_cases c : wS (M 16) (ps (fp q L N O) (2 ^ N) i &&& o) 10 ≤ wS (M 16) (x &&& o) 10
      · rw [if_pos c, show bsF (M 16) o (some x) (ps (fp q L N O) (2 ^ N) i) = some x from if_pos c]
      · rw [if_neg c, show bsF (M 16) o (some x) (ps (fp q L N O) (2 ^ N) i) = some (ps (fp q L N O) (2 ^ N) i) from if_neg c]
        rfl) (fun rec => by
    unfold sX7_bestRow_L8 sX3_howMany
    simp only [ob_some]
    rw [h.1.2.2.2, if_pos (nI_le (Nat.le_refl _) (by omega))]
    unfold bsS
    rw [cn_fp, ff_end]) F 0 (Nat.zero_le _) (by omega)
  have e1 : bsS (M 16) o q L N O (ps (fp q L N O) (2 ^ N) 0) = none := by unfold bsS; rw [ff_start]
  rw [e1] at key
  exact key
theorem e_bestBy (hth : sX8_there F M = some (nI (2 ^ N - 1), M')) (h : PM M' N q L O) (hF : 1024 < F) {p fr : Nat} (hp : p < 1000) (hfr : fr < 1024) : sX8_bestBy F (nI p) (nI fr) M = some (oI (bsS (M' 43) (owS q N p) q L N fr (2 ^ N)), M') := by
  have h10 : N ≤ 10 := h.1.2.1
  have hpw := pow_le10 h10
  have hpos := pow_pos2 N
  unfold sX8_bestBy
  rw [hth]
  have hr2 : (nI (2 ^ N - 1), M').2 = M' := rfl
  have hr1 : (nI (2 ^ N - 1), M').1 = nI (2 ^ N - 1) := rfl
  generalize (nI (2 ^ N - 1), M') = r1 at hr1 hr2
  simp only [ob_some]
  refine fx2_road (fun r => oI (bsS (M' 43) (owS q N p) q L N fr r)) (fun r => nI r) (2 ^ N) _ (fun r hr rec => ?_) (fun rec => ?_) F 0 (Nat.zero_le _) (by omega)
  · have hB := Bk_lt (q := q) (L := L) (free := fr) hr
    unfold sX8_bestBy_L11
    rw [hr1, hr2, if_neg (by rw [z_lt (by omega) (by omega)]; omega), e_brokenBy h (by omega) hfr (by omega)]
    simp only [ob_some, nm_eq]
    rw [z_addR]
    have hs : bsS (M' 43) (owS q N p) q L N fr (r + 1) = if fp q L N fr r = true then bsF (M' 43) (owS q N p) (bsS (M' 43) (owS q N p) q L N fr r) r else bsS (M' 43) (owS q N p) q L N fr r := rfl
    rw [hs]
    by_cases c : Bk q L N r fr = 0
    · rw [if_neg (show ¬ ¬ nI (Bk q L N r fr) = 0 by rw [c]; exact not_not_intro rfl), if_pos (fp_t.mpr c), if_neg (show ¬ (1 : Int32) = 0 by decide)]
      generalize hb : bsS (M' 43) (owS q N p) q L N fr r = bo
      cases bo with
      | none =>
        rw [if_pos (show oI none = -1 from rfl)]
        rfl
      | some x =>
        have hx := bsS_lt _ _ hb
        rw [if_neg (show ¬ oI (some x) = -1 from m1_ne (by omega)), e_worthOf8 h (by omega) (by omega) hp]
        simp only [ob_some]
        rw [show oI (some x) = nI x from rfl, e_worthOf8 h (by omega) (by omega) hp]
        simp only [ob_some]
        by_cases c2 : wS (M' 43) (r &&& owS q N p) 10 ≤ wS (M' 43) (x &&& owS q N p) 10
        · rw [if_pos c2, show bsF (M' 43) (owS q N p) (some x) r = some x from if_pos c2]; rfl
        · rw [if_neg c2, show bsF (M' 43) (owS q N p) (some x) r = some r from if_neg c2]; rfl
    · rw [if_pos (show ¬ nI (Bk q L N r fr) = 0 from fun z => c ((nI_eq (b := 0) (by omega) (by decide)).mp z)), if_neg (fun z => c (fp_t.mp z)), if_pos trivial]
  · unfold sX8_bestBy_L11
    rw [hr1, hr2, if_pos (by rw [z_lt (by omega) (by omega)]; omega)]
end Best
