/-! folds over those of the first n that fit; the i-th of them -/
def ff {α : Type} (p : Nat → Bool) (f : α → Nat → α) (a0 : α) : Nat → α
  | 0 => a0
  | r + 1 => if p r = true then f (ff p f a0 r) r else ff p f a0 r
def ps (p : Nat → Bool) (n i : Nat) : Nat := fa_first (fun r => p r && decide (fb_ct p r = i)) n
theorem ps_le (p : Nat → Bool) (n i : Nat) : ps p n i ≤ n := fa_first_le _ _
theorem ps_spec {p : Nat → Bool} {n i : Nat} (h : i < fb_ct p n) : ps p n i < n ∧ p (ps p n i) = true ∧ fb_ct p (ps p n i) = i := by
  have hlt : ps p n i < n := by
    rcases Nat.lt_or_ge (ps p n i) n with q | q
    · exact q
    · obtain ⟨j, h1, h2, h3⟩ := fb_ct_kth h
      have := fa_first_no (fun r => p r && decide (fb_ct p r = i)) n j (Nat.lt_of_lt_of_le h1 q)
      simp [h2, h3] at this
  have h2 := fa_first_yes (fun r => p r && decide (fb_ct p r = i)) n hlt
  simp only [Bool.and_eq_true, decide_eq_true_eq] at h2
  exact ⟨hlt, h2.1, h2.2⟩
theorem ps_end {p : Nat → Bool} {n i : Nat} (h : fb_ct p n ≤ i) : ps p n i = n := by
  rcases Nat.lt_or_ge (ps p n i) n with q | q
  · have h2 := fa_first_yes (fun r => p r && decide (fb_ct p r = i)) n q
    simp only [Bool.and_eq_true, decide_eq_true_eq] at h2
    have h3 : fb_ct p (ps p n i + 1) = fb_ct p (ps p n i) + 1 := by rw [fb_ct_succ, show p (ps p n i) = true from h2.1]; rfl
    have h4 := fb_ct_mono p (show ps p n i + 1 ≤ n by omega)
    have h5 : fb_ct p (ps p n i) = i := h2.2
    omega
  · have := ps_le p n i; omega
theorem ff_gap {α : Type} {p : Nat → Bool} {f : α → Nat → α} {a0 : α} {a : Nat} : ∀ b, a ≤ b → (∀ r, a ≤ r → r < b → p r = false) → ff p f a0 b = ff p f a0 a := by
  intro b
  induction b with
  | zero => intro h _; have : a = 0 := by omega
            rw [this]
  | succ b ih =>
    intro h hg
    rcases Nat.lt_or_ge a (b + 1) with q | q
    · rw [ff, if_neg (by rw [hg b (by omega) (by omega)]; decide)]
      exact ih (by omega) (fun r h1 h2 => hg r h1 (by omega))
    · have : a = b + 1 := by omega
      rw [this]
theorem ps_gap0 {p : Nat → Bool} {n r : Nat} (h : r < ps p n 0) : p r = false := by
  cases hp : p r with
  | false => rfl
  | true =>
    by_cases h0 : fb_ct p r = 0
    · have := fa_first_no (fun r => p r && decide (fb_ct p r = 0)) n r h
      simp [hp, h0] at this
    · obtain ⟨j, h1, h2, h3⟩ := fb_ct_kth (p := p) (k := 0) (n := r) (by omega)
      have := fa_first_no (fun r => p r && decide (fb_ct p r = 0)) n j (Nat.lt_trans h1 h)
      simp [h2, h3] at this
theorem ps_gap {p : Nat → Bool} {n i r : Nat} (hi : i < fb_ct p n) (h1 : ps p n i < r) (h2 : r < ps p n (i + 1)) : p r = false := by
  cases hp : p r with
  | false => rfl
  | true =>
    obtain ⟨a1, a2, a3⟩ := ps_spec hi
    have h3 : fb_ct p (ps p n i + 1) = i + 1 := by rw [fb_ct_succ, a2, a3]; rfl
    have h4 := fb_ct_mono p (show ps p n i + 1 ≤ r by omega)
    by_cases h0 : fb_ct p r = i + 1
    · have := fa_first_no (fun r => p r && decide (fb_ct p r = i + 1)) n r h2
      simp [hp, h0] at this
    · obtain ⟨j, g1, g2, g3⟩ := fb_ct_kth (p := p) (k := i + 1) (n := r) (by omega)
      have := fa_first_no (fun r => p r && decide (fb_ct p r = i + 1)) n j (Nat.lt_trans g1 h2)
      simp [g2, g3] at this
theorem ps_lt {p : Nat → Bool} {n i : Nat} (hi : i < fb_ct p n) : ps p n i < ps p n (i + 1) := by
  obtain ⟨a1, a2, a3⟩ := ps_spec hi
  rcases Nat.lt_or_ge (i + 1) (fb_ct p n) with q | q
  · obtain ⟨b1, b2, b3⟩ := ps_spec q
    rcases Nat.lt_or_ge (ps p n i) (ps p n (i + 1)) with z | z
    · exact z
    · have := fb_ct_mono p z
      omega
  · rw [ps_end q]; exact a1
theorem ff_step {α : Type} {p : Nat → Bool} {f : α → Nat → α} {a0 : α} {n i : Nat} (hi : i < fb_ct p n) : ff p f a0 (ps p n (i + 1)) = f (ff p f a0 (ps p n i)) (ps p n i) := by
  obtain ⟨a1, a2, a3⟩ := ps_spec hi
  have h := ff_gap (f := f) (a0 := a0) (a := ps p n i + 1) (ps p n (i + 1)) (by have := ps_lt hi; omega) (fun r h1 h2 => ps_gap hi (by omega) h2)
  rw [h, ff, if_pos a2]
theorem ff_start {α : Type} {p : Nat → Bool} {f : α → Nat → α} {a0 : α} {n : Nat} : ff p f a0 (ps p n 0) = a0 := by
  have h := ff_gap (f := f) (a0 := a0) (a := 0) (ps p n 0) (Nat.zero_le _) (fun r _ h2 => ps_gap0 h2)
  rw [h]; rfl
theorem ff_end {α : Type} {p : Nat → Bool} {f : α → Nat → α} {a0 : α} {n : Nat} : ff p f a0 (ps p n (fb_ct p n)) = ff p f a0 n := by rw [ps_end (Nat.le_refl _)]
/-! rows, one by one -/
def fp (q : Nat → Nat → Nat) (L N O : Nat) (r : Nat) : Bool := decide (Bk q L N r O = 0)
theorem cn_fp (q : Nat → Nat → Nat) (L N O r : Nat) : cn q L N O r = fb_ct (fp q L N O) r := rfl
theorem fp_t {q : Nat → Nat → Nat} {L N O r : Nat} : fp q L N O r = true ↔ Bk q L N r O = 0 := by unfold fp; simp
section OnRows
variable {F N L O : Nat} {q : Nat → Nat → Nat} {M M' : Mem}
theorem RowsOK.nth (h : RowsOK M N q L O) {i : Nat} (hi : i < cn q L N O (2 ^ N)) : M 19 i = nI (ps (fp q L N O) (2 ^ N) i) := by
  obtain ⟨a1, a2, a3⟩ := ps_spec (p := fp q L N O) (n := 2 ^ N) hi
  have := h.2.2.1 _ a1 (fp_t.mp a2)
  rw [cn_fp, a3] at this
  exact this
theorem e_nth (h : RowsOK M N q L O) {i : Nat} (hi : i < 1024) : sX3_nth F (nI i) M = some (if i < cn q L N O (2 ^ N) then nI (ps (fp q L N O) (2 ^ N) i) else -1) := by
  have hp := pow_le10 h.1.2.1
  have hc := cn_le q L N O (2 ^ N)
  unfold sX3_nth
  rw [if_neg (nI_pos (by omega)), h.1.2.2.2]
  by_cases c : i < cn q L N O (2 ^ N)
  · rw [if_neg (nI_ge c (by omega)), show (1024 : Int32) = nI 1024 from rfl, if_neg (nI_ge hi (by decide)), z_ib hi (by decide), z_ix (by omega), if_pos c, h.nth c]
  · rw [if_pos (nI_le (by omega) (by omega)), if_neg c]
theorem e_rowsOf_i (hth : sX8_there F M = some (nI (2 ^ N - 1), M')) (h : PM M' N q L O) (hF : 1024 < F) {i : Nat} (hi : i < 1024) : sX8_rowsOf F (nI i) M = some (if i < cn q L N O (2 ^ N) then nI (ps (fp q L N O) (2 ^ N) i) else -1, M') := by
  have hp := pow_le10 h.1.2.1
  have hpos := pow_pos2 N
  unfold sX8_rowsOf
  rw [hth]
  simp only [ob_some, nm_eq]
  have hm1 : ¬ nI i = -1 := m1_ne (by omega)
  have e9 : M' 37 9 = nI O := h.2.2.1
  have stepno : ∀ r, r < 2 ^ N → (Bk q L N r O = 0 → ¬ cn q L N O r = i) → ∀ (J : Int32 → Option (Int32 × Mem)) (rec : Int32 → Int32 → Option (Int32 × Mem)), sX8_rowsOf_L10 F (nI i) (nI (2 ^ N - 1), M') J rec (nI (cn q L N O r)) (nI r) = rec (nI (cn q L N O (r + 1))) (nI (r + 1)) := by
    intro r hr hne J rec
    have hc := cn_le q L N O r
    have hB := Bk_lt (q := q) (L := L) (free := O) hr
    unfold sX8_rowsOf_L10
    rw [if_neg (by rw [z_lt (by omega) (by omega)]; omega)]
    show (sX8_brokenBy F (nI r) (M' 37 9) M').bind _ = _
    rw [e9, e_brokenBy h (by omega) h.2.2.2 (by omega)]
    simp only [ob_some, nm_eq, z_addR]
    have cc : (nI (Bk q L N r O) = 0) ↔ Bk q L N r O = 0 := by rw [show (0 : Int32) = nI 0 from rfl]; exact nI_eq (by omega) (by decide)
    rw [cn_succ]
    by_cases hb : Bk q L N r O = 0
    · rw [if_neg (not_not_intro (cc.mpr hb)), if_pos (by rw [z_eq (by omega) (by omega)]; exact hne hb), if_pos hb]
    · rw [if_pos (fun z => hb (cc.mp z)), if_neg hb]; rfl
  by_cases c : i < cn q L N O (2 ^ N)
  · obtain ⟨a1, a2, a3⟩ := ps_spec (p := fp q L N O) (n := 2 ^ N) c
    rw [if_pos c]
    generalize hj : ps (fp q L N O) (2 ^ N) i = j at a1 a2 a3 ⊢
    refine fx2_road (fun r => nI (cn q L N O r)) (fun r => nI r) j _ (fun r hr rec => stepno r (by omega) (fun hb e => ?_) _ rec) (fun rec => ?_) F 0 (Nat.zero_le _) (by omega)
    · have h1 := cn_succ q L N O r
      rw [if_pos hb] at h1
      have h2 := cn_mono q L N O (show r + 1 ≤ j by omega)
      have h3 : cn q L N O j = i := a3
      omega
    · have hc := cn_le q L N O j
      have hB := Bk_lt (q := q) (L := L) (free := O) a1
      unfold sX8_rowsOf_L10
      rw [if_neg (by rw [z_lt (by omega) (by omega)]; omega)]
      show (sX8_brokenBy F (nI j) (M' 37 9) M').bind _ = _
      rw [e9, e_brokenBy h (by omega) h.2.2.2 (by omega)]
      simp only [ob_some, nm_eq]
      rw [fp_t.mp a2, if_neg (by decide), if_neg (by rw [show cn q L N O j = i from a3]; simp)]
  · rw [if_neg c]
    refine fx2_road (fun r => nI (cn q L N O r)) (fun r => nI r) (2 ^ N) _ (fun r hr rec => stepno r hr (fun hb e => ?_) _ rec) (fun rec => ?_) F 0 (Nat.zero_le _) (by omega)
    · have h1 := cn_succ q L N O r
      rw [if_pos hb] at h1
      have h2 := cn_mono q L N O (show r + 1 ≤ 2 ^ N by omega)
      omega
    · unfold sX8_rowsOf_L10
      rw [if_pos (by rw [z_lt (by omega) (by omega)]; omega)]
      exact if_pos hm1
theorem e_rowsOf_n (hth : sX8_there F M = some (nI (2 ^ N - 1), M')) (h : PM M' N q L O) (hF : 1024 < F) : sX8_rowsOf F (-1) M = some (nI (cn q L N O (2 ^ N)), M') := by
  have hp := pow_le10 h.1.2.1
  have hpos := pow_pos2 N
  unfold sX8_rowsOf
  rw [hth]
  simp only [ob_some, nm_eq]
  have e9 : M' 37 9 = nI O := h.2.2.1
  refine fx2_road (fun r => nI (cn q L N O r)) (fun r => nI r) (2 ^ N) _ (fun r hr rec => ?_) (fun rec => ?_) F 0 (Nat.zero_le _) (by omega)
  · have hc := cn_le q L N O r
    have hB := Bk_lt (q := q) (L := L) (free := O) hr
    unfold sX8_rowsOf_L10
    rw [if_neg (by rw [z_lt (by omega) (by omega)]; omega)]
    show (sX8_brokenBy F (nI r) (M' 37 9) M').bind _ = _
    rw [e9, e_brokenBy h (by omega) h.2.2.2 (by omega)]
    simp only [ob_some, nm_eq, z_addR]
    have cc : (nI (Bk q L N r O) = 0) ↔ Bk q L N r O = 0 := by rw [show (0 : Int32) = nI 0 from rfl]; exact nI_eq (by omega) (by decide)
    rw [cn_succ]
    by_cases hb : Bk q L N r O = 0
    · rw [if_neg (not_not_intro (cc.mpr hb)), if_pos (m1_ne (by omega)), if_pos hb]
    · rw [if_pos (fun z => hb (cc.mp z)), if_neg hb]; rfl
  · unfold sX8_rowsOf_L10
    rw [if_pos (by rw [z_lt (by omega) (by omega)]; omega)]
    simp
end OnRows
