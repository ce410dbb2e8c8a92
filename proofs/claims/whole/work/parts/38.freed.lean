theorem z_subneg {a b : Nat} (ha : a < 1000000) (hb : b < 1000000) : (nI a - nI b < 0) = (a < b) := by
  apply propext
  rw [Int32.lt_iff_toInt_lt, pk_sub_toInt (by omega) (by omega)]
  have : ((0 : Int32)).toInt = 0 := by decide
  omega
theorem z_subz {a b : Nat} (ha : a < 1000000) (hb : b < 1000000) : (nI a - nI b = 0) = (a = b) := by
  apply propext
  rw [← Int32.toInt_inj, pk_sub_toInt (by omega) (by omega)]
  have : ((0 : Int32)).toInt = 0 := by decide
  omega
theorem pc_all {a N : Nat} (h : a < 2 ^ N) : pc a ≤ pc (2 ^ N - 1) := by
  unfold pc
  refine fb_ct_sub (fun k hk ha => ?_)
  rw [tb_all]
  rcases Nat.lt_or_ge k N with q | q
  · simp [q]
  · rw [tb_lt h q] at ha; cases ha
section OnRows3
variable {F N L O : Nat} {q : Nat → Nat → Nat} {M M' : Mem}
def btr (b a : Nat) : Nat := if pc b < pc a ∨ (pc b = pc a ∧ b < a) then b else a
def frd (q : Nat → Nat → Nat) (L N O : Nat) : Nat → Nat
  | 0 => 2 ^ N - 1
  | r + 1 => btr (Bk q L N r O) (frd q L N O r)
theorem frd_lt : ∀ r, r ≤ 2 ^ N → frd q L N O r < 2 ^ N
  | 0, _ => by show 2 ^ N - 1 < 2 ^ N; have := pow_pos2 N; omega
  | r + 1, h => by
    unfold frd btr
    split
    · exact Bk_lt (by omega)
    · exact frd_lt r (by omega)
theorem frd_1 : frd q L N O 1 = Bk q L N 0 O := by
  have h := Bk_lt (q := q) (L := L) (free := O) (pow_pos2 N)
  have h2 := pc_all h
  show btr (Bk q L N 0 O) (2 ^ N - 1) = Bk q L N 0 O
  generalize Bk q L N 0 O = b at *
  unfold btr
  split
  · rfl
  · omega
theorem e_fewestBroken (h : RowsOK M N q L O) (hF : 1024 < F) : sX3_fewestBroken F M = some (nI (frd q L N O (2 ^ N))) := by
  have hp := pow_le10 h.1.2.1
  have hpos := pow_pos2 N
  unfold sX3_fewestBroken
  rw [z_ibL (by decide) (by decide), nm_eq, z_ixL (by decide), h.2.1 _ hpos, ← frd_1]
  have road := fx2_road (g := sX3_fewestBroken_L9 F M) (fun i => nI (frd q L N O (i + 1))) (fun i => nI (i + 1)) (2 ^ N - 1) (some (nI (frd q L N O (2 ^ N)))) (fun i hi rec => by
    have hB := Bk_lt (q := q) (L := L) (N := N) (row := i + 1) (free := O) (by omega)
    have hf := frd_lt (q := q) (L := L) (O := O) (N := N) (i + 1) (by omega)
    have hpb := pc_le (Bk q L N (i + 1) O)
    have hpf := pc_le (frd q L N O (i + 1))
    unfold sX3_fewestBroken_L9
    rw [h.1.2.2.1, if_neg (by rw [z_lt (by omega) (by omega)]; omega), z_ib (by omega) (by decide), z_ix (by omega), h.2.1 _ (show i + 1 < 2 ^ N by omega), e_bitCount F (by omega), e_bitCount F (by omega)]
    simp only [ob_some, nm_eq]
    rw [z_ib (by omega) (by decide), z_ib (by omega) (by decide), z_addR]
    show _ = rec (nI (btr (Bk q L N (i + 1) O) (frd q L N O (i + 1)))) (nI (i + 1 + 1))
    unfold btr
    by_cases c1 : pc (Bk q L N (i + 1) O) < pc (frd q L N O (i + 1))
    · rw [if_pos (by rw [z_subneg (by omega) (by omega)]; exact c1), if_pos (Or.inl c1)]
    · rw [if_neg (by rw [z_subneg (by omega) (by omega)]; exact c1)]
      by_cases c2 : pc (Bk q L N (i + 1) O) = pc (frd q L N O (i + 1))
      · rw [if_neg (by rw [z_subz (by omega) (by omega)]; exact not_not_intro c2)]
        by_cases c3 : Bk q L N (i + 1) O < frd q L N O (i + 1)
        · rw [if_neg (nI_ge c3 (by omega)), if_pos (Or.inr ⟨c2, c3⟩)]
        · rw [if_pos (nI_le (by omega) (by omega)), if_neg (by omega)]
      · rw [if_pos (by rw [z_subz (by omega) (by omega)]; exact c2), if_neg (by omega)]) (fun rec => by
    unfold sX3_fewestBroken_L9
    rw [h.1.2.2.1, if_pos (by rw [z_lt (by omega) (by omega)]; omega), show 2 ^ N - 1 + 1 = 2 ^ N by omega]) F 0 (Nat.zero_le _) (by omega)
  exact road
theorem e_freedLoop (hth : sX8_there F M = some (nI (2 ^ N - 1), M')) (h : PM M' N q L O) (hF : 1024 < F) (w : Int32) : sX8_freedOf F w M = (if ¬ w = 0 then some (nI (frd q L N O (2 ^ N)), M') else some (nI (pc (frd q L N O (2 ^ N))), M')) := by
  have hp := pow_le10 h.1.2.1
  have hpos := pow_pos2 N
  have e9 : M' 37 9 = nI O := h.2.2.1
  have hfA := frd_lt (q := q) (L := L) (O := O) (N := N) (2 ^ N) (Nat.le_refl _)
  unfold sX8_freedOf
  rw [hth]
  simp only [ob_some, nm_eq]
  refine fx2_road (fun r => nI (frd q L N O r)) (fun r => nI r) (2 ^ N) _ (fun r hr rec => ?_) (fun rec => ?_) F 0 (Nat.zero_le _) (by omega)
  · have hB := Bk_lt (q := q) (L := L) (free := O) hr
    have hf := frd_lt (q := q) (L := L) (O := O) (N := N) r (by omega)
    have hpb := pc_le (Bk q L N r O)
    have hpf := pc_le (frd q L N O r)
    unfold sX8_freedOf_L10
    rw [if_neg (by rw [z_lt (by omega) (by omega)]; omega)]
    show (sX8_brokenBy F (nI r) (M' 37 9) M').bind _ = _
    rw [e9, e_brokenBy h (by omega) h.2.2.2 (by omega)]
    simp only [ob_some]
    rw [e_ones F (by omega) _ (by omega), e_ones F (by omega) _ (by omega)]
    simp only [ob_some, nm_eq, if_true]
    rw [z_addR]
    show _ = rec (nI (btr (Bk q L N r O) (frd q L N O r))) (nI (r + 1))
    unfold btr
    have k1 : ¬ (1 : Int32) = 0 := by decide
    by_cases c1 : pc (Bk q L N r O) < pc (frd q L N O r)
    · rw [if_pos (nI_lt c1 (by omega)), if_neg k1, if_pos (Or.inl c1)]
    · rw [if_neg (nI_nlt (by omega) (by omega))]
      by_cases c2 : pc (Bk q L N r O) = pc (frd q L N O r)
      · rw [if_neg (by rw [c2]; simp)]
        by_cases c3 : Bk q L N r O < frd q L N O r
        · rw [if_neg (nI_ge c3 (by omega)), if_neg k1, if_pos (Or.inr ⟨c2, c3⟩)]
        · rw [if_pos (nI_le (by omega) (by omega)), if_neg (by omega)]
      · rw [if_pos (by rw [z_eq (by omega) (by omega)]; exact c2), if_neg (by omega)]
  · unfold sX8_freedOf_L10
    rw [if_pos (by rw [z_lt (by omega) (by omega)]; omega)]
    show (if ¬ w = 0 then some (nI (frd q L N O (2 ^ N)), M') else (sX8_ones F (nI (frd q L N O (2 ^ N))) M').bind fun r4 => some (r4, M')) = _
    rw [e_ones F (by omega) _ (by omega)]
    rfl
/-! nearest -/
def nrF (t : Nat) (a : Option Nat) (r : Nat) : Option Nat := match a with
  | none => some r
  | some j => if pc (r ^^^ t) < pc (j ^^^ t) then some r else some j
def oI (a : Option Nat) : Int32 := match a with
  | none => -1
  | some j => nI j
def oD (d t : Nat) (a : Option Nat) : Nat := match a with
  | none => d
  | some j => pc (j ^^^ t)
def nrS (q : Nat → Nat → Nat) (L N O t r : Nat) : Option Nat := ff (fp q L N O) (nrF t) none r
theorem nr_keep {d t r : Nat} {a : Option Nat} (hd : 10 < d) (c : oD d t a ≤ pc (r ^^^ t)) : nrF t a r = a := by
  have h := pc_le (r ^^^ t)
  cases a with
  | none => have c : d ≤ pc (r ^^^ t) := c
            omega
  | some j =>
    have c : pc (j ^^^ t) ≤ pc (r ^^^ t) := c
    show (if pc (r ^^^ t) < pc (j ^^^ t) then some r else some j) = some j
    rw [if_neg (by omega)]
theorem nr_take {d t r : Nat} {a : Option Nat} (c : ¬ oD d t a ≤ pc (r ^^^ t)) : nrF t a r = some r := by
  cases a with
  | none => rfl
  | some j =>
    have c : ¬ pc (j ^^^ t) ≤ pc (r ^^^ t) := c
    show (if pc (r ^^^ t) < pc (j ^^^ t) then some r else some j) = some r
    rw [if_pos (by omega)]
theorem xor_and_all {r a N : Nat} (h : r < 2 ^ N) : (r ^^^ a) &&& (2 ^ N - 1) = r ^^^ (a &&& (2 ^ N - 1)) := by
  apply Nat.eq_of_testBit_eq
  intro i
  simp only [Nat.testBit_and, Nat.testBit_xor, tb_all]
  by_cases hi : i < N
  · simp [hi]
  · rw [tb_lt h (by omega)]; simp [hi]
theorem oD_lt {d t : Nat} (hd : d < 1000) (a : Option Nat) : oD d t a < 1000 := by
  cases a with
  | none => exact hd
  | some j => have := pc_le (j ^^^ t); simp only [oD]; omega
theorem e_closestTo (h : RowsOK M N q L O) (hF : 1024 < F) {a : Nat} : sX3_closestTo F (nI a) M = some (oI (nrS q L N O (a &&& (2 ^ N - 1)) (2 ^ N))) := by
  have hp := pow_le10 h.1.2.1
  have hc := cn_le q L N O (2 ^ N)
  have hl := and_lt_all a N
  unfold sX3_closestTo
  generalize ht : a &&& (2 ^ N - 1) = t at hl ⊢
  have road := fx3_road (g := sX3_closestTo_L8 F (nI a) M) (fun i => oI (nrS q L N O t (ps (fp q L N O) (2 ^ N) i))) (fun i => nI (oD 11 t (nrS q L N O t (ps (fp q L N O) (2 ^ N) i)))) (fun i => nI i) (cn q L N O (2 ^ N)) (some (oI (nrS q L N O t (2 ^ N)))) (fun i hi rec => by
    obtain ⟨a1, a2, a3⟩ := ps_spec (p := fp q L N O) (n := 2 ^ N) hi
    unfold sX3_closestTo_L8
    rw [h.1.2.2.2, if_neg (nI_ge hi (by omega)), z_ib (by omega) (by decide), z_ix (by omega), h.nth hi, h.1.2.2.1, z_and, ht, z_xor, e_bitCount F (by have := xor_lt a1 hl; omega)]
    simp only [ob_some, nm_eq, z_addR]
    rw [z_ib (by omega) (by decide)]
    unfold nrS
    rw [ff_step (p := fp q L N O) hi]
    generalize ff (fp q L N O) (nrF t) none (ps (fp q L N O) (2 ^ N) i) = x
    generalize ps (fp q L N O) (2 ^ N) i = r
    have hpr := pc_le (r ^^^ t)
    have hox := oD_lt (d := 11) (t := t) (by decide) x
    by_cases c : oD 11 t x ≤ pc (r ^^^ t)
    · rw [if_pos (nI_le c (by omega)), nr_keep (by decide) c]
    · rw [if_neg (nI_ge (by omega) (by omega)), nr_take c]
      rfl) (fun rec => by
    unfold sX3_closestTo_L8
    rw [h.1.2.2.2, if_pos (nI_le (Nat.le_refl _) (by omega))]
    rw [cn_fp, ps_end (Nat.le_refl _)]) F 0 (Nat.zero_le _) (by omega)
  have e0 : nrS q L N O t (ps (fp q L N O) (2 ^ N) 0) = none := ff_start
  rw [e0] at road
  exact road
theorem e_nearestOf (hth : sX8_there F M = some (nI (2 ^ N - 1), M')) (h : PM M' N q L O) (hF : 1024 < F) {a : Nat} : sX8_nearestOf F (nI a) M = some (oI (nrS q L N O (a &&& (2 ^ N - 1)) (2 ^ N)), M') := by
  have hp := pow_le10 h.1.2.1
  have hpos := pow_pos2 N
  have e9 : M' 37 9 = nI O := h.2.2.1
  have hl := and_lt_all a N
  unfold sX8_nearestOf
  rw [hth]
  simp only [ob_some]
  generalize ht : a &&& (2 ^ N - 1) = t at hl ⊢
  refine fx3_road (fun r => oI (nrS q L N O t r)) (fun r => nI (oD 99 t (nrS q L N O t r))) (fun r => nI r) (2 ^ N) _ (fun r hr rec => ?_) (fun rec => ?_) F 0 (Nat.zero_le _) (by omega)
  · have hB := Bk_lt (q := q) (L := L) (free := O) hr
    unfold sX8_nearestOf_L14
    rw [if_neg (by rw [z_lt (by omega) (by omega)]; omega)]
    show (sX8_ones F ((nI r ^^^ nI a) &&& nI (2 ^ N - 1)) M').bind (fun r6 => (sX8_brokenBy F (nI r) (M' 37 9) M').bind _) = _
    rw [z_xor, z_and, xor_and_all hr, ht, e_ones F (by have := xor_lt hr hl; omega) _ (by omega), e9, e_brokenBy h (by omega) h.2.2.2 (by omega)]
    simp only [ob_some, nm_eq, z_addR]
    have cc : (nI (Bk q L N r O) = 0) ↔ Bk q L N r O = 0 := by rw [show (0 : Int32) = nI 0 from rfl]; exact nI_eq (by omega) (by decide)
    have hpr := pc_le (r ^^^ t)
    unfold nrS
    by_cases hb : Bk q L N r O = 0
    · rw [if_neg (not_not_intro (cc.mpr hb)), ff, if_pos (fp_t.mpr hb)]
      generalize ff (fp q L N O) (nrF t) none r = x
      have hox := oD_lt (d := 99) (t := t) (by decide) x
      by_cases c : oD 99 t x ≤ pc (r ^^^ t)
      · rw [if_pos (nI_le c (by omega)), nr_keep (by decide) c]
      · rw [if_neg (nI_ge (by omega) (by omega)), nr_take c]
        rfl
    · rw [if_pos (fun z => hb (cc.mp z)), ff, if_neg (fun z => hb (fp_t.mp z))]
  · unfold sX8_nearestOf_L14
    rw [if_pos (by rw [z_lt (by omega) (by omega)]; omega)]
end OnRows3
