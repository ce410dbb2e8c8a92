/-! returns: till bits come again -/
section Returns
variable {F N L O : Nat} {q : Nat → Nat → Nat} {M M' : Mem}
def rpB (q : Nat → Nat → Nat) (L N O a k : Nat) : Bool := decide (∃ j, j < k ∧ itr q L N O a j = itr q L N O a k)
def rpT (q : Nat → Nat → Nat) (L N O a : Nat) : Nat := fa_first (rpB q L N O a) (2 ^ N + 1)
def mkr (q : Nat → Nat → Nat) (L N O a : Nat) : Nat → Nat → Int32
  | 0, _ => -1
  | k + 1, X => if X = itr q L N O a k then nI k else mkr q L N O a k X
theorem rp_spec {a : Nat} (ha : a < 2 ^ N) : rpT q L N O a ≤ 2 ^ N ∧ ∃ j, j < rpT q L N O a ∧ itr q L N O a j = itr q L N O a (rpT q L N O a) := by
  obtain ⟨i, j, h1, h2, h3⟩ := fb_twice (m := 2 ^ N) (n := 2 ^ N + 1) (f := itr q L N O a) (fun k _ => itr_lt ha k) (by omega)
  have hlt : rpT q L N O a < 2 ^ N + 1 := by
    rcases Nat.lt_or_ge (rpT q L N O a) (2 ^ N + 1) with z | z
    · exact z
    · have := fa_first_no (rpB q L N O a) (2 ^ N + 1) j (Nat.lt_of_lt_of_le h2 z)
      unfold rpB at this
      simp only [decide_eq_false_iff_not] at this
      exact absurd ⟨i, h1, h3⟩ this
  have hy := fa_first_yes (rpB q L N O a) (2 ^ N + 1) hlt
  unfold rpB at hy
  exact ⟨by omega, of_decide_eq_true hy⟩
theorem rp_no {a k : Nat} (hk : k < rpT q L N O a) {j : Nat} (hj : j < k) : ¬ itr q L N O a j = itr q L N O a k := by
  have := fa_first_no (rpB q L N O a) (2 ^ N + 1) k hk
  unfold rpB at this
  simp only [decide_eq_false_iff_not] at this
  exact fun z => this ⟨j, hj, z⟩
theorem mkr_none {a X : Nat} : ∀ k, (∀ j, j < k → ¬ itr q L N O a j = X) → mkr q L N O a k X = -1
  | 0, _ => rfl
  | k + 1, h => by
    rw [mkr, if_neg (fun z => h k (by omega) z.symm)]
    exact mkr_none k (fun j hj => h j (by omega))
theorem mkr_at {a j : Nat} : ∀ k, j < k → k ≤ rpT q L N O a → mkr q L N O a k (itr q L N O a j) = nI j
  | 0, h, _ => by omega
  | k + 1, h, hT => by
    rw [mkr]
    by_cases e : j = k
    · subst e; rw [if_pos rfl]
    · rw [if_neg (rp_no (by omega) (by omega))]
      exact mkr_at k (by omega) (by omega)
/-- how long it is since then: T less the first time -/
def rpR (q : Nat → Nat → Nat) (L N O a : Nat) : Nat := rpT q L N O a - (mkr q L N O a (rpT q L N O a) (itr q L N O a (rpT q L N O a))).toNatClampNeg
theorem rp_end {a : Nat} (ha : a < 2 ^ N) : ∃ j, j < rpT q L N O a ∧ mkr q L N O a (rpT q L N O a) (itr q L N O a (rpT q L N O a)) = nI j := by
  obtain ⟨-, j, h1, h2⟩ := rp_spec (q := q) (L := L) (O := O) ha
  exact ⟨j, h1, by rw [← h2]; exact mkr_at _ h1 (Nat.le_refl _)⟩
theorem e_stepsToReturn (h : RowsOK M N q L O) (hF : 1025 < F) {a : Nat} (w : Int32) : ∃ M', sX3_stepsToReturn F (nI a) w M = some (if w = 0 then nI (rpT q L N O (a &&& (2 ^ N - 1))) else nI (rpR q L N O (a &&& (2 ^ N - 1))), M') ∧ RowsOK M' N q L O ∧ ∀ k, k ≠ 20 → M' k = M k := by
  have hN := h.1.2.1
  have hp := pow_le10 hN
  have hl := and_lt_all a N
  unfold sX3_stepsToReturn
  rw [e_fillMarks h (by omega) (-1)]
  simp only [ob_some, nm_eq]
  rw [mkM_k (by decide), h.1.2.2.1, z_and]
  generalize a &&& (2 ^ N - 1) = t at hl ⊢
  obtain ⟨hT, -⟩ := rp_spec (q := q) (L := L) (O := O) hl
  obtain ⟨j, hj, hje⟩ := rp_end (q := q) (L := L) (O := O) hl
  generalize hTe : rpT q L N O t = T at hT hj hje ⊢
  refine ⟨mkM N (mkr q L N O t T) M, ?_, h.mk, fun k hk => mkM_k hk⟩
  have hxT := itr_lt (q := q) (L := L) (O := O) hl T
  refine fx3_road (g := sX3_stepsToReturn_L15 F _) (fun k => nI (itr q L N O t k)) (fun k => nI k) (fun k => mkM N (mkr q L N O t k) M) T _ (fun k hk rec => ?_) (fun rec => ?_) F 0 (Nat.zero_le _) (by omega)
  · have hx := itr_lt (q := q) (L := L) (O := O) hl k
    unfold sX3_stepsToReturn_L15
    rw [show (1024 : Int32) = nI 1024 from rfl, if_neg (by rw [z_lt (by decide) (by omega)]; omega), z_ib (by omega) (by decide), z_ix (by omega), mkM_20 hx, mkr_none k (fun i hi => rp_no (by omega) hi), if_neg (by simp), z_ib (by omega) (by decide), nm_eq, z_ib (by omega) (by decide), mkM_set hx, mkM_k (show (18 : Nat) ≠ 20 by decide), h.2.1 _ hx, z_xor, Bk_nxt, nm_eq, z_addR]
    rfl
  · unfold sX3_stepsToReturn_L15
    rw [show (1024 : Int32) = nI 1024 from rfl, if_neg (by rw [z_lt (by decide) (by omega)]; omega), z_ib (by omega) (by decide), z_ix (by omega), mkM_20 hxT, hje, if_pos (m1_ne (by omega))]
    show (if w = 0 then some (nI T, mkM N (mkr q L N O t T) M) else ib (nI (itr q L N O t T)) 1024 (some (nI T - mkM N (mkr q L N O t T) M 20 (ix (nI (itr q L N O t T))), mkM N (mkr q L N O t T) M))) = _
    rw [z_ib (by omega) (by decide), z_ix (by omega), mkM_20 hxT, hje, z_sub (by omega)]
    have eR : rpR q L N O t = T - j := by
      unfold rpR
      rw [hTe, hje, nI_clamp (by omega)]
    rw [eR]
    by_cases hw : w = 0
    · rw [if_pos hw, if_pos hw]
    · rw [if_neg hw, if_neg hw]
theorem e_returnsOf (hth : sX8_there F M = some (nI (2 ^ N - 1), M')) (h : PM M' N q L O) (hF : 1025 < F) {a : Nat} (w : Int32) : ∃ g, sX8_returnsOf F (nI a) w M = some (if w = 0 then nI (rpT q L N O (a &&& (2 ^ N - 1))) else nI (rpR q L N O (a &&& (2 ^ N - 1))), stC M' 45 g) := by
  have hN := h.1.2.1
  have hp := pow_le10 hN
  have hl := and_lt_all a N
  have e9 : M' 37 9 = nI O := h.2.2.1
  unfold sX8_returnsOf
  rw [hth]
  simp only [ob_some, nm_eq, z_and]
  generalize a &&& (2 ^ N - 1) = t at hl ⊢
  obtain ⟨hT, -⟩ := rp_spec (q := q) (L := L) (O := O) hl
  obtain ⟨j, hj, hje⟩ := rp_end (q := q) (L := L) (O := O) hl
  generalize hTe : rpT q L N O t = T at hT hj hje ⊢
  have hxT := itr_lt (q := q) (L := L) (O := O) hl T
  refine ⟨fun X => if X < 1024 then mkr q L N O t T X else M' 45 X, ?_⟩
  have e0 : M' = stC M' 45 (fun X => if X < 0 then -1 else M' 45 X) := by
    funext a b
    by_cases ha : a = 45
    · subst ha; rw [stC_same]; simp
    · rw [stC_ne _ _ ha]
  have road := fx2_road (g := sX8_returnsOf_L10 F (fun M3 => fx3 F (sX8_returnsOf_L35 F (fun p5 p6 M7 => if ¬ w = 0 then ib p5 1024 (some (p6 - M7 45 (ix p5), M7)) else some (p6, M7))) (nI t) 0 M3)) (fun i => nI i) (fun i => stC M' 45 (fun X => if X < i then -1 else M' 45 X)) 1024 (some (if w = 0 then nI T else nI (rpR q L N O t), stC M' 45 (fun X => if X < 1024 then mkr q L N O t T X else M' 45 X))) (fun i hi rec => by
    unfold sX8_returnsOf_L10
    rw [show (1024 : Int32) = nI 1024 from rfl, if_neg (nI_ge hi (by decide)), z_ib (by omega) (by decide), z_ix (by omega), nm_eq, z_addR]
    congr 1
    funext a b
    rw [st2_at]
    by_cases ha : a = 45
    · subst ha
      rw [stC_same, stC_same]
      by_cases hb : b = i
      · subst hb; simp
      · by_cases hb2 : b < i
        · simp [hb, hb2, Nat.lt_succ_of_lt hb2]
        · have : ¬ b < i + 1 := by omega
          simp [hb, hb2, this]
    · rw [if_neg (fun z => ha z.1), stC_ne _ _ ha, stC_ne _ _ ha]) (fun rec => by
    unfold sX8_returnsOf_L10
    rw [show (1024 : Int32) = nI 1024 from rfl, if_pos (nI_le (Nat.le_refl _) (by decide))]
    refine fx3_road (g := sX8_returnsOf_L35 F _) (fun k => nI (itr q L N O t k)) (fun k => nI k) (fun k => stC M' 45 (fun X => if X < 1024 then mkr q L N O t k X else M' 45 X)) T _ (fun k hk rec => ?_) (fun rec => ?_) F 0 (Nat.zero_le _) (by omega)
    · have hx := itr_lt (q := q) (L := L) (O := O) hl k
      have hset : st2 (stC M' 45 (fun X => if X < 1024 then mkr q L N O t k X else M' 45 X)) 45 (itr q L N O t k) (nI k) = stC M' 45 (fun X => if X < 1024 then mkr q L N O t (k + 1) X else M' 45 X) := by
        funext a b
        rw [st2_at]
        by_cases ha : a = 45
        · subst ha
          rw [stC_same, stC_same]
          by_cases hb : b = itr q L N O t k
          · rw [if_pos ⟨rfl, hb⟩, if_pos (by omega), mkr, if_pos hb]
          · rw [if_neg (fun z => hb z.2), mkr, if_neg hb]
        · rw [if_neg (fun z => ha z.1), stC_ne _ _ ha, stC_ne _ _ ha]
      have hPk : PM (stC M' 45 (fun X => if X < 1024 then mkr q L N O t (k + 1) X else M' 45 X)) N q L O := h.stC (by decide) (by decide)
      unfold sX8_returnsOf_L35
      rw [z_ib (by omega) (by decide), z_ix (by omega), stC_same, if_pos (show itr q L N O t k < 1024 by omega), mkr_none k (fun i hi => rp_no (by omega) hi), if_neg (by simp), z_ib (by omega) (by decide), nm_eq, hset, hPk.2.2.1, e_next hPk (by omega) h.2.2.2 (by omega)]
      simp only [ob_some, z_addR]
      rfl
    · unfold sX8_returnsOf_L35
      rw [z_ib (by omega) (by decide), z_ix (by omega), stC_same, if_pos (show itr q L N O t T < 1024 by omega), hje, if_pos (m1_ne (by omega))]
      show (if ¬ w = 0 then ib (nI (itr q L N O t T)) 1024 (some (nI T - (stC M' 45 (fun X => if X < 1024 then mkr q L N O t T X else M' 45 X)) 45 (ix (nI (itr q L N O t T))), stC M' 45 (fun X => if X < 1024 then mkr q L N O t T X else M' 45 X))) else some (nI T, stC M' 45 (fun X => if X < 1024 then mkr q L N O t T X else M' 45 X))) = _
      rw [z_ib (by omega) (by decide), z_ix (by omega), stC_same, if_pos (show itr q L N O t T < 1024 by omega), hje, z_sub (by omega)]
      have eR : rpR q L N O t = T - j := by
        unfold rpR
        rw [hTe, hje, nI_clamp (by omega)]
      rw [eR]
      by_cases hw : w = 0
      · rw [if_neg (not_not_intro hw), if_pos hw]
      · rw [if_pos hw, if_neg hw]) F 0 (Nat.zero_le _) (by omega)
  rw [← e0] at road
  exact road
end Returns
