section Cannot2
variable {F N L O : Nat} {q : Nat → Nat → Nat} {M M' : Mem}
theorem cnS_fit (hfit : 0 < cn q L N O (2 ^ N)) : ∀ s, cnS q L N O s = none := by
  obtain ⟨r, h1, h2⟩ := fb_ct_pos.mp hfit
  have hb : Bk q L N r O = 0 := by simpa using h2
  have hc : ∀ s, clB q L N O s = false := fun s => by
    unfold clB
    simp only [decide_eq_false_iff_not]
    exact fun z => z r h1 (by rw [hb, Nat.zero_and])
  intro s
  induction s with
  | zero => rfl
  | succ s ih => rw [cnS, ih, cnF, hc]; rfl
theorem oI_m1 {a : Option Nat} (h : ∀ b, a = some b → b < 1024) : (oI a = -1) ↔ a = none := by
  cases a with
  | none => simp [oI]
  | some b => simp only [oI]; exact ⟨fun z => absurd z (m1_ne (by have := h b rfl; omega)), fun z => by cases z⟩
theorem e_fewestClashing (h : RowsOK M N q L O) (hF : 1024 < F) : ∃ M', sX3_fewestClashing F M = some (oI (cnS q L N O (2 ^ N)), M') ∧ RowsOK M' N q L O ∧ ∀ k, k ≠ 20 → M' k = M k := by
  have hN := h.1.2.1
  have hp := pow_le10 hN
  have hpos := pow_pos2 N
  have hc := cn_le q L N O (2 ^ N)
  unfold sX3_fewestClashing
  rw [h.1.2.2.2]
  by_cases hf : 0 < cn q L N O (2 ^ N)
  · rw [if_neg (by rw [show (0 : Int32) = nI 0 from rfl, z_le (by omega) (by decide)]; omega), cnS_fit hf]
    exact ⟨M, rfl, h, fun _ _ => rfl⟩
  · rw [if_pos (by rw [show (0 : Int32) = nI 0 from rfl, z_le (by omega) (by decide)]; omega), e_markBreakable h hF]
    simp only [ob_some]
    generalize hX : mkM N (fun X => bi (Dk q L N O N X)) M = X
    have hR : RowsOK X N q L O := by rw [← hX]; exact h.mk
    have h20 : ∀ s, s < 2 ^ N → X 20 s = bi (Dk q L N O N s) := fun s hs => by rw [← hX, mkM_20 hs]
    refine ⟨X, ?_, hR, fun k hk => by rw [← hX, mkM_k hk]⟩
    refine fx2_road (g := sX3_fewestClashing_L17 F X) (fun s => oI (cnS q L N O s)) (fun s => nI s) (2 ^ N) _ (fun s hs rec => ?_) (fun rec => ?_) F 0 (Nat.zero_le _) (by omega)
    · have hxl : (2 ^ N - 1) ^^^ ((2 ^ N - 1) &&& s) < 2 ^ N := xsub_lt (by omega)
      have hps := pc_le s
      unfold sX3_fewestClashing_L17
      rw [hR.1.2.2.1, if_neg (by rw [z_lt (by omega) (by omega)]; omega), z_not, z_ib (by omega) (by decide), z_ix (by omega), h20 _ hxl]
      simp only [nm_eq, z_addR, if_true]
      rw [cnS]
      have hcl := cl_iff (q := q) (L := L) (O := O) hs
      cases hd : Dk q L N O N ((2 ^ N - 1) ^^^ ((2 ^ N - 1) &&& s)) with
      | true =>
        rw [hd] at hcl
        rw [if_pos (by decide)]
        cases he : cnS q L N O s with
        | none => rw [cnF, hcl]; rfl
        | some b => rw [cnF, hcl]; simp
      | false =>
        rw [hd] at hcl
        rw [if_neg (by decide), if_neg (by decide)]
        cases he : cnS q L N O s with
        | none =>
          rw [if_pos (show oI none = -1 from rfl), cnF, hcl]
          rfl
        | some b =>
          have hb := cnS_lt s b he
          have hpb := pc_le b
          rw [if_neg (show ¬ oI (some b) = -1 from m1_ne (by omega))]
          show (sJ6_bitCount_0f7a4 F (nI s) X).bind (fun r10 => (sJ6_bitCount_0f7a4 F (nI b) X).bind _) = _
          rw [e_bitCount F (by omega), e_bitCount F (by omega)]
          simp only [ob_some]
          rw [cnF, hcl]
          by_cases c : pc s < pc b
          · rw [if_neg (nI_ge c (by omega)), if_pos ⟨rfl, c⟩]; rfl
          · rw [if_pos (nI_le (by omega) (by omega)), if_neg (fun z => c z.2)]
    · unfold sX3_fewestClashing_L17
      rw [hR.1.2.2.1, if_pos (by rw [z_lt (by omega) (by omega)]; omega)]
/-! the reference's cannot -/
theorem e_cannotIn {r1 : Int32 × Mem} {M2 : Mem} (hr : r1.1 = nI (2 ^ N - 1)) (hN : N ≤ 10) (hF : 1025 < F) (h44 : ∀ r, r < 2 ^ N → M2 44 r = nI (Bk q L N r O)) {s : Nat} (hs : s < 2 ^ N) {β : Option (Int32 × Mem)} (J : Int32 → Option (Int32 × Mem)) (c : Bool) (hJ : J (bi (c && clB q L N O s)) = β) : fx2 F (sX8_cannotOf_L71 F r1 M2 (nI s) J) (bi c) 0 = β := by
  have hp := pow_le10 hN
  have hpos := pow_pos2 N
  have bz : ∀ r, r < 2 ^ N → ((M2 44 r &&& nI s = 0) ↔ Bk q L N r O &&& s = 0) := fun r hr => by
    have h1 : Bk q L N r O &&& s < 2 ^ N := and_lt hs
    rw [h44 r hr, z_and, show (0 : Int32) = nI 0 from rfl]
    exact nI_eq (by omega) (by decide)
  cases c with
  | false =>
    refine fx2_road (g := sX8_cannotOf_L71 F r1 M2 (nI s) J) (fun _ => bi false) (fun i => nI i) 0 _ (fun i hi _ => absurd hi (by omega)) (fun rec => ?_) F 0 (Nat.zero_le _) (by omega)
    unfold sX8_cannotOf_L71
    rw [hr, if_neg (by rw [z_lt (by omega) (by omega)]; omega), if_pos (by decide)]
    exact hJ
  | true =>
    have stepyes : ∀ r, r < 2 ^ N → ¬ Bk q L N r O &&& s = 0 → ∀ rec, sX8_cannotOf_L71 F r1 M2 (nI s) J rec 1 (nI r) = rec 1 (nI (r + 1)) := by
      intro r hr' hne rec
      unfold sX8_cannotOf_L71
      rw [hr, if_neg (by rw [z_lt (by omega) (by omega)]; omega), if_neg (by decide), z_ib (by omega) (by decide), z_ix (by omega)]
      simp only [nm_eq, z_addR]
      rw [if_neg (fun z => hne ((bz r hr').mp z))]
    by_cases hcl : clB q L N O s = true
    · rw [hcl] at hJ
      have hall := of_decide_eq_true hcl
      refine fx2_road (g := sX8_cannotOf_L71 F r1 M2 (nI s) J) (fun _ => (1 : Int32)) (fun i => nI i) (2 ^ N) _ (fun i hi rec => stepyes i hi (hall i hi) rec) (fun rec => ?_) F 0 (Nat.zero_le _) (by omega)
      unfold sX8_cannotOf_L71
      rw [hr, if_pos (by rw [z_lt (by omega) (by omega)]; omega)]
      exact hJ
    · have hcl0 : clB q L N O s = false := by simpa using hcl
      rw [hcl0] at hJ
      have hex : ∃ r, r < 2 ^ N ∧ Bk q L N r O &&& s = 0 := by
        refine Classical.byContradiction fun hx => hcl ?_
        unfold clB
        rw [decide_eq_true_eq]
        exact fun r hr z => hx ⟨r, hr, z⟩
      obtain ⟨j, ⟨hj1, hj2⟩, hj3⟩ := pk_least (fun r => r < 2 ^ N ∧ Bk q L N r O &&& s = 0) hex
      refine fx2_road (g := sX8_cannotOf_L71 F r1 M2 (nI s) J) (fun i => if i ≤ j then (1 : Int32) else 0) (fun i => nI i) (j + 1) _ (fun i hi rec => ?_) (fun rec => ?_) F 0 (Nat.zero_le _) (by omega)
      · rw [if_pos (show i ≤ j by omega)]
        by_cases e : i = j
        · subst e
          rw [if_neg (show ¬ i + 1 ≤ i by omega)]
          unfold sX8_cannotOf_L71
          rw [hr, if_neg (by rw [z_lt (by omega) (by omega)]; omega), if_neg (by decide), z_ib (by omega) (by decide), z_ix (by omega)]
          simp only [nm_eq, z_addR]
          rw [if_pos ((bz i hj1).mpr hj2)]
        · rw [if_pos (show i + 1 ≤ j by omega)]
          exact stepyes i (by omega) (fun z => hj3 i (by omega) ⟨by omega, z⟩) rec
      · rw [if_neg (show ¬ j + 1 ≤ j by omega)]
        unfold sX8_cannotOf_L71
        rw [hr]
        by_cases e : 2 ^ N - 1 < j + 1
        · rw [if_pos (by rw [z_lt (by omega) (by omega)]; omega)]; exact hJ
        · rw [if_neg (by rw [z_lt (by omega) (by omega)]; omega), if_pos (by decide)]; exact hJ
theorem e_cannotLoop {r1 : Int32 × Mem} {M2 : Mem} (hr : r1.1 = nI (2 ^ N - 1)) (hN : N ≤ 10) (hF : 1025 < F) (h44 : ∀ r, r < 2 ^ N → M2 44 r = nI (Bk q L N r O)) {β : Option (Int32 × Mem)} (J : Int32 → Option (Int32 × Mem)) (hJ : J (oI (cnS q L N O (2 ^ N))) = β) : fx2 F (sX8_cannotOf_L38 F r1 M2 J) (-1) 0 = β := by
  have hp := pow_le10 hN
  have hpos := pow_pos2 N
  refine fx2_road (g := sX8_cannotOf_L38 F r1 M2 J) (fun s => oI (cnS q L N O s)) (fun s => nI s) (2 ^ N) _ (fun s hs rec => ?_) (fun rec => ?_) F 0 (Nat.zero_le _) (by omega)
  · have hps := pc_le s
    unfold sX8_cannotOf_L38
    rw [hr, if_neg (by rw [z_lt (by omega) (by omega)]; omega)]
    simp only [nm_eq, z_addR]
    rw [cnS]
    cases he : cnS q L N O s with
    | none =>
      rw [if_pos (show oI none = -1 from rfl)]
      refine e_cannotIn hr hN hF h44 hs _ true ?_
      rw [cnF]
      cases clB q L N O s <;> rfl
    | some b =>
      have hb := cnS_lt s b he
      have hpb := pc_le b
      rw [if_neg (show ¬ oI (some b) = -1 from m1_ne (by omega))]
      show (sX8_ones F (nI s) M2).bind (fun r22 => (sX8_ones F (nI b) M2).bind _) = _
      rw [e_ones F (by omega) _ (by omega), e_ones F (by omega) _ (by omega)]
      simp only [ob_some]
      rw [cnF]
      by_cases c : pc s < pc b
      · rw [if_neg (nI_ge c (by omega))]
        refine e_cannotIn hr hN hF h44 hs _ true ?_
        cases hcl : clB q L N O s
        · simp [bi]
        · simp [bi, c, oI]
      · rw [if_pos (nI_le (by omega) (by omega)), if_neg (fun z => c z.2)]
        refine e_cannotIn hr hN hF h44 hs _ false ?_
        rfl
  · unfold sX8_cannotOf_L38
    rw [hr, if_pos (by rw [z_lt (by omega) (by omega)]; omega)]
    exact hJ
/-- cells of the reference that are scratch -/
def scrK (k : Nat) : Bool := k == 40 || k == 41 || k == 42 || k == 44 || k == 45 || k == 46 || k == 53
theorem PM.stC {k : Nat} {g : Nat → Int32} (h : PM M N q L O) (h1 : k ≠ 37) (h2 : k ≠ 40) : PM (stC M k g) N q L O := by
  unfold PM at *
  rw [stC_ne _ _ (Ne.symm h1), stC_ne _ _ (Ne.symm h2)]
  exact h
theorem PM.st2 {k i : Nat} {v : Int32} (h : PM M N q L O) (h1 : k ≠ 37) (h2 : k ≠ 40) : PM (st2 M k i v) N q L O := PM.stC h h1 h2
theorem e_cannotOf (hth : sX8_there F M = some (nI (2 ^ N - 1), M')) (h : PM M' N q L O) (hF : 1025 < F) (w : Int32) : ∃ g, sX8_cannotOf F w M = some ((if cnS q L N O (2 ^ N) = none ∨ w = 1 then oI (cnS q L N O (2 ^ N)) else nI (pc ((cnS q L N O (2 ^ N)).getD 0))), stC M' 44 g) := by
  have hN := h.1.2.1
  have hp := pow_le10 hN
  have hpos := pow_pos2 N
  have e9 : M' 37 9 = nI O := h.2.2.1
  refine ⟨fun X => if X < 2 ^ N then nI (Bk q L N X O) else M' 44 X, ?_⟩
  unfold sX8_cannotOf
  rw [hth]
  simp only [ob_some, nm_eq]
  have e0 : M' = stC M' 44 (fun X => if X < 0 then nI (Bk q L N X O) else M' 44 X) := by
    funext a b
    by_cases ha : a = 44
    · subst ha; rw [stC_same]; simp
    · rw [stC_ne _ _ ha]
  have road := fx2_road (g := sX8_cannotOf_L7 F (nI (2 ^ N - 1), M') (fun M2 => fx2 F (sX8_cannotOf_L38 F (nI (2 ^ N - 1), M') M2 (fun p4 => if p4 = -1 then some (p4, M2) else if ¬ w = 1 then (sX8_ones F p4 M2).bind (fun r6 => some (r6, M2)) else some (p4, M2))) (-1) 0)) (fun i => nI i) (fun i => stC M' 44 (fun X => if X < i then nI (Bk q L N X O) else M' 44 X)) (2 ^ N) (some ((if cnS q L N O (2 ^ N) = none ∨ w = 1 then oI (cnS q L N O (2 ^ N)) else nI (pc ((cnS q L N O (2 ^ N)).getD 0))), stC M' 44 (fun X => if X < 2 ^ N then nI (Bk q L N X O) else M' 44 X))) (fun i hi rec => by
    have hPi : PM (stC M' 44 (fun X => if X < i then nI (Bk q L N X O) else M' 44 X)) N q L O := h.stC (by decide) (by decide)
    unfold sX8_cannotOf_L7
    rw [if_neg (by rw [z_lt (by omega) (by omega)]; omega), hPi.2.2.1, e_brokenBy hPi (by omega) h.2.2.2 (by omega)]
    simp only [ob_some]
    rw [z_ib (by omega) (by decide), z_ix (by omega), nm_eq, z_addR]
    congr 1
    funext a b
    rw [st2_at]
    by_cases ha : a = 44
    · subst ha
      rw [stC_same, stC_same]
      by_cases hb : b = i
      · subst hb; simp
      · by_cases hb2 : b < i
        · simp [hb, hb2, Nat.lt_succ_of_lt hb2]
        · have : ¬ b < i + 1 := by omega
          simp [hb, hb2, this]
    · rw [if_neg (fun z => ha z.1), stC_ne _ _ ha, stC_ne _ _ ha]) (fun rec => by
    unfold sX8_cannotOf_L7
    rw [if_pos (by rw [z_lt (by omega) (by omega)]; omega)]
    refine e_cannotLoop rfl hN hF (fun r hr => by rw [stC_same, if_pos hr]) _ ?_
    cases he : cnS q L N O (2 ^ N) with
    | none => rw [if_pos (show oI none = -1 from rfl), if_pos (Or.inl rfl)]
    | some b =>
      have hb := cnS_lt _ b he
      rw [if_neg (show ¬ oI (some b) = -1 from m1_ne (by omega))]
      by_cases hw : w = 1
      · rw [if_neg (not_not_intro hw), if_pos (Or.inr hw)]
      · rw [if_pos hw, if_neg (by simp [hw])]
        show (sX8_ones F (nI b) _).bind _ = _
        rw [e_ones F (by omega) _ (by omega)]
        rfl) F 0 (Nat.zero_le _) (by omega)
  rw [← e0] at road
  exact road
end Cannot2
