/-! the model's reading of all matters -/
section MReads3
variable {F n e t N : Nat} {M : Mem} {b : Nat → Nat} {f : Int32}
theorem TXm.fr {X : Mem} (h : TXm M t n b) (h1 : X 38 = M 38) (h2 : X 39 = M 39) : TXm X t n b := by
  unfold TXm at *; rw [h1, h2]; exact h
theorem neg_at : ∀ s, s < 100 → ∀ d, d < 8 → (-(-(nI s) - nI d - 1) - 1 = nI (s + d) ∧ ¬ 0 ≤ -(nI s) - nI d - 1) := by decide +kernel
theorem sn80 (hw : Wl t b n e) (hn : n ≤ 80) {i : Nat} (hi : i ≤ e) : sn t b i ≤ 80 := by
  have := sn_le (t := t) (b := b) hi
  have := hw.2.1.1
  omega
/-- on to the e-th entry -/
theorem m_road (hT : TXm M 0 n b) {p : Nat} (hw : Wl 0 b p e) (hp : p ≤ n) (J4 J8 : Int32 → Mem → Option (Int32 × Mem)) : ∀ d i X, i + d = e → (∀ a, a ≠ 40 → X a = M a) → (∀ j, j < i → Fu 0 b j (X 40)) → ∀ g, d < g → ∃ Y g', fx3 g (sX8_readsMatters_L9 F J4 J8) (nI i) (nI (sn 0 b i)) X = sX8_readsMatters_L9 F J4 J8 (fx3 g' (sX8_readsMatters_L9 F J4 J8)) (nI e) (nI (sn 0 b e)) Y ∧ (∀ a, a ≠ 40 → Y a = M a) ∧ (∀ j, j < e → Fu 0 b j (Y 40)) := by
  have hn := hT.2.1
  intro d
  induction d with
  | zero =>
    intro i X hi hX hf g hg
    obtain ⟨g, rfl⟩ : ∃ g', g = g' + 1 := ⟨g - 1, by omega⟩
    have : i = e := by omega
    subst this
    exact ⟨X, g, rfl, hX, hf⟩
  | succ d ih =>
    intro i X hi hX hf g hg
    obtain ⟨g, rfl⟩ : ∃ g', g = g' + 1 := ⟨g - 1, by omega⟩
    have e1 : sn 0 b (i + 1) = sn 0 b i + le7 0 b (sn 0 b i) + 1 := rfl
    have e2 := sn_le (t := 0) (b := b) (show i + 1 ≤ e by omega)
    have e3 := hw.2.1.1
    have e4 := hw.2.2.2.1
    have hTX : TXm X 0 n b := hT.fr (hX 38 (by decide)) (hX 39 (by decide))
    obtain ⟨Y, y1, y2, y3, y4⟩ := m_rmOk (F := F) hTX (i := i) (by omega) rfl (by omega) (hw.1 i (by omega)).1
    have hTY : TXm Y 0 n b := hTX.fr (y2 38 (by decide)) (y2 39 (by decide))
    obtain ⟨Z, g', z1, z2, z3⟩ := ih (i + 1) Y (by omega) (fun a ha => (y2 a ha).trans (hX a ha)) (fun j hj => by
      by_cases c : j = i
      · subst c; exact y4
      · have := hf j (by omega)
        unfold Fu at this ⊢
        rw [if_pos rfl] at this ⊢
        rw [y3 _ (by omega), y3 _ (by omega), y3 _ (by omega), y3 _ (by omega), y3 _ (by omega), y3 _ (by omega)]
        exact this) g (by omega)
    refine ⟨Z, g', ?_, z2, z3⟩
    rw [← z1]
    show sX8_readsMatters_L9 F J4 J8 (fx3 g (sX8_readsMatters_L9 F J4 J8)) (nI i) (nI (sn 0 b i)) X = _
    rw [sX8_readsMatters_L9]
    rw [z_ibL (by decide) (by decide), z_ixL (by decide), hTX.1]
    simp only [nm_eq]
    rw [if_pos (show nI (sn 0 b i) < nI n by rw [z_lt (by omega) (by omega)]; omega), if_pos (show ¬ nI i = 10 from fun z => by have := (nI_eq (b := 10) (by omega) (by decide)).mp z; omega), y1]
    simp only [ob_some]
    rw [if_pos (show 0 ≤ nI (le7 0 b (sn 0 b i)) from nI_le (Nat.zero_le _) (by have := (le_pos 0 b (sn 0 b i)).2; omega)), z_add, z_ibL (by decide) (by decide), hTY.1, if_pos (show ¬ nI (sn 0 b i + le7 0 b (sn 0 b i)) = nI n from fun z => by have := (nI_eq (by omega) (by omega)).mp z; omega), show (0 : Int32) = nI 0 from rfl, m_byteAt hTY (by decide) (by omega)]
    simp only [ob_some]
    rw [if_pos (show sn 0 b i + le7 0 b (sn 0 b i) < n by omega), (hw.1 i (by omega)).2, if_pos (by decide), z_addR, z_addR]
    rfl
theorem e_readsMatters (hO : Out 0 b n f N) (hT : TXm M 0 n b) (hF : 20 < F) : ∃ X, sX8_readsMatters F M = some (f, X) ∧ X 37 2 = nI N ∧ (∀ i, i < N → Fu 0 b i (X 40)) ∧ (∀ a, a ≠ 37 → a ≠ 40 → X a = M a) ∧ (∀ x, x ≠ 2 → X 37 x = M 37 x) := by
  have hn := hT.2.1
  have hT1 : TXm (st2 M 37 2 0) 0 n b := hT.fr (st2_k _ _ _ (by decide)) (st2_k _ _ _ (by decide))
  have fr1 : ∀ a, a ≠ 37 → st2 M 37 2 0 a = M a := fun a ha => st2_k _ _ _ ha
  have fr2 : ∀ x, x ≠ 2 → st2 M 37 2 0 37 x = M 37 x := fun x hx => st2_i _ _ _ hx
  unfold sX8_readsMatters
  simp only [nm_eq]
  have wrap : ∀ Y : Mem, (∀ a, a ≠ 40 → Y a = st2 M 37 2 0 a) → Y 37 2 = nI 0 ∧ (∀ i, i < 0 → Fu 0 b i (Y 40)) ∧ (∀ a, a ≠ 37 → a ≠ 40 → Y a = M a) ∧ (∀ x, x ≠ 2 → Y 37 x = M 37 x) := fun Y hY => ⟨by rw [hY 37 (by decide), st2_same]; rfl, fun i hi => by omega, fun a h1 h2 => (hY a h2).trans (fr1 a h1), fun x hx => by rw [hY 37 (by decide)]; exact fr2 x hx⟩
  rcases hO with ⟨n0, hf, hN⟩ | ⟨n0, p, e, hp, hw, hc, hf, hN⟩ | ⟨e, hw, hne, hf, hN⟩
  · subst hf hN n0
    obtain ⟨Y, g', h1, h2, h3⟩ := m_road (F := F) hT1 (W0 (t := 0) (b := b)) (Nat.le_refl _) (fun p2 M3 => some (-1, st2 M3 37 2 p2)) (fun p6 M7 => some (-p6 - 1, M7)) 0 0 _ rfl (fun _ _ => rfl) (fun j hj => by omega) F (by omega)
    refine ⟨Y, ?_, wrap Y h2⟩
    refine Eq.trans h1 ?_
    rw [sX8_readsMatters_L9]
    rw [z_ibL (by decide) (by decide), z_ixL (by decide), h2 38 (by decide), hT1.1]
    simp only [nm_eq]
    rw [show sn 0 b 0 = 0 from rfl, if_neg (by decide), if_pos (by decide)]
  · subst hf hN
    have e4 := hw.2.2.2.1
    have hs := sn80 hw (by omega) (Nat.le_refl e)
    obtain ⟨Y, g', h1, h2, h3⟩ := m_road (F := F) hT1 hw hp (fun p2 M3 => some (-1, st2 M3 37 2 p2)) (fun p6 M7 => some (-p6 - 1, M7)) e 0 _ (by omega) (fun _ _ => rfl) (fun j hj => by omega) F (by omega)
    have hTY : TXm Y 0 n b := hT1.fr (h2 38 (by decide)) (h2 39 (by decide))
    have hse := hw.2.1
    have hl := le_pos 0 b (sn 0 b e)
    have enter : ∀ (o o' : Option (Int32 × Mem)), (if nI (sn 0 b e) < nI n then o else if nI (sn 0 b e) ≤ 0 then o' else o) = o := fun o o' => by
      by_cases z : sn 0 b e < n
      · rw [if_pos (by rw [z_lt (by omega) (by omega)]; exact z)]
      · rw [if_neg (by rw [z_lt (by omega) (by omega)]; exact z), if_neg (show ¬ nI (sn 0 b e) ≤ 0 by rw [show (0 : Int32) = nI 0 from rfl, z_le (by omega) (by omega)]; omega)]
    have bad : ∀ d, p = sn 0 b e + d → d < le7 0 b (sn 0 b e) → e < 10 → (n ≤ sn 0 b e + d ∨ ok 0 b (sn 0 b e) d = false) → ∃ X, sX8_readsMatters_L9 F (fun p2 M3 => some (-1, st2 M3 37 2 p2)) (fun p6 M7 => some (-p6 - 1, M7)) (fx3 g' (sX8_readsMatters_L9 F (fun p2 M3 => some (-1, st2 M3 37 2 p2)) (fun p6 M7 => some (-p6 - 1, M7)))) (nI e) (nI (sn 0 b e)) Y = some (nI p, X) ∧ X 37 2 = nI 0 ∧ (∀ i, i < 0 → Fu 0 b i (X 40)) ∧ (∀ a, a ≠ 37 → a ≠ 40 → X a = M a) ∧ (∀ x, x ≠ 2 → X 37 x = M 37 x) := by
      intro d hpd hd he hb
      refine ⟨Y, ?_, wrap Y h2⟩
      rw [sX8_readsMatters_L9]
      rw [z_ibL (by decide) (by decide), z_ixL (by decide), hTY.1]
      simp only [nm_eq]
      rw [enter, if_pos (show ¬ nI e = 10 from fun z => by have := (nI_eq (b := 10) (by omega) (by decide)).mp z; omega), m_rmBad hTY (nI e) (by omega) hd (fun j hj => ⟨by omega, hw.2.2.1 j (by omega)⟩) hb]
      simp only [ob_some]
      obtain ⟨n1, n2⟩ := neg_at (sn 0 b e) (by omega) d (by omega)
      rw [if_neg n2, n1, hpd]
    have fin : ∃ X, sX8_readsMatters_L9 F (fun p2 M3 => some (-1, st2 M3 37 2 p2)) (fun p6 M7 => some (-p6 - 1, M7)) (fx3 g' (sX8_readsMatters_L9 F (fun p2 M3 => some (-1, st2 M3 37 2 p2)) (fun p6 M7 => some (-p6 - 1, M7)))) (nI e) (nI (sn 0 b e)) Y = some (nI p, X) ∧ X 37 2 = nI 0 ∧ (∀ i, i < 0 → Fu 0 b i (X 40)) ∧ (∀ a, a ≠ 37 → a ≠ 40 → X a = M a) ∧ (∀ x, x ≠ 2 → X 37 x = M 37 x) := by
      by_cases c10 : e = 10
      · refine ⟨Y, ?_, wrap Y h2⟩
        rw [sX8_readsMatters_L9]
        rw [z_ibL (by decide) (by decide), z_ixL (by decide), hTY.1]
        simp only [nm_eq]
        rw [enter, if_neg (show ¬ ¬ nI e = 10 by rw [c10]; decide), ← hw.2.2.2.2 c10]
      · rcases hc with ⟨hpn, hbd⟩ | ⟨hpn, hlt⟩
        · rcases hbd with ⟨hpe, hb59⟩ | ⟨hlt, hbad⟩
          · obtain ⟨Z, y1, y2, y3, y4⟩ := m_rmOk (F := F) hTY (i := e) (by omega) rfl (by omega) (fun j hj => hw.2.2.1 j (by omega))
            have hTZ : TXm Z 0 n b := hTY.fr (y2 38 (by decide)) (y2 39 (by decide))
            refine ⟨Z, ?_, wrap Z (fun a ha => (y2 a ha).trans (h2 a ha))⟩
            rw [sX8_readsMatters_L9]
            rw [z_ibL (by decide) (by decide), z_ixL (by decide), hTY.1]
            simp only [nm_eq]
            rw [enter, if_pos (show ¬ nI e = 10 from fun z => by have := (nI_eq (b := 10) (by omega) (by decide)).mp z; omega), y1]
            simp only [ob_some]
            have hc := (hT.2.2 p hpn).1
            rw [if_pos (show 0 ≤ nI (le7 0 b (sn 0 b e)) from nI_le (Nat.zero_le _) (by omega)), z_add, z_ibL (by decide) (by decide), hTZ.1, ← hpe, if_pos (show ¬ nI p = nI n from fun z => by have := (nI_eq (by omega) (by omega)).mp z; omega), show (0 : Int32) = nI 0 from rfl, m_byteAt hTZ (by decide) (by omega)]
            simp only [ob_some]
            rw [if_pos hpn, if_neg (show ¬ nI (b p) = 59 from fun z => hb59 ((nI_eq (b := 59) (by omega) (by decide)).mp z))]
          · exact bad (p - sn 0 b e) (by omega) (by omega) (by omega) (Or.inr (by
              rcases hbad with z | z
              · omega
              · exact z))
        · exact bad (p - sn 0 b e) (by omega) (by omega) (by omega) (Or.inl (by omega))
    obtain ⟨X, x1, x2⟩ := fin
    exact ⟨X, Eq.trans h1 x1, x2⟩
  · subst hf hN
    have e10 := hw.lt10 hne
    have hs := sn80 hw (by omega) (Nat.le_refl e)
    have hl := le_pos 0 b (sn 0 b e)
    obtain ⟨Y, g', h1, h2, h3⟩ := m_road (F := F) hT1 hw (Nat.le_refl _) (fun p2 M3 => some (-1, st2 M3 37 2 p2)) (fun p6 M7 => some (-p6 - 1, M7)) e 0 _ (by omega) (fun _ _ => rfl) (fun j hj => by omega) F (by omega)
    have hTY : TXm Y 0 n b := hT1.fr (h2 38 (by decide)) (h2 39 (by decide))
    obtain ⟨Z, y1, y2, y3, y4⟩ := m_rmOk (F := F) hTY (i := e) (by omega) rfl (by omega) (fun j hj => hw.2.2.1 j (by omega))
    have hTZ : TXm Z 0 n b := hTY.fr (y2 38 (by decide)) (y2 39 (by decide))
    refine ⟨st2 Z 37 2 (nI (e + 1)), ?_, st2_same _ _ _ _, fun i hi => ?_, fun a ha1 ha2 => ?_, fun x hx => ?_⟩
    · refine Eq.trans h1 ?_
      rw [sX8_readsMatters_L9]
      rw [z_ibL (by decide) (by decide), z_ixL (by decide), hTY.1]
      simp only [nm_eq]
      rw [if_pos (by rw [z_lt (by omega) (by omega)]; omega), if_pos (show ¬ nI e = 10 from fun z => by have := (nI_eq (b := 10) (by omega) (by decide)).mp z; omega), y1]
      simp only [ob_some]
      rw [if_pos (show 0 ≤ nI (le7 0 b (sn 0 b e)) from nI_le (Nat.zero_le _) (by omega)), z_add, z_ibL (by decide) (by decide), hTZ.1, ← hne, if_neg (not_not_intro rfl), z_addR]
    · rw [st2_k _ _ _ (by decide)]
      by_cases c : i = e
      · subst c; exact y4
      · have := h3 i (by omega)
        unfold Fu at this ⊢
        rw [if_pos rfl] at this ⊢
        rw [y3 _ (by omega), y3 _ (by omega), y3 _ (by omega), y3 _ (by omega), y3 _ (by omega), y3 _ (by omega)]
        exact this
    · rw [st2_k _ _ _ ha1, y2 a ha2, h2 a ha2]; exact fr1 a ha1
    · rw [st2_i _ _ _ hx, y2 37 (by decide), h2 37 (by decide)]; exact fr2 x hx
end MReads3
