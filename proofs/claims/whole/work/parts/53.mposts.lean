/-! the model's reading of replies and letters -/
section MPosts
variable {F n e v N : Nat} {M : Mem} {b : Nat → Nat} {f : Int32}
def FuQ (b : Nat → Nat) (i : Nat) (P : Nat → Int32) : Prop := P (3 * i) = nI (qP b 2 i) ∧ P (3 * i + 1) = nI (qP b 0 i) ∧ P (3 * i + 2) = nI (qP b 1 i)
abbrev jF (v : Nat) : Int32 → Mem → Option (Int32 × Mem) := fun p3 M4 => ib (nI v) 2 (some (-1, st2 M4 41 v p3))
abbrev jT : Int32 → Int32 → Mem → Option (Int32 × Mem) := fun p7 p8 M9 => some (p7 + p8, M9)
abbrev lP (F v : Nat) := sX8_readsPosts_L16 F (nI (v + 1)) (nI v) (jF v) jT
/-- the front of one turn -/
theorem p_front (hv : v < 2) (hT : TXm M (v + 1) n b) {i s : Nat} (hi : i ≤ 10) (hs : s ≤ 80) (hin : s < n ∨ s ≠ 0) (rec : Int32 → Int32 → Mem → Option (Int32 × Mem)) (c10 : i = 10) : lP F v rec (nI i) (nI s) M = some (nI s, M) := by
  show sX8_readsPosts_L16 F (nI (v + 1)) (nI v) (jF v) jT rec (nI i) (nI s) M = _
  rw [sX8_readsPosts_L16]
  have hn := hT.2.1
  rw [z_ib (by omega) (by decide), z_ix (by omega), hT.1]
  simp only [nm_eq]
  rw [if_neg (show ¬ ¬ nI i = 10 by rw [c10]; decide)]
  by_cases z : s < n
  · rw [if_pos (by rw [z_lt (by omega) (by omega)]; exact z)]
  · rw [if_neg (by rw [z_lt (by omega) (by omega)]; exact z), if_neg (show ¬ nI s ≤ 0 by rw [show (0 : Int32) = nI 0 from rfl, z_le (by omega) (by omega)]; omega)]
/-- an entry with a fault at the d-th sign -/
theorem p_bad (hv : v < 2) (hT : TXm M (v + 1) n b) {i s d : Nat} (hi : i < 10) (hs : s ≤ 80) (hin : s < n ∨ s ≠ 0) (rec : Int32 → Int32 → Mem → Option (Int32 × Mem)) (hd : d < 4) (hg : ∀ j, j < d → s + j < n ∧ ok 1 b s j = true) (hb : n ≤ s + d ∨ ok 1 b s d = false) : lP F v rec (nI i) (nI s) M = some (nI (s + d), M) := by
  have hn := hT.2.1
  have bl : ∀ j, j < d → b (s + j) < 256 := fun j hj => (hT.2.2 _ (hg j hj).1).1
  show sX8_readsPosts_L16 F (nI (v + 1)) (nI v) (jF v) jT rec (nI i) (nI s) M = _
  rw [sX8_readsPosts_L16]
  rw [z_ib (by omega) (by decide), z_ix (by omega), hT.1]
  simp only [nm_eq]
  have enter : ∀ (o o' : Option (Int32 × Mem)), (if nI s < nI n then o else if nI s ≤ 0 then o' else o) = o := fun o o' => by
    by_cases z : s < n
    · rw [if_pos (by rw [z_lt (by omega) (by omega)]; exact z)]
    · rw [if_neg (by rw [z_lt (by omega) (by omega)]; exact z), if_neg (show ¬ nI s ≤ 0 by rw [show (0 : Int32) = nI 0 from rfl, z_le (by omega) (by omega)]; omega)]
  rw [enter, if_pos (show ¬ nI i = 10 from fun z => by have := (nI_eq (b := 10) (by omega) (by decide)).mp z; omega)]
  rw [show (9 : Int32) = nI 9 from rfl, show (5 : Int32) = nI 5 from rfl, z_addR, z_addR, z_addR, m_figureAt hT (by omega) (by omega) (by decide), m_figureAt hT (by omega) (by omega) (by decide), m_figureAt hT (by omega) (by omega) (by decide), m_figureAt hT (by omega) (by omega) (by decide)]
  simp only [ob_some]
  rcases (show d = 0 ∨ d = 1 ∨ d = 2 ∨ d = 3 by omega) with c | c | c | c
  · subst c
    rw [if_neg (show ¬ (s < n ∧ fg (b s) 9 = true) from fun z => by
      rcases hb with y | y
      · omega
      · exact absurd z.2 (by rw [show fg (b s) 9 = false from y]; decide)), if_neg (not_not_intro rfl), if_neg (by decide)]
    show some (nI s + 0, M) = _
    rw [show (0 : Int32) = nI 0 from rfl, z_add]
  · subst c
    have b0 : b s < 256 := bl 0 (by decide)
    rw [if_pos (show s < n ∧ fg (b s) 9 = true from hg 0 (by decide)), if_pos (m1_ne (by omega))]
    rw [if_neg (show ¬ (s + 1 < n ∧ fg (b (s + 1)) 9 = true) from fun z => by
      rcases hb with y | y
      · omega
      · exact absurd z.2 (by rw [show fg (b (s + 1)) 9 = false from y]; decide)), if_neg (not_not_intro rfl), if_neg (by decide)]
    show some (nI s + 1, M) = _
    rw [z_addR]
  · subst c
    have b0 : b s < 256 := bl 0 (by decide)
    have b1 := bl 1 (by decide)
    rw [if_pos (show s < n ∧ fg (b s) 9 = true from hg 0 (by decide)), if_pos (m1_ne (by omega)), if_pos (show s + 1 < n ∧ fg (b (s + 1)) 9 = true from hg 1 (by decide)), if_pos (m1_ne (by omega))]
    rw [if_neg (show ¬ (s + 2 < n ∧ fg (b (s + 2)) 5 = true) from fun z => by
      rcases hb with y | y
      · omega
      · exact absurd z.2 (by rw [show fg (b (s + 2)) 5 = false from y]; decide)), if_neg (not_not_intro rfl), if_neg (by decide)]
    show some (nI s + 2, M) = _
    rw [z_addR]
  · subst c
    have b0 : b s < 256 := bl 0 (by decide)
    have b1 := bl 1 (by decide)
    have b2 := bl 2 (by decide)
    rw [if_pos (show s < n ∧ fg (b s) 9 = true from hg 0 (by decide)), if_pos (m1_ne (by omega)), if_pos (show s + 1 < n ∧ fg (b (s + 1)) 9 = true from hg 1 (by decide)), if_pos (m1_ne (by omega)), if_pos (show s + 2 < n ∧ fg (b (s + 2)) 5 = true from hg 2 (by decide)), if_pos (m1_ne (by omega))]
    by_cases c1 : s + 3 < n ∧ fg (b (s + 3)) 5 = true
    · have c2 : b (s + 3) = b (s + 2) := by
        rcases hb with y | y
        · omega
        · have : (fg (b (s + 3)) 5 && !decide (b (s + 3) = b (s + 2))) = false := y
          rw [c1.2] at this
          simpa using this
      rw [if_pos c1, c2, if_neg (m1_ne (by omega)), if_neg (not_not_intro rfl), if_neg (by decide)]
      show some (nI s + 3, M) = _
      rw [z_addR]
    · rw [if_neg c1, if_pos rfl, if_neg (by decide)]
      show some (nI s + 3, M) = _
      rw [z_addR]
/-- a whole entry -/
theorem p_ok (hv : v < 2) (hT : TXm M (v + 1) n b) {i s : Nat} (hi : i < 10) (es : sn 1 b i = s) (hn4 : s + 4 ≤ n) (rec : Int32 → Int32 → Mem → Option (Int32 × Mem)) (hg : ∀ j, j < 4 → ok 1 b s j = true) : ∃ X, lP F v rec (nI i) (nI s) M = (if s + 4 = n then some (-1, st2 X 41 v (nI (i + 1))) else if b (s + 4) = 59 then rec (nI (i + 1)) (nI (s + 5)) X else some (nI (s + 4), X)) ∧ (∀ a, a ≠ 42 → X a = M a) ∧ (∀ x, (x < 33 * v + 3 * i ∨ 33 * v + 3 * i + 3 ≤ x) → X 42 x = M 42 x) ∧ FuQ b i (fun x => X 42 (33 * v + x)) := by
  have hn := hT.2.1
  have bl : ∀ j, s + j < n → b (s + j) < 256 := fun j hj => (hT.2.2 _ hj).1
  have b0 : b s < 256 := bl 0 (by omega)
  have b1 := bl 1 (by omega)
  have b2 := bl 2 (by omega)
  have b3 := bl 3 (by omega)
  have g3 : (fg (b (s + 3)) 5 && !decide (b (s + 3) = b (s + 2))) = true := hg 3 (by decide)
  rw [Bool.and_eq_true] at g3
  have f2 := fg_t (show fg (b (s + 2)) 5 = true from hg 2 (by decide))
  have f3 := fg_t g3.1
  have f4 : ¬ b (s + 3) = b (s + 2) := by simpa using g3.2
  refine ⟨st2 (st2 (st2 M 42 (33 * v + 3 * i) (nI (10 * (b s - 48) + (b (s + 1) - 48)))) 42 (33 * v + 3 * i + 1) (nI (b (s + 2) - 48))) 42 (33 * v + 3 * i + 2) (nI (b (s + 3) - 48)), ?_, fun a ha => ?_, fun x hx => ?_, ?_⟩
  · show sX8_readsPosts_L16 F (nI (v + 1)) (nI v) (jF v) jT rec (nI i) (nI s) M = _
    rw [sX8_readsPosts_L16]
    rw [z_ib (by omega) (by decide), z_ix (by omega), hT.1]
    simp only [nm_eq]
    rw [if_pos (show nI s < nI n by rw [z_lt (by omega) (by omega)]; omega), if_pos (show ¬ nI i = 10 from fun z => by have := (nI_eq (b := 10) (by omega) (by decide)).mp z; omega)]
    rw [show (9 : Int32) = nI 9 from rfl, show (5 : Int32) = nI 5 from rfl, z_addR, z_addR, z_addR, m_figureAt hT (by omega) (by omega) (by decide), m_figureAt hT (by omega) (by omega) (by decide), m_figureAt hT (by omega) (by omega) (by decide), m_figureAt hT (by omega) (by omega) (by decide)]
    simp only [ob_some]
    rw [if_pos (show s < n ∧ fg (b s) 9 = true from ⟨by omega, hg 0 (by decide)⟩), if_pos (m1_ne (by omega)), if_pos (show s + 1 < n ∧ fg (b (s + 1)) 9 = true from ⟨by omega, hg 1 (by decide)⟩), if_pos (m1_ne (by omega)), if_pos (show s + 2 < n ∧ fg (b (s + 2)) 5 = true from ⟨by omega, hg 2 (by decide)⟩), if_pos (m1_ne (by omega)), if_pos (show s + 3 < n ∧ fg (b (s + 3)) 5 = true from ⟨by omega, g3.1⟩), if_neg (m1_ne (by omega)), if_pos (show ¬ nI (b (s + 3) - 48) = nI (b (s + 2) - 48) from fun z => by have := (nI_eq (by omega) (by omega)).mp z; omega), if_pos (show (4 : Int32) ≤ 4 by decide)]
    simp only [z_mulL, z_add, z_addR]
    rw [z_ib (by omega) (by decide), z_ib (by omega) (by decide), z_ib (by omega) (by decide), z_ib (by omega) (by decide), z_ix (by omega), z_ix (by omega), z_ix (by omega)]
    generalize hX : st2 (st2 (st2 M 42 (33 * v + 3 * i) (nI (10 * (b s - 48) + (b (s + 1) - 48)))) 42 (33 * v + 3 * i + 1) (nI (b (s + 2) - 48))) 42 (33 * v + 3 * i + 2) (nI (b (s + 3) - 48)) = X
    have hTX : TXm X (v + 1) n b := hT.fr (by rw [← hX]; rfl) (by rw [← hX]; rfl)
    rw [hTX.1]
    by_cases z : s + 4 = n
    · rw [if_pos z, z, if_neg (not_not_intro rfl)]
      show ib (nI v) 2 (some (-1, st2 X 41 v (nI (i + 1)))) = _
      rw [z_ib (by omega) (by decide)]
    · rw [if_neg z, if_pos (show ¬ nI (s + 4) = nI n from fun y => z ((nI_eq (by omega) (by omega)).mp y)), m_byteAt hTX (by omega) (by omega)]
      simp only [ob_some]
      have b4 := bl 4 (by omega)
      rw [if_pos (show s + 4 < n by omega)]
      by_cases z2 : b (s + 4) = 59
      · rw [if_pos z2, z2, if_pos (by decide)]
      · rw [if_neg z2, if_neg (show ¬ nI (b (s + 4)) = 59 from fun y => z2 ((nI_eq (b := 59) (by omega) (by decide)).mp y))]
  · simp only [st2_k _ _ _ ha]
  · rw [st2_i _ _ _ (by omega), st2_i _ _ _ (by omega), st2_i _ _ _ (by omega)]
  · subst es
    refine ⟨?_, ?_, ?_⟩
    · simp [st2_at]; rfl
    · show st2 _ 42 _ _ 42 (33 * v + (3 * i + 1)) = _
      rw [← Nat.add_assoc, st2_i _ _ _ (by omega), st2_same]; rfl
    · show st2 _ 42 _ _ 42 (33 * v + (3 * i + 2)) = _
      rw [← Nat.add_assoc, st2_same]; rfl
theorem FuQ.keep {i : Nat} {X Y : Mem} (h : FuQ b i (fun x => X 42 (33 * v + x))) {j : Nat} (hj : i < j) (hk : ∀ x, (x < 33 * v + 3 * j ∨ 33 * v + 3 * j + 3 ≤ x) → Y 42 x = X 42 x) : FuQ b i (fun x => Y 42 (33 * v + x)) := by
  exact ⟨(hk _ (by omega)).trans h.1, (hk _ (by omega)).trans h.2.1, (hk _ (by omega)).trans h.2.2⟩
theorem p_road (hv : v < 2) (hT : TXm M (v + 1) n b) {p : Nat} (hw : Wl 1 b p e) (hp : p ≤ n) : ∀ d i X, i + d = e → (∀ a, a ≠ 42 → X a = M a) → (∀ x, (x < 33 * v ∨ 33 * v + 33 ≤ x) → X 42 x = M 42 x) → (∀ j, j < i → FuQ b j (fun x => X 42 (33 * v + x))) → ∀ g, d < g → ∃ Y g', fx3 g (lP F v) (nI i) (nI (sn 1 b i)) X = lP F v (fx3 g' (lP F v)) (nI e) (nI (sn 1 b e)) Y ∧ (∀ a, a ≠ 42 → Y a = M a) ∧ (∀ x, (x < 33 * v ∨ 33 * v + 33 ≤ x) → Y 42 x = M 42 x) ∧ (∀ j, j < e → FuQ b j (fun x => Y 42 (33 * v + x))) := by
  have hn := hT.2.1
  intro d
  induction d with
  | zero =>
    intro i X hi hX hX2 hf g hg
    obtain ⟨g, rfl⟩ : ∃ g', g = g' + 1 := ⟨g - 1, by omega⟩
    have : i = e := by omega
    subst this
    exact ⟨X, g, rfl, hX, hX2, hf⟩
  | succ d ih =>
    intro i X hi hX hX2 hf g hg
    obtain ⟨g, rfl⟩ : ∃ g', g = g' + 1 := ⟨g - 1, by omega⟩
    have e1 : sn 1 b (i + 1) = sn 1 b i + le7 1 b (sn 1 b i) + 1 := rfl
    have el : le7 1 b (sn 1 b i) = 4 := le_post (by decide) _
    have e2 := sn_le (t := 1) (b := b) (show i + 1 ≤ e by omega)
    have e3 := hw.2.1.1
    have e4 := hw.2.2.2.1
    have hTX : TXm X (v + 1) n b := hT.fr (hX 38 (by decide)) (hX 39 (by decide))
    have hwi := hw.1 i (by omega)
    rw [el] at hwi
    obtain ⟨Y, y1, y2, y3, y4⟩ := p_ok (F := F) hv hTX (i := i) (by omega) rfl (by omega) (fx3 g (lP F v)) hwi.1
    obtain ⟨Z, g', z1, z2, z3, z4⟩ := ih (i + 1) Y (by omega) (fun a ha => (y2 a ha).trans (hX a ha)) (fun x hx => (y3 x (by omega)).trans (hX2 x hx)) (fun j hj => by
      by_cases c : j = i
      · subst c; exact y4
      · exact (hf j (by omega)).keep (show j < i by omega) y3) g (by omega)
    refine ⟨Z, g', ?_, z2, z3, z4⟩
    rw [← z1]
    show lP F v (fx3 g (lP F v)) (nI i) (nI (sn 1 b i)) X = _
    rw [y1, if_neg (by omega), if_pos hwi.2, e1, el]
theorem e_readsPosts (hv : v < 2) (hO : Out 1 b n f N) (hT : TXm M (v + 1) n b) (hF : 20 < F) : ∃ X, sX8_readsPosts F (nI (v + 1)) M = some (f, X) ∧ X 41 v = nI N ∧ (∀ i, i < N → FuQ b i (fun x => X 42 (33 * v + x))) ∧ (∀ a, a ≠ 41 → a ≠ 42 → X a = M a) ∧ (∀ x, x ≠ v → X 41 x = M 41 x) ∧ (∀ x, (x < 33 * v ∨ 33 * v + 33 ≤ x) → X 42 x = M 42 x) := by
  have hn := hT.2.1
  have hT1 : TXm (st2 M 41 v 0) (v + 1) n b := hT.fr (st2_k _ _ _ (by decide)) (st2_k _ _ _ (by decide))
  have fr1 : ∀ a, a ≠ 41 → st2 M 41 v 0 a = M a := fun a ha => st2_k _ _ _ ha
  have fr2 : ∀ x, x ≠ v → st2 M 41 v 0 41 x = M 41 x := fun x hx => st2_i _ _ _ hx
  unfold sX8_readsPosts
  simp only [nm_eq]
  rw [z_subR (show 1 ≤ v + 1 by omega), Nat.add_sub_cancel, z_ib hv (by decide), z_ix (by omega)]
  have wrap : ∀ Y : Mem, (∀ a, a ≠ 42 → Y a = st2 M 41 v 0 a) → (∀ x, (x < 33 * v ∨ 33 * v + 33 ≤ x) → Y 42 x = st2 M 41 v 0 42 x) → Y 41 v = nI 0 ∧ (∀ i, i < 0 → FuQ b i (fun x => Y 42 (33 * v + x))) ∧ (∀ a, a ≠ 41 → a ≠ 42 → Y a = M a) ∧ (∀ x, x ≠ v → Y 41 x = M 41 x) ∧ (∀ x, (x < 33 * v ∨ 33 * v + 33 ≤ x) → Y 42 x = M 42 x) := fun Y hY hY2 => ⟨by rw [hY 41 (by decide), st2_same]; rfl, fun i hi => by omega, fun a h1 h2 => (hY a h2).trans (fr1 a h1), fun x hx => by rw [hY 41 (by decide)]; exact fr2 x hx, fun x hx => by rw [hY2 x hx, fr1 42 (by decide)]⟩
  rcases hO with ⟨n0, hf, hN⟩ | ⟨n0, p, e, hp, hw, hc, hf, hN⟩ | ⟨e, hw, hne, hf, hN⟩
  · subst hf hN n0
    obtain ⟨Y, g', h1, h2, h5, h3⟩ := p_road (F := F) hv hT1 (W0 (t := 1) (b := b)) (Nat.le_refl _) 0 0 _ rfl (fun _ _ => rfl) (fun _ _ => rfl) (fun j hj => by omega) F (by omega)
    refine ⟨Y, ?_, wrap Y h2 h5⟩
    refine Eq.trans h1 ?_
    have hTY : TXm Y (v + 1) 0 b := hT1.fr (h2 38 (by decide)) (h2 39 (by decide))
    rw [show sn 1 b 0 = 0 from rfl]
    show sX8_readsPosts_L16 F (nI (v + 1)) (nI v) (jF v) jT (fx3 g' (lP F v)) (nI 0) (nI 0) Y = _
    rw [sX8_readsPosts_L16]
    rw [z_ib (by omega) (by decide), z_ix (by omega), hTY.1]
    simp only [nm_eq]
    rw [if_neg (by decide), if_pos (by decide)]
  · subst hf hN
    have e4 := hw.2.2.2.1
    have hs := sn80 hw (by omega) (Nat.le_refl e)
    obtain ⟨Y, g', h1, h2, h5, h3⟩ := p_road (F := F) hv hT1 hw hp e 0 _ (by omega) (fun _ _ => rfl) (fun _ _ => rfl) (fun j hj => by omega) F (by omega)
    have hTY : TXm Y (v + 1) n b := hT1.fr (h2 38 (by decide)) (h2 39 (by decide))
    have hse := hw.2.1
    have el : le7 1 b (sn 1 b e) = 4 := le_post (by decide) _
    have hin : sn 1 b e < n ∨ sn 1 b e ≠ 0 := by omega
    have fin : ∃ X, lP F v (fx3 g' (lP F v)) (nI e) (nI (sn 1 b e)) Y = some (nI p, X) ∧ X 41 v = nI 0 ∧ (∀ i, i < 0 → FuQ b i (fun x => X 42 (33 * v + x))) ∧ (∀ a, a ≠ 41 → a ≠ 42 → X a = M a) ∧ (∀ x, x ≠ v → X 41 x = M 41 x) ∧ (∀ x, (x < 33 * v ∨ 33 * v + 33 ≤ x) → X 42 x = M 42 x) := by
      by_cases c10 : e = 10
      · refine ⟨Y, ?_, wrap Y h2 h5⟩
        rw [p_front hv hTY (by omega) hs hin _ c10, ← hw.2.2.2.2 c10]
      · have bad : p < sn 1 b e + 4 → (n ≤ p ∨ ok 1 b (sn 1 b e) (p - sn 1 b e) = false) → lP F v (fx3 g' (lP F v)) (nI e) (nI (sn 1 b e)) Y = some (nI p, Y) := fun hlt hb => by
          have := p_bad (F := F) hv hTY (i := e) (s := sn 1 b e) (d := p - sn 1 b e) (by omega) hs hin (fx3 g' (lP F v)) (by omega) (fun j hj => ⟨by omega, hw.2.2.1 j hj⟩) (by
            rcases hb with z | z
            · exact Or.inl (by omega)
            · exact Or.inr z)
          rw [show sn 1 b e + (p - sn 1 b e) = p by omega] at this
          exact this
        rcases hc with ⟨hpn, hbd⟩ | ⟨hpn, hlt⟩
        · rcases hbd with ⟨hpe, hb59⟩ | ⟨hlt, hbad⟩
          · rw [el] at hpe
            obtain ⟨Z, y1, y2, y3, y4⟩ := p_ok (F := F) hv hTY (i := e) (by omega) rfl (by omega) (fx3 g' (lP F v)) (fun j hj => hw.2.2.1 j (by omega))
            refine ⟨Z, ?_, wrap Z (fun a ha => (y2 a ha).trans (h2 a ha)) (fun x hx => (y3 x (by omega)).trans (h5 x hx))⟩
            rw [y1, if_neg (by omega), ← hpe, if_neg hb59]
          · rw [el] at hlt
            exact ⟨Y, bad hlt (Or.inr (by
              rcases hbad with z | z
              · omega
              · exact z)), wrap Y h2 h5⟩
        · rw [el] at hlt
          exact ⟨Y, bad hlt (Or.inl (by omega)), wrap Y h2 h5⟩
    obtain ⟨X, x1, x2⟩ := fin
    exact ⟨X, Eq.trans h1 x1, x2⟩
  · subst hf hN
    have e10 := hw.lt10 hne
    have hs := sn80 hw (by omega) (Nat.le_refl e)
    have el : le7 1 b (sn 1 b e) = 4 := le_post (by decide) _
    rw [el] at hne
    obtain ⟨Y, g', h1, h2, h5, h3⟩ := p_road (F := F) hv hT1 hw (Nat.le_refl _) e 0 _ (by omega) (fun _ _ => rfl) (fun _ _ => rfl) (fun j hj => by omega) F (by omega)
    have hTY : TXm Y (v + 1) n b := hT1.fr (h2 38 (by decide)) (h2 39 (by decide))
    obtain ⟨Z, y1, y2, y3, y4⟩ := p_ok (F := F) hv hTY (i := e) (by omega) rfl (by omega) (fx3 g' (lP F v)) (fun j hj => hw.2.2.1 j (by omega))
    rw [if_pos hne.symm] at y1
    refine ⟨st2 Z 41 v (nI (e + 1)), Eq.trans h1 y1, st2_same _ _ _ _, fun i hi => ?_, fun a ha1 ha2 => ?_, fun x hx => ?_, fun x hx => ?_⟩
    · rw [st2_k _ _ _ (by decide)]
      by_cases c : i = e
      · subst c; exact y4
      · exact (h3 i (by omega)).keep (show i < e by omega) y3
    · rw [st2_k _ _ _ ha1, y2 a ha2, h2 a ha2]; exact fr1 a ha1
    · rw [st2_i _ _ _ hx, y2 41 (by decide), h2 41 (by decide)]; exact fr2 x hx
    · rw [st2_k _ _ _ (by decide), y3 x (by omega), h5 x hx, fr1 42 (by decide)]
end MPosts
