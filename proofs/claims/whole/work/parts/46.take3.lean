/-! one byte more keeps the reader as it should be -/
section Take3
variable {F k n e : Nat} {M : Mem} {b : Nat → Nat}
theorem tkM_k {X : Mem} {z : Int32} {a : Nat} (h : a ≠ k) : tkM X k n z a = X a := by unfold tkM; rw [st2_k _ _ _ h, st2_k _ _ _ h]
theorem tkM_2 {X : Mem} {z : Int32} : tkM X k n z k 2 = nI (n + 1) := by unfold tkM; rw [st2_i _ _ _ (by decide), st2_same]
theorem tkM_6 {X : Mem} {z : Int32} : tkM X k n z k 6 = z := by unfold tkM; rw [st2_same]
theorem tkM_i {X : Mem} {z : Int32} {i : Nat} (h2 : i ≠ 2) (h6 : i ≠ 6) : tkM X k n z k i = X k i := by unfold tkM; rw [st2_i _ _ _ h6, st2_i _ _ _ h2]
theorem EI.stop {t : Nat} (h : EI t k M n b) {p : Nat} (hp : p < n) (hn : n < 100) (h7 : M k 7 = nI p) {c : Int32} : ∃ X, sX1_take F k c M = some X ∧ (∀ a, a ≠ k → a ≠ k + 3 → X a = M a) ∧ EI t k X (n + 1) b := by
  refine ⟨_, tk_stop h7 (by omega) h.1, fun a ha _ => tkM_k ha, tkM_2, ?_⟩
  rcases h.2 with ⟨h1, -⟩ | ⟨p', e, h1, h2, h3, h4, h5⟩
  · rw [h7] at h1; exact absurd h1 (m1_ne (by omega))
  · refine Or.inr ⟨p', e, by omega, h2, h3, ?_, tkM_6⟩
    rw [tkM_i (by decide) (by decide)]; exact h4
/-- a byte with which it cannot go on -/
theorem EI.bad {t : Nat} (hw : Wl t b n e) (hb : Bd t b n e) (hn : n < 100) (h7 : M k 7 = -1) {c : Int32} {X : Mem} (hg : sX1_goesOnWith F k c M = some (false, X)) (h2 : X k 2 = nI n) (hX : ∀ a, a ≠ k → a ≠ k + 3 → X a = M a) : ∃ X, sX1_take F k c M = some X ∧ (∀ a, a ≠ k → a ≠ k + 3 → X a = M a) ∧ EI t k X (n + 1) b := by
  refine ⟨_, tk_no h7 hg h2 (by omega), fun a ha ha2 => ?_, tkM_2, Or.inr ⟨n, e, by omega, hw, hb, ?_, tkM_6⟩⟩
  · rw [tkM_k ha, st2_k _ _ _ ha]; exact hX a ha ha2
  · rw [tkM_i (by decide) (by decide), st2_same]
theorem EI.sep {t : Nat} (ht : t ≤ 1) (hfm : roL (fm k) = fl7 t) (hw : Wl t b n e) (hn : n = sn t b e + le7 t b (sn t b e)) (hn1 : n < 100) (h2 : M k 2 = nI n) (h7 : M k 7 = -1) (h3 : M k 3 = nI e) (h4 : M k 4 = nI (fl7 t)) (hf : ∀ i, i < e → Fu t b i (M (k + 3))) (hp : Pt t b e (n - sn t b e) (M (k + 3)) (M k 5)) (hc : b n < 256) : ∃ X, sX1_take F k (nI (b n)) M = some X ∧ (∀ a, a ≠ k → a ≠ k + 3 → X a = M a) ∧ EI t k X (n + 1) b := by
  have hg := goes_sep (F := F) (M := M) (k := k) hc (by rw [hfm]; exact h4)
  have x2 : st2 (st2 M k 3 (M k 3 + 1)) k 4 0 k 2 = nI n := by rw [st2_i _ _ _ (by decide), st2_i _ _ _ (by decide)]; exact h2
  have xk : ∀ a, a ≠ k → a ≠ k + 3 → st2 (st2 M k 3 (M k 3 + 1)) k 4 0 a = M a := fun a ha _ => by rw [st2_k _ _ _ ha, st2_k _ _ _ ha]
  by_cases hb : b n = 59
  · rw [show decide (b n = 59) = true from decide_eq_true hb] at hg
    obtain ⟨w1, w2⟩ := hw.sep hn hb
    have hl := le_pos t b (sn t b (e + 1))
    refine ⟨_, tk_yes (n := n) (e := e + 1) (j := 0) h7 hg x2 (by rw [st2_i _ _ _ (by decide), st2_i _ _ _ (by decide)]; exact h7) (st2_same _ _ _ _) (by decide) (by rw [st2_i _ _ _ (by decide), st2_same, h3, z_addR]), fun a ha ha2 => by rw [tkM_k ha]; exact xk a ha ha2, tkM_2, Or.inl ⟨?_, e + 1, w1, ?_, ?_, ?_, ?_, ?_⟩⟩
    · rw [tkM_i (by decide) (by decide), st2_i _ _ _ (by decide), st2_i _ _ _ (by decide)]; exact h7
    · rw [tkM_i (by decide) (by decide), st2_i _ _ _ (by decide), st2_same, h3, z_addR]
    · rw [tkM_i (by decide) (by decide), st2_same, if_neg (by omega), w2, Nat.sub_self]; rfl
    · rw [tkM_6, if_neg (show ¬ 0 = roL (fm k) by have := roL_fm k; omega), if_neg (by omega)]
    · intro i hi
      rw [tkM_k (by omega), st2_k _ _ _ (by omega), st2_k _ _ _ (by omega)]
      by_cases c : i = e
      · subst c
        rw [hn, Nat.add_sub_cancel_left] at hp
        exact Pt.full ht hp
      · exact hf i (by omega)
    · rw [w2, Nat.sub_self]; exact Pt0 _ _ _
  · rw [show decide (b n = 59) = false from decide_eq_false hb] at hg
    exact EI.bad hw (Or.inl ⟨hn, hb⟩) hn1 h7 hg x2 xk
/-- a byte with which it goes on -/
theorem EI.go {t : Nat} (hF : 10 < F) (hfm : roL (fm k) = fl7 t) (hw : Wl t b n e) (hn : n < sn t b e + le7 t b (sn t b e)) (hn1 : n < 100) (he : e < 10) (h2 : M k 2 = nI n) (h7 : M k 7 = -1) (h3 : M k 3 = nI e) (h4 : M k 4 = nI (n - sn t b e)) (hf : ∀ i, i < e → Fu t b i (M (k + 3))) (hc : b n < 256) {w : Nat} (hfw : roI (fm k) (n - sn t b e) = nI w) (hw6 : w < 6) (hok : ok t b (sn t b e) (n - sn t b e) = true) {v v' : Int32} (hv : vlI w (M k 5) (b n) = v) (hv1 : ¬ v = -1) (hv' : (if w = 2 ∧ 0 < n - sn t b e ∧ roI (fm k) (n - sn t b e - 1) = 2 then 10 * M (k + 3) (6 * e + w) + v else v) = v') (hcw : w = 4 ∧ ¬ 2 ≤ v ↔ le7 t b (sn t b e) ≠ fl7 t ∧ n + 1 = sn t b e + le7 t b (sn t b e)) (hP : Pt t b e (n + 1 - sn t b e) (if w = 4 ∧ ¬ 2 ≤ v then upd (upd (M (k + 3)) (6 * e + w) v') (6 * e + 5) (-1) else upd (M (k + 3)) (6 * e + w) v') (if w = 0 then v else M k 5)) : ∃ X, sX1_take F k (nI (b n)) M = some X ∧ (∀ a, a ≠ k → a ≠ k + 3 → X a = M a) ∧ EI t k X (n + 1) b := by
  have hl := le_pos t b (sn t b e)
  have hle : le7 t b (sn t b e) ≤ fl7 t := by
    unfold fl7
    by_cases c : t = 0
    · rw [if_pos c]; exact hl.2
    · rw [if_neg c, le_post c]; exact Nat.le_refl _
  have hr := roL_fm k
  have w1 := hw.go hn he hok
  have hs := hw.2.1.1
  have hg := goes_yes (F := F) (M := M) (k := k) (e := e) hF hc (j := n - sn t b e) (by omega) h4 h3 he hfw hw6 hv hv1 hv'
  have fuX : ∀ (Q : Nat → Int32), (∀ x, x < 6 * e → Q x = M (k + 3) x) → ∀ i, i < e → Fu t b i Q := by
    intro Q hQ i hi
    have := hf i hi
    unfold Fu at this ⊢
    rw [hQ _ (by omega), hQ _ (by omega), hQ _ (by omega), hQ (6 * i + 3) (by omega), hQ (6 * i + 4) (by omega), hQ (6 * i + 5) (by omega)]
    exact this
  by_cases cw : w = 4 ∧ ¬ 2 ≤ v
  · obtain ⟨c1, c2⟩ := hcw.mp cw
    rw [if_pos cw] at hg hP
    have xw : w ≠ 0 := by omega
    refine ⟨_, tk_yes (n := n) (e := e) (j := roL (fm k)) h7 hg ?_ ?_ (st2_same _ _ _ _) (by omega) ?_, fun a ha ha2 => ?_, tkM_2, Or.inl ⟨?_, e, w1, ?_, ?_, ?_, fuX _ ?_, ?_⟩⟩
    · unfold gM; simp [st2_at, h2]
    · unfold gM; simp [st2_at, h7]
    · unfold gM; simp [st2_at, h3]
    · rw [tkM_k ha]; unfold gM; simp [st2_k _ _ _ ha, st2_k _ _ _ ha2]
    · rw [tkM_i (by decide) (by decide)]; unfold gM; simp [st2_at, h7]
    · rw [tkM_i (by decide) (by decide)]; unfold gM; simp [st2_at, h3]
    · rw [tkM_i (by decide) (by decide), st2_same, if_pos c2, hfm]
    · rw [tkM_6, if_pos rfl, if_pos c2]
    · intro x hx
      rw [tkM_k (by omega), st2_k _ _ _ (by omega), st2_k _ _ _ (by omega), st2_i _ _ _ (by omega)]
      unfold gM
      rw [st2_k _ _ _ (by omega), st2_k _ _ _ (by omega), st2_i _ _ _ (by omega)]
    · rw [tkM_i (by decide) (by decide), tkM_k (by omega)]
      rw [if_neg xw] at hP
      refine cast ?_ hP
      congr 1
      · funext x
        unfold gM
        simp [st2_at, upd]
      · unfold gM; simp [st2_at]
  · rw [if_neg cw] at hg hP
    have hcc : n + 1 = sn t b e + le7 t b (sn t b e) → le7 t b (sn t b e) = fl7 t := fun z => Classical.byContradiction fun y => cw (hcw.mpr ⟨y, z⟩)
    refine ⟨_, tk_yes (n := n) (e := e) (j := n - sn t b e + 1) h7 hg ?_ ?_ (st2_same _ _ _ _) (by omega) ?_, fun a ha ha2 => ?_, tkM_2, Or.inl ⟨?_, e, w1, ?_, ?_, ?_, fuX _ ?_, ?_⟩⟩
    · unfold gM; simp [st2_at, h2]
    · unfold gM; simp [st2_at, h7]
    · unfold gM; simp [st2_at, h3]
    · rw [tkM_k ha]; unfold gM; simp [st2_k _ _ _ ha, st2_k _ _ _ ha2]
    · rw [tkM_i (by decide) (by decide)]; unfold gM; simp [st2_at, h7]
    · rw [tkM_i (by decide) (by decide)]; unfold gM; simp [st2_at, h3]
    · rw [tkM_i (by decide) (by decide)]
      unfold gM
      rw [st2_same]
      by_cases z : n + 1 = sn t b e + le7 t b (sn t b e)
      · have := hcc z
        rw [if_pos z]; congr 1; omega
      · rw [if_neg z]; congr 1; omega
    · rw [tkM_6, hfm]
      by_cases z : n + 1 = sn t b e + le7 t b (sn t b e)
      · have := hcc z
        rw [if_pos z, if_pos (by omega)]
      · rw [if_neg z, if_neg (by omega)]
    · intro x hx
      rw [tkM_k (by omega)]
      unfold gM
      rw [st2_k _ _ _ (by omega), st2_k _ _ _ (by omega), st2_i _ _ _ (by omega)]
    · rw [tkM_i (by decide) (by decide), tkM_k (by omega)]
      refine cast ?_ hP
      congr 1
      · funext x
        unfold gM
        simp [st2_at, upd]
      · unfold gM; simp [st2_at]
end Take3
