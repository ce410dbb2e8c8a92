/-! one byte more, for matters and for letters -/
section Take4
variable {F k n e : Nat} {M : Mem} {b : Nat → Nat}
theorem vl_fg {c m : Nat} (h : fg c m = true) : (if fg c m = true then nI (c - 48) else (-1 : Int32)) = nI (c - 48) := if_pos h
theorem vl_to {c w : Nat} (hc : c < 256) (hw : fg w 5 = true) (hw2 : w < 256) : (nI c - 48 = nI (w - 48)) ↔ c = w := by
  have := fg_t hw
  rw [show (48 : Int32) = nI 48 from rfl]
  constructor
  · intro h
    have h2 : nI c - nI 48 + nI 48 = nI (w - 48) + nI 48 := by rw [h]
    rw [z_add, show w - 48 + 48 = w by omega] at h2
    rw [show nI c - nI 48 + nI 48 = nI c by rw [Int32.sub_add_cancel]] at h2
    exact (nI_eq (by omega) (by omega)).mp h2
  · intro h; subst h; rw [z_sub (by omega)]
theorem take_mid {t : Nat} (hF : 10 < F) (hfm : roL (fm k) = fl7 t) (hw : Wl t b n e) (hn : n < sn t b e + le7 t b (sn t b e)) (hn1 : n < 100) (h2 : M k 2 = nI n) (h7 : M k 7 = -1) (h3 : M k 3 = nI e) (h4 : M k 4 = nI (n - sn t b e)) (hf : ∀ i, i < e → Fu t b i (M (k + 3))) (hc : b n < 256) {w : Nat} (hfw : roI (fm k) (n - sn t b e) = nI w) (hw6 : w < 6) (hno : ok t b (sn t b e) (n - sn t b e) = false → vlI w (M k 5) (b n) = -1) (hyes : ok t b (sn t b e) (n - sn t b e) = true → ∃ v v', vlI w (M k 5) (b n) = v ∧ (¬ v = -1) ∧ (if w = 2 ∧ 0 < n - sn t b e ∧ roI (fm k) (n - sn t b e - 1) = 2 then 10 * M (k + 3) (6 * e + w) + v else v) = v' ∧ (w = 4 ∧ ¬ 2 ≤ v ↔ le7 t b (sn t b e) ≠ fl7 t ∧ n + 1 = sn t b e + le7 t b (sn t b e)) ∧ Pt t b e (n + 1 - sn t b e) (if w = 4 ∧ ¬ 2 ≤ v then upd (upd (M (k + 3)) (6 * e + w) v') (6 * e + 5) (-1) else upd (M (k + 3)) (6 * e + w) v') (if w = 0 then v else M k 5)) : ∃ X, sX1_take F k (nI (b n)) M = some X ∧ (∀ a, a ≠ k → a ≠ k + 3 → X a = M a) ∧ EI t k X (n + 1) b := by
  have hl := le_pos t b (sn t b e)
  have hle : le7 t b (sn t b e) ≤ fl7 t := by
    unfold fl7
    by_cases c : t = 0
    · rw [if_pos c]; exact hl.2
    · rw [if_neg c, le_post c]; exact Nat.le_refl _
  have hs := hw.2.1.1
  have h10 := hw.2.2.2.1
  by_cases c10 : e = 10
  · exact EI.bad hw (Or.inr ⟨hn, Or.inl c10⟩) hn1 h7 (goes_10 (j := n - sn t b e) (by omega) h4 (by rw [h3, c10])) h2 (fun _ _ _ => rfl)
  · cases ho : ok t b (sn t b e) (n - sn t b e) with
    | false => exact EI.bad hw (Or.inr ⟨hn, Or.inr ho⟩) hn1 h7 (goes_no hF hc (j := n - sn t b e) (by omega) h4 h3 (by omega) hfw hw6 (hno ho)) h2 (fun _ _ _ => rfl)
    | true =>
      obtain ⟨v, v', g1, g2, g3, g4, g5⟩ := hyes ho
      exact EI.go hF hfm hw hn hn1 (by omega) h2 h7 h3 h4 hf hc hfw hw6 ho g1 g2 g3 g4 g5
theorem e_takeP (hF : 10 < F) (hfm : fm k = 61) (h : EI 1 k M n b) (hn1 : n < 100) (hb : ∀ i, i ≤ n → b i < 256) : ∃ X, sX1_take F k (nI (b n)) M = some X ∧ (∀ a, a ≠ k → a ≠ k + 3 → X a = M a) ∧ EI 1 k X (n + 1) b := by
  have hr : roL (fm k) = fl7 1 := by rw [hfm]; rfl
  have hc := hb n (Nat.le_refl _)
  rcases h.2 with ⟨h7, e, hw, h3, h4, -, hf, hp⟩ | ⟨p, e, hp, -, -, h7, -⟩
  · by_cases hn : n = sn 1 b e + le7 1 b (sn 1 b e)
    · rw [if_pos hn] at h4
      exact EI.sep (by decide) hr hw hn hn1 h.1 h7 h3 h4 hf hp hc
    · rw [if_neg hn] at h4
      have hs := hw.2.1.1
      have hn' : n < sn 1 b e + le7 1 b (sn 1 b e) := by have := hw.2.1.2; omega
      have hoks := hw.2.2.1
      have el : le7 1 b (sn 1 b e) = 4 := le_post (by decide) _
      have hcw : ∀ (w : Nat) (v : Int32), w ≠ 4 → (w = 4 ∧ ¬ 2 ≤ v ↔ le7 1 b (sn 1 b e) ≠ fl7 1 ∧ n + 1 = sn 1 b e + le7 1 b (sn 1 b e)) := fun w v hw4 => ⟨fun z => absurd z.1 hw4, fun z => absurd (show le7 1 b (sn 1 b e) = fl7 1 by rw [el]; rfl) z.1⟩
      obtain ⟨p1, p2, p3, p4⟩ : PtP b e (n - sn 1 b e) (M (k + 3)) (M k 5) := hp
      rcases (show n - sn 1 b e = 0 ∨ n - sn 1 b e = 1 ∨ n - sn 1 b e = 2 ∨ n - sn 1 b e = 3 by omega) with d | d | d | d
      · have en : n = sn 1 b e := by omega
        refine take_mid hF hr hw hn' hn1 h.1 h7 h3 h4 hf hc (w := 2) (by rw [hfm, d]; rfl) (by decide) (fun ho => ?_) (fun ho => ?_)
        · rw [d] at ho
          have ho : fg (b (sn 1 b e)) 9 = false := ho
          show (if fg (b n) 9 = true then _ else _) = _
          rw [en, ho]; rfl
        · rw [d] at ho
          have ho : fg (b (sn 1 b e)) 9 = true := ho
          refine ⟨nI (b n - 48), nI (b n - 48), ?_, m1_ne (by omega), if_neg (by rw [d]; omega), hcw _ _ (by decide), ?_⟩
          · show (if fg (b n) 9 = true then _ else _) = _
            rw [en, ho]; rfl
          · rw [if_neg (show ¬ (2 = 4 ∧ ¬ 2 ≤ nI (b n - 48)) from fun z => absurd z.1 (by decide)), show n + 1 - sn 1 b e = 1 by omega]
            refine ⟨fun _ => by simp [upd, en], fun z => by omega, fun z => by omega, fun z => by omega⟩
      · have en : n = sn 1 b e + 1 := by omega
        refine take_mid hF hr hw hn' hn1 h.1 h7 h3 h4 hf hc (w := 2) (by rw [hfm, d]; rfl) (by decide) (fun ho => ?_) (fun ho => ?_)
        · rw [d] at ho
          have ho : fg (b (sn 1 b e + 1)) 9 = false := ho
          show (if fg (b n) 9 = true then _ else _) = _
          rw [en, ho]; rfl
        · rw [d] at ho
          have ho : fg (b (sn 1 b e + 1)) 9 = true := ho
          refine ⟨nI (b n - 48), nI (qP b 2 e), ?_, m1_ne (by omega), ?_, hcw _ _ (by decide), ?_⟩
          · show (if fg (b n) 9 = true then _ else _) = _
            rw [en, ho]; rfl
          · rw [if_pos ⟨rfl, by omega, by rw [hfm, d]; rfl⟩, p1 d, z_mulL, z_add, en]; rfl
          · rw [if_neg (show ¬ (2 = 4 ∧ ¬ 2 ≤ nI (b n - 48)) from fun z => absurd z.1 (by decide)), show n + 1 - sn 1 b e = 2 by omega]
            refine ⟨fun z => by omega, fun _ => by simp [upd], fun z => by omega, fun z => by omega⟩
      · have en : n = sn 1 b e + 2 := by omega
        refine take_mid hF hr hw hn' hn1 h.1 h7 h3 h4 hf hc (w := 0) (by rw [hfm, d]; rfl) (by decide) (fun ho => ?_) (fun ho => ?_)
        · rw [d] at ho
          have ho : fg (b (sn 1 b e + 2)) 5 = false := ho
          show (if fg (b n) 5 = true then _ else _) = _
          rw [en, ho]; rfl
        · rw [d] at ho
          have ho : fg (b (sn 1 b e + 2)) 5 = true := ho
          refine ⟨nI (b n - 48), nI (qP b 0 e), ?_, m1_ne (by omega), ?_, hcw _ _ (by decide), ?_⟩
          · show (if fg (b n) 5 = true then _ else _) = _
            rw [en, ho]; rfl
          · rw [if_neg (show ¬ (0 = 2 ∧ 0 < n - sn 1 b e ∧ roI (fm k) (n - sn 1 b e - 1) = 2) from fun z => absurd z.1 (by decide)), en]; rfl
          · rw [if_neg (show ¬ (0 = 4 ∧ ¬ 2 ≤ nI (b n - 48)) from fun z => absurd z.1 (by decide)), if_pos rfl, show n + 1 - sn 1 b e = 3 by omega]
            refine ⟨fun z => by omega, fun _ => by simp [upd, p2 (by omega)], fun z => ⟨by simp [upd], by rw [en]; rfl⟩, fun z => by omega⟩
      · have en : n = sn 1 b e + 3 := by omega
        have hwho := p3 (by omega)
        have o2 : fg (b (sn 1 b e + 2)) 5 = true := hoks 2 (by omega)
        have vt := vl_to (c := b n) (w := b (sn 1 b e + 2)) hc o2 (hb _ (by omega))
        have hv : vlI 1 (M k 5) (b n) = if b n = b (sn 1 b e + 2) then -1 else if fg (b n) 5 = true then nI (b n - 48) else -1 := by
          show (if nI (b n) - 48 = M k 5 then _ else _) = _
          rw [hwho.2]
          by_cases z : b n = b (sn 1 b e + 2)
          · rw [if_pos z, if_pos (show nI (b n) - 48 = nI (qP b 0 e) from vt.mpr z)]
          · rw [if_neg z, if_neg (show ¬ nI (b n) - 48 = nI (qP b 0 e) from fun y => z (vt.mp y))]
        refine take_mid hF hr hw hn' hn1 h.1 h7 h3 h4 hf hc (w := 1) (by rw [hfm, d]; rfl) (by decide) (fun ho => ?_) (fun ho => ?_)
        · rw [d] at ho
          have ho : (fg (b (sn 1 b e + 3)) 5 && !decide (b (sn 1 b e + 3) = b (sn 1 b e + 2))) = false := ho
          rw [← en] at ho
          rw [hv]
          by_cases z : b n = b (sn 1 b e + 2)
          · rw [if_pos z]
          · rw [if_neg z]
            rw [show (!decide (b n = b (sn 1 b e + 2))) = true by simp [z], Bool.and_true] at ho
            rw [ho]; rfl
        · rw [d] at ho
          have ho : (fg (b (sn 1 b e + 3)) 5 && !decide (b (sn 1 b e + 3) = b (sn 1 b e + 2))) = true := ho
          rw [← en, Bool.and_eq_true] at ho
          have z : ¬ b n = b (sn 1 b e + 2) := by simpa using ho.2
          refine ⟨nI (b n - 48), nI (qP b 1 e), ?_, m1_ne (by omega), ?_, hcw _ _ (by decide), ?_⟩
          · rw [hv, if_neg z, if_pos ho.1]
          · rw [if_neg (show ¬ (1 = 2 ∧ 0 < n - sn 1 b e ∧ roI (fm k) (n - sn 1 b e - 1) = 2) from fun z => absurd z.1 (by decide)), en]; rfl
          · rw [if_neg (show ¬ (1 = 4 ∧ ¬ 2 ≤ nI (b n - 48)) from fun z => absurd z.1 (by decide)), if_neg (by decide), show n + 1 - sn 1 b e = 4 by omega]
            refine ⟨fun z => by omega, fun _ => by simp [upd, p2 (by omega)], fun z => ⟨by simp [upd, hwho.1], hwho.2⟩, fun z => by simp [upd]⟩
  · exact EI.stop h hp hn1 h7
end Take4
