/-! one byte more, for matters -/
section Take5
variable {F k n e : Nat} {M : Mem} {b : Nat → Nat}
theorem wI_ne (c : Nat) : ¬ nI (wI c) = -1 := m1_ne (by have := wI_le c; omega)
theorem wI_2 (c : Nat) : (2 : Int32) ≤ nI (wI c) ↔ 2 ≤ wI c := by
  rw [show (2 : Int32) = nI 2 from rfl, nI_leI (by decide) (by have := wI_le c; omega)]
theorem e_takeM (hF : 10 < F) (hfm : fm k = 60) (h : EI 0 k M n b) (hn1 : n < 100) (hb : ∀ i, i ≤ n → b i < 256) : ∃ X, sX1_take F k (nI (b n)) M = some X ∧ (∀ a, a ≠ k → a ≠ k + 3 → X a = M a) ∧ EI 0 k X (n + 1) b := by
  have hr : roL (fm k) = fl7 0 := by rw [hfm]; rfl
  have hc := hb n (Nat.le_refl _)
  rcases h.2 with ⟨h7, e, hw, h3, h4, -, hf, hp⟩ | ⟨p, e, hp, -, -, h7, -⟩
  · by_cases hn : n = sn 0 b e + le7 0 b (sn 0 b e)
    · rw [if_pos hn] at h4
      exact EI.sep (by decide) hr hw hn hn1 h.1 h7 h3 h4 hf hp hc
    · rw [if_neg hn] at h4
      have hs := hw.2.1.1
      have hn' : n < sn 0 b e + le7 0 b (sn 0 b e) := by have := hw.2.1.2; omega
      have hoks := hw.2.2.1
      have el := le_mat (b := b) (t := 0) rfl (sn 0 b e)
      have ew := le_wI (b := b) (sn 0 b e)
      have hcw : ∀ (w : Nat) (v : Int32), w ≠ 4 → n ≠ sn 0 b e + 5 → (w = 4 ∧ ¬ 2 ≤ v ↔ le7 0 b (sn 0 b e) ≠ fl7 0 ∧ n + 1 = sn 0 b e + le7 0 b (sn 0 b e)) := fun w v hw4 hn5 => ⟨fun z => absurd z.1 hw4, fun z => by have := z.1; have z1 : le7 0 b (sn 0 b e) ≠ 7 := this; have := z.2; omega⟩
      have nw : ∀ (w : Nat) (v : Int32), w ≠ 4 → ¬ (w = 4 ∧ ¬ 2 ≤ v) := fun w v hw4 z => hw4 z.1
      have n2 : ∀ (w : Nat) (c : Prop), w ≠ 2 → ¬ (w = 2 ∧ c) := fun w c hw2 z => hw2 z.1
      obtain ⟨p1, p2, p3, p4, p5, p6, p7⟩ : PtM b e (n - sn 0 b e) (M (k + 3)) (M k 5) := hp
      rcases (show n - sn 0 b e = 0 ∨ n - sn 0 b e = 1 ∨ n - sn 0 b e = 2 ∨ n - sn 0 b e = 3 ∨ n - sn 0 b e = 4 ∨ n - sn 0 b e = 5 ∨ n - sn 0 b e = 6 by omega) with d | d | d | d | d | d | d
      · have en : n = sn 0 b e := by omega
        refine take_mid hF hr hw hn' hn1 h.1 h7 h3 h4 hf hc (w := 0) (by rw [hfm, d]; rfl) (by decide) (fun ho => ?_) (fun ho => ?_)
        · rw [d] at ho
          have ho : fg (b (sn 0 b e)) 5 = false := ho
          show (if fg (b n) 5 = true then _ else _) = _
          rw [en, ho]; rfl
        · rw [d] at ho
          have ho : fg (b (sn 0 b e)) 5 = true := ho
          refine ⟨nI (b n - 48), nI (qM b 0 e), ?_, m1_ne (by omega), ?_, hcw _ _ (by decide) (by omega), ?_⟩
          · show (if fg (b n) 5 = true then _ else _) = _
            rw [en, ho]; rfl
          · rw [if_neg (n2 _ _ (by decide)), en]; rfl
          · rw [if_neg (nw _ _ (by decide)), if_pos rfl, show n + 1 - sn 0 b e = 1 by omega]
            exact ⟨fun _ => ⟨by simp [upd], by rw [en]; rfl⟩, fun z => by omega, fun z => by omega, fun z => by omega, fun z => by omega, fun z => by omega, fun z => by omega⟩
      · have en : n = sn 0 b e + 1 := by omega
        have hwho := p1 (by omega)
        have o2 : fg (b (sn 0 b e)) 5 = true := hoks 0 (by omega)
        have vt := vl_to (c := b n) (w := b (sn 0 b e)) hc o2 (hb _ (by omega))
        have hv : vlI 1 (M k 5) (b n) = if b n = b (sn 0 b e) then -1 else if fg (b n) 5 = true then nI (b n - 48) else -1 := by
          show (if nI (b n) - 48 = M k 5 then _ else _) = _
          rw [hwho.2]
          by_cases z : b n = b (sn 0 b e)
          · rw [if_pos z, if_pos (show nI (b n) - 48 = nI (qM b 0 e) from vt.mpr z)]
          · rw [if_neg z, if_neg (show ¬ nI (b n) - 48 = nI (qM b 0 e) from fun y => z (vt.mp y))]
        refine take_mid hF hr hw hn' hn1 h.1 h7 h3 h4 hf hc (w := 1) (by rw [hfm, d]; rfl) (by decide) (fun ho => ?_) (fun ho => ?_)
        · rw [d] at ho
          have ho : (fg (b (sn 0 b e + 1)) 5 && !decide (b (sn 0 b e + 1) = b (sn 0 b e))) = false := ho
          rw [← en] at ho
          rw [hv]
          by_cases z : b n = b (sn 0 b e)
          · rw [if_pos z]
          · rw [if_neg z]
            rw [show (!decide (b n = b (sn 0 b e))) = true by simp [z], Bool.and_true] at ho
            rw [ho]; rfl
        · rw [d] at ho
          have ho : (fg (b (sn 0 b e + 1)) 5 && !decide (b (sn 0 b e + 1) = b (sn 0 b e))) = true := ho
          rw [← en, Bool.and_eq_true] at ho
          have z : ¬ b n = b (sn 0 b e) := by simpa using ho.2
          refine ⟨nI (b n - 48), nI (qM b 1 e), ?_, m1_ne (by omega), ?_, hcw _ _ (by decide) (by omega), ?_⟩
          · rw [hv, if_neg z, if_pos ho.1]
          · rw [if_neg (n2 _ _ (by decide)), en]; rfl
          · rw [if_neg (nw _ _ (by decide)), if_neg (by decide), show n + 1 - sn 0 b e = 2 by omega]
            exact ⟨fun _ => ⟨by simp [upd, hwho.1], hwho.2⟩, fun _ => by simp [upd], fun z => by omega, fun z => by omega, fun z => by omega, fun z => by omega, fun z => by omega⟩
      · have en : n = sn 0 b e + 2 := by omega
        refine take_mid hF hr hw hn' hn1 h.1 h7 h3 h4 hf hc (w := 2) (by rw [hfm, d]; rfl) (by decide) (fun ho => ?_) (fun ho => ?_)
        · rw [d] at ho
          have ho : fg (b (sn 0 b e + 2)) 9 = false := ho
          show (if fg (b n) 9 = true then _ else _) = _
          rw [en, ho]; rfl
        · rw [d] at ho
          have ho : fg (b (sn 0 b e + 2)) 9 = true := ho
          refine ⟨nI (b n - 48), nI (b n - 48), ?_, m1_ne (by omega), ?_, hcw _ _ (by decide) (by omega), ?_⟩
          · show (if fg (b n) 9 = true then _ else _) = _
            rw [en, ho]; rfl
          · exact if_neg (fun z => by have := z.2.2; rw [hfm, d] at this; exact absurd this (by decide))
          · rw [if_neg (nw _ _ (by decide)), if_neg (by decide), show n + 1 - sn 0 b e = 3 by omega]
            exact ⟨fun _ => ⟨by simp [upd, (p1 (by omega)).1], (p1 (by omega)).2⟩, fun _ => by simp [upd, p2 (by omega)], fun _ => by simp [upd, en], fun z => by omega, fun z => by omega, fun z => by omega, fun z => by omega⟩
      · have en : n = sn 0 b e + 3 := by omega
        refine take_mid hF hr hw hn' hn1 h.1 h7 h3 h4 hf hc (w := 2) (by rw [hfm, d]; rfl) (by decide) (fun ho => ?_) (fun ho => ?_)
        · rw [d] at ho
          have ho : fg (b (sn 0 b e + 3)) 9 = false := ho
          show (if fg (b n) 9 = true then _ else _) = _
          rw [en, ho]; rfl
        · rw [d] at ho
          have ho : fg (b (sn 0 b e + 3)) 9 = true := ho
          refine ⟨nI (b n - 48), nI (qM b 2 e), ?_, m1_ne (by omega), ?_, hcw _ _ (by decide) (by omega), ?_⟩
          · show (if fg (b n) 9 = true then _ else _) = _
            rw [en, ho]; rfl
          · rw [if_pos ⟨rfl, by omega, by rw [hfm, d]; rfl⟩, p3 d, z_mulL, z_add, en]; rfl
          · rw [if_neg (nw _ _ (by decide)), if_neg (by decide), show n + 1 - sn 0 b e = 4 by omega]
            exact ⟨fun _ => ⟨by simp [upd, (p1 (by omega)).1], (p1 (by omega)).2⟩, fun _ => by simp [upd, p2 (by omega)], fun z => by omega, fun _ => by simp [upd], fun z => by omega, fun z => by omega, fun z => by omega⟩
      · have en : n = sn 0 b e + 4 := by omega
        refine take_mid hF hr hw hn' hn1 h.1 h7 h3 h4 hf hc (w := 3) (by rw [hfm, d]; rfl) (by decide) (fun ho => ?_) (fun ho => ?_)
        · rw [d] at ho
          have ho : (decide (b (sn 0 b e + 4) = 110) || decide (b (sn 0 b e + 4) = 121)) = false := ho
          rw [← en, Bool.or_eq_false_iff, decide_eq_false_iff_not, decide_eq_false_iff_not] at ho
          show (if b n = 110 then _ else if b n = 121 then _ else _) = _
          rw [if_neg ho.1, if_neg ho.2]
        · rw [d] at ho
          have ho : (decide (b (sn 0 b e + 4) = 110) || decide (b (sn 0 b e + 4) = 121)) = true := ho
          rw [← en, Bool.or_eq_true, decide_eq_true_eq, decide_eq_true_eq] at ho
          refine ⟨nI (qM b 3 e), nI (qM b 3 e), ?_, m1_ne (by show (if _ then 1 else 0) < _; split <;> decide), ?_, hcw _ _ (by decide) (by omega), ?_⟩
          · show (if b n = 110 then _ else if b n = 121 then _ else _) = nI (if b (sn 0 b e + 4) = 121 then 1 else 0)
            rw [← en]
            rcases ho with z | z
            · rw [z]; rfl
            · rw [z]; rfl
          · exact if_neg (n2 _ _ (by decide))
          · rw [if_neg (nw _ _ (by decide)), if_neg (by decide), show n + 1 - sn 0 b e = 5 by omega]
            exact ⟨fun _ => ⟨by simp [upd, (p1 (by omega)).1], (p1 (by omega)).2⟩, fun _ => by simp [upd, p2 (by omega)], fun z => by omega, fun _ => by simp [upd, p4 (by omega)], fun _ => by simp [upd], fun z => by omega, fun z => by omega⟩
      · have en : n = sn 0 b e + 5 := by omega
        refine take_mid hF hr hw hn' hn1 h.1 h7 h3 h4 hf hc (w := 4) (by rw [hfm, d]; rfl) (by decide) (fun ho => ?_) (fun ho => ?_)
        · rw [d] at ho
          have ho : (decide (b (sn 0 b e + 5) = 97) || decide (b (sn 0 b e + 5) = 101) || decide (b (sn 0 b e + 5) = 121) || decide (b (sn 0 b e + 5) = 110) || decide (b (sn 0 b e + 5) = 115)) = false := ho
          rw [← en] at ho
          simp only [Bool.or_eq_false_iff, decide_eq_false_iff_not] at ho
          show (if b n = 97 ∨ b n = 101 ∨ b n = 121 ∨ b n = 110 ∨ b n = 115 then _ else _) = _
          rw [if_neg (by omega)]
        · rw [d] at ho
          have ho : (decide (b (sn 0 b e + 5) = 97) || decide (b (sn 0 b e + 5) = 101) || decide (b (sn 0 b e + 5) = 121) || decide (b (sn 0 b e + 5) = 110) || decide (b (sn 0 b e + 5) = 115)) = true := ho
          rw [← en] at ho
          simp only [Bool.or_eq_true, decide_eq_true_eq] at ho
          have q4 : qM b 4 e = wI (b n) := by rw [en]; rfl
          refine ⟨nI (wI (b n)), nI (qM b 4 e), ?_, wI_ne _, ?_, ?_, ?_⟩
          · show (if b n = 97 ∨ b n = 101 ∨ b n = 121 ∨ b n = 110 ∨ b n = 115 then _ else _) = _
            rw [if_pos (by omega)]
          · rw [if_neg (n2 _ _ (by decide)), q4]
          · rw [wI_2]
            rw [← en] at ew
            show _ ↔ _ ≠ 7 ∧ _
            by_cases z : wI (b n) < 2
            · rw [if_pos z] at ew; omega
            · rw [if_neg z] at ew; omega
          · rw [if_neg (show ¬ 4 = 0 by decide), show n + 1 - sn 0 b e = 6 by omega]
            by_cases z : wI (b n) < 2
            · rw [if_pos (show 4 = 4 ∧ ¬ 2 ≤ nI (wI (b n)) from ⟨rfl, by rw [wI_2]; omega⟩)]
              exact ⟨fun _ => ⟨by simp [upd, (p1 (by omega)).1], (p1 (by omega)).2⟩, fun _ => by simp [upd, p2 (by omega)], fun z => by omega, fun _ => by simp [upd, p4 (by omega)], fun _ => by simp [upd, p5 (by omega)], fun _ => ⟨by simp [upd], fun _ => by simp [upd]⟩, fun z => by omega⟩
            · rw [if_neg (show ¬ (4 = 4 ∧ ¬ 2 ≤ nI (wI (b n))) from fun y => y.2 (by rw [wI_2]; omega))]
              exact ⟨fun _ => ⟨by simp [upd, (p1 (by omega)).1], (p1 (by omega)).2⟩, fun _ => by simp [upd, p2 (by omega)], fun z => by omega, fun _ => by simp [upd, p4 (by omega)], fun _ => by simp [upd, p5 (by omega)], fun _ => ⟨by simp [upd], fun y => by rw [q4] at y; omega⟩, fun z => by omega⟩
      · have en : n = sn 0 b e + 6 := by omega
        have e7 : le7 0 b (sn 0 b e) = 7 := by omega
        have w2 : ¬ wI (b (sn 0 b e + 5)) < 2 := fun z => by rw [if_pos z] at ew; omega
        have q5 : qM b 5 e = b n - 48 := by
          show (if 2 ≤ wI (b (sn 0 b e + 5)) then _ else _) = _
          rw [if_pos (by omega), en]
        refine take_mid hF hr hw hn' hn1 h.1 h7 h3 h4 hf hc (w := 5) (by rw [hfm, d]; rfl) (by decide) (fun ho => ?_) (fun ho => ?_)
        · rw [d] at ho
          have ho : fg (b (sn 0 b e + 6)) 9 = false := ho
          show (if fg (b n) 9 = true then _ else _) = _
          rw [en, ho]; rfl
        · rw [d] at ho
          have ho : fg (b (sn 0 b e + 6)) 9 = true := ho
          refine ⟨nI (b n - 48), nI (qM b 5 e), ?_, m1_ne (by omega), ?_, hcw _ _ (by decide) (by omega), ?_⟩
          · show (if fg (b n) 9 = true then _ else _) = _
            rw [en, ho]; rfl
          · rw [if_neg (n2 _ _ (by decide)), q5]
          · rw [if_neg (nw _ _ (by decide)), if_neg (by decide), show n + 1 - sn 0 b e = 7 by omega]
            exact ⟨fun _ => ⟨by simp [upd, (p1 (by omega)).1], (p1 (by omega)).2⟩, fun _ => by simp [upd, p2 (by omega)], fun z => by omega, fun _ => by simp [upd, p4 (by omega)], fun _ => by simp [upd, p5 (by omega)], fun _ => ⟨by simp [upd, (p6 (by omega)).1], fun y => absurd y w2⟩, fun _ => by simp [upd]⟩
  · exact EI.stop h hp hn1 h7
end Take5
