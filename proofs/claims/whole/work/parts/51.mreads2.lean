/-! the model's reading of matters: a whole entry, then all of them -/
section MReads2
variable {F n e t : Nat} {M : Mem} {b : Nat → Nat}
theorem m_rmOk (h : TXm M 0 n b) {i s : Nat} (hi : i < 10) (es : sn 0 b i = s) (hn : s + le7 0 b s ≤ n) (hg : ∀ j, j < le7 0 b s → ok 0 b s j = true) : ∃ X, sX8_readsMatter F (nI i) (nI s) M = some (nI (le7 0 b s), X) ∧ (∀ a, a ≠ 40 → X a = M a) ∧ (∀ x, x < 6 * i → X 40 x = M 40 x) ∧ Fu 0 b i (X 40) := by
  have hl := le_wI (b := b) s
  have hl7 := le_mat (b := b) (t := 0) rfl s
  have hn80 := h.2.1
  have bl : ∀ j, s + j < n → b (s + j) < 256 := fun j hj => (h.2.2 _ hj).1
  unfold sX8_readsMatter
  rw [show (0 : Int32) = nI 0 from rfl, show (5 : Int32) = nI 5 from rfl, show (9 : Int32) = nI 9 from rfl]
  simp only [z_addR]
  rw [m_figureAt h (by decide) (by omega) (by decide), m_figureAt h (by decide) (by omega) (by decide), m_figureAt h (by decide) (by omega) (by decide), m_figureAt h (by decide) (by omega) (by decide), m_byteAt h (by decide) (by omega)]
  simp only [ob_some]
  rw [show nI s + nI 5 = nI (s + 5) from nI_add _ _, m_whenAt h (by omega), m_figureAt h (by decide) (by omega) (by decide)]
  simp only [ob_some, nm_eq]
  have b0 : b s < 256 := bl 0 (by omega)
  have b1 := bl 1 (by omega)
  have b2 := bl 2 (by omega)
  have b3 := bl 3 (by omega)
  have g1 : (fg (b (s + 1)) 5 && !decide (b (s + 1) = b s)) = true := hg 1 (by omega)
  rw [Bool.and_eq_true] at g1
  have f0 := fg_t (show fg (b s) 5 = true from hg 0 (by omega))
  have f1 := fg_t g1.1
  have f2 : ¬ b (s + 1) = b s := by simpa using g1.2
  have f4 : (decide (b (s + 4) = 110) || decide (b (s + 4) = 121)) = true := hg 4 (by omega)
  rw [Bool.or_eq_true, decide_eq_true_eq, decide_eq_true_eq] at f4
  have f5 : (decide (b (s + 5) = 97) || decide (b (s + 5) = 101) || decide (b (s + 5) = 121) || decide (b (s + 5) = 110) || decide (b (s + 5) = 115)) = true := hg 5 (by omega)
  simp only [Bool.or_eq_true, decide_eq_true_eq] at f5
  have two : ∀ (o : Option (Int32 × Mem)) (o' : Option (Int32 × Mem)), (if nI (b (s + 4)) = 121 then o else if nI (b (s + 4)) = 110 then o else o') = o := fun o o' => by
    rcases f4 with z | z
    · rw [z]; rfl
    · rw [z]; rfl
  have w4 := wI_le (b (s + 5))
  rw [if_pos (show s < n ∧ fg (b s) 5 = true from ⟨by omega, hg 0 (by omega)⟩), if_pos (show s + 1 < n ∧ fg (b (s + 1)) 5 = true from ⟨by omega, g1.1⟩), if_pos (show s + 2 < n ∧ fg (b (s + 2)) 9 = true from ⟨by omega, hg 2 (by omega)⟩), if_pos (show s + 3 < n ∧ fg (b (s + 3)) 9 = true from ⟨by omega, hg 3 (by omega)⟩), if_pos (show s + 4 < n by omega), if_pos (show s + 5 < n ∧ (b (s + 5) = 97 ∨ b (s + 5) = 101 ∨ b (s + 5) = 121 ∨ b (s + 5) = 110 ∨ b (s + 5) = 115) from ⟨by omega, by omega⟩)]
  rw [if_pos (m1_ne (by omega)), if_neg (m1_ne (by omega)), if_pos (show ¬ nI (b (s + 1) - 48) = nI (b s - 48) from fun z => by have := (nI_eq (by omega) (by omega)).mp z; omega), if_pos (m1_ne (by omega)), if_pos (m1_ne (by omega)), two, if_pos (wI_ne _)]
  have last : ∀ (o o' : Option (Int32 × Mem)), (if nI (wI (b (s + 5))) ≤ 1 then o else if ¬ (if s + 6 < n ∧ fg (b (s + 6)) 9 = true then nI (b (s + 6) - 48) else (-1 : Int32)) = -1 then o else o') = o := fun o o' => by
    by_cases z : wI (b (s + 5)) < 2
    · rw [if_pos (show nI (wI (b (s + 5))) ≤ 1 by rw [show (1 : Int32) = nI 1 from rfl, z_le (by omega) (by omega)]; omega)]
    · rw [if_neg z] at hl
      have b6 := bl 6 (by omega)
      rw [if_neg (show ¬ nI (wI (b (s + 5))) ≤ 1 by rw [show (1 : Int32) = nI 1 from rfl, z_le (by omega) (by omega)]; omega), if_pos (show s + 6 < n ∧ fg (b (s + 6)) 9 = true from ⟨by omega, hg 6 (by omega)⟩), if_pos (m1_ne (by omega))]
  rw [last, if_pos (show (7 : Int32) ≤ 7 by decide)]
  rw [z_mulL]
  simp only [z_addR, z_add, z_mulL]
  rw [z_ib (by omega) (by decide), z_ib (by omega) (by decide), z_ib (by omega) (by decide)]
  rw [z_ix (by omega), z_ix (by omega), z_ix (by omega)]
  have fin6 : ∀ (r v3 v5 : Int32), v3 = nI (qM b 3 i) → v5 = (if 2 ≤ qM b 4 i then nI (qM b 5 i) else -1) → ∃ X, some (r, st2 (st2 (st2 (st2 (st2 (st2 M 40 (6 * i) (nI (b s - 48))) 40 (6 * i + 1) (nI (b (s + 1) - 48))) 40 (6 * i + 2) (nI (10 * (b (s + 2) - 48) + (b (s + 3) - 48)))) 40 (6 * i + 3) v3) 40 (6 * i + 4) (nI (wI (b (s + 5))))) 40 (6 * i + 5) v5) = some (r, X) ∧ (∀ a, a ≠ 40 → X a = M a) ∧ (∀ x, x < 6 * i → X 40 x = M 40 x) ∧ Fu 0 b i (X 40) := by
    intro r v3 v5 h3 h5
    refine ⟨_, rfl, fun a ha => ?_, fun x hx => ?_, ?_⟩
    · simp only [st2_k _ _ _ ha]
    · rw [st2_i _ _ _ (by omega), st2_i _ _ _ (by omega), st2_i _ _ _ (by omega), st2_i _ _ _ (by omega), st2_i _ _ _ (by omega), st2_i _ _ _ (by omega)]
    · unfold Fu
      rw [if_pos rfl]
      subst es
      refine ⟨?_, ?_, ?_, ?_, ?_, ?_⟩
      · simp [st2_at]; rfl
      · simp [st2_at]; rfl
      · simp [st2_at]; rfl
      · simp [st2_at, h3]
      · simp [st2_at]; rfl
      · simp [st2_at, h5]
  have le1 : nI (wI (b (s + 5))) ≤ 1 ↔ wI (b (s + 5)) < 2 := by rw [show (1 : Int32) = nI 1 from rfl, nI_leI (by omega) (by omega)]; omega
  have q4 : qM b 4 i = wI (b (s + 5)) := by show wI (b (sn 0 b i + 5)) = _; rw [es]
  by_cases z5 : wI (b (s + 5)) < 2
  · have v5 : (-1 : Int32) = if 2 ≤ qM b 4 i then nI (qM b 5 i) else -1 := by rw [if_neg (by omega)]
    rcases f4 with z4 | z4
    · rw [z4, if_pos (show ¬ nI 110 = 121 by decide), z_ib (by omega) (by decide), z_ib (by omega) (by decide), z_ix (by omega), z_ix (by omega), if_pos (le1.mpr z5), z_ib (by omega) (by decide), z_ix (by omega), if_pos (le1.mpr z5), hl, if_pos z5]
      exact fin6 6 0 _ (by show _ = nI (if b (sn 0 b i + 4) = 121 then 1 else 0); rw [es, z4]; rfl) v5
    · rw [z4, if_neg (show ¬ ¬ nI 121 = 121 by decide), z_ib (by omega) (by decide), z_ib (by omega) (by decide), z_ix (by omega), z_ix (by omega), if_pos (le1.mpr z5), z_ib (by omega) (by decide), z_ix (by omega), if_pos (le1.mpr z5), hl, if_pos z5]
      exact fin6 6 1 _ (by show _ = nI (if b (sn 0 b i + 4) = 121 then 1 else 0); rw [es, z4]; rfl) v5
  · rw [if_neg z5] at hl
    have v5 : (if s + 6 < n ∧ fg (b (s + 6)) 9 = true then nI (b (s + 6) - 48) else (-1 : Int32)) = if 2 ≤ qM b 4 i then nI (qM b 5 i) else -1 := by
      rw [if_pos (show s + 6 < n ∧ fg (b (s + 6)) 9 = true from ⟨by omega, hg 6 (by omega)⟩), if_pos (show 2 ≤ qM b 4 i by omega)]
      show _ = nI (if 2 ≤ wI (b (sn 0 b i + 5)) then b (sn 0 b i + 6) - 48 else 0)
      rw [es, if_pos (by omega)]
    rcases f4 with z4 | z4
    · rw [z4, if_pos (show ¬ nI 110 = 121 by decide), z_ib (by omega) (by decide), z_ib (by omega) (by decide), z_ix (by omega), z_ix (by omega), if_neg (fun y => z5 (le1.mp y)), z_ib (by omega) (by decide), z_ix (by omega), if_neg (fun y => z5 (le1.mp y)), hl]
      exact fin6 7 0 _ (by show _ = nI (if b (sn 0 b i + 4) = 121 then 1 else 0); rw [es, z4]; rfl) v5
    · rw [z4, if_neg (show ¬ ¬ nI 121 = 121 by decide), z_ib (by omega) (by decide), z_ib (by omega) (by decide), z_ix (by omega), z_ix (by omega), if_neg (fun y => z5 (le1.mp y)), z_ib (by omega) (by decide), z_ix (by omega), if_neg (fun y => z5 (le1.mp y)), hl]
      exact fin6 7 1 _ (by show _ = nI (if b (sn 0 b i + 4) = 121 then 1 else 0); rw [es, z4]; rfl) v5
end MReads2
