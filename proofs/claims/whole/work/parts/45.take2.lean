/-! the class's reader: where it is behind n bytes -/
section Take2
variable {F k n e : Nat} {M : Mem} {b : Nat → Nat}
theorem goes_sep {c : Nat} (hc : c < 256) (h4 : M k 4 = nI (roL (fm k))) : sX1_goesOnWith F k (nI c) M = some (decide (c = 59), st2 (st2 M k 3 (M k 3 + 1)) k 4 0) := by
  have hr := roL_fm k
  unfold sX1_goesOnWith
  rw [h4, show Int32.ofNat (roL (fm k)) = nI (roL (fm k)) from rfl, if_neg (show ¬ nI (roL (fm k)) < nI (roL (fm k)) by rw [z_lt (by omega) (by omega)]; omega)]
  simp only [nm_eq]
  by_cases h : c = 59
  · rw [if_neg (not_not_intro (by rw [h]; rfl)), h]; rfl
  · rw [if_pos (show ¬ nI c = 59 from fun z => h ((nI_eq (b := 59) (by omega) (by decide)).mp z))]
    simp [h]
theorem goes_10 {c : Int32} {j : Nat} (hj : j < roL (fm k)) (h4 : M k 4 = nI j) (h3 : M k 3 = nI 10) : sX1_goesOnWith F k c M = some (false, M) := by
  have hr := roL_fm k
  unfold sX1_goesOnWith
  rw [h4, h3, show Int32.ofNat (roL (fm k)) = nI (roL (fm k)) from rfl, if_pos (show nI j < nI (roL (fm k)) by rw [z_lt (by omega) (by omega)]; exact hj), if_neg (nI_pos (by omega)), if_neg (nI_pos (by omega)), if_neg (by decide)]
theorem goes_no (hF : 10 < F) {c j w : Nat} (hc : c < 256) (hj : j < roL (fm k)) (h4 : M k 4 = nI j) (h3 : M k 3 = nI e) (he : e < 10) (hw : roI (fm k) j = nI w) (hw6 : w < 6) (hv : vlI w (M k 5) c = -1) : sX1_goesOnWith F k (nI c) M = some (false, M) := by
  have hr := roL_fm k
  unfold sX1_goesOnWith
  rw [h4, h3, show Int32.ofNat (roL (fm k)) = nI (roL (fm k)) from rfl, if_pos (show nI j < nI (roL (fm k)) by rw [z_lt (by omega) (by omega)]; exact hj), if_neg (nI_pos (by omega)), if_neg (nI_pos (by omega)), if_pos (show nI e < 10 by rw [show (10 : Int32) = nI 10 from rfl, z_lt (by omega) (by decide)]; exact he), z_ib hj (by omega), z_ix (by omega)]
  simp only [nm_eq]
  rw [hw, valI hF hc hw6, hv]
  simp only [ob_some]
  rw [if_neg (not_not_intro trivial)]
/-- what a byte that goes on leaves behind -/
def gM (M : Mem) (k e w j : Nat) (v' u : Int32) : Mem := st2 (st2 (st2 M (k + 3) (6 * e + w) v') k 5 u) k 4 (nI (j + 1))
theorem goes_yes (hF : 10 < F) {c j w : Nat} (hc : c < 256) (hj : j < roL (fm k)) (h4 : M k 4 = nI j) (h3 : M k 3 = nI e) (he : e < 10) (hw : roI (fm k) j = nI w) (hw6 : w < 6) {v v' : Int32} (hv : vlI w (M k 5) c = v) (hv1 : ¬ v = -1) (hv' : (if w = 2 ∧ 0 < j ∧ roI (fm k) (j - 1) = 2 then 10 * M (k + 3) (6 * e + w) + v else v) = v') : sX1_goesOnWith F k (nI c) M = some (true, if w = 4 ∧ ¬ 2 ≤ v then st2 (st2 (st2 (gM M k e w j v' (if w = 0 then v else M k 5)) (k + 3) (6 * e + 5) (-1)) k 5 (M k 5)) k 4 (nI (roL (fm k))) else gM M k e w j v' (if w = 0 then v else M k 5)) := by
  have hr := roL_fm k
  unfold sX1_goesOnWith
  rw [h4, h3, show Int32.ofNat (roL (fm k)) = nI (roL (fm k)) from rfl, if_pos (show nI j < nI (roL (fm k)) by rw [z_lt (by omega) (by omega)]; exact hj), if_neg (nI_pos (by omega)), if_neg (nI_pos (by omega)), if_pos (show nI e < 10 by rw [show (10 : Int32) = nI 10 from rfl, z_lt (by omega) (by decide)]; exact he), z_ib hj (by omega), z_ix (by omega)]
  simp only [nm_eq]
  rw [hw, valI hF hc hw6, hv]
  simp only [ob_some]
  rw [if_pos hv1, keepI h3 he hw6 h4 (by omega), hv']
  simp only [ob_some]
  have e4 : st2 (st2 M (k + 3) (6 * e + w) v') k 5 (if w = 0 then v else M k 5) k 4 = nI j := by
    rw [st2_i _ _ _ (by decide), st2_k _ _ _ (by omega)]; exact h4
  rw [e4, z_addR]
  show (if ¬ nI w = 4 then some (true, gM M k e w j v' (if w = 0 then v else M k 5)) else if 2 ≤ v then some (true, gM M k e w j v' (if w = 0 then v else M k 5)) else _) = _
  have g3 : gM M k e w j v' (if w = 0 then v else M k 5) k 3 = nI e := by
    unfold gM
    rw [st2_i _ _ _ (by decide), st2_i _ _ _ (by decide), st2_k _ _ _ (by omega)]; exact h3
  have g4 : gM M k e w j v' (if w = 0 then v else M k 5) k 4 = nI (j + 1) := st2_same _ _ _ _
  by_cases c4 : w = 4
  · subst c4
    rw [if_neg (show ¬ ¬ nI 4 = 4 by decide)]
    by_cases c2 : (2 : Int32) ≤ v
    · rw [if_pos c2, if_neg (show ¬ (4 = 4 ∧ ¬ 2 ≤ v) from fun z => z.2 c2)]
    · rw [if_neg c2, if_pos (⟨rfl, c2⟩ : 4 = 4 ∧ ¬ (2 : Int32) ≤ v)]
      rw [show (5 : Int32) = nI 5 from rfl, show st2 (st2 (st2 M (k + 3) (6 * e + 4) v') k 5 (if 4 = 0 then v else M k 5)) k 4 (nI (j + 1)) = gM M k e 4 j v' (if 4 = 0 then v else M k 5) from rfl, keepI g3 he (by decide) g4 (by omega)]
      simp only [ob_some]
      have g5 : gM M k e 4 j v' (if 4 = 0 then v else M k 5) k 5 = M k 5 := by
        unfold gM
        rw [st2_i _ _ _ (by decide), st2_same, if_neg (by decide)]
      rw [if_neg (show ¬ (5 = 2 ∧ 0 < j + 1 ∧ roI (fm k) (j + 1 - 1) = 2) from fun z => absurd z.1 (by decide)), if_neg (show ¬ 5 = 0 by decide), g5]
  · rw [if_pos (show ¬ nI w = 4 from fun z => c4 ((nI_eq (b := 4) (by omega) (by decide)).mp z)), if_neg (show ¬ (w = 4 ∧ ¬ 2 ≤ v) from fun z => c4 z.1)]
/-- the last of a taking -/
def tkM (M : Mem) (k n : Nat) (z : Int32) : Mem := st2 (st2 M k 2 (nI (n + 1))) k 6 z
theorem tk_stop {c : Int32} {p : Nat} (h7 : M k 7 = nI p) (hp : p < 1000) (h2 : M k 2 = nI n) : sX1_take F k c M = some (tkM M k n 0) := by
  unfold sX1_take
  simp only [nm_eq]
  rw [h7, if_pos (m1_ne (by omega)), h2, z_addR]
  rw [if_pos (show ¬ st2 M k 2 (nI (n + 1)) k 7 = -1 by rw [st2_i _ _ _ (by decide), h7]; exact m1_ne (by omega))]
  simp only [if_true]
  rfl
theorem tk_no {c : Int32} {X : Mem} (h7 : M k 7 = -1) (hg : sX1_goesOnWith F k c M = some (false, X)) (h2 : X k 2 = nI n) (hn : n < 1000) : sX1_take F k c M = some (tkM (st2 X k 7 (nI n)) k n 0) := by
  unfold sX1_take
  simp only [nm_eq]
  rw [h7, if_neg (not_not_intro rfl), hg]
  simp only [ob_some]
  rw [if_neg (by decide), h2]
  have e2 : st2 X k 7 (nI n) k 2 = nI n := by rw [st2_i _ _ _ (by decide)]; exact h2
  rw [e2, z_addR]
  rw [if_pos (show ¬ st2 (st2 X k 7 (nI n)) k 2 (nI (n + 1)) k 7 = -1 by rw [st2_i _ _ _ (by decide), st2_same]; exact m1_ne (by omega))]
  simp only [if_true]
  rfl
theorem tk_yes {c : Int32} {X : Mem} {j : Nat} (h7 : M k 7 = -1) (hg : sX1_goesOnWith F k c M = some (true, X)) (h2 : X k 2 = nI n) (hx7 : X k 7 = -1) (h4 : X k 4 = nI j) (hj : j ≤ 7) (h3 : X k 3 = nI e) : sX1_take F k c M = some (tkM X k n (nI (if j = roL (fm k) then e + 1 else 0))) := by
  have hr := roL_fm k
  unfold sX1_take
  simp only [nm_eq]
  rw [h7, if_neg (not_not_intro rfl), hg]
  simp only [ob_some]
  rw [if_pos trivial, h2, z_addR]
  rw [if_neg (show ¬ ¬ st2 X k 2 (nI (n + 1)) k 7 = -1 by rw [st2_i _ _ _ (by decide), hx7]; exact not_not_intro rfl)]
  have e4 : st2 X k 2 (nI (n + 1)) k 4 = nI j := by rw [st2_i _ _ _ (by decide)]; exact h4
  have e3 : st2 X k 2 (nI (n + 1)) k 3 = nI e := by rw [st2_i _ _ _ (by decide)]; exact h3
  rw [e4, e3]
  by_cases cj : j = roL (fm k)
  · rw [if_neg (not_not_intro (show nI j = Int32.ofNat (roL (fm k)) by rw [cj]; rfl)), if_pos cj, if_neg (show ¬ (1 : Int32) = 0 by decide), z_addR]
    rfl
  · rw [if_pos (show ¬ nI j = Int32.ofNat (roL (fm k)) from fun z => cj ((nI_eq (by omega) (by omega)).mp z)), if_neg cj]
    simp only [if_true]
    rfl
/-! the parts, whole and half read -/
def Fu (t : Nat) (b : Nat → Nat) (i : Nat) (P : Nat → Int32) : Prop :=
  if t = 0 then P (6 * i) = nI (qM b 0 i) ∧ P (6 * i + 1) = nI (qM b 1 i) ∧ P (6 * i + 2) = nI (qM b 2 i) ∧ P (6 * i + 3) = nI (qM b 3 i) ∧ P (6 * i + 4) = nI (qM b 4 i) ∧ P (6 * i + 5) = if 2 ≤ qM b 4 i then nI (qM b 5 i) else -1
  else P (6 * i) = nI (qP b 0 i) ∧ P (6 * i + 1) = nI (qP b 1 i) ∧ P (6 * i + 2) = nI (qP b 2 i)
def PtM (b : Nat → Nat) (e d : Nat) (P : Nat → Int32) (who : Int32) : Prop :=
  (1 ≤ d → P (6 * e) = nI (qM b 0 e) ∧ who = nI (qM b 0 e)) ∧ (2 ≤ d → P (6 * e + 1) = nI (qM b 1 e)) ∧ (d = 3 → P (6 * e + 2) = nI (b (sn 0 b e + 2) - 48)) ∧ (4 ≤ d → P (6 * e + 2) = nI (qM b 2 e)) ∧ (5 ≤ d → P (6 * e + 3) = nI (qM b 3 e)) ∧ (6 ≤ d → P (6 * e + 4) = nI (qM b 4 e) ∧ (qM b 4 e < 2 → P (6 * e + 5) = -1)) ∧ (7 ≤ d → P (6 * e + 5) = nI (qM b 5 e))
def PtP (b : Nat → Nat) (e d : Nat) (P : Nat → Int32) (who : Int32) : Prop :=
  (d = 1 → P (6 * e + 2) = nI (b (sn 1 b e) - 48)) ∧ (2 ≤ d → P (6 * e + 2) = nI (qP b 2 e)) ∧ (3 ≤ d → P (6 * e) = nI (qP b 0 e) ∧ who = nI (qP b 0 e)) ∧ (4 ≤ d → P (6 * e + 1) = nI (qP b 1 e))
def Pt (t : Nat) (b : Nat → Nat) (e d : Nat) (P : Nat → Int32) (who : Int32) : Prop := if t = 0 then PtM b e d P who else PtP b e d P who
theorem Pt0 (t : Nat) (P : Nat → Int32) (who : Int32) : Pt t b e 0 P who := by
  unfold Pt PtM PtP
  split
  · refine ⟨fun h => ?_, fun h => ?_, fun h => ?_, fun h => ?_, fun h => ?_, fun h => ?_, fun h => ?_⟩ <;> omega
  · refine ⟨fun h => ?_, fun h => ?_, fun h => ?_, fun h => ?_⟩ <;> omega
theorem Pt.full {t : Nat} (ht : t ≤ 1) {P : Nat → Int32} {who : Int32} (h : Pt t b e (le7 t b (sn t b e)) P who) : Fu t b e P := by
  unfold Pt at h
  unfold Fu
  by_cases c : t = 0
  · subst c
    rw [if_pos rfl] at h ⊢
    obtain ⟨h1, h2, -, h4, h5, h6, h7⟩ := h
    have hl := le_wI (b := b) (sn 0 b e)
    by_cases cw : wI (b (sn 0 b e + 5)) < 2
    · rw [if_pos cw] at hl
      refine ⟨(h1 (by omega)).1, h2 (by omega), h4 (by omega), h5 (by omega), (h6 (by omega)).1, ?_⟩
      rw [if_neg (show ¬ 2 ≤ qM b 4 e by show ¬ 2 ≤ wI _; omega)]
      exact (h6 (by omega)).2 cw
    · rw [if_neg cw] at hl
      refine ⟨(h1 (by omega)).1, h2 (by omega), h4 (by omega), h5 (by omega), (h6 (by omega)).1, ?_⟩
      rw [if_pos (show 2 ≤ qM b 4 e by show 2 ≤ wI _; omega)]
      exact h7 (by omega)
  · rw [if_neg c] at h ⊢
    obtain ⟨-, h2, h3, h4⟩ := h
    rw [le_post c] at h2 h3 h4
    exact ⟨(h3 (by omega)).1, h4 (by omega), h2 (by omega)⟩
def fl7 (t : Nat) : Nat := if t = 0 then 7 else 4
def EI (t k : Nat) (M : Mem) (n : Nat) (b : Nat → Nat) : Prop := M k 2 = nI n ∧ ((M k 7 = -1 ∧ ∃ e, Wl t b n e ∧ M k 3 = nI e ∧ M k 4 = nI (if n = sn t b e + le7 t b (sn t b e) then fl7 t else n - sn t b e) ∧ M k 6 = nI (if n = sn t b e + le7 t b (sn t b e) then e + 1 else 0) ∧ (∀ i, i < e → Fu t b i (M (k + 3))) ∧ Pt t b e (n - sn t b e) (M (k + 3)) (M k 5)) ∨ (∃ p e, p < n ∧ Wl t b p e ∧ Bd t b p e ∧ M k 7 = nI p ∧ M k 6 = 0))
end Take2
