/-! the reader from the start, and what it says behind n bytes -/
section Again
variable {F k n e t : Nat} {M : Mem} {b b' : Nat → Nat}
theorem e_take (hF : 10 < F) (ht : t ≤ 1) (hfm : fm k = 60 + t) (h : EI t k M n b) (hn1 : n < 100) (hb : ∀ i, i ≤ n → b i < 256) : ∃ X, sX1_take F k (nI (b n)) M = some X ∧ (∀ a, a ≠ k → a ≠ k + 3 → X a = M a) ∧ EI t k X (n + 1) b := by
  rcases (show t = 0 ∨ t = 1 by omega) with c | c
  · subst c; exact e_takeM hF hfm h hn1 hb
  · subst c; exact e_takeP hF hfm h hn1 hb
theorem EI.start (h2 : M k 2 = 0) (h3 : M k 3 = 0) (h4 : M k 4 = 0) (h6 : M k 6 = 0) (h7 : M k 7 = -1) : EI t k M 0 b := by
  have := le_pos t b (sn t b 0)
  have e0 : sn t b 0 = 0 := rfl
  refine ⟨h2, Or.inl ⟨h7, 0, W0, h3, ?_, ?_, fun i hi => by omega, Pt0 _ _ _⟩⟩
  · rw [if_neg (by omega)]; exact h4
  · rw [if_neg (by omega)]; exact h6
theorem e_begin : ∃ X, sX1_begin F k M = some X ∧ (∀ a, a ≠ k → X a = M a) ∧ EI t k X 0 b := by
  refine ⟨_, rfl, fun a ha => ?_, EI.start ?_ ?_ ?_ ?_ ?_⟩
  · rw [st2_k _ _ _ ha, st2_k _ _ _ ha, st2_k _ _ _ ha, st2_k _ _ _ ha, st2_k _ _ _ ha]
  all_goals simp [st2_at]
theorem Fu.cong {P : Nat → Int32} {i : Nat} (ht : t ≤ 1) (h : Fu t b i P) (hs : sn t b' i = sn t b i) (hb : ∀ j, j < le7 t b (sn t b i) → b' (sn t b i + j) = b (sn t b i + j)) : Fu t b' i P := by
  have hl := le_pos t b (sn t b i)
  unfold Fu at *
  rcases (show t = 0 ∨ t = 1 by omega) with c | c
  · subst c
    have hl2 := le_wI (b := b) (sn 0 b i)
    rw [if_pos rfl] at *
    have b0 := hb 0 (by omega); have b1 := hb 1 (by omega); have b2 := hb 2 (by omega); have b3 := hb 3 (by omega)
    have hl3 : 6 ≤ le7 0 b (sn 0 b i) := by have := le_mat (b := b) (t := 0) rfl (sn 0 b i); omega
    have b4 := hb 4 (by omega); have b5 := hb 5 (by omega)
    have q0 : qM b' 0 i = qM b 0 i := by show b' _ - 48 = b _ - 48; rw [hs, show sn 0 b i = sn 0 b i + 0 from rfl, b0]
    have q1 : qM b' 1 i = qM b 1 i := by show b' _ - 48 = b _ - 48; rw [hs, b1]
    have q2 : qM b' 2 i = qM b 2 i := by show 10 * (b' _ - 48) + (b' _ - 48) = 10 * (b _ - 48) + (b _ - 48); rw [hs, b2, b3]
    have q3 : qM b' 3 i = qM b 3 i := by show (if b' _ = 121 then 1 else 0) = (if b _ = 121 then 1 else 0); rw [hs, b4]
    have q4 : qM b' 4 i = qM b 4 i := by show wI (b' _) = wI (b _); rw [hs, b5]
    rw [q0, q1, q2, q3, q4]
    refine ⟨h.1, h.2.1, h.2.2.1, h.2.2.2.1, h.2.2.2.2.1, ?_⟩
    rw [h.2.2.2.2.2]
    by_cases c2 : 2 ≤ qM b 4 i
    · rw [if_pos c2, if_pos c2]
      have c3 : 2 ≤ wI (b (sn 0 b i + 5)) := c2
      rw [if_neg (by omega)] at hl2
      have b6 := hb 6 (by omega)
      congr 1
      show (if 2 ≤ wI (b _) then b _ - 48 else 0) = (if 2 ≤ wI (b' _) then b' _ - 48 else 0)
      rw [hs, b5, b6]
    · rw [if_neg c2, if_neg c2]
  · subst c
    have hl2 : le7 1 b (sn 1 b i) = 4 := le_post (by decide) _
    rw [if_neg (by decide)] at *
    have b0 := hb 0 (by omega); have b1 := hb 1 (by omega); have b2 := hb 2 (by omega); have b3 := hb 3 (by omega)
    have q0 : qP b' 0 i = qP b 0 i := by show b' _ - 48 = b _ - 48; rw [hs, b2]
    have q1 : qP b' 1 i = qP b 1 i := by show b' _ - 48 = b _ - 48; rw [hs, b3]
    have q2 : qP b' 2 i = qP b 2 i := by show 10 * (b' _ - 48) + (b' _ - 48) = 10 * (b _ - 48) + (b _ - 48); rw [hs, b1, show sn 1 b i = sn 1 b i + 0 from rfl, b0]
    rw [q0, q1, q2]
    exact h
theorem Pt.cong {P : Nat → Int32} {who : Int32} {d : Nat} (ht : t ≤ 1) (h : Pt t b e d P who) (hd : d ≤ le7 t b (sn t b e)) (hs : sn t b' e = sn t b e) (hb : ∀ j, j < d → b' (sn t b e + j) = b (sn t b e + j)) : Pt t b' e d P who := by
  have hl := le_pos t b (sn t b e)
  unfold Pt at *
  rcases (show t = 0 ∨ t = 1 by omega) with c | c
  · subst c
    have hl2 := le_wI (b := b) (sn 0 b e)
    rw [if_pos rfl] at *
    obtain ⟨p1, p2, p3, p4, p5, p6, p7⟩ := h
    have q0 : 1 ≤ d → qM b' 0 e = qM b 0 e := fun z => by show b' _ - 48 = b _ - 48; rw [hs, show sn 0 b e = sn 0 b e + 0 from rfl, hb 0 (by omega)]
    have q1 : 2 ≤ d → qM b' 1 e = qM b 1 e := fun z => by show b' _ - 48 = b _ - 48; rw [hs, hb 1 (by omega)]
    have q2 : 4 ≤ d → qM b' 2 e = qM b 2 e := fun z => by show 10 * (b' _ - 48) + (b' _ - 48) = 10 * (b _ - 48) + (b _ - 48); rw [hs, hb 2 (by omega), hb 3 (by omega)]
    have q3 : 5 ≤ d → qM b' 3 e = qM b 3 e := fun z => by show (if b' _ = 121 then 1 else 0) = (if b _ = 121 then 1 else 0); rw [hs, hb 4 (by omega)]
    have q4 : 6 ≤ d → qM b' 4 e = qM b 4 e := fun z => by show wI (b' _) = wI (b _); rw [hs, hb 5 (by omega)]
    have q5 : 7 ≤ d → qM b' 5 e = qM b 5 e := fun z => by
      show (if 2 ≤ wI (b' _) then b' _ - 48 else 0) = (if 2 ≤ wI (b _) then b _ - 48 else 0)
      rw [hs, hb 5 (by omega), hb 6 (by omega)]
    exact ⟨fun z => by rw [q0 z]; exact p1 z, fun z => by rw [q1 z]; exact p2 z, fun z => by rw [hs, hb 2 (by omega)]; exact p3 z, fun z => by rw [q2 z]; exact p4 z, fun z => by rw [q3 z]; exact p5 z, fun z => by rw [q4 z]; exact p6 z, fun z => by rw [q5 z]; exact p7 z⟩
  · subst c
    rw [if_neg (by decide)] at *
    obtain ⟨p1, p2, p3, p4⟩ := h
    have q0 : 3 ≤ d → qP b' 0 e = qP b 0 e := fun z => by show b' _ - 48 = b _ - 48; rw [hs, hb 2 (by omega)]
    have q1 : 4 ≤ d → qP b' 1 e = qP b 1 e := fun z => by show b' _ - 48 = b _ - 48; rw [hs, hb 3 (by omega)]
    have q2 : 2 ≤ d → qP b' 2 e = qP b 2 e := fun z => by show 10 * (b' _ - 48) + (b' _ - 48) = 10 * (b _ - 48) + (b _ - 48); rw [hs, hb 1 (by omega), show sn 1 b e = sn 1 b e + 0 from rfl, hb 0 (by omega)]
    exact ⟨fun z => by rw [hs, show sn 1 b e = sn 1 b e + 0 from rfl, hb 0 (by omega)]; exact p1 z, fun z => by rw [q2 z]; exact p2 z, fun z => by rw [q0 z]; exact p3 z, fun z => by rw [q1 z]; exact p4 z⟩
theorem EI.cong (ht : t ≤ 1) (h : EI t k M n b) (hb : ∀ i, i < n → b i = b' i) : EI t k M n b' := by
  refine ⟨h.1, ?_⟩
  rcases h.2 with ⟨h7, e, hw, h3, h4, h6, hf, hp⟩ | ⟨p, e, hp, hw, hbd, h7, h6⟩
  · obtain ⟨w1, w2, w3, w4⟩ := hw.cong (Nat.le_refl _) hb
    have hs := w2 e (Nat.le_refl _)
    refine Or.inl ⟨h7, e, w1, h3, ?_, ?_, fun i hi => ?_, ?_⟩
    · rw [h4, hs]
      congr 1
      by_cases z : n = sn t b e + le7 t b (sn t b e)
      · rw [if_pos z, if_pos (w4.mp z)]
      · rw [if_neg z, if_neg (fun y => z (w4.mpr y))]
    · rw [h6, hs]
      congr 1
      by_cases z : n = sn t b e + le7 t b (sn t b e)
      · rw [if_pos z, if_pos (w4.mp z)]
      · rw [if_neg z, if_neg (fun y => z (w4.mpr y))]
    · have e1 : sn t b (i + 1) = sn t b i + le7 t b (sn t b i) + 1 := rfl
      have e2 := sn_le (t := t) (b := b) (show i + 1 ≤ e by omega)
      have e3 := hw.2.1.1
      exact (hf i hi).cong ht (w2 i (by omega)) (fun j hj => (hb _ (by omega)).symm)
    · rw [hs]
      have e3 := hw.2.1
      exact hp.cong ht (by omega) hs (fun j hj => (hb _ (by omega)).symm)
  · exact Or.inr ⟨p, e, hp, (hw.cong (Nat.le_of_lt hp) hb).1, hbd.cong hw hp hb, h7, h6⟩
/-- the whole text read again -/
theorem e_readAgain (hF : 100 < F) (ht : t ≤ 1) (hfm : fm k = 60 + t) {k1 : Nat} (hk : k1 ≠ k ∧ k1 ≠ k + 3 ∧ k1 + 3 ≠ k ∧ k1 + 3 ≠ k + 3) (hn : n < 100) (hln : n ≤ ln (k1 + 3) ∧ ln (k1 + 3) < 1000) (h1 : M k1 1 = nI n) (hby : ∀ i, i < n → b i < 256 ∧ M (k1 + 3) i = (nI (b i)).toInt8.toInt32) : ∃ X, sX1_readAgain F k k1 M = some X ∧ (∀ a, a ≠ k → a ≠ k + 3 → X a = M a) ∧ EI t k X n b := by
  obtain ⟨X0, a1, a2, a3⟩ := e_begin (F := F) (k := k) (M := M) (t := t) (b := fun i => if i < n then b i else 0)
  unfold sX1_readAgain
  rw [a1]
  simp only [ob_some]
  have h255 : ∀ c, c < 256 → (nI c).toInt8.toInt32 &&& 255 = nI c := by decide +kernel
  have key : ∀ d j X, j + d = n → (∀ a, a ≠ k → a ≠ k + 3 → X a = M a) → EI t k X j (fun i => if i < n then b i else 0) → ∀ f, d < f → ∃ Y, fx2 f (sX1_readAgain_L6 F k k1) (nI j) X = some Y ∧ (∀ a, a ≠ k → a ≠ k + 3 → Y a = M a) ∧ EI t k Y n (fun i => if i < n then b i else 0) := by
    intro d
    induction d with
    | zero =>
      intro j X hj hX hE f hf
      obtain ⟨f, rfl⟩ : ∃ f', f = f' + 1 := ⟨f - 1, by omega⟩
      have : j = n := by omega
      subst this
      refine ⟨X, ?_, hX, hE⟩
      show sX1_readAgain_L6 F k k1 (fx2 f (sX1_readAgain_L6 F k k1)) (nI j) X = some X
      unfold sX1_readAgain_L6 sX6_length
      simp only [ob_some]
      rw [hX k1 hk.1 hk.2.1, h1, if_pos (nI_le (Nat.le_refl _) (by omega))]
    | succ d ih =>
      intro j X hj hX hE f hf
      obtain ⟨f, rfl⟩ : ∃ f', f = f' + 1 := ⟨f - 1, by omega⟩
      obtain ⟨Y, y1, y2, y3⟩ := e_take (F := F) (by omega) ht hfm hE (by omega) (fun i hi => by
        show (if i < n then b i else 0) < 256
        rw [if_pos (by omega)]; exact (hby i (by omega)).1)
      obtain ⟨Z, z1, z2, z3⟩ := ih (j + 1) Y (by omega) (fun a h1 h2 => (y2 a h1 h2).trans (hX a h1 h2)) y3 f (by omega)
      refine ⟨Z, ?_, z2, z3⟩
      show sX1_readAgain_L6 F k k1 (fx2 f (sX1_readAgain_L6 F k k1)) (nI j) X = some Z
      unfold sX1_readAgain_L6 sX6_length sX6_at
      simp only [ob_some]
      rw [hX k1 hk.1 hk.2.1, h1, if_neg (nI_ge (by omega) (by omega)), if_neg (nI_pos (by omega)), if_neg (nI_ge (by omega) (by omega)), show Int32.ofNat (ln (k1 + 3)) = nI (ln (k1 + 3)) from rfl, if_neg (nI_ge (by omega) (by omega)), z_ib (by omega) (by omega), z_ix (by omega), hX (k1 + 3) hk.2.2.1 hk.2.2.2, (hby j (by omega)).2, h255 _ (hby j (by omega)).1]
      simp only [ob_some]
      rw [show b j = (fun i => if i < n then b i else 0) j from (if_pos (show j < n by omega)).symm, y1]
      simp only [ob_some]
      rw [z_addR]
      exact z1
  obtain ⟨Y, y1, y2, y3⟩ := key n 0 X0 (by omega) (fun a h1 _ => a2 a h1) a3 F (by omega)
  exact ⟨Y, y1, y2, y3.cong ht (fun i hi => if_pos hi)⟩
/-! what the reader says -/
/-- the fault and the number of entries of a text -/
def Out (t : Nat) (b : Nat → Nat) (n : Nat) (f : Int32) (N : Nat) : Prop :=
  (n = 0 ∧ f = -1 ∧ N = 0) ∨ (n ≠ 0 ∧ ∃ p e, p ≤ n ∧ Wl t b p e ∧ ((p < n ∧ Bd t b p e) ∨ (p = n ∧ p < sn t b e + le7 t b (sn t b e))) ∧ f = nI p ∧ N = 0) ∨ (∃ e, Wl t b n e ∧ n = sn t b e + le7 t b (sn t b e) ∧ f = -1 ∧ N = e + 1)
theorem EI.out (ht : t ≤ 1) (hfm : fm k = 60 + t) (hn : n < 100) (h : EI t k M n b) : ∃ f N, Out t b n f N ∧ sX1_faultPlace F k M = some f ∧ M k 6 = nI N ∧ N ≤ 10 ∧ ∀ i, i < N → Fu t b i (M (k + 3)) ∧ ∀ j, j < le7 t b (sn t b i) → ok t b (sn t b i) j = true := by
  have hfl : Int32.ofNat (roL (fm k)) = nI (fl7 t) := by
    rw [hfm]
    rcases (show t = 0 ∨ t = 1 by omega) with c | c
    · subst c; rfl
    · subst c; rfl
  have hfl2 : fl7 t ≤ 7 := by unfold fl7; split <;> decide
  unfold sX1_faultPlace
  rcases h.2 with ⟨h7, e, hw, h3, h4, h6, hf, hp⟩ | ⟨p, e, hp, hw, hbd, h7, h6⟩
  · rw [h7, if_pos rfl, h.1, h4, hfl]
    have hl := le_pos t b (sn t b e)
    have hle : le7 t b (sn t b e) ≤ fl7 t := by
      unfold fl7
      by_cases c : t = 0
      · rw [if_pos c]; exact hl.2
      · rw [if_neg c, le_post c]; exact Nat.le_refl _
    have hr := hw.2.1
    by_cases z : n = sn t b e + le7 t b (sn t b e)
    · refine ⟨-1, e + 1, Or.inr (Or.inr ⟨e, hw, z, rfl, rfl⟩), ?_, by rw [h6, if_pos z], by have := hw.lt10 z; omega, fun i hi => ?_⟩
      · rw [if_neg (show ¬ nI n = 0 from fun y => by have := (nI_eq (b := 0) (by omega) (by decide)).mp y; omega), if_pos z, if_neg (not_not_intro rfl)]
      · by_cases c : i = e
        · subst c
          rw [show n - sn t b i = le7 t b (sn t b i) by omega] at hp
          exact ⟨hp.full ht, fun j hj => hw.2.2.1 j (by omega)⟩
        · exact ⟨hf i (by omega), (hw.1 i (by omega)).1⟩
    · rw [if_neg z]
      by_cases n0 : n = 0
      · refine ⟨-1, 0, Or.inl ⟨n0, rfl, rfl⟩, ?_, by rw [h6, if_neg z], by decide, fun i hi => by omega⟩
        rw [if_pos (show nI n = 0 by rw [n0]; rfl)]
      · refine ⟨nI n, 0, Or.inr (Or.inl ⟨n0, n, e, Nat.le_refl _, hw, Or.inr ⟨rfl, by omega⟩, rfl, rfl⟩), ?_, by rw [h6, if_neg z], by decide, fun i hi => by omega⟩
        rw [if_neg (show ¬ nI n = 0 from fun y => n0 ((nI_eq (b := 0) (by omega) (by decide)).mp y)), if_pos (show ¬ nI (n - sn t b e) = nI (fl7 t) from fun y => by have := (nI_eq (by omega) (by omega)).mp y; omega)]
  · rw [h7, if_neg (m1_ne (by omega))]
    exact ⟨nI p, 0, Or.inr (Or.inl ⟨by omega, p, e, by omega, hw, Or.inl ⟨hp, hbd⟩, rfl, rfl⟩), rfl, h6, by decide, fun i hi => by omega⟩
end Again
