/-! seen, read -/
section SeenS
variable {F : Nat} {P : Pm} {M X : Mem}
def SNc (X : Mem) (k : Nat) (sm si : Nat → Nat) : Prop := X 26 0 = nI k ∧ ∃ w u, (X 26 1 = nI w ∧ X 26 2 = nI u ∧ w < 1024 ∧ u < 1024) ∧ (∀ j, w.testBit j = true ↔ ∃ i, i < k ∧ sm i = j ∧ si i = 1) ∧ (∀ j, u.testBit j = true ↔ ∃ i, i < k ∧ sm i = j ∧ si i = 0)
def SNm (X : Mem) (k : Nat) (sm si : Nat → Nat) : Prop := X 37 14 = nI k ∧ ∀ i, i < k → (X 47 i = nI (sm i) ∧ sm i < 10) ∧ X 48 i = nI (si i) ∧ si i < 2
theorem SN.parts (h : SN M) : ∃ k sm si, k ≤ 8 ∧ SNc M k sm si ∧ SNm M k sm si := by
  obtain ⟨k, sm, si, w, u, ⟨h1, h2, h3⟩, h4, h5, h6, h7⟩ := h
  exact ⟨k, sm, si, h2, ⟨h1, w, u, h5, h6, h7⟩, h3, h4⟩
theorem SN.join {k : Nat} {sm si : Nat → Nat} (hk : k ≤ 8) (h1 : SNc M k sm si) (h2 : SNm M k sm si) : SN M := by
  obtain ⟨a, w, u, b, c, d⟩ := h1
  exact ⟨k, sm, si, w, u, ⟨a, hk, h2.1⟩, h2.2, b, c, d⟩
theorem SNc.cong {k : Nat} {sm si sm' si' : Nat → Nat} (h : SNc X k sm si) (e : ∀ i, i < k → sm i = sm' i ∧ si i = si' i) : SNc X k sm' si' := by
  obtain ⟨a, w, u, b, c, d⟩ := h
  refine ⟨a, w, u, b, fun j => (c j).trans ?_, fun j => (d j).trans ?_⟩
  · constructor
    · rintro ⟨i, q1, q2, q3⟩
      exact ⟨i, q1, by rw [← (e i q1).1]; exact q2, by rw [← (e i q1).2]; exact q3⟩
    · rintro ⟨i, q1, q2, q3⟩
      exact ⟨i, q1, by rw [(e i q1).1]; exact q2, by rw [(e i q1).2]; exact q3⟩
  · constructor
    · rintro ⟨i, q1, q2, q3⟩
      exact ⟨i, q1, by rw [← (e i q1).1]; exact q2, by rw [← (e i q1).2]; exact q3⟩
    · rintro ⟨i, q1, q2, q3⟩
      exact ⟨i, q1, by rw [(e i q1).1]; exact q2, by rw [(e i q1).2]; exact q3⟩
theorem SNm.cong {k : Nat} {sm si sm' si' : Nat → Nat} (h : SNm X k sm si) (e : ∀ i, i < k → sm i = sm' i ∧ si i = si' i) : SNm X k sm' si' := by
  refine ⟨h.1, fun i hi => ?_⟩
  rw [← (e i hi).1, ← (e i hi).2]
  exact h.2 i hi
theorem SNm.fr {k : Nat} {sm si : Nat → Nat} {Y : Mem} (h : SNm X k sm si) (h1 : Y 37 14 = X 37 14) (h2 : Y 47 = X 47) (h3 : Y 48 = X 48) : SNm Y k sm si := by
  unfold SNm at *
  rw [h1, h2, h3]; exact h
theorem SNc.fr {k : Nat} {sm si : Nat → Nat} {Y : Mem} (h : SNc X k sm si) (h1 : Y 26 = X 26) : SNc Y k sm si := by
  unfold SNc at *
  rw [h1]; exact h
/-- one bit more -/
theorem bit_more {k w m s : Nat} {sm si : Nat → Nat} (h : ∀ j, w.testBit j = true ↔ ∃ i, i < k ∧ sm i = j ∧ si i = s) (hm : sm k = m) (hs : si k = s) : ∀ j, (w ||| 2 ^ m).testBit j = true ↔ ∃ i, i < k + 1 ∧ sm i = j ∧ si i = s := fun j => by
  rw [Nat.testBit_or, Bool.or_eq_true, h j, tb_pow, decide_eq_true_eq]
  constructor
  · rintro (⟨i, q1, q2, q3⟩ | q)
    · exact ⟨i, by omega, q2, q3⟩
    · exact ⟨k, by omega, by rw [hm]; exact q, hs⟩
  · rintro ⟨i, q1, q2, q3⟩
    by_cases c : i = k
    · subst c; exact Or.inr (by rw [← hm]; exact q2)
    · exact Or.inl ⟨i, by omega, q2, q3⟩
theorem bit_same {k w s : Nat} {sm si : Nat → Nat} (h : ∀ j, w.testBit j = true ↔ ∃ i, i < k ∧ sm i = j ∧ si i = s) (hs : ¬ si k = s) : ∀ j, w.testBit j = true ↔ ∃ i, i < k + 1 ∧ sm i = j ∧ si i = s := fun j => by
  rw [h j]
  constructor
  · rintro ⟨i, q1, q2, q3⟩
    exact ⟨i, by omega, q2, q3⟩
  · rintro ⟨i, q1, q2, q3⟩
    by_cases c : i = k
    · subst c; exact absurd q3 hs
    · exact ⟨i, by omega, q2, q3⟩
theorem c_add {k : Nat} {sm si : Nat → Nat} (h : SNc X k sm si) (hs : sm k < 10) (hi : si k < 2) : ∃ Y, sX4_add F (nI (sm k)) (nI (si k)) X = some Y ∧ SNc Y (k + 1) sm si ∧ ∀ a, a ≠ 26 → Y a = X a := by
  obtain ⟨h0, w, u, ⟨h1, h2, h3, h4⟩, h5, h6⟩ := h
  have hp : 2 ^ sm k < 1024 := by
    have : 2 ^ sm k ≤ 2 ^ 9 := Nat.pow_le_pow_right (by decide) (by omega)
    have e : (2 : Nat) ^ 9 = 512 := by decide
    omega
  unfold sX4_add
  simp only [nm_eq]
  rw [h1, h2, z_shl1 (by omega), z_or, z_or, st2_i _ _ _ (show (0 : Nat) ≠ 2 by decide), st2_i _ _ _ (show (0 : Nat) ≠ 1 by decide), h0, z_addR]
  rcases two hi with c | c
  · rw [if_pos (show ¬ nI (si k) = 1 by rw [c]; decide)]
    refine ⟨_, rfl, ⟨st2_same _ _ _ _, w, u ||| 2 ^ sm k, ⟨?_, ?_, h3, or_lt (n := 10) h4 hp⟩, bit_same h5 (by omega), bit_more h6 rfl c⟩, fun a ha => by rw [st2_k _ _ _ ha, st2_k _ _ _ ha]⟩
    · rw [st2_i _ _ _ (by decide), st2_i _ _ _ (by decide)]; exact h1
    · rw [st2_i _ _ _ (by decide), st2_same]
  · rw [if_neg (show ¬ ¬ nI (si k) = 1 by rw [c]; decide)]
    refine ⟨_, rfl, ⟨st2_same _ _ _ _, w ||| 2 ^ sm k, u, ⟨?_, ?_, or_lt (n := 10) h3 hp, h4⟩, bit_more h5 rfl c, bit_same h6 (by omega)⟩, fun a ha => by rw [st2_k _ _ _ ha, st2_k _ _ _ ha]⟩
    · rw [st2_i _ _ _ (by decide), st2_same]
    · rw [st2_i _ _ _ (by decide), st2_i _ _ _ (by decide)]; exact h2
theorem ten_in {m : Nat} (hm : m < 10) : (0 : Int32) ≤ nI m ∧ nI m ≤ 9 := ⟨nI_pos' (by omega), nI_le (b := 9) (by omega) (by decide)⟩
theorem two_in {i : Nat} (hi : i < 2) : (0 : Int32) ≤ nI i ∧ nI i ≤ 1 := ⟨nI_pos' (by omega), nI_le (b := 1) (by omega) (by decide)⟩
theorem m_seen {k : Nat} {sm si : Nat → Nat} (h : SNm X k sm si) (hk : k < 8) (hs : sm k < 10) (hi : si k < 2) : ∃ Y, sX8_seen F (nI (sm k)) (nI (si k)) X = some (nI (k + 1), Y) ∧ SNm Y (k + 1) sm si ∧ (∀ a, a ≠ 37 → a ≠ 47 → a ≠ 48 → Y a = X a) ∧ ∀ x, x ≠ 14 → Y 37 x = X 37 x := by
  unfold sX8_seen sX8_isTen
  rw [in_t F X (ten_in hs)]
  simp only [ob_some, nm_eq, if_true, if_false, Bool.false_eq_true, not_true_eq_false, not_false_eq_true]
  rw [in_t F X (two_in hi)]
  simp only [ob_some, nm_eq, if_true, if_false, Bool.false_eq_true, not_true_eq_false, not_false_eq_true]
  rw [h.1, if_pos (show ¬ nI k = 8 from fun z => by have := (nI_eq (b := 8) (by omega) (by decide)).mp z; omega), z_ib hk (by decide), z_ix (by omega), st2_k _ _ _ (show (37 : Nat) ≠ 47 by decide), h.1, z_ib hk (by decide), z_ix (by omega), st2_k _ _ _ (show (37 : Nat) ≠ 48 by decide), st2_k _ _ _ (show (37 : Nat) ≠ 47 by decide), h.1, z_addR, st2_same]
  refine ⟨_, rfl, ⟨st2_same _ _ _ _, fun i q => ?_⟩, fun a a1 a2 a3 => ?_, fun x hx => ?_⟩
  · rw [st2_k _ _ _ (show (47 : Nat) ≠ 37 by decide), st2_k _ _ _ (show (48 : Nat) ≠ 37 by decide), st2_k _ _ _ (show (47 : Nat) ≠ 48 by decide)]
    by_cases c : i = k
    · subst c
      rw [st2_same, st2_same]
      exact ⟨⟨rfl, hs⟩, rfl, hi⟩
    · rw [st2_i _ _ _ c, st2_i _ _ _ c, st2_k _ _ _ (show (48 : Nat) ≠ 47 by decide)]
      exact h.2 i (by omega)
  · rw [st2_k _ _ _ a1, st2_k _ _ _ a3, st2_k _ _ _ a2]
  · rw [st2_i _ _ _ hx, st2_k _ _ _ (by decide), st2_k _ _ _ (by decide)]
/-- what can be seen, what not -/
theorem see_cases (F : Nat) (a b : Int32) : (∃ m i, m < 10 ∧ i < 2 ∧ a = nI m ∧ b = nI i ∧ ∀ X, sX7_isNotSeeable F a b X = some false) ∨ ((∀ X, sX7_isNotSeeable F a b X = some true) ∧ ∀ X, sX8_seen F a b X = some (-2, X)) := by
  rcases rg a 10 9 10 rfl rfl (by decide) (by decide) with ⟨o, i⟩ | ⟨m, hm, rfl, o, i⟩
  · refine Or.inr ⟨fun X => ?_, fun X => ?_⟩
    · unfold sX7_isNotSeeable
      rw [out_t F X o]
      simp only [ob_some, nm_eq, if_true, if_false, Bool.false_eq_true, not_true_eq_false, not_false_eq_true]
    · unfold sX8_seen sX8_isTen
      rw [in_f F X i]
      simp only [ob_some, nm_eq, if_true, if_false, Bool.false_eq_true, not_true_eq_false, not_false_eq_true]
  · rcases rg b 2 1 2 rfl rfl (by decide) (by decide) with ⟨o2, i2⟩ | ⟨j, hj, rfl, o2, i2⟩
    · refine Or.inr ⟨fun X => ?_, fun X => ?_⟩
      · unfold sX7_isNotSeeable
        rw [out_f F X o, out_t F X o2]
        simp only [ob_some, nm_eq, if_true, if_false, Bool.false_eq_true, not_true_eq_false, not_false_eq_true]
      · unfold sX8_seen sX8_isTen
        rw [in_t F X i]
        simp only [ob_some, nm_eq, if_true, if_false, Bool.false_eq_true, not_true_eq_false, not_false_eq_true]
        rw [in_f F X i2]
        simp only [ob_some, nm_eq, if_true, if_false, Bool.false_eq_true, not_true_eq_false, not_false_eq_true]
    · refine Or.inl ⟨m, j, hm, hj, rfl, rfl, fun X => ?_⟩
      unfold sX7_isNotSeeable
      rw [out_f F X o, out_f F X o2]
      simp only [ob_some, nm_eq, if_true, if_false, Bool.false_eq_true, not_true_eq_false, not_false_eq_true]
theorem c_full {k : Nat} {sm si : Nat → Nat} (h : SNc X k sm si) (hk : k ≤ 8) : sX4_isFull F X = some (decide (k = 8)) := by
  unfold sX4_isFull
  rw [h.1]
  by_cases c : k = 8
  · subst c; rw [if_neg (by decide)]; rfl
  · rw [if_pos (show nI k < 8 from (nI_ltI (b := 8) (by omega) (by decide)).mpr (by omega)), decide_eq_false c]
theorem m_full {sm si : Nat → Nat} (h : SNm X 8 sm si) {m i : Nat} (hm : m < 10) (hi : i < 2) : sX8_seen F (nI m) (nI i) X = some (-4, X) := by
  unfold sX8_seen sX8_isTen
  rw [in_t F X (ten_in hm)]
  simp only [ob_some, nm_eq, if_true, if_false, Bool.false_eq_true, not_true_eq_false, not_false_eq_true]
  rw [in_t F X (two_in hi)]
  simp only [ob_some, nm_eq, if_true, if_false, Bool.false_eq_true, not_true_eq_false, not_false_eq_true]
  rw [h.1, if_neg (by decide)]
/-- what was seen has changed -/
theorem Iv.seen (h : Inv P M) (hk : ∀ k, k ≠ 26 → k ≠ 37 → k ≠ 47 → k ≠ 48 → X k = M k) (hx : ∀ x, x ≠ 14 → X 37 x = M 37 x) (hS : SN X) : Iv X := by
  refine h.chg (X := X) (fun k q => hk k (fun z => by rw [z] at q; exact absurd q (by decide)) (fun z => by rw [z] at q; exact absurd q (by decide)) (fun z => by rw [z] at q; exact absurd q (by decide)) (fun z => by rw [z] at q; exact absurd q (by decide))) ?_ ?_ (fun j hj => hx _ (by omega)) ?_ hS ?_ ?_
  · rw [hk 0 (by decide) (by decide) (by decide) (by decide)]
  · rw [hk 0 (by decide) (by decide) (by decide) (by decide)]
  · exact h.wo.fr (hk 16 (by decide) (by decide) (by decide) (by decide)) (hk 43 (by decide) (by decide) (by decide) (by decide))
  · exact h.sh.fr (fun k q1 q2 => hk k (by omega) (by omega) (by omega) (by omega)) (hk 49 (by decide) (by decide) (by decide) (by decide)) (hk 50 (by decide) (by decide) (by decide) (by decide)) (hk 51 (by decide) (by decide) (by decide) (by decide)) (hk 52 (by decide) (by decide) (by decide) (by decide))
  · rw [hk 0 (by decide) (by decide) (by decide) (by decide), hx 22 (by decide)]; exact h.fi
theorem u_seen (hF : 1025 < F) (a b : Int32) : Up (sX7_seen F a b) (sX8_seen F a b) := fun M hM => by
  obtain ⟨n, bb, N, f, st, h⟩ := hM
  rcases see_cases F a b with ⟨m, i, hm, hi, rfl, rfl, h7⟩ | ⟨h7, h8⟩
  · obtain ⟨k, sm, si, hk, hc, hmm⟩ := h.sn.parts
    by_cases c : k = 8
    · subst c
      refine ⟨-4, M, M, ?_, m_full hmm hm hi, h.iv⟩
      unfold sX7_seen
      rw [h7, c_full hc (by omega)]
      simp only [ob_some, nm_eq, if_true, if_false, Bool.false_eq_true, not_true_eq_false, not_false_eq_true, decide_true]
    · have e : ∀ j, j < k → sm j = (if j = k then m else sm j) ∧ si j = (if j = k then i else si j) := fun j hj => by
        rw [if_neg (by omega), if_neg (by omega)]; exact ⟨rfl, rfl⟩
      obtain ⟨M1, a1, a2, a3⟩ := c_add (F := F) (hc.cong (sm' := fun j => if j = k then m else sm j) (si' := fun j => if j = k then i else si j) e) (by simp [hm]) (by simp [hi])
      simp only [if_true] at a1
      have hm1 : SNm M1 k (fun j => if j = k then m else sm j) (fun j => if j = k then i else si j) := (hmm.cong e).fr (by rw [a3 37 (by decide)]) (a3 47 (by decide)) (a3 48 (by decide))
      obtain ⟨M2, b1, b2, b3, b4⟩ := m_seen (F := F) hm1 (by omega) (by simp [hm]) (by simp [hi])
      simp only [if_true] at b1
      refine ⟨nI (k + 1), M1, M2, ?_, b1, ?_⟩
      · unfold sX7_seen
        rw [h7, c_full hc hk, decide_eq_false c]
        simp only [ob_some, nm_eq, if_true, if_false, Bool.false_eq_true, not_true_eq_false, not_false_eq_true]
        rw [a1]
        unfold sX4_howMany
        simp only [ob_some, nm_eq, if_true, if_false, Bool.false_eq_true, not_true_eq_false, not_false_eq_true]
        rw [a2.1]
      · exact Iv.seen h (fun q q1 q2 q3 q4 => by rw [b3 q q2 q3 q4, a3 q q1]) (fun x hx => by rw [b4 x hx, a3 37 (by decide)]) (SN.join (by omega) (a2.fr (b3 26 (by decide) (by decide) (by decide))) b2)
  · refine ⟨-2, M, M, ?_, h8 M, h.iv⟩
    unfold sX7_seen
    rw [h7]
    simp only [ob_some, nm_eq, if_true, if_false, Bool.false_eq_true, not_true_eq_false, not_false_eq_true]
/-! read -/
/-- the n-th pair of a sheet may be seen, and there is room -/
def gdR (F : Nat) (it : Nat → Int32) (z k n : Nat) : Bool := decide (2 * n + 1 < z) && (decide (sX7_isNotSeeable F (it (2 * n)) (it (2 * n + 1)) (fun _ _ => 0) = some false) && decide (k + n < 8))
theorem nsee_any (a b : Int32) (X Y : Mem) : sX7_isNotSeeable F a b X = sX7_isNotSeeable F a b Y := by
  rcases see_cases F a b with ⟨m, i, -, -, -, -, h7⟩ | ⟨h7, -⟩
  · rw [h7, h7]
  · rw [h7, h7]
theorem gdR_t {it : Nat → Int32} {z k n : Nat} (h : gdR F it z k n = true) : 2 * n + 1 < z ∧ k + n < 8 ∧ ∃ m i, m < 10 ∧ i < 2 ∧ it (2 * n) = nI m ∧ it (2 * n + 1) = nI i ∧ ∀ X, sX7_isNotSeeable F (it (2 * n)) (it (2 * n + 1)) X = some false := by
  unfold gdR at h
  simp only [Bool.and_eq_true, decide_eq_true_eq] at h
  refine ⟨h.1, h.2.2, ?_⟩
  rcases see_cases F (it (2 * n)) (it (2 * n + 1)) with q | ⟨h7, -⟩
  · exact q
  · rw [h7] at h
    exact absurd h.2.1 (by simp)
theorem gdR_f {it : Nat → Int32} {z k n : Nat} (h : gdR F it z k n = false) : z ≤ 2 * n + 1 ∨ ((∀ X, sX7_isNotSeeable F (it (2 * n)) (it (2 * n + 1)) X = some true) ∧ ∀ X, sX8_seen F (it (2 * n)) (it (2 * n + 1)) X = some (-2, X)) ∨ (8 ≤ k + n ∧ ∃ m i, m < 10 ∧ i < 2 ∧ it (2 * n) = nI m ∧ it (2 * n + 1) = nI i ∧ ∀ X, sX7_isNotSeeable F (it (2 * n)) (it (2 * n + 1)) X = some false) := by
  by_cases c1 : z ≤ 2 * n + 1
  · exact Or.inl c1
  · refine Or.inr ?_
    rcases see_cases F (it (2 * n)) (it (2 * n + 1)) with q | q
    · refine Or.inr ⟨?_, q⟩
      obtain ⟨m, i, -, -, -, -, h7⟩ := q
      rcases Nat.lt_or_ge (k + n) 8 with c | c
      · unfold gdR at h
        rw [h7] at h
        simp [c] at h
        omega
      · exact c
    · exact Or.inl q
theorem e_item {s z : Nat} (hz : X (29 + s) 2 = nI z) (hz48 : z ≤ 48) {j : Nat} (hj : j < z) : sX5_item F (29 + s) (nI j) X = some (X (33 + s) j) := by
  unfold sX5_item
  rw [hz, if_neg (nI_pos (by omega)), if_neg (nI_ge hj (by omega)), if_neg (show ¬ (48 : Int32) ≤ nI j from nI_ge (b := 48) (show j < 48 by omega) (by decide)), z_ib (show j < 48 by omega) (by decide), z_ix (by omega), show 29 + s + 4 = 33 + s by omega]
theorem e_readC {s : Nat} (hs : s < 4) {z k T : Nat} (hz : M (29 + s) 2 = nI z) (hz48 : z ≤ 48) (hk : k ≤ 8) {sm si : Nat → Nat} (hgo : ∀ n, n < T → gdR F (M (33 + s)) z k n = true) (hst : gdR F (M (33 + s)) z k T = false) (hT : k + T ≤ 8) (hsm : ∀ n, n < T → sm (k + n) < 10 ∧ si (k + n) < 2 ∧ M (33 + s) (2 * n) = nI (sm (k + n)) ∧ M (33 + s) (2 * n + 1) = nI (si (k + n))) (J : Mem → Option (Int32 × Mem)) : ∀ d n X g, n + d = T → d < g → (∀ a, a ≠ 26 → X a = M a) → SNc X (k + n) sm si → ∃ Y, fx2 g (sX7_read_L39 F (nI s) J J) (nI (2 * n)) X = J Y ∧ (∀ a, a ≠ 26 → Y a = M a) ∧ SNc Y (k + T) sm si
  | 0 => fun n X g hn hg hX hc => by
    obtain ⟨g', rfl⟩ : ∃ g', g = g' + 1 := ⟨g - 1, by omega⟩
    have hnT : n = T := by omega
    subst hnT
    refine ⟨X, ?_, hX, hc⟩
    show sX7_read_L39 F (nI s) J J (fx2 g' (sX7_read_L39 F (nI s) J J)) _ _ = _
    unfold sX7_read_L39 sX5_length
    have hzX : X (29 + s) 2 = nI z := by rw [hX _ (by omega)]; exact hz
    rw [z_ib hs (by decide), z_ix (by omega), show 28 + 1 + s = 29 + s from rfl, hzX]
    simp only [ob_some]
    rw [z_addR]
    rcases gdR_f hst with c | ⟨c, -⟩ | ⟨c, m, i, hm, hi, e1, e2, e3⟩
    · rw [if_pos (nI_le c (by omega))]
    · by_cases c1 : z ≤ 2 * n + 1
      · rw [if_pos (nI_le c1 (by omega))]
      · rw [if_neg (nI_ge (by omega) (by omega)), z_ib hs (by decide), e_item hzX hz48 (by omega)]
        simp only [ob_some]
        rw [z_ib hs (by decide), e_item hzX hz48 (by omega)]
        simp only [ob_some]
        rw [hX (33 + s) (by omega), c]
        simp only [ob_some, nm_eq, if_true, if_false, Bool.false_eq_true, not_true_eq_false, not_false_eq_true]
    · by_cases c1 : z ≤ 2 * n + 1
      · rw [if_pos (nI_le c1 (by omega))]
      · rw [if_neg (nI_ge (by omega) (by omega)), z_ib hs (by decide), e_item hzX hz48 (by omega)]
        simp only [ob_some]
        rw [z_ib hs (by decide), e_item hzX hz48 (by omega)]
        simp only [ob_some]
        rw [hX (33 + s) (by omega), e3]
        simp only [ob_some, nm_eq, if_true, if_false, Bool.false_eq_true, not_true_eq_false, not_false_eq_true]
        rw [c_full hc hT, decide_eq_true (show k + n = 8 by omega)]
        simp only [ob_some, nm_eq, if_true, if_false, Bool.false_eq_true, not_true_eq_false, not_false_eq_true]
  | d + 1 => fun n X g hn hg hX hc => by
    obtain ⟨g', rfl⟩ : ∃ g', g = g' + 1 := ⟨g - 1, by omega⟩
    obtain ⟨q1, q2, m, i, hm, hi, e1, e2, e3⟩ := gdR_t (hgo n (by omega))
    obtain ⟨s1, s2, s3, s4⟩ := hsm n (by omega)
    obtain ⟨Y, y1, y2, y3⟩ := c_add (F := F) hc s1 s2
    obtain ⟨Z, z1, z2, z3⟩ := e_readC hs hz hz48 hk hgo hst hT hsm J d (n + 1) Y g' (by omega) (by omega) (fun a ha => by rw [y3 a ha, hX a ha]) y2
    refine ⟨Z, ?_, z2, z3⟩
    show sX7_read_L39 F (nI s) J J (fx2 g' (sX7_read_L39 F (nI s) J J)) _ _ = _
    generalize fx2 g' (sX7_read_L39 F (nI s) J J) = rec at z1 ⊢
    unfold sX7_read_L39 sX5_length
    have hzX : X (29 + s) 2 = nI z := by rw [hX _ (by omega)]; exact hz
    rw [z_ib hs (by decide), z_ix (by omega), show 28 + 1 + s = 29 + s from rfl, hzX]
    simp only [ob_some]
    rw [z_addR, if_neg (nI_ge (by omega) (by omega)), z_ib hs (by decide), e_item hzX hz48 (by omega)]
    simp only [ob_some]
    rw [z_ib hs (by decide), e_item hzX hz48 (by omega)]
    simp only [ob_some]
    rw [hX (33 + s) (by omega), e3]
    simp only [ob_some, nm_eq, if_true, if_false, Bool.false_eq_true, not_true_eq_false, not_false_eq_true]
    rw [c_full hc (by omega), decide_eq_false (show ¬ k + n = 8 by omega)]
    simp only [ob_some, nm_eq, if_true, if_false, Bool.false_eq_true, not_true_eq_false, not_false_eq_true]
    rw [s3, s4, y1]
    simp only [ob_some, nm_eq, if_true, if_false, Bool.false_eq_true, not_true_eq_false, not_false_eq_true]
    rw [z_addR, show 2 * n + 2 = 2 * (n + 1) by omega]
    exact z1
theorem e_readM {s : Nat} (hs : s < 4) {z k T : Nat} {it : Nat → Int32} (hz : M 51 s = nI z) (hz48 : z ≤ 48) (hit : ∀ j, j < z → M 52 (48 * s + j) = it j) {sm si : Nat → Nat} (hgo : ∀ n, n < T → gdR F it z k n = true) (hst : gdR F it z k T = false) (hT : k + T ≤ 8) (hsm : ∀ n, n < T → sm (k + n) < 10 ∧ si (k + n) < 2 ∧ it (2 * n) = nI (sm (k + n)) ∧ it (2 * n + 1) = nI (si (k + n))) : ∀ d n X g, n + d = T → d < g → (∀ a, a ≠ 37 → a ≠ 47 → a ≠ 48 → X a = M a) → (∀ x, x ≠ 14 → X 37 x = M 37 x) → SNm X (k + n) sm si → ∃ Y, fx2 g (sX8_read_L27 F (nI s)) (nI n) X = some (nI T, Y) ∧ (∀ a, a ≠ 37 → a ≠ 47 → a ≠ 48 → Y a = M a) ∧ (∀ x, x ≠ 14 → Y 37 x = M 37 x) ∧ SNm Y (k + T) sm si
  | 0 => fun n X g hn hg hX hx hc => by
    obtain ⟨g', rfl⟩ : ∃ g', g = g' + 1 := ⟨g - 1, by omega⟩
    have hnT : n = T := by omega
    subst hnT
    refine ⟨X, ?_, hX, hx, hc⟩
    show sX8_read_L27 F (nI s) (fx2 g' (sX8_read_L27 F (nI s))) _ _ = _
    unfold sX8_read_L27
    rw [z_ib hs (by decide), z_ix (by omega), hX 51 (by decide) (by decide) (by decide), hz, z_mulL, z_addR]
    by_cases c1 : z ≤ 2 * n + 1
    · rw [if_pos (nI_le c1 (by omega))]
    · rw [if_neg (nI_ge (by omega) (by omega)), z_mulL, z_add, z_addR, z_ib (by omega) (by decide), z_ib (by omega) (by decide), z_ix (by omega), z_ix (by omega), hX 52 (by decide) (by decide) (by decide), hit _ (by omega), show 48 * s + 2 * n + 1 = 48 * s + (2 * n + 1) by omega, hit _ (by omega)]
      rcases gdR_f hst with c | ⟨-, c⟩ | ⟨c, m, i, hm, hi, e1, e2, -⟩
      · exact absurd c c1
      · rw [c]
        simp only [ob_some]
        rw [if_pos (by decide)]
      · have h8 : k + n = 8 := by omega
        rw [h8] at hc
        rw [e1, e2, m_full hc hm hi]
        simp only [ob_some]
        rw [if_pos (by decide)]
  | d + 1 => fun n X g hn hg hX hx hc => by
    obtain ⟨g', rfl⟩ : ∃ g', g = g' + 1 := ⟨g - 1, by omega⟩
    obtain ⟨q1, q2, -⟩ := gdR_t (hgo n (by omega))
    obtain ⟨s1, s2, s3, s4⟩ := hsm n (by omega)
    obtain ⟨Y, y1, y2, y3, y4⟩ := m_seen (F := F) hc (by omega) s1 s2
    obtain ⟨Z, z1, z2, z3, z4⟩ := e_readM hs hz hz48 hit hgo hst hT hsm d (n + 1) Y g' (by omega) (by omega) (fun a a1 a2 a3 => by rw [y3 a a1 a2 a3, hX a a1 a2 a3]) (fun x q => by rw [y4 x q, hx x q]) y2
    refine ⟨Z, ?_, z2, z3, z4⟩
    show sX8_read_L27 F (nI s) (fx2 g' (sX8_read_L27 F (nI s))) _ _ = _
    generalize fx2 g' (sX8_read_L27 F (nI s)) = rec at z1 ⊢
    unfold sX8_read_L27
    rw [z_ib hs (by decide), z_ix (by omega), hX 51 (by decide) (by decide) (by decide), hz, z_mulL, z_addR, if_neg (nI_ge (by omega) (by omega)), z_mulL, z_add, z_addR, z_ib (by omega) (by decide), z_ib (by omega) (by decide), z_ix (by omega), z_ix (by omega), hX 52 (by decide) (by decide) (by decide), hit _ (by omega), show 48 * s + 2 * n + 1 = 48 * s + (2 * n + 1) by omega, hit _ (by omega), s3, s4, y1]
    simp only [ob_some]
    rw [if_neg (show ¬ nI (k + n + 1) ≤ 0 from nI_ge (a := 0) (by omega) (by omega)), z_addR]
    exact z1
/-- a finding on both sides -/
theorem Iv.find (h : Inv P M) (v : Int32) : Iv (st2 (st2 M 0 11 v) 37 22 v) := by
  have k0 : ∀ k, k ≠ 0 → k ≠ 37 → st2 (st2 M 0 11 v) 37 22 v k = M k := fun k q1 q2 => by rw [st2_k _ _ _ q2, st2_k _ _ _ q1]
  have x0 : ∀ x, x ≠ 22 → st2 (st2 M 0 11 v) 37 22 v 37 x = M 37 x := fun x q => by rw [st2_i _ _ _ q, st2_k _ _ _ (by decide)]
  refine h.chg (fun k q => k0 k (fun z => by rw [z] at q; exact absurd q (by decide)) (fun z => by rw [z] at q; exact absurd q (by decide))) ?_ ?_ (fun j hj => x0 _ (by omega)) ?_ ?_ ?_ ?_
  · rw [st2_k _ _ _ (by decide), st2_i _ _ _ (by decide)]
  · rw [st2_k _ _ _ (by decide), st2_i _ _ _ (by decide)]
  · exact h.wo.fr (k0 16 (by decide) (by decide)) (k0 43 (by decide) (by decide))
  · exact h.sn.fr (k0 26 (by decide) (by decide)) (k0 47 (by decide) (by decide)) (k0 48 (by decide) (by decide)) (x0 14 (by decide))
  · exact h.sh.fr (fun k q1 q2 => k0 k (by omega) (by omega)) (k0 49 (by decide) (by decide)) (k0 50 (by decide) (by decide)) (k0 51 (by decide) (by decide)) (k0 52 (by decide) (by decide))
  · rw [st2_k _ _ _ (by decide), st2_same, st2_same]
end SeenS
