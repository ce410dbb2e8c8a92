/-! the state of both, and what a question leaves as it was -/
section State
variable {F : Nat} {M X M0' : Mem}
theorem EI.fr {t k n : Nat} {b : Nat → Nat} (h : EI t k M n b) (h1 : X k = M k) (h2 : X (k + 3) = M (k + 3)) : EI t k X n b := by
  unfold EI at *
  rw [h1, h2]
  exact h
/-- cells of texts -/
def txK (k : Nat) : Bool := (decide (2 ≤ k) && decide (k ≤ 14) && !decide (k = 8)) || decide (k = 38) || decide (k = 39)
theorem TI.fr {n : Nat → Nat} {b : Nat → Nat → Nat} (h : TI M n b) (hk : ∀ k, txK k = true → X k = M k) : TI X n b := by
  intro t ht
  obtain ⟨⟨a1, a2⟩, a3, a4, a5⟩ := h t ht
  have k1 : ∀ k, (2 ≤ k ∧ k ≤ 7) ∨ (9 ≤ k ∧ k ≤ 14) → X k = M k := fun k hh => hk k (by
    unfold txK
    have h1 : 2 ≤ k := by omega
    have h2 : k ≤ 14 := by omega
    have h3 : ¬ k = 8 := by omega
    simp [h1, h2, h3])
  refine ⟨⟨?_, a2⟩, a3.fr (hk 38 rfl) (hk 39 rfl), fun i hi => ?_, a5.fr (k1 _ (by omega)) (k1 _ (by omega))⟩
  · rw [k1 _ (by omega)]; exact a1
  · rw [k1 _ (by omega)]; exact a4 i hi
theorem CR.fr {N : Nat → Nat} {f : Nat → Int32} {b : Nat → Nat → Nat} (h : CR M N f b) (hk : ∀ k, txK k = true → X k = M k) : CR X N f b := by
  obtain ⟨h1, h2, h3, h4⟩ := h
  have kk : ∀ t, t < 3 → X (9 + t) = M (9 + t) := fun t ht => by
    rcases (show t = 0 ∨ t = 1 ∨ t = 2 by omega) with c | c | c <;> subst c <;> exact hk _ rfl
  refine ⟨fun t ht => ?_, ?_, ?_, ?_⟩
  · obtain ⟨a1, a2, a3⟩ := h1 t ht
    refine ⟨by rw [kk t ht]; exact a1, a2, fun F => ?_⟩
    have := a3 F
    unfold sX1_faultPlace at *
    rw [kk t ht]
    exact this
  · rw [hk 12 rfl]; exact h2
  · rw [hk 13 rfl]; exact h3
  · rw [hk 14 rfl]; exact h4
/-- settings -/
def SE (M : Mem) (st : Nat → Nat) : Prop := (∀ i, i < 4 → M 15 i = nI (st i) ∧ M 37 (6 + i) = nI (st i)) ∧ (1 ≤ st 0 ∧ st 0 ≤ 20) ∧ st 1 ≤ 9 ∧ st 2 ≤ 99 ∧ st 3 < 1024
theorem SE.fr {st : Nat → Nat} (h : SE M st) (h1 : X 15 = M 15) (h2 : ∀ i, i < 4 → X 37 (6 + i) = M 37 (6 + i)) : SE X st := by
  obtain ⟨a, b⟩ := h
  exact ⟨fun i hi => ⟨by rw [h1]; exact (a i hi).1, by rw [h2 i hi]; exact (a i hi).2⟩, b⟩
/-- worths -/
def WO (M : Mem) : Prop := ∀ i, i < 10 → M 16 i = M 43 i
theorem WO.fr (h : WO M) (h1 : X 16 = M 16) (h2 : X 43 = M 43) : WO X := by
  unfold WO at *
  rw [h1, h2]; exact h
/-- what was seen -/
def SNp (M : Mem) (k : Nat) (sm si : Nat → Nat) (w u : Nat) : Prop := (M 26 0 = nI k ∧ k ≤ 8 ∧ M 37 14 = nI k) ∧ (∀ i, i < k → (M 47 i = nI (sm i) ∧ sm i < 10) ∧ M 48 i = nI (si i) ∧ si i < 2) ∧ (M 26 1 = nI w ∧ M 26 2 = nI u ∧ w < 1024 ∧ u < 1024) ∧ (∀ j, w.testBit j = true ↔ ∃ i, i < k ∧ sm i = j ∧ si i = 1) ∧ (∀ j, u.testBit j = true ↔ ∃ i, i < k ∧ sm i = j ∧ si i = 0)
def SN (M : Mem) : Prop := ∃ k sm si w u, SNp M k sm si w u
theorem SNp.fr {k : Nat} {sm si : Nat → Nat} {w u : Nat} (h : SNp M k sm si w u) (h1 : X 26 = M 26) (h2 : X 47 = M 47) (h3 : X 48 = M 48) (h4 : X 37 14 = M 37 14) : SNp X k sm si w u := by
  unfold SNp at *
  rw [h1, h2, h3, h4]; exact h
theorem SN.fr (h : SN M) (h1 : X 26 = M 26) (h2 : X 47 = M 47) (h3 : X 48 = M 48) (h4 : X 37 14 = M 37 14) : SN X := by
  obtain ⟨k, sm, si, w, u, hh⟩ := h
  exact ⟨k, sm, si, w, u, hh.fr h1 h2 h3 h4⟩
/-- a sheet -/
def SHp (M : Mem) (s : Nat) : Prop := ((M (29 + s) 1 = -1 ∧ M (29 + s) 2 = 0) ∧ M 49 s = 0) ∨ (∃ fo z, (fo < 3 ∧ z ≤ 48) ∧ (M (29 + s) 1 = nI fo ∧ M (29 + s) 2 = nI z) ∧ (M 49 s = 1 ∧ M 50 s = nI fo ∧ M 51 s = nI z) ∧ ∀ i, i < z → M (33 + s) i = M 52 (48 * s + i))
def SH (M : Mem) : Prop := ∀ s, s < 4 → SHp M s
theorem SHp.fr {s : Nat} (h : SHp M s) (h1 : X (29 + s) = M (29 + s)) (h2 : X (33 + s) = M (33 + s)) (h3 : X 49 s = M 49 s) (h4 : X 50 s = M 50 s) (h5 : X 51 s = M 51 s) (h6 : ∀ i, i < 48 → X 52 (48 * s + i) = M 52 (48 * s + i)) : SHp X s := by
  unfold SHp at *
  rw [h1, h2, h3, h4, h5]
  rcases h with h | ⟨fo, z, a, b, c, d⟩
  · exact Or.inl h
  · exact Or.inr ⟨fo, z, a, b, c, fun i hi => by rw [h6 i (by omega)]; exact d i hi⟩
theorem SH.fr (h : SH M) (h1 : ∀ k, 29 ≤ k → k ≤ 36 → X k = M k) (h3 : X 49 = M 49) (h4 : X 50 = M 50) (h5 : X 51 = M 51) (h6 : X 52 = M 52) : SH X := fun s hs => (h s hs).fr (h1 _ (by omega) (by omega)) (h1 _ (by omega) (by omega)) (by rw [h3]) (by rw [h4]) (by rw [h5]) (fun i _ => by rw [h6])
/-- all that a question is about: texts' lengths and bytes, numbers of entries, faults, settings, the rest -/
abbrev Pm := (Nat → Nat) × (Nat → Nat → Nat) × (Nat → Nat) × (Nat → Int32) × (Nat → Nat) × Mem
def pN (P : Pm) : Nat := P.2.2.1 0
def pR (P : Pm) : Nat := P.2.2.1 1
def pK (P : Pm) : Nat := P.2.2.1 2
def pq (P : Pm) : Nat → Nat → Nat := qM (P.2.1 0)
def pq1 (P : Pm) : Nat → Nat → Nat := qP (P.2.1 1)
def pq2 (P : Pm) : Nat → Nat → Nat := qP (P.2.1 2)
def pst (P : Pm) : Nat → Nat := P.2.2.2.2.1
def pL (P : Pm) : Nat := pst P 0
def pG (P : Pm) : Nat := pst P 1
def pO (P : Pm) : Nat := pst P 3
def pf (P : Pm) : Nat → Int32 := P.2.2.2.1
def pM (P : Pm) : Mem := P.2.2.2.2.2
def pcb (P : Pm) : Nat → Nat → Bool := cB (pq1 P) (pq2 P) (pL P) (pG P) (pK P)
def Wf (P : Pm) : Prop := (TI (pM P) P.1 P.2.1 ∧ (∀ t, t < 3 → Out (k3 t) (P.2.1 t) (P.1 t) (pf P t) (P.2.2.1 t)) ∧ CR (pM P) P.2.2.1 (pf P) P.2.1) ∧ SE (pM P) (pst P) ∧ WO (pM P) ∧ SN (pM P) ∧ SH (pM P) ∧ pM P 0 11 = pM P 37 22
/-- cells that a question may change -/
def scQ (k : Nat) : Bool := decide (k = 0) || (decide (17 ≤ k) && decide (k ≤ 25)) || decide (k = 27) || decide (k = 37) || decide (k = 40) || decide (k = 41) || decide (k = 42) || decide (k = 44) || decide (k = 45) || decide (k = 46) || decide (k = 53)
def Sm (A M : Mem) : Prop := (∀ k, scQ k = false → M k = A k) ∧ M 0 11 = A 0 11 ∧ ∀ x, x ≠ 2 → M 37 x = A 37 x
def RO (P : Pm) (M : Mem) : Prop := M 0 5 = 0 → RowsOK M (pN P) (pq P) (pL P) (pO P)
def AC (P : Pm) (M : Mem) : Prop := M 0 7 = 0 → AccOK M (pR P) (pK P) (pcb P)
def Inv (P : Pm) (M : Mem) : Prop := Wf P ∧ Sm (pM P) M ∧ RO P M ∧ AC P M
theorem RowsOK.fr {N L O : Nat} {q : Nat → Nat → Nat} (h : RowsOK M N q L O) (h1 : X 17 = M 17) (h2 : X 18 = M 18) (h3 : X 19 = M 19) (h4 : X 21 = M 21) : RowsOK X N q L O := by
  unfold RowsOK at *
  rw [h1, h2, h3, h4]; exact h
theorem AccOK.fr {R K : Nat} {cb : Nat → Nat → Bool} (h : AccOK M R K cb) (h1 : X 23 = M 23) (h2 : X 25 = M 25) : AccOK X R K cb := by
  unfold AccOK at *
  rw [h1, h2]; exact h
variable {P : Pm}
theorem Inv.k (h : Inv P M) {k : Nat} (hk : scQ k = false) : M k = pM P k := h.2.1.1 k hk
theorem Inv.x (h : Inv P M) {x : Nat} (hx : x ≠ 2) : M 37 x = pM P 37 x := h.2.1.2.2 x hx
theorem txK_sc {k : Nat} (h : txK k = true) : scQ k = false := by
  unfold txK at h
  unfold scQ
  simp only [Bool.or_eq_true, Bool.and_eq_true, decide_eq_true_eq, Bool.not_eq_true', decide_eq_false_iff_not, Bool.or_eq_false_iff, Bool.and_eq_false_iff] at *
  omega
theorem Inv.ti (h : Inv P M) : TI M P.1 P.2.1 := h.1.1.1.fr (fun k hk => h.k (txK_sc hk))
theorem Inv.cr (h : Inv P M) : CR M P.2.2.1 (pf P) P.2.1 := h.1.1.2.2.fr (fun k hk => h.k (txK_sc hk))
theorem Inv.se (h : Inv P M) : SE M (pst P) := h.1.2.1.fr (h.k rfl) (fun i _ => h.x (by omega))
theorem Inv.pc (h : Inv P M) : PC M (pN P) (pq P) := by
  have := h.cr
  exact ⟨(this.1 0 (by decide)).1, (this.1 0 (by decide)).2.1, this.2.1⟩
theorem Inv.pca (h : Inv P M) : PCa M (pR P) (pK P) (pq1 P) (pq2 P) := by
  have := h.cr
  exact ⟨⟨(this.1 1 (by decide)).1, (this.1 1 (by decide)).2.1, this.2.2.1⟩, (this.1 2 (by decide)).1, (this.1 2 (by decide)).2.1, this.2.2.2⟩
/-- scratch alone, neither rows nor accounts -/
def sc2 (k : Nat) : Bool := decide (k = 20) || decide (k = 22) || decide (k = 24) || decide (k = 27) || decide (k = 37) || decide (k = 40) || decide (k = 41) || decide (k = 42) || decide (k = 44) || decide (k = 45) || decide (k = 46) || decide (k = 53)
theorem sc2_scQ {k : Nat} (h : scQ k = false) : sc2 k = false := by
  unfold scQ at h
  unfold sc2
  simp only [Bool.or_eq_false_iff, Bool.and_eq_false_iff, decide_eq_false_iff_not] at *
  omega
theorem Inv.scr (h : Inv P M) (hk : ∀ k, sc2 k = false → X k = M k) (h37 : ∀ x, x ≠ 2 → X 37 x = M 37 x) : Inv P X := by
  obtain ⟨h1, ⟨h2, h3, h4⟩, h5, h6⟩ := h
  refine ⟨h1, ⟨fun k hq => ?_, ?_, fun x hx => ?_⟩, fun hf => ?_, fun hf => ?_⟩
  · rw [hk k (sc2_scQ hq)]; exact h2 k hq
  · rw [hk 0 rfl]; exact h3
  · rw [h37 x hx]; exact h4 x hx
  · rw [hk 0 rfl] at hf
    exact (h5 hf).fr (hk 17 rfl) (hk 18 rfl) (hk 19 rfl) (hk 21 rfl)
  · rw [hk 0 rfl] at hf
    exact (h6 hf).fr (hk 23 rfl) (hk 25 rfl)
theorem Inv.one (h : Inv P M) {c : Nat} (hc : sc2 c = true) (h37 : c ≠ 37) (hk : ∀ k, k ≠ c → X k = M k) : Inv P X := h.scr (fun k hq => hk k (fun e => by rw [e, hc] at hq; exact absurd hq (by decide))) (fun x _ => by rw [hk 37 (Ne.symm h37)])
theorem Inv.stC (h : Inv P M) {c : Nat} (g : Nat → Int32) (hc : sc2 c = true) (h37 : c ≠ 37) : Inv P (stC M c g) := h.one hc h37 (fun k hk => stC_ne _ _ hk)
/-- rows now -/
theorem e_rowsNow (h : Inv P M) (hF : 1024 < F) : ∃ M1, sX7_rowsNow F M = some M1 ∧ Inv P M1 ∧ RowsOK M1 (pN P) (pq P) (pL P) (pO P) := by
  unfold sX7_rowsNow
  by_cases c : M 0 5 = 0
  · rw [if_pos c]
    exact ⟨M, rfl, h, h.2.2.1 c⟩
  · have hs := h.se
    rw [if_neg c, z_ibL (by decide) (by decide), z_ibL (by decide) (by decide), z_ibL (by decide) (by decide), z_ixL (by decide), z_ixL (by decide), (hs.1 0 (by decide)).1, (hs.1 3 (by decide)).1]
    obtain ⟨M', w1, w2, w3⟩ := e_workOut (F := F) (L := pL P) (O := pO P) h.pc hs.2.1 hs.2.2.2.2 hF
    rw [show (8 + 1 + OfNat.ofNat 0 : Nat) = 9 from rfl, show pst P 0 = pL P from rfl, show pst P 3 = pO P from rfl, w1]
    simp only [ob_some, nm_eq]
    have k1 : ∀ k, k ≠ 0 → rowK k = false → st2 M' 0 5 0 k = M k := fun k a b => by rw [st2_k _ _ _ a, w3 k b]
    have hR : RowsOK (st2 M' 0 5 0) (pN P) (pq P) (pL P) (pO P) := w2.fr (st2_k _ _ _ (by decide)) (st2_k _ _ _ (by decide)) (st2_k _ _ _ (by decide)) (st2_k _ _ _ (by decide))
    refine ⟨_, rfl, ⟨h.1, ⟨fun k hq => ?_, ?_, fun x hx => ?_⟩, fun _ => hR, fun hf => ?_⟩, hR⟩
    · rw [k1 k ?_ ?_]
      · exact h.k hq
      · intro e; rw [e] at hq; exact absurd hq (by decide)
      · unfold scQ at hq
        unfold rowK
        simp only [Bool.or_eq_false_iff, Bool.and_eq_false_iff, decide_eq_false_iff_not, beq_eq_false_iff_ne] at *
        omega
    · rw [st2_i _ _ _ (by decide), w3 0 rfl]; exact h.2.1.2.1
    · rw [k1 37 (by decide) rfl]; exact h.x hx
    · rw [st2_i _ _ _ (by decide), w3 0 rfl] at hf
      exact (h.2.2.2 hf).fr (k1 23 (by decide) rfl) (k1 25 (by decide) rfl)
/-- accounts now -/
theorem e_accountsNow (h : Inv P M) (hF : 1024 < F) : ∃ M1, sX7_accountsNow F M = some M1 ∧ Inv P M1 ∧ AccOK M1 (pR P) (pK P) (pcb P) := by
  unfold sX7_accountsNow
  by_cases c : M 0 7 = 0
  · rw [if_pos c]
    exact ⟨M, rfl, h, h.2.2.2 c⟩
  · have hs := h.se
    rw [if_neg c, z_ibL (by decide) (by decide), z_ibL (by decide) (by decide), z_ibL (by decide) (by decide), z_ibL (by decide) (by decide), z_ixL (by decide), z_ixL (by decide), z_ixL (by decide), (hs.1 0 (by decide)).1, (hs.1 1 (by decide)).1]
    obtain ⟨M', w1, w2, w3⟩ := e_accWork (F := F) (L := pL P) (G := pG P) h.pca hs.2.1 hs.2.2.1 hF
    rw [show (8 + 1 + OfNat.ofNat 1 : Nat) = 10 from rfl, show (8 + 1 + OfNat.ofNat 2 : Nat) = 11 from rfl, show pst P 0 = pL P from rfl, show pst P 1 = pG P from rfl, w1]
    simp only [ob_some, nm_eq]
    have k1 : ∀ k, k ≠ 0 → accK k = false → st2 M' 0 7 0 k = M k := fun k a b => by rw [st2_k _ _ _ a, w3 k b]
    have hR : AccOK (st2 M' 0 7 0) (pR P) (pK P) (pcb P) := w2.fr (st2_k _ _ _ (by decide)) (st2_k _ _ _ (by decide))
    refine ⟨_, rfl, ⟨h.1, ⟨fun k hq => ?_, ?_, fun x hx => ?_⟩, fun hf => ?_, fun _ => hR⟩, hR⟩
    · rw [k1 k ?_ ?_]
      · exact h.k hq
      · intro e; rw [e] at hq; exact absurd hq (by decide)
      · unfold scQ at hq
        unfold accK
        simp only [Bool.or_eq_false_iff, Bool.and_eq_false_iff, decide_eq_false_iff_not, beq_eq_false_iff_ne] at *
        omega
    · rw [st2_i _ _ _ (by decide), w3 0 rfl]; exact h.2.1.2.1
    · rw [k1 37 (by decide) rfl]; exact h.x hx
    · rw [st2_i _ _ _ (by decide), w3 0 rfl] at hf
      exact (h.2.2.1 hf).fr (k1 17 (by decide) rfl) (k1 18 (by decide) rfl) (k1 19 (by decide) rfl) (k1 21 (by decide) rfl)
/-- the model has read -/
theorem e_rd (h : Inv P M) (hF : 1024 < F) : ∃ X, (∀ t, t < 3 → sX8_faultOf F (nI t) M = some (pf P t, X)) ∧ sX8_reads F M = some X ∧ sX8_there F M = some (nI (2 ^ pN P - 1), X) ∧ PM X (pN P) (pq P) (pL P) (pO P) ∧ PO X (pR P) (pK P) (pq1 P) (pq2 P) (pL P) (pG P) ∧ Inv P X := by
  obtain ⟨X, x1, x2, ⟨⟨m1, m2, m3⟩, m4, m5, m6⟩, y1, y2⟩ := e_faultOf (F := F) h.ti h.1.1.2.1 h.cr (by omega)
  have hs := h.se
  have hc := h.cr
  have hN : pN P ≤ 10 := (hc.1 0 (by decide)).2.1
  have hI : Inv P X := h.scr (fun k hk => y1 k (fun e => by rw [e] at hk; exact absurd hk (by decide)) (fun e => by rw [e] at hk; exact absurd hk (by decide)) (fun e => by rw [e] at hk; exact absurd hk (by decide)) (fun e => by rw [e] at hk; exact absurd hk (by decide))) y2
  refine ⟨X, x1, x2, ?_, ⟨⟨m1, hN, m4⟩, ⟨?_, hs.2.1⟩, ?_, hs.2.2.2.2⟩, ⟨⟨m2, (hc.1 1 (by decide)).2.1, m5⟩, ⟨m3, (hc.1 2 (by decide)).2.1, m6⟩, ⟨?_, hs.2.1⟩, ?_, hs.2.2.1⟩, hI⟩
  · unfold sX8_there
    rw [x2]
    simp only [ob_some]
    rw [m1, show P.2.2.1 0 = pN P from rfl, z_shl1 (by omega), z_subR (by have := pow_pos2 (pN P); omega)]
  · rw [y2 6 (by decide)]; exact (hs.1 0 (by decide)).2
  · rw [y2 9 (by decide)]; exact (hs.1 3 (by decide)).2
  · rw [y2 6 (by decide)]; exact (hs.1 0 (by decide)).2
  · rw [y2 7 (by decide)]; exact (hs.1 1 (by decide)).2
end State
