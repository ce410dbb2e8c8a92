/-! digest -/
section DigestC
variable {F : Nat} {P : Pm} {M : Mem}
def mx (h : Int64) (v : Int32) : Int64 := 31 * h + v.toInt64
def mxs (r : Nat → Int32) (h : Int64) : Nat → Int64
  | 0 => h
  | i + 1 => mx (mxs r h i) (r i)
def Rr (P : Pm) (v : Int64) (o : Option (Int64 × Mem)) : Prop := ∃ M2, o = some (v, M2) ∧ Inv P M2
theorem qb {g : Mem → Option (Int32 × Mem)} {r : Int32} (hq : Qy P g r) (hM : Inv P M) {k : Int32 × Mem → Option (Int64 × Mem)} {v : Int64} (hk : ∀ M1, Inv P M1 → Rr P v (k (r, M1))) : Rr P v ((g M).bind k) := by
  obtain ⟨M1, a, b⟩ := hq M hM
  rw [a]
  exact hk M1 b
theorem qz {g : Mem → Option Int32} {r : Int32} (hq : Qz P g r) (hM : Inv P M) {k : Int32 → Option (Int64 × Mem)} {v : Int64} (hk : Rr P v (k r)) : Rr P v ((g M).bind k) := by
  rw [hq M hM]
  exact hk
theorem qm {h : Int64} {x : Int32} {k : Int64 → Option (Int64 × Mem)} {v : Int64} (hk : Rr P v (k (mx h x))) : Rr P v ((sX7_mixed F h x M).bind k) := hk
theorem fx3_s {β : Type} {g : (Int64 → Int32 → Mem → Option β) → Int64 → Int32 → Mem → Option β} (H : Nat → Int64) (I : Nat → Int32) (e : Nat) (R : Option β → Prop) (S : Nat → Mem → Prop) (hs : ∀ i, i < e → ∀ M, S i M → ∃ M', S (i + 1) M' ∧ ∀ rec : Int64 → Int32 → Mem → Option β, g rec (H i) (I i) M = rec (H (i + 1)) (I (i + 1)) M') (he : ∀ M, S e M → ∀ rec : Int64 → Int32 → Mem → Option β, R (g rec (H e) (I e) M)) : ∀ n i M, i ≤ e → e - i < n → S i M → R (fx3 n g (H i) (I i) M) := by
  intro n
  induction n with
  | zero => intro i M _ h; omega
  | succ n ih =>
    intro i M hi h hS
    show R (g (fx3 n g) (H i) (I i) M)
    by_cases hie : i = e
    · subst hie; exact he M hS _
    · obtain ⟨M', s1, s2⟩ := hs i (by omega) M hS
      rw [s2]
      exact ih (i + 1) M' (by omega) (by omega) s1
/-- what the digest is made of -/
def rowV (P : Pm) (i : Nat) : Int32 := if i < cn (pq P) (pL P) (pN P) (pO P) (2 ^ pN P) then nI (ps (fp (pq P) (pL P) (pN P) (pO P)) (2 ^ pN P) i) else -1
theorem q_rows_v (hF : 1025 < F) {i : Nat} (hi : i < 1024) : Qy P (sX7_rows F (nI i)) (rowV P i) ∧ Qy P (sX8_rowsOf F (nI i)) (rowV P i) := by
  refine ⟨fun M h => ?_, fun M h => ?_⟩
  · obtain ⟨M1, a1, a2, a3⟩ := e_rowsNow (F := F) h (by omega)
    refine ⟨M1, ?_, a2⟩
    unfold sX7_rows
    rw [if_neg (show ¬ nI i < -1 from fun z => by
      rw [Int32.lt_iff_toInt_lt, nI_toInt (by omega)] at z
      have : ((-1 : Int32)).toInt = -1 := by decide
      omega), if_pos (show nI i < 1024 from (nI_ltI (b := 1024) (by omega) (by decide)).mpr hi), if_pos (m1_ne (by omega)), a1]
    simp only [ob_some, nm_eq, if_true, if_false, Bool.false_eq_true, not_true_eq_false, not_false_eq_true]
    rw [e_nth a3 hi]
    rfl
  · obtain ⟨X, -, -, x3, x4, -, x6⟩ := e_rd (F := F) h (by omega)
    exact ⟨X, e_rowsOf_i x3 x4 (by omega) hi, x6⟩
def mtS (P : Pm) (h : Int64) : Nat → Int64
  | 0 => h
  | m + 1 => mx (mxs (fun w => pM P 12 (6 * m + w)) (mtS P h m) 6) (nI (CB (pq P) (pL P) (pN P) m (pN P)))
theorem d_rows {v1 v2 v3 v4 v5 v6 v7 v8 v9 v10 v11 v12 v13 v14 v15 v16 v17 : Int32} (h1 : Qy P (sX7_rows F (-1)) v1) (h2 : Qy P (sX7_rows F 0) v2) (h3 : Qy P (sX7_rows F 1) v3) (h4 : Qy P (sX7_sure F 0) v4) (h5 : Qy P (sX7_sure F 1) v5) (h6 : Qy P (sX7_cannot F 0) v6) (h7 : Qy P (sX7_cannot F 1) v7) (h8 : Qy P (sX7_freed F 0) v8) (h9 : Qy P (sX7_freed F 1) v9) (h10 : Qy P (sX7_broken F 0) v10) (h11 : Qy P (sX7_broken F 5) v11) (h12 : Qy P (sX7_broken F 1023) v12) (h13 : Qy P (sX7_nearest F 5) v13) (h14 : Qy P (sX7_steps F 0 3) v14) (h15 : Qy P (sX7_returns F 0 0) v15) (h16 : Qy P (sX7_returns F 0 1) v16) (h17 : Qy P (sX7_rings F) v17) (h : Int64) (hM : Inv P M) : Rr P (mx (mx (mx (mx (mx (mx (mx (mx (mx (mx (mx (mx (mx (mx (mx (mx (mx h v1) v2) v3) v4) v5) v6) v7) v8) v9) v10) v11) v12) v13) v14) v15) v16) v17) (sX7_mixedWithRows F h M) := by
  unfold sX7_mixedWithRows
  refine qb h1 hM (fun M1 i1 => ?_)
  refine qm ?_
  refine qb h2 i1 (fun M2 i2 => ?_)
  refine qm ?_
  refine qb h3 i2 (fun M3 i3 => ?_)
  refine qm ?_
  refine qb h4 i3 (fun M4 i4 => ?_)
  refine qm ?_
  refine qb h5 i4 (fun M5 i5 => ?_)
  refine qm ?_
  refine qb h6 i5 (fun M6 i6 => ?_)
  refine qm ?_
  refine qb h7 i6 (fun M7 i7 => ?_)
  refine qm ?_
  refine qb h8 i7 (fun M8 i8 => ?_)
  refine qm ?_
  refine qb h9 i8 (fun M9 i9 => ?_)
  refine qm ?_
  refine qb h10 i9 (fun M10 i10 => ?_)
  refine qm ?_
  refine qb h11 i10 (fun M11 i11 => ?_)
  refine qm ?_
  refine qb h12 i11 (fun M12 i12 => ?_)
  refine qm ?_
  refine qb h13 i12 (fun M13 i13 => ?_)
  refine qm ?_
  refine qb h14 i13 (fun M14 i14 => ?_)
  refine qm ?_
  refine qb h15 i14 (fun M15 i15 => ?_)
  refine qm ?_
  refine qb h16 i15 (fun M16 i16 => ?_)
  refine qm ?_
  refine qb h17 i16 (fun M17 i17 => ?_)
  refine qm ?_
  exact ⟨_, rfl, i17⟩
/-- one person's part -/
def psV (u : Nat → Nat → Int32) (h : Int64) : Nat → Int64
  | 0 => h
  | p + 1 => mxs (u p) (psV u h p) 6
theorem d_persons {u : Nat → Nat → Int32} (hF : 1025 < F) (hu : ∀ p, p < 6 → Qz P (sX7_had F 1023 (nI p) 20) (u p 0) ∧ Qz P (sX7_asked F 1023 (nI p) 20) (u p 1) ∧ Qy P (sX7_best F (nI p) 0) (u p 2) ∧ Qy P (sX7_best F (nI p) 1) (u p 3) ∧ Qy P (sX7_owed F (nI p)) (u p 4) ∧ Qy P (sX7_fines F (nI p)) (u p 5)) (h : Int64) (hM : Inv P M) : Rr P (psV u h 6) (sX7_mixedWithPersons F h M) := by
  unfold sX7_mixedWithPersons
  refine fx3_s (g := sX7_mixedWithPersons_L5 F) (fun p => psV u h p) (fun p => nI p) 6 (Rr P (psV u h 6)) (fun _ M => Inv P M) (fun p hp M hM => ?_) (fun M hM rec => ?_) F 0 M (Nat.zero_le _) (by omega) hM
  · obtain ⟨u0, u1, u2, u3, u4, u5⟩ := hu p hp
    obtain ⟨M1, a1, b1⟩ := u2 M hM
    obtain ⟨M2, a2, b2⟩ := u3 M1 b1
    obtain ⟨M3, a3, b3⟩ := u4 M2 b2
    obtain ⟨M4, a4, b4⟩ := u5 M3 b3
    refine ⟨M4, b4, fun rec => ?_⟩
    unfold sX7_mixedWithPersons_L5 sX7_mixed
    rw [if_neg (show ¬ (6 : Int32) ≤ nI p from nI_ge (b := 6) hp (by decide)), u0 M hM, ob_some, ob_some, u1 M hM, ob_some, ob_some, a1, ob_some, ob_some, a2, ob_some, ob_some, a3, ob_some, ob_some, a4, ob_some, ob_some, z_addR]
    rfl
  · unfold sX7_mixedWithPersons_L5
    rw [if_pos (by decide)]
    exact ⟨M, rfl, hM⟩
theorem d_matters (hF : 1025 < F) (h : Int64) (hM : Inv P M) : Rr P (mtS P h (pN P)) (sX7_mixedWithMatters F h M) := by
  have h10 := hM.n10.1
  unfold sX7_mixedWithMatters sX1_howMany
  rw [z_ibL (by decide) (by decide), z_ixL (by decide), show (8 + 1 + OfNat.ofNat 0 : Nat) = 9 from rfl, hM.pc.1, ob_some]
  refine fx3_s (g := sX7_mixedWithMatters_L16 F (nI (pN P))) (fun m => mtS P h m) (fun m => nI m) (pN P) (Rr P (mtS P h (pN P))) (fun _ M => Inv P M) (fun m hm M hM => ?_) (fun M hM rec => ?_) F 0 M (Nat.zero_le _) (by omega) hM
  · obtain ⟨M1, a1, b1⟩ := q_hangs_m (P := P) hF hm M hM
    refine ⟨M1, b1, fun rec => ?_⟩
    unfold sX7_mixedWithMatters_L16
    rw [if_neg (nI_ge hm (by omega))]
    simp only [nm_eq]
    have key := fx2_road (g := sX7_mixedWithMatters_L26 F (nI m) M (fun p7 => (sX7_hangs F (nI m) M).bind (fun r9 => (sX7_mixed F p7 r9.1 r9.2).bind (fun r10 => rec r10 (nI m + 1) r9.2)))) (fun w => mxs (fun w => pM P 12 (6 * m + w)) (mtS P h m) w) (fun w => nI w) 6 (rec (mtS P h (m + 1)) (nI (m + 1)) M1) (fun w hw rec2 => by
      unfold sX7_mixedWithMatters_L26 sX7_mixed
      rw [if_neg (show ¬ (6 : Int32) ≤ nI w from nI_ge (b := 6) hw (by decide)), q_matter_mw hm hw M hM, ob_some, ob_some, z_addR]
      rfl) (fun rec2 => by
      unfold sX7_mixedWithMatters_L26 sX7_mixed
      rw [if_pos (by decide), a1, z_addR]
      rfl) F 0 (Nat.zero_le _) (by omega)
    exact key
  · unfold sX7_mixedWithMatters_L16
    rw [if_pos (nI_le (Nat.le_refl _) (by omega))]
    exact ⟨M, rfl, hM⟩
theorem d_all {w1 r0 x0 w2 w3 w4 w5 w6 w7 w8 w9 : Int32} (h1 : Qz P (sX7_open F 1023 20) w1) (h0 : Qy P (sX7_rows F 0) r0) (hx : imax 0 r0 = x0) (h2 : Qy P (sX7_rest F x0 0) w2) (h3 : Qy P (sX7_owed F (-1)) w3) (h4 : Qy P (sX7_lack F) w4) (h5 : Qy P (sX7_unasked F) w5) (h6 : Qy P (sX7_refused F 0) w6) (h7 : Qy P (sX7_refused F 1) w7) (h8 : Qy P (sX7_lot F 7 0) w8) (h9 : Qy P (sX7_lot F 7 20) w9) (h : Int64) (hM : Inv P M) : Rr P (mx (mx (mx (mx (mx (mx (mx (mx (mx h w1) w2) w3) w4) w5) w6) w7) w8) w9) (sX7_mixedWithAll F h M) := by
  unfold sX7_mixedWithAll
  refine qz h1 hM ?_
  refine qm ?_
  refine qb h0 hM (fun M1 i1 => ?_)
  subst hx
  refine qb h2 i1 (fun M2 i2 => ?_)
  refine qm ?_
  refine qb h3 i2 (fun M3 i3 => ?_)
  refine qm ?_
  refine qb h4 i3 (fun M4 i4 => ?_)
  refine qm ?_
  refine qb h5 i4 (fun M5 i5 => ?_)
  refine qm ?_
  refine qb h6 i5 (fun M6 i6 => ?_)
  refine qm ?_
  refine qb h7 i6 (fun M7 i7 => ?_)
  refine qm ?_
  refine qb h8 i7 (fun M8 i8 => ?_)
  refine qm ?_
  refine qb h9 i8 (fun M9 i9 => ?_)
  refine qm ?_
  exact ⟨_, rfl, i9⟩
theorem d_head {rc : Nat → Int32} (hF : 1025 < F) (hc : ∀ i, i < 8 → Qz P (sX7_count F (nI i)) (rc i)) {v : Int64} (hM : Inv P M) (hv : ∀ M1, Inv P M1 → Rr P v ((sX7_mixedWithRows F (mtS P (mxs (pf P) (mxs rc 17 8) 3) (pN P)) M1).bind (fun r6 => (sX7_mixedWithPersons F r6.1 r6.2).bind (fun r7 => (sX7_mixedWithAll F r7.1 r7.2).bind (fun r8 => some (r8.1, r8.2)))))) : Rr P v (sX7_digest F M) := by
  unfold sX7_digest
  simp only [nm_eq]
  have e1 : ∀ J : Int64 → Option (Int64 × Mem), fx2 F (sX7_digest_L6 F M J) 17 0 = J (mxs rc 17 8) := fun J => by
    refine fx2_road (g := sX7_digest_L6 F M J) (fun i => mxs rc 17 i) (fun i => nI i) 8 _ (fun i hi rec => ?_) (fun rec => ?_) F 0 (Nat.zero_le _) (by omega)
    · unfold sX7_digest_L6 sX7_mixed
      rw [if_neg (show ¬ (7 : Int32) < nI i from fun z => by have := (nI_ltI (a := 7) (by decide) (by omega)).mp z; omega), hc i hi M hM, ob_some, ob_some, z_addR]
      rfl
    · unfold sX7_digest_L6
      rw [if_pos (by decide)]
  have e2 : ∀ (h : Int64) (J : Int64 → Option (Int64 × Mem)), fx2 F (sX7_digest_L30 F M J) h 0 = J (mxs (pf P) h 3) := fun h J => by
    refine fx2_road (g := sX7_digest_L30 F M J) (fun i => mxs (pf P) h i) (fun i => nI i) 3 _ (fun i hi rec => ?_) (fun rec => ?_) F 0 (Nat.zero_le _) (by omega)
    · unfold sX7_digest_L30 sX7_mixed
      rw [if_neg (show ¬ (3 : Int32) ≤ nI i from nI_ge (b := 3) hi (by decide)), (q_fault_t hF hi).1 M hM, ob_some, ob_some, z_addR]
      rfl
    · unfold sX7_digest_L30
      rw [if_pos (by decide)]
  rw [e1, e2]
  obtain ⟨M1, a1, b1⟩ := d_matters (F := F) hF (mxs (pf P) (mxs rc 17 8) 3) hM
  rw [a1]
  exact hv M1 b1
theorem rr_bind {v v2 : Int64} {o : Option (Int64 × Mem)} (h : Rr P v o) {k : Int64 × Mem → Option (Int64 × Mem)} (hk : ∀ M1, Inv P M1 → Rr P v2 (k (v, M1))) : Rr P v2 (o.bind k) := by
  obtain ⟨M1, a, b⟩ := h
  rw [a]
  exact hk M1 b
end DigestC
