/-! both digests -/
section DigestB
variable {F : Nat} {P : Pm} {M : Mem}
theorem u_digest (hF : 1025 < F) {M : Mem} (hM : Iv M) : ∃ v M1 M2, sX7_digest F M = some (v, M1) ∧ sX8_digest F M1 = some (v, M2) ∧ Iv M2 := by
  obtain ⟨n, b, N, f, st, hI⟩ := hM
  generalize hP : (n, b, N, f, st, M) = P at hI
  have hW : Wf P := hI.1
  -- what it is made of
  have hrc : ∃ rc : Nat → Int32, ∀ i, Qz P (sX7_count F (nI i)) (rc i) ∧ Qy P (sX8_count F (nI i)) (rc i) := ⟨fun i => (q_count (P := P) hF (nI i)).choose, fun i => (q_count (P := P) hF (nI i)).choose_spec⟩
  obtain ⟨rc, hrc⟩ := hrc
  obtain ⟨v1, a1, b1⟩ := q_rows_n (P := P) hF
  obtain ⟨a2, b2⟩ := q_rows_v (P := P) hF (i := 0) (by decide)
  obtain ⟨a3, b3⟩ := q_rows_v (P := P) hF (i := 1) (by decide)
  obtain ⟨v4, a4, b4⟩ := q_sure_j (P := P) hF (j := 0) (by decide)
  obtain ⟨v5, a5, b5⟩ := q_sure_j (P := P) hF (j := 1) (by decide)
  obtain ⟨v6, a6, b6⟩ := q_cannot_j (P := P) hF (j := 0) (by decide)
  obtain ⟨v7, a7, b7⟩ := q_cannot_j (P := P) hF (j := 1) (by decide)
  obtain ⟨v8, a8, b8⟩ := q_freed_j (P := P) hF (j := 0) (by decide)
  obtain ⟨v9, a9, b9⟩ := q_freed_j (P := P) hF (j := 1) (by decide)
  obtain ⟨v10, a10, b10⟩ := q_broken_i (P := P) hF (i := 0) (by decide)
  obtain ⟨v11, a11, b11⟩ := q_broken_i (P := P) hF (i := 5) (by decide)
  obtain ⟨v12, a12, b12⟩ := q_broken_i (P := P) hF (i := 1023) (by decide)
  obtain ⟨v13, a13, b13⟩ := q_nearest_i (P := P) hF (i := 5) (by decide)
  obtain ⟨v14, a14, b14⟩ := q_steps_i (P := P) hF (i := 0) (k := 3) (by decide) (by decide)
  obtain ⟨v15, a15, b15⟩ := q_returns_i (P := P) hF (i := 0) (k := 0) (by decide) (by decide)
  obtain ⟨v16, a16, b16⟩ := q_returns_i (P := P) hF (i := 0) (k := 1) (by decide) (by decide)
  obtain ⟨v17, a17, b17⟩ := q_ringsN (P := P) hF
  have hu1 : ∀ p, ∃ r : Nat → Int32, p < 6 → ((Qz P (sX7_had F 1023 (nI p) 20) (r 0) ∧ Qz P (sX7_asked F 1023 (nI p) 20) (r 1) ∧ Qy P (sX7_best F (nI p) 0) (r 2) ∧ Qy P (sX7_best F (nI p) 1) (r 3) ∧ Qy P (sX7_owed F (nI p)) (r 4) ∧ Qy P (sX7_fines F (nI p)) (r 5)) ∧ (Qy P (sX8_hadOf F 1023 (nI p) 20) (r 0) ∧ Qy P (sX8_askedOf F 1023 (nI p) 20) (r 1) ∧ Qy P (sX8_bestOf F (nI p) 0) (r 2) ∧ Qy P (sX8_bestOf F (nI p) 1) (r 3) ∧ Qy P (sX8_owedOf F (nI p)) (r 4) ∧ Qy P (sX8_fines F (nI p)) (r 5))) := by
    intro p
    by_cases hp : p < 6
    · obtain ⟨r0, c0, d0⟩ := q_had_i (P := P) hF (i := 1023) (d := 20) (by decide) hp (by decide)
      obtain ⟨r1, c1, d1⟩ := q_asked_i (P := P) hF (i := 1023) (d := 20) (by decide) hp (by decide)
      obtain ⟨r2, c2, d2⟩ := q_best_p (P := P) hF (j := 0) hp (by decide)
      obtain ⟨r3, c3, d3⟩ := q_best_p (P := P) hF (j := 1) hp (by decide)
      have c4 := q_owedC (P := P) hF (some p) (fun p' e => by cases e; exact hp)
      have d4 := q_owedM (P := P) hF (some p) (fun p' e => by cases e; exact hp)
      obtain ⟨r5, c5, d5⟩ := q_fines (P := P) hF (nI p)
      exact ⟨fun w => if w = 0 then r0 else if w = 1 then r1 else if w = 2 then r2 else if w = 3 then r3 else if w = 4 then owV P (some p) else r5, fun _ => ⟨⟨c0, c1, c2, c3, c4, c5⟩, d0, d1, d2, d3, d4, d5⟩⟩
    · exact ⟨fun _ => 0, fun z => absurd z hp⟩
  obtain ⟨u, hu⟩ : ∃ u : Nat → Nat → Int32, ∀ p, p < 6 → ((Qz P (sX7_had F 1023 (nI p) 20) (u p 0) ∧ Qz P (sX7_asked F 1023 (nI p) 20) (u p 1) ∧ Qy P (sX7_best F (nI p) 0) (u p 2) ∧ Qy P (sX7_best F (nI p) 1) (u p 3) ∧ Qy P (sX7_owed F (nI p)) (u p 4) ∧ Qy P (sX7_fines F (nI p)) (u p 5)) ∧ (Qy P (sX8_hadOf F 1023 (nI p) 20) (u p 0) ∧ Qy P (sX8_askedOf F 1023 (nI p) 20) (u p 1) ∧ Qy P (sX8_bestOf F (nI p) 0) (u p 2) ∧ Qy P (sX8_bestOf F (nI p) 1) (u p 3) ∧ Qy P (sX8_owedOf F (nI p)) (u p 4) ∧ Qy P (sX8_fines F (nI p)) (u p 5))) := ⟨fun p => (hu1 p).choose, fun p hp => (hu1 p).choose_spec hp⟩
  obtain ⟨w1, e1, f1⟩ := q_open_i (P := P) hF (i := 1023) (d := 20) (by decide) (by decide)
  -- the first row
  have hx : ∃ x, x < 1024 ∧ imax 0 (rowV P 0) = nI x ∧ (¬ rowV P 0 = -1 → rowV P 0 = nI x) ∧ (rowV P 0 = -1 → nI x = 0) := by
    have hp10 := pow_le10 hI.n10.1
    unfold rowV
    by_cases c : 0 < cn (pq P) (pL P) (pN P) (pO P) (2 ^ pN P)
    · rw [if_pos c]
      have hps := (ps_spec (p := fp (pq P) (pL P) (pN P) (pO P)) (n := 2 ^ pN P) c).1
      refine ⟨ps (fp (pq P) (pL P) (pN P) (pO P)) (2 ^ pN P) 0, by omega, ?_, fun _ => rfl, fun z => absurd z (m1_ne (by omega))⟩
      unfold imax
      by_cases d : (0 : Int32) < nI (ps (fp (pq P) (pL P) (pN P) (pO P)) (2 ^ pN P) 0)
      · rw [if_pos d]
      · rw [if_neg d]
        have : ¬ 0 < ps (fp (pq P) (pL P) (pN P) (pO P)) (2 ^ pN P) 0 := fun z => d ((nI_ltI (a := 0) (by decide) (by omega)).mpr z)
        rw [show ps (fp (pq P) (pL P) (pN P) (pO P)) (2 ^ pN P) 0 = 0 by omega]
        rfl
    · rw [if_neg c]
      exact ⟨0, by decide, by decide, fun z => absurd rfl z, fun _ => rfl⟩
  obtain ⟨x, hx1, hx2, hx3, hx4⟩ := hx
  obtain ⟨w2, e2, f2⟩ := q_rest_i (P := P) hF (p := 0) hx1 (by decide)
  have e3 := q_owedC (P := P) hF none (fun p e => by simp at e)
  have f3 := q_owedM (P := P) hF none (fun p e => by simp at e)
  obtain ⟨w4, e4, f4⟩ := q_lackN (P := P) hF
  obtain ⟨w5, e5, f5⟩ := q_unaskedN (P := P) hF
  obtain ⟨w6, e6, f6⟩ := q_refused_j (P := P) hF hW (j := 0) (by decide)
  obtain ⟨w7, e7, f7⟩ := q_refused_j (P := P) hF hW (j := 1) (by decide)
  obtain ⟨w8, e8, f8⟩ := q_lot_n (P := P) hF 7 (n := 0) (by decide)
  obtain ⟨w9, e9, f9⟩ := q_lot_n (P := P) hF 7 (n := 20) (by decide)
  have key7 := d_head (F := F) (P := P) (rc := rc) (v := mx (mx (mx (mx (mx (mx (mx (mx (mx ((psV u (mx (mx (mx (mx (mx (mx (mx (mx (mx (mx (mx (mx (mx (mx (mx (mx (mx ((mtS P (mxs (pf P) (mxs rc 17 8) 3) (pN P))) v1) (rowV P 0)) (rowV P 1)) v4) v5) v6) v7) v8) v9) v10) v11) v12) v13) v14) v15) v16) v17) 6)) w1) w2) (owV P none)) w4) w5) w6) w7) w8) w9) hF (fun i _ => (hrc i).1) hI (fun M1 i1 => rr_bind (d_rows a1 a2 a3 a4 a5 a6 a7 a8 a9 a10 a11 a12 a13 a14 a15 a16 a17 _ i1) (fun M2 i2 => rr_bind (d_persons hF (fun p hp => (hu p hp).1) _ i2) (fun M3 i3' => rr_bind (d_all e1 a2 hx2 e2 e3 e4 e5 e6 e7 e8 e9 _ i3') (fun M4 i4 => ⟨M4, rfl, i4⟩))))
  obtain ⟨M1, m1, i1⟩ := key7
  have key8 := d_model (F := F) (P := P) (rc := rc) (rr := fun i => if i = 0 then v1 else if i = 1 then rowV P 0 else rowV P 1) (rs := fun i => if i = 0 then v4 else v5) (rk := fun i => if i = 0 then v6 else v7) (rf2 := fun i => if i = 0 then v8 else v9) hF (fun i _ => (hrc i).2) (fun i hi => by
    rcases (show i = 0 ∨ i = 1 ∨ i = 2 by omega) with c | c | c <;> subst c
    · exact b1
    · exact b2
    · exact b3) (fun i hi => by
    rcases two hi with c | c <;> subst c
    · exact b4
    · exact b5) (fun i hi => by
    rcases two hi with c | c <;> subst c
    · exact b6
    · exact b7) (fun i hi => by
    rcases two hi with c | c <;> subst c
    · exact b8
    · exact b9) b10 b11 b12 b13 b14 b15 b16 b17 (fun p hp => (hu p hp).2) f1 b2 ⟨hx3, hx4⟩ f2 f3 f4 f5 f6 f7 f8 f9 i1
  obtain ⟨M2, m2, i2⟩ := key8
  exact ⟨_, M1, M2, m1, m2, i2.iv⟩
end DigestB
