/-! the law's loop: every call is answered alike -/
section LawP
variable {F : Nat} {M : Mem}
theorem n10w {P : Pm} (h : Wf P) : pN P ≤ 10 := (h.1.2.2.1 0 (by decide)).2.1
theorem law_turn (hF : 1025 < F) {L k : Nat} (hk : 6 * k + 6 ≤ L) (hL : L ≤ 384) (xs : Nat → Int32) (hM : Iv M) (rec : Int32 → Mem → Option Unit) : ∃ M2, Iv M2 ∧ sL_law_L18 F L xs rec (nI (6 * k)) M = rec (nI (6 * (k + 1))) M2 := by
  unfold sL_law_L18
  have hcond : ¬ (Int32.ofNat L - 6) < nI (6 * k) := by
    rw [Int32.lt_iff_toInt_lt, show Int32.ofNat L - 6 = nI L - nI 6 from rfl, pk_sub_toInt (by omega) (by decide), nI_toInt (by omega)]
    omega
  rw [if_neg hcond, z_ib (by omega) (by omega)]
  have j1 : ∀ o : Option Unit, ib (nI (6 * k) + 1) L o = o := fun o => by rw [z_addR, z_ib (by omega) (by omega)]
  have j2 : ∀ o : Option Unit, ib (nI (6 * k) + 2) L o = o := fun o => by rw [z_addR, z_ib (by omega) (by omega)]
  have j3 : ∀ o : Option Unit, ib (nI (6 * k) + 3) L o = o := fun o => by rw [z_addR, z_ib (by omega) (by omega)]
  have j4 : ∀ o : Option Unit, ib (nI (6 * k) + 4) L o = o := fun o => by rw [z_addR, z_ib (by omega) (by omega)]
  have j5 : ∀ o : Option Unit, ib (nI (6 * k) + 5) L o = o := fun o => by rw [z_addR, z_ib (by omega) (by omega)]
  have y0 : ix (nI (6 * k)) = 6 * k := z_ix (by omega)
  have y1 : ix (nI (6 * k) + 1) = 6 * k + 1 := by rw [z_addR, z_ix (by omega)]
  have y2 : ix (nI (6 * k) + 2) = 6 * k + 2 := by rw [z_addR, z_ix (by omega)]
  have y3 : ix (nI (6 * k) + 3) = 6 * k + 3 := by rw [z_addR, z_ix (by omega)]
  have y4 : ix (nI (6 * k) + 4) = 6 * k + 4 := by rw [z_addR, z_ix (by omega)]
  have y5 : ix (nI (6 * k) + 5) = 6 * k + 5 := by rw [z_addR, z_ix (by omega)]
  have y6 : nI (6 * k) + 6 = nI (6 * k + 6) := z_addR _ _
  simp (maxSteps := 10000000) only [nm_eq, j1, j2, j3, j4, j5, y0, y1, y2, y3, y4, y5, y6]
  rw [show 6 * (k + 1) = 6 * k + 6 by omega]
  generalize xs (6 * k + 1) = a1
  generalize xs (6 * k + 2) = a2
  generalize xs (6 * k + 3) = a3
  generalize xs (6 * k + 4) = a4
  generalize xs (6 * k + 5) = a5
  generalize xs (6 * k) &&& 63 = v
  rcases Decidable.em (v = 0) with c0 | c0
  · rw [if_pos c0]
    have hu : Up (sX7_type F a1 a2) (sX8_type F a1 a2) := u_type hF a1 a2
    obtain ⟨r, M1, M2, e1, e2, e3⟩ := hu M hM
    rw [e1, ob_some, e2, ob_some, if_pos rfl]
    exact ⟨M2, e3, rfl⟩
  rw [if_neg c0]
  rcases Decidable.em (v = 1) with c1 | c1
  · rw [if_pos c1]
    have hu : Up (sX7_wipe F a1) (sX8_wipe F a1) := u_wipe hF a1
    obtain ⟨r, M1, M2, e1, e2, e3⟩ := hu M hM
    rw [e1, ob_some, e2, ob_some, if_pos rfl]
    exact ⟨M2, e3, rfl⟩
  rw [if_neg c1]
  rcases Decidable.em (v = 2) with c2 | c2
  · rw [if_pos c2]
    have hu : Up (sX7_undo F a1) (sX8_undo F a1) := u_undo hF a1
    obtain ⟨r, M1, M2, e1, e2, e3⟩ := hu M hM
    rw [e1, ob_some, e2, ob_some, if_pos rfl]
    exact ⟨M2, e3, rfl⟩
  rw [if_neg c2]
  rcases Decidable.em (v = 3) with c3 | c3
  · rw [if_pos c3]
    have hu : Uq (sX7_fault F a1) (sX8_fault F a1) := ask_uq (fun P _ => q_fault hF a1)
    obtain ⟨r, M2, e1, e2, e3⟩ := hu M hM
    rw [e1, ob_some, e2, ob_some, if_pos rfl]
    exact ⟨M2, e3, rfl⟩
  rw [if_neg c3]
  rcases Decidable.em (v = 4) with c4 | c4
  · rw [if_pos c4]
    have hu : Uq (sX7_matter F a1 a2) (sX8_matter F a1 a2) := ask_uq (fun P hW => q_matter hF (n10w hW) a1 a2)
    obtain ⟨r, M2, e1, e2, e3⟩ := hu M hM
    rw [e1, ob_some, e2, ob_some, if_pos rfl]
    exact ⟨M2, e3, rfl⟩
  rw [if_neg c4]
  rcases Decidable.em (v = 5) with c5 | c5
  · rw [if_pos c5]
    have hu : Up (sX7_set F a1 a2) (sX8_set F a1 a2) := u_set hF a1 a2
    obtain ⟨r, M1, M2, e1, e2, e3⟩ := hu M hM
    rw [e1, ob_some, e2, ob_some, if_pos rfl]
    exact ⟨M2, e3, rfl⟩
  rw [if_neg c5]
  rcases Decidable.em (v = 6) with c6 | c6
  · rw [if_pos c6]
    have hu : Up (sX7_worth F a1 a2) (sX8_worth F a1 a2) := u_worth hF a1 a2
    obtain ⟨r, M1, M2, e1, e2, e3⟩ := hu M hM
    rw [e1, ob_some, e2, ob_some, if_pos rfl]
    exact ⟨M2, e3, rfl⟩
  rw [if_neg c6]
  rcases Decidable.em (v = 7) with c7 | c7
  · rw [if_pos c7]
    have hu : Up (sX7_read F a1) (sX8_read F a1) := u_read hF a1
    obtain ⟨r, M1, M2, e1, e2, e3⟩ := hu M hM
    rw [e1, ob_some, e2, ob_some, if_pos rfl]
    exact ⟨M2, e3, rfl⟩
  rw [if_neg c7]
  rcases Decidable.em (v = 8) with c8 | c8
  · rw [if_pos c8]
    have hu : Up (sX7_rows F a1) (sX8_rows F a1) := ask_up (fun P _ => q_rows hF a1)
    obtain ⟨r, M1, M2, e1, e2, e3⟩ := hu M hM
    rw [e1, ob_some, e2, ob_some, if_pos rfl]
    exact ⟨M2, e3, rfl⟩
  rw [if_neg c8]
  rcases Decidable.em (v = 9) with c9 | c9
  · rw [if_pos c9]
    have hu : Up (sX7_sure F a1) (sX8_sure F a1) := ask_up (fun P _ => q_sure hF a1)
    obtain ⟨r, M1, M2, e1, e2, e3⟩ := hu M hM
    rw [e1, ob_some, e2, ob_some, if_pos rfl]
    exact ⟨M2, e3, rfl⟩
  rw [if_neg c9]
  rcases Decidable.em (v = 10) with c10 | c10
  · rw [if_pos c10]
    have hu : Up (sX7_cannot F a1) (sX8_cannot F a1) := ask_up (fun P _ => q_cannot hF a1)
    obtain ⟨r, M1, M2, e1, e2, e3⟩ := hu M hM
    rw [e1, ob_some, e2, ob_some, if_pos rfl]
    exact ⟨M2, e3, rfl⟩
  rw [if_neg c10]
  rcases Decidable.em (v = 11) with c11 | c11
  · rw [if_pos c11]
    have hu : Up (sX7_freed F a1) (sX8_freed F a1) := ask_up (fun P _ => q_freed hF a1)
    obtain ⟨r, M1, M2, e1, e2, e3⟩ := hu M hM
    rw [e1, ob_some, e2, ob_some, if_pos rfl]
    exact ⟨M2, e3, rfl⟩
  rw [if_neg c11]
  rcases Decidable.em (v = 12) with c12 | c12
  · rw [if_pos c12]
    have hu : Up (sX7_broken F a1) (sX8_broken F a1) := ask_up (fun P _ => q_broken hF a1)
    obtain ⟨r, M1, M2, e1, e2, e3⟩ := hu M hM
    rw [e1, ob_some, e2, ob_some, if_pos rfl]
    exact ⟨M2, e3, rfl⟩
  rw [if_neg c12]
  rcases Decidable.em (v = 13) with c13 | c13
  · rw [if_pos c13]
    have hu : Up (sX7_nearest F a1) (sX8_nearest F a1) := ask_up (fun P _ => q_nearest hF a1)
    obtain ⟨r, M1, M2, e1, e2, e3⟩ := hu M hM
    rw [e1, ob_some, e2, ob_some, if_pos rfl]
    exact ⟨M2, e3, rfl⟩
  rw [if_neg c13]
  rcases Decidable.em (v = 14) with c14 | c14
  · rw [if_pos c14]
    have hu : Up (sX7_steps F a1 a2) (sX8_steps F a1 a2) := ask_up (fun P _ => q_steps hF a1 a2)
    obtain ⟨r, M1, M2, e1, e2, e3⟩ := hu M hM
    rw [e1, ob_some, e2, ob_some, if_pos rfl]
    exact ⟨M2, e3, rfl⟩
  rw [if_neg c14]
  rcases Decidable.em (v = 15) with c15 | c15
  · rw [if_pos c15]
    have hu : Up (sX7_returns F a1 a2) (sX8_returns F a1 a2) := ask_up (fun P _ => q_returns hF a1 a2)
    obtain ⟨r, M1, M2, e1, e2, e3⟩ := hu M hM
    rw [e1, ob_some, e2, ob_some, if_pos rfl]
    exact ⟨M2, e3, rfl⟩
  rw [if_neg c15]
  rcases Decidable.em (v = 16) with c16 | c16
  · rw [if_pos c16]
    have hu : Up (sX7_hangs F a1) (sX8_hangs F a1) := ask_up (fun P hW => q_hangs hF (n10w hW) a1)
    obtain ⟨r, M1, M2, e1, e2, e3⟩ := hu M hM
    rw [e1, ob_some, e2, ob_some, if_pos rfl]
    exact ⟨M2, e3, rfl⟩
  rw [if_neg c16]
  rcases Decidable.em (v = 17) with c17 | c17
  · rw [if_pos c17]
    have hu : Up (sX7_rings F) (sX8_rings F) := ask_up (fun P _ => q_rings hF)
    obtain ⟨r, M1, M2, e1, e2, e3⟩ := hu M hM
    rw [e1, ob_some, e2, ob_some, if_pos rfl]
    exact ⟨M2, e3, rfl⟩
  rw [if_neg c17]
  rcases Decidable.em (v = 18) with c18 | c18
  · rw [if_pos c18]
    have hu : Uq (sX7_had F a1 a2 a3) (sX8_had F a1 a2 a3) := ask_uq (fun P _ => q_had hF a1 a2 a3)
    obtain ⟨r, M2, e1, e2, e3⟩ := hu M hM
    rw [e1, ob_some, e2, ob_some, if_pos rfl]
    exact ⟨M2, e3, rfl⟩
  rw [if_neg c18]
  rcases Decidable.em (v = 19) with c19 | c19
  · rw [if_pos c19]
    have hu : Uq (sX7_asked F a1 a2 a3) (sX8_asked F a1 a2 a3) := ask_uq (fun P _ => q_asked hF a1 a2 a3)
    obtain ⟨r, M2, e1, e2, e3⟩ := hu M hM
    rw [e1, ob_some, e2, ob_some, if_pos rfl]
    exact ⟨M2, e3, rfl⟩
  rw [if_neg c19]
  rcases Decidable.em (v = 20) with c20 | c20
  · rw [if_pos c20]
    have hu : Uq (sX7_open F a1 a2) (sX8_open F a1 a2) := ask_uq (fun P _ => q_open hF a1 a2)
    obtain ⟨r, M2, e1, e2, e3⟩ := hu M hM
    rw [e1, ob_some, e2, ob_some, if_pos rfl]
    exact ⟨M2, e3, rfl⟩
  rw [if_neg c20]
  rcases Decidable.em (v = 21) with c21 | c21
  · rw [if_pos c21]
    have hu : Up (sX7_best F a1 a2) (sX8_best F a1 a2) := ask_up (fun P _ => q_best hF a1 a2)
    obtain ⟨r, M1, M2, e1, e2, e3⟩ := hu M hM
    rw [e1, ob_some, e2, ob_some, if_pos rfl]
    exact ⟨M2, e3, rfl⟩
  rw [if_neg c21]
  rcases Decidable.em (v = 22) with c22 | c22
  · rw [if_pos c22]
    have hu : Up (sX7_rest F a1 a2) (sX8_rest F a1 a2) := ask_up (fun P _ => q_rest hF a1 a2)
    obtain ⟨r, M1, M2, e1, e2, e3⟩ := hu M hM
    rw [e1, ob_some, e2, ob_some, if_pos rfl]
    exact ⟨M2, e3, rfl⟩
  rw [if_neg c22]
  rcases Decidable.em (v = 23) with c23 | c23
  · rw [if_pos c23]
    have hu : Up (sX7_owed F a1) (sX8_owed F a1) := ask_up (fun P _ => q_owed hF a1)
    obtain ⟨r, M1, M2, e1, e2, e3⟩ := hu M hM
    rw [e1, ob_some, e2, ob_some, if_pos rfl]
    exact ⟨M2, e3, rfl⟩
  rw [if_neg c23]
  rcases Decidable.em (v = 24) with c24 | c24
  · rw [if_pos c24]
    have hu : Up (sX7_lack F) (sX8_lack F) := ask_up (fun P _ => q_lack hF)
    obtain ⟨r, M1, M2, e1, e2, e3⟩ := hu M hM
    rw [e1, ob_some, e2, ob_some, if_pos rfl]
    exact ⟨M2, e3, rfl⟩
  rw [if_neg c24]
  rcases Decidable.em (v = 25) with c25 | c25
  · rw [if_pos c25]
    have hu : Up (sX7_unasked F) (sX8_unasked F) := ask_up (fun P _ => q_unasked hF)
    obtain ⟨r, M1, M2, e1, e2, e3⟩ := hu M hM
    rw [e1, ob_some, e2, ob_some, if_pos rfl]
    exact ⟨M2, e3, rfl⟩
  rw [if_neg c25]
  rcases Decidable.em (v = 26) with c26 | c26
  · rw [if_pos c26]
    have hu : Up (sX7_fines F a1) (sX8_fines F a1) := ask_up (fun P _ => q_fines hF a1)
    obtain ⟨r, M1, M2, e1, e2, e3⟩ := hu M hM
    rw [e1, ob_some, e2, ob_some, if_pos rfl]
    exact ⟨M2, e3, rfl⟩
  rw [if_neg c26]
  rcases Decidable.em (v = 27) with c27 | c27
  · rw [if_pos c27]
    have hu : Up (sX7_seen F a1 a2) (sX8_seen F a1 a2) := u_seen hF a1 a2
    obtain ⟨r, M1, M2, e1, e2, e3⟩ := hu M hM
    rw [e1, ob_some, e2, ob_some, if_pos rfl]
    exact ⟨M2, e3, rfl⟩
  rw [if_neg c27]
  rcases Decidable.em (v = 28) with c28 | c28
  · rw [if_pos c28]
    have hu : Up (sX7_forget F) (sX8_forget F) := u_forget hF
    obtain ⟨r, M1, M2, e1, e2, e3⟩ := hu M hM
    rw [e1, ob_some, e2, ob_some, if_pos rfl]
    exact ⟨M2, e3, rfl⟩
  rw [if_neg c28]
  rcases Decidable.em (v = 29) with c29 | c29
  · rw [if_pos c29]
    have hu : Up (sX7_refused F a1) (sX8_refused F a1) := ask_up (fun P hW => q_refused hF hW a1)
    obtain ⟨r, M1, M2, e1, e2, e3⟩ := hu M hM
    rw [e1, ob_some, e2, ob_some, if_pos rfl]
    exact ⟨M2, e3, rfl⟩
  rw [if_neg c29]
  rcases Decidable.em (v = 30) with c30 | c30
  · rw [if_pos c30]
    have hu : Up (sX7_lot F a1 a2) (sX8_lot F a1 a2) := ask_up (fun P _ => q_lot hF a1 a2)
    obtain ⟨r, M1, M2, e1, e2, e3⟩ := hu M hM
    rw [e1, ob_some, e2, ob_some, if_pos rfl]
    exact ⟨M2, e3, rfl⟩
  rw [if_neg c30]
  rcases Decidable.em (v = 31) with c31 | c31
  · rw [if_pos c31]
    have hu : Up (sX7_sheet F a1 a2 a3) (sX8_sheet F a1 a2 a3) := u_sheet hF a1 a2 a3
    obtain ⟨r, M1, M2, e1, e2, e3⟩ := hu M hM
    rw [e1, ob_some, e2, ob_some, if_pos rfl]
    exact ⟨M2, e3, rfl⟩
  rw [if_neg c31]
  rcases Decidable.em (v = 32) with c32 | c32
  · rw [if_pos c32]
    have hu : Up (sX7_lose F a1) (sX8_lose F a1) := u_lose hF a1
    obtain ⟨r, M1, M2, e1, e2, e3⟩ := hu M hM
    rw [e1, ob_some, e2, ob_some, if_pos rfl]
    exact ⟨M2, e3, rfl⟩
  rw [if_neg c32]
  rcases Decidable.em (v = 33) with c33 | c33
  · rw [if_pos c33]
    have hu : Up (sX7_put F a1 a2 a3 a4) (sX8_put F a1 a2 a3 a4) := u_put hF a1 a2 a3 a4
    obtain ⟨r, M1, M2, e1, e2, e3⟩ := hu M hM
    rw [e1, ob_some, e2, ob_some, if_pos rfl]
    exact ⟨M2, e3, rfl⟩
  rw [if_neg c33]
  rcases Decidable.em (v = 34) with c34 | c34
  · rw [if_pos c34]
    have hu : Up (sX7_get F a1 a2 a3) (sX8_get F a1 a2 a3) := u_get hF a1 a2 a3
    obtain ⟨r, M1, M2, e1, e2, e3⟩ := hu M hM
    rw [e1, ob_some, e2, ob_some, if_pos rfl]
    exact ⟨M2, e3, rfl⟩
  rw [if_neg c34]
  rcases Decidable.em (v = 35) with c35 | c35
  · rw [if_pos c35]
    have hu : Up (sX7_copy F a1 a2 a3 a4 a5) (sX8_copy F a1 a2 a3 a4 a5) := u_copy hF a1 a2 a3 a4 a5
    obtain ⟨r, M1, M2, e1, e2, e3⟩ := hu M hM
    rw [e1, ob_some, e2, ob_some, if_pos rfl]
    exact ⟨M2, e3, rfl⟩
  rw [if_neg c35]
  rcases Decidable.em (v = 36) with c36 | c36
  · rw [if_pos c36]
    have hu : Up (sX7_write F a1) (sX8_write F a1) := u_write hF a1
    obtain ⟨r, M1, M2, e1, e2, e3⟩ := hu M hM
    rw [e1, ob_some, e2, ob_some, if_pos rfl]
    exact ⟨M2, e3, rfl⟩
  rw [if_neg c36]
  rcases Decidable.em (v = 37) with c37 | c37
  · rw [if_pos c37]
    have hu : Uq (sX7_count F a1) (sX8_count F a1) := ask_uq (fun P _ => q_count hF a1)
    obtain ⟨r, M2, e1, e2, e3⟩ := hu M hM
    rw [e1, ob_some, e2, ob_some, if_pos rfl]
    exact ⟨M2, e3, rfl⟩
  rw [if_neg c37]
  rcases Decidable.em (v = 38) with c38 | c38
  · rw [if_pos c38]
    obtain ⟨r, M1, M2, e1, e2, e3⟩ := u_digest hF hM
    rw [e1, ob_some, e2, ob_some, if_pos rfl]
    exact ⟨M2, e3, rfl⟩
  rw [if_neg c38]
  exact ⟨M, hM, rfl⟩
theorem law_loop (hF : 1025 < F) {L : Nat} (hL : L ≤ 384) (xs : Nat → Int32) : ∀ d k M g, k + d = L / 6 → d < g → Iv M → fx2 g (sL_law_L18 F L xs) (nI (6 * k)) M = some ()
  | 0 => fun k M g hk hg _ => by
    obtain ⟨g', rfl⟩ : ∃ g', g = g' + 1 := ⟨g - 1, by omega⟩
    show sL_law_L18 F L xs (fx2 g' (sL_law_L18 F L xs)) _ _ = _
    generalize fx2 g' (sL_law_L18 F L xs) = rec
    unfold sL_law_L18
    rw [if_pos (by
      rw [Int32.lt_iff_toInt_lt, show Int32.ofNat L - 6 = nI L - nI 6 from rfl, pk_sub_toInt (by omega) (by decide), nI_toInt (by omega)]
      omega)]
  | d + 1 => fun k M g hk hg hM => by
    obtain ⟨g', rfl⟩ : ∃ g', g = g' + 1 := ⟨g - 1, by omega⟩
    show sL_law_L18 F L xs (fx2 g' (sL_law_L18 F L xs)) _ _ = _
    obtain ⟨M2, h1, h2⟩ := law_turn hF (L := L) (k := k) (by omega) hL xs hM (fx2 g' (sL_law_L18 F L xs))
    rw [h2]
    exact law_loop hF hL xs d (k + 1) M2 g' (by omega) (by omega) h1
/-! the start -/
theorem Iv_M0 : Iv M0 := by
  refine Iv.old (n := fun _ => 0) (b := fun _ _ => 0) (st := fun i => if i = 0 then 9 else if i = 2 then 5 else 0) (fun t ht => ?_) ⟨fun i hi => ?_, by decide, by decide, by decide, by decide⟩ (fun i hi => ?_) ⟨0, fun _ => 0, fun _ => 0, 0, 0, ⟨rfl, by decide, rfl⟩, fun i hi => by omega, ⟨rfl, rfl, by decide, by decide⟩, fun j => ?_, fun j => ?_⟩ (fun s hs => ?_) rfl rfl rfl
  · rcases (show t = 0 ∨ t = 1 ∨ t = 2 by omega) with c | c | c <;> subst c
    · exact ⟨⟨rfl, by decide⟩, ⟨rfl, by decide, fun i hi => absurd hi (Nat.not_lt_zero _)⟩, fun i hi => absurd hi (Nat.not_lt_zero _), EI.start rfl rfl rfl rfl rfl⟩
    · exact ⟨⟨rfl, by decide⟩, ⟨rfl, by decide, fun i hi => absurd hi (Nat.not_lt_zero _)⟩, fun i hi => absurd hi (Nat.not_lt_zero _), EI.start rfl rfl rfl rfl rfl⟩
    · exact ⟨⟨rfl, by decide⟩, ⟨rfl, by decide, fun i hi => absurd hi (Nat.not_lt_zero _)⟩, fun i hi => absurd hi (Nat.not_lt_zero _), EI.start rfl rfl rfl rfl rfl⟩
  · rcases (show i = 0 ∨ i = 1 ∨ i = 2 ∨ i = 3 by omega) with c | c | c | c <;> subst c <;> exact ⟨rfl, rfl⟩
  · rcases (show i = 0 ∨ i = 1 ∨ i = 2 ∨ i = 3 ∨ i = 4 ∨ i = 5 ∨ i = 6 ∨ i = 7 ∨ i = 8 ∨ i = 9 by omega) with c | c | c | c | c | c | c | c | c | c <;> subst c <;> rfl
  · rw [Nat.zero_testBit]
    constructor
    · intro z; exact absurd z (by decide)
    · rintro ⟨i, hi, -⟩; omega
  · rw [Nat.zero_testBit]
    constructor
    · intro z; exact absurd z (by decide)
    · rintro ⟨i, hi, -⟩; omega
  · rcases (show s = 0 ∨ s = 1 ∨ s = 2 ∨ s = 3 by omega) with c | c | c | c <;> subst c <;> exact Or.inl ⟨⟨rfl, rfl⟩, rfl⟩
theorem pure_law (L : Nat) (xs : Nat → Int32) (hL : L ≤ 384) : sL_law 2000 L xs M0 = some () := by
  unfold sL_law
  exact law_loop (by decide) hL xs (L / 6) 0 M0 2000 (by omega) (by omega) Iv_M0
end LawP
