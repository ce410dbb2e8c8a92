/-! write -/
section WriteS
variable {F : Nat} {P : Pm} {M X : Mem}
theorem e_rd2 {n : Nat → Nat} {b : Nat → Nat → Nat} {N : Nat → Nat} {f : Nat → Int32} {st : Nat → Nat} (h : TI M n b) (hO : ∀ t, t < 3 → Out (k3 t) (b t) (n t) (f t) (N t)) (hC : CR M N f b) (hs : SE M st) (hF : 1024 < F) : ∃ X, sX8_there F M = some (nI (2 ^ N 0 - 1), X) ∧ PM X (N 0) (qM (b 0)) (st 0) (st 3) ∧ MSm M X := by
  obtain ⟨X, x1, x2, ⟨⟨m1, m2, m3⟩, m4, m5, m6⟩, y1, y2⟩ := e_faultOf (F := F) h hO hC (by omega)
  have hN : N 0 ≤ 10 := (hC.1 0 (by decide)).2.1
  refine ⟨X, ?_, ⟨⟨m1, hN, m4⟩, ⟨?_, hs.2.1⟩, ?_, hs.2.2.2.2⟩, y1, y2⟩
  · unfold sX8_there
    rw [x2]
    simp only [ob_some]
    rw [m1, z_shl1 (by omega), z_subR (by have := pow_pos2 (N 0); omega)]
  · rw [y2 6 (by decide)]; exact (hs.1 0 (by decide)).2
  · rw [y2 9 (by decide)]; exact (hs.1 3 (by decide)).2
theorem e_rowsFlag (h : Inv P M) (hF : 1024 < F) {M1 : Mem} (e : sX7_rowsNow F M = some M1) : M1 0 5 = 0 := by
  unfold sX7_rowsNow at e
  by_cases c : M 0 5 = 0
  · rw [if_pos c] at e
    have : M = M1 := by simpa using e
    rw [← this]; exact c
  · have hs := h.se
    rw [if_neg c, z_ibL (by decide) (by decide), z_ibL (by decide) (by decide), z_ibL (by decide) (by decide), z_ixL (by decide), z_ixL (by decide), (hs.1 0 (by decide)).1, (hs.1 3 (by decide)).1] at e
    obtain ⟨M', w1, w2, w3⟩ := e_workOut (F := F) (L := pL P) (O := pO P) h.pc hs.2.1 hs.2.2.2.2 hF
    rw [show (8 + 1 + OfNat.ofNat 0 : Nat) = 9 from rfl, show pst P 0 = pL P from rfl, show pst P 3 = pO P from rfl, w1] at e
    simp only [ob_some, nm_eq] at e
    have : st2 M' 0 5 0 = M1 := by simpa using e
    rw [← this, st2_same]
theorem ps_cn {p : Nat → Bool} {n r : Nat} (hr : r < n) (hp : p r = true) : ps p n (fb_ct p r) = r := by
  have hlt : fb_ct p r < fb_ct p n := by
    have h1 := fb_ct_mono p (show r + 1 ≤ n by omega)
    rw [fb_ct_succ, if_pos hp] at h1
    omega
  obtain ⟨-, s2, s3⟩ := ps_spec hlt
  exact fb_ct_kth_one s2 hp s3
/-- the class's sheet with the first i rows -/
def wrM (q : Nat → Nat → Nat) (L N O fo s : Nat) (M : Mem) (i : Nat) : Mem := stC M (33 + s) (fun x => if x < i then nar fo (nI (ps (fp q L N O) (2 ^ N) x)) else M (33 + s) x)
theorem wrM_k {q : Nat → Nat → Nat} {L N O fo s i k : Nat} (h : k ≠ 33 + s) : wrM q L N O fo s M i k = M k := stC_ne _ _ h
theorem wrM_s {q : Nat → Nat → Nat} {L N O fo s i : Nat} : st2 (wrM q L N O fo s M i) (33 + s) i (nar fo (nI (ps (fp q L N O) (2 ^ N) i))) = wrM q L N O fo s M (i + 1) := by
  funext a b
  rw [st2_at]
  unfold wrM
  by_cases ha : a = 33 + s
  · subst ha
    rw [stC_same, stC_same]
    by_cases hb : b = i
    · subst hb; rw [if_pos ⟨rfl, rfl⟩, if_pos (by omega)]
    · rw [if_neg (fun z => hb z.2)]
      by_cases c : b < i
      · rw [if_pos c, if_pos (by omega)]
      · rw [if_neg c, if_neg (by omega)]
  · rw [if_neg (fun z => ha z.1), stC_ne _ _ ha, stC_ne _ _ ha]
theorem e_writeC {N L O : Nat} {q : Nat → Nat → Nat} (a3 : RowsOK M N q L O) (hf : M 0 5 = 0) {s fo z n : Nat} (hs : s < 4) (hfo : fo < 3) (c1 : M (29 + s) 1 = nI fo) (c2 : M (29 + s) 2 = nI z) (hz : z ≤ 48) (hn : n ≤ z) (hn2 : n ≤ cn q L N O (2 ^ N)) (hF : 1025 < F) : fx2 F (sX7_write_L51 F (nI s) (nI n)) 0 M = some (nI n, wrM q L N O fo s M n) := by
  have e0 : M = wrM q L N O fo s M 0 := by
    funext a b
    unfold wrM
    by_cases ha : a = 33 + s
    · subst ha; rw [stC_same, if_neg (by omega)]
    · rw [stC_ne _ _ ha]
  have road := fx2_road (g := sX7_write_L51 F (nI s) (nI n)) (fun i => nI i) (fun i => wrM q L N O fo s M i) n (some (nI n, wrM q L N O fo s M n)) (fun i hi rec => by
    have hR : RowsOK (wrM q L N O fo s M i) N q L O := a3.fr (wrM_k (by omega)) (wrM_k (by omega)) (wrM_k (by omega)) (wrM_k (by omega))
    unfold sX7_write_L51 sX7_rowsNow
    rw [if_neg (nI_ge hi (by omega)), z_ib hs (by decide), z_ix (by omega), show 28 + 1 + s = 29 + s from rfl, wrM_k (show (0 : Nat) ≠ 33 + s by omega), hf, if_pos rfl]
    simp only [ob_some]
    rw [e_nth hR (by omega), if_pos (by omega)]
    simp only [ob_some]
    rw [e_setItem hfo (by rw [wrM_k (by omega)]; exact c1) (by rw [wrM_k (by omega)]; exact c2) hz (by omega), ob_some, wrM_s, z_addR]) (fun rec => by
    unfold sX7_write_L51
    rw [if_pos (nI_le (Nat.le_refl _) (by omega))]) F 0 (Nat.zero_le _) (by omega)
  rw [← e0] at road
  exact road
/-- the model's sheet with the first i rows -/
def wvM (q : Nat → Nat → Nat) (L N O fo s : Nat) (M : Mem) (i : Nat) : Mem := stC M 52 (fun y => if 48 * s ≤ y ∧ y < 48 * s + i then nar fo (nI (ps (fp q L N O) (2 ^ N) (y - 48 * s))) else M 52 y)
theorem wvM_k {q : Nat → Nat → Nat} {L N O fo s i k : Nat} (h : k ≠ 52) : wvM q L N O fo s M i k = M k := stC_ne _ _ h
theorem wvM_s {q : Nat → Nat → Nat} {L N O fo s i : Nat} : st2 (wvM q L N O fo s M i) 52 (48 * s + i) (nar fo (nI (ps (fp q L N O) (2 ^ N) i))) = wvM q L N O fo s M (i + 1) := by
  funext a b
  rw [st2_at]
  unfold wvM
  by_cases ha : a = 52
  · subst ha
    rw [stC_same, stC_same]
    by_cases hb : b = 48 * s + i
    · subst hb; rw [if_pos ⟨rfl, rfl⟩, if_pos (by omega), show 48 * s + i - 48 * s = i by omega]
    · rw [if_neg (fun z => hb z.2)]
      by_cases c : 48 * s ≤ b ∧ b < 48 * s + i
      · rw [if_pos c, if_pos (by omega)]
      · rw [if_neg c, if_neg (by omega)]
  · rw [if_neg (fun z => ha z.1), stC_ne _ _ ha, stC_ne _ _ ha]
theorem e_writeM {N L O : Nat} {q : Nat → Nat → Nat} (x4 : PM X N q L O) {r2 : Int32 × Mem} (hr1 : r2.1 = nI (2 ^ N - 1)) {s fo z : Nat} (hs : s < 4) (hfo : fo < 3) (c1 : X 50 s = nI fo) (c2 : X 51 s = nI z) (hz : z ≤ 48) (hF : 1025 < F) : fx3 F (sX8_write_L35 F (nI s) r2) 0 0 X = some (nI (if cn q L N O (2 ^ N) < z then cn q L N O (2 ^ N) else z), wvM q L N O fo s X (if cn q L N O (2 ^ N) < z then cn q L N O (2 ^ N) else z)) := by
  have h10 : N ≤ 10 := x4.1.2.1
  have hpw := pow_le10 h10
  have hpos := pow_pos2 N
  have hle := fa_first_le (fun r => decide (z ≤ cn q L N O r)) (2 ^ N)
  have hno := fa_first_no (fun r => decide (z ≤ cn q L N O r)) (2 ^ N)
  have hyes := fa_first_yes (fun r => decide (z ≤ cn q L N O r)) (2 ^ N)
  generalize fa_first (fun r => decide (z ≤ cn q L N O r)) (2 ^ N) = E at hle hno hyes
  have hno' : ∀ r, r < E → cn q L N O r < z := fun r hr => by
    have := of_decide_eq_false (hno r hr)
    omega
  have hE : cn q L N O E ≤ z := by
    rcases Nat.eq_zero_or_pos E with c | c
    · rw [c]; exact Nat.zero_le _
    · have h1 := hno' (E - 1) (by omega)
      have h2 := cn_succ q L N O (E - 1)
      rw [show E - 1 + 1 = E by omega] at h2
      have : (if Bk q L N (E - 1) O = 0 then 1 else 0) ≤ 1 := by split <;> omega
      omega
  have hval : (if cn q L N O (2 ^ N) < z then cn q L N O (2 ^ N) else z) = cn q L N O E := by
    rcases Nat.lt_or_ge E (2 ^ N) with c | c
    · have h1 := of_decide_eq_true (hyes c)
      have h2 := cn_mono q L N O hle
      rw [if_neg (by omega)]
      omega
    · have : E = 2 ^ N := by omega
      rw [this] at hE ⊢
      split <;> omega
  rw [hval]
  have e0 : X = wvM q L N O fo s X 0 := by
    funext a b
    unfold wvM
    by_cases ha : a = 52
    · subst ha; rw [stC_same, if_neg (by omega)]
    · rw [stC_ne _ _ ha]
  have road := fx3_road (g := sX8_write_L35 F (nI s) r2) (fun r => nI (cn q L N O r)) (fun r => nI r) (fun r => wvM q L N O fo s X (cn q L N O r)) E (some (nI (cn q L N O E), wvM q L N O fo s X (cn q L N O E))) (fun r hr rec => by
    have hlt := hno' r hr
    have hr2 : r < 2 ^ N := by omega
    have hB := Bk_lt (q := q) (L := L) (free := O) hr2
    have hP : PM (wvM q L N O fo s X (cn q L N O r)) N q L O := x4.stC (by decide) (by decide)
    unfold sX8_write_L35
    rw [hr1, if_neg (by rw [z_lt (by omega) (by omega)]; omega), z_ib hs (by decide), z_ix (by omega), wvM_k (show (51 : Nat) ≠ 52 by decide), c2, if_neg (nI_ge hlt (by omega)), hP.2.2.1, e_brokenBy hP (by omega) hP.2.2.2 (by omega)]
    simp only [ob_some, nm_eq]
    rw [e_keep (fo := fo) hs hfo (by rw [wvM_k (by decide)]; exact c1) (by omega), ob_some, z_addR, z_addR, cn_succ]
    by_cases c : Bk q L N r O = 0
    · have hps : ps (fp q L N O) (2 ^ N) (cn q L N O r) = r := ps_cn hr2 (fp_t.mpr c)
      rw [if_neg (show ¬ ¬ nI (Bk q L N r O) = 0 from not_not_intro (by rw [c]; rfl)), if_pos c]
      have hw := wvM_s (M := X) (q := q) (L := L) (N := N) (O := O) (fo := fo) (s := s) (i := cn q L N O r)
      rw [hps] at hw
      rw [hw]
    · rw [if_pos (show ¬ nI (Bk q L N r O) = 0 from fun z => c ((nI_eq (b := 0) (by omega) (by decide)).mp z)), if_neg c]
      rfl) (fun rec => by
    unfold sX8_write_L35
    rw [hr1]
    rcases Nat.lt_or_ge E (2 ^ N) with c | c
    · have h1 := of_decide_eq_true (hyes c)
      rw [if_neg (by rw [z_lt (by omega) (by omega)]; omega), z_ib hs (by decide), z_ix (by omega), wvM_k (show (51 : Nat) ≠ 52 by decide), c2, if_pos (nI_le h1 (by omega))]
    · rw [if_pos (by rw [z_lt (by omega) (by omega)]; omega)]) F 0 (Nat.zero_le _) (by omega)
  rw [show cn q L N O 0 = 0 from rfl, ← e0] at road
  exact road
theorem u_write (hF : 1025 < F) (a : Int32) : Up (sX7_write F a) (sX8_write F a) := fun M hM => by
  obtain ⟨n, bb, N, f, st, h⟩ := hM
  rcases rg a 4 3 4 rfl rfl (by decide) (by decide) with ⟨o, i⟩ | ⟨s, hs, rfl, o, i⟩
  · refine ⟨-2, M, M, ?_, ?_, h.iv⟩
    · unfold sX7_write
      rw [out_t F M o]
      simp only [ob_some, nm_eq, if_true, if_false, Bool.false_eq_true, not_true_eq_false, not_false_eq_true]
    · unfold sX8_write sX8_isSheet
      rw [in_f F M i]
      simp only [ob_some, nm_eq, if_true, if_false, Bool.false_eq_true, not_true_eq_false, not_false_eq_true]
  · rcases h.sh s hs with ⟨⟨l1, l2⟩, l3⟩ | ⟨fo, z, ⟨hfo, hz48⟩, ⟨c1, c2⟩, ⟨m1, m2, m3⟩, hit⟩
    · refine ⟨-10 - 1, st2 M 0 11 1, st2 (st2 M 0 11 1) 37 22 1, ?_, ?_, Iv.find h 1⟩
      · unfold sX7_write
        rw [out_f F M o]
        simp only [ob_some, nm_eq, if_true, if_false, Bool.false_eq_true, not_true_eq_false, not_false_eq_true]
        rw [z_ib hs (by decide), z_ix (by omega), show 28 + 1 + s = 29 + s from rfl, lost_t l1]
        simp only [ob_some, nm_eq, if_true, if_false, Bool.false_eq_true, not_true_eq_false, not_false_eq_true]
        rfl
      · unfold sX8_write sX8_isSheet
        rw [in_t F _ i]
        simp only [ob_some, nm_eq, if_true, if_false, Bool.false_eq_true, not_true_eq_false, not_false_eq_true]
        rw [z_ib hs (by decide), z_ix (by omega), st2_k _ _ _ (by decide), l3, if_neg (not_not_intro rfl)]
        rfl
    · obtain ⟨M1, a1, a2, a3⟩ := e_rowsNow (F := F) h (by omega)
      have hf1 := e_rowsFlag h (by omega) a1
      have kk : ∀ k, scQ k = false → M1 k = M k := fun k hk => a2.k hk
      have k29 : M1 (29 + s) = M (29 + s) := kk _ (shK (by omega) (by omega))
      have k33 : M1 (33 + s) = M (33 + s) := kk _ (shK (by omega) (by omega))
      have hcnle := cn_le (pq (n, bb, N, f, st, M)) (pL (n, bb, N, f, st, M)) (pN (n, bb, N, f, st, M)) (pO (n, bb, N, f, st, M)) (2 ^ pN (n, bb, N, f, st, M))
      have hpw := pow_le10 h.n10.1
      generalize hq : pq (n, bb, N, f, st, M) = q at a3 hcnle
      generalize hL : pL (n, bb, N, f, st, M) = L at a3 hcnle
      generalize hN : pN (n, bb, N, f, st, M) = N0 at a3 hcnle hpw
      generalize hO : pO (n, bb, N, f, st, M) = O at a3 hcnle
      generalize hc : cn q L N0 O (2 ^ N0) = cnt at hcnle
      generalize hw : (if cnt < z then cnt else z) = w
      have hwz : w ≤ z ∧ w ≤ cnt := by rw [← hw]; split <;> omega
      have hC := e_writeC (F := F) a3 hf1 (n := w) hs hfo (by rw [k29]; exact c1) (by rw [k29]; exact c2) hz48 hwz.1 (by rw [hc]; exact hwz.2) hF
      generalize hM2 : wrM q L N0 O fo s M1 w = M2 at hC
      have m2k : ∀ k, k ≠ 33 + s → M2 k = M1 k := fun k hk => by rw [← hM2, wrM_k hk]
      have htx : ∀ k, txK k = true → M2 k = M1 k := fun k hk => m2k k (fun e => by
        rw [e] at hk
        unfold txK at hk
        simp only [Bool.or_eq_true, Bool.and_eq_true, decide_eq_true_eq, Bool.not_eq_true', decide_eq_false_iff_not] at hk
        omega)
      have hse2 : SE M2 st := a2.se.fr (m2k 15 (by omega)) (fun j _ => by rw [m2k 37 (by omega)])
      obtain ⟨X, x1, x2, x3, x4⟩ := e_rd2 (F := F) (M := M2) (a2.ti.fr htx) a2.1.1.2.1 (a2.cr.fr htx) hse2 (by omega)
      have hx1 : sX8_there F M2 = some (nI (2 ^ N0 - 1), X) := by rw [← hN]; exact x1
      have hx2 : PM X N0 q L O := by rw [← hN, ← hq, ← hL, ← hO]; exact x2
      have hM := e_writeM (F := F) hx2 (r2 := (nI (2 ^ N0 - 1), X)) rfl hs hfo (by rw [x3 50 (by decide) (by decide) (by decide) (by decide), m2k 50 (by omega), kk 50 rfl]; exact m2) (by rw [x3 51 (by decide) (by decide) (by decide) (by decide), m2k 51 (by omega), kk 51 rfl]; exact m3) hz48 hF
      rw [hc, hw] at hM
      generalize hM3 : wvM q L N0 O fo s X w = M3 at hM
      have m3k : ∀ k, k ≠ 52 → M3 k = X k := fun k hk => by rw [← hM3, wvM_k hk]
      have xk : ∀ k, k ≠ 37 → k ≠ 40 → k ≠ 41 → k ≠ 42 → k ≠ 52 → k ≠ 33 + s → M3 k = M1 k := fun k q1 q2 q3 q4 q5 q6 => by rw [m3k k q5, x3 k q1 q2 q3 q4, m2k k q6]
      have x37 : ∀ x, x ≠ 2 → M3 37 x = M1 37 x := fun x hx => by rw [m3k 37 (by decide), x4 x hx, m2k 37 (by omega)]
      have hm352 : ∀ y, M3 52 y = if 48 * s ≤ y ∧ y < 48 * s + w then nar fo (nI (ps (fp q L N0 O) (2 ^ N0) (y - 48 * s))) else M 52 y := fun y => by
        rw [← hM3]
        unfold wvM
        rw [stC_same, x3 52 (by decide) (by decide) (by decide) (by decide), m2k 52 (by omega), kk 52 rfl]
      refine ⟨nI w, M2, M3, ?_, ?_, ?_⟩
      · unfold sX7_write sX5_length sX3_howMany
        rw [out_f F M o]
        simp only [ob_some, nm_eq, if_true, if_false, Bool.false_eq_true, not_true_eq_false, not_false_eq_true]
        rw [z_ib hs (by decide), z_ix (by omega), show 28 + 1 + s = 29 + s from rfl, lost_f hfo c1]
        simp only [ob_some, nm_eq, if_true, if_false, Bool.false_eq_true, not_true_eq_false, not_false_eq_true]
        rw [z_ib hs (by decide), a1]
        simp only [ob_some, nm_eq, if_true, if_false, Bool.false_eq_true, not_true_eq_false, not_false_eq_true]
        rw [c2, a3.1.2.2.2, hc]
        have emin : imin (nI z) (nI cnt) = nI w := by
          unfold imin
          rw [← hw]
          by_cases c : cnt < z
          · rw [if_pos ((nI_ltI (by omega) (by omega)).mpr c), if_pos c]
          · rw [if_neg (fun e => c ((nI_ltI (by omega) (by omega)).mp e)), if_neg c]
        rw [emin]
        exact hC
      · unfold sX8_write sX8_isSheet
        rw [in_t F _ i]
        simp only [ob_some, nm_eq, if_true, if_false, Bool.false_eq_true, not_true_eq_false, not_false_eq_true]
        rw [z_ib hs (by decide), z_ix (by omega), m2k 49 (by omega), kk 49 rfl, m1, if_pos (by decide), hx1, ob_some]
        exact hM
      · refine a2.chg (X := M3) (fun k hk => ?_) ?_ ?_ (fun j hj => x37 _ (by omega)) ?_ ?_ ?_ ?_
        · unfold upK at hk
          simp only [Bool.or_eq_false_iff, Bool.and_eq_false_iff, decide_eq_false_iff_not] at hk
          exact xk k (by omega) (by omega) (by omega) (by omega) (by omega) (by omega)
        · rw [xk 0 (by decide) (by decide) (by decide) (by decide) (by decide) (by omega)]
        · rw [xk 0 (by decide) (by decide) (by decide) (by decide) (by decide) (by omega)]
        · exact a2.wo.fr (xk 16 (by decide) (by decide) (by decide) (by decide) (by decide) (by omega)) (xk 43 (by decide) (by decide) (by decide) (by decide) (by decide) (by omega))
        · exact a2.sn.fr (xk 26 (by decide) (by decide) (by decide) (by decide) (by decide) (by omega)) (xk 47 (by decide) (by decide) (by decide) (by decide) (by decide) (by omega)) (xk 48 (by decide) (by decide) (by decide) (by decide) (by decide) (by omega)) (x37 14 (by decide))
        · refine a2.sh.set1 (X := M3) (s := s) (fun k q1 q2 q3 q4 => xk k (by omega) (by omega) (by omega) (by omega) (by omega) q4) (fun t e => ⟨?_, ?_, ?_⟩) (fun t x ht e hx => ?_) hs (Or.inr ⟨fo, z, ⟨hfo, hz48⟩, ⟨?_, ?_⟩, ⟨?_, ?_, ?_⟩, fun x hx => ?_⟩)
          · rw [xk 49 (by decide) (by decide) (by decide) (by decide) (by decide) (by omega)]
          · rw [xk 50 (by decide) (by decide) (by decide) (by decide) (by decide) (by omega)]
          · rw [xk 51 (by decide) (by decide) (by decide) (by decide) (by decide) (by omega)]
          · rw [hm352, if_neg (by omega), kk 52 rfl]
          · rw [xk _ (by omega) (by omega) (by omega) (by omega) (by omega) (by omega), k29]; exact c1
          · rw [xk _ (by omega) (by omega) (by omega) (by omega) (by omega) (by omega), k29]; exact c2
          · rw [xk _ (by omega) (by omega) (by omega) (by omega) (by omega) (by omega), kk 49 rfl]; exact m1
          · rw [xk _ (by omega) (by omega) (by omega) (by omega) (by omega) (by omega), kk 50 rfl]; exact m2
          · rw [xk _ (by omega) (by omega) (by omega) (by omega) (by omega) (by omega), kk 51 rfl]; exact m3
          · rw [m3k _ (by omega), x3 _ (by omega) (by omega) (by omega) (by omega), ← hM2, hm352]
            unfold wrM
            rw [stC_same]
            by_cases c : x < w
            · rw [if_pos c, if_pos (by omega), show 48 * s + x - 48 * s = x by omega]
            · rw [if_neg c, if_neg (by omega), k33]
              exact hit x hx
        · rw [xk 0 (by decide) (by decide) (by decide) (by decide) (by decide) (by omega), x37 22 (by decide)]
          exact a2.fi
end WriteS
