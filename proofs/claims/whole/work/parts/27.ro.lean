theorem q_arrI {args : Array Value} {s : State} {ty : FieldType} (hp : ∀ c : ClassId, s.vm.findClass ("[" ++ ty.toString) = some c → va_RA s c ty) (hk : componentBytes ty ≠ 0 ∨ True) (h : (Cond.arrayClass ty).before args s = true) (ha : ∀ (cA : ClassId) (kA : Class) (comp : ClassId), s.vm.classes[cA]? = some kA → kA.kind = .array comp ty → ArrOfT s cA ty) : ∃ cA, ArrOfT s cA ty ∧ va_RA s cA ty := by
  obtain ⟨cA, kA, comp, h1, h2, h3⟩ := Cond.arrayClass_spec h
  exact ⟨cA, ha cA kA comp h2 h3, hp cA h1⟩
theorem q_arrQ {args : Array Value} {s : State} {C : String} (h : (Cond.arrayOver (.object C)).before args s = true) : ∃ cA, ArrOfT s cA (.object C) ∧ va_RA s cA (.object C) := by
  obtain ⟨comp, cA, kA, h1, h2, h3, h4, h5⟩ := Cond.arrayOver_spec h
  exact ⟨cA, fun n z => ⟨fun k h => (by cases h), kA, h3, comp, h4⟩, kA, comp, h3, h4, h1, h5⟩
theorem q_tys {args : Array Value} {s : State} (hts : ∀ w ∈ lw_tbl, w.before args s = true) : ∃ cT : Nat → ClassId, ∀ (k : Nat) (q : ClassId × FieldType), (tysC cT)[k]? = some q → ArrOfT s q.1 q.2 ∧ va_RA s q.1 q.2 := by
  obtain ⟨cI, hI⟩ := q_arrI (ty := .int) (fun _ h => h) (Or.inr trivial) (hts (.arrayClass .int) (List.mem_of_getElem? (i := 145) (by decide +kernel))) (fun cA kA comp h2 h3 => fun n z => ⟨fun k h => (by cases h), kA, h2, comp, h3⟩)
  obtain ⟨cB, hB⟩ := q_arrI (ty := .byte) (fun _ h => h) (Or.inr trivial) (hts (.arrayClass .byte) (List.mem_of_getElem? (i := 110) (by decide +kernel))) (fun cA kA comp h2 h3 => fun n z => ⟨fun k h => (by cases h), kA, h2, comp, h3⟩)
  obtain ⟨cZ, hZ⟩ := q_arrI (ty := .boolean) (fun _ h => h) (Or.inr trivial) (hts (.arrayClass .boolean) (List.mem_of_getElem? (i := 979) (by decide +kernel))) (fun cA kA comp h2 h3 => fun n z => ⟨fun k h => (by cases h), kA, h2, comp, h3⟩)
  obtain ⟨cE, hE⟩ := q_arrQ (C := "AnswersFirst$Entries") (hts (.arrayOver (.object "AnswersFirst$Entries")) (List.mem_of_getElem? (i := 112) (by decide +kernel)))
  obtain ⟨cS, hS⟩ := q_arrQ (C := "AnswersFirst$Sheet") (hts (.arrayOver (.object "AnswersFirst$Sheet")) (List.mem_of_getElem? (i := 228) (by decide +kernel)))
  obtain ⟨cT, hT⟩ := q_arrQ (C := "AnswersFirst$Text") (hts (.arrayOver (.object "AnswersFirst$Text")) (List.mem_of_getElem? (i := 94) (by decide +kernel)))
  refine ⟨fun k => if k = 9 then cI else if k = 10 then cB else if k = 11 then cZ else if k = 12 then cE else if k = 13 then cS else cT, fun k q hq => ?_⟩
  match k, hq with
  | 0, hq => cases hq; exact hI
  | 1, hq => cases hq; exact hB
  | 2, hq => cases hq; exact hZ
  | 3, hq => cases hq; exact hE
  | 4, hq => cases hq; exact hS
  | 5, hq => cases hq; exact hT
  | k + 6, hq => simp at hq
theorem q_cls {args : Array Value} {s : State} (hts : ∀ w ∈ lw_tbl, w.before args s = true) : ∃ D : va_G, ∀ (k : Nat) (q : vw_C), vwCl[k]? = some q → u_Kn s q.1 q.2.1 q.2.2 (D.1 k) (D.2 k) := by
  have h0 : ∀ k : Nat, ∃ r : ClassId × (Nat → Nat), ∀ q : vw_C, vwCl[k]? = some q → u_Kn s q.1 q.2.1 q.2.2 r.1 r.2 := by
    intro k
    match k with
    | 0 => obtain ⟨a, i, h⟩ := u_known (C := RX0) (T := TX0) (N := 5) (n := 5) hts (fun w hw => lw_g_sub (cf0.2.2.1 w hw)) (hts (.instantiable RX0 5) (List.mem_of_getElem? (i := 180) (by decide +kernel))); exact ⟨(a, i), fun q hq => by cases hq; exact h⟩
    | 1 => obtain ⟨a, i, h⟩ := u_known (C := RX1) (T := TX1) (N := 8) (n := 8) hts (fun w hw => lw_g_sub (cf1.2.2.1 w hw)) (hts (.instantiable RX1 8) (List.mem_of_getElem? (i := 113) (by decide +kernel))); exact ⟨(a, i), fun q hq => by cases hq; exact h⟩
    | 2 => obtain ⟨a, i, h⟩ := u_known (C := RX2) (T := TX2) (N := 1) (n := 1) hts (fun w hw => lw_g_sub (cf2.2.2.1 w hw)) (hts (.instantiable RX2 1) (List.mem_of_getElem? (i := 218) (by decide +kernel))); exact ⟨(a, i), fun q hq => by cases hq; exact h⟩
    | 3 => obtain ⟨a, i, h⟩ := u_known (C := RX3) (T := TX3) (N := 8) (n := 8) hts (fun w hw => lw_g_sub (cf3.2.2.1 w hw)) (hts (.instantiable RX3 8) (List.mem_of_getElem? (i := 149) (by decide +kernel))); exact ⟨(a, i), fun q hq => by cases hq; exact h⟩
    | 4 => obtain ⟨a, i, h⟩ := u_known (C := RX4) (T := TX4) (N := 3) (n := 3) hts (fun w hw => lw_g_sub (cf4.2.2.1 w hw)) (hts (.instantiable RX4 3) (List.mem_of_getElem? (i := 202) (by decide +kernel))); exact ⟨(a, i), fun q hq => by cases hq; exact h⟩
    | 5 => obtain ⟨a, i, h⟩ := u_known (C := RX5) (T := TX5) (N := 3) (n := 3) hts (fun w hw => lw_g_sub (cf5.2.2.1 w hw)) (hts (.instantiable RX5 3) (List.mem_of_getElem? (i := 229) (by decide +kernel))); exact ⟨(a, i), fun q hq => by cases hq; exact h⟩
    | 6 => obtain ⟨a, i, h⟩ := u_known (C := RX6) (T := TX6) (N := 2) (n := 2) hts (fun w hw => lw_g_sub (cf6.2.2.1 w hw)) (hts (.instantiable RX6 2) (List.mem_of_getElem? (i := 95) (by decide +kernel))); exact ⟨(a, i), fun q hq => by cases hq; exact h⟩
    | 7 => obtain ⟨a, i, h⟩ := u_known (C := RX7) (T := TX7) (N := 12) (n := 12) hts (fun w hw => lw_g_sub (cf7.2.2.1 w hw)) (hts (.instantiable RX7 12) (List.mem_of_getElem? (i := 86) (by decide +kernel))); exact ⟨(a, i), fun q hq => by cases hq; exact h⟩
    | 8 => obtain ⟨a, i, h⟩ := u_known (C := RX8) (T := TX8) (N := 23) (n := 23) hts (fun w hw => lw_g_sub (cf8.2.2.1 w hw)) (hts (.instantiable RX8 23) (List.mem_of_getElem? (i := 904) (by decide +kernel))); exact ⟨(a, i), fun q hq => by cases hq; exact h⟩
    | k + 9 => exact ⟨(0, fun _ => 0), fun q hq => by simp [vwCl] at hq⟩
  obtain ⟨r, hr⟩ := Classical.axiomOfChoice h0
  exact ⟨(fun k => (r k).1, fun k => (r k).2), fun k q hq => hr k q hq⟩
set_option maxRecDepth 100000 in
set_option maxHeartbeats 4000000 in
theorem q_ro {args : Array Value} {s : State} {A : Nat → Prop} (hts : ∀ w ∈ lw_tbl, w.before args s = true) (hgv : (Jvm.Cond.and given_1 narrow_1).before args s = true) (hA : ∀ a : Nat, a < s.heap.size → ¬ A a) : ∃ ro : Nat → Nat, (∀ x : Wx, (∀ k, 60 ≤ k → k < 68 → x.1 k = ro k) → RoX x A s s.heap) ∧ va_Z "AnswersFirst" "MATTER_FORM" "[I" (.ref (ro 60)) A s s.heap ∧ va_Z "AnswersFirst" "LETTER_FORM" "[I" (.ref (ro 61)) A s s.heap := by
  have hs := flat_of_before _ hgv
  obtain ⟨t60, ht60, hT60⟩ := va_Tof (tm := .static "AnswersFirst" "MATTER_FORM" "[I") (ty := .int) (N := 7) (f := fun j => .int (roI 60 j)) (A := A) (by decide) (hs _ (by decide +kernel)) (va_eqt (hs (Cond.eq (.length (.static "AnswersFirst" "MATTER_FORM" "[I")) (.int (Int32.ofNat 7))) (by decide +kernel))) (fun j hj => by rcases (show j = 0 ∨ j = 1 ∨ j = 2 ∨ j = 3 ∨ j = 4 ∨ j = 5 ∨ j = 6 by omega) with rfl | rfl | rfl | rfl | rfl | rfl | rfl <;> exact va_eqt (hs _ (by decide +kernel))) hA
  have hz60 : va_Z "AnswersFirst" "MATTER_FORM" "[I" (.ref t60) A s s.heap := va_Zref (hts (.laysStatic "AnswersFirst" "MATTER_FORM" "[I") (List.mem_of_getElem? (i := 115) (by decide +kernel))) (hts (.initialized "AnswersFirst") (List.mem_of_getElem? (i := 67) (by decide +kernel))) ht60 hA
  obtain ⟨t61, ht61, hT61⟩ := va_Tof (tm := .static "AnswersFirst" "LETTER_FORM" "[I") (ty := .int) (N := 4) (f := fun j => .int (roI 61 j)) (A := A) (by decide) (hs _ (by decide +kernel)) (va_eqt (hs (Cond.eq (.length (.static "AnswersFirst" "LETTER_FORM" "[I")) (.int (Int32.ofNat 4))) (by decide +kernel))) (fun j hj => by rcases (show j = 0 ∨ j = 1 ∨ j = 2 ∨ j = 3 by omega) with rfl | rfl | rfl | rfl <;> exact va_eqt (hs _ (by decide +kernel))) hA
  have hz61 : va_Z "AnswersFirst" "LETTER_FORM" "[I" (.ref t61) A s s.heap := va_Zref (hts (.laysStatic "AnswersFirst" "LETTER_FORM" "[I") (List.mem_of_getElem? (i := 147) (by decide +kernel))) (hts (.initialized "AnswersFirst") (List.mem_of_getElem? (i := 67) (by decide +kernel))) ht61 hA
  obtain ⟨t62, ht62, hT62⟩ := va_Tof (tm := .static "AnswersFirst" "LEAST_SETTING" "[I") (ty := .int) (N := 4) (f := fun j => .int (roI 62 j)) (A := A) (by decide) (hs _ (by decide +kernel)) (va_eqt (hs (Cond.eq (.length (.static "AnswersFirst" "LEAST_SETTING" "[I")) (.int (Int32.ofNat 4))) (by decide +kernel))) (fun j hj => by rcases (show j = 0 ∨ j = 1 ∨ j = 2 ∨ j = 3 by omega) with rfl | rfl | rfl | rfl <;> exact va_eqt (hs _ (by decide +kernel))) hA
  have hz62 : va_Z "AnswersFirst" "LEAST_SETTING" "[I" (.ref t62) A s s.heap := va_Zref (hts (.laysStatic "AnswersFirst" "LEAST_SETTING" "[I") (List.mem_of_getElem? (i := 469) (by decide +kernel))) (hts (.initialized "AnswersFirst") (List.mem_of_getElem? (i := 67) (by decide +kernel))) ht62 hA
  obtain ⟨t63, ht63, hT63⟩ := va_Tof (tm := .static "AnswersFirst" "MOST_SETTING" "[I") (ty := .int) (N := 4) (f := fun j => .int (roI 63 j)) (A := A) (by decide) (hs _ (by decide +kernel)) (va_eqt (hs (Cond.eq (.length (.static "AnswersFirst" "MOST_SETTING" "[I")) (.int (Int32.ofNat 4))) (by decide +kernel))) (fun j hj => by rcases (show j = 0 ∨ j = 1 ∨ j = 2 ∨ j = 3 by omega) with rfl | rfl | rfl | rfl <;> exact va_eqt (hs _ (by decide +kernel))) hA
  have hz63 : va_Z "AnswersFirst" "MOST_SETTING" "[I" (.ref t63) A s s.heap := va_Zref (hts (.laysStatic "AnswersFirst" "MOST_SETTING" "[I") (List.mem_of_getElem? (i := 471) (by decide +kernel))) (hts (.initialized "AnswersFirst") (List.mem_of_getElem? (i := 67) (by decide +kernel))) ht63 hA
  have hcs : va_Z "java/lang/String" "COMPACT_STRINGS" "Z" (.int 1) A s s.heap := va_Zof (hts (.laysStatic "java/lang/String" "COMPACT_STRINGS" "Z") (List.mem_of_getElem? (i := 325) (by decide +kernel))) (hts (.initialized "java/lang/String") (List.mem_of_getElem? (i := 77) (by decide +kernel))) (va_eqi (hs (Cond.eq (.static "java/lang/String" "COMPACT_STRINGS" "Z") (.int 1)) (by decide +kernel))) hA
  obtain ⟨adK, adV, hS, hE⟩ := vk_Sof (args := args) (s := s) (N := 2) (tm := fun i => .string "AnswersFirst$Entries" (if i = 0 then 69 else 76)) (len := tx_len) (byt := tx_byt) (A := A) (fun i hi => by rcases (show i = 0 ∨ i = 1 by omega) with rfl | rfl <;> decide)
    (fun i hi => by rcases (show i = 0 ∨ i = 1 by omega) with rfl | rfl <;> exact hs _ (by decide +kernel))
    (fun i hi => by rcases (show i = 0 ∨ i = 1 by omega) with rfl | rfl <;> exact hs _ (by decide +kernel))
    (fun i hi => by rcases (show i = 0 ∨ i = 1 by omega) with rfl | rfl <;> exact hs _ (by decide +kernel))
    (fun i hi => by rcases (show i = 0 ∨ i = 1 by omega) with rfl | rfl <;> exact hs _ (by decide +kernel))
    (fun i hi j hj => by
      rcases (show i = 0 ∨ i = 1 by omega) with rfl | rfl
      · have hj : j < 2 := hj
        rcases (show j = 0 ∨ j = 1 by omega) with rfl | rfl <;> exact hs _ (by decide +kernel)
      · have hj : j < 5 := hj
        rcases (show j = 0 ∨ j = 1 ∨ j = 2 ∨ j = 3 ∨ j = 4 by omega) with rfl | rfl | rfl | rfl | rfl <;> exact hs _ (by decide +kernel))
    (fun i j hi hj hij => by
      rcases (show (i = 0 ∧ j = 1) ∨ (i = 1 ∧ j = 0) by omega) with ⟨rfl, rfl⟩ | ⟨rfl, rfl⟩
      · first | exact Or.inl (hs _ (by decide +kernel)) | exact Or.inr (hs _ (by decide +kernel))
      · first | exact Or.inr (hs _ (by decide +kernel)) | exact Or.inl (hs _ (by decide +kernel))) hA
  refine ⟨fun k => if k = 60 then t60 else if k = 61 then t61 else if k = 62 then t62 else if k = 63 then t63 else if k < 66 then adK (k - 64) else adV (k - 66), fun x hx => ?_, hz60, hz61⟩
  have e62 : x.1 62 = t62 := hx 62 (by decide) (by decide)
  have e63 : x.1 63 = t63 := hx 63 (by decide) (by decide)
  have e64 : x.1 64 = adK 0 := hx 64 (by decide) (by decide)
  have e65 : x.1 65 = adK 1 := hx 65 (by decide) (by decide)
  refine ⟨⟨⟨by rw [e62]; exact hz62, by rw [e63]; exact hz63, hcs⟩, fun k h1 h2 => ?_⟩, ⟨fun i hi => ?_, fun i j hi hj e => ?_⟩, ?_, ?_⟩
  · rcases (show k = 60 ∨ k = 61 ∨ k = 62 ∨ k = 63 by omega) with rfl | rfl | rfl | rfl
    · rw [hx 60 (by decide) (by decide)]; exact hT60
    · rw [hx 61 (by decide) (by decide)]; exact hT61
    · rw [e62]; exact hT62
    · rw [e63]; exact hT63
  · have a1 : x.1 (64 + i) = adK i := by rw [hx (64 + i) (by omega) (by omega)]; rcases (show i = 0 ∨ i = 1 by omega) with rfl | rfl <;> rfl
    have a2 : x.1 (66 + i) = adV i := by rw [hx (66 + i) (by omega) (by omega)]; rcases (show i = 0 ∨ i = 1 by omega) with rfl | rfl <;> rfl
    show va_O "java/lang/String" (x.1 (64 + i)) A s s.heap ∧ va_OF "java/lang/String" "coder" "B" (.int 0) (x.1 (64 + i)) A s s.heap ∧ va_OF "java/lang/String" "value" "[B" (.ref (x.1 (66 + i))) (x.1 (64 + i)) A s s.heap ∧ va_T .byte (x.1 (66 + i)) (tx_len.getD i 0) (fun j => .int ((tx_byt.getD i []).getD j 0)) A s s.heap
    rw [a1, a2]
    exact hS.1 i hi
  · have a1 : x.1 (64 + i) = adK i := by rw [hx (64 + i) (by omega) (by omega)]; rcases (show i = 0 ∨ i = 1 by omega) with rfl | rfl <;> rfl
    have a2 : x.1 (64 + j) = adK j := by rw [hx (64 + j) (by omega) (by omega)]; rcases (show j = 0 ∨ j = 1 by omega) with rfl | rfl <;> rfl
    have e : x.1 (64 + i) = x.1 (64 + j) := e
    rw [a1, a2] at e
    exact hS.2 i j hi hj e
  · rw [e64]; exact vk_R.of (A := args) (hts (.stringRef "AnswersFirst$Entries" 69 "ny") (List.mem_of_getElem? (i := 311) (by decide +kernel))) (hE 0 (by decide))
  · rw [e65]; exact vk_R.of (A := args) (hts (.stringRef "AnswersFirst$Entries" 76 "aeyns") (List.mem_of_getElem? (i := 396) (by decide +kernel))) (hE 1 (by decide))
