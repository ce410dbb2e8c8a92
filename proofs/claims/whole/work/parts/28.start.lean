theorem m_85 : (Jvm.Cond.classLink "AnswersFirstLaw" (7 : Nat) "AnswersFirst") ∈ lw_g := lw_g_in 85 (by decide +kernel) (by decide +kernel)
theorem m_86 : (Jvm.Cond.instantiable "AnswersFirst" (12 : Nat)) ∈ lw_g := lw_g_in 86 (by decide +kernel) (by decide +kernel)
theorem m_87 : (Jvm.Cond.methodLink "AnswersFirstLaw" (9 : Nat) ({ cls := "AnswersFirst", name := "<init>", desc := "()V" } : Jvm.MethodName)) ∈ lw_g := lw_g_in 87 (by decide +kernel) (by decide +kernel)
theorem m_88 : (Jvm.Cond.instanceMethod ({ cls := "AnswersFirst", name := "<init>", desc := "()V" } : Jvm.MethodName)) ∈ lw_g := lw_g_in 88 (by decide +kernel) (by decide +kernel)
theorem m_903 : (Jvm.Cond.classLink "AnswersFirstLaw" (10 : Nat) "AnswersFirstModel") ∈ lw_g := lw_g_in 903 (by decide +kernel) (by decide +kernel)
theorem m_904 : (Jvm.Cond.instantiable "AnswersFirstModel" (23 : Nat)) ∈ lw_g := lw_g_in 904 (by decide +kernel) (by decide +kernel)
theorem m_905 : (Jvm.Cond.methodLink "AnswersFirstLaw" (12 : Nat) ({ cls := "AnswersFirstModel", name := "<init>", desc := "()V" } : Jvm.MethodName)) ∈ lw_g := lw_g_in 905 (by decide +kernel) (by decide +kernel)
theorem m_906 : (Jvm.Cond.instanceMethod ({ cls := "AnswersFirstModel", name := "<init>", desc := "()V" } : Jvm.MethodName)) ∈ lw_g := lw_g_in 906 (by decide +kernel) (by decide +kernel)
theorem q_len (t60 t61 : Nat) (D : va_G) (cT : Nat → ClassId) (h0 : Nat) (u : Nat → Nat) : (wA t60 t61 D cT h0 u).length = 37 := by simp [wA]
theorem q_front (l : va_W) (q : Nat × va_E) (n : Nat) (hn : l.length = n) : (List.range n).map (fun i => (l ++ [q])[i]?) = l.map some := by
  subst hn
  refine List.ext_getElem? (fun i => ?_)
  rw [List.getElem?_map, List.getElem?_map]
  by_cases hi : i < l.length
  · rw [List.getElem?_range hi]
    show some ((l ++ [q])[i]?) = Option.map some l[i]?
    rw [List.getElem?_append_left hi, List.getElem?_eq_getElem hi]
    rfl
  · rw [List.getElem?_eq_none (by simpa using hi), List.getElem?_eq_none (by simpa using hi)]
    rfl
theorem q_last (l : va_W) (q : Nat × va_E) (n : Nat) (hn : l.length = n) : [n].map (fun i => (l ++ [q])[i]?) = [q].map some := by
  subst hn
  simp
/-- where everything lies -/
def xZ (q0 q1 : Nat) (u v ro : Nat → Nat) (D : va_G) (cT : Nat → ClassId) : Wx := (fun k => if k = 0 then q0 else if k < 37 then u k else if k = 37 then q1 else if k < 54 then v k else ro k, D, cT)
set_option maxRecDepth 100000 in
set_option maxHeartbeats 4000000 in
theorem q_world (q0 q1 : Nat) (u v ro : Nat → Nat) (D : va_G) (cT : Nat → ClassId) : (((wA (ro 60) (ro 61) D cT q0 u ++ wB D cT q1 v).set 1 (u 1, .inl (cT 14, 3, qF (fun i => some ((xZ q0 q1 u v ro D cT).1 (1 + 1 + i)))))).set 8 (u 8, .inl (cT 12, 3, qF (fun i => some ((xZ q0 q1 u v ro D cT).1 (8 + 1 + i)))))).set 28 (u 28, .inl (cT 13, 4, qF (fun i => some ((xZ q0 q1 u v ro D cT).1 (28 + 1 + i))))) = wl (xZ q0 q1 u v ro D cT) M0 := rfl
set_option maxRecDepth 100000 in
set_option maxHeartbeats 4000000 in
theorem law_open {p : Program} {e : Env} {s : State} {m : MethodId} {below : List Frame} {meth : Method} {c : Code} (l : Launch) {b L : Nat} {xs : Nat → Int32} (F : Nat) (hp : sL_law F L xs M0 = some ()) (C0 : lw_At p s m meth c b L xs) : W p l e room_1 s m #[Value.ref b] below meth c s.heap [] 0 0 (lw_Z below #[Value.ref b] s) (entryFrame m ([Value.ref b] : List Value).toArray 4) := by
  obtain ⟨hx, hb, hr, hml, hown, hts, hX, hbl, hlocks, hgv⟩ := id C0
  have hA0 : ∀ a : Nat, a < s.heap.size → ¬ (fun q : Nat => s.heap.size ≤ q) a := fun a h => Nat.not_le.mpr h
  obtain ⟨D, hD⟩ := q_cls hts
  obtain ⟨cT, hcT⟩ := q_tys hts
  obtain ⟨ro, hro, hz⟩ := q_ro hts hgv hA0
  have hC : CA D cT (p, l, e, room_1, s, m, #[Value.ref b], below, meth, c, (fun q : Nat => s.heap.size ≤ q), 0, 0) "AnswersFirstLaw" cL_law 4 room_1 := ⟨hx, hb, hml, hown, fun w hw => hts w (lw_g_sub hw), ⟨hD, hcT⟩, fun q h => h, rfl, hlocks⟩
  have hao : va_AO "AnswersFirst$Text" s ∧ va_AO "AnswersFirst$Entries" s ∧ va_AO "AnswersFirst$Sheet" s := ⟨va_AO.of (hts _ (List.mem_of_getElem? (i := 94) (by decide +kernel))), va_AO.of (hts _ (List.mem_of_getElem? (i := 112) (by decide +kernel))), va_AO.of (hts _ (List.mem_of_getElem? (i := 228) (by decide +kernel)))⟩
  have hnw_42 : va_Nw (.methodLinkNest "AnswersFirst" 42 yX3_init "AnswersFirst") s := va_Nw.of rfl (hts _ (List.mem_of_getElem? (i := 150) (by decide +kernel)))
  have hnw_53 : va_Nw (.methodLinkNest "AnswersFirst" 53 yX0_init "AnswersFirst") s := va_Nw.of rfl (hts _ (List.mem_of_getElem? (i := 181) (by decide +kernel)))
  have hnw_63 : va_Nw (.methodLinkNest "AnswersFirst" 63 yX4_init "AnswersFirst") s := va_Nw.of rfl (hts _ (List.mem_of_getElem? (i := 203) (by decide +kernel)))
  have hnw_70 : va_Nw (.methodLinkNest "AnswersFirst" 70 yX2_init "AnswersFirst") s := va_Nw.of rfl (hts _ (List.mem_of_getElem? (i := 219) (by decide +kernel)))
  have hnw_77 : va_Nw (.methodLinkNest "AnswersFirst" 77 yX5_init "AnswersFirst") s := va_Nw.of rfl (hts _ (List.mem_of_getElem? (i := 230) (by decide +kernel)))
  have K : GA D (p, l, e, room_1, s, m, #[Value.ref b], below, meth, c, (fun q : Nat => s.heap.size ≤ q), 0, 0) 4 (lw_Z below #[Value.ref b] s) 0 [(0, .ref b)] [] [] 0 0 := by
    refine a_new hC cf7 (fs := [.null, .null, .null, .null, .null, .int 0, .null, .int 0, .null, .null, .null, .int 0]) (fun j hj => by rcases (show j = 0 ∨ j = 1 ∨ j = 2 ∨ j = 3 ∨ j = 4 ∨ j = 5 ∨ j = 6 ∨ j = 7 ∨ j = 8 ∨ j = 9 ∨ j = 10 ∨ j = 11 by omega) with rfl | rfl | rfl | rfl | rfl | rfl | rfl | rfl | rfl | rfl | rfl | rfl <;> rfl) m_85 m_86 m_67 (by decide) (by decide) dL_law_0 (fun q0 => ?_)
    refine a_dup hC dL_law_3 rfl ?_
    refine a_callI hC (ciX7 D cT (ro 60) (ro 61)) maX7 m_88 rfl m_87 (wr := []) (st := [.ref q0]) 0 [] rfl rfl (by decide) (by decide)
      (fun A U g mk a h => ⟨⟨va_AO.moved (Vm.Alike.refl U.vm) h.1.1, va_AO.moved (Vm.Alike.refl U.vm) h.1.2.1, va_AO.moved (Vm.Alike.refl U.vm) h.1.2.2⟩, ⟨va_Nw.same rfl rfl h.2.1.1, va_Nw.same rfl rfl h.2.1.2.1, va_Nw.same rfl rfl h.2.1.2.2.1, va_Nw.same rfl rfl h.2.1.2.2.2.1, va_Nw.same rfl rfl h.2.1.2.2.2.2⟩, va_Z.moved (Vm.Alike.refl U.vm) h.2.2.1, va_Z.moved (Vm.Alike.refl U.vm) h.2.2.2⟩)
      (fun H locs U hS hU hW hF => ⟨⟨va_AO.moved hW.alike hao.1, va_AO.moved hW.alike hao.2.1, va_AO.moved hW.alike hao.2.2⟩, ⟨va_Nw.warmM hW hnw_42, va_Nw.warmM hW hnw_53, va_Nw.warmM hW hnw_63, va_Nw.warmM hW hnw_70, va_Nw.warmM hW hnw_77⟩, va_Z.moved hW.alike (((hz.1).kept (by rw [hU]; exact hS.2.1)).narrow hF), va_Z.moved hW.alike (((hz.2).kept (by rw [hU]; exact hS.2.1)).narrow hF)⟩)
      (by decide) (by decide) rfl rfl (Nat.le_of_ble_eq_true rfl) dL_law_4 (fun u => ?_)
    show GA D _ 4 _ 7 [(0, .ref b)] [.ref q0] (wA (ro 60) (ro 61) D cT q0 u) 37 4793
    refine a_astore_n hC (lv' := [(0, .ref b), (1, .ref q0)]) [1, 0] dL_law_7 rfl (by decide) rfl ?_
    refine a_new hC cf8 (fs := [.null, .null, .int 0, .null, .null, .null, .int 0, .int 0, .int 0, .int 0, .null, .null, .null, .null, .int 0, .null, .null, .null, .null, .null, .null, .null, .int 0]) (fun j hj => by rcases (show j = 0 ∨ j = 1 ∨ j = 2 ∨ j = 3 ∨ j = 4 ∨ j = 5 ∨ j = 6 ∨ j = 7 ∨ j = 8 ∨ j = 9 ∨ j = 10 ∨ j = 11 ∨ j = 12 ∨ j = 13 ∨ j = 14 ∨ j = 15 ∨ j = 16 ∨ j = 17 ∨ j = 18 ∨ j = 19 ∨ j = 20 ∨ j = 21 ∨ j = 22 by omega) with rfl | rfl | rfl | rfl | rfl | rfl | rfl | rfl | rfl | rfl | rfl | rfl | rfl | rfl | rfl | rfl | rfl | rfl | rfl | rfl | rfl | rfl | rfl <;> rfl) m_903 m_904 m_76 (by decide) (by decide) dL_law_8 (fun q1 => ?_)
    refine a_dup hC dL_law_11 rfl ?_
    refine a_callI hC (ciX8 D cT) maX8 m_906 rfl m_905 (wr := wA (ro 60) (ro 61) D cT q0 u) (st := [.ref q1]) 37 (List.range 37) (q_last _ _ 37 (q_len _ _ _ _ _ _)) (q_front _ _ 37 (q_len _ _ _ _ _ _)) (by decide) (by decide) (fun _ _ _ _ _ h => h) (fun _ _ _ _ _ _ _ => trivial) (by decide) (by decide) rfl rfl (Nat.le_of_ble_eq_true rfl) dL_law_12 (fun v => ?_)
    show GA D _ 4 _ 15 [(0, .ref b), (1, .ref q0)] [.ref q1] (wA (ro 60) (ro 61) D cT q0 u ++ wB D cT q1 v) 54 8543
    refine a_astore_n hC (lv' := [(0, .ref b), (1, .ref q0), (2, .ref q1)]) [1, 2, 0] dL_law_15 rfl (by decide) rfl ?_
    refine a_qf (ws' := ((wA (ro 60) (ro 61) D cT q0 u ++ wB D cT q1 v).set 1 (u 1, .inl (cT 14, 3, qF (fun i => some ((xZ q0 q1 u v ro D cT).1 (1 + 1 + i))))))) (h := (fun i => some ((xZ q0 q1 u v ro D cT).1 (1 + 1 + i)))) 1 rfl (fun j (hj : j < 3) => by rcases (show j = 0 ∨ j = 1 ∨ j = 2 by omega) with rfl | rfl | rfl <;> rfl) rfl ?_
    refine a_qf (ws' := (((wA (ro 60) (ro 61) D cT q0 u ++ wB D cT q1 v).set 1 (u 1, .inl (cT 14, 3, qF (fun i => some ((xZ q0 q1 u v ro D cT).1 (1 + 1 + i)))))).set 8 (u 8, .inl (cT 12, 3, qF (fun i => some ((xZ q0 q1 u v ro D cT).1 (8 + 1 + i))))))) (h := (fun i => some ((xZ q0 q1 u v ro D cT).1 (8 + 1 + i)))) 8 rfl (fun j (hj : j < 3) => by rcases (show j = 0 ∨ j = 1 ∨ j = 2 by omega) with rfl | rfl | rfl <;> rfl) rfl ?_
    refine a_qf (ws' := ((((wA (ro 60) (ro 61) D cT q0 u ++ wB D cT q1 v).set 1 (u 1, .inl (cT 14, 3, qF (fun i => some ((xZ q0 q1 u v ro D cT).1 (1 + 1 + i)))))).set 8 (u 8, .inl (cT 12, 3, qF (fun i => some ((xZ q0 q1 u v ro D cT).1 (8 + 1 + i)))))).set 28 (u 28, .inl (cT 13, 4, qF (fun i => some ((xZ q0 q1 u v ro D cT).1 (28 + 1 + i))))))) (h := (fun i => some ((xZ q0 q1 u v ro D cT).1 (28 + 1 + i)))) 28 rfl (fun j (hj : j < 4) => by rcases (show j = 0 ∨ j = 1 ∨ j = 2 ∨ j = 3 by omega) with rfl | rfl | rfl | rfl <;> rfl) rfl ?_
    intro H locs ls hP hD1 hS hl
    rw [q_world] at hP hD1
    have hC2 : Cx (xZ q0 q1 u v ro D cT) (p, l, e, room_1, s, m, #[Value.ref b], below, meth, c, (fun q : Nat => s.heap.size ≤ q), 54, 8543) "AnswersFirstLaw" cL_law 4 room_1 := by
      refine ⟨hx, hb, hml, hown, fun w hw => hts w (lw_g_sub hw), ⟨hD, hcT⟩, fun i j hi hj e => hD1.1 i j _ _ (wl_get hi) (wl_get hj) e, fun k hk => hD1.2 k _ (wl_get hk), hro _ (fun k h1 h2 => ?_), rfl, hlocks, show (54 : Nat) ≤ 600000 by decide, show (8543 : Nat) ≤ 7302250 by decide⟩
      show (if k = 0 then q0 else if k < 37 then u k else if k = 37 then q1 else if k < 54 then v k else ro k) = ro k
      rw [if_neg (by omega), if_neg (by omega), if_neg (by omega), if_neg (by omega)]
    exact gL_law (x := xZ q0 q1 u v ro D cT) F M0 hC2 hX hbl (Nat.not_le.mpr hbl) rfl rfl hr () hp H locs ls hP hS hl
  have hl := lv_entry ([.ref b]) (n := 4) (Nat.le_of_ble_eq_true rfl)
  rw [lg_entry_eq]
  exact K s.heap [] _ (fun k q h => by simp at h) ⟨fun i j p q h => by simp at h, fun k q h => by simp at h⟩ va_S.rf hl
