theorem m_89 : (Jvm.Cond.code ({ cls := "AnswersFirst", name := "<init>", desc := "()V" } : Jvm.MethodName) prog_1_method_1_code (1 : Nat) (Option.none : Option Jvm.ClassFile.FieldType)) ∈ lw_g := lw_g_in 89 (by decide +kernel) (by decide +kernel)
theorem m_98 : (Jvm.Cond.code ({ cls := "AnswersFirst$Text", name := "<init>", desc := "(I)V" } : Jvm.MethodName) prog_8_method_1_code (2 : Nat) (Option.none : Option Jvm.ClassFile.FieldType)) ∈ lw_g := lw_g_in 98 (by decide +kernel) (by decide +kernel)
theorem m_99 : (Jvm.Cond.methodLink "AnswersFirst$Text" (3 : Nat) ({ cls := "java/lang/Object", name := "<init>", desc := "()V" } : Jvm.MethodName)) ∈ lw_g := lw_g_in 99 (by decide +kernel) (by decide +kernel)
theorem m_100 : (Jvm.Cond.methodLink "AnswersFirst$Text" (9 : Nat) ({ cls := "java/lang/Math", name := "max", desc := "(II)I" } : Jvm.MethodName)) ∈ lw_g := lw_g_in 100 (by decide +kernel) (by decide +kernel)
theorem m_110 : (Jvm.Cond.arrayClass Jvm.ClassFile.FieldType.byte) ∈ lw_g := lw_g_in 110 (by decide +kernel) (by decide +kernel)
theorem m_118 : (Jvm.Cond.code ({ cls := "AnswersFirst$Entries", name := "<init>", desc := "([I)V" } : Jvm.MethodName) prog_3_method_1_code (2 : Nat) (Option.none : Option Jvm.ClassFile.FieldType)) ∈ lw_g := lw_g_in 118 (by decide +kernel) (by decide +kernel)
theorem m_119 : (Jvm.Cond.methodLink "AnswersFirst$Entries" (3 : Nat) ({ cls := "java/lang/Object", name := "<init>", desc := "()V" } : Jvm.MethodName)) ∈ lw_g := lw_g_in 119 (by decide +kernel) (by decide +kernel)
theorem m_145 : (Jvm.Cond.arrayClass Jvm.ClassFile.FieldType.int) ∈ lw_g := lw_g_in 145 (by decide +kernel) (by decide +kernel)
theorem m_152 : (Jvm.Cond.code ({ cls := "AnswersFirst$Rows", name := "<init>", desc := "()V" } : Jvm.MethodName) prog_5_method_1_code (1 : Nat) (Option.none : Option Jvm.ClassFile.FieldType)) ∈ lw_g := lw_g_in 152 (by decide +kernel) (by decide +kernel)
theorem m_153 : (Jvm.Cond.methodLink "AnswersFirst$Rows" (3 : Nat) ({ cls := "java/lang/Object", name := "<init>", desc := "()V" } : Jvm.MethodName)) ∈ lw_g := lw_g_in 153 (by decide +kernel) (by decide +kernel)
theorem m_183 : (Jvm.Cond.code ({ cls := "AnswersFirst$Accounts", name := "<init>", desc := "()V" } : Jvm.MethodName) prog_2_method_1_code (1 : Nat) (Option.none : Option Jvm.ClassFile.FieldType)) ∈ lw_g := lw_g_in 183 (by decide +kernel) (by decide +kernel)
theorem m_184 : (Jvm.Cond.methodLink "AnswersFirst$Accounts" (3 : Nat) ({ cls := "java/lang/Object", name := "<init>", desc := "()V" } : Jvm.MethodName)) ∈ lw_g := lw_g_in 184 (by decide +kernel) (by decide +kernel)
theorem m_205 : (Jvm.Cond.code ({ cls := "AnswersFirst$Seen", name := "<init>", desc := "()V" } : Jvm.MethodName) prog_6_method_1_code (1 : Nat) (Option.none : Option Jvm.ClassFile.FieldType)) ∈ lw_g := lw_g_in 205 (by decide +kernel) (by decide +kernel)
theorem m_206 : (Jvm.Cond.methodLink "AnswersFirst$Seen" (3 : Nat) ({ cls := "java/lang/Object", name := "<init>", desc := "()V" } : Jvm.MethodName)) ∈ lw_g := lw_g_in 206 (by decide +kernel) (by decide +kernel)
theorem m_221 : (Jvm.Cond.code ({ cls := "AnswersFirst$Lots", name := "<init>", desc := "()V" } : Jvm.MethodName) prog_4_method_1_code (1 : Nat) (Option.none : Option Jvm.ClassFile.FieldType)) ∈ lw_g := lw_g_in 221 (by decide +kernel) (by decide +kernel)
theorem m_222 : (Jvm.Cond.methodLink "AnswersFirst$Lots" (1 : Nat) ({ cls := "java/lang/Object", name := "<init>", desc := "()V" } : Jvm.MethodName)) ∈ lw_g := lw_g_in 222 (by decide +kernel) (by decide +kernel)
theorem m_232 : (Jvm.Cond.code ({ cls := "AnswersFirst$Sheet", name := "<init>", desc := "()V" } : Jvm.MethodName) prog_7_method_1_code (1 : Nat) (Option.none : Option Jvm.ClassFile.FieldType)) ∈ lw_g := lw_g_in 232 (by decide +kernel) (by decide +kernel)
theorem m_233 : (Jvm.Cond.methodLink "AnswersFirst$Sheet" (3 : Nat) ({ cls := "java/lang/Object", name := "<init>", desc := "()V" } : Jvm.MethodName)) ∈ lw_g := lw_g_in 233 (by decide +kernel) (by decide +kernel)
theorem m_907 : (Jvm.Cond.code ({ cls := "AnswersFirstModel", name := "<init>", desc := "()V" } : Jvm.MethodName) prog_10_method_1_code (2 : Nat) (Option.none : Option Jvm.ClassFile.FieldType)) ∈ lw_g := lw_g_in 907 (by decide +kernel) (by decide +kernel)
theorem maX0 : MA yX0_init cX0_init 1 none 0 := ⟨m_183, m_72, by decide, by decide, by decide⟩
theorem maX1 : MA yX1_init cX1_init 2 none 1 := ⟨m_118, m_70, by decide, by decide, by decide⟩
theorem maX2 : MA yX2_init cX2_init 1 none 0 := ⟨m_221, m_74, by decide, by decide, by decide⟩
theorem maX3 : MA yX3_init cX3_init 1 none 0 := ⟨m_152, m_71, by decide, by decide, by decide⟩
theorem maX4 : MA yX4_init cX4_init 1 none 0 := ⟨m_205, m_73, by decide, by decide, by decide⟩
theorem maX5 : MA yX5_init cX5_init 1 none 0 := ⟨m_232, m_75, by decide, by decide, by decide⟩
theorem maX6 : MA yX6_init cX6_init 2 none 1 := ⟨m_98, m_68, by decide, by decide, by decide⟩
theorem maX7 : MA yX7_init cX7_init 1 none 0 := ⟨m_89, m_67, by decide, by decide, by decide⟩
theorem maX8 : MA yX8_init cX8_init 2 none 0 := ⟨m_907, m_76, by decide, by decide, by decide⟩
theorem mO_code : Cond.code objectInit ⟨#[0xb1]⟩ 1 none ∈ lw_g := lw_g_in 92 (by decide +kernel) (by decide +kernel)
theorem mO_in : Cond.instanceMethod objectInit ∈ lw_g := lw_g_in 91 (by decide +kernel) (by decide +kernel)
set_option maxRecDepth 100000 in
set_option maxHeartbeats 4000000 in
theorem ciX6_80 (D : va_G) (cT : Nat → ClassId) : Ci D cT yX6_init cX6_init 2 { frames := 1, cells := 1, slots := 80, locals := 30 } 1 80 [.int (80 : Int32)] (.inr (6, [.null, .int 0])) (fun _ _ => True) (fun (h0 : Nat) (u : Nat → Nat) => [(h0, .inr (6, [.ref (u 0), .int 0])), ((u 0), .inl (cT 10, 80, .inl (fun _ => 0)))]) := by
  refine ci_of (by decide) rfl (fun _ => Nat.le_of_ble_eq_true rfl) (fun f h0 hC hr hname hpre => ?_)
  have hC : CA D cT f "AnswersFirst$Text" cX6_init 2 { frames := 1, cells := 1, slots := 80, locals := 30 } := hC
  show GA D f 2 _ 0 [(0, .ref h0), (1, .int (80 : Int32))] [] [(h0, .inr (6, [.null, .int 0]))] 0 0
  refine a_aload_n hC 0 dX6_init_0 rfl rfl ?_
  refine a_objinit hC m_99 mO_in mO_code (by decide) (by decide) dX6_init_1 ?_
  refine a_aload_n hC 0 dX6_init_4 rfl rfl ?_
  refine a_iconst hC (v := (0 : Int32)) dX6_init_5 (by decide) ?_
  refine a_iload_n hC 1 dX6_init_6 rfl rfl ?_
  refine a_mmax hC (v := (80 : Int32)) m_100 m_101 m_69 mM_max (by decide) (Nat.le_of_ble_eq_true rfl) (by decide) (by decide) (by decide) dX6_init_7 ?_
  refine a_newa hC (at' := .byte) 1 rfl (fun h => h) (fun _ h => h) rfl m_110 (N := 80) (a0 := (80, .inl (fun _ => 0))) (fun _ => rfl) (by decide) (by decide) (by decide) (by decide) (by decide) dX6_init_10 (fun q1 => ?_)
  show GA D f 2 _ 12 [(0, .ref h0), (1, .int (80 : Int32))] [.ref q1, .ref h0] [(h0, .inr (6, [.null, .int 0])), (q1, .inl (cT 10, 80, .inl (fun _ => 0)))] 1 80
  refine a_putF hC hname cf6 (ws' := [(h0, .inr (6, [.ref q1, .int 0])), (q1, .inl (cT 10, 80, .inl (fun _ => 0)))]) 0 rfl 0 (by decide) m_103 rfl rfl rfl rfl (Nat.le_of_ble_eq_true rfl) rfl dX6_init_12 ?_
  exact a_vret hC hr (fun k => [q1].getD k 0) rfl dX6_init_15
set_option maxRecDepth 100000 in
set_option maxHeartbeats 4000000 in
theorem ciX6_60 (D : va_G) (cT : Nat → ClassId) : Ci D cT yX6_init cX6_init 2 { frames := 1, cells := 1, slots := 60, locals := 30 } 1 60 [.int (60 : Int32)] (.inr (6, [.null, .int 0])) (fun _ _ => True) (fun (h0 : Nat) (u : Nat → Nat) => [(h0, .inr (6, [.ref (u 0), .int 0])), ((u 0), .inl (cT 10, 60, .inl (fun _ => 0)))]) := by
  refine ci_of (by decide) rfl (fun _ => Nat.le_of_ble_eq_true rfl) (fun f h0 hC hr hname hpre => ?_)
  have hC : CA D cT f "AnswersFirst$Text" cX6_init 2 { frames := 1, cells := 1, slots := 60, locals := 30 } := hC
  show GA D f 2 _ 0 [(0, .ref h0), (1, .int (60 : Int32))] [] [(h0, .inr (6, [.null, .int 0]))] 0 0
  refine a_aload_n hC 0 dX6_init_0 rfl rfl ?_
  refine a_objinit hC m_99 mO_in mO_code (by decide) (by decide) dX6_init_1 ?_
  refine a_aload_n hC 0 dX6_init_4 rfl rfl ?_
  refine a_iconst hC (v := (0 : Int32)) dX6_init_5 (by decide) ?_
  refine a_iload_n hC 1 dX6_init_6 rfl rfl ?_
  refine a_mmax hC (v := (60 : Int32)) m_100 m_101 m_69 mM_max (by decide) (Nat.le_of_ble_eq_true rfl) (by decide) (by decide) (by decide) dX6_init_7 ?_
  refine a_newa hC (at' := .byte) 1 rfl (fun h => h) (fun _ h => h) rfl m_110 (N := 60) (a0 := (60, .inl (fun _ => 0))) (fun _ => rfl) (by decide) (by decide) (by decide) (by decide) (by decide) dX6_init_10 (fun q1 => ?_)
  show GA D f 2 _ 12 [(0, .ref h0), (1, .int (60 : Int32))] [.ref q1, .ref h0] [(h0, .inr (6, [.null, .int 0])), (q1, .inl (cT 10, 60, .inl (fun _ => 0)))] 1 60
  refine a_putF hC hname cf6 (ws' := [(h0, .inr (6, [.ref q1, .int 0])), (q1, .inl (cT 10, 60, .inl (fun _ => 0)))]) 0 rfl 0 (by decide) m_103 rfl rfl rfl rfl (Nat.le_of_ble_eq_true rfl) rfl dX6_init_12 ?_
  exact a_vret hC hr (fun k => [q1].getD k 0) rfl dX6_init_15
set_option maxRecDepth 100000 in
set_option maxHeartbeats 4000000 in
theorem ciX1 (D : va_G) (cT : Nat → ClassId) (t : Nat) : Ci D cT yX1_init cX1_init 2 { frames := 1, cells := 1, slots := 60, locals := 30 } 1 60 [.ref t] (.inr (1, [.null, .null, .int 0, .int 0, .int 0, .int 0, .int 0, .int 0])) (fun _ _ => True) (fun (h0 : Nat) (u : Nat → Nat) => [(h0, .inr (1, [.ref t, .ref (u 0), .int 0, .int 0, .int 0, .int 0, .int 0, .int (-1 : Int32)])), ((u 0), .inl (cT 9, 60, .inl (fun _ => 0)))]) := by
  refine ci_of (by decide) rfl (fun _ => Nat.le_of_ble_eq_true rfl) (fun f h0 hC hr hname hpre => ?_)
  have hC : CA D cT f "AnswersFirst$Entries" cX1_init 2 { frames := 1, cells := 1, slots := 60, locals := 30 } := hC
  show GA D f 2 _ 0 [(0, .ref h0), (1, .ref t)] [] [(h0, .inr (1, [.null, .null, .int 0, .int 0, .int 0, .int 0, .int 0, .int 0]))] 0 0
  refine a_aload_n hC 0 dX1_init_0 rfl rfl ?_
  refine a_objinit hC m_119 mO_in mO_code (by decide) (by decide) dX1_init_1 ?_
  refine a_aload_n hC 0 dX1_init_4 rfl rfl ?_
  refine a_bipush hC (v := (60 : Int32)) dX1_init_5 (by decide) ?_
  refine a_newa hC (at' := .int) 0 rfl (fun h => h) (fun _ h => h) rfl m_145 (N := 60) (a0 := (60, .inl (fun _ => 0))) (fun _ => rfl) (by decide) (by decide) (by decide) (by decide) (by decide) dX1_init_7 (fun q1 => ?_)
  show GA D f 2 _ 9 [(0, .ref h0), (1, .ref t)] [.ref q1, .ref h0] [(h0, .inr (1, [.null, .null, .int 0, .int 0, .int 0, .int 0, .int 0, .int 0])), (q1, .inl (cT 9, 60, .inl (fun _ => 0)))] 1 60
  refine a_putF hC hname cf1 (ws' := [(h0, .inr (1, [.null, .ref q1, .int 0, .int 0, .int 0, .int 0, .int 0, .int 0])), (q1, .inl (cT 9, 60, .inl (fun _ => 0)))]) 0 rfl 1 (by decide) m_121 rfl rfl rfl rfl (Nat.le_of_ble_eq_true rfl) rfl dX1_init_9 ?_
  refine a_aload_n hC 0 dX1_init_12 rfl rfl ?_
  refine a_iconst hC (v := (-1 : Int32)) dX1_init_13 (by decide) ?_
  refine a_put hC cf1 (ws' := [(h0, .inr (1, [.null, .ref q1, .int 0, .int 0, .int 0, .int 0, .int 0, .int (-1 : Int32)])), (q1, .inl (cT 9, 60, .inl (fun _ => 0)))]) 0 rfl 7 (by decide) m_127 rfl rfl rfl (Nat.le_of_ble_eq_true rfl) rfl dX1_init_14 ?_
  refine a_aload_n hC 0 dX1_init_17 rfl rfl ?_
  refine a_aload_n hC 1 dX1_init_18 rfl rfl ?_
  refine a_putF hC hname cf1 (ws' := [(h0, .inr (1, [.ref t, .ref q1, .int 0, .int 0, .int 0, .int 0, .int 0, .int (-1 : Int32)])), (q1, .inl (cT 9, 60, .inl (fun _ => 0)))]) 0 rfl 0 (by decide) m_120 rfl rfl rfl rfl (Nat.le_of_ble_eq_true rfl) rfl dX1_init_19 ?_
  exact a_vret hC hr (fun k => [q1].getD k 0) rfl dX1_init_22
set_option maxRecDepth 100000 in
set_option maxHeartbeats 4000000 in
theorem ciX3 (D : va_G) (cT : Nat → ClassId) : Ci D cT yX3_init cX3_init 1 { frames := 1, cells := 5, slots := 3092, locals := 30 } 5 3092 [] (.inr (3, [.null, .null, .null, .null, .null, .int 0, .int 0, .int 0])) (fun _ _ => True) (fun (h0 : Nat) (u : Nat → Nat) => [(h0, .inr (3, [.ref (u 0), .ref (u 1), .ref (u 2), .ref (u 3), .ref (u 4), .int 0, .int 0, .int 0])), ((u 0), .inl (cT 9, 1024, .inl (fun _ => 0))), ((u 1), .inl (cT 9, 1024, .inl (fun _ => 0))), ((u 2), .inl (cT 9, 1024, .inl (fun _ => 0))), ((u 3), .inl (cT 9, 10, .inl (fun _ => 0))), ((u 4), .inl (cT 9, 10, .inl (fun _ => 0)))]) := by
  refine ci_of (by decide) rfl (fun _ => Nat.le_of_ble_eq_true rfl) (fun f h0 hC hr hname hpre => ?_)
  have hC : CA D cT f "AnswersFirst$Rows" cX3_init 1 { frames := 1, cells := 5, slots := 3092, locals := 30 } := hC
  show GA D f 1 _ 0 [(0, .ref h0)] [] [(h0, .inr (3, [.null, .null, .null, .null, .null, .int 0, .int 0, .int 0]))] 0 0
  refine a_aload_n hC 0 dX3_init_0 rfl rfl ?_
  refine a_objinit hC m_153 mO_in mO_code (by decide) (by decide) dX3_init_1 ?_
  refine a_aload_n hC 0 dX3_init_4 rfl rfl ?_
  refine a_sipush hC (v := (1024 : Int32)) dX3_init_5 (by decide) ?_
  refine a_newa hC (at' := .int) 0 rfl (fun h => h) (fun _ h => h) rfl m_145 (N := 1024) (a0 := (1024, .inl (fun _ => 0))) (fun _ => rfl) (by decide) (by decide) (by decide) (by decide) (by decide) dX3_init_8 (fun q1 => ?_)
  show GA D f 1 _ 10 [(0, .ref h0)] [.ref q1, .ref h0] [(h0, .inr (3, [.null, .null, .null, .null, .null, .int 0, .int 0, .int 0])), (q1, .inl (cT 9, 1024, .inl (fun _ => 0)))] 1 1024
  refine a_putF hC hname cf3 (ws' := [(h0, .inr (3, [.ref q1, .null, .null, .null, .null, .int 0, .int 0, .int 0])), (q1, .inl (cT 9, 1024, .inl (fun _ => 0)))]) 0 rfl 0 (by decide) m_154 rfl rfl rfl rfl (Nat.le_of_ble_eq_true rfl) rfl dX3_init_10 ?_
  refine a_aload_n hC 0 dX3_init_13 rfl rfl ?_
  refine a_sipush hC (v := (1024 : Int32)) dX3_init_14 (by decide) ?_
  refine a_newa hC (at' := .int) 0 rfl (fun h => h) (fun _ h => h) rfl m_145 (N := 1024) (a0 := (1024, .inl (fun _ => 0))) (fun _ => rfl) (by decide) (by decide) (by decide) (by decide) (by decide) dX3_init_17 (fun q2 => ?_)
  show GA D f 1 _ 19 [(0, .ref h0)] [.ref q2, .ref h0] [(h0, .inr (3, [.ref q1, .null, .null, .null, .null, .int 0, .int 0, .int 0])), (q1, .inl (cT 9, 1024, .inl (fun _ => 0))), (q2, .inl (cT 9, 1024, .inl (fun _ => 0)))] 2 2048
  refine a_putF hC hname cf3 (ws' := [(h0, .inr (3, [.ref q1, .ref q2, .null, .null, .null, .int 0, .int 0, .int 0])), (q1, .inl (cT 9, 1024, .inl (fun _ => 0))), (q2, .inl (cT 9, 1024, .inl (fun _ => 0)))]) 0 rfl 1 (by decide) m_155 rfl rfl rfl rfl (Nat.le_of_ble_eq_true rfl) rfl dX3_init_19 ?_
  refine a_aload_n hC 0 dX3_init_22 rfl rfl ?_
  refine a_sipush hC (v := (1024 : Int32)) dX3_init_23 (by decide) ?_
  refine a_newa hC (at' := .int) 0 rfl (fun h => h) (fun _ h => h) rfl m_145 (N := 1024) (a0 := (1024, .inl (fun _ => 0))) (fun _ => rfl) (by decide) (by decide) (by decide) (by decide) (by decide) dX3_init_26 (fun q3 => ?_)
  show GA D f 1 _ 28 [(0, .ref h0)] [.ref q3, .ref h0] [(h0, .inr (3, [.ref q1, .ref q2, .null, .null, .null, .int 0, .int 0, .int 0])), (q1, .inl (cT 9, 1024, .inl (fun _ => 0))), (q2, .inl (cT 9, 1024, .inl (fun _ => 0))), (q3, .inl (cT 9, 1024, .inl (fun _ => 0)))] 3 3072
  refine a_putF hC hname cf3 (ws' := [(h0, .inr (3, [.ref q1, .ref q2, .ref q3, .null, .null, .int 0, .int 0, .int 0])), (q1, .inl (cT 9, 1024, .inl (fun _ => 0))), (q2, .inl (cT 9, 1024, .inl (fun _ => 0))), (q3, .inl (cT 9, 1024, .inl (fun _ => 0)))]) 0 rfl 2 (by decide) m_156 rfl rfl rfl rfl (Nat.le_of_ble_eq_true rfl) rfl dX3_init_28 ?_
  refine a_aload_n hC 0 dX3_init_31 rfl rfl ?_
  refine a_bipush hC (v := (10 : Int32)) dX3_init_32 (by decide) ?_
  refine a_newa hC (at' := .int) 0 rfl (fun h => h) (fun _ h => h) rfl m_145 (N := 10) (a0 := (10, .inl (fun _ => 0))) (fun _ => rfl) (by decide) (by decide) (by decide) (by decide) (by decide) dX3_init_34 (fun q4 => ?_)
  show GA D f 1 _ 36 [(0, .ref h0)] [.ref q4, .ref h0] [(h0, .inr (3, [.ref q1, .ref q2, .ref q3, .null, .null, .int 0, .int 0, .int 0])), (q1, .inl (cT 9, 1024, .inl (fun _ => 0))), (q2, .inl (cT 9, 1024, .inl (fun _ => 0))), (q3, .inl (cT 9, 1024, .inl (fun _ => 0))), (q4, .inl (cT 9, 10, .inl (fun _ => 0)))] 4 3082
  refine a_putF hC hname cf3 (ws' := [(h0, .inr (3, [.ref q1, .ref q2, .ref q3, .ref q4, .null, .int 0, .int 0, .int 0])), (q1, .inl (cT 9, 1024, .inl (fun _ => 0))), (q2, .inl (cT 9, 1024, .inl (fun _ => 0))), (q3, .inl (cT 9, 1024, .inl (fun _ => 0))), (q4, .inl (cT 9, 10, .inl (fun _ => 0)))]) 0 rfl 3 (by decide) m_157 rfl rfl rfl rfl (Nat.le_of_ble_eq_true rfl) rfl dX3_init_36 ?_
  refine a_aload_n hC 0 dX3_init_39 rfl rfl ?_
  refine a_bipush hC (v := (10 : Int32)) dX3_init_40 (by decide) ?_
  refine a_newa hC (at' := .int) 0 rfl (fun h => h) (fun _ h => h) rfl m_145 (N := 10) (a0 := (10, .inl (fun _ => 0))) (fun _ => rfl) (by decide) (by decide) (by decide) (by decide) (by decide) dX3_init_42 (fun q5 => ?_)
  show GA D f 1 _ 44 [(0, .ref h0)] [.ref q5, .ref h0] [(h0, .inr (3, [.ref q1, .ref q2, .ref q3, .ref q4, .null, .int 0, .int 0, .int 0])), (q1, .inl (cT 9, 1024, .inl (fun _ => 0))), (q2, .inl (cT 9, 1024, .inl (fun _ => 0))), (q3, .inl (cT 9, 1024, .inl (fun _ => 0))), (q4, .inl (cT 9, 10, .inl (fun _ => 0))), (q5, .inl (cT 9, 10, .inl (fun _ => 0)))] 5 3092
  refine a_putF hC hname cf3 (ws' := [(h0, .inr (3, [.ref q1, .ref q2, .ref q3, .ref q4, .ref q5, .int 0, .int 0, .int 0])), (q1, .inl (cT 9, 1024, .inl (fun _ => 0))), (q2, .inl (cT 9, 1024, .inl (fun _ => 0))), (q3, .inl (cT 9, 1024, .inl (fun _ => 0))), (q4, .inl (cT 9, 10, .inl (fun _ => 0))), (q5, .inl (cT 9, 10, .inl (fun _ => 0)))]) 0 rfl 4 (by decide) m_158 rfl rfl rfl rfl (Nat.le_of_ble_eq_true rfl) rfl dX3_init_44 ?_
  exact a_vret hC hr (fun k => [q1, q2, q3, q4, q5].getD k 0) rfl dX3_init_47
set_option maxRecDepth 100000 in
set_option maxHeartbeats 4000000 in
theorem ciX0 (D : va_G) (cT : Nat → ClassId) : Ci D cT yX0_init cX0_init 1 { frames := 1, cells := 2, slots := 1034, locals := 30 } 2 1034 [] (.inr (0, [.null, .null, .int 0, .int 0, .int 0])) (fun _ _ => True) (fun (h0 : Nat) (u : Nat → Nat) => [(h0, .inr (0, [.ref (u 0), .ref (u 1), .int 0, .int 0, .int 0])), ((u 0), .inl (cT 9, 10, .inl (fun _ => 0))), ((u 1), .inl (cT 9, 1024, .inl (fun _ => 0)))]) := by
  refine ci_of (by decide) rfl (fun _ => Nat.le_of_ble_eq_true rfl) (fun f h0 hC hr hname hpre => ?_)
  have hC : CA D cT f "AnswersFirst$Accounts" cX0_init 1 { frames := 1, cells := 2, slots := 1034, locals := 30 } := hC
  show GA D f 1 _ 0 [(0, .ref h0)] [] [(h0, .inr (0, [.null, .null, .int 0, .int 0, .int 0]))] 0 0
  refine a_aload_n hC 0 dX0_init_0 rfl rfl ?_
  refine a_objinit hC m_184 mO_in mO_code (by decide) (by decide) dX0_init_1 ?_
  refine a_aload_n hC 0 dX0_init_4 rfl rfl ?_
  refine a_bipush hC (v := (10 : Int32)) dX0_init_5 (by decide) ?_
  refine a_newa hC (at' := .int) 0 rfl (fun h => h) (fun _ h => h) rfl m_145 (N := 10) (a0 := (10, .inl (fun _ => 0))) (fun _ => rfl) (by decide) (by decide) (by decide) (by decide) (by decide) dX0_init_7 (fun q1 => ?_)
  show GA D f 1 _ 9 [(0, .ref h0)] [.ref q1, .ref h0] [(h0, .inr (0, [.null, .null, .int 0, .int 0, .int 0])), (q1, .inl (cT 9, 10, .inl (fun _ => 0)))] 1 10
  refine a_putF hC hname cf0 (ws' := [(h0, .inr (0, [.ref q1, .null, .int 0, .int 0, .int 0])), (q1, .inl (cT 9, 10, .inl (fun _ => 0)))]) 0 rfl 0 (by decide) m_185 rfl rfl rfl rfl (Nat.le_of_ble_eq_true rfl) rfl dX0_init_9 ?_
  refine a_aload_n hC 0 dX0_init_12 rfl rfl ?_
  refine a_sipush hC (v := (1024 : Int32)) dX0_init_13 (by decide) ?_
  refine a_newa hC (at' := .int) 0 rfl (fun h => h) (fun _ h => h) rfl m_145 (N := 1024) (a0 := (1024, .inl (fun _ => 0))) (fun _ => rfl) (by decide) (by decide) (by decide) (by decide) (by decide) dX0_init_16 (fun q2 => ?_)
  show GA D f 1 _ 18 [(0, .ref h0)] [.ref q2, .ref h0] [(h0, .inr (0, [.ref q1, .null, .int 0, .int 0, .int 0])), (q1, .inl (cT 9, 10, .inl (fun _ => 0))), (q2, .inl (cT 9, 1024, .inl (fun _ => 0)))] 2 1034
  refine a_putF hC hname cf0 (ws' := [(h0, .inr (0, [.ref q1, .ref q2, .int 0, .int 0, .int 0])), (q1, .inl (cT 9, 10, .inl (fun _ => 0))), (q2, .inl (cT 9, 1024, .inl (fun _ => 0)))]) 0 rfl 1 (by decide) m_186 rfl rfl rfl rfl (Nat.le_of_ble_eq_true rfl) rfl dX0_init_18 ?_
  exact a_vret hC hr (fun k => [q1, q2].getD k 0) rfl dX0_init_21
set_option maxRecDepth 100000 in
set_option maxHeartbeats 4000000 in
theorem ciX4 (D : va_G) (cT : Nat → ClassId) : Ci D cT yX4_init cX4_init 1 { frames := 1, cells := 0, slots := 0, locals := 30 } 0 0 [] (.inr (4, [.int 0, .int 0, .int 0])) (fun _ _ => True) (fun (h0 : Nat) (u : Nat → Nat) => [(h0, .inr (4, [.int 0, .int 0, .int 0]))]) := by
  refine ci_of (by decide) rfl (fun _ => Nat.le_of_ble_eq_true rfl) (fun f h0 hC hr hname hpre => ?_)
  have hC : CA D cT f "AnswersFirst$Seen" cX4_init 1 { frames := 1, cells := 0, slots := 0, locals := 30 } := hC
  show GA D f 1 _ 0 [(0, .ref h0)] [] [(h0, .inr (4, [.int 0, .int 0, .int 0]))] 0 0
  refine a_aload_n hC 0 dX4_init_0 rfl rfl ?_
  refine a_objinit hC m_206 mO_in mO_code (by decide) (by decide) dX4_init_1 ?_
  exact a_vret hC hr (fun k => [].getD k 0) rfl dX4_init_4
set_option maxRecDepth 100000 in
set_option maxHeartbeats 4000000 in
theorem ciX2 (D : va_G) (cT : Nat → ClassId) : Ci D cT yX2_init cX2_init 1 { frames := 1, cells := 0, slots := 0, locals := 30 } 0 0 [] (.inr (2, [.int 0])) (fun _ _ => True) (fun (h0 : Nat) (u : Nat → Nat) => [(h0, .inr (2, [.int 0]))]) := by
  refine ci_of (by decide) rfl (fun _ => Nat.le_of_ble_eq_true rfl) (fun f h0 hC hr hname hpre => ?_)
  have hC : CA D cT f "AnswersFirst$Lots" cX2_init 1 { frames := 1, cells := 0, slots := 0, locals := 30 } := hC
  show GA D f 1 _ 0 [(0, .ref h0)] [] [(h0, .inr (2, [.int 0]))] 0 0
  refine a_aload_n hC 0 dX2_init_0 rfl rfl ?_
  refine a_objinit hC m_222 mO_in mO_code (by decide) (by decide) dX2_init_1 ?_
  exact a_vret hC hr (fun k => [].getD k 0) rfl dX2_init_4
set_option maxRecDepth 100000 in
set_option maxHeartbeats 4000000 in
theorem ciX5 (D : va_G) (cT : Nat → ClassId) : Ci D cT yX5_init cX5_init 1 { frames := 1, cells := 1, slots := 48, locals := 30 } 1 48 [] (.inr (5, [.null, .int 0, .int 0])) (fun _ _ => True) (fun (h0 : Nat) (u : Nat → Nat) => [(h0, .inr (5, [.ref (u 0), .int (-1 : Int32), .int 0])), ((u 0), .inl (cT 9, 48, .inl (fun _ => 0)))]) := by
  refine ci_of (by decide) rfl (fun _ => Nat.le_of_ble_eq_true rfl) (fun f h0 hC hr hname hpre => ?_)
  have hC : CA D cT f "AnswersFirst$Sheet" cX5_init 1 { frames := 1, cells := 1, slots := 48, locals := 30 } := hC
  show GA D f 1 _ 0 [(0, .ref h0)] [] [(h0, .inr (5, [.null, .int 0, .int 0]))] 0 0
  refine a_aload_n hC 0 dX5_init_0 rfl rfl ?_
  refine a_objinit hC m_233 mO_in mO_code (by decide) (by decide) dX5_init_1 ?_
  refine a_aload_n hC 0 dX5_init_4 rfl rfl ?_
  refine a_bipush hC (v := (48 : Int32)) dX5_init_5 (by decide) ?_
  refine a_newa hC (at' := .int) 0 rfl (fun h => h) (fun _ h => h) rfl m_145 (N := 48) (a0 := (48, .inl (fun _ => 0))) (fun _ => rfl) (by decide) (by decide) (by decide) (by decide) (by decide) dX5_init_7 (fun q1 => ?_)
  show GA D f 1 _ 9 [(0, .ref h0)] [.ref q1, .ref h0] [(h0, .inr (5, [.null, .int 0, .int 0])), (q1, .inl (cT 9, 48, .inl (fun _ => 0)))] 1 48
  refine a_putF hC hname cf5 (ws' := [(h0, .inr (5, [.ref q1, .int 0, .int 0])), (q1, .inl (cT 9, 48, .inl (fun _ => 0)))]) 0 rfl 0 (by decide) m_234 rfl rfl rfl rfl (Nat.le_of_ble_eq_true rfl) rfl dX5_init_9 ?_
  refine a_aload_n hC 0 dX5_init_12 rfl rfl ?_
  refine a_iconst hC (v := (-1 : Int32)) dX5_init_13 (by decide) ?_
  refine a_put hC cf5 (ws' := [(h0, .inr (5, [.ref q1, .int (-1 : Int32), .int 0])), (q1, .inl (cT 9, 48, .inl (fun _ => 0)))]) 0 rfl 1 (by decide) m_235 rfl rfl rfl (Nat.le_of_ble_eq_true rfl) rfl dX5_init_14 ?_
  exact a_vret hC hr (fun k => [q1].getD k 0) rfl dX5_init_17
