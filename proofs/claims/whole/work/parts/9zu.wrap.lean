/-! THE LAW'S WRAPPERS: each calls a method of the class, lays its answer away, and says which throw came (printed by program: gen_wrap.py) -/
theorem bw_683 : (Cond.codeWith ({ cls := "LiftBankLaw", name := "group", desc := "(LLiftBank;I[J)I" } : Jvm.MethodName) method_3_code (4 : Nat) (Option.some Jvm.ClassFile.FieldType.int) [((0 : Nat), (9 : Nat), (12 : Nat), (13 : Nat))]) ∈ BIG := big_3 203 (by decide +kernel) (by decide +kernel)
theorem bw_896 : (Cond.codeWith ({ cls := "LiftBankLaw", name := "count", desc := "(LLiftBank;I[J)I" } : Jvm.MethodName) method_4_code (4 : Nat) (Option.some Jvm.ClassFile.FieldType.int) [((0 : Nat), (9 : Nat), (12 : Nat), (18 : Nat))]) ∈ BIG := big_4 176 (by decide +kernel) (by decide +kernel)
theorem bw_995 : (Cond.codeWith ({ cls := "LiftBankLaw", name := "car", desc := "(LLiftBank;II[J)I" } : Jvm.MethodName) method_5_code (5 : Nat) (Option.some Jvm.ClassFile.FieldType.int) [((0 : Nat), (10 : Nat), (13 : Nat), (18 : Nat))]) ∈ BIG := big_5 35 (by decide +kernel) (by decide +kernel)
theorem bw_1012 : (Cond.codeWith ({ cls := "LiftBankLaw", name := "rider", desc := "(LLiftBank;II[J)I" } : Jvm.MethodName) method_6_code (5 : Nat) (Option.some Jvm.ClassFile.FieldType.int) [((0 : Nat), (10 : Nat), (13 : Nat), (18 : Nat))]) ∈ BIG := big_5 52 (by decide +kernel) (by decide +kernel)
theorem bw_1021 : (Cond.codeWith ({ cls := "LiftBankLaw", name := "given", desc := "(LLiftBank;IZI[J)I" } : Jvm.MethodName) method_7_code (6 : Nat) (Option.some Jvm.ClassFile.FieldType.int) [((0 : Nat), (12 : Nat), (15 : Nat), (18 : Nat))]) ∈ BIG := big_5 61 (by decide +kernel) (by decide +kernel)
theorem bw_1031 : (Cond.codeWith ({ cls := "LiftBankLaw", name := "cost", desc := "(LLiftBank;IIZI[J)I" } : Jvm.MethodName) method_8_code (7 : Nat) (Option.some Jvm.ClassFile.FieldType.int) [((0 : Nat), (14 : Nat), (17 : Nat), (18 : Nat)), ((0 : Nat), (14 : Nat), (21 : Nat), (13 : Nat))]) ∈ BIG := big_5 71 (by decide +kernel) (by decide +kernel)
theorem bw_1042 : (Cond.codeWith ({ cls := "LiftBankLaw", name := "ahead", desc := "(LLiftBank;II[J)I" } : Jvm.MethodName) method_9_code (5 : Nat) (Option.some Jvm.ClassFile.FieldType.int) [((0 : Nat), (10 : Nat), (13 : Nat), (18 : Nat)), ((0 : Nat), (10 : Nat), (17 : Nat), (13 : Nat))]) ∈ BIG := big_5 82 (by decide +kernel) (by decide +kernel)
theorem bw_1055 : (Cond.codeWith ({ cls := "LiftBankLaw", name := "when", desc := "(LLiftBank;I[J)I" } : Jvm.MethodName) method_10_code (4 : Nat) (Option.some Jvm.ClassFile.FieldType.int) [((0 : Nat), (9 : Nat), (12 : Nat), (18 : Nat))]) ∈ BIG := big_5 95 (by decide +kernel) (by decide +kernel)
theorem bw_1062 : (Cond.codeWith ({ cls := "LiftBankLaw", name := "mean", desc := "(LLiftBank;II[J)I" } : Jvm.MethodName) method_11_code (5 : Nat) (Option.some Jvm.ClassFile.FieldType.int) [((0 : Nat), (10 : Nat), (13 : Nat), (13 : Nat))]) ∈ BIG := big_5 102 (by decide +kernel) (by decide +kernel)
theorem bw_1077 : (Cond.codeWith ({ cls := "LiftBankLaw", name := "anew", desc := "(LLiftBank;III[J)I" } : Jvm.MethodName) method_12_code (6 : Nat) (Option.some Jvm.ClassFile.FieldType.int) [((0 : Nat), (12 : Nat), (15 : Nat), (18 : Nat)), ((0 : Nat), (12 : Nat), (19 : Nat), (13 : Nat))]) ∈ BIG := big_5 117 (by decide +kernel) (by decide +kernel)
theorem bw_1085 : (Cond.codeWith ({ cls := "LiftBankLaw", name := "homes", desc := "(LLiftBank;II[J)I" } : Jvm.MethodName) method_13_code (5 : Nat) (Option.some Jvm.ClassFile.FieldType.int) [((0 : Nat), (10 : Nat), (13 : Nat), (18 : Nat))]) ∈ BIG := big_5 125 (by decide +kernel) (by decide +kernel)
theorem bw_1097 : (Cond.codeWith ({ cls := "LiftBankLaw", name := "later", desc := "(LLiftBank;I[J)I" } : Jvm.MethodName) method_14_code (4 : Nat) (Option.some Jvm.ClassFile.FieldType.int) [((0 : Nat), (9 : Nat), (12 : Nat), (18 : Nat))]) ∈ BIG := big_5 137 (by decide +kernel) (by decide +kernel)
theorem bw_1114 : (Cond.codeWith ({ cls := "LiftBankLaw", name := "fits", desc := "(LLiftBank;I[J)I" } : Jvm.MethodName) method_15_code (4 : Nat) (Option.some Jvm.ClassFile.FieldType.int) [((0 : Nat), (9 : Nat), (12 : Nat), (18 : Nat))]) ∈ BIG := big_5 154 (by decide +kernel) (by decide +kernel)
theorem bw_1133 : (Cond.codeWith ({ cls := "LiftBankLaw", name := "look", desc := "(LLiftBank;I[J)I" } : Jvm.MethodName) method_16_code (4 : Nat) (Option.some Jvm.ClassFile.FieldType.int) [((0 : Nat), (9 : Nat), (12 : Nat), (18 : Nat))]) ∈ BIG := big_5 173 (by decide +kernel) (by decide +kernel)
theorem bw_1146 : (Cond.codeWith ({ cls := "LiftBankLaw", name := "years", desc := "(LLiftBank;III[J)I" } : Jvm.MethodName) method_17_code (6 : Nat) (Option.some Jvm.ClassFile.FieldType.int) [((0 : Nat), (12 : Nat), (15 : Nat), (18 : Nat)), ((0 : Nat), (12 : Nat), (19 : Nat), (13 : Nat))]) ∈ BIG := big_5 186 (by decide +kernel) (by decide +kernel)
def NcOk (x : CX) : Prop := (∀ U H, xZ x U H → va_Nc "java/lang/IllegalArgumentException" "java/util/NoSuchElementException" U) ∧ (∀ U H, xZ x U H → Yc "java/lang/IllegalArgumentException" "java/lang/IllegalArgumentException" U) ∧ ∀ U H, xZ x U H → Yc "java/util/NoSuchElementException" "java/util/NoSuchElementException" U
def ek1 (_ : String) : Int32 := 1
def ek2 (E : String) : Int32 := if E = "java/util/NoSuchElementException" then 1 else 2
/-- what a wrapper leaves -/
def WQ (o : Nat) (ek : String → Int32) (Q' : Option Value → PH → Prop) (X' : String → PH → Prop) : Int32 → PH → Prop := fun v h' => (∃ r h1, Q' (some (.int r)) h1 ∧ v = 0 ∧ h' = sL h1 o 0 r.toInt64) ∨ ∃ E, X' E h' ∧ v = ek E
abbrev mL_group : MD := (yL_group, cL_group, 4, some .int)
abbrev hL_group : List (Nat × Nat × Nat × Nat) := [(0, 9, 12, 13)]
theorem dL_group_0 : decode cL_group 0 = .ok (.aload_n 2, 1) := by decide +kernel
theorem dL_group_1 : decode cL_group 1 = .ok (.iconst 0, 1) := by decide +kernel
theorem dL_group_2 : decode cL_group 2 = .ok (.aload_n 0, 1) := by decide +kernel
theorem dL_group_3 : decode cL_group 3 = .ok (.iload_n 1, 1) := by decide +kernel
theorem dL_group_4 : decode cL_group 4 = .ok (.invokevirtual 7, 3) := by decide +kernel
theorem dL_group_7 : decode cL_group 7 = .ok (.i2l, 1) := by decide +kernel
theorem dL_group_8 : decode cL_group 8 = .ok (.lastore, 1) := by decide +kernel
theorem dL_group_9 : decode cL_group 9 = .ok (.goto 6, 3) := by decide +kernel
theorem dL_group_12 : decode cL_group 12 = .ok (.astore_n 3, 1) := by decide +kernel
theorem dL_group_13 : decode cL_group 13 = .ok (.iconst 1, 1) := by decide +kernel
theorem dL_group_14 : decode cL_group 14 = .ok (.ireturn, 1) := by decide +kernel
theorem dL_group_15 : decode cL_group 15 = .ok (.iconst 0, 1) := by decide +kernel
theorem dL_group_16 : decode cL_group 16 = .ok (.ireturn, 1) := by decide +kernel
theorem w_group {l : Launch} {x : CX} {h : PH} {b o : Nat} {a1 : Int32} {Q' : Option Value → PH → Prop} {X' : String → PH → Prop} (nc : NcOk x) (kb : (hK h b).1 = 7) (C : Cm l x mX7_group 10 1 6 [.ref b, .int a1] h Q' X') (hQ : ∀ v h', Q' v h' → ∃ r, v = some (.int r) ∧ hK h' o = (104, 1)) (hX : ∀ E h', X' E h' → E = "java/lang/IllegalArgumentException") : Ch l x mL_group hL_group 11 1 6 [.ref b, .int a1, .ref o] h (fun v h' => ∃ r, v = some (.int r) ∧ WQ o ek1 Q' X' r h') (fun _ _ => False) := by
  refine Ch.of (by decide) (Nat.le_of_ble_eq_true rfl) ?_
  show Gh l x mL_group (tableOf hL_group) 11 0 [(0, .ref b), (1, .int a1), (2, .ref o)] [] h 1 6 (hN h) (fun v h' => ∃ r, v = some (.int r) ∧ WQ o ek1 Q' X' r h') (fun _ _ => False)
  refine h_aload_n dL_group_0 rfl 2 rfl ?_
  refine h_iconst (v := 0) dL_group_1 (by decide) ?_
  refine h_aload_n dL_group_2 rfl 0 rfl ?_
  refine h_iload_n dL_group_3 rfl 1 rfl ?_
  refine h_callV (M' := mX7_group) (b := b) (As := [.int a1]) (rest := [.int 0, .ref o]) (rc' := 0) (rs' := 0) dL_group_4 bw_685 bw_686 bw_687 bw_1 bw_688 ⟨by decide +kernel, by decide +kernel, show (parseMethodDescriptor mX7_group.1.desc).map (fun d => d.parameters.length) = some 1 by decide +kernel⟩ (by decide) (by decide) (Nat.le_of_ble_eq_true rfl) fc_7 (by decide) rfl kb C (Nat.le_refl _) (Nat.le_refl _) (fun E h' e => ?_) (fun v h1 q1 _ => ?_)
  · refine ⟨1, ?_, _, rfl, Or.inr ⟨E, e, rfl⟩⟩
    rw [hX E h' e]
    exact ⟨[], ⟨0, 9, 12, 13⟩, [], "java/lang/IllegalArgumentException", rfl, fun _ z => absurd z List.not_mem_nil, by decide, by decide, bw_684, nc.2.1, ⟨3, 1, by decide, by decide, rfl, Or.inl ⟨3, rfl, dL_group_12, dL_group_13, dL_group_14⟩⟩⟩
  · obtain ⟨r, rfl, k1⟩ := hQ v h1 q1
    show Gh l x mL_group (tableOf hL_group) 11 7 [(0, .ref b), (1, .int a1), (2, .ref o)] [.int r, .int 0, .ref o] h1 0 0 (hN h) (fun v h' => ∃ r, v = some (.int r) ∧ WQ o ek1 Q' X' r h') (fun _ _ => False)
    refine h_i2l dL_group_7 (h_last dL_group_8 (by rw [k1]) (by rw [k1]; exact vp_in_nI (n := 0) (by decide) (by decide)) ?_)
    refine h_goto (tgt := 15) dL_group_9 (by decide) (h_iconst (v := 0) dL_group_15 (by decide) ?_)
    exact h_iret dL_group_16 rfl ⟨_, rfl, Or.inl ⟨r, h1, q1, rfl, rfl⟩⟩
abbrev mL_count : MD := (yL_count, cL_count, 4, some .int)
abbrev hL_count : List (Nat × Nat × Nat × Nat) := [(0, 9, 12, 18)]
theorem dL_count_0 : decode cL_count 0 = .ok (.aload_n 2, 1) := by decide +kernel
theorem dL_count_1 : decode cL_count 1 = .ok (.iconst 0, 1) := by decide +kernel
theorem dL_count_2 : decode cL_count 2 = .ok (.aload_n 0, 1) := by decide +kernel
theorem dL_count_3 : decode cL_count 3 = .ok (.iload_n 1, 1) := by decide +kernel
theorem dL_count_4 : decode cL_count 4 = .ok (.invokevirtual 15, 3) := by decide +kernel
theorem dL_count_7 : decode cL_count 7 = .ok (.i2l, 1) := by decide +kernel
theorem dL_count_8 : decode cL_count 8 = .ok (.lastore, 1) := by decide +kernel
theorem dL_count_9 : decode cL_count 9 = .ok (.goto 6, 3) := by decide +kernel
theorem dL_count_12 : decode cL_count 12 = .ok (.astore_n 3, 1) := by decide +kernel
theorem dL_count_13 : decode cL_count 13 = .ok (.iconst 1, 1) := by decide +kernel
theorem dL_count_14 : decode cL_count 14 = .ok (.ireturn, 1) := by decide +kernel
theorem dL_count_15 : decode cL_count 15 = .ok (.iconst 0, 1) := by decide +kernel
theorem dL_count_16 : decode cL_count 16 = .ok (.ireturn, 1) := by decide +kernel
theorem w_count {l : Launch} {x : CX} {h : PH} {b o : Nat} {a1 : Int32} {Q' : Option Value → PH → Prop} {X' : String → PH → Prop} (nc : NcOk x) (kb : (hK h b).1 = 7) (C : Cm l x mX7_count 8 1 6 [.ref b, .int a1] h Q' X') (hQ : ∀ v h', Q' v h' → ∃ r, v = some (.int r) ∧ hK h' o = (104, 1)) (hX : ∀ E h', X' E h' → E = "java/util/NoSuchElementException") : Ch l x mL_count hL_count 9 1 6 [.ref b, .int a1, .ref o] h (fun v h' => ∃ r, v = some (.int r) ∧ WQ o ek1 Q' X' r h') (fun _ _ => False) := by
  refine Ch.of (by decide) (Nat.le_of_ble_eq_true rfl) ?_
  show Gh l x mL_count (tableOf hL_count) 9 0 [(0, .ref b), (1, .int a1), (2, .ref o)] [] h 1 6 (hN h) (fun v h' => ∃ r, v = some (.int r) ∧ WQ o ek1 Q' X' r h') (fun _ _ => False)
  refine h_aload_n dL_count_0 rfl 2 rfl ?_
  refine h_iconst (v := 0) dL_count_1 (by decide) ?_
  refine h_aload_n dL_count_2 rfl 0 rfl ?_
  refine h_iload_n dL_count_3 rfl 1 rfl ?_
  refine h_callV (M' := mX7_count) (b := b) (As := [.int a1]) (rest := [.int 0, .ref o]) (rc' := 0) (rs' := 0) dL_count_4 bw_898 bw_899 bw_900 bw_1 bw_901 ⟨by decide +kernel, by decide +kernel, show (parseMethodDescriptor mX7_count.1.desc).map (fun d => d.parameters.length) = some 1 by decide +kernel⟩ (by decide) (by decide) (Nat.le_of_ble_eq_true rfl) fc_7 (by decide) rfl kb C (Nat.le_refl _) (Nat.le_refl _) (fun E h' e => ?_) (fun v h1 q1 _ => ?_)
  · refine ⟨1, ?_, _, rfl, Or.inr ⟨E, e, rfl⟩⟩
    rw [hX E h' e]
    exact ⟨[], ⟨0, 9, 12, 18⟩, [], "java/util/NoSuchElementException", rfl, fun _ z => absurd z List.not_mem_nil, by decide, by decide, bw_897, nc.2.2, ⟨3, 1, by decide, by decide, rfl, Or.inl ⟨3, rfl, dL_count_12, dL_count_13, dL_count_14⟩⟩⟩
  · obtain ⟨r, rfl, k1⟩ := hQ v h1 q1
    show Gh l x mL_count (tableOf hL_count) 9 7 [(0, .ref b), (1, .int a1), (2, .ref o)] [.int r, .int 0, .ref o] h1 0 0 (hN h) (fun v h' => ∃ r, v = some (.int r) ∧ WQ o ek1 Q' X' r h') (fun _ _ => False)
    refine h_i2l dL_count_7 (h_last dL_count_8 (by rw [k1]) (by rw [k1]; exact vp_in_nI (n := 0) (by decide) (by decide)) ?_)
    refine h_goto (tgt := 15) dL_count_9 (by decide) (h_iconst (v := 0) dL_count_15 (by decide) ?_)
    exact h_iret dL_count_16 rfl ⟨_, rfl, Or.inl ⟨r, h1, q1, rfl, rfl⟩⟩
abbrev mL_car : MD := (yL_car, cL_car, 5, some .int)
abbrev hL_car : List (Nat × Nat × Nat × Nat) := [(0, 10, 13, 18)]
theorem dL_car_0 : decode cL_car 0 = .ok (.aload_n 3, 1) := by decide +kernel
theorem dL_car_1 : decode cL_car 1 = .ok (.iconst 0, 1) := by decide +kernel
theorem dL_car_2 : decode cL_car 2 = .ok (.aload_n 0, 1) := by decide +kernel
theorem dL_car_3 : decode cL_car 3 = .ok (.iload_n 1, 1) := by decide +kernel
theorem dL_car_4 : decode cL_car 4 = .ok (.iload_n 2, 1) := by decide +kernel
theorem dL_car_5 : decode cL_car 5 = .ok (.invokevirtual 20, 3) := by decide +kernel
theorem dL_car_8 : decode cL_car 8 = .ok (.i2l, 1) := by decide +kernel
theorem dL_car_9 : decode cL_car 9 = .ok (.lastore, 1) := by decide +kernel
theorem dL_car_10 : decode cL_car 10 = .ok (.goto 7, 3) := by decide +kernel
theorem dL_car_13 : decode cL_car 13 = .ok (.astore 4, 2) := by decide +kernel
theorem dL_car_15 : decode cL_car 15 = .ok (.iconst 1, 1) := by decide +kernel
theorem dL_car_16 : decode cL_car 16 = .ok (.ireturn, 1) := by decide +kernel
theorem dL_car_17 : decode cL_car 17 = .ok (.iconst 0, 1) := by decide +kernel
theorem dL_car_18 : decode cL_car 18 = .ok (.ireturn, 1) := by decide +kernel
theorem w_car {l : Launch} {x : CX} {h : PH} {b o : Nat} {a1 a2 : Int32} {Q' : Option Value → PH → Prop} {X' : String → PH → Prop} (nc : NcOk x) (kb : (hK h b).1 = 7) (C : Cm l x mX7_car 8 1 6 [.ref b, .int a1, .int a2] h Q' X') (hQ : ∀ v h', Q' v h' → ∃ r, v = some (.int r) ∧ hK h' o = (104, 1)) (hX : ∀ E h', X' E h' → E = "java/util/NoSuchElementException") : Ch l x mL_car hL_car 9 1 6 [.ref b, .int a1, .int a2, .ref o] h (fun v h' => ∃ r, v = some (.int r) ∧ WQ o ek1 Q' X' r h') (fun _ _ => False) := by
  refine Ch.of (by decide) (Nat.le_of_ble_eq_true rfl) ?_
  show Gh l x mL_car (tableOf hL_car) 9 0 [(0, .ref b), (1, .int a1), (2, .int a2), (3, .ref o)] [] h 1 6 (hN h) (fun v h' => ∃ r, v = some (.int r) ∧ WQ o ek1 Q' X' r h') (fun _ _ => False)
  refine h_aload_n dL_car_0 rfl 3 rfl ?_
  refine h_iconst (v := 0) dL_car_1 (by decide) ?_
  refine h_aload_n dL_car_2 rfl 0 rfl ?_
  refine h_iload_n dL_car_3 rfl 1 rfl ?_
  refine h_iload_n dL_car_4 rfl 2 rfl ?_
  refine h_callV (M' := mX7_car) (b := b) (As := [.int a1, .int a2]) (rest := [.int 0, .ref o]) (rc' := 0) (rs' := 0) dL_car_5 bw_996 bw_997 bw_998 bw_1 bw_999 ⟨by decide +kernel, by decide +kernel, show (parseMethodDescriptor mX7_car.1.desc).map (fun d => d.parameters.length) = some 2 by decide +kernel⟩ (by decide) (by decide) (Nat.le_of_ble_eq_true rfl) fc_7 (by decide) rfl kb C (Nat.le_refl _) (Nat.le_refl _) (fun E h' e => ?_) (fun v h1 q1 _ => ?_)
  · refine ⟨1, ?_, _, rfl, Or.inr ⟨E, e, rfl⟩⟩
    rw [hX E h' e]
    exact ⟨[], ⟨0, 10, 13, 18⟩, [], "java/util/NoSuchElementException", rfl, fun _ z => absurd z List.not_mem_nil, by decide, by decide, bw_897, nc.2.2, ⟨4, 1, by decide, by decide, rfl, Or.inr ⟨dL_car_13, dL_car_15, dL_car_16⟩⟩⟩
  · obtain ⟨r, rfl, k1⟩ := hQ v h1 q1
    show Gh l x mL_car (tableOf hL_car) 9 8 [(0, .ref b), (1, .int a1), (2, .int a2), (3, .ref o)] [.int r, .int 0, .ref o] h1 0 0 (hN h) (fun v h' => ∃ r, v = some (.int r) ∧ WQ o ek1 Q' X' r h') (fun _ _ => False)
    refine h_i2l dL_car_8 (h_last dL_car_9 (by rw [k1]) (by rw [k1]; exact vp_in_nI (n := 0) (by decide) (by decide)) ?_)
    refine h_goto (tgt := 17) dL_car_10 (by decide) (h_iconst (v := 0) dL_car_17 (by decide) ?_)
    exact h_iret dL_car_18 rfl ⟨_, rfl, Or.inl ⟨r, h1, q1, rfl, rfl⟩⟩
abbrev mL_rider : MD := (yL_rider, cL_rider, 5, some .int)
abbrev hL_rider : List (Nat × Nat × Nat × Nat) := [(0, 10, 13, 18)]
theorem dL_rider_0 : decode cL_rider 0 = .ok (.aload_n 3, 1) := by decide +kernel
theorem dL_rider_1 : decode cL_rider 1 = .ok (.iconst 0, 1) := by decide +kernel
theorem dL_rider_2 : decode cL_rider 2 = .ok (.aload_n 0, 1) := by decide +kernel
theorem dL_rider_3 : decode cL_rider 3 = .ok (.iload_n 1, 1) := by decide +kernel
theorem dL_rider_4 : decode cL_rider 4 = .ok (.iload_n 2, 1) := by decide +kernel
theorem dL_rider_5 : decode cL_rider 5 = .ok (.invokevirtual 24, 3) := by decide +kernel
theorem dL_rider_8 : decode cL_rider 8 = .ok (.i2l, 1) := by decide +kernel
theorem dL_rider_9 : decode cL_rider 9 = .ok (.lastore, 1) := by decide +kernel
theorem dL_rider_10 : decode cL_rider 10 = .ok (.goto 7, 3) := by decide +kernel
theorem dL_rider_13 : decode cL_rider 13 = .ok (.astore 4, 2) := by decide +kernel
theorem dL_rider_15 : decode cL_rider 15 = .ok (.iconst 1, 1) := by decide +kernel
theorem dL_rider_16 : decode cL_rider 16 = .ok (.ireturn, 1) := by decide +kernel
theorem dL_rider_17 : decode cL_rider 17 = .ok (.iconst 0, 1) := by decide +kernel
theorem dL_rider_18 : decode cL_rider 18 = .ok (.ireturn, 1) := by decide +kernel
theorem w_rider {l : Launch} {x : CX} {h : PH} {b o : Nat} {a1 a2 : Int32} {Q' : Option Value → PH → Prop} {X' : String → PH → Prop} (nc : NcOk x) (kb : (hK h b).1 = 7) (C : Cm l x mX7_rider 8 1 6 [.ref b, .int a1, .int a2] h Q' X') (hQ : ∀ v h', Q' v h' → ∃ r, v = some (.int r) ∧ hK h' o = (104, 1)) (hX : ∀ E h', X' E h' → E = "java/util/NoSuchElementException") : Ch l x mL_rider hL_rider 9 1 6 [.ref b, .int a1, .int a2, .ref o] h (fun v h' => ∃ r, v = some (.int r) ∧ WQ o ek1 Q' X' r h') (fun _ _ => False) := by
  refine Ch.of (by decide) (Nat.le_of_ble_eq_true rfl) ?_
  show Gh l x mL_rider (tableOf hL_rider) 9 0 [(0, .ref b), (1, .int a1), (2, .int a2), (3, .ref o)] [] h 1 6 (hN h) (fun v h' => ∃ r, v = some (.int r) ∧ WQ o ek1 Q' X' r h') (fun _ _ => False)
  refine h_aload_n dL_rider_0 rfl 3 rfl ?_
  refine h_iconst (v := 0) dL_rider_1 (by decide) ?_
  refine h_aload_n dL_rider_2 rfl 0 rfl ?_
  refine h_iload_n dL_rider_3 rfl 1 rfl ?_
  refine h_iload_n dL_rider_4 rfl 2 rfl ?_
  refine h_callV (M' := mX7_rider) (b := b) (As := [.int a1, .int a2]) (rest := [.int 0, .ref o]) (rc' := 0) (rs' := 0) dL_rider_5 bw_1013 bw_1014 bw_1015 bw_1 bw_1016 ⟨by decide +kernel, by decide +kernel, show (parseMethodDescriptor mX7_rider.1.desc).map (fun d => d.parameters.length) = some 2 by decide +kernel⟩ (by decide) (by decide) (Nat.le_of_ble_eq_true rfl) fc_7 (by decide) rfl kb C (Nat.le_refl _) (Nat.le_refl _) (fun E h' e => ?_) (fun v h1 q1 _ => ?_)
  · refine ⟨1, ?_, _, rfl, Or.inr ⟨E, e, rfl⟩⟩
    rw [hX E h' e]
    exact ⟨[], ⟨0, 10, 13, 18⟩, [], "java/util/NoSuchElementException", rfl, fun _ z => absurd z List.not_mem_nil, by decide, by decide, bw_897, nc.2.2, ⟨4, 1, by decide, by decide, rfl, Or.inr ⟨dL_rider_13, dL_rider_15, dL_rider_16⟩⟩⟩
  · obtain ⟨r, rfl, k1⟩ := hQ v h1 q1
    show Gh l x mL_rider (tableOf hL_rider) 9 8 [(0, .ref b), (1, .int a1), (2, .int a2), (3, .ref o)] [.int r, .int 0, .ref o] h1 0 0 (hN h) (fun v h' => ∃ r, v = some (.int r) ∧ WQ o ek1 Q' X' r h') (fun _ _ => False)
    refine h_i2l dL_rider_8 (h_last dL_rider_9 (by rw [k1]) (by rw [k1]; exact vp_in_nI (n := 0) (by decide) (by decide)) ?_)
    refine h_goto (tgt := 17) dL_rider_10 (by decide) (h_iconst (v := 0) dL_rider_17 (by decide) ?_)
    exact h_iret dL_rider_18 rfl ⟨_, rfl, Or.inl ⟨r, h1, q1, rfl, rfl⟩⟩
abbrev mL_given : MD := (yL_given, cL_given, 6, some .int)
abbrev hL_given : List (Nat × Nat × Nat × Nat) := [(0, 12, 15, 18)]
theorem dL_given_0 : decode cL_given 0 = .ok (.aload 4, 2) := by decide +kernel
theorem dL_given_2 : decode cL_given 2 = .ok (.iconst 0, 1) := by decide +kernel
theorem dL_given_3 : decode cL_given 3 = .ok (.aload_n 0, 1) := by decide +kernel
theorem dL_given_4 : decode cL_given 4 = .ok (.iload_n 1, 1) := by decide +kernel
theorem dL_given_5 : decode cL_given 5 = .ok (.iload_n 2, 1) := by decide +kernel
theorem dL_given_6 : decode cL_given 6 = .ok (.iload_n 3, 1) := by decide +kernel
theorem dL_given_7 : decode cL_given 7 = .ok (.invokevirtual 27, 3) := by decide +kernel
theorem dL_given_10 : decode cL_given 10 = .ok (.i2l, 1) := by decide +kernel
theorem dL_given_11 : decode cL_given 11 = .ok (.lastore, 1) := by decide +kernel
theorem dL_given_12 : decode cL_given 12 = .ok (.goto 7, 3) := by decide +kernel
theorem dL_given_15 : decode cL_given 15 = .ok (.astore 5, 2) := by decide +kernel
theorem dL_given_17 : decode cL_given 17 = .ok (.iconst 1, 1) := by decide +kernel
theorem dL_given_18 : decode cL_given 18 = .ok (.ireturn, 1) := by decide +kernel
theorem dL_given_19 : decode cL_given 19 = .ok (.iconst 0, 1) := by decide +kernel
theorem dL_given_20 : decode cL_given 20 = .ok (.ireturn, 1) := by decide +kernel
theorem w_given {l : Launch} {x : CX} {h : PH} {b o : Nat} {a1 a2 a3 : Int32} {Q' : Option Value → PH → Prop} {X' : String → PH → Prop} (nc : NcOk x) (kb : (hK h b).1 = 7) (C : Cm l x mX7_given 8 1 6 [.ref b, .int a1, .int a2, .int a3] h Q' X') (hQ : ∀ v h', Q' v h' → ∃ r, v = some (.int r) ∧ hK h' o = (104, 1)) (hX : ∀ E h', X' E h' → E = "java/util/NoSuchElementException") : Ch l x mL_given hL_given 9 1 6 [.ref b, .int a1, .int a2, .int a3, .ref o] h (fun v h' => ∃ r, v = some (.int r) ∧ WQ o ek1 Q' X' r h') (fun _ _ => False) := by
  refine Ch.of (by decide) (Nat.le_of_ble_eq_true rfl) ?_
  show Gh l x mL_given (tableOf hL_given) 9 0 [(0, .ref b), (1, .int a1), (2, .int a2), (3, .int a3), (4, .ref o)] [] h 1 6 (hN h) (fun v h' => ∃ r, v = some (.int r) ∧ WQ o ek1 Q' X' r h') (fun _ _ => False)
  refine h_aload dL_given_0 4 rfl ?_
  refine h_iconst (v := 0) dL_given_2 (by decide) ?_
  refine h_aload_n dL_given_3 rfl 0 rfl ?_
  refine h_iload_n dL_given_4 rfl 1 rfl ?_
  refine h_iload_n dL_given_5 rfl 2 rfl ?_
  refine h_iload_n dL_given_6 rfl 3 rfl ?_
  refine h_callV (M' := mX7_given) (b := b) (As := [.int a1, .int a2, .int a3]) (rest := [.int 0, .ref o]) (rc' := 0) (rs' := 0) dL_given_7 bw_1022 bw_1023 bw_1024 bw_1 bw_1025 ⟨by decide +kernel, by decide +kernel, show (parseMethodDescriptor mX7_given.1.desc).map (fun d => d.parameters.length) = some 3 by decide +kernel⟩ (by decide) (by decide) (Nat.le_of_ble_eq_true rfl) fc_7 (by decide) rfl kb C (Nat.le_refl _) (Nat.le_refl _) (fun E h' e => ?_) (fun v h1 q1 _ => ?_)
  · refine ⟨1, ?_, _, rfl, Or.inr ⟨E, e, rfl⟩⟩
    rw [hX E h' e]
    exact ⟨[], ⟨0, 12, 15, 18⟩, [], "java/util/NoSuchElementException", rfl, fun _ z => absurd z List.not_mem_nil, by decide, by decide, bw_897, nc.2.2, ⟨5, 1, by decide, by decide, rfl, Or.inr ⟨dL_given_15, dL_given_17, dL_given_18⟩⟩⟩
  · obtain ⟨r, rfl, k1⟩ := hQ v h1 q1
    show Gh l x mL_given (tableOf hL_given) 9 10 [(0, .ref b), (1, .int a1), (2, .int a2), (3, .int a3), (4, .ref o)] [.int r, .int 0, .ref o] h1 0 0 (hN h) (fun v h' => ∃ r, v = some (.int r) ∧ WQ o ek1 Q' X' r h') (fun _ _ => False)
    refine h_i2l dL_given_10 (h_last dL_given_11 (by rw [k1]) (by rw [k1]; exact vp_in_nI (n := 0) (by decide) (by decide)) ?_)
    refine h_goto (tgt := 19) dL_given_12 (by decide) (h_iconst (v := 0) dL_given_19 (by decide) ?_)
    exact h_iret dL_given_20 rfl ⟨_, rfl, Or.inl ⟨r, h1, q1, rfl, rfl⟩⟩
abbrev mL_cost : MD := (yL_cost, cL_cost, 7, some .int)
abbrev hL_cost : List (Nat × Nat × Nat × Nat) := [(0, 14, 17, 18), (0, 14, 21, 13)]
theorem dL_cost_0 : decode cL_cost 0 = .ok (.aload 5, 2) := by decide +kernel
theorem dL_cost_2 : decode cL_cost 2 = .ok (.iconst 0, 1) := by decide +kernel
theorem dL_cost_3 : decode cL_cost 3 = .ok (.aload_n 0, 1) := by decide +kernel
theorem dL_cost_4 : decode cL_cost 4 = .ok (.iload_n 1, 1) := by decide +kernel
theorem dL_cost_5 : decode cL_cost 5 = .ok (.iload_n 2, 1) := by decide +kernel
theorem dL_cost_6 : decode cL_cost 6 = .ok (.iload_n 3, 1) := by decide +kernel
theorem dL_cost_7 : decode cL_cost 7 = .ok (.iload 4, 2) := by decide +kernel
theorem dL_cost_9 : decode cL_cost 9 = .ok (.invokevirtual 31, 3) := by decide +kernel
theorem dL_cost_12 : decode cL_cost 12 = .ok (.i2l, 1) := by decide +kernel
theorem dL_cost_13 : decode cL_cost 13 = .ok (.lastore, 1) := by decide +kernel
theorem dL_cost_14 : decode cL_cost 14 = .ok (.goto 11, 3) := by decide +kernel
theorem dL_cost_17 : decode cL_cost 17 = .ok (.astore 6, 2) := by decide +kernel
theorem dL_cost_19 : decode cL_cost 19 = .ok (.iconst 1, 1) := by decide +kernel
theorem dL_cost_20 : decode cL_cost 20 = .ok (.ireturn, 1) := by decide +kernel
theorem dL_cost_21 : decode cL_cost 21 = .ok (.astore 6, 2) := by decide +kernel
theorem dL_cost_23 : decode cL_cost 23 = .ok (.iconst 2, 1) := by decide +kernel
theorem dL_cost_24 : decode cL_cost 24 = .ok (.ireturn, 1) := by decide +kernel
theorem dL_cost_25 : decode cL_cost 25 = .ok (.iconst 0, 1) := by decide +kernel
theorem dL_cost_26 : decode cL_cost 26 = .ok (.ireturn, 1) := by decide +kernel
theorem w_cost {l : Launch} {x : CX} {h : PH} {b o : Nat} {a1 a2 a3 a4 : Int32} {Q' : Option Value → PH → Prop} {X' : String → PH → Prop} (nc : NcOk x) (kb : (hK h b).1 = 7) (C : Cm l x mX7_cost 8 1 6 [.ref b, .int a1, .int a2, .int a3, .int a4] h Q' X') (hQ : ∀ v h', Q' v h' → ∃ r, v = some (.int r) ∧ hK h' o = (104, 1)) (hX : ∀ E h', X' E h' → E = "java/util/NoSuchElementException" ∨ E = "java/lang/IllegalArgumentException") : Ch l x mL_cost hL_cost 9 1 6 [.ref b, .int a1, .int a2, .int a3, .int a4, .ref o] h (fun v h' => ∃ r, v = some (.int r) ∧ WQ o ek2 Q' X' r h') (fun _ _ => False) := by
  refine Ch.of (by decide) (Nat.le_of_ble_eq_true rfl) ?_
  show Gh l x mL_cost (tableOf hL_cost) 9 0 [(0, .ref b), (1, .int a1), (2, .int a2), (3, .int a3), (4, .int a4), (5, .ref o)] [] h 1 6 (hN h) (fun v h' => ∃ r, v = some (.int r) ∧ WQ o ek2 Q' X' r h') (fun _ _ => False)
  refine h_aload dL_cost_0 5 rfl ?_
  refine h_iconst (v := 0) dL_cost_2 (by decide) ?_
  refine h_aload_n dL_cost_3 rfl 0 rfl ?_
  refine h_iload_n dL_cost_4 rfl 1 rfl ?_
  refine h_iload_n dL_cost_5 rfl 2 rfl ?_
  refine h_iload_n dL_cost_6 rfl 3 rfl ?_
  refine h_iload dL_cost_7 4 rfl ?_
  refine h_callV (M' := mX7_cost) (b := b) (As := [.int a1, .int a2, .int a3, .int a4]) (rest := [.int 0, .ref o]) (rc' := 0) (rs' := 0) dL_cost_9 bw_1032 bw_1033 bw_1034 bw_1 bw_1035 ⟨by decide +kernel, by decide +kernel, show (parseMethodDescriptor mX7_cost.1.desc).map (fun d => d.parameters.length) = some 4 by decide +kernel⟩ (by decide) (by decide) (Nat.le_of_ble_eq_true rfl) fc_7 (by decide) rfl kb C (Nat.le_refl _) (Nat.le_refl _) (fun E h' e => ?_) (fun v h1 q1 _ => ?_)
  · rcases hX E h' e with rfl | rfl
    · exact ⟨1, ⟨[], ⟨0, 14, 17, 18⟩, [⟨0, 14, 21, 13⟩], "java/util/NoSuchElementException", rfl, fun _ z => absurd z List.not_mem_nil, by decide, by decide, bw_897, nc.2.2, ⟨6, 1, by decide, by decide, rfl, Or.inr ⟨dL_cost_17, dL_cost_19, dL_cost_20⟩⟩⟩, _, rfl, Or.inr ⟨_, e, rfl⟩⟩
    · exact ⟨2, ⟨[⟨0, 14, 17, 18⟩], ⟨0, 14, 21, 13⟩, [], "java/lang/IllegalArgumentException", rfl, fun y z => (by rw [List.mem_singleton] at z; rw [z]; exact ⟨by decide, "java/util/NoSuchElementException", bw_897, nc.1⟩), by decide, by decide, bw_684, nc.2.1, ⟨6, 2, by decide, by decide, rfl, Or.inr ⟨dL_cost_21, dL_cost_23, dL_cost_24⟩⟩⟩, _, rfl, Or.inr ⟨_, e, rfl⟩⟩
  · obtain ⟨r, rfl, k1⟩ := hQ v h1 q1
    show Gh l x mL_cost (tableOf hL_cost) 9 12 [(0, .ref b), (1, .int a1), (2, .int a2), (3, .int a3), (4, .int a4), (5, .ref o)] [.int r, .int 0, .ref o] h1 0 0 (hN h) (fun v h' => ∃ r, v = some (.int r) ∧ WQ o ek2 Q' X' r h') (fun _ _ => False)
    refine h_i2l dL_cost_12 (h_last dL_cost_13 (by rw [k1]) (by rw [k1]; exact vp_in_nI (n := 0) (by decide) (by decide)) ?_)
    refine h_goto (tgt := 25) dL_cost_14 (by decide) (h_iconst (v := 0) dL_cost_25 (by decide) ?_)
    exact h_iret dL_cost_26 rfl ⟨_, rfl, Or.inl ⟨r, h1, q1, rfl, rfl⟩⟩
abbrev mL_ahead : MD := (yL_ahead, cL_ahead, 5, some .int)
abbrev hL_ahead : List (Nat × Nat × Nat × Nat) := [(0, 10, 13, 18), (0, 10, 17, 13)]
theorem dL_ahead_0 : decode cL_ahead 0 = .ok (.aload_n 3, 1) := by decide +kernel
theorem dL_ahead_1 : decode cL_ahead 1 = .ok (.iconst 0, 1) := by decide +kernel
theorem dL_ahead_2 : decode cL_ahead 2 = .ok (.aload_n 0, 1) := by decide +kernel
theorem dL_ahead_3 : decode cL_ahead 3 = .ok (.iload_n 1, 1) := by decide +kernel
theorem dL_ahead_4 : decode cL_ahead 4 = .ok (.iload_n 2, 1) := by decide +kernel
theorem dL_ahead_5 : decode cL_ahead 5 = .ok (.invokevirtual 35, 3) := by decide +kernel
theorem dL_ahead_8 : decode cL_ahead 8 = .ok (.i2l, 1) := by decide +kernel
theorem dL_ahead_9 : decode cL_ahead 9 = .ok (.lastore, 1) := by decide +kernel
theorem dL_ahead_10 : decode cL_ahead 10 = .ok (.goto 11, 3) := by decide +kernel
theorem dL_ahead_13 : decode cL_ahead 13 = .ok (.astore 4, 2) := by decide +kernel
theorem dL_ahead_15 : decode cL_ahead 15 = .ok (.iconst 1, 1) := by decide +kernel
theorem dL_ahead_16 : decode cL_ahead 16 = .ok (.ireturn, 1) := by decide +kernel
theorem dL_ahead_17 : decode cL_ahead 17 = .ok (.astore 4, 2) := by decide +kernel
theorem dL_ahead_19 : decode cL_ahead 19 = .ok (.iconst 2, 1) := by decide +kernel
theorem dL_ahead_20 : decode cL_ahead 20 = .ok (.ireturn, 1) := by decide +kernel
theorem dL_ahead_21 : decode cL_ahead 21 = .ok (.iconst 0, 1) := by decide +kernel
theorem dL_ahead_22 : decode cL_ahead 22 = .ok (.ireturn, 1) := by decide +kernel
theorem w_ahead {l : Launch} {x : CX} {h : PH} {b o : Nat} {a1 a2 : Int32} {Q' : Option Value → PH → Prop} {X' : String → PH → Prop} (nc : NcOk x) (kb : (hK h b).1 = 7) (C : Cm l x mX7_ahead 8 1 6 [.ref b, .int a1, .int a2] h Q' X') (hQ : ∀ v h', Q' v h' → ∃ r, v = some (.int r) ∧ hK h' o = (104, 1)) (hX : ∀ E h', X' E h' → E = "java/util/NoSuchElementException" ∨ E = "java/lang/IllegalArgumentException") : Ch l x mL_ahead hL_ahead 9 1 6 [.ref b, .int a1, .int a2, .ref o] h (fun v h' => ∃ r, v = some (.int r) ∧ WQ o ek2 Q' X' r h') (fun _ _ => False) := by
  refine Ch.of (by decide) (Nat.le_of_ble_eq_true rfl) ?_
  show Gh l x mL_ahead (tableOf hL_ahead) 9 0 [(0, .ref b), (1, .int a1), (2, .int a2), (3, .ref o)] [] h 1 6 (hN h) (fun v h' => ∃ r, v = some (.int r) ∧ WQ o ek2 Q' X' r h') (fun _ _ => False)
  refine h_aload_n dL_ahead_0 rfl 3 rfl ?_
  refine h_iconst (v := 0) dL_ahead_1 (by decide) ?_
  refine h_aload_n dL_ahead_2 rfl 0 rfl ?_
  refine h_iload_n dL_ahead_3 rfl 1 rfl ?_
  refine h_iload_n dL_ahead_4 rfl 2 rfl ?_
  refine h_callV (M' := mX7_ahead) (b := b) (As := [.int a1, .int a2]) (rest := [.int 0, .ref o]) (rc' := 0) (rs' := 0) dL_ahead_5 bw_1043 bw_1044 bw_1045 bw_1 bw_1046 ⟨by decide +kernel, by decide +kernel, show (parseMethodDescriptor mX7_ahead.1.desc).map (fun d => d.parameters.length) = some 2 by decide +kernel⟩ (by decide) (by decide) (Nat.le_of_ble_eq_true rfl) fc_7 (by decide) rfl kb C (Nat.le_refl _) (Nat.le_refl _) (fun E h' e => ?_) (fun v h1 q1 _ => ?_)
  · rcases hX E h' e with rfl | rfl
    · exact ⟨1, ⟨[], ⟨0, 10, 13, 18⟩, [⟨0, 10, 17, 13⟩], "java/util/NoSuchElementException", rfl, fun _ z => absurd z List.not_mem_nil, by decide, by decide, bw_897, nc.2.2, ⟨4, 1, by decide, by decide, rfl, Or.inr ⟨dL_ahead_13, dL_ahead_15, dL_ahead_16⟩⟩⟩, _, rfl, Or.inr ⟨_, e, rfl⟩⟩
    · exact ⟨2, ⟨[⟨0, 10, 13, 18⟩], ⟨0, 10, 17, 13⟩, [], "java/lang/IllegalArgumentException", rfl, fun y z => (by rw [List.mem_singleton] at z; rw [z]; exact ⟨by decide, "java/util/NoSuchElementException", bw_897, nc.1⟩), by decide, by decide, bw_684, nc.2.1, ⟨4, 2, by decide, by decide, rfl, Or.inr ⟨dL_ahead_17, dL_ahead_19, dL_ahead_20⟩⟩⟩, _, rfl, Or.inr ⟨_, e, rfl⟩⟩
  · obtain ⟨r, rfl, k1⟩ := hQ v h1 q1
    show Gh l x mL_ahead (tableOf hL_ahead) 9 8 [(0, .ref b), (1, .int a1), (2, .int a2), (3, .ref o)] [.int r, .int 0, .ref o] h1 0 0 (hN h) (fun v h' => ∃ r, v = some (.int r) ∧ WQ o ek2 Q' X' r h') (fun _ _ => False)
    refine h_i2l dL_ahead_8 (h_last dL_ahead_9 (by rw [k1]) (by rw [k1]; exact vp_in_nI (n := 0) (by decide) (by decide)) ?_)
    refine h_goto (tgt := 21) dL_ahead_10 (by decide) (h_iconst (v := 0) dL_ahead_21 (by decide) ?_)
    exact h_iret dL_ahead_22 rfl ⟨_, rfl, Or.inl ⟨r, h1, q1, rfl, rfl⟩⟩
abbrev mL_when : MD := (yL_when, cL_when, 4, some .int)
abbrev hL_when : List (Nat × Nat × Nat × Nat) := [(0, 9, 12, 18)]
theorem dL_when_0 : decode cL_when 0 = .ok (.aload_n 2, 1) := by decide +kernel
theorem dL_when_1 : decode cL_when 1 = .ok (.iconst 0, 1) := by decide +kernel
theorem dL_when_2 : decode cL_when 2 = .ok (.aload_n 0, 1) := by decide +kernel
theorem dL_when_3 : decode cL_when 3 = .ok (.iload_n 1, 1) := by decide +kernel
theorem dL_when_4 : decode cL_when 4 = .ok (.invokevirtual 38, 3) := by decide +kernel
theorem dL_when_7 : decode cL_when 7 = .ok (.i2l, 1) := by decide +kernel
theorem dL_when_8 : decode cL_when 8 = .ok (.lastore, 1) := by decide +kernel
theorem dL_when_9 : decode cL_when 9 = .ok (.goto 6, 3) := by decide +kernel
theorem dL_when_12 : decode cL_when 12 = .ok (.astore_n 3, 1) := by decide +kernel
theorem dL_when_13 : decode cL_when 13 = .ok (.iconst 1, 1) := by decide +kernel
theorem dL_when_14 : decode cL_when 14 = .ok (.ireturn, 1) := by decide +kernel
theorem dL_when_15 : decode cL_when 15 = .ok (.iconst 0, 1) := by decide +kernel
theorem dL_when_16 : decode cL_when 16 = .ok (.ireturn, 1) := by decide +kernel
theorem w_when {l : Launch} {x : CX} {h : PH} {b o : Nat} {a1 : Int32} {Q' : Option Value → PH → Prop} {X' : String → PH → Prop} (nc : NcOk x) (kb : (hK h b).1 = 7) (C : Cm l x mX7_when 8 1 6 [.ref b, .int a1] h Q' X') (hQ : ∀ v h', Q' v h' → ∃ r, v = some (.int r) ∧ hK h' o = (104, 1)) (hX : ∀ E h', X' E h' → E = "java/util/NoSuchElementException") : Ch l x mL_when hL_when 9 1 6 [.ref b, .int a1, .ref o] h (fun v h' => ∃ r, v = some (.int r) ∧ WQ o ek1 Q' X' r h') (fun _ _ => False) := by
  refine Ch.of (by decide) (Nat.le_of_ble_eq_true rfl) ?_
  show Gh l x mL_when (tableOf hL_when) 9 0 [(0, .ref b), (1, .int a1), (2, .ref o)] [] h 1 6 (hN h) (fun v h' => ∃ r, v = some (.int r) ∧ WQ o ek1 Q' X' r h') (fun _ _ => False)
  refine h_aload_n dL_when_0 rfl 2 rfl ?_
  refine h_iconst (v := 0) dL_when_1 (by decide) ?_
  refine h_aload_n dL_when_2 rfl 0 rfl ?_
  refine h_iload_n dL_when_3 rfl 1 rfl ?_
  refine h_callV (M' := mX7_when) (b := b) (As := [.int a1]) (rest := [.int 0, .ref o]) (rc' := 0) (rs' := 0) dL_when_4 bw_1056 bw_1057 bw_1058 bw_1 bw_1059 ⟨by decide +kernel, by decide +kernel, show (parseMethodDescriptor mX7_when.1.desc).map (fun d => d.parameters.length) = some 1 by decide +kernel⟩ (by decide) (by decide) (Nat.le_of_ble_eq_true rfl) fc_7 (by decide) rfl kb C (Nat.le_refl _) (Nat.le_refl _) (fun E h' e => ?_) (fun v h1 q1 _ => ?_)
  · refine ⟨1, ?_, _, rfl, Or.inr ⟨E, e, rfl⟩⟩
    rw [hX E h' e]
    exact ⟨[], ⟨0, 9, 12, 18⟩, [], "java/util/NoSuchElementException", rfl, fun _ z => absurd z List.not_mem_nil, by decide, by decide, bw_897, nc.2.2, ⟨3, 1, by decide, by decide, rfl, Or.inl ⟨3, rfl, dL_when_12, dL_when_13, dL_when_14⟩⟩⟩
  · obtain ⟨r, rfl, k1⟩ := hQ v h1 q1
    show Gh l x mL_when (tableOf hL_when) 9 7 [(0, .ref b), (1, .int a1), (2, .ref o)] [.int r, .int 0, .ref o] h1 0 0 (hN h) (fun v h' => ∃ r, v = some (.int r) ∧ WQ o ek1 Q' X' r h') (fun _ _ => False)
    refine h_i2l dL_when_7 (h_last dL_when_8 (by rw [k1]) (by rw [k1]; exact vp_in_nI (n := 0) (by decide) (by decide)) ?_)
    refine h_goto (tgt := 15) dL_when_9 (by decide) (h_iconst (v := 0) dL_when_15 (by decide) ?_)
    exact h_iret dL_when_16 rfl ⟨_, rfl, Or.inl ⟨r, h1, q1, rfl, rfl⟩⟩
abbrev mL_mean : MD := (yL_mean, cL_mean, 5, some .int)
abbrev hL_mean : List (Nat × Nat × Nat × Nat) := [(0, 10, 13, 13)]
theorem dL_mean_0 : decode cL_mean 0 = .ok (.aload_n 3, 1) := by decide +kernel
theorem dL_mean_1 : decode cL_mean 1 = .ok (.iconst 0, 1) := by decide +kernel
theorem dL_mean_2 : decode cL_mean 2 = .ok (.aload_n 0, 1) := by decide +kernel
theorem dL_mean_3 : decode cL_mean 3 = .ok (.iload_n 1, 1) := by decide +kernel
theorem dL_mean_4 : decode cL_mean 4 = .ok (.iload_n 2, 1) := by decide +kernel
theorem dL_mean_5 : decode cL_mean 5 = .ok (.invokevirtual 41, 3) := by decide +kernel
theorem dL_mean_8 : decode cL_mean 8 = .ok (.i2l, 1) := by decide +kernel
theorem dL_mean_9 : decode cL_mean 9 = .ok (.lastore, 1) := by decide +kernel
theorem dL_mean_10 : decode cL_mean 10 = .ok (.goto 7, 3) := by decide +kernel
theorem dL_mean_13 : decode cL_mean 13 = .ok (.astore 4, 2) := by decide +kernel
theorem dL_mean_15 : decode cL_mean 15 = .ok (.iconst 1, 1) := by decide +kernel
theorem dL_mean_16 : decode cL_mean 16 = .ok (.ireturn, 1) := by decide +kernel
theorem dL_mean_17 : decode cL_mean 17 = .ok (.iconst 0, 1) := by decide +kernel
theorem dL_mean_18 : decode cL_mean 18 = .ok (.ireturn, 1) := by decide +kernel
theorem w_mean {l : Launch} {x : CX} {h : PH} {b o : Nat} {a1 a2 : Int32} {Q' : Option Value → PH → Prop} {X' : String → PH → Prop} (nc : NcOk x) (kb : (hK h b).1 = 7) (C : Cm l x mX7_mean 8 1 6 [.ref b, .int a1, .int a2] h Q' X') (hQ : ∀ v h', Q' v h' → ∃ r, v = some (.int r) ∧ hK h' o = (104, 1)) (hX : ∀ E h', X' E h' → E = "java/lang/IllegalArgumentException") : Ch l x mL_mean hL_mean 9 1 6 [.ref b, .int a1, .int a2, .ref o] h (fun v h' => ∃ r, v = some (.int r) ∧ WQ o ek1 Q' X' r h') (fun _ _ => False) := by
  refine Ch.of (by decide) (Nat.le_of_ble_eq_true rfl) ?_
  show Gh l x mL_mean (tableOf hL_mean) 9 0 [(0, .ref b), (1, .int a1), (2, .int a2), (3, .ref o)] [] h 1 6 (hN h) (fun v h' => ∃ r, v = some (.int r) ∧ WQ o ek1 Q' X' r h') (fun _ _ => False)
  refine h_aload_n dL_mean_0 rfl 3 rfl ?_
  refine h_iconst (v := 0) dL_mean_1 (by decide) ?_
  refine h_aload_n dL_mean_2 rfl 0 rfl ?_
  refine h_iload_n dL_mean_3 rfl 1 rfl ?_
  refine h_iload_n dL_mean_4 rfl 2 rfl ?_
  refine h_callV (M' := mX7_mean) (b := b) (As := [.int a1, .int a2]) (rest := [.int 0, .ref o]) (rc' := 0) (rs' := 0) dL_mean_5 bw_1063 bw_1064 bw_1065 bw_1 bw_1066 ⟨by decide +kernel, by decide +kernel, show (parseMethodDescriptor mX7_mean.1.desc).map (fun d => d.parameters.length) = some 2 by decide +kernel⟩ (by decide) (by decide) (Nat.le_of_ble_eq_true rfl) fc_7 (by decide) rfl kb C (Nat.le_refl _) (Nat.le_refl _) (fun E h' e => ?_) (fun v h1 q1 _ => ?_)
  · refine ⟨1, ?_, _, rfl, Or.inr ⟨E, e, rfl⟩⟩
    rw [hX E h' e]
    exact ⟨[], ⟨0, 10, 13, 13⟩, [], "java/lang/IllegalArgumentException", rfl, fun _ z => absurd z List.not_mem_nil, by decide, by decide, bw_684, nc.2.1, ⟨4, 1, by decide, by decide, rfl, Or.inr ⟨dL_mean_13, dL_mean_15, dL_mean_16⟩⟩⟩
  · obtain ⟨r, rfl, k1⟩ := hQ v h1 q1
    show Gh l x mL_mean (tableOf hL_mean) 9 8 [(0, .ref b), (1, .int a1), (2, .int a2), (3, .ref o)] [.int r, .int 0, .ref o] h1 0 0 (hN h) (fun v h' => ∃ r, v = some (.int r) ∧ WQ o ek1 Q' X' r h') (fun _ _ => False)
    refine h_i2l dL_mean_8 (h_last dL_mean_9 (by rw [k1]) (by rw [k1]; exact vp_in_nI (n := 0) (by decide) (by decide)) ?_)
    refine h_goto (tgt := 17) dL_mean_10 (by decide) (h_iconst (v := 0) dL_mean_17 (by decide) ?_)
    exact h_iret dL_mean_18 rfl ⟨_, rfl, Or.inl ⟨r, h1, q1, rfl, rfl⟩⟩
abbrev mL_anew : MD := (yL_anew, cL_anew, 6, some .int)
abbrev hL_anew : List (Nat × Nat × Nat × Nat) := [(0, 12, 15, 18), (0, 12, 19, 13)]
theorem dL_anew_0 : decode cL_anew 0 = .ok (.aload 4, 2) := by decide +kernel
theorem dL_anew_2 : decode cL_anew 2 = .ok (.iconst 0, 1) := by decide +kernel
theorem dL_anew_3 : decode cL_anew 3 = .ok (.aload_n 0, 1) := by decide +kernel
theorem dL_anew_4 : decode cL_anew 4 = .ok (.iload_n 1, 1) := by decide +kernel
theorem dL_anew_5 : decode cL_anew 5 = .ok (.iload_n 2, 1) := by decide +kernel
theorem dL_anew_6 : decode cL_anew 6 = .ok (.iload_n 3, 1) := by decide +kernel
theorem dL_anew_7 : decode cL_anew 7 = .ok (.invokevirtual 44, 3) := by decide +kernel
theorem dL_anew_10 : decode cL_anew 10 = .ok (.i2l, 1) := by decide +kernel
theorem dL_anew_11 : decode cL_anew 11 = .ok (.lastore, 1) := by decide +kernel
theorem dL_anew_12 : decode cL_anew 12 = .ok (.goto 11, 3) := by decide +kernel
theorem dL_anew_15 : decode cL_anew 15 = .ok (.astore 5, 2) := by decide +kernel
theorem dL_anew_17 : decode cL_anew 17 = .ok (.iconst 1, 1) := by decide +kernel
theorem dL_anew_18 : decode cL_anew 18 = .ok (.ireturn, 1) := by decide +kernel
theorem dL_anew_19 : decode cL_anew 19 = .ok (.astore 5, 2) := by decide +kernel
theorem dL_anew_21 : decode cL_anew 21 = .ok (.iconst 2, 1) := by decide +kernel
theorem dL_anew_22 : decode cL_anew 22 = .ok (.ireturn, 1) := by decide +kernel
theorem dL_anew_23 : decode cL_anew 23 = .ok (.iconst 0, 1) := by decide +kernel
theorem dL_anew_24 : decode cL_anew 24 = .ok (.ireturn, 1) := by decide +kernel
theorem w_anew {l : Launch} {x : CX} {h : PH} {b o : Nat} {a1 a2 a3 : Int32} {Q' : Option Value → PH → Prop} {X' : String → PH → Prop} (nc : NcOk x) (kb : (hK h b).1 = 7) (C : Cm l x mX7_anew 8 1 6 [.ref b, .int a1, .int a2, .int a3] h Q' X') (hQ : ∀ v h', Q' v h' → ∃ r, v = some (.int r) ∧ hK h' o = (104, 1)) (hX : ∀ E h', X' E h' → E = "java/util/NoSuchElementException" ∨ E = "java/lang/IllegalArgumentException") : Ch l x mL_anew hL_anew 9 1 6 [.ref b, .int a1, .int a2, .int a3, .ref o] h (fun v h' => ∃ r, v = some (.int r) ∧ WQ o ek2 Q' X' r h') (fun _ _ => False) := by
  refine Ch.of (by decide) (Nat.le_of_ble_eq_true rfl) ?_
  show Gh l x mL_anew (tableOf hL_anew) 9 0 [(0, .ref b), (1, .int a1), (2, .int a2), (3, .int a3), (4, .ref o)] [] h 1 6 (hN h) (fun v h' => ∃ r, v = some (.int r) ∧ WQ o ek2 Q' X' r h') (fun _ _ => False)
  refine h_aload dL_anew_0 4 rfl ?_
  refine h_iconst (v := 0) dL_anew_2 (by decide) ?_
  refine h_aload_n dL_anew_3 rfl 0 rfl ?_
  refine h_iload_n dL_anew_4 rfl 1 rfl ?_
  refine h_iload_n dL_anew_5 rfl 2 rfl ?_
  refine h_iload_n dL_anew_6 rfl 3 rfl ?_
  refine h_callV (M' := mX7_anew) (b := b) (As := [.int a1, .int a2, .int a3]) (rest := [.int 0, .ref o]) (rc' := 0) (rs' := 0) dL_anew_7 bw_1078 bw_1079 bw_1080 bw_1 bw_1081 ⟨by decide +kernel, by decide +kernel, show (parseMethodDescriptor mX7_anew.1.desc).map (fun d => d.parameters.length) = some 3 by decide +kernel⟩ (by decide) (by decide) (Nat.le_of_ble_eq_true rfl) fc_7 (by decide) rfl kb C (Nat.le_refl _) (Nat.le_refl _) (fun E h' e => ?_) (fun v h1 q1 _ => ?_)
  · rcases hX E h' e with rfl | rfl
    · exact ⟨1, ⟨[], ⟨0, 12, 15, 18⟩, [⟨0, 12, 19, 13⟩], "java/util/NoSuchElementException", rfl, fun _ z => absurd z List.not_mem_nil, by decide, by decide, bw_897, nc.2.2, ⟨5, 1, by decide, by decide, rfl, Or.inr ⟨dL_anew_15, dL_anew_17, dL_anew_18⟩⟩⟩, _, rfl, Or.inr ⟨_, e, rfl⟩⟩
    · exact ⟨2, ⟨[⟨0, 12, 15, 18⟩], ⟨0, 12, 19, 13⟩, [], "java/lang/IllegalArgumentException", rfl, fun y z => (by rw [List.mem_singleton] at z; rw [z]; exact ⟨by decide, "java/util/NoSuchElementException", bw_897, nc.1⟩), by decide, by decide, bw_684, nc.2.1, ⟨5, 2, by decide, by decide, rfl, Or.inr ⟨dL_anew_19, dL_anew_21, dL_anew_22⟩⟩⟩, _, rfl, Or.inr ⟨_, e, rfl⟩⟩
  · obtain ⟨r, rfl, k1⟩ := hQ v h1 q1
    show Gh l x mL_anew (tableOf hL_anew) 9 10 [(0, .ref b), (1, .int a1), (2, .int a2), (3, .int a3), (4, .ref o)] [.int r, .int 0, .ref o] h1 0 0 (hN h) (fun v h' => ∃ r, v = some (.int r) ∧ WQ o ek2 Q' X' r h') (fun _ _ => False)
    refine h_i2l dL_anew_10 (h_last dL_anew_11 (by rw [k1]) (by rw [k1]; exact vp_in_nI (n := 0) (by decide) (by decide)) ?_)
    refine h_goto (tgt := 23) dL_anew_12 (by decide) (h_iconst (v := 0) dL_anew_23 (by decide) ?_)
    exact h_iret dL_anew_24 rfl ⟨_, rfl, Or.inl ⟨r, h1, q1, rfl, rfl⟩⟩
abbrev mL_homes : MD := (yL_homes, cL_homes, 5, some .int)
abbrev hL_homes : List (Nat × Nat × Nat × Nat) := [(0, 10, 13, 18)]
theorem dL_homes_0 : decode cL_homes 0 = .ok (.aload_n 3, 1) := by decide +kernel
theorem dL_homes_1 : decode cL_homes 1 = .ok (.iconst 0, 1) := by decide +kernel
theorem dL_homes_2 : decode cL_homes 2 = .ok (.aload_n 0, 1) := by decide +kernel
theorem dL_homes_3 : decode cL_homes 3 = .ok (.iload_n 1, 1) := by decide +kernel
theorem dL_homes_4 : decode cL_homes 4 = .ok (.iload_n 2, 1) := by decide +kernel
theorem dL_homes_5 : decode cL_homes 5 = .ok (.invokevirtual 48, 3) := by decide +kernel
theorem dL_homes_8 : decode cL_homes 8 = .ok (.i2l, 1) := by decide +kernel
theorem dL_homes_9 : decode cL_homes 9 = .ok (.lastore, 1) := by decide +kernel
theorem dL_homes_10 : decode cL_homes 10 = .ok (.goto 7, 3) := by decide +kernel
theorem dL_homes_13 : decode cL_homes 13 = .ok (.astore 4, 2) := by decide +kernel
theorem dL_homes_15 : decode cL_homes 15 = .ok (.iconst 1, 1) := by decide +kernel
theorem dL_homes_16 : decode cL_homes 16 = .ok (.ireturn, 1) := by decide +kernel
theorem dL_homes_17 : decode cL_homes 17 = .ok (.iconst 0, 1) := by decide +kernel
theorem dL_homes_18 : decode cL_homes 18 = .ok (.ireturn, 1) := by decide +kernel
theorem w_homes {l : Launch} {x : CX} {h : PH} {b o : Nat} {a1 a2 : Int32} {Q' : Option Value → PH → Prop} {X' : String → PH → Prop} (nc : NcOk x) (kb : (hK h b).1 = 7) (C : Cm l x mX7_homes 8 1 6 [.ref b, .int a1, .int a2] h Q' X') (hQ : ∀ v h', Q' v h' → ∃ r, v = some (.int r) ∧ hK h' o = (104, 1)) (hX : ∀ E h', X' E h' → E = "java/util/NoSuchElementException") : Ch l x mL_homes hL_homes 9 1 6 [.ref b, .int a1, .int a2, .ref o] h (fun v h' => ∃ r, v = some (.int r) ∧ WQ o ek1 Q' X' r h') (fun _ _ => False) := by
  refine Ch.of (by decide) (Nat.le_of_ble_eq_true rfl) ?_
  show Gh l x mL_homes (tableOf hL_homes) 9 0 [(0, .ref b), (1, .int a1), (2, .int a2), (3, .ref o)] [] h 1 6 (hN h) (fun v h' => ∃ r, v = some (.int r) ∧ WQ o ek1 Q' X' r h') (fun _ _ => False)
  refine h_aload_n dL_homes_0 rfl 3 rfl ?_
  refine h_iconst (v := 0) dL_homes_1 (by decide) ?_
  refine h_aload_n dL_homes_2 rfl 0 rfl ?_
  refine h_iload_n dL_homes_3 rfl 1 rfl ?_
  refine h_iload_n dL_homes_4 rfl 2 rfl ?_
  refine h_callV (M' := mX7_homes) (b := b) (As := [.int a1, .int a2]) (rest := [.int 0, .ref o]) (rc' := 0) (rs' := 0) dL_homes_5 bw_1086 bw_1087 bw_1088 bw_1 bw_1089 ⟨by decide +kernel, by decide +kernel, show (parseMethodDescriptor mX7_homes.1.desc).map (fun d => d.parameters.length) = some 2 by decide +kernel⟩ (by decide) (by decide) (Nat.le_of_ble_eq_true rfl) fc_7 (by decide) rfl kb C (Nat.le_refl _) (Nat.le_refl _) (fun E h' e => ?_) (fun v h1 q1 _ => ?_)
  · refine ⟨1, ?_, _, rfl, Or.inr ⟨E, e, rfl⟩⟩
    rw [hX E h' e]
    exact ⟨[], ⟨0, 10, 13, 18⟩, [], "java/util/NoSuchElementException", rfl, fun _ z => absurd z List.not_mem_nil, by decide, by decide, bw_897, nc.2.2, ⟨4, 1, by decide, by decide, rfl, Or.inr ⟨dL_homes_13, dL_homes_15, dL_homes_16⟩⟩⟩
  · obtain ⟨r, rfl, k1⟩ := hQ v h1 q1
    show Gh l x mL_homes (tableOf hL_homes) 9 8 [(0, .ref b), (1, .int a1), (2, .int a2), (3, .ref o)] [.int r, .int 0, .ref o] h1 0 0 (hN h) (fun v h' => ∃ r, v = some (.int r) ∧ WQ o ek1 Q' X' r h') (fun _ _ => False)
    refine h_i2l dL_homes_8 (h_last dL_homes_9 (by rw [k1]) (by rw [k1]; exact vp_in_nI (n := 0) (by decide) (by decide)) ?_)
    refine h_goto (tgt := 17) dL_homes_10 (by decide) (h_iconst (v := 0) dL_homes_17 (by decide) ?_)
    exact h_iret dL_homes_18 rfl ⟨_, rfl, Or.inl ⟨r, h1, q1, rfl, rfl⟩⟩
abbrev mL_later : MD := (yL_later, cL_later, 4, some .int)
abbrev hL_later : List (Nat × Nat × Nat × Nat) := [(0, 9, 12, 18)]
theorem dL_later_0 : decode cL_later 0 = .ok (.aload_n 2, 1) := by decide +kernel
theorem dL_later_1 : decode cL_later 1 = .ok (.iconst 0, 1) := by decide +kernel
theorem dL_later_2 : decode cL_later 2 = .ok (.aload_n 0, 1) := by decide +kernel
theorem dL_later_3 : decode cL_later 3 = .ok (.iload_n 1, 1) := by decide +kernel
theorem dL_later_4 : decode cL_later 4 = .ok (.invokevirtual 51, 3) := by decide +kernel
theorem dL_later_7 : decode cL_later 7 = .ok (.i2l, 1) := by decide +kernel
theorem dL_later_8 : decode cL_later 8 = .ok (.lastore, 1) := by decide +kernel
theorem dL_later_9 : decode cL_later 9 = .ok (.goto 6, 3) := by decide +kernel
theorem dL_later_12 : decode cL_later 12 = .ok (.astore_n 3, 1) := by decide +kernel
theorem dL_later_13 : decode cL_later 13 = .ok (.iconst 1, 1) := by decide +kernel
theorem dL_later_14 : decode cL_later 14 = .ok (.ireturn, 1) := by decide +kernel
theorem dL_later_15 : decode cL_later 15 = .ok (.iconst 0, 1) := by decide +kernel
theorem dL_later_16 : decode cL_later 16 = .ok (.ireturn, 1) := by decide +kernel
theorem w_later {l : Launch} {x : CX} {h : PH} {b o : Nat} {a1 : Int32} {Q' : Option Value → PH → Prop} {X' : String → PH → Prop} (nc : NcOk x) (kb : (hK h b).1 = 7) (C : Cm l x mX7_later 8 1 6 [.ref b, .int a1] h Q' X') (hQ : ∀ v h', Q' v h' → ∃ r, v = some (.int r) ∧ hK h' o = (104, 1)) (hX : ∀ E h', X' E h' → E = "java/util/NoSuchElementException") : Ch l x mL_later hL_later 9 1 6 [.ref b, .int a1, .ref o] h (fun v h' => ∃ r, v = some (.int r) ∧ WQ o ek1 Q' X' r h') (fun _ _ => False) := by
  refine Ch.of (by decide) (Nat.le_of_ble_eq_true rfl) ?_
  show Gh l x mL_later (tableOf hL_later) 9 0 [(0, .ref b), (1, .int a1), (2, .ref o)] [] h 1 6 (hN h) (fun v h' => ∃ r, v = some (.int r) ∧ WQ o ek1 Q' X' r h') (fun _ _ => False)
  refine h_aload_n dL_later_0 rfl 2 rfl ?_
  refine h_iconst (v := 0) dL_later_1 (by decide) ?_
  refine h_aload_n dL_later_2 rfl 0 rfl ?_
  refine h_iload_n dL_later_3 rfl 1 rfl ?_
  refine h_callV (M' := mX7_later) (b := b) (As := [.int a1]) (rest := [.int 0, .ref o]) (rc' := 0) (rs' := 0) dL_later_4 bw_1098 bw_1099 bw_1100 bw_1 bw_1101 ⟨by decide +kernel, by decide +kernel, show (parseMethodDescriptor mX7_later.1.desc).map (fun d => d.parameters.length) = some 1 by decide +kernel⟩ (by decide) (by decide) (Nat.le_of_ble_eq_true rfl) fc_7 (by decide) rfl kb C (Nat.le_refl _) (Nat.le_refl _) (fun E h' e => ?_) (fun v h1 q1 _ => ?_)
  · refine ⟨1, ?_, _, rfl, Or.inr ⟨E, e, rfl⟩⟩
    rw [hX E h' e]
    exact ⟨[], ⟨0, 9, 12, 18⟩, [], "java/util/NoSuchElementException", rfl, fun _ z => absurd z List.not_mem_nil, by decide, by decide, bw_897, nc.2.2, ⟨3, 1, by decide, by decide, rfl, Or.inl ⟨3, rfl, dL_later_12, dL_later_13, dL_later_14⟩⟩⟩
  · obtain ⟨r, rfl, k1⟩ := hQ v h1 q1
    show Gh l x mL_later (tableOf hL_later) 9 7 [(0, .ref b), (1, .int a1), (2, .ref o)] [.int r, .int 0, .ref o] h1 0 0 (hN h) (fun v h' => ∃ r, v = some (.int r) ∧ WQ o ek1 Q' X' r h') (fun _ _ => False)
    refine h_i2l dL_later_7 (h_last dL_later_8 (by rw [k1]) (by rw [k1]; exact vp_in_nI (n := 0) (by decide) (by decide)) ?_)
    refine h_goto (tgt := 15) dL_later_9 (by decide) (h_iconst (v := 0) dL_later_15 (by decide) ?_)
    exact h_iret dL_later_16 rfl ⟨_, rfl, Or.inl ⟨r, h1, q1, rfl, rfl⟩⟩
abbrev mL_fits : MD := (yL_fits, cL_fits, 4, some .int)
abbrev hL_fits : List (Nat × Nat × Nat × Nat) := [(0, 9, 12, 18)]
theorem dL_fits_0 : decode cL_fits 0 = .ok (.aload_n 2, 1) := by decide +kernel
theorem dL_fits_1 : decode cL_fits 1 = .ok (.iconst 0, 1) := by decide +kernel
theorem dL_fits_2 : decode cL_fits 2 = .ok (.aload_n 0, 1) := by decide +kernel
theorem dL_fits_3 : decode cL_fits 3 = .ok (.iload_n 1, 1) := by decide +kernel
theorem dL_fits_4 : decode cL_fits 4 = .ok (.invokevirtual 54, 3) := by decide +kernel
theorem dL_fits_7 : decode cL_fits 7 = .ok (.i2l, 1) := by decide +kernel
theorem dL_fits_8 : decode cL_fits 8 = .ok (.lastore, 1) := by decide +kernel
theorem dL_fits_9 : decode cL_fits 9 = .ok (.goto 6, 3) := by decide +kernel
theorem dL_fits_12 : decode cL_fits 12 = .ok (.astore_n 3, 1) := by decide +kernel
theorem dL_fits_13 : decode cL_fits 13 = .ok (.iconst 1, 1) := by decide +kernel
theorem dL_fits_14 : decode cL_fits 14 = .ok (.ireturn, 1) := by decide +kernel
theorem dL_fits_15 : decode cL_fits 15 = .ok (.iconst 0, 1) := by decide +kernel
theorem dL_fits_16 : decode cL_fits 16 = .ok (.ireturn, 1) := by decide +kernel
theorem w_fits {l : Launch} {x : CX} {h : PH} {b o : Nat} {a1 : Int32} {Q' : Option Value → PH → Prop} {X' : String → PH → Prop} (nc : NcOk x) (kb : (hK h b).1 = 7) (C : Cm l x mX7_fits 8 1 6 [.ref b, .int a1] h Q' X') (hQ : ∀ v h', Q' v h' → ∃ r, v = some (.int r) ∧ hK h' o = (104, 1)) (hX : ∀ E h', X' E h' → E = "java/util/NoSuchElementException") : Ch l x mL_fits hL_fits 9 1 6 [.ref b, .int a1, .ref o] h (fun v h' => ∃ r, v = some (.int r) ∧ WQ o ek1 Q' X' r h') (fun _ _ => False) := by
  refine Ch.of (by decide) (Nat.le_of_ble_eq_true rfl) ?_
  show Gh l x mL_fits (tableOf hL_fits) 9 0 [(0, .ref b), (1, .int a1), (2, .ref o)] [] h 1 6 (hN h) (fun v h' => ∃ r, v = some (.int r) ∧ WQ o ek1 Q' X' r h') (fun _ _ => False)
  refine h_aload_n dL_fits_0 rfl 2 rfl ?_
  refine h_iconst (v := 0) dL_fits_1 (by decide) ?_
  refine h_aload_n dL_fits_2 rfl 0 rfl ?_
  refine h_iload_n dL_fits_3 rfl 1 rfl ?_
  refine h_callV (M' := mX7_fits) (b := b) (As := [.int a1]) (rest := [.int 0, .ref o]) (rc' := 0) (rs' := 0) dL_fits_4 bw_1115 bw_1116 bw_1117 bw_1 bw_1118 ⟨by decide +kernel, by decide +kernel, show (parseMethodDescriptor mX7_fits.1.desc).map (fun d => d.parameters.length) = some 1 by decide +kernel⟩ (by decide) (by decide) (Nat.le_of_ble_eq_true rfl) fc_7 (by decide) rfl kb C (Nat.le_refl _) (Nat.le_refl _) (fun E h' e => ?_) (fun v h1 q1 _ => ?_)
  · refine ⟨1, ?_, _, rfl, Or.inr ⟨E, e, rfl⟩⟩
    rw [hX E h' e]
    exact ⟨[], ⟨0, 9, 12, 18⟩, [], "java/util/NoSuchElementException", rfl, fun _ z => absurd z List.not_mem_nil, by decide, by decide, bw_897, nc.2.2, ⟨3, 1, by decide, by decide, rfl, Or.inl ⟨3, rfl, dL_fits_12, dL_fits_13, dL_fits_14⟩⟩⟩
  · obtain ⟨r, rfl, k1⟩ := hQ v h1 q1
    show Gh l x mL_fits (tableOf hL_fits) 9 7 [(0, .ref b), (1, .int a1), (2, .ref o)] [.int r, .int 0, .ref o] h1 0 0 (hN h) (fun v h' => ∃ r, v = some (.int r) ∧ WQ o ek1 Q' X' r h') (fun _ _ => False)
    refine h_i2l dL_fits_7 (h_last dL_fits_8 (by rw [k1]) (by rw [k1]; exact vp_in_nI (n := 0) (by decide) (by decide)) ?_)
    refine h_goto (tgt := 15) dL_fits_9 (by decide) (h_iconst (v := 0) dL_fits_15 (by decide) ?_)
    exact h_iret dL_fits_16 rfl ⟨_, rfl, Or.inl ⟨r, h1, q1, rfl, rfl⟩⟩
abbrev mL_look : MD := (yL_look, cL_look, 4, some .int)
abbrev hL_look : List (Nat × Nat × Nat × Nat) := [(0, 9, 12, 18)]
theorem dL_look_0 : decode cL_look 0 = .ok (.aload_n 2, 1) := by decide +kernel
theorem dL_look_1 : decode cL_look 1 = .ok (.iconst 0, 1) := by decide +kernel
theorem dL_look_2 : decode cL_look 2 = .ok (.aload_n 0, 1) := by decide +kernel
theorem dL_look_3 : decode cL_look 3 = .ok (.iload_n 1, 1) := by decide +kernel
theorem dL_look_4 : decode cL_look 4 = .ok (.invokevirtual 57, 3) := by decide +kernel
theorem dL_look_7 : decode cL_look 7 = .ok (.i2l, 1) := by decide +kernel
theorem dL_look_8 : decode cL_look 8 = .ok (.lastore, 1) := by decide +kernel
theorem dL_look_9 : decode cL_look 9 = .ok (.goto 6, 3) := by decide +kernel
theorem dL_look_12 : decode cL_look 12 = .ok (.astore_n 3, 1) := by decide +kernel
theorem dL_look_13 : decode cL_look 13 = .ok (.iconst 1, 1) := by decide +kernel
theorem dL_look_14 : decode cL_look 14 = .ok (.ireturn, 1) := by decide +kernel
theorem dL_look_15 : decode cL_look 15 = .ok (.iconst 0, 1) := by decide +kernel
theorem dL_look_16 : decode cL_look 16 = .ok (.ireturn, 1) := by decide +kernel
theorem w_look {l : Launch} {x : CX} {h : PH} {b o : Nat} {a1 : Int32} {Q' : Option Value → PH → Prop} {X' : String → PH → Prop} (nc : NcOk x) (kb : (hK h b).1 = 7) (C : Cm l x mX7_look 8 1 6 [.ref b, .int a1] h Q' X') (hQ : ∀ v h', Q' v h' → ∃ r, v = some (.int r) ∧ hK h' o = (104, 1)) (hX : ∀ E h', X' E h' → E = "java/util/NoSuchElementException") : Ch l x mL_look hL_look 9 1 6 [.ref b, .int a1, .ref o] h (fun v h' => ∃ r, v = some (.int r) ∧ WQ o ek1 Q' X' r h') (fun _ _ => False) := by
  refine Ch.of (by decide) (Nat.le_of_ble_eq_true rfl) ?_
  show Gh l x mL_look (tableOf hL_look) 9 0 [(0, .ref b), (1, .int a1), (2, .ref o)] [] h 1 6 (hN h) (fun v h' => ∃ r, v = some (.int r) ∧ WQ o ek1 Q' X' r h') (fun _ _ => False)
  refine h_aload_n dL_look_0 rfl 2 rfl ?_
  refine h_iconst (v := 0) dL_look_1 (by decide) ?_
  refine h_aload_n dL_look_2 rfl 0 rfl ?_
  refine h_iload_n dL_look_3 rfl 1 rfl ?_
  refine h_callV (M' := mX7_look) (b := b) (As := [.int a1]) (rest := [.int 0, .ref o]) (rc' := 0) (rs' := 0) dL_look_4 bw_1134 bw_1135 bw_1136 bw_1 bw_1137 ⟨by decide +kernel, by decide +kernel, show (parseMethodDescriptor mX7_look.1.desc).map (fun d => d.parameters.length) = some 1 by decide +kernel⟩ (by decide) (by decide) (Nat.le_of_ble_eq_true rfl) fc_7 (by decide) rfl kb C (Nat.le_refl _) (Nat.le_refl _) (fun E h' e => ?_) (fun v h1 q1 _ => ?_)
  · refine ⟨1, ?_, _, rfl, Or.inr ⟨E, e, rfl⟩⟩
    rw [hX E h' e]
    exact ⟨[], ⟨0, 9, 12, 18⟩, [], "java/util/NoSuchElementException", rfl, fun _ z => absurd z List.not_mem_nil, by decide, by decide, bw_897, nc.2.2, ⟨3, 1, by decide, by decide, rfl, Or.inl ⟨3, rfl, dL_look_12, dL_look_13, dL_look_14⟩⟩⟩
  · obtain ⟨r, rfl, k1⟩ := hQ v h1 q1
    show Gh l x mL_look (tableOf hL_look) 9 7 [(0, .ref b), (1, .int a1), (2, .ref o)] [.int r, .int 0, .ref o] h1 0 0 (hN h) (fun v h' => ∃ r, v = some (.int r) ∧ WQ o ek1 Q' X' r h') (fun _ _ => False)
    refine h_i2l dL_look_7 (h_last dL_look_8 (by rw [k1]) (by rw [k1]; exact vp_in_nI (n := 0) (by decide) (by decide)) ?_)
    refine h_goto (tgt := 15) dL_look_9 (by decide) (h_iconst (v := 0) dL_look_15 (by decide) ?_)
    exact h_iret dL_look_16 rfl ⟨_, rfl, Or.inl ⟨r, h1, q1, rfl, rfl⟩⟩
abbrev mL_years : MD := (yL_years, cL_years, 6, some .int)
abbrev hL_years : List (Nat × Nat × Nat × Nat) := [(0, 12, 15, 18), (0, 12, 19, 13)]
theorem dL_years_0 : decode cL_years 0 = .ok (.aload 4, 2) := by decide +kernel
theorem dL_years_2 : decode cL_years 2 = .ok (.iconst 0, 1) := by decide +kernel
theorem dL_years_3 : decode cL_years 3 = .ok (.aload_n 0, 1) := by decide +kernel
theorem dL_years_4 : decode cL_years 4 = .ok (.iload_n 1, 1) := by decide +kernel
theorem dL_years_5 : decode cL_years 5 = .ok (.iload_n 2, 1) := by decide +kernel
theorem dL_years_6 : decode cL_years 6 = .ok (.iload_n 3, 1) := by decide +kernel
theorem dL_years_7 : decode cL_years 7 = .ok (.invokevirtual 60, 3) := by decide +kernel
theorem dL_years_10 : decode cL_years 10 = .ok (.i2l, 1) := by decide +kernel
theorem dL_years_11 : decode cL_years 11 = .ok (.lastore, 1) := by decide +kernel
theorem dL_years_12 : decode cL_years 12 = .ok (.goto 11, 3) := by decide +kernel
theorem dL_years_15 : decode cL_years 15 = .ok (.astore 5, 2) := by decide +kernel
theorem dL_years_17 : decode cL_years 17 = .ok (.iconst 1, 1) := by decide +kernel
theorem dL_years_18 : decode cL_years 18 = .ok (.ireturn, 1) := by decide +kernel
theorem dL_years_19 : decode cL_years 19 = .ok (.astore 5, 2) := by decide +kernel
theorem dL_years_21 : decode cL_years 21 = .ok (.iconst 2, 1) := by decide +kernel
theorem dL_years_22 : decode cL_years 22 = .ok (.ireturn, 1) := by decide +kernel
theorem dL_years_23 : decode cL_years 23 = .ok (.iconst 0, 1) := by decide +kernel
theorem dL_years_24 : decode cL_years 24 = .ok (.ireturn, 1) := by decide +kernel
theorem w_years {l : Launch} {x : CX} {h : PH} {b o : Nat} {a1 a2 a3 : Int32} {Q' : Option Value → PH → Prop} {X' : String → PH → Prop} (nc : NcOk x) (kb : (hK h b).1 = 7) (C : Cm l x mX7_years 8 1 6 [.ref b, .int a1, .int a2, .int a3] h Q' X') (hQ : ∀ v h', Q' v h' → ∃ r, v = some (.int r) ∧ hK h' o = (104, 1)) (hX : ∀ E h', X' E h' → E = "java/util/NoSuchElementException" ∨ E = "java/lang/IllegalArgumentException") : Ch l x mL_years hL_years 9 1 6 [.ref b, .int a1, .int a2, .int a3, .ref o] h (fun v h' => ∃ r, v = some (.int r) ∧ WQ o ek2 Q' X' r h') (fun _ _ => False) := by
  refine Ch.of (by decide) (Nat.le_of_ble_eq_true rfl) ?_
  show Gh l x mL_years (tableOf hL_years) 9 0 [(0, .ref b), (1, .int a1), (2, .int a2), (3, .int a3), (4, .ref o)] [] h 1 6 (hN h) (fun v h' => ∃ r, v = some (.int r) ∧ WQ o ek2 Q' X' r h') (fun _ _ => False)
  refine h_aload dL_years_0 4 rfl ?_
  refine h_iconst (v := 0) dL_years_2 (by decide) ?_
  refine h_aload_n dL_years_3 rfl 0 rfl ?_
  refine h_iload_n dL_years_4 rfl 1 rfl ?_
  refine h_iload_n dL_years_5 rfl 2 rfl ?_
  refine h_iload_n dL_years_6 rfl 3 rfl ?_
  refine h_callV (M' := mX7_years) (b := b) (As := [.int a1, .int a2, .int a3]) (rest := [.int 0, .ref o]) (rc' := 0) (rs' := 0) dL_years_7 bw_1147 bw_1148 bw_1149 bw_1 bw_1150 ⟨by decide +kernel, by decide +kernel, show (parseMethodDescriptor mX7_years.1.desc).map (fun d => d.parameters.length) = some 3 by decide +kernel⟩ (by decide) (by decide) (Nat.le_of_ble_eq_true rfl) fc_7 (by decide) rfl kb C (Nat.le_refl _) (Nat.le_refl _) (fun E h' e => ?_) (fun v h1 q1 _ => ?_)
  · rcases hX E h' e with rfl | rfl
    · exact ⟨1, ⟨[], ⟨0, 12, 15, 18⟩, [⟨0, 12, 19, 13⟩], "java/util/NoSuchElementException", rfl, fun _ z => absurd z List.not_mem_nil, by decide, by decide, bw_897, nc.2.2, ⟨5, 1, by decide, by decide, rfl, Or.inr ⟨dL_years_15, dL_years_17, dL_years_18⟩⟩⟩, _, rfl, Or.inr ⟨_, e, rfl⟩⟩
    · exact ⟨2, ⟨[⟨0, 12, 15, 18⟩], ⟨0, 12, 19, 13⟩, [], "java/lang/IllegalArgumentException", rfl, fun y z => (by rw [List.mem_singleton] at z; rw [z]; exact ⟨by decide, "java/util/NoSuchElementException", bw_897, nc.1⟩), by decide, by decide, bw_684, nc.2.1, ⟨5, 2, by decide, by decide, rfl, Or.inr ⟨dL_years_19, dL_years_21, dL_years_22⟩⟩⟩, _, rfl, Or.inr ⟨_, e, rfl⟩⟩
  · obtain ⟨r, rfl, k1⟩ := hQ v h1 q1
    show Gh l x mL_years (tableOf hL_years) 9 10 [(0, .ref b), (1, .int a1), (2, .int a2), (3, .int a3), (4, .ref o)] [.int r, .int 0, .ref o] h1 0 0 (hN h) (fun v h' => ∃ r, v = some (.int r) ∧ WQ o ek2 Q' X' r h') (fun _ _ => False)
    refine h_i2l dL_years_10 (h_last dL_years_11 (by rw [k1]) (by rw [k1]; exact vp_in_nI (n := 0) (by decide) (by decide)) ?_)
    refine h_goto (tgt := 23) dL_years_12 (by decide) (h_iconst (v := 0) dL_years_23 (by decide) ?_)
    exact h_iret dL_years_24 rfl ⟨_, rfl, Or.inl ⟨r, h1, q1, rfl, rfl⟩⟩
