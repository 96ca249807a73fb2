/-! STEPS, printed by program: J -/
theorem dJxf58ca_isNaN_12338_0 : decode cJxf58ca_isNaN_12338 0 = .ok (.fload_n 0, 1) := by decide +kernel
theorem dJxf58ca_isNaN_12338_1 : decode cJxf58ca_isNaN_12338 1 = .ok (.fload_n 0, 1) := by decide +kernel
theorem dJxf58ca_isNaN_12338_2 : decode cJxf58ca_isNaN_12338 2 = .ok (.fcmp .l, 1) := by decide +kernel
theorem dJxf58ca_isNaN_12338_3 : decode cJxf58ca_isNaN_12338 3 = .ok (.ifCond .eq 7, 3) := by decide +kernel
theorem dJxf58ca_isNaN_12338_6 : decode cJxf58ca_isNaN_12338 6 = .ok (.iconst 1, 1) := by decide +kernel
theorem dJxf58ca_isNaN_12338_7 : decode cJxf58ca_isNaN_12338 7 = .ok (.goto 4, 3) := by decide +kernel
theorem dJxf58ca_isNaN_12338_10 : decode cJxf58ca_isNaN_12338 10 = .ok (.iconst 0, 1) := by decide +kernel
theorem dJxf58ca_isNaN_12338_11 : decode cJxf58ca_isNaN_12338 11 = .ok (.ireturn, 1) := by decide +kernel
set_option maxRecDepth 20000 in
set_option maxHeartbeats 4000000 in
theorem vJxf58ca_isNaN_12338_0 {l : Launch} {x : CX} {f0 : UInt32} {h : PH} {rc rs n0 : Nat} {Q : Option Value → PH → Prop} {X : String → PH → Prop}
    (K : (((if (Op.cmpValue (FP.fcmp f0 f0) .l) = 0 then 0 else 1 : Int32) : Int32) = 0 ∨ ((if (Op.cmpValue (FP.fcmp f0 f0) .l) = 0 then 0 else 1 : Int32) : Int32) = 1) ∧ Q (some (.int (if (Op.cmpValue (FP.fcmp f0 f0) .l) = 0 then 0 else 1 : Int32))) h) :
    Gm l x mJxf58ca_isNaN_12338 0 0 [(0, .float f0)] [] h rc rs n0 Q X := by
  refine g_fload_n dJxf58ca_isNaN_12338_0 rfl 0 rfl ?_
  refine g_fload_n dJxf58ca_isNaN_12338_1 rfl 0 rfl ?_
  refine g_fcmp dJxf58ca_isNaN_12338_2 ?_
  have KJ : Gm l x mJxf58ca_isNaN_12338 0 11 [(0, .float f0)] [.int (if (Op.cmpValue (FP.fcmp f0 f0) .l) = 0 then 0 else 1 : Int32)] h rc rs n0 Q X := by
    exact g_zret dJxf58ca_isNaN_12338_11 rfl K.1 K.2
  refine g_if_eq (tgt := 10) dJxf58ca_isNaN_12338_3 (by decide) (fun c1 => ?_) (fun c1 => ?_)
  · refine g_iconst (v := 0) dJxf58ca_isNaN_12338_10 (by decide) ?_
    first | (simp only [if_pos c1] at KJ; exact KJ) | (simp only [if_pos c1, ite_true, ite_false, eq_self] at KJ; exact KJ) | (simp only [if_pos c1] at KJ ⊢; exact KJ) | exact KJ
  · refine g_iconst (v := 1) dJxf58ca_isNaN_12338_6 (by decide) ?_
    refine g_goto (tgt := 11) dJxf58ca_isNaN_12338_7 (by decide) ?_
    first | (simp only [if_neg c1] at KJ; exact KJ) | (simp only [if_neg c1, ite_true, ite_false, eq_self] at KJ; exact KJ) | (simp only [if_neg c1] at KJ ⊢; exact KJ) | exact KJ
theorem dJxf58ca_floatToIntBits_5c35a_0 : decode cJxf58ca_floatToIntBits_5c35a 0 = .ok (.fload_n 0, 1) := by decide +kernel
theorem dJxf58ca_floatToIntBits_5c35a_1 : decode cJxf58ca_floatToIntBits_5c35a 1 = .ok (.invokestatic 59, 3) := by decide +kernel
theorem dJxf58ca_floatToIntBits_5c35a_4 : decode cJxf58ca_floatToIntBits_5c35a 4 = .ok (.ifCond .ne 8, 3) := by decide +kernel
theorem dJxf58ca_floatToIntBits_5c35a_7 : decode cJxf58ca_floatToIntBits_5c35a 7 = .ok (.fload_n 0, 1) := by decide +kernel
theorem dJxf58ca_floatToIntBits_5c35a_8 : decode cJxf58ca_floatToIntBits_5c35a 8 = .ok (.invokestatic 74, 3) := by decide +kernel
theorem dJxf58ca_floatToIntBits_5c35a_11 : decode cJxf58ca_floatToIntBits_5c35a 11 = .ok (.ireturn, 1) := by decide +kernel
theorem dJxf58ca_floatToIntBits_5c35a_12 : decode cJxf58ca_floatToIntBits_5c35a 12 = .ok (.ldc 77, 2) := by decide +kernel
theorem dJxf58ca_floatToIntBits_5c35a_14 : decode cJxf58ca_floatToIntBits_5c35a 14 = .ok (.ireturn, 1) := by decide +kernel
set_option maxRecDepth 20000 in
set_option maxHeartbeats 4000000 in
theorem vJxf58ca_floatToIntBits_5c35a_0 {l : Launch} {x : CX} {f0 : UInt32} {h : PH} {rc rs n0 : Nat} {Q : Option Value → PH → Prop} {X : String → PH → Prop}
    (K : ∃ (q1 : Int32 → PH → Prop), CI l x mJxf58ca_isNaN_12338 0 0 0 [.float f0] h q1 ∧ ∀ (r4 : Int32) (h3 : PH), q1 r4 h3 → ((¬ r4 = 0 → Q (some (.int 2143289344)) h3) ∧ (r4 = 0 → Q (some (.int f0.toInt32)) h3))) :
    Gm l x mJxf58ca_floatToIntBits_5c35a 1 0 [(0, .float f0)] [] h rc rs n0 Q X := by
  refine g_fload_n dJxf58ca_floatToIntBits_5c35a_0 rfl 0 rfl ?_
  obtain ⟨q1, C2, K⟩ := K
  refine g_callS (M' := mJxf58ca_isNaN_12338) (As := [.float f0]) (rest := []) (rc' := rc) (rs' := rs) dJxf58ca_floatToIntBits_5c35a_1 bw_1541 bw_1542 bw_23 bw_1543 ⟨by decide +kernel, by decide +kernel, show (parseMethodDescriptor mJxf58ca_isNaN_12338.1.desc).map (fun d => d.parameters.length) = some 1 by decide +kernel⟩ (by decide) (by decide) (Nat.le_of_ble_eq_true rfl) C2 (Nat.le_of_eq (Nat.add_zero _)) (Nat.le_of_eq (Nat.add_zero _)) (fun _ _ h => h) ?_
  rintro _ h3 ⟨r4, rfl, K1⟩ -
  replace K := K r4 h3 K1
  show Gm l x mJxf58ca_floatToIntBits_5c35a 1 4 [(0, .float f0)] [.int r4] h3 rc rs n0 Q X
  refine g_if_ne (tgt := 12) dJxf58ca_floatToIntBits_5c35a_4 (by decide) (fun c5 => ?_) (fun c5 => ?_)
  · replace K := K.1 c5
    refine g_ldc (v := 2143289344) dJxf58ca_floatToIntBits_5c35a_12 bw_1547 ?_
    exact g_iret dJxf58ca_floatToIntBits_5c35a_14 rfl K
  · replace K := K.2 c5
    refine g_fload_n dJxf58ca_floatToIntBits_5c35a_7 rfl 0 rfl ?_
    refine g_f2ib dJxf58ca_floatToIntBits_5c35a_8 bw_1544 bw_1546 bw_1545 bw_23 (by decide) (Nat.le_of_ble_eq_true rfl) ?_
    exact g_iret dJxf58ca_floatToIntBits_5c35a_11 rfl K
theorem dJ6_numberOfTrailingZeros_0f7a4_0 : decode cJ6_numberOfTrailingZeros_0f7a4 0 = .ok (.iload_n 0, 1) := by decide +kernel
theorem dJ6_numberOfTrailingZeros_0f7a4_1 : decode cJ6_numberOfTrailingZeros_0f7a4 1 = .ok (.iconst (-1), 1) := by decide +kernel
theorem dJ6_numberOfTrailingZeros_0f7a4_2 : decode cJ6_numberOfTrailingZeros_0f7a4 2 = .ok (.ixor, 1) := by decide +kernel
theorem dJ6_numberOfTrailingZeros_0f7a4_3 : decode cJ6_numberOfTrailingZeros_0f7a4 3 = .ok (.iload_n 0, 1) := by decide +kernel
theorem dJ6_numberOfTrailingZeros_0f7a4_4 : decode cJ6_numberOfTrailingZeros_0f7a4 4 = .ok (.iconst 1, 1) := by decide +kernel
theorem dJ6_numberOfTrailingZeros_0f7a4_5 : decode cJ6_numberOfTrailingZeros_0f7a4 5 = .ok (.isub, 1) := by decide +kernel
theorem dJ6_numberOfTrailingZeros_0f7a4_6 : decode cJ6_numberOfTrailingZeros_0f7a4 6 = .ok (.iand, 1) := by decide +kernel
theorem dJ6_numberOfTrailingZeros_0f7a4_7 : decode cJ6_numberOfTrailingZeros_0f7a4 7 = .ok (.istore_n 0, 1) := by decide +kernel
theorem dJ6_numberOfTrailingZeros_0f7a4_8 : decode cJ6_numberOfTrailingZeros_0f7a4 8 = .ok (.iload_n 0, 1) := by decide +kernel
theorem dJ6_numberOfTrailingZeros_0f7a4_9 : decode cJ6_numberOfTrailingZeros_0f7a4 9 = .ok (.ifCond .gt 8, 3) := by decide +kernel
theorem dJ6_numberOfTrailingZeros_0f7a4_12 : decode cJ6_numberOfTrailingZeros_0f7a4 12 = .ok (.iload_n 0, 1) := by decide +kernel
theorem dJ6_numberOfTrailingZeros_0f7a4_13 : decode cJ6_numberOfTrailingZeros_0f7a4 13 = .ok (.bipush 32, 2) := by decide +kernel
theorem dJ6_numberOfTrailingZeros_0f7a4_15 : decode cJ6_numberOfTrailingZeros_0f7a4 15 = .ok (.iand, 1) := by decide +kernel
theorem dJ6_numberOfTrailingZeros_0f7a4_16 : decode cJ6_numberOfTrailingZeros_0f7a4 16 = .ok (.ireturn, 1) := by decide +kernel
theorem dJ6_numberOfTrailingZeros_0f7a4_17 : decode cJ6_numberOfTrailingZeros_0f7a4 17 = .ok (.iconst 1, 1) := by decide +kernel
theorem dJ6_numberOfTrailingZeros_0f7a4_18 : decode cJ6_numberOfTrailingZeros_0f7a4 18 = .ok (.istore_n 1, 1) := by decide +kernel
theorem dJ6_numberOfTrailingZeros_0f7a4_19 : decode cJ6_numberOfTrailingZeros_0f7a4 19 = .ok (.iload_n 0, 1) := by decide +kernel
theorem dJ6_numberOfTrailingZeros_0f7a4_20 : decode cJ6_numberOfTrailingZeros_0f7a4 20 = .ok (.ldc_w 264, 3) := by decide +kernel
theorem dJ6_numberOfTrailingZeros_0f7a4_23 : decode cJ6_numberOfTrailingZeros_0f7a4 23 = .ok (.if_icmp .le 11, 3) := by decide +kernel
theorem dJ6_numberOfTrailingZeros_0f7a4_26 : decode cJ6_numberOfTrailingZeros_0f7a4 26 = .ok (.iinc 1 16, 3) := by decide +kernel
theorem dJ6_numberOfTrailingZeros_0f7a4_29 : decode cJ6_numberOfTrailingZeros_0f7a4 29 = .ok (.iload_n 0, 1) := by decide +kernel
theorem dJ6_numberOfTrailingZeros_0f7a4_30 : decode cJ6_numberOfTrailingZeros_0f7a4 30 = .ok (.bipush 16, 2) := by decide +kernel
theorem dJ6_numberOfTrailingZeros_0f7a4_32 : decode cJ6_numberOfTrailingZeros_0f7a4 32 = .ok (.iushr, 1) := by decide +kernel
theorem dJ6_numberOfTrailingZeros_0f7a4_33 : decode cJ6_numberOfTrailingZeros_0f7a4 33 = .ok (.istore_n 0, 1) := by decide +kernel
theorem dJ6_numberOfTrailingZeros_0f7a4_34 : decode cJ6_numberOfTrailingZeros_0f7a4 34 = .ok (.iload_n 0, 1) := by decide +kernel
theorem dJ6_numberOfTrailingZeros_0f7a4_35 : decode cJ6_numberOfTrailingZeros_0f7a4 35 = .ok (.sipush 256, 3) := by decide +kernel
theorem dJ6_numberOfTrailingZeros_0f7a4_38 : decode cJ6_numberOfTrailingZeros_0f7a4 38 = .ok (.if_icmp .le 11, 3) := by decide +kernel
theorem dJ6_numberOfTrailingZeros_0f7a4_41 : decode cJ6_numberOfTrailingZeros_0f7a4 41 = .ok (.iinc 1 8, 3) := by decide +kernel
theorem dJ6_numberOfTrailingZeros_0f7a4_44 : decode cJ6_numberOfTrailingZeros_0f7a4 44 = .ok (.iload_n 0, 1) := by decide +kernel
theorem dJ6_numberOfTrailingZeros_0f7a4_45 : decode cJ6_numberOfTrailingZeros_0f7a4 45 = .ok (.bipush 8, 2) := by decide +kernel
theorem dJ6_numberOfTrailingZeros_0f7a4_47 : decode cJ6_numberOfTrailingZeros_0f7a4 47 = .ok (.iushr, 1) := by decide +kernel
theorem dJ6_numberOfTrailingZeros_0f7a4_48 : decode cJ6_numberOfTrailingZeros_0f7a4 48 = .ok (.istore_n 0, 1) := by decide +kernel
theorem dJ6_numberOfTrailingZeros_0f7a4_49 : decode cJ6_numberOfTrailingZeros_0f7a4 49 = .ok (.iload_n 0, 1) := by decide +kernel
theorem dJ6_numberOfTrailingZeros_0f7a4_50 : decode cJ6_numberOfTrailingZeros_0f7a4 50 = .ok (.bipush 16, 2) := by decide +kernel
theorem dJ6_numberOfTrailingZeros_0f7a4_52 : decode cJ6_numberOfTrailingZeros_0f7a4 52 = .ok (.if_icmp .le 10, 3) := by decide +kernel
theorem dJ6_numberOfTrailingZeros_0f7a4_55 : decode cJ6_numberOfTrailingZeros_0f7a4 55 = .ok (.iinc 1 4, 3) := by decide +kernel
theorem dJ6_numberOfTrailingZeros_0f7a4_58 : decode cJ6_numberOfTrailingZeros_0f7a4 58 = .ok (.iload_n 0, 1) := by decide +kernel
theorem dJ6_numberOfTrailingZeros_0f7a4_59 : decode cJ6_numberOfTrailingZeros_0f7a4 59 = .ok (.iconst 4, 1) := by decide +kernel
theorem dJ6_numberOfTrailingZeros_0f7a4_60 : decode cJ6_numberOfTrailingZeros_0f7a4 60 = .ok (.iushr, 1) := by decide +kernel
theorem dJ6_numberOfTrailingZeros_0f7a4_61 : decode cJ6_numberOfTrailingZeros_0f7a4 61 = .ok (.istore_n 0, 1) := by decide +kernel
theorem dJ6_numberOfTrailingZeros_0f7a4_62 : decode cJ6_numberOfTrailingZeros_0f7a4 62 = .ok (.iload_n 0, 1) := by decide +kernel
theorem dJ6_numberOfTrailingZeros_0f7a4_63 : decode cJ6_numberOfTrailingZeros_0f7a4 63 = .ok (.iconst 4, 1) := by decide +kernel
theorem dJ6_numberOfTrailingZeros_0f7a4_64 : decode cJ6_numberOfTrailingZeros_0f7a4 64 = .ok (.if_icmp .le 10, 3) := by decide +kernel
theorem dJ6_numberOfTrailingZeros_0f7a4_67 : decode cJ6_numberOfTrailingZeros_0f7a4 67 = .ok (.iinc 1 2, 3) := by decide +kernel
theorem dJ6_numberOfTrailingZeros_0f7a4_70 : decode cJ6_numberOfTrailingZeros_0f7a4 70 = .ok (.iload_n 0, 1) := by decide +kernel
theorem dJ6_numberOfTrailingZeros_0f7a4_71 : decode cJ6_numberOfTrailingZeros_0f7a4 71 = .ok (.iconst 2, 1) := by decide +kernel
theorem dJ6_numberOfTrailingZeros_0f7a4_72 : decode cJ6_numberOfTrailingZeros_0f7a4 72 = .ok (.iushr, 1) := by decide +kernel
theorem dJ6_numberOfTrailingZeros_0f7a4_73 : decode cJ6_numberOfTrailingZeros_0f7a4 73 = .ok (.istore_n 0, 1) := by decide +kernel
theorem dJ6_numberOfTrailingZeros_0f7a4_74 : decode cJ6_numberOfTrailingZeros_0f7a4 74 = .ok (.iload_n 1, 1) := by decide +kernel
theorem dJ6_numberOfTrailingZeros_0f7a4_75 : decode cJ6_numberOfTrailingZeros_0f7a4 75 = .ok (.iload_n 0, 1) := by decide +kernel
theorem dJ6_numberOfTrailingZeros_0f7a4_76 : decode cJ6_numberOfTrailingZeros_0f7a4 76 = .ok (.iconst 1, 1) := by decide +kernel
theorem dJ6_numberOfTrailingZeros_0f7a4_77 : decode cJ6_numberOfTrailingZeros_0f7a4 77 = .ok (.iushr, 1) := by decide +kernel
theorem dJ6_numberOfTrailingZeros_0f7a4_78 : decode cJ6_numberOfTrailingZeros_0f7a4 78 = .ok (.iadd, 1) := by decide +kernel
theorem dJ6_numberOfTrailingZeros_0f7a4_79 : decode cJ6_numberOfTrailingZeros_0f7a4 79 = .ok (.ireturn, 1) := by decide +kernel
set_option maxRecDepth 20000 in
set_option maxHeartbeats 4000000 in
theorem vJ6_numberOfTrailingZeros_0f7a4_0 {l : Launch} {x : CX} {x0 : Int32} {h : PH} {rc rs n0 : Nat} {Q : Option Value → PH → Prop} {X : String → PH → Prop}
    (K : ((0 < ((x0 ^^^ (-1)) &&& (x0 - 1)) → (((if ((x0 ^^^ (-1)) &&& (x0 - 1)) ≤ 65536 then ((x0 ^^^ (-1)) &&& (x0 - 1)) else (ius ((x0 ^^^ (-1)) &&& (x0 - 1)) 16) : Int32) ≤ 256 → (((if ((x0 ^^^ (-1)) &&& (x0 - 1)) ≤ 65536 then ((x0 ^^^ (-1)) &&& (x0 - 1)) else (ius ((x0 ^^^ (-1)) &&& (x0 - 1)) 16) : Int32) ≤ 16 → (((if ((x0 ^^^ (-1)) &&& (x0 - 1)) ≤ 65536 then ((x0 ^^^ (-1)) &&& (x0 - 1)) else (ius ((x0 ^^^ (-1)) &&& (x0 - 1)) 16) : Int32) ≤ 4 → Q (some (.int ((if ((x0 ^^^ (-1)) &&& (x0 - 1)) ≤ 65536 then 1 else (1 + 16) : Int32) + (ius (if ((x0 ^^^ (-1)) &&& (x0 - 1)) ≤ 65536 then ((x0 ^^^ (-1)) &&& (x0 - 1)) else (ius ((x0 ^^^ (-1)) &&& (x0 - 1)) 16) : Int32) 1)))) h) ∧ (¬ (if ((x0 ^^^ (-1)) &&& (x0 - 1)) ≤ 65536 then ((x0 ^^^ (-1)) &&& (x0 - 1)) else (ius ((x0 ^^^ (-1)) &&& (x0 - 1)) 16) : Int32) ≤ 4 → ∀ (y6 : Int32), y6 = (ius (if ((x0 ^^^ (-1)) &&& (x0 - 1)) ≤ 65536 then ((x0 ^^^ (-1)) &&& (x0 - 1)) else (ius ((x0 ^^^ (-1)) &&& (x0 - 1)) 16) : Int32) 2) → Q (some (.int (((if ((x0 ^^^ (-1)) &&& (x0 - 1)) ≤ 65536 then 1 else (1 + 16) : Int32) + 2) + (ius y6 1)))) h))) ∧ (¬ (if ((x0 ^^^ (-1)) &&& (x0 - 1)) ≤ 65536 then ((x0 ^^^ (-1)) &&& (x0 - 1)) else (ius ((x0 ^^^ (-1)) &&& (x0 - 1)) 16) : Int32) ≤ 16 → ∀ (y8 : Int32), y8 = (ius (if ((x0 ^^^ (-1)) &&& (x0 - 1)) ≤ 65536 then ((x0 ^^^ (-1)) &&& (x0 - 1)) else (ius ((x0 ^^^ (-1)) &&& (x0 - 1)) 16) : Int32) 4) → Q (some (.int ((if y8 ≤ 4 then ((if ((x0 ^^^ (-1)) &&& (x0 - 1)) ≤ 65536 then 1 else (1 + 16) : Int32) + 4) else (((if ((x0 ^^^ (-1)) &&& (x0 - 1)) ≤ 65536 then 1 else (1 + 16) : Int32) + 4) + 2) : Int32) + (ius (if y8 ≤ 4 then y8 else (ius y8 2) : Int32) 1)))) h))) ∧ (¬ (if ((x0 ^^^ (-1)) &&& (x0 - 1)) ≤ 65536 then ((x0 ^^^ (-1)) &&& (x0 - 1)) else (ius ((x0 ^^^ (-1)) &&& (x0 - 1)) 16) : Int32) ≤ 256 → ∀ (y11 : Int32), y11 = (ius (if ((x0 ^^^ (-1)) &&& (x0 - 1)) ≤ 65536 then ((x0 ^^^ (-1)) &&& (x0 - 1)) else (ius ((x0 ^^^ (-1)) &&& (x0 - 1)) 16) : Int32) 8) → (((if y11 ≤ 16 then y11 else (ius y11 4) : Int32) ≤ 4 → Q (some (.int ((if y11 ≤ 16 then ((if ((x0 ^^^ (-1)) &&& (x0 - 1)) ≤ 65536 then 1 else (1 + 16) : Int32) + 8) else (((if ((x0 ^^^ (-1)) &&& (x0 - 1)) ≤ 65536 then 1 else (1 + 16) : Int32) + 8) + 4) : Int32) + (ius (if y11 ≤ 16 then y11 else (ius y11 4) : Int32) 1)))) h) ∧ (¬ (if y11 ≤ 16 then y11 else (ius y11 4) : Int32) ≤ 4 → Q (some (.int (((if y11 ≤ 16 then ((if ((x0 ^^^ (-1)) &&& (x0 - 1)) ≤ 65536 then 1 else (1 + 16) : Int32) + 8) else (((if ((x0 ^^^ (-1)) &&& (x0 - 1)) ≤ 65536 then 1 else (1 + 16) : Int32) + 8) + 4) : Int32) + 2) + (ius (ius (if y11 ≤ 16 then y11 else (ius y11 4) : Int32) 2) 1)))) h))))) ∧ (¬ 0 < ((x0 ^^^ (-1)) &&& (x0 - 1)) → Q (some (.int (((x0 ^^^ (-1)) &&& (x0 - 1)) &&& 32))) h))) :
    Gm l x mJ6_numberOfTrailingZeros_0f7a4 0 0 [(0, .int x0)] [] h rc rs n0 Q X := by
  refine g_iload_n dJ6_numberOfTrailingZeros_0f7a4_0 rfl 0 rfl ?_
  refine g_iconst (v := (-1)) dJ6_numberOfTrailingZeros_0f7a4_1 (by decide) ?_
  refine g_ixor dJ6_numberOfTrailingZeros_0f7a4_2 ?_
  refine g_iload_n dJ6_numberOfTrailingZeros_0f7a4_3 rfl 0 rfl ?_
  refine g_iconst (v := 1) dJ6_numberOfTrailingZeros_0f7a4_4 (by decide) ?_
  refine g_isub dJ6_numberOfTrailingZeros_0f7a4_5 ?_
  refine g_iand dJ6_numberOfTrailingZeros_0f7a4_6 ?_
  refine g_istore_n (lv' := [(0, .int ((x0 ^^^ (-1)) &&& (x0 - 1)))]) dJ6_numberOfTrailingZeros_0f7a4_7 rfl (by decide) rfl ?_
  refine g_iload_n dJ6_numberOfTrailingZeros_0f7a4_8 rfl 0 rfl ?_
  refine g_if_gt (tgt := 17) dJ6_numberOfTrailingZeros_0f7a4_9 (by decide) (fun c1 => ?_) (fun c1 => ?_)
  · replace K := K.1 c1
    refine g_iconst (v := 1) dJ6_numberOfTrailingZeros_0f7a4_17 (by decide) ?_
    refine g_istore_n (lv' := [(0, .int ((x0 ^^^ (-1)) &&& (x0 - 1))), (1, .int 1)]) dJ6_numberOfTrailingZeros_0f7a4_18 rfl (by decide) rfl ?_
    refine g_iload_n dJ6_numberOfTrailingZeros_0f7a4_19 rfl 0 rfl ?_
    refine g_ldcw (v := 65536) dJ6_numberOfTrailingZeros_0f7a4_20 bw_1130 ?_
    have KJ : Gm l x mJ6_numberOfTrailingZeros_0f7a4 0 34 [(0, .int (if ((x0 ^^^ (-1)) &&& (x0 - 1)) ≤ 65536 then ((x0 ^^^ (-1)) &&& (x0 - 1)) else (ius ((x0 ^^^ (-1)) &&& (x0 - 1)) 16) : Int32)), (1, .int (if ((x0 ^^^ (-1)) &&& (x0 - 1)) ≤ 65536 then 1 else (1 + 16) : Int32))] [] h rc rs n0 Q X := by
      refine g_iload_n dJ6_numberOfTrailingZeros_0f7a4_34 rfl 0 rfl ?_
      refine g_sipush (v := 256) dJ6_numberOfTrailingZeros_0f7a4_35 (by decide) ?_
      refine g_icmp_le (tgt := 49) dJ6_numberOfTrailingZeros_0f7a4_38 (by decide) (fun c3 => ?_) (fun c3 => ?_)
      · replace K := K.1 c3
        refine g_iload_n dJ6_numberOfTrailingZeros_0f7a4_49 rfl 0 rfl ?_
        refine g_bipush (v := 16) dJ6_numberOfTrailingZeros_0f7a4_50 (by decide) ?_
        refine g_icmp_le (tgt := 62) dJ6_numberOfTrailingZeros_0f7a4_52 (by decide) (fun c4 => ?_) (fun c4 => ?_)
        · replace K := K.1 c4
          refine g_iload_n dJ6_numberOfTrailingZeros_0f7a4_62 rfl 0 rfl ?_
          refine g_iconst (v := 4) dJ6_numberOfTrailingZeros_0f7a4_63 (by decide) ?_
          refine g_icmp_le (tgt := 74) dJ6_numberOfTrailingZeros_0f7a4_64 (by decide) (fun c5 => ?_) (fun c5 => ?_)
          · replace K := K.1 c5
            refine g_iload_n dJ6_numberOfTrailingZeros_0f7a4_74 rfl 1 rfl ?_
            refine g_iload_n dJ6_numberOfTrailingZeros_0f7a4_75 rfl 0 rfl ?_
            refine g_iconst (v := 1) dJ6_numberOfTrailingZeros_0f7a4_76 (by decide) ?_
            refine g_iushr dJ6_numberOfTrailingZeros_0f7a4_77 ?_
            refine g_iadd dJ6_numberOfTrailingZeros_0f7a4_78 ?_
            exact g_iret dJ6_numberOfTrailingZeros_0f7a4_79 rfl K
          · replace K := K.2 c5
            refine g_iinc (v := ((if ((x0 ^^^ (-1)) &&& (x0 - 1)) ≤ 65536 then 1 else (1 + 16) : Int32) + 2)) (lv' := [(0, .int (if ((x0 ^^^ (-1)) &&& (x0 - 1)) ≤ 65536 then ((x0 ^^^ (-1)) &&& (x0 - 1)) else (ius ((x0 ^^^ (-1)) &&& (x0 - 1)) 16) : Int32)), (1, .int ((if ((x0 ^^^ (-1)) &&& (x0 - 1)) ≤ 65536 then 1 else (1 + 16) : Int32) + 2))]) dJ6_numberOfTrailingZeros_0f7a4_67 1 rfl (by rfl) (by decide) rfl ?_
            refine g_iload_n dJ6_numberOfTrailingZeros_0f7a4_70 rfl 0 rfl ?_
            refine g_iconst (v := 2) dJ6_numberOfTrailingZeros_0f7a4_71 (by decide) ?_
            refine g_iushr dJ6_numberOfTrailingZeros_0f7a4_72 ?_
            refine g_nmI (fun y6 e7 => ?_)
            replace K := K y6 e7
            refine g_istore_n (lv' := [(0, .int y6), (1, .int ((if ((x0 ^^^ (-1)) &&& (x0 - 1)) ≤ 65536 then 1 else (1 + 16) : Int32) + 2))]) dJ6_numberOfTrailingZeros_0f7a4_73 rfl (by decide) rfl ?_
            refine g_iload_n dJ6_numberOfTrailingZeros_0f7a4_74 rfl 1 rfl ?_
            refine g_iload_n dJ6_numberOfTrailingZeros_0f7a4_75 rfl 0 rfl ?_
            refine g_iconst (v := 1) dJ6_numberOfTrailingZeros_0f7a4_76 (by decide) ?_
            refine g_iushr dJ6_numberOfTrailingZeros_0f7a4_77 ?_
            refine g_iadd dJ6_numberOfTrailingZeros_0f7a4_78 ?_
            exact g_iret dJ6_numberOfTrailingZeros_0f7a4_79 rfl K
        · replace K := K.2 c4
          refine g_iinc (v := ((if ((x0 ^^^ (-1)) &&& (x0 - 1)) ≤ 65536 then 1 else (1 + 16) : Int32) + 4)) (lv' := [(0, .int (if ((x0 ^^^ (-1)) &&& (x0 - 1)) ≤ 65536 then ((x0 ^^^ (-1)) &&& (x0 - 1)) else (ius ((x0 ^^^ (-1)) &&& (x0 - 1)) 16) : Int32)), (1, .int ((if ((x0 ^^^ (-1)) &&& (x0 - 1)) ≤ 65536 then 1 else (1 + 16) : Int32) + 4))]) dJ6_numberOfTrailingZeros_0f7a4_55 1 rfl (by rfl) (by decide) rfl ?_
          refine g_iload_n dJ6_numberOfTrailingZeros_0f7a4_58 rfl 0 rfl ?_
          refine g_iconst (v := 4) dJ6_numberOfTrailingZeros_0f7a4_59 (by decide) ?_
          refine g_iushr dJ6_numberOfTrailingZeros_0f7a4_60 ?_
          refine g_nmI (fun y8 e9 => ?_)
          replace K := K y8 e9
          refine g_istore_n (lv' := [(0, .int y8), (1, .int ((if ((x0 ^^^ (-1)) &&& (x0 - 1)) ≤ 65536 then 1 else (1 + 16) : Int32) + 4))]) dJ6_numberOfTrailingZeros_0f7a4_61 rfl (by decide) rfl ?_
          refine g_iload_n dJ6_numberOfTrailingZeros_0f7a4_62 rfl 0 rfl ?_
          refine g_iconst (v := 4) dJ6_numberOfTrailingZeros_0f7a4_63 (by decide) ?_
          have KJ : Gm l x mJ6_numberOfTrailingZeros_0f7a4 0 74 [(0, .int (if y8 ≤ 4 then y8 else (ius y8 2) : Int32)), (1, .int (if y8 ≤ 4 then ((if ((x0 ^^^ (-1)) &&& (x0 - 1)) ≤ 65536 then 1 else (1 + 16) : Int32) + 4) else (((if ((x0 ^^^ (-1)) &&& (x0 - 1)) ≤ 65536 then 1 else (1 + 16) : Int32) + 4) + 2) : Int32))] [] h rc rs n0 Q X := by
            refine g_iload_n dJ6_numberOfTrailingZeros_0f7a4_74 rfl 1 rfl ?_
            refine g_iload_n dJ6_numberOfTrailingZeros_0f7a4_75 rfl 0 rfl ?_
            refine g_iconst (v := 1) dJ6_numberOfTrailingZeros_0f7a4_76 (by decide) ?_
            refine g_iushr dJ6_numberOfTrailingZeros_0f7a4_77 ?_
            refine g_iadd dJ6_numberOfTrailingZeros_0f7a4_78 ?_
            exact g_iret dJ6_numberOfTrailingZeros_0f7a4_79 rfl K
          refine g_icmp_le (tgt := 74) dJ6_numberOfTrailingZeros_0f7a4_64 (by decide) (fun c10 => ?_) (fun c10 => ?_)
          · first | (simp only [if_pos c10] at KJ; exact KJ) | (simp only [if_pos c10, ite_true, ite_false, eq_self] at KJ; exact KJ) | (simp only [if_pos c10] at KJ ⊢; exact KJ) | exact KJ
          · refine g_iinc (v := (((if ((x0 ^^^ (-1)) &&& (x0 - 1)) ≤ 65536 then 1 else (1 + 16) : Int32) + 4) + 2)) (lv' := [(0, .int y8), (1, .int (((if ((x0 ^^^ (-1)) &&& (x0 - 1)) ≤ 65536 then 1 else (1 + 16) : Int32) + 4) + 2))]) dJ6_numberOfTrailingZeros_0f7a4_67 1 rfl (by rfl) (by decide) rfl ?_
            refine g_iload_n dJ6_numberOfTrailingZeros_0f7a4_70 rfl 0 rfl ?_
            refine g_iconst (v := 2) dJ6_numberOfTrailingZeros_0f7a4_71 (by decide) ?_
            refine g_iushr dJ6_numberOfTrailingZeros_0f7a4_72 ?_
            refine g_istore_n (lv' := [(0, .int (ius y8 2)), (1, .int (((if ((x0 ^^^ (-1)) &&& (x0 - 1)) ≤ 65536 then 1 else (1 + 16) : Int32) + 4) + 2))]) dJ6_numberOfTrailingZeros_0f7a4_73 rfl (by decide) rfl ?_
            first | (simp only [if_neg c10] at KJ; exact KJ) | (simp only [if_neg c10, ite_true, ite_false, eq_self] at KJ; exact KJ) | (simp only [if_neg c10] at KJ ⊢; exact KJ) | exact KJ
      · replace K := K.2 c3
        refine g_iinc (v := ((if ((x0 ^^^ (-1)) &&& (x0 - 1)) ≤ 65536 then 1 else (1 + 16) : Int32) + 8)) (lv' := [(0, .int (if ((x0 ^^^ (-1)) &&& (x0 - 1)) ≤ 65536 then ((x0 ^^^ (-1)) &&& (x0 - 1)) else (ius ((x0 ^^^ (-1)) &&& (x0 - 1)) 16) : Int32)), (1, .int ((if ((x0 ^^^ (-1)) &&& (x0 - 1)) ≤ 65536 then 1 else (1 + 16) : Int32) + 8))]) dJ6_numberOfTrailingZeros_0f7a4_41 1 rfl (by rfl) (by decide) rfl ?_
        refine g_iload_n dJ6_numberOfTrailingZeros_0f7a4_44 rfl 0 rfl ?_
        refine g_bipush (v := 8) dJ6_numberOfTrailingZeros_0f7a4_45 (by decide) ?_
        refine g_iushr dJ6_numberOfTrailingZeros_0f7a4_47 ?_
        refine g_nmI (fun y11 e12 => ?_)
        replace K := K y11 e12
        refine g_istore_n (lv' := [(0, .int y11), (1, .int ((if ((x0 ^^^ (-1)) &&& (x0 - 1)) ≤ 65536 then 1 else (1 + 16) : Int32) + 8))]) dJ6_numberOfTrailingZeros_0f7a4_48 rfl (by decide) rfl ?_
        refine g_iload_n dJ6_numberOfTrailingZeros_0f7a4_49 rfl 0 rfl ?_
        refine g_bipush (v := 16) dJ6_numberOfTrailingZeros_0f7a4_50 (by decide) ?_
        have KJ : Gm l x mJ6_numberOfTrailingZeros_0f7a4 0 62 [(0, .int (if y11 ≤ 16 then y11 else (ius y11 4) : Int32)), (1, .int (if y11 ≤ 16 then ((if ((x0 ^^^ (-1)) &&& (x0 - 1)) ≤ 65536 then 1 else (1 + 16) : Int32) + 8) else (((if ((x0 ^^^ (-1)) &&& (x0 - 1)) ≤ 65536 then 1 else (1 + 16) : Int32) + 8) + 4) : Int32))] [] h rc rs n0 Q X := by
          refine g_iload_n dJ6_numberOfTrailingZeros_0f7a4_62 rfl 0 rfl ?_
          refine g_iconst (v := 4) dJ6_numberOfTrailingZeros_0f7a4_63 (by decide) ?_
          refine g_icmp_le (tgt := 74) dJ6_numberOfTrailingZeros_0f7a4_64 (by decide) (fun c14 => ?_) (fun c14 => ?_)
          · replace K := K.1 c14
            refine g_iload_n dJ6_numberOfTrailingZeros_0f7a4_74 rfl 1 rfl ?_
            refine g_iload_n dJ6_numberOfTrailingZeros_0f7a4_75 rfl 0 rfl ?_
            refine g_iconst (v := 1) dJ6_numberOfTrailingZeros_0f7a4_76 (by decide) ?_
            refine g_iushr dJ6_numberOfTrailingZeros_0f7a4_77 ?_
            refine g_iadd dJ6_numberOfTrailingZeros_0f7a4_78 ?_
            exact g_iret dJ6_numberOfTrailingZeros_0f7a4_79 rfl K
          · replace K := K.2 c14
            refine g_iinc (v := ((if y11 ≤ 16 then ((if ((x0 ^^^ (-1)) &&& (x0 - 1)) ≤ 65536 then 1 else (1 + 16) : Int32) + 8) else (((if ((x0 ^^^ (-1)) &&& (x0 - 1)) ≤ 65536 then 1 else (1 + 16) : Int32) + 8) + 4) : Int32) + 2)) (lv' := [(0, .int (if y11 ≤ 16 then y11 else (ius y11 4) : Int32)), (1, .int ((if y11 ≤ 16 then ((if ((x0 ^^^ (-1)) &&& (x0 - 1)) ≤ 65536 then 1 else (1 + 16) : Int32) + 8) else (((if ((x0 ^^^ (-1)) &&& (x0 - 1)) ≤ 65536 then 1 else (1 + 16) : Int32) + 8) + 4) : Int32) + 2))]) dJ6_numberOfTrailingZeros_0f7a4_67 1 rfl (by rfl) (by decide) rfl ?_
            refine g_iload_n dJ6_numberOfTrailingZeros_0f7a4_70 rfl 0 rfl ?_
            refine g_iconst (v := 2) dJ6_numberOfTrailingZeros_0f7a4_71 (by decide) ?_
            refine g_iushr dJ6_numberOfTrailingZeros_0f7a4_72 ?_
            refine g_istore_n (lv' := [(0, .int (ius (if y11 ≤ 16 then y11 else (ius y11 4) : Int32) 2)), (1, .int ((if y11 ≤ 16 then ((if ((x0 ^^^ (-1)) &&& (x0 - 1)) ≤ 65536 then 1 else (1 + 16) : Int32) + 8) else (((if ((x0 ^^^ (-1)) &&& (x0 - 1)) ≤ 65536 then 1 else (1 + 16) : Int32) + 8) + 4) : Int32) + 2))]) dJ6_numberOfTrailingZeros_0f7a4_73 rfl (by decide) rfl ?_
            refine g_iload_n dJ6_numberOfTrailingZeros_0f7a4_74 rfl 1 rfl ?_
            refine g_iload_n dJ6_numberOfTrailingZeros_0f7a4_75 rfl 0 rfl ?_
            refine g_iconst (v := 1) dJ6_numberOfTrailingZeros_0f7a4_76 (by decide) ?_
            refine g_iushr dJ6_numberOfTrailingZeros_0f7a4_77 ?_
            refine g_iadd dJ6_numberOfTrailingZeros_0f7a4_78 ?_
            exact g_iret dJ6_numberOfTrailingZeros_0f7a4_79 rfl K
        refine g_icmp_le (tgt := 62) dJ6_numberOfTrailingZeros_0f7a4_52 (by decide) (fun c13 => ?_) (fun c13 => ?_)
        · first | (simp only [if_pos c13] at KJ; exact KJ) | (simp only [if_pos c13, ite_true, ite_false, eq_self] at KJ; exact KJ) | (simp only [if_pos c13] at KJ ⊢; exact KJ) | exact KJ
        · refine g_iinc (v := (((if ((x0 ^^^ (-1)) &&& (x0 - 1)) ≤ 65536 then 1 else (1 + 16) : Int32) + 8) + 4)) (lv' := [(0, .int y11), (1, .int (((if ((x0 ^^^ (-1)) &&& (x0 - 1)) ≤ 65536 then 1 else (1 + 16) : Int32) + 8) + 4))]) dJ6_numberOfTrailingZeros_0f7a4_55 1 rfl (by rfl) (by decide) rfl ?_
          refine g_iload_n dJ6_numberOfTrailingZeros_0f7a4_58 rfl 0 rfl ?_
          refine g_iconst (v := 4) dJ6_numberOfTrailingZeros_0f7a4_59 (by decide) ?_
          refine g_iushr dJ6_numberOfTrailingZeros_0f7a4_60 ?_
          refine g_istore_n (lv' := [(0, .int (ius y11 4)), (1, .int (((if ((x0 ^^^ (-1)) &&& (x0 - 1)) ≤ 65536 then 1 else (1 + 16) : Int32) + 8) + 4))]) dJ6_numberOfTrailingZeros_0f7a4_61 rfl (by decide) rfl ?_
          first | (simp only [if_neg c13] at KJ; exact KJ) | (simp only [if_neg c13, ite_true, ite_false, eq_self] at KJ; exact KJ) | (simp only [if_neg c13] at KJ ⊢; exact KJ) | exact KJ
    refine g_icmp_le (tgt := 34) dJ6_numberOfTrailingZeros_0f7a4_23 (by decide) (fun c2 => ?_) (fun c2 => ?_)
    · first | (simp only [if_pos c2] at KJ; exact KJ) | (simp only [if_pos c2, ite_true, ite_false, eq_self] at KJ; exact KJ) | (simp only [if_pos c2] at KJ ⊢; exact KJ) | exact KJ
    · refine g_iinc (v := (1 + 16)) (lv' := [(0, .int ((x0 ^^^ (-1)) &&& (x0 - 1))), (1, .int (1 + 16))]) dJ6_numberOfTrailingZeros_0f7a4_26 1 rfl (by rfl) (by decide) rfl ?_
      refine g_iload_n dJ6_numberOfTrailingZeros_0f7a4_29 rfl 0 rfl ?_
      refine g_bipush (v := 16) dJ6_numberOfTrailingZeros_0f7a4_30 (by decide) ?_
      refine g_iushr dJ6_numberOfTrailingZeros_0f7a4_32 ?_
      refine g_istore_n (lv' := [(0, .int (ius ((x0 ^^^ (-1)) &&& (x0 - 1)) 16)), (1, .int (1 + 16))]) dJ6_numberOfTrailingZeros_0f7a4_33 rfl (by decide) rfl ?_
      first | (simp only [if_neg c2] at KJ; exact KJ) | (simp only [if_neg c2, ite_true, ite_false, eq_self] at KJ; exact KJ) | (simp only [if_neg c2] at KJ ⊢; exact KJ) | exact KJ
  · replace K := K.2 c1
    refine g_iload_n dJ6_numberOfTrailingZeros_0f7a4_12 rfl 0 rfl ?_
    refine g_bipush (v := 32) dJ6_numberOfTrailingZeros_0f7a4_13 (by decide) ?_
    refine g_iand dJ6_numberOfTrailingZeros_0f7a4_15 ?_
    exact g_iret dJ6_numberOfTrailingZeros_0f7a4_16 rfl K
theorem dJ6_bitCount_0f7a4_0 : decode cJ6_bitCount_0f7a4 0 = .ok (.iload_n 0, 1) := by decide +kernel
theorem dJ6_bitCount_0f7a4_1 : decode cJ6_bitCount_0f7a4 1 = .ok (.iload_n 0, 1) := by decide +kernel
theorem dJ6_bitCount_0f7a4_2 : decode cJ6_bitCount_0f7a4 2 = .ok (.iconst 1, 1) := by decide +kernel
theorem dJ6_bitCount_0f7a4_3 : decode cJ6_bitCount_0f7a4 3 = .ok (.iushr, 1) := by decide +kernel
theorem dJ6_bitCount_0f7a4_4 : decode cJ6_bitCount_0f7a4 4 = .ok (.ldc_w 265, 3) := by decide +kernel
theorem dJ6_bitCount_0f7a4_7 : decode cJ6_bitCount_0f7a4 7 = .ok (.iand, 1) := by decide +kernel
theorem dJ6_bitCount_0f7a4_8 : decode cJ6_bitCount_0f7a4 8 = .ok (.isub, 1) := by decide +kernel
theorem dJ6_bitCount_0f7a4_9 : decode cJ6_bitCount_0f7a4 9 = .ok (.istore_n 0, 1) := by decide +kernel
theorem dJ6_bitCount_0f7a4_10 : decode cJ6_bitCount_0f7a4 10 = .ok (.iload_n 0, 1) := by decide +kernel
theorem dJ6_bitCount_0f7a4_11 : decode cJ6_bitCount_0f7a4 11 = .ok (.ldc_w 266, 3) := by decide +kernel
theorem dJ6_bitCount_0f7a4_14 : decode cJ6_bitCount_0f7a4 14 = .ok (.iand, 1) := by decide +kernel
theorem dJ6_bitCount_0f7a4_15 : decode cJ6_bitCount_0f7a4 15 = .ok (.iload_n 0, 1) := by decide +kernel
theorem dJ6_bitCount_0f7a4_16 : decode cJ6_bitCount_0f7a4 16 = .ok (.iconst 2, 1) := by decide +kernel
theorem dJ6_bitCount_0f7a4_17 : decode cJ6_bitCount_0f7a4 17 = .ok (.iushr, 1) := by decide +kernel
theorem dJ6_bitCount_0f7a4_18 : decode cJ6_bitCount_0f7a4 18 = .ok (.ldc_w 266, 3) := by decide +kernel
theorem dJ6_bitCount_0f7a4_21 : decode cJ6_bitCount_0f7a4 21 = .ok (.iand, 1) := by decide +kernel
theorem dJ6_bitCount_0f7a4_22 : decode cJ6_bitCount_0f7a4 22 = .ok (.iadd, 1) := by decide +kernel
theorem dJ6_bitCount_0f7a4_23 : decode cJ6_bitCount_0f7a4 23 = .ok (.istore_n 0, 1) := by decide +kernel
theorem dJ6_bitCount_0f7a4_24 : decode cJ6_bitCount_0f7a4 24 = .ok (.iload_n 0, 1) := by decide +kernel
theorem dJ6_bitCount_0f7a4_25 : decode cJ6_bitCount_0f7a4 25 = .ok (.iload_n 0, 1) := by decide +kernel
theorem dJ6_bitCount_0f7a4_26 : decode cJ6_bitCount_0f7a4 26 = .ok (.iconst 4, 1) := by decide +kernel
theorem dJ6_bitCount_0f7a4_27 : decode cJ6_bitCount_0f7a4 27 = .ok (.iushr, 1) := by decide +kernel
theorem dJ6_bitCount_0f7a4_28 : decode cJ6_bitCount_0f7a4 28 = .ok (.iadd, 1) := by decide +kernel
theorem dJ6_bitCount_0f7a4_29 : decode cJ6_bitCount_0f7a4 29 = .ok (.ldc_w 267, 3) := by decide +kernel
theorem dJ6_bitCount_0f7a4_32 : decode cJ6_bitCount_0f7a4 32 = .ok (.iand, 1) := by decide +kernel
theorem dJ6_bitCount_0f7a4_33 : decode cJ6_bitCount_0f7a4 33 = .ok (.istore_n 0, 1) := by decide +kernel
theorem dJ6_bitCount_0f7a4_34 : decode cJ6_bitCount_0f7a4 34 = .ok (.iload_n 0, 1) := by decide +kernel
theorem dJ6_bitCount_0f7a4_35 : decode cJ6_bitCount_0f7a4 35 = .ok (.iload_n 0, 1) := by decide +kernel
theorem dJ6_bitCount_0f7a4_36 : decode cJ6_bitCount_0f7a4 36 = .ok (.bipush 8, 2) := by decide +kernel
theorem dJ6_bitCount_0f7a4_38 : decode cJ6_bitCount_0f7a4 38 = .ok (.iushr, 1) := by decide +kernel
theorem dJ6_bitCount_0f7a4_39 : decode cJ6_bitCount_0f7a4 39 = .ok (.iadd, 1) := by decide +kernel
theorem dJ6_bitCount_0f7a4_40 : decode cJ6_bitCount_0f7a4 40 = .ok (.istore_n 0, 1) := by decide +kernel
theorem dJ6_bitCount_0f7a4_41 : decode cJ6_bitCount_0f7a4 41 = .ok (.iload_n 0, 1) := by decide +kernel
theorem dJ6_bitCount_0f7a4_42 : decode cJ6_bitCount_0f7a4 42 = .ok (.iload_n 0, 1) := by decide +kernel
theorem dJ6_bitCount_0f7a4_43 : decode cJ6_bitCount_0f7a4 43 = .ok (.bipush 16, 2) := by decide +kernel
theorem dJ6_bitCount_0f7a4_45 : decode cJ6_bitCount_0f7a4 45 = .ok (.iushr, 1) := by decide +kernel
theorem dJ6_bitCount_0f7a4_46 : decode cJ6_bitCount_0f7a4 46 = .ok (.iadd, 1) := by decide +kernel
theorem dJ6_bitCount_0f7a4_47 : decode cJ6_bitCount_0f7a4 47 = .ok (.istore_n 0, 1) := by decide +kernel
theorem dJ6_bitCount_0f7a4_48 : decode cJ6_bitCount_0f7a4 48 = .ok (.iload_n 0, 1) := by decide +kernel
theorem dJ6_bitCount_0f7a4_49 : decode cJ6_bitCount_0f7a4 49 = .ok (.bipush 63, 2) := by decide +kernel
theorem dJ6_bitCount_0f7a4_51 : decode cJ6_bitCount_0f7a4 51 = .ok (.iand, 1) := by decide +kernel
theorem dJ6_bitCount_0f7a4_52 : decode cJ6_bitCount_0f7a4 52 = .ok (.ireturn, 1) := by decide +kernel
set_option maxRecDepth 20000 in
set_option maxHeartbeats 4000000 in
theorem vJ6_bitCount_0f7a4_0 {l : Launch} {x : CX} {x0 : Int32} {h : PH} {rc rs n0 : Nat} {Q : Option Value → PH → Prop} {X : String → PH → Prop}
    (K : ∀ (y1 : Int32), y1 = (((x0 - ((ius x0 1) &&& 1431655765)) &&& 858993459) + ((ius (x0 - ((ius x0 1) &&& 1431655765)) 2) &&& 858993459)) → ∀ (y3 : Int32), y3 = (((y1 + (ius y1 4)) &&& 252645135) + (ius ((y1 + (ius y1 4)) &&& 252645135) 8)) → Q (some (.int ((y3 + (ius y3 16)) &&& 63))) h) :
    Gm l x mJ6_bitCount_0f7a4 0 0 [(0, .int x0)] [] h rc rs n0 Q X := by
  refine g_iload_n dJ6_bitCount_0f7a4_0 rfl 0 rfl ?_
  refine g_iload_n dJ6_bitCount_0f7a4_1 rfl 0 rfl ?_
  refine g_iconst (v := 1) dJ6_bitCount_0f7a4_2 (by decide) ?_
  refine g_iushr dJ6_bitCount_0f7a4_3 ?_
  refine g_ldcw (v := 1431655765) dJ6_bitCount_0f7a4_4 bw_492 ?_
  refine g_iand dJ6_bitCount_0f7a4_7 ?_
  refine g_isub dJ6_bitCount_0f7a4_8 ?_
  refine g_istore_n (lv' := [(0, .int (x0 - ((ius x0 1) &&& 1431655765)))]) dJ6_bitCount_0f7a4_9 rfl (by decide) rfl ?_
  refine g_iload_n dJ6_bitCount_0f7a4_10 rfl 0 rfl ?_
  refine g_ldcw (v := 858993459) dJ6_bitCount_0f7a4_11 bw_493 ?_
  refine g_iand dJ6_bitCount_0f7a4_14 ?_
  refine g_iload_n dJ6_bitCount_0f7a4_15 rfl 0 rfl ?_
  refine g_iconst (v := 2) dJ6_bitCount_0f7a4_16 (by decide) ?_
  refine g_iushr dJ6_bitCount_0f7a4_17 ?_
  refine g_ldcw (v := 858993459) dJ6_bitCount_0f7a4_18 bw_493 ?_
  refine g_iand dJ6_bitCount_0f7a4_21 ?_
  refine g_iadd dJ6_bitCount_0f7a4_22 ?_
  refine g_nmI (fun y1 e2 => ?_)
  replace K := K y1 e2
  refine g_istore_n (lv' := [(0, .int y1)]) dJ6_bitCount_0f7a4_23 rfl (by decide) rfl ?_
  refine g_iload_n dJ6_bitCount_0f7a4_24 rfl 0 rfl ?_
  refine g_iload_n dJ6_bitCount_0f7a4_25 rfl 0 rfl ?_
  refine g_iconst (v := 4) dJ6_bitCount_0f7a4_26 (by decide) ?_
  refine g_iushr dJ6_bitCount_0f7a4_27 ?_
  refine g_iadd dJ6_bitCount_0f7a4_28 ?_
  refine g_ldcw (v := 252645135) dJ6_bitCount_0f7a4_29 bw_494 ?_
  refine g_iand dJ6_bitCount_0f7a4_32 ?_
  refine g_istore_n (lv' := [(0, .int ((y1 + (ius y1 4)) &&& 252645135))]) dJ6_bitCount_0f7a4_33 rfl (by decide) rfl ?_
  refine g_iload_n dJ6_bitCount_0f7a4_34 rfl 0 rfl ?_
  refine g_iload_n dJ6_bitCount_0f7a4_35 rfl 0 rfl ?_
  refine g_bipush (v := 8) dJ6_bitCount_0f7a4_36 (by decide) ?_
  refine g_iushr dJ6_bitCount_0f7a4_38 ?_
  refine g_iadd dJ6_bitCount_0f7a4_39 ?_
  refine g_nmI (fun y3 e4 => ?_)
  replace K := K y3 e4
  refine g_istore_n (lv' := [(0, .int y3)]) dJ6_bitCount_0f7a4_40 rfl (by decide) rfl ?_
  refine g_iload_n dJ6_bitCount_0f7a4_41 rfl 0 rfl ?_
  refine g_iload_n dJ6_bitCount_0f7a4_42 rfl 0 rfl ?_
  refine g_bipush (v := 16) dJ6_bitCount_0f7a4_43 (by decide) ?_
  refine g_iushr dJ6_bitCount_0f7a4_45 ?_
  refine g_iadd dJ6_bitCount_0f7a4_46 ?_
  refine g_istore_n (lv' := [(0, .int (y3 + (ius y3 16)))]) dJ6_bitCount_0f7a4_47 rfl (by decide) rfl ?_
  refine g_iload_n dJ6_bitCount_0f7a4_48 rfl 0 rfl ?_
  refine g_bipush (v := 63) dJ6_bitCount_0f7a4_49 (by decide) ?_
  refine g_iand dJ6_bitCount_0f7a4_51 ?_
  exact g_iret dJ6_bitCount_0f7a4_52 rfl K
theorem dJ13_numberOfTrailingZeros_95d88_0 : decode cJ13_numberOfTrailingZeros_95d88 0 = .ok (.lload_n 0, 1) := by decide +kernel
theorem dJ13_numberOfTrailingZeros_95d88_1 : decode cJ13_numberOfTrailingZeros_95d88 1 = .ok (.l2i, 1) := by decide +kernel
theorem dJ13_numberOfTrailingZeros_95d88_2 : decode cJ13_numberOfTrailingZeros_95d88 2 = .ok (.istore_n 2, 1) := by decide +kernel
theorem dJ13_numberOfTrailingZeros_95d88_3 : decode cJ13_numberOfTrailingZeros_95d88 3 = .ok (.iload_n 2, 1) := by decide +kernel
theorem dJ13_numberOfTrailingZeros_95d88_4 : decode cJ13_numberOfTrailingZeros_95d88 4 = .ok (.ifCond .ne 17, 3) := by decide +kernel
theorem dJ13_numberOfTrailingZeros_95d88_7 : decode cJ13_numberOfTrailingZeros_95d88 7 = .ok (.bipush 32, 2) := by decide +kernel
theorem dJ13_numberOfTrailingZeros_95d88_9 : decode cJ13_numberOfTrailingZeros_95d88 9 = .ok (.lload_n 0, 1) := by decide +kernel
theorem dJ13_numberOfTrailingZeros_95d88_10 : decode cJ13_numberOfTrailingZeros_95d88 10 = .ok (.bipush 32, 2) := by decide +kernel
theorem dJ13_numberOfTrailingZeros_95d88_12 : decode cJ13_numberOfTrailingZeros_95d88 12 = .ok (.lushr, 1) := by decide +kernel
theorem dJ13_numberOfTrailingZeros_95d88_13 : decode cJ13_numberOfTrailingZeros_95d88 13 = .ok (.l2i, 1) := by decide +kernel
theorem dJ13_numberOfTrailingZeros_95d88_14 : decode cJ13_numberOfTrailingZeros_95d88 14 = .ok (.invokestatic 311, 3) := by decide +kernel
theorem dJ13_numberOfTrailingZeros_95d88_17 : decode cJ13_numberOfTrailingZeros_95d88 17 = .ok (.iadd, 1) := by decide +kernel
theorem dJ13_numberOfTrailingZeros_95d88_18 : decode cJ13_numberOfTrailingZeros_95d88 18 = .ok (.goto 7, 3) := by decide +kernel
theorem dJ13_numberOfTrailingZeros_95d88_21 : decode cJ13_numberOfTrailingZeros_95d88 21 = .ok (.iload_n 2, 1) := by decide +kernel
theorem dJ13_numberOfTrailingZeros_95d88_22 : decode cJ13_numberOfTrailingZeros_95d88 22 = .ok (.invokestatic 311, 3) := by decide +kernel
theorem dJ13_numberOfTrailingZeros_95d88_25 : decode cJ13_numberOfTrailingZeros_95d88 25 = .ok (.ireturn, 1) := by decide +kernel
set_option maxRecDepth 20000 in
set_option maxHeartbeats 4000000 in
theorem vJ13_numberOfTrailingZeros_95d88_0 {l : Launch} {x : CX} {l0 : Int64} {h : PH} {rc rs n0 : Nat} {Q : Option Value → PH → Prop} {X : String → PH → Prop}
    (K : ((¬ l0.toInt32 = 0 → ∃ (q2 : Int32 → PH → Prop), CI l x mJ6_numberOfTrailingZeros_0f7a4 0 0 0 [.int l0.toInt32] h q2 ∧ ∀ (r5 : Int32) (h4 : PH), q2 r5 h4 → Q (some (.int r5)) h4) ∧ (l0.toInt32 = 0 → ∃ (q6 : Int32 → PH → Prop), CI l x mJ6_numberOfTrailingZeros_0f7a4 0 0 0 [.int (lus l0 32).toInt32] h q6 ∧ ∀ (r9 : Int32) (h8 : PH), q6 r9 h8 → Q (some (.int (32 + r9))) h8))) :
    Gm l x mJ13_numberOfTrailingZeros_95d88 1 0 [(0, .long l0)] [] h rc rs n0 Q X := by
  refine g_lload_n dJ13_numberOfTrailingZeros_95d88_0 rfl 0 rfl ?_
  refine g_l2i dJ13_numberOfTrailingZeros_95d88_1 ?_
  refine g_istore_n (lv' := [(0, .long l0), (2, .int l0.toInt32)]) dJ13_numberOfTrailingZeros_95d88_2 rfl (by decide) rfl ?_
  refine g_iload_n dJ13_numberOfTrailingZeros_95d88_3 rfl 1 rfl ?_
  refine g_if_ne (tgt := 21) dJ13_numberOfTrailingZeros_95d88_4 (by decide) (fun c1 => ?_) (fun c1 => ?_)
  · replace K := K.1 c1
    refine g_iload_n dJ13_numberOfTrailingZeros_95d88_21 rfl 1 rfl ?_
    obtain ⟨q2, C3, K⟩ := K
    refine g_callS (M' := mJ6_numberOfTrailingZeros_0f7a4) (As := [.int l0.toInt32]) (rest := []) (rc' := rc) (rs' := rs) dJ13_numberOfTrailingZeros_95d88_22 bw_1127 bw_1128 bw_21 bw_1129 ⟨by decide +kernel, by decide +kernel, show (parseMethodDescriptor mJ6_numberOfTrailingZeros_0f7a4.1.desc).map (fun d => d.parameters.length) = some 1 by decide +kernel⟩ (by decide) (by decide) (Nat.le_of_ble_eq_true rfl) C3 (Nat.le_of_eq (Nat.add_zero _)) (Nat.le_of_eq (Nat.add_zero _)) (fun _ _ h => h) ?_
    rintro _ h4 ⟨r5, rfl, K1⟩ -
    replace K := K r5 h4 K1
    show Gm l x mJ13_numberOfTrailingZeros_95d88 1 25 [(0, .long l0), (2, .int l0.toInt32)] [.int r5] h4 rc rs n0 Q X
    exact g_iret dJ13_numberOfTrailingZeros_95d88_25 rfl K
  · replace K := K.2 c1
    refine g_bipush (v := 32) dJ13_numberOfTrailingZeros_95d88_7 (by decide) ?_
    refine g_lload_n dJ13_numberOfTrailingZeros_95d88_9 rfl 0 rfl ?_
    refine g_bipush (v := 32) dJ13_numberOfTrailingZeros_95d88_10 (by decide) ?_
    refine g_lushr dJ13_numberOfTrailingZeros_95d88_12 ?_
    refine g_l2i dJ13_numberOfTrailingZeros_95d88_13 ?_
    obtain ⟨q6, C7, K⟩ := K
    refine g_callS (M' := mJ6_numberOfTrailingZeros_0f7a4) (As := [.int (lus l0 32).toInt32]) (rest := [.int 32]) (rc' := rc) (rs' := rs) dJ13_numberOfTrailingZeros_95d88_14 bw_1127 bw_1128 bw_21 bw_1129 ⟨by decide +kernel, by decide +kernel, show (parseMethodDescriptor mJ6_numberOfTrailingZeros_0f7a4.1.desc).map (fun d => d.parameters.length) = some 1 by decide +kernel⟩ (by decide) (by decide) (Nat.le_of_ble_eq_true rfl) C7 (Nat.le_of_eq (Nat.add_zero _)) (Nat.le_of_eq (Nat.add_zero _)) (fun _ _ h => h) ?_
    rintro _ h8 ⟨r9, rfl, K1⟩ -
    replace K := K r9 h8 K1
    show Gm l x mJ13_numberOfTrailingZeros_95d88 1 17 [(0, .long l0), (2, .int l0.toInt32)] [.int r9, .int 32] h8 rc rs n0 Q X
    refine g_iadd dJ13_numberOfTrailingZeros_95d88_17 ?_
    refine g_goto (tgt := 25) dJ13_numberOfTrailingZeros_95d88_18 (by decide) ?_
    exact g_iret dJ13_numberOfTrailingZeros_95d88_25 rfl K
theorem dJ13_bitCount_95d88_0 : decode cJ13_bitCount_95d88 0 = .ok (.lload_n 0, 1) := by decide +kernel
theorem dJ13_bitCount_95d88_1 : decode cJ13_bitCount_95d88 1 = .ok (.lload_n 0, 1) := by decide +kernel
theorem dJ13_bitCount_95d88_2 : decode cJ13_bitCount_95d88 2 = .ok (.iconst 1, 1) := by decide +kernel
theorem dJ13_bitCount_95d88_3 : decode cJ13_bitCount_95d88 3 = .ok (.lushr, 1) := by decide +kernel
theorem dJ13_bitCount_95d88_4 : decode cJ13_bitCount_95d88 4 = .ok (.ldc2_w 314, 3) := by decide +kernel
theorem dJ13_bitCount_95d88_7 : decode cJ13_bitCount_95d88 7 = .ok (.land, 1) := by decide +kernel
theorem dJ13_bitCount_95d88_8 : decode cJ13_bitCount_95d88 8 = .ok (.lsub, 1) := by decide +kernel
theorem dJ13_bitCount_95d88_9 : decode cJ13_bitCount_95d88 9 = .ok (.lstore_n 0, 1) := by decide +kernel
theorem dJ13_bitCount_95d88_10 : decode cJ13_bitCount_95d88 10 = .ok (.lload_n 0, 1) := by decide +kernel
theorem dJ13_bitCount_95d88_11 : decode cJ13_bitCount_95d88 11 = .ok (.ldc2_w 316, 3) := by decide +kernel
theorem dJ13_bitCount_95d88_14 : decode cJ13_bitCount_95d88 14 = .ok (.land, 1) := by decide +kernel
theorem dJ13_bitCount_95d88_15 : decode cJ13_bitCount_95d88 15 = .ok (.lload_n 0, 1) := by decide +kernel
theorem dJ13_bitCount_95d88_16 : decode cJ13_bitCount_95d88 16 = .ok (.iconst 2, 1) := by decide +kernel
theorem dJ13_bitCount_95d88_17 : decode cJ13_bitCount_95d88 17 = .ok (.lushr, 1) := by decide +kernel
theorem dJ13_bitCount_95d88_18 : decode cJ13_bitCount_95d88 18 = .ok (.ldc2_w 316, 3) := by decide +kernel
theorem dJ13_bitCount_95d88_21 : decode cJ13_bitCount_95d88 21 = .ok (.land, 1) := by decide +kernel
theorem dJ13_bitCount_95d88_22 : decode cJ13_bitCount_95d88 22 = .ok (.ladd, 1) := by decide +kernel
theorem dJ13_bitCount_95d88_23 : decode cJ13_bitCount_95d88 23 = .ok (.lstore_n 0, 1) := by decide +kernel
theorem dJ13_bitCount_95d88_24 : decode cJ13_bitCount_95d88 24 = .ok (.lload_n 0, 1) := by decide +kernel
theorem dJ13_bitCount_95d88_25 : decode cJ13_bitCount_95d88 25 = .ok (.lload_n 0, 1) := by decide +kernel
theorem dJ13_bitCount_95d88_26 : decode cJ13_bitCount_95d88 26 = .ok (.iconst 4, 1) := by decide +kernel
theorem dJ13_bitCount_95d88_27 : decode cJ13_bitCount_95d88 27 = .ok (.lushr, 1) := by decide +kernel
theorem dJ13_bitCount_95d88_28 : decode cJ13_bitCount_95d88 28 = .ok (.ladd, 1) := by decide +kernel
theorem dJ13_bitCount_95d88_29 : decode cJ13_bitCount_95d88 29 = .ok (.ldc2_w 318, 3) := by decide +kernel
theorem dJ13_bitCount_95d88_32 : decode cJ13_bitCount_95d88 32 = .ok (.land, 1) := by decide +kernel
theorem dJ13_bitCount_95d88_33 : decode cJ13_bitCount_95d88 33 = .ok (.lstore_n 0, 1) := by decide +kernel
theorem dJ13_bitCount_95d88_34 : decode cJ13_bitCount_95d88 34 = .ok (.lload_n 0, 1) := by decide +kernel
theorem dJ13_bitCount_95d88_35 : decode cJ13_bitCount_95d88 35 = .ok (.lload_n 0, 1) := by decide +kernel
theorem dJ13_bitCount_95d88_36 : decode cJ13_bitCount_95d88 36 = .ok (.bipush 8, 2) := by decide +kernel
theorem dJ13_bitCount_95d88_38 : decode cJ13_bitCount_95d88 38 = .ok (.lushr, 1) := by decide +kernel
theorem dJ13_bitCount_95d88_39 : decode cJ13_bitCount_95d88 39 = .ok (.ladd, 1) := by decide +kernel
theorem dJ13_bitCount_95d88_40 : decode cJ13_bitCount_95d88 40 = .ok (.lstore_n 0, 1) := by decide +kernel
theorem dJ13_bitCount_95d88_41 : decode cJ13_bitCount_95d88 41 = .ok (.lload_n 0, 1) := by decide +kernel
theorem dJ13_bitCount_95d88_42 : decode cJ13_bitCount_95d88 42 = .ok (.lload_n 0, 1) := by decide +kernel
theorem dJ13_bitCount_95d88_43 : decode cJ13_bitCount_95d88 43 = .ok (.bipush 16, 2) := by decide +kernel
theorem dJ13_bitCount_95d88_45 : decode cJ13_bitCount_95d88 45 = .ok (.lushr, 1) := by decide +kernel
theorem dJ13_bitCount_95d88_46 : decode cJ13_bitCount_95d88 46 = .ok (.ladd, 1) := by decide +kernel
theorem dJ13_bitCount_95d88_47 : decode cJ13_bitCount_95d88 47 = .ok (.lstore_n 0, 1) := by decide +kernel
theorem dJ13_bitCount_95d88_48 : decode cJ13_bitCount_95d88 48 = .ok (.lload_n 0, 1) := by decide +kernel
theorem dJ13_bitCount_95d88_49 : decode cJ13_bitCount_95d88 49 = .ok (.lload_n 0, 1) := by decide +kernel
theorem dJ13_bitCount_95d88_50 : decode cJ13_bitCount_95d88 50 = .ok (.bipush 32, 2) := by decide +kernel
theorem dJ13_bitCount_95d88_52 : decode cJ13_bitCount_95d88 52 = .ok (.lushr, 1) := by decide +kernel
theorem dJ13_bitCount_95d88_53 : decode cJ13_bitCount_95d88 53 = .ok (.ladd, 1) := by decide +kernel
theorem dJ13_bitCount_95d88_54 : decode cJ13_bitCount_95d88 54 = .ok (.lstore_n 0, 1) := by decide +kernel
theorem dJ13_bitCount_95d88_55 : decode cJ13_bitCount_95d88 55 = .ok (.lload_n 0, 1) := by decide +kernel
theorem dJ13_bitCount_95d88_56 : decode cJ13_bitCount_95d88 56 = .ok (.l2i, 1) := by decide +kernel
theorem dJ13_bitCount_95d88_57 : decode cJ13_bitCount_95d88 57 = .ok (.bipush 127, 2) := by decide +kernel
theorem dJ13_bitCount_95d88_59 : decode cJ13_bitCount_95d88 59 = .ok (.iand, 1) := by decide +kernel
theorem dJ13_bitCount_95d88_60 : decode cJ13_bitCount_95d88 60 = .ok (.ireturn, 1) := by decide +kernel
set_option maxRecDepth 20000 in
set_option maxHeartbeats 4000000 in
theorem vJ13_bitCount_95d88_0 {l : Launch} {x : CX} {l0 : Int64} {h : PH} {rc rs n0 : Nat} {Q : Option Value → PH → Prop} {X : String → PH → Prop}
    (K : ∀ (y1 : Int64), y1 = (((l0 - ((lus l0 1) &&& 6148914691236517205)) &&& 3689348814741910323) + ((lus (l0 - ((lus l0 1) &&& 6148914691236517205)) 2) &&& 3689348814741910323)) → ∀ (y3 : Int64), y3 = (((y1 + (lus y1 4)) &&& 1085102592571150095) + (lus ((y1 + (lus y1 4)) &&& 1085102592571150095) 8)) → Q (some (.int (((y3 + (lus y3 16)) + (lus (y3 + (lus y3 16)) 32)).toInt32 &&& 127))) h) :
    Gm l x mJ13_bitCount_95d88 0 0 [(0, .long l0)] [] h rc rs n0 Q X := by
  refine g_lload_n dJ13_bitCount_95d88_0 rfl 0 rfl ?_
  refine g_lload_n dJ13_bitCount_95d88_1 rfl 0 rfl ?_
  refine g_iconst (v := 1) dJ13_bitCount_95d88_2 (by decide) ?_
  refine g_lushr dJ13_bitCount_95d88_3 ?_
  refine g_ldc2 (v := 6148914691236517205) dJ13_bitCount_95d88_4 bw_910 ?_
  refine g_land dJ13_bitCount_95d88_7 ?_
  refine g_lsub dJ13_bitCount_95d88_8 ?_
  refine g_lstore_n (lv' := [(0, .long (l0 - ((lus l0 1) &&& 6148914691236517205)))]) dJ13_bitCount_95d88_9 rfl (by decide) rfl ?_
  refine g_lload_n dJ13_bitCount_95d88_10 rfl 0 rfl ?_
  refine g_ldc2 (v := 3689348814741910323) dJ13_bitCount_95d88_11 bw_911 ?_
  refine g_land dJ13_bitCount_95d88_14 ?_
  refine g_lload_n dJ13_bitCount_95d88_15 rfl 0 rfl ?_
  refine g_iconst (v := 2) dJ13_bitCount_95d88_16 (by decide) ?_
  refine g_lushr dJ13_bitCount_95d88_17 ?_
  refine g_ldc2 (v := 3689348814741910323) dJ13_bitCount_95d88_18 bw_911 ?_
  refine g_land dJ13_bitCount_95d88_21 ?_
  refine g_ladd dJ13_bitCount_95d88_22 ?_
  refine g_nmJ (fun y1 e2 => ?_)
  replace K := K y1 e2
  refine g_lstore_n (lv' := [(0, .long y1)]) dJ13_bitCount_95d88_23 rfl (by decide) rfl ?_
  refine g_lload_n dJ13_bitCount_95d88_24 rfl 0 rfl ?_
  refine g_lload_n dJ13_bitCount_95d88_25 rfl 0 rfl ?_
  refine g_iconst (v := 4) dJ13_bitCount_95d88_26 (by decide) ?_
  refine g_lushr dJ13_bitCount_95d88_27 ?_
  refine g_ladd dJ13_bitCount_95d88_28 ?_
  refine g_ldc2 (v := 1085102592571150095) dJ13_bitCount_95d88_29 bw_912 ?_
  refine g_land dJ13_bitCount_95d88_32 ?_
  refine g_lstore_n (lv' := [(0, .long ((y1 + (lus y1 4)) &&& 1085102592571150095))]) dJ13_bitCount_95d88_33 rfl (by decide) rfl ?_
  refine g_lload_n dJ13_bitCount_95d88_34 rfl 0 rfl ?_
  refine g_lload_n dJ13_bitCount_95d88_35 rfl 0 rfl ?_
  refine g_bipush (v := 8) dJ13_bitCount_95d88_36 (by decide) ?_
  refine g_lushr dJ13_bitCount_95d88_38 ?_
  refine g_ladd dJ13_bitCount_95d88_39 ?_
  refine g_nmJ (fun y3 e4 => ?_)
  replace K := K y3 e4
  refine g_lstore_n (lv' := [(0, .long y3)]) dJ13_bitCount_95d88_40 rfl (by decide) rfl ?_
  refine g_lload_n dJ13_bitCount_95d88_41 rfl 0 rfl ?_
  refine g_lload_n dJ13_bitCount_95d88_42 rfl 0 rfl ?_
  refine g_bipush (v := 16) dJ13_bitCount_95d88_43 (by decide) ?_
  refine g_lushr dJ13_bitCount_95d88_45 ?_
  refine g_ladd dJ13_bitCount_95d88_46 ?_
  refine g_lstore_n (lv' := [(0, .long (y3 + (lus y3 16)))]) dJ13_bitCount_95d88_47 rfl (by decide) rfl ?_
  refine g_lload_n dJ13_bitCount_95d88_48 rfl 0 rfl ?_
  refine g_lload_n dJ13_bitCount_95d88_49 rfl 0 rfl ?_
  refine g_bipush (v := 32) dJ13_bitCount_95d88_50 (by decide) ?_
  refine g_lushr dJ13_bitCount_95d88_52 ?_
  refine g_ladd dJ13_bitCount_95d88_53 ?_
  refine g_lstore_n (lv' := [(0, .long ((y3 + (lus y3 16)) + (lus (y3 + (lus y3 16)) 32)))]) dJ13_bitCount_95d88_54 rfl (by decide) rfl ?_
  refine g_lload_n dJ13_bitCount_95d88_55 rfl 0 rfl ?_
  refine g_l2i dJ13_bitCount_95d88_56 ?_
  refine g_bipush (v := 127) dJ13_bitCount_95d88_57 (by decide) ?_
  refine g_iand dJ13_bitCount_95d88_59 ?_
  exact g_iret dJ13_bitCount_95d88_60 rfl K
