/-! STEPS, printed by program: M4 -/
theorem dX8_endsAnew_0 : decode cX8_endsAnew 0 = .ok (.aload_n 0, 1) := by decide +kernel
theorem dX8_endsAnew_1 : decode cX8_endsAnew 1 = .ok (.aload_n 0, 1) := by decide +kernel
theorem dX8_endsAnew_2 : decode cX8_endsAnew 2 = .ok (.getfield 29, 3) := by decide +kernel
theorem dX8_endsAnew_5 : decode cX8_endsAnew 5 = .ok (.iconst 2, 1) := by decide +kernel
theorem dX8_endsAnew_6 : decode cX8_endsAnew 6 = .ok (.iaload, 1) := by decide +kernel
theorem dX8_endsAnew_7 : decode cX8_endsAnew 7 = .ok (.aload_n 0, 1) := by decide +kernel
theorem dX8_endsAnew_8 : decode cX8_endsAnew 8 = .ok (.getfield 29, 3) := by decide +kernel
theorem dX8_endsAnew_11 : decode cX8_endsAnew 11 = .ok (.iconst 3, 1) := by decide +kernel
theorem dX8_endsAnew_12 : decode cX8_endsAnew 12 = .ok (.iaload, 1) := by decide +kernel
theorem dX8_endsAnew_13 : decode cX8_endsAnew 13 = .ok (.invokevirtual 356, 3) := by decide +kernel
theorem dX8_endsAnew_16 : decode cX8_endsAnew 16 = .ok (.aload_n 0, 1) := by decide +kernel
theorem dX8_endsAnew_17 : decode cX8_endsAnew 17 = .ok (.iload_n 1, 1) := by decide +kernel
theorem dX8_endsAnew_18 : decode cX8_endsAnew 18 = .ok (.iconst 1, 1) := by decide +kernel
theorem dX8_endsAnew_19 : decode cX8_endsAnew 19 = .ok (.aload_n 0, 1) := by decide +kernel
theorem dX8_endsAnew_20 : decode cX8_endsAnew 20 = .ok (.iload_n 1, 1) := by decide +kernel
theorem dX8_endsAnew_21 : decode cX8_endsAnew 21 = .ok (.iconst 1, 1) := by decide +kernel
theorem dX8_endsAnew_22 : decode cX8_endsAnew 22 = .ok (.invokevirtual 228, 3) := by decide +kernel
theorem dX8_endsAnew_25 : decode cX8_endsAnew 25 = .ok (.iload_n 2, 1) := by decide +kernel
theorem dX8_endsAnew_26 : decode cX8_endsAnew 26 = .ok (.iadd, 1) := by decide +kernel
theorem dX8_endsAnew_27 : decode cX8_endsAnew 27 = .ok (.invokevirtual 225, 3) := by decide +kernel
theorem dX8_endsAnew_30 : decode cX8_endsAnew 30 = .ok (.aload_n 0, 1) := by decide +kernel
theorem dX8_endsAnew_31 : decode cX8_endsAnew 31 = .ok (.sipush 200, 3) := by decide +kernel
theorem dX8_endsAnew_34 : decode cX8_endsAnew 34 = .ok (.invokevirtual 350, 3) := by decide +kernel
theorem dX8_endsAnew_37 : decode cX8_endsAnew 37 = .ok (.aload_n 0, 1) := by decide +kernel
theorem dX8_endsAnew_38 : decode cX8_endsAnew 38 = .ok (.iload_n 1, 1) := by decide +kernel
theorem dX8_endsAnew_39 : decode cX8_endsAnew 39 = .ok (.bipush 7, 2) := by decide +kernel
theorem dX8_endsAnew_41 : decode cX8_endsAnew 41 = .ok (.invokevirtual 228, 3) := by decide +kernel
theorem dX8_endsAnew_44 : decode cX8_endsAnew 44 = .ok (.istore_n 3, 1) := by decide +kernel
theorem dX8_endsAnew_45 : decode cX8_endsAnew 45 = .ok (.aload_n 0, 1) := by decide +kernel
theorem dX8_endsAnew_46 : decode cX8_endsAnew 46 = .ok (.getfield 29, 3) := by decide +kernel
theorem dX8_endsAnew_49 : decode cX8_endsAnew 49 = .ok (.aload_n 0, 1) := by decide +kernel
theorem dX8_endsAnew_50 : decode cX8_endsAnew 50 = .ok (.getfield 64, 3) := by decide +kernel
theorem dX8_endsAnew_53 : decode cX8_endsAnew 53 = .ok (.invokestatic 204, 3) := by decide +kernel
theorem dX8_endsAnew_56 : decode cX8_endsAnew 56 = .ok (.iload_n 3, 1) := by decide +kernel
theorem dX8_endsAnew_57 : decode cX8_endsAnew 57 = .ok (.ireturn, 1) := by decide +kernel
set_option maxRecDepth 20000 in
set_option maxHeartbeats 4000000 in
theorem vX8_endsAnew_0 {l : Launch} {x : CX} {a0 : Nat} {x1 : Int32} {x2 : Int32} {h : PH} {rc rs n0 : Nat} {Q : Option Value → PH → Prop} {X : String → PH → Prop}
    (K : ((hK h a0).1 = 8) ∧ ∃ b2, (hR h a0 2 = some b2) ∧ ((hK h b2).1 = 100) ∧ (vp_in 2 (hK h b2).2) ∧ (vp_in 3 (hK h b2).2) ∧ ∃ (q7 : PH → Prop), CV l x mX8_anewBegins 2 0 0 [.ref a0, .int (hI h b2 (Int32.toNatClampNeg 2)), .int (hI h b2 (Int32.toNatClampNeg 3))] h q7 ∧ ∀ (h9 : PH), q7 h9 → ((hK h9 a0).1 = 8) ∧ ∃ (q10 : Int32 → PH → Prop), CI l x mX8_of 0 0 0 [.ref a0, .int x1, .int 1] h9 q10 ∧ ∀ (r14 : Int32) (h13 : PH), q10 r14 h13 → ((hK h13 a0).1 = 8) ∧ ∃ (q15 : PH → Prop), CV l x mX8_put 0 0 0 [.ref a0, .int x1, .int 1, .int (r14 + x2)] h13 q15 ∧ ∀ (h18 : PH), q15 h18 → ((hK h18 a0).1 = 8) ∧ ∃ (q19 : PH → Prop), CV l x mX8_ticksNow 11 0 0 [.ref a0, .int 200] h18 q19 ∧ ∀ (h22 : PH), q19 h22 → ((hK h22 a0).1 = 8) ∧ ∃ (q23 : Int32 → PH → Prop), CI l x mX8_of 0 0 0 [.ref a0, .int x1, .int 7] h22 q23 ∧ ∀ (r27 : Int32) (h26 : PH), q23 r27 h26 → ((hK h26 a0).1 = 8) ∧ ∃ b29, (hR h26 a0 2 = some b29) ∧ ∃ b31, (hR h26 a0 23 = some b31) ∧ ∃ (q33 : PH → Prop), CV l x mX8_copyTo 0 0 0 [.ref b29, .ref b31] h26 q33 ∧ ∀ (h35 : PH), q33 h35 → Q (some (.int r27)) h35) :
    Gm l x mX8_endsAnew 12 0 [(0, .ref a0), (1, .int x1), (2, .int x2)] [] h rc rs n0 Q X := by
  refine g_aload_n dX8_endsAnew_0 rfl 0 rfl ?_
  refine g_aload_n dX8_endsAnew_1 rfl 0 rfl ?_
  obtain ⟨e1, b2, e3, K⟩ := K
  refine g_get (c := 8) (k := 2) (v := .ref b2) dX8_endsAnew_2 fc_8 (by decide) (by decide) bw_1200 (congrArg pr e3) e1 ?_
  refine g_iconst (v := 2) dX8_endsAnew_5 (by decide) ?_
  obtain ⟨e4, e5, K⟩ := K
  refine g_iald dX8_endsAnew_6 e4 e5 ?_
  refine g_aload_n dX8_endsAnew_7 rfl 0 rfl ?_
  refine g_get (c := 8) (k := 2) (v := .ref b2) dX8_endsAnew_8 fc_8 (by decide) (by decide) bw_1200 (congrArg pr e3) e1 ?_
  refine g_iconst (v := 3) dX8_endsAnew_11 (by decide) ?_
  obtain ⟨e6, K⟩ := K
  refine g_iald dX8_endsAnew_12 e4 e6 ?_
  obtain ⟨q7, C8, K⟩ := K
  refine g_callV (M' := mX8_anewBegins) (b := a0) (As := [.int (hI h b2 (Int32.toNatClampNeg 2)), .int (hI h b2 (Int32.toNatClampNeg 3))]) (rest := []) (rc' := rc) (rs' := rs) dX8_endsAnew_13 bw_1445 bw_1447 bs_60 bw_9 bw_1448 ⟨by decide +kernel, by decide +kernel, show (parseMethodDescriptor mX8_anewBegins.1.desc).map (fun d => d.parameters.length) = some 2 by decide +kernel⟩ (by decide) (by decide) (Nat.le_of_ble_eq_true rfl) fc_8 (by decide) rfl e1 C8 (Nat.le_of_eq (Nat.add_zero _)) (Nat.le_of_eq (Nat.add_zero _)) (fun _ _ h => h) ?_
  rintro _ h9 ⟨rfl, K1⟩ -
  replace K := K h9 K1
  show Gm l x mX8_endsAnew 12 16 [(0, .ref a0), (1, .int x1), (2, .int x2)] [] h9 rc rs n0 Q X
  refine g_aload_n dX8_endsAnew_16 rfl 0 rfl ?_
  refine g_iload_n dX8_endsAnew_17 rfl 1 rfl ?_
  refine g_iconst (v := 1) dX8_endsAnew_18 (by decide) ?_
  refine g_aload_n dX8_endsAnew_19 rfl 0 rfl ?_
  refine g_iload_n dX8_endsAnew_20 rfl 1 rfl ?_
  refine g_iconst (v := 1) dX8_endsAnew_21 (by decide) ?_
  obtain ⟨e12, K⟩ := K
  obtain ⟨q10, C11, K⟩ := K
  refine g_callV (M' := mX8_of) (b := a0) (As := [.int x1, .int 1]) (rest := [.int 1, .int x1, .ref a0]) (rc' := rc) (rs' := rs) dX8_endsAnew_22 bw_1413 bw_1415 bs_52 bw_9 bw_1416 ⟨by decide +kernel, by decide +kernel, show (parseMethodDescriptor mX8_of.1.desc).map (fun d => d.parameters.length) = some 2 by decide +kernel⟩ (by decide) (by decide) (Nat.le_of_ble_eq_true rfl) fc_8 (by decide) rfl e12 C11 (Nat.le_of_eq (Nat.add_zero _)) (Nat.le_of_eq (Nat.add_zero _)) (fun _ _ h => h) ?_
  rintro _ h13 ⟨r14, rfl, K1⟩ -
  replace K := K r14 h13 K1
  show Gm l x mX8_endsAnew 12 25 [(0, .ref a0), (1, .int x1), (2, .int x2)] [.int r14, .int 1, .int x1, .ref a0] h13 rc rs n0 Q X
  refine g_iload_n dX8_endsAnew_25 rfl 2 rfl ?_
  refine g_iadd dX8_endsAnew_26 ?_
  obtain ⟨e17, K⟩ := K
  obtain ⟨q15, C16, K⟩ := K
  refine g_callV (M' := mX8_put) (b := a0) (As := [.int x1, .int 1, .int (r14 + x2)]) (rest := []) (rc' := rc) (rs' := rs) dX8_endsAnew_27 bw_1194 bw_1196 bs_38 bw_9 bw_1197 ⟨by decide +kernel, by decide +kernel, show (parseMethodDescriptor mX8_put.1.desc).map (fun d => d.parameters.length) = some 3 by decide +kernel⟩ (by decide) (by decide) (Nat.le_of_ble_eq_true rfl) fc_8 (by decide) rfl e17 C16 (Nat.le_of_eq (Nat.add_zero _)) (Nat.le_of_eq (Nat.add_zero _)) (fun _ _ h => h) ?_
  rintro _ h18 ⟨rfl, K1⟩ -
  replace K := K h18 K1
  show Gm l x mX8_endsAnew 12 30 [(0, .ref a0), (1, .int x1), (2, .int x2)] [] h18 rc rs n0 Q X
  refine g_aload_n dX8_endsAnew_30 rfl 0 rfl ?_
  refine g_sipush (v := 200) dX8_endsAnew_31 (by decide) ?_
  obtain ⟨e21, K⟩ := K
  obtain ⟨q19, C20, K⟩ := K
  refine g_callV (M' := mX8_ticksNow) (b := a0) (As := [.int 200]) (rest := []) (rc' := rc) (rs' := rs) dX8_endsAnew_34 bw_1453 bw_1455 bs_62 bw_9 bw_1456 ⟨by decide +kernel, by decide +kernel, show (parseMethodDescriptor mX8_ticksNow.1.desc).map (fun d => d.parameters.length) = some 1 by decide +kernel⟩ (by decide) (by decide) (Nat.le_of_ble_eq_true rfl) fc_8 (by decide) rfl e21 C20 (Nat.le_of_eq (Nat.add_zero _)) (Nat.le_of_eq (Nat.add_zero _)) (fun _ _ h => h) ?_
  rintro _ h22 ⟨rfl, K1⟩ -
  replace K := K h22 K1
  show Gm l x mX8_endsAnew 12 37 [(0, .ref a0), (1, .int x1), (2, .int x2)] [] h22 rc rs n0 Q X
  refine g_aload_n dX8_endsAnew_37 rfl 0 rfl ?_
  refine g_iload_n dX8_endsAnew_38 rfl 1 rfl ?_
  refine g_bipush (v := 7) dX8_endsAnew_39 (by decide) ?_
  obtain ⟨e25, K⟩ := K
  obtain ⟨q23, C24, K⟩ := K
  refine g_callV (M' := mX8_of) (b := a0) (As := [.int x1, .int 7]) (rest := []) (rc' := rc) (rs' := rs) dX8_endsAnew_41 bw_1413 bw_1415 bs_52 bw_9 bw_1416 ⟨by decide +kernel, by decide +kernel, show (parseMethodDescriptor mX8_of.1.desc).map (fun d => d.parameters.length) = some 2 by decide +kernel⟩ (by decide) (by decide) (Nat.le_of_ble_eq_true rfl) fc_8 (by decide) rfl e25 C24 (Nat.le_of_eq (Nat.add_zero _)) (Nat.le_of_eq (Nat.add_zero _)) (fun _ _ h => h) ?_
  rintro _ h26 ⟨r27, rfl, K1⟩ -
  replace K := K r27 h26 K1
  show Gm l x mX8_endsAnew 12 44 [(0, .ref a0), (1, .int x1), (2, .int x2)] [.int r27] h26 rc rs n0 Q X
  refine g_istore_n (lv' := [(0, .ref a0), (1, .int x1), (2, .int x2), (3, .int r27)]) dX8_endsAnew_44 rfl (by decide) rfl ?_
  refine g_aload_n dX8_endsAnew_45 rfl 0 rfl ?_
  obtain ⟨e28, b29, e30, K⟩ := K
  refine g_get (c := 8) (k := 2) (v := .ref b29) dX8_endsAnew_46 fc_8 (by decide) (by decide) bw_1200 (congrArg pr e30) e28 ?_
  refine g_aload_n dX8_endsAnew_49 rfl 0 rfl ?_
  obtain ⟨b31, e32, K⟩ := K
  refine g_get (c := 8) (k := 23) (v := .ref b31) dX8_endsAnew_50 fc_8 (by decide) (by decide) bw_1221 (congrArg pr e32) e28 ?_
  obtain ⟨q33, C34, K⟩ := K
  refine g_callS (M' := mX8_copyTo) (As := [.ref b29, .ref b31]) (rest := []) (rc' := rc) (rs' := rs) dX8_endsAnew_53 bw_1398 bw_1399 bw_9 bw_1400 ⟨by decide +kernel, by decide +kernel, show (parseMethodDescriptor mX8_copyTo.1.desc).map (fun d => d.parameters.length) = some 2 by decide +kernel⟩ (by decide) (by decide) (Nat.le_of_ble_eq_true rfl) C34 (Nat.le_of_eq (Nat.add_zero _)) (Nat.le_of_eq (Nat.add_zero _)) (fun _ _ h => h) ?_
  rintro _ h35 ⟨rfl, K1⟩ -
  replace K := K h35 K1
  show Gm l x mX8_endsAnew 12 56 [(0, .ref a0), (1, .int x1), (2, .int x2), (3, .int r27)] [] h35 rc rs n0 Q X
  refine g_iload_n dX8_endsAnew_56 rfl 3 rfl ?_
  exact g_iret dX8_endsAnew_57 rfl K
theorem dX8_tellFits_0 : decode cX8_tellFits 0 = .ok (.aload_n 0, 1) := by decide +kernel
theorem dX8_tellFits_1 : decode cX8_tellFits 1 = .ok (.iconst 0, 1) := by decide +kernel
theorem dX8_tellFits_2 : decode cX8_tellFits 2 = .ok (.putfield 423, 3) := by decide +kernel
theorem dX8_tellFits_5 : decode cX8_tellFits 5 = .ok (.aload_n 0, 1) := by decide +kernel
theorem dX8_tellFits_6 : decode cX8_tellFits 6 = .ok (.iconst (-1), 1) := by decide +kernel
theorem dX8_tellFits_7 : decode cX8_tellFits 7 = .ok (.putfield 426, 3) := by decide +kernel
theorem dX8_tellFits_10 : decode cX8_tellFits 10 = .ok (.iconst 0, 1) := by decide +kernel
theorem dX8_tellFits_11 : decode cX8_tellFits 11 = .ok (.istore_n 1, 1) := by decide +kernel
theorem dX8_tellFits_12 : decode cX8_tellFits 12 = .ok (.iload_n 1, 1) := by decide +kernel
theorem dX8_tellFits_13 : decode cX8_tellFits 13 = .ok (.bipush 36, 2) := by decide +kernel
theorem dX8_tellFits_15 : decode cX8_tellFits 15 = .ok (.if_icmp .ge 168, 3) := by decide +kernel
theorem dX8_tellFits_18 : decode cX8_tellFits 18 = .ok (.aload_n 0, 1) := by decide +kernel
theorem dX8_tellFits_19 : decode cX8_tellFits 19 = .ok (.iload_n 1, 1) := by decide +kernel
theorem dX8_tellFits_20 : decode cX8_tellFits 20 = .ok (.bipush 12, 2) := by decide +kernel
theorem dX8_tellFits_22 : decode cX8_tellFits 22 = .ok (.idiv, 1) := by decide +kernel
theorem dX8_tellFits_23 : decode cX8_tellFits 23 = .ok (.iload_n 1, 1) := by decide +kernel
theorem dX8_tellFits_24 : decode cX8_tellFits 24 = .ok (.bipush 12, 2) := by decide +kernel
theorem dX8_tellFits_26 : decode cX8_tellFits 26 = .ok (.irem, 1) := by decide +kernel
theorem dX8_tellFits_27 : decode cX8_tellFits 27 = .ok (.invokevirtual 356, 3) := by decide +kernel
theorem dX8_tellFits_30 : decode cX8_tellFits 30 = .ok (.aload_n 0, 1) := by decide +kernel
theorem dX8_tellFits_31 : decode cX8_tellFits 31 = .ok (.sipush 200, 3) := by decide +kernel
theorem dX8_tellFits_34 : decode cX8_tellFits 34 = .ok (.invokevirtual 350, 3) := by decide +kernel
theorem dX8_tellFits_37 : decode cX8_tellFits 37 = .ok (.iconst 1, 1) := by decide +kernel
theorem dX8_tellFits_38 : decode cX8_tellFits 38 = .ok (.istore_n 2, 1) := by decide +kernel
theorem dX8_tellFits_39 : decode cX8_tellFits 39 = .ok (.iconst 0, 1) := by decide +kernel
theorem dX8_tellFits_40 : decode cX8_tellFits 40 = .ok (.istore_n 3, 1) := by decide +kernel
theorem dX8_tellFits_41 : decode cX8_tellFits 41 = .ok (.iload_n 3, 1) := by decide +kernel
theorem dX8_tellFits_42 : decode cX8_tellFits 42 = .ok (.aload_n 0, 1) := by decide +kernel
theorem dX8_tellFits_43 : decode cX8_tellFits 43 = .ok (.getfield 211, 3) := by decide +kernel
theorem dX8_tellFits_46 : decode cX8_tellFits 46 = .ok (.if_icmp .ge 40, 3) := by decide +kernel
theorem dX8_tellFits_49 : decode cX8_tellFits 49 = .ok (.iload_n 2, 1) := by decide +kernel
theorem dX8_tellFits_50 : decode cX8_tellFits 50 = .ok (.ifCond .eq 28, 3) := by decide +kernel
theorem dX8_tellFits_53 : decode cX8_tellFits 53 = .ok (.aload_n 0, 1) := by decide +kernel
theorem dX8_tellFits_54 : decode cX8_tellFits 54 = .ok (.aload_n 0, 1) := by decide +kernel
theorem dX8_tellFits_55 : decode cX8_tellFits 55 = .ok (.getfield 70, 3) := by decide +kernel
theorem dX8_tellFits_58 : decode cX8_tellFits 58 = .ok (.iload_n 3, 1) := by decide +kernel
theorem dX8_tellFits_59 : decode cX8_tellFits 59 = .ok (.iaload, 1) := by decide +kernel
theorem dX8_tellFits_60 : decode cX8_tellFits 60 = .ok (.bipush 7, 2) := by decide +kernel
theorem dX8_tellFits_62 : decode cX8_tellFits 62 = .ok (.invokevirtual 228, 3) := by decide +kernel
theorem dX8_tellFits_65 : decode cX8_tellFits 65 = .ok (.aload_n 0, 1) := by decide +kernel
theorem dX8_tellFits_66 : decode cX8_tellFits 66 = .ok (.getfield 73, 3) := by decide +kernel
theorem dX8_tellFits_69 : decode cX8_tellFits 69 = .ok (.iload_n 3, 1) := by decide +kernel
theorem dX8_tellFits_70 : decode cX8_tellFits 70 = .ok (.iaload, 1) := by decide +kernel
theorem dX8_tellFits_71 : decode cX8_tellFits 71 = .ok (.if_icmp .ne 7, 3) := by decide +kernel
theorem dX8_tellFits_74 : decode cX8_tellFits 74 = .ok (.iconst 1, 1) := by decide +kernel
theorem dX8_tellFits_75 : decode cX8_tellFits 75 = .ok (.goto 4, 3) := by decide +kernel
theorem dX8_tellFits_78 : decode cX8_tellFits 78 = .ok (.iconst 0, 1) := by decide +kernel
theorem dX8_tellFits_79 : decode cX8_tellFits 79 = .ok (.istore_n 2, 1) := by decide +kernel
theorem dX8_tellFits_80 : decode cX8_tellFits 80 = .ok (.iinc 3 1, 3) := by decide +kernel
theorem dX8_tellFits_83 : decode cX8_tellFits 83 = .ok (.goto (-42), 3) := by decide +kernel
theorem dX8_tellFits_86 : decode cX8_tellFits 86 = .ok (.iconst 0, 1) := by decide +kernel
theorem dX8_tellFits_87 : decode cX8_tellFits 87 = .ok (.istore_n 3, 1) := by decide +kernel
theorem dX8_tellFits_88 : decode cX8_tellFits 88 = .ok (.iload_n 3, 1) := by decide +kernel
theorem dX8_tellFits_89 : decode cX8_tellFits 89 = .ok (.aload_n 0, 1) := by decide +kernel
theorem dX8_tellFits_90 : decode cX8_tellFits 90 = .ok (.getfield 36, 3) := by decide +kernel
theorem dX8_tellFits_93 : decode cX8_tellFits 93 = .ok (.iconst 2, 1) := by decide +kernel
theorem dX8_tellFits_94 : decode cX8_tellFits 94 = .ok (.iaload, 1) := by decide +kernel
theorem dX8_tellFits_95 : decode cX8_tellFits 95 = .ok (.if_icmp .ge 34, 3) := by decide +kernel
theorem dX8_tellFits_98 : decode cX8_tellFits 98 = .ok (.iload_n 2, 1) := by decide +kernel
theorem dX8_tellFits_99 : decode cX8_tellFits 99 = .ok (.ifCond .eq 30, 3) := by decide +kernel
theorem dX8_tellFits_102 : decode cX8_tellFits 102 = .ok (.aload_n 0, 1) := by decide +kernel
theorem dX8_tellFits_103 : decode cX8_tellFits 103 = .ok (.getfield 76, 3) := by decide +kernel
theorem dX8_tellFits_106 : decode cX8_tellFits 106 = .ok (.bipush 20, 2) := by decide +kernel
theorem dX8_tellFits_108 : decode cX8_tellFits 108 = .ok (.aload_n 0, 1) := by decide +kernel
theorem dX8_tellFits_109 : decode cX8_tellFits 109 = .ok (.getfield 423, 3) := by decide +kernel
theorem dX8_tellFits_112 : decode cX8_tellFits 112 = .ok (.imul, 1) := by decide +kernel
theorem dX8_tellFits_113 : decode cX8_tellFits 113 = .ok (.iload_n 3, 1) := by decide +kernel
theorem dX8_tellFits_114 : decode cX8_tellFits 114 = .ok (.iadd, 1) := by decide +kernel
theorem dX8_tellFits_115 : decode cX8_tellFits 115 = .ok (.aload_n 0, 1) := by decide +kernel
theorem dX8_tellFits_116 : decode cX8_tellFits 116 = .ok (.iload_n 3, 1) := by decide +kernel
theorem dX8_tellFits_117 : decode cX8_tellFits 117 = .ok (.bipush 7, 2) := by decide +kernel
theorem dX8_tellFits_119 : decode cX8_tellFits 119 = .ok (.invokevirtual 228, 3) := by decide +kernel
theorem dX8_tellFits_122 : decode cX8_tellFits 122 = .ok (.iastore, 1) := by decide +kernel
theorem dX8_tellFits_123 : decode cX8_tellFits 123 = .ok (.iinc 3 1, 3) := by decide +kernel
theorem dX8_tellFits_126 : decode cX8_tellFits 126 = .ok (.goto (-38), 3) := by decide +kernel
theorem dX8_tellFits_129 : decode cX8_tellFits 129 = .ok (.aload_n 0, 1) := by decide +kernel
theorem dX8_tellFits_130 : decode cX8_tellFits 130 = .ok (.getfield 29, 3) := by decide +kernel
theorem dX8_tellFits_133 : decode cX8_tellFits 133 = .ok (.aload_n 0, 1) := by decide +kernel
theorem dX8_tellFits_134 : decode cX8_tellFits 134 = .ok (.getfield 64, 3) := by decide +kernel
theorem dX8_tellFits_137 : decode cX8_tellFits 137 = .ok (.invokestatic 204, 3) := by decide +kernel
theorem dX8_tellFits_140 : decode cX8_tellFits 140 = .ok (.iload_n 2, 1) := by decide +kernel
theorem dX8_tellFits_141 : decode cX8_tellFits 141 = .ok (.ifCond .ne 6, 3) := by decide +kernel
theorem dX8_tellFits_144 : decode cX8_tellFits 144 = .ok (.goto 33, 3) := by decide +kernel
theorem dX8_tellFits_147 : decode cX8_tellFits 147 = .ok (.aload_n 0, 1) := by decide +kernel
theorem dX8_tellFits_148 : decode cX8_tellFits 148 = .ok (.aload_n 0, 1) := by decide +kernel
theorem dX8_tellFits_149 : decode cX8_tellFits 149 = .ok (.getfield 426, 3) := by decide +kernel
theorem dX8_tellFits_152 : decode cX8_tellFits 152 = .ok (.iconst (-1), 1) := by decide +kernel
theorem dX8_tellFits_153 : decode cX8_tellFits 153 = .ok (.if_icmp .ne 7, 3) := by decide +kernel
theorem dX8_tellFits_156 : decode cX8_tellFits 156 = .ok (.iload_n 1, 1) := by decide +kernel
theorem dX8_tellFits_157 : decode cX8_tellFits 157 = .ok (.goto 7, 3) := by decide +kernel
theorem dX8_tellFits_160 : decode cX8_tellFits 160 = .ok (.aload_n 0, 1) := by decide +kernel
theorem dX8_tellFits_161 : decode cX8_tellFits 161 = .ok (.getfield 426, 3) := by decide +kernel
theorem dX8_tellFits_164 : decode cX8_tellFits 164 = .ok (.putfield 426, 3) := by decide +kernel
theorem dX8_tellFits_167 : decode cX8_tellFits 167 = .ok (.aload_n 0, 1) := by decide +kernel
theorem dX8_tellFits_168 : decode cX8_tellFits 168 = .ok (.dup, 1) := by decide +kernel
theorem dX8_tellFits_169 : decode cX8_tellFits 169 = .ok (.getfield 423, 3) := by decide +kernel
theorem dX8_tellFits_172 : decode cX8_tellFits 172 = .ok (.iconst 1, 1) := by decide +kernel
theorem dX8_tellFits_173 : decode cX8_tellFits 173 = .ok (.iadd, 1) := by decide +kernel
theorem dX8_tellFits_174 : decode cX8_tellFits 174 = .ok (.putfield 423, 3) := by decide +kernel
theorem dX8_tellFits_177 : decode cX8_tellFits 177 = .ok (.iinc 1 1, 3) := by decide +kernel
theorem dX8_tellFits_180 : decode cX8_tellFits 180 = .ok (.goto (-168), 3) := by decide +kernel
theorem dX8_tellFits_183 : decode cX8_tellFits 183 = .ok (.return_, 1) := by decide +kernel
set_option maxRecDepth 20000 in
set_option maxHeartbeats 4000000 in
theorem vX8_tellFits_0 {l : Launch} {x : CX} {a0 : Nat} {h : PH} {rc rs n0 : Nat} {Q : Option Value → PH → Prop} {X : String → PH → Prop}
    (K : ((hK h a0).1 = 8) ∧ Gm l x mX8_tellFits 12 12 [(0, .ref a0), (1, .int 0)] [] (sI (sI h a0 29 0) a0 30 (-1)) rc rs n0 Q X) :
    Gm l x mX8_tellFits 12 0 [(0, .ref a0)] [] h rc rs n0 Q X := by
  refine g_aload_n dX8_tellFits_0 rfl 0 rfl ?_
  refine g_iconst (v := 0) dX8_tellFits_1 (by decide) ?_
  obtain ⟨e1, K⟩ := K
  refine g_puti (c := 8) (k := 29) dX8_tellFits_2 fc_8 (by decide) (by decide) bw_1227 (Or.inl rfl) rfl e1 ?_
  refine g_aload_n dX8_tellFits_5 rfl 0 rfl ?_
  refine g_iconst (v := (-1)) dX8_tellFits_6 (by decide) ?_
  refine g_puti (c := 8) (k := 30) dX8_tellFits_7 fc_8 (by decide) (by decide) bw_1228 (Or.inl rfl) rfl (kkI e1) ?_
  refine g_iconst (v := 0) dX8_tellFits_10 (by decide) ?_
  refine g_istore_n (lv' := [(0, .ref a0), (1, .int 0)]) dX8_tellFits_11 rfl (by decide) rfl ?_
  exact K
set_option maxRecDepth 20000 in
set_option maxHeartbeats 4000000 in
theorem vX8_tellFits_12 {l : Launch} {x : CX} {a0 : Nat} {x1 : Int32} {h : PH} {rc rs n0 : Nat} {Q : Option Value → PH → Prop} {X : String → PH → Prop}
    (K : ((36 ≤ x1 → Q none h) ∧ (¬ 36 ≤ x1 → ((hK h a0).1 = 8) ∧ ∃ (q2 : PH → Prop), CV l x mX8_anewBegins 2 0 0 [.ref a0, .int (x1 / 12), .int (x1 - x1 / 12 * 12)] h q2 ∧ ∀ (h5 : PH), q2 h5 → ((hK h5 a0).1 = 8) ∧ ∃ (q6 : PH → Prop), CV l x mX8_ticksNow 11 0 0 [.ref a0, .int 200] h5 q6 ∧ ∀ (h9 : PH), q6 h9 → Gm l x mX8_tellFits 12 41 [(0, .ref a0), (1, .int x1), (2, .int 1), (3, .int 0)] [] h9 rc rs n0 Q X))) :
    Gm l x mX8_tellFits 12 12 [(0, .ref a0), (1, .int x1)] [] h rc rs n0 Q X := by
  refine g_iload_n dX8_tellFits_12 rfl 1 rfl ?_
  refine g_bipush (v := 36) dX8_tellFits_13 (by decide) ?_
  refine g_icmp_ge (tgt := 183) dX8_tellFits_15 (by decide) (fun c1 => ?_) (fun c1 => ?_)
  · replace K := K.1 c1
    exact g_vret dX8_tellFits_183 rfl K
  · replace K := K.2 c1
    refine g_aload_n dX8_tellFits_18 rfl 0 rfl ?_
    refine g_iload_n dX8_tellFits_19 rfl 1 rfl ?_
    refine g_bipush (v := 12) dX8_tellFits_20 (by decide) ?_
    refine g_idiv dX8_tellFits_22 (by decide) ?_
    refine g_iload_n dX8_tellFits_23 rfl 1 rfl ?_
    refine g_bipush (v := 12) dX8_tellFits_24 (by decide) ?_
    refine g_irem dX8_tellFits_26 (by decide) ?_
    obtain ⟨e4, K⟩ := K
    obtain ⟨q2, C3, K⟩ := K
    refine g_callV (M' := mX8_anewBegins) (b := a0) (As := [.int (x1 / 12), .int (x1 - x1 / 12 * 12)]) (rest := []) (rc' := rc) (rs' := rs) dX8_tellFits_27 bw_1445 bw_1447 bs_60 bw_9 bw_1448 ⟨by decide +kernel, by decide +kernel, show (parseMethodDescriptor mX8_anewBegins.1.desc).map (fun d => d.parameters.length) = some 2 by decide +kernel⟩ (by decide) (by decide) (Nat.le_of_ble_eq_true rfl) fc_8 (by decide) rfl e4 C3 (Nat.le_of_eq (Nat.add_zero _)) (Nat.le_of_eq (Nat.add_zero _)) (fun _ _ h => h) ?_
    rintro _ h5 ⟨rfl, K1⟩ -
    replace K := K h5 K1
    show Gm l x mX8_tellFits 12 30 [(0, .ref a0), (1, .int x1)] [] h5 rc rs n0 Q X
    refine g_aload_n dX8_tellFits_30 rfl 0 rfl ?_
    refine g_sipush (v := 200) dX8_tellFits_31 (by decide) ?_
    obtain ⟨e8, K⟩ := K
    obtain ⟨q6, C7, K⟩ := K
    refine g_callV (M' := mX8_ticksNow) (b := a0) (As := [.int 200]) (rest := []) (rc' := rc) (rs' := rs) dX8_tellFits_34 bw_1453 bw_1455 bs_62 bw_9 bw_1456 ⟨by decide +kernel, by decide +kernel, show (parseMethodDescriptor mX8_ticksNow.1.desc).map (fun d => d.parameters.length) = some 1 by decide +kernel⟩ (by decide) (by decide) (Nat.le_of_ble_eq_true rfl) fc_8 (by decide) rfl e8 C7 (Nat.le_of_eq (Nat.add_zero _)) (Nat.le_of_eq (Nat.add_zero _)) (fun _ _ h => h) ?_
    rintro _ h9 ⟨rfl, K1⟩ -
    replace K := K h9 K1
    show Gm l x mX8_tellFits 12 37 [(0, .ref a0), (1, .int x1)] [] h9 rc rs n0 Q X
    refine g_iconst (v := 1) dX8_tellFits_37 (by decide) ?_
    refine g_istore_n (lv' := [(0, .ref a0), (1, .int x1), (2, .int 1)]) dX8_tellFits_38 rfl (by decide) rfl ?_
    refine g_iconst (v := 0) dX8_tellFits_39 (by decide) ?_
    refine g_istore_n (lv' := [(0, .ref a0), (1, .int x1), (2, .int 1), (3, .int 0)]) dX8_tellFits_40 rfl (by decide) rfl ?_
    exact K
set_option maxRecDepth 20000 in
set_option maxHeartbeats 4000000 in
theorem vX8_tellFits_41 {l : Launch} {x : CX} {a0 : Nat} {x1 : Int32} {x2 : Int32} {x3 : Int32} {h : PH} {rc rs n0 : Nat} {Q : Option Value → PH → Prop} {X : String → PH → Prop}
    (K : ((hK h a0).1 = 8) ∧ (((hI h a0 26) ≤ x3 → Gm l x mX8_tellFits 12 88 [(0, .ref a0), (1, .int x1), (2, .int x2), (3, .int 0)] [] h rc rs n0 Q X) ∧ (¬ (hI h a0 26) ≤ x3 → ((x2 = 0 → Gm l x mX8_tellFits 12 41 [(0, .ref a0), (1, .int x1), (2, .int 0), (3, .int (x3 + 1))] [] h rc rs n0 Q X) ∧ (¬ x2 = 0 → ∃ b4, (hR h a0 27 = some b4) ∧ ((hK h b4).1 = 100) ∧ (vp_in x3 (hK h b4).2) ∧ ∃ (q8 : Int32 → PH → Prop), CI l x mX8_of 0 0 0 [.ref a0, .int (hI h b4 x3.toNatClampNeg), .int 7] h q8 ∧ ∀ (r11 : Int32) (h10 : PH), q8 r11 h10 → ((hK h10 a0).1 = 8) ∧ ∃ b13, (hR h10 a0 28 = some b13) ∧ ((hK h10 b13).1 = 100) ∧ (vp_in x3 (hK h10 b13).2) ∧ ∀ (y18 : Int32), y18 = (if r11 = (hI h10 b13 x3.toNatClampNeg) then 1 else 0 : Int32) → Gm l x mX8_tellFits 12 41 [(0, .ref a0), (1, .int x1), (2, .int y18), (3, .int (x3 + 1))] [] h10 rc rs n0 Q X))))) :
    Gm l x mX8_tellFits 12 41 [(0, .ref a0), (1, .int x1), (2, .int x2), (3, .int x3)] [] h rc rs n0 Q X := by
  refine g_iload_n dX8_tellFits_41 rfl 3 rfl ?_
  refine g_aload_n dX8_tellFits_42 rfl 0 rfl ?_
  obtain ⟨e1, K⟩ := K
  refine g_get (c := 8) (k := 26) (v := .int (hI h a0 26)) dX8_tellFits_43 fc_8 (by decide) (by decide) bw_1224 rfl e1 ?_
  refine g_icmp_ge (tgt := 86) dX8_tellFits_46 (by decide) (fun c2 => ?_) (fun c2 => ?_)
  · replace K := K.1 c2
    refine g_iconst (v := 0) dX8_tellFits_86 (by decide) ?_
    refine g_istore_n (lv' := [(0, .ref a0), (1, .int x1), (2, .int x2), (3, .int 0)]) dX8_tellFits_87 rfl (by decide) rfl ?_
    exact K
  · replace K := K.2 c2
    refine g_iload_n dX8_tellFits_49 rfl 2 rfl ?_
    refine g_if_eq (tgt := 78) dX8_tellFits_50 (by decide) (fun c3 => ?_) (fun c3 => ?_)
    · replace K := K.1 c3
      refine g_iconst (v := 0) dX8_tellFits_78 (by decide) ?_
      refine g_istore_n (lv' := [(0, .ref a0), (1, .int x1), (2, .int 0), (3, .int x3)]) dX8_tellFits_79 rfl (by decide) rfl ?_
      refine g_iinc (v := (x3 + 1)) (lv' := [(0, .ref a0), (1, .int x1), (2, .int 0), (3, .int (x3 + 1))]) dX8_tellFits_80 3 rfl (by rfl) (by decide) rfl ?_
      refine g_goto (tgt := 41) dX8_tellFits_83 (by decide) ?_
      exact K
    · replace K := K.2 c3
      refine g_aload_n dX8_tellFits_53 rfl 0 rfl ?_
      refine g_aload_n dX8_tellFits_54 rfl 0 rfl ?_
      obtain ⟨b4, e5, K⟩ := K
      refine g_get (c := 8) (k := 27) (v := .ref b4) dX8_tellFits_55 fc_8 (by decide) (by decide) bw_1225 (congrArg pr e5) e1 ?_
      refine g_iload_n dX8_tellFits_58 rfl 3 rfl ?_
      obtain ⟨e6, e7, K⟩ := K
      refine g_iald dX8_tellFits_59 e6 e7 ?_
      refine g_bipush (v := 7) dX8_tellFits_60 (by decide) ?_
      obtain ⟨q8, C9, K⟩ := K
      refine g_callV (M' := mX8_of) (b := a0) (As := [.int (hI h b4 x3.toNatClampNeg), .int 7]) (rest := []) (rc' := rc) (rs' := rs) dX8_tellFits_62 bw_1413 bw_1415 bs_52 bw_9 bw_1416 ⟨by decide +kernel, by decide +kernel, show (parseMethodDescriptor mX8_of.1.desc).map (fun d => d.parameters.length) = some 2 by decide +kernel⟩ (by decide) (by decide) (Nat.le_of_ble_eq_true rfl) fc_8 (by decide) rfl e1 C9 (Nat.le_of_eq (Nat.add_zero _)) (Nat.le_of_eq (Nat.add_zero _)) (fun _ _ h => h) ?_
      rintro _ h10 ⟨r11, rfl, K1⟩ -
      replace K := K r11 h10 K1
      show Gm l x mX8_tellFits 12 65 [(0, .ref a0), (1, .int x1), (2, .int x2), (3, .int x3)] [.int r11] h10 rc rs n0 Q X
      refine g_aload_n dX8_tellFits_65 rfl 0 rfl ?_
      obtain ⟨e12, b13, e14, K⟩ := K
      refine g_get (c := 8) (k := 28) (v := .ref b13) dX8_tellFits_66 fc_8 (by decide) (by decide) bw_1226 (congrArg pr e14) e12 ?_
      refine g_iload_n dX8_tellFits_69 rfl 3 rfl ?_
      obtain ⟨e15, e16, K⟩ := K
      refine g_iald dX8_tellFits_70 e15 e16 ?_
      have KJ : Gm l x mX8_tellFits 12 79 [(0, .ref a0), (1, .int x1), (2, .int x2), (3, .int x3)] [.int (if r11 = (hI h10 b13 x3.toNatClampNeg) then 1 else 0 : Int32)] h10 rc rs n0 Q X := by
        refine g_nmI (fun y18 e19 => ?_)
        replace K := K y18 e19
        refine g_istore_n (lv' := [(0, .ref a0), (1, .int x1), (2, .int y18), (3, .int x3)]) dX8_tellFits_79 rfl (by decide) rfl ?_
        refine g_iinc (v := (x3 + 1)) (lv' := [(0, .ref a0), (1, .int x1), (2, .int y18), (3, .int (x3 + 1))]) dX8_tellFits_80 3 rfl (by rfl) (by decide) rfl ?_
        refine g_goto (tgt := 41) dX8_tellFits_83 (by decide) ?_
        exact K
      refine g_icmp_ne (tgt := 78) dX8_tellFits_71 (by decide) (fun c17 => ?_) (fun c17 => ?_)
      · refine g_iconst (v := 0) dX8_tellFits_78 (by decide) ?_
        first | (simp only [if_neg c17] at KJ; exact KJ) | (simp only [if_neg c17, ite_true, ite_false, eq_self] at KJ; exact KJ) | (simp only [if_neg c17] at KJ ⊢; exact KJ) | exact KJ
      · refine g_iconst (v := 1) dX8_tellFits_74 (by decide) ?_
        refine g_goto (tgt := 79) dX8_tellFits_75 (by decide) ?_
        first | (simp only [if_pos c17] at KJ; exact KJ) | (simp only [if_pos c17, ite_true, ite_false, eq_self] at KJ; exact KJ) | (simp only [if_pos c17] at KJ ⊢; exact KJ) | exact KJ
set_option maxRecDepth 20000 in
set_option maxHeartbeats 4000000 in
theorem vX8_tellFits_88 {l : Launch} {x : CX} {a0 : Nat} {x1 : Int32} {x2 : Int32} {x3 : Int32} {h : PH} {rc rs n0 : Nat} {Q : Option Value → PH → Prop} {X : String → PH → Prop}
    (K : ((hK h a0).1 = 8) ∧ ∃ b2, (hR h a0 4 = some b2) ∧ ((hK h b2).1 = 100) ∧ (vp_in 2 (hK h b2).2) ∧ (((hI h b2 (Int32.toNatClampNeg 2)) ≤ x3 → ∃ b7, (hR h a0 2 = some b7) ∧ ∃ b9, (hR h a0 23 = some b9) ∧ ∃ (q11 : PH → Prop), CV l x mX8_copyTo 0 0 0 [.ref b7, .ref b9] h q11 ∧ ∀ (h13 : PH), q11 h13 → ((¬ x2 = 0 → ((hK h13 a0).1 = 8) ∧ Gm l x mX8_tellFits 12 12 [(0, .ref a0), (1, .int (x1 + 1))] [] (sI (sI h13 a0 30 (if (hI h13 a0 30) = (-1) then x1 else (hI h13 a0 30) : Int32)) a0 29 ((hI h13 a0 29) + 1)) rc rs n0 Q X) ∧ (x2 = 0 → Gm l x mX8_tellFits 12 12 [(0, .ref a0), (1, .int (x1 + 1))] [] h13 rc rs n0 Q X))) ∧ (¬ (hI h b2 (Int32.toNatClampNeg 2)) ≤ x3 → ((x2 = 0 → ∃ b18, (hR h a0 2 = some b18) ∧ ∃ b20, (hR h a0 23 = some b20) ∧ ∃ (q22 : PH → Prop), CV l x mX8_copyTo 0 0 0 [.ref b18, .ref b20] h q22 ∧ ∀ (h24 : PH), q22 h24 → ((¬ x2 = 0 → ((hK h24 a0).1 = 8) ∧ Gm l x mX8_tellFits 12 12 [(0, .ref a0), (1, .int (x1 + 1))] [] (sI (sI h24 a0 30 (if (hI h24 a0 30) = (-1) then x1 else (hI h24 a0 30) : Int32)) a0 29 ((hI h24 a0 29) + 1)) rc rs n0 Q X) ∧ (x2 = 0 → Gm l x mX8_tellFits 12 12 [(0, .ref a0), (1, .int (x1 + 1))] [] h24 rc rs n0 Q X))) ∧ (¬ x2 = 0 → ∃ b28, (hR h a0 31 = some b28) ∧ ∃ (q30 : Int32 → PH → Prop), CI l x mX8_of 0 0 0 [.ref a0, .int x3, .int 7] h q30 ∧ ∀ (r33 : Int32) (h32 : PH), q30 r33 h32 → ((hK h32 b28).1 = 100) ∧ (vp_in ((20 * (hI h a0 29)) + x3) (hK h32 b28).2) ∧ Gm l x mX8_tellFits 12 88 [(0, .ref a0), (1, .int x1), (2, .int x2), (3, .int (x3 + 1))] [] (sI h32 b28 ((20 * (hI h a0 29)) + x3).toNatClampNeg r33) rc rs n0 Q X))))) :
    Gm l x mX8_tellFits 12 88 [(0, .ref a0), (1, .int x1), (2, .int x2), (3, .int x3)] [] h rc rs n0 Q X := by
  refine g_iload_n dX8_tellFits_88 rfl 3 rfl ?_
  refine g_aload_n dX8_tellFits_89 rfl 0 rfl ?_
  obtain ⟨e1, b2, e3, K⟩ := K
  refine g_get (c := 8) (k := 4) (v := .ref b2) dX8_tellFits_90 fc_8 (by decide) (by decide) bw_1202 (congrArg pr e3) e1 ?_
  refine g_iconst (v := 2) dX8_tellFits_93 (by decide) ?_
  obtain ⟨e4, e5, K⟩ := K
  refine g_iald dX8_tellFits_94 e4 e5 ?_
  refine g_icmp_ge (tgt := 129) dX8_tellFits_95 (by decide) (fun c6 => ?_) (fun c6 => ?_)
  · replace K := K.1 c6
    refine g_aload_n dX8_tellFits_129 rfl 0 rfl ?_
    obtain ⟨b7, e8, K⟩ := K
    refine g_get (c := 8) (k := 2) (v := .ref b7) dX8_tellFits_130 fc_8 (by decide) (by decide) bw_1200 (congrArg pr e8) e1 ?_
    refine g_aload_n dX8_tellFits_133 rfl 0 rfl ?_
    obtain ⟨b9, e10, K⟩ := K
    refine g_get (c := 8) (k := 23) (v := .ref b9) dX8_tellFits_134 fc_8 (by decide) (by decide) bw_1221 (congrArg pr e10) e1 ?_
    obtain ⟨q11, C12, K⟩ := K
    refine g_callS (M' := mX8_copyTo) (As := [.ref b7, .ref b9]) (rest := []) (rc' := rc) (rs' := rs) dX8_tellFits_137 bw_1398 bw_1399 bw_9 bw_1400 ⟨by decide +kernel, by decide +kernel, show (parseMethodDescriptor mX8_copyTo.1.desc).map (fun d => d.parameters.length) = some 2 by decide +kernel⟩ (by decide) (by decide) (Nat.le_of_ble_eq_true rfl) C12 (Nat.le_of_eq (Nat.add_zero _)) (Nat.le_of_eq (Nat.add_zero _)) (fun _ _ h => h) ?_
    rintro _ h13 ⟨rfl, K1⟩ -
    replace K := K h13 K1
    show Gm l x mX8_tellFits 12 140 [(0, .ref a0), (1, .int x1), (2, .int x2), (3, .int x3)] [] h13 rc rs n0 Q X
    refine g_iload_n dX8_tellFits_140 rfl 2 rfl ?_
    refine g_if_ne (tgt := 147) dX8_tellFits_141 (by decide) (fun c14 => ?_) (fun c14 => ?_)
    · replace K := K.1 c14
      refine g_aload_n dX8_tellFits_147 rfl 0 rfl ?_
      refine g_aload_n dX8_tellFits_148 rfl 0 rfl ?_
      obtain ⟨e15, K⟩ := K
      refine g_get (c := 8) (k := 30) (v := .int (hI h13 a0 30)) dX8_tellFits_149 fc_8 (by decide) (by decide) bw_1228 rfl e15 ?_
      refine g_iconst (v := (-1)) dX8_tellFits_152 (by decide) ?_
      have KJ : Gm l x mX8_tellFits 12 164 [(0, .ref a0), (1, .int x1), (2, .int x2), (3, .int x3)] [.int (if (hI h13 a0 30) = (-1) then x1 else (hI h13 a0 30) : Int32), .ref a0] h13 rc rs n0 Q X := by
        refine g_puti (c := 8) (k := 30) dX8_tellFits_164 fc_8 (by decide) (by decide) bw_1228 (Or.inl rfl) rfl e15 ?_
        refine g_aload_n dX8_tellFits_167 rfl 0 rfl ?_
        refine g_dup dX8_tellFits_168 rfl ?_
        refine g_get (c := 8) (k := 29) (v := .int (hI h13 a0 29)) dX8_tellFits_169 fc_8 (by decide) (by decide) bw_1227 (congrArg Value.int ((skI (by decide)).trans rfl)) (kkI e15) ?_
        refine g_iconst (v := 1) dX8_tellFits_172 (by decide) ?_
        refine g_iadd dX8_tellFits_173 ?_
        refine g_puti (c := 8) (k := 29) dX8_tellFits_174 fc_8 (by decide) (by decide) bw_1227 (Or.inl rfl) rfl (kkI e15) ?_
        refine g_iinc (v := (x1 + 1)) (lv' := [(0, .ref a0), (1, .int (x1 + 1)), (2, .int x2), (3, .int x3)]) dX8_tellFits_177 1 rfl (by rfl) (by decide) rfl ?_
        refine g_goto (tgt := 12) dX8_tellFits_180 (by decide) ?_
        exact Gm.sub [0, 1] rfl K
      refine g_icmp_ne (tgt := 160) dX8_tellFits_153 (by decide) (fun c16 => ?_) (fun c16 => ?_)
      · refine g_aload_n dX8_tellFits_160 rfl 0 rfl ?_
        refine g_get (c := 8) (k := 30) (v := .int (hI h13 a0 30)) dX8_tellFits_161 fc_8 (by decide) (by decide) bw_1228 rfl e15 ?_
        first | (simp only [if_neg c16] at KJ; exact KJ) | (simp only [if_neg c16, ite_true, ite_false, eq_self] at KJ; exact KJ) | (simp only [if_neg c16] at KJ ⊢; exact KJ) | exact KJ
      · refine g_iload_n dX8_tellFits_156 rfl 1 rfl ?_
        refine g_goto (tgt := 164) dX8_tellFits_157 (by decide) ?_
        first | (simp only [if_pos c16] at KJ; exact KJ) | (simp only [if_pos c16, ite_true, ite_false, eq_self] at KJ; exact KJ) | (simp only [if_pos c16] at KJ ⊢; exact KJ) | exact KJ
    · replace K := K.2 c14
      refine g_goto (tgt := 177) dX8_tellFits_144 (by decide) ?_
      refine g_iinc (v := (x1 + 1)) (lv' := [(0, .ref a0), (1, .int (x1 + 1)), (2, .int x2), (3, .int x3)]) dX8_tellFits_177 1 rfl (by rfl) (by decide) rfl ?_
      refine g_goto (tgt := 12) dX8_tellFits_180 (by decide) ?_
      exact Gm.sub [0, 1] rfl K
  · replace K := K.2 c6
    refine g_iload_n dX8_tellFits_98 rfl 2 rfl ?_
    refine g_if_eq (tgt := 129) dX8_tellFits_99 (by decide) (fun c17 => ?_) (fun c17 => ?_)
    · replace K := K.1 c17
      refine g_aload_n dX8_tellFits_129 rfl 0 rfl ?_
      obtain ⟨b18, e19, K⟩ := K
      refine g_get (c := 8) (k := 2) (v := .ref b18) dX8_tellFits_130 fc_8 (by decide) (by decide) bw_1200 (congrArg pr e19) e1 ?_
      refine g_aload_n dX8_tellFits_133 rfl 0 rfl ?_
      obtain ⟨b20, e21, K⟩ := K
      refine g_get (c := 8) (k := 23) (v := .ref b20) dX8_tellFits_134 fc_8 (by decide) (by decide) bw_1221 (congrArg pr e21) e1 ?_
      obtain ⟨q22, C23, K⟩ := K
      refine g_callS (M' := mX8_copyTo) (As := [.ref b18, .ref b20]) (rest := []) (rc' := rc) (rs' := rs) dX8_tellFits_137 bw_1398 bw_1399 bw_9 bw_1400 ⟨by decide +kernel, by decide +kernel, show (parseMethodDescriptor mX8_copyTo.1.desc).map (fun d => d.parameters.length) = some 2 by decide +kernel⟩ (by decide) (by decide) (Nat.le_of_ble_eq_true rfl) C23 (Nat.le_of_eq (Nat.add_zero _)) (Nat.le_of_eq (Nat.add_zero _)) (fun _ _ h => h) ?_
      rintro _ h24 ⟨rfl, K1⟩ -
      replace K := K h24 K1
      show Gm l x mX8_tellFits 12 140 [(0, .ref a0), (1, .int x1), (2, .int x2), (3, .int x3)] [] h24 rc rs n0 Q X
      refine g_iload_n dX8_tellFits_140 rfl 2 rfl ?_
      refine g_if_ne (tgt := 147) dX8_tellFits_141 (by decide) (fun c25 => ?_) (fun c25 => ?_)
      · replace K := K.1 c25
        refine g_aload_n dX8_tellFits_147 rfl 0 rfl ?_
        refine g_aload_n dX8_tellFits_148 rfl 0 rfl ?_
        obtain ⟨e26, K⟩ := K
        refine g_get (c := 8) (k := 30) (v := .int (hI h24 a0 30)) dX8_tellFits_149 fc_8 (by decide) (by decide) bw_1228 rfl e26 ?_
        refine g_iconst (v := (-1)) dX8_tellFits_152 (by decide) ?_
        have KJ : Gm l x mX8_tellFits 12 164 [(0, .ref a0), (1, .int x1), (2, .int x2), (3, .int x3)] [.int (if (hI h24 a0 30) = (-1) then x1 else (hI h24 a0 30) : Int32), .ref a0] h24 rc rs n0 Q X := by
          refine g_puti (c := 8) (k := 30) dX8_tellFits_164 fc_8 (by decide) (by decide) bw_1228 (Or.inl rfl) rfl e26 ?_
          refine g_aload_n dX8_tellFits_167 rfl 0 rfl ?_
          refine g_dup dX8_tellFits_168 rfl ?_
          refine g_get (c := 8) (k := 29) (v := .int (hI h24 a0 29)) dX8_tellFits_169 fc_8 (by decide) (by decide) bw_1227 (congrArg Value.int ((skI (by decide)).trans rfl)) (kkI e26) ?_
          refine g_iconst (v := 1) dX8_tellFits_172 (by decide) ?_
          refine g_iadd dX8_tellFits_173 ?_
          refine g_puti (c := 8) (k := 29) dX8_tellFits_174 fc_8 (by decide) (by decide) bw_1227 (Or.inl rfl) rfl (kkI e26) ?_
          refine g_iinc (v := (x1 + 1)) (lv' := [(0, .ref a0), (1, .int (x1 + 1)), (2, .int x2), (3, .int x3)]) dX8_tellFits_177 1 rfl (by rfl) (by decide) rfl ?_
          refine g_goto (tgt := 12) dX8_tellFits_180 (by decide) ?_
          exact Gm.sub [0, 1] rfl K
        refine g_icmp_ne (tgt := 160) dX8_tellFits_153 (by decide) (fun c27 => ?_) (fun c27 => ?_)
        · refine g_aload_n dX8_tellFits_160 rfl 0 rfl ?_
          refine g_get (c := 8) (k := 30) (v := .int (hI h24 a0 30)) dX8_tellFits_161 fc_8 (by decide) (by decide) bw_1228 rfl e26 ?_
          first | (simp only [if_neg c27] at KJ; exact KJ) | (simp only [if_neg c27, ite_true, ite_false, eq_self] at KJ; exact KJ) | (simp only [if_neg c27] at KJ ⊢; exact KJ) | exact KJ
        · refine g_iload_n dX8_tellFits_156 rfl 1 rfl ?_
          refine g_goto (tgt := 164) dX8_tellFits_157 (by decide) ?_
          first | (simp only [if_pos c27] at KJ; exact KJ) | (simp only [if_pos c27, ite_true, ite_false, eq_self] at KJ; exact KJ) | (simp only [if_pos c27] at KJ ⊢; exact KJ) | exact KJ
      · replace K := K.2 c25
        refine g_goto (tgt := 177) dX8_tellFits_144 (by decide) ?_
        refine g_iinc (v := (x1 + 1)) (lv' := [(0, .ref a0), (1, .int (x1 + 1)), (2, .int x2), (3, .int x3)]) dX8_tellFits_177 1 rfl (by rfl) (by decide) rfl ?_
        refine g_goto (tgt := 12) dX8_tellFits_180 (by decide) ?_
        exact Gm.sub [0, 1] rfl K
    · replace K := K.2 c17
      refine g_aload_n dX8_tellFits_102 rfl 0 rfl ?_
      obtain ⟨b28, e29, K⟩ := K
      refine g_get (c := 8) (k := 31) (v := .ref b28) dX8_tellFits_103 fc_8 (by decide) (by decide) bw_1229 (congrArg pr e29) e1 ?_
      refine g_bipush (v := 20) dX8_tellFits_106 (by decide) ?_
      refine g_aload_n dX8_tellFits_108 rfl 0 rfl ?_
      refine g_get (c := 8) (k := 29) (v := .int (hI h a0 29)) dX8_tellFits_109 fc_8 (by decide) (by decide) bw_1227 rfl e1 ?_
      refine g_imul dX8_tellFits_112 ?_
      refine g_iload_n dX8_tellFits_113 rfl 3 rfl ?_
      refine g_iadd dX8_tellFits_114 ?_
      refine g_aload_n dX8_tellFits_115 rfl 0 rfl ?_
      refine g_iload_n dX8_tellFits_116 rfl 3 rfl ?_
      refine g_bipush (v := 7) dX8_tellFits_117 (by decide) ?_
      obtain ⟨q30, C31, K⟩ := K
      refine g_callV (M' := mX8_of) (b := a0) (As := [.int x3, .int 7]) (rest := [.int ((20 * (hI h a0 29)) + x3), .ref b28]) (rc' := rc) (rs' := rs) dX8_tellFits_119 bw_1413 bw_1415 bs_52 bw_9 bw_1416 ⟨by decide +kernel, by decide +kernel, show (parseMethodDescriptor mX8_of.1.desc).map (fun d => d.parameters.length) = some 2 by decide +kernel⟩ (by decide) (by decide) (Nat.le_of_ble_eq_true rfl) fc_8 (by decide) rfl e1 C31 (Nat.le_of_eq (Nat.add_zero _)) (Nat.le_of_eq (Nat.add_zero _)) (fun _ _ h => h) ?_
      rintro _ h32 ⟨r33, rfl, K1⟩ -
      replace K := K r33 h32 K1
      show Gm l x mX8_tellFits 12 122 [(0, .ref a0), (1, .int x1), (2, .int x2), (3, .int x3)] [.int r33, .int ((20 * (hI h a0 29)) + x3), .ref b28] h32 rc rs n0 Q X
      obtain ⟨e34, e35, K⟩ := K
      refine g_iast dX8_tellFits_122 e34 e35 ?_
      refine g_iinc (v := (x3 + 1)) (lv' := [(0, .ref a0), (1, .int x1), (2, .int x2), (3, .int (x3 + 1))]) dX8_tellFits_123 3 rfl (by rfl) (by decide) rfl ?_
      refine g_goto (tgt := 88) dX8_tellFits_126 (by decide) ?_
      exact K
theorem dX8_years_0 : decode cX8_years 0 = .ok (.aload_n 0, 1) := by decide +kernel
theorem dX8_years_1 : decode cX8_years 1 = .ok (.iconst 0, 1) := by decide +kernel
theorem dX8_years_2 : decode cX8_years 2 = .ok (.putfield 104, 3) := by decide +kernel
theorem dX8_years_5 : decode cX8_years 5 = .ok (.iload_n 3, 1) := by decide +kernel
theorem dX8_years_6 : decode cX8_years 6 = .ok (.iconst 0, 1) := by decide +kernel
theorem dX8_years_7 : decode cX8_years 7 = .ok (.iconst 2, 1) := by decide +kernel
theorem dX8_years_8 : decode cX8_years 8 = .ok (.invokestatic 390, 3) := by decide +kernel
theorem dX8_years_11 : decode cX8_years 11 = .ok (.ifCond .ne 9, 3) := by decide +kernel
theorem dX8_years_14 : decode cX8_years 14 = .ok (.aload_n 0, 1) := by decide +kernel
theorem dX8_years_15 : decode cX8_years 15 = .ok (.iconst 1, 1) := by decide +kernel
theorem dX8_years_16 : decode cX8_years 16 = .ok (.invokevirtual 198, 3) := by decide +kernel
theorem dX8_years_19 : decode cX8_years 19 = .ok (.ireturn, 1) := by decide +kernel
theorem dX8_years_20 : decode cX8_years 20 = .ok (.iload_n 2, 1) := by decide +kernel
theorem dX8_years_21 : decode cX8_years 21 = .ok (.iconst 0, 1) := by decide +kernel
theorem dX8_years_22 : decode cX8_years 22 = .ok (.bipush 20, 2) := by decide +kernel
theorem dX8_years_24 : decode cX8_years 24 = .ok (.invokestatic 390, 3) := by decide +kernel
theorem dX8_years_27 : decode cX8_years 27 = .ok (.ifCond .ne 9, 3) := by decide +kernel
theorem dX8_years_30 : decode cX8_years 30 = .ok (.aload_n 0, 1) := by decide +kernel
theorem dX8_years_31 : decode cX8_years 31 = .ok (.iconst 2, 1) := by decide +kernel
theorem dX8_years_32 : decode cX8_years 32 = .ok (.invokevirtual 198, 3) := by decide +kernel
theorem dX8_years_35 : decode cX8_years 35 = .ok (.ireturn, 1) := by decide +kernel
theorem dX8_years_36 : decode cX8_years 36 = .ok (.aload_n 0, 1) := by decide +kernel
theorem dX8_years_37 : decode cX8_years 37 = .ok (.getfield 79, 3) := by decide +kernel
theorem dX8_years_40 : decode cX8_years 40 = .ok (.aload_n 0, 1) := by decide +kernel
theorem dX8_years_41 : decode cX8_years 41 = .ok (.getfield 29, 3) := by decide +kernel
theorem dX8_years_44 : decode cX8_years 44 = .ok (.invokestatic 204, 3) := by decide +kernel
theorem dX8_years_47 : decode cX8_years 47 = .ok (.aload_n 0, 1) := by decide +kernel
theorem dX8_years_48 : decode cX8_years 48 = .ok (.invokevirtual 353, 3) := by decide +kernel
theorem dX8_years_51 : decode cX8_years 51 = .ok (.istore 4, 2) := by decide +kernel
theorem dX8_years_53 : decode cX8_years 53 = .ok (.aload_n 0, 1) := by decide +kernel
theorem dX8_years_54 : decode cX8_years 54 = .ok (.iload_n 1, 1) := by decide +kernel
theorem dX8_years_55 : decode cX8_years 55 = .ok (.putfield 435, 3) := by decide +kernel
theorem dX8_years_58 : decode cX8_years 58 = .ok (.iconst 0, 1) := by decide +kernel
theorem dX8_years_59 : decode cX8_years 59 = .ok (.istore 5, 2) := by decide +kernel
theorem dX8_years_61 : decode cX8_years 61 = .ok (.iload 5, 2) := by decide +kernel
theorem dX8_years_63 : decode cX8_years 63 = .ok (.iload_n 2, 1) := by decide +kernel
theorem dX8_years_64 : decode cX8_years 64 = .ok (.if_icmp .ge 94, 3) := by decide +kernel
theorem dX8_years_67 : decode cX8_years 67 = .ok (.aload_n 0, 1) := by decide +kernel
theorem dX8_years_68 : decode cX8_years 68 = .ok (.aload_n 0, 1) := by decide +kernel
theorem dX8_years_69 : decode cX8_years 69 = .ok (.getfield 36, 3) := by decide +kernel
theorem dX8_years_72 : decode cX8_years 72 = .ok (.iconst 0, 1) := by decide +kernel
theorem dX8_years_73 : decode cX8_years 73 = .ok (.iaload, 1) := by decide +kernel
theorem dX8_years_74 : decode cX8_years 74 = .ok (.invokevirtual 439, 3) := by decide +kernel
theorem dX8_years_77 : decode cX8_years 77 = .ok (.istore 6, 2) := by decide +kernel
theorem dX8_years_79 : decode cX8_years 79 = .ok (.aload_n 0, 1) := by decide +kernel
theorem dX8_years_80 : decode cX8_years 80 = .ok (.aload_n 0, 1) := by decide +kernel
theorem dX8_years_81 : decode cX8_years 81 = .ok (.getfield 36, 3) := by decide +kernel
theorem dX8_years_84 : decode cX8_years 84 = .ok (.iconst 0, 1) := by decide +kernel
theorem dX8_years_85 : decode cX8_years 85 = .ok (.iaload, 1) := by decide +kernel
theorem dX8_years_86 : decode cX8_years 86 = .ok (.iconst 1, 1) := by decide +kernel
theorem dX8_years_87 : decode cX8_years 87 = .ok (.isub, 1) := by decide +kernel
theorem dX8_years_88 : decode cX8_years 88 = .ok (.invokevirtual 439, 3) := by decide +kernel
theorem dX8_years_91 : decode cX8_years 91 = .ok (.istore 7, 2) := by decide +kernel
theorem dX8_years_93 : decode cX8_years 93 = .ok (.aload_n 0, 1) := by decide +kernel
theorem dX8_years_94 : decode cX8_years 94 = .ok (.iconst 2, 1) := by decide +kernel
theorem dX8_years_95 : decode cX8_years 95 = .ok (.invokevirtual 439, 3) := by decide +kernel
theorem dX8_years_98 : decode cX8_years 98 = .ok (.iconst 1, 1) := by decide +kernel
theorem dX8_years_99 : decode cX8_years 99 = .ok (.iadd, 1) := by decide +kernel
theorem dX8_years_100 : decode cX8_years 100 = .ok (.istore 8, 2) := by decide +kernel
theorem dX8_years_102 : decode cX8_years 102 = .ok (.aload_n 0, 1) := by decide +kernel
theorem dX8_years_103 : decode cX8_years 103 = .ok (.getfield 29, 3) := by decide +kernel
theorem dX8_years_106 : decode cX8_years 106 = .ok (.bipush 6, 2) := by decide +kernel
theorem dX8_years_108 : decode cX8_years 108 = .ok (.iaload, 1) := by decide +kernel
theorem dX8_years_109 : decode cX8_years 109 = .ok (.bipush 24, 2) := by decide +kernel
theorem dX8_years_111 : decode cX8_years 111 = .ok (.if_icmp .ge 29, 3) := by decide +kernel
theorem dX8_years_114 : decode cX8_years 114 = .ok (.aload_n 0, 1) := by decide +kernel
theorem dX8_years_115 : decode cX8_years 115 = .ok (.iload 6, 2) := by decide +kernel
theorem dX8_years_117 : decode cX8_years 117 = .ok (.iload 7, 2) := by decide +kernel
theorem dX8_years_119 : decode cX8_years 119 = .ok (.iload 6, 2) := by decide +kernel
theorem dX8_years_121 : decode cX8_years 121 = .ok (.if_icmp .lt 10, 3) := by decide +kernel
theorem dX8_years_124 : decode cX8_years 124 = .ok (.iload 7, 2) := by decide +kernel
theorem dX8_years_126 : decode cX8_years 126 = .ok (.iconst 1, 1) := by decide +kernel
theorem dX8_years_127 : decode cX8_years 127 = .ok (.iadd, 1) := by decide +kernel
theorem dX8_years_128 : decode cX8_years 128 = .ok (.goto 5, 3) := by decide +kernel
theorem dX8_years_131 : decode cX8_years 131 = .ok (.iload 7, 2) := by decide +kernel
theorem dX8_years_133 : decode cX8_years 133 = .ok (.iload 8, 2) := by decide +kernel
theorem dX8_years_135 : decode cX8_years 135 = .ok (.invokevirtual 408, 3) := by decide +kernel
theorem dX8_years_138 : decode cX8_years 138 = .ok (.istore 9, 2) := by decide +kernel
theorem dX8_years_140 : decode cX8_years 140 = .ok (.aload_n 0, 1) := by decide +kernel
theorem dX8_years_141 : decode cX8_years 141 = .ok (.aload_n 0, 1) := by decide +kernel
theorem dX8_years_142 : decode cX8_years 142 = .ok (.bipush 8, 2) := by decide +kernel
theorem dX8_years_144 : decode cX8_years 144 = .ok (.invokevirtual 439, 3) := by decide +kernel
theorem dX8_years_147 : decode cX8_years 147 = .ok (.iconst 1, 1) := by decide +kernel
theorem dX8_years_148 : decode cX8_years 148 = .ok (.iadd, 1) := by decide +kernel
theorem dX8_years_149 : decode cX8_years 149 = .ok (.invokevirtual 350, 3) := by decide +kernel
theorem dX8_years_152 : decode cX8_years 152 = .ok (.iinc 5 1, 3) := by decide +kernel
theorem dX8_years_155 : decode cX8_years 155 = .ok (.goto (-94), 3) := by decide +kernel
theorem dX8_years_158 : decode cX8_years 158 = .ok (.iload_n 3, 1) := by decide +kernel
theorem dX8_years_159 : decode cX8_years 159 = .ok (.ifCond .ne 11, 3) := by decide +kernel
theorem dX8_years_162 : decode cX8_years 162 = .ok (.aload_n 0, 1) := by decide +kernel
theorem dX8_years_163 : decode cX8_years 163 = .ok (.iconst 3, 1) := by decide +kernel
theorem dX8_years_164 : decode cX8_years 164 = .ok (.invokevirtual 344, 3) := by decide +kernel
theorem dX8_years_167 : decode cX8_years 167 = .ok (.goto 31, 3) := by decide +kernel
theorem dX8_years_170 : decode cX8_years 170 = .ok (.iload_n 3, 1) := by decide +kernel
theorem dX8_years_171 : decode cX8_years 171 = .ok (.iconst 1, 1) := by decide +kernel
theorem dX8_years_172 : decode cX8_years 172 = .ok (.if_icmp .ne 13, 3) := by decide +kernel
theorem dX8_years_175 : decode cX8_years 175 = .ok (.aload_n 0, 1) := by decide +kernel
theorem dX8_years_176 : decode cX8_years 176 = .ok (.invokevirtual 353, 3) := by decide +kernel
theorem dX8_years_179 : decode cX8_years 179 = .ok (.iload 4, 2) := by decide +kernel
theorem dX8_years_181 : decode cX8_years 181 = .ok (.isub, 1) := by decide +kernel
theorem dX8_years_182 : decode cX8_years 182 = .ok (.goto 16, 3) := by decide +kernel
theorem dX8_years_185 : decode cX8_years 185 = .ok (.aload_n 0, 1) := by decide +kernel
theorem dX8_years_186 : decode cX8_years 186 = .ok (.getfield 29, 3) := by decide +kernel
theorem dX8_years_189 : decode cX8_years 189 = .ok (.iconst 5, 1) := by decide +kernel
theorem dX8_years_190 : decode cX8_years 190 = .ok (.iaload, 1) := by decide +kernel
theorem dX8_years_191 : decode cX8_years 191 = .ok (.aload_n 0, 1) := by decide +kernel
theorem dX8_years_192 : decode cX8_years 192 = .ok (.getfield 79, 3) := by decide +kernel
theorem dX8_years_195 : decode cX8_years 195 = .ok (.iconst 5, 1) := by decide +kernel
theorem dX8_years_196 : decode cX8_years 196 = .ok (.iaload, 1) := by decide +kernel
theorem dX8_years_197 : decode cX8_years 197 = .ok (.isub, 1) := by decide +kernel
theorem dX8_years_198 : decode cX8_years 198 = .ok (.istore 5, 2) := by decide +kernel
theorem dX8_years_200 : decode cX8_years 200 = .ok (.aload_n 0, 1) := by decide +kernel
theorem dX8_years_201 : decode cX8_years 201 = .ok (.getfield 29, 3) := by decide +kernel
theorem dX8_years_204 : decode cX8_years 204 = .ok (.aload_n 0, 1) := by decide +kernel
theorem dX8_years_205 : decode cX8_years 205 = .ok (.getfield 79, 3) := by decide +kernel
theorem dX8_years_208 : decode cX8_years 208 = .ok (.invokestatic 204, 3) := by decide +kernel
theorem dX8_years_211 : decode cX8_years 211 = .ok (.iload 5, 2) := by decide +kernel
theorem dX8_years_213 : decode cX8_years 213 = .ok (.ireturn, 1) := by decide +kernel
set_option maxRecDepth 20000 in
set_option maxHeartbeats 4000000 in
theorem vX8_years_0 {l : Launch} {x : CX} {a0 : Nat} {x1 : Int32} {x2 : Int32} {x3 : Int32} {h : PH} {rc rs n0 : Nat} {Q : Option Value → PH → Prop} {X : String → PH → Prop}
    (K : ((hK h a0).1 = 8) ∧ ∃ (q2 : Int32 → PH → Prop), CI l x mX8_isIn 0 0 0 [.int x3, .int 0, .int 2] (sI h a0 1 0) q2 ∧ ∀ (r5 : Int32) (h4 : PH), q2 r5 h4 → ((¬ r5 = 0 → ∃ (q7 : Int32 → PH → Prop), CI l x mX8_isIn 0 0 0 [.int x2, .int 0, .int 20] h4 q7 ∧ ∀ (r10 : Int32) (h9 : PH), q7 r10 h9 → ((¬ r10 = 0 → ((hK h9 a0).1 = 8) ∧ ∃ b13, (hR h9 a0 33 = some b13) ∧ ∃ b15, (hR h9 a0 2 = some b15) ∧ ∃ (q17 : PH → Prop), CV l x mX8_copyTo 0 0 0 [.ref b13, .ref b15] h9 q17 ∧ ∀ (h19 : PH), q17 h19 → ((hK h19 a0).1 = 8) ∧ ∃ (q20 : Int32 → PH → Prop), CI l x mX8_waited 1 0 0 [.ref a0] h19 q20 ∧ ∀ (r24 : Int32) (h23 : PH), q20 r24 h23 → ((hK h23 a0).1 = 8) ∧ Gm l x mX8_years 12 61 [(0, .ref a0), (1, .int x1), (2, .int x2), (3, .int x3), (4, .int r24), (5, .int 0)] [] (sI h23 a0 32 x1) rc rs n0 Q X) ∧ (r10 = 0 → ((hK h9 a0).1 = 8) ∧ ∃ (q26 : Int32 → PH → Prop), CI l x mX8_fail 0 0 0 [.ref a0, .int 2] h9 q26 ∧ ∀ (r30 : Int32) (h29 : PH), q26 r30 h29 → Q (some (.int r30)) h29))) ∧ (r5 = 0 → ((hK h4 a0).1 = 8) ∧ ∃ (q31 : Int32 → PH → Prop), CI l x mX8_fail 0 0 0 [.ref a0, .int 1] h4 q31 ∧ ∀ (r35 : Int32) (h34 : PH), q31 r35 h34 → Q (some (.int r35)) h34))) :
    Gm l x mX8_years 12 0 [(0, .ref a0), (1, .int x1), (2, .int x2), (3, .int x3)] [] h rc rs n0 Q X := by
  refine g_aload_n dX8_years_0 rfl 0 rfl ?_
  refine g_iconst (v := 0) dX8_years_1 (by decide) ?_
  obtain ⟨e1, K⟩ := K
  refine g_puti (c := 8) (k := 1) dX8_years_2 fc_8 (by decide) (by decide) bw_1199 (Or.inl rfl) rfl e1 ?_
  refine g_iload_n dX8_years_5 rfl 3 rfl ?_
  refine g_iconst (v := 0) dX8_years_6 (by decide) ?_
  refine g_iconst (v := 2) dX8_years_7 (by decide) ?_
  obtain ⟨q2, C3, K⟩ := K
  refine g_callS (M' := mX8_isIn) (As := [.int x3, .int 0, .int 2]) (rest := []) (rc' := rc) (rs' := rs) dX8_years_8 bw_1612 bw_1613 bw_9 bw_1614 ⟨by decide +kernel, by decide +kernel, show (parseMethodDescriptor mX8_isIn.1.desc).map (fun d => d.parameters.length) = some 3 by decide +kernel⟩ (by decide) (by decide) (Nat.le_of_ble_eq_true rfl) C3 (Nat.le_of_eq (Nat.add_zero _)) (Nat.le_of_eq (Nat.add_zero _)) (fun _ _ h => h) ?_
  rintro _ h4 ⟨r5, rfl, K1⟩ -
  replace K := K r5 h4 K1
  show Gm l x mX8_years 12 11 [(0, .ref a0), (1, .int x1), (2, .int x2), (3, .int x3)] [.int r5] h4 rc rs n0 Q X
  refine g_if_ne (tgt := 20) dX8_years_11 (by decide) (fun c6 => ?_) (fun c6 => ?_)
  · replace K := K.1 c6
    refine g_iload_n dX8_years_20 rfl 2 rfl ?_
    refine g_iconst (v := 0) dX8_years_21 (by decide) ?_
    refine g_bipush (v := 20) dX8_years_22 (by decide) ?_
    obtain ⟨q7, C8, K⟩ := K
    refine g_callS (M' := mX8_isIn) (As := [.int x2, .int 0, .int 20]) (rest := []) (rc' := rc) (rs' := rs) dX8_years_24 bw_1612 bw_1613 bw_9 bw_1614 ⟨by decide +kernel, by decide +kernel, show (parseMethodDescriptor mX8_isIn.1.desc).map (fun d => d.parameters.length) = some 3 by decide +kernel⟩ (by decide) (by decide) (Nat.le_of_ble_eq_true rfl) C8 (Nat.le_of_eq (Nat.add_zero _)) (Nat.le_of_eq (Nat.add_zero _)) (fun _ _ h => h) ?_
    rintro _ h9 ⟨r10, rfl, K1⟩ -
    replace K := K r10 h9 K1
    show Gm l x mX8_years 12 27 [(0, .ref a0), (1, .int x1), (2, .int x2), (3, .int x3)] [.int r10] h9 rc rs n0 Q X
    refine g_if_ne (tgt := 36) dX8_years_27 (by decide) (fun c11 => ?_) (fun c11 => ?_)
    · replace K := K.1 c11
      refine g_aload_n dX8_years_36 rfl 0 rfl ?_
      obtain ⟨e12, b13, e14, K⟩ := K
      refine g_get (c := 8) (k := 33) (v := .ref b13) dX8_years_37 fc_8 (by decide) (by decide) bw_1231 (congrArg pr e14) e12 ?_
      refine g_aload_n dX8_years_40 rfl 0 rfl ?_
      obtain ⟨b15, e16, K⟩ := K
      refine g_get (c := 8) (k := 2) (v := .ref b15) dX8_years_41 fc_8 (by decide) (by decide) bw_1200 (congrArg pr e16) e12 ?_
      obtain ⟨q17, C18, K⟩ := K
      refine g_callS (M' := mX8_copyTo) (As := [.ref b13, .ref b15]) (rest := []) (rc' := rc) (rs' := rs) dX8_years_44 bw_1398 bw_1399 bw_9 bw_1400 ⟨by decide +kernel, by decide +kernel, show (parseMethodDescriptor mX8_copyTo.1.desc).map (fun d => d.parameters.length) = some 2 by decide +kernel⟩ (by decide) (by decide) (Nat.le_of_ble_eq_true rfl) C18 (Nat.le_of_eq (Nat.add_zero _)) (Nat.le_of_eq (Nat.add_zero _)) (fun _ _ h => h) ?_
      rintro _ h19 ⟨rfl, K1⟩ -
      replace K := K h19 K1
      show Gm l x mX8_years 12 47 [(0, .ref a0), (1, .int x1), (2, .int x2), (3, .int x3)] [] h19 rc rs n0 Q X
      refine g_aload_n dX8_years_47 rfl 0 rfl ?_
      obtain ⟨e22, K⟩ := K
      obtain ⟨q20, C21, K⟩ := K
      refine g_callV (M' := mX8_waited) (b := a0) (As := []) (rest := []) (rc' := rc) (rs' := rs) dX8_years_48 bw_1429 bw_1431 bs_56 bw_9 bw_1432 ⟨by decide +kernel, by decide +kernel, show (parseMethodDescriptor mX8_waited.1.desc).map (fun d => d.parameters.length) = some 0 by decide +kernel⟩ (by decide) (by decide) (Nat.le_of_ble_eq_true rfl) fc_8 (by decide) rfl e22 C21 (Nat.le_of_eq (Nat.add_zero _)) (Nat.le_of_eq (Nat.add_zero _)) (fun _ _ h => h) ?_
      rintro _ h23 ⟨r24, rfl, K1⟩ -
      replace K := K r24 h23 K1
      show Gm l x mX8_years 12 51 [(0, .ref a0), (1, .int x1), (2, .int x2), (3, .int x3)] [.int r24] h23 rc rs n0 Q X
      refine g_istore (lv' := [(0, .ref a0), (1, .int x1), (2, .int x2), (3, .int x3), (4, .int r24)]) dX8_years_51 (by decide) rfl ?_
      refine g_aload_n dX8_years_53 rfl 0 rfl ?_
      refine g_iload_n dX8_years_54 rfl 1 rfl ?_
      obtain ⟨e25, K⟩ := K
      refine g_puti (c := 8) (k := 32) dX8_years_55 fc_8 (by decide) (by decide) bw_1230 (Or.inl rfl) rfl e25 ?_
      refine g_iconst (v := 0) dX8_years_58 (by decide) ?_
      refine g_istore (lv' := [(0, .ref a0), (1, .int x1), (2, .int x2), (3, .int x3), (4, .int r24), (5, .int 0)]) dX8_years_59 (by decide) rfl ?_
      exact K
    · replace K := K.2 c11
      refine g_aload_n dX8_years_30 rfl 0 rfl ?_
      refine g_iconst (v := 2) dX8_years_31 (by decide) ?_
      obtain ⟨e28, K⟩ := K
      obtain ⟨q26, C27, K⟩ := K
      refine g_callV (M' := mX8_fail) (b := a0) (As := [.int 2]) (rest := []) (rc' := rc) (rs' := rs) dX8_years_32 bw_1337 bw_1339 bs_39 bw_9 bw_1340 ⟨by decide +kernel, by decide +kernel, show (parseMethodDescriptor mX8_fail.1.desc).map (fun d => d.parameters.length) = some 1 by decide +kernel⟩ (by decide) (by decide) (Nat.le_of_ble_eq_true rfl) fc_8 (by decide) rfl e28 C27 (Nat.le_of_eq (Nat.add_zero _)) (Nat.le_of_eq (Nat.add_zero _)) (fun _ _ h => h) ?_
      rintro _ h29 ⟨r30, rfl, K1⟩ -
      replace K := K r30 h29 K1
      show Gm l x mX8_years 12 35 [(0, .ref a0), (1, .int x1), (2, .int x2), (3, .int x3)] [.int r30] h29 rc rs n0 Q X
      exact g_iret dX8_years_35 rfl K
  · replace K := K.2 c6
    refine g_aload_n dX8_years_14 rfl 0 rfl ?_
    refine g_iconst (v := 1) dX8_years_15 (by decide) ?_
    obtain ⟨e33, K⟩ := K
    obtain ⟨q31, C32, K⟩ := K
    refine g_callV (M' := mX8_fail) (b := a0) (As := [.int 1]) (rest := []) (rc' := rc) (rs' := rs) dX8_years_16 bw_1337 bw_1339 bs_39 bw_9 bw_1340 ⟨by decide +kernel, by decide +kernel, show (parseMethodDescriptor mX8_fail.1.desc).map (fun d => d.parameters.length) = some 1 by decide +kernel⟩ (by decide) (by decide) (Nat.le_of_ble_eq_true rfl) fc_8 (by decide) rfl e33 C32 (Nat.le_of_eq (Nat.add_zero _)) (Nat.le_of_eq (Nat.add_zero _)) (fun _ _ h => h) ?_
    rintro _ h34 ⟨r35, rfl, K1⟩ -
    replace K := K r35 h34 K1
    show Gm l x mX8_years 12 19 [(0, .ref a0), (1, .int x1), (2, .int x2), (3, .int x3)] [.int r35] h34 rc rs n0 Q X
    exact g_iret dX8_years_19 rfl K
set_option maxRecDepth 20000 in
set_option maxHeartbeats 4000000 in
theorem vX8_years_61 {l : Launch} {x : CX} {a0 : Nat} {x1 : Int32} {x2 : Int32} {x3 : Int32} {x4 : Int32} {x5 : Int32} {h : PH} {rc rs n0 : Nat} {Q : Option Value → PH → Prop} {X : String → PH → Prop}
    (K : ((x2 ≤ x5 → ((¬ x3 = 0 → ((¬ x3 = 1 → ((hK h a0).1 = 8) ∧ ∃ b5, (hR h a0 2 = some b5) ∧ ((hK h b5).1 = 100) ∧ (vp_in 5 (hK h b5).2) ∧ ∃ b9, (hR h a0 33 = some b9) ∧ ((hK h b9).1 = 100) ∧ (vp_in 5 (hK h b9).2) ∧ ∀ (y13 : Int32), y13 = ((hI h b5 (Int32.toNatClampNeg 5)) - (hI h b9 (Int32.toNatClampNeg 5))) → ∃ (q15 : PH → Prop), CV l x mX8_copyTo 0 0 0 [.ref b5, .ref b9] h q15 ∧ ∀ (h17 : PH), q15 h17 → Q (some (.int y13)) h17) ∧ (x3 = 1 → ((hK h a0).1 = 8) ∧ ∃ (q18 : Int32 → PH → Prop), CI l x mX8_waited 1 0 0 [.ref a0] h q18 ∧ ∀ (r22 : Int32) (h21 : PH), q18 r22 h21 → ((hK h21 a0).1 = 8) ∧ ∃ b24, (hR h21 a0 2 = some b24) ∧ ∃ b26, (hR h21 a0 33 = some b26) ∧ ∃ (q28 : PH → Prop), CV l x mX8_copyTo 0 0 0 [.ref b24, .ref b26] h21 q28 ∧ ∀ (h30 : PH), q28 h30 → Q (some (.int (r22 - x4))) h30))) ∧ (x3 = 0 → ((hK h a0).1 = 8) ∧ ∃ (q31 : Int32 → PH → Prop), CI l x mX8_many 1 0 0 [.ref a0, .int 3] h q31 ∧ ∀ (r35 : Int32) (h34 : PH), q31 r35 h34 → ((hK h34 a0).1 = 8) ∧ ∃ b37, (hR h34 a0 2 = some b37) ∧ ∃ b39, (hR h34 a0 33 = some b39) ∧ ∃ (q41 : PH → Prop), CV l x mX8_copyTo 0 0 0 [.ref b37, .ref b39] h34 q41 ∧ ∀ (h43 : PH), q41 h43 → Q (some (.int r35)) h43))) ∧ (¬ x2 ≤ x5 → ((hK h a0).1 = 8) ∧ ∃ b45, (hR h a0 4 = some b45) ∧ ((hK h b45).1 = 100) ∧ (vp_in 0 (hK h b45).2) ∧ ∃ (q49 : Int32 → PH → Prop), CI l x mX8_draw 0 0 0 [.ref a0, .int (hI h b45 (Int32.toNatClampNeg 0))] h q49 ∧ ∀ (r52 : Int32) (h51 : PH), q49 r52 h51 → ((hK h51 a0).1 = 8) ∧ ∃ b54, (hR h51 a0 4 = some b54) ∧ ((hK h51 b54).1 = 100) ∧ (vp_in 0 (hK h51 b54).2) ∧ ∃ (q58 : Int32 → PH → Prop), CI l x mX8_draw 0 0 0 [.ref a0, .int ((hI h51 b54 (Int32.toNatClampNeg 0)) - 1)] h51 q58 ∧ ∀ (r61 : Int32) (h60 : PH), q58 r61 h60 → ((hK h60 a0).1 = 8) ∧ ∃ (q62 : Int32 → PH → Prop), CI l x mX8_draw 0 0 0 [.ref a0, .int 2] h60 q62 ∧ ∀ (r66 : Int32) (h65 : PH), q62 r66 h65 → ((hK h65 a0).1 = 8) ∧ ∃ b68, (hR h65 a0 2 = some b68) ∧ ((hK h65 b68).1 = 100) ∧ (vp_in 6 (hK h65 b68).2) ∧ ((24 ≤ (hI h65 b68 (Int32.toNatClampNeg 6)) → ∃ (q73 : Int32 → PH → Prop), CI l x mX8_draw 0 0 0 [.ref a0, .int 8] h65 q73 ∧ ∀ (r76 : Int32) (h75 : PH), q73 r76 h75 → ((hK h75 a0).1 = 8) ∧ ∃ (q77 : PH → Prop), CV l x mX8_ticksNow 11 0 0 [.ref a0, .int (r76 + 1)] h75 q77 ∧ ∀ (h80 : PH), q77 h80 → Gm l x mX8_years 12 61 [(0, .ref a0), (1, .int x1), (2, .int x2), (3, .int x3), (4, .int x4), (5, .int (x5 + 1))] [] h80 rc rs n0 Q X) ∧ (¬ 24 ≤ (hI h65 b68 (Int32.toNatClampNeg 6)) → ∃ (q82 : Int32 → PH → Prop), CI l x mX8_comesNow 2 0 0 [.ref a0, .int r52, .int (if r61 < r52 then r61 else (r61 + 1) : Int32), .int (r66 + 1)] h65 q82 ∧ ∀ (r85 : Int32) (h84 : PH), q82 r85 h84 → ((hK h84 a0).1 = 8) ∧ ∃ (q86 : Int32 → PH → Prop), CI l x mX8_draw 0 0 0 [.ref a0, .int 8] h84 q86 ∧ ∀ (r90 : Int32) (h89 : PH), q86 r90 h89 → ((hK h89 a0).1 = 8) ∧ ∃ (q91 : PH → Prop), CV l x mX8_ticksNow 11 0 0 [.ref a0, .int (r90 + 1)] h89 q91 ∧ ∀ (h94 : PH), q91 h94 → Gm l x mX8_years 12 61 [(0, .ref a0), (1, .int x1), (2, .int x2), (3, .int x3), (4, .int x4), (5, .int (x5 + 1))] [] h94 rc rs n0 Q X))))) :
    Gm l x mX8_years 12 61 [(0, .ref a0), (1, .int x1), (2, .int x2), (3, .int x3), (4, .int x4), (5, .int x5)] [] h rc rs n0 Q X := by
  refine g_iload dX8_years_61 5 rfl ?_
  refine g_iload_n dX8_years_63 rfl 2 rfl ?_
  refine g_icmp_ge (tgt := 158) dX8_years_64 (by decide) (fun c1 => ?_) (fun c1 => ?_)
  · replace K := K.1 c1
    refine g_iload_n dX8_years_158 rfl 3 rfl ?_
    refine g_if_ne (tgt := 170) dX8_years_159 (by decide) (fun c2 => ?_) (fun c2 => ?_)
    · replace K := K.1 c2
      refine g_iload_n dX8_years_170 rfl 3 rfl ?_
      refine g_iconst (v := 1) dX8_years_171 (by decide) ?_
      refine g_icmp_ne (tgt := 185) dX8_years_172 (by decide) (fun c3 => ?_) (fun c3 => ?_)
      · replace K := K.1 c3
        refine g_aload_n dX8_years_185 rfl 0 rfl ?_
        obtain ⟨e4, b5, e6, K⟩ := K
        refine g_get (c := 8) (k := 2) (v := .ref b5) dX8_years_186 fc_8 (by decide) (by decide) bw_1200 (congrArg pr e6) e4 ?_
        refine g_iconst (v := 5) dX8_years_189 (by decide) ?_
        obtain ⟨e7, e8, K⟩ := K
        refine g_iald dX8_years_190 e7 e8 ?_
        refine g_aload_n dX8_years_191 rfl 0 rfl ?_
        obtain ⟨b9, e10, K⟩ := K
        refine g_get (c := 8) (k := 33) (v := .ref b9) dX8_years_192 fc_8 (by decide) (by decide) bw_1231 (congrArg pr e10) e4 ?_
        refine g_iconst (v := 5) dX8_years_195 (by decide) ?_
        obtain ⟨e11, e12, K⟩ := K
        refine g_iald dX8_years_196 e11 e12 ?_
        refine g_isub dX8_years_197 ?_
        refine g_nmI (fun y13 e14 => ?_)
        replace K := K y13 e14
        refine g_istore (lv' := [(0, .ref a0), (1, .int x1), (2, .int x2), (3, .int x3), (4, .int x4), (5, .int y13)]) dX8_years_198 (by decide) rfl ?_
        refine g_aload_n dX8_years_200 rfl 0 rfl ?_
        refine g_get (c := 8) (k := 2) (v := .ref b5) dX8_years_201 fc_8 (by decide) (by decide) bw_1200 (congrArg pr e6) e4 ?_
        refine g_aload_n dX8_years_204 rfl 0 rfl ?_
        refine g_get (c := 8) (k := 33) (v := .ref b9) dX8_years_205 fc_8 (by decide) (by decide) bw_1231 (congrArg pr e10) e4 ?_
        obtain ⟨q15, C16, K⟩ := K
        refine g_callS (M' := mX8_copyTo) (As := [.ref b5, .ref b9]) (rest := []) (rc' := rc) (rs' := rs) dX8_years_208 bw_1398 bw_1399 bw_9 bw_1400 ⟨by decide +kernel, by decide +kernel, show (parseMethodDescriptor mX8_copyTo.1.desc).map (fun d => d.parameters.length) = some 2 by decide +kernel⟩ (by decide) (by decide) (Nat.le_of_ble_eq_true rfl) C16 (Nat.le_of_eq (Nat.add_zero _)) (Nat.le_of_eq (Nat.add_zero _)) (fun _ _ h => h) ?_
        rintro _ h17 ⟨rfl, K1⟩ -
        replace K := K h17 K1
        show Gm l x mX8_years 12 211 [(0, .ref a0), (1, .int x1), (2, .int x2), (3, .int x3), (4, .int x4), (5, .int y13)] [] h17 rc rs n0 Q X
        refine g_iload dX8_years_211 5 rfl ?_
        exact g_iret dX8_years_213 rfl K
      · replace K := K.2 c3
        refine g_aload_n dX8_years_175 rfl 0 rfl ?_
        obtain ⟨e20, K⟩ := K
        obtain ⟨q18, C19, K⟩ := K
        refine g_callV (M' := mX8_waited) (b := a0) (As := []) (rest := []) (rc' := rc) (rs' := rs) dX8_years_176 bw_1429 bw_1431 bs_56 bw_9 bw_1432 ⟨by decide +kernel, by decide +kernel, show (parseMethodDescriptor mX8_waited.1.desc).map (fun d => d.parameters.length) = some 0 by decide +kernel⟩ (by decide) (by decide) (Nat.le_of_ble_eq_true rfl) fc_8 (by decide) rfl e20 C19 (Nat.le_of_eq (Nat.add_zero _)) (Nat.le_of_eq (Nat.add_zero _)) (fun _ _ h => h) ?_
        rintro _ h21 ⟨r22, rfl, K1⟩ -
        replace K := K r22 h21 K1
        show Gm l x mX8_years 12 179 [(0, .ref a0), (1, .int x1), (2, .int x2), (3, .int x3), (4, .int x4), (5, .int x5)] [.int r22] h21 rc rs n0 Q X
        refine g_iload dX8_years_179 4 rfl ?_
        refine g_isub dX8_years_181 ?_
        refine g_goto (tgt := 198) dX8_years_182 (by decide) ?_
        refine g_istore (lv' := [(0, .ref a0), (1, .int x1), (2, .int x2), (3, .int x3), (4, .int x4), (5, .int (r22 - x4))]) dX8_years_198 (by decide) rfl ?_
        refine g_aload_n dX8_years_200 rfl 0 rfl ?_
        obtain ⟨e23, b24, e25, K⟩ := K
        refine g_get (c := 8) (k := 2) (v := .ref b24) dX8_years_201 fc_8 (by decide) (by decide) bw_1200 (congrArg pr e25) e23 ?_
        refine g_aload_n dX8_years_204 rfl 0 rfl ?_
        obtain ⟨b26, e27, K⟩ := K
        refine g_get (c := 8) (k := 33) (v := .ref b26) dX8_years_205 fc_8 (by decide) (by decide) bw_1231 (congrArg pr e27) e23 ?_
        obtain ⟨q28, C29, K⟩ := K
        refine g_callS (M' := mX8_copyTo) (As := [.ref b24, .ref b26]) (rest := []) (rc' := rc) (rs' := rs) dX8_years_208 bw_1398 bw_1399 bw_9 bw_1400 ⟨by decide +kernel, by decide +kernel, show (parseMethodDescriptor mX8_copyTo.1.desc).map (fun d => d.parameters.length) = some 2 by decide +kernel⟩ (by decide) (by decide) (Nat.le_of_ble_eq_true rfl) C29 (Nat.le_of_eq (Nat.add_zero _)) (Nat.le_of_eq (Nat.add_zero _)) (fun _ _ h => h) ?_
        rintro _ h30 ⟨rfl, K1⟩ -
        replace K := K h30 K1
        show Gm l x mX8_years 12 211 [(0, .ref a0), (1, .int x1), (2, .int x2), (3, .int x3), (4, .int x4), (5, .int (r22 - x4))] [] h30 rc rs n0 Q X
        refine g_iload dX8_years_211 5 rfl ?_
        exact g_iret dX8_years_213 rfl K
    · replace K := K.2 c2
      refine g_aload_n dX8_years_162 rfl 0 rfl ?_
      refine g_iconst (v := 3) dX8_years_163 (by decide) ?_
      obtain ⟨e33, K⟩ := K
      obtain ⟨q31, C32, K⟩ := K
      refine g_callV (M' := mX8_many) (b := a0) (As := [.int 3]) (rest := []) (rc' := rc) (rs' := rs) dX8_years_164 bw_1409 bw_1411 bs_51 bw_9 bw_1412 ⟨by decide +kernel, by decide +kernel, show (parseMethodDescriptor mX8_many.1.desc).map (fun d => d.parameters.length) = some 1 by decide +kernel⟩ (by decide) (by decide) (Nat.le_of_ble_eq_true rfl) fc_8 (by decide) rfl e33 C32 (Nat.le_of_eq (Nat.add_zero _)) (Nat.le_of_eq (Nat.add_zero _)) (fun _ _ h => h) ?_
      rintro _ h34 ⟨r35, rfl, K1⟩ -
      replace K := K r35 h34 K1
      show Gm l x mX8_years 12 167 [(0, .ref a0), (1, .int x1), (2, .int x2), (3, .int x3), (4, .int x4), (5, .int x5)] [.int r35] h34 rc rs n0 Q X
      refine g_goto (tgt := 198) dX8_years_167 (by decide) ?_
      refine g_istore (lv' := [(0, .ref a0), (1, .int x1), (2, .int x2), (3, .int x3), (4, .int x4), (5, .int r35)]) dX8_years_198 (by decide) rfl ?_
      refine g_aload_n dX8_years_200 rfl 0 rfl ?_
      obtain ⟨e36, b37, e38, K⟩ := K
      refine g_get (c := 8) (k := 2) (v := .ref b37) dX8_years_201 fc_8 (by decide) (by decide) bw_1200 (congrArg pr e38) e36 ?_
      refine g_aload_n dX8_years_204 rfl 0 rfl ?_
      obtain ⟨b39, e40, K⟩ := K
      refine g_get (c := 8) (k := 33) (v := .ref b39) dX8_years_205 fc_8 (by decide) (by decide) bw_1231 (congrArg pr e40) e36 ?_
      obtain ⟨q41, C42, K⟩ := K
      refine g_callS (M' := mX8_copyTo) (As := [.ref b37, .ref b39]) (rest := []) (rc' := rc) (rs' := rs) dX8_years_208 bw_1398 bw_1399 bw_9 bw_1400 ⟨by decide +kernel, by decide +kernel, show (parseMethodDescriptor mX8_copyTo.1.desc).map (fun d => d.parameters.length) = some 2 by decide +kernel⟩ (by decide) (by decide) (Nat.le_of_ble_eq_true rfl) C42 (Nat.le_of_eq (Nat.add_zero _)) (Nat.le_of_eq (Nat.add_zero _)) (fun _ _ h => h) ?_
      rintro _ h43 ⟨rfl, K1⟩ -
      replace K := K h43 K1
      show Gm l x mX8_years 12 211 [(0, .ref a0), (1, .int x1), (2, .int x2), (3, .int x3), (4, .int x4), (5, .int r35)] [] h43 rc rs n0 Q X
      refine g_iload dX8_years_211 5 rfl ?_
      exact g_iret dX8_years_213 rfl K
  · replace K := K.2 c1
    refine g_aload_n dX8_years_67 rfl 0 rfl ?_
    refine g_aload_n dX8_years_68 rfl 0 rfl ?_
    obtain ⟨e44, b45, e46, K⟩ := K
    refine g_get (c := 8) (k := 4) (v := .ref b45) dX8_years_69 fc_8 (by decide) (by decide) bw_1202 (congrArg pr e46) e44 ?_
    refine g_iconst (v := 0) dX8_years_72 (by decide) ?_
    obtain ⟨e47, e48, K⟩ := K
    refine g_iald dX8_years_73 e47 e48 ?_
    obtain ⟨q49, C50, K⟩ := K
    refine g_callV (M' := mX8_draw) (b := a0) (As := [.int (hI h b45 (Int32.toNatClampNeg 0))]) (rest := []) (rc' := rc) (rs' := rs) dX8_years_74 bw_1735 bw_1737 bs_104 bw_9 bw_1738 ⟨by decide +kernel, by decide +kernel, show (parseMethodDescriptor mX8_draw.1.desc).map (fun d => d.parameters.length) = some 1 by decide +kernel⟩ (by decide) (by decide) (Nat.le_of_ble_eq_true rfl) fc_8 (by decide) rfl e44 C50 (Nat.le_of_eq (Nat.add_zero _)) (Nat.le_of_eq (Nat.add_zero _)) (fun _ _ h => h) ?_
    rintro _ h51 ⟨r52, rfl, K1⟩ -
    replace K := K r52 h51 K1
    show Gm l x mX8_years 12 77 [(0, .ref a0), (1, .int x1), (2, .int x2), (3, .int x3), (4, .int x4), (5, .int x5)] [.int r52] h51 rc rs n0 Q X
    refine g_istore (lv' := [(0, .ref a0), (1, .int x1), (2, .int x2), (3, .int x3), (4, .int x4), (5, .int x5), (6, .int r52)]) dX8_years_77 (by decide) rfl ?_
    refine g_aload_n dX8_years_79 rfl 0 rfl ?_
    refine g_aload_n dX8_years_80 rfl 0 rfl ?_
    obtain ⟨e53, b54, e55, K⟩ := K
    refine g_get (c := 8) (k := 4) (v := .ref b54) dX8_years_81 fc_8 (by decide) (by decide) bw_1202 (congrArg pr e55) e53 ?_
    refine g_iconst (v := 0) dX8_years_84 (by decide) ?_
    obtain ⟨e56, e57, K⟩ := K
    refine g_iald dX8_years_85 e56 e57 ?_
    refine g_iconst (v := 1) dX8_years_86 (by decide) ?_
    refine g_isub dX8_years_87 ?_
    obtain ⟨q58, C59, K⟩ := K
    refine g_callV (M' := mX8_draw) (b := a0) (As := [.int ((hI h51 b54 (Int32.toNatClampNeg 0)) - 1)]) (rest := []) (rc' := rc) (rs' := rs) dX8_years_88 bw_1735 bw_1737 bs_104 bw_9 bw_1738 ⟨by decide +kernel, by decide +kernel, show (parseMethodDescriptor mX8_draw.1.desc).map (fun d => d.parameters.length) = some 1 by decide +kernel⟩ (by decide) (by decide) (Nat.le_of_ble_eq_true rfl) fc_8 (by decide) rfl e53 C59 (Nat.le_of_eq (Nat.add_zero _)) (Nat.le_of_eq (Nat.add_zero _)) (fun _ _ h => h) ?_
    rintro _ h60 ⟨r61, rfl, K1⟩ -
    replace K := K r61 h60 K1
    show Gm l x mX8_years 12 91 [(0, .ref a0), (1, .int x1), (2, .int x2), (3, .int x3), (4, .int x4), (5, .int x5), (6, .int r52)] [.int r61] h60 rc rs n0 Q X
    refine g_istore (lv' := [(0, .ref a0), (1, .int x1), (2, .int x2), (3, .int x3), (4, .int x4), (5, .int x5), (6, .int r52), (7, .int r61)]) dX8_years_91 (by decide) rfl ?_
    refine g_aload_n dX8_years_93 rfl 0 rfl ?_
    refine g_iconst (v := 2) dX8_years_94 (by decide) ?_
    obtain ⟨e64, K⟩ := K
    obtain ⟨q62, C63, K⟩ := K
    refine g_callV (M' := mX8_draw) (b := a0) (As := [.int 2]) (rest := []) (rc' := rc) (rs' := rs) dX8_years_95 bw_1735 bw_1737 bs_104 bw_9 bw_1738 ⟨by decide +kernel, by decide +kernel, show (parseMethodDescriptor mX8_draw.1.desc).map (fun d => d.parameters.length) = some 1 by decide +kernel⟩ (by decide) (by decide) (Nat.le_of_ble_eq_true rfl) fc_8 (by decide) rfl e64 C63 (Nat.le_of_eq (Nat.add_zero _)) (Nat.le_of_eq (Nat.add_zero _)) (fun _ _ h => h) ?_
    rintro _ h65 ⟨r66, rfl, K1⟩ -
    replace K := K r66 h65 K1
    show Gm l x mX8_years 12 98 [(0, .ref a0), (1, .int x1), (2, .int x2), (3, .int x3), (4, .int x4), (5, .int x5), (6, .int r52), (7, .int r61)] [.int r66] h65 rc rs n0 Q X
    refine g_iconst (v := 1) dX8_years_98 (by decide) ?_
    refine g_iadd dX8_years_99 ?_
    refine g_istore (lv' := [(0, .ref a0), (1, .int x1), (2, .int x2), (3, .int x3), (4, .int x4), (5, .int x5), (6, .int r52), (7, .int r61), (8, .int (r66 + 1))]) dX8_years_100 (by decide) rfl ?_
    refine g_aload_n dX8_years_102 rfl 0 rfl ?_
    obtain ⟨e67, b68, e69, K⟩ := K
    refine g_get (c := 8) (k := 2) (v := .ref b68) dX8_years_103 fc_8 (by decide) (by decide) bw_1200 (congrArg pr e69) e67 ?_
    refine g_bipush (v := 6) dX8_years_106 (by decide) ?_
    obtain ⟨e70, e71, K⟩ := K
    refine g_iald dX8_years_108 e70 e71 ?_
    refine g_bipush (v := 24) dX8_years_109 (by decide) ?_
    refine g_icmp_ge (tgt := 140) dX8_years_111 (by decide) (fun c72 => ?_) (fun c72 => ?_)
    · replace K := K.1 c72
      refine g_aload_n dX8_years_140 rfl 0 rfl ?_
      refine g_aload_n dX8_years_141 rfl 0 rfl ?_
      refine g_bipush (v := 8) dX8_years_142 (by decide) ?_
      obtain ⟨q73, C74, K⟩ := K
      refine g_callV (M' := mX8_draw) (b := a0) (As := [.int 8]) (rest := [.ref a0]) (rc' := rc) (rs' := rs) dX8_years_144 bw_1735 bw_1737 bs_104 bw_9 bw_1738 ⟨by decide +kernel, by decide +kernel, show (parseMethodDescriptor mX8_draw.1.desc).map (fun d => d.parameters.length) = some 1 by decide +kernel⟩ (by decide) (by decide) (Nat.le_of_ble_eq_true rfl) fc_8 (by decide) rfl e67 C74 (Nat.le_of_eq (Nat.add_zero _)) (Nat.le_of_eq (Nat.add_zero _)) (fun _ _ h => h) ?_
      rintro _ h75 ⟨r76, rfl, K1⟩ -
      replace K := K r76 h75 K1
      show Gm l x mX8_years 12 147 [(0, .ref a0), (1, .int x1), (2, .int x2), (3, .int x3), (4, .int x4), (5, .int x5), (6, .int r52), (7, .int r61), (8, .int (r66 + 1))] [.int r76, .ref a0] h75 rc rs n0 Q X
      refine g_iconst (v := 1) dX8_years_147 (by decide) ?_
      refine g_iadd dX8_years_148 ?_
      obtain ⟨e79, K⟩ := K
      obtain ⟨q77, C78, K⟩ := K
      refine g_callV (M' := mX8_ticksNow) (b := a0) (As := [.int (r76 + 1)]) (rest := []) (rc' := rc) (rs' := rs) dX8_years_149 bw_1453 bw_1455 bs_62 bw_9 bw_1456 ⟨by decide +kernel, by decide +kernel, show (parseMethodDescriptor mX8_ticksNow.1.desc).map (fun d => d.parameters.length) = some 1 by decide +kernel⟩ (by decide) (by decide) (Nat.le_of_ble_eq_true rfl) fc_8 (by decide) rfl e79 C78 (Nat.le_of_eq (Nat.add_zero _)) (Nat.le_of_eq (Nat.add_zero _)) (fun _ _ h => h) ?_
      rintro _ h80 ⟨rfl, K1⟩ -
      replace K := K h80 K1
      show Gm l x mX8_years 12 152 [(0, .ref a0), (1, .int x1), (2, .int x2), (3, .int x3), (4, .int x4), (5, .int x5), (6, .int r52), (7, .int r61), (8, .int (r66 + 1))] [] h80 rc rs n0 Q X
      refine g_iinc (v := (x5 + 1)) (lv' := [(0, .ref a0), (1, .int x1), (2, .int x2), (3, .int x3), (4, .int x4), (5, .int (x5 + 1)), (6, .int r52), (7, .int r61), (8, .int (r66 + 1))]) dX8_years_152 5 rfl (by rfl) (by decide) rfl ?_
      refine g_goto (tgt := 61) dX8_years_155 (by decide) ?_
      exact Gm.sub [0, 1, 2, 3, 4, 5] rfl K
    · replace K := K.2 c72
      refine g_aload_n dX8_years_114 rfl 0 rfl ?_
      refine g_iload dX8_years_115 6 rfl ?_
      refine g_iload dX8_years_117 7 rfl ?_
      refine g_iload dX8_years_119 6 rfl ?_
      have KJ : Gm l x mX8_years 12 133 [(0, .ref a0), (1, .int x1), (2, .int x2), (3, .int x3), (4, .int x4), (5, .int x5), (6, .int r52), (7, .int r61), (8, .int (r66 + 1))] [.int (if r61 < r52 then r61 else (r61 + 1) : Int32), .int r52, .ref a0] h65 rc rs n0 Q X := by
        refine g_iload dX8_years_133 8 rfl ?_
        obtain ⟨q82, C83, K⟩ := K
        refine g_callV (M' := mX8_comesNow) (b := a0) (As := [.int r52, .int (if r61 < r52 then r61 else (r61 + 1) : Int32), .int (r66 + 1)]) (rest := []) (rc' := rc) (rs' := rs) dX8_years_135 bw_1651 bw_1653 bs_99 bw_9 bw_1654 ⟨by decide +kernel, by decide +kernel, show (parseMethodDescriptor mX8_comesNow.1.desc).map (fun d => d.parameters.length) = some 3 by decide +kernel⟩ (by decide) (by decide) (Nat.le_of_ble_eq_true rfl) fc_8 (by decide) rfl e67 C83 (Nat.le_of_eq (Nat.add_zero _)) (Nat.le_of_eq (Nat.add_zero _)) (fun _ _ h => h) ?_
        rintro _ h84 ⟨r85, rfl, K1⟩ -
        replace K := K r85 h84 K1
        show Gm l x mX8_years 12 138 [(0, .ref a0), (1, .int x1), (2, .int x2), (3, .int x3), (4, .int x4), (5, .int x5), (6, .int r52), (7, .int r61), (8, .int (r66 + 1))] [.int r85] h84 rc rs n0 Q X
        refine g_istore (lv' := [(0, .ref a0), (1, .int x1), (2, .int x2), (3, .int x3), (4, .int x4), (5, .int x5), (6, .int r52), (7, .int r61), (8, .int (r66 + 1)), (9, .int r85)]) dX8_years_138 (by decide) rfl ?_
        refine g_aload_n dX8_years_140 rfl 0 rfl ?_
        refine g_aload_n dX8_years_141 rfl 0 rfl ?_
        refine g_bipush (v := 8) dX8_years_142 (by decide) ?_
        obtain ⟨e88, K⟩ := K
        obtain ⟨q86, C87, K⟩ := K
        refine g_callV (M' := mX8_draw) (b := a0) (As := [.int 8]) (rest := [.ref a0]) (rc' := rc) (rs' := rs) dX8_years_144 bw_1735 bw_1737 bs_104 bw_9 bw_1738 ⟨by decide +kernel, by decide +kernel, show (parseMethodDescriptor mX8_draw.1.desc).map (fun d => d.parameters.length) = some 1 by decide +kernel⟩ (by decide) (by decide) (Nat.le_of_ble_eq_true rfl) fc_8 (by decide) rfl e88 C87 (Nat.le_of_eq (Nat.add_zero _)) (Nat.le_of_eq (Nat.add_zero _)) (fun _ _ h => h) ?_
        rintro _ h89 ⟨r90, rfl, K1⟩ -
        replace K := K r90 h89 K1
        show Gm l x mX8_years 12 147 [(0, .ref a0), (1, .int x1), (2, .int x2), (3, .int x3), (4, .int x4), (5, .int x5), (6, .int r52), (7, .int r61), (8, .int (r66 + 1)), (9, .int r85)] [.int r90, .ref a0] h89 rc rs n0 Q X
        refine g_iconst (v := 1) dX8_years_147 (by decide) ?_
        refine g_iadd dX8_years_148 ?_
        obtain ⟨e93, K⟩ := K
        obtain ⟨q91, C92, K⟩ := K
        refine g_callV (M' := mX8_ticksNow) (b := a0) (As := [.int (r90 + 1)]) (rest := []) (rc' := rc) (rs' := rs) dX8_years_149 bw_1453 bw_1455 bs_62 bw_9 bw_1456 ⟨by decide +kernel, by decide +kernel, show (parseMethodDescriptor mX8_ticksNow.1.desc).map (fun d => d.parameters.length) = some 1 by decide +kernel⟩ (by decide) (by decide) (Nat.le_of_ble_eq_true rfl) fc_8 (by decide) rfl e93 C92 (Nat.le_of_eq (Nat.add_zero _)) (Nat.le_of_eq (Nat.add_zero _)) (fun _ _ h => h) ?_
        rintro _ h94 ⟨rfl, K1⟩ -
        replace K := K h94 K1
        show Gm l x mX8_years 12 152 [(0, .ref a0), (1, .int x1), (2, .int x2), (3, .int x3), (4, .int x4), (5, .int x5), (6, .int r52), (7, .int r61), (8, .int (r66 + 1)), (9, .int r85)] [] h94 rc rs n0 Q X
        refine g_iinc (v := (x5 + 1)) (lv' := [(0, .ref a0), (1, .int x1), (2, .int x2), (3, .int x3), (4, .int x4), (5, .int (x5 + 1)), (6, .int r52), (7, .int r61), (8, .int (r66 + 1)), (9, .int r85)]) dX8_years_152 5 rfl (by rfl) (by decide) rfl ?_
        refine g_goto (tgt := 61) dX8_years_155 (by decide) ?_
        exact Gm.sub [0, 1, 2, 3, 4, 5] rfl K
      refine g_icmp_lt (tgt := 131) dX8_years_121 (by decide) (fun c81 => ?_) (fun c81 => ?_)
      · refine g_iload dX8_years_131 7 rfl ?_
        first | (simp only [if_pos c81] at KJ; exact KJ) | (simp only [if_pos c81, ite_true, ite_false, eq_self] at KJ; exact KJ) | (simp only [if_pos c81] at KJ ⊢; exact KJ) | exact KJ
      · refine g_iload dX8_years_124 7 rfl ?_
        refine g_iconst (v := 1) dX8_years_126 (by decide) ?_
        refine g_iadd dX8_years_127 ?_
        refine g_goto (tgt := 133) dX8_years_128 (by decide) ?_
        first | (simp only [if_neg c81] at KJ; exact KJ) | (simp only [if_neg c81, ite_true, ite_false, eq_self] at KJ; exact KJ) | (simp only [if_neg c81] at KJ ⊢; exact KJ) | exact KJ
theorem dX8_best_0 : decode cX8_best 0 = .ok (.iconst 0, 1) := by decide +kernel
theorem dX8_best_1 : decode cX8_best 1 = .ok (.istore_n 1, 1) := by decide +kernel
theorem dX8_best_2 : decode cX8_best 2 = .ok (.iconst (-1), 1) := by decide +kernel
theorem dX8_best_3 : decode cX8_best 3 = .ok (.istore_n 2, 1) := by decide +kernel
theorem dX8_best_4 : decode cX8_best 4 = .ok (.iconst 0, 1) := by decide +kernel
theorem dX8_best_5 : decode cX8_best 5 = .ok (.istore_n 3, 1) := by decide +kernel
theorem dX8_best_6 : decode cX8_best 6 = .ok (.iload_n 3, 1) := by decide +kernel
theorem dX8_best_7 : decode cX8_best 7 = .ok (.iconst 3, 1) := by decide +kernel
theorem dX8_best_8 : decode cX8_best 8 = .ok (.if_icmp .ge 45, 3) := by decide +kernel
theorem dX8_best_11 : decode cX8_best 11 = .ok (.aload_n 0, 1) := by decide +kernel
theorem dX8_best_12 : decode cX8_best 12 = .ok (.iload_n 3, 1) := by decide +kernel
theorem dX8_best_13 : decode cX8_best 13 = .ok (.aload_n 0, 1) := by decide +kernel
theorem dX8_best_14 : decode cX8_best 14 = .ok (.getfield 29, 3) := by decide +kernel
theorem dX8_best_17 : decode cX8_best 17 = .ok (.iconst 3, 1) := by decide +kernel
theorem dX8_best_18 : decode cX8_best 18 = .ok (.iaload, 1) := by decide +kernel
theorem dX8_best_19 : decode cX8_best 19 = .ok (.invokevirtual 356, 3) := by decide +kernel
theorem dX8_best_22 : decode cX8_best 22 = .ok (.aload_n 0, 1) := by decide +kernel
theorem dX8_best_23 : decode cX8_best 23 = .ok (.invokevirtual 359, 3) := by decide +kernel
theorem dX8_best_26 : decode cX8_best 26 = .ok (.istore 4, 2) := by decide +kernel
theorem dX8_best_28 : decode cX8_best 28 = .ok (.iload_n 2, 1) := by decide +kernel
theorem dX8_best_29 : decode cX8_best 29 = .ok (.iconst (-1), 1) := by decide +kernel
theorem dX8_best_30 : decode cX8_best 30 = .ok (.if_icmp .eq 12, 3) := by decide +kernel
theorem dX8_best_33 : decode cX8_best 33 = .ok (.iload 4, 2) := by decide +kernel
theorem dX8_best_35 : decode cX8_best 35 = .ok (.iload_n 2, 1) := by decide +kernel
theorem dX8_best_36 : decode cX8_best 36 = .ok (.if_icmp .lt 6, 3) := by decide +kernel
theorem dX8_best_39 : decode cX8_best 39 = .ok (.goto 8, 3) := by decide +kernel
theorem dX8_best_42 : decode cX8_best 42 = .ok (.iload_n 3, 1) := by decide +kernel
theorem dX8_best_43 : decode cX8_best 43 = .ok (.istore_n 1, 1) := by decide +kernel
theorem dX8_best_44 : decode cX8_best 44 = .ok (.iload 4, 2) := by decide +kernel
theorem dX8_best_46 : decode cX8_best 46 = .ok (.istore_n 2, 1) := by decide +kernel
theorem dX8_best_47 : decode cX8_best 47 = .ok (.iinc 3 1, 3) := by decide +kernel
theorem dX8_best_50 : decode cX8_best 50 = .ok (.goto (-44), 3) := by decide +kernel
theorem dX8_best_53 : decode cX8_best 53 = .ok (.iload_n 1, 1) := by decide +kernel
theorem dX8_best_54 : decode cX8_best 54 = .ok (.ireturn, 1) := by decide +kernel
set_option maxRecDepth 20000 in
set_option maxHeartbeats 4000000 in
theorem vX8_best_0 {l : Launch} {x : CX} {a0 : Nat} {h : PH} {rc rs n0 : Nat} {Q : Option Value → PH → Prop} {X : String → PH → Prop}
    (K : Gm l x mX8_best 13 6 [(0, .ref a0), (1, .int 0), (2, .int (-1)), (3, .int 0)] [] h rc rs n0 Q X) :
    Gm l x mX8_best 13 0 [(0, .ref a0)] [] h rc rs n0 Q X := by
  refine g_iconst (v := 0) dX8_best_0 (by decide) ?_
  refine g_istore_n (lv' := [(0, .ref a0), (1, .int 0)]) dX8_best_1 rfl (by decide) rfl ?_
  refine g_iconst (v := (-1)) dX8_best_2 (by decide) ?_
  refine g_istore_n (lv' := [(0, .ref a0), (1, .int 0), (2, .int (-1))]) dX8_best_3 rfl (by decide) rfl ?_
  refine g_iconst (v := 0) dX8_best_4 (by decide) ?_
  refine g_istore_n (lv' := [(0, .ref a0), (1, .int 0), (2, .int (-1)), (3, .int 0)]) dX8_best_5 rfl (by decide) rfl ?_
  exact K
set_option maxRecDepth 20000 in
set_option maxHeartbeats 4000000 in
theorem vX8_best_6 {l : Launch} {x : CX} {a0 : Nat} {x1 : Int32} {x2 : Int32} {x3 : Int32} {h : PH} {rc rs n0 : Nat} {Q : Option Value → PH → Prop} {X : String → PH → Prop}
    (K : ((3 ≤ x3 → Q (some (.int x1)) h) ∧ (¬ 3 ≤ x3 → ((hK h a0).1 = 8) ∧ ∃ b3, (hR h a0 2 = some b3) ∧ ((hK h b3).1 = 100) ∧ (vp_in 3 (hK h b3).2) ∧ ∃ (q7 : PH → Prop), CV l x mX8_anewBegins 2 0 0 [.ref a0, .int x3, .int (hI h b3 (Int32.toNatClampNeg 3))] h q7 ∧ ∀ (h9 : PH), q7 h9 → ((hK h9 a0).1 = 8) ∧ ∃ (q10 : Int32 → PH → Prop), CI l x mX8_anewWaited 12 0 0 [.ref a0] h9 q10 ∧ ∀ (r14 : Int32) (h13 : PH), q10 r14 h13 → Gm l x mX8_best 13 6 [(0, .ref a0), (1, .int (if x2 = (-1) then x3 else (if r14 < x2 then x3 else x1 : Int32) : Int32)), (2, .int (if x2 = (-1) then r14 else (if r14 < x2 then r14 else x2 : Int32) : Int32)), (3, .int (x3 + 1))] [] h13 rc rs n0 Q X))) :
    Gm l x mX8_best 13 6 [(0, .ref a0), (1, .int x1), (2, .int x2), (3, .int x3)] [] h rc rs n0 Q X := by
  refine g_iload_n dX8_best_6 rfl 3 rfl ?_
  refine g_iconst (v := 3) dX8_best_7 (by decide) ?_
  refine g_icmp_ge (tgt := 53) dX8_best_8 (by decide) (fun c1 => ?_) (fun c1 => ?_)
  · replace K := K.1 c1
    refine g_iload_n dX8_best_53 rfl 1 rfl ?_
    exact g_iret dX8_best_54 rfl K
  · replace K := K.2 c1
    refine g_aload_n dX8_best_11 rfl 0 rfl ?_
    refine g_iload_n dX8_best_12 rfl 3 rfl ?_
    refine g_aload_n dX8_best_13 rfl 0 rfl ?_
    obtain ⟨e2, b3, e4, K⟩ := K
    refine g_get (c := 8) (k := 2) (v := .ref b3) dX8_best_14 fc_8 (by decide) (by decide) bw_1200 (congrArg pr e4) e2 ?_
    refine g_iconst (v := 3) dX8_best_17 (by decide) ?_
    obtain ⟨e5, e6, K⟩ := K
    refine g_iald dX8_best_18 e5 e6 ?_
    obtain ⟨q7, C8, K⟩ := K
    refine g_callV (M' := mX8_anewBegins) (b := a0) (As := [.int x3, .int (hI h b3 (Int32.toNatClampNeg 3))]) (rest := []) (rc' := rc) (rs' := rs) dX8_best_19 bw_1445 bw_1447 bs_60 bw_9 bw_1448 ⟨by decide +kernel, by decide +kernel, show (parseMethodDescriptor mX8_anewBegins.1.desc).map (fun d => d.parameters.length) = some 2 by decide +kernel⟩ (by decide) (by decide) (Nat.le_of_ble_eq_true rfl) fc_8 (by decide) rfl e2 C8 (Nat.le_of_eq (Nat.add_zero _)) (Nat.le_of_eq (Nat.add_zero _)) (fun _ _ h => h) ?_
    rintro _ h9 ⟨rfl, K1⟩ -
    replace K := K h9 K1
    show Gm l x mX8_best 13 22 [(0, .ref a0), (1, .int x1), (2, .int x2), (3, .int x3)] [] h9 rc rs n0 Q X
    refine g_aload_n dX8_best_22 rfl 0 rfl ?_
    obtain ⟨e12, K⟩ := K
    obtain ⟨q10, C11, K⟩ := K
    refine g_callV (M' := mX8_anewWaited) (b := a0) (As := []) (rest := []) (rc' := rc) (rs' := rs) dX8_best_23 bw_1449 bw_1451 bs_61 bw_9 bw_1452 ⟨by decide +kernel, by decide +kernel, show (parseMethodDescriptor mX8_anewWaited.1.desc).map (fun d => d.parameters.length) = some 0 by decide +kernel⟩ (by decide) (by decide) (Nat.le_of_ble_eq_true rfl) fc_8 (by decide) rfl e12 C11 (Nat.le_of_eq (Nat.add_zero _)) (Nat.le_of_eq (Nat.add_zero _)) (fun _ _ h => h) ?_
    rintro _ h13 ⟨r14, rfl, K1⟩ -
    replace K := K r14 h13 K1
    show Gm l x mX8_best 13 26 [(0, .ref a0), (1, .int x1), (2, .int x2), (3, .int x3)] [.int r14] h13 rc rs n0 Q X
    refine g_istore (lv' := [(0, .ref a0), (1, .int x1), (2, .int x2), (3, .int x3), (4, .int r14)]) dX8_best_26 (by decide) rfl ?_
    refine g_iload_n dX8_best_28 rfl 2 rfl ?_
    refine g_iconst (v := (-1)) dX8_best_29 (by decide) ?_
    have KJ : Gm l x mX8_best 13 47 [(0, .ref a0), (1, .int (if x2 = (-1) then x3 else (if r14 < x2 then x3 else x1 : Int32) : Int32)), (2, .int (if x2 = (-1) then r14 else (if r14 < x2 then r14 else x2 : Int32) : Int32)), (3, .int x3), (4, .int r14)] [] h13 rc rs n0 Q X := by
      refine g_iinc (v := (x3 + 1)) (lv' := [(0, .ref a0), (1, .int (if x2 = (-1) then x3 else (if r14 < x2 then x3 else x1 : Int32) : Int32)), (2, .int (if x2 = (-1) then r14 else (if r14 < x2 then r14 else x2 : Int32) : Int32)), (3, .int (x3 + 1)), (4, .int r14)]) dX8_best_47 3 rfl (by rfl) (by decide) rfl ?_
      refine g_goto (tgt := 6) dX8_best_50 (by decide) ?_
      exact Gm.sub [0, 1, 2, 3] rfl K
    refine g_icmp_eq (tgt := 42) dX8_best_30 (by decide) (fun c15 => ?_) (fun c15 => ?_)
    · refine g_iload_n dX8_best_42 rfl 3 rfl ?_
      refine g_istore_n (lv' := [(0, .ref a0), (1, .int x3), (2, .int x2), (3, .int x3), (4, .int r14)]) dX8_best_43 rfl (by decide) rfl ?_
      refine g_iload dX8_best_44 4 rfl ?_
      refine g_istore_n (lv' := [(0, .ref a0), (1, .int x3), (2, .int r14), (3, .int x3), (4, .int r14)]) dX8_best_46 rfl (by decide) rfl ?_
      first | (simp only [if_pos c15] at KJ; exact KJ) | (simp only [if_pos c15, ite_true, ite_false, eq_self] at KJ; exact KJ) | (simp only [if_pos c15] at KJ ⊢; exact KJ) | exact KJ
    · refine g_iload dX8_best_33 4 rfl ?_
      refine g_iload_n dX8_best_35 rfl 2 rfl ?_
      refine g_icmp_lt (tgt := 42) dX8_best_36 (by decide) (fun c16 => ?_) (fun c16 => ?_)
      · refine g_iload_n dX8_best_42 rfl 3 rfl ?_
        refine g_istore_n (lv' := [(0, .ref a0), (1, .int x3), (2, .int x2), (3, .int x3), (4, .int r14)]) dX8_best_43 rfl (by decide) rfl ?_
        refine g_iload dX8_best_44 4 rfl ?_
        refine g_istore_n (lv' := [(0, .ref a0), (1, .int x3), (2, .int r14), (3, .int x3), (4, .int r14)]) dX8_best_46 rfl (by decide) rfl ?_
        first | (simp only [if_neg c15, if_pos c16] at KJ; exact KJ) | (simp only [if_neg c15, if_pos c16, ite_true, ite_false, eq_self] at KJ; exact KJ) | (simp only [if_neg c15, if_pos c16] at KJ ⊢; exact KJ) | exact KJ
      · refine g_goto (tgt := 47) dX8_best_39 (by decide) ?_
        first | (simp only [if_neg c15, if_neg c16] at KJ; exact KJ) | (simp only [if_neg c15, if_neg c16, ite_true, ite_false, eq_self] at KJ; exact KJ) | (simp only [if_neg c15, if_neg c16] at KJ ⊢; exact KJ) | exact KJ
theorem dX8_missed_0 : decode cX8_missed 0 = .ok (.iconst (-1), 1) := by decide +kernel
theorem dX8_missed_1 : decode cX8_missed 1 = .ok (.istore_n 1, 1) := by decide +kernel
theorem dX8_missed_2 : decode cX8_missed 2 = .ok (.iconst (-1), 1) := by decide +kernel
theorem dX8_missed_3 : decode cX8_missed 3 = .ok (.istore_n 2, 1) := by decide +kernel
theorem dX8_missed_4 : decode cX8_missed 4 = .ok (.iconst 0, 1) := by decide +kernel
theorem dX8_missed_5 : decode cX8_missed 5 = .ok (.istore_n 3, 1) := by decide +kernel
theorem dX8_missed_6 : decode cX8_missed 6 = .ok (.iload_n 3, 1) := by decide +kernel
theorem dX8_missed_7 : decode cX8_missed 7 = .ok (.aload_n 0, 1) := by decide +kernel
theorem dX8_missed_8 : decode cX8_missed 8 = .ok (.getfield 36, 3) := by decide +kernel
theorem dX8_missed_11 : decode cX8_missed 11 = .ok (.iconst 1, 1) := by decide +kernel
theorem dX8_missed_12 : decode cX8_missed 12 = .ok (.iaload, 1) := by decide +kernel
theorem dX8_missed_13 : decode cX8_missed 13 = .ok (.if_icmp .ge 52, 3) := by decide +kernel
theorem dX8_missed_16 : decode cX8_missed 16 = .ok (.aload_n 0, 1) := by decide +kernel
theorem dX8_missed_17 : decode cX8_missed 17 = .ok (.aload_n 0, 1) := by decide +kernel
theorem dX8_missed_18 : decode cX8_missed 18 = .ok (.getfield 29, 3) := by decide +kernel
theorem dX8_missed_21 : decode cX8_missed 21 = .ok (.iconst 2, 1) := by decide +kernel
theorem dX8_missed_22 : decode cX8_missed 22 = .ok (.iaload, 1) := by decide +kernel
theorem dX8_missed_23 : decode cX8_missed 23 = .ok (.aload_n 0, 1) := by decide +kernel
theorem dX8_missed_24 : decode cX8_missed 24 = .ok (.getfield 29, 3) := by decide +kernel
theorem dX8_missed_27 : decode cX8_missed 27 = .ok (.iconst 3, 1) := by decide +kernel
theorem dX8_missed_28 : decode cX8_missed 28 = .ok (.iaload, 1) := by decide +kernel
theorem dX8_missed_29 : decode cX8_missed 29 = .ok (.invokevirtual 356, 3) := by decide +kernel
theorem dX8_missed_32 : decode cX8_missed 32 = .ok (.aload_n 0, 1) := by decide +kernel
theorem dX8_missed_33 : decode cX8_missed 33 = .ok (.iload_n 3, 1) := by decide +kernel
theorem dX8_missed_34 : decode cX8_missed 34 = .ok (.iconst 4, 1) := by decide +kernel
theorem dX8_missed_35 : decode cX8_missed 35 = .ok (.iconst 0, 1) := by decide +kernel
theorem dX8_missed_36 : decode cX8_missed 36 = .ok (.invokevirtual 221, 3) := by decide +kernel
theorem dX8_missed_39 : decode cX8_missed 39 = .ok (.aload_n 0, 1) := by decide +kernel
theorem dX8_missed_40 : decode cX8_missed 40 = .ok (.invokevirtual 359, 3) := by decide +kernel
theorem dX8_missed_43 : decode cX8_missed 43 = .ok (.istore 4, 2) := by decide +kernel
theorem dX8_missed_45 : decode cX8_missed 45 = .ok (.iload 4, 2) := by decide +kernel
theorem dX8_missed_47 : decode cX8_missed 47 = .ok (.iload_n 2, 1) := by decide +kernel
theorem dX8_missed_48 : decode cX8_missed 48 = .ok (.if_icmp .gt 6, 3) := by decide +kernel
theorem dX8_missed_51 : decode cX8_missed 51 = .ok (.goto 8, 3) := by decide +kernel
theorem dX8_missed_54 : decode cX8_missed 54 = .ok (.iload_n 3, 1) := by decide +kernel
theorem dX8_missed_55 : decode cX8_missed 55 = .ok (.istore_n 1, 1) := by decide +kernel
theorem dX8_missed_56 : decode cX8_missed 56 = .ok (.iload 4, 2) := by decide +kernel
theorem dX8_missed_58 : decode cX8_missed 58 = .ok (.istore_n 2, 1) := by decide +kernel
theorem dX8_missed_59 : decode cX8_missed 59 = .ok (.iinc 3 1, 3) := by decide +kernel
theorem dX8_missed_62 : decode cX8_missed 62 = .ok (.goto (-56), 3) := by decide +kernel
theorem dX8_missed_65 : decode cX8_missed 65 = .ok (.iload_n 1, 1) := by decide +kernel
theorem dX8_missed_66 : decode cX8_missed 66 = .ok (.ireturn, 1) := by decide +kernel
set_option maxRecDepth 20000 in
set_option maxHeartbeats 4000000 in
theorem vX8_missed_0 {l : Launch} {x : CX} {a0 : Nat} {h : PH} {rc rs n0 : Nat} {Q : Option Value → PH → Prop} {X : String → PH → Prop}
    (K : Gm l x mX8_missed 13 6 [(0, .ref a0), (1, .int (-1)), (2, .int (-1)), (3, .int 0)] [] h rc rs n0 Q X) :
    Gm l x mX8_missed 13 0 [(0, .ref a0)] [] h rc rs n0 Q X := by
  refine g_iconst (v := (-1)) dX8_missed_0 (by decide) ?_
  refine g_istore_n (lv' := [(0, .ref a0), (1, .int (-1))]) dX8_missed_1 rfl (by decide) rfl ?_
  refine g_iconst (v := (-1)) dX8_missed_2 (by decide) ?_
  refine g_istore_n (lv' := [(0, .ref a0), (1, .int (-1)), (2, .int (-1))]) dX8_missed_3 rfl (by decide) rfl ?_
  refine g_iconst (v := 0) dX8_missed_4 (by decide) ?_
  refine g_istore_n (lv' := [(0, .ref a0), (1, .int (-1)), (2, .int (-1)), (3, .int 0)]) dX8_missed_5 rfl (by decide) rfl ?_
  exact K
set_option maxRecDepth 20000 in
set_option maxHeartbeats 4000000 in
theorem vX8_missed_6 {l : Launch} {x : CX} {a0 : Nat} {x1 : Int32} {x2 : Int32} {x3 : Int32} {h : PH} {rc rs n0 : Nat} {Q : Option Value → PH → Prop} {X : String → PH → Prop}
    (K : ((hK h a0).1 = 8) ∧ ∃ b2, (hR h a0 4 = some b2) ∧ ((hK h b2).1 = 100) ∧ (vp_in 1 (hK h b2).2) ∧ (((hI h b2 (Int32.toNatClampNeg 1)) ≤ x3 → Q (some (.int x1)) h) ∧ (¬ (hI h b2 (Int32.toNatClampNeg 1)) ≤ x3 → ∃ b7, (hR h a0 2 = some b7) ∧ ((hK h b7).1 = 100) ∧ (vp_in 2 (hK h b7).2) ∧ (vp_in 3 (hK h b7).2) ∧ ∃ (q12 : PH → Prop), CV l x mX8_anewBegins 2 0 0 [.ref a0, .int (hI h b7 (Int32.toNatClampNeg 2)), .int (hI h b7 (Int32.toNatClampNeg 3))] h q12 ∧ ∀ (h14 : PH), q12 h14 → ((hK h14 a0).1 = 8) ∧ ∃ (q15 : PH → Prop), CV l x mX8_putCar 0 0 0 [.ref a0, .int x3, .int 4, .int 0] h14 q15 ∧ ∀ (h18 : PH), q15 h18 → ((hK h18 a0).1 = 8) ∧ ∃ (q19 : Int32 → PH → Prop), CI l x mX8_anewWaited 12 0 0 [.ref a0] h18 q19 ∧ ∀ (r23 : Int32) (h22 : PH), q19 r23 h22 → Gm l x mX8_missed 13 6 [(0, .ref a0), (1, .int (if x2 < r23 then x3 else x1 : Int32)), (2, .int (if x2 < r23 then r23 else x2 : Int32)), (3, .int (x3 + 1))] [] h22 rc rs n0 Q X))) :
    Gm l x mX8_missed 13 6 [(0, .ref a0), (1, .int x1), (2, .int x2), (3, .int x3)] [] h rc rs n0 Q X := by
  refine g_iload_n dX8_missed_6 rfl 3 rfl ?_
  refine g_aload_n dX8_missed_7 rfl 0 rfl ?_
  obtain ⟨e1, b2, e3, K⟩ := K
  refine g_get (c := 8) (k := 4) (v := .ref b2) dX8_missed_8 fc_8 (by decide) (by decide) bw_1202 (congrArg pr e3) e1 ?_
  refine g_iconst (v := 1) dX8_missed_11 (by decide) ?_
  obtain ⟨e4, e5, K⟩ := K
  refine g_iald dX8_missed_12 e4 e5 ?_
  refine g_icmp_ge (tgt := 65) dX8_missed_13 (by decide) (fun c6 => ?_) (fun c6 => ?_)
  · replace K := K.1 c6
    refine g_iload_n dX8_missed_65 rfl 1 rfl ?_
    exact g_iret dX8_missed_66 rfl K
  · replace K := K.2 c6
    refine g_aload_n dX8_missed_16 rfl 0 rfl ?_
    refine g_aload_n dX8_missed_17 rfl 0 rfl ?_
    obtain ⟨b7, e8, K⟩ := K
    refine g_get (c := 8) (k := 2) (v := .ref b7) dX8_missed_18 fc_8 (by decide) (by decide) bw_1200 (congrArg pr e8) e1 ?_
    refine g_iconst (v := 2) dX8_missed_21 (by decide) ?_
    obtain ⟨e9, e10, K⟩ := K
    refine g_iald dX8_missed_22 e9 e10 ?_
    refine g_aload_n dX8_missed_23 rfl 0 rfl ?_
    refine g_get (c := 8) (k := 2) (v := .ref b7) dX8_missed_24 fc_8 (by decide) (by decide) bw_1200 (congrArg pr e8) e1 ?_
    refine g_iconst (v := 3) dX8_missed_27 (by decide) ?_
    obtain ⟨e11, K⟩ := K
    refine g_iald dX8_missed_28 e9 e11 ?_
    obtain ⟨q12, C13, K⟩ := K
    refine g_callV (M' := mX8_anewBegins) (b := a0) (As := [.int (hI h b7 (Int32.toNatClampNeg 2)), .int (hI h b7 (Int32.toNatClampNeg 3))]) (rest := []) (rc' := rc) (rs' := rs) dX8_missed_29 bw_1445 bw_1447 bs_60 bw_9 bw_1448 ⟨by decide +kernel, by decide +kernel, show (parseMethodDescriptor mX8_anewBegins.1.desc).map (fun d => d.parameters.length) = some 2 by decide +kernel⟩ (by decide) (by decide) (Nat.le_of_ble_eq_true rfl) fc_8 (by decide) rfl e1 C13 (Nat.le_of_eq (Nat.add_zero _)) (Nat.le_of_eq (Nat.add_zero _)) (fun _ _ h => h) ?_
    rintro _ h14 ⟨rfl, K1⟩ -
    replace K := K h14 K1
    show Gm l x mX8_missed 13 32 [(0, .ref a0), (1, .int x1), (2, .int x2), (3, .int x3)] [] h14 rc rs n0 Q X
    refine g_aload_n dX8_missed_32 rfl 0 rfl ?_
    refine g_iload_n dX8_missed_33 rfl 3 rfl ?_
    refine g_iconst (v := 4) dX8_missed_34 (by decide) ?_
    refine g_iconst (v := 0) dX8_missed_35 (by decide) ?_
    obtain ⟨e17, K⟩ := K
    obtain ⟨q15, C16, K⟩ := K
    refine g_callV (M' := mX8_putCar) (b := a0) (As := [.int x3, .int 4, .int 0]) (rest := []) (rc' := rc) (rs' := rs) dX8_missed_36 bw_1190 bw_1192 bs_37 bw_9 bw_1193 ⟨by decide +kernel, by decide +kernel, show (parseMethodDescriptor mX8_putCar.1.desc).map (fun d => d.parameters.length) = some 3 by decide +kernel⟩ (by decide) (by decide) (Nat.le_of_ble_eq_true rfl) fc_8 (by decide) rfl e17 C16 (Nat.le_of_eq (Nat.add_zero _)) (Nat.le_of_eq (Nat.add_zero _)) (fun _ _ h => h) ?_
    rintro _ h18 ⟨rfl, K1⟩ -
    replace K := K h18 K1
    show Gm l x mX8_missed 13 39 [(0, .ref a0), (1, .int x1), (2, .int x2), (3, .int x3)] [] h18 rc rs n0 Q X
    refine g_aload_n dX8_missed_39 rfl 0 rfl ?_
    obtain ⟨e21, K⟩ := K
    obtain ⟨q19, C20, K⟩ := K
    refine g_callV (M' := mX8_anewWaited) (b := a0) (As := []) (rest := []) (rc' := rc) (rs' := rs) dX8_missed_40 bw_1449 bw_1451 bs_61 bw_9 bw_1452 ⟨by decide +kernel, by decide +kernel, show (parseMethodDescriptor mX8_anewWaited.1.desc).map (fun d => d.parameters.length) = some 0 by decide +kernel⟩ (by decide) (by decide) (Nat.le_of_ble_eq_true rfl) fc_8 (by decide) rfl e21 C20 (Nat.le_of_eq (Nat.add_zero _)) (Nat.le_of_eq (Nat.add_zero _)) (fun _ _ h => h) ?_
    rintro _ h22 ⟨r23, rfl, K1⟩ -
    replace K := K r23 h22 K1
    show Gm l x mX8_missed 13 43 [(0, .ref a0), (1, .int x1), (2, .int x2), (3, .int x3)] [.int r23] h22 rc rs n0 Q X
    refine g_istore (lv' := [(0, .ref a0), (1, .int x1), (2, .int x2), (3, .int x3), (4, .int r23)]) dX8_missed_43 (by decide) rfl ?_
    refine g_iload dX8_missed_45 4 rfl ?_
    refine g_iload_n dX8_missed_47 rfl 2 rfl ?_
    have KJ : Gm l x mX8_missed 13 59 [(0, .ref a0), (1, .int (if x2 < r23 then x3 else x1 : Int32)), (2, .int (if x2 < r23 then r23 else x2 : Int32)), (3, .int x3), (4, .int r23)] [] h22 rc rs n0 Q X := by
      refine g_iinc (v := (x3 + 1)) (lv' := [(0, .ref a0), (1, .int (if x2 < r23 then x3 else x1 : Int32)), (2, .int (if x2 < r23 then r23 else x2 : Int32)), (3, .int (x3 + 1)), (4, .int r23)]) dX8_missed_59 3 rfl (by rfl) (by decide) rfl ?_
      refine g_goto (tgt := 6) dX8_missed_62 (by decide) ?_
      exact Gm.sub [0, 1, 2, 3] rfl K
    refine g_icmp_gt (tgt := 54) dX8_missed_48 (by decide) (fun c24 => ?_) (fun c24 => ?_)
    · refine g_iload_n dX8_missed_54 rfl 3 rfl ?_
      refine g_istore_n (lv' := [(0, .ref a0), (1, .int x3), (2, .int x2), (3, .int x3), (4, .int r23)]) dX8_missed_55 rfl (by decide) rfl ?_
      refine g_iload dX8_missed_56 4 rfl ?_
      refine g_istore_n (lv' := [(0, .ref a0), (1, .int x3), (2, .int r23), (3, .int x3), (4, .int r23)]) dX8_missed_58 rfl (by decide) rfl ?_
      first | (simp only [if_pos c24] at KJ; exact KJ) | (simp only [if_pos c24, ite_true, ite_false, eq_self] at KJ; exact KJ) | (simp only [if_pos c24] at KJ ⊢; exact KJ) | exact KJ
    · refine g_goto (tgt := 59) dX8_missed_51 (by decide) ?_
      first | (simp only [if_neg c24] at KJ; exact KJ) | (simp only [if_neg c24, ite_true, ite_false, eq_self] at KJ; exact KJ) | (simp only [if_neg c24] at KJ ⊢; exact KJ) | exact KJ
theorem dX8_mean_0 : decode cX8_mean 0 = .ok (.aload_n 0, 1) := by decide +kernel
theorem dX8_mean_1 : decode cX8_mean 1 = .ok (.iconst 0, 1) := by decide +kernel
theorem dX8_mean_2 : decode cX8_mean 2 = .ok (.putfield 104, 3) := by decide +kernel
theorem dX8_mean_5 : decode cX8_mean 5 = .ok (.iload_n 1, 1) := by decide +kernel
theorem dX8_mean_6 : decode cX8_mean 6 = .ok (.iload_n 2, 1) := by decide +kernel
theorem dX8_mean_7 : decode cX8_mean 7 = .ok (.invokestatic 414, 3) := by decide +kernel
theorem dX8_mean_10 : decode cX8_mean 10 = .ok (.ifCond .ne 9, 3) := by decide +kernel
theorem dX8_mean_13 : decode cX8_mean 13 = .ok (.aload_n 0, 1) := by decide +kernel
theorem dX8_mean_14 : decode cX8_mean 14 = .ok (.iconst 1, 1) := by decide +kernel
theorem dX8_mean_15 : decode cX8_mean 15 = .ok (.invokevirtual 198, 3) := by decide +kernel
theorem dX8_mean_18 : decode cX8_mean 18 = .ok (.ireturn, 1) := by decide +kernel
theorem dX8_mean_19 : decode cX8_mean 19 = .ok (.aload_n 0, 1) := by decide +kernel
theorem dX8_mean_20 : decode cX8_mean 20 = .ok (.iload_n 1, 1) := by decide +kernel
theorem dX8_mean_21 : decode cX8_mean 21 = .ok (.iload_n 2, 1) := by decide +kernel
theorem dX8_mean_22 : decode cX8_mean 22 = .ok (.invokevirtual 356, 3) := by decide +kernel
theorem dX8_mean_25 : decode cX8_mean 25 = .ok (.aload_n 0, 1) := by decide +kernel
theorem dX8_mean_26 : decode cX8_mean 26 = .ok (.invokevirtual 359, 3) := by decide +kernel
theorem dX8_mean_29 : decode cX8_mean 29 = .ok (.i2f, 1) := by decide +kernel
theorem dX8_mean_30 : decode cX8_mean 30 = .ok (.fstore_n 3, 1) := by decide +kernel
theorem dX8_mean_31 : decode cX8_mean 31 = .ok (.aload_n 0, 1) := by decide +kernel
theorem dX8_mean_32 : decode cX8_mean 32 = .ok (.getfield 36, 3) := by decide +kernel
theorem dX8_mean_35 : decode cX8_mean 35 = .ok (.iconst 2, 1) := by decide +kernel
theorem dX8_mean_36 : decode cX8_mean 36 = .ok (.iaload, 1) := by decide +kernel
theorem dX8_mean_37 : decode cX8_mean 37 = .ok (.i2f, 1) := by decide +kernel
theorem dX8_mean_38 : decode cX8_mean 38 = .ok (.fstore 4, 2) := by decide +kernel
theorem dX8_mean_40 : decode cX8_mean 40 = .ok (.aload_n 0, 1) := by decide +kernel
theorem dX8_mean_41 : decode cX8_mean 41 = .ok (.getfield 36, 3) := by decide +kernel
theorem dX8_mean_44 : decode cX8_mean 44 = .ok (.iconst 2, 1) := by decide +kernel
theorem dX8_mean_45 : decode cX8_mean 45 = .ok (.iaload, 1) := by decide +kernel
theorem dX8_mean_46 : decode cX8_mean 46 = .ok (.ifCond .ne 7, 3) := by decide +kernel
theorem dX8_mean_49 : decode cX8_mean 49 = .ok (.fconst 0, 1) := by decide +kernel
theorem dX8_mean_50 : decode cX8_mean 50 = .ok (.goto 7, 3) := by decide +kernel
theorem dX8_mean_53 : decode cX8_mean 53 = .ok (.fload_n 3, 1) := by decide +kernel
theorem dX8_mean_54 : decode cX8_mean 54 = .ok (.fload 4, 2) := by decide +kernel
theorem dX8_mean_56 : decode cX8_mean 56 = .ok (.fdiv, 1) := by decide +kernel
theorem dX8_mean_57 : decode cX8_mean 57 = .ok (.fstore 5, 2) := by decide +kernel
theorem dX8_mean_59 : decode cX8_mean 59 = .ok (.fload 5, 2) := by decide +kernel
theorem dX8_mean_61 : decode cX8_mean 61 = .ok (.invokestatic 261, 3) := by decide +kernel
theorem dX8_mean_64 : decode cX8_mean 64 = .ok (.ireturn, 1) := by decide +kernel
set_option maxRecDepth 20000 in
set_option maxHeartbeats 4000000 in
theorem vX8_mean_0 {l : Launch} {x : CX} {a0 : Nat} {x1 : Int32} {x2 : Int32} {h : PH} {rc rs n0 : Nat} {Q : Option Value → PH → Prop} {X : String → PH → Prop}
    (K : ((hK h a0).1 = 8) ∧ ∃ (q2 : Int32 → PH → Prop), CI l x mX8_isRule 1 0 0 [.int x1, .int x2] (sI h a0 1 0) q2 ∧ ∀ (r5 : Int32) (h4 : PH), q2 r5 h4 → ((¬ r5 = 0 → ((hK h4 a0).1 = 8) ∧ ∃ (q7 : PH → Prop), CV l x mX8_anewBegins 2 0 0 [.ref a0, .int x1, .int x2] h4 q7 ∧ ∀ (h10 : PH), q7 h10 → ((hK h10 a0).1 = 8) ∧ ∃ (q11 : Int32 → PH → Prop), CI l x mX8_anewWaited 12 0 0 [.ref a0] h10 q11 ∧ ∀ (r15 : Int32) (h14 : PH), q11 r15 h14 → ((hK h14 a0).1 = 8) ∧ ∃ b17, (hR h14 a0 4 = some b17) ∧ ((hK h14 b17).1 = 100) ∧ (vp_in 2 (hK h14 b17).2) ∧ (vp_in 2 (hK h14 b17).2) ∧ ((¬ (hI h14 b17 (Int32.toNatClampNeg 2)) = 0 → (vf_n32 (FP.fdiv (FP.i2f r15) (FP.i2f (hI h14 b17 (Int32.toNatClampNeg 2))))) ∧ ∀ (y24 : UInt32), y24 = (FP.fdiv (FP.i2f r15) (FP.i2f (hI h14 b17 (Int32.toNatClampNeg 2)))) → ∃ (q26 : Int32 → PH → Prop), CI l x mJxf58ca_floatToIntBits_5c35a 1 0 0 [.float y24] h14 q26 ∧ ∀ (r29 : Int32) (h28 : PH), q26 r29 h28 → Q (some (.int r29)) h28) ∧ ((hI h14 b17 (Int32.toNatClampNeg 2)) = 0 → ∃ (q30 : Int32 → PH → Prop), CI l x mJxf58ca_floatToIntBits_5c35a 1 0 0 [.float FP.fconst0] h14 q30 ∧ ∀ (r33 : Int32) (h32 : PH), q30 r33 h32 → Q (some (.int r33)) h32))) ∧ (r5 = 0 → ((hK h4 a0).1 = 8) ∧ ∃ (q34 : Int32 → PH → Prop), CI l x mX8_fail 0 0 0 [.ref a0, .int 1] h4 q34 ∧ ∀ (r38 : Int32) (h37 : PH), q34 r38 h37 → Q (some (.int r38)) h37))) :
    Gm l x mX8_mean 13 0 [(0, .ref a0), (1, .int x1), (2, .int x2)] [] h rc rs n0 Q X := by
  refine g_aload_n dX8_mean_0 rfl 0 rfl ?_
  refine g_iconst (v := 0) dX8_mean_1 (by decide) ?_
  obtain ⟨e1, K⟩ := K
  refine g_puti (c := 8) (k := 1) dX8_mean_2 fc_8 (by decide) (by decide) bw_1199 (Or.inl rfl) rfl e1 ?_
  refine g_iload_n dX8_mean_5 rfl 1 rfl ?_
  refine g_iload_n dX8_mean_6 rfl 2 rfl ?_
  obtain ⟨q2, C3, K⟩ := K
  refine g_callS (M' := mX8_isRule) (As := [.int x1, .int x2]) (rest := []) (rc' := rc) (rs' := rs) dX8_mean_7 bw_1687 bw_1688 bw_9 bw_1689 ⟨by decide +kernel, by decide +kernel, show (parseMethodDescriptor mX8_isRule.1.desc).map (fun d => d.parameters.length) = some 2 by decide +kernel⟩ (by decide) (by decide) (Nat.le_of_ble_eq_true rfl) C3 (Nat.le_of_eq (Nat.add_zero _)) (Nat.le_of_eq (Nat.add_zero _)) (fun _ _ h => h) ?_
  rintro _ h4 ⟨r5, rfl, K1⟩ -
  replace K := K r5 h4 K1
  show Gm l x mX8_mean 13 10 [(0, .ref a0), (1, .int x1), (2, .int x2)] [.int r5] h4 rc rs n0 Q X
  refine g_if_ne (tgt := 19) dX8_mean_10 (by decide) (fun c6 => ?_) (fun c6 => ?_)
  · replace K := K.1 c6
    refine g_aload_n dX8_mean_19 rfl 0 rfl ?_
    refine g_iload_n dX8_mean_20 rfl 1 rfl ?_
    refine g_iload_n dX8_mean_21 rfl 2 rfl ?_
    obtain ⟨e9, K⟩ := K
    obtain ⟨q7, C8, K⟩ := K
    refine g_callV (M' := mX8_anewBegins) (b := a0) (As := [.int x1, .int x2]) (rest := []) (rc' := rc) (rs' := rs) dX8_mean_22 bw_1445 bw_1447 bs_60 bw_9 bw_1448 ⟨by decide +kernel, by decide +kernel, show (parseMethodDescriptor mX8_anewBegins.1.desc).map (fun d => d.parameters.length) = some 2 by decide +kernel⟩ (by decide) (by decide) (Nat.le_of_ble_eq_true rfl) fc_8 (by decide) rfl e9 C8 (Nat.le_of_eq (Nat.add_zero _)) (Nat.le_of_eq (Nat.add_zero _)) (fun _ _ h => h) ?_
    rintro _ h10 ⟨rfl, K1⟩ -
    replace K := K h10 K1
    show Gm l x mX8_mean 13 25 [(0, .ref a0), (1, .int x1), (2, .int x2)] [] h10 rc rs n0 Q X
    refine g_aload_n dX8_mean_25 rfl 0 rfl ?_
    obtain ⟨e13, K⟩ := K
    obtain ⟨q11, C12, K⟩ := K
    refine g_callV (M' := mX8_anewWaited) (b := a0) (As := []) (rest := []) (rc' := rc) (rs' := rs) dX8_mean_26 bw_1449 bw_1451 bs_61 bw_9 bw_1452 ⟨by decide +kernel, by decide +kernel, show (parseMethodDescriptor mX8_anewWaited.1.desc).map (fun d => d.parameters.length) = some 0 by decide +kernel⟩ (by decide) (by decide) (Nat.le_of_ble_eq_true rfl) fc_8 (by decide) rfl e13 C12 (Nat.le_of_eq (Nat.add_zero _)) (Nat.le_of_eq (Nat.add_zero _)) (fun _ _ h => h) ?_
    rintro _ h14 ⟨r15, rfl, K1⟩ -
    replace K := K r15 h14 K1
    show Gm l x mX8_mean 13 29 [(0, .ref a0), (1, .int x1), (2, .int x2)] [.int r15] h14 rc rs n0 Q X
    refine g_i2f dX8_mean_29 ?_
    refine g_fstore_n (lv' := [(0, .ref a0), (1, .int x1), (2, .int x2), (3, .float (FP.i2f r15))]) dX8_mean_30 rfl (by decide) rfl ?_
    refine g_aload_n dX8_mean_31 rfl 0 rfl ?_
    obtain ⟨e16, b17, e18, K⟩ := K
    refine g_get (c := 8) (k := 4) (v := .ref b17) dX8_mean_32 fc_8 (by decide) (by decide) bw_1202 (congrArg pr e18) e16 ?_
    refine g_iconst (v := 2) dX8_mean_35 (by decide) ?_
    obtain ⟨e19, e20, K⟩ := K
    refine g_iald dX8_mean_36 e19 e20 ?_
    refine g_i2f dX8_mean_37 ?_
    refine g_fstore (lv' := [(0, .ref a0), (1, .int x1), (2, .int x2), (3, .float (FP.i2f r15)), (4, .float (FP.i2f (hI h14 b17 (Int32.toNatClampNeg 2))))]) dX8_mean_38 (by decide) rfl ?_
    refine g_aload_n dX8_mean_40 rfl 0 rfl ?_
    refine g_get (c := 8) (k := 4) (v := .ref b17) dX8_mean_41 fc_8 (by decide) (by decide) bw_1202 (congrArg pr e18) e16 ?_
    refine g_iconst (v := 2) dX8_mean_44 (by decide) ?_
    obtain ⟨e21, K⟩ := K
    refine g_iald dX8_mean_45 e19 e21 ?_
    refine g_if_ne (tgt := 53) dX8_mean_46 (by decide) (fun c22 => ?_) (fun c22 => ?_)
    · replace K := K.1 c22
      refine g_fload_n dX8_mean_53 rfl 3 rfl ?_
      refine g_fload dX8_mean_54 4 rfl ?_
      obtain ⟨e23, K⟩ := K
      refine g_fdiv dX8_mean_56 e23 ?_
      refine g_nmF (fun y24 e25 => ?_)
      replace K := K y24 e25
      refine g_fstore (lv' := [(0, .ref a0), (1, .int x1), (2, .int x2), (3, .float (FP.i2f r15)), (4, .float (FP.i2f (hI h14 b17 (Int32.toNatClampNeg 2)))), (5, .float y24)]) dX8_mean_57 (by decide) rfl ?_
      refine g_fload dX8_mean_59 5 rfl ?_
      obtain ⟨q26, C27, K⟩ := K
      refine g_callS (M' := mJxf58ca_floatToIntBits_5c35a) (As := [.float y24]) (rest := []) (rc' := rc) (rs' := rs) dX8_mean_61 bw_1538 bw_1539 bw_23 bw_1540 ⟨by decide +kernel, by decide +kernel, show (parseMethodDescriptor mJxf58ca_floatToIntBits_5c35a.1.desc).map (fun d => d.parameters.length) = some 1 by decide +kernel⟩ (by decide) (by decide) (Nat.le_of_ble_eq_true rfl) C27 (Nat.le_of_eq (Nat.add_zero _)) (Nat.le_of_eq (Nat.add_zero _)) (fun _ _ h => h) ?_
      rintro _ h28 ⟨r29, rfl, K1⟩ -
      replace K := K r29 h28 K1
      show Gm l x mX8_mean 13 64 [(0, .ref a0), (1, .int x1), (2, .int x2), (3, .float (FP.i2f r15)), (4, .float (FP.i2f (hI h14 b17 (Int32.toNatClampNeg 2)))), (5, .float y24)] [.int r29] h28 rc rs n0 Q X
      exact g_iret dX8_mean_64 rfl K
    · replace K := K.2 c22
      refine g_fconst0 dX8_mean_49 ?_
      refine g_goto (tgt := 57) dX8_mean_50 (by decide) ?_
      refine g_fstore (lv' := [(0, .ref a0), (1, .int x1), (2, .int x2), (3, .float (FP.i2f r15)), (4, .float (FP.i2f (hI h14 b17 (Int32.toNatClampNeg 2)))), (5, .float FP.fconst0)]) dX8_mean_57 (by decide) rfl ?_
      refine g_fload dX8_mean_59 5 rfl ?_
      obtain ⟨q30, C31, K⟩ := K
      refine g_callS (M' := mJxf58ca_floatToIntBits_5c35a) (As := [.float FP.fconst0]) (rest := []) (rc' := rc) (rs' := rs) dX8_mean_61 bw_1538 bw_1539 bw_23 bw_1540 ⟨by decide +kernel, by decide +kernel, show (parseMethodDescriptor mJxf58ca_floatToIntBits_5c35a.1.desc).map (fun d => d.parameters.length) = some 1 by decide +kernel⟩ (by decide) (by decide) (Nat.le_of_ble_eq_true rfl) C31 (Nat.le_of_eq (Nat.add_zero _)) (Nat.le_of_eq (Nat.add_zero _)) (fun _ _ h => h) ?_
      rintro _ h32 ⟨r33, rfl, K1⟩ -
      replace K := K r33 h32 K1
      show Gm l x mX8_mean 13 64 [(0, .ref a0), (1, .int x1), (2, .int x2), (3, .float (FP.i2f r15)), (4, .float (FP.i2f (hI h14 b17 (Int32.toNatClampNeg 2)))), (5, .float FP.fconst0)] [.int r33] h32 rc rs n0 Q X
      exact g_iret dX8_mean_64 rfl K
  · replace K := K.2 c6
    refine g_aload_n dX8_mean_13 rfl 0 rfl ?_
    refine g_iconst (v := 1) dX8_mean_14 (by decide) ?_
    obtain ⟨e36, K⟩ := K
    obtain ⟨q34, C35, K⟩ := K
    refine g_callV (M' := mX8_fail) (b := a0) (As := [.int 1]) (rest := []) (rc' := rc) (rs' := rs) dX8_mean_15 bw_1337 bw_1339 bs_39 bw_9 bw_1340 ⟨by decide +kernel, by decide +kernel, show (parseMethodDescriptor mX8_fail.1.desc).map (fun d => d.parameters.length) = some 1 by decide +kernel⟩ (by decide) (by decide) (Nat.le_of_ble_eq_true rfl) fc_8 (by decide) rfl e36 C35 (Nat.le_of_eq (Nat.add_zero _)) (Nat.le_of_eq (Nat.add_zero _)) (fun _ _ h => h) ?_
    rintro _ h37 ⟨r38, rfl, K1⟩ -
    replace K := K r38 h37 K1
    show Gm l x mX8_mean 13 18 [(0, .ref a0), (1, .int x1), (2, .int x2)] [.int r38] h37 rc rs n0 Q X
    exact g_iret dX8_mean_18 rfl K
theorem dX8_homes_0 : decode cX8_homes 0 = .ok (.aload_n 0, 1) := by decide +kernel
theorem dX8_homes_1 : decode cX8_homes 1 = .ok (.iconst 0, 1) := by decide +kernel
theorem dX8_homes_2 : decode cX8_homes 2 = .ok (.putfield 104, 3) := by decide +kernel
theorem dX8_homes_5 : decode cX8_homes 5 = .ok (.aload_n 0, 1) := by decide +kernel
theorem dX8_homes_6 : decode cX8_homes 6 = .ok (.iload_n 1, 1) := by decide +kernel
theorem dX8_homes_7 : decode cX8_homes 7 = .ok (.invokevirtual 393, 3) := by decide +kernel
theorem dX8_homes_10 : decode cX8_homes 10 = .ok (.ifCond .eq 12, 3) := by decide +kernel
theorem dX8_homes_13 : decode cX8_homes 13 = .ok (.iload_n 2, 1) := by decide +kernel
theorem dX8_homes_14 : decode cX8_homes 14 = .ok (.iconst 0, 1) := by decide +kernel
theorem dX8_homes_15 : decode cX8_homes 15 = .ok (.iconst 1, 1) := by decide +kernel
theorem dX8_homes_16 : decode cX8_homes 16 = .ok (.invokestatic 390, 3) := by decide +kernel
theorem dX8_homes_19 : decode cX8_homes 19 = .ok (.ifCond .ne 9, 3) := by decide +kernel
theorem dX8_homes_22 : decode cX8_homes 22 = .ok (.aload_n 0, 1) := by decide +kernel
theorem dX8_homes_23 : decode cX8_homes 23 = .ok (.iconst 1, 1) := by decide +kernel
theorem dX8_homes_24 : decode cX8_homes 24 = .ok (.invokevirtual 198, 3) := by decide +kernel
theorem dX8_homes_27 : decode cX8_homes 27 = .ok (.ireturn, 1) := by decide +kernel
theorem dX8_homes_28 : decode cX8_homes 28 = .ok (.iconst 0, 1) := by decide +kernel
theorem dX8_homes_29 : decode cX8_homes 29 = .ok (.istore_n 3, 1) := by decide +kernel
theorem dX8_homes_30 : decode cX8_homes 30 = .ok (.iconst (-1), 1) := by decide +kernel
theorem dX8_homes_31 : decode cX8_homes 31 = .ok (.istore 4, 2) := by decide +kernel
theorem dX8_homes_33 : decode cX8_homes 33 = .ok (.iconst 0, 1) := by decide +kernel
theorem dX8_homes_34 : decode cX8_homes 34 = .ok (.istore 5, 2) := by decide +kernel
theorem dX8_homes_36 : decode cX8_homes 36 = .ok (.iload 5, 2) := by decide +kernel
theorem dX8_homes_38 : decode cX8_homes 38 = .ok (.aload_n 0, 1) := by decide +kernel
theorem dX8_homes_39 : decode cX8_homes 39 = .ok (.getfield 36, 3) := by decide +kernel
theorem dX8_homes_42 : decode cX8_homes 42 = .ok (.iconst 0, 1) := by decide +kernel
theorem dX8_homes_43 : decode cX8_homes 43 = .ok (.iaload, 1) := by decide +kernel
theorem dX8_homes_44 : decode cX8_homes 44 = .ok (.if_icmp .ge 71, 3) := by decide +kernel
theorem dX8_homes_47 : decode cX8_homes 47 = .ok (.aload_n 0, 1) := by decide +kernel
theorem dX8_homes_48 : decode cX8_homes 48 = .ok (.aload_n 0, 1) := by decide +kernel
theorem dX8_homes_49 : decode cX8_homes 49 = .ok (.getfield 29, 3) := by decide +kernel
theorem dX8_homes_52 : decode cX8_homes 52 = .ok (.iconst 2, 1) := by decide +kernel
theorem dX8_homes_53 : decode cX8_homes 53 = .ok (.iaload, 1) := by decide +kernel
theorem dX8_homes_54 : decode cX8_homes 54 = .ok (.aload_n 0, 1) := by decide +kernel
theorem dX8_homes_55 : decode cX8_homes 55 = .ok (.getfield 29, 3) := by decide +kernel
theorem dX8_homes_58 : decode cX8_homes 58 = .ok (.iconst 3, 1) := by decide +kernel
theorem dX8_homes_59 : decode cX8_homes 59 = .ok (.iaload, 1) := by decide +kernel
theorem dX8_homes_60 : decode cX8_homes 60 = .ok (.invokevirtual 356, 3) := by decide +kernel
theorem dX8_homes_63 : decode cX8_homes 63 = .ok (.aload_n 0, 1) := by decide +kernel
theorem dX8_homes_64 : decode cX8_homes 64 = .ok (.iload_n 1, 1) := by decide +kernel
theorem dX8_homes_65 : decode cX8_homes 65 = .ok (.bipush 6, 2) := by decide +kernel
theorem dX8_homes_67 : decode cX8_homes 67 = .ok (.iload 5, 2) := by decide +kernel
theorem dX8_homes_69 : decode cX8_homes 69 = .ok (.invokevirtual 221, 3) := by decide +kernel
theorem dX8_homes_72 : decode cX8_homes 72 = .ok (.aload_n 0, 1) := by decide +kernel
theorem dX8_homes_73 : decode cX8_homes 73 = .ok (.iload_n 1, 1) := by decide +kernel
theorem dX8_homes_74 : decode cX8_homes 74 = .ok (.iconst 0, 1) := by decide +kernel
theorem dX8_homes_75 : decode cX8_homes 75 = .ok (.iload 5, 2) := by decide +kernel
theorem dX8_homes_77 : decode cX8_homes 77 = .ok (.invokevirtual 221, 3) := by decide +kernel
theorem dX8_homes_80 : decode cX8_homes 80 = .ok (.aload_n 0, 1) := by decide +kernel
theorem dX8_homes_81 : decode cX8_homes 81 = .ok (.invokevirtual 359, 3) := by decide +kernel
theorem dX8_homes_84 : decode cX8_homes 84 = .ok (.istore 6, 2) := by decide +kernel
theorem dX8_homes_86 : decode cX8_homes 86 = .ok (.iload 4, 2) := by decide +kernel
theorem dX8_homes_88 : decode cX8_homes 88 = .ok (.iconst (-1), 1) := by decide +kernel
theorem dX8_homes_89 : decode cX8_homes 89 = .ok (.if_icmp .eq 13, 3) := by decide +kernel
theorem dX8_homes_92 : decode cX8_homes 92 = .ok (.iload 6, 2) := by decide +kernel
theorem dX8_homes_94 : decode cX8_homes 94 = .ok (.iload 4, 2) := by decide +kernel
theorem dX8_homes_96 : decode cX8_homes 96 = .ok (.if_icmp .lt 6, 3) := by decide +kernel
theorem dX8_homes_99 : decode cX8_homes 99 = .ok (.goto 10, 3) := by decide +kernel
theorem dX8_homes_102 : decode cX8_homes 102 = .ok (.iload 5, 2) := by decide +kernel
theorem dX8_homes_104 : decode cX8_homes 104 = .ok (.istore_n 3, 1) := by decide +kernel
theorem dX8_homes_105 : decode cX8_homes 105 = .ok (.iload 6, 2) := by decide +kernel
theorem dX8_homes_107 : decode cX8_homes 107 = .ok (.istore 4, 2) := by decide +kernel
theorem dX8_homes_109 : decode cX8_homes 109 = .ok (.iinc 5 1, 3) := by decide +kernel
theorem dX8_homes_112 : decode cX8_homes 112 = .ok (.goto (-76), 3) := by decide +kernel
theorem dX8_homes_115 : decode cX8_homes 115 = .ok (.iload_n 2, 1) := by decide +kernel
theorem dX8_homes_116 : decode cX8_homes 116 = .ok (.ifCond .ne 7, 3) := by decide +kernel
theorem dX8_homes_119 : decode cX8_homes 119 = .ok (.iload_n 3, 1) := by decide +kernel
theorem dX8_homes_120 : decode cX8_homes 120 = .ok (.goto 5, 3) := by decide +kernel
theorem dX8_homes_123 : decode cX8_homes 123 = .ok (.iload 4, 2) := by decide +kernel
theorem dX8_homes_125 : decode cX8_homes 125 = .ok (.ireturn, 1) := by decide +kernel
set_option maxRecDepth 20000 in
set_option maxHeartbeats 4000000 in
theorem vX8_homes_0 {l : Launch} {x : CX} {a0 : Nat} {x1 : Int32} {x2 : Int32} {h : PH} {rc rs n0 : Nat} {Q : Option Value → PH → Prop} {X : String → PH → Prop}
    (K : ((hK h a0).1 = 8) ∧ ∃ (q2 : Int32 → PH → Prop), CI l x mX8_isCar 1 0 0 [.ref a0, .int x1] (sI h a0 1 0) q2 ∧ ∀ (r5 : Int32) (h4 : PH), q2 r5 h4 → ((r5 = 0 → ((hK h4 a0).1 = 8) ∧ ∃ (q7 : Int32 → PH → Prop), CI l x mX8_fail 0 0 0 [.ref a0, .int 1] h4 q7 ∧ ∀ (r11 : Int32) (h10 : PH), q7 r11 h10 → Q (some (.int r11)) h10) ∧ (¬ r5 = 0 → ∃ (q12 : Int32 → PH → Prop), CI l x mX8_isIn 0 0 0 [.int x2, .int 0, .int 1] h4 q12 ∧ ∀ (r15 : Int32) (h14 : PH), q12 r15 h14 → ((¬ r15 = 0 → Gm l x mX8_homes 13 36 [(0, .ref a0), (1, .int x1), (2, .int x2), (3, .int 0), (4, .int (-1)), (5, .int 0)] [] h14 rc rs n0 Q X) ∧ (r15 = 0 → ((hK h14 a0).1 = 8) ∧ ∃ (q17 : Int32 → PH → Prop), CI l x mX8_fail 0 0 0 [.ref a0, .int 1] h14 q17 ∧ ∀ (r21 : Int32) (h20 : PH), q17 r21 h20 → Q (some (.int r21)) h20))))) :
    Gm l x mX8_homes 13 0 [(0, .ref a0), (1, .int x1), (2, .int x2)] [] h rc rs n0 Q X := by
  refine g_aload_n dX8_homes_0 rfl 0 rfl ?_
  refine g_iconst (v := 0) dX8_homes_1 (by decide) ?_
  obtain ⟨e1, K⟩ := K
  refine g_puti (c := 8) (k := 1) dX8_homes_2 fc_8 (by decide) (by decide) bw_1199 (Or.inl rfl) rfl e1 ?_
  refine g_aload_n dX8_homes_5 rfl 0 rfl ?_
  refine g_iload_n dX8_homes_6 rfl 1 rfl ?_
  obtain ⟨q2, C3, K⟩ := K
  refine g_callV (M' := mX8_isCar) (b := a0) (As := [.int x1]) (rest := []) (rc' := rc) (rs' := rs) dX8_homes_7 bw_1608 bw_1610 bs_94 bw_9 bw_1611 ⟨by decide +kernel, by decide +kernel, show (parseMethodDescriptor mX8_isCar.1.desc).map (fun d => d.parameters.length) = some 1 by decide +kernel⟩ (by decide) (by decide) (Nat.le_of_ble_eq_true rfl) fc_8 (by decide) rfl (kkI e1) C3 (Nat.le_of_eq (Nat.add_zero _)) (Nat.le_of_eq (Nat.add_zero _)) (fun _ _ h => h) ?_
  rintro _ h4 ⟨r5, rfl, K1⟩ -
  replace K := K r5 h4 K1
  show Gm l x mX8_homes 13 10 [(0, .ref a0), (1, .int x1), (2, .int x2)] [.int r5] h4 rc rs n0 Q X
  refine g_if_eq (tgt := 22) dX8_homes_10 (by decide) (fun c6 => ?_) (fun c6 => ?_)
  · replace K := K.1 c6
    refine g_aload_n dX8_homes_22 rfl 0 rfl ?_
    refine g_iconst (v := 1) dX8_homes_23 (by decide) ?_
    obtain ⟨e9, K⟩ := K
    obtain ⟨q7, C8, K⟩ := K
    refine g_callV (M' := mX8_fail) (b := a0) (As := [.int 1]) (rest := []) (rc' := rc) (rs' := rs) dX8_homes_24 bw_1337 bw_1339 bs_39 bw_9 bw_1340 ⟨by decide +kernel, by decide +kernel, show (parseMethodDescriptor mX8_fail.1.desc).map (fun d => d.parameters.length) = some 1 by decide +kernel⟩ (by decide) (by decide) (Nat.le_of_ble_eq_true rfl) fc_8 (by decide) rfl e9 C8 (Nat.le_of_eq (Nat.add_zero _)) (Nat.le_of_eq (Nat.add_zero _)) (fun _ _ h => h) ?_
    rintro _ h10 ⟨r11, rfl, K1⟩ -
    replace K := K r11 h10 K1
    show Gm l x mX8_homes 13 27 [(0, .ref a0), (1, .int x1), (2, .int x2)] [.int r11] h10 rc rs n0 Q X
    exact g_iret dX8_homes_27 rfl K
  · replace K := K.2 c6
    refine g_iload_n dX8_homes_13 rfl 2 rfl ?_
    refine g_iconst (v := 0) dX8_homes_14 (by decide) ?_
    refine g_iconst (v := 1) dX8_homes_15 (by decide) ?_
    obtain ⟨q12, C13, K⟩ := K
    refine g_callS (M' := mX8_isIn) (As := [.int x2, .int 0, .int 1]) (rest := []) (rc' := rc) (rs' := rs) dX8_homes_16 bw_1612 bw_1613 bw_9 bw_1614 ⟨by decide +kernel, by decide +kernel, show (parseMethodDescriptor mX8_isIn.1.desc).map (fun d => d.parameters.length) = some 3 by decide +kernel⟩ (by decide) (by decide) (Nat.le_of_ble_eq_true rfl) C13 (Nat.le_of_eq (Nat.add_zero _)) (Nat.le_of_eq (Nat.add_zero _)) (fun _ _ h => h) ?_
    rintro _ h14 ⟨r15, rfl, K1⟩ -
    replace K := K r15 h14 K1
    show Gm l x mX8_homes 13 19 [(0, .ref a0), (1, .int x1), (2, .int x2)] [.int r15] h14 rc rs n0 Q X
    refine g_if_ne (tgt := 28) dX8_homes_19 (by decide) (fun c16 => ?_) (fun c16 => ?_)
    · replace K := K.1 c16
      refine g_iconst (v := 0) dX8_homes_28 (by decide) ?_
      refine g_istore_n (lv' := [(0, .ref a0), (1, .int x1), (2, .int x2), (3, .int 0)]) dX8_homes_29 rfl (by decide) rfl ?_
      refine g_iconst (v := (-1)) dX8_homes_30 (by decide) ?_
      refine g_istore (lv' := [(0, .ref a0), (1, .int x1), (2, .int x2), (3, .int 0), (4, .int (-1))]) dX8_homes_31 (by decide) rfl ?_
      refine g_iconst (v := 0) dX8_homes_33 (by decide) ?_
      refine g_istore (lv' := [(0, .ref a0), (1, .int x1), (2, .int x2), (3, .int 0), (4, .int (-1)), (5, .int 0)]) dX8_homes_34 (by decide) rfl ?_
      exact K
    · replace K := K.2 c16
      refine g_aload_n dX8_homes_22 rfl 0 rfl ?_
      refine g_iconst (v := 1) dX8_homes_23 (by decide) ?_
      obtain ⟨e19, K⟩ := K
      obtain ⟨q17, C18, K⟩ := K
      refine g_callV (M' := mX8_fail) (b := a0) (As := [.int 1]) (rest := []) (rc' := rc) (rs' := rs) dX8_homes_24 bw_1337 bw_1339 bs_39 bw_9 bw_1340 ⟨by decide +kernel, by decide +kernel, show (parseMethodDescriptor mX8_fail.1.desc).map (fun d => d.parameters.length) = some 1 by decide +kernel⟩ (by decide) (by decide) (Nat.le_of_ble_eq_true rfl) fc_8 (by decide) rfl e19 C18 (Nat.le_of_eq (Nat.add_zero _)) (Nat.le_of_eq (Nat.add_zero _)) (fun _ _ h => h) ?_
      rintro _ h20 ⟨r21, rfl, K1⟩ -
      replace K := K r21 h20 K1
      show Gm l x mX8_homes 13 27 [(0, .ref a0), (1, .int x1), (2, .int x2)] [.int r21] h20 rc rs n0 Q X
      exact g_iret dX8_homes_27 rfl K
set_option maxRecDepth 20000 in
set_option maxHeartbeats 4000000 in
theorem vX8_homes_36 {l : Launch} {x : CX} {a0 : Nat} {x1 : Int32} {x2 : Int32} {x3 : Int32} {x4 : Int32} {x5 : Int32} {h : PH} {rc rs n0 : Nat} {Q : Option Value → PH → Prop} {X : String → PH → Prop}
    (K : ((hK h a0).1 = 8) ∧ ∃ b2, (hR h a0 4 = some b2) ∧ ((hK h b2).1 = 100) ∧ (vp_in 0 (hK h b2).2) ∧ (((hI h b2 (Int32.toNatClampNeg 0)) ≤ x5 → Q (some (.int (if x2 = 0 then x3 else x4 : Int32))) h) ∧ (¬ (hI h b2 (Int32.toNatClampNeg 0)) ≤ x5 → ∃ b8, (hR h a0 2 = some b8) ∧ ((hK h b8).1 = 100) ∧ (vp_in 2 (hK h b8).2) ∧ (vp_in 3 (hK h b8).2) ∧ ∃ (q13 : PH → Prop), CV l x mX8_anewBegins 2 0 0 [.ref a0, .int (hI h b8 (Int32.toNatClampNeg 2)), .int (hI h b8 (Int32.toNatClampNeg 3))] h q13 ∧ ∀ (h15 : PH), q13 h15 → ((hK h15 a0).1 = 8) ∧ ∃ (q16 : PH → Prop), CV l x mX8_putCar 0 0 0 [.ref a0, .int x1, .int 6, .int x5] h15 q16 ∧ ∀ (h19 : PH), q16 h19 → ((hK h19 a0).1 = 8) ∧ ∃ (q20 : PH → Prop), CV l x mX8_putCar 0 0 0 [.ref a0, .int x1, .int 0, .int x5] h19 q20 ∧ ∀ (h23 : PH), q20 h23 → ((hK h23 a0).1 = 8) ∧ ∃ (q24 : Int32 → PH → Prop), CI l x mX8_anewWaited 12 0 0 [.ref a0] h23 q24 ∧ ∀ (r28 : Int32) (h27 : PH), q24 r28 h27 → Gm l x mX8_homes 13 36 [(0, .ref a0), (1, .int x1), (2, .int x2), (3, .int (if x4 = (-1) then x5 else (if r28 < x4 then x5 else x3 : Int32) : Int32)), (4, .int (if x4 = (-1) then r28 else (if r28 < x4 then r28 else x4 : Int32) : Int32)), (5, .int (x5 + 1))] [] h27 rc rs n0 Q X))) :
    Gm l x mX8_homes 13 36 [(0, .ref a0), (1, .int x1), (2, .int x2), (3, .int x3), (4, .int x4), (5, .int x5)] [] h rc rs n0 Q X := by
  refine g_iload dX8_homes_36 5 rfl ?_
  refine g_aload_n dX8_homes_38 rfl 0 rfl ?_
  obtain ⟨e1, b2, e3, K⟩ := K
  refine g_get (c := 8) (k := 4) (v := .ref b2) dX8_homes_39 fc_8 (by decide) (by decide) bw_1202 (congrArg pr e3) e1 ?_
  refine g_iconst (v := 0) dX8_homes_42 (by decide) ?_
  obtain ⟨e4, e5, K⟩ := K
  refine g_iald dX8_homes_43 e4 e5 ?_
  refine g_icmp_ge (tgt := 115) dX8_homes_44 (by decide) (fun c6 => ?_) (fun c6 => ?_)
  · replace K := K.1 c6
    refine g_iload_n dX8_homes_115 rfl 2 rfl ?_
    have KJ : Gm l x mX8_homes 13 125 [(0, .ref a0), (1, .int x1), (2, .int x2), (3, .int x3), (4, .int x4), (5, .int x5)] [.int (if x2 = 0 then x3 else x4 : Int32)] h rc rs n0 Q X := by
      exact g_iret dX8_homes_125 rfl K
    refine g_if_ne (tgt := 123) dX8_homes_116 (by decide) (fun c7 => ?_) (fun c7 => ?_)
    · refine g_iload dX8_homes_123 4 rfl ?_
      first | (simp only [if_neg c7] at KJ; exact KJ) | (simp only [if_neg c7, ite_true, ite_false, eq_self] at KJ; exact KJ) | (simp only [if_neg c7] at KJ ⊢; exact KJ) | exact KJ
    · refine g_iload_n dX8_homes_119 rfl 3 rfl ?_
      refine g_goto (tgt := 125) dX8_homes_120 (by decide) ?_
      first | (simp only [if_pos c7] at KJ; exact KJ) | (simp only [if_pos c7, ite_true, ite_false, eq_self] at KJ; exact KJ) | (simp only [if_pos c7] at KJ ⊢; exact KJ) | exact KJ
  · replace K := K.2 c6
    refine g_aload_n dX8_homes_47 rfl 0 rfl ?_
    refine g_aload_n dX8_homes_48 rfl 0 rfl ?_
    obtain ⟨b8, e9, K⟩ := K
    refine g_get (c := 8) (k := 2) (v := .ref b8) dX8_homes_49 fc_8 (by decide) (by decide) bw_1200 (congrArg pr e9) e1 ?_
    refine g_iconst (v := 2) dX8_homes_52 (by decide) ?_
    obtain ⟨e10, e11, K⟩ := K
    refine g_iald dX8_homes_53 e10 e11 ?_
    refine g_aload_n dX8_homes_54 rfl 0 rfl ?_
    refine g_get (c := 8) (k := 2) (v := .ref b8) dX8_homes_55 fc_8 (by decide) (by decide) bw_1200 (congrArg pr e9) e1 ?_
    refine g_iconst (v := 3) dX8_homes_58 (by decide) ?_
    obtain ⟨e12, K⟩ := K
    refine g_iald dX8_homes_59 e10 e12 ?_
    obtain ⟨q13, C14, K⟩ := K
    refine g_callV (M' := mX8_anewBegins) (b := a0) (As := [.int (hI h b8 (Int32.toNatClampNeg 2)), .int (hI h b8 (Int32.toNatClampNeg 3))]) (rest := []) (rc' := rc) (rs' := rs) dX8_homes_60 bw_1445 bw_1447 bs_60 bw_9 bw_1448 ⟨by decide +kernel, by decide +kernel, show (parseMethodDescriptor mX8_anewBegins.1.desc).map (fun d => d.parameters.length) = some 2 by decide +kernel⟩ (by decide) (by decide) (Nat.le_of_ble_eq_true rfl) fc_8 (by decide) rfl e1 C14 (Nat.le_of_eq (Nat.add_zero _)) (Nat.le_of_eq (Nat.add_zero _)) (fun _ _ h => h) ?_
    rintro _ h15 ⟨rfl, K1⟩ -
    replace K := K h15 K1
    show Gm l x mX8_homes 13 63 [(0, .ref a0), (1, .int x1), (2, .int x2), (3, .int x3), (4, .int x4), (5, .int x5)] [] h15 rc rs n0 Q X
    refine g_aload_n dX8_homes_63 rfl 0 rfl ?_
    refine g_iload_n dX8_homes_64 rfl 1 rfl ?_
    refine g_bipush (v := 6) dX8_homes_65 (by decide) ?_
    refine g_iload dX8_homes_67 5 rfl ?_
    obtain ⟨e18, K⟩ := K
    obtain ⟨q16, C17, K⟩ := K
    refine g_callV (M' := mX8_putCar) (b := a0) (As := [.int x1, .int 6, .int x5]) (rest := []) (rc' := rc) (rs' := rs) dX8_homes_69 bw_1190 bw_1192 bs_37 bw_9 bw_1193 ⟨by decide +kernel, by decide +kernel, show (parseMethodDescriptor mX8_putCar.1.desc).map (fun d => d.parameters.length) = some 3 by decide +kernel⟩ (by decide) (by decide) (Nat.le_of_ble_eq_true rfl) fc_8 (by decide) rfl e18 C17 (Nat.le_of_eq (Nat.add_zero _)) (Nat.le_of_eq (Nat.add_zero _)) (fun _ _ h => h) ?_
    rintro _ h19 ⟨rfl, K1⟩ -
    replace K := K h19 K1
    show Gm l x mX8_homes 13 72 [(0, .ref a0), (1, .int x1), (2, .int x2), (3, .int x3), (4, .int x4), (5, .int x5)] [] h19 rc rs n0 Q X
    refine g_aload_n dX8_homes_72 rfl 0 rfl ?_
    refine g_iload_n dX8_homes_73 rfl 1 rfl ?_
    refine g_iconst (v := 0) dX8_homes_74 (by decide) ?_
    refine g_iload dX8_homes_75 5 rfl ?_
    obtain ⟨e22, K⟩ := K
    obtain ⟨q20, C21, K⟩ := K
    refine g_callV (M' := mX8_putCar) (b := a0) (As := [.int x1, .int 0, .int x5]) (rest := []) (rc' := rc) (rs' := rs) dX8_homes_77 bw_1190 bw_1192 bs_37 bw_9 bw_1193 ⟨by decide +kernel, by decide +kernel, show (parseMethodDescriptor mX8_putCar.1.desc).map (fun d => d.parameters.length) = some 3 by decide +kernel⟩ (by decide) (by decide) (Nat.le_of_ble_eq_true rfl) fc_8 (by decide) rfl e22 C21 (Nat.le_of_eq (Nat.add_zero _)) (Nat.le_of_eq (Nat.add_zero _)) (fun _ _ h => h) ?_
    rintro _ h23 ⟨rfl, K1⟩ -
    replace K := K h23 K1
    show Gm l x mX8_homes 13 80 [(0, .ref a0), (1, .int x1), (2, .int x2), (3, .int x3), (4, .int x4), (5, .int x5)] [] h23 rc rs n0 Q X
    refine g_aload_n dX8_homes_80 rfl 0 rfl ?_
    obtain ⟨e26, K⟩ := K
    obtain ⟨q24, C25, K⟩ := K
    refine g_callV (M' := mX8_anewWaited) (b := a0) (As := []) (rest := []) (rc' := rc) (rs' := rs) dX8_homes_81 bw_1449 bw_1451 bs_61 bw_9 bw_1452 ⟨by decide +kernel, by decide +kernel, show (parseMethodDescriptor mX8_anewWaited.1.desc).map (fun d => d.parameters.length) = some 0 by decide +kernel⟩ (by decide) (by decide) (Nat.le_of_ble_eq_true rfl) fc_8 (by decide) rfl e26 C25 (Nat.le_of_eq (Nat.add_zero _)) (Nat.le_of_eq (Nat.add_zero _)) (fun _ _ h => h) ?_
    rintro _ h27 ⟨r28, rfl, K1⟩ -
    replace K := K r28 h27 K1
    show Gm l x mX8_homes 13 84 [(0, .ref a0), (1, .int x1), (2, .int x2), (3, .int x3), (4, .int x4), (5, .int x5)] [.int r28] h27 rc rs n0 Q X
    refine g_istore (lv' := [(0, .ref a0), (1, .int x1), (2, .int x2), (3, .int x3), (4, .int x4), (5, .int x5), (6, .int r28)]) dX8_homes_84 (by decide) rfl ?_
    refine g_iload dX8_homes_86 4 rfl ?_
    refine g_iconst (v := (-1)) dX8_homes_88 (by decide) ?_
    have KJ : Gm l x mX8_homes 13 109 [(0, .ref a0), (1, .int x1), (2, .int x2), (3, .int (if x4 = (-1) then x5 else (if r28 < x4 then x5 else x3 : Int32) : Int32)), (4, .int (if x4 = (-1) then r28 else (if r28 < x4 then r28 else x4 : Int32) : Int32)), (5, .int x5), (6, .int r28)] [] h27 rc rs n0 Q X := by
      refine g_iinc (v := (x5 + 1)) (lv' := [(0, .ref a0), (1, .int x1), (2, .int x2), (3, .int (if x4 = (-1) then x5 else (if r28 < x4 then x5 else x3 : Int32) : Int32)), (4, .int (if x4 = (-1) then r28 else (if r28 < x4 then r28 else x4 : Int32) : Int32)), (5, .int (x5 + 1)), (6, .int r28)]) dX8_homes_109 5 rfl (by rfl) (by decide) rfl ?_
      refine g_goto (tgt := 36) dX8_homes_112 (by decide) ?_
      exact Gm.sub [0, 1, 2, 3, 4, 5] rfl K
    refine g_icmp_eq (tgt := 102) dX8_homes_89 (by decide) (fun c29 => ?_) (fun c29 => ?_)
    · refine g_iload dX8_homes_102 5 rfl ?_
      refine g_istore_n (lv' := [(0, .ref a0), (1, .int x1), (2, .int x2), (3, .int x5), (4, .int x4), (5, .int x5), (6, .int r28)]) dX8_homes_104 rfl (by decide) rfl ?_
      refine g_iload dX8_homes_105 6 rfl ?_
      refine g_istore (lv' := [(0, .ref a0), (1, .int x1), (2, .int x2), (3, .int x5), (4, .int r28), (5, .int x5), (6, .int r28)]) dX8_homes_107 (by decide) rfl ?_
      first | (simp only [if_pos c29] at KJ; exact KJ) | (simp only [if_pos c29, ite_true, ite_false, eq_self] at KJ; exact KJ) | (simp only [if_pos c29] at KJ ⊢; exact KJ) | exact KJ
    · refine g_iload dX8_homes_92 6 rfl ?_
      refine g_iload dX8_homes_94 4 rfl ?_
      refine g_icmp_lt (tgt := 102) dX8_homes_96 (by decide) (fun c30 => ?_) (fun c30 => ?_)
      · refine g_iload dX8_homes_102 5 rfl ?_
        refine g_istore_n (lv' := [(0, .ref a0), (1, .int x1), (2, .int x2), (3, .int x5), (4, .int x4), (5, .int x5), (6, .int r28)]) dX8_homes_104 rfl (by decide) rfl ?_
        refine g_iload dX8_homes_105 6 rfl ?_
        refine g_istore (lv' := [(0, .ref a0), (1, .int x1), (2, .int x2), (3, .int x5), (4, .int r28), (5, .int x5), (6, .int r28)]) dX8_homes_107 (by decide) rfl ?_
        first | (simp only [if_neg c29, if_pos c30] at KJ; exact KJ) | (simp only [if_neg c29, if_pos c30, ite_true, ite_false, eq_self] at KJ; exact KJ) | (simp only [if_neg c29, if_pos c30] at KJ ⊢; exact KJ) | exact KJ
      · refine g_goto (tgt := 109) dX8_homes_99 (by decide) ?_
        first | (simp only [if_neg c29, if_neg c30] at KJ; exact KJ) | (simp only [if_neg c29, if_neg c30, ite_true, ite_false, eq_self] at KJ; exact KJ) | (simp only [if_neg c29, if_neg c30] at KJ ⊢; exact KJ) | exact KJ
theorem dX8_later_0 : decode cX8_later 0 = .ok (.aload_n 0, 1) := by decide +kernel
theorem dX8_later_1 : decode cX8_later 1 = .ok (.iconst 0, 1) := by decide +kernel
theorem dX8_later_2 : decode cX8_later 2 = .ok (.putfield 104, 3) := by decide +kernel
theorem dX8_later_5 : decode cX8_later 5 = .ok (.iload_n 1, 1) := by decide +kernel
theorem dX8_later_6 : decode cX8_later 6 = .ok (.iconst 0, 1) := by decide +kernel
theorem dX8_later_7 : decode cX8_later 7 = .ok (.aload_n 0, 1) := by decide +kernel
theorem dX8_later_8 : decode cX8_later 8 = .ok (.getfield 36, 3) := by decide +kernel
theorem dX8_later_11 : decode cX8_later 11 = .ok (.iconst 2, 1) := by decide +kernel
theorem dX8_later_12 : decode cX8_later 12 = .ok (.iaload, 1) := by decide +kernel
theorem dX8_later_13 : decode cX8_later 13 = .ok (.iconst 1, 1) := by decide +kernel
theorem dX8_later_14 : decode cX8_later 14 = .ok (.isub, 1) := by decide +kernel
theorem dX8_later_15 : decode cX8_later 15 = .ok (.invokestatic 390, 3) := by decide +kernel
theorem dX8_later_18 : decode cX8_later 18 = .ok (.ifCond .ne 9, 3) := by decide +kernel
theorem dX8_later_21 : decode cX8_later 21 = .ok (.aload_n 0, 1) := by decide +kernel
theorem dX8_later_22 : decode cX8_later 22 = .ok (.iconst 1, 1) := by decide +kernel
theorem dX8_later_23 : decode cX8_later 23 = .ok (.invokevirtual 198, 3) := by decide +kernel
theorem dX8_later_26 : decode cX8_later 26 = .ok (.ireturn, 1) := by decide +kernel
theorem dX8_later_27 : decode cX8_later 27 = .ok (.aload_n 0, 1) := by decide +kernel
theorem dX8_later_28 : decode cX8_later 28 = .ok (.iload_n 1, 1) := by decide +kernel
theorem dX8_later_29 : decode cX8_later 29 = .ok (.iconst 0, 1) := by decide +kernel
theorem dX8_later_30 : decode cX8_later 30 = .ok (.invokevirtual 420, 3) := by decide +kernel
theorem dX8_later_33 : decode cX8_later 33 = .ok (.istore_n 2, 1) := by decide +kernel
theorem dX8_later_34 : decode cX8_later 34 = .ok (.iload_n 2, 1) := by decide +kernel
theorem dX8_later_35 : decode cX8_later 35 = .ok (.iconst (-1), 1) := by decide +kernel
theorem dX8_later_36 : decode cX8_later 36 = .ok (.if_icmp .ne 5, 3) := by decide +kernel
theorem dX8_later_39 : decode cX8_later 39 = .ok (.iconst 0, 1) := by decide +kernel
theorem dX8_later_40 : decode cX8_later 40 = .ok (.ireturn, 1) := by decide +kernel
theorem dX8_later_41 : decode cX8_later 41 = .ok (.iconst 0, 1) := by decide +kernel
theorem dX8_later_42 : decode cX8_later 42 = .ok (.istore_n 3, 1) := by decide +kernel
theorem dX8_later_43 : decode cX8_later 43 = .ok (.iconst 1, 1) := by decide +kernel
theorem dX8_later_44 : decode cX8_later 44 = .ok (.istore 4, 2) := by decide +kernel
theorem dX8_later_46 : decode cX8_later 46 = .ok (.iload 4, 2) := by decide +kernel
theorem dX8_later_48 : decode cX8_later 48 = .ok (.bipush 20, 2) := by decide +kernel
theorem dX8_later_50 : decode cX8_later 50 = .ok (.if_icmp .gt 55, 3) := by decide +kernel
theorem dX8_later_53 : decode cX8_later 53 = .ok (.aload_n 0, 1) := by decide +kernel
theorem dX8_later_54 : decode cX8_later 54 = .ok (.getfield 48, 3) := by decide +kernel
theorem dX8_later_57 : decode cX8_later 57 = .ok (.iconst 4, 1) := by decide +kernel
theorem dX8_later_58 : decode cX8_later 58 = .ok (.iload_n 1, 1) := by decide +kernel
theorem dX8_later_59 : decode cX8_later 59 = .ok (.imul, 1) := by decide +kernel
theorem dX8_later_60 : decode cX8_later 60 = .ok (.iconst 1, 1) := by decide +kernel
theorem dX8_later_61 : decode cX8_later 61 = .ok (.iadd, 1) := by decide +kernel
theorem dX8_later_62 : decode cX8_later 62 = .ok (.iaload, 1) := by decide +kernel
theorem dX8_later_63 : decode cX8_later 63 = .ok (.iload 4, 2) := by decide +kernel
theorem dX8_later_65 : decode cX8_later 65 = .ok (.iadd, 1) := by decide +kernel
theorem dX8_later_66 : decode cX8_later 66 = .ok (.bipush 99, 2) := by decide +kernel
theorem dX8_later_68 : decode cX8_later 68 = .ok (.if_icmp .gt 37, 3) := by decide +kernel
theorem dX8_later_71 : decode cX8_later 71 = .ok (.aload_n 0, 1) := by decide +kernel
theorem dX8_later_72 : decode cX8_later 72 = .ok (.iload_n 1, 1) := by decide +kernel
theorem dX8_later_73 : decode cX8_later 73 = .ok (.iload 4, 2) := by decide +kernel
theorem dX8_later_75 : decode cX8_later 75 = .ok (.invokevirtual 420, 3) := by decide +kernel
theorem dX8_later_78 : decode cX8_later 78 = .ok (.istore 5, 2) := by decide +kernel
theorem dX8_later_80 : decode cX8_later 80 = .ok (.iload 5, 2) := by decide +kernel
theorem dX8_later_82 : decode cX8_later 82 = .ok (.iconst (-1), 1) := by decide +kernel
theorem dX8_later_83 : decode cX8_later 83 = .ok (.if_icmp .eq 14, 3) := by decide +kernel
theorem dX8_later_86 : decode cX8_later 86 = .ok (.iload 5, 2) := by decide +kernel
theorem dX8_later_88 : decode cX8_later 88 = .ok (.iload_n 2, 1) := by decide +kernel
theorem dX8_later_89 : decode cX8_later 89 = .ok (.if_icmp .gt 8, 3) := by decide +kernel
theorem dX8_later_92 : decode cX8_later 92 = .ok (.iload 4, 2) := by decide +kernel
theorem dX8_later_94 : decode cX8_later 94 = .ok (.goto 4, 3) := by decide +kernel
theorem dX8_later_97 : decode cX8_later 97 = .ok (.iload_n 3, 1) := by decide +kernel
theorem dX8_later_98 : decode cX8_later 98 = .ok (.istore_n 3, 1) := by decide +kernel
theorem dX8_later_99 : decode cX8_later 99 = .ok (.iinc 4 1, 3) := by decide +kernel
theorem dX8_later_102 : decode cX8_later 102 = .ok (.goto (-56), 3) := by decide +kernel
theorem dX8_later_105 : decode cX8_later 105 = .ok (.iload_n 3, 1) := by decide +kernel
theorem dX8_later_106 : decode cX8_later 106 = .ok (.ireturn, 1) := by decide +kernel
set_option maxRecDepth 20000 in
set_option maxHeartbeats 4000000 in
theorem vX8_later_0 {l : Launch} {x : CX} {a0 : Nat} {x1 : Int32} {h : PH} {rc rs n0 : Nat} {Q : Option Value → PH → Prop} {X : String → PH → Prop}
    (K : ((hK h a0).1 = 8) ∧ ∃ b2, (hR h a0 4 = some b2) ∧ ((hK h b2).1 = 100) ∧ (vp_in 2 (hK h b2).2) ∧ ∃ (q6 : Int32 → PH → Prop), CI l x mX8_isIn 0 0 0 [.int x1, .int 0, .int ((hI (sI h a0 1 0) b2 (Int32.toNatClampNeg 2)) - 1)] (sI h a0 1 0) q6 ∧ ∀ (r9 : Int32) (h8 : PH), q6 r9 h8 → ((¬ r9 = 0 → ((hK h8 a0).1 = 8) ∧ ∃ (q11 : Int32 → PH → Prop), CI l x mX8_endsAnew 12 0 0 [.ref a0, .int x1, .int 0] h8 q11 ∧ ∀ (r15 : Int32) (h14 : PH), q11 r15 h14 → ((¬ r15 = (-1) → Gm l x mX8_later 13 46 [(0, .ref a0), (1, .int x1), (2, .int r15), (3, .int 0), (4, .int 1)] [] h14 rc rs n0 Q X) ∧ (r15 = (-1) → Q (some (.int 0)) h14))) ∧ (r9 = 0 → ((hK h8 a0).1 = 8) ∧ ∃ (q17 : Int32 → PH → Prop), CI l x mX8_fail 0 0 0 [.ref a0, .int 1] h8 q17 ∧ ∀ (r21 : Int32) (h20 : PH), q17 r21 h20 → Q (some (.int r21)) h20))) :
    Gm l x mX8_later 13 0 [(0, .ref a0), (1, .int x1)] [] h rc rs n0 Q X := by
  refine g_aload_n dX8_later_0 rfl 0 rfl ?_
  refine g_iconst (v := 0) dX8_later_1 (by decide) ?_
  obtain ⟨e1, K⟩ := K
  refine g_puti (c := 8) (k := 1) dX8_later_2 fc_8 (by decide) (by decide) bw_1199 (Or.inl rfl) rfl e1 ?_
  refine g_iload_n dX8_later_5 rfl 1 rfl ?_
  refine g_iconst (v := 0) dX8_later_6 (by decide) ?_
  refine g_aload_n dX8_later_7 rfl 0 rfl ?_
  obtain ⟨b2, e3, K⟩ := K
  refine g_get (c := 8) (k := 4) (v := .ref b2) dX8_later_8 fc_8 (by decide) (by decide) bw_1202 (congrArg pr (krI e3)) (kkI e1) ?_
  refine g_iconst (v := 2) dX8_later_11 (by decide) ?_
  obtain ⟨e4, e5, K⟩ := K
  refine g_iald dX8_later_12 (kkI e4) (kvI e5) ?_
  refine g_iconst (v := 1) dX8_later_13 (by decide) ?_
  refine g_isub dX8_later_14 ?_
  obtain ⟨q6, C7, K⟩ := K
  refine g_callS (M' := mX8_isIn) (As := [.int x1, .int 0, .int ((hI (sI h a0 1 0) b2 (Int32.toNatClampNeg 2)) - 1)]) (rest := []) (rc' := rc) (rs' := rs) dX8_later_15 bw_1612 bw_1613 bw_9 bw_1614 ⟨by decide +kernel, by decide +kernel, show (parseMethodDescriptor mX8_isIn.1.desc).map (fun d => d.parameters.length) = some 3 by decide +kernel⟩ (by decide) (by decide) (Nat.le_of_ble_eq_true rfl) C7 (Nat.le_of_eq (Nat.add_zero _)) (Nat.le_of_eq (Nat.add_zero _)) (fun _ _ h => h) ?_
  rintro _ h8 ⟨r9, rfl, K1⟩ -
  replace K := K r9 h8 K1
  show Gm l x mX8_later 13 18 [(0, .ref a0), (1, .int x1)] [.int r9] h8 rc rs n0 Q X
  refine g_if_ne (tgt := 27) dX8_later_18 (by decide) (fun c10 => ?_) (fun c10 => ?_)
  · replace K := K.1 c10
    refine g_aload_n dX8_later_27 rfl 0 rfl ?_
    refine g_iload_n dX8_later_28 rfl 1 rfl ?_
    refine g_iconst (v := 0) dX8_later_29 (by decide) ?_
    obtain ⟨e13, K⟩ := K
    obtain ⟨q11, C12, K⟩ := K
    refine g_callV (M' := mX8_endsAnew) (b := a0) (As := [.int x1, .int 0]) (rest := []) (rc' := rc) (rs' := rs) dX8_later_30 bw_1703 bw_1705 bs_101 bw_9 bw_1706 ⟨by decide +kernel, by decide +kernel, show (parseMethodDescriptor mX8_endsAnew.1.desc).map (fun d => d.parameters.length) = some 2 by decide +kernel⟩ (by decide) (by decide) (Nat.le_of_ble_eq_true rfl) fc_8 (by decide) rfl e13 C12 (Nat.le_of_eq (Nat.add_zero _)) (Nat.le_of_eq (Nat.add_zero _)) (fun _ _ h => h) ?_
    rintro _ h14 ⟨r15, rfl, K1⟩ -
    replace K := K r15 h14 K1
    show Gm l x mX8_later 13 33 [(0, .ref a0), (1, .int x1)] [.int r15] h14 rc rs n0 Q X
    refine g_istore_n (lv' := [(0, .ref a0), (1, .int x1), (2, .int r15)]) dX8_later_33 rfl (by decide) rfl ?_
    refine g_iload_n dX8_later_34 rfl 2 rfl ?_
    refine g_iconst (v := (-1)) dX8_later_35 (by decide) ?_
    refine g_icmp_ne (tgt := 41) dX8_later_36 (by decide) (fun c16 => ?_) (fun c16 => ?_)
    · replace K := K.1 c16
      refine g_iconst (v := 0) dX8_later_41 (by decide) ?_
      refine g_istore_n (lv' := [(0, .ref a0), (1, .int x1), (2, .int r15), (3, .int 0)]) dX8_later_42 rfl (by decide) rfl ?_
      refine g_iconst (v := 1) dX8_later_43 (by decide) ?_
      refine g_istore (lv' := [(0, .ref a0), (1, .int x1), (2, .int r15), (3, .int 0), (4, .int 1)]) dX8_later_44 (by decide) rfl ?_
      exact K
    · replace K := K.2 c16
      refine g_iconst (v := 0) dX8_later_39 (by decide) ?_
      exact g_iret dX8_later_40 rfl K
  · replace K := K.2 c10
    refine g_aload_n dX8_later_21 rfl 0 rfl ?_
    refine g_iconst (v := 1) dX8_later_22 (by decide) ?_
    obtain ⟨e19, K⟩ := K
    obtain ⟨q17, C18, K⟩ := K
    refine g_callV (M' := mX8_fail) (b := a0) (As := [.int 1]) (rest := []) (rc' := rc) (rs' := rs) dX8_later_23 bw_1337 bw_1339 bs_39 bw_9 bw_1340 ⟨by decide +kernel, by decide +kernel, show (parseMethodDescriptor mX8_fail.1.desc).map (fun d => d.parameters.length) = some 1 by decide +kernel⟩ (by decide) (by decide) (Nat.le_of_ble_eq_true rfl) fc_8 (by decide) rfl e19 C18 (Nat.le_of_eq (Nat.add_zero _)) (Nat.le_of_eq (Nat.add_zero _)) (fun _ _ h => h) ?_
    rintro _ h20 ⟨r21, rfl, K1⟩ -
    replace K := K r21 h20 K1
    show Gm l x mX8_later 13 26 [(0, .ref a0), (1, .int x1)] [.int r21] h20 rc rs n0 Q X
    exact g_iret dX8_later_26 rfl K
set_option maxRecDepth 20000 in
set_option maxHeartbeats 4000000 in
theorem vX8_later_46 {l : Launch} {x : CX} {a0 : Nat} {x1 : Int32} {x2 : Int32} {x3 : Int32} {x4 : Int32} {h : PH} {rc rs n0 : Nat} {Q : Option Value → PH → Prop} {X : String → PH → Prop}
    (K : ((20 < x4 → Q (some (.int x3)) h) ∧ (¬ 20 < x4 → ((hK h a0).1 = 8) ∧ ∃ b3, (hR h a0 8 = some b3) ∧ ((hK h b3).1 = 100) ∧ (vp_in ((4 * x1) + 1) (hK h b3).2) ∧ ((99 < ((hI h b3 ((4 * x1) + 1).toNatClampNeg) + x4) → Q (some (.int x3)) h) ∧ (¬ 99 < ((hI h b3 ((4 * x1) + 1).toNatClampNeg) + x4) → ∃ (q8 : Int32 → PH → Prop), CI l x mX8_endsAnew 12 0 0 [.ref a0, .int x1, .int x4] h q8 ∧ ∀ (r11 : Int32) (h10 : PH), q8 r11 h10 → ∀ (y14 : Int32), y14 = (if r11 = (-1) then x3 else (if x2 < r11 then x3 else x4 : Int32) : Int32) → Gm l x mX8_later 13 46 [(0, .ref a0), (1, .int x1), (2, .int x2), (3, .int y14), (4, .int (x4 + 1))] [] h10 rc rs n0 Q X))))) :
    Gm l x mX8_later 13 46 [(0, .ref a0), (1, .int x1), (2, .int x2), (3, .int x3), (4, .int x4)] [] h rc rs n0 Q X := by
  refine g_iload dX8_later_46 4 rfl ?_
  refine g_bipush (v := 20) dX8_later_48 (by decide) ?_
  refine g_icmp_gt (tgt := 105) dX8_later_50 (by decide) (fun c1 => ?_) (fun c1 => ?_)
  · replace K := K.1 c1
    refine g_iload_n dX8_later_105 rfl 3 rfl ?_
    exact g_iret dX8_later_106 rfl K
  · replace K := K.2 c1
    refine g_aload_n dX8_later_53 rfl 0 rfl ?_
    obtain ⟨e2, b3, e4, K⟩ := K
    refine g_get (c := 8) (k := 8) (v := .ref b3) dX8_later_54 fc_8 (by decide) (by decide) bw_1206 (congrArg pr e4) e2 ?_
    refine g_iconst (v := 4) dX8_later_57 (by decide) ?_
    refine g_iload_n dX8_later_58 rfl 1 rfl ?_
    refine g_imul dX8_later_59 ?_
    refine g_iconst (v := 1) dX8_later_60 (by decide) ?_
    refine g_iadd dX8_later_61 ?_
    obtain ⟨e5, e6, K⟩ := K
    refine g_iald dX8_later_62 e5 e6 ?_
    refine g_iload dX8_later_63 4 rfl ?_
    refine g_iadd dX8_later_65 ?_
    refine g_bipush (v := 99) dX8_later_66 (by decide) ?_
    refine g_icmp_gt (tgt := 105) dX8_later_68 (by decide) (fun c7 => ?_) (fun c7 => ?_)
    · replace K := K.1 c7
      refine g_iload_n dX8_later_105 rfl 3 rfl ?_
      exact g_iret dX8_later_106 rfl K
    · replace K := K.2 c7
      refine g_aload_n dX8_later_71 rfl 0 rfl ?_
      refine g_iload_n dX8_later_72 rfl 1 rfl ?_
      refine g_iload dX8_later_73 4 rfl ?_
      obtain ⟨q8, C9, K⟩ := K
      refine g_callV (M' := mX8_endsAnew) (b := a0) (As := [.int x1, .int x4]) (rest := []) (rc' := rc) (rs' := rs) dX8_later_75 bw_1703 bw_1705 bs_101 bw_9 bw_1706 ⟨by decide +kernel, by decide +kernel, show (parseMethodDescriptor mX8_endsAnew.1.desc).map (fun d => d.parameters.length) = some 2 by decide +kernel⟩ (by decide) (by decide) (Nat.le_of_ble_eq_true rfl) fc_8 (by decide) rfl e2 C9 (Nat.le_of_eq (Nat.add_zero _)) (Nat.le_of_eq (Nat.add_zero _)) (fun _ _ h => h) ?_
      rintro _ h10 ⟨r11, rfl, K1⟩ -
      replace K := K r11 h10 K1
      show Gm l x mX8_later 13 78 [(0, .ref a0), (1, .int x1), (2, .int x2), (3, .int x3), (4, .int x4)] [.int r11] h10 rc rs n0 Q X
      refine g_istore (lv' := [(0, .ref a0), (1, .int x1), (2, .int x2), (3, .int x3), (4, .int x4), (5, .int r11)]) dX8_later_78 (by decide) rfl ?_
      refine g_iload dX8_later_80 5 rfl ?_
      refine g_iconst (v := (-1)) dX8_later_82 (by decide) ?_
      have KJ : Gm l x mX8_later 13 98 [(0, .ref a0), (1, .int x1), (2, .int x2), (3, .int x3), (4, .int x4), (5, .int r11)] [.int (if r11 = (-1) then x3 else (if x2 < r11 then x3 else x4 : Int32) : Int32)] h10 rc rs n0 Q X := by
        refine g_nmI (fun y14 e15 => ?_)
        replace K := K y14 e15
        refine g_istore_n (lv' := [(0, .ref a0), (1, .int x1), (2, .int x2), (3, .int y14), (4, .int x4), (5, .int r11)]) dX8_later_98 rfl (by decide) rfl ?_
        refine g_iinc (v := (x4 + 1)) (lv' := [(0, .ref a0), (1, .int x1), (2, .int x2), (3, .int y14), (4, .int (x4 + 1)), (5, .int r11)]) dX8_later_99 4 rfl (by rfl) (by decide) rfl ?_
        refine g_goto (tgt := 46) dX8_later_102 (by decide) ?_
        exact Gm.sub [0, 1, 2, 3, 4] rfl K
      refine g_icmp_eq (tgt := 97) dX8_later_83 (by decide) (fun c12 => ?_) (fun c12 => ?_)
      · refine g_iload_n dX8_later_97 rfl 3 rfl ?_
        first | (simp only [if_pos c12] at KJ; exact KJ) | (simp only [if_pos c12, ite_true, ite_false, eq_self] at KJ; exact KJ) | (simp only [if_pos c12] at KJ ⊢; exact KJ) | exact KJ
      · refine g_iload dX8_later_86 5 rfl ?_
        refine g_iload_n dX8_later_88 rfl 2 rfl ?_
        refine g_icmp_gt (tgt := 97) dX8_later_89 (by decide) (fun c13 => ?_) (fun c13 => ?_)
        · refine g_iload_n dX8_later_97 rfl 3 rfl ?_
          first | (simp only [if_neg c12, if_pos c13] at KJ; exact KJ) | (simp only [if_neg c12, if_pos c13, ite_true, ite_false, eq_self] at KJ; exact KJ) | (simp only [if_neg c12, if_pos c13] at KJ ⊢; exact KJ) | exact KJ
        · refine g_iload dX8_later_92 4 rfl ?_
          refine g_goto (tgt := 98) dX8_later_94 (by decide) ?_
          first | (simp only [if_neg c12, if_neg c13] at KJ; exact KJ) | (simp only [if_neg c12, if_neg c13, ite_true, ite_false, eq_self] at KJ; exact KJ) | (simp only [if_neg c12, if_neg c13] at KJ ⊢; exact KJ) | exact KJ
theorem dX8_fits_0 : decode cX8_fits 0 = .ok (.aload_n 0, 1) := by decide +kernel
theorem dX8_fits_1 : decode cX8_fits 1 = .ok (.iconst 0, 1) := by decide +kernel
theorem dX8_fits_2 : decode cX8_fits 2 = .ok (.putfield 104, 3) := by decide +kernel
theorem dX8_fits_5 : decode cX8_fits 5 = .ok (.iload_n 1, 1) := by decide +kernel
theorem dX8_fits_6 : decode cX8_fits 6 = .ok (.iconst 0, 1) := by decide +kernel
theorem dX8_fits_7 : decode cX8_fits 7 = .ok (.iconst 1, 1) := by decide +kernel
theorem dX8_fits_8 : decode cX8_fits 8 = .ok (.invokestatic 390, 3) := by decide +kernel
theorem dX8_fits_11 : decode cX8_fits 11 = .ok (.ifCond .ne 9, 3) := by decide +kernel
theorem dX8_fits_14 : decode cX8_fits 14 = .ok (.aload_n 0, 1) := by decide +kernel
theorem dX8_fits_15 : decode cX8_fits 15 = .ok (.iconst 1, 1) := by decide +kernel
theorem dX8_fits_16 : decode cX8_fits 16 = .ok (.invokevirtual 198, 3) := by decide +kernel
theorem dX8_fits_19 : decode cX8_fits 19 = .ok (.ireturn, 1) := by decide +kernel
theorem dX8_fits_20 : decode cX8_fits 20 = .ok (.aload_n 0, 1) := by decide +kernel
theorem dX8_fits_21 : decode cX8_fits 21 = .ok (.invokevirtual 429, 3) := by decide +kernel
theorem dX8_fits_24 : decode cX8_fits 24 = .ok (.iload_n 1, 1) := by decide +kernel
theorem dX8_fits_25 : decode cX8_fits 25 = .ok (.ifCond .ne 10, 3) := by decide +kernel
theorem dX8_fits_28 : decode cX8_fits 28 = .ok (.aload_n 0, 1) := by decide +kernel
theorem dX8_fits_29 : decode cX8_fits 29 = .ok (.getfield 423, 3) := by decide +kernel
theorem dX8_fits_32 : decode cX8_fits 32 = .ok (.goto 7, 3) := by decide +kernel
theorem dX8_fits_35 : decode cX8_fits 35 = .ok (.aload_n 0, 1) := by decide +kernel
theorem dX8_fits_36 : decode cX8_fits 36 = .ok (.getfield 426, 3) := by decide +kernel
theorem dX8_fits_39 : decode cX8_fits 39 = .ok (.ireturn, 1) := by decide +kernel
set_option maxRecDepth 20000 in
set_option maxHeartbeats 4000000 in
theorem vX8_fits_0 {l : Launch} {x : CX} {a0 : Nat} {x1 : Int32} {h : PH} {rc rs n0 : Nat} {Q : Option Value → PH → Prop} {X : String → PH → Prop}
    (K : ((hK h a0).1 = 8) ∧ ∃ (q2 : Int32 → PH → Prop), CI l x mX8_isIn 0 0 0 [.int x1, .int 0, .int 1] (sI h a0 1 0) q2 ∧ ∀ (r5 : Int32) (h4 : PH), q2 r5 h4 → ((¬ r5 = 0 → ((hK h4 a0).1 = 8) ∧ ∃ (q7 : PH → Prop), CV l x mX8_tellFits 12 0 0 [.ref a0] h4 q7 ∧ ∀ (h10 : PH), q7 h10 → ((¬ x1 = 0 → ((hK h10 a0).1 = 8) ∧ Q (some (.int (hI h10 a0 30))) h10) ∧ (x1 = 0 → ((hK h10 a0).1 = 8) ∧ Q (some (.int (hI h10 a0 29))) h10))) ∧ (r5 = 0 → ((hK h4 a0).1 = 8) ∧ ∃ (q14 : Int32 → PH → Prop), CI l x mX8_fail 0 0 0 [.ref a0, .int 1] h4 q14 ∧ ∀ (r18 : Int32) (h17 : PH), q14 r18 h17 → Q (some (.int r18)) h17))) :
    Gm l x mX8_fits 13 0 [(0, .ref a0), (1, .int x1)] [] h rc rs n0 Q X := by
  refine g_aload_n dX8_fits_0 rfl 0 rfl ?_
  refine g_iconst (v := 0) dX8_fits_1 (by decide) ?_
  obtain ⟨e1, K⟩ := K
  refine g_puti (c := 8) (k := 1) dX8_fits_2 fc_8 (by decide) (by decide) bw_1199 (Or.inl rfl) rfl e1 ?_
  refine g_iload_n dX8_fits_5 rfl 1 rfl ?_
  refine g_iconst (v := 0) dX8_fits_6 (by decide) ?_
  refine g_iconst (v := 1) dX8_fits_7 (by decide) ?_
  obtain ⟨q2, C3, K⟩ := K
  refine g_callS (M' := mX8_isIn) (As := [.int x1, .int 0, .int 1]) (rest := []) (rc' := rc) (rs' := rs) dX8_fits_8 bw_1612 bw_1613 bw_9 bw_1614 ⟨by decide +kernel, by decide +kernel, show (parseMethodDescriptor mX8_isIn.1.desc).map (fun d => d.parameters.length) = some 3 by decide +kernel⟩ (by decide) (by decide) (Nat.le_of_ble_eq_true rfl) C3 (Nat.le_of_eq (Nat.add_zero _)) (Nat.le_of_eq (Nat.add_zero _)) (fun _ _ h => h) ?_
  rintro _ h4 ⟨r5, rfl, K1⟩ -
  replace K := K r5 h4 K1
  show Gm l x mX8_fits 13 11 [(0, .ref a0), (1, .int x1)] [.int r5] h4 rc rs n0 Q X
  refine g_if_ne (tgt := 20) dX8_fits_11 (by decide) (fun c6 => ?_) (fun c6 => ?_)
  · replace K := K.1 c6
    refine g_aload_n dX8_fits_20 rfl 0 rfl ?_
    obtain ⟨e9, K⟩ := K
    obtain ⟨q7, C8, K⟩ := K
    refine g_callV (M' := mX8_tellFits) (b := a0) (As := []) (rest := []) (rc' := rc) (rs' := rs) dX8_fits_21 bw_1719 bw_1721 bs_102 bw_9 bw_1722 ⟨by decide +kernel, by decide +kernel, show (parseMethodDescriptor mX8_tellFits.1.desc).map (fun d => d.parameters.length) = some 0 by decide +kernel⟩ (by decide) (by decide) (Nat.le_of_ble_eq_true rfl) fc_8 (by decide) rfl e9 C8 (Nat.le_of_eq (Nat.add_zero _)) (Nat.le_of_eq (Nat.add_zero _)) (fun _ _ h => h) ?_
    rintro _ h10 ⟨rfl, K1⟩ -
    replace K := K h10 K1
    show Gm l x mX8_fits 13 24 [(0, .ref a0), (1, .int x1)] [] h10 rc rs n0 Q X
    refine g_iload_n dX8_fits_24 rfl 1 rfl ?_
    refine g_if_ne (tgt := 35) dX8_fits_25 (by decide) (fun c11 => ?_) (fun c11 => ?_)
    · replace K := K.1 c11
      refine g_aload_n dX8_fits_35 rfl 0 rfl ?_
      obtain ⟨e12, K⟩ := K
      refine g_get (c := 8) (k := 30) (v := .int (hI h10 a0 30)) dX8_fits_36 fc_8 (by decide) (by decide) bw_1228 rfl e12 ?_
      exact g_iret dX8_fits_39 rfl K
    · replace K := K.2 c11
      refine g_aload_n dX8_fits_28 rfl 0 rfl ?_
      obtain ⟨e13, K⟩ := K
      refine g_get (c := 8) (k := 29) (v := .int (hI h10 a0 29)) dX8_fits_29 fc_8 (by decide) (by decide) bw_1227 rfl e13 ?_
      refine g_goto (tgt := 39) dX8_fits_32 (by decide) ?_
      exact g_iret dX8_fits_39 rfl K
  · replace K := K.2 c6
    refine g_aload_n dX8_fits_14 rfl 0 rfl ?_
    refine g_iconst (v := 1) dX8_fits_15 (by decide) ?_
    obtain ⟨e16, K⟩ := K
    obtain ⟨q14, C15, K⟩ := K
    refine g_callV (M' := mX8_fail) (b := a0) (As := [.int 1]) (rest := []) (rc' := rc) (rs' := rs) dX8_fits_16 bw_1337 bw_1339 bs_39 bw_9 bw_1340 ⟨by decide +kernel, by decide +kernel, show (parseMethodDescriptor mX8_fail.1.desc).map (fun d => d.parameters.length) = some 1 by decide +kernel⟩ (by decide) (by decide) (Nat.le_of_ble_eq_true rfl) fc_8 (by decide) rfl e16 C15 (Nat.le_of_eq (Nat.add_zero _)) (Nat.le_of_eq (Nat.add_zero _)) (fun _ _ h => h) ?_
    rintro _ h17 ⟨r18, rfl, K1⟩ -
    replace K := K r18 h17 K1
    show Gm l x mX8_fits 13 19 [(0, .ref a0), (1, .int x1)] [.int r18] h17 rc rs n0 Q X
    exact g_iret dX8_fits_19 rfl K
theorem dX8_look_0 : decode cX8_look 0 = .ok (.aload_n 0, 1) := by decide +kernel
theorem dX8_look_1 : decode cX8_look 1 = .ok (.iconst 0, 1) := by decide +kernel
theorem dX8_look_2 : decode cX8_look 2 = .ok (.putfield 104, 3) := by decide +kernel
theorem dX8_look_5 : decode cX8_look 5 = .ok (.iload_n 1, 1) := by decide +kernel
theorem dX8_look_6 : decode cX8_look 6 = .ok (.iconst 0, 1) := by decide +kernel
theorem dX8_look_7 : decode cX8_look 7 = .ok (.iconst 1, 1) := by decide +kernel
theorem dX8_look_8 : decode cX8_look 8 = .ok (.invokestatic 390, 3) := by decide +kernel
theorem dX8_look_11 : decode cX8_look 11 = .ok (.ifCond .ne 9, 3) := by decide +kernel
theorem dX8_look_14 : decode cX8_look 14 = .ok (.aload_n 0, 1) := by decide +kernel
theorem dX8_look_15 : decode cX8_look 15 = .ok (.iconst 1, 1) := by decide +kernel
theorem dX8_look_16 : decode cX8_look 16 = .ok (.invokevirtual 198, 3) := by decide +kernel
theorem dX8_look_19 : decode cX8_look 19 = .ok (.ireturn, 1) := by decide +kernel
theorem dX8_look_20 : decode cX8_look 20 = .ok (.aload_n 0, 1) := by decide +kernel
theorem dX8_look_21 : decode cX8_look 21 = .ok (.invokevirtual 429, 3) := by decide +kernel
theorem dX8_look_24 : decode cX8_look 24 = .ok (.iconst (-1), 1) := by decide +kernel
theorem dX8_look_25 : decode cX8_look 25 = .ok (.istore_n 2, 1) := by decide +kernel
theorem dX8_look_26 : decode cX8_look 26 = .ok (.iconst 0, 1) := by decide +kernel
theorem dX8_look_27 : decode cX8_look 27 = .ok (.istore_n 3, 1) := by decide +kernel
theorem dX8_look_28 : decode cX8_look 28 = .ok (.iconst 0, 1) := by decide +kernel
theorem dX8_look_29 : decode cX8_look 29 = .ok (.istore 4, 2) := by decide +kernel
theorem dX8_look_31 : decode cX8_look 31 = .ok (.iload 4, 2) := by decide +kernel
theorem dX8_look_33 : decode cX8_look 33 = .ok (.aload_n 0, 1) := by decide +kernel
theorem dX8_look_34 : decode cX8_look 34 = .ok (.getfield 36, 3) := by decide +kernel
theorem dX8_look_37 : decode cX8_look 37 = .ok (.iconst 2, 1) := by decide +kernel
theorem dX8_look_38 : decode cX8_look 38 = .ok (.iaload, 1) := by decide +kernel
theorem dX8_look_39 : decode cX8_look 39 = .ok (.if_icmp .ge 32, 3) := by decide +kernel
theorem dX8_look_42 : decode cX8_look 42 = .ok (.aload_n 0, 1) := by decide +kernel
theorem dX8_look_43 : decode cX8_look 43 = .ok (.iload 4, 2) := by decide +kernel
theorem dX8_look_45 : decode cX8_look 45 = .ok (.invokevirtual 432, 3) := by decide +kernel
theorem dX8_look_48 : decode cX8_look 48 = .ok (.istore 5, 2) := by decide +kernel
theorem dX8_look_50 : decode cX8_look 50 = .ok (.iload 5, 2) := by decide +kernel
theorem dX8_look_52 : decode cX8_look 52 = .ok (.iload_n 3, 1) := by decide +kernel
theorem dX8_look_53 : decode cX8_look 53 = .ok (.if_icmp .gt 6, 3) := by decide +kernel
theorem dX8_look_56 : decode cX8_look 56 = .ok (.goto 9, 3) := by decide +kernel
theorem dX8_look_59 : decode cX8_look 59 = .ok (.iload 4, 2) := by decide +kernel
theorem dX8_look_61 : decode cX8_look 61 = .ok (.istore_n 2, 1) := by decide +kernel
theorem dX8_look_62 : decode cX8_look 62 = .ok (.iload 5, 2) := by decide +kernel
theorem dX8_look_64 : decode cX8_look 64 = .ok (.istore_n 3, 1) := by decide +kernel
theorem dX8_look_65 : decode cX8_look 65 = .ok (.iinc 4 1, 3) := by decide +kernel
theorem dX8_look_68 : decode cX8_look 68 = .ok (.goto (-37), 3) := by decide +kernel
theorem dX8_look_71 : decode cX8_look 71 = .ok (.iload_n 1, 1) := by decide +kernel
theorem dX8_look_72 : decode cX8_look 72 = .ok (.ifCond .ne 7, 3) := by decide +kernel
theorem dX8_look_75 : decode cX8_look 75 = .ok (.iload_n 2, 1) := by decide +kernel
theorem dX8_look_76 : decode cX8_look 76 = .ok (.goto 4, 3) := by decide +kernel
theorem dX8_look_79 : decode cX8_look 79 = .ok (.iload_n 3, 1) := by decide +kernel
theorem dX8_look_80 : decode cX8_look 80 = .ok (.ireturn, 1) := by decide +kernel
set_option maxRecDepth 20000 in
set_option maxHeartbeats 4000000 in
theorem vX8_look_0 {l : Launch} {x : CX} {a0 : Nat} {x1 : Int32} {h : PH} {rc rs n0 : Nat} {Q : Option Value → PH → Prop} {X : String → PH → Prop}
    (K : ((hK h a0).1 = 8) ∧ ∃ (q2 : Int32 → PH → Prop), CI l x mX8_isIn 0 0 0 [.int x1, .int 0, .int 1] (sI h a0 1 0) q2 ∧ ∀ (r5 : Int32) (h4 : PH), q2 r5 h4 → ((¬ r5 = 0 → ((hK h4 a0).1 = 8) ∧ ∃ (q7 : PH → Prop), CV l x mX8_tellFits 12 0 0 [.ref a0] h4 q7 ∧ ∀ (h10 : PH), q7 h10 → Gm l x mX8_look 13 31 [(0, .ref a0), (1, .int x1), (2, .int (-1)), (3, .int 0), (4, .int 0)] [] h10 rc rs n0 Q X) ∧ (r5 = 0 → ((hK h4 a0).1 = 8) ∧ ∃ (q11 : Int32 → PH → Prop), CI l x mX8_fail 0 0 0 [.ref a0, .int 1] h4 q11 ∧ ∀ (r15 : Int32) (h14 : PH), q11 r15 h14 → Q (some (.int r15)) h14))) :
    Gm l x mX8_look 13 0 [(0, .ref a0), (1, .int x1)] [] h rc rs n0 Q X := by
  refine g_aload_n dX8_look_0 rfl 0 rfl ?_
  refine g_iconst (v := 0) dX8_look_1 (by decide) ?_
  obtain ⟨e1, K⟩ := K
  refine g_puti (c := 8) (k := 1) dX8_look_2 fc_8 (by decide) (by decide) bw_1199 (Or.inl rfl) rfl e1 ?_
  refine g_iload_n dX8_look_5 rfl 1 rfl ?_
  refine g_iconst (v := 0) dX8_look_6 (by decide) ?_
  refine g_iconst (v := 1) dX8_look_7 (by decide) ?_
  obtain ⟨q2, C3, K⟩ := K
  refine g_callS (M' := mX8_isIn) (As := [.int x1, .int 0, .int 1]) (rest := []) (rc' := rc) (rs' := rs) dX8_look_8 bw_1612 bw_1613 bw_9 bw_1614 ⟨by decide +kernel, by decide +kernel, show (parseMethodDescriptor mX8_isIn.1.desc).map (fun d => d.parameters.length) = some 3 by decide +kernel⟩ (by decide) (by decide) (Nat.le_of_ble_eq_true rfl) C3 (Nat.le_of_eq (Nat.add_zero _)) (Nat.le_of_eq (Nat.add_zero _)) (fun _ _ h => h) ?_
  rintro _ h4 ⟨r5, rfl, K1⟩ -
  replace K := K r5 h4 K1
  show Gm l x mX8_look 13 11 [(0, .ref a0), (1, .int x1)] [.int r5] h4 rc rs n0 Q X
  refine g_if_ne (tgt := 20) dX8_look_11 (by decide) (fun c6 => ?_) (fun c6 => ?_)
  · replace K := K.1 c6
    refine g_aload_n dX8_look_20 rfl 0 rfl ?_
    obtain ⟨e9, K⟩ := K
    obtain ⟨q7, C8, K⟩ := K
    refine g_callV (M' := mX8_tellFits) (b := a0) (As := []) (rest := []) (rc' := rc) (rs' := rs) dX8_look_21 bw_1719 bw_1721 bs_102 bw_9 bw_1722 ⟨by decide +kernel, by decide +kernel, show (parseMethodDescriptor mX8_tellFits.1.desc).map (fun d => d.parameters.length) = some 0 by decide +kernel⟩ (by decide) (by decide) (Nat.le_of_ble_eq_true rfl) fc_8 (by decide) rfl e9 C8 (Nat.le_of_eq (Nat.add_zero _)) (Nat.le_of_eq (Nat.add_zero _)) (fun _ _ h => h) ?_
    rintro _ h10 ⟨rfl, K1⟩ -
    replace K := K h10 K1
    show Gm l x mX8_look 13 24 [(0, .ref a0), (1, .int x1)] [] h10 rc rs n0 Q X
    refine g_iconst (v := (-1)) dX8_look_24 (by decide) ?_
    refine g_istore_n (lv' := [(0, .ref a0), (1, .int x1), (2, .int (-1))]) dX8_look_25 rfl (by decide) rfl ?_
    refine g_iconst (v := 0) dX8_look_26 (by decide) ?_
    refine g_istore_n (lv' := [(0, .ref a0), (1, .int x1), (2, .int (-1)), (3, .int 0)]) dX8_look_27 rfl (by decide) rfl ?_
    refine g_iconst (v := 0) dX8_look_28 (by decide) ?_
    refine g_istore (lv' := [(0, .ref a0), (1, .int x1), (2, .int (-1)), (3, .int 0), (4, .int 0)]) dX8_look_29 (by decide) rfl ?_
    exact K
  · replace K := K.2 c6
    refine g_aload_n dX8_look_14 rfl 0 rfl ?_
    refine g_iconst (v := 1) dX8_look_15 (by decide) ?_
    obtain ⟨e13, K⟩ := K
    obtain ⟨q11, C12, K⟩ := K
    refine g_callV (M' := mX8_fail) (b := a0) (As := [.int 1]) (rest := []) (rc' := rc) (rs' := rs) dX8_look_16 bw_1337 bw_1339 bs_39 bw_9 bw_1340 ⟨by decide +kernel, by decide +kernel, show (parseMethodDescriptor mX8_fail.1.desc).map (fun d => d.parameters.length) = some 1 by decide +kernel⟩ (by decide) (by decide) (Nat.le_of_ble_eq_true rfl) fc_8 (by decide) rfl e13 C12 (Nat.le_of_eq (Nat.add_zero _)) (Nat.le_of_eq (Nat.add_zero _)) (fun _ _ h => h) ?_
    rintro _ h14 ⟨r15, rfl, K1⟩ -
    replace K := K r15 h14 K1
    show Gm l x mX8_look 13 19 [(0, .ref a0), (1, .int x1)] [.int r15] h14 rc rs n0 Q X
    exact g_iret dX8_look_19 rfl K
set_option maxRecDepth 20000 in
set_option maxHeartbeats 4000000 in
theorem vX8_look_31 {l : Launch} {x : CX} {a0 : Nat} {x1 : Int32} {x2 : Int32} {x3 : Int32} {x4 : Int32} {h : PH} {rc rs n0 : Nat} {Q : Option Value → PH → Prop} {X : String → PH → Prop}
    (K : ((hK h a0).1 = 8) ∧ ∃ b2, (hR h a0 4 = some b2) ∧ ((hK h b2).1 = 100) ∧ (vp_in 2 (hK h b2).2) ∧ (((hI h b2 (Int32.toNatClampNeg 2)) ≤ x4 → Q (some (.int (if x1 = 0 then x2 else x3 : Int32))) h) ∧ (¬ (hI h b2 (Int32.toNatClampNeg 2)) ≤ x4 → ∃ (q8 : Int32 → PH → Prop), CI l x mX8_unlike 0 0 0 [.ref a0, .int x4] h q8 ∧ ∀ (r11 : Int32) (h10 : PH), q8 r11 h10 → Gm l x mX8_look 13 31 [(0, .ref a0), (1, .int x1), (2, .int (if x3 < r11 then x4 else x2 : Int32)), (3, .int (if x3 < r11 then r11 else x3 : Int32)), (4, .int (x4 + 1))] [] h10 rc rs n0 Q X))) :
    Gm l x mX8_look 13 31 [(0, .ref a0), (1, .int x1), (2, .int x2), (3, .int x3), (4, .int x4)] [] h rc rs n0 Q X := by
  refine g_iload dX8_look_31 4 rfl ?_
  refine g_aload_n dX8_look_33 rfl 0 rfl ?_
  obtain ⟨e1, b2, e3, K⟩ := K
  refine g_get (c := 8) (k := 4) (v := .ref b2) dX8_look_34 fc_8 (by decide) (by decide) bw_1202 (congrArg pr e3) e1 ?_
  refine g_iconst (v := 2) dX8_look_37 (by decide) ?_
  obtain ⟨e4, e5, K⟩ := K
  refine g_iald dX8_look_38 e4 e5 ?_
  refine g_icmp_ge (tgt := 71) dX8_look_39 (by decide) (fun c6 => ?_) (fun c6 => ?_)
  · replace K := K.1 c6
    refine g_iload_n dX8_look_71 rfl 1 rfl ?_
    have KJ : Gm l x mX8_look 13 80 [(0, .ref a0), (1, .int x1), (2, .int x2), (3, .int x3), (4, .int x4)] [.int (if x1 = 0 then x2 else x3 : Int32)] h rc rs n0 Q X := by
      exact g_iret dX8_look_80 rfl K
    refine g_if_ne (tgt := 79) dX8_look_72 (by decide) (fun c7 => ?_) (fun c7 => ?_)
    · refine g_iload_n dX8_look_79 rfl 3 rfl ?_
      first | (simp only [if_neg c7] at KJ; exact KJ) | (simp only [if_neg c7, ite_true, ite_false, eq_self] at KJ; exact KJ) | (simp only [if_neg c7] at KJ ⊢; exact KJ) | exact KJ
    · refine g_iload_n dX8_look_75 rfl 2 rfl ?_
      refine g_goto (tgt := 80) dX8_look_76 (by decide) ?_
      first | (simp only [if_pos c7] at KJ; exact KJ) | (simp only [if_pos c7, ite_true, ite_false, eq_self] at KJ; exact KJ) | (simp only [if_pos c7] at KJ ⊢; exact KJ) | exact KJ
  · replace K := K.2 c6
    refine g_aload_n dX8_look_42 rfl 0 rfl ?_
    refine g_iload dX8_look_43 4 rfl ?_
    obtain ⟨q8, C9, K⟩ := K
    refine g_callV (M' := mX8_unlike) (b := a0) (As := [.int x4]) (rest := []) (rc' := rc) (rs' := rs) dX8_look_45 bw_1727 bw_1729 bs_103 bw_9 bw_1730 ⟨by decide +kernel, by decide +kernel, show (parseMethodDescriptor mX8_unlike.1.desc).map (fun d => d.parameters.length) = some 1 by decide +kernel⟩ (by decide) (by decide) (Nat.le_of_ble_eq_true rfl) fc_8 (by decide) rfl e1 C9 (Nat.le_of_eq (Nat.add_zero _)) (Nat.le_of_eq (Nat.add_zero _)) (fun _ _ h => h) ?_
    rintro _ h10 ⟨r11, rfl, K1⟩ -
    replace K := K r11 h10 K1
    show Gm l x mX8_look 13 48 [(0, .ref a0), (1, .int x1), (2, .int x2), (3, .int x3), (4, .int x4)] [.int r11] h10 rc rs n0 Q X
    refine g_istore (lv' := [(0, .ref a0), (1, .int x1), (2, .int x2), (3, .int x3), (4, .int x4), (5, .int r11)]) dX8_look_48 (by decide) rfl ?_
    refine g_iload dX8_look_50 5 rfl ?_
    refine g_iload_n dX8_look_52 rfl 3 rfl ?_
    have KJ : Gm l x mX8_look 13 65 [(0, .ref a0), (1, .int x1), (2, .int (if x3 < r11 then x4 else x2 : Int32)), (3, .int (if x3 < r11 then r11 else x3 : Int32)), (4, .int x4), (5, .int r11)] [] h10 rc rs n0 Q X := by
      refine g_iinc (v := (x4 + 1)) (lv' := [(0, .ref a0), (1, .int x1), (2, .int (if x3 < r11 then x4 else x2 : Int32)), (3, .int (if x3 < r11 then r11 else x3 : Int32)), (4, .int (x4 + 1)), (5, .int r11)]) dX8_look_65 4 rfl (by rfl) (by decide) rfl ?_
      refine g_goto (tgt := 31) dX8_look_68 (by decide) ?_
      exact Gm.sub [0, 1, 2, 3, 4] rfl K
    refine g_icmp_gt (tgt := 59) dX8_look_53 (by decide) (fun c12 => ?_) (fun c12 => ?_)
    · refine g_iload dX8_look_59 4 rfl ?_
      refine g_istore_n (lv' := [(0, .ref a0), (1, .int x1), (2, .int x4), (3, .int x3), (4, .int x4), (5, .int r11)]) dX8_look_61 rfl (by decide) rfl ?_
      refine g_iload dX8_look_62 5 rfl ?_
      refine g_istore_n (lv' := [(0, .ref a0), (1, .int x1), (2, .int x4), (3, .int r11), (4, .int x4), (5, .int r11)]) dX8_look_64 rfl (by decide) rfl ?_
      first | (simp only [if_pos c12] at KJ; exact KJ) | (simp only [if_pos c12, ite_true, ite_false, eq_self] at KJ; exact KJ) | (simp only [if_pos c12] at KJ ⊢; exact KJ) | exact KJ
    · refine g_goto (tgt := 65) dX8_look_56 (by decide) ?_
      first | (simp only [if_neg c12] at KJ; exact KJ) | (simp only [if_neg c12, ite_true, ite_false, eq_self] at KJ; exact KJ) | (simp only [if_neg c12] at KJ ⊢; exact KJ) | exact KJ
theorem dX8_count_0 : decode cX8_count 0 = .ok (.aload_n 0, 1) := by decide +kernel
theorem dX8_count_1 : decode cX8_count 1 = .ok (.iconst 0, 1) := by decide +kernel
theorem dX8_count_2 : decode cX8_count 2 = .ok (.putfield 104, 3) := by decide +kernel
theorem dX8_count_5 : decode cX8_count 5 = .ok (.iload_n 1, 1) := by decide +kernel
theorem dX8_count_6 : decode cX8_count 6 = .ok (.tableswitch 295 0 29 #[134, 134, 141, 149, 155, 162, 169, 176, 183, 190, 190, 190, 199, 204, 211, 216, 229, 234, 239, 244, 249, 254, 259, 264, 264, 264, 274, 279, 284, 290], 134) := by decide +kernel
theorem dX8_count_140 : decode cX8_count 140 = .ok (.aload_n 0, 1) := by decide +kernel
theorem dX8_count_141 : decode cX8_count 141 = .ok (.getfield 36, 3) := by decide +kernel
theorem dX8_count_144 : decode cX8_count 144 = .ok (.iload_n 1, 1) := by decide +kernel
theorem dX8_count_145 : decode cX8_count 145 = .ok (.iaload, 1) := by decide +kernel
theorem dX8_count_146 : decode cX8_count 146 = .ok (.ireturn, 1) := by decide +kernel
theorem dX8_count_147 : decode cX8_count 147 = .ok (.aload_n 0, 1) := by decide +kernel
theorem dX8_count_148 : decode cX8_count 148 = .ok (.getfield 29, 3) := by decide +kernel
theorem dX8_count_151 : decode cX8_count 151 = .ok (.bipush 6, 2) := by decide +kernel
theorem dX8_count_153 : decode cX8_count 153 = .ok (.iaload, 1) := by decide +kernel
theorem dX8_count_154 : decode cX8_count 154 = .ok (.ireturn, 1) := by decide +kernel
theorem dX8_count_155 : decode cX8_count 155 = .ok (.aload_n 0, 1) := by decide +kernel
theorem dX8_count_156 : decode cX8_count 156 = .ok (.iconst 3, 1) := by decide +kernel
theorem dX8_count_157 : decode cX8_count 157 = .ok (.invokevirtual 218, 3) := by decide +kernel
theorem dX8_count_160 : decode cX8_count 160 = .ok (.ireturn, 1) := by decide +kernel
theorem dX8_count_161 : decode cX8_count 161 = .ok (.aload_n 0, 1) := by decide +kernel
theorem dX8_count_162 : decode cX8_count 162 = .ok (.getfield 29, 3) := by decide +kernel
theorem dX8_count_165 : decode cX8_count 165 = .ok (.iconst 3, 1) := by decide +kernel
theorem dX8_count_166 : decode cX8_count 166 = .ok (.iaload, 1) := by decide +kernel
theorem dX8_count_167 : decode cX8_count 167 = .ok (.ireturn, 1) := by decide +kernel
theorem dX8_count_168 : decode cX8_count 168 = .ok (.aload_n 0, 1) := by decide +kernel
theorem dX8_count_169 : decode cX8_count 169 = .ok (.getfield 29, 3) := by decide +kernel
theorem dX8_count_172 : decode cX8_count 172 = .ok (.iconst 2, 1) := by decide +kernel
theorem dX8_count_173 : decode cX8_count 173 = .ok (.iaload, 1) := by decide +kernel
theorem dX8_count_174 : decode cX8_count 174 = .ok (.ireturn, 1) := by decide +kernel
theorem dX8_count_175 : decode cX8_count 175 = .ok (.aload_n 0, 1) := by decide +kernel
theorem dX8_count_176 : decode cX8_count 176 = .ok (.bipush 6, 2) := by decide +kernel
theorem dX8_count_178 : decode cX8_count 178 = .ok (.invokevirtual 218, 3) := by decide +kernel
theorem dX8_count_181 : decode cX8_count 181 = .ok (.ireturn, 1) := by decide +kernel
theorem dX8_count_182 : decode cX8_count 182 = .ok (.aload_n 0, 1) := by decide +kernel
theorem dX8_count_183 : decode cX8_count 183 = .ok (.getfield 29, 3) := by decide +kernel
theorem dX8_count_186 : decode cX8_count 186 = .ok (.iconst 0, 1) := by decide +kernel
theorem dX8_count_187 : decode cX8_count 187 = .ok (.iaload, 1) := by decide +kernel
theorem dX8_count_188 : decode cX8_count 188 = .ok (.ireturn, 1) := by decide +kernel
theorem dX8_count_189 : decode cX8_count 189 = .ok (.aload_n 0, 1) := by decide +kernel
theorem dX8_count_190 : decode cX8_count 190 = .ok (.getfield 29, 3) := by decide +kernel
theorem dX8_count_193 : decode cX8_count 193 = .ok (.iconst 1, 1) := by decide +kernel
theorem dX8_count_194 : decode cX8_count 194 = .ok (.iaload, 1) := by decide +kernel
theorem dX8_count_195 : decode cX8_count 195 = .ok (.ireturn, 1) := by decide +kernel
theorem dX8_count_196 : decode cX8_count 196 = .ok (.aload_n 0, 1) := by decide +kernel
theorem dX8_count_197 : decode cX8_count 197 = .ok (.iload_n 1, 1) := by decide +kernel
theorem dX8_count_198 : decode cX8_count 198 = .ok (.bipush 8, 2) := by decide +kernel
theorem dX8_count_200 : decode cX8_count 200 = .ok (.isub, 1) := by decide +kernel
theorem dX8_count_201 : decode cX8_count 201 = .ok (.invokevirtual 344, 3) := by decide +kernel
theorem dX8_count_204 : decode cX8_count 204 = .ok (.ireturn, 1) := by decide +kernel
theorem dX8_count_205 : decode cX8_count 205 = .ok (.aload_n 0, 1) := by decide +kernel
theorem dX8_count_206 : decode cX8_count 206 = .ok (.invokevirtual 366, 3) := by decide +kernel
theorem dX8_count_209 : decode cX8_count 209 = .ok (.ireturn, 1) := by decide +kernel
theorem dX8_count_210 : decode cX8_count 210 = .ok (.aload_n 0, 1) := by decide +kernel
theorem dX8_count_211 : decode cX8_count 211 = .ok (.getfield 29, 3) := by decide +kernel
theorem dX8_count_214 : decode cX8_count 214 = .ok (.iconst 5, 1) := by decide +kernel
theorem dX8_count_215 : decode cX8_count 215 = .ok (.iaload, 1) := by decide +kernel
theorem dX8_count_216 : decode cX8_count 216 = .ok (.ireturn, 1) := by decide +kernel
theorem dX8_count_217 : decode cX8_count 217 = .ok (.aload_n 0, 1) := by decide +kernel
theorem dX8_count_218 : decode cX8_count 218 = .ok (.invokevirtual 353, 3) := by decide +kernel
theorem dX8_count_221 : decode cX8_count 221 = .ok (.ireturn, 1) := by decide +kernel
theorem dX8_count_222 : decode cX8_count 222 = .ok (.aload_n 0, 1) := by decide +kernel
theorem dX8_count_223 : decode cX8_count 223 = .ok (.invokevirtual 287, 3) := by decide +kernel
theorem dX8_count_226 : decode cX8_count 226 = .ok (.ifCond .eq 7, 3) := by decide +kernel
theorem dX8_count_229 : decode cX8_count 229 = .ok (.iconst 1, 1) := by decide +kernel
theorem dX8_count_230 : decode cX8_count 230 = .ok (.goto 4, 3) := by decide +kernel
theorem dX8_count_233 : decode cX8_count 233 = .ok (.iconst 0, 1) := by decide +kernel
theorem dX8_count_234 : decode cX8_count 234 = .ok (.ireturn, 1) := by decide +kernel
theorem dX8_count_235 : decode cX8_count 235 = .ok (.aload_n 0, 1) := by decide +kernel
theorem dX8_count_236 : decode cX8_count 236 = .ok (.invokevirtual 369, 3) := by decide +kernel
theorem dX8_count_239 : decode cX8_count 239 = .ok (.ireturn, 1) := by decide +kernel
theorem dX8_count_240 : decode cX8_count 240 = .ok (.aload_n 0, 1) := by decide +kernel
theorem dX8_count_241 : decode cX8_count 241 = .ok (.invokevirtual 372, 3) := by decide +kernel
theorem dX8_count_244 : decode cX8_count 244 = .ok (.ireturn, 1) := by decide +kernel
theorem dX8_count_245 : decode cX8_count 245 = .ok (.aload_n 0, 1) := by decide +kernel
theorem dX8_count_246 : decode cX8_count 246 = .ok (.invokevirtual 375, 3) := by decide +kernel
theorem dX8_count_249 : decode cX8_count 249 = .ok (.ireturn, 1) := by decide +kernel
theorem dX8_count_250 : decode cX8_count 250 = .ok (.aload_n 0, 1) := by decide +kernel
theorem dX8_count_251 : decode cX8_count 251 = .ok (.invokevirtual 378, 3) := by decide +kernel
theorem dX8_count_254 : decode cX8_count 254 = .ok (.ireturn, 1) := by decide +kernel
theorem dX8_count_255 : decode cX8_count 255 = .ok (.aload_n 0, 1) := by decide +kernel
theorem dX8_count_256 : decode cX8_count 256 = .ok (.getfield 208, 3) := by decide +kernel
theorem dX8_count_259 : decode cX8_count 259 = .ok (.ireturn, 1) := by decide +kernel
theorem dX8_count_260 : decode cX8_count 260 = .ok (.aload_n 0, 1) := by decide +kernel
theorem dX8_count_261 : decode cX8_count 261 = .ok (.getfield 211, 3) := by decide +kernel
theorem dX8_count_264 : decode cX8_count 264 = .ok (.ireturn, 1) := by decide +kernel
theorem dX8_count_265 : decode cX8_count 265 = .ok (.aload_n 0, 1) := by decide +kernel
theorem dX8_count_266 : decode cX8_count 266 = .ok (.getfield 107, 3) := by decide +kernel
theorem dX8_count_269 : decode cX8_count 269 = .ok (.ireturn, 1) := by decide +kernel
theorem dX8_count_270 : decode cX8_count 270 = .ok (.aload_n 0, 1) := by decide +kernel
theorem dX8_count_271 : decode cX8_count 271 = .ok (.getfield 33, 3) := by decide +kernel
theorem dX8_count_274 : decode cX8_count 274 = .ok (.iload_n 1, 1) := by decide +kernel
theorem dX8_count_275 : decode cX8_count 275 = .ok (.bipush 23, 2) := by decide +kernel
theorem dX8_count_277 : decode cX8_count 277 = .ok (.isub, 1) := by decide +kernel
theorem dX8_count_278 : decode cX8_count 278 = .ok (.iaload, 1) := by decide +kernel
theorem dX8_count_279 : decode cX8_count 279 = .ok (.ireturn, 1) := by decide +kernel
theorem dX8_count_280 : decode cX8_count 280 = .ok (.aload_n 0, 1) := by decide +kernel
theorem dX8_count_281 : decode cX8_count 281 = .ok (.invokevirtual 381, 3) := by decide +kernel
theorem dX8_count_284 : decode cX8_count 284 = .ok (.ireturn, 1) := by decide +kernel
theorem dX8_count_285 : decode cX8_count 285 = .ok (.aload_n 0, 1) := by decide +kernel
theorem dX8_count_286 : decode cX8_count 286 = .ok (.invokevirtual 384, 3) := by decide +kernel
theorem dX8_count_289 : decode cX8_count 289 = .ok (.ireturn, 1) := by decide +kernel
theorem dX8_count_290 : decode cX8_count 290 = .ok (.aload_n 0, 1) := by decide +kernel
theorem dX8_count_291 : decode cX8_count 291 = .ok (.invokevirtual 362, 3) := by decide +kernel
theorem dX8_count_294 : decode cX8_count 294 = .ok (.f2i, 1) := by decide +kernel
theorem dX8_count_295 : decode cX8_count 295 = .ok (.ireturn, 1) := by decide +kernel
theorem dX8_count_296 : decode cX8_count 296 = .ok (.aload_n 0, 1) := by decide +kernel
theorem dX8_count_297 : decode cX8_count 297 = .ok (.invokevirtual 387, 3) := by decide +kernel
theorem dX8_count_300 : decode cX8_count 300 = .ok (.ireturn, 1) := by decide +kernel
theorem dX8_count_301 : decode cX8_count 301 = .ok (.aload_n 0, 1) := by decide +kernel
theorem dX8_count_302 : decode cX8_count 302 = .ok (.iconst 1, 1) := by decide +kernel
theorem dX8_count_303 : decode cX8_count 303 = .ok (.invokevirtual 198, 3) := by decide +kernel
theorem dX8_count_306 : decode cX8_count 306 = .ok (.ireturn, 1) := by decide +kernel
set_option maxRecDepth 20000 in
set_option maxHeartbeats 4000000 in
theorem vX8_count_0 {l : Launch} {x : CX} {a0 : Nat} {x1 : Int32} {h : PH} {rc rs n0 : Nat} {Q : Option Value → PH → Prop} {X : String → PH → Prop}
    (K : ((hK h a0).1 = 8) ∧ ((x1.toInt = 0 → ∃ b3, (hR h a0 4 = some b3) ∧ ((hK h b3).1 = 100) ∧ (vp_in x1 (hK h b3).2) ∧ Q (some (.int (hI (sI h a0 1 0) b3 x1.toNatClampNeg))) (sI h a0 1 0)) ∧ (x1.toInt = 1 → ∃ b7, (hR h a0 4 = some b7) ∧ ((hK h b7).1 = 100) ∧ (vp_in x1 (hK h b7).2) ∧ Q (some (.int (hI (sI h a0 1 0) b7 x1.toNatClampNeg))) (sI h a0 1 0)) ∧ (x1.toInt = 2 → ∃ b11, (hR h a0 2 = some b11) ∧ ((hK h b11).1 = 100) ∧ (vp_in 6 (hK h b11).2) ∧ Q (some (.int (hI (sI h a0 1 0) b11 (Int32.toNatClampNeg 6)))) (sI h a0 1 0)) ∧ (x1.toInt = 3 → ∃ (q15 : Int32 → PH → Prop), CI l x mX8_tells 0 0 0 [.ref a0, .int 3] (sI h a0 1 0) q15 ∧ ∀ (r18 : Int32) (h17 : PH), q15 r18 h17 → Q (some (.int r18)) h17) ∧ (x1.toInt = 4 → ∃ b19, (hR h a0 2 = some b19) ∧ ((hK h b19).1 = 100) ∧ (vp_in 3 (hK h b19).2) ∧ Q (some (.int (hI (sI h a0 1 0) b19 (Int32.toNatClampNeg 3)))) (sI h a0 1 0)) ∧ (x1.toInt = 5 → ∃ b23, (hR h a0 2 = some b23) ∧ ((hK h b23).1 = 100) ∧ (vp_in 2 (hK h b23).2) ∧ Q (some (.int (hI (sI h a0 1 0) b23 (Int32.toNatClampNeg 2)))) (sI h a0 1 0)) ∧ (x1.toInt = 6 → ∃ (q27 : Int32 → PH → Prop), CI l x mX8_tells 0 0 0 [.ref a0, .int 6] (sI h a0 1 0) q27 ∧ ∀ (r30 : Int32) (h29 : PH), q27 r30 h29 → Q (some (.int r30)) h29) ∧ (x1.toInt = 7 → ∃ b31, (hR h a0 2 = some b31) ∧ ((hK h b31).1 = 100) ∧ (vp_in 0 (hK h b31).2) ∧ Q (some (.int (hI (sI h a0 1 0) b31 (Int32.toNatClampNeg 0)))) (sI h a0 1 0)) ∧ (x1.toInt = 8 → ∃ b35, (hR h a0 2 = some b35) ∧ ((hK h b35).1 = 100) ∧ (vp_in 1 (hK h b35).2) ∧ Q (some (.int (hI (sI h a0 1 0) b35 (Int32.toNatClampNeg 1)))) (sI h a0 1 0)) ∧ (x1.toInt = 9 → ∃ (q39 : Int32 → PH → Prop), CI l x mX8_many 1 0 0 [.ref a0, .int (x1 - 8)] (sI h a0 1 0) q39 ∧ ∀ (r42 : Int32) (h41 : PH), q39 r42 h41 → Q (some (.int r42)) h41) ∧ (x1.toInt = 10 → ∃ (q43 : Int32 → PH → Prop), CI l x mX8_many 1 0 0 [.ref a0, .int (x1 - 8)] (sI h a0 1 0) q43 ∧ ∀ (r46 : Int32) (h45 : PH), q43 r46 h45 → Q (some (.int r46)) h45) ∧ (x1.toInt = 11 → ∃ (q47 : Int32 → PH → Prop), CI l x mX8_many 1 0 0 [.ref a0, .int (x1 - 8)] (sI h a0 1 0) q47 ∧ ∀ (r50 : Int32) (h49 : PH), q47 r50 h49 → Q (some (.int r50)) h49) ∧ (x1.toInt = 12 → ∃ (q51 : Int32 → PH → Prop), CI l x mX8_calls 3 0 0 [.ref a0] (sI h a0 1 0) q51 ∧ ∀ (r54 : Int32) (h53 : PH), q51 r54 h53 → Q (some (.int r54)) h53) ∧ (x1.toInt = 13 → ∃ b55, (hR h a0 2 = some b55) ∧ ((hK h b55).1 = 100) ∧ (vp_in 5 (hK h b55).2) ∧ Q (some (.int (hI (sI h a0 1 0) b55 (Int32.toNatClampNeg 5)))) (sI h a0 1 0)) ∧ (x1.toInt = 14 → ∃ (q59 : Int32 → PH → Prop), CI l x mX8_waited 1 0 0 [.ref a0] (sI h a0 1 0) q59 ∧ ∀ (r62 : Int32) (h61 : PH), q59 r62 h61 → Q (some (.int r62)) h61) ∧ (x1.toInt = 15 → ∃ (q63 : Int32 → PH → Prop), CI l x mX8_isPeak 1 0 0 [.ref a0] (sI h a0 1 0) q63 ∧ ∀ (r66 : Int32) (h65 : PH), q63 r66 h65 → Q (some (.int (if r66 = 0 then 0 else 1 : Int32))) h65) ∧ (x1.toInt = 16 → ∃ (q68 : Int32 → PH → Prop), CI l x mX8_worst 1 0 0 [.ref a0] (sI h a0 1 0) q68 ∧ ∀ (r71 : Int32) (h70 : PH), q68 r71 h70 → Q (some (.int r71)) h70) ∧ (x1.toInt = 17 → ∃ (q72 : Int32 → PH → Prop), CI l x mX8_best 13 0 0 [.ref a0] (sI h a0 1 0) q72 ∧ ∀ (r75 : Int32) (h74 : PH), q72 r75 h74 → Q (some (.int r75)) h74) ∧ (x1.toInt = 18 → ∃ (q76 : Int32 → PH → Prop), CI l x mX8_room 12 0 0 [.ref a0] (sI h a0 1 0) q76 ∧ ∀ (r79 : Int32) (h78 : PH), q76 r79 h78 → Q (some (.int r79)) h78) ∧ (x1.toInt = 19 → ∃ (q80 : Int32 → PH → Prop), CI l x mX8_missed 13 0 0 [.ref a0] (sI h a0 1 0) q80 ∧ ∀ (r83 : Int32) (h82 : PH), q80 r83 h82 → Q (some (.int r83)) h82) ∧ (x1.toInt = 20 → Q (some (.int (hI h a0 24))) (sI h a0 1 0)) ∧ (x1.toInt = 21 → Q (some (.int (hI h a0 26))) (sI h a0 1 0)) ∧ (x1.toInt = 22 → Q (some (.int (hI h a0 11))) (sI h a0 1 0)) ∧ (x1.toInt = 23 → ∃ b84, (hR h a0 3 = some b84) ∧ ((hK h b84).1 = 100) ∧ (vp_in (x1 - 23) (hK h b84).2) ∧ Q (some (.int (hI (sI h a0 1 0) b84 (x1 - 23).toNatClampNeg))) (sI h a0 1 0)) ∧ (x1.toInt = 24 → ∃ b88, (hR h a0 3 = some b88) ∧ ((hK h b88).1 = 100) ∧ (vp_in (x1 - 23) (hK h b88).2) ∧ Q (some (.int (hI (sI h a0 1 0) b88 (x1 - 23).toNatClampNeg))) (sI h a0 1 0)) ∧ (x1.toInt = 25 → ∃ b92, (hR h a0 3 = some b92) ∧ ((hK h b92).1 = 100) ∧ (vp_in (x1 - 23) (hK h b92).2) ∧ Q (some (.int (hI (sI h a0 1 0) b92 (x1 - 23).toNatClampNeg))) (sI h a0 1 0)) ∧ (x1.toInt = 26 → ∃ (q96 : Int32 → PH → Prop), CI l x mX8_overtaken 2 0 0 [.ref a0] (sI h a0 1 0) q96 ∧ ∀ (r99 : Int32) (h98 : PH), q96 r99 h98 → Q (some (.int r99)) h98) ∧ (x1.toInt = 27 → ∃ (q100 : Int32 → PH → Prop), CI l x mX8_thrift 12 0 0 [.ref a0] (sI h a0 1 0) q100 ∧ ∀ (r103 : Int32) (h102 : PH), q100 r103 h102 → Q (some (.int r103)) h102) ∧ (x1.toInt = 28 → ∃ (q104 : UInt32 → PH → Prop), CF l x mX8_work 1 0 0 [.ref a0] (sI h a0 1 0) q104 ∧ ∀ (r107 : UInt32) (h106 : PH), q104 r107 h106 → Q (some (.int (FP.f2i r107))) h106) ∧ (x1.toInt = 29 → ∃ (q108 : Int32 → PH → Prop), CI l x mX8_quiet 11 0 0 [.ref a0] (sI h a0 1 0) q108 ∧ ∀ (r111 : Int32) (h110 : PH), q108 r111 h110 → Q (some (.int r111)) h110) ∧ ((x1.toInt < 0 ∨ 29 < x1.toInt) → ∃ (q112 : Int32 → PH → Prop), CI l x mX8_fail 0 0 0 [.ref a0, .int 1] (sI h a0 1 0) q112 ∧ ∀ (r115 : Int32) (h114 : PH), q112 r115 h114 → Q (some (.int r115)) h114))) :
    Gm l x mX8_count 14 0 [(0, .ref a0), (1, .int x1)] [] h rc rs n0 Q X := by
  refine g_aload_n dX8_count_0 rfl 0 rfl ?_
  refine g_iconst (v := 0) dX8_count_1 (by decide) ?_
  obtain ⟨e1, K⟩ := K
  refine g_puti (c := 8) (k := 1) dX8_count_2 fc_8 (by decide) (by decide) bw_1199 (Or.inl rfl) rfl e1 ?_
  refine g_iload_n dX8_count_5 rfl 1 rfl ?_
  by_cases e2 : 0 ≤ x1.toInt ∧ x1.toInt ≤ 29
  · have e_or : x1.toInt = 0 ∨ x1.toInt = 1 ∨ x1.toInt = 2 ∨ x1.toInt = 3 ∨ x1.toInt = 4 ∨ x1.toInt = 5 ∨ x1.toInt = 6 ∨ x1.toInt = 7 ∨ x1.toInt = 8 ∨ x1.toInt = 9 ∨ x1.toInt = 10 ∨ x1.toInt = 11 ∨ x1.toInt = 12 ∨ x1.toInt = 13 ∨ x1.toInt = 14 ∨ x1.toInt = 15 ∨ x1.toInt = 16 ∨ x1.toInt = 17 ∨ x1.toInt = 18 ∨ x1.toInt = 19 ∨ x1.toInt = 20 ∨ x1.toInt = 21 ∨ x1.toInt = 22 ∨ x1.toInt = 23 ∨ x1.toInt = 24 ∨ x1.toInt = 25 ∨ x1.toInt = 26 ∨ x1.toInt = 27 ∨ x1.toInt = 28 ∨ x1.toInt = 29 := by omega
    rcases e_or with e_s | e_s | e_s | e_s | e_s | e_s | e_s | e_s | e_s | e_s | e_s | e_s | e_s | e_s | e_s | e_s | e_s | e_s | e_s | e_s | e_s | e_s | e_s | e_s | e_s | e_s | e_s | e_s | e_s | e_s
    · replace K := K.1 e_s
      refine g_tableIn (off := 134) (tgt := 140) dX8_count_6 (by omega) (by omega) (by rw [e_s]; rfl) (by decide) ?_
      refine g_aload_n dX8_count_140 rfl 0 rfl ?_
      obtain ⟨b3, e4, K⟩ := K
      refine g_get (c := 8) (k := 4) (v := .ref b3) dX8_count_141 fc_8 (by decide) (by decide) bw_1202 (congrArg pr (krI e4)) (kkI e1) ?_
      refine g_iload_n dX8_count_144 rfl 1 rfl ?_
      obtain ⟨e5, e6, K⟩ := K
      refine g_iald dX8_count_145 (kkI e5) (kvI e6) ?_
      exact g_iret dX8_count_146 rfl K
    · replace K := K.2.1 e_s
      refine g_tableIn (off := 134) (tgt := 140) dX8_count_6 (by omega) (by omega) (by rw [e_s]; rfl) (by decide) ?_
      refine g_aload_n dX8_count_140 rfl 0 rfl ?_
      obtain ⟨b7, e8, K⟩ := K
      refine g_get (c := 8) (k := 4) (v := .ref b7) dX8_count_141 fc_8 (by decide) (by decide) bw_1202 (congrArg pr (krI e8)) (kkI e1) ?_
      refine g_iload_n dX8_count_144 rfl 1 rfl ?_
      obtain ⟨e9, e10, K⟩ := K
      refine g_iald dX8_count_145 (kkI e9) (kvI e10) ?_
      exact g_iret dX8_count_146 rfl K
    · replace K := K.2.2.1 e_s
      refine g_tableIn (off := 141) (tgt := 147) dX8_count_6 (by omega) (by omega) (by rw [e_s]; rfl) (by decide) ?_
      refine g_aload_n dX8_count_147 rfl 0 rfl ?_
      obtain ⟨b11, e12, K⟩ := K
      refine g_get (c := 8) (k := 2) (v := .ref b11) dX8_count_148 fc_8 (by decide) (by decide) bw_1200 (congrArg pr (krI e12)) (kkI e1) ?_
      refine g_bipush (v := 6) dX8_count_151 (by decide) ?_
      obtain ⟨e13, e14, K⟩ := K
      refine g_iald dX8_count_153 (kkI e13) (kvI e14) ?_
      exact g_iret dX8_count_154 rfl K
    · replace K := K.2.2.2.1 e_s
      refine g_tableIn (off := 149) (tgt := 155) dX8_count_6 (by omega) (by omega) (by rw [e_s]; rfl) (by decide) ?_
      refine g_aload_n dX8_count_155 rfl 0 rfl ?_
      refine g_iconst (v := 3) dX8_count_156 (by decide) ?_
      obtain ⟨q15, C16, K⟩ := K
      refine g_callV (M' := mX8_tells) (b := a0) (As := [.int 3]) (rest := []) (rc' := rc) (rs' := rs) dX8_count_157 bw_1186 bw_1188 bs_36 bw_9 bw_1189 ⟨by decide +kernel, by decide +kernel, show (parseMethodDescriptor mX8_tells.1.desc).map (fun d => d.parameters.length) = some 1 by decide +kernel⟩ (by decide) (by decide) (Nat.le_of_ble_eq_true rfl) fc_8 (by decide) rfl (kkI e1) C16 (Nat.le_of_eq (Nat.add_zero _)) (Nat.le_of_eq (Nat.add_zero _)) (fun _ _ h => h) ?_
      rintro _ h17 ⟨r18, rfl, K1⟩ -
      replace K := K r18 h17 K1
      show Gm l x mX8_count 14 160 [(0, .ref a0), (1, .int x1)] [.int r18] h17 rc rs n0 Q X
      exact g_iret dX8_count_160 rfl K
    · replace K := K.2.2.2.2.1 e_s
      refine g_tableIn (off := 155) (tgt := 161) dX8_count_6 (by omega) (by omega) (by rw [e_s]; rfl) (by decide) ?_
      refine g_aload_n dX8_count_161 rfl 0 rfl ?_
      obtain ⟨b19, e20, K⟩ := K
      refine g_get (c := 8) (k := 2) (v := .ref b19) dX8_count_162 fc_8 (by decide) (by decide) bw_1200 (congrArg pr (krI e20)) (kkI e1) ?_
      refine g_iconst (v := 3) dX8_count_165 (by decide) ?_
      obtain ⟨e21, e22, K⟩ := K
      refine g_iald dX8_count_166 (kkI e21) (kvI e22) ?_
      exact g_iret dX8_count_167 rfl K
    · replace K := K.2.2.2.2.2.1 e_s
      refine g_tableIn (off := 162) (tgt := 168) dX8_count_6 (by omega) (by omega) (by rw [e_s]; rfl) (by decide) ?_
      refine g_aload_n dX8_count_168 rfl 0 rfl ?_
      obtain ⟨b23, e24, K⟩ := K
      refine g_get (c := 8) (k := 2) (v := .ref b23) dX8_count_169 fc_8 (by decide) (by decide) bw_1200 (congrArg pr (krI e24)) (kkI e1) ?_
      refine g_iconst (v := 2) dX8_count_172 (by decide) ?_
      obtain ⟨e25, e26, K⟩ := K
      refine g_iald dX8_count_173 (kkI e25) (kvI e26) ?_
      exact g_iret dX8_count_174 rfl K
    · replace K := K.2.2.2.2.2.2.1 e_s
      refine g_tableIn (off := 169) (tgt := 175) dX8_count_6 (by omega) (by omega) (by rw [e_s]; rfl) (by decide) ?_
      refine g_aload_n dX8_count_175 rfl 0 rfl ?_
      refine g_bipush (v := 6) dX8_count_176 (by decide) ?_
      obtain ⟨q27, C28, K⟩ := K
      refine g_callV (M' := mX8_tells) (b := a0) (As := [.int 6]) (rest := []) (rc' := rc) (rs' := rs) dX8_count_178 bw_1186 bw_1188 bs_36 bw_9 bw_1189 ⟨by decide +kernel, by decide +kernel, show (parseMethodDescriptor mX8_tells.1.desc).map (fun d => d.parameters.length) = some 1 by decide +kernel⟩ (by decide) (by decide) (Nat.le_of_ble_eq_true rfl) fc_8 (by decide) rfl (kkI e1) C28 (Nat.le_of_eq (Nat.add_zero _)) (Nat.le_of_eq (Nat.add_zero _)) (fun _ _ h => h) ?_
      rintro _ h29 ⟨r30, rfl, K1⟩ -
      replace K := K r30 h29 K1
      show Gm l x mX8_count 14 181 [(0, .ref a0), (1, .int x1)] [.int r30] h29 rc rs n0 Q X
      exact g_iret dX8_count_181 rfl K
    · replace K := K.2.2.2.2.2.2.2.1 e_s
      refine g_tableIn (off := 176) (tgt := 182) dX8_count_6 (by omega) (by omega) (by rw [e_s]; rfl) (by decide) ?_
      refine g_aload_n dX8_count_182 rfl 0 rfl ?_
      obtain ⟨b31, e32, K⟩ := K
      refine g_get (c := 8) (k := 2) (v := .ref b31) dX8_count_183 fc_8 (by decide) (by decide) bw_1200 (congrArg pr (krI e32)) (kkI e1) ?_
      refine g_iconst (v := 0) dX8_count_186 (by decide) ?_
      obtain ⟨e33, e34, K⟩ := K
      refine g_iald dX8_count_187 (kkI e33) (kvI e34) ?_
      exact g_iret dX8_count_188 rfl K
    · replace K := K.2.2.2.2.2.2.2.2.1 e_s
      refine g_tableIn (off := 183) (tgt := 189) dX8_count_6 (by omega) (by omega) (by rw [e_s]; rfl) (by decide) ?_
      refine g_aload_n dX8_count_189 rfl 0 rfl ?_
      obtain ⟨b35, e36, K⟩ := K
      refine g_get (c := 8) (k := 2) (v := .ref b35) dX8_count_190 fc_8 (by decide) (by decide) bw_1200 (congrArg pr (krI e36)) (kkI e1) ?_
      refine g_iconst (v := 1) dX8_count_193 (by decide) ?_
      obtain ⟨e37, e38, K⟩ := K
      refine g_iald dX8_count_194 (kkI e37) (kvI e38) ?_
      exact g_iret dX8_count_195 rfl K
    · replace K := K.2.2.2.2.2.2.2.2.2.1 e_s
      refine g_tableIn (off := 190) (tgt := 196) dX8_count_6 (by omega) (by omega) (by rw [e_s]; rfl) (by decide) ?_
      refine g_aload_n dX8_count_196 rfl 0 rfl ?_
      refine g_iload_n dX8_count_197 rfl 1 rfl ?_
      refine g_bipush (v := 8) dX8_count_198 (by decide) ?_
      refine g_isub dX8_count_200 ?_
      obtain ⟨q39, C40, K⟩ := K
      refine g_callV (M' := mX8_many) (b := a0) (As := [.int (x1 - 8)]) (rest := []) (rc' := rc) (rs' := rs) dX8_count_201 bw_1409 bw_1411 bs_51 bw_9 bw_1412 ⟨by decide +kernel, by decide +kernel, show (parseMethodDescriptor mX8_many.1.desc).map (fun d => d.parameters.length) = some 1 by decide +kernel⟩ (by decide) (by decide) (Nat.le_of_ble_eq_true rfl) fc_8 (by decide) rfl (kkI e1) C40 (Nat.le_of_eq (Nat.add_zero _)) (Nat.le_of_eq (Nat.add_zero _)) (fun _ _ h => h) ?_
      rintro _ h41 ⟨r42, rfl, K1⟩ -
      replace K := K r42 h41 K1
      show Gm l x mX8_count 14 204 [(0, .ref a0), (1, .int x1)] [.int r42] h41 rc rs n0 Q X
      exact g_iret dX8_count_204 rfl K
    · replace K := K.2.2.2.2.2.2.2.2.2.2.1 e_s
      refine g_tableIn (off := 190) (tgt := 196) dX8_count_6 (by omega) (by omega) (by rw [e_s]; rfl) (by decide) ?_
      refine g_aload_n dX8_count_196 rfl 0 rfl ?_
      refine g_iload_n dX8_count_197 rfl 1 rfl ?_
      refine g_bipush (v := 8) dX8_count_198 (by decide) ?_
      refine g_isub dX8_count_200 ?_
      obtain ⟨q43, C44, K⟩ := K
      refine g_callV (M' := mX8_many) (b := a0) (As := [.int (x1 - 8)]) (rest := []) (rc' := rc) (rs' := rs) dX8_count_201 bw_1409 bw_1411 bs_51 bw_9 bw_1412 ⟨by decide +kernel, by decide +kernel, show (parseMethodDescriptor mX8_many.1.desc).map (fun d => d.parameters.length) = some 1 by decide +kernel⟩ (by decide) (by decide) (Nat.le_of_ble_eq_true rfl) fc_8 (by decide) rfl (kkI e1) C44 (Nat.le_of_eq (Nat.add_zero _)) (Nat.le_of_eq (Nat.add_zero _)) (fun _ _ h => h) ?_
      rintro _ h45 ⟨r46, rfl, K1⟩ -
      replace K := K r46 h45 K1
      show Gm l x mX8_count 14 204 [(0, .ref a0), (1, .int x1)] [.int r46] h45 rc rs n0 Q X
      exact g_iret dX8_count_204 rfl K
    · replace K := K.2.2.2.2.2.2.2.2.2.2.2.1 e_s
      refine g_tableIn (off := 190) (tgt := 196) dX8_count_6 (by omega) (by omega) (by rw [e_s]; rfl) (by decide) ?_
      refine g_aload_n dX8_count_196 rfl 0 rfl ?_
      refine g_iload_n dX8_count_197 rfl 1 rfl ?_
      refine g_bipush (v := 8) dX8_count_198 (by decide) ?_
      refine g_isub dX8_count_200 ?_
      obtain ⟨q47, C48, K⟩ := K
      refine g_callV (M' := mX8_many) (b := a0) (As := [.int (x1 - 8)]) (rest := []) (rc' := rc) (rs' := rs) dX8_count_201 bw_1409 bw_1411 bs_51 bw_9 bw_1412 ⟨by decide +kernel, by decide +kernel, show (parseMethodDescriptor mX8_many.1.desc).map (fun d => d.parameters.length) = some 1 by decide +kernel⟩ (by decide) (by decide) (Nat.le_of_ble_eq_true rfl) fc_8 (by decide) rfl (kkI e1) C48 (Nat.le_of_eq (Nat.add_zero _)) (Nat.le_of_eq (Nat.add_zero _)) (fun _ _ h => h) ?_
      rintro _ h49 ⟨r50, rfl, K1⟩ -
      replace K := K r50 h49 K1
      show Gm l x mX8_count 14 204 [(0, .ref a0), (1, .int x1)] [.int r50] h49 rc rs n0 Q X
      exact g_iret dX8_count_204 rfl K
    · replace K := K.2.2.2.2.2.2.2.2.2.2.2.2.1 e_s
      refine g_tableIn (off := 199) (tgt := 205) dX8_count_6 (by omega) (by omega) (by rw [e_s]; rfl) (by decide) ?_
      refine g_aload_n dX8_count_205 rfl 0 rfl ?_
      obtain ⟨q51, C52, K⟩ := K
      refine g_callV (M' := mX8_calls) (b := a0) (As := []) (rest := []) (rc' := rc) (rs' := rs) dX8_count_206 bw_1417 bw_1419 bs_53 bw_9 bw_1420 ⟨by decide +kernel, by decide +kernel, show (parseMethodDescriptor mX8_calls.1.desc).map (fun d => d.parameters.length) = some 0 by decide +kernel⟩ (by decide) (by decide) (Nat.le_of_ble_eq_true rfl) fc_8 (by decide) rfl (kkI e1) C52 (Nat.le_of_eq (Nat.add_zero _)) (Nat.le_of_eq (Nat.add_zero _)) (fun _ _ h => h) ?_
      rintro _ h53 ⟨r54, rfl, K1⟩ -
      replace K := K r54 h53 K1
      show Gm l x mX8_count 14 209 [(0, .ref a0), (1, .int x1)] [.int r54] h53 rc rs n0 Q X
      exact g_iret dX8_count_209 rfl K
    · replace K := K.2.2.2.2.2.2.2.2.2.2.2.2.2.1 e_s
      refine g_tableIn (off := 204) (tgt := 210) dX8_count_6 (by omega) (by omega) (by rw [e_s]; rfl) (by decide) ?_
      refine g_aload_n dX8_count_210 rfl 0 rfl ?_
      obtain ⟨b55, e56, K⟩ := K
      refine g_get (c := 8) (k := 2) (v := .ref b55) dX8_count_211 fc_8 (by decide) (by decide) bw_1200 (congrArg pr (krI e56)) (kkI e1) ?_
      refine g_iconst (v := 5) dX8_count_214 (by decide) ?_
      obtain ⟨e57, e58, K⟩ := K
      refine g_iald dX8_count_215 (kkI e57) (kvI e58) ?_
      exact g_iret dX8_count_216 rfl K
    · replace K := K.2.2.2.2.2.2.2.2.2.2.2.2.2.2.1 e_s
      refine g_tableIn (off := 211) (tgt := 217) dX8_count_6 (by omega) (by omega) (by rw [e_s]; rfl) (by decide) ?_
      refine g_aload_n dX8_count_217 rfl 0 rfl ?_
      obtain ⟨q59, C60, K⟩ := K
      refine g_callV (M' := mX8_waited) (b := a0) (As := []) (rest := []) (rc' := rc) (rs' := rs) dX8_count_218 bw_1429 bw_1431 bs_56 bw_9 bw_1432 ⟨by decide +kernel, by decide +kernel, show (parseMethodDescriptor mX8_waited.1.desc).map (fun d => d.parameters.length) = some 0 by decide +kernel⟩ (by decide) (by decide) (Nat.le_of_ble_eq_true rfl) fc_8 (by decide) rfl (kkI e1) C60 (Nat.le_of_eq (Nat.add_zero _)) (Nat.le_of_eq (Nat.add_zero _)) (fun _ _ h => h) ?_
      rintro _ h61 ⟨r62, rfl, K1⟩ -
      replace K := K r62 h61 K1
      show Gm l x mX8_count 14 221 [(0, .ref a0), (1, .int x1)] [.int r62] h61 rc rs n0 Q X
      exact g_iret dX8_count_221 rfl K
    · replace K := K.2.2.2.2.2.2.2.2.2.2.2.2.2.2.2.1 e_s
      refine g_tableIn (off := 216) (tgt := 222) dX8_count_6 (by omega) (by omega) (by rw [e_s]; rfl) (by decide) ?_
      refine g_aload_n dX8_count_222 rfl 0 rfl ?_
      obtain ⟨q63, C64, K⟩ := K
      refine g_callV (M' := mX8_isPeak) (b := a0) (As := []) (rest := []) (rc' := rc) (rs' := rs) dX8_count_223 bw_1433 bw_1435 bs_57 bw_9 bw_1436 ⟨by decide +kernel, by decide +kernel, show (parseMethodDescriptor mX8_isPeak.1.desc).map (fun d => d.parameters.length) = some 0 by decide +kernel⟩ (by decide) (by decide) (Nat.le_of_ble_eq_true rfl) fc_8 (by decide) rfl (kkI e1) C64 (Nat.le_of_eq (Nat.add_zero _)) (Nat.le_of_eq (Nat.add_zero _)) (fun _ _ h => h) ?_
      rintro _ h65 ⟨r66, rfl, K1⟩ -
      replace K := K r66 h65 K1
      show Gm l x mX8_count 14 226 [(0, .ref a0), (1, .int x1)] [.int r66] h65 rc rs n0 Q X
      have KJ : Gm l x mX8_count 14 234 [(0, .ref a0), (1, .int x1)] [.int (if r66 = 0 then 0 else 1 : Int32)] h65 rc rs n0 Q X := by
        exact g_iret dX8_count_234 rfl K
      refine g_if_eq (tgt := 233) dX8_count_226 (by decide) (fun c67 => ?_) (fun c67 => ?_)
      · refine g_iconst (v := 0) dX8_count_233 (by decide) ?_
        first | (simp only [if_pos c67] at KJ; exact KJ) | (simp only [if_pos c67, ite_true, ite_false, eq_self] at KJ; exact KJ) | (simp only [if_pos c67] at KJ ⊢; exact KJ) | exact KJ
      · refine g_iconst (v := 1) dX8_count_229 (by decide) ?_
        refine g_goto (tgt := 234) dX8_count_230 (by decide) ?_
        first | (simp only [if_neg c67] at KJ; exact KJ) | (simp only [if_neg c67, ite_true, ite_false, eq_self] at KJ; exact KJ) | (simp only [if_neg c67] at KJ ⊢; exact KJ) | exact KJ
    · replace K := K.2.2.2.2.2.2.2.2.2.2.2.2.2.2.2.2.1 e_s
      refine g_tableIn (off := 229) (tgt := 235) dX8_count_6 (by omega) (by omega) (by rw [e_s]; rfl) (by decide) ?_
      refine g_aload_n dX8_count_235 rfl 0 rfl ?_
      obtain ⟨q68, C69, K⟩ := K
      refine g_callV (M' := mX8_worst) (b := a0) (As := []) (rest := []) (rc' := rc) (rs' := rs) dX8_count_236 bw_1437 bw_1439 bs_58 bw_9 bw_1440 ⟨by decide +kernel, by decide +kernel, show (parseMethodDescriptor mX8_worst.1.desc).map (fun d => d.parameters.length) = some 0 by decide +kernel⟩ (by decide) (by decide) (Nat.le_of_ble_eq_true rfl) fc_8 (by decide) rfl (kkI e1) C69 (Nat.le_of_eq (Nat.add_zero _)) (Nat.le_of_eq (Nat.add_zero _)) (fun _ _ h => h) ?_
      rintro _ h70 ⟨r71, rfl, K1⟩ -
      replace K := K r71 h70 K1
      show Gm l x mX8_count 14 239 [(0, .ref a0), (1, .int x1)] [.int r71] h70 rc rs n0 Q X
      exact g_iret dX8_count_239 rfl K
    · replace K := K.2.2.2.2.2.2.2.2.2.2.2.2.2.2.2.2.2.1 e_s
      refine g_tableIn (off := 234) (tgt := 240) dX8_count_6 (by omega) (by omega) (by rw [e_s]; rfl) (by decide) ?_
      refine g_aload_n dX8_count_240 rfl 0 rfl ?_
      obtain ⟨q72, C73, K⟩ := K
      refine g_callV (M' := mX8_best) (b := a0) (As := []) (rest := []) (rc' := rc) (rs' := rs) dX8_count_241 bw_1441 bw_1443 bs_59 bw_9 bw_1444 ⟨by decide +kernel, by decide +kernel, show (parseMethodDescriptor mX8_best.1.desc).map (fun d => d.parameters.length) = some 0 by decide +kernel⟩ (by decide) (by decide) (Nat.le_of_ble_eq_true rfl) fc_8 (by decide) rfl (kkI e1) C73 (Nat.le_of_eq (Nat.add_zero _)) (Nat.le_of_eq (Nat.add_zero _)) (fun _ _ h => h) ?_
      rintro _ h74 ⟨r75, rfl, K1⟩ -
      replace K := K r75 h74 K1
      show Gm l x mX8_count 14 244 [(0, .ref a0), (1, .int x1)] [.int r75] h74 rc rs n0 Q X
      exact g_iret dX8_count_244 rfl K
    · replace K := K.2.2.2.2.2.2.2.2.2.2.2.2.2.2.2.2.2.2.1 e_s
      refine g_tableIn (off := 239) (tgt := 245) dX8_count_6 (by omega) (by omega) (by rw [e_s]; rfl) (by decide) ?_
      refine g_aload_n dX8_count_245 rfl 0 rfl ?_
      obtain ⟨q76, C77, K⟩ := K
      refine g_callV (M' := mX8_room) (b := a0) (As := []) (rest := []) (rc' := rc) (rs' := rs) dX8_count_246 bw_1572 bw_1574 bs_86 bw_9 bw_1575 ⟨by decide +kernel, by decide +kernel, show (parseMethodDescriptor mX8_room.1.desc).map (fun d => d.parameters.length) = some 0 by decide +kernel⟩ (by decide) (by decide) (Nat.le_of_ble_eq_true rfl) fc_8 (by decide) rfl (kkI e1) C77 (Nat.le_of_eq (Nat.add_zero _)) (Nat.le_of_eq (Nat.add_zero _)) (fun _ _ h => h) ?_
      rintro _ h78 ⟨r79, rfl, K1⟩ -
      replace K := K r79 h78 K1
      show Gm l x mX8_count 14 249 [(0, .ref a0), (1, .int x1)] [.int r79] h78 rc rs n0 Q X
      exact g_iret dX8_count_249 rfl K
    · replace K := K.2.2.2.2.2.2.2.2.2.2.2.2.2.2.2.2.2.2.2.1 e_s
      refine g_tableIn (off := 244) (tgt := 250) dX8_count_6 (by omega) (by omega) (by rw [e_s]; rfl) (by decide) ?_
      refine g_aload_n dX8_count_250 rfl 0 rfl ?_
      obtain ⟨q80, C81, K⟩ := K
      refine g_callV (M' := mX8_missed) (b := a0) (As := []) (rest := []) (rc' := rc) (rs' := rs) dX8_count_251 bw_1576 bw_1578 bs_87 bw_9 bw_1579 ⟨by decide +kernel, by decide +kernel, show (parseMethodDescriptor mX8_missed.1.desc).map (fun d => d.parameters.length) = some 0 by decide +kernel⟩ (by decide) (by decide) (Nat.le_of_ble_eq_true rfl) fc_8 (by decide) rfl (kkI e1) C81 (Nat.le_of_eq (Nat.add_zero _)) (Nat.le_of_eq (Nat.add_zero _)) (fun _ _ h => h) ?_
      rintro _ h82 ⟨r83, rfl, K1⟩ -
      replace K := K r83 h82 K1
      show Gm l x mX8_count 14 254 [(0, .ref a0), (1, .int x1)] [.int r83] h82 rc rs n0 Q X
      exact g_iret dX8_count_254 rfl K
    · replace K := K.2.2.2.2.2.2.2.2.2.2.2.2.2.2.2.2.2.2.2.2.1 e_s
      refine g_tableIn (off := 249) (tgt := 255) dX8_count_6 (by omega) (by omega) (by rw [e_s]; rfl) (by decide) ?_
      refine g_aload_n dX8_count_255 rfl 0 rfl ?_
      refine g_get (c := 8) (k := 24) (v := .int (hI h a0 24)) dX8_count_256 fc_8 (by decide) (by decide) bw_1222 (congrArg Value.int ((skI (by decide)).trans rfl)) (kkI e1) ?_
      exact g_iret dX8_count_259 rfl K
    · replace K := K.2.2.2.2.2.2.2.2.2.2.2.2.2.2.2.2.2.2.2.2.2.1 e_s
      refine g_tableIn (off := 254) (tgt := 260) dX8_count_6 (by omega) (by omega) (by rw [e_s]; rfl) (by decide) ?_
      refine g_aload_n dX8_count_260 rfl 0 rfl ?_
      refine g_get (c := 8) (k := 26) (v := .int (hI h a0 26)) dX8_count_261 fc_8 (by decide) (by decide) bw_1224 (congrArg Value.int ((skI (by decide)).trans rfl)) (kkI e1) ?_
      exact g_iret dX8_count_264 rfl K
    · replace K := K.2.2.2.2.2.2.2.2.2.2.2.2.2.2.2.2.2.2.2.2.2.2.1 e_s
      refine g_tableIn (off := 259) (tgt := 265) dX8_count_6 (by omega) (by omega) (by rw [e_s]; rfl) (by decide) ?_
      refine g_aload_n dX8_count_265 rfl 0 rfl ?_
      refine g_get (c := 8) (k := 11) (v := .int (hI h a0 11)) dX8_count_266 fc_8 (by decide) (by decide) bw_1209 (congrArg Value.int ((skI (by decide)).trans rfl)) (kkI e1) ?_
      exact g_iret dX8_count_269 rfl K
    · replace K := K.2.2.2.2.2.2.2.2.2.2.2.2.2.2.2.2.2.2.2.2.2.2.2.1 e_s
      refine g_tableIn (off := 264) (tgt := 270) dX8_count_6 (by omega) (by omega) (by rw [e_s]; rfl) (by decide) ?_
      refine g_aload_n dX8_count_270 rfl 0 rfl ?_
      obtain ⟨b84, e85, K⟩ := K
      refine g_get (c := 8) (k := 3) (v := .ref b84) dX8_count_271 fc_8 (by decide) (by decide) bw_1201 (congrArg pr (krI e85)) (kkI e1) ?_
      refine g_iload_n dX8_count_274 rfl 1 rfl ?_
      refine g_bipush (v := 23) dX8_count_275 (by decide) ?_
      refine g_isub dX8_count_277 ?_
      obtain ⟨e86, e87, K⟩ := K
      refine g_iald dX8_count_278 (kkI e86) (kvI e87) ?_
      exact g_iret dX8_count_279 rfl K
    · replace K := K.2.2.2.2.2.2.2.2.2.2.2.2.2.2.2.2.2.2.2.2.2.2.2.2.1 e_s
      refine g_tableIn (off := 264) (tgt := 270) dX8_count_6 (by omega) (by omega) (by rw [e_s]; rfl) (by decide) ?_
      refine g_aload_n dX8_count_270 rfl 0 rfl ?_
      obtain ⟨b88, e89, K⟩ := K
      refine g_get (c := 8) (k := 3) (v := .ref b88) dX8_count_271 fc_8 (by decide) (by decide) bw_1201 (congrArg pr (krI e89)) (kkI e1) ?_
      refine g_iload_n dX8_count_274 rfl 1 rfl ?_
      refine g_bipush (v := 23) dX8_count_275 (by decide) ?_
      refine g_isub dX8_count_277 ?_
      obtain ⟨e90, e91, K⟩ := K
      refine g_iald dX8_count_278 (kkI e90) (kvI e91) ?_
      exact g_iret dX8_count_279 rfl K
    · replace K := K.2.2.2.2.2.2.2.2.2.2.2.2.2.2.2.2.2.2.2.2.2.2.2.2.2.1 e_s
      refine g_tableIn (off := 264) (tgt := 270) dX8_count_6 (by omega) (by omega) (by rw [e_s]; rfl) (by decide) ?_
      refine g_aload_n dX8_count_270 rfl 0 rfl ?_
      obtain ⟨b92, e93, K⟩ := K
      refine g_get (c := 8) (k := 3) (v := .ref b92) dX8_count_271 fc_8 (by decide) (by decide) bw_1201 (congrArg pr (krI e93)) (kkI e1) ?_
      refine g_iload_n dX8_count_274 rfl 1 rfl ?_
      refine g_bipush (v := 23) dX8_count_275 (by decide) ?_
      refine g_isub dX8_count_277 ?_
      obtain ⟨e94, e95, K⟩ := K
      refine g_iald dX8_count_278 (kkI e94) (kvI e95) ?_
      exact g_iret dX8_count_279 rfl K
    · replace K := K.2.2.2.2.2.2.2.2.2.2.2.2.2.2.2.2.2.2.2.2.2.2.2.2.2.2.1 e_s
      refine g_tableIn (off := 274) (tgt := 280) dX8_count_6 (by omega) (by omega) (by rw [e_s]; rfl) (by decide) ?_
      refine g_aload_n dX8_count_280 rfl 0 rfl ?_
      obtain ⟨q96, C97, K⟩ := K
      refine g_callV (M' := mX8_overtaken) (b := a0) (As := []) (rest := []) (rc' := rc) (rs' := rs) dX8_count_281 bw_1580 bw_1582 bs_88 bw_9 bw_1583 ⟨by decide +kernel, by decide +kernel, show (parseMethodDescriptor mX8_overtaken.1.desc).map (fun d => d.parameters.length) = some 0 by decide +kernel⟩ (by decide) (by decide) (Nat.le_of_ble_eq_true rfl) fc_8 (by decide) rfl (kkI e1) C97 (Nat.le_of_eq (Nat.add_zero _)) (Nat.le_of_eq (Nat.add_zero _)) (fun _ _ h => h) ?_
      rintro _ h98 ⟨r99, rfl, K1⟩ -
      replace K := K r99 h98 K1
      show Gm l x mX8_count 14 284 [(0, .ref a0), (1, .int x1)] [.int r99] h98 rc rs n0 Q X
      exact g_iret dX8_count_284 rfl K
    · replace K := K.2.2.2.2.2.2.2.2.2.2.2.2.2.2.2.2.2.2.2.2.2.2.2.2.2.2.2.1 e_s
      refine g_tableIn (off := 279) (tgt := 285) dX8_count_6 (by omega) (by omega) (by rw [e_s]; rfl) (by decide) ?_
      refine g_aload_n dX8_count_285 rfl 0 rfl ?_
      obtain ⟨q100, C101, K⟩ := K
      refine g_callV (M' := mX8_thrift) (b := a0) (As := []) (rest := []) (rc' := rc) (rs' := rs) dX8_count_286 bw_1588 bw_1590 bs_90 bw_9 bw_1591 ⟨by decide +kernel, by decide +kernel, show (parseMethodDescriptor mX8_thrift.1.desc).map (fun d => d.parameters.length) = some 0 by decide +kernel⟩ (by decide) (by decide) (Nat.le_of_ble_eq_true rfl) fc_8 (by decide) rfl (kkI e1) C101 (Nat.le_of_eq (Nat.add_zero _)) (Nat.le_of_eq (Nat.add_zero _)) (fun _ _ h => h) ?_
      rintro _ h102 ⟨r103, rfl, K1⟩ -
      replace K := K r103 h102 K1
      show Gm l x mX8_count 14 289 [(0, .ref a0), (1, .int x1)] [.int r103] h102 rc rs n0 Q X
      exact g_iret dX8_count_289 rfl K
    · replace K := K.2.2.2.2.2.2.2.2.2.2.2.2.2.2.2.2.2.2.2.2.2.2.2.2.2.2.2.2.1 e_s
      refine g_tableIn (off := 284) (tgt := 290) dX8_count_6 (by omega) (by omega) (by rw [e_s]; rfl) (by decide) ?_
      refine g_aload_n dX8_count_290 rfl 0 rfl ?_
      obtain ⟨q104, C105, K⟩ := K
      refine g_callV (M' := mX8_work) (b := a0) (As := []) (rest := []) (rc' := rc) (rs' := rs) dX8_count_291 bw_1592 bw_1594 bs_91 bw_9 bw_1595 ⟨by decide +kernel, by decide +kernel, show (parseMethodDescriptor mX8_work.1.desc).map (fun d => d.parameters.length) = some 0 by decide +kernel⟩ (by decide) (by decide) (Nat.le_of_ble_eq_true rfl) fc_8 (by decide) rfl (kkI e1) C105 (Nat.le_of_eq (Nat.add_zero _)) (Nat.le_of_eq (Nat.add_zero _)) (fun _ _ h => h) ?_
      rintro _ h106 ⟨r107, rfl, K1⟩ -
      replace K := K r107 h106 K1
      show Gm l x mX8_count 14 294 [(0, .ref a0), (1, .int x1)] [.float r107] h106 rc rs n0 Q X
      refine g_f2i dX8_count_294 ?_
      exact g_iret dX8_count_295 rfl K
    · replace K := K.2.2.2.2.2.2.2.2.2.2.2.2.2.2.2.2.2.2.2.2.2.2.2.2.2.2.2.2.2.1 e_s
      refine g_tableIn (off := 290) (tgt := 296) dX8_count_6 (by omega) (by omega) (by rw [e_s]; rfl) (by decide) ?_
      refine g_aload_n dX8_count_296 rfl 0 rfl ?_
      obtain ⟨q108, C109, K⟩ := K
      refine g_callV (M' := mX8_quiet) (b := a0) (As := []) (rest := []) (rc' := rc) (rs' := rs) dX8_count_297 bw_1596 bw_1598 bs_92 bw_9 bw_1599 ⟨by decide +kernel, by decide +kernel, show (parseMethodDescriptor mX8_quiet.1.desc).map (fun d => d.parameters.length) = some 0 by decide +kernel⟩ (by decide) (by decide) (Nat.le_of_ble_eq_true rfl) fc_8 (by decide) rfl (kkI e1) C109 (Nat.le_of_eq (Nat.add_zero _)) (Nat.le_of_eq (Nat.add_zero _)) (fun _ _ h => h) ?_
      rintro _ h110 ⟨r111, rfl, K1⟩ -
      replace K := K r111 h110 K1
      show Gm l x mX8_count 14 300 [(0, .ref a0), (1, .int x1)] [.int r111] h110 rc rs n0 Q X
      exact g_iret dX8_count_300 rfl K
  · replace K := K.2.2.2.2.2.2.2.2.2.2.2.2.2.2.2.2.2.2.2.2.2.2.2.2.2.2.2.2.2.2 (by omega)
    refine g_tableOut (tgt := 301) dX8_count_6 (by omega) (by decide) ?_
    refine g_aload_n dX8_count_301 rfl 0 rfl ?_
    refine g_iconst (v := 1) dX8_count_302 (by decide) ?_
    obtain ⟨q112, C113, K⟩ := K
    refine g_callV (M' := mX8_fail) (b := a0) (As := [.int 1]) (rest := []) (rc' := rc) (rs' := rs) dX8_count_303 bw_1337 bw_1339 bs_39 bw_9 bw_1340 ⟨by decide +kernel, by decide +kernel, show (parseMethodDescriptor mX8_fail.1.desc).map (fun d => d.parameters.length) = some 1 by decide +kernel⟩ (by decide) (by decide) (Nat.le_of_ble_eq_true rfl) fc_8 (by decide) rfl (kkI e1) C113 (Nat.le_of_eq (Nat.add_zero _)) (Nat.le_of_eq (Nat.add_zero _)) (fun _ _ h => h) ?_
    rintro _ h114 ⟨r115, rfl, K1⟩ -
    replace K := K r115 h114 K1
    show Gm l x mX8_count 14 306 [(0, .ref a0), (1, .int x1)] [.int r115] h114 rc rs n0 Q X
    exact g_iret dX8_count_306 rfl K
