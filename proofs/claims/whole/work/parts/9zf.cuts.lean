/-! STEPS, printed by program: more cuts of readCar, readRider, readClause -/
set_option maxRecDepth 20000 in
set_option maxHeartbeats 4000000 in
theorem wX8_readCar_0 {l : Launch} {x : CX} {a0 : Nat} {h : PH} {rc rs n0 : Nat} {Q : Option Value → PH → Prop} {X : String → PH → Prop}
    (K : ((hK h a0).1 = 8) ∧ ∃ b2, (hR h a0 5 = some b2) ∧ ((hK h b2).1 = 100) ∧ (vp_in 1 (hK h b2).2) ∧ ((¬ (hI h b2 (Int32.toNatClampNeg 1)) = 4 → Gm l x mX8_readCar 7 15 [(0, .ref a0)] [] h rc rs n0 Q X) ∧ ((hI h b2 (Int32.toNatClampNeg 1)) = 4 → ∃ (q7 : PH → Prop), CV l x mX8_wrong 0 0 0 [.ref a0, .int 2] h q7 ∧ ∀ (h9 : PH), q7 h9 → Gm l x mX8_readCar 7 15 [(0, .ref a0)] [] h9 rc rs n0 Q X))) :
    Gm l x mX8_readCar 7 0 [(0, .ref a0)] [] h rc rs n0 Q X := by
  refine g_aload_n dX8_readCar_0 rfl 0 rfl ?_
  obtain ⟨e1, b2, e3, K⟩ := K
  refine g_get (c := 8) (k := 5) (v := .ref b2) dX8_readCar_1 fc_8 (by decide) (by decide) bw_1203 (congrArg pr e3) e1 ?_
  refine g_iconst (v := 1) dX8_readCar_4 (by decide) ?_
  obtain ⟨e4, e5, K⟩ := K
  refine g_iald dX8_readCar_5 e4 e5 ?_
  refine g_iconst (v := 4) dX8_readCar_6 (by decide) ?_
  refine g_icmp_ne (tgt := 15) dX8_readCar_7 (by decide) (fun c6 => ?_) (fun c6 => ?_)
  · replace K := K.1 c6
    exact K
  · replace K := K.2 c6
    refine g_aload_n dX8_readCar_10 rfl 0 rfl ?_
    refine g_iconst (v := 2) dX8_readCar_11 (by decide) ?_
    obtain ⟨q7, C8, K⟩ := K
    refine g_callV (M' := mX8_wrong) (b := a0) (As := [.int 2]) (rest := []) (rc' := rc) (rs' := rs) dX8_readCar_12 bw_1371 bw_1373 bs_45 bw_9 bw_1374 ⟨by decide +kernel, by decide +kernel, show (parseMethodDescriptor mX8_wrong.1.desc).map (fun d => d.parameters.length) = some 1 by decide +kernel⟩ (by decide) (by decide) (Nat.le_of_ble_eq_true rfl) fc_8 (by decide) rfl e1 C8 (Nat.le_of_eq (Nat.add_zero _)) (Nat.le_of_eq (Nat.add_zero _)) (fun _ _ h => h) ?_
    rintro _ h9 ⟨rfl, K1⟩ -
    replace K := K h9 K1
    show Gm l x mX8_readCar 7 15 [(0, .ref a0)] [] h9 rc rs n0 Q X
    exact K
set_option maxRecDepth 20000 in
set_option maxHeartbeats 4000000 in
theorem wX8_readCar_15 {l : Launch} {x : CX} {a0 : Nat} {h : PH} {rc rs n0 : Nat} {Q : Option Value → PH → Prop} {X : String → PH → Prop}
    (K : ((hK h a0).1 = 8) ∧ (((hI h a0 18) = 0 → ∃ (q3 : PH → Prop), CV l x mX8_stepOn 1 0 0 [.ref a0] h q3 ∧ ∀ (h5 : PH), q3 h5 → ((hK h5 a0).1 = 8) ∧ ∃ b7, (hR h5 a0 5 = some b7) ∧ ((hK h5 b7).1 = 100) ∧ (vp_in 1 (hK h5 b7).2) ∧ ∃ b11, (hR h5 a0 7 = some b11) ∧ ∃ (q13 : Int32 → PH → Prop), CI l x mX8_floorNow 2 0 0 [.ref a0] h5 q13 ∧ ∀ (r16 : Int32) (h15 : PH), q13 r16 h15 → ((hK h15 b11).1 = 100) ∧ (vp_in (3 * (hI h5 b7 (Int32.toNatClampNeg 1))) (hK h15 b11).2) ∧ ((hK h15 a0).1 = 8) ∧ ((¬ (hI (sI h15 b11 (3 * (hI h5 b7 (Int32.toNatClampNeg 1))).toNatClampNeg r16) a0 18) = 0 → Gm l x mX8_readCar 7 57 [(0, .ref a0), (1, .int (3 * (hI h5 b7 (Int32.toNatClampNeg 1))))] [] (sI h15 b11 (3 * (hI h5 b7 (Int32.toNatClampNeg 1))).toNatClampNeg r16) rc rs n0 Q X) ∧ ((hI (sI h15 b11 (3 * (hI h5 b7 (Int32.toNatClampNeg 1))).toNatClampNeg r16) a0 18) = 0 → ∃ (q21 : PH → Prop), CV l x mX8_stepOn 1 0 0 [.ref a0] (sI h15 b11 (3 * (hI h5 b7 (Int32.toNatClampNeg 1))).toNatClampNeg r16) q21 ∧ ∀ (h23 : PH), q21 h23 → Gm l x mX8_readCar 7 57 [(0, .ref a0), (1, .int (3 * (hI h5 b7 (Int32.toNatClampNeg 1))))] [] h23 rc rs n0 Q X))) ∧ (¬ (hI h a0 18) = 0 → Q none h))) :
    Gm l x mX8_readCar 7 15 [(0, .ref a0)] [] h rc rs n0 Q X := by
  refine g_aload_n dX8_readCar_15 rfl 0 rfl ?_
  obtain ⟨e1, K⟩ := K
  refine g_get (c := 8) (k := 18) (v := .int (hI h a0 18)) dX8_readCar_16 fc_8 (by decide) (by decide) bw_1216 rfl e1 ?_
  refine g_if_eq (tgt := 23) dX8_readCar_19 (by decide) (fun c2 => ?_) (fun c2 => ?_)
  · replace K := K.1 c2
    refine g_aload_n dX8_readCar_23 rfl 0 rfl ?_
    obtain ⟨q3, C4, K⟩ := K
    refine g_callV (M' := mX8_stepOn) (b := a0) (As := []) (rest := []) (rc' := rc) (rs' := rs) dX8_readCar_24 bw_1341 bw_1343 bs_40 bw_9 bw_1344 ⟨by decide +kernel, by decide +kernel, show (parseMethodDescriptor mX8_stepOn.1.desc).map (fun d => d.parameters.length) = some 0 by decide +kernel⟩ (by decide) (by decide) (Nat.le_of_ble_eq_true rfl) fc_8 (by decide) rfl e1 C4 (Nat.le_of_eq (Nat.add_zero _)) (Nat.le_of_eq (Nat.add_zero _)) (fun _ _ h => h) ?_
    rintro _ h5 ⟨rfl, K1⟩ -
    replace K := K h5 K1
    show Gm l x mX8_readCar 7 27 [(0, .ref a0)] [] h5 rc rs n0 Q X
    refine g_iconst (v := 3) dX8_readCar_27 (by decide) ?_
    refine g_aload_n dX8_readCar_28 rfl 0 rfl ?_
    obtain ⟨e6, b7, e8, K⟩ := K
    refine g_get (c := 8) (k := 5) (v := .ref b7) dX8_readCar_29 fc_8 (by decide) (by decide) bw_1203 (congrArg pr e8) e6 ?_
    refine g_iconst (v := 1) dX8_readCar_32 (by decide) ?_
    obtain ⟨e9, e10, K⟩ := K
    refine g_iald dX8_readCar_33 e9 e10 ?_
    refine g_imul dX8_readCar_34 ?_
    refine g_istore_n (lv' := [(0, .ref a0), (1, .int (3 * (hI h5 b7 (Int32.toNatClampNeg 1))))]) dX8_readCar_35 rfl (by decide) rfl ?_
    refine g_aload_n dX8_readCar_36 rfl 0 rfl ?_
    obtain ⟨b11, e12, K⟩ := K
    refine g_get (c := 8) (k := 7) (v := .ref b11) dX8_readCar_37 fc_8 (by decide) (by decide) bw_1205 (congrArg pr e12) e6 ?_
    refine g_iload_n dX8_readCar_40 rfl 1 rfl ?_
    refine g_aload_n dX8_readCar_41 rfl 0 rfl ?_
    obtain ⟨q13, C14, K⟩ := K
    refine g_callV (M' := mX8_floorNow) (b := a0) (As := []) (rest := [.int (3 * (hI h5 b7 (Int32.toNatClampNeg 1))), .ref b11]) (rc' := rc) (rs' := rs) dX8_readCar_42 bw_1379 bw_1381 bs_47 bw_9 bw_1382 ⟨by decide +kernel, by decide +kernel, show (parseMethodDescriptor mX8_floorNow.1.desc).map (fun d => d.parameters.length) = some 0 by decide +kernel⟩ (by decide) (by decide) (Nat.le_of_ble_eq_true rfl) fc_8 (by decide) rfl e6 C14 (Nat.le_of_eq (Nat.add_zero _)) (Nat.le_of_eq (Nat.add_zero _)) (fun _ _ h => h) ?_
    rintro _ h15 ⟨r16, rfl, K1⟩ -
    replace K := K r16 h15 K1
    show Gm l x mX8_readCar 7 45 [(0, .ref a0), (1, .int (3 * (hI h5 b7 (Int32.toNatClampNeg 1))))] [.int r16, .int (3 * (hI h5 b7 (Int32.toNatClampNeg 1))), .ref b11] h15 rc rs n0 Q X
    obtain ⟨e17, e18, K⟩ := K
    refine g_iast dX8_readCar_45 e17 e18 ?_
    refine g_aload_n dX8_readCar_46 rfl 0 rfl ?_
    obtain ⟨e19, K⟩ := K
    refine g_get (c := 8) (k := 18) (v := .int (hI (sI h15 b11 (3 * (hI h5 b7 (Int32.toNatClampNeg 1))).toNatClampNeg r16) a0 18)) dX8_readCar_47 fc_8 (by decide) (by decide) bw_1216 rfl (kkI e19) ?_
    refine g_if_ne (tgt := 57) dX8_readCar_50 (by decide) (fun c20 => ?_) (fun c20 => ?_)
    · replace K := K.1 c20
      exact K
    · replace K := K.2 c20
      refine g_aload_n dX8_readCar_53 rfl 0 rfl ?_
      obtain ⟨q21, C22, K⟩ := K
      refine g_callV (M' := mX8_stepOn) (b := a0) (As := []) (rest := []) (rc' := rc) (rs' := rs) dX8_readCar_54 bw_1341 bw_1343 bs_40 bw_9 bw_1344 ⟨by decide +kernel, by decide +kernel, show (parseMethodDescriptor mX8_stepOn.1.desc).map (fun d => d.parameters.length) = some 0 by decide +kernel⟩ (by decide) (by decide) (Nat.le_of_ble_eq_true rfl) fc_8 (by decide) rfl (kkI e19) C22 (Nat.le_of_eq (Nat.add_zero _)) (Nat.le_of_eq (Nat.add_zero _)) (fun _ _ h => h) ?_
      rintro _ h23 ⟨rfl, K1⟩ -
      replace K := K h23 K1
      show Gm l x mX8_readCar 7 57 [(0, .ref a0), (1, .int (3 * (hI h5 b7 (Int32.toNatClampNeg 1))))] [] h23 rc rs n0 Q X
      exact K
  · replace K := K.2 c2
    exact g_vret dX8_readCar_22 rfl K
set_option maxRecDepth 20000 in
set_option maxHeartbeats 4000000 in
theorem wX8_readCar_57 {l : Launch} {x : CX} {a0 : Nat} {x1 : Int32} {h : PH} {rc rs n0 : Nat} {Q : Option Value → PH → Prop} {X : String → PH → Prop}
    (K : ((hK h a0).1 = 8) ∧ ∃ b2, (hR h a0 7 = some b2) ∧ ∃ (q4 : Int32 → PH → Prop), CI l x mX8_readNumber 2 0 0 [.ref a0, .int 1, .int 6] h q4 ∧ ∀ (r7 : Int32) (h6 : PH), q4 r7 h6 → ((hK h6 b2).1 = 100) ∧ (vp_in (x1 + 1) (hK h6 b2).2) ∧ ((hK h6 a0).1 = 8) ∧ ∃ b11, (hR h6 a0 7 = some b11) ∧ (TxtOk x RX8 180 "persons" 17) ∧ ∃ (q14 : Int32 → PH → Prop), CI l x mX8_is 6 0 0 [.ref a0, .retAddr 17] (sI h6 b2 (x1 + 1).toNatClampNeg r7) q14 ∧ ∀ (r17 : Int32) (h16 : PH), q14 r17 h16 → ((r17 = 0 → (TxtOk x RX8 182 "parcels" 18) ∧ ((hK h16 a0).1 = 8) ∧ ∃ (q20 : Int32 → PH → Prop), CI l x mX8_is 6 0 0 [.ref a0, .retAddr 18] h16 q20 ∧ ∀ (r24 : Int32) (h23 : PH), q20 r24 h23 → ((hK h23 b11).1 = 100) ∧ (vp_in (x1 + 2) (hK h23 b11).2) ∧ Gm l x mX8_readCar 7 107 [(0, .ref a0), (1, .int x1)] [] (sI h23 b11 (x1 + 2).toNatClampNeg (if r24 = 0 then 0 else 2 : Int32)) rc rs n0 Q X) ∧ (¬ r17 = 0 → ((hK h16 b11).1 = 100) ∧ (vp_in (x1 + 2) (hK h16 b11).2) ∧ Gm l x mX8_readCar 7 107 [(0, .ref a0), (1, .int x1)] [] (sI h16 b11 (x1 + 2).toNatClampNeg 1) rc rs n0 Q X))) :
    Gm l x mX8_readCar 7 57 [(0, .ref a0), (1, .int x1)] [] h rc rs n0 Q X := by
  refine g_aload_n dX8_readCar_57 rfl 0 rfl ?_
  obtain ⟨e1, b2, e3, K⟩ := K
  refine g_get (c := 8) (k := 7) (v := .ref b2) dX8_readCar_58 fc_8 (by decide) (by decide) bw_1205 (congrArg pr e3) e1 ?_
  refine g_iload_n dX8_readCar_61 rfl 1 rfl ?_
  refine g_iconst (v := 1) dX8_readCar_62 (by decide) ?_
  refine g_iadd dX8_readCar_63 ?_
  refine g_aload_n dX8_readCar_64 rfl 0 rfl ?_
  refine g_iconst (v := 1) dX8_readCar_65 (by decide) ?_
  refine g_bipush (v := 6) dX8_readCar_66 (by decide) ?_
  obtain ⟨q4, C5, K⟩ := K
  refine g_callV (M' := mX8_readNumber) (b := a0) (As := [.int 1, .int 6]) (rest := [.int (x1 + 1), .ref b2]) (rc' := rc) (rs' := rs) dX8_readCar_68 bw_1387 bw_1389 bs_49 bw_9 bw_1390 ⟨by decide +kernel, by decide +kernel, show (parseMethodDescriptor mX8_readNumber.1.desc).map (fun d => d.parameters.length) = some 2 by decide +kernel⟩ (by decide) (by decide) (Nat.le_of_ble_eq_true rfl) fc_8 (by decide) rfl e1 C5 (Nat.le_of_eq (Nat.add_zero _)) (Nat.le_of_eq (Nat.add_zero _)) (fun _ _ h => h) ?_
  rintro _ h6 ⟨r7, rfl, K1⟩ -
  replace K := K r7 h6 K1
  show Gm l x mX8_readCar 7 71 [(0, .ref a0), (1, .int x1)] [.int r7, .int (x1 + 1), .ref b2] h6 rc rs n0 Q X
  obtain ⟨e8, e9, K⟩ := K
  refine g_iast dX8_readCar_71 e8 e9 ?_
  refine g_aload_n dX8_readCar_72 rfl 0 rfl ?_
  obtain ⟨e10, b11, e12, K⟩ := K
  refine g_get (c := 8) (k := 7) (v := .ref b11) dX8_readCar_73 fc_8 (by decide) (by decide) bw_1205 (congrArg pr (krI e12)) (kkI e10) ?_
  refine g_iload_n dX8_readCar_76 rfl 1 rfl ?_
  refine g_iconst (v := 2) dX8_readCar_77 (by decide) ?_
  refine g_iadd dX8_readCar_78 ?_
  refine g_aload_n dX8_readCar_79 rfl 0 rfl ?_
  obtain ⟨z13, K⟩ := K
  refine g_ldcS (j := 17) dX8_readCar_80 z13 ?_
  obtain ⟨q14, C15, K⟩ := K
  refine g_callV (M' := mX8_is) (b := a0) (As := [.retAddr 17]) (rest := [.int (x1 + 2), .ref b11]) (rc' := rc) (rs' := rs) dX8_readCar_82 bw_1365 bw_1367 bs_44 bw_9 bw_1368 ⟨by decide +kernel, by decide +kernel, show (parseMethodDescriptor mX8_is.1.desc).map (fun d => d.parameters.length) = some 1 by decide +kernel⟩ (by decide) (by decide) (Nat.le_of_ble_eq_true rfl) fc_8 (by decide) rfl (kkI e10) C15 (Nat.le_of_eq (Nat.add_zero _)) (Nat.le_of_eq (Nat.add_zero _)) (fun _ _ h => h) ?_
  rintro _ h16 ⟨r17, rfl, K1⟩ -
  replace K := K r17 h16 K1
  show Gm l x mX8_readCar 7 85 [(0, .ref a0), (1, .int x1)] [.int r17, .int (x1 + 2), .ref b11] h16 rc rs n0 Q X
  refine g_if_eq (tgt := 92) dX8_readCar_85 (by decide) (fun c18 => ?_) (fun c18 => ?_)
  · replace K := K.1 c18
    refine g_aload_n dX8_readCar_92 rfl 0 rfl ?_
    obtain ⟨z19, K⟩ := K
    refine g_ldcS (j := 18) dX8_readCar_93 z19 ?_
    obtain ⟨e22, K⟩ := K
    obtain ⟨q20, C21, K⟩ := K
    refine g_callV (M' := mX8_is) (b := a0) (As := [.retAddr 18]) (rest := [.int (x1 + 2), .ref b11]) (rc' := rc) (rs' := rs) dX8_readCar_95 bw_1365 bw_1367 bs_44 bw_9 bw_1368 ⟨by decide +kernel, by decide +kernel, show (parseMethodDescriptor mX8_is.1.desc).map (fun d => d.parameters.length) = some 1 by decide +kernel⟩ (by decide) (by decide) (Nat.le_of_ble_eq_true rfl) fc_8 (by decide) rfl e22 C21 (Nat.le_of_eq (Nat.add_zero _)) (Nat.le_of_eq (Nat.add_zero _)) (fun _ _ h => h) ?_
    rintro _ h23 ⟨r24, rfl, K1⟩ -
    replace K := K r24 h23 K1
    show Gm l x mX8_readCar 7 98 [(0, .ref a0), (1, .int x1)] [.int r24, .int (x1 + 2), .ref b11] h23 rc rs n0 Q X
    have KJ : Gm l x mX8_readCar 7 106 [(0, .ref a0), (1, .int x1)] [.int (if r24 = 0 then 0 else 2 : Int32), .int (x1 + 2), .ref b11] h23 rc rs n0 Q X := by
      obtain ⟨e26, e27, K⟩ := K
      refine g_iast dX8_readCar_106 e26 e27 ?_
      exact K
    refine g_if_eq (tgt := 105) dX8_readCar_98 (by decide) (fun c25 => ?_) (fun c25 => ?_)
    · refine g_iconst (v := 0) dX8_readCar_105 (by decide) ?_
      first | (simp only [if_pos c25] at KJ; exact KJ) | (simp only [if_pos c25, ite_true, ite_false, eq_self] at KJ; exact KJ) | (simp only [if_pos c25] at KJ ⊢; exact KJ) | exact KJ
    · refine g_iconst (v := 2) dX8_readCar_101 (by decide) ?_
      refine g_goto (tgt := 106) dX8_readCar_102 (by decide) ?_
      first | (simp only [if_neg c25] at KJ; exact KJ) | (simp only [if_neg c25, ite_true, ite_false, eq_self] at KJ; exact KJ) | (simp only [if_neg c25] at KJ ⊢; exact KJ) | exact KJ
  · replace K := K.2 c18
    refine g_iconst (v := 1) dX8_readCar_88 (by decide) ?_
    refine g_goto (tgt := 106) dX8_readCar_89 (by decide) ?_
    obtain ⟨e28, e29, K⟩ := K
    refine g_iast dX8_readCar_106 e28 e29 ?_
    exact K
set_option maxRecDepth 20000 in
set_option maxHeartbeats 4000000 in
theorem wX8_readCar_107 {l : Launch} {x : CX} {a0 : Nat} {x1 : Int32} {h : PH} {rc rs n0 : Nat} {Q : Option Value → PH → Prop} {X : String → PH → Prop}
    (K : ((hK h a0).1 = 8) ∧ ((¬ (hI h a0 18) = 0 → Gm l x mX8_readCar 7 129 [(0, .ref a0), (1, .int x1)] [] h rc rs n0 Q X) ∧ ((hI h a0 18) = 0 → ∃ b3, (hR h a0 7 = some b3) ∧ ((hK h b3).1 = 100) ∧ (vp_in (x1 + 2) (hK h b3).2) ∧ (((hI h b3 (x1 + 2).toNatClampNeg) ≤ 0 → Gm l x mX8_readCar 7 129 [(0, .ref a0), (1, .int x1)] [] h rc rs n0 Q X) ∧ (¬ (hI h b3 (x1 + 2).toNatClampNeg) ≤ 0 → ∃ (q8 : PH → Prop), CV l x mX8_stepOn 1 0 0 [.ref a0] h q8 ∧ ∀ (h10 : PH), q8 h10 → Gm l x mX8_readCar 7 129 [(0, .ref a0), (1, .int x1)] [] h10 rc rs n0 Q X))))) :
    Gm l x mX8_readCar 7 107 [(0, .ref a0), (1, .int x1)] [] h rc rs n0 Q X := by
  refine g_aload_n dX8_readCar_107 rfl 0 rfl ?_
  obtain ⟨e1, K⟩ := K
  refine g_get (c := 8) (k := 18) (v := .int (hI h a0 18)) dX8_readCar_108 fc_8 (by decide) (by decide) bw_1216 rfl e1 ?_
  refine g_if_ne (tgt := 129) dX8_readCar_111 (by decide) (fun c2 => ?_) (fun c2 => ?_)
  · replace K := K.1 c2
    exact K
  · replace K := K.2 c2
    refine g_aload_n dX8_readCar_114 rfl 0 rfl ?_
    obtain ⟨b3, e4, K⟩ := K
    refine g_get (c := 8) (k := 7) (v := .ref b3) dX8_readCar_115 fc_8 (by decide) (by decide) bw_1205 (congrArg pr e4) e1 ?_
    refine g_iload_n dX8_readCar_118 rfl 1 rfl ?_
    refine g_iconst (v := 2) dX8_readCar_119 (by decide) ?_
    refine g_iadd dX8_readCar_120 ?_
    obtain ⟨e5, e6, K⟩ := K
    refine g_iald dX8_readCar_121 e5 e6 ?_
    refine g_if_le (tgt := 129) dX8_readCar_122 (by decide) (fun c7 => ?_) (fun c7 => ?_)
    · replace K := K.1 c7
      exact K
    · replace K := K.2 c7
      refine g_aload_n dX8_readCar_125 rfl 0 rfl ?_
      obtain ⟨q8, C9, K⟩ := K
      refine g_callV (M' := mX8_stepOn) (b := a0) (As := []) (rest := []) (rc' := rc) (rs' := rs) dX8_readCar_126 bw_1341 bw_1343 bs_40 bw_9 bw_1344 ⟨by decide +kernel, by decide +kernel, show (parseMethodDescriptor mX8_stepOn.1.desc).map (fun d => d.parameters.length) = some 0 by decide +kernel⟩ (by decide) (by decide) (Nat.le_of_ble_eq_true rfl) fc_8 (by decide) rfl e1 C9 (Nat.le_of_eq (Nat.add_zero _)) (Nat.le_of_eq (Nat.add_zero _)) (fun _ _ h => h) ?_
      rintro _ h10 ⟨rfl, K1⟩ -
      replace K := K h10 K1
      show Gm l x mX8_readCar 7 129 [(0, .ref a0), (1, .int x1)] [] h10 rc rs n0 Q X
      exact K
set_option maxRecDepth 20000 in
set_option maxHeartbeats 4000000 in
theorem wX8_readCar_129 {l : Launch} {x : CX} {a0 : Nat} {x1 : Int32} {h : PH} {rc rs n0 : Nat} {Q : Option Value → PH → Prop} {X : String → PH → Prop}
    (K : ((hK h a0).1 = 8) ∧ ∃ b2, (hR h a0 5 = some b2) ∧ ((hK h b2).1 = 100) ∧ (vp_in 1 (hK h b2).2) ∧ (vp_in 1 (hK h b2).2) ∧ Q none (sI h b2 (Int32.toNatClampNeg 1) ((hI h b2 (Int32.toNatClampNeg 1)) + 1))) :
    Gm l x mX8_readCar 7 129 [(0, .ref a0), (1, .int x1)] [] h rc rs n0 Q X := by
  refine g_aload_n dX8_readCar_129 rfl 0 rfl ?_
  obtain ⟨e1, b2, e3, K⟩ := K
  refine g_get (c := 8) (k := 5) (v := .ref b2) dX8_readCar_130 fc_8 (by decide) (by decide) bw_1203 (congrArg pr e3) e1 ?_
  refine g_iconst (v := 1) dX8_readCar_133 (by decide) ?_
  refine g_dup2 dX8_readCar_134 rfl rfl ?_
  obtain ⟨e4, e5, K⟩ := K
  refine g_iald dX8_readCar_135 e4 e5 ?_
  refine g_iconst (v := 1) dX8_readCar_136 (by decide) ?_
  refine g_iadd dX8_readCar_137 ?_
  obtain ⟨e6, K⟩ := K
  refine g_iast dX8_readCar_138 e4 e6 ?_
  exact g_vret dX8_readCar_139 rfl K
set_option maxRecDepth 20000 in
set_option maxHeartbeats 4000000 in
theorem wX8_readRider_0 {l : Launch} {x : CX} {a0 : Nat} {h : PH} {rc rs n0 : Nat} {Q : Option Value → PH → Prop} {X : String → PH → Prop}
    (K : ((hK h a0).1 = 8) ∧ ∃ b2, (hR h a0 5 = some b2) ∧ ((hK h b2).1 = 100) ∧ (vp_in 2 (hK h b2).2) ∧ ((¬ (hI h b2 (Int32.toNatClampNeg 2)) = 20 → Gm l x mX8_readRider 7 16 [(0, .ref a0)] [] h rc rs n0 Q X) ∧ ((hI h b2 (Int32.toNatClampNeg 2)) = 20 → ∃ (q7 : PH → Prop), CV l x mX8_wrong 0 0 0 [.ref a0, .int 2] h q7 ∧ ∀ (h9 : PH), q7 h9 → Gm l x mX8_readRider 7 16 [(0, .ref a0)] [] h9 rc rs n0 Q X))) :
    Gm l x mX8_readRider 7 0 [(0, .ref a0)] [] h rc rs n0 Q X := by
  refine g_aload_n dX8_readRider_0 rfl 0 rfl ?_
  obtain ⟨e1, b2, e3, K⟩ := K
  refine g_get (c := 8) (k := 5) (v := .ref b2) dX8_readRider_1 fc_8 (by decide) (by decide) bw_1203 (congrArg pr e3) e1 ?_
  refine g_iconst (v := 2) dX8_readRider_4 (by decide) ?_
  obtain ⟨e4, e5, K⟩ := K
  refine g_iald dX8_readRider_5 e4 e5 ?_
  refine g_bipush (v := 20) dX8_readRider_6 (by decide) ?_
  refine g_icmp_ne (tgt := 16) dX8_readRider_8 (by decide) (fun c6 => ?_) (fun c6 => ?_)
  · replace K := K.1 c6
    exact K
  · replace K := K.2 c6
    refine g_aload_n dX8_readRider_11 rfl 0 rfl ?_
    refine g_iconst (v := 2) dX8_readRider_12 (by decide) ?_
    obtain ⟨q7, C8, K⟩ := K
    refine g_callV (M' := mX8_wrong) (b := a0) (As := [.int 2]) (rest := []) (rc' := rc) (rs' := rs) dX8_readRider_13 bw_1371 bw_1373 bs_45 bw_9 bw_1374 ⟨by decide +kernel, by decide +kernel, show (parseMethodDescriptor mX8_wrong.1.desc).map (fun d => d.parameters.length) = some 1 by decide +kernel⟩ (by decide) (by decide) (Nat.le_of_ble_eq_true rfl) fc_8 (by decide) rfl e1 C8 (Nat.le_of_eq (Nat.add_zero _)) (Nat.le_of_eq (Nat.add_zero _)) (fun _ _ h => h) ?_
    rintro _ h9 ⟨rfl, K1⟩ -
    replace K := K h9 K1
    show Gm l x mX8_readRider 7 16 [(0, .ref a0)] [] h9 rc rs n0 Q X
    exact K
set_option maxRecDepth 20000 in
set_option maxHeartbeats 4000000 in
theorem wX8_readRider_16 {l : Launch} {x : CX} {a0 : Nat} {h : PH} {rc rs n0 : Nat} {Q : Option Value → PH → Prop} {X : String → PH → Prop}
    (K : ((hK h a0).1 = 8) ∧ (((hI h a0 18) = 0 → ∃ (q3 : PH → Prop), CV l x mX8_stepOn 1 0 0 [.ref a0] h q3 ∧ ∀ (h5 : PH), q3 h5 → ((hK h5 a0).1 = 8) ∧ ∃ b7, (hR h5 a0 5 = some b7) ∧ ((hK h5 b7).1 = 100) ∧ (vp_in 2 (hK h5 b7).2) ∧ ∃ b11, (hR h5 a0 9 = some b11) ∧ ∃ (q13 : Int32 → PH → Prop), CI l x mX8_readNumber 2 0 0 [.ref a0, .int 0, .int 99] h5 q13 ∧ ∀ (r16 : Int32) (h15 : PH), q13 r16 h15 → ((hK h15 b11).1 = 100) ∧ (vp_in ((4 * (hI h5 b7 (Int32.toNatClampNeg 2))) + 1) (hK h15 b11).2) ∧ Gm l x mX8_readRider 7 52 [(0, .ref a0), (1, .int (4 * (hI h5 b7 (Int32.toNatClampNeg 2))))] [] (sI h15 b11 ((4 * (hI h5 b7 (Int32.toNatClampNeg 2))) + 1).toNatClampNeg r16) rc rs n0 Q X) ∧ (¬ (hI h a0 18) = 0 → Q none h))) :
    Gm l x mX8_readRider 7 16 [(0, .ref a0)] [] h rc rs n0 Q X := by
  refine g_aload_n dX8_readRider_16 rfl 0 rfl ?_
  obtain ⟨e1, K⟩ := K
  refine g_get (c := 8) (k := 18) (v := .int (hI h a0 18)) dX8_readRider_17 fc_8 (by decide) (by decide) bw_1216 rfl e1 ?_
  refine g_if_eq (tgt := 24) dX8_readRider_20 (by decide) (fun c2 => ?_) (fun c2 => ?_)
  · replace K := K.1 c2
    refine g_aload_n dX8_readRider_24 rfl 0 rfl ?_
    obtain ⟨q3, C4, K⟩ := K
    refine g_callV (M' := mX8_stepOn) (b := a0) (As := []) (rest := []) (rc' := rc) (rs' := rs) dX8_readRider_25 bw_1341 bw_1343 bs_40 bw_9 bw_1344 ⟨by decide +kernel, by decide +kernel, show (parseMethodDescriptor mX8_stepOn.1.desc).map (fun d => d.parameters.length) = some 0 by decide +kernel⟩ (by decide) (by decide) (Nat.le_of_ble_eq_true rfl) fc_8 (by decide) rfl e1 C4 (Nat.le_of_eq (Nat.add_zero _)) (Nat.le_of_eq (Nat.add_zero _)) (fun _ _ h => h) ?_
    rintro _ h5 ⟨rfl, K1⟩ -
    replace K := K h5 K1
    show Gm l x mX8_readRider 7 28 [(0, .ref a0)] [] h5 rc rs n0 Q X
    refine g_iconst (v := 4) dX8_readRider_28 (by decide) ?_
    refine g_aload_n dX8_readRider_29 rfl 0 rfl ?_
    obtain ⟨e6, b7, e8, K⟩ := K
    refine g_get (c := 8) (k := 5) (v := .ref b7) dX8_readRider_30 fc_8 (by decide) (by decide) bw_1203 (congrArg pr e8) e6 ?_
    refine g_iconst (v := 2) dX8_readRider_33 (by decide) ?_
    obtain ⟨e9, e10, K⟩ := K
    refine g_iald dX8_readRider_34 e9 e10 ?_
    refine g_imul dX8_readRider_35 ?_
    refine g_istore_n (lv' := [(0, .ref a0), (1, .int (4 * (hI h5 b7 (Int32.toNatClampNeg 2))))]) dX8_readRider_36 rfl (by decide) rfl ?_
    refine g_aload_n dX8_readRider_37 rfl 0 rfl ?_
    obtain ⟨b11, e12, K⟩ := K
    refine g_get (c := 8) (k := 9) (v := .ref b11) dX8_readRider_38 fc_8 (by decide) (by decide) bw_1207 (congrArg pr e12) e6 ?_
    refine g_iload_n dX8_readRider_41 rfl 1 rfl ?_
    refine g_iconst (v := 1) dX8_readRider_42 (by decide) ?_
    refine g_iadd dX8_readRider_43 ?_
    refine g_aload_n dX8_readRider_44 rfl 0 rfl ?_
    refine g_iconst (v := 0) dX8_readRider_45 (by decide) ?_
    refine g_bipush (v := 99) dX8_readRider_46 (by decide) ?_
    obtain ⟨q13, C14, K⟩ := K
    refine g_callV (M' := mX8_readNumber) (b := a0) (As := [.int 0, .int 99]) (rest := [.int ((4 * (hI h5 b7 (Int32.toNatClampNeg 2))) + 1), .ref b11]) (rc' := rc) (rs' := rs) dX8_readRider_48 bw_1387 bw_1389 bs_49 bw_9 bw_1390 ⟨by decide +kernel, by decide +kernel, show (parseMethodDescriptor mX8_readNumber.1.desc).map (fun d => d.parameters.length) = some 2 by decide +kernel⟩ (by decide) (by decide) (Nat.le_of_ble_eq_true rfl) fc_8 (by decide) rfl e6 C14 (Nat.le_of_eq (Nat.add_zero _)) (Nat.le_of_eq (Nat.add_zero _)) (fun _ _ h => h) ?_
    rintro _ h15 ⟨r16, rfl, K1⟩ -
    replace K := K r16 h15 K1
    show Gm l x mX8_readRider 7 51 [(0, .ref a0), (1, .int (4 * (hI h5 b7 (Int32.toNatClampNeg 2))))] [.int r16, .int ((4 * (hI h5 b7 (Int32.toNatClampNeg 2))) + 1), .ref b11] h15 rc rs n0 Q X
    obtain ⟨e17, e18, K⟩ := K
    refine g_iast dX8_readRider_51 e17 e18 ?_
    exact K
  · replace K := K.2 c2
    exact g_vret dX8_readRider_23 rfl K
set_option maxRecDepth 20000 in
set_option maxHeartbeats 4000000 in
theorem wX8_readRider_52 {l : Launch} {x : CX} {a0 : Nat} {x1 : Int32} {h : PH} {rc rs n0 : Nat} {Q : Option Value → PH → Prop} {X : String → PH → Prop}
    (K : ((hK h a0).1 = 8) ∧ ∃ b2, (hR h a0 9 = some b2) ∧ ∃ (q4 : Int32 → PH → Prop), CI l x mX8_floorNow 2 0 0 [.ref a0] h q4 ∧ ∀ (r7 : Int32) (h6 : PH), q4 r7 h6 → ((hK h6 b2).1 = 100) ∧ (vp_in (x1 + 2) (hK h6 b2).2) ∧ ((hK h6 a0).1 = 8) ∧ ((¬ (hI (sI h6 b2 (x1 + 2).toNatClampNeg r7) a0 18) = 0 → Gm l x mX8_readRider 7 75 [(0, .ref a0), (1, .int x1)] [] (sI h6 b2 (x1 + 2).toNatClampNeg r7) rc rs n0 Q X) ∧ ((hI (sI h6 b2 (x1 + 2).toNatClampNeg r7) a0 18) = 0 → ∃ (q12 : PH → Prop), CV l x mX8_stepOn 1 0 0 [.ref a0] (sI h6 b2 (x1 + 2).toNatClampNeg r7) q12 ∧ ∀ (h14 : PH), q12 h14 → Gm l x mX8_readRider 7 75 [(0, .ref a0), (1, .int x1)] [] h14 rc rs n0 Q X))) :
    Gm l x mX8_readRider 7 52 [(0, .ref a0), (1, .int x1)] [] h rc rs n0 Q X := by
  refine g_aload_n dX8_readRider_52 rfl 0 rfl ?_
  obtain ⟨e1, b2, e3, K⟩ := K
  refine g_get (c := 8) (k := 9) (v := .ref b2) dX8_readRider_53 fc_8 (by decide) (by decide) bw_1207 (congrArg pr e3) e1 ?_
  refine g_iload_n dX8_readRider_56 rfl 1 rfl ?_
  refine g_iconst (v := 2) dX8_readRider_57 (by decide) ?_
  refine g_iadd dX8_readRider_58 ?_
  refine g_aload_n dX8_readRider_59 rfl 0 rfl ?_
  obtain ⟨q4, C5, K⟩ := K
  refine g_callV (M' := mX8_floorNow) (b := a0) (As := []) (rest := [.int (x1 + 2), .ref b2]) (rc' := rc) (rs' := rs) dX8_readRider_60 bw_1379 bw_1381 bs_47 bw_9 bw_1382 ⟨by decide +kernel, by decide +kernel, show (parseMethodDescriptor mX8_floorNow.1.desc).map (fun d => d.parameters.length) = some 0 by decide +kernel⟩ (by decide) (by decide) (Nat.le_of_ble_eq_true rfl) fc_8 (by decide) rfl e1 C5 (Nat.le_of_eq (Nat.add_zero _)) (Nat.le_of_eq (Nat.add_zero _)) (fun _ _ h => h) ?_
  rintro _ h6 ⟨r7, rfl, K1⟩ -
  replace K := K r7 h6 K1
  show Gm l x mX8_readRider 7 63 [(0, .ref a0), (1, .int x1)] [.int r7, .int (x1 + 2), .ref b2] h6 rc rs n0 Q X
  obtain ⟨e8, e9, K⟩ := K
  refine g_iast dX8_readRider_63 e8 e9 ?_
  refine g_aload_n dX8_readRider_64 rfl 0 rfl ?_
  obtain ⟨e10, K⟩ := K
  refine g_get (c := 8) (k := 18) (v := .int (hI (sI h6 b2 (x1 + 2).toNatClampNeg r7) a0 18)) dX8_readRider_65 fc_8 (by decide) (by decide) bw_1216 rfl (kkI e10) ?_
  refine g_if_ne (tgt := 75) dX8_readRider_68 (by decide) (fun c11 => ?_) (fun c11 => ?_)
  · replace K := K.1 c11
    exact K
  · replace K := K.2 c11
    refine g_aload_n dX8_readRider_71 rfl 0 rfl ?_
    obtain ⟨q12, C13, K⟩ := K
    refine g_callV (M' := mX8_stepOn) (b := a0) (As := []) (rest := []) (rc' := rc) (rs' := rs) dX8_readRider_72 bw_1341 bw_1343 bs_40 bw_9 bw_1344 ⟨by decide +kernel, by decide +kernel, show (parseMethodDescriptor mX8_stepOn.1.desc).map (fun d => d.parameters.length) = some 0 by decide +kernel⟩ (by decide) (by decide) (Nat.le_of_ble_eq_true rfl) fc_8 (by decide) rfl (kkI e10) C13 (Nat.le_of_eq (Nat.add_zero _)) (Nat.le_of_eq (Nat.add_zero _)) (fun _ _ h => h) ?_
    rintro _ h14 ⟨rfl, K1⟩ -
    replace K := K h14 K1
    show Gm l x mX8_readRider 7 75 [(0, .ref a0), (1, .int x1)] [] h14 rc rs n0 Q X
    exact K
set_option maxRecDepth 20000 in
set_option maxHeartbeats 4000000 in
theorem wX8_readRider_75 {l : Launch} {x : CX} {a0 : Nat} {x1 : Int32} {h : PH} {rc rs n0 : Nat} {Q : Option Value → PH → Prop} {X : String → PH → Prop}
    (K : ((hK h a0).1 = 8) ∧ ∃ b2, (hR h a0 9 = some b2) ∧ ∃ (q4 : Int32 → PH → Prop), CI l x mX8_floorNow 2 0 0 [.ref a0] h q4 ∧ ∀ (r7 : Int32) (h6 : PH), q4 r7 h6 → ((hK h6 b2).1 = 100) ∧ (vp_in (x1 + 3) (hK h6 b2).2) ∧ ((hK h6 a0).1 = 8) ∧ ((¬ (hI (sI h6 b2 (x1 + 3).toNatClampNeg r7) a0 18) = 0 → Gm l x mX8_readRider 7 118 [(0, .ref a0), (1, .int x1)] [] (sI h6 b2 (x1 + 3).toNatClampNeg r7) rc rs n0 Q X) ∧ ((hI (sI h6 b2 (x1 + 3).toNatClampNeg r7) a0 18) = 0 → ∃ b12, (hR h6 a0 9 = some b12) ∧ ((hK h6 b12).1 = 100) ∧ (vp_in (x1 + 3) (hK h6 b12).2) ∧ (vp_in (x1 + 2) (hK h6 b12).2) ∧ ((¬ (hI (sI h6 b2 (x1 + 3).toNatClampNeg r7) b12 (x1 + 3).toNatClampNeg) = (hI (sI h6 b2 (x1 + 3).toNatClampNeg r7) b12 (x1 + 2).toNatClampNeg) → Gm l x mX8_readRider 7 118 [(0, .ref a0), (1, .int x1)] [] (sI h6 b2 (x1 + 3).toNatClampNeg r7) rc rs n0 Q X) ∧ ((hI (sI h6 b2 (x1 + 3).toNatClampNeg r7) b12 (x1 + 3).toNatClampNeg) = (hI (sI h6 b2 (x1 + 3).toNatClampNeg r7) b12 (x1 + 2).toNatClampNeg) → ∃ (q18 : PH → Prop), CV l x mX8_wrong 0 0 0 [.ref a0, .int 5] (sI h6 b2 (x1 + 3).toNatClampNeg r7) q18 ∧ ∀ (h20 : PH), q18 h20 → Gm l x mX8_readRider 7 118 [(0, .ref a0), (1, .int x1)] [] h20 rc rs n0 Q X))))) :
    Gm l x mX8_readRider 7 75 [(0, .ref a0), (1, .int x1)] [] h rc rs n0 Q X := by
  refine g_aload_n dX8_readRider_75 rfl 0 rfl ?_
  obtain ⟨e1, b2, e3, K⟩ := K
  refine g_get (c := 8) (k := 9) (v := .ref b2) dX8_readRider_76 fc_8 (by decide) (by decide) bw_1207 (congrArg pr e3) e1 ?_
  refine g_iload_n dX8_readRider_79 rfl 1 rfl ?_
  refine g_iconst (v := 3) dX8_readRider_80 (by decide) ?_
  refine g_iadd dX8_readRider_81 ?_
  refine g_aload_n dX8_readRider_82 rfl 0 rfl ?_
  obtain ⟨q4, C5, K⟩ := K
  refine g_callV (M' := mX8_floorNow) (b := a0) (As := []) (rest := [.int (x1 + 3), .ref b2]) (rc' := rc) (rs' := rs) dX8_readRider_83 bw_1379 bw_1381 bs_47 bw_9 bw_1382 ⟨by decide +kernel, by decide +kernel, show (parseMethodDescriptor mX8_floorNow.1.desc).map (fun d => d.parameters.length) = some 0 by decide +kernel⟩ (by decide) (by decide) (Nat.le_of_ble_eq_true rfl) fc_8 (by decide) rfl e1 C5 (Nat.le_of_eq (Nat.add_zero _)) (Nat.le_of_eq (Nat.add_zero _)) (fun _ _ h => h) ?_
  rintro _ h6 ⟨r7, rfl, K1⟩ -
  replace K := K r7 h6 K1
  show Gm l x mX8_readRider 7 86 [(0, .ref a0), (1, .int x1)] [.int r7, .int (x1 + 3), .ref b2] h6 rc rs n0 Q X
  obtain ⟨e8, e9, K⟩ := K
  refine g_iast dX8_readRider_86 e8 e9 ?_
  refine g_aload_n dX8_readRider_87 rfl 0 rfl ?_
  obtain ⟨e10, K⟩ := K
  refine g_get (c := 8) (k := 18) (v := .int (hI (sI h6 b2 (x1 + 3).toNatClampNeg r7) a0 18)) dX8_readRider_88 fc_8 (by decide) (by decide) bw_1216 rfl (kkI e10) ?_
  refine g_if_ne (tgt := 118) dX8_readRider_91 (by decide) (fun c11 => ?_) (fun c11 => ?_)
  · replace K := K.1 c11
    exact K
  · replace K := K.2 c11
    refine g_aload_n dX8_readRider_94 rfl 0 rfl ?_
    obtain ⟨b12, e13, K⟩ := K
    refine g_get (c := 8) (k := 9) (v := .ref b12) dX8_readRider_95 fc_8 (by decide) (by decide) bw_1207 (congrArg pr (krI e13)) (kkI e10) ?_
    refine g_iload_n dX8_readRider_98 rfl 1 rfl ?_
    refine g_iconst (v := 3) dX8_readRider_99 (by decide) ?_
    refine g_iadd dX8_readRider_100 ?_
    obtain ⟨e14, e15, K⟩ := K
    refine g_iald dX8_readRider_101 (kkI e14) (kvI e15) ?_
    refine g_aload_n dX8_readRider_102 rfl 0 rfl ?_
    refine g_get (c := 8) (k := 9) (v := .ref b12) dX8_readRider_103 fc_8 (by decide) (by decide) bw_1207 (congrArg pr (krI e13)) (kkI e10) ?_
    refine g_iload_n dX8_readRider_106 rfl 1 rfl ?_
    refine g_iconst (v := 2) dX8_readRider_107 (by decide) ?_
    refine g_iadd dX8_readRider_108 ?_
    obtain ⟨e16, K⟩ := K
    refine g_iald dX8_readRider_109 (kkI e14) (kvI e16) ?_
    refine g_icmp_ne (tgt := 118) dX8_readRider_110 (by decide) (fun c17 => ?_) (fun c17 => ?_)
    · replace K := K.1 c17
      exact K
    · replace K := K.2 c17
      refine g_aload_n dX8_readRider_113 rfl 0 rfl ?_
      refine g_iconst (v := 5) dX8_readRider_114 (by decide) ?_
      obtain ⟨q18, C19, K⟩ := K
      refine g_callV (M' := mX8_wrong) (b := a0) (As := [.int 5]) (rest := []) (rc' := rc) (rs' := rs) dX8_readRider_115 bw_1371 bw_1373 bs_45 bw_9 bw_1374 ⟨by decide +kernel, by decide +kernel, show (parseMethodDescriptor mX8_wrong.1.desc).map (fun d => d.parameters.length) = some 1 by decide +kernel⟩ (by decide) (by decide) (Nat.le_of_ble_eq_true rfl) fc_8 (by decide) rfl (kkI e10) C19 (Nat.le_of_eq (Nat.add_zero _)) (Nat.le_of_eq (Nat.add_zero _)) (fun _ _ h => h) ?_
      rintro _ h20 ⟨rfl, K1⟩ -
      replace K := K h20 K1
      show Gm l x mX8_readRider 7 118 [(0, .ref a0), (1, .int x1)] [] h20 rc rs n0 Q X
      exact K
set_option maxRecDepth 20000 in
set_option maxHeartbeats 4000000 in
theorem wX8_readRider_118 {l : Launch} {x : CX} {a0 : Nat} {x1 : Int32} {h : PH} {rc rs n0 : Nat} {Q : Option Value → PH → Prop} {X : String → PH → Prop}
    (K : ((hK h a0).1 = 8) ∧ ((¬ (hI h a0 18) = 0 → Gm l x mX8_readRider 7 129 [(0, .ref a0), (1, .int x1)] [] h rc rs n0 Q X) ∧ ((hI h a0 18) = 0 → ∃ (q3 : PH → Prop), CV l x mX8_stepOn 1 0 0 [.ref a0] h q3 ∧ ∀ (h5 : PH), q3 h5 → Gm l x mX8_readRider 7 129 [(0, .ref a0), (1, .int x1)] [] h5 rc rs n0 Q X))) :
    Gm l x mX8_readRider 7 118 [(0, .ref a0), (1, .int x1)] [] h rc rs n0 Q X := by
  refine g_aload_n dX8_readRider_118 rfl 0 rfl ?_
  obtain ⟨e1, K⟩ := K
  refine g_get (c := 8) (k := 18) (v := .int (hI h a0 18)) dX8_readRider_119 fc_8 (by decide) (by decide) bw_1216 rfl e1 ?_
  refine g_if_ne (tgt := 129) dX8_readRider_122 (by decide) (fun c2 => ?_) (fun c2 => ?_)
  · replace K := K.1 c2
    exact K
  · replace K := K.2 c2
    refine g_aload_n dX8_readRider_125 rfl 0 rfl ?_
    obtain ⟨q3, C4, K⟩ := K
    refine g_callV (M' := mX8_stepOn) (b := a0) (As := []) (rest := []) (rc' := rc) (rs' := rs) dX8_readRider_126 bw_1341 bw_1343 bs_40 bw_9 bw_1344 ⟨by decide +kernel, by decide +kernel, show (parseMethodDescriptor mX8_stepOn.1.desc).map (fun d => d.parameters.length) = some 0 by decide +kernel⟩ (by decide) (by decide) (Nat.le_of_ble_eq_true rfl) fc_8 (by decide) rfl e1 C4 (Nat.le_of_eq (Nat.add_zero _)) (Nat.le_of_eq (Nat.add_zero _)) (fun _ _ h => h) ?_
    rintro _ h5 ⟨rfl, K1⟩ -
    replace K := K h5 K1
    show Gm l x mX8_readRider 7 129 [(0, .ref a0), (1, .int x1)] [] h5 rc rs n0 Q X
    exact K
set_option maxRecDepth 20000 in
set_option maxHeartbeats 4000000 in
theorem wX8_readRider_129 {l : Launch} {x : CX} {a0 : Nat} {x1 : Int32} {h : PH} {rc rs n0 : Nat} {Q : Option Value → PH → Prop} {X : String → PH → Prop}
    (K : ((hK h a0).1 = 8) ∧ ∃ b2, (hR h a0 9 = some b2) ∧ (TxtOk x RX8 184 "parcel" 19) ∧ ∃ (q5 : Int32 → PH → Prop), CI l x mX8_is 6 0 0 [.ref a0, .retAddr 19] h q5 ∧ ∀ (r8 : Int32) (h7 : PH), q5 r8 h7 → ((hK h7 b2).1 = 100) ∧ (vp_in x1 (hK h7 b2).2) ∧ Gm l x mX8_readRider 7 149 [(0, .ref a0), (1, .int x1)] [] (sI h7 b2 x1.toNatClampNeg (if r8 = 0 then 1 else 2 : Int32)) rc rs n0 Q X) :
    Gm l x mX8_readRider 7 129 [(0, .ref a0), (1, .int x1)] [] h rc rs n0 Q X := by
  refine g_aload_n dX8_readRider_129 rfl 0 rfl ?_
  obtain ⟨e1, b2, e3, K⟩ := K
  refine g_get (c := 8) (k := 9) (v := .ref b2) dX8_readRider_130 fc_8 (by decide) (by decide) bw_1207 (congrArg pr e3) e1 ?_
  refine g_iload_n dX8_readRider_133 rfl 1 rfl ?_
  refine g_aload_n dX8_readRider_134 rfl 0 rfl ?_
  obtain ⟨z4, K⟩ := K
  refine g_ldcS (j := 19) dX8_readRider_135 z4 ?_
  obtain ⟨q5, C6, K⟩ := K
  refine g_callV (M' := mX8_is) (b := a0) (As := [.retAddr 19]) (rest := [.int x1, .ref b2]) (rc' := rc) (rs' := rs) dX8_readRider_137 bw_1365 bw_1367 bs_44 bw_9 bw_1368 ⟨by decide +kernel, by decide +kernel, show (parseMethodDescriptor mX8_is.1.desc).map (fun d => d.parameters.length) = some 1 by decide +kernel⟩ (by decide) (by decide) (Nat.le_of_ble_eq_true rfl) fc_8 (by decide) rfl e1 C6 (Nat.le_of_eq (Nat.add_zero _)) (Nat.le_of_eq (Nat.add_zero _)) (fun _ _ h => h) ?_
  rintro _ h7 ⟨r8, rfl, K1⟩ -
  replace K := K r8 h7 K1
  show Gm l x mX8_readRider 7 140 [(0, .ref a0), (1, .int x1)] [.int r8, .int x1, .ref b2] h7 rc rs n0 Q X
  have KJ : Gm l x mX8_readRider 7 148 [(0, .ref a0), (1, .int x1)] [.int (if r8 = 0 then 1 else 2 : Int32), .int x1, .ref b2] h7 rc rs n0 Q X := by
    obtain ⟨e10, e11, K⟩ := K
    refine g_iast dX8_readRider_148 e10 e11 ?_
    exact K
  refine g_if_eq (tgt := 147) dX8_readRider_140 (by decide) (fun c9 => ?_) (fun c9 => ?_)
  · refine g_iconst (v := 1) dX8_readRider_147 (by decide) ?_
    first | (simp only [if_pos c9] at KJ; exact KJ) | (simp only [if_pos c9, ite_true, ite_false, eq_self] at KJ; exact KJ) | (simp only [if_pos c9] at KJ ⊢; exact KJ) | exact KJ
  · refine g_iconst (v := 2) dX8_readRider_143 (by decide) ?_
    refine g_goto (tgt := 148) dX8_readRider_144 (by decide) ?_
    first | (simp only [if_neg c9] at KJ; exact KJ) | (simp only [if_neg c9, ite_true, ite_false, eq_self] at KJ; exact KJ) | (simp only [if_neg c9] at KJ ⊢; exact KJ) | exact KJ
set_option maxRecDepth 20000 in
set_option maxHeartbeats 4000000 in
theorem wX8_readRider_149 {l : Launch} {x : CX} {a0 : Nat} {x1 : Int32} {h : PH} {rc rs n0 : Nat} {Q : Option Value → PH → Prop} {X : String → PH → Prop}
    (K : ((hK h a0).1 = 8) ∧ ((¬ (hI h a0 18) = 0 → Gm l x mX8_readRider 7 170 [(0, .ref a0), (1, .int x1)] [] h rc rs n0 Q X) ∧ ((hI h a0 18) = 0 → ∃ b3, (hR h a0 9 = some b3) ∧ ((hK h b3).1 = 100) ∧ (vp_in x1 (hK h b3).2) ∧ ((¬ (hI h b3 x1.toNatClampNeg) = 2 → Gm l x mX8_readRider 7 170 [(0, .ref a0), (1, .int x1)] [] h rc rs n0 Q X) ∧ ((hI h b3 x1.toNatClampNeg) = 2 → ∃ (q8 : PH → Prop), CV l x mX8_stepOn 1 0 0 [.ref a0] h q8 ∧ ∀ (h10 : PH), q8 h10 → Gm l x mX8_readRider 7 170 [(0, .ref a0), (1, .int x1)] [] h10 rc rs n0 Q X))))) :
    Gm l x mX8_readRider 7 149 [(0, .ref a0), (1, .int x1)] [] h rc rs n0 Q X := by
  refine g_aload_n dX8_readRider_149 rfl 0 rfl ?_
  obtain ⟨e1, K⟩ := K
  refine g_get (c := 8) (k := 18) (v := .int (hI h a0 18)) dX8_readRider_150 fc_8 (by decide) (by decide) bw_1216 rfl e1 ?_
  refine g_if_ne (tgt := 170) dX8_readRider_153 (by decide) (fun c2 => ?_) (fun c2 => ?_)
  · replace K := K.1 c2
    exact K
  · replace K := K.2 c2
    refine g_aload_n dX8_readRider_156 rfl 0 rfl ?_
    obtain ⟨b3, e4, K⟩ := K
    refine g_get (c := 8) (k := 9) (v := .ref b3) dX8_readRider_157 fc_8 (by decide) (by decide) bw_1207 (congrArg pr e4) e1 ?_
    refine g_iload_n dX8_readRider_160 rfl 1 rfl ?_
    obtain ⟨e5, e6, K⟩ := K
    refine g_iald dX8_readRider_161 e5 e6 ?_
    refine g_iconst (v := 2) dX8_readRider_162 (by decide) ?_
    refine g_icmp_ne (tgt := 170) dX8_readRider_163 (by decide) (fun c7 => ?_) (fun c7 => ?_)
    · replace K := K.1 c7
      exact K
    · replace K := K.2 c7
      refine g_aload_n dX8_readRider_166 rfl 0 rfl ?_
      obtain ⟨q8, C9, K⟩ := K
      refine g_callV (M' := mX8_stepOn) (b := a0) (As := []) (rest := []) (rc' := rc) (rs' := rs) dX8_readRider_167 bw_1341 bw_1343 bs_40 bw_9 bw_1344 ⟨by decide +kernel, by decide +kernel, show (parseMethodDescriptor mX8_stepOn.1.desc).map (fun d => d.parameters.length) = some 0 by decide +kernel⟩ (by decide) (by decide) (Nat.le_of_ble_eq_true rfl) fc_8 (by decide) rfl e1 C9 (Nat.le_of_eq (Nat.add_zero _)) (Nat.le_of_eq (Nat.add_zero _)) (fun _ _ h => h) ?_
      rintro _ h10 ⟨rfl, K1⟩ -
      replace K := K h10 K1
      show Gm l x mX8_readRider 7 170 [(0, .ref a0), (1, .int x1)] [] h10 rc rs n0 Q X
      exact K
set_option maxRecDepth 20000 in
set_option maxHeartbeats 4000000 in
theorem wX8_readRider_170 {l : Launch} {x : CX} {a0 : Nat} {x1 : Int32} {h : PH} {rc rs n0 : Nat} {Q : Option Value → PH → Prop} {X : String → PH → Prop}
    (K : ((hK h a0).1 = 8) ∧ ∃ b2, (hR h a0 5 = some b2) ∧ ((hK h b2).1 = 100) ∧ (vp_in 2 (hK h b2).2) ∧ (vp_in 2 (hK h b2).2) ∧ Q none (sI h b2 (Int32.toNatClampNeg 2) ((hI h b2 (Int32.toNatClampNeg 2)) + 1))) :
    Gm l x mX8_readRider 7 170 [(0, .ref a0), (1, .int x1)] [] h rc rs n0 Q X := by
  refine g_aload_n dX8_readRider_170 rfl 0 rfl ?_
  obtain ⟨e1, b2, e3, K⟩ := K
  refine g_get (c := 8) (k := 5) (v := .ref b2) dX8_readRider_171 fc_8 (by decide) (by decide) bw_1203 (congrArg pr e3) e1 ?_
  refine g_iconst (v := 2) dX8_readRider_174 (by decide) ?_
  refine g_dup2 dX8_readRider_175 rfl rfl ?_
  obtain ⟨e4, e5, K⟩ := K
  refine g_iald dX8_readRider_176 e4 e5 ?_
  refine g_iconst (v := 1) dX8_readRider_177 (by decide) ?_
  refine g_iadd dX8_readRider_178 ?_
  obtain ⟨e6, K⟩ := K
  refine g_iast dX8_readRider_179 e4 e6 ?_
  exact g_vret dX8_readRider_180 rfl K
set_option maxRecDepth 20000 in
set_option maxHeartbeats 4000000 in
theorem wX8_readClause_0 {l : Launch} {x : CX} {a0 : Nat} {h : PH} {rc rs n0 : Nat} {Q : Option Value → PH → Prop} {X : String → PH → Prop}
    (K : ((hK h a0).1 = 8) ∧ ∃ (q1 : Int32 → PH → Prop), CI l x mX8_which 7 0 0 [.ref a0] h q1 ∧ ∀ (r5 : Int32) (h4 : PH), q1 r5 h4 → ((¬ r5 = (-1) → Gm l x mX8_readClause 8 15 [(0, .ref a0), (1, .int r5)] [] h4 rc rs n0 Q X) ∧ (r5 = (-1) → ((hK h4 a0).1 = 8) ∧ ∃ (q7 : PH → Prop), CV l x mX8_wrong 0 0 0 [.ref a0, .int 1] h4 q7 ∧ ∀ (h10 : PH), q7 h10 → Gm l x mX8_readClause 8 15 [(0, .ref a0), (1, .int r5)] [] h10 rc rs n0 Q X))) :
    Gm l x mX8_readClause 8 0 [(0, .ref a0)] [] h rc rs n0 Q X := by
  refine g_aload_n dX8_readClause_0 rfl 0 rfl ?_
  obtain ⟨e3, K⟩ := K
  obtain ⟨q1, C2, K⟩ := K
  refine g_callV (M' := mX8_which) (b := a0) (As := []) (rest := []) (rc' := rc) (rs' := rs) dX8_readClause_1 bw_1361 bw_1363 bs_43 bw_9 bw_1364 ⟨by decide +kernel, by decide +kernel, show (parseMethodDescriptor mX8_which.1.desc).map (fun d => d.parameters.length) = some 0 by decide +kernel⟩ (by decide) (by decide) (Nat.le_of_ble_eq_true rfl) fc_8 (by decide) rfl e3 C2 (Nat.le_of_eq (Nat.add_zero _)) (Nat.le_of_eq (Nat.add_zero _)) (fun _ _ h => h) ?_
  rintro _ h4 ⟨r5, rfl, K1⟩ -
  replace K := K r5 h4 K1
  show Gm l x mX8_readClause 8 4 [(0, .ref a0)] [.int r5] h4 rc rs n0 Q X
  refine g_istore_n (lv' := [(0, .ref a0), (1, .int r5)]) dX8_readClause_4 rfl (by decide) rfl ?_
  refine g_iload_n dX8_readClause_5 rfl 1 rfl ?_
  refine g_iconst (v := (-1)) dX8_readClause_6 (by decide) ?_
  refine g_icmp_ne (tgt := 15) dX8_readClause_7 (by decide) (fun c6 => ?_) (fun c6 => ?_)
  · replace K := K.1 c6
    exact K
  · replace K := K.2 c6
    refine g_aload_n dX8_readClause_10 rfl 0 rfl ?_
    refine g_iconst (v := 1) dX8_readClause_11 (by decide) ?_
    obtain ⟨e9, K⟩ := K
    obtain ⟨q7, C8, K⟩ := K
    refine g_callV (M' := mX8_wrong) (b := a0) (As := [.int 1]) (rest := []) (rc' := rc) (rs' := rs) dX8_readClause_12 bw_1371 bw_1373 bs_45 bw_9 bw_1374 ⟨by decide +kernel, by decide +kernel, show (parseMethodDescriptor mX8_wrong.1.desc).map (fun d => d.parameters.length) = some 1 by decide +kernel⟩ (by decide) (by decide) (Nat.le_of_ble_eq_true rfl) fc_8 (by decide) rfl e9 C8 (Nat.le_of_eq (Nat.add_zero _)) (Nat.le_of_eq (Nat.add_zero _)) (fun _ _ h => h) ?_
    rintro _ h10 ⟨rfl, K1⟩ -
    replace K := K h10 K1
    show Gm l x mX8_readClause 8 15 [(0, .ref a0), (1, .int r5)] [] h10 rc rs n0 Q X
    exact K
set_option maxRecDepth 20000 in
set_option maxHeartbeats 4000000 in
theorem wX8_readClause_15 {l : Launch} {x : CX} {a0 : Nat} {x1 : Int32} {h : PH} {rc rs n0 : Nat} {Q : Option Value → PH → Prop} {X : String → PH → Prop}
    (K : ((¬ x1 = 0 → ((x1 ≤ 2 → Gm l x mX8_readClause 8 46 [(0, .ref a0), (1, .int x1)] [] h rc rs n0 Q X) ∧ (¬ x1 ≤ 2 → ((hK h a0).1 = 8) ∧ ∃ b4, (hR h a0 5 = some b4) ∧ ((hK h b4).1 = 100) ∧ (vp_in x1 (hK h b4).2) ∧ (((hI h b4 x1.toNatClampNeg) = (-1) → Gm l x mX8_readClause 8 46 [(0, .ref a0), (1, .int x1)] [] h rc rs n0 Q X) ∧ (¬ (hI h b4 x1.toNatClampNeg) = (-1) → ∃ (q9 : PH → Prop), CV l x mX8_wrong 0 0 0 [.ref a0, .int 4] h q9 ∧ ∀ (h11 : PH), q9 h11 → Gm l x mX8_readClause 8 46 [(0, .ref a0), (1, .int x1)] [] h11 rc rs n0 Q X))))) ∧ (x1 = 0 → ((hK h a0).1 = 8) ∧ ((0 < (hI h a0 21) → ∃ (q14 : PH → Prop), CV l x mX8_wrong 0 0 0 [.ref a0, .int 4] h q14 ∧ ∀ (h16 : PH), q14 h16 → Gm l x mX8_readClause 8 46 [(0, .ref a0), (1, .int x1)] [] h16 rc rs n0 Q X) ∧ (¬ 0 < (hI h a0 21) → ((x1 ≤ 2 → Gm l x mX8_readClause 8 46 [(0, .ref a0), (1, .int x1)] [] h rc rs n0 Q X) ∧ (¬ x1 ≤ 2 → ∃ b18, (hR h a0 5 = some b18) ∧ ((hK h b18).1 = 100) ∧ (vp_in x1 (hK h b18).2) ∧ (((hI h b18 x1.toNatClampNeg) = (-1) → Gm l x mX8_readClause 8 46 [(0, .ref a0), (1, .int x1)] [] h rc rs n0 Q X) ∧ (¬ (hI h b18 x1.toNatClampNeg) = (-1) → ∃ (q23 : PH → Prop), CV l x mX8_wrong 0 0 0 [.ref a0, .int 4] h q23 ∧ ∀ (h25 : PH), q23 h25 → Gm l x mX8_readClause 8 46 [(0, .ref a0), (1, .int x1)] [] h25 rc rs n0 Q X))))))))) :
    Gm l x mX8_readClause 8 15 [(0, .ref a0), (1, .int x1)] [] h rc rs n0 Q X := by
  refine g_iload_n dX8_readClause_15 rfl 1 rfl ?_
  refine g_if_ne (tgt := 26) dX8_readClause_16 (by decide) (fun c1 => ?_) (fun c1 => ?_)
  · replace K := K.1 c1
    refine g_iload_n dX8_readClause_26 rfl 1 rfl ?_
    refine g_iconst (v := 2) dX8_readClause_27 (by decide) ?_
    refine g_icmp_le (tgt := 46) dX8_readClause_28 (by decide) (fun c2 => ?_) (fun c2 => ?_)
    · replace K := K.1 c2
      exact K
    · replace K := K.2 c2
      refine g_aload_n dX8_readClause_31 rfl 0 rfl ?_
      obtain ⟨e3, b4, e5, K⟩ := K
      refine g_get (c := 8) (k := 5) (v := .ref b4) dX8_readClause_32 fc_8 (by decide) (by decide) bw_1203 (congrArg pr e5) e3 ?_
      refine g_iload_n dX8_readClause_35 rfl 1 rfl ?_
      obtain ⟨e6, e7, K⟩ := K
      refine g_iald dX8_readClause_36 e6 e7 ?_
      refine g_iconst (v := (-1)) dX8_readClause_37 (by decide) ?_
      refine g_icmp_eq (tgt := 46) dX8_readClause_38 (by decide) (fun c8 => ?_) (fun c8 => ?_)
      · replace K := K.1 c8
        exact K
      · replace K := K.2 c8
        refine g_aload_n dX8_readClause_41 rfl 0 rfl ?_
        refine g_iconst (v := 4) dX8_readClause_42 (by decide) ?_
        obtain ⟨q9, C10, K⟩ := K
        refine g_callV (M' := mX8_wrong) (b := a0) (As := [.int 4]) (rest := []) (rc' := rc) (rs' := rs) dX8_readClause_43 bw_1371 bw_1373 bs_45 bw_9 bw_1374 ⟨by decide +kernel, by decide +kernel, show (parseMethodDescriptor mX8_wrong.1.desc).map (fun d => d.parameters.length) = some 1 by decide +kernel⟩ (by decide) (by decide) (Nat.le_of_ble_eq_true rfl) fc_8 (by decide) rfl e3 C10 (Nat.le_of_eq (Nat.add_zero _)) (Nat.le_of_eq (Nat.add_zero _)) (fun _ _ h => h) ?_
        rintro _ h11 ⟨rfl, K1⟩ -
        replace K := K h11 K1
        show Gm l x mX8_readClause 8 46 [(0, .ref a0), (1, .int x1)] [] h11 rc rs n0 Q X
        exact K
  · replace K := K.2 c1
    refine g_aload_n dX8_readClause_19 rfl 0 rfl ?_
    obtain ⟨e12, K⟩ := K
    refine g_get (c := 8) (k := 21) (v := .int (hI h a0 21)) dX8_readClause_20 fc_8 (by decide) (by decide) bw_1219 rfl e12 ?_
    refine g_if_gt (tgt := 41) dX8_readClause_23 (by decide) (fun c13 => ?_) (fun c13 => ?_)
    · replace K := K.1 c13
      refine g_aload_n dX8_readClause_41 rfl 0 rfl ?_
      refine g_iconst (v := 4) dX8_readClause_42 (by decide) ?_
      obtain ⟨q14, C15, K⟩ := K
      refine g_callV (M' := mX8_wrong) (b := a0) (As := [.int 4]) (rest := []) (rc' := rc) (rs' := rs) dX8_readClause_43 bw_1371 bw_1373 bs_45 bw_9 bw_1374 ⟨by decide +kernel, by decide +kernel, show (parseMethodDescriptor mX8_wrong.1.desc).map (fun d => d.parameters.length) = some 1 by decide +kernel⟩ (by decide) (by decide) (Nat.le_of_ble_eq_true rfl) fc_8 (by decide) rfl e12 C15 (Nat.le_of_eq (Nat.add_zero _)) (Nat.le_of_eq (Nat.add_zero _)) (fun _ _ h => h) ?_
      rintro _ h16 ⟨rfl, K1⟩ -
      replace K := K h16 K1
      show Gm l x mX8_readClause 8 46 [(0, .ref a0), (1, .int x1)] [] h16 rc rs n0 Q X
      exact K
    · replace K := K.2 c13
      refine g_iload_n dX8_readClause_26 rfl 1 rfl ?_
      refine g_iconst (v := 2) dX8_readClause_27 (by decide) ?_
      refine g_icmp_le (tgt := 46) dX8_readClause_28 (by decide) (fun c17 => ?_) (fun c17 => ?_)
      · replace K := K.1 c17
        exact K
      · replace K := K.2 c17
        refine g_aload_n dX8_readClause_31 rfl 0 rfl ?_
        obtain ⟨b18, e19, K⟩ := K
        refine g_get (c := 8) (k := 5) (v := .ref b18) dX8_readClause_32 fc_8 (by decide) (by decide) bw_1203 (congrArg pr e19) e12 ?_
        refine g_iload_n dX8_readClause_35 rfl 1 rfl ?_
        obtain ⟨e20, e21, K⟩ := K
        refine g_iald dX8_readClause_36 e20 e21 ?_
        refine g_iconst (v := (-1)) dX8_readClause_37 (by decide) ?_
        refine g_icmp_eq (tgt := 46) dX8_readClause_38 (by decide) (fun c22 => ?_) (fun c22 => ?_)
        · replace K := K.1 c22
          exact K
        · replace K := K.2 c22
          refine g_aload_n dX8_readClause_41 rfl 0 rfl ?_
          refine g_iconst (v := 4) dX8_readClause_42 (by decide) ?_
          obtain ⟨q23, C24, K⟩ := K
          refine g_callV (M' := mX8_wrong) (b := a0) (As := [.int 4]) (rest := []) (rc' := rc) (rs' := rs) dX8_readClause_43 bw_1371 bw_1373 bs_45 bw_9 bw_1374 ⟨by decide +kernel, by decide +kernel, show (parseMethodDescriptor mX8_wrong.1.desc).map (fun d => d.parameters.length) = some 1 by decide +kernel⟩ (by decide) (by decide) (Nat.le_of_ble_eq_true rfl) fc_8 (by decide) rfl e12 C24 (Nat.le_of_eq (Nat.add_zero _)) (Nat.le_of_eq (Nat.add_zero _)) (fun _ _ h => h) ?_
          rintro _ h25 ⟨rfl, K1⟩ -
          replace K := K h25 K1
          show Gm l x mX8_readClause 8 46 [(0, .ref a0), (1, .int x1)] [] h25 rc rs n0 Q X
          exact K
set_option maxRecDepth 20000 in
set_option maxHeartbeats 4000000 in
theorem wX8_readClause_46 {l : Launch} {x : CX} {a0 : Nat} {x1 : Int32} {h : PH} {rc rs n0 : Nat} {Q : Option Value → PH → Prop} {X : String → PH → Prop}
    (K : ((hK h a0).1 = 8) ∧ (((hI h a0 18) = 0 → ((¬ x1 = 1 → ((¬ x1 = 2 → ∃ (q5 : PH → Prop), CV l x mX8_stepOn 1 0 0 [.ref a0] h q5 ∧ ∀ (h7 : PH), q5 h7 → ((hK h7 a0).1 = 8) ∧ ∃ b9, (hR h7 a0 5 = some b9) ∧ ((¬ x1 = 0 → ((¬ x1 = 3 → ((¬ x1 = 4 → ((¬ x1 = 5 → ∃ (q15 : Int32 → PH → Prop), CI l x mX8_readNumber 2 0 0 [.ref a0, .int 0, .int 8] h7 q15 ∧ ∀ (r18 : Int32) (h17 : PH), q15 r18 h17 → ((hK h17 b9).1 = 100) ∧ (vp_in x1 (hK h17 b9).2) ∧ Gm l x mX8_readClause 8 152 [(0, .ref a0), (1, .int x1)] [] (sI h17 b9 x1.toNatClampNeg r18) rc rs n0 Q X) ∧ (x1 = 5 → ∃ (q21 : Int32 → PH → Prop), CI l x mX8_readNumber 2 0 0 [.ref a0, .int 0, .int 2] h7 q21 ∧ ∀ (r24 : Int32) (h23 : PH), q21 r24 h23 → ((hK h23 b9).1 = 100) ∧ (vp_in x1 (hK h23 b9).2) ∧ Gm l x mX8_readClause 8 152 [(0, .ref a0), (1, .int x1)] [] (sI h23 b9 x1.toNatClampNeg r24) rc rs n0 Q X))) ∧ (x1 = 4 → ∃ (q27 : Int32 → PH → Prop), CI l x mX8_readNumber 2 0 0 [.ref a0, .int 0, .int 11] h7 q27 ∧ ∀ (r30 : Int32) (h29 : PH), q27 r30 h29 → ((hK h29 b9).1 = 100) ∧ (vp_in x1 (hK h29 b9).2) ∧ Gm l x mX8_readClause 8 152 [(0, .ref a0), (1, .int x1)] [] (sI h29 b9 x1.toNatClampNeg r30) rc rs n0 Q X))) ∧ (x1 = 3 → ∃ (q33 : Int32 → PH → Prop), CI l x mX8_readNumber 2 0 0 [.ref a0, .int 1, .int 4] h7 q33 ∧ ∀ (r36 : Int32) (h35 : PH), q33 r36 h35 → ((hK h35 b9).1 = 100) ∧ (vp_in x1 (hK h35 b9).2) ∧ Gm l x mX8_readClause 8 152 [(0, .ref a0), (1, .int x1)] [] (sI h35 b9 x1.toNatClampNeg r36) rc rs n0 Q X))) ∧ (x1 = 0 → ∃ (q39 : Int32 → PH → Prop), CI l x mX8_readNumber 2 0 0 [.ref a0, .int 2, .int 12] h7 q39 ∧ ∀ (r42 : Int32) (h41 : PH), q39 r42 h41 → ((hK h41 b9).1 = 100) ∧ (vp_in x1 (hK h41 b9).2) ∧ Gm l x mX8_readClause 8 152 [(0, .ref a0), (1, .int x1)] [] (sI h41 b9 x1.toNatClampNeg r42) rc rs n0 Q X))) ∧ (x1 = 2 → ∃ (q45 : PH → Prop), CV l x mX8_readRider 7 0 0 [.ref a0] h q45 ∧ ∀ (h47 : PH), q45 h47 → Gm l x mX8_readClause 8 152 [(0, .ref a0), (1, .int x1)] [] h47 rc rs n0 Q X))) ∧ (x1 = 1 → ∃ (q48 : PH → Prop), CV l x mX8_readCar 7 0 0 [.ref a0] h q48 ∧ ∀ (h50 : PH), q48 h50 → Gm l x mX8_readClause 8 152 [(0, .ref a0), (1, .int x1)] [] h50 rc rs n0 Q X))) ∧ (¬ (hI h a0 18) = 0 → Q none h))) :
    Gm l x mX8_readClause 8 46 [(0, .ref a0), (1, .int x1)] [] h rc rs n0 Q X := by
  refine g_aload_n dX8_readClause_46 rfl 0 rfl ?_
  obtain ⟨e1, K⟩ := K
  refine g_get (c := 8) (k := 18) (v := .int (hI h a0 18)) dX8_readClause_47 fc_8 (by decide) (by decide) bw_1216 rfl e1 ?_
  refine g_if_eq (tgt := 54) dX8_readClause_50 (by decide) (fun c2 => ?_) (fun c2 => ?_)
  · replace K := K.1 c2
    refine g_iload_n dX8_readClause_54 rfl 1 rfl ?_
    refine g_iconst (v := 1) dX8_readClause_55 (by decide) ?_
    refine g_icmp_ne (tgt := 66) dX8_readClause_56 (by decide) (fun c3 => ?_) (fun c3 => ?_)
    · replace K := K.1 c3
      refine g_iload_n dX8_readClause_66 rfl 1 rfl ?_
      refine g_iconst (v := 2) dX8_readClause_67 (by decide) ?_
      refine g_icmp_ne (tgt := 78) dX8_readClause_68 (by decide) (fun c4 => ?_) (fun c4 => ?_)
      · replace K := K.1 c4
        refine g_aload_n dX8_readClause_78 rfl 0 rfl ?_
        obtain ⟨q5, C6, K⟩ := K
        refine g_callV (M' := mX8_stepOn) (b := a0) (As := []) (rest := []) (rc' := rc) (rs' := rs) dX8_readClause_79 bw_1341 bw_1343 bs_40 bw_9 bw_1344 ⟨by decide +kernel, by decide +kernel, show (parseMethodDescriptor mX8_stepOn.1.desc).map (fun d => d.parameters.length) = some 0 by decide +kernel⟩ (by decide) (by decide) (Nat.le_of_ble_eq_true rfl) fc_8 (by decide) rfl e1 C6 (Nat.le_of_eq (Nat.add_zero _)) (Nat.le_of_eq (Nat.add_zero _)) (fun _ _ h => h) ?_
        rintro _ h7 ⟨rfl, K1⟩ -
        replace K := K h7 K1
        show Gm l x mX8_readClause 8 82 [(0, .ref a0), (1, .int x1)] [] h7 rc rs n0 Q X
        refine g_aload_n dX8_readClause_82 rfl 0 rfl ?_
        obtain ⟨e8, b9, e10, K⟩ := K
        refine g_get (c := 8) (k := 5) (v := .ref b9) dX8_readClause_83 fc_8 (by decide) (by decide) bw_1203 (congrArg pr e10) e8 ?_
        refine g_iload_n dX8_readClause_86 rfl 1 rfl ?_
        refine g_iload_n dX8_readClause_87 rfl 1 rfl ?_
        refine g_if_ne (tgt := 101) dX8_readClause_88 (by decide) (fun c11 => ?_) (fun c11 => ?_)
        · replace K := K.1 c11
          refine g_iload_n dX8_readClause_101 rfl 1 rfl ?_
          refine g_iconst (v := 3) dX8_readClause_102 (by decide) ?_
          refine g_icmp_ne (tgt := 115) dX8_readClause_103 (by decide) (fun c12 => ?_) (fun c12 => ?_)
          · replace K := K.1 c12
            refine g_iload_n dX8_readClause_115 rfl 1 rfl ?_
            refine g_iconst (v := 4) dX8_readClause_116 (by decide) ?_
            refine g_icmp_ne (tgt := 130) dX8_readClause_117 (by decide) (fun c13 => ?_) (fun c13 => ?_)
            · replace K := K.1 c13
              refine g_iload_n dX8_readClause_130 rfl 1 rfl ?_
              refine g_iconst (v := 5) dX8_readClause_131 (by decide) ?_
              refine g_icmp_ne (tgt := 144) dX8_readClause_132 (by decide) (fun c14 => ?_) (fun c14 => ?_)
              · replace K := K.1 c14
                refine g_aload_n dX8_readClause_144 rfl 0 rfl ?_
                refine g_iconst (v := 0) dX8_readClause_145 (by decide) ?_
                refine g_bipush (v := 8) dX8_readClause_146 (by decide) ?_
                obtain ⟨q15, C16, K⟩ := K
                refine g_callV (M' := mX8_readNumber) (b := a0) (As := [.int 0, .int 8]) (rest := [.int x1, .ref b9]) (rc' := rc) (rs' := rs) dX8_readClause_148 bw_1387 bw_1389 bs_49 bw_9 bw_1390 ⟨by decide +kernel, by decide +kernel, show (parseMethodDescriptor mX8_readNumber.1.desc).map (fun d => d.parameters.length) = some 2 by decide +kernel⟩ (by decide) (by decide) (Nat.le_of_ble_eq_true rfl) fc_8 (by decide) rfl e8 C16 (Nat.le_of_eq (Nat.add_zero _)) (Nat.le_of_eq (Nat.add_zero _)) (fun _ _ h => h) ?_
                rintro _ h17 ⟨r18, rfl, K1⟩ -
                replace K := K r18 h17 K1
                show Gm l x mX8_readClause 8 151 [(0, .ref a0), (1, .int x1)] [.int r18, .int x1, .ref b9] h17 rc rs n0 Q X
                obtain ⟨e19, e20, K⟩ := K
                refine g_iast dX8_readClause_151 e19 e20 ?_
                exact K
              · replace K := K.2 c14
                refine g_aload_n dX8_readClause_135 rfl 0 rfl ?_
                refine g_iconst (v := 0) dX8_readClause_136 (by decide) ?_
                refine g_iconst (v := 2) dX8_readClause_137 (by decide) ?_
                obtain ⟨q21, C22, K⟩ := K
                refine g_callV (M' := mX8_readNumber) (b := a0) (As := [.int 0, .int 2]) (rest := [.int x1, .ref b9]) (rc' := rc) (rs' := rs) dX8_readClause_138 bw_1387 bw_1389 bs_49 bw_9 bw_1390 ⟨by decide +kernel, by decide +kernel, show (parseMethodDescriptor mX8_readNumber.1.desc).map (fun d => d.parameters.length) = some 2 by decide +kernel⟩ (by decide) (by decide) (Nat.le_of_ble_eq_true rfl) fc_8 (by decide) rfl e8 C22 (Nat.le_of_eq (Nat.add_zero _)) (Nat.le_of_eq (Nat.add_zero _)) (fun _ _ h => h) ?_
                rintro _ h23 ⟨r24, rfl, K1⟩ -
                replace K := K r24 h23 K1
                show Gm l x mX8_readClause 8 141 [(0, .ref a0), (1, .int x1)] [.int r24, .int x1, .ref b9] h23 rc rs n0 Q X
                refine g_goto (tgt := 151) dX8_readClause_141 (by decide) ?_
                obtain ⟨e25, e26, K⟩ := K
                refine g_iast dX8_readClause_151 e25 e26 ?_
                exact K
            · replace K := K.2 c13
              refine g_aload_n dX8_readClause_120 rfl 0 rfl ?_
              refine g_iconst (v := 0) dX8_readClause_121 (by decide) ?_
              refine g_bipush (v := 11) dX8_readClause_122 (by decide) ?_
              obtain ⟨q27, C28, K⟩ := K
              refine g_callV (M' := mX8_readNumber) (b := a0) (As := [.int 0, .int 11]) (rest := [.int x1, .ref b9]) (rc' := rc) (rs' := rs) dX8_readClause_124 bw_1387 bw_1389 bs_49 bw_9 bw_1390 ⟨by decide +kernel, by decide +kernel, show (parseMethodDescriptor mX8_readNumber.1.desc).map (fun d => d.parameters.length) = some 2 by decide +kernel⟩ (by decide) (by decide) (Nat.le_of_ble_eq_true rfl) fc_8 (by decide) rfl e8 C28 (Nat.le_of_eq (Nat.add_zero _)) (Nat.le_of_eq (Nat.add_zero _)) (fun _ _ h => h) ?_
              rintro _ h29 ⟨r30, rfl, K1⟩ -
              replace K := K r30 h29 K1
              show Gm l x mX8_readClause 8 127 [(0, .ref a0), (1, .int x1)] [.int r30, .int x1, .ref b9] h29 rc rs n0 Q X
              refine g_goto (tgt := 151) dX8_readClause_127 (by decide) ?_
              obtain ⟨e31, e32, K⟩ := K
              refine g_iast dX8_readClause_151 e31 e32 ?_
              exact K
          · replace K := K.2 c12
            refine g_aload_n dX8_readClause_106 rfl 0 rfl ?_
            refine g_iconst (v := 1) dX8_readClause_107 (by decide) ?_
            refine g_iconst (v := 4) dX8_readClause_108 (by decide) ?_
            obtain ⟨q33, C34, K⟩ := K
            refine g_callV (M' := mX8_readNumber) (b := a0) (As := [.int 1, .int 4]) (rest := [.int x1, .ref b9]) (rc' := rc) (rs' := rs) dX8_readClause_109 bw_1387 bw_1389 bs_49 bw_9 bw_1390 ⟨by decide +kernel, by decide +kernel, show (parseMethodDescriptor mX8_readNumber.1.desc).map (fun d => d.parameters.length) = some 2 by decide +kernel⟩ (by decide) (by decide) (Nat.le_of_ble_eq_true rfl) fc_8 (by decide) rfl e8 C34 (Nat.le_of_eq (Nat.add_zero _)) (Nat.le_of_eq (Nat.add_zero _)) (fun _ _ h => h) ?_
            rintro _ h35 ⟨r36, rfl, K1⟩ -
            replace K := K r36 h35 K1
            show Gm l x mX8_readClause 8 112 [(0, .ref a0), (1, .int x1)] [.int r36, .int x1, .ref b9] h35 rc rs n0 Q X
            refine g_goto (tgt := 151) dX8_readClause_112 (by decide) ?_
            obtain ⟨e37, e38, K⟩ := K
            refine g_iast dX8_readClause_151 e37 e38 ?_
            exact K
        · replace K := K.2 c11
          refine g_aload_n dX8_readClause_91 rfl 0 rfl ?_
          refine g_iconst (v := 2) dX8_readClause_92 (by decide) ?_
          refine g_bipush (v := 12) dX8_readClause_93 (by decide) ?_
          obtain ⟨q39, C40, K⟩ := K
          refine g_callV (M' := mX8_readNumber) (b := a0) (As := [.int 2, .int 12]) (rest := [.int x1, .ref b9]) (rc' := rc) (rs' := rs) dX8_readClause_95 bw_1387 bw_1389 bs_49 bw_9 bw_1390 ⟨by decide +kernel, by decide +kernel, show (parseMethodDescriptor mX8_readNumber.1.desc).map (fun d => d.parameters.length) = some 2 by decide +kernel⟩ (by decide) (by decide) (Nat.le_of_ble_eq_true rfl) fc_8 (by decide) rfl e8 C40 (Nat.le_of_eq (Nat.add_zero _)) (Nat.le_of_eq (Nat.add_zero _)) (fun _ _ h => h) ?_
          rintro _ h41 ⟨r42, rfl, K1⟩ -
          replace K := K r42 h41 K1
          show Gm l x mX8_readClause 8 98 [(0, .ref a0), (1, .int x1)] [.int r42, .int x1, .ref b9] h41 rc rs n0 Q X
          refine g_goto (tgt := 151) dX8_readClause_98 (by decide) ?_
          obtain ⟨e43, e44, K⟩ := K
          refine g_iast dX8_readClause_151 e43 e44 ?_
          exact K
      · replace K := K.2 c4
        refine g_aload_n dX8_readClause_71 rfl 0 rfl ?_
        obtain ⟨q45, C46, K⟩ := K
        refine g_callV (M' := mX8_readRider) (b := a0) (As := []) (rest := []) (rc' := rc) (rs' := rs) dX8_readClause_72 bw_1393 bw_1395 bs_50 bw_9 bw_1396 ⟨by decide +kernel, by decide +kernel, show (parseMethodDescriptor mX8_readRider.1.desc).map (fun d => d.parameters.length) = some 0 by decide +kernel⟩ (by decide) (by decide) (Nat.le_of_ble_eq_true rfl) fc_8 (by decide) rfl e1 C46 (Nat.le_of_eq (Nat.add_zero _)) (Nat.le_of_eq (Nat.add_zero _)) (fun _ _ h => h) ?_
        rintro _ h47 ⟨rfl, K1⟩ -
        replace K := K h47 K1
        show Gm l x mX8_readClause 8 75 [(0, .ref a0), (1, .int x1)] [] h47 rc rs n0 Q X
        refine g_goto (tgt := 152) dX8_readClause_75 (by decide) ?_
        exact K
    · replace K := K.2 c3
      refine g_aload_n dX8_readClause_59 rfl 0 rfl ?_
      obtain ⟨q48, C49, K⟩ := K
      refine g_callV (M' := mX8_readCar) (b := a0) (As := []) (rest := []) (rc' := rc) (rs' := rs) dX8_readClause_60 bw_1375 bw_1377 bs_46 bw_9 bw_1378 ⟨by decide +kernel, by decide +kernel, show (parseMethodDescriptor mX8_readCar.1.desc).map (fun d => d.parameters.length) = some 0 by decide +kernel⟩ (by decide) (by decide) (Nat.le_of_ble_eq_true rfl) fc_8 (by decide) rfl e1 C49 (Nat.le_of_eq (Nat.add_zero _)) (Nat.le_of_eq (Nat.add_zero _)) (fun _ _ h => h) ?_
      rintro _ h50 ⟨rfl, K1⟩ -
      replace K := K h50 K1
      show Gm l x mX8_readClause 8 63 [(0, .ref a0), (1, .int x1)] [] h50 rc rs n0 Q X
      refine g_goto (tgt := 152) dX8_readClause_63 (by decide) ?_
      exact K
  · replace K := K.2 c2
    exact g_vret dX8_readClause_53 rfl K
set_option maxRecDepth 20000 in
set_option maxHeartbeats 4000000 in
theorem wX8_readClause_152 {l : Launch} {x : CX} {a0 : Nat} {x1 : Int32} {h : PH} {rc rs n0 : Nat} {Q : Option Value → PH → Prop} {X : String → PH → Prop}
    (K : ((hK h a0).1 = 8) ∧ ((¬ (hI h a0 18) = 0 → Gm l x mX8_readClause 8 172 [(0, .ref a0), (1, .int x1)] [] h rc rs n0 Q X) ∧ ((hI h a0 18) = 0 → (((hI h a0 14) = 3 → Gm l x mX8_readClause 8 172 [(0, .ref a0), (1, .int x1)] [] h rc rs n0 Q X) ∧ (¬ (hI h a0 14) = 3 → ∃ (q4 : PH → Prop), CV l x mX8_wrong 0 0 0 [.ref a0, .int 1] h q4 ∧ ∀ (h6 : PH), q4 h6 → Gm l x mX8_readClause 8 172 [(0, .ref a0), (1, .int x1)] [] h6 rc rs n0 Q X))))) :
    Gm l x mX8_readClause 8 152 [(0, .ref a0), (1, .int x1)] [] h rc rs n0 Q X := by
  refine g_aload_n dX8_readClause_152 rfl 0 rfl ?_
  obtain ⟨e1, K⟩ := K
  refine g_get (c := 8) (k := 18) (v := .int (hI h a0 18)) dX8_readClause_153 fc_8 (by decide) (by decide) bw_1216 rfl e1 ?_
  refine g_if_ne (tgt := 172) dX8_readClause_156 (by decide) (fun c2 => ?_) (fun c2 => ?_)
  · replace K := K.1 c2
    exact K
  · replace K := K.2 c2
    refine g_aload_n dX8_readClause_159 rfl 0 rfl ?_
    refine g_get (c := 8) (k := 14) (v := .int (hI h a0 14)) dX8_readClause_160 fc_8 (by decide) (by decide) bw_1212 rfl e1 ?_
    refine g_iconst (v := 3) dX8_readClause_163 (by decide) ?_
    refine g_icmp_eq (tgt := 172) dX8_readClause_164 (by decide) (fun c3 => ?_) (fun c3 => ?_)
    · replace K := K.1 c3
      exact K
    · replace K := K.2 c3
      refine g_aload_n dX8_readClause_167 rfl 0 rfl ?_
      refine g_iconst (v := 1) dX8_readClause_168 (by decide) ?_
      obtain ⟨q4, C5, K⟩ := K
      refine g_callV (M' := mX8_wrong) (b := a0) (As := [.int 1]) (rest := []) (rc' := rc) (rs' := rs) dX8_readClause_169 bw_1371 bw_1373 bs_45 bw_9 bw_1374 ⟨by decide +kernel, by decide +kernel, show (parseMethodDescriptor mX8_wrong.1.desc).map (fun d => d.parameters.length) = some 1 by decide +kernel⟩ (by decide) (by decide) (Nat.le_of_ble_eq_true rfl) fc_8 (by decide) rfl e1 C5 (Nat.le_of_eq (Nat.add_zero _)) (Nat.le_of_eq (Nat.add_zero _)) (fun _ _ h => h) ?_
      rintro _ h6 ⟨rfl, K1⟩ -
      replace K := K h6 K1
      show Gm l x mX8_readClause 8 172 [(0, .ref a0), (1, .int x1)] [] h6 rc rs n0 Q X
      exact K
set_option maxRecDepth 20000 in
set_option maxHeartbeats 4000000 in
theorem wX8_readClause_172 {l : Launch} {x : CX} {a0 : Nat} {x1 : Int32} {h : PH} {rc rs n0 : Nat} {Q : Option Value → PH → Prop} {X : String → PH → Prop}
    (K : ((hK h a0).1 = 8) ∧ ((¬ (hI h a0 18) = 0 → Gm l x mX8_readClause 8 183 [(0, .ref a0), (1, .int x1)] [] h rc rs n0 Q X) ∧ ((hI h a0 18) = 0 → ∃ (q3 : PH → Prop), CV l x mX8_stepOn 1 0 0 [.ref a0] h q3 ∧ ∀ (h5 : PH), q3 h5 → Gm l x mX8_readClause 8 183 [(0, .ref a0), (1, .int x1)] [] h5 rc rs n0 Q X))) :
    Gm l x mX8_readClause 8 172 [(0, .ref a0), (1, .int x1)] [] h rc rs n0 Q X := by
  refine g_aload_n dX8_readClause_172 rfl 0 rfl ?_
  obtain ⟨e1, K⟩ := K
  refine g_get (c := 8) (k := 18) (v := .int (hI h a0 18)) dX8_readClause_173 fc_8 (by decide) (by decide) bw_1216 rfl e1 ?_
  refine g_if_ne (tgt := 183) dX8_readClause_176 (by decide) (fun c2 => ?_) (fun c2 => ?_)
  · replace K := K.1 c2
    exact K
  · replace K := K.2 c2
    refine g_aload_n dX8_readClause_179 rfl 0 rfl ?_
    obtain ⟨q3, C4, K⟩ := K
    refine g_callV (M' := mX8_stepOn) (b := a0) (As := []) (rest := []) (rc' := rc) (rs' := rs) dX8_readClause_180 bw_1341 bw_1343 bs_40 bw_9 bw_1344 ⟨by decide +kernel, by decide +kernel, show (parseMethodDescriptor mX8_stepOn.1.desc).map (fun d => d.parameters.length) = some 0 by decide +kernel⟩ (by decide) (by decide) (Nat.le_of_ble_eq_true rfl) fc_8 (by decide) rfl e1 C4 (Nat.le_of_eq (Nat.add_zero _)) (Nat.le_of_eq (Nat.add_zero _)) (fun _ _ h => h) ?_
    rintro _ h5 ⟨rfl, K1⟩ -
    replace K := K h5 K1
    show Gm l x mX8_readClause 8 183 [(0, .ref a0), (1, .int x1)] [] h5 rc rs n0 Q X
    exact K
set_option maxRecDepth 20000 in
set_option maxHeartbeats 4000000 in
theorem wX8_readClause_183 {l : Launch} {x : CX} {a0 : Nat} {x1 : Int32} {h : PH} {rc rs n0 : Nat} {Q : Option Value → PH → Prop} {X : String → PH → Prop}
    (K : ((hK h a0).1 = 8) ∧ Q none (sI h a0 21 ((hI h a0 21) + 1))) :
    Gm l x mX8_readClause 8 183 [(0, .ref a0), (1, .int x1)] [] h rc rs n0 Q X := by
  refine g_aload_n dX8_readClause_183 rfl 0 rfl ?_
  refine g_dup dX8_readClause_184 rfl ?_
  obtain ⟨e1, K⟩ := K
  refine g_get (c := 8) (k := 21) (v := .int (hI h a0 21)) dX8_readClause_185 fc_8 (by decide) (by decide) bw_1219 rfl e1 ?_
  refine g_iconst (v := 1) dX8_readClause_188 (by decide) ?_
  refine g_iadd dX8_readClause_189 ?_
  refine g_puti (c := 8) (k := 21) dX8_readClause_190 fc_8 (by decide) (by decide) bw_1219 (Or.inl rfl) rfl e1 ?_
  exact g_vret dX8_readClause_193 rfl K
