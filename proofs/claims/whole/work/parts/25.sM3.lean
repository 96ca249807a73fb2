/-! STEPS, printed by program: M3 -/
theorem dX8_steps_0 : decode cX8_steps 0 = .ok (.aload_n 0, 1) := by decide +kernel
theorem dX8_steps_1 : decode cX8_steps 1 = .ok (.iload_n 1, 1) := by decide +kernel
theorem dX8_steps_2 : decode cX8_steps 2 = .ok (.iconst 2, 1) := by decide +kernel
theorem dX8_steps_3 : decode cX8_steps 3 = .ok (.invokevirtual 238, 3) := by decide +kernel
theorem dX8_steps_6 : decode cX8_steps 6 = .ok (.ifCond .le 17, 3) := by decide +kernel
theorem dX8_steps_9 : decode cX8_steps 9 = .ok (.aload_n 0, 1) := by decide +kernel
theorem dX8_steps_10 : decode cX8_steps 10 = .ok (.iload_n 1, 1) := by decide +kernel
theorem dX8_steps_11 : decode cX8_steps 11 = .ok (.iconst 2, 1) := by decide +kernel
theorem dX8_steps_12 : decode cX8_steps 12 = .ok (.aload_n 0, 1) := by decide +kernel
theorem dX8_steps_13 : decode cX8_steps 13 = .ok (.iload_n 1, 1) := by decide +kernel
theorem dX8_steps_14 : decode cX8_steps 14 = .ok (.iconst 2, 1) := by decide +kernel
theorem dX8_steps_15 : decode cX8_steps 15 = .ok (.invokevirtual 238, 3) := by decide +kernel
theorem dX8_steps_18 : decode cX8_steps 18 = .ok (.iconst 1, 1) := by decide +kernel
theorem dX8_steps_19 : decode cX8_steps 19 = .ok (.isub, 1) := by decide +kernel
theorem dX8_steps_20 : decode cX8_steps 20 = .ok (.invokevirtual 221, 3) := by decide +kernel
theorem dX8_steps_23 : decode cX8_steps 23 = .ok (.aload_n 0, 1) := by decide +kernel
theorem dX8_steps_24 : decode cX8_steps 24 = .ok (.iload_n 1, 1) := by decide +kernel
theorem dX8_steps_25 : decode cX8_steps 25 = .ok (.iconst 2, 1) := by decide +kernel
theorem dX8_steps_26 : decode cX8_steps 26 = .ok (.invokevirtual 238, 3) := by decide +kernel
theorem dX8_steps_29 : decode cX8_steps 29 = .ok (.ifCond .le 5, 3) := by decide +kernel
theorem dX8_steps_32 : decode cX8_steps 32 = .ok (.iconst 0, 1) := by decide +kernel
theorem dX8_steps_33 : decode cX8_steps 33 = .ok (.ireturn, 1) := by decide +kernel
theorem dX8_steps_34 : decode cX8_steps 34 = .ok (.aload_n 0, 1) := by decide +kernel
theorem dX8_steps_35 : decode cX8_steps 35 = .ok (.iload_n 1, 1) := by decide +kernel
theorem dX8_steps_36 : decode cX8_steps 36 = .ok (.invokevirtual 298, 3) := by decide +kernel
theorem dX8_steps_39 : decode cX8_steps 39 = .ok (.istore_n 2, 1) := by decide +kernel
theorem dX8_steps_40 : decode cX8_steps 40 = .ok (.iload_n 2, 1) := by decide +kernel
theorem dX8_steps_41 : decode cX8_steps 41 = .ok (.ifCond .eq 11, 3) := by decide +kernel
theorem dX8_steps_44 : decode cX8_steps 44 = .ok (.aload_n 0, 1) := by decide +kernel
theorem dX8_steps_45 : decode cX8_steps 45 = .ok (.iload_n 1, 1) := by decide +kernel
theorem dX8_steps_46 : decode cX8_steps 46 = .ok (.invokevirtual 301, 3) := by decide +kernel
theorem dX8_steps_49 : decode cX8_steps 49 = .ok (.goto 8, 3) := by decide +kernel
theorem dX8_steps_52 : decode cX8_steps 52 = .ok (.aload_n 0, 1) := by decide +kernel
theorem dX8_steps_53 : decode cX8_steps 53 = .ok (.iload_n 1, 1) := by decide +kernel
theorem dX8_steps_54 : decode cX8_steps 54 = .ok (.invokevirtual 304, 3) := by decide +kernel
theorem dX8_steps_57 : decode cX8_steps 57 = .ok (.iload_n 2, 1) := by decide +kernel
theorem dX8_steps_58 : decode cX8_steps 58 = .ok (.ireturn, 1) := by decide +kernel
set_option maxRecDepth 20000 in
set_option maxHeartbeats 4000000 in
theorem vX8_steps_0 {l : Launch} {x : CX} {a0 : Nat} {x1 : Int32} {h : PH} {rc rs n0 : Nat} {Q : Option Value → PH → Prop} {X : String → PH → Prop}
    (K : ((hK h a0).1 = 8) ∧ ∃ (q1 : Int32 → PH → Prop), CI l x mX8_carOf 0 0 0 [.ref a0, .int x1, .int 2] h q1 ∧ ∀ (r5 : Int32) (h4 : PH), q1 r5 h4 → ((r5 ≤ 0 → ((hK h4 a0).1 = 8) ∧ ∃ (q7 : Int32 → PH → Prop), CI l x mX8_carOf 0 0 0 [.ref a0, .int x1, .int 2] h4 q7 ∧ ∀ (r11 : Int32) (h10 : PH), q7 r11 h10 → ((r11 ≤ 0 → ((hK h10 a0).1 = 8) ∧ ∃ (q13 : Int32 → PH → Prop), CI l x mX8_opensHere 4 0 0 [.ref a0, .int x1] h10 q13 ∧ ∀ (r17 : Int32) (h16 : PH), q13 r17 h16 → ((r17 = 0 → ((hK h16 a0).1 = 8) ∧ ∃ (q19 : PH → Prop), CV l x mX8_goes 5 0 0 [.ref a0, .int x1] h16 q19 ∧ ∀ (h22 : PH), q19 h22 → ((r17 : Int32) = 0 ∨ (r17 : Int32) = 1) ∧ Q (some (.int r17)) h22) ∧ (¬ r17 = 0 → ((hK h16 a0).1 = 8) ∧ ∃ (q23 : PH → Prop), CV l x mX8_opens 5 0 0 [.ref a0, .int x1] h16 q23 ∧ ∀ (h26 : PH), q23 h26 → ((r17 : Int32) = 0 ∨ (r17 : Int32) = 1) ∧ Q (some (.int r17)) h26))) ∧ (¬ r11 ≤ 0 → ((0 : Int32) = 0 ∨ (0 : Int32) = 1) ∧ Q (some (.int 0)) h10))) ∧ (¬ r5 ≤ 0 → ((hK h4 a0).1 = 8) ∧ ∃ (q27 : Int32 → PH → Prop), CI l x mX8_carOf 0 0 0 [.ref a0, .int x1, .int 2] h4 q27 ∧ ∀ (r31 : Int32) (h30 : PH), q27 r31 h30 → ((hK h30 a0).1 = 8) ∧ ∃ (q32 : PH → Prop), CV l x mX8_putCar 0 0 0 [.ref a0, .int x1, .int 2, .int (r31 - 1)] h30 q32 ∧ ∀ (h35 : PH), q32 h35 → ((hK h35 a0).1 = 8) ∧ ∃ (q36 : Int32 → PH → Prop), CI l x mX8_carOf 0 0 0 [.ref a0, .int x1, .int 2] h35 q36 ∧ ∀ (r40 : Int32) (h39 : PH), q36 r40 h39 → ((r40 ≤ 0 → ((hK h39 a0).1 = 8) ∧ ∃ (q42 : Int32 → PH → Prop), CI l x mX8_opensHere 4 0 0 [.ref a0, .int x1] h39 q42 ∧ ∀ (r46 : Int32) (h45 : PH), q42 r46 h45 → ((r46 = 0 → ((hK h45 a0).1 = 8) ∧ ∃ (q48 : PH → Prop), CV l x mX8_goes 5 0 0 [.ref a0, .int x1] h45 q48 ∧ ∀ (h51 : PH), q48 h51 → ((r46 : Int32) = 0 ∨ (r46 : Int32) = 1) ∧ Q (some (.int r46)) h51) ∧ (¬ r46 = 0 → ((hK h45 a0).1 = 8) ∧ ∃ (q52 : PH → Prop), CV l x mX8_opens 5 0 0 [.ref a0, .int x1] h45 q52 ∧ ∀ (h55 : PH), q52 h55 → ((r46 : Int32) = 0 ∨ (r46 : Int32) = 1) ∧ Q (some (.int r46)) h55))) ∧ (¬ r40 ≤ 0 → ((0 : Int32) = 0 ∨ (0 : Int32) = 1) ∧ Q (some (.int 0)) h39))))) :
    Gm l x mX8_steps 6 0 [(0, .ref a0), (1, .int x1)] [] h rc rs n0 Q X := by
  refine g_aload_n dX8_steps_0 rfl 0 rfl ?_
  refine g_iload_n dX8_steps_1 rfl 1 rfl ?_
  refine g_iconst (v := 2) dX8_steps_2 (by decide) ?_
  obtain ⟨e3, K⟩ := K
  obtain ⟨q1, C2, K⟩ := K
  refine g_callV (M' := mX8_carOf) (b := a0) (As := [.int x1, .int 2]) (rest := []) (rc' := rc) (rs' := rs) dX8_steps_3 bw_1476 bw_1478 bs_67 bw_9 bw_1479 ⟨by decide +kernel, by decide +kernel, show (parseMethodDescriptor mX8_carOf.1.desc).map (fun d => d.parameters.length) = some 2 by decide +kernel⟩ (by decide) (by decide) (Nat.le_of_ble_eq_true rfl) fc_8 (by decide) rfl e3 C2 (Nat.le_of_eq (Nat.add_zero _)) (Nat.le_of_eq (Nat.add_zero _)) (fun _ _ h => h) ?_
  rintro _ h4 ⟨r5, rfl, K1⟩ -
  replace K := K r5 h4 K1
  show Gm l x mX8_steps 6 6 [(0, .ref a0), (1, .int x1)] [.int r5] h4 rc rs n0 Q X
  refine g_if_le (tgt := 23) dX8_steps_6 (by decide) (fun c6 => ?_) (fun c6 => ?_)
  · replace K := K.1 c6
    refine g_aload_n dX8_steps_23 rfl 0 rfl ?_
    refine g_iload_n dX8_steps_24 rfl 1 rfl ?_
    refine g_iconst (v := 2) dX8_steps_25 (by decide) ?_
    obtain ⟨e9, K⟩ := K
    obtain ⟨q7, C8, K⟩ := K
    refine g_callV (M' := mX8_carOf) (b := a0) (As := [.int x1, .int 2]) (rest := []) (rc' := rc) (rs' := rs) dX8_steps_26 bw_1476 bw_1478 bs_67 bw_9 bw_1479 ⟨by decide +kernel, by decide +kernel, show (parseMethodDescriptor mX8_carOf.1.desc).map (fun d => d.parameters.length) = some 2 by decide +kernel⟩ (by decide) (by decide) (Nat.le_of_ble_eq_true rfl) fc_8 (by decide) rfl e9 C8 (Nat.le_of_eq (Nat.add_zero _)) (Nat.le_of_eq (Nat.add_zero _)) (fun _ _ h => h) ?_
    rintro _ h10 ⟨r11, rfl, K1⟩ -
    replace K := K r11 h10 K1
    show Gm l x mX8_steps 6 29 [(0, .ref a0), (1, .int x1)] [.int r11] h10 rc rs n0 Q X
    refine g_if_le (tgt := 34) dX8_steps_29 (by decide) (fun c12 => ?_) (fun c12 => ?_)
    · replace K := K.1 c12
      refine g_aload_n dX8_steps_34 rfl 0 rfl ?_
      refine g_iload_n dX8_steps_35 rfl 1 rfl ?_
      obtain ⟨e15, K⟩ := K
      obtain ⟨q13, C14, K⟩ := K
      refine g_callV (M' := mX8_opensHere) (b := a0) (As := [.int x1]) (rest := []) (rc' := rc) (rs' := rs) dX8_steps_36 bw_1497 bw_1499 bs_72 bw_9 bw_1500 ⟨by decide +kernel, by decide +kernel, show (parseMethodDescriptor mX8_opensHere.1.desc).map (fun d => d.parameters.length) = some 1 by decide +kernel⟩ (by decide) (by decide) (Nat.le_of_ble_eq_true rfl) fc_8 (by decide) rfl e15 C14 (Nat.le_of_eq (Nat.add_zero _)) (Nat.le_of_eq (Nat.add_zero _)) (fun _ _ h => h) ?_
      rintro _ h16 ⟨r17, rfl, K1⟩ -
      replace K := K r17 h16 K1
      show Gm l x mX8_steps 6 39 [(0, .ref a0), (1, .int x1)] [.int r17] h16 rc rs n0 Q X
      refine g_istore_n (lv' := [(0, .ref a0), (1, .int x1), (2, .int r17)]) dX8_steps_39 rfl (by decide) rfl ?_
      refine g_iload_n dX8_steps_40 rfl 2 rfl ?_
      refine g_if_eq (tgt := 52) dX8_steps_41 (by decide) (fun c18 => ?_) (fun c18 => ?_)
      · replace K := K.1 c18
        refine g_aload_n dX8_steps_52 rfl 0 rfl ?_
        refine g_iload_n dX8_steps_53 rfl 1 rfl ?_
        obtain ⟨e21, K⟩ := K
        obtain ⟨q19, C20, K⟩ := K
        refine g_callV (M' := mX8_goes) (b := a0) (As := [.int x1]) (rest := []) (rc' := rc) (rs' := rs) dX8_steps_54 bw_1548 bw_1550 bs_81 bw_9 bw_1551 ⟨by decide +kernel, by decide +kernel, show (parseMethodDescriptor mX8_goes.1.desc).map (fun d => d.parameters.length) = some 1 by decide +kernel⟩ (by decide) (by decide) (Nat.le_of_ble_eq_true rfl) fc_8 (by decide) rfl e21 C20 (Nat.le_of_eq (Nat.add_zero _)) (Nat.le_of_eq (Nat.add_zero _)) (fun _ _ h => h) ?_
        rintro _ h22 ⟨rfl, K1⟩ -
        replace K := K h22 K1
        show Gm l x mX8_steps 6 57 [(0, .ref a0), (1, .int x1), (2, .int r17)] [] h22 rc rs n0 Q X
        refine g_iload_n dX8_steps_57 rfl 2 rfl ?_
        exact g_zret dX8_steps_58 rfl K.1 K.2
      · replace K := K.2 c18
        refine g_aload_n dX8_steps_44 rfl 0 rfl ?_
        refine g_iload_n dX8_steps_45 rfl 1 rfl ?_
        obtain ⟨e25, K⟩ := K
        obtain ⟨q23, C24, K⟩ := K
        refine g_callV (M' := mX8_opens) (b := a0) (As := [.int x1]) (rest := []) (rc' := rc) (rs' := rs) dX8_steps_46 bw_1518 bw_1520 bs_77 bw_9 bw_1521 ⟨by decide +kernel, by decide +kernel, show (parseMethodDescriptor mX8_opens.1.desc).map (fun d => d.parameters.length) = some 1 by decide +kernel⟩ (by decide) (by decide) (Nat.le_of_ble_eq_true rfl) fc_8 (by decide) rfl e25 C24 (Nat.le_of_eq (Nat.add_zero _)) (Nat.le_of_eq (Nat.add_zero _)) (fun _ _ h => h) ?_
        rintro _ h26 ⟨rfl, K1⟩ -
        replace K := K h26 K1
        show Gm l x mX8_steps 6 49 [(0, .ref a0), (1, .int x1), (2, .int r17)] [] h26 rc rs n0 Q X
        refine g_goto (tgt := 57) dX8_steps_49 (by decide) ?_
        refine g_iload_n dX8_steps_57 rfl 2 rfl ?_
        exact g_zret dX8_steps_58 rfl K.1 K.2
    · replace K := K.2 c12
      refine g_iconst (v := 0) dX8_steps_32 (by decide) ?_
      exact g_zret dX8_steps_33 rfl K.1 K.2
  · replace K := K.2 c6
    refine g_aload_n dX8_steps_9 rfl 0 rfl ?_
    refine g_iload_n dX8_steps_10 rfl 1 rfl ?_
    refine g_iconst (v := 2) dX8_steps_11 (by decide) ?_
    refine g_aload_n dX8_steps_12 rfl 0 rfl ?_
    refine g_iload_n dX8_steps_13 rfl 1 rfl ?_
    refine g_iconst (v := 2) dX8_steps_14 (by decide) ?_
    obtain ⟨e29, K⟩ := K
    obtain ⟨q27, C28, K⟩ := K
    refine g_callV (M' := mX8_carOf) (b := a0) (As := [.int x1, .int 2]) (rest := [.int 2, .int x1, .ref a0]) (rc' := rc) (rs' := rs) dX8_steps_15 bw_1476 bw_1478 bs_67 bw_9 bw_1479 ⟨by decide +kernel, by decide +kernel, show (parseMethodDescriptor mX8_carOf.1.desc).map (fun d => d.parameters.length) = some 2 by decide +kernel⟩ (by decide) (by decide) (Nat.le_of_ble_eq_true rfl) fc_8 (by decide) rfl e29 C28 (Nat.le_of_eq (Nat.add_zero _)) (Nat.le_of_eq (Nat.add_zero _)) (fun _ _ h => h) ?_
    rintro _ h30 ⟨r31, rfl, K1⟩ -
    replace K := K r31 h30 K1
    show Gm l x mX8_steps 6 18 [(0, .ref a0), (1, .int x1)] [.int r31, .int 2, .int x1, .ref a0] h30 rc rs n0 Q X
    refine g_iconst (v := 1) dX8_steps_18 (by decide) ?_
    refine g_isub dX8_steps_19 ?_
    obtain ⟨e34, K⟩ := K
    obtain ⟨q32, C33, K⟩ := K
    refine g_callV (M' := mX8_putCar) (b := a0) (As := [.int x1, .int 2, .int (r31 - 1)]) (rest := []) (rc' := rc) (rs' := rs) dX8_steps_20 bw_1190 bw_1192 bs_37 bw_9 bw_1193 ⟨by decide +kernel, by decide +kernel, show (parseMethodDescriptor mX8_putCar.1.desc).map (fun d => d.parameters.length) = some 3 by decide +kernel⟩ (by decide) (by decide) (Nat.le_of_ble_eq_true rfl) fc_8 (by decide) rfl e34 C33 (Nat.le_of_eq (Nat.add_zero _)) (Nat.le_of_eq (Nat.add_zero _)) (fun _ _ h => h) ?_
    rintro _ h35 ⟨rfl, K1⟩ -
    replace K := K h35 K1
    show Gm l x mX8_steps 6 23 [(0, .ref a0), (1, .int x1)] [] h35 rc rs n0 Q X
    refine g_aload_n dX8_steps_23 rfl 0 rfl ?_
    refine g_iload_n dX8_steps_24 rfl 1 rfl ?_
    refine g_iconst (v := 2) dX8_steps_25 (by decide) ?_
    obtain ⟨e38, K⟩ := K
    obtain ⟨q36, C37, K⟩ := K
    refine g_callV (M' := mX8_carOf) (b := a0) (As := [.int x1, .int 2]) (rest := []) (rc' := rc) (rs' := rs) dX8_steps_26 bw_1476 bw_1478 bs_67 bw_9 bw_1479 ⟨by decide +kernel, by decide +kernel, show (parseMethodDescriptor mX8_carOf.1.desc).map (fun d => d.parameters.length) = some 2 by decide +kernel⟩ (by decide) (by decide) (Nat.le_of_ble_eq_true rfl) fc_8 (by decide) rfl e38 C37 (Nat.le_of_eq (Nat.add_zero _)) (Nat.le_of_eq (Nat.add_zero _)) (fun _ _ h => h) ?_
    rintro _ h39 ⟨r40, rfl, K1⟩ -
    replace K := K r40 h39 K1
    show Gm l x mX8_steps 6 29 [(0, .ref a0), (1, .int x1)] [.int r40] h39 rc rs n0 Q X
    refine g_if_le (tgt := 34) dX8_steps_29 (by decide) (fun c41 => ?_) (fun c41 => ?_)
    · replace K := K.1 c41
      refine g_aload_n dX8_steps_34 rfl 0 rfl ?_
      refine g_iload_n dX8_steps_35 rfl 1 rfl ?_
      obtain ⟨e44, K⟩ := K
      obtain ⟨q42, C43, K⟩ := K
      refine g_callV (M' := mX8_opensHere) (b := a0) (As := [.int x1]) (rest := []) (rc' := rc) (rs' := rs) dX8_steps_36 bw_1497 bw_1499 bs_72 bw_9 bw_1500 ⟨by decide +kernel, by decide +kernel, show (parseMethodDescriptor mX8_opensHere.1.desc).map (fun d => d.parameters.length) = some 1 by decide +kernel⟩ (by decide) (by decide) (Nat.le_of_ble_eq_true rfl) fc_8 (by decide) rfl e44 C43 (Nat.le_of_eq (Nat.add_zero _)) (Nat.le_of_eq (Nat.add_zero _)) (fun _ _ h => h) ?_
      rintro _ h45 ⟨r46, rfl, K1⟩ -
      replace K := K r46 h45 K1
      show Gm l x mX8_steps 6 39 [(0, .ref a0), (1, .int x1)] [.int r46] h45 rc rs n0 Q X
      refine g_istore_n (lv' := [(0, .ref a0), (1, .int x1), (2, .int r46)]) dX8_steps_39 rfl (by decide) rfl ?_
      refine g_iload_n dX8_steps_40 rfl 2 rfl ?_
      refine g_if_eq (tgt := 52) dX8_steps_41 (by decide) (fun c47 => ?_) (fun c47 => ?_)
      · replace K := K.1 c47
        refine g_aload_n dX8_steps_52 rfl 0 rfl ?_
        refine g_iload_n dX8_steps_53 rfl 1 rfl ?_
        obtain ⟨e50, K⟩ := K
        obtain ⟨q48, C49, K⟩ := K
        refine g_callV (M' := mX8_goes) (b := a0) (As := [.int x1]) (rest := []) (rc' := rc) (rs' := rs) dX8_steps_54 bw_1548 bw_1550 bs_81 bw_9 bw_1551 ⟨by decide +kernel, by decide +kernel, show (parseMethodDescriptor mX8_goes.1.desc).map (fun d => d.parameters.length) = some 1 by decide +kernel⟩ (by decide) (by decide) (Nat.le_of_ble_eq_true rfl) fc_8 (by decide) rfl e50 C49 (Nat.le_of_eq (Nat.add_zero _)) (Nat.le_of_eq (Nat.add_zero _)) (fun _ _ h => h) ?_
        rintro _ h51 ⟨rfl, K1⟩ -
        replace K := K h51 K1
        show Gm l x mX8_steps 6 57 [(0, .ref a0), (1, .int x1), (2, .int r46)] [] h51 rc rs n0 Q X
        refine g_iload_n dX8_steps_57 rfl 2 rfl ?_
        exact g_zret dX8_steps_58 rfl K.1 K.2
      · replace K := K.2 c47
        refine g_aload_n dX8_steps_44 rfl 0 rfl ?_
        refine g_iload_n dX8_steps_45 rfl 1 rfl ?_
        obtain ⟨e54, K⟩ := K
        obtain ⟨q52, C53, K⟩ := K
        refine g_callV (M' := mX8_opens) (b := a0) (As := [.int x1]) (rest := []) (rc' := rc) (rs' := rs) dX8_steps_46 bw_1518 bw_1520 bs_77 bw_9 bw_1521 ⟨by decide +kernel, by decide +kernel, show (parseMethodDescriptor mX8_opens.1.desc).map (fun d => d.parameters.length) = some 1 by decide +kernel⟩ (by decide) (by decide) (Nat.le_of_ble_eq_true rfl) fc_8 (by decide) rfl e54 C53 (Nat.le_of_eq (Nat.add_zero _)) (Nat.le_of_eq (Nat.add_zero _)) (fun _ _ h => h) ?_
        rintro _ h55 ⟨rfl, K1⟩ -
        replace K := K h55 K1
        show Gm l x mX8_steps 6 49 [(0, .ref a0), (1, .int x1), (2, .int r46)] [] h55 rc rs n0 Q X
        refine g_goto (tgt := 57) dX8_steps_49 (by decide) ?_
        refine g_iload_n dX8_steps_57 rfl 2 rfl ?_
        exact g_zret dX8_steps_58 rfl K.1 K.2
    · replace K := K.2 c41
      refine g_iconst (v := 0) dX8_steps_32 (by decide) ?_
      exact g_zret dX8_steps_33 rfl K.1 K.2
theorem dX8_which_0 : decode cX8_which 0 = .ok (.iconst 0, 1) := by decide +kernel
theorem dX8_which_1 : decode cX8_which 1 = .ok (.istore_n 1, 1) := by decide +kernel
theorem dX8_which_2 : decode cX8_which 2 = .ok (.iload_n 1, 1) := by decide +kernel
theorem dX8_which_3 : decode cX8_which 3 = .ok (.aload_n 0, 1) := by decide +kernel
theorem dX8_which_4 : decode cX8_which 4 = .ok (.getfield 23, 3) := by decide +kernel
theorem dX8_which_7 : decode cX8_which 7 = .ok (.arraylength, 1) := by decide +kernel
theorem dX8_which_8 : decode cX8_which 8 = .ok (.if_icmp .ge 24, 3) := by decide +kernel
theorem dX8_which_11 : decode cX8_which 11 = .ok (.aload_n 0, 1) := by decide +kernel
theorem dX8_which_12 : decode cX8_which 12 = .ok (.aload_n 0, 1) := by decide +kernel
theorem dX8_which_13 : decode cX8_which 13 = .ok (.getfield 23, 3) := by decide +kernel
theorem dX8_which_16 : decode cX8_which 16 = .ok (.iload_n 1, 1) := by decide +kernel
theorem dX8_which_17 : decode cX8_which 17 = .ok (.aaload, 1) := by decide +kernel
theorem dX8_which_18 : decode cX8_which 18 = .ok (.invokevirtual 160, 3) := by decide +kernel
theorem dX8_which_21 : decode cX8_which 21 = .ok (.ifCond .eq 5, 3) := by decide +kernel
theorem dX8_which_24 : decode cX8_which 24 = .ok (.iload_n 1, 1) := by decide +kernel
theorem dX8_which_25 : decode cX8_which 25 = .ok (.ireturn, 1) := by decide +kernel
theorem dX8_which_26 : decode cX8_which 26 = .ok (.iinc 1 1, 3) := by decide +kernel
theorem dX8_which_29 : decode cX8_which 29 = .ok (.goto (-27), 3) := by decide +kernel
theorem dX8_which_32 : decode cX8_which 32 = .ok (.iconst (-1), 1) := by decide +kernel
theorem dX8_which_33 : decode cX8_which 33 = .ok (.ireturn, 1) := by decide +kernel
set_option maxRecDepth 20000 in
set_option maxHeartbeats 4000000 in
theorem vX8_which_0 {l : Launch} {x : CX} {a0 : Nat} {h : PH} {rc rs n0 : Nat} {Q : Option Value → PH → Prop} {X : String → PH → Prop}
    (K : Gm l x mX8_which 7 2 [(0, .ref a0), (1, .int 0)] [] h rc rs n0 Q X) :
    Gm l x mX8_which 7 0 [(0, .ref a0)] [] h rc rs n0 Q X := by
  refine g_iconst (v := 0) dX8_which_0 (by decide) ?_
  refine g_istore_n (lv' := [(0, .ref a0), (1, .int 0)]) dX8_which_1 rfl (by decide) rfl ?_
  exact K
set_option maxRecDepth 20000 in
set_option maxHeartbeats 4000000 in
theorem vX8_which_2 {l : Launch} {x : CX} {a0 : Nat} {x1 : Int32} {h : PH} {rc rs n0 : Nat} {Q : Option Value → PH → Prop} {X : String → PH → Prop}
    (K : ((hK h a0).1 = 8) ∧ ∃ b2, (hR h a0 0 = some b2) ∧ ((hK h b2).1 = 108) ∧ (((Int32.ofNat (hK h b2).2) ≤ x1 → Q (some (.int (-1))) h) ∧ (¬ (Int32.ofNat (hK h b2).2) ≤ x1 → (vp_in x1 (hK h b2).2) ∧ ∃ b7, (hR h b2 x1.toNatClampNeg = some b7) ∧ ∃ (q9 : Int32 → PH → Prop), CI l x mX8_is 6 0 0 [.ref a0, .retAddr b7] h q9 ∧ ∀ (r12 : Int32) (h11 : PH), q9 r12 h11 → ((r12 = 0 → Gm l x mX8_which 7 2 [(0, .ref a0), (1, .int (x1 + 1))] [] h11 rc rs n0 Q X) ∧ (¬ r12 = 0 → Q (some (.int x1)) h11))))) :
    Gm l x mX8_which 7 2 [(0, .ref a0), (1, .int x1)] [] h rc rs n0 Q X := by
  refine g_iload_n dX8_which_2 rfl 1 rfl ?_
  refine g_aload_n dX8_which_3 rfl 0 rfl ?_
  obtain ⟨e1, b2, e3, K⟩ := K
  refine g_get (c := 8) (k := 0) (v := .ref b2) dX8_which_4 fc_8 (by decide) (by decide) bw_1198 (congrArg pr e3) e1 ?_
  obtain ⟨e4, K⟩ := K
  refine g_alen (t := 8) dX8_which_7 (by decide) e4 rfl ?_
  refine g_icmp_ge (tgt := 32) dX8_which_8 (by decide) (fun c5 => ?_) (fun c5 => ?_)
  · replace K := K.1 c5
    refine g_iconst (v := (-1)) dX8_which_32 (by decide) ?_
    exact g_iret dX8_which_33 rfl K
  · replace K := K.2 c5
    refine g_aload_n dX8_which_11 rfl 0 rfl ?_
    refine g_aload_n dX8_which_12 rfl 0 rfl ?_
    refine g_get (c := 8) (k := 0) (v := .ref b2) dX8_which_13 fc_8 (by decide) (by decide) bw_1198 (congrArg pr e3) e1 ?_
    refine g_iload_n dX8_which_16 rfl 1 rfl ?_
    obtain ⟨e6, b7, e8, K⟩ := K
    refine g_sald dX8_which_17 e4 e6 e8 ?_
    obtain ⟨q9, C10, K⟩ := K
    refine g_callV (M' := mX8_is) (b := a0) (As := [.retAddr b7]) (rest := []) (rc' := rc) (rs' := rs) dX8_which_18 bw_1365 bw_1367 bs_44 bw_9 bw_1368 ⟨by decide +kernel, by decide +kernel, show (parseMethodDescriptor mX8_is.1.desc).map (fun d => d.parameters.length) = some 1 by decide +kernel⟩ (by decide) (by decide) (Nat.le_of_ble_eq_true rfl) fc_8 (by decide) rfl e1 C10 (Nat.le_of_eq (Nat.add_zero _)) (Nat.le_of_eq (Nat.add_zero _)) (fun _ _ h => h) ?_
    rintro _ h11 ⟨r12, rfl, K1⟩ -
    replace K := K r12 h11 K1
    show Gm l x mX8_which 7 21 [(0, .ref a0), (1, .int x1)] [.int r12] h11 rc rs n0 Q X
    refine g_if_eq (tgt := 26) dX8_which_21 (by decide) (fun c13 => ?_) (fun c13 => ?_)
    · replace K := K.1 c13
      refine g_iinc (v := (x1 + 1)) (lv' := [(0, .ref a0), (1, .int (x1 + 1))]) dX8_which_26 1 rfl (by rfl) (by decide) rfl ?_
      refine g_goto (tgt := 2) dX8_which_29 (by decide) ?_
      exact K
    · replace K := K.2 c13
      refine g_iload_n dX8_which_24 rfl 1 rfl ?_
      exact g_iret dX8_which_25 rfl K
theorem dX8_readCar_0 : decode cX8_readCar 0 = .ok (.aload_n 0, 1) := by decide +kernel
theorem dX8_readCar_1 : decode cX8_readCar 1 = .ok (.getfield 39, 3) := by decide +kernel
theorem dX8_readCar_4 : decode cX8_readCar 4 = .ok (.iconst 1, 1) := by decide +kernel
theorem dX8_readCar_5 : decode cX8_readCar 5 = .ok (.iaload, 1) := by decide +kernel
theorem dX8_readCar_6 : decode cX8_readCar 6 = .ok (.iconst 4, 1) := by decide +kernel
theorem dX8_readCar_7 : decode cX8_readCar 7 = .ok (.if_icmp .ne 8, 3) := by decide +kernel
theorem dX8_readCar_10 : decode cX8_readCar 10 = .ok (.aload_n 0, 1) := by decide +kernel
theorem dX8_readCar_11 : decode cX8_readCar 11 = .ok (.iconst 2, 1) := by decide +kernel
theorem dX8_readCar_12 : decode cX8_readCar 12 = .ok (.invokevirtual 164, 3) := by decide +kernel
theorem dX8_readCar_15 : decode cX8_readCar 15 = .ok (.aload_n 0, 1) := by decide +kernel
theorem dX8_readCar_16 : decode cX8_readCar 16 = .ok (.getfield 146, 3) := by decide +kernel
theorem dX8_readCar_19 : decode cX8_readCar 19 = .ok (.ifCond .eq 4, 3) := by decide +kernel
theorem dX8_readCar_22 : decode cX8_readCar 22 = .ok (.return_, 1) := by decide +kernel
theorem dX8_readCar_23 : decode cX8_readCar 23 = .ok (.aload_n 0, 1) := by decide +kernel
theorem dX8_readCar_24 : decode cX8_readCar 24 = .ok (.invokevirtual 171, 3) := by decide +kernel
theorem dX8_readCar_27 : decode cX8_readCar 27 = .ok (.iconst 3, 1) := by decide +kernel
theorem dX8_readCar_28 : decode cX8_readCar 28 = .ok (.aload_n 0, 1) := by decide +kernel
theorem dX8_readCar_29 : decode cX8_readCar 29 = .ok (.getfield 39, 3) := by decide +kernel
theorem dX8_readCar_32 : decode cX8_readCar 32 = .ok (.iconst 1, 1) := by decide +kernel
theorem dX8_readCar_33 : decode cX8_readCar 33 = .ok (.iaload, 1) := by decide +kernel
theorem dX8_readCar_34 : decode cX8_readCar 34 = .ok (.imul, 1) := by decide +kernel
theorem dX8_readCar_35 : decode cX8_readCar 35 = .ok (.istore_n 1, 1) := by decide +kernel
theorem dX8_readCar_36 : decode cX8_readCar 36 = .ok (.aload_n 0, 1) := by decide +kernel
theorem dX8_readCar_37 : decode cX8_readCar 37 = .ok (.getfield 45, 3) := by decide +kernel
theorem dX8_readCar_40 : decode cX8_readCar 40 = .ok (.iload_n 1, 1) := by decide +kernel
theorem dX8_readCar_41 : decode cX8_readCar 41 = .ok (.aload_n 0, 1) := by decide +kernel
theorem dX8_readCar_42 : decode cX8_readCar 42 = .ok (.invokevirtual 174, 3) := by decide +kernel
theorem dX8_readCar_45 : decode cX8_readCar 45 = .ok (.iastore, 1) := by decide +kernel
theorem dX8_readCar_46 : decode cX8_readCar 46 = .ok (.aload_n 0, 1) := by decide +kernel
theorem dX8_readCar_47 : decode cX8_readCar 47 = .ok (.getfield 146, 3) := by decide +kernel
theorem dX8_readCar_50 : decode cX8_readCar 50 = .ok (.ifCond .ne 7, 3) := by decide +kernel
theorem dX8_readCar_53 : decode cX8_readCar 53 = .ok (.aload_n 0, 1) := by decide +kernel
theorem dX8_readCar_54 : decode cX8_readCar 54 = .ok (.invokevirtual 171, 3) := by decide +kernel
theorem dX8_readCar_57 : decode cX8_readCar 57 = .ok (.aload_n 0, 1) := by decide +kernel
theorem dX8_readCar_58 : decode cX8_readCar 58 = .ok (.getfield 45, 3) := by decide +kernel
theorem dX8_readCar_61 : decode cX8_readCar 61 = .ok (.iload_n 1, 1) := by decide +kernel
theorem dX8_readCar_62 : decode cX8_readCar 62 = .ok (.iconst 1, 1) := by decide +kernel
theorem dX8_readCar_63 : decode cX8_readCar 63 = .ok (.iadd, 1) := by decide +kernel
theorem dX8_readCar_64 : decode cX8_readCar 64 = .ok (.aload_n 0, 1) := by decide +kernel
theorem dX8_readCar_65 : decode cX8_readCar 65 = .ok (.iconst 1, 1) := by decide +kernel
theorem dX8_readCar_66 : decode cX8_readCar 66 = .ok (.bipush 6, 2) := by decide +kernel
theorem dX8_readCar_68 : decode cX8_readCar 68 = .ok (.invokevirtual 177, 3) := by decide +kernel
theorem dX8_readCar_71 : decode cX8_readCar 71 = .ok (.iastore, 1) := by decide +kernel
theorem dX8_readCar_72 : decode cX8_readCar 72 = .ok (.aload_n 0, 1) := by decide +kernel
theorem dX8_readCar_73 : decode cX8_readCar 73 = .ok (.getfield 45, 3) := by decide +kernel
theorem dX8_readCar_76 : decode cX8_readCar 76 = .ok (.iload_n 1, 1) := by decide +kernel
theorem dX8_readCar_77 : decode cX8_readCar 77 = .ok (.iconst 2, 1) := by decide +kernel
theorem dX8_readCar_78 : decode cX8_readCar 78 = .ok (.iadd, 1) := by decide +kernel
theorem dX8_readCar_79 : decode cX8_readCar 79 = .ok (.aload_n 0, 1) := by decide +kernel
theorem dX8_readCar_80 : decode cX8_readCar 80 = .ok (.ldc 180, 2) := by decide +kernel
theorem dX8_readCar_82 : decode cX8_readCar 82 = .ok (.invokevirtual 160, 3) := by decide +kernel
theorem dX8_readCar_85 : decode cX8_readCar 85 = .ok (.ifCond .eq 7, 3) := by decide +kernel
theorem dX8_readCar_88 : decode cX8_readCar 88 = .ok (.iconst 1, 1) := by decide +kernel
theorem dX8_readCar_89 : decode cX8_readCar 89 = .ok (.goto 17, 3) := by decide +kernel
theorem dX8_readCar_92 : decode cX8_readCar 92 = .ok (.aload_n 0, 1) := by decide +kernel
theorem dX8_readCar_93 : decode cX8_readCar 93 = .ok (.ldc 182, 2) := by decide +kernel
theorem dX8_readCar_95 : decode cX8_readCar 95 = .ok (.invokevirtual 160, 3) := by decide +kernel
theorem dX8_readCar_98 : decode cX8_readCar 98 = .ok (.ifCond .eq 7, 3) := by decide +kernel
theorem dX8_readCar_101 : decode cX8_readCar 101 = .ok (.iconst 2, 1) := by decide +kernel
theorem dX8_readCar_102 : decode cX8_readCar 102 = .ok (.goto 4, 3) := by decide +kernel
theorem dX8_readCar_105 : decode cX8_readCar 105 = .ok (.iconst 0, 1) := by decide +kernel
theorem dX8_readCar_106 : decode cX8_readCar 106 = .ok (.iastore, 1) := by decide +kernel
theorem dX8_readCar_107 : decode cX8_readCar 107 = .ok (.aload_n 0, 1) := by decide +kernel
theorem dX8_readCar_108 : decode cX8_readCar 108 = .ok (.getfield 146, 3) := by decide +kernel
theorem dX8_readCar_111 : decode cX8_readCar 111 = .ok (.ifCond .ne 18, 3) := by decide +kernel
theorem dX8_readCar_114 : decode cX8_readCar 114 = .ok (.aload_n 0, 1) := by decide +kernel
theorem dX8_readCar_115 : decode cX8_readCar 115 = .ok (.getfield 45, 3) := by decide +kernel
theorem dX8_readCar_118 : decode cX8_readCar 118 = .ok (.iload_n 1, 1) := by decide +kernel
theorem dX8_readCar_119 : decode cX8_readCar 119 = .ok (.iconst 2, 1) := by decide +kernel
theorem dX8_readCar_120 : decode cX8_readCar 120 = .ok (.iadd, 1) := by decide +kernel
theorem dX8_readCar_121 : decode cX8_readCar 121 = .ok (.iaload, 1) := by decide +kernel
theorem dX8_readCar_122 : decode cX8_readCar 122 = .ok (.ifCond .le 7, 3) := by decide +kernel
theorem dX8_readCar_125 : decode cX8_readCar 125 = .ok (.aload_n 0, 1) := by decide +kernel
theorem dX8_readCar_126 : decode cX8_readCar 126 = .ok (.invokevirtual 171, 3) := by decide +kernel
theorem dX8_readCar_129 : decode cX8_readCar 129 = .ok (.aload_n 0, 1) := by decide +kernel
theorem dX8_readCar_130 : decode cX8_readCar 130 = .ok (.getfield 39, 3) := by decide +kernel
theorem dX8_readCar_133 : decode cX8_readCar 133 = .ok (.iconst 1, 1) := by decide +kernel
theorem dX8_readCar_134 : decode cX8_readCar 134 = .ok (.dup2, 1) := by decide +kernel
theorem dX8_readCar_135 : decode cX8_readCar 135 = .ok (.iaload, 1) := by decide +kernel
theorem dX8_readCar_136 : decode cX8_readCar 136 = .ok (.iconst 1, 1) := by decide +kernel
theorem dX8_readCar_137 : decode cX8_readCar 137 = .ok (.iadd, 1) := by decide +kernel
theorem dX8_readCar_138 : decode cX8_readCar 138 = .ok (.iastore, 1) := by decide +kernel
theorem dX8_readCar_139 : decode cX8_readCar 139 = .ok (.return_, 1) := by decide +kernel
set_option maxRecDepth 20000 in
set_option maxHeartbeats 4000000 in
theorem vX8_readCar_0 {l : Launch} {x : CX} {a0 : Nat} {h : PH} {rc rs n0 : Nat} {Q : Option Value → PH → Prop} {X : String → PH → Prop}
    (K : ((hK h a0).1 = 8) ∧ ∃ b2, (hR h a0 5 = some b2) ∧ ((hK h b2).1 = 100) ∧ (vp_in 1 (hK h b2).2) ∧ ((¬ (hI h b2 (Int32.toNatClampNeg 1)) = 4 → Gm l x mX8_readCar 7 15 [(0, .ref a0)] [] h rc rs n0 Q X) ∧ ((hI h b2 (Int32.toNatClampNeg 1)) = 4 → ∃ (q7 : PH → Prop), CV l x mX8_wrong 0 0 0 [.ref a0, .int 2] h q7 ∧ ∀ (h9 : PH), q7 h9 → Gm l x mX8_readCar 7 15 [(0, .ref a0)] [] h9 rc rs n0 Q X))) :
    Gm l x mX8_readCar 7 0 [(0, .ref a0)] [] h rc rs n0 Q X := by
  refine g_aload_n dX8_readCar_0 rfl 0 rfl ?_
  obtain ⟨e1, b2, e3, K⟩ := K
  refine g_get (c := 8) (k := 5) (v := .ref b2) dX8_readCar_1 fc_8 (by decide) (by decide) bw_1203 (congrArg pr e3) e1 ?_
  refine g_iconst (v := 1) dX8_readCar_4 (by decide) ?_
  obtain ⟨e4, e5, K⟩ := K
  refine g_iald dX8_readCar_5 e4 e5 ?_
  refine g_iconst (v := 4) dX8_readCar_6 (by decide) ?_
  refine g_icmp_ne (tgt := 15) dX8_readCar_7 (by decide) (fun c6 => ?_) (fun c6 => ?_)
  · replace K := K.1 c6
    exact K
  · replace K := K.2 c6
    refine g_aload_n dX8_readCar_10 rfl 0 rfl ?_
    refine g_iconst (v := 2) dX8_readCar_11 (by decide) ?_
    obtain ⟨q7, C8, K⟩ := K
    refine g_callV (M' := mX8_wrong) (b := a0) (As := [.int 2]) (rest := []) (rc' := rc) (rs' := rs) dX8_readCar_12 bw_1371 bw_1373 bs_45 bw_9 bw_1374 ⟨by decide +kernel, by decide +kernel, show (parseMethodDescriptor mX8_wrong.1.desc).map (fun d => d.parameters.length) = some 1 by decide +kernel⟩ (by decide) (by decide) (Nat.le_of_ble_eq_true rfl) fc_8 (by decide) rfl e1 C8 (Nat.le_of_eq (Nat.add_zero _)) (Nat.le_of_eq (Nat.add_zero _)) (fun _ _ h => h) ?_
    rintro _ h9 ⟨rfl, K1⟩ -
    replace K := K h9 K1
    show Gm l x mX8_readCar 7 15 [(0, .ref a0)] [] h9 rc rs n0 Q X
    exact K
set_option maxRecDepth 20000 in
set_option maxHeartbeats 4000000 in
theorem vX8_readCar_15 {l : Launch} {x : CX} {a0 : Nat} {h : PH} {rc rs n0 : Nat} {Q : Option Value → PH → Prop} {X : String → PH → Prop}
    (K : ((hK h a0).1 = 8) ∧ (((hI h a0 18) = 0 → ∃ (q3 : PH → Prop), CV l x mX8_stepOn 1 0 0 [.ref a0] h q3 ∧ ∀ (h5 : PH), q3 h5 → ((hK h5 a0).1 = 8) ∧ ∃ b7, (hR h5 a0 5 = some b7) ∧ ((hK h5 b7).1 = 100) ∧ (vp_in 1 (hK h5 b7).2) ∧ ∃ b11, (hR h5 a0 7 = some b11) ∧ ∃ (q13 : Int32 → PH → Prop), CI l x mX8_floorNow 2 0 0 [.ref a0] h5 q13 ∧ ∀ (r16 : Int32) (h15 : PH), q13 r16 h15 → ((hK h15 b11).1 = 100) ∧ (vp_in (3 * (hI h5 b7 (Int32.toNatClampNeg 1))) (hK h15 b11).2) ∧ ((hK h15 a0).1 = 8) ∧ ((¬ (hI (sI h15 b11 (3 * (hI h5 b7 (Int32.toNatClampNeg 1))).toNatClampNeg r16) a0 18) = 0 → Gm l x mX8_readCar 7 57 [(0, .ref a0), (1, .int (3 * (hI h5 b7 (Int32.toNatClampNeg 1))))] [] (sI h15 b11 (3 * (hI h5 b7 (Int32.toNatClampNeg 1))).toNatClampNeg r16) rc rs n0 Q X) ∧ ((hI (sI h15 b11 (3 * (hI h5 b7 (Int32.toNatClampNeg 1))).toNatClampNeg r16) a0 18) = 0 → ∃ (q21 : PH → Prop), CV l x mX8_stepOn 1 0 0 [.ref a0] (sI h15 b11 (3 * (hI h5 b7 (Int32.toNatClampNeg 1))).toNatClampNeg r16) q21 ∧ ∀ (h23 : PH), q21 h23 → Gm l x mX8_readCar 7 57 [(0, .ref a0), (1, .int (3 * (hI h5 b7 (Int32.toNatClampNeg 1))))] [] h23 rc rs n0 Q X))) ∧ (¬ (hI h a0 18) = 0 → Q none h))) :
    Gm l x mX8_readCar 7 15 [(0, .ref a0)] [] h rc rs n0 Q X := by
  refine g_aload_n dX8_readCar_15 rfl 0 rfl ?_
  obtain ⟨e1, K⟩ := K
  refine g_get (c := 8) (k := 18) (v := .int (hI h a0 18)) dX8_readCar_16 fc_8 (by decide) (by decide) bw_1216 rfl e1 ?_
  refine g_if_eq (tgt := 23) dX8_readCar_19 (by decide) (fun c2 => ?_) (fun c2 => ?_)
  · replace K := K.1 c2
    refine g_aload_n dX8_readCar_23 rfl 0 rfl ?_
    obtain ⟨q3, C4, K⟩ := K
    refine g_callV (M' := mX8_stepOn) (b := a0) (As := []) (rest := []) (rc' := rc) (rs' := rs) dX8_readCar_24 bw_1341 bw_1343 bs_40 bw_9 bw_1344 ⟨by decide +kernel, by decide +kernel, show (parseMethodDescriptor mX8_stepOn.1.desc).map (fun d => d.parameters.length) = some 0 by decide +kernel⟩ (by decide) (by decide) (Nat.le_of_ble_eq_true rfl) fc_8 (by decide) rfl e1 C4 (Nat.le_of_eq (Nat.add_zero _)) (Nat.le_of_eq (Nat.add_zero _)) (fun _ _ h => h) ?_
    rintro _ h5 ⟨rfl, K1⟩ -
    replace K := K h5 K1
    show Gm l x mX8_readCar 7 27 [(0, .ref a0)] [] h5 rc rs n0 Q X
    refine g_iconst (v := 3) dX8_readCar_27 (by decide) ?_
    refine g_aload_n dX8_readCar_28 rfl 0 rfl ?_
    obtain ⟨e6, b7, e8, K⟩ := K
    refine g_get (c := 8) (k := 5) (v := .ref b7) dX8_readCar_29 fc_8 (by decide) (by decide) bw_1203 (congrArg pr e8) e6 ?_
    refine g_iconst (v := 1) dX8_readCar_32 (by decide) ?_
    obtain ⟨e9, e10, K⟩ := K
    refine g_iald dX8_readCar_33 e9 e10 ?_
    refine g_imul dX8_readCar_34 ?_
    refine g_istore_n (lv' := [(0, .ref a0), (1, .int (3 * (hI h5 b7 (Int32.toNatClampNeg 1))))]) dX8_readCar_35 rfl (by decide) rfl ?_
    refine g_aload_n dX8_readCar_36 rfl 0 rfl ?_
    obtain ⟨b11, e12, K⟩ := K
    refine g_get (c := 8) (k := 7) (v := .ref b11) dX8_readCar_37 fc_8 (by decide) (by decide) bw_1205 (congrArg pr e12) e6 ?_
    refine g_iload_n dX8_readCar_40 rfl 1 rfl ?_
    refine g_aload_n dX8_readCar_41 rfl 0 rfl ?_
    obtain ⟨q13, C14, K⟩ := K
    refine g_callV (M' := mX8_floorNow) (b := a0) (As := []) (rest := [.int (3 * (hI h5 b7 (Int32.toNatClampNeg 1))), .ref b11]) (rc' := rc) (rs' := rs) dX8_readCar_42 bw_1379 bw_1381 bs_47 bw_9 bw_1382 ⟨by decide +kernel, by decide +kernel, show (parseMethodDescriptor mX8_floorNow.1.desc).map (fun d => d.parameters.length) = some 0 by decide +kernel⟩ (by decide) (by decide) (Nat.le_of_ble_eq_true rfl) fc_8 (by decide) rfl e6 C14 (Nat.le_of_eq (Nat.add_zero _)) (Nat.le_of_eq (Nat.add_zero _)) (fun _ _ h => h) ?_
    rintro _ h15 ⟨r16, rfl, K1⟩ -
    replace K := K r16 h15 K1
    show Gm l x mX8_readCar 7 45 [(0, .ref a0), (1, .int (3 * (hI h5 b7 (Int32.toNatClampNeg 1))))] [.int r16, .int (3 * (hI h5 b7 (Int32.toNatClampNeg 1))), .ref b11] h15 rc rs n0 Q X
    obtain ⟨e17, e18, K⟩ := K
    refine g_iast dX8_readCar_45 e17 e18 ?_
    refine g_aload_n dX8_readCar_46 rfl 0 rfl ?_
    obtain ⟨e19, K⟩ := K
    refine g_get (c := 8) (k := 18) (v := .int (hI (sI h15 b11 (3 * (hI h5 b7 (Int32.toNatClampNeg 1))).toNatClampNeg r16) a0 18)) dX8_readCar_47 fc_8 (by decide) (by decide) bw_1216 rfl (kkI e19) ?_
    refine g_if_ne (tgt := 57) dX8_readCar_50 (by decide) (fun c20 => ?_) (fun c20 => ?_)
    · replace K := K.1 c20
      exact K
    · replace K := K.2 c20
      refine g_aload_n dX8_readCar_53 rfl 0 rfl ?_
      obtain ⟨q21, C22, K⟩ := K
      refine g_callV (M' := mX8_stepOn) (b := a0) (As := []) (rest := []) (rc' := rc) (rs' := rs) dX8_readCar_54 bw_1341 bw_1343 bs_40 bw_9 bw_1344 ⟨by decide +kernel, by decide +kernel, show (parseMethodDescriptor mX8_stepOn.1.desc).map (fun d => d.parameters.length) = some 0 by decide +kernel⟩ (by decide) (by decide) (Nat.le_of_ble_eq_true rfl) fc_8 (by decide) rfl (kkI e19) C22 (Nat.le_of_eq (Nat.add_zero _)) (Nat.le_of_eq (Nat.add_zero _)) (fun _ _ h => h) ?_
      rintro _ h23 ⟨rfl, K1⟩ -
      replace K := K h23 K1
      show Gm l x mX8_readCar 7 57 [(0, .ref a0), (1, .int (3 * (hI h5 b7 (Int32.toNatClampNeg 1))))] [] h23 rc rs n0 Q X
      exact K
  · replace K := K.2 c2
    exact g_vret dX8_readCar_22 rfl K
set_option maxRecDepth 20000 in
set_option maxHeartbeats 4000000 in
theorem vX8_readCar_57 {l : Launch} {x : CX} {a0 : Nat} {x1 : Int32} {h : PH} {rc rs n0 : Nat} {Q : Option Value → PH → Prop} {X : String → PH → Prop}
    (K : ((hK h a0).1 = 8) ∧ ∃ b2, (hR h a0 7 = some b2) ∧ ∃ (q4 : Int32 → PH → Prop), CI l x mX8_readNumber 2 0 0 [.ref a0, .int 1, .int 6] h q4 ∧ ∀ (r7 : Int32) (h6 : PH), q4 r7 h6 → ((hK h6 b2).1 = 100) ∧ (vp_in (x1 + 1) (hK h6 b2).2) ∧ ((hK h6 a0).1 = 8) ∧ ∃ b11, (hR h6 a0 7 = some b11) ∧ (TxtOk x RX8 180 "persons" 17) ∧ ∃ (q14 : Int32 → PH → Prop), CI l x mX8_is 6 0 0 [.ref a0, .retAddr 17] (sI h6 b2 (x1 + 1).toNatClampNeg r7) q14 ∧ ∀ (r17 : Int32) (h16 : PH), q14 r17 h16 → ((r17 = 0 → (TxtOk x RX8 182 "parcels" 18) ∧ ((hK h16 a0).1 = 8) ∧ ∃ (q20 : Int32 → PH → Prop), CI l x mX8_is 6 0 0 [.ref a0, .retAddr 18] h16 q20 ∧ ∀ (r24 : Int32) (h23 : PH), q20 r24 h23 → ((hK h23 b11).1 = 100) ∧ (vp_in (x1 + 2) (hK h23 b11).2) ∧ ((hK h23 a0).1 = 8) ∧ ((¬ (hI (sI h23 b11 (x1 + 2).toNatClampNeg (if r24 = 0 then 0 else 2 : Int32)) a0 18) = 0 → ∃ b30, (hR h23 a0 5 = some b30) ∧ ((hK h23 b30).1 = 100) ∧ (vp_in 1 (hK h23 b30).2) ∧ (vp_in 1 (hK h23 b30).2) ∧ Q none (sI (sI h23 b11 (x1 + 2).toNatClampNeg (if r24 = 0 then 0 else 2 : Int32)) b30 (Int32.toNatClampNeg 1) ((hI (sI h23 b11 (x1 + 2).toNatClampNeg (if r24 = 0 then 0 else 2 : Int32)) b30 (Int32.toNatClampNeg 1)) + 1))) ∧ ((hI (sI h23 b11 (x1 + 2).toNatClampNeg (if r24 = 0 then 0 else 2 : Int32)) a0 18) = 0 → ∃ b35, (hR h23 a0 7 = some b35) ∧ ((hK h23 b35).1 = 100) ∧ (vp_in (x1 + 2) (hK h23 b35).2) ∧ (((hI (sI h23 b11 (x1 + 2).toNatClampNeg (if r24 = 0 then 0 else 2 : Int32)) b35 (x1 + 2).toNatClampNeg) ≤ 0 → ∃ b40, (hR h23 a0 5 = some b40) ∧ ((hK h23 b40).1 = 100) ∧ (vp_in 1 (hK h23 b40).2) ∧ (vp_in 1 (hK h23 b40).2) ∧ Q none (sI (sI h23 b11 (x1 + 2).toNatClampNeg (if r24 = 0 then 0 else 2 : Int32)) b40 (Int32.toNatClampNeg 1) ((hI (sI h23 b11 (x1 + 2).toNatClampNeg (if r24 = 0 then 0 else 2 : Int32)) b40 (Int32.toNatClampNeg 1)) + 1))) ∧ (¬ (hI (sI h23 b11 (x1 + 2).toNatClampNeg (if r24 = 0 then 0 else 2 : Int32)) b35 (x1 + 2).toNatClampNeg) ≤ 0 → ∃ (q45 : PH → Prop), CV l x mX8_stepOn 1 0 0 [.ref a0] (sI h23 b11 (x1 + 2).toNatClampNeg (if r24 = 0 then 0 else 2 : Int32)) q45 ∧ ∀ (h47 : PH), q45 h47 → ((hK h47 a0).1 = 8) ∧ ∃ b49, (hR h47 a0 5 = some b49) ∧ ((hK h47 b49).1 = 100) ∧ (vp_in 1 (hK h47 b49).2) ∧ (vp_in 1 (hK h47 b49).2) ∧ Q none (sI h47 b49 (Int32.toNatClampNeg 1) ((hI h47 b49 (Int32.toNatClampNeg 1)) + 1))))))) ∧ (¬ r17 = 0 → ((hK h16 b11).1 = 100) ∧ (vp_in (x1 + 2) (hK h16 b11).2) ∧ ((hK h16 a0).1 = 8) ∧ ((¬ (hI (sI h16 b11 (x1 + 2).toNatClampNeg 1) a0 18) = 0 → ∃ b58, (hR h16 a0 5 = some b58) ∧ ((hK h16 b58).1 = 100) ∧ (vp_in 1 (hK h16 b58).2) ∧ (vp_in 1 (hK h16 b58).2) ∧ Q none (sI (sI h16 b11 (x1 + 2).toNatClampNeg 1) b58 (Int32.toNatClampNeg 1) ((hI (sI h16 b11 (x1 + 2).toNatClampNeg 1) b58 (Int32.toNatClampNeg 1)) + 1))) ∧ ((hI (sI h16 b11 (x1 + 2).toNatClampNeg 1) a0 18) = 0 → ∃ b63, (hR h16 a0 7 = some b63) ∧ ((hK h16 b63).1 = 100) ∧ (vp_in (x1 + 2) (hK h16 b63).2) ∧ (((hI (sI h16 b11 (x1 + 2).toNatClampNeg 1) b63 (x1 + 2).toNatClampNeg) ≤ 0 → ∃ b68, (hR h16 a0 5 = some b68) ∧ ((hK h16 b68).1 = 100) ∧ (vp_in 1 (hK h16 b68).2) ∧ (vp_in 1 (hK h16 b68).2) ∧ Q none (sI (sI h16 b11 (x1 + 2).toNatClampNeg 1) b68 (Int32.toNatClampNeg 1) ((hI (sI h16 b11 (x1 + 2).toNatClampNeg 1) b68 (Int32.toNatClampNeg 1)) + 1))) ∧ (¬ (hI (sI h16 b11 (x1 + 2).toNatClampNeg 1) b63 (x1 + 2).toNatClampNeg) ≤ 0 → ∃ (q73 : PH → Prop), CV l x mX8_stepOn 1 0 0 [.ref a0] (sI h16 b11 (x1 + 2).toNatClampNeg 1) q73 ∧ ∀ (h75 : PH), q73 h75 → ((hK h75 a0).1 = 8) ∧ ∃ b77, (hR h75 a0 5 = some b77) ∧ ((hK h75 b77).1 = 100) ∧ (vp_in 1 (hK h75 b77).2) ∧ (vp_in 1 (hK h75 b77).2) ∧ Q none (sI h75 b77 (Int32.toNatClampNeg 1) ((hI h75 b77 (Int32.toNatClampNeg 1)) + 1))))))))) :
    Gm l x mX8_readCar 7 57 [(0, .ref a0), (1, .int x1)] [] h rc rs n0 Q X := by
  refine g_aload_n dX8_readCar_57 rfl 0 rfl ?_
  obtain ⟨e1, b2, e3, K⟩ := K
  refine g_get (c := 8) (k := 7) (v := .ref b2) dX8_readCar_58 fc_8 (by decide) (by decide) bw_1205 (congrArg pr e3) e1 ?_
  refine g_iload_n dX8_readCar_61 rfl 1 rfl ?_
  refine g_iconst (v := 1) dX8_readCar_62 (by decide) ?_
  refine g_iadd dX8_readCar_63 ?_
  refine g_aload_n dX8_readCar_64 rfl 0 rfl ?_
  refine g_iconst (v := 1) dX8_readCar_65 (by decide) ?_
  refine g_bipush (v := 6) dX8_readCar_66 (by decide) ?_
  obtain ⟨q4, C5, K⟩ := K
  refine g_callV (M' := mX8_readNumber) (b := a0) (As := [.int 1, .int 6]) (rest := [.int (x1 + 1), .ref b2]) (rc' := rc) (rs' := rs) dX8_readCar_68 bw_1387 bw_1389 bs_49 bw_9 bw_1390 ⟨by decide +kernel, by decide +kernel, show (parseMethodDescriptor mX8_readNumber.1.desc).map (fun d => d.parameters.length) = some 2 by decide +kernel⟩ (by decide) (by decide) (Nat.le_of_ble_eq_true rfl) fc_8 (by decide) rfl e1 C5 (Nat.le_of_eq (Nat.add_zero _)) (Nat.le_of_eq (Nat.add_zero _)) (fun _ _ h => h) ?_
  rintro _ h6 ⟨r7, rfl, K1⟩ -
  replace K := K r7 h6 K1
  show Gm l x mX8_readCar 7 71 [(0, .ref a0), (1, .int x1)] [.int r7, .int (x1 + 1), .ref b2] h6 rc rs n0 Q X
  obtain ⟨e8, e9, K⟩ := K
  refine g_iast dX8_readCar_71 e8 e9 ?_
  refine g_aload_n dX8_readCar_72 rfl 0 rfl ?_
  obtain ⟨e10, b11, e12, K⟩ := K
  refine g_get (c := 8) (k := 7) (v := .ref b11) dX8_readCar_73 fc_8 (by decide) (by decide) bw_1205 (congrArg pr (krI e12)) (kkI e10) ?_
  refine g_iload_n dX8_readCar_76 rfl 1 rfl ?_
  refine g_iconst (v := 2) dX8_readCar_77 (by decide) ?_
  refine g_iadd dX8_readCar_78 ?_
  refine g_aload_n dX8_readCar_79 rfl 0 rfl ?_
  obtain ⟨z13, K⟩ := K
  refine g_ldcS (j := 17) dX8_readCar_80 z13 ?_
  obtain ⟨q14, C15, K⟩ := K
  refine g_callV (M' := mX8_is) (b := a0) (As := [.retAddr 17]) (rest := [.int (x1 + 2), .ref b11]) (rc' := rc) (rs' := rs) dX8_readCar_82 bw_1365 bw_1367 bs_44 bw_9 bw_1368 ⟨by decide +kernel, by decide +kernel, show (parseMethodDescriptor mX8_is.1.desc).map (fun d => d.parameters.length) = some 1 by decide +kernel⟩ (by decide) (by decide) (Nat.le_of_ble_eq_true rfl) fc_8 (by decide) rfl (kkI e10) C15 (Nat.le_of_eq (Nat.add_zero _)) (Nat.le_of_eq (Nat.add_zero _)) (fun _ _ h => h) ?_
  rintro _ h16 ⟨r17, rfl, K1⟩ -
  replace K := K r17 h16 K1
  show Gm l x mX8_readCar 7 85 [(0, .ref a0), (1, .int x1)] [.int r17, .int (x1 + 2), .ref b11] h16 rc rs n0 Q X
  refine g_if_eq (tgt := 92) dX8_readCar_85 (by decide) (fun c18 => ?_) (fun c18 => ?_)
  · replace K := K.1 c18
    refine g_aload_n dX8_readCar_92 rfl 0 rfl ?_
    obtain ⟨z19, K⟩ := K
    refine g_ldcS (j := 18) dX8_readCar_93 z19 ?_
    obtain ⟨e22, K⟩ := K
    obtain ⟨q20, C21, K⟩ := K
    refine g_callV (M' := mX8_is) (b := a0) (As := [.retAddr 18]) (rest := [.int (x1 + 2), .ref b11]) (rc' := rc) (rs' := rs) dX8_readCar_95 bw_1365 bw_1367 bs_44 bw_9 bw_1368 ⟨by decide +kernel, by decide +kernel, show (parseMethodDescriptor mX8_is.1.desc).map (fun d => d.parameters.length) = some 1 by decide +kernel⟩ (by decide) (by decide) (Nat.le_of_ble_eq_true rfl) fc_8 (by decide) rfl e22 C21 (Nat.le_of_eq (Nat.add_zero _)) (Nat.le_of_eq (Nat.add_zero _)) (fun _ _ h => h) ?_
    rintro _ h23 ⟨r24, rfl, K1⟩ -
    replace K := K r24 h23 K1
    show Gm l x mX8_readCar 7 98 [(0, .ref a0), (1, .int x1)] [.int r24, .int (x1 + 2), .ref b11] h23 rc rs n0 Q X
    have KJ : Gm l x mX8_readCar 7 106 [(0, .ref a0), (1, .int x1)] [.int (if r24 = 0 then 0 else 2 : Int32), .int (x1 + 2), .ref b11] h23 rc rs n0 Q X := by
      obtain ⟨e26, e27, K⟩ := K
      refine g_iast dX8_readCar_106 e26 e27 ?_
      refine g_aload_n dX8_readCar_107 rfl 0 rfl ?_
      obtain ⟨e28, K⟩ := K
      refine g_get (c := 8) (k := 18) (v := .int (hI (sI h23 b11 (x1 + 2).toNatClampNeg (if r24 = 0 then 0 else 2 : Int32)) a0 18)) dX8_readCar_108 fc_8 (by decide) (by decide) bw_1216 rfl (kkI e28) ?_
      refine g_if_ne (tgt := 129) dX8_readCar_111 (by decide) (fun c29 => ?_) (fun c29 => ?_)
      · replace K := K.1 c29
        refine g_aload_n dX8_readCar_129 rfl 0 rfl ?_
        obtain ⟨b30, e31, K⟩ := K
        refine g_get (c := 8) (k := 5) (v := .ref b30) dX8_readCar_130 fc_8 (by decide) (by decide) bw_1203 (congrArg pr (krI e31)) (kkI e28) ?_
        refine g_iconst (v := 1) dX8_readCar_133 (by decide) ?_
        refine g_dup2 dX8_readCar_134 rfl rfl ?_
        obtain ⟨e32, e33, K⟩ := K
        refine g_iald dX8_readCar_135 (kkI e32) (kvI e33) ?_
        refine g_iconst (v := 1) dX8_readCar_136 (by decide) ?_
        refine g_iadd dX8_readCar_137 ?_
        obtain ⟨e34, K⟩ := K
        refine g_iast dX8_readCar_138 (kkI e32) (kvI e34) ?_
        exact g_vret dX8_readCar_139 rfl K
      · replace K := K.2 c29
        refine g_aload_n dX8_readCar_114 rfl 0 rfl ?_
        obtain ⟨b35, e36, K⟩ := K
        refine g_get (c := 8) (k := 7) (v := .ref b35) dX8_readCar_115 fc_8 (by decide) (by decide) bw_1205 (congrArg pr (krI e36)) (kkI e28) ?_
        refine g_iload_n dX8_readCar_118 rfl 1 rfl ?_
        refine g_iconst (v := 2) dX8_readCar_119 (by decide) ?_
        refine g_iadd dX8_readCar_120 ?_
        obtain ⟨e37, e38, K⟩ := K
        refine g_iald dX8_readCar_121 (kkI e37) (kvI e38) ?_
        refine g_if_le (tgt := 129) dX8_readCar_122 (by decide) (fun c39 => ?_) (fun c39 => ?_)
        · replace K := K.1 c39
          refine g_aload_n dX8_readCar_129 rfl 0 rfl ?_
          obtain ⟨b40, e41, K⟩ := K
          refine g_get (c := 8) (k := 5) (v := .ref b40) dX8_readCar_130 fc_8 (by decide) (by decide) bw_1203 (congrArg pr (krI e41)) (kkI e28) ?_
          refine g_iconst (v := 1) dX8_readCar_133 (by decide) ?_
          refine g_dup2 dX8_readCar_134 rfl rfl ?_
          obtain ⟨e42, e43, K⟩ := K
          refine g_iald dX8_readCar_135 (kkI e42) (kvI e43) ?_
          refine g_iconst (v := 1) dX8_readCar_136 (by decide) ?_
          refine g_iadd dX8_readCar_137 ?_
          obtain ⟨e44, K⟩ := K
          refine g_iast dX8_readCar_138 (kkI e42) (kvI e44) ?_
          exact g_vret dX8_readCar_139 rfl K
        · replace K := K.2 c39
          refine g_aload_n dX8_readCar_125 rfl 0 rfl ?_
          obtain ⟨q45, C46, K⟩ := K
          refine g_callV (M' := mX8_stepOn) (b := a0) (As := []) (rest := []) (rc' := rc) (rs' := rs) dX8_readCar_126 bw_1341 bw_1343 bs_40 bw_9 bw_1344 ⟨by decide +kernel, by decide +kernel, show (parseMethodDescriptor mX8_stepOn.1.desc).map (fun d => d.parameters.length) = some 0 by decide +kernel⟩ (by decide) (by decide) (Nat.le_of_ble_eq_true rfl) fc_8 (by decide) rfl (kkI e28) C46 (Nat.le_of_eq (Nat.add_zero _)) (Nat.le_of_eq (Nat.add_zero _)) (fun _ _ h => h) ?_
          rintro _ h47 ⟨rfl, K1⟩ -
          replace K := K h47 K1
          show Gm l x mX8_readCar 7 129 [(0, .ref a0), (1, .int x1)] [] h47 rc rs n0 Q X
          refine g_aload_n dX8_readCar_129 rfl 0 rfl ?_
          obtain ⟨e48, b49, e50, K⟩ := K
          refine g_get (c := 8) (k := 5) (v := .ref b49) dX8_readCar_130 fc_8 (by decide) (by decide) bw_1203 (congrArg pr e50) e48 ?_
          refine g_iconst (v := 1) dX8_readCar_133 (by decide) ?_
          refine g_dup2 dX8_readCar_134 rfl rfl ?_
          obtain ⟨e51, e52, K⟩ := K
          refine g_iald dX8_readCar_135 e51 e52 ?_
          refine g_iconst (v := 1) dX8_readCar_136 (by decide) ?_
          refine g_iadd dX8_readCar_137 ?_
          obtain ⟨e53, K⟩ := K
          refine g_iast dX8_readCar_138 e51 e53 ?_
          exact g_vret dX8_readCar_139 rfl K
    refine g_if_eq (tgt := 105) dX8_readCar_98 (by decide) (fun c25 => ?_) (fun c25 => ?_)
    · refine g_iconst (v := 0) dX8_readCar_105 (by decide) ?_
      first | (simp only [if_pos c25] at KJ; exact KJ) | (simp only [if_pos c25, ite_true, ite_false, eq_self] at KJ; exact KJ) | (simp only [if_pos c25] at KJ ⊢; exact KJ) | exact KJ
    · refine g_iconst (v := 2) dX8_readCar_101 (by decide) ?_
      refine g_goto (tgt := 106) dX8_readCar_102 (by decide) ?_
      first | (simp only [if_neg c25] at KJ; exact KJ) | (simp only [if_neg c25, ite_true, ite_false, eq_self] at KJ; exact KJ) | (simp only [if_neg c25] at KJ ⊢; exact KJ) | exact KJ
  · replace K := K.2 c18
    refine g_iconst (v := 1) dX8_readCar_88 (by decide) ?_
    refine g_goto (tgt := 106) dX8_readCar_89 (by decide) ?_
    obtain ⟨e54, e55, K⟩ := K
    refine g_iast dX8_readCar_106 e54 e55 ?_
    refine g_aload_n dX8_readCar_107 rfl 0 rfl ?_
    obtain ⟨e56, K⟩ := K
    refine g_get (c := 8) (k := 18) (v := .int (hI (sI h16 b11 (x1 + 2).toNatClampNeg 1) a0 18)) dX8_readCar_108 fc_8 (by decide) (by decide) bw_1216 rfl (kkI e56) ?_
    refine g_if_ne (tgt := 129) dX8_readCar_111 (by decide) (fun c57 => ?_) (fun c57 => ?_)
    · replace K := K.1 c57
      refine g_aload_n dX8_readCar_129 rfl 0 rfl ?_
      obtain ⟨b58, e59, K⟩ := K
      refine g_get (c := 8) (k := 5) (v := .ref b58) dX8_readCar_130 fc_8 (by decide) (by decide) bw_1203 (congrArg pr (krI e59)) (kkI e56) ?_
      refine g_iconst (v := 1) dX8_readCar_133 (by decide) ?_
      refine g_dup2 dX8_readCar_134 rfl rfl ?_
      obtain ⟨e60, e61, K⟩ := K
      refine g_iald dX8_readCar_135 (kkI e60) (kvI e61) ?_
      refine g_iconst (v := 1) dX8_readCar_136 (by decide) ?_
      refine g_iadd dX8_readCar_137 ?_
      obtain ⟨e62, K⟩ := K
      refine g_iast dX8_readCar_138 (kkI e60) (kvI e62) ?_
      exact g_vret dX8_readCar_139 rfl K
    · replace K := K.2 c57
      refine g_aload_n dX8_readCar_114 rfl 0 rfl ?_
      obtain ⟨b63, e64, K⟩ := K
      refine g_get (c := 8) (k := 7) (v := .ref b63) dX8_readCar_115 fc_8 (by decide) (by decide) bw_1205 (congrArg pr (krI e64)) (kkI e56) ?_
      refine g_iload_n dX8_readCar_118 rfl 1 rfl ?_
      refine g_iconst (v := 2) dX8_readCar_119 (by decide) ?_
      refine g_iadd dX8_readCar_120 ?_
      obtain ⟨e65, e66, K⟩ := K
      refine g_iald dX8_readCar_121 (kkI e65) (kvI e66) ?_
      refine g_if_le (tgt := 129) dX8_readCar_122 (by decide) (fun c67 => ?_) (fun c67 => ?_)
      · replace K := K.1 c67
        refine g_aload_n dX8_readCar_129 rfl 0 rfl ?_
        obtain ⟨b68, e69, K⟩ := K
        refine g_get (c := 8) (k := 5) (v := .ref b68) dX8_readCar_130 fc_8 (by decide) (by decide) bw_1203 (congrArg pr (krI e69)) (kkI e56) ?_
        refine g_iconst (v := 1) dX8_readCar_133 (by decide) ?_
        refine g_dup2 dX8_readCar_134 rfl rfl ?_
        obtain ⟨e70, e71, K⟩ := K
        refine g_iald dX8_readCar_135 (kkI e70) (kvI e71) ?_
        refine g_iconst (v := 1) dX8_readCar_136 (by decide) ?_
        refine g_iadd dX8_readCar_137 ?_
        obtain ⟨e72, K⟩ := K
        refine g_iast dX8_readCar_138 (kkI e70) (kvI e72) ?_
        exact g_vret dX8_readCar_139 rfl K
      · replace K := K.2 c67
        refine g_aload_n dX8_readCar_125 rfl 0 rfl ?_
        obtain ⟨q73, C74, K⟩ := K
        refine g_callV (M' := mX8_stepOn) (b := a0) (As := []) (rest := []) (rc' := rc) (rs' := rs) dX8_readCar_126 bw_1341 bw_1343 bs_40 bw_9 bw_1344 ⟨by decide +kernel, by decide +kernel, show (parseMethodDescriptor mX8_stepOn.1.desc).map (fun d => d.parameters.length) = some 0 by decide +kernel⟩ (by decide) (by decide) (Nat.le_of_ble_eq_true rfl) fc_8 (by decide) rfl (kkI e56) C74 (Nat.le_of_eq (Nat.add_zero _)) (Nat.le_of_eq (Nat.add_zero _)) (fun _ _ h => h) ?_
        rintro _ h75 ⟨rfl, K1⟩ -
        replace K := K h75 K1
        show Gm l x mX8_readCar 7 129 [(0, .ref a0), (1, .int x1)] [] h75 rc rs n0 Q X
        refine g_aload_n dX8_readCar_129 rfl 0 rfl ?_
        obtain ⟨e76, b77, e78, K⟩ := K
        refine g_get (c := 8) (k := 5) (v := .ref b77) dX8_readCar_130 fc_8 (by decide) (by decide) bw_1203 (congrArg pr e78) e76 ?_
        refine g_iconst (v := 1) dX8_readCar_133 (by decide) ?_
        refine g_dup2 dX8_readCar_134 rfl rfl ?_
        obtain ⟨e79, e80, K⟩ := K
        refine g_iald dX8_readCar_135 e79 e80 ?_
        refine g_iconst (v := 1) dX8_readCar_136 (by decide) ?_
        refine g_iadd dX8_readCar_137 ?_
        obtain ⟨e81, K⟩ := K
        refine g_iast dX8_readCar_138 e79 e81 ?_
        exact g_vret dX8_readCar_139 rfl K
theorem dX8_readRider_0 : decode cX8_readRider 0 = .ok (.aload_n 0, 1) := by decide +kernel
theorem dX8_readRider_1 : decode cX8_readRider 1 = .ok (.getfield 39, 3) := by decide +kernel
theorem dX8_readRider_4 : decode cX8_readRider 4 = .ok (.iconst 2, 1) := by decide +kernel
theorem dX8_readRider_5 : decode cX8_readRider 5 = .ok (.iaload, 1) := by decide +kernel
theorem dX8_readRider_6 : decode cX8_readRider 6 = .ok (.bipush 20, 2) := by decide +kernel
theorem dX8_readRider_8 : decode cX8_readRider 8 = .ok (.if_icmp .ne 8, 3) := by decide +kernel
theorem dX8_readRider_11 : decode cX8_readRider 11 = .ok (.aload_n 0, 1) := by decide +kernel
theorem dX8_readRider_12 : decode cX8_readRider 12 = .ok (.iconst 2, 1) := by decide +kernel
theorem dX8_readRider_13 : decode cX8_readRider 13 = .ok (.invokevirtual 164, 3) := by decide +kernel
theorem dX8_readRider_16 : decode cX8_readRider 16 = .ok (.aload_n 0, 1) := by decide +kernel
theorem dX8_readRider_17 : decode cX8_readRider 17 = .ok (.getfield 146, 3) := by decide +kernel
theorem dX8_readRider_20 : decode cX8_readRider 20 = .ok (.ifCond .eq 4, 3) := by decide +kernel
theorem dX8_readRider_23 : decode cX8_readRider 23 = .ok (.return_, 1) := by decide +kernel
theorem dX8_readRider_24 : decode cX8_readRider 24 = .ok (.aload_n 0, 1) := by decide +kernel
theorem dX8_readRider_25 : decode cX8_readRider 25 = .ok (.invokevirtual 171, 3) := by decide +kernel
theorem dX8_readRider_28 : decode cX8_readRider 28 = .ok (.iconst 4, 1) := by decide +kernel
theorem dX8_readRider_29 : decode cX8_readRider 29 = .ok (.aload_n 0, 1) := by decide +kernel
theorem dX8_readRider_30 : decode cX8_readRider 30 = .ok (.getfield 39, 3) := by decide +kernel
theorem dX8_readRider_33 : decode cX8_readRider 33 = .ok (.iconst 2, 1) := by decide +kernel
theorem dX8_readRider_34 : decode cX8_readRider 34 = .ok (.iaload, 1) := by decide +kernel
theorem dX8_readRider_35 : decode cX8_readRider 35 = .ok (.imul, 1) := by decide +kernel
theorem dX8_readRider_36 : decode cX8_readRider 36 = .ok (.istore_n 1, 1) := by decide +kernel
theorem dX8_readRider_37 : decode cX8_readRider 37 = .ok (.aload_n 0, 1) := by decide +kernel
theorem dX8_readRider_38 : decode cX8_readRider 38 = .ok (.getfield 51, 3) := by decide +kernel
theorem dX8_readRider_41 : decode cX8_readRider 41 = .ok (.iload_n 1, 1) := by decide +kernel
theorem dX8_readRider_42 : decode cX8_readRider 42 = .ok (.iconst 1, 1) := by decide +kernel
theorem dX8_readRider_43 : decode cX8_readRider 43 = .ok (.iadd, 1) := by decide +kernel
theorem dX8_readRider_44 : decode cX8_readRider 44 = .ok (.aload_n 0, 1) := by decide +kernel
theorem dX8_readRider_45 : decode cX8_readRider 45 = .ok (.iconst 0, 1) := by decide +kernel
theorem dX8_readRider_46 : decode cX8_readRider 46 = .ok (.bipush 99, 2) := by decide +kernel
theorem dX8_readRider_48 : decode cX8_readRider 48 = .ok (.invokevirtual 177, 3) := by decide +kernel
theorem dX8_readRider_51 : decode cX8_readRider 51 = .ok (.iastore, 1) := by decide +kernel
theorem dX8_readRider_52 : decode cX8_readRider 52 = .ok (.aload_n 0, 1) := by decide +kernel
theorem dX8_readRider_53 : decode cX8_readRider 53 = .ok (.getfield 51, 3) := by decide +kernel
theorem dX8_readRider_56 : decode cX8_readRider 56 = .ok (.iload_n 1, 1) := by decide +kernel
theorem dX8_readRider_57 : decode cX8_readRider 57 = .ok (.iconst 2, 1) := by decide +kernel
theorem dX8_readRider_58 : decode cX8_readRider 58 = .ok (.iadd, 1) := by decide +kernel
theorem dX8_readRider_59 : decode cX8_readRider 59 = .ok (.aload_n 0, 1) := by decide +kernel
theorem dX8_readRider_60 : decode cX8_readRider 60 = .ok (.invokevirtual 174, 3) := by decide +kernel
theorem dX8_readRider_63 : decode cX8_readRider 63 = .ok (.iastore, 1) := by decide +kernel
theorem dX8_readRider_64 : decode cX8_readRider 64 = .ok (.aload_n 0, 1) := by decide +kernel
theorem dX8_readRider_65 : decode cX8_readRider 65 = .ok (.getfield 146, 3) := by decide +kernel
theorem dX8_readRider_68 : decode cX8_readRider 68 = .ok (.ifCond .ne 7, 3) := by decide +kernel
theorem dX8_readRider_71 : decode cX8_readRider 71 = .ok (.aload_n 0, 1) := by decide +kernel
theorem dX8_readRider_72 : decode cX8_readRider 72 = .ok (.invokevirtual 171, 3) := by decide +kernel
theorem dX8_readRider_75 : decode cX8_readRider 75 = .ok (.aload_n 0, 1) := by decide +kernel
theorem dX8_readRider_76 : decode cX8_readRider 76 = .ok (.getfield 51, 3) := by decide +kernel
theorem dX8_readRider_79 : decode cX8_readRider 79 = .ok (.iload_n 1, 1) := by decide +kernel
theorem dX8_readRider_80 : decode cX8_readRider 80 = .ok (.iconst 3, 1) := by decide +kernel
theorem dX8_readRider_81 : decode cX8_readRider 81 = .ok (.iadd, 1) := by decide +kernel
theorem dX8_readRider_82 : decode cX8_readRider 82 = .ok (.aload_n 0, 1) := by decide +kernel
theorem dX8_readRider_83 : decode cX8_readRider 83 = .ok (.invokevirtual 174, 3) := by decide +kernel
theorem dX8_readRider_86 : decode cX8_readRider 86 = .ok (.iastore, 1) := by decide +kernel
theorem dX8_readRider_87 : decode cX8_readRider 87 = .ok (.aload_n 0, 1) := by decide +kernel
theorem dX8_readRider_88 : decode cX8_readRider 88 = .ok (.getfield 146, 3) := by decide +kernel
theorem dX8_readRider_91 : decode cX8_readRider 91 = .ok (.ifCond .ne 27, 3) := by decide +kernel
theorem dX8_readRider_94 : decode cX8_readRider 94 = .ok (.aload_n 0, 1) := by decide +kernel
theorem dX8_readRider_95 : decode cX8_readRider 95 = .ok (.getfield 51, 3) := by decide +kernel
theorem dX8_readRider_98 : decode cX8_readRider 98 = .ok (.iload_n 1, 1) := by decide +kernel
theorem dX8_readRider_99 : decode cX8_readRider 99 = .ok (.iconst 3, 1) := by decide +kernel
theorem dX8_readRider_100 : decode cX8_readRider 100 = .ok (.iadd, 1) := by decide +kernel
theorem dX8_readRider_101 : decode cX8_readRider 101 = .ok (.iaload, 1) := by decide +kernel
theorem dX8_readRider_102 : decode cX8_readRider 102 = .ok (.aload_n 0, 1) := by decide +kernel
theorem dX8_readRider_103 : decode cX8_readRider 103 = .ok (.getfield 51, 3) := by decide +kernel
theorem dX8_readRider_106 : decode cX8_readRider 106 = .ok (.iload_n 1, 1) := by decide +kernel
theorem dX8_readRider_107 : decode cX8_readRider 107 = .ok (.iconst 2, 1) := by decide +kernel
theorem dX8_readRider_108 : decode cX8_readRider 108 = .ok (.iadd, 1) := by decide +kernel
theorem dX8_readRider_109 : decode cX8_readRider 109 = .ok (.iaload, 1) := by decide +kernel
theorem dX8_readRider_110 : decode cX8_readRider 110 = .ok (.if_icmp .ne 8, 3) := by decide +kernel
theorem dX8_readRider_113 : decode cX8_readRider 113 = .ok (.aload_n 0, 1) := by decide +kernel
theorem dX8_readRider_114 : decode cX8_readRider 114 = .ok (.iconst 5, 1) := by decide +kernel
theorem dX8_readRider_115 : decode cX8_readRider 115 = .ok (.invokevirtual 164, 3) := by decide +kernel
theorem dX8_readRider_118 : decode cX8_readRider 118 = .ok (.aload_n 0, 1) := by decide +kernel
theorem dX8_readRider_119 : decode cX8_readRider 119 = .ok (.getfield 146, 3) := by decide +kernel
theorem dX8_readRider_122 : decode cX8_readRider 122 = .ok (.ifCond .ne 7, 3) := by decide +kernel
theorem dX8_readRider_125 : decode cX8_readRider 125 = .ok (.aload_n 0, 1) := by decide +kernel
theorem dX8_readRider_126 : decode cX8_readRider 126 = .ok (.invokevirtual 171, 3) := by decide +kernel
theorem dX8_readRider_129 : decode cX8_readRider 129 = .ok (.aload_n 0, 1) := by decide +kernel
theorem dX8_readRider_130 : decode cX8_readRider 130 = .ok (.getfield 51, 3) := by decide +kernel
theorem dX8_readRider_133 : decode cX8_readRider 133 = .ok (.iload_n 1, 1) := by decide +kernel
theorem dX8_readRider_134 : decode cX8_readRider 134 = .ok (.aload_n 0, 1) := by decide +kernel
theorem dX8_readRider_135 : decode cX8_readRider 135 = .ok (.ldc 184, 2) := by decide +kernel
theorem dX8_readRider_137 : decode cX8_readRider 137 = .ok (.invokevirtual 160, 3) := by decide +kernel
theorem dX8_readRider_140 : decode cX8_readRider 140 = .ok (.ifCond .eq 7, 3) := by decide +kernel
theorem dX8_readRider_143 : decode cX8_readRider 143 = .ok (.iconst 2, 1) := by decide +kernel
theorem dX8_readRider_144 : decode cX8_readRider 144 = .ok (.goto 4, 3) := by decide +kernel
theorem dX8_readRider_147 : decode cX8_readRider 147 = .ok (.iconst 1, 1) := by decide +kernel
theorem dX8_readRider_148 : decode cX8_readRider 148 = .ok (.iastore, 1) := by decide +kernel
theorem dX8_readRider_149 : decode cX8_readRider 149 = .ok (.aload_n 0, 1) := by decide +kernel
theorem dX8_readRider_150 : decode cX8_readRider 150 = .ok (.getfield 146, 3) := by decide +kernel
theorem dX8_readRider_153 : decode cX8_readRider 153 = .ok (.ifCond .ne 17, 3) := by decide +kernel
theorem dX8_readRider_156 : decode cX8_readRider 156 = .ok (.aload_n 0, 1) := by decide +kernel
theorem dX8_readRider_157 : decode cX8_readRider 157 = .ok (.getfield 51, 3) := by decide +kernel
theorem dX8_readRider_160 : decode cX8_readRider 160 = .ok (.iload_n 1, 1) := by decide +kernel
theorem dX8_readRider_161 : decode cX8_readRider 161 = .ok (.iaload, 1) := by decide +kernel
theorem dX8_readRider_162 : decode cX8_readRider 162 = .ok (.iconst 2, 1) := by decide +kernel
theorem dX8_readRider_163 : decode cX8_readRider 163 = .ok (.if_icmp .ne 7, 3) := by decide +kernel
theorem dX8_readRider_166 : decode cX8_readRider 166 = .ok (.aload_n 0, 1) := by decide +kernel
theorem dX8_readRider_167 : decode cX8_readRider 167 = .ok (.invokevirtual 171, 3) := by decide +kernel
theorem dX8_readRider_170 : decode cX8_readRider 170 = .ok (.aload_n 0, 1) := by decide +kernel
theorem dX8_readRider_171 : decode cX8_readRider 171 = .ok (.getfield 39, 3) := by decide +kernel
theorem dX8_readRider_174 : decode cX8_readRider 174 = .ok (.iconst 2, 1) := by decide +kernel
theorem dX8_readRider_175 : decode cX8_readRider 175 = .ok (.dup2, 1) := by decide +kernel
theorem dX8_readRider_176 : decode cX8_readRider 176 = .ok (.iaload, 1) := by decide +kernel
theorem dX8_readRider_177 : decode cX8_readRider 177 = .ok (.iconst 1, 1) := by decide +kernel
theorem dX8_readRider_178 : decode cX8_readRider 178 = .ok (.iadd, 1) := by decide +kernel
theorem dX8_readRider_179 : decode cX8_readRider 179 = .ok (.iastore, 1) := by decide +kernel
theorem dX8_readRider_180 : decode cX8_readRider 180 = .ok (.return_, 1) := by decide +kernel
set_option maxRecDepth 20000 in
set_option maxHeartbeats 4000000 in
theorem vX8_readRider_0 {l : Launch} {x : CX} {a0 : Nat} {h : PH} {rc rs n0 : Nat} {Q : Option Value → PH → Prop} {X : String → PH → Prop}
    (K : ((hK h a0).1 = 8) ∧ ∃ b2, (hR h a0 5 = some b2) ∧ ((hK h b2).1 = 100) ∧ (vp_in 2 (hK h b2).2) ∧ ((¬ (hI h b2 (Int32.toNatClampNeg 2)) = 20 → Gm l x mX8_readRider 7 16 [(0, .ref a0)] [] h rc rs n0 Q X) ∧ ((hI h b2 (Int32.toNatClampNeg 2)) = 20 → ∃ (q7 : PH → Prop), CV l x mX8_wrong 0 0 0 [.ref a0, .int 2] h q7 ∧ ∀ (h9 : PH), q7 h9 → Gm l x mX8_readRider 7 16 [(0, .ref a0)] [] h9 rc rs n0 Q X))) :
    Gm l x mX8_readRider 7 0 [(0, .ref a0)] [] h rc rs n0 Q X := by
  refine g_aload_n dX8_readRider_0 rfl 0 rfl ?_
  obtain ⟨e1, b2, e3, K⟩ := K
  refine g_get (c := 8) (k := 5) (v := .ref b2) dX8_readRider_1 fc_8 (by decide) (by decide) bw_1203 (congrArg pr e3) e1 ?_
  refine g_iconst (v := 2) dX8_readRider_4 (by decide) ?_
  obtain ⟨e4, e5, K⟩ := K
  refine g_iald dX8_readRider_5 e4 e5 ?_
  refine g_bipush (v := 20) dX8_readRider_6 (by decide) ?_
  refine g_icmp_ne (tgt := 16) dX8_readRider_8 (by decide) (fun c6 => ?_) (fun c6 => ?_)
  · replace K := K.1 c6
    exact K
  · replace K := K.2 c6
    refine g_aload_n dX8_readRider_11 rfl 0 rfl ?_
    refine g_iconst (v := 2) dX8_readRider_12 (by decide) ?_
    obtain ⟨q7, C8, K⟩ := K
    refine g_callV (M' := mX8_wrong) (b := a0) (As := [.int 2]) (rest := []) (rc' := rc) (rs' := rs) dX8_readRider_13 bw_1371 bw_1373 bs_45 bw_9 bw_1374 ⟨by decide +kernel, by decide +kernel, show (parseMethodDescriptor mX8_wrong.1.desc).map (fun d => d.parameters.length) = some 1 by decide +kernel⟩ (by decide) (by decide) (Nat.le_of_ble_eq_true rfl) fc_8 (by decide) rfl e1 C8 (Nat.le_of_eq (Nat.add_zero _)) (Nat.le_of_eq (Nat.add_zero _)) (fun _ _ h => h) ?_
    rintro _ h9 ⟨rfl, K1⟩ -
    replace K := K h9 K1
    show Gm l x mX8_readRider 7 16 [(0, .ref a0)] [] h9 rc rs n0 Q X
    exact K
set_option maxRecDepth 20000 in
set_option maxHeartbeats 4000000 in
theorem vX8_readRider_16 {l : Launch} {x : CX} {a0 : Nat} {h : PH} {rc rs n0 : Nat} {Q : Option Value → PH → Prop} {X : String → PH → Prop}
    (K : ((hK h a0).1 = 8) ∧ (((hI h a0 18) = 0 → ∃ (q3 : PH → Prop), CV l x mX8_stepOn 1 0 0 [.ref a0] h q3 ∧ ∀ (h5 : PH), q3 h5 → ((hK h5 a0).1 = 8) ∧ ∃ b7, (hR h5 a0 5 = some b7) ∧ ((hK h5 b7).1 = 100) ∧ (vp_in 2 (hK h5 b7).2) ∧ ∃ b11, (hR h5 a0 9 = some b11) ∧ ∃ (q13 : Int32 → PH → Prop), CI l x mX8_readNumber 2 0 0 [.ref a0, .int 0, .int 99] h5 q13 ∧ ∀ (r16 : Int32) (h15 : PH), q13 r16 h15 → ((hK h15 b11).1 = 100) ∧ (vp_in ((4 * (hI h5 b7 (Int32.toNatClampNeg 2))) + 1) (hK h15 b11).2) ∧ ((hK h15 a0).1 = 8) ∧ ∃ b20, (hR h15 a0 9 = some b20) ∧ ∃ (q22 : Int32 → PH → Prop), CI l x mX8_floorNow 2 0 0 [.ref a0] (sI h15 b11 ((4 * (hI h5 b7 (Int32.toNatClampNeg 2))) + 1).toNatClampNeg r16) q22 ∧ ∀ (r25 : Int32) (h24 : PH), q22 r25 h24 → ((hK h24 b20).1 = 100) ∧ (vp_in ((4 * (hI h5 b7 (Int32.toNatClampNeg 2))) + 2) (hK h24 b20).2) ∧ ((hK h24 a0).1 = 8) ∧ ((¬ (hI (sI h24 b20 ((4 * (hI h5 b7 (Int32.toNatClampNeg 2))) + 2).toNatClampNeg r25) a0 18) = 0 → Gm l x mX8_readRider 7 75 [(0, .ref a0), (1, .int (4 * (hI h5 b7 (Int32.toNatClampNeg 2))))] [] (sI h24 b20 ((4 * (hI h5 b7 (Int32.toNatClampNeg 2))) + 2).toNatClampNeg r25) rc rs n0 Q X) ∧ ((hI (sI h24 b20 ((4 * (hI h5 b7 (Int32.toNatClampNeg 2))) + 2).toNatClampNeg r25) a0 18) = 0 → ∃ (q30 : PH → Prop), CV l x mX8_stepOn 1 0 0 [.ref a0] (sI h24 b20 ((4 * (hI h5 b7 (Int32.toNatClampNeg 2))) + 2).toNatClampNeg r25) q30 ∧ ∀ (h32 : PH), q30 h32 → Gm l x mX8_readRider 7 75 [(0, .ref a0), (1, .int (4 * (hI h5 b7 (Int32.toNatClampNeg 2))))] [] h32 rc rs n0 Q X))) ∧ (¬ (hI h a0 18) = 0 → Q none h))) :
    Gm l x mX8_readRider 7 16 [(0, .ref a0)] [] h rc rs n0 Q X := by
  refine g_aload_n dX8_readRider_16 rfl 0 rfl ?_
  obtain ⟨e1, K⟩ := K
  refine g_get (c := 8) (k := 18) (v := .int (hI h a0 18)) dX8_readRider_17 fc_8 (by decide) (by decide) bw_1216 rfl e1 ?_
  refine g_if_eq (tgt := 24) dX8_readRider_20 (by decide) (fun c2 => ?_) (fun c2 => ?_)
  · replace K := K.1 c2
    refine g_aload_n dX8_readRider_24 rfl 0 rfl ?_
    obtain ⟨q3, C4, K⟩ := K
    refine g_callV (M' := mX8_stepOn) (b := a0) (As := []) (rest := []) (rc' := rc) (rs' := rs) dX8_readRider_25 bw_1341 bw_1343 bs_40 bw_9 bw_1344 ⟨by decide +kernel, by decide +kernel, show (parseMethodDescriptor mX8_stepOn.1.desc).map (fun d => d.parameters.length) = some 0 by decide +kernel⟩ (by decide) (by decide) (Nat.le_of_ble_eq_true rfl) fc_8 (by decide) rfl e1 C4 (Nat.le_of_eq (Nat.add_zero _)) (Nat.le_of_eq (Nat.add_zero _)) (fun _ _ h => h) ?_
    rintro _ h5 ⟨rfl, K1⟩ -
    replace K := K h5 K1
    show Gm l x mX8_readRider 7 28 [(0, .ref a0)] [] h5 rc rs n0 Q X
    refine g_iconst (v := 4) dX8_readRider_28 (by decide) ?_
    refine g_aload_n dX8_readRider_29 rfl 0 rfl ?_
    obtain ⟨e6, b7, e8, K⟩ := K
    refine g_get (c := 8) (k := 5) (v := .ref b7) dX8_readRider_30 fc_8 (by decide) (by decide) bw_1203 (congrArg pr e8) e6 ?_
    refine g_iconst (v := 2) dX8_readRider_33 (by decide) ?_
    obtain ⟨e9, e10, K⟩ := K
    refine g_iald dX8_readRider_34 e9 e10 ?_
    refine g_imul dX8_readRider_35 ?_
    refine g_istore_n (lv' := [(0, .ref a0), (1, .int (4 * (hI h5 b7 (Int32.toNatClampNeg 2))))]) dX8_readRider_36 rfl (by decide) rfl ?_
    refine g_aload_n dX8_readRider_37 rfl 0 rfl ?_
    obtain ⟨b11, e12, K⟩ := K
    refine g_get (c := 8) (k := 9) (v := .ref b11) dX8_readRider_38 fc_8 (by decide) (by decide) bw_1207 (congrArg pr e12) e6 ?_
    refine g_iload_n dX8_readRider_41 rfl 1 rfl ?_
    refine g_iconst (v := 1) dX8_readRider_42 (by decide) ?_
    refine g_iadd dX8_readRider_43 ?_
    refine g_aload_n dX8_readRider_44 rfl 0 rfl ?_
    refine g_iconst (v := 0) dX8_readRider_45 (by decide) ?_
    refine g_bipush (v := 99) dX8_readRider_46 (by decide) ?_
    obtain ⟨q13, C14, K⟩ := K
    refine g_callV (M' := mX8_readNumber) (b := a0) (As := [.int 0, .int 99]) (rest := [.int ((4 * (hI h5 b7 (Int32.toNatClampNeg 2))) + 1), .ref b11]) (rc' := rc) (rs' := rs) dX8_readRider_48 bw_1387 bw_1389 bs_49 bw_9 bw_1390 ⟨by decide +kernel, by decide +kernel, show (parseMethodDescriptor mX8_readNumber.1.desc).map (fun d => d.parameters.length) = some 2 by decide +kernel⟩ (by decide) (by decide) (Nat.le_of_ble_eq_true rfl) fc_8 (by decide) rfl e6 C14 (Nat.le_of_eq (Nat.add_zero _)) (Nat.le_of_eq (Nat.add_zero _)) (fun _ _ h => h) ?_
    rintro _ h15 ⟨r16, rfl, K1⟩ -
    replace K := K r16 h15 K1
    show Gm l x mX8_readRider 7 51 [(0, .ref a0), (1, .int (4 * (hI h5 b7 (Int32.toNatClampNeg 2))))] [.int r16, .int ((4 * (hI h5 b7 (Int32.toNatClampNeg 2))) + 1), .ref b11] h15 rc rs n0 Q X
    obtain ⟨e17, e18, K⟩ := K
    refine g_iast dX8_readRider_51 e17 e18 ?_
    refine g_aload_n dX8_readRider_52 rfl 0 rfl ?_
    obtain ⟨e19, b20, e21, K⟩ := K
    refine g_get (c := 8) (k := 9) (v := .ref b20) dX8_readRider_53 fc_8 (by decide) (by decide) bw_1207 (congrArg pr (krI e21)) (kkI e19) ?_
    refine g_iload_n dX8_readRider_56 rfl 1 rfl ?_
    refine g_iconst (v := 2) dX8_readRider_57 (by decide) ?_
    refine g_iadd dX8_readRider_58 ?_
    refine g_aload_n dX8_readRider_59 rfl 0 rfl ?_
    obtain ⟨q22, C23, K⟩ := K
    refine g_callV (M' := mX8_floorNow) (b := a0) (As := []) (rest := [.int ((4 * (hI h5 b7 (Int32.toNatClampNeg 2))) + 2), .ref b20]) (rc' := rc) (rs' := rs) dX8_readRider_60 bw_1379 bw_1381 bs_47 bw_9 bw_1382 ⟨by decide +kernel, by decide +kernel, show (parseMethodDescriptor mX8_floorNow.1.desc).map (fun d => d.parameters.length) = some 0 by decide +kernel⟩ (by decide) (by decide) (Nat.le_of_ble_eq_true rfl) fc_8 (by decide) rfl (kkI e19) C23 (Nat.le_of_eq (Nat.add_zero _)) (Nat.le_of_eq (Nat.add_zero _)) (fun _ _ h => h) ?_
    rintro _ h24 ⟨r25, rfl, K1⟩ -
    replace K := K r25 h24 K1
    show Gm l x mX8_readRider 7 63 [(0, .ref a0), (1, .int (4 * (hI h5 b7 (Int32.toNatClampNeg 2))))] [.int r25, .int ((4 * (hI h5 b7 (Int32.toNatClampNeg 2))) + 2), .ref b20] h24 rc rs n0 Q X
    obtain ⟨e26, e27, K⟩ := K
    refine g_iast dX8_readRider_63 e26 e27 ?_
    refine g_aload_n dX8_readRider_64 rfl 0 rfl ?_
    obtain ⟨e28, K⟩ := K
    refine g_get (c := 8) (k := 18) (v := .int (hI (sI h24 b20 ((4 * (hI h5 b7 (Int32.toNatClampNeg 2))) + 2).toNatClampNeg r25) a0 18)) dX8_readRider_65 fc_8 (by decide) (by decide) bw_1216 rfl (kkI e28) ?_
    refine g_if_ne (tgt := 75) dX8_readRider_68 (by decide) (fun c29 => ?_) (fun c29 => ?_)
    · replace K := K.1 c29
      exact K
    · replace K := K.2 c29
      refine g_aload_n dX8_readRider_71 rfl 0 rfl ?_
      obtain ⟨q30, C31, K⟩ := K
      refine g_callV (M' := mX8_stepOn) (b := a0) (As := []) (rest := []) (rc' := rc) (rs' := rs) dX8_readRider_72 bw_1341 bw_1343 bs_40 bw_9 bw_1344 ⟨by decide +kernel, by decide +kernel, show (parseMethodDescriptor mX8_stepOn.1.desc).map (fun d => d.parameters.length) = some 0 by decide +kernel⟩ (by decide) (by decide) (Nat.le_of_ble_eq_true rfl) fc_8 (by decide) rfl (kkI e28) C31 (Nat.le_of_eq (Nat.add_zero _)) (Nat.le_of_eq (Nat.add_zero _)) (fun _ _ h => h) ?_
      rintro _ h32 ⟨rfl, K1⟩ -
      replace K := K h32 K1
      show Gm l x mX8_readRider 7 75 [(0, .ref a0), (1, .int (4 * (hI h5 b7 (Int32.toNatClampNeg 2))))] [] h32 rc rs n0 Q X
      exact K
  · replace K := K.2 c2
    exact g_vret dX8_readRider_23 rfl K
set_option maxRecDepth 20000 in
set_option maxHeartbeats 4000000 in
theorem vX8_readRider_75 {l : Launch} {x : CX} {a0 : Nat} {x1 : Int32} {h : PH} {rc rs n0 : Nat} {Q : Option Value → PH → Prop} {X : String → PH → Prop}
    (K : ((hK h a0).1 = 8) ∧ ∃ b2, (hR h a0 9 = some b2) ∧ ∃ (q4 : Int32 → PH → Prop), CI l x mX8_floorNow 2 0 0 [.ref a0] h q4 ∧ ∀ (r7 : Int32) (h6 : PH), q4 r7 h6 → ((hK h6 b2).1 = 100) ∧ (vp_in (x1 + 3) (hK h6 b2).2) ∧ ((hK h6 a0).1 = 8) ∧ ((¬ (hI (sI h6 b2 (x1 + 3).toNatClampNeg r7) a0 18) = 0 → ((¬ (hI (sI h6 b2 (x1 + 3).toNatClampNeg r7) a0 18) = 0 → ∃ b13, (hR h6 a0 9 = some b13) ∧ (TxtOk x RX8 184 "parcel" 19) ∧ ∃ (q16 : Int32 → PH → Prop), CI l x mX8_is 6 0 0 [.ref a0, .retAddr 19] (sI h6 b2 (x1 + 3).toNatClampNeg r7) q16 ∧ ∀ (r19 : Int32) (h18 : PH), q16 r19 h18 → ((hK h18 b13).1 = 100) ∧ (vp_in x1 (hK h18 b13).2) ∧ ((hK h18 a0).1 = 8) ∧ ((¬ (hI (sI h18 b13 x1.toNatClampNeg (if r19 = 0 then 1 else 2 : Int32)) a0 18) = 0 → ∃ b25, (hR h18 a0 5 = some b25) ∧ ((hK h18 b25).1 = 100) ∧ (vp_in 2 (hK h18 b25).2) ∧ (vp_in 2 (hK h18 b25).2) ∧ Q none (sI (sI h18 b13 x1.toNatClampNeg (if r19 = 0 then 1 else 2 : Int32)) b25 (Int32.toNatClampNeg 2) ((hI (sI h18 b13 x1.toNatClampNeg (if r19 = 0 then 1 else 2 : Int32)) b25 (Int32.toNatClampNeg 2)) + 1))) ∧ ((hI (sI h18 b13 x1.toNatClampNeg (if r19 = 0 then 1 else 2 : Int32)) a0 18) = 0 → ∃ b30, (hR h18 a0 9 = some b30) ∧ ((hK h18 b30).1 = 100) ∧ (vp_in x1 (hK h18 b30).2) ∧ ((¬ (hI (sI h18 b13 x1.toNatClampNeg (if r19 = 0 then 1 else 2 : Int32)) b30 x1.toNatClampNeg) = 2 → ∃ b35, (hR h18 a0 5 = some b35) ∧ ((hK h18 b35).1 = 100) ∧ (vp_in 2 (hK h18 b35).2) ∧ (vp_in 2 (hK h18 b35).2) ∧ Q none (sI (sI h18 b13 x1.toNatClampNeg (if r19 = 0 then 1 else 2 : Int32)) b35 (Int32.toNatClampNeg 2) ((hI (sI h18 b13 x1.toNatClampNeg (if r19 = 0 then 1 else 2 : Int32)) b35 (Int32.toNatClampNeg 2)) + 1))) ∧ ((hI (sI h18 b13 x1.toNatClampNeg (if r19 = 0 then 1 else 2 : Int32)) b30 x1.toNatClampNeg) = 2 → ∃ (q40 : PH → Prop), CV l x mX8_stepOn 1 0 0 [.ref a0] (sI h18 b13 x1.toNatClampNeg (if r19 = 0 then 1 else 2 : Int32)) q40 ∧ ∀ (h42 : PH), q40 h42 → ((hK h42 a0).1 = 8) ∧ ∃ b44, (hR h42 a0 5 = some b44) ∧ ((hK h42 b44).1 = 100) ∧ (vp_in 2 (hK h42 b44).2) ∧ (vp_in 2 (hK h42 b44).2) ∧ Q none (sI h42 b44 (Int32.toNatClampNeg 2) ((hI h42 b44 (Int32.toNatClampNeg 2)) + 1))))))) ∧ ((hI (sI h6 b2 (x1 + 3).toNatClampNeg r7) a0 18) = 0 → ∃ (q49 : PH → Prop), CV l x mX8_stepOn 1 0 0 [.ref a0] (sI h6 b2 (x1 + 3).toNatClampNeg r7) q49 ∧ ∀ (h51 : PH), q49 h51 → ((hK h51 a0).1 = 8) ∧ ∃ b53, (hR h51 a0 9 = some b53) ∧ (TxtOk x RX8 184 "parcel" 19) ∧ ∃ (q56 : Int32 → PH → Prop), CI l x mX8_is 6 0 0 [.ref a0, .retAddr 19] h51 q56 ∧ ∀ (r59 : Int32) (h58 : PH), q56 r59 h58 → ((hK h58 b53).1 = 100) ∧ (vp_in x1 (hK h58 b53).2) ∧ ((hK h58 a0).1 = 8) ∧ ((¬ (hI (sI h58 b53 x1.toNatClampNeg (if r59 = 0 then 1 else 2 : Int32)) a0 18) = 0 → ∃ b65, (hR h58 a0 5 = some b65) ∧ ((hK h58 b65).1 = 100) ∧ (vp_in 2 (hK h58 b65).2) ∧ (vp_in 2 (hK h58 b65).2) ∧ Q none (sI (sI h58 b53 x1.toNatClampNeg (if r59 = 0 then 1 else 2 : Int32)) b65 (Int32.toNatClampNeg 2) ((hI (sI h58 b53 x1.toNatClampNeg (if r59 = 0 then 1 else 2 : Int32)) b65 (Int32.toNatClampNeg 2)) + 1))) ∧ ((hI (sI h58 b53 x1.toNatClampNeg (if r59 = 0 then 1 else 2 : Int32)) a0 18) = 0 → ∃ b70, (hR h58 a0 9 = some b70) ∧ ((hK h58 b70).1 = 100) ∧ (vp_in x1 (hK h58 b70).2) ∧ ((¬ (hI (sI h58 b53 x1.toNatClampNeg (if r59 = 0 then 1 else 2 : Int32)) b70 x1.toNatClampNeg) = 2 → ∃ b75, (hR h58 a0 5 = some b75) ∧ ((hK h58 b75).1 = 100) ∧ (vp_in 2 (hK h58 b75).2) ∧ (vp_in 2 (hK h58 b75).2) ∧ Q none (sI (sI h58 b53 x1.toNatClampNeg (if r59 = 0 then 1 else 2 : Int32)) b75 (Int32.toNatClampNeg 2) ((hI (sI h58 b53 x1.toNatClampNeg (if r59 = 0 then 1 else 2 : Int32)) b75 (Int32.toNatClampNeg 2)) + 1))) ∧ ((hI (sI h58 b53 x1.toNatClampNeg (if r59 = 0 then 1 else 2 : Int32)) b70 x1.toNatClampNeg) = 2 → ∃ (q80 : PH → Prop), CV l x mX8_stepOn 1 0 0 [.ref a0] (sI h58 b53 x1.toNatClampNeg (if r59 = 0 then 1 else 2 : Int32)) q80 ∧ ∀ (h82 : PH), q80 h82 → ((hK h82 a0).1 = 8) ∧ ∃ b84, (hR h82 a0 5 = some b84) ∧ ((hK h82 b84).1 = 100) ∧ (vp_in 2 (hK h82 b84).2) ∧ (vp_in 2 (hK h82 b84).2) ∧ Q none (sI h82 b84 (Int32.toNatClampNeg 2) ((hI h82 b84 (Int32.toNatClampNeg 2)) + 1))))))))) ∧ ((hI (sI h6 b2 (x1 + 3).toNatClampNeg r7) a0 18) = 0 → ∃ b89, (hR h6 a0 9 = some b89) ∧ ((hK h6 b89).1 = 100) ∧ (vp_in (x1 + 3) (hK h6 b89).2) ∧ (vp_in (x1 + 2) (hK h6 b89).2) ∧ ((¬ (hI (sI h6 b2 (x1 + 3).toNatClampNeg r7) b89 (x1 + 3).toNatClampNeg) = (hI (sI h6 b2 (x1 + 3).toNatClampNeg r7) b89 (x1 + 2).toNatClampNeg) → ((¬ (hI (sI h6 b2 (x1 + 3).toNatClampNeg r7) a0 18) = 0 → (TxtOk x RX8 184 "parcel" 19) ∧ ∃ (q97 : Int32 → PH → Prop), CI l x mX8_is 6 0 0 [.ref a0, .retAddr 19] (sI h6 b2 (x1 + 3).toNatClampNeg r7) q97 ∧ ∀ (r100 : Int32) (h99 : PH), q97 r100 h99 → ((hK h99 b89).1 = 100) ∧ (vp_in x1 (hK h99 b89).2) ∧ ((hK h99 a0).1 = 8) ∧ ((¬ (hI (sI h99 b89 x1.toNatClampNeg (if r100 = 0 then 1 else 2 : Int32)) a0 18) = 0 → ∃ b106, (hR h99 a0 5 = some b106) ∧ ((hK h99 b106).1 = 100) ∧ (vp_in 2 (hK h99 b106).2) ∧ (vp_in 2 (hK h99 b106).2) ∧ Q none (sI (sI h99 b89 x1.toNatClampNeg (if r100 = 0 then 1 else 2 : Int32)) b106 (Int32.toNatClampNeg 2) ((hI (sI h99 b89 x1.toNatClampNeg (if r100 = 0 then 1 else 2 : Int32)) b106 (Int32.toNatClampNeg 2)) + 1))) ∧ ((hI (sI h99 b89 x1.toNatClampNeg (if r100 = 0 then 1 else 2 : Int32)) a0 18) = 0 → ∃ b111, (hR h99 a0 9 = some b111) ∧ ((hK h99 b111).1 = 100) ∧ (vp_in x1 (hK h99 b111).2) ∧ ((¬ (hI (sI h99 b89 x1.toNatClampNeg (if r100 = 0 then 1 else 2 : Int32)) b111 x1.toNatClampNeg) = 2 → ∃ b116, (hR h99 a0 5 = some b116) ∧ ((hK h99 b116).1 = 100) ∧ (vp_in 2 (hK h99 b116).2) ∧ (vp_in 2 (hK h99 b116).2) ∧ Q none (sI (sI h99 b89 x1.toNatClampNeg (if r100 = 0 then 1 else 2 : Int32)) b116 (Int32.toNatClampNeg 2) ((hI (sI h99 b89 x1.toNatClampNeg (if r100 = 0 then 1 else 2 : Int32)) b116 (Int32.toNatClampNeg 2)) + 1))) ∧ ((hI (sI h99 b89 x1.toNatClampNeg (if r100 = 0 then 1 else 2 : Int32)) b111 x1.toNatClampNeg) = 2 → ∃ (q121 : PH → Prop), CV l x mX8_stepOn 1 0 0 [.ref a0] (sI h99 b89 x1.toNatClampNeg (if r100 = 0 then 1 else 2 : Int32)) q121 ∧ ∀ (h123 : PH), q121 h123 → ((hK h123 a0).1 = 8) ∧ ∃ b125, (hR h123 a0 5 = some b125) ∧ ((hK h123 b125).1 = 100) ∧ (vp_in 2 (hK h123 b125).2) ∧ (vp_in 2 (hK h123 b125).2) ∧ Q none (sI h123 b125 (Int32.toNatClampNeg 2) ((hI h123 b125 (Int32.toNatClampNeg 2)) + 1))))))) ∧ ((hI (sI h6 b2 (x1 + 3).toNatClampNeg r7) a0 18) = 0 → ∃ (q130 : PH → Prop), CV l x mX8_stepOn 1 0 0 [.ref a0] (sI h6 b2 (x1 + 3).toNatClampNeg r7) q130 ∧ ∀ (h132 : PH), q130 h132 → ((hK h132 a0).1 = 8) ∧ ∃ b134, (hR h132 a0 9 = some b134) ∧ (TxtOk x RX8 184 "parcel" 19) ∧ ∃ (q137 : Int32 → PH → Prop), CI l x mX8_is 6 0 0 [.ref a0, .retAddr 19] h132 q137 ∧ ∀ (r140 : Int32) (h139 : PH), q137 r140 h139 → ((hK h139 b134).1 = 100) ∧ (vp_in x1 (hK h139 b134).2) ∧ ((hK h139 a0).1 = 8) ∧ ((¬ (hI (sI h139 b134 x1.toNatClampNeg (if r140 = 0 then 1 else 2 : Int32)) a0 18) = 0 → ∃ b146, (hR h139 a0 5 = some b146) ∧ ((hK h139 b146).1 = 100) ∧ (vp_in 2 (hK h139 b146).2) ∧ (vp_in 2 (hK h139 b146).2) ∧ Q none (sI (sI h139 b134 x1.toNatClampNeg (if r140 = 0 then 1 else 2 : Int32)) b146 (Int32.toNatClampNeg 2) ((hI (sI h139 b134 x1.toNatClampNeg (if r140 = 0 then 1 else 2 : Int32)) b146 (Int32.toNatClampNeg 2)) + 1))) ∧ ((hI (sI h139 b134 x1.toNatClampNeg (if r140 = 0 then 1 else 2 : Int32)) a0 18) = 0 → ∃ b151, (hR h139 a0 9 = some b151) ∧ ((hK h139 b151).1 = 100) ∧ (vp_in x1 (hK h139 b151).2) ∧ ((¬ (hI (sI h139 b134 x1.toNatClampNeg (if r140 = 0 then 1 else 2 : Int32)) b151 x1.toNatClampNeg) = 2 → ∃ b156, (hR h139 a0 5 = some b156) ∧ ((hK h139 b156).1 = 100) ∧ (vp_in 2 (hK h139 b156).2) ∧ (vp_in 2 (hK h139 b156).2) ∧ Q none (sI (sI h139 b134 x1.toNatClampNeg (if r140 = 0 then 1 else 2 : Int32)) b156 (Int32.toNatClampNeg 2) ((hI (sI h139 b134 x1.toNatClampNeg (if r140 = 0 then 1 else 2 : Int32)) b156 (Int32.toNatClampNeg 2)) + 1))) ∧ ((hI (sI h139 b134 x1.toNatClampNeg (if r140 = 0 then 1 else 2 : Int32)) b151 x1.toNatClampNeg) = 2 → ∃ (q161 : PH → Prop), CV l x mX8_stepOn 1 0 0 [.ref a0] (sI h139 b134 x1.toNatClampNeg (if r140 = 0 then 1 else 2 : Int32)) q161 ∧ ∀ (h163 : PH), q161 h163 → ((hK h163 a0).1 = 8) ∧ ∃ b165, (hR h163 a0 5 = some b165) ∧ ((hK h163 b165).1 = 100) ∧ (vp_in 2 (hK h163 b165).2) ∧ (vp_in 2 (hK h163 b165).2) ∧ Q none (sI h163 b165 (Int32.toNatClampNeg 2) ((hI h163 b165 (Int32.toNatClampNeg 2)) + 1))))))))) ∧ ((hI (sI h6 b2 (x1 + 3).toNatClampNeg r7) b89 (x1 + 3).toNatClampNeg) = (hI (sI h6 b2 (x1 + 3).toNatClampNeg r7) b89 (x1 + 2).toNatClampNeg) → ∃ (q170 : PH → Prop), CV l x mX8_wrong 0 0 0 [.ref a0, .int 5] (sI h6 b2 (x1 + 3).toNatClampNeg r7) q170 ∧ ∀ (h172 : PH), q170 h172 → ((hK h172 a0).1 = 8) ∧ ((¬ (hI h172 a0 18) = 0 → ∃ b175, (hR h172 a0 9 = some b175) ∧ (TxtOk x RX8 184 "parcel" 19) ∧ ∃ (q178 : Int32 → PH → Prop), CI l x mX8_is 6 0 0 [.ref a0, .retAddr 19] h172 q178 ∧ ∀ (r181 : Int32) (h180 : PH), q178 r181 h180 → ((hK h180 b175).1 = 100) ∧ (vp_in x1 (hK h180 b175).2) ∧ ((hK h180 a0).1 = 8) ∧ ((¬ (hI (sI h180 b175 x1.toNatClampNeg (if r181 = 0 then 1 else 2 : Int32)) a0 18) = 0 → ∃ b187, (hR h180 a0 5 = some b187) ∧ ((hK h180 b187).1 = 100) ∧ (vp_in 2 (hK h180 b187).2) ∧ (vp_in 2 (hK h180 b187).2) ∧ Q none (sI (sI h180 b175 x1.toNatClampNeg (if r181 = 0 then 1 else 2 : Int32)) b187 (Int32.toNatClampNeg 2) ((hI (sI h180 b175 x1.toNatClampNeg (if r181 = 0 then 1 else 2 : Int32)) b187 (Int32.toNatClampNeg 2)) + 1))) ∧ ((hI (sI h180 b175 x1.toNatClampNeg (if r181 = 0 then 1 else 2 : Int32)) a0 18) = 0 → ∃ b192, (hR h180 a0 9 = some b192) ∧ ((hK h180 b192).1 = 100) ∧ (vp_in x1 (hK h180 b192).2) ∧ ((¬ (hI (sI h180 b175 x1.toNatClampNeg (if r181 = 0 then 1 else 2 : Int32)) b192 x1.toNatClampNeg) = 2 → ∃ b197, (hR h180 a0 5 = some b197) ∧ ((hK h180 b197).1 = 100) ∧ (vp_in 2 (hK h180 b197).2) ∧ (vp_in 2 (hK h180 b197).2) ∧ Q none (sI (sI h180 b175 x1.toNatClampNeg (if r181 = 0 then 1 else 2 : Int32)) b197 (Int32.toNatClampNeg 2) ((hI (sI h180 b175 x1.toNatClampNeg (if r181 = 0 then 1 else 2 : Int32)) b197 (Int32.toNatClampNeg 2)) + 1))) ∧ ((hI (sI h180 b175 x1.toNatClampNeg (if r181 = 0 then 1 else 2 : Int32)) b192 x1.toNatClampNeg) = 2 → ∃ (q202 : PH → Prop), CV l x mX8_stepOn 1 0 0 [.ref a0] (sI h180 b175 x1.toNatClampNeg (if r181 = 0 then 1 else 2 : Int32)) q202 ∧ ∀ (h204 : PH), q202 h204 → ((hK h204 a0).1 = 8) ∧ ∃ b206, (hR h204 a0 5 = some b206) ∧ ((hK h204 b206).1 = 100) ∧ (vp_in 2 (hK h204 b206).2) ∧ (vp_in 2 (hK h204 b206).2) ∧ Q none (sI h204 b206 (Int32.toNatClampNeg 2) ((hI h204 b206 (Int32.toNatClampNeg 2)) + 1))))))) ∧ ((hI h172 a0 18) = 0 → ∃ (q211 : PH → Prop), CV l x mX8_stepOn 1 0 0 [.ref a0] h172 q211 ∧ ∀ (h213 : PH), q211 h213 → ((hK h213 a0).1 = 8) ∧ ∃ b215, (hR h213 a0 9 = some b215) ∧ (TxtOk x RX8 184 "parcel" 19) ∧ ∃ (q218 : Int32 → PH → Prop), CI l x mX8_is 6 0 0 [.ref a0, .retAddr 19] h213 q218 ∧ ∀ (r221 : Int32) (h220 : PH), q218 r221 h220 → ((hK h220 b215).1 = 100) ∧ (vp_in x1 (hK h220 b215).2) ∧ ((hK h220 a0).1 = 8) ∧ ((¬ (hI (sI h220 b215 x1.toNatClampNeg (if r221 = 0 then 1 else 2 : Int32)) a0 18) = 0 → ∃ b227, (hR h220 a0 5 = some b227) ∧ ((hK h220 b227).1 = 100) ∧ (vp_in 2 (hK h220 b227).2) ∧ (vp_in 2 (hK h220 b227).2) ∧ Q none (sI (sI h220 b215 x1.toNatClampNeg (if r221 = 0 then 1 else 2 : Int32)) b227 (Int32.toNatClampNeg 2) ((hI (sI h220 b215 x1.toNatClampNeg (if r221 = 0 then 1 else 2 : Int32)) b227 (Int32.toNatClampNeg 2)) + 1))) ∧ ((hI (sI h220 b215 x1.toNatClampNeg (if r221 = 0 then 1 else 2 : Int32)) a0 18) = 0 → ∃ b232, (hR h220 a0 9 = some b232) ∧ ((hK h220 b232).1 = 100) ∧ (vp_in x1 (hK h220 b232).2) ∧ ((¬ (hI (sI h220 b215 x1.toNatClampNeg (if r221 = 0 then 1 else 2 : Int32)) b232 x1.toNatClampNeg) = 2 → ∃ b237, (hR h220 a0 5 = some b237) ∧ ((hK h220 b237).1 = 100) ∧ (vp_in 2 (hK h220 b237).2) ∧ (vp_in 2 (hK h220 b237).2) ∧ Q none (sI (sI h220 b215 x1.toNatClampNeg (if r221 = 0 then 1 else 2 : Int32)) b237 (Int32.toNatClampNeg 2) ((hI (sI h220 b215 x1.toNatClampNeg (if r221 = 0 then 1 else 2 : Int32)) b237 (Int32.toNatClampNeg 2)) + 1))) ∧ ((hI (sI h220 b215 x1.toNatClampNeg (if r221 = 0 then 1 else 2 : Int32)) b232 x1.toNatClampNeg) = 2 → ∃ (q242 : PH → Prop), CV l x mX8_stepOn 1 0 0 [.ref a0] (sI h220 b215 x1.toNatClampNeg (if r221 = 0 then 1 else 2 : Int32)) q242 ∧ ∀ (h244 : PH), q242 h244 → ((hK h244 a0).1 = 8) ∧ ∃ b246, (hR h244 a0 5 = some b246) ∧ ((hK h244 b246).1 = 100) ∧ (vp_in 2 (hK h244 b246).2) ∧ (vp_in 2 (hK h244 b246).2) ∧ Q none (sI h244 b246 (Int32.toNatClampNeg 2) ((hI h244 b246 (Int32.toNatClampNeg 2)) + 1))))))))))))) :
    Gm l x mX8_readRider 7 75 [(0, .ref a0), (1, .int x1)] [] h rc rs n0 Q X := by
  refine g_aload_n dX8_readRider_75 rfl 0 rfl ?_
  obtain ⟨e1, b2, e3, K⟩ := K
  refine g_get (c := 8) (k := 9) (v := .ref b2) dX8_readRider_76 fc_8 (by decide) (by decide) bw_1207 (congrArg pr e3) e1 ?_
  refine g_iload_n dX8_readRider_79 rfl 1 rfl ?_
  refine g_iconst (v := 3) dX8_readRider_80 (by decide) ?_
  refine g_iadd dX8_readRider_81 ?_
  refine g_aload_n dX8_readRider_82 rfl 0 rfl ?_
  obtain ⟨q4, C5, K⟩ := K
  refine g_callV (M' := mX8_floorNow) (b := a0) (As := []) (rest := [.int (x1 + 3), .ref b2]) (rc' := rc) (rs' := rs) dX8_readRider_83 bw_1379 bw_1381 bs_47 bw_9 bw_1382 ⟨by decide +kernel, by decide +kernel, show (parseMethodDescriptor mX8_floorNow.1.desc).map (fun d => d.parameters.length) = some 0 by decide +kernel⟩ (by decide) (by decide) (Nat.le_of_ble_eq_true rfl) fc_8 (by decide) rfl e1 C5 (Nat.le_of_eq (Nat.add_zero _)) (Nat.le_of_eq (Nat.add_zero _)) (fun _ _ h => h) ?_
  rintro _ h6 ⟨r7, rfl, K1⟩ -
  replace K := K r7 h6 K1
  show Gm l x mX8_readRider 7 86 [(0, .ref a0), (1, .int x1)] [.int r7, .int (x1 + 3), .ref b2] h6 rc rs n0 Q X
  obtain ⟨e8, e9, K⟩ := K
  refine g_iast dX8_readRider_86 e8 e9 ?_
  refine g_aload_n dX8_readRider_87 rfl 0 rfl ?_
  obtain ⟨e10, K⟩ := K
  refine g_get (c := 8) (k := 18) (v := .int (hI (sI h6 b2 (x1 + 3).toNatClampNeg r7) a0 18)) dX8_readRider_88 fc_8 (by decide) (by decide) bw_1216 rfl (kkI e10) ?_
  refine g_if_ne (tgt := 118) dX8_readRider_91 (by decide) (fun c11 => ?_) (fun c11 => ?_)
  · replace K := K.1 c11
    refine g_aload_n dX8_readRider_118 rfl 0 rfl ?_
    refine g_get (c := 8) (k := 18) (v := .int (hI (sI h6 b2 (x1 + 3).toNatClampNeg r7) a0 18)) dX8_readRider_119 fc_8 (by decide) (by decide) bw_1216 rfl (kkI e10) ?_
    refine g_if_ne (tgt := 129) dX8_readRider_122 (by decide) (fun c12 => ?_) (fun c12 => ?_)
    · replace K := K.1 c12
      refine g_aload_n dX8_readRider_129 rfl 0 rfl ?_
      obtain ⟨b13, e14, K⟩ := K
      refine g_get (c := 8) (k := 9) (v := .ref b13) dX8_readRider_130 fc_8 (by decide) (by decide) bw_1207 (congrArg pr (krI e14)) (kkI e10) ?_
      refine g_iload_n dX8_readRider_133 rfl 1 rfl ?_
      refine g_aload_n dX8_readRider_134 rfl 0 rfl ?_
      obtain ⟨z15, K⟩ := K
      refine g_ldcS (j := 19) dX8_readRider_135 z15 ?_
      obtain ⟨q16, C17, K⟩ := K
      refine g_callV (M' := mX8_is) (b := a0) (As := [.retAddr 19]) (rest := [.int x1, .ref b13]) (rc' := rc) (rs' := rs) dX8_readRider_137 bw_1365 bw_1367 bs_44 bw_9 bw_1368 ⟨by decide +kernel, by decide +kernel, show (parseMethodDescriptor mX8_is.1.desc).map (fun d => d.parameters.length) = some 1 by decide +kernel⟩ (by decide) (by decide) (Nat.le_of_ble_eq_true rfl) fc_8 (by decide) rfl (kkI e10) C17 (Nat.le_of_eq (Nat.add_zero _)) (Nat.le_of_eq (Nat.add_zero _)) (fun _ _ h => h) ?_
      rintro _ h18 ⟨r19, rfl, K1⟩ -
      replace K := K r19 h18 K1
      show Gm l x mX8_readRider 7 140 [(0, .ref a0), (1, .int x1)] [.int r19, .int x1, .ref b13] h18 rc rs n0 Q X
      have KJ : Gm l x mX8_readRider 7 148 [(0, .ref a0), (1, .int x1)] [.int (if r19 = 0 then 1 else 2 : Int32), .int x1, .ref b13] h18 rc rs n0 Q X := by
        obtain ⟨e21, e22, K⟩ := K
        refine g_iast dX8_readRider_148 e21 e22 ?_
        refine g_aload_n dX8_readRider_149 rfl 0 rfl ?_
        obtain ⟨e23, K⟩ := K
        refine g_get (c := 8) (k := 18) (v := .int (hI (sI h18 b13 x1.toNatClampNeg (if r19 = 0 then 1 else 2 : Int32)) a0 18)) dX8_readRider_150 fc_8 (by decide) (by decide) bw_1216 rfl (kkI e23) ?_
        refine g_if_ne (tgt := 170) dX8_readRider_153 (by decide) (fun c24 => ?_) (fun c24 => ?_)
        · replace K := K.1 c24
          refine g_aload_n dX8_readRider_170 rfl 0 rfl ?_
          obtain ⟨b25, e26, K⟩ := K
          refine g_get (c := 8) (k := 5) (v := .ref b25) dX8_readRider_171 fc_8 (by decide) (by decide) bw_1203 (congrArg pr (krI e26)) (kkI e23) ?_
          refine g_iconst (v := 2) dX8_readRider_174 (by decide) ?_
          refine g_dup2 dX8_readRider_175 rfl rfl ?_
          obtain ⟨e27, e28, K⟩ := K
          refine g_iald dX8_readRider_176 (kkI e27) (kvI e28) ?_
          refine g_iconst (v := 1) dX8_readRider_177 (by decide) ?_
          refine g_iadd dX8_readRider_178 ?_
          obtain ⟨e29, K⟩ := K
          refine g_iast dX8_readRider_179 (kkI e27) (kvI e29) ?_
          exact g_vret dX8_readRider_180 rfl K
        · replace K := K.2 c24
          refine g_aload_n dX8_readRider_156 rfl 0 rfl ?_
          obtain ⟨b30, e31, K⟩ := K
          refine g_get (c := 8) (k := 9) (v := .ref b30) dX8_readRider_157 fc_8 (by decide) (by decide) bw_1207 (congrArg pr (krI e31)) (kkI e23) ?_
          refine g_iload_n dX8_readRider_160 rfl 1 rfl ?_
          obtain ⟨e32, e33, K⟩ := K
          refine g_iald dX8_readRider_161 (kkI e32) (kvI e33) ?_
          refine g_iconst (v := 2) dX8_readRider_162 (by decide) ?_
          refine g_icmp_ne (tgt := 170) dX8_readRider_163 (by decide) (fun c34 => ?_) (fun c34 => ?_)
          · replace K := K.1 c34
            refine g_aload_n dX8_readRider_170 rfl 0 rfl ?_
            obtain ⟨b35, e36, K⟩ := K
            refine g_get (c := 8) (k := 5) (v := .ref b35) dX8_readRider_171 fc_8 (by decide) (by decide) bw_1203 (congrArg pr (krI e36)) (kkI e23) ?_
            refine g_iconst (v := 2) dX8_readRider_174 (by decide) ?_
            refine g_dup2 dX8_readRider_175 rfl rfl ?_
            obtain ⟨e37, e38, K⟩ := K
            refine g_iald dX8_readRider_176 (kkI e37) (kvI e38) ?_
            refine g_iconst (v := 1) dX8_readRider_177 (by decide) ?_
            refine g_iadd dX8_readRider_178 ?_
            obtain ⟨e39, K⟩ := K
            refine g_iast dX8_readRider_179 (kkI e37) (kvI e39) ?_
            exact g_vret dX8_readRider_180 rfl K
          · replace K := K.2 c34
            refine g_aload_n dX8_readRider_166 rfl 0 rfl ?_
            obtain ⟨q40, C41, K⟩ := K
            refine g_callV (M' := mX8_stepOn) (b := a0) (As := []) (rest := []) (rc' := rc) (rs' := rs) dX8_readRider_167 bw_1341 bw_1343 bs_40 bw_9 bw_1344 ⟨by decide +kernel, by decide +kernel, show (parseMethodDescriptor mX8_stepOn.1.desc).map (fun d => d.parameters.length) = some 0 by decide +kernel⟩ (by decide) (by decide) (Nat.le_of_ble_eq_true rfl) fc_8 (by decide) rfl (kkI e23) C41 (Nat.le_of_eq (Nat.add_zero _)) (Nat.le_of_eq (Nat.add_zero _)) (fun _ _ h => h) ?_
            rintro _ h42 ⟨rfl, K1⟩ -
            replace K := K h42 K1
            show Gm l x mX8_readRider 7 170 [(0, .ref a0), (1, .int x1)] [] h42 rc rs n0 Q X
            refine g_aload_n dX8_readRider_170 rfl 0 rfl ?_
            obtain ⟨e43, b44, e45, K⟩ := K
            refine g_get (c := 8) (k := 5) (v := .ref b44) dX8_readRider_171 fc_8 (by decide) (by decide) bw_1203 (congrArg pr e45) e43 ?_
            refine g_iconst (v := 2) dX8_readRider_174 (by decide) ?_
            refine g_dup2 dX8_readRider_175 rfl rfl ?_
            obtain ⟨e46, e47, K⟩ := K
            refine g_iald dX8_readRider_176 e46 e47 ?_
            refine g_iconst (v := 1) dX8_readRider_177 (by decide) ?_
            refine g_iadd dX8_readRider_178 ?_
            obtain ⟨e48, K⟩ := K
            refine g_iast dX8_readRider_179 e46 e48 ?_
            exact g_vret dX8_readRider_180 rfl K
      refine g_if_eq (tgt := 147) dX8_readRider_140 (by decide) (fun c20 => ?_) (fun c20 => ?_)
      · refine g_iconst (v := 1) dX8_readRider_147 (by decide) ?_
        first | (simp only [if_pos c20] at KJ; exact KJ) | (simp only [if_pos c20, ite_true, ite_false, eq_self] at KJ; exact KJ) | (simp only [if_pos c20] at KJ ⊢; exact KJ) | exact KJ
      · refine g_iconst (v := 2) dX8_readRider_143 (by decide) ?_
        refine g_goto (tgt := 148) dX8_readRider_144 (by decide) ?_
        first | (simp only [if_neg c20] at KJ; exact KJ) | (simp only [if_neg c20, ite_true, ite_false, eq_self] at KJ; exact KJ) | (simp only [if_neg c20] at KJ ⊢; exact KJ) | exact KJ
    · replace K := K.2 c12
      refine g_aload_n dX8_readRider_125 rfl 0 rfl ?_
      obtain ⟨q49, C50, K⟩ := K
      refine g_callV (M' := mX8_stepOn) (b := a0) (As := []) (rest := []) (rc' := rc) (rs' := rs) dX8_readRider_126 bw_1341 bw_1343 bs_40 bw_9 bw_1344 ⟨by decide +kernel, by decide +kernel, show (parseMethodDescriptor mX8_stepOn.1.desc).map (fun d => d.parameters.length) = some 0 by decide +kernel⟩ (by decide) (by decide) (Nat.le_of_ble_eq_true rfl) fc_8 (by decide) rfl (kkI e10) C50 (Nat.le_of_eq (Nat.add_zero _)) (Nat.le_of_eq (Nat.add_zero _)) (fun _ _ h => h) ?_
      rintro _ h51 ⟨rfl, K1⟩ -
      replace K := K h51 K1
      show Gm l x mX8_readRider 7 129 [(0, .ref a0), (1, .int x1)] [] h51 rc rs n0 Q X
      refine g_aload_n dX8_readRider_129 rfl 0 rfl ?_
      obtain ⟨e52, b53, e54, K⟩ := K
      refine g_get (c := 8) (k := 9) (v := .ref b53) dX8_readRider_130 fc_8 (by decide) (by decide) bw_1207 (congrArg pr e54) e52 ?_
      refine g_iload_n dX8_readRider_133 rfl 1 rfl ?_
      refine g_aload_n dX8_readRider_134 rfl 0 rfl ?_
      obtain ⟨z55, K⟩ := K
      refine g_ldcS (j := 19) dX8_readRider_135 z55 ?_
      obtain ⟨q56, C57, K⟩ := K
      refine g_callV (M' := mX8_is) (b := a0) (As := [.retAddr 19]) (rest := [.int x1, .ref b53]) (rc' := rc) (rs' := rs) dX8_readRider_137 bw_1365 bw_1367 bs_44 bw_9 bw_1368 ⟨by decide +kernel, by decide +kernel, show (parseMethodDescriptor mX8_is.1.desc).map (fun d => d.parameters.length) = some 1 by decide +kernel⟩ (by decide) (by decide) (Nat.le_of_ble_eq_true rfl) fc_8 (by decide) rfl e52 C57 (Nat.le_of_eq (Nat.add_zero _)) (Nat.le_of_eq (Nat.add_zero _)) (fun _ _ h => h) ?_
      rintro _ h58 ⟨r59, rfl, K1⟩ -
      replace K := K r59 h58 K1
      show Gm l x mX8_readRider 7 140 [(0, .ref a0), (1, .int x1)] [.int r59, .int x1, .ref b53] h58 rc rs n0 Q X
      have KJ : Gm l x mX8_readRider 7 148 [(0, .ref a0), (1, .int x1)] [.int (if r59 = 0 then 1 else 2 : Int32), .int x1, .ref b53] h58 rc rs n0 Q X := by
        obtain ⟨e61, e62, K⟩ := K
        refine g_iast dX8_readRider_148 e61 e62 ?_
        refine g_aload_n dX8_readRider_149 rfl 0 rfl ?_
        obtain ⟨e63, K⟩ := K
        refine g_get (c := 8) (k := 18) (v := .int (hI (sI h58 b53 x1.toNatClampNeg (if r59 = 0 then 1 else 2 : Int32)) a0 18)) dX8_readRider_150 fc_8 (by decide) (by decide) bw_1216 rfl (kkI e63) ?_
        refine g_if_ne (tgt := 170) dX8_readRider_153 (by decide) (fun c64 => ?_) (fun c64 => ?_)
        · replace K := K.1 c64
          refine g_aload_n dX8_readRider_170 rfl 0 rfl ?_
          obtain ⟨b65, e66, K⟩ := K
          refine g_get (c := 8) (k := 5) (v := .ref b65) dX8_readRider_171 fc_8 (by decide) (by decide) bw_1203 (congrArg pr (krI e66)) (kkI e63) ?_
          refine g_iconst (v := 2) dX8_readRider_174 (by decide) ?_
          refine g_dup2 dX8_readRider_175 rfl rfl ?_
          obtain ⟨e67, e68, K⟩ := K
          refine g_iald dX8_readRider_176 (kkI e67) (kvI e68) ?_
          refine g_iconst (v := 1) dX8_readRider_177 (by decide) ?_
          refine g_iadd dX8_readRider_178 ?_
          obtain ⟨e69, K⟩ := K
          refine g_iast dX8_readRider_179 (kkI e67) (kvI e69) ?_
          exact g_vret dX8_readRider_180 rfl K
        · replace K := K.2 c64
          refine g_aload_n dX8_readRider_156 rfl 0 rfl ?_
          obtain ⟨b70, e71, K⟩ := K
          refine g_get (c := 8) (k := 9) (v := .ref b70) dX8_readRider_157 fc_8 (by decide) (by decide) bw_1207 (congrArg pr (krI e71)) (kkI e63) ?_
          refine g_iload_n dX8_readRider_160 rfl 1 rfl ?_
          obtain ⟨e72, e73, K⟩ := K
          refine g_iald dX8_readRider_161 (kkI e72) (kvI e73) ?_
          refine g_iconst (v := 2) dX8_readRider_162 (by decide) ?_
          refine g_icmp_ne (tgt := 170) dX8_readRider_163 (by decide) (fun c74 => ?_) (fun c74 => ?_)
          · replace K := K.1 c74
            refine g_aload_n dX8_readRider_170 rfl 0 rfl ?_
            obtain ⟨b75, e76, K⟩ := K
            refine g_get (c := 8) (k := 5) (v := .ref b75) dX8_readRider_171 fc_8 (by decide) (by decide) bw_1203 (congrArg pr (krI e76)) (kkI e63) ?_
            refine g_iconst (v := 2) dX8_readRider_174 (by decide) ?_
            refine g_dup2 dX8_readRider_175 rfl rfl ?_
            obtain ⟨e77, e78, K⟩ := K
            refine g_iald dX8_readRider_176 (kkI e77) (kvI e78) ?_
            refine g_iconst (v := 1) dX8_readRider_177 (by decide) ?_
            refine g_iadd dX8_readRider_178 ?_
            obtain ⟨e79, K⟩ := K
            refine g_iast dX8_readRider_179 (kkI e77) (kvI e79) ?_
            exact g_vret dX8_readRider_180 rfl K
          · replace K := K.2 c74
            refine g_aload_n dX8_readRider_166 rfl 0 rfl ?_
            obtain ⟨q80, C81, K⟩ := K
            refine g_callV (M' := mX8_stepOn) (b := a0) (As := []) (rest := []) (rc' := rc) (rs' := rs) dX8_readRider_167 bw_1341 bw_1343 bs_40 bw_9 bw_1344 ⟨by decide +kernel, by decide +kernel, show (parseMethodDescriptor mX8_stepOn.1.desc).map (fun d => d.parameters.length) = some 0 by decide +kernel⟩ (by decide) (by decide) (Nat.le_of_ble_eq_true rfl) fc_8 (by decide) rfl (kkI e63) C81 (Nat.le_of_eq (Nat.add_zero _)) (Nat.le_of_eq (Nat.add_zero _)) (fun _ _ h => h) ?_
            rintro _ h82 ⟨rfl, K1⟩ -
            replace K := K h82 K1
            show Gm l x mX8_readRider 7 170 [(0, .ref a0), (1, .int x1)] [] h82 rc rs n0 Q X
            refine g_aload_n dX8_readRider_170 rfl 0 rfl ?_
            obtain ⟨e83, b84, e85, K⟩ := K
            refine g_get (c := 8) (k := 5) (v := .ref b84) dX8_readRider_171 fc_8 (by decide) (by decide) bw_1203 (congrArg pr e85) e83 ?_
            refine g_iconst (v := 2) dX8_readRider_174 (by decide) ?_
            refine g_dup2 dX8_readRider_175 rfl rfl ?_
            obtain ⟨e86, e87, K⟩ := K
            refine g_iald dX8_readRider_176 e86 e87 ?_
            refine g_iconst (v := 1) dX8_readRider_177 (by decide) ?_
            refine g_iadd dX8_readRider_178 ?_
            obtain ⟨e88, K⟩ := K
            refine g_iast dX8_readRider_179 e86 e88 ?_
            exact g_vret dX8_readRider_180 rfl K
      refine g_if_eq (tgt := 147) dX8_readRider_140 (by decide) (fun c60 => ?_) (fun c60 => ?_)
      · refine g_iconst (v := 1) dX8_readRider_147 (by decide) ?_
        first | (simp only [if_pos c60] at KJ; exact KJ) | (simp only [if_pos c60, ite_true, ite_false, eq_self] at KJ; exact KJ) | (simp only [if_pos c60] at KJ ⊢; exact KJ) | exact KJ
      · refine g_iconst (v := 2) dX8_readRider_143 (by decide) ?_
        refine g_goto (tgt := 148) dX8_readRider_144 (by decide) ?_
        first | (simp only [if_neg c60] at KJ; exact KJ) | (simp only [if_neg c60, ite_true, ite_false, eq_self] at KJ; exact KJ) | (simp only [if_neg c60] at KJ ⊢; exact KJ) | exact KJ
  · replace K := K.2 c11
    refine g_aload_n dX8_readRider_94 rfl 0 rfl ?_
    obtain ⟨b89, e90, K⟩ := K
    refine g_get (c := 8) (k := 9) (v := .ref b89) dX8_readRider_95 fc_8 (by decide) (by decide) bw_1207 (congrArg pr (krI e90)) (kkI e10) ?_
    refine g_iload_n dX8_readRider_98 rfl 1 rfl ?_
    refine g_iconst (v := 3) dX8_readRider_99 (by decide) ?_
    refine g_iadd dX8_readRider_100 ?_
    obtain ⟨e91, e92, K⟩ := K
    refine g_iald dX8_readRider_101 (kkI e91) (kvI e92) ?_
    refine g_aload_n dX8_readRider_102 rfl 0 rfl ?_
    refine g_get (c := 8) (k := 9) (v := .ref b89) dX8_readRider_103 fc_8 (by decide) (by decide) bw_1207 (congrArg pr (krI e90)) (kkI e10) ?_
    refine g_iload_n dX8_readRider_106 rfl 1 rfl ?_
    refine g_iconst (v := 2) dX8_readRider_107 (by decide) ?_
    refine g_iadd dX8_readRider_108 ?_
    obtain ⟨e93, K⟩ := K
    refine g_iald dX8_readRider_109 (kkI e91) (kvI e93) ?_
    refine g_icmp_ne (tgt := 118) dX8_readRider_110 (by decide) (fun c94 => ?_) (fun c94 => ?_)
    · replace K := K.1 c94
      refine g_aload_n dX8_readRider_118 rfl 0 rfl ?_
      refine g_get (c := 8) (k := 18) (v := .int (hI (sI h6 b2 (x1 + 3).toNatClampNeg r7) a0 18)) dX8_readRider_119 fc_8 (by decide) (by decide) bw_1216 rfl (kkI e10) ?_
      refine g_if_ne (tgt := 129) dX8_readRider_122 (by decide) (fun c95 => ?_) (fun c95 => ?_)
      · replace K := K.1 c95
        refine g_aload_n dX8_readRider_129 rfl 0 rfl ?_
        refine g_get (c := 8) (k := 9) (v := .ref b89) dX8_readRider_130 fc_8 (by decide) (by decide) bw_1207 (congrArg pr (krI e90)) (kkI e10) ?_
        refine g_iload_n dX8_readRider_133 rfl 1 rfl ?_
        refine g_aload_n dX8_readRider_134 rfl 0 rfl ?_
        obtain ⟨z96, K⟩ := K
        refine g_ldcS (j := 19) dX8_readRider_135 z96 ?_
        obtain ⟨q97, C98, K⟩ := K
        refine g_callV (M' := mX8_is) (b := a0) (As := [.retAddr 19]) (rest := [.int x1, .ref b89]) (rc' := rc) (rs' := rs) dX8_readRider_137 bw_1365 bw_1367 bs_44 bw_9 bw_1368 ⟨by decide +kernel, by decide +kernel, show (parseMethodDescriptor mX8_is.1.desc).map (fun d => d.parameters.length) = some 1 by decide +kernel⟩ (by decide) (by decide) (Nat.le_of_ble_eq_true rfl) fc_8 (by decide) rfl (kkI e10) C98 (Nat.le_of_eq (Nat.add_zero _)) (Nat.le_of_eq (Nat.add_zero _)) (fun _ _ h => h) ?_
        rintro _ h99 ⟨r100, rfl, K1⟩ -
        replace K := K r100 h99 K1
        show Gm l x mX8_readRider 7 140 [(0, .ref a0), (1, .int x1)] [.int r100, .int x1, .ref b89] h99 rc rs n0 Q X
        have KJ : Gm l x mX8_readRider 7 148 [(0, .ref a0), (1, .int x1)] [.int (if r100 = 0 then 1 else 2 : Int32), .int x1, .ref b89] h99 rc rs n0 Q X := by
          obtain ⟨e102, e103, K⟩ := K
          refine g_iast dX8_readRider_148 e102 e103 ?_
          refine g_aload_n dX8_readRider_149 rfl 0 rfl ?_
          obtain ⟨e104, K⟩ := K
          refine g_get (c := 8) (k := 18) (v := .int (hI (sI h99 b89 x1.toNatClampNeg (if r100 = 0 then 1 else 2 : Int32)) a0 18)) dX8_readRider_150 fc_8 (by decide) (by decide) bw_1216 rfl (kkI e104) ?_
          refine g_if_ne (tgt := 170) dX8_readRider_153 (by decide) (fun c105 => ?_) (fun c105 => ?_)
          · replace K := K.1 c105
            refine g_aload_n dX8_readRider_170 rfl 0 rfl ?_
            obtain ⟨b106, e107, K⟩ := K
            refine g_get (c := 8) (k := 5) (v := .ref b106) dX8_readRider_171 fc_8 (by decide) (by decide) bw_1203 (congrArg pr (krI e107)) (kkI e104) ?_
            refine g_iconst (v := 2) dX8_readRider_174 (by decide) ?_
            refine g_dup2 dX8_readRider_175 rfl rfl ?_
            obtain ⟨e108, e109, K⟩ := K
            refine g_iald dX8_readRider_176 (kkI e108) (kvI e109) ?_
            refine g_iconst (v := 1) dX8_readRider_177 (by decide) ?_
            refine g_iadd dX8_readRider_178 ?_
            obtain ⟨e110, K⟩ := K
            refine g_iast dX8_readRider_179 (kkI e108) (kvI e110) ?_
            exact g_vret dX8_readRider_180 rfl K
          · replace K := K.2 c105
            refine g_aload_n dX8_readRider_156 rfl 0 rfl ?_
            obtain ⟨b111, e112, K⟩ := K
            refine g_get (c := 8) (k := 9) (v := .ref b111) dX8_readRider_157 fc_8 (by decide) (by decide) bw_1207 (congrArg pr (krI e112)) (kkI e104) ?_
            refine g_iload_n dX8_readRider_160 rfl 1 rfl ?_
            obtain ⟨e113, e114, K⟩ := K
            refine g_iald dX8_readRider_161 (kkI e113) (kvI e114) ?_
            refine g_iconst (v := 2) dX8_readRider_162 (by decide) ?_
            refine g_icmp_ne (tgt := 170) dX8_readRider_163 (by decide) (fun c115 => ?_) (fun c115 => ?_)
            · replace K := K.1 c115
              refine g_aload_n dX8_readRider_170 rfl 0 rfl ?_
              obtain ⟨b116, e117, K⟩ := K
              refine g_get (c := 8) (k := 5) (v := .ref b116) dX8_readRider_171 fc_8 (by decide) (by decide) bw_1203 (congrArg pr (krI e117)) (kkI e104) ?_
              refine g_iconst (v := 2) dX8_readRider_174 (by decide) ?_
              refine g_dup2 dX8_readRider_175 rfl rfl ?_
              obtain ⟨e118, e119, K⟩ := K
              refine g_iald dX8_readRider_176 (kkI e118) (kvI e119) ?_
              refine g_iconst (v := 1) dX8_readRider_177 (by decide) ?_
              refine g_iadd dX8_readRider_178 ?_
              obtain ⟨e120, K⟩ := K
              refine g_iast dX8_readRider_179 (kkI e118) (kvI e120) ?_
              exact g_vret dX8_readRider_180 rfl K
            · replace K := K.2 c115
              refine g_aload_n dX8_readRider_166 rfl 0 rfl ?_
              obtain ⟨q121, C122, K⟩ := K
              refine g_callV (M' := mX8_stepOn) (b := a0) (As := []) (rest := []) (rc' := rc) (rs' := rs) dX8_readRider_167 bw_1341 bw_1343 bs_40 bw_9 bw_1344 ⟨by decide +kernel, by decide +kernel, show (parseMethodDescriptor mX8_stepOn.1.desc).map (fun d => d.parameters.length) = some 0 by decide +kernel⟩ (by decide) (by decide) (Nat.le_of_ble_eq_true rfl) fc_8 (by decide) rfl (kkI e104) C122 (Nat.le_of_eq (Nat.add_zero _)) (Nat.le_of_eq (Nat.add_zero _)) (fun _ _ h => h) ?_
              rintro _ h123 ⟨rfl, K1⟩ -
              replace K := K h123 K1
              show Gm l x mX8_readRider 7 170 [(0, .ref a0), (1, .int x1)] [] h123 rc rs n0 Q X
              refine g_aload_n dX8_readRider_170 rfl 0 rfl ?_
              obtain ⟨e124, b125, e126, K⟩ := K
              refine g_get (c := 8) (k := 5) (v := .ref b125) dX8_readRider_171 fc_8 (by decide) (by decide) bw_1203 (congrArg pr e126) e124 ?_
              refine g_iconst (v := 2) dX8_readRider_174 (by decide) ?_
              refine g_dup2 dX8_readRider_175 rfl rfl ?_
              obtain ⟨e127, e128, K⟩ := K
              refine g_iald dX8_readRider_176 e127 e128 ?_
              refine g_iconst (v := 1) dX8_readRider_177 (by decide) ?_
              refine g_iadd dX8_readRider_178 ?_
              obtain ⟨e129, K⟩ := K
              refine g_iast dX8_readRider_179 e127 e129 ?_
              exact g_vret dX8_readRider_180 rfl K
        refine g_if_eq (tgt := 147) dX8_readRider_140 (by decide) (fun c101 => ?_) (fun c101 => ?_)
        · refine g_iconst (v := 1) dX8_readRider_147 (by decide) ?_
          first | (simp only [if_pos c101] at KJ; exact KJ) | (simp only [if_pos c101, ite_true, ite_false, eq_self] at KJ; exact KJ) | (simp only [if_pos c101] at KJ ⊢; exact KJ) | exact KJ
        · refine g_iconst (v := 2) dX8_readRider_143 (by decide) ?_
          refine g_goto (tgt := 148) dX8_readRider_144 (by decide) ?_
          first | (simp only [if_neg c101] at KJ; exact KJ) | (simp only [if_neg c101, ite_true, ite_false, eq_self] at KJ; exact KJ) | (simp only [if_neg c101] at KJ ⊢; exact KJ) | exact KJ
      · replace K := K.2 c95
        refine g_aload_n dX8_readRider_125 rfl 0 rfl ?_
        obtain ⟨q130, C131, K⟩ := K
        refine g_callV (M' := mX8_stepOn) (b := a0) (As := []) (rest := []) (rc' := rc) (rs' := rs) dX8_readRider_126 bw_1341 bw_1343 bs_40 bw_9 bw_1344 ⟨by decide +kernel, by decide +kernel, show (parseMethodDescriptor mX8_stepOn.1.desc).map (fun d => d.parameters.length) = some 0 by decide +kernel⟩ (by decide) (by decide) (Nat.le_of_ble_eq_true rfl) fc_8 (by decide) rfl (kkI e10) C131 (Nat.le_of_eq (Nat.add_zero _)) (Nat.le_of_eq (Nat.add_zero _)) (fun _ _ h => h) ?_
        rintro _ h132 ⟨rfl, K1⟩ -
        replace K := K h132 K1
        show Gm l x mX8_readRider 7 129 [(0, .ref a0), (1, .int x1)] [] h132 rc rs n0 Q X
        refine g_aload_n dX8_readRider_129 rfl 0 rfl ?_
        obtain ⟨e133, b134, e135, K⟩ := K
        refine g_get (c := 8) (k := 9) (v := .ref b134) dX8_readRider_130 fc_8 (by decide) (by decide) bw_1207 (congrArg pr e135) e133 ?_
        refine g_iload_n dX8_readRider_133 rfl 1 rfl ?_
        refine g_aload_n dX8_readRider_134 rfl 0 rfl ?_
        obtain ⟨z136, K⟩ := K
        refine g_ldcS (j := 19) dX8_readRider_135 z136 ?_
        obtain ⟨q137, C138, K⟩ := K
        refine g_callV (M' := mX8_is) (b := a0) (As := [.retAddr 19]) (rest := [.int x1, .ref b134]) (rc' := rc) (rs' := rs) dX8_readRider_137 bw_1365 bw_1367 bs_44 bw_9 bw_1368 ⟨by decide +kernel, by decide +kernel, show (parseMethodDescriptor mX8_is.1.desc).map (fun d => d.parameters.length) = some 1 by decide +kernel⟩ (by decide) (by decide) (Nat.le_of_ble_eq_true rfl) fc_8 (by decide) rfl e133 C138 (Nat.le_of_eq (Nat.add_zero _)) (Nat.le_of_eq (Nat.add_zero _)) (fun _ _ h => h) ?_
        rintro _ h139 ⟨r140, rfl, K1⟩ -
        replace K := K r140 h139 K1
        show Gm l x mX8_readRider 7 140 [(0, .ref a0), (1, .int x1)] [.int r140, .int x1, .ref b134] h139 rc rs n0 Q X
        have KJ : Gm l x mX8_readRider 7 148 [(0, .ref a0), (1, .int x1)] [.int (if r140 = 0 then 1 else 2 : Int32), .int x1, .ref b134] h139 rc rs n0 Q X := by
          obtain ⟨e142, e143, K⟩ := K
          refine g_iast dX8_readRider_148 e142 e143 ?_
          refine g_aload_n dX8_readRider_149 rfl 0 rfl ?_
          obtain ⟨e144, K⟩ := K
          refine g_get (c := 8) (k := 18) (v := .int (hI (sI h139 b134 x1.toNatClampNeg (if r140 = 0 then 1 else 2 : Int32)) a0 18)) dX8_readRider_150 fc_8 (by decide) (by decide) bw_1216 rfl (kkI e144) ?_
          refine g_if_ne (tgt := 170) dX8_readRider_153 (by decide) (fun c145 => ?_) (fun c145 => ?_)
          · replace K := K.1 c145
            refine g_aload_n dX8_readRider_170 rfl 0 rfl ?_
            obtain ⟨b146, e147, K⟩ := K
            refine g_get (c := 8) (k := 5) (v := .ref b146) dX8_readRider_171 fc_8 (by decide) (by decide) bw_1203 (congrArg pr (krI e147)) (kkI e144) ?_
            refine g_iconst (v := 2) dX8_readRider_174 (by decide) ?_
            refine g_dup2 dX8_readRider_175 rfl rfl ?_
            obtain ⟨e148, e149, K⟩ := K
            refine g_iald dX8_readRider_176 (kkI e148) (kvI e149) ?_
            refine g_iconst (v := 1) dX8_readRider_177 (by decide) ?_
            refine g_iadd dX8_readRider_178 ?_
            obtain ⟨e150, K⟩ := K
            refine g_iast dX8_readRider_179 (kkI e148) (kvI e150) ?_
            exact g_vret dX8_readRider_180 rfl K
          · replace K := K.2 c145
            refine g_aload_n dX8_readRider_156 rfl 0 rfl ?_
            obtain ⟨b151, e152, K⟩ := K
            refine g_get (c := 8) (k := 9) (v := .ref b151) dX8_readRider_157 fc_8 (by decide) (by decide) bw_1207 (congrArg pr (krI e152)) (kkI e144) ?_
            refine g_iload_n dX8_readRider_160 rfl 1 rfl ?_
            obtain ⟨e153, e154, K⟩ := K
            refine g_iald dX8_readRider_161 (kkI e153) (kvI e154) ?_
            refine g_iconst (v := 2) dX8_readRider_162 (by decide) ?_
            refine g_icmp_ne (tgt := 170) dX8_readRider_163 (by decide) (fun c155 => ?_) (fun c155 => ?_)
            · replace K := K.1 c155
              refine g_aload_n dX8_readRider_170 rfl 0 rfl ?_
              obtain ⟨b156, e157, K⟩ := K
              refine g_get (c := 8) (k := 5) (v := .ref b156) dX8_readRider_171 fc_8 (by decide) (by decide) bw_1203 (congrArg pr (krI e157)) (kkI e144) ?_
              refine g_iconst (v := 2) dX8_readRider_174 (by decide) ?_
              refine g_dup2 dX8_readRider_175 rfl rfl ?_
              obtain ⟨e158, e159, K⟩ := K
              refine g_iald dX8_readRider_176 (kkI e158) (kvI e159) ?_
              refine g_iconst (v := 1) dX8_readRider_177 (by decide) ?_
              refine g_iadd dX8_readRider_178 ?_
              obtain ⟨e160, K⟩ := K
              refine g_iast dX8_readRider_179 (kkI e158) (kvI e160) ?_
              exact g_vret dX8_readRider_180 rfl K
            · replace K := K.2 c155
              refine g_aload_n dX8_readRider_166 rfl 0 rfl ?_
              obtain ⟨q161, C162, K⟩ := K
              refine g_callV (M' := mX8_stepOn) (b := a0) (As := []) (rest := []) (rc' := rc) (rs' := rs) dX8_readRider_167 bw_1341 bw_1343 bs_40 bw_9 bw_1344 ⟨by decide +kernel, by decide +kernel, show (parseMethodDescriptor mX8_stepOn.1.desc).map (fun d => d.parameters.length) = some 0 by decide +kernel⟩ (by decide) (by decide) (Nat.le_of_ble_eq_true rfl) fc_8 (by decide) rfl (kkI e144) C162 (Nat.le_of_eq (Nat.add_zero _)) (Nat.le_of_eq (Nat.add_zero _)) (fun _ _ h => h) ?_
              rintro _ h163 ⟨rfl, K1⟩ -
              replace K := K h163 K1
              show Gm l x mX8_readRider 7 170 [(0, .ref a0), (1, .int x1)] [] h163 rc rs n0 Q X
              refine g_aload_n dX8_readRider_170 rfl 0 rfl ?_
              obtain ⟨e164, b165, e166, K⟩ := K
              refine g_get (c := 8) (k := 5) (v := .ref b165) dX8_readRider_171 fc_8 (by decide) (by decide) bw_1203 (congrArg pr e166) e164 ?_
              refine g_iconst (v := 2) dX8_readRider_174 (by decide) ?_
              refine g_dup2 dX8_readRider_175 rfl rfl ?_
              obtain ⟨e167, e168, K⟩ := K
              refine g_iald dX8_readRider_176 e167 e168 ?_
              refine g_iconst (v := 1) dX8_readRider_177 (by decide) ?_
              refine g_iadd dX8_readRider_178 ?_
              obtain ⟨e169, K⟩ := K
              refine g_iast dX8_readRider_179 e167 e169 ?_
              exact g_vret dX8_readRider_180 rfl K
        refine g_if_eq (tgt := 147) dX8_readRider_140 (by decide) (fun c141 => ?_) (fun c141 => ?_)
        · refine g_iconst (v := 1) dX8_readRider_147 (by decide) ?_
          first | (simp only [if_pos c141] at KJ; exact KJ) | (simp only [if_pos c141, ite_true, ite_false, eq_self] at KJ; exact KJ) | (simp only [if_pos c141] at KJ ⊢; exact KJ) | exact KJ
        · refine g_iconst (v := 2) dX8_readRider_143 (by decide) ?_
          refine g_goto (tgt := 148) dX8_readRider_144 (by decide) ?_
          first | (simp only [if_neg c141] at KJ; exact KJ) | (simp only [if_neg c141, ite_true, ite_false, eq_self] at KJ; exact KJ) | (simp only [if_neg c141] at KJ ⊢; exact KJ) | exact KJ
    · replace K := K.2 c94
      refine g_aload_n dX8_readRider_113 rfl 0 rfl ?_
      refine g_iconst (v := 5) dX8_readRider_114 (by decide) ?_
      obtain ⟨q170, C171, K⟩ := K
      refine g_callV (M' := mX8_wrong) (b := a0) (As := [.int 5]) (rest := []) (rc' := rc) (rs' := rs) dX8_readRider_115 bw_1371 bw_1373 bs_45 bw_9 bw_1374 ⟨by decide +kernel, by decide +kernel, show (parseMethodDescriptor mX8_wrong.1.desc).map (fun d => d.parameters.length) = some 1 by decide +kernel⟩ (by decide) (by decide) (Nat.le_of_ble_eq_true rfl) fc_8 (by decide) rfl (kkI e10) C171 (Nat.le_of_eq (Nat.add_zero _)) (Nat.le_of_eq (Nat.add_zero _)) (fun _ _ h => h) ?_
      rintro _ h172 ⟨rfl, K1⟩ -
      replace K := K h172 K1
      show Gm l x mX8_readRider 7 118 [(0, .ref a0), (1, .int x1)] [] h172 rc rs n0 Q X
      refine g_aload_n dX8_readRider_118 rfl 0 rfl ?_
      obtain ⟨e173, K⟩ := K
      refine g_get (c := 8) (k := 18) (v := .int (hI h172 a0 18)) dX8_readRider_119 fc_8 (by decide) (by decide) bw_1216 rfl e173 ?_
      refine g_if_ne (tgt := 129) dX8_readRider_122 (by decide) (fun c174 => ?_) (fun c174 => ?_)
      · replace K := K.1 c174
        refine g_aload_n dX8_readRider_129 rfl 0 rfl ?_
        obtain ⟨b175, e176, K⟩ := K
        refine g_get (c := 8) (k := 9) (v := .ref b175) dX8_readRider_130 fc_8 (by decide) (by decide) bw_1207 (congrArg pr e176) e173 ?_
        refine g_iload_n dX8_readRider_133 rfl 1 rfl ?_
        refine g_aload_n dX8_readRider_134 rfl 0 rfl ?_
        obtain ⟨z177, K⟩ := K
        refine g_ldcS (j := 19) dX8_readRider_135 z177 ?_
        obtain ⟨q178, C179, K⟩ := K
        refine g_callV (M' := mX8_is) (b := a0) (As := [.retAddr 19]) (rest := [.int x1, .ref b175]) (rc' := rc) (rs' := rs) dX8_readRider_137 bw_1365 bw_1367 bs_44 bw_9 bw_1368 ⟨by decide +kernel, by decide +kernel, show (parseMethodDescriptor mX8_is.1.desc).map (fun d => d.parameters.length) = some 1 by decide +kernel⟩ (by decide) (by decide) (Nat.le_of_ble_eq_true rfl) fc_8 (by decide) rfl e173 C179 (Nat.le_of_eq (Nat.add_zero _)) (Nat.le_of_eq (Nat.add_zero _)) (fun _ _ h => h) ?_
        rintro _ h180 ⟨r181, rfl, K1⟩ -
        replace K := K r181 h180 K1
        show Gm l x mX8_readRider 7 140 [(0, .ref a0), (1, .int x1)] [.int r181, .int x1, .ref b175] h180 rc rs n0 Q X
        have KJ : Gm l x mX8_readRider 7 148 [(0, .ref a0), (1, .int x1)] [.int (if r181 = 0 then 1 else 2 : Int32), .int x1, .ref b175] h180 rc rs n0 Q X := by
          obtain ⟨e183, e184, K⟩ := K
          refine g_iast dX8_readRider_148 e183 e184 ?_
          refine g_aload_n dX8_readRider_149 rfl 0 rfl ?_
          obtain ⟨e185, K⟩ := K
          refine g_get (c := 8) (k := 18) (v := .int (hI (sI h180 b175 x1.toNatClampNeg (if r181 = 0 then 1 else 2 : Int32)) a0 18)) dX8_readRider_150 fc_8 (by decide) (by decide) bw_1216 rfl (kkI e185) ?_
          refine g_if_ne (tgt := 170) dX8_readRider_153 (by decide) (fun c186 => ?_) (fun c186 => ?_)
          · replace K := K.1 c186
            refine g_aload_n dX8_readRider_170 rfl 0 rfl ?_
            obtain ⟨b187, e188, K⟩ := K
            refine g_get (c := 8) (k := 5) (v := .ref b187) dX8_readRider_171 fc_8 (by decide) (by decide) bw_1203 (congrArg pr (krI e188)) (kkI e185) ?_
            refine g_iconst (v := 2) dX8_readRider_174 (by decide) ?_
            refine g_dup2 dX8_readRider_175 rfl rfl ?_
            obtain ⟨e189, e190, K⟩ := K
            refine g_iald dX8_readRider_176 (kkI e189) (kvI e190) ?_
            refine g_iconst (v := 1) dX8_readRider_177 (by decide) ?_
            refine g_iadd dX8_readRider_178 ?_
            obtain ⟨e191, K⟩ := K
            refine g_iast dX8_readRider_179 (kkI e189) (kvI e191) ?_
            exact g_vret dX8_readRider_180 rfl K
          · replace K := K.2 c186
            refine g_aload_n dX8_readRider_156 rfl 0 rfl ?_
            obtain ⟨b192, e193, K⟩ := K
            refine g_get (c := 8) (k := 9) (v := .ref b192) dX8_readRider_157 fc_8 (by decide) (by decide) bw_1207 (congrArg pr (krI e193)) (kkI e185) ?_
            refine g_iload_n dX8_readRider_160 rfl 1 rfl ?_
            obtain ⟨e194, e195, K⟩ := K
            refine g_iald dX8_readRider_161 (kkI e194) (kvI e195) ?_
            refine g_iconst (v := 2) dX8_readRider_162 (by decide) ?_
            refine g_icmp_ne (tgt := 170) dX8_readRider_163 (by decide) (fun c196 => ?_) (fun c196 => ?_)
            · replace K := K.1 c196
              refine g_aload_n dX8_readRider_170 rfl 0 rfl ?_
              obtain ⟨b197, e198, K⟩ := K
              refine g_get (c := 8) (k := 5) (v := .ref b197) dX8_readRider_171 fc_8 (by decide) (by decide) bw_1203 (congrArg pr (krI e198)) (kkI e185) ?_
              refine g_iconst (v := 2) dX8_readRider_174 (by decide) ?_
              refine g_dup2 dX8_readRider_175 rfl rfl ?_
              obtain ⟨e199, e200, K⟩ := K
              refine g_iald dX8_readRider_176 (kkI e199) (kvI e200) ?_
              refine g_iconst (v := 1) dX8_readRider_177 (by decide) ?_
              refine g_iadd dX8_readRider_178 ?_
              obtain ⟨e201, K⟩ := K
              refine g_iast dX8_readRider_179 (kkI e199) (kvI e201) ?_
              exact g_vret dX8_readRider_180 rfl K
            · replace K := K.2 c196
              refine g_aload_n dX8_readRider_166 rfl 0 rfl ?_
              obtain ⟨q202, C203, K⟩ := K
              refine g_callV (M' := mX8_stepOn) (b := a0) (As := []) (rest := []) (rc' := rc) (rs' := rs) dX8_readRider_167 bw_1341 bw_1343 bs_40 bw_9 bw_1344 ⟨by decide +kernel, by decide +kernel, show (parseMethodDescriptor mX8_stepOn.1.desc).map (fun d => d.parameters.length) = some 0 by decide +kernel⟩ (by decide) (by decide) (Nat.le_of_ble_eq_true rfl) fc_8 (by decide) rfl (kkI e185) C203 (Nat.le_of_eq (Nat.add_zero _)) (Nat.le_of_eq (Nat.add_zero _)) (fun _ _ h => h) ?_
              rintro _ h204 ⟨rfl, K1⟩ -
              replace K := K h204 K1
              show Gm l x mX8_readRider 7 170 [(0, .ref a0), (1, .int x1)] [] h204 rc rs n0 Q X
              refine g_aload_n dX8_readRider_170 rfl 0 rfl ?_
              obtain ⟨e205, b206, e207, K⟩ := K
              refine g_get (c := 8) (k := 5) (v := .ref b206) dX8_readRider_171 fc_8 (by decide) (by decide) bw_1203 (congrArg pr e207) e205 ?_
              refine g_iconst (v := 2) dX8_readRider_174 (by decide) ?_
              refine g_dup2 dX8_readRider_175 rfl rfl ?_
              obtain ⟨e208, e209, K⟩ := K
              refine g_iald dX8_readRider_176 e208 e209 ?_
              refine g_iconst (v := 1) dX8_readRider_177 (by decide) ?_
              refine g_iadd dX8_readRider_178 ?_
              obtain ⟨e210, K⟩ := K
              refine g_iast dX8_readRider_179 e208 e210 ?_
              exact g_vret dX8_readRider_180 rfl K
        refine g_if_eq (tgt := 147) dX8_readRider_140 (by decide) (fun c182 => ?_) (fun c182 => ?_)
        · refine g_iconst (v := 1) dX8_readRider_147 (by decide) ?_
          first | (simp only [if_pos c182] at KJ; exact KJ) | (simp only [if_pos c182, ite_true, ite_false, eq_self] at KJ; exact KJ) | (simp only [if_pos c182] at KJ ⊢; exact KJ) | exact KJ
        · refine g_iconst (v := 2) dX8_readRider_143 (by decide) ?_
          refine g_goto (tgt := 148) dX8_readRider_144 (by decide) ?_
          first | (simp only [if_neg c182] at KJ; exact KJ) | (simp only [if_neg c182, ite_true, ite_false, eq_self] at KJ; exact KJ) | (simp only [if_neg c182] at KJ ⊢; exact KJ) | exact KJ
      · replace K := K.2 c174
        refine g_aload_n dX8_readRider_125 rfl 0 rfl ?_
        obtain ⟨q211, C212, K⟩ := K
        refine g_callV (M' := mX8_stepOn) (b := a0) (As := []) (rest := []) (rc' := rc) (rs' := rs) dX8_readRider_126 bw_1341 bw_1343 bs_40 bw_9 bw_1344 ⟨by decide +kernel, by decide +kernel, show (parseMethodDescriptor mX8_stepOn.1.desc).map (fun d => d.parameters.length) = some 0 by decide +kernel⟩ (by decide) (by decide) (Nat.le_of_ble_eq_true rfl) fc_8 (by decide) rfl e173 C212 (Nat.le_of_eq (Nat.add_zero _)) (Nat.le_of_eq (Nat.add_zero _)) (fun _ _ h => h) ?_
        rintro _ h213 ⟨rfl, K1⟩ -
        replace K := K h213 K1
        show Gm l x mX8_readRider 7 129 [(0, .ref a0), (1, .int x1)] [] h213 rc rs n0 Q X
        refine g_aload_n dX8_readRider_129 rfl 0 rfl ?_
        obtain ⟨e214, b215, e216, K⟩ := K
        refine g_get (c := 8) (k := 9) (v := .ref b215) dX8_readRider_130 fc_8 (by decide) (by decide) bw_1207 (congrArg pr e216) e214 ?_
        refine g_iload_n dX8_readRider_133 rfl 1 rfl ?_
        refine g_aload_n dX8_readRider_134 rfl 0 rfl ?_
        obtain ⟨z217, K⟩ := K
        refine g_ldcS (j := 19) dX8_readRider_135 z217 ?_
        obtain ⟨q218, C219, K⟩ := K
        refine g_callV (M' := mX8_is) (b := a0) (As := [.retAddr 19]) (rest := [.int x1, .ref b215]) (rc' := rc) (rs' := rs) dX8_readRider_137 bw_1365 bw_1367 bs_44 bw_9 bw_1368 ⟨by decide +kernel, by decide +kernel, show (parseMethodDescriptor mX8_is.1.desc).map (fun d => d.parameters.length) = some 1 by decide +kernel⟩ (by decide) (by decide) (Nat.le_of_ble_eq_true rfl) fc_8 (by decide) rfl e214 C219 (Nat.le_of_eq (Nat.add_zero _)) (Nat.le_of_eq (Nat.add_zero _)) (fun _ _ h => h) ?_
        rintro _ h220 ⟨r221, rfl, K1⟩ -
        replace K := K r221 h220 K1
        show Gm l x mX8_readRider 7 140 [(0, .ref a0), (1, .int x1)] [.int r221, .int x1, .ref b215] h220 rc rs n0 Q X
        have KJ : Gm l x mX8_readRider 7 148 [(0, .ref a0), (1, .int x1)] [.int (if r221 = 0 then 1 else 2 : Int32), .int x1, .ref b215] h220 rc rs n0 Q X := by
          obtain ⟨e223, e224, K⟩ := K
          refine g_iast dX8_readRider_148 e223 e224 ?_
          refine g_aload_n dX8_readRider_149 rfl 0 rfl ?_
          obtain ⟨e225, K⟩ := K
          refine g_get (c := 8) (k := 18) (v := .int (hI (sI h220 b215 x1.toNatClampNeg (if r221 = 0 then 1 else 2 : Int32)) a0 18)) dX8_readRider_150 fc_8 (by decide) (by decide) bw_1216 rfl (kkI e225) ?_
          refine g_if_ne (tgt := 170) dX8_readRider_153 (by decide) (fun c226 => ?_) (fun c226 => ?_)
          · replace K := K.1 c226
            refine g_aload_n dX8_readRider_170 rfl 0 rfl ?_
            obtain ⟨b227, e228, K⟩ := K
            refine g_get (c := 8) (k := 5) (v := .ref b227) dX8_readRider_171 fc_8 (by decide) (by decide) bw_1203 (congrArg pr (krI e228)) (kkI e225) ?_
            refine g_iconst (v := 2) dX8_readRider_174 (by decide) ?_
            refine g_dup2 dX8_readRider_175 rfl rfl ?_
            obtain ⟨e229, e230, K⟩ := K
            refine g_iald dX8_readRider_176 (kkI e229) (kvI e230) ?_
            refine g_iconst (v := 1) dX8_readRider_177 (by decide) ?_
            refine g_iadd dX8_readRider_178 ?_
            obtain ⟨e231, K⟩ := K
            refine g_iast dX8_readRider_179 (kkI e229) (kvI e231) ?_
            exact g_vret dX8_readRider_180 rfl K
          · replace K := K.2 c226
            refine g_aload_n dX8_readRider_156 rfl 0 rfl ?_
            obtain ⟨b232, e233, K⟩ := K
            refine g_get (c := 8) (k := 9) (v := .ref b232) dX8_readRider_157 fc_8 (by decide) (by decide) bw_1207 (congrArg pr (krI e233)) (kkI e225) ?_
            refine g_iload_n dX8_readRider_160 rfl 1 rfl ?_
            obtain ⟨e234, e235, K⟩ := K
            refine g_iald dX8_readRider_161 (kkI e234) (kvI e235) ?_
            refine g_iconst (v := 2) dX8_readRider_162 (by decide) ?_
            refine g_icmp_ne (tgt := 170) dX8_readRider_163 (by decide) (fun c236 => ?_) (fun c236 => ?_)
            · replace K := K.1 c236
              refine g_aload_n dX8_readRider_170 rfl 0 rfl ?_
              obtain ⟨b237, e238, K⟩ := K
              refine g_get (c := 8) (k := 5) (v := .ref b237) dX8_readRider_171 fc_8 (by decide) (by decide) bw_1203 (congrArg pr (krI e238)) (kkI e225) ?_
              refine g_iconst (v := 2) dX8_readRider_174 (by decide) ?_
              refine g_dup2 dX8_readRider_175 rfl rfl ?_
              obtain ⟨e239, e240, K⟩ := K
              refine g_iald dX8_readRider_176 (kkI e239) (kvI e240) ?_
              refine g_iconst (v := 1) dX8_readRider_177 (by decide) ?_
              refine g_iadd dX8_readRider_178 ?_
              obtain ⟨e241, K⟩ := K
              refine g_iast dX8_readRider_179 (kkI e239) (kvI e241) ?_
              exact g_vret dX8_readRider_180 rfl K
            · replace K := K.2 c236
              refine g_aload_n dX8_readRider_166 rfl 0 rfl ?_
              obtain ⟨q242, C243, K⟩ := K
              refine g_callV (M' := mX8_stepOn) (b := a0) (As := []) (rest := []) (rc' := rc) (rs' := rs) dX8_readRider_167 bw_1341 bw_1343 bs_40 bw_9 bw_1344 ⟨by decide +kernel, by decide +kernel, show (parseMethodDescriptor mX8_stepOn.1.desc).map (fun d => d.parameters.length) = some 0 by decide +kernel⟩ (by decide) (by decide) (Nat.le_of_ble_eq_true rfl) fc_8 (by decide) rfl (kkI e225) C243 (Nat.le_of_eq (Nat.add_zero _)) (Nat.le_of_eq (Nat.add_zero _)) (fun _ _ h => h) ?_
              rintro _ h244 ⟨rfl, K1⟩ -
              replace K := K h244 K1
              show Gm l x mX8_readRider 7 170 [(0, .ref a0), (1, .int x1)] [] h244 rc rs n0 Q X
              refine g_aload_n dX8_readRider_170 rfl 0 rfl ?_
              obtain ⟨e245, b246, e247, K⟩ := K
              refine g_get (c := 8) (k := 5) (v := .ref b246) dX8_readRider_171 fc_8 (by decide) (by decide) bw_1203 (congrArg pr e247) e245 ?_
              refine g_iconst (v := 2) dX8_readRider_174 (by decide) ?_
              refine g_dup2 dX8_readRider_175 rfl rfl ?_
              obtain ⟨e248, e249, K⟩ := K
              refine g_iald dX8_readRider_176 e248 e249 ?_
              refine g_iconst (v := 1) dX8_readRider_177 (by decide) ?_
              refine g_iadd dX8_readRider_178 ?_
              obtain ⟨e250, K⟩ := K
              refine g_iast dX8_readRider_179 e248 e250 ?_
              exact g_vret dX8_readRider_180 rfl K
        refine g_if_eq (tgt := 147) dX8_readRider_140 (by decide) (fun c222 => ?_) (fun c222 => ?_)
        · refine g_iconst (v := 1) dX8_readRider_147 (by decide) ?_
          first | (simp only [if_pos c222] at KJ; exact KJ) | (simp only [if_pos c222, ite_true, ite_false, eq_self] at KJ; exact KJ) | (simp only [if_pos c222] at KJ ⊢; exact KJ) | exact KJ
        · refine g_iconst (v := 2) dX8_readRider_143 (by decide) ?_
          refine g_goto (tgt := 148) dX8_readRider_144 (by decide) ?_
          first | (simp only [if_neg c222] at KJ; exact KJ) | (simp only [if_neg c222, ite_true, ite_false, eq_self] at KJ; exact KJ) | (simp only [if_neg c222] at KJ ⊢; exact KJ) | exact KJ
theorem dX8_costOf_0 : decode cX8_costOf 0 = .ok (.aload_n 0, 1) := by decide +kernel
theorem dX8_costOf_1 : decode cX8_costOf 1 = .ok (.getfield 61, 3) := by decide +kernel
theorem dX8_costOf_4 : decode cX8_costOf 4 = .ok (.aload_n 0, 1) := by decide +kernel
theorem dX8_costOf_5 : decode cX8_costOf 5 = .ok (.getfield 29, 3) := by decide +kernel
theorem dX8_costOf_8 : decode cX8_costOf 8 = .ok (.invokestatic 204, 3) := by decide +kernel
theorem dX8_costOf_11 : decode cX8_costOf 11 = .ok (.sipush 264, 3) := by decide +kernel
theorem dX8_costOf_14 : decode cX8_costOf 14 = .ok (.istore 5, 2) := by decide +kernel
theorem dX8_costOf_16 : decode cX8_costOf 16 = .ok (.iload 5, 2) := by decide +kernel
theorem dX8_costOf_18 : decode cX8_costOf 18 = .ok (.sipush 312, 3) := by decide +kernel
theorem dX8_costOf_21 : decode cX8_costOf 21 = .ok (.if_icmp .ge 40, 3) := by decide +kernel
theorem dX8_costOf_24 : decode cX8_costOf 24 = .ok (.aload_n 0, 1) := by decide +kernel
theorem dX8_costOf_25 : decode cX8_costOf 25 = .ok (.getfield 29, 3) := by decide +kernel
theorem dX8_costOf_28 : decode cX8_costOf 28 = .ok (.iload 5, 2) := by decide +kernel
theorem dX8_costOf_30 : decode cX8_costOf 30 = .ok (.aload_n 0, 1) := by decide +kernel
theorem dX8_costOf_31 : decode cX8_costOf 31 = .ok (.getfield 29, 3) := by decide +kernel
theorem dX8_costOf_34 : decode cX8_costOf 34 = .ok (.iload 5, 2) := by decide +kernel
theorem dX8_costOf_36 : decode cX8_costOf 36 = .ok (.iaload, 1) := by decide +kernel
theorem dX8_costOf_37 : decode cX8_costOf 37 = .ok (.iload_n 1, 1) := by decide +kernel
theorem dX8_costOf_38 : decode cX8_costOf 38 = .ok (.iconst 1, 1) := by decide +kernel
theorem dX8_costOf_39 : decode cX8_costOf 39 = .ok (.iadd, 1) := by decide +kernel
theorem dX8_costOf_40 : decode cX8_costOf 40 = .ok (.if_icmp .ne 13, 3) := by decide +kernel
theorem dX8_costOf_43 : decode cX8_costOf 43 = .ok (.aload_n 0, 1) := by decide +kernel
theorem dX8_costOf_44 : decode cX8_costOf 44 = .ok (.getfield 29, 3) := by decide +kernel
theorem dX8_costOf_47 : decode cX8_costOf 47 = .ok (.iload 5, 2) := by decide +kernel
theorem dX8_costOf_49 : decode cX8_costOf 49 = .ok (.iaload, 1) := by decide +kernel
theorem dX8_costOf_50 : decode cX8_costOf 50 = .ok (.goto 4, 3) := by decide +kernel
theorem dX8_costOf_53 : decode cX8_costOf 53 = .ok (.iconst 0, 1) := by decide +kernel
theorem dX8_costOf_54 : decode cX8_costOf 54 = .ok (.iastore, 1) := by decide +kernel
theorem dX8_costOf_55 : decode cX8_costOf 55 = .ok (.iinc 5 1, 3) := by decide +kernel
theorem dX8_costOf_58 : decode cX8_costOf 58 = .ok (.goto (-42), 3) := by decide +kernel
theorem dX8_costOf_61 : decode cX8_costOf 61 = .ok (.aload_n 0, 1) := by decide +kernel
theorem dX8_costOf_62 : decode cX8_costOf 62 = .ok (.getfield 29, 3) := by decide +kernel
theorem dX8_costOf_65 : decode cX8_costOf 65 = .ok (.iload_n 2, 1) := by decide +kernel
theorem dX8_costOf_66 : decode cX8_costOf 66 = .ok (.iload_n 3, 1) := by decide +kernel
theorem dX8_costOf_67 : decode cX8_costOf 67 = .ok (.iload 4, 2) := by decide +kernel
theorem dX8_costOf_69 : decode cX8_costOf 69 = .ok (.invokestatic 234, 3) := by decide +kernel
theorem dX8_costOf_72 : decode cX8_costOf 72 = .ok (.iload_n 1, 1) := by decide +kernel
theorem dX8_costOf_73 : decode cX8_costOf 73 = .ok (.iconst 1, 1) := by decide +kernel
theorem dX8_costOf_74 : decode cX8_costOf 74 = .ok (.iadd, 1) := by decide +kernel
theorem dX8_costOf_75 : decode cX8_costOf 75 = .ok (.iastore, 1) := by decide +kernel
theorem dX8_costOf_76 : decode cX8_costOf 76 = .ok (.bipush 60, 2) := by decide +kernel
theorem dX8_costOf_78 : decode cX8_costOf 78 = .ok (.istore 5, 2) := by decide +kernel
theorem dX8_costOf_80 : decode cX8_costOf 80 = .ok (.iconst 0, 1) := by decide +kernel
theorem dX8_costOf_81 : decode cX8_costOf 81 = .ok (.istore 6, 2) := by decide +kernel
theorem dX8_costOf_83 : decode cX8_costOf 83 = .ok (.iload 6, 2) := by decide +kernel
theorem dX8_costOf_85 : decode cX8_costOf 85 = .ok (.bipush 60, 2) := by decide +kernel
theorem dX8_costOf_87 : decode cX8_costOf 87 = .ok (.if_icmp .ge 53, 3) := by decide +kernel
theorem dX8_costOf_90 : decode cX8_costOf 90 = .ok (.iload 5, 2) := by decide +kernel
theorem dX8_costOf_92 : decode cX8_costOf 92 = .ok (.bipush 60, 2) := by decide +kernel
theorem dX8_costOf_94 : decode cX8_costOf 94 = .ok (.if_icmp .ne 46, 3) := by decide +kernel
theorem dX8_costOf_97 : decode cX8_costOf 97 = .ok (.aload_n 0, 1) := by decide +kernel
theorem dX8_costOf_98 : decode cX8_costOf 98 = .ok (.iload_n 1, 1) := by decide +kernel
theorem dX8_costOf_99 : decode cX8_costOf 99 = .ok (.invokevirtual 310, 3) := by decide +kernel
theorem dX8_costOf_102 : decode cX8_costOf 102 = .ok (.ifCond .eq 28, 3) := by decide +kernel
theorem dX8_costOf_105 : decode cX8_costOf 105 = .ok (.aload_n 0, 1) := by decide +kernel
theorem dX8_costOf_106 : decode cX8_costOf 106 = .ok (.iload_n 1, 1) := by decide +kernel
theorem dX8_costOf_107 : decode cX8_costOf 107 = .ok (.iconst 0, 1) := by decide +kernel
theorem dX8_costOf_108 : decode cX8_costOf 108 = .ok (.invokevirtual 238, 3) := by decide +kernel
theorem dX8_costOf_111 : decode cX8_costOf 111 = .ok (.iload_n 2, 1) := by decide +kernel
theorem dX8_costOf_112 : decode cX8_costOf 112 = .ok (.if_icmp .ne 18, 3) := by decide +kernel
theorem dX8_costOf_115 : decode cX8_costOf 115 = .ok (.aload_n 0, 1) := by decide +kernel
theorem dX8_costOf_116 : decode cX8_costOf 116 = .ok (.iload_n 1, 1) := by decide +kernel
theorem dX8_costOf_117 : decode cX8_costOf 117 = .ok (.iconst 1, 1) := by decide +kernel
theorem dX8_costOf_118 : decode cX8_costOf 118 = .ok (.invokevirtual 238, 3) := by decide +kernel
theorem dX8_costOf_121 : decode cX8_costOf 121 = .ok (.iload_n 3, 1) := by decide +kernel
theorem dX8_costOf_122 : decode cX8_costOf 122 = .ok (.if_icmp .ne 8, 3) := by decide +kernel
theorem dX8_costOf_125 : decode cX8_costOf 125 = .ok (.iload 6, 2) := by decide +kernel
theorem dX8_costOf_127 : decode cX8_costOf 127 = .ok (.goto 5, 3) := by decide +kernel
theorem dX8_costOf_130 : decode cX8_costOf 130 = .ok (.iload 5, 2) := by decide +kernel
theorem dX8_costOf_132 : decode cX8_costOf 132 = .ok (.istore 5, 2) := by decide +kernel
theorem dX8_costOf_134 : decode cX8_costOf 134 = .ok (.iinc 6 1, 3) := by decide +kernel
theorem dX8_costOf_137 : decode cX8_costOf 137 = .ok (.goto (-54), 3) := by decide +kernel
theorem dX8_costOf_140 : decode cX8_costOf 140 = .ok (.aload_n 0, 1) := by decide +kernel
theorem dX8_costOf_141 : decode cX8_costOf 141 = .ok (.getfield 29, 3) := by decide +kernel
theorem dX8_costOf_144 : decode cX8_costOf 144 = .ok (.aload_n 0, 1) := by decide +kernel
theorem dX8_costOf_145 : decode cX8_costOf 145 = .ok (.getfield 61, 3) := by decide +kernel
theorem dX8_costOf_148 : decode cX8_costOf 148 = .ok (.invokestatic 204, 3) := by decide +kernel
theorem dX8_costOf_151 : decode cX8_costOf 151 = .ok (.iload 5, 2) := by decide +kernel
theorem dX8_costOf_153 : decode cX8_costOf 153 = .ok (.ireturn, 1) := by decide +kernel
set_option maxRecDepth 20000 in
set_option maxHeartbeats 4000000 in
theorem vX8_costOf_0 {l : Launch} {x : CX} {a0 : Nat} {x1 : Int32} {x2 : Int32} {x3 : Int32} {x4 : Int32} {h : PH} {rc rs n0 : Nat} {Q : Option Value → PH → Prop} {X : String → PH → Prop}
    (K : ((hK h a0).1 = 8) ∧ ∃ b2, (hR h a0 22 = some b2) ∧ ∃ b4, (hR h a0 2 = some b4) ∧ ∃ (q6 : PH → Prop), CV l x mX8_copyTo 0 0 0 [.ref b2, .ref b4] h q6 ∧ ∀ (h8 : PH), q6 h8 → Gm l x mX8_costOf 7 16 [(0, .ref a0), (1, .int x1), (2, .int x2), (3, .int x3), (4, .int x4), (5, .int 264)] [] h8 rc rs n0 Q X) :
    Gm l x mX8_costOf 7 0 [(0, .ref a0), (1, .int x1), (2, .int x2), (3, .int x3), (4, .int x4)] [] h rc rs n0 Q X := by
  refine g_aload_n dX8_costOf_0 rfl 0 rfl ?_
  obtain ⟨e1, b2, e3, K⟩ := K
  refine g_get (c := 8) (k := 22) (v := .ref b2) dX8_costOf_1 fc_8 (by decide) (by decide) bw_1220 (congrArg pr e3) e1 ?_
  refine g_aload_n dX8_costOf_4 rfl 0 rfl ?_
  obtain ⟨b4, e5, K⟩ := K
  refine g_get (c := 8) (k := 2) (v := .ref b4) dX8_costOf_5 fc_8 (by decide) (by decide) bw_1200 (congrArg pr e5) e1 ?_
  obtain ⟨q6, C7, K⟩ := K
  refine g_callS (M' := mX8_copyTo) (As := [.ref b2, .ref b4]) (rest := []) (rc' := rc) (rs' := rs) dX8_costOf_8 bw_1398 bw_1399 bw_9 bw_1400 ⟨by decide +kernel, by decide +kernel, show (parseMethodDescriptor mX8_copyTo.1.desc).map (fun d => d.parameters.length) = some 2 by decide +kernel⟩ (by decide) (by decide) (Nat.le_of_ble_eq_true rfl) C7 (Nat.le_of_eq (Nat.add_zero _)) (Nat.le_of_eq (Nat.add_zero _)) (fun _ _ h => h) ?_
  rintro _ h8 ⟨rfl, K1⟩ -
  replace K := K h8 K1
  show Gm l x mX8_costOf 7 11 [(0, .ref a0), (1, .int x1), (2, .int x2), (3, .int x3), (4, .int x4)] [] h8 rc rs n0 Q X
  refine g_sipush (v := 264) dX8_costOf_11 (by decide) ?_
  refine g_istore (lv' := [(0, .ref a0), (1, .int x1), (2, .int x2), (3, .int x3), (4, .int x4), (5, .int 264)]) dX8_costOf_14 (by decide) rfl ?_
  exact K
set_option maxRecDepth 20000 in
set_option maxHeartbeats 4000000 in
theorem vX8_costOf_16 {l : Launch} {x : CX} {a0 : Nat} {x1 : Int32} {x2 : Int32} {x3 : Int32} {x4 : Int32} {x5 : Int32} {h : PH} {rc rs n0 : Nat} {Q : Option Value → PH → Prop} {X : String → PH → Prop}
    (K : ((312 ≤ x5 → ((hK h a0).1 = 8) ∧ ∃ b3, (hR h a0 2 = some b3) ∧ ∃ (q5 : Int32 → PH → Prop), CI l x mX8_callAt 0 0 0 [.int x2, .int x3, .int x4] h q5 ∧ ∀ (r8 : Int32) (h7 : PH), q5 r8 h7 → ((hK h7 b3).1 = 100) ∧ (vp_in r8 (hK h7 b3).2) ∧ Gm l x mX8_costOf 7 83 [(0, .ref a0), (1, .int x1), (2, .int x2), (3, .int x3), (4, .int x4), (5, .int 60), (6, .int 0)] [] (sI h7 b3 r8.toNatClampNeg (x1 + 1)) rc rs n0 Q X) ∧ (¬ 312 ≤ x5 → ((hK h a0).1 = 8) ∧ ∃ b12, (hR h a0 2 = some b12) ∧ ((hK h b12).1 = 100) ∧ (vp_in x5 (hK h b12).2) ∧ ((¬ (hI h b12 x5.toNatClampNeg) = (x1 + 1) → (vp_in x5 (hK h b12).2) ∧ Gm l x mX8_costOf 7 16 [(0, .ref a0), (1, .int x1), (2, .int x2), (3, .int x3), (4, .int x4), (5, .int (x5 + 1))] [] (sI h b12 x5.toNatClampNeg 0) rc rs n0 Q X) ∧ ((hI h b12 x5.toNatClampNeg) = (x1 + 1) → (vp_in x5 (hK h b12).2) ∧ (vp_in x5 (hK h b12).2) ∧ Gm l x mX8_costOf 7 16 [(0, .ref a0), (1, .int x1), (2, .int x2), (3, .int x3), (4, .int x4), (5, .int (x5 + 1))] [] (sI h b12 x5.toNatClampNeg (hI h b12 x5.toNatClampNeg)) rc rs n0 Q X))))) :
    Gm l x mX8_costOf 7 16 [(0, .ref a0), (1, .int x1), (2, .int x2), (3, .int x3), (4, .int x4), (5, .int x5)] [] h rc rs n0 Q X := by
  refine g_iload dX8_costOf_16 5 rfl ?_
  refine g_sipush (v := 312) dX8_costOf_18 (by decide) ?_
  refine g_icmp_ge (tgt := 61) dX8_costOf_21 (by decide) (fun c1 => ?_) (fun c1 => ?_)
  · replace K := K.1 c1
    refine g_aload_n dX8_costOf_61 rfl 0 rfl ?_
    obtain ⟨e2, b3, e4, K⟩ := K
    refine g_get (c := 8) (k := 2) (v := .ref b3) dX8_costOf_62 fc_8 (by decide) (by decide) bw_1200 (congrArg pr e4) e2 ?_
    refine g_iload_n dX8_costOf_65 rfl 2 rfl ?_
    refine g_iload_n dX8_costOf_66 rfl 3 rfl ?_
    refine g_iload dX8_costOf_67 4 rfl ?_
    obtain ⟨q5, C6, K⟩ := K
    refine g_callS (M' := mX8_callAt) (As := [.int x2, .int x3, .int x4]) (rest := [.ref b3]) (rc' := rc) (rs' := rs) dX8_costOf_69 bw_1469 bw_1470 bw_9 bw_1471 ⟨by decide +kernel, by decide +kernel, show (parseMethodDescriptor mX8_callAt.1.desc).map (fun d => d.parameters.length) = some 3 by decide +kernel⟩ (by decide) (by decide) (Nat.le_of_ble_eq_true rfl) C6 (Nat.le_of_eq (Nat.add_zero _)) (Nat.le_of_eq (Nat.add_zero _)) (fun _ _ h => h) ?_
    rintro _ h7 ⟨r8, rfl, K1⟩ -
    replace K := K r8 h7 K1
    show Gm l x mX8_costOf 7 72 [(0, .ref a0), (1, .int x1), (2, .int x2), (3, .int x3), (4, .int x4), (5, .int x5)] [.int r8, .ref b3] h7 rc rs n0 Q X
    refine g_iload_n dX8_costOf_72 rfl 1 rfl ?_
    refine g_iconst (v := 1) dX8_costOf_73 (by decide) ?_
    refine g_iadd dX8_costOf_74 ?_
    obtain ⟨e9, e10, K⟩ := K
    refine g_iast dX8_costOf_75 e9 e10 ?_
    refine g_bipush (v := 60) dX8_costOf_76 (by decide) ?_
    refine g_istore (lv' := [(0, .ref a0), (1, .int x1), (2, .int x2), (3, .int x3), (4, .int x4), (5, .int 60)]) dX8_costOf_78 (by decide) rfl ?_
    refine g_iconst (v := 0) dX8_costOf_80 (by decide) ?_
    refine g_istore (lv' := [(0, .ref a0), (1, .int x1), (2, .int x2), (3, .int x3), (4, .int x4), (5, .int 60), (6, .int 0)]) dX8_costOf_81 (by decide) rfl ?_
    exact K
  · replace K := K.2 c1
    refine g_aload_n dX8_costOf_24 rfl 0 rfl ?_
    obtain ⟨e11, b12, e13, K⟩ := K
    refine g_get (c := 8) (k := 2) (v := .ref b12) dX8_costOf_25 fc_8 (by decide) (by decide) bw_1200 (congrArg pr e13) e11 ?_
    refine g_iload dX8_costOf_28 5 rfl ?_
    refine g_aload_n dX8_costOf_30 rfl 0 rfl ?_
    refine g_get (c := 8) (k := 2) (v := .ref b12) dX8_costOf_31 fc_8 (by decide) (by decide) bw_1200 (congrArg pr e13) e11 ?_
    refine g_iload dX8_costOf_34 5 rfl ?_
    obtain ⟨e14, e15, K⟩ := K
    refine g_iald dX8_costOf_36 e14 e15 ?_
    refine g_iload_n dX8_costOf_37 rfl 1 rfl ?_
    refine g_iconst (v := 1) dX8_costOf_38 (by decide) ?_
    refine g_iadd dX8_costOf_39 ?_
    refine g_icmp_ne (tgt := 53) dX8_costOf_40 (by decide) (fun c16 => ?_) (fun c16 => ?_)
    · replace K := K.1 c16
      refine g_iconst (v := 0) dX8_costOf_53 (by decide) ?_
      obtain ⟨e17, K⟩ := K
      refine g_iast dX8_costOf_54 e14 e17 ?_
      refine g_iinc (v := (x5 + 1)) (lv' := [(0, .ref a0), (1, .int x1), (2, .int x2), (3, .int x3), (4, .int x4), (5, .int (x5 + 1))]) dX8_costOf_55 5 rfl (by rfl) (by decide) rfl ?_
      refine g_goto (tgt := 16) dX8_costOf_58 (by decide) ?_
      exact K
    · replace K := K.2 c16
      refine g_aload_n dX8_costOf_43 rfl 0 rfl ?_
      refine g_get (c := 8) (k := 2) (v := .ref b12) dX8_costOf_44 fc_8 (by decide) (by decide) bw_1200 (congrArg pr e13) e11 ?_
      refine g_iload dX8_costOf_47 5 rfl ?_
      obtain ⟨e18, K⟩ := K
      refine g_iald dX8_costOf_49 e14 e18 ?_
      refine g_goto (tgt := 54) dX8_costOf_50 (by decide) ?_
      obtain ⟨e19, K⟩ := K
      refine g_iast dX8_costOf_54 e14 e19 ?_
      refine g_iinc (v := (x5 + 1)) (lv' := [(0, .ref a0), (1, .int x1), (2, .int x2), (3, .int x3), (4, .int x4), (5, .int (x5 + 1))]) dX8_costOf_55 5 rfl (by rfl) (by decide) rfl ?_
      refine g_goto (tgt := 16) dX8_costOf_58 (by decide) ?_
      exact K
set_option maxRecDepth 20000 in
set_option maxHeartbeats 4000000 in
theorem vX8_costOf_83 {l : Launch} {x : CX} {a0 : Nat} {x1 : Int32} {x2 : Int32} {x3 : Int32} {x4 : Int32} {x5 : Int32} {x6 : Int32} {h : PH} {rc rs n0 : Nat} {Q : Option Value → PH → Prop} {X : String → PH → Prop}
    (K : ((60 ≤ x6 → ((hK h a0).1 = 8) ∧ ∃ b3, (hR h a0 2 = some b3) ∧ ∃ b5, (hR h a0 22 = some b5) ∧ ∃ (q7 : PH → Prop), CV l x mX8_copyTo 0 0 0 [.ref b3, .ref b5] h q7 ∧ ∀ (h9 : PH), q7 h9 → Q (some (.int x5)) h9) ∧ (¬ 60 ≤ x6 → ((¬ x5 = 60 → ((hK h a0).1 = 8) ∧ ∃ b12, (hR h a0 2 = some b12) ∧ ∃ b14, (hR h a0 22 = some b14) ∧ ∃ (q16 : PH → Prop), CV l x mX8_copyTo 0 0 0 [.ref b12, .ref b14] h q16 ∧ ∀ (h18 : PH), q16 h18 → Q (some (.int x5)) h18) ∧ (x5 = 60 → ((hK h a0).1 = 8) ∧ ∃ (q19 : Int32 → PH → Prop), CI l x mX8_steps 6 0 0 [.ref a0, .int x1] h q19 ∧ ∀ (r23 : Int32) (h22 : PH), q19 r23 h22 → ((r23 = 0 → Gm l x mX8_costOf 7 83 [(0, .ref a0), (1, .int x1), (2, .int x2), (3, .int x3), (4, .int x4), (5, .int x5), (6, .int (x6 + 1))] [] h22 rc rs n0 Q X) ∧ (¬ r23 = 0 → ((hK h22 a0).1 = 8) ∧ ∃ (q25 : Int32 → PH → Prop), CI l x mX8_carOf 0 0 0 [.ref a0, .int x1, .int 0] h22 q25 ∧ ∀ (r29 : Int32) (h28 : PH), q25 r29 h28 → ((¬ r29 = x2 → Gm l x mX8_costOf 7 83 [(0, .ref a0), (1, .int x1), (2, .int x2), (3, .int x3), (4, .int x4), (5, .int x5), (6, .int (x6 + 1))] [] h28 rc rs n0 Q X) ∧ (r29 = x2 → ((hK h28 a0).1 = 8) ∧ ∃ (q31 : Int32 → PH → Prop), CI l x mX8_carOf 0 0 0 [.ref a0, .int x1, .int 1] h28 q31 ∧ ∀ (r35 : Int32) (h34 : PH), q31 r35 h34 → Gm l x mX8_costOf 7 83 [(0, .ref a0), (1, .int x1), (2, .int x2), (3, .int x3), (4, .int x4), (5, .int (if r35 = x3 then x6 else x5 : Int32)), (6, .int (x6 + 1))] [] h34 rc rs n0 Q X))))))))) :
    Gm l x mX8_costOf 7 83 [(0, .ref a0), (1, .int x1), (2, .int x2), (3, .int x3), (4, .int x4), (5, .int x5), (6, .int x6)] [] h rc rs n0 Q X := by
  refine g_iload dX8_costOf_83 6 rfl ?_
  refine g_bipush (v := 60) dX8_costOf_85 (by decide) ?_
  refine g_icmp_ge (tgt := 140) dX8_costOf_87 (by decide) (fun c1 => ?_) (fun c1 => ?_)
  · replace K := K.1 c1
    refine g_aload_n dX8_costOf_140 rfl 0 rfl ?_
    obtain ⟨e2, b3, e4, K⟩ := K
    refine g_get (c := 8) (k := 2) (v := .ref b3) dX8_costOf_141 fc_8 (by decide) (by decide) bw_1200 (congrArg pr e4) e2 ?_
    refine g_aload_n dX8_costOf_144 rfl 0 rfl ?_
    obtain ⟨b5, e6, K⟩ := K
    refine g_get (c := 8) (k := 22) (v := .ref b5) dX8_costOf_145 fc_8 (by decide) (by decide) bw_1220 (congrArg pr e6) e2 ?_
    obtain ⟨q7, C8, K⟩ := K
    refine g_callS (M' := mX8_copyTo) (As := [.ref b3, .ref b5]) (rest := []) (rc' := rc) (rs' := rs) dX8_costOf_148 bw_1398 bw_1399 bw_9 bw_1400 ⟨by decide +kernel, by decide +kernel, show (parseMethodDescriptor mX8_copyTo.1.desc).map (fun d => d.parameters.length) = some 2 by decide +kernel⟩ (by decide) (by decide) (Nat.le_of_ble_eq_true rfl) C8 (Nat.le_of_eq (Nat.add_zero _)) (Nat.le_of_eq (Nat.add_zero _)) (fun _ _ h => h) ?_
    rintro _ h9 ⟨rfl, K1⟩ -
    replace K := K h9 K1
    show Gm l x mX8_costOf 7 151 [(0, .ref a0), (1, .int x1), (2, .int x2), (3, .int x3), (4, .int x4), (5, .int x5), (6, .int x6)] [] h9 rc rs n0 Q X
    refine g_iload dX8_costOf_151 5 rfl ?_
    exact g_iret dX8_costOf_153 rfl K
  · replace K := K.2 c1
    refine g_iload dX8_costOf_90 5 rfl ?_
    refine g_bipush (v := 60) dX8_costOf_92 (by decide) ?_
    refine g_icmp_ne (tgt := 140) dX8_costOf_94 (by decide) (fun c10 => ?_) (fun c10 => ?_)
    · replace K := K.1 c10
      refine g_aload_n dX8_costOf_140 rfl 0 rfl ?_
      obtain ⟨e11, b12, e13, K⟩ := K
      refine g_get (c := 8) (k := 2) (v := .ref b12) dX8_costOf_141 fc_8 (by decide) (by decide) bw_1200 (congrArg pr e13) e11 ?_
      refine g_aload_n dX8_costOf_144 rfl 0 rfl ?_
      obtain ⟨b14, e15, K⟩ := K
      refine g_get (c := 8) (k := 22) (v := .ref b14) dX8_costOf_145 fc_8 (by decide) (by decide) bw_1220 (congrArg pr e15) e11 ?_
      obtain ⟨q16, C17, K⟩ := K
      refine g_callS (M' := mX8_copyTo) (As := [.ref b12, .ref b14]) (rest := []) (rc' := rc) (rs' := rs) dX8_costOf_148 bw_1398 bw_1399 bw_9 bw_1400 ⟨by decide +kernel, by decide +kernel, show (parseMethodDescriptor mX8_copyTo.1.desc).map (fun d => d.parameters.length) = some 2 by decide +kernel⟩ (by decide) (by decide) (Nat.le_of_ble_eq_true rfl) C17 (Nat.le_of_eq (Nat.add_zero _)) (Nat.le_of_eq (Nat.add_zero _)) (fun _ _ h => h) ?_
      rintro _ h18 ⟨rfl, K1⟩ -
      replace K := K h18 K1
      show Gm l x mX8_costOf 7 151 [(0, .ref a0), (1, .int x1), (2, .int x2), (3, .int x3), (4, .int x4), (5, .int x5), (6, .int x6)] [] h18 rc rs n0 Q X
      refine g_iload dX8_costOf_151 5 rfl ?_
      exact g_iret dX8_costOf_153 rfl K
    · replace K := K.2 c10
      refine g_aload_n dX8_costOf_97 rfl 0 rfl ?_
      refine g_iload_n dX8_costOf_98 rfl 1 rfl ?_
      obtain ⟨e21, K⟩ := K
      obtain ⟨q19, C20, K⟩ := K
      refine g_callV (M' := mX8_steps) (b := a0) (As := [.int x1]) (rest := []) (rc' := rc) (rs' := rs) dX8_costOf_99 bw_1493 bw_1495 bs_71 bw_9 bw_1496 ⟨by decide +kernel, by decide +kernel, show (parseMethodDescriptor mX8_steps.1.desc).map (fun d => d.parameters.length) = some 1 by decide +kernel⟩ (by decide) (by decide) (Nat.le_of_ble_eq_true rfl) fc_8 (by decide) rfl e21 C20 (Nat.le_of_eq (Nat.add_zero _)) (Nat.le_of_eq (Nat.add_zero _)) (fun _ _ h => h) ?_
      rintro _ h22 ⟨r23, rfl, K1⟩ -
      replace K := K r23 h22 K1
      show Gm l x mX8_costOf 7 102 [(0, .ref a0), (1, .int x1), (2, .int x2), (3, .int x3), (4, .int x4), (5, .int x5), (6, .int x6)] [.int r23] h22 rc rs n0 Q X
      refine g_if_eq (tgt := 130) dX8_costOf_102 (by decide) (fun c24 => ?_) (fun c24 => ?_)
      · replace K := K.1 c24
        refine g_iload dX8_costOf_130 5 rfl ?_
        refine g_istore (lv' := [(0, .ref a0), (1, .int x1), (2, .int x2), (3, .int x3), (4, .int x4), (5, .int x5), (6, .int x6)]) dX8_costOf_132 (by decide) rfl ?_
        refine g_iinc (v := (x6 + 1)) (lv' := [(0, .ref a0), (1, .int x1), (2, .int x2), (3, .int x3), (4, .int x4), (5, .int x5), (6, .int (x6 + 1))]) dX8_costOf_134 6 rfl (by rfl) (by decide) rfl ?_
        refine g_goto (tgt := 83) dX8_costOf_137 (by decide) ?_
        exact K
      · replace K := K.2 c24
        refine g_aload_n dX8_costOf_105 rfl 0 rfl ?_
        refine g_iload_n dX8_costOf_106 rfl 1 rfl ?_
        refine g_iconst (v := 0) dX8_costOf_107 (by decide) ?_
        obtain ⟨e27, K⟩ := K
        obtain ⟨q25, C26, K⟩ := K
        refine g_callV (M' := mX8_carOf) (b := a0) (As := [.int x1, .int 0]) (rest := []) (rc' := rc) (rs' := rs) dX8_costOf_108 bw_1476 bw_1478 bs_67 bw_9 bw_1479 ⟨by decide +kernel, by decide +kernel, show (parseMethodDescriptor mX8_carOf.1.desc).map (fun d => d.parameters.length) = some 2 by decide +kernel⟩ (by decide) (by decide) (Nat.le_of_ble_eq_true rfl) fc_8 (by decide) rfl e27 C26 (Nat.le_of_eq (Nat.add_zero _)) (Nat.le_of_eq (Nat.add_zero _)) (fun _ _ h => h) ?_
        rintro _ h28 ⟨r29, rfl, K1⟩ -
        replace K := K r29 h28 K1
        show Gm l x mX8_costOf 7 111 [(0, .ref a0), (1, .int x1), (2, .int x2), (3, .int x3), (4, .int x4), (5, .int x5), (6, .int x6)] [.int r29] h28 rc rs n0 Q X
        refine g_iload_n dX8_costOf_111 rfl 2 rfl ?_
        refine g_icmp_ne (tgt := 130) dX8_costOf_112 (by decide) (fun c30 => ?_) (fun c30 => ?_)
        · replace K := K.1 c30
          refine g_iload dX8_costOf_130 5 rfl ?_
          refine g_istore (lv' := [(0, .ref a0), (1, .int x1), (2, .int x2), (3, .int x3), (4, .int x4), (5, .int x5), (6, .int x6)]) dX8_costOf_132 (by decide) rfl ?_
          refine g_iinc (v := (x6 + 1)) (lv' := [(0, .ref a0), (1, .int x1), (2, .int x2), (3, .int x3), (4, .int x4), (5, .int x5), (6, .int (x6 + 1))]) dX8_costOf_134 6 rfl (by rfl) (by decide) rfl ?_
          refine g_goto (tgt := 83) dX8_costOf_137 (by decide) ?_
          exact K
        · replace K := K.2 c30
          refine g_aload_n dX8_costOf_115 rfl 0 rfl ?_
          refine g_iload_n dX8_costOf_116 rfl 1 rfl ?_
          refine g_iconst (v := 1) dX8_costOf_117 (by decide) ?_
          obtain ⟨e33, K⟩ := K
          obtain ⟨q31, C32, K⟩ := K
          refine g_callV (M' := mX8_carOf) (b := a0) (As := [.int x1, .int 1]) (rest := []) (rc' := rc) (rs' := rs) dX8_costOf_118 bw_1476 bw_1478 bs_67 bw_9 bw_1479 ⟨by decide +kernel, by decide +kernel, show (parseMethodDescriptor mX8_carOf.1.desc).map (fun d => d.parameters.length) = some 2 by decide +kernel⟩ (by decide) (by decide) (Nat.le_of_ble_eq_true rfl) fc_8 (by decide) rfl e33 C32 (Nat.le_of_eq (Nat.add_zero _)) (Nat.le_of_eq (Nat.add_zero _)) (fun _ _ h => h) ?_
          rintro _ h34 ⟨r35, rfl, K1⟩ -
          replace K := K r35 h34 K1
          show Gm l x mX8_costOf 7 121 [(0, .ref a0), (1, .int x1), (2, .int x2), (3, .int x3), (4, .int x4), (5, .int x5), (6, .int x6)] [.int r35] h34 rc rs n0 Q X
          refine g_iload_n dX8_costOf_121 rfl 3 rfl ?_
          have KJ : Gm l x mX8_costOf 7 132 [(0, .ref a0), (1, .int x1), (2, .int x2), (3, .int x3), (4, .int x4), (5, .int x5), (6, .int x6)] [.int (if r35 = x3 then x6 else x5 : Int32)] h34 rc rs n0 Q X := by
            refine g_istore (lv' := [(0, .ref a0), (1, .int x1), (2, .int x2), (3, .int x3), (4, .int x4), (5, .int (if r35 = x3 then x6 else x5 : Int32)), (6, .int x6)]) dX8_costOf_132 (by decide) rfl ?_
            refine g_iinc (v := (x6 + 1)) (lv' := [(0, .ref a0), (1, .int x1), (2, .int x2), (3, .int x3), (4, .int x4), (5, .int (if r35 = x3 then x6 else x5 : Int32)), (6, .int (x6 + 1))]) dX8_costOf_134 6 rfl (by rfl) (by decide) rfl ?_
            refine g_goto (tgt := 83) dX8_costOf_137 (by decide) ?_
            exact K
          refine g_icmp_ne (tgt := 130) dX8_costOf_122 (by decide) (fun c36 => ?_) (fun c36 => ?_)
          · refine g_iload dX8_costOf_130 5 rfl ?_
            first | (simp only [if_neg c36] at KJ; exact KJ) | (simp only [if_neg c36, ite_true, ite_false, eq_self] at KJ; exact KJ) | (simp only [if_neg c36] at KJ ⊢; exact KJ) | exact KJ
          · refine g_iload dX8_costOf_125 6 rfl ?_
            refine g_goto (tgt := 132) dX8_costOf_127 (by decide) ?_
            first | (simp only [if_pos c36] at KJ; exact KJ) | (simp only [if_pos c36, ite_true, ite_false, eq_self] at KJ; exact KJ) | (simp only [if_pos c36] at KJ ⊢; exact KJ) | exact KJ
theorem dX8_readClause_0 : decode cX8_readClause 0 = .ok (.aload_n 0, 1) := by decide +kernel
theorem dX8_readClause_1 : decode cX8_readClause 1 = .ok (.invokevirtual 186, 3) := by decide +kernel
theorem dX8_readClause_4 : decode cX8_readClause 4 = .ok (.istore_n 1, 1) := by decide +kernel
theorem dX8_readClause_5 : decode cX8_readClause 5 = .ok (.iload_n 1, 1) := by decide +kernel
theorem dX8_readClause_6 : decode cX8_readClause 6 = .ok (.iconst (-1), 1) := by decide +kernel
theorem dX8_readClause_7 : decode cX8_readClause 7 = .ok (.if_icmp .ne 8, 3) := by decide +kernel
theorem dX8_readClause_10 : decode cX8_readClause 10 = .ok (.aload_n 0, 1) := by decide +kernel
theorem dX8_readClause_11 : decode cX8_readClause 11 = .ok (.iconst 1, 1) := by decide +kernel
theorem dX8_readClause_12 : decode cX8_readClause 12 = .ok (.invokevirtual 164, 3) := by decide +kernel
theorem dX8_readClause_15 : decode cX8_readClause 15 = .ok (.iload_n 1, 1) := by decide +kernel
theorem dX8_readClause_16 : decode cX8_readClause 16 = .ok (.ifCond .ne 10, 3) := by decide +kernel
theorem dX8_readClause_19 : decode cX8_readClause 19 = .ok (.aload_n 0, 1) := by decide +kernel
theorem dX8_readClause_20 : decode cX8_readClause 20 = .ok (.getfield 189, 3) := by decide +kernel
theorem dX8_readClause_23 : decode cX8_readClause 23 = .ok (.ifCond .gt 18, 3) := by decide +kernel
theorem dX8_readClause_26 : decode cX8_readClause 26 = .ok (.iload_n 1, 1) := by decide +kernel
theorem dX8_readClause_27 : decode cX8_readClause 27 = .ok (.iconst 2, 1) := by decide +kernel
theorem dX8_readClause_28 : decode cX8_readClause 28 = .ok (.if_icmp .le 18, 3) := by decide +kernel
theorem dX8_readClause_31 : decode cX8_readClause 31 = .ok (.aload_n 0, 1) := by decide +kernel
theorem dX8_readClause_32 : decode cX8_readClause 32 = .ok (.getfield 39, 3) := by decide +kernel
theorem dX8_readClause_35 : decode cX8_readClause 35 = .ok (.iload_n 1, 1) := by decide +kernel
theorem dX8_readClause_36 : decode cX8_readClause 36 = .ok (.iaload, 1) := by decide +kernel
theorem dX8_readClause_37 : decode cX8_readClause 37 = .ok (.iconst (-1), 1) := by decide +kernel
theorem dX8_readClause_38 : decode cX8_readClause 38 = .ok (.if_icmp .eq 8, 3) := by decide +kernel
theorem dX8_readClause_41 : decode cX8_readClause 41 = .ok (.aload_n 0, 1) := by decide +kernel
theorem dX8_readClause_42 : decode cX8_readClause 42 = .ok (.iconst 4, 1) := by decide +kernel
theorem dX8_readClause_43 : decode cX8_readClause 43 = .ok (.invokevirtual 164, 3) := by decide +kernel
theorem dX8_readClause_46 : decode cX8_readClause 46 = .ok (.aload_n 0, 1) := by decide +kernel
theorem dX8_readClause_47 : decode cX8_readClause 47 = .ok (.getfield 146, 3) := by decide +kernel
theorem dX8_readClause_50 : decode cX8_readClause 50 = .ok (.ifCond .eq 4, 3) := by decide +kernel
theorem dX8_readClause_53 : decode cX8_readClause 53 = .ok (.return_, 1) := by decide +kernel
theorem dX8_readClause_54 : decode cX8_readClause 54 = .ok (.iload_n 1, 1) := by decide +kernel
theorem dX8_readClause_55 : decode cX8_readClause 55 = .ok (.iconst 1, 1) := by decide +kernel
theorem dX8_readClause_56 : decode cX8_readClause 56 = .ok (.if_icmp .ne 10, 3) := by decide +kernel
theorem dX8_readClause_59 : decode cX8_readClause 59 = .ok (.aload_n 0, 1) := by decide +kernel
theorem dX8_readClause_60 : decode cX8_readClause 60 = .ok (.invokevirtual 192, 3) := by decide +kernel
theorem dX8_readClause_63 : decode cX8_readClause 63 = .ok (.goto 89, 3) := by decide +kernel
theorem dX8_readClause_66 : decode cX8_readClause 66 = .ok (.iload_n 1, 1) := by decide +kernel
theorem dX8_readClause_67 : decode cX8_readClause 67 = .ok (.iconst 2, 1) := by decide +kernel
theorem dX8_readClause_68 : decode cX8_readClause 68 = .ok (.if_icmp .ne 10, 3) := by decide +kernel
theorem dX8_readClause_71 : decode cX8_readClause 71 = .ok (.aload_n 0, 1) := by decide +kernel
theorem dX8_readClause_72 : decode cX8_readClause 72 = .ok (.invokevirtual 195, 3) := by decide +kernel
theorem dX8_readClause_75 : decode cX8_readClause 75 = .ok (.goto 77, 3) := by decide +kernel
theorem dX8_readClause_78 : decode cX8_readClause 78 = .ok (.aload_n 0, 1) := by decide +kernel
theorem dX8_readClause_79 : decode cX8_readClause 79 = .ok (.invokevirtual 171, 3) := by decide +kernel
theorem dX8_readClause_82 : decode cX8_readClause 82 = .ok (.aload_n 0, 1) := by decide +kernel
theorem dX8_readClause_83 : decode cX8_readClause 83 = .ok (.getfield 39, 3) := by decide +kernel
theorem dX8_readClause_86 : decode cX8_readClause 86 = .ok (.iload_n 1, 1) := by decide +kernel
theorem dX8_readClause_87 : decode cX8_readClause 87 = .ok (.iload_n 1, 1) := by decide +kernel
theorem dX8_readClause_88 : decode cX8_readClause 88 = .ok (.ifCond .ne 13, 3) := by decide +kernel
theorem dX8_readClause_91 : decode cX8_readClause 91 = .ok (.aload_n 0, 1) := by decide +kernel
theorem dX8_readClause_92 : decode cX8_readClause 92 = .ok (.iconst 2, 1) := by decide +kernel
theorem dX8_readClause_93 : decode cX8_readClause 93 = .ok (.bipush 12, 2) := by decide +kernel
theorem dX8_readClause_95 : decode cX8_readClause 95 = .ok (.invokevirtual 177, 3) := by decide +kernel
theorem dX8_readClause_98 : decode cX8_readClause 98 = .ok (.goto 53, 3) := by decide +kernel
theorem dX8_readClause_101 : decode cX8_readClause 101 = .ok (.iload_n 1, 1) := by decide +kernel
theorem dX8_readClause_102 : decode cX8_readClause 102 = .ok (.iconst 3, 1) := by decide +kernel
theorem dX8_readClause_103 : decode cX8_readClause 103 = .ok (.if_icmp .ne 12, 3) := by decide +kernel
theorem dX8_readClause_106 : decode cX8_readClause 106 = .ok (.aload_n 0, 1) := by decide +kernel
theorem dX8_readClause_107 : decode cX8_readClause 107 = .ok (.iconst 1, 1) := by decide +kernel
theorem dX8_readClause_108 : decode cX8_readClause 108 = .ok (.iconst 4, 1) := by decide +kernel
theorem dX8_readClause_109 : decode cX8_readClause 109 = .ok (.invokevirtual 177, 3) := by decide +kernel
theorem dX8_readClause_112 : decode cX8_readClause 112 = .ok (.goto 39, 3) := by decide +kernel
theorem dX8_readClause_115 : decode cX8_readClause 115 = .ok (.iload_n 1, 1) := by decide +kernel
theorem dX8_readClause_116 : decode cX8_readClause 116 = .ok (.iconst 4, 1) := by decide +kernel
theorem dX8_readClause_117 : decode cX8_readClause 117 = .ok (.if_icmp .ne 13, 3) := by decide +kernel
theorem dX8_readClause_120 : decode cX8_readClause 120 = .ok (.aload_n 0, 1) := by decide +kernel
theorem dX8_readClause_121 : decode cX8_readClause 121 = .ok (.iconst 0, 1) := by decide +kernel
theorem dX8_readClause_122 : decode cX8_readClause 122 = .ok (.bipush 11, 2) := by decide +kernel
theorem dX8_readClause_124 : decode cX8_readClause 124 = .ok (.invokevirtual 177, 3) := by decide +kernel
theorem dX8_readClause_127 : decode cX8_readClause 127 = .ok (.goto 24, 3) := by decide +kernel
theorem dX8_readClause_130 : decode cX8_readClause 130 = .ok (.iload_n 1, 1) := by decide +kernel
theorem dX8_readClause_131 : decode cX8_readClause 131 = .ok (.iconst 5, 1) := by decide +kernel
theorem dX8_readClause_132 : decode cX8_readClause 132 = .ok (.if_icmp .ne 12, 3) := by decide +kernel
theorem dX8_readClause_135 : decode cX8_readClause 135 = .ok (.aload_n 0, 1) := by decide +kernel
theorem dX8_readClause_136 : decode cX8_readClause 136 = .ok (.iconst 0, 1) := by decide +kernel
theorem dX8_readClause_137 : decode cX8_readClause 137 = .ok (.iconst 2, 1) := by decide +kernel
theorem dX8_readClause_138 : decode cX8_readClause 138 = .ok (.invokevirtual 177, 3) := by decide +kernel
theorem dX8_readClause_141 : decode cX8_readClause 141 = .ok (.goto 10, 3) := by decide +kernel
theorem dX8_readClause_144 : decode cX8_readClause 144 = .ok (.aload_n 0, 1) := by decide +kernel
theorem dX8_readClause_145 : decode cX8_readClause 145 = .ok (.iconst 0, 1) := by decide +kernel
theorem dX8_readClause_146 : decode cX8_readClause 146 = .ok (.bipush 8, 2) := by decide +kernel
theorem dX8_readClause_148 : decode cX8_readClause 148 = .ok (.invokevirtual 177, 3) := by decide +kernel
theorem dX8_readClause_151 : decode cX8_readClause 151 = .ok (.iastore, 1) := by decide +kernel
theorem dX8_readClause_152 : decode cX8_readClause 152 = .ok (.aload_n 0, 1) := by decide +kernel
theorem dX8_readClause_153 : decode cX8_readClause 153 = .ok (.getfield 146, 3) := by decide +kernel
theorem dX8_readClause_156 : decode cX8_readClause 156 = .ok (.ifCond .ne 16, 3) := by decide +kernel
theorem dX8_readClause_159 : decode cX8_readClause 159 = .ok (.aload_n 0, 1) := by decide +kernel
theorem dX8_readClause_160 : decode cX8_readClause 160 = .ok (.getfield 123, 3) := by decide +kernel
theorem dX8_readClause_163 : decode cX8_readClause 163 = .ok (.iconst 3, 1) := by decide +kernel
theorem dX8_readClause_164 : decode cX8_readClause 164 = .ok (.if_icmp .eq 8, 3) := by decide +kernel
theorem dX8_readClause_167 : decode cX8_readClause 167 = .ok (.aload_n 0, 1) := by decide +kernel
theorem dX8_readClause_168 : decode cX8_readClause 168 = .ok (.iconst 1, 1) := by decide +kernel
theorem dX8_readClause_169 : decode cX8_readClause 169 = .ok (.invokevirtual 164, 3) := by decide +kernel
theorem dX8_readClause_172 : decode cX8_readClause 172 = .ok (.aload_n 0, 1) := by decide +kernel
theorem dX8_readClause_173 : decode cX8_readClause 173 = .ok (.getfield 146, 3) := by decide +kernel
theorem dX8_readClause_176 : decode cX8_readClause 176 = .ok (.ifCond .ne 7, 3) := by decide +kernel
theorem dX8_readClause_179 : decode cX8_readClause 179 = .ok (.aload_n 0, 1) := by decide +kernel
theorem dX8_readClause_180 : decode cX8_readClause 180 = .ok (.invokevirtual 171, 3) := by decide +kernel
theorem dX8_readClause_183 : decode cX8_readClause 183 = .ok (.aload_n 0, 1) := by decide +kernel
theorem dX8_readClause_184 : decode cX8_readClause 184 = .ok (.dup, 1) := by decide +kernel
theorem dX8_readClause_185 : decode cX8_readClause 185 = .ok (.getfield 189, 3) := by decide +kernel
theorem dX8_readClause_188 : decode cX8_readClause 188 = .ok (.iconst 1, 1) := by decide +kernel
theorem dX8_readClause_189 : decode cX8_readClause 189 = .ok (.iadd, 1) := by decide +kernel
theorem dX8_readClause_190 : decode cX8_readClause 190 = .ok (.putfield 189, 3) := by decide +kernel
theorem dX8_readClause_193 : decode cX8_readClause 193 = .ok (.return_, 1) := by decide +kernel
set_option maxRecDepth 20000 in
set_option maxHeartbeats 4000000 in
theorem vX8_readClause_0 {l : Launch} {x : CX} {a0 : Nat} {h : PH} {rc rs n0 : Nat} {Q : Option Value → PH → Prop} {X : String → PH → Prop}
    (K : ((hK h a0).1 = 8) ∧ ∃ (q1 : Int32 → PH → Prop), CI l x mX8_which 7 0 0 [.ref a0] h q1 ∧ ∀ (r5 : Int32) (h4 : PH), q1 r5 h4 → ((¬ r5 = (-1) → Gm l x mX8_readClause 8 15 [(0, .ref a0), (1, .int r5)] [] h4 rc rs n0 Q X) ∧ (r5 = (-1) → ((hK h4 a0).1 = 8) ∧ ∃ (q7 : PH → Prop), CV l x mX8_wrong 0 0 0 [.ref a0, .int 1] h4 q7 ∧ ∀ (h10 : PH), q7 h10 → Gm l x mX8_readClause 8 15 [(0, .ref a0), (1, .int r5)] [] h10 rc rs n0 Q X))) :
    Gm l x mX8_readClause 8 0 [(0, .ref a0)] [] h rc rs n0 Q X := by
  refine g_aload_n dX8_readClause_0 rfl 0 rfl ?_
  obtain ⟨e3, K⟩ := K
  obtain ⟨q1, C2, K⟩ := K
  refine g_callV (M' := mX8_which) (b := a0) (As := []) (rest := []) (rc' := rc) (rs' := rs) dX8_readClause_1 bw_1361 bw_1363 bs_43 bw_9 bw_1364 ⟨by decide +kernel, by decide +kernel, show (parseMethodDescriptor mX8_which.1.desc).map (fun d => d.parameters.length) = some 0 by decide +kernel⟩ (by decide) (by decide) (Nat.le_of_ble_eq_true rfl) fc_8 (by decide) rfl e3 C2 (Nat.le_of_eq (Nat.add_zero _)) (Nat.le_of_eq (Nat.add_zero _)) (fun _ _ h => h) ?_
  rintro _ h4 ⟨r5, rfl, K1⟩ -
  replace K := K r5 h4 K1
  show Gm l x mX8_readClause 8 4 [(0, .ref a0)] [.int r5] h4 rc rs n0 Q X
  refine g_istore_n (lv' := [(0, .ref a0), (1, .int r5)]) dX8_readClause_4 rfl (by decide) rfl ?_
  refine g_iload_n dX8_readClause_5 rfl 1 rfl ?_
  refine g_iconst (v := (-1)) dX8_readClause_6 (by decide) ?_
  refine g_icmp_ne (tgt := 15) dX8_readClause_7 (by decide) (fun c6 => ?_) (fun c6 => ?_)
  · replace K := K.1 c6
    exact K
  · replace K := K.2 c6
    refine g_aload_n dX8_readClause_10 rfl 0 rfl ?_
    refine g_iconst (v := 1) dX8_readClause_11 (by decide) ?_
    obtain ⟨e9, K⟩ := K
    obtain ⟨q7, C8, K⟩ := K
    refine g_callV (M' := mX8_wrong) (b := a0) (As := [.int 1]) (rest := []) (rc' := rc) (rs' := rs) dX8_readClause_12 bw_1371 bw_1373 bs_45 bw_9 bw_1374 ⟨by decide +kernel, by decide +kernel, show (parseMethodDescriptor mX8_wrong.1.desc).map (fun d => d.parameters.length) = some 1 by decide +kernel⟩ (by decide) (by decide) (Nat.le_of_ble_eq_true rfl) fc_8 (by decide) rfl e9 C8 (Nat.le_of_eq (Nat.add_zero _)) (Nat.le_of_eq (Nat.add_zero _)) (fun _ _ h => h) ?_
    rintro _ h10 ⟨rfl, K1⟩ -
    replace K := K h10 K1
    show Gm l x mX8_readClause 8 15 [(0, .ref a0), (1, .int r5)] [] h10 rc rs n0 Q X
    exact K
set_option maxRecDepth 20000 in
set_option maxHeartbeats 4000000 in
theorem vX8_readClause_15 {l : Launch} {x : CX} {a0 : Nat} {x1 : Int32} {h : PH} {rc rs n0 : Nat} {Q : Option Value → PH → Prop} {X : String → PH → Prop}
    (K : ((¬ x1 = 0 → ((x1 ≤ 2 → Gm l x mX8_readClause 8 46 [(0, .ref a0), (1, .int x1)] [] h rc rs n0 Q X) ∧ (¬ x1 ≤ 2 → ((hK h a0).1 = 8) ∧ ∃ b4, (hR h a0 5 = some b4) ∧ ((hK h b4).1 = 100) ∧ (vp_in x1 (hK h b4).2) ∧ (((hI h b4 x1.toNatClampNeg) = (-1) → Gm l x mX8_readClause 8 46 [(0, .ref a0), (1, .int x1)] [] h rc rs n0 Q X) ∧ (¬ (hI h b4 x1.toNatClampNeg) = (-1) → ∃ (q9 : PH → Prop), CV l x mX8_wrong 0 0 0 [.ref a0, .int 4] h q9 ∧ ∀ (h11 : PH), q9 h11 → Gm l x mX8_readClause 8 46 [(0, .ref a0), (1, .int x1)] [] h11 rc rs n0 Q X))))) ∧ (x1 = 0 → ((hK h a0).1 = 8) ∧ ((0 < (hI h a0 21) → ∃ (q14 : PH → Prop), CV l x mX8_wrong 0 0 0 [.ref a0, .int 4] h q14 ∧ ∀ (h16 : PH), q14 h16 → Gm l x mX8_readClause 8 46 [(0, .ref a0), (1, .int x1)] [] h16 rc rs n0 Q X) ∧ (¬ 0 < (hI h a0 21) → ((x1 ≤ 2 → Gm l x mX8_readClause 8 46 [(0, .ref a0), (1, .int x1)] [] h rc rs n0 Q X) ∧ (¬ x1 ≤ 2 → ∃ b18, (hR h a0 5 = some b18) ∧ ((hK h b18).1 = 100) ∧ (vp_in x1 (hK h b18).2) ∧ (((hI h b18 x1.toNatClampNeg) = (-1) → Gm l x mX8_readClause 8 46 [(0, .ref a0), (1, .int x1)] [] h rc rs n0 Q X) ∧ (¬ (hI h b18 x1.toNatClampNeg) = (-1) → ∃ (q23 : PH → Prop), CV l x mX8_wrong 0 0 0 [.ref a0, .int 4] h q23 ∧ ∀ (h25 : PH), q23 h25 → Gm l x mX8_readClause 8 46 [(0, .ref a0), (1, .int x1)] [] h25 rc rs n0 Q X))))))))) :
    Gm l x mX8_readClause 8 15 [(0, .ref a0), (1, .int x1)] [] h rc rs n0 Q X := by
  refine g_iload_n dX8_readClause_15 rfl 1 rfl ?_
  refine g_if_ne (tgt := 26) dX8_readClause_16 (by decide) (fun c1 => ?_) (fun c1 => ?_)
  · replace K := K.1 c1
    refine g_iload_n dX8_readClause_26 rfl 1 rfl ?_
    refine g_iconst (v := 2) dX8_readClause_27 (by decide) ?_
    refine g_icmp_le (tgt := 46) dX8_readClause_28 (by decide) (fun c2 => ?_) (fun c2 => ?_)
    · replace K := K.1 c2
      exact K
    · replace K := K.2 c2
      refine g_aload_n dX8_readClause_31 rfl 0 rfl ?_
      obtain ⟨e3, b4, e5, K⟩ := K
      refine g_get (c := 8) (k := 5) (v := .ref b4) dX8_readClause_32 fc_8 (by decide) (by decide) bw_1203 (congrArg pr e5) e3 ?_
      refine g_iload_n dX8_readClause_35 rfl 1 rfl ?_
      obtain ⟨e6, e7, K⟩ := K
      refine g_iald dX8_readClause_36 e6 e7 ?_
      refine g_iconst (v := (-1)) dX8_readClause_37 (by decide) ?_
      refine g_icmp_eq (tgt := 46) dX8_readClause_38 (by decide) (fun c8 => ?_) (fun c8 => ?_)
      · replace K := K.1 c8
        exact K
      · replace K := K.2 c8
        refine g_aload_n dX8_readClause_41 rfl 0 rfl ?_
        refine g_iconst (v := 4) dX8_readClause_42 (by decide) ?_
        obtain ⟨q9, C10, K⟩ := K
        refine g_callV (M' := mX8_wrong) (b := a0) (As := [.int 4]) (rest := []) (rc' := rc) (rs' := rs) dX8_readClause_43 bw_1371 bw_1373 bs_45 bw_9 bw_1374 ⟨by decide +kernel, by decide +kernel, show (parseMethodDescriptor mX8_wrong.1.desc).map (fun d => d.parameters.length) = some 1 by decide +kernel⟩ (by decide) (by decide) (Nat.le_of_ble_eq_true rfl) fc_8 (by decide) rfl e3 C10 (Nat.le_of_eq (Nat.add_zero _)) (Nat.le_of_eq (Nat.add_zero _)) (fun _ _ h => h) ?_
        rintro _ h11 ⟨rfl, K1⟩ -
        replace K := K h11 K1
        show Gm l x mX8_readClause 8 46 [(0, .ref a0), (1, .int x1)] [] h11 rc rs n0 Q X
        exact K
  · replace K := K.2 c1
    refine g_aload_n dX8_readClause_19 rfl 0 rfl ?_
    obtain ⟨e12, K⟩ := K
    refine g_get (c := 8) (k := 21) (v := .int (hI h a0 21)) dX8_readClause_20 fc_8 (by decide) (by decide) bw_1219 rfl e12 ?_
    refine g_if_gt (tgt := 41) dX8_readClause_23 (by decide) (fun c13 => ?_) (fun c13 => ?_)
    · replace K := K.1 c13
      refine g_aload_n dX8_readClause_41 rfl 0 rfl ?_
      refine g_iconst (v := 4) dX8_readClause_42 (by decide) ?_
      obtain ⟨q14, C15, K⟩ := K
      refine g_callV (M' := mX8_wrong) (b := a0) (As := [.int 4]) (rest := []) (rc' := rc) (rs' := rs) dX8_readClause_43 bw_1371 bw_1373 bs_45 bw_9 bw_1374 ⟨by decide +kernel, by decide +kernel, show (parseMethodDescriptor mX8_wrong.1.desc).map (fun d => d.parameters.length) = some 1 by decide +kernel⟩ (by decide) (by decide) (Nat.le_of_ble_eq_true rfl) fc_8 (by decide) rfl e12 C15 (Nat.le_of_eq (Nat.add_zero _)) (Nat.le_of_eq (Nat.add_zero _)) (fun _ _ h => h) ?_
      rintro _ h16 ⟨rfl, K1⟩ -
      replace K := K h16 K1
      show Gm l x mX8_readClause 8 46 [(0, .ref a0), (1, .int x1)] [] h16 rc rs n0 Q X
      exact K
    · replace K := K.2 c13
      refine g_iload_n dX8_readClause_26 rfl 1 rfl ?_
      refine g_iconst (v := 2) dX8_readClause_27 (by decide) ?_
      refine g_icmp_le (tgt := 46) dX8_readClause_28 (by decide) (fun c17 => ?_) (fun c17 => ?_)
      · replace K := K.1 c17
        exact K
      · replace K := K.2 c17
        refine g_aload_n dX8_readClause_31 rfl 0 rfl ?_
        obtain ⟨b18, e19, K⟩ := K
        refine g_get (c := 8) (k := 5) (v := .ref b18) dX8_readClause_32 fc_8 (by decide) (by decide) bw_1203 (congrArg pr e19) e12 ?_
        refine g_iload_n dX8_readClause_35 rfl 1 rfl ?_
        obtain ⟨e20, e21, K⟩ := K
        refine g_iald dX8_readClause_36 e20 e21 ?_
        refine g_iconst (v := (-1)) dX8_readClause_37 (by decide) ?_
        refine g_icmp_eq (tgt := 46) dX8_readClause_38 (by decide) (fun c22 => ?_) (fun c22 => ?_)
        · replace K := K.1 c22
          exact K
        · replace K := K.2 c22
          refine g_aload_n dX8_readClause_41 rfl 0 rfl ?_
          refine g_iconst (v := 4) dX8_readClause_42 (by decide) ?_
          obtain ⟨q23, C24, K⟩ := K
          refine g_callV (M' := mX8_wrong) (b := a0) (As := [.int 4]) (rest := []) (rc' := rc) (rs' := rs) dX8_readClause_43 bw_1371 bw_1373 bs_45 bw_9 bw_1374 ⟨by decide +kernel, by decide +kernel, show (parseMethodDescriptor mX8_wrong.1.desc).map (fun d => d.parameters.length) = some 1 by decide +kernel⟩ (by decide) (by decide) (Nat.le_of_ble_eq_true rfl) fc_8 (by decide) rfl e12 C24 (Nat.le_of_eq (Nat.add_zero _)) (Nat.le_of_eq (Nat.add_zero _)) (fun _ _ h => h) ?_
          rintro _ h25 ⟨rfl, K1⟩ -
          replace K := K h25 K1
          show Gm l x mX8_readClause 8 46 [(0, .ref a0), (1, .int x1)] [] h25 rc rs n0 Q X
          exact K
set_option maxRecDepth 20000 in
set_option maxHeartbeats 4000000 in
theorem vX8_readClause_46 {l : Launch} {x : CX} {a0 : Nat} {x1 : Int32} {h : PH} {rc rs n0 : Nat} {Q : Option Value → PH → Prop} {X : String → PH → Prop}
    (K : ((hK h a0).1 = 8) ∧ (((hI h a0 18) = 0 → ((¬ x1 = 1 → ((¬ x1 = 2 → ∃ (q5 : PH → Prop), CV l x mX8_stepOn 1 0 0 [.ref a0] h q5 ∧ ∀ (h7 : PH), q5 h7 → ((hK h7 a0).1 = 8) ∧ ∃ b9, (hR h7 a0 5 = some b9) ∧ ((¬ x1 = 0 → ((¬ x1 = 3 → ((¬ x1 = 4 → ((¬ x1 = 5 → ∃ (q15 : Int32 → PH → Prop), CI l x mX8_readNumber 2 0 0 [.ref a0, .int 0, .int 8] h7 q15 ∧ ∀ (r18 : Int32) (h17 : PH), q15 r18 h17 → ((hK h17 b9).1 = 100) ∧ (vp_in x1 (hK h17 b9).2) ∧ ((hK h17 a0).1 = 8) ∧ ((¬ (hI (sI h17 b9 x1.toNatClampNeg r18) a0 18) = 0 → ((¬ (hI (sI h17 b9 x1.toNatClampNeg r18) a0 18) = 0 → Q none (sI (sI h17 b9 x1.toNatClampNeg r18) a0 21 ((hI (sI h17 b9 x1.toNatClampNeg r18) a0 21) + 1))) ∧ ((hI (sI h17 b9 x1.toNatClampNeg r18) a0 18) = 0 → ∃ (q24 : PH → Prop), CV l x mX8_stepOn 1 0 0 [.ref a0] (sI h17 b9 x1.toNatClampNeg r18) q24 ∧ ∀ (h26 : PH), q24 h26 → ((hK h26 a0).1 = 8) ∧ Q none (sI h26 a0 21 ((hI h26 a0 21) + 1))))) ∧ ((hI (sI h17 b9 x1.toNatClampNeg r18) a0 18) = 0 → (((hI (sI h17 b9 x1.toNatClampNeg r18) a0 14) = 3 → ((¬ (hI (sI h17 b9 x1.toNatClampNeg r18) a0 18) = 0 → Q none (sI (sI h17 b9 x1.toNatClampNeg r18) a0 21 ((hI (sI h17 b9 x1.toNatClampNeg r18) a0 21) + 1))) ∧ ((hI (sI h17 b9 x1.toNatClampNeg r18) a0 18) = 0 → ∃ (q30 : PH → Prop), CV l x mX8_stepOn 1 0 0 [.ref a0] (sI h17 b9 x1.toNatClampNeg r18) q30 ∧ ∀ (h32 : PH), q30 h32 → ((hK h32 a0).1 = 8) ∧ Q none (sI h32 a0 21 ((hI h32 a0 21) + 1))))) ∧ (¬ (hI (sI h17 b9 x1.toNatClampNeg r18) a0 14) = 3 → ∃ (q34 : PH → Prop), CV l x mX8_wrong 0 0 0 [.ref a0, .int 1] (sI h17 b9 x1.toNatClampNeg r18) q34 ∧ ∀ (h36 : PH), q34 h36 → ((hK h36 a0).1 = 8) ∧ ((¬ (hI h36 a0 18) = 0 → Q none (sI h36 a0 21 ((hI h36 a0 21) + 1))) ∧ ((hI h36 a0 18) = 0 → ∃ (q39 : PH → Prop), CV l x mX8_stepOn 1 0 0 [.ref a0] h36 q39 ∧ ∀ (h41 : PH), q39 h41 → ((hK h41 a0).1 = 8) ∧ Q none (sI h41 a0 21 ((hI h41 a0 21) + 1))))))))) ∧ (x1 = 5 → ∃ (q43 : Int32 → PH → Prop), CI l x mX8_readNumber 2 0 0 [.ref a0, .int 0, .int 2] h7 q43 ∧ ∀ (r46 : Int32) (h45 : PH), q43 r46 h45 → ((hK h45 b9).1 = 100) ∧ (vp_in x1 (hK h45 b9).2) ∧ ((hK h45 a0).1 = 8) ∧ ((¬ (hI (sI h45 b9 x1.toNatClampNeg r46) a0 18) = 0 → ((¬ (hI (sI h45 b9 x1.toNatClampNeg r46) a0 18) = 0 → Q none (sI (sI h45 b9 x1.toNatClampNeg r46) a0 21 ((hI (sI h45 b9 x1.toNatClampNeg r46) a0 21) + 1))) ∧ ((hI (sI h45 b9 x1.toNatClampNeg r46) a0 18) = 0 → ∃ (q52 : PH → Prop), CV l x mX8_stepOn 1 0 0 [.ref a0] (sI h45 b9 x1.toNatClampNeg r46) q52 ∧ ∀ (h54 : PH), q52 h54 → ((hK h54 a0).1 = 8) ∧ Q none (sI h54 a0 21 ((hI h54 a0 21) + 1))))) ∧ ((hI (sI h45 b9 x1.toNatClampNeg r46) a0 18) = 0 → (((hI (sI h45 b9 x1.toNatClampNeg r46) a0 14) = 3 → ((¬ (hI (sI h45 b9 x1.toNatClampNeg r46) a0 18) = 0 → Q none (sI (sI h45 b9 x1.toNatClampNeg r46) a0 21 ((hI (sI h45 b9 x1.toNatClampNeg r46) a0 21) + 1))) ∧ ((hI (sI h45 b9 x1.toNatClampNeg r46) a0 18) = 0 → ∃ (q58 : PH → Prop), CV l x mX8_stepOn 1 0 0 [.ref a0] (sI h45 b9 x1.toNatClampNeg r46) q58 ∧ ∀ (h60 : PH), q58 h60 → ((hK h60 a0).1 = 8) ∧ Q none (sI h60 a0 21 ((hI h60 a0 21) + 1))))) ∧ (¬ (hI (sI h45 b9 x1.toNatClampNeg r46) a0 14) = 3 → ∃ (q62 : PH → Prop), CV l x mX8_wrong 0 0 0 [.ref a0, .int 1] (sI h45 b9 x1.toNatClampNeg r46) q62 ∧ ∀ (h64 : PH), q62 h64 → ((hK h64 a0).1 = 8) ∧ ((¬ (hI h64 a0 18) = 0 → Q none (sI h64 a0 21 ((hI h64 a0 21) + 1))) ∧ ((hI h64 a0 18) = 0 → ∃ (q67 : PH → Prop), CV l x mX8_stepOn 1 0 0 [.ref a0] h64 q67 ∧ ∀ (h69 : PH), q67 h69 → ((hK h69 a0).1 = 8) ∧ Q none (sI h69 a0 21 ((hI h69 a0 21) + 1))))))))))) ∧ (x1 = 4 → ∃ (q71 : Int32 → PH → Prop), CI l x mX8_readNumber 2 0 0 [.ref a0, .int 0, .int 11] h7 q71 ∧ ∀ (r74 : Int32) (h73 : PH), q71 r74 h73 → ((hK h73 b9).1 = 100) ∧ (vp_in x1 (hK h73 b9).2) ∧ ((hK h73 a0).1 = 8) ∧ ((¬ (hI (sI h73 b9 x1.toNatClampNeg r74) a0 18) = 0 → ((¬ (hI (sI h73 b9 x1.toNatClampNeg r74) a0 18) = 0 → Q none (sI (sI h73 b9 x1.toNatClampNeg r74) a0 21 ((hI (sI h73 b9 x1.toNatClampNeg r74) a0 21) + 1))) ∧ ((hI (sI h73 b9 x1.toNatClampNeg r74) a0 18) = 0 → ∃ (q80 : PH → Prop), CV l x mX8_stepOn 1 0 0 [.ref a0] (sI h73 b9 x1.toNatClampNeg r74) q80 ∧ ∀ (h82 : PH), q80 h82 → ((hK h82 a0).1 = 8) ∧ Q none (sI h82 a0 21 ((hI h82 a0 21) + 1))))) ∧ ((hI (sI h73 b9 x1.toNatClampNeg r74) a0 18) = 0 → (((hI (sI h73 b9 x1.toNatClampNeg r74) a0 14) = 3 → ((¬ (hI (sI h73 b9 x1.toNatClampNeg r74) a0 18) = 0 → Q none (sI (sI h73 b9 x1.toNatClampNeg r74) a0 21 ((hI (sI h73 b9 x1.toNatClampNeg r74) a0 21) + 1))) ∧ ((hI (sI h73 b9 x1.toNatClampNeg r74) a0 18) = 0 → ∃ (q86 : PH → Prop), CV l x mX8_stepOn 1 0 0 [.ref a0] (sI h73 b9 x1.toNatClampNeg r74) q86 ∧ ∀ (h88 : PH), q86 h88 → ((hK h88 a0).1 = 8) ∧ Q none (sI h88 a0 21 ((hI h88 a0 21) + 1))))) ∧ (¬ (hI (sI h73 b9 x1.toNatClampNeg r74) a0 14) = 3 → ∃ (q90 : PH → Prop), CV l x mX8_wrong 0 0 0 [.ref a0, .int 1] (sI h73 b9 x1.toNatClampNeg r74) q90 ∧ ∀ (h92 : PH), q90 h92 → ((hK h92 a0).1 = 8) ∧ ((¬ (hI h92 a0 18) = 0 → Q none (sI h92 a0 21 ((hI h92 a0 21) + 1))) ∧ ((hI h92 a0 18) = 0 → ∃ (q95 : PH → Prop), CV l x mX8_stepOn 1 0 0 [.ref a0] h92 q95 ∧ ∀ (h97 : PH), q95 h97 → ((hK h97 a0).1 = 8) ∧ Q none (sI h97 a0 21 ((hI h97 a0 21) + 1))))))))))) ∧ (x1 = 3 → ∃ (q99 : Int32 → PH → Prop), CI l x mX8_readNumber 2 0 0 [.ref a0, .int 1, .int 4] h7 q99 ∧ ∀ (r102 : Int32) (h101 : PH), q99 r102 h101 → ((hK h101 b9).1 = 100) ∧ (vp_in x1 (hK h101 b9).2) ∧ ((hK h101 a0).1 = 8) ∧ ((¬ (hI (sI h101 b9 x1.toNatClampNeg r102) a0 18) = 0 → ((¬ (hI (sI h101 b9 x1.toNatClampNeg r102) a0 18) = 0 → Q none (sI (sI h101 b9 x1.toNatClampNeg r102) a0 21 ((hI (sI h101 b9 x1.toNatClampNeg r102) a0 21) + 1))) ∧ ((hI (sI h101 b9 x1.toNatClampNeg r102) a0 18) = 0 → ∃ (q108 : PH → Prop), CV l x mX8_stepOn 1 0 0 [.ref a0] (sI h101 b9 x1.toNatClampNeg r102) q108 ∧ ∀ (h110 : PH), q108 h110 → ((hK h110 a0).1 = 8) ∧ Q none (sI h110 a0 21 ((hI h110 a0 21) + 1))))) ∧ ((hI (sI h101 b9 x1.toNatClampNeg r102) a0 18) = 0 → (((hI (sI h101 b9 x1.toNatClampNeg r102) a0 14) = 3 → ((¬ (hI (sI h101 b9 x1.toNatClampNeg r102) a0 18) = 0 → Q none (sI (sI h101 b9 x1.toNatClampNeg r102) a0 21 ((hI (sI h101 b9 x1.toNatClampNeg r102) a0 21) + 1))) ∧ ((hI (sI h101 b9 x1.toNatClampNeg r102) a0 18) = 0 → ∃ (q114 : PH → Prop), CV l x mX8_stepOn 1 0 0 [.ref a0] (sI h101 b9 x1.toNatClampNeg r102) q114 ∧ ∀ (h116 : PH), q114 h116 → ((hK h116 a0).1 = 8) ∧ Q none (sI h116 a0 21 ((hI h116 a0 21) + 1))))) ∧ (¬ (hI (sI h101 b9 x1.toNatClampNeg r102) a0 14) = 3 → ∃ (q118 : PH → Prop), CV l x mX8_wrong 0 0 0 [.ref a0, .int 1] (sI h101 b9 x1.toNatClampNeg r102) q118 ∧ ∀ (h120 : PH), q118 h120 → ((hK h120 a0).1 = 8) ∧ ((¬ (hI h120 a0 18) = 0 → Q none (sI h120 a0 21 ((hI h120 a0 21) + 1))) ∧ ((hI h120 a0 18) = 0 → ∃ (q123 : PH → Prop), CV l x mX8_stepOn 1 0 0 [.ref a0] h120 q123 ∧ ∀ (h125 : PH), q123 h125 → ((hK h125 a0).1 = 8) ∧ Q none (sI h125 a0 21 ((hI h125 a0 21) + 1))))))))))) ∧ (x1 = 0 → ∃ (q127 : Int32 → PH → Prop), CI l x mX8_readNumber 2 0 0 [.ref a0, .int 2, .int 12] h7 q127 ∧ ∀ (r130 : Int32) (h129 : PH), q127 r130 h129 → ((hK h129 b9).1 = 100) ∧ (vp_in x1 (hK h129 b9).2) ∧ ((hK h129 a0).1 = 8) ∧ ((¬ (hI (sI h129 b9 x1.toNatClampNeg r130) a0 18) = 0 → ((¬ (hI (sI h129 b9 x1.toNatClampNeg r130) a0 18) = 0 → Q none (sI (sI h129 b9 x1.toNatClampNeg r130) a0 21 ((hI (sI h129 b9 x1.toNatClampNeg r130) a0 21) + 1))) ∧ ((hI (sI h129 b9 x1.toNatClampNeg r130) a0 18) = 0 → ∃ (q136 : PH → Prop), CV l x mX8_stepOn 1 0 0 [.ref a0] (sI h129 b9 x1.toNatClampNeg r130) q136 ∧ ∀ (h138 : PH), q136 h138 → ((hK h138 a0).1 = 8) ∧ Q none (sI h138 a0 21 ((hI h138 a0 21) + 1))))) ∧ ((hI (sI h129 b9 x1.toNatClampNeg r130) a0 18) = 0 → (((hI (sI h129 b9 x1.toNatClampNeg r130) a0 14) = 3 → ((¬ (hI (sI h129 b9 x1.toNatClampNeg r130) a0 18) = 0 → Q none (sI (sI h129 b9 x1.toNatClampNeg r130) a0 21 ((hI (sI h129 b9 x1.toNatClampNeg r130) a0 21) + 1))) ∧ ((hI (sI h129 b9 x1.toNatClampNeg r130) a0 18) = 0 → ∃ (q142 : PH → Prop), CV l x mX8_stepOn 1 0 0 [.ref a0] (sI h129 b9 x1.toNatClampNeg r130) q142 ∧ ∀ (h144 : PH), q142 h144 → ((hK h144 a0).1 = 8) ∧ Q none (sI h144 a0 21 ((hI h144 a0 21) + 1))))) ∧ (¬ (hI (sI h129 b9 x1.toNatClampNeg r130) a0 14) = 3 → ∃ (q146 : PH → Prop), CV l x mX8_wrong 0 0 0 [.ref a0, .int 1] (sI h129 b9 x1.toNatClampNeg r130) q146 ∧ ∀ (h148 : PH), q146 h148 → ((hK h148 a0).1 = 8) ∧ ((¬ (hI h148 a0 18) = 0 → Q none (sI h148 a0 21 ((hI h148 a0 21) + 1))) ∧ ((hI h148 a0 18) = 0 → ∃ (q151 : PH → Prop), CV l x mX8_stepOn 1 0 0 [.ref a0] h148 q151 ∧ ∀ (h153 : PH), q151 h153 → ((hK h153 a0).1 = 8) ∧ Q none (sI h153 a0 21 ((hI h153 a0 21) + 1))))))))))) ∧ (x1 = 2 → ∃ (q155 : PH → Prop), CV l x mX8_readRider 7 0 0 [.ref a0] h q155 ∧ ∀ (h157 : PH), q155 h157 → ((hK h157 a0).1 = 8) ∧ ((¬ (hI h157 a0 18) = 0 → ((¬ (hI h157 a0 18) = 0 → Q none (sI h157 a0 21 ((hI h157 a0 21) + 1))) ∧ ((hI h157 a0 18) = 0 → ∃ (q161 : PH → Prop), CV l x mX8_stepOn 1 0 0 [.ref a0] h157 q161 ∧ ∀ (h163 : PH), q161 h163 → ((hK h163 a0).1 = 8) ∧ Q none (sI h163 a0 21 ((hI h163 a0 21) + 1))))) ∧ ((hI h157 a0 18) = 0 → (((hI h157 a0 14) = 3 → ((¬ (hI h157 a0 18) = 0 → Q none (sI h157 a0 21 ((hI h157 a0 21) + 1))) ∧ ((hI h157 a0 18) = 0 → ∃ (q167 : PH → Prop), CV l x mX8_stepOn 1 0 0 [.ref a0] h157 q167 ∧ ∀ (h169 : PH), q167 h169 → ((hK h169 a0).1 = 8) ∧ Q none (sI h169 a0 21 ((hI h169 a0 21) + 1))))) ∧ (¬ (hI h157 a0 14) = 3 → ∃ (q171 : PH → Prop), CV l x mX8_wrong 0 0 0 [.ref a0, .int 1] h157 q171 ∧ ∀ (h173 : PH), q171 h173 → ((hK h173 a0).1 = 8) ∧ ((¬ (hI h173 a0 18) = 0 → Q none (sI h173 a0 21 ((hI h173 a0 21) + 1))) ∧ ((hI h173 a0 18) = 0 → ∃ (q176 : PH → Prop), CV l x mX8_stepOn 1 0 0 [.ref a0] h173 q176 ∧ ∀ (h178 : PH), q176 h178 → ((hK h178 a0).1 = 8) ∧ Q none (sI h178 a0 21 ((hI h178 a0 21) + 1))))))))))) ∧ (x1 = 1 → ∃ (q180 : PH → Prop), CV l x mX8_readCar 7 0 0 [.ref a0] h q180 ∧ ∀ (h182 : PH), q180 h182 → ((hK h182 a0).1 = 8) ∧ ((¬ (hI h182 a0 18) = 0 → ((¬ (hI h182 a0 18) = 0 → Q none (sI h182 a0 21 ((hI h182 a0 21) + 1))) ∧ ((hI h182 a0 18) = 0 → ∃ (q186 : PH → Prop), CV l x mX8_stepOn 1 0 0 [.ref a0] h182 q186 ∧ ∀ (h188 : PH), q186 h188 → ((hK h188 a0).1 = 8) ∧ Q none (sI h188 a0 21 ((hI h188 a0 21) + 1))))) ∧ ((hI h182 a0 18) = 0 → (((hI h182 a0 14) = 3 → ((¬ (hI h182 a0 18) = 0 → Q none (sI h182 a0 21 ((hI h182 a0 21) + 1))) ∧ ((hI h182 a0 18) = 0 → ∃ (q192 : PH → Prop), CV l x mX8_stepOn 1 0 0 [.ref a0] h182 q192 ∧ ∀ (h194 : PH), q192 h194 → ((hK h194 a0).1 = 8) ∧ Q none (sI h194 a0 21 ((hI h194 a0 21) + 1))))) ∧ (¬ (hI h182 a0 14) = 3 → ∃ (q196 : PH → Prop), CV l x mX8_wrong 0 0 0 [.ref a0, .int 1] h182 q196 ∧ ∀ (h198 : PH), q196 h198 → ((hK h198 a0).1 = 8) ∧ ((¬ (hI h198 a0 18) = 0 → Q none (sI h198 a0 21 ((hI h198 a0 21) + 1))) ∧ ((hI h198 a0 18) = 0 → ∃ (q201 : PH → Prop), CV l x mX8_stepOn 1 0 0 [.ref a0] h198 q201 ∧ ∀ (h203 : PH), q201 h203 → ((hK h203 a0).1 = 8) ∧ Q none (sI h203 a0 21 ((hI h203 a0 21) + 1))))))))))) ∧ (¬ (hI h a0 18) = 0 → Q none h))) :
    Gm l x mX8_readClause 8 46 [(0, .ref a0), (1, .int x1)] [] h rc rs n0 Q X := by
  refine g_aload_n dX8_readClause_46 rfl 0 rfl ?_
  obtain ⟨e1, K⟩ := K
  refine g_get (c := 8) (k := 18) (v := .int (hI h a0 18)) dX8_readClause_47 fc_8 (by decide) (by decide) bw_1216 rfl e1 ?_
  refine g_if_eq (tgt := 54) dX8_readClause_50 (by decide) (fun c2 => ?_) (fun c2 => ?_)
  · replace K := K.1 c2
    refine g_iload_n dX8_readClause_54 rfl 1 rfl ?_
    refine g_iconst (v := 1) dX8_readClause_55 (by decide) ?_
    refine g_icmp_ne (tgt := 66) dX8_readClause_56 (by decide) (fun c3 => ?_) (fun c3 => ?_)
    · replace K := K.1 c3
      refine g_iload_n dX8_readClause_66 rfl 1 rfl ?_
      refine g_iconst (v := 2) dX8_readClause_67 (by decide) ?_
      refine g_icmp_ne (tgt := 78) dX8_readClause_68 (by decide) (fun c4 => ?_) (fun c4 => ?_)
      · replace K := K.1 c4
        refine g_aload_n dX8_readClause_78 rfl 0 rfl ?_
        obtain ⟨q5, C6, K⟩ := K
        refine g_callV (M' := mX8_stepOn) (b := a0) (As := []) (rest := []) (rc' := rc) (rs' := rs) dX8_readClause_79 bw_1341 bw_1343 bs_40 bw_9 bw_1344 ⟨by decide +kernel, by decide +kernel, show (parseMethodDescriptor mX8_stepOn.1.desc).map (fun d => d.parameters.length) = some 0 by decide +kernel⟩ (by decide) (by decide) (Nat.le_of_ble_eq_true rfl) fc_8 (by decide) rfl e1 C6 (Nat.le_of_eq (Nat.add_zero _)) (Nat.le_of_eq (Nat.add_zero _)) (fun _ _ h => h) ?_
        rintro _ h7 ⟨rfl, K1⟩ -
        replace K := K h7 K1
        show Gm l x mX8_readClause 8 82 [(0, .ref a0), (1, .int x1)] [] h7 rc rs n0 Q X
        refine g_aload_n dX8_readClause_82 rfl 0 rfl ?_
        obtain ⟨e8, b9, e10, K⟩ := K
        refine g_get (c := 8) (k := 5) (v := .ref b9) dX8_readClause_83 fc_8 (by decide) (by decide) bw_1203 (congrArg pr e10) e8 ?_
        refine g_iload_n dX8_readClause_86 rfl 1 rfl ?_
        refine g_iload_n dX8_readClause_87 rfl 1 rfl ?_
        refine g_if_ne (tgt := 101) dX8_readClause_88 (by decide) (fun c11 => ?_) (fun c11 => ?_)
        · replace K := K.1 c11
          refine g_iload_n dX8_readClause_101 rfl 1 rfl ?_
          refine g_iconst (v := 3) dX8_readClause_102 (by decide) ?_
          refine g_icmp_ne (tgt := 115) dX8_readClause_103 (by decide) (fun c12 => ?_) (fun c12 => ?_)
          · replace K := K.1 c12
            refine g_iload_n dX8_readClause_115 rfl 1 rfl ?_
            refine g_iconst (v := 4) dX8_readClause_116 (by decide) ?_
            refine g_icmp_ne (tgt := 130) dX8_readClause_117 (by decide) (fun c13 => ?_) (fun c13 => ?_)
            · replace K := K.1 c13
              refine g_iload_n dX8_readClause_130 rfl 1 rfl ?_
              refine g_iconst (v := 5) dX8_readClause_131 (by decide) ?_
              refine g_icmp_ne (tgt := 144) dX8_readClause_132 (by decide) (fun c14 => ?_) (fun c14 => ?_)
              · replace K := K.1 c14
                refine g_aload_n dX8_readClause_144 rfl 0 rfl ?_
                refine g_iconst (v := 0) dX8_readClause_145 (by decide) ?_
                refine g_bipush (v := 8) dX8_readClause_146 (by decide) ?_
                obtain ⟨q15, C16, K⟩ := K
                refine g_callV (M' := mX8_readNumber) (b := a0) (As := [.int 0, .int 8]) (rest := [.int x1, .ref b9]) (rc' := rc) (rs' := rs) dX8_readClause_148 bw_1387 bw_1389 bs_49 bw_9 bw_1390 ⟨by decide +kernel, by decide +kernel, show (parseMethodDescriptor mX8_readNumber.1.desc).map (fun d => d.parameters.length) = some 2 by decide +kernel⟩ (by decide) (by decide) (Nat.le_of_ble_eq_true rfl) fc_8 (by decide) rfl e8 C16 (Nat.le_of_eq (Nat.add_zero _)) (Nat.le_of_eq (Nat.add_zero _)) (fun _ _ h => h) ?_
                rintro _ h17 ⟨r18, rfl, K1⟩ -
                replace K := K r18 h17 K1
                show Gm l x mX8_readClause 8 151 [(0, .ref a0), (1, .int x1)] [.int r18, .int x1, .ref b9] h17 rc rs n0 Q X
                obtain ⟨e19, e20, K⟩ := K
                refine g_iast dX8_readClause_151 e19 e20 ?_
                refine g_aload_n dX8_readClause_152 rfl 0 rfl ?_
                obtain ⟨e21, K⟩ := K
                refine g_get (c := 8) (k := 18) (v := .int (hI (sI h17 b9 x1.toNatClampNeg r18) a0 18)) dX8_readClause_153 fc_8 (by decide) (by decide) bw_1216 rfl (kkI e21) ?_
                refine g_if_ne (tgt := 172) dX8_readClause_156 (by decide) (fun c22 => ?_) (fun c22 => ?_)
                · replace K := K.1 c22
                  refine g_aload_n dX8_readClause_172 rfl 0 rfl ?_
                  refine g_get (c := 8) (k := 18) (v := .int (hI (sI h17 b9 x1.toNatClampNeg r18) a0 18)) dX8_readClause_173 fc_8 (by decide) (by decide) bw_1216 rfl (kkI e21) ?_
                  refine g_if_ne (tgt := 183) dX8_readClause_176 (by decide) (fun c23 => ?_) (fun c23 => ?_)
                  · replace K := K.1 c23
                    refine g_aload_n dX8_readClause_183 rfl 0 rfl ?_
                    refine g_dup dX8_readClause_184 rfl ?_
                    refine g_get (c := 8) (k := 21) (v := .int (hI (sI h17 b9 x1.toNatClampNeg r18) a0 21)) dX8_readClause_185 fc_8 (by decide) (by decide) bw_1219 rfl (kkI e21) ?_
                    refine g_iconst (v := 1) dX8_readClause_188 (by decide) ?_
                    refine g_iadd dX8_readClause_189 ?_
                    refine g_puti (c := 8) (k := 21) dX8_readClause_190 fc_8 (by decide) (by decide) bw_1219 (Or.inl rfl) rfl (kkI e21) ?_
                    exact g_vret dX8_readClause_193 rfl K
                  · replace K := K.2 c23
                    refine g_aload_n dX8_readClause_179 rfl 0 rfl ?_
                    obtain ⟨q24, C25, K⟩ := K
                    refine g_callV (M' := mX8_stepOn) (b := a0) (As := []) (rest := []) (rc' := rc) (rs' := rs) dX8_readClause_180 bw_1341 bw_1343 bs_40 bw_9 bw_1344 ⟨by decide +kernel, by decide +kernel, show (parseMethodDescriptor mX8_stepOn.1.desc).map (fun d => d.parameters.length) = some 0 by decide +kernel⟩ (by decide) (by decide) (Nat.le_of_ble_eq_true rfl) fc_8 (by decide) rfl (kkI e21) C25 (Nat.le_of_eq (Nat.add_zero _)) (Nat.le_of_eq (Nat.add_zero _)) (fun _ _ h => h) ?_
                    rintro _ h26 ⟨rfl, K1⟩ -
                    replace K := K h26 K1
                    show Gm l x mX8_readClause 8 183 [(0, .ref a0), (1, .int x1)] [] h26 rc rs n0 Q X
                    refine g_aload_n dX8_readClause_183 rfl 0 rfl ?_
                    refine g_dup dX8_readClause_184 rfl ?_
                    obtain ⟨e27, K⟩ := K
                    refine g_get (c := 8) (k := 21) (v := .int (hI h26 a0 21)) dX8_readClause_185 fc_8 (by decide) (by decide) bw_1219 rfl e27 ?_
                    refine g_iconst (v := 1) dX8_readClause_188 (by decide) ?_
                    refine g_iadd dX8_readClause_189 ?_
                    refine g_puti (c := 8) (k := 21) dX8_readClause_190 fc_8 (by decide) (by decide) bw_1219 (Or.inl rfl) rfl e27 ?_
                    exact g_vret dX8_readClause_193 rfl K
                · replace K := K.2 c22
                  refine g_aload_n dX8_readClause_159 rfl 0 rfl ?_
                  refine g_get (c := 8) (k := 14) (v := .int (hI (sI h17 b9 x1.toNatClampNeg r18) a0 14)) dX8_readClause_160 fc_8 (by decide) (by decide) bw_1212 rfl (kkI e21) ?_
                  refine g_iconst (v := 3) dX8_readClause_163 (by decide) ?_
                  refine g_icmp_eq (tgt := 172) dX8_readClause_164 (by decide) (fun c28 => ?_) (fun c28 => ?_)
                  · replace K := K.1 c28
                    refine g_aload_n dX8_readClause_172 rfl 0 rfl ?_
                    refine g_get (c := 8) (k := 18) (v := .int (hI (sI h17 b9 x1.toNatClampNeg r18) a0 18)) dX8_readClause_173 fc_8 (by decide) (by decide) bw_1216 rfl (kkI e21) ?_
                    refine g_if_ne (tgt := 183) dX8_readClause_176 (by decide) (fun c29 => ?_) (fun c29 => ?_)
                    · replace K := K.1 c29
                      refine g_aload_n dX8_readClause_183 rfl 0 rfl ?_
                      refine g_dup dX8_readClause_184 rfl ?_
                      refine g_get (c := 8) (k := 21) (v := .int (hI (sI h17 b9 x1.toNatClampNeg r18) a0 21)) dX8_readClause_185 fc_8 (by decide) (by decide) bw_1219 rfl (kkI e21) ?_
                      refine g_iconst (v := 1) dX8_readClause_188 (by decide) ?_
                      refine g_iadd dX8_readClause_189 ?_
                      refine g_puti (c := 8) (k := 21) dX8_readClause_190 fc_8 (by decide) (by decide) bw_1219 (Or.inl rfl) rfl (kkI e21) ?_
                      exact g_vret dX8_readClause_193 rfl K
                    · replace K := K.2 c29
                      refine g_aload_n dX8_readClause_179 rfl 0 rfl ?_
                      obtain ⟨q30, C31, K⟩ := K
                      refine g_callV (M' := mX8_stepOn) (b := a0) (As := []) (rest := []) (rc' := rc) (rs' := rs) dX8_readClause_180 bw_1341 bw_1343 bs_40 bw_9 bw_1344 ⟨by decide +kernel, by decide +kernel, show (parseMethodDescriptor mX8_stepOn.1.desc).map (fun d => d.parameters.length) = some 0 by decide +kernel⟩ (by decide) (by decide) (Nat.le_of_ble_eq_true rfl) fc_8 (by decide) rfl (kkI e21) C31 (Nat.le_of_eq (Nat.add_zero _)) (Nat.le_of_eq (Nat.add_zero _)) (fun _ _ h => h) ?_
                      rintro _ h32 ⟨rfl, K1⟩ -
                      replace K := K h32 K1
                      show Gm l x mX8_readClause 8 183 [(0, .ref a0), (1, .int x1)] [] h32 rc rs n0 Q X
                      refine g_aload_n dX8_readClause_183 rfl 0 rfl ?_
                      refine g_dup dX8_readClause_184 rfl ?_
                      obtain ⟨e33, K⟩ := K
                      refine g_get (c := 8) (k := 21) (v := .int (hI h32 a0 21)) dX8_readClause_185 fc_8 (by decide) (by decide) bw_1219 rfl e33 ?_
                      refine g_iconst (v := 1) dX8_readClause_188 (by decide) ?_
                      refine g_iadd dX8_readClause_189 ?_
                      refine g_puti (c := 8) (k := 21) dX8_readClause_190 fc_8 (by decide) (by decide) bw_1219 (Or.inl rfl) rfl e33 ?_
                      exact g_vret dX8_readClause_193 rfl K
                  · replace K := K.2 c28
                    refine g_aload_n dX8_readClause_167 rfl 0 rfl ?_
                    refine g_iconst (v := 1) dX8_readClause_168 (by decide) ?_
                    obtain ⟨q34, C35, K⟩ := K
                    refine g_callV (M' := mX8_wrong) (b := a0) (As := [.int 1]) (rest := []) (rc' := rc) (rs' := rs) dX8_readClause_169 bw_1371 bw_1373 bs_45 bw_9 bw_1374 ⟨by decide +kernel, by decide +kernel, show (parseMethodDescriptor mX8_wrong.1.desc).map (fun d => d.parameters.length) = some 1 by decide +kernel⟩ (by decide) (by decide) (Nat.le_of_ble_eq_true rfl) fc_8 (by decide) rfl (kkI e21) C35 (Nat.le_of_eq (Nat.add_zero _)) (Nat.le_of_eq (Nat.add_zero _)) (fun _ _ h => h) ?_
                    rintro _ h36 ⟨rfl, K1⟩ -
                    replace K := K h36 K1
                    show Gm l x mX8_readClause 8 172 [(0, .ref a0), (1, .int x1)] [] h36 rc rs n0 Q X
                    refine g_aload_n dX8_readClause_172 rfl 0 rfl ?_
                    obtain ⟨e37, K⟩ := K
                    refine g_get (c := 8) (k := 18) (v := .int (hI h36 a0 18)) dX8_readClause_173 fc_8 (by decide) (by decide) bw_1216 rfl e37 ?_
                    refine g_if_ne (tgt := 183) dX8_readClause_176 (by decide) (fun c38 => ?_) (fun c38 => ?_)
                    · replace K := K.1 c38
                      refine g_aload_n dX8_readClause_183 rfl 0 rfl ?_
                      refine g_dup dX8_readClause_184 rfl ?_
                      refine g_get (c := 8) (k := 21) (v := .int (hI h36 a0 21)) dX8_readClause_185 fc_8 (by decide) (by decide) bw_1219 rfl e37 ?_
                      refine g_iconst (v := 1) dX8_readClause_188 (by decide) ?_
                      refine g_iadd dX8_readClause_189 ?_
                      refine g_puti (c := 8) (k := 21) dX8_readClause_190 fc_8 (by decide) (by decide) bw_1219 (Or.inl rfl) rfl e37 ?_
                      exact g_vret dX8_readClause_193 rfl K
                    · replace K := K.2 c38
                      refine g_aload_n dX8_readClause_179 rfl 0 rfl ?_
                      obtain ⟨q39, C40, K⟩ := K
                      refine g_callV (M' := mX8_stepOn) (b := a0) (As := []) (rest := []) (rc' := rc) (rs' := rs) dX8_readClause_180 bw_1341 bw_1343 bs_40 bw_9 bw_1344 ⟨by decide +kernel, by decide +kernel, show (parseMethodDescriptor mX8_stepOn.1.desc).map (fun d => d.parameters.length) = some 0 by decide +kernel⟩ (by decide) (by decide) (Nat.le_of_ble_eq_true rfl) fc_8 (by decide) rfl e37 C40 (Nat.le_of_eq (Nat.add_zero _)) (Nat.le_of_eq (Nat.add_zero _)) (fun _ _ h => h) ?_
                      rintro _ h41 ⟨rfl, K1⟩ -
                      replace K := K h41 K1
                      show Gm l x mX8_readClause 8 183 [(0, .ref a0), (1, .int x1)] [] h41 rc rs n0 Q X
                      refine g_aload_n dX8_readClause_183 rfl 0 rfl ?_
                      refine g_dup dX8_readClause_184 rfl ?_
                      obtain ⟨e42, K⟩ := K
                      refine g_get (c := 8) (k := 21) (v := .int (hI h41 a0 21)) dX8_readClause_185 fc_8 (by decide) (by decide) bw_1219 rfl e42 ?_
                      refine g_iconst (v := 1) dX8_readClause_188 (by decide) ?_
                      refine g_iadd dX8_readClause_189 ?_
                      refine g_puti (c := 8) (k := 21) dX8_readClause_190 fc_8 (by decide) (by decide) bw_1219 (Or.inl rfl) rfl e42 ?_
                      exact g_vret dX8_readClause_193 rfl K
              · replace K := K.2 c14
                refine g_aload_n dX8_readClause_135 rfl 0 rfl ?_
                refine g_iconst (v := 0) dX8_readClause_136 (by decide) ?_
                refine g_iconst (v := 2) dX8_readClause_137 (by decide) ?_
                obtain ⟨q43, C44, K⟩ := K
                refine g_callV (M' := mX8_readNumber) (b := a0) (As := [.int 0, .int 2]) (rest := [.int x1, .ref b9]) (rc' := rc) (rs' := rs) dX8_readClause_138 bw_1387 bw_1389 bs_49 bw_9 bw_1390 ⟨by decide +kernel, by decide +kernel, show (parseMethodDescriptor mX8_readNumber.1.desc).map (fun d => d.parameters.length) = some 2 by decide +kernel⟩ (by decide) (by decide) (Nat.le_of_ble_eq_true rfl) fc_8 (by decide) rfl e8 C44 (Nat.le_of_eq (Nat.add_zero _)) (Nat.le_of_eq (Nat.add_zero _)) (fun _ _ h => h) ?_
                rintro _ h45 ⟨r46, rfl, K1⟩ -
                replace K := K r46 h45 K1
                show Gm l x mX8_readClause 8 141 [(0, .ref a0), (1, .int x1)] [.int r46, .int x1, .ref b9] h45 rc rs n0 Q X
                refine g_goto (tgt := 151) dX8_readClause_141 (by decide) ?_
                obtain ⟨e47, e48, K⟩ := K
                refine g_iast dX8_readClause_151 e47 e48 ?_
                refine g_aload_n dX8_readClause_152 rfl 0 rfl ?_
                obtain ⟨e49, K⟩ := K
                refine g_get (c := 8) (k := 18) (v := .int (hI (sI h45 b9 x1.toNatClampNeg r46) a0 18)) dX8_readClause_153 fc_8 (by decide) (by decide) bw_1216 rfl (kkI e49) ?_
                refine g_if_ne (tgt := 172) dX8_readClause_156 (by decide) (fun c50 => ?_) (fun c50 => ?_)
                · replace K := K.1 c50
                  refine g_aload_n dX8_readClause_172 rfl 0 rfl ?_
                  refine g_get (c := 8) (k := 18) (v := .int (hI (sI h45 b9 x1.toNatClampNeg r46) a0 18)) dX8_readClause_173 fc_8 (by decide) (by decide) bw_1216 rfl (kkI e49) ?_
                  refine g_if_ne (tgt := 183) dX8_readClause_176 (by decide) (fun c51 => ?_) (fun c51 => ?_)
                  · replace K := K.1 c51
                    refine g_aload_n dX8_readClause_183 rfl 0 rfl ?_
                    refine g_dup dX8_readClause_184 rfl ?_
                    refine g_get (c := 8) (k := 21) (v := .int (hI (sI h45 b9 x1.toNatClampNeg r46) a0 21)) dX8_readClause_185 fc_8 (by decide) (by decide) bw_1219 rfl (kkI e49) ?_
                    refine g_iconst (v := 1) dX8_readClause_188 (by decide) ?_
                    refine g_iadd dX8_readClause_189 ?_
                    refine g_puti (c := 8) (k := 21) dX8_readClause_190 fc_8 (by decide) (by decide) bw_1219 (Or.inl rfl) rfl (kkI e49) ?_
                    exact g_vret dX8_readClause_193 rfl K
                  · replace K := K.2 c51
                    refine g_aload_n dX8_readClause_179 rfl 0 rfl ?_
                    obtain ⟨q52, C53, K⟩ := K
                    refine g_callV (M' := mX8_stepOn) (b := a0) (As := []) (rest := []) (rc' := rc) (rs' := rs) dX8_readClause_180 bw_1341 bw_1343 bs_40 bw_9 bw_1344 ⟨by decide +kernel, by decide +kernel, show (parseMethodDescriptor mX8_stepOn.1.desc).map (fun d => d.parameters.length) = some 0 by decide +kernel⟩ (by decide) (by decide) (Nat.le_of_ble_eq_true rfl) fc_8 (by decide) rfl (kkI e49) C53 (Nat.le_of_eq (Nat.add_zero _)) (Nat.le_of_eq (Nat.add_zero _)) (fun _ _ h => h) ?_
                    rintro _ h54 ⟨rfl, K1⟩ -
                    replace K := K h54 K1
                    show Gm l x mX8_readClause 8 183 [(0, .ref a0), (1, .int x1)] [] h54 rc rs n0 Q X
                    refine g_aload_n dX8_readClause_183 rfl 0 rfl ?_
                    refine g_dup dX8_readClause_184 rfl ?_
                    obtain ⟨e55, K⟩ := K
                    refine g_get (c := 8) (k := 21) (v := .int (hI h54 a0 21)) dX8_readClause_185 fc_8 (by decide) (by decide) bw_1219 rfl e55 ?_
                    refine g_iconst (v := 1) dX8_readClause_188 (by decide) ?_
                    refine g_iadd dX8_readClause_189 ?_
                    refine g_puti (c := 8) (k := 21) dX8_readClause_190 fc_8 (by decide) (by decide) bw_1219 (Or.inl rfl) rfl e55 ?_
                    exact g_vret dX8_readClause_193 rfl K
                · replace K := K.2 c50
                  refine g_aload_n dX8_readClause_159 rfl 0 rfl ?_
                  refine g_get (c := 8) (k := 14) (v := .int (hI (sI h45 b9 x1.toNatClampNeg r46) a0 14)) dX8_readClause_160 fc_8 (by decide) (by decide) bw_1212 rfl (kkI e49) ?_
                  refine g_iconst (v := 3) dX8_readClause_163 (by decide) ?_
                  refine g_icmp_eq (tgt := 172) dX8_readClause_164 (by decide) (fun c56 => ?_) (fun c56 => ?_)
                  · replace K := K.1 c56
                    refine g_aload_n dX8_readClause_172 rfl 0 rfl ?_
                    refine g_get (c := 8) (k := 18) (v := .int (hI (sI h45 b9 x1.toNatClampNeg r46) a0 18)) dX8_readClause_173 fc_8 (by decide) (by decide) bw_1216 rfl (kkI e49) ?_
                    refine g_if_ne (tgt := 183) dX8_readClause_176 (by decide) (fun c57 => ?_) (fun c57 => ?_)
                    · replace K := K.1 c57
                      refine g_aload_n dX8_readClause_183 rfl 0 rfl ?_
                      refine g_dup dX8_readClause_184 rfl ?_
                      refine g_get (c := 8) (k := 21) (v := .int (hI (sI h45 b9 x1.toNatClampNeg r46) a0 21)) dX8_readClause_185 fc_8 (by decide) (by decide) bw_1219 rfl (kkI e49) ?_
                      refine g_iconst (v := 1) dX8_readClause_188 (by decide) ?_
                      refine g_iadd dX8_readClause_189 ?_
                      refine g_puti (c := 8) (k := 21) dX8_readClause_190 fc_8 (by decide) (by decide) bw_1219 (Or.inl rfl) rfl (kkI e49) ?_
                      exact g_vret dX8_readClause_193 rfl K
                    · replace K := K.2 c57
                      refine g_aload_n dX8_readClause_179 rfl 0 rfl ?_
                      obtain ⟨q58, C59, K⟩ := K
                      refine g_callV (M' := mX8_stepOn) (b := a0) (As := []) (rest := []) (rc' := rc) (rs' := rs) dX8_readClause_180 bw_1341 bw_1343 bs_40 bw_9 bw_1344 ⟨by decide +kernel, by decide +kernel, show (parseMethodDescriptor mX8_stepOn.1.desc).map (fun d => d.parameters.length) = some 0 by decide +kernel⟩ (by decide) (by decide) (Nat.le_of_ble_eq_true rfl) fc_8 (by decide) rfl (kkI e49) C59 (Nat.le_of_eq (Nat.add_zero _)) (Nat.le_of_eq (Nat.add_zero _)) (fun _ _ h => h) ?_
                      rintro _ h60 ⟨rfl, K1⟩ -
                      replace K := K h60 K1
                      show Gm l x mX8_readClause 8 183 [(0, .ref a0), (1, .int x1)] [] h60 rc rs n0 Q X
                      refine g_aload_n dX8_readClause_183 rfl 0 rfl ?_
                      refine g_dup dX8_readClause_184 rfl ?_
                      obtain ⟨e61, K⟩ := K
                      refine g_get (c := 8) (k := 21) (v := .int (hI h60 a0 21)) dX8_readClause_185 fc_8 (by decide) (by decide) bw_1219 rfl e61 ?_
                      refine g_iconst (v := 1) dX8_readClause_188 (by decide) ?_
                      refine g_iadd dX8_readClause_189 ?_
                      refine g_puti (c := 8) (k := 21) dX8_readClause_190 fc_8 (by decide) (by decide) bw_1219 (Or.inl rfl) rfl e61 ?_
                      exact g_vret dX8_readClause_193 rfl K
                  · replace K := K.2 c56
                    refine g_aload_n dX8_readClause_167 rfl 0 rfl ?_
                    refine g_iconst (v := 1) dX8_readClause_168 (by decide) ?_
                    obtain ⟨q62, C63, K⟩ := K
                    refine g_callV (M' := mX8_wrong) (b := a0) (As := [.int 1]) (rest := []) (rc' := rc) (rs' := rs) dX8_readClause_169 bw_1371 bw_1373 bs_45 bw_9 bw_1374 ⟨by decide +kernel, by decide +kernel, show (parseMethodDescriptor mX8_wrong.1.desc).map (fun d => d.parameters.length) = some 1 by decide +kernel⟩ (by decide) (by decide) (Nat.le_of_ble_eq_true rfl) fc_8 (by decide) rfl (kkI e49) C63 (Nat.le_of_eq (Nat.add_zero _)) (Nat.le_of_eq (Nat.add_zero _)) (fun _ _ h => h) ?_
                    rintro _ h64 ⟨rfl, K1⟩ -
                    replace K := K h64 K1
                    show Gm l x mX8_readClause 8 172 [(0, .ref a0), (1, .int x1)] [] h64 rc rs n0 Q X
                    refine g_aload_n dX8_readClause_172 rfl 0 rfl ?_
                    obtain ⟨e65, K⟩ := K
                    refine g_get (c := 8) (k := 18) (v := .int (hI h64 a0 18)) dX8_readClause_173 fc_8 (by decide) (by decide) bw_1216 rfl e65 ?_
                    refine g_if_ne (tgt := 183) dX8_readClause_176 (by decide) (fun c66 => ?_) (fun c66 => ?_)
                    · replace K := K.1 c66
                      refine g_aload_n dX8_readClause_183 rfl 0 rfl ?_
                      refine g_dup dX8_readClause_184 rfl ?_
                      refine g_get (c := 8) (k := 21) (v := .int (hI h64 a0 21)) dX8_readClause_185 fc_8 (by decide) (by decide) bw_1219 rfl e65 ?_
                      refine g_iconst (v := 1) dX8_readClause_188 (by decide) ?_
                      refine g_iadd dX8_readClause_189 ?_
                      refine g_puti (c := 8) (k := 21) dX8_readClause_190 fc_8 (by decide) (by decide) bw_1219 (Or.inl rfl) rfl e65 ?_
                      exact g_vret dX8_readClause_193 rfl K
                    · replace K := K.2 c66
                      refine g_aload_n dX8_readClause_179 rfl 0 rfl ?_
                      obtain ⟨q67, C68, K⟩ := K
                      refine g_callV (M' := mX8_stepOn) (b := a0) (As := []) (rest := []) (rc' := rc) (rs' := rs) dX8_readClause_180 bw_1341 bw_1343 bs_40 bw_9 bw_1344 ⟨by decide +kernel, by decide +kernel, show (parseMethodDescriptor mX8_stepOn.1.desc).map (fun d => d.parameters.length) = some 0 by decide +kernel⟩ (by decide) (by decide) (Nat.le_of_ble_eq_true rfl) fc_8 (by decide) rfl e65 C68 (Nat.le_of_eq (Nat.add_zero _)) (Nat.le_of_eq (Nat.add_zero _)) (fun _ _ h => h) ?_
                      rintro _ h69 ⟨rfl, K1⟩ -
                      replace K := K h69 K1
                      show Gm l x mX8_readClause 8 183 [(0, .ref a0), (1, .int x1)] [] h69 rc rs n0 Q X
                      refine g_aload_n dX8_readClause_183 rfl 0 rfl ?_
                      refine g_dup dX8_readClause_184 rfl ?_
                      obtain ⟨e70, K⟩ := K
                      refine g_get (c := 8) (k := 21) (v := .int (hI h69 a0 21)) dX8_readClause_185 fc_8 (by decide) (by decide) bw_1219 rfl e70 ?_
                      refine g_iconst (v := 1) dX8_readClause_188 (by decide) ?_
                      refine g_iadd dX8_readClause_189 ?_
                      refine g_puti (c := 8) (k := 21) dX8_readClause_190 fc_8 (by decide) (by decide) bw_1219 (Or.inl rfl) rfl e70 ?_
                      exact g_vret dX8_readClause_193 rfl K
            · replace K := K.2 c13
              refine g_aload_n dX8_readClause_120 rfl 0 rfl ?_
              refine g_iconst (v := 0) dX8_readClause_121 (by decide) ?_
              refine g_bipush (v := 11) dX8_readClause_122 (by decide) ?_
              obtain ⟨q71, C72, K⟩ := K
              refine g_callV (M' := mX8_readNumber) (b := a0) (As := [.int 0, .int 11]) (rest := [.int x1, .ref b9]) (rc' := rc) (rs' := rs) dX8_readClause_124 bw_1387 bw_1389 bs_49 bw_9 bw_1390 ⟨by decide +kernel, by decide +kernel, show (parseMethodDescriptor mX8_readNumber.1.desc).map (fun d => d.parameters.length) = some 2 by decide +kernel⟩ (by decide) (by decide) (Nat.le_of_ble_eq_true rfl) fc_8 (by decide) rfl e8 C72 (Nat.le_of_eq (Nat.add_zero _)) (Nat.le_of_eq (Nat.add_zero _)) (fun _ _ h => h) ?_
              rintro _ h73 ⟨r74, rfl, K1⟩ -
              replace K := K r74 h73 K1
              show Gm l x mX8_readClause 8 127 [(0, .ref a0), (1, .int x1)] [.int r74, .int x1, .ref b9] h73 rc rs n0 Q X
              refine g_goto (tgt := 151) dX8_readClause_127 (by decide) ?_
              obtain ⟨e75, e76, K⟩ := K
              refine g_iast dX8_readClause_151 e75 e76 ?_
              refine g_aload_n dX8_readClause_152 rfl 0 rfl ?_
              obtain ⟨e77, K⟩ := K
              refine g_get (c := 8) (k := 18) (v := .int (hI (sI h73 b9 x1.toNatClampNeg r74) a0 18)) dX8_readClause_153 fc_8 (by decide) (by decide) bw_1216 rfl (kkI e77) ?_
              refine g_if_ne (tgt := 172) dX8_readClause_156 (by decide) (fun c78 => ?_) (fun c78 => ?_)
              · replace K := K.1 c78
                refine g_aload_n dX8_readClause_172 rfl 0 rfl ?_
                refine g_get (c := 8) (k := 18) (v := .int (hI (sI h73 b9 x1.toNatClampNeg r74) a0 18)) dX8_readClause_173 fc_8 (by decide) (by decide) bw_1216 rfl (kkI e77) ?_
                refine g_if_ne (tgt := 183) dX8_readClause_176 (by decide) (fun c79 => ?_) (fun c79 => ?_)
                · replace K := K.1 c79
                  refine g_aload_n dX8_readClause_183 rfl 0 rfl ?_
                  refine g_dup dX8_readClause_184 rfl ?_
                  refine g_get (c := 8) (k := 21) (v := .int (hI (sI h73 b9 x1.toNatClampNeg r74) a0 21)) dX8_readClause_185 fc_8 (by decide) (by decide) bw_1219 rfl (kkI e77) ?_
                  refine g_iconst (v := 1) dX8_readClause_188 (by decide) ?_
                  refine g_iadd dX8_readClause_189 ?_
                  refine g_puti (c := 8) (k := 21) dX8_readClause_190 fc_8 (by decide) (by decide) bw_1219 (Or.inl rfl) rfl (kkI e77) ?_
                  exact g_vret dX8_readClause_193 rfl K
                · replace K := K.2 c79
                  refine g_aload_n dX8_readClause_179 rfl 0 rfl ?_
                  obtain ⟨q80, C81, K⟩ := K
                  refine g_callV (M' := mX8_stepOn) (b := a0) (As := []) (rest := []) (rc' := rc) (rs' := rs) dX8_readClause_180 bw_1341 bw_1343 bs_40 bw_9 bw_1344 ⟨by decide +kernel, by decide +kernel, show (parseMethodDescriptor mX8_stepOn.1.desc).map (fun d => d.parameters.length) = some 0 by decide +kernel⟩ (by decide) (by decide) (Nat.le_of_ble_eq_true rfl) fc_8 (by decide) rfl (kkI e77) C81 (Nat.le_of_eq (Nat.add_zero _)) (Nat.le_of_eq (Nat.add_zero _)) (fun _ _ h => h) ?_
                  rintro _ h82 ⟨rfl, K1⟩ -
                  replace K := K h82 K1
                  show Gm l x mX8_readClause 8 183 [(0, .ref a0), (1, .int x1)] [] h82 rc rs n0 Q X
                  refine g_aload_n dX8_readClause_183 rfl 0 rfl ?_
                  refine g_dup dX8_readClause_184 rfl ?_
                  obtain ⟨e83, K⟩ := K
                  refine g_get (c := 8) (k := 21) (v := .int (hI h82 a0 21)) dX8_readClause_185 fc_8 (by decide) (by decide) bw_1219 rfl e83 ?_
                  refine g_iconst (v := 1) dX8_readClause_188 (by decide) ?_
                  refine g_iadd dX8_readClause_189 ?_
                  refine g_puti (c := 8) (k := 21) dX8_readClause_190 fc_8 (by decide) (by decide) bw_1219 (Or.inl rfl) rfl e83 ?_
                  exact g_vret dX8_readClause_193 rfl K
              · replace K := K.2 c78
                refine g_aload_n dX8_readClause_159 rfl 0 rfl ?_
                refine g_get (c := 8) (k := 14) (v := .int (hI (sI h73 b9 x1.toNatClampNeg r74) a0 14)) dX8_readClause_160 fc_8 (by decide) (by decide) bw_1212 rfl (kkI e77) ?_
                refine g_iconst (v := 3) dX8_readClause_163 (by decide) ?_
                refine g_icmp_eq (tgt := 172) dX8_readClause_164 (by decide) (fun c84 => ?_) (fun c84 => ?_)
                · replace K := K.1 c84
                  refine g_aload_n dX8_readClause_172 rfl 0 rfl ?_
                  refine g_get (c := 8) (k := 18) (v := .int (hI (sI h73 b9 x1.toNatClampNeg r74) a0 18)) dX8_readClause_173 fc_8 (by decide) (by decide) bw_1216 rfl (kkI e77) ?_
                  refine g_if_ne (tgt := 183) dX8_readClause_176 (by decide) (fun c85 => ?_) (fun c85 => ?_)
                  · replace K := K.1 c85
                    refine g_aload_n dX8_readClause_183 rfl 0 rfl ?_
                    refine g_dup dX8_readClause_184 rfl ?_
                    refine g_get (c := 8) (k := 21) (v := .int (hI (sI h73 b9 x1.toNatClampNeg r74) a0 21)) dX8_readClause_185 fc_8 (by decide) (by decide) bw_1219 rfl (kkI e77) ?_
                    refine g_iconst (v := 1) dX8_readClause_188 (by decide) ?_
                    refine g_iadd dX8_readClause_189 ?_
                    refine g_puti (c := 8) (k := 21) dX8_readClause_190 fc_8 (by decide) (by decide) bw_1219 (Or.inl rfl) rfl (kkI e77) ?_
                    exact g_vret dX8_readClause_193 rfl K
                  · replace K := K.2 c85
                    refine g_aload_n dX8_readClause_179 rfl 0 rfl ?_
                    obtain ⟨q86, C87, K⟩ := K
                    refine g_callV (M' := mX8_stepOn) (b := a0) (As := []) (rest := []) (rc' := rc) (rs' := rs) dX8_readClause_180 bw_1341 bw_1343 bs_40 bw_9 bw_1344 ⟨by decide +kernel, by decide +kernel, show (parseMethodDescriptor mX8_stepOn.1.desc).map (fun d => d.parameters.length) = some 0 by decide +kernel⟩ (by decide) (by decide) (Nat.le_of_ble_eq_true rfl) fc_8 (by decide) rfl (kkI e77) C87 (Nat.le_of_eq (Nat.add_zero _)) (Nat.le_of_eq (Nat.add_zero _)) (fun _ _ h => h) ?_
                    rintro _ h88 ⟨rfl, K1⟩ -
                    replace K := K h88 K1
                    show Gm l x mX8_readClause 8 183 [(0, .ref a0), (1, .int x1)] [] h88 rc rs n0 Q X
                    refine g_aload_n dX8_readClause_183 rfl 0 rfl ?_
                    refine g_dup dX8_readClause_184 rfl ?_
                    obtain ⟨e89, K⟩ := K
                    refine g_get (c := 8) (k := 21) (v := .int (hI h88 a0 21)) dX8_readClause_185 fc_8 (by decide) (by decide) bw_1219 rfl e89 ?_
                    refine g_iconst (v := 1) dX8_readClause_188 (by decide) ?_
                    refine g_iadd dX8_readClause_189 ?_
                    refine g_puti (c := 8) (k := 21) dX8_readClause_190 fc_8 (by decide) (by decide) bw_1219 (Or.inl rfl) rfl e89 ?_
                    exact g_vret dX8_readClause_193 rfl K
                · replace K := K.2 c84
                  refine g_aload_n dX8_readClause_167 rfl 0 rfl ?_
                  refine g_iconst (v := 1) dX8_readClause_168 (by decide) ?_
                  obtain ⟨q90, C91, K⟩ := K
                  refine g_callV (M' := mX8_wrong) (b := a0) (As := [.int 1]) (rest := []) (rc' := rc) (rs' := rs) dX8_readClause_169 bw_1371 bw_1373 bs_45 bw_9 bw_1374 ⟨by decide +kernel, by decide +kernel, show (parseMethodDescriptor mX8_wrong.1.desc).map (fun d => d.parameters.length) = some 1 by decide +kernel⟩ (by decide) (by decide) (Nat.le_of_ble_eq_true rfl) fc_8 (by decide) rfl (kkI e77) C91 (Nat.le_of_eq (Nat.add_zero _)) (Nat.le_of_eq (Nat.add_zero _)) (fun _ _ h => h) ?_
                  rintro _ h92 ⟨rfl, K1⟩ -
                  replace K := K h92 K1
                  show Gm l x mX8_readClause 8 172 [(0, .ref a0), (1, .int x1)] [] h92 rc rs n0 Q X
                  refine g_aload_n dX8_readClause_172 rfl 0 rfl ?_
                  obtain ⟨e93, K⟩ := K
                  refine g_get (c := 8) (k := 18) (v := .int (hI h92 a0 18)) dX8_readClause_173 fc_8 (by decide) (by decide) bw_1216 rfl e93 ?_
                  refine g_if_ne (tgt := 183) dX8_readClause_176 (by decide) (fun c94 => ?_) (fun c94 => ?_)
                  · replace K := K.1 c94
                    refine g_aload_n dX8_readClause_183 rfl 0 rfl ?_
                    refine g_dup dX8_readClause_184 rfl ?_
                    refine g_get (c := 8) (k := 21) (v := .int (hI h92 a0 21)) dX8_readClause_185 fc_8 (by decide) (by decide) bw_1219 rfl e93 ?_
                    refine g_iconst (v := 1) dX8_readClause_188 (by decide) ?_
                    refine g_iadd dX8_readClause_189 ?_
                    refine g_puti (c := 8) (k := 21) dX8_readClause_190 fc_8 (by decide) (by decide) bw_1219 (Or.inl rfl) rfl e93 ?_
                    exact g_vret dX8_readClause_193 rfl K
                  · replace K := K.2 c94
                    refine g_aload_n dX8_readClause_179 rfl 0 rfl ?_
                    obtain ⟨q95, C96, K⟩ := K
                    refine g_callV (M' := mX8_stepOn) (b := a0) (As := []) (rest := []) (rc' := rc) (rs' := rs) dX8_readClause_180 bw_1341 bw_1343 bs_40 bw_9 bw_1344 ⟨by decide +kernel, by decide +kernel, show (parseMethodDescriptor mX8_stepOn.1.desc).map (fun d => d.parameters.length) = some 0 by decide +kernel⟩ (by decide) (by decide) (Nat.le_of_ble_eq_true rfl) fc_8 (by decide) rfl e93 C96 (Nat.le_of_eq (Nat.add_zero _)) (Nat.le_of_eq (Nat.add_zero _)) (fun _ _ h => h) ?_
                    rintro _ h97 ⟨rfl, K1⟩ -
                    replace K := K h97 K1
                    show Gm l x mX8_readClause 8 183 [(0, .ref a0), (1, .int x1)] [] h97 rc rs n0 Q X
                    refine g_aload_n dX8_readClause_183 rfl 0 rfl ?_
                    refine g_dup dX8_readClause_184 rfl ?_
                    obtain ⟨e98, K⟩ := K
                    refine g_get (c := 8) (k := 21) (v := .int (hI h97 a0 21)) dX8_readClause_185 fc_8 (by decide) (by decide) bw_1219 rfl e98 ?_
                    refine g_iconst (v := 1) dX8_readClause_188 (by decide) ?_
                    refine g_iadd dX8_readClause_189 ?_
                    refine g_puti (c := 8) (k := 21) dX8_readClause_190 fc_8 (by decide) (by decide) bw_1219 (Or.inl rfl) rfl e98 ?_
                    exact g_vret dX8_readClause_193 rfl K
          · replace K := K.2 c12
            refine g_aload_n dX8_readClause_106 rfl 0 rfl ?_
            refine g_iconst (v := 1) dX8_readClause_107 (by decide) ?_
            refine g_iconst (v := 4) dX8_readClause_108 (by decide) ?_
            obtain ⟨q99, C100, K⟩ := K
            refine g_callV (M' := mX8_readNumber) (b := a0) (As := [.int 1, .int 4]) (rest := [.int x1, .ref b9]) (rc' := rc) (rs' := rs) dX8_readClause_109 bw_1387 bw_1389 bs_49 bw_9 bw_1390 ⟨by decide +kernel, by decide +kernel, show (parseMethodDescriptor mX8_readNumber.1.desc).map (fun d => d.parameters.length) = some 2 by decide +kernel⟩ (by decide) (by decide) (Nat.le_of_ble_eq_true rfl) fc_8 (by decide) rfl e8 C100 (Nat.le_of_eq (Nat.add_zero _)) (Nat.le_of_eq (Nat.add_zero _)) (fun _ _ h => h) ?_
            rintro _ h101 ⟨r102, rfl, K1⟩ -
            replace K := K r102 h101 K1
            show Gm l x mX8_readClause 8 112 [(0, .ref a0), (1, .int x1)] [.int r102, .int x1, .ref b9] h101 rc rs n0 Q X
            refine g_goto (tgt := 151) dX8_readClause_112 (by decide) ?_
            obtain ⟨e103, e104, K⟩ := K
            refine g_iast dX8_readClause_151 e103 e104 ?_
            refine g_aload_n dX8_readClause_152 rfl 0 rfl ?_
            obtain ⟨e105, K⟩ := K
            refine g_get (c := 8) (k := 18) (v := .int (hI (sI h101 b9 x1.toNatClampNeg r102) a0 18)) dX8_readClause_153 fc_8 (by decide) (by decide) bw_1216 rfl (kkI e105) ?_
            refine g_if_ne (tgt := 172) dX8_readClause_156 (by decide) (fun c106 => ?_) (fun c106 => ?_)
            · replace K := K.1 c106
              refine g_aload_n dX8_readClause_172 rfl 0 rfl ?_
              refine g_get (c := 8) (k := 18) (v := .int (hI (sI h101 b9 x1.toNatClampNeg r102) a0 18)) dX8_readClause_173 fc_8 (by decide) (by decide) bw_1216 rfl (kkI e105) ?_
              refine g_if_ne (tgt := 183) dX8_readClause_176 (by decide) (fun c107 => ?_) (fun c107 => ?_)
              · replace K := K.1 c107
                refine g_aload_n dX8_readClause_183 rfl 0 rfl ?_
                refine g_dup dX8_readClause_184 rfl ?_
                refine g_get (c := 8) (k := 21) (v := .int (hI (sI h101 b9 x1.toNatClampNeg r102) a0 21)) dX8_readClause_185 fc_8 (by decide) (by decide) bw_1219 rfl (kkI e105) ?_
                refine g_iconst (v := 1) dX8_readClause_188 (by decide) ?_
                refine g_iadd dX8_readClause_189 ?_
                refine g_puti (c := 8) (k := 21) dX8_readClause_190 fc_8 (by decide) (by decide) bw_1219 (Or.inl rfl) rfl (kkI e105) ?_
                exact g_vret dX8_readClause_193 rfl K
              · replace K := K.2 c107
                refine g_aload_n dX8_readClause_179 rfl 0 rfl ?_
                obtain ⟨q108, C109, K⟩ := K
                refine g_callV (M' := mX8_stepOn) (b := a0) (As := []) (rest := []) (rc' := rc) (rs' := rs) dX8_readClause_180 bw_1341 bw_1343 bs_40 bw_9 bw_1344 ⟨by decide +kernel, by decide +kernel, show (parseMethodDescriptor mX8_stepOn.1.desc).map (fun d => d.parameters.length) = some 0 by decide +kernel⟩ (by decide) (by decide) (Nat.le_of_ble_eq_true rfl) fc_8 (by decide) rfl (kkI e105) C109 (Nat.le_of_eq (Nat.add_zero _)) (Nat.le_of_eq (Nat.add_zero _)) (fun _ _ h => h) ?_
                rintro _ h110 ⟨rfl, K1⟩ -
                replace K := K h110 K1
                show Gm l x mX8_readClause 8 183 [(0, .ref a0), (1, .int x1)] [] h110 rc rs n0 Q X
                refine g_aload_n dX8_readClause_183 rfl 0 rfl ?_
                refine g_dup dX8_readClause_184 rfl ?_
                obtain ⟨e111, K⟩ := K
                refine g_get (c := 8) (k := 21) (v := .int (hI h110 a0 21)) dX8_readClause_185 fc_8 (by decide) (by decide) bw_1219 rfl e111 ?_
                refine g_iconst (v := 1) dX8_readClause_188 (by decide) ?_
                refine g_iadd dX8_readClause_189 ?_
                refine g_puti (c := 8) (k := 21) dX8_readClause_190 fc_8 (by decide) (by decide) bw_1219 (Or.inl rfl) rfl e111 ?_
                exact g_vret dX8_readClause_193 rfl K
            · replace K := K.2 c106
              refine g_aload_n dX8_readClause_159 rfl 0 rfl ?_
              refine g_get (c := 8) (k := 14) (v := .int (hI (sI h101 b9 x1.toNatClampNeg r102) a0 14)) dX8_readClause_160 fc_8 (by decide) (by decide) bw_1212 rfl (kkI e105) ?_
              refine g_iconst (v := 3) dX8_readClause_163 (by decide) ?_
              refine g_icmp_eq (tgt := 172) dX8_readClause_164 (by decide) (fun c112 => ?_) (fun c112 => ?_)
              · replace K := K.1 c112
                refine g_aload_n dX8_readClause_172 rfl 0 rfl ?_
                refine g_get (c := 8) (k := 18) (v := .int (hI (sI h101 b9 x1.toNatClampNeg r102) a0 18)) dX8_readClause_173 fc_8 (by decide) (by decide) bw_1216 rfl (kkI e105) ?_
                refine g_if_ne (tgt := 183) dX8_readClause_176 (by decide) (fun c113 => ?_) (fun c113 => ?_)
                · replace K := K.1 c113
                  refine g_aload_n dX8_readClause_183 rfl 0 rfl ?_
                  refine g_dup dX8_readClause_184 rfl ?_
                  refine g_get (c := 8) (k := 21) (v := .int (hI (sI h101 b9 x1.toNatClampNeg r102) a0 21)) dX8_readClause_185 fc_8 (by decide) (by decide) bw_1219 rfl (kkI e105) ?_
                  refine g_iconst (v := 1) dX8_readClause_188 (by decide) ?_
                  refine g_iadd dX8_readClause_189 ?_
                  refine g_puti (c := 8) (k := 21) dX8_readClause_190 fc_8 (by decide) (by decide) bw_1219 (Or.inl rfl) rfl (kkI e105) ?_
                  exact g_vret dX8_readClause_193 rfl K
                · replace K := K.2 c113
                  refine g_aload_n dX8_readClause_179 rfl 0 rfl ?_
                  obtain ⟨q114, C115, K⟩ := K
                  refine g_callV (M' := mX8_stepOn) (b := a0) (As := []) (rest := []) (rc' := rc) (rs' := rs) dX8_readClause_180 bw_1341 bw_1343 bs_40 bw_9 bw_1344 ⟨by decide +kernel, by decide +kernel, show (parseMethodDescriptor mX8_stepOn.1.desc).map (fun d => d.parameters.length) = some 0 by decide +kernel⟩ (by decide) (by decide) (Nat.le_of_ble_eq_true rfl) fc_8 (by decide) rfl (kkI e105) C115 (Nat.le_of_eq (Nat.add_zero _)) (Nat.le_of_eq (Nat.add_zero _)) (fun _ _ h => h) ?_
                  rintro _ h116 ⟨rfl, K1⟩ -
                  replace K := K h116 K1
                  show Gm l x mX8_readClause 8 183 [(0, .ref a0), (1, .int x1)] [] h116 rc rs n0 Q X
                  refine g_aload_n dX8_readClause_183 rfl 0 rfl ?_
                  refine g_dup dX8_readClause_184 rfl ?_
                  obtain ⟨e117, K⟩ := K
                  refine g_get (c := 8) (k := 21) (v := .int (hI h116 a0 21)) dX8_readClause_185 fc_8 (by decide) (by decide) bw_1219 rfl e117 ?_
                  refine g_iconst (v := 1) dX8_readClause_188 (by decide) ?_
                  refine g_iadd dX8_readClause_189 ?_
                  refine g_puti (c := 8) (k := 21) dX8_readClause_190 fc_8 (by decide) (by decide) bw_1219 (Or.inl rfl) rfl e117 ?_
                  exact g_vret dX8_readClause_193 rfl K
              · replace K := K.2 c112
                refine g_aload_n dX8_readClause_167 rfl 0 rfl ?_
                refine g_iconst (v := 1) dX8_readClause_168 (by decide) ?_
                obtain ⟨q118, C119, K⟩ := K
                refine g_callV (M' := mX8_wrong) (b := a0) (As := [.int 1]) (rest := []) (rc' := rc) (rs' := rs) dX8_readClause_169 bw_1371 bw_1373 bs_45 bw_9 bw_1374 ⟨by decide +kernel, by decide +kernel, show (parseMethodDescriptor mX8_wrong.1.desc).map (fun d => d.parameters.length) = some 1 by decide +kernel⟩ (by decide) (by decide) (Nat.le_of_ble_eq_true rfl) fc_8 (by decide) rfl (kkI e105) C119 (Nat.le_of_eq (Nat.add_zero _)) (Nat.le_of_eq (Nat.add_zero _)) (fun _ _ h => h) ?_
                rintro _ h120 ⟨rfl, K1⟩ -
                replace K := K h120 K1
                show Gm l x mX8_readClause 8 172 [(0, .ref a0), (1, .int x1)] [] h120 rc rs n0 Q X
                refine g_aload_n dX8_readClause_172 rfl 0 rfl ?_
                obtain ⟨e121, K⟩ := K
                refine g_get (c := 8) (k := 18) (v := .int (hI h120 a0 18)) dX8_readClause_173 fc_8 (by decide) (by decide) bw_1216 rfl e121 ?_
                refine g_if_ne (tgt := 183) dX8_readClause_176 (by decide) (fun c122 => ?_) (fun c122 => ?_)
                · replace K := K.1 c122
                  refine g_aload_n dX8_readClause_183 rfl 0 rfl ?_
                  refine g_dup dX8_readClause_184 rfl ?_
                  refine g_get (c := 8) (k := 21) (v := .int (hI h120 a0 21)) dX8_readClause_185 fc_8 (by decide) (by decide) bw_1219 rfl e121 ?_
                  refine g_iconst (v := 1) dX8_readClause_188 (by decide) ?_
                  refine g_iadd dX8_readClause_189 ?_
                  refine g_puti (c := 8) (k := 21) dX8_readClause_190 fc_8 (by decide) (by decide) bw_1219 (Or.inl rfl) rfl e121 ?_
                  exact g_vret dX8_readClause_193 rfl K
                · replace K := K.2 c122
                  refine g_aload_n dX8_readClause_179 rfl 0 rfl ?_
                  obtain ⟨q123, C124, K⟩ := K
                  refine g_callV (M' := mX8_stepOn) (b := a0) (As := []) (rest := []) (rc' := rc) (rs' := rs) dX8_readClause_180 bw_1341 bw_1343 bs_40 bw_9 bw_1344 ⟨by decide +kernel, by decide +kernel, show (parseMethodDescriptor mX8_stepOn.1.desc).map (fun d => d.parameters.length) = some 0 by decide +kernel⟩ (by decide) (by decide) (Nat.le_of_ble_eq_true rfl) fc_8 (by decide) rfl e121 C124 (Nat.le_of_eq (Nat.add_zero _)) (Nat.le_of_eq (Nat.add_zero _)) (fun _ _ h => h) ?_
                  rintro _ h125 ⟨rfl, K1⟩ -
                  replace K := K h125 K1
                  show Gm l x mX8_readClause 8 183 [(0, .ref a0), (1, .int x1)] [] h125 rc rs n0 Q X
                  refine g_aload_n dX8_readClause_183 rfl 0 rfl ?_
                  refine g_dup dX8_readClause_184 rfl ?_
                  obtain ⟨e126, K⟩ := K
                  refine g_get (c := 8) (k := 21) (v := .int (hI h125 a0 21)) dX8_readClause_185 fc_8 (by decide) (by decide) bw_1219 rfl e126 ?_
                  refine g_iconst (v := 1) dX8_readClause_188 (by decide) ?_
                  refine g_iadd dX8_readClause_189 ?_
                  refine g_puti (c := 8) (k := 21) dX8_readClause_190 fc_8 (by decide) (by decide) bw_1219 (Or.inl rfl) rfl e126 ?_
                  exact g_vret dX8_readClause_193 rfl K
        · replace K := K.2 c11
          refine g_aload_n dX8_readClause_91 rfl 0 rfl ?_
          refine g_iconst (v := 2) dX8_readClause_92 (by decide) ?_
          refine g_bipush (v := 12) dX8_readClause_93 (by decide) ?_
          obtain ⟨q127, C128, K⟩ := K
          refine g_callV (M' := mX8_readNumber) (b := a0) (As := [.int 2, .int 12]) (rest := [.int x1, .ref b9]) (rc' := rc) (rs' := rs) dX8_readClause_95 bw_1387 bw_1389 bs_49 bw_9 bw_1390 ⟨by decide +kernel, by decide +kernel, show (parseMethodDescriptor mX8_readNumber.1.desc).map (fun d => d.parameters.length) = some 2 by decide +kernel⟩ (by decide) (by decide) (Nat.le_of_ble_eq_true rfl) fc_8 (by decide) rfl e8 C128 (Nat.le_of_eq (Nat.add_zero _)) (Nat.le_of_eq (Nat.add_zero _)) (fun _ _ h => h) ?_
          rintro _ h129 ⟨r130, rfl, K1⟩ -
          replace K := K r130 h129 K1
          show Gm l x mX8_readClause 8 98 [(0, .ref a0), (1, .int x1)] [.int r130, .int x1, .ref b9] h129 rc rs n0 Q X
          refine g_goto (tgt := 151) dX8_readClause_98 (by decide) ?_
          obtain ⟨e131, e132, K⟩ := K
          refine g_iast dX8_readClause_151 e131 e132 ?_
          refine g_aload_n dX8_readClause_152 rfl 0 rfl ?_
          obtain ⟨e133, K⟩ := K
          refine g_get (c := 8) (k := 18) (v := .int (hI (sI h129 b9 x1.toNatClampNeg r130) a0 18)) dX8_readClause_153 fc_8 (by decide) (by decide) bw_1216 rfl (kkI e133) ?_
          refine g_if_ne (tgt := 172) dX8_readClause_156 (by decide) (fun c134 => ?_) (fun c134 => ?_)
          · replace K := K.1 c134
            refine g_aload_n dX8_readClause_172 rfl 0 rfl ?_
            refine g_get (c := 8) (k := 18) (v := .int (hI (sI h129 b9 x1.toNatClampNeg r130) a0 18)) dX8_readClause_173 fc_8 (by decide) (by decide) bw_1216 rfl (kkI e133) ?_
            refine g_if_ne (tgt := 183) dX8_readClause_176 (by decide) (fun c135 => ?_) (fun c135 => ?_)
            · replace K := K.1 c135
              refine g_aload_n dX8_readClause_183 rfl 0 rfl ?_
              refine g_dup dX8_readClause_184 rfl ?_
              refine g_get (c := 8) (k := 21) (v := .int (hI (sI h129 b9 x1.toNatClampNeg r130) a0 21)) dX8_readClause_185 fc_8 (by decide) (by decide) bw_1219 rfl (kkI e133) ?_
              refine g_iconst (v := 1) dX8_readClause_188 (by decide) ?_
              refine g_iadd dX8_readClause_189 ?_
              refine g_puti (c := 8) (k := 21) dX8_readClause_190 fc_8 (by decide) (by decide) bw_1219 (Or.inl rfl) rfl (kkI e133) ?_
              exact g_vret dX8_readClause_193 rfl K
            · replace K := K.2 c135
              refine g_aload_n dX8_readClause_179 rfl 0 rfl ?_
              obtain ⟨q136, C137, K⟩ := K
              refine g_callV (M' := mX8_stepOn) (b := a0) (As := []) (rest := []) (rc' := rc) (rs' := rs) dX8_readClause_180 bw_1341 bw_1343 bs_40 bw_9 bw_1344 ⟨by decide +kernel, by decide +kernel, show (parseMethodDescriptor mX8_stepOn.1.desc).map (fun d => d.parameters.length) = some 0 by decide +kernel⟩ (by decide) (by decide) (Nat.le_of_ble_eq_true rfl) fc_8 (by decide) rfl (kkI e133) C137 (Nat.le_of_eq (Nat.add_zero _)) (Nat.le_of_eq (Nat.add_zero _)) (fun _ _ h => h) ?_
              rintro _ h138 ⟨rfl, K1⟩ -
              replace K := K h138 K1
              show Gm l x mX8_readClause 8 183 [(0, .ref a0), (1, .int x1)] [] h138 rc rs n0 Q X
              refine g_aload_n dX8_readClause_183 rfl 0 rfl ?_
              refine g_dup dX8_readClause_184 rfl ?_
              obtain ⟨e139, K⟩ := K
              refine g_get (c := 8) (k := 21) (v := .int (hI h138 a0 21)) dX8_readClause_185 fc_8 (by decide) (by decide) bw_1219 rfl e139 ?_
              refine g_iconst (v := 1) dX8_readClause_188 (by decide) ?_
              refine g_iadd dX8_readClause_189 ?_
              refine g_puti (c := 8) (k := 21) dX8_readClause_190 fc_8 (by decide) (by decide) bw_1219 (Or.inl rfl) rfl e139 ?_
              exact g_vret dX8_readClause_193 rfl K
          · replace K := K.2 c134
            refine g_aload_n dX8_readClause_159 rfl 0 rfl ?_
            refine g_get (c := 8) (k := 14) (v := .int (hI (sI h129 b9 x1.toNatClampNeg r130) a0 14)) dX8_readClause_160 fc_8 (by decide) (by decide) bw_1212 rfl (kkI e133) ?_
            refine g_iconst (v := 3) dX8_readClause_163 (by decide) ?_
            refine g_icmp_eq (tgt := 172) dX8_readClause_164 (by decide) (fun c140 => ?_) (fun c140 => ?_)
            · replace K := K.1 c140
              refine g_aload_n dX8_readClause_172 rfl 0 rfl ?_
              refine g_get (c := 8) (k := 18) (v := .int (hI (sI h129 b9 x1.toNatClampNeg r130) a0 18)) dX8_readClause_173 fc_8 (by decide) (by decide) bw_1216 rfl (kkI e133) ?_
              refine g_if_ne (tgt := 183) dX8_readClause_176 (by decide) (fun c141 => ?_) (fun c141 => ?_)
              · replace K := K.1 c141
                refine g_aload_n dX8_readClause_183 rfl 0 rfl ?_
                refine g_dup dX8_readClause_184 rfl ?_
                refine g_get (c := 8) (k := 21) (v := .int (hI (sI h129 b9 x1.toNatClampNeg r130) a0 21)) dX8_readClause_185 fc_8 (by decide) (by decide) bw_1219 rfl (kkI e133) ?_
                refine g_iconst (v := 1) dX8_readClause_188 (by decide) ?_
                refine g_iadd dX8_readClause_189 ?_
                refine g_puti (c := 8) (k := 21) dX8_readClause_190 fc_8 (by decide) (by decide) bw_1219 (Or.inl rfl) rfl (kkI e133) ?_
                exact g_vret dX8_readClause_193 rfl K
              · replace K := K.2 c141
                refine g_aload_n dX8_readClause_179 rfl 0 rfl ?_
                obtain ⟨q142, C143, K⟩ := K
                refine g_callV (M' := mX8_stepOn) (b := a0) (As := []) (rest := []) (rc' := rc) (rs' := rs) dX8_readClause_180 bw_1341 bw_1343 bs_40 bw_9 bw_1344 ⟨by decide +kernel, by decide +kernel, show (parseMethodDescriptor mX8_stepOn.1.desc).map (fun d => d.parameters.length) = some 0 by decide +kernel⟩ (by decide) (by decide) (Nat.le_of_ble_eq_true rfl) fc_8 (by decide) rfl (kkI e133) C143 (Nat.le_of_eq (Nat.add_zero _)) (Nat.le_of_eq (Nat.add_zero _)) (fun _ _ h => h) ?_
                rintro _ h144 ⟨rfl, K1⟩ -
                replace K := K h144 K1
                show Gm l x mX8_readClause 8 183 [(0, .ref a0), (1, .int x1)] [] h144 rc rs n0 Q X
                refine g_aload_n dX8_readClause_183 rfl 0 rfl ?_
                refine g_dup dX8_readClause_184 rfl ?_
                obtain ⟨e145, K⟩ := K
                refine g_get (c := 8) (k := 21) (v := .int (hI h144 a0 21)) dX8_readClause_185 fc_8 (by decide) (by decide) bw_1219 rfl e145 ?_
                refine g_iconst (v := 1) dX8_readClause_188 (by decide) ?_
                refine g_iadd dX8_readClause_189 ?_
                refine g_puti (c := 8) (k := 21) dX8_readClause_190 fc_8 (by decide) (by decide) bw_1219 (Or.inl rfl) rfl e145 ?_
                exact g_vret dX8_readClause_193 rfl K
            · replace K := K.2 c140
              refine g_aload_n dX8_readClause_167 rfl 0 rfl ?_
              refine g_iconst (v := 1) dX8_readClause_168 (by decide) ?_
              obtain ⟨q146, C147, K⟩ := K
              refine g_callV (M' := mX8_wrong) (b := a0) (As := [.int 1]) (rest := []) (rc' := rc) (rs' := rs) dX8_readClause_169 bw_1371 bw_1373 bs_45 bw_9 bw_1374 ⟨by decide +kernel, by decide +kernel, show (parseMethodDescriptor mX8_wrong.1.desc).map (fun d => d.parameters.length) = some 1 by decide +kernel⟩ (by decide) (by decide) (Nat.le_of_ble_eq_true rfl) fc_8 (by decide) rfl (kkI e133) C147 (Nat.le_of_eq (Nat.add_zero _)) (Nat.le_of_eq (Nat.add_zero _)) (fun _ _ h => h) ?_
              rintro _ h148 ⟨rfl, K1⟩ -
              replace K := K h148 K1
              show Gm l x mX8_readClause 8 172 [(0, .ref a0), (1, .int x1)] [] h148 rc rs n0 Q X
              refine g_aload_n dX8_readClause_172 rfl 0 rfl ?_
              obtain ⟨e149, K⟩ := K
              refine g_get (c := 8) (k := 18) (v := .int (hI h148 a0 18)) dX8_readClause_173 fc_8 (by decide) (by decide) bw_1216 rfl e149 ?_
              refine g_if_ne (tgt := 183) dX8_readClause_176 (by decide) (fun c150 => ?_) (fun c150 => ?_)
              · replace K := K.1 c150
                refine g_aload_n dX8_readClause_183 rfl 0 rfl ?_
                refine g_dup dX8_readClause_184 rfl ?_
                refine g_get (c := 8) (k := 21) (v := .int (hI h148 a0 21)) dX8_readClause_185 fc_8 (by decide) (by decide) bw_1219 rfl e149 ?_
                refine g_iconst (v := 1) dX8_readClause_188 (by decide) ?_
                refine g_iadd dX8_readClause_189 ?_
                refine g_puti (c := 8) (k := 21) dX8_readClause_190 fc_8 (by decide) (by decide) bw_1219 (Or.inl rfl) rfl e149 ?_
                exact g_vret dX8_readClause_193 rfl K
              · replace K := K.2 c150
                refine g_aload_n dX8_readClause_179 rfl 0 rfl ?_
                obtain ⟨q151, C152, K⟩ := K
                refine g_callV (M' := mX8_stepOn) (b := a0) (As := []) (rest := []) (rc' := rc) (rs' := rs) dX8_readClause_180 bw_1341 bw_1343 bs_40 bw_9 bw_1344 ⟨by decide +kernel, by decide +kernel, show (parseMethodDescriptor mX8_stepOn.1.desc).map (fun d => d.parameters.length) = some 0 by decide +kernel⟩ (by decide) (by decide) (Nat.le_of_ble_eq_true rfl) fc_8 (by decide) rfl e149 C152 (Nat.le_of_eq (Nat.add_zero _)) (Nat.le_of_eq (Nat.add_zero _)) (fun _ _ h => h) ?_
                rintro _ h153 ⟨rfl, K1⟩ -
                replace K := K h153 K1
                show Gm l x mX8_readClause 8 183 [(0, .ref a0), (1, .int x1)] [] h153 rc rs n0 Q X
                refine g_aload_n dX8_readClause_183 rfl 0 rfl ?_
                refine g_dup dX8_readClause_184 rfl ?_
                obtain ⟨e154, K⟩ := K
                refine g_get (c := 8) (k := 21) (v := .int (hI h153 a0 21)) dX8_readClause_185 fc_8 (by decide) (by decide) bw_1219 rfl e154 ?_
                refine g_iconst (v := 1) dX8_readClause_188 (by decide) ?_
                refine g_iadd dX8_readClause_189 ?_
                refine g_puti (c := 8) (k := 21) dX8_readClause_190 fc_8 (by decide) (by decide) bw_1219 (Or.inl rfl) rfl e154 ?_
                exact g_vret dX8_readClause_193 rfl K
      · replace K := K.2 c4
        refine g_aload_n dX8_readClause_71 rfl 0 rfl ?_
        obtain ⟨q155, C156, K⟩ := K
        refine g_callV (M' := mX8_readRider) (b := a0) (As := []) (rest := []) (rc' := rc) (rs' := rs) dX8_readClause_72 bw_1393 bw_1395 bs_50 bw_9 bw_1396 ⟨by decide +kernel, by decide +kernel, show (parseMethodDescriptor mX8_readRider.1.desc).map (fun d => d.parameters.length) = some 0 by decide +kernel⟩ (by decide) (by decide) (Nat.le_of_ble_eq_true rfl) fc_8 (by decide) rfl e1 C156 (Nat.le_of_eq (Nat.add_zero _)) (Nat.le_of_eq (Nat.add_zero _)) (fun _ _ h => h) ?_
        rintro _ h157 ⟨rfl, K1⟩ -
        replace K := K h157 K1
        show Gm l x mX8_readClause 8 75 [(0, .ref a0), (1, .int x1)] [] h157 rc rs n0 Q X
        refine g_goto (tgt := 152) dX8_readClause_75 (by decide) ?_
        refine g_aload_n dX8_readClause_152 rfl 0 rfl ?_
        obtain ⟨e158, K⟩ := K
        refine g_get (c := 8) (k := 18) (v := .int (hI h157 a0 18)) dX8_readClause_153 fc_8 (by decide) (by decide) bw_1216 rfl e158 ?_
        refine g_if_ne (tgt := 172) dX8_readClause_156 (by decide) (fun c159 => ?_) (fun c159 => ?_)
        · replace K := K.1 c159
          refine g_aload_n dX8_readClause_172 rfl 0 rfl ?_
          refine g_get (c := 8) (k := 18) (v := .int (hI h157 a0 18)) dX8_readClause_173 fc_8 (by decide) (by decide) bw_1216 rfl e158 ?_
          refine g_if_ne (tgt := 183) dX8_readClause_176 (by decide) (fun c160 => ?_) (fun c160 => ?_)
          · replace K := K.1 c160
            refine g_aload_n dX8_readClause_183 rfl 0 rfl ?_
            refine g_dup dX8_readClause_184 rfl ?_
            refine g_get (c := 8) (k := 21) (v := .int (hI h157 a0 21)) dX8_readClause_185 fc_8 (by decide) (by decide) bw_1219 rfl e158 ?_
            refine g_iconst (v := 1) dX8_readClause_188 (by decide) ?_
            refine g_iadd dX8_readClause_189 ?_
            refine g_puti (c := 8) (k := 21) dX8_readClause_190 fc_8 (by decide) (by decide) bw_1219 (Or.inl rfl) rfl e158 ?_
            exact g_vret dX8_readClause_193 rfl K
          · replace K := K.2 c160
            refine g_aload_n dX8_readClause_179 rfl 0 rfl ?_
            obtain ⟨q161, C162, K⟩ := K
            refine g_callV (M' := mX8_stepOn) (b := a0) (As := []) (rest := []) (rc' := rc) (rs' := rs) dX8_readClause_180 bw_1341 bw_1343 bs_40 bw_9 bw_1344 ⟨by decide +kernel, by decide +kernel, show (parseMethodDescriptor mX8_stepOn.1.desc).map (fun d => d.parameters.length) = some 0 by decide +kernel⟩ (by decide) (by decide) (Nat.le_of_ble_eq_true rfl) fc_8 (by decide) rfl e158 C162 (Nat.le_of_eq (Nat.add_zero _)) (Nat.le_of_eq (Nat.add_zero _)) (fun _ _ h => h) ?_
            rintro _ h163 ⟨rfl, K1⟩ -
            replace K := K h163 K1
            show Gm l x mX8_readClause 8 183 [(0, .ref a0), (1, .int x1)] [] h163 rc rs n0 Q X
            refine g_aload_n dX8_readClause_183 rfl 0 rfl ?_
            refine g_dup dX8_readClause_184 rfl ?_
            obtain ⟨e164, K⟩ := K
            refine g_get (c := 8) (k := 21) (v := .int (hI h163 a0 21)) dX8_readClause_185 fc_8 (by decide) (by decide) bw_1219 rfl e164 ?_
            refine g_iconst (v := 1) dX8_readClause_188 (by decide) ?_
            refine g_iadd dX8_readClause_189 ?_
            refine g_puti (c := 8) (k := 21) dX8_readClause_190 fc_8 (by decide) (by decide) bw_1219 (Or.inl rfl) rfl e164 ?_
            exact g_vret dX8_readClause_193 rfl K
        · replace K := K.2 c159
          refine g_aload_n dX8_readClause_159 rfl 0 rfl ?_
          refine g_get (c := 8) (k := 14) (v := .int (hI h157 a0 14)) dX8_readClause_160 fc_8 (by decide) (by decide) bw_1212 rfl e158 ?_
          refine g_iconst (v := 3) dX8_readClause_163 (by decide) ?_
          refine g_icmp_eq (tgt := 172) dX8_readClause_164 (by decide) (fun c165 => ?_) (fun c165 => ?_)
          · replace K := K.1 c165
            refine g_aload_n dX8_readClause_172 rfl 0 rfl ?_
            refine g_get (c := 8) (k := 18) (v := .int (hI h157 a0 18)) dX8_readClause_173 fc_8 (by decide) (by decide) bw_1216 rfl e158 ?_
            refine g_if_ne (tgt := 183) dX8_readClause_176 (by decide) (fun c166 => ?_) (fun c166 => ?_)
            · replace K := K.1 c166
              refine g_aload_n dX8_readClause_183 rfl 0 rfl ?_
              refine g_dup dX8_readClause_184 rfl ?_
              refine g_get (c := 8) (k := 21) (v := .int (hI h157 a0 21)) dX8_readClause_185 fc_8 (by decide) (by decide) bw_1219 rfl e158 ?_
              refine g_iconst (v := 1) dX8_readClause_188 (by decide) ?_
              refine g_iadd dX8_readClause_189 ?_
              refine g_puti (c := 8) (k := 21) dX8_readClause_190 fc_8 (by decide) (by decide) bw_1219 (Or.inl rfl) rfl e158 ?_
              exact g_vret dX8_readClause_193 rfl K
            · replace K := K.2 c166
              refine g_aload_n dX8_readClause_179 rfl 0 rfl ?_
              obtain ⟨q167, C168, K⟩ := K
              refine g_callV (M' := mX8_stepOn) (b := a0) (As := []) (rest := []) (rc' := rc) (rs' := rs) dX8_readClause_180 bw_1341 bw_1343 bs_40 bw_9 bw_1344 ⟨by decide +kernel, by decide +kernel, show (parseMethodDescriptor mX8_stepOn.1.desc).map (fun d => d.parameters.length) = some 0 by decide +kernel⟩ (by decide) (by decide) (Nat.le_of_ble_eq_true rfl) fc_8 (by decide) rfl e158 C168 (Nat.le_of_eq (Nat.add_zero _)) (Nat.le_of_eq (Nat.add_zero _)) (fun _ _ h => h) ?_
              rintro _ h169 ⟨rfl, K1⟩ -
              replace K := K h169 K1
              show Gm l x mX8_readClause 8 183 [(0, .ref a0), (1, .int x1)] [] h169 rc rs n0 Q X
              refine g_aload_n dX8_readClause_183 rfl 0 rfl ?_
              refine g_dup dX8_readClause_184 rfl ?_
              obtain ⟨e170, K⟩ := K
              refine g_get (c := 8) (k := 21) (v := .int (hI h169 a0 21)) dX8_readClause_185 fc_8 (by decide) (by decide) bw_1219 rfl e170 ?_
              refine g_iconst (v := 1) dX8_readClause_188 (by decide) ?_
              refine g_iadd dX8_readClause_189 ?_
              refine g_puti (c := 8) (k := 21) dX8_readClause_190 fc_8 (by decide) (by decide) bw_1219 (Or.inl rfl) rfl e170 ?_
              exact g_vret dX8_readClause_193 rfl K
          · replace K := K.2 c165
            refine g_aload_n dX8_readClause_167 rfl 0 rfl ?_
            refine g_iconst (v := 1) dX8_readClause_168 (by decide) ?_
            obtain ⟨q171, C172, K⟩ := K
            refine g_callV (M' := mX8_wrong) (b := a0) (As := [.int 1]) (rest := []) (rc' := rc) (rs' := rs) dX8_readClause_169 bw_1371 bw_1373 bs_45 bw_9 bw_1374 ⟨by decide +kernel, by decide +kernel, show (parseMethodDescriptor mX8_wrong.1.desc).map (fun d => d.parameters.length) = some 1 by decide +kernel⟩ (by decide) (by decide) (Nat.le_of_ble_eq_true rfl) fc_8 (by decide) rfl e158 C172 (Nat.le_of_eq (Nat.add_zero _)) (Nat.le_of_eq (Nat.add_zero _)) (fun _ _ h => h) ?_
            rintro _ h173 ⟨rfl, K1⟩ -
            replace K := K h173 K1
            show Gm l x mX8_readClause 8 172 [(0, .ref a0), (1, .int x1)] [] h173 rc rs n0 Q X
            refine g_aload_n dX8_readClause_172 rfl 0 rfl ?_
            obtain ⟨e174, K⟩ := K
            refine g_get (c := 8) (k := 18) (v := .int (hI h173 a0 18)) dX8_readClause_173 fc_8 (by decide) (by decide) bw_1216 rfl e174 ?_
            refine g_if_ne (tgt := 183) dX8_readClause_176 (by decide) (fun c175 => ?_) (fun c175 => ?_)
            · replace K := K.1 c175
              refine g_aload_n dX8_readClause_183 rfl 0 rfl ?_
              refine g_dup dX8_readClause_184 rfl ?_
              refine g_get (c := 8) (k := 21) (v := .int (hI h173 a0 21)) dX8_readClause_185 fc_8 (by decide) (by decide) bw_1219 rfl e174 ?_
              refine g_iconst (v := 1) dX8_readClause_188 (by decide) ?_
              refine g_iadd dX8_readClause_189 ?_
              refine g_puti (c := 8) (k := 21) dX8_readClause_190 fc_8 (by decide) (by decide) bw_1219 (Or.inl rfl) rfl e174 ?_
              exact g_vret dX8_readClause_193 rfl K
            · replace K := K.2 c175
              refine g_aload_n dX8_readClause_179 rfl 0 rfl ?_
              obtain ⟨q176, C177, K⟩ := K
              refine g_callV (M' := mX8_stepOn) (b := a0) (As := []) (rest := []) (rc' := rc) (rs' := rs) dX8_readClause_180 bw_1341 bw_1343 bs_40 bw_9 bw_1344 ⟨by decide +kernel, by decide +kernel, show (parseMethodDescriptor mX8_stepOn.1.desc).map (fun d => d.parameters.length) = some 0 by decide +kernel⟩ (by decide) (by decide) (Nat.le_of_ble_eq_true rfl) fc_8 (by decide) rfl e174 C177 (Nat.le_of_eq (Nat.add_zero _)) (Nat.le_of_eq (Nat.add_zero _)) (fun _ _ h => h) ?_
              rintro _ h178 ⟨rfl, K1⟩ -
              replace K := K h178 K1
              show Gm l x mX8_readClause 8 183 [(0, .ref a0), (1, .int x1)] [] h178 rc rs n0 Q X
              refine g_aload_n dX8_readClause_183 rfl 0 rfl ?_
              refine g_dup dX8_readClause_184 rfl ?_
              obtain ⟨e179, K⟩ := K
              refine g_get (c := 8) (k := 21) (v := .int (hI h178 a0 21)) dX8_readClause_185 fc_8 (by decide) (by decide) bw_1219 rfl e179 ?_
              refine g_iconst (v := 1) dX8_readClause_188 (by decide) ?_
              refine g_iadd dX8_readClause_189 ?_
              refine g_puti (c := 8) (k := 21) dX8_readClause_190 fc_8 (by decide) (by decide) bw_1219 (Or.inl rfl) rfl e179 ?_
              exact g_vret dX8_readClause_193 rfl K
    · replace K := K.2 c3
      refine g_aload_n dX8_readClause_59 rfl 0 rfl ?_
      obtain ⟨q180, C181, K⟩ := K
      refine g_callV (M' := mX8_readCar) (b := a0) (As := []) (rest := []) (rc' := rc) (rs' := rs) dX8_readClause_60 bw_1375 bw_1377 bs_46 bw_9 bw_1378 ⟨by decide +kernel, by decide +kernel, show (parseMethodDescriptor mX8_readCar.1.desc).map (fun d => d.parameters.length) = some 0 by decide +kernel⟩ (by decide) (by decide) (Nat.le_of_ble_eq_true rfl) fc_8 (by decide) rfl e1 C181 (Nat.le_of_eq (Nat.add_zero _)) (Nat.le_of_eq (Nat.add_zero _)) (fun _ _ h => h) ?_
      rintro _ h182 ⟨rfl, K1⟩ -
      replace K := K h182 K1
      show Gm l x mX8_readClause 8 63 [(0, .ref a0), (1, .int x1)] [] h182 rc rs n0 Q X
      refine g_goto (tgt := 152) dX8_readClause_63 (by decide) ?_
      refine g_aload_n dX8_readClause_152 rfl 0 rfl ?_
      obtain ⟨e183, K⟩ := K
      refine g_get (c := 8) (k := 18) (v := .int (hI h182 a0 18)) dX8_readClause_153 fc_8 (by decide) (by decide) bw_1216 rfl e183 ?_
      refine g_if_ne (tgt := 172) dX8_readClause_156 (by decide) (fun c184 => ?_) (fun c184 => ?_)
      · replace K := K.1 c184
        refine g_aload_n dX8_readClause_172 rfl 0 rfl ?_
        refine g_get (c := 8) (k := 18) (v := .int (hI h182 a0 18)) dX8_readClause_173 fc_8 (by decide) (by decide) bw_1216 rfl e183 ?_
        refine g_if_ne (tgt := 183) dX8_readClause_176 (by decide) (fun c185 => ?_) (fun c185 => ?_)
        · replace K := K.1 c185
          refine g_aload_n dX8_readClause_183 rfl 0 rfl ?_
          refine g_dup dX8_readClause_184 rfl ?_
          refine g_get (c := 8) (k := 21) (v := .int (hI h182 a0 21)) dX8_readClause_185 fc_8 (by decide) (by decide) bw_1219 rfl e183 ?_
          refine g_iconst (v := 1) dX8_readClause_188 (by decide) ?_
          refine g_iadd dX8_readClause_189 ?_
          refine g_puti (c := 8) (k := 21) dX8_readClause_190 fc_8 (by decide) (by decide) bw_1219 (Or.inl rfl) rfl e183 ?_
          exact g_vret dX8_readClause_193 rfl K
        · replace K := K.2 c185
          refine g_aload_n dX8_readClause_179 rfl 0 rfl ?_
          obtain ⟨q186, C187, K⟩ := K
          refine g_callV (M' := mX8_stepOn) (b := a0) (As := []) (rest := []) (rc' := rc) (rs' := rs) dX8_readClause_180 bw_1341 bw_1343 bs_40 bw_9 bw_1344 ⟨by decide +kernel, by decide +kernel, show (parseMethodDescriptor mX8_stepOn.1.desc).map (fun d => d.parameters.length) = some 0 by decide +kernel⟩ (by decide) (by decide) (Nat.le_of_ble_eq_true rfl) fc_8 (by decide) rfl e183 C187 (Nat.le_of_eq (Nat.add_zero _)) (Nat.le_of_eq (Nat.add_zero _)) (fun _ _ h => h) ?_
          rintro _ h188 ⟨rfl, K1⟩ -
          replace K := K h188 K1
          show Gm l x mX8_readClause 8 183 [(0, .ref a0), (1, .int x1)] [] h188 rc rs n0 Q X
          refine g_aload_n dX8_readClause_183 rfl 0 rfl ?_
          refine g_dup dX8_readClause_184 rfl ?_
          obtain ⟨e189, K⟩ := K
          refine g_get (c := 8) (k := 21) (v := .int (hI h188 a0 21)) dX8_readClause_185 fc_8 (by decide) (by decide) bw_1219 rfl e189 ?_
          refine g_iconst (v := 1) dX8_readClause_188 (by decide) ?_
          refine g_iadd dX8_readClause_189 ?_
          refine g_puti (c := 8) (k := 21) dX8_readClause_190 fc_8 (by decide) (by decide) bw_1219 (Or.inl rfl) rfl e189 ?_
          exact g_vret dX8_readClause_193 rfl K
      · replace K := K.2 c184
        refine g_aload_n dX8_readClause_159 rfl 0 rfl ?_
        refine g_get (c := 8) (k := 14) (v := .int (hI h182 a0 14)) dX8_readClause_160 fc_8 (by decide) (by decide) bw_1212 rfl e183 ?_
        refine g_iconst (v := 3) dX8_readClause_163 (by decide) ?_
        refine g_icmp_eq (tgt := 172) dX8_readClause_164 (by decide) (fun c190 => ?_) (fun c190 => ?_)
        · replace K := K.1 c190
          refine g_aload_n dX8_readClause_172 rfl 0 rfl ?_
          refine g_get (c := 8) (k := 18) (v := .int (hI h182 a0 18)) dX8_readClause_173 fc_8 (by decide) (by decide) bw_1216 rfl e183 ?_
          refine g_if_ne (tgt := 183) dX8_readClause_176 (by decide) (fun c191 => ?_) (fun c191 => ?_)
          · replace K := K.1 c191
            refine g_aload_n dX8_readClause_183 rfl 0 rfl ?_
            refine g_dup dX8_readClause_184 rfl ?_
            refine g_get (c := 8) (k := 21) (v := .int (hI h182 a0 21)) dX8_readClause_185 fc_8 (by decide) (by decide) bw_1219 rfl e183 ?_
            refine g_iconst (v := 1) dX8_readClause_188 (by decide) ?_
            refine g_iadd dX8_readClause_189 ?_
            refine g_puti (c := 8) (k := 21) dX8_readClause_190 fc_8 (by decide) (by decide) bw_1219 (Or.inl rfl) rfl e183 ?_
            exact g_vret dX8_readClause_193 rfl K
          · replace K := K.2 c191
            refine g_aload_n dX8_readClause_179 rfl 0 rfl ?_
            obtain ⟨q192, C193, K⟩ := K
            refine g_callV (M' := mX8_stepOn) (b := a0) (As := []) (rest := []) (rc' := rc) (rs' := rs) dX8_readClause_180 bw_1341 bw_1343 bs_40 bw_9 bw_1344 ⟨by decide +kernel, by decide +kernel, show (parseMethodDescriptor mX8_stepOn.1.desc).map (fun d => d.parameters.length) = some 0 by decide +kernel⟩ (by decide) (by decide) (Nat.le_of_ble_eq_true rfl) fc_8 (by decide) rfl e183 C193 (Nat.le_of_eq (Nat.add_zero _)) (Nat.le_of_eq (Nat.add_zero _)) (fun _ _ h => h) ?_
            rintro _ h194 ⟨rfl, K1⟩ -
            replace K := K h194 K1
            show Gm l x mX8_readClause 8 183 [(0, .ref a0), (1, .int x1)] [] h194 rc rs n0 Q X
            refine g_aload_n dX8_readClause_183 rfl 0 rfl ?_
            refine g_dup dX8_readClause_184 rfl ?_
            obtain ⟨e195, K⟩ := K
            refine g_get (c := 8) (k := 21) (v := .int (hI h194 a0 21)) dX8_readClause_185 fc_8 (by decide) (by decide) bw_1219 rfl e195 ?_
            refine g_iconst (v := 1) dX8_readClause_188 (by decide) ?_
            refine g_iadd dX8_readClause_189 ?_
            refine g_puti (c := 8) (k := 21) dX8_readClause_190 fc_8 (by decide) (by decide) bw_1219 (Or.inl rfl) rfl e195 ?_
            exact g_vret dX8_readClause_193 rfl K
        · replace K := K.2 c190
          refine g_aload_n dX8_readClause_167 rfl 0 rfl ?_
          refine g_iconst (v := 1) dX8_readClause_168 (by decide) ?_
          obtain ⟨q196, C197, K⟩ := K
          refine g_callV (M' := mX8_wrong) (b := a0) (As := [.int 1]) (rest := []) (rc' := rc) (rs' := rs) dX8_readClause_169 bw_1371 bw_1373 bs_45 bw_9 bw_1374 ⟨by decide +kernel, by decide +kernel, show (parseMethodDescriptor mX8_wrong.1.desc).map (fun d => d.parameters.length) = some 1 by decide +kernel⟩ (by decide) (by decide) (Nat.le_of_ble_eq_true rfl) fc_8 (by decide) rfl e183 C197 (Nat.le_of_eq (Nat.add_zero _)) (Nat.le_of_eq (Nat.add_zero _)) (fun _ _ h => h) ?_
          rintro _ h198 ⟨rfl, K1⟩ -
          replace K := K h198 K1
          show Gm l x mX8_readClause 8 172 [(0, .ref a0), (1, .int x1)] [] h198 rc rs n0 Q X
          refine g_aload_n dX8_readClause_172 rfl 0 rfl ?_
          obtain ⟨e199, K⟩ := K
          refine g_get (c := 8) (k := 18) (v := .int (hI h198 a0 18)) dX8_readClause_173 fc_8 (by decide) (by decide) bw_1216 rfl e199 ?_
          refine g_if_ne (tgt := 183) dX8_readClause_176 (by decide) (fun c200 => ?_) (fun c200 => ?_)
          · replace K := K.1 c200
            refine g_aload_n dX8_readClause_183 rfl 0 rfl ?_
            refine g_dup dX8_readClause_184 rfl ?_
            refine g_get (c := 8) (k := 21) (v := .int (hI h198 a0 21)) dX8_readClause_185 fc_8 (by decide) (by decide) bw_1219 rfl e199 ?_
            refine g_iconst (v := 1) dX8_readClause_188 (by decide) ?_
            refine g_iadd dX8_readClause_189 ?_
            refine g_puti (c := 8) (k := 21) dX8_readClause_190 fc_8 (by decide) (by decide) bw_1219 (Or.inl rfl) rfl e199 ?_
            exact g_vret dX8_readClause_193 rfl K
          · replace K := K.2 c200
            refine g_aload_n dX8_readClause_179 rfl 0 rfl ?_
            obtain ⟨q201, C202, K⟩ := K
            refine g_callV (M' := mX8_stepOn) (b := a0) (As := []) (rest := []) (rc' := rc) (rs' := rs) dX8_readClause_180 bw_1341 bw_1343 bs_40 bw_9 bw_1344 ⟨by decide +kernel, by decide +kernel, show (parseMethodDescriptor mX8_stepOn.1.desc).map (fun d => d.parameters.length) = some 0 by decide +kernel⟩ (by decide) (by decide) (Nat.le_of_ble_eq_true rfl) fc_8 (by decide) rfl e199 C202 (Nat.le_of_eq (Nat.add_zero _)) (Nat.le_of_eq (Nat.add_zero _)) (fun _ _ h => h) ?_
            rintro _ h203 ⟨rfl, K1⟩ -
            replace K := K h203 K1
            show Gm l x mX8_readClause 8 183 [(0, .ref a0), (1, .int x1)] [] h203 rc rs n0 Q X
            refine g_aload_n dX8_readClause_183 rfl 0 rfl ?_
            refine g_dup dX8_readClause_184 rfl ?_
            obtain ⟨e204, K⟩ := K
            refine g_get (c := 8) (k := 21) (v := .int (hI h203 a0 21)) dX8_readClause_185 fc_8 (by decide) (by decide) bw_1219 rfl e204 ?_
            refine g_iconst (v := 1) dX8_readClause_188 (by decide) ?_
            refine g_iadd dX8_readClause_189 ?_
            refine g_puti (c := 8) (k := 21) dX8_readClause_190 fc_8 (by decide) (by decide) bw_1219 (Or.inl rfl) rfl e204 ?_
            exact g_vret dX8_readClause_193 rfl K
  · replace K := K.2 c2
    exact g_vret dX8_readClause_53 rfl K
theorem dX8_chosen_0 : decode cX8_chosen 0 = .ok (.iconst (-1), 1) := by decide +kernel
theorem dX8_chosen_1 : decode cX8_chosen 1 = .ok (.istore 4, 2) := by decide +kernel
theorem dX8_chosen_3 : decode cX8_chosen 3 = .ok (.iconst 0, 1) := by decide +kernel
theorem dX8_chosen_4 : decode cX8_chosen 4 = .ok (.istore 5, 2) := by decide +kernel
theorem dX8_chosen_6 : decode cX8_chosen 6 = .ok (.iconst 0, 1) := by decide +kernel
theorem dX8_chosen_7 : decode cX8_chosen 7 = .ok (.istore 6, 2) := by decide +kernel
theorem dX8_chosen_9 : decode cX8_chosen 9 = .ok (.iload 6, 2) := by decide +kernel
theorem dX8_chosen_11 : decode cX8_chosen 11 = .ok (.aload_n 0, 1) := by decide +kernel
theorem dX8_chosen_12 : decode cX8_chosen 12 = .ok (.getfield 36, 3) := by decide +kernel
theorem dX8_chosen_15 : decode cX8_chosen 15 = .ok (.iconst 1, 1) := by decide +kernel
theorem dX8_chosen_16 : decode cX8_chosen 16 = .ok (.iaload, 1) := by decide +kernel
theorem dX8_chosen_17 : decode cX8_chosen 17 = .ok (.if_icmp .ge 154, 3) := by decide +kernel
theorem dX8_chosen_20 : decode cX8_chosen 20 = .ok (.aload_n 0, 1) := by decide +kernel
theorem dX8_chosen_21 : decode cX8_chosen 21 = .ok (.getfield 29, 3) := by decide +kernel
theorem dX8_chosen_24 : decode cX8_chosen 24 = .ok (.iconst 2, 1) := by decide +kernel
theorem dX8_chosen_25 : decode cX8_chosen 25 = .ok (.iaload, 1) := by decide +kernel
theorem dX8_chosen_26 : decode cX8_chosen 26 = .ok (.ifCond .ne 24, 3) := by decide +kernel
theorem dX8_chosen_29 : decode cX8_chosen 29 = .ok (.aload_n 0, 1) := by decide +kernel
theorem dX8_chosen_30 : decode cX8_chosen 30 = .ok (.getfield 29, 3) := by decide +kernel
theorem dX8_chosen_33 : decode cX8_chosen 33 = .ok (.iconst 4, 1) := by decide +kernel
theorem dX8_chosen_34 : decode cX8_chosen 34 = .ok (.iaload, 1) := by decide +kernel
theorem dX8_chosen_35 : decode cX8_chosen 35 = .ok (.iconst 1, 1) := by decide +kernel
theorem dX8_chosen_36 : decode cX8_chosen 36 = .ok (.iadd, 1) := by decide +kernel
theorem dX8_chosen_37 : decode cX8_chosen 37 = .ok (.iload 6, 2) := by decide +kernel
theorem dX8_chosen_39 : decode cX8_chosen 39 = .ok (.iadd, 1) := by decide +kernel
theorem dX8_chosen_40 : decode cX8_chosen 40 = .ok (.aload_n 0, 1) := by decide +kernel
theorem dX8_chosen_41 : decode cX8_chosen 41 = .ok (.getfield 36, 3) := by decide +kernel
theorem dX8_chosen_44 : decode cX8_chosen 44 = .ok (.iconst 1, 1) := by decide +kernel
theorem dX8_chosen_45 : decode cX8_chosen 45 = .ok (.iaload, 1) := by decide +kernel
theorem dX8_chosen_46 : decode cX8_chosen 46 = .ok (.irem, 1) := by decide +kernel
theorem dX8_chosen_47 : decode cX8_chosen 47 = .ok (.goto 5, 3) := by decide +kernel
theorem dX8_chosen_50 : decode cX8_chosen 50 = .ok (.iload 6, 2) := by decide +kernel
theorem dX8_chosen_52 : decode cX8_chosen 52 = .ok (.istore 7, 2) := by decide +kernel
theorem dX8_chosen_54 : decode cX8_chosen 54 = .ok (.aload_n 0, 1) := by decide +kernel
theorem dX8_chosen_55 : decode cX8_chosen 55 = .ok (.iload 7, 2) := by decide +kernel
theorem dX8_chosen_57 : decode cX8_chosen 57 = .ok (.iconst 4, 1) := by decide +kernel
theorem dX8_chosen_58 : decode cX8_chosen 58 = .ok (.invokevirtual 238, 3) := by decide +kernel
theorem dX8_chosen_61 : decode cX8_chosen 61 = .ok (.ifCond .eq 104, 3) := by decide +kernel
theorem dX8_chosen_64 : decode cX8_chosen 64 = .ok (.aload_n 0, 1) := by decide +kernel
theorem dX8_chosen_65 : decode cX8_chosen 65 = .ok (.iload 7, 2) := by decide +kernel
theorem dX8_chosen_67 : decode cX8_chosen 67 = .ok (.iload_n 3, 1) := by decide +kernel
theorem dX8_chosen_68 : decode cX8_chosen 68 = .ok (.invokevirtual 283, 3) := by decide +kernel
theorem dX8_chosen_71 : decode cX8_chosen 71 = .ok (.ifCond .eq 94, 3) := by decide +kernel
theorem dX8_chosen_74 : decode cX8_chosen 74 = .ok (.aload_n 0, 1) := by decide +kernel
theorem dX8_chosen_75 : decode cX8_chosen 75 = .ok (.getfield 29, 3) := by decide +kernel
theorem dX8_chosen_78 : decode cX8_chosen 78 = .ok (.iconst 2, 1) := by decide +kernel
theorem dX8_chosen_79 : decode cX8_chosen 79 = .ok (.iaload, 1) := by decide +kernel
theorem dX8_chosen_80 : decode cX8_chosen 80 = .ok (.ifCond .ne 12, 3) := by decide +kernel
theorem dX8_chosen_83 : decode cX8_chosen 83 = .ok (.iload 4, 2) := by decide +kernel
theorem dX8_chosen_85 : decode cX8_chosen 85 = .ok (.iconst (-1), 1) := by decide +kernel
theorem dX8_chosen_86 : decode cX8_chosen 86 = .ok (.if_icmp .eq 6, 3) := by decide +kernel
theorem dX8_chosen_89 : decode cX8_chosen 89 = .ok (.goto 76, 3) := by decide +kernel
theorem dX8_chosen_92 : decode cX8_chosen 92 = .ok (.aload_n 0, 1) := by decide +kernel
theorem dX8_chosen_93 : decode cX8_chosen 93 = .ok (.getfield 29, 3) := by decide +kernel
theorem dX8_chosen_96 : decode cX8_chosen 96 = .ok (.iconst 2, 1) := by decide +kernel
theorem dX8_chosen_97 : decode cX8_chosen 97 = .ok (.iaload, 1) := by decide +kernel
theorem dX8_chosen_98 : decode cX8_chosen 98 = .ok (.ifCond .ne 7, 3) := by decide +kernel
theorem dX8_chosen_101 : decode cX8_chosen 101 = .ok (.iconst 0, 1) := by decide +kernel
theorem dX8_chosen_102 : decode cX8_chosen 102 = .ok (.goto 37, 3) := by decide +kernel
theorem dX8_chosen_105 : decode cX8_chosen 105 = .ok (.aload_n 0, 1) := by decide +kernel
theorem dX8_chosen_106 : decode cX8_chosen 106 = .ok (.getfield 29, 3) := by decide +kernel
theorem dX8_chosen_109 : decode cX8_chosen 109 = .ok (.iconst 2, 1) := by decide +kernel
theorem dX8_chosen_110 : decode cX8_chosen 110 = .ok (.iaload, 1) := by decide +kernel
theorem dX8_chosen_111 : decode cX8_chosen 111 = .ok (.iconst 1, 1) := by decide +kernel
theorem dX8_chosen_112 : decode cX8_chosen 112 = .ok (.if_icmp .ne 18, 3) := by decide +kernel
theorem dX8_chosen_115 : decode cX8_chosen 115 = .ok (.aload_n 0, 1) := by decide +kernel
theorem dX8_chosen_116 : decode cX8_chosen 116 = .ok (.iload 7, 2) := by decide +kernel
theorem dX8_chosen_118 : decode cX8_chosen 118 = .ok (.iconst 0, 1) := by decide +kernel
theorem dX8_chosen_119 : decode cX8_chosen 119 = .ok (.invokevirtual 238, 3) := by decide +kernel
theorem dX8_chosen_122 : decode cX8_chosen 122 = .ok (.iload_n 1, 1) := by decide +kernel
theorem dX8_chosen_123 : decode cX8_chosen 123 = .ok (.isub, 1) := by decide +kernel
theorem dX8_chosen_124 : decode cX8_chosen 124 = .ok (.invokestatic 313, 3) := by decide +kernel
theorem dX8_chosen_127 : decode cX8_chosen 127 = .ok (.goto 12, 3) := by decide +kernel
theorem dX8_chosen_130 : decode cX8_chosen 130 = .ok (.aload_n 0, 1) := by decide +kernel
theorem dX8_chosen_131 : decode cX8_chosen 131 = .ok (.iload 7, 2) := by decide +kernel
theorem dX8_chosen_133 : decode cX8_chosen 133 = .ok (.iload_n 1, 1) := by decide +kernel
theorem dX8_chosen_134 : decode cX8_chosen 134 = .ok (.iload_n 2, 1) := by decide +kernel
theorem dX8_chosen_135 : decode cX8_chosen 135 = .ok (.iload_n 3, 1) := by decide +kernel
theorem dX8_chosen_136 : decode cX8_chosen 136 = .ok (.invokevirtual 316, 3) := by decide +kernel
theorem dX8_chosen_139 : decode cX8_chosen 139 = .ok (.istore 8, 2) := by decide +kernel
theorem dX8_chosen_141 : decode cX8_chosen 141 = .ok (.iload 4, 2) := by decide +kernel
theorem dX8_chosen_143 : decode cX8_chosen 143 = .ok (.iconst (-1), 1) := by decide +kernel
theorem dX8_chosen_144 : decode cX8_chosen 144 = .ok (.if_icmp .eq 13, 3) := by decide +kernel
theorem dX8_chosen_147 : decode cX8_chosen 147 = .ok (.iload 8, 2) := by decide +kernel
theorem dX8_chosen_149 : decode cX8_chosen 149 = .ok (.iload 5, 2) := by decide +kernel
theorem dX8_chosen_151 : decode cX8_chosen 151 = .ok (.if_icmp .lt 6, 3) := by decide +kernel
theorem dX8_chosen_154 : decode cX8_chosen 154 = .ok (.goto 11, 3) := by decide +kernel
theorem dX8_chosen_157 : decode cX8_chosen 157 = .ok (.iload 7, 2) := by decide +kernel
theorem dX8_chosen_159 : decode cX8_chosen 159 = .ok (.istore 4, 2) := by decide +kernel
theorem dX8_chosen_161 : decode cX8_chosen 161 = .ok (.iload 8, 2) := by decide +kernel
theorem dX8_chosen_163 : decode cX8_chosen 163 = .ok (.istore 5, 2) := by decide +kernel
theorem dX8_chosen_165 : decode cX8_chosen 165 = .ok (.iinc 6 1, 3) := by decide +kernel
theorem dX8_chosen_168 : decode cX8_chosen 168 = .ok (.goto (-159), 3) := by decide +kernel
theorem dX8_chosen_171 : decode cX8_chosen 171 = .ok (.iload 4, 2) := by decide +kernel
theorem dX8_chosen_173 : decode cX8_chosen 173 = .ok (.ireturn, 1) := by decide +kernel
set_option maxRecDepth 20000 in
set_option maxHeartbeats 4000000 in
theorem vX8_chosen_0 {l : Launch} {x : CX} {a0 : Nat} {x1 : Int32} {x2 : Int32} {x3 : Int32} {h : PH} {rc rs n0 : Nat} {Q : Option Value → PH → Prop} {X : String → PH → Prop}
    (K : Gm l x mX8_chosen 8 9 [(0, .ref a0), (1, .int x1), (2, .int x2), (3, .int x3), (4, .int (-1)), (5, .int 0), (6, .int 0)] [] h rc rs n0 Q X) :
    Gm l x mX8_chosen 8 0 [(0, .ref a0), (1, .int x1), (2, .int x2), (3, .int x3)] [] h rc rs n0 Q X := by
  refine g_iconst (v := (-1)) dX8_chosen_0 (by decide) ?_
  refine g_istore (lv' := [(0, .ref a0), (1, .int x1), (2, .int x2), (3, .int x3), (4, .int (-1))]) dX8_chosen_1 (by decide) rfl ?_
  refine g_iconst (v := 0) dX8_chosen_3 (by decide) ?_
  refine g_istore (lv' := [(0, .ref a0), (1, .int x1), (2, .int x2), (3, .int x3), (4, .int (-1)), (5, .int 0)]) dX8_chosen_4 (by decide) rfl ?_
  refine g_iconst (v := 0) dX8_chosen_6 (by decide) ?_
  refine g_istore (lv' := [(0, .ref a0), (1, .int x1), (2, .int x2), (3, .int x3), (4, .int (-1)), (5, .int 0), (6, .int 0)]) dX8_chosen_7 (by decide) rfl ?_
  exact K
set_option maxRecDepth 20000 in
set_option maxHeartbeats 4000000 in
theorem vX8_chosen_9 {l : Launch} {x : CX} {a0 : Nat} {x1 : Int32} {x2 : Int32} {x3 : Int32} {x4 : Int32} {x5 : Int32} {x6 : Int32} {h : PH} {rc rs n0 : Nat} {Q : Option Value → PH → Prop} {X : String → PH → Prop}
    (K : ((hK h a0).1 = 8) ∧ ∃ b2, (hR h a0 4 = some b2) ∧ ((hK h b2).1 = 100) ∧ (vp_in 1 (hK h b2).2) ∧ (((hI h b2 (Int32.toNatClampNeg 1)) ≤ x6 → Q (some (.int x4)) h) ∧ (¬ (hI h b2 (Int32.toNatClampNeg 1)) ≤ x6 → ∃ b7, (hR h a0 2 = some b7) ∧ ((hK h b7).1 = 100) ∧ (vp_in 2 (hK h b7).2) ∧ ((¬ (hI h b7 (Int32.toNatClampNeg 2)) = 0 → Gm l x mX8_chosen 8 52 [(0, .ref a0), (1, .int x1), (2, .int x2), (3, .int x3), (4, .int x4), (5, .int x5), (6, .int x6)] [.int x6] h rc rs n0 Q X) ∧ ((hI h b7 (Int32.toNatClampNeg 2)) = 0 → (vp_in 4 (hK h b7).2) ∧ (vp_in 1 (hK h b2).2) ∧ (¬ (hI h b2 (Int32.toNatClampNeg 1)) = 0) ∧ Gm l x mX8_chosen 8 52 [(0, .ref a0), (1, .int x1), (2, .int x2), (3, .int x3), (4, .int x4), (5, .int x5), (6, .int x6)] [.int ((((hI h b7 (Int32.toNatClampNeg 4)) + 1) + x6) - (((hI h b7 (Int32.toNatClampNeg 4)) + 1) + x6) / (hI h b2 (Int32.toNatClampNeg 1)) * (hI h b2 (Int32.toNatClampNeg 1)))] h rc rs n0 Q X))))) :
    Gm l x mX8_chosen 8 9 [(0, .ref a0), (1, .int x1), (2, .int x2), (3, .int x3), (4, .int x4), (5, .int x5), (6, .int x6)] [] h rc rs n0 Q X := by
  refine g_iload dX8_chosen_9 6 rfl ?_
  refine g_aload_n dX8_chosen_11 rfl 0 rfl ?_
  obtain ⟨e1, b2, e3, K⟩ := K
  refine g_get (c := 8) (k := 4) (v := .ref b2) dX8_chosen_12 fc_8 (by decide) (by decide) bw_1202 (congrArg pr e3) e1 ?_
  refine g_iconst (v := 1) dX8_chosen_15 (by decide) ?_
  obtain ⟨e4, e5, K⟩ := K
  refine g_iald dX8_chosen_16 e4 e5 ?_
  refine g_icmp_ge (tgt := 171) dX8_chosen_17 (by decide) (fun c6 => ?_) (fun c6 => ?_)
  · replace K := K.1 c6
    refine g_iload dX8_chosen_171 4 rfl ?_
    exact g_iret dX8_chosen_173 rfl K
  · replace K := K.2 c6
    refine g_aload_n dX8_chosen_20 rfl 0 rfl ?_
    obtain ⟨b7, e8, K⟩ := K
    refine g_get (c := 8) (k := 2) (v := .ref b7) dX8_chosen_21 fc_8 (by decide) (by decide) bw_1200 (congrArg pr e8) e1 ?_
    refine g_iconst (v := 2) dX8_chosen_24 (by decide) ?_
    obtain ⟨e9, e10, K⟩ := K
    refine g_iald dX8_chosen_25 e9 e10 ?_
    refine g_if_ne (tgt := 50) dX8_chosen_26 (by decide) (fun c11 => ?_) (fun c11 => ?_)
    · replace K := K.1 c11
      refine g_iload dX8_chosen_50 6 rfl ?_
      exact K
    · replace K := K.2 c11
      refine g_aload_n dX8_chosen_29 rfl 0 rfl ?_
      refine g_get (c := 8) (k := 2) (v := .ref b7) dX8_chosen_30 fc_8 (by decide) (by decide) bw_1200 (congrArg pr e8) e1 ?_
      refine g_iconst (v := 4) dX8_chosen_33 (by decide) ?_
      obtain ⟨e12, K⟩ := K
      refine g_iald dX8_chosen_34 e9 e12 ?_
      refine g_iconst (v := 1) dX8_chosen_35 (by decide) ?_
      refine g_iadd dX8_chosen_36 ?_
      refine g_iload dX8_chosen_37 6 rfl ?_
      refine g_iadd dX8_chosen_39 ?_
      refine g_aload_n dX8_chosen_40 rfl 0 rfl ?_
      refine g_get (c := 8) (k := 4) (v := .ref b2) dX8_chosen_41 fc_8 (by decide) (by decide) bw_1202 (congrArg pr e3) e1 ?_
      refine g_iconst (v := 1) dX8_chosen_44 (by decide) ?_
      obtain ⟨e13, K⟩ := K
      refine g_iald dX8_chosen_45 e4 e13 ?_
      obtain ⟨e14, K⟩ := K
      refine g_irem dX8_chosen_46 e14 ?_
      refine g_goto (tgt := 52) dX8_chosen_47 (by decide) ?_
      exact K
set_option maxRecDepth 20000 in
set_option maxHeartbeats 4000000 in
theorem vX8_chosen_52 {l : Launch} {x : CX} {a0 : Nat} {x1 : Int32} {x2 : Int32} {x3 : Int32} {x4 : Int32} {x5 : Int32} {x6 : Int32} {s0 : Int32} {h : PH} {rc rs n0 : Nat} {Q : Option Value → PH → Prop} {X : String → PH → Prop}
    (K : ((hK h a0).1 = 8) ∧ ∃ (q1 : Int32 → PH → Prop), CI l x mX8_carOf 0 0 0 [.ref a0, .int s0, .int 4] h q1 ∧ ∀ (r5 : Int32) (h4 : PH), q1 r5 h4 → ((r5 = 0 → Gm l x mX8_chosen 8 9 [(0, .ref a0), (1, .int x1), (2, .int x2), (3, .int x3), (4, .int x4), (5, .int x5), (6, .int (x6 + 1))] [] h4 rc rs n0 Q X) ∧ (¬ r5 = 0 → ((hK h4 a0).1 = 8) ∧ ∃ (q7 : Int32 → PH → Prop), CI l x mX8_takes 0 0 0 [.ref a0, .int s0, .int x3] h4 q7 ∧ ∀ (r11 : Int32) (h10 : PH), q7 r11 h10 → ((r11 = 0 → Gm l x mX8_chosen 8 9 [(0, .ref a0), (1, .int x1), (2, .int x2), (3, .int x3), (4, .int x4), (5, .int x5), (6, .int (x6 + 1))] [] h10 rc rs n0 Q X) ∧ (¬ r11 = 0 → ((hK h10 a0).1 = 8) ∧ ∃ b14, (hR h10 a0 2 = some b14) ∧ ((hK h10 b14).1 = 100) ∧ (vp_in 2 (hK h10 b14).2) ∧ ((¬ (hI h10 b14 (Int32.toNatClampNeg 2)) = 0 → (vp_in 2 (hK h10 b14).2) ∧ ((¬ (hI h10 b14 (Int32.toNatClampNeg 2)) = 0 → (vp_in 2 (hK h10 b14).2) ∧ ((¬ (hI h10 b14 (Int32.toNatClampNeg 2)) = 1 → ∃ (q23 : Int32 → PH → Prop), CI l x mX8_costOf 7 0 0 [.ref a0, .int s0, .int x1, .int x2, .int x3] h10 q23 ∧ ∀ (r26 : Int32) (h25 : PH), q23 r26 h25 → Gm l x mX8_chosen 8 9 [(0, .ref a0), (1, .int x1), (2, .int x2), (3, .int x3), (4, .int (if x4 = (-1) then s0 else (if r26 < x5 then s0 else x4 : Int32) : Int32)), (5, .int (if x4 = (-1) then r26 else (if r26 < x5 then r26 else x5 : Int32) : Int32)), (6, .int (x6 + 1))] [] h25 rc rs n0 Q X) ∧ ((hI h10 b14 (Int32.toNatClampNeg 2)) = 1 → ∃ (q29 : Int32 → PH → Prop), CI l x mX8_carOf 0 0 0 [.ref a0, .int s0, .int 0] h10 q29 ∧ ∀ (r32 : Int32) (h31 : PH), q29 r32 h31 → ((x4 = (-1) → Gm l x mX8_chosen 8 9 [(0, .ref a0), (1, .int x1), (2, .int x2), (3, .int x3), (4, .int s0), (5, .int (if 0 ≤ (r32 - x1) then (r32 - x1) else 0 - (r32 - x1))), (6, .int (x6 + 1))] [] h31 rc rs n0 Q X) ∧ (¬ x4 = (-1) → (((if 0 ≤ (r32 - x1) then (r32 - x1) else 0 - (r32 - x1)) < x5 → Gm l x mX8_chosen 8 9 [(0, .ref a0), (1, .int x1), (2, .int x2), (3, .int x3), (4, .int s0), (5, .int (if 0 ≤ (r32 - x1) then (r32 - x1) else 0 - (r32 - x1))), (6, .int (x6 + 1))] [] h31 rc rs n0 Q X) ∧ (¬ (if 0 ≤ (r32 - x1) then (r32 - x1) else 0 - (r32 - x1)) < x5 → Gm l x mX8_chosen 8 9 [(0, .ref a0), (1, .int x1), (2, .int x2), (3, .int x3), (4, .int x4), (5, .int x5), (6, .int (x6 + 1))] [] h31 rc rs n0 Q X))))))) ∧ ((hI h10 b14 (Int32.toNatClampNeg 2)) = 0 → Gm l x mX8_chosen 8 9 [(0, .ref a0), (1, .int x1), (2, .int x2), (3, .int x3), (4, .int (if x4 = (-1) then s0 else (if (0 : Int32) < x5 then s0 else x4 : Int32) : Int32)), (5, .int (if x4 = (-1) then 0 else (if (0 : Int32) < x5 then 0 else x5 : Int32) : Int32)), (6, .int (x6 + 1))] [] h10 rc rs n0 Q X))) ∧ ((hI h10 b14 (Int32.toNatClampNeg 2)) = 0 → ((x4 = (-1) → (vp_in 2 (hK h10 b14).2) ∧ ((¬ (hI h10 b14 (Int32.toNatClampNeg 2)) = 0 → (vp_in 2 (hK h10 b14).2) ∧ ((¬ (hI h10 b14 (Int32.toNatClampNeg 2)) = 1 → ∃ (q42 : Int32 → PH → Prop), CI l x mX8_costOf 7 0 0 [.ref a0, .int s0, .int x1, .int x2, .int x3] h10 q42 ∧ ∀ (r45 : Int32) (h44 : PH), q42 r45 h44 → Gm l x mX8_chosen 8 9 [(0, .ref a0), (1, .int x1), (2, .int x2), (3, .int x3), (4, .int (if x4 = (-1) then s0 else (if r45 < x5 then s0 else x4 : Int32) : Int32)), (5, .int (if x4 = (-1) then r45 else (if r45 < x5 then r45 else x5 : Int32) : Int32)), (6, .int (x6 + 1))] [] h44 rc rs n0 Q X) ∧ ((hI h10 b14 (Int32.toNatClampNeg 2)) = 1 → ∃ (q48 : Int32 → PH → Prop), CI l x mX8_carOf 0 0 0 [.ref a0, .int s0, .int 0] h10 q48 ∧ ∀ (r51 : Int32) (h50 : PH), q48 r51 h50 → ((x4 = (-1) → Gm l x mX8_chosen 8 9 [(0, .ref a0), (1, .int x1), (2, .int x2), (3, .int x3), (4, .int s0), (5, .int (if 0 ≤ (r51 - x1) then (r51 - x1) else 0 - (r51 - x1))), (6, .int (x6 + 1))] [] h50 rc rs n0 Q X) ∧ (¬ x4 = (-1) → (((if 0 ≤ (r51 - x1) then (r51 - x1) else 0 - (r51 - x1)) < x5 → Gm l x mX8_chosen 8 9 [(0, .ref a0), (1, .int x1), (2, .int x2), (3, .int x3), (4, .int s0), (5, .int (if 0 ≤ (r51 - x1) then (r51 - x1) else 0 - (r51 - x1))), (6, .int (x6 + 1))] [] h50 rc rs n0 Q X) ∧ (¬ (if 0 ≤ (r51 - x1) then (r51 - x1) else 0 - (r51 - x1)) < x5 → Gm l x mX8_chosen 8 9 [(0, .ref a0), (1, .int x1), (2, .int x2), (3, .int x3), (4, .int x4), (5, .int x5), (6, .int (x6 + 1))] [] h50 rc rs n0 Q X))))))) ∧ ((hI h10 b14 (Int32.toNatClampNeg 2)) = 0 → Gm l x mX8_chosen 8 9 [(0, .ref a0), (1, .int x1), (2, .int x2), (3, .int x3), (4, .int (if x4 = (-1) then s0 else (if (0 : Int32) < x5 then s0 else x4 : Int32) : Int32)), (5, .int (if x4 = (-1) then 0 else (if (0 : Int32) < x5 then 0 else x5 : Int32) : Int32)), (6, .int (x6 + 1))] [] h10 rc rs n0 Q X))) ∧ (¬ x4 = (-1) → Gm l x mX8_chosen 8 9 [(0, .ref a0), (1, .int x1), (2, .int x2), (3, .int x3), (4, .int x4), (5, .int x5), (6, .int (x6 + 1))] [] h10 rc rs n0 Q X))))))))) :
    Gm l x mX8_chosen 8 52 [(0, .ref a0), (1, .int x1), (2, .int x2), (3, .int x3), (4, .int x4), (5, .int x5), (6, .int x6)] [.int s0] h rc rs n0 Q X := by
  refine g_istore (lv' := [(0, .ref a0), (1, .int x1), (2, .int x2), (3, .int x3), (4, .int x4), (5, .int x5), (6, .int x6), (7, .int s0)]) dX8_chosen_52 (by decide) rfl ?_
  refine g_aload_n dX8_chosen_54 rfl 0 rfl ?_
  refine g_iload dX8_chosen_55 7 rfl ?_
  refine g_iconst (v := 4) dX8_chosen_57 (by decide) ?_
  obtain ⟨e3, K⟩ := K
  obtain ⟨q1, C2, K⟩ := K
  refine g_callV (M' := mX8_carOf) (b := a0) (As := [.int s0, .int 4]) (rest := []) (rc' := rc) (rs' := rs) dX8_chosen_58 bw_1476 bw_1478 bs_67 bw_9 bw_1479 ⟨by decide +kernel, by decide +kernel, show (parseMethodDescriptor mX8_carOf.1.desc).map (fun d => d.parameters.length) = some 2 by decide +kernel⟩ (by decide) (by decide) (Nat.le_of_ble_eq_true rfl) fc_8 (by decide) rfl e3 C2 (Nat.le_of_eq (Nat.add_zero _)) (Nat.le_of_eq (Nat.add_zero _)) (fun _ _ h => h) ?_
  rintro _ h4 ⟨r5, rfl, K1⟩ -
  replace K := K r5 h4 K1
  show Gm l x mX8_chosen 8 61 [(0, .ref a0), (1, .int x1), (2, .int x2), (3, .int x3), (4, .int x4), (5, .int x5), (6, .int x6), (7, .int s0)] [.int r5] h4 rc rs n0 Q X
  refine g_if_eq (tgt := 165) dX8_chosen_61 (by decide) (fun c6 => ?_) (fun c6 => ?_)
  · replace K := K.1 c6
    refine g_iinc (v := (x6 + 1)) (lv' := [(0, .ref a0), (1, .int x1), (2, .int x2), (3, .int x3), (4, .int x4), (5, .int x5), (6, .int (x6 + 1)), (7, .int s0)]) dX8_chosen_165 6 rfl (by rfl) (by decide) rfl ?_
    refine g_goto (tgt := 9) dX8_chosen_168 (by decide) ?_
    exact Gm.sub [0, 1, 2, 3, 4, 5, 6] rfl K
  · replace K := K.2 c6
    refine g_aload_n dX8_chosen_64 rfl 0 rfl ?_
    refine g_iload dX8_chosen_65 7 rfl ?_
    refine g_iload_n dX8_chosen_67 rfl 3 rfl ?_
    obtain ⟨e9, K⟩ := K
    obtain ⟨q7, C8, K⟩ := K
    refine g_callV (M' := mX8_takes) (b := a0) (As := [.int s0, .int x3]) (rest := []) (rc' := rc) (rs' := rs) dX8_chosen_68 bw_1485 bw_1487 bs_69 bw_9 bw_1488 ⟨by decide +kernel, by decide +kernel, show (parseMethodDescriptor mX8_takes.1.desc).map (fun d => d.parameters.length) = some 2 by decide +kernel⟩ (by decide) (by decide) (Nat.le_of_ble_eq_true rfl) fc_8 (by decide) rfl e9 C8 (Nat.le_of_eq (Nat.add_zero _)) (Nat.le_of_eq (Nat.add_zero _)) (fun _ _ h => h) ?_
    rintro _ h10 ⟨r11, rfl, K1⟩ -
    replace K := K r11 h10 K1
    show Gm l x mX8_chosen 8 71 [(0, .ref a0), (1, .int x1), (2, .int x2), (3, .int x3), (4, .int x4), (5, .int x5), (6, .int x6), (7, .int s0)] [.int r11] h10 rc rs n0 Q X
    refine g_if_eq (tgt := 165) dX8_chosen_71 (by decide) (fun c12 => ?_) (fun c12 => ?_)
    · replace K := K.1 c12
      refine g_iinc (v := (x6 + 1)) (lv' := [(0, .ref a0), (1, .int x1), (2, .int x2), (3, .int x3), (4, .int x4), (5, .int x5), (6, .int (x6 + 1)), (7, .int s0)]) dX8_chosen_165 6 rfl (by rfl) (by decide) rfl ?_
      refine g_goto (tgt := 9) dX8_chosen_168 (by decide) ?_
      exact Gm.sub [0, 1, 2, 3, 4, 5, 6] rfl K
    · replace K := K.2 c12
      refine g_aload_n dX8_chosen_74 rfl 0 rfl ?_
      obtain ⟨e13, b14, e15, K⟩ := K
      refine g_get (c := 8) (k := 2) (v := .ref b14) dX8_chosen_75 fc_8 (by decide) (by decide) bw_1200 (congrArg pr e15) e13 ?_
      refine g_iconst (v := 2) dX8_chosen_78 (by decide) ?_
      obtain ⟨e16, e17, K⟩ := K
      refine g_iald dX8_chosen_79 e16 e17 ?_
      refine g_if_ne (tgt := 92) dX8_chosen_80 (by decide) (fun c18 => ?_) (fun c18 => ?_)
      · replace K := K.1 c18
        refine g_aload_n dX8_chosen_92 rfl 0 rfl ?_
        refine g_get (c := 8) (k := 2) (v := .ref b14) dX8_chosen_93 fc_8 (by decide) (by decide) bw_1200 (congrArg pr e15) e13 ?_
        refine g_iconst (v := 2) dX8_chosen_96 (by decide) ?_
        obtain ⟨e19, K⟩ := K
        refine g_iald dX8_chosen_97 e16 e19 ?_
        refine g_if_ne (tgt := 105) dX8_chosen_98 (by decide) (fun c20 => ?_) (fun c20 => ?_)
        · replace K := K.1 c20
          refine g_aload_n dX8_chosen_105 rfl 0 rfl ?_
          refine g_get (c := 8) (k := 2) (v := .ref b14) dX8_chosen_106 fc_8 (by decide) (by decide) bw_1200 (congrArg pr e15) e13 ?_
          refine g_iconst (v := 2) dX8_chosen_109 (by decide) ?_
          obtain ⟨e21, K⟩ := K
          refine g_iald dX8_chosen_110 e16 e21 ?_
          refine g_iconst (v := 1) dX8_chosen_111 (by decide) ?_
          refine g_icmp_ne (tgt := 130) dX8_chosen_112 (by decide) (fun c22 => ?_) (fun c22 => ?_)
          · replace K := K.1 c22
            refine g_aload_n dX8_chosen_130 rfl 0 rfl ?_
            refine g_iload dX8_chosen_131 7 rfl ?_
            refine g_iload_n dX8_chosen_133 rfl 1 rfl ?_
            refine g_iload_n dX8_chosen_134 rfl 2 rfl ?_
            refine g_iload_n dX8_chosen_135 rfl 3 rfl ?_
            obtain ⟨q23, C24, K⟩ := K
            refine g_callV (M' := mX8_costOf) (b := a0) (As := [.int s0, .int x1, .int x2, .int x3]) (rest := []) (rc' := rc) (rs' := rs) dX8_chosen_136 bw_1489 bw_1491 bs_70 bw_9 bw_1492 ⟨by decide +kernel, by decide +kernel, show (parseMethodDescriptor mX8_costOf.1.desc).map (fun d => d.parameters.length) = some 4 by decide +kernel⟩ (by decide) (by decide) (Nat.le_of_ble_eq_true rfl) fc_8 (by decide) rfl e13 C24 (Nat.le_of_eq (Nat.add_zero _)) (Nat.le_of_eq (Nat.add_zero _)) (fun _ _ h => h) ?_
            rintro _ h25 ⟨r26, rfl, K1⟩ -
            replace K := K r26 h25 K1
            show Gm l x mX8_chosen 8 139 [(0, .ref a0), (1, .int x1), (2, .int x2), (3, .int x3), (4, .int x4), (5, .int x5), (6, .int x6), (7, .int s0)] [.int r26] h25 rc rs n0 Q X
            refine g_istore (lv' := [(0, .ref a0), (1, .int x1), (2, .int x2), (3, .int x3), (4, .int x4), (5, .int x5), (6, .int x6), (7, .int s0), (8, .int r26)]) dX8_chosen_139 (by decide) rfl ?_
            refine g_iload dX8_chosen_141 4 rfl ?_
            refine g_iconst (v := (-1)) dX8_chosen_143 (by decide) ?_
            have KJ : Gm l x mX8_chosen 8 165 [(0, .ref a0), (1, .int x1), (2, .int x2), (3, .int x3), (4, .int (if x4 = (-1) then s0 else (if r26 < x5 then s0 else x4 : Int32) : Int32)), (5, .int (if x4 = (-1) then r26 else (if r26 < x5 then r26 else x5 : Int32) : Int32)), (6, .int x6), (7, .int s0), (8, .int r26)] [] h25 rc rs n0 Q X := by
              refine g_iinc (v := (x6 + 1)) (lv' := [(0, .ref a0), (1, .int x1), (2, .int x2), (3, .int x3), (4, .int (if x4 = (-1) then s0 else (if r26 < x5 then s0 else x4 : Int32) : Int32)), (5, .int (if x4 = (-1) then r26 else (if r26 < x5 then r26 else x5 : Int32) : Int32)), (6, .int (x6 + 1)), (7, .int s0), (8, .int r26)]) dX8_chosen_165 6 rfl (by rfl) (by decide) rfl ?_
              refine g_goto (tgt := 9) dX8_chosen_168 (by decide) ?_
              exact Gm.sub [0, 1, 2, 3, 4, 5, 6] rfl K
            refine g_icmp_eq (tgt := 157) dX8_chosen_144 (by decide) (fun c27 => ?_) (fun c27 => ?_)
            · refine g_iload dX8_chosen_157 7 rfl ?_
              refine g_istore (lv' := [(0, .ref a0), (1, .int x1), (2, .int x2), (3, .int x3), (4, .int s0), (5, .int x5), (6, .int x6), (7, .int s0), (8, .int r26)]) dX8_chosen_159 (by decide) rfl ?_
              refine g_iload dX8_chosen_161 8 rfl ?_
              refine g_istore (lv' := [(0, .ref a0), (1, .int x1), (2, .int x2), (3, .int x3), (4, .int s0), (5, .int r26), (6, .int x6), (7, .int s0), (8, .int r26)]) dX8_chosen_163 (by decide) rfl ?_
              first | (simp only [if_pos c27] at KJ; exact KJ) | (simp only [if_pos c27, ite_true, ite_false, eq_self] at KJ; exact KJ) | (simp only [if_pos c27] at KJ ⊢; exact KJ) | exact KJ
            · refine g_iload dX8_chosen_147 8 rfl ?_
              refine g_iload dX8_chosen_149 5 rfl ?_
              refine g_icmp_lt (tgt := 157) dX8_chosen_151 (by decide) (fun c28 => ?_) (fun c28 => ?_)
              · refine g_iload dX8_chosen_157 7 rfl ?_
                refine g_istore (lv' := [(0, .ref a0), (1, .int x1), (2, .int x2), (3, .int x3), (4, .int s0), (5, .int x5), (6, .int x6), (7, .int s0), (8, .int r26)]) dX8_chosen_159 (by decide) rfl ?_
                refine g_iload dX8_chosen_161 8 rfl ?_
                refine g_istore (lv' := [(0, .ref a0), (1, .int x1), (2, .int x2), (3, .int x3), (4, .int s0), (5, .int r26), (6, .int x6), (7, .int s0), (8, .int r26)]) dX8_chosen_163 (by decide) rfl ?_
                first | (simp only [if_neg c27, if_pos c28] at KJ; exact KJ) | (simp only [if_neg c27, if_pos c28, ite_true, ite_false, eq_self] at KJ; exact KJ) | (simp only [if_neg c27, if_pos c28] at KJ ⊢; exact KJ) | exact KJ
              · refine g_goto (tgt := 165) dX8_chosen_154 (by decide) ?_
                first | (simp only [if_neg c27, if_neg c28] at KJ; exact KJ) | (simp only [if_neg c27, if_neg c28, ite_true, ite_false, eq_self] at KJ; exact KJ) | (simp only [if_neg c27, if_neg c28] at KJ ⊢; exact KJ) | exact KJ
          · replace K := K.2 c22
            refine g_aload_n dX8_chosen_115 rfl 0 rfl ?_
            refine g_iload dX8_chosen_116 7 rfl ?_
            refine g_iconst (v := 0) dX8_chosen_118 (by decide) ?_
            obtain ⟨q29, C30, K⟩ := K
            refine g_callV (M' := mX8_carOf) (b := a0) (As := [.int s0, .int 0]) (rest := []) (rc' := rc) (rs' := rs) dX8_chosen_119 bw_1476 bw_1478 bs_67 bw_9 bw_1479 ⟨by decide +kernel, by decide +kernel, show (parseMethodDescriptor mX8_carOf.1.desc).map (fun d => d.parameters.length) = some 2 by decide +kernel⟩ (by decide) (by decide) (Nat.le_of_ble_eq_true rfl) fc_8 (by decide) rfl e13 C30 (Nat.le_of_eq (Nat.add_zero _)) (Nat.le_of_eq (Nat.add_zero _)) (fun _ _ h => h) ?_
            rintro _ h31 ⟨r32, rfl, K1⟩ -
            replace K := K r32 h31 K1
            show Gm l x mX8_chosen 8 122 [(0, .ref a0), (1, .int x1), (2, .int x2), (3, .int x3), (4, .int x4), (5, .int x5), (6, .int x6), (7, .int s0)] [.int r32] h31 rc rs n0 Q X
            refine g_iload_n dX8_chosen_122 rfl 1 rfl ?_
            refine g_isub dX8_chosen_123 ?_
            refine g_abs dX8_chosen_124 bw_1480 bw_542 bw_14 bw_543 (by decide) (Nat.le_of_ble_eq_true rfl) ?_
            refine g_goto (tgt := 139) dX8_chosen_127 (by decide) ?_
            refine g_istore (lv' := [(0, .ref a0), (1, .int x1), (2, .int x2), (3, .int x3), (4, .int x4), (5, .int x5), (6, .int x6), (7, .int s0), (8, .int (if 0 ≤ (r32 - x1) then (r32 - x1) else 0 - (r32 - x1)))]) dX8_chosen_139 (by decide) rfl ?_
            refine g_iload dX8_chosen_141 4 rfl ?_
            refine g_iconst (v := (-1)) dX8_chosen_143 (by decide) ?_
            refine g_icmp_eq (tgt := 157) dX8_chosen_144 (by decide) (fun c33 => ?_) (fun c33 => ?_)
            · replace K := K.1 c33
              refine g_iload dX8_chosen_157 7 rfl ?_
              refine g_istore (lv' := [(0, .ref a0), (1, .int x1), (2, .int x2), (3, .int x3), (4, .int s0), (5, .int x5), (6, .int x6), (7, .int s0), (8, .int (if 0 ≤ (r32 - x1) then (r32 - x1) else 0 - (r32 - x1)))]) dX8_chosen_159 (by decide) rfl ?_
              refine g_iload dX8_chosen_161 8 rfl ?_
              refine g_istore (lv' := [(0, .ref a0), (1, .int x1), (2, .int x2), (3, .int x3), (4, .int s0), (5, .int (if 0 ≤ (r32 - x1) then (r32 - x1) else 0 - (r32 - x1))), (6, .int x6), (7, .int s0), (8, .int (if 0 ≤ (r32 - x1) then (r32 - x1) else 0 - (r32 - x1)))]) dX8_chosen_163 (by decide) rfl ?_
              refine g_iinc (v := (x6 + 1)) (lv' := [(0, .ref a0), (1, .int x1), (2, .int x2), (3, .int x3), (4, .int s0), (5, .int (if 0 ≤ (r32 - x1) then (r32 - x1) else 0 - (r32 - x1))), (6, .int (x6 + 1)), (7, .int s0), (8, .int (if 0 ≤ (r32 - x1) then (r32 - x1) else 0 - (r32 - x1)))]) dX8_chosen_165 6 rfl (by rfl) (by decide) rfl ?_
              refine g_goto (tgt := 9) dX8_chosen_168 (by decide) ?_
              exact Gm.sub [0, 1, 2, 3, 4, 5, 6] rfl K
            · replace K := K.2 c33
              refine g_iload dX8_chosen_147 8 rfl ?_
              refine g_iload dX8_chosen_149 5 rfl ?_
              refine g_icmp_lt (tgt := 157) dX8_chosen_151 (by decide) (fun c34 => ?_) (fun c34 => ?_)
              · replace K := K.1 c34
                refine g_iload dX8_chosen_157 7 rfl ?_
                refine g_istore (lv' := [(0, .ref a0), (1, .int x1), (2, .int x2), (3, .int x3), (4, .int s0), (5, .int x5), (6, .int x6), (7, .int s0), (8, .int (if 0 ≤ (r32 - x1) then (r32 - x1) else 0 - (r32 - x1)))]) dX8_chosen_159 (by decide) rfl ?_
                refine g_iload dX8_chosen_161 8 rfl ?_
                refine g_istore (lv' := [(0, .ref a0), (1, .int x1), (2, .int x2), (3, .int x3), (4, .int s0), (5, .int (if 0 ≤ (r32 - x1) then (r32 - x1) else 0 - (r32 - x1))), (6, .int x6), (7, .int s0), (8, .int (if 0 ≤ (r32 - x1) then (r32 - x1) else 0 - (r32 - x1)))]) dX8_chosen_163 (by decide) rfl ?_
                refine g_iinc (v := (x6 + 1)) (lv' := [(0, .ref a0), (1, .int x1), (2, .int x2), (3, .int x3), (4, .int s0), (5, .int (if 0 ≤ (r32 - x1) then (r32 - x1) else 0 - (r32 - x1))), (6, .int (x6 + 1)), (7, .int s0), (8, .int (if 0 ≤ (r32 - x1) then (r32 - x1) else 0 - (r32 - x1)))]) dX8_chosen_165 6 rfl (by rfl) (by decide) rfl ?_
                refine g_goto (tgt := 9) dX8_chosen_168 (by decide) ?_
                exact Gm.sub [0, 1, 2, 3, 4, 5, 6] rfl K
              · replace K := K.2 c34
                refine g_goto (tgt := 165) dX8_chosen_154 (by decide) ?_
                refine g_iinc (v := (x6 + 1)) (lv' := [(0, .ref a0), (1, .int x1), (2, .int x2), (3, .int x3), (4, .int x4), (5, .int x5), (6, .int (x6 + 1)), (7, .int s0), (8, .int (if 0 ≤ (r32 - x1) then (r32 - x1) else 0 - (r32 - x1)))]) dX8_chosen_165 6 rfl (by rfl) (by decide) rfl ?_
                refine g_goto (tgt := 9) dX8_chosen_168 (by decide) ?_
                exact Gm.sub [0, 1, 2, 3, 4, 5, 6] rfl K
        · replace K := K.2 c20
          refine g_iconst (v := 0) dX8_chosen_101 (by decide) ?_
          refine g_goto (tgt := 139) dX8_chosen_102 (by decide) ?_
          refine g_istore (lv' := [(0, .ref a0), (1, .int x1), (2, .int x2), (3, .int x3), (4, .int x4), (5, .int x5), (6, .int x6), (7, .int s0), (8, .int 0)]) dX8_chosen_139 (by decide) rfl ?_
          refine g_iload dX8_chosen_141 4 rfl ?_
          refine g_iconst (v := (-1)) dX8_chosen_143 (by decide) ?_
          have KJ : Gm l x mX8_chosen 8 165 [(0, .ref a0), (1, .int x1), (2, .int x2), (3, .int x3), (4, .int (if x4 = (-1) then s0 else (if (0 : Int32) < x5 then s0 else x4 : Int32) : Int32)), (5, .int (if x4 = (-1) then 0 else (if (0 : Int32) < x5 then 0 else x5 : Int32) : Int32)), (6, .int x6), (7, .int s0), (8, .int 0)] [] h10 rc rs n0 Q X := by
            refine g_iinc (v := (x6 + 1)) (lv' := [(0, .ref a0), (1, .int x1), (2, .int x2), (3, .int x3), (4, .int (if x4 = (-1) then s0 else (if (0 : Int32) < x5 then s0 else x4 : Int32) : Int32)), (5, .int (if x4 = (-1) then 0 else (if (0 : Int32) < x5 then 0 else x5 : Int32) : Int32)), (6, .int (x6 + 1)), (7, .int s0), (8, .int 0)]) dX8_chosen_165 6 rfl (by rfl) (by decide) rfl ?_
            refine g_goto (tgt := 9) dX8_chosen_168 (by decide) ?_
            exact Gm.sub [0, 1, 2, 3, 4, 5, 6] rfl K
          refine g_icmp_eq (tgt := 157) dX8_chosen_144 (by decide) (fun c35 => ?_) (fun c35 => ?_)
          · refine g_iload dX8_chosen_157 7 rfl ?_
            refine g_istore (lv' := [(0, .ref a0), (1, .int x1), (2, .int x2), (3, .int x3), (4, .int s0), (5, .int x5), (6, .int x6), (7, .int s0), (8, .int 0)]) dX8_chosen_159 (by decide) rfl ?_
            refine g_iload dX8_chosen_161 8 rfl ?_
            refine g_istore (lv' := [(0, .ref a0), (1, .int x1), (2, .int x2), (3, .int x3), (4, .int s0), (5, .int 0), (6, .int x6), (7, .int s0), (8, .int 0)]) dX8_chosen_163 (by decide) rfl ?_
            first | (simp only [if_pos c35] at KJ; exact KJ) | (simp only [if_pos c35, ite_true, ite_false, eq_self] at KJ; exact KJ) | (simp only [if_pos c35] at KJ ⊢; exact KJ) | exact KJ
          · refine g_iload dX8_chosen_147 8 rfl ?_
            refine g_iload dX8_chosen_149 5 rfl ?_
            refine g_icmp_lt (tgt := 157) dX8_chosen_151 (by decide) (fun c36 => ?_) (fun c36 => ?_)
            · refine g_iload dX8_chosen_157 7 rfl ?_
              refine g_istore (lv' := [(0, .ref a0), (1, .int x1), (2, .int x2), (3, .int x3), (4, .int s0), (5, .int x5), (6, .int x6), (7, .int s0), (8, .int 0)]) dX8_chosen_159 (by decide) rfl ?_
              refine g_iload dX8_chosen_161 8 rfl ?_
              refine g_istore (lv' := [(0, .ref a0), (1, .int x1), (2, .int x2), (3, .int x3), (4, .int s0), (5, .int 0), (6, .int x6), (7, .int s0), (8, .int 0)]) dX8_chosen_163 (by decide) rfl ?_
              first | (simp only [if_neg c35, if_pos c36] at KJ; exact KJ) | (simp only [if_neg c35, if_pos c36, ite_true, ite_false, eq_self] at KJ; exact KJ) | (simp only [if_neg c35, if_pos c36] at KJ ⊢; exact KJ) | exact KJ
            · refine g_goto (tgt := 165) dX8_chosen_154 (by decide) ?_
              first | (simp only [if_neg c35, if_neg c36] at KJ; exact KJ) | (simp only [if_neg c35, if_neg c36, ite_true, ite_false, eq_self] at KJ; exact KJ) | (simp only [if_neg c35, if_neg c36] at KJ ⊢; exact KJ) | exact KJ
      · replace K := K.2 c18
        refine g_iload dX8_chosen_83 4 rfl ?_
        refine g_iconst (v := (-1)) dX8_chosen_85 (by decide) ?_
        refine g_icmp_eq (tgt := 92) dX8_chosen_86 (by decide) (fun c37 => ?_) (fun c37 => ?_)
        · replace K := K.1 c37
          refine g_aload_n dX8_chosen_92 rfl 0 rfl ?_
          refine g_get (c := 8) (k := 2) (v := .ref b14) dX8_chosen_93 fc_8 (by decide) (by decide) bw_1200 (congrArg pr e15) e13 ?_
          refine g_iconst (v := 2) dX8_chosen_96 (by decide) ?_
          obtain ⟨e38, K⟩ := K
          refine g_iald dX8_chosen_97 e16 e38 ?_
          refine g_if_ne (tgt := 105) dX8_chosen_98 (by decide) (fun c39 => ?_) (fun c39 => ?_)
          · replace K := K.1 c39
            refine g_aload_n dX8_chosen_105 rfl 0 rfl ?_
            refine g_get (c := 8) (k := 2) (v := .ref b14) dX8_chosen_106 fc_8 (by decide) (by decide) bw_1200 (congrArg pr e15) e13 ?_
            refine g_iconst (v := 2) dX8_chosen_109 (by decide) ?_
            obtain ⟨e40, K⟩ := K
            refine g_iald dX8_chosen_110 e16 e40 ?_
            refine g_iconst (v := 1) dX8_chosen_111 (by decide) ?_
            refine g_icmp_ne (tgt := 130) dX8_chosen_112 (by decide) (fun c41 => ?_) (fun c41 => ?_)
            · replace K := K.1 c41
              refine g_aload_n dX8_chosen_130 rfl 0 rfl ?_
              refine g_iload dX8_chosen_131 7 rfl ?_
              refine g_iload_n dX8_chosen_133 rfl 1 rfl ?_
              refine g_iload_n dX8_chosen_134 rfl 2 rfl ?_
              refine g_iload_n dX8_chosen_135 rfl 3 rfl ?_
              obtain ⟨q42, C43, K⟩ := K
              refine g_callV (M' := mX8_costOf) (b := a0) (As := [.int s0, .int x1, .int x2, .int x3]) (rest := []) (rc' := rc) (rs' := rs) dX8_chosen_136 bw_1489 bw_1491 bs_70 bw_9 bw_1492 ⟨by decide +kernel, by decide +kernel, show (parseMethodDescriptor mX8_costOf.1.desc).map (fun d => d.parameters.length) = some 4 by decide +kernel⟩ (by decide) (by decide) (Nat.le_of_ble_eq_true rfl) fc_8 (by decide) rfl e13 C43 (Nat.le_of_eq (Nat.add_zero _)) (Nat.le_of_eq (Nat.add_zero _)) (fun _ _ h => h) ?_
              rintro _ h44 ⟨r45, rfl, K1⟩ -
              replace K := K r45 h44 K1
              show Gm l x mX8_chosen 8 139 [(0, .ref a0), (1, .int x1), (2, .int x2), (3, .int x3), (4, .int x4), (5, .int x5), (6, .int x6), (7, .int s0)] [.int r45] h44 rc rs n0 Q X
              refine g_istore (lv' := [(0, .ref a0), (1, .int x1), (2, .int x2), (3, .int x3), (4, .int x4), (5, .int x5), (6, .int x6), (7, .int s0), (8, .int r45)]) dX8_chosen_139 (by decide) rfl ?_
              refine g_iload dX8_chosen_141 4 rfl ?_
              refine g_iconst (v := (-1)) dX8_chosen_143 (by decide) ?_
              have KJ : Gm l x mX8_chosen 8 165 [(0, .ref a0), (1, .int x1), (2, .int x2), (3, .int x3), (4, .int (if x4 = (-1) then s0 else (if r45 < x5 then s0 else x4 : Int32) : Int32)), (5, .int (if x4 = (-1) then r45 else (if r45 < x5 then r45 else x5 : Int32) : Int32)), (6, .int x6), (7, .int s0), (8, .int r45)] [] h44 rc rs n0 Q X := by
                refine g_iinc (v := (x6 + 1)) (lv' := [(0, .ref a0), (1, .int x1), (2, .int x2), (3, .int x3), (4, .int (if x4 = (-1) then s0 else (if r45 < x5 then s0 else x4 : Int32) : Int32)), (5, .int (if x4 = (-1) then r45 else (if r45 < x5 then r45 else x5 : Int32) : Int32)), (6, .int (x6 + 1)), (7, .int s0), (8, .int r45)]) dX8_chosen_165 6 rfl (by rfl) (by decide) rfl ?_
                refine g_goto (tgt := 9) dX8_chosen_168 (by decide) ?_
                exact Gm.sub [0, 1, 2, 3, 4, 5, 6] rfl K
              refine g_icmp_eq (tgt := 157) dX8_chosen_144 (by decide) (fun c46 => ?_) (fun c46 => ?_)
              · refine g_iload dX8_chosen_157 7 rfl ?_
                refine g_istore (lv' := [(0, .ref a0), (1, .int x1), (2, .int x2), (3, .int x3), (4, .int s0), (5, .int x5), (6, .int x6), (7, .int s0), (8, .int r45)]) dX8_chosen_159 (by decide) rfl ?_
                refine g_iload dX8_chosen_161 8 rfl ?_
                refine g_istore (lv' := [(0, .ref a0), (1, .int x1), (2, .int x2), (3, .int x3), (4, .int s0), (5, .int r45), (6, .int x6), (7, .int s0), (8, .int r45)]) dX8_chosen_163 (by decide) rfl ?_
                first | (simp only [if_pos c46] at KJ; exact KJ) | (simp only [if_pos c46, ite_true, ite_false, eq_self] at KJ; exact KJ) | (simp only [if_pos c46] at KJ ⊢; exact KJ) | exact KJ
              · refine g_iload dX8_chosen_147 8 rfl ?_
                refine g_iload dX8_chosen_149 5 rfl ?_
                refine g_icmp_lt (tgt := 157) dX8_chosen_151 (by decide) (fun c47 => ?_) (fun c47 => ?_)
                · refine g_iload dX8_chosen_157 7 rfl ?_
                  refine g_istore (lv' := [(0, .ref a0), (1, .int x1), (2, .int x2), (3, .int x3), (4, .int s0), (5, .int x5), (6, .int x6), (7, .int s0), (8, .int r45)]) dX8_chosen_159 (by decide) rfl ?_
                  refine g_iload dX8_chosen_161 8 rfl ?_
                  refine g_istore (lv' := [(0, .ref a0), (1, .int x1), (2, .int x2), (3, .int x3), (4, .int s0), (5, .int r45), (6, .int x6), (7, .int s0), (8, .int r45)]) dX8_chosen_163 (by decide) rfl ?_
                  first | (simp only [if_neg c46, if_pos c47] at KJ; exact KJ) | (simp only [if_neg c46, if_pos c47, ite_true, ite_false, eq_self] at KJ; exact KJ) | (simp only [if_neg c46, if_pos c47] at KJ ⊢; exact KJ) | exact KJ
                · refine g_goto (tgt := 165) dX8_chosen_154 (by decide) ?_
                  first | (simp only [if_neg c46, if_neg c47] at KJ; exact KJ) | (simp only [if_neg c46, if_neg c47, ite_true, ite_false, eq_self] at KJ; exact KJ) | (simp only [if_neg c46, if_neg c47] at KJ ⊢; exact KJ) | exact KJ
            · replace K := K.2 c41
              refine g_aload_n dX8_chosen_115 rfl 0 rfl ?_
              refine g_iload dX8_chosen_116 7 rfl ?_
              refine g_iconst (v := 0) dX8_chosen_118 (by decide) ?_
              obtain ⟨q48, C49, K⟩ := K
              refine g_callV (M' := mX8_carOf) (b := a0) (As := [.int s0, .int 0]) (rest := []) (rc' := rc) (rs' := rs) dX8_chosen_119 bw_1476 bw_1478 bs_67 bw_9 bw_1479 ⟨by decide +kernel, by decide +kernel, show (parseMethodDescriptor mX8_carOf.1.desc).map (fun d => d.parameters.length) = some 2 by decide +kernel⟩ (by decide) (by decide) (Nat.le_of_ble_eq_true rfl) fc_8 (by decide) rfl e13 C49 (Nat.le_of_eq (Nat.add_zero _)) (Nat.le_of_eq (Nat.add_zero _)) (fun _ _ h => h) ?_
              rintro _ h50 ⟨r51, rfl, K1⟩ -
              replace K := K r51 h50 K1
              show Gm l x mX8_chosen 8 122 [(0, .ref a0), (1, .int x1), (2, .int x2), (3, .int x3), (4, .int x4), (5, .int x5), (6, .int x6), (7, .int s0)] [.int r51] h50 rc rs n0 Q X
              refine g_iload_n dX8_chosen_122 rfl 1 rfl ?_
              refine g_isub dX8_chosen_123 ?_
              refine g_abs dX8_chosen_124 bw_1480 bw_542 bw_14 bw_543 (by decide) (Nat.le_of_ble_eq_true rfl) ?_
              refine g_goto (tgt := 139) dX8_chosen_127 (by decide) ?_
              refine g_istore (lv' := [(0, .ref a0), (1, .int x1), (2, .int x2), (3, .int x3), (4, .int x4), (5, .int x5), (6, .int x6), (7, .int s0), (8, .int (if 0 ≤ (r51 - x1) then (r51 - x1) else 0 - (r51 - x1)))]) dX8_chosen_139 (by decide) rfl ?_
              refine g_iload dX8_chosen_141 4 rfl ?_
              refine g_iconst (v := (-1)) dX8_chosen_143 (by decide) ?_
              refine g_icmp_eq (tgt := 157) dX8_chosen_144 (by decide) (fun c52 => ?_) (fun c52 => ?_)
              · replace K := K.1 c52
                refine g_iload dX8_chosen_157 7 rfl ?_
                refine g_istore (lv' := [(0, .ref a0), (1, .int x1), (2, .int x2), (3, .int x3), (4, .int s0), (5, .int x5), (6, .int x6), (7, .int s0), (8, .int (if 0 ≤ (r51 - x1) then (r51 - x1) else 0 - (r51 - x1)))]) dX8_chosen_159 (by decide) rfl ?_
                refine g_iload dX8_chosen_161 8 rfl ?_
                refine g_istore (lv' := [(0, .ref a0), (1, .int x1), (2, .int x2), (3, .int x3), (4, .int s0), (5, .int (if 0 ≤ (r51 - x1) then (r51 - x1) else 0 - (r51 - x1))), (6, .int x6), (7, .int s0), (8, .int (if 0 ≤ (r51 - x1) then (r51 - x1) else 0 - (r51 - x1)))]) dX8_chosen_163 (by decide) rfl ?_
                refine g_iinc (v := (x6 + 1)) (lv' := [(0, .ref a0), (1, .int x1), (2, .int x2), (3, .int x3), (4, .int s0), (5, .int (if 0 ≤ (r51 - x1) then (r51 - x1) else 0 - (r51 - x1))), (6, .int (x6 + 1)), (7, .int s0), (8, .int (if 0 ≤ (r51 - x1) then (r51 - x1) else 0 - (r51 - x1)))]) dX8_chosen_165 6 rfl (by rfl) (by decide) rfl ?_
                refine g_goto (tgt := 9) dX8_chosen_168 (by decide) ?_
                exact Gm.sub [0, 1, 2, 3, 4, 5, 6] rfl K
              · replace K := K.2 c52
                refine g_iload dX8_chosen_147 8 rfl ?_
                refine g_iload dX8_chosen_149 5 rfl ?_
                refine g_icmp_lt (tgt := 157) dX8_chosen_151 (by decide) (fun c53 => ?_) (fun c53 => ?_)
                · replace K := K.1 c53
                  refine g_iload dX8_chosen_157 7 rfl ?_
                  refine g_istore (lv' := [(0, .ref a0), (1, .int x1), (2, .int x2), (3, .int x3), (4, .int s0), (5, .int x5), (6, .int x6), (7, .int s0), (8, .int (if 0 ≤ (r51 - x1) then (r51 - x1) else 0 - (r51 - x1)))]) dX8_chosen_159 (by decide) rfl ?_
                  refine g_iload dX8_chosen_161 8 rfl ?_
                  refine g_istore (lv' := [(0, .ref a0), (1, .int x1), (2, .int x2), (3, .int x3), (4, .int s0), (5, .int (if 0 ≤ (r51 - x1) then (r51 - x1) else 0 - (r51 - x1))), (6, .int x6), (7, .int s0), (8, .int (if 0 ≤ (r51 - x1) then (r51 - x1) else 0 - (r51 - x1)))]) dX8_chosen_163 (by decide) rfl ?_
                  refine g_iinc (v := (x6 + 1)) (lv' := [(0, .ref a0), (1, .int x1), (2, .int x2), (3, .int x3), (4, .int s0), (5, .int (if 0 ≤ (r51 - x1) then (r51 - x1) else 0 - (r51 - x1))), (6, .int (x6 + 1)), (7, .int s0), (8, .int (if 0 ≤ (r51 - x1) then (r51 - x1) else 0 - (r51 - x1)))]) dX8_chosen_165 6 rfl (by rfl) (by decide) rfl ?_
                  refine g_goto (tgt := 9) dX8_chosen_168 (by decide) ?_
                  exact Gm.sub [0, 1, 2, 3, 4, 5, 6] rfl K
                · replace K := K.2 c53
                  refine g_goto (tgt := 165) dX8_chosen_154 (by decide) ?_
                  refine g_iinc (v := (x6 + 1)) (lv' := [(0, .ref a0), (1, .int x1), (2, .int x2), (3, .int x3), (4, .int x4), (5, .int x5), (6, .int (x6 + 1)), (7, .int s0), (8, .int (if 0 ≤ (r51 - x1) then (r51 - x1) else 0 - (r51 - x1)))]) dX8_chosen_165 6 rfl (by rfl) (by decide) rfl ?_
                  refine g_goto (tgt := 9) dX8_chosen_168 (by decide) ?_
                  exact Gm.sub [0, 1, 2, 3, 4, 5, 6] rfl K
          · replace K := K.2 c39
            refine g_iconst (v := 0) dX8_chosen_101 (by decide) ?_
            refine g_goto (tgt := 139) dX8_chosen_102 (by decide) ?_
            refine g_istore (lv' := [(0, .ref a0), (1, .int x1), (2, .int x2), (3, .int x3), (4, .int x4), (5, .int x5), (6, .int x6), (7, .int s0), (8, .int 0)]) dX8_chosen_139 (by decide) rfl ?_
            refine g_iload dX8_chosen_141 4 rfl ?_
            refine g_iconst (v := (-1)) dX8_chosen_143 (by decide) ?_
            have KJ : Gm l x mX8_chosen 8 165 [(0, .ref a0), (1, .int x1), (2, .int x2), (3, .int x3), (4, .int (if x4 = (-1) then s0 else (if (0 : Int32) < x5 then s0 else x4 : Int32) : Int32)), (5, .int (if x4 = (-1) then 0 else (if (0 : Int32) < x5 then 0 else x5 : Int32) : Int32)), (6, .int x6), (7, .int s0), (8, .int 0)] [] h10 rc rs n0 Q X := by
              refine g_iinc (v := (x6 + 1)) (lv' := [(0, .ref a0), (1, .int x1), (2, .int x2), (3, .int x3), (4, .int (if x4 = (-1) then s0 else (if (0 : Int32) < x5 then s0 else x4 : Int32) : Int32)), (5, .int (if x4 = (-1) then 0 else (if (0 : Int32) < x5 then 0 else x5 : Int32) : Int32)), (6, .int (x6 + 1)), (7, .int s0), (8, .int 0)]) dX8_chosen_165 6 rfl (by rfl) (by decide) rfl ?_
              refine g_goto (tgt := 9) dX8_chosen_168 (by decide) ?_
              exact Gm.sub [0, 1, 2, 3, 4, 5, 6] rfl K
            refine g_icmp_eq (tgt := 157) dX8_chosen_144 (by decide) (fun c54 => ?_) (fun c54 => ?_)
            · refine g_iload dX8_chosen_157 7 rfl ?_
              refine g_istore (lv' := [(0, .ref a0), (1, .int x1), (2, .int x2), (3, .int x3), (4, .int s0), (5, .int x5), (6, .int x6), (7, .int s0), (8, .int 0)]) dX8_chosen_159 (by decide) rfl ?_
              refine g_iload dX8_chosen_161 8 rfl ?_
              refine g_istore (lv' := [(0, .ref a0), (1, .int x1), (2, .int x2), (3, .int x3), (4, .int s0), (5, .int 0), (6, .int x6), (7, .int s0), (8, .int 0)]) dX8_chosen_163 (by decide) rfl ?_
              first | (simp only [if_pos c54] at KJ; exact KJ) | (simp only [if_pos c54, ite_true, ite_false, eq_self] at KJ; exact KJ) | (simp only [if_pos c54] at KJ ⊢; exact KJ) | exact KJ
            · refine g_iload dX8_chosen_147 8 rfl ?_
              refine g_iload dX8_chosen_149 5 rfl ?_
              refine g_icmp_lt (tgt := 157) dX8_chosen_151 (by decide) (fun c55 => ?_) (fun c55 => ?_)
              · refine g_iload dX8_chosen_157 7 rfl ?_
                refine g_istore (lv' := [(0, .ref a0), (1, .int x1), (2, .int x2), (3, .int x3), (4, .int s0), (5, .int x5), (6, .int x6), (7, .int s0), (8, .int 0)]) dX8_chosen_159 (by decide) rfl ?_
                refine g_iload dX8_chosen_161 8 rfl ?_
                refine g_istore (lv' := [(0, .ref a0), (1, .int x1), (2, .int x2), (3, .int x3), (4, .int s0), (5, .int 0), (6, .int x6), (7, .int s0), (8, .int 0)]) dX8_chosen_163 (by decide) rfl ?_
                first | (simp only [if_neg c54, if_pos c55] at KJ; exact KJ) | (simp only [if_neg c54, if_pos c55, ite_true, ite_false, eq_self] at KJ; exact KJ) | (simp only [if_neg c54, if_pos c55] at KJ ⊢; exact KJ) | exact KJ
              · refine g_goto (tgt := 165) dX8_chosen_154 (by decide) ?_
                first | (simp only [if_neg c54, if_neg c55] at KJ; exact KJ) | (simp only [if_neg c54, if_neg c55, ite_true, ite_false, eq_self] at KJ; exact KJ) | (simp only [if_neg c54, if_neg c55] at KJ ⊢; exact KJ) | exact KJ
        · replace K := K.2 c37
          refine g_goto (tgt := 165) dX8_chosen_89 (by decide) ?_
          refine g_iinc (v := (x6 + 1)) (lv' := [(0, .ref a0), (1, .int x1), (2, .int x2), (3, .int x3), (4, .int x4), (5, .int x5), (6, .int (x6 + 1)), (7, .int s0)]) dX8_chosen_165 6 rfl (by rfl) (by decide) rfl ?_
          refine g_goto (tgt := 9) dX8_chosen_168 (by decide) ?_
          exact Gm.sub [0, 1, 2, 3, 4, 5, 6] rfl K
theorem dX8_cost_0 : decode cX8_cost 0 = .ok (.aload_n 0, 1) := by decide +kernel
theorem dX8_cost_1 : decode cX8_cost 1 = .ok (.iconst 0, 1) := by decide +kernel
theorem dX8_cost_2 : decode cX8_cost 2 = .ok (.putfield 104, 3) := by decide +kernel
theorem dX8_cost_5 : decode cX8_cost 5 = .ok (.aload_n 0, 1) := by decide +kernel
theorem dX8_cost_6 : decode cX8_cost 6 = .ok (.iload_n 1, 1) := by decide +kernel
theorem dX8_cost_7 : decode cX8_cost 7 = .ok (.invokevirtual 393, 3) := by decide +kernel
theorem dX8_cost_10 : decode cX8_cost 10 = .ok (.ifCond .eq 21, 3) := by decide +kernel
theorem dX8_cost_13 : decode cX8_cost 13 = .ok (.aload_n 0, 1) := by decide +kernel
theorem dX8_cost_14 : decode cX8_cost 14 = .ok (.iload_n 2, 1) := by decide +kernel
theorem dX8_cost_15 : decode cX8_cost 15 = .ok (.invokevirtual 399, 3) := by decide +kernel
theorem dX8_cost_18 : decode cX8_cost 18 = .ok (.ifCond .eq 13, 3) := by decide +kernel
theorem dX8_cost_21 : decode cX8_cost 21 = .ok (.iload 4, 2) := by decide +kernel
theorem dX8_cost_23 : decode cX8_cost 23 = .ok (.iconst 1, 1) := by decide +kernel
theorem dX8_cost_24 : decode cX8_cost 24 = .ok (.iconst 2, 1) := by decide +kernel
theorem dX8_cost_25 : decode cX8_cost 25 = .ok (.invokestatic 390, 3) := by decide +kernel
theorem dX8_cost_28 : decode cX8_cost 28 = .ok (.ifCond .ne 9, 3) := by decide +kernel
theorem dX8_cost_31 : decode cX8_cost 31 = .ok (.aload_n 0, 1) := by decide +kernel
theorem dX8_cost_32 : decode cX8_cost 32 = .ok (.iconst 1, 1) := by decide +kernel
theorem dX8_cost_33 : decode cX8_cost 33 = .ok (.invokevirtual 198, 3) := by decide +kernel
theorem dX8_cost_36 : decode cX8_cost 36 = .ok (.ireturn, 1) := by decide +kernel
theorem dX8_cost_37 : decode cX8_cost 37 = .ok (.aload_n 0, 1) := by decide +kernel
theorem dX8_cost_38 : decode cX8_cost 38 = .ok (.iload_n 1, 1) := by decide +kernel
theorem dX8_cost_39 : decode cX8_cost 39 = .ok (.iconst 4, 1) := by decide +kernel
theorem dX8_cost_40 : decode cX8_cost 40 = .ok (.invokevirtual 238, 3) := by decide +kernel
theorem dX8_cost_43 : decode cX8_cost 43 = .ok (.ifCond .eq 13, 3) := by decide +kernel
theorem dX8_cost_46 : decode cX8_cost 46 = .ok (.aload_n 0, 1) := by decide +kernel
theorem dX8_cost_47 : decode cX8_cost 47 = .ok (.iload_n 1, 1) := by decide +kernel
theorem dX8_cost_48 : decode cX8_cost 48 = .ok (.iload 4, 2) := by decide +kernel
theorem dX8_cost_50 : decode cX8_cost 50 = .ok (.invokevirtual 283, 3) := by decide +kernel
theorem dX8_cost_53 : decode cX8_cost 53 = .ok (.ifCond .ne 9, 3) := by decide +kernel
theorem dX8_cost_56 : decode cX8_cost 56 = .ok (.aload_n 0, 1) := by decide +kernel
theorem dX8_cost_57 : decode cX8_cost 57 = .ok (.iconst 2, 1) := by decide +kernel
theorem dX8_cost_58 : decode cX8_cost 58 = .ok (.invokevirtual 198, 3) := by decide +kernel
theorem dX8_cost_61 : decode cX8_cost 61 = .ok (.ireturn, 1) := by decide +kernel
theorem dX8_cost_62 : decode cX8_cost 62 = .ok (.aload_n 0, 1) := by decide +kernel
theorem dX8_cost_63 : decode cX8_cost 63 = .ok (.iload_n 1, 1) := by decide +kernel
theorem dX8_cost_64 : decode cX8_cost 64 = .ok (.iload_n 2, 1) := by decide +kernel
theorem dX8_cost_65 : decode cX8_cost 65 = .ok (.iload_n 3, 1) := by decide +kernel
theorem dX8_cost_66 : decode cX8_cost 66 = .ok (.ifCond .eq 7, 3) := by decide +kernel
theorem dX8_cost_69 : decode cX8_cost 69 = .ok (.iconst 1, 1) := by decide +kernel
theorem dX8_cost_70 : decode cX8_cost 70 = .ok (.goto 4, 3) := by decide +kernel
theorem dX8_cost_73 : decode cX8_cost 73 = .ok (.iconst (-1), 1) := by decide +kernel
theorem dX8_cost_74 : decode cX8_cost 74 = .ok (.iload 4, 2) := by decide +kernel
theorem dX8_cost_76 : decode cX8_cost 76 = .ok (.invokevirtual 316, 3) := by decide +kernel
theorem dX8_cost_79 : decode cX8_cost 79 = .ok (.ireturn, 1) := by decide +kernel
set_option maxRecDepth 20000 in
set_option maxHeartbeats 4000000 in
theorem vX8_cost_0 {l : Launch} {x : CX} {a0 : Nat} {x1 : Int32} {x2 : Int32} {x3 : Int32} {x4 : Int32} {h : PH} {rc rs n0 : Nat} {Q : Option Value → PH → Prop} {X : String → PH → Prop}
    (K : ((hK h a0).1 = 8) ∧ ∃ (q2 : Int32 → PH → Prop), CI l x mX8_isCar 1 0 0 [.ref a0, .int x1] (sI h a0 1 0) q2 ∧ ∀ (r5 : Int32) (h4 : PH), q2 r5 h4 → ((r5 = 0 → ((hK h4 a0).1 = 8) ∧ ∃ (q7 : Int32 → PH → Prop), CI l x mX8_fail 0 0 0 [.ref a0, .int 1] h4 q7 ∧ ∀ (r11 : Int32) (h10 : PH), q7 r11 h10 → Q (some (.int r11)) h10) ∧ (¬ r5 = 0 → ((hK h4 a0).1 = 8) ∧ ∃ (q12 : Int32 → PH → Prop), CI l x mX8_isFloor 1 0 0 [.ref a0, .int x2] h4 q12 ∧ ∀ (r16 : Int32) (h15 : PH), q12 r16 h15 → ((r16 = 0 → ((hK h15 a0).1 = 8) ∧ ∃ (q18 : Int32 → PH → Prop), CI l x mX8_fail 0 0 0 [.ref a0, .int 1] h15 q18 ∧ ∀ (r22 : Int32) (h21 : PH), q18 r22 h21 → Q (some (.int r22)) h21) ∧ (¬ r16 = 0 → ∃ (q23 : Int32 → PH → Prop), CI l x mX8_isIn 0 0 0 [.int x4, .int 1, .int 2] h15 q23 ∧ ∀ (r26 : Int32) (h25 : PH), q23 r26 h25 → ((¬ r26 = 0 → ((hK h25 a0).1 = 8) ∧ ∃ (q28 : Int32 → PH → Prop), CI l x mX8_carOf 0 0 0 [.ref a0, .int x1, .int 4] h25 q28 ∧ ∀ (r32 : Int32) (h31 : PH), q28 r32 h31 → ((r32 = 0 → ((hK h31 a0).1 = 8) ∧ ∃ (q34 : Int32 → PH → Prop), CI l x mX8_fail 0 0 0 [.ref a0, .int 2] h31 q34 ∧ ∀ (r38 : Int32) (h37 : PH), q34 r38 h37 → Q (some (.int r38)) h37) ∧ (¬ r32 = 0 → ((hK h31 a0).1 = 8) ∧ ∃ (q39 : Int32 → PH → Prop), CI l x mX8_takes 0 0 0 [.ref a0, .int x1, .int x4] h31 q39 ∧ ∀ (r43 : Int32) (h42 : PH), q39 r43 h42 → ((¬ r43 = 0 → ((hK h42 a0).1 = 8) ∧ ∃ (q46 : Int32 → PH → Prop), CI l x mX8_costOf 7 0 0 [.ref a0, .int x1, .int x2, .int (if x3 = 0 then (-1) else 1 : Int32), .int x4] h42 q46 ∧ ∀ (r50 : Int32) (h49 : PH), q46 r50 h49 → Q (some (.int r50)) h49) ∧ (r43 = 0 → ((hK h42 a0).1 = 8) ∧ ∃ (q51 : Int32 → PH → Prop), CI l x mX8_fail 0 0 0 [.ref a0, .int 2] h42 q51 ∧ ∀ (r55 : Int32) (h54 : PH), q51 r55 h54 → Q (some (.int r55)) h54))))) ∧ (r26 = 0 → ((hK h25 a0).1 = 8) ∧ ∃ (q56 : Int32 → PH → Prop), CI l x mX8_fail 0 0 0 [.ref a0, .int 1] h25 q56 ∧ ∀ (r60 : Int32) (h59 : PH), q56 r60 h59 → Q (some (.int r60)) h59))))))) :
    Gm l x mX8_cost 8 0 [(0, .ref a0), (1, .int x1), (2, .int x2), (3, .int x3), (4, .int x4)] [] h rc rs n0 Q X := by
  refine g_aload_n dX8_cost_0 rfl 0 rfl ?_
  refine g_iconst (v := 0) dX8_cost_1 (by decide) ?_
  obtain ⟨e1, K⟩ := K
  refine g_puti (c := 8) (k := 1) dX8_cost_2 fc_8 (by decide) (by decide) bw_1199 (Or.inl rfl) rfl e1 ?_
  refine g_aload_n dX8_cost_5 rfl 0 rfl ?_
  refine g_iload_n dX8_cost_6 rfl 1 rfl ?_
  obtain ⟨q2, C3, K⟩ := K
  refine g_callV (M' := mX8_isCar) (b := a0) (As := [.int x1]) (rest := []) (rc' := rc) (rs' := rs) dX8_cost_7 bw_1608 bw_1610 bs_94 bw_9 bw_1611 ⟨by decide +kernel, by decide +kernel, show (parseMethodDescriptor mX8_isCar.1.desc).map (fun d => d.parameters.length) = some 1 by decide +kernel⟩ (by decide) (by decide) (Nat.le_of_ble_eq_true rfl) fc_8 (by decide) rfl (kkI e1) C3 (Nat.le_of_eq (Nat.add_zero _)) (Nat.le_of_eq (Nat.add_zero _)) (fun _ _ h => h) ?_
  rintro _ h4 ⟨r5, rfl, K1⟩ -
  replace K := K r5 h4 K1
  show Gm l x mX8_cost 8 10 [(0, .ref a0), (1, .int x1), (2, .int x2), (3, .int x3), (4, .int x4)] [.int r5] h4 rc rs n0 Q X
  refine g_if_eq (tgt := 31) dX8_cost_10 (by decide) (fun c6 => ?_) (fun c6 => ?_)
  · replace K := K.1 c6
    refine g_aload_n dX8_cost_31 rfl 0 rfl ?_
    refine g_iconst (v := 1) dX8_cost_32 (by decide) ?_
    obtain ⟨e9, K⟩ := K
    obtain ⟨q7, C8, K⟩ := K
    refine g_callV (M' := mX8_fail) (b := a0) (As := [.int 1]) (rest := []) (rc' := rc) (rs' := rs) dX8_cost_33 bw_1337 bw_1339 bs_39 bw_9 bw_1340 ⟨by decide +kernel, by decide +kernel, show (parseMethodDescriptor mX8_fail.1.desc).map (fun d => d.parameters.length) = some 1 by decide +kernel⟩ (by decide) (by decide) (Nat.le_of_ble_eq_true rfl) fc_8 (by decide) rfl e9 C8 (Nat.le_of_eq (Nat.add_zero _)) (Nat.le_of_eq (Nat.add_zero _)) (fun _ _ h => h) ?_
    rintro _ h10 ⟨r11, rfl, K1⟩ -
    replace K := K r11 h10 K1
    show Gm l x mX8_cost 8 36 [(0, .ref a0), (1, .int x1), (2, .int x2), (3, .int x3), (4, .int x4)] [.int r11] h10 rc rs n0 Q X
    exact g_iret dX8_cost_36 rfl K
  · replace K := K.2 c6
    refine g_aload_n dX8_cost_13 rfl 0 rfl ?_
    refine g_iload_n dX8_cost_14 rfl 2 rfl ?_
    obtain ⟨e14, K⟩ := K
    obtain ⟨q12, C13, K⟩ := K
    refine g_callV (M' := mX8_isFloor) (b := a0) (As := [.int x2]) (rest := []) (rc' := rc) (rs' := rs) dX8_cost_15 bw_1627 bw_1629 bs_96 bw_9 bw_1630 ⟨by decide +kernel, by decide +kernel, show (parseMethodDescriptor mX8_isFloor.1.desc).map (fun d => d.parameters.length) = some 1 by decide +kernel⟩ (by decide) (by decide) (Nat.le_of_ble_eq_true rfl) fc_8 (by decide) rfl e14 C13 (Nat.le_of_eq (Nat.add_zero _)) (Nat.le_of_eq (Nat.add_zero _)) (fun _ _ h => h) ?_
    rintro _ h15 ⟨r16, rfl, K1⟩ -
    replace K := K r16 h15 K1
    show Gm l x mX8_cost 8 18 [(0, .ref a0), (1, .int x1), (2, .int x2), (3, .int x3), (4, .int x4)] [.int r16] h15 rc rs n0 Q X
    refine g_if_eq (tgt := 31) dX8_cost_18 (by decide) (fun c17 => ?_) (fun c17 => ?_)
    · replace K := K.1 c17
      refine g_aload_n dX8_cost_31 rfl 0 rfl ?_
      refine g_iconst (v := 1) dX8_cost_32 (by decide) ?_
      obtain ⟨e20, K⟩ := K
      obtain ⟨q18, C19, K⟩ := K
      refine g_callV (M' := mX8_fail) (b := a0) (As := [.int 1]) (rest := []) (rc' := rc) (rs' := rs) dX8_cost_33 bw_1337 bw_1339 bs_39 bw_9 bw_1340 ⟨by decide +kernel, by decide +kernel, show (parseMethodDescriptor mX8_fail.1.desc).map (fun d => d.parameters.length) = some 1 by decide +kernel⟩ (by decide) (by decide) (Nat.le_of_ble_eq_true rfl) fc_8 (by decide) rfl e20 C19 (Nat.le_of_eq (Nat.add_zero _)) (Nat.le_of_eq (Nat.add_zero _)) (fun _ _ h => h) ?_
      rintro _ h21 ⟨r22, rfl, K1⟩ -
      replace K := K r22 h21 K1
      show Gm l x mX8_cost 8 36 [(0, .ref a0), (1, .int x1), (2, .int x2), (3, .int x3), (4, .int x4)] [.int r22] h21 rc rs n0 Q X
      exact g_iret dX8_cost_36 rfl K
    · replace K := K.2 c17
      refine g_iload dX8_cost_21 4 rfl ?_
      refine g_iconst (v := 1) dX8_cost_23 (by decide) ?_
      refine g_iconst (v := 2) dX8_cost_24 (by decide) ?_
      obtain ⟨q23, C24, K⟩ := K
      refine g_callS (M' := mX8_isIn) (As := [.int x4, .int 1, .int 2]) (rest := []) (rc' := rc) (rs' := rs) dX8_cost_25 bw_1612 bw_1613 bw_9 bw_1614 ⟨by decide +kernel, by decide +kernel, show (parseMethodDescriptor mX8_isIn.1.desc).map (fun d => d.parameters.length) = some 3 by decide +kernel⟩ (by decide) (by decide) (Nat.le_of_ble_eq_true rfl) C24 (Nat.le_of_eq (Nat.add_zero _)) (Nat.le_of_eq (Nat.add_zero _)) (fun _ _ h => h) ?_
      rintro _ h25 ⟨r26, rfl, K1⟩ -
      replace K := K r26 h25 K1
      show Gm l x mX8_cost 8 28 [(0, .ref a0), (1, .int x1), (2, .int x2), (3, .int x3), (4, .int x4)] [.int r26] h25 rc rs n0 Q X
      refine g_if_ne (tgt := 37) dX8_cost_28 (by decide) (fun c27 => ?_) (fun c27 => ?_)
      · replace K := K.1 c27
        refine g_aload_n dX8_cost_37 rfl 0 rfl ?_
        refine g_iload_n dX8_cost_38 rfl 1 rfl ?_
        refine g_iconst (v := 4) dX8_cost_39 (by decide) ?_
        obtain ⟨e30, K⟩ := K
        obtain ⟨q28, C29, K⟩ := K
        refine g_callV (M' := mX8_carOf) (b := a0) (As := [.int x1, .int 4]) (rest := []) (rc' := rc) (rs' := rs) dX8_cost_40 bw_1476 bw_1478 bs_67 bw_9 bw_1479 ⟨by decide +kernel, by decide +kernel, show (parseMethodDescriptor mX8_carOf.1.desc).map (fun d => d.parameters.length) = some 2 by decide +kernel⟩ (by decide) (by decide) (Nat.le_of_ble_eq_true rfl) fc_8 (by decide) rfl e30 C29 (Nat.le_of_eq (Nat.add_zero _)) (Nat.le_of_eq (Nat.add_zero _)) (fun _ _ h => h) ?_
        rintro _ h31 ⟨r32, rfl, K1⟩ -
        replace K := K r32 h31 K1
        show Gm l x mX8_cost 8 43 [(0, .ref a0), (1, .int x1), (2, .int x2), (3, .int x3), (4, .int x4)] [.int r32] h31 rc rs n0 Q X
        refine g_if_eq (tgt := 56) dX8_cost_43 (by decide) (fun c33 => ?_) (fun c33 => ?_)
        · replace K := K.1 c33
          refine g_aload_n dX8_cost_56 rfl 0 rfl ?_
          refine g_iconst (v := 2) dX8_cost_57 (by decide) ?_
          obtain ⟨e36, K⟩ := K
          obtain ⟨q34, C35, K⟩ := K
          refine g_callV (M' := mX8_fail) (b := a0) (As := [.int 2]) (rest := []) (rc' := rc) (rs' := rs) dX8_cost_58 bw_1337 bw_1339 bs_39 bw_9 bw_1340 ⟨by decide +kernel, by decide +kernel, show (parseMethodDescriptor mX8_fail.1.desc).map (fun d => d.parameters.length) = some 1 by decide +kernel⟩ (by decide) (by decide) (Nat.le_of_ble_eq_true rfl) fc_8 (by decide) rfl e36 C35 (Nat.le_of_eq (Nat.add_zero _)) (Nat.le_of_eq (Nat.add_zero _)) (fun _ _ h => h) ?_
          rintro _ h37 ⟨r38, rfl, K1⟩ -
          replace K := K r38 h37 K1
          show Gm l x mX8_cost 8 61 [(0, .ref a0), (1, .int x1), (2, .int x2), (3, .int x3), (4, .int x4)] [.int r38] h37 rc rs n0 Q X
          exact g_iret dX8_cost_61 rfl K
        · replace K := K.2 c33
          refine g_aload_n dX8_cost_46 rfl 0 rfl ?_
          refine g_iload_n dX8_cost_47 rfl 1 rfl ?_
          refine g_iload dX8_cost_48 4 rfl ?_
          obtain ⟨e41, K⟩ := K
          obtain ⟨q39, C40, K⟩ := K
          refine g_callV (M' := mX8_takes) (b := a0) (As := [.int x1, .int x4]) (rest := []) (rc' := rc) (rs' := rs) dX8_cost_50 bw_1485 bw_1487 bs_69 bw_9 bw_1488 ⟨by decide +kernel, by decide +kernel, show (parseMethodDescriptor mX8_takes.1.desc).map (fun d => d.parameters.length) = some 2 by decide +kernel⟩ (by decide) (by decide) (Nat.le_of_ble_eq_true rfl) fc_8 (by decide) rfl e41 C40 (Nat.le_of_eq (Nat.add_zero _)) (Nat.le_of_eq (Nat.add_zero _)) (fun _ _ h => h) ?_
          rintro _ h42 ⟨r43, rfl, K1⟩ -
          replace K := K r43 h42 K1
          show Gm l x mX8_cost 8 53 [(0, .ref a0), (1, .int x1), (2, .int x2), (3, .int x3), (4, .int x4)] [.int r43] h42 rc rs n0 Q X
          refine g_if_ne (tgt := 62) dX8_cost_53 (by decide) (fun c44 => ?_) (fun c44 => ?_)
          · replace K := K.1 c44
            refine g_aload_n dX8_cost_62 rfl 0 rfl ?_
            refine g_iload_n dX8_cost_63 rfl 1 rfl ?_
            refine g_iload_n dX8_cost_64 rfl 2 rfl ?_
            refine g_iload_n dX8_cost_65 rfl 3 rfl ?_
            have KJ : Gm l x mX8_cost 8 74 [(0, .ref a0), (1, .int x1), (2, .int x2), (3, .int x3), (4, .int x4)] [.int (if x3 = 0 then (-1) else 1 : Int32), .int x2, .int x1, .ref a0] h42 rc rs n0 Q X := by
              refine g_iload dX8_cost_74 4 rfl ?_
              obtain ⟨e48, K⟩ := K
              obtain ⟨q46, C47, K⟩ := K
              refine g_callV (M' := mX8_costOf) (b := a0) (As := [.int x1, .int x2, .int (if x3 = 0 then (-1) else 1 : Int32), .int x4]) (rest := []) (rc' := rc) (rs' := rs) dX8_cost_76 bw_1489 bw_1491 bs_70 bw_9 bw_1492 ⟨by decide +kernel, by decide +kernel, show (parseMethodDescriptor mX8_costOf.1.desc).map (fun d => d.parameters.length) = some 4 by decide +kernel⟩ (by decide) (by decide) (Nat.le_of_ble_eq_true rfl) fc_8 (by decide) rfl e48 C47 (Nat.le_of_eq (Nat.add_zero _)) (Nat.le_of_eq (Nat.add_zero _)) (fun _ _ h => h) ?_
              rintro _ h49 ⟨r50, rfl, K1⟩ -
              replace K := K r50 h49 K1
              show Gm l x mX8_cost 8 79 [(0, .ref a0), (1, .int x1), (2, .int x2), (3, .int x3), (4, .int x4)] [.int r50] h49 rc rs n0 Q X
              exact g_iret dX8_cost_79 rfl K
            refine g_if_eq (tgt := 73) dX8_cost_66 (by decide) (fun c45 => ?_) (fun c45 => ?_)
            · refine g_iconst (v := (-1)) dX8_cost_73 (by decide) ?_
              first | (simp only [if_pos c45] at KJ; exact KJ) | (simp only [if_pos c45, ite_true, ite_false, eq_self] at KJ; exact KJ) | (simp only [if_pos c45] at KJ ⊢; exact KJ) | exact KJ
            · refine g_iconst (v := 1) dX8_cost_69 (by decide) ?_
              refine g_goto (tgt := 74) dX8_cost_70 (by decide) ?_
              first | (simp only [if_neg c45] at KJ; exact KJ) | (simp only [if_neg c45, ite_true, ite_false, eq_self] at KJ; exact KJ) | (simp only [if_neg c45] at KJ ⊢; exact KJ) | exact KJ
          · replace K := K.2 c44
            refine g_aload_n dX8_cost_56 rfl 0 rfl ?_
            refine g_iconst (v := 2) dX8_cost_57 (by decide) ?_
            obtain ⟨e53, K⟩ := K
            obtain ⟨q51, C52, K⟩ := K
            refine g_callV (M' := mX8_fail) (b := a0) (As := [.int 2]) (rest := []) (rc' := rc) (rs' := rs) dX8_cost_58 bw_1337 bw_1339 bs_39 bw_9 bw_1340 ⟨by decide +kernel, by decide +kernel, show (parseMethodDescriptor mX8_fail.1.desc).map (fun d => d.parameters.length) = some 1 by decide +kernel⟩ (by decide) (by decide) (Nat.le_of_ble_eq_true rfl) fc_8 (by decide) rfl e53 C52 (Nat.le_of_eq (Nat.add_zero _)) (Nat.le_of_eq (Nat.add_zero _)) (fun _ _ h => h) ?_
            rintro _ h54 ⟨r55, rfl, K1⟩ -
            replace K := K r55 h54 K1
            show Gm l x mX8_cost 8 61 [(0, .ref a0), (1, .int x1), (2, .int x2), (3, .int x3), (4, .int x4)] [.int r55] h54 rc rs n0 Q X
            exact g_iret dX8_cost_61 rfl K
      · replace K := K.2 c27
        refine g_aload_n dX8_cost_31 rfl 0 rfl ?_
        refine g_iconst (v := 1) dX8_cost_32 (by decide) ?_
        obtain ⟨e58, K⟩ := K
        obtain ⟨q56, C57, K⟩ := K
        refine g_callV (M' := mX8_fail) (b := a0) (As := [.int 1]) (rest := []) (rc' := rc) (rs' := rs) dX8_cost_33 bw_1337 bw_1339 bs_39 bw_9 bw_1340 ⟨by decide +kernel, by decide +kernel, show (parseMethodDescriptor mX8_fail.1.desc).map (fun d => d.parameters.length) = some 1 by decide +kernel⟩ (by decide) (by decide) (Nat.le_of_ble_eq_true rfl) fc_8 (by decide) rfl e58 C57 (Nat.le_of_eq (Nat.add_zero _)) (Nat.le_of_eq (Nat.add_zero _)) (fun _ _ h => h) ?_
        rintro _ h59 ⟨r60, rfl, K1⟩ -
        replace K := K r60 h59 K1
        show Gm l x mX8_cost 8 36 [(0, .ref a0), (1, .int x1), (2, .int x2), (3, .int x3), (4, .int x4)] [.int r60] h59 rc rs n0 Q X
        exact g_iret dX8_cost_36 rfl K
theorem dX8_group_0 : decode cX8_group 0 = .ok (.aload_n 0, 1) := by decide +kernel
theorem dX8_group_1 : decode cX8_group 1 = .ok (.iconst 0, 1) := by decide +kernel
theorem dX8_group_2 : decode cX8_group 2 = .ok (.putfield 104, 3) := by decide +kernel
theorem dX8_group_5 : decode cX8_group 5 = .ok (.iload_n 1, 1) := by decide +kernel
theorem dX8_group_6 : decode cX8_group 6 = .ok (.ifCond .lt 11, 3) := by decide +kernel
theorem dX8_group_9 : decode cX8_group 9 = .ok (.iload_n 1, 1) := by decide +kernel
theorem dX8_group_10 : decode cX8_group 10 = .ok (.aload_n 0, 1) := by decide +kernel
theorem dX8_group_11 : decode cX8_group 11 = .ok (.getfield 107, 3) := by decide +kernel
theorem dX8_group_14 : decode cX8_group 14 = .ok (.if_icmp .le 9, 3) := by decide +kernel
theorem dX8_group_17 : decode cX8_group 17 = .ok (.aload_n 0, 1) := by decide +kernel
theorem dX8_group_18 : decode cX8_group 18 = .ok (.iconst 1, 1) := by decide +kernel
theorem dX8_group_19 : decode cX8_group 19 = .ok (.invokevirtual 198, 3) := by decide +kernel
theorem dX8_group_22 : decode cX8_group 22 = .ok (.ireturn, 1) := by decide +kernel
theorem dX8_group_23 : decode cX8_group 23 = .ok (.aload_n 0, 1) := by decide +kernel
theorem dX8_group_24 : decode cX8_group 24 = .ok (.iconst 0, 1) := by decide +kernel
theorem dX8_group_25 : decode cX8_group 25 = .ok (.putfield 107, 3) := by decide +kernel
theorem dX8_group_28 : decode cX8_group 28 = .ok (.aload_n 0, 1) := by decide +kernel
theorem dX8_group_29 : decode cX8_group 29 = .ok (.iload_n 1, 1) := by decide +kernel
theorem dX8_group_30 : decode cX8_group 30 = .ok (.putfield 110, 3) := by decide +kernel
theorem dX8_group_33 : decode cX8_group 33 = .ok (.aload_n 0, 1) := by decide +kernel
theorem dX8_group_34 : decode cX8_group 34 = .ok (.iconst 0, 1) := by decide +kernel
theorem dX8_group_35 : decode cX8_group 35 = .ok (.putfield 113, 3) := by decide +kernel
theorem dX8_group_38 : decode cX8_group 38 = .ok (.aload_n 0, 1) := by decide +kernel
theorem dX8_group_39 : decode cX8_group 39 = .ok (.iconst 0, 1) := by decide +kernel
theorem dX8_group_40 : decode cX8_group 40 = .ok (.putfield 146, 3) := by decide +kernel
theorem dX8_group_43 : decode cX8_group 43 = .ok (.aload_n 0, 1) := by decide +kernel
theorem dX8_group_44 : decode cX8_group 44 = .ok (.iconst (-1), 1) := by decide +kernel
theorem dX8_group_45 : decode cX8_group 45 = .ok (.putfield 57, 3) := by decide +kernel
theorem dX8_group_48 : decode cX8_group 48 = .ok (.aload_n 0, 1) := by decide +kernel
theorem dX8_group_49 : decode cX8_group 49 = .ok (.iconst 0, 1) := by decide +kernel
theorem dX8_group_50 : decode cX8_group 50 = .ok (.putfield 189, 3) := by decide +kernel
theorem dX8_group_53 : decode cX8_group 53 = .ok (.aload_n 0, 1) := by decide +kernel
theorem dX8_group_54 : decode cX8_group 54 = .ok (.getfield 39, 3) := by decide +kernel
theorem dX8_group_57 : decode cX8_group 57 = .ok (.invokestatic 97, 3) := by decide +kernel
theorem dX8_group_60 : decode cX8_group 60 = .ok (.aload_n 0, 1) := by decide +kernel
theorem dX8_group_61 : decode cX8_group 61 = .ok (.invokevirtual 171, 3) := by decide +kernel
theorem dX8_group_64 : decode cX8_group 64 = .ok (.aload_n 0, 1) := by decide +kernel
theorem dX8_group_65 : decode cX8_group 65 = .ok (.getfield 146, 3) := by decide +kernel
theorem dX8_group_68 : decode cX8_group 68 = .ok (.ifCond .ne 17, 3) := by decide +kernel
theorem dX8_group_71 : decode cX8_group 71 = .ok (.aload_n 0, 1) := by decide +kernel
theorem dX8_group_72 : decode cX8_group 72 = .ok (.getfield 123, 3) := by decide +kernel
theorem dX8_group_75 : decode cX8_group 75 = .ok (.ifCond .eq 10, 3) := by decide +kernel
theorem dX8_group_78 : decode cX8_group 78 = .ok (.aload_n 0, 1) := by decide +kernel
theorem dX8_group_79 : decode cX8_group 79 = .ok (.invokevirtual 201, 3) := by decide +kernel
theorem dX8_group_82 : decode cX8_group 82 = .ok (.goto (-18), 3) := by decide +kernel
theorem dX8_group_85 : decode cX8_group 85 = .ok (.aload_n 0, 1) := by decide +kernel
theorem dX8_group_86 : decode cX8_group 86 = .ok (.getfield 146, 3) := by decide +kernel
theorem dX8_group_89 : decode cX8_group 89 = .ok (.ifCond .eq 26, 3) := by decide +kernel
theorem dX8_group_92 : decode cX8_group 92 = .ok (.aload_n 0, 1) := by decide +kernel
theorem dX8_group_93 : decode cX8_group 93 = .ok (.aload_n 0, 1) := by decide +kernel
theorem dX8_group_94 : decode cX8_group 94 = .ok (.getfield 149, 3) := by decide +kernel
theorem dX8_group_97 : decode cX8_group 97 = .ok (.putfield 57, 3) := by decide +kernel
theorem dX8_group_100 : decode cX8_group 100 = .ok (.aload_n 0, 1) := by decide +kernel
theorem dX8_group_101 : decode cX8_group 101 = .ok (.getfield 33, 3) := by decide +kernel
theorem dX8_group_104 : decode cX8_group 104 = .ok (.iconst 0, 1) := by decide +kernel
theorem dX8_group_105 : decode cX8_group 105 = .ok (.dup2, 1) := by decide +kernel
theorem dX8_group_106 : decode cX8_group 106 = .ok (.iaload, 1) := by decide +kernel
theorem dX8_group_107 : decode cX8_group 107 = .ok (.iconst 1, 1) := by decide +kernel
theorem dX8_group_108 : decode cX8_group 108 = .ok (.iadd, 1) := by decide +kernel
theorem dX8_group_109 : decode cX8_group 109 = .ok (.iastore, 1) := by decide +kernel
theorem dX8_group_110 : decode cX8_group 110 = .ok (.aload_n 0, 1) := by decide +kernel
theorem dX8_group_111 : decode cX8_group 111 = .ok (.getfield 146, 3) := by decide +kernel
theorem dX8_group_114 : decode cX8_group 114 = .ok (.ireturn, 1) := by decide +kernel
theorem dX8_group_115 : decode cX8_group 115 = .ok (.aload_n 0, 1) := by decide +kernel
theorem dX8_group_116 : decode cX8_group 116 = .ok (.getfield 36, 3) := by decide +kernel
theorem dX8_group_119 : decode cX8_group 119 = .ok (.aload_n 0, 1) := by decide +kernel
theorem dX8_group_120 : decode cX8_group 120 = .ok (.getfield 39, 3) := by decide +kernel
theorem dX8_group_123 : decode cX8_group 123 = .ok (.invokestatic 204, 3) := by decide +kernel
theorem dX8_group_126 : decode cX8_group 126 = .ok (.aload_n 0, 1) := by decide +kernel
theorem dX8_group_127 : decode cX8_group 127 = .ok (.getfield 42, 3) := by decide +kernel
theorem dX8_group_130 : decode cX8_group 130 = .ok (.aload_n 0, 1) := by decide +kernel
theorem dX8_group_131 : decode cX8_group 131 = .ok (.getfield 45, 3) := by decide +kernel
theorem dX8_group_134 : decode cX8_group 134 = .ok (.invokestatic 204, 3) := by decide +kernel
theorem dX8_group_137 : decode cX8_group 137 = .ok (.aload_n 0, 1) := by decide +kernel
theorem dX8_group_138 : decode cX8_group 138 = .ok (.getfield 48, 3) := by decide +kernel
theorem dX8_group_141 : decode cX8_group 141 = .ok (.aload_n 0, 1) := by decide +kernel
theorem dX8_group_142 : decode cX8_group 142 = .ok (.getfield 51, 3) := by decide +kernel
theorem dX8_group_145 : decode cX8_group 145 = .ok (.invokestatic 204, 3) := by decide +kernel
theorem dX8_group_148 : decode cX8_group 148 = .ok (.aload_n 0, 1) := by decide +kernel
theorem dX8_group_149 : decode cX8_group 149 = .ok (.invokevirtual 101, 3) := by decide +kernel
theorem dX8_group_152 : decode cX8_group 152 = .ok (.aload_n 0, 1) := by decide +kernel
theorem dX8_group_153 : decode cX8_group 153 = .ok (.iconst 0, 1) := by decide +kernel
theorem dX8_group_154 : decode cX8_group 154 = .ok (.putfield 208, 3) := by decide +kernel
theorem dX8_group_157 : decode cX8_group 157 = .ok (.aload_n 0, 1) := by decide +kernel
theorem dX8_group_158 : decode cX8_group 158 = .ok (.iconst 0, 1) := by decide +kernel
theorem dX8_group_159 : decode cX8_group 159 = .ok (.putfield 211, 3) := by decide +kernel
theorem dX8_group_162 : decode cX8_group 162 = .ok (.aload_n 0, 1) := by decide +kernel
theorem dX8_group_163 : decode cX8_group 163 = .ok (.iconst 0, 1) := by decide +kernel
theorem dX8_group_164 : decode cX8_group 164 = .ok (.putfield 214, 3) := by decide +kernel
theorem dX8_group_167 : decode cX8_group 167 = .ok (.iconst 0, 1) := by decide +kernel
theorem dX8_group_168 : decode cX8_group 168 = .ok (.ireturn, 1) := by decide +kernel
set_option maxRecDepth 20000 in
set_option maxHeartbeats 4000000 in
theorem vX8_group_0 {l : Launch} {x : CX} {a0 : Nat} {x1 : Int32} {h : PH} {rc rs n0 : Nat} {Q : Option Value → PH → Prop} {X : String → PH → Prop}
    (K : ((hK h a0).1 = 8) ∧ ((x1 < 0 → ∃ (q3 : Int32 → PH → Prop), CI l x mX8_fail 0 0 0 [.ref a0, .int 1] (sI h a0 1 0) q3 ∧ ∀ (r6 : Int32) (h5 : PH), q3 r6 h5 → Q (some (.int r6)) h5) ∧ (¬ x1 < 0 → ((x1 ≤ (hI h a0 11) → ∃ b8, (hR h a0 5 = some b8) ∧ ∃ (q10 : PH → Prop), CV l x mX8_layFirst 0 0 0 [.ref b8] (sI (sI (sI (sI (sI (sI (sI h a0 1 0) a0 11 0) a0 13 x1) a0 12 0) a0 18 0) a0 20 (-1)) a0 21 0) q10 ∧ ∀ (h12 : PH), q10 h12 → ((hK h12 a0).1 = 8) ∧ ∃ (q13 : PH → Prop), CV l x mX8_stepOn 1 0 0 [.ref a0] h12 q13 ∧ ∀ (h16 : PH), q13 h16 → Gm l x mX8_group 9 64 [(0, .ref a0), (1, .int x1)] [] h16 rc rs n0 Q X) ∧ (¬ x1 ≤ (hI h a0 11) → ∃ (q17 : Int32 → PH → Prop), CI l x mX8_fail 0 0 0 [.ref a0, .int 1] (sI h a0 1 0) q17 ∧ ∀ (r20 : Int32) (h19 : PH), q17 r20 h19 → Q (some (.int r20)) h19))))) :
    Gm l x mX8_group 9 0 [(0, .ref a0), (1, .int x1)] [] h rc rs n0 Q X := by
  refine g_aload_n dX8_group_0 rfl 0 rfl ?_
  refine g_iconst (v := 0) dX8_group_1 (by decide) ?_
  obtain ⟨e1, K⟩ := K
  refine g_puti (c := 8) (k := 1) dX8_group_2 fc_8 (by decide) (by decide) bw_1199 (Or.inl rfl) rfl e1 ?_
  refine g_iload_n dX8_group_5 rfl 1 rfl ?_
  refine g_if_lt (tgt := 17) dX8_group_6 (by decide) (fun c2 => ?_) (fun c2 => ?_)
  · replace K := K.1 c2
    refine g_aload_n dX8_group_17 rfl 0 rfl ?_
    refine g_iconst (v := 1) dX8_group_18 (by decide) ?_
    obtain ⟨q3, C4, K⟩ := K
    refine g_callV (M' := mX8_fail) (b := a0) (As := [.int 1]) (rest := []) (rc' := rc) (rs' := rs) dX8_group_19 bw_1337 bw_1339 bs_39 bw_9 bw_1340 ⟨by decide +kernel, by decide +kernel, show (parseMethodDescriptor mX8_fail.1.desc).map (fun d => d.parameters.length) = some 1 by decide +kernel⟩ (by decide) (by decide) (Nat.le_of_ble_eq_true rfl) fc_8 (by decide) rfl (kkI e1) C4 (Nat.le_of_eq (Nat.add_zero _)) (Nat.le_of_eq (Nat.add_zero _)) (fun _ _ h => h) ?_
    rintro _ h5 ⟨r6, rfl, K1⟩ -
    replace K := K r6 h5 K1
    show Gm l x mX8_group 9 22 [(0, .ref a0), (1, .int x1)] [.int r6] h5 rc rs n0 Q X
    exact g_iret dX8_group_22 rfl K
  · replace K := K.2 c2
    refine g_iload_n dX8_group_9 rfl 1 rfl ?_
    refine g_aload_n dX8_group_10 rfl 0 rfl ?_
    refine g_get (c := 8) (k := 11) (v := .int (hI h a0 11)) dX8_group_11 fc_8 (by decide) (by decide) bw_1209 (congrArg Value.int ((skI (by decide)).trans rfl)) (kkI e1) ?_
    refine g_icmp_le (tgt := 23) dX8_group_14 (by decide) (fun c7 => ?_) (fun c7 => ?_)
    · replace K := K.1 c7
      refine g_aload_n dX8_group_23 rfl 0 rfl ?_
      refine g_iconst (v := 0) dX8_group_24 (by decide) ?_
      refine g_puti (c := 8) (k := 11) dX8_group_25 fc_8 (by decide) (by decide) bw_1209 (Or.inl rfl) rfl (kkI e1) ?_
      refine g_aload_n dX8_group_28 rfl 0 rfl ?_
      refine g_iload_n dX8_group_29 rfl 1 rfl ?_
      refine g_puti (c := 8) (k := 13) dX8_group_30 fc_8 (by decide) (by decide) bw_1211 (Or.inl rfl) rfl (kkI (kkI e1)) ?_
      refine g_aload_n dX8_group_33 rfl 0 rfl ?_
      refine g_iconst (v := 0) dX8_group_34 (by decide) ?_
      refine g_puti (c := 8) (k := 12) dX8_group_35 fc_8 (by decide) (by decide) bw_1210 (Or.inl rfl) rfl (kkI (kkI (kkI e1))) ?_
      refine g_aload_n dX8_group_38 rfl 0 rfl ?_
      refine g_iconst (v := 0) dX8_group_39 (by decide) ?_
      refine g_puti (c := 8) (k := 18) dX8_group_40 fc_8 (by decide) (by decide) bw_1216 (Or.inl rfl) rfl (kkI (kkI (kkI (kkI e1)))) ?_
      refine g_aload_n dX8_group_43 rfl 0 rfl ?_
      refine g_iconst (v := (-1)) dX8_group_44 (by decide) ?_
      refine g_puti (c := 8) (k := 20) dX8_group_45 fc_8 (by decide) (by decide) bw_1218 (Or.inl rfl) rfl (kkI (kkI (kkI (kkI (kkI e1))))) ?_
      refine g_aload_n dX8_group_48 rfl 0 rfl ?_
      refine g_iconst (v := 0) dX8_group_49 (by decide) ?_
      refine g_puti (c := 8) (k := 21) dX8_group_50 fc_8 (by decide) (by decide) bw_1219 (Or.inl rfl) rfl (kkI (kkI (kkI (kkI (kkI (kkI e1)))))) ?_
      refine g_aload_n dX8_group_53 rfl 0 rfl ?_
      obtain ⟨b8, e9, K⟩ := K
      refine g_get (c := 8) (k := 5) (v := .ref b8) dX8_group_54 fc_8 (by decide) (by decide) bw_1203 (congrArg pr (krI (krI (krI (krI (krI (krI (krI e9)))))))) (kkI (kkI (kkI (kkI (kkI (kkI (kkI e1))))))) ?_
      obtain ⟨q10, C11, K⟩ := K
      refine g_callS (M' := mX8_layFirst) (As := [.ref b8]) (rest := []) (rc' := rc) (rs' := rs) dX8_group_57 bw_1179 bw_1180 bw_9 bw_1181 ⟨by decide +kernel, by decide +kernel, show (parseMethodDescriptor mX8_layFirst.1.desc).map (fun d => d.parameters.length) = some 1 by decide +kernel⟩ (by decide) (by decide) (Nat.le_of_ble_eq_true rfl) C11 (Nat.le_of_eq (Nat.add_zero _)) (Nat.le_of_eq (Nat.add_zero _)) (fun _ _ h => h) ?_
      rintro _ h12 ⟨rfl, K1⟩ -
      replace K := K h12 K1
      show Gm l x mX8_group 9 60 [(0, .ref a0), (1, .int x1)] [] h12 rc rs n0 Q X
      refine g_aload_n dX8_group_60 rfl 0 rfl ?_
      obtain ⟨e15, K⟩ := K
      obtain ⟨q13, C14, K⟩ := K
      refine g_callV (M' := mX8_stepOn) (b := a0) (As := []) (rest := []) (rc' := rc) (rs' := rs) dX8_group_61 bw_1341 bw_1343 bs_40 bw_9 bw_1344 ⟨by decide +kernel, by decide +kernel, show (parseMethodDescriptor mX8_stepOn.1.desc).map (fun d => d.parameters.length) = some 0 by decide +kernel⟩ (by decide) (by decide) (Nat.le_of_ble_eq_true rfl) fc_8 (by decide) rfl e15 C14 (Nat.le_of_eq (Nat.add_zero _)) (Nat.le_of_eq (Nat.add_zero _)) (fun _ _ h => h) ?_
      rintro _ h16 ⟨rfl, K1⟩ -
      replace K := K h16 K1
      show Gm l x mX8_group 9 64 [(0, .ref a0), (1, .int x1)] [] h16 rc rs n0 Q X
      exact K
    · replace K := K.2 c7
      refine g_aload_n dX8_group_17 rfl 0 rfl ?_
      refine g_iconst (v := 1) dX8_group_18 (by decide) ?_
      obtain ⟨q17, C18, K⟩ := K
      refine g_callV (M' := mX8_fail) (b := a0) (As := [.int 1]) (rest := []) (rc' := rc) (rs' := rs) dX8_group_19 bw_1337 bw_1339 bs_39 bw_9 bw_1340 ⟨by decide +kernel, by decide +kernel, show (parseMethodDescriptor mX8_fail.1.desc).map (fun d => d.parameters.length) = some 1 by decide +kernel⟩ (by decide) (by decide) (Nat.le_of_ble_eq_true rfl) fc_8 (by decide) rfl (kkI e1) C18 (Nat.le_of_eq (Nat.add_zero _)) (Nat.le_of_eq (Nat.add_zero _)) (fun _ _ h => h) ?_
      rintro _ h19 ⟨r20, rfl, K1⟩ -
      replace K := K r20 h19 K1
      show Gm l x mX8_group 9 22 [(0, .ref a0), (1, .int x1)] [.int r20] h19 rc rs n0 Q X
      exact g_iret dX8_group_22 rfl K
set_option maxRecDepth 20000 in
set_option maxHeartbeats 4000000 in
theorem vX8_group_64 {l : Launch} {x : CX} {a0 : Nat} {x1 : Int32} {h : PH} {rc rs n0 : Nat} {Q : Option Value → PH → Prop} {X : String → PH → Prop}
    (K : ((hK h a0).1 = 8) ∧ ((¬ (hI h a0 18) = 0 → Gm l x mX8_group 9 85 [(0, .ref a0), (1, .int x1)] [] h rc rs n0 Q X) ∧ ((hI h a0 18) = 0 → (((hI h a0 14) = 0 → Gm l x mX8_group 9 85 [(0, .ref a0), (1, .int x1)] [] h rc rs n0 Q X) ∧ (¬ (hI h a0 14) = 0 → ∃ (q4 : PH → Prop), CV l x mX8_readClause 8 0 0 [.ref a0] h q4 ∧ ∀ (h6 : PH), q4 h6 → Gm l x mX8_group 9 64 [(0, .ref a0), (1, .int x1)] [] h6 rc rs n0 Q X))))) :
    Gm l x mX8_group 9 64 [(0, .ref a0), (1, .int x1)] [] h rc rs n0 Q X := by
  refine g_aload_n dX8_group_64 rfl 0 rfl ?_
  obtain ⟨e1, K⟩ := K
  refine g_get (c := 8) (k := 18) (v := .int (hI h a0 18)) dX8_group_65 fc_8 (by decide) (by decide) bw_1216 rfl e1 ?_
  refine g_if_ne (tgt := 85) dX8_group_68 (by decide) (fun c2 => ?_) (fun c2 => ?_)
  · replace K := K.1 c2
    exact K
  · replace K := K.2 c2
    refine g_aload_n dX8_group_71 rfl 0 rfl ?_
    refine g_get (c := 8) (k := 14) (v := .int (hI h a0 14)) dX8_group_72 fc_8 (by decide) (by decide) bw_1212 rfl e1 ?_
    refine g_if_eq (tgt := 85) dX8_group_75 (by decide) (fun c3 => ?_) (fun c3 => ?_)
    · replace K := K.1 c3
      exact K
    · replace K := K.2 c3
      refine g_aload_n dX8_group_78 rfl 0 rfl ?_
      obtain ⟨q4, C5, K⟩ := K
      refine g_callV (M' := mX8_readClause) (b := a0) (As := []) (rest := []) (rc' := rc) (rs' := rs) dX8_group_79 bw_1357 bw_1359 bs_42 bw_9 bw_1360 ⟨by decide +kernel, by decide +kernel, show (parseMethodDescriptor mX8_readClause.1.desc).map (fun d => d.parameters.length) = some 0 by decide +kernel⟩ (by decide) (by decide) (Nat.le_of_ble_eq_true rfl) fc_8 (by decide) rfl e1 C5 (Nat.le_of_eq (Nat.add_zero _)) (Nat.le_of_eq (Nat.add_zero _)) (fun _ _ h => h) ?_
      rintro _ h6 ⟨rfl, K1⟩ -
      replace K := K h6 K1
      show Gm l x mX8_group 9 82 [(0, .ref a0), (1, .int x1)] [] h6 rc rs n0 Q X
      refine g_goto (tgt := 64) dX8_group_82 (by decide) ?_
      exact K
set_option maxRecDepth 20000 in
set_option maxHeartbeats 4000000 in
theorem vX8_group_85 {l : Launch} {x : CX} {a0 : Nat} {x1 : Int32} {h : PH} {rc rs n0 : Nat} {Q : Option Value → PH → Prop} {X : String → PH → Prop}
    (K : ((hK h a0).1 = 8) ∧ (((hI h a0 18) = 0 → ∃ b3, (hR h a0 4 = some b3) ∧ ∃ b5, (hR h a0 5 = some b5) ∧ ∃ (q7 : PH → Prop), CV l x mX8_copyTo 0 0 0 [.ref b3, .ref b5] h q7 ∧ ∀ (h9 : PH), q7 h9 → ((hK h9 a0).1 = 8) ∧ ∃ b11, (hR h9 a0 6 = some b11) ∧ ∃ b13, (hR h9 a0 7 = some b13) ∧ ∃ (q15 : PH → Prop), CV l x mX8_copyTo 0 0 0 [.ref b11, .ref b13] h9 q15 ∧ ∀ (h17 : PH), q15 h17 → ((hK h17 a0).1 = 8) ∧ ∃ b19, (hR h17 a0 8 = some b19) ∧ ∃ b21, (hR h17 a0 9 = some b21) ∧ ∃ (q23 : PH → Prop), CV l x mX8_copyTo 0 0 0 [.ref b19, .ref b21] h17 q23 ∧ ∀ (h25 : PH), q23 h25 → ((hK h25 a0).1 = 8) ∧ ∃ (q26 : PH → Prop), CV l x mX8_begin 1 0 0 [.ref a0] h25 q26 ∧ ∀ (h29 : PH), q26 h29 → ((hK h29 a0).1 = 8) ∧ Q (some (.int 0)) (sI (sI (sI h29 a0 24 0) a0 26 0) a0 34 0)) ∧ (¬ (hI h a0 18) = 0 → ∃ b31, (hR h a0 3 = some b31) ∧ ((hK h b31).1 = 100) ∧ (vp_in 0 (hK h b31).2) ∧ (vp_in 0 (hK h b31).2) ∧ Q (some (.int (hI (sI (sI h a0 20 (hI h a0 19)) b31 (Int32.toNatClampNeg 0) ((hI (sI h a0 20 (hI h a0 19)) b31 (Int32.toNatClampNeg 0)) + 1)) a0 18))) (sI (sI h a0 20 (hI h a0 19)) b31 (Int32.toNatClampNeg 0) ((hI (sI h a0 20 (hI h a0 19)) b31 (Int32.toNatClampNeg 0)) + 1))))) :
    Gm l x mX8_group 9 85 [(0, .ref a0), (1, .int x1)] [] h rc rs n0 Q X := by
  refine g_aload_n dX8_group_85 rfl 0 rfl ?_
  obtain ⟨e1, K⟩ := K
  refine g_get (c := 8) (k := 18) (v := .int (hI h a0 18)) dX8_group_86 fc_8 (by decide) (by decide) bw_1216 rfl e1 ?_
  refine g_if_eq (tgt := 115) dX8_group_89 (by decide) (fun c2 => ?_) (fun c2 => ?_)
  · replace K := K.1 c2
    refine g_aload_n dX8_group_115 rfl 0 rfl ?_
    obtain ⟨b3, e4, K⟩ := K
    refine g_get (c := 8) (k := 4) (v := .ref b3) dX8_group_116 fc_8 (by decide) (by decide) bw_1202 (congrArg pr e4) e1 ?_
    refine g_aload_n dX8_group_119 rfl 0 rfl ?_
    obtain ⟨b5, e6, K⟩ := K
    refine g_get (c := 8) (k := 5) (v := .ref b5) dX8_group_120 fc_8 (by decide) (by decide) bw_1203 (congrArg pr e6) e1 ?_
    obtain ⟨q7, C8, K⟩ := K
    refine g_callS (M' := mX8_copyTo) (As := [.ref b3, .ref b5]) (rest := []) (rc' := rc) (rs' := rs) dX8_group_123 bw_1398 bw_1399 bw_9 bw_1400 ⟨by decide +kernel, by decide +kernel, show (parseMethodDescriptor mX8_copyTo.1.desc).map (fun d => d.parameters.length) = some 2 by decide +kernel⟩ (by decide) (by decide) (Nat.le_of_ble_eq_true rfl) C8 (Nat.le_of_eq (Nat.add_zero _)) (Nat.le_of_eq (Nat.add_zero _)) (fun _ _ h => h) ?_
    rintro _ h9 ⟨rfl, K1⟩ -
    replace K := K h9 K1
    show Gm l x mX8_group 9 126 [(0, .ref a0), (1, .int x1)] [] h9 rc rs n0 Q X
    refine g_aload_n dX8_group_126 rfl 0 rfl ?_
    obtain ⟨e10, b11, e12, K⟩ := K
    refine g_get (c := 8) (k := 6) (v := .ref b11) dX8_group_127 fc_8 (by decide) (by decide) bw_1204 (congrArg pr e12) e10 ?_
    refine g_aload_n dX8_group_130 rfl 0 rfl ?_
    obtain ⟨b13, e14, K⟩ := K
    refine g_get (c := 8) (k := 7) (v := .ref b13) dX8_group_131 fc_8 (by decide) (by decide) bw_1205 (congrArg pr e14) e10 ?_
    obtain ⟨q15, C16, K⟩ := K
    refine g_callS (M' := mX8_copyTo) (As := [.ref b11, .ref b13]) (rest := []) (rc' := rc) (rs' := rs) dX8_group_134 bw_1398 bw_1399 bw_9 bw_1400 ⟨by decide +kernel, by decide +kernel, show (parseMethodDescriptor mX8_copyTo.1.desc).map (fun d => d.parameters.length) = some 2 by decide +kernel⟩ (by decide) (by decide) (Nat.le_of_ble_eq_true rfl) C16 (Nat.le_of_eq (Nat.add_zero _)) (Nat.le_of_eq (Nat.add_zero _)) (fun _ _ h => h) ?_
    rintro _ h17 ⟨rfl, K1⟩ -
    replace K := K h17 K1
    show Gm l x mX8_group 9 137 [(0, .ref a0), (1, .int x1)] [] h17 rc rs n0 Q X
    refine g_aload_n dX8_group_137 rfl 0 rfl ?_
    obtain ⟨e18, b19, e20, K⟩ := K
    refine g_get (c := 8) (k := 8) (v := .ref b19) dX8_group_138 fc_8 (by decide) (by decide) bw_1206 (congrArg pr e20) e18 ?_
    refine g_aload_n dX8_group_141 rfl 0 rfl ?_
    obtain ⟨b21, e22, K⟩ := K
    refine g_get (c := 8) (k := 9) (v := .ref b21) dX8_group_142 fc_8 (by decide) (by decide) bw_1207 (congrArg pr e22) e18 ?_
    obtain ⟨q23, C24, K⟩ := K
    refine g_callS (M' := mX8_copyTo) (As := [.ref b19, .ref b21]) (rest := []) (rc' := rc) (rs' := rs) dX8_group_145 bw_1398 bw_1399 bw_9 bw_1400 ⟨by decide +kernel, by decide +kernel, show (parseMethodDescriptor mX8_copyTo.1.desc).map (fun d => d.parameters.length) = some 2 by decide +kernel⟩ (by decide) (by decide) (Nat.le_of_ble_eq_true rfl) C24 (Nat.le_of_eq (Nat.add_zero _)) (Nat.le_of_eq (Nat.add_zero _)) (fun _ _ h => h) ?_
    rintro _ h25 ⟨rfl, K1⟩ -
    replace K := K h25 K1
    show Gm l x mX8_group 9 148 [(0, .ref a0), (1, .int x1)] [] h25 rc rs n0 Q X
    refine g_aload_n dX8_group_148 rfl 0 rfl ?_
    obtain ⟨e28, K⟩ := K
    obtain ⟨q26, C27, K⟩ := K
    refine g_callV (M' := mX8_begin) (b := a0) (As := []) (rest := []) (rc' := rc) (rs' := rs) dX8_group_149 bw_1182 bw_1184 bs_35 bw_9 bw_1185 ⟨by decide +kernel, by decide +kernel, show (parseMethodDescriptor mX8_begin.1.desc).map (fun d => d.parameters.length) = some 0 by decide +kernel⟩ (by decide) (by decide) (Nat.le_of_ble_eq_true rfl) fc_8 (by decide) rfl e28 C27 (Nat.le_of_eq (Nat.add_zero _)) (Nat.le_of_eq (Nat.add_zero _)) (fun _ _ h => h) ?_
    rintro _ h29 ⟨rfl, K1⟩ -
    replace K := K h29 K1
    show Gm l x mX8_group 9 152 [(0, .ref a0), (1, .int x1)] [] h29 rc rs n0 Q X
    refine g_aload_n dX8_group_152 rfl 0 rfl ?_
    refine g_iconst (v := 0) dX8_group_153 (by decide) ?_
    obtain ⟨e30, K⟩ := K
    refine g_puti (c := 8) (k := 24) dX8_group_154 fc_8 (by decide) (by decide) bw_1222 (Or.inl rfl) rfl e30 ?_
    refine g_aload_n dX8_group_157 rfl 0 rfl ?_
    refine g_iconst (v := 0) dX8_group_158 (by decide) ?_
    refine g_puti (c := 8) (k := 26) dX8_group_159 fc_8 (by decide) (by decide) bw_1224 (Or.inl rfl) rfl (kkI e30) ?_
    refine g_aload_n dX8_group_162 rfl 0 rfl ?_
    refine g_iconst (v := 0) dX8_group_163 (by decide) ?_
    refine g_putz (c := 8) (k := 34) dX8_group_164 fc_8 (by decide) (by decide) bw_1232 (Or.inl rfl) rfl (by decide) (kkI (kkI e30)) ?_
    refine g_iconst (v := 0) dX8_group_167 (by decide) ?_
    exact g_iret dX8_group_168 rfl K
  · replace K := K.2 c2
    refine g_aload_n dX8_group_92 rfl 0 rfl ?_
    refine g_aload_n dX8_group_93 rfl 0 rfl ?_
    refine g_get (c := 8) (k := 19) (v := .int (hI h a0 19)) dX8_group_94 fc_8 (by decide) (by decide) bw_1217 rfl e1 ?_
    refine g_puti (c := 8) (k := 20) dX8_group_97 fc_8 (by decide) (by decide) bw_1218 (Or.inl rfl) rfl e1 ?_
    refine g_aload_n dX8_group_100 rfl 0 rfl ?_
    obtain ⟨b31, e32, K⟩ := K
    refine g_get (c := 8) (k := 3) (v := .ref b31) dX8_group_101 fc_8 (by decide) (by decide) bw_1201 (congrArg pr (krI e32)) (kkI e1) ?_
    refine g_iconst (v := 0) dX8_group_104 (by decide) ?_
    refine g_dup2 dX8_group_105 rfl rfl ?_
    obtain ⟨e33, e34, K⟩ := K
    refine g_iald dX8_group_106 (kkI e33) (kvI e34) ?_
    refine g_iconst (v := 1) dX8_group_107 (by decide) ?_
    refine g_iadd dX8_group_108 ?_
    obtain ⟨e35, K⟩ := K
    refine g_iast dX8_group_109 (kkI e33) (kvI e35) ?_
    refine g_aload_n dX8_group_110 rfl 0 rfl ?_
    refine g_get (c := 8) (k := 18) (v := .int (hI (sI (sI h a0 20 (hI h a0 19)) b31 (Int32.toNatClampNeg 0) ((hI (sI h a0 20 (hI h a0 19)) b31 (Int32.toNatClampNeg 0)) + 1)) a0 18)) dX8_group_111 fc_8 (by decide) (by decide) bw_1216 rfl (kkI (kkI e1)) ?_
    exact g_iret dX8_group_114 rfl K
theorem dX8_gives_0 : decode cX8_gives 0 = .ok (.iload_n 1, 1) := by decide +kernel
theorem dX8_gives_1 : decode cX8_gives 1 = .ok (.iload_n 2, 1) := by decide +kernel
theorem dX8_gives_2 : decode cX8_gives 2 = .ok (.iload_n 3, 1) := by decide +kernel
theorem dX8_gives_3 : decode cX8_gives 3 = .ok (.invokestatic 234, 3) := by decide +kernel
theorem dX8_gives_6 : decode cX8_gives 6 = .ok (.istore 4, 2) := by decide +kernel
theorem dX8_gives_8 : decode cX8_gives 8 = .ok (.aload_n 0, 1) := by decide +kernel
theorem dX8_gives_9 : decode cX8_gives 9 = .ok (.iload_n 1, 1) := by decide +kernel
theorem dX8_gives_10 : decode cX8_gives 10 = .ok (.iload_n 2, 1) := by decide +kernel
theorem dX8_gives_11 : decode cX8_gives 11 = .ok (.iload_n 3, 1) := by decide +kernel
theorem dX8_gives_12 : decode cX8_gives 12 = .ok (.invokevirtual 320, 3) := by decide +kernel
theorem dX8_gives_15 : decode cX8_gives 15 = .ok (.ifCond .eq 30, 3) := by decide +kernel
theorem dX8_gives_18 : decode cX8_gives 18 = .ok (.aload_n 0, 1) := by decide +kernel
theorem dX8_gives_19 : decode cX8_gives 19 = .ok (.getfield 29, 3) := by decide +kernel
theorem dX8_gives_22 : decode cX8_gives 22 = .ok (.iload 4, 2) := by decide +kernel
theorem dX8_gives_24 : decode cX8_gives 24 = .ok (.iaload, 1) := by decide +kernel
theorem dX8_gives_25 : decode cX8_gives 25 = .ok (.ifCond .le 21, 3) := by decide +kernel
theorem dX8_gives_28 : decode cX8_gives 28 = .ok (.aload_n 0, 1) := by decide +kernel
theorem dX8_gives_29 : decode cX8_gives 29 = .ok (.aload_n 0, 1) := by decide +kernel
theorem dX8_gives_30 : decode cX8_gives 30 = .ok (.getfield 29, 3) := by decide +kernel
theorem dX8_gives_33 : decode cX8_gives 33 = .ok (.iload 4, 2) := by decide +kernel
theorem dX8_gives_35 : decode cX8_gives 35 = .ok (.iaload, 1) := by decide +kernel
theorem dX8_gives_36 : decode cX8_gives 36 = .ok (.iconst 1, 1) := by decide +kernel
theorem dX8_gives_37 : decode cX8_gives 37 = .ok (.isub, 1) := by decide +kernel
theorem dX8_gives_38 : decode cX8_gives 38 = .ok (.iload_n 1, 1) := by decide +kernel
theorem dX8_gives_39 : decode cX8_gives 39 = .ok (.invokevirtual 323, 3) := by decide +kernel
theorem dX8_gives_42 : decode cX8_gives 42 = .ok (.ifCond .ne 4, 3) := by decide +kernel
theorem dX8_gives_45 : decode cX8_gives 45 = .ok (.return_, 1) := by decide +kernel
theorem dX8_gives_46 : decode cX8_gives 46 = .ok (.aload_n 0, 1) := by decide +kernel
theorem dX8_gives_47 : decode cX8_gives 47 = .ok (.iload_n 1, 1) := by decide +kernel
theorem dX8_gives_48 : decode cX8_gives 48 = .ok (.iload_n 2, 1) := by decide +kernel
theorem dX8_gives_49 : decode cX8_gives 49 = .ok (.iload_n 3, 1) := by decide +kernel
theorem dX8_gives_50 : decode cX8_gives 50 = .ok (.invokevirtual 326, 3) := by decide +kernel
theorem dX8_gives_53 : decode cX8_gives 53 = .ok (.istore 5, 2) := by decide +kernel
theorem dX8_gives_55 : decode cX8_gives 55 = .ok (.aload_n 0, 1) := by decide +kernel
theorem dX8_gives_56 : decode cX8_gives 56 = .ok (.getfield 29, 3) := by decide +kernel
theorem dX8_gives_59 : decode cX8_gives 59 = .ok (.iload 4, 2) := by decide +kernel
theorem dX8_gives_61 : decode cX8_gives 61 = .ok (.iload 5, 2) := by decide +kernel
theorem dX8_gives_63 : decode cX8_gives 63 = .ok (.iconst 1, 1) := by decide +kernel
theorem dX8_gives_64 : decode cX8_gives 64 = .ok (.iadd, 1) := by decide +kernel
theorem dX8_gives_65 : decode cX8_gives 65 = .ok (.iastore, 1) := by decide +kernel
theorem dX8_gives_66 : decode cX8_gives 66 = .ok (.iload 5, 2) := by decide +kernel
theorem dX8_gives_68 : decode cX8_gives 68 = .ok (.iconst (-1), 1) := by decide +kernel
theorem dX8_gives_69 : decode cX8_gives 69 = .ok (.if_icmp .eq 20, 3) := by decide +kernel
theorem dX8_gives_72 : decode cX8_gives 72 = .ok (.aload_n 0, 1) := by decide +kernel
theorem dX8_gives_73 : decode cX8_gives 73 = .ok (.getfield 29, 3) := by decide +kernel
theorem dX8_gives_76 : decode cX8_gives 76 = .ok (.iconst 2, 1) := by decide +kernel
theorem dX8_gives_77 : decode cX8_gives 77 = .ok (.iaload, 1) := by decide +kernel
theorem dX8_gives_78 : decode cX8_gives 78 = .ok (.ifCond .ne 11, 3) := by decide +kernel
theorem dX8_gives_81 : decode cX8_gives 81 = .ok (.aload_n 0, 1) := by decide +kernel
theorem dX8_gives_82 : decode cX8_gives 82 = .ok (.getfield 29, 3) := by decide +kernel
theorem dX8_gives_85 : decode cX8_gives 85 = .ok (.iconst 4, 1) := by decide +kernel
theorem dX8_gives_86 : decode cX8_gives 86 = .ok (.iload 5, 2) := by decide +kernel
theorem dX8_gives_88 : decode cX8_gives 88 = .ok (.iastore, 1) := by decide +kernel
theorem dX8_gives_89 : decode cX8_gives 89 = .ok (.return_, 1) := by decide +kernel
set_option maxRecDepth 20000 in
set_option maxHeartbeats 4000000 in
theorem vX8_gives_0 {l : Launch} {x : CX} {a0 : Nat} {x1 : Int32} {x2 : Int32} {x3 : Int32} {h : PH} {rc rs n0 : Nat} {Q : Option Value → PH → Prop} {X : String → PH → Prop}
    (K : ∃ (q1 : Int32 → PH → Prop), CI l x mX8_callAt 0 0 0 [.int x1, .int x2, .int x3] h q1 ∧ ∀ (r4 : Int32) (h3 : PH), q1 r4 h3 → ((hK h3 a0).1 = 8) ∧ ∃ (q5 : Int32 → PH → Prop), CI l x mX8_isCall 2 0 0 [.ref a0, .int x1, .int x2, .int x3] h3 q5 ∧ ∀ (r9 : Int32) (h8 : PH), q5 r9 h8 → ((r9 = 0 → Q none h8) ∧ (¬ r9 = 0 → ((hK h8 a0).1 = 8) ∧ ∃ b12, (hR h8 a0 2 = some b12) ∧ ((hK h8 b12).1 = 100) ∧ (vp_in r4 (hK h8 b12).2) ∧ (((hI h8 b12 r4.toNatClampNeg) ≤ 0 → ∃ (q17 : Int32 → PH → Prop), CI l x mX8_chosen 8 0 0 [.ref a0, .int x1, .int x2, .int x3] h8 q17 ∧ ∀ (r20 : Int32) (h19 : PH), q17 r20 h19 → ((hK h19 a0).1 = 8) ∧ ∃ b22, (hR h19 a0 2 = some b22) ∧ ((hK h19 b22).1 = 100) ∧ (vp_in r4 (hK h19 b22).2) ∧ ((r20 = (-1) → Q none (sI h19 b22 r4.toNatClampNeg (r20 + 1))) ∧ (¬ r20 = (-1) → (vp_in 2 (hK h19 b22).2) ∧ ((¬ (hI (sI h19 b22 r4.toNatClampNeg (r20 + 1)) b22 (Int32.toNatClampNeg 2)) = 0 → Q none (sI h19 b22 r4.toNatClampNeg (r20 + 1))) ∧ ((hI (sI h19 b22 r4.toNatClampNeg (r20 + 1)) b22 (Int32.toNatClampNeg 2)) = 0 → (vp_in 4 (hK h19 b22).2) ∧ Q none (sI (sI h19 b22 r4.toNatClampNeg (r20 + 1)) b22 (Int32.toNatClampNeg 4) r20)))))) ∧ (¬ (hI h8 b12 r4.toNatClampNeg) ≤ 0 → (vp_in r4 (hK h8 b12).2) ∧ ∃ (q31 : Int32 → PH → Prop), CI l x mX8_isLate 1 0 0 [.ref a0, .int ((hI h8 b12 r4.toNatClampNeg) - 1), .int x1] h8 q31 ∧ ∀ (r34 : Int32) (h33 : PH), q31 r34 h33 → ((¬ r34 = 0 → ((hK h33 a0).1 = 8) ∧ ∃ (q36 : Int32 → PH → Prop), CI l x mX8_chosen 8 0 0 [.ref a0, .int x1, .int x2, .int x3] h33 q36 ∧ ∀ (r40 : Int32) (h39 : PH), q36 r40 h39 → ((hK h39 a0).1 = 8) ∧ ∃ b42, (hR h39 a0 2 = some b42) ∧ ((hK h39 b42).1 = 100) ∧ (vp_in r4 (hK h39 b42).2) ∧ ((r40 = (-1) → Q none (sI h39 b42 r4.toNatClampNeg (r40 + 1))) ∧ (¬ r40 = (-1) → (vp_in 2 (hK h39 b42).2) ∧ ((¬ (hI (sI h39 b42 r4.toNatClampNeg (r40 + 1)) b42 (Int32.toNatClampNeg 2)) = 0 → Q none (sI h39 b42 r4.toNatClampNeg (r40 + 1))) ∧ ((hI (sI h39 b42 r4.toNatClampNeg (r40 + 1)) b42 (Int32.toNatClampNeg 2)) = 0 → (vp_in 4 (hK h39 b42).2) ∧ Q none (sI (sI h39 b42 r4.toNatClampNeg (r40 + 1)) b42 (Int32.toNatClampNeg 4) r40)))))) ∧ (r34 = 0 → Q none h33))))))) :
    Gm l x mX8_gives 9 0 [(0, .ref a0), (1, .int x1), (2, .int x2), (3, .int x3)] [] h rc rs n0 Q X := by
  refine g_iload_n dX8_gives_0 rfl 1 rfl ?_
  refine g_iload_n dX8_gives_1 rfl 2 rfl ?_
  refine g_iload_n dX8_gives_2 rfl 3 rfl ?_
  obtain ⟨q1, C2, K⟩ := K
  refine g_callS (M' := mX8_callAt) (As := [.int x1, .int x2, .int x3]) (rest := []) (rc' := rc) (rs' := rs) dX8_gives_3 bw_1469 bw_1470 bw_9 bw_1471 ⟨by decide +kernel, by decide +kernel, show (parseMethodDescriptor mX8_callAt.1.desc).map (fun d => d.parameters.length) = some 3 by decide +kernel⟩ (by decide) (by decide) (Nat.le_of_ble_eq_true rfl) C2 (Nat.le_of_eq (Nat.add_zero _)) (Nat.le_of_eq (Nat.add_zero _)) (fun _ _ h => h) ?_
  rintro _ h3 ⟨r4, rfl, K1⟩ -
  replace K := K r4 h3 K1
  show Gm l x mX8_gives 9 6 [(0, .ref a0), (1, .int x1), (2, .int x2), (3, .int x3)] [.int r4] h3 rc rs n0 Q X
  refine g_istore (lv' := [(0, .ref a0), (1, .int x1), (2, .int x2), (3, .int x3), (4, .int r4)]) dX8_gives_6 (by decide) rfl ?_
  refine g_aload_n dX8_gives_8 rfl 0 rfl ?_
  refine g_iload_n dX8_gives_9 rfl 1 rfl ?_
  refine g_iload_n dX8_gives_10 rfl 2 rfl ?_
  refine g_iload_n dX8_gives_11 rfl 3 rfl ?_
  obtain ⟨e7, K⟩ := K
  obtain ⟨q5, C6, K⟩ := K
  refine g_callV (M' := mX8_isCall) (b := a0) (As := [.int x1, .int x2, .int x3]) (rest := []) (rc' := rc) (rs' := rs) dX8_gives_12 bw_1421 bw_1423 bs_54 bw_9 bw_1424 ⟨by decide +kernel, by decide +kernel, show (parseMethodDescriptor mX8_isCall.1.desc).map (fun d => d.parameters.length) = some 3 by decide +kernel⟩ (by decide) (by decide) (Nat.le_of_ble_eq_true rfl) fc_8 (by decide) rfl e7 C6 (Nat.le_of_eq (Nat.add_zero _)) (Nat.le_of_eq (Nat.add_zero _)) (fun _ _ h => h) ?_
  rintro _ h8 ⟨r9, rfl, K1⟩ -
  replace K := K r9 h8 K1
  show Gm l x mX8_gives 9 15 [(0, .ref a0), (1, .int x1), (2, .int x2), (3, .int x3), (4, .int r4)] [.int r9] h8 rc rs n0 Q X
  refine g_if_eq (tgt := 45) dX8_gives_15 (by decide) (fun c10 => ?_) (fun c10 => ?_)
  · replace K := K.1 c10
    exact g_vret dX8_gives_45 rfl K
  · replace K := K.2 c10
    refine g_aload_n dX8_gives_18 rfl 0 rfl ?_
    obtain ⟨e11, b12, e13, K⟩ := K
    refine g_get (c := 8) (k := 2) (v := .ref b12) dX8_gives_19 fc_8 (by decide) (by decide) bw_1200 (congrArg pr e13) e11 ?_
    refine g_iload dX8_gives_22 4 rfl ?_
    obtain ⟨e14, e15, K⟩ := K
    refine g_iald dX8_gives_24 e14 e15 ?_
    refine g_if_le (tgt := 46) dX8_gives_25 (by decide) (fun c16 => ?_) (fun c16 => ?_)
    · replace K := K.1 c16
      refine g_aload_n dX8_gives_46 rfl 0 rfl ?_
      refine g_iload_n dX8_gives_47 rfl 1 rfl ?_
      refine g_iload_n dX8_gives_48 rfl 2 rfl ?_
      refine g_iload_n dX8_gives_49 rfl 3 rfl ?_
      obtain ⟨q17, C18, K⟩ := K
      refine g_callV (M' := mX8_chosen) (b := a0) (As := [.int x1, .int x2, .int x3]) (rest := []) (rc' := rc) (rs' := rs) dX8_gives_50 bw_1481 bw_1483 bs_68 bw_9 bw_1484 ⟨by decide +kernel, by decide +kernel, show (parseMethodDescriptor mX8_chosen.1.desc).map (fun d => d.parameters.length) = some 3 by decide +kernel⟩ (by decide) (by decide) (Nat.le_of_ble_eq_true rfl) fc_8 (by decide) rfl e11 C18 (Nat.le_of_eq (Nat.add_zero _)) (Nat.le_of_eq (Nat.add_zero _)) (fun _ _ h => h) ?_
      rintro _ h19 ⟨r20, rfl, K1⟩ -
      replace K := K r20 h19 K1
      show Gm l x mX8_gives 9 53 [(0, .ref a0), (1, .int x1), (2, .int x2), (3, .int x3), (4, .int r4)] [.int r20] h19 rc rs n0 Q X
      refine g_istore (lv' := [(0, .ref a0), (1, .int x1), (2, .int x2), (3, .int x3), (4, .int r4), (5, .int r20)]) dX8_gives_53 (by decide) rfl ?_
      refine g_aload_n dX8_gives_55 rfl 0 rfl ?_
      obtain ⟨e21, b22, e23, K⟩ := K
      refine g_get (c := 8) (k := 2) (v := .ref b22) dX8_gives_56 fc_8 (by decide) (by decide) bw_1200 (congrArg pr e23) e21 ?_
      refine g_iload dX8_gives_59 4 rfl ?_
      refine g_iload dX8_gives_61 5 rfl ?_
      refine g_iconst (v := 1) dX8_gives_63 (by decide) ?_
      refine g_iadd dX8_gives_64 ?_
      obtain ⟨e24, e25, K⟩ := K
      refine g_iast dX8_gives_65 e24 e25 ?_
      refine g_iload dX8_gives_66 5 rfl ?_
      refine g_iconst (v := (-1)) dX8_gives_68 (by decide) ?_
      refine g_icmp_eq (tgt := 89) dX8_gives_69 (by decide) (fun c26 => ?_) (fun c26 => ?_)
      · replace K := K.1 c26
        exact g_vret dX8_gives_89 rfl K
      · replace K := K.2 c26
        refine g_aload_n dX8_gives_72 rfl 0 rfl ?_
        refine g_get (c := 8) (k := 2) (v := .ref b22) dX8_gives_73 fc_8 (by decide) (by decide) bw_1200 (congrArg pr (krI e23)) (kkI e21) ?_
        refine g_iconst (v := 2) dX8_gives_76 (by decide) ?_
        obtain ⟨e27, K⟩ := K
        refine g_iald dX8_gives_77 (kkI e24) (kvI e27) ?_
        refine g_if_ne (tgt := 89) dX8_gives_78 (by decide) (fun c28 => ?_) (fun c28 => ?_)
        · replace K := K.1 c28
          exact g_vret dX8_gives_89 rfl K
        · replace K := K.2 c28
          refine g_aload_n dX8_gives_81 rfl 0 rfl ?_
          refine g_get (c := 8) (k := 2) (v := .ref b22) dX8_gives_82 fc_8 (by decide) (by decide) bw_1200 (congrArg pr (krI e23)) (kkI e21) ?_
          refine g_iconst (v := 4) dX8_gives_85 (by decide) ?_
          refine g_iload dX8_gives_86 5 rfl ?_
          obtain ⟨e29, K⟩ := K
          refine g_iast dX8_gives_88 (kkI e24) (kvI e29) ?_
          exact g_vret dX8_gives_89 rfl K
    · replace K := K.2 c16
      refine g_aload_n dX8_gives_28 rfl 0 rfl ?_
      refine g_aload_n dX8_gives_29 rfl 0 rfl ?_
      refine g_get (c := 8) (k := 2) (v := .ref b12) dX8_gives_30 fc_8 (by decide) (by decide) bw_1200 (congrArg pr e13) e11 ?_
      refine g_iload dX8_gives_33 4 rfl ?_
      obtain ⟨e30, K⟩ := K
      refine g_iald dX8_gives_35 e14 e30 ?_
      refine g_iconst (v := 1) dX8_gives_36 (by decide) ?_
      refine g_isub dX8_gives_37 ?_
      refine g_iload_n dX8_gives_38 rfl 1 rfl ?_
      obtain ⟨q31, C32, K⟩ := K
      refine g_callV (M' := mX8_isLate) (b := a0) (As := [.int ((hI h8 b12 r4.toNatClampNeg) - 1), .int x1]) (rest := []) (rc' := rc) (rs' := rs) dX8_gives_39 bw_1472 bw_1474 bs_66 bw_9 bw_1475 ⟨by decide +kernel, by decide +kernel, show (parseMethodDescriptor mX8_isLate.1.desc).map (fun d => d.parameters.length) = some 2 by decide +kernel⟩ (by decide) (by decide) (Nat.le_of_ble_eq_true rfl) fc_8 (by decide) rfl e11 C32 (Nat.le_of_eq (Nat.add_zero _)) (Nat.le_of_eq (Nat.add_zero _)) (fun _ _ h => h) ?_
      rintro _ h33 ⟨r34, rfl, K1⟩ -
      replace K := K r34 h33 K1
      show Gm l x mX8_gives 9 42 [(0, .ref a0), (1, .int x1), (2, .int x2), (3, .int x3), (4, .int r4)] [.int r34] h33 rc rs n0 Q X
      refine g_if_ne (tgt := 46) dX8_gives_42 (by decide) (fun c35 => ?_) (fun c35 => ?_)
      · replace K := K.1 c35
        refine g_aload_n dX8_gives_46 rfl 0 rfl ?_
        refine g_iload_n dX8_gives_47 rfl 1 rfl ?_
        refine g_iload_n dX8_gives_48 rfl 2 rfl ?_
        refine g_iload_n dX8_gives_49 rfl 3 rfl ?_
        obtain ⟨e38, K⟩ := K
        obtain ⟨q36, C37, K⟩ := K
        refine g_callV (M' := mX8_chosen) (b := a0) (As := [.int x1, .int x2, .int x3]) (rest := []) (rc' := rc) (rs' := rs) dX8_gives_50 bw_1481 bw_1483 bs_68 bw_9 bw_1484 ⟨by decide +kernel, by decide +kernel, show (parseMethodDescriptor mX8_chosen.1.desc).map (fun d => d.parameters.length) = some 3 by decide +kernel⟩ (by decide) (by decide) (Nat.le_of_ble_eq_true rfl) fc_8 (by decide) rfl e38 C37 (Nat.le_of_eq (Nat.add_zero _)) (Nat.le_of_eq (Nat.add_zero _)) (fun _ _ h => h) ?_
        rintro _ h39 ⟨r40, rfl, K1⟩ -
        replace K := K r40 h39 K1
        show Gm l x mX8_gives 9 53 [(0, .ref a0), (1, .int x1), (2, .int x2), (3, .int x3), (4, .int r4)] [.int r40] h39 rc rs n0 Q X
        refine g_istore (lv' := [(0, .ref a0), (1, .int x1), (2, .int x2), (3, .int x3), (4, .int r4), (5, .int r40)]) dX8_gives_53 (by decide) rfl ?_
        refine g_aload_n dX8_gives_55 rfl 0 rfl ?_
        obtain ⟨e41, b42, e43, K⟩ := K
        refine g_get (c := 8) (k := 2) (v := .ref b42) dX8_gives_56 fc_8 (by decide) (by decide) bw_1200 (congrArg pr e43) e41 ?_
        refine g_iload dX8_gives_59 4 rfl ?_
        refine g_iload dX8_gives_61 5 rfl ?_
        refine g_iconst (v := 1) dX8_gives_63 (by decide) ?_
        refine g_iadd dX8_gives_64 ?_
        obtain ⟨e44, e45, K⟩ := K
        refine g_iast dX8_gives_65 e44 e45 ?_
        refine g_iload dX8_gives_66 5 rfl ?_
        refine g_iconst (v := (-1)) dX8_gives_68 (by decide) ?_
        refine g_icmp_eq (tgt := 89) dX8_gives_69 (by decide) (fun c46 => ?_) (fun c46 => ?_)
        · replace K := K.1 c46
          exact g_vret dX8_gives_89 rfl K
        · replace K := K.2 c46
          refine g_aload_n dX8_gives_72 rfl 0 rfl ?_
          refine g_get (c := 8) (k := 2) (v := .ref b42) dX8_gives_73 fc_8 (by decide) (by decide) bw_1200 (congrArg pr (krI e43)) (kkI e41) ?_
          refine g_iconst (v := 2) dX8_gives_76 (by decide) ?_
          obtain ⟨e47, K⟩ := K
          refine g_iald dX8_gives_77 (kkI e44) (kvI e47) ?_
          refine g_if_ne (tgt := 89) dX8_gives_78 (by decide) (fun c48 => ?_) (fun c48 => ?_)
          · replace K := K.1 c48
            exact g_vret dX8_gives_89 rfl K
          · replace K := K.2 c48
            refine g_aload_n dX8_gives_81 rfl 0 rfl ?_
            refine g_get (c := 8) (k := 2) (v := .ref b42) dX8_gives_82 fc_8 (by decide) (by decide) bw_1200 (congrArg pr (krI e43)) (kkI e41) ?_
            refine g_iconst (v := 4) dX8_gives_85 (by decide) ?_
            refine g_iload dX8_gives_86 5 rfl ?_
            obtain ⟨e49, K⟩ := K
            refine g_iast dX8_gives_88 (kkI e44) (kvI e49) ?_
            exact g_vret dX8_gives_89 rfl K
      · replace K := K.2 c35
        exact g_vret dX8_gives_45 rfl K
theorem dX8_tick_0 : decode cX8_tick 0 = .ok (.iconst 0, 1) := by decide +kernel
theorem dX8_tick_1 : decode cX8_tick 1 = .ok (.istore_n 1, 1) := by decide +kernel
theorem dX8_tick_2 : decode cX8_tick 2 = .ok (.iload_n 1, 1) := by decide +kernel
theorem dX8_tick_3 : decode cX8_tick 3 = .ok (.aload_n 0, 1) := by decide +kernel
theorem dX8_tick_4 : decode cX8_tick 4 = .ok (.getfield 29, 3) := by decide +kernel
theorem dX8_tick_7 : decode cX8_tick 7 = .ok (.bipush 6, 2) := by decide +kernel
theorem dX8_tick_9 : decode cX8_tick 9 = .ok (.iaload, 1) := by decide +kernel
theorem dX8_tick_10 : decode cX8_tick 10 = .ok (.if_icmp .ge 38, 3) := by decide +kernel
theorem dX8_tick_13 : decode cX8_tick 13 = .ok (.aload_n 0, 1) := by decide +kernel
theorem dX8_tick_14 : decode cX8_tick 14 = .ok (.iload_n 1, 1) := by decide +kernel
theorem dX8_tick_15 : decode cX8_tick 15 = .ok (.iconst 4, 1) := by decide +kernel
theorem dX8_tick_16 : decode cX8_tick 16 = .ok (.invokevirtual 228, 3) := by decide +kernel
theorem dX8_tick_19 : decode cX8_tick 19 = .ok (.ifCond .ne 23, 3) := by decide +kernel
theorem dX8_tick_22 : decode cX8_tick 22 = .ok (.aload_n 0, 1) := by decide +kernel
theorem dX8_tick_23 : decode cX8_tick 23 = .ok (.iload_n 1, 1) := by decide +kernel
theorem dX8_tick_24 : decode cX8_tick 24 = .ok (.iconst 1, 1) := by decide +kernel
theorem dX8_tick_25 : decode cX8_tick 25 = .ok (.invokevirtual 228, 3) := by decide +kernel
theorem dX8_tick_28 : decode cX8_tick 28 = .ok (.aload_n 0, 1) := by decide +kernel
theorem dX8_tick_29 : decode cX8_tick 29 = .ok (.getfield 29, 3) := by decide +kernel
theorem dX8_tick_32 : decode cX8_tick 32 = .ok (.iconst 0, 1) := by decide +kernel
theorem dX8_tick_33 : decode cX8_tick 33 = .ok (.iaload, 1) := by decide +kernel
theorem dX8_tick_34 : decode cX8_tick 34 = .ok (.if_icmp .ne 8, 3) := by decide +kernel
theorem dX8_tick_37 : decode cX8_tick 37 = .ok (.aload_n 0, 1) := by decide +kernel
theorem dX8_tick_38 : decode cX8_tick 38 = .ok (.iload_n 1, 1) := by decide +kernel
theorem dX8_tick_39 : decode cX8_tick 39 = .ok (.invokevirtual 329, 3) := by decide +kernel
theorem dX8_tick_42 : decode cX8_tick 42 = .ok (.iinc 1 1, 3) := by decide +kernel
theorem dX8_tick_45 : decode cX8_tick 45 = .ok (.goto (-43), 3) := by decide +kernel
theorem dX8_tick_48 : decode cX8_tick 48 = .ok (.aload_n 0, 1) := by decide +kernel
theorem dX8_tick_49 : decode cX8_tick 49 = .ok (.getfield 29, 3) := by decide +kernel
theorem dX8_tick_52 : decode cX8_tick 52 = .ok (.iconst 1, 1) := by decide +kernel
theorem dX8_tick_53 : decode cX8_tick 53 = .ok (.iaload, 1) := by decide +kernel
theorem dX8_tick_54 : decode cX8_tick 54 = .ok (.iconst 1, 1) := by decide +kernel
theorem dX8_tick_55 : decode cX8_tick 55 = .ok (.if_icmp .ne 7, 3) := by decide +kernel
theorem dX8_tick_58 : decode cX8_tick 58 = .ok (.iconst 1, 1) := by decide +kernel
theorem dX8_tick_59 : decode cX8_tick 59 = .ok (.goto 4, 3) := by decide +kernel
theorem dX8_tick_62 : decode cX8_tick 62 = .ok (.iconst 0, 1) := by decide +kernel
theorem dX8_tick_63 : decode cX8_tick 63 = .ok (.istore_n 1, 1) := by decide +kernel
theorem dX8_tick_64 : decode cX8_tick 64 = .ok (.sipush 264, 3) := by decide +kernel
theorem dX8_tick_67 : decode cX8_tick 67 = .ok (.istore_n 2, 1) := by decide +kernel
theorem dX8_tick_68 : decode cX8_tick 68 = .ok (.iload_n 2, 1) := by decide +kernel
theorem dX8_tick_69 : decode cX8_tick 69 = .ok (.sipush 312, 3) := by decide +kernel
theorem dX8_tick_72 : decode cX8_tick 72 = .ok (.if_icmp .ge 20, 3) := by decide +kernel
theorem dX8_tick_75 : decode cX8_tick 75 = .ok (.iload_n 1, 1) := by decide +kernel
theorem dX8_tick_76 : decode cX8_tick 76 = .ok (.ifCond .eq 16, 3) := by decide +kernel
theorem dX8_tick_79 : decode cX8_tick 79 = .ok (.aload_n 0, 1) := by decide +kernel
theorem dX8_tick_80 : decode cX8_tick 80 = .ok (.getfield 29, 3) := by decide +kernel
theorem dX8_tick_83 : decode cX8_tick 83 = .ok (.iload_n 2, 1) := by decide +kernel
theorem dX8_tick_84 : decode cX8_tick 84 = .ok (.iconst 0, 1) := by decide +kernel
theorem dX8_tick_85 : decode cX8_tick 85 = .ok (.iastore, 1) := by decide +kernel
theorem dX8_tick_86 : decode cX8_tick 86 = .ok (.iinc 2 1, 3) := by decide +kernel
theorem dX8_tick_89 : decode cX8_tick 89 = .ok (.goto (-21), 3) := by decide +kernel
theorem dX8_tick_92 : decode cX8_tick 92 = .ok (.iconst 0, 1) := by decide +kernel
theorem dX8_tick_93 : decode cX8_tick 93 = .ok (.istore_n 2, 1) := by decide +kernel
theorem dX8_tick_94 : decode cX8_tick 94 = .ok (.iload_n 2, 1) := by decide +kernel
theorem dX8_tick_95 : decode cX8_tick 95 = .ok (.aload_n 0, 1) := by decide +kernel
theorem dX8_tick_96 : decode cX8_tick 96 = .ok (.getfield 36, 3) := by decide +kernel
theorem dX8_tick_99 : decode cX8_tick 99 = .ok (.iconst 0, 1) := by decide +kernel
theorem dX8_tick_100 : decode cX8_tick 100 = .ok (.iaload, 1) := by decide +kernel
theorem dX8_tick_101 : decode cX8_tick 101 = .ok (.if_icmp .ge 46, 3) := by decide +kernel
theorem dX8_tick_104 : decode cX8_tick 104 = .ok (.iload_n 1, 1) := by decide +kernel
theorem dX8_tick_105 : decode cX8_tick 105 = .ok (.ifCond .ne 42, 3) := by decide +kernel
theorem dX8_tick_108 : decode cX8_tick 108 = .ok (.iconst 0, 1) := by decide +kernel
theorem dX8_tick_109 : decode cX8_tick 109 = .ok (.istore_n 3, 1) := by decide +kernel
theorem dX8_tick_110 : decode cX8_tick 110 = .ok (.iload_n 3, 1) := by decide +kernel
theorem dX8_tick_111 : decode cX8_tick 111 = .ok (.iconst 4, 1) := by decide +kernel
theorem dX8_tick_112 : decode cX8_tick 112 = .ok (.if_icmp .ge 29, 3) := by decide +kernel
theorem dX8_tick_115 : decode cX8_tick 115 = .ok (.aload_n 0, 1) := by decide +kernel
theorem dX8_tick_116 : decode cX8_tick 116 = .ok (.iload_n 2, 1) := by decide +kernel
theorem dX8_tick_117 : decode cX8_tick 117 = .ok (.iload_n 3, 1) := by decide +kernel
theorem dX8_tick_118 : decode cX8_tick 118 = .ok (.iconst 2, 1) := by decide +kernel
theorem dX8_tick_119 : decode cX8_tick 119 = .ok (.if_icmp .ge 7, 3) := by decide +kernel
theorem dX8_tick_122 : decode cX8_tick 122 = .ok (.iconst 1, 1) := by decide +kernel
theorem dX8_tick_123 : decode cX8_tick 123 = .ok (.goto 4, 3) := by decide +kernel
theorem dX8_tick_126 : decode cX8_tick 126 = .ok (.iconst (-1), 1) := by decide +kernel
theorem dX8_tick_127 : decode cX8_tick 127 = .ok (.iconst 1, 1) := by decide +kernel
theorem dX8_tick_128 : decode cX8_tick 128 = .ok (.iload_n 3, 1) := by decide +kernel
theorem dX8_tick_129 : decode cX8_tick 129 = .ok (.iconst 2, 1) := by decide +kernel
theorem dX8_tick_130 : decode cX8_tick 130 = .ok (.irem, 1) := by decide +kernel
theorem dX8_tick_131 : decode cX8_tick 131 = .ok (.iadd, 1) := by decide +kernel
theorem dX8_tick_132 : decode cX8_tick 132 = .ok (.invokevirtual 332, 3) := by decide +kernel
theorem dX8_tick_135 : decode cX8_tick 135 = .ok (.iinc 3 1, 3) := by decide +kernel
theorem dX8_tick_138 : decode cX8_tick 138 = .ok (.goto (-28), 3) := by decide +kernel
theorem dX8_tick_141 : decode cX8_tick 141 = .ok (.iinc 2 1, 3) := by decide +kernel
theorem dX8_tick_144 : decode cX8_tick 144 = .ok (.goto (-50), 3) := by decide +kernel
theorem dX8_tick_147 : decode cX8_tick 147 = .ok (.iconst 0, 1) := by decide +kernel
theorem dX8_tick_148 : decode cX8_tick 148 = .ok (.istore_n 2, 1) := by decide +kernel
theorem dX8_tick_149 : decode cX8_tick 149 = .ok (.iload_n 2, 1) := by decide +kernel
theorem dX8_tick_150 : decode cX8_tick 150 = .ok (.aload_n 0, 1) := by decide +kernel
theorem dX8_tick_151 : decode cX8_tick 151 = .ok (.getfield 36, 3) := by decide +kernel
theorem dX8_tick_154 : decode cX8_tick 154 = .ok (.iconst 1, 1) := by decide +kernel
theorem dX8_tick_155 : decode cX8_tick 155 = .ok (.iaload, 1) := by decide +kernel
theorem dX8_tick_156 : decode cX8_tick 156 = .ok (.if_icmp .ge 39, 3) := by decide +kernel
theorem dX8_tick_159 : decode cX8_tick 159 = .ok (.aload_n 0, 1) := by decide +kernel
theorem dX8_tick_160 : decode cX8_tick 160 = .ok (.iload_n 2, 1) := by decide +kernel
theorem dX8_tick_161 : decode cX8_tick 161 = .ok (.iconst 4, 1) := by decide +kernel
theorem dX8_tick_162 : decode cX8_tick 162 = .ok (.invokevirtual 238, 3) := by decide +kernel
theorem dX8_tick_165 : decode cX8_tick 165 = .ok (.ifCond .ne 6, 3) := by decide +kernel
theorem dX8_tick_168 : decode cX8_tick 168 = .ok (.goto 21, 3) := by decide +kernel
theorem dX8_tick_171 : decode cX8_tick 171 = .ok (.iload_n 1, 1) := by decide +kernel
theorem dX8_tick_172 : decode cX8_tick 172 = .ok (.ifCond .eq 11, 3) := by decide +kernel
theorem dX8_tick_175 : decode cX8_tick 175 = .ok (.aload_n 0, 1) := by decide +kernel
theorem dX8_tick_176 : decode cX8_tick 176 = .ok (.iload_n 2, 1) := by decide +kernel
theorem dX8_tick_177 : decode cX8_tick 177 = .ok (.invokevirtual 335, 3) := by decide +kernel
theorem dX8_tick_180 : decode cX8_tick 180 = .ok (.goto 9, 3) := by decide +kernel
theorem dX8_tick_183 : decode cX8_tick 183 = .ok (.aload_n 0, 1) := by decide +kernel
theorem dX8_tick_184 : decode cX8_tick 184 = .ok (.iload_n 2, 1) := by decide +kernel
theorem dX8_tick_185 : decode cX8_tick 185 = .ok (.invokevirtual 310, 3) := by decide +kernel
theorem dX8_tick_188 : decode cX8_tick 188 = .ok (.istore_n 3, 1) := by decide +kernel
theorem dX8_tick_189 : decode cX8_tick 189 = .ok (.iinc 2 1, 3) := by decide +kernel
theorem dX8_tick_192 : decode cX8_tick 192 = .ok (.goto (-43), 3) := by decide +kernel
theorem dX8_tick_195 : decode cX8_tick 195 = .ok (.aload_n 0, 1) := by decide +kernel
theorem dX8_tick_196 : decode cX8_tick 196 = .ok (.getfield 29, 3) := by decide +kernel
theorem dX8_tick_199 : decode cX8_tick 199 = .ok (.iconst 0, 1) := by decide +kernel
theorem dX8_tick_200 : decode cX8_tick 200 = .ok (.dup2, 1) := by decide +kernel
theorem dX8_tick_201 : decode cX8_tick 201 = .ok (.iaload, 1) := by decide +kernel
theorem dX8_tick_202 : decode cX8_tick 202 = .ok (.iconst 1, 1) := by decide +kernel
theorem dX8_tick_203 : decode cX8_tick 203 = .ok (.iadd, 1) := by decide +kernel
theorem dX8_tick_204 : decode cX8_tick 204 = .ok (.iastore, 1) := by decide +kernel
theorem dX8_tick_205 : decode cX8_tick 205 = .ok (.iconst 0, 1) := by decide +kernel
theorem dX8_tick_206 : decode cX8_tick 206 = .ok (.istore_n 2, 1) := by decide +kernel
theorem dX8_tick_207 : decode cX8_tick 207 = .ok (.iload_n 2, 1) := by decide +kernel
theorem dX8_tick_208 : decode cX8_tick 208 = .ok (.aload_n 0, 1) := by decide +kernel
theorem dX8_tick_209 : decode cX8_tick 209 = .ok (.getfield 29, 3) := by decide +kernel
theorem dX8_tick_212 : decode cX8_tick 212 = .ok (.bipush 6, 2) := by decide +kernel
theorem dX8_tick_214 : decode cX8_tick 214 = .ok (.iaload, 1) := by decide +kernel
theorem dX8_tick_215 : decode cX8_tick 215 = .ok (.if_icmp .ge 35, 3) := by decide +kernel
theorem dX8_tick_218 : decode cX8_tick 218 = .ok (.aload_n 0, 1) := by decide +kernel
theorem dX8_tick_219 : decode cX8_tick 219 = .ok (.iload_n 2, 1) := by decide +kernel
theorem dX8_tick_220 : decode cX8_tick 220 = .ok (.iconst 4, 1) := by decide +kernel
theorem dX8_tick_221 : decode cX8_tick 221 = .ok (.invokevirtual 228, 3) := by decide +kernel
theorem dX8_tick_224 : decode cX8_tick 224 = .ok (.iconst 1, 1) := by decide +kernel
theorem dX8_tick_225 : decode cX8_tick 225 = .ok (.if_icmp .ne 19, 3) := by decide +kernel
theorem dX8_tick_228 : decode cX8_tick 228 = .ok (.aload_n 0, 1) := by decide +kernel
theorem dX8_tick_229 : decode cX8_tick 229 = .ok (.iload_n 2, 1) := by decide +kernel
theorem dX8_tick_230 : decode cX8_tick 230 = .ok (.bipush 6, 2) := by decide +kernel
theorem dX8_tick_232 : decode cX8_tick 232 = .ok (.aload_n 0, 1) := by decide +kernel
theorem dX8_tick_233 : decode cX8_tick 233 = .ok (.iload_n 2, 1) := by decide +kernel
theorem dX8_tick_234 : decode cX8_tick 234 = .ok (.bipush 6, 2) := by decide +kernel
theorem dX8_tick_236 : decode cX8_tick 236 = .ok (.invokevirtual 228, 3) := by decide +kernel
theorem dX8_tick_239 : decode cX8_tick 239 = .ok (.iconst 1, 1) := by decide +kernel
theorem dX8_tick_240 : decode cX8_tick 240 = .ok (.iadd, 1) := by decide +kernel
theorem dX8_tick_241 : decode cX8_tick 241 = .ok (.invokevirtual 225, 3) := by decide +kernel
theorem dX8_tick_244 : decode cX8_tick 244 = .ok (.iinc 2 1, 3) := by decide +kernel
theorem dX8_tick_247 : decode cX8_tick 247 = .ok (.goto (-40), 3) := by decide +kernel
theorem dX8_tick_250 : decode cX8_tick 250 = .ok (.return_, 1) := by decide +kernel
set_option maxRecDepth 20000 in
set_option maxHeartbeats 4000000 in
theorem vX8_tick_0 {l : Launch} {x : CX} {a0 : Nat} {h : PH} {rc rs n0 : Nat} {Q : Option Value → PH → Prop} {X : String → PH → Prop}
    (K : Gm l x mX8_tick 10 2 [(0, .ref a0), (1, .int 0)] [] h rc rs n0 Q X) :
    Gm l x mX8_tick 10 0 [(0, .ref a0)] [] h rc rs n0 Q X := by
  refine g_iconst (v := 0) dX8_tick_0 (by decide) ?_
  refine g_istore_n (lv' := [(0, .ref a0), (1, .int 0)]) dX8_tick_1 rfl (by decide) rfl ?_
  exact K
set_option maxRecDepth 20000 in
set_option maxHeartbeats 4000000 in
theorem vX8_tick_2 {l : Launch} {x : CX} {a0 : Nat} {x1 : Int32} {h : PH} {rc rs n0 : Nat} {Q : Option Value → PH → Prop} {X : String → PH → Prop}
    (K : ((hK h a0).1 = 8) ∧ ∃ b2, (hR h a0 2 = some b2) ∧ ((hK h b2).1 = 100) ∧ (vp_in 6 (hK h b2).2) ∧ (((hI h b2 (Int32.toNatClampNeg 6)) ≤ x1 → (vp_in 1 (hK h b2).2) ∧ ∀ (y9 : Int32), y9 = (if (hI h b2 (Int32.toNatClampNeg 1)) = 1 then 1 else 0 : Int32) → Gm l x mX8_tick 10 68 [(0, .ref a0), (1, .int y9), (2, .int 264)] [] h rc rs n0 Q X) ∧ (¬ (hI h b2 (Int32.toNatClampNeg 6)) ≤ x1 → ∃ (q11 : Int32 → PH → Prop), CI l x mX8_of 0 0 0 [.ref a0, .int x1, .int 4] h q11 ∧ ∀ (r14 : Int32) (h13 : PH), q11 r14 h13 → ((¬ r14 = 0 → Gm l x mX8_tick 10 2 [(0, .ref a0), (1, .int (x1 + 1))] [] h13 rc rs n0 Q X) ∧ (r14 = 0 → ((hK h13 a0).1 = 8) ∧ ∃ (q16 : Int32 → PH → Prop), CI l x mX8_of 0 0 0 [.ref a0, .int x1, .int 1] h13 q16 ∧ ∀ (r20 : Int32) (h19 : PH), q16 r20 h19 → ((hK h19 a0).1 = 8) ∧ ∃ b22, (hR h19 a0 2 = some b22) ∧ ((hK h19 b22).1 = 100) ∧ (vp_in 0 (hK h19 b22).2) ∧ ((¬ r20 = (hI h19 b22 (Int32.toNatClampNeg 0)) → Gm l x mX8_tick 10 2 [(0, .ref a0), (1, .int (x1 + 1))] [] h19 rc rs n0 Q X) ∧ (r20 = (hI h19 b22 (Int32.toNatClampNeg 0)) → ∃ (q27 : PH → Prop), CV l x mX8_comes 1 0 0 [.ref a0, .int x1] h19 q27 ∧ ∀ (h29 : PH), q27 h29 → Gm l x mX8_tick 10 2 [(0, .ref a0), (1, .int (x1 + 1))] [] h29 rc rs n0 Q X))))))) :
    Gm l x mX8_tick 10 2 [(0, .ref a0), (1, .int x1)] [] h rc rs n0 Q X := by
  refine g_iload_n dX8_tick_2 rfl 1 rfl ?_
  refine g_aload_n dX8_tick_3 rfl 0 rfl ?_
  obtain ⟨e1, b2, e3, K⟩ := K
  refine g_get (c := 8) (k := 2) (v := .ref b2) dX8_tick_4 fc_8 (by decide) (by decide) bw_1200 (congrArg pr e3) e1 ?_
  refine g_bipush (v := 6) dX8_tick_7 (by decide) ?_
  obtain ⟨e4, e5, K⟩ := K
  refine g_iald dX8_tick_9 e4 e5 ?_
  refine g_icmp_ge (tgt := 48) dX8_tick_10 (by decide) (fun c6 => ?_) (fun c6 => ?_)
  · replace K := K.1 c6
    refine g_aload_n dX8_tick_48 rfl 0 rfl ?_
    refine g_get (c := 8) (k := 2) (v := .ref b2) dX8_tick_49 fc_8 (by decide) (by decide) bw_1200 (congrArg pr e3) e1 ?_
    refine g_iconst (v := 1) dX8_tick_52 (by decide) ?_
    obtain ⟨e7, K⟩ := K
    refine g_iald dX8_tick_53 e4 e7 ?_
    refine g_iconst (v := 1) dX8_tick_54 (by decide) ?_
    have KJ : Gm l x mX8_tick 10 63 [(0, .ref a0), (1, .int x1)] [.int (if (hI h b2 (Int32.toNatClampNeg 1)) = 1 then 1 else 0 : Int32)] h rc rs n0 Q X := by
      refine g_nmI (fun y9 e10 => ?_)
      replace K := K y9 e10
      refine g_istore_n (lv' := [(0, .ref a0), (1, .int y9)]) dX8_tick_63 rfl (by decide) rfl ?_
      refine g_sipush (v := 264) dX8_tick_64 (by decide) ?_
      refine g_istore_n (lv' := [(0, .ref a0), (1, .int y9), (2, .int 264)]) dX8_tick_67 rfl (by decide) rfl ?_
      exact K
    refine g_icmp_ne (tgt := 62) dX8_tick_55 (by decide) (fun c8 => ?_) (fun c8 => ?_)
    · refine g_iconst (v := 0) dX8_tick_62 (by decide) ?_
      first | (simp only [if_neg c8] at KJ; exact KJ) | (simp only [if_neg c8, ite_true, ite_false, eq_self] at KJ; exact KJ) | (simp only [if_neg c8] at KJ ⊢; exact KJ) | exact KJ
    · refine g_iconst (v := 1) dX8_tick_58 (by decide) ?_
      refine g_goto (tgt := 63) dX8_tick_59 (by decide) ?_
      first | (simp only [if_pos c8] at KJ; exact KJ) | (simp only [if_pos c8, ite_true, ite_false, eq_self] at KJ; exact KJ) | (simp only [if_pos c8] at KJ ⊢; exact KJ) | exact KJ
  · replace K := K.2 c6
    refine g_aload_n dX8_tick_13 rfl 0 rfl ?_
    refine g_iload_n dX8_tick_14 rfl 1 rfl ?_
    refine g_iconst (v := 4) dX8_tick_15 (by decide) ?_
    obtain ⟨q11, C12, K⟩ := K
    refine g_callV (M' := mX8_of) (b := a0) (As := [.int x1, .int 4]) (rest := []) (rc' := rc) (rs' := rs) dX8_tick_16 bw_1413 bw_1415 bs_52 bw_9 bw_1416 ⟨by decide +kernel, by decide +kernel, show (parseMethodDescriptor mX8_of.1.desc).map (fun d => d.parameters.length) = some 2 by decide +kernel⟩ (by decide) (by decide) (Nat.le_of_ble_eq_true rfl) fc_8 (by decide) rfl e1 C12 (Nat.le_of_eq (Nat.add_zero _)) (Nat.le_of_eq (Nat.add_zero _)) (fun _ _ h => h) ?_
    rintro _ h13 ⟨r14, rfl, K1⟩ -
    replace K := K r14 h13 K1
    show Gm l x mX8_tick 10 19 [(0, .ref a0), (1, .int x1)] [.int r14] h13 rc rs n0 Q X
    refine g_if_ne (tgt := 42) dX8_tick_19 (by decide) (fun c15 => ?_) (fun c15 => ?_)
    · replace K := K.1 c15
      refine g_iinc (v := (x1 + 1)) (lv' := [(0, .ref a0), (1, .int (x1 + 1))]) dX8_tick_42 1 rfl (by rfl) (by decide) rfl ?_
      refine g_goto (tgt := 2) dX8_tick_45 (by decide) ?_
      exact K
    · replace K := K.2 c15
      refine g_aload_n dX8_tick_22 rfl 0 rfl ?_
      refine g_iload_n dX8_tick_23 rfl 1 rfl ?_
      refine g_iconst (v := 1) dX8_tick_24 (by decide) ?_
      obtain ⟨e18, K⟩ := K
      obtain ⟨q16, C17, K⟩ := K
      refine g_callV (M' := mX8_of) (b := a0) (As := [.int x1, .int 1]) (rest := []) (rc' := rc) (rs' := rs) dX8_tick_25 bw_1413 bw_1415 bs_52 bw_9 bw_1416 ⟨by decide +kernel, by decide +kernel, show (parseMethodDescriptor mX8_of.1.desc).map (fun d => d.parameters.length) = some 2 by decide +kernel⟩ (by decide) (by decide) (Nat.le_of_ble_eq_true rfl) fc_8 (by decide) rfl e18 C17 (Nat.le_of_eq (Nat.add_zero _)) (Nat.le_of_eq (Nat.add_zero _)) (fun _ _ h => h) ?_
      rintro _ h19 ⟨r20, rfl, K1⟩ -
      replace K := K r20 h19 K1
      show Gm l x mX8_tick 10 28 [(0, .ref a0), (1, .int x1)] [.int r20] h19 rc rs n0 Q X
      refine g_aload_n dX8_tick_28 rfl 0 rfl ?_
      obtain ⟨e21, b22, e23, K⟩ := K
      refine g_get (c := 8) (k := 2) (v := .ref b22) dX8_tick_29 fc_8 (by decide) (by decide) bw_1200 (congrArg pr e23) e21 ?_
      refine g_iconst (v := 0) dX8_tick_32 (by decide) ?_
      obtain ⟨e24, e25, K⟩ := K
      refine g_iald dX8_tick_33 e24 e25 ?_
      refine g_icmp_ne (tgt := 42) dX8_tick_34 (by decide) (fun c26 => ?_) (fun c26 => ?_)
      · replace K := K.1 c26
        refine g_iinc (v := (x1 + 1)) (lv' := [(0, .ref a0), (1, .int (x1 + 1))]) dX8_tick_42 1 rfl (by rfl) (by decide) rfl ?_
        refine g_goto (tgt := 2) dX8_tick_45 (by decide) ?_
        exact K
      · replace K := K.2 c26
        refine g_aload_n dX8_tick_37 rfl 0 rfl ?_
        refine g_iload_n dX8_tick_38 rfl 1 rfl ?_
        obtain ⟨q27, C28, K⟩ := K
        refine g_callV (M' := mX8_comes) (b := a0) (As := [.int x1]) (rest := []) (rc' := rc) (rs' := rs) dX8_tick_39 bw_1461 bw_1463 bs_64 bw_9 bw_1464 ⟨by decide +kernel, by decide +kernel, show (parseMethodDescriptor mX8_comes.1.desc).map (fun d => d.parameters.length) = some 1 by decide +kernel⟩ (by decide) (by decide) (Nat.le_of_ble_eq_true rfl) fc_8 (by decide) rfl e21 C28 (Nat.le_of_eq (Nat.add_zero _)) (Nat.le_of_eq (Nat.add_zero _)) (fun _ _ h => h) ?_
        rintro _ h29 ⟨rfl, K1⟩ -
        replace K := K h29 K1
        show Gm l x mX8_tick 10 42 [(0, .ref a0), (1, .int x1)] [] h29 rc rs n0 Q X
        refine g_iinc (v := (x1 + 1)) (lv' := [(0, .ref a0), (1, .int (x1 + 1))]) dX8_tick_42 1 rfl (by rfl) (by decide) rfl ?_
        refine g_goto (tgt := 2) dX8_tick_45 (by decide) ?_
        exact K
set_option maxRecDepth 20000 in
set_option maxHeartbeats 4000000 in
theorem vX8_tick_68 {l : Launch} {x : CX} {a0 : Nat} {x1 : Int32} {x2 : Int32} {h : PH} {rc rs n0 : Nat} {Q : Option Value → PH → Prop} {X : String → PH → Prop}
    (K : ((312 ≤ x2 → Gm l x mX8_tick 10 94 [(0, .ref a0), (1, .int x1), (2, .int 0)] [] h rc rs n0 Q X) ∧ (¬ 312 ≤ x2 → ((x1 = 0 → Gm l x mX8_tick 10 94 [(0, .ref a0), (1, .int x1), (2, .int 0)] [] h rc rs n0 Q X) ∧ (¬ x1 = 0 → ((hK h a0).1 = 8) ∧ ∃ b4, (hR h a0 2 = some b4) ∧ ((hK h b4).1 = 100) ∧ (vp_in x2 (hK h b4).2) ∧ Gm l x mX8_tick 10 68 [(0, .ref a0), (1, .int x1), (2, .int (x2 + 1))] [] (sI h b4 x2.toNatClampNeg 0) rc rs n0 Q X))))) :
    Gm l x mX8_tick 10 68 [(0, .ref a0), (1, .int x1), (2, .int x2)] [] h rc rs n0 Q X := by
  refine g_iload_n dX8_tick_68 rfl 2 rfl ?_
  refine g_sipush (v := 312) dX8_tick_69 (by decide) ?_
  refine g_icmp_ge (tgt := 92) dX8_tick_72 (by decide) (fun c1 => ?_) (fun c1 => ?_)
  · replace K := K.1 c1
    refine g_iconst (v := 0) dX8_tick_92 (by decide) ?_
    refine g_istore_n (lv' := [(0, .ref a0), (1, .int x1), (2, .int 0)]) dX8_tick_93 rfl (by decide) rfl ?_
    exact K
  · replace K := K.2 c1
    refine g_iload_n dX8_tick_75 rfl 1 rfl ?_
    refine g_if_eq (tgt := 92) dX8_tick_76 (by decide) (fun c2 => ?_) (fun c2 => ?_)
    · replace K := K.1 c2
      refine g_iconst (v := 0) dX8_tick_92 (by decide) ?_
      refine g_istore_n (lv' := [(0, .ref a0), (1, .int x1), (2, .int 0)]) dX8_tick_93 rfl (by decide) rfl ?_
      exact K
    · replace K := K.2 c2
      refine g_aload_n dX8_tick_79 rfl 0 rfl ?_
      obtain ⟨e3, b4, e5, K⟩ := K
      refine g_get (c := 8) (k := 2) (v := .ref b4) dX8_tick_80 fc_8 (by decide) (by decide) bw_1200 (congrArg pr e5) e3 ?_
      refine g_iload_n dX8_tick_83 rfl 2 rfl ?_
      refine g_iconst (v := 0) dX8_tick_84 (by decide) ?_
      obtain ⟨e6, e7, K⟩ := K
      refine g_iast dX8_tick_85 e6 e7 ?_
      refine g_iinc (v := (x2 + 1)) (lv' := [(0, .ref a0), (1, .int x1), (2, .int (x2 + 1))]) dX8_tick_86 2 rfl (by rfl) (by decide) rfl ?_
      refine g_goto (tgt := 68) dX8_tick_89 (by decide) ?_
      exact K
set_option maxRecDepth 20000 in
set_option maxHeartbeats 4000000 in
theorem vX8_tick_94 {l : Launch} {x : CX} {a0 : Nat} {x1 : Int32} {x2 : Int32} {h : PH} {rc rs n0 : Nat} {Q : Option Value → PH → Prop} {X : String → PH → Prop}
    (K : ((hK h a0).1 = 8) ∧ ∃ b2, (hR h a0 4 = some b2) ∧ ((hK h b2).1 = 100) ∧ (vp_in 0 (hK h b2).2) ∧ (((hI h b2 (Int32.toNatClampNeg 0)) ≤ x2 → Gm l x mX8_tick 10 149 [(0, .ref a0), (1, .int x1), (2, .int 0)] [] h rc rs n0 Q X) ∧ (¬ (hI h b2 (Int32.toNatClampNeg 0)) ≤ x2 → ((¬ x1 = 0 → Gm l x mX8_tick 10 149 [(0, .ref a0), (1, .int x1), (2, .int 0)] [] h rc rs n0 Q X) ∧ (x1 = 0 → Gm l x mX8_tick 10 110 [(0, .ref a0), (1, .int x1), (2, .int x2), (3, .int 0)] [] h rc rs n0 Q X))))) :
    Gm l x mX8_tick 10 94 [(0, .ref a0), (1, .int x1), (2, .int x2)] [] h rc rs n0 Q X := by
  refine g_iload_n dX8_tick_94 rfl 2 rfl ?_
  refine g_aload_n dX8_tick_95 rfl 0 rfl ?_
  obtain ⟨e1, b2, e3, K⟩ := K
  refine g_get (c := 8) (k := 4) (v := .ref b2) dX8_tick_96 fc_8 (by decide) (by decide) bw_1202 (congrArg pr e3) e1 ?_
  refine g_iconst (v := 0) dX8_tick_99 (by decide) ?_
  obtain ⟨e4, e5, K⟩ := K
  refine g_iald dX8_tick_100 e4 e5 ?_
  refine g_icmp_ge (tgt := 147) dX8_tick_101 (by decide) (fun c6 => ?_) (fun c6 => ?_)
  · replace K := K.1 c6
    refine g_iconst (v := 0) dX8_tick_147 (by decide) ?_
    refine g_istore_n (lv' := [(0, .ref a0), (1, .int x1), (2, .int 0)]) dX8_tick_148 rfl (by decide) rfl ?_
    exact K
  · replace K := K.2 c6
    refine g_iload_n dX8_tick_104 rfl 1 rfl ?_
    refine g_if_ne (tgt := 147) dX8_tick_105 (by decide) (fun c7 => ?_) (fun c7 => ?_)
    · replace K := K.1 c7
      refine g_iconst (v := 0) dX8_tick_147 (by decide) ?_
      refine g_istore_n (lv' := [(0, .ref a0), (1, .int x1), (2, .int 0)]) dX8_tick_148 rfl (by decide) rfl ?_
      exact K
    · replace K := K.2 c7
      refine g_iconst (v := 0) dX8_tick_108 (by decide) ?_
      refine g_istore_n (lv' := [(0, .ref a0), (1, .int x1), (2, .int x2), (3, .int 0)]) dX8_tick_109 rfl (by decide) rfl ?_
      exact K
set_option maxRecDepth 20000 in
set_option maxHeartbeats 4000000 in
theorem vX8_tick_110 {l : Launch} {x : CX} {a0 : Nat} {x1 : Int32} {x2 : Int32} {x3 : Int32} {h : PH} {rc rs n0 : Nat} {Q : Option Value → PH → Prop} {X : String → PH → Prop}
    (K : ((4 ≤ x3 → Gm l x mX8_tick 10 94 [(0, .ref a0), (1, .int x1), (2, .int (x2 + 1))] [] h rc rs n0 Q X) ∧ (¬ 4 ≤ x3 → ((hK h a0).1 = 8) ∧ ∃ (q3 : PH → Prop), CV l x mX8_gives 9 0 0 [.ref a0, .int x2, .int (if 2 ≤ x3 then (-1) else 1 : Int32), .int (1 + (x3 - x3 / 2 * 2))] h q3 ∧ ∀ (h6 : PH), q3 h6 → Gm l x mX8_tick 10 110 [(0, .ref a0), (1, .int x1), (2, .int x2), (3, .int (x3 + 1))] [] h6 rc rs n0 Q X))) :
    Gm l x mX8_tick 10 110 [(0, .ref a0), (1, .int x1), (2, .int x2), (3, .int x3)] [] h rc rs n0 Q X := by
  refine g_iload_n dX8_tick_110 rfl 3 rfl ?_
  refine g_iconst (v := 4) dX8_tick_111 (by decide) ?_
  refine g_icmp_ge (tgt := 141) dX8_tick_112 (by decide) (fun c1 => ?_) (fun c1 => ?_)
  · replace K := K.1 c1
    refine g_iinc (v := (x2 + 1)) (lv' := [(0, .ref a0), (1, .int x1), (2, .int (x2 + 1)), (3, .int x3)]) dX8_tick_141 2 rfl (by rfl) (by decide) rfl ?_
    refine g_goto (tgt := 94) dX8_tick_144 (by decide) ?_
    exact Gm.sub [0, 1, 2] rfl K
  · replace K := K.2 c1
    refine g_aload_n dX8_tick_115 rfl 0 rfl ?_
    refine g_iload_n dX8_tick_116 rfl 2 rfl ?_
    refine g_iload_n dX8_tick_117 rfl 3 rfl ?_
    refine g_iconst (v := 2) dX8_tick_118 (by decide) ?_
    have KJ : Gm l x mX8_tick 10 127 [(0, .ref a0), (1, .int x1), (2, .int x2), (3, .int x3)] [.int (if 2 ≤ x3 then (-1) else 1 : Int32), .int x2, .ref a0] h rc rs n0 Q X := by
      refine g_iconst (v := 1) dX8_tick_127 (by decide) ?_
      refine g_iload_n dX8_tick_128 rfl 3 rfl ?_
      refine g_iconst (v := 2) dX8_tick_129 (by decide) ?_
      refine g_irem dX8_tick_130 (by decide) ?_
      refine g_iadd dX8_tick_131 ?_
      obtain ⟨e5, K⟩ := K
      obtain ⟨q3, C4, K⟩ := K
      refine g_callV (M' := mX8_gives) (b := a0) (As := [.int x2, .int (if 2 ≤ x3 then (-1) else 1 : Int32), .int (1 + (x3 - x3 / 2 * 2))]) (rest := []) (rc' := rc) (rs' := rs) dX8_tick_132 bw_1465 bw_1467 bs_65 bw_9 bw_1468 ⟨by decide +kernel, by decide +kernel, show (parseMethodDescriptor mX8_gives.1.desc).map (fun d => d.parameters.length) = some 3 by decide +kernel⟩ (by decide) (by decide) (Nat.le_of_ble_eq_true rfl) fc_8 (by decide) rfl e5 C4 (Nat.le_of_eq (Nat.add_zero _)) (Nat.le_of_eq (Nat.add_zero _)) (fun _ _ h => h) ?_
      rintro _ h6 ⟨rfl, K1⟩ -
      replace K := K h6 K1
      show Gm l x mX8_tick 10 135 [(0, .ref a0), (1, .int x1), (2, .int x2), (3, .int x3)] [] h6 rc rs n0 Q X
      refine g_iinc (v := (x3 + 1)) (lv' := [(0, .ref a0), (1, .int x1), (2, .int x2), (3, .int (x3 + 1))]) dX8_tick_135 3 rfl (by rfl) (by decide) rfl ?_
      refine g_goto (tgt := 110) dX8_tick_138 (by decide) ?_
      exact K
    refine g_icmp_ge (tgt := 126) dX8_tick_119 (by decide) (fun c2 => ?_) (fun c2 => ?_)
    · refine g_iconst (v := (-1)) dX8_tick_126 (by decide) ?_
      first | (simp only [if_pos c2] at KJ; exact KJ) | (simp only [if_pos c2, ite_true, ite_false, eq_self] at KJ; exact KJ) | (simp only [if_pos c2] at KJ ⊢; exact KJ) | exact KJ
    · refine g_iconst (v := 1) dX8_tick_122 (by decide) ?_
      refine g_goto (tgt := 127) dX8_tick_123 (by decide) ?_
      first | (simp only [if_neg c2] at KJ; exact KJ) | (simp only [if_neg c2, ite_true, ite_false, eq_self] at KJ; exact KJ) | (simp only [if_neg c2] at KJ ⊢; exact KJ) | exact KJ
set_option maxRecDepth 20000 in
set_option maxHeartbeats 4000000 in
theorem vX8_tick_149 {l : Launch} {x : CX} {a0 : Nat} {x1 : Int32} {x2 : Int32} {h : PH} {rc rs n0 : Nat} {Q : Option Value → PH → Prop} {X : String → PH → Prop}
    (K : ((hK h a0).1 = 8) ∧ ∃ b2, (hR h a0 4 = some b2) ∧ ((hK h b2).1 = 100) ∧ (vp_in 1 (hK h b2).2) ∧ (((hI h b2 (Int32.toNatClampNeg 1)) ≤ x2 → ∃ b7, (hR h a0 2 = some b7) ∧ ((hK h b7).1 = 100) ∧ (vp_in 0 (hK h b7).2) ∧ (vp_in 0 (hK h b7).2) ∧ Gm l x mX8_tick 10 207 [(0, .ref a0), (1, .int x1), (2, .int 0)] [] (sI h b7 (Int32.toNatClampNeg 0) ((hI h b7 (Int32.toNatClampNeg 0)) + 1)) rc rs n0 Q X) ∧ (¬ (hI h b2 (Int32.toNatClampNeg 1)) ≤ x2 → ∃ (q12 : Int32 → PH → Prop), CI l x mX8_carOf 0 0 0 [.ref a0, .int x2, .int 4] h q12 ∧ ∀ (r15 : Int32) (h14 : PH), q12 r15 h14 → ((¬ r15 = 0 → ((x1 = 0 → ((hK h14 a0).1 = 8) ∧ ∃ (q18 : Int32 → PH → Prop), CI l x mX8_steps 6 0 0 [.ref a0, .int x2] h14 q18 ∧ ∀ (r22 : Int32) (h21 : PH), q18 r22 h21 → Gm l x mX8_tick 10 149 [(0, .ref a0), (1, .int x1), (2, .int (x2 + 1))] [] h21 rc rs n0 Q X) ∧ (¬ x1 = 0 → ((hK h14 a0).1 = 8) ∧ ∃ (q23 : PH → Prop), CV l x mX8_burns 4 0 0 [.ref a0, .int x2] h14 q23 ∧ ∀ (h26 : PH), q23 h26 → Gm l x mX8_tick 10 149 [(0, .ref a0), (1, .int x1), (2, .int (x2 + 1))] [] h26 rc rs n0 Q X))) ∧ (r15 = 0 → Gm l x mX8_tick 10 149 [(0, .ref a0), (1, .int x1), (2, .int (x2 + 1))] [] h14 rc rs n0 Q X))))) :
    Gm l x mX8_tick 10 149 [(0, .ref a0), (1, .int x1), (2, .int x2)] [] h rc rs n0 Q X := by
  refine g_iload_n dX8_tick_149 rfl 2 rfl ?_
  refine g_aload_n dX8_tick_150 rfl 0 rfl ?_
  obtain ⟨e1, b2, e3, K⟩ := K
  refine g_get (c := 8) (k := 4) (v := .ref b2) dX8_tick_151 fc_8 (by decide) (by decide) bw_1202 (congrArg pr e3) e1 ?_
  refine g_iconst (v := 1) dX8_tick_154 (by decide) ?_
  obtain ⟨e4, e5, K⟩ := K
  refine g_iald dX8_tick_155 e4 e5 ?_
  refine g_icmp_ge (tgt := 195) dX8_tick_156 (by decide) (fun c6 => ?_) (fun c6 => ?_)
  · replace K := K.1 c6
    refine g_aload_n dX8_tick_195 rfl 0 rfl ?_
    obtain ⟨b7, e8, K⟩ := K
    refine g_get (c := 8) (k := 2) (v := .ref b7) dX8_tick_196 fc_8 (by decide) (by decide) bw_1200 (congrArg pr e8) e1 ?_
    refine g_iconst (v := 0) dX8_tick_199 (by decide) ?_
    refine g_dup2 dX8_tick_200 rfl rfl ?_
    obtain ⟨e9, e10, K⟩ := K
    refine g_iald dX8_tick_201 e9 e10 ?_
    refine g_iconst (v := 1) dX8_tick_202 (by decide) ?_
    refine g_iadd dX8_tick_203 ?_
    obtain ⟨e11, K⟩ := K
    refine g_iast dX8_tick_204 e9 e11 ?_
    refine g_iconst (v := 0) dX8_tick_205 (by decide) ?_
    refine g_istore_n (lv' := [(0, .ref a0), (1, .int x1), (2, .int 0)]) dX8_tick_206 rfl (by decide) rfl ?_
    exact K
  · replace K := K.2 c6
    refine g_aload_n dX8_tick_159 rfl 0 rfl ?_
    refine g_iload_n dX8_tick_160 rfl 2 rfl ?_
    refine g_iconst (v := 4) dX8_tick_161 (by decide) ?_
    obtain ⟨q12, C13, K⟩ := K
    refine g_callV (M' := mX8_carOf) (b := a0) (As := [.int x2, .int 4]) (rest := []) (rc' := rc) (rs' := rs) dX8_tick_162 bw_1476 bw_1478 bs_67 bw_9 bw_1479 ⟨by decide +kernel, by decide +kernel, show (parseMethodDescriptor mX8_carOf.1.desc).map (fun d => d.parameters.length) = some 2 by decide +kernel⟩ (by decide) (by decide) (Nat.le_of_ble_eq_true rfl) fc_8 (by decide) rfl e1 C13 (Nat.le_of_eq (Nat.add_zero _)) (Nat.le_of_eq (Nat.add_zero _)) (fun _ _ h => h) ?_
    rintro _ h14 ⟨r15, rfl, K1⟩ -
    replace K := K r15 h14 K1
    show Gm l x mX8_tick 10 165 [(0, .ref a0), (1, .int x1), (2, .int x2)] [.int r15] h14 rc rs n0 Q X
    refine g_if_ne (tgt := 171) dX8_tick_165 (by decide) (fun c16 => ?_) (fun c16 => ?_)
    · replace K := K.1 c16
      refine g_iload_n dX8_tick_171 rfl 1 rfl ?_
      refine g_if_eq (tgt := 183) dX8_tick_172 (by decide) (fun c17 => ?_) (fun c17 => ?_)
      · replace K := K.1 c17
        refine g_aload_n dX8_tick_183 rfl 0 rfl ?_
        refine g_iload_n dX8_tick_184 rfl 2 rfl ?_
        obtain ⟨e20, K⟩ := K
        obtain ⟨q18, C19, K⟩ := K
        refine g_callV (M' := mX8_steps) (b := a0) (As := [.int x2]) (rest := []) (rc' := rc) (rs' := rs) dX8_tick_185 bw_1493 bw_1495 bs_71 bw_9 bw_1496 ⟨by decide +kernel, by decide +kernel, show (parseMethodDescriptor mX8_steps.1.desc).map (fun d => d.parameters.length) = some 1 by decide +kernel⟩ (by decide) (by decide) (Nat.le_of_ble_eq_true rfl) fc_8 (by decide) rfl e20 C19 (Nat.le_of_eq (Nat.add_zero _)) (Nat.le_of_eq (Nat.add_zero _)) (fun _ _ h => h) ?_
        rintro _ h21 ⟨r22, rfl, K1⟩ -
        replace K := K r22 h21 K1
        show Gm l x mX8_tick 10 188 [(0, .ref a0), (1, .int x1), (2, .int x2)] [.int r22] h21 rc rs n0 Q X
        refine g_istore_n (lv' := [(0, .ref a0), (1, .int x1), (2, .int x2), (3, .int r22)]) dX8_tick_188 rfl (by decide) rfl ?_
        refine g_iinc (v := (x2 + 1)) (lv' := [(0, .ref a0), (1, .int x1), (2, .int (x2 + 1)), (3, .int r22)]) dX8_tick_189 2 rfl (by rfl) (by decide) rfl ?_
        refine g_goto (tgt := 149) dX8_tick_192 (by decide) ?_
        exact Gm.sub [0, 1, 2] rfl K
      · replace K := K.2 c17
        refine g_aload_n dX8_tick_175 rfl 0 rfl ?_
        refine g_iload_n dX8_tick_176 rfl 2 rfl ?_
        obtain ⟨e25, K⟩ := K
        obtain ⟨q23, C24, K⟩ := K
        refine g_callV (M' := mX8_burns) (b := a0) (As := [.int x2]) (rest := []) (rc' := rc) (rs' := rs) dX8_tick_177 bw_1564 bw_1566 bs_84 bw_9 bw_1567 ⟨by decide +kernel, by decide +kernel, show (parseMethodDescriptor mX8_burns.1.desc).map (fun d => d.parameters.length) = some 1 by decide +kernel⟩ (by decide) (by decide) (Nat.le_of_ble_eq_true rfl) fc_8 (by decide) rfl e25 C24 (Nat.le_of_eq (Nat.add_zero _)) (Nat.le_of_eq (Nat.add_zero _)) (fun _ _ h => h) ?_
        rintro _ h26 ⟨rfl, K1⟩ -
        replace K := K h26 K1
        show Gm l x mX8_tick 10 180 [(0, .ref a0), (1, .int x1), (2, .int x2)] [] h26 rc rs n0 Q X
        refine g_goto (tgt := 189) dX8_tick_180 (by decide) ?_
        refine g_iinc (v := (x2 + 1)) (lv' := [(0, .ref a0), (1, .int x1), (2, .int (x2 + 1))]) dX8_tick_189 2 rfl (by rfl) (by decide) rfl ?_
        refine g_goto (tgt := 149) dX8_tick_192 (by decide) ?_
        exact K
    · replace K := K.2 c16
      refine g_goto (tgt := 189) dX8_tick_168 (by decide) ?_
      refine g_iinc (v := (x2 + 1)) (lv' := [(0, .ref a0), (1, .int x1), (2, .int (x2 + 1))]) dX8_tick_189 2 rfl (by rfl) (by decide) rfl ?_
      refine g_goto (tgt := 149) dX8_tick_192 (by decide) ?_
      exact K
set_option maxRecDepth 20000 in
set_option maxHeartbeats 4000000 in
theorem vX8_tick_207 {l : Launch} {x : CX} {a0 : Nat} {x1 : Int32} {x2 : Int32} {h : PH} {rc rs n0 : Nat} {Q : Option Value → PH → Prop} {X : String → PH → Prop}
    (K : ((hK h a0).1 = 8) ∧ ∃ b2, (hR h a0 2 = some b2) ∧ ((hK h b2).1 = 100) ∧ (vp_in 6 (hK h b2).2) ∧ (((hI h b2 (Int32.toNatClampNeg 6)) ≤ x2 → Q none h) ∧ (¬ (hI h b2 (Int32.toNatClampNeg 6)) ≤ x2 → ∃ (q7 : Int32 → PH → Prop), CI l x mX8_of 0 0 0 [.ref a0, .int x2, .int 4] h q7 ∧ ∀ (r10 : Int32) (h9 : PH), q7 r10 h9 → ((¬ r10 = 1 → Gm l x mX8_tick 10 207 [(0, .ref a0), (1, .int x1), (2, .int (x2 + 1))] [] h9 rc rs n0 Q X) ∧ (r10 = 1 → ((hK h9 a0).1 = 8) ∧ ∃ (q12 : Int32 → PH → Prop), CI l x mX8_of 0 0 0 [.ref a0, .int x2, .int 6] h9 q12 ∧ ∀ (r16 : Int32) (h15 : PH), q12 r16 h15 → ((hK h15 a0).1 = 8) ∧ ∃ (q17 : PH → Prop), CV l x mX8_put 0 0 0 [.ref a0, .int x2, .int 6, .int (r16 + 1)] h15 q17 ∧ ∀ (h20 : PH), q17 h20 → Gm l x mX8_tick 10 207 [(0, .ref a0), (1, .int x1), (2, .int (x2 + 1))] [] h20 rc rs n0 Q X))))) :
    Gm l x mX8_tick 10 207 [(0, .ref a0), (1, .int x1), (2, .int x2)] [] h rc rs n0 Q X := by
  refine g_iload_n dX8_tick_207 rfl 2 rfl ?_
  refine g_aload_n dX8_tick_208 rfl 0 rfl ?_
  obtain ⟨e1, b2, e3, K⟩ := K
  refine g_get (c := 8) (k := 2) (v := .ref b2) dX8_tick_209 fc_8 (by decide) (by decide) bw_1200 (congrArg pr e3) e1 ?_
  refine g_bipush (v := 6) dX8_tick_212 (by decide) ?_
  obtain ⟨e4, e5, K⟩ := K
  refine g_iald dX8_tick_214 e4 e5 ?_
  refine g_icmp_ge (tgt := 250) dX8_tick_215 (by decide) (fun c6 => ?_) (fun c6 => ?_)
  · replace K := K.1 c6
    exact g_vret dX8_tick_250 rfl K
  · replace K := K.2 c6
    refine g_aload_n dX8_tick_218 rfl 0 rfl ?_
    refine g_iload_n dX8_tick_219 rfl 2 rfl ?_
    refine g_iconst (v := 4) dX8_tick_220 (by decide) ?_
    obtain ⟨q7, C8, K⟩ := K
    refine g_callV (M' := mX8_of) (b := a0) (As := [.int x2, .int 4]) (rest := []) (rc' := rc) (rs' := rs) dX8_tick_221 bw_1413 bw_1415 bs_52 bw_9 bw_1416 ⟨by decide +kernel, by decide +kernel, show (parseMethodDescriptor mX8_of.1.desc).map (fun d => d.parameters.length) = some 2 by decide +kernel⟩ (by decide) (by decide) (Nat.le_of_ble_eq_true rfl) fc_8 (by decide) rfl e1 C8 (Nat.le_of_eq (Nat.add_zero _)) (Nat.le_of_eq (Nat.add_zero _)) (fun _ _ h => h) ?_
    rintro _ h9 ⟨r10, rfl, K1⟩ -
    replace K := K r10 h9 K1
    show Gm l x mX8_tick 10 224 [(0, .ref a0), (1, .int x1), (2, .int x2)] [.int r10] h9 rc rs n0 Q X
    refine g_iconst (v := 1) dX8_tick_224 (by decide) ?_
    refine g_icmp_ne (tgt := 244) dX8_tick_225 (by decide) (fun c11 => ?_) (fun c11 => ?_)
    · replace K := K.1 c11
      refine g_iinc (v := (x2 + 1)) (lv' := [(0, .ref a0), (1, .int x1), (2, .int (x2 + 1))]) dX8_tick_244 2 rfl (by rfl) (by decide) rfl ?_
      refine g_goto (tgt := 207) dX8_tick_247 (by decide) ?_
      exact K
    · replace K := K.2 c11
      refine g_aload_n dX8_tick_228 rfl 0 rfl ?_
      refine g_iload_n dX8_tick_229 rfl 2 rfl ?_
      refine g_bipush (v := 6) dX8_tick_230 (by decide) ?_
      refine g_aload_n dX8_tick_232 rfl 0 rfl ?_
      refine g_iload_n dX8_tick_233 rfl 2 rfl ?_
      refine g_bipush (v := 6) dX8_tick_234 (by decide) ?_
      obtain ⟨e14, K⟩ := K
      obtain ⟨q12, C13, K⟩ := K
      refine g_callV (M' := mX8_of) (b := a0) (As := [.int x2, .int 6]) (rest := [.int 6, .int x2, .ref a0]) (rc' := rc) (rs' := rs) dX8_tick_236 bw_1413 bw_1415 bs_52 bw_9 bw_1416 ⟨by decide +kernel, by decide +kernel, show (parseMethodDescriptor mX8_of.1.desc).map (fun d => d.parameters.length) = some 2 by decide +kernel⟩ (by decide) (by decide) (Nat.le_of_ble_eq_true rfl) fc_8 (by decide) rfl e14 C13 (Nat.le_of_eq (Nat.add_zero _)) (Nat.le_of_eq (Nat.add_zero _)) (fun _ _ h => h) ?_
      rintro _ h15 ⟨r16, rfl, K1⟩ -
      replace K := K r16 h15 K1
      show Gm l x mX8_tick 10 239 [(0, .ref a0), (1, .int x1), (2, .int x2)] [.int r16, .int 6, .int x2, .ref a0] h15 rc rs n0 Q X
      refine g_iconst (v := 1) dX8_tick_239 (by decide) ?_
      refine g_iadd dX8_tick_240 ?_
      obtain ⟨e19, K⟩ := K
      obtain ⟨q17, C18, K⟩ := K
      refine g_callV (M' := mX8_put) (b := a0) (As := [.int x2, .int 6, .int (r16 + 1)]) (rest := []) (rc' := rc) (rs' := rs) dX8_tick_241 bw_1194 bw_1196 bs_38 bw_9 bw_1197 ⟨by decide +kernel, by decide +kernel, show (parseMethodDescriptor mX8_put.1.desc).map (fun d => d.parameters.length) = some 3 by decide +kernel⟩ (by decide) (by decide) (Nat.le_of_ble_eq_true rfl) fc_8 (by decide) rfl e19 C18 (Nat.le_of_eq (Nat.add_zero _)) (Nat.le_of_eq (Nat.add_zero _)) (fun _ _ h => h) ?_
      rintro _ h20 ⟨rfl, K1⟩ -
      replace K := K h20 K1
      show Gm l x mX8_tick 10 244 [(0, .ref a0), (1, .int x1), (2, .int x2)] [] h20 rc rs n0 Q X
      refine g_iinc (v := (x2 + 1)) (lv' := [(0, .ref a0), (1, .int x1), (2, .int (x2 + 1))]) dX8_tick_244 2 rfl (by rfl) (by decide) rfl ?_
      refine g_goto (tgt := 207) dX8_tick_247 (by decide) ?_
      exact K
theorem dX8_ticksNow_0 : decode cX8_ticksNow 0 = .ok (.iconst 0, 1) := by decide +kernel
theorem dX8_ticksNow_1 : decode cX8_ticksNow 1 = .ok (.istore_n 2, 1) := by decide +kernel
theorem dX8_ticksNow_2 : decode cX8_ticksNow 2 = .ok (.iload_n 2, 1) := by decide +kernel
theorem dX8_ticksNow_3 : decode cX8_ticksNow 3 = .ok (.iload_n 1, 1) := by decide +kernel
theorem dX8_ticksNow_4 : decode cX8_ticksNow 4 = .ok (.if_icmp .ge 13, 3) := by decide +kernel
theorem dX8_ticksNow_7 : decode cX8_ticksNow 7 = .ok (.aload_n 0, 1) := by decide +kernel
theorem dX8_ticksNow_8 : decode cX8_ticksNow 8 = .ok (.invokevirtual 338, 3) := by decide +kernel
theorem dX8_ticksNow_11 : decode cX8_ticksNow 11 = .ok (.iinc 2 1, 3) := by decide +kernel
theorem dX8_ticksNow_14 : decode cX8_ticksNow 14 = .ok (.goto (-12), 3) := by decide +kernel
theorem dX8_ticksNow_17 : decode cX8_ticksNow 17 = .ok (.return_, 1) := by decide +kernel
set_option maxRecDepth 20000 in
set_option maxHeartbeats 4000000 in
theorem vX8_ticksNow_0 {l : Launch} {x : CX} {a0 : Nat} {x1 : Int32} {h : PH} {rc rs n0 : Nat} {Q : Option Value → PH → Prop} {X : String → PH → Prop}
    (K : Gm l x mX8_ticksNow 11 2 [(0, .ref a0), (1, .int x1), (2, .int 0)] [] h rc rs n0 Q X) :
    Gm l x mX8_ticksNow 11 0 [(0, .ref a0), (1, .int x1)] [] h rc rs n0 Q X := by
  refine g_iconst (v := 0) dX8_ticksNow_0 (by decide) ?_
  refine g_istore_n (lv' := [(0, .ref a0), (1, .int x1), (2, .int 0)]) dX8_ticksNow_1 rfl (by decide) rfl ?_
  exact K
set_option maxRecDepth 20000 in
set_option maxHeartbeats 4000000 in
theorem vX8_ticksNow_2 {l : Launch} {x : CX} {a0 : Nat} {x1 : Int32} {x2 : Int32} {h : PH} {rc rs n0 : Nat} {Q : Option Value → PH → Prop} {X : String → PH → Prop}
    (K : ((x1 ≤ x2 → Q none h) ∧ (¬ x1 ≤ x2 → ((hK h a0).1 = 8) ∧ ∃ (q2 : PH → Prop), CV l x mX8_tick 10 0 0 [.ref a0] h q2 ∧ ∀ (h5 : PH), q2 h5 → Gm l x mX8_ticksNow 11 2 [(0, .ref a0), (1, .int x1), (2, .int (x2 + 1))] [] h5 rc rs n0 Q X))) :
    Gm l x mX8_ticksNow 11 2 [(0, .ref a0), (1, .int x1), (2, .int x2)] [] h rc rs n0 Q X := by
  refine g_iload_n dX8_ticksNow_2 rfl 2 rfl ?_
  refine g_iload_n dX8_ticksNow_3 rfl 1 rfl ?_
  refine g_icmp_ge (tgt := 17) dX8_ticksNow_4 (by decide) (fun c1 => ?_) (fun c1 => ?_)
  · replace K := K.1 c1
    exact g_vret dX8_ticksNow_17 rfl K
  · replace K := K.2 c1
    refine g_aload_n dX8_ticksNow_7 rfl 0 rfl ?_
    obtain ⟨e4, K⟩ := K
    obtain ⟨q2, C3, K⟩ := K
    refine g_callV (M' := mX8_tick) (b := a0) (As := []) (rest := []) (rc' := rc) (rs' := rs) dX8_ticksNow_8 bw_1457 bw_1459 bs_63 bw_9 bw_1460 ⟨by decide +kernel, by decide +kernel, show (parseMethodDescriptor mX8_tick.1.desc).map (fun d => d.parameters.length) = some 0 by decide +kernel⟩ (by decide) (by decide) (Nat.le_of_ble_eq_true rfl) fc_8 (by decide) rfl e4 C3 (Nat.le_of_eq (Nat.add_zero _)) (Nat.le_of_eq (Nat.add_zero _)) (fun _ _ h => h) ?_
    rintro _ h5 ⟨rfl, K1⟩ -
    replace K := K h5 K1
    show Gm l x mX8_ticksNow 11 11 [(0, .ref a0), (1, .int x1), (2, .int x2)] [] h5 rc rs n0 Q X
    refine g_iinc (v := (x2 + 1)) (lv' := [(0, .ref a0), (1, .int x1), (2, .int (x2 + 1))]) dX8_ticksNow_11 2 rfl (by rfl) (by decide) rfl ?_
    refine g_goto (tgt := 2) dX8_ticksNow_14 (by decide) ?_
    exact K
theorem dX8_quiet_0 : decode cX8_quiet 0 = .ok (.aload_n 0, 1) := by decide +kernel
theorem dX8_quiet_1 : decode cX8_quiet 1 = .ok (.getfield 64, 3) := by decide +kernel
theorem dX8_quiet_4 : decode cX8_quiet 4 = .ok (.aload_n 0, 1) := by decide +kernel
theorem dX8_quiet_5 : decode cX8_quiet 5 = .ok (.getfield 29, 3) := by decide +kernel
theorem dX8_quiet_8 : decode cX8_quiet 8 = .ok (.invokestatic 204, 3) := by decide +kernel
theorem dX8_quiet_11 : decode cX8_quiet 11 = .ok (.iconst 0, 1) := by decide +kernel
theorem dX8_quiet_12 : decode cX8_quiet 12 = .ok (.istore_n 1, 1) := by decide +kernel
theorem dX8_quiet_13 : decode cX8_quiet 13 = .ok (.iload_n 1, 1) := by decide +kernel
theorem dX8_quiet_14 : decode cX8_quiet 14 = .ok (.sipush 200, 3) := by decide +kernel
theorem dX8_quiet_17 : decode cX8_quiet 17 = .ok (.if_icmp .gt 20, 3) := by decide +kernel
theorem dX8_quiet_20 : decode cX8_quiet 20 = .ok (.aload_n 0, 1) := by decide +kernel
theorem dX8_quiet_21 : decode cX8_quiet 21 = .ok (.invokevirtual 347, 3) := by decide +kernel
theorem dX8_quiet_24 : decode cX8_quiet 24 = .ok (.ifCond .ne 13, 3) := by decide +kernel
theorem dX8_quiet_27 : decode cX8_quiet 27 = .ok (.aload_n 0, 1) := by decide +kernel
theorem dX8_quiet_28 : decode cX8_quiet 28 = .ok (.invokevirtual 338, 3) := by decide +kernel
theorem dX8_quiet_31 : decode cX8_quiet 31 = .ok (.iinc 1 1, 3) := by decide +kernel
theorem dX8_quiet_34 : decode cX8_quiet 34 = .ok (.goto (-21), 3) := by decide +kernel
theorem dX8_quiet_37 : decode cX8_quiet 37 = .ok (.aload_n 0, 1) := by decide +kernel
theorem dX8_quiet_38 : decode cX8_quiet 38 = .ok (.getfield 29, 3) := by decide +kernel
theorem dX8_quiet_41 : decode cX8_quiet 41 = .ok (.aload_n 0, 1) := by decide +kernel
theorem dX8_quiet_42 : decode cX8_quiet 42 = .ok (.getfield 64, 3) := by decide +kernel
theorem dX8_quiet_45 : decode cX8_quiet 45 = .ok (.invokestatic 204, 3) := by decide +kernel
theorem dX8_quiet_48 : decode cX8_quiet 48 = .ok (.iload_n 1, 1) := by decide +kernel
theorem dX8_quiet_49 : decode cX8_quiet 49 = .ok (.sipush 200, 3) := by decide +kernel
theorem dX8_quiet_52 : decode cX8_quiet 52 = .ok (.if_icmp .gt 7, 3) := by decide +kernel
theorem dX8_quiet_55 : decode cX8_quiet 55 = .ok (.iload_n 1, 1) := by decide +kernel
theorem dX8_quiet_56 : decode cX8_quiet 56 = .ok (.goto 4, 3) := by decide +kernel
theorem dX8_quiet_59 : decode cX8_quiet 59 = .ok (.iconst (-1), 1) := by decide +kernel
theorem dX8_quiet_60 : decode cX8_quiet 60 = .ok (.ireturn, 1) := by decide +kernel
set_option maxRecDepth 20000 in
set_option maxHeartbeats 4000000 in
theorem vX8_quiet_0 {l : Launch} {x : CX} {a0 : Nat} {h : PH} {rc rs n0 : Nat} {Q : Option Value → PH → Prop} {X : String → PH → Prop}
    (K : ((hK h a0).1 = 8) ∧ ∃ b2, (hR h a0 23 = some b2) ∧ ∃ b4, (hR h a0 2 = some b4) ∧ ∃ (q6 : PH → Prop), CV l x mX8_copyTo 0 0 0 [.ref b2, .ref b4] h q6 ∧ ∀ (h8 : PH), q6 h8 → Gm l x mX8_quiet 11 13 [(0, .ref a0), (1, .int 0)] [] h8 rc rs n0 Q X) :
    Gm l x mX8_quiet 11 0 [(0, .ref a0)] [] h rc rs n0 Q X := by
  refine g_aload_n dX8_quiet_0 rfl 0 rfl ?_
  obtain ⟨e1, b2, e3, K⟩ := K
  refine g_get (c := 8) (k := 23) (v := .ref b2) dX8_quiet_1 fc_8 (by decide) (by decide) bw_1221 (congrArg pr e3) e1 ?_
  refine g_aload_n dX8_quiet_4 rfl 0 rfl ?_
  obtain ⟨b4, e5, K⟩ := K
  refine g_get (c := 8) (k := 2) (v := .ref b4) dX8_quiet_5 fc_8 (by decide) (by decide) bw_1200 (congrArg pr e5) e1 ?_
  obtain ⟨q6, C7, K⟩ := K
  refine g_callS (M' := mX8_copyTo) (As := [.ref b2, .ref b4]) (rest := []) (rc' := rc) (rs' := rs) dX8_quiet_8 bw_1398 bw_1399 bw_9 bw_1400 ⟨by decide +kernel, by decide +kernel, show (parseMethodDescriptor mX8_copyTo.1.desc).map (fun d => d.parameters.length) = some 2 by decide +kernel⟩ (by decide) (by decide) (Nat.le_of_ble_eq_true rfl) C7 (Nat.le_of_eq (Nat.add_zero _)) (Nat.le_of_eq (Nat.add_zero _)) (fun _ _ h => h) ?_
  rintro _ h8 ⟨rfl, K1⟩ -
  replace K := K h8 K1
  show Gm l x mX8_quiet 11 11 [(0, .ref a0)] [] h8 rc rs n0 Q X
  refine g_iconst (v := 0) dX8_quiet_11 (by decide) ?_
  refine g_istore_n (lv' := [(0, .ref a0), (1, .int 0)]) dX8_quiet_12 rfl (by decide) rfl ?_
  exact K
set_option maxRecDepth 20000 in
set_option maxHeartbeats 4000000 in
theorem vX8_quiet_13 {l : Launch} {x : CX} {a0 : Nat} {x1 : Int32} {h : PH} {rc rs n0 : Nat} {Q : Option Value → PH → Prop} {X : String → PH → Prop}
    (K : ((200 < x1 → ((hK h a0).1 = 8) ∧ ∃ b3, (hR h a0 2 = some b3) ∧ ∃ b5, (hR h a0 23 = some b5) ∧ ∃ (q7 : PH → Prop), CV l x mX8_copyTo 0 0 0 [.ref b3, .ref b5] h q7 ∧ ∀ (h9 : PH), q7 h9 → Q (some (.int (if 200 < x1 then (-1) else x1 : Int32))) h9) ∧ (¬ 200 < x1 → ((hK h a0).1 = 8) ∧ ∃ (q11 : Int32 → PH → Prop), CI l x mX8_isQuiet 3 0 0 [.ref a0] h q11 ∧ ∀ (r15 : Int32) (h14 : PH), q11 r15 h14 → ((¬ r15 = 0 → ((hK h14 a0).1 = 8) ∧ ∃ b18, (hR h14 a0 2 = some b18) ∧ ∃ b20, (hR h14 a0 23 = some b20) ∧ ∃ (q22 : PH → Prop), CV l x mX8_copyTo 0 0 0 [.ref b18, .ref b20] h14 q22 ∧ ∀ (h24 : PH), q22 h24 → Q (some (.int (if 200 < x1 then (-1) else x1 : Int32))) h24) ∧ (r15 = 0 → ((hK h14 a0).1 = 8) ∧ ∃ (q26 : PH → Prop), CV l x mX8_tick 10 0 0 [.ref a0] h14 q26 ∧ ∀ (h29 : PH), q26 h29 → Gm l x mX8_quiet 11 13 [(0, .ref a0), (1, .int (x1 + 1))] [] h29 rc rs n0 Q X))))) :
    Gm l x mX8_quiet 11 13 [(0, .ref a0), (1, .int x1)] [] h rc rs n0 Q X := by
  refine g_iload_n dX8_quiet_13 rfl 1 rfl ?_
  refine g_sipush (v := 200) dX8_quiet_14 (by decide) ?_
  refine g_icmp_gt (tgt := 37) dX8_quiet_17 (by decide) (fun c1 => ?_) (fun c1 => ?_)
  · replace K := K.1 c1
    refine g_aload_n dX8_quiet_37 rfl 0 rfl ?_
    obtain ⟨e2, b3, e4, K⟩ := K
    refine g_get (c := 8) (k := 2) (v := .ref b3) dX8_quiet_38 fc_8 (by decide) (by decide) bw_1200 (congrArg pr e4) e2 ?_
    refine g_aload_n dX8_quiet_41 rfl 0 rfl ?_
    obtain ⟨b5, e6, K⟩ := K
    refine g_get (c := 8) (k := 23) (v := .ref b5) dX8_quiet_42 fc_8 (by decide) (by decide) bw_1221 (congrArg pr e6) e2 ?_
    obtain ⟨q7, C8, K⟩ := K
    refine g_callS (M' := mX8_copyTo) (As := [.ref b3, .ref b5]) (rest := []) (rc' := rc) (rs' := rs) dX8_quiet_45 bw_1398 bw_1399 bw_9 bw_1400 ⟨by decide +kernel, by decide +kernel, show (parseMethodDescriptor mX8_copyTo.1.desc).map (fun d => d.parameters.length) = some 2 by decide +kernel⟩ (by decide) (by decide) (Nat.le_of_ble_eq_true rfl) C8 (Nat.le_of_eq (Nat.add_zero _)) (Nat.le_of_eq (Nat.add_zero _)) (fun _ _ h => h) ?_
    rintro _ h9 ⟨rfl, K1⟩ -
    replace K := K h9 K1
    show Gm l x mX8_quiet 11 48 [(0, .ref a0), (1, .int x1)] [] h9 rc rs n0 Q X
    refine g_iload_n dX8_quiet_48 rfl 1 rfl ?_
    refine g_sipush (v := 200) dX8_quiet_49 (by decide) ?_
    have KJ : Gm l x mX8_quiet 11 60 [(0, .ref a0), (1, .int x1)] [.int (if 200 < x1 then (-1) else x1 : Int32)] h9 rc rs n0 Q X := by
      exact g_iret dX8_quiet_60 rfl K
    refine g_icmp_gt (tgt := 59) dX8_quiet_52 (by decide) (fun c10 => ?_) (fun c10 => ?_)
    · refine g_iconst (v := (-1)) dX8_quiet_59 (by decide) ?_
      first | (simp only [if_pos c10] at KJ; exact KJ) | (simp only [if_pos c10, ite_true, ite_false, eq_self] at KJ; exact KJ) | (simp only [if_pos c10] at KJ ⊢; exact KJ) | exact KJ
    · refine g_iload_n dX8_quiet_55 rfl 1 rfl ?_
      refine g_goto (tgt := 60) dX8_quiet_56 (by decide) ?_
      first | (simp only [if_neg c10] at KJ; exact KJ) | (simp only [if_neg c10, ite_true, ite_false, eq_self] at KJ; exact KJ) | (simp only [if_neg c10] at KJ ⊢; exact KJ) | exact KJ
  · replace K := K.2 c1
    refine g_aload_n dX8_quiet_20 rfl 0 rfl ?_
    obtain ⟨e13, K⟩ := K
    obtain ⟨q11, C12, K⟩ := K
    refine g_callV (M' := mX8_isQuiet) (b := a0) (As := []) (rest := []) (rc' := rc) (rs' := rs) dX8_quiet_21 bw_1600 bw_1602 bs_93 bw_9 bw_1603 ⟨by decide +kernel, by decide +kernel, show (parseMethodDescriptor mX8_isQuiet.1.desc).map (fun d => d.parameters.length) = some 0 by decide +kernel⟩ (by decide) (by decide) (Nat.le_of_ble_eq_true rfl) fc_8 (by decide) rfl e13 C12 (Nat.le_of_eq (Nat.add_zero _)) (Nat.le_of_eq (Nat.add_zero _)) (fun _ _ h => h) ?_
    rintro _ h14 ⟨r15, rfl, K1⟩ -
    replace K := K r15 h14 K1
    show Gm l x mX8_quiet 11 24 [(0, .ref a0), (1, .int x1)] [.int r15] h14 rc rs n0 Q X
    refine g_if_ne (tgt := 37) dX8_quiet_24 (by decide) (fun c16 => ?_) (fun c16 => ?_)
    · replace K := K.1 c16
      refine g_aload_n dX8_quiet_37 rfl 0 rfl ?_
      obtain ⟨e17, b18, e19, K⟩ := K
      refine g_get (c := 8) (k := 2) (v := .ref b18) dX8_quiet_38 fc_8 (by decide) (by decide) bw_1200 (congrArg pr e19) e17 ?_
      refine g_aload_n dX8_quiet_41 rfl 0 rfl ?_
      obtain ⟨b20, e21, K⟩ := K
      refine g_get (c := 8) (k := 23) (v := .ref b20) dX8_quiet_42 fc_8 (by decide) (by decide) bw_1221 (congrArg pr e21) e17 ?_
      obtain ⟨q22, C23, K⟩ := K
      refine g_callS (M' := mX8_copyTo) (As := [.ref b18, .ref b20]) (rest := []) (rc' := rc) (rs' := rs) dX8_quiet_45 bw_1398 bw_1399 bw_9 bw_1400 ⟨by decide +kernel, by decide +kernel, show (parseMethodDescriptor mX8_copyTo.1.desc).map (fun d => d.parameters.length) = some 2 by decide +kernel⟩ (by decide) (by decide) (Nat.le_of_ble_eq_true rfl) C23 (Nat.le_of_eq (Nat.add_zero _)) (Nat.le_of_eq (Nat.add_zero _)) (fun _ _ h => h) ?_
      rintro _ h24 ⟨rfl, K1⟩ -
      replace K := K h24 K1
      show Gm l x mX8_quiet 11 48 [(0, .ref a0), (1, .int x1)] [] h24 rc rs n0 Q X
      refine g_iload_n dX8_quiet_48 rfl 1 rfl ?_
      refine g_sipush (v := 200) dX8_quiet_49 (by decide) ?_
      have KJ : Gm l x mX8_quiet 11 60 [(0, .ref a0), (1, .int x1)] [.int (if 200 < x1 then (-1) else x1 : Int32)] h24 rc rs n0 Q X := by
        exact g_iret dX8_quiet_60 rfl K
      refine g_icmp_gt (tgt := 59) dX8_quiet_52 (by decide) (fun c25 => ?_) (fun c25 => ?_)
      · refine g_iconst (v := (-1)) dX8_quiet_59 (by decide) ?_
        first | (simp only [if_pos c25] at KJ; exact KJ) | (simp only [if_pos c25, ite_true, ite_false, eq_self] at KJ; exact KJ) | (simp only [if_pos c25] at KJ ⊢; exact KJ) | exact KJ
      · refine g_iload_n dX8_quiet_55 rfl 1 rfl ?_
        refine g_goto (tgt := 60) dX8_quiet_56 (by decide) ?_
        first | (simp only [if_neg c25] at KJ; exact KJ) | (simp only [if_neg c25, ite_true, ite_false, eq_self] at KJ; exact KJ) | (simp only [if_neg c25] at KJ ⊢; exact KJ) | exact KJ
    · replace K := K.2 c16
      refine g_aload_n dX8_quiet_27 rfl 0 rfl ?_
      obtain ⟨e28, K⟩ := K
      obtain ⟨q26, C27, K⟩ := K
      refine g_callV (M' := mX8_tick) (b := a0) (As := []) (rest := []) (rc' := rc) (rs' := rs) dX8_quiet_28 bw_1457 bw_1459 bs_63 bw_9 bw_1460 ⟨by decide +kernel, by decide +kernel, show (parseMethodDescriptor mX8_tick.1.desc).map (fun d => d.parameters.length) = some 0 by decide +kernel⟩ (by decide) (by decide) (Nat.le_of_ble_eq_true rfl) fc_8 (by decide) rfl e28 C27 (Nat.le_of_eq (Nat.add_zero _)) (Nat.le_of_eq (Nat.add_zero _)) (fun _ _ h => h) ?_
      rintro _ h29 ⟨rfl, K1⟩ -
      replace K := K h29 K1
      show Gm l x mX8_quiet 11 31 [(0, .ref a0), (1, .int x1)] [] h29 rc rs n0 Q X
      refine g_iinc (v := (x1 + 1)) (lv' := [(0, .ref a0), (1, .int (x1 + 1))]) dX8_quiet_31 1 rfl (by rfl) (by decide) rfl ?_
      refine g_goto (tgt := 13) dX8_quiet_34 (by decide) ?_
      exact K
theorem dX8_anewWaited_0 : decode cX8_anewWaited 0 = .ok (.aload_n 0, 1) := by decide +kernel
theorem dX8_anewWaited_1 : decode cX8_anewWaited 1 = .ok (.sipush 200, 3) := by decide +kernel
theorem dX8_anewWaited_4 : decode cX8_anewWaited 4 = .ok (.invokevirtual 350, 3) := by decide +kernel
theorem dX8_anewWaited_7 : decode cX8_anewWaited 7 = .ok (.aload_n 0, 1) := by decide +kernel
theorem dX8_anewWaited_8 : decode cX8_anewWaited 8 = .ok (.invokevirtual 353, 3) := by decide +kernel
theorem dX8_anewWaited_11 : decode cX8_anewWaited 11 = .ok (.istore_n 1, 1) := by decide +kernel
theorem dX8_anewWaited_12 : decode cX8_anewWaited 12 = .ok (.aload_n 0, 1) := by decide +kernel
theorem dX8_anewWaited_13 : decode cX8_anewWaited 13 = .ok (.getfield 29, 3) := by decide +kernel
theorem dX8_anewWaited_16 : decode cX8_anewWaited 16 = .ok (.aload_n 0, 1) := by decide +kernel
theorem dX8_anewWaited_17 : decode cX8_anewWaited 17 = .ok (.getfield 64, 3) := by decide +kernel
theorem dX8_anewWaited_20 : decode cX8_anewWaited 20 = .ok (.invokestatic 204, 3) := by decide +kernel
theorem dX8_anewWaited_23 : decode cX8_anewWaited 23 = .ok (.iload_n 1, 1) := by decide +kernel
theorem dX8_anewWaited_24 : decode cX8_anewWaited 24 = .ok (.ireturn, 1) := by decide +kernel
set_option maxRecDepth 20000 in
set_option maxHeartbeats 4000000 in
theorem vX8_anewWaited_0 {l : Launch} {x : CX} {a0 : Nat} {h : PH} {rc rs n0 : Nat} {Q : Option Value → PH → Prop} {X : String → PH → Prop}
    (K : ((hK h a0).1 = 8) ∧ ∃ (q1 : PH → Prop), CV l x mX8_ticksNow 11 0 0 [.ref a0, .int 200] h q1 ∧ ∀ (h4 : PH), q1 h4 → ((hK h4 a0).1 = 8) ∧ ∃ (q5 : Int32 → PH → Prop), CI l x mX8_waited 1 0 0 [.ref a0] h4 q5 ∧ ∀ (r9 : Int32) (h8 : PH), q5 r9 h8 → ((hK h8 a0).1 = 8) ∧ ∃ b11, (hR h8 a0 2 = some b11) ∧ ∃ b13, (hR h8 a0 23 = some b13) ∧ ∃ (q15 : PH → Prop), CV l x mX8_copyTo 0 0 0 [.ref b11, .ref b13] h8 q15 ∧ ∀ (h17 : PH), q15 h17 → Q (some (.int r9)) h17) :
    Gm l x mX8_anewWaited 12 0 [(0, .ref a0)] [] h rc rs n0 Q X := by
  refine g_aload_n dX8_anewWaited_0 rfl 0 rfl ?_
  refine g_sipush (v := 200) dX8_anewWaited_1 (by decide) ?_
  obtain ⟨e3, K⟩ := K
  obtain ⟨q1, C2, K⟩ := K
  refine g_callV (M' := mX8_ticksNow) (b := a0) (As := [.int 200]) (rest := []) (rc' := rc) (rs' := rs) dX8_anewWaited_4 bw_1453 bw_1455 bs_62 bw_9 bw_1456 ⟨by decide +kernel, by decide +kernel, show (parseMethodDescriptor mX8_ticksNow.1.desc).map (fun d => d.parameters.length) = some 1 by decide +kernel⟩ (by decide) (by decide) (Nat.le_of_ble_eq_true rfl) fc_8 (by decide) rfl e3 C2 (Nat.le_of_eq (Nat.add_zero _)) (Nat.le_of_eq (Nat.add_zero _)) (fun _ _ h => h) ?_
  rintro _ h4 ⟨rfl, K1⟩ -
  replace K := K h4 K1
  show Gm l x mX8_anewWaited 12 7 [(0, .ref a0)] [] h4 rc rs n0 Q X
  refine g_aload_n dX8_anewWaited_7 rfl 0 rfl ?_
  obtain ⟨e7, K⟩ := K
  obtain ⟨q5, C6, K⟩ := K
  refine g_callV (M' := mX8_waited) (b := a0) (As := []) (rest := []) (rc' := rc) (rs' := rs) dX8_anewWaited_8 bw_1429 bw_1431 bs_56 bw_9 bw_1432 ⟨by decide +kernel, by decide +kernel, show (parseMethodDescriptor mX8_waited.1.desc).map (fun d => d.parameters.length) = some 0 by decide +kernel⟩ (by decide) (by decide) (Nat.le_of_ble_eq_true rfl) fc_8 (by decide) rfl e7 C6 (Nat.le_of_eq (Nat.add_zero _)) (Nat.le_of_eq (Nat.add_zero _)) (fun _ _ h => h) ?_
  rintro _ h8 ⟨r9, rfl, K1⟩ -
  replace K := K r9 h8 K1
  show Gm l x mX8_anewWaited 12 11 [(0, .ref a0)] [.int r9] h8 rc rs n0 Q X
  refine g_istore_n (lv' := [(0, .ref a0), (1, .int r9)]) dX8_anewWaited_11 rfl (by decide) rfl ?_
  refine g_aload_n dX8_anewWaited_12 rfl 0 rfl ?_
  obtain ⟨e10, b11, e12, K⟩ := K
  refine g_get (c := 8) (k := 2) (v := .ref b11) dX8_anewWaited_13 fc_8 (by decide) (by decide) bw_1200 (congrArg pr e12) e10 ?_
  refine g_aload_n dX8_anewWaited_16 rfl 0 rfl ?_
  obtain ⟨b13, e14, K⟩ := K
  refine g_get (c := 8) (k := 23) (v := .ref b13) dX8_anewWaited_17 fc_8 (by decide) (by decide) bw_1221 (congrArg pr e14) e10 ?_
  obtain ⟨q15, C16, K⟩ := K
  refine g_callS (M' := mX8_copyTo) (As := [.ref b11, .ref b13]) (rest := []) (rc' := rc) (rs' := rs) dX8_anewWaited_20 bw_1398 bw_1399 bw_9 bw_1400 ⟨by decide +kernel, by decide +kernel, show (parseMethodDescriptor mX8_copyTo.1.desc).map (fun d => d.parameters.length) = some 2 by decide +kernel⟩ (by decide) (by decide) (Nat.le_of_ble_eq_true rfl) C16 (Nat.le_of_eq (Nat.add_zero _)) (Nat.le_of_eq (Nat.add_zero _)) (fun _ _ h => h) ?_
  rintro _ h17 ⟨rfl, K1⟩ -
  replace K := K h17 K1
  show Gm l x mX8_anewWaited 12 23 [(0, .ref a0), (1, .int r9)] [] h17 rc rs n0 Q X
  refine g_iload_n dX8_anewWaited_23 rfl 1 rfl ?_
  exact g_iret dX8_anewWaited_24 rfl K
theorem dX8_thrift_0 : decode cX8_thrift 0 = .ok (.iconst 0, 1) := by decide +kernel
theorem dX8_thrift_1 : decode cX8_thrift 1 = .ok (.istore_n 1, 1) := by decide +kernel
theorem dX8_thrift_2 : decode cX8_thrift 2 = .ok (.fconst 0, 1) := by decide +kernel
theorem dX8_thrift_3 : decode cX8_thrift 3 = .ok (.fstore_n 2, 1) := by decide +kernel
theorem dX8_thrift_4 : decode cX8_thrift 4 = .ok (.iconst 0, 1) := by decide +kernel
theorem dX8_thrift_5 : decode cX8_thrift 5 = .ok (.istore_n 3, 1) := by decide +kernel
theorem dX8_thrift_6 : decode cX8_thrift 6 = .ok (.iload_n 3, 1) := by decide +kernel
theorem dX8_thrift_7 : decode cX8_thrift 7 = .ok (.iconst 3, 1) := by decide +kernel
theorem dX8_thrift_8 : decode cX8_thrift 8 = .ok (.if_icmp .ge 63, 3) := by decide +kernel
theorem dX8_thrift_11 : decode cX8_thrift 11 = .ok (.aload_n 0, 1) := by decide +kernel
theorem dX8_thrift_12 : decode cX8_thrift 12 = .ok (.iload_n 3, 1) := by decide +kernel
theorem dX8_thrift_13 : decode cX8_thrift 13 = .ok (.aload_n 0, 1) := by decide +kernel
theorem dX8_thrift_14 : decode cX8_thrift 14 = .ok (.getfield 29, 3) := by decide +kernel
theorem dX8_thrift_17 : decode cX8_thrift 17 = .ok (.iconst 3, 1) := by decide +kernel
theorem dX8_thrift_18 : decode cX8_thrift 18 = .ok (.iaload, 1) := by decide +kernel
theorem dX8_thrift_19 : decode cX8_thrift 19 = .ok (.invokevirtual 356, 3) := by decide +kernel
theorem dX8_thrift_22 : decode cX8_thrift 22 = .ok (.aload_n 0, 1) := by decide +kernel
theorem dX8_thrift_23 : decode cX8_thrift 23 = .ok (.sipush 200, 3) := by decide +kernel
theorem dX8_thrift_26 : decode cX8_thrift 26 = .ok (.invokevirtual 350, 3) := by decide +kernel
theorem dX8_thrift_29 : decode cX8_thrift 29 = .ok (.aload_n 0, 1) := by decide +kernel
theorem dX8_thrift_30 : decode cX8_thrift 30 = .ok (.invokevirtual 362, 3) := by decide +kernel
theorem dX8_thrift_33 : decode cX8_thrift 33 = .ok (.fstore 4, 2) := by decide +kernel
theorem dX8_thrift_35 : decode cX8_thrift 35 = .ok (.aload_n 0, 1) := by decide +kernel
theorem dX8_thrift_36 : decode cX8_thrift 36 = .ok (.getfield 29, 3) := by decide +kernel
theorem dX8_thrift_39 : decode cX8_thrift 39 = .ok (.aload_n 0, 1) := by decide +kernel
theorem dX8_thrift_40 : decode cX8_thrift 40 = .ok (.getfield 64, 3) := by decide +kernel
theorem dX8_thrift_43 : decode cX8_thrift 43 = .ok (.invokestatic 204, 3) := by decide +kernel
theorem dX8_thrift_46 : decode cX8_thrift 46 = .ok (.iload_n 3, 1) := by decide +kernel
theorem dX8_thrift_47 : decode cX8_thrift 47 = .ok (.ifCond .le 13, 3) := by decide +kernel
theorem dX8_thrift_50 : decode cX8_thrift 50 = .ok (.fload 4, 2) := by decide +kernel
theorem dX8_thrift_52 : decode cX8_thrift 52 = .ok (.fload_n 2, 1) := by decide +kernel
theorem dX8_thrift_53 : decode cX8_thrift 53 = .ok (.fcmp .l, 1) := by decide +kernel
theorem dX8_thrift_54 : decode cX8_thrift 54 = .ok (.ifCond .lt 6, 3) := by decide +kernel
theorem dX8_thrift_57 : decode cX8_thrift 57 = .ok (.goto 8, 3) := by decide +kernel
theorem dX8_thrift_60 : decode cX8_thrift 60 = .ok (.iload_n 3, 1) := by decide +kernel
theorem dX8_thrift_61 : decode cX8_thrift 61 = .ok (.istore_n 1, 1) := by decide +kernel
theorem dX8_thrift_62 : decode cX8_thrift 62 = .ok (.fload 4, 2) := by decide +kernel
theorem dX8_thrift_64 : decode cX8_thrift 64 = .ok (.fstore_n 2, 1) := by decide +kernel
theorem dX8_thrift_65 : decode cX8_thrift 65 = .ok (.iinc 3 1, 3) := by decide +kernel
theorem dX8_thrift_68 : decode cX8_thrift 68 = .ok (.goto (-62), 3) := by decide +kernel
theorem dX8_thrift_71 : decode cX8_thrift 71 = .ok (.iload_n 1, 1) := by decide +kernel
theorem dX8_thrift_72 : decode cX8_thrift 72 = .ok (.ireturn, 1) := by decide +kernel
set_option maxRecDepth 20000 in
set_option maxHeartbeats 4000000 in
theorem vX8_thrift_0 {l : Launch} {x : CX} {a0 : Nat} {h : PH} {rc rs n0 : Nat} {Q : Option Value → PH → Prop} {X : String → PH → Prop}
    (K : Gm l x mX8_thrift 12 6 [(0, .ref a0), (1, .int 0), (2, .float FP.fconst0), (3, .int 0)] [] h rc rs n0 Q X) :
    Gm l x mX8_thrift 12 0 [(0, .ref a0)] [] h rc rs n0 Q X := by
  refine g_iconst (v := 0) dX8_thrift_0 (by decide) ?_
  refine g_istore_n (lv' := [(0, .ref a0), (1, .int 0)]) dX8_thrift_1 rfl (by decide) rfl ?_
  refine g_fconst0 dX8_thrift_2 ?_
  refine g_fstore_n (lv' := [(0, .ref a0), (1, .int 0), (2, .float FP.fconst0)]) dX8_thrift_3 rfl (by decide) rfl ?_
  refine g_iconst (v := 0) dX8_thrift_4 (by decide) ?_
  refine g_istore_n (lv' := [(0, .ref a0), (1, .int 0), (2, .float FP.fconst0), (3, .int 0)]) dX8_thrift_5 rfl (by decide) rfl ?_
  exact K
set_option maxRecDepth 20000 in
set_option maxHeartbeats 4000000 in
theorem vX8_thrift_6 {l : Launch} {x : CX} {a0 : Nat} {x1 : Int32} {f2 : UInt32} {x3 : Int32} {h : PH} {rc rs n0 : Nat} {Q : Option Value → PH → Prop} {X : String → PH → Prop}
    (K : ((3 ≤ x3 → Q (some (.int x1)) h) ∧ (¬ 3 ≤ x3 → ((hK h a0).1 = 8) ∧ ∃ b3, (hR h a0 2 = some b3) ∧ ((hK h b3).1 = 100) ∧ (vp_in 3 (hK h b3).2) ∧ ∃ (q7 : PH → Prop), CV l x mX8_anewBegins 2 0 0 [.ref a0, .int x3, .int (hI h b3 (Int32.toNatClampNeg 3))] h q7 ∧ ∀ (h9 : PH), q7 h9 → ((hK h9 a0).1 = 8) ∧ ∃ (q10 : PH → Prop), CV l x mX8_ticksNow 11 0 0 [.ref a0, .int 200] h9 q10 ∧ ∀ (h13 : PH), q10 h13 → ((hK h13 a0).1 = 8) ∧ ∃ (q14 : UInt32 → PH → Prop), CF l x mX8_work 1 0 0 [.ref a0] h13 q14 ∧ ∀ (r18 : UInt32) (h17 : PH), q14 r18 h17 → ((hK h17 a0).1 = 8) ∧ ∃ b20, (hR h17 a0 2 = some b20) ∧ ∃ b22, (hR h17 a0 23 = some b22) ∧ ∃ (q24 : PH → Prop), CV l x mX8_copyTo 0 0 0 [.ref b20, .ref b22] h17 q24 ∧ ∀ (h26 : PH), q24 h26 → Gm l x mX8_thrift 12 6 [(0, .ref a0), (1, .int (if x3 ≤ 0 then x3 else (if (Op.cmpValue (FP.fcmp r18 f2) .l) < 0 then x3 else x1 : Int32) : Int32)), (2, .float (if x3 ≤ 0 then r18 else (if (Op.cmpValue (FP.fcmp r18 f2) .l) < 0 then r18 else f2 : UInt32) : UInt32)), (3, .int (x3 + 1))] [] h26 rc rs n0 Q X))) :
    Gm l x mX8_thrift 12 6 [(0, .ref a0), (1, .int x1), (2, .float f2), (3, .int x3)] [] h rc rs n0 Q X := by
  refine g_iload_n dX8_thrift_6 rfl 3 rfl ?_
  refine g_iconst (v := 3) dX8_thrift_7 (by decide) ?_
  refine g_icmp_ge (tgt := 71) dX8_thrift_8 (by decide) (fun c1 => ?_) (fun c1 => ?_)
  · replace K := K.1 c1
    refine g_iload_n dX8_thrift_71 rfl 1 rfl ?_
    exact g_iret dX8_thrift_72 rfl K
  · replace K := K.2 c1
    refine g_aload_n dX8_thrift_11 rfl 0 rfl ?_
    refine g_iload_n dX8_thrift_12 rfl 3 rfl ?_
    refine g_aload_n dX8_thrift_13 rfl 0 rfl ?_
    obtain ⟨e2, b3, e4, K⟩ := K
    refine g_get (c := 8) (k := 2) (v := .ref b3) dX8_thrift_14 fc_8 (by decide) (by decide) bw_1200 (congrArg pr e4) e2 ?_
    refine g_iconst (v := 3) dX8_thrift_17 (by decide) ?_
    obtain ⟨e5, e6, K⟩ := K
    refine g_iald dX8_thrift_18 e5 e6 ?_
    obtain ⟨q7, C8, K⟩ := K
    refine g_callV (M' := mX8_anewBegins) (b := a0) (As := [.int x3, .int (hI h b3 (Int32.toNatClampNeg 3))]) (rest := []) (rc' := rc) (rs' := rs) dX8_thrift_19 bw_1445 bw_1447 bs_60 bw_9 bw_1448 ⟨by decide +kernel, by decide +kernel, show (parseMethodDescriptor mX8_anewBegins.1.desc).map (fun d => d.parameters.length) = some 2 by decide +kernel⟩ (by decide) (by decide) (Nat.le_of_ble_eq_true rfl) fc_8 (by decide) rfl e2 C8 (Nat.le_of_eq (Nat.add_zero _)) (Nat.le_of_eq (Nat.add_zero _)) (fun _ _ h => h) ?_
    rintro _ h9 ⟨rfl, K1⟩ -
    replace K := K h9 K1
    show Gm l x mX8_thrift 12 22 [(0, .ref a0), (1, .int x1), (2, .float f2), (3, .int x3)] [] h9 rc rs n0 Q X
    refine g_aload_n dX8_thrift_22 rfl 0 rfl ?_
    refine g_sipush (v := 200) dX8_thrift_23 (by decide) ?_
    obtain ⟨e12, K⟩ := K
    obtain ⟨q10, C11, K⟩ := K
    refine g_callV (M' := mX8_ticksNow) (b := a0) (As := [.int 200]) (rest := []) (rc' := rc) (rs' := rs) dX8_thrift_26 bw_1453 bw_1455 bs_62 bw_9 bw_1456 ⟨by decide +kernel, by decide +kernel, show (parseMethodDescriptor mX8_ticksNow.1.desc).map (fun d => d.parameters.length) = some 1 by decide +kernel⟩ (by decide) (by decide) (Nat.le_of_ble_eq_true rfl) fc_8 (by decide) rfl e12 C11 (Nat.le_of_eq (Nat.add_zero _)) (Nat.le_of_eq (Nat.add_zero _)) (fun _ _ h => h) ?_
    rintro _ h13 ⟨rfl, K1⟩ -
    replace K := K h13 K1
    show Gm l x mX8_thrift 12 29 [(0, .ref a0), (1, .int x1), (2, .float f2), (3, .int x3)] [] h13 rc rs n0 Q X
    refine g_aload_n dX8_thrift_29 rfl 0 rfl ?_
    obtain ⟨e16, K⟩ := K
    obtain ⟨q14, C15, K⟩ := K
    refine g_callV (M' := mX8_work) (b := a0) (As := []) (rest := []) (rc' := rc) (rs' := rs) dX8_thrift_30 bw_1592 bw_1594 bs_91 bw_9 bw_1595 ⟨by decide +kernel, by decide +kernel, show (parseMethodDescriptor mX8_work.1.desc).map (fun d => d.parameters.length) = some 0 by decide +kernel⟩ (by decide) (by decide) (Nat.le_of_ble_eq_true rfl) fc_8 (by decide) rfl e16 C15 (Nat.le_of_eq (Nat.add_zero _)) (Nat.le_of_eq (Nat.add_zero _)) (fun _ _ h => h) ?_
    rintro _ h17 ⟨r18, rfl, K1⟩ -
    replace K := K r18 h17 K1
    show Gm l x mX8_thrift 12 33 [(0, .ref a0), (1, .int x1), (2, .float f2), (3, .int x3)] [.float r18] h17 rc rs n0 Q X
    refine g_fstore (lv' := [(0, .ref a0), (1, .int x1), (2, .float f2), (3, .int x3), (4, .float r18)]) dX8_thrift_33 (by decide) rfl ?_
    refine g_aload_n dX8_thrift_35 rfl 0 rfl ?_
    obtain ⟨e19, b20, e21, K⟩ := K
    refine g_get (c := 8) (k := 2) (v := .ref b20) dX8_thrift_36 fc_8 (by decide) (by decide) bw_1200 (congrArg pr e21) e19 ?_
    refine g_aload_n dX8_thrift_39 rfl 0 rfl ?_
    obtain ⟨b22, e23, K⟩ := K
    refine g_get (c := 8) (k := 23) (v := .ref b22) dX8_thrift_40 fc_8 (by decide) (by decide) bw_1221 (congrArg pr e23) e19 ?_
    obtain ⟨q24, C25, K⟩ := K
    refine g_callS (M' := mX8_copyTo) (As := [.ref b20, .ref b22]) (rest := []) (rc' := rc) (rs' := rs) dX8_thrift_43 bw_1398 bw_1399 bw_9 bw_1400 ⟨by decide +kernel, by decide +kernel, show (parseMethodDescriptor mX8_copyTo.1.desc).map (fun d => d.parameters.length) = some 2 by decide +kernel⟩ (by decide) (by decide) (Nat.le_of_ble_eq_true rfl) C25 (Nat.le_of_eq (Nat.add_zero _)) (Nat.le_of_eq (Nat.add_zero _)) (fun _ _ h => h) ?_
    rintro _ h26 ⟨rfl, K1⟩ -
    replace K := K h26 K1
    show Gm l x mX8_thrift 12 46 [(0, .ref a0), (1, .int x1), (2, .float f2), (3, .int x3), (4, .float r18)] [] h26 rc rs n0 Q X
    refine g_iload_n dX8_thrift_46 rfl 3 rfl ?_
    have KJ : Gm l x mX8_thrift 12 65 [(0, .ref a0), (1, .int (if x3 ≤ 0 then x3 else (if (Op.cmpValue (FP.fcmp r18 f2) .l) < 0 then x3 else x1 : Int32) : Int32)), (2, .float (if x3 ≤ 0 then r18 else (if (Op.cmpValue (FP.fcmp r18 f2) .l) < 0 then r18 else f2 : UInt32) : UInt32)), (3, .int x3), (4, .float r18)] [] h26 rc rs n0 Q X := by
      refine g_iinc (v := (x3 + 1)) (lv' := [(0, .ref a0), (1, .int (if x3 ≤ 0 then x3 else (if (Op.cmpValue (FP.fcmp r18 f2) .l) < 0 then x3 else x1 : Int32) : Int32)), (2, .float (if x3 ≤ 0 then r18 else (if (Op.cmpValue (FP.fcmp r18 f2) .l) < 0 then r18 else f2 : UInt32) : UInt32)), (3, .int (x3 + 1)), (4, .float r18)]) dX8_thrift_65 3 rfl (by rfl) (by decide) rfl ?_
      refine g_goto (tgt := 6) dX8_thrift_68 (by decide) ?_
      exact Gm.sub [0, 1, 2, 3] rfl K
    refine g_if_le (tgt := 60) dX8_thrift_47 (by decide) (fun c27 => ?_) (fun c27 => ?_)
    · refine g_iload_n dX8_thrift_60 rfl 3 rfl ?_
      refine g_istore_n (lv' := [(0, .ref a0), (1, .int x3), (2, .float f2), (3, .int x3), (4, .float r18)]) dX8_thrift_61 rfl (by decide) rfl ?_
      refine g_fload dX8_thrift_62 4 rfl ?_
      refine g_fstore_n (lv' := [(0, .ref a0), (1, .int x3), (2, .float r18), (3, .int x3), (4, .float r18)]) dX8_thrift_64 rfl (by decide) rfl ?_
      first | (simp only [if_pos c27] at KJ; exact KJ) | (simp only [if_pos c27, ite_true, ite_false, eq_self] at KJ; exact KJ) | (simp only [if_pos c27] at KJ ⊢; exact KJ) | exact KJ
    · refine g_fload dX8_thrift_50 4 rfl ?_
      refine g_fload_n dX8_thrift_52 rfl 2 rfl ?_
      refine g_fcmp dX8_thrift_53 ?_
      refine g_if_lt (tgt := 60) dX8_thrift_54 (by decide) (fun c28 => ?_) (fun c28 => ?_)
      · refine g_iload_n dX8_thrift_60 rfl 3 rfl ?_
        refine g_istore_n (lv' := [(0, .ref a0), (1, .int x3), (2, .float f2), (3, .int x3), (4, .float r18)]) dX8_thrift_61 rfl (by decide) rfl ?_
        refine g_fload dX8_thrift_62 4 rfl ?_
        refine g_fstore_n (lv' := [(0, .ref a0), (1, .int x3), (2, .float r18), (3, .int x3), (4, .float r18)]) dX8_thrift_64 rfl (by decide) rfl ?_
        first | (simp only [if_neg c27, if_pos c28] at KJ; exact KJ) | (simp only [if_neg c27, if_pos c28, ite_true, ite_false, eq_self] at KJ; exact KJ) | (simp only [if_neg c27, if_pos c28] at KJ ⊢; exact KJ) | exact KJ
      · refine g_goto (tgt := 65) dX8_thrift_57 (by decide) ?_
        first | (simp only [if_neg c27, if_neg c28] at KJ; exact KJ) | (simp only [if_neg c27, if_neg c28, ite_true, ite_false, eq_self] at KJ; exact KJ) | (simp only [if_neg c27, if_neg c28] at KJ ⊢; exact KJ) | exact KJ
theorem dX8_room_0 : decode cX8_room 0 = .ok (.iconst 1, 1) := by decide +kernel
theorem dX8_room_1 : decode cX8_room 1 = .ok (.istore_n 1, 1) := by decide +kernel
theorem dX8_room_2 : decode cX8_room 2 = .ok (.iload_n 1, 1) := by decide +kernel
theorem dX8_room_3 : decode cX8_room 3 = .ok (.bipush 6, 2) := by decide +kernel
theorem dX8_room_5 : decode cX8_room 5 = .ok (.if_icmp .gt 82, 3) := by decide +kernel
theorem dX8_room_8 : decode cX8_room 8 = .ok (.aload_n 0, 1) := by decide +kernel
theorem dX8_room_9 : decode cX8_room 9 = .ok (.aload_n 0, 1) := by decide +kernel
theorem dX8_room_10 : decode cX8_room 10 = .ok (.getfield 29, 3) := by decide +kernel
theorem dX8_room_13 : decode cX8_room 13 = .ok (.iconst 2, 1) := by decide +kernel
theorem dX8_room_14 : decode cX8_room 14 = .ok (.iaload, 1) := by decide +kernel
theorem dX8_room_15 : decode cX8_room 15 = .ok (.aload_n 0, 1) := by decide +kernel
theorem dX8_room_16 : decode cX8_room 16 = .ok (.getfield 29, 3) := by decide +kernel
theorem dX8_room_19 : decode cX8_room 19 = .ok (.iconst 3, 1) := by decide +kernel
theorem dX8_room_20 : decode cX8_room 20 = .ok (.iaload, 1) := by decide +kernel
theorem dX8_room_21 : decode cX8_room 21 = .ok (.invokevirtual 356, 3) := by decide +kernel
theorem dX8_room_24 : decode cX8_room 24 = .ok (.iconst 0, 1) := by decide +kernel
theorem dX8_room_25 : decode cX8_room 25 = .ok (.istore_n 2, 1) := by decide +kernel
theorem dX8_room_26 : decode cX8_room 26 = .ok (.iload_n 2, 1) := by decide +kernel
theorem dX8_room_27 : decode cX8_room 27 = .ok (.aload_n 0, 1) := by decide +kernel
theorem dX8_room_28 : decode cX8_room 28 = .ok (.getfield 36, 3) := by decide +kernel
theorem dX8_room_31 : decode cX8_room 31 = .ok (.iconst 1, 1) := by decide +kernel
theorem dX8_room_32 : decode cX8_room 32 = .ok (.iaload, 1) := by decide +kernel
theorem dX8_room_33 : decode cX8_room 33 = .ok (.if_icmp .ge 17, 3) := by decide +kernel
theorem dX8_room_36 : decode cX8_room 36 = .ok (.aload_n 0, 1) := by decide +kernel
theorem dX8_room_37 : decode cX8_room 37 = .ok (.iload_n 2, 1) := by decide +kernel
theorem dX8_room_38 : decode cX8_room 38 = .ok (.bipush 7, 2) := by decide +kernel
theorem dX8_room_40 : decode cX8_room 40 = .ok (.iload_n 1, 1) := by decide +kernel
theorem dX8_room_41 : decode cX8_room 41 = .ok (.invokevirtual 221, 3) := by decide +kernel
theorem dX8_room_44 : decode cX8_room 44 = .ok (.iinc 2 1, 3) := by decide +kernel
theorem dX8_room_47 : decode cX8_room 47 = .ok (.goto (-21), 3) := by decide +kernel
theorem dX8_room_50 : decode cX8_room 50 = .ok (.aload_n 0, 1) := by decide +kernel
theorem dX8_room_51 : decode cX8_room 51 = .ok (.sipush 200, 3) := by decide +kernel
theorem dX8_room_54 : decode cX8_room 54 = .ok (.invokevirtual 350, 3) := by decide +kernel
theorem dX8_room_57 : decode cX8_room 57 = .ok (.aload_n 0, 1) := by decide +kernel
theorem dX8_room_58 : decode cX8_room 58 = .ok (.getfield 29, 3) := by decide +kernel
theorem dX8_room_61 : decode cX8_room 61 = .ok (.iconst 5, 1) := by decide +kernel
theorem dX8_room_62 : decode cX8_room 62 = .ok (.iaload, 1) := by decide +kernel
theorem dX8_room_63 : decode cX8_room 63 = .ok (.istore_n 2, 1) := by decide +kernel
theorem dX8_room_64 : decode cX8_room 64 = .ok (.aload_n 0, 1) := by decide +kernel
theorem dX8_room_65 : decode cX8_room 65 = .ok (.getfield 29, 3) := by decide +kernel
theorem dX8_room_68 : decode cX8_room 68 = .ok (.aload_n 0, 1) := by decide +kernel
theorem dX8_room_69 : decode cX8_room 69 = .ok (.getfield 64, 3) := by decide +kernel
theorem dX8_room_72 : decode cX8_room 72 = .ok (.invokestatic 204, 3) := by decide +kernel
theorem dX8_room_75 : decode cX8_room 75 = .ok (.iload_n 2, 1) := by decide +kernel
theorem dX8_room_76 : decode cX8_room 76 = .ok (.ifCond .ne 5, 3) := by decide +kernel
theorem dX8_room_79 : decode cX8_room 79 = .ok (.iload_n 1, 1) := by decide +kernel
theorem dX8_room_80 : decode cX8_room 80 = .ok (.ireturn, 1) := by decide +kernel
theorem dX8_room_81 : decode cX8_room 81 = .ok (.iinc 1 1, 3) := by decide +kernel
theorem dX8_room_84 : decode cX8_room 84 = .ok (.goto (-82), 3) := by decide +kernel
theorem dX8_room_87 : decode cX8_room 87 = .ok (.iconst (-1), 1) := by decide +kernel
theorem dX8_room_88 : decode cX8_room 88 = .ok (.ireturn, 1) := by decide +kernel
set_option maxRecDepth 20000 in
set_option maxHeartbeats 4000000 in
theorem vX8_room_0 {l : Launch} {x : CX} {a0 : Nat} {h : PH} {rc rs n0 : Nat} {Q : Option Value → PH → Prop} {X : String → PH → Prop}
    (K : Gm l x mX8_room 12 2 [(0, .ref a0), (1, .int 1)] [] h rc rs n0 Q X) :
    Gm l x mX8_room 12 0 [(0, .ref a0)] [] h rc rs n0 Q X := by
  refine g_iconst (v := 1) dX8_room_0 (by decide) ?_
  refine g_istore_n (lv' := [(0, .ref a0), (1, .int 1)]) dX8_room_1 rfl (by decide) rfl ?_
  exact K
set_option maxRecDepth 20000 in
set_option maxHeartbeats 4000000 in
theorem vX8_room_2 {l : Launch} {x : CX} {a0 : Nat} {x1 : Int32} {h : PH} {rc rs n0 : Nat} {Q : Option Value → PH → Prop} {X : String → PH → Prop}
    (K : ((6 < x1 → Q (some (.int (-1))) h) ∧ (¬ 6 < x1 → ((hK h a0).1 = 8) ∧ ∃ b3, (hR h a0 2 = some b3) ∧ ((hK h b3).1 = 100) ∧ (vp_in 2 (hK h b3).2) ∧ (vp_in 3 (hK h b3).2) ∧ ∃ (q8 : PH → Prop), CV l x mX8_anewBegins 2 0 0 [.ref a0, .int (hI h b3 (Int32.toNatClampNeg 2)), .int (hI h b3 (Int32.toNatClampNeg 3))] h q8 ∧ ∀ (h10 : PH), q8 h10 → Gm l x mX8_room 12 26 [(0, .ref a0), (1, .int x1), (2, .int 0)] [] h10 rc rs n0 Q X))) :
    Gm l x mX8_room 12 2 [(0, .ref a0), (1, .int x1)] [] h rc rs n0 Q X := by
  refine g_iload_n dX8_room_2 rfl 1 rfl ?_
  refine g_bipush (v := 6) dX8_room_3 (by decide) ?_
  refine g_icmp_gt (tgt := 87) dX8_room_5 (by decide) (fun c1 => ?_) (fun c1 => ?_)
  · replace K := K.1 c1
    refine g_iconst (v := (-1)) dX8_room_87 (by decide) ?_
    exact g_iret dX8_room_88 rfl K
  · replace K := K.2 c1
    refine g_aload_n dX8_room_8 rfl 0 rfl ?_
    refine g_aload_n dX8_room_9 rfl 0 rfl ?_
    obtain ⟨e2, b3, e4, K⟩ := K
    refine g_get (c := 8) (k := 2) (v := .ref b3) dX8_room_10 fc_8 (by decide) (by decide) bw_1200 (congrArg pr e4) e2 ?_
    refine g_iconst (v := 2) dX8_room_13 (by decide) ?_
    obtain ⟨e5, e6, K⟩ := K
    refine g_iald dX8_room_14 e5 e6 ?_
    refine g_aload_n dX8_room_15 rfl 0 rfl ?_
    refine g_get (c := 8) (k := 2) (v := .ref b3) dX8_room_16 fc_8 (by decide) (by decide) bw_1200 (congrArg pr e4) e2 ?_
    refine g_iconst (v := 3) dX8_room_19 (by decide) ?_
    obtain ⟨e7, K⟩ := K
    refine g_iald dX8_room_20 e5 e7 ?_
    obtain ⟨q8, C9, K⟩ := K
    refine g_callV (M' := mX8_anewBegins) (b := a0) (As := [.int (hI h b3 (Int32.toNatClampNeg 2)), .int (hI h b3 (Int32.toNatClampNeg 3))]) (rest := []) (rc' := rc) (rs' := rs) dX8_room_21 bw_1445 bw_1447 bs_60 bw_9 bw_1448 ⟨by decide +kernel, by decide +kernel, show (parseMethodDescriptor mX8_anewBegins.1.desc).map (fun d => d.parameters.length) = some 2 by decide +kernel⟩ (by decide) (by decide) (Nat.le_of_ble_eq_true rfl) fc_8 (by decide) rfl e2 C9 (Nat.le_of_eq (Nat.add_zero _)) (Nat.le_of_eq (Nat.add_zero _)) (fun _ _ h => h) ?_
    rintro _ h10 ⟨rfl, K1⟩ -
    replace K := K h10 K1
    show Gm l x mX8_room 12 24 [(0, .ref a0), (1, .int x1)] [] h10 rc rs n0 Q X
    refine g_iconst (v := 0) dX8_room_24 (by decide) ?_
    refine g_istore_n (lv' := [(0, .ref a0), (1, .int x1), (2, .int 0)]) dX8_room_25 rfl (by decide) rfl ?_
    exact K
set_option maxRecDepth 20000 in
set_option maxHeartbeats 4000000 in
theorem vX8_room_26 {l : Launch} {x : CX} {a0 : Nat} {x1 : Int32} {x2 : Int32} {h : PH} {rc rs n0 : Nat} {Q : Option Value → PH → Prop} {X : String → PH → Prop}
    (K : ((hK h a0).1 = 8) ∧ ∃ b2, (hR h a0 4 = some b2) ∧ ((hK h b2).1 = 100) ∧ (vp_in 1 (hK h b2).2) ∧ (((hI h b2 (Int32.toNatClampNeg 1)) ≤ x2 → ∃ (q7 : PH → Prop), CV l x mX8_ticksNow 11 0 0 [.ref a0, .int 200] h q7 ∧ ∀ (h9 : PH), q7 h9 → ((hK h9 a0).1 = 8) ∧ ∃ b11, (hR h9 a0 2 = some b11) ∧ ((hK h9 b11).1 = 100) ∧ (vp_in 5 (hK h9 b11).2) ∧ ∃ b15, (hR h9 a0 23 = some b15) ∧ ∃ (q17 : PH → Prop), CV l x mX8_copyTo 0 0 0 [.ref b11, .ref b15] h9 q17 ∧ ∀ (h19 : PH), q17 h19 → ((¬ (hI h9 b11 (Int32.toNatClampNeg 5)) = 0 → Gm l x mX8_room 12 2 [(0, .ref a0), (1, .int (x1 + 1))] [] h19 rc rs n0 Q X) ∧ ((hI h9 b11 (Int32.toNatClampNeg 5)) = 0 → Q (some (.int x1)) h19))) ∧ (¬ (hI h b2 (Int32.toNatClampNeg 1)) ≤ x2 → ∃ (q21 : PH → Prop), CV l x mX8_putCar 0 0 0 [.ref a0, .int x2, .int 7, .int x1] h q21 ∧ ∀ (h23 : PH), q21 h23 → Gm l x mX8_room 12 26 [(0, .ref a0), (1, .int x1), (2, .int (x2 + 1))] [] h23 rc rs n0 Q X))) :
    Gm l x mX8_room 12 26 [(0, .ref a0), (1, .int x1), (2, .int x2)] [] h rc rs n0 Q X := by
  refine g_iload_n dX8_room_26 rfl 2 rfl ?_
  refine g_aload_n dX8_room_27 rfl 0 rfl ?_
  obtain ⟨e1, b2, e3, K⟩ := K
  refine g_get (c := 8) (k := 4) (v := .ref b2) dX8_room_28 fc_8 (by decide) (by decide) bw_1202 (congrArg pr e3) e1 ?_
  refine g_iconst (v := 1) dX8_room_31 (by decide) ?_
  obtain ⟨e4, e5, K⟩ := K
  refine g_iald dX8_room_32 e4 e5 ?_
  refine g_icmp_ge (tgt := 50) dX8_room_33 (by decide) (fun c6 => ?_) (fun c6 => ?_)
  · replace K := K.1 c6
    refine g_aload_n dX8_room_50 rfl 0 rfl ?_
    refine g_sipush (v := 200) dX8_room_51 (by decide) ?_
    obtain ⟨q7, C8, K⟩ := K
    refine g_callV (M' := mX8_ticksNow) (b := a0) (As := [.int 200]) (rest := []) (rc' := rc) (rs' := rs) dX8_room_54 bw_1453 bw_1455 bs_62 bw_9 bw_1456 ⟨by decide +kernel, by decide +kernel, show (parseMethodDescriptor mX8_ticksNow.1.desc).map (fun d => d.parameters.length) = some 1 by decide +kernel⟩ (by decide) (by decide) (Nat.le_of_ble_eq_true rfl) fc_8 (by decide) rfl e1 C8 (Nat.le_of_eq (Nat.add_zero _)) (Nat.le_of_eq (Nat.add_zero _)) (fun _ _ h => h) ?_
    rintro _ h9 ⟨rfl, K1⟩ -
    replace K := K h9 K1
    show Gm l x mX8_room 12 57 [(0, .ref a0), (1, .int x1), (2, .int x2)] [] h9 rc rs n0 Q X
    refine g_aload_n dX8_room_57 rfl 0 rfl ?_
    obtain ⟨e10, b11, e12, K⟩ := K
    refine g_get (c := 8) (k := 2) (v := .ref b11) dX8_room_58 fc_8 (by decide) (by decide) bw_1200 (congrArg pr e12) e10 ?_
    refine g_iconst (v := 5) dX8_room_61 (by decide) ?_
    obtain ⟨e13, e14, K⟩ := K
    refine g_iald dX8_room_62 e13 e14 ?_
    refine g_istore_n (lv' := [(0, .ref a0), (1, .int x1), (2, .int (hI h9 b11 (Int32.toNatClampNeg 5)))]) dX8_room_63 rfl (by decide) rfl ?_
    refine g_aload_n dX8_room_64 rfl 0 rfl ?_
    refine g_get (c := 8) (k := 2) (v := .ref b11) dX8_room_65 fc_8 (by decide) (by decide) bw_1200 (congrArg pr e12) e10 ?_
    refine g_aload_n dX8_room_68 rfl 0 rfl ?_
    obtain ⟨b15, e16, K⟩ := K
    refine g_get (c := 8) (k := 23) (v := .ref b15) dX8_room_69 fc_8 (by decide) (by decide) bw_1221 (congrArg pr e16) e10 ?_
    obtain ⟨q17, C18, K⟩ := K
    refine g_callS (M' := mX8_copyTo) (As := [.ref b11, .ref b15]) (rest := []) (rc' := rc) (rs' := rs) dX8_room_72 bw_1398 bw_1399 bw_9 bw_1400 ⟨by decide +kernel, by decide +kernel, show (parseMethodDescriptor mX8_copyTo.1.desc).map (fun d => d.parameters.length) = some 2 by decide +kernel⟩ (by decide) (by decide) (Nat.le_of_ble_eq_true rfl) C18 (Nat.le_of_eq (Nat.add_zero _)) (Nat.le_of_eq (Nat.add_zero _)) (fun _ _ h => h) ?_
    rintro _ h19 ⟨rfl, K1⟩ -
    replace K := K h19 K1
    show Gm l x mX8_room 12 75 [(0, .ref a0), (1, .int x1), (2, .int (hI h9 b11 (Int32.toNatClampNeg 5)))] [] h19 rc rs n0 Q X
    refine g_iload_n dX8_room_75 rfl 2 rfl ?_
    refine g_if_ne (tgt := 81) dX8_room_76 (by decide) (fun c20 => ?_) (fun c20 => ?_)
    · replace K := K.1 c20
      refine g_iinc (v := (x1 + 1)) (lv' := [(0, .ref a0), (1, .int (x1 + 1)), (2, .int (hI h9 b11 (Int32.toNatClampNeg 5)))]) dX8_room_81 1 rfl (by rfl) (by decide) rfl ?_
      refine g_goto (tgt := 2) dX8_room_84 (by decide) ?_
      exact Gm.sub [0, 1] rfl K
    · replace K := K.2 c20
      refine g_iload_n dX8_room_79 rfl 1 rfl ?_
      exact g_iret dX8_room_80 rfl K
  · replace K := K.2 c6
    refine g_aload_n dX8_room_36 rfl 0 rfl ?_
    refine g_iload_n dX8_room_37 rfl 2 rfl ?_
    refine g_bipush (v := 7) dX8_room_38 (by decide) ?_
    refine g_iload_n dX8_room_40 rfl 1 rfl ?_
    obtain ⟨q21, C22, K⟩ := K
    refine g_callV (M' := mX8_putCar) (b := a0) (As := [.int x2, .int 7, .int x1]) (rest := []) (rc' := rc) (rs' := rs) dX8_room_41 bw_1190 bw_1192 bs_37 bw_9 bw_1193 ⟨by decide +kernel, by decide +kernel, show (parseMethodDescriptor mX8_putCar.1.desc).map (fun d => d.parameters.length) = some 3 by decide +kernel⟩ (by decide) (by decide) (Nat.le_of_ble_eq_true rfl) fc_8 (by decide) rfl e1 C22 (Nat.le_of_eq (Nat.add_zero _)) (Nat.le_of_eq (Nat.add_zero _)) (fun _ _ h => h) ?_
    rintro _ h23 ⟨rfl, K1⟩ -
    replace K := K h23 K1
    show Gm l x mX8_room 12 44 [(0, .ref a0), (1, .int x1), (2, .int x2)] [] h23 rc rs n0 Q X
    refine g_iinc (v := (x2 + 1)) (lv' := [(0, .ref a0), (1, .int x1), (2, .int (x2 + 1))]) dX8_room_44 2 rfl (by rfl) (by decide) rfl ?_
    refine g_goto (tgt := 26) dX8_room_47 (by decide) ?_
    exact K
theorem dX8_ticks_0 : decode cX8_ticks 0 = .ok (.aload_n 0, 1) := by decide +kernel
theorem dX8_ticks_1 : decode cX8_ticks 1 = .ok (.iconst 0, 1) := by decide +kernel
theorem dX8_ticks_2 : decode cX8_ticks 2 = .ok (.putfield 104, 3) := by decide +kernel
theorem dX8_ticks_5 : decode cX8_ticks 5 = .ok (.iload_n 1, 1) := by decide +kernel
theorem dX8_ticks_6 : decode cX8_ticks 6 = .ok (.iconst 1, 1) := by decide +kernel
theorem dX8_ticks_7 : decode cX8_ticks 7 = .ok (.bipush 60, 2) := by decide +kernel
theorem dX8_ticks_9 : decode cX8_ticks 9 = .ok (.invokestatic 390, 3) := by decide +kernel
theorem dX8_ticks_12 : decode cX8_ticks 12 = .ok (.ifCond .eq 17, 3) := by decide +kernel
theorem dX8_ticks_15 : decode cX8_ticks 15 = .ok (.aload_n 0, 1) := by decide +kernel
theorem dX8_ticks_16 : decode cX8_ticks 16 = .ok (.getfield 29, 3) := by decide +kernel
theorem dX8_ticks_19 : decode cX8_ticks 19 = .ok (.iconst 0, 1) := by decide +kernel
theorem dX8_ticks_20 : decode cX8_ticks 20 = .ok (.iaload, 1) := by decide +kernel
theorem dX8_ticks_21 : decode cX8_ticks 21 = .ok (.iload_n 1, 1) := by decide +kernel
theorem dX8_ticks_22 : decode cX8_ticks 22 = .ok (.iadd, 1) := by decide +kernel
theorem dX8_ticks_23 : decode cX8_ticks 23 = .ok (.sipush 999, 3) := by decide +kernel
theorem dX8_ticks_26 : decode cX8_ticks 26 = .ok (.if_icmp .le 9, 3) := by decide +kernel
theorem dX8_ticks_29 : decode cX8_ticks 29 = .ok (.aload_n 0, 1) := by decide +kernel
theorem dX8_ticks_30 : decode cX8_ticks 30 = .ok (.iconst 1, 1) := by decide +kernel
theorem dX8_ticks_31 : decode cX8_ticks 31 = .ok (.invokevirtual 402, 3) := by decide +kernel
theorem dX8_ticks_34 : decode cX8_ticks 34 = .ok (.ireturn, 1) := by decide +kernel
theorem dX8_ticks_35 : decode cX8_ticks 35 = .ok (.aload_n 0, 1) := by decide +kernel
theorem dX8_ticks_36 : decode cX8_ticks 36 = .ok (.invokevirtual 405, 3) := by decide +kernel
theorem dX8_ticks_39 : decode cX8_ticks 39 = .ok (.aload_n 0, 1) := by decide +kernel
theorem dX8_ticks_40 : decode cX8_ticks 40 = .ok (.iload_n 1, 1) := by decide +kernel
theorem dX8_ticks_41 : decode cX8_ticks 41 = .ok (.invokevirtual 350, 3) := by decide +kernel
theorem dX8_ticks_44 : decode cX8_ticks 44 = .ok (.aload_n 0, 1) := by decide +kernel
theorem dX8_ticks_45 : decode cX8_ticks 45 = .ok (.getfield 29, 3) := by decide +kernel
theorem dX8_ticks_48 : decode cX8_ticks 48 = .ok (.iconst 0, 1) := by decide +kernel
theorem dX8_ticks_49 : decode cX8_ticks 49 = .ok (.iaload, 1) := by decide +kernel
theorem dX8_ticks_50 : decode cX8_ticks 50 = .ok (.ireturn, 1) := by decide +kernel
set_option maxRecDepth 20000 in
set_option maxHeartbeats 4000000 in
theorem vX8_ticks_0 {l : Launch} {x : CX} {a0 : Nat} {x1 : Int32} {h : PH} {rc rs n0 : Nat} {Q : Option Value → PH → Prop} {X : String → PH → Prop}
    (K : ((hK h a0).1 = 8) ∧ ∃ (q2 : Int32 → PH → Prop), CI l x mX8_isIn 0 0 0 [.int x1, .int 1, .int 60] (sI h a0 1 0) q2 ∧ ∀ (r5 : Int32) (h4 : PH), q2 r5 h4 → ((r5 = 0 → ((hK h4 a0).1 = 8) ∧ ∃ (q7 : Int32 → PH → Prop), CI l x mX8_refuse 0 0 0 [.ref a0, .int 1] h4 q7 ∧ ∀ (r11 : Int32) (h10 : PH), q7 r11 h10 → Q (some (.int r11)) h10) ∧ (¬ r5 = 0 → ((hK h4 a0).1 = 8) ∧ ∃ b13, (hR h4 a0 2 = some b13) ∧ ((hK h4 b13).1 = 100) ∧ (vp_in 0 (hK h4 b13).2) ∧ ((((hI h4 b13 (Int32.toNatClampNeg 0)) + x1) ≤ 999 → ∃ (q18 : PH → Prop), CV l x mX8_keep 0 0 0 [.ref a0] h4 q18 ∧ ∀ (h20 : PH), q18 h20 → ((hK h20 a0).1 = 8) ∧ ∃ (q21 : PH → Prop), CV l x mX8_ticksNow 11 0 0 [.ref a0, .int x1] h20 q21 ∧ ∀ (h24 : PH), q21 h24 → ((hK h24 a0).1 = 8) ∧ ∃ b26, (hR h24 a0 2 = some b26) ∧ ((hK h24 b26).1 = 100) ∧ (vp_in 0 (hK h24 b26).2) ∧ Q (some (.int (hI h24 b26 (Int32.toNatClampNeg 0)))) h24) ∧ (¬ ((hI h4 b13 (Int32.toNatClampNeg 0)) + x1) ≤ 999 → ∃ (q30 : Int32 → PH → Prop), CI l x mX8_refuse 0 0 0 [.ref a0, .int 1] h4 q30 ∧ ∀ (r33 : Int32) (h32 : PH), q30 r33 h32 → Q (some (.int r33)) h32))))) :
    Gm l x mX8_ticks 12 0 [(0, .ref a0), (1, .int x1)] [] h rc rs n0 Q X := by
  refine g_aload_n dX8_ticks_0 rfl 0 rfl ?_
  refine g_iconst (v := 0) dX8_ticks_1 (by decide) ?_
  obtain ⟨e1, K⟩ := K
  refine g_puti (c := 8) (k := 1) dX8_ticks_2 fc_8 (by decide) (by decide) bw_1199 (Or.inl rfl) rfl e1 ?_
  refine g_iload_n dX8_ticks_5 rfl 1 rfl ?_
  refine g_iconst (v := 1) dX8_ticks_6 (by decide) ?_
  refine g_bipush (v := 60) dX8_ticks_7 (by decide) ?_
  obtain ⟨q2, C3, K⟩ := K
  refine g_callS (M' := mX8_isIn) (As := [.int x1, .int 1, .int 60]) (rest := []) (rc' := rc) (rs' := rs) dX8_ticks_9 bw_1612 bw_1613 bw_9 bw_1614 ⟨by decide +kernel, by decide +kernel, show (parseMethodDescriptor mX8_isIn.1.desc).map (fun d => d.parameters.length) = some 3 by decide +kernel⟩ (by decide) (by decide) (Nat.le_of_ble_eq_true rfl) C3 (Nat.le_of_eq (Nat.add_zero _)) (Nat.le_of_eq (Nat.add_zero _)) (fun _ _ h => h) ?_
  rintro _ h4 ⟨r5, rfl, K1⟩ -
  replace K := K r5 h4 K1
  show Gm l x mX8_ticks 12 12 [(0, .ref a0), (1, .int x1)] [.int r5] h4 rc rs n0 Q X
  refine g_if_eq (tgt := 29) dX8_ticks_12 (by decide) (fun c6 => ?_) (fun c6 => ?_)
  · replace K := K.1 c6
    refine g_aload_n dX8_ticks_29 rfl 0 rfl ?_
    refine g_iconst (v := 1) dX8_ticks_30 (by decide) ?_
    obtain ⟨e9, K⟩ := K
    obtain ⟨q7, C8, K⟩ := K
    refine g_callV (M' := mX8_refuse) (b := a0) (As := [.int 1]) (rest := []) (rc' := rc) (rs' := rs) dX8_ticks_31 bw_1639 bw_1641 bs_97 bw_9 bw_1642 ⟨by decide +kernel, by decide +kernel, show (parseMethodDescriptor mX8_refuse.1.desc).map (fun d => d.parameters.length) = some 1 by decide +kernel⟩ (by decide) (by decide) (Nat.le_of_ble_eq_true rfl) fc_8 (by decide) rfl e9 C8 (Nat.le_of_eq (Nat.add_zero _)) (Nat.le_of_eq (Nat.add_zero _)) (fun _ _ h => h) ?_
    rintro _ h10 ⟨r11, rfl, K1⟩ -
    replace K := K r11 h10 K1
    show Gm l x mX8_ticks 12 34 [(0, .ref a0), (1, .int x1)] [.int r11] h10 rc rs n0 Q X
    exact g_iret dX8_ticks_34 rfl K
  · replace K := K.2 c6
    refine g_aload_n dX8_ticks_15 rfl 0 rfl ?_
    obtain ⟨e12, b13, e14, K⟩ := K
    refine g_get (c := 8) (k := 2) (v := .ref b13) dX8_ticks_16 fc_8 (by decide) (by decide) bw_1200 (congrArg pr e14) e12 ?_
    refine g_iconst (v := 0) dX8_ticks_19 (by decide) ?_
    obtain ⟨e15, e16, K⟩ := K
    refine g_iald dX8_ticks_20 e15 e16 ?_
    refine g_iload_n dX8_ticks_21 rfl 1 rfl ?_
    refine g_iadd dX8_ticks_22 ?_
    refine g_sipush (v := 999) dX8_ticks_23 (by decide) ?_
    refine g_icmp_le (tgt := 35) dX8_ticks_26 (by decide) (fun c17 => ?_) (fun c17 => ?_)
    · replace K := K.1 c17
      refine g_aload_n dX8_ticks_35 rfl 0 rfl ?_
      obtain ⟨q18, C19, K⟩ := K
      refine g_callV (M' := mX8_keep) (b := a0) (As := []) (rest := []) (rc' := rc) (rs' := rs) dX8_ticks_36 bw_1643 bw_1645 bs_98 bw_9 bw_1646 ⟨by decide +kernel, by decide +kernel, show (parseMethodDescriptor mX8_keep.1.desc).map (fun d => d.parameters.length) = some 0 by decide +kernel⟩ (by decide) (by decide) (Nat.le_of_ble_eq_true rfl) fc_8 (by decide) rfl e12 C19 (Nat.le_of_eq (Nat.add_zero _)) (Nat.le_of_eq (Nat.add_zero _)) (fun _ _ h => h) ?_
      rintro _ h20 ⟨rfl, K1⟩ -
      replace K := K h20 K1
      show Gm l x mX8_ticks 12 39 [(0, .ref a0), (1, .int x1)] [] h20 rc rs n0 Q X
      refine g_aload_n dX8_ticks_39 rfl 0 rfl ?_
      refine g_iload_n dX8_ticks_40 rfl 1 rfl ?_
      obtain ⟨e23, K⟩ := K
      obtain ⟨q21, C22, K⟩ := K
      refine g_callV (M' := mX8_ticksNow) (b := a0) (As := [.int x1]) (rest := []) (rc' := rc) (rs' := rs) dX8_ticks_41 bw_1453 bw_1455 bs_62 bw_9 bw_1456 ⟨by decide +kernel, by decide +kernel, show (parseMethodDescriptor mX8_ticksNow.1.desc).map (fun d => d.parameters.length) = some 1 by decide +kernel⟩ (by decide) (by decide) (Nat.le_of_ble_eq_true rfl) fc_8 (by decide) rfl e23 C22 (Nat.le_of_eq (Nat.add_zero _)) (Nat.le_of_eq (Nat.add_zero _)) (fun _ _ h => h) ?_
      rintro _ h24 ⟨rfl, K1⟩ -
      replace K := K h24 K1
      show Gm l x mX8_ticks 12 44 [(0, .ref a0), (1, .int x1)] [] h24 rc rs n0 Q X
      refine g_aload_n dX8_ticks_44 rfl 0 rfl ?_
      obtain ⟨e25, b26, e27, K⟩ := K
      refine g_get (c := 8) (k := 2) (v := .ref b26) dX8_ticks_45 fc_8 (by decide) (by decide) bw_1200 (congrArg pr e27) e25 ?_
      refine g_iconst (v := 0) dX8_ticks_48 (by decide) ?_
      obtain ⟨e28, e29, K⟩ := K
      refine g_iald dX8_ticks_49 e28 e29 ?_
      exact g_iret dX8_ticks_50 rfl K
    · replace K := K.2 c17
      refine g_aload_n dX8_ticks_29 rfl 0 rfl ?_
      refine g_iconst (v := 1) dX8_ticks_30 (by decide) ?_
      obtain ⟨q30, C31, K⟩ := K
      refine g_callV (M' := mX8_refuse) (b := a0) (As := [.int 1]) (rest := []) (rc' := rc) (rs' := rs) dX8_ticks_31 bw_1639 bw_1641 bs_97 bw_9 bw_1642 ⟨by decide +kernel, by decide +kernel, show (parseMethodDescriptor mX8_refuse.1.desc).map (fun d => d.parameters.length) = some 1 by decide +kernel⟩ (by decide) (by decide) (Nat.le_of_ble_eq_true rfl) fc_8 (by decide) rfl e12 C31 (Nat.le_of_eq (Nat.add_zero _)) (Nat.le_of_eq (Nat.add_zero _)) (fun _ _ h => h) ?_
      rintro _ h32 ⟨r33, rfl, K1⟩ -
      replace K := K r33 h32 K1
      show Gm l x mX8_ticks 12 34 [(0, .ref a0), (1, .int x1)] [.int r33] h32 rc rs n0 Q X
      exact g_iret dX8_ticks_34 rfl K
theorem dX8_ahead_0 : decode cX8_ahead 0 = .ok (.aload_n 0, 1) := by decide +kernel
theorem dX8_ahead_1 : decode cX8_ahead 1 = .ok (.iconst 0, 1) := by decide +kernel
theorem dX8_ahead_2 : decode cX8_ahead 2 = .ok (.putfield 104, 3) := by decide +kernel
theorem dX8_ahead_5 : decode cX8_ahead 5 = .ok (.iload_n 2, 1) := by decide +kernel
theorem dX8_ahead_6 : decode cX8_ahead 6 = .ok (.iconst 0, 1) := by decide +kernel
theorem dX8_ahead_7 : decode cX8_ahead 7 = .ok (.iconst 3, 1) := by decide +kernel
theorem dX8_ahead_8 : decode cX8_ahead 8 = .ok (.invokestatic 390, 3) := by decide +kernel
theorem dX8_ahead_11 : decode cX8_ahead 11 = .ok (.ifCond .ne 9, 3) := by decide +kernel
theorem dX8_ahead_14 : decode cX8_ahead 14 = .ok (.aload_n 0, 1) := by decide +kernel
theorem dX8_ahead_15 : decode cX8_ahead 15 = .ok (.iconst 1, 1) := by decide +kernel
theorem dX8_ahead_16 : decode cX8_ahead 16 = .ok (.invokevirtual 198, 3) := by decide +kernel
theorem dX8_ahead_19 : decode cX8_ahead 19 = .ok (.ireturn, 1) := by decide +kernel
theorem dX8_ahead_20 : decode cX8_ahead 20 = .ok (.iload_n 1, 1) := by decide +kernel
theorem dX8_ahead_21 : decode cX8_ahead 21 = .ok (.iconst 0, 1) := by decide +kernel
theorem dX8_ahead_22 : decode cX8_ahead 22 = .ok (.bipush 120, 2) := by decide +kernel
theorem dX8_ahead_24 : decode cX8_ahead 24 = .ok (.invokestatic 390, 3) := by decide +kernel
theorem dX8_ahead_27 : decode cX8_ahead 27 = .ok (.ifCond .ne 9, 3) := by decide +kernel
theorem dX8_ahead_30 : decode cX8_ahead 30 = .ok (.aload_n 0, 1) := by decide +kernel
theorem dX8_ahead_31 : decode cX8_ahead 31 = .ok (.iconst 2, 1) := by decide +kernel
theorem dX8_ahead_32 : decode cX8_ahead 32 = .ok (.invokevirtual 198, 3) := by decide +kernel
theorem dX8_ahead_35 : decode cX8_ahead 35 = .ok (.ireturn, 1) := by decide +kernel
theorem dX8_ahead_36 : decode cX8_ahead 36 = .ok (.aload_n 0, 1) := by decide +kernel
theorem dX8_ahead_37 : decode cX8_ahead 37 = .ok (.getfield 64, 3) := by decide +kernel
theorem dX8_ahead_40 : decode cX8_ahead 40 = .ok (.aload_n 0, 1) := by decide +kernel
theorem dX8_ahead_41 : decode cX8_ahead 41 = .ok (.getfield 29, 3) := by decide +kernel
theorem dX8_ahead_44 : decode cX8_ahead 44 = .ok (.invokestatic 204, 3) := by decide +kernel
theorem dX8_ahead_47 : decode cX8_ahead 47 = .ok (.aload_n 0, 1) := by decide +kernel
theorem dX8_ahead_48 : decode cX8_ahead 48 = .ok (.iload_n 1, 1) := by decide +kernel
theorem dX8_ahead_49 : decode cX8_ahead 49 = .ok (.invokevirtual 350, 3) := by decide +kernel
theorem dX8_ahead_52 : decode cX8_ahead 52 = .ok (.iconst 0, 1) := by decide +kernel
theorem dX8_ahead_53 : decode cX8_ahead 53 = .ok (.istore_n 3, 1) := by decide +kernel
theorem dX8_ahead_54 : decode cX8_ahead 54 = .ok (.iconst 0, 1) := by decide +kernel
theorem dX8_ahead_55 : decode cX8_ahead 55 = .ok (.istore 4, 2) := by decide +kernel
theorem dX8_ahead_57 : decode cX8_ahead 57 = .ok (.iload 4, 2) := by decide +kernel
theorem dX8_ahead_59 : decode cX8_ahead 59 = .ok (.aload_n 0, 1) := by decide +kernel
theorem dX8_ahead_60 : decode cX8_ahead 60 = .ok (.getfield 36, 3) := by decide +kernel
theorem dX8_ahead_63 : decode cX8_ahead 63 = .ok (.iconst 1, 1) := by decide +kernel
theorem dX8_ahead_64 : decode cX8_ahead 64 = .ok (.iaload, 1) := by decide +kernel
theorem dX8_ahead_65 : decode cX8_ahead 65 = .ok (.if_icmp .ge 27, 3) := by decide +kernel
theorem dX8_ahead_68 : decode cX8_ahead 68 = .ok (.iload_n 3, 1) := by decide +kernel
theorem dX8_ahead_69 : decode cX8_ahead 69 = .ok (.aload_n 0, 1) := by decide +kernel
theorem dX8_ahead_70 : decode cX8_ahead 70 = .ok (.iload 4, 2) := by decide +kernel
theorem dX8_ahead_72 : decode cX8_ahead 72 = .ok (.iconst 2, 1) := by decide +kernel
theorem dX8_ahead_73 : decode cX8_ahead 73 = .ok (.invokevirtual 238, 3) := by decide +kernel
theorem dX8_ahead_76 : decode cX8_ahead 76 = .ok (.ifCond .le 7, 3) := by decide +kernel
theorem dX8_ahead_79 : decode cX8_ahead 79 = .ok (.iconst 1, 1) := by decide +kernel
theorem dX8_ahead_80 : decode cX8_ahead 80 = .ok (.goto 4, 3) := by decide +kernel
theorem dX8_ahead_83 : decode cX8_ahead 83 = .ok (.iconst 0, 1) := by decide +kernel
theorem dX8_ahead_84 : decode cX8_ahead 84 = .ok (.iadd, 1) := by decide +kernel
theorem dX8_ahead_85 : decode cX8_ahead 85 = .ok (.istore_n 3, 1) := by decide +kernel
theorem dX8_ahead_86 : decode cX8_ahead 86 = .ok (.iinc 4 1, 3) := by decide +kernel
theorem dX8_ahead_89 : decode cX8_ahead 89 = .ok (.goto (-32), 3) := by decide +kernel
theorem dX8_ahead_92 : decode cX8_ahead 92 = .ok (.iload_n 2, 1) := by decide +kernel
theorem dX8_ahead_93 : decode cX8_ahead 93 = .ok (.ifCond .ne 11, 3) := by decide +kernel
theorem dX8_ahead_96 : decode cX8_ahead 96 = .ok (.aload_n 0, 1) := by decide +kernel
theorem dX8_ahead_97 : decode cX8_ahead 97 = .ok (.iconst 3, 1) := by decide +kernel
theorem dX8_ahead_98 : decode cX8_ahead 98 = .ok (.invokevirtual 344, 3) := by decide +kernel
theorem dX8_ahead_101 : decode cX8_ahead 101 = .ok (.goto 30, 3) := by decide +kernel
theorem dX8_ahead_104 : decode cX8_ahead 104 = .ok (.iload_n 2, 1) := by decide +kernel
theorem dX8_ahead_105 : decode cX8_ahead 105 = .ok (.iconst 1, 1) := by decide +kernel
theorem dX8_ahead_106 : decode cX8_ahead 106 = .ok (.if_icmp .ne 12, 3) := by decide +kernel
theorem dX8_ahead_109 : decode cX8_ahead 109 = .ok (.aload_n 0, 1) := by decide +kernel
theorem dX8_ahead_110 : decode cX8_ahead 110 = .ok (.getfield 29, 3) := by decide +kernel
theorem dX8_ahead_113 : decode cX8_ahead 113 = .ok (.iconst 5, 1) := by decide +kernel
theorem dX8_ahead_114 : decode cX8_ahead 114 = .ok (.iaload, 1) := by decide +kernel
theorem dX8_ahead_115 : decode cX8_ahead 115 = .ok (.goto 16, 3) := by decide +kernel
theorem dX8_ahead_118 : decode cX8_ahead 118 = .ok (.iload_n 2, 1) := by decide +kernel
theorem dX8_ahead_119 : decode cX8_ahead 119 = .ok (.iconst 2, 1) := by decide +kernel
theorem dX8_ahead_120 : decode cX8_ahead 120 = .ok (.if_icmp .ne 10, 3) := by decide +kernel
theorem dX8_ahead_123 : decode cX8_ahead 123 = .ok (.aload_n 0, 1) := by decide +kernel
theorem dX8_ahead_124 : decode cX8_ahead 124 = .ok (.invokevirtual 353, 3) := by decide +kernel
theorem dX8_ahead_127 : decode cX8_ahead 127 = .ok (.goto 4, 3) := by decide +kernel
theorem dX8_ahead_130 : decode cX8_ahead 130 = .ok (.iload_n 3, 1) := by decide +kernel
theorem dX8_ahead_131 : decode cX8_ahead 131 = .ok (.istore 4, 2) := by decide +kernel
theorem dX8_ahead_133 : decode cX8_ahead 133 = .ok (.aload_n 0, 1) := by decide +kernel
theorem dX8_ahead_134 : decode cX8_ahead 134 = .ok (.getfield 29, 3) := by decide +kernel
theorem dX8_ahead_137 : decode cX8_ahead 137 = .ok (.aload_n 0, 1) := by decide +kernel
theorem dX8_ahead_138 : decode cX8_ahead 138 = .ok (.getfield 64, 3) := by decide +kernel
theorem dX8_ahead_141 : decode cX8_ahead 141 = .ok (.invokestatic 204, 3) := by decide +kernel
theorem dX8_ahead_144 : decode cX8_ahead 144 = .ok (.iload 4, 2) := by decide +kernel
theorem dX8_ahead_146 : decode cX8_ahead 146 = .ok (.ireturn, 1) := by decide +kernel
set_option maxRecDepth 20000 in
set_option maxHeartbeats 4000000 in
theorem vX8_ahead_0 {l : Launch} {x : CX} {a0 : Nat} {x1 : Int32} {x2 : Int32} {h : PH} {rc rs n0 : Nat} {Q : Option Value → PH → Prop} {X : String → PH → Prop}
    (K : ((hK h a0).1 = 8) ∧ ∃ (q2 : Int32 → PH → Prop), CI l x mX8_isIn 0 0 0 [.int x2, .int 0, .int 3] (sI h a0 1 0) q2 ∧ ∀ (r5 : Int32) (h4 : PH), q2 r5 h4 → ((¬ r5 = 0 → ∃ (q7 : Int32 → PH → Prop), CI l x mX8_isIn 0 0 0 [.int x1, .int 0, .int 120] h4 q7 ∧ ∀ (r10 : Int32) (h9 : PH), q7 r10 h9 → ((¬ r10 = 0 → ((hK h9 a0).1 = 8) ∧ ∃ b13, (hR h9 a0 23 = some b13) ∧ ∃ b15, (hR h9 a0 2 = some b15) ∧ ∃ (q17 : PH → Prop), CV l x mX8_copyTo 0 0 0 [.ref b13, .ref b15] h9 q17 ∧ ∀ (h19 : PH), q17 h19 → ((hK h19 a0).1 = 8) ∧ ∃ (q20 : PH → Prop), CV l x mX8_ticksNow 11 0 0 [.ref a0, .int x1] h19 q20 ∧ ∀ (h23 : PH), q20 h23 → Gm l x mX8_ahead 12 57 [(0, .ref a0), (1, .int x1), (2, .int x2), (3, .int 0), (4, .int 0)] [] h23 rc rs n0 Q X) ∧ (r10 = 0 → ((hK h9 a0).1 = 8) ∧ ∃ (q24 : Int32 → PH → Prop), CI l x mX8_fail 0 0 0 [.ref a0, .int 2] h9 q24 ∧ ∀ (r28 : Int32) (h27 : PH), q24 r28 h27 → Q (some (.int r28)) h27))) ∧ (r5 = 0 → ((hK h4 a0).1 = 8) ∧ ∃ (q29 : Int32 → PH → Prop), CI l x mX8_fail 0 0 0 [.ref a0, .int 1] h4 q29 ∧ ∀ (r33 : Int32) (h32 : PH), q29 r33 h32 → Q (some (.int r33)) h32))) :
    Gm l x mX8_ahead 12 0 [(0, .ref a0), (1, .int x1), (2, .int x2)] [] h rc rs n0 Q X := by
  refine g_aload_n dX8_ahead_0 rfl 0 rfl ?_
  refine g_iconst (v := 0) dX8_ahead_1 (by decide) ?_
  obtain ⟨e1, K⟩ := K
  refine g_puti (c := 8) (k := 1) dX8_ahead_2 fc_8 (by decide) (by decide) bw_1199 (Or.inl rfl) rfl e1 ?_
  refine g_iload_n dX8_ahead_5 rfl 2 rfl ?_
  refine g_iconst (v := 0) dX8_ahead_6 (by decide) ?_
  refine g_iconst (v := 3) dX8_ahead_7 (by decide) ?_
  obtain ⟨q2, C3, K⟩ := K
  refine g_callS (M' := mX8_isIn) (As := [.int x2, .int 0, .int 3]) (rest := []) (rc' := rc) (rs' := rs) dX8_ahead_8 bw_1612 bw_1613 bw_9 bw_1614 ⟨by decide +kernel, by decide +kernel, show (parseMethodDescriptor mX8_isIn.1.desc).map (fun d => d.parameters.length) = some 3 by decide +kernel⟩ (by decide) (by decide) (Nat.le_of_ble_eq_true rfl) C3 (Nat.le_of_eq (Nat.add_zero _)) (Nat.le_of_eq (Nat.add_zero _)) (fun _ _ h => h) ?_
  rintro _ h4 ⟨r5, rfl, K1⟩ -
  replace K := K r5 h4 K1
  show Gm l x mX8_ahead 12 11 [(0, .ref a0), (1, .int x1), (2, .int x2)] [.int r5] h4 rc rs n0 Q X
  refine g_if_ne (tgt := 20) dX8_ahead_11 (by decide) (fun c6 => ?_) (fun c6 => ?_)
  · replace K := K.1 c6
    refine g_iload_n dX8_ahead_20 rfl 1 rfl ?_
    refine g_iconst (v := 0) dX8_ahead_21 (by decide) ?_
    refine g_bipush (v := 120) dX8_ahead_22 (by decide) ?_
    obtain ⟨q7, C8, K⟩ := K
    refine g_callS (M' := mX8_isIn) (As := [.int x1, .int 0, .int 120]) (rest := []) (rc' := rc) (rs' := rs) dX8_ahead_24 bw_1612 bw_1613 bw_9 bw_1614 ⟨by decide +kernel, by decide +kernel, show (parseMethodDescriptor mX8_isIn.1.desc).map (fun d => d.parameters.length) = some 3 by decide +kernel⟩ (by decide) (by decide) (Nat.le_of_ble_eq_true rfl) C8 (Nat.le_of_eq (Nat.add_zero _)) (Nat.le_of_eq (Nat.add_zero _)) (fun _ _ h => h) ?_
    rintro _ h9 ⟨r10, rfl, K1⟩ -
    replace K := K r10 h9 K1
    show Gm l x mX8_ahead 12 27 [(0, .ref a0), (1, .int x1), (2, .int x2)] [.int r10] h9 rc rs n0 Q X
    refine g_if_ne (tgt := 36) dX8_ahead_27 (by decide) (fun c11 => ?_) (fun c11 => ?_)
    · replace K := K.1 c11
      refine g_aload_n dX8_ahead_36 rfl 0 rfl ?_
      obtain ⟨e12, b13, e14, K⟩ := K
      refine g_get (c := 8) (k := 23) (v := .ref b13) dX8_ahead_37 fc_8 (by decide) (by decide) bw_1221 (congrArg pr e14) e12 ?_
      refine g_aload_n dX8_ahead_40 rfl 0 rfl ?_
      obtain ⟨b15, e16, K⟩ := K
      refine g_get (c := 8) (k := 2) (v := .ref b15) dX8_ahead_41 fc_8 (by decide) (by decide) bw_1200 (congrArg pr e16) e12 ?_
      obtain ⟨q17, C18, K⟩ := K
      refine g_callS (M' := mX8_copyTo) (As := [.ref b13, .ref b15]) (rest := []) (rc' := rc) (rs' := rs) dX8_ahead_44 bw_1398 bw_1399 bw_9 bw_1400 ⟨by decide +kernel, by decide +kernel, show (parseMethodDescriptor mX8_copyTo.1.desc).map (fun d => d.parameters.length) = some 2 by decide +kernel⟩ (by decide) (by decide) (Nat.le_of_ble_eq_true rfl) C18 (Nat.le_of_eq (Nat.add_zero _)) (Nat.le_of_eq (Nat.add_zero _)) (fun _ _ h => h) ?_
      rintro _ h19 ⟨rfl, K1⟩ -
      replace K := K h19 K1
      show Gm l x mX8_ahead 12 47 [(0, .ref a0), (1, .int x1), (2, .int x2)] [] h19 rc rs n0 Q X
      refine g_aload_n dX8_ahead_47 rfl 0 rfl ?_
      refine g_iload_n dX8_ahead_48 rfl 1 rfl ?_
      obtain ⟨e22, K⟩ := K
      obtain ⟨q20, C21, K⟩ := K
      refine g_callV (M' := mX8_ticksNow) (b := a0) (As := [.int x1]) (rest := []) (rc' := rc) (rs' := rs) dX8_ahead_49 bw_1453 bw_1455 bs_62 bw_9 bw_1456 ⟨by decide +kernel, by decide +kernel, show (parseMethodDescriptor mX8_ticksNow.1.desc).map (fun d => d.parameters.length) = some 1 by decide +kernel⟩ (by decide) (by decide) (Nat.le_of_ble_eq_true rfl) fc_8 (by decide) rfl e22 C21 (Nat.le_of_eq (Nat.add_zero _)) (Nat.le_of_eq (Nat.add_zero _)) (fun _ _ h => h) ?_
      rintro _ h23 ⟨rfl, K1⟩ -
      replace K := K h23 K1
      show Gm l x mX8_ahead 12 52 [(0, .ref a0), (1, .int x1), (2, .int x2)] [] h23 rc rs n0 Q X
      refine g_iconst (v := 0) dX8_ahead_52 (by decide) ?_
      refine g_istore_n (lv' := [(0, .ref a0), (1, .int x1), (2, .int x2), (3, .int 0)]) dX8_ahead_53 rfl (by decide) rfl ?_
      refine g_iconst (v := 0) dX8_ahead_54 (by decide) ?_
      refine g_istore (lv' := [(0, .ref a0), (1, .int x1), (2, .int x2), (3, .int 0), (4, .int 0)]) dX8_ahead_55 (by decide) rfl ?_
      exact K
    · replace K := K.2 c11
      refine g_aload_n dX8_ahead_30 rfl 0 rfl ?_
      refine g_iconst (v := 2) dX8_ahead_31 (by decide) ?_
      obtain ⟨e26, K⟩ := K
      obtain ⟨q24, C25, K⟩ := K
      refine g_callV (M' := mX8_fail) (b := a0) (As := [.int 2]) (rest := []) (rc' := rc) (rs' := rs) dX8_ahead_32 bw_1337 bw_1339 bs_39 bw_9 bw_1340 ⟨by decide +kernel, by decide +kernel, show (parseMethodDescriptor mX8_fail.1.desc).map (fun d => d.parameters.length) = some 1 by decide +kernel⟩ (by decide) (by decide) (Nat.le_of_ble_eq_true rfl) fc_8 (by decide) rfl e26 C25 (Nat.le_of_eq (Nat.add_zero _)) (Nat.le_of_eq (Nat.add_zero _)) (fun _ _ h => h) ?_
      rintro _ h27 ⟨r28, rfl, K1⟩ -
      replace K := K r28 h27 K1
      show Gm l x mX8_ahead 12 35 [(0, .ref a0), (1, .int x1), (2, .int x2)] [.int r28] h27 rc rs n0 Q X
      exact g_iret dX8_ahead_35 rfl K
  · replace K := K.2 c6
    refine g_aload_n dX8_ahead_14 rfl 0 rfl ?_
    refine g_iconst (v := 1) dX8_ahead_15 (by decide) ?_
    obtain ⟨e31, K⟩ := K
    obtain ⟨q29, C30, K⟩ := K
    refine g_callV (M' := mX8_fail) (b := a0) (As := [.int 1]) (rest := []) (rc' := rc) (rs' := rs) dX8_ahead_16 bw_1337 bw_1339 bs_39 bw_9 bw_1340 ⟨by decide +kernel, by decide +kernel, show (parseMethodDescriptor mX8_fail.1.desc).map (fun d => d.parameters.length) = some 1 by decide +kernel⟩ (by decide) (by decide) (Nat.le_of_ble_eq_true rfl) fc_8 (by decide) rfl e31 C30 (Nat.le_of_eq (Nat.add_zero _)) (Nat.le_of_eq (Nat.add_zero _)) (fun _ _ h => h) ?_
    rintro _ h32 ⟨r33, rfl, K1⟩ -
    replace K := K r33 h32 K1
    show Gm l x mX8_ahead 12 19 [(0, .ref a0), (1, .int x1), (2, .int x2)] [.int r33] h32 rc rs n0 Q X
    exact g_iret dX8_ahead_19 rfl K
set_option maxRecDepth 20000 in
set_option maxHeartbeats 4000000 in
theorem vX8_ahead_57 {l : Launch} {x : CX} {a0 : Nat} {x1 : Int32} {x2 : Int32} {x3 : Int32} {x4 : Int32} {h : PH} {rc rs n0 : Nat} {Q : Option Value → PH → Prop} {X : String → PH → Prop}
    (K : ((hK h a0).1 = 8) ∧ ∃ b2, (hR h a0 4 = some b2) ∧ ((hK h b2).1 = 100) ∧ (vp_in 1 (hK h b2).2) ∧ (((hI h b2 (Int32.toNatClampNeg 1)) ≤ x4 → ((¬ x2 = 0 → ((¬ x2 = 1 → ((¬ x2 = 2 → ∃ b10, (hR h a0 2 = some b10) ∧ ∃ b12, (hR h a0 23 = some b12) ∧ ∃ (q14 : PH → Prop), CV l x mX8_copyTo 0 0 0 [.ref b10, .ref b12] h q14 ∧ ∀ (h16 : PH), q14 h16 → Q (some (.int x3)) h16) ∧ (x2 = 2 → ∃ (q17 : Int32 → PH → Prop), CI l x mX8_waited 1 0 0 [.ref a0] h q17 ∧ ∀ (r20 : Int32) (h19 : PH), q17 r20 h19 → ((hK h19 a0).1 = 8) ∧ ∃ b22, (hR h19 a0 2 = some b22) ∧ ∃ b24, (hR h19 a0 23 = some b24) ∧ ∃ (q26 : PH → Prop), CV l x mX8_copyTo 0 0 0 [.ref b22, .ref b24] h19 q26 ∧ ∀ (h28 : PH), q26 h28 → Q (some (.int r20)) h28))) ∧ (x2 = 1 → ∃ b29, (hR h a0 2 = some b29) ∧ ((hK h b29).1 = 100) ∧ (vp_in 5 (hK h b29).2) ∧ ∃ b33, (hR h a0 23 = some b33) ∧ ∃ (q35 : PH → Prop), CV l x mX8_copyTo 0 0 0 [.ref b29, .ref b33] h q35 ∧ ∀ (h37 : PH), q35 h37 → Q (some (.int (hI h b29 (Int32.toNatClampNeg 5)))) h37))) ∧ (x2 = 0 → ∃ (q38 : Int32 → PH → Prop), CI l x mX8_many 1 0 0 [.ref a0, .int 3] h q38 ∧ ∀ (r41 : Int32) (h40 : PH), q38 r41 h40 → ((hK h40 a0).1 = 8) ∧ ∃ b43, (hR h40 a0 2 = some b43) ∧ ∃ b45, (hR h40 a0 23 = some b45) ∧ ∃ (q47 : PH → Prop), CV l x mX8_copyTo 0 0 0 [.ref b43, .ref b45] h40 q47 ∧ ∀ (h49 : PH), q47 h49 → Q (some (.int r41)) h49))) ∧ (¬ (hI h b2 (Int32.toNatClampNeg 1)) ≤ x4 → ∃ (q50 : Int32 → PH → Prop), CI l x mX8_carOf 0 0 0 [.ref a0, .int x4, .int 2] h q50 ∧ ∀ (r53 : Int32) (h52 : PH), q50 r53 h52 → Gm l x mX8_ahead 12 57 [(0, .ref a0), (1, .int x1), (2, .int x2), (3, .int (x3 + (if r53 ≤ 0 then 0 else 1 : Int32))), (4, .int (x4 + 1))] [] h52 rc rs n0 Q X))) :
    Gm l x mX8_ahead 12 57 [(0, .ref a0), (1, .int x1), (2, .int x2), (3, .int x3), (4, .int x4)] [] h rc rs n0 Q X := by
  refine g_iload dX8_ahead_57 4 rfl ?_
  refine g_aload_n dX8_ahead_59 rfl 0 rfl ?_
  obtain ⟨e1, b2, e3, K⟩ := K
  refine g_get (c := 8) (k := 4) (v := .ref b2) dX8_ahead_60 fc_8 (by decide) (by decide) bw_1202 (congrArg pr e3) e1 ?_
  refine g_iconst (v := 1) dX8_ahead_63 (by decide) ?_
  obtain ⟨e4, e5, K⟩ := K
  refine g_iald dX8_ahead_64 e4 e5 ?_
  refine g_icmp_ge (tgt := 92) dX8_ahead_65 (by decide) (fun c6 => ?_) (fun c6 => ?_)
  · replace K := K.1 c6
    refine g_iload_n dX8_ahead_92 rfl 2 rfl ?_
    refine g_if_ne (tgt := 104) dX8_ahead_93 (by decide) (fun c7 => ?_) (fun c7 => ?_)
    · replace K := K.1 c7
      refine g_iload_n dX8_ahead_104 rfl 2 rfl ?_
      refine g_iconst (v := 1) dX8_ahead_105 (by decide) ?_
      refine g_icmp_ne (tgt := 118) dX8_ahead_106 (by decide) (fun c8 => ?_) (fun c8 => ?_)
      · replace K := K.1 c8
        refine g_iload_n dX8_ahead_118 rfl 2 rfl ?_
        refine g_iconst (v := 2) dX8_ahead_119 (by decide) ?_
        refine g_icmp_ne (tgt := 130) dX8_ahead_120 (by decide) (fun c9 => ?_) (fun c9 => ?_)
        · replace K := K.1 c9
          refine g_iload_n dX8_ahead_130 rfl 3 rfl ?_
          refine g_istore (lv' := [(0, .ref a0), (1, .int x1), (2, .int x2), (3, .int x3), (4, .int x3)]) dX8_ahead_131 (by decide) rfl ?_
          refine g_aload_n dX8_ahead_133 rfl 0 rfl ?_
          obtain ⟨b10, e11, K⟩ := K
          refine g_get (c := 8) (k := 2) (v := .ref b10) dX8_ahead_134 fc_8 (by decide) (by decide) bw_1200 (congrArg pr e11) e1 ?_
          refine g_aload_n dX8_ahead_137 rfl 0 rfl ?_
          obtain ⟨b12, e13, K⟩ := K
          refine g_get (c := 8) (k := 23) (v := .ref b12) dX8_ahead_138 fc_8 (by decide) (by decide) bw_1221 (congrArg pr e13) e1 ?_
          obtain ⟨q14, C15, K⟩ := K
          refine g_callS (M' := mX8_copyTo) (As := [.ref b10, .ref b12]) (rest := []) (rc' := rc) (rs' := rs) dX8_ahead_141 bw_1398 bw_1399 bw_9 bw_1400 ⟨by decide +kernel, by decide +kernel, show (parseMethodDescriptor mX8_copyTo.1.desc).map (fun d => d.parameters.length) = some 2 by decide +kernel⟩ (by decide) (by decide) (Nat.le_of_ble_eq_true rfl) C15 (Nat.le_of_eq (Nat.add_zero _)) (Nat.le_of_eq (Nat.add_zero _)) (fun _ _ h => h) ?_
          rintro _ h16 ⟨rfl, K1⟩ -
          replace K := K h16 K1
          show Gm l x mX8_ahead 12 144 [(0, .ref a0), (1, .int x1), (2, .int x2), (3, .int x3), (4, .int x3)] [] h16 rc rs n0 Q X
          refine g_iload dX8_ahead_144 4 rfl ?_
          exact g_iret dX8_ahead_146 rfl K
        · replace K := K.2 c9
          refine g_aload_n dX8_ahead_123 rfl 0 rfl ?_
          obtain ⟨q17, C18, K⟩ := K
          refine g_callV (M' := mX8_waited) (b := a0) (As := []) (rest := []) (rc' := rc) (rs' := rs) dX8_ahead_124 bw_1429 bw_1431 bs_56 bw_9 bw_1432 ⟨by decide +kernel, by decide +kernel, show (parseMethodDescriptor mX8_waited.1.desc).map (fun d => d.parameters.length) = some 0 by decide +kernel⟩ (by decide) (by decide) (Nat.le_of_ble_eq_true rfl) fc_8 (by decide) rfl e1 C18 (Nat.le_of_eq (Nat.add_zero _)) (Nat.le_of_eq (Nat.add_zero _)) (fun _ _ h => h) ?_
          rintro _ h19 ⟨r20, rfl, K1⟩ -
          replace K := K r20 h19 K1
          show Gm l x mX8_ahead 12 127 [(0, .ref a0), (1, .int x1), (2, .int x2), (3, .int x3), (4, .int x4)] [.int r20] h19 rc rs n0 Q X
          refine g_goto (tgt := 131) dX8_ahead_127 (by decide) ?_
          refine g_istore (lv' := [(0, .ref a0), (1, .int x1), (2, .int x2), (3, .int x3), (4, .int r20)]) dX8_ahead_131 (by decide) rfl ?_
          refine g_aload_n dX8_ahead_133 rfl 0 rfl ?_
          obtain ⟨e21, b22, e23, K⟩ := K
          refine g_get (c := 8) (k := 2) (v := .ref b22) dX8_ahead_134 fc_8 (by decide) (by decide) bw_1200 (congrArg pr e23) e21 ?_
          refine g_aload_n dX8_ahead_137 rfl 0 rfl ?_
          obtain ⟨b24, e25, K⟩ := K
          refine g_get (c := 8) (k := 23) (v := .ref b24) dX8_ahead_138 fc_8 (by decide) (by decide) bw_1221 (congrArg pr e25) e21 ?_
          obtain ⟨q26, C27, K⟩ := K
          refine g_callS (M' := mX8_copyTo) (As := [.ref b22, .ref b24]) (rest := []) (rc' := rc) (rs' := rs) dX8_ahead_141 bw_1398 bw_1399 bw_9 bw_1400 ⟨by decide +kernel, by decide +kernel, show (parseMethodDescriptor mX8_copyTo.1.desc).map (fun d => d.parameters.length) = some 2 by decide +kernel⟩ (by decide) (by decide) (Nat.le_of_ble_eq_true rfl) C27 (Nat.le_of_eq (Nat.add_zero _)) (Nat.le_of_eq (Nat.add_zero _)) (fun _ _ h => h) ?_
          rintro _ h28 ⟨rfl, K1⟩ -
          replace K := K h28 K1
          show Gm l x mX8_ahead 12 144 [(0, .ref a0), (1, .int x1), (2, .int x2), (3, .int x3), (4, .int r20)] [] h28 rc rs n0 Q X
          refine g_iload dX8_ahead_144 4 rfl ?_
          exact g_iret dX8_ahead_146 rfl K
      · replace K := K.2 c8
        refine g_aload_n dX8_ahead_109 rfl 0 rfl ?_
        obtain ⟨b29, e30, K⟩ := K
        refine g_get (c := 8) (k := 2) (v := .ref b29) dX8_ahead_110 fc_8 (by decide) (by decide) bw_1200 (congrArg pr e30) e1 ?_
        refine g_iconst (v := 5) dX8_ahead_113 (by decide) ?_
        obtain ⟨e31, e32, K⟩ := K
        refine g_iald dX8_ahead_114 e31 e32 ?_
        refine g_goto (tgt := 131) dX8_ahead_115 (by decide) ?_
        refine g_istore (lv' := [(0, .ref a0), (1, .int x1), (2, .int x2), (3, .int x3), (4, .int (hI h b29 (Int32.toNatClampNeg 5)))]) dX8_ahead_131 (by decide) rfl ?_
        refine g_aload_n dX8_ahead_133 rfl 0 rfl ?_
        refine g_get (c := 8) (k := 2) (v := .ref b29) dX8_ahead_134 fc_8 (by decide) (by decide) bw_1200 (congrArg pr e30) e1 ?_
        refine g_aload_n dX8_ahead_137 rfl 0 rfl ?_
        obtain ⟨b33, e34, K⟩ := K
        refine g_get (c := 8) (k := 23) (v := .ref b33) dX8_ahead_138 fc_8 (by decide) (by decide) bw_1221 (congrArg pr e34) e1 ?_
        obtain ⟨q35, C36, K⟩ := K
        refine g_callS (M' := mX8_copyTo) (As := [.ref b29, .ref b33]) (rest := []) (rc' := rc) (rs' := rs) dX8_ahead_141 bw_1398 bw_1399 bw_9 bw_1400 ⟨by decide +kernel, by decide +kernel, show (parseMethodDescriptor mX8_copyTo.1.desc).map (fun d => d.parameters.length) = some 2 by decide +kernel⟩ (by decide) (by decide) (Nat.le_of_ble_eq_true rfl) C36 (Nat.le_of_eq (Nat.add_zero _)) (Nat.le_of_eq (Nat.add_zero _)) (fun _ _ h => h) ?_
        rintro _ h37 ⟨rfl, K1⟩ -
        replace K := K h37 K1
        show Gm l x mX8_ahead 12 144 [(0, .ref a0), (1, .int x1), (2, .int x2), (3, .int x3), (4, .int (hI h b29 (Int32.toNatClampNeg 5)))] [] h37 rc rs n0 Q X
        refine g_iload dX8_ahead_144 4 rfl ?_
        exact g_iret dX8_ahead_146 rfl K
    · replace K := K.2 c7
      refine g_aload_n dX8_ahead_96 rfl 0 rfl ?_
      refine g_iconst (v := 3) dX8_ahead_97 (by decide) ?_
      obtain ⟨q38, C39, K⟩ := K
      refine g_callV (M' := mX8_many) (b := a0) (As := [.int 3]) (rest := []) (rc' := rc) (rs' := rs) dX8_ahead_98 bw_1409 bw_1411 bs_51 bw_9 bw_1412 ⟨by decide +kernel, by decide +kernel, show (parseMethodDescriptor mX8_many.1.desc).map (fun d => d.parameters.length) = some 1 by decide +kernel⟩ (by decide) (by decide) (Nat.le_of_ble_eq_true rfl) fc_8 (by decide) rfl e1 C39 (Nat.le_of_eq (Nat.add_zero _)) (Nat.le_of_eq (Nat.add_zero _)) (fun _ _ h => h) ?_
      rintro _ h40 ⟨r41, rfl, K1⟩ -
      replace K := K r41 h40 K1
      show Gm l x mX8_ahead 12 101 [(0, .ref a0), (1, .int x1), (2, .int x2), (3, .int x3), (4, .int x4)] [.int r41] h40 rc rs n0 Q X
      refine g_goto (tgt := 131) dX8_ahead_101 (by decide) ?_
      refine g_istore (lv' := [(0, .ref a0), (1, .int x1), (2, .int x2), (3, .int x3), (4, .int r41)]) dX8_ahead_131 (by decide) rfl ?_
      refine g_aload_n dX8_ahead_133 rfl 0 rfl ?_
      obtain ⟨e42, b43, e44, K⟩ := K
      refine g_get (c := 8) (k := 2) (v := .ref b43) dX8_ahead_134 fc_8 (by decide) (by decide) bw_1200 (congrArg pr e44) e42 ?_
      refine g_aload_n dX8_ahead_137 rfl 0 rfl ?_
      obtain ⟨b45, e46, K⟩ := K
      refine g_get (c := 8) (k := 23) (v := .ref b45) dX8_ahead_138 fc_8 (by decide) (by decide) bw_1221 (congrArg pr e46) e42 ?_
      obtain ⟨q47, C48, K⟩ := K
      refine g_callS (M' := mX8_copyTo) (As := [.ref b43, .ref b45]) (rest := []) (rc' := rc) (rs' := rs) dX8_ahead_141 bw_1398 bw_1399 bw_9 bw_1400 ⟨by decide +kernel, by decide +kernel, show (parseMethodDescriptor mX8_copyTo.1.desc).map (fun d => d.parameters.length) = some 2 by decide +kernel⟩ (by decide) (by decide) (Nat.le_of_ble_eq_true rfl) C48 (Nat.le_of_eq (Nat.add_zero _)) (Nat.le_of_eq (Nat.add_zero _)) (fun _ _ h => h) ?_
      rintro _ h49 ⟨rfl, K1⟩ -
      replace K := K h49 K1
      show Gm l x mX8_ahead 12 144 [(0, .ref a0), (1, .int x1), (2, .int x2), (3, .int x3), (4, .int r41)] [] h49 rc rs n0 Q X
      refine g_iload dX8_ahead_144 4 rfl ?_
      exact g_iret dX8_ahead_146 rfl K
  · replace K := K.2 c6
    refine g_iload_n dX8_ahead_68 rfl 3 rfl ?_
    refine g_aload_n dX8_ahead_69 rfl 0 rfl ?_
    refine g_iload dX8_ahead_70 4 rfl ?_
    refine g_iconst (v := 2) dX8_ahead_72 (by decide) ?_
    obtain ⟨q50, C51, K⟩ := K
    refine g_callV (M' := mX8_carOf) (b := a0) (As := [.int x4, .int 2]) (rest := [.int x3]) (rc' := rc) (rs' := rs) dX8_ahead_73 bw_1476 bw_1478 bs_67 bw_9 bw_1479 ⟨by decide +kernel, by decide +kernel, show (parseMethodDescriptor mX8_carOf.1.desc).map (fun d => d.parameters.length) = some 2 by decide +kernel⟩ (by decide) (by decide) (Nat.le_of_ble_eq_true rfl) fc_8 (by decide) rfl e1 C51 (Nat.le_of_eq (Nat.add_zero _)) (Nat.le_of_eq (Nat.add_zero _)) (fun _ _ h => h) ?_
    rintro _ h52 ⟨r53, rfl, K1⟩ -
    replace K := K r53 h52 K1
    show Gm l x mX8_ahead 12 76 [(0, .ref a0), (1, .int x1), (2, .int x2), (3, .int x3), (4, .int x4)] [.int r53, .int x3] h52 rc rs n0 Q X
    have KJ : Gm l x mX8_ahead 12 84 [(0, .ref a0), (1, .int x1), (2, .int x2), (3, .int x3), (4, .int x4)] [.int (if r53 ≤ 0 then 0 else 1 : Int32), .int x3] h52 rc rs n0 Q X := by
      refine g_iadd dX8_ahead_84 ?_
      refine g_istore_n (lv' := [(0, .ref a0), (1, .int x1), (2, .int x2), (3, .int (x3 + (if r53 ≤ 0 then 0 else 1 : Int32))), (4, .int x4)]) dX8_ahead_85 rfl (by decide) rfl ?_
      refine g_iinc (v := (x4 + 1)) (lv' := [(0, .ref a0), (1, .int x1), (2, .int x2), (3, .int (x3 + (if r53 ≤ 0 then 0 else 1 : Int32))), (4, .int (x4 + 1))]) dX8_ahead_86 4 rfl (by rfl) (by decide) rfl ?_
      refine g_goto (tgt := 57) dX8_ahead_89 (by decide) ?_
      exact K
    refine g_if_le (tgt := 83) dX8_ahead_76 (by decide) (fun c54 => ?_) (fun c54 => ?_)
    · refine g_iconst (v := 0) dX8_ahead_83 (by decide) ?_
      first | (simp only [if_pos c54] at KJ; exact KJ) | (simp only [if_pos c54, ite_true, ite_false, eq_self] at KJ; exact KJ) | (simp only [if_pos c54] at KJ ⊢; exact KJ) | exact KJ
    · refine g_iconst (v := 1) dX8_ahead_79 (by decide) ?_
      refine g_goto (tgt := 84) dX8_ahead_80 (by decide) ?_
      first | (simp only [if_neg c54] at KJ; exact KJ) | (simp only [if_neg c54, ite_true, ite_false, eq_self] at KJ; exact KJ) | (simp only [if_neg c54] at KJ ⊢; exact KJ) | exact KJ
theorem dX8_when_0 : decode cX8_when 0 = .ok (.aload_n 0, 1) := by decide +kernel
theorem dX8_when_1 : decode cX8_when 1 = .ok (.iconst 0, 1) := by decide +kernel
theorem dX8_when_2 : decode cX8_when 2 = .ok (.putfield 104, 3) := by decide +kernel
theorem dX8_when_5 : decode cX8_when 5 = .ok (.aload_n 0, 1) := by decide +kernel
theorem dX8_when_6 : decode cX8_when 6 = .ok (.iload_n 1, 1) := by decide +kernel
theorem dX8_when_7 : decode cX8_when 7 = .ok (.invokevirtual 396, 3) := by decide +kernel
theorem dX8_when_10 : decode cX8_when 10 = .ok (.ifCond .ne 9, 3) := by decide +kernel
theorem dX8_when_13 : decode cX8_when 13 = .ok (.aload_n 0, 1) := by decide +kernel
theorem dX8_when_14 : decode cX8_when 14 = .ok (.iconst 1, 1) := by decide +kernel
theorem dX8_when_15 : decode cX8_when 15 = .ok (.invokevirtual 198, 3) := by decide +kernel
theorem dX8_when_18 : decode cX8_when 18 = .ok (.ireturn, 1) := by decide +kernel
theorem dX8_when_19 : decode cX8_when 19 = .ok (.aload_n 0, 1) := by decide +kernel
theorem dX8_when_20 : decode cX8_when 20 = .ok (.getfield 64, 3) := by decide +kernel
theorem dX8_when_23 : decode cX8_when 23 = .ok (.aload_n 0, 1) := by decide +kernel
theorem dX8_when_24 : decode cX8_when 24 = .ok (.getfield 29, 3) := by decide +kernel
theorem dX8_when_27 : decode cX8_when 27 = .ok (.invokestatic 204, 3) := by decide +kernel
theorem dX8_when_30 : decode cX8_when 30 = .ok (.aload_n 0, 1) := by decide +kernel
theorem dX8_when_31 : decode cX8_when 31 = .ok (.sipush 200, 3) := by decide +kernel
theorem dX8_when_34 : decode cX8_when 34 = .ok (.invokevirtual 350, 3) := by decide +kernel
theorem dX8_when_37 : decode cX8_when 37 = .ok (.aload_n 0, 1) := by decide +kernel
theorem dX8_when_38 : decode cX8_when 38 = .ok (.iload_n 1, 1) := by decide +kernel
theorem dX8_when_39 : decode cX8_when 39 = .ok (.bipush 7, 2) := by decide +kernel
theorem dX8_when_41 : decode cX8_when 41 = .ok (.invokevirtual 228, 3) := by decide +kernel
theorem dX8_when_44 : decode cX8_when 44 = .ok (.istore_n 2, 1) := by decide +kernel
theorem dX8_when_45 : decode cX8_when 45 = .ok (.aload_n 0, 1) := by decide +kernel
theorem dX8_when_46 : decode cX8_when 46 = .ok (.getfield 29, 3) := by decide +kernel
theorem dX8_when_49 : decode cX8_when 49 = .ok (.aload_n 0, 1) := by decide +kernel
theorem dX8_when_50 : decode cX8_when 50 = .ok (.getfield 64, 3) := by decide +kernel
theorem dX8_when_53 : decode cX8_when 53 = .ok (.invokestatic 204, 3) := by decide +kernel
theorem dX8_when_56 : decode cX8_when 56 = .ok (.iload_n 2, 1) := by decide +kernel
theorem dX8_when_57 : decode cX8_when 57 = .ok (.ireturn, 1) := by decide +kernel
set_option maxRecDepth 20000 in
set_option maxHeartbeats 4000000 in
theorem vX8_when_0 {l : Launch} {x : CX} {a0 : Nat} {x1 : Int32} {h : PH} {rc rs n0 : Nat} {Q : Option Value → PH → Prop} {X : String → PH → Prop}
    (K : ((hK h a0).1 = 8) ∧ ∃ (q2 : Int32 → PH → Prop), CI l x mX8_isRider 1 0 0 [.ref a0, .int x1] (sI h a0 1 0) q2 ∧ ∀ (r5 : Int32) (h4 : PH), q2 r5 h4 → ((¬ r5 = 0 → ((hK h4 a0).1 = 8) ∧ ∃ b8, (hR h4 a0 23 = some b8) ∧ ∃ b10, (hR h4 a0 2 = some b10) ∧ ∃ (q12 : PH → Prop), CV l x mX8_copyTo 0 0 0 [.ref b8, .ref b10] h4 q12 ∧ ∀ (h14 : PH), q12 h14 → ((hK h14 a0).1 = 8) ∧ ∃ (q15 : PH → Prop), CV l x mX8_ticksNow 11 0 0 [.ref a0, .int 200] h14 q15 ∧ ∀ (h18 : PH), q15 h18 → ((hK h18 a0).1 = 8) ∧ ∃ (q19 : Int32 → PH → Prop), CI l x mX8_of 0 0 0 [.ref a0, .int x1, .int 7] h18 q19 ∧ ∀ (r23 : Int32) (h22 : PH), q19 r23 h22 → ((hK h22 a0).1 = 8) ∧ ∃ b25, (hR h22 a0 2 = some b25) ∧ ∃ b27, (hR h22 a0 23 = some b27) ∧ ∃ (q29 : PH → Prop), CV l x mX8_copyTo 0 0 0 [.ref b25, .ref b27] h22 q29 ∧ ∀ (h31 : PH), q29 h31 → Q (some (.int r23)) h31) ∧ (r5 = 0 → ((hK h4 a0).1 = 8) ∧ ∃ (q32 : Int32 → PH → Prop), CI l x mX8_fail 0 0 0 [.ref a0, .int 1] h4 q32 ∧ ∀ (r36 : Int32) (h35 : PH), q32 r36 h35 → Q (some (.int r36)) h35))) :
    Gm l x mX8_when 12 0 [(0, .ref a0), (1, .int x1)] [] h rc rs n0 Q X := by
  refine g_aload_n dX8_when_0 rfl 0 rfl ?_
  refine g_iconst (v := 0) dX8_when_1 (by decide) ?_
  obtain ⟨e1, K⟩ := K
  refine g_puti (c := 8) (k := 1) dX8_when_2 fc_8 (by decide) (by decide) bw_1199 (Or.inl rfl) rfl e1 ?_
  refine g_aload_n dX8_when_5 rfl 0 rfl ?_
  refine g_iload_n dX8_when_6 rfl 1 rfl ?_
  obtain ⟨q2, C3, K⟩ := K
  refine g_callV (M' := mX8_isRider) (b := a0) (As := [.int x1]) (rest := []) (rc' := rc) (rs' := rs) dX8_when_7 bw_1619 bw_1621 bs_95 bw_9 bw_1622 ⟨by decide +kernel, by decide +kernel, show (parseMethodDescriptor mX8_isRider.1.desc).map (fun d => d.parameters.length) = some 1 by decide +kernel⟩ (by decide) (by decide) (Nat.le_of_ble_eq_true rfl) fc_8 (by decide) rfl (kkI e1) C3 (Nat.le_of_eq (Nat.add_zero _)) (Nat.le_of_eq (Nat.add_zero _)) (fun _ _ h => h) ?_
  rintro _ h4 ⟨r5, rfl, K1⟩ -
  replace K := K r5 h4 K1
  show Gm l x mX8_when 12 10 [(0, .ref a0), (1, .int x1)] [.int r5] h4 rc rs n0 Q X
  refine g_if_ne (tgt := 19) dX8_when_10 (by decide) (fun c6 => ?_) (fun c6 => ?_)
  · replace K := K.1 c6
    refine g_aload_n dX8_when_19 rfl 0 rfl ?_
    obtain ⟨e7, b8, e9, K⟩ := K
    refine g_get (c := 8) (k := 23) (v := .ref b8) dX8_when_20 fc_8 (by decide) (by decide) bw_1221 (congrArg pr e9) e7 ?_
    refine g_aload_n dX8_when_23 rfl 0 rfl ?_
    obtain ⟨b10, e11, K⟩ := K
    refine g_get (c := 8) (k := 2) (v := .ref b10) dX8_when_24 fc_8 (by decide) (by decide) bw_1200 (congrArg pr e11) e7 ?_
    obtain ⟨q12, C13, K⟩ := K
    refine g_callS (M' := mX8_copyTo) (As := [.ref b8, .ref b10]) (rest := []) (rc' := rc) (rs' := rs) dX8_when_27 bw_1398 bw_1399 bw_9 bw_1400 ⟨by decide +kernel, by decide +kernel, show (parseMethodDescriptor mX8_copyTo.1.desc).map (fun d => d.parameters.length) = some 2 by decide +kernel⟩ (by decide) (by decide) (Nat.le_of_ble_eq_true rfl) C13 (Nat.le_of_eq (Nat.add_zero _)) (Nat.le_of_eq (Nat.add_zero _)) (fun _ _ h => h) ?_
    rintro _ h14 ⟨rfl, K1⟩ -
    replace K := K h14 K1
    show Gm l x mX8_when 12 30 [(0, .ref a0), (1, .int x1)] [] h14 rc rs n0 Q X
    refine g_aload_n dX8_when_30 rfl 0 rfl ?_
    refine g_sipush (v := 200) dX8_when_31 (by decide) ?_
    obtain ⟨e17, K⟩ := K
    obtain ⟨q15, C16, K⟩ := K
    refine g_callV (M' := mX8_ticksNow) (b := a0) (As := [.int 200]) (rest := []) (rc' := rc) (rs' := rs) dX8_when_34 bw_1453 bw_1455 bs_62 bw_9 bw_1456 ⟨by decide +kernel, by decide +kernel, show (parseMethodDescriptor mX8_ticksNow.1.desc).map (fun d => d.parameters.length) = some 1 by decide +kernel⟩ (by decide) (by decide) (Nat.le_of_ble_eq_true rfl) fc_8 (by decide) rfl e17 C16 (Nat.le_of_eq (Nat.add_zero _)) (Nat.le_of_eq (Nat.add_zero _)) (fun _ _ h => h) ?_
    rintro _ h18 ⟨rfl, K1⟩ -
    replace K := K h18 K1
    show Gm l x mX8_when 12 37 [(0, .ref a0), (1, .int x1)] [] h18 rc rs n0 Q X
    refine g_aload_n dX8_when_37 rfl 0 rfl ?_
    refine g_iload_n dX8_when_38 rfl 1 rfl ?_
    refine g_bipush (v := 7) dX8_when_39 (by decide) ?_
    obtain ⟨e21, K⟩ := K
    obtain ⟨q19, C20, K⟩ := K
    refine g_callV (M' := mX8_of) (b := a0) (As := [.int x1, .int 7]) (rest := []) (rc' := rc) (rs' := rs) dX8_when_41 bw_1413 bw_1415 bs_52 bw_9 bw_1416 ⟨by decide +kernel, by decide +kernel, show (parseMethodDescriptor mX8_of.1.desc).map (fun d => d.parameters.length) = some 2 by decide +kernel⟩ (by decide) (by decide) (Nat.le_of_ble_eq_true rfl) fc_8 (by decide) rfl e21 C20 (Nat.le_of_eq (Nat.add_zero _)) (Nat.le_of_eq (Nat.add_zero _)) (fun _ _ h => h) ?_
    rintro _ h22 ⟨r23, rfl, K1⟩ -
    replace K := K r23 h22 K1
    show Gm l x mX8_when 12 44 [(0, .ref a0), (1, .int x1)] [.int r23] h22 rc rs n0 Q X
    refine g_istore_n (lv' := [(0, .ref a0), (1, .int x1), (2, .int r23)]) dX8_when_44 rfl (by decide) rfl ?_
    refine g_aload_n dX8_when_45 rfl 0 rfl ?_
    obtain ⟨e24, b25, e26, K⟩ := K
    refine g_get (c := 8) (k := 2) (v := .ref b25) dX8_when_46 fc_8 (by decide) (by decide) bw_1200 (congrArg pr e26) e24 ?_
    refine g_aload_n dX8_when_49 rfl 0 rfl ?_
    obtain ⟨b27, e28, K⟩ := K
    refine g_get (c := 8) (k := 23) (v := .ref b27) dX8_when_50 fc_8 (by decide) (by decide) bw_1221 (congrArg pr e28) e24 ?_
    obtain ⟨q29, C30, K⟩ := K
    refine g_callS (M' := mX8_copyTo) (As := [.ref b25, .ref b27]) (rest := []) (rc' := rc) (rs' := rs) dX8_when_53 bw_1398 bw_1399 bw_9 bw_1400 ⟨by decide +kernel, by decide +kernel, show (parseMethodDescriptor mX8_copyTo.1.desc).map (fun d => d.parameters.length) = some 2 by decide +kernel⟩ (by decide) (by decide) (Nat.le_of_ble_eq_true rfl) C30 (Nat.le_of_eq (Nat.add_zero _)) (Nat.le_of_eq (Nat.add_zero _)) (fun _ _ h => h) ?_
    rintro _ h31 ⟨rfl, K1⟩ -
    replace K := K h31 K1
    show Gm l x mX8_when 12 56 [(0, .ref a0), (1, .int x1), (2, .int r23)] [] h31 rc rs n0 Q X
    refine g_iload_n dX8_when_56 rfl 2 rfl ?_
    exact g_iret dX8_when_57 rfl K
  · replace K := K.2 c6
    refine g_aload_n dX8_when_13 rfl 0 rfl ?_
    refine g_iconst (v := 1) dX8_when_14 (by decide) ?_
    obtain ⟨e34, K⟩ := K
    obtain ⟨q32, C33, K⟩ := K
    refine g_callV (M' := mX8_fail) (b := a0) (As := [.int 1]) (rest := []) (rc' := rc) (rs' := rs) dX8_when_15 bw_1337 bw_1339 bs_39 bw_9 bw_1340 ⟨by decide +kernel, by decide +kernel, show (parseMethodDescriptor mX8_fail.1.desc).map (fun d => d.parameters.length) = some 1 by decide +kernel⟩ (by decide) (by decide) (Nat.le_of_ble_eq_true rfl) fc_8 (by decide) rfl e34 C33 (Nat.le_of_eq (Nat.add_zero _)) (Nat.le_of_eq (Nat.add_zero _)) (fun _ _ h => h) ?_
    rintro _ h35 ⟨r36, rfl, K1⟩ -
    replace K := K r36 h35 K1
    show Gm l x mX8_when 12 18 [(0, .ref a0), (1, .int x1)] [.int r36] h35 rc rs n0 Q X
    exact g_iret dX8_when_18 rfl K
theorem dX8_anew_0 : decode cX8_anew 0 = .ok (.aload_n 0, 1) := by decide +kernel
theorem dX8_anew_1 : decode cX8_anew 1 = .ok (.iconst 0, 1) := by decide +kernel
theorem dX8_anew_2 : decode cX8_anew 2 = .ok (.putfield 104, 3) := by decide +kernel
theorem dX8_anew_5 : decode cX8_anew 5 = .ok (.iload_n 3, 1) := by decide +kernel
theorem dX8_anew_6 : decode cX8_anew 6 = .ok (.iconst 0, 1) := by decide +kernel
theorem dX8_anew_7 : decode cX8_anew 7 = .ok (.iconst 2, 1) := by decide +kernel
theorem dX8_anew_8 : decode cX8_anew 8 = .ok (.invokestatic 390, 3) := by decide +kernel
theorem dX8_anew_11 : decode cX8_anew 11 = .ok (.ifCond .ne 9, 3) := by decide +kernel
theorem dX8_anew_14 : decode cX8_anew 14 = .ok (.aload_n 0, 1) := by decide +kernel
theorem dX8_anew_15 : decode cX8_anew 15 = .ok (.iconst 1, 1) := by decide +kernel
theorem dX8_anew_16 : decode cX8_anew 16 = .ok (.invokevirtual 198, 3) := by decide +kernel
theorem dX8_anew_19 : decode cX8_anew 19 = .ok (.ireturn, 1) := by decide +kernel
theorem dX8_anew_20 : decode cX8_anew 20 = .ok (.iload_n 1, 1) := by decide +kernel
theorem dX8_anew_21 : decode cX8_anew 21 = .ok (.iload_n 2, 1) := by decide +kernel
theorem dX8_anew_22 : decode cX8_anew 22 = .ok (.invokestatic 414, 3) := by decide +kernel
theorem dX8_anew_25 : decode cX8_anew 25 = .ok (.ifCond .ne 9, 3) := by decide +kernel
theorem dX8_anew_28 : decode cX8_anew 28 = .ok (.aload_n 0, 1) := by decide +kernel
theorem dX8_anew_29 : decode cX8_anew 29 = .ok (.iconst 2, 1) := by decide +kernel
theorem dX8_anew_30 : decode cX8_anew 30 = .ok (.invokevirtual 198, 3) := by decide +kernel
theorem dX8_anew_33 : decode cX8_anew 33 = .ok (.ireturn, 1) := by decide +kernel
theorem dX8_anew_34 : decode cX8_anew 34 = .ok (.aload_n 0, 1) := by decide +kernel
theorem dX8_anew_35 : decode cX8_anew 35 = .ok (.iload_n 1, 1) := by decide +kernel
theorem dX8_anew_36 : decode cX8_anew 36 = .ok (.iload_n 2, 1) := by decide +kernel
theorem dX8_anew_37 : decode cX8_anew 37 = .ok (.invokevirtual 356, 3) := by decide +kernel
theorem dX8_anew_40 : decode cX8_anew 40 = .ok (.aload_n 0, 1) := by decide +kernel
theorem dX8_anew_41 : decode cX8_anew 41 = .ok (.sipush 200, 3) := by decide +kernel
theorem dX8_anew_44 : decode cX8_anew 44 = .ok (.invokevirtual 350, 3) := by decide +kernel
theorem dX8_anew_47 : decode cX8_anew 47 = .ok (.iconst (-1), 1) := by decide +kernel
theorem dX8_anew_48 : decode cX8_anew 48 = .ok (.istore 4, 2) := by decide +kernel
theorem dX8_anew_50 : decode cX8_anew 50 = .ok (.iconst 0, 1) := by decide +kernel
theorem dX8_anew_51 : decode cX8_anew 51 = .ok (.istore 5, 2) := by decide +kernel
theorem dX8_anew_53 : decode cX8_anew 53 = .ok (.iload 5, 2) := by decide +kernel
theorem dX8_anew_55 : decode cX8_anew 55 = .ok (.aload_n 0, 1) := by decide +kernel
theorem dX8_anew_56 : decode cX8_anew 56 = .ok (.getfield 29, 3) := by decide +kernel
theorem dX8_anew_59 : decode cX8_anew 59 = .ok (.bipush 6, 2) := by decide +kernel
theorem dX8_anew_61 : decode cX8_anew 61 = .ok (.iaload, 1) := by decide +kernel
theorem dX8_anew_62 : decode cX8_anew 62 = .ok (.if_icmp .ge 24, 3) := by decide +kernel
theorem dX8_anew_65 : decode cX8_anew 65 = .ok (.iload 4, 2) := by decide +kernel
theorem dX8_anew_67 : decode cX8_anew 67 = .ok (.aload_n 0, 1) := by decide +kernel
theorem dX8_anew_68 : decode cX8_anew 68 = .ok (.iload 5, 2) := by decide +kernel
theorem dX8_anew_70 : decode cX8_anew 70 = .ok (.bipush 7, 2) := by decide +kernel
theorem dX8_anew_72 : decode cX8_anew 72 = .ok (.invokevirtual 228, 3) := by decide +kernel
theorem dX8_anew_75 : decode cX8_anew 75 = .ok (.invokestatic 417, 3) := by decide +kernel
theorem dX8_anew_78 : decode cX8_anew 78 = .ok (.istore 4, 2) := by decide +kernel
theorem dX8_anew_80 : decode cX8_anew 80 = .ok (.iinc 5 1, 3) := by decide +kernel
theorem dX8_anew_83 : decode cX8_anew 83 = .ok (.goto (-30), 3) := by decide +kernel
theorem dX8_anew_86 : decode cX8_anew 86 = .ok (.iload_n 3, 1) := by decide +kernel
theorem dX8_anew_87 : decode cX8_anew 87 = .ok (.ifCond .ne 11, 3) := by decide +kernel
theorem dX8_anew_90 : decode cX8_anew 90 = .ok (.aload_n 0, 1) := by decide +kernel
theorem dX8_anew_91 : decode cX8_anew 91 = .ok (.iconst 3, 1) := by decide +kernel
theorem dX8_anew_92 : decode cX8_anew 92 = .ok (.invokevirtual 344, 3) := by decide +kernel
theorem dX8_anew_95 : decode cX8_anew 95 = .ok (.goto 19, 3) := by decide +kernel
theorem dX8_anew_98 : decode cX8_anew 98 = .ok (.iload_n 3, 1) := by decide +kernel
theorem dX8_anew_99 : decode cX8_anew 99 = .ok (.iconst 1, 1) := by decide +kernel
theorem dX8_anew_100 : decode cX8_anew 100 = .ok (.if_icmp .ne 8, 3) := by decide +kernel
theorem dX8_anew_103 : decode cX8_anew 103 = .ok (.iload 4, 2) := by decide +kernel
theorem dX8_anew_105 : decode cX8_anew 105 = .ok (.goto 9, 3) := by decide +kernel
theorem dX8_anew_108 : decode cX8_anew 108 = .ok (.aload_n 0, 1) := by decide +kernel
theorem dX8_anew_109 : decode cX8_anew 109 = .ok (.getfield 29, 3) := by decide +kernel
theorem dX8_anew_112 : decode cX8_anew 112 = .ok (.iconst 5, 1) := by decide +kernel
theorem dX8_anew_113 : decode cX8_anew 113 = .ok (.iaload, 1) := by decide +kernel
theorem dX8_anew_114 : decode cX8_anew 114 = .ok (.istore 5, 2) := by decide +kernel
theorem dX8_anew_116 : decode cX8_anew 116 = .ok (.aload_n 0, 1) := by decide +kernel
theorem dX8_anew_117 : decode cX8_anew 117 = .ok (.getfield 29, 3) := by decide +kernel
theorem dX8_anew_120 : decode cX8_anew 120 = .ok (.aload_n 0, 1) := by decide +kernel
theorem dX8_anew_121 : decode cX8_anew 121 = .ok (.getfield 64, 3) := by decide +kernel
theorem dX8_anew_124 : decode cX8_anew 124 = .ok (.invokestatic 204, 3) := by decide +kernel
theorem dX8_anew_127 : decode cX8_anew 127 = .ok (.iload 5, 2) := by decide +kernel
theorem dX8_anew_129 : decode cX8_anew 129 = .ok (.ireturn, 1) := by decide +kernel
set_option maxRecDepth 20000 in
set_option maxHeartbeats 4000000 in
theorem vX8_anew_0 {l : Launch} {x : CX} {a0 : Nat} {x1 : Int32} {x2 : Int32} {x3 : Int32} {h : PH} {rc rs n0 : Nat} {Q : Option Value → PH → Prop} {X : String → PH → Prop}
    (K : ((hK h a0).1 = 8) ∧ ∃ (q2 : Int32 → PH → Prop), CI l x mX8_isIn 0 0 0 [.int x3, .int 0, .int 2] (sI h a0 1 0) q2 ∧ ∀ (r5 : Int32) (h4 : PH), q2 r5 h4 → ((¬ r5 = 0 → ∃ (q7 : Int32 → PH → Prop), CI l x mX8_isRule 1 0 0 [.int x1, .int x2] h4 q7 ∧ ∀ (r10 : Int32) (h9 : PH), q7 r10 h9 → ((¬ r10 = 0 → ((hK h9 a0).1 = 8) ∧ ∃ (q12 : PH → Prop), CV l x mX8_anewBegins 2 0 0 [.ref a0, .int x1, .int x2] h9 q12 ∧ ∀ (h15 : PH), q12 h15 → ((hK h15 a0).1 = 8) ∧ ∃ (q16 : PH → Prop), CV l x mX8_ticksNow 11 0 0 [.ref a0, .int 200] h15 q16 ∧ ∀ (h19 : PH), q16 h19 → Gm l x mX8_anew 12 53 [(0, .ref a0), (1, .int x1), (2, .int x2), (3, .int x3), (4, .int (-1)), (5, .int 0)] [] h19 rc rs n0 Q X) ∧ (r10 = 0 → ((hK h9 a0).1 = 8) ∧ ∃ (q20 : Int32 → PH → Prop), CI l x mX8_fail 0 0 0 [.ref a0, .int 2] h9 q20 ∧ ∀ (r24 : Int32) (h23 : PH), q20 r24 h23 → Q (some (.int r24)) h23))) ∧ (r5 = 0 → ((hK h4 a0).1 = 8) ∧ ∃ (q25 : Int32 → PH → Prop), CI l x mX8_fail 0 0 0 [.ref a0, .int 1] h4 q25 ∧ ∀ (r29 : Int32) (h28 : PH), q25 r29 h28 → Q (some (.int r29)) h28))) :
    Gm l x mX8_anew 12 0 [(0, .ref a0), (1, .int x1), (2, .int x2), (3, .int x3)] [] h rc rs n0 Q X := by
  refine g_aload_n dX8_anew_0 rfl 0 rfl ?_
  refine g_iconst (v := 0) dX8_anew_1 (by decide) ?_
  obtain ⟨e1, K⟩ := K
  refine g_puti (c := 8) (k := 1) dX8_anew_2 fc_8 (by decide) (by decide) bw_1199 (Or.inl rfl) rfl e1 ?_
  refine g_iload_n dX8_anew_5 rfl 3 rfl ?_
  refine g_iconst (v := 0) dX8_anew_6 (by decide) ?_
  refine g_iconst (v := 2) dX8_anew_7 (by decide) ?_
  obtain ⟨q2, C3, K⟩ := K
  refine g_callS (M' := mX8_isIn) (As := [.int x3, .int 0, .int 2]) (rest := []) (rc' := rc) (rs' := rs) dX8_anew_8 bw_1612 bw_1613 bw_9 bw_1614 ⟨by decide +kernel, by decide +kernel, show (parseMethodDescriptor mX8_isIn.1.desc).map (fun d => d.parameters.length) = some 3 by decide +kernel⟩ (by decide) (by decide) (Nat.le_of_ble_eq_true rfl) C3 (Nat.le_of_eq (Nat.add_zero _)) (Nat.le_of_eq (Nat.add_zero _)) (fun _ _ h => h) ?_
  rintro _ h4 ⟨r5, rfl, K1⟩ -
  replace K := K r5 h4 K1
  show Gm l x mX8_anew 12 11 [(0, .ref a0), (1, .int x1), (2, .int x2), (3, .int x3)] [.int r5] h4 rc rs n0 Q X
  refine g_if_ne (tgt := 20) dX8_anew_11 (by decide) (fun c6 => ?_) (fun c6 => ?_)
  · replace K := K.1 c6
    refine g_iload_n dX8_anew_20 rfl 1 rfl ?_
    refine g_iload_n dX8_anew_21 rfl 2 rfl ?_
    obtain ⟨q7, C8, K⟩ := K
    refine g_callS (M' := mX8_isRule) (As := [.int x1, .int x2]) (rest := []) (rc' := rc) (rs' := rs) dX8_anew_22 bw_1687 bw_1688 bw_9 bw_1689 ⟨by decide +kernel, by decide +kernel, show (parseMethodDescriptor mX8_isRule.1.desc).map (fun d => d.parameters.length) = some 2 by decide +kernel⟩ (by decide) (by decide) (Nat.le_of_ble_eq_true rfl) C8 (Nat.le_of_eq (Nat.add_zero _)) (Nat.le_of_eq (Nat.add_zero _)) (fun _ _ h => h) ?_
    rintro _ h9 ⟨r10, rfl, K1⟩ -
    replace K := K r10 h9 K1
    show Gm l x mX8_anew 12 25 [(0, .ref a0), (1, .int x1), (2, .int x2), (3, .int x3)] [.int r10] h9 rc rs n0 Q X
    refine g_if_ne (tgt := 34) dX8_anew_25 (by decide) (fun c11 => ?_) (fun c11 => ?_)
    · replace K := K.1 c11
      refine g_aload_n dX8_anew_34 rfl 0 rfl ?_
      refine g_iload_n dX8_anew_35 rfl 1 rfl ?_
      refine g_iload_n dX8_anew_36 rfl 2 rfl ?_
      obtain ⟨e14, K⟩ := K
      obtain ⟨q12, C13, K⟩ := K
      refine g_callV (M' := mX8_anewBegins) (b := a0) (As := [.int x1, .int x2]) (rest := []) (rc' := rc) (rs' := rs) dX8_anew_37 bw_1445 bw_1447 bs_60 bw_9 bw_1448 ⟨by decide +kernel, by decide +kernel, show (parseMethodDescriptor mX8_anewBegins.1.desc).map (fun d => d.parameters.length) = some 2 by decide +kernel⟩ (by decide) (by decide) (Nat.le_of_ble_eq_true rfl) fc_8 (by decide) rfl e14 C13 (Nat.le_of_eq (Nat.add_zero _)) (Nat.le_of_eq (Nat.add_zero _)) (fun _ _ h => h) ?_
      rintro _ h15 ⟨rfl, K1⟩ -
      replace K := K h15 K1
      show Gm l x mX8_anew 12 40 [(0, .ref a0), (1, .int x1), (2, .int x2), (3, .int x3)] [] h15 rc rs n0 Q X
      refine g_aload_n dX8_anew_40 rfl 0 rfl ?_
      refine g_sipush (v := 200) dX8_anew_41 (by decide) ?_
      obtain ⟨e18, K⟩ := K
      obtain ⟨q16, C17, K⟩ := K
      refine g_callV (M' := mX8_ticksNow) (b := a0) (As := [.int 200]) (rest := []) (rc' := rc) (rs' := rs) dX8_anew_44 bw_1453 bw_1455 bs_62 bw_9 bw_1456 ⟨by decide +kernel, by decide +kernel, show (parseMethodDescriptor mX8_ticksNow.1.desc).map (fun d => d.parameters.length) = some 1 by decide +kernel⟩ (by decide) (by decide) (Nat.le_of_ble_eq_true rfl) fc_8 (by decide) rfl e18 C17 (Nat.le_of_eq (Nat.add_zero _)) (Nat.le_of_eq (Nat.add_zero _)) (fun _ _ h => h) ?_
      rintro _ h19 ⟨rfl, K1⟩ -
      replace K := K h19 K1
      show Gm l x mX8_anew 12 47 [(0, .ref a0), (1, .int x1), (2, .int x2), (3, .int x3)] [] h19 rc rs n0 Q X
      refine g_iconst (v := (-1)) dX8_anew_47 (by decide) ?_
      refine g_istore (lv' := [(0, .ref a0), (1, .int x1), (2, .int x2), (3, .int x3), (4, .int (-1))]) dX8_anew_48 (by decide) rfl ?_
      refine g_iconst (v := 0) dX8_anew_50 (by decide) ?_
      refine g_istore (lv' := [(0, .ref a0), (1, .int x1), (2, .int x2), (3, .int x3), (4, .int (-1)), (5, .int 0)]) dX8_anew_51 (by decide) rfl ?_
      exact K
    · replace K := K.2 c11
      refine g_aload_n dX8_anew_28 rfl 0 rfl ?_
      refine g_iconst (v := 2) dX8_anew_29 (by decide) ?_
      obtain ⟨e22, K⟩ := K
      obtain ⟨q20, C21, K⟩ := K
      refine g_callV (M' := mX8_fail) (b := a0) (As := [.int 2]) (rest := []) (rc' := rc) (rs' := rs) dX8_anew_30 bw_1337 bw_1339 bs_39 bw_9 bw_1340 ⟨by decide +kernel, by decide +kernel, show (parseMethodDescriptor mX8_fail.1.desc).map (fun d => d.parameters.length) = some 1 by decide +kernel⟩ (by decide) (by decide) (Nat.le_of_ble_eq_true rfl) fc_8 (by decide) rfl e22 C21 (Nat.le_of_eq (Nat.add_zero _)) (Nat.le_of_eq (Nat.add_zero _)) (fun _ _ h => h) ?_
      rintro _ h23 ⟨r24, rfl, K1⟩ -
      replace K := K r24 h23 K1
      show Gm l x mX8_anew 12 33 [(0, .ref a0), (1, .int x1), (2, .int x2), (3, .int x3)] [.int r24] h23 rc rs n0 Q X
      exact g_iret dX8_anew_33 rfl K
  · replace K := K.2 c6
    refine g_aload_n dX8_anew_14 rfl 0 rfl ?_
    refine g_iconst (v := 1) dX8_anew_15 (by decide) ?_
    obtain ⟨e27, K⟩ := K
    obtain ⟨q25, C26, K⟩ := K
    refine g_callV (M' := mX8_fail) (b := a0) (As := [.int 1]) (rest := []) (rc' := rc) (rs' := rs) dX8_anew_16 bw_1337 bw_1339 bs_39 bw_9 bw_1340 ⟨by decide +kernel, by decide +kernel, show (parseMethodDescriptor mX8_fail.1.desc).map (fun d => d.parameters.length) = some 1 by decide +kernel⟩ (by decide) (by decide) (Nat.le_of_ble_eq_true rfl) fc_8 (by decide) rfl e27 C26 (Nat.le_of_eq (Nat.add_zero _)) (Nat.le_of_eq (Nat.add_zero _)) (fun _ _ h => h) ?_
    rintro _ h28 ⟨r29, rfl, K1⟩ -
    replace K := K r29 h28 K1
    show Gm l x mX8_anew 12 19 [(0, .ref a0), (1, .int x1), (2, .int x2), (3, .int x3)] [.int r29] h28 rc rs n0 Q X
    exact g_iret dX8_anew_19 rfl K
set_option maxRecDepth 20000 in
set_option maxHeartbeats 4000000 in
theorem vX8_anew_53 {l : Launch} {x : CX} {a0 : Nat} {x1 : Int32} {x2 : Int32} {x3 : Int32} {x4 : Int32} {x5 : Int32} {h : PH} {rc rs n0 : Nat} {Q : Option Value → PH → Prop} {X : String → PH → Prop}
    (K : ((hK h a0).1 = 8) ∧ ∃ b2, (hR h a0 2 = some b2) ∧ ((hK h b2).1 = 100) ∧ (vp_in 6 (hK h b2).2) ∧ (((hI h b2 (Int32.toNatClampNeg 6)) ≤ x5 → ((¬ x3 = 0 → ((¬ x3 = 1 → (vp_in 5 (hK h b2).2) ∧ ∃ b10, (hR h a0 23 = some b10) ∧ ∃ (q12 : PH → Prop), CV l x mX8_copyTo 0 0 0 [.ref b2, .ref b10] h q12 ∧ ∀ (h14 : PH), q12 h14 → Q (some (.int (hI h b2 (Int32.toNatClampNeg 5)))) h14) ∧ (x3 = 1 → ∃ b15, (hR h a0 23 = some b15) ∧ ∃ (q17 : PH → Prop), CV l x mX8_copyTo 0 0 0 [.ref b2, .ref b15] h q17 ∧ ∀ (h19 : PH), q17 h19 → Q (some (.int x4)) h19))) ∧ (x3 = 0 → ∃ (q20 : Int32 → PH → Prop), CI l x mX8_many 1 0 0 [.ref a0, .int 3] h q20 ∧ ∀ (r23 : Int32) (h22 : PH), q20 r23 h22 → ((hK h22 a0).1 = 8) ∧ ∃ b25, (hR h22 a0 2 = some b25) ∧ ∃ b27, (hR h22 a0 23 = some b27) ∧ ∃ (q29 : PH → Prop), CV l x mX8_copyTo 0 0 0 [.ref b25, .ref b27] h22 q29 ∧ ∀ (h31 : PH), q29 h31 → Q (some (.int r23)) h31))) ∧ (¬ (hI h b2 (Int32.toNatClampNeg 6)) ≤ x5 → ∃ (q32 : Int32 → PH → Prop), CI l x mX8_of 0 0 0 [.ref a0, .int x5, .int 7] h q32 ∧ ∀ (r35 : Int32) (h34 : PH), q32 r35 h34 → Gm l x mX8_anew 12 53 [(0, .ref a0), (1, .int x1), (2, .int x2), (3, .int x3), (4, .int (if x4 < r35 then r35 else x4)), (5, .int (x5 + 1))] [] h34 rc rs n0 Q X))) :
    Gm l x mX8_anew 12 53 [(0, .ref a0), (1, .int x1), (2, .int x2), (3, .int x3), (4, .int x4), (5, .int x5)] [] h rc rs n0 Q X := by
  refine g_iload dX8_anew_53 5 rfl ?_
  refine g_aload_n dX8_anew_55 rfl 0 rfl ?_
  obtain ⟨e1, b2, e3, K⟩ := K
  refine g_get (c := 8) (k := 2) (v := .ref b2) dX8_anew_56 fc_8 (by decide) (by decide) bw_1200 (congrArg pr e3) e1 ?_
  refine g_bipush (v := 6) dX8_anew_59 (by decide) ?_
  obtain ⟨e4, e5, K⟩ := K
  refine g_iald dX8_anew_61 e4 e5 ?_
  refine g_icmp_ge (tgt := 86) dX8_anew_62 (by decide) (fun c6 => ?_) (fun c6 => ?_)
  · replace K := K.1 c6
    refine g_iload_n dX8_anew_86 rfl 3 rfl ?_
    refine g_if_ne (tgt := 98) dX8_anew_87 (by decide) (fun c7 => ?_) (fun c7 => ?_)
    · replace K := K.1 c7
      refine g_iload_n dX8_anew_98 rfl 3 rfl ?_
      refine g_iconst (v := 1) dX8_anew_99 (by decide) ?_
      refine g_icmp_ne (tgt := 108) dX8_anew_100 (by decide) (fun c8 => ?_) (fun c8 => ?_)
      · replace K := K.1 c8
        refine g_aload_n dX8_anew_108 rfl 0 rfl ?_
        refine g_get (c := 8) (k := 2) (v := .ref b2) dX8_anew_109 fc_8 (by decide) (by decide) bw_1200 (congrArg pr e3) e1 ?_
        refine g_iconst (v := 5) dX8_anew_112 (by decide) ?_
        obtain ⟨e9, K⟩ := K
        refine g_iald dX8_anew_113 e4 e9 ?_
        refine g_istore (lv' := [(0, .ref a0), (1, .int x1), (2, .int x2), (3, .int x3), (4, .int x4), (5, .int (hI h b2 (Int32.toNatClampNeg 5)))]) dX8_anew_114 (by decide) rfl ?_
        refine g_aload_n dX8_anew_116 rfl 0 rfl ?_
        refine g_get (c := 8) (k := 2) (v := .ref b2) dX8_anew_117 fc_8 (by decide) (by decide) bw_1200 (congrArg pr e3) e1 ?_
        refine g_aload_n dX8_anew_120 rfl 0 rfl ?_
        obtain ⟨b10, e11, K⟩ := K
        refine g_get (c := 8) (k := 23) (v := .ref b10) dX8_anew_121 fc_8 (by decide) (by decide) bw_1221 (congrArg pr e11) e1 ?_
        obtain ⟨q12, C13, K⟩ := K
        refine g_callS (M' := mX8_copyTo) (As := [.ref b2, .ref b10]) (rest := []) (rc' := rc) (rs' := rs) dX8_anew_124 bw_1398 bw_1399 bw_9 bw_1400 ⟨by decide +kernel, by decide +kernel, show (parseMethodDescriptor mX8_copyTo.1.desc).map (fun d => d.parameters.length) = some 2 by decide +kernel⟩ (by decide) (by decide) (Nat.le_of_ble_eq_true rfl) C13 (Nat.le_of_eq (Nat.add_zero _)) (Nat.le_of_eq (Nat.add_zero _)) (fun _ _ h => h) ?_
        rintro _ h14 ⟨rfl, K1⟩ -
        replace K := K h14 K1
        show Gm l x mX8_anew 12 127 [(0, .ref a0), (1, .int x1), (2, .int x2), (3, .int x3), (4, .int x4), (5, .int (hI h b2 (Int32.toNatClampNeg 5)))] [] h14 rc rs n0 Q X
        refine g_iload dX8_anew_127 5 rfl ?_
        exact g_iret dX8_anew_129 rfl K
      · replace K := K.2 c8
        refine g_iload dX8_anew_103 4 rfl ?_
        refine g_goto (tgt := 114) dX8_anew_105 (by decide) ?_
        refine g_istore (lv' := [(0, .ref a0), (1, .int x1), (2, .int x2), (3, .int x3), (4, .int x4), (5, .int x4)]) dX8_anew_114 (by decide) rfl ?_
        refine g_aload_n dX8_anew_116 rfl 0 rfl ?_
        refine g_get (c := 8) (k := 2) (v := .ref b2) dX8_anew_117 fc_8 (by decide) (by decide) bw_1200 (congrArg pr e3) e1 ?_
        refine g_aload_n dX8_anew_120 rfl 0 rfl ?_
        obtain ⟨b15, e16, K⟩ := K
        refine g_get (c := 8) (k := 23) (v := .ref b15) dX8_anew_121 fc_8 (by decide) (by decide) bw_1221 (congrArg pr e16) e1 ?_
        obtain ⟨q17, C18, K⟩ := K
        refine g_callS (M' := mX8_copyTo) (As := [.ref b2, .ref b15]) (rest := []) (rc' := rc) (rs' := rs) dX8_anew_124 bw_1398 bw_1399 bw_9 bw_1400 ⟨by decide +kernel, by decide +kernel, show (parseMethodDescriptor mX8_copyTo.1.desc).map (fun d => d.parameters.length) = some 2 by decide +kernel⟩ (by decide) (by decide) (Nat.le_of_ble_eq_true rfl) C18 (Nat.le_of_eq (Nat.add_zero _)) (Nat.le_of_eq (Nat.add_zero _)) (fun _ _ h => h) ?_
        rintro _ h19 ⟨rfl, K1⟩ -
        replace K := K h19 K1
        show Gm l x mX8_anew 12 127 [(0, .ref a0), (1, .int x1), (2, .int x2), (3, .int x3), (4, .int x4), (5, .int x4)] [] h19 rc rs n0 Q X
        refine g_iload dX8_anew_127 5 rfl ?_
        exact g_iret dX8_anew_129 rfl K
    · replace K := K.2 c7
      refine g_aload_n dX8_anew_90 rfl 0 rfl ?_
      refine g_iconst (v := 3) dX8_anew_91 (by decide) ?_
      obtain ⟨q20, C21, K⟩ := K
      refine g_callV (M' := mX8_many) (b := a0) (As := [.int 3]) (rest := []) (rc' := rc) (rs' := rs) dX8_anew_92 bw_1409 bw_1411 bs_51 bw_9 bw_1412 ⟨by decide +kernel, by decide +kernel, show (parseMethodDescriptor mX8_many.1.desc).map (fun d => d.parameters.length) = some 1 by decide +kernel⟩ (by decide) (by decide) (Nat.le_of_ble_eq_true rfl) fc_8 (by decide) rfl e1 C21 (Nat.le_of_eq (Nat.add_zero _)) (Nat.le_of_eq (Nat.add_zero _)) (fun _ _ h => h) ?_
      rintro _ h22 ⟨r23, rfl, K1⟩ -
      replace K := K r23 h22 K1
      show Gm l x mX8_anew 12 95 [(0, .ref a0), (1, .int x1), (2, .int x2), (3, .int x3), (4, .int x4), (5, .int x5)] [.int r23] h22 rc rs n0 Q X
      refine g_goto (tgt := 114) dX8_anew_95 (by decide) ?_
      refine g_istore (lv' := [(0, .ref a0), (1, .int x1), (2, .int x2), (3, .int x3), (4, .int x4), (5, .int r23)]) dX8_anew_114 (by decide) rfl ?_
      refine g_aload_n dX8_anew_116 rfl 0 rfl ?_
      obtain ⟨e24, b25, e26, K⟩ := K
      refine g_get (c := 8) (k := 2) (v := .ref b25) dX8_anew_117 fc_8 (by decide) (by decide) bw_1200 (congrArg pr e26) e24 ?_
      refine g_aload_n dX8_anew_120 rfl 0 rfl ?_
      obtain ⟨b27, e28, K⟩ := K
      refine g_get (c := 8) (k := 23) (v := .ref b27) dX8_anew_121 fc_8 (by decide) (by decide) bw_1221 (congrArg pr e28) e24 ?_
      obtain ⟨q29, C30, K⟩ := K
      refine g_callS (M' := mX8_copyTo) (As := [.ref b25, .ref b27]) (rest := []) (rc' := rc) (rs' := rs) dX8_anew_124 bw_1398 bw_1399 bw_9 bw_1400 ⟨by decide +kernel, by decide +kernel, show (parseMethodDescriptor mX8_copyTo.1.desc).map (fun d => d.parameters.length) = some 2 by decide +kernel⟩ (by decide) (by decide) (Nat.le_of_ble_eq_true rfl) C30 (Nat.le_of_eq (Nat.add_zero _)) (Nat.le_of_eq (Nat.add_zero _)) (fun _ _ h => h) ?_
      rintro _ h31 ⟨rfl, K1⟩ -
      replace K := K h31 K1
      show Gm l x mX8_anew 12 127 [(0, .ref a0), (1, .int x1), (2, .int x2), (3, .int x3), (4, .int x4), (5, .int r23)] [] h31 rc rs n0 Q X
      refine g_iload dX8_anew_127 5 rfl ?_
      exact g_iret dX8_anew_129 rfl K
  · replace K := K.2 c6
    refine g_iload dX8_anew_65 4 rfl ?_
    refine g_aload_n dX8_anew_67 rfl 0 rfl ?_
    refine g_iload dX8_anew_68 5 rfl ?_
    refine g_bipush (v := 7) dX8_anew_70 (by decide) ?_
    obtain ⟨q32, C33, K⟩ := K
    refine g_callV (M' := mX8_of) (b := a0) (As := [.int x5, .int 7]) (rest := [.int x4]) (rc' := rc) (rs' := rs) dX8_anew_72 bw_1413 bw_1415 bs_52 bw_9 bw_1416 ⟨by decide +kernel, by decide +kernel, show (parseMethodDescriptor mX8_of.1.desc).map (fun d => d.parameters.length) = some 2 by decide +kernel⟩ (by decide) (by decide) (Nat.le_of_ble_eq_true rfl) fc_8 (by decide) rfl e1 C33 (Nat.le_of_eq (Nat.add_zero _)) (Nat.le_of_eq (Nat.add_zero _)) (fun _ _ h => h) ?_
    rintro _ h34 ⟨r35, rfl, K1⟩ -
    replace K := K r35 h34 K1
    show Gm l x mX8_anew 12 75 [(0, .ref a0), (1, .int x1), (2, .int x2), (3, .int x3), (4, .int x4), (5, .int x5)] [.int r35, .int x4] h34 rc rs n0 Q X
    refine g_max dX8_anew_75 bw_1694 bw_944 bw_14 bw_945 (by decide) (Nat.le_of_ble_eq_true rfl) ?_
    refine g_istore (lv' := [(0, .ref a0), (1, .int x1), (2, .int x2), (3, .int x3), (4, .int (if x4 < r35 then r35 else x4)), (5, .int x5)]) dX8_anew_78 (by decide) rfl ?_
    refine g_iinc (v := (x5 + 1)) (lv' := [(0, .ref a0), (1, .int x1), (2, .int x2), (3, .int x3), (4, .int (if x4 < r35 then r35 else x4)), (5, .int (x5 + 1))]) dX8_anew_80 5 rfl (by rfl) (by decide) rfl ?_
    refine g_goto (tgt := 53) dX8_anew_83 (by decide) ?_
    exact K
