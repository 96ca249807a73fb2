/-! STEPS, printed by program: M3 -/
theorem dX8_steps_0 : decode cX8_steps 0 = .ok (.aload_n 0, 1) := by decide +kernel
theorem dX8_steps_1 : decode cX8_steps 1 = .ok (.iload_n 1, 1) := by decide +kernel
theorem dX8_steps_2 : decode cX8_steps 2 = .ok (.iconst 2, 1) := by decide +kernel
theorem dX8_steps_3 : decode cX8_steps 3 = .ok (.invokevirtual 238, 3) := by decide +kernel
theorem dX8_steps_6 : decode cX8_steps 6 = .ok (.ifCond .le 17, 3) := by decide +kernel
theorem dX8_steps_9 : decode cX8_steps 9 = .ok (.aload_n 0, 1) := by decide +kernel
theorem dX8_steps_10 : decode cX8_steps 10 = .ok (.iload_n 1, 1) := by decide +kernel
theorem dX8_steps_11 : decode cX8_steps 11 = .ok (.iconst 2, 1) := by decide +kernel
theorem dX8_steps_12 : decode cX8_steps 12 = .ok (.aload_n 0, 1) := by decide +kernel
theorem dX8_steps_13 : decode cX8_steps 13 = .ok (.iload_n 1, 1) := by decide +kernel
theorem dX8_steps_14 : decode cX8_steps 14 = .ok (.iconst 2, 1) := by decide +kernel
theorem dX8_steps_15 : decode cX8_steps 15 = .ok (.invokevirtual 238, 3) := by decide +kernel
theorem dX8_steps_18 : decode cX8_steps 18 = .ok (.iconst 1, 1) := by decide +kernel
theorem dX8_steps_19 : decode cX8_steps 19 = .ok (.isub, 1) := by decide +kernel
theorem dX8_steps_20 : decode cX8_steps 20 = .ok (.invokevirtual 221, 3) := by decide +kernel
theorem dX8_steps_23 : decode cX8_steps 23 = .ok (.aload_n 0, 1) := by decide +kernel
theorem dX8_steps_24 : decode cX8_steps 24 = .ok (.iload_n 1, 1) := by decide +kernel
theorem dX8_steps_25 : decode cX8_steps 25 = .ok (.iconst 2, 1) := by decide +kernel
theorem dX8_steps_26 : decode cX8_steps 26 = .ok (.invokevirtual 238, 3) := by decide +kernel
theorem dX8_steps_29 : decode cX8_steps 29 = .ok (.ifCond .le 5, 3) := by decide +kernel
theorem dX8_steps_32 : decode cX8_steps 32 = .ok (.iconst 0, 1) := by decide +kernel
theorem dX8_steps_33 : decode cX8_steps 33 = .ok (.ireturn, 1) := by decide +kernel
theorem dX8_steps_34 : decode cX8_steps 34 = .ok (.aload_n 0, 1) := by decide +kernel
theorem dX8_steps_35 : decode cX8_steps 35 = .ok (.iload_n 1, 1) := by decide +kernel
theorem dX8_steps_36 : decode cX8_steps 36 = .ok (.invokevirtual 298, 3) := by decide +kernel
theorem dX8_steps_39 : decode cX8_steps 39 = .ok (.istore_n 2, 1) := by decide +kernel
theorem dX8_steps_40 : decode cX8_steps 40 = .ok (.iload_n 2, 1) := by decide +kernel
theorem dX8_steps_41 : decode cX8_steps 41 = .ok (.ifCond .eq 11, 3) := by decide +kernel
theorem dX8_steps_44 : decode cX8_steps 44 = .ok (.aload_n 0, 1) := by decide +kernel
theorem dX8_steps_45 : decode cX8_steps 45 = .ok (.iload_n 1, 1) := by decide +kernel
theorem dX8_steps_46 : decode cX8_steps 46 = .ok (.invokevirtual 301, 3) := by decide +kernel
theorem dX8_steps_49 : decode cX8_steps 49 = .ok (.goto 8, 3) := by decide +kernel
theorem dX8_steps_52 : decode cX8_steps 52 = .ok (.aload_n 0, 1) := by decide +kernel
theorem dX8_steps_53 : decode cX8_steps 53 = .ok (.iload_n 1, 1) := by decide +kernel
theorem dX8_steps_54 : decode cX8_steps 54 = .ok (.invokevirtual 304, 3) := by decide +kernel
theorem dX8_steps_57 : decode cX8_steps 57 = .ok (.iload_n 2, 1) := by decide +kernel
theorem dX8_steps_58 : decode cX8_steps 58 = .ok (.ireturn, 1) := by decide +kernel
set_option maxRecDepth 20000 in
set_option maxHeartbeats 4000000 in
theorem vX8_steps_0 {l : Launch} {x : CX} {a0 : Nat} {x1 : Int32} {h : PH} {rc rs n0 : Nat} {Q : Option Value → PH → Prop} {X : String → PH → Prop}
    (K : ((hK h a0).1 = 8) ∧ ∃ (q1 : Int32 → PH → Prop), CI l x mX8_carOf 0 0 0 [.ref a0, .int x1, .int 2] h q1 ∧ ∀ (r5 : Int32) (h4 : PH), q1 r5 h4 → ((r5 ≤ 0 → ((hK h4 a0).1 = 8) ∧ ∃ (q7 : Int32 → PH → Prop), CI l x mX8_carOf 0 0 0 [.ref a0, .int x1, .int 2] h4 q7 ∧ ∀ (r11 : Int32) (h10 : PH), q7 r11 h10 → ((r11 ≤ 0 → ((hK h10 a0).1 = 8) ∧ ∃ (q13 : Int32 → PH → Prop), CI l x mX8_opensHere 4 0 0 [.ref a0, .int x1] h10 q13 ∧ ∀ (r17 : Int32) (h16 : PH), q13 r17 h16 → ((r17 = 0 → ((hK h16 a0).1 = 8) ∧ ∃ (q19 : PH → Prop), CV l x mX8_goes 5 0 0 [.ref a0, .int x1] h16 q19 ∧ ∀ (h22 : PH), q19 h22 → ((r17 : Int32) = 0 ∨ (r17 : Int32) = 1) ∧ Q (some (.int r17)) h22) ∧ (¬ r17 = 0 → ((hK h16 a0).1 = 8) ∧ ∃ (q23 : PH → Prop), CV l x mX8_opens 5 0 0 [.ref a0, .int x1] h16 q23 ∧ ∀ (h26 : PH), q23 h26 → ((r17 : Int32) = 0 ∨ (r17 : Int32) = 1) ∧ Q (some (.int r17)) h26))) ∧ (¬ r11 ≤ 0 → ((0 : Int32) = 0 ∨ (0 : Int32) = 1) ∧ Q (some (.int 0)) h10))) ∧ (¬ r5 ≤ 0 → ((hK h4 a0).1 = 8) ∧ ∃ (q27 : Int32 → PH → Prop), CI l x mX8_carOf 0 0 0 [.ref a0, .int x1, .int 2] h4 q27 ∧ ∀ (r31 : Int32) (h30 : PH), q27 r31 h30 → ((hK h30 a0).1 = 8) ∧ ∃ (q32 : PH → Prop), CV l x mX8_putCar 0 0 0 [.ref a0, .int x1, .int 2, .int (r31 - 1)] h30 q32 ∧ ∀ (h35 : PH), q32 h35 → ((hK h35 a0).1 = 8) ∧ ∃ (q36 : Int32 → PH → Prop), CI l x mX8_carOf 0 0 0 [.ref a0, .int x1, .int 2] h35 q36 ∧ ∀ (r40 : Int32) (h39 : PH), q36 r40 h39 → ((r40 ≤ 0 → ((hK h39 a0).1 = 8) ∧ ∃ (q42 : Int32 → PH → Prop), CI l x mX8_opensHere 4 0 0 [.ref a0, .int x1] h39 q42 ∧ ∀ (r46 : Int32) (h45 : PH), q42 r46 h45 → ((r46 = 0 → ((hK h45 a0).1 = 8) ∧ ∃ (q48 : PH → Prop), CV l x mX8_goes 5 0 0 [.ref a0, .int x1] h45 q48 ∧ ∀ (h51 : PH), q48 h51 → ((r46 : Int32) = 0 ∨ (r46 : Int32) = 1) ∧ Q (some (.int r46)) h51) ∧ (¬ r46 = 0 → ((hK h45 a0).1 = 8) ∧ ∃ (q52 : PH → Prop), CV l x mX8_opens 5 0 0 [.ref a0, .int x1] h45 q52 ∧ ∀ (h55 : PH), q52 h55 → ((r46 : Int32) = 0 ∨ (r46 : Int32) = 1) ∧ Q (some (.int r46)) h55))) ∧ (¬ r40 ≤ 0 → ((0 : Int32) = 0 ∨ (0 : Int32) = 1) ∧ Q (some (.int 0)) h39))))) :
    Gm l x mX8_steps 6 0 [(0, .ref a0), (1, .int x1)] [] h rc rs n0 Q X := by
  refine g_aload_n dX8_steps_0 rfl 0 rfl ?_
  refine g_iload_n dX8_steps_1 rfl 1 rfl ?_
  refine g_iconst (v := 2) dX8_steps_2 (by decide) ?_
  obtain ⟨e3, K⟩ := K
  obtain ⟨q1, C2, K⟩ := K
  refine g_callV (M' := mX8_carOf) (b := a0) (As := [.int x1, .int 2]) (rest := []) dX8_steps_3 bw_1475 bw_1477 bs_68 bw_9 bw_1478 ⟨by decide +kernel, by decide +kernel, show (parseMethodDescriptor mX8_carOf.1.desc).map (fun d => d.parameters.length) = some 2 by decide +kernel⟩ (by decide) (by decide) (Nat.le_of_ble_eq_true rfl) fc_8 (by decide) rfl e3 C2 (Nat.zero_le _) (Nat.zero_le _) (fun _ _ h => h) ?_
  rintro _ h4 ⟨r5, rfl, K1⟩ -
  replace K := K r5 h4 K1
  show Gm l x mX8_steps 6 6 [(0, .ref a0), (1, .int x1)] [.int r5] h4 rc rs n0 Q X
  refine g_if_le (tgt := 23) dX8_steps_6 (by decide) (fun c6 => ?_) (fun c6 => ?_)
  · replace K := K.1 c6
    refine g_aload_n dX8_steps_23 rfl 0 rfl ?_
    refine g_iload_n dX8_steps_24 rfl 1 rfl ?_
    refine g_iconst (v := 2) dX8_steps_25 (by decide) ?_
    obtain ⟨e9, K⟩ := K
    obtain ⟨q7, C8, K⟩ := K
    refine g_callV (M' := mX8_carOf) (b := a0) (As := [.int x1, .int 2]) (rest := []) dX8_steps_26 bw_1475 bw_1477 bs_68 bw_9 bw_1478 ⟨by decide +kernel, by decide +kernel, show (parseMethodDescriptor mX8_carOf.1.desc).map (fun d => d.parameters.length) = some 2 by decide +kernel⟩ (by decide) (by decide) (Nat.le_of_ble_eq_true rfl) fc_8 (by decide) rfl e9 C8 (Nat.zero_le _) (Nat.zero_le _) (fun _ _ h => h) ?_
    rintro _ h10 ⟨r11, rfl, K1⟩ -
    replace K := K r11 h10 K1
    show Gm l x mX8_steps 6 29 [(0, .ref a0), (1, .int x1)] [.int r11] h10 rc rs n0 Q X
    refine g_if_le (tgt := 34) dX8_steps_29 (by decide) (fun c12 => ?_) (fun c12 => ?_)
    · replace K := K.1 c12
      refine g_aload_n dX8_steps_34 rfl 0 rfl ?_
      refine g_iload_n dX8_steps_35 rfl 1 rfl ?_
      obtain ⟨e15, K⟩ := K
      obtain ⟨q13, C14, K⟩ := K
      refine g_callV (M' := mX8_opensHere) (b := a0) (As := [.int x1]) (rest := []) dX8_steps_36 bw_1496 bw_1498 bs_73 bw_9 bw_1499 ⟨by decide +kernel, by decide +kernel, show (parseMethodDescriptor mX8_opensHere.1.desc).map (fun d => d.parameters.length) = some 1 by decide +kernel⟩ (by decide) (by decide) (Nat.le_of_ble_eq_true rfl) fc_8 (by decide) rfl e15 C14 (Nat.zero_le _) (Nat.zero_le _) (fun _ _ h => h) ?_
      rintro _ h16 ⟨r17, rfl, K1⟩ -
      replace K := K r17 h16 K1
      show Gm l x mX8_steps 6 39 [(0, .ref a0), (1, .int x1)] [.int r17] h16 rc rs n0 Q X
      refine g_istore_n (lv' := [(0, .ref a0), (1, .int x1), (2, .int r17)]) dX8_steps_39 rfl (by decide) rfl ?_
      refine g_iload_n dX8_steps_40 rfl 2 rfl ?_
      refine g_if_eq (tgt := 52) dX8_steps_41 (by decide) (fun c18 => ?_) (fun c18 => ?_)
      · replace K := K.1 c18
        refine g_aload_n dX8_steps_52 rfl 0 rfl ?_
        refine g_iload_n dX8_steps_53 rfl 1 rfl ?_
        obtain ⟨e21, K⟩ := K
        obtain ⟨q19, C20, K⟩ := K
        refine g_callV (M' := mX8_goes) (b := a0) (As := [.int x1]) (rest := []) dX8_steps_54 bw_1547 bw_1549 bs_82 bw_9 bw_1550 ⟨by decide +kernel, by decide +kernel, show (parseMethodDescriptor mX8_goes.1.desc).map (fun d => d.parameters.length) = some 1 by decide +kernel⟩ (by decide) (by decide) (Nat.le_of_ble_eq_true rfl) fc_8 (by decide) rfl e21 C20 (Nat.zero_le _) (Nat.zero_le _) (fun _ _ h => h) ?_
        rintro _ h22 ⟨rfl, K1⟩ -
        replace K := K h22 K1
        show Gm l x mX8_steps 6 57 [(0, .ref a0), (1, .int x1), (2, .int r17)] [] h22 rc rs n0 Q X
        refine g_iload_n dX8_steps_57 rfl 2 rfl ?_
        exact g_zret dX8_steps_58 rfl K.1 K.2
      · replace K := K.2 c18
        refine g_aload_n dX8_steps_44 rfl 0 rfl ?_
        refine g_iload_n dX8_steps_45 rfl 1 rfl ?_
        obtain ⟨e25, K⟩ := K
        obtain ⟨q23, C24, K⟩ := K
        refine g_callV (M' := mX8_opens) (b := a0) (As := [.int x1]) (rest := []) dX8_steps_46 bw_1517 bw_1519 bs_78 bw_9 bw_1520 ⟨by decide +kernel, by decide +kernel, show (parseMethodDescriptor mX8_opens.1.desc).map (fun d => d.parameters.length) = some 1 by decide +kernel⟩ (by decide) (by decide) (Nat.le_of_ble_eq_true rfl) fc_8 (by decide) rfl e25 C24 (Nat.zero_le _) (Nat.zero_le _) (fun _ _ h => h) ?_
        rintro _ h26 ⟨rfl, K1⟩ -
        replace K := K h26 K1
        show Gm l x mX8_steps 6 49 [(0, .ref a0), (1, .int x1), (2, .int r17)] [] h26 rc rs n0 Q X
        refine g_goto (tgt := 57) dX8_steps_49 (by decide) ?_
        refine g_iload_n dX8_steps_57 rfl 2 rfl ?_
        exact g_zret dX8_steps_58 rfl K.1 K.2
    · replace K := K.2 c12
      refine g_iconst (v := 0) dX8_steps_32 (by decide) ?_
      exact g_zret dX8_steps_33 rfl K.1 K.2
  · replace K := K.2 c6
    refine g_aload_n dX8_steps_9 rfl 0 rfl ?_
    refine g_iload_n dX8_steps_10 rfl 1 rfl ?_
    refine g_iconst (v := 2) dX8_steps_11 (by decide) ?_
    refine g_aload_n dX8_steps_12 rfl 0 rfl ?_
    refine g_iload_n dX8_steps_13 rfl 1 rfl ?_
    refine g_iconst (v := 2) dX8_steps_14 (by decide) ?_
    obtain ⟨e29, K⟩ := K
    obtain ⟨q27, C28, K⟩ := K
    refine g_callV (M' := mX8_carOf) (b := a0) (As := [.int x1, .int 2]) (rest := [.int 2, .int x1, .ref a0]) dX8_steps_15 bw_1475 bw_1477 bs_68 bw_9 bw_1478 ⟨by decide +kernel, by decide +kernel, show (parseMethodDescriptor mX8_carOf.1.desc).map (fun d => d.parameters.length) = some 2 by decide +kernel⟩ (by decide) (by decide) (Nat.le_of_ble_eq_true rfl) fc_8 (by decide) rfl e29 C28 (Nat.zero_le _) (Nat.zero_le _) (fun _ _ h => h) ?_
    rintro _ h30 ⟨r31, rfl, K1⟩ -
    replace K := K r31 h30 K1
    show Gm l x mX8_steps 6 18 [(0, .ref a0), (1, .int x1)] [.int r31, .int 2, .int x1, .ref a0] h30 rc rs n0 Q X
    refine g_iconst (v := 1) dX8_steps_18 (by decide) ?_
    refine g_isub dX8_steps_19 ?_
    obtain ⟨e34, K⟩ := K
    obtain ⟨q32, C33, K⟩ := K
    refine g_callV (M' := mX8_putCar) (b := a0) (As := [.int x1, .int 2, .int (r31 - 1)]) (rest := []) dX8_steps_20 bw_1189 bw_1191 bs_38 bw_9 bw_1192 ⟨by decide +kernel, by decide +kernel, show (parseMethodDescriptor mX8_putCar.1.desc).map (fun d => d.parameters.length) = some 3 by decide +kernel⟩ (by decide) (by decide) (Nat.le_of_ble_eq_true rfl) fc_8 (by decide) rfl e34 C33 (Nat.zero_le _) (Nat.zero_le _) (fun _ _ h => h) ?_
    rintro _ h35 ⟨rfl, K1⟩ -
    replace K := K h35 K1
    show Gm l x mX8_steps 6 23 [(0, .ref a0), (1, .int x1)] [] h35 rc rs n0 Q X
    refine g_aload_n dX8_steps_23 rfl 0 rfl ?_
    refine g_iload_n dX8_steps_24 rfl 1 rfl ?_
    refine g_iconst (v := 2) dX8_steps_25 (by decide) ?_
    obtain ⟨e38, K⟩ := K
    obtain ⟨q36, C37, K⟩ := K
    refine g_callV (M' := mX8_carOf) (b := a0) (As := [.int x1, .int 2]) (rest := []) dX8_steps_26 bw_1475 bw_1477 bs_68 bw_9 bw_1478 ⟨by decide +kernel, by decide +kernel, show (parseMethodDescriptor mX8_carOf.1.desc).map (fun d => d.parameters.length) = some 2 by decide +kernel⟩ (by decide) (by decide) (Nat.le_of_ble_eq_true rfl) fc_8 (by decide) rfl e38 C37 (Nat.zero_le _) (Nat.zero_le _) (fun _ _ h => h) ?_
    rintro _ h39 ⟨r40, rfl, K1⟩ -
    replace K := K r40 h39 K1
    show Gm l x mX8_steps 6 29 [(0, .ref a0), (1, .int x1)] [.int r40] h39 rc rs n0 Q X
    refine g_if_le (tgt := 34) dX8_steps_29 (by decide) (fun c41 => ?_) (fun c41 => ?_)
    · replace K := K.1 c41
      refine g_aload_n dX8_steps_34 rfl 0 rfl ?_
      refine g_iload_n dX8_steps_35 rfl 1 rfl ?_
      obtain ⟨e44, K⟩ := K
      obtain ⟨q42, C43, K⟩ := K
      refine g_callV (M' := mX8_opensHere) (b := a0) (As := [.int x1]) (rest := []) dX8_steps_36 bw_1496 bw_1498 bs_73 bw_9 bw_1499 ⟨by decide +kernel, by decide +kernel, show (parseMethodDescriptor mX8_opensHere.1.desc).map (fun d => d.parameters.length) = some 1 by decide +kernel⟩ (by decide) (by decide) (Nat.le_of_ble_eq_true rfl) fc_8 (by decide) rfl e44 C43 (Nat.zero_le _) (Nat.zero_le _) (fun _ _ h => h) ?_
      rintro _ h45 ⟨r46, rfl, K1⟩ -
      replace K := K r46 h45 K1
      show Gm l x mX8_steps 6 39 [(0, .ref a0), (1, .int x1)] [.int r46] h45 rc rs n0 Q X
      refine g_istore_n (lv' := [(0, .ref a0), (1, .int x1), (2, .int r46)]) dX8_steps_39 rfl (by decide) rfl ?_
      refine g_iload_n dX8_steps_40 rfl 2 rfl ?_
      refine g_if_eq (tgt := 52) dX8_steps_41 (by decide) (fun c47 => ?_) (fun c47 => ?_)
      · replace K := K.1 c47
        refine g_aload_n dX8_steps_52 rfl 0 rfl ?_
        refine g_iload_n dX8_steps_53 rfl 1 rfl ?_
        obtain ⟨e50, K⟩ := K
        obtain ⟨q48, C49, K⟩ := K
        refine g_callV (M' := mX8_goes) (b := a0) (As := [.int x1]) (rest := []) dX8_steps_54 bw_1547 bw_1549 bs_82 bw_9 bw_1550 ⟨by decide +kernel, by decide +kernel, show (parseMethodDescriptor mX8_goes.1.desc).map (fun d => d.parameters.length) = some 1 by decide +kernel⟩ (by decide) (by decide) (Nat.le_of_ble_eq_true rfl) fc_8 (by decide) rfl e50 C49 (Nat.zero_le _) (Nat.zero_le _) (fun _ _ h => h) ?_
        rintro _ h51 ⟨rfl, K1⟩ -
        replace K := K h51 K1
        show Gm l x mX8_steps 6 57 [(0, .ref a0), (1, .int x1), (2, .int r46)] [] h51 rc rs n0 Q X
        refine g_iload_n dX8_steps_57 rfl 2 rfl ?_
        exact g_zret dX8_steps_58 rfl K.1 K.2
      · replace K := K.2 c47
        refine g_aload_n dX8_steps_44 rfl 0 rfl ?_
        refine g_iload_n dX8_steps_45 rfl 1 rfl ?_
        obtain ⟨e54, K⟩ := K
        obtain ⟨q52, C53, K⟩ := K
        refine g_callV (M' := mX8_opens) (b := a0) (As := [.int x1]) (rest := []) dX8_steps_46 bw_1517 bw_1519 bs_78 bw_9 bw_1520 ⟨by decide +kernel, by decide +kernel, show (parseMethodDescriptor mX8_opens.1.desc).map (fun d => d.parameters.length) = some 1 by decide +kernel⟩ (by decide) (by decide) (Nat.le_of_ble_eq_true rfl) fc_8 (by decide) rfl e54 C53 (Nat.zero_le _) (Nat.zero_le _) (fun _ _ h => h) ?_
        rintro _ h55 ⟨rfl, K1⟩ -
        replace K := K h55 K1
        show Gm l x mX8_steps 6 49 [(0, .ref a0), (1, .int x1), (2, .int r46)] [] h55 rc rs n0 Q X
        refine g_goto (tgt := 57) dX8_steps_49 (by decide) ?_
        refine g_iload_n dX8_steps_57 rfl 2 rfl ?_
        exact g_zret dX8_steps_58 rfl K.1 K.2
    · replace K := K.2 c41
      refine g_iconst (v := 0) dX8_steps_32 (by decide) ?_
      exact g_zret dX8_steps_33 rfl K.1 K.2
theorem dX8_which_0 : decode cX8_which 0 = .ok (.iconst 0, 1) := by decide +kernel
theorem dX8_which_1 : decode cX8_which 1 = .ok (.istore_n 1, 1) := by decide +kernel
theorem dX8_which_2 : decode cX8_which 2 = .ok (.iload_n 1, 1) := by decide +kernel
theorem dX8_which_3 : decode cX8_which 3 = .ok (.aload_n 0, 1) := by decide +kernel
theorem dX8_which_4 : decode cX8_which 4 = .ok (.getfield 23, 3) := by decide +kernel
theorem dX8_which_7 : decode cX8_which 7 = .ok (.arraylength, 1) := by decide +kernel
theorem dX8_which_8 : decode cX8_which 8 = .ok (.if_icmp .ge 24, 3) := by decide +kernel
theorem dX8_which_11 : decode cX8_which 11 = .ok (.aload_n 0, 1) := by decide +kernel
theorem dX8_which_12 : decode cX8_which 12 = .ok (.aload_n 0, 1) := by decide +kernel
theorem dX8_which_13 : decode cX8_which 13 = .ok (.getfield 23, 3) := by decide +kernel
theorem dX8_which_16 : decode cX8_which 16 = .ok (.iload_n 1, 1) := by decide +kernel
theorem dX8_which_17 : decode cX8_which 17 = .ok (.aaload, 1) := by decide +kernel
theorem dX8_which_18 : decode cX8_which 18 = .ok (.invokevirtual 160, 3) := by decide +kernel
theorem dX8_which_21 : decode cX8_which 21 = .ok (.ifCond .eq 5, 3) := by decide +kernel
theorem dX8_which_24 : decode cX8_which 24 = .ok (.iload_n 1, 1) := by decide +kernel
theorem dX8_which_25 : decode cX8_which 25 = .ok (.ireturn, 1) := by decide +kernel
theorem dX8_which_26 : decode cX8_which 26 = .ok (.iinc 1 1, 3) := by decide +kernel
theorem dX8_which_29 : decode cX8_which 29 = .ok (.goto (-27), 3) := by decide +kernel
theorem dX8_which_32 : decode cX8_which 32 = .ok (.iconst (-1), 1) := by decide +kernel
theorem dX8_which_33 : decode cX8_which 33 = .ok (.ireturn, 1) := by decide +kernel
theorem dX8_readCar_0 : decode cX8_readCar 0 = .ok (.aload_n 0, 1) := by decide +kernel
theorem dX8_readCar_1 : decode cX8_readCar 1 = .ok (.getfield 39, 3) := by decide +kernel
theorem dX8_readCar_4 : decode cX8_readCar 4 = .ok (.iconst 1, 1) := by decide +kernel
theorem dX8_readCar_5 : decode cX8_readCar 5 = .ok (.iaload, 1) := by decide +kernel
theorem dX8_readCar_6 : decode cX8_readCar 6 = .ok (.iconst 4, 1) := by decide +kernel
theorem dX8_readCar_7 : decode cX8_readCar 7 = .ok (.if_icmp .ne 8, 3) := by decide +kernel
theorem dX8_readCar_10 : decode cX8_readCar 10 = .ok (.aload_n 0, 1) := by decide +kernel
theorem dX8_readCar_11 : decode cX8_readCar 11 = .ok (.iconst 2, 1) := by decide +kernel
theorem dX8_readCar_12 : decode cX8_readCar 12 = .ok (.invokevirtual 164, 3) := by decide +kernel
theorem dX8_readCar_15 : decode cX8_readCar 15 = .ok (.aload_n 0, 1) := by decide +kernel
theorem dX8_readCar_16 : decode cX8_readCar 16 = .ok (.getfield 146, 3) := by decide +kernel
theorem dX8_readCar_19 : decode cX8_readCar 19 = .ok (.ifCond .eq 4, 3) := by decide +kernel
theorem dX8_readCar_22 : decode cX8_readCar 22 = .ok (.return_, 1) := by decide +kernel
theorem dX8_readCar_23 : decode cX8_readCar 23 = .ok (.aload_n 0, 1) := by decide +kernel
theorem dX8_readCar_24 : decode cX8_readCar 24 = .ok (.invokevirtual 171, 3) := by decide +kernel
theorem dX8_readCar_27 : decode cX8_readCar 27 = .ok (.iconst 3, 1) := by decide +kernel
theorem dX8_readCar_28 : decode cX8_readCar 28 = .ok (.aload_n 0, 1) := by decide +kernel
theorem dX8_readCar_29 : decode cX8_readCar 29 = .ok (.getfield 39, 3) := by decide +kernel
theorem dX8_readCar_32 : decode cX8_readCar 32 = .ok (.iconst 1, 1) := by decide +kernel
theorem dX8_readCar_33 : decode cX8_readCar 33 = .ok (.iaload, 1) := by decide +kernel
theorem dX8_readCar_34 : decode cX8_readCar 34 = .ok (.imul, 1) := by decide +kernel
theorem dX8_readCar_35 : decode cX8_readCar 35 = .ok (.istore_n 1, 1) := by decide +kernel
theorem dX8_readCar_36 : decode cX8_readCar 36 = .ok (.aload_n 0, 1) := by decide +kernel
theorem dX8_readCar_37 : decode cX8_readCar 37 = .ok (.getfield 45, 3) := by decide +kernel
theorem dX8_readCar_40 : decode cX8_readCar 40 = .ok (.iload_n 1, 1) := by decide +kernel
theorem dX8_readCar_41 : decode cX8_readCar 41 = .ok (.aload_n 0, 1) := by decide +kernel
theorem dX8_readCar_42 : decode cX8_readCar 42 = .ok (.invokevirtual 174, 3) := by decide +kernel
theorem dX8_readCar_45 : decode cX8_readCar 45 = .ok (.iastore, 1) := by decide +kernel
theorem dX8_readCar_46 : decode cX8_readCar 46 = .ok (.aload_n 0, 1) := by decide +kernel
theorem dX8_readCar_47 : decode cX8_readCar 47 = .ok (.getfield 146, 3) := by decide +kernel
theorem dX8_readCar_50 : decode cX8_readCar 50 = .ok (.ifCond .ne 7, 3) := by decide +kernel
theorem dX8_readCar_53 : decode cX8_readCar 53 = .ok (.aload_n 0, 1) := by decide +kernel
theorem dX8_readCar_54 : decode cX8_readCar 54 = .ok (.invokevirtual 171, 3) := by decide +kernel
theorem dX8_readCar_57 : decode cX8_readCar 57 = .ok (.aload_n 0, 1) := by decide +kernel
theorem dX8_readCar_58 : decode cX8_readCar 58 = .ok (.getfield 45, 3) := by decide +kernel
theorem dX8_readCar_61 : decode cX8_readCar 61 = .ok (.iload_n 1, 1) := by decide +kernel
theorem dX8_readCar_62 : decode cX8_readCar 62 = .ok (.iconst 1, 1) := by decide +kernel
theorem dX8_readCar_63 : decode cX8_readCar 63 = .ok (.iadd, 1) := by decide +kernel
theorem dX8_readCar_64 : decode cX8_readCar 64 = .ok (.aload_n 0, 1) := by decide +kernel
theorem dX8_readCar_65 : decode cX8_readCar 65 = .ok (.iconst 1, 1) := by decide +kernel
theorem dX8_readCar_66 : decode cX8_readCar 66 = .ok (.bipush 6, 2) := by decide +kernel
theorem dX8_readCar_68 : decode cX8_readCar 68 = .ok (.invokevirtual 177, 3) := by decide +kernel
theorem dX8_readCar_71 : decode cX8_readCar 71 = .ok (.iastore, 1) := by decide +kernel
theorem dX8_readCar_72 : decode cX8_readCar 72 = .ok (.aload_n 0, 1) := by decide +kernel
theorem dX8_readCar_73 : decode cX8_readCar 73 = .ok (.getfield 45, 3) := by decide +kernel
theorem dX8_readCar_76 : decode cX8_readCar 76 = .ok (.iload_n 1, 1) := by decide +kernel
theorem dX8_readCar_77 : decode cX8_readCar 77 = .ok (.iconst 2, 1) := by decide +kernel
theorem dX8_readCar_78 : decode cX8_readCar 78 = .ok (.iadd, 1) := by decide +kernel
theorem dX8_readCar_79 : decode cX8_readCar 79 = .ok (.aload_n 0, 1) := by decide +kernel
theorem dX8_readCar_80 : decode cX8_readCar 80 = .ok (.ldc 180, 2) := by decide +kernel
theorem dX8_readCar_82 : decode cX8_readCar 82 = .ok (.invokevirtual 160, 3) := by decide +kernel
theorem dX8_readCar_85 : decode cX8_readCar 85 = .ok (.ifCond .eq 7, 3) := by decide +kernel
theorem dX8_readCar_88 : decode cX8_readCar 88 = .ok (.iconst 1, 1) := by decide +kernel
theorem dX8_readCar_89 : decode cX8_readCar 89 = .ok (.goto 17, 3) := by decide +kernel
theorem dX8_readCar_92 : decode cX8_readCar 92 = .ok (.aload_n 0, 1) := by decide +kernel
theorem dX8_readCar_93 : decode cX8_readCar 93 = .ok (.ldc 182, 2) := by decide +kernel
theorem dX8_readCar_95 : decode cX8_readCar 95 = .ok (.invokevirtual 160, 3) := by decide +kernel
theorem dX8_readCar_98 : decode cX8_readCar 98 = .ok (.ifCond .eq 7, 3) := by decide +kernel
theorem dX8_readCar_101 : decode cX8_readCar 101 = .ok (.iconst 2, 1) := by decide +kernel
theorem dX8_readCar_102 : decode cX8_readCar 102 = .ok (.goto 4, 3) := by decide +kernel
theorem dX8_readCar_105 : decode cX8_readCar 105 = .ok (.iconst 0, 1) := by decide +kernel
theorem dX8_readCar_106 : decode cX8_readCar 106 = .ok (.iastore, 1) := by decide +kernel
theorem dX8_readCar_107 : decode cX8_readCar 107 = .ok (.aload_n 0, 1) := by decide +kernel
theorem dX8_readCar_108 : decode cX8_readCar 108 = .ok (.getfield 146, 3) := by decide +kernel
theorem dX8_readCar_111 : decode cX8_readCar 111 = .ok (.ifCond .ne 18, 3) := by decide +kernel
theorem dX8_readCar_114 : decode cX8_readCar 114 = .ok (.aload_n 0, 1) := by decide +kernel
theorem dX8_readCar_115 : decode cX8_readCar 115 = .ok (.getfield 45, 3) := by decide +kernel
theorem dX8_readCar_118 : decode cX8_readCar 118 = .ok (.iload_n 1, 1) := by decide +kernel
theorem dX8_readCar_119 : decode cX8_readCar 119 = .ok (.iconst 2, 1) := by decide +kernel
theorem dX8_readCar_120 : decode cX8_readCar 120 = .ok (.iadd, 1) := by decide +kernel
theorem dX8_readCar_121 : decode cX8_readCar 121 = .ok (.iaload, 1) := by decide +kernel
theorem dX8_readCar_122 : decode cX8_readCar 122 = .ok (.ifCond .le 7, 3) := by decide +kernel
theorem dX8_readCar_125 : decode cX8_readCar 125 = .ok (.aload_n 0, 1) := by decide +kernel
theorem dX8_readCar_126 : decode cX8_readCar 126 = .ok (.invokevirtual 171, 3) := by decide +kernel
theorem dX8_readCar_129 : decode cX8_readCar 129 = .ok (.aload_n 0, 1) := by decide +kernel
theorem dX8_readCar_130 : decode cX8_readCar 130 = .ok (.getfield 39, 3) := by decide +kernel
theorem dX8_readCar_133 : decode cX8_readCar 133 = .ok (.iconst 1, 1) := by decide +kernel
theorem dX8_readCar_134 : decode cX8_readCar 134 = .ok (.dup2, 1) := by decide +kernel
theorem dX8_readCar_135 : decode cX8_readCar 135 = .ok (.iaload, 1) := by decide +kernel
theorem dX8_readCar_136 : decode cX8_readCar 136 = .ok (.iconst 1, 1) := by decide +kernel
theorem dX8_readCar_137 : decode cX8_readCar 137 = .ok (.iadd, 1) := by decide +kernel
theorem dX8_readCar_138 : decode cX8_readCar 138 = .ok (.iastore, 1) := by decide +kernel
theorem dX8_readCar_139 : decode cX8_readCar 139 = .ok (.return_, 1) := by decide +kernel
theorem dX8_readRider_0 : decode cX8_readRider 0 = .ok (.aload_n 0, 1) := by decide +kernel
theorem dX8_readRider_1 : decode cX8_readRider 1 = .ok (.getfield 39, 3) := by decide +kernel
theorem dX8_readRider_4 : decode cX8_readRider 4 = .ok (.iconst 2, 1) := by decide +kernel
theorem dX8_readRider_5 : decode cX8_readRider 5 = .ok (.iaload, 1) := by decide +kernel
theorem dX8_readRider_6 : decode cX8_readRider 6 = .ok (.bipush 20, 2) := by decide +kernel
theorem dX8_readRider_8 : decode cX8_readRider 8 = .ok (.if_icmp .ne 8, 3) := by decide +kernel
theorem dX8_readRider_11 : decode cX8_readRider 11 = .ok (.aload_n 0, 1) := by decide +kernel
theorem dX8_readRider_12 : decode cX8_readRider 12 = .ok (.iconst 2, 1) := by decide +kernel
theorem dX8_readRider_13 : decode cX8_readRider 13 = .ok (.invokevirtual 164, 3) := by decide +kernel
theorem dX8_readRider_16 : decode cX8_readRider 16 = .ok (.aload_n 0, 1) := by decide +kernel
theorem dX8_readRider_17 : decode cX8_readRider 17 = .ok (.getfield 146, 3) := by decide +kernel
theorem dX8_readRider_20 : decode cX8_readRider 20 = .ok (.ifCond .eq 4, 3) := by decide +kernel
theorem dX8_readRider_23 : decode cX8_readRider 23 = .ok (.return_, 1) := by decide +kernel
theorem dX8_readRider_24 : decode cX8_readRider 24 = .ok (.aload_n 0, 1) := by decide +kernel
theorem dX8_readRider_25 : decode cX8_readRider 25 = .ok (.invokevirtual 171, 3) := by decide +kernel
theorem dX8_readRider_28 : decode cX8_readRider 28 = .ok (.iconst 4, 1) := by decide +kernel
theorem dX8_readRider_29 : decode cX8_readRider 29 = .ok (.aload_n 0, 1) := by decide +kernel
theorem dX8_readRider_30 : decode cX8_readRider 30 = .ok (.getfield 39, 3) := by decide +kernel
theorem dX8_readRider_33 : decode cX8_readRider 33 = .ok (.iconst 2, 1) := by decide +kernel
theorem dX8_readRider_34 : decode cX8_readRider 34 = .ok (.iaload, 1) := by decide +kernel
theorem dX8_readRider_35 : decode cX8_readRider 35 = .ok (.imul, 1) := by decide +kernel
theorem dX8_readRider_36 : decode cX8_readRider 36 = .ok (.istore_n 1, 1) := by decide +kernel
theorem dX8_readRider_37 : decode cX8_readRider 37 = .ok (.aload_n 0, 1) := by decide +kernel
theorem dX8_readRider_38 : decode cX8_readRider 38 = .ok (.getfield 51, 3) := by decide +kernel
theorem dX8_readRider_41 : decode cX8_readRider 41 = .ok (.iload_n 1, 1) := by decide +kernel
theorem dX8_readRider_42 : decode cX8_readRider 42 = .ok (.iconst 1, 1) := by decide +kernel
theorem dX8_readRider_43 : decode cX8_readRider 43 = .ok (.iadd, 1) := by decide +kernel
theorem dX8_readRider_44 : decode cX8_readRider 44 = .ok (.aload_n 0, 1) := by decide +kernel
theorem dX8_readRider_45 : decode cX8_readRider 45 = .ok (.iconst 0, 1) := by decide +kernel
theorem dX8_readRider_46 : decode cX8_readRider 46 = .ok (.bipush 99, 2) := by decide +kernel
theorem dX8_readRider_48 : decode cX8_readRider 48 = .ok (.invokevirtual 177, 3) := by decide +kernel
theorem dX8_readRider_51 : decode cX8_readRider 51 = .ok (.iastore, 1) := by decide +kernel
theorem dX8_readRider_52 : decode cX8_readRider 52 = .ok (.aload_n 0, 1) := by decide +kernel
theorem dX8_readRider_53 : decode cX8_readRider 53 = .ok (.getfield 51, 3) := by decide +kernel
theorem dX8_readRider_56 : decode cX8_readRider 56 = .ok (.iload_n 1, 1) := by decide +kernel
theorem dX8_readRider_57 : decode cX8_readRider 57 = .ok (.iconst 2, 1) := by decide +kernel
theorem dX8_readRider_58 : decode cX8_readRider 58 = .ok (.iadd, 1) := by decide +kernel
theorem dX8_readRider_59 : decode cX8_readRider 59 = .ok (.aload_n 0, 1) := by decide +kernel
theorem dX8_readRider_60 : decode cX8_readRider 60 = .ok (.invokevirtual 174, 3) := by decide +kernel
theorem dX8_readRider_63 : decode cX8_readRider 63 = .ok (.iastore, 1) := by decide +kernel
theorem dX8_readRider_64 : decode cX8_readRider 64 = .ok (.aload_n 0, 1) := by decide +kernel
theorem dX8_readRider_65 : decode cX8_readRider 65 = .ok (.getfield 146, 3) := by decide +kernel
theorem dX8_readRider_68 : decode cX8_readRider 68 = .ok (.ifCond .ne 7, 3) := by decide +kernel
theorem dX8_readRider_71 : decode cX8_readRider 71 = .ok (.aload_n 0, 1) := by decide +kernel
theorem dX8_readRider_72 : decode cX8_readRider 72 = .ok (.invokevirtual 171, 3) := by decide +kernel
theorem dX8_readRider_75 : decode cX8_readRider 75 = .ok (.aload_n 0, 1) := by decide +kernel
theorem dX8_readRider_76 : decode cX8_readRider 76 = .ok (.getfield 51, 3) := by decide +kernel
theorem dX8_readRider_79 : decode cX8_readRider 79 = .ok (.iload_n 1, 1) := by decide +kernel
theorem dX8_readRider_80 : decode cX8_readRider 80 = .ok (.iconst 3, 1) := by decide +kernel
theorem dX8_readRider_81 : decode cX8_readRider 81 = .ok (.iadd, 1) := by decide +kernel
theorem dX8_readRider_82 : decode cX8_readRider 82 = .ok (.aload_n 0, 1) := by decide +kernel
theorem dX8_readRider_83 : decode cX8_readRider 83 = .ok (.invokevirtual 174, 3) := by decide +kernel
theorem dX8_readRider_86 : decode cX8_readRider 86 = .ok (.iastore, 1) := by decide +kernel
theorem dX8_readRider_87 : decode cX8_readRider 87 = .ok (.aload_n 0, 1) := by decide +kernel
theorem dX8_readRider_88 : decode cX8_readRider 88 = .ok (.getfield 146, 3) := by decide +kernel
theorem dX8_readRider_91 : decode cX8_readRider 91 = .ok (.ifCond .ne 27, 3) := by decide +kernel
theorem dX8_readRider_94 : decode cX8_readRider 94 = .ok (.aload_n 0, 1) := by decide +kernel
theorem dX8_readRider_95 : decode cX8_readRider 95 = .ok (.getfield 51, 3) := by decide +kernel
theorem dX8_readRider_98 : decode cX8_readRider 98 = .ok (.iload_n 1, 1) := by decide +kernel
theorem dX8_readRider_99 : decode cX8_readRider 99 = .ok (.iconst 3, 1) := by decide +kernel
theorem dX8_readRider_100 : decode cX8_readRider 100 = .ok (.iadd, 1) := by decide +kernel
theorem dX8_readRider_101 : decode cX8_readRider 101 = .ok (.iaload, 1) := by decide +kernel
theorem dX8_readRider_102 : decode cX8_readRider 102 = .ok (.aload_n 0, 1) := by decide +kernel
theorem dX8_readRider_103 : decode cX8_readRider 103 = .ok (.getfield 51, 3) := by decide +kernel
theorem dX8_readRider_106 : decode cX8_readRider 106 = .ok (.iload_n 1, 1) := by decide +kernel
theorem dX8_readRider_107 : decode cX8_readRider 107 = .ok (.iconst 2, 1) := by decide +kernel
theorem dX8_readRider_108 : decode cX8_readRider 108 = .ok (.iadd, 1) := by decide +kernel
theorem dX8_readRider_109 : decode cX8_readRider 109 = .ok (.iaload, 1) := by decide +kernel
theorem dX8_readRider_110 : decode cX8_readRider 110 = .ok (.if_icmp .ne 8, 3) := by decide +kernel
theorem dX8_readRider_113 : decode cX8_readRider 113 = .ok (.aload_n 0, 1) := by decide +kernel
theorem dX8_readRider_114 : decode cX8_readRider 114 = .ok (.iconst 5, 1) := by decide +kernel
theorem dX8_readRider_115 : decode cX8_readRider 115 = .ok (.invokevirtual 164, 3) := by decide +kernel
theorem dX8_readRider_118 : decode cX8_readRider 118 = .ok (.aload_n 0, 1) := by decide +kernel
theorem dX8_readRider_119 : decode cX8_readRider 119 = .ok (.getfield 146, 3) := by decide +kernel
theorem dX8_readRider_122 : decode cX8_readRider 122 = .ok (.ifCond .ne 7, 3) := by decide +kernel
theorem dX8_readRider_125 : decode cX8_readRider 125 = .ok (.aload_n 0, 1) := by decide +kernel
theorem dX8_readRider_126 : decode cX8_readRider 126 = .ok (.invokevirtual 171, 3) := by decide +kernel
theorem dX8_readRider_129 : decode cX8_readRider 129 = .ok (.aload_n 0, 1) := by decide +kernel
theorem dX8_readRider_130 : decode cX8_readRider 130 = .ok (.getfield 51, 3) := by decide +kernel
theorem dX8_readRider_133 : decode cX8_readRider 133 = .ok (.iload_n 1, 1) := by decide +kernel
theorem dX8_readRider_134 : decode cX8_readRider 134 = .ok (.aload_n 0, 1) := by decide +kernel
theorem dX8_readRider_135 : decode cX8_readRider 135 = .ok (.ldc 184, 2) := by decide +kernel
theorem dX8_readRider_137 : decode cX8_readRider 137 = .ok (.invokevirtual 160, 3) := by decide +kernel
theorem dX8_readRider_140 : decode cX8_readRider 140 = .ok (.ifCond .eq 7, 3) := by decide +kernel
theorem dX8_readRider_143 : decode cX8_readRider 143 = .ok (.iconst 2, 1) := by decide +kernel
theorem dX8_readRider_144 : decode cX8_readRider 144 = .ok (.goto 4, 3) := by decide +kernel
theorem dX8_readRider_147 : decode cX8_readRider 147 = .ok (.iconst 1, 1) := by decide +kernel
theorem dX8_readRider_148 : decode cX8_readRider 148 = .ok (.iastore, 1) := by decide +kernel
theorem dX8_readRider_149 : decode cX8_readRider 149 = .ok (.aload_n 0, 1) := by decide +kernel
theorem dX8_readRider_150 : decode cX8_readRider 150 = .ok (.getfield 146, 3) := by decide +kernel
theorem dX8_readRider_153 : decode cX8_readRider 153 = .ok (.ifCond .ne 17, 3) := by decide +kernel
theorem dX8_readRider_156 : decode cX8_readRider 156 = .ok (.aload_n 0, 1) := by decide +kernel
theorem dX8_readRider_157 : decode cX8_readRider 157 = .ok (.getfield 51, 3) := by decide +kernel
theorem dX8_readRider_160 : decode cX8_readRider 160 = .ok (.iload_n 1, 1) := by decide +kernel
theorem dX8_readRider_161 : decode cX8_readRider 161 = .ok (.iaload, 1) := by decide +kernel
theorem dX8_readRider_162 : decode cX8_readRider 162 = .ok (.iconst 2, 1) := by decide +kernel
theorem dX8_readRider_163 : decode cX8_readRider 163 = .ok (.if_icmp .ne 7, 3) := by decide +kernel
theorem dX8_readRider_166 : decode cX8_readRider 166 = .ok (.aload_n 0, 1) := by decide +kernel
theorem dX8_readRider_167 : decode cX8_readRider 167 = .ok (.invokevirtual 171, 3) := by decide +kernel
theorem dX8_readRider_170 : decode cX8_readRider 170 = .ok (.aload_n 0, 1) := by decide +kernel
theorem dX8_readRider_171 : decode cX8_readRider 171 = .ok (.getfield 39, 3) := by decide +kernel
theorem dX8_readRider_174 : decode cX8_readRider 174 = .ok (.iconst 2, 1) := by decide +kernel
theorem dX8_readRider_175 : decode cX8_readRider 175 = .ok (.dup2, 1) := by decide +kernel
theorem dX8_readRider_176 : decode cX8_readRider 176 = .ok (.iaload, 1) := by decide +kernel
theorem dX8_readRider_177 : decode cX8_readRider 177 = .ok (.iconst 1, 1) := by decide +kernel
theorem dX8_readRider_178 : decode cX8_readRider 178 = .ok (.iadd, 1) := by decide +kernel
theorem dX8_readRider_179 : decode cX8_readRider 179 = .ok (.iastore, 1) := by decide +kernel
theorem dX8_readRider_180 : decode cX8_readRider 180 = .ok (.return_, 1) := by decide +kernel
theorem dX8_costOf_0 : decode cX8_costOf 0 = .ok (.aload_n 0, 1) := by decide +kernel
theorem dX8_costOf_1 : decode cX8_costOf 1 = .ok (.getfield 61, 3) := by decide +kernel
theorem dX8_costOf_4 : decode cX8_costOf 4 = .ok (.aload_n 0, 1) := by decide +kernel
theorem dX8_costOf_5 : decode cX8_costOf 5 = .ok (.getfield 29, 3) := by decide +kernel
theorem dX8_costOf_8 : decode cX8_costOf 8 = .ok (.invokestatic 204, 3) := by decide +kernel
theorem dX8_costOf_11 : decode cX8_costOf 11 = .ok (.sipush 264, 3) := by decide +kernel
theorem dX8_costOf_14 : decode cX8_costOf 14 = .ok (.istore 5, 2) := by decide +kernel
theorem dX8_costOf_16 : decode cX8_costOf 16 = .ok (.iload 5, 2) := by decide +kernel
theorem dX8_costOf_18 : decode cX8_costOf 18 = .ok (.sipush 312, 3) := by decide +kernel
theorem dX8_costOf_21 : decode cX8_costOf 21 = .ok (.if_icmp .ge 40, 3) := by decide +kernel
theorem dX8_costOf_24 : decode cX8_costOf 24 = .ok (.aload_n 0, 1) := by decide +kernel
theorem dX8_costOf_25 : decode cX8_costOf 25 = .ok (.getfield 29, 3) := by decide +kernel
theorem dX8_costOf_28 : decode cX8_costOf 28 = .ok (.iload 5, 2) := by decide +kernel
theorem dX8_costOf_30 : decode cX8_costOf 30 = .ok (.aload_n 0, 1) := by decide +kernel
theorem dX8_costOf_31 : decode cX8_costOf 31 = .ok (.getfield 29, 3) := by decide +kernel
theorem dX8_costOf_34 : decode cX8_costOf 34 = .ok (.iload 5, 2) := by decide +kernel
theorem dX8_costOf_36 : decode cX8_costOf 36 = .ok (.iaload, 1) := by decide +kernel
theorem dX8_costOf_37 : decode cX8_costOf 37 = .ok (.iload_n 1, 1) := by decide +kernel
theorem dX8_costOf_38 : decode cX8_costOf 38 = .ok (.iconst 1, 1) := by decide +kernel
theorem dX8_costOf_39 : decode cX8_costOf 39 = .ok (.iadd, 1) := by decide +kernel
theorem dX8_costOf_40 : decode cX8_costOf 40 = .ok (.if_icmp .ne 13, 3) := by decide +kernel
theorem dX8_costOf_43 : decode cX8_costOf 43 = .ok (.aload_n 0, 1) := by decide +kernel
theorem dX8_costOf_44 : decode cX8_costOf 44 = .ok (.getfield 29, 3) := by decide +kernel
theorem dX8_costOf_47 : decode cX8_costOf 47 = .ok (.iload 5, 2) := by decide +kernel
theorem dX8_costOf_49 : decode cX8_costOf 49 = .ok (.iaload, 1) := by decide +kernel
theorem dX8_costOf_50 : decode cX8_costOf 50 = .ok (.goto 4, 3) := by decide +kernel
theorem dX8_costOf_53 : decode cX8_costOf 53 = .ok (.iconst 0, 1) := by decide +kernel
theorem dX8_costOf_54 : decode cX8_costOf 54 = .ok (.iastore, 1) := by decide +kernel
theorem dX8_costOf_55 : decode cX8_costOf 55 = .ok (.iinc 5 1, 3) := by decide +kernel
theorem dX8_costOf_58 : decode cX8_costOf 58 = .ok (.goto (-42), 3) := by decide +kernel
theorem dX8_costOf_61 : decode cX8_costOf 61 = .ok (.aload_n 0, 1) := by decide +kernel
theorem dX8_costOf_62 : decode cX8_costOf 62 = .ok (.getfield 29, 3) := by decide +kernel
theorem dX8_costOf_65 : decode cX8_costOf 65 = .ok (.iload_n 2, 1) := by decide +kernel
theorem dX8_costOf_66 : decode cX8_costOf 66 = .ok (.iload_n 3, 1) := by decide +kernel
theorem dX8_costOf_67 : decode cX8_costOf 67 = .ok (.iload 4, 2) := by decide +kernel
theorem dX8_costOf_69 : decode cX8_costOf 69 = .ok (.invokestatic 234, 3) := by decide +kernel
theorem dX8_costOf_72 : decode cX8_costOf 72 = .ok (.iload_n 1, 1) := by decide +kernel
theorem dX8_costOf_73 : decode cX8_costOf 73 = .ok (.iconst 1, 1) := by decide +kernel
theorem dX8_costOf_74 : decode cX8_costOf 74 = .ok (.iadd, 1) := by decide +kernel
theorem dX8_costOf_75 : decode cX8_costOf 75 = .ok (.iastore, 1) := by decide +kernel
theorem dX8_costOf_76 : decode cX8_costOf 76 = .ok (.bipush 60, 2) := by decide +kernel
theorem dX8_costOf_78 : decode cX8_costOf 78 = .ok (.istore 5, 2) := by decide +kernel
theorem dX8_costOf_80 : decode cX8_costOf 80 = .ok (.iconst 0, 1) := by decide +kernel
theorem dX8_costOf_81 : decode cX8_costOf 81 = .ok (.istore 6, 2) := by decide +kernel
theorem dX8_costOf_83 : decode cX8_costOf 83 = .ok (.iload 6, 2) := by decide +kernel
theorem dX8_costOf_85 : decode cX8_costOf 85 = .ok (.bipush 60, 2) := by decide +kernel
theorem dX8_costOf_87 : decode cX8_costOf 87 = .ok (.if_icmp .ge 53, 3) := by decide +kernel
theorem dX8_costOf_90 : decode cX8_costOf 90 = .ok (.iload 5, 2) := by decide +kernel
theorem dX8_costOf_92 : decode cX8_costOf 92 = .ok (.bipush 60, 2) := by decide +kernel
theorem dX8_costOf_94 : decode cX8_costOf 94 = .ok (.if_icmp .ne 46, 3) := by decide +kernel
theorem dX8_costOf_97 : decode cX8_costOf 97 = .ok (.aload_n 0, 1) := by decide +kernel
theorem dX8_costOf_98 : decode cX8_costOf 98 = .ok (.iload_n 1, 1) := by decide +kernel
theorem dX8_costOf_99 : decode cX8_costOf 99 = .ok (.invokevirtual 310, 3) := by decide +kernel
theorem dX8_costOf_102 : decode cX8_costOf 102 = .ok (.ifCond .eq 28, 3) := by decide +kernel
theorem dX8_costOf_105 : decode cX8_costOf 105 = .ok (.aload_n 0, 1) := by decide +kernel
theorem dX8_costOf_106 : decode cX8_costOf 106 = .ok (.iload_n 1, 1) := by decide +kernel
theorem dX8_costOf_107 : decode cX8_costOf 107 = .ok (.iconst 0, 1) := by decide +kernel
theorem dX8_costOf_108 : decode cX8_costOf 108 = .ok (.invokevirtual 238, 3) := by decide +kernel
theorem dX8_costOf_111 : decode cX8_costOf 111 = .ok (.iload_n 2, 1) := by decide +kernel
theorem dX8_costOf_112 : decode cX8_costOf 112 = .ok (.if_icmp .ne 18, 3) := by decide +kernel
theorem dX8_costOf_115 : decode cX8_costOf 115 = .ok (.aload_n 0, 1) := by decide +kernel
theorem dX8_costOf_116 : decode cX8_costOf 116 = .ok (.iload_n 1, 1) := by decide +kernel
theorem dX8_costOf_117 : decode cX8_costOf 117 = .ok (.iconst 1, 1) := by decide +kernel
theorem dX8_costOf_118 : decode cX8_costOf 118 = .ok (.invokevirtual 238, 3) := by decide +kernel
theorem dX8_costOf_121 : decode cX8_costOf 121 = .ok (.iload_n 3, 1) := by decide +kernel
theorem dX8_costOf_122 : decode cX8_costOf 122 = .ok (.if_icmp .ne 8, 3) := by decide +kernel
theorem dX8_costOf_125 : decode cX8_costOf 125 = .ok (.iload 6, 2) := by decide +kernel
theorem dX8_costOf_127 : decode cX8_costOf 127 = .ok (.goto 5, 3) := by decide +kernel
theorem dX8_costOf_130 : decode cX8_costOf 130 = .ok (.iload 5, 2) := by decide +kernel
theorem dX8_costOf_132 : decode cX8_costOf 132 = .ok (.istore 5, 2) := by decide +kernel
theorem dX8_costOf_134 : decode cX8_costOf 134 = .ok (.iinc 6 1, 3) := by decide +kernel
theorem dX8_costOf_137 : decode cX8_costOf 137 = .ok (.goto (-54), 3) := by decide +kernel
theorem dX8_costOf_140 : decode cX8_costOf 140 = .ok (.aload_n 0, 1) := by decide +kernel
theorem dX8_costOf_141 : decode cX8_costOf 141 = .ok (.getfield 29, 3) := by decide +kernel
theorem dX8_costOf_144 : decode cX8_costOf 144 = .ok (.aload_n 0, 1) := by decide +kernel
theorem dX8_costOf_145 : decode cX8_costOf 145 = .ok (.getfield 61, 3) := by decide +kernel
theorem dX8_costOf_148 : decode cX8_costOf 148 = .ok (.invokestatic 204, 3) := by decide +kernel
theorem dX8_costOf_151 : decode cX8_costOf 151 = .ok (.iload 5, 2) := by decide +kernel
theorem dX8_costOf_153 : decode cX8_costOf 153 = .ok (.ireturn, 1) := by decide +kernel
theorem dX8_readClause_0 : decode cX8_readClause 0 = .ok (.aload_n 0, 1) := by decide +kernel
theorem dX8_readClause_1 : decode cX8_readClause 1 = .ok (.invokevirtual 186, 3) := by decide +kernel
theorem dX8_readClause_4 : decode cX8_readClause 4 = .ok (.istore_n 1, 1) := by decide +kernel
theorem dX8_readClause_5 : decode cX8_readClause 5 = .ok (.iload_n 1, 1) := by decide +kernel
theorem dX8_readClause_6 : decode cX8_readClause 6 = .ok (.iconst (-1), 1) := by decide +kernel
theorem dX8_readClause_7 : decode cX8_readClause 7 = .ok (.if_icmp .ne 8, 3) := by decide +kernel
theorem dX8_readClause_10 : decode cX8_readClause 10 = .ok (.aload_n 0, 1) := by decide +kernel
theorem dX8_readClause_11 : decode cX8_readClause 11 = .ok (.iconst 1, 1) := by decide +kernel
theorem dX8_readClause_12 : decode cX8_readClause 12 = .ok (.invokevirtual 164, 3) := by decide +kernel
theorem dX8_readClause_15 : decode cX8_readClause 15 = .ok (.iload_n 1, 1) := by decide +kernel
theorem dX8_readClause_16 : decode cX8_readClause 16 = .ok (.ifCond .ne 10, 3) := by decide +kernel
theorem dX8_readClause_19 : decode cX8_readClause 19 = .ok (.aload_n 0, 1) := by decide +kernel
theorem dX8_readClause_20 : decode cX8_readClause 20 = .ok (.getfield 189, 3) := by decide +kernel
theorem dX8_readClause_23 : decode cX8_readClause 23 = .ok (.ifCond .gt 18, 3) := by decide +kernel
theorem dX8_readClause_26 : decode cX8_readClause 26 = .ok (.iload_n 1, 1) := by decide +kernel
theorem dX8_readClause_27 : decode cX8_readClause 27 = .ok (.iconst 2, 1) := by decide +kernel
theorem dX8_readClause_28 : decode cX8_readClause 28 = .ok (.if_icmp .le 18, 3) := by decide +kernel
theorem dX8_readClause_31 : decode cX8_readClause 31 = .ok (.aload_n 0, 1) := by decide +kernel
theorem dX8_readClause_32 : decode cX8_readClause 32 = .ok (.getfield 39, 3) := by decide +kernel
theorem dX8_readClause_35 : decode cX8_readClause 35 = .ok (.iload_n 1, 1) := by decide +kernel
theorem dX8_readClause_36 : decode cX8_readClause 36 = .ok (.iaload, 1) := by decide +kernel
theorem dX8_readClause_37 : decode cX8_readClause 37 = .ok (.iconst (-1), 1) := by decide +kernel
theorem dX8_readClause_38 : decode cX8_readClause 38 = .ok (.if_icmp .eq 8, 3) := by decide +kernel
theorem dX8_readClause_41 : decode cX8_readClause 41 = .ok (.aload_n 0, 1) := by decide +kernel
theorem dX8_readClause_42 : decode cX8_readClause 42 = .ok (.iconst 4, 1) := by decide +kernel
theorem dX8_readClause_43 : decode cX8_readClause 43 = .ok (.invokevirtual 164, 3) := by decide +kernel
theorem dX8_readClause_46 : decode cX8_readClause 46 = .ok (.aload_n 0, 1) := by decide +kernel
theorem dX8_readClause_47 : decode cX8_readClause 47 = .ok (.getfield 146, 3) := by decide +kernel
theorem dX8_readClause_50 : decode cX8_readClause 50 = .ok (.ifCond .eq 4, 3) := by decide +kernel
theorem dX8_readClause_53 : decode cX8_readClause 53 = .ok (.return_, 1) := by decide +kernel
theorem dX8_readClause_54 : decode cX8_readClause 54 = .ok (.iload_n 1, 1) := by decide +kernel
theorem dX8_readClause_55 : decode cX8_readClause 55 = .ok (.iconst 1, 1) := by decide +kernel
theorem dX8_readClause_56 : decode cX8_readClause 56 = .ok (.if_icmp .ne 10, 3) := by decide +kernel
theorem dX8_readClause_59 : decode cX8_readClause 59 = .ok (.aload_n 0, 1) := by decide +kernel
theorem dX8_readClause_60 : decode cX8_readClause 60 = .ok (.invokevirtual 192, 3) := by decide +kernel
theorem dX8_readClause_63 : decode cX8_readClause 63 = .ok (.goto 89, 3) := by decide +kernel
theorem dX8_readClause_66 : decode cX8_readClause 66 = .ok (.iload_n 1, 1) := by decide +kernel
theorem dX8_readClause_67 : decode cX8_readClause 67 = .ok (.iconst 2, 1) := by decide +kernel
theorem dX8_readClause_68 : decode cX8_readClause 68 = .ok (.if_icmp .ne 10, 3) := by decide +kernel
theorem dX8_readClause_71 : decode cX8_readClause 71 = .ok (.aload_n 0, 1) := by decide +kernel
theorem dX8_readClause_72 : decode cX8_readClause 72 = .ok (.invokevirtual 195, 3) := by decide +kernel
theorem dX8_readClause_75 : decode cX8_readClause 75 = .ok (.goto 77, 3) := by decide +kernel
theorem dX8_readClause_78 : decode cX8_readClause 78 = .ok (.aload_n 0, 1) := by decide +kernel
theorem dX8_readClause_79 : decode cX8_readClause 79 = .ok (.invokevirtual 171, 3) := by decide +kernel
theorem dX8_readClause_82 : decode cX8_readClause 82 = .ok (.aload_n 0, 1) := by decide +kernel
theorem dX8_readClause_83 : decode cX8_readClause 83 = .ok (.getfield 39, 3) := by decide +kernel
theorem dX8_readClause_86 : decode cX8_readClause 86 = .ok (.iload_n 1, 1) := by decide +kernel
theorem dX8_readClause_87 : decode cX8_readClause 87 = .ok (.iload_n 1, 1) := by decide +kernel
theorem dX8_readClause_88 : decode cX8_readClause 88 = .ok (.ifCond .ne 13, 3) := by decide +kernel
theorem dX8_readClause_91 : decode cX8_readClause 91 = .ok (.aload_n 0, 1) := by decide +kernel
theorem dX8_readClause_92 : decode cX8_readClause 92 = .ok (.iconst 2, 1) := by decide +kernel
theorem dX8_readClause_93 : decode cX8_readClause 93 = .ok (.bipush 12, 2) := by decide +kernel
theorem dX8_readClause_95 : decode cX8_readClause 95 = .ok (.invokevirtual 177, 3) := by decide +kernel
theorem dX8_readClause_98 : decode cX8_readClause 98 = .ok (.goto 53, 3) := by decide +kernel
theorem dX8_readClause_101 : decode cX8_readClause 101 = .ok (.iload_n 1, 1) := by decide +kernel
theorem dX8_readClause_102 : decode cX8_readClause 102 = .ok (.iconst 3, 1) := by decide +kernel
theorem dX8_readClause_103 : decode cX8_readClause 103 = .ok (.if_icmp .ne 12, 3) := by decide +kernel
theorem dX8_readClause_106 : decode cX8_readClause 106 = .ok (.aload_n 0, 1) := by decide +kernel
theorem dX8_readClause_107 : decode cX8_readClause 107 = .ok (.iconst 1, 1) := by decide +kernel
theorem dX8_readClause_108 : decode cX8_readClause 108 = .ok (.iconst 4, 1) := by decide +kernel
theorem dX8_readClause_109 : decode cX8_readClause 109 = .ok (.invokevirtual 177, 3) := by decide +kernel
theorem dX8_readClause_112 : decode cX8_readClause 112 = .ok (.goto 39, 3) := by decide +kernel
theorem dX8_readClause_115 : decode cX8_readClause 115 = .ok (.iload_n 1, 1) := by decide +kernel
theorem dX8_readClause_116 : decode cX8_readClause 116 = .ok (.iconst 4, 1) := by decide +kernel
theorem dX8_readClause_117 : decode cX8_readClause 117 = .ok (.if_icmp .ne 13, 3) := by decide +kernel
theorem dX8_readClause_120 : decode cX8_readClause 120 = .ok (.aload_n 0, 1) := by decide +kernel
theorem dX8_readClause_121 : decode cX8_readClause 121 = .ok (.iconst 0, 1) := by decide +kernel
theorem dX8_readClause_122 : decode cX8_readClause 122 = .ok (.bipush 11, 2) := by decide +kernel
theorem dX8_readClause_124 : decode cX8_readClause 124 = .ok (.invokevirtual 177, 3) := by decide +kernel
theorem dX8_readClause_127 : decode cX8_readClause 127 = .ok (.goto 24, 3) := by decide +kernel
theorem dX8_readClause_130 : decode cX8_readClause 130 = .ok (.iload_n 1, 1) := by decide +kernel
theorem dX8_readClause_131 : decode cX8_readClause 131 = .ok (.iconst 5, 1) := by decide +kernel
theorem dX8_readClause_132 : decode cX8_readClause 132 = .ok (.if_icmp .ne 12, 3) := by decide +kernel
theorem dX8_readClause_135 : decode cX8_readClause 135 = .ok (.aload_n 0, 1) := by decide +kernel
theorem dX8_readClause_136 : decode cX8_readClause 136 = .ok (.iconst 0, 1) := by decide +kernel
theorem dX8_readClause_137 : decode cX8_readClause 137 = .ok (.iconst 2, 1) := by decide +kernel
theorem dX8_readClause_138 : decode cX8_readClause 138 = .ok (.invokevirtual 177, 3) := by decide +kernel
theorem dX8_readClause_141 : decode cX8_readClause 141 = .ok (.goto 10, 3) := by decide +kernel
theorem dX8_readClause_144 : decode cX8_readClause 144 = .ok (.aload_n 0, 1) := by decide +kernel
theorem dX8_readClause_145 : decode cX8_readClause 145 = .ok (.iconst 0, 1) := by decide +kernel
theorem dX8_readClause_146 : decode cX8_readClause 146 = .ok (.bipush 8, 2) := by decide +kernel
theorem dX8_readClause_148 : decode cX8_readClause 148 = .ok (.invokevirtual 177, 3) := by decide +kernel
theorem dX8_readClause_151 : decode cX8_readClause 151 = .ok (.iastore, 1) := by decide +kernel
theorem dX8_readClause_152 : decode cX8_readClause 152 = .ok (.aload_n 0, 1) := by decide +kernel
theorem dX8_readClause_153 : decode cX8_readClause 153 = .ok (.getfield 146, 3) := by decide +kernel
theorem dX8_readClause_156 : decode cX8_readClause 156 = .ok (.ifCond .ne 16, 3) := by decide +kernel
theorem dX8_readClause_159 : decode cX8_readClause 159 = .ok (.aload_n 0, 1) := by decide +kernel
theorem dX8_readClause_160 : decode cX8_readClause 160 = .ok (.getfield 123, 3) := by decide +kernel
theorem dX8_readClause_163 : decode cX8_readClause 163 = .ok (.iconst 3, 1) := by decide +kernel
theorem dX8_readClause_164 : decode cX8_readClause 164 = .ok (.if_icmp .eq 8, 3) := by decide +kernel
theorem dX8_readClause_167 : decode cX8_readClause 167 = .ok (.aload_n 0, 1) := by decide +kernel
theorem dX8_readClause_168 : decode cX8_readClause 168 = .ok (.iconst 1, 1) := by decide +kernel
theorem dX8_readClause_169 : decode cX8_readClause 169 = .ok (.invokevirtual 164, 3) := by decide +kernel
theorem dX8_readClause_172 : decode cX8_readClause 172 = .ok (.aload_n 0, 1) := by decide +kernel
theorem dX8_readClause_173 : decode cX8_readClause 173 = .ok (.getfield 146, 3) := by decide +kernel
theorem dX8_readClause_176 : decode cX8_readClause 176 = .ok (.ifCond .ne 7, 3) := by decide +kernel
theorem dX8_readClause_179 : decode cX8_readClause 179 = .ok (.aload_n 0, 1) := by decide +kernel
theorem dX8_readClause_180 : decode cX8_readClause 180 = .ok (.invokevirtual 171, 3) := by decide +kernel
theorem dX8_readClause_183 : decode cX8_readClause 183 = .ok (.aload_n 0, 1) := by decide +kernel
theorem dX8_readClause_184 : decode cX8_readClause 184 = .ok (.dup, 1) := by decide +kernel
theorem dX8_readClause_185 : decode cX8_readClause 185 = .ok (.getfield 189, 3) := by decide +kernel
theorem dX8_readClause_188 : decode cX8_readClause 188 = .ok (.iconst 1, 1) := by decide +kernel
theorem dX8_readClause_189 : decode cX8_readClause 189 = .ok (.iadd, 1) := by decide +kernel
theorem dX8_readClause_190 : decode cX8_readClause 190 = .ok (.putfield 189, 3) := by decide +kernel
theorem dX8_readClause_193 : decode cX8_readClause 193 = .ok (.return_, 1) := by decide +kernel
theorem dX8_chosen_0 : decode cX8_chosen 0 = .ok (.iconst (-1), 1) := by decide +kernel
theorem dX8_chosen_1 : decode cX8_chosen 1 = .ok (.istore 4, 2) := by decide +kernel
theorem dX8_chosen_3 : decode cX8_chosen 3 = .ok (.iconst 0, 1) := by decide +kernel
theorem dX8_chosen_4 : decode cX8_chosen 4 = .ok (.istore 5, 2) := by decide +kernel
theorem dX8_chosen_6 : decode cX8_chosen 6 = .ok (.iconst 0, 1) := by decide +kernel
theorem dX8_chosen_7 : decode cX8_chosen 7 = .ok (.istore 6, 2) := by decide +kernel
theorem dX8_chosen_9 : decode cX8_chosen 9 = .ok (.iload 6, 2) := by decide +kernel
theorem dX8_chosen_11 : decode cX8_chosen 11 = .ok (.aload_n 0, 1) := by decide +kernel
theorem dX8_chosen_12 : decode cX8_chosen 12 = .ok (.getfield 36, 3) := by decide +kernel
theorem dX8_chosen_15 : decode cX8_chosen 15 = .ok (.iconst 1, 1) := by decide +kernel
theorem dX8_chosen_16 : decode cX8_chosen 16 = .ok (.iaload, 1) := by decide +kernel
theorem dX8_chosen_17 : decode cX8_chosen 17 = .ok (.if_icmp .ge 154, 3) := by decide +kernel
theorem dX8_chosen_20 : decode cX8_chosen 20 = .ok (.aload_n 0, 1) := by decide +kernel
theorem dX8_chosen_21 : decode cX8_chosen 21 = .ok (.getfield 29, 3) := by decide +kernel
theorem dX8_chosen_24 : decode cX8_chosen 24 = .ok (.iconst 2, 1) := by decide +kernel
theorem dX8_chosen_25 : decode cX8_chosen 25 = .ok (.iaload, 1) := by decide +kernel
theorem dX8_chosen_26 : decode cX8_chosen 26 = .ok (.ifCond .ne 24, 3) := by decide +kernel
theorem dX8_chosen_29 : decode cX8_chosen 29 = .ok (.aload_n 0, 1) := by decide +kernel
theorem dX8_chosen_30 : decode cX8_chosen 30 = .ok (.getfield 29, 3) := by decide +kernel
theorem dX8_chosen_33 : decode cX8_chosen 33 = .ok (.iconst 4, 1) := by decide +kernel
theorem dX8_chosen_34 : decode cX8_chosen 34 = .ok (.iaload, 1) := by decide +kernel
theorem dX8_chosen_35 : decode cX8_chosen 35 = .ok (.iconst 1, 1) := by decide +kernel
theorem dX8_chosen_36 : decode cX8_chosen 36 = .ok (.iadd, 1) := by decide +kernel
theorem dX8_chosen_37 : decode cX8_chosen 37 = .ok (.iload 6, 2) := by decide +kernel
theorem dX8_chosen_39 : decode cX8_chosen 39 = .ok (.iadd, 1) := by decide +kernel
theorem dX8_chosen_40 : decode cX8_chosen 40 = .ok (.aload_n 0, 1) := by decide +kernel
theorem dX8_chosen_41 : decode cX8_chosen 41 = .ok (.getfield 36, 3) := by decide +kernel
theorem dX8_chosen_44 : decode cX8_chosen 44 = .ok (.iconst 1, 1) := by decide +kernel
theorem dX8_chosen_45 : decode cX8_chosen 45 = .ok (.iaload, 1) := by decide +kernel
theorem dX8_chosen_46 : decode cX8_chosen 46 = .ok (.irem, 1) := by decide +kernel
theorem dX8_chosen_47 : decode cX8_chosen 47 = .ok (.goto 5, 3) := by decide +kernel
theorem dX8_chosen_50 : decode cX8_chosen 50 = .ok (.iload 6, 2) := by decide +kernel
theorem dX8_chosen_52 : decode cX8_chosen 52 = .ok (.istore 7, 2) := by decide +kernel
theorem dX8_chosen_54 : decode cX8_chosen 54 = .ok (.aload_n 0, 1) := by decide +kernel
theorem dX8_chosen_55 : decode cX8_chosen 55 = .ok (.iload 7, 2) := by decide +kernel
theorem dX8_chosen_57 : decode cX8_chosen 57 = .ok (.iconst 4, 1) := by decide +kernel
theorem dX8_chosen_58 : decode cX8_chosen 58 = .ok (.invokevirtual 238, 3) := by decide +kernel
theorem dX8_chosen_61 : decode cX8_chosen 61 = .ok (.ifCond .eq 104, 3) := by decide +kernel
theorem dX8_chosen_64 : decode cX8_chosen 64 = .ok (.aload_n 0, 1) := by decide +kernel
theorem dX8_chosen_65 : decode cX8_chosen 65 = .ok (.iload 7, 2) := by decide +kernel
theorem dX8_chosen_67 : decode cX8_chosen 67 = .ok (.iload_n 3, 1) := by decide +kernel
theorem dX8_chosen_68 : decode cX8_chosen 68 = .ok (.invokevirtual 283, 3) := by decide +kernel
theorem dX8_chosen_71 : decode cX8_chosen 71 = .ok (.ifCond .eq 94, 3) := by decide +kernel
theorem dX8_chosen_74 : decode cX8_chosen 74 = .ok (.aload_n 0, 1) := by decide +kernel
theorem dX8_chosen_75 : decode cX8_chosen 75 = .ok (.getfield 29, 3) := by decide +kernel
theorem dX8_chosen_78 : decode cX8_chosen 78 = .ok (.iconst 2, 1) := by decide +kernel
theorem dX8_chosen_79 : decode cX8_chosen 79 = .ok (.iaload, 1) := by decide +kernel
theorem dX8_chosen_80 : decode cX8_chosen 80 = .ok (.ifCond .ne 12, 3) := by decide +kernel
theorem dX8_chosen_83 : decode cX8_chosen 83 = .ok (.iload 4, 2) := by decide +kernel
theorem dX8_chosen_85 : decode cX8_chosen 85 = .ok (.iconst (-1), 1) := by decide +kernel
theorem dX8_chosen_86 : decode cX8_chosen 86 = .ok (.if_icmp .eq 6, 3) := by decide +kernel
theorem dX8_chosen_89 : decode cX8_chosen 89 = .ok (.goto 76, 3) := by decide +kernel
theorem dX8_chosen_92 : decode cX8_chosen 92 = .ok (.aload_n 0, 1) := by decide +kernel
theorem dX8_chosen_93 : decode cX8_chosen 93 = .ok (.getfield 29, 3) := by decide +kernel
theorem dX8_chosen_96 : decode cX8_chosen 96 = .ok (.iconst 2, 1) := by decide +kernel
theorem dX8_chosen_97 : decode cX8_chosen 97 = .ok (.iaload, 1) := by decide +kernel
theorem dX8_chosen_98 : decode cX8_chosen 98 = .ok (.ifCond .ne 7, 3) := by decide +kernel
theorem dX8_chosen_101 : decode cX8_chosen 101 = .ok (.iconst 0, 1) := by decide +kernel
theorem dX8_chosen_102 : decode cX8_chosen 102 = .ok (.goto 37, 3) := by decide +kernel
theorem dX8_chosen_105 : decode cX8_chosen 105 = .ok (.aload_n 0, 1) := by decide +kernel
theorem dX8_chosen_106 : decode cX8_chosen 106 = .ok (.getfield 29, 3) := by decide +kernel
theorem dX8_chosen_109 : decode cX8_chosen 109 = .ok (.iconst 2, 1) := by decide +kernel
theorem dX8_chosen_110 : decode cX8_chosen 110 = .ok (.iaload, 1) := by decide +kernel
theorem dX8_chosen_111 : decode cX8_chosen 111 = .ok (.iconst 1, 1) := by decide +kernel
theorem dX8_chosen_112 : decode cX8_chosen 112 = .ok (.if_icmp .ne 18, 3) := by decide +kernel
theorem dX8_chosen_115 : decode cX8_chosen 115 = .ok (.aload_n 0, 1) := by decide +kernel
theorem dX8_chosen_116 : decode cX8_chosen 116 = .ok (.iload 7, 2) := by decide +kernel
theorem dX8_chosen_118 : decode cX8_chosen 118 = .ok (.iconst 0, 1) := by decide +kernel
theorem dX8_chosen_119 : decode cX8_chosen 119 = .ok (.invokevirtual 238, 3) := by decide +kernel
theorem dX8_chosen_122 : decode cX8_chosen 122 = .ok (.iload_n 1, 1) := by decide +kernel
theorem dX8_chosen_123 : decode cX8_chosen 123 = .ok (.isub, 1) := by decide +kernel
theorem dX8_chosen_124 : decode cX8_chosen 124 = .ok (.invokestatic 313, 3) := by decide +kernel
theorem dX8_chosen_127 : decode cX8_chosen 127 = .ok (.goto 12, 3) := by decide +kernel
theorem dX8_chosen_130 : decode cX8_chosen 130 = .ok (.aload_n 0, 1) := by decide +kernel
theorem dX8_chosen_131 : decode cX8_chosen 131 = .ok (.iload 7, 2) := by decide +kernel
theorem dX8_chosen_133 : decode cX8_chosen 133 = .ok (.iload_n 1, 1) := by decide +kernel
theorem dX8_chosen_134 : decode cX8_chosen 134 = .ok (.iload_n 2, 1) := by decide +kernel
theorem dX8_chosen_135 : decode cX8_chosen 135 = .ok (.iload_n 3, 1) := by decide +kernel
theorem dX8_chosen_136 : decode cX8_chosen 136 = .ok (.invokevirtual 316, 3) := by decide +kernel
theorem dX8_chosen_139 : decode cX8_chosen 139 = .ok (.istore 8, 2) := by decide +kernel
theorem dX8_chosen_141 : decode cX8_chosen 141 = .ok (.iload 4, 2) := by decide +kernel
theorem dX8_chosen_143 : decode cX8_chosen 143 = .ok (.iconst (-1), 1) := by decide +kernel
theorem dX8_chosen_144 : decode cX8_chosen 144 = .ok (.if_icmp .eq 13, 3) := by decide +kernel
theorem dX8_chosen_147 : decode cX8_chosen 147 = .ok (.iload 8, 2) := by decide +kernel
theorem dX8_chosen_149 : decode cX8_chosen 149 = .ok (.iload 5, 2) := by decide +kernel
theorem dX8_chosen_151 : decode cX8_chosen 151 = .ok (.if_icmp .lt 6, 3) := by decide +kernel
theorem dX8_chosen_154 : decode cX8_chosen 154 = .ok (.goto 11, 3) := by decide +kernel
theorem dX8_chosen_157 : decode cX8_chosen 157 = .ok (.iload 7, 2) := by decide +kernel
theorem dX8_chosen_159 : decode cX8_chosen 159 = .ok (.istore 4, 2) := by decide +kernel
theorem dX8_chosen_161 : decode cX8_chosen 161 = .ok (.iload 8, 2) := by decide +kernel
theorem dX8_chosen_163 : decode cX8_chosen 163 = .ok (.istore 5, 2) := by decide +kernel
theorem dX8_chosen_165 : decode cX8_chosen 165 = .ok (.iinc 6 1, 3) := by decide +kernel
theorem dX8_chosen_168 : decode cX8_chosen 168 = .ok (.goto (-159), 3) := by decide +kernel
theorem dX8_chosen_171 : decode cX8_chosen 171 = .ok (.iload 4, 2) := by decide +kernel
theorem dX8_chosen_173 : decode cX8_chosen 173 = .ok (.ireturn, 1) := by decide +kernel
theorem dX8_cost_0 : decode cX8_cost 0 = .ok (.aload_n 0, 1) := by decide +kernel
theorem dX8_cost_1 : decode cX8_cost 1 = .ok (.iconst 0, 1) := by decide +kernel
theorem dX8_cost_2 : decode cX8_cost 2 = .ok (.putfield 104, 3) := by decide +kernel
theorem dX8_cost_5 : decode cX8_cost 5 = .ok (.aload_n 0, 1) := by decide +kernel
theorem dX8_cost_6 : decode cX8_cost 6 = .ok (.iload_n 1, 1) := by decide +kernel
theorem dX8_cost_7 : decode cX8_cost 7 = .ok (.invokevirtual 393, 3) := by decide +kernel
theorem dX8_cost_10 : decode cX8_cost 10 = .ok (.ifCond .eq 21, 3) := by decide +kernel
theorem dX8_cost_13 : decode cX8_cost 13 = .ok (.aload_n 0, 1) := by decide +kernel
theorem dX8_cost_14 : decode cX8_cost 14 = .ok (.iload_n 2, 1) := by decide +kernel
theorem dX8_cost_15 : decode cX8_cost 15 = .ok (.invokevirtual 399, 3) := by decide +kernel
theorem dX8_cost_18 : decode cX8_cost 18 = .ok (.ifCond .eq 13, 3) := by decide +kernel
theorem dX8_cost_21 : decode cX8_cost 21 = .ok (.iload 4, 2) := by decide +kernel
theorem dX8_cost_23 : decode cX8_cost 23 = .ok (.iconst 1, 1) := by decide +kernel
theorem dX8_cost_24 : decode cX8_cost 24 = .ok (.iconst 2, 1) := by decide +kernel
theorem dX8_cost_25 : decode cX8_cost 25 = .ok (.invokestatic 390, 3) := by decide +kernel
theorem dX8_cost_28 : decode cX8_cost 28 = .ok (.ifCond .ne 9, 3) := by decide +kernel
theorem dX8_cost_31 : decode cX8_cost 31 = .ok (.aload_n 0, 1) := by decide +kernel
theorem dX8_cost_32 : decode cX8_cost 32 = .ok (.iconst 1, 1) := by decide +kernel
theorem dX8_cost_33 : decode cX8_cost 33 = .ok (.invokevirtual 198, 3) := by decide +kernel
theorem dX8_cost_36 : decode cX8_cost 36 = .ok (.ireturn, 1) := by decide +kernel
theorem dX8_cost_37 : decode cX8_cost 37 = .ok (.aload_n 0, 1) := by decide +kernel
theorem dX8_cost_38 : decode cX8_cost 38 = .ok (.iload_n 1, 1) := by decide +kernel
theorem dX8_cost_39 : decode cX8_cost 39 = .ok (.iconst 4, 1) := by decide +kernel
theorem dX8_cost_40 : decode cX8_cost 40 = .ok (.invokevirtual 238, 3) := by decide +kernel
theorem dX8_cost_43 : decode cX8_cost 43 = .ok (.ifCond .eq 13, 3) := by decide +kernel
theorem dX8_cost_46 : decode cX8_cost 46 = .ok (.aload_n 0, 1) := by decide +kernel
theorem dX8_cost_47 : decode cX8_cost 47 = .ok (.iload_n 1, 1) := by decide +kernel
theorem dX8_cost_48 : decode cX8_cost 48 = .ok (.iload 4, 2) := by decide +kernel
theorem dX8_cost_50 : decode cX8_cost 50 = .ok (.invokevirtual 283, 3) := by decide +kernel
theorem dX8_cost_53 : decode cX8_cost 53 = .ok (.ifCond .ne 9, 3) := by decide +kernel
theorem dX8_cost_56 : decode cX8_cost 56 = .ok (.aload_n 0, 1) := by decide +kernel
theorem dX8_cost_57 : decode cX8_cost 57 = .ok (.iconst 2, 1) := by decide +kernel
theorem dX8_cost_58 : decode cX8_cost 58 = .ok (.invokevirtual 198, 3) := by decide +kernel
theorem dX8_cost_61 : decode cX8_cost 61 = .ok (.ireturn, 1) := by decide +kernel
theorem dX8_cost_62 : decode cX8_cost 62 = .ok (.aload_n 0, 1) := by decide +kernel
theorem dX8_cost_63 : decode cX8_cost 63 = .ok (.iload_n 1, 1) := by decide +kernel
theorem dX8_cost_64 : decode cX8_cost 64 = .ok (.iload_n 2, 1) := by decide +kernel
theorem dX8_cost_65 : decode cX8_cost 65 = .ok (.iload_n 3, 1) := by decide +kernel
theorem dX8_cost_66 : decode cX8_cost 66 = .ok (.ifCond .eq 7, 3) := by decide +kernel
theorem dX8_cost_69 : decode cX8_cost 69 = .ok (.iconst 1, 1) := by decide +kernel
theorem dX8_cost_70 : decode cX8_cost 70 = .ok (.goto 4, 3) := by decide +kernel
theorem dX8_cost_73 : decode cX8_cost 73 = .ok (.iconst (-1), 1) := by decide +kernel
theorem dX8_cost_74 : decode cX8_cost 74 = .ok (.iload 4, 2) := by decide +kernel
theorem dX8_cost_76 : decode cX8_cost 76 = .ok (.invokevirtual 316, 3) := by decide +kernel
theorem dX8_cost_79 : decode cX8_cost 79 = .ok (.ireturn, 1) := by decide +kernel
set_option maxRecDepth 20000 in
set_option maxHeartbeats 4000000 in
theorem vX8_cost_0 {l : Launch} {x : CX} {a0 : Nat} {x1 : Int32} {x2 : Int32} {x3 : Int32} {x4 : Int32} {h : PH} {rc rs n0 : Nat} {Q : Option Value → PH → Prop} {X : String → PH → Prop}
    (K : ((hK h a0).1 = 8) ∧ ∃ (q2 : Int32 → PH → Prop), CI l x mX8_isCar 1 0 0 [.ref a0, .int x1] (sI h a0 1 0) q2 ∧ ∀ (r5 : Int32) (h4 : PH), q2 r5 h4 → ((r5 = 0 → ((hK h4 a0).1 = 8) ∧ ∃ (q7 : Int32 → PH → Prop), CI l x mX8_fail 0 0 0 [.ref a0, .int 1] h4 q7 ∧ ∀ (r11 : Int32) (h10 : PH), q7 r11 h10 → Q (some (.int r11)) h10) ∧ (¬ r5 = 0 → ((hK h4 a0).1 = 8) ∧ ∃ (q12 : Int32 → PH → Prop), CI l x mX8_isFloor 1 0 0 [.ref a0, .int x2] h4 q12 ∧ ∀ (r16 : Int32) (h15 : PH), q12 r16 h15 → ((r16 = 0 → ((hK h15 a0).1 = 8) ∧ ∃ (q18 : Int32 → PH → Prop), CI l x mX8_fail 0 0 0 [.ref a0, .int 1] h15 q18 ∧ ∀ (r22 : Int32) (h21 : PH), q18 r22 h21 → Q (some (.int r22)) h21) ∧ (¬ r16 = 0 → ∃ (q23 : Int32 → PH → Prop), CI l x mX8_isIn 0 0 0 [.int x4, .int 1, .int 2] h15 q23 ∧ ∀ (r26 : Int32) (h25 : PH), q23 r26 h25 → ((¬ r26 = 0 → ((hK h25 a0).1 = 8) ∧ ∃ (q28 : Int32 → PH → Prop), CI l x mX8_carOf 0 0 0 [.ref a0, .int x1, .int 4] h25 q28 ∧ ∀ (r32 : Int32) (h31 : PH), q28 r32 h31 → ((r32 = 0 → ((hK h31 a0).1 = 8) ∧ ∃ (q34 : Int32 → PH → Prop), CI l x mX8_fail 0 0 0 [.ref a0, .int 2] h31 q34 ∧ ∀ (r38 : Int32) (h37 : PH), q34 r38 h37 → Q (some (.int r38)) h37) ∧ (¬ r32 = 0 → ((hK h31 a0).1 = 8) ∧ ∃ (q39 : Int32 → PH → Prop), CI l x mX8_takes 0 0 0 [.ref a0, .int x1, .int x4] h31 q39 ∧ ∀ (r43 : Int32) (h42 : PH), q39 r43 h42 → ((¬ r43 = 0 → ((hK h42 a0).1 = 8) ∧ ∃ (q46 : Int32 → PH → Prop), CI l x mX8_costOf 7 0 0 [.ref a0, .int x1, .int x2, .int (if x3 = 0 then (-1) else 1 : Int32), .int x4] h42 q46 ∧ ∀ (r50 : Int32) (h49 : PH), q46 r50 h49 → Q (some (.int r50)) h49) ∧ (r43 = 0 → ((hK h42 a0).1 = 8) ∧ ∃ (q51 : Int32 → PH → Prop), CI l x mX8_fail 0 0 0 [.ref a0, .int 2] h42 q51 ∧ ∀ (r55 : Int32) (h54 : PH), q51 r55 h54 → Q (some (.int r55)) h54))))) ∧ (r26 = 0 → ((hK h25 a0).1 = 8) ∧ ∃ (q56 : Int32 → PH → Prop), CI l x mX8_fail 0 0 0 [.ref a0, .int 1] h25 q56 ∧ ∀ (r60 : Int32) (h59 : PH), q56 r60 h59 → Q (some (.int r60)) h59))))))) :
    Gm l x mX8_cost 8 0 [(0, .ref a0), (1, .int x1), (2, .int x2), (3, .int x3), (4, .int x4)] [] h rc rs n0 Q X := by
  refine g_aload_n dX8_cost_0 rfl 0 rfl ?_
  refine g_iconst (v := 0) dX8_cost_1 (by decide) ?_
  obtain ⟨e1, K⟩ := K
  refine g_puti (c := 8) (k := 1) dX8_cost_2 fc_8 (by decide) (by decide) bw_1198 (Or.inl rfl) rfl e1 ?_
  refine g_aload_n dX8_cost_5 rfl 0 rfl ?_
  refine g_iload_n dX8_cost_6 rfl 1 rfl ?_
  obtain ⟨q2, C3, K⟩ := K
  refine g_callV (M' := mX8_isCar) (b := a0) (As := [.int x1]) (rest := []) dX8_cost_7 bw_1607 bw_1609 bs_95 bw_9 bw_1610 ⟨by decide +kernel, by decide +kernel, show (parseMethodDescriptor mX8_isCar.1.desc).map (fun d => d.parameters.length) = some 1 by decide +kernel⟩ (by decide) (by decide) (Nat.le_of_ble_eq_true rfl) fc_8 (by decide) rfl (kkI e1) C3 (Nat.zero_le _) (Nat.zero_le _) (fun _ _ h => h) ?_
  rintro _ h4 ⟨r5, rfl, K1⟩ -
  replace K := K r5 h4 K1
  show Gm l x mX8_cost 8 10 [(0, .ref a0), (1, .int x1), (2, .int x2), (3, .int x3), (4, .int x4)] [.int r5] h4 rc rs n0 Q X
  refine g_if_eq (tgt := 31) dX8_cost_10 (by decide) (fun c6 => ?_) (fun c6 => ?_)
  · replace K := K.1 c6
    refine g_aload_n dX8_cost_31 rfl 0 rfl ?_
    refine g_iconst (v := 1) dX8_cost_32 (by decide) ?_
    obtain ⟨e9, K⟩ := K
    obtain ⟨q7, C8, K⟩ := K
    refine g_callV (M' := mX8_fail) (b := a0) (As := [.int 1]) (rest := []) dX8_cost_33 bw_1336 bw_1338 bs_40 bw_9 bw_1339 ⟨by decide +kernel, by decide +kernel, show (parseMethodDescriptor mX8_fail.1.desc).map (fun d => d.parameters.length) = some 1 by decide +kernel⟩ (by decide) (by decide) (Nat.le_of_ble_eq_true rfl) fc_8 (by decide) rfl e9 C8 (Nat.zero_le _) (Nat.zero_le _) (fun _ _ h => h) ?_
    rintro _ h10 ⟨r11, rfl, K1⟩ -
    replace K := K r11 h10 K1
    show Gm l x mX8_cost 8 36 [(0, .ref a0), (1, .int x1), (2, .int x2), (3, .int x3), (4, .int x4)] [.int r11] h10 rc rs n0 Q X
    exact g_iret dX8_cost_36 rfl K
  · replace K := K.2 c6
    refine g_aload_n dX8_cost_13 rfl 0 rfl ?_
    refine g_iload_n dX8_cost_14 rfl 2 rfl ?_
    obtain ⟨e14, K⟩ := K
    obtain ⟨q12, C13, K⟩ := K
    refine g_callV (M' := mX8_isFloor) (b := a0) (As := [.int x2]) (rest := []) dX8_cost_15 bw_1626 bw_1628 bs_97 bw_9 bw_1629 ⟨by decide +kernel, by decide +kernel, show (parseMethodDescriptor mX8_isFloor.1.desc).map (fun d => d.parameters.length) = some 1 by decide +kernel⟩ (by decide) (by decide) (Nat.le_of_ble_eq_true rfl) fc_8 (by decide) rfl e14 C13 (Nat.zero_le _) (Nat.zero_le _) (fun _ _ h => h) ?_
    rintro _ h15 ⟨r16, rfl, K1⟩ -
    replace K := K r16 h15 K1
    show Gm l x mX8_cost 8 18 [(0, .ref a0), (1, .int x1), (2, .int x2), (3, .int x3), (4, .int x4)] [.int r16] h15 rc rs n0 Q X
    refine g_if_eq (tgt := 31) dX8_cost_18 (by decide) (fun c17 => ?_) (fun c17 => ?_)
    · replace K := K.1 c17
      refine g_aload_n dX8_cost_31 rfl 0 rfl ?_
      refine g_iconst (v := 1) dX8_cost_32 (by decide) ?_
      obtain ⟨e20, K⟩ := K
      obtain ⟨q18, C19, K⟩ := K
      refine g_callV (M' := mX8_fail) (b := a0) (As := [.int 1]) (rest := []) dX8_cost_33 bw_1336 bw_1338 bs_40 bw_9 bw_1339 ⟨by decide +kernel, by decide +kernel, show (parseMethodDescriptor mX8_fail.1.desc).map (fun d => d.parameters.length) = some 1 by decide +kernel⟩ (by decide) (by decide) (Nat.le_of_ble_eq_true rfl) fc_8 (by decide) rfl e20 C19 (Nat.zero_le _) (Nat.zero_le _) (fun _ _ h => h) ?_
      rintro _ h21 ⟨r22, rfl, K1⟩ -
      replace K := K r22 h21 K1
      show Gm l x mX8_cost 8 36 [(0, .ref a0), (1, .int x1), (2, .int x2), (3, .int x3), (4, .int x4)] [.int r22] h21 rc rs n0 Q X
      exact g_iret dX8_cost_36 rfl K
    · replace K := K.2 c17
      refine g_iload dX8_cost_21 4 rfl ?_
      refine g_iconst (v := 1) dX8_cost_23 (by decide) ?_
      refine g_iconst (v := 2) dX8_cost_24 (by decide) ?_
      obtain ⟨q23, C24, K⟩ := K
      refine g_callS (M' := mX8_isIn) (As := [.int x4, .int 1, .int 2]) (rest := []) dX8_cost_25 bw_1611 bw_1612 bw_9 bw_1613 ⟨by decide +kernel, by decide +kernel, show (parseMethodDescriptor mX8_isIn.1.desc).map (fun d => d.parameters.length) = some 3 by decide +kernel⟩ (by decide) (by decide) (Nat.le_of_ble_eq_true rfl) C24 (Nat.zero_le _) (Nat.zero_le _) (fun _ _ h => h) ?_
      rintro _ h25 ⟨r26, rfl, K1⟩ -
      replace K := K r26 h25 K1
      show Gm l x mX8_cost 8 28 [(0, .ref a0), (1, .int x1), (2, .int x2), (3, .int x3), (4, .int x4)] [.int r26] h25 rc rs n0 Q X
      refine g_if_ne (tgt := 37) dX8_cost_28 (by decide) (fun c27 => ?_) (fun c27 => ?_)
      · replace K := K.1 c27
        refine g_aload_n dX8_cost_37 rfl 0 rfl ?_
        refine g_iload_n dX8_cost_38 rfl 1 rfl ?_
        refine g_iconst (v := 4) dX8_cost_39 (by decide) ?_
        obtain ⟨e30, K⟩ := K
        obtain ⟨q28, C29, K⟩ := K
        refine g_callV (M' := mX8_carOf) (b := a0) (As := [.int x1, .int 4]) (rest := []) dX8_cost_40 bw_1475 bw_1477 bs_68 bw_9 bw_1478 ⟨by decide +kernel, by decide +kernel, show (parseMethodDescriptor mX8_carOf.1.desc).map (fun d => d.parameters.length) = some 2 by decide +kernel⟩ (by decide) (by decide) (Nat.le_of_ble_eq_true rfl) fc_8 (by decide) rfl e30 C29 (Nat.zero_le _) (Nat.zero_le _) (fun _ _ h => h) ?_
        rintro _ h31 ⟨r32, rfl, K1⟩ -
        replace K := K r32 h31 K1
        show Gm l x mX8_cost 8 43 [(0, .ref a0), (1, .int x1), (2, .int x2), (3, .int x3), (4, .int x4)] [.int r32] h31 rc rs n0 Q X
        refine g_if_eq (tgt := 56) dX8_cost_43 (by decide) (fun c33 => ?_) (fun c33 => ?_)
        · replace K := K.1 c33
          refine g_aload_n dX8_cost_56 rfl 0 rfl ?_
          refine g_iconst (v := 2) dX8_cost_57 (by decide) ?_
          obtain ⟨e36, K⟩ := K
          obtain ⟨q34, C35, K⟩ := K
          refine g_callV (M' := mX8_fail) (b := a0) (As := [.int 2]) (rest := []) dX8_cost_58 bw_1336 bw_1338 bs_40 bw_9 bw_1339 ⟨by decide +kernel, by decide +kernel, show (parseMethodDescriptor mX8_fail.1.desc).map (fun d => d.parameters.length) = some 1 by decide +kernel⟩ (by decide) (by decide) (Nat.le_of_ble_eq_true rfl) fc_8 (by decide) rfl e36 C35 (Nat.zero_le _) (Nat.zero_le _) (fun _ _ h => h) ?_
          rintro _ h37 ⟨r38, rfl, K1⟩ -
          replace K := K r38 h37 K1
          show Gm l x mX8_cost 8 61 [(0, .ref a0), (1, .int x1), (2, .int x2), (3, .int x3), (4, .int x4)] [.int r38] h37 rc rs n0 Q X
          exact g_iret dX8_cost_61 rfl K
        · replace K := K.2 c33
          refine g_aload_n dX8_cost_46 rfl 0 rfl ?_
          refine g_iload_n dX8_cost_47 rfl 1 rfl ?_
          refine g_iload dX8_cost_48 4 rfl ?_
          obtain ⟨e41, K⟩ := K
          obtain ⟨q39, C40, K⟩ := K
          refine g_callV (M' := mX8_takes) (b := a0) (As := [.int x1, .int x4]) (rest := []) dX8_cost_50 bw_1484 bw_1486 bs_70 bw_9 bw_1487 ⟨by decide +kernel, by decide +kernel, show (parseMethodDescriptor mX8_takes.1.desc).map (fun d => d.parameters.length) = some 2 by decide +kernel⟩ (by decide) (by decide) (Nat.le_of_ble_eq_true rfl) fc_8 (by decide) rfl e41 C40 (Nat.zero_le _) (Nat.zero_le _) (fun _ _ h => h) ?_
          rintro _ h42 ⟨r43, rfl, K1⟩ -
          replace K := K r43 h42 K1
          show Gm l x mX8_cost 8 53 [(0, .ref a0), (1, .int x1), (2, .int x2), (3, .int x3), (4, .int x4)] [.int r43] h42 rc rs n0 Q X
          refine g_if_ne (tgt := 62) dX8_cost_53 (by decide) (fun c44 => ?_) (fun c44 => ?_)
          · replace K := K.1 c44
            refine g_aload_n dX8_cost_62 rfl 0 rfl ?_
            refine g_iload_n dX8_cost_63 rfl 1 rfl ?_
            refine g_iload_n dX8_cost_64 rfl 2 rfl ?_
            refine g_iload_n dX8_cost_65 rfl 3 rfl ?_
            have KJ : Gm l x mX8_cost 8 74 [(0, .ref a0), (1, .int x1), (2, .int x2), (3, .int x3), (4, .int x4)] [.int (if x3 = 0 then (-1) else 1 : Int32), .int x2, .int x1, .ref a0] h42 rc rs n0 Q X := by
              refine g_iload dX8_cost_74 4 rfl ?_
              obtain ⟨e48, K⟩ := K
              obtain ⟨q46, C47, K⟩ := K
              refine g_callV (M' := mX8_costOf) (b := a0) (As := [.int x1, .int x2, .int (if x3 = 0 then (-1) else 1 : Int32), .int x4]) (rest := []) dX8_cost_76 bw_1488 bw_1490 bs_71 bw_9 bw_1491 ⟨by decide +kernel, by decide +kernel, show (parseMethodDescriptor mX8_costOf.1.desc).map (fun d => d.parameters.length) = some 4 by decide +kernel⟩ (by decide) (by decide) (Nat.le_of_ble_eq_true rfl) fc_8 (by decide) rfl e48 C47 (Nat.zero_le _) (Nat.zero_le _) (fun _ _ h => h) ?_
              rintro _ h49 ⟨r50, rfl, K1⟩ -
              replace K := K r50 h49 K1
              show Gm l x mX8_cost 8 79 [(0, .ref a0), (1, .int x1), (2, .int x2), (3, .int x3), (4, .int x4)] [.int r50] h49 rc rs n0 Q X
              exact g_iret dX8_cost_79 rfl K
            refine g_if_eq (tgt := 73) dX8_cost_66 (by decide) (fun c45 => ?_) (fun c45 => ?_)
            · refine g_iconst (v := (-1)) dX8_cost_73 (by decide) ?_
              first | (simp only [if_pos c45] at KJ; with_reducible exact KJ) | (simp only [if_pos c45, ite_true, ite_false, eq_self] at KJ; with_reducible exact KJ) | (simp only [if_pos c45, reduceIte, eq_self] at KJ; exact KJ) | exact KJ
            · refine g_iconst (v := 1) dX8_cost_69 (by decide) ?_
              refine g_goto (tgt := 74) dX8_cost_70 (by decide) ?_
              first | (simp only [if_neg c45] at KJ; with_reducible exact KJ) | (simp only [if_neg c45, ite_true, ite_false, eq_self] at KJ; with_reducible exact KJ) | (simp only [if_neg c45, reduceIte, eq_self] at KJ; exact KJ) | exact KJ
          · replace K := K.2 c44
            refine g_aload_n dX8_cost_56 rfl 0 rfl ?_
            refine g_iconst (v := 2) dX8_cost_57 (by decide) ?_
            obtain ⟨e53, K⟩ := K
            obtain ⟨q51, C52, K⟩ := K
            refine g_callV (M' := mX8_fail) (b := a0) (As := [.int 2]) (rest := []) dX8_cost_58 bw_1336 bw_1338 bs_40 bw_9 bw_1339 ⟨by decide +kernel, by decide +kernel, show (parseMethodDescriptor mX8_fail.1.desc).map (fun d => d.parameters.length) = some 1 by decide +kernel⟩ (by decide) (by decide) (Nat.le_of_ble_eq_true rfl) fc_8 (by decide) rfl e53 C52 (Nat.zero_le _) (Nat.zero_le _) (fun _ _ h => h) ?_
            rintro _ h54 ⟨r55, rfl, K1⟩ -
            replace K := K r55 h54 K1
            show Gm l x mX8_cost 8 61 [(0, .ref a0), (1, .int x1), (2, .int x2), (3, .int x3), (4, .int x4)] [.int r55] h54 rc rs n0 Q X
            exact g_iret dX8_cost_61 rfl K
      · replace K := K.2 c27
        refine g_aload_n dX8_cost_31 rfl 0 rfl ?_
        refine g_iconst (v := 1) dX8_cost_32 (by decide) ?_
        obtain ⟨e58, K⟩ := K
        obtain ⟨q56, C57, K⟩ := K
        refine g_callV (M' := mX8_fail) (b := a0) (As := [.int 1]) (rest := []) dX8_cost_33 bw_1336 bw_1338 bs_40 bw_9 bw_1339 ⟨by decide +kernel, by decide +kernel, show (parseMethodDescriptor mX8_fail.1.desc).map (fun d => d.parameters.length) = some 1 by decide +kernel⟩ (by decide) (by decide) (Nat.le_of_ble_eq_true rfl) fc_8 (by decide) rfl e58 C57 (Nat.zero_le _) (Nat.zero_le _) (fun _ _ h => h) ?_
        rintro _ h59 ⟨r60, rfl, K1⟩ -
        replace K := K r60 h59 K1
        show Gm l x mX8_cost 8 36 [(0, .ref a0), (1, .int x1), (2, .int x2), (3, .int x3), (4, .int x4)] [.int r60] h59 rc rs n0 Q X
        exact g_iret dX8_cost_36 rfl K
theorem dX8_group_0 : decode cX8_group 0 = .ok (.aload_n 0, 1) := by decide +kernel
theorem dX8_group_1 : decode cX8_group 1 = .ok (.iconst 0, 1) := by decide +kernel
theorem dX8_group_2 : decode cX8_group 2 = .ok (.putfield 104, 3) := by decide +kernel
theorem dX8_group_5 : decode cX8_group 5 = .ok (.iload_n 1, 1) := by decide +kernel
theorem dX8_group_6 : decode cX8_group 6 = .ok (.ifCond .lt 11, 3) := by decide +kernel
theorem dX8_group_9 : decode cX8_group 9 = .ok (.iload_n 1, 1) := by decide +kernel
theorem dX8_group_10 : decode cX8_group 10 = .ok (.aload_n 0, 1) := by decide +kernel
theorem dX8_group_11 : decode cX8_group 11 = .ok (.getfield 107, 3) := by decide +kernel
theorem dX8_group_14 : decode cX8_group 14 = .ok (.if_icmp .le 9, 3) := by decide +kernel
theorem dX8_group_17 : decode cX8_group 17 = .ok (.aload_n 0, 1) := by decide +kernel
theorem dX8_group_18 : decode cX8_group 18 = .ok (.iconst 1, 1) := by decide +kernel
theorem dX8_group_19 : decode cX8_group 19 = .ok (.invokevirtual 198, 3) := by decide +kernel
theorem dX8_group_22 : decode cX8_group 22 = .ok (.ireturn, 1) := by decide +kernel
theorem dX8_group_23 : decode cX8_group 23 = .ok (.aload_n 0, 1) := by decide +kernel
theorem dX8_group_24 : decode cX8_group 24 = .ok (.iconst 0, 1) := by decide +kernel
theorem dX8_group_25 : decode cX8_group 25 = .ok (.putfield 107, 3) := by decide +kernel
theorem dX8_group_28 : decode cX8_group 28 = .ok (.aload_n 0, 1) := by decide +kernel
theorem dX8_group_29 : decode cX8_group 29 = .ok (.iload_n 1, 1) := by decide +kernel
theorem dX8_group_30 : decode cX8_group 30 = .ok (.putfield 110, 3) := by decide +kernel
theorem dX8_group_33 : decode cX8_group 33 = .ok (.aload_n 0, 1) := by decide +kernel
theorem dX8_group_34 : decode cX8_group 34 = .ok (.iconst 0, 1) := by decide +kernel
theorem dX8_group_35 : decode cX8_group 35 = .ok (.putfield 113, 3) := by decide +kernel
theorem dX8_group_38 : decode cX8_group 38 = .ok (.aload_n 0, 1) := by decide +kernel
theorem dX8_group_39 : decode cX8_group 39 = .ok (.iconst 0, 1) := by decide +kernel
theorem dX8_group_40 : decode cX8_group 40 = .ok (.putfield 146, 3) := by decide +kernel
theorem dX8_group_43 : decode cX8_group 43 = .ok (.aload_n 0, 1) := by decide +kernel
theorem dX8_group_44 : decode cX8_group 44 = .ok (.iconst (-1), 1) := by decide +kernel
theorem dX8_group_45 : decode cX8_group 45 = .ok (.putfield 57, 3) := by decide +kernel
theorem dX8_group_48 : decode cX8_group 48 = .ok (.aload_n 0, 1) := by decide +kernel
theorem dX8_group_49 : decode cX8_group 49 = .ok (.iconst 0, 1) := by decide +kernel
theorem dX8_group_50 : decode cX8_group 50 = .ok (.putfield 189, 3) := by decide +kernel
theorem dX8_group_53 : decode cX8_group 53 = .ok (.aload_n 0, 1) := by decide +kernel
theorem dX8_group_54 : decode cX8_group 54 = .ok (.getfield 39, 3) := by decide +kernel
theorem dX8_group_57 : decode cX8_group 57 = .ok (.invokestatic 97, 3) := by decide +kernel
theorem dX8_group_60 : decode cX8_group 60 = .ok (.aload_n 0, 1) := by decide +kernel
theorem dX8_group_61 : decode cX8_group 61 = .ok (.invokevirtual 171, 3) := by decide +kernel
theorem dX8_group_64 : decode cX8_group 64 = .ok (.aload_n 0, 1) := by decide +kernel
theorem dX8_group_65 : decode cX8_group 65 = .ok (.getfield 146, 3) := by decide +kernel
theorem dX8_group_68 : decode cX8_group 68 = .ok (.ifCond .ne 17, 3) := by decide +kernel
theorem dX8_group_71 : decode cX8_group 71 = .ok (.aload_n 0, 1) := by decide +kernel
theorem dX8_group_72 : decode cX8_group 72 = .ok (.getfield 123, 3) := by decide +kernel
theorem dX8_group_75 : decode cX8_group 75 = .ok (.ifCond .eq 10, 3) := by decide +kernel
theorem dX8_group_78 : decode cX8_group 78 = .ok (.aload_n 0, 1) := by decide +kernel
theorem dX8_group_79 : decode cX8_group 79 = .ok (.invokevirtual 201, 3) := by decide +kernel
theorem dX8_group_82 : decode cX8_group 82 = .ok (.goto (-18), 3) := by decide +kernel
theorem dX8_group_85 : decode cX8_group 85 = .ok (.aload_n 0, 1) := by decide +kernel
theorem dX8_group_86 : decode cX8_group 86 = .ok (.getfield 146, 3) := by decide +kernel
theorem dX8_group_89 : decode cX8_group 89 = .ok (.ifCond .eq 26, 3) := by decide +kernel
theorem dX8_group_92 : decode cX8_group 92 = .ok (.aload_n 0, 1) := by decide +kernel
theorem dX8_group_93 : decode cX8_group 93 = .ok (.aload_n 0, 1) := by decide +kernel
theorem dX8_group_94 : decode cX8_group 94 = .ok (.getfield 149, 3) := by decide +kernel
theorem dX8_group_97 : decode cX8_group 97 = .ok (.putfield 57, 3) := by decide +kernel
theorem dX8_group_100 : decode cX8_group 100 = .ok (.aload_n 0, 1) := by decide +kernel
theorem dX8_group_101 : decode cX8_group 101 = .ok (.getfield 33, 3) := by decide +kernel
theorem dX8_group_104 : decode cX8_group 104 = .ok (.iconst 0, 1) := by decide +kernel
theorem dX8_group_105 : decode cX8_group 105 = .ok (.dup2, 1) := by decide +kernel
theorem dX8_group_106 : decode cX8_group 106 = .ok (.iaload, 1) := by decide +kernel
theorem dX8_group_107 : decode cX8_group 107 = .ok (.iconst 1, 1) := by decide +kernel
theorem dX8_group_108 : decode cX8_group 108 = .ok (.iadd, 1) := by decide +kernel
theorem dX8_group_109 : decode cX8_group 109 = .ok (.iastore, 1) := by decide +kernel
theorem dX8_group_110 : decode cX8_group 110 = .ok (.aload_n 0, 1) := by decide +kernel
theorem dX8_group_111 : decode cX8_group 111 = .ok (.getfield 146, 3) := by decide +kernel
theorem dX8_group_114 : decode cX8_group 114 = .ok (.ireturn, 1) := by decide +kernel
theorem dX8_group_115 : decode cX8_group 115 = .ok (.aload_n 0, 1) := by decide +kernel
theorem dX8_group_116 : decode cX8_group 116 = .ok (.getfield 36, 3) := by decide +kernel
theorem dX8_group_119 : decode cX8_group 119 = .ok (.aload_n 0, 1) := by decide +kernel
theorem dX8_group_120 : decode cX8_group 120 = .ok (.getfield 39, 3) := by decide +kernel
theorem dX8_group_123 : decode cX8_group 123 = .ok (.invokestatic 204, 3) := by decide +kernel
theorem dX8_group_126 : decode cX8_group 126 = .ok (.aload_n 0, 1) := by decide +kernel
theorem dX8_group_127 : decode cX8_group 127 = .ok (.getfield 42, 3) := by decide +kernel
theorem dX8_group_130 : decode cX8_group 130 = .ok (.aload_n 0, 1) := by decide +kernel
theorem dX8_group_131 : decode cX8_group 131 = .ok (.getfield 45, 3) := by decide +kernel
theorem dX8_group_134 : decode cX8_group 134 = .ok (.invokestatic 204, 3) := by decide +kernel
theorem dX8_group_137 : decode cX8_group 137 = .ok (.aload_n 0, 1) := by decide +kernel
theorem dX8_group_138 : decode cX8_group 138 = .ok (.getfield 48, 3) := by decide +kernel
theorem dX8_group_141 : decode cX8_group 141 = .ok (.aload_n 0, 1) := by decide +kernel
theorem dX8_group_142 : decode cX8_group 142 = .ok (.getfield 51, 3) := by decide +kernel
theorem dX8_group_145 : decode cX8_group 145 = .ok (.invokestatic 204, 3) := by decide +kernel
theorem dX8_group_148 : decode cX8_group 148 = .ok (.aload_n 0, 1) := by decide +kernel
theorem dX8_group_149 : decode cX8_group 149 = .ok (.invokevirtual 101, 3) := by decide +kernel
theorem dX8_group_152 : decode cX8_group 152 = .ok (.aload_n 0, 1) := by decide +kernel
theorem dX8_group_153 : decode cX8_group 153 = .ok (.iconst 0, 1) := by decide +kernel
theorem dX8_group_154 : decode cX8_group 154 = .ok (.putfield 208, 3) := by decide +kernel
theorem dX8_group_157 : decode cX8_group 157 = .ok (.aload_n 0, 1) := by decide +kernel
theorem dX8_group_158 : decode cX8_group 158 = .ok (.iconst 0, 1) := by decide +kernel
theorem dX8_group_159 : decode cX8_group 159 = .ok (.putfield 211, 3) := by decide +kernel
theorem dX8_group_162 : decode cX8_group 162 = .ok (.aload_n 0, 1) := by decide +kernel
theorem dX8_group_163 : decode cX8_group 163 = .ok (.iconst 0, 1) := by decide +kernel
theorem dX8_group_164 : decode cX8_group 164 = .ok (.putfield 214, 3) := by decide +kernel
theorem dX8_group_167 : decode cX8_group 167 = .ok (.iconst 0, 1) := by decide +kernel
theorem dX8_group_168 : decode cX8_group 168 = .ok (.ireturn, 1) := by decide +kernel
theorem dX8_gives_0 : decode cX8_gives 0 = .ok (.iload_n 1, 1) := by decide +kernel
theorem dX8_gives_1 : decode cX8_gives 1 = .ok (.iload_n 2, 1) := by decide +kernel
theorem dX8_gives_2 : decode cX8_gives 2 = .ok (.iload_n 3, 1) := by decide +kernel
theorem dX8_gives_3 : decode cX8_gives 3 = .ok (.invokestatic 234, 3) := by decide +kernel
theorem dX8_gives_6 : decode cX8_gives 6 = .ok (.istore 4, 2) := by decide +kernel
theorem dX8_gives_8 : decode cX8_gives 8 = .ok (.aload_n 0, 1) := by decide +kernel
theorem dX8_gives_9 : decode cX8_gives 9 = .ok (.iload_n 1, 1) := by decide +kernel
theorem dX8_gives_10 : decode cX8_gives 10 = .ok (.iload_n 2, 1) := by decide +kernel
theorem dX8_gives_11 : decode cX8_gives 11 = .ok (.iload_n 3, 1) := by decide +kernel
theorem dX8_gives_12 : decode cX8_gives 12 = .ok (.invokevirtual 320, 3) := by decide +kernel
theorem dX8_gives_15 : decode cX8_gives 15 = .ok (.ifCond .eq 30, 3) := by decide +kernel
theorem dX8_gives_18 : decode cX8_gives 18 = .ok (.aload_n 0, 1) := by decide +kernel
theorem dX8_gives_19 : decode cX8_gives 19 = .ok (.getfield 29, 3) := by decide +kernel
theorem dX8_gives_22 : decode cX8_gives 22 = .ok (.iload 4, 2) := by decide +kernel
theorem dX8_gives_24 : decode cX8_gives 24 = .ok (.iaload, 1) := by decide +kernel
theorem dX8_gives_25 : decode cX8_gives 25 = .ok (.ifCond .le 21, 3) := by decide +kernel
theorem dX8_gives_28 : decode cX8_gives 28 = .ok (.aload_n 0, 1) := by decide +kernel
theorem dX8_gives_29 : decode cX8_gives 29 = .ok (.aload_n 0, 1) := by decide +kernel
theorem dX8_gives_30 : decode cX8_gives 30 = .ok (.getfield 29, 3) := by decide +kernel
theorem dX8_gives_33 : decode cX8_gives 33 = .ok (.iload 4, 2) := by decide +kernel
theorem dX8_gives_35 : decode cX8_gives 35 = .ok (.iaload, 1) := by decide +kernel
theorem dX8_gives_36 : decode cX8_gives 36 = .ok (.iconst 1, 1) := by decide +kernel
theorem dX8_gives_37 : decode cX8_gives 37 = .ok (.isub, 1) := by decide +kernel
theorem dX8_gives_38 : decode cX8_gives 38 = .ok (.iload_n 1, 1) := by decide +kernel
theorem dX8_gives_39 : decode cX8_gives 39 = .ok (.invokevirtual 323, 3) := by decide +kernel
theorem dX8_gives_42 : decode cX8_gives 42 = .ok (.ifCond .ne 4, 3) := by decide +kernel
theorem dX8_gives_45 : decode cX8_gives 45 = .ok (.return_, 1) := by decide +kernel
theorem dX8_gives_46 : decode cX8_gives 46 = .ok (.aload_n 0, 1) := by decide +kernel
theorem dX8_gives_47 : decode cX8_gives 47 = .ok (.iload_n 1, 1) := by decide +kernel
theorem dX8_gives_48 : decode cX8_gives 48 = .ok (.iload_n 2, 1) := by decide +kernel
theorem dX8_gives_49 : decode cX8_gives 49 = .ok (.iload_n 3, 1) := by decide +kernel
theorem dX8_gives_50 : decode cX8_gives 50 = .ok (.invokevirtual 326, 3) := by decide +kernel
theorem dX8_gives_53 : decode cX8_gives 53 = .ok (.istore 5, 2) := by decide +kernel
theorem dX8_gives_55 : decode cX8_gives 55 = .ok (.aload_n 0, 1) := by decide +kernel
theorem dX8_gives_56 : decode cX8_gives 56 = .ok (.getfield 29, 3) := by decide +kernel
theorem dX8_gives_59 : decode cX8_gives 59 = .ok (.iload 4, 2) := by decide +kernel
theorem dX8_gives_61 : decode cX8_gives 61 = .ok (.iload 5, 2) := by decide +kernel
theorem dX8_gives_63 : decode cX8_gives 63 = .ok (.iconst 1, 1) := by decide +kernel
theorem dX8_gives_64 : decode cX8_gives 64 = .ok (.iadd, 1) := by decide +kernel
theorem dX8_gives_65 : decode cX8_gives 65 = .ok (.iastore, 1) := by decide +kernel
theorem dX8_gives_66 : decode cX8_gives 66 = .ok (.iload 5, 2) := by decide +kernel
theorem dX8_gives_68 : decode cX8_gives 68 = .ok (.iconst (-1), 1) := by decide +kernel
theorem dX8_gives_69 : decode cX8_gives 69 = .ok (.if_icmp .eq 20, 3) := by decide +kernel
theorem dX8_gives_72 : decode cX8_gives 72 = .ok (.aload_n 0, 1) := by decide +kernel
theorem dX8_gives_73 : decode cX8_gives 73 = .ok (.getfield 29, 3) := by decide +kernel
theorem dX8_gives_76 : decode cX8_gives 76 = .ok (.iconst 2, 1) := by decide +kernel
theorem dX8_gives_77 : decode cX8_gives 77 = .ok (.iaload, 1) := by decide +kernel
theorem dX8_gives_78 : decode cX8_gives 78 = .ok (.ifCond .ne 11, 3) := by decide +kernel
theorem dX8_gives_81 : decode cX8_gives 81 = .ok (.aload_n 0, 1) := by decide +kernel
theorem dX8_gives_82 : decode cX8_gives 82 = .ok (.getfield 29, 3) := by decide +kernel
theorem dX8_gives_85 : decode cX8_gives 85 = .ok (.iconst 4, 1) := by decide +kernel
theorem dX8_gives_86 : decode cX8_gives 86 = .ok (.iload 5, 2) := by decide +kernel
theorem dX8_gives_88 : decode cX8_gives 88 = .ok (.iastore, 1) := by decide +kernel
theorem dX8_gives_89 : decode cX8_gives 89 = .ok (.return_, 1) := by decide +kernel
theorem dX8_tick_0 : decode cX8_tick 0 = .ok (.iconst 0, 1) := by decide +kernel
theorem dX8_tick_1 : decode cX8_tick 1 = .ok (.istore_n 1, 1) := by decide +kernel
theorem dX8_tick_2 : decode cX8_tick 2 = .ok (.iload_n 1, 1) := by decide +kernel
theorem dX8_tick_3 : decode cX8_tick 3 = .ok (.aload_n 0, 1) := by decide +kernel
theorem dX8_tick_4 : decode cX8_tick 4 = .ok (.getfield 29, 3) := by decide +kernel
theorem dX8_tick_7 : decode cX8_tick 7 = .ok (.bipush 6, 2) := by decide +kernel
theorem dX8_tick_9 : decode cX8_tick 9 = .ok (.iaload, 1) := by decide +kernel
theorem dX8_tick_10 : decode cX8_tick 10 = .ok (.if_icmp .ge 38, 3) := by decide +kernel
theorem dX8_tick_13 : decode cX8_tick 13 = .ok (.aload_n 0, 1) := by decide +kernel
theorem dX8_tick_14 : decode cX8_tick 14 = .ok (.iload_n 1, 1) := by decide +kernel
theorem dX8_tick_15 : decode cX8_tick 15 = .ok (.iconst 4, 1) := by decide +kernel
theorem dX8_tick_16 : decode cX8_tick 16 = .ok (.invokevirtual 228, 3) := by decide +kernel
theorem dX8_tick_19 : decode cX8_tick 19 = .ok (.ifCond .ne 23, 3) := by decide +kernel
theorem dX8_tick_22 : decode cX8_tick 22 = .ok (.aload_n 0, 1) := by decide +kernel
theorem dX8_tick_23 : decode cX8_tick 23 = .ok (.iload_n 1, 1) := by decide +kernel
theorem dX8_tick_24 : decode cX8_tick 24 = .ok (.iconst 1, 1) := by decide +kernel
theorem dX8_tick_25 : decode cX8_tick 25 = .ok (.invokevirtual 228, 3) := by decide +kernel
theorem dX8_tick_28 : decode cX8_tick 28 = .ok (.aload_n 0, 1) := by decide +kernel
theorem dX8_tick_29 : decode cX8_tick 29 = .ok (.getfield 29, 3) := by decide +kernel
theorem dX8_tick_32 : decode cX8_tick 32 = .ok (.iconst 0, 1) := by decide +kernel
theorem dX8_tick_33 : decode cX8_tick 33 = .ok (.iaload, 1) := by decide +kernel
theorem dX8_tick_34 : decode cX8_tick 34 = .ok (.if_icmp .ne 8, 3) := by decide +kernel
theorem dX8_tick_37 : decode cX8_tick 37 = .ok (.aload_n 0, 1) := by decide +kernel
theorem dX8_tick_38 : decode cX8_tick 38 = .ok (.iload_n 1, 1) := by decide +kernel
theorem dX8_tick_39 : decode cX8_tick 39 = .ok (.invokevirtual 329, 3) := by decide +kernel
theorem dX8_tick_42 : decode cX8_tick 42 = .ok (.iinc 1 1, 3) := by decide +kernel
theorem dX8_tick_45 : decode cX8_tick 45 = .ok (.goto (-43), 3) := by decide +kernel
theorem dX8_tick_48 : decode cX8_tick 48 = .ok (.aload_n 0, 1) := by decide +kernel
theorem dX8_tick_49 : decode cX8_tick 49 = .ok (.getfield 29, 3) := by decide +kernel
theorem dX8_tick_52 : decode cX8_tick 52 = .ok (.iconst 1, 1) := by decide +kernel
theorem dX8_tick_53 : decode cX8_tick 53 = .ok (.iaload, 1) := by decide +kernel
theorem dX8_tick_54 : decode cX8_tick 54 = .ok (.iconst 1, 1) := by decide +kernel
theorem dX8_tick_55 : decode cX8_tick 55 = .ok (.if_icmp .ne 7, 3) := by decide +kernel
theorem dX8_tick_58 : decode cX8_tick 58 = .ok (.iconst 1, 1) := by decide +kernel
theorem dX8_tick_59 : decode cX8_tick 59 = .ok (.goto 4, 3) := by decide +kernel
theorem dX8_tick_62 : decode cX8_tick 62 = .ok (.iconst 0, 1) := by decide +kernel
theorem dX8_tick_63 : decode cX8_tick 63 = .ok (.istore_n 1, 1) := by decide +kernel
theorem dX8_tick_64 : decode cX8_tick 64 = .ok (.sipush 264, 3) := by decide +kernel
theorem dX8_tick_67 : decode cX8_tick 67 = .ok (.istore_n 2, 1) := by decide +kernel
theorem dX8_tick_68 : decode cX8_tick 68 = .ok (.iload_n 2, 1) := by decide +kernel
theorem dX8_tick_69 : decode cX8_tick 69 = .ok (.sipush 312, 3) := by decide +kernel
theorem dX8_tick_72 : decode cX8_tick 72 = .ok (.if_icmp .ge 20, 3) := by decide +kernel
theorem dX8_tick_75 : decode cX8_tick 75 = .ok (.iload_n 1, 1) := by decide +kernel
theorem dX8_tick_76 : decode cX8_tick 76 = .ok (.ifCond .eq 16, 3) := by decide +kernel
theorem dX8_tick_79 : decode cX8_tick 79 = .ok (.aload_n 0, 1) := by decide +kernel
theorem dX8_tick_80 : decode cX8_tick 80 = .ok (.getfield 29, 3) := by decide +kernel
theorem dX8_tick_83 : decode cX8_tick 83 = .ok (.iload_n 2, 1) := by decide +kernel
theorem dX8_tick_84 : decode cX8_tick 84 = .ok (.iconst 0, 1) := by decide +kernel
theorem dX8_tick_85 : decode cX8_tick 85 = .ok (.iastore, 1) := by decide +kernel
theorem dX8_tick_86 : decode cX8_tick 86 = .ok (.iinc 2 1, 3) := by decide +kernel
theorem dX8_tick_89 : decode cX8_tick 89 = .ok (.goto (-21), 3) := by decide +kernel
theorem dX8_tick_92 : decode cX8_tick 92 = .ok (.iconst 0, 1) := by decide +kernel
theorem dX8_tick_93 : decode cX8_tick 93 = .ok (.istore_n 2, 1) := by decide +kernel
theorem dX8_tick_94 : decode cX8_tick 94 = .ok (.iload_n 2, 1) := by decide +kernel
theorem dX8_tick_95 : decode cX8_tick 95 = .ok (.aload_n 0, 1) := by decide +kernel
theorem dX8_tick_96 : decode cX8_tick 96 = .ok (.getfield 36, 3) := by decide +kernel
theorem dX8_tick_99 : decode cX8_tick 99 = .ok (.iconst 0, 1) := by decide +kernel
theorem dX8_tick_100 : decode cX8_tick 100 = .ok (.iaload, 1) := by decide +kernel
theorem dX8_tick_101 : decode cX8_tick 101 = .ok (.if_icmp .ge 46, 3) := by decide +kernel
theorem dX8_tick_104 : decode cX8_tick 104 = .ok (.iload_n 1, 1) := by decide +kernel
theorem dX8_tick_105 : decode cX8_tick 105 = .ok (.ifCond .ne 42, 3) := by decide +kernel
theorem dX8_tick_108 : decode cX8_tick 108 = .ok (.iconst 0, 1) := by decide +kernel
theorem dX8_tick_109 : decode cX8_tick 109 = .ok (.istore_n 3, 1) := by decide +kernel
theorem dX8_tick_110 : decode cX8_tick 110 = .ok (.iload_n 3, 1) := by decide +kernel
theorem dX8_tick_111 : decode cX8_tick 111 = .ok (.iconst 4, 1) := by decide +kernel
theorem dX8_tick_112 : decode cX8_tick 112 = .ok (.if_icmp .ge 29, 3) := by decide +kernel
theorem dX8_tick_115 : decode cX8_tick 115 = .ok (.aload_n 0, 1) := by decide +kernel
theorem dX8_tick_116 : decode cX8_tick 116 = .ok (.iload_n 2, 1) := by decide +kernel
theorem dX8_tick_117 : decode cX8_tick 117 = .ok (.iload_n 3, 1) := by decide +kernel
theorem dX8_tick_118 : decode cX8_tick 118 = .ok (.iconst 2, 1) := by decide +kernel
theorem dX8_tick_119 : decode cX8_tick 119 = .ok (.if_icmp .ge 7, 3) := by decide +kernel
theorem dX8_tick_122 : decode cX8_tick 122 = .ok (.iconst 1, 1) := by decide +kernel
theorem dX8_tick_123 : decode cX8_tick 123 = .ok (.goto 4, 3) := by decide +kernel
theorem dX8_tick_126 : decode cX8_tick 126 = .ok (.iconst (-1), 1) := by decide +kernel
theorem dX8_tick_127 : decode cX8_tick 127 = .ok (.iconst 1, 1) := by decide +kernel
theorem dX8_tick_128 : decode cX8_tick 128 = .ok (.iload_n 3, 1) := by decide +kernel
theorem dX8_tick_129 : decode cX8_tick 129 = .ok (.iconst 2, 1) := by decide +kernel
theorem dX8_tick_130 : decode cX8_tick 130 = .ok (.irem, 1) := by decide +kernel
theorem dX8_tick_131 : decode cX8_tick 131 = .ok (.iadd, 1) := by decide +kernel
theorem dX8_tick_132 : decode cX8_tick 132 = .ok (.invokevirtual 332, 3) := by decide +kernel
theorem dX8_tick_135 : decode cX8_tick 135 = .ok (.iinc 3 1, 3) := by decide +kernel
theorem dX8_tick_138 : decode cX8_tick 138 = .ok (.goto (-28), 3) := by decide +kernel
theorem dX8_tick_141 : decode cX8_tick 141 = .ok (.iinc 2 1, 3) := by decide +kernel
theorem dX8_tick_144 : decode cX8_tick 144 = .ok (.goto (-50), 3) := by decide +kernel
theorem dX8_tick_147 : decode cX8_tick 147 = .ok (.iconst 0, 1) := by decide +kernel
theorem dX8_tick_148 : decode cX8_tick 148 = .ok (.istore_n 2, 1) := by decide +kernel
theorem dX8_tick_149 : decode cX8_tick 149 = .ok (.iload_n 2, 1) := by decide +kernel
theorem dX8_tick_150 : decode cX8_tick 150 = .ok (.aload_n 0, 1) := by decide +kernel
theorem dX8_tick_151 : decode cX8_tick 151 = .ok (.getfield 36, 3) := by decide +kernel
theorem dX8_tick_154 : decode cX8_tick 154 = .ok (.iconst 1, 1) := by decide +kernel
theorem dX8_tick_155 : decode cX8_tick 155 = .ok (.iaload, 1) := by decide +kernel
theorem dX8_tick_156 : decode cX8_tick 156 = .ok (.if_icmp .ge 39, 3) := by decide +kernel
theorem dX8_tick_159 : decode cX8_tick 159 = .ok (.aload_n 0, 1) := by decide +kernel
theorem dX8_tick_160 : decode cX8_tick 160 = .ok (.iload_n 2, 1) := by decide +kernel
theorem dX8_tick_161 : decode cX8_tick 161 = .ok (.iconst 4, 1) := by decide +kernel
theorem dX8_tick_162 : decode cX8_tick 162 = .ok (.invokevirtual 238, 3) := by decide +kernel
theorem dX8_tick_165 : decode cX8_tick 165 = .ok (.ifCond .ne 6, 3) := by decide +kernel
theorem dX8_tick_168 : decode cX8_tick 168 = .ok (.goto 21, 3) := by decide +kernel
theorem dX8_tick_171 : decode cX8_tick 171 = .ok (.iload_n 1, 1) := by decide +kernel
theorem dX8_tick_172 : decode cX8_tick 172 = .ok (.ifCond .eq 11, 3) := by decide +kernel
theorem dX8_tick_175 : decode cX8_tick 175 = .ok (.aload_n 0, 1) := by decide +kernel
theorem dX8_tick_176 : decode cX8_tick 176 = .ok (.iload_n 2, 1) := by decide +kernel
theorem dX8_tick_177 : decode cX8_tick 177 = .ok (.invokevirtual 335, 3) := by decide +kernel
theorem dX8_tick_180 : decode cX8_tick 180 = .ok (.goto 9, 3) := by decide +kernel
theorem dX8_tick_183 : decode cX8_tick 183 = .ok (.aload_n 0, 1) := by decide +kernel
theorem dX8_tick_184 : decode cX8_tick 184 = .ok (.iload_n 2, 1) := by decide +kernel
theorem dX8_tick_185 : decode cX8_tick 185 = .ok (.invokevirtual 310, 3) := by decide +kernel
theorem dX8_tick_188 : decode cX8_tick 188 = .ok (.istore_n 3, 1) := by decide +kernel
theorem dX8_tick_189 : decode cX8_tick 189 = .ok (.iinc 2 1, 3) := by decide +kernel
theorem dX8_tick_192 : decode cX8_tick 192 = .ok (.goto (-43), 3) := by decide +kernel
theorem dX8_tick_195 : decode cX8_tick 195 = .ok (.aload_n 0, 1) := by decide +kernel
theorem dX8_tick_196 : decode cX8_tick 196 = .ok (.getfield 29, 3) := by decide +kernel
theorem dX8_tick_199 : decode cX8_tick 199 = .ok (.iconst 0, 1) := by decide +kernel
theorem dX8_tick_200 : decode cX8_tick 200 = .ok (.dup2, 1) := by decide +kernel
theorem dX8_tick_201 : decode cX8_tick 201 = .ok (.iaload, 1) := by decide +kernel
theorem dX8_tick_202 : decode cX8_tick 202 = .ok (.iconst 1, 1) := by decide +kernel
theorem dX8_tick_203 : decode cX8_tick 203 = .ok (.iadd, 1) := by decide +kernel
theorem dX8_tick_204 : decode cX8_tick 204 = .ok (.iastore, 1) := by decide +kernel
theorem dX8_tick_205 : decode cX8_tick 205 = .ok (.iconst 0, 1) := by decide +kernel
theorem dX8_tick_206 : decode cX8_tick 206 = .ok (.istore_n 2, 1) := by decide +kernel
theorem dX8_tick_207 : decode cX8_tick 207 = .ok (.iload_n 2, 1) := by decide +kernel
theorem dX8_tick_208 : decode cX8_tick 208 = .ok (.aload_n 0, 1) := by decide +kernel
theorem dX8_tick_209 : decode cX8_tick 209 = .ok (.getfield 29, 3) := by decide +kernel
theorem dX8_tick_212 : decode cX8_tick 212 = .ok (.bipush 6, 2) := by decide +kernel
theorem dX8_tick_214 : decode cX8_tick 214 = .ok (.iaload, 1) := by decide +kernel
theorem dX8_tick_215 : decode cX8_tick 215 = .ok (.if_icmp .ge 35, 3) := by decide +kernel
theorem dX8_tick_218 : decode cX8_tick 218 = .ok (.aload_n 0, 1) := by decide +kernel
theorem dX8_tick_219 : decode cX8_tick 219 = .ok (.iload_n 2, 1) := by decide +kernel
theorem dX8_tick_220 : decode cX8_tick 220 = .ok (.iconst 4, 1) := by decide +kernel
theorem dX8_tick_221 : decode cX8_tick 221 = .ok (.invokevirtual 228, 3) := by decide +kernel
theorem dX8_tick_224 : decode cX8_tick 224 = .ok (.iconst 1, 1) := by decide +kernel
theorem dX8_tick_225 : decode cX8_tick 225 = .ok (.if_icmp .ne 19, 3) := by decide +kernel
theorem dX8_tick_228 : decode cX8_tick 228 = .ok (.aload_n 0, 1) := by decide +kernel
theorem dX8_tick_229 : decode cX8_tick 229 = .ok (.iload_n 2, 1) := by decide +kernel
theorem dX8_tick_230 : decode cX8_tick 230 = .ok (.bipush 6, 2) := by decide +kernel
theorem dX8_tick_232 : decode cX8_tick 232 = .ok (.aload_n 0, 1) := by decide +kernel
theorem dX8_tick_233 : decode cX8_tick 233 = .ok (.iload_n 2, 1) := by decide +kernel
theorem dX8_tick_234 : decode cX8_tick 234 = .ok (.bipush 6, 2) := by decide +kernel
theorem dX8_tick_236 : decode cX8_tick 236 = .ok (.invokevirtual 228, 3) := by decide +kernel
theorem dX8_tick_239 : decode cX8_tick 239 = .ok (.iconst 1, 1) := by decide +kernel
theorem dX8_tick_240 : decode cX8_tick 240 = .ok (.iadd, 1) := by decide +kernel
theorem dX8_tick_241 : decode cX8_tick 241 = .ok (.invokevirtual 225, 3) := by decide +kernel
theorem dX8_tick_244 : decode cX8_tick 244 = .ok (.iinc 2 1, 3) := by decide +kernel
theorem dX8_tick_247 : decode cX8_tick 247 = .ok (.goto (-40), 3) := by decide +kernel
theorem dX8_tick_250 : decode cX8_tick 250 = .ok (.return_, 1) := by decide +kernel
theorem dX8_ticksNow_0 : decode cX8_ticksNow 0 = .ok (.iconst 0, 1) := by decide +kernel
theorem dX8_ticksNow_1 : decode cX8_ticksNow 1 = .ok (.istore_n 2, 1) := by decide +kernel
theorem dX8_ticksNow_2 : decode cX8_ticksNow 2 = .ok (.iload_n 2, 1) := by decide +kernel
theorem dX8_ticksNow_3 : decode cX8_ticksNow 3 = .ok (.iload_n 1, 1) := by decide +kernel
theorem dX8_ticksNow_4 : decode cX8_ticksNow 4 = .ok (.if_icmp .ge 13, 3) := by decide +kernel
theorem dX8_ticksNow_7 : decode cX8_ticksNow 7 = .ok (.aload_n 0, 1) := by decide +kernel
theorem dX8_ticksNow_8 : decode cX8_ticksNow 8 = .ok (.invokevirtual 338, 3) := by decide +kernel
theorem dX8_ticksNow_11 : decode cX8_ticksNow 11 = .ok (.iinc 2 1, 3) := by decide +kernel
theorem dX8_ticksNow_14 : decode cX8_ticksNow 14 = .ok (.goto (-12), 3) := by decide +kernel
theorem dX8_ticksNow_17 : decode cX8_ticksNow 17 = .ok (.return_, 1) := by decide +kernel
set_option maxRecDepth 20000 in
set_option maxHeartbeats 4000000 in
theorem vX8_ticksNow_0 {l : Launch} {x : CX} {a0 : Nat} {x1 : Int32} {h : PH} {rc rs n0 : Nat} {Q : Option Value → PH → Prop} {X : String → PH → Prop}
    (K : Gm l x mX8_ticksNow 11 2 [(0, .ref a0), (1, .int x1), (2, .int 0)] [] h rc rs n0 Q X) :
    Gm l x mX8_ticksNow 11 0 [(0, .ref a0), (1, .int x1)] [] h rc rs n0 Q X := by
  refine g_iconst (v := 0) dX8_ticksNow_0 (by decide) ?_
  refine g_istore_n (lv' := [(0, .ref a0), (1, .int x1), (2, .int 0)]) dX8_ticksNow_1 rfl (by decide) rfl ?_
  exact K
set_option maxRecDepth 20000 in
set_option maxHeartbeats 4000000 in
theorem vX8_ticksNow_2 {l : Launch} {x : CX} {a0 : Nat} {x1 : Int32} {x2 : Int32} {h : PH} {rc rs n0 : Nat} {Q : Option Value → PH → Prop} {X : String → PH → Prop}
    (K : ((x1 ≤ x2 → Q none h) ∧ (¬ x1 ≤ x2 → ((hK h a0).1 = 8) ∧ ∃ (q2 : PH → Prop), CV l x mX8_tick 10 0 0 [.ref a0] h q2 ∧ ∀ (h5 : PH), q2 h5 → Gm l x mX8_ticksNow 11 2 [(0, .ref a0), (1, .int x1), (2, .int (x2 + 1))] [] h5 rc rs n0 Q X))) :
    Gm l x mX8_ticksNow 11 2 [(0, .ref a0), (1, .int x1), (2, .int x2)] [] h rc rs n0 Q X := by
  refine g_iload_n dX8_ticksNow_2 rfl 2 rfl ?_
  refine g_iload_n dX8_ticksNow_3 rfl 1 rfl ?_
  refine g_icmp_ge (tgt := 17) dX8_ticksNow_4 (by decide) (fun c1 => ?_) (fun c1 => ?_)
  · replace K := K.1 c1
    exact g_vret dX8_ticksNow_17 rfl K
  · replace K := K.2 c1
    refine g_aload_n dX8_ticksNow_7 rfl 0 rfl ?_
    obtain ⟨e4, K⟩ := K
    obtain ⟨q2, C3, K⟩ := K
    refine g_callV (M' := mX8_tick) (b := a0) (As := []) (rest := []) dX8_ticksNow_8 bw_1456 bw_1458 bs_64 bw_9 bw_1459 ⟨by decide +kernel, by decide +kernel, show (parseMethodDescriptor mX8_tick.1.desc).map (fun d => d.parameters.length) = some 0 by decide +kernel⟩ (by decide) (by decide) (Nat.le_of_ble_eq_true rfl) fc_8 (by decide) rfl e4 C3 (Nat.zero_le _) (Nat.zero_le _) (fun _ _ h => h) ?_
    rintro _ h5 ⟨rfl, K1⟩ -
    replace K := K h5 K1
    show Gm l x mX8_ticksNow 11 11 [(0, .ref a0), (1, .int x1), (2, .int x2)] [] h5 rc rs n0 Q X
    refine g_iinc (v := (x2 + 1)) (lv' := [(0, .ref a0), (1, .int x1), (2, .int (x2 + 1))]) dX8_ticksNow_11 2 rfl (by rfl) (by decide) rfl ?_
    refine g_goto (tgt := 2) dX8_ticksNow_14 (by decide) ?_
    exact K
theorem dX8_quiet_0 : decode cX8_quiet 0 = .ok (.aload_n 0, 1) := by decide +kernel
theorem dX8_quiet_1 : decode cX8_quiet 1 = .ok (.getfield 64, 3) := by decide +kernel
theorem dX8_quiet_4 : decode cX8_quiet 4 = .ok (.aload_n 0, 1) := by decide +kernel
theorem dX8_quiet_5 : decode cX8_quiet 5 = .ok (.getfield 29, 3) := by decide +kernel
theorem dX8_quiet_8 : decode cX8_quiet 8 = .ok (.invokestatic 204, 3) := by decide +kernel
theorem dX8_quiet_11 : decode cX8_quiet 11 = .ok (.iconst 0, 1) := by decide +kernel
theorem dX8_quiet_12 : decode cX8_quiet 12 = .ok (.istore_n 1, 1) := by decide +kernel
theorem dX8_quiet_13 : decode cX8_quiet 13 = .ok (.iload_n 1, 1) := by decide +kernel
theorem dX8_quiet_14 : decode cX8_quiet 14 = .ok (.sipush 200, 3) := by decide +kernel
theorem dX8_quiet_17 : decode cX8_quiet 17 = .ok (.if_icmp .gt 20, 3) := by decide +kernel
theorem dX8_quiet_20 : decode cX8_quiet 20 = .ok (.aload_n 0, 1) := by decide +kernel
theorem dX8_quiet_21 : decode cX8_quiet 21 = .ok (.invokevirtual 347, 3) := by decide +kernel
theorem dX8_quiet_24 : decode cX8_quiet 24 = .ok (.ifCond .ne 13, 3) := by decide +kernel
theorem dX8_quiet_27 : decode cX8_quiet 27 = .ok (.aload_n 0, 1) := by decide +kernel
theorem dX8_quiet_28 : decode cX8_quiet 28 = .ok (.invokevirtual 338, 3) := by decide +kernel
theorem dX8_quiet_31 : decode cX8_quiet 31 = .ok (.iinc 1 1, 3) := by decide +kernel
theorem dX8_quiet_34 : decode cX8_quiet 34 = .ok (.goto (-21), 3) := by decide +kernel
theorem dX8_quiet_37 : decode cX8_quiet 37 = .ok (.aload_n 0, 1) := by decide +kernel
theorem dX8_quiet_38 : decode cX8_quiet 38 = .ok (.getfield 29, 3) := by decide +kernel
theorem dX8_quiet_41 : decode cX8_quiet 41 = .ok (.aload_n 0, 1) := by decide +kernel
theorem dX8_quiet_42 : decode cX8_quiet 42 = .ok (.getfield 64, 3) := by decide +kernel
theorem dX8_quiet_45 : decode cX8_quiet 45 = .ok (.invokestatic 204, 3) := by decide +kernel
theorem dX8_quiet_48 : decode cX8_quiet 48 = .ok (.iload_n 1, 1) := by decide +kernel
theorem dX8_quiet_49 : decode cX8_quiet 49 = .ok (.sipush 200, 3) := by decide +kernel
theorem dX8_quiet_52 : decode cX8_quiet 52 = .ok (.if_icmp .gt 7, 3) := by decide +kernel
theorem dX8_quiet_55 : decode cX8_quiet 55 = .ok (.iload_n 1, 1) := by decide +kernel
theorem dX8_quiet_56 : decode cX8_quiet 56 = .ok (.goto 4, 3) := by decide +kernel
theorem dX8_quiet_59 : decode cX8_quiet 59 = .ok (.iconst (-1), 1) := by decide +kernel
theorem dX8_quiet_60 : decode cX8_quiet 60 = .ok (.ireturn, 1) := by decide +kernel
set_option maxRecDepth 20000 in
set_option maxHeartbeats 4000000 in
theorem vX8_quiet_0 {l : Launch} {x : CX} {a0 : Nat} {h : PH} {rc rs n0 : Nat} {Q : Option Value → PH → Prop} {X : String → PH → Prop}
    (K : ((hK h a0).1 = 8) ∧ ∃ b2, (hR h a0 23 = some b2) ∧ ∃ b4, (hR h a0 2 = some b4) ∧ ∃ (q6 : PH → Prop), CV l x mX8_copyTo 0 0 0 [.ref b2, .ref b4] h q6 ∧ ∀ (h8 : PH), q6 h8 → Gm l x mX8_quiet 11 13 [(0, .ref a0), (1, .int 0)] [] h8 rc rs n0 Q X) :
    Gm l x mX8_quiet 11 0 [(0, .ref a0)] [] h rc rs n0 Q X := by
  refine g_aload_n dX8_quiet_0 rfl 0 rfl ?_
  obtain ⟨e1, b2, e3, K⟩ := K
  refine g_get (c := 8) (k := 23) (v := .ref b2) dX8_quiet_1 fc_8 (by decide) (by decide) bw_1220 (congrArg pr e3) e1 ?_
  refine g_aload_n dX8_quiet_4 rfl 0 rfl ?_
  obtain ⟨b4, e5, K⟩ := K
  refine g_get (c := 8) (k := 2) (v := .ref b4) dX8_quiet_5 fc_8 (by decide) (by decide) bw_1199 (congrArg pr e5) e1 ?_
  obtain ⟨q6, C7, K⟩ := K
  refine g_callS (M' := mX8_copyTo) (As := [.ref b2, .ref b4]) (rest := []) dX8_quiet_8 bw_1397 bw_1398 bw_9 bw_1399 ⟨by decide +kernel, by decide +kernel, show (parseMethodDescriptor mX8_copyTo.1.desc).map (fun d => d.parameters.length) = some 2 by decide +kernel⟩ (by decide) (by decide) (Nat.le_of_ble_eq_true rfl) C7 (Nat.zero_le _) (Nat.zero_le _) (fun _ _ h => h) ?_
  rintro _ h8 ⟨rfl, K1⟩ -
  replace K := K h8 K1
  show Gm l x mX8_quiet 11 11 [(0, .ref a0)] [] h8 rc rs n0 Q X
  refine g_iconst (v := 0) dX8_quiet_11 (by decide) ?_
  refine g_istore_n (lv' := [(0, .ref a0), (1, .int 0)]) dX8_quiet_12 rfl (by decide) rfl ?_
  exact K
set_option maxRecDepth 20000 in
set_option maxHeartbeats 4000000 in
theorem vX8_quiet_13 {l : Launch} {x : CX} {a0 : Nat} {x1 : Int32} {h : PH} {rc rs n0 : Nat} {Q : Option Value → PH → Prop} {X : String → PH → Prop}
    (K : ((200 < x1 → ((hK h a0).1 = 8) ∧ ∃ b3, (hR h a0 2 = some b3) ∧ ∃ b5, (hR h a0 23 = some b5) ∧ ∃ (q7 : PH → Prop), CV l x mX8_copyTo 0 0 0 [.ref b3, .ref b5] h q7 ∧ ∀ (h9 : PH), q7 h9 → Q (some (.int (if 200 < x1 then (-1) else x1 : Int32))) h9) ∧ (¬ 200 < x1 → ((hK h a0).1 = 8) ∧ ∃ (q11 : Int32 → PH → Prop), CI l x mX8_isQuiet 3 0 0 [.ref a0] h q11 ∧ ∀ (r15 : Int32) (h14 : PH), q11 r15 h14 → ((¬ r15 = 0 → ((hK h14 a0).1 = 8) ∧ ∃ b18, (hR h14 a0 2 = some b18) ∧ ∃ b20, (hR h14 a0 23 = some b20) ∧ ∃ (q22 : PH → Prop), CV l x mX8_copyTo 0 0 0 [.ref b18, .ref b20] h14 q22 ∧ ∀ (h24 : PH), q22 h24 → Q (some (.int (if 200 < x1 then (-1) else x1 : Int32))) h24) ∧ (r15 = 0 → ((hK h14 a0).1 = 8) ∧ ∃ (q26 : PH → Prop), CV l x mX8_tick 10 0 0 [.ref a0] h14 q26 ∧ ∀ (h29 : PH), q26 h29 → Gm l x mX8_quiet 11 13 [(0, .ref a0), (1, .int (x1 + 1))] [] h29 rc rs n0 Q X))))) :
    Gm l x mX8_quiet 11 13 [(0, .ref a0), (1, .int x1)] [] h rc rs n0 Q X := by
  refine g_iload_n dX8_quiet_13 rfl 1 rfl ?_
  refine g_sipush (v := 200) dX8_quiet_14 (by decide) ?_
  refine g_icmp_gt (tgt := 37) dX8_quiet_17 (by decide) (fun c1 => ?_) (fun c1 => ?_)
  · replace K := K.1 c1
    refine g_aload_n dX8_quiet_37 rfl 0 rfl ?_
    obtain ⟨e2, b3, e4, K⟩ := K
    refine g_get (c := 8) (k := 2) (v := .ref b3) dX8_quiet_38 fc_8 (by decide) (by decide) bw_1199 (congrArg pr e4) e2 ?_
    refine g_aload_n dX8_quiet_41 rfl 0 rfl ?_
    obtain ⟨b5, e6, K⟩ := K
    refine g_get (c := 8) (k := 23) (v := .ref b5) dX8_quiet_42 fc_8 (by decide) (by decide) bw_1220 (congrArg pr e6) e2 ?_
    obtain ⟨q7, C8, K⟩ := K
    refine g_callS (M' := mX8_copyTo) (As := [.ref b3, .ref b5]) (rest := []) dX8_quiet_45 bw_1397 bw_1398 bw_9 bw_1399 ⟨by decide +kernel, by decide +kernel, show (parseMethodDescriptor mX8_copyTo.1.desc).map (fun d => d.parameters.length) = some 2 by decide +kernel⟩ (by decide) (by decide) (Nat.le_of_ble_eq_true rfl) C8 (Nat.zero_le _) (Nat.zero_le _) (fun _ _ h => h) ?_
    rintro _ h9 ⟨rfl, K1⟩ -
    replace K := K h9 K1
    show Gm l x mX8_quiet 11 48 [(0, .ref a0), (1, .int x1)] [] h9 rc rs n0 Q X
    refine g_iload_n dX8_quiet_48 rfl 1 rfl ?_
    refine g_sipush (v := 200) dX8_quiet_49 (by decide) ?_
    have KJ : Gm l x mX8_quiet 11 60 [(0, .ref a0), (1, .int x1)] [.int (if 200 < x1 then (-1) else x1 : Int32)] h9 rc rs n0 Q X := by
      exact g_iret dX8_quiet_60 rfl K
    refine g_icmp_gt (tgt := 59) dX8_quiet_52 (by decide) (fun c10 => ?_) (fun c10 => ?_)
    · refine g_iconst (v := (-1)) dX8_quiet_59 (by decide) ?_
      first | (simp only [if_pos c10] at KJ; with_reducible exact KJ) | (simp only [if_pos c10, ite_true, ite_false, eq_self] at KJ; with_reducible exact KJ) | (simp only [if_pos c10, reduceIte, eq_self] at KJ; exact KJ) | exact KJ
    · refine g_iload_n dX8_quiet_55 rfl 1 rfl ?_
      refine g_goto (tgt := 60) dX8_quiet_56 (by decide) ?_
      first | (simp only [if_neg c10] at KJ; with_reducible exact KJ) | (simp only [if_neg c10, ite_true, ite_false, eq_self] at KJ; with_reducible exact KJ) | (simp only [if_neg c10, reduceIte, eq_self] at KJ; exact KJ) | exact KJ
  · replace K := K.2 c1
    refine g_aload_n dX8_quiet_20 rfl 0 rfl ?_
    obtain ⟨e13, K⟩ := K
    obtain ⟨q11, C12, K⟩ := K
    refine g_callV (M' := mX8_isQuiet) (b := a0) (As := []) (rest := []) dX8_quiet_21 bw_1599 bw_1601 bs_94 bw_9 bw_1602 ⟨by decide +kernel, by decide +kernel, show (parseMethodDescriptor mX8_isQuiet.1.desc).map (fun d => d.parameters.length) = some 0 by decide +kernel⟩ (by decide) (by decide) (Nat.le_of_ble_eq_true rfl) fc_8 (by decide) rfl e13 C12 (Nat.zero_le _) (Nat.zero_le _) (fun _ _ h => h) ?_
    rintro _ h14 ⟨r15, rfl, K1⟩ -
    replace K := K r15 h14 K1
    show Gm l x mX8_quiet 11 24 [(0, .ref a0), (1, .int x1)] [.int r15] h14 rc rs n0 Q X
    refine g_if_ne (tgt := 37) dX8_quiet_24 (by decide) (fun c16 => ?_) (fun c16 => ?_)
    · replace K := K.1 c16
      refine g_aload_n dX8_quiet_37 rfl 0 rfl ?_
      obtain ⟨e17, b18, e19, K⟩ := K
      refine g_get (c := 8) (k := 2) (v := .ref b18) dX8_quiet_38 fc_8 (by decide) (by decide) bw_1199 (congrArg pr e19) e17 ?_
      refine g_aload_n dX8_quiet_41 rfl 0 rfl ?_
      obtain ⟨b20, e21, K⟩ := K
      refine g_get (c := 8) (k := 23) (v := .ref b20) dX8_quiet_42 fc_8 (by decide) (by decide) bw_1220 (congrArg pr e21) e17 ?_
      obtain ⟨q22, C23, K⟩ := K
      refine g_callS (M' := mX8_copyTo) (As := [.ref b18, .ref b20]) (rest := []) dX8_quiet_45 bw_1397 bw_1398 bw_9 bw_1399 ⟨by decide +kernel, by decide +kernel, show (parseMethodDescriptor mX8_copyTo.1.desc).map (fun d => d.parameters.length) = some 2 by decide +kernel⟩ (by decide) (by decide) (Nat.le_of_ble_eq_true rfl) C23 (Nat.zero_le _) (Nat.zero_le _) (fun _ _ h => h) ?_
      rintro _ h24 ⟨rfl, K1⟩ -
      replace K := K h24 K1
      show Gm l x mX8_quiet 11 48 [(0, .ref a0), (1, .int x1)] [] h24 rc rs n0 Q X
      refine g_iload_n dX8_quiet_48 rfl 1 rfl ?_
      refine g_sipush (v := 200) dX8_quiet_49 (by decide) ?_
      have KJ : Gm l x mX8_quiet 11 60 [(0, .ref a0), (1, .int x1)] [.int (if 200 < x1 then (-1) else x1 : Int32)] h24 rc rs n0 Q X := by
        exact g_iret dX8_quiet_60 rfl K
      refine g_icmp_gt (tgt := 59) dX8_quiet_52 (by decide) (fun c25 => ?_) (fun c25 => ?_)
      · refine g_iconst (v := (-1)) dX8_quiet_59 (by decide) ?_
        first | (simp only [if_pos c25] at KJ; with_reducible exact KJ) | (simp only [if_pos c25, ite_true, ite_false, eq_self] at KJ; with_reducible exact KJ) | (simp only [if_pos c25, reduceIte, eq_self] at KJ; exact KJ) | exact KJ
      · refine g_iload_n dX8_quiet_55 rfl 1 rfl ?_
        refine g_goto (tgt := 60) dX8_quiet_56 (by decide) ?_
        first | (simp only [if_neg c25] at KJ; with_reducible exact KJ) | (simp only [if_neg c25, ite_true, ite_false, eq_self] at KJ; with_reducible exact KJ) | (simp only [if_neg c25, reduceIte, eq_self] at KJ; exact KJ) | exact KJ
    · replace K := K.2 c16
      refine g_aload_n dX8_quiet_27 rfl 0 rfl ?_
      obtain ⟨e28, K⟩ := K
      obtain ⟨q26, C27, K⟩ := K
      refine g_callV (M' := mX8_tick) (b := a0) (As := []) (rest := []) dX8_quiet_28 bw_1456 bw_1458 bs_64 bw_9 bw_1459 ⟨by decide +kernel, by decide +kernel, show (parseMethodDescriptor mX8_tick.1.desc).map (fun d => d.parameters.length) = some 0 by decide +kernel⟩ (by decide) (by decide) (Nat.le_of_ble_eq_true rfl) fc_8 (by decide) rfl e28 C27 (Nat.zero_le _) (Nat.zero_le _) (fun _ _ h => h) ?_
      rintro _ h29 ⟨rfl, K1⟩ -
      replace K := K h29 K1
      show Gm l x mX8_quiet 11 31 [(0, .ref a0), (1, .int x1)] [] h29 rc rs n0 Q X
      refine g_iinc (v := (x1 + 1)) (lv' := [(0, .ref a0), (1, .int (x1 + 1))]) dX8_quiet_31 1 rfl (by rfl) (by decide) rfl ?_
      refine g_goto (tgt := 13) dX8_quiet_34 (by decide) ?_
      exact K
theorem dX8_anewWaited_0 : decode cX8_anewWaited 0 = .ok (.aload_n 0, 1) := by decide +kernel
theorem dX8_anewWaited_1 : decode cX8_anewWaited 1 = .ok (.sipush 200, 3) := by decide +kernel
theorem dX8_anewWaited_4 : decode cX8_anewWaited 4 = .ok (.invokevirtual 350, 3) := by decide +kernel
theorem dX8_anewWaited_7 : decode cX8_anewWaited 7 = .ok (.aload_n 0, 1) := by decide +kernel
theorem dX8_anewWaited_8 : decode cX8_anewWaited 8 = .ok (.invokevirtual 353, 3) := by decide +kernel
theorem dX8_anewWaited_11 : decode cX8_anewWaited 11 = .ok (.istore_n 1, 1) := by decide +kernel
theorem dX8_anewWaited_12 : decode cX8_anewWaited 12 = .ok (.aload_n 0, 1) := by decide +kernel
theorem dX8_anewWaited_13 : decode cX8_anewWaited 13 = .ok (.getfield 29, 3) := by decide +kernel
theorem dX8_anewWaited_16 : decode cX8_anewWaited 16 = .ok (.aload_n 0, 1) := by decide +kernel
theorem dX8_anewWaited_17 : decode cX8_anewWaited 17 = .ok (.getfield 64, 3) := by decide +kernel
theorem dX8_anewWaited_20 : decode cX8_anewWaited 20 = .ok (.invokestatic 204, 3) := by decide +kernel
theorem dX8_anewWaited_23 : decode cX8_anewWaited 23 = .ok (.iload_n 1, 1) := by decide +kernel
theorem dX8_anewWaited_24 : decode cX8_anewWaited 24 = .ok (.ireturn, 1) := by decide +kernel
set_option maxRecDepth 20000 in
set_option maxHeartbeats 4000000 in
theorem vX8_anewWaited_0 {l : Launch} {x : CX} {a0 : Nat} {h : PH} {rc rs n0 : Nat} {Q : Option Value → PH → Prop} {X : String → PH → Prop}
    (K : ((hK h a0).1 = 8) ∧ ∃ (q1 : PH → Prop), CV l x mX8_ticksNow 11 0 0 [.ref a0, .int 200] h q1 ∧ ∀ (h4 : PH), q1 h4 → ((hK h4 a0).1 = 8) ∧ ∃ (q5 : Int32 → PH → Prop), CI l x mX8_waited 1 0 0 [.ref a0] h4 q5 ∧ ∀ (r9 : Int32) (h8 : PH), q5 r9 h8 → ((hK h8 a0).1 = 8) ∧ ∃ b11, (hR h8 a0 2 = some b11) ∧ ∃ b13, (hR h8 a0 23 = some b13) ∧ ∃ (q15 : PH → Prop), CV l x mX8_copyTo 0 0 0 [.ref b11, .ref b13] h8 q15 ∧ ∀ (h17 : PH), q15 h17 → Q (some (.int r9)) h17) :
    Gm l x mX8_anewWaited 12 0 [(0, .ref a0)] [] h rc rs n0 Q X := by
  refine g_aload_n dX8_anewWaited_0 rfl 0 rfl ?_
  refine g_sipush (v := 200) dX8_anewWaited_1 (by decide) ?_
  obtain ⟨e3, K⟩ := K
  obtain ⟨q1, C2, K⟩ := K
  refine g_callV (M' := mX8_ticksNow) (b := a0) (As := [.int 200]) (rest := []) dX8_anewWaited_4 bw_1452 bw_1454 bs_63 bw_9 bw_1455 ⟨by decide +kernel, by decide +kernel, show (parseMethodDescriptor mX8_ticksNow.1.desc).map (fun d => d.parameters.length) = some 1 by decide +kernel⟩ (by decide) (by decide) (Nat.le_of_ble_eq_true rfl) fc_8 (by decide) rfl e3 C2 (Nat.zero_le _) (Nat.zero_le _) (fun _ _ h => h) ?_
  rintro _ h4 ⟨rfl, K1⟩ -
  replace K := K h4 K1
  show Gm l x mX8_anewWaited 12 7 [(0, .ref a0)] [] h4 rc rs n0 Q X
  refine g_aload_n dX8_anewWaited_7 rfl 0 rfl ?_
  obtain ⟨e7, K⟩ := K
  obtain ⟨q5, C6, K⟩ := K
  refine g_callV (M' := mX8_waited) (b := a0) (As := []) (rest := []) dX8_anewWaited_8 bw_1428 bw_1430 bs_57 bw_9 bw_1431 ⟨by decide +kernel, by decide +kernel, show (parseMethodDescriptor mX8_waited.1.desc).map (fun d => d.parameters.length) = some 0 by decide +kernel⟩ (by decide) (by decide) (Nat.le_of_ble_eq_true rfl) fc_8 (by decide) rfl e7 C6 (Nat.zero_le _) (Nat.zero_le _) (fun _ _ h => h) ?_
  rintro _ h8 ⟨r9, rfl, K1⟩ -
  replace K := K r9 h8 K1
  show Gm l x mX8_anewWaited 12 11 [(0, .ref a0)] [.int r9] h8 rc rs n0 Q X
  refine g_istore_n (lv' := [(0, .ref a0), (1, .int r9)]) dX8_anewWaited_11 rfl (by decide) rfl ?_
  refine g_aload_n dX8_anewWaited_12 rfl 0 rfl ?_
  obtain ⟨e10, b11, e12, K⟩ := K
  refine g_get (c := 8) (k := 2) (v := .ref b11) dX8_anewWaited_13 fc_8 (by decide) (by decide) bw_1199 (congrArg pr e12) e10 ?_
  refine g_aload_n dX8_anewWaited_16 rfl 0 rfl ?_
  obtain ⟨b13, e14, K⟩ := K
  refine g_get (c := 8) (k := 23) (v := .ref b13) dX8_anewWaited_17 fc_8 (by decide) (by decide) bw_1220 (congrArg pr e14) e10 ?_
  obtain ⟨q15, C16, K⟩ := K
  refine g_callS (M' := mX8_copyTo) (As := [.ref b11, .ref b13]) (rest := []) dX8_anewWaited_20 bw_1397 bw_1398 bw_9 bw_1399 ⟨by decide +kernel, by decide +kernel, show (parseMethodDescriptor mX8_copyTo.1.desc).map (fun d => d.parameters.length) = some 2 by decide +kernel⟩ (by decide) (by decide) (Nat.le_of_ble_eq_true rfl) C16 (Nat.zero_le _) (Nat.zero_le _) (fun _ _ h => h) ?_
  rintro _ h17 ⟨rfl, K1⟩ -
  replace K := K h17 K1
  show Gm l x mX8_anewWaited 12 23 [(0, .ref a0), (1, .int r9)] [] h17 rc rs n0 Q X
  refine g_iload_n dX8_anewWaited_23 rfl 1 rfl ?_
  exact g_iret dX8_anewWaited_24 rfl K
theorem dX8_thrift_0 : decode cX8_thrift 0 = .ok (.iconst 0, 1) := by decide +kernel
theorem dX8_thrift_1 : decode cX8_thrift 1 = .ok (.istore_n 1, 1) := by decide +kernel
theorem dX8_thrift_2 : decode cX8_thrift 2 = .ok (.fconst 0, 1) := by decide +kernel
theorem dX8_thrift_3 : decode cX8_thrift 3 = .ok (.fstore_n 2, 1) := by decide +kernel
theorem dX8_thrift_4 : decode cX8_thrift 4 = .ok (.iconst 0, 1) := by decide +kernel
theorem dX8_thrift_5 : decode cX8_thrift 5 = .ok (.istore_n 3, 1) := by decide +kernel
theorem dX8_thrift_6 : decode cX8_thrift 6 = .ok (.iload_n 3, 1) := by decide +kernel
theorem dX8_thrift_7 : decode cX8_thrift 7 = .ok (.iconst 3, 1) := by decide +kernel
theorem dX8_thrift_8 : decode cX8_thrift 8 = .ok (.if_icmp .ge 63, 3) := by decide +kernel
theorem dX8_thrift_11 : decode cX8_thrift 11 = .ok (.aload_n 0, 1) := by decide +kernel
theorem dX8_thrift_12 : decode cX8_thrift 12 = .ok (.iload_n 3, 1) := by decide +kernel
theorem dX8_thrift_13 : decode cX8_thrift 13 = .ok (.aload_n 0, 1) := by decide +kernel
theorem dX8_thrift_14 : decode cX8_thrift 14 = .ok (.getfield 29, 3) := by decide +kernel
theorem dX8_thrift_17 : decode cX8_thrift 17 = .ok (.iconst 3, 1) := by decide +kernel
theorem dX8_thrift_18 : decode cX8_thrift 18 = .ok (.iaload, 1) := by decide +kernel
theorem dX8_thrift_19 : decode cX8_thrift 19 = .ok (.invokevirtual 356, 3) := by decide +kernel
theorem dX8_thrift_22 : decode cX8_thrift 22 = .ok (.aload_n 0, 1) := by decide +kernel
theorem dX8_thrift_23 : decode cX8_thrift 23 = .ok (.sipush 200, 3) := by decide +kernel
theorem dX8_thrift_26 : decode cX8_thrift 26 = .ok (.invokevirtual 350, 3) := by decide +kernel
theorem dX8_thrift_29 : decode cX8_thrift 29 = .ok (.aload_n 0, 1) := by decide +kernel
theorem dX8_thrift_30 : decode cX8_thrift 30 = .ok (.invokevirtual 362, 3) := by decide +kernel
theorem dX8_thrift_33 : decode cX8_thrift 33 = .ok (.fstore 4, 2) := by decide +kernel
theorem dX8_thrift_35 : decode cX8_thrift 35 = .ok (.aload_n 0, 1) := by decide +kernel
theorem dX8_thrift_36 : decode cX8_thrift 36 = .ok (.getfield 29, 3) := by decide +kernel
theorem dX8_thrift_39 : decode cX8_thrift 39 = .ok (.aload_n 0, 1) := by decide +kernel
theorem dX8_thrift_40 : decode cX8_thrift 40 = .ok (.getfield 64, 3) := by decide +kernel
theorem dX8_thrift_43 : decode cX8_thrift 43 = .ok (.invokestatic 204, 3) := by decide +kernel
theorem dX8_thrift_46 : decode cX8_thrift 46 = .ok (.iload_n 3, 1) := by decide +kernel
theorem dX8_thrift_47 : decode cX8_thrift 47 = .ok (.ifCond .le 13, 3) := by decide +kernel
theorem dX8_thrift_50 : decode cX8_thrift 50 = .ok (.fload 4, 2) := by decide +kernel
theorem dX8_thrift_52 : decode cX8_thrift 52 = .ok (.fload_n 2, 1) := by decide +kernel
theorem dX8_thrift_53 : decode cX8_thrift 53 = .ok (.fcmp .l, 1) := by decide +kernel
theorem dX8_thrift_54 : decode cX8_thrift 54 = .ok (.ifCond .lt 6, 3) := by decide +kernel
theorem dX8_thrift_57 : decode cX8_thrift 57 = .ok (.goto 8, 3) := by decide +kernel
theorem dX8_thrift_60 : decode cX8_thrift 60 = .ok (.iload_n 3, 1) := by decide +kernel
theorem dX8_thrift_61 : decode cX8_thrift 61 = .ok (.istore_n 1, 1) := by decide +kernel
theorem dX8_thrift_62 : decode cX8_thrift 62 = .ok (.fload 4, 2) := by decide +kernel
theorem dX8_thrift_64 : decode cX8_thrift 64 = .ok (.fstore_n 2, 1) := by decide +kernel
theorem dX8_thrift_65 : decode cX8_thrift 65 = .ok (.iinc 3 1, 3) := by decide +kernel
theorem dX8_thrift_68 : decode cX8_thrift 68 = .ok (.goto (-62), 3) := by decide +kernel
theorem dX8_thrift_71 : decode cX8_thrift 71 = .ok (.iload_n 1, 1) := by decide +kernel
theorem dX8_thrift_72 : decode cX8_thrift 72 = .ok (.ireturn, 1) := by decide +kernel
theorem dX8_room_0 : decode cX8_room 0 = .ok (.iconst 1, 1) := by decide +kernel
theorem dX8_room_1 : decode cX8_room 1 = .ok (.istore_n 1, 1) := by decide +kernel
theorem dX8_room_2 : decode cX8_room 2 = .ok (.iload_n 1, 1) := by decide +kernel
theorem dX8_room_3 : decode cX8_room 3 = .ok (.bipush 6, 2) := by decide +kernel
theorem dX8_room_5 : decode cX8_room 5 = .ok (.if_icmp .gt 82, 3) := by decide +kernel
theorem dX8_room_8 : decode cX8_room 8 = .ok (.aload_n 0, 1) := by decide +kernel
theorem dX8_room_9 : decode cX8_room 9 = .ok (.aload_n 0, 1) := by decide +kernel
theorem dX8_room_10 : decode cX8_room 10 = .ok (.getfield 29, 3) := by decide +kernel
theorem dX8_room_13 : decode cX8_room 13 = .ok (.iconst 2, 1) := by decide +kernel
theorem dX8_room_14 : decode cX8_room 14 = .ok (.iaload, 1) := by decide +kernel
theorem dX8_room_15 : decode cX8_room 15 = .ok (.aload_n 0, 1) := by decide +kernel
theorem dX8_room_16 : decode cX8_room 16 = .ok (.getfield 29, 3) := by decide +kernel
theorem dX8_room_19 : decode cX8_room 19 = .ok (.iconst 3, 1) := by decide +kernel
theorem dX8_room_20 : decode cX8_room 20 = .ok (.iaload, 1) := by decide +kernel
theorem dX8_room_21 : decode cX8_room 21 = .ok (.invokevirtual 356, 3) := by decide +kernel
theorem dX8_room_24 : decode cX8_room 24 = .ok (.iconst 0, 1) := by decide +kernel
theorem dX8_room_25 : decode cX8_room 25 = .ok (.istore_n 2, 1) := by decide +kernel
theorem dX8_room_26 : decode cX8_room 26 = .ok (.iload_n 2, 1) := by decide +kernel
theorem dX8_room_27 : decode cX8_room 27 = .ok (.aload_n 0, 1) := by decide +kernel
theorem dX8_room_28 : decode cX8_room 28 = .ok (.getfield 36, 3) := by decide +kernel
theorem dX8_room_31 : decode cX8_room 31 = .ok (.iconst 1, 1) := by decide +kernel
theorem dX8_room_32 : decode cX8_room 32 = .ok (.iaload, 1) := by decide +kernel
theorem dX8_room_33 : decode cX8_room 33 = .ok (.if_icmp .ge 17, 3) := by decide +kernel
theorem dX8_room_36 : decode cX8_room 36 = .ok (.aload_n 0, 1) := by decide +kernel
theorem dX8_room_37 : decode cX8_room 37 = .ok (.iload_n 2, 1) := by decide +kernel
theorem dX8_room_38 : decode cX8_room 38 = .ok (.bipush 7, 2) := by decide +kernel
theorem dX8_room_40 : decode cX8_room 40 = .ok (.iload_n 1, 1) := by decide +kernel
theorem dX8_room_41 : decode cX8_room 41 = .ok (.invokevirtual 221, 3) := by decide +kernel
theorem dX8_room_44 : decode cX8_room 44 = .ok (.iinc 2 1, 3) := by decide +kernel
theorem dX8_room_47 : decode cX8_room 47 = .ok (.goto (-21), 3) := by decide +kernel
theorem dX8_room_50 : decode cX8_room 50 = .ok (.aload_n 0, 1) := by decide +kernel
theorem dX8_room_51 : decode cX8_room 51 = .ok (.sipush 200, 3) := by decide +kernel
theorem dX8_room_54 : decode cX8_room 54 = .ok (.invokevirtual 350, 3) := by decide +kernel
theorem dX8_room_57 : decode cX8_room 57 = .ok (.aload_n 0, 1) := by decide +kernel
theorem dX8_room_58 : decode cX8_room 58 = .ok (.getfield 29, 3) := by decide +kernel
theorem dX8_room_61 : decode cX8_room 61 = .ok (.iconst 5, 1) := by decide +kernel
theorem dX8_room_62 : decode cX8_room 62 = .ok (.iaload, 1) := by decide +kernel
theorem dX8_room_63 : decode cX8_room 63 = .ok (.istore_n 2, 1) := by decide +kernel
theorem dX8_room_64 : decode cX8_room 64 = .ok (.aload_n 0, 1) := by decide +kernel
theorem dX8_room_65 : decode cX8_room 65 = .ok (.getfield 29, 3) := by decide +kernel
theorem dX8_room_68 : decode cX8_room 68 = .ok (.aload_n 0, 1) := by decide +kernel
theorem dX8_room_69 : decode cX8_room 69 = .ok (.getfield 64, 3) := by decide +kernel
theorem dX8_room_72 : decode cX8_room 72 = .ok (.invokestatic 204, 3) := by decide +kernel
theorem dX8_room_75 : decode cX8_room 75 = .ok (.iload_n 2, 1) := by decide +kernel
theorem dX8_room_76 : decode cX8_room 76 = .ok (.ifCond .ne 5, 3) := by decide +kernel
theorem dX8_room_79 : decode cX8_room 79 = .ok (.iload_n 1, 1) := by decide +kernel
theorem dX8_room_80 : decode cX8_room 80 = .ok (.ireturn, 1) := by decide +kernel
theorem dX8_room_81 : decode cX8_room 81 = .ok (.iinc 1 1, 3) := by decide +kernel
theorem dX8_room_84 : decode cX8_room 84 = .ok (.goto (-82), 3) := by decide +kernel
theorem dX8_room_87 : decode cX8_room 87 = .ok (.iconst (-1), 1) := by decide +kernel
theorem dX8_room_88 : decode cX8_room 88 = .ok (.ireturn, 1) := by decide +kernel
theorem dX8_ticks_0 : decode cX8_ticks 0 = .ok (.aload_n 0, 1) := by decide +kernel
theorem dX8_ticks_1 : decode cX8_ticks 1 = .ok (.iconst 0, 1) := by decide +kernel
theorem dX8_ticks_2 : decode cX8_ticks 2 = .ok (.putfield 104, 3) := by decide +kernel
theorem dX8_ticks_5 : decode cX8_ticks 5 = .ok (.iload_n 1, 1) := by decide +kernel
theorem dX8_ticks_6 : decode cX8_ticks 6 = .ok (.iconst 1, 1) := by decide +kernel
theorem dX8_ticks_7 : decode cX8_ticks 7 = .ok (.bipush 60, 2) := by decide +kernel
theorem dX8_ticks_9 : decode cX8_ticks 9 = .ok (.invokestatic 390, 3) := by decide +kernel
theorem dX8_ticks_12 : decode cX8_ticks 12 = .ok (.ifCond .eq 17, 3) := by decide +kernel
theorem dX8_ticks_15 : decode cX8_ticks 15 = .ok (.aload_n 0, 1) := by decide +kernel
theorem dX8_ticks_16 : decode cX8_ticks 16 = .ok (.getfield 29, 3) := by decide +kernel
theorem dX8_ticks_19 : decode cX8_ticks 19 = .ok (.iconst 0, 1) := by decide +kernel
theorem dX8_ticks_20 : decode cX8_ticks 20 = .ok (.iaload, 1) := by decide +kernel
theorem dX8_ticks_21 : decode cX8_ticks 21 = .ok (.iload_n 1, 1) := by decide +kernel
theorem dX8_ticks_22 : decode cX8_ticks 22 = .ok (.iadd, 1) := by decide +kernel
theorem dX8_ticks_23 : decode cX8_ticks 23 = .ok (.sipush 999, 3) := by decide +kernel
theorem dX8_ticks_26 : decode cX8_ticks 26 = .ok (.if_icmp .le 9, 3) := by decide +kernel
theorem dX8_ticks_29 : decode cX8_ticks 29 = .ok (.aload_n 0, 1) := by decide +kernel
theorem dX8_ticks_30 : decode cX8_ticks 30 = .ok (.iconst 1, 1) := by decide +kernel
theorem dX8_ticks_31 : decode cX8_ticks 31 = .ok (.invokevirtual 402, 3) := by decide +kernel
theorem dX8_ticks_34 : decode cX8_ticks 34 = .ok (.ireturn, 1) := by decide +kernel
theorem dX8_ticks_35 : decode cX8_ticks 35 = .ok (.aload_n 0, 1) := by decide +kernel
theorem dX8_ticks_36 : decode cX8_ticks 36 = .ok (.invokevirtual 405, 3) := by decide +kernel
theorem dX8_ticks_39 : decode cX8_ticks 39 = .ok (.aload_n 0, 1) := by decide +kernel
theorem dX8_ticks_40 : decode cX8_ticks 40 = .ok (.iload_n 1, 1) := by decide +kernel
theorem dX8_ticks_41 : decode cX8_ticks 41 = .ok (.invokevirtual 350, 3) := by decide +kernel
theorem dX8_ticks_44 : decode cX8_ticks 44 = .ok (.aload_n 0, 1) := by decide +kernel
theorem dX8_ticks_45 : decode cX8_ticks 45 = .ok (.getfield 29, 3) := by decide +kernel
theorem dX8_ticks_48 : decode cX8_ticks 48 = .ok (.iconst 0, 1) := by decide +kernel
theorem dX8_ticks_49 : decode cX8_ticks 49 = .ok (.iaload, 1) := by decide +kernel
theorem dX8_ticks_50 : decode cX8_ticks 50 = .ok (.ireturn, 1) := by decide +kernel
theorem dX8_ahead_0 : decode cX8_ahead 0 = .ok (.aload_n 0, 1) := by decide +kernel
theorem dX8_ahead_1 : decode cX8_ahead 1 = .ok (.iconst 0, 1) := by decide +kernel
theorem dX8_ahead_2 : decode cX8_ahead 2 = .ok (.putfield 104, 3) := by decide +kernel
theorem dX8_ahead_5 : decode cX8_ahead 5 = .ok (.iload_n 2, 1) := by decide +kernel
theorem dX8_ahead_6 : decode cX8_ahead 6 = .ok (.iconst 0, 1) := by decide +kernel
theorem dX8_ahead_7 : decode cX8_ahead 7 = .ok (.iconst 3, 1) := by decide +kernel
theorem dX8_ahead_8 : decode cX8_ahead 8 = .ok (.invokestatic 390, 3) := by decide +kernel
theorem dX8_ahead_11 : decode cX8_ahead 11 = .ok (.ifCond .ne 9, 3) := by decide +kernel
theorem dX8_ahead_14 : decode cX8_ahead 14 = .ok (.aload_n 0, 1) := by decide +kernel
theorem dX8_ahead_15 : decode cX8_ahead 15 = .ok (.iconst 1, 1) := by decide +kernel
theorem dX8_ahead_16 : decode cX8_ahead 16 = .ok (.invokevirtual 198, 3) := by decide +kernel
theorem dX8_ahead_19 : decode cX8_ahead 19 = .ok (.ireturn, 1) := by decide +kernel
theorem dX8_ahead_20 : decode cX8_ahead 20 = .ok (.iload_n 1, 1) := by decide +kernel
theorem dX8_ahead_21 : decode cX8_ahead 21 = .ok (.iconst 0, 1) := by decide +kernel
theorem dX8_ahead_22 : decode cX8_ahead 22 = .ok (.bipush 120, 2) := by decide +kernel
theorem dX8_ahead_24 : decode cX8_ahead 24 = .ok (.invokestatic 390, 3) := by decide +kernel
theorem dX8_ahead_27 : decode cX8_ahead 27 = .ok (.ifCond .ne 9, 3) := by decide +kernel
theorem dX8_ahead_30 : decode cX8_ahead 30 = .ok (.aload_n 0, 1) := by decide +kernel
theorem dX8_ahead_31 : decode cX8_ahead 31 = .ok (.iconst 2, 1) := by decide +kernel
theorem dX8_ahead_32 : decode cX8_ahead 32 = .ok (.invokevirtual 198, 3) := by decide +kernel
theorem dX8_ahead_35 : decode cX8_ahead 35 = .ok (.ireturn, 1) := by decide +kernel
theorem dX8_ahead_36 : decode cX8_ahead 36 = .ok (.aload_n 0, 1) := by decide +kernel
theorem dX8_ahead_37 : decode cX8_ahead 37 = .ok (.getfield 64, 3) := by decide +kernel
theorem dX8_ahead_40 : decode cX8_ahead 40 = .ok (.aload_n 0, 1) := by decide +kernel
theorem dX8_ahead_41 : decode cX8_ahead 41 = .ok (.getfield 29, 3) := by decide +kernel
theorem dX8_ahead_44 : decode cX8_ahead 44 = .ok (.invokestatic 204, 3) := by decide +kernel
theorem dX8_ahead_47 : decode cX8_ahead 47 = .ok (.aload_n 0, 1) := by decide +kernel
theorem dX8_ahead_48 : decode cX8_ahead 48 = .ok (.iload_n 1, 1) := by decide +kernel
theorem dX8_ahead_49 : decode cX8_ahead 49 = .ok (.invokevirtual 350, 3) := by decide +kernel
theorem dX8_ahead_52 : decode cX8_ahead 52 = .ok (.iconst 0, 1) := by decide +kernel
theorem dX8_ahead_53 : decode cX8_ahead 53 = .ok (.istore_n 3, 1) := by decide +kernel
theorem dX8_ahead_54 : decode cX8_ahead 54 = .ok (.iconst 0, 1) := by decide +kernel
theorem dX8_ahead_55 : decode cX8_ahead 55 = .ok (.istore 4, 2) := by decide +kernel
theorem dX8_ahead_57 : decode cX8_ahead 57 = .ok (.iload 4, 2) := by decide +kernel
theorem dX8_ahead_59 : decode cX8_ahead 59 = .ok (.aload_n 0, 1) := by decide +kernel
theorem dX8_ahead_60 : decode cX8_ahead 60 = .ok (.getfield 36, 3) := by decide +kernel
theorem dX8_ahead_63 : decode cX8_ahead 63 = .ok (.iconst 1, 1) := by decide +kernel
theorem dX8_ahead_64 : decode cX8_ahead 64 = .ok (.iaload, 1) := by decide +kernel
theorem dX8_ahead_65 : decode cX8_ahead 65 = .ok (.if_icmp .ge 27, 3) := by decide +kernel
theorem dX8_ahead_68 : decode cX8_ahead 68 = .ok (.iload_n 3, 1) := by decide +kernel
theorem dX8_ahead_69 : decode cX8_ahead 69 = .ok (.aload_n 0, 1) := by decide +kernel
theorem dX8_ahead_70 : decode cX8_ahead 70 = .ok (.iload 4, 2) := by decide +kernel
theorem dX8_ahead_72 : decode cX8_ahead 72 = .ok (.iconst 2, 1) := by decide +kernel
theorem dX8_ahead_73 : decode cX8_ahead 73 = .ok (.invokevirtual 238, 3) := by decide +kernel
theorem dX8_ahead_76 : decode cX8_ahead 76 = .ok (.ifCond .le 7, 3) := by decide +kernel
theorem dX8_ahead_79 : decode cX8_ahead 79 = .ok (.iconst 1, 1) := by decide +kernel
theorem dX8_ahead_80 : decode cX8_ahead 80 = .ok (.goto 4, 3) := by decide +kernel
theorem dX8_ahead_83 : decode cX8_ahead 83 = .ok (.iconst 0, 1) := by decide +kernel
theorem dX8_ahead_84 : decode cX8_ahead 84 = .ok (.iadd, 1) := by decide +kernel
theorem dX8_ahead_85 : decode cX8_ahead 85 = .ok (.istore_n 3, 1) := by decide +kernel
theorem dX8_ahead_86 : decode cX8_ahead 86 = .ok (.iinc 4 1, 3) := by decide +kernel
theorem dX8_ahead_89 : decode cX8_ahead 89 = .ok (.goto (-32), 3) := by decide +kernel
theorem dX8_ahead_92 : decode cX8_ahead 92 = .ok (.iload_n 2, 1) := by decide +kernel
theorem dX8_ahead_93 : decode cX8_ahead 93 = .ok (.ifCond .ne 11, 3) := by decide +kernel
theorem dX8_ahead_96 : decode cX8_ahead 96 = .ok (.aload_n 0, 1) := by decide +kernel
theorem dX8_ahead_97 : decode cX8_ahead 97 = .ok (.iconst 3, 1) := by decide +kernel
theorem dX8_ahead_98 : decode cX8_ahead 98 = .ok (.invokevirtual 344, 3) := by decide +kernel
theorem dX8_ahead_101 : decode cX8_ahead 101 = .ok (.goto 30, 3) := by decide +kernel
theorem dX8_ahead_104 : decode cX8_ahead 104 = .ok (.iload_n 2, 1) := by decide +kernel
theorem dX8_ahead_105 : decode cX8_ahead 105 = .ok (.iconst 1, 1) := by decide +kernel
theorem dX8_ahead_106 : decode cX8_ahead 106 = .ok (.if_icmp .ne 12, 3) := by decide +kernel
theorem dX8_ahead_109 : decode cX8_ahead 109 = .ok (.aload_n 0, 1) := by decide +kernel
theorem dX8_ahead_110 : decode cX8_ahead 110 = .ok (.getfield 29, 3) := by decide +kernel
theorem dX8_ahead_113 : decode cX8_ahead 113 = .ok (.iconst 5, 1) := by decide +kernel
theorem dX8_ahead_114 : decode cX8_ahead 114 = .ok (.iaload, 1) := by decide +kernel
theorem dX8_ahead_115 : decode cX8_ahead 115 = .ok (.goto 16, 3) := by decide +kernel
theorem dX8_ahead_118 : decode cX8_ahead 118 = .ok (.iload_n 2, 1) := by decide +kernel
theorem dX8_ahead_119 : decode cX8_ahead 119 = .ok (.iconst 2, 1) := by decide +kernel
theorem dX8_ahead_120 : decode cX8_ahead 120 = .ok (.if_icmp .ne 10, 3) := by decide +kernel
theorem dX8_ahead_123 : decode cX8_ahead 123 = .ok (.aload_n 0, 1) := by decide +kernel
theorem dX8_ahead_124 : decode cX8_ahead 124 = .ok (.invokevirtual 353, 3) := by decide +kernel
theorem dX8_ahead_127 : decode cX8_ahead 127 = .ok (.goto 4, 3) := by decide +kernel
theorem dX8_ahead_130 : decode cX8_ahead 130 = .ok (.iload_n 3, 1) := by decide +kernel
theorem dX8_ahead_131 : decode cX8_ahead 131 = .ok (.istore 4, 2) := by decide +kernel
theorem dX8_ahead_133 : decode cX8_ahead 133 = .ok (.aload_n 0, 1) := by decide +kernel
theorem dX8_ahead_134 : decode cX8_ahead 134 = .ok (.getfield 29, 3) := by decide +kernel
theorem dX8_ahead_137 : decode cX8_ahead 137 = .ok (.aload_n 0, 1) := by decide +kernel
theorem dX8_ahead_138 : decode cX8_ahead 138 = .ok (.getfield 64, 3) := by decide +kernel
theorem dX8_ahead_141 : decode cX8_ahead 141 = .ok (.invokestatic 204, 3) := by decide +kernel
theorem dX8_ahead_144 : decode cX8_ahead 144 = .ok (.iload 4, 2) := by decide +kernel
theorem dX8_ahead_146 : decode cX8_ahead 146 = .ok (.ireturn, 1) := by decide +kernel
theorem dX8_when_0 : decode cX8_when 0 = .ok (.aload_n 0, 1) := by decide +kernel
theorem dX8_when_1 : decode cX8_when 1 = .ok (.iconst 0, 1) := by decide +kernel
theorem dX8_when_2 : decode cX8_when 2 = .ok (.putfield 104, 3) := by decide +kernel
theorem dX8_when_5 : decode cX8_when 5 = .ok (.aload_n 0, 1) := by decide +kernel
theorem dX8_when_6 : decode cX8_when 6 = .ok (.iload_n 1, 1) := by decide +kernel
theorem dX8_when_7 : decode cX8_when 7 = .ok (.invokevirtual 396, 3) := by decide +kernel
theorem dX8_when_10 : decode cX8_when 10 = .ok (.ifCond .ne 9, 3) := by decide +kernel
theorem dX8_when_13 : decode cX8_when 13 = .ok (.aload_n 0, 1) := by decide +kernel
theorem dX8_when_14 : decode cX8_when 14 = .ok (.iconst 1, 1) := by decide +kernel
theorem dX8_when_15 : decode cX8_when 15 = .ok (.invokevirtual 198, 3) := by decide +kernel
theorem dX8_when_18 : decode cX8_when 18 = .ok (.ireturn, 1) := by decide +kernel
theorem dX8_when_19 : decode cX8_when 19 = .ok (.aload_n 0, 1) := by decide +kernel
theorem dX8_when_20 : decode cX8_when 20 = .ok (.getfield 64, 3) := by decide +kernel
theorem dX8_when_23 : decode cX8_when 23 = .ok (.aload_n 0, 1) := by decide +kernel
theorem dX8_when_24 : decode cX8_when 24 = .ok (.getfield 29, 3) := by decide +kernel
theorem dX8_when_27 : decode cX8_when 27 = .ok (.invokestatic 204, 3) := by decide +kernel
theorem dX8_when_30 : decode cX8_when 30 = .ok (.aload_n 0, 1) := by decide +kernel
theorem dX8_when_31 : decode cX8_when 31 = .ok (.sipush 200, 3) := by decide +kernel
theorem dX8_when_34 : decode cX8_when 34 = .ok (.invokevirtual 350, 3) := by decide +kernel
theorem dX8_when_37 : decode cX8_when 37 = .ok (.aload_n 0, 1) := by decide +kernel
theorem dX8_when_38 : decode cX8_when 38 = .ok (.iload_n 1, 1) := by decide +kernel
theorem dX8_when_39 : decode cX8_when 39 = .ok (.bipush 7, 2) := by decide +kernel
theorem dX8_when_41 : decode cX8_when 41 = .ok (.invokevirtual 228, 3) := by decide +kernel
theorem dX8_when_44 : decode cX8_when 44 = .ok (.istore_n 2, 1) := by decide +kernel
theorem dX8_when_45 : decode cX8_when 45 = .ok (.aload_n 0, 1) := by decide +kernel
theorem dX8_when_46 : decode cX8_when 46 = .ok (.getfield 29, 3) := by decide +kernel
theorem dX8_when_49 : decode cX8_when 49 = .ok (.aload_n 0, 1) := by decide +kernel
theorem dX8_when_50 : decode cX8_when 50 = .ok (.getfield 64, 3) := by decide +kernel
theorem dX8_when_53 : decode cX8_when 53 = .ok (.invokestatic 204, 3) := by decide +kernel
theorem dX8_when_56 : decode cX8_when 56 = .ok (.iload_n 2, 1) := by decide +kernel
theorem dX8_when_57 : decode cX8_when 57 = .ok (.ireturn, 1) := by decide +kernel
set_option maxRecDepth 20000 in
set_option maxHeartbeats 4000000 in
theorem vX8_when_0 {l : Launch} {x : CX} {a0 : Nat} {x1 : Int32} {h : PH} {rc rs n0 : Nat} {Q : Option Value → PH → Prop} {X : String → PH → Prop}
    (K : ((hK h a0).1 = 8) ∧ ∃ (q2 : Int32 → PH → Prop), CI l x mX8_isRider 1 0 0 [.ref a0, .int x1] (sI h a0 1 0) q2 ∧ ∀ (r5 : Int32) (h4 : PH), q2 r5 h4 → ((¬ r5 = 0 → ((hK h4 a0).1 = 8) ∧ ∃ b8, (hR h4 a0 23 = some b8) ∧ ∃ b10, (hR h4 a0 2 = some b10) ∧ ∃ (q12 : PH → Prop), CV l x mX8_copyTo 0 0 0 [.ref b8, .ref b10] h4 q12 ∧ ∀ (h14 : PH), q12 h14 → ((hK h14 a0).1 = 8) ∧ ∃ (q15 : PH → Prop), CV l x mX8_ticksNow 11 0 0 [.ref a0, .int 200] h14 q15 ∧ ∀ (h18 : PH), q15 h18 → ((hK h18 a0).1 = 8) ∧ ∃ (q19 : Int32 → PH → Prop), CI l x mX8_of 0 0 0 [.ref a0, .int x1, .int 7] h18 q19 ∧ ∀ (r23 : Int32) (h22 : PH), q19 r23 h22 → ((hK h22 a0).1 = 8) ∧ ∃ b25, (hR h22 a0 2 = some b25) ∧ ∃ b27, (hR h22 a0 23 = some b27) ∧ ∃ (q29 : PH → Prop), CV l x mX8_copyTo 0 0 0 [.ref b25, .ref b27] h22 q29 ∧ ∀ (h31 : PH), q29 h31 → Q (some (.int r23)) h31) ∧ (r5 = 0 → ((hK h4 a0).1 = 8) ∧ ∃ (q32 : Int32 → PH → Prop), CI l x mX8_fail 0 0 0 [.ref a0, .int 1] h4 q32 ∧ ∀ (r36 : Int32) (h35 : PH), q32 r36 h35 → Q (some (.int r36)) h35))) :
    Gm l x mX8_when 12 0 [(0, .ref a0), (1, .int x1)] [] h rc rs n0 Q X := by
  refine g_aload_n dX8_when_0 rfl 0 rfl ?_
  refine g_iconst (v := 0) dX8_when_1 (by decide) ?_
  obtain ⟨e1, K⟩ := K
  refine g_puti (c := 8) (k := 1) dX8_when_2 fc_8 (by decide) (by decide) bw_1198 (Or.inl rfl) rfl e1 ?_
  refine g_aload_n dX8_when_5 rfl 0 rfl ?_
  refine g_iload_n dX8_when_6 rfl 1 rfl ?_
  obtain ⟨q2, C3, K⟩ := K
  refine g_callV (M' := mX8_isRider) (b := a0) (As := [.int x1]) (rest := []) dX8_when_7 bw_1618 bw_1620 bs_96 bw_9 bw_1621 ⟨by decide +kernel, by decide +kernel, show (parseMethodDescriptor mX8_isRider.1.desc).map (fun d => d.parameters.length) = some 1 by decide +kernel⟩ (by decide) (by decide) (Nat.le_of_ble_eq_true rfl) fc_8 (by decide) rfl (kkI e1) C3 (Nat.zero_le _) (Nat.zero_le _) (fun _ _ h => h) ?_
  rintro _ h4 ⟨r5, rfl, K1⟩ -
  replace K := K r5 h4 K1
  show Gm l x mX8_when 12 10 [(0, .ref a0), (1, .int x1)] [.int r5] h4 rc rs n0 Q X
  refine g_if_ne (tgt := 19) dX8_when_10 (by decide) (fun c6 => ?_) (fun c6 => ?_)
  · replace K := K.1 c6
    refine g_aload_n dX8_when_19 rfl 0 rfl ?_
    obtain ⟨e7, b8, e9, K⟩ := K
    refine g_get (c := 8) (k := 23) (v := .ref b8) dX8_when_20 fc_8 (by decide) (by decide) bw_1220 (congrArg pr e9) e7 ?_
    refine g_aload_n dX8_when_23 rfl 0 rfl ?_
    obtain ⟨b10, e11, K⟩ := K
    refine g_get (c := 8) (k := 2) (v := .ref b10) dX8_when_24 fc_8 (by decide) (by decide) bw_1199 (congrArg pr e11) e7 ?_
    obtain ⟨q12, C13, K⟩ := K
    refine g_callS (M' := mX8_copyTo) (As := [.ref b8, .ref b10]) (rest := []) dX8_when_27 bw_1397 bw_1398 bw_9 bw_1399 ⟨by decide +kernel, by decide +kernel, show (parseMethodDescriptor mX8_copyTo.1.desc).map (fun d => d.parameters.length) = some 2 by decide +kernel⟩ (by decide) (by decide) (Nat.le_of_ble_eq_true rfl) C13 (Nat.zero_le _) (Nat.zero_le _) (fun _ _ h => h) ?_
    rintro _ h14 ⟨rfl, K1⟩ -
    replace K := K h14 K1
    show Gm l x mX8_when 12 30 [(0, .ref a0), (1, .int x1)] [] h14 rc rs n0 Q X
    refine g_aload_n dX8_when_30 rfl 0 rfl ?_
    refine g_sipush (v := 200) dX8_when_31 (by decide) ?_
    obtain ⟨e17, K⟩ := K
    obtain ⟨q15, C16, K⟩ := K
    refine g_callV (M' := mX8_ticksNow) (b := a0) (As := [.int 200]) (rest := []) dX8_when_34 bw_1452 bw_1454 bs_63 bw_9 bw_1455 ⟨by decide +kernel, by decide +kernel, show (parseMethodDescriptor mX8_ticksNow.1.desc).map (fun d => d.parameters.length) = some 1 by decide +kernel⟩ (by decide) (by decide) (Nat.le_of_ble_eq_true rfl) fc_8 (by decide) rfl e17 C16 (Nat.zero_le _) (Nat.zero_le _) (fun _ _ h => h) ?_
    rintro _ h18 ⟨rfl, K1⟩ -
    replace K := K h18 K1
    show Gm l x mX8_when 12 37 [(0, .ref a0), (1, .int x1)] [] h18 rc rs n0 Q X
    refine g_aload_n dX8_when_37 rfl 0 rfl ?_
    refine g_iload_n dX8_when_38 rfl 1 rfl ?_
    refine g_bipush (v := 7) dX8_when_39 (by decide) ?_
    obtain ⟨e21, K⟩ := K
    obtain ⟨q19, C20, K⟩ := K
    refine g_callV (M' := mX8_of) (b := a0) (As := [.int x1, .int 7]) (rest := []) dX8_when_41 bw_1412 bw_1414 bs_53 bw_9 bw_1415 ⟨by decide +kernel, by decide +kernel, show (parseMethodDescriptor mX8_of.1.desc).map (fun d => d.parameters.length) = some 2 by decide +kernel⟩ (by decide) (by decide) (Nat.le_of_ble_eq_true rfl) fc_8 (by decide) rfl e21 C20 (Nat.zero_le _) (Nat.zero_le _) (fun _ _ h => h) ?_
    rintro _ h22 ⟨r23, rfl, K1⟩ -
    replace K := K r23 h22 K1
    show Gm l x mX8_when 12 44 [(0, .ref a0), (1, .int x1)] [.int r23] h22 rc rs n0 Q X
    refine g_istore_n (lv' := [(0, .ref a0), (1, .int x1), (2, .int r23)]) dX8_when_44 rfl (by decide) rfl ?_
    refine g_aload_n dX8_when_45 rfl 0 rfl ?_
    obtain ⟨e24, b25, e26, K⟩ := K
    refine g_get (c := 8) (k := 2) (v := .ref b25) dX8_when_46 fc_8 (by decide) (by decide) bw_1199 (congrArg pr e26) e24 ?_
    refine g_aload_n dX8_when_49 rfl 0 rfl ?_
    obtain ⟨b27, e28, K⟩ := K
    refine g_get (c := 8) (k := 23) (v := .ref b27) dX8_when_50 fc_8 (by decide) (by decide) bw_1220 (congrArg pr e28) e24 ?_
    obtain ⟨q29, C30, K⟩ := K
    refine g_callS (M' := mX8_copyTo) (As := [.ref b25, .ref b27]) (rest := []) dX8_when_53 bw_1397 bw_1398 bw_9 bw_1399 ⟨by decide +kernel, by decide +kernel, show (parseMethodDescriptor mX8_copyTo.1.desc).map (fun d => d.parameters.length) = some 2 by decide +kernel⟩ (by decide) (by decide) (Nat.le_of_ble_eq_true rfl) C30 (Nat.zero_le _) (Nat.zero_le _) (fun _ _ h => h) ?_
    rintro _ h31 ⟨rfl, K1⟩ -
    replace K := K h31 K1
    show Gm l x mX8_when 12 56 [(0, .ref a0), (1, .int x1), (2, .int r23)] [] h31 rc rs n0 Q X
    refine g_iload_n dX8_when_56 rfl 2 rfl ?_
    exact g_iret dX8_when_57 rfl K
  · replace K := K.2 c6
    refine g_aload_n dX8_when_13 rfl 0 rfl ?_
    refine g_iconst (v := 1) dX8_when_14 (by decide) ?_
    obtain ⟨e34, K⟩ := K
    obtain ⟨q32, C33, K⟩ := K
    refine g_callV (M' := mX8_fail) (b := a0) (As := [.int 1]) (rest := []) dX8_when_15 bw_1336 bw_1338 bs_40 bw_9 bw_1339 ⟨by decide +kernel, by decide +kernel, show (parseMethodDescriptor mX8_fail.1.desc).map (fun d => d.parameters.length) = some 1 by decide +kernel⟩ (by decide) (by decide) (Nat.le_of_ble_eq_true rfl) fc_8 (by decide) rfl e34 C33 (Nat.zero_le _) (Nat.zero_le _) (fun _ _ h => h) ?_
    rintro _ h35 ⟨r36, rfl, K1⟩ -
    replace K := K r36 h35 K1
    show Gm l x mX8_when 12 18 [(0, .ref a0), (1, .int x1)] [.int r36] h35 rc rs n0 Q X
    exact g_iret dX8_when_18 rfl K
theorem dX8_anew_0 : decode cX8_anew 0 = .ok (.aload_n 0, 1) := by decide +kernel
theorem dX8_anew_1 : decode cX8_anew 1 = .ok (.iconst 0, 1) := by decide +kernel
theorem dX8_anew_2 : decode cX8_anew 2 = .ok (.putfield 104, 3) := by decide +kernel
theorem dX8_anew_5 : decode cX8_anew 5 = .ok (.iload_n 3, 1) := by decide +kernel
theorem dX8_anew_6 : decode cX8_anew 6 = .ok (.iconst 0, 1) := by decide +kernel
theorem dX8_anew_7 : decode cX8_anew 7 = .ok (.iconst 2, 1) := by decide +kernel
theorem dX8_anew_8 : decode cX8_anew 8 = .ok (.invokestatic 390, 3) := by decide +kernel
theorem dX8_anew_11 : decode cX8_anew 11 = .ok (.ifCond .ne 9, 3) := by decide +kernel
theorem dX8_anew_14 : decode cX8_anew 14 = .ok (.aload_n 0, 1) := by decide +kernel
theorem dX8_anew_15 : decode cX8_anew 15 = .ok (.iconst 1, 1) := by decide +kernel
theorem dX8_anew_16 : decode cX8_anew 16 = .ok (.invokevirtual 198, 3) := by decide +kernel
theorem dX8_anew_19 : decode cX8_anew 19 = .ok (.ireturn, 1) := by decide +kernel
theorem dX8_anew_20 : decode cX8_anew 20 = .ok (.iload_n 1, 1) := by decide +kernel
theorem dX8_anew_21 : decode cX8_anew 21 = .ok (.iload_n 2, 1) := by decide +kernel
theorem dX8_anew_22 : decode cX8_anew 22 = .ok (.invokestatic 414, 3) := by decide +kernel
theorem dX8_anew_25 : decode cX8_anew 25 = .ok (.ifCond .ne 9, 3) := by decide +kernel
theorem dX8_anew_28 : decode cX8_anew 28 = .ok (.aload_n 0, 1) := by decide +kernel
theorem dX8_anew_29 : decode cX8_anew 29 = .ok (.iconst 2, 1) := by decide +kernel
theorem dX8_anew_30 : decode cX8_anew 30 = .ok (.invokevirtual 198, 3) := by decide +kernel
theorem dX8_anew_33 : decode cX8_anew 33 = .ok (.ireturn, 1) := by decide +kernel
theorem dX8_anew_34 : decode cX8_anew 34 = .ok (.aload_n 0, 1) := by decide +kernel
theorem dX8_anew_35 : decode cX8_anew 35 = .ok (.iload_n 1, 1) := by decide +kernel
theorem dX8_anew_36 : decode cX8_anew 36 = .ok (.iload_n 2, 1) := by decide +kernel
theorem dX8_anew_37 : decode cX8_anew 37 = .ok (.invokevirtual 356, 3) := by decide +kernel
theorem dX8_anew_40 : decode cX8_anew 40 = .ok (.aload_n 0, 1) := by decide +kernel
theorem dX8_anew_41 : decode cX8_anew 41 = .ok (.sipush 200, 3) := by decide +kernel
theorem dX8_anew_44 : decode cX8_anew 44 = .ok (.invokevirtual 350, 3) := by decide +kernel
theorem dX8_anew_47 : decode cX8_anew 47 = .ok (.iconst (-1), 1) := by decide +kernel
theorem dX8_anew_48 : decode cX8_anew 48 = .ok (.istore 4, 2) := by decide +kernel
theorem dX8_anew_50 : decode cX8_anew 50 = .ok (.iconst 0, 1) := by decide +kernel
theorem dX8_anew_51 : decode cX8_anew 51 = .ok (.istore 5, 2) := by decide +kernel
theorem dX8_anew_53 : decode cX8_anew 53 = .ok (.iload 5, 2) := by decide +kernel
theorem dX8_anew_55 : decode cX8_anew 55 = .ok (.aload_n 0, 1) := by decide +kernel
theorem dX8_anew_56 : decode cX8_anew 56 = .ok (.getfield 29, 3) := by decide +kernel
theorem dX8_anew_59 : decode cX8_anew 59 = .ok (.bipush 6, 2) := by decide +kernel
theorem dX8_anew_61 : decode cX8_anew 61 = .ok (.iaload, 1) := by decide +kernel
theorem dX8_anew_62 : decode cX8_anew 62 = .ok (.if_icmp .ge 24, 3) := by decide +kernel
theorem dX8_anew_65 : decode cX8_anew 65 = .ok (.iload 4, 2) := by decide +kernel
theorem dX8_anew_67 : decode cX8_anew 67 = .ok (.aload_n 0, 1) := by decide +kernel
theorem dX8_anew_68 : decode cX8_anew 68 = .ok (.iload 5, 2) := by decide +kernel
theorem dX8_anew_70 : decode cX8_anew 70 = .ok (.bipush 7, 2) := by decide +kernel
theorem dX8_anew_72 : decode cX8_anew 72 = .ok (.invokevirtual 228, 3) := by decide +kernel
theorem dX8_anew_75 : decode cX8_anew 75 = .ok (.invokestatic 417, 3) := by decide +kernel
theorem dX8_anew_78 : decode cX8_anew 78 = .ok (.istore 4, 2) := by decide +kernel
theorem dX8_anew_80 : decode cX8_anew 80 = .ok (.iinc 5 1, 3) := by decide +kernel
theorem dX8_anew_83 : decode cX8_anew 83 = .ok (.goto (-30), 3) := by decide +kernel
theorem dX8_anew_86 : decode cX8_anew 86 = .ok (.iload_n 3, 1) := by decide +kernel
theorem dX8_anew_87 : decode cX8_anew 87 = .ok (.ifCond .ne 11, 3) := by decide +kernel
theorem dX8_anew_90 : decode cX8_anew 90 = .ok (.aload_n 0, 1) := by decide +kernel
theorem dX8_anew_91 : decode cX8_anew 91 = .ok (.iconst 3, 1) := by decide +kernel
theorem dX8_anew_92 : decode cX8_anew 92 = .ok (.invokevirtual 344, 3) := by decide +kernel
theorem dX8_anew_95 : decode cX8_anew 95 = .ok (.goto 19, 3) := by decide +kernel
theorem dX8_anew_98 : decode cX8_anew 98 = .ok (.iload_n 3, 1) := by decide +kernel
theorem dX8_anew_99 : decode cX8_anew 99 = .ok (.iconst 1, 1) := by decide +kernel
theorem dX8_anew_100 : decode cX8_anew 100 = .ok (.if_icmp .ne 8, 3) := by decide +kernel
theorem dX8_anew_103 : decode cX8_anew 103 = .ok (.iload 4, 2) := by decide +kernel
theorem dX8_anew_105 : decode cX8_anew 105 = .ok (.goto 9, 3) := by decide +kernel
theorem dX8_anew_108 : decode cX8_anew 108 = .ok (.aload_n 0, 1) := by decide +kernel
theorem dX8_anew_109 : decode cX8_anew 109 = .ok (.getfield 29, 3) := by decide +kernel
theorem dX8_anew_112 : decode cX8_anew 112 = .ok (.iconst 5, 1) := by decide +kernel
theorem dX8_anew_113 : decode cX8_anew 113 = .ok (.iaload, 1) := by decide +kernel
theorem dX8_anew_114 : decode cX8_anew 114 = .ok (.istore 5, 2) := by decide +kernel
theorem dX8_anew_116 : decode cX8_anew 116 = .ok (.aload_n 0, 1) := by decide +kernel
theorem dX8_anew_117 : decode cX8_anew 117 = .ok (.getfield 29, 3) := by decide +kernel
theorem dX8_anew_120 : decode cX8_anew 120 = .ok (.aload_n 0, 1) := by decide +kernel
theorem dX8_anew_121 : decode cX8_anew 121 = .ok (.getfield 64, 3) := by decide +kernel
theorem dX8_anew_124 : decode cX8_anew 124 = .ok (.invokestatic 204, 3) := by decide +kernel
theorem dX8_anew_127 : decode cX8_anew 127 = .ok (.iload 5, 2) := by decide +kernel
theorem dX8_anew_129 : decode cX8_anew 129 = .ok (.ireturn, 1) := by decide +kernel
