/-! STEPS, printed by program: M2 -/
theorem dX8_isRider_0 : decode cX8_isRider 0 = .ok (.iload_n 1, 1) := by decide +kernel
theorem dX8_isRider_1 : decode cX8_isRider 1 = .ok (.iconst 0, 1) := by decide +kernel
theorem dX8_isRider_2 : decode cX8_isRider 2 = .ok (.aload_n 0, 1) := by decide +kernel
theorem dX8_isRider_3 : decode cX8_isRider 3 = .ok (.getfield 29, 3) := by decide +kernel
theorem dX8_isRider_6 : decode cX8_isRider 6 = .ok (.bipush 6, 2) := by decide +kernel
theorem dX8_isRider_8 : decode cX8_isRider 8 = .ok (.iaload, 1) := by decide +kernel
theorem dX8_isRider_9 : decode cX8_isRider 9 = .ok (.iconst 1, 1) := by decide +kernel
theorem dX8_isRider_10 : decode cX8_isRider 10 = .ok (.isub, 1) := by decide +kernel
theorem dX8_isRider_11 : decode cX8_isRider 11 = .ok (.invokestatic 390, 3) := by decide +kernel
theorem dX8_isRider_14 : decode cX8_isRider 14 = .ok (.ireturn, 1) := by decide +kernel
set_option maxRecDepth 20000 in
set_option maxHeartbeats 4000000 in
theorem vX8_isRider_0 {l : Launch} {x : CX} {a0 : Nat} {x1 : Int32} {h : PH} {rc rs n0 : Nat} {Q : Option Value → PH → Prop} {X : String → PH → Prop}
    (K : ((hK h a0).1 = 8) ∧ ∃ b2, (hR h a0 2 = some b2) ∧ ((hK h b2).1 = 100) ∧ (vp_in 6 (hK h b2).2) ∧ ∃ (q6 : Int32 → PH → Prop), CI l x mX8_isIn 0 0 0 [.int x1, .int 0, .int ((hI h b2 (Int32.toNatClampNeg 6)) - 1)] h q6 ∧ ∀ (r9 : Int32) (h8 : PH), q6 r9 h8 → ((r9 : Int32) = 0 ∨ (r9 : Int32) = 1) ∧ Q (some (.int r9)) h8) :
    Gm l x mX8_isRider 1 0 [(0, .ref a0), (1, .int x1)] [] h rc rs n0 Q X := by
  refine g_iload_n dX8_isRider_0 rfl 1 rfl ?_
  refine g_iconst (v := 0) dX8_isRider_1 (by decide) ?_
  refine g_aload_n dX8_isRider_2 rfl 0 rfl ?_
  obtain ⟨e1, b2, e3, K⟩ := K
  refine g_get (c := 8) (k := 2) (v := .ref b2) dX8_isRider_3 fc_8 (by decide) (by decide) bw_1200 (congrArg pr e3) e1 ?_
  refine g_bipush (v := 6) dX8_isRider_6 (by decide) ?_
  obtain ⟨e4, e5, K⟩ := K
  refine g_iald dX8_isRider_8 e4 e5 ?_
  refine g_iconst (v := 1) dX8_isRider_9 (by decide) ?_
  refine g_isub dX8_isRider_10 ?_
  obtain ⟨q6, C7, K⟩ := K
  refine g_callS (M' := mX8_isIn) (As := [.int x1, .int 0, .int ((hI h b2 (Int32.toNatClampNeg 6)) - 1)]) (rest := []) (rc' := rc) (rs' := rs) dX8_isRider_11 bw_1612 bw_1613 bw_9 bw_1614 ⟨by decide +kernel, by decide +kernel, show (parseMethodDescriptor mX8_isIn.1.desc).map (fun d => d.parameters.length) = some 3 by decide +kernel⟩ (by decide) (by decide) (Nat.le_of_ble_eq_true rfl) C7 (Nat.le_of_eq (Nat.add_zero _)) (Nat.le_of_eq (Nat.add_zero _)) (fun _ _ h => h) ?_
  rintro _ h8 ⟨r9, rfl, K1⟩ -
  replace K := K r9 h8 K1
  show Gm l x mX8_isRider 1 14 [(0, .ref a0), (1, .int x1)] [.int r9] h8 rc rs n0 Q X
  exact g_zret dX8_isRider_14 rfl K.1 K.2
theorem dX8_isFloor_0 : decode cX8_isFloor 0 = .ok (.iload_n 1, 1) := by decide +kernel
theorem dX8_isFloor_1 : decode cX8_isFloor 1 = .ok (.iconst 0, 1) := by decide +kernel
theorem dX8_isFloor_2 : decode cX8_isFloor 2 = .ok (.aload_n 0, 1) := by decide +kernel
theorem dX8_isFloor_3 : decode cX8_isFloor 3 = .ok (.getfield 36, 3) := by decide +kernel
theorem dX8_isFloor_6 : decode cX8_isFloor 6 = .ok (.iconst 0, 1) := by decide +kernel
theorem dX8_isFloor_7 : decode cX8_isFloor 7 = .ok (.iaload, 1) := by decide +kernel
theorem dX8_isFloor_8 : decode cX8_isFloor 8 = .ok (.iconst 1, 1) := by decide +kernel
theorem dX8_isFloor_9 : decode cX8_isFloor 9 = .ok (.isub, 1) := by decide +kernel
theorem dX8_isFloor_10 : decode cX8_isFloor 10 = .ok (.invokestatic 390, 3) := by decide +kernel
theorem dX8_isFloor_13 : decode cX8_isFloor 13 = .ok (.ireturn, 1) := by decide +kernel
set_option maxRecDepth 20000 in
set_option maxHeartbeats 4000000 in
theorem vX8_isFloor_0 {l : Launch} {x : CX} {a0 : Nat} {x1 : Int32} {h : PH} {rc rs n0 : Nat} {Q : Option Value → PH → Prop} {X : String → PH → Prop}
    (K : ((hK h a0).1 = 8) ∧ ∃ b2, (hR h a0 4 = some b2) ∧ ((hK h b2).1 = 100) ∧ (vp_in 0 (hK h b2).2) ∧ ∃ (q6 : Int32 → PH → Prop), CI l x mX8_isIn 0 0 0 [.int x1, .int 0, .int ((hI h b2 (Int32.toNatClampNeg 0)) - 1)] h q6 ∧ ∀ (r9 : Int32) (h8 : PH), q6 r9 h8 → ((r9 : Int32) = 0 ∨ (r9 : Int32) = 1) ∧ Q (some (.int r9)) h8) :
    Gm l x mX8_isFloor 1 0 [(0, .ref a0), (1, .int x1)] [] h rc rs n0 Q X := by
  refine g_iload_n dX8_isFloor_0 rfl 1 rfl ?_
  refine g_iconst (v := 0) dX8_isFloor_1 (by decide) ?_
  refine g_aload_n dX8_isFloor_2 rfl 0 rfl ?_
  obtain ⟨e1, b2, e3, K⟩ := K
  refine g_get (c := 8) (k := 4) (v := .ref b2) dX8_isFloor_3 fc_8 (by decide) (by decide) bw_1202 (congrArg pr e3) e1 ?_
  refine g_iconst (v := 0) dX8_isFloor_6 (by decide) ?_
  obtain ⟨e4, e5, K⟩ := K
  refine g_iald dX8_isFloor_7 e4 e5 ?_
  refine g_iconst (v := 1) dX8_isFloor_8 (by decide) ?_
  refine g_isub dX8_isFloor_9 ?_
  obtain ⟨q6, C7, K⟩ := K
  refine g_callS (M' := mX8_isIn) (As := [.int x1, .int 0, .int ((hI h b2 (Int32.toNatClampNeg 0)) - 1)]) (rest := []) (rc' := rc) (rs' := rs) dX8_isFloor_10 bw_1612 bw_1613 bw_9 bw_1614 ⟨by decide +kernel, by decide +kernel, show (parseMethodDescriptor mX8_isIn.1.desc).map (fun d => d.parameters.length) = some 3 by decide +kernel⟩ (by decide) (by decide) (Nat.le_of_ble_eq_true rfl) C7 (Nat.le_of_eq (Nat.add_zero _)) (Nat.le_of_eq (Nat.add_zero _)) (fun _ _ h => h) ?_
  rintro _ h8 ⟨r9, rfl, K1⟩ -
  replace K := K r9 h8 K1
  show Gm l x mX8_isFloor 1 13 [(0, .ref a0), (1, .int x1)] [.int r9] h8 rc rs n0 Q X
  exact g_zret dX8_isFloor_13 rfl K.1 K.2
theorem dX8_refused_0 : decode cX8_refused 0 = .ok (.aload_n 0, 1) := by decide +kernel
theorem dX8_refused_1 : decode cX8_refused 1 = .ok (.iconst 1, 1) := by decide +kernel
theorem dX8_refused_2 : decode cX8_refused 2 = .ok (.invokevirtual 402, 3) := by decide +kernel
theorem dX8_refused_5 : decode cX8_refused 5 = .ok (.ifCond .lt 7, 3) := by decide +kernel
theorem dX8_refused_8 : decode cX8_refused 8 = .ok (.iconst 1, 1) := by decide +kernel
theorem dX8_refused_9 : decode cX8_refused 9 = .ok (.goto 4, 3) := by decide +kernel
theorem dX8_refused_12 : decode cX8_refused 12 = .ok (.iconst 0, 1) := by decide +kernel
theorem dX8_refused_13 : decode cX8_refused 13 = .ok (.ireturn, 1) := by decide +kernel
set_option maxRecDepth 20000 in
set_option maxHeartbeats 4000000 in
theorem vX8_refused_0 {l : Launch} {x : CX} {a0 : Nat} {h : PH} {rc rs n0 : Nat} {Q : Option Value → PH → Prop} {X : String → PH → Prop}
    (K : ((hK h a0).1 = 8) ∧ ∃ (q1 : Int32 → PH → Prop), CI l x mX8_refuse 0 0 0 [.ref a0, .int 1] h q1 ∧ ∀ (r5 : Int32) (h4 : PH), q1 r5 h4 → (((if r5 < 0 then 0 else 1 : Int32) : Int32) = 0 ∨ ((if r5 < 0 then 0 else 1 : Int32) : Int32) = 1) ∧ Q (some (.int (if r5 < 0 then 0 else 1 : Int32))) h4) :
    Gm l x mX8_refused 1 0 [(0, .ref a0)] [] h rc rs n0 Q X := by
  refine g_aload_n dX8_refused_0 rfl 0 rfl ?_
  refine g_iconst (v := 1) dX8_refused_1 (by decide) ?_
  obtain ⟨e3, K⟩ := K
  obtain ⟨q1, C2, K⟩ := K
  refine g_callV (M' := mX8_refuse) (b := a0) (As := [.int 1]) (rest := []) (rc' := rc) (rs' := rs) dX8_refused_2 bw_1639 bw_1641 bs_97 bw_9 bw_1642 ⟨by decide +kernel, by decide +kernel, show (parseMethodDescriptor mX8_refuse.1.desc).map (fun d => d.parameters.length) = some 1 by decide +kernel⟩ (by decide) (by decide) (Nat.le_of_ble_eq_true rfl) fc_8 (by decide) rfl e3 C2 (Nat.le_of_eq (Nat.add_zero _)) (Nat.le_of_eq (Nat.add_zero _)) (fun _ _ h => h) ?_
  rintro _ h4 ⟨r5, rfl, K1⟩ -
  replace K := K r5 h4 K1
  show Gm l x mX8_refused 1 5 [(0, .ref a0)] [.int r5] h4 rc rs n0 Q X
  have KJ : Gm l x mX8_refused 1 13 [(0, .ref a0)] [.int (if r5 < 0 then 0 else 1 : Int32)] h4 rc rs n0 Q X := by
    exact g_zret dX8_refused_13 rfl K.1 K.2
  refine g_if_lt (tgt := 12) dX8_refused_5 (by decide) (fun c6 => ?_) (fun c6 => ?_)
  · refine g_iconst (v := 0) dX8_refused_12 (by decide) ?_
    first | (simp only [if_pos c6] at KJ; exact KJ) | (simp only [if_pos c6, ite_true, ite_false, eq_self] at KJ; exact KJ) | (simp only [if_pos c6] at KJ ⊢; exact KJ) | exact KJ
  · refine g_iconst (v := 1) dX8_refused_8 (by decide) ?_
    refine g_goto (tgt := 13) dX8_refused_9 (by decide) ?_
    first | (simp only [if_neg c6] at KJ; exact KJ) | (simp only [if_neg c6, ite_true, ite_false, eq_self] at KJ; exact KJ) | (simp only [if_neg c6] at KJ ⊢; exact KJ) | exact KJ
theorem dX8_rule_0 : decode cX8_rule 0 = .ok (.aload_n 0, 1) := by decide +kernel
theorem dX8_rule_1 : decode cX8_rule 1 = .ok (.iconst 0, 1) := by decide +kernel
theorem dX8_rule_2 : decode cX8_rule 2 = .ok (.putfield 104, 3) := by decide +kernel
theorem dX8_rule_5 : decode cX8_rule 5 = .ok (.iload_n 1, 1) := by decide +kernel
theorem dX8_rule_6 : decode cX8_rule 6 = .ok (.iconst 0, 1) := by decide +kernel
theorem dX8_rule_7 : decode cX8_rule 7 = .ok (.iconst 1, 1) := by decide +kernel
theorem dX8_rule_8 : decode cX8_rule 8 = .ok (.invokestatic 390, 3) := by decide +kernel
theorem dX8_rule_11 : decode cX8_rule 11 = .ok (.ifCond .eq 21, 3) := by decide +kernel
theorem dX8_rule_14 : decode cX8_rule 14 = .ok (.iload_n 2, 1) := by decide +kernel
theorem dX8_rule_15 : decode cX8_rule 15 = .ok (.iconst 0, 1) := by decide +kernel
theorem dX8_rule_16 : decode cX8_rule 16 = .ok (.iload_n 1, 1) := by decide +kernel
theorem dX8_rule_17 : decode cX8_rule 17 = .ok (.ifCond .ne 7, 3) := by decide +kernel
theorem dX8_rule_20 : decode cX8_rule 20 = .ok (.iconst 2, 1) := by decide +kernel
theorem dX8_rule_21 : decode cX8_rule 21 = .ok (.goto 5, 3) := by decide +kernel
theorem dX8_rule_24 : decode cX8_rule 24 = .ok (.bipush 11, 2) := by decide +kernel
theorem dX8_rule_26 : decode cX8_rule 26 = .ok (.invokestatic 390, 3) := by decide +kernel
theorem dX8_rule_29 : decode cX8_rule 29 = .ok (.ifCond .ne 9, 3) := by decide +kernel
theorem dX8_rule_32 : decode cX8_rule 32 = .ok (.aload_n 0, 1) := by decide +kernel
theorem dX8_rule_33 : decode cX8_rule 33 = .ok (.iconst 1, 1) := by decide +kernel
theorem dX8_rule_34 : decode cX8_rule 34 = .ok (.invokevirtual 402, 3) := by decide +kernel
theorem dX8_rule_37 : decode cX8_rule 37 = .ok (.ireturn, 1) := by decide +kernel
theorem dX8_rule_38 : decode cX8_rule 38 = .ok (.aload_n 0, 1) := by decide +kernel
theorem dX8_rule_39 : decode cX8_rule 39 = .ok (.invokevirtual 405, 3) := by decide +kernel
theorem dX8_rule_42 : decode cX8_rule 42 = .ok (.aload_n 0, 1) := by decide +kernel
theorem dX8_rule_43 : decode cX8_rule 43 = .ok (.getfield 29, 3) := by decide +kernel
theorem dX8_rule_46 : decode cX8_rule 46 = .ok (.iconst 2, 1) := by decide +kernel
theorem dX8_rule_47 : decode cX8_rule 47 = .ok (.iload_n 1, 1) := by decide +kernel
theorem dX8_rule_48 : decode cX8_rule 48 = .ok (.iadd, 1) := by decide +kernel
theorem dX8_rule_49 : decode cX8_rule 49 = .ok (.iaload, 1) := by decide +kernel
theorem dX8_rule_50 : decode cX8_rule 50 = .ok (.istore_n 3, 1) := by decide +kernel
theorem dX8_rule_51 : decode cX8_rule 51 = .ok (.aload_n 0, 1) := by decide +kernel
theorem dX8_rule_52 : decode cX8_rule 52 = .ok (.getfield 29, 3) := by decide +kernel
theorem dX8_rule_55 : decode cX8_rule 55 = .ok (.iconst 2, 1) := by decide +kernel
theorem dX8_rule_56 : decode cX8_rule 56 = .ok (.iload_n 1, 1) := by decide +kernel
theorem dX8_rule_57 : decode cX8_rule 57 = .ok (.iadd, 1) := by decide +kernel
theorem dX8_rule_58 : decode cX8_rule 58 = .ok (.iload_n 2, 1) := by decide +kernel
theorem dX8_rule_59 : decode cX8_rule 59 = .ok (.iastore, 1) := by decide +kernel
theorem dX8_rule_60 : decode cX8_rule 60 = .ok (.iload_n 3, 1) := by decide +kernel
theorem dX8_rule_61 : decode cX8_rule 61 = .ok (.ireturn, 1) := by decide +kernel
set_option maxRecDepth 20000 in
set_option maxHeartbeats 4000000 in
theorem vX8_rule_0 {l : Launch} {x : CX} {a0 : Nat} {x1 : Int32} {x2 : Int32} {h : PH} {rc rs n0 : Nat} {Q : Option Value → PH → Prop} {X : String → PH → Prop}
    (K : ((hK h a0).1 = 8) ∧ ∃ (q2 : Int32 → PH → Prop), CI l x mX8_isIn 0 0 0 [.int x1, .int 0, .int 1] (sI h a0 1 0) q2 ∧ ∀ (r5 : Int32) (h4 : PH), q2 r5 h4 → ((r5 = 0 → ((hK h4 a0).1 = 8) ∧ ∃ (q7 : Int32 → PH → Prop), CI l x mX8_refuse 0 0 0 [.ref a0, .int 1] h4 q7 ∧ ∀ (r11 : Int32) (h10 : PH), q7 r11 h10 → Q (some (.int r11)) h10) ∧ (¬ r5 = 0 → ∃ (q13 : Int32 → PH → Prop), CI l x mX8_isIn 0 0 0 [.int x2, .int 0, .int (if x1 = 0 then 2 else 11 : Int32)] h4 q13 ∧ ∀ (r16 : Int32) (h15 : PH), q13 r16 h15 → ((¬ r16 = 0 → ((hK h15 a0).1 = 8) ∧ ∃ (q18 : PH → Prop), CV l x mX8_keep 0 0 0 [.ref a0] h15 q18 ∧ ∀ (h21 : PH), q18 h21 → ((hK h21 a0).1 = 8) ∧ ∃ b23, (hR h21 a0 2 = some b23) ∧ ((hK h21 b23).1 = 100) ∧ (vp_in (2 + x1) (hK h21 b23).2) ∧ (vp_in (2 + x1) (hK h21 b23).2) ∧ Q (some (.int (hI h21 b23 (2 + x1).toNatClampNeg))) (sI h21 b23 (2 + x1).toNatClampNeg x2)) ∧ (r16 = 0 → ((hK h15 a0).1 = 8) ∧ ∃ (q28 : Int32 → PH → Prop), CI l x mX8_refuse 0 0 0 [.ref a0, .int 1] h15 q28 ∧ ∀ (r32 : Int32) (h31 : PH), q28 r32 h31 → Q (some (.int r32)) h31))))) :
    Gm l x mX8_rule 1 0 [(0, .ref a0), (1, .int x1), (2, .int x2)] [] h rc rs n0 Q X := by
  refine g_aload_n dX8_rule_0 rfl 0 rfl ?_
  refine g_iconst (v := 0) dX8_rule_1 (by decide) ?_
  obtain ⟨e1, K⟩ := K
  refine g_puti (c := 8) (k := 1) dX8_rule_2 fc_8 (by decide) (by decide) bw_1199 (Or.inl rfl) rfl e1 ?_
  refine g_iload_n dX8_rule_5 rfl 1 rfl ?_
  refine g_iconst (v := 0) dX8_rule_6 (by decide) ?_
  refine g_iconst (v := 1) dX8_rule_7 (by decide) ?_
  obtain ⟨q2, C3, K⟩ := K
  refine g_callS (M' := mX8_isIn) (As := [.int x1, .int 0, .int 1]) (rest := []) (rc' := rc) (rs' := rs) dX8_rule_8 bw_1612 bw_1613 bw_9 bw_1614 ⟨by decide +kernel, by decide +kernel, show (parseMethodDescriptor mX8_isIn.1.desc).map (fun d => d.parameters.length) = some 3 by decide +kernel⟩ (by decide) (by decide) (Nat.le_of_ble_eq_true rfl) C3 (Nat.le_of_eq (Nat.add_zero _)) (Nat.le_of_eq (Nat.add_zero _)) (fun _ _ h => h) ?_
  rintro _ h4 ⟨r5, rfl, K1⟩ -
  replace K := K r5 h4 K1
  show Gm l x mX8_rule 1 11 [(0, .ref a0), (1, .int x1), (2, .int x2)] [.int r5] h4 rc rs n0 Q X
  refine g_if_eq (tgt := 32) dX8_rule_11 (by decide) (fun c6 => ?_) (fun c6 => ?_)
  · replace K := K.1 c6
    refine g_aload_n dX8_rule_32 rfl 0 rfl ?_
    refine g_iconst (v := 1) dX8_rule_33 (by decide) ?_
    obtain ⟨e9, K⟩ := K
    obtain ⟨q7, C8, K⟩ := K
    refine g_callV (M' := mX8_refuse) (b := a0) (As := [.int 1]) (rest := []) (rc' := rc) (rs' := rs) dX8_rule_34 bw_1639 bw_1641 bs_97 bw_9 bw_1642 ⟨by decide +kernel, by decide +kernel, show (parseMethodDescriptor mX8_refuse.1.desc).map (fun d => d.parameters.length) = some 1 by decide +kernel⟩ (by decide) (by decide) (Nat.le_of_ble_eq_true rfl) fc_8 (by decide) rfl e9 C8 (Nat.le_of_eq (Nat.add_zero _)) (Nat.le_of_eq (Nat.add_zero _)) (fun _ _ h => h) ?_
    rintro _ h10 ⟨r11, rfl, K1⟩ -
    replace K := K r11 h10 K1
    show Gm l x mX8_rule 1 37 [(0, .ref a0), (1, .int x1), (2, .int x2)] [.int r11] h10 rc rs n0 Q X
    exact g_iret dX8_rule_37 rfl K
  · replace K := K.2 c6
    refine g_iload_n dX8_rule_14 rfl 2 rfl ?_
    refine g_iconst (v := 0) dX8_rule_15 (by decide) ?_
    refine g_iload_n dX8_rule_16 rfl 1 rfl ?_
    have KJ : Gm l x mX8_rule 1 26 [(0, .ref a0), (1, .int x1), (2, .int x2)] [.int (if x1 = 0 then 2 else 11 : Int32), .int 0, .int x2] h4 rc rs n0 Q X := by
      obtain ⟨q13, C14, K⟩ := K
      refine g_callS (M' := mX8_isIn) (As := [.int x2, .int 0, .int (if x1 = 0 then 2 else 11 : Int32)]) (rest := []) (rc' := rc) (rs' := rs) dX8_rule_26 bw_1612 bw_1613 bw_9 bw_1614 ⟨by decide +kernel, by decide +kernel, show (parseMethodDescriptor mX8_isIn.1.desc).map (fun d => d.parameters.length) = some 3 by decide +kernel⟩ (by decide) (by decide) (Nat.le_of_ble_eq_true rfl) C14 (Nat.le_of_eq (Nat.add_zero _)) (Nat.le_of_eq (Nat.add_zero _)) (fun _ _ h => h) ?_
      rintro _ h15 ⟨r16, rfl, K1⟩ -
      replace K := K r16 h15 K1
      show Gm l x mX8_rule 1 29 [(0, .ref a0), (1, .int x1), (2, .int x2)] [.int r16] h15 rc rs n0 Q X
      refine g_if_ne (tgt := 38) dX8_rule_29 (by decide) (fun c17 => ?_) (fun c17 => ?_)
      · replace K := K.1 c17
        refine g_aload_n dX8_rule_38 rfl 0 rfl ?_
        obtain ⟨e20, K⟩ := K
        obtain ⟨q18, C19, K⟩ := K
        refine g_callV (M' := mX8_keep) (b := a0) (As := []) (rest := []) (rc' := rc) (rs' := rs) dX8_rule_39 bw_1643 bw_1645 bs_98 bw_9 bw_1646 ⟨by decide +kernel, by decide +kernel, show (parseMethodDescriptor mX8_keep.1.desc).map (fun d => d.parameters.length) = some 0 by decide +kernel⟩ (by decide) (by decide) (Nat.le_of_ble_eq_true rfl) fc_8 (by decide) rfl e20 C19 (Nat.le_of_eq (Nat.add_zero _)) (Nat.le_of_eq (Nat.add_zero _)) (fun _ _ h => h) ?_
        rintro _ h21 ⟨rfl, K1⟩ -
        replace K := K h21 K1
        show Gm l x mX8_rule 1 42 [(0, .ref a0), (1, .int x1), (2, .int x2)] [] h21 rc rs n0 Q X
        refine g_aload_n dX8_rule_42 rfl 0 rfl ?_
        obtain ⟨e22, b23, e24, K⟩ := K
        refine g_get (c := 8) (k := 2) (v := .ref b23) dX8_rule_43 fc_8 (by decide) (by decide) bw_1200 (congrArg pr e24) e22 ?_
        refine g_iconst (v := 2) dX8_rule_46 (by decide) ?_
        refine g_iload_n dX8_rule_47 rfl 1 rfl ?_
        refine g_iadd dX8_rule_48 ?_
        obtain ⟨e25, e26, K⟩ := K
        refine g_iald dX8_rule_49 e25 e26 ?_
        refine g_istore_n (lv' := [(0, .ref a0), (1, .int x1), (2, .int x2), (3, .int (hI h21 b23 (2 + x1).toNatClampNeg))]) dX8_rule_50 rfl (by decide) rfl ?_
        refine g_aload_n dX8_rule_51 rfl 0 rfl ?_
        refine g_get (c := 8) (k := 2) (v := .ref b23) dX8_rule_52 fc_8 (by decide) (by decide) bw_1200 (congrArg pr e24) e22 ?_
        refine g_iconst (v := 2) dX8_rule_55 (by decide) ?_
        refine g_iload_n dX8_rule_56 rfl 1 rfl ?_
        refine g_iadd dX8_rule_57 ?_
        refine g_iload_n dX8_rule_58 rfl 2 rfl ?_
        obtain ⟨e27, K⟩ := K
        refine g_iast dX8_rule_59 e25 e27 ?_
        refine g_iload_n dX8_rule_60 rfl 3 rfl ?_
        exact g_iret dX8_rule_61 rfl K
      · replace K := K.2 c17
        refine g_aload_n dX8_rule_32 rfl 0 rfl ?_
        refine g_iconst (v := 1) dX8_rule_33 (by decide) ?_
        obtain ⟨e30, K⟩ := K
        obtain ⟨q28, C29, K⟩ := K
        refine g_callV (M' := mX8_refuse) (b := a0) (As := [.int 1]) (rest := []) (rc' := rc) (rs' := rs) dX8_rule_34 bw_1639 bw_1641 bs_97 bw_9 bw_1642 ⟨by decide +kernel, by decide +kernel, show (parseMethodDescriptor mX8_refuse.1.desc).map (fun d => d.parameters.length) = some 1 by decide +kernel⟩ (by decide) (by decide) (Nat.le_of_ble_eq_true rfl) fc_8 (by decide) rfl e30 C29 (Nat.le_of_eq (Nat.add_zero _)) (Nat.le_of_eq (Nat.add_zero _)) (fun _ _ h => h) ?_
        rintro _ h31 ⟨r32, rfl, K1⟩ -
        replace K := K r32 h31 K1
        show Gm l x mX8_rule 1 37 [(0, .ref a0), (1, .int x1), (2, .int x2)] [.int r32] h31 rc rs n0 Q X
        exact g_iret dX8_rule_37 rfl K
    refine g_if_ne (tgt := 24) dX8_rule_17 (by decide) (fun c12 => ?_) (fun c12 => ?_)
    · refine g_bipush (v := 11) dX8_rule_24 (by decide) ?_
      first | (simp only [if_neg c12] at KJ; exact KJ) | (simp only [if_neg c12, ite_true, ite_false, eq_self] at KJ; exact KJ) | (simp only [if_neg c12] at KJ ⊢; exact KJ) | exact KJ
    · refine g_iconst (v := 2) dX8_rule_20 (by decide) ?_
      refine g_goto (tgt := 26) dX8_rule_21 (by decide) ?_
      first | (simp only [if_pos c12] at KJ; exact KJ) | (simp only [if_pos c12, ite_true, ite_false, eq_self] at KJ; exact KJ) | (simp only [if_pos c12] at KJ ⊢; exact KJ) | exact KJ
theorem dX8_isRule_0 : decode cX8_isRule 0 = .ok (.iload_n 0, 1) := by decide +kernel
theorem dX8_isRule_1 : decode cX8_isRule 1 = .ok (.iconst 0, 1) := by decide +kernel
theorem dX8_isRule_2 : decode cX8_isRule 2 = .ok (.iconst 2, 1) := by decide +kernel
theorem dX8_isRule_3 : decode cX8_isRule 3 = .ok (.invokestatic 390, 3) := by decide +kernel
theorem dX8_isRule_6 : decode cX8_isRule 6 = .ok (.ifCond .eq 17, 3) := by decide +kernel
theorem dX8_isRule_9 : decode cX8_isRule 9 = .ok (.iload_n 1, 1) := by decide +kernel
theorem dX8_isRule_10 : decode cX8_isRule 10 = .ok (.iconst 0, 1) := by decide +kernel
theorem dX8_isRule_11 : decode cX8_isRule 11 = .ok (.bipush 11, 2) := by decide +kernel
theorem dX8_isRule_13 : decode cX8_isRule 13 = .ok (.invokestatic 390, 3) := by decide +kernel
theorem dX8_isRule_16 : decode cX8_isRule 16 = .ok (.ifCond .eq 7, 3) := by decide +kernel
theorem dX8_isRule_19 : decode cX8_isRule 19 = .ok (.iconst 1, 1) := by decide +kernel
theorem dX8_isRule_20 : decode cX8_isRule 20 = .ok (.goto 4, 3) := by decide +kernel
theorem dX8_isRule_23 : decode cX8_isRule 23 = .ok (.iconst 0, 1) := by decide +kernel
theorem dX8_isRule_24 : decode cX8_isRule 24 = .ok (.ireturn, 1) := by decide +kernel
set_option maxRecDepth 20000 in
set_option maxHeartbeats 4000000 in
theorem vX8_isRule_0 {l : Launch} {x : CX} {x0 : Int32} {x1 : Int32} {h : PH} {rc rs n0 : Nat} {Q : Option Value → PH → Prop} {X : String → PH → Prop}
    (K : ∃ (q1 : Int32 → PH → Prop), CI l x mX8_isIn 0 0 0 [.int x0, .int 0, .int 2] h q1 ∧ ∀ (r4 : Int32) (h3 : PH), q1 r4 h3 → ((r4 = 0 → ((0 : Int32) = 0 ∨ (0 : Int32) = 1) ∧ Q (some (.int 0)) h3) ∧ (¬ r4 = 0 → ∃ (q6 : Int32 → PH → Prop), CI l x mX8_isIn 0 0 0 [.int x1, .int 0, .int 11] h3 q6 ∧ ∀ (r9 : Int32) (h8 : PH), q6 r9 h8 → (((if r9 = 0 then 0 else 1 : Int32) : Int32) = 0 ∨ ((if r9 = 0 then 0 else 1 : Int32) : Int32) = 1) ∧ Q (some (.int (if r9 = 0 then 0 else 1 : Int32))) h8))) :
    Gm l x mX8_isRule 1 0 [(0, .int x0), (1, .int x1)] [] h rc rs n0 Q X := by
  refine g_iload_n dX8_isRule_0 rfl 0 rfl ?_
  refine g_iconst (v := 0) dX8_isRule_1 (by decide) ?_
  refine g_iconst (v := 2) dX8_isRule_2 (by decide) ?_
  obtain ⟨q1, C2, K⟩ := K
  refine g_callS (M' := mX8_isIn) (As := [.int x0, .int 0, .int 2]) (rest := []) (rc' := rc) (rs' := rs) dX8_isRule_3 bw_1612 bw_1613 bw_9 bw_1614 ⟨by decide +kernel, by decide +kernel, show (parseMethodDescriptor mX8_isIn.1.desc).map (fun d => d.parameters.length) = some 3 by decide +kernel⟩ (by decide) (by decide) (Nat.le_of_ble_eq_true rfl) C2 (Nat.le_of_eq (Nat.add_zero _)) (Nat.le_of_eq (Nat.add_zero _)) (fun _ _ h => h) ?_
  rintro _ h3 ⟨r4, rfl, K1⟩ -
  replace K := K r4 h3 K1
  show Gm l x mX8_isRule 1 6 [(0, .int x0), (1, .int x1)] [.int r4] h3 rc rs n0 Q X
  refine g_if_eq (tgt := 23) dX8_isRule_6 (by decide) (fun c5 => ?_) (fun c5 => ?_)
  · replace K := K.1 c5
    refine g_iconst (v := 0) dX8_isRule_23 (by decide) ?_
    exact g_zret dX8_isRule_24 rfl K.1 K.2
  · replace K := K.2 c5
    refine g_iload_n dX8_isRule_9 rfl 1 rfl ?_
    refine g_iconst (v := 0) dX8_isRule_10 (by decide) ?_
    refine g_bipush (v := 11) dX8_isRule_11 (by decide) ?_
    obtain ⟨q6, C7, K⟩ := K
    refine g_callS (M' := mX8_isIn) (As := [.int x1, .int 0, .int 11]) (rest := []) (rc' := rc) (rs' := rs) dX8_isRule_13 bw_1612 bw_1613 bw_9 bw_1614 ⟨by decide +kernel, by decide +kernel, show (parseMethodDescriptor mX8_isIn.1.desc).map (fun d => d.parameters.length) = some 3 by decide +kernel⟩ (by decide) (by decide) (Nat.le_of_ble_eq_true rfl) C7 (Nat.le_of_eq (Nat.add_zero _)) (Nat.le_of_eq (Nat.add_zero _)) (fun _ _ h => h) ?_
    rintro _ h8 ⟨r9, rfl, K1⟩ -
    replace K := K r9 h8 K1
    show Gm l x mX8_isRule 1 16 [(0, .int x0), (1, .int x1)] [.int r9] h8 rc rs n0 Q X
    have KJ : Gm l x mX8_isRule 1 24 [(0, .int x0), (1, .int x1)] [.int (if r9 = 0 then 0 else 1 : Int32)] h8 rc rs n0 Q X := by
      exact g_zret dX8_isRule_24 rfl K.1 K.2
    refine g_if_eq (tgt := 23) dX8_isRule_16 (by decide) (fun c10 => ?_) (fun c10 => ?_)
    · refine g_iconst (v := 0) dX8_isRule_23 (by decide) ?_
      first | (simp only [if_pos c10] at KJ; exact KJ) | (simp only [if_pos c10, ite_true, ite_false, eq_self] at KJ; exact KJ) | (simp only [if_pos c10] at KJ ⊢; exact KJ) | exact KJ
    · refine g_iconst (v := 1) dX8_isRule_19 (by decide) ?_
      refine g_goto (tgt := 24) dX8_isRule_20 (by decide) ?_
      first | (simp only [if_neg c10] at KJ; exact KJ) | (simp only [if_neg c10, ite_true, ite_false, eq_self] at KJ; exact KJ) | (simp only [if_neg c10] at KJ ⊢; exact KJ) | exact KJ
theorem dX8_note_0 : decode cX8_note 0 = .ok (.aload_n 0, 1) := by decide +kernel
theorem dX8_note_1 : decode cX8_note 1 = .ok (.iconst 0, 1) := by decide +kernel
theorem dX8_note_2 : decode cX8_note 2 = .ok (.putfield 104, 3) := by decide +kernel
theorem dX8_note_5 : decode cX8_note 5 = .ok (.aload_n 0, 1) := by decide +kernel
theorem dX8_note_6 : decode cX8_note 6 = .ok (.getfield 211, 3) := by decide +kernel
theorem dX8_note_9 : decode cX8_note 9 = .ok (.bipush 8, 2) := by decide +kernel
theorem dX8_note_11 : decode cX8_note 11 = .ok (.if_icmp .eq 30, 3) := by decide +kernel
theorem dX8_note_14 : decode cX8_note 14 = .ok (.iload_n 1, 1) := by decide +kernel
theorem dX8_note_15 : decode cX8_note 15 = .ok (.iconst 0, 1) := by decide +kernel
theorem dX8_note_16 : decode cX8_note 16 = .ok (.aload_n 0, 1) := by decide +kernel
theorem dX8_note_17 : decode cX8_note 17 = .ok (.getfield 36, 3) := by decide +kernel
theorem dX8_note_20 : decode cX8_note 20 = .ok (.iconst 2, 1) := by decide +kernel
theorem dX8_note_21 : decode cX8_note 21 = .ok (.iaload, 1) := by decide +kernel
theorem dX8_note_22 : decode cX8_note 22 = .ok (.iconst 1, 1) := by decide +kernel
theorem dX8_note_23 : decode cX8_note 23 = .ok (.isub, 1) := by decide +kernel
theorem dX8_note_24 : decode cX8_note 24 = .ok (.invokestatic 390, 3) := by decide +kernel
theorem dX8_note_27 : decode cX8_note 27 = .ok (.ifCond .eq 14, 3) := by decide +kernel
theorem dX8_note_30 : decode cX8_note 30 = .ok (.iload_n 2, 1) := by decide +kernel
theorem dX8_note_31 : decode cX8_note 31 = .ok (.iconst 0, 1) := by decide +kernel
theorem dX8_note_32 : decode cX8_note 32 = .ok (.sipush 199, 3) := by decide +kernel
theorem dX8_note_35 : decode cX8_note 35 = .ok (.invokestatic 390, 3) := by decide +kernel
theorem dX8_note_38 : decode cX8_note 38 = .ok (.ifCond .ne 9, 3) := by decide +kernel
theorem dX8_note_41 : decode cX8_note 41 = .ok (.aload_n 0, 1) := by decide +kernel
theorem dX8_note_42 : decode cX8_note 42 = .ok (.iconst 2, 1) := by decide +kernel
theorem dX8_note_43 : decode cX8_note 43 = .ok (.invokevirtual 402, 3) := by decide +kernel
theorem dX8_note_46 : decode cX8_note 46 = .ok (.ireturn, 1) := by decide +kernel
theorem dX8_note_47 : decode cX8_note 47 = .ok (.aload_n 0, 1) := by decide +kernel
theorem dX8_note_48 : decode cX8_note 48 = .ok (.getfield 70, 3) := by decide +kernel
theorem dX8_note_51 : decode cX8_note 51 = .ok (.aload_n 0, 1) := by decide +kernel
theorem dX8_note_52 : decode cX8_note 52 = .ok (.getfield 211, 3) := by decide +kernel
theorem dX8_note_55 : decode cX8_note 55 = .ok (.iload_n 1, 1) := by decide +kernel
theorem dX8_note_56 : decode cX8_note 56 = .ok (.iastore, 1) := by decide +kernel
theorem dX8_note_57 : decode cX8_note 57 = .ok (.aload_n 0, 1) := by decide +kernel
theorem dX8_note_58 : decode cX8_note 58 = .ok (.getfield 73, 3) := by decide +kernel
theorem dX8_note_61 : decode cX8_note 61 = .ok (.aload_n 0, 1) := by decide +kernel
theorem dX8_note_62 : decode cX8_note 62 = .ok (.getfield 211, 3) := by decide +kernel
theorem dX8_note_65 : decode cX8_note 65 = .ok (.iload_n 2, 1) := by decide +kernel
theorem dX8_note_66 : decode cX8_note 66 = .ok (.iastore, 1) := by decide +kernel
theorem dX8_note_67 : decode cX8_note 67 = .ok (.aload_n 0, 1) := by decide +kernel
theorem dX8_note_68 : decode cX8_note 68 = .ok (.dup, 1) := by decide +kernel
theorem dX8_note_69 : decode cX8_note 69 = .ok (.getfield 211, 3) := by decide +kernel
theorem dX8_note_72 : decode cX8_note 72 = .ok (.iconst 1, 1) := by decide +kernel
theorem dX8_note_73 : decode cX8_note 73 = .ok (.iadd, 1) := by decide +kernel
theorem dX8_note_74 : decode cX8_note 74 = .ok (.putfield 211, 3) := by decide +kernel
theorem dX8_note_77 : decode cX8_note 77 = .ok (.aload_n 0, 1) := by decide +kernel
theorem dX8_note_78 : decode cX8_note 78 = .ok (.getfield 211, 3) := by decide +kernel
theorem dX8_note_81 : decode cX8_note 81 = .ok (.ireturn, 1) := by decide +kernel
set_option maxRecDepth 20000 in
set_option maxHeartbeats 4000000 in
theorem vX8_note_0 {l : Launch} {x : CX} {a0 : Nat} {x1 : Int32} {x2 : Int32} {h : PH} {rc rs n0 : Nat} {Q : Option Value → PH → Prop} {X : String → PH → Prop}
    (K : ((hK h a0).1 = 8) ∧ (((hI h a0 26) = 8 → ∃ (q3 : Int32 → PH → Prop), CI l x mX8_refuse 0 0 0 [.ref a0, .int 2] (sI h a0 1 0) q3 ∧ ∀ (r6 : Int32) (h5 : PH), q3 r6 h5 → Q (some (.int r6)) h5) ∧ (¬ (hI h a0 26) = 8 → ∃ b7, (hR h a0 4 = some b7) ∧ ((hK h b7).1 = 100) ∧ (vp_in 2 (hK h b7).2) ∧ ∃ (q11 : Int32 → PH → Prop), CI l x mX8_isIn 0 0 0 [.int x1, .int 0, .int ((hI (sI h a0 1 0) b7 (Int32.toNatClampNeg 2)) - 1)] (sI h a0 1 0) q11 ∧ ∀ (r14 : Int32) (h13 : PH), q11 r14 h13 → ((r14 = 0 → ((hK h13 a0).1 = 8) ∧ ∃ (q16 : Int32 → PH → Prop), CI l x mX8_refuse 0 0 0 [.ref a0, .int 2] h13 q16 ∧ ∀ (r20 : Int32) (h19 : PH), q16 r20 h19 → Q (some (.int r20)) h19) ∧ (¬ r14 = 0 → ∃ (q21 : Int32 → PH → Prop), CI l x mX8_isIn 0 0 0 [.int x2, .int 0, .int 199] h13 q21 ∧ ∀ (r24 : Int32) (h23 : PH), q21 r24 h23 → ((¬ r24 = 0 → ((hK h23 a0).1 = 8) ∧ ∃ b27, (hR h23 a0 27 = some b27) ∧ ((hK h23 b27).1 = 100) ∧ (vp_in (hI h23 a0 26) (hK h23 b27).2) ∧ ∃ b31, (hR h23 a0 28 = some b31) ∧ ((hK h23 b31).1 = 100) ∧ (vp_in (hI (sI h23 b27 (hI h23 a0 26).toNatClampNeg x1) a0 26) (hK h23 b31).2) ∧ Q (some (.int (hI (sI (sI (sI h23 b27 (hI h23 a0 26).toNatClampNeg x1) b31 (hI (sI h23 b27 (hI h23 a0 26).toNatClampNeg x1) a0 26).toNatClampNeg x2) a0 26 ((hI (sI (sI h23 b27 (hI h23 a0 26).toNatClampNeg x1) b31 (hI (sI h23 b27 (hI h23 a0 26).toNatClampNeg x1) a0 26).toNatClampNeg x2) a0 26) + 1)) a0 26))) (sI (sI (sI h23 b27 (hI h23 a0 26).toNatClampNeg x1) b31 (hI (sI h23 b27 (hI h23 a0 26).toNatClampNeg x1) a0 26).toNatClampNeg x2) a0 26 ((hI (sI (sI h23 b27 (hI h23 a0 26).toNatClampNeg x1) b31 (hI (sI h23 b27 (hI h23 a0 26).toNatClampNeg x1) a0 26).toNatClampNeg x2) a0 26) + 1))) ∧ (r24 = 0 → ((hK h23 a0).1 = 8) ∧ ∃ (q35 : Int32 → PH → Prop), CI l x mX8_refuse 0 0 0 [.ref a0, .int 2] h23 q35 ∧ ∀ (r39 : Int32) (h38 : PH), q35 r39 h38 → Q (some (.int r39)) h38))))))) :
    Gm l x mX8_note 1 0 [(0, .ref a0), (1, .int x1), (2, .int x2)] [] h rc rs n0 Q X := by
  refine g_aload_n dX8_note_0 rfl 0 rfl ?_
  refine g_iconst (v := 0) dX8_note_1 (by decide) ?_
  obtain ⟨e1, K⟩ := K
  refine g_puti (c := 8) (k := 1) dX8_note_2 fc_8 (by decide) (by decide) bw_1199 (Or.inl rfl) rfl e1 ?_
  refine g_aload_n dX8_note_5 rfl 0 rfl ?_
  refine g_get (c := 8) (k := 26) (v := .int (hI h a0 26)) dX8_note_6 fc_8 (by decide) (by decide) bw_1224 (congrArg Value.int ((skI (by decide)).trans rfl)) (kkI e1) ?_
  refine g_bipush (v := 8) dX8_note_9 (by decide) ?_
  refine g_icmp_eq (tgt := 41) dX8_note_11 (by decide) (fun c2 => ?_) (fun c2 => ?_)
  · replace K := K.1 c2
    refine g_aload_n dX8_note_41 rfl 0 rfl ?_
    refine g_iconst (v := 2) dX8_note_42 (by decide) ?_
    obtain ⟨q3, C4, K⟩ := K
    refine g_callV (M' := mX8_refuse) (b := a0) (As := [.int 2]) (rest := []) (rc' := rc) (rs' := rs) dX8_note_43 bw_1639 bw_1641 bs_97 bw_9 bw_1642 ⟨by decide +kernel, by decide +kernel, show (parseMethodDescriptor mX8_refuse.1.desc).map (fun d => d.parameters.length) = some 1 by decide +kernel⟩ (by decide) (by decide) (Nat.le_of_ble_eq_true rfl) fc_8 (by decide) rfl (kkI e1) C4 (Nat.le_of_eq (Nat.add_zero _)) (Nat.le_of_eq (Nat.add_zero _)) (fun _ _ h => h) ?_
    rintro _ h5 ⟨r6, rfl, K1⟩ -
    replace K := K r6 h5 K1
    show Gm l x mX8_note 1 46 [(0, .ref a0), (1, .int x1), (2, .int x2)] [.int r6] h5 rc rs n0 Q X
    exact g_iret dX8_note_46 rfl K
  · replace K := K.2 c2
    refine g_iload_n dX8_note_14 rfl 1 rfl ?_
    refine g_iconst (v := 0) dX8_note_15 (by decide) ?_
    refine g_aload_n dX8_note_16 rfl 0 rfl ?_
    obtain ⟨b7, e8, K⟩ := K
    refine g_get (c := 8) (k := 4) (v := .ref b7) dX8_note_17 fc_8 (by decide) (by decide) bw_1202 (congrArg pr (krI e8)) (kkI e1) ?_
    refine g_iconst (v := 2) dX8_note_20 (by decide) ?_
    obtain ⟨e9, e10, K⟩ := K
    refine g_iald dX8_note_21 (kkI e9) (kvI e10) ?_
    refine g_iconst (v := 1) dX8_note_22 (by decide) ?_
    refine g_isub dX8_note_23 ?_
    obtain ⟨q11, C12, K⟩ := K
    refine g_callS (M' := mX8_isIn) (As := [.int x1, .int 0, .int ((hI (sI h a0 1 0) b7 (Int32.toNatClampNeg 2)) - 1)]) (rest := []) (rc' := rc) (rs' := rs) dX8_note_24 bw_1612 bw_1613 bw_9 bw_1614 ⟨by decide +kernel, by decide +kernel, show (parseMethodDescriptor mX8_isIn.1.desc).map (fun d => d.parameters.length) = some 3 by decide +kernel⟩ (by decide) (by decide) (Nat.le_of_ble_eq_true rfl) C12 (Nat.le_of_eq (Nat.add_zero _)) (Nat.le_of_eq (Nat.add_zero _)) (fun _ _ h => h) ?_
    rintro _ h13 ⟨r14, rfl, K1⟩ -
    replace K := K r14 h13 K1
    show Gm l x mX8_note 1 27 [(0, .ref a0), (1, .int x1), (2, .int x2)] [.int r14] h13 rc rs n0 Q X
    refine g_if_eq (tgt := 41) dX8_note_27 (by decide) (fun c15 => ?_) (fun c15 => ?_)
    · replace K := K.1 c15
      refine g_aload_n dX8_note_41 rfl 0 rfl ?_
      refine g_iconst (v := 2) dX8_note_42 (by decide) ?_
      obtain ⟨e18, K⟩ := K
      obtain ⟨q16, C17, K⟩ := K
      refine g_callV (M' := mX8_refuse) (b := a0) (As := [.int 2]) (rest := []) (rc' := rc) (rs' := rs) dX8_note_43 bw_1639 bw_1641 bs_97 bw_9 bw_1642 ⟨by decide +kernel, by decide +kernel, show (parseMethodDescriptor mX8_refuse.1.desc).map (fun d => d.parameters.length) = some 1 by decide +kernel⟩ (by decide) (by decide) (Nat.le_of_ble_eq_true rfl) fc_8 (by decide) rfl e18 C17 (Nat.le_of_eq (Nat.add_zero _)) (Nat.le_of_eq (Nat.add_zero _)) (fun _ _ h => h) ?_
      rintro _ h19 ⟨r20, rfl, K1⟩ -
      replace K := K r20 h19 K1
      show Gm l x mX8_note 1 46 [(0, .ref a0), (1, .int x1), (2, .int x2)] [.int r20] h19 rc rs n0 Q X
      exact g_iret dX8_note_46 rfl K
    · replace K := K.2 c15
      refine g_iload_n dX8_note_30 rfl 2 rfl ?_
      refine g_iconst (v := 0) dX8_note_31 (by decide) ?_
      refine g_sipush (v := 199) dX8_note_32 (by decide) ?_
      obtain ⟨q21, C22, K⟩ := K
      refine g_callS (M' := mX8_isIn) (As := [.int x2, .int 0, .int 199]) (rest := []) (rc' := rc) (rs' := rs) dX8_note_35 bw_1612 bw_1613 bw_9 bw_1614 ⟨by decide +kernel, by decide +kernel, show (parseMethodDescriptor mX8_isIn.1.desc).map (fun d => d.parameters.length) = some 3 by decide +kernel⟩ (by decide) (by decide) (Nat.le_of_ble_eq_true rfl) C22 (Nat.le_of_eq (Nat.add_zero _)) (Nat.le_of_eq (Nat.add_zero _)) (fun _ _ h => h) ?_
      rintro _ h23 ⟨r24, rfl, K1⟩ -
      replace K := K r24 h23 K1
      show Gm l x mX8_note 1 38 [(0, .ref a0), (1, .int x1), (2, .int x2)] [.int r24] h23 rc rs n0 Q X
      refine g_if_ne (tgt := 47) dX8_note_38 (by decide) (fun c25 => ?_) (fun c25 => ?_)
      · replace K := K.1 c25
        refine g_aload_n dX8_note_47 rfl 0 rfl ?_
        obtain ⟨e26, b27, e28, K⟩ := K
        refine g_get (c := 8) (k := 27) (v := .ref b27) dX8_note_48 fc_8 (by decide) (by decide) bw_1225 (congrArg pr e28) e26 ?_
        refine g_aload_n dX8_note_51 rfl 0 rfl ?_
        refine g_get (c := 8) (k := 26) (v := .int (hI h23 a0 26)) dX8_note_52 fc_8 (by decide) (by decide) bw_1224 rfl e26 ?_
        refine g_iload_n dX8_note_55 rfl 1 rfl ?_
        obtain ⟨e29, e30, K⟩ := K
        refine g_iast dX8_note_56 e29 e30 ?_
        refine g_aload_n dX8_note_57 rfl 0 rfl ?_
        obtain ⟨b31, e32, K⟩ := K
        refine g_get (c := 8) (k := 28) (v := .ref b31) dX8_note_58 fc_8 (by decide) (by decide) bw_1226 (congrArg pr (krI e32)) (kkI e26) ?_
        refine g_aload_n dX8_note_61 rfl 0 rfl ?_
        refine g_get (c := 8) (k := 26) (v := .int (hI (sI h23 b27 (hI h23 a0 26).toNatClampNeg x1) a0 26)) dX8_note_62 fc_8 (by decide) (by decide) bw_1224 rfl (kkI e26) ?_
        refine g_iload_n dX8_note_65 rfl 2 rfl ?_
        obtain ⟨e33, e34, K⟩ := K
        refine g_iast dX8_note_66 (kkI e33) (kvI e34) ?_
        refine g_aload_n dX8_note_67 rfl 0 rfl ?_
        refine g_dup dX8_note_68 rfl ?_
        refine g_get (c := 8) (k := 26) (v := .int (hI (sI (sI h23 b27 (hI h23 a0 26).toNatClampNeg x1) b31 (hI (sI h23 b27 (hI h23 a0 26).toNatClampNeg x1) a0 26).toNatClampNeg x2) a0 26)) dX8_note_69 fc_8 (by decide) (by decide) bw_1224 rfl (kkI (kkI e26)) ?_
        refine g_iconst (v := 1) dX8_note_72 (by decide) ?_
        refine g_iadd dX8_note_73 ?_
        refine g_puti (c := 8) (k := 26) dX8_note_74 fc_8 (by decide) (by decide) bw_1224 (Or.inl rfl) rfl (kkI (kkI e26)) ?_
        refine g_aload_n dX8_note_77 rfl 0 rfl ?_
        refine g_get (c := 8) (k := 26) (v := .int (hI (sI (sI (sI h23 b27 (hI h23 a0 26).toNatClampNeg x1) b31 (hI (sI h23 b27 (hI h23 a0 26).toNatClampNeg x1) a0 26).toNatClampNeg x2) a0 26 ((hI (sI (sI h23 b27 (hI h23 a0 26).toNatClampNeg x1) b31 (hI (sI h23 b27 (hI h23 a0 26).toNatClampNeg x1) a0 26).toNatClampNeg x2) a0 26) + 1)) a0 26)) dX8_note_78 fc_8 (by decide) (by decide) bw_1224 rfl (kkI (kkI (kkI e26))) ?_
        exact g_iret dX8_note_81 rfl K
      · replace K := K.2 c25
        refine g_aload_n dX8_note_41 rfl 0 rfl ?_
        refine g_iconst (v := 2) dX8_note_42 (by decide) ?_
        obtain ⟨e37, K⟩ := K
        obtain ⟨q35, C36, K⟩ := K
        refine g_callV (M' := mX8_refuse) (b := a0) (As := [.int 2]) (rest := []) (rc' := rc) (rs' := rs) dX8_note_43 bw_1639 bw_1641 bs_97 bw_9 bw_1642 ⟨by decide +kernel, by decide +kernel, show (parseMethodDescriptor mX8_refuse.1.desc).map (fun d => d.parameters.length) = some 1 by decide +kernel⟩ (by decide) (by decide) (Nat.le_of_ble_eq_true rfl) fc_8 (by decide) rfl e37 C36 (Nat.le_of_eq (Nat.add_zero _)) (Nat.le_of_eq (Nat.add_zero _)) (fun _ _ h => h) ?_
        rintro _ h38 ⟨r39, rfl, K1⟩ -
        replace K := K r39 h38 K1
        show Gm l x mX8_note 1 46 [(0, .ref a0), (1, .int x1), (2, .int x2)] [.int r39] h38 rc rs n0 Q X
        exact g_iret dX8_note_46 rfl K
theorem dX8_image_0 : decode cX8_image 0 = .ok (.aload_n 0, 1) := by decide +kernel
theorem dX8_image_1 : decode cX8_image 1 = .ok (.iconst 0, 1) := by decide +kernel
theorem dX8_image_2 : decode cX8_image 2 = .ok (.putfield 104, 3) := by decide +kernel
theorem dX8_image_5 : decode cX8_image 5 = .ok (.aload_n 0, 1) := by decide +kernel
theorem dX8_image_6 : decode cX8_image 6 = .ok (.iconst 1, 1) := by decide +kernel
theorem dX8_image_7 : decode cX8_image 7 = .ok (.putfield 214, 3) := by decide +kernel
theorem dX8_image_10 : decode cX8_image 10 = .ok (.aload_n 0, 1) := by decide +kernel
theorem dX8_image_11 : decode cX8_image 11 = .ok (.aload_n 0, 1) := by decide +kernel
theorem dX8_image_12 : decode cX8_image 12 = .ok (.getfield 208, 3) := by decide +kernel
theorem dX8_image_15 : decode cX8_image 15 = .ok (.putfield 442, 3) := by decide +kernel
theorem dX8_image_18 : decode cX8_image 18 = .ok (.aload_n 0, 1) := by decide +kernel
theorem dX8_image_19 : decode cX8_image 19 = .ok (.aload_n 0, 1) := by decide +kernel
theorem dX8_image_20 : decode cX8_image 20 = .ok (.getfield 211, 3) := by decide +kernel
theorem dX8_image_23 : decode cX8_image 23 = .ok (.putfield 445, 3) := by decide +kernel
theorem dX8_image_26 : decode cX8_image 26 = .ok (.aload_n 0, 1) := by decide +kernel
theorem dX8_image_27 : decode cX8_image 27 = .ok (.getfield 82, 3) := by decide +kernel
theorem dX8_image_30 : decode cX8_image 30 = .ok (.aload_n 0, 1) := by decide +kernel
theorem dX8_image_31 : decode cX8_image 31 = .ok (.getfield 29, 3) := by decide +kernel
theorem dX8_image_34 : decode cX8_image 34 = .ok (.invokestatic 204, 3) := by decide +kernel
theorem dX8_image_37 : decode cX8_image 37 = .ok (.aload_n 0, 1) := by decide +kernel
theorem dX8_image_38 : decode cX8_image 38 = .ok (.getfield 85, 3) := by decide +kernel
theorem dX8_image_41 : decode cX8_image 41 = .ok (.aload_n 0, 1) := by decide +kernel
theorem dX8_image_42 : decode cX8_image 42 = .ok (.getfield 67, 3) := by decide +kernel
theorem dX8_image_45 : decode cX8_image 45 = .ok (.invokestatic 204, 3) := by decide +kernel
theorem dX8_image_48 : decode cX8_image 48 = .ok (.aload_n 0, 1) := by decide +kernel
theorem dX8_image_49 : decode cX8_image 49 = .ok (.getfield 88, 3) := by decide +kernel
theorem dX8_image_52 : decode cX8_image 52 = .ok (.aload_n 0, 1) := by decide +kernel
theorem dX8_image_53 : decode cX8_image 53 = .ok (.getfield 70, 3) := by decide +kernel
theorem dX8_image_56 : decode cX8_image 56 = .ok (.invokestatic 204, 3) := by decide +kernel
theorem dX8_image_59 : decode cX8_image 59 = .ok (.aload_n 0, 1) := by decide +kernel
theorem dX8_image_60 : decode cX8_image 60 = .ok (.getfield 91, 3) := by decide +kernel
theorem dX8_image_63 : decode cX8_image 63 = .ok (.aload_n 0, 1) := by decide +kernel
theorem dX8_image_64 : decode cX8_image 64 = .ok (.getfield 73, 3) := by decide +kernel
theorem dX8_image_67 : decode cX8_image 67 = .ok (.invokestatic 204, 3) := by decide +kernel
theorem dX8_image_70 : decode cX8_image 70 = .ok (.aload_n 0, 1) := by decide +kernel
theorem dX8_image_71 : decode cX8_image 71 = .ok (.getfield 94, 3) := by decide +kernel
theorem dX8_image_74 : decode cX8_image 74 = .ok (.aload_n 0, 1) := by decide +kernel
theorem dX8_image_75 : decode cX8_image 75 = .ok (.getfield 33, 3) := by decide +kernel
theorem dX8_image_78 : decode cX8_image 78 = .ok (.invokestatic 204, 3) := by decide +kernel
theorem dX8_image_81 : decode cX8_image 81 = .ok (.return_, 1) := by decide +kernel
set_option maxRecDepth 20000 in
set_option maxHeartbeats 4000000 in
theorem vX8_image_0 {l : Launch} {x : CX} {a0 : Nat} {h : PH} {rc rs n0 : Nat} {Q : Option Value → PH → Prop} {X : String → PH → Prop}
    (K : ((hK h a0).1 = 8) ∧ ∃ b2, (hR h a0 37 = some b2) ∧ ∃ b4, (hR h a0 2 = some b4) ∧ ∃ (q6 : PH → Prop), CV l x mX8_copyTo 0 0 0 [.ref b2, .ref b4] (sI (sI (sI (sI h a0 1 0) a0 34 1) a0 35 (hI h a0 24)) a0 36 (hI h a0 26)) q6 ∧ ∀ (h8 : PH), q6 h8 → ((hK h8 a0).1 = 8) ∧ ∃ b10, (hR h8 a0 38 = some b10) ∧ ∃ b12, (hR h8 a0 25 = some b12) ∧ ∃ (q14 : PH → Prop), CV l x mX8_copyTo 0 0 0 [.ref b10, .ref b12] h8 q14 ∧ ∀ (h16 : PH), q14 h16 → ((hK h16 a0).1 = 8) ∧ ∃ b18, (hR h16 a0 39 = some b18) ∧ ∃ b20, (hR h16 a0 27 = some b20) ∧ ∃ (q22 : PH → Prop), CV l x mX8_copyTo 0 0 0 [.ref b18, .ref b20] h16 q22 ∧ ∀ (h24 : PH), q22 h24 → ((hK h24 a0).1 = 8) ∧ ∃ b26, (hR h24 a0 40 = some b26) ∧ ∃ b28, (hR h24 a0 28 = some b28) ∧ ∃ (q30 : PH → Prop), CV l x mX8_copyTo 0 0 0 [.ref b26, .ref b28] h24 q30 ∧ ∀ (h32 : PH), q30 h32 → ((hK h32 a0).1 = 8) ∧ ∃ b34, (hR h32 a0 41 = some b34) ∧ ∃ b36, (hR h32 a0 3 = some b36) ∧ ∃ (q38 : PH → Prop), CV l x mX8_copyTo 0 0 0 [.ref b34, .ref b36] h32 q38 ∧ ∀ (h40 : PH), q38 h40 → Q none h40) :
    Gm l x mX8_image 1 0 [(0, .ref a0)] [] h rc rs n0 Q X := by
  refine g_aload_n dX8_image_0 rfl 0 rfl ?_
  refine g_iconst (v := 0) dX8_image_1 (by decide) ?_
  obtain ⟨e1, K⟩ := K
  refine g_puti (c := 8) (k := 1) dX8_image_2 fc_8 (by decide) (by decide) bw_1199 (Or.inl rfl) rfl e1 ?_
  refine g_aload_n dX8_image_5 rfl 0 rfl ?_
  refine g_iconst (v := 1) dX8_image_6 (by decide) ?_
  refine g_putz (c := 8) (k := 34) dX8_image_7 fc_8 (by decide) (by decide) bw_1232 (Or.inl rfl) rfl (by decide) (kkI e1) ?_
  refine g_aload_n dX8_image_10 rfl 0 rfl ?_
  refine g_aload_n dX8_image_11 rfl 0 rfl ?_
  refine g_get (c := 8) (k := 24) (v := .int (hI h a0 24)) dX8_image_12 fc_8 (by decide) (by decide) bw_1222 (congrArg Value.int ((skI (by decide)).trans ((skI (by decide)).trans rfl))) (kkI (kkI e1)) ?_
  refine g_puti (c := 8) (k := 35) dX8_image_15 fc_8 (by decide) (by decide) bw_1233 (Or.inl rfl) rfl (kkI (kkI e1)) ?_
  refine g_aload_n dX8_image_18 rfl 0 rfl ?_
  refine g_aload_n dX8_image_19 rfl 0 rfl ?_
  refine g_get (c := 8) (k := 26) (v := .int (hI h a0 26)) dX8_image_20 fc_8 (by decide) (by decide) bw_1224 (congrArg Value.int ((skI (by decide)).trans ((skI (by decide)).trans ((skI (by decide)).trans rfl)))) (kkI (kkI (kkI e1))) ?_
  refine g_puti (c := 8) (k := 36) dX8_image_23 fc_8 (by decide) (by decide) bw_1234 (Or.inl rfl) rfl (kkI (kkI (kkI e1))) ?_
  refine g_aload_n dX8_image_26 rfl 0 rfl ?_
  obtain ⟨b2, e3, K⟩ := K
  refine g_get (c := 8) (k := 37) (v := .ref b2) dX8_image_27 fc_8 (by decide) (by decide) bw_1235 (congrArg pr (krI (krI (krI (krI e3))))) (kkI (kkI (kkI (kkI e1)))) ?_
  refine g_aload_n dX8_image_30 rfl 0 rfl ?_
  obtain ⟨b4, e5, K⟩ := K
  refine g_get (c := 8) (k := 2) (v := .ref b4) dX8_image_31 fc_8 (by decide) (by decide) bw_1200 (congrArg pr (krI (krI (krI (krI e5))))) (kkI (kkI (kkI (kkI e1)))) ?_
  obtain ⟨q6, C7, K⟩ := K
  refine g_callS (M' := mX8_copyTo) (As := [.ref b2, .ref b4]) (rest := []) (rc' := rc) (rs' := rs) dX8_image_34 bw_1398 bw_1399 bw_9 bw_1400 ⟨by decide +kernel, by decide +kernel, show (parseMethodDescriptor mX8_copyTo.1.desc).map (fun d => d.parameters.length) = some 2 by decide +kernel⟩ (by decide) (by decide) (Nat.le_of_ble_eq_true rfl) C7 (Nat.le_of_eq (Nat.add_zero _)) (Nat.le_of_eq (Nat.add_zero _)) (fun _ _ h => h) ?_
  rintro _ h8 ⟨rfl, K1⟩ -
  replace K := K h8 K1
  show Gm l x mX8_image 1 37 [(0, .ref a0)] [] h8 rc rs n0 Q X
  refine g_aload_n dX8_image_37 rfl 0 rfl ?_
  obtain ⟨e9, b10, e11, K⟩ := K
  refine g_get (c := 8) (k := 38) (v := .ref b10) dX8_image_38 fc_8 (by decide) (by decide) bw_1236 (congrArg pr e11) e9 ?_
  refine g_aload_n dX8_image_41 rfl 0 rfl ?_
  obtain ⟨b12, e13, K⟩ := K
  refine g_get (c := 8) (k := 25) (v := .ref b12) dX8_image_42 fc_8 (by decide) (by decide) bw_1223 (congrArg pr e13) e9 ?_
  obtain ⟨q14, C15, K⟩ := K
  refine g_callS (M' := mX8_copyTo) (As := [.ref b10, .ref b12]) (rest := []) (rc' := rc) (rs' := rs) dX8_image_45 bw_1398 bw_1399 bw_9 bw_1400 ⟨by decide +kernel, by decide +kernel, show (parseMethodDescriptor mX8_copyTo.1.desc).map (fun d => d.parameters.length) = some 2 by decide +kernel⟩ (by decide) (by decide) (Nat.le_of_ble_eq_true rfl) C15 (Nat.le_of_eq (Nat.add_zero _)) (Nat.le_of_eq (Nat.add_zero _)) (fun _ _ h => h) ?_
  rintro _ h16 ⟨rfl, K1⟩ -
  replace K := K h16 K1
  show Gm l x mX8_image 1 48 [(0, .ref a0)] [] h16 rc rs n0 Q X
  refine g_aload_n dX8_image_48 rfl 0 rfl ?_
  obtain ⟨e17, b18, e19, K⟩ := K
  refine g_get (c := 8) (k := 39) (v := .ref b18) dX8_image_49 fc_8 (by decide) (by decide) bw_1237 (congrArg pr e19) e17 ?_
  refine g_aload_n dX8_image_52 rfl 0 rfl ?_
  obtain ⟨b20, e21, K⟩ := K
  refine g_get (c := 8) (k := 27) (v := .ref b20) dX8_image_53 fc_8 (by decide) (by decide) bw_1225 (congrArg pr e21) e17 ?_
  obtain ⟨q22, C23, K⟩ := K
  refine g_callS (M' := mX8_copyTo) (As := [.ref b18, .ref b20]) (rest := []) (rc' := rc) (rs' := rs) dX8_image_56 bw_1398 bw_1399 bw_9 bw_1400 ⟨by decide +kernel, by decide +kernel, show (parseMethodDescriptor mX8_copyTo.1.desc).map (fun d => d.parameters.length) = some 2 by decide +kernel⟩ (by decide) (by decide) (Nat.le_of_ble_eq_true rfl) C23 (Nat.le_of_eq (Nat.add_zero _)) (Nat.le_of_eq (Nat.add_zero _)) (fun _ _ h => h) ?_
  rintro _ h24 ⟨rfl, K1⟩ -
  replace K := K h24 K1
  show Gm l x mX8_image 1 59 [(0, .ref a0)] [] h24 rc rs n0 Q X
  refine g_aload_n dX8_image_59 rfl 0 rfl ?_
  obtain ⟨e25, b26, e27, K⟩ := K
  refine g_get (c := 8) (k := 40) (v := .ref b26) dX8_image_60 fc_8 (by decide) (by decide) bw_1238 (congrArg pr e27) e25 ?_
  refine g_aload_n dX8_image_63 rfl 0 rfl ?_
  obtain ⟨b28, e29, K⟩ := K
  refine g_get (c := 8) (k := 28) (v := .ref b28) dX8_image_64 fc_8 (by decide) (by decide) bw_1226 (congrArg pr e29) e25 ?_
  obtain ⟨q30, C31, K⟩ := K
  refine g_callS (M' := mX8_copyTo) (As := [.ref b26, .ref b28]) (rest := []) (rc' := rc) (rs' := rs) dX8_image_67 bw_1398 bw_1399 bw_9 bw_1400 ⟨by decide +kernel, by decide +kernel, show (parseMethodDescriptor mX8_copyTo.1.desc).map (fun d => d.parameters.length) = some 2 by decide +kernel⟩ (by decide) (by decide) (Nat.le_of_ble_eq_true rfl) C31 (Nat.le_of_eq (Nat.add_zero _)) (Nat.le_of_eq (Nat.add_zero _)) (fun _ _ h => h) ?_
  rintro _ h32 ⟨rfl, K1⟩ -
  replace K := K h32 K1
  show Gm l x mX8_image 1 70 [(0, .ref a0)] [] h32 rc rs n0 Q X
  refine g_aload_n dX8_image_70 rfl 0 rfl ?_
  obtain ⟨e33, b34, e35, K⟩ := K
  refine g_get (c := 8) (k := 41) (v := .ref b34) dX8_image_71 fc_8 (by decide) (by decide) bw_1239 (congrArg pr e35) e33 ?_
  refine g_aload_n dX8_image_74 rfl 0 rfl ?_
  obtain ⟨b36, e37, K⟩ := K
  refine g_get (c := 8) (k := 3) (v := .ref b36) dX8_image_75 fc_8 (by decide) (by decide) bw_1201 (congrArg pr e37) e33 ?_
  obtain ⟨q38, C39, K⟩ := K
  refine g_callS (M' := mX8_copyTo) (As := [.ref b34, .ref b36]) (rest := []) (rc' := rc) (rs' := rs) dX8_image_78 bw_1398 bw_1399 bw_9 bw_1400 ⟨by decide +kernel, by decide +kernel, show (parseMethodDescriptor mX8_copyTo.1.desc).map (fun d => d.parameters.length) = some 2 by decide +kernel⟩ (by decide) (by decide) (Nat.le_of_ble_eq_true rfl) C39 (Nat.le_of_eq (Nat.add_zero _)) (Nat.le_of_eq (Nat.add_zero _)) (fun _ _ h => h) ?_
  rintro _ h40 ⟨rfl, K1⟩ -
  replace K := K h40 K1
  show Gm l x mX8_image 1 81 [(0, .ref a0)] [] h40 rc rs n0 Q X
  exact g_vret dX8_image_81 rfl K
theorem dX8_restore_0 : decode cX8_restore 0 = .ok (.aload_n 0, 1) := by decide +kernel
theorem dX8_restore_1 : decode cX8_restore 1 = .ok (.iconst 0, 1) := by decide +kernel
theorem dX8_restore_2 : decode cX8_restore 2 = .ok (.putfield 104, 3) := by decide +kernel
theorem dX8_restore_5 : decode cX8_restore 5 = .ok (.aload_n 0, 1) := by decide +kernel
theorem dX8_restore_6 : decode cX8_restore 6 = .ok (.getfield 214, 3) := by decide +kernel
theorem dX8_restore_9 : decode cX8_restore 9 = .ok (.ifCond .ne 5, 3) := by decide +kernel
theorem dX8_restore_12 : decode cX8_restore 12 = .ok (.iconst 0, 1) := by decide +kernel
theorem dX8_restore_13 : decode cX8_restore 13 = .ok (.ireturn, 1) := by decide +kernel
theorem dX8_restore_14 : decode cX8_restore 14 = .ok (.aload_n 0, 1) := by decide +kernel
theorem dX8_restore_15 : decode cX8_restore 15 = .ok (.aload_n 0, 1) := by decide +kernel
theorem dX8_restore_16 : decode cX8_restore 16 = .ok (.getfield 442, 3) := by decide +kernel
theorem dX8_restore_19 : decode cX8_restore 19 = .ok (.putfield 208, 3) := by decide +kernel
theorem dX8_restore_22 : decode cX8_restore 22 = .ok (.aload_n 0, 1) := by decide +kernel
theorem dX8_restore_23 : decode cX8_restore 23 = .ok (.aload_n 0, 1) := by decide +kernel
theorem dX8_restore_24 : decode cX8_restore 24 = .ok (.getfield 445, 3) := by decide +kernel
theorem dX8_restore_27 : decode cX8_restore 27 = .ok (.putfield 211, 3) := by decide +kernel
theorem dX8_restore_30 : decode cX8_restore 30 = .ok (.aload_n 0, 1) := by decide +kernel
theorem dX8_restore_31 : decode cX8_restore 31 = .ok (.getfield 29, 3) := by decide +kernel
theorem dX8_restore_34 : decode cX8_restore 34 = .ok (.aload_n 0, 1) := by decide +kernel
theorem dX8_restore_35 : decode cX8_restore 35 = .ok (.getfield 82, 3) := by decide +kernel
theorem dX8_restore_38 : decode cX8_restore 38 = .ok (.invokestatic 204, 3) := by decide +kernel
theorem dX8_restore_41 : decode cX8_restore 41 = .ok (.aload_n 0, 1) := by decide +kernel
theorem dX8_restore_42 : decode cX8_restore 42 = .ok (.getfield 67, 3) := by decide +kernel
theorem dX8_restore_45 : decode cX8_restore 45 = .ok (.aload_n 0, 1) := by decide +kernel
theorem dX8_restore_46 : decode cX8_restore 46 = .ok (.getfield 85, 3) := by decide +kernel
theorem dX8_restore_49 : decode cX8_restore 49 = .ok (.invokestatic 204, 3) := by decide +kernel
theorem dX8_restore_52 : decode cX8_restore 52 = .ok (.aload_n 0, 1) := by decide +kernel
theorem dX8_restore_53 : decode cX8_restore 53 = .ok (.getfield 70, 3) := by decide +kernel
theorem dX8_restore_56 : decode cX8_restore 56 = .ok (.aload_n 0, 1) := by decide +kernel
theorem dX8_restore_57 : decode cX8_restore 57 = .ok (.getfield 88, 3) := by decide +kernel
theorem dX8_restore_60 : decode cX8_restore 60 = .ok (.invokestatic 204, 3) := by decide +kernel
theorem dX8_restore_63 : decode cX8_restore 63 = .ok (.aload_n 0, 1) := by decide +kernel
theorem dX8_restore_64 : decode cX8_restore 64 = .ok (.getfield 73, 3) := by decide +kernel
theorem dX8_restore_67 : decode cX8_restore 67 = .ok (.aload_n 0, 1) := by decide +kernel
theorem dX8_restore_68 : decode cX8_restore 68 = .ok (.getfield 91, 3) := by decide +kernel
theorem dX8_restore_71 : decode cX8_restore 71 = .ok (.invokestatic 204, 3) := by decide +kernel
theorem dX8_restore_74 : decode cX8_restore 74 = .ok (.aload_n 0, 1) := by decide +kernel
theorem dX8_restore_75 : decode cX8_restore 75 = .ok (.getfield 33, 3) := by decide +kernel
theorem dX8_restore_78 : decode cX8_restore 78 = .ok (.aload_n 0, 1) := by decide +kernel
theorem dX8_restore_79 : decode cX8_restore 79 = .ok (.getfield 94, 3) := by decide +kernel
theorem dX8_restore_82 : decode cX8_restore 82 = .ok (.invokestatic 204, 3) := by decide +kernel
theorem dX8_restore_85 : decode cX8_restore 85 = .ok (.iconst 1, 1) := by decide +kernel
theorem dX8_restore_86 : decode cX8_restore 86 = .ok (.ireturn, 1) := by decide +kernel
set_option maxRecDepth 20000 in
set_option maxHeartbeats 4000000 in
theorem vX8_restore_0 {l : Launch} {x : CX} {a0 : Nat} {h : PH} {rc rs n0 : Nat} {Q : Option Value → PH → Prop} {X : String → PH → Prop}
    (K : ((hK h a0).1 = 8) ∧ ((¬ (hI h a0 34) = 0 → ∃ b3, (hR h a0 2 = some b3) ∧ ∃ b5, (hR h a0 37 = some b5) ∧ ∃ (q7 : PH → Prop), CV l x mX8_copyTo 0 0 0 [.ref b3, .ref b5] (sI (sI (sI h a0 1 0) a0 24 (hI h a0 35)) a0 26 (hI h a0 36)) q7 ∧ ∀ (h9 : PH), q7 h9 → ((hK h9 a0).1 = 8) ∧ ∃ b11, (hR h9 a0 25 = some b11) ∧ ∃ b13, (hR h9 a0 38 = some b13) ∧ ∃ (q15 : PH → Prop), CV l x mX8_copyTo 0 0 0 [.ref b11, .ref b13] h9 q15 ∧ ∀ (h17 : PH), q15 h17 → ((hK h17 a0).1 = 8) ∧ ∃ b19, (hR h17 a0 27 = some b19) ∧ ∃ b21, (hR h17 a0 39 = some b21) ∧ ∃ (q23 : PH → Prop), CV l x mX8_copyTo 0 0 0 [.ref b19, .ref b21] h17 q23 ∧ ∀ (h25 : PH), q23 h25 → ((hK h25 a0).1 = 8) ∧ ∃ b27, (hR h25 a0 28 = some b27) ∧ ∃ b29, (hR h25 a0 40 = some b29) ∧ ∃ (q31 : PH → Prop), CV l x mX8_copyTo 0 0 0 [.ref b27, .ref b29] h25 q31 ∧ ∀ (h33 : PH), q31 h33 → ((hK h33 a0).1 = 8) ∧ ∃ b35, (hR h33 a0 3 = some b35) ∧ ∃ b37, (hR h33 a0 41 = some b37) ∧ ∃ (q39 : PH → Prop), CV l x mX8_copyTo 0 0 0 [.ref b35, .ref b37] h33 q39 ∧ ∀ (h41 : PH), q39 h41 → ((1 : Int32) = 0 ∨ (1 : Int32) = 1) ∧ Q (some (.int 1)) h41) ∧ ((hI h a0 34) = 0 → ((0 : Int32) = 0 ∨ (0 : Int32) = 1) ∧ Q (some (.int 0)) (sI h a0 1 0)))) :
    Gm l x mX8_restore 1 0 [(0, .ref a0)] [] h rc rs n0 Q X := by
  refine g_aload_n dX8_restore_0 rfl 0 rfl ?_
  refine g_iconst (v := 0) dX8_restore_1 (by decide) ?_
  obtain ⟨e1, K⟩ := K
  refine g_puti (c := 8) (k := 1) dX8_restore_2 fc_8 (by decide) (by decide) bw_1199 (Or.inl rfl) rfl e1 ?_
  refine g_aload_n dX8_restore_5 rfl 0 rfl ?_
  refine g_get (c := 8) (k := 34) (v := .int (hI h a0 34)) dX8_restore_6 fc_8 (by decide) (by decide) bw_1232 (congrArg Value.int ((skI (by decide)).trans rfl)) (kkI e1) ?_
  refine g_if_ne (tgt := 14) dX8_restore_9 (by decide) (fun c2 => ?_) (fun c2 => ?_)
  · replace K := K.1 c2
    refine g_aload_n dX8_restore_14 rfl 0 rfl ?_
    refine g_aload_n dX8_restore_15 rfl 0 rfl ?_
    refine g_get (c := 8) (k := 35) (v := .int (hI h a0 35)) dX8_restore_16 fc_8 (by decide) (by decide) bw_1233 (congrArg Value.int ((skI (by decide)).trans rfl)) (kkI e1) ?_
    refine g_puti (c := 8) (k := 24) dX8_restore_19 fc_8 (by decide) (by decide) bw_1222 (Or.inl rfl) rfl (kkI e1) ?_
    refine g_aload_n dX8_restore_22 rfl 0 rfl ?_
    refine g_aload_n dX8_restore_23 rfl 0 rfl ?_
    refine g_get (c := 8) (k := 36) (v := .int (hI h a0 36)) dX8_restore_24 fc_8 (by decide) (by decide) bw_1234 (congrArg Value.int ((skI (by decide)).trans ((skI (by decide)).trans rfl))) (kkI (kkI e1)) ?_
    refine g_puti (c := 8) (k := 26) dX8_restore_27 fc_8 (by decide) (by decide) bw_1224 (Or.inl rfl) rfl (kkI (kkI e1)) ?_
    refine g_aload_n dX8_restore_30 rfl 0 rfl ?_
    obtain ⟨b3, e4, K⟩ := K
    refine g_get (c := 8) (k := 2) (v := .ref b3) dX8_restore_31 fc_8 (by decide) (by decide) bw_1200 (congrArg pr (krI (krI (krI e4)))) (kkI (kkI (kkI e1))) ?_
    refine g_aload_n dX8_restore_34 rfl 0 rfl ?_
    obtain ⟨b5, e6, K⟩ := K
    refine g_get (c := 8) (k := 37) (v := .ref b5) dX8_restore_35 fc_8 (by decide) (by decide) bw_1235 (congrArg pr (krI (krI (krI e6)))) (kkI (kkI (kkI e1))) ?_
    obtain ⟨q7, C8, K⟩ := K
    refine g_callS (M' := mX8_copyTo) (As := [.ref b3, .ref b5]) (rest := []) (rc' := rc) (rs' := rs) dX8_restore_38 bw_1398 bw_1399 bw_9 bw_1400 ⟨by decide +kernel, by decide +kernel, show (parseMethodDescriptor mX8_copyTo.1.desc).map (fun d => d.parameters.length) = some 2 by decide +kernel⟩ (by decide) (by decide) (Nat.le_of_ble_eq_true rfl) C8 (Nat.le_of_eq (Nat.add_zero _)) (Nat.le_of_eq (Nat.add_zero _)) (fun _ _ h => h) ?_
    rintro _ h9 ⟨rfl, K1⟩ -
    replace K := K h9 K1
    show Gm l x mX8_restore 1 41 [(0, .ref a0)] [] h9 rc rs n0 Q X
    refine g_aload_n dX8_restore_41 rfl 0 rfl ?_
    obtain ⟨e10, b11, e12, K⟩ := K
    refine g_get (c := 8) (k := 25) (v := .ref b11) dX8_restore_42 fc_8 (by decide) (by decide) bw_1223 (congrArg pr e12) e10 ?_
    refine g_aload_n dX8_restore_45 rfl 0 rfl ?_
    obtain ⟨b13, e14, K⟩ := K
    refine g_get (c := 8) (k := 38) (v := .ref b13) dX8_restore_46 fc_8 (by decide) (by decide) bw_1236 (congrArg pr e14) e10 ?_
    obtain ⟨q15, C16, K⟩ := K
    refine g_callS (M' := mX8_copyTo) (As := [.ref b11, .ref b13]) (rest := []) (rc' := rc) (rs' := rs) dX8_restore_49 bw_1398 bw_1399 bw_9 bw_1400 ⟨by decide +kernel, by decide +kernel, show (parseMethodDescriptor mX8_copyTo.1.desc).map (fun d => d.parameters.length) = some 2 by decide +kernel⟩ (by decide) (by decide) (Nat.le_of_ble_eq_true rfl) C16 (Nat.le_of_eq (Nat.add_zero _)) (Nat.le_of_eq (Nat.add_zero _)) (fun _ _ h => h) ?_
    rintro _ h17 ⟨rfl, K1⟩ -
    replace K := K h17 K1
    show Gm l x mX8_restore 1 52 [(0, .ref a0)] [] h17 rc rs n0 Q X
    refine g_aload_n dX8_restore_52 rfl 0 rfl ?_
    obtain ⟨e18, b19, e20, K⟩ := K
    refine g_get (c := 8) (k := 27) (v := .ref b19) dX8_restore_53 fc_8 (by decide) (by decide) bw_1225 (congrArg pr e20) e18 ?_
    refine g_aload_n dX8_restore_56 rfl 0 rfl ?_
    obtain ⟨b21, e22, K⟩ := K
    refine g_get (c := 8) (k := 39) (v := .ref b21) dX8_restore_57 fc_8 (by decide) (by decide) bw_1237 (congrArg pr e22) e18 ?_
    obtain ⟨q23, C24, K⟩ := K
    refine g_callS (M' := mX8_copyTo) (As := [.ref b19, .ref b21]) (rest := []) (rc' := rc) (rs' := rs) dX8_restore_60 bw_1398 bw_1399 bw_9 bw_1400 ⟨by decide +kernel, by decide +kernel, show (parseMethodDescriptor mX8_copyTo.1.desc).map (fun d => d.parameters.length) = some 2 by decide +kernel⟩ (by decide) (by decide) (Nat.le_of_ble_eq_true rfl) C24 (Nat.le_of_eq (Nat.add_zero _)) (Nat.le_of_eq (Nat.add_zero _)) (fun _ _ h => h) ?_
    rintro _ h25 ⟨rfl, K1⟩ -
    replace K := K h25 K1
    show Gm l x mX8_restore 1 63 [(0, .ref a0)] [] h25 rc rs n0 Q X
    refine g_aload_n dX8_restore_63 rfl 0 rfl ?_
    obtain ⟨e26, b27, e28, K⟩ := K
    refine g_get (c := 8) (k := 28) (v := .ref b27) dX8_restore_64 fc_8 (by decide) (by decide) bw_1226 (congrArg pr e28) e26 ?_
    refine g_aload_n dX8_restore_67 rfl 0 rfl ?_
    obtain ⟨b29, e30, K⟩ := K
    refine g_get (c := 8) (k := 40) (v := .ref b29) dX8_restore_68 fc_8 (by decide) (by decide) bw_1238 (congrArg pr e30) e26 ?_
    obtain ⟨q31, C32, K⟩ := K
    refine g_callS (M' := mX8_copyTo) (As := [.ref b27, .ref b29]) (rest := []) (rc' := rc) (rs' := rs) dX8_restore_71 bw_1398 bw_1399 bw_9 bw_1400 ⟨by decide +kernel, by decide +kernel, show (parseMethodDescriptor mX8_copyTo.1.desc).map (fun d => d.parameters.length) = some 2 by decide +kernel⟩ (by decide) (by decide) (Nat.le_of_ble_eq_true rfl) C32 (Nat.le_of_eq (Nat.add_zero _)) (Nat.le_of_eq (Nat.add_zero _)) (fun _ _ h => h) ?_
    rintro _ h33 ⟨rfl, K1⟩ -
    replace K := K h33 K1
    show Gm l x mX8_restore 1 74 [(0, .ref a0)] [] h33 rc rs n0 Q X
    refine g_aload_n dX8_restore_74 rfl 0 rfl ?_
    obtain ⟨e34, b35, e36, K⟩ := K
    refine g_get (c := 8) (k := 3) (v := .ref b35) dX8_restore_75 fc_8 (by decide) (by decide) bw_1201 (congrArg pr e36) e34 ?_
    refine g_aload_n dX8_restore_78 rfl 0 rfl ?_
    obtain ⟨b37, e38, K⟩ := K
    refine g_get (c := 8) (k := 41) (v := .ref b37) dX8_restore_79 fc_8 (by decide) (by decide) bw_1239 (congrArg pr e38) e34 ?_
    obtain ⟨q39, C40, K⟩ := K
    refine g_callS (M' := mX8_copyTo) (As := [.ref b35, .ref b37]) (rest := []) (rc' := rc) (rs' := rs) dX8_restore_82 bw_1398 bw_1399 bw_9 bw_1400 ⟨by decide +kernel, by decide +kernel, show (parseMethodDescriptor mX8_copyTo.1.desc).map (fun d => d.parameters.length) = some 2 by decide +kernel⟩ (by decide) (by decide) (Nat.le_of_ble_eq_true rfl) C40 (Nat.le_of_eq (Nat.add_zero _)) (Nat.le_of_eq (Nat.add_zero _)) (fun _ _ h => h) ?_
    rintro _ h41 ⟨rfl, K1⟩ -
    replace K := K h41 K1
    show Gm l x mX8_restore 1 85 [(0, .ref a0)] [] h41 rc rs n0 Q X
    refine g_iconst (v := 1) dX8_restore_85 (by decide) ?_
    exact g_zret dX8_restore_86 rfl K.1 K.2
  · replace K := K.2 c2
    refine g_iconst (v := 0) dX8_restore_12 (by decide) ?_
    exact g_zret dX8_restore_13 rfl K.1 K.2
theorem dX8_init_0 : decode cX8_init 0 = .ok (.aload_n 0, 1) := by decide +kernel
theorem dX8_init_1 : decode cX8_init 1 = .ok (.invokespecial 1, 3) := by decide +kernel
theorem dX8_init_4 : decode cX8_init 4 = .ok (.aload_n 0, 1) := by decide +kernel
theorem dX8_init_5 : decode cX8_init 5 = .ok (.bipush 7, 2) := by decide +kernel
theorem dX8_init_7 : decode cX8_init 7 = .ok (.anewarray 7, 3) := by decide +kernel
theorem dX8_init_10 : decode cX8_init 10 = .ok (.dup, 1) := by decide +kernel
theorem dX8_init_11 : decode cX8_init 11 = .ok (.iconst 0, 1) := by decide +kernel
theorem dX8_init_12 : decode cX8_init 12 = .ok (.ldc 9, 2) := by decide +kernel
theorem dX8_init_14 : decode cX8_init 14 = .ok (.aastore, 1) := by decide +kernel
theorem dX8_init_15 : decode cX8_init 15 = .ok (.dup, 1) := by decide +kernel
theorem dX8_init_16 : decode cX8_init 16 = .ok (.iconst 1, 1) := by decide +kernel
theorem dX8_init_17 : decode cX8_init 17 = .ok (.ldc 11, 2) := by decide +kernel
theorem dX8_init_19 : decode cX8_init 19 = .ok (.aastore, 1) := by decide +kernel
theorem dX8_init_20 : decode cX8_init 20 = .ok (.dup, 1) := by decide +kernel
theorem dX8_init_21 : decode cX8_init 21 = .ok (.iconst 2, 1) := by decide +kernel
theorem dX8_init_22 : decode cX8_init 22 = .ok (.ldc 13, 2) := by decide +kernel
theorem dX8_init_24 : decode cX8_init 24 = .ok (.aastore, 1) := by decide +kernel
theorem dX8_init_25 : decode cX8_init 25 = .ok (.dup, 1) := by decide +kernel
theorem dX8_init_26 : decode cX8_init 26 = .ok (.iconst 3, 1) := by decide +kernel
theorem dX8_init_27 : decode cX8_init 27 = .ok (.ldc 15, 2) := by decide +kernel
theorem dX8_init_29 : decode cX8_init 29 = .ok (.aastore, 1) := by decide +kernel
theorem dX8_init_30 : decode cX8_init 30 = .ok (.dup, 1) := by decide +kernel
theorem dX8_init_31 : decode cX8_init 31 = .ok (.iconst 4, 1) := by decide +kernel
theorem dX8_init_32 : decode cX8_init 32 = .ok (.ldc 17, 2) := by decide +kernel
theorem dX8_init_34 : decode cX8_init 34 = .ok (.aastore, 1) := by decide +kernel
theorem dX8_init_35 : decode cX8_init 35 = .ok (.dup, 1) := by decide +kernel
theorem dX8_init_36 : decode cX8_init 36 = .ok (.iconst 5, 1) := by decide +kernel
theorem dX8_init_37 : decode cX8_init 37 = .ok (.ldc 19, 2) := by decide +kernel
theorem dX8_init_39 : decode cX8_init 39 = .ok (.aastore, 1) := by decide +kernel
theorem dX8_init_40 : decode cX8_init 40 = .ok (.dup, 1) := by decide +kernel
theorem dX8_init_41 : decode cX8_init 41 = .ok (.bipush 6, 2) := by decide +kernel
theorem dX8_init_43 : decode cX8_init 43 = .ok (.ldc 21, 2) := by decide +kernel
theorem dX8_init_45 : decode cX8_init 45 = .ok (.aastore, 1) := by decide +kernel
theorem dX8_init_46 : decode cX8_init 46 = .ok (.putfield 23, 3) := by decide +kernel
theorem dX8_init_49 : decode cX8_init 49 = .ok (.aload_n 0, 1) := by decide +kernel
theorem dX8_init_50 : decode cX8_init 50 = .ok (.sipush 312, 3) := by decide +kernel
theorem dX8_init_53 : decode cX8_init 53 = .ok (.newarray .int, 2) := by decide +kernel
theorem dX8_init_55 : decode cX8_init 55 = .ok (.putfield 29, 3) := by decide +kernel
theorem dX8_init_58 : decode cX8_init 58 = .ok (.aload_n 0, 1) := by decide +kernel
theorem dX8_init_59 : decode cX8_init 59 = .ok (.iconst 3, 1) := by decide +kernel
theorem dX8_init_60 : decode cX8_init 60 = .ok (.newarray .int, 2) := by decide +kernel
theorem dX8_init_62 : decode cX8_init 62 = .ok (.putfield 33, 3) := by decide +kernel
theorem dX8_init_65 : decode cX8_init 65 = .ok (.aload_n 0, 1) := by decide +kernel
theorem dX8_init_66 : decode cX8_init 66 = .ok (.bipush 7, 2) := by decide +kernel
theorem dX8_init_68 : decode cX8_init 68 = .ok (.newarray .int, 2) := by decide +kernel
theorem dX8_init_70 : decode cX8_init 70 = .ok (.putfield 36, 3) := by decide +kernel
theorem dX8_init_73 : decode cX8_init 73 = .ok (.aload_n 0, 1) := by decide +kernel
theorem dX8_init_74 : decode cX8_init 74 = .ok (.bipush 7, 2) := by decide +kernel
theorem dX8_init_76 : decode cX8_init 76 = .ok (.newarray .int, 2) := by decide +kernel
theorem dX8_init_78 : decode cX8_init 78 = .ok (.putfield 39, 3) := by decide +kernel
theorem dX8_init_81 : decode cX8_init 81 = .ok (.aload_n 0, 1) := by decide +kernel
theorem dX8_init_82 : decode cX8_init 82 = .ok (.bipush 12, 2) := by decide +kernel
theorem dX8_init_84 : decode cX8_init 84 = .ok (.newarray .int, 2) := by decide +kernel
theorem dX8_init_86 : decode cX8_init 86 = .ok (.putfield 42, 3) := by decide +kernel
theorem dX8_init_89 : decode cX8_init 89 = .ok (.aload_n 0, 1) := by decide +kernel
theorem dX8_init_90 : decode cX8_init 90 = .ok (.bipush 12, 2) := by decide +kernel
theorem dX8_init_92 : decode cX8_init 92 = .ok (.newarray .int, 2) := by decide +kernel
theorem dX8_init_94 : decode cX8_init 94 = .ok (.putfield 45, 3) := by decide +kernel
theorem dX8_init_97 : decode cX8_init 97 = .ok (.aload_n 0, 1) := by decide +kernel
theorem dX8_init_98 : decode cX8_init 98 = .ok (.bipush 80, 2) := by decide +kernel
theorem dX8_init_100 : decode cX8_init 100 = .ok (.newarray .int, 2) := by decide +kernel
theorem dX8_init_102 : decode cX8_init 102 = .ok (.putfield 48, 3) := by decide +kernel
theorem dX8_init_105 : decode cX8_init 105 = .ok (.aload_n 0, 1) := by decide +kernel
theorem dX8_init_106 : decode cX8_init 106 = .ok (.bipush 80, 2) := by decide +kernel
theorem dX8_init_108 : decode cX8_init 108 = .ok (.newarray .int, 2) := by decide +kernel
theorem dX8_init_110 : decode cX8_init 110 = .ok (.putfield 51, 3) := by decide +kernel
theorem dX8_init_113 : decode cX8_init 113 = .ok (.aload_n 0, 1) := by decide +kernel
theorem dX8_init_114 : decode cX8_init 114 = .ok (.sipush 900, 3) := by decide +kernel
theorem dX8_init_117 : decode cX8_init 117 = .ok (.newarray .int, 2) := by decide +kernel
theorem dX8_init_119 : decode cX8_init 119 = .ok (.putfield 54, 3) := by decide +kernel
theorem dX8_init_122 : decode cX8_init 122 = .ok (.aload_n 0, 1) := by decide +kernel
theorem dX8_init_123 : decode cX8_init 123 = .ok (.iconst (-1), 1) := by decide +kernel
theorem dX8_init_124 : decode cX8_init 124 = .ok (.putfield 57, 3) := by decide +kernel
theorem dX8_init_127 : decode cX8_init 127 = .ok (.aload_n 0, 1) := by decide +kernel
theorem dX8_init_128 : decode cX8_init 128 = .ok (.sipush 312, 3) := by decide +kernel
theorem dX8_init_131 : decode cX8_init 131 = .ok (.newarray .int, 2) := by decide +kernel
theorem dX8_init_133 : decode cX8_init 133 = .ok (.putfield 61, 3) := by decide +kernel
theorem dX8_init_136 : decode cX8_init 136 = .ok (.aload_n 0, 1) := by decide +kernel
theorem dX8_init_137 : decode cX8_init 137 = .ok (.sipush 312, 3) := by decide +kernel
theorem dX8_init_140 : decode cX8_init 140 = .ok (.newarray .int, 2) := by decide +kernel
theorem dX8_init_142 : decode cX8_init 142 = .ok (.putfield 64, 3) := by decide +kernel
theorem dX8_init_145 : decode cX8_init 145 = .ok (.aload_n 0, 1) := by decide +kernel
theorem dX8_init_146 : decode cX8_init 146 = .ok (.sipush 12480, 3) := by decide +kernel
theorem dX8_init_149 : decode cX8_init 149 = .ok (.newarray .int, 2) := by decide +kernel
theorem dX8_init_151 : decode cX8_init 151 = .ok (.putfield 67, 3) := by decide +kernel
theorem dX8_init_154 : decode cX8_init 154 = .ok (.aload_n 0, 1) := by decide +kernel
theorem dX8_init_155 : decode cX8_init 155 = .ok (.bipush 8, 2) := by decide +kernel
theorem dX8_init_157 : decode cX8_init 157 = .ok (.newarray .int, 2) := by decide +kernel
theorem dX8_init_159 : decode cX8_init 159 = .ok (.putfield 70, 3) := by decide +kernel
theorem dX8_init_162 : decode cX8_init 162 = .ok (.aload_n 0, 1) := by decide +kernel
theorem dX8_init_163 : decode cX8_init 163 = .ok (.bipush 8, 2) := by decide +kernel
theorem dX8_init_165 : decode cX8_init 165 = .ok (.newarray .int, 2) := by decide +kernel
theorem dX8_init_167 : decode cX8_init 167 = .ok (.putfield 73, 3) := by decide +kernel
theorem dX8_init_170 : decode cX8_init 170 = .ok (.aload_n 0, 1) := by decide +kernel
theorem dX8_init_171 : decode cX8_init 171 = .ok (.sipush 720, 3) := by decide +kernel
theorem dX8_init_174 : decode cX8_init 174 = .ok (.newarray .int, 2) := by decide +kernel
theorem dX8_init_176 : decode cX8_init 176 = .ok (.putfield 76, 3) := by decide +kernel
theorem dX8_init_179 : decode cX8_init 179 = .ok (.aload_n 0, 1) := by decide +kernel
theorem dX8_init_180 : decode cX8_init 180 = .ok (.sipush 312, 3) := by decide +kernel
theorem dX8_init_183 : decode cX8_init 183 = .ok (.newarray .int, 2) := by decide +kernel
theorem dX8_init_185 : decode cX8_init 185 = .ok (.putfield 79, 3) := by decide +kernel
theorem dX8_init_188 : decode cX8_init 188 = .ok (.aload_n 0, 1) := by decide +kernel
theorem dX8_init_189 : decode cX8_init 189 = .ok (.sipush 312, 3) := by decide +kernel
theorem dX8_init_192 : decode cX8_init 192 = .ok (.newarray .int, 2) := by decide +kernel
theorem dX8_init_194 : decode cX8_init 194 = .ok (.putfield 82, 3) := by decide +kernel
theorem dX8_init_197 : decode cX8_init 197 = .ok (.aload_n 0, 1) := by decide +kernel
theorem dX8_init_198 : decode cX8_init 198 = .ok (.sipush 12480, 3) := by decide +kernel
theorem dX8_init_201 : decode cX8_init 201 = .ok (.newarray .int, 2) := by decide +kernel
theorem dX8_init_203 : decode cX8_init 203 = .ok (.putfield 85, 3) := by decide +kernel
theorem dX8_init_206 : decode cX8_init 206 = .ok (.aload_n 0, 1) := by decide +kernel
theorem dX8_init_207 : decode cX8_init 207 = .ok (.bipush 8, 2) := by decide +kernel
theorem dX8_init_209 : decode cX8_init 209 = .ok (.newarray .int, 2) := by decide +kernel
theorem dX8_init_211 : decode cX8_init 211 = .ok (.putfield 88, 3) := by decide +kernel
theorem dX8_init_214 : decode cX8_init 214 = .ok (.aload_n 0, 1) := by decide +kernel
theorem dX8_init_215 : decode cX8_init 215 = .ok (.bipush 8, 2) := by decide +kernel
theorem dX8_init_217 : decode cX8_init 217 = .ok (.newarray .int, 2) := by decide +kernel
theorem dX8_init_219 : decode cX8_init 219 = .ok (.putfield 91, 3) := by decide +kernel
theorem dX8_init_222 : decode cX8_init 222 = .ok (.aload_n 0, 1) := by decide +kernel
theorem dX8_init_223 : decode cX8_init 223 = .ok (.iconst 3, 1) := by decide +kernel
theorem dX8_init_224 : decode cX8_init 224 = .ok (.newarray .int, 2) := by decide +kernel
theorem dX8_init_226 : decode cX8_init 226 = .ok (.putfield 94, 3) := by decide +kernel
theorem dX8_init_229 : decode cX8_init 229 = .ok (.aload_n 0, 1) := by decide +kernel
theorem dX8_init_230 : decode cX8_init 230 = .ok (.getfield 36, 3) := by decide +kernel
theorem dX8_init_233 : decode cX8_init 233 = .ok (.invokestatic 97, 3) := by decide +kernel
theorem dX8_init_236 : decode cX8_init 236 = .ok (.aload_n 0, 1) := by decide +kernel
theorem dX8_init_237 : decode cX8_init 237 = .ok (.invokevirtual 101, 3) := by decide +kernel
theorem dX8_init_240 : decode cX8_init 240 = .ok (.return_, 1) := by decide +kernel
set_option maxRecDepth 20000 in
set_option maxHeartbeats 4000000 in
theorem vX8_init_0 {l : Launch} {x : CX} {a0 : Nat} {h : PH} {rc rs n0 : Nat} {Q : Option Value → PH → Prop} {X : String → PH → Prop}
    (K : (1 ≤ rc) ∧ (7 ≤ rs) ∧ (AOOk x "java/lang/String") ∧ ∀ (h3 : PH), h3 = (nw h (108, 7)) → (TxtOk x RX8 9 "floors" 10) ∧ ((hK h3 (hN h)).1 = 108) ∧ (vp_in 0 (hK h3 (hN h)).2) ∧ (AnyOk x 10) ∧ (TxtOk x RX8 11 "car" 11) ∧ (vp_in 1 (hK h3 (hN h)).2) ∧ (AnyOk x 11) ∧ (TxtOk x RX8 13 "rider" 12) ∧ (vp_in 2 (hK h3 (hN h)).2) ∧ (AnyOk x 12) ∧ (TxtOk x RX8 15 "dwell" 13) ∧ (vp_in 3 (hK h3 (hN h)).2) ∧ (AnyOk x 13) ∧ (TxtOk x RX8 17 "late" 14) ∧ (vp_in 4 (hK h3 (hN h)).2) ∧ (AnyOk x 14) ∧ (TxtOk x RX8 19 "policy" 15) ∧ (vp_in 5 (hK h3 (hN h)).2) ∧ (AnyOk x 15) ∧ (TxtOk x RX8 21 "peak" 16) ∧ (vp_in 6 (hK h3 (hN h)).2) ∧ (AnyOk x 16) ∧ ((hK h3 a0).1 = 8) ∧ (2 ≤ rc) ∧ (319 ≤ rs) ∧ ∀ (h30 : PH), h30 = (nw (sR (sR (sR (sR (sR (sR (sR (sR h3 (hN h) (Int32.toNatClampNeg 0) (some 10)) (hN h) (Int32.toNatClampNeg 1) (some 11)) (hN h) (Int32.toNatClampNeg 2) (some 12)) (hN h) (Int32.toNatClampNeg 3) (some 13)) (hN h) (Int32.toNatClampNeg 4) (some 14)) (hN h) (Int32.toNatClampNeg 5) (some 15)) (hN h) (Int32.toNatClampNeg 6) (some 16)) a0 0 (some (hN h))) (100, 312)) → ((hK h30 a0).1 = 8) ∧ (3 ≤ rc) ∧ (322 ≤ rs) ∧ ∀ (h34 : PH), h34 = (nw (sR h30 a0 2 (some (hN (sR (sR (sR (sR (sR (sR (sR (sR h3 (hN h) (Int32.toNatClampNeg 0) (some 10)) (hN h) (Int32.toNatClampNeg 1) (some 11)) (hN h) (Int32.toNatClampNeg 2) (some 12)) (hN h) (Int32.toNatClampNeg 3) (some 13)) (hN h) (Int32.toNatClampNeg 4) (some 14)) (hN h) (Int32.toNatClampNeg 5) (some 15)) (hN h) (Int32.toNatClampNeg 6) (some 16)) a0 0 (some (hN h)))))) (100, 3)) → ((hK h34 a0).1 = 8) ∧ (4 ≤ rc) ∧ (329 ≤ rs) ∧ ∀ (h38 : PH), h38 = (nw (sR h34 a0 3 (some (hN (sR h30 a0 2 (some (hN (sR (sR (sR (sR (sR (sR (sR (sR h3 (hN h) (Int32.toNatClampNeg 0) (some 10)) (hN h) (Int32.toNatClampNeg 1) (some 11)) (hN h) (Int32.toNatClampNeg 2) (some 12)) (hN h) (Int32.toNatClampNeg 3) (some 13)) (hN h) (Int32.toNatClampNeg 4) (some 14)) (hN h) (Int32.toNatClampNeg 5) (some 15)) (hN h) (Int32.toNatClampNeg 6) (some 16)) a0 0 (some (hN h))))))))) (100, 7)) → ((hK h38 a0).1 = 8) ∧ (5 ≤ rc) ∧ (336 ≤ rs) ∧ ∀ (h42 : PH), h42 = (nw (sR h38 a0 4 (some (hN (sR h34 a0 3 (some (hN (sR h30 a0 2 (some (hN (sR (sR (sR (sR (sR (sR (sR (sR h3 (hN h) (Int32.toNatClampNeg 0) (some 10)) (hN h) (Int32.toNatClampNeg 1) (some 11)) (hN h) (Int32.toNatClampNeg 2) (some 12)) (hN h) (Int32.toNatClampNeg 3) (some 13)) (hN h) (Int32.toNatClampNeg 4) (some 14)) (hN h) (Int32.toNatClampNeg 5) (some 15)) (hN h) (Int32.toNatClampNeg 6) (some 16)) a0 0 (some (hN h)))))))))))) (100, 7)) → ((hK h42 a0).1 = 8) ∧ (6 ≤ rc) ∧ (348 ≤ rs) ∧ ∀ (h46 : PH), h46 = (nw (sR h42 a0 5 (some (hN (sR h38 a0 4 (some (hN (sR h34 a0 3 (some (hN (sR h30 a0 2 (some (hN (sR (sR (sR (sR (sR (sR (sR (sR h3 (hN h) (Int32.toNatClampNeg 0) (some 10)) (hN h) (Int32.toNatClampNeg 1) (some 11)) (hN h) (Int32.toNatClampNeg 2) (some 12)) (hN h) (Int32.toNatClampNeg 3) (some 13)) (hN h) (Int32.toNatClampNeg 4) (some 14)) (hN h) (Int32.toNatClampNeg 5) (some 15)) (hN h) (Int32.toNatClampNeg 6) (some 16)) a0 0 (some (hN h))))))))))))))) (100, 12)) → ((hK h46 a0).1 = 8) ∧ (7 ≤ rc) ∧ (360 ≤ rs) ∧ ∀ (h50 : PH), h50 = (nw (sR h46 a0 6 (some (hN (sR h42 a0 5 (some (hN (sR h38 a0 4 (some (hN (sR h34 a0 3 (some (hN (sR h30 a0 2 (some (hN (sR (sR (sR (sR (sR (sR (sR (sR h3 (hN h) (Int32.toNatClampNeg 0) (some 10)) (hN h) (Int32.toNatClampNeg 1) (some 11)) (hN h) (Int32.toNatClampNeg 2) (some 12)) (hN h) (Int32.toNatClampNeg 3) (some 13)) (hN h) (Int32.toNatClampNeg 4) (some 14)) (hN h) (Int32.toNatClampNeg 5) (some 15)) (hN h) (Int32.toNatClampNeg 6) (some 16)) a0 0 (some (hN h)))))))))))))))))) (100, 12)) → ((hK h50 a0).1 = 8) ∧ (8 ≤ rc) ∧ (440 ≤ rs) ∧ ∀ (h54 : PH), h54 = (nw (sR h50 a0 7 (some (hN (sR h46 a0 6 (some (hN (sR h42 a0 5 (some (hN (sR h38 a0 4 (some (hN (sR h34 a0 3 (some (hN (sR h30 a0 2 (some (hN (sR (sR (sR (sR (sR (sR (sR (sR h3 (hN h) (Int32.toNatClampNeg 0) (some 10)) (hN h) (Int32.toNatClampNeg 1) (some 11)) (hN h) (Int32.toNatClampNeg 2) (some 12)) (hN h) (Int32.toNatClampNeg 3) (some 13)) (hN h) (Int32.toNatClampNeg 4) (some 14)) (hN h) (Int32.toNatClampNeg 5) (some 15)) (hN h) (Int32.toNatClampNeg 6) (some 16)) a0 0 (some (hN h))))))))))))))))))))) (100, 80)) → ((hK h54 a0).1 = 8) ∧ (9 ≤ rc) ∧ (520 ≤ rs) ∧ ∀ (h58 : PH), h58 = (nw (sR h54 a0 8 (some (hN (sR h50 a0 7 (some (hN (sR h46 a0 6 (some (hN (sR h42 a0 5 (some (hN (sR h38 a0 4 (some (hN (sR h34 a0 3 (some (hN (sR h30 a0 2 (some (hN (sR (sR (sR (sR (sR (sR (sR (sR h3 (hN h) (Int32.toNatClampNeg 0) (some 10)) (hN h) (Int32.toNatClampNeg 1) (some 11)) (hN h) (Int32.toNatClampNeg 2) (some 12)) (hN h) (Int32.toNatClampNeg 3) (some 13)) (hN h) (Int32.toNatClampNeg 4) (some 14)) (hN h) (Int32.toNatClampNeg 5) (some 15)) (hN h) (Int32.toNatClampNeg 6) (some 16)) a0 0 (some (hN h)))))))))))))))))))))))) (100, 80)) → ((hK h58 a0).1 = 8) ∧ (10 ≤ rc) ∧ (1420 ≤ rs) ∧ ∀ (h62 : PH), h62 = (nw (sR h58 a0 9 (some (hN (sR h54 a0 8 (some (hN (sR h50 a0 7 (some (hN (sR h46 a0 6 (some (hN (sR h42 a0 5 (some (hN (sR h38 a0 4 (some (hN (sR h34 a0 3 (some (hN (sR h30 a0 2 (some (hN (sR (sR (sR (sR (sR (sR (sR (sR h3 (hN h) (Int32.toNatClampNeg 0) (some 10)) (hN h) (Int32.toNatClampNeg 1) (some 11)) (hN h) (Int32.toNatClampNeg 2) (some 12)) (hN h) (Int32.toNatClampNeg 3) (some 13)) (hN h) (Int32.toNatClampNeg 4) (some 14)) (hN h) (Int32.toNatClampNeg 5) (some 15)) (hN h) (Int32.toNatClampNeg 6) (some 16)) a0 0 (some (hN h))))))))))))))))))))))))))) (100, 900)) → ((hK h62 a0).1 = 8) ∧ (11 ≤ rc) ∧ (1732 ≤ rs) ∧ ∀ (h66 : PH), h66 = (nw (sI (sR h62 a0 10 (some (hN (sR h58 a0 9 (some (hN (sR h54 a0 8 (some (hN (sR h50 a0 7 (some (hN (sR h46 a0 6 (some (hN (sR h42 a0 5 (some (hN (sR h38 a0 4 (some (hN (sR h34 a0 3 (some (hN (sR h30 a0 2 (some (hN (sR (sR (sR (sR (sR (sR (sR (sR h3 (hN h) (Int32.toNatClampNeg 0) (some 10)) (hN h) (Int32.toNatClampNeg 1) (some 11)) (hN h) (Int32.toNatClampNeg 2) (some 12)) (hN h) (Int32.toNatClampNeg 3) (some 13)) (hN h) (Int32.toNatClampNeg 4) (some 14)) (hN h) (Int32.toNatClampNeg 5) (some 15)) (hN h) (Int32.toNatClampNeg 6) (some 16)) a0 0 (some (hN h)))))))))))))))))))))))))))))) a0 20 (-1)) (100, 312)) → ((hK h66 a0).1 = 8) ∧ (12 ≤ rc) ∧ (2044 ≤ rs) ∧ ∀ (h70 : PH), h70 = (nw (sR h66 a0 22 (some (hN (sI (sR h62 a0 10 (some (hN (sR h58 a0 9 (some (hN (sR h54 a0 8 (some (hN (sR h50 a0 7 (some (hN (sR h46 a0 6 (some (hN (sR h42 a0 5 (some (hN (sR h38 a0 4 (some (hN (sR h34 a0 3 (some (hN (sR h30 a0 2 (some (hN (sR (sR (sR (sR (sR (sR (sR (sR h3 (hN h) (Int32.toNatClampNeg 0) (some 10)) (hN h) (Int32.toNatClampNeg 1) (some 11)) (hN h) (Int32.toNatClampNeg 2) (some 12)) (hN h) (Int32.toNatClampNeg 3) (some 13)) (hN h) (Int32.toNatClampNeg 4) (some 14)) (hN h) (Int32.toNatClampNeg 5) (some 15)) (hN h) (Int32.toNatClampNeg 6) (some 16)) a0 0 (some (hN h)))))))))))))))))))))))))))))) a0 20 (-1))))) (100, 312)) → ((hK h70 a0).1 = 8) ∧ (13 ≤ rc) ∧ (14524 ≤ rs) ∧ ∀ (h74 : PH), h74 = (nw (sR h70 a0 23 (some (hN (sR h66 a0 22 (some (hN (sI (sR h62 a0 10 (some (hN (sR h58 a0 9 (some (hN (sR h54 a0 8 (some (hN (sR h50 a0 7 (some (hN (sR h46 a0 6 (some (hN (sR h42 a0 5 (some (hN (sR h38 a0 4 (some (hN (sR h34 a0 3 (some (hN (sR h30 a0 2 (some (hN (sR (sR (sR (sR (sR (sR (sR (sR h3 (hN h) (Int32.toNatClampNeg 0) (some 10)) (hN h) (Int32.toNatClampNeg 1) (some 11)) (hN h) (Int32.toNatClampNeg 2) (some 12)) (hN h) (Int32.toNatClampNeg 3) (some 13)) (hN h) (Int32.toNatClampNeg 4) (some 14)) (hN h) (Int32.toNatClampNeg 5) (some 15)) (hN h) (Int32.toNatClampNeg 6) (some 16)) a0 0 (some (hN h)))))))))))))))))))))))))))))) a0 20 (-1)))))))) (100, 12480)) → ((hK h74 a0).1 = 8) ∧ (14 ≤ rc) ∧ (14532 ≤ rs) ∧ ∀ (h78 : PH), h78 = (nw (sR h74 a0 25 (some (hN (sR h70 a0 23 (some (hN (sR h66 a0 22 (some (hN (sI (sR h62 a0 10 (some (hN (sR h58 a0 9 (some (hN (sR h54 a0 8 (some (hN (sR h50 a0 7 (some (hN (sR h46 a0 6 (some (hN (sR h42 a0 5 (some (hN (sR h38 a0 4 (some (hN (sR h34 a0 3 (some (hN (sR h30 a0 2 (some (hN (sR (sR (sR (sR (sR (sR (sR (sR h3 (hN h) (Int32.toNatClampNeg 0) (some 10)) (hN h) (Int32.toNatClampNeg 1) (some 11)) (hN h) (Int32.toNatClampNeg 2) (some 12)) (hN h) (Int32.toNatClampNeg 3) (some 13)) (hN h) (Int32.toNatClampNeg 4) (some 14)) (hN h) (Int32.toNatClampNeg 5) (some 15)) (hN h) (Int32.toNatClampNeg 6) (some 16)) a0 0 (some (hN h)))))))))))))))))))))))))))))) a0 20 (-1))))))))))) (100, 8)) → ((hK h78 a0).1 = 8) ∧ (15 ≤ rc) ∧ (14540 ≤ rs) ∧ ∀ (h82 : PH), h82 = (nw (sR h78 a0 27 (some (hN (sR h74 a0 25 (some (hN (sR h70 a0 23 (some (hN (sR h66 a0 22 (some (hN (sI (sR h62 a0 10 (some (hN (sR h58 a0 9 (some (hN (sR h54 a0 8 (some (hN (sR h50 a0 7 (some (hN (sR h46 a0 6 (some (hN (sR h42 a0 5 (some (hN (sR h38 a0 4 (some (hN (sR h34 a0 3 (some (hN (sR h30 a0 2 (some (hN (sR (sR (sR (sR (sR (sR (sR (sR h3 (hN h) (Int32.toNatClampNeg 0) (some 10)) (hN h) (Int32.toNatClampNeg 1) (some 11)) (hN h) (Int32.toNatClampNeg 2) (some 12)) (hN h) (Int32.toNatClampNeg 3) (some 13)) (hN h) (Int32.toNatClampNeg 4) (some 14)) (hN h) (Int32.toNatClampNeg 5) (some 15)) (hN h) (Int32.toNatClampNeg 6) (some 16)) a0 0 (some (hN h)))))))))))))))))))))))))))))) a0 20 (-1)))))))))))))) (100, 8)) → ((hK h82 a0).1 = 8) ∧ (16 ≤ rc) ∧ (15260 ≤ rs) ∧ ∀ (h86 : PH), h86 = (nw (sR h82 a0 28 (some (hN (sR h78 a0 27 (some (hN (sR h74 a0 25 (some (hN (sR h70 a0 23 (some (hN (sR h66 a0 22 (some (hN (sI (sR h62 a0 10 (some (hN (sR h58 a0 9 (some (hN (sR h54 a0 8 (some (hN (sR h50 a0 7 (some (hN (sR h46 a0 6 (some (hN (sR h42 a0 5 (some (hN (sR h38 a0 4 (some (hN (sR h34 a0 3 (some (hN (sR h30 a0 2 (some (hN (sR (sR (sR (sR (sR (sR (sR (sR h3 (hN h) (Int32.toNatClampNeg 0) (some 10)) (hN h) (Int32.toNatClampNeg 1) (some 11)) (hN h) (Int32.toNatClampNeg 2) (some 12)) (hN h) (Int32.toNatClampNeg 3) (some 13)) (hN h) (Int32.toNatClampNeg 4) (some 14)) (hN h) (Int32.toNatClampNeg 5) (some 15)) (hN h) (Int32.toNatClampNeg 6) (some 16)) a0 0 (some (hN h)))))))))))))))))))))))))))))) a0 20 (-1))))))))))))))))) (100, 720)) → ((hK h86 a0).1 = 8) ∧ (17 ≤ rc) ∧ (15572 ≤ rs) ∧ ∀ (h90 : PH), h90 = (nw (sR h86 a0 31 (some (hN (sR h82 a0 28 (some (hN (sR h78 a0 27 (some (hN (sR h74 a0 25 (some (hN (sR h70 a0 23 (some (hN (sR h66 a0 22 (some (hN (sI (sR h62 a0 10 (some (hN (sR h58 a0 9 (some (hN (sR h54 a0 8 (some (hN (sR h50 a0 7 (some (hN (sR h46 a0 6 (some (hN (sR h42 a0 5 (some (hN (sR h38 a0 4 (some (hN (sR h34 a0 3 (some (hN (sR h30 a0 2 (some (hN (sR (sR (sR (sR (sR (sR (sR (sR h3 (hN h) (Int32.toNatClampNeg 0) (some 10)) (hN h) (Int32.toNatClampNeg 1) (some 11)) (hN h) (Int32.toNatClampNeg 2) (some 12)) (hN h) (Int32.toNatClampNeg 3) (some 13)) (hN h) (Int32.toNatClampNeg 4) (some 14)) (hN h) (Int32.toNatClampNeg 5) (some 15)) (hN h) (Int32.toNatClampNeg 6) (some 16)) a0 0 (some (hN h)))))))))))))))))))))))))))))) a0 20 (-1)))))))))))))))))))) (100, 312)) → ((hK h90 a0).1 = 8) ∧ (18 ≤ rc) ∧ (15884 ≤ rs) ∧ ∀ (h94 : PH), h94 = (nw (sR h90 a0 33 (some (hN (sR h86 a0 31 (some (hN (sR h82 a0 28 (some (hN (sR h78 a0 27 (some (hN (sR h74 a0 25 (some (hN (sR h70 a0 23 (some (hN (sR h66 a0 22 (some (hN (sI (sR h62 a0 10 (some (hN (sR h58 a0 9 (some (hN (sR h54 a0 8 (some (hN (sR h50 a0 7 (some (hN (sR h46 a0 6 (some (hN (sR h42 a0 5 (some (hN (sR h38 a0 4 (some (hN (sR h34 a0 3 (some (hN (sR h30 a0 2 (some (hN (sR (sR (sR (sR (sR (sR (sR (sR h3 (hN h) (Int32.toNatClampNeg 0) (some 10)) (hN h) (Int32.toNatClampNeg 1) (some 11)) (hN h) (Int32.toNatClampNeg 2) (some 12)) (hN h) (Int32.toNatClampNeg 3) (some 13)) (hN h) (Int32.toNatClampNeg 4) (some 14)) (hN h) (Int32.toNatClampNeg 5) (some 15)) (hN h) (Int32.toNatClampNeg 6) (some 16)) a0 0 (some (hN h)))))))))))))))))))))))))))))) a0 20 (-1))))))))))))))))))))))) (100, 312)) → ((hK h94 a0).1 = 8) ∧ (19 ≤ rc) ∧ (28364 ≤ rs) ∧ ∀ (h98 : PH), h98 = (nw (sR h94 a0 37 (some (hN (sR h90 a0 33 (some (hN (sR h86 a0 31 (some (hN (sR h82 a0 28 (some (hN (sR h78 a0 27 (some (hN (sR h74 a0 25 (some (hN (sR h70 a0 23 (some (hN (sR h66 a0 22 (some (hN (sI (sR h62 a0 10 (some (hN (sR h58 a0 9 (some (hN (sR h54 a0 8 (some (hN (sR h50 a0 7 (some (hN (sR h46 a0 6 (some (hN (sR h42 a0 5 (some (hN (sR h38 a0 4 (some (hN (sR h34 a0 3 (some (hN (sR h30 a0 2 (some (hN (sR (sR (sR (sR (sR (sR (sR (sR h3 (hN h) (Int32.toNatClampNeg 0) (some 10)) (hN h) (Int32.toNatClampNeg 1) (some 11)) (hN h) (Int32.toNatClampNeg 2) (some 12)) (hN h) (Int32.toNatClampNeg 3) (some 13)) (hN h) (Int32.toNatClampNeg 4) (some 14)) (hN h) (Int32.toNatClampNeg 5) (some 15)) (hN h) (Int32.toNatClampNeg 6) (some 16)) a0 0 (some (hN h)))))))))))))))))))))))))))))) a0 20 (-1)))))))))))))))))))))))))) (100, 12480)) → ((hK h98 a0).1 = 8) ∧ (20 ≤ rc) ∧ (28372 ≤ rs) ∧ ∀ (h102 : PH), h102 = (nw (sR h98 a0 38 (some (hN (sR h94 a0 37 (some (hN (sR h90 a0 33 (some (hN (sR h86 a0 31 (some (hN (sR h82 a0 28 (some (hN (sR h78 a0 27 (some (hN (sR h74 a0 25 (some (hN (sR h70 a0 23 (some (hN (sR h66 a0 22 (some (hN (sI (sR h62 a0 10 (some (hN (sR h58 a0 9 (some (hN (sR h54 a0 8 (some (hN (sR h50 a0 7 (some (hN (sR h46 a0 6 (some (hN (sR h42 a0 5 (some (hN (sR h38 a0 4 (some (hN (sR h34 a0 3 (some (hN (sR h30 a0 2 (some (hN (sR (sR (sR (sR (sR (sR (sR (sR h3 (hN h) (Int32.toNatClampNeg 0) (some 10)) (hN h) (Int32.toNatClampNeg 1) (some 11)) (hN h) (Int32.toNatClampNeg 2) (some 12)) (hN h) (Int32.toNatClampNeg 3) (some 13)) (hN h) (Int32.toNatClampNeg 4) (some 14)) (hN h) (Int32.toNatClampNeg 5) (some 15)) (hN h) (Int32.toNatClampNeg 6) (some 16)) a0 0 (some (hN h)))))))))))))))))))))))))))))) a0 20 (-1))))))))))))))))))))))))))))) (100, 8)) → ((hK h102 a0).1 = 8) ∧ (21 ≤ rc) ∧ (28380 ≤ rs) ∧ ∀ (h106 : PH), h106 = (nw (sR h102 a0 39 (some (hN (sR h98 a0 38 (some (hN (sR h94 a0 37 (some (hN (sR h90 a0 33 (some (hN (sR h86 a0 31 (some (hN (sR h82 a0 28 (some (hN (sR h78 a0 27 (some (hN (sR h74 a0 25 (some (hN (sR h70 a0 23 (some (hN (sR h66 a0 22 (some (hN (sI (sR h62 a0 10 (some (hN (sR h58 a0 9 (some (hN (sR h54 a0 8 (some (hN (sR h50 a0 7 (some (hN (sR h46 a0 6 (some (hN (sR h42 a0 5 (some (hN (sR h38 a0 4 (some (hN (sR h34 a0 3 (some (hN (sR h30 a0 2 (some (hN (sR (sR (sR (sR (sR (sR (sR (sR h3 (hN h) (Int32.toNatClampNeg 0) (some 10)) (hN h) (Int32.toNatClampNeg 1) (some 11)) (hN h) (Int32.toNatClampNeg 2) (some 12)) (hN h) (Int32.toNatClampNeg 3) (some 13)) (hN h) (Int32.toNatClampNeg 4) (some 14)) (hN h) (Int32.toNatClampNeg 5) (some 15)) (hN h) (Int32.toNatClampNeg 6) (some 16)) a0 0 (some (hN h)))))))))))))))))))))))))))))) a0 20 (-1)))))))))))))))))))))))))))))))) (100, 8)) → ((hK h106 a0).1 = 8) ∧ (22 ≤ rc) ∧ (28383 ≤ rs) ∧ ∀ (h110 : PH), h110 = (nw (sR h106 a0 40 (some (hN (sR h102 a0 39 (some (hN (sR h98 a0 38 (some (hN (sR h94 a0 37 (some (hN (sR h90 a0 33 (some (hN (sR h86 a0 31 (some (hN (sR h82 a0 28 (some (hN (sR h78 a0 27 (some (hN (sR h74 a0 25 (some (hN (sR h70 a0 23 (some (hN (sR h66 a0 22 (some (hN (sI (sR h62 a0 10 (some (hN (sR h58 a0 9 (some (hN (sR h54 a0 8 (some (hN (sR h50 a0 7 (some (hN (sR h46 a0 6 (some (hN (sR h42 a0 5 (some (hN (sR h38 a0 4 (some (hN (sR h34 a0 3 (some (hN (sR h30 a0 2 (some (hN (sR (sR (sR (sR (sR (sR (sR (sR h3 (hN h) (Int32.toNatClampNeg 0) (some 10)) (hN h) (Int32.toNatClampNeg 1) (some 11)) (hN h) (Int32.toNatClampNeg 2) (some 12)) (hN h) (Int32.toNatClampNeg 3) (some 13)) (hN h) (Int32.toNatClampNeg 4) (some 14)) (hN h) (Int32.toNatClampNeg 5) (some 15)) (hN h) (Int32.toNatClampNeg 6) (some 16)) a0 0 (some (hN h)))))))))))))))))))))))))))))) a0 20 (-1))))))))))))))))))))))))))))))))))) (100, 3)) → ((hK h110 a0).1 = 8) ∧ ∃ b112, (hR (sR h110 a0 41 (some (hN (sR h106 a0 40 (some (hN (sR h102 a0 39 (some (hN (sR h98 a0 38 (some (hN (sR h94 a0 37 (some (hN (sR h90 a0 33 (some (hN (sR h86 a0 31 (some (hN (sR h82 a0 28 (some (hN (sR h78 a0 27 (some (hN (sR h74 a0 25 (some (hN (sR h70 a0 23 (some (hN (sR h66 a0 22 (some (hN (sI (sR h62 a0 10 (some (hN (sR h58 a0 9 (some (hN (sR h54 a0 8 (some (hN (sR h50 a0 7 (some (hN (sR h46 a0 6 (some (hN (sR h42 a0 5 (some (hN (sR h38 a0 4 (some (hN (sR h34 a0 3 (some (hN (sR h30 a0 2 (some (hN (sR (sR (sR (sR (sR (sR (sR (sR h3 (hN h) (Int32.toNatClampNeg 0) (some 10)) (hN h) (Int32.toNatClampNeg 1) (some 11)) (hN h) (Int32.toNatClampNeg 2) (some 12)) (hN h) (Int32.toNatClampNeg 3) (some 13)) (hN h) (Int32.toNatClampNeg 4) (some 14)) (hN h) (Int32.toNatClampNeg 5) (some 15)) (hN h) (Int32.toNatClampNeg 6) (some 16)) a0 0 (some (hN h)))))))))))))))))))))))))))))) a0 20 (-1)))))))))))))))))))))))))))))))))))))) a0 4 = some b112) ∧ ∃ (q114 : PH → Prop), CV l x mX8_layFirst 0 0 0 [.ref b112] (sR h110 a0 41 (some (hN (sR h106 a0 40 (some (hN (sR h102 a0 39 (some (hN (sR h98 a0 38 (some (hN (sR h94 a0 37 (some (hN (sR h90 a0 33 (some (hN (sR h86 a0 31 (some (hN (sR h82 a0 28 (some (hN (sR h78 a0 27 (some (hN (sR h74 a0 25 (some (hN (sR h70 a0 23 (some (hN (sR h66 a0 22 (some (hN (sI (sR h62 a0 10 (some (hN (sR h58 a0 9 (some (hN (sR h54 a0 8 (some (hN (sR h50 a0 7 (some (hN (sR h46 a0 6 (some (hN (sR h42 a0 5 (some (hN (sR h38 a0 4 (some (hN (sR h34 a0 3 (some (hN (sR h30 a0 2 (some (hN (sR (sR (sR (sR (sR (sR (sR (sR h3 (hN h) (Int32.toNatClampNeg 0) (some 10)) (hN h) (Int32.toNatClampNeg 1) (some 11)) (hN h) (Int32.toNatClampNeg 2) (some 12)) (hN h) (Int32.toNatClampNeg 3) (some 13)) (hN h) (Int32.toNatClampNeg 4) (some 14)) (hN h) (Int32.toNatClampNeg 5) (some 15)) (hN h) (Int32.toNatClampNeg 6) (some 16)) a0 0 (some (hN h)))))))))))))))))))))))))))))) a0 20 (-1)))))))))))))))))))))))))))))))))))))) q114 ∧ ∀ (h116 : PH), q114 h116 → ((hK h116 a0).1 = 8) ∧ ∃ (q117 : PH → Prop), CV l x mX8_begin 1 0 0 [.ref a0] h116 q117 ∧ ∀ (h120 : PH), q117 h120 → Q none h120) :
    Gm l x mX8_init 2 0 [(0, .ref a0)] [] h rc rs n0 Q X := by
  refine g_aload_n dX8_init_0 rfl 0 rfl ?_
  refine g_objInit dX8_init_1 bw_1169 bw_30 bw_31 (by decide) (Nat.le_of_ble_eq_true rfl) ?_
  refine g_aload_n dX8_init_4 rfl 0 rfl ?_
  refine g_bipush (v := 7) dX8_init_5 (by decide) ?_
  obtain ⟨e1, e2, z4, K⟩ := K
  refine g_newq (t := 8) (rc' := (rc - 1)) (rs' := (rs - 7)) (N := 7) dX8_init_7 (Or.inr (Or.inr (Or.inr rfl))) rfl bw_1170 z4 (by decide) (by decide) (by decide) (by omega) (by omega) ?_
  generalize e142 : (nw h (108, 7)) = h3
  replace K := K h3 e142.symm
  refine g_dup dX8_init_10 rfl ?_
  refine g_iconst (v := 0) dX8_init_11 (by decide) ?_
  obtain ⟨z5, K⟩ := K
  refine g_ldcS (j := 10) dX8_init_12 z5 ?_
  obtain ⟨e6, e7, z8, K⟩ := K
  refine g_sast dX8_init_14 z8 e6 e7 ?_
  refine g_dup dX8_init_15 rfl ?_
  refine g_iconst (v := 1) dX8_init_16 (by decide) ?_
  obtain ⟨z9, K⟩ := K
  refine g_ldcS (j := 11) dX8_init_17 z9 ?_
  obtain ⟨e10, z11, K⟩ := K
  refine g_sast dX8_init_19 z11 (kkR e6) (kvR e10) ?_
  refine g_dup dX8_init_20 rfl ?_
  refine g_iconst (v := 2) dX8_init_21 (by decide) ?_
  obtain ⟨z12, K⟩ := K
  refine g_ldcS (j := 12) dX8_init_22 z12 ?_
  obtain ⟨e13, z14, K⟩ := K
  refine g_sast dX8_init_24 z14 (kkR (kkR e6)) (kvR (kvR e13)) ?_
  refine g_dup dX8_init_25 rfl ?_
  refine g_iconst (v := 3) dX8_init_26 (by decide) ?_
  obtain ⟨z15, K⟩ := K
  refine g_ldcS (j := 13) dX8_init_27 z15 ?_
  obtain ⟨e16, z17, K⟩ := K
  refine g_sast dX8_init_29 z17 (kkR (kkR (kkR e6))) (kvR (kvR (kvR e16))) ?_
  refine g_dup dX8_init_30 rfl ?_
  refine g_iconst (v := 4) dX8_init_31 (by decide) ?_
  obtain ⟨z18, K⟩ := K
  refine g_ldcS (j := 14) dX8_init_32 z18 ?_
  obtain ⟨e19, z20, K⟩ := K
  refine g_sast dX8_init_34 z20 (kkR (kkR (kkR (kkR e6)))) (kvR (kvR (kvR (kvR e19)))) ?_
  refine g_dup dX8_init_35 rfl ?_
  refine g_iconst (v := 5) dX8_init_36 (by decide) ?_
  obtain ⟨z21, K⟩ := K
  refine g_ldcS (j := 15) dX8_init_37 z21 ?_
  obtain ⟨e22, z23, K⟩ := K
  refine g_sast dX8_init_39 z23 (kkR (kkR (kkR (kkR (kkR e6))))) (kvR (kvR (kvR (kvR (kvR e22))))) ?_
  refine g_dup dX8_init_40 rfl ?_
  refine g_bipush (v := 6) dX8_init_41 (by decide) ?_
  obtain ⟨z24, K⟩ := K
  refine g_ldcS (j := 16) dX8_init_43 z24 ?_
  obtain ⟨e25, z26, K⟩ := K
  refine g_sast dX8_init_45 z26 (kkR (kkR (kkR (kkR (kkR (kkR e6)))))) (kvR (kvR (kvR (kvR (kvR (kvR e25)))))) ?_
  obtain ⟨e27, K⟩ := K
  refine g_putr (c := 8) (k := 0) dX8_init_46 fc_8 (by decide) (by decide) bw_1198 (Or.inr ⟨rfl, rfl, rfl⟩) (Or.inr ⟨_, rfl⟩) (kkR (kkR (kkR (kkR (kkR (kkR (kkR e27))))))) ?_
  refine g_aload_n dX8_init_49 rfl 0 rfl ?_
  refine g_sipush (v := 312) dX8_init_50 (by decide) ?_
  obtain ⟨e28, e29, K⟩ := K
  refine g_newa (t := 0) (rc' := (rc - 2)) (rs' := (rs - 319)) (N := 312) dX8_init_53 (Or.inl ⟨rfl, rfl⟩) bw_348 (by decide) (by decide) (by decide) (by omega) (by omega) ?_
  generalize e141 : (nw (sR (sR (sR (sR (sR (sR (sR (sR h3 (hN h) (Int32.toNatClampNeg 0) (some 10)) (hN h) (Int32.toNatClampNeg 1) (some 11)) (hN h) (Int32.toNatClampNeg 2) (some 12)) (hN h) (Int32.toNatClampNeg 3) (some 13)) (hN h) (Int32.toNatClampNeg 4) (some 14)) (hN h) (Int32.toNatClampNeg 5) (some 15)) (hN h) (Int32.toNatClampNeg 6) (some 16)) a0 0 (some (hN h))) (100, 312)) = h30
  replace K := K h30 e141.symm
  obtain ⟨e31, K⟩ := K
  refine g_putr (c := 8) (k := 2) dX8_init_55 fc_8 (by decide) (by decide) bw_1200 (Or.inr ⟨rfl, rfl, rfl⟩) (Or.inr ⟨_, rfl⟩) e31 ?_
  refine g_aload_n dX8_init_58 rfl 0 rfl ?_
  refine g_iconst (v := 3) dX8_init_59 (by decide) ?_
  obtain ⟨e32, e33, K⟩ := K
  refine g_newa (t := 0) (rc' := (rc - 3)) (rs' := (rs - 322)) (N := 3) dX8_init_60 (Or.inl ⟨rfl, rfl⟩) bw_348 (by decide) (by decide) (by decide) (by omega) (by omega) ?_
  generalize e140 : (nw (sR h30 a0 2 (some (hN (sR (sR (sR (sR (sR (sR (sR (sR h3 (hN h) (Int32.toNatClampNeg 0) (some 10)) (hN h) (Int32.toNatClampNeg 1) (some 11)) (hN h) (Int32.toNatClampNeg 2) (some 12)) (hN h) (Int32.toNatClampNeg 3) (some 13)) (hN h) (Int32.toNatClampNeg 4) (some 14)) (hN h) (Int32.toNatClampNeg 5) (some 15)) (hN h) (Int32.toNatClampNeg 6) (some 16)) a0 0 (some (hN h)))))) (100, 3)) = h34
  replace K := K h34 e140.symm
  obtain ⟨e35, K⟩ := K
  refine g_putr (c := 8) (k := 3) dX8_init_62 fc_8 (by decide) (by decide) bw_1201 (Or.inr ⟨rfl, rfl, rfl⟩) (Or.inr ⟨_, rfl⟩) e35 ?_
  refine g_aload_n dX8_init_65 rfl 0 rfl ?_
  refine g_bipush (v := 7) dX8_init_66 (by decide) ?_
  obtain ⟨e36, e37, K⟩ := K
  refine g_newa (t := 0) (rc' := (rc - 4)) (rs' := (rs - 329)) (N := 7) dX8_init_68 (Or.inl ⟨rfl, rfl⟩) bw_348 (by decide) (by decide) (by decide) (by omega) (by omega) ?_
  generalize e139 : (nw (sR h34 a0 3 (some (hN (sR h30 a0 2 (some (hN (sR (sR (sR (sR (sR (sR (sR (sR h3 (hN h) (Int32.toNatClampNeg 0) (some 10)) (hN h) (Int32.toNatClampNeg 1) (some 11)) (hN h) (Int32.toNatClampNeg 2) (some 12)) (hN h) (Int32.toNatClampNeg 3) (some 13)) (hN h) (Int32.toNatClampNeg 4) (some 14)) (hN h) (Int32.toNatClampNeg 5) (some 15)) (hN h) (Int32.toNatClampNeg 6) (some 16)) a0 0 (some (hN h))))))))) (100, 7)) = h38
  replace K := K h38 e139.symm
  obtain ⟨e39, K⟩ := K
  refine g_putr (c := 8) (k := 4) dX8_init_70 fc_8 (by decide) (by decide) bw_1202 (Or.inr ⟨rfl, rfl, rfl⟩) (Or.inr ⟨_, rfl⟩) e39 ?_
  refine g_aload_n dX8_init_73 rfl 0 rfl ?_
  refine g_bipush (v := 7) dX8_init_74 (by decide) ?_
  obtain ⟨e40, e41, K⟩ := K
  refine g_newa (t := 0) (rc' := (rc - 5)) (rs' := (rs - 336)) (N := 7) dX8_init_76 (Or.inl ⟨rfl, rfl⟩) bw_348 (by decide) (by decide) (by decide) (by omega) (by omega) ?_
  generalize e138 : (nw (sR h38 a0 4 (some (hN (sR h34 a0 3 (some (hN (sR h30 a0 2 (some (hN (sR (sR (sR (sR (sR (sR (sR (sR h3 (hN h) (Int32.toNatClampNeg 0) (some 10)) (hN h) (Int32.toNatClampNeg 1) (some 11)) (hN h) (Int32.toNatClampNeg 2) (some 12)) (hN h) (Int32.toNatClampNeg 3) (some 13)) (hN h) (Int32.toNatClampNeg 4) (some 14)) (hN h) (Int32.toNatClampNeg 5) (some 15)) (hN h) (Int32.toNatClampNeg 6) (some 16)) a0 0 (some (hN h)))))))))))) (100, 7)) = h42
  replace K := K h42 e138.symm
  obtain ⟨e43, K⟩ := K
  refine g_putr (c := 8) (k := 5) dX8_init_78 fc_8 (by decide) (by decide) bw_1203 (Or.inr ⟨rfl, rfl, rfl⟩) (Or.inr ⟨_, rfl⟩) e43 ?_
  refine g_aload_n dX8_init_81 rfl 0 rfl ?_
  refine g_bipush (v := 12) dX8_init_82 (by decide) ?_
  obtain ⟨e44, e45, K⟩ := K
  refine g_newa (t := 0) (rc' := (rc - 6)) (rs' := (rs - 348)) (N := 12) dX8_init_84 (Or.inl ⟨rfl, rfl⟩) bw_348 (by decide) (by decide) (by decide) (by omega) (by omega) ?_
  generalize e137 : (nw (sR h42 a0 5 (some (hN (sR h38 a0 4 (some (hN (sR h34 a0 3 (some (hN (sR h30 a0 2 (some (hN (sR (sR (sR (sR (sR (sR (sR (sR h3 (hN h) (Int32.toNatClampNeg 0) (some 10)) (hN h) (Int32.toNatClampNeg 1) (some 11)) (hN h) (Int32.toNatClampNeg 2) (some 12)) (hN h) (Int32.toNatClampNeg 3) (some 13)) (hN h) (Int32.toNatClampNeg 4) (some 14)) (hN h) (Int32.toNatClampNeg 5) (some 15)) (hN h) (Int32.toNatClampNeg 6) (some 16)) a0 0 (some (hN h))))))))))))))) (100, 12)) = h46
  replace K := K h46 e137.symm
  obtain ⟨e47, K⟩ := K
  refine g_putr (c := 8) (k := 6) dX8_init_86 fc_8 (by decide) (by decide) bw_1204 (Or.inr ⟨rfl, rfl, rfl⟩) (Or.inr ⟨_, rfl⟩) e47 ?_
  refine g_aload_n dX8_init_89 rfl 0 rfl ?_
  refine g_bipush (v := 12) dX8_init_90 (by decide) ?_
  obtain ⟨e48, e49, K⟩ := K
  refine g_newa (t := 0) (rc' := (rc - 7)) (rs' := (rs - 360)) (N := 12) dX8_init_92 (Or.inl ⟨rfl, rfl⟩) bw_348 (by decide) (by decide) (by decide) (by omega) (by omega) ?_
  generalize e136 : (nw (sR h46 a0 6 (some (hN (sR h42 a0 5 (some (hN (sR h38 a0 4 (some (hN (sR h34 a0 3 (some (hN (sR h30 a0 2 (some (hN (sR (sR (sR (sR (sR (sR (sR (sR h3 (hN h) (Int32.toNatClampNeg 0) (some 10)) (hN h) (Int32.toNatClampNeg 1) (some 11)) (hN h) (Int32.toNatClampNeg 2) (some 12)) (hN h) (Int32.toNatClampNeg 3) (some 13)) (hN h) (Int32.toNatClampNeg 4) (some 14)) (hN h) (Int32.toNatClampNeg 5) (some 15)) (hN h) (Int32.toNatClampNeg 6) (some 16)) a0 0 (some (hN h)))))))))))))))))) (100, 12)) = h50
  replace K := K h50 e136.symm
  obtain ⟨e51, K⟩ := K
  refine g_putr (c := 8) (k := 7) dX8_init_94 fc_8 (by decide) (by decide) bw_1205 (Or.inr ⟨rfl, rfl, rfl⟩) (Or.inr ⟨_, rfl⟩) e51 ?_
  refine g_aload_n dX8_init_97 rfl 0 rfl ?_
  refine g_bipush (v := 80) dX8_init_98 (by decide) ?_
  obtain ⟨e52, e53, K⟩ := K
  refine g_newa (t := 0) (rc' := (rc - 8)) (rs' := (rs - 440)) (N := 80) dX8_init_100 (Or.inl ⟨rfl, rfl⟩) bw_348 (by decide) (by decide) (by decide) (by omega) (by omega) ?_
  generalize e135 : (nw (sR h50 a0 7 (some (hN (sR h46 a0 6 (some (hN (sR h42 a0 5 (some (hN (sR h38 a0 4 (some (hN (sR h34 a0 3 (some (hN (sR h30 a0 2 (some (hN (sR (sR (sR (sR (sR (sR (sR (sR h3 (hN h) (Int32.toNatClampNeg 0) (some 10)) (hN h) (Int32.toNatClampNeg 1) (some 11)) (hN h) (Int32.toNatClampNeg 2) (some 12)) (hN h) (Int32.toNatClampNeg 3) (some 13)) (hN h) (Int32.toNatClampNeg 4) (some 14)) (hN h) (Int32.toNatClampNeg 5) (some 15)) (hN h) (Int32.toNatClampNeg 6) (some 16)) a0 0 (some (hN h))))))))))))))))))))) (100, 80)) = h54
  replace K := K h54 e135.symm
  obtain ⟨e55, K⟩ := K
  refine g_putr (c := 8) (k := 8) dX8_init_102 fc_8 (by decide) (by decide) bw_1206 (Or.inr ⟨rfl, rfl, rfl⟩) (Or.inr ⟨_, rfl⟩) e55 ?_
  refine g_aload_n dX8_init_105 rfl 0 rfl ?_
  refine g_bipush (v := 80) dX8_init_106 (by decide) ?_
  obtain ⟨e56, e57, K⟩ := K
  refine g_newa (t := 0) (rc' := (rc - 9)) (rs' := (rs - 520)) (N := 80) dX8_init_108 (Or.inl ⟨rfl, rfl⟩) bw_348 (by decide) (by decide) (by decide) (by omega) (by omega) ?_
  generalize e134 : (nw (sR h54 a0 8 (some (hN (sR h50 a0 7 (some (hN (sR h46 a0 6 (some (hN (sR h42 a0 5 (some (hN (sR h38 a0 4 (some (hN (sR h34 a0 3 (some (hN (sR h30 a0 2 (some (hN (sR (sR (sR (sR (sR (sR (sR (sR h3 (hN h) (Int32.toNatClampNeg 0) (some 10)) (hN h) (Int32.toNatClampNeg 1) (some 11)) (hN h) (Int32.toNatClampNeg 2) (some 12)) (hN h) (Int32.toNatClampNeg 3) (some 13)) (hN h) (Int32.toNatClampNeg 4) (some 14)) (hN h) (Int32.toNatClampNeg 5) (some 15)) (hN h) (Int32.toNatClampNeg 6) (some 16)) a0 0 (some (hN h)))))))))))))))))))))))) (100, 80)) = h58
  replace K := K h58 e134.symm
  obtain ⟨e59, K⟩ := K
  refine g_putr (c := 8) (k := 9) dX8_init_110 fc_8 (by decide) (by decide) bw_1207 (Or.inr ⟨rfl, rfl, rfl⟩) (Or.inr ⟨_, rfl⟩) e59 ?_
  refine g_aload_n dX8_init_113 rfl 0 rfl ?_
  refine g_sipush (v := 900) dX8_init_114 (by decide) ?_
  obtain ⟨e60, e61, K⟩ := K
  refine g_newa (t := 0) (rc' := (rc - 10)) (rs' := (rs - 1420)) (N := 900) dX8_init_117 (Or.inl ⟨rfl, rfl⟩) bw_348 (by decide) (by decide) (by decide) (by omega) (by omega) ?_
  generalize e133 : (nw (sR h58 a0 9 (some (hN (sR h54 a0 8 (some (hN (sR h50 a0 7 (some (hN (sR h46 a0 6 (some (hN (sR h42 a0 5 (some (hN (sR h38 a0 4 (some (hN (sR h34 a0 3 (some (hN (sR h30 a0 2 (some (hN (sR (sR (sR (sR (sR (sR (sR (sR h3 (hN h) (Int32.toNatClampNeg 0) (some 10)) (hN h) (Int32.toNatClampNeg 1) (some 11)) (hN h) (Int32.toNatClampNeg 2) (some 12)) (hN h) (Int32.toNatClampNeg 3) (some 13)) (hN h) (Int32.toNatClampNeg 4) (some 14)) (hN h) (Int32.toNatClampNeg 5) (some 15)) (hN h) (Int32.toNatClampNeg 6) (some 16)) a0 0 (some (hN h))))))))))))))))))))))))))) (100, 900)) = h62
  replace K := K h62 e133.symm
  obtain ⟨e63, K⟩ := K
  refine g_putr (c := 8) (k := 10) dX8_init_119 fc_8 (by decide) (by decide) bw_1208 (Or.inr ⟨rfl, rfl, rfl⟩) (Or.inr ⟨_, rfl⟩) e63 ?_
  refine g_aload_n dX8_init_122 rfl 0 rfl ?_
  refine g_iconst (v := (-1)) dX8_init_123 (by decide) ?_
  refine g_puti (c := 8) (k := 20) dX8_init_124 fc_8 (by decide) (by decide) bw_1218 (Or.inl rfl) rfl (kkR e63) ?_
  refine g_aload_n dX8_init_127 rfl 0 rfl ?_
  refine g_sipush (v := 312) dX8_init_128 (by decide) ?_
  obtain ⟨e64, e65, K⟩ := K
  refine g_newa (t := 0) (rc' := (rc - 11)) (rs' := (rs - 1732)) (N := 312) dX8_init_131 (Or.inl ⟨rfl, rfl⟩) bw_348 (by decide) (by decide) (by decide) (by omega) (by omega) ?_
  generalize e132 : (nw (sI (sR h62 a0 10 (some (hN (sR h58 a0 9 (some (hN (sR h54 a0 8 (some (hN (sR h50 a0 7 (some (hN (sR h46 a0 6 (some (hN (sR h42 a0 5 (some (hN (sR h38 a0 4 (some (hN (sR h34 a0 3 (some (hN (sR h30 a0 2 (some (hN (sR (sR (sR (sR (sR (sR (sR (sR h3 (hN h) (Int32.toNatClampNeg 0) (some 10)) (hN h) (Int32.toNatClampNeg 1) (some 11)) (hN h) (Int32.toNatClampNeg 2) (some 12)) (hN h) (Int32.toNatClampNeg 3) (some 13)) (hN h) (Int32.toNatClampNeg 4) (some 14)) (hN h) (Int32.toNatClampNeg 5) (some 15)) (hN h) (Int32.toNatClampNeg 6) (some 16)) a0 0 (some (hN h)))))))))))))))))))))))))))))) a0 20 (-1)) (100, 312)) = h66
  replace K := K h66 e132.symm
  obtain ⟨e67, K⟩ := K
  refine g_putr (c := 8) (k := 22) dX8_init_133 fc_8 (by decide) (by decide) bw_1220 (Or.inr ⟨rfl, rfl, rfl⟩) (Or.inr ⟨_, rfl⟩) e67 ?_
  refine g_aload_n dX8_init_136 rfl 0 rfl ?_
  refine g_sipush (v := 312) dX8_init_137 (by decide) ?_
  obtain ⟨e68, e69, K⟩ := K
  refine g_newa (t := 0) (rc' := (rc - 12)) (rs' := (rs - 2044)) (N := 312) dX8_init_140 (Or.inl ⟨rfl, rfl⟩) bw_348 (by decide) (by decide) (by decide) (by omega) (by omega) ?_
  generalize e131 : (nw (sR h66 a0 22 (some (hN (sI (sR h62 a0 10 (some (hN (sR h58 a0 9 (some (hN (sR h54 a0 8 (some (hN (sR h50 a0 7 (some (hN (sR h46 a0 6 (some (hN (sR h42 a0 5 (some (hN (sR h38 a0 4 (some (hN (sR h34 a0 3 (some (hN (sR h30 a0 2 (some (hN (sR (sR (sR (sR (sR (sR (sR (sR h3 (hN h) (Int32.toNatClampNeg 0) (some 10)) (hN h) (Int32.toNatClampNeg 1) (some 11)) (hN h) (Int32.toNatClampNeg 2) (some 12)) (hN h) (Int32.toNatClampNeg 3) (some 13)) (hN h) (Int32.toNatClampNeg 4) (some 14)) (hN h) (Int32.toNatClampNeg 5) (some 15)) (hN h) (Int32.toNatClampNeg 6) (some 16)) a0 0 (some (hN h)))))))))))))))))))))))))))))) a0 20 (-1))))) (100, 312)) = h70
  replace K := K h70 e131.symm
  obtain ⟨e71, K⟩ := K
  refine g_putr (c := 8) (k := 23) dX8_init_142 fc_8 (by decide) (by decide) bw_1221 (Or.inr ⟨rfl, rfl, rfl⟩) (Or.inr ⟨_, rfl⟩) e71 ?_
  refine g_aload_n dX8_init_145 rfl 0 rfl ?_
  refine g_sipush (v := 12480) dX8_init_146 (by decide) ?_
  obtain ⟨e72, e73, K⟩ := K
  refine g_newa (t := 0) (rc' := (rc - 13)) (rs' := (rs - 14524)) (N := 12480) dX8_init_149 (Or.inl ⟨rfl, rfl⟩) bw_348 (by decide) (by decide) (by decide) (by omega) (by omega) ?_
  generalize e130 : (nw (sR h70 a0 23 (some (hN (sR h66 a0 22 (some (hN (sI (sR h62 a0 10 (some (hN (sR h58 a0 9 (some (hN (sR h54 a0 8 (some (hN (sR h50 a0 7 (some (hN (sR h46 a0 6 (some (hN (sR h42 a0 5 (some (hN (sR h38 a0 4 (some (hN (sR h34 a0 3 (some (hN (sR h30 a0 2 (some (hN (sR (sR (sR (sR (sR (sR (sR (sR h3 (hN h) (Int32.toNatClampNeg 0) (some 10)) (hN h) (Int32.toNatClampNeg 1) (some 11)) (hN h) (Int32.toNatClampNeg 2) (some 12)) (hN h) (Int32.toNatClampNeg 3) (some 13)) (hN h) (Int32.toNatClampNeg 4) (some 14)) (hN h) (Int32.toNatClampNeg 5) (some 15)) (hN h) (Int32.toNatClampNeg 6) (some 16)) a0 0 (some (hN h)))))))))))))))))))))))))))))) a0 20 (-1)))))))) (100, 12480)) = h74
  replace K := K h74 e130.symm
  obtain ⟨e75, K⟩ := K
  refine g_putr (c := 8) (k := 25) dX8_init_151 fc_8 (by decide) (by decide) bw_1223 (Or.inr ⟨rfl, rfl, rfl⟩) (Or.inr ⟨_, rfl⟩) e75 ?_
  refine g_aload_n dX8_init_154 rfl 0 rfl ?_
  refine g_bipush (v := 8) dX8_init_155 (by decide) ?_
  obtain ⟨e76, e77, K⟩ := K
  refine g_newa (t := 0) (rc' := (rc - 14)) (rs' := (rs - 14532)) (N := 8) dX8_init_157 (Or.inl ⟨rfl, rfl⟩) bw_348 (by decide) (by decide) (by decide) (by omega) (by omega) ?_
  generalize e129 : (nw (sR h74 a0 25 (some (hN (sR h70 a0 23 (some (hN (sR h66 a0 22 (some (hN (sI (sR h62 a0 10 (some (hN (sR h58 a0 9 (some (hN (sR h54 a0 8 (some (hN (sR h50 a0 7 (some (hN (sR h46 a0 6 (some (hN (sR h42 a0 5 (some (hN (sR h38 a0 4 (some (hN (sR h34 a0 3 (some (hN (sR h30 a0 2 (some (hN (sR (sR (sR (sR (sR (sR (sR (sR h3 (hN h) (Int32.toNatClampNeg 0) (some 10)) (hN h) (Int32.toNatClampNeg 1) (some 11)) (hN h) (Int32.toNatClampNeg 2) (some 12)) (hN h) (Int32.toNatClampNeg 3) (some 13)) (hN h) (Int32.toNatClampNeg 4) (some 14)) (hN h) (Int32.toNatClampNeg 5) (some 15)) (hN h) (Int32.toNatClampNeg 6) (some 16)) a0 0 (some (hN h)))))))))))))))))))))))))))))) a0 20 (-1))))))))))) (100, 8)) = h78
  replace K := K h78 e129.symm
  obtain ⟨e79, K⟩ := K
  refine g_putr (c := 8) (k := 27) dX8_init_159 fc_8 (by decide) (by decide) bw_1225 (Or.inr ⟨rfl, rfl, rfl⟩) (Or.inr ⟨_, rfl⟩) e79 ?_
  refine g_aload_n dX8_init_162 rfl 0 rfl ?_
  refine g_bipush (v := 8) dX8_init_163 (by decide) ?_
  obtain ⟨e80, e81, K⟩ := K
  refine g_newa (t := 0) (rc' := (rc - 15)) (rs' := (rs - 14540)) (N := 8) dX8_init_165 (Or.inl ⟨rfl, rfl⟩) bw_348 (by decide) (by decide) (by decide) (by omega) (by omega) ?_
  generalize e128 : (nw (sR h78 a0 27 (some (hN (sR h74 a0 25 (some (hN (sR h70 a0 23 (some (hN (sR h66 a0 22 (some (hN (sI (sR h62 a0 10 (some (hN (sR h58 a0 9 (some (hN (sR h54 a0 8 (some (hN (sR h50 a0 7 (some (hN (sR h46 a0 6 (some (hN (sR h42 a0 5 (some (hN (sR h38 a0 4 (some (hN (sR h34 a0 3 (some (hN (sR h30 a0 2 (some (hN (sR (sR (sR (sR (sR (sR (sR (sR h3 (hN h) (Int32.toNatClampNeg 0) (some 10)) (hN h) (Int32.toNatClampNeg 1) (some 11)) (hN h) (Int32.toNatClampNeg 2) (some 12)) (hN h) (Int32.toNatClampNeg 3) (some 13)) (hN h) (Int32.toNatClampNeg 4) (some 14)) (hN h) (Int32.toNatClampNeg 5) (some 15)) (hN h) (Int32.toNatClampNeg 6) (some 16)) a0 0 (some (hN h)))))))))))))))))))))))))))))) a0 20 (-1)))))))))))))) (100, 8)) = h82
  replace K := K h82 e128.symm
  obtain ⟨e83, K⟩ := K
  refine g_putr (c := 8) (k := 28) dX8_init_167 fc_8 (by decide) (by decide) bw_1226 (Or.inr ⟨rfl, rfl, rfl⟩) (Or.inr ⟨_, rfl⟩) e83 ?_
  refine g_aload_n dX8_init_170 rfl 0 rfl ?_
  refine g_sipush (v := 720) dX8_init_171 (by decide) ?_
  obtain ⟨e84, e85, K⟩ := K
  refine g_newa (t := 0) (rc' := (rc - 16)) (rs' := (rs - 15260)) (N := 720) dX8_init_174 (Or.inl ⟨rfl, rfl⟩) bw_348 (by decide) (by decide) (by decide) (by omega) (by omega) ?_
  generalize e127 : (nw (sR h82 a0 28 (some (hN (sR h78 a0 27 (some (hN (sR h74 a0 25 (some (hN (sR h70 a0 23 (some (hN (sR h66 a0 22 (some (hN (sI (sR h62 a0 10 (some (hN (sR h58 a0 9 (some (hN (sR h54 a0 8 (some (hN (sR h50 a0 7 (some (hN (sR h46 a0 6 (some (hN (sR h42 a0 5 (some (hN (sR h38 a0 4 (some (hN (sR h34 a0 3 (some (hN (sR h30 a0 2 (some (hN (sR (sR (sR (sR (sR (sR (sR (sR h3 (hN h) (Int32.toNatClampNeg 0) (some 10)) (hN h) (Int32.toNatClampNeg 1) (some 11)) (hN h) (Int32.toNatClampNeg 2) (some 12)) (hN h) (Int32.toNatClampNeg 3) (some 13)) (hN h) (Int32.toNatClampNeg 4) (some 14)) (hN h) (Int32.toNatClampNeg 5) (some 15)) (hN h) (Int32.toNatClampNeg 6) (some 16)) a0 0 (some (hN h)))))))))))))))))))))))))))))) a0 20 (-1))))))))))))))))) (100, 720)) = h86
  replace K := K h86 e127.symm
  obtain ⟨e87, K⟩ := K
  refine g_putr (c := 8) (k := 31) dX8_init_176 fc_8 (by decide) (by decide) bw_1229 (Or.inr ⟨rfl, rfl, rfl⟩) (Or.inr ⟨_, rfl⟩) e87 ?_
  refine g_aload_n dX8_init_179 rfl 0 rfl ?_
  refine g_sipush (v := 312) dX8_init_180 (by decide) ?_
  obtain ⟨e88, e89, K⟩ := K
  refine g_newa (t := 0) (rc' := (rc - 17)) (rs' := (rs - 15572)) (N := 312) dX8_init_183 (Or.inl ⟨rfl, rfl⟩) bw_348 (by decide) (by decide) (by decide) (by omega) (by omega) ?_
  generalize e126 : (nw (sR h86 a0 31 (some (hN (sR h82 a0 28 (some (hN (sR h78 a0 27 (some (hN (sR h74 a0 25 (some (hN (sR h70 a0 23 (some (hN (sR h66 a0 22 (some (hN (sI (sR h62 a0 10 (some (hN (sR h58 a0 9 (some (hN (sR h54 a0 8 (some (hN (sR h50 a0 7 (some (hN (sR h46 a0 6 (some (hN (sR h42 a0 5 (some (hN (sR h38 a0 4 (some (hN (sR h34 a0 3 (some (hN (sR h30 a0 2 (some (hN (sR (sR (sR (sR (sR (sR (sR (sR h3 (hN h) (Int32.toNatClampNeg 0) (some 10)) (hN h) (Int32.toNatClampNeg 1) (some 11)) (hN h) (Int32.toNatClampNeg 2) (some 12)) (hN h) (Int32.toNatClampNeg 3) (some 13)) (hN h) (Int32.toNatClampNeg 4) (some 14)) (hN h) (Int32.toNatClampNeg 5) (some 15)) (hN h) (Int32.toNatClampNeg 6) (some 16)) a0 0 (some (hN h)))))))))))))))))))))))))))))) a0 20 (-1)))))))))))))))))))) (100, 312)) = h90
  replace K := K h90 e126.symm
  obtain ⟨e91, K⟩ := K
  refine g_putr (c := 8) (k := 33) dX8_init_185 fc_8 (by decide) (by decide) bw_1231 (Or.inr ⟨rfl, rfl, rfl⟩) (Or.inr ⟨_, rfl⟩) e91 ?_
  refine g_aload_n dX8_init_188 rfl 0 rfl ?_
  refine g_sipush (v := 312) dX8_init_189 (by decide) ?_
  obtain ⟨e92, e93, K⟩ := K
  refine g_newa (t := 0) (rc' := (rc - 18)) (rs' := (rs - 15884)) (N := 312) dX8_init_192 (Or.inl ⟨rfl, rfl⟩) bw_348 (by decide) (by decide) (by decide) (by omega) (by omega) ?_
  generalize e125 : (nw (sR h90 a0 33 (some (hN (sR h86 a0 31 (some (hN (sR h82 a0 28 (some (hN (sR h78 a0 27 (some (hN (sR h74 a0 25 (some (hN (sR h70 a0 23 (some (hN (sR h66 a0 22 (some (hN (sI (sR h62 a0 10 (some (hN (sR h58 a0 9 (some (hN (sR h54 a0 8 (some (hN (sR h50 a0 7 (some (hN (sR h46 a0 6 (some (hN (sR h42 a0 5 (some (hN (sR h38 a0 4 (some (hN (sR h34 a0 3 (some (hN (sR h30 a0 2 (some (hN (sR (sR (sR (sR (sR (sR (sR (sR h3 (hN h) (Int32.toNatClampNeg 0) (some 10)) (hN h) (Int32.toNatClampNeg 1) (some 11)) (hN h) (Int32.toNatClampNeg 2) (some 12)) (hN h) (Int32.toNatClampNeg 3) (some 13)) (hN h) (Int32.toNatClampNeg 4) (some 14)) (hN h) (Int32.toNatClampNeg 5) (some 15)) (hN h) (Int32.toNatClampNeg 6) (some 16)) a0 0 (some (hN h)))))))))))))))))))))))))))))) a0 20 (-1))))))))))))))))))))))) (100, 312)) = h94
  replace K := K h94 e125.symm
  obtain ⟨e95, K⟩ := K
  refine g_putr (c := 8) (k := 37) dX8_init_194 fc_8 (by decide) (by decide) bw_1235 (Or.inr ⟨rfl, rfl, rfl⟩) (Or.inr ⟨_, rfl⟩) e95 ?_
  refine g_aload_n dX8_init_197 rfl 0 rfl ?_
  refine g_sipush (v := 12480) dX8_init_198 (by decide) ?_
  obtain ⟨e96, e97, K⟩ := K
  refine g_newa (t := 0) (rc' := (rc - 19)) (rs' := (rs - 28364)) (N := 12480) dX8_init_201 (Or.inl ⟨rfl, rfl⟩) bw_348 (by decide) (by decide) (by decide) (by omega) (by omega) ?_
  generalize e124 : (nw (sR h94 a0 37 (some (hN (sR h90 a0 33 (some (hN (sR h86 a0 31 (some (hN (sR h82 a0 28 (some (hN (sR h78 a0 27 (some (hN (sR h74 a0 25 (some (hN (sR h70 a0 23 (some (hN (sR h66 a0 22 (some (hN (sI (sR h62 a0 10 (some (hN (sR h58 a0 9 (some (hN (sR h54 a0 8 (some (hN (sR h50 a0 7 (some (hN (sR h46 a0 6 (some (hN (sR h42 a0 5 (some (hN (sR h38 a0 4 (some (hN (sR h34 a0 3 (some (hN (sR h30 a0 2 (some (hN (sR (sR (sR (sR (sR (sR (sR (sR h3 (hN h) (Int32.toNatClampNeg 0) (some 10)) (hN h) (Int32.toNatClampNeg 1) (some 11)) (hN h) (Int32.toNatClampNeg 2) (some 12)) (hN h) (Int32.toNatClampNeg 3) (some 13)) (hN h) (Int32.toNatClampNeg 4) (some 14)) (hN h) (Int32.toNatClampNeg 5) (some 15)) (hN h) (Int32.toNatClampNeg 6) (some 16)) a0 0 (some (hN h)))))))))))))))))))))))))))))) a0 20 (-1)))))))))))))))))))))))))) (100, 12480)) = h98
  replace K := K h98 e124.symm
  obtain ⟨e99, K⟩ := K
  refine g_putr (c := 8) (k := 38) dX8_init_203 fc_8 (by decide) (by decide) bw_1236 (Or.inr ⟨rfl, rfl, rfl⟩) (Or.inr ⟨_, rfl⟩) e99 ?_
  refine g_aload_n dX8_init_206 rfl 0 rfl ?_
  refine g_bipush (v := 8) dX8_init_207 (by decide) ?_
  obtain ⟨e100, e101, K⟩ := K
  refine g_newa (t := 0) (rc' := (rc - 20)) (rs' := (rs - 28372)) (N := 8) dX8_init_209 (Or.inl ⟨rfl, rfl⟩) bw_348 (by decide) (by decide) (by decide) (by omega) (by omega) ?_
  generalize e123 : (nw (sR h98 a0 38 (some (hN (sR h94 a0 37 (some (hN (sR h90 a0 33 (some (hN (sR h86 a0 31 (some (hN (sR h82 a0 28 (some (hN (sR h78 a0 27 (some (hN (sR h74 a0 25 (some (hN (sR h70 a0 23 (some (hN (sR h66 a0 22 (some (hN (sI (sR h62 a0 10 (some (hN (sR h58 a0 9 (some (hN (sR h54 a0 8 (some (hN (sR h50 a0 7 (some (hN (sR h46 a0 6 (some (hN (sR h42 a0 5 (some (hN (sR h38 a0 4 (some (hN (sR h34 a0 3 (some (hN (sR h30 a0 2 (some (hN (sR (sR (sR (sR (sR (sR (sR (sR h3 (hN h) (Int32.toNatClampNeg 0) (some 10)) (hN h) (Int32.toNatClampNeg 1) (some 11)) (hN h) (Int32.toNatClampNeg 2) (some 12)) (hN h) (Int32.toNatClampNeg 3) (some 13)) (hN h) (Int32.toNatClampNeg 4) (some 14)) (hN h) (Int32.toNatClampNeg 5) (some 15)) (hN h) (Int32.toNatClampNeg 6) (some 16)) a0 0 (some (hN h)))))))))))))))))))))))))))))) a0 20 (-1))))))))))))))))))))))))))))) (100, 8)) = h102
  replace K := K h102 e123.symm
  obtain ⟨e103, K⟩ := K
  refine g_putr (c := 8) (k := 39) dX8_init_211 fc_8 (by decide) (by decide) bw_1237 (Or.inr ⟨rfl, rfl, rfl⟩) (Or.inr ⟨_, rfl⟩) e103 ?_
  refine g_aload_n dX8_init_214 rfl 0 rfl ?_
  refine g_bipush (v := 8) dX8_init_215 (by decide) ?_
  obtain ⟨e104, e105, K⟩ := K
  refine g_newa (t := 0) (rc' := (rc - 21)) (rs' := (rs - 28380)) (N := 8) dX8_init_217 (Or.inl ⟨rfl, rfl⟩) bw_348 (by decide) (by decide) (by decide) (by omega) (by omega) ?_
  generalize e122 : (nw (sR h102 a0 39 (some (hN (sR h98 a0 38 (some (hN (sR h94 a0 37 (some (hN (sR h90 a0 33 (some (hN (sR h86 a0 31 (some (hN (sR h82 a0 28 (some (hN (sR h78 a0 27 (some (hN (sR h74 a0 25 (some (hN (sR h70 a0 23 (some (hN (sR h66 a0 22 (some (hN (sI (sR h62 a0 10 (some (hN (sR h58 a0 9 (some (hN (sR h54 a0 8 (some (hN (sR h50 a0 7 (some (hN (sR h46 a0 6 (some (hN (sR h42 a0 5 (some (hN (sR h38 a0 4 (some (hN (sR h34 a0 3 (some (hN (sR h30 a0 2 (some (hN (sR (sR (sR (sR (sR (sR (sR (sR h3 (hN h) (Int32.toNatClampNeg 0) (some 10)) (hN h) (Int32.toNatClampNeg 1) (some 11)) (hN h) (Int32.toNatClampNeg 2) (some 12)) (hN h) (Int32.toNatClampNeg 3) (some 13)) (hN h) (Int32.toNatClampNeg 4) (some 14)) (hN h) (Int32.toNatClampNeg 5) (some 15)) (hN h) (Int32.toNatClampNeg 6) (some 16)) a0 0 (some (hN h)))))))))))))))))))))))))))))) a0 20 (-1)))))))))))))))))))))))))))))))) (100, 8)) = h106
  replace K := K h106 e122.symm
  obtain ⟨e107, K⟩ := K
  refine g_putr (c := 8) (k := 40) dX8_init_219 fc_8 (by decide) (by decide) bw_1238 (Or.inr ⟨rfl, rfl, rfl⟩) (Or.inr ⟨_, rfl⟩) e107 ?_
  refine g_aload_n dX8_init_222 rfl 0 rfl ?_
  refine g_iconst (v := 3) dX8_init_223 (by decide) ?_
  obtain ⟨e108, e109, K⟩ := K
  refine g_newa (t := 0) (rc' := (rc - 22)) (rs' := (rs - 28383)) (N := 3) dX8_init_224 (Or.inl ⟨rfl, rfl⟩) bw_348 (by decide) (by decide) (by decide) (by omega) (by omega) ?_
  generalize e121 : (nw (sR h106 a0 40 (some (hN (sR h102 a0 39 (some (hN (sR h98 a0 38 (some (hN (sR h94 a0 37 (some (hN (sR h90 a0 33 (some (hN (sR h86 a0 31 (some (hN (sR h82 a0 28 (some (hN (sR h78 a0 27 (some (hN (sR h74 a0 25 (some (hN (sR h70 a0 23 (some (hN (sR h66 a0 22 (some (hN (sI (sR h62 a0 10 (some (hN (sR h58 a0 9 (some (hN (sR h54 a0 8 (some (hN (sR h50 a0 7 (some (hN (sR h46 a0 6 (some (hN (sR h42 a0 5 (some (hN (sR h38 a0 4 (some (hN (sR h34 a0 3 (some (hN (sR h30 a0 2 (some (hN (sR (sR (sR (sR (sR (sR (sR (sR h3 (hN h) (Int32.toNatClampNeg 0) (some 10)) (hN h) (Int32.toNatClampNeg 1) (some 11)) (hN h) (Int32.toNatClampNeg 2) (some 12)) (hN h) (Int32.toNatClampNeg 3) (some 13)) (hN h) (Int32.toNatClampNeg 4) (some 14)) (hN h) (Int32.toNatClampNeg 5) (some 15)) (hN h) (Int32.toNatClampNeg 6) (some 16)) a0 0 (some (hN h)))))))))))))))))))))))))))))) a0 20 (-1))))))))))))))))))))))))))))))))))) (100, 3)) = h110
  replace K := K h110 e121.symm
  obtain ⟨e111, K⟩ := K
  refine g_putr (c := 8) (k := 41) dX8_init_226 fc_8 (by decide) (by decide) bw_1239 (Or.inr ⟨rfl, rfl, rfl⟩) (Or.inr ⟨_, rfl⟩) e111 ?_
  refine g_aload_n dX8_init_229 rfl 0 rfl ?_
  obtain ⟨b112, e113, K⟩ := K
  refine g_get (c := 8) (k := 4) (v := .ref b112) dX8_init_230 fc_8 (by decide) (by decide) bw_1202 (congrArg pr e113) (kkR e111) ?_
  obtain ⟨q114, C115, K⟩ := K
  refine g_callS (M' := mX8_layFirst) (As := [.ref b112]) (rest := []) (rc' := (rc - 22)) (rs' := (rs - 28383)) dX8_init_233 bw_1179 bw_1180 bw_9 bw_1181 ⟨by decide +kernel, by decide +kernel, show (parseMethodDescriptor mX8_layFirst.1.desc).map (fun d => d.parameters.length) = some 1 by decide +kernel⟩ (by decide) (by decide) (Nat.le_of_ble_eq_true rfl) C115 (Nat.le_of_eq (Nat.add_zero _)) (Nat.le_of_eq (Nat.add_zero _)) (fun _ _ h => h) ?_
  rintro _ h116 ⟨rfl, K1⟩ -
  replace K := K h116 K1
  show Gm l x mX8_init 2 236 [(0, .ref a0)] [] h116 (rc - 22) (rs - 28383) n0 Q X
  refine g_aload_n dX8_init_236 rfl 0 rfl ?_
  obtain ⟨e119, K⟩ := K
  obtain ⟨q117, C118, K⟩ := K
  refine g_callV (M' := mX8_begin) (b := a0) (As := []) (rest := []) (rc' := (rc - 22)) (rs' := (rs - 28383)) dX8_init_237 bw_1182 bw_1184 bs_35 bw_9 bw_1185 ⟨by decide +kernel, by decide +kernel, show (parseMethodDescriptor mX8_begin.1.desc).map (fun d => d.parameters.length) = some 0 by decide +kernel⟩ (by decide) (by decide) (Nat.le_of_ble_eq_true rfl) fc_8 (by decide) rfl e119 C118 (Nat.le_of_eq (Nat.add_zero _)) (Nat.le_of_eq (Nat.add_zero _)) (fun _ _ h => h) ?_
  rintro _ h120 ⟨rfl, K1⟩ -
  replace K := K h120 K1
  show Gm l x mX8_init 2 240 [(0, .ref a0)] [] h120 (rc - 22) (rs - 28383) n0 Q X
  exact g_vret dX8_init_240 rfl K
theorem dX8_readNumber_0 : decode cX8_readNumber 0 = .ok (.aload_n 0, 1) := by decide +kernel
theorem dX8_readNumber_1 : decode cX8_readNumber 1 = .ok (.iload_n 1, 1) := by decide +kernel
theorem dX8_readNumber_2 : decode cX8_readNumber 2 = .ok (.iload_n 2, 1) := by decide +kernel
theorem dX8_readNumber_3 : decode cX8_readNumber 3 = .ok (.invokevirtual 168, 3) := by decide +kernel
theorem dX8_readNumber_6 : decode cX8_readNumber 6 = .ok (.istore_n 3, 1) := by decide +kernel
theorem dX8_readNumber_7 : decode cX8_readNumber 7 = .ok (.aload_n 0, 1) := by decide +kernel
theorem dX8_readNumber_8 : decode cX8_readNumber 8 = .ok (.getfield 146, 3) := by decide +kernel
theorem dX8_readNumber_11 : decode cX8_readNumber 11 = .ok (.ifCond .ne 7, 3) := by decide +kernel
theorem dX8_readNumber_14 : decode cX8_readNumber 14 = .ok (.aload_n 0, 1) := by decide +kernel
theorem dX8_readNumber_15 : decode cX8_readNumber 15 = .ok (.invokevirtual 171, 3) := by decide +kernel
theorem dX8_readNumber_18 : decode cX8_readNumber 18 = .ok (.iload_n 3, 1) := by decide +kernel
theorem dX8_readNumber_19 : decode cX8_readNumber 19 = .ok (.ireturn, 1) := by decide +kernel
set_option maxRecDepth 20000 in
set_option maxHeartbeats 4000000 in
theorem vX8_readNumber_0 {l : Launch} {x : CX} {a0 : Nat} {x1 : Int32} {x2 : Int32} {h : PH} {rc rs n0 : Nat} {Q : Option Value → PH → Prop} {X : String → PH → Prop}
    (K : ((hK h a0).1 = 8) ∧ ∃ (q1 : Int32 → PH → Prop), CI l x mX8_numberNow 1 0 0 [.ref a0, .int x1, .int x2] h q1 ∧ ∀ (r5 : Int32) (h4 : PH), q1 r5 h4 → ((hK h4 a0).1 = 8) ∧ ((¬ (hI h4 a0 18) = 0 → Q (some (.int r5)) h4) ∧ ((hI h4 a0 18) = 0 → ∃ (q8 : PH → Prop), CV l x mX8_stepOn 1 0 0 [.ref a0] h4 q8 ∧ ∀ (h10 : PH), q8 h10 → Q (some (.int r5)) h10))) :
    Gm l x mX8_readNumber 2 0 [(0, .ref a0), (1, .int x1), (2, .int x2)] [] h rc rs n0 Q X := by
  refine g_aload_n dX8_readNumber_0 rfl 0 rfl ?_
  refine g_iload_n dX8_readNumber_1 rfl 1 rfl ?_
  refine g_iload_n dX8_readNumber_2 rfl 2 rfl ?_
  obtain ⟨e3, K⟩ := K
  obtain ⟨q1, C2, K⟩ := K
  refine g_callV (M' := mX8_numberNow) (b := a0) (As := [.int x1, .int x2]) (rest := []) (rc' := rc) (rs' := rs) dX8_readNumber_3 bw_1383 bw_1385 bs_48 bw_9 bw_1386 ⟨by decide +kernel, by decide +kernel, show (parseMethodDescriptor mX8_numberNow.1.desc).map (fun d => d.parameters.length) = some 2 by decide +kernel⟩ (by decide) (by decide) (Nat.le_of_ble_eq_true rfl) fc_8 (by decide) rfl e3 C2 (Nat.le_of_eq (Nat.add_zero _)) (Nat.le_of_eq (Nat.add_zero _)) (fun _ _ h => h) ?_
  rintro _ h4 ⟨r5, rfl, K1⟩ -
  replace K := K r5 h4 K1
  show Gm l x mX8_readNumber 2 6 [(0, .ref a0), (1, .int x1), (2, .int x2)] [.int r5] h4 rc rs n0 Q X
  refine g_istore_n (lv' := [(0, .ref a0), (1, .int x1), (2, .int x2), (3, .int r5)]) dX8_readNumber_6 rfl (by decide) rfl ?_
  refine g_aload_n dX8_readNumber_7 rfl 0 rfl ?_
  obtain ⟨e6, K⟩ := K
  refine g_get (c := 8) (k := 18) (v := .int (hI h4 a0 18)) dX8_readNumber_8 fc_8 (by decide) (by decide) bw_1216 rfl e6 ?_
  refine g_if_ne (tgt := 18) dX8_readNumber_11 (by decide) (fun c7 => ?_) (fun c7 => ?_)
  · replace K := K.1 c7
    refine g_iload_n dX8_readNumber_18 rfl 3 rfl ?_
    exact g_iret dX8_readNumber_19 rfl K
  · replace K := K.2 c7
    refine g_aload_n dX8_readNumber_14 rfl 0 rfl ?_
    obtain ⟨q8, C9, K⟩ := K
    refine g_callV (M' := mX8_stepOn) (b := a0) (As := []) (rest := []) (rc' := rc) (rs' := rs) dX8_readNumber_15 bw_1341 bw_1343 bs_40 bw_9 bw_1344 ⟨by decide +kernel, by decide +kernel, show (parseMethodDescriptor mX8_stepOn.1.desc).map (fun d => d.parameters.length) = some 0 by decide +kernel⟩ (by decide) (by decide) (Nat.le_of_ble_eq_true rfl) fc_8 (by decide) rfl e6 C9 (Nat.le_of_eq (Nat.add_zero _)) (Nat.le_of_eq (Nat.add_zero _)) (fun _ _ h => h) ?_
    rintro _ h10 ⟨rfl, K1⟩ -
    replace K := K h10 K1
    show Gm l x mX8_readNumber 2 18 [(0, .ref a0), (1, .int x1), (2, .int x2), (3, .int r5)] [] h10 rc rs n0 Q X
    refine g_iload_n dX8_readNumber_18 rfl 3 rfl ?_
    exact g_iret dX8_readNumber_19 rfl K
theorem dX8_floorNow_0 : decode cX8_floorNow 0 = .ok (.aload_n 0, 1) := by decide +kernel
theorem dX8_floorNow_1 : decode cX8_floorNow 1 = .ok (.iconst 0, 1) := by decide +kernel
theorem dX8_floorNow_2 : decode cX8_floorNow 2 = .ok (.bipush 99, 2) := by decide +kernel
theorem dX8_floorNow_4 : decode cX8_floorNow 4 = .ok (.invokevirtual 168, 3) := by decide +kernel
theorem dX8_floorNow_7 : decode cX8_floorNow 7 = .ok (.istore_n 1, 1) := by decide +kernel
theorem dX8_floorNow_8 : decode cX8_floorNow 8 = .ok (.aload_n 0, 1) := by decide +kernel
theorem dX8_floorNow_9 : decode cX8_floorNow 9 = .ok (.getfield 146, 3) := by decide +kernel
theorem dX8_floorNow_12 : decode cX8_floorNow 12 = .ok (.ifCond .ne 18, 3) := by decide +kernel
theorem dX8_floorNow_15 : decode cX8_floorNow 15 = .ok (.iload_n 1, 1) := by decide +kernel
theorem dX8_floorNow_16 : decode cX8_floorNow 16 = .ok (.aload_n 0, 1) := by decide +kernel
theorem dX8_floorNow_17 : decode cX8_floorNow 17 = .ok (.getfield 39, 3) := by decide +kernel
theorem dX8_floorNow_20 : decode cX8_floorNow 20 = .ok (.iconst 0, 1) := by decide +kernel
theorem dX8_floorNow_21 : decode cX8_floorNow 21 = .ok (.iaload, 1) := by decide +kernel
theorem dX8_floorNow_22 : decode cX8_floorNow 22 = .ok (.if_icmp .lt 8, 3) := by decide +kernel
theorem dX8_floorNow_25 : decode cX8_floorNow 25 = .ok (.aload_n 0, 1) := by decide +kernel
theorem dX8_floorNow_26 : decode cX8_floorNow 26 = .ok (.iconst 3, 1) := by decide +kernel
theorem dX8_floorNow_27 : decode cX8_floorNow 27 = .ok (.invokevirtual 164, 3) := by decide +kernel
theorem dX8_floorNow_30 : decode cX8_floorNow 30 = .ok (.iload_n 1, 1) := by decide +kernel
theorem dX8_floorNow_31 : decode cX8_floorNow 31 = .ok (.ireturn, 1) := by decide +kernel
set_option maxRecDepth 20000 in
set_option maxHeartbeats 4000000 in
theorem vX8_floorNow_0 {l : Launch} {x : CX} {a0 : Nat} {h : PH} {rc rs n0 : Nat} {Q : Option Value → PH → Prop} {X : String → PH → Prop}
    (K : ((hK h a0).1 = 8) ∧ ∃ (q1 : Int32 → PH → Prop), CI l x mX8_numberNow 1 0 0 [.ref a0, .int 0, .int 99] h q1 ∧ ∀ (r5 : Int32) (h4 : PH), q1 r5 h4 → ((hK h4 a0).1 = 8) ∧ ((¬ (hI h4 a0 18) = 0 → Q (some (.int r5)) h4) ∧ ((hI h4 a0 18) = 0 → ∃ b8, (hR h4 a0 5 = some b8) ∧ ((hK h4 b8).1 = 100) ∧ (vp_in 0 (hK h4 b8).2) ∧ ((r5 < (hI h4 b8 (Int32.toNatClampNeg 0)) → Q (some (.int r5)) h4) ∧ (¬ r5 < (hI h4 b8 (Int32.toNatClampNeg 0)) → ∃ (q13 : PH → Prop), CV l x mX8_wrong 0 0 0 [.ref a0, .int 3] h4 q13 ∧ ∀ (h15 : PH), q13 h15 → Q (some (.int r5)) h15))))) :
    Gm l x mX8_floorNow 2 0 [(0, .ref a0)] [] h rc rs n0 Q X := by
  refine g_aload_n dX8_floorNow_0 rfl 0 rfl ?_
  refine g_iconst (v := 0) dX8_floorNow_1 (by decide) ?_
  refine g_bipush (v := 99) dX8_floorNow_2 (by decide) ?_
  obtain ⟨e3, K⟩ := K
  obtain ⟨q1, C2, K⟩ := K
  refine g_callV (M' := mX8_numberNow) (b := a0) (As := [.int 0, .int 99]) (rest := []) (rc' := rc) (rs' := rs) dX8_floorNow_4 bw_1383 bw_1385 bs_48 bw_9 bw_1386 ⟨by decide +kernel, by decide +kernel, show (parseMethodDescriptor mX8_numberNow.1.desc).map (fun d => d.parameters.length) = some 2 by decide +kernel⟩ (by decide) (by decide) (Nat.le_of_ble_eq_true rfl) fc_8 (by decide) rfl e3 C2 (Nat.le_of_eq (Nat.add_zero _)) (Nat.le_of_eq (Nat.add_zero _)) (fun _ _ h => h) ?_
  rintro _ h4 ⟨r5, rfl, K1⟩ -
  replace K := K r5 h4 K1
  show Gm l x mX8_floorNow 2 7 [(0, .ref a0)] [.int r5] h4 rc rs n0 Q X
  refine g_istore_n (lv' := [(0, .ref a0), (1, .int r5)]) dX8_floorNow_7 rfl (by decide) rfl ?_
  refine g_aload_n dX8_floorNow_8 rfl 0 rfl ?_
  obtain ⟨e6, K⟩ := K
  refine g_get (c := 8) (k := 18) (v := .int (hI h4 a0 18)) dX8_floorNow_9 fc_8 (by decide) (by decide) bw_1216 rfl e6 ?_
  refine g_if_ne (tgt := 30) dX8_floorNow_12 (by decide) (fun c7 => ?_) (fun c7 => ?_)
  · replace K := K.1 c7
    refine g_iload_n dX8_floorNow_30 rfl 1 rfl ?_
    exact g_iret dX8_floorNow_31 rfl K
  · replace K := K.2 c7
    refine g_iload_n dX8_floorNow_15 rfl 1 rfl ?_
    refine g_aload_n dX8_floorNow_16 rfl 0 rfl ?_
    obtain ⟨b8, e9, K⟩ := K
    refine g_get (c := 8) (k := 5) (v := .ref b8) dX8_floorNow_17 fc_8 (by decide) (by decide) bw_1203 (congrArg pr e9) e6 ?_
    refine g_iconst (v := 0) dX8_floorNow_20 (by decide) ?_
    obtain ⟨e10, e11, K⟩ := K
    refine g_iald dX8_floorNow_21 e10 e11 ?_
    refine g_icmp_lt (tgt := 30) dX8_floorNow_22 (by decide) (fun c12 => ?_) (fun c12 => ?_)
    · replace K := K.1 c12
      refine g_iload_n dX8_floorNow_30 rfl 1 rfl ?_
      exact g_iret dX8_floorNow_31 rfl K
    · replace K := K.2 c12
      refine g_aload_n dX8_floorNow_25 rfl 0 rfl ?_
      refine g_iconst (v := 3) dX8_floorNow_26 (by decide) ?_
      obtain ⟨q13, C14, K⟩ := K
      refine g_callV (M' := mX8_wrong) (b := a0) (As := [.int 3]) (rest := []) (rc' := rc) (rs' := rs) dX8_floorNow_27 bw_1371 bw_1373 bs_45 bw_9 bw_1374 ⟨by decide +kernel, by decide +kernel, show (parseMethodDescriptor mX8_wrong.1.desc).map (fun d => d.parameters.length) = some 1 by decide +kernel⟩ (by decide) (by decide) (Nat.le_of_ble_eq_true rfl) fc_8 (by decide) rfl e6 C14 (Nat.le_of_eq (Nat.add_zero _)) (Nat.le_of_eq (Nat.add_zero _)) (fun _ _ h => h) ?_
      rintro _ h15 ⟨rfl, K1⟩ -
      replace K := K h15 K1
      show Gm l x mX8_floorNow 2 30 [(0, .ref a0), (1, .int r5)] [] h15 rc rs n0 Q X
      refine g_iload_n dX8_floorNow_30 rfl 1 rfl ?_
      exact g_iret dX8_floorNow_31 rfl K
theorem dX8_isCall_0 : decode cX8_isCall 0 = .ok (.iconst 0, 1) := by decide +kernel
theorem dX8_isCall_1 : decode cX8_isCall 1 = .ok (.istore 4, 2) := by decide +kernel
theorem dX8_isCall_3 : decode cX8_isCall 3 = .ok (.iconst 0, 1) := by decide +kernel
theorem dX8_isCall_4 : decode cX8_isCall 4 = .ok (.istore 5, 2) := by decide +kernel
theorem dX8_isCall_6 : decode cX8_isCall 6 = .ok (.iload 5, 2) := by decide +kernel
theorem dX8_isCall_8 : decode cX8_isCall 8 = .ok (.aload_n 0, 1) := by decide +kernel
theorem dX8_isCall_9 : decode cX8_isCall 9 = .ok (.getfield 29, 3) := by decide +kernel
theorem dX8_isCall_12 : decode cX8_isCall 12 = .ok (.bipush 6, 2) := by decide +kernel
theorem dX8_isCall_14 : decode cX8_isCall 14 = .ok (.iaload, 1) := by decide +kernel
theorem dX8_isCall_15 : decode cX8_isCall 15 = .ok (.if_icmp .ge 64, 3) := by decide +kernel
theorem dX8_isCall_18 : decode cX8_isCall 18 = .ok (.iload 4, 2) := by decide +kernel
theorem dX8_isCall_20 : decode cX8_isCall 20 = .ok (.ifCond .ne 46, 3) := by decide +kernel
theorem dX8_isCall_23 : decode cX8_isCall 23 = .ok (.aload_n 0, 1) := by decide +kernel
theorem dX8_isCall_24 : decode cX8_isCall 24 = .ok (.iload 5, 2) := by decide +kernel
theorem dX8_isCall_26 : decode cX8_isCall 26 = .ok (.iconst 4, 1) := by decide +kernel
theorem dX8_isCall_27 : decode cX8_isCall 27 = .ok (.invokevirtual 228, 3) := by decide +kernel
theorem dX8_isCall_30 : decode cX8_isCall 30 = .ok (.iconst 1, 1) := by decide +kernel
theorem dX8_isCall_31 : decode cX8_isCall 31 = .ok (.if_icmp .ne 39, 3) := by decide +kernel
theorem dX8_isCall_34 : decode cX8_isCall 34 = .ok (.aload_n 0, 1) := by decide +kernel
theorem dX8_isCall_35 : decode cX8_isCall 35 = .ok (.iload 5, 2) := by decide +kernel
theorem dX8_isCall_37 : decode cX8_isCall 37 = .ok (.iconst 5, 1) := by decide +kernel
theorem dX8_isCall_38 : decode cX8_isCall 38 = .ok (.invokevirtual 228, 3) := by decide +kernel
theorem dX8_isCall_41 : decode cX8_isCall 41 = .ok (.iload_n 1, 1) := by decide +kernel
theorem dX8_isCall_42 : decode cX8_isCall 42 = .ok (.if_icmp .ne 28, 3) := by decide +kernel
theorem dX8_isCall_45 : decode cX8_isCall 45 = .ok (.aload_n 0, 1) := by decide +kernel
theorem dX8_isCall_46 : decode cX8_isCall 46 = .ok (.iload 5, 2) := by decide +kernel
theorem dX8_isCall_48 : decode cX8_isCall 48 = .ok (.invokevirtual 231, 3) := by decide +kernel
theorem dX8_isCall_51 : decode cX8_isCall 51 = .ok (.iload_n 2, 1) := by decide +kernel
theorem dX8_isCall_52 : decode cX8_isCall 52 = .ok (.if_icmp .ne 18, 3) := by decide +kernel
theorem dX8_isCall_55 : decode cX8_isCall 55 = .ok (.aload_n 0, 1) := by decide +kernel
theorem dX8_isCall_56 : decode cX8_isCall 56 = .ok (.iload 5, 2) := by decide +kernel
theorem dX8_isCall_58 : decode cX8_isCall 58 = .ok (.iconst 0, 1) := by decide +kernel
theorem dX8_isCall_59 : decode cX8_isCall 59 = .ok (.invokevirtual 228, 3) := by decide +kernel
theorem dX8_isCall_62 : decode cX8_isCall 62 = .ok (.iload_n 3, 1) := by decide +kernel
theorem dX8_isCall_63 : decode cX8_isCall 63 = .ok (.if_icmp .ne 7, 3) := by decide +kernel
theorem dX8_isCall_66 : decode cX8_isCall 66 = .ok (.iconst 1, 1) := by decide +kernel
theorem dX8_isCall_67 : decode cX8_isCall 67 = .ok (.goto 4, 3) := by decide +kernel
theorem dX8_isCall_70 : decode cX8_isCall 70 = .ok (.iconst 0, 1) := by decide +kernel
theorem dX8_isCall_71 : decode cX8_isCall 71 = .ok (.istore 4, 2) := by decide +kernel
theorem dX8_isCall_73 : decode cX8_isCall 73 = .ok (.iinc 5 1, 3) := by decide +kernel
theorem dX8_isCall_76 : decode cX8_isCall 76 = .ok (.goto (-70), 3) := by decide +kernel
theorem dX8_isCall_79 : decode cX8_isCall 79 = .ok (.iload 4, 2) := by decide +kernel
theorem dX8_isCall_81 : decode cX8_isCall 81 = .ok (.ireturn, 1) := by decide +kernel
set_option maxRecDepth 20000 in
set_option maxHeartbeats 4000000 in
theorem vX8_isCall_0 {l : Launch} {x : CX} {a0 : Nat} {x1 : Int32} {x2 : Int32} {x3 : Int32} {h : PH} {rc rs n0 : Nat} {Q : Option Value → PH → Prop} {X : String → PH → Prop}
    (K : Gm l x mX8_isCall 2 6 [(0, .ref a0), (1, .int x1), (2, .int x2), (3, .int x3), (4, .int 0), (5, .int 0)] [] h rc rs n0 Q X) :
    Gm l x mX8_isCall 2 0 [(0, .ref a0), (1, .int x1), (2, .int x2), (3, .int x3)] [] h rc rs n0 Q X := by
  refine g_iconst (v := 0) dX8_isCall_0 (by decide) ?_
  refine g_istore (lv' := [(0, .ref a0), (1, .int x1), (2, .int x2), (3, .int x3), (4, .int 0)]) dX8_isCall_1 (by decide) rfl ?_
  refine g_iconst (v := 0) dX8_isCall_3 (by decide) ?_
  refine g_istore (lv' := [(0, .ref a0), (1, .int x1), (2, .int x2), (3, .int x3), (4, .int 0), (5, .int 0)]) dX8_isCall_4 (by decide) rfl ?_
  exact K
set_option maxRecDepth 20000 in
set_option maxHeartbeats 4000000 in
theorem vX8_isCall_6 {l : Launch} {x : CX} {a0 : Nat} {x1 : Int32} {x2 : Int32} {x3 : Int32} {x4 : Int32} {x5 : Int32} {h : PH} {rc rs n0 : Nat} {Q : Option Value → PH → Prop} {X : String → PH → Prop}
    (K : ((hK h a0).1 = 8) ∧ ∃ b2, (hR h a0 2 = some b2) ∧ ((hK h b2).1 = 100) ∧ (vp_in 6 (hK h b2).2) ∧ (((hI h b2 (Int32.toNatClampNeg 6)) ≤ x5 → ((x4 : Int32) = 0 ∨ (x4 : Int32) = 1) ∧ Q (some (.int x4)) h) ∧ (¬ (hI h b2 (Int32.toNatClampNeg 6)) ≤ x5 → ((¬ x4 = 0 → Gm l x mX8_isCall 2 6 [(0, .ref a0), (1, .int x1), (2, .int x2), (3, .int x3), (4, .int 1), (5, .int (x5 + 1))] [] h rc rs n0 Q X) ∧ (x4 = 0 → ∃ (q8 : Int32 → PH → Prop), CI l x mX8_of 0 0 0 [.ref a0, .int x5, .int 4] h q8 ∧ ∀ (r11 : Int32) (h10 : PH), q8 r11 h10 → ((¬ r11 = 1 → Gm l x mX8_isCall 2 6 [(0, .ref a0), (1, .int x1), (2, .int x2), (3, .int x3), (4, .int 0), (5, .int (x5 + 1))] [] h10 rc rs n0 Q X) ∧ (r11 = 1 → ((hK h10 a0).1 = 8) ∧ ∃ (q13 : Int32 → PH → Prop), CI l x mX8_of 0 0 0 [.ref a0, .int x5, .int 5] h10 q13 ∧ ∀ (r17 : Int32) (h16 : PH), q13 r17 h16 → ((¬ r17 = x1 → Gm l x mX8_isCall 2 6 [(0, .ref a0), (1, .int x1), (2, .int x2), (3, .int x3), (4, .int 0), (5, .int (x5 + 1))] [] h16 rc rs n0 Q X) ∧ (r17 = x1 → ((hK h16 a0).1 = 8) ∧ ∃ (q19 : Int32 → PH → Prop), CI l x mX8_wayOf 1 0 0 [.ref a0, .int x5] h16 q19 ∧ ∀ (r23 : Int32) (h22 : PH), q19 r23 h22 → ((¬ r23 = x2 → Gm l x mX8_isCall 2 6 [(0, .ref a0), (1, .int x1), (2, .int x2), (3, .int x3), (4, .int 0), (5, .int (x5 + 1))] [] h22 rc rs n0 Q X) ∧ (r23 = x2 → ((hK h22 a0).1 = 8) ∧ ∃ (q25 : Int32 → PH → Prop), CI l x mX8_of 0 0 0 [.ref a0, .int x5, .int 0] h22 q25 ∧ ∀ (r29 : Int32) (h28 : PH), q25 r29 h28 → Gm l x mX8_isCall 2 6 [(0, .ref a0), (1, .int x1), (2, .int x2), (3, .int x3), (4, .int (if r29 = x3 then 1 else 0 : Int32)), (5, .int (x5 + 1))] [] h28 rc rs n0 Q X))))))))))) :
    Gm l x mX8_isCall 2 6 [(0, .ref a0), (1, .int x1), (2, .int x2), (3, .int x3), (4, .int x4), (5, .int x5)] [] h rc rs n0 Q X := by
  refine g_iload dX8_isCall_6 5 rfl ?_
  refine g_aload_n dX8_isCall_8 rfl 0 rfl ?_
  obtain ⟨e1, b2, e3, K⟩ := K
  refine g_get (c := 8) (k := 2) (v := .ref b2) dX8_isCall_9 fc_8 (by decide) (by decide) bw_1200 (congrArg pr e3) e1 ?_
  refine g_bipush (v := 6) dX8_isCall_12 (by decide) ?_
  obtain ⟨e4, e5, K⟩ := K
  refine g_iald dX8_isCall_14 e4 e5 ?_
  refine g_icmp_ge (tgt := 79) dX8_isCall_15 (by decide) (fun c6 => ?_) (fun c6 => ?_)
  · replace K := K.1 c6
    refine g_iload dX8_isCall_79 4 rfl ?_
    exact g_zret dX8_isCall_81 rfl K.1 K.2
  · replace K := K.2 c6
    refine g_iload dX8_isCall_18 4 rfl ?_
    refine g_if_ne (tgt := 66) dX8_isCall_20 (by decide) (fun c7 => ?_) (fun c7 => ?_)
    · replace K := K.1 c7
      refine g_iconst (v := 1) dX8_isCall_66 (by decide) ?_
      refine g_goto (tgt := 71) dX8_isCall_67 (by decide) ?_
      refine g_istore (lv' := [(0, .ref a0), (1, .int x1), (2, .int x2), (3, .int x3), (4, .int 1), (5, .int x5)]) dX8_isCall_71 (by decide) rfl ?_
      refine g_iinc (v := (x5 + 1)) (lv' := [(0, .ref a0), (1, .int x1), (2, .int x2), (3, .int x3), (4, .int 1), (5, .int (x5 + 1))]) dX8_isCall_73 5 rfl (by rfl) (by decide) rfl ?_
      refine g_goto (tgt := 6) dX8_isCall_76 (by decide) ?_
      exact K
    · replace K := K.2 c7
      refine g_aload_n dX8_isCall_23 rfl 0 rfl ?_
      refine g_iload dX8_isCall_24 5 rfl ?_
      refine g_iconst (v := 4) dX8_isCall_26 (by decide) ?_
      obtain ⟨q8, C9, K⟩ := K
      refine g_callV (M' := mX8_of) (b := a0) (As := [.int x5, .int 4]) (rest := []) (rc' := rc) (rs' := rs) dX8_isCall_27 bw_1413 bw_1415 bs_52 bw_9 bw_1416 ⟨by decide +kernel, by decide +kernel, show (parseMethodDescriptor mX8_of.1.desc).map (fun d => d.parameters.length) = some 2 by decide +kernel⟩ (by decide) (by decide) (Nat.le_of_ble_eq_true rfl) fc_8 (by decide) rfl e1 C9 (Nat.le_of_eq (Nat.add_zero _)) (Nat.le_of_eq (Nat.add_zero _)) (fun _ _ h => h) ?_
      rintro _ h10 ⟨r11, rfl, K1⟩ -
      replace K := K r11 h10 K1
      show Gm l x mX8_isCall 2 30 [(0, .ref a0), (1, .int x1), (2, .int x2), (3, .int x3), (4, .int x4), (5, .int x5)] [.int r11] h10 rc rs n0 Q X
      refine g_iconst (v := 1) dX8_isCall_30 (by decide) ?_
      refine g_icmp_ne (tgt := 70) dX8_isCall_31 (by decide) (fun c12 => ?_) (fun c12 => ?_)
      · replace K := K.1 c12
        refine g_iconst (v := 0) dX8_isCall_70 (by decide) ?_
        refine g_istore (lv' := [(0, .ref a0), (1, .int x1), (2, .int x2), (3, .int x3), (4, .int 0), (5, .int x5)]) dX8_isCall_71 (by decide) rfl ?_
        refine g_iinc (v := (x5 + 1)) (lv' := [(0, .ref a0), (1, .int x1), (2, .int x2), (3, .int x3), (4, .int 0), (5, .int (x5 + 1))]) dX8_isCall_73 5 rfl (by rfl) (by decide) rfl ?_
        refine g_goto (tgt := 6) dX8_isCall_76 (by decide) ?_
        exact K
      · replace K := K.2 c12
        refine g_aload_n dX8_isCall_34 rfl 0 rfl ?_
        refine g_iload dX8_isCall_35 5 rfl ?_
        refine g_iconst (v := 5) dX8_isCall_37 (by decide) ?_
        obtain ⟨e15, K⟩ := K
        obtain ⟨q13, C14, K⟩ := K
        refine g_callV (M' := mX8_of) (b := a0) (As := [.int x5, .int 5]) (rest := []) (rc' := rc) (rs' := rs) dX8_isCall_38 bw_1413 bw_1415 bs_52 bw_9 bw_1416 ⟨by decide +kernel, by decide +kernel, show (parseMethodDescriptor mX8_of.1.desc).map (fun d => d.parameters.length) = some 2 by decide +kernel⟩ (by decide) (by decide) (Nat.le_of_ble_eq_true rfl) fc_8 (by decide) rfl e15 C14 (Nat.le_of_eq (Nat.add_zero _)) (Nat.le_of_eq (Nat.add_zero _)) (fun _ _ h => h) ?_
        rintro _ h16 ⟨r17, rfl, K1⟩ -
        replace K := K r17 h16 K1
        show Gm l x mX8_isCall 2 41 [(0, .ref a0), (1, .int x1), (2, .int x2), (3, .int x3), (4, .int x4), (5, .int x5)] [.int r17] h16 rc rs n0 Q X
        refine g_iload_n dX8_isCall_41 rfl 1 rfl ?_
        refine g_icmp_ne (tgt := 70) dX8_isCall_42 (by decide) (fun c18 => ?_) (fun c18 => ?_)
        · replace K := K.1 c18
          refine g_iconst (v := 0) dX8_isCall_70 (by decide) ?_
          refine g_istore (lv' := [(0, .ref a0), (1, .int x1), (2, .int x2), (3, .int x3), (4, .int 0), (5, .int x5)]) dX8_isCall_71 (by decide) rfl ?_
          refine g_iinc (v := (x5 + 1)) (lv' := [(0, .ref a0), (1, .int x1), (2, .int x2), (3, .int x3), (4, .int 0), (5, .int (x5 + 1))]) dX8_isCall_73 5 rfl (by rfl) (by decide) rfl ?_
          refine g_goto (tgt := 6) dX8_isCall_76 (by decide) ?_
          exact K
        · replace K := K.2 c18
          refine g_aload_n dX8_isCall_45 rfl 0 rfl ?_
          refine g_iload dX8_isCall_46 5 rfl ?_
          obtain ⟨e21, K⟩ := K
          obtain ⟨q19, C20, K⟩ := K
          refine g_callV (M' := mX8_wayOf) (b := a0) (As := [.int x5]) (rest := []) (rc' := rc) (rs' := rs) dX8_isCall_48 bw_1425 bw_1427 bs_55 bw_9 bw_1428 ⟨by decide +kernel, by decide +kernel, show (parseMethodDescriptor mX8_wayOf.1.desc).map (fun d => d.parameters.length) = some 1 by decide +kernel⟩ (by decide) (by decide) (Nat.le_of_ble_eq_true rfl) fc_8 (by decide) rfl e21 C20 (Nat.le_of_eq (Nat.add_zero _)) (Nat.le_of_eq (Nat.add_zero _)) (fun _ _ h => h) ?_
          rintro _ h22 ⟨r23, rfl, K1⟩ -
          replace K := K r23 h22 K1
          show Gm l x mX8_isCall 2 51 [(0, .ref a0), (1, .int x1), (2, .int x2), (3, .int x3), (4, .int x4), (5, .int x5)] [.int r23] h22 rc rs n0 Q X
          refine g_iload_n dX8_isCall_51 rfl 2 rfl ?_
          refine g_icmp_ne (tgt := 70) dX8_isCall_52 (by decide) (fun c24 => ?_) (fun c24 => ?_)
          · replace K := K.1 c24
            refine g_iconst (v := 0) dX8_isCall_70 (by decide) ?_
            refine g_istore (lv' := [(0, .ref a0), (1, .int x1), (2, .int x2), (3, .int x3), (4, .int 0), (5, .int x5)]) dX8_isCall_71 (by decide) rfl ?_
            refine g_iinc (v := (x5 + 1)) (lv' := [(0, .ref a0), (1, .int x1), (2, .int x2), (3, .int x3), (4, .int 0), (5, .int (x5 + 1))]) dX8_isCall_73 5 rfl (by rfl) (by decide) rfl ?_
            refine g_goto (tgt := 6) dX8_isCall_76 (by decide) ?_
            exact K
          · replace K := K.2 c24
            refine g_aload_n dX8_isCall_55 rfl 0 rfl ?_
            refine g_iload dX8_isCall_56 5 rfl ?_
            refine g_iconst (v := 0) dX8_isCall_58 (by decide) ?_
            obtain ⟨e27, K⟩ := K
            obtain ⟨q25, C26, K⟩ := K
            refine g_callV (M' := mX8_of) (b := a0) (As := [.int x5, .int 0]) (rest := []) (rc' := rc) (rs' := rs) dX8_isCall_59 bw_1413 bw_1415 bs_52 bw_9 bw_1416 ⟨by decide +kernel, by decide +kernel, show (parseMethodDescriptor mX8_of.1.desc).map (fun d => d.parameters.length) = some 2 by decide +kernel⟩ (by decide) (by decide) (Nat.le_of_ble_eq_true rfl) fc_8 (by decide) rfl e27 C26 (Nat.le_of_eq (Nat.add_zero _)) (Nat.le_of_eq (Nat.add_zero _)) (fun _ _ h => h) ?_
            rintro _ h28 ⟨r29, rfl, K1⟩ -
            replace K := K r29 h28 K1
            show Gm l x mX8_isCall 2 62 [(0, .ref a0), (1, .int x1), (2, .int x2), (3, .int x3), (4, .int x4), (5, .int x5)] [.int r29] h28 rc rs n0 Q X
            refine g_iload_n dX8_isCall_62 rfl 3 rfl ?_
            have KJ : Gm l x mX8_isCall 2 71 [(0, .ref a0), (1, .int x1), (2, .int x2), (3, .int x3), (4, .int x4), (5, .int x5)] [.int (if r29 = x3 then 1 else 0 : Int32)] h28 rc rs n0 Q X := by
              refine g_istore (lv' := [(0, .ref a0), (1, .int x1), (2, .int x2), (3, .int x3), (4, .int (if r29 = x3 then 1 else 0 : Int32)), (5, .int x5)]) dX8_isCall_71 (by decide) rfl ?_
              refine g_iinc (v := (x5 + 1)) (lv' := [(0, .ref a0), (1, .int x1), (2, .int x2), (3, .int x3), (4, .int (if r29 = x3 then 1 else 0 : Int32)), (5, .int (x5 + 1))]) dX8_isCall_73 5 rfl (by rfl) (by decide) rfl ?_
              refine g_goto (tgt := 6) dX8_isCall_76 (by decide) ?_
              exact K
            refine g_icmp_ne (tgt := 70) dX8_isCall_63 (by decide) (fun c30 => ?_) (fun c30 => ?_)
            · refine g_iconst (v := 0) dX8_isCall_70 (by decide) ?_
              first | (simp only [if_neg c30] at KJ; exact KJ) | (simp only [if_neg c30, ite_true, ite_false, eq_self] at KJ; exact KJ) | (simp only [if_neg c30] at KJ ⊢; exact KJ) | exact KJ
            · refine g_iconst (v := 1) dX8_isCall_66 (by decide) ?_
              refine g_goto (tgt := 71) dX8_isCall_67 (by decide) ?_
              first | (simp only [if_pos c30] at KJ; exact KJ) | (simp only [if_pos c30, ite_true, ite_false, eq_self] at KJ; exact KJ) | (simp only [if_pos c30] at KJ ⊢; exact KJ) | exact KJ
theorem dX8_stops_0 : decode cX8_stops 0 = .ok (.iconst 0, 1) := by decide +kernel
theorem dX8_stops_1 : decode cX8_stops 1 = .ok (.istore_n 2, 1) := by decide +kernel
theorem dX8_stops_2 : decode cX8_stops 2 = .ok (.iconst 0, 1) := by decide +kernel
theorem dX8_stops_3 : decode cX8_stops 3 = .ok (.istore_n 3, 1) := by decide +kernel
theorem dX8_stops_4 : decode cX8_stops 4 = .ok (.iload_n 3, 1) := by decide +kernel
theorem dX8_stops_5 : decode cX8_stops 5 = .ok (.aload_n 0, 1) := by decide +kernel
theorem dX8_stops_6 : decode cX8_stops 6 = .ok (.getfield 29, 3) := by decide +kernel
theorem dX8_stops_9 : decode cX8_stops 9 = .ok (.bipush 6, 2) := by decide +kernel
theorem dX8_stops_11 : decode cX8_stops 11 = .ok (.iaload, 1) := by decide +kernel
theorem dX8_stops_12 : decode cX8_stops 12 = .ok (.if_icmp .ge 34, 3) := by decide +kernel
theorem dX8_stops_15 : decode cX8_stops 15 = .ok (.aload_n 0, 1) := by decide +kernel
theorem dX8_stops_16 : decode cX8_stops 16 = .ok (.iload_n 1, 1) := by decide +kernel
theorem dX8_stops_17 : decode cX8_stops 17 = .ok (.iconst 3, 1) := by decide +kernel
theorem dX8_stops_18 : decode cX8_stops 18 = .ok (.invokevirtual 238, 3) := by decide +kernel
theorem dX8_stops_21 : decode cX8_stops 21 = .ok (.iload_n 3, 1) := by decide +kernel
theorem dX8_stops_22 : decode cX8_stops 22 = .ok (.ishr, 1) := by decide +kernel
theorem dX8_stops_23 : decode cX8_stops 23 = .ok (.iconst 1, 1) := by decide +kernel
theorem dX8_stops_24 : decode cX8_stops 24 = .ok (.iand, 1) := by decide +kernel
theorem dX8_stops_25 : decode cX8_stops 25 = .ok (.iconst 1, 1) := by decide +kernel
theorem dX8_stops_26 : decode cX8_stops 26 = .ok (.if_icmp .ne 14, 3) := by decide +kernel
theorem dX8_stops_29 : decode cX8_stops 29 = .ok (.iload_n 2, 1) := by decide +kernel
theorem dX8_stops_30 : decode cX8_stops 30 = .ok (.iconst 1, 1) := by decide +kernel
theorem dX8_stops_31 : decode cX8_stops 31 = .ok (.aload_n 0, 1) := by decide +kernel
theorem dX8_stops_32 : decode cX8_stops 32 = .ok (.iload_n 3, 1) := by decide +kernel
theorem dX8_stops_33 : decode cX8_stops 33 = .ok (.iconst 3, 1) := by decide +kernel
theorem dX8_stops_34 : decode cX8_stops 34 = .ok (.invokevirtual 228, 3) := by decide +kernel
theorem dX8_stops_37 : decode cX8_stops 37 = .ok (.ishl, 1) := by decide +kernel
theorem dX8_stops_38 : decode cX8_stops 38 = .ok (.ior, 1) := by decide +kernel
theorem dX8_stops_39 : decode cX8_stops 39 = .ok (.istore_n 2, 1) := by decide +kernel
theorem dX8_stops_40 : decode cX8_stops 40 = .ok (.iinc 3 1, 3) := by decide +kernel
theorem dX8_stops_43 : decode cX8_stops 43 = .ok (.goto (-39), 3) := by decide +kernel
theorem dX8_stops_46 : decode cX8_stops 46 = .ok (.iconst 0, 1) := by decide +kernel
theorem dX8_stops_47 : decode cX8_stops 47 = .ok (.istore_n 3, 1) := by decide +kernel
theorem dX8_stops_48 : decode cX8_stops 48 = .ok (.iload_n 3, 1) := by decide +kernel
theorem dX8_stops_49 : decode cX8_stops 49 = .ok (.aload_n 0, 1) := by decide +kernel
theorem dX8_stops_50 : decode cX8_stops 50 = .ok (.getfield 36, 3) := by decide +kernel
theorem dX8_stops_53 : decode cX8_stops 53 = .ok (.iconst 0, 1) := by decide +kernel
theorem dX8_stops_54 : decode cX8_stops 54 = .ok (.iaload, 1) := by decide +kernel
theorem dX8_stops_55 : decode cX8_stops 55 = .ok (.if_icmp .ge 47, 3) := by decide +kernel
theorem dX8_stops_58 : decode cX8_stops 58 = .ok (.aload_n 0, 1) := by decide +kernel
theorem dX8_stops_59 : decode cX8_stops 59 = .ok (.iload_n 1, 1) := by decide +kernel
theorem dX8_stops_60 : decode cX8_stops 60 = .ok (.invokevirtual 246, 3) := by decide +kernel
theorem dX8_stops_63 : decode cX8_stops 63 = .ok (.ifCond .ne 39, 3) := by decide +kernel
theorem dX8_stops_66 : decode cX8_stops 66 = .ok (.iload_n 2, 1) := by decide +kernel
theorem dX8_stops_67 : decode cX8_stops 67 = .ok (.aload_n 0, 1) := by decide +kernel
theorem dX8_stops_68 : decode cX8_stops 68 = .ok (.iload_n 1, 1) := by decide +kernel
theorem dX8_stops_69 : decode cX8_stops 69 = .ok (.iload_n 3, 1) := by decide +kernel
theorem dX8_stops_70 : decode cX8_stops 70 = .ok (.iconst 1, 1) := by decide +kernel
theorem dX8_stops_71 : decode cX8_stops 71 = .ok (.invokevirtual 249, 3) := by decide +kernel
theorem dX8_stops_74 : decode cX8_stops 74 = .ok (.ifCond .ne 13, 3) := by decide +kernel
theorem dX8_stops_77 : decode cX8_stops 77 = .ok (.aload_n 0, 1) := by decide +kernel
theorem dX8_stops_78 : decode cX8_stops 78 = .ok (.iload_n 1, 1) := by decide +kernel
theorem dX8_stops_79 : decode cX8_stops 79 = .ok (.iload_n 3, 1) := by decide +kernel
theorem dX8_stops_80 : decode cX8_stops 80 = .ok (.iconst (-1), 1) := by decide +kernel
theorem dX8_stops_81 : decode cX8_stops 81 = .ok (.invokevirtual 249, 3) := by decide +kernel
theorem dX8_stops_84 : decode cX8_stops 84 = .ok (.ifCond .eq 9, 3) := by decide +kernel
theorem dX8_stops_87 : decode cX8_stops 87 = .ok (.iconst 1, 1) := by decide +kernel
theorem dX8_stops_88 : decode cX8_stops 88 = .ok (.iload_n 3, 1) := by decide +kernel
theorem dX8_stops_89 : decode cX8_stops 89 = .ok (.ishl, 1) := by decide +kernel
theorem dX8_stops_90 : decode cX8_stops 90 = .ok (.goto 4, 3) := by decide +kernel
theorem dX8_stops_93 : decode cX8_stops 93 = .ok (.iconst 0, 1) := by decide +kernel
theorem dX8_stops_94 : decode cX8_stops 94 = .ok (.ior, 1) := by decide +kernel
theorem dX8_stops_95 : decode cX8_stops 95 = .ok (.istore_n 2, 1) := by decide +kernel
theorem dX8_stops_96 : decode cX8_stops 96 = .ok (.iinc 3 1, 3) := by decide +kernel
theorem dX8_stops_99 : decode cX8_stops 99 = .ok (.goto (-51), 3) := by decide +kernel
theorem dX8_stops_102 : decode cX8_stops 102 = .ok (.iload_n 2, 1) := by decide +kernel
theorem dX8_stops_103 : decode cX8_stops 103 = .ok (.ireturn, 1) := by decide +kernel
set_option maxRecDepth 20000 in
set_option maxHeartbeats 4000000 in
theorem vX8_stops_0 {l : Launch} {x : CX} {a0 : Nat} {x1 : Int32} {h : PH} {rc rs n0 : Nat} {Q : Option Value → PH → Prop} {X : String → PH → Prop}
    (K : Gm l x mX8_stops 2 4 [(0, .ref a0), (1, .int x1), (2, .int 0), (3, .int 0)] [] h rc rs n0 Q X) :
    Gm l x mX8_stops 2 0 [(0, .ref a0), (1, .int x1)] [] h rc rs n0 Q X := by
  refine g_iconst (v := 0) dX8_stops_0 (by decide) ?_
  refine g_istore_n (lv' := [(0, .ref a0), (1, .int x1), (2, .int 0)]) dX8_stops_1 rfl (by decide) rfl ?_
  refine g_iconst (v := 0) dX8_stops_2 (by decide) ?_
  refine g_istore_n (lv' := [(0, .ref a0), (1, .int x1), (2, .int 0), (3, .int 0)]) dX8_stops_3 rfl (by decide) rfl ?_
  exact K
set_option maxRecDepth 20000 in
set_option maxHeartbeats 4000000 in
theorem vX8_stops_4 {l : Launch} {x : CX} {a0 : Nat} {x1 : Int32} {x2 : Int32} {x3 : Int32} {h : PH} {rc rs n0 : Nat} {Q : Option Value → PH → Prop} {X : String → PH → Prop}
    (K : ((hK h a0).1 = 8) ∧ ∃ b2, (hR h a0 2 = some b2) ∧ ((hK h b2).1 = 100) ∧ (vp_in 6 (hK h b2).2) ∧ (((hI h b2 (Int32.toNatClampNeg 6)) ≤ x3 → Gm l x mX8_stops 2 48 [(0, .ref a0), (1, .int x1), (2, .int x2), (3, .int 0)] [] h rc rs n0 Q X) ∧ (¬ (hI h b2 (Int32.toNatClampNeg 6)) ≤ x3 → ∃ (q7 : Int32 → PH → Prop), CI l x mX8_carOf 0 0 0 [.ref a0, .int x1, .int 3] h q7 ∧ ∀ (r10 : Int32) (h9 : PH), q7 r10 h9 → ((¬ ((r10 >>> ((x3 : Int32) &&& 31)) &&& 1) = 1 → Gm l x mX8_stops 2 4 [(0, .ref a0), (1, .int x1), (2, .int x2), (3, .int (x3 + 1))] [] h9 rc rs n0 Q X) ∧ (((r10 >>> ((x3 : Int32) &&& 31)) &&& 1) = 1 → ((hK h9 a0).1 = 8) ∧ ∃ (q12 : Int32 → PH → Prop), CI l x mX8_of 0 0 0 [.ref a0, .int x3, .int 3] h9 q12 ∧ ∀ (r16 : Int32) (h15 : PH), q12 r16 h15 → Gm l x mX8_stops 2 4 [(0, .ref a0), (1, .int x1), (2, .int (x2 ||| (1 <<< ((r16 : Int32) &&& 31)))), (3, .int (x3 + 1))] [] h15 rc rs n0 Q X))))) :
    Gm l x mX8_stops 2 4 [(0, .ref a0), (1, .int x1), (2, .int x2), (3, .int x3)] [] h rc rs n0 Q X := by
  refine g_iload_n dX8_stops_4 rfl 3 rfl ?_
  refine g_aload_n dX8_stops_5 rfl 0 rfl ?_
  obtain ⟨e1, b2, e3, K⟩ := K
  refine g_get (c := 8) (k := 2) (v := .ref b2) dX8_stops_6 fc_8 (by decide) (by decide) bw_1200 (congrArg pr e3) e1 ?_
  refine g_bipush (v := 6) dX8_stops_9 (by decide) ?_
  obtain ⟨e4, e5, K⟩ := K
  refine g_iald dX8_stops_11 e4 e5 ?_
  refine g_icmp_ge (tgt := 46) dX8_stops_12 (by decide) (fun c6 => ?_) (fun c6 => ?_)
  · replace K := K.1 c6
    refine g_iconst (v := 0) dX8_stops_46 (by decide) ?_
    refine g_istore_n (lv' := [(0, .ref a0), (1, .int x1), (2, .int x2), (3, .int 0)]) dX8_stops_47 rfl (by decide) rfl ?_
    exact K
  · replace K := K.2 c6
    refine g_aload_n dX8_stops_15 rfl 0 rfl ?_
    refine g_iload_n dX8_stops_16 rfl 1 rfl ?_
    refine g_iconst (v := 3) dX8_stops_17 (by decide) ?_
    obtain ⟨q7, C8, K⟩ := K
    refine g_callV (M' := mX8_carOf) (b := a0) (As := [.int x1, .int 3]) (rest := []) (rc' := rc) (rs' := rs) dX8_stops_18 bw_1476 bw_1478 bs_67 bw_9 bw_1479 ⟨by decide +kernel, by decide +kernel, show (parseMethodDescriptor mX8_carOf.1.desc).map (fun d => d.parameters.length) = some 2 by decide +kernel⟩ (by decide) (by decide) (Nat.le_of_ble_eq_true rfl) fc_8 (by decide) rfl e1 C8 (Nat.le_of_eq (Nat.add_zero _)) (Nat.le_of_eq (Nat.add_zero _)) (fun _ _ h => h) ?_
    rintro _ h9 ⟨r10, rfl, K1⟩ -
    replace K := K r10 h9 K1
    show Gm l x mX8_stops 2 21 [(0, .ref a0), (1, .int x1), (2, .int x2), (3, .int x3)] [.int r10] h9 rc rs n0 Q X
    refine g_iload_n dX8_stops_21 rfl 3 rfl ?_
    refine g_ishr dX8_stops_22 ?_
    refine g_iconst (v := 1) dX8_stops_23 (by decide) ?_
    refine g_iand dX8_stops_24 ?_
    refine g_iconst (v := 1) dX8_stops_25 (by decide) ?_
    refine g_icmp_ne (tgt := 40) dX8_stops_26 (by decide) (fun c11 => ?_) (fun c11 => ?_)
    · replace K := K.1 c11
      refine g_iinc (v := (x3 + 1)) (lv' := [(0, .ref a0), (1, .int x1), (2, .int x2), (3, .int (x3 + 1))]) dX8_stops_40 3 rfl (by rfl) (by decide) rfl ?_
      refine g_goto (tgt := 4) dX8_stops_43 (by decide) ?_
      exact K
    · replace K := K.2 c11
      refine g_iload_n dX8_stops_29 rfl 2 rfl ?_
      refine g_iconst (v := 1) dX8_stops_30 (by decide) ?_
      refine g_aload_n dX8_stops_31 rfl 0 rfl ?_
      refine g_iload_n dX8_stops_32 rfl 3 rfl ?_
      refine g_iconst (v := 3) dX8_stops_33 (by decide) ?_
      obtain ⟨e14, K⟩ := K
      obtain ⟨q12, C13, K⟩ := K
      refine g_callV (M' := mX8_of) (b := a0) (As := [.int x3, .int 3]) (rest := [.int 1, .int x2]) (rc' := rc) (rs' := rs) dX8_stops_34 bw_1413 bw_1415 bs_52 bw_9 bw_1416 ⟨by decide +kernel, by decide +kernel, show (parseMethodDescriptor mX8_of.1.desc).map (fun d => d.parameters.length) = some 2 by decide +kernel⟩ (by decide) (by decide) (Nat.le_of_ble_eq_true rfl) fc_8 (by decide) rfl e14 C13 (Nat.le_of_eq (Nat.add_zero _)) (Nat.le_of_eq (Nat.add_zero _)) (fun _ _ h => h) ?_
      rintro _ h15 ⟨r16, rfl, K1⟩ -
      replace K := K r16 h15 K1
      show Gm l x mX8_stops 2 37 [(0, .ref a0), (1, .int x1), (2, .int x2), (3, .int x3)] [.int r16, .int 1, .int x2] h15 rc rs n0 Q X
      refine g_ishl dX8_stops_37 ?_
      refine g_ior dX8_stops_38 ?_
      refine g_istore_n (lv' := [(0, .ref a0), (1, .int x1), (2, .int (x2 ||| (1 <<< ((r16 : Int32) &&& 31)))), (3, .int x3)]) dX8_stops_39 rfl (by decide) rfl ?_
      refine g_iinc (v := (x3 + 1)) (lv' := [(0, .ref a0), (1, .int x1), (2, .int (x2 ||| (1 <<< ((r16 : Int32) &&& 31)))), (3, .int (x3 + 1))]) dX8_stops_40 3 rfl (by rfl) (by decide) rfl ?_
      refine g_goto (tgt := 4) dX8_stops_43 (by decide) ?_
      exact K
set_option maxRecDepth 20000 in
set_option maxHeartbeats 4000000 in
theorem vX8_stops_48 {l : Launch} {x : CX} {a0 : Nat} {x1 : Int32} {x2 : Int32} {x3 : Int32} {h : PH} {rc rs n0 : Nat} {Q : Option Value → PH → Prop} {X : String → PH → Prop}
    (K : ((hK h a0).1 = 8) ∧ ∃ b2, (hR h a0 4 = some b2) ∧ ((hK h b2).1 = 100) ∧ (vp_in 0 (hK h b2).2) ∧ (((hI h b2 (Int32.toNatClampNeg 0)) ≤ x3 → Q (some (.int x2)) h) ∧ (¬ (hI h b2 (Int32.toNatClampNeg 0)) ≤ x3 → ∃ (q7 : Int32 → PH → Prop), CI l x mX8_isFull 1 0 0 [.ref a0, .int x1] h q7 ∧ ∀ (r10 : Int32) (h9 : PH), q7 r10 h9 → ((¬ r10 = 0 → Q (some (.int x2)) h9) ∧ (r10 = 0 → ((hK h9 a0).1 = 8) ∧ ∃ (q12 : Int32 → PH → Prop), CI l x mX8_hasCall 1 0 0 [.ref a0, .int x1, .int x3, .int 1] h9 q12 ∧ ∀ (r16 : Int32) (h15 : PH), q12 r16 h15 → ((¬ r16 = 0 → Gm l x mX8_stops 2 48 [(0, .ref a0), (1, .int x1), (2, .int (x2 ||| (1 <<< ((x3 : Int32) &&& 31)))), (3, .int (x3 + 1))] [] h15 rc rs n0 Q X) ∧ (r16 = 0 → ((hK h15 a0).1 = 8) ∧ ∃ (q18 : Int32 → PH → Prop), CI l x mX8_hasCall 1 0 0 [.ref a0, .int x1, .int x3, .int (-1)] h15 q18 ∧ ∀ (r22 : Int32) (h21 : PH), q18 r22 h21 → ∀ (y24 : Int32), y24 = (x2 ||| (if r22 = 0 then 0 else (1 <<< ((x3 : Int32) &&& 31)) : Int32)) → Gm l x mX8_stops 2 48 [(0, .ref a0), (1, .int x1), (2, .int y24), (3, .int (x3 + 1))] [] h21 rc rs n0 Q X))))))) :
    Gm l x mX8_stops 2 48 [(0, .ref a0), (1, .int x1), (2, .int x2), (3, .int x3)] [] h rc rs n0 Q X := by
  refine g_iload_n dX8_stops_48 rfl 3 rfl ?_
  refine g_aload_n dX8_stops_49 rfl 0 rfl ?_
  obtain ⟨e1, b2, e3, K⟩ := K
  refine g_get (c := 8) (k := 4) (v := .ref b2) dX8_stops_50 fc_8 (by decide) (by decide) bw_1202 (congrArg pr e3) e1 ?_
  refine g_iconst (v := 0) dX8_stops_53 (by decide) ?_
  obtain ⟨e4, e5, K⟩ := K
  refine g_iald dX8_stops_54 e4 e5 ?_
  refine g_icmp_ge (tgt := 102) dX8_stops_55 (by decide) (fun c6 => ?_) (fun c6 => ?_)
  · replace K := K.1 c6
    refine g_iload_n dX8_stops_102 rfl 2 rfl ?_
    exact g_iret dX8_stops_103 rfl K
  · replace K := K.2 c6
    refine g_aload_n dX8_stops_58 rfl 0 rfl ?_
    refine g_iload_n dX8_stops_59 rfl 1 rfl ?_
    obtain ⟨q7, C8, K⟩ := K
    refine g_callV (M' := mX8_isFull) (b := a0) (As := [.int x1]) (rest := []) (rc' := rc) (rs' := rs) dX8_stops_60 bw_1501 bw_1503 bs_73 bw_9 bw_1504 ⟨by decide +kernel, by decide +kernel, show (parseMethodDescriptor mX8_isFull.1.desc).map (fun d => d.parameters.length) = some 1 by decide +kernel⟩ (by decide) (by decide) (Nat.le_of_ble_eq_true rfl) fc_8 (by decide) rfl e1 C8 (Nat.le_of_eq (Nat.add_zero _)) (Nat.le_of_eq (Nat.add_zero _)) (fun _ _ h => h) ?_
    rintro _ h9 ⟨r10, rfl, K1⟩ -
    replace K := K r10 h9 K1
    show Gm l x mX8_stops 2 63 [(0, .ref a0), (1, .int x1), (2, .int x2), (3, .int x3)] [.int r10] h9 rc rs n0 Q X
    refine g_if_ne (tgt := 102) dX8_stops_63 (by decide) (fun c11 => ?_) (fun c11 => ?_)
    · replace K := K.1 c11
      refine g_iload_n dX8_stops_102 rfl 2 rfl ?_
      exact g_iret dX8_stops_103 rfl K
    · replace K := K.2 c11
      refine g_iload_n dX8_stops_66 rfl 2 rfl ?_
      refine g_aload_n dX8_stops_67 rfl 0 rfl ?_
      refine g_iload_n dX8_stops_68 rfl 1 rfl ?_
      refine g_iload_n dX8_stops_69 rfl 3 rfl ?_
      refine g_iconst (v := 1) dX8_stops_70 (by decide) ?_
      obtain ⟨e14, K⟩ := K
      obtain ⟨q12, C13, K⟩ := K
      refine g_callV (M' := mX8_hasCall) (b := a0) (As := [.int x1, .int x3, .int 1]) (rest := [.int x2]) (rc' := rc) (rs' := rs) dX8_stops_71 bw_1514 bw_1516 bs_76 bw_9 bw_1517 ⟨by decide +kernel, by decide +kernel, show (parseMethodDescriptor mX8_hasCall.1.desc).map (fun d => d.parameters.length) = some 3 by decide +kernel⟩ (by decide) (by decide) (Nat.le_of_ble_eq_true rfl) fc_8 (by decide) rfl e14 C13 (Nat.le_of_eq (Nat.add_zero _)) (Nat.le_of_eq (Nat.add_zero _)) (fun _ _ h => h) ?_
      rintro _ h15 ⟨r16, rfl, K1⟩ -
      replace K := K r16 h15 K1
      show Gm l x mX8_stops 2 74 [(0, .ref a0), (1, .int x1), (2, .int x2), (3, .int x3)] [.int r16, .int x2] h15 rc rs n0 Q X
      refine g_if_ne (tgt := 87) dX8_stops_74 (by decide) (fun c17 => ?_) (fun c17 => ?_)
      · replace K := K.1 c17
        refine g_iconst (v := 1) dX8_stops_87 (by decide) ?_
        refine g_iload_n dX8_stops_88 rfl 3 rfl ?_
        refine g_ishl dX8_stops_89 ?_
        refine g_goto (tgt := 94) dX8_stops_90 (by decide) ?_
        refine g_ior dX8_stops_94 ?_
        refine g_istore_n (lv' := [(0, .ref a0), (1, .int x1), (2, .int (x2 ||| (1 <<< ((x3 : Int32) &&& 31)))), (3, .int x3)]) dX8_stops_95 rfl (by decide) rfl ?_
        refine g_iinc (v := (x3 + 1)) (lv' := [(0, .ref a0), (1, .int x1), (2, .int (x2 ||| (1 <<< ((x3 : Int32) &&& 31)))), (3, .int (x3 + 1))]) dX8_stops_96 3 rfl (by rfl) (by decide) rfl ?_
        refine g_goto (tgt := 48) dX8_stops_99 (by decide) ?_
        exact K
      · replace K := K.2 c17
        refine g_aload_n dX8_stops_77 rfl 0 rfl ?_
        refine g_iload_n dX8_stops_78 rfl 1 rfl ?_
        refine g_iload_n dX8_stops_79 rfl 3 rfl ?_
        refine g_iconst (v := (-1)) dX8_stops_80 (by decide) ?_
        obtain ⟨e20, K⟩ := K
        obtain ⟨q18, C19, K⟩ := K
        refine g_callV (M' := mX8_hasCall) (b := a0) (As := [.int x1, .int x3, .int (-1)]) (rest := [.int x2]) (rc' := rc) (rs' := rs) dX8_stops_81 bw_1514 bw_1516 bs_76 bw_9 bw_1517 ⟨by decide +kernel, by decide +kernel, show (parseMethodDescriptor mX8_hasCall.1.desc).map (fun d => d.parameters.length) = some 3 by decide +kernel⟩ (by decide) (by decide) (Nat.le_of_ble_eq_true rfl) fc_8 (by decide) rfl e20 C19 (Nat.le_of_eq (Nat.add_zero _)) (Nat.le_of_eq (Nat.add_zero _)) (fun _ _ h => h) ?_
        rintro _ h21 ⟨r22, rfl, K1⟩ -
        replace K := K r22 h21 K1
        show Gm l x mX8_stops 2 84 [(0, .ref a0), (1, .int x1), (2, .int x2), (3, .int x3)] [.int r22, .int x2] h21 rc rs n0 Q X
        have KJ : Gm l x mX8_stops 2 94 [(0, .ref a0), (1, .int x1), (2, .int x2), (3, .int x3)] [.int (if r22 = 0 then 0 else (1 <<< ((x3 : Int32) &&& 31)) : Int32), .int x2] h21 rc rs n0 Q X := by
          refine g_ior dX8_stops_94 ?_
          refine g_nmI (fun y24 e25 => ?_)
          replace K := K y24 e25
          refine g_istore_n (lv' := [(0, .ref a0), (1, .int x1), (2, .int y24), (3, .int x3)]) dX8_stops_95 rfl (by decide) rfl ?_
          refine g_iinc (v := (x3 + 1)) (lv' := [(0, .ref a0), (1, .int x1), (2, .int y24), (3, .int (x3 + 1))]) dX8_stops_96 3 rfl (by rfl) (by decide) rfl ?_
          refine g_goto (tgt := 48) dX8_stops_99 (by decide) ?_
          exact K
        refine g_if_eq (tgt := 93) dX8_stops_84 (by decide) (fun c23 => ?_) (fun c23 => ?_)
        · refine g_iconst (v := 0) dX8_stops_93 (by decide) ?_
          first | (simp only [if_pos c23] at KJ; exact KJ) | (simp only [if_pos c23, ite_true, ite_false, eq_self] at KJ; exact KJ) | (simp only [if_pos c23] at KJ ⊢; exact KJ) | exact KJ
        · refine g_iconst (v := 1) dX8_stops_87 (by decide) ?_
          refine g_iload_n dX8_stops_88 rfl 3 rfl ?_
          refine g_ishl dX8_stops_89 ?_
          refine g_goto (tgt := 94) dX8_stops_90 (by decide) ?_
          first | (simp only [if_neg c23] at KJ; exact KJ) | (simp only [if_neg c23, ite_true, ite_false, eq_self] at KJ; exact KJ) | (simp only [if_neg c23] at KJ ⊢; exact KJ) | exact KJ
theorem dX8_works_0 : decode cX8_works 0 = .ok (.aload_n 0, 1) := by decide +kernel
theorem dX8_works_1 : decode cX8_works 1 = .ok (.iload_n 1, 1) := by decide +kernel
theorem dX8_works_2 : decode cX8_works 2 = .ok (.iconst 5, 1) := by decide +kernel
theorem dX8_works_3 : decode cX8_works 3 = .ok (.aload_n 0, 1) := by decide +kernel
theorem dX8_works_4 : decode cX8_works 4 = .ok (.iload_n 1, 1) := by decide +kernel
theorem dX8_works_5 : decode cX8_works 5 = .ok (.iconst 5, 1) := by decide +kernel
theorem dX8_works_6 : decode cX8_works 6 = .ok (.invokevirtual 238, 3) := by decide +kernel
theorem dX8_works_9 : decode cX8_works 9 = .ok (.invokestatic 255, 3) := by decide +kernel
theorem dX8_works_12 : decode cX8_works 12 = .ok (.fload_n 2, 1) := by decide +kernel
theorem dX8_works_13 : decode cX8_works 13 = .ok (.fadd, 1) := by decide +kernel
theorem dX8_works_14 : decode cX8_works 14 = .ok (.invokestatic 261, 3) := by decide +kernel
theorem dX8_works_17 : decode cX8_works 17 = .ok (.invokevirtual 221, 3) := by decide +kernel
theorem dX8_works_20 : decode cX8_works 20 = .ok (.return_, 1) := by decide +kernel
set_option maxRecDepth 20000 in
set_option maxHeartbeats 4000000 in
theorem vX8_works_0 {l : Launch} {x : CX} {a0 : Nat} {x1 : Int32} {f2 : UInt32} {h : PH} {rc rs n0 : Nat} {Q : Option Value → PH → Prop} {X : String → PH → Prop}
    (K : ((hK h a0).1 = 8) ∧ ∃ (q1 : Int32 → PH → Prop), CI l x mX8_carOf 0 0 0 [.ref a0, .int x1, .int 5] h q1 ∧ ∀ (r5 : Int32) (h4 : PH), q1 r5 h4 → (vn_sni2f r5 = false) ∧ (vf_n32 (FP.fadd r5.toUInt32 f2)) ∧ ∃ (q8 : Int32 → PH → Prop), CI l x mJxf58ca_floatToIntBits_5c35a 1 0 0 [.float (FP.fadd r5.toUInt32 f2)] h4 q8 ∧ ∀ (r11 : Int32) (h10 : PH), q8 r11 h10 → ((hK h10 a0).1 = 8) ∧ ∃ (q12 : PH → Prop), CV l x mX8_putCar 0 0 0 [.ref a0, .int x1, .int 5, .int r11] h10 q12 ∧ ∀ (h15 : PH), q12 h15 → Q none h15) :
    Gm l x mX8_works 2 0 [(0, .ref a0), (1, .int x1), (2, .float f2)] [] h rc rs n0 Q X := by
  refine g_aload_n dX8_works_0 rfl 0 rfl ?_
  refine g_iload_n dX8_works_1 rfl 1 rfl ?_
  refine g_iconst (v := 5) dX8_works_2 (by decide) ?_
  refine g_aload_n dX8_works_3 rfl 0 rfl ?_
  refine g_iload_n dX8_works_4 rfl 1 rfl ?_
  refine g_iconst (v := 5) dX8_works_5 (by decide) ?_
  obtain ⟨e3, K⟩ := K
  obtain ⟨q1, C2, K⟩ := K
  refine g_callV (M' := mX8_carOf) (b := a0) (As := [.int x1, .int 5]) (rest := [.int 5, .int x1, .ref a0]) (rc' := rc) (rs' := rs) dX8_works_6 bw_1476 bw_1478 bs_67 bw_9 bw_1479 ⟨by decide +kernel, by decide +kernel, show (parseMethodDescriptor mX8_carOf.1.desc).map (fun d => d.parameters.length) = some 2 by decide +kernel⟩ (by decide) (by decide) (Nat.le_of_ble_eq_true rfl) fc_8 (by decide) rfl e3 C2 (Nat.le_of_eq (Nat.add_zero _)) (Nat.le_of_eq (Nat.add_zero _)) (fun _ _ h => h) ?_
  rintro _ h4 ⟨r5, rfl, K1⟩ -
  replace K := K r5 h4 K1
  show Gm l x mX8_works 2 9 [(0, .ref a0), (1, .int x1), (2, .float f2)] [.int r5, .int 5, .int x1, .ref a0] h4 rc rs n0 Q X
  obtain ⟨e6, K⟩ := K
  refine g_i2fb dX8_works_9 bw_1535 bw_1537 bw_1536 bw_23 e6 (by decide) (Nat.le_of_ble_eq_true rfl) ?_
  refine g_fload_n dX8_works_12 rfl 2 rfl ?_
  obtain ⟨e7, K⟩ := K
  refine g_fadd dX8_works_13 e7 ?_
  obtain ⟨q8, C9, K⟩ := K
  refine g_callS (M' := mJxf58ca_floatToIntBits_5c35a) (As := [.float (FP.fadd r5.toUInt32 f2)]) (rest := [.int 5, .int x1, .ref a0]) (rc' := rc) (rs' := rs) dX8_works_14 bw_1538 bw_1539 bw_23 bw_1540 ⟨by decide +kernel, by decide +kernel, show (parseMethodDescriptor mJxf58ca_floatToIntBits_5c35a.1.desc).map (fun d => d.parameters.length) = some 1 by decide +kernel⟩ (by decide) (by decide) (Nat.le_of_ble_eq_true rfl) C9 (Nat.le_of_eq (Nat.add_zero _)) (Nat.le_of_eq (Nat.add_zero _)) (fun _ _ h => h) ?_
  rintro _ h10 ⟨r11, rfl, K1⟩ -
  replace K := K r11 h10 K1
  show Gm l x mX8_works 2 17 [(0, .ref a0), (1, .int x1), (2, .float f2)] [.int r11, .int 5, .int x1, .ref a0] h10 rc rs n0 Q X
  obtain ⟨e14, K⟩ := K
  obtain ⟨q12, C13, K⟩ := K
  refine g_callV (M' := mX8_putCar) (b := a0) (As := [.int x1, .int 5, .int r11]) (rest := []) (rc' := rc) (rs' := rs) dX8_works_17 bw_1190 bw_1192 bs_37 bw_9 bw_1193 ⟨by decide +kernel, by decide +kernel, show (parseMethodDescriptor mX8_putCar.1.desc).map (fun d => d.parameters.length) = some 3 by decide +kernel⟩ (by decide) (by decide) (Nat.le_of_ble_eq_true rfl) fc_8 (by decide) rfl e14 C13 (Nat.le_of_eq (Nat.add_zero _)) (Nat.le_of_eq (Nat.add_zero _)) (fun _ _ h => h) ?_
  rintro _ h15 ⟨rfl, K1⟩ -
  replace K := K h15 K1
  show Gm l x mX8_works 2 20 [(0, .ref a0), (1, .int x1), (2, .float f2)] [] h15 rc rs n0 Q X
  exact g_vret dX8_works_20 rfl K
theorem dX8_parks_0 : decode cX8_parks 0 = .ok (.aload_n 0, 1) := by decide +kernel
theorem dX8_parks_1 : decode cX8_parks 1 = .ok (.invokevirtual 287, 3) := by decide +kernel
theorem dX8_parks_4 : decode cX8_parks 4 = .ok (.ifCond .eq 7, 3) := by decide +kernel
theorem dX8_parks_7 : decode cX8_parks 7 = .ok (.iconst 0, 1) := by decide +kernel
theorem dX8_parks_8 : decode cX8_parks 8 = .ok (.goto 10, 3) := by decide +kernel
theorem dX8_parks_11 : decode cX8_parks 11 = .ok (.aload_n 0, 1) := by decide +kernel
theorem dX8_parks_12 : decode cX8_parks 12 = .ok (.iload_n 1, 1) := by decide +kernel
theorem dX8_parks_13 : decode cX8_parks 13 = .ok (.bipush 6, 2) := by decide +kernel
theorem dX8_parks_15 : decode cX8_parks 15 = .ok (.invokevirtual 238, 3) := by decide +kernel
theorem dX8_parks_18 : decode cX8_parks 18 = .ok (.ireturn, 1) := by decide +kernel
set_option maxRecDepth 20000 in
set_option maxHeartbeats 4000000 in
theorem vX8_parks_0 {l : Launch} {x : CX} {a0 : Nat} {x1 : Int32} {h : PH} {rc rs n0 : Nat} {Q : Option Value → PH → Prop} {X : String → PH → Prop}
    (K : ((hK h a0).1 = 8) ∧ ∃ (q1 : Int32 → PH → Prop), CI l x mX8_isPeak 1 0 0 [.ref a0] h q1 ∧ ∀ (r5 : Int32) (h4 : PH), q1 r5 h4 → ((r5 = 0 → ((hK h4 a0).1 = 8) ∧ ∃ (q7 : Int32 → PH → Prop), CI l x mX8_carOf 0 0 0 [.ref a0, .int x1, .int 6] h4 q7 ∧ ∀ (r11 : Int32) (h10 : PH), q7 r11 h10 → Q (some (.int r11)) h10) ∧ (¬ r5 = 0 → Q (some (.int 0)) h4))) :
    Gm l x mX8_parks 2 0 [(0, .ref a0), (1, .int x1)] [] h rc rs n0 Q X := by
  refine g_aload_n dX8_parks_0 rfl 0 rfl ?_
  obtain ⟨e3, K⟩ := K
  obtain ⟨q1, C2, K⟩ := K
  refine g_callV (M' := mX8_isPeak) (b := a0) (As := []) (rest := []) (rc' := rc) (rs' := rs) dX8_parks_1 bw_1433 bw_1435 bs_57 bw_9 bw_1436 ⟨by decide +kernel, by decide +kernel, show (parseMethodDescriptor mX8_isPeak.1.desc).map (fun d => d.parameters.length) = some 0 by decide +kernel⟩ (by decide) (by decide) (Nat.le_of_ble_eq_true rfl) fc_8 (by decide) rfl e3 C2 (Nat.le_of_eq (Nat.add_zero _)) (Nat.le_of_eq (Nat.add_zero _)) (fun _ _ h => h) ?_
  rintro _ h4 ⟨r5, rfl, K1⟩ -
  replace K := K r5 h4 K1
  show Gm l x mX8_parks 2 4 [(0, .ref a0), (1, .int x1)] [.int r5] h4 rc rs n0 Q X
  refine g_if_eq (tgt := 11) dX8_parks_4 (by decide) (fun c6 => ?_) (fun c6 => ?_)
  · replace K := K.1 c6
    refine g_aload_n dX8_parks_11 rfl 0 rfl ?_
    refine g_iload_n dX8_parks_12 rfl 1 rfl ?_
    refine g_bipush (v := 6) dX8_parks_13 (by decide) ?_
    obtain ⟨e9, K⟩ := K
    obtain ⟨q7, C8, K⟩ := K
    refine g_callV (M' := mX8_carOf) (b := a0) (As := [.int x1, .int 6]) (rest := []) (rc' := rc) (rs' := rs) dX8_parks_15 bw_1476 bw_1478 bs_67 bw_9 bw_1479 ⟨by decide +kernel, by decide +kernel, show (parseMethodDescriptor mX8_carOf.1.desc).map (fun d => d.parameters.length) = some 2 by decide +kernel⟩ (by decide) (by decide) (Nat.le_of_ble_eq_true rfl) fc_8 (by decide) rfl e9 C8 (Nat.le_of_eq (Nat.add_zero _)) (Nat.le_of_eq (Nat.add_zero _)) (fun _ _ h => h) ?_
    rintro _ h10 ⟨r11, rfl, K1⟩ -
    replace K := K r11 h10 K1
    show Gm l x mX8_parks 2 18 [(0, .ref a0), (1, .int x1)] [.int r11] h10 rc rs n0 Q X
    exact g_iret dX8_parks_18 rfl K
  · replace K := K.2 c6
    refine g_iconst (v := 0) dX8_parks_7 (by decide) ?_
    refine g_goto (tgt := 18) dX8_parks_8 (by decide) ?_
    exact g_iret dX8_parks_18 rfl K
theorem dX8_empties_0 : decode cX8_empties 0 = .ok (.aload_n 0, 1) := by decide +kernel
theorem dX8_empties_1 : decode cX8_empties 1 = .ok (.iload_n 1, 1) := by decide +kernel
theorem dX8_empties_2 : decode cX8_empties 2 = .ok (.iconst 0, 1) := by decide +kernel
theorem dX8_empties_3 : decode cX8_empties 3 = .ok (.invokevirtual 238, 3) := by decide +kernel
theorem dX8_empties_6 : decode cX8_empties 6 = .ok (.istore_n 2, 1) := by decide +kernel
theorem dX8_empties_7 : decode cX8_empties 7 = .ok (.iconst 0, 1) := by decide +kernel
theorem dX8_empties_8 : decode cX8_empties 8 = .ok (.istore_n 3, 1) := by decide +kernel
theorem dX8_empties_9 : decode cX8_empties 9 = .ok (.iload_n 3, 1) := by decide +kernel
theorem dX8_empties_10 : decode cX8_empties 10 = .ok (.aload_n 0, 1) := by decide +kernel
theorem dX8_empties_11 : decode cX8_empties 11 = .ok (.getfield 29, 3) := by decide +kernel
theorem dX8_empties_14 : decode cX8_empties 14 = .ok (.bipush 6, 2) := by decide +kernel
theorem dX8_empties_16 : decode cX8_empties 16 = .ok (.iaload, 1) := by decide +kernel
theorem dX8_empties_17 : decode cX8_empties 17 = .ok (.if_icmp .ge 57, 3) := by decide +kernel
theorem dX8_empties_20 : decode cX8_empties 20 = .ok (.aload_n 0, 1) := by decide +kernel
theorem dX8_empties_21 : decode cX8_empties 21 = .ok (.iload_n 1, 1) := by decide +kernel
theorem dX8_empties_22 : decode cX8_empties 22 = .ok (.iconst 3, 1) := by decide +kernel
theorem dX8_empties_23 : decode cX8_empties 23 = .ok (.invokevirtual 238, 3) := by decide +kernel
theorem dX8_empties_26 : decode cX8_empties 26 = .ok (.iload_n 3, 1) := by decide +kernel
theorem dX8_empties_27 : decode cX8_empties 27 = .ok (.ishr, 1) := by decide +kernel
theorem dX8_empties_28 : decode cX8_empties 28 = .ok (.iconst 1, 1) := by decide +kernel
theorem dX8_empties_29 : decode cX8_empties 29 = .ok (.iand, 1) := by decide +kernel
theorem dX8_empties_30 : decode cX8_empties 30 = .ok (.ifCond .ne 6, 3) := by decide +kernel
theorem dX8_empties_33 : decode cX8_empties 33 = .ok (.goto 35, 3) := by decide +kernel
theorem dX8_empties_36 : decode cX8_empties 36 = .ok (.aload_n 0, 1) := by decide +kernel
theorem dX8_empties_37 : decode cX8_empties 37 = .ok (.iload_n 3, 1) := by decide +kernel
theorem dX8_empties_38 : decode cX8_empties 38 = .ok (.iconst 3, 1) := by decide +kernel
theorem dX8_empties_39 : decode cX8_empties 39 = .ok (.invokevirtual 228, 3) := by decide +kernel
theorem dX8_empties_42 : decode cX8_empties 42 = .ok (.iload_n 2, 1) := by decide +kernel
theorem dX8_empties_43 : decode cX8_empties 43 = .ok (.if_icmp .ne 11, 3) := by decide +kernel
theorem dX8_empties_46 : decode cX8_empties 46 = .ok (.aload_n 0, 1) := by decide +kernel
theorem dX8_empties_47 : decode cX8_empties 47 = .ok (.iload_n 3, 1) := by decide +kernel
theorem dX8_empties_48 : decode cX8_empties 48 = .ok (.invokevirtual 277, 3) := by decide +kernel
theorem dX8_empties_51 : decode cX8_empties 51 = .ok (.goto 17, 3) := by decide +kernel
theorem dX8_empties_54 : decode cX8_empties 54 = .ok (.aload_n 0, 1) := by decide +kernel
theorem dX8_empties_55 : decode cX8_empties 55 = .ok (.iload_n 3, 1) := by decide +kernel
theorem dX8_empties_56 : decode cX8_empties 56 = .ok (.iconst 4, 1) := by decide +kernel
theorem dX8_empties_57 : decode cX8_empties 57 = .ok (.iconst 1, 1) := by decide +kernel
theorem dX8_empties_58 : decode cX8_empties 58 = .ok (.invokevirtual 225, 3) := by decide +kernel
theorem dX8_empties_61 : decode cX8_empties 61 = .ok (.aload_n 0, 1) := by decide +kernel
theorem dX8_empties_62 : decode cX8_empties 62 = .ok (.iload_n 3, 1) := by decide +kernel
theorem dX8_empties_63 : decode cX8_empties 63 = .ok (.iconst 5, 1) := by decide +kernel
theorem dX8_empties_64 : decode cX8_empties 64 = .ok (.iload_n 2, 1) := by decide +kernel
theorem dX8_empties_65 : decode cX8_empties 65 = .ok (.invokevirtual 225, 3) := by decide +kernel
theorem dX8_empties_68 : decode cX8_empties 68 = .ok (.iinc 3 1, 3) := by decide +kernel
theorem dX8_empties_71 : decode cX8_empties 71 = .ok (.goto (-62), 3) := by decide +kernel
theorem dX8_empties_74 : decode cX8_empties 74 = .ok (.aload_n 0, 1) := by decide +kernel
theorem dX8_empties_75 : decode cX8_empties 75 = .ok (.iload_n 1, 1) := by decide +kernel
theorem dX8_empties_76 : decode cX8_empties 76 = .ok (.iconst 3, 1) := by decide +kernel
theorem dX8_empties_77 : decode cX8_empties 77 = .ok (.iconst 0, 1) := by decide +kernel
theorem dX8_empties_78 : decode cX8_empties 78 = .ok (.invokevirtual 221, 3) := by decide +kernel
theorem dX8_empties_81 : decode cX8_empties 81 = .ok (.return_, 1) := by decide +kernel
set_option maxRecDepth 20000 in
set_option maxHeartbeats 4000000 in
theorem vX8_empties_0 {l : Launch} {x : CX} {a0 : Nat} {x1 : Int32} {h : PH} {rc rs n0 : Nat} {Q : Option Value → PH → Prop} {X : String → PH → Prop}
    (K : ((hK h a0).1 = 8) ∧ ∃ (q1 : Int32 → PH → Prop), CI l x mX8_carOf 0 0 0 [.ref a0, .int x1, .int 0] h q1 ∧ ∀ (r5 : Int32) (h4 : PH), q1 r5 h4 → Gm l x mX8_empties 2 9 [(0, .ref a0), (1, .int x1), (2, .int r5), (3, .int 0)] [] h4 rc rs n0 Q X) :
    Gm l x mX8_empties 2 0 [(0, .ref a0), (1, .int x1)] [] h rc rs n0 Q X := by
  refine g_aload_n dX8_empties_0 rfl 0 rfl ?_
  refine g_iload_n dX8_empties_1 rfl 1 rfl ?_
  refine g_iconst (v := 0) dX8_empties_2 (by decide) ?_
  obtain ⟨e3, K⟩ := K
  obtain ⟨q1, C2, K⟩ := K
  refine g_callV (M' := mX8_carOf) (b := a0) (As := [.int x1, .int 0]) (rest := []) (rc' := rc) (rs' := rs) dX8_empties_3 bw_1476 bw_1478 bs_67 bw_9 bw_1479 ⟨by decide +kernel, by decide +kernel, show (parseMethodDescriptor mX8_carOf.1.desc).map (fun d => d.parameters.length) = some 2 by decide +kernel⟩ (by decide) (by decide) (Nat.le_of_ble_eq_true rfl) fc_8 (by decide) rfl e3 C2 (Nat.le_of_eq (Nat.add_zero _)) (Nat.le_of_eq (Nat.add_zero _)) (fun _ _ h => h) ?_
  rintro _ h4 ⟨r5, rfl, K1⟩ -
  replace K := K r5 h4 K1
  show Gm l x mX8_empties 2 6 [(0, .ref a0), (1, .int x1)] [.int r5] h4 rc rs n0 Q X
  refine g_istore_n (lv' := [(0, .ref a0), (1, .int x1), (2, .int r5)]) dX8_empties_6 rfl (by decide) rfl ?_
  refine g_iconst (v := 0) dX8_empties_7 (by decide) ?_
  refine g_istore_n (lv' := [(0, .ref a0), (1, .int x1), (2, .int r5), (3, .int 0)]) dX8_empties_8 rfl (by decide) rfl ?_
  exact K
set_option maxRecDepth 20000 in
set_option maxHeartbeats 4000000 in
theorem vX8_empties_9 {l : Launch} {x : CX} {a0 : Nat} {x1 : Int32} {x2 : Int32} {x3 : Int32} {h : PH} {rc rs n0 : Nat} {Q : Option Value → PH → Prop} {X : String → PH → Prop}
    (K : ((hK h a0).1 = 8) ∧ ∃ b2, (hR h a0 2 = some b2) ∧ ((hK h b2).1 = 100) ∧ (vp_in 6 (hK h b2).2) ∧ (((hI h b2 (Int32.toNatClampNeg 6)) ≤ x3 → ∃ (q7 : PH → Prop), CV l x mX8_putCar 0 0 0 [.ref a0, .int x1, .int 3, .int 0] h q7 ∧ ∀ (h9 : PH), q7 h9 → Q none h9) ∧ (¬ (hI h b2 (Int32.toNatClampNeg 6)) ≤ x3 → ∃ (q10 : Int32 → PH → Prop), CI l x mX8_carOf 0 0 0 [.ref a0, .int x1, .int 3] h q10 ∧ ∀ (r13 : Int32) (h12 : PH), q10 r13 h12 → ((¬ ((r13 >>> ((x3 : Int32) &&& 31)) &&& 1) = 0 → ((hK h12 a0).1 = 8) ∧ ∃ (q15 : Int32 → PH → Prop), CI l x mX8_of 0 0 0 [.ref a0, .int x3, .int 3] h12 q15 ∧ ∀ (r19 : Int32) (h18 : PH), q15 r19 h18 → ((¬ r19 = x2 → ((hK h18 a0).1 = 8) ∧ ∃ (q21 : PH → Prop), CV l x mX8_put 0 0 0 [.ref a0, .int x3, .int 4, .int 1] h18 q21 ∧ ∀ (h24 : PH), q21 h24 → ((hK h24 a0).1 = 8) ∧ ∃ (q25 : PH → Prop), CV l x mX8_put 0 0 0 [.ref a0, .int x3, .int 5, .int x2] h24 q25 ∧ ∀ (h28 : PH), q25 h28 → Gm l x mX8_empties 2 9 [(0, .ref a0), (1, .int x1), (2, .int x2), (3, .int (x3 + 1))] [] h28 rc rs n0 Q X) ∧ (r19 = x2 → ((hK h18 a0).1 = 8) ∧ ∃ (q29 : PH → Prop), CV l x mX8_arrives 1 0 0 [.ref a0, .int x3] h18 q29 ∧ ∀ (h32 : PH), q29 h32 → Gm l x mX8_empties 2 9 [(0, .ref a0), (1, .int x1), (2, .int x2), (3, .int (x3 + 1))] [] h32 rc rs n0 Q X))) ∧ (((r13 >>> ((x3 : Int32) &&& 31)) &&& 1) = 0 → Gm l x mX8_empties 2 9 [(0, .ref a0), (1, .int x1), (2, .int x2), (3, .int (x3 + 1))] [] h12 rc rs n0 Q X))))) :
    Gm l x mX8_empties 2 9 [(0, .ref a0), (1, .int x1), (2, .int x2), (3, .int x3)] [] h rc rs n0 Q X := by
  refine g_iload_n dX8_empties_9 rfl 3 rfl ?_
  refine g_aload_n dX8_empties_10 rfl 0 rfl ?_
  obtain ⟨e1, b2, e3, K⟩ := K
  refine g_get (c := 8) (k := 2) (v := .ref b2) dX8_empties_11 fc_8 (by decide) (by decide) bw_1200 (congrArg pr e3) e1 ?_
  refine g_bipush (v := 6) dX8_empties_14 (by decide) ?_
  obtain ⟨e4, e5, K⟩ := K
  refine g_iald dX8_empties_16 e4 e5 ?_
  refine g_icmp_ge (tgt := 74) dX8_empties_17 (by decide) (fun c6 => ?_) (fun c6 => ?_)
  · replace K := K.1 c6
    refine g_aload_n dX8_empties_74 rfl 0 rfl ?_
    refine g_iload_n dX8_empties_75 rfl 1 rfl ?_
    refine g_iconst (v := 3) dX8_empties_76 (by decide) ?_
    refine g_iconst (v := 0) dX8_empties_77 (by decide) ?_
    obtain ⟨q7, C8, K⟩ := K
    refine g_callV (M' := mX8_putCar) (b := a0) (As := [.int x1, .int 3, .int 0]) (rest := []) (rc' := rc) (rs' := rs) dX8_empties_78 bw_1190 bw_1192 bs_37 bw_9 bw_1193 ⟨by decide +kernel, by decide +kernel, show (parseMethodDescriptor mX8_putCar.1.desc).map (fun d => d.parameters.length) = some 3 by decide +kernel⟩ (by decide) (by decide) (Nat.le_of_ble_eq_true rfl) fc_8 (by decide) rfl e1 C8 (Nat.le_of_eq (Nat.add_zero _)) (Nat.le_of_eq (Nat.add_zero _)) (fun _ _ h => h) ?_
    rintro _ h9 ⟨rfl, K1⟩ -
    replace K := K h9 K1
    show Gm l x mX8_empties 2 81 [(0, .ref a0), (1, .int x1), (2, .int x2), (3, .int x3)] [] h9 rc rs n0 Q X
    exact g_vret dX8_empties_81 rfl K
  · replace K := K.2 c6
    refine g_aload_n dX8_empties_20 rfl 0 rfl ?_
    refine g_iload_n dX8_empties_21 rfl 1 rfl ?_
    refine g_iconst (v := 3) dX8_empties_22 (by decide) ?_
    obtain ⟨q10, C11, K⟩ := K
    refine g_callV (M' := mX8_carOf) (b := a0) (As := [.int x1, .int 3]) (rest := []) (rc' := rc) (rs' := rs) dX8_empties_23 bw_1476 bw_1478 bs_67 bw_9 bw_1479 ⟨by decide +kernel, by decide +kernel, show (parseMethodDescriptor mX8_carOf.1.desc).map (fun d => d.parameters.length) = some 2 by decide +kernel⟩ (by decide) (by decide) (Nat.le_of_ble_eq_true rfl) fc_8 (by decide) rfl e1 C11 (Nat.le_of_eq (Nat.add_zero _)) (Nat.le_of_eq (Nat.add_zero _)) (fun _ _ h => h) ?_
    rintro _ h12 ⟨r13, rfl, K1⟩ -
    replace K := K r13 h12 K1
    show Gm l x mX8_empties 2 26 [(0, .ref a0), (1, .int x1), (2, .int x2), (3, .int x3)] [.int r13] h12 rc rs n0 Q X
    refine g_iload_n dX8_empties_26 rfl 3 rfl ?_
    refine g_ishr dX8_empties_27 ?_
    refine g_iconst (v := 1) dX8_empties_28 (by decide) ?_
    refine g_iand dX8_empties_29 ?_
    refine g_if_ne (tgt := 36) dX8_empties_30 (by decide) (fun c14 => ?_) (fun c14 => ?_)
    · replace K := K.1 c14
      refine g_aload_n dX8_empties_36 rfl 0 rfl ?_
      refine g_iload_n dX8_empties_37 rfl 3 rfl ?_
      refine g_iconst (v := 3) dX8_empties_38 (by decide) ?_
      obtain ⟨e17, K⟩ := K
      obtain ⟨q15, C16, K⟩ := K
      refine g_callV (M' := mX8_of) (b := a0) (As := [.int x3, .int 3]) (rest := []) (rc' := rc) (rs' := rs) dX8_empties_39 bw_1413 bw_1415 bs_52 bw_9 bw_1416 ⟨by decide +kernel, by decide +kernel, show (parseMethodDescriptor mX8_of.1.desc).map (fun d => d.parameters.length) = some 2 by decide +kernel⟩ (by decide) (by decide) (Nat.le_of_ble_eq_true rfl) fc_8 (by decide) rfl e17 C16 (Nat.le_of_eq (Nat.add_zero _)) (Nat.le_of_eq (Nat.add_zero _)) (fun _ _ h => h) ?_
      rintro _ h18 ⟨r19, rfl, K1⟩ -
      replace K := K r19 h18 K1
      show Gm l x mX8_empties 2 42 [(0, .ref a0), (1, .int x1), (2, .int x2), (3, .int x3)] [.int r19] h18 rc rs n0 Q X
      refine g_iload_n dX8_empties_42 rfl 2 rfl ?_
      refine g_icmp_ne (tgt := 54) dX8_empties_43 (by decide) (fun c20 => ?_) (fun c20 => ?_)
      · replace K := K.1 c20
        refine g_aload_n dX8_empties_54 rfl 0 rfl ?_
        refine g_iload_n dX8_empties_55 rfl 3 rfl ?_
        refine g_iconst (v := 4) dX8_empties_56 (by decide) ?_
        refine g_iconst (v := 1) dX8_empties_57 (by decide) ?_
        obtain ⟨e23, K⟩ := K
        obtain ⟨q21, C22, K⟩ := K
        refine g_callV (M' := mX8_put) (b := a0) (As := [.int x3, .int 4, .int 1]) (rest := []) (rc' := rc) (rs' := rs) dX8_empties_58 bw_1194 bw_1196 bs_38 bw_9 bw_1197 ⟨by decide +kernel, by decide +kernel, show (parseMethodDescriptor mX8_put.1.desc).map (fun d => d.parameters.length) = some 3 by decide +kernel⟩ (by decide) (by decide) (Nat.le_of_ble_eq_true rfl) fc_8 (by decide) rfl e23 C22 (Nat.le_of_eq (Nat.add_zero _)) (Nat.le_of_eq (Nat.add_zero _)) (fun _ _ h => h) ?_
        rintro _ h24 ⟨rfl, K1⟩ -
        replace K := K h24 K1
        show Gm l x mX8_empties 2 61 [(0, .ref a0), (1, .int x1), (2, .int x2), (3, .int x3)] [] h24 rc rs n0 Q X
        refine g_aload_n dX8_empties_61 rfl 0 rfl ?_
        refine g_iload_n dX8_empties_62 rfl 3 rfl ?_
        refine g_iconst (v := 5) dX8_empties_63 (by decide) ?_
        refine g_iload_n dX8_empties_64 rfl 2 rfl ?_
        obtain ⟨e27, K⟩ := K
        obtain ⟨q25, C26, K⟩ := K
        refine g_callV (M' := mX8_put) (b := a0) (As := [.int x3, .int 5, .int x2]) (rest := []) (rc' := rc) (rs' := rs) dX8_empties_65 bw_1194 bw_1196 bs_38 bw_9 bw_1197 ⟨by decide +kernel, by decide +kernel, show (parseMethodDescriptor mX8_put.1.desc).map (fun d => d.parameters.length) = some 3 by decide +kernel⟩ (by decide) (by decide) (Nat.le_of_ble_eq_true rfl) fc_8 (by decide) rfl e27 C26 (Nat.le_of_eq (Nat.add_zero _)) (Nat.le_of_eq (Nat.add_zero _)) (fun _ _ h => h) ?_
        rintro _ h28 ⟨rfl, K1⟩ -
        replace K := K h28 K1
        show Gm l x mX8_empties 2 68 [(0, .ref a0), (1, .int x1), (2, .int x2), (3, .int x3)] [] h28 rc rs n0 Q X
        refine g_iinc (v := (x3 + 1)) (lv' := [(0, .ref a0), (1, .int x1), (2, .int x2), (3, .int (x3 + 1))]) dX8_empties_68 3 rfl (by rfl) (by decide) rfl ?_
        refine g_goto (tgt := 9) dX8_empties_71 (by decide) ?_
        exact K
      · replace K := K.2 c20
        refine g_aload_n dX8_empties_46 rfl 0 rfl ?_
        refine g_iload_n dX8_empties_47 rfl 3 rfl ?_
        obtain ⟨e31, K⟩ := K
        obtain ⟨q29, C30, K⟩ := K
        refine g_callV (M' := mX8_arrives) (b := a0) (As := [.int x3]) (rest := []) (rc' := rc) (rs' := rs) dX8_empties_48 bw_1522 bw_1524 bs_78 bw_9 bw_1525 ⟨by decide +kernel, by decide +kernel, show (parseMethodDescriptor mX8_arrives.1.desc).map (fun d => d.parameters.length) = some 1 by decide +kernel⟩ (by decide) (by decide) (Nat.le_of_ble_eq_true rfl) fc_8 (by decide) rfl e31 C30 (Nat.le_of_eq (Nat.add_zero _)) (Nat.le_of_eq (Nat.add_zero _)) (fun _ _ h => h) ?_
        rintro _ h32 ⟨rfl, K1⟩ -
        replace K := K h32 K1
        show Gm l x mX8_empties 2 51 [(0, .ref a0), (1, .int x1), (2, .int x2), (3, .int x3)] [] h32 rc rs n0 Q X
        refine g_goto (tgt := 68) dX8_empties_51 (by decide) ?_
        refine g_iinc (v := (x3 + 1)) (lv' := [(0, .ref a0), (1, .int x1), (2, .int x2), (3, .int (x3 + 1))]) dX8_empties_68 3 rfl (by rfl) (by decide) rfl ?_
        refine g_goto (tgt := 9) dX8_empties_71 (by decide) ?_
        exact K
    · replace K := K.2 c14
      refine g_goto (tgt := 68) dX8_empties_33 (by decide) ?_
      refine g_iinc (v := (x3 + 1)) (lv' := [(0, .ref a0), (1, .int x1), (2, .int x2), (3, .int (x3 + 1))]) dX8_empties_68 3 rfl (by rfl) (by decide) rfl ?_
      refine g_goto (tgt := 9) dX8_empties_71 (by decide) ?_
      exact K
theorem dX8_overtaken_0 : decode cX8_overtaken 0 = .ok (.iconst 0, 1) := by decide +kernel
theorem dX8_overtaken_1 : decode cX8_overtaken 1 = .ok (.istore_n 1, 1) := by decide +kernel
theorem dX8_overtaken_2 : decode cX8_overtaken 2 = .ok (.iconst 0, 1) := by decide +kernel
theorem dX8_overtaken_3 : decode cX8_overtaken 3 = .ok (.istore_n 2, 1) := by decide +kernel
theorem dX8_overtaken_4 : decode cX8_overtaken 4 = .ok (.iload_n 2, 1) := by decide +kernel
theorem dX8_overtaken_5 : decode cX8_overtaken 5 = .ok (.aload_n 0, 1) := by decide +kernel
theorem dX8_overtaken_6 : decode cX8_overtaken 6 = .ok (.getfield 29, 3) := by decide +kernel
theorem dX8_overtaken_9 : decode cX8_overtaken 9 = .ok (.bipush 6, 2) := by decide +kernel
theorem dX8_overtaken_11 : decode cX8_overtaken 11 = .ok (.iaload, 1) := by decide +kernel
theorem dX8_overtaken_12 : decode cX8_overtaken 12 = .ok (.if_icmp .ge 50, 3) := by decide +kernel
theorem dX8_overtaken_15 : decode cX8_overtaken 15 = .ok (.iconst 0, 1) := by decide +kernel
theorem dX8_overtaken_16 : decode cX8_overtaken 16 = .ok (.istore_n 3, 1) := by decide +kernel
theorem dX8_overtaken_17 : decode cX8_overtaken 17 = .ok (.iload_n 3, 1) := by decide +kernel
theorem dX8_overtaken_18 : decode cX8_overtaken 18 = .ok (.aload_n 0, 1) := by decide +kernel
theorem dX8_overtaken_19 : decode cX8_overtaken 19 = .ok (.getfield 29, 3) := by decide +kernel
theorem dX8_overtaken_22 : decode cX8_overtaken 22 = .ok (.bipush 6, 2) := by decide +kernel
theorem dX8_overtaken_24 : decode cX8_overtaken 24 = .ok (.iaload, 1) := by decide +kernel
theorem dX8_overtaken_25 : decode cX8_overtaken 25 = .ok (.if_icmp .ge 31, 3) := by decide +kernel
theorem dX8_overtaken_28 : decode cX8_overtaken 28 = .ok (.iload_n 1, 1) := by decide +kernel
theorem dX8_overtaken_29 : decode cX8_overtaken 29 = .ok (.iload_n 2, 1) := by decide +kernel
theorem dX8_overtaken_30 : decode cX8_overtaken 30 = .ok (.iload_n 3, 1) := by decide +kernel
theorem dX8_overtaken_31 : decode cX8_overtaken 31 = .ok (.if_icmp .eq 16, 3) := by decide +kernel
theorem dX8_overtaken_34 : decode cX8_overtaken 34 = .ok (.aload_n 0, 1) := by decide +kernel
theorem dX8_overtaken_35 : decode cX8_overtaken 35 = .ok (.iload_n 2, 1) := by decide +kernel
theorem dX8_overtaken_36 : decode cX8_overtaken 36 = .ok (.iload_n 3, 1) := by decide +kernel
theorem dX8_overtaken_37 : decode cX8_overtaken 37 = .ok (.invokevirtual 341, 3) := by decide +kernel
theorem dX8_overtaken_40 : decode cX8_overtaken 40 = .ok (.ifCond .eq 7, 3) := by decide +kernel
theorem dX8_overtaken_43 : decode cX8_overtaken 43 = .ok (.iconst 1, 1) := by decide +kernel
theorem dX8_overtaken_44 : decode cX8_overtaken 44 = .ok (.goto 4, 3) := by decide +kernel
theorem dX8_overtaken_47 : decode cX8_overtaken 47 = .ok (.iconst 0, 1) := by decide +kernel
theorem dX8_overtaken_48 : decode cX8_overtaken 48 = .ok (.iadd, 1) := by decide +kernel
theorem dX8_overtaken_49 : decode cX8_overtaken 49 = .ok (.istore_n 1, 1) := by decide +kernel
theorem dX8_overtaken_50 : decode cX8_overtaken 50 = .ok (.iinc 3 1, 3) := by decide +kernel
theorem dX8_overtaken_53 : decode cX8_overtaken 53 = .ok (.goto (-36), 3) := by decide +kernel
theorem dX8_overtaken_56 : decode cX8_overtaken 56 = .ok (.iinc 2 1, 3) := by decide +kernel
theorem dX8_overtaken_59 : decode cX8_overtaken 59 = .ok (.goto (-55), 3) := by decide +kernel
theorem dX8_overtaken_62 : decode cX8_overtaken 62 = .ok (.iload_n 1, 1) := by decide +kernel
theorem dX8_overtaken_63 : decode cX8_overtaken 63 = .ok (.ireturn, 1) := by decide +kernel
set_option maxRecDepth 20000 in
set_option maxHeartbeats 4000000 in
theorem vX8_overtaken_0 {l : Launch} {x : CX} {a0 : Nat} {h : PH} {rc rs n0 : Nat} {Q : Option Value → PH → Prop} {X : String → PH → Prop}
    (K : Gm l x mX8_overtaken 2 4 [(0, .ref a0), (1, .int 0), (2, .int 0)] [] h rc rs n0 Q X) :
    Gm l x mX8_overtaken 2 0 [(0, .ref a0)] [] h rc rs n0 Q X := by
  refine g_iconst (v := 0) dX8_overtaken_0 (by decide) ?_
  refine g_istore_n (lv' := [(0, .ref a0), (1, .int 0)]) dX8_overtaken_1 rfl (by decide) rfl ?_
  refine g_iconst (v := 0) dX8_overtaken_2 (by decide) ?_
  refine g_istore_n (lv' := [(0, .ref a0), (1, .int 0), (2, .int 0)]) dX8_overtaken_3 rfl (by decide) rfl ?_
  exact K
set_option maxRecDepth 20000 in
set_option maxHeartbeats 4000000 in
theorem vX8_overtaken_4 {l : Launch} {x : CX} {a0 : Nat} {x1 : Int32} {x2 : Int32} {h : PH} {rc rs n0 : Nat} {Q : Option Value → PH → Prop} {X : String → PH → Prop}
    (K : ((hK h a0).1 = 8) ∧ ∃ b2, (hR h a0 2 = some b2) ∧ ((hK h b2).1 = 100) ∧ (vp_in 6 (hK h b2).2) ∧ (((hI h b2 (Int32.toNatClampNeg 6)) ≤ x2 → Q (some (.int x1)) h) ∧ (¬ (hI h b2 (Int32.toNatClampNeg 6)) ≤ x2 → Gm l x mX8_overtaken 2 17 [(0, .ref a0), (1, .int x1), (2, .int x2), (3, .int 0)] [] h rc rs n0 Q X))) :
    Gm l x mX8_overtaken 2 4 [(0, .ref a0), (1, .int x1), (2, .int x2)] [] h rc rs n0 Q X := by
  refine g_iload_n dX8_overtaken_4 rfl 2 rfl ?_
  refine g_aload_n dX8_overtaken_5 rfl 0 rfl ?_
  obtain ⟨e1, b2, e3, K⟩ := K
  refine g_get (c := 8) (k := 2) (v := .ref b2) dX8_overtaken_6 fc_8 (by decide) (by decide) bw_1200 (congrArg pr e3) e1 ?_
  refine g_bipush (v := 6) dX8_overtaken_9 (by decide) ?_
  obtain ⟨e4, e5, K⟩ := K
  refine g_iald dX8_overtaken_11 e4 e5 ?_
  refine g_icmp_ge (tgt := 62) dX8_overtaken_12 (by decide) (fun c6 => ?_) (fun c6 => ?_)
  · replace K := K.1 c6
    refine g_iload_n dX8_overtaken_62 rfl 1 rfl ?_
    exact g_iret dX8_overtaken_63 rfl K
  · replace K := K.2 c6
    refine g_iconst (v := 0) dX8_overtaken_15 (by decide) ?_
    refine g_istore_n (lv' := [(0, .ref a0), (1, .int x1), (2, .int x2), (3, .int 0)]) dX8_overtaken_16 rfl (by decide) rfl ?_
    exact K
set_option maxRecDepth 20000 in
set_option maxHeartbeats 4000000 in
theorem vX8_overtaken_17 {l : Launch} {x : CX} {a0 : Nat} {x1 : Int32} {x2 : Int32} {x3 : Int32} {h : PH} {rc rs n0 : Nat} {Q : Option Value → PH → Prop} {X : String → PH → Prop}
    (K : ((hK h a0).1 = 8) ∧ ∃ b2, (hR h a0 2 = some b2) ∧ ((hK h b2).1 = 100) ∧ (vp_in 6 (hK h b2).2) ∧ (((hI h b2 (Int32.toNatClampNeg 6)) ≤ x3 → Gm l x mX8_overtaken 2 4 [(0, .ref a0), (1, .int x1), (2, .int (x2 + 1))] [] h rc rs n0 Q X) ∧ (¬ (hI h b2 (Int32.toNatClampNeg 6)) ≤ x3 → ((x2 = x3 → Gm l x mX8_overtaken 2 17 [(0, .ref a0), (1, .int (x1 + 0)), (2, .int x2), (3, .int (x3 + 1))] [] h rc rs n0 Q X) ∧ (¬ x2 = x3 → ∃ (q8 : Int32 → PH → Prop), CI l x mX8_isOvertaken 1 0 0 [.ref a0, .int x2, .int x3] h q8 ∧ ∀ (r11 : Int32) (h10 : PH), q8 r11 h10 → Gm l x mX8_overtaken 2 17 [(0, .ref a0), (1, .int (x1 + (if r11 = 0 then 0 else 1 : Int32))), (2, .int x2), (3, .int (x3 + 1))] [] h10 rc rs n0 Q X))))) :
    Gm l x mX8_overtaken 2 17 [(0, .ref a0), (1, .int x1), (2, .int x2), (3, .int x3)] [] h rc rs n0 Q X := by
  refine g_iload_n dX8_overtaken_17 rfl 3 rfl ?_
  refine g_aload_n dX8_overtaken_18 rfl 0 rfl ?_
  obtain ⟨e1, b2, e3, K⟩ := K
  refine g_get (c := 8) (k := 2) (v := .ref b2) dX8_overtaken_19 fc_8 (by decide) (by decide) bw_1200 (congrArg pr e3) e1 ?_
  refine g_bipush (v := 6) dX8_overtaken_22 (by decide) ?_
  obtain ⟨e4, e5, K⟩ := K
  refine g_iald dX8_overtaken_24 e4 e5 ?_
  refine g_icmp_ge (tgt := 56) dX8_overtaken_25 (by decide) (fun c6 => ?_) (fun c6 => ?_)
  · replace K := K.1 c6
    refine g_iinc (v := (x2 + 1)) (lv' := [(0, .ref a0), (1, .int x1), (2, .int (x2 + 1)), (3, .int x3)]) dX8_overtaken_56 2 rfl (by rfl) (by decide) rfl ?_
    refine g_goto (tgt := 4) dX8_overtaken_59 (by decide) ?_
    exact Gm.sub [0, 1, 2] rfl K
  · replace K := K.2 c6
    refine g_iload_n dX8_overtaken_28 rfl 1 rfl ?_
    refine g_iload_n dX8_overtaken_29 rfl 2 rfl ?_
    refine g_iload_n dX8_overtaken_30 rfl 3 rfl ?_
    refine g_icmp_eq (tgt := 47) dX8_overtaken_31 (by decide) (fun c7 => ?_) (fun c7 => ?_)
    · replace K := K.1 c7
      refine g_iconst (v := 0) dX8_overtaken_47 (by decide) ?_
      refine g_iadd dX8_overtaken_48 ?_
      refine g_istore_n (lv' := [(0, .ref a0), (1, .int (x1 + 0)), (2, .int x2), (3, .int x3)]) dX8_overtaken_49 rfl (by decide) rfl ?_
      refine g_iinc (v := (x3 + 1)) (lv' := [(0, .ref a0), (1, .int (x1 + 0)), (2, .int x2), (3, .int (x3 + 1))]) dX8_overtaken_50 3 rfl (by rfl) (by decide) rfl ?_
      refine g_goto (tgt := 17) dX8_overtaken_53 (by decide) ?_
      exact K
    · replace K := K.2 c7
      refine g_aload_n dX8_overtaken_34 rfl 0 rfl ?_
      refine g_iload_n dX8_overtaken_35 rfl 2 rfl ?_
      refine g_iload_n dX8_overtaken_36 rfl 3 rfl ?_
      obtain ⟨q8, C9, K⟩ := K
      refine g_callV (M' := mX8_isOvertaken) (b := a0) (As := [.int x2, .int x3]) (rest := [.int x1]) (rc' := rc) (rs' := rs) dX8_overtaken_37 bw_1584 bw_1586 bs_89 bw_9 bw_1587 ⟨by decide +kernel, by decide +kernel, show (parseMethodDescriptor mX8_isOvertaken.1.desc).map (fun d => d.parameters.length) = some 2 by decide +kernel⟩ (by decide) (by decide) (Nat.le_of_ble_eq_true rfl) fc_8 (by decide) rfl e1 C9 (Nat.le_of_eq (Nat.add_zero _)) (Nat.le_of_eq (Nat.add_zero _)) (fun _ _ h => h) ?_
      rintro _ h10 ⟨r11, rfl, K1⟩ -
      replace K := K r11 h10 K1
      show Gm l x mX8_overtaken 2 40 [(0, .ref a0), (1, .int x1), (2, .int x2), (3, .int x3)] [.int r11, .int x1] h10 rc rs n0 Q X
      have KJ : Gm l x mX8_overtaken 2 48 [(0, .ref a0), (1, .int x1), (2, .int x2), (3, .int x3)] [.int (if r11 = 0 then 0 else 1 : Int32), .int x1] h10 rc rs n0 Q X := by
        refine g_iadd dX8_overtaken_48 ?_
        refine g_istore_n (lv' := [(0, .ref a0), (1, .int (x1 + (if r11 = 0 then 0 else 1 : Int32))), (2, .int x2), (3, .int x3)]) dX8_overtaken_49 rfl (by decide) rfl ?_
        refine g_iinc (v := (x3 + 1)) (lv' := [(0, .ref a0), (1, .int (x1 + (if r11 = 0 then 0 else 1 : Int32))), (2, .int x2), (3, .int (x3 + 1))]) dX8_overtaken_50 3 rfl (by rfl) (by decide) rfl ?_
        refine g_goto (tgt := 17) dX8_overtaken_53 (by decide) ?_
        exact K
      refine g_if_eq (tgt := 47) dX8_overtaken_40 (by decide) (fun c12 => ?_) (fun c12 => ?_)
      · refine g_iconst (v := 0) dX8_overtaken_47 (by decide) ?_
        first | (simp only [if_pos c12] at KJ; exact KJ) | (simp only [if_pos c12, ite_true, ite_false, eq_self] at KJ; exact KJ) | (simp only [if_pos c12] at KJ ⊢; exact KJ) | exact KJ
      · refine g_iconst (v := 1) dX8_overtaken_43 (by decide) ?_
        refine g_goto (tgt := 48) dX8_overtaken_44 (by decide) ?_
        first | (simp only [if_neg c12] at KJ; exact KJ) | (simp only [if_neg c12, ite_true, ite_false, eq_self] at KJ; exact KJ) | (simp only [if_neg c12] at KJ ⊢; exact KJ) | exact KJ
theorem dX8_anewBegins_0 : decode cX8_anewBegins 0 = .ok (.aload_n 0, 1) := by decide +kernel
theorem dX8_anewBegins_1 : decode cX8_anewBegins 1 = .ok (.getfield 64, 3) := by decide +kernel
theorem dX8_anewBegins_4 : decode cX8_anewBegins 4 = .ok (.aload_n 0, 1) := by decide +kernel
theorem dX8_anewBegins_5 : decode cX8_anewBegins 5 = .ok (.getfield 29, 3) := by decide +kernel
theorem dX8_anewBegins_8 : decode cX8_anewBegins 8 = .ok (.invokestatic 204, 3) := by decide +kernel
theorem dX8_anewBegins_11 : decode cX8_anewBegins 11 = .ok (.aload_n 0, 1) := by decide +kernel
theorem dX8_anewBegins_12 : decode cX8_anewBegins 12 = .ok (.invokevirtual 101, 3) := by decide +kernel
theorem dX8_anewBegins_15 : decode cX8_anewBegins 15 = .ok (.aload_n 0, 1) := by decide +kernel
theorem dX8_anewBegins_16 : decode cX8_anewBegins 16 = .ok (.getfield 29, 3) := by decide +kernel
theorem dX8_anewBegins_19 : decode cX8_anewBegins 19 = .ok (.iconst 2, 1) := by decide +kernel
theorem dX8_anewBegins_20 : decode cX8_anewBegins 20 = .ok (.iload_n 1, 1) := by decide +kernel
theorem dX8_anewBegins_21 : decode cX8_anewBegins 21 = .ok (.iastore, 1) := by decide +kernel
theorem dX8_anewBegins_22 : decode cX8_anewBegins 22 = .ok (.aload_n 0, 1) := by decide +kernel
theorem dX8_anewBegins_23 : decode cX8_anewBegins 23 = .ok (.getfield 29, 3) := by decide +kernel
theorem dX8_anewBegins_26 : decode cX8_anewBegins 26 = .ok (.iconst 3, 1) := by decide +kernel
theorem dX8_anewBegins_27 : decode cX8_anewBegins 27 = .ok (.iload_n 2, 1) := by decide +kernel
theorem dX8_anewBegins_28 : decode cX8_anewBegins 28 = .ok (.iastore, 1) := by decide +kernel
theorem dX8_anewBegins_29 : decode cX8_anewBegins 29 = .ok (.return_, 1) := by decide +kernel
set_option maxRecDepth 20000 in
set_option maxHeartbeats 4000000 in
theorem vX8_anewBegins_0 {l : Launch} {x : CX} {a0 : Nat} {x1 : Int32} {x2 : Int32} {h : PH} {rc rs n0 : Nat} {Q : Option Value → PH → Prop} {X : String → PH → Prop}
    (K : ((hK h a0).1 = 8) ∧ ∃ b2, (hR h a0 23 = some b2) ∧ ∃ b4, (hR h a0 2 = some b4) ∧ ∃ (q6 : PH → Prop), CV l x mX8_copyTo 0 0 0 [.ref b2, .ref b4] h q6 ∧ ∀ (h8 : PH), q6 h8 → ((hK h8 a0).1 = 8) ∧ ∃ (q9 : PH → Prop), CV l x mX8_begin 1 0 0 [.ref a0] h8 q9 ∧ ∀ (h12 : PH), q9 h12 → ((hK h12 a0).1 = 8) ∧ ∃ b14, (hR h12 a0 2 = some b14) ∧ ((hK h12 b14).1 = 100) ∧ (vp_in 2 (hK h12 b14).2) ∧ (vp_in 3 (hK h12 b14).2) ∧ Q none (sI (sI h12 b14 (Int32.toNatClampNeg 2) x1) b14 (Int32.toNatClampNeg 3) x2)) :
    Gm l x mX8_anewBegins 2 0 [(0, .ref a0), (1, .int x1), (2, .int x2)] [] h rc rs n0 Q X := by
  refine g_aload_n dX8_anewBegins_0 rfl 0 rfl ?_
  obtain ⟨e1, b2, e3, K⟩ := K
  refine g_get (c := 8) (k := 23) (v := .ref b2) dX8_anewBegins_1 fc_8 (by decide) (by decide) bw_1221 (congrArg pr e3) e1 ?_
  refine g_aload_n dX8_anewBegins_4 rfl 0 rfl ?_
  obtain ⟨b4, e5, K⟩ := K
  refine g_get (c := 8) (k := 2) (v := .ref b4) dX8_anewBegins_5 fc_8 (by decide) (by decide) bw_1200 (congrArg pr e5) e1 ?_
  obtain ⟨q6, C7, K⟩ := K
  refine g_callS (M' := mX8_copyTo) (As := [.ref b2, .ref b4]) (rest := []) (rc' := rc) (rs' := rs) dX8_anewBegins_8 bw_1398 bw_1399 bw_9 bw_1400 ⟨by decide +kernel, by decide +kernel, show (parseMethodDescriptor mX8_copyTo.1.desc).map (fun d => d.parameters.length) = some 2 by decide +kernel⟩ (by decide) (by decide) (Nat.le_of_ble_eq_true rfl) C7 (Nat.le_of_eq (Nat.add_zero _)) (Nat.le_of_eq (Nat.add_zero _)) (fun _ _ h => h) ?_
  rintro _ h8 ⟨rfl, K1⟩ -
  replace K := K h8 K1
  show Gm l x mX8_anewBegins 2 11 [(0, .ref a0), (1, .int x1), (2, .int x2)] [] h8 rc rs n0 Q X
  refine g_aload_n dX8_anewBegins_11 rfl 0 rfl ?_
  obtain ⟨e11, K⟩ := K
  obtain ⟨q9, C10, K⟩ := K
  refine g_callV (M' := mX8_begin) (b := a0) (As := []) (rest := []) (rc' := rc) (rs' := rs) dX8_anewBegins_12 bw_1182 bw_1184 bs_35 bw_9 bw_1185 ⟨by decide +kernel, by decide +kernel, show (parseMethodDescriptor mX8_begin.1.desc).map (fun d => d.parameters.length) = some 0 by decide +kernel⟩ (by decide) (by decide) (Nat.le_of_ble_eq_true rfl) fc_8 (by decide) rfl e11 C10 (Nat.le_of_eq (Nat.add_zero _)) (Nat.le_of_eq (Nat.add_zero _)) (fun _ _ h => h) ?_
  rintro _ h12 ⟨rfl, K1⟩ -
  replace K := K h12 K1
  show Gm l x mX8_anewBegins 2 15 [(0, .ref a0), (1, .int x1), (2, .int x2)] [] h12 rc rs n0 Q X
  refine g_aload_n dX8_anewBegins_15 rfl 0 rfl ?_
  obtain ⟨e13, b14, e15, K⟩ := K
  refine g_get (c := 8) (k := 2) (v := .ref b14) dX8_anewBegins_16 fc_8 (by decide) (by decide) bw_1200 (congrArg pr e15) e13 ?_
  refine g_iconst (v := 2) dX8_anewBegins_19 (by decide) ?_
  refine g_iload_n dX8_anewBegins_20 rfl 1 rfl ?_
  obtain ⟨e16, e17, K⟩ := K
  refine g_iast dX8_anewBegins_21 e16 e17 ?_
  refine g_aload_n dX8_anewBegins_22 rfl 0 rfl ?_
  refine g_get (c := 8) (k := 2) (v := .ref b14) dX8_anewBegins_23 fc_8 (by decide) (by decide) bw_1200 (congrArg pr (krI e15)) (kkI e13) ?_
  refine g_iconst (v := 3) dX8_anewBegins_26 (by decide) ?_
  refine g_iload_n dX8_anewBegins_27 rfl 2 rfl ?_
  obtain ⟨e18, K⟩ := K
  refine g_iast dX8_anewBegins_28 (kkI e16) (kvI e18) ?_
  exact g_vret dX8_anewBegins_29 rfl K
theorem dX8_rider_0 : decode cX8_rider 0 = .ok (.aload_n 0, 1) := by decide +kernel
theorem dX8_rider_1 : decode cX8_rider 1 = .ok (.iconst 0, 1) := by decide +kernel
theorem dX8_rider_2 : decode cX8_rider 2 = .ok (.putfield 104, 3) := by decide +kernel
theorem dX8_rider_5 : decode cX8_rider 5 = .ok (.aload_n 0, 1) := by decide +kernel
theorem dX8_rider_6 : decode cX8_rider 6 = .ok (.iload_n 1, 1) := by decide +kernel
theorem dX8_rider_7 : decode cX8_rider 7 = .ok (.invokevirtual 396, 3) := by decide +kernel
theorem dX8_rider_10 : decode cX8_rider 10 = .ok (.ifCond .eq 22, 3) := by decide +kernel
theorem dX8_rider_13 : decode cX8_rider 13 = .ok (.iload_n 2, 1) := by decide +kernel
theorem dX8_rider_14 : decode cX8_rider 14 = .ok (.iconst 0, 1) := by decide +kernel
theorem dX8_rider_15 : decode cX8_rider 15 = .ok (.bipush 7, 2) := by decide +kernel
theorem dX8_rider_17 : decode cX8_rider 17 = .ok (.invokestatic 390, 3) := by decide +kernel
theorem dX8_rider_20 : decode cX8_rider 20 = .ok (.ifCond .eq 12, 3) := by decide +kernel
theorem dX8_rider_23 : decode cX8_rider 23 = .ok (.aload_n 0, 1) := by decide +kernel
theorem dX8_rider_24 : decode cX8_rider 24 = .ok (.iload_n 1, 1) := by decide +kernel
theorem dX8_rider_25 : decode cX8_rider 25 = .ok (.iload_n 2, 1) := by decide +kernel
theorem dX8_rider_26 : decode cX8_rider 26 = .ok (.invokevirtual 228, 3) := by decide +kernel
theorem dX8_rider_29 : decode cX8_rider 29 = .ok (.goto 8, 3) := by decide +kernel
theorem dX8_rider_32 : decode cX8_rider 32 = .ok (.aload_n 0, 1) := by decide +kernel
theorem dX8_rider_33 : decode cX8_rider 33 = .ok (.iconst 1, 1) := by decide +kernel
theorem dX8_rider_34 : decode cX8_rider 34 = .ok (.invokevirtual 198, 3) := by decide +kernel
theorem dX8_rider_37 : decode cX8_rider 37 = .ok (.ireturn, 1) := by decide +kernel
set_option maxRecDepth 20000 in
set_option maxHeartbeats 4000000 in
theorem vX8_rider_0 {l : Launch} {x : CX} {a0 : Nat} {x1 : Int32} {x2 : Int32} {h : PH} {rc rs n0 : Nat} {Q : Option Value → PH → Prop} {X : String → PH → Prop}
    (K : ((hK h a0).1 = 8) ∧ ∃ (q2 : Int32 → PH → Prop), CI l x mX8_isRider 1 0 0 [.ref a0, .int x1] (sI h a0 1 0) q2 ∧ ∀ (r5 : Int32) (h4 : PH), q2 r5 h4 → ((r5 = 0 → ((hK h4 a0).1 = 8) ∧ ∃ (q7 : Int32 → PH → Prop), CI l x mX8_fail 0 0 0 [.ref a0, .int 1] h4 q7 ∧ ∀ (r11 : Int32) (h10 : PH), q7 r11 h10 → Q (some (.int r11)) h10) ∧ (¬ r5 = 0 → ∃ (q12 : Int32 → PH → Prop), CI l x mX8_isIn 0 0 0 [.int x2, .int 0, .int 7] h4 q12 ∧ ∀ (r15 : Int32) (h14 : PH), q12 r15 h14 → ((r15 = 0 → ((hK h14 a0).1 = 8) ∧ ∃ (q17 : Int32 → PH → Prop), CI l x mX8_fail 0 0 0 [.ref a0, .int 1] h14 q17 ∧ ∀ (r21 : Int32) (h20 : PH), q17 r21 h20 → Q (some (.int r21)) h20) ∧ (¬ r15 = 0 → ((hK h14 a0).1 = 8) ∧ ∃ (q22 : Int32 → PH → Prop), CI l x mX8_of 0 0 0 [.ref a0, .int x1, .int x2] h14 q22 ∧ ∀ (r26 : Int32) (h25 : PH), q22 r26 h25 → Q (some (.int r26)) h25))))) :
    Gm l x mX8_rider 2 0 [(0, .ref a0), (1, .int x1), (2, .int x2)] [] h rc rs n0 Q X := by
  refine g_aload_n dX8_rider_0 rfl 0 rfl ?_
  refine g_iconst (v := 0) dX8_rider_1 (by decide) ?_
  obtain ⟨e1, K⟩ := K
  refine g_puti (c := 8) (k := 1) dX8_rider_2 fc_8 (by decide) (by decide) bw_1199 (Or.inl rfl) rfl e1 ?_
  refine g_aload_n dX8_rider_5 rfl 0 rfl ?_
  refine g_iload_n dX8_rider_6 rfl 1 rfl ?_
  obtain ⟨q2, C3, K⟩ := K
  refine g_callV (M' := mX8_isRider) (b := a0) (As := [.int x1]) (rest := []) (rc' := rc) (rs' := rs) dX8_rider_7 bw_1619 bw_1621 bs_95 bw_9 bw_1622 ⟨by decide +kernel, by decide +kernel, show (parseMethodDescriptor mX8_isRider.1.desc).map (fun d => d.parameters.length) = some 1 by decide +kernel⟩ (by decide) (by decide) (Nat.le_of_ble_eq_true rfl) fc_8 (by decide) rfl (kkI e1) C3 (Nat.le_of_eq (Nat.add_zero _)) (Nat.le_of_eq (Nat.add_zero _)) (fun _ _ h => h) ?_
  rintro _ h4 ⟨r5, rfl, K1⟩ -
  replace K := K r5 h4 K1
  show Gm l x mX8_rider 2 10 [(0, .ref a0), (1, .int x1), (2, .int x2)] [.int r5] h4 rc rs n0 Q X
  refine g_if_eq (tgt := 32) dX8_rider_10 (by decide) (fun c6 => ?_) (fun c6 => ?_)
  · replace K := K.1 c6
    refine g_aload_n dX8_rider_32 rfl 0 rfl ?_
    refine g_iconst (v := 1) dX8_rider_33 (by decide) ?_
    obtain ⟨e9, K⟩ := K
    obtain ⟨q7, C8, K⟩ := K
    refine g_callV (M' := mX8_fail) (b := a0) (As := [.int 1]) (rest := []) (rc' := rc) (rs' := rs) dX8_rider_34 bw_1337 bw_1339 bs_39 bw_9 bw_1340 ⟨by decide +kernel, by decide +kernel, show (parseMethodDescriptor mX8_fail.1.desc).map (fun d => d.parameters.length) = some 1 by decide +kernel⟩ (by decide) (by decide) (Nat.le_of_ble_eq_true rfl) fc_8 (by decide) rfl e9 C8 (Nat.le_of_eq (Nat.add_zero _)) (Nat.le_of_eq (Nat.add_zero _)) (fun _ _ h => h) ?_
    rintro _ h10 ⟨r11, rfl, K1⟩ -
    replace K := K r11 h10 K1
    show Gm l x mX8_rider 2 37 [(0, .ref a0), (1, .int x1), (2, .int x2)] [.int r11] h10 rc rs n0 Q X
    exact g_iret dX8_rider_37 rfl K
  · replace K := K.2 c6
    refine g_iload_n dX8_rider_13 rfl 2 rfl ?_
    refine g_iconst (v := 0) dX8_rider_14 (by decide) ?_
    refine g_bipush (v := 7) dX8_rider_15 (by decide) ?_
    obtain ⟨q12, C13, K⟩ := K
    refine g_callS (M' := mX8_isIn) (As := [.int x2, .int 0, .int 7]) (rest := []) (rc' := rc) (rs' := rs) dX8_rider_17 bw_1612 bw_1613 bw_9 bw_1614 ⟨by decide +kernel, by decide +kernel, show (parseMethodDescriptor mX8_isIn.1.desc).map (fun d => d.parameters.length) = some 3 by decide +kernel⟩ (by decide) (by decide) (Nat.le_of_ble_eq_true rfl) C13 (Nat.le_of_eq (Nat.add_zero _)) (Nat.le_of_eq (Nat.add_zero _)) (fun _ _ h => h) ?_
    rintro _ h14 ⟨r15, rfl, K1⟩ -
    replace K := K r15 h14 K1
    show Gm l x mX8_rider 2 20 [(0, .ref a0), (1, .int x1), (2, .int x2)] [.int r15] h14 rc rs n0 Q X
    refine g_if_eq (tgt := 32) dX8_rider_20 (by decide) (fun c16 => ?_) (fun c16 => ?_)
    · replace K := K.1 c16
      refine g_aload_n dX8_rider_32 rfl 0 rfl ?_
      refine g_iconst (v := 1) dX8_rider_33 (by decide) ?_
      obtain ⟨e19, K⟩ := K
      obtain ⟨q17, C18, K⟩ := K
      refine g_callV (M' := mX8_fail) (b := a0) (As := [.int 1]) (rest := []) (rc' := rc) (rs' := rs) dX8_rider_34 bw_1337 bw_1339 bs_39 bw_9 bw_1340 ⟨by decide +kernel, by decide +kernel, show (parseMethodDescriptor mX8_fail.1.desc).map (fun d => d.parameters.length) = some 1 by decide +kernel⟩ (by decide) (by decide) (Nat.le_of_ble_eq_true rfl) fc_8 (by decide) rfl e19 C18 (Nat.le_of_eq (Nat.add_zero _)) (Nat.le_of_eq (Nat.add_zero _)) (fun _ _ h => h) ?_
      rintro _ h20 ⟨r21, rfl, K1⟩ -
      replace K := K r21 h20 K1
      show Gm l x mX8_rider 2 37 [(0, .ref a0), (1, .int x1), (2, .int x2)] [.int r21] h20 rc rs n0 Q X
      exact g_iret dX8_rider_37 rfl K
    · replace K := K.2 c16
      refine g_aload_n dX8_rider_23 rfl 0 rfl ?_
      refine g_iload_n dX8_rider_24 rfl 1 rfl ?_
      refine g_iload_n dX8_rider_25 rfl 2 rfl ?_
      obtain ⟨e24, K⟩ := K
      obtain ⟨q22, C23, K⟩ := K
      refine g_callV (M' := mX8_of) (b := a0) (As := [.int x1, .int x2]) (rest := []) (rc' := rc) (rs' := rs) dX8_rider_26 bw_1413 bw_1415 bs_52 bw_9 bw_1416 ⟨by decide +kernel, by decide +kernel, show (parseMethodDescriptor mX8_of.1.desc).map (fun d => d.parameters.length) = some 2 by decide +kernel⟩ (by decide) (by decide) (Nat.le_of_ble_eq_true rfl) fc_8 (by decide) rfl e24 C23 (Nat.le_of_eq (Nat.add_zero _)) (Nat.le_of_eq (Nat.add_zero _)) (fun _ _ h => h) ?_
      rintro _ h25 ⟨r26, rfl, K1⟩ -
      replace K := K r26 h25 K1
      show Gm l x mX8_rider 2 29 [(0, .ref a0), (1, .int x1), (2, .int x2)] [.int r26] h25 rc rs n0 Q X
      refine g_goto (tgt := 37) dX8_rider_29 (by decide) ?_
      exact g_iret dX8_rider_37 rfl K
theorem dX8_comesNow_0 : decode cX8_comesNow 0 = .ok (.aload_n 0, 1) := by decide +kernel
theorem dX8_comesNow_1 : decode cX8_comesNow 1 = .ok (.getfield 29, 3) := by decide +kernel
theorem dX8_comesNow_4 : decode cX8_comesNow 4 = .ok (.bipush 6, 2) := by decide +kernel
theorem dX8_comesNow_6 : decode cX8_comesNow 6 = .ok (.iaload, 1) := by decide +kernel
theorem dX8_comesNow_7 : decode cX8_comesNow 7 = .ok (.istore 4, 2) := by decide +kernel
theorem dX8_comesNow_9 : decode cX8_comesNow 9 = .ok (.aload_n 0, 1) := by decide +kernel
theorem dX8_comesNow_10 : decode cX8_comesNow 10 = .ok (.getfield 29, 3) := by decide +kernel
theorem dX8_comesNow_13 : decode cX8_comesNow 13 = .ok (.bipush 6, 2) := by decide +kernel
theorem dX8_comesNow_15 : decode cX8_comesNow 15 = .ok (.dup2, 1) := by decide +kernel
theorem dX8_comesNow_16 : decode cX8_comesNow 16 = .ok (.iaload, 1) := by decide +kernel
theorem dX8_comesNow_17 : decode cX8_comesNow 17 = .ok (.iconst 1, 1) := by decide +kernel
theorem dX8_comesNow_18 : decode cX8_comesNow 18 = .ok (.iadd, 1) := by decide +kernel
theorem dX8_comesNow_19 : decode cX8_comesNow 19 = .ok (.iastore, 1) := by decide +kernel
theorem dX8_comesNow_20 : decode cX8_comesNow 20 = .ok (.aload_n 0, 1) := by decide +kernel
theorem dX8_comesNow_21 : decode cX8_comesNow 21 = .ok (.iload 4, 2) := by decide +kernel
theorem dX8_comesNow_23 : decode cX8_comesNow 23 = .ok (.iconst 0, 1) := by decide +kernel
theorem dX8_comesNow_24 : decode cX8_comesNow 24 = .ok (.iload_n 3, 1) := by decide +kernel
theorem dX8_comesNow_25 : decode cX8_comesNow 25 = .ok (.invokevirtual 225, 3) := by decide +kernel
theorem dX8_comesNow_28 : decode cX8_comesNow 28 = .ok (.aload_n 0, 1) := by decide +kernel
theorem dX8_comesNow_29 : decode cX8_comesNow 29 = .ok (.iload 4, 2) := by decide +kernel
theorem dX8_comesNow_31 : decode cX8_comesNow 31 = .ok (.iconst 1, 1) := by decide +kernel
theorem dX8_comesNow_32 : decode cX8_comesNow 32 = .ok (.aload_n 0, 1) := by decide +kernel
theorem dX8_comesNow_33 : decode cX8_comesNow 33 = .ok (.getfield 29, 3) := by decide +kernel
theorem dX8_comesNow_36 : decode cX8_comesNow 36 = .ok (.iconst 0, 1) := by decide +kernel
theorem dX8_comesNow_37 : decode cX8_comesNow 37 = .ok (.iaload, 1) := by decide +kernel
theorem dX8_comesNow_38 : decode cX8_comesNow 38 = .ok (.invokevirtual 225, 3) := by decide +kernel
theorem dX8_comesNow_41 : decode cX8_comesNow 41 = .ok (.aload_n 0, 1) := by decide +kernel
theorem dX8_comesNow_42 : decode cX8_comesNow 42 = .ok (.iload 4, 2) := by decide +kernel
theorem dX8_comesNow_44 : decode cX8_comesNow 44 = .ok (.iconst 2, 1) := by decide +kernel
theorem dX8_comesNow_45 : decode cX8_comesNow 45 = .ok (.iload_n 1, 1) := by decide +kernel
theorem dX8_comesNow_46 : decode cX8_comesNow 46 = .ok (.invokevirtual 225, 3) := by decide +kernel
theorem dX8_comesNow_49 : decode cX8_comesNow 49 = .ok (.aload_n 0, 1) := by decide +kernel
theorem dX8_comesNow_50 : decode cX8_comesNow 50 = .ok (.iload 4, 2) := by decide +kernel
theorem dX8_comesNow_52 : decode cX8_comesNow 52 = .ok (.iconst 3, 1) := by decide +kernel
theorem dX8_comesNow_53 : decode cX8_comesNow 53 = .ok (.iload_n 2, 1) := by decide +kernel
theorem dX8_comesNow_54 : decode cX8_comesNow 54 = .ok (.invokevirtual 225, 3) := by decide +kernel
theorem dX8_comesNow_57 : decode cX8_comesNow 57 = .ok (.aload_n 0, 1) := by decide +kernel
theorem dX8_comesNow_58 : decode cX8_comesNow 58 = .ok (.iload 4, 2) := by decide +kernel
theorem dX8_comesNow_60 : decode cX8_comesNow 60 = .ok (.bipush 6, 2) := by decide +kernel
theorem dX8_comesNow_62 : decode cX8_comesNow 62 = .ok (.iconst 0, 1) := by decide +kernel
theorem dX8_comesNow_63 : decode cX8_comesNow 63 = .ok (.invokevirtual 225, 3) := by decide +kernel
theorem dX8_comesNow_66 : decode cX8_comesNow 66 = .ok (.aload_n 0, 1) := by decide +kernel
theorem dX8_comesNow_67 : decode cX8_comesNow 67 = .ok (.iload 4, 2) := by decide +kernel
theorem dX8_comesNow_69 : decode cX8_comesNow 69 = .ok (.bipush 7, 2) := by decide +kernel
theorem dX8_comesNow_71 : decode cX8_comesNow 71 = .ok (.iconst (-1), 1) := by decide +kernel
theorem dX8_comesNow_72 : decode cX8_comesNow 72 = .ok (.invokevirtual 225, 3) := by decide +kernel
theorem dX8_comesNow_75 : decode cX8_comesNow 75 = .ok (.aload_n 0, 1) := by decide +kernel
theorem dX8_comesNow_76 : decode cX8_comesNow 76 = .ok (.iload 4, 2) := by decide +kernel
theorem dX8_comesNow_78 : decode cX8_comesNow 78 = .ok (.bipush 8, 2) := by decide +kernel
theorem dX8_comesNow_80 : decode cX8_comesNow 80 = .ok (.iconst (-1), 1) := by decide +kernel
theorem dX8_comesNow_81 : decode cX8_comesNow 81 = .ok (.invokevirtual 225, 3) := by decide +kernel
theorem dX8_comesNow_84 : decode cX8_comesNow 84 = .ok (.aload_n 0, 1) := by decide +kernel
theorem dX8_comesNow_85 : decode cX8_comesNow 85 = .ok (.iload 4, 2) := by decide +kernel
theorem dX8_comesNow_87 : decode cX8_comesNow 87 = .ok (.invokevirtual 329, 3) := by decide +kernel
theorem dX8_comesNow_90 : decode cX8_comesNow 90 = .ok (.iload 4, 2) := by decide +kernel
theorem dX8_comesNow_92 : decode cX8_comesNow 92 = .ok (.ireturn, 1) := by decide +kernel
set_option maxRecDepth 20000 in
set_option maxHeartbeats 4000000 in
theorem vX8_comesNow_0 {l : Launch} {x : CX} {a0 : Nat} {x1 : Int32} {x2 : Int32} {x3 : Int32} {h : PH} {rc rs n0 : Nat} {Q : Option Value → PH → Prop} {X : String → PH → Prop}
    (K : ((hK h a0).1 = 8) ∧ ∃ b2, (hR h a0 2 = some b2) ∧ ((hK h b2).1 = 100) ∧ (vp_in 6 (hK h b2).2) ∧ (vp_in 6 (hK h b2).2) ∧ (vp_in 6 (hK h b2).2) ∧ ∃ (q8 : PH → Prop), CV l x mX8_put 0 0 0 [.ref a0, .int (hI h b2 (Int32.toNatClampNeg 6)), .int 0, .int x3] (sI h b2 (Int32.toNatClampNeg 6) ((hI h b2 (Int32.toNatClampNeg 6)) + 1)) q8 ∧ ∀ (h10 : PH), q8 h10 → ((hK h10 a0).1 = 8) ∧ ∃ b12, (hR h10 a0 2 = some b12) ∧ ((hK h10 b12).1 = 100) ∧ (vp_in 0 (hK h10 b12).2) ∧ ∃ (q16 : PH → Prop), CV l x mX8_put 0 0 0 [.ref a0, .int (hI h b2 (Int32.toNatClampNeg 6)), .int 1, .int (hI h10 b12 (Int32.toNatClampNeg 0))] h10 q16 ∧ ∀ (h18 : PH), q16 h18 → ((hK h18 a0).1 = 8) ∧ ∃ (q19 : PH → Prop), CV l x mX8_put 0 0 0 [.ref a0, .int (hI h b2 (Int32.toNatClampNeg 6)), .int 2, .int x1] h18 q19 ∧ ∀ (h22 : PH), q19 h22 → ((hK h22 a0).1 = 8) ∧ ∃ (q23 : PH → Prop), CV l x mX8_put 0 0 0 [.ref a0, .int (hI h b2 (Int32.toNatClampNeg 6)), .int 3, .int x2] h22 q23 ∧ ∀ (h26 : PH), q23 h26 → ((hK h26 a0).1 = 8) ∧ ∃ (q27 : PH → Prop), CV l x mX8_put 0 0 0 [.ref a0, .int (hI h b2 (Int32.toNatClampNeg 6)), .int 6, .int 0] h26 q27 ∧ ∀ (h30 : PH), q27 h30 → ((hK h30 a0).1 = 8) ∧ ∃ (q31 : PH → Prop), CV l x mX8_put 0 0 0 [.ref a0, .int (hI h b2 (Int32.toNatClampNeg 6)), .int 7, .int (-1)] h30 q31 ∧ ∀ (h34 : PH), q31 h34 → ((hK h34 a0).1 = 8) ∧ ∃ (q35 : PH → Prop), CV l x mX8_put 0 0 0 [.ref a0, .int (hI h b2 (Int32.toNatClampNeg 6)), .int 8, .int (-1)] h34 q35 ∧ ∀ (h38 : PH), q35 h38 → ((hK h38 a0).1 = 8) ∧ ∃ (q39 : PH → Prop), CV l x mX8_comes 1 0 0 [.ref a0, .int (hI h b2 (Int32.toNatClampNeg 6))] h38 q39 ∧ ∀ (h42 : PH), q39 h42 → Q (some (.int (hI h b2 (Int32.toNatClampNeg 6)))) h42) :
    Gm l x mX8_comesNow 2 0 [(0, .ref a0), (1, .int x1), (2, .int x2), (3, .int x3)] [] h rc rs n0 Q X := by
  refine g_aload_n dX8_comesNow_0 rfl 0 rfl ?_
  obtain ⟨e1, b2, e3, K⟩ := K
  refine g_get (c := 8) (k := 2) (v := .ref b2) dX8_comesNow_1 fc_8 (by decide) (by decide) bw_1200 (congrArg pr e3) e1 ?_
  refine g_bipush (v := 6) dX8_comesNow_4 (by decide) ?_
  obtain ⟨e4, e5, K⟩ := K
  refine g_iald dX8_comesNow_6 e4 e5 ?_
  refine g_istore (lv' := [(0, .ref a0), (1, .int x1), (2, .int x2), (3, .int x3), (4, .int (hI h b2 (Int32.toNatClampNeg 6)))]) dX8_comesNow_7 (by decide) rfl ?_
  refine g_aload_n dX8_comesNow_9 rfl 0 rfl ?_
  refine g_get (c := 8) (k := 2) (v := .ref b2) dX8_comesNow_10 fc_8 (by decide) (by decide) bw_1200 (congrArg pr e3) e1 ?_
  refine g_bipush (v := 6) dX8_comesNow_13 (by decide) ?_
  refine g_dup2 dX8_comesNow_15 rfl rfl ?_
  obtain ⟨e6, K⟩ := K
  refine g_iald dX8_comesNow_16 e4 e6 ?_
  refine g_iconst (v := 1) dX8_comesNow_17 (by decide) ?_
  refine g_iadd dX8_comesNow_18 ?_
  obtain ⟨e7, K⟩ := K
  refine g_iast dX8_comesNow_19 e4 e7 ?_
  refine g_aload_n dX8_comesNow_20 rfl 0 rfl ?_
  refine g_iload dX8_comesNow_21 4 rfl ?_
  refine g_iconst (v := 0) dX8_comesNow_23 (by decide) ?_
  refine g_iload_n dX8_comesNow_24 rfl 3 rfl ?_
  obtain ⟨q8, C9, K⟩ := K
  refine g_callV (M' := mX8_put) (b := a0) (As := [.int (hI h b2 (Int32.toNatClampNeg 6)), .int 0, .int x3]) (rest := []) (rc' := rc) (rs' := rs) dX8_comesNow_25 bw_1194 bw_1196 bs_38 bw_9 bw_1197 ⟨by decide +kernel, by decide +kernel, show (parseMethodDescriptor mX8_put.1.desc).map (fun d => d.parameters.length) = some 3 by decide +kernel⟩ (by decide) (by decide) (Nat.le_of_ble_eq_true rfl) fc_8 (by decide) rfl (kkI e1) C9 (Nat.le_of_eq (Nat.add_zero _)) (Nat.le_of_eq (Nat.add_zero _)) (fun _ _ h => h) ?_
  rintro _ h10 ⟨rfl, K1⟩ -
  replace K := K h10 K1
  show Gm l x mX8_comesNow 2 28 [(0, .ref a0), (1, .int x1), (2, .int x2), (3, .int x3), (4, .int (hI h b2 (Int32.toNatClampNeg 6)))] [] h10 rc rs n0 Q X
  refine g_aload_n dX8_comesNow_28 rfl 0 rfl ?_
  refine g_iload dX8_comesNow_29 4 rfl ?_
  refine g_iconst (v := 1) dX8_comesNow_31 (by decide) ?_
  refine g_aload_n dX8_comesNow_32 rfl 0 rfl ?_
  obtain ⟨e11, b12, e13, K⟩ := K
  refine g_get (c := 8) (k := 2) (v := .ref b12) dX8_comesNow_33 fc_8 (by decide) (by decide) bw_1200 (congrArg pr e13) e11 ?_
  refine g_iconst (v := 0) dX8_comesNow_36 (by decide) ?_
  obtain ⟨e14, e15, K⟩ := K
  refine g_iald dX8_comesNow_37 e14 e15 ?_
  obtain ⟨q16, C17, K⟩ := K
  refine g_callV (M' := mX8_put) (b := a0) (As := [.int (hI h b2 (Int32.toNatClampNeg 6)), .int 1, .int (hI h10 b12 (Int32.toNatClampNeg 0))]) (rest := []) (rc' := rc) (rs' := rs) dX8_comesNow_38 bw_1194 bw_1196 bs_38 bw_9 bw_1197 ⟨by decide +kernel, by decide +kernel, show (parseMethodDescriptor mX8_put.1.desc).map (fun d => d.parameters.length) = some 3 by decide +kernel⟩ (by decide) (by decide) (Nat.le_of_ble_eq_true rfl) fc_8 (by decide) rfl e11 C17 (Nat.le_of_eq (Nat.add_zero _)) (Nat.le_of_eq (Nat.add_zero _)) (fun _ _ h => h) ?_
  rintro _ h18 ⟨rfl, K1⟩ -
  replace K := K h18 K1
  show Gm l x mX8_comesNow 2 41 [(0, .ref a0), (1, .int x1), (2, .int x2), (3, .int x3), (4, .int (hI h b2 (Int32.toNatClampNeg 6)))] [] h18 rc rs n0 Q X
  refine g_aload_n dX8_comesNow_41 rfl 0 rfl ?_
  refine g_iload dX8_comesNow_42 4 rfl ?_
  refine g_iconst (v := 2) dX8_comesNow_44 (by decide) ?_
  refine g_iload_n dX8_comesNow_45 rfl 1 rfl ?_
  obtain ⟨e21, K⟩ := K
  obtain ⟨q19, C20, K⟩ := K
  refine g_callV (M' := mX8_put) (b := a0) (As := [.int (hI h b2 (Int32.toNatClampNeg 6)), .int 2, .int x1]) (rest := []) (rc' := rc) (rs' := rs) dX8_comesNow_46 bw_1194 bw_1196 bs_38 bw_9 bw_1197 ⟨by decide +kernel, by decide +kernel, show (parseMethodDescriptor mX8_put.1.desc).map (fun d => d.parameters.length) = some 3 by decide +kernel⟩ (by decide) (by decide) (Nat.le_of_ble_eq_true rfl) fc_8 (by decide) rfl e21 C20 (Nat.le_of_eq (Nat.add_zero _)) (Nat.le_of_eq (Nat.add_zero _)) (fun _ _ h => h) ?_
  rintro _ h22 ⟨rfl, K1⟩ -
  replace K := K h22 K1
  show Gm l x mX8_comesNow 2 49 [(0, .ref a0), (1, .int x1), (2, .int x2), (3, .int x3), (4, .int (hI h b2 (Int32.toNatClampNeg 6)))] [] h22 rc rs n0 Q X
  refine g_aload_n dX8_comesNow_49 rfl 0 rfl ?_
  refine g_iload dX8_comesNow_50 4 rfl ?_
  refine g_iconst (v := 3) dX8_comesNow_52 (by decide) ?_
  refine g_iload_n dX8_comesNow_53 rfl 2 rfl ?_
  obtain ⟨e25, K⟩ := K
  obtain ⟨q23, C24, K⟩ := K
  refine g_callV (M' := mX8_put) (b := a0) (As := [.int (hI h b2 (Int32.toNatClampNeg 6)), .int 3, .int x2]) (rest := []) (rc' := rc) (rs' := rs) dX8_comesNow_54 bw_1194 bw_1196 bs_38 bw_9 bw_1197 ⟨by decide +kernel, by decide +kernel, show (parseMethodDescriptor mX8_put.1.desc).map (fun d => d.parameters.length) = some 3 by decide +kernel⟩ (by decide) (by decide) (Nat.le_of_ble_eq_true rfl) fc_8 (by decide) rfl e25 C24 (Nat.le_of_eq (Nat.add_zero _)) (Nat.le_of_eq (Nat.add_zero _)) (fun _ _ h => h) ?_
  rintro _ h26 ⟨rfl, K1⟩ -
  replace K := K h26 K1
  show Gm l x mX8_comesNow 2 57 [(0, .ref a0), (1, .int x1), (2, .int x2), (3, .int x3), (4, .int (hI h b2 (Int32.toNatClampNeg 6)))] [] h26 rc rs n0 Q X
  refine g_aload_n dX8_comesNow_57 rfl 0 rfl ?_
  refine g_iload dX8_comesNow_58 4 rfl ?_
  refine g_bipush (v := 6) dX8_comesNow_60 (by decide) ?_
  refine g_iconst (v := 0) dX8_comesNow_62 (by decide) ?_
  obtain ⟨e29, K⟩ := K
  obtain ⟨q27, C28, K⟩ := K
  refine g_callV (M' := mX8_put) (b := a0) (As := [.int (hI h b2 (Int32.toNatClampNeg 6)), .int 6, .int 0]) (rest := []) (rc' := rc) (rs' := rs) dX8_comesNow_63 bw_1194 bw_1196 bs_38 bw_9 bw_1197 ⟨by decide +kernel, by decide +kernel, show (parseMethodDescriptor mX8_put.1.desc).map (fun d => d.parameters.length) = some 3 by decide +kernel⟩ (by decide) (by decide) (Nat.le_of_ble_eq_true rfl) fc_8 (by decide) rfl e29 C28 (Nat.le_of_eq (Nat.add_zero _)) (Nat.le_of_eq (Nat.add_zero _)) (fun _ _ h => h) ?_
  rintro _ h30 ⟨rfl, K1⟩ -
  replace K := K h30 K1
  show Gm l x mX8_comesNow 2 66 [(0, .ref a0), (1, .int x1), (2, .int x2), (3, .int x3), (4, .int (hI h b2 (Int32.toNatClampNeg 6)))] [] h30 rc rs n0 Q X
  refine g_aload_n dX8_comesNow_66 rfl 0 rfl ?_
  refine g_iload dX8_comesNow_67 4 rfl ?_
  refine g_bipush (v := 7) dX8_comesNow_69 (by decide) ?_
  refine g_iconst (v := (-1)) dX8_comesNow_71 (by decide) ?_
  obtain ⟨e33, K⟩ := K
  obtain ⟨q31, C32, K⟩ := K
  refine g_callV (M' := mX8_put) (b := a0) (As := [.int (hI h b2 (Int32.toNatClampNeg 6)), .int 7, .int (-1)]) (rest := []) (rc' := rc) (rs' := rs) dX8_comesNow_72 bw_1194 bw_1196 bs_38 bw_9 bw_1197 ⟨by decide +kernel, by decide +kernel, show (parseMethodDescriptor mX8_put.1.desc).map (fun d => d.parameters.length) = some 3 by decide +kernel⟩ (by decide) (by decide) (Nat.le_of_ble_eq_true rfl) fc_8 (by decide) rfl e33 C32 (Nat.le_of_eq (Nat.add_zero _)) (Nat.le_of_eq (Nat.add_zero _)) (fun _ _ h => h) ?_
  rintro _ h34 ⟨rfl, K1⟩ -
  replace K := K h34 K1
  show Gm l x mX8_comesNow 2 75 [(0, .ref a0), (1, .int x1), (2, .int x2), (3, .int x3), (4, .int (hI h b2 (Int32.toNatClampNeg 6)))] [] h34 rc rs n0 Q X
  refine g_aload_n dX8_comesNow_75 rfl 0 rfl ?_
  refine g_iload dX8_comesNow_76 4 rfl ?_
  refine g_bipush (v := 8) dX8_comesNow_78 (by decide) ?_
  refine g_iconst (v := (-1)) dX8_comesNow_80 (by decide) ?_
  obtain ⟨e37, K⟩ := K
  obtain ⟨q35, C36, K⟩ := K
  refine g_callV (M' := mX8_put) (b := a0) (As := [.int (hI h b2 (Int32.toNatClampNeg 6)), .int 8, .int (-1)]) (rest := []) (rc' := rc) (rs' := rs) dX8_comesNow_81 bw_1194 bw_1196 bs_38 bw_9 bw_1197 ⟨by decide +kernel, by decide +kernel, show (parseMethodDescriptor mX8_put.1.desc).map (fun d => d.parameters.length) = some 3 by decide +kernel⟩ (by decide) (by decide) (Nat.le_of_ble_eq_true rfl) fc_8 (by decide) rfl e37 C36 (Nat.le_of_eq (Nat.add_zero _)) (Nat.le_of_eq (Nat.add_zero _)) (fun _ _ h => h) ?_
  rintro _ h38 ⟨rfl, K1⟩ -
  replace K := K h38 K1
  show Gm l x mX8_comesNow 2 84 [(0, .ref a0), (1, .int x1), (2, .int x2), (3, .int x3), (4, .int (hI h b2 (Int32.toNatClampNeg 6)))] [] h38 rc rs n0 Q X
  refine g_aload_n dX8_comesNow_84 rfl 0 rfl ?_
  refine g_iload dX8_comesNow_85 4 rfl ?_
  obtain ⟨e41, K⟩ := K
  obtain ⟨q39, C40, K⟩ := K
  refine g_callV (M' := mX8_comes) (b := a0) (As := [.int (hI h b2 (Int32.toNatClampNeg 6))]) (rest := []) (rc' := rc) (rs' := rs) dX8_comesNow_87 bw_1461 bw_1463 bs_64 bw_9 bw_1464 ⟨by decide +kernel, by decide +kernel, show (parseMethodDescriptor mX8_comes.1.desc).map (fun d => d.parameters.length) = some 1 by decide +kernel⟩ (by decide) (by decide) (Nat.le_of_ble_eq_true rfl) fc_8 (by decide) rfl e41 C40 (Nat.le_of_eq (Nat.add_zero _)) (Nat.le_of_eq (Nat.add_zero _)) (fun _ _ h => h) ?_
  rintro _ h42 ⟨rfl, K1⟩ -
  replace K := K h42 K1
  show Gm l x mX8_comesNow 2 90 [(0, .ref a0), (1, .int x1), (2, .int x2), (3, .int x3), (4, .int (hI h b2 (Int32.toNatClampNeg 6)))] [] h42 rc rs n0 Q X
  refine g_iload dX8_comesNow_90 4 rfl ?_
  exact g_iret dX8_comesNow_92 rfl K
theorem dX8_fire_0 : decode cX8_fire 0 = .ok (.aload_n 0, 1) := by decide +kernel
theorem dX8_fire_1 : decode cX8_fire 1 = .ok (.iconst 0, 1) := by decide +kernel
theorem dX8_fire_2 : decode cX8_fire 2 = .ok (.putfield 104, 3) := by decide +kernel
theorem dX8_fire_5 : decode cX8_fire 5 = .ok (.aload_n 0, 1) := by decide +kernel
theorem dX8_fire_6 : decode cX8_fire 6 = .ok (.getfield 29, 3) := by decide +kernel
theorem dX8_fire_9 : decode cX8_fire 9 = .ok (.iconst 1, 1) := by decide +kernel
theorem dX8_fire_10 : decode cX8_fire 10 = .ok (.iaload, 1) := by decide +kernel
theorem dX8_fire_11 : decode cX8_fire 11 = .ok (.iconst 1, 1) := by decide +kernel
theorem dX8_fire_12 : decode cX8_fire 12 = .ok (.if_icmp .ne 7, 3) := by decide +kernel
theorem dX8_fire_15 : decode cX8_fire 15 = .ok (.iconst 1, 1) := by decide +kernel
theorem dX8_fire_16 : decode cX8_fire 16 = .ok (.goto 4, 3) := by decide +kernel
theorem dX8_fire_19 : decode cX8_fire 19 = .ok (.iconst 0, 1) := by decide +kernel
theorem dX8_fire_20 : decode cX8_fire 20 = .ok (.iload_n 1, 1) := by decide +kernel
theorem dX8_fire_21 : decode cX8_fire 21 = .ok (.if_icmp .ne 8, 3) := by decide +kernel
theorem dX8_fire_24 : decode cX8_fire 24 = .ok (.aload_n 0, 1) := by decide +kernel
theorem dX8_fire_25 : decode cX8_fire 25 = .ok (.invokevirtual 411, 3) := by decide +kernel
theorem dX8_fire_28 : decode cX8_fire 28 = .ok (.ireturn, 1) := by decide +kernel
theorem dX8_fire_29 : decode cX8_fire 29 = .ok (.aload_n 0, 1) := by decide +kernel
theorem dX8_fire_30 : decode cX8_fire 30 = .ok (.invokevirtual 405, 3) := by decide +kernel
theorem dX8_fire_33 : decode cX8_fire 33 = .ok (.aload_n 0, 1) := by decide +kernel
theorem dX8_fire_34 : decode cX8_fire 34 = .ok (.getfield 29, 3) := by decide +kernel
theorem dX8_fire_37 : decode cX8_fire 37 = .ok (.iconst 1, 1) := by decide +kernel
theorem dX8_fire_38 : decode cX8_fire 38 = .ok (.iload_n 1, 1) := by decide +kernel
theorem dX8_fire_39 : decode cX8_fire 39 = .ok (.ifCond .eq 7, 3) := by decide +kernel
theorem dX8_fire_42 : decode cX8_fire 42 = .ok (.iconst 1, 1) := by decide +kernel
theorem dX8_fire_43 : decode cX8_fire 43 = .ok (.goto 4, 3) := by decide +kernel
theorem dX8_fire_46 : decode cX8_fire 46 = .ok (.iconst 0, 1) := by decide +kernel
theorem dX8_fire_47 : decode cX8_fire 47 = .ok (.iastore, 1) := by decide +kernel
theorem dX8_fire_48 : decode cX8_fire 48 = .ok (.iconst 1, 1) := by decide +kernel
theorem dX8_fire_49 : decode cX8_fire 49 = .ok (.ireturn, 1) := by decide +kernel
set_option maxRecDepth 20000 in
set_option maxHeartbeats 4000000 in
theorem vX8_fire_0 {l : Launch} {x : CX} {a0 : Nat} {x1 : Int32} {h : PH} {rc rs n0 : Nat} {Q : Option Value → PH → Prop} {X : String → PH → Prop}
    (K : ((hK h a0).1 = 8) ∧ ∃ b2, (hR h a0 2 = some b2) ∧ ((hK h b2).1 = 100) ∧ (vp_in 1 (hK h b2).2) ∧ ((¬ (if (hI (sI h a0 1 0) b2 (Int32.toNatClampNeg 1)) = 1 then 1 else 0 : Int32) = x1 → ∃ (q8 : PH → Prop), CV l x mX8_keep 0 0 0 [.ref a0] (sI h a0 1 0) q8 ∧ ∀ (h10 : PH), q8 h10 → ((hK h10 a0).1 = 8) ∧ ∃ b12, (hR h10 a0 2 = some b12) ∧ ((hK h10 b12).1 = 100) ∧ (vp_in 1 (hK h10 b12).2) ∧ ((1 : Int32) = 0 ∨ (1 : Int32) = 1) ∧ Q (some (.int 1)) (sI h10 b12 (Int32.toNatClampNeg 1) (if x1 = 0 then 0 else 1 : Int32))) ∧ ((if (hI (sI h a0 1 0) b2 (Int32.toNatClampNeg 1)) = 1 then 1 else 0 : Int32) = x1 → ∃ (q17 : Int32 → PH → Prop), CI l x mX8_refused 1 0 0 [.ref a0] (sI h a0 1 0) q17 ∧ ∀ (r20 : Int32) (h19 : PH), q17 r20 h19 → ((r20 : Int32) = 0 ∨ (r20 : Int32) = 1) ∧ Q (some (.int r20)) h19))) :
    Gm l x mX8_fire 2 0 [(0, .ref a0), (1, .int x1)] [] h rc rs n0 Q X := by
  refine g_aload_n dX8_fire_0 rfl 0 rfl ?_
  refine g_iconst (v := 0) dX8_fire_1 (by decide) ?_
  obtain ⟨e1, K⟩ := K
  refine g_puti (c := 8) (k := 1) dX8_fire_2 fc_8 (by decide) (by decide) bw_1199 (Or.inl rfl) rfl e1 ?_
  refine g_aload_n dX8_fire_5 rfl 0 rfl ?_
  obtain ⟨b2, e3, K⟩ := K
  refine g_get (c := 8) (k := 2) (v := .ref b2) dX8_fire_6 fc_8 (by decide) (by decide) bw_1200 (congrArg pr (krI e3)) (kkI e1) ?_
  refine g_iconst (v := 1) dX8_fire_9 (by decide) ?_
  obtain ⟨e4, e5, K⟩ := K
  refine g_iald dX8_fire_10 (kkI e4) (kvI e5) ?_
  refine g_iconst (v := 1) dX8_fire_11 (by decide) ?_
  have KJ : Gm l x mX8_fire 2 20 [(0, .ref a0), (1, .int x1)] [.int (if (hI (sI h a0 1 0) b2 (Int32.toNatClampNeg 1)) = 1 then 1 else 0 : Int32)] (sI h a0 1 0) rc rs n0 Q X := by
    refine g_iload_n dX8_fire_20 rfl 1 rfl ?_
    refine g_icmp_ne (tgt := 29) dX8_fire_21 (by decide) (fun c7 => ?_) (fun c7 => ?_)
    · replace K := K.1 c7
      refine g_aload_n dX8_fire_29 rfl 0 rfl ?_
      obtain ⟨q8, C9, K⟩ := K
      refine g_callV (M' := mX8_keep) (b := a0) (As := []) (rest := []) (rc' := rc) (rs' := rs) dX8_fire_30 bw_1643 bw_1645 bs_98 bw_9 bw_1646 ⟨by decide +kernel, by decide +kernel, show (parseMethodDescriptor mX8_keep.1.desc).map (fun d => d.parameters.length) = some 0 by decide +kernel⟩ (by decide) (by decide) (Nat.le_of_ble_eq_true rfl) fc_8 (by decide) rfl (kkI e1) C9 (Nat.le_of_eq (Nat.add_zero _)) (Nat.le_of_eq (Nat.add_zero _)) (fun _ _ h => h) ?_
      rintro _ h10 ⟨rfl, K1⟩ -
      replace K := K h10 K1
      show Gm l x mX8_fire 2 33 [(0, .ref a0), (1, .int x1)] [] h10 rc rs n0 Q X
      refine g_aload_n dX8_fire_33 rfl 0 rfl ?_
      obtain ⟨e11, b12, e13, K⟩ := K
      refine g_get (c := 8) (k := 2) (v := .ref b12) dX8_fire_34 fc_8 (by decide) (by decide) bw_1200 (congrArg pr e13) e11 ?_
      refine g_iconst (v := 1) dX8_fire_37 (by decide) ?_
      refine g_iload_n dX8_fire_38 rfl 1 rfl ?_
      have KJ : Gm l x mX8_fire 2 47 [(0, .ref a0), (1, .int x1)] [.int (if x1 = 0 then 0 else 1 : Int32), .int 1, .ref b12] h10 rc rs n0 Q X := by
        obtain ⟨e15, e16, K⟩ := K
        refine g_iast dX8_fire_47 e15 e16 ?_
        refine g_iconst (v := 1) dX8_fire_48 (by decide) ?_
        exact g_zret dX8_fire_49 rfl K.1 K.2
      refine g_if_eq (tgt := 46) dX8_fire_39 (by decide) (fun c14 => ?_) (fun c14 => ?_)
      · refine g_iconst (v := 0) dX8_fire_46 (by decide) ?_
        first | (simp only [if_pos c14] at KJ; exact KJ) | (simp only [if_pos c14, ite_true, ite_false, eq_self] at KJ; exact KJ) | (simp only [if_pos c14] at KJ ⊢; exact KJ) | exact KJ
      · refine g_iconst (v := 1) dX8_fire_42 (by decide) ?_
        refine g_goto (tgt := 47) dX8_fire_43 (by decide) ?_
        first | (simp only [if_neg c14] at KJ; exact KJ) | (simp only [if_neg c14, ite_true, ite_false, eq_self] at KJ; exact KJ) | (simp only [if_neg c14] at KJ ⊢; exact KJ) | exact KJ
    · replace K := K.2 c7
      refine g_aload_n dX8_fire_24 rfl 0 rfl ?_
      obtain ⟨q17, C18, K⟩ := K
      refine g_callV (M' := mX8_refused) (b := a0) (As := []) (rest := []) (rc' := rc) (rs' := rs) dX8_fire_25 bw_1659 bw_1661 bs_100 bw_9 bw_1662 ⟨by decide +kernel, by decide +kernel, show (parseMethodDescriptor mX8_refused.1.desc).map (fun d => d.parameters.length) = some 0 by decide +kernel⟩ (by decide) (by decide) (Nat.le_of_ble_eq_true rfl) fc_8 (by decide) rfl (kkI e1) C18 (Nat.le_of_eq (Nat.add_zero _)) (Nat.le_of_eq (Nat.add_zero _)) (fun _ _ h => h) ?_
      rintro _ h19 ⟨r20, rfl, K1⟩ -
      replace K := K r20 h19 K1
      show Gm l x mX8_fire 2 28 [(0, .ref a0), (1, .int x1)] [.int r20] h19 rc rs n0 Q X
      exact g_zret dX8_fire_28 rfl K.1 K.2
  refine g_icmp_ne (tgt := 19) dX8_fire_12 (by decide) (fun c6 => ?_) (fun c6 => ?_)
  · refine g_iconst (v := 0) dX8_fire_19 (by decide) ?_
    first | (simp only [if_neg c6] at KJ; exact KJ) | (simp only [if_neg c6, ite_true, ite_false, eq_self] at KJ; exact KJ) | (simp only [if_neg c6] at KJ ⊢; exact KJ) | exact KJ
  · refine g_iconst (v := 1) dX8_fire_15 (by decide) ?_
    refine g_goto (tgt := 20) dX8_fire_16 (by decide) ?_
    first | (simp only [if_pos c6] at KJ; exact KJ) | (simp only [if_pos c6, ite_true, ite_false, eq_self] at KJ; exact KJ) | (simp only [if_pos c6] at KJ ⊢; exact KJ) | exact KJ
theorem dX8_isStop_0 : decode cX8_isStop 0 = .ok (.aload_n 0, 1) := by decide +kernel
theorem dX8_isStop_1 : decode cX8_isStop 1 = .ok (.iload_n 1, 1) := by decide +kernel
theorem dX8_isStop_2 : decode cX8_isStop 2 = .ok (.iconst 0, 1) := by decide +kernel
theorem dX8_isStop_3 : decode cX8_isStop 3 = .ok (.invokevirtual 238, 3) := by decide +kernel
theorem dX8_isStop_6 : decode cX8_isStop 6 = .ok (.istore_n 3, 1) := by decide +kernel
theorem dX8_isStop_7 : decode cX8_isStop 7 = .ok (.aload_n 0, 1) := by decide +kernel
theorem dX8_isStop_8 : decode cX8_isStop 8 = .ok (.iload_n 1, 1) := by decide +kernel
theorem dX8_isStop_9 : decode cX8_isStop 9 = .ok (.invokevirtual 253, 3) := by decide +kernel
theorem dX8_isStop_12 : decode cX8_isStop 12 = .ok (.istore 4, 2) := by decide +kernel
theorem dX8_isStop_14 : decode cX8_isStop 14 = .ok (.iload_n 2, 1) := by decide +kernel
theorem dX8_isStop_15 : decode cX8_isStop 15 = .ok (.ifCond .le 20, 3) := by decide +kernel
theorem dX8_isStop_18 : decode cX8_isStop 18 = .ok (.iload 4, 2) := by decide +kernel
theorem dX8_isStop_20 : decode cX8_isStop 20 = .ok (.iload_n 3, 1) := by decide +kernel
theorem dX8_isStop_21 : decode cX8_isStop 21 = .ok (.iconst 1, 1) := by decide +kernel
theorem dX8_isStop_22 : decode cX8_isStop 22 = .ok (.iadd, 1) := by decide +kernel
theorem dX8_isStop_23 : decode cX8_isStop 23 = .ok (.ishr, 1) := by decide +kernel
theorem dX8_isStop_24 : decode cX8_isStop 24 = .ok (.ifCond .eq 7, 3) := by decide +kernel
theorem dX8_isStop_27 : decode cX8_isStop 27 = .ok (.iconst 1, 1) := by decide +kernel
theorem dX8_isStop_28 : decode cX8_isStop 28 = .ok (.goto 27, 3) := by decide +kernel
theorem dX8_isStop_31 : decode cX8_isStop 31 = .ok (.iconst 0, 1) := by decide +kernel
theorem dX8_isStop_32 : decode cX8_isStop 32 = .ok (.goto 23, 3) := by decide +kernel
theorem dX8_isStop_35 : decode cX8_isStop 35 = .ok (.iload_n 2, 1) := by decide +kernel
theorem dX8_isStop_36 : decode cX8_isStop 36 = .ok (.ifCond .ge 18, 3) := by decide +kernel
theorem dX8_isStop_39 : decode cX8_isStop 39 = .ok (.iload 4, 2) := by decide +kernel
theorem dX8_isStop_41 : decode cX8_isStop 41 = .ok (.iconst 1, 1) := by decide +kernel
theorem dX8_isStop_42 : decode cX8_isStop 42 = .ok (.iload_n 3, 1) := by decide +kernel
theorem dX8_isStop_43 : decode cX8_isStop 43 = .ok (.ishl, 1) := by decide +kernel
theorem dX8_isStop_44 : decode cX8_isStop 44 = .ok (.iconst 1, 1) := by decide +kernel
theorem dX8_isStop_45 : decode cX8_isStop 45 = .ok (.isub, 1) := by decide +kernel
theorem dX8_isStop_46 : decode cX8_isStop 46 = .ok (.iand, 1) := by decide +kernel
theorem dX8_isStop_47 : decode cX8_isStop 47 = .ok (.ifCond .eq 7, 3) := by decide +kernel
theorem dX8_isStop_50 : decode cX8_isStop 50 = .ok (.iconst 1, 1) := by decide +kernel
theorem dX8_isStop_51 : decode cX8_isStop 51 = .ok (.goto 4, 3) := by decide +kernel
theorem dX8_isStop_54 : decode cX8_isStop 54 = .ok (.iconst 0, 1) := by decide +kernel
theorem dX8_isStop_55 : decode cX8_isStop 55 = .ok (.ireturn, 1) := by decide +kernel
set_option maxRecDepth 20000 in
set_option maxHeartbeats 4000000 in
theorem vX8_isStop_0 {l : Launch} {x : CX} {a0 : Nat} {x1 : Int32} {x2 : Int32} {h : PH} {rc rs n0 : Nat} {Q : Option Value → PH → Prop} {X : String → PH → Prop}
    (K : ((hK h a0).1 = 8) ∧ ∃ (q1 : Int32 → PH → Prop), CI l x mX8_carOf 0 0 0 [.ref a0, .int x1, .int 0] h q1 ∧ ∀ (r5 : Int32) (h4 : PH), q1 r5 h4 → ((hK h4 a0).1 = 8) ∧ ∃ (q6 : Int32 → PH → Prop), CI l x mX8_stops 2 0 0 [.ref a0, .int x1] h4 q6 ∧ ∀ (r10 : Int32) (h9 : PH), q6 r10 h9 → (((if x2 ≤ 0 then (if 0 ≤ x2 then 0 else (if (r10 &&& ((1 <<< ((r5 : Int32) &&& 31)) - 1)) = 0 then 0 else 1 : Int32) : Int32) else (if (r10 >>> (((r5 + 1) : Int32) &&& 31)) = 0 then 0 else 1 : Int32) : Int32) : Int32) = 0 ∨ ((if x2 ≤ 0 then (if 0 ≤ x2 then 0 else (if (r10 &&& ((1 <<< ((r5 : Int32) &&& 31)) - 1)) = 0 then 0 else 1 : Int32) : Int32) else (if (r10 >>> (((r5 + 1) : Int32) &&& 31)) = 0 then 0 else 1 : Int32) : Int32) : Int32) = 1) ∧ Q (some (.int (if x2 ≤ 0 then (if 0 ≤ x2 then 0 else (if (r10 &&& ((1 <<< ((r5 : Int32) &&& 31)) - 1)) = 0 then 0 else 1 : Int32) : Int32) else (if (r10 >>> (((r5 + 1) : Int32) &&& 31)) = 0 then 0 else 1 : Int32) : Int32))) h9) :
    Gm l x mX8_isStop 3 0 [(0, .ref a0), (1, .int x1), (2, .int x2)] [] h rc rs n0 Q X := by
  refine g_aload_n dX8_isStop_0 rfl 0 rfl ?_
  refine g_iload_n dX8_isStop_1 rfl 1 rfl ?_
  refine g_iconst (v := 0) dX8_isStop_2 (by decide) ?_
  obtain ⟨e3, K⟩ := K
  obtain ⟨q1, C2, K⟩ := K
  refine g_callV (M' := mX8_carOf) (b := a0) (As := [.int x1, .int 0]) (rest := []) (rc' := rc) (rs' := rs) dX8_isStop_3 bw_1476 bw_1478 bs_67 bw_9 bw_1479 ⟨by decide +kernel, by decide +kernel, show (parseMethodDescriptor mX8_carOf.1.desc).map (fun d => d.parameters.length) = some 2 by decide +kernel⟩ (by decide) (by decide) (Nat.le_of_ble_eq_true rfl) fc_8 (by decide) rfl e3 C2 (Nat.le_of_eq (Nat.add_zero _)) (Nat.le_of_eq (Nat.add_zero _)) (fun _ _ h => h) ?_
  rintro _ h4 ⟨r5, rfl, K1⟩ -
  replace K := K r5 h4 K1
  show Gm l x mX8_isStop 3 6 [(0, .ref a0), (1, .int x1), (2, .int x2)] [.int r5] h4 rc rs n0 Q X
  refine g_istore_n (lv' := [(0, .ref a0), (1, .int x1), (2, .int x2), (3, .int r5)]) dX8_isStop_6 rfl (by decide) rfl ?_
  refine g_aload_n dX8_isStop_7 rfl 0 rfl ?_
  refine g_iload_n dX8_isStop_8 rfl 1 rfl ?_
  obtain ⟨e8, K⟩ := K
  obtain ⟨q6, C7, K⟩ := K
  refine g_callV (M' := mX8_stops) (b := a0) (As := [.int x1]) (rest := []) (rc' := rc) (rs' := rs) dX8_isStop_9 bw_1510 bw_1512 bs_75 bw_9 bw_1513 ⟨by decide +kernel, by decide +kernel, show (parseMethodDescriptor mX8_stops.1.desc).map (fun d => d.parameters.length) = some 1 by decide +kernel⟩ (by decide) (by decide) (Nat.le_of_ble_eq_true rfl) fc_8 (by decide) rfl e8 C7 (Nat.le_of_eq (Nat.add_zero _)) (Nat.le_of_eq (Nat.add_zero _)) (fun _ _ h => h) ?_
  rintro _ h9 ⟨r10, rfl, K1⟩ -
  replace K := K r10 h9 K1
  show Gm l x mX8_isStop 3 12 [(0, .ref a0), (1, .int x1), (2, .int x2), (3, .int r5)] [.int r10] h9 rc rs n0 Q X
  refine g_istore (lv' := [(0, .ref a0), (1, .int x1), (2, .int x2), (3, .int r5), (4, .int r10)]) dX8_isStop_12 (by decide) rfl ?_
  refine g_iload_n dX8_isStop_14 rfl 2 rfl ?_
  have KJ : Gm l x mX8_isStop 3 55 [(0, .ref a0), (1, .int x1), (2, .int x2), (3, .int r5), (4, .int r10)] [.int (if x2 ≤ 0 then (if 0 ≤ x2 then 0 else (if (r10 &&& ((1 <<< ((r5 : Int32) &&& 31)) - 1)) = 0 then 0 else 1 : Int32) : Int32) else (if (r10 >>> (((r5 + 1) : Int32) &&& 31)) = 0 then 0 else 1 : Int32) : Int32)] h9 rc rs n0 Q X := by
    exact g_zret dX8_isStop_55 rfl K.1 K.2
  refine g_if_le (tgt := 35) dX8_isStop_15 (by decide) (fun c11 => ?_) (fun c11 => ?_)
  · refine g_iload_n dX8_isStop_35 rfl 2 rfl ?_
    refine g_if_ge (tgt := 54) dX8_isStop_36 (by decide) (fun c12 => ?_) (fun c12 => ?_)
    · refine g_iconst (v := 0) dX8_isStop_54 (by decide) ?_
      first | (simp only [if_pos c11, if_pos c12] at KJ; exact KJ) | (simp only [if_pos c11, if_pos c12, ite_true, ite_false, eq_self] at KJ; exact KJ) | (simp only [if_pos c11, if_pos c12] at KJ ⊢; exact KJ) | exact KJ
    · refine g_iload dX8_isStop_39 4 rfl ?_
      refine g_iconst (v := 1) dX8_isStop_41 (by decide) ?_
      refine g_iload_n dX8_isStop_42 rfl 3 rfl ?_
      refine g_ishl dX8_isStop_43 ?_
      refine g_iconst (v := 1) dX8_isStop_44 (by decide) ?_
      refine g_isub dX8_isStop_45 ?_
      refine g_iand dX8_isStop_46 ?_
      refine g_if_eq (tgt := 54) dX8_isStop_47 (by decide) (fun c13 => ?_) (fun c13 => ?_)
      · refine g_iconst (v := 0) dX8_isStop_54 (by decide) ?_
        first | (simp only [if_pos c11, if_neg c12, if_pos c13] at KJ; exact KJ) | (simp only [if_pos c11, if_neg c12, if_pos c13, ite_true, ite_false, eq_self] at KJ; exact KJ) | (simp only [if_pos c11, if_neg c12, if_pos c13] at KJ ⊢; exact KJ) | exact KJ
      · refine g_iconst (v := 1) dX8_isStop_50 (by decide) ?_
        refine g_goto (tgt := 55) dX8_isStop_51 (by decide) ?_
        first | (simp only [if_pos c11, if_neg c12, if_neg c13] at KJ; exact KJ) | (simp only [if_pos c11, if_neg c12, if_neg c13, ite_true, ite_false, eq_self] at KJ; exact KJ) | (simp only [if_pos c11, if_neg c12, if_neg c13] at KJ ⊢; exact KJ) | exact KJ
  · refine g_iload dX8_isStop_18 4 rfl ?_
    refine g_iload_n dX8_isStop_20 rfl 3 rfl ?_
    refine g_iconst (v := 1) dX8_isStop_21 (by decide) ?_
    refine g_iadd dX8_isStop_22 ?_
    refine g_ishr dX8_isStop_23 ?_
    refine g_if_eq (tgt := 31) dX8_isStop_24 (by decide) (fun c14 => ?_) (fun c14 => ?_)
    · refine g_iconst (v := 0) dX8_isStop_31 (by decide) ?_
      refine g_goto (tgt := 55) dX8_isStop_32 (by decide) ?_
      first | (simp only [if_neg c11, if_pos c14] at KJ; exact KJ) | (simp only [if_neg c11, if_pos c14, ite_true, ite_false, eq_self] at KJ; exact KJ) | (simp only [if_neg c11, if_pos c14] at KJ ⊢; exact KJ) | exact KJ
    · refine g_iconst (v := 1) dX8_isStop_27 (by decide) ?_
      refine g_goto (tgt := 55) dX8_isStop_28 (by decide) ?_
      first | (simp only [if_neg c11, if_neg c14] at KJ; exact KJ) | (simp only [if_neg c11, if_neg c14, ite_true, ite_false, eq_self] at KJ; exact KJ) | (simp only [if_neg c11, if_neg c14] at KJ ⊢; exact KJ) | exact KJ
theorem dX8_moves_0 : decode cX8_moves 0 = .ok (.aload_n 0, 1) := by decide +kernel
theorem dX8_moves_1 : decode cX8_moves 1 = .ok (.iload_n 1, 1) := by decide +kernel
theorem dX8_moves_2 : decode cX8_moves 2 = .ok (.iconst 3, 1) := by decide +kernel
theorem dX8_moves_3 : decode cX8_moves 3 = .ok (.invokevirtual 238, 3) := by decide +kernel
theorem dX8_moves_6 : decode cX8_moves 6 = .ok (.invokestatic 241, 3) := by decide +kernel
theorem dX8_moves_9 : decode cX8_moves 9 = .ok (.i2f, 1) := by decide +kernel
theorem dX8_moves_10 : decode cX8_moves 10 = .ok (.fstore_n 3, 1) := by decide +kernel
theorem dX8_moves_11 : decode cX8_moves 11 = .ok (.iload_n 2, 1) := by decide +kernel
theorem dX8_moves_12 : decode cX8_moves 12 = .ok (.ifCond .le 11, 3) := by decide +kernel
theorem dX8_moves_15 : decode cX8_moves 15 = .ok (.ldc_w 265, 3) := by decide +kernel
theorem dX8_moves_18 : decode cX8_moves 18 = .ok (.fload_n 3, 1) := by decide +kernel
theorem dX8_moves_19 : decode cX8_moves 19 = .ok (.fmul, 1) := by decide +kernel
theorem dX8_moves_20 : decode cX8_moves 20 = .ok (.goto 8, 3) := by decide +kernel
theorem dX8_moves_23 : decode cX8_moves 23 = .ok (.ldc_w 266, 3) := by decide +kernel
theorem dX8_moves_26 : decode cX8_moves 26 = .ok (.fload_n 3, 1) := by decide +kernel
theorem dX8_moves_27 : decode cX8_moves 27 = .ok (.fmul, 1) := by decide +kernel
theorem dX8_moves_28 : decode cX8_moves 28 = .ok (.fstore 4, 2) := by decide +kernel
theorem dX8_moves_30 : decode cX8_moves 30 = .ok (.aload_n 0, 1) := by decide +kernel
theorem dX8_moves_31 : decode cX8_moves 31 = .ok (.iload_n 1, 1) := by decide +kernel
theorem dX8_moves_32 : decode cX8_moves 32 = .ok (.iload_n 2, 1) := by decide +kernel
theorem dX8_moves_33 : decode cX8_moves 33 = .ok (.ifCond .le 12, 3) := by decide +kernel
theorem dX8_moves_36 : decode cX8_moves 36 = .ok (.ldc_w 267, 3) := by decide +kernel
theorem dX8_moves_39 : decode cX8_moves 39 = .ok (.fload 4, 2) := by decide +kernel
theorem dX8_moves_41 : decode cX8_moves 41 = .ok (.fadd, 1) := by decide +kernel
theorem dX8_moves_42 : decode cX8_moves 42 = .ok (.goto 9, 3) := by decide +kernel
theorem dX8_moves_45 : decode cX8_moves 45 = .ok (.ldc_w 268, 3) := by decide +kernel
theorem dX8_moves_48 : decode cX8_moves 48 = .ok (.fload 4, 2) := by decide +kernel
theorem dX8_moves_50 : decode cX8_moves 50 = .ok (.fadd, 1) := by decide +kernel
theorem dX8_moves_51 : decode cX8_moves 51 = .ok (.invokevirtual 269, 3) := by decide +kernel
theorem dX8_moves_54 : decode cX8_moves 54 = .ok (.aload_n 0, 1) := by decide +kernel
theorem dX8_moves_55 : decode cX8_moves 55 = .ok (.iload_n 1, 1) := by decide +kernel
theorem dX8_moves_56 : decode cX8_moves 56 = .ok (.iconst 0, 1) := by decide +kernel
theorem dX8_moves_57 : decode cX8_moves 57 = .ok (.aload_n 0, 1) := by decide +kernel
theorem dX8_moves_58 : decode cX8_moves 58 = .ok (.iload_n 1, 1) := by decide +kernel
theorem dX8_moves_59 : decode cX8_moves 59 = .ok (.iconst 0, 1) := by decide +kernel
theorem dX8_moves_60 : decode cX8_moves 60 = .ok (.invokevirtual 238, 3) := by decide +kernel
theorem dX8_moves_63 : decode cX8_moves 63 = .ok (.iload_n 2, 1) := by decide +kernel
theorem dX8_moves_64 : decode cX8_moves 64 = .ok (.iadd, 1) := by decide +kernel
theorem dX8_moves_65 : decode cX8_moves 65 = .ok (.invokevirtual 221, 3) := by decide +kernel
theorem dX8_moves_68 : decode cX8_moves 68 = .ok (.return_, 1) := by decide +kernel
set_option maxRecDepth 20000 in
set_option maxHeartbeats 4000000 in
theorem vX8_moves_0 {l : Launch} {x : CX} {a0 : Nat} {x1 : Int32} {x2 : Int32} {h : PH} {rc rs n0 : Nat} {Q : Option Value → PH → Prop} {X : String → PH → Prop}
    (K : ((hK h a0).1 = 8) ∧ ∃ (q1 : Int32 → PH → Prop), CI l x mX8_carOf 0 0 0 [.ref a0, .int x1, .int 3] h q1 ∧ ∀ (r5 : Int32) (h4 : PH), q1 r5 h4 → ∃ (q6 : Int32 → PH → Prop), CI l x mJ6_bitCount_0f7a4 0 0 0 [.int r5] h4 q6 ∧ ∀ (r9 : Int32) (h8 : PH), q6 r9 h8 → ((x2 ≤ 0 → (vf_n32 (FP.fmul 1036831949 (FP.i2f r9))) ∧ ((x2 ≤ 0 → (vf_n32 (FP.fadd 1045220557 (FP.fmul 1036831949 (FP.i2f r9)))) ∧ ((hK h8 a0).1 = 8) ∧ ∃ (q14 : PH → Prop), CV l x mX8_works 2 0 0 [.ref a0, .int x1, .float (FP.fadd 1045220557 (FP.fmul 1036831949 (FP.i2f r9)))] h8 q14 ∧ ∀ (h17 : PH), q14 h17 → ((hK h17 a0).1 = 8) ∧ ∃ (q18 : Int32 → PH → Prop), CI l x mX8_carOf 0 0 0 [.ref a0, .int x1, .int 0] h17 q18 ∧ ∀ (r22 : Int32) (h21 : PH), q18 r22 h21 → ((hK h21 a0).1 = 8) ∧ ∃ (q23 : PH → Prop), CV l x mX8_putCar 0 0 0 [.ref a0, .int x1, .int 0, .int (r22 + x2)] h21 q23 ∧ ∀ (h26 : PH), q23 h26 → Q none h26) ∧ (¬ x2 ≤ 0 → (vf_n32 (FP.fadd 1060320051 (FP.fmul 1036831949 (FP.i2f r9)))) ∧ ((hK h8 a0).1 = 8) ∧ ∃ (q28 : PH → Prop), CV l x mX8_works 2 0 0 [.ref a0, .int x1, .float (FP.fadd 1060320051 (FP.fmul 1036831949 (FP.i2f r9)))] h8 q28 ∧ ∀ (h31 : PH), q28 h31 → ((hK h31 a0).1 = 8) ∧ ∃ (q32 : Int32 → PH → Prop), CI l x mX8_carOf 0 0 0 [.ref a0, .int x1, .int 0] h31 q32 ∧ ∀ (r36 : Int32) (h35 : PH), q32 r36 h35 → ((hK h35 a0).1 = 8) ∧ ∃ (q37 : PH → Prop), CV l x mX8_putCar 0 0 0 [.ref a0, .int x1, .int 0, .int (r36 + x2)] h35 q37 ∧ ∀ (h40 : PH), q37 h40 → Q none h40))) ∧ (¬ x2 ≤ 0 → (vf_n32 (FP.fmul 1050253722 (FP.i2f r9))) ∧ ((x2 ≤ 0 → (vf_n32 (FP.fadd 1045220557 (FP.fmul 1050253722 (FP.i2f r9)))) ∧ ((hK h8 a0).1 = 8) ∧ ∃ (q44 : PH → Prop), CV l x mX8_works 2 0 0 [.ref a0, .int x1, .float (FP.fadd 1045220557 (FP.fmul 1050253722 (FP.i2f r9)))] h8 q44 ∧ ∀ (h47 : PH), q44 h47 → ((hK h47 a0).1 = 8) ∧ ∃ (q48 : Int32 → PH → Prop), CI l x mX8_carOf 0 0 0 [.ref a0, .int x1, .int 0] h47 q48 ∧ ∀ (r52 : Int32) (h51 : PH), q48 r52 h51 → ((hK h51 a0).1 = 8) ∧ ∃ (q53 : PH → Prop), CV l x mX8_putCar 0 0 0 [.ref a0, .int x1, .int 0, .int (r52 + x2)] h51 q53 ∧ ∀ (h56 : PH), q53 h56 → Q none h56) ∧ (¬ x2 ≤ 0 → (vf_n32 (FP.fadd 1060320051 (FP.fmul 1050253722 (FP.i2f r9)))) ∧ ((hK h8 a0).1 = 8) ∧ ∃ (q58 : PH → Prop), CV l x mX8_works 2 0 0 [.ref a0, .int x1, .float (FP.fadd 1060320051 (FP.fmul 1050253722 (FP.i2f r9)))] h8 q58 ∧ ∀ (h61 : PH), q58 h61 → ((hK h61 a0).1 = 8) ∧ ∃ (q62 : Int32 → PH → Prop), CI l x mX8_carOf 0 0 0 [.ref a0, .int x1, .int 0] h61 q62 ∧ ∀ (r66 : Int32) (h65 : PH), q62 r66 h65 → ((hK h65 a0).1 = 8) ∧ ∃ (q67 : PH → Prop), CV l x mX8_putCar 0 0 0 [.ref a0, .int x1, .int 0, .int (r66 + x2)] h65 q67 ∧ ∀ (h70 : PH), q67 h70 → Q none h70))))) :
    Gm l x mX8_moves 3 0 [(0, .ref a0), (1, .int x1), (2, .int x2)] [] h rc rs n0 Q X := by
  refine g_aload_n dX8_moves_0 rfl 0 rfl ?_
  refine g_iload_n dX8_moves_1 rfl 1 rfl ?_
  refine g_iconst (v := 3) dX8_moves_2 (by decide) ?_
  obtain ⟨e3, K⟩ := K
  obtain ⟨q1, C2, K⟩ := K
  refine g_callV (M' := mX8_carOf) (b := a0) (As := [.int x1, .int 3]) (rest := []) (rc' := rc) (rs' := rs) dX8_moves_3 bw_1476 bw_1478 bs_67 bw_9 bw_1479 ⟨by decide +kernel, by decide +kernel, show (parseMethodDescriptor mX8_carOf.1.desc).map (fun d => d.parameters.length) = some 2 by decide +kernel⟩ (by decide) (by decide) (Nat.le_of_ble_eq_true rfl) fc_8 (by decide) rfl e3 C2 (Nat.le_of_eq (Nat.add_zero _)) (Nat.le_of_eq (Nat.add_zero _)) (fun _ _ h => h) ?_
  rintro _ h4 ⟨r5, rfl, K1⟩ -
  replace K := K r5 h4 K1
  show Gm l x mX8_moves 3 6 [(0, .ref a0), (1, .int x1), (2, .int x2)] [.int r5] h4 rc rs n0 Q X
  obtain ⟨q6, C7, K⟩ := K
  refine g_callS (M' := mJ6_bitCount_0f7a4) (As := [.int r5]) (rest := []) (rc' := rc) (rs' := rs) dX8_moves_6 bw_1505 bw_490 bw_21 bw_491 ⟨by decide +kernel, by decide +kernel, show (parseMethodDescriptor mJ6_bitCount_0f7a4.1.desc).map (fun d => d.parameters.length) = some 1 by decide +kernel⟩ (by decide) (by decide) (Nat.le_of_ble_eq_true rfl) C7 (Nat.le_of_eq (Nat.add_zero _)) (Nat.le_of_eq (Nat.add_zero _)) (fun _ _ h => h) ?_
  rintro _ h8 ⟨r9, rfl, K1⟩ -
  replace K := K r9 h8 K1
  show Gm l x mX8_moves 3 9 [(0, .ref a0), (1, .int x1), (2, .int x2)] [.int r9] h8 rc rs n0 Q X
  refine g_i2f dX8_moves_9 ?_
  refine g_fstore_n (lv' := [(0, .ref a0), (1, .int x1), (2, .int x2), (3, .float (FP.i2f r9))]) dX8_moves_10 rfl (by decide) rfl ?_
  refine g_iload_n dX8_moves_11 rfl 2 rfl ?_
  refine g_if_le (tgt := 23) dX8_moves_12 (by decide) (fun c10 => ?_) (fun c10 => ?_)
  · replace K := K.1 c10
    refine g_ldcwf (v := 1036831949) dX8_moves_23 bw_1557 ?_
    refine g_fload_n dX8_moves_26 rfl 3 rfl ?_
    obtain ⟨e11, K⟩ := K
    refine g_fmul dX8_moves_27 e11 ?_
    refine g_fstore (lv' := [(0, .ref a0), (1, .int x1), (2, .int x2), (3, .float (FP.i2f r9)), (4, .float (FP.fmul 1036831949 (FP.i2f r9)))]) dX8_moves_28 (by decide) rfl ?_
    refine g_aload_n dX8_moves_30 rfl 0 rfl ?_
    refine g_iload_n dX8_moves_31 rfl 1 rfl ?_
    refine g_iload_n dX8_moves_32 rfl 2 rfl ?_
    refine g_if_le (tgt := 45) dX8_moves_33 (by decide) (fun c12 => ?_) (fun c12 => ?_)
    · replace K := K.1 c12
      refine g_ldcwf (v := 1045220557) dX8_moves_45 bw_1559 ?_
      refine g_fload dX8_moves_48 4 rfl ?_
      obtain ⟨e13, K⟩ := K
      refine g_fadd dX8_moves_50 e13 ?_
      obtain ⟨e16, K⟩ := K
      obtain ⟨q14, C15, K⟩ := K
      refine g_callV (M' := mX8_works) (b := a0) (As := [.int x1, .float (FP.fadd 1045220557 (FP.fmul 1036831949 (FP.i2f r9)))]) (rest := []) (rc' := rc) (rs' := rs) dX8_moves_51 bw_1531 bw_1533 bs_80 bw_9 bw_1534 ⟨by decide +kernel, by decide +kernel, show (parseMethodDescriptor mX8_works.1.desc).map (fun d => d.parameters.length) = some 2 by decide +kernel⟩ (by decide) (by decide) (Nat.le_of_ble_eq_true rfl) fc_8 (by decide) rfl e16 C15 (Nat.le_of_eq (Nat.add_zero _)) (Nat.le_of_eq (Nat.add_zero _)) (fun _ _ h => h) ?_
      rintro _ h17 ⟨rfl, K1⟩ -
      replace K := K h17 K1
      show Gm l x mX8_moves 3 54 [(0, .ref a0), (1, .int x1), (2, .int x2), (3, .float (FP.i2f r9)), (4, .float (FP.fmul 1036831949 (FP.i2f r9)))] [] h17 rc rs n0 Q X
      refine g_aload_n dX8_moves_54 rfl 0 rfl ?_
      refine g_iload_n dX8_moves_55 rfl 1 rfl ?_
      refine g_iconst (v := 0) dX8_moves_56 (by decide) ?_
      refine g_aload_n dX8_moves_57 rfl 0 rfl ?_
      refine g_iload_n dX8_moves_58 rfl 1 rfl ?_
      refine g_iconst (v := 0) dX8_moves_59 (by decide) ?_
      obtain ⟨e20, K⟩ := K
      obtain ⟨q18, C19, K⟩ := K
      refine g_callV (M' := mX8_carOf) (b := a0) (As := [.int x1, .int 0]) (rest := [.int 0, .int x1, .ref a0]) (rc' := rc) (rs' := rs) dX8_moves_60 bw_1476 bw_1478 bs_67 bw_9 bw_1479 ⟨by decide +kernel, by decide +kernel, show (parseMethodDescriptor mX8_carOf.1.desc).map (fun d => d.parameters.length) = some 2 by decide +kernel⟩ (by decide) (by decide) (Nat.le_of_ble_eq_true rfl) fc_8 (by decide) rfl e20 C19 (Nat.le_of_eq (Nat.add_zero _)) (Nat.le_of_eq (Nat.add_zero _)) (fun _ _ h => h) ?_
      rintro _ h21 ⟨r22, rfl, K1⟩ -
      replace K := K r22 h21 K1
      show Gm l x mX8_moves 3 63 [(0, .ref a0), (1, .int x1), (2, .int x2), (3, .float (FP.i2f r9)), (4, .float (FP.fmul 1036831949 (FP.i2f r9)))] [.int r22, .int 0, .int x1, .ref a0] h21 rc rs n0 Q X
      refine g_iload_n dX8_moves_63 rfl 2 rfl ?_
      refine g_iadd dX8_moves_64 ?_
      obtain ⟨e25, K⟩ := K
      obtain ⟨q23, C24, K⟩ := K
      refine g_callV (M' := mX8_putCar) (b := a0) (As := [.int x1, .int 0, .int (r22 + x2)]) (rest := []) (rc' := rc) (rs' := rs) dX8_moves_65 bw_1190 bw_1192 bs_37 bw_9 bw_1193 ⟨by decide +kernel, by decide +kernel, show (parseMethodDescriptor mX8_putCar.1.desc).map (fun d => d.parameters.length) = some 3 by decide +kernel⟩ (by decide) (by decide) (Nat.le_of_ble_eq_true rfl) fc_8 (by decide) rfl e25 C24 (Nat.le_of_eq (Nat.add_zero _)) (Nat.le_of_eq (Nat.add_zero _)) (fun _ _ h => h) ?_
      rintro _ h26 ⟨rfl, K1⟩ -
      replace K := K h26 K1
      show Gm l x mX8_moves 3 68 [(0, .ref a0), (1, .int x1), (2, .int x2), (3, .float (FP.i2f r9)), (4, .float (FP.fmul 1036831949 (FP.i2f r9)))] [] h26 rc rs n0 Q X
      exact g_vret dX8_moves_68 rfl K
    · replace K := K.2 c12
      refine g_ldcwf (v := 1060320051) dX8_moves_36 bw_1558 ?_
      refine g_fload dX8_moves_39 4 rfl ?_
      obtain ⟨e27, K⟩ := K
      refine g_fadd dX8_moves_41 e27 ?_
      refine g_goto (tgt := 51) dX8_moves_42 (by decide) ?_
      obtain ⟨e30, K⟩ := K
      obtain ⟨q28, C29, K⟩ := K
      refine g_callV (M' := mX8_works) (b := a0) (As := [.int x1, .float (FP.fadd 1060320051 (FP.fmul 1036831949 (FP.i2f r9)))]) (rest := []) (rc' := rc) (rs' := rs) dX8_moves_51 bw_1531 bw_1533 bs_80 bw_9 bw_1534 ⟨by decide +kernel, by decide +kernel, show (parseMethodDescriptor mX8_works.1.desc).map (fun d => d.parameters.length) = some 2 by decide +kernel⟩ (by decide) (by decide) (Nat.le_of_ble_eq_true rfl) fc_8 (by decide) rfl e30 C29 (Nat.le_of_eq (Nat.add_zero _)) (Nat.le_of_eq (Nat.add_zero _)) (fun _ _ h => h) ?_
      rintro _ h31 ⟨rfl, K1⟩ -
      replace K := K h31 K1
      show Gm l x mX8_moves 3 54 [(0, .ref a0), (1, .int x1), (2, .int x2), (3, .float (FP.i2f r9)), (4, .float (FP.fmul 1036831949 (FP.i2f r9)))] [] h31 rc rs n0 Q X
      refine g_aload_n dX8_moves_54 rfl 0 rfl ?_
      refine g_iload_n dX8_moves_55 rfl 1 rfl ?_
      refine g_iconst (v := 0) dX8_moves_56 (by decide) ?_
      refine g_aload_n dX8_moves_57 rfl 0 rfl ?_
      refine g_iload_n dX8_moves_58 rfl 1 rfl ?_
      refine g_iconst (v := 0) dX8_moves_59 (by decide) ?_
      obtain ⟨e34, K⟩ := K
      obtain ⟨q32, C33, K⟩ := K
      refine g_callV (M' := mX8_carOf) (b := a0) (As := [.int x1, .int 0]) (rest := [.int 0, .int x1, .ref a0]) (rc' := rc) (rs' := rs) dX8_moves_60 bw_1476 bw_1478 bs_67 bw_9 bw_1479 ⟨by decide +kernel, by decide +kernel, show (parseMethodDescriptor mX8_carOf.1.desc).map (fun d => d.parameters.length) = some 2 by decide +kernel⟩ (by decide) (by decide) (Nat.le_of_ble_eq_true rfl) fc_8 (by decide) rfl e34 C33 (Nat.le_of_eq (Nat.add_zero _)) (Nat.le_of_eq (Nat.add_zero _)) (fun _ _ h => h) ?_
      rintro _ h35 ⟨r36, rfl, K1⟩ -
      replace K := K r36 h35 K1
      show Gm l x mX8_moves 3 63 [(0, .ref a0), (1, .int x1), (2, .int x2), (3, .float (FP.i2f r9)), (4, .float (FP.fmul 1036831949 (FP.i2f r9)))] [.int r36, .int 0, .int x1, .ref a0] h35 rc rs n0 Q X
      refine g_iload_n dX8_moves_63 rfl 2 rfl ?_
      refine g_iadd dX8_moves_64 ?_
      obtain ⟨e39, K⟩ := K
      obtain ⟨q37, C38, K⟩ := K
      refine g_callV (M' := mX8_putCar) (b := a0) (As := [.int x1, .int 0, .int (r36 + x2)]) (rest := []) (rc' := rc) (rs' := rs) dX8_moves_65 bw_1190 bw_1192 bs_37 bw_9 bw_1193 ⟨by decide +kernel, by decide +kernel, show (parseMethodDescriptor mX8_putCar.1.desc).map (fun d => d.parameters.length) = some 3 by decide +kernel⟩ (by decide) (by decide) (Nat.le_of_ble_eq_true rfl) fc_8 (by decide) rfl e39 C38 (Nat.le_of_eq (Nat.add_zero _)) (Nat.le_of_eq (Nat.add_zero _)) (fun _ _ h => h) ?_
      rintro _ h40 ⟨rfl, K1⟩ -
      replace K := K h40 K1
      show Gm l x mX8_moves 3 68 [(0, .ref a0), (1, .int x1), (2, .int x2), (3, .float (FP.i2f r9)), (4, .float (FP.fmul 1036831949 (FP.i2f r9)))] [] h40 rc rs n0 Q X
      exact g_vret dX8_moves_68 rfl K
  · replace K := K.2 c10
    refine g_ldcwf (v := 1050253722) dX8_moves_15 bw_1556 ?_
    refine g_fload_n dX8_moves_18 rfl 3 rfl ?_
    obtain ⟨e41, K⟩ := K
    refine g_fmul dX8_moves_19 e41 ?_
    refine g_goto (tgt := 28) dX8_moves_20 (by decide) ?_
    refine g_fstore (lv' := [(0, .ref a0), (1, .int x1), (2, .int x2), (3, .float (FP.i2f r9)), (4, .float (FP.fmul 1050253722 (FP.i2f r9)))]) dX8_moves_28 (by decide) rfl ?_
    refine g_aload_n dX8_moves_30 rfl 0 rfl ?_
    refine g_iload_n dX8_moves_31 rfl 1 rfl ?_
    refine g_iload_n dX8_moves_32 rfl 2 rfl ?_
    refine g_if_le (tgt := 45) dX8_moves_33 (by decide) (fun c42 => ?_) (fun c42 => ?_)
    · replace K := K.1 c42
      refine g_ldcwf (v := 1045220557) dX8_moves_45 bw_1559 ?_
      refine g_fload dX8_moves_48 4 rfl ?_
      obtain ⟨e43, K⟩ := K
      refine g_fadd dX8_moves_50 e43 ?_
      obtain ⟨e46, K⟩ := K
      obtain ⟨q44, C45, K⟩ := K
      refine g_callV (M' := mX8_works) (b := a0) (As := [.int x1, .float (FP.fadd 1045220557 (FP.fmul 1050253722 (FP.i2f r9)))]) (rest := []) (rc' := rc) (rs' := rs) dX8_moves_51 bw_1531 bw_1533 bs_80 bw_9 bw_1534 ⟨by decide +kernel, by decide +kernel, show (parseMethodDescriptor mX8_works.1.desc).map (fun d => d.parameters.length) = some 2 by decide +kernel⟩ (by decide) (by decide) (Nat.le_of_ble_eq_true rfl) fc_8 (by decide) rfl e46 C45 (Nat.le_of_eq (Nat.add_zero _)) (Nat.le_of_eq (Nat.add_zero _)) (fun _ _ h => h) ?_
      rintro _ h47 ⟨rfl, K1⟩ -
      replace K := K h47 K1
      show Gm l x mX8_moves 3 54 [(0, .ref a0), (1, .int x1), (2, .int x2), (3, .float (FP.i2f r9)), (4, .float (FP.fmul 1050253722 (FP.i2f r9)))] [] h47 rc rs n0 Q X
      refine g_aload_n dX8_moves_54 rfl 0 rfl ?_
      refine g_iload_n dX8_moves_55 rfl 1 rfl ?_
      refine g_iconst (v := 0) dX8_moves_56 (by decide) ?_
      refine g_aload_n dX8_moves_57 rfl 0 rfl ?_
      refine g_iload_n dX8_moves_58 rfl 1 rfl ?_
      refine g_iconst (v := 0) dX8_moves_59 (by decide) ?_
      obtain ⟨e50, K⟩ := K
      obtain ⟨q48, C49, K⟩ := K
      refine g_callV (M' := mX8_carOf) (b := a0) (As := [.int x1, .int 0]) (rest := [.int 0, .int x1, .ref a0]) (rc' := rc) (rs' := rs) dX8_moves_60 bw_1476 bw_1478 bs_67 bw_9 bw_1479 ⟨by decide +kernel, by decide +kernel, show (parseMethodDescriptor mX8_carOf.1.desc).map (fun d => d.parameters.length) = some 2 by decide +kernel⟩ (by decide) (by decide) (Nat.le_of_ble_eq_true rfl) fc_8 (by decide) rfl e50 C49 (Nat.le_of_eq (Nat.add_zero _)) (Nat.le_of_eq (Nat.add_zero _)) (fun _ _ h => h) ?_
      rintro _ h51 ⟨r52, rfl, K1⟩ -
      replace K := K r52 h51 K1
      show Gm l x mX8_moves 3 63 [(0, .ref a0), (1, .int x1), (2, .int x2), (3, .float (FP.i2f r9)), (4, .float (FP.fmul 1050253722 (FP.i2f r9)))] [.int r52, .int 0, .int x1, .ref a0] h51 rc rs n0 Q X
      refine g_iload_n dX8_moves_63 rfl 2 rfl ?_
      refine g_iadd dX8_moves_64 ?_
      obtain ⟨e55, K⟩ := K
      obtain ⟨q53, C54, K⟩ := K
      refine g_callV (M' := mX8_putCar) (b := a0) (As := [.int x1, .int 0, .int (r52 + x2)]) (rest := []) (rc' := rc) (rs' := rs) dX8_moves_65 bw_1190 bw_1192 bs_37 bw_9 bw_1193 ⟨by decide +kernel, by decide +kernel, show (parseMethodDescriptor mX8_putCar.1.desc).map (fun d => d.parameters.length) = some 3 by decide +kernel⟩ (by decide) (by decide) (Nat.le_of_ble_eq_true rfl) fc_8 (by decide) rfl e55 C54 (Nat.le_of_eq (Nat.add_zero _)) (Nat.le_of_eq (Nat.add_zero _)) (fun _ _ h => h) ?_
      rintro _ h56 ⟨rfl, K1⟩ -
      replace K := K h56 K1
      show Gm l x mX8_moves 3 68 [(0, .ref a0), (1, .int x1), (2, .int x2), (3, .float (FP.i2f r9)), (4, .float (FP.fmul 1050253722 (FP.i2f r9)))] [] h56 rc rs n0 Q X
      exact g_vret dX8_moves_68 rfl K
    · replace K := K.2 c42
      refine g_ldcwf (v := 1060320051) dX8_moves_36 bw_1558 ?_
      refine g_fload dX8_moves_39 4 rfl ?_
      obtain ⟨e57, K⟩ := K
      refine g_fadd dX8_moves_41 e57 ?_
      refine g_goto (tgt := 51) dX8_moves_42 (by decide) ?_
      obtain ⟨e60, K⟩ := K
      obtain ⟨q58, C59, K⟩ := K
      refine g_callV (M' := mX8_works) (b := a0) (As := [.int x1, .float (FP.fadd 1060320051 (FP.fmul 1050253722 (FP.i2f r9)))]) (rest := []) (rc' := rc) (rs' := rs) dX8_moves_51 bw_1531 bw_1533 bs_80 bw_9 bw_1534 ⟨by decide +kernel, by decide +kernel, show (parseMethodDescriptor mX8_works.1.desc).map (fun d => d.parameters.length) = some 2 by decide +kernel⟩ (by decide) (by decide) (Nat.le_of_ble_eq_true rfl) fc_8 (by decide) rfl e60 C59 (Nat.le_of_eq (Nat.add_zero _)) (Nat.le_of_eq (Nat.add_zero _)) (fun _ _ h => h) ?_
      rintro _ h61 ⟨rfl, K1⟩ -
      replace K := K h61 K1
      show Gm l x mX8_moves 3 54 [(0, .ref a0), (1, .int x1), (2, .int x2), (3, .float (FP.i2f r9)), (4, .float (FP.fmul 1050253722 (FP.i2f r9)))] [] h61 rc rs n0 Q X
      refine g_aload_n dX8_moves_54 rfl 0 rfl ?_
      refine g_iload_n dX8_moves_55 rfl 1 rfl ?_
      refine g_iconst (v := 0) dX8_moves_56 (by decide) ?_
      refine g_aload_n dX8_moves_57 rfl 0 rfl ?_
      refine g_iload_n dX8_moves_58 rfl 1 rfl ?_
      refine g_iconst (v := 0) dX8_moves_59 (by decide) ?_
      obtain ⟨e64, K⟩ := K
      obtain ⟨q62, C63, K⟩ := K
      refine g_callV (M' := mX8_carOf) (b := a0) (As := [.int x1, .int 0]) (rest := [.int 0, .int x1, .ref a0]) (rc' := rc) (rs' := rs) dX8_moves_60 bw_1476 bw_1478 bs_67 bw_9 bw_1479 ⟨by decide +kernel, by decide +kernel, show (parseMethodDescriptor mX8_carOf.1.desc).map (fun d => d.parameters.length) = some 2 by decide +kernel⟩ (by decide) (by decide) (Nat.le_of_ble_eq_true rfl) fc_8 (by decide) rfl e64 C63 (Nat.le_of_eq (Nat.add_zero _)) (Nat.le_of_eq (Nat.add_zero _)) (fun _ _ h => h) ?_
      rintro _ h65 ⟨r66, rfl, K1⟩ -
      replace K := K r66 h65 K1
      show Gm l x mX8_moves 3 63 [(0, .ref a0), (1, .int x1), (2, .int x2), (3, .float (FP.i2f r9)), (4, .float (FP.fmul 1050253722 (FP.i2f r9)))] [.int r66, .int 0, .int x1, .ref a0] h65 rc rs n0 Q X
      refine g_iload_n dX8_moves_63 rfl 2 rfl ?_
      refine g_iadd dX8_moves_64 ?_
      obtain ⟨e69, K⟩ := K
      obtain ⟨q67, C68, K⟩ := K
      refine g_callV (M' := mX8_putCar) (b := a0) (As := [.int x1, .int 0, .int (r66 + x2)]) (rest := []) (rc' := rc) (rs' := rs) dX8_moves_65 bw_1190 bw_1192 bs_37 bw_9 bw_1193 ⟨by decide +kernel, by decide +kernel, show (parseMethodDescriptor mX8_putCar.1.desc).map (fun d => d.parameters.length) = some 3 by decide +kernel⟩ (by decide) (by decide) (Nat.le_of_ble_eq_true rfl) fc_8 (by decide) rfl e69 C68 (Nat.le_of_eq (Nat.add_zero _)) (Nat.le_of_eq (Nat.add_zero _)) (fun _ _ h => h) ?_
      rintro _ h70 ⟨rfl, K1⟩ -
      replace K := K h70 K1
      show Gm l x mX8_moves 3 68 [(0, .ref a0), (1, .int x1), (2, .int x2), (3, .float (FP.i2f r9)), (4, .float (FP.fmul 1050253722 (FP.i2f r9)))] [] h70 rc rs n0 Q X
      exact g_vret dX8_moves_68 rfl K
theorem dX8_calls_0 : decode cX8_calls 0 = .ok (.iconst 0, 1) := by decide +kernel
theorem dX8_calls_1 : decode cX8_calls 1 = .ok (.istore_n 1, 1) := by decide +kernel
theorem dX8_calls_2 : decode cX8_calls 2 = .ok (.iconst 0, 1) := by decide +kernel
theorem dX8_calls_3 : decode cX8_calls 3 = .ok (.istore_n 2, 1) := by decide +kernel
theorem dX8_calls_4 : decode cX8_calls 4 = .ok (.iload_n 2, 1) := by decide +kernel
theorem dX8_calls_5 : decode cX8_calls 5 = .ok (.aload_n 0, 1) := by decide +kernel
theorem dX8_calls_6 : decode cX8_calls 6 = .ok (.getfield 36, 3) := by decide +kernel
theorem dX8_calls_9 : decode cX8_calls 9 = .ok (.iconst 0, 1) := by decide +kernel
theorem dX8_calls_10 : decode cX8_calls 10 = .ok (.iaload, 1) := by decide +kernel
theorem dX8_calls_11 : decode cX8_calls 11 = .ok (.if_icmp .ge 53, 3) := by decide +kernel
theorem dX8_calls_14 : decode cX8_calls 14 = .ok (.iconst 0, 1) := by decide +kernel
theorem dX8_calls_15 : decode cX8_calls 15 = .ok (.istore_n 3, 1) := by decide +kernel
theorem dX8_calls_16 : decode cX8_calls 16 = .ok (.iload_n 3, 1) := by decide +kernel
theorem dX8_calls_17 : decode cX8_calls 17 = .ok (.iconst 4, 1) := by decide +kernel
theorem dX8_calls_18 : decode cX8_calls 18 = .ok (.if_icmp .ge 40, 3) := by decide +kernel
theorem dX8_calls_21 : decode cX8_calls 21 = .ok (.iload_n 1, 1) := by decide +kernel
theorem dX8_calls_22 : decode cX8_calls 22 = .ok (.aload_n 0, 1) := by decide +kernel
theorem dX8_calls_23 : decode cX8_calls 23 = .ok (.iload_n 2, 1) := by decide +kernel
theorem dX8_calls_24 : decode cX8_calls 24 = .ok (.iload_n 3, 1) := by decide +kernel
theorem dX8_calls_25 : decode cX8_calls 25 = .ok (.iconst 2, 1) := by decide +kernel
theorem dX8_calls_26 : decode cX8_calls 26 = .ok (.if_icmp .ge 7, 3) := by decide +kernel
theorem dX8_calls_29 : decode cX8_calls 29 = .ok (.iconst 1, 1) := by decide +kernel
theorem dX8_calls_30 : decode cX8_calls 30 = .ok (.goto 4, 3) := by decide +kernel
theorem dX8_calls_33 : decode cX8_calls 33 = .ok (.iconst (-1), 1) := by decide +kernel
theorem dX8_calls_34 : decode cX8_calls 34 = .ok (.iconst 1, 1) := by decide +kernel
theorem dX8_calls_35 : decode cX8_calls 35 = .ok (.iload_n 3, 1) := by decide +kernel
theorem dX8_calls_36 : decode cX8_calls 36 = .ok (.iconst 2, 1) := by decide +kernel
theorem dX8_calls_37 : decode cX8_calls 37 = .ok (.irem, 1) := by decide +kernel
theorem dX8_calls_38 : decode cX8_calls 38 = .ok (.iadd, 1) := by decide +kernel
theorem dX8_calls_39 : decode cX8_calls 39 = .ok (.invokevirtual 320, 3) := by decide +kernel
theorem dX8_calls_42 : decode cX8_calls 42 = .ok (.ifCond .eq 7, 3) := by decide +kernel
theorem dX8_calls_45 : decode cX8_calls 45 = .ok (.iconst 1, 1) := by decide +kernel
theorem dX8_calls_46 : decode cX8_calls 46 = .ok (.goto 4, 3) := by decide +kernel
theorem dX8_calls_49 : decode cX8_calls 49 = .ok (.iconst 0, 1) := by decide +kernel
theorem dX8_calls_50 : decode cX8_calls 50 = .ok (.iadd, 1) := by decide +kernel
theorem dX8_calls_51 : decode cX8_calls 51 = .ok (.istore_n 1, 1) := by decide +kernel
theorem dX8_calls_52 : decode cX8_calls 52 = .ok (.iinc 3 1, 3) := by decide +kernel
theorem dX8_calls_55 : decode cX8_calls 55 = .ok (.goto (-39), 3) := by decide +kernel
theorem dX8_calls_58 : decode cX8_calls 58 = .ok (.iinc 2 1, 3) := by decide +kernel
theorem dX8_calls_61 : decode cX8_calls 61 = .ok (.goto (-57), 3) := by decide +kernel
theorem dX8_calls_64 : decode cX8_calls 64 = .ok (.iload_n 1, 1) := by decide +kernel
theorem dX8_calls_65 : decode cX8_calls 65 = .ok (.ireturn, 1) := by decide +kernel
set_option maxRecDepth 20000 in
set_option maxHeartbeats 4000000 in
theorem vX8_calls_0 {l : Launch} {x : CX} {a0 : Nat} {h : PH} {rc rs n0 : Nat} {Q : Option Value → PH → Prop} {X : String → PH → Prop}
    (K : Gm l x mX8_calls 3 4 [(0, .ref a0), (1, .int 0), (2, .int 0)] [] h rc rs n0 Q X) :
    Gm l x mX8_calls 3 0 [(0, .ref a0)] [] h rc rs n0 Q X := by
  refine g_iconst (v := 0) dX8_calls_0 (by decide) ?_
  refine g_istore_n (lv' := [(0, .ref a0), (1, .int 0)]) dX8_calls_1 rfl (by decide) rfl ?_
  refine g_iconst (v := 0) dX8_calls_2 (by decide) ?_
  refine g_istore_n (lv' := [(0, .ref a0), (1, .int 0), (2, .int 0)]) dX8_calls_3 rfl (by decide) rfl ?_
  exact K
set_option maxRecDepth 20000 in
set_option maxHeartbeats 4000000 in
theorem vX8_calls_4 {l : Launch} {x : CX} {a0 : Nat} {x1 : Int32} {x2 : Int32} {h : PH} {rc rs n0 : Nat} {Q : Option Value → PH → Prop} {X : String → PH → Prop}
    (K : ((hK h a0).1 = 8) ∧ ∃ b2, (hR h a0 4 = some b2) ∧ ((hK h b2).1 = 100) ∧ (vp_in 0 (hK h b2).2) ∧ (((hI h b2 (Int32.toNatClampNeg 0)) ≤ x2 → Q (some (.int x1)) h) ∧ (¬ (hI h b2 (Int32.toNatClampNeg 0)) ≤ x2 → Gm l x mX8_calls 3 16 [(0, .ref a0), (1, .int x1), (2, .int x2), (3, .int 0)] [] h rc rs n0 Q X))) :
    Gm l x mX8_calls 3 4 [(0, .ref a0), (1, .int x1), (2, .int x2)] [] h rc rs n0 Q X := by
  refine g_iload_n dX8_calls_4 rfl 2 rfl ?_
  refine g_aload_n dX8_calls_5 rfl 0 rfl ?_
  obtain ⟨e1, b2, e3, K⟩ := K
  refine g_get (c := 8) (k := 4) (v := .ref b2) dX8_calls_6 fc_8 (by decide) (by decide) bw_1202 (congrArg pr e3) e1 ?_
  refine g_iconst (v := 0) dX8_calls_9 (by decide) ?_
  obtain ⟨e4, e5, K⟩ := K
  refine g_iald dX8_calls_10 e4 e5 ?_
  refine g_icmp_ge (tgt := 64) dX8_calls_11 (by decide) (fun c6 => ?_) (fun c6 => ?_)
  · replace K := K.1 c6
    refine g_iload_n dX8_calls_64 rfl 1 rfl ?_
    exact g_iret dX8_calls_65 rfl K
  · replace K := K.2 c6
    refine g_iconst (v := 0) dX8_calls_14 (by decide) ?_
    refine g_istore_n (lv' := [(0, .ref a0), (1, .int x1), (2, .int x2), (3, .int 0)]) dX8_calls_15 rfl (by decide) rfl ?_
    exact K
set_option maxRecDepth 20000 in
set_option maxHeartbeats 4000000 in
theorem vX8_calls_16 {l : Launch} {x : CX} {a0 : Nat} {x1 : Int32} {x2 : Int32} {x3 : Int32} {h : PH} {rc rs n0 : Nat} {Q : Option Value → PH → Prop} {X : String → PH → Prop}
    (K : ((4 ≤ x3 → Gm l x mX8_calls 3 4 [(0, .ref a0), (1, .int x1), (2, .int (x2 + 1))] [] h rc rs n0 Q X) ∧ (¬ 4 ≤ x3 → ((hK h a0).1 = 8) ∧ ∃ (q3 : Int32 → PH → Prop), CI l x mX8_isCall 2 0 0 [.ref a0, .int x2, .int (if 2 ≤ x3 then (-1) else 1 : Int32), .int (1 + (x3 - x3 / 2 * 2))] h q3 ∧ ∀ (r7 : Int32) (h6 : PH), q3 r7 h6 → Gm l x mX8_calls 3 16 [(0, .ref a0), (1, .int (x1 + (if r7 = 0 then 0 else 1 : Int32))), (2, .int x2), (3, .int (x3 + 1))] [] h6 rc rs n0 Q X))) :
    Gm l x mX8_calls 3 16 [(0, .ref a0), (1, .int x1), (2, .int x2), (3, .int x3)] [] h rc rs n0 Q X := by
  refine g_iload_n dX8_calls_16 rfl 3 rfl ?_
  refine g_iconst (v := 4) dX8_calls_17 (by decide) ?_
  refine g_icmp_ge (tgt := 58) dX8_calls_18 (by decide) (fun c1 => ?_) (fun c1 => ?_)
  · replace K := K.1 c1
    refine g_iinc (v := (x2 + 1)) (lv' := [(0, .ref a0), (1, .int x1), (2, .int (x2 + 1)), (3, .int x3)]) dX8_calls_58 2 rfl (by rfl) (by decide) rfl ?_
    refine g_goto (tgt := 4) dX8_calls_61 (by decide) ?_
    exact Gm.sub [0, 1, 2] rfl K
  · replace K := K.2 c1
    refine g_iload_n dX8_calls_21 rfl 1 rfl ?_
    refine g_aload_n dX8_calls_22 rfl 0 rfl ?_
    refine g_iload_n dX8_calls_23 rfl 2 rfl ?_
    refine g_iload_n dX8_calls_24 rfl 3 rfl ?_
    refine g_iconst (v := 2) dX8_calls_25 (by decide) ?_
    have KJ : Gm l x mX8_calls 3 34 [(0, .ref a0), (1, .int x1), (2, .int x2), (3, .int x3)] [.int (if 2 ≤ x3 then (-1) else 1 : Int32), .int x2, .ref a0, .int x1] h rc rs n0 Q X := by
      refine g_iconst (v := 1) dX8_calls_34 (by decide) ?_
      refine g_iload_n dX8_calls_35 rfl 3 rfl ?_
      refine g_iconst (v := 2) dX8_calls_36 (by decide) ?_
      refine g_irem dX8_calls_37 (by decide) ?_
      refine g_iadd dX8_calls_38 ?_
      obtain ⟨e5, K⟩ := K
      obtain ⟨q3, C4, K⟩ := K
      refine g_callV (M' := mX8_isCall) (b := a0) (As := [.int x2, .int (if 2 ≤ x3 then (-1) else 1 : Int32), .int (1 + (x3 - x3 / 2 * 2))]) (rest := [.int x1]) (rc' := rc) (rs' := rs) dX8_calls_39 bw_1421 bw_1423 bs_54 bw_9 bw_1424 ⟨by decide +kernel, by decide +kernel, show (parseMethodDescriptor mX8_isCall.1.desc).map (fun d => d.parameters.length) = some 3 by decide +kernel⟩ (by decide) (by decide) (Nat.le_of_ble_eq_true rfl) fc_8 (by decide) rfl e5 C4 (Nat.le_of_eq (Nat.add_zero _)) (Nat.le_of_eq (Nat.add_zero _)) (fun _ _ h => h) ?_
      rintro _ h6 ⟨r7, rfl, K1⟩ -
      replace K := K r7 h6 K1
      show Gm l x mX8_calls 3 42 [(0, .ref a0), (1, .int x1), (2, .int x2), (3, .int x3)] [.int r7, .int x1] h6 rc rs n0 Q X
      have KJ : Gm l x mX8_calls 3 50 [(0, .ref a0), (1, .int x1), (2, .int x2), (3, .int x3)] [.int (if r7 = 0 then 0 else 1 : Int32), .int x1] h6 rc rs n0 Q X := by
        refine g_iadd dX8_calls_50 ?_
        refine g_istore_n (lv' := [(0, .ref a0), (1, .int (x1 + (if r7 = 0 then 0 else 1 : Int32))), (2, .int x2), (3, .int x3)]) dX8_calls_51 rfl (by decide) rfl ?_
        refine g_iinc (v := (x3 + 1)) (lv' := [(0, .ref a0), (1, .int (x1 + (if r7 = 0 then 0 else 1 : Int32))), (2, .int x2), (3, .int (x3 + 1))]) dX8_calls_52 3 rfl (by rfl) (by decide) rfl ?_
        refine g_goto (tgt := 16) dX8_calls_55 (by decide) ?_
        exact K
      refine g_if_eq (tgt := 49) dX8_calls_42 (by decide) (fun c8 => ?_) (fun c8 => ?_)
      · refine g_iconst (v := 0) dX8_calls_49 (by decide) ?_
        first | (simp only [if_pos c8] at KJ; exact KJ) | (simp only [if_pos c8, ite_true, ite_false, eq_self] at KJ; exact KJ) | (simp only [if_pos c8] at KJ ⊢; exact KJ) | exact KJ
      · refine g_iconst (v := 1) dX8_calls_45 (by decide) ?_
        refine g_goto (tgt := 50) dX8_calls_46 (by decide) ?_
        first | (simp only [if_neg c8] at KJ; exact KJ) | (simp only [if_neg c8, ite_true, ite_false, eq_self] at KJ; exact KJ) | (simp only [if_neg c8] at KJ ⊢; exact KJ) | exact KJ
    refine g_icmp_ge (tgt := 33) dX8_calls_26 (by decide) (fun c2 => ?_) (fun c2 => ?_)
    · refine g_iconst (v := (-1)) dX8_calls_33 (by decide) ?_
      first | (simp only [if_pos c2] at KJ; exact KJ) | (simp only [if_pos c2, ite_true, ite_false, eq_self] at KJ; exact KJ) | (simp only [if_pos c2] at KJ ⊢; exact KJ) | exact KJ
    · refine g_iconst (v := 1) dX8_calls_29 (by decide) ?_
      refine g_goto (tgt := 34) dX8_calls_30 (by decide) ?_
      first | (simp only [if_neg c2] at KJ; exact KJ) | (simp only [if_neg c2, ite_true, ite_false, eq_self] at KJ; exact KJ) | (simp only [if_neg c2] at KJ ⊢; exact KJ) | exact KJ
theorem dX8_isQuiet_0 : decode cX8_isQuiet 0 = .ok (.aload_n 0, 1) := by decide +kernel
theorem dX8_isQuiet_1 : decode cX8_isQuiet 1 = .ok (.iconst 0, 1) := by decide +kernel
theorem dX8_isQuiet_2 : decode cX8_isQuiet 2 = .ok (.invokevirtual 344, 3) := by decide +kernel
theorem dX8_isQuiet_5 : decode cX8_isQuiet 5 = .ok (.aload_n 0, 1) := by decide +kernel
theorem dX8_isQuiet_6 : decode cX8_isQuiet 6 = .ok (.iconst 1, 1) := by decide +kernel
theorem dX8_isQuiet_7 : decode cX8_isQuiet 7 = .ok (.invokevirtual 344, 3) := by decide +kernel
theorem dX8_isQuiet_10 : decode cX8_isQuiet 10 = .ok (.iadd, 1) := by decide +kernel
theorem dX8_isQuiet_11 : decode cX8_isQuiet 11 = .ok (.aload_n 0, 1) := by decide +kernel
theorem dX8_isQuiet_12 : decode cX8_isQuiet 12 = .ok (.iconst 2, 1) := by decide +kernel
theorem dX8_isQuiet_13 : decode cX8_isQuiet 13 = .ok (.invokevirtual 344, 3) := by decide +kernel
theorem dX8_isQuiet_16 : decode cX8_isQuiet 16 = .ok (.iadd, 1) := by decide +kernel
theorem dX8_isQuiet_17 : decode cX8_isQuiet 17 = .ok (.ifCond .ne 7, 3) := by decide +kernel
theorem dX8_isQuiet_20 : decode cX8_isQuiet 20 = .ok (.iconst 1, 1) := by decide +kernel
theorem dX8_isQuiet_21 : decode cX8_isQuiet 21 = .ok (.goto 4, 3) := by decide +kernel
theorem dX8_isQuiet_24 : decode cX8_isQuiet 24 = .ok (.iconst 0, 1) := by decide +kernel
theorem dX8_isQuiet_25 : decode cX8_isQuiet 25 = .ok (.istore_n 1, 1) := by decide +kernel
theorem dX8_isQuiet_26 : decode cX8_isQuiet 26 = .ok (.iconst 0, 1) := by decide +kernel
theorem dX8_isQuiet_27 : decode cX8_isQuiet 27 = .ok (.istore_n 2, 1) := by decide +kernel
theorem dX8_isQuiet_28 : decode cX8_isQuiet 28 = .ok (.iload_n 2, 1) := by decide +kernel
theorem dX8_isQuiet_29 : decode cX8_isQuiet 29 = .ok (.aload_n 0, 1) := by decide +kernel
theorem dX8_isQuiet_30 : decode cX8_isQuiet 30 = .ok (.getfield 36, 3) := by decide +kernel
theorem dX8_isQuiet_33 : decode cX8_isQuiet 33 = .ok (.iconst 1, 1) := by decide +kernel
theorem dX8_isQuiet_34 : decode cX8_isQuiet 34 = .ok (.iaload, 1) := by decide +kernel
theorem dX8_isQuiet_35 : decode cX8_isQuiet 35 = .ok (.if_icmp .ge 51, 3) := by decide +kernel
theorem dX8_isQuiet_38 : decode cX8_isQuiet 38 = .ok (.iload_n 1, 1) := by decide +kernel
theorem dX8_isQuiet_39 : decode cX8_isQuiet 39 = .ok (.ifCond .eq 39, 3) := by decide +kernel
theorem dX8_isQuiet_42 : decode cX8_isQuiet 42 = .ok (.aload_n 0, 1) := by decide +kernel
theorem dX8_isQuiet_43 : decode cX8_isQuiet 43 = .ok (.iload_n 2, 1) := by decide +kernel
theorem dX8_isQuiet_44 : decode cX8_isQuiet 44 = .ok (.iconst 4, 1) := by decide +kernel
theorem dX8_isQuiet_45 : decode cX8_isQuiet 45 = .ok (.invokevirtual 238, 3) := by decide +kernel
theorem dX8_isQuiet_48 : decode cX8_isQuiet 48 = .ok (.ifCond .eq 26, 3) := by decide +kernel
theorem dX8_isQuiet_51 : decode cX8_isQuiet 51 = .ok (.aload_n 0, 1) := by decide +kernel
theorem dX8_isQuiet_52 : decode cX8_isQuiet 52 = .ok (.iload_n 2, 1) := by decide +kernel
theorem dX8_isQuiet_53 : decode cX8_isQuiet 53 = .ok (.iconst 2, 1) := by decide +kernel
theorem dX8_isQuiet_54 : decode cX8_isQuiet 54 = .ok (.invokevirtual 238, 3) := by decide +kernel
theorem dX8_isQuiet_57 : decode cX8_isQuiet 57 = .ok (.ifCond .ne 21, 3) := by decide +kernel
theorem dX8_isQuiet_60 : decode cX8_isQuiet 60 = .ok (.aload_n 0, 1) := by decide +kernel
theorem dX8_isQuiet_61 : decode cX8_isQuiet 61 = .ok (.iload_n 2, 1) := by decide +kernel
theorem dX8_isQuiet_62 : decode cX8_isQuiet 62 = .ok (.iconst 0, 1) := by decide +kernel
theorem dX8_isQuiet_63 : decode cX8_isQuiet 63 = .ok (.invokevirtual 238, 3) := by decide +kernel
theorem dX8_isQuiet_66 : decode cX8_isQuiet 66 = .ok (.aload_n 0, 1) := by decide +kernel
theorem dX8_isQuiet_67 : decode cX8_isQuiet 67 = .ok (.iload_n 2, 1) := by decide +kernel
theorem dX8_isQuiet_68 : decode cX8_isQuiet 68 = .ok (.invokevirtual 295, 3) := by decide +kernel
theorem dX8_isQuiet_71 : decode cX8_isQuiet 71 = .ok (.if_icmp .ne 7, 3) := by decide +kernel
theorem dX8_isQuiet_74 : decode cX8_isQuiet 74 = .ok (.iconst 1, 1) := by decide +kernel
theorem dX8_isQuiet_75 : decode cX8_isQuiet 75 = .ok (.goto 4, 3) := by decide +kernel
theorem dX8_isQuiet_78 : decode cX8_isQuiet 78 = .ok (.iconst 0, 1) := by decide +kernel
theorem dX8_isQuiet_79 : decode cX8_isQuiet 79 = .ok (.istore_n 1, 1) := by decide +kernel
theorem dX8_isQuiet_80 : decode cX8_isQuiet 80 = .ok (.iinc 2 1, 3) := by decide +kernel
theorem dX8_isQuiet_83 : decode cX8_isQuiet 83 = .ok (.goto (-55), 3) := by decide +kernel
theorem dX8_isQuiet_86 : decode cX8_isQuiet 86 = .ok (.iload_n 1, 1) := by decide +kernel
theorem dX8_isQuiet_87 : decode cX8_isQuiet 87 = .ok (.ireturn, 1) := by decide +kernel
set_option maxRecDepth 20000 in
set_option maxHeartbeats 4000000 in
theorem vX8_isQuiet_0 {l : Launch} {x : CX} {a0 : Nat} {h : PH} {rc rs n0 : Nat} {Q : Option Value → PH → Prop} {X : String → PH → Prop}
    (K : ((hK h a0).1 = 8) ∧ ∃ (q1 : Int32 → PH → Prop), CI l x mX8_many 1 0 0 [.ref a0, .int 0] h q1 ∧ ∀ (r5 : Int32) (h4 : PH), q1 r5 h4 → ((hK h4 a0).1 = 8) ∧ ∃ (q6 : Int32 → PH → Prop), CI l x mX8_many 1 0 0 [.ref a0, .int 1] h4 q6 ∧ ∀ (r10 : Int32) (h9 : PH), q6 r10 h9 → ((hK h9 a0).1 = 8) ∧ ∃ (q11 : Int32 → PH → Prop), CI l x mX8_many 1 0 0 [.ref a0, .int 2] h9 q11 ∧ ∀ (r15 : Int32) (h14 : PH), q11 r15 h14 → Gm l x mX8_isQuiet 3 28 [(0, .ref a0), (1, .int (if ((r5 + r10) + r15) = 0 then 1 else 0 : Int32)), (2, .int 0)] [] h14 rc rs n0 Q X) :
    Gm l x mX8_isQuiet 3 0 [(0, .ref a0)] [] h rc rs n0 Q X := by
  refine g_aload_n dX8_isQuiet_0 rfl 0 rfl ?_
  refine g_iconst (v := 0) dX8_isQuiet_1 (by decide) ?_
  obtain ⟨e3, K⟩ := K
  obtain ⟨q1, C2, K⟩ := K
  refine g_callV (M' := mX8_many) (b := a0) (As := [.int 0]) (rest := []) (rc' := rc) (rs' := rs) dX8_isQuiet_2 bw_1409 bw_1411 bs_51 bw_9 bw_1412 ⟨by decide +kernel, by decide +kernel, show (parseMethodDescriptor mX8_many.1.desc).map (fun d => d.parameters.length) = some 1 by decide +kernel⟩ (by decide) (by decide) (Nat.le_of_ble_eq_true rfl) fc_8 (by decide) rfl e3 C2 (Nat.le_of_eq (Nat.add_zero _)) (Nat.le_of_eq (Nat.add_zero _)) (fun _ _ h => h) ?_
  rintro _ h4 ⟨r5, rfl, K1⟩ -
  replace K := K r5 h4 K1
  show Gm l x mX8_isQuiet 3 5 [(0, .ref a0)] [.int r5] h4 rc rs n0 Q X
  refine g_aload_n dX8_isQuiet_5 rfl 0 rfl ?_
  refine g_iconst (v := 1) dX8_isQuiet_6 (by decide) ?_
  obtain ⟨e8, K⟩ := K
  obtain ⟨q6, C7, K⟩ := K
  refine g_callV (M' := mX8_many) (b := a0) (As := [.int 1]) (rest := [.int r5]) (rc' := rc) (rs' := rs) dX8_isQuiet_7 bw_1409 bw_1411 bs_51 bw_9 bw_1412 ⟨by decide +kernel, by decide +kernel, show (parseMethodDescriptor mX8_many.1.desc).map (fun d => d.parameters.length) = some 1 by decide +kernel⟩ (by decide) (by decide) (Nat.le_of_ble_eq_true rfl) fc_8 (by decide) rfl e8 C7 (Nat.le_of_eq (Nat.add_zero _)) (Nat.le_of_eq (Nat.add_zero _)) (fun _ _ h => h) ?_
  rintro _ h9 ⟨r10, rfl, K1⟩ -
  replace K := K r10 h9 K1
  show Gm l x mX8_isQuiet 3 10 [(0, .ref a0)] [.int r10, .int r5] h9 rc rs n0 Q X
  refine g_iadd dX8_isQuiet_10 ?_
  refine g_aload_n dX8_isQuiet_11 rfl 0 rfl ?_
  refine g_iconst (v := 2) dX8_isQuiet_12 (by decide) ?_
  obtain ⟨e13, K⟩ := K
  obtain ⟨q11, C12, K⟩ := K
  refine g_callV (M' := mX8_many) (b := a0) (As := [.int 2]) (rest := [.int (r5 + r10)]) (rc' := rc) (rs' := rs) dX8_isQuiet_13 bw_1409 bw_1411 bs_51 bw_9 bw_1412 ⟨by decide +kernel, by decide +kernel, show (parseMethodDescriptor mX8_many.1.desc).map (fun d => d.parameters.length) = some 1 by decide +kernel⟩ (by decide) (by decide) (Nat.le_of_ble_eq_true rfl) fc_8 (by decide) rfl e13 C12 (Nat.le_of_eq (Nat.add_zero _)) (Nat.le_of_eq (Nat.add_zero _)) (fun _ _ h => h) ?_
  rintro _ h14 ⟨r15, rfl, K1⟩ -
  replace K := K r15 h14 K1
  show Gm l x mX8_isQuiet 3 16 [(0, .ref a0)] [.int r15, .int (r5 + r10)] h14 rc rs n0 Q X
  refine g_iadd dX8_isQuiet_16 ?_
  have KJ : Gm l x mX8_isQuiet 3 25 [(0, .ref a0)] [.int (if ((r5 + r10) + r15) = 0 then 1 else 0 : Int32)] h14 rc rs n0 Q X := by
    refine g_istore_n (lv' := [(0, .ref a0), (1, .int (if ((r5 + r10) + r15) = 0 then 1 else 0 : Int32))]) dX8_isQuiet_25 rfl (by decide) rfl ?_
    refine g_iconst (v := 0) dX8_isQuiet_26 (by decide) ?_
    refine g_istore_n (lv' := [(0, .ref a0), (1, .int (if ((r5 + r10) + r15) = 0 then 1 else 0 : Int32)), (2, .int 0)]) dX8_isQuiet_27 rfl (by decide) rfl ?_
    exact K
  refine g_if_ne (tgt := 24) dX8_isQuiet_17 (by decide) (fun c16 => ?_) (fun c16 => ?_)
  · refine g_iconst (v := 0) dX8_isQuiet_24 (by decide) ?_
    first | (simp only [if_neg c16] at KJ; exact KJ) | (simp only [if_neg c16, ite_true, ite_false, eq_self] at KJ; exact KJ) | (simp only [if_neg c16] at KJ ⊢; exact KJ) | exact KJ
  · refine g_iconst (v := 1) dX8_isQuiet_20 (by decide) ?_
    refine g_goto (tgt := 25) dX8_isQuiet_21 (by decide) ?_
    first | (simp only [if_pos c16] at KJ; exact KJ) | (simp only [if_pos c16, ite_true, ite_false, eq_self] at KJ; exact KJ) | (simp only [if_pos c16] at KJ ⊢; exact KJ) | exact KJ
set_option maxRecDepth 20000 in
set_option maxHeartbeats 4000000 in
theorem vX8_isQuiet_28 {l : Launch} {x : CX} {a0 : Nat} {x1 : Int32} {x2 : Int32} {h : PH} {rc rs n0 : Nat} {Q : Option Value → PH → Prop} {X : String → PH → Prop}
    (K : ((hK h a0).1 = 8) ∧ ∃ b2, (hR h a0 4 = some b2) ∧ ((hK h b2).1 = 100) ∧ (vp_in 1 (hK h b2).2) ∧ (((hI h b2 (Int32.toNatClampNeg 1)) ≤ x2 → ((x1 : Int32) = 0 ∨ (x1 : Int32) = 1) ∧ Q (some (.int x1)) h) ∧ (¬ (hI h b2 (Int32.toNatClampNeg 1)) ≤ x2 → ((x1 = 0 → Gm l x mX8_isQuiet 3 28 [(0, .ref a0), (1, .int 0), (2, .int (x2 + 1))] [] h rc rs n0 Q X) ∧ (¬ x1 = 0 → ∃ (q8 : Int32 → PH → Prop), CI l x mX8_carOf 0 0 0 [.ref a0, .int x2, .int 4] h q8 ∧ ∀ (r11 : Int32) (h10 : PH), q8 r11 h10 → ((r11 = 0 → Gm l x mX8_isQuiet 3 28 [(0, .ref a0), (1, .int 1), (2, .int (x2 + 1))] [] h10 rc rs n0 Q X) ∧ (¬ r11 = 0 → ((hK h10 a0).1 = 8) ∧ ∃ (q13 : Int32 → PH → Prop), CI l x mX8_carOf 0 0 0 [.ref a0, .int x2, .int 2] h10 q13 ∧ ∀ (r17 : Int32) (h16 : PH), q13 r17 h16 → ((¬ r17 = 0 → Gm l x mX8_isQuiet 3 28 [(0, .ref a0), (1, .int 0), (2, .int (x2 + 1))] [] h16 rc rs n0 Q X) ∧ (r17 = 0 → ((hK h16 a0).1 = 8) ∧ ∃ (q19 : Int32 → PH → Prop), CI l x mX8_carOf 0 0 0 [.ref a0, .int x2, .int 0] h16 q19 ∧ ∀ (r23 : Int32) (h22 : PH), q19 r23 h22 → ((hK h22 a0).1 = 8) ∧ ∃ (q24 : Int32 → PH → Prop), CI l x mX8_parks 2 0 0 [.ref a0, .int x2] h22 q24 ∧ ∀ (r28 : Int32) (h27 : PH), q24 r28 h27 → Gm l x mX8_isQuiet 3 28 [(0, .ref a0), (1, .int (if r23 = r28 then 1 else 0 : Int32)), (2, .int (x2 + 1))] [] h27 rc rs n0 Q X))))))))) :
    Gm l x mX8_isQuiet 3 28 [(0, .ref a0), (1, .int x1), (2, .int x2)] [] h rc rs n0 Q X := by
  refine g_iload_n dX8_isQuiet_28 rfl 2 rfl ?_
  refine g_aload_n dX8_isQuiet_29 rfl 0 rfl ?_
  obtain ⟨e1, b2, e3, K⟩ := K
  refine g_get (c := 8) (k := 4) (v := .ref b2) dX8_isQuiet_30 fc_8 (by decide) (by decide) bw_1202 (congrArg pr e3) e1 ?_
  refine g_iconst (v := 1) dX8_isQuiet_33 (by decide) ?_
  obtain ⟨e4, e5, K⟩ := K
  refine g_iald dX8_isQuiet_34 e4 e5 ?_
  refine g_icmp_ge (tgt := 86) dX8_isQuiet_35 (by decide) (fun c6 => ?_) (fun c6 => ?_)
  · replace K := K.1 c6
    refine g_iload_n dX8_isQuiet_86 rfl 1 rfl ?_
    exact g_zret dX8_isQuiet_87 rfl K.1 K.2
  · replace K := K.2 c6
    refine g_iload_n dX8_isQuiet_38 rfl 1 rfl ?_
    refine g_if_eq (tgt := 78) dX8_isQuiet_39 (by decide) (fun c7 => ?_) (fun c7 => ?_)
    · replace K := K.1 c7
      refine g_iconst (v := 0) dX8_isQuiet_78 (by decide) ?_
      refine g_istore_n (lv' := [(0, .ref a0), (1, .int 0), (2, .int x2)]) dX8_isQuiet_79 rfl (by decide) rfl ?_
      refine g_iinc (v := (x2 + 1)) (lv' := [(0, .ref a0), (1, .int 0), (2, .int (x2 + 1))]) dX8_isQuiet_80 2 rfl (by rfl) (by decide) rfl ?_
      refine g_goto (tgt := 28) dX8_isQuiet_83 (by decide) ?_
      exact K
    · replace K := K.2 c7
      refine g_aload_n dX8_isQuiet_42 rfl 0 rfl ?_
      refine g_iload_n dX8_isQuiet_43 rfl 2 rfl ?_
      refine g_iconst (v := 4) dX8_isQuiet_44 (by decide) ?_
      obtain ⟨q8, C9, K⟩ := K
      refine g_callV (M' := mX8_carOf) (b := a0) (As := [.int x2, .int 4]) (rest := []) (rc' := rc) (rs' := rs) dX8_isQuiet_45 bw_1476 bw_1478 bs_67 bw_9 bw_1479 ⟨by decide +kernel, by decide +kernel, show (parseMethodDescriptor mX8_carOf.1.desc).map (fun d => d.parameters.length) = some 2 by decide +kernel⟩ (by decide) (by decide) (Nat.le_of_ble_eq_true rfl) fc_8 (by decide) rfl e1 C9 (Nat.le_of_eq (Nat.add_zero _)) (Nat.le_of_eq (Nat.add_zero _)) (fun _ _ h => h) ?_
      rintro _ h10 ⟨r11, rfl, K1⟩ -
      replace K := K r11 h10 K1
      show Gm l x mX8_isQuiet 3 48 [(0, .ref a0), (1, .int x1), (2, .int x2)] [.int r11] h10 rc rs n0 Q X
      refine g_if_eq (tgt := 74) dX8_isQuiet_48 (by decide) (fun c12 => ?_) (fun c12 => ?_)
      · replace K := K.1 c12
        refine g_iconst (v := 1) dX8_isQuiet_74 (by decide) ?_
        refine g_goto (tgt := 79) dX8_isQuiet_75 (by decide) ?_
        refine g_istore_n (lv' := [(0, .ref a0), (1, .int 1), (2, .int x2)]) dX8_isQuiet_79 rfl (by decide) rfl ?_
        refine g_iinc (v := (x2 + 1)) (lv' := [(0, .ref a0), (1, .int 1), (2, .int (x2 + 1))]) dX8_isQuiet_80 2 rfl (by rfl) (by decide) rfl ?_
        refine g_goto (tgt := 28) dX8_isQuiet_83 (by decide) ?_
        exact K
      · replace K := K.2 c12
        refine g_aload_n dX8_isQuiet_51 rfl 0 rfl ?_
        refine g_iload_n dX8_isQuiet_52 rfl 2 rfl ?_
        refine g_iconst (v := 2) dX8_isQuiet_53 (by decide) ?_
        obtain ⟨e15, K⟩ := K
        obtain ⟨q13, C14, K⟩ := K
        refine g_callV (M' := mX8_carOf) (b := a0) (As := [.int x2, .int 2]) (rest := []) (rc' := rc) (rs' := rs) dX8_isQuiet_54 bw_1476 bw_1478 bs_67 bw_9 bw_1479 ⟨by decide +kernel, by decide +kernel, show (parseMethodDescriptor mX8_carOf.1.desc).map (fun d => d.parameters.length) = some 2 by decide +kernel⟩ (by decide) (by decide) (Nat.le_of_ble_eq_true rfl) fc_8 (by decide) rfl e15 C14 (Nat.le_of_eq (Nat.add_zero _)) (Nat.le_of_eq (Nat.add_zero _)) (fun _ _ h => h) ?_
        rintro _ h16 ⟨r17, rfl, K1⟩ -
        replace K := K r17 h16 K1
        show Gm l x mX8_isQuiet 3 57 [(0, .ref a0), (1, .int x1), (2, .int x2)] [.int r17] h16 rc rs n0 Q X
        refine g_if_ne (tgt := 78) dX8_isQuiet_57 (by decide) (fun c18 => ?_) (fun c18 => ?_)
        · replace K := K.1 c18
          refine g_iconst (v := 0) dX8_isQuiet_78 (by decide) ?_
          refine g_istore_n (lv' := [(0, .ref a0), (1, .int 0), (2, .int x2)]) dX8_isQuiet_79 rfl (by decide) rfl ?_
          refine g_iinc (v := (x2 + 1)) (lv' := [(0, .ref a0), (1, .int 0), (2, .int (x2 + 1))]) dX8_isQuiet_80 2 rfl (by rfl) (by decide) rfl ?_
          refine g_goto (tgt := 28) dX8_isQuiet_83 (by decide) ?_
          exact K
        · replace K := K.2 c18
          refine g_aload_n dX8_isQuiet_60 rfl 0 rfl ?_
          refine g_iload_n dX8_isQuiet_61 rfl 2 rfl ?_
          refine g_iconst (v := 0) dX8_isQuiet_62 (by decide) ?_
          obtain ⟨e21, K⟩ := K
          obtain ⟨q19, C20, K⟩ := K
          refine g_callV (M' := mX8_carOf) (b := a0) (As := [.int x2, .int 0]) (rest := []) (rc' := rc) (rs' := rs) dX8_isQuiet_63 bw_1476 bw_1478 bs_67 bw_9 bw_1479 ⟨by decide +kernel, by decide +kernel, show (parseMethodDescriptor mX8_carOf.1.desc).map (fun d => d.parameters.length) = some 2 by decide +kernel⟩ (by decide) (by decide) (Nat.le_of_ble_eq_true rfl) fc_8 (by decide) rfl e21 C20 (Nat.le_of_eq (Nat.add_zero _)) (Nat.le_of_eq (Nat.add_zero _)) (fun _ _ h => h) ?_
          rintro _ h22 ⟨r23, rfl, K1⟩ -
          replace K := K r23 h22 K1
          show Gm l x mX8_isQuiet 3 66 [(0, .ref a0), (1, .int x1), (2, .int x2)] [.int r23] h22 rc rs n0 Q X
          refine g_aload_n dX8_isQuiet_66 rfl 0 rfl ?_
          refine g_iload_n dX8_isQuiet_67 rfl 2 rfl ?_
          obtain ⟨e26, K⟩ := K
          obtain ⟨q24, C25, K⟩ := K
          refine g_callV (M' := mX8_parks) (b := a0) (As := [.int x2]) (rest := [.int r23]) (rc' := rc) (rs' := rs) dX8_isQuiet_68 bw_1560 bw_1562 bs_83 bw_9 bw_1563 ⟨by decide +kernel, by decide +kernel, show (parseMethodDescriptor mX8_parks.1.desc).map (fun d => d.parameters.length) = some 1 by decide +kernel⟩ (by decide) (by decide) (Nat.le_of_ble_eq_true rfl) fc_8 (by decide) rfl e26 C25 (Nat.le_of_eq (Nat.add_zero _)) (Nat.le_of_eq (Nat.add_zero _)) (fun _ _ h => h) ?_
          rintro _ h27 ⟨r28, rfl, K1⟩ -
          replace K := K r28 h27 K1
          show Gm l x mX8_isQuiet 3 71 [(0, .ref a0), (1, .int x1), (2, .int x2)] [.int r28, .int r23] h27 rc rs n0 Q X
          have KJ : Gm l x mX8_isQuiet 3 79 [(0, .ref a0), (1, .int x1), (2, .int x2)] [.int (if r23 = r28 then 1 else 0 : Int32)] h27 rc rs n0 Q X := by
            refine g_istore_n (lv' := [(0, .ref a0), (1, .int (if r23 = r28 then 1 else 0 : Int32)), (2, .int x2)]) dX8_isQuiet_79 rfl (by decide) rfl ?_
            refine g_iinc (v := (x2 + 1)) (lv' := [(0, .ref a0), (1, .int (if r23 = r28 then 1 else 0 : Int32)), (2, .int (x2 + 1))]) dX8_isQuiet_80 2 rfl (by rfl) (by decide) rfl ?_
            refine g_goto (tgt := 28) dX8_isQuiet_83 (by decide) ?_
            exact K
          refine g_icmp_ne (tgt := 78) dX8_isQuiet_71 (by decide) (fun c29 => ?_) (fun c29 => ?_)
          · refine g_iconst (v := 0) dX8_isQuiet_78 (by decide) ?_
            first | (simp only [if_neg c29] at KJ; exact KJ) | (simp only [if_neg c29, ite_true, ite_false, eq_self] at KJ; exact KJ) | (simp only [if_neg c29] at KJ ⊢; exact KJ) | exact KJ
          · refine g_iconst (v := 1) dX8_isQuiet_74 (by decide) ?_
            refine g_goto (tgt := 79) dX8_isQuiet_75 (by decide) ?_
            first | (simp only [if_pos c29] at KJ; exact KJ) | (simp only [if_pos c29, ite_true, ite_false, eq_self] at KJ; exact KJ) | (simp only [if_pos c29] at KJ ⊢; exact KJ) | exact KJ
theorem dX8_car_0 : decode cX8_car 0 = .ok (.aload_n 0, 1) := by decide +kernel
theorem dX8_car_1 : decode cX8_car 1 = .ok (.iconst 0, 1) := by decide +kernel
theorem dX8_car_2 : decode cX8_car 2 = .ok (.putfield 104, 3) := by decide +kernel
theorem dX8_car_5 : decode cX8_car 5 = .ok (.aload_n 0, 1) := by decide +kernel
theorem dX8_car_6 : decode cX8_car 6 = .ok (.iload_n 1, 1) := by decide +kernel
theorem dX8_car_7 : decode cX8_car 7 = .ok (.invokevirtual 393, 3) := by decide +kernel
theorem dX8_car_10 : decode cX8_car 10 = .ok (.ifCond .ne 9, 3) := by decide +kernel
theorem dX8_car_13 : decode cX8_car 13 = .ok (.aload_n 0, 1) := by decide +kernel
theorem dX8_car_14 : decode cX8_car 14 = .ok (.iconst 1, 1) := by decide +kernel
theorem dX8_car_15 : decode cX8_car 15 = .ok (.invokevirtual 198, 3) := by decide +kernel
theorem dX8_car_18 : decode cX8_car 18 = .ok (.ireturn, 1) := by decide +kernel
theorem dX8_car_19 : decode cX8_car 19 = .ok (.iload_n 2, 1) := by decide +kernel
theorem dX8_car_20 : decode cX8_car 20 = .ok (.tableswitch 105 0 9 #[56, 67, 75, 83, 83, 83, 83, 83, 92, 98], 56) := by decide +kernel
theorem dX8_car_76 : decode cX8_car 76 = .ok (.aload_n 0, 1) := by decide +kernel
theorem dX8_car_77 : decode cX8_car 77 = .ok (.getfield 42, 3) := by decide +kernel
theorem dX8_car_80 : decode cX8_car 80 = .ok (.iconst 3, 1) := by decide +kernel
theorem dX8_car_81 : decode cX8_car 81 = .ok (.iload_n 1, 1) := by decide +kernel
theorem dX8_car_82 : decode cX8_car 82 = .ok (.imul, 1) := by decide +kernel
theorem dX8_car_83 : decode cX8_car 83 = .ok (.iconst 2, 1) := by decide +kernel
theorem dX8_car_84 : decode cX8_car 84 = .ok (.iadd, 1) := by decide +kernel
theorem dX8_car_85 : decode cX8_car 85 = .ok (.iaload, 1) := by decide +kernel
theorem dX8_car_86 : decode cX8_car 86 = .ok (.ireturn, 1) := by decide +kernel
theorem dX8_car_87 : decode cX8_car 87 = .ok (.aload_n 0, 1) := by decide +kernel
theorem dX8_car_88 : decode cX8_car 88 = .ok (.iload_n 1, 1) := by decide +kernel
theorem dX8_car_89 : decode cX8_car 89 = .ok (.bipush 7, 2) := by decide +kernel
theorem dX8_car_91 : decode cX8_car 91 = .ok (.invokevirtual 238, 3) := by decide +kernel
theorem dX8_car_94 : decode cX8_car 94 = .ok (.ireturn, 1) := by decide +kernel
theorem dX8_car_95 : decode cX8_car 95 = .ok (.aload_n 0, 1) := by decide +kernel
theorem dX8_car_96 : decode cX8_car 96 = .ok (.iload_n 1, 1) := by decide +kernel
theorem dX8_car_97 : decode cX8_car 97 = .ok (.bipush 6, 2) := by decide +kernel
theorem dX8_car_99 : decode cX8_car 99 = .ok (.invokevirtual 238, 3) := by decide +kernel
theorem dX8_car_102 : decode cX8_car 102 = .ok (.ireturn, 1) := by decide +kernel
theorem dX8_car_103 : decode cX8_car 103 = .ok (.aload_n 0, 1) := by decide +kernel
theorem dX8_car_104 : decode cX8_car 104 = .ok (.iload_n 1, 1) := by decide +kernel
theorem dX8_car_105 : decode cX8_car 105 = .ok (.iload_n 2, 1) := by decide +kernel
theorem dX8_car_106 : decode cX8_car 106 = .ok (.iconst 3, 1) := by decide +kernel
theorem dX8_car_107 : decode cX8_car 107 = .ok (.isub, 1) := by decide +kernel
theorem dX8_car_108 : decode cX8_car 108 = .ok (.invokevirtual 238, 3) := by decide +kernel
theorem dX8_car_111 : decode cX8_car 111 = .ok (.ireturn, 1) := by decide +kernel
theorem dX8_car_112 : decode cX8_car 112 = .ok (.aload_n 0, 1) := by decide +kernel
theorem dX8_car_113 : decode cX8_car 113 = .ok (.iload_n 1, 1) := by decide +kernel
theorem dX8_car_114 : decode cX8_car 114 = .ok (.invokevirtual 253, 3) := by decide +kernel
theorem dX8_car_117 : decode cX8_car 117 = .ok (.ireturn, 1) := by decide +kernel
theorem dX8_car_118 : decode cX8_car 118 = .ok (.aload_n 0, 1) := by decide +kernel
theorem dX8_car_119 : decode cX8_car 119 = .ok (.iload_n 1, 1) := by decide +kernel
theorem dX8_car_120 : decode cX8_car 120 = .ok (.iconst 5, 1) := by decide +kernel
theorem dX8_car_121 : decode cX8_car 121 = .ok (.invokevirtual 238, 3) := by decide +kernel
theorem dX8_car_124 : decode cX8_car 124 = .ok (.ireturn, 1) := by decide +kernel
theorem dX8_car_125 : decode cX8_car 125 = .ok (.aload_n 0, 1) := by decide +kernel
theorem dX8_car_126 : decode cX8_car 126 = .ok (.iconst 1, 1) := by decide +kernel
theorem dX8_car_127 : decode cX8_car 127 = .ok (.invokevirtual 198, 3) := by decide +kernel
theorem dX8_car_130 : decode cX8_car 130 = .ok (.ireturn, 1) := by decide +kernel
set_option maxRecDepth 20000 in
set_option maxHeartbeats 4000000 in
theorem vX8_car_0 {l : Launch} {x : CX} {a0 : Nat} {x1 : Int32} {x2 : Int32} {h : PH} {rc rs n0 : Nat} {Q : Option Value → PH → Prop} {X : String → PH → Prop}
    (K : ((hK h a0).1 = 8) ∧ ∃ (q2 : Int32 → PH → Prop), CI l x mX8_isCar 1 0 0 [.ref a0, .int x1] (sI h a0 1 0) q2 ∧ ∀ (r5 : Int32) (h4 : PH), q2 r5 h4 → ((¬ r5 = 0 → ((x2.toInt = 0 → ((hK h4 a0).1 = 8) ∧ ∃ b9, (hR h4 a0 6 = some b9) ∧ ((hK h4 b9).1 = 100) ∧ (vp_in ((3 * x1) + 2) (hK h4 b9).2) ∧ Q (some (.int (hI h4 b9 ((3 * x1) + 2).toNatClampNeg))) h4) ∧ (x2.toInt = 1 → ((hK h4 a0).1 = 8) ∧ ∃ (q13 : Int32 → PH → Prop), CI l x mX8_carOf 0 0 0 [.ref a0, .int x1, .int 7] h4 q13 ∧ ∀ (r17 : Int32) (h16 : PH), q13 r17 h16 → Q (some (.int r17)) h16) ∧ (x2.toInt = 2 → ((hK h4 a0).1 = 8) ∧ ∃ (q18 : Int32 → PH → Prop), CI l x mX8_carOf 0 0 0 [.ref a0, .int x1, .int 6] h4 q18 ∧ ∀ (r22 : Int32) (h21 : PH), q18 r22 h21 → Q (some (.int r22)) h21) ∧ (x2.toInt = 3 → ((hK h4 a0).1 = 8) ∧ ∃ (q23 : Int32 → PH → Prop), CI l x mX8_carOf 0 0 0 [.ref a0, .int x1, .int (x2 - 3)] h4 q23 ∧ ∀ (r27 : Int32) (h26 : PH), q23 r27 h26 → Q (some (.int r27)) h26) ∧ (x2.toInt = 4 → ((hK h4 a0).1 = 8) ∧ ∃ (q28 : Int32 → PH → Prop), CI l x mX8_carOf 0 0 0 [.ref a0, .int x1, .int (x2 - 3)] h4 q28 ∧ ∀ (r32 : Int32) (h31 : PH), q28 r32 h31 → Q (some (.int r32)) h31) ∧ (x2.toInt = 5 → ((hK h4 a0).1 = 8) ∧ ∃ (q33 : Int32 → PH → Prop), CI l x mX8_carOf 0 0 0 [.ref a0, .int x1, .int (x2 - 3)] h4 q33 ∧ ∀ (r37 : Int32) (h36 : PH), q33 r37 h36 → Q (some (.int r37)) h36) ∧ (x2.toInt = 6 → ((hK h4 a0).1 = 8) ∧ ∃ (q38 : Int32 → PH → Prop), CI l x mX8_carOf 0 0 0 [.ref a0, .int x1, .int (x2 - 3)] h4 q38 ∧ ∀ (r42 : Int32) (h41 : PH), q38 r42 h41 → Q (some (.int r42)) h41) ∧ (x2.toInt = 7 → ((hK h4 a0).1 = 8) ∧ ∃ (q43 : Int32 → PH → Prop), CI l x mX8_carOf 0 0 0 [.ref a0, .int x1, .int (x2 - 3)] h4 q43 ∧ ∀ (r47 : Int32) (h46 : PH), q43 r47 h46 → Q (some (.int r47)) h46) ∧ (x2.toInt = 8 → ((hK h4 a0).1 = 8) ∧ ∃ (q48 : Int32 → PH → Prop), CI l x mX8_stops 2 0 0 [.ref a0, .int x1] h4 q48 ∧ ∀ (r52 : Int32) (h51 : PH), q48 r52 h51 → Q (some (.int r52)) h51) ∧ (x2.toInt = 9 → ((hK h4 a0).1 = 8) ∧ ∃ (q53 : Int32 → PH → Prop), CI l x mX8_carOf 0 0 0 [.ref a0, .int x1, .int 5] h4 q53 ∧ ∀ (r57 : Int32) (h56 : PH), q53 r57 h56 → Q (some (.int r57)) h56) ∧ ((x2.toInt < 0 ∨ 9 < x2.toInt) → ((hK h4 a0).1 = 8) ∧ ∃ (q58 : Int32 → PH → Prop), CI l x mX8_fail 0 0 0 [.ref a0, .int 1] h4 q58 ∧ ∀ (r62 : Int32) (h61 : PH), q58 r62 h61 → Q (some (.int r62)) h61))) ∧ (r5 = 0 → ((hK h4 a0).1 = 8) ∧ ∃ (q63 : Int32 → PH → Prop), CI l x mX8_fail 0 0 0 [.ref a0, .int 1] h4 q63 ∧ ∀ (r67 : Int32) (h66 : PH), q63 r67 h66 → Q (some (.int r67)) h66))) :
    Gm l x mX8_car 3 0 [(0, .ref a0), (1, .int x1), (2, .int x2)] [] h rc rs n0 Q X := by
  refine g_aload_n dX8_car_0 rfl 0 rfl ?_
  refine g_iconst (v := 0) dX8_car_1 (by decide) ?_
  obtain ⟨e1, K⟩ := K
  refine g_puti (c := 8) (k := 1) dX8_car_2 fc_8 (by decide) (by decide) bw_1199 (Or.inl rfl) rfl e1 ?_
  refine g_aload_n dX8_car_5 rfl 0 rfl ?_
  refine g_iload_n dX8_car_6 rfl 1 rfl ?_
  obtain ⟨q2, C3, K⟩ := K
  refine g_callV (M' := mX8_isCar) (b := a0) (As := [.int x1]) (rest := []) (rc' := rc) (rs' := rs) dX8_car_7 bw_1608 bw_1610 bs_94 bw_9 bw_1611 ⟨by decide +kernel, by decide +kernel, show (parseMethodDescriptor mX8_isCar.1.desc).map (fun d => d.parameters.length) = some 1 by decide +kernel⟩ (by decide) (by decide) (Nat.le_of_ble_eq_true rfl) fc_8 (by decide) rfl (kkI e1) C3 (Nat.le_of_eq (Nat.add_zero _)) (Nat.le_of_eq (Nat.add_zero _)) (fun _ _ h => h) ?_
  rintro _ h4 ⟨r5, rfl, K1⟩ -
  replace K := K r5 h4 K1
  show Gm l x mX8_car 3 10 [(0, .ref a0), (1, .int x1), (2, .int x2)] [.int r5] h4 rc rs n0 Q X
  refine g_if_ne (tgt := 19) dX8_car_10 (by decide) (fun c6 => ?_) (fun c6 => ?_)
  · replace K := K.1 c6
    refine g_iload_n dX8_car_19 rfl 2 rfl ?_
    by_cases e7 : 0 ≤ x2.toInt ∧ x2.toInt ≤ 9
    · have e_or : x2.toInt = 0 ∨ x2.toInt = 1 ∨ x2.toInt = 2 ∨ x2.toInt = 3 ∨ x2.toInt = 4 ∨ x2.toInt = 5 ∨ x2.toInt = 6 ∨ x2.toInt = 7 ∨ x2.toInt = 8 ∨ x2.toInt = 9 := by omega
      rcases e_or with e_s | e_s | e_s | e_s | e_s | e_s | e_s | e_s | e_s | e_s
      · replace K := K.1 e_s
        refine g_tableIn (off := 56) (tgt := 76) dX8_car_20 (by omega) (by omega) (by rw [e_s]; rfl) (by decide) ?_
        refine g_aload_n dX8_car_76 rfl 0 rfl ?_
        obtain ⟨e8, b9, e10, K⟩ := K
        refine g_get (c := 8) (k := 6) (v := .ref b9) dX8_car_77 fc_8 (by decide) (by decide) bw_1204 (congrArg pr e10) e8 ?_
        refine g_iconst (v := 3) dX8_car_80 (by decide) ?_
        refine g_iload_n dX8_car_81 rfl 1 rfl ?_
        refine g_imul dX8_car_82 ?_
        refine g_iconst (v := 2) dX8_car_83 (by decide) ?_
        refine g_iadd dX8_car_84 ?_
        obtain ⟨e11, e12, K⟩ := K
        refine g_iald dX8_car_85 e11 e12 ?_
        exact g_iret dX8_car_86 rfl K
      · replace K := K.2.1 e_s
        refine g_tableIn (off := 67) (tgt := 87) dX8_car_20 (by omega) (by omega) (by rw [e_s]; rfl) (by decide) ?_
        refine g_aload_n dX8_car_87 rfl 0 rfl ?_
        refine g_iload_n dX8_car_88 rfl 1 rfl ?_
        refine g_bipush (v := 7) dX8_car_89 (by decide) ?_
        obtain ⟨e15, K⟩ := K
        obtain ⟨q13, C14, K⟩ := K
        refine g_callV (M' := mX8_carOf) (b := a0) (As := [.int x1, .int 7]) (rest := []) (rc' := rc) (rs' := rs) dX8_car_91 bw_1476 bw_1478 bs_67 bw_9 bw_1479 ⟨by decide +kernel, by decide +kernel, show (parseMethodDescriptor mX8_carOf.1.desc).map (fun d => d.parameters.length) = some 2 by decide +kernel⟩ (by decide) (by decide) (Nat.le_of_ble_eq_true rfl) fc_8 (by decide) rfl e15 C14 (Nat.le_of_eq (Nat.add_zero _)) (Nat.le_of_eq (Nat.add_zero _)) (fun _ _ h => h) ?_
        rintro _ h16 ⟨r17, rfl, K1⟩ -
        replace K := K r17 h16 K1
        show Gm l x mX8_car 3 94 [(0, .ref a0), (1, .int x1), (2, .int x2)] [.int r17] h16 rc rs n0 Q X
        exact g_iret dX8_car_94 rfl K
      · replace K := K.2.2.1 e_s
        refine g_tableIn (off := 75) (tgt := 95) dX8_car_20 (by omega) (by omega) (by rw [e_s]; rfl) (by decide) ?_
        refine g_aload_n dX8_car_95 rfl 0 rfl ?_
        refine g_iload_n dX8_car_96 rfl 1 rfl ?_
        refine g_bipush (v := 6) dX8_car_97 (by decide) ?_
        obtain ⟨e20, K⟩ := K
        obtain ⟨q18, C19, K⟩ := K
        refine g_callV (M' := mX8_carOf) (b := a0) (As := [.int x1, .int 6]) (rest := []) (rc' := rc) (rs' := rs) dX8_car_99 bw_1476 bw_1478 bs_67 bw_9 bw_1479 ⟨by decide +kernel, by decide +kernel, show (parseMethodDescriptor mX8_carOf.1.desc).map (fun d => d.parameters.length) = some 2 by decide +kernel⟩ (by decide) (by decide) (Nat.le_of_ble_eq_true rfl) fc_8 (by decide) rfl e20 C19 (Nat.le_of_eq (Nat.add_zero _)) (Nat.le_of_eq (Nat.add_zero _)) (fun _ _ h => h) ?_
        rintro _ h21 ⟨r22, rfl, K1⟩ -
        replace K := K r22 h21 K1
        show Gm l x mX8_car 3 102 [(0, .ref a0), (1, .int x1), (2, .int x2)] [.int r22] h21 rc rs n0 Q X
        exact g_iret dX8_car_102 rfl K
      · replace K := K.2.2.2.1 e_s
        refine g_tableIn (off := 83) (tgt := 103) dX8_car_20 (by omega) (by omega) (by rw [e_s]; rfl) (by decide) ?_
        refine g_aload_n dX8_car_103 rfl 0 rfl ?_
        refine g_iload_n dX8_car_104 rfl 1 rfl ?_
        refine g_iload_n dX8_car_105 rfl 2 rfl ?_
        refine g_iconst (v := 3) dX8_car_106 (by decide) ?_
        refine g_isub dX8_car_107 ?_
        obtain ⟨e25, K⟩ := K
        obtain ⟨q23, C24, K⟩ := K
        refine g_callV (M' := mX8_carOf) (b := a0) (As := [.int x1, .int (x2 - 3)]) (rest := []) (rc' := rc) (rs' := rs) dX8_car_108 bw_1476 bw_1478 bs_67 bw_9 bw_1479 ⟨by decide +kernel, by decide +kernel, show (parseMethodDescriptor mX8_carOf.1.desc).map (fun d => d.parameters.length) = some 2 by decide +kernel⟩ (by decide) (by decide) (Nat.le_of_ble_eq_true rfl) fc_8 (by decide) rfl e25 C24 (Nat.le_of_eq (Nat.add_zero _)) (Nat.le_of_eq (Nat.add_zero _)) (fun _ _ h => h) ?_
        rintro _ h26 ⟨r27, rfl, K1⟩ -
        replace K := K r27 h26 K1
        show Gm l x mX8_car 3 111 [(0, .ref a0), (1, .int x1), (2, .int x2)] [.int r27] h26 rc rs n0 Q X
        exact g_iret dX8_car_111 rfl K
      · replace K := K.2.2.2.2.1 e_s
        refine g_tableIn (off := 83) (tgt := 103) dX8_car_20 (by omega) (by omega) (by rw [e_s]; rfl) (by decide) ?_
        refine g_aload_n dX8_car_103 rfl 0 rfl ?_
        refine g_iload_n dX8_car_104 rfl 1 rfl ?_
        refine g_iload_n dX8_car_105 rfl 2 rfl ?_
        refine g_iconst (v := 3) dX8_car_106 (by decide) ?_
        refine g_isub dX8_car_107 ?_
        obtain ⟨e30, K⟩ := K
        obtain ⟨q28, C29, K⟩ := K
        refine g_callV (M' := mX8_carOf) (b := a0) (As := [.int x1, .int (x2 - 3)]) (rest := []) (rc' := rc) (rs' := rs) dX8_car_108 bw_1476 bw_1478 bs_67 bw_9 bw_1479 ⟨by decide +kernel, by decide +kernel, show (parseMethodDescriptor mX8_carOf.1.desc).map (fun d => d.parameters.length) = some 2 by decide +kernel⟩ (by decide) (by decide) (Nat.le_of_ble_eq_true rfl) fc_8 (by decide) rfl e30 C29 (Nat.le_of_eq (Nat.add_zero _)) (Nat.le_of_eq (Nat.add_zero _)) (fun _ _ h => h) ?_
        rintro _ h31 ⟨r32, rfl, K1⟩ -
        replace K := K r32 h31 K1
        show Gm l x mX8_car 3 111 [(0, .ref a0), (1, .int x1), (2, .int x2)] [.int r32] h31 rc rs n0 Q X
        exact g_iret dX8_car_111 rfl K
      · replace K := K.2.2.2.2.2.1 e_s
        refine g_tableIn (off := 83) (tgt := 103) dX8_car_20 (by omega) (by omega) (by rw [e_s]; rfl) (by decide) ?_
        refine g_aload_n dX8_car_103 rfl 0 rfl ?_
        refine g_iload_n dX8_car_104 rfl 1 rfl ?_
        refine g_iload_n dX8_car_105 rfl 2 rfl ?_
        refine g_iconst (v := 3) dX8_car_106 (by decide) ?_
        refine g_isub dX8_car_107 ?_
        obtain ⟨e35, K⟩ := K
        obtain ⟨q33, C34, K⟩ := K
        refine g_callV (M' := mX8_carOf) (b := a0) (As := [.int x1, .int (x2 - 3)]) (rest := []) (rc' := rc) (rs' := rs) dX8_car_108 bw_1476 bw_1478 bs_67 bw_9 bw_1479 ⟨by decide +kernel, by decide +kernel, show (parseMethodDescriptor mX8_carOf.1.desc).map (fun d => d.parameters.length) = some 2 by decide +kernel⟩ (by decide) (by decide) (Nat.le_of_ble_eq_true rfl) fc_8 (by decide) rfl e35 C34 (Nat.le_of_eq (Nat.add_zero _)) (Nat.le_of_eq (Nat.add_zero _)) (fun _ _ h => h) ?_
        rintro _ h36 ⟨r37, rfl, K1⟩ -
        replace K := K r37 h36 K1
        show Gm l x mX8_car 3 111 [(0, .ref a0), (1, .int x1), (2, .int x2)] [.int r37] h36 rc rs n0 Q X
        exact g_iret dX8_car_111 rfl K
      · replace K := K.2.2.2.2.2.2.1 e_s
        refine g_tableIn (off := 83) (tgt := 103) dX8_car_20 (by omega) (by omega) (by rw [e_s]; rfl) (by decide) ?_
        refine g_aload_n dX8_car_103 rfl 0 rfl ?_
        refine g_iload_n dX8_car_104 rfl 1 rfl ?_
        refine g_iload_n dX8_car_105 rfl 2 rfl ?_
        refine g_iconst (v := 3) dX8_car_106 (by decide) ?_
        refine g_isub dX8_car_107 ?_
        obtain ⟨e40, K⟩ := K
        obtain ⟨q38, C39, K⟩ := K
        refine g_callV (M' := mX8_carOf) (b := a0) (As := [.int x1, .int (x2 - 3)]) (rest := []) (rc' := rc) (rs' := rs) dX8_car_108 bw_1476 bw_1478 bs_67 bw_9 bw_1479 ⟨by decide +kernel, by decide +kernel, show (parseMethodDescriptor mX8_carOf.1.desc).map (fun d => d.parameters.length) = some 2 by decide +kernel⟩ (by decide) (by decide) (Nat.le_of_ble_eq_true rfl) fc_8 (by decide) rfl e40 C39 (Nat.le_of_eq (Nat.add_zero _)) (Nat.le_of_eq (Nat.add_zero _)) (fun _ _ h => h) ?_
        rintro _ h41 ⟨r42, rfl, K1⟩ -
        replace K := K r42 h41 K1
        show Gm l x mX8_car 3 111 [(0, .ref a0), (1, .int x1), (2, .int x2)] [.int r42] h41 rc rs n0 Q X
        exact g_iret dX8_car_111 rfl K
      · replace K := K.2.2.2.2.2.2.2.1 e_s
        refine g_tableIn (off := 83) (tgt := 103) dX8_car_20 (by omega) (by omega) (by rw [e_s]; rfl) (by decide) ?_
        refine g_aload_n dX8_car_103 rfl 0 rfl ?_
        refine g_iload_n dX8_car_104 rfl 1 rfl ?_
        refine g_iload_n dX8_car_105 rfl 2 rfl ?_
        refine g_iconst (v := 3) dX8_car_106 (by decide) ?_
        refine g_isub dX8_car_107 ?_
        obtain ⟨e45, K⟩ := K
        obtain ⟨q43, C44, K⟩ := K
        refine g_callV (M' := mX8_carOf) (b := a0) (As := [.int x1, .int (x2 - 3)]) (rest := []) (rc' := rc) (rs' := rs) dX8_car_108 bw_1476 bw_1478 bs_67 bw_9 bw_1479 ⟨by decide +kernel, by decide +kernel, show (parseMethodDescriptor mX8_carOf.1.desc).map (fun d => d.parameters.length) = some 2 by decide +kernel⟩ (by decide) (by decide) (Nat.le_of_ble_eq_true rfl) fc_8 (by decide) rfl e45 C44 (Nat.le_of_eq (Nat.add_zero _)) (Nat.le_of_eq (Nat.add_zero _)) (fun _ _ h => h) ?_
        rintro _ h46 ⟨r47, rfl, K1⟩ -
        replace K := K r47 h46 K1
        show Gm l x mX8_car 3 111 [(0, .ref a0), (1, .int x1), (2, .int x2)] [.int r47] h46 rc rs n0 Q X
        exact g_iret dX8_car_111 rfl K
      · replace K := K.2.2.2.2.2.2.2.2.1 e_s
        refine g_tableIn (off := 92) (tgt := 112) dX8_car_20 (by omega) (by omega) (by rw [e_s]; rfl) (by decide) ?_
        refine g_aload_n dX8_car_112 rfl 0 rfl ?_
        refine g_iload_n dX8_car_113 rfl 1 rfl ?_
        obtain ⟨e50, K⟩ := K
        obtain ⟨q48, C49, K⟩ := K
        refine g_callV (M' := mX8_stops) (b := a0) (As := [.int x1]) (rest := []) (rc' := rc) (rs' := rs) dX8_car_114 bw_1510 bw_1512 bs_75 bw_9 bw_1513 ⟨by decide +kernel, by decide +kernel, show (parseMethodDescriptor mX8_stops.1.desc).map (fun d => d.parameters.length) = some 1 by decide +kernel⟩ (by decide) (by decide) (Nat.le_of_ble_eq_true rfl) fc_8 (by decide) rfl e50 C49 (Nat.le_of_eq (Nat.add_zero _)) (Nat.le_of_eq (Nat.add_zero _)) (fun _ _ h => h) ?_
        rintro _ h51 ⟨r52, rfl, K1⟩ -
        replace K := K r52 h51 K1
        show Gm l x mX8_car 3 117 [(0, .ref a0), (1, .int x1), (2, .int x2)] [.int r52] h51 rc rs n0 Q X
        exact g_iret dX8_car_117 rfl K
      · replace K := K.2.2.2.2.2.2.2.2.2.1 e_s
        refine g_tableIn (off := 98) (tgt := 118) dX8_car_20 (by omega) (by omega) (by rw [e_s]; rfl) (by decide) ?_
        refine g_aload_n dX8_car_118 rfl 0 rfl ?_
        refine g_iload_n dX8_car_119 rfl 1 rfl ?_
        refine g_iconst (v := 5) dX8_car_120 (by decide) ?_
        obtain ⟨e55, K⟩ := K
        obtain ⟨q53, C54, K⟩ := K
        refine g_callV (M' := mX8_carOf) (b := a0) (As := [.int x1, .int 5]) (rest := []) (rc' := rc) (rs' := rs) dX8_car_121 bw_1476 bw_1478 bs_67 bw_9 bw_1479 ⟨by decide +kernel, by decide +kernel, show (parseMethodDescriptor mX8_carOf.1.desc).map (fun d => d.parameters.length) = some 2 by decide +kernel⟩ (by decide) (by decide) (Nat.le_of_ble_eq_true rfl) fc_8 (by decide) rfl e55 C54 (Nat.le_of_eq (Nat.add_zero _)) (Nat.le_of_eq (Nat.add_zero _)) (fun _ _ h => h) ?_
        rintro _ h56 ⟨r57, rfl, K1⟩ -
        replace K := K r57 h56 K1
        show Gm l x mX8_car 3 124 [(0, .ref a0), (1, .int x1), (2, .int x2)] [.int r57] h56 rc rs n0 Q X
        exact g_iret dX8_car_124 rfl K
    · replace K := K.2.2.2.2.2.2.2.2.2.2 (by omega)
      refine g_tableOut (tgt := 125) dX8_car_20 (by omega) (by decide) ?_
      refine g_aload_n dX8_car_125 rfl 0 rfl ?_
      refine g_iconst (v := 1) dX8_car_126 (by decide) ?_
      obtain ⟨e60, K⟩ := K
      obtain ⟨q58, C59, K⟩ := K
      refine g_callV (M' := mX8_fail) (b := a0) (As := [.int 1]) (rest := []) (rc' := rc) (rs' := rs) dX8_car_127 bw_1337 bw_1339 bs_39 bw_9 bw_1340 ⟨by decide +kernel, by decide +kernel, show (parseMethodDescriptor mX8_fail.1.desc).map (fun d => d.parameters.length) = some 1 by decide +kernel⟩ (by decide) (by decide) (Nat.le_of_ble_eq_true rfl) fc_8 (by decide) rfl e60 C59 (Nat.le_of_eq (Nat.add_zero _)) (Nat.le_of_eq (Nat.add_zero _)) (fun _ _ h => h) ?_
      rintro _ h61 ⟨r62, rfl, K1⟩ -
      replace K := K r62 h61 K1
      show Gm l x mX8_car 3 130 [(0, .ref a0), (1, .int x1), (2, .int x2)] [.int r62] h61 rc rs n0 Q X
      exact g_iret dX8_car_130 rfl K
  · replace K := K.2 c6
    refine g_aload_n dX8_car_13 rfl 0 rfl ?_
    refine g_iconst (v := 1) dX8_car_14 (by decide) ?_
    obtain ⟨e65, K⟩ := K
    obtain ⟨q63, C64, K⟩ := K
    refine g_callV (M' := mX8_fail) (b := a0) (As := [.int 1]) (rest := []) (rc' := rc) (rs' := rs) dX8_car_15 bw_1337 bw_1339 bs_39 bw_9 bw_1340 ⟨by decide +kernel, by decide +kernel, show (parseMethodDescriptor mX8_fail.1.desc).map (fun d => d.parameters.length) = some 1 by decide +kernel⟩ (by decide) (by decide) (Nat.le_of_ble_eq_true rfl) fc_8 (by decide) rfl e65 C64 (Nat.le_of_eq (Nat.add_zero _)) (Nat.le_of_eq (Nat.add_zero _)) (fun _ _ h => h) ?_
    rintro _ h66 ⟨r67, rfl, K1⟩ -
    replace K := K r67 h66 K1
    show Gm l x mX8_car 3 18 [(0, .ref a0), (1, .int x1), (2, .int x2)] [.int r67] h66 rc rs n0 Q X
    exact g_iret dX8_car_18 rfl K
theorem dX8_given_0 : decode cX8_given 0 = .ok (.aload_n 0, 1) := by decide +kernel
theorem dX8_given_1 : decode cX8_given 1 = .ok (.iconst 0, 1) := by decide +kernel
theorem dX8_given_2 : decode cX8_given 2 = .ok (.putfield 104, 3) := by decide +kernel
theorem dX8_given_5 : decode cX8_given 5 = .ok (.aload_n 0, 1) := by decide +kernel
theorem dX8_given_6 : decode cX8_given 6 = .ok (.iload_n 1, 1) := by decide +kernel
theorem dX8_given_7 : decode cX8_given 7 = .ok (.invokevirtual 399, 3) := by decide +kernel
theorem dX8_given_10 : decode cX8_given 10 = .ok (.ifCond .eq 12, 3) := by decide +kernel
theorem dX8_given_13 : decode cX8_given 13 = .ok (.iload_n 3, 1) := by decide +kernel
theorem dX8_given_14 : decode cX8_given 14 = .ok (.iconst 1, 1) := by decide +kernel
theorem dX8_given_15 : decode cX8_given 15 = .ok (.iconst 2, 1) := by decide +kernel
theorem dX8_given_16 : decode cX8_given 16 = .ok (.invokestatic 390, 3) := by decide +kernel
theorem dX8_given_19 : decode cX8_given 19 = .ok (.ifCond .ne 9, 3) := by decide +kernel
theorem dX8_given_22 : decode cX8_given 22 = .ok (.aload_n 0, 1) := by decide +kernel
theorem dX8_given_23 : decode cX8_given 23 = .ok (.iconst 1, 1) := by decide +kernel
theorem dX8_given_24 : decode cX8_given 24 = .ok (.invokevirtual 198, 3) := by decide +kernel
theorem dX8_given_27 : decode cX8_given 27 = .ok (.ireturn, 1) := by decide +kernel
theorem dX8_given_28 : decode cX8_given 28 = .ok (.iload_n 2, 1) := by decide +kernel
theorem dX8_given_29 : decode cX8_given 29 = .ok (.ifCond .eq 7, 3) := by decide +kernel
theorem dX8_given_32 : decode cX8_given 32 = .ok (.iconst 1, 1) := by decide +kernel
theorem dX8_given_33 : decode cX8_given 33 = .ok (.goto 4, 3) := by decide +kernel
theorem dX8_given_36 : decode cX8_given 36 = .ok (.iconst (-1), 1) := by decide +kernel
theorem dX8_given_37 : decode cX8_given 37 = .ok (.istore 4, 2) := by decide +kernel
theorem dX8_given_39 : decode cX8_given 39 = .ok (.aload_n 0, 1) := by decide +kernel
theorem dX8_given_40 : decode cX8_given 40 = .ok (.iload_n 1, 1) := by decide +kernel
theorem dX8_given_41 : decode cX8_given 41 = .ok (.iload 4, 2) := by decide +kernel
theorem dX8_given_43 : decode cX8_given 43 = .ok (.iload_n 3, 1) := by decide +kernel
theorem dX8_given_44 : decode cX8_given 44 = .ok (.invokevirtual 320, 3) := by decide +kernel
theorem dX8_given_47 : decode cX8_given 47 = .ok (.ifCond .eq 20, 3) := by decide +kernel
theorem dX8_given_50 : decode cX8_given 50 = .ok (.aload_n 0, 1) := by decide +kernel
theorem dX8_given_51 : decode cX8_given 51 = .ok (.getfield 29, 3) := by decide +kernel
theorem dX8_given_54 : decode cX8_given 54 = .ok (.iload_n 1, 1) := by decide +kernel
theorem dX8_given_55 : decode cX8_given 55 = .ok (.iload 4, 2) := by decide +kernel
theorem dX8_given_57 : decode cX8_given 57 = .ok (.iload_n 3, 1) := by decide +kernel
theorem dX8_given_58 : decode cX8_given 58 = .ok (.invokestatic 234, 3) := by decide +kernel
theorem dX8_given_61 : decode cX8_given 61 = .ok (.iaload, 1) := by decide +kernel
theorem dX8_given_62 : decode cX8_given 62 = .ok (.iconst 1, 1) := by decide +kernel
theorem dX8_given_63 : decode cX8_given 63 = .ok (.isub, 1) := by decide +kernel
theorem dX8_given_64 : decode cX8_given 64 = .ok (.goto 5, 3) := by decide +kernel
theorem dX8_given_67 : decode cX8_given 67 = .ok (.bipush (-2), 2) := by decide +kernel
theorem dX8_given_69 : decode cX8_given 69 = .ok (.ireturn, 1) := by decide +kernel
set_option maxRecDepth 20000 in
set_option maxHeartbeats 4000000 in
theorem vX8_given_0 {l : Launch} {x : CX} {a0 : Nat} {x1 : Int32} {x2 : Int32} {x3 : Int32} {h : PH} {rc rs n0 : Nat} {Q : Option Value → PH → Prop} {X : String → PH → Prop}
    (K : ((hK h a0).1 = 8) ∧ ∃ (q2 : Int32 → PH → Prop), CI l x mX8_isFloor 1 0 0 [.ref a0, .int x1] (sI h a0 1 0) q2 ∧ ∀ (r5 : Int32) (h4 : PH), q2 r5 h4 → ((r5 = 0 → ((hK h4 a0).1 = 8) ∧ ∃ (q7 : Int32 → PH → Prop), CI l x mX8_fail 0 0 0 [.ref a0, .int 1] h4 q7 ∧ ∀ (r11 : Int32) (h10 : PH), q7 r11 h10 → Q (some (.int r11)) h10) ∧ (¬ r5 = 0 → ∃ (q12 : Int32 → PH → Prop), CI l x mX8_isIn 0 0 0 [.int x3, .int 1, .int 2] h4 q12 ∧ ∀ (r15 : Int32) (h14 : PH), q12 r15 h14 → ((¬ r15 = 0 → ((hK h14 a0).1 = 8) ∧ ∃ (q18 : Int32 → PH → Prop), CI l x mX8_isCall 2 0 0 [.ref a0, .int x1, .int (if x2 = 0 then (-1) else 1 : Int32), .int x3] h14 q18 ∧ ∀ (r22 : Int32) (h21 : PH), q18 r22 h21 → ((r22 = 0 → Q (some (.int (-2))) h21) ∧ (¬ r22 = 0 → ((hK h21 a0).1 = 8) ∧ ∃ b25, (hR h21 a0 2 = some b25) ∧ ∃ (q27 : Int32 → PH → Prop), CI l x mX8_callAt 0 0 0 [.int x1, .int (if x2 = 0 then (-1) else 1 : Int32), .int x3] h21 q27 ∧ ∀ (r30 : Int32) (h29 : PH), q27 r30 h29 → ((hK h29 b25).1 = 100) ∧ (vp_in r30 (hK h29 b25).2) ∧ Q (some (.int ((hI h29 b25 r30.toNatClampNeg) - 1))) h29))) ∧ (r15 = 0 → ((hK h14 a0).1 = 8) ∧ ∃ (q33 : Int32 → PH → Prop), CI l x mX8_fail 0 0 0 [.ref a0, .int 1] h14 q33 ∧ ∀ (r37 : Int32) (h36 : PH), q33 r37 h36 → Q (some (.int r37)) h36))))) :
    Gm l x mX8_given 3 0 [(0, .ref a0), (1, .int x1), (2, .int x2), (3, .int x3)] [] h rc rs n0 Q X := by
  refine g_aload_n dX8_given_0 rfl 0 rfl ?_
  refine g_iconst (v := 0) dX8_given_1 (by decide) ?_
  obtain ⟨e1, K⟩ := K
  refine g_puti (c := 8) (k := 1) dX8_given_2 fc_8 (by decide) (by decide) bw_1199 (Or.inl rfl) rfl e1 ?_
  refine g_aload_n dX8_given_5 rfl 0 rfl ?_
  refine g_iload_n dX8_given_6 rfl 1 rfl ?_
  obtain ⟨q2, C3, K⟩ := K
  refine g_callV (M' := mX8_isFloor) (b := a0) (As := [.int x1]) (rest := []) (rc' := rc) (rs' := rs) dX8_given_7 bw_1627 bw_1629 bs_96 bw_9 bw_1630 ⟨by decide +kernel, by decide +kernel, show (parseMethodDescriptor mX8_isFloor.1.desc).map (fun d => d.parameters.length) = some 1 by decide +kernel⟩ (by decide) (by decide) (Nat.le_of_ble_eq_true rfl) fc_8 (by decide) rfl (kkI e1) C3 (Nat.le_of_eq (Nat.add_zero _)) (Nat.le_of_eq (Nat.add_zero _)) (fun _ _ h => h) ?_
  rintro _ h4 ⟨r5, rfl, K1⟩ -
  replace K := K r5 h4 K1
  show Gm l x mX8_given 3 10 [(0, .ref a0), (1, .int x1), (2, .int x2), (3, .int x3)] [.int r5] h4 rc rs n0 Q X
  refine g_if_eq (tgt := 22) dX8_given_10 (by decide) (fun c6 => ?_) (fun c6 => ?_)
  · replace K := K.1 c6
    refine g_aload_n dX8_given_22 rfl 0 rfl ?_
    refine g_iconst (v := 1) dX8_given_23 (by decide) ?_
    obtain ⟨e9, K⟩ := K
    obtain ⟨q7, C8, K⟩ := K
    refine g_callV (M' := mX8_fail) (b := a0) (As := [.int 1]) (rest := []) (rc' := rc) (rs' := rs) dX8_given_24 bw_1337 bw_1339 bs_39 bw_9 bw_1340 ⟨by decide +kernel, by decide +kernel, show (parseMethodDescriptor mX8_fail.1.desc).map (fun d => d.parameters.length) = some 1 by decide +kernel⟩ (by decide) (by decide) (Nat.le_of_ble_eq_true rfl) fc_8 (by decide) rfl e9 C8 (Nat.le_of_eq (Nat.add_zero _)) (Nat.le_of_eq (Nat.add_zero _)) (fun _ _ h => h) ?_
    rintro _ h10 ⟨r11, rfl, K1⟩ -
    replace K := K r11 h10 K1
    show Gm l x mX8_given 3 27 [(0, .ref a0), (1, .int x1), (2, .int x2), (3, .int x3)] [.int r11] h10 rc rs n0 Q X
    exact g_iret dX8_given_27 rfl K
  · replace K := K.2 c6
    refine g_iload_n dX8_given_13 rfl 3 rfl ?_
    refine g_iconst (v := 1) dX8_given_14 (by decide) ?_
    refine g_iconst (v := 2) dX8_given_15 (by decide) ?_
    obtain ⟨q12, C13, K⟩ := K
    refine g_callS (M' := mX8_isIn) (As := [.int x3, .int 1, .int 2]) (rest := []) (rc' := rc) (rs' := rs) dX8_given_16 bw_1612 bw_1613 bw_9 bw_1614 ⟨by decide +kernel, by decide +kernel, show (parseMethodDescriptor mX8_isIn.1.desc).map (fun d => d.parameters.length) = some 3 by decide +kernel⟩ (by decide) (by decide) (Nat.le_of_ble_eq_true rfl) C13 (Nat.le_of_eq (Nat.add_zero _)) (Nat.le_of_eq (Nat.add_zero _)) (fun _ _ h => h) ?_
    rintro _ h14 ⟨r15, rfl, K1⟩ -
    replace K := K r15 h14 K1
    show Gm l x mX8_given 3 19 [(0, .ref a0), (1, .int x1), (2, .int x2), (3, .int x3)] [.int r15] h14 rc rs n0 Q X
    refine g_if_ne (tgt := 28) dX8_given_19 (by decide) (fun c16 => ?_) (fun c16 => ?_)
    · replace K := K.1 c16
      refine g_iload_n dX8_given_28 rfl 2 rfl ?_
      have KJ : Gm l x mX8_given 3 37 [(0, .ref a0), (1, .int x1), (2, .int x2), (3, .int x3)] [.int (if x2 = 0 then (-1) else 1 : Int32)] h14 rc rs n0 Q X := by
        refine g_istore (lv' := [(0, .ref a0), (1, .int x1), (2, .int x2), (3, .int x3), (4, .int (if x2 = 0 then (-1) else 1 : Int32))]) dX8_given_37 (by decide) rfl ?_
        refine g_aload_n dX8_given_39 rfl 0 rfl ?_
        refine g_iload_n dX8_given_40 rfl 1 rfl ?_
        refine g_iload dX8_given_41 4 rfl ?_
        refine g_iload_n dX8_given_43 rfl 3 rfl ?_
        obtain ⟨e20, K⟩ := K
        obtain ⟨q18, C19, K⟩ := K
        refine g_callV (M' := mX8_isCall) (b := a0) (As := [.int x1, .int (if x2 = 0 then (-1) else 1 : Int32), .int x3]) (rest := []) (rc' := rc) (rs' := rs) dX8_given_44 bw_1421 bw_1423 bs_54 bw_9 bw_1424 ⟨by decide +kernel, by decide +kernel, show (parseMethodDescriptor mX8_isCall.1.desc).map (fun d => d.parameters.length) = some 3 by decide +kernel⟩ (by decide) (by decide) (Nat.le_of_ble_eq_true rfl) fc_8 (by decide) rfl e20 C19 (Nat.le_of_eq (Nat.add_zero _)) (Nat.le_of_eq (Nat.add_zero _)) (fun _ _ h => h) ?_
        rintro _ h21 ⟨r22, rfl, K1⟩ -
        replace K := K r22 h21 K1
        show Gm l x mX8_given 3 47 [(0, .ref a0), (1, .int x1), (2, .int x2), (3, .int x3), (4, .int (if x2 = 0 then (-1) else 1 : Int32))] [.int r22] h21 rc rs n0 Q X
        refine g_if_eq (tgt := 67) dX8_given_47 (by decide) (fun c23 => ?_) (fun c23 => ?_)
        · replace K := K.1 c23
          refine g_bipush (v := (-2)) dX8_given_67 (by decide) ?_
          exact g_iret dX8_given_69 rfl K
        · replace K := K.2 c23
          refine g_aload_n dX8_given_50 rfl 0 rfl ?_
          obtain ⟨e24, b25, e26, K⟩ := K
          refine g_get (c := 8) (k := 2) (v := .ref b25) dX8_given_51 fc_8 (by decide) (by decide) bw_1200 (congrArg pr e26) e24 ?_
          refine g_iload_n dX8_given_54 rfl 1 rfl ?_
          refine g_iload dX8_given_55 4 rfl ?_
          refine g_iload_n dX8_given_57 rfl 3 rfl ?_
          obtain ⟨q27, C28, K⟩ := K
          refine g_callS (M' := mX8_callAt) (As := [.int x1, .int (if x2 = 0 then (-1) else 1 : Int32), .int x3]) (rest := [.ref b25]) (rc' := rc) (rs' := rs) dX8_given_58 bw_1469 bw_1470 bw_9 bw_1471 ⟨by decide +kernel, by decide +kernel, show (parseMethodDescriptor mX8_callAt.1.desc).map (fun d => d.parameters.length) = some 3 by decide +kernel⟩ (by decide) (by decide) (Nat.le_of_ble_eq_true rfl) C28 (Nat.le_of_eq (Nat.add_zero _)) (Nat.le_of_eq (Nat.add_zero _)) (fun _ _ h => h) ?_
          rintro _ h29 ⟨r30, rfl, K1⟩ -
          replace K := K r30 h29 K1
          show Gm l x mX8_given 3 61 [(0, .ref a0), (1, .int x1), (2, .int x2), (3, .int x3), (4, .int (if x2 = 0 then (-1) else 1 : Int32))] [.int r30, .ref b25] h29 rc rs n0 Q X
          obtain ⟨e31, e32, K⟩ := K
          refine g_iald dX8_given_61 e31 e32 ?_
          refine g_iconst (v := 1) dX8_given_62 (by decide) ?_
          refine g_isub dX8_given_63 ?_
          refine g_goto (tgt := 69) dX8_given_64 (by decide) ?_
          exact g_iret dX8_given_69 rfl K
      refine g_if_eq (tgt := 36) dX8_given_29 (by decide) (fun c17 => ?_) (fun c17 => ?_)
      · refine g_iconst (v := (-1)) dX8_given_36 (by decide) ?_
        first | (simp only [if_pos c17] at KJ; exact KJ) | (simp only [if_pos c17, ite_true, ite_false, eq_self] at KJ; exact KJ) | (simp only [if_pos c17] at KJ ⊢; exact KJ) | exact KJ
      · refine g_iconst (v := 1) dX8_given_32 (by decide) ?_
        refine g_goto (tgt := 37) dX8_given_33 (by decide) ?_
        first | (simp only [if_neg c17] at KJ; exact KJ) | (simp only [if_neg c17, ite_true, ite_false, eq_self] at KJ; exact KJ) | (simp only [if_neg c17] at KJ ⊢; exact KJ) | exact KJ
    · replace K := K.2 c16
      refine g_aload_n dX8_given_22 rfl 0 rfl ?_
      refine g_iconst (v := 1) dX8_given_23 (by decide) ?_
      obtain ⟨e35, K⟩ := K
      obtain ⟨q33, C34, K⟩ := K
      refine g_callV (M' := mX8_fail) (b := a0) (As := [.int 1]) (rest := []) (rc' := rc) (rs' := rs) dX8_given_24 bw_1337 bw_1339 bs_39 bw_9 bw_1340 ⟨by decide +kernel, by decide +kernel, show (parseMethodDescriptor mX8_fail.1.desc).map (fun d => d.parameters.length) = some 1 by decide +kernel⟩ (by decide) (by decide) (Nat.le_of_ble_eq_true rfl) fc_8 (by decide) rfl e35 C34 (Nat.le_of_eq (Nat.add_zero _)) (Nat.le_of_eq (Nat.add_zero _)) (fun _ _ h => h) ?_
      rintro _ h36 ⟨r37, rfl, K1⟩ -
      replace K := K r37 h36 K1
      show Gm l x mX8_given 3 27 [(0, .ref a0), (1, .int x1), (2, .int x2), (3, .int x3)] [.int r37] h36 rc rs n0 Q X
      exact g_iret dX8_given_27 rfl K
theorem dX8_come_0 : decode cX8_come 0 = .ok (.aload_n 0, 1) := by decide +kernel
theorem dX8_come_1 : decode cX8_come 1 = .ok (.iconst 0, 1) := by decide +kernel
theorem dX8_come_2 : decode cX8_come 2 = .ok (.putfield 104, 3) := by decide +kernel
theorem dX8_come_5 : decode cX8_come 5 = .ok (.aload_n 0, 1) := by decide +kernel
theorem dX8_come_6 : decode cX8_come 6 = .ok (.iload_n 1, 1) := by decide +kernel
theorem dX8_come_7 : decode cX8_come 7 = .ok (.invokevirtual 399, 3) := by decide +kernel
theorem dX8_come_10 : decode cX8_come 10 = .ok (.ifCond .eq 37, 3) := by decide +kernel
theorem dX8_come_13 : decode cX8_come 13 = .ok (.aload_n 0, 1) := by decide +kernel
theorem dX8_come_14 : decode cX8_come 14 = .ok (.iload_n 2, 1) := by decide +kernel
theorem dX8_come_15 : decode cX8_come 15 = .ok (.invokevirtual 399, 3) := by decide +kernel
theorem dX8_come_18 : decode cX8_come 18 = .ok (.ifCond .eq 29, 3) := by decide +kernel
theorem dX8_come_21 : decode cX8_come 21 = .ok (.iload_n 1, 1) := by decide +kernel
theorem dX8_come_22 : decode cX8_come 22 = .ok (.iload_n 2, 1) := by decide +kernel
theorem dX8_come_23 : decode cX8_come 23 = .ok (.if_icmp .eq 24, 3) := by decide +kernel
theorem dX8_come_26 : decode cX8_come 26 = .ok (.iload_n 3, 1) := by decide +kernel
theorem dX8_come_27 : decode cX8_come 27 = .ok (.iconst 1, 1) := by decide +kernel
theorem dX8_come_28 : decode cX8_come 28 = .ok (.iconst 2, 1) := by decide +kernel
theorem dX8_come_29 : decode cX8_come 29 = .ok (.invokestatic 390, 3) := by decide +kernel
theorem dX8_come_32 : decode cX8_come 32 = .ok (.ifCond .eq 15, 3) := by decide +kernel
theorem dX8_come_35 : decode cX8_come 35 = .ok (.aload_n 0, 1) := by decide +kernel
theorem dX8_come_36 : decode cX8_come 36 = .ok (.getfield 29, 3) := by decide +kernel
theorem dX8_come_39 : decode cX8_come 39 = .ok (.bipush 6, 2) := by decide +kernel
theorem dX8_come_41 : decode cX8_come 41 = .ok (.iaload, 1) := by decide +kernel
theorem dX8_come_42 : decode cX8_come 42 = .ok (.bipush 24, 2) := by decide +kernel
theorem dX8_come_44 : decode cX8_come 44 = .ok (.if_icmp .ne 9, 3) := by decide +kernel
theorem dX8_come_47 : decode cX8_come 47 = .ok (.aload_n 0, 1) := by decide +kernel
theorem dX8_come_48 : decode cX8_come 48 = .ok (.iconst 1, 1) := by decide +kernel
theorem dX8_come_49 : decode cX8_come 49 = .ok (.invokevirtual 402, 3) := by decide +kernel
theorem dX8_come_52 : decode cX8_come 52 = .ok (.ireturn, 1) := by decide +kernel
theorem dX8_come_53 : decode cX8_come 53 = .ok (.aload_n 0, 1) := by decide +kernel
theorem dX8_come_54 : decode cX8_come 54 = .ok (.invokevirtual 405, 3) := by decide +kernel
theorem dX8_come_57 : decode cX8_come 57 = .ok (.aload_n 0, 1) := by decide +kernel
theorem dX8_come_58 : decode cX8_come 58 = .ok (.iload_n 1, 1) := by decide +kernel
theorem dX8_come_59 : decode cX8_come 59 = .ok (.iload_n 2, 1) := by decide +kernel
theorem dX8_come_60 : decode cX8_come 60 = .ok (.iload_n 3, 1) := by decide +kernel
theorem dX8_come_61 : decode cX8_come 61 = .ok (.invokevirtual 408, 3) := by decide +kernel
theorem dX8_come_64 : decode cX8_come 64 = .ok (.ireturn, 1) := by decide +kernel
set_option maxRecDepth 20000 in
set_option maxHeartbeats 4000000 in
theorem vX8_come_0 {l : Launch} {x : CX} {a0 : Nat} {x1 : Int32} {x2 : Int32} {x3 : Int32} {h : PH} {rc rs n0 : Nat} {Q : Option Value → PH → Prop} {X : String → PH → Prop}
    (K : ((hK h a0).1 = 8) ∧ ∃ (q2 : Int32 → PH → Prop), CI l x mX8_isFloor 1 0 0 [.ref a0, .int x1] (sI h a0 1 0) q2 ∧ ∀ (r5 : Int32) (h4 : PH), q2 r5 h4 → ((r5 = 0 → ((hK h4 a0).1 = 8) ∧ ∃ (q7 : Int32 → PH → Prop), CI l x mX8_refuse 0 0 0 [.ref a0, .int 1] h4 q7 ∧ ∀ (r11 : Int32) (h10 : PH), q7 r11 h10 → Q (some (.int r11)) h10) ∧ (¬ r5 = 0 → ((hK h4 a0).1 = 8) ∧ ∃ (q12 : Int32 → PH → Prop), CI l x mX8_isFloor 1 0 0 [.ref a0, .int x2] h4 q12 ∧ ∀ (r16 : Int32) (h15 : PH), q12 r16 h15 → ((r16 = 0 → ((hK h15 a0).1 = 8) ∧ ∃ (q18 : Int32 → PH → Prop), CI l x mX8_refuse 0 0 0 [.ref a0, .int 1] h15 q18 ∧ ∀ (r22 : Int32) (h21 : PH), q18 r22 h21 → Q (some (.int r22)) h21) ∧ (¬ r16 = 0 → ((x1 = x2 → ((hK h15 a0).1 = 8) ∧ ∃ (q24 : Int32 → PH → Prop), CI l x mX8_refuse 0 0 0 [.ref a0, .int 1] h15 q24 ∧ ∀ (r28 : Int32) (h27 : PH), q24 r28 h27 → Q (some (.int r28)) h27) ∧ (¬ x1 = x2 → ∃ (q29 : Int32 → PH → Prop), CI l x mX8_isIn 0 0 0 [.int x3, .int 1, .int 2] h15 q29 ∧ ∀ (r32 : Int32) (h31 : PH), q29 r32 h31 → ((r32 = 0 → ((hK h31 a0).1 = 8) ∧ ∃ (q34 : Int32 → PH → Prop), CI l x mX8_refuse 0 0 0 [.ref a0, .int 1] h31 q34 ∧ ∀ (r38 : Int32) (h37 : PH), q34 r38 h37 → Q (some (.int r38)) h37) ∧ (¬ r32 = 0 → ((hK h31 a0).1 = 8) ∧ ∃ b40, (hR h31 a0 2 = some b40) ∧ ((hK h31 b40).1 = 100) ∧ (vp_in 6 (hK h31 b40).2) ∧ ((¬ (hI h31 b40 (Int32.toNatClampNeg 6)) = 24 → ∃ (q45 : PH → Prop), CV l x mX8_keep 0 0 0 [.ref a0] h31 q45 ∧ ∀ (h47 : PH), q45 h47 → ((hK h47 a0).1 = 8) ∧ ∃ (q48 : Int32 → PH → Prop), CI l x mX8_comesNow 2 0 0 [.ref a0, .int x1, .int x2, .int x3] h47 q48 ∧ ∀ (r52 : Int32) (h51 : PH), q48 r52 h51 → Q (some (.int r52)) h51) ∧ ((hI h31 b40 (Int32.toNatClampNeg 6)) = 24 → ∃ (q53 : Int32 → PH → Prop), CI l x mX8_refuse 0 0 0 [.ref a0, .int 1] h31 q53 ∧ ∀ (r56 : Int32) (h55 : PH), q53 r56 h55 → Q (some (.int r56)) h55))))))))))) :
    Gm l x mX8_come 3 0 [(0, .ref a0), (1, .int x1), (2, .int x2), (3, .int x3)] [] h rc rs n0 Q X := by
  refine g_aload_n dX8_come_0 rfl 0 rfl ?_
  refine g_iconst (v := 0) dX8_come_1 (by decide) ?_
  obtain ⟨e1, K⟩ := K
  refine g_puti (c := 8) (k := 1) dX8_come_2 fc_8 (by decide) (by decide) bw_1199 (Or.inl rfl) rfl e1 ?_
  refine g_aload_n dX8_come_5 rfl 0 rfl ?_
  refine g_iload_n dX8_come_6 rfl 1 rfl ?_
  obtain ⟨q2, C3, K⟩ := K
  refine g_callV (M' := mX8_isFloor) (b := a0) (As := [.int x1]) (rest := []) (rc' := rc) (rs' := rs) dX8_come_7 bw_1627 bw_1629 bs_96 bw_9 bw_1630 ⟨by decide +kernel, by decide +kernel, show (parseMethodDescriptor mX8_isFloor.1.desc).map (fun d => d.parameters.length) = some 1 by decide +kernel⟩ (by decide) (by decide) (Nat.le_of_ble_eq_true rfl) fc_8 (by decide) rfl (kkI e1) C3 (Nat.le_of_eq (Nat.add_zero _)) (Nat.le_of_eq (Nat.add_zero _)) (fun _ _ h => h) ?_
  rintro _ h4 ⟨r5, rfl, K1⟩ -
  replace K := K r5 h4 K1
  show Gm l x mX8_come 3 10 [(0, .ref a0), (1, .int x1), (2, .int x2), (3, .int x3)] [.int r5] h4 rc rs n0 Q X
  refine g_if_eq (tgt := 47) dX8_come_10 (by decide) (fun c6 => ?_) (fun c6 => ?_)
  · replace K := K.1 c6
    refine g_aload_n dX8_come_47 rfl 0 rfl ?_
    refine g_iconst (v := 1) dX8_come_48 (by decide) ?_
    obtain ⟨e9, K⟩ := K
    obtain ⟨q7, C8, K⟩ := K
    refine g_callV (M' := mX8_refuse) (b := a0) (As := [.int 1]) (rest := []) (rc' := rc) (rs' := rs) dX8_come_49 bw_1639 bw_1641 bs_97 bw_9 bw_1642 ⟨by decide +kernel, by decide +kernel, show (parseMethodDescriptor mX8_refuse.1.desc).map (fun d => d.parameters.length) = some 1 by decide +kernel⟩ (by decide) (by decide) (Nat.le_of_ble_eq_true rfl) fc_8 (by decide) rfl e9 C8 (Nat.le_of_eq (Nat.add_zero _)) (Nat.le_of_eq (Nat.add_zero _)) (fun _ _ h => h) ?_
    rintro _ h10 ⟨r11, rfl, K1⟩ -
    replace K := K r11 h10 K1
    show Gm l x mX8_come 3 52 [(0, .ref a0), (1, .int x1), (2, .int x2), (3, .int x3)] [.int r11] h10 rc rs n0 Q X
    exact g_iret dX8_come_52 rfl K
  · replace K := K.2 c6
    refine g_aload_n dX8_come_13 rfl 0 rfl ?_
    refine g_iload_n dX8_come_14 rfl 2 rfl ?_
    obtain ⟨e14, K⟩ := K
    obtain ⟨q12, C13, K⟩ := K
    refine g_callV (M' := mX8_isFloor) (b := a0) (As := [.int x2]) (rest := []) (rc' := rc) (rs' := rs) dX8_come_15 bw_1627 bw_1629 bs_96 bw_9 bw_1630 ⟨by decide +kernel, by decide +kernel, show (parseMethodDescriptor mX8_isFloor.1.desc).map (fun d => d.parameters.length) = some 1 by decide +kernel⟩ (by decide) (by decide) (Nat.le_of_ble_eq_true rfl) fc_8 (by decide) rfl e14 C13 (Nat.le_of_eq (Nat.add_zero _)) (Nat.le_of_eq (Nat.add_zero _)) (fun _ _ h => h) ?_
    rintro _ h15 ⟨r16, rfl, K1⟩ -
    replace K := K r16 h15 K1
    show Gm l x mX8_come 3 18 [(0, .ref a0), (1, .int x1), (2, .int x2), (3, .int x3)] [.int r16] h15 rc rs n0 Q X
    refine g_if_eq (tgt := 47) dX8_come_18 (by decide) (fun c17 => ?_) (fun c17 => ?_)
    · replace K := K.1 c17
      refine g_aload_n dX8_come_47 rfl 0 rfl ?_
      refine g_iconst (v := 1) dX8_come_48 (by decide) ?_
      obtain ⟨e20, K⟩ := K
      obtain ⟨q18, C19, K⟩ := K
      refine g_callV (M' := mX8_refuse) (b := a0) (As := [.int 1]) (rest := []) (rc' := rc) (rs' := rs) dX8_come_49 bw_1639 bw_1641 bs_97 bw_9 bw_1642 ⟨by decide +kernel, by decide +kernel, show (parseMethodDescriptor mX8_refuse.1.desc).map (fun d => d.parameters.length) = some 1 by decide +kernel⟩ (by decide) (by decide) (Nat.le_of_ble_eq_true rfl) fc_8 (by decide) rfl e20 C19 (Nat.le_of_eq (Nat.add_zero _)) (Nat.le_of_eq (Nat.add_zero _)) (fun _ _ h => h) ?_
      rintro _ h21 ⟨r22, rfl, K1⟩ -
      replace K := K r22 h21 K1
      show Gm l x mX8_come 3 52 [(0, .ref a0), (1, .int x1), (2, .int x2), (3, .int x3)] [.int r22] h21 rc rs n0 Q X
      exact g_iret dX8_come_52 rfl K
    · replace K := K.2 c17
      refine g_iload_n dX8_come_21 rfl 1 rfl ?_
      refine g_iload_n dX8_come_22 rfl 2 rfl ?_
      refine g_icmp_eq (tgt := 47) dX8_come_23 (by decide) (fun c23 => ?_) (fun c23 => ?_)
      · replace K := K.1 c23
        refine g_aload_n dX8_come_47 rfl 0 rfl ?_
        refine g_iconst (v := 1) dX8_come_48 (by decide) ?_
        obtain ⟨e26, K⟩ := K
        obtain ⟨q24, C25, K⟩ := K
        refine g_callV (M' := mX8_refuse) (b := a0) (As := [.int 1]) (rest := []) (rc' := rc) (rs' := rs) dX8_come_49 bw_1639 bw_1641 bs_97 bw_9 bw_1642 ⟨by decide +kernel, by decide +kernel, show (parseMethodDescriptor mX8_refuse.1.desc).map (fun d => d.parameters.length) = some 1 by decide +kernel⟩ (by decide) (by decide) (Nat.le_of_ble_eq_true rfl) fc_8 (by decide) rfl e26 C25 (Nat.le_of_eq (Nat.add_zero _)) (Nat.le_of_eq (Nat.add_zero _)) (fun _ _ h => h) ?_
        rintro _ h27 ⟨r28, rfl, K1⟩ -
        replace K := K r28 h27 K1
        show Gm l x mX8_come 3 52 [(0, .ref a0), (1, .int x1), (2, .int x2), (3, .int x3)] [.int r28] h27 rc rs n0 Q X
        exact g_iret dX8_come_52 rfl K
      · replace K := K.2 c23
        refine g_iload_n dX8_come_26 rfl 3 rfl ?_
        refine g_iconst (v := 1) dX8_come_27 (by decide) ?_
        refine g_iconst (v := 2) dX8_come_28 (by decide) ?_
        obtain ⟨q29, C30, K⟩ := K
        refine g_callS (M' := mX8_isIn) (As := [.int x3, .int 1, .int 2]) (rest := []) (rc' := rc) (rs' := rs) dX8_come_29 bw_1612 bw_1613 bw_9 bw_1614 ⟨by decide +kernel, by decide +kernel, show (parseMethodDescriptor mX8_isIn.1.desc).map (fun d => d.parameters.length) = some 3 by decide +kernel⟩ (by decide) (by decide) (Nat.le_of_ble_eq_true rfl) C30 (Nat.le_of_eq (Nat.add_zero _)) (Nat.le_of_eq (Nat.add_zero _)) (fun _ _ h => h) ?_
        rintro _ h31 ⟨r32, rfl, K1⟩ -
        replace K := K r32 h31 K1
        show Gm l x mX8_come 3 32 [(0, .ref a0), (1, .int x1), (2, .int x2), (3, .int x3)] [.int r32] h31 rc rs n0 Q X
        refine g_if_eq (tgt := 47) dX8_come_32 (by decide) (fun c33 => ?_) (fun c33 => ?_)
        · replace K := K.1 c33
          refine g_aload_n dX8_come_47 rfl 0 rfl ?_
          refine g_iconst (v := 1) dX8_come_48 (by decide) ?_
          obtain ⟨e36, K⟩ := K
          obtain ⟨q34, C35, K⟩ := K
          refine g_callV (M' := mX8_refuse) (b := a0) (As := [.int 1]) (rest := []) (rc' := rc) (rs' := rs) dX8_come_49 bw_1639 bw_1641 bs_97 bw_9 bw_1642 ⟨by decide +kernel, by decide +kernel, show (parseMethodDescriptor mX8_refuse.1.desc).map (fun d => d.parameters.length) = some 1 by decide +kernel⟩ (by decide) (by decide) (Nat.le_of_ble_eq_true rfl) fc_8 (by decide) rfl e36 C35 (Nat.le_of_eq (Nat.add_zero _)) (Nat.le_of_eq (Nat.add_zero _)) (fun _ _ h => h) ?_
          rintro _ h37 ⟨r38, rfl, K1⟩ -
          replace K := K r38 h37 K1
          show Gm l x mX8_come 3 52 [(0, .ref a0), (1, .int x1), (2, .int x2), (3, .int x3)] [.int r38] h37 rc rs n0 Q X
          exact g_iret dX8_come_52 rfl K
        · replace K := K.2 c33
          refine g_aload_n dX8_come_35 rfl 0 rfl ?_
          obtain ⟨e39, b40, e41, K⟩ := K
          refine g_get (c := 8) (k := 2) (v := .ref b40) dX8_come_36 fc_8 (by decide) (by decide) bw_1200 (congrArg pr e41) e39 ?_
          refine g_bipush (v := 6) dX8_come_39 (by decide) ?_
          obtain ⟨e42, e43, K⟩ := K
          refine g_iald dX8_come_41 e42 e43 ?_
          refine g_bipush (v := 24) dX8_come_42 (by decide) ?_
          refine g_icmp_ne (tgt := 53) dX8_come_44 (by decide) (fun c44 => ?_) (fun c44 => ?_)
          · replace K := K.1 c44
            refine g_aload_n dX8_come_53 rfl 0 rfl ?_
            obtain ⟨q45, C46, K⟩ := K
            refine g_callV (M' := mX8_keep) (b := a0) (As := []) (rest := []) (rc' := rc) (rs' := rs) dX8_come_54 bw_1643 bw_1645 bs_98 bw_9 bw_1646 ⟨by decide +kernel, by decide +kernel, show (parseMethodDescriptor mX8_keep.1.desc).map (fun d => d.parameters.length) = some 0 by decide +kernel⟩ (by decide) (by decide) (Nat.le_of_ble_eq_true rfl) fc_8 (by decide) rfl e39 C46 (Nat.le_of_eq (Nat.add_zero _)) (Nat.le_of_eq (Nat.add_zero _)) (fun _ _ h => h) ?_
            rintro _ h47 ⟨rfl, K1⟩ -
            replace K := K h47 K1
            show Gm l x mX8_come 3 57 [(0, .ref a0), (1, .int x1), (2, .int x2), (3, .int x3)] [] h47 rc rs n0 Q X
            refine g_aload_n dX8_come_57 rfl 0 rfl ?_
            refine g_iload_n dX8_come_58 rfl 1 rfl ?_
            refine g_iload_n dX8_come_59 rfl 2 rfl ?_
            refine g_iload_n dX8_come_60 rfl 3 rfl ?_
            obtain ⟨e50, K⟩ := K
            obtain ⟨q48, C49, K⟩ := K
            refine g_callV (M' := mX8_comesNow) (b := a0) (As := [.int x1, .int x2, .int x3]) (rest := []) (rc' := rc) (rs' := rs) dX8_come_61 bw_1651 bw_1653 bs_99 bw_9 bw_1654 ⟨by decide +kernel, by decide +kernel, show (parseMethodDescriptor mX8_comesNow.1.desc).map (fun d => d.parameters.length) = some 3 by decide +kernel⟩ (by decide) (by decide) (Nat.le_of_ble_eq_true rfl) fc_8 (by decide) rfl e50 C49 (Nat.le_of_eq (Nat.add_zero _)) (Nat.le_of_eq (Nat.add_zero _)) (fun _ _ h => h) ?_
            rintro _ h51 ⟨r52, rfl, K1⟩ -
            replace K := K r52 h51 K1
            show Gm l x mX8_come 3 64 [(0, .ref a0), (1, .int x1), (2, .int x2), (3, .int x3)] [.int r52] h51 rc rs n0 Q X
            exact g_iret dX8_come_64 rfl K
          · replace K := K.2 c44
            refine g_aload_n dX8_come_47 rfl 0 rfl ?_
            refine g_iconst (v := 1) dX8_come_48 (by decide) ?_
            obtain ⟨q53, C54, K⟩ := K
            refine g_callV (M' := mX8_refuse) (b := a0) (As := [.int 1]) (rest := []) (rc' := rc) (rs' := rs) dX8_come_49 bw_1639 bw_1641 bs_97 bw_9 bw_1642 ⟨by decide +kernel, by decide +kernel, show (parseMethodDescriptor mX8_refuse.1.desc).map (fun d => d.parameters.length) = some 1 by decide +kernel⟩ (by decide) (by decide) (Nat.le_of_ble_eq_true rfl) fc_8 (by decide) rfl e39 C54 (Nat.le_of_eq (Nat.add_zero _)) (Nat.le_of_eq (Nat.add_zero _)) (fun _ _ h => h) ?_
            rintro _ h55 ⟨r56, rfl, K1⟩ -
            replace K := K r56 h55 K1
            show Gm l x mX8_come 3 52 [(0, .ref a0), (1, .int x1), (2, .int x2), (3, .int x3)] [.int r56] h55 rc rs n0 Q X
            exact g_iret dX8_come_52 rfl K
theorem dX8_out_0 : decode cX8_out 0 = .ok (.aload_n 0, 1) := by decide +kernel
theorem dX8_out_1 : decode cX8_out 1 = .ok (.iconst 0, 1) := by decide +kernel
theorem dX8_out_2 : decode cX8_out 2 = .ok (.putfield 104, 3) := by decide +kernel
theorem dX8_out_5 : decode cX8_out 5 = .ok (.aload_n 0, 1) := by decide +kernel
theorem dX8_out_6 : decode cX8_out 6 = .ok (.iload_n 1, 1) := by decide +kernel
theorem dX8_out_7 : decode cX8_out 7 = .ok (.invokevirtual 393, 3) := by decide +kernel
theorem dX8_out_10 : decode cX8_out 10 = .ok (.ifCond .eq 21, 3) := by decide +kernel
theorem dX8_out_13 : decode cX8_out 13 = .ok (.aload_n 0, 1) := by decide +kernel
theorem dX8_out_14 : decode cX8_out 14 = .ok (.iload_n 1, 1) := by decide +kernel
theorem dX8_out_15 : decode cX8_out 15 = .ok (.iconst 4, 1) := by decide +kernel
theorem dX8_out_16 : decode cX8_out 16 = .ok (.invokevirtual 238, 3) := by decide +kernel
theorem dX8_out_19 : decode cX8_out 19 = .ok (.iload_n 2, 1) := by decide +kernel
theorem dX8_out_20 : decode cX8_out 20 = .ok (.ifCond .eq 7, 3) := by decide +kernel
theorem dX8_out_23 : decode cX8_out 23 = .ok (.iconst 0, 1) := by decide +kernel
theorem dX8_out_24 : decode cX8_out 24 = .ok (.goto 4, 3) := by decide +kernel
theorem dX8_out_27 : decode cX8_out 27 = .ok (.iconst 1, 1) := by decide +kernel
theorem dX8_out_28 : decode cX8_out 28 = .ok (.if_icmp .ne 8, 3) := by decide +kernel
theorem dX8_out_31 : decode cX8_out 31 = .ok (.aload_n 0, 1) := by decide +kernel
theorem dX8_out_32 : decode cX8_out 32 = .ok (.invokevirtual 411, 3) := by decide +kernel
theorem dX8_out_35 : decode cX8_out 35 = .ok (.ireturn, 1) := by decide +kernel
theorem dX8_out_36 : decode cX8_out 36 = .ok (.aload_n 0, 1) := by decide +kernel
theorem dX8_out_37 : decode cX8_out 37 = .ok (.invokevirtual 405, 3) := by decide +kernel
theorem dX8_out_40 : decode cX8_out 40 = .ok (.aload_n 0, 1) := by decide +kernel
theorem dX8_out_41 : decode cX8_out 41 = .ok (.iload_n 1, 1) := by decide +kernel
theorem dX8_out_42 : decode cX8_out 42 = .ok (.iconst 4, 1) := by decide +kernel
theorem dX8_out_43 : decode cX8_out 43 = .ok (.iload_n 2, 1) := by decide +kernel
theorem dX8_out_44 : decode cX8_out 44 = .ok (.ifCond .eq 7, 3) := by decide +kernel
theorem dX8_out_47 : decode cX8_out 47 = .ok (.iconst 0, 1) := by decide +kernel
theorem dX8_out_48 : decode cX8_out 48 = .ok (.goto 4, 3) := by decide +kernel
theorem dX8_out_51 : decode cX8_out 51 = .ok (.iconst 1, 1) := by decide +kernel
theorem dX8_out_52 : decode cX8_out 52 = .ok (.invokevirtual 221, 3) := by decide +kernel
theorem dX8_out_55 : decode cX8_out 55 = .ok (.iload_n 2, 1) := by decide +kernel
theorem dX8_out_56 : decode cX8_out 56 = .ok (.ifCond .ne 5, 3) := by decide +kernel
theorem dX8_out_59 : decode cX8_out 59 = .ok (.iconst 1, 1) := by decide +kernel
theorem dX8_out_60 : decode cX8_out 60 = .ok (.ireturn, 1) := by decide +kernel
theorem dX8_out_61 : decode cX8_out 61 = .ok (.aload_n 0, 1) := by decide +kernel
theorem dX8_out_62 : decode cX8_out 62 = .ok (.iload_n 1, 1) := by decide +kernel
theorem dX8_out_63 : decode cX8_out 63 = .ok (.invokevirtual 307, 3) := by decide +kernel
theorem dX8_out_66 : decode cX8_out 66 = .ok (.aload_n 0, 1) := by decide +kernel
theorem dX8_out_67 : decode cX8_out 67 = .ok (.iload_n 1, 1) := by decide +kernel
theorem dX8_out_68 : decode cX8_out 68 = .ok (.iconst 2, 1) := by decide +kernel
theorem dX8_out_69 : decode cX8_out 69 = .ok (.iconst 0, 1) := by decide +kernel
theorem dX8_out_70 : decode cX8_out 70 = .ok (.invokevirtual 221, 3) := by decide +kernel
theorem dX8_out_73 : decode cX8_out 73 = .ok (.aload_n 0, 1) := by decide +kernel
theorem dX8_out_74 : decode cX8_out 74 = .ok (.iload_n 1, 1) := by decide +kernel
theorem dX8_out_75 : decode cX8_out 75 = .ok (.iconst 1, 1) := by decide +kernel
theorem dX8_out_76 : decode cX8_out 76 = .ok (.iconst 0, 1) := by decide +kernel
theorem dX8_out_77 : decode cX8_out 77 = .ok (.invokevirtual 221, 3) := by decide +kernel
theorem dX8_out_80 : decode cX8_out 80 = .ok (.sipush 264, 3) := by decide +kernel
theorem dX8_out_83 : decode cX8_out 83 = .ok (.istore_n 3, 1) := by decide +kernel
theorem dX8_out_84 : decode cX8_out 84 = .ok (.iload_n 3, 1) := by decide +kernel
theorem dX8_out_85 : decode cX8_out 85 = .ok (.sipush 312, 3) := by decide +kernel
theorem dX8_out_88 : decode cX8_out 88 = .ok (.if_icmp .ge 37, 3) := by decide +kernel
theorem dX8_out_91 : decode cX8_out 91 = .ok (.aload_n 0, 1) := by decide +kernel
theorem dX8_out_92 : decode cX8_out 92 = .ok (.getfield 29, 3) := by decide +kernel
theorem dX8_out_95 : decode cX8_out 95 = .ok (.iload_n 3, 1) := by decide +kernel
theorem dX8_out_96 : decode cX8_out 96 = .ok (.aload_n 0, 1) := by decide +kernel
theorem dX8_out_97 : decode cX8_out 97 = .ok (.getfield 29, 3) := by decide +kernel
theorem dX8_out_100 : decode cX8_out 100 = .ok (.iload_n 3, 1) := by decide +kernel
theorem dX8_out_101 : decode cX8_out 101 = .ok (.iaload, 1) := by decide +kernel
theorem dX8_out_102 : decode cX8_out 102 = .ok (.iload_n 1, 1) := by decide +kernel
theorem dX8_out_103 : decode cX8_out 103 = .ok (.iconst 1, 1) := by decide +kernel
theorem dX8_out_104 : decode cX8_out 104 = .ok (.iadd, 1) := by decide +kernel
theorem dX8_out_105 : decode cX8_out 105 = .ok (.if_icmp .ne 7, 3) := by decide +kernel
theorem dX8_out_108 : decode cX8_out 108 = .ok (.iconst 0, 1) := by decide +kernel
theorem dX8_out_109 : decode cX8_out 109 = .ok (.goto 9, 3) := by decide +kernel
theorem dX8_out_112 : decode cX8_out 112 = .ok (.aload_n 0, 1) := by decide +kernel
theorem dX8_out_113 : decode cX8_out 113 = .ok (.getfield 29, 3) := by decide +kernel
theorem dX8_out_116 : decode cX8_out 116 = .ok (.iload_n 3, 1) := by decide +kernel
theorem dX8_out_117 : decode cX8_out 117 = .ok (.iaload, 1) := by decide +kernel
theorem dX8_out_118 : decode cX8_out 118 = .ok (.iastore, 1) := by decide +kernel
theorem dX8_out_119 : decode cX8_out 119 = .ok (.iinc 3 1, 3) := by decide +kernel
theorem dX8_out_122 : decode cX8_out 122 = .ok (.goto (-38), 3) := by decide +kernel
theorem dX8_out_125 : decode cX8_out 125 = .ok (.iconst 1, 1) := by decide +kernel
theorem dX8_out_126 : decode cX8_out 126 = .ok (.ireturn, 1) := by decide +kernel
set_option maxRecDepth 20000 in
set_option maxHeartbeats 4000000 in
theorem vX8_out_0 {l : Launch} {x : CX} {a0 : Nat} {x1 : Int32} {x2 : Int32} {h : PH} {rc rs n0 : Nat} {Q : Option Value → PH → Prop} {X : String → PH → Prop}
    (K : ((hK h a0).1 = 8) ∧ ∃ (q2 : Int32 → PH → Prop), CI l x mX8_isCar 1 0 0 [.ref a0, .int x1] (sI h a0 1 0) q2 ∧ ∀ (r5 : Int32) (h4 : PH), q2 r5 h4 → ((r5 = 0 → ((hK h4 a0).1 = 8) ∧ ∃ (q7 : Int32 → PH → Prop), CI l x mX8_refused 1 0 0 [.ref a0] h4 q7 ∧ ∀ (r11 : Int32) (h10 : PH), q7 r11 h10 → ((r11 : Int32) = 0 ∨ (r11 : Int32) = 1) ∧ Q (some (.int r11)) h10) ∧ (¬ r5 = 0 → ((hK h4 a0).1 = 8) ∧ ∃ (q12 : Int32 → PH → Prop), CI l x mX8_carOf 0 0 0 [.ref a0, .int x1, .int 4] h4 q12 ∧ ∀ (r16 : Int32) (h15 : PH), q12 r16 h15 → ((¬ r16 = (if x2 = 0 then 1 else 0 : Int32) → ((hK h15 a0).1 = 8) ∧ ∃ (q19 : PH → Prop), CV l x mX8_keep 0 0 0 [.ref a0] h15 q19 ∧ ∀ (h22 : PH), q19 h22 → ((hK h22 a0).1 = 8) ∧ ∃ (q24 : PH → Prop), CV l x mX8_putCar 0 0 0 [.ref a0, .int x1, .int 4, .int (if x2 = 0 then 1 else 0 : Int32)] h22 q24 ∧ ∀ (h27 : PH), q24 h27 → ((¬ x2 = 0 → ((hK h27 a0).1 = 8) ∧ ∃ (q29 : PH → Prop), CV l x mX8_empties 2 0 0 [.ref a0, .int x1] h27 q29 ∧ ∀ (h32 : PH), q29 h32 → ((hK h32 a0).1 = 8) ∧ ∃ (q33 : PH → Prop), CV l x mX8_putCar 0 0 0 [.ref a0, .int x1, .int 2, .int 0] h32 q33 ∧ ∀ (h36 : PH), q33 h36 → ((hK h36 a0).1 = 8) ∧ ∃ (q37 : PH → Prop), CV l x mX8_putCar 0 0 0 [.ref a0, .int x1, .int 1, .int 0] h36 q37 ∧ ∀ (h40 : PH), q37 h40 → Gm l x mX8_out 3 84 [(0, .ref a0), (1, .int x1), (2, .int x2), (3, .int 264)] [] h40 rc rs n0 Q X) ∧ (x2 = 0 → ((1 : Int32) = 0 ∨ (1 : Int32) = 1) ∧ Q (some (.int 1)) h27))) ∧ (r16 = (if x2 = 0 then 1 else 0 : Int32) → ((hK h15 a0).1 = 8) ∧ ∃ (q41 : Int32 → PH → Prop), CI l x mX8_refused 1 0 0 [.ref a0] h15 q41 ∧ ∀ (r45 : Int32) (h44 : PH), q41 r45 h44 → ((r45 : Int32) = 0 ∨ (r45 : Int32) = 1) ∧ Q (some (.int r45)) h44))))) :
    Gm l x mX8_out 3 0 [(0, .ref a0), (1, .int x1), (2, .int x2)] [] h rc rs n0 Q X := by
  refine g_aload_n dX8_out_0 rfl 0 rfl ?_
  refine g_iconst (v := 0) dX8_out_1 (by decide) ?_
  obtain ⟨e1, K⟩ := K
  refine g_puti (c := 8) (k := 1) dX8_out_2 fc_8 (by decide) (by decide) bw_1199 (Or.inl rfl) rfl e1 ?_
  refine g_aload_n dX8_out_5 rfl 0 rfl ?_
  refine g_iload_n dX8_out_6 rfl 1 rfl ?_
  obtain ⟨q2, C3, K⟩ := K
  refine g_callV (M' := mX8_isCar) (b := a0) (As := [.int x1]) (rest := []) (rc' := rc) (rs' := rs) dX8_out_7 bw_1608 bw_1610 bs_94 bw_9 bw_1611 ⟨by decide +kernel, by decide +kernel, show (parseMethodDescriptor mX8_isCar.1.desc).map (fun d => d.parameters.length) = some 1 by decide +kernel⟩ (by decide) (by decide) (Nat.le_of_ble_eq_true rfl) fc_8 (by decide) rfl (kkI e1) C3 (Nat.le_of_eq (Nat.add_zero _)) (Nat.le_of_eq (Nat.add_zero _)) (fun _ _ h => h) ?_
  rintro _ h4 ⟨r5, rfl, K1⟩ -
  replace K := K r5 h4 K1
  show Gm l x mX8_out 3 10 [(0, .ref a0), (1, .int x1), (2, .int x2)] [.int r5] h4 rc rs n0 Q X
  refine g_if_eq (tgt := 31) dX8_out_10 (by decide) (fun c6 => ?_) (fun c6 => ?_)
  · replace K := K.1 c6
    refine g_aload_n dX8_out_31 rfl 0 rfl ?_
    obtain ⟨e9, K⟩ := K
    obtain ⟨q7, C8, K⟩ := K
    refine g_callV (M' := mX8_refused) (b := a0) (As := []) (rest := []) (rc' := rc) (rs' := rs) dX8_out_32 bw_1659 bw_1661 bs_100 bw_9 bw_1662 ⟨by decide +kernel, by decide +kernel, show (parseMethodDescriptor mX8_refused.1.desc).map (fun d => d.parameters.length) = some 0 by decide +kernel⟩ (by decide) (by decide) (Nat.le_of_ble_eq_true rfl) fc_8 (by decide) rfl e9 C8 (Nat.le_of_eq (Nat.add_zero _)) (Nat.le_of_eq (Nat.add_zero _)) (fun _ _ h => h) ?_
    rintro _ h10 ⟨r11, rfl, K1⟩ -
    replace K := K r11 h10 K1
    show Gm l x mX8_out 3 35 [(0, .ref a0), (1, .int x1), (2, .int x2)] [.int r11] h10 rc rs n0 Q X
    exact g_zret dX8_out_35 rfl K.1 K.2
  · replace K := K.2 c6
    refine g_aload_n dX8_out_13 rfl 0 rfl ?_
    refine g_iload_n dX8_out_14 rfl 1 rfl ?_
    refine g_iconst (v := 4) dX8_out_15 (by decide) ?_
    obtain ⟨e14, K⟩ := K
    obtain ⟨q12, C13, K⟩ := K
    refine g_callV (M' := mX8_carOf) (b := a0) (As := [.int x1, .int 4]) (rest := []) (rc' := rc) (rs' := rs) dX8_out_16 bw_1476 bw_1478 bs_67 bw_9 bw_1479 ⟨by decide +kernel, by decide +kernel, show (parseMethodDescriptor mX8_carOf.1.desc).map (fun d => d.parameters.length) = some 2 by decide +kernel⟩ (by decide) (by decide) (Nat.le_of_ble_eq_true rfl) fc_8 (by decide) rfl e14 C13 (Nat.le_of_eq (Nat.add_zero _)) (Nat.le_of_eq (Nat.add_zero _)) (fun _ _ h => h) ?_
    rintro _ h15 ⟨r16, rfl, K1⟩ -
    replace K := K r16 h15 K1
    show Gm l x mX8_out 3 19 [(0, .ref a0), (1, .int x1), (2, .int x2)] [.int r16] h15 rc rs n0 Q X
    refine g_iload_n dX8_out_19 rfl 2 rfl ?_
    have KJ : Gm l x mX8_out 3 28 [(0, .ref a0), (1, .int x1), (2, .int x2)] [.int (if x2 = 0 then 1 else 0 : Int32), .int r16] h15 rc rs n0 Q X := by
      refine g_icmp_ne (tgt := 36) dX8_out_28 (by decide) (fun c18 => ?_) (fun c18 => ?_)
      · replace K := K.1 c18
        refine g_aload_n dX8_out_36 rfl 0 rfl ?_
        obtain ⟨e21, K⟩ := K
        obtain ⟨q19, C20, K⟩ := K
        refine g_callV (M' := mX8_keep) (b := a0) (As := []) (rest := []) (rc' := rc) (rs' := rs) dX8_out_37 bw_1643 bw_1645 bs_98 bw_9 bw_1646 ⟨by decide +kernel, by decide +kernel, show (parseMethodDescriptor mX8_keep.1.desc).map (fun d => d.parameters.length) = some 0 by decide +kernel⟩ (by decide) (by decide) (Nat.le_of_ble_eq_true rfl) fc_8 (by decide) rfl e21 C20 (Nat.le_of_eq (Nat.add_zero _)) (Nat.le_of_eq (Nat.add_zero _)) (fun _ _ h => h) ?_
        rintro _ h22 ⟨rfl, K1⟩ -
        replace K := K h22 K1
        show Gm l x mX8_out 3 40 [(0, .ref a0), (1, .int x1), (2, .int x2)] [] h22 rc rs n0 Q X
        refine g_aload_n dX8_out_40 rfl 0 rfl ?_
        refine g_iload_n dX8_out_41 rfl 1 rfl ?_
        refine g_iconst (v := 4) dX8_out_42 (by decide) ?_
        refine g_iload_n dX8_out_43 rfl 2 rfl ?_
        have KJ : Gm l x mX8_out 3 52 [(0, .ref a0), (1, .int x1), (2, .int x2)] [.int (if x2 = 0 then 1 else 0 : Int32), .int 4, .int x1, .ref a0] h22 rc rs n0 Q X := by
          obtain ⟨e26, K⟩ := K
          obtain ⟨q24, C25, K⟩ := K
          refine g_callV (M' := mX8_putCar) (b := a0) (As := [.int x1, .int 4, .int (if x2 = 0 then 1 else 0 : Int32)]) (rest := []) (rc' := rc) (rs' := rs) dX8_out_52 bw_1190 bw_1192 bs_37 bw_9 bw_1193 ⟨by decide +kernel, by decide +kernel, show (parseMethodDescriptor mX8_putCar.1.desc).map (fun d => d.parameters.length) = some 3 by decide +kernel⟩ (by decide) (by decide) (Nat.le_of_ble_eq_true rfl) fc_8 (by decide) rfl e26 C25 (Nat.le_of_eq (Nat.add_zero _)) (Nat.le_of_eq (Nat.add_zero _)) (fun _ _ h => h) ?_
          rintro _ h27 ⟨rfl, K1⟩ -
          replace K := K h27 K1
          show Gm l x mX8_out 3 55 [(0, .ref a0), (1, .int x1), (2, .int x2)] [] h27 rc rs n0 Q X
          refine g_iload_n dX8_out_55 rfl 2 rfl ?_
          refine g_if_ne (tgt := 61) dX8_out_56 (by decide) (fun c28 => ?_) (fun c28 => ?_)
          · replace K := K.1 c28
            refine g_aload_n dX8_out_61 rfl 0 rfl ?_
            refine g_iload_n dX8_out_62 rfl 1 rfl ?_
            obtain ⟨e31, K⟩ := K
            obtain ⟨q29, C30, K⟩ := K
            refine g_callV (M' := mX8_empties) (b := a0) (As := [.int x1]) (rest := []) (rc' := rc) (rs' := rs) dX8_out_63 bw_1568 bw_1570 bs_85 bw_9 bw_1571 ⟨by decide +kernel, by decide +kernel, show (parseMethodDescriptor mX8_empties.1.desc).map (fun d => d.parameters.length) = some 1 by decide +kernel⟩ (by decide) (by decide) (Nat.le_of_ble_eq_true rfl) fc_8 (by decide) rfl e31 C30 (Nat.le_of_eq (Nat.add_zero _)) (Nat.le_of_eq (Nat.add_zero _)) (fun _ _ h => h) ?_
            rintro _ h32 ⟨rfl, K1⟩ -
            replace K := K h32 K1
            show Gm l x mX8_out 3 66 [(0, .ref a0), (1, .int x1), (2, .int x2)] [] h32 rc rs n0 Q X
            refine g_aload_n dX8_out_66 rfl 0 rfl ?_
            refine g_iload_n dX8_out_67 rfl 1 rfl ?_
            refine g_iconst (v := 2) dX8_out_68 (by decide) ?_
            refine g_iconst (v := 0) dX8_out_69 (by decide) ?_
            obtain ⟨e35, K⟩ := K
            obtain ⟨q33, C34, K⟩ := K
            refine g_callV (M' := mX8_putCar) (b := a0) (As := [.int x1, .int 2, .int 0]) (rest := []) (rc' := rc) (rs' := rs) dX8_out_70 bw_1190 bw_1192 bs_37 bw_9 bw_1193 ⟨by decide +kernel, by decide +kernel, show (parseMethodDescriptor mX8_putCar.1.desc).map (fun d => d.parameters.length) = some 3 by decide +kernel⟩ (by decide) (by decide) (Nat.le_of_ble_eq_true rfl) fc_8 (by decide) rfl e35 C34 (Nat.le_of_eq (Nat.add_zero _)) (Nat.le_of_eq (Nat.add_zero _)) (fun _ _ h => h) ?_
            rintro _ h36 ⟨rfl, K1⟩ -
            replace K := K h36 K1
            show Gm l x mX8_out 3 73 [(0, .ref a0), (1, .int x1), (2, .int x2)] [] h36 rc rs n0 Q X
            refine g_aload_n dX8_out_73 rfl 0 rfl ?_
            refine g_iload_n dX8_out_74 rfl 1 rfl ?_
            refine g_iconst (v := 1) dX8_out_75 (by decide) ?_
            refine g_iconst (v := 0) dX8_out_76 (by decide) ?_
            obtain ⟨e39, K⟩ := K
            obtain ⟨q37, C38, K⟩ := K
            refine g_callV (M' := mX8_putCar) (b := a0) (As := [.int x1, .int 1, .int 0]) (rest := []) (rc' := rc) (rs' := rs) dX8_out_77 bw_1190 bw_1192 bs_37 bw_9 bw_1193 ⟨by decide +kernel, by decide +kernel, show (parseMethodDescriptor mX8_putCar.1.desc).map (fun d => d.parameters.length) = some 3 by decide +kernel⟩ (by decide) (by decide) (Nat.le_of_ble_eq_true rfl) fc_8 (by decide) rfl e39 C38 (Nat.le_of_eq (Nat.add_zero _)) (Nat.le_of_eq (Nat.add_zero _)) (fun _ _ h => h) ?_
            rintro _ h40 ⟨rfl, K1⟩ -
            replace K := K h40 K1
            show Gm l x mX8_out 3 80 [(0, .ref a0), (1, .int x1), (2, .int x2)] [] h40 rc rs n0 Q X
            refine g_sipush (v := 264) dX8_out_80 (by decide) ?_
            refine g_istore_n (lv' := [(0, .ref a0), (1, .int x1), (2, .int x2), (3, .int 264)]) dX8_out_83 rfl (by decide) rfl ?_
            exact K
          · replace K := K.2 c28
            refine g_iconst (v := 1) dX8_out_59 (by decide) ?_
            exact g_zret dX8_out_60 rfl K.1 K.2
        refine g_if_eq (tgt := 51) dX8_out_44 (by decide) (fun c23 => ?_) (fun c23 => ?_)
        · refine g_iconst (v := 1) dX8_out_51 (by decide) ?_
          first | (simp only [if_pos c23] at KJ; exact KJ) | (simp only [if_pos c23, ite_true, ite_false, eq_self] at KJ; exact KJ) | (simp only [if_pos c23] at KJ ⊢; exact KJ) | exact KJ
        · refine g_iconst (v := 0) dX8_out_47 (by decide) ?_
          refine g_goto (tgt := 52) dX8_out_48 (by decide) ?_
          first | (simp only [if_neg c23] at KJ; exact KJ) | (simp only [if_neg c23, ite_true, ite_false, eq_self] at KJ; exact KJ) | (simp only [if_neg c23] at KJ ⊢; exact KJ) | exact KJ
      · replace K := K.2 c18
        refine g_aload_n dX8_out_31 rfl 0 rfl ?_
        obtain ⟨e43, K⟩ := K
        obtain ⟨q41, C42, K⟩ := K
        refine g_callV (M' := mX8_refused) (b := a0) (As := []) (rest := []) (rc' := rc) (rs' := rs) dX8_out_32 bw_1659 bw_1661 bs_100 bw_9 bw_1662 ⟨by decide +kernel, by decide +kernel, show (parseMethodDescriptor mX8_refused.1.desc).map (fun d => d.parameters.length) = some 0 by decide +kernel⟩ (by decide) (by decide) (Nat.le_of_ble_eq_true rfl) fc_8 (by decide) rfl e43 C42 (Nat.le_of_eq (Nat.add_zero _)) (Nat.le_of_eq (Nat.add_zero _)) (fun _ _ h => h) ?_
        rintro _ h44 ⟨r45, rfl, K1⟩ -
        replace K := K r45 h44 K1
        show Gm l x mX8_out 3 35 [(0, .ref a0), (1, .int x1), (2, .int x2)] [.int r45] h44 rc rs n0 Q X
        exact g_zret dX8_out_35 rfl K.1 K.2
    refine g_if_eq (tgt := 27) dX8_out_20 (by decide) (fun c17 => ?_) (fun c17 => ?_)
    · refine g_iconst (v := 1) dX8_out_27 (by decide) ?_
      first | (simp only [if_pos c17] at KJ; exact KJ) | (simp only [if_pos c17, ite_true, ite_false, eq_self] at KJ; exact KJ) | (simp only [if_pos c17] at KJ ⊢; exact KJ) | exact KJ
    · refine g_iconst (v := 0) dX8_out_23 (by decide) ?_
      refine g_goto (tgt := 28) dX8_out_24 (by decide) ?_
      first | (simp only [if_neg c17] at KJ; exact KJ) | (simp only [if_neg c17, ite_true, ite_false, eq_self] at KJ; exact KJ) | (simp only [if_neg c17] at KJ ⊢; exact KJ) | exact KJ
set_option maxRecDepth 20000 in
set_option maxHeartbeats 4000000 in
theorem vX8_out_84 {l : Launch} {x : CX} {a0 : Nat} {x1 : Int32} {x2 : Int32} {x3 : Int32} {h : PH} {rc rs n0 : Nat} {Q : Option Value → PH → Prop} {X : String → PH → Prop}
    (K : ((312 ≤ x3 → ((1 : Int32) = 0 ∨ (1 : Int32) = 1) ∧ Q (some (.int 1)) h) ∧ (¬ 312 ≤ x3 → ((hK h a0).1 = 8) ∧ ∃ b3, (hR h a0 2 = some b3) ∧ ((hK h b3).1 = 100) ∧ (vp_in x3 (hK h b3).2) ∧ ((¬ (hI h b3 x3.toNatClampNeg) = (x1 + 1) → (vp_in x3 (hK h b3).2) ∧ (vp_in x3 (hK h b3).2) ∧ Gm l x mX8_out 3 84 [(0, .ref a0), (1, .int x1), (2, .int x2), (3, .int (x3 + 1))] [] (sI h b3 x3.toNatClampNeg (hI h b3 x3.toNatClampNeg)) rc rs n0 Q X) ∧ ((hI h b3 x3.toNatClampNeg) = (x1 + 1) → (vp_in x3 (hK h b3).2) ∧ Gm l x mX8_out 3 84 [(0, .ref a0), (1, .int x1), (2, .int x2), (3, .int (x3 + 1))] [] (sI h b3 x3.toNatClampNeg 0) rc rs n0 Q X))))) :
    Gm l x mX8_out 3 84 [(0, .ref a0), (1, .int x1), (2, .int x2), (3, .int x3)] [] h rc rs n0 Q X := by
  refine g_iload_n dX8_out_84 rfl 3 rfl ?_
  refine g_sipush (v := 312) dX8_out_85 (by decide) ?_
  refine g_icmp_ge (tgt := 125) dX8_out_88 (by decide) (fun c1 => ?_) (fun c1 => ?_)
  · replace K := K.1 c1
    refine g_iconst (v := 1) dX8_out_125 (by decide) ?_
    exact g_zret dX8_out_126 rfl K.1 K.2
  · replace K := K.2 c1
    refine g_aload_n dX8_out_91 rfl 0 rfl ?_
    obtain ⟨e2, b3, e4, K⟩ := K
    refine g_get (c := 8) (k := 2) (v := .ref b3) dX8_out_92 fc_8 (by decide) (by decide) bw_1200 (congrArg pr e4) e2 ?_
    refine g_iload_n dX8_out_95 rfl 3 rfl ?_
    refine g_aload_n dX8_out_96 rfl 0 rfl ?_
    refine g_get (c := 8) (k := 2) (v := .ref b3) dX8_out_97 fc_8 (by decide) (by decide) bw_1200 (congrArg pr e4) e2 ?_
    refine g_iload_n dX8_out_100 rfl 3 rfl ?_
    obtain ⟨e5, e6, K⟩ := K
    refine g_iald dX8_out_101 e5 e6 ?_
    refine g_iload_n dX8_out_102 rfl 1 rfl ?_
    refine g_iconst (v := 1) dX8_out_103 (by decide) ?_
    refine g_iadd dX8_out_104 ?_
    refine g_icmp_ne (tgt := 112) dX8_out_105 (by decide) (fun c7 => ?_) (fun c7 => ?_)
    · replace K := K.1 c7
      refine g_aload_n dX8_out_112 rfl 0 rfl ?_
      refine g_get (c := 8) (k := 2) (v := .ref b3) dX8_out_113 fc_8 (by decide) (by decide) bw_1200 (congrArg pr e4) e2 ?_
      refine g_iload_n dX8_out_116 rfl 3 rfl ?_
      obtain ⟨e8, K⟩ := K
      refine g_iald dX8_out_117 e5 e8 ?_
      obtain ⟨e9, K⟩ := K
      refine g_iast dX8_out_118 e5 e9 ?_
      refine g_iinc (v := (x3 + 1)) (lv' := [(0, .ref a0), (1, .int x1), (2, .int x2), (3, .int (x3 + 1))]) dX8_out_119 3 rfl (by rfl) (by decide) rfl ?_
      refine g_goto (tgt := 84) dX8_out_122 (by decide) ?_
      exact K
    · replace K := K.2 c7
      refine g_iconst (v := 0) dX8_out_108 (by decide) ?_
      refine g_goto (tgt := 118) dX8_out_109 (by decide) ?_
      obtain ⟨e10, K⟩ := K
      refine g_iast dX8_out_118 e5 e10 ?_
      refine g_iinc (v := (x3 + 1)) (lv' := [(0, .ref a0), (1, .int x1), (2, .int x2), (3, .int (x3 + 1))]) dX8_out_119 3 rfl (by rfl) (by decide) rfl ?_
      refine g_goto (tgt := 84) dX8_out_122 (by decide) ?_
      exact K
theorem dX8_opensHere_0 : decode cX8_opensHere 0 = .ok (.aload_n 0, 1) := by decide +kernel
theorem dX8_opensHere_1 : decode cX8_opensHere 1 = .ok (.iload_n 1, 1) := by decide +kernel
theorem dX8_opensHere_2 : decode cX8_opensHere 2 = .ok (.iconst 0, 1) := by decide +kernel
theorem dX8_opensHere_3 : decode cX8_opensHere 3 = .ok (.invokevirtual 238, 3) := by decide +kernel
theorem dX8_opensHere_6 : decode cX8_opensHere 6 = .ok (.istore_n 2, 1) := by decide +kernel
theorem dX8_opensHere_7 : decode cX8_opensHere 7 = .ok (.aload_n 0, 1) := by decide +kernel
theorem dX8_opensHere_8 : decode cX8_opensHere 8 = .ok (.iload_n 1, 1) := by decide +kernel
theorem dX8_opensHere_9 : decode cX8_opensHere 9 = .ok (.iconst 1, 1) := by decide +kernel
theorem dX8_opensHere_10 : decode cX8_opensHere 10 = .ok (.invokevirtual 238, 3) := by decide +kernel
theorem dX8_opensHere_13 : decode cX8_opensHere 13 = .ok (.istore_n 3, 1) := by decide +kernel
theorem dX8_opensHere_14 : decode cX8_opensHere 14 = .ok (.iconst 0, 1) := by decide +kernel
theorem dX8_opensHere_15 : decode cX8_opensHere 15 = .ok (.istore 4, 2) := by decide +kernel
theorem dX8_opensHere_17 : decode cX8_opensHere 17 = .ok (.iload 4, 2) := by decide +kernel
theorem dX8_opensHere_19 : decode cX8_opensHere 19 = .ok (.aload_n 0, 1) := by decide +kernel
theorem dX8_opensHere_20 : decode cX8_opensHere 20 = .ok (.getfield 29, 3) := by decide +kernel
theorem dX8_opensHere_23 : decode cX8_opensHere 23 = .ok (.bipush 6, 2) := by decide +kernel
theorem dX8_opensHere_25 : decode cX8_opensHere 25 = .ok (.iaload, 1) := by decide +kernel
theorem dX8_opensHere_26 : decode cX8_opensHere 26 = .ok (.if_icmp .ge 37, 3) := by decide +kernel
theorem dX8_opensHere_29 : decode cX8_opensHere 29 = .ok (.aload_n 0, 1) := by decide +kernel
theorem dX8_opensHere_30 : decode cX8_opensHere 30 = .ok (.iload_n 1, 1) := by decide +kernel
theorem dX8_opensHere_31 : decode cX8_opensHere 31 = .ok (.iconst 3, 1) := by decide +kernel
theorem dX8_opensHere_32 : decode cX8_opensHere 32 = .ok (.invokevirtual 238, 3) := by decide +kernel
theorem dX8_opensHere_35 : decode cX8_opensHere 35 = .ok (.iload 4, 2) := by decide +kernel
theorem dX8_opensHere_37 : decode cX8_opensHere 37 = .ok (.ishr, 1) := by decide +kernel
theorem dX8_opensHere_38 : decode cX8_opensHere 38 = .ok (.iconst 1, 1) := by decide +kernel
theorem dX8_opensHere_39 : decode cX8_opensHere 39 = .ok (.iand, 1) := by decide +kernel
theorem dX8_opensHere_40 : decode cX8_opensHere 40 = .ok (.iconst 1, 1) := by decide +kernel
theorem dX8_opensHere_41 : decode cX8_opensHere 41 = .ok (.if_icmp .ne 16, 3) := by decide +kernel
theorem dX8_opensHere_44 : decode cX8_opensHere 44 = .ok (.aload_n 0, 1) := by decide +kernel
theorem dX8_opensHere_45 : decode cX8_opensHere 45 = .ok (.iload 4, 2) := by decide +kernel
theorem dX8_opensHere_47 : decode cX8_opensHere 47 = .ok (.iconst 3, 1) := by decide +kernel
theorem dX8_opensHere_48 : decode cX8_opensHere 48 = .ok (.invokevirtual 228, 3) := by decide +kernel
theorem dX8_opensHere_51 : decode cX8_opensHere 51 = .ok (.iload_n 2, 1) := by decide +kernel
theorem dX8_opensHere_52 : decode cX8_opensHere 52 = .ok (.if_icmp .ne 5, 3) := by decide +kernel
theorem dX8_opensHere_55 : decode cX8_opensHere 55 = .ok (.iconst 1, 1) := by decide +kernel
theorem dX8_opensHere_56 : decode cX8_opensHere 56 = .ok (.ireturn, 1) := by decide +kernel
theorem dX8_opensHere_57 : decode cX8_opensHere 57 = .ok (.iinc 4 1, 3) := by decide +kernel
theorem dX8_opensHere_60 : decode cX8_opensHere 60 = .ok (.goto (-43), 3) := by decide +kernel
theorem dX8_opensHere_63 : decode cX8_opensHere 63 = .ok (.aload_n 0, 1) := by decide +kernel
theorem dX8_opensHere_64 : decode cX8_opensHere 64 = .ok (.iload_n 1, 1) := by decide +kernel
theorem dX8_opensHere_65 : decode cX8_opensHere 65 = .ok (.invokevirtual 246, 3) := by decide +kernel
theorem dX8_opensHere_68 : decode cX8_opensHere 68 = .ok (.ifCond .eq 5, 3) := by decide +kernel
theorem dX8_opensHere_71 : decode cX8_opensHere 71 = .ok (.iconst 0, 1) := by decide +kernel
theorem dX8_opensHere_72 : decode cX8_opensHere 72 = .ok (.ireturn, 1) := by decide +kernel
theorem dX8_opensHere_73 : decode cX8_opensHere 73 = .ok (.iload_n 3, 1) := by decide +kernel
theorem dX8_opensHere_74 : decode cX8_opensHere 74 = .ok (.ifCond .eq 12, 3) := by decide +kernel
theorem dX8_opensHere_77 : decode cX8_opensHere 77 = .ok (.aload_n 0, 1) := by decide +kernel
theorem dX8_opensHere_78 : decode cX8_opensHere 78 = .ok (.iload_n 1, 1) := by decide +kernel
theorem dX8_opensHere_79 : decode cX8_opensHere 79 = .ok (.iload_n 3, 1) := by decide +kernel
theorem dX8_opensHere_80 : decode cX8_opensHere 80 = .ok (.invokevirtual 273, 3) := by decide +kernel
theorem dX8_opensHere_83 : decode cX8_opensHere 83 = .ok (.ifCond .ne 7, 3) := by decide +kernel
theorem dX8_opensHere_86 : decode cX8_opensHere 86 = .ok (.iconst 1, 1) := by decide +kernel
theorem dX8_opensHere_87 : decode cX8_opensHere 87 = .ok (.goto 4, 3) := by decide +kernel
theorem dX8_opensHere_90 : decode cX8_opensHere 90 = .ok (.iconst 0, 1) := by decide +kernel
theorem dX8_opensHere_91 : decode cX8_opensHere 91 = .ok (.istore 4, 2) := by decide +kernel
theorem dX8_opensHere_93 : decode cX8_opensHere 93 = .ok (.iload_n 3, 1) := by decide +kernel
theorem dX8_opensHere_94 : decode cX8_opensHere 94 = .ok (.ifCond .eq 13, 3) := by decide +kernel
theorem dX8_opensHere_97 : decode cX8_opensHere 97 = .ok (.aload_n 0, 1) := by decide +kernel
theorem dX8_opensHere_98 : decode cX8_opensHere 98 = .ok (.iload_n 1, 1) := by decide +kernel
theorem dX8_opensHere_99 : decode cX8_opensHere 99 = .ok (.iload_n 2, 1) := by decide +kernel
theorem dX8_opensHere_100 : decode cX8_opensHere 100 = .ok (.iload_n 3, 1) := by decide +kernel
theorem dX8_opensHere_101 : decode cX8_opensHere 101 = .ok (.invokevirtual 249, 3) := by decide +kernel
theorem dX8_opensHere_104 : decode cX8_opensHere 104 = .ok (.ifCond .ne 28, 3) := by decide +kernel
theorem dX8_opensHere_107 : decode cX8_opensHere 107 = .ok (.iload 4, 2) := by decide +kernel
theorem dX8_opensHere_109 : decode cX8_opensHere 109 = .ok (.ifCond .eq 27, 3) := by decide +kernel
theorem dX8_opensHere_112 : decode cX8_opensHere 112 = .ok (.aload_n 0, 1) := by decide +kernel
theorem dX8_opensHere_113 : decode cX8_opensHere 113 = .ok (.iload_n 1, 1) := by decide +kernel
theorem dX8_opensHere_114 : decode cX8_opensHere 114 = .ok (.iload_n 2, 1) := by decide +kernel
theorem dX8_opensHere_115 : decode cX8_opensHere 115 = .ok (.iconst 1, 1) := by decide +kernel
theorem dX8_opensHere_116 : decode cX8_opensHere 116 = .ok (.invokevirtual 249, 3) := by decide +kernel
theorem dX8_opensHere_119 : decode cX8_opensHere 119 = .ok (.ifCond .ne 13, 3) := by decide +kernel
theorem dX8_opensHere_122 : decode cX8_opensHere 122 = .ok (.aload_n 0, 1) := by decide +kernel
theorem dX8_opensHere_123 : decode cX8_opensHere 123 = .ok (.iload_n 1, 1) := by decide +kernel
theorem dX8_opensHere_124 : decode cX8_opensHere 124 = .ok (.iload_n 2, 1) := by decide +kernel
theorem dX8_opensHere_125 : decode cX8_opensHere 125 = .ok (.iconst (-1), 1) := by decide +kernel
theorem dX8_opensHere_126 : decode cX8_opensHere 126 = .ok (.invokevirtual 249, 3) := by decide +kernel
theorem dX8_opensHere_129 : decode cX8_opensHere 129 = .ok (.ifCond .eq 7, 3) := by decide +kernel
theorem dX8_opensHere_132 : decode cX8_opensHere 132 = .ok (.iconst 1, 1) := by decide +kernel
theorem dX8_opensHere_133 : decode cX8_opensHere 133 = .ok (.goto 4, 3) := by decide +kernel
theorem dX8_opensHere_136 : decode cX8_opensHere 136 = .ok (.iconst 0, 1) := by decide +kernel
theorem dX8_opensHere_137 : decode cX8_opensHere 137 = .ok (.ireturn, 1) := by decide +kernel
set_option maxRecDepth 20000 in
set_option maxHeartbeats 4000000 in
theorem vX8_opensHere_0 {l : Launch} {x : CX} {a0 : Nat} {x1 : Int32} {h : PH} {rc rs n0 : Nat} {Q : Option Value → PH → Prop} {X : String → PH → Prop}
    (K : ((hK h a0).1 = 8) ∧ ∃ (q1 : Int32 → PH → Prop), CI l x mX8_carOf 0 0 0 [.ref a0, .int x1, .int 0] h q1 ∧ ∀ (r5 : Int32) (h4 : PH), q1 r5 h4 → ((hK h4 a0).1 = 8) ∧ ∃ (q6 : Int32 → PH → Prop), CI l x mX8_carOf 0 0 0 [.ref a0, .int x1, .int 1] h4 q6 ∧ ∀ (r10 : Int32) (h9 : PH), q6 r10 h9 → Gm l x mX8_opensHere 4 17 [(0, .ref a0), (1, .int x1), (2, .int r5), (3, .int r10), (4, .int 0)] [] h9 rc rs n0 Q X) :
    Gm l x mX8_opensHere 4 0 [(0, .ref a0), (1, .int x1)] [] h rc rs n0 Q X := by
  refine g_aload_n dX8_opensHere_0 rfl 0 rfl ?_
  refine g_iload_n dX8_opensHere_1 rfl 1 rfl ?_
  refine g_iconst (v := 0) dX8_opensHere_2 (by decide) ?_
  obtain ⟨e3, K⟩ := K
  obtain ⟨q1, C2, K⟩ := K
  refine g_callV (M' := mX8_carOf) (b := a0) (As := [.int x1, .int 0]) (rest := []) (rc' := rc) (rs' := rs) dX8_opensHere_3 bw_1476 bw_1478 bs_67 bw_9 bw_1479 ⟨by decide +kernel, by decide +kernel, show (parseMethodDescriptor mX8_carOf.1.desc).map (fun d => d.parameters.length) = some 2 by decide +kernel⟩ (by decide) (by decide) (Nat.le_of_ble_eq_true rfl) fc_8 (by decide) rfl e3 C2 (Nat.le_of_eq (Nat.add_zero _)) (Nat.le_of_eq (Nat.add_zero _)) (fun _ _ h => h) ?_
  rintro _ h4 ⟨r5, rfl, K1⟩ -
  replace K := K r5 h4 K1
  show Gm l x mX8_opensHere 4 6 [(0, .ref a0), (1, .int x1)] [.int r5] h4 rc rs n0 Q X
  refine g_istore_n (lv' := [(0, .ref a0), (1, .int x1), (2, .int r5)]) dX8_opensHere_6 rfl (by decide) rfl ?_
  refine g_aload_n dX8_opensHere_7 rfl 0 rfl ?_
  refine g_iload_n dX8_opensHere_8 rfl 1 rfl ?_
  refine g_iconst (v := 1) dX8_opensHere_9 (by decide) ?_
  obtain ⟨e8, K⟩ := K
  obtain ⟨q6, C7, K⟩ := K
  refine g_callV (M' := mX8_carOf) (b := a0) (As := [.int x1, .int 1]) (rest := []) (rc' := rc) (rs' := rs) dX8_opensHere_10 bw_1476 bw_1478 bs_67 bw_9 bw_1479 ⟨by decide +kernel, by decide +kernel, show (parseMethodDescriptor mX8_carOf.1.desc).map (fun d => d.parameters.length) = some 2 by decide +kernel⟩ (by decide) (by decide) (Nat.le_of_ble_eq_true rfl) fc_8 (by decide) rfl e8 C7 (Nat.le_of_eq (Nat.add_zero _)) (Nat.le_of_eq (Nat.add_zero _)) (fun _ _ h => h) ?_
  rintro _ h9 ⟨r10, rfl, K1⟩ -
  replace K := K r10 h9 K1
  show Gm l x mX8_opensHere 4 13 [(0, .ref a0), (1, .int x1), (2, .int r5)] [.int r10] h9 rc rs n0 Q X
  refine g_istore_n (lv' := [(0, .ref a0), (1, .int x1), (2, .int r5), (3, .int r10)]) dX8_opensHere_13 rfl (by decide) rfl ?_
  refine g_iconst (v := 0) dX8_opensHere_14 (by decide) ?_
  refine g_istore (lv' := [(0, .ref a0), (1, .int x1), (2, .int r5), (3, .int r10), (4, .int 0)]) dX8_opensHere_15 (by decide) rfl ?_
  exact K
set_option maxRecDepth 20000 in
set_option maxHeartbeats 4000000 in
theorem vX8_opensHere_17 {l : Launch} {x : CX} {a0 : Nat} {x1 : Int32} {x2 : Int32} {x3 : Int32} {x4 : Int32} {h : PH} {rc rs n0 : Nat} {Q : Option Value → PH → Prop} {X : String → PH → Prop}
    (K : ((hK h a0).1 = 8) ∧ ∃ b2, (hR h a0 2 = some b2) ∧ ((hK h b2).1 = 100) ∧ (vp_in 6 (hK h b2).2) ∧ (((hI h b2 (Int32.toNatClampNeg 6)) ≤ x4 → ∃ (q7 : Int32 → PH → Prop), CI l x mX8_isFull 1 0 0 [.ref a0, .int x1] h q7 ∧ ∀ (r10 : Int32) (h9 : PH), q7 r10 h9 → ((r10 = 0 → ((x3 = 0 → ((x3 = 0 → ((hK h9 a0).1 = 8) ∧ ∃ (q15 : Int32 → PH → Prop), CI l x mX8_hasCall 1 0 0 [.ref a0, .int x1, .int x2, .int 1] h9 q15 ∧ ∀ (r19 : Int32) (h18 : PH), q15 r19 h18 → ((¬ r19 = 0 → ((1 : Int32) = 0 ∨ (1 : Int32) = 1) ∧ Q (some (.int 1)) h18) ∧ (r19 = 0 → ((hK h18 a0).1 = 8) ∧ ∃ (q21 : Int32 → PH → Prop), CI l x mX8_hasCall 1 0 0 [.ref a0, .int x1, .int x2, .int (-1)] h18 q21 ∧ ∀ (r25 : Int32) (h24 : PH), q21 r25 h24 → (((if r25 = 0 then 0 else 1 : Int32) : Int32) = 0 ∨ ((if r25 = 0 then 0 else 1 : Int32) : Int32) = 1) ∧ Q (some (.int (if r25 = 0 then 0 else 1 : Int32))) h24))) ∧ (¬ x3 = 0 → ((hK h9 a0).1 = 8) ∧ ∃ (q27 : Int32 → PH → Prop), CI l x mX8_hasCall 1 0 0 [.ref a0, .int x1, .int x2, .int x3] h9 q27 ∧ ∀ (r31 : Int32) (h30 : PH), q27 r31 h30 → ((¬ r31 = 0 → ((1 : Int32) = 0 ∨ (1 : Int32) = 1) ∧ Q (some (.int 1)) h30) ∧ (r31 = 0 → ((hK h30 a0).1 = 8) ∧ ∃ (q34 : Int32 → PH → Prop), CI l x mX8_hasCall 1 0 0 [.ref a0, .int x1, .int x2, .int 1] h30 q34 ∧ ∀ (r38 : Int32) (h37 : PH), q34 r38 h37 → ((¬ r38 = 0 → ((1 : Int32) = 0 ∨ (1 : Int32) = 1) ∧ Q (some (.int 1)) h37) ∧ (r38 = 0 → ((hK h37 a0).1 = 8) ∧ ∃ (q40 : Int32 → PH → Prop), CI l x mX8_hasCall 1 0 0 [.ref a0, .int x1, .int x2, .int (-1)] h37 q40 ∧ ∀ (r44 : Int32) (h43 : PH), q40 r44 h43 → (((if r44 = 0 then 0 else 1 : Int32) : Int32) = 0 ∨ ((if r44 = 0 then 0 else 1 : Int32) : Int32) = 1) ∧ Q (some (.int (if r44 = 0 then 0 else 1 : Int32))) h43))))))) ∧ (¬ x3 = 0 → ((hK h9 a0).1 = 8) ∧ ∃ (q46 : Int32 → PH → Prop), CI l x mX8_isStop 3 0 0 [.ref a0, .int x1, .int x3] h9 q46 ∧ ∀ (r50 : Int32) (h49 : PH), q46 r50 h49 → ((x3 = 0 → (((if r50 = 0 then 1 else 0 : Int32) = 0 → ((0 : Int32) = 0 ∨ (0 : Int32) = 1) ∧ Q (some (.int 0)) h49) ∧ (¬ (if r50 = 0 then 1 else 0 : Int32) = 0 → ((hK h49 a0).1 = 8) ∧ ∃ (q54 : Int32 → PH → Prop), CI l x mX8_hasCall 1 0 0 [.ref a0, .int x1, .int x2, .int 1] h49 q54 ∧ ∀ (r58 : Int32) (h57 : PH), q54 r58 h57 → ((¬ r58 = 0 → ((1 : Int32) = 0 ∨ (1 : Int32) = 1) ∧ Q (some (.int 1)) h57) ∧ (r58 = 0 → ((hK h57 a0).1 = 8) ∧ ∃ (q60 : Int32 → PH → Prop), CI l x mX8_hasCall 1 0 0 [.ref a0, .int x1, .int x2, .int (-1)] h57 q60 ∧ ∀ (r64 : Int32) (h63 : PH), q60 r64 h63 → (((if r64 = 0 then 0 else 1 : Int32) : Int32) = 0 ∨ ((if r64 = 0 then 0 else 1 : Int32) : Int32) = 1) ∧ Q (some (.int (if r64 = 0 then 0 else 1 : Int32))) h63))))) ∧ (¬ x3 = 0 → ((hK h49 a0).1 = 8) ∧ ∃ (q66 : Int32 → PH → Prop), CI l x mX8_hasCall 1 0 0 [.ref a0, .int x1, .int x2, .int x3] h49 q66 ∧ ∀ (r70 : Int32) (h69 : PH), q66 r70 h69 → ((¬ r70 = 0 → ((1 : Int32) = 0 ∨ (1 : Int32) = 1) ∧ Q (some (.int 1)) h69) ∧ (r70 = 0 → (((if r50 = 0 then 1 else 0 : Int32) = 0 → ((0 : Int32) = 0 ∨ (0 : Int32) = 1) ∧ Q (some (.int 0)) h69) ∧ (¬ (if r50 = 0 then 1 else 0 : Int32) = 0 → ((hK h69 a0).1 = 8) ∧ ∃ (q73 : Int32 → PH → Prop), CI l x mX8_hasCall 1 0 0 [.ref a0, .int x1, .int x2, .int 1] h69 q73 ∧ ∀ (r77 : Int32) (h76 : PH), q73 r77 h76 → ((¬ r77 = 0 → ((1 : Int32) = 0 ∨ (1 : Int32) = 1) ∧ Q (some (.int 1)) h76) ∧ (r77 = 0 → ((hK h76 a0).1 = 8) ∧ ∃ (q79 : Int32 → PH → Prop), CI l x mX8_hasCall 1 0 0 [.ref a0, .int x1, .int x2, .int (-1)] h76 q79 ∧ ∀ (r83 : Int32) (h82 : PH), q79 r83 h82 → (((if r83 = 0 then 0 else 1 : Int32) : Int32) = 0 ∨ ((if r83 = 0 then 0 else 1 : Int32) : Int32) = 1) ∧ Q (some (.int (if r83 = 0 then 0 else 1 : Int32))) h82))))))))))) ∧ (¬ r10 = 0 → ((0 : Int32) = 0 ∨ (0 : Int32) = 1) ∧ Q (some (.int 0)) h9))) ∧ (¬ (hI h b2 (Int32.toNatClampNeg 6)) ≤ x4 → ∃ (q85 : Int32 → PH → Prop), CI l x mX8_carOf 0 0 0 [.ref a0, .int x1, .int 3] h q85 ∧ ∀ (r88 : Int32) (h87 : PH), q85 r88 h87 → ((¬ ((r88 >>> ((x4 : Int32) &&& 31)) &&& 1) = 1 → Gm l x mX8_opensHere 4 17 [(0, .ref a0), (1, .int x1), (2, .int x2), (3, .int x3), (4, .int (x4 + 1))] [] h87 rc rs n0 Q X) ∧ (((r88 >>> ((x4 : Int32) &&& 31)) &&& 1) = 1 → ((hK h87 a0).1 = 8) ∧ ∃ (q90 : Int32 → PH → Prop), CI l x mX8_of 0 0 0 [.ref a0, .int x4, .int 3] h87 q90 ∧ ∀ (r94 : Int32) (h93 : PH), q90 r94 h93 → ((¬ r94 = x2 → Gm l x mX8_opensHere 4 17 [(0, .ref a0), (1, .int x1), (2, .int x2), (3, .int x3), (4, .int (x4 + 1))] [] h93 rc rs n0 Q X) ∧ (r94 = x2 → ((1 : Int32) = 0 ∨ (1 : Int32) = 1) ∧ Q (some (.int 1)) h93))))))) :
    Gm l x mX8_opensHere 4 17 [(0, .ref a0), (1, .int x1), (2, .int x2), (3, .int x3), (4, .int x4)] [] h rc rs n0 Q X := by
  refine g_iload dX8_opensHere_17 4 rfl ?_
  refine g_aload_n dX8_opensHere_19 rfl 0 rfl ?_
  obtain ⟨e1, b2, e3, K⟩ := K
  refine g_get (c := 8) (k := 2) (v := .ref b2) dX8_opensHere_20 fc_8 (by decide) (by decide) bw_1200 (congrArg pr e3) e1 ?_
  refine g_bipush (v := 6) dX8_opensHere_23 (by decide) ?_
  obtain ⟨e4, e5, K⟩ := K
  refine g_iald dX8_opensHere_25 e4 e5 ?_
  refine g_icmp_ge (tgt := 63) dX8_opensHere_26 (by decide) (fun c6 => ?_) (fun c6 => ?_)
  · replace K := K.1 c6
    refine g_aload_n dX8_opensHere_63 rfl 0 rfl ?_
    refine g_iload_n dX8_opensHere_64 rfl 1 rfl ?_
    obtain ⟨q7, C8, K⟩ := K
    refine g_callV (M' := mX8_isFull) (b := a0) (As := [.int x1]) (rest := []) (rc' := rc) (rs' := rs) dX8_opensHere_65 bw_1501 bw_1503 bs_73 bw_9 bw_1504 ⟨by decide +kernel, by decide +kernel, show (parseMethodDescriptor mX8_isFull.1.desc).map (fun d => d.parameters.length) = some 1 by decide +kernel⟩ (by decide) (by decide) (Nat.le_of_ble_eq_true rfl) fc_8 (by decide) rfl e1 C8 (Nat.le_of_eq (Nat.add_zero _)) (Nat.le_of_eq (Nat.add_zero _)) (fun _ _ h => h) ?_
    rintro _ h9 ⟨r10, rfl, K1⟩ -
    replace K := K r10 h9 K1
    show Gm l x mX8_opensHere 4 68 [(0, .ref a0), (1, .int x1), (2, .int x2), (3, .int x3), (4, .int x4)] [.int r10] h9 rc rs n0 Q X
    refine g_if_eq (tgt := 73) dX8_opensHere_68 (by decide) (fun c11 => ?_) (fun c11 => ?_)
    · replace K := K.1 c11
      refine g_iload_n dX8_opensHere_73 rfl 3 rfl ?_
      refine g_if_eq (tgt := 86) dX8_opensHere_74 (by decide) (fun c12 => ?_) (fun c12 => ?_)
      · replace K := K.1 c12
        refine g_iconst (v := 1) dX8_opensHere_86 (by decide) ?_
        refine g_goto (tgt := 91) dX8_opensHere_87 (by decide) ?_
        refine g_istore (lv' := [(0, .ref a0), (1, .int x1), (2, .int x2), (3, .int x3), (4, .int 1)]) dX8_opensHere_91 (by decide) rfl ?_
        refine g_iload_n dX8_opensHere_93 rfl 3 rfl ?_
        refine g_if_eq (tgt := 107) dX8_opensHere_94 (by decide) (fun c13 => ?_) (fun c13 => ?_)
        · replace K := K.1 c13
          refine g_iload dX8_opensHere_107 4 rfl ?_
          refine g_if_eq (tgt := 136) dX8_opensHere_109 (by decide) (fun c14 => ?_) (fun c14 => ?_)
          · exact absurd c14 (by decide)
          · refine g_aload_n dX8_opensHere_112 rfl 0 rfl ?_
            refine g_iload_n dX8_opensHere_113 rfl 1 rfl ?_
            refine g_iload_n dX8_opensHere_114 rfl 2 rfl ?_
            refine g_iconst (v := 1) dX8_opensHere_115 (by decide) ?_
            obtain ⟨e17, K⟩ := K
            obtain ⟨q15, C16, K⟩ := K
            refine g_callV (M' := mX8_hasCall) (b := a0) (As := [.int x1, .int x2, .int 1]) (rest := []) (rc' := rc) (rs' := rs) dX8_opensHere_116 bw_1514 bw_1516 bs_76 bw_9 bw_1517 ⟨by decide +kernel, by decide +kernel, show (parseMethodDescriptor mX8_hasCall.1.desc).map (fun d => d.parameters.length) = some 3 by decide +kernel⟩ (by decide) (by decide) (Nat.le_of_ble_eq_true rfl) fc_8 (by decide) rfl e17 C16 (Nat.le_of_eq (Nat.add_zero _)) (Nat.le_of_eq (Nat.add_zero _)) (fun _ _ h => h) ?_
            rintro _ h18 ⟨r19, rfl, K1⟩ -
            replace K := K r19 h18 K1
            show Gm l x mX8_opensHere 4 119 [(0, .ref a0), (1, .int x1), (2, .int x2), (3, .int x3), (4, .int 1)] [.int r19] h18 rc rs n0 Q X
            refine g_if_ne (tgt := 132) dX8_opensHere_119 (by decide) (fun c20 => ?_) (fun c20 => ?_)
            · replace K := K.1 c20
              refine g_iconst (v := 1) dX8_opensHere_132 (by decide) ?_
              refine g_goto (tgt := 137) dX8_opensHere_133 (by decide) ?_
              exact g_zret dX8_opensHere_137 rfl K.1 K.2
            · replace K := K.2 c20
              refine g_aload_n dX8_opensHere_122 rfl 0 rfl ?_
              refine g_iload_n dX8_opensHere_123 rfl 1 rfl ?_
              refine g_iload_n dX8_opensHere_124 rfl 2 rfl ?_
              refine g_iconst (v := (-1)) dX8_opensHere_125 (by decide) ?_
              obtain ⟨e23, K⟩ := K
              obtain ⟨q21, C22, K⟩ := K
              refine g_callV (M' := mX8_hasCall) (b := a0) (As := [.int x1, .int x2, .int (-1)]) (rest := []) (rc' := rc) (rs' := rs) dX8_opensHere_126 bw_1514 bw_1516 bs_76 bw_9 bw_1517 ⟨by decide +kernel, by decide +kernel, show (parseMethodDescriptor mX8_hasCall.1.desc).map (fun d => d.parameters.length) = some 3 by decide +kernel⟩ (by decide) (by decide) (Nat.le_of_ble_eq_true rfl) fc_8 (by decide) rfl e23 C22 (Nat.le_of_eq (Nat.add_zero _)) (Nat.le_of_eq (Nat.add_zero _)) (fun _ _ h => h) ?_
              rintro _ h24 ⟨r25, rfl, K1⟩ -
              replace K := K r25 h24 K1
              show Gm l x mX8_opensHere 4 129 [(0, .ref a0), (1, .int x1), (2, .int x2), (3, .int x3), (4, .int 1)] [.int r25] h24 rc rs n0 Q X
              have KJ : Gm l x mX8_opensHere 4 137 [(0, .ref a0), (1, .int x1), (2, .int x2), (3, .int x3), (4, .int 1)] [.int (if r25 = 0 then 0 else 1 : Int32)] h24 rc rs n0 Q X := by
                exact g_zret dX8_opensHere_137 rfl K.1 K.2
              refine g_if_eq (tgt := 136) dX8_opensHere_129 (by decide) (fun c26 => ?_) (fun c26 => ?_)
              · refine g_iconst (v := 0) dX8_opensHere_136 (by decide) ?_
                first | (simp only [if_pos c26] at KJ; exact KJ) | (simp only [if_pos c26, ite_true, ite_false, eq_self] at KJ; exact KJ) | (simp only [if_pos c26] at KJ ⊢; exact KJ) | exact KJ
              · refine g_iconst (v := 1) dX8_opensHere_132 (by decide) ?_
                refine g_goto (tgt := 137) dX8_opensHere_133 (by decide) ?_
                first | (simp only [if_neg c26] at KJ; exact KJ) | (simp only [if_neg c26, ite_true, ite_false, eq_self] at KJ; exact KJ) | (simp only [if_neg c26] at KJ ⊢; exact KJ) | exact KJ
        · replace K := K.2 c13
          refine g_aload_n dX8_opensHere_97 rfl 0 rfl ?_
          refine g_iload_n dX8_opensHere_98 rfl 1 rfl ?_
          refine g_iload_n dX8_opensHere_99 rfl 2 rfl ?_
          refine g_iload_n dX8_opensHere_100 rfl 3 rfl ?_
          obtain ⟨e29, K⟩ := K
          obtain ⟨q27, C28, K⟩ := K
          refine g_callV (M' := mX8_hasCall) (b := a0) (As := [.int x1, .int x2, .int x3]) (rest := []) (rc' := rc) (rs' := rs) dX8_opensHere_101 bw_1514 bw_1516 bs_76 bw_9 bw_1517 ⟨by decide +kernel, by decide +kernel, show (parseMethodDescriptor mX8_hasCall.1.desc).map (fun d => d.parameters.length) = some 3 by decide +kernel⟩ (by decide) (by decide) (Nat.le_of_ble_eq_true rfl) fc_8 (by decide) rfl e29 C28 (Nat.le_of_eq (Nat.add_zero _)) (Nat.le_of_eq (Nat.add_zero _)) (fun _ _ h => h) ?_
          rintro _ h30 ⟨r31, rfl, K1⟩ -
          replace K := K r31 h30 K1
          show Gm l x mX8_opensHere 4 104 [(0, .ref a0), (1, .int x1), (2, .int x2), (3, .int x3), (4, .int 1)] [.int r31] h30 rc rs n0 Q X
          refine g_if_ne (tgt := 132) dX8_opensHere_104 (by decide) (fun c32 => ?_) (fun c32 => ?_)
          · replace K := K.1 c32
            refine g_iconst (v := 1) dX8_opensHere_132 (by decide) ?_
            refine g_goto (tgt := 137) dX8_opensHere_133 (by decide) ?_
            exact g_zret dX8_opensHere_137 rfl K.1 K.2
          · replace K := K.2 c32
            refine g_iload dX8_opensHere_107 4 rfl ?_
            refine g_if_eq (tgt := 136) dX8_opensHere_109 (by decide) (fun c33 => ?_) (fun c33 => ?_)
            · exact absurd c33 (by decide)
            · refine g_aload_n dX8_opensHere_112 rfl 0 rfl ?_
              refine g_iload_n dX8_opensHere_113 rfl 1 rfl ?_
              refine g_iload_n dX8_opensHere_114 rfl 2 rfl ?_
              refine g_iconst (v := 1) dX8_opensHere_115 (by decide) ?_
              obtain ⟨e36, K⟩ := K
              obtain ⟨q34, C35, K⟩ := K
              refine g_callV (M' := mX8_hasCall) (b := a0) (As := [.int x1, .int x2, .int 1]) (rest := []) (rc' := rc) (rs' := rs) dX8_opensHere_116 bw_1514 bw_1516 bs_76 bw_9 bw_1517 ⟨by decide +kernel, by decide +kernel, show (parseMethodDescriptor mX8_hasCall.1.desc).map (fun d => d.parameters.length) = some 3 by decide +kernel⟩ (by decide) (by decide) (Nat.le_of_ble_eq_true rfl) fc_8 (by decide) rfl e36 C35 (Nat.le_of_eq (Nat.add_zero _)) (Nat.le_of_eq (Nat.add_zero _)) (fun _ _ h => h) ?_
              rintro _ h37 ⟨r38, rfl, K1⟩ -
              replace K := K r38 h37 K1
              show Gm l x mX8_opensHere 4 119 [(0, .ref a0), (1, .int x1), (2, .int x2), (3, .int x3), (4, .int 1)] [.int r38] h37 rc rs n0 Q X
              refine g_if_ne (tgt := 132) dX8_opensHere_119 (by decide) (fun c39 => ?_) (fun c39 => ?_)
              · replace K := K.1 c39
                refine g_iconst (v := 1) dX8_opensHere_132 (by decide) ?_
                refine g_goto (tgt := 137) dX8_opensHere_133 (by decide) ?_
                exact g_zret dX8_opensHere_137 rfl K.1 K.2
              · replace K := K.2 c39
                refine g_aload_n dX8_opensHere_122 rfl 0 rfl ?_
                refine g_iload_n dX8_opensHere_123 rfl 1 rfl ?_
                refine g_iload_n dX8_opensHere_124 rfl 2 rfl ?_
                refine g_iconst (v := (-1)) dX8_opensHere_125 (by decide) ?_
                obtain ⟨e42, K⟩ := K
                obtain ⟨q40, C41, K⟩ := K
                refine g_callV (M' := mX8_hasCall) (b := a0) (As := [.int x1, .int x2, .int (-1)]) (rest := []) (rc' := rc) (rs' := rs) dX8_opensHere_126 bw_1514 bw_1516 bs_76 bw_9 bw_1517 ⟨by decide +kernel, by decide +kernel, show (parseMethodDescriptor mX8_hasCall.1.desc).map (fun d => d.parameters.length) = some 3 by decide +kernel⟩ (by decide) (by decide) (Nat.le_of_ble_eq_true rfl) fc_8 (by decide) rfl e42 C41 (Nat.le_of_eq (Nat.add_zero _)) (Nat.le_of_eq (Nat.add_zero _)) (fun _ _ h => h) ?_
                rintro _ h43 ⟨r44, rfl, K1⟩ -
                replace K := K r44 h43 K1
                show Gm l x mX8_opensHere 4 129 [(0, .ref a0), (1, .int x1), (2, .int x2), (3, .int x3), (4, .int 1)] [.int r44] h43 rc rs n0 Q X
                have KJ : Gm l x mX8_opensHere 4 137 [(0, .ref a0), (1, .int x1), (2, .int x2), (3, .int x3), (4, .int 1)] [.int (if r44 = 0 then 0 else 1 : Int32)] h43 rc rs n0 Q X := by
                  exact g_zret dX8_opensHere_137 rfl K.1 K.2
                refine g_if_eq (tgt := 136) dX8_opensHere_129 (by decide) (fun c45 => ?_) (fun c45 => ?_)
                · refine g_iconst (v := 0) dX8_opensHere_136 (by decide) ?_
                  first | (simp only [if_pos c45] at KJ; exact KJ) | (simp only [if_pos c45, ite_true, ite_false, eq_self] at KJ; exact KJ) | (simp only [if_pos c45] at KJ ⊢; exact KJ) | exact KJ
                · refine g_iconst (v := 1) dX8_opensHere_132 (by decide) ?_
                  refine g_goto (tgt := 137) dX8_opensHere_133 (by decide) ?_
                  first | (simp only [if_neg c45] at KJ; exact KJ) | (simp only [if_neg c45, ite_true, ite_false, eq_self] at KJ; exact KJ) | (simp only [if_neg c45] at KJ ⊢; exact KJ) | exact KJ
      · replace K := K.2 c12
        refine g_aload_n dX8_opensHere_77 rfl 0 rfl ?_
        refine g_iload_n dX8_opensHere_78 rfl 1 rfl ?_
        refine g_iload_n dX8_opensHere_79 rfl 3 rfl ?_
        obtain ⟨e48, K⟩ := K
        obtain ⟨q46, C47, K⟩ := K
        refine g_callV (M' := mX8_isStop) (b := a0) (As := [.int x1, .int x3]) (rest := []) (rc' := rc) (rs' := rs) dX8_opensHere_80 bw_1506 bw_1508 bs_74 bw_9 bw_1509 ⟨by decide +kernel, by decide +kernel, show (parseMethodDescriptor mX8_isStop.1.desc).map (fun d => d.parameters.length) = some 2 by decide +kernel⟩ (by decide) (by decide) (Nat.le_of_ble_eq_true rfl) fc_8 (by decide) rfl e48 C47 (Nat.le_of_eq (Nat.add_zero _)) (Nat.le_of_eq (Nat.add_zero _)) (fun _ _ h => h) ?_
        rintro _ h49 ⟨r50, rfl, K1⟩ -
        replace K := K r50 h49 K1
        show Gm l x mX8_opensHere 4 83 [(0, .ref a0), (1, .int x1), (2, .int x2), (3, .int x3), (4, .int x4)] [.int r50] h49 rc rs n0 Q X
        have KJ : Gm l x mX8_opensHere 4 91 [(0, .ref a0), (1, .int x1), (2, .int x2), (3, .int x3), (4, .int x4)] [.int (if r50 = 0 then 1 else 0 : Int32)] h49 rc rs n0 Q X := by
          refine g_istore (lv' := [(0, .ref a0), (1, .int x1), (2, .int x2), (3, .int x3), (4, .int (if r50 = 0 then 1 else 0 : Int32))]) dX8_opensHere_91 (by decide) rfl ?_
          refine g_iload_n dX8_opensHere_93 rfl 3 rfl ?_
          refine g_if_eq (tgt := 107) dX8_opensHere_94 (by decide) (fun c52 => ?_) (fun c52 => ?_)
          · replace K := K.1 c52
            refine g_iload dX8_opensHere_107 4 rfl ?_
            refine g_if_eq (tgt := 136) dX8_opensHere_109 (by decide) (fun c53 => ?_) (fun c53 => ?_)
            · replace K := K.1 c53
              refine g_iconst (v := 0) dX8_opensHere_136 (by decide) ?_
              exact g_zret dX8_opensHere_137 rfl K.1 K.2
            · replace K := K.2 c53
              refine g_aload_n dX8_opensHere_112 rfl 0 rfl ?_
              refine g_iload_n dX8_opensHere_113 rfl 1 rfl ?_
              refine g_iload_n dX8_opensHere_114 rfl 2 rfl ?_
              refine g_iconst (v := 1) dX8_opensHere_115 (by decide) ?_
              obtain ⟨e56, K⟩ := K
              obtain ⟨q54, C55, K⟩ := K
              refine g_callV (M' := mX8_hasCall) (b := a0) (As := [.int x1, .int x2, .int 1]) (rest := []) (rc' := rc) (rs' := rs) dX8_opensHere_116 bw_1514 bw_1516 bs_76 bw_9 bw_1517 ⟨by decide +kernel, by decide +kernel, show (parseMethodDescriptor mX8_hasCall.1.desc).map (fun d => d.parameters.length) = some 3 by decide +kernel⟩ (by decide) (by decide) (Nat.le_of_ble_eq_true rfl) fc_8 (by decide) rfl e56 C55 (Nat.le_of_eq (Nat.add_zero _)) (Nat.le_of_eq (Nat.add_zero _)) (fun _ _ h => h) ?_
              rintro _ h57 ⟨r58, rfl, K1⟩ -
              replace K := K r58 h57 K1
              show Gm l x mX8_opensHere 4 119 [(0, .ref a0), (1, .int x1), (2, .int x2), (3, .int x3), (4, .int (if r50 = 0 then 1 else 0 : Int32))] [.int r58] h57 rc rs n0 Q X
              refine g_if_ne (tgt := 132) dX8_opensHere_119 (by decide) (fun c59 => ?_) (fun c59 => ?_)
              · replace K := K.1 c59
                refine g_iconst (v := 1) dX8_opensHere_132 (by decide) ?_
                refine g_goto (tgt := 137) dX8_opensHere_133 (by decide) ?_
                exact g_zret dX8_opensHere_137 rfl K.1 K.2
              · replace K := K.2 c59
                refine g_aload_n dX8_opensHere_122 rfl 0 rfl ?_
                refine g_iload_n dX8_opensHere_123 rfl 1 rfl ?_
                refine g_iload_n dX8_opensHere_124 rfl 2 rfl ?_
                refine g_iconst (v := (-1)) dX8_opensHere_125 (by decide) ?_
                obtain ⟨e62, K⟩ := K
                obtain ⟨q60, C61, K⟩ := K
                refine g_callV (M' := mX8_hasCall) (b := a0) (As := [.int x1, .int x2, .int (-1)]) (rest := []) (rc' := rc) (rs' := rs) dX8_opensHere_126 bw_1514 bw_1516 bs_76 bw_9 bw_1517 ⟨by decide +kernel, by decide +kernel, show (parseMethodDescriptor mX8_hasCall.1.desc).map (fun d => d.parameters.length) = some 3 by decide +kernel⟩ (by decide) (by decide) (Nat.le_of_ble_eq_true rfl) fc_8 (by decide) rfl e62 C61 (Nat.le_of_eq (Nat.add_zero _)) (Nat.le_of_eq (Nat.add_zero _)) (fun _ _ h => h) ?_
                rintro _ h63 ⟨r64, rfl, K1⟩ -
                replace K := K r64 h63 K1
                show Gm l x mX8_opensHere 4 129 [(0, .ref a0), (1, .int x1), (2, .int x2), (3, .int x3), (4, .int (if r50 = 0 then 1 else 0 : Int32))] [.int r64] h63 rc rs n0 Q X
                have KJ : Gm l x mX8_opensHere 4 137 [(0, .ref a0), (1, .int x1), (2, .int x2), (3, .int x3), (4, .int (if r50 = 0 then 1 else 0 : Int32))] [.int (if r64 = 0 then 0 else 1 : Int32)] h63 rc rs n0 Q X := by
                  exact g_zret dX8_opensHere_137 rfl K.1 K.2
                refine g_if_eq (tgt := 136) dX8_opensHere_129 (by decide) (fun c65 => ?_) (fun c65 => ?_)
                · refine g_iconst (v := 0) dX8_opensHere_136 (by decide) ?_
                  first | (simp only [if_pos c65] at KJ; exact KJ) | (simp only [if_pos c65, ite_true, ite_false, eq_self] at KJ; exact KJ) | (simp only [if_pos c65] at KJ ⊢; exact KJ) | exact KJ
                · refine g_iconst (v := 1) dX8_opensHere_132 (by decide) ?_
                  refine g_goto (tgt := 137) dX8_opensHere_133 (by decide) ?_
                  first | (simp only [if_neg c65] at KJ; exact KJ) | (simp only [if_neg c65, ite_true, ite_false, eq_self] at KJ; exact KJ) | (simp only [if_neg c65] at KJ ⊢; exact KJ) | exact KJ
          · replace K := K.2 c52
            refine g_aload_n dX8_opensHere_97 rfl 0 rfl ?_
            refine g_iload_n dX8_opensHere_98 rfl 1 rfl ?_
            refine g_iload_n dX8_opensHere_99 rfl 2 rfl ?_
            refine g_iload_n dX8_opensHere_100 rfl 3 rfl ?_
            obtain ⟨e68, K⟩ := K
            obtain ⟨q66, C67, K⟩ := K
            refine g_callV (M' := mX8_hasCall) (b := a0) (As := [.int x1, .int x2, .int x3]) (rest := []) (rc' := rc) (rs' := rs) dX8_opensHere_101 bw_1514 bw_1516 bs_76 bw_9 bw_1517 ⟨by decide +kernel, by decide +kernel, show (parseMethodDescriptor mX8_hasCall.1.desc).map (fun d => d.parameters.length) = some 3 by decide +kernel⟩ (by decide) (by decide) (Nat.le_of_ble_eq_true rfl) fc_8 (by decide) rfl e68 C67 (Nat.le_of_eq (Nat.add_zero _)) (Nat.le_of_eq (Nat.add_zero _)) (fun _ _ h => h) ?_
            rintro _ h69 ⟨r70, rfl, K1⟩ -
            replace K := K r70 h69 K1
            show Gm l x mX8_opensHere 4 104 [(0, .ref a0), (1, .int x1), (2, .int x2), (3, .int x3), (4, .int (if r50 = 0 then 1 else 0 : Int32))] [.int r70] h69 rc rs n0 Q X
            refine g_if_ne (tgt := 132) dX8_opensHere_104 (by decide) (fun c71 => ?_) (fun c71 => ?_)
            · replace K := K.1 c71
              refine g_iconst (v := 1) dX8_opensHere_132 (by decide) ?_
              refine g_goto (tgt := 137) dX8_opensHere_133 (by decide) ?_
              exact g_zret dX8_opensHere_137 rfl K.1 K.2
            · replace K := K.2 c71
              refine g_iload dX8_opensHere_107 4 rfl ?_
              refine g_if_eq (tgt := 136) dX8_opensHere_109 (by decide) (fun c72 => ?_) (fun c72 => ?_)
              · replace K := K.1 c72
                refine g_iconst (v := 0) dX8_opensHere_136 (by decide) ?_
                exact g_zret dX8_opensHere_137 rfl K.1 K.2
              · replace K := K.2 c72
                refine g_aload_n dX8_opensHere_112 rfl 0 rfl ?_
                refine g_iload_n dX8_opensHere_113 rfl 1 rfl ?_
                refine g_iload_n dX8_opensHere_114 rfl 2 rfl ?_
                refine g_iconst (v := 1) dX8_opensHere_115 (by decide) ?_
                obtain ⟨e75, K⟩ := K
                obtain ⟨q73, C74, K⟩ := K
                refine g_callV (M' := mX8_hasCall) (b := a0) (As := [.int x1, .int x2, .int 1]) (rest := []) (rc' := rc) (rs' := rs) dX8_opensHere_116 bw_1514 bw_1516 bs_76 bw_9 bw_1517 ⟨by decide +kernel, by decide +kernel, show (parseMethodDescriptor mX8_hasCall.1.desc).map (fun d => d.parameters.length) = some 3 by decide +kernel⟩ (by decide) (by decide) (Nat.le_of_ble_eq_true rfl) fc_8 (by decide) rfl e75 C74 (Nat.le_of_eq (Nat.add_zero _)) (Nat.le_of_eq (Nat.add_zero _)) (fun _ _ h => h) ?_
                rintro _ h76 ⟨r77, rfl, K1⟩ -
                replace K := K r77 h76 K1
                show Gm l x mX8_opensHere 4 119 [(0, .ref a0), (1, .int x1), (2, .int x2), (3, .int x3), (4, .int (if r50 = 0 then 1 else 0 : Int32))] [.int r77] h76 rc rs n0 Q X
                refine g_if_ne (tgt := 132) dX8_opensHere_119 (by decide) (fun c78 => ?_) (fun c78 => ?_)
                · replace K := K.1 c78
                  refine g_iconst (v := 1) dX8_opensHere_132 (by decide) ?_
                  refine g_goto (tgt := 137) dX8_opensHere_133 (by decide) ?_
                  exact g_zret dX8_opensHere_137 rfl K.1 K.2
                · replace K := K.2 c78
                  refine g_aload_n dX8_opensHere_122 rfl 0 rfl ?_
                  refine g_iload_n dX8_opensHere_123 rfl 1 rfl ?_
                  refine g_iload_n dX8_opensHere_124 rfl 2 rfl ?_
                  refine g_iconst (v := (-1)) dX8_opensHere_125 (by decide) ?_
                  obtain ⟨e81, K⟩ := K
                  obtain ⟨q79, C80, K⟩ := K
                  refine g_callV (M' := mX8_hasCall) (b := a0) (As := [.int x1, .int x2, .int (-1)]) (rest := []) (rc' := rc) (rs' := rs) dX8_opensHere_126 bw_1514 bw_1516 bs_76 bw_9 bw_1517 ⟨by decide +kernel, by decide +kernel, show (parseMethodDescriptor mX8_hasCall.1.desc).map (fun d => d.parameters.length) = some 3 by decide +kernel⟩ (by decide) (by decide) (Nat.le_of_ble_eq_true rfl) fc_8 (by decide) rfl e81 C80 (Nat.le_of_eq (Nat.add_zero _)) (Nat.le_of_eq (Nat.add_zero _)) (fun _ _ h => h) ?_
                  rintro _ h82 ⟨r83, rfl, K1⟩ -
                  replace K := K r83 h82 K1
                  show Gm l x mX8_opensHere 4 129 [(0, .ref a0), (1, .int x1), (2, .int x2), (3, .int x3), (4, .int (if r50 = 0 then 1 else 0 : Int32))] [.int r83] h82 rc rs n0 Q X
                  have KJ : Gm l x mX8_opensHere 4 137 [(0, .ref a0), (1, .int x1), (2, .int x2), (3, .int x3), (4, .int (if r50 = 0 then 1 else 0 : Int32))] [.int (if r83 = 0 then 0 else 1 : Int32)] h82 rc rs n0 Q X := by
                    exact g_zret dX8_opensHere_137 rfl K.1 K.2
                  refine g_if_eq (tgt := 136) dX8_opensHere_129 (by decide) (fun c84 => ?_) (fun c84 => ?_)
                  · refine g_iconst (v := 0) dX8_opensHere_136 (by decide) ?_
                    first | (simp only [if_pos c84] at KJ; exact KJ) | (simp only [if_pos c84, ite_true, ite_false, eq_self] at KJ; exact KJ) | (simp only [if_pos c84] at KJ ⊢; exact KJ) | exact KJ
                  · refine g_iconst (v := 1) dX8_opensHere_132 (by decide) ?_
                    refine g_goto (tgt := 137) dX8_opensHere_133 (by decide) ?_
                    first | (simp only [if_neg c84] at KJ; exact KJ) | (simp only [if_neg c84, ite_true, ite_false, eq_self] at KJ; exact KJ) | (simp only [if_neg c84] at KJ ⊢; exact KJ) | exact KJ
        refine g_if_ne (tgt := 90) dX8_opensHere_83 (by decide) (fun c51 => ?_) (fun c51 => ?_)
        · refine g_iconst (v := 0) dX8_opensHere_90 (by decide) ?_
          first | (simp only [if_neg c51] at KJ; exact KJ) | (simp only [if_neg c51, ite_true, ite_false, eq_self] at KJ; exact KJ) | (simp only [if_neg c51] at KJ ⊢; exact KJ) | exact KJ
        · refine g_iconst (v := 1) dX8_opensHere_86 (by decide) ?_
          refine g_goto (tgt := 91) dX8_opensHere_87 (by decide) ?_
          first | (simp only [if_pos c51] at KJ; exact KJ) | (simp only [if_pos c51, ite_true, ite_false, eq_self] at KJ; exact KJ) | (simp only [if_pos c51] at KJ ⊢; exact KJ) | exact KJ
    · replace K := K.2 c11
      refine g_iconst (v := 0) dX8_opensHere_71 (by decide) ?_
      exact g_zret dX8_opensHere_72 rfl K.1 K.2
  · replace K := K.2 c6
    refine g_aload_n dX8_opensHere_29 rfl 0 rfl ?_
    refine g_iload_n dX8_opensHere_30 rfl 1 rfl ?_
    refine g_iconst (v := 3) dX8_opensHere_31 (by decide) ?_
    obtain ⟨q85, C86, K⟩ := K
    refine g_callV (M' := mX8_carOf) (b := a0) (As := [.int x1, .int 3]) (rest := []) (rc' := rc) (rs' := rs) dX8_opensHere_32 bw_1476 bw_1478 bs_67 bw_9 bw_1479 ⟨by decide +kernel, by decide +kernel, show (parseMethodDescriptor mX8_carOf.1.desc).map (fun d => d.parameters.length) = some 2 by decide +kernel⟩ (by decide) (by decide) (Nat.le_of_ble_eq_true rfl) fc_8 (by decide) rfl e1 C86 (Nat.le_of_eq (Nat.add_zero _)) (Nat.le_of_eq (Nat.add_zero _)) (fun _ _ h => h) ?_
    rintro _ h87 ⟨r88, rfl, K1⟩ -
    replace K := K r88 h87 K1
    show Gm l x mX8_opensHere 4 35 [(0, .ref a0), (1, .int x1), (2, .int x2), (3, .int x3), (4, .int x4)] [.int r88] h87 rc rs n0 Q X
    refine g_iload dX8_opensHere_35 4 rfl ?_
    refine g_ishr dX8_opensHere_37 ?_
    refine g_iconst (v := 1) dX8_opensHere_38 (by decide) ?_
    refine g_iand dX8_opensHere_39 ?_
    refine g_iconst (v := 1) dX8_opensHere_40 (by decide) ?_
    refine g_icmp_ne (tgt := 57) dX8_opensHere_41 (by decide) (fun c89 => ?_) (fun c89 => ?_)
    · replace K := K.1 c89
      refine g_iinc (v := (x4 + 1)) (lv' := [(0, .ref a0), (1, .int x1), (2, .int x2), (3, .int x3), (4, .int (x4 + 1))]) dX8_opensHere_57 4 rfl (by rfl) (by decide) rfl ?_
      refine g_goto (tgt := 17) dX8_opensHere_60 (by decide) ?_
      exact K
    · replace K := K.2 c89
      refine g_aload_n dX8_opensHere_44 rfl 0 rfl ?_
      refine g_iload dX8_opensHere_45 4 rfl ?_
      refine g_iconst (v := 3) dX8_opensHere_47 (by decide) ?_
      obtain ⟨e92, K⟩ := K
      obtain ⟨q90, C91, K⟩ := K
      refine g_callV (M' := mX8_of) (b := a0) (As := [.int x4, .int 3]) (rest := []) (rc' := rc) (rs' := rs) dX8_opensHere_48 bw_1413 bw_1415 bs_52 bw_9 bw_1416 ⟨by decide +kernel, by decide +kernel, show (parseMethodDescriptor mX8_of.1.desc).map (fun d => d.parameters.length) = some 2 by decide +kernel⟩ (by decide) (by decide) (Nat.le_of_ble_eq_true rfl) fc_8 (by decide) rfl e92 C91 (Nat.le_of_eq (Nat.add_zero _)) (Nat.le_of_eq (Nat.add_zero _)) (fun _ _ h => h) ?_
      rintro _ h93 ⟨r94, rfl, K1⟩ -
      replace K := K r94 h93 K1
      show Gm l x mX8_opensHere 4 51 [(0, .ref a0), (1, .int x1), (2, .int x2), (3, .int x3), (4, .int x4)] [.int r94] h93 rc rs n0 Q X
      refine g_iload_n dX8_opensHere_51 rfl 2 rfl ?_
      refine g_icmp_ne (tgt := 57) dX8_opensHere_52 (by decide) (fun c95 => ?_) (fun c95 => ?_)
      · replace K := K.1 c95
        refine g_iinc (v := (x4 + 1)) (lv' := [(0, .ref a0), (1, .int x1), (2, .int x2), (3, .int x3), (4, .int (x4 + 1))]) dX8_opensHere_57 4 rfl (by rfl) (by decide) rfl ?_
        refine g_goto (tgt := 17) dX8_opensHere_60 (by decide) ?_
        exact K
      · replace K := K.2 c95
        refine g_iconst (v := 1) dX8_opensHere_55 (by decide) ?_
        exact g_zret dX8_opensHere_56 rfl K.1 K.2
theorem dX8_turned_0 : decode cX8_turned 0 = .ok (.iload_n 2, 1) := by decide +kernel
theorem dX8_turned_1 : decode cX8_turned 1 = .ok (.ifCond .eq 20, 3) := by decide +kernel
theorem dX8_turned_4 : decode cX8_turned 4 = .ok (.aload_n 0, 1) := by decide +kernel
theorem dX8_turned_5 : decode cX8_turned 5 = .ok (.iload_n 1, 1) := by decide +kernel
theorem dX8_turned_6 : decode cX8_turned 6 = .ok (.iload_n 2, 1) := by decide +kernel
theorem dX8_turned_7 : decode cX8_turned 7 = .ok (.ineg, 1) := by decide +kernel
theorem dX8_turned_8 : decode cX8_turned 8 = .ok (.invokevirtual 273, 3) := by decide +kernel
theorem dX8_turned_11 : decode cX8_turned 11 = .ok (.ifCond .eq 8, 3) := by decide +kernel
theorem dX8_turned_14 : decode cX8_turned 14 = .ok (.iload_n 2, 1) := by decide +kernel
theorem dX8_turned_15 : decode cX8_turned 15 = .ok (.ineg, 1) := by decide +kernel
theorem dX8_turned_16 : decode cX8_turned 16 = .ok (.goto 4, 3) := by decide +kernel
theorem dX8_turned_19 : decode cX8_turned 19 = .ok (.iconst 0, 1) := by decide +kernel
theorem dX8_turned_20 : decode cX8_turned 20 = .ok (.ireturn, 1) := by decide +kernel
theorem dX8_turned_21 : decode cX8_turned 21 = .ok (.aload_n 0, 1) := by decide +kernel
theorem dX8_turned_22 : decode cX8_turned 22 = .ok (.iload_n 1, 1) := by decide +kernel
theorem dX8_turned_23 : decode cX8_turned 23 = .ok (.iconst 1, 1) := by decide +kernel
theorem dX8_turned_24 : decode cX8_turned 24 = .ok (.invokevirtual 273, 3) := by decide +kernel
theorem dX8_turned_27 : decode cX8_turned 27 = .ok (.ifCond .eq 7, 3) := by decide +kernel
theorem dX8_turned_30 : decode cX8_turned 30 = .ok (.iconst 1, 1) := by decide +kernel
theorem dX8_turned_31 : decode cX8_turned 31 = .ok (.goto 17, 3) := by decide +kernel
theorem dX8_turned_34 : decode cX8_turned 34 = .ok (.aload_n 0, 1) := by decide +kernel
theorem dX8_turned_35 : decode cX8_turned 35 = .ok (.iload_n 1, 1) := by decide +kernel
theorem dX8_turned_36 : decode cX8_turned 36 = .ok (.iconst (-1), 1) := by decide +kernel
theorem dX8_turned_37 : decode cX8_turned 37 = .ok (.invokevirtual 273, 3) := by decide +kernel
theorem dX8_turned_40 : decode cX8_turned 40 = .ok (.ifCond .eq 7, 3) := by decide +kernel
theorem dX8_turned_43 : decode cX8_turned 43 = .ok (.iconst (-1), 1) := by decide +kernel
theorem dX8_turned_44 : decode cX8_turned 44 = .ok (.goto 4, 3) := by decide +kernel
theorem dX8_turned_47 : decode cX8_turned 47 = .ok (.iconst 0, 1) := by decide +kernel
theorem dX8_turned_48 : decode cX8_turned 48 = .ok (.ireturn, 1) := by decide +kernel
set_option maxRecDepth 20000 in
set_option maxHeartbeats 4000000 in
theorem vX8_turned_0 {l : Launch} {x : CX} {a0 : Nat} {x1 : Int32} {x2 : Int32} {h : PH} {rc rs n0 : Nat} {Q : Option Value → PH → Prop} {X : String → PH → Prop}
    (K : ((x2 = 0 → ((hK h a0).1 = 8) ∧ ∃ (q2 : Int32 → PH → Prop), CI l x mX8_isStop 3 0 0 [.ref a0, .int x1, .int 1] h q2 ∧ ∀ (r6 : Int32) (h5 : PH), q2 r6 h5 → ((r6 = 0 → ((hK h5 a0).1 = 8) ∧ ∃ (q8 : Int32 → PH → Prop), CI l x mX8_isStop 3 0 0 [.ref a0, .int x1, .int (-1)] h5 q8 ∧ ∀ (r12 : Int32) (h11 : PH), q8 r12 h11 → Q (some (.int (if r12 = 0 then 0 else (-1) : Int32))) h11) ∧ (¬ r6 = 0 → Q (some (.int 1)) h5))) ∧ (¬ x2 = 0 → ((hK h a0).1 = 8) ∧ ∃ (q14 : Int32 → PH → Prop), CI l x mX8_isStop 3 0 0 [.ref a0, .int x1, .int (-x2)] h q14 ∧ ∀ (r18 : Int32) (h17 : PH), q14 r18 h17 → Q (some (.int (if r18 = 0 then 0 else (-x2) : Int32))) h17))) :
    Gm l x mX8_turned 4 0 [(0, .ref a0), (1, .int x1), (2, .int x2)] [] h rc rs n0 Q X := by
  refine g_iload_n dX8_turned_0 rfl 2 rfl ?_
  refine g_if_eq (tgt := 21) dX8_turned_1 (by decide) (fun c1 => ?_) (fun c1 => ?_)
  · replace K := K.1 c1
    refine g_aload_n dX8_turned_21 rfl 0 rfl ?_
    refine g_iload_n dX8_turned_22 rfl 1 rfl ?_
    refine g_iconst (v := 1) dX8_turned_23 (by decide) ?_
    obtain ⟨e4, K⟩ := K
    obtain ⟨q2, C3, K⟩ := K
    refine g_callV (M' := mX8_isStop) (b := a0) (As := [.int x1, .int 1]) (rest := []) (rc' := rc) (rs' := rs) dX8_turned_24 bw_1506 bw_1508 bs_74 bw_9 bw_1509 ⟨by decide +kernel, by decide +kernel, show (parseMethodDescriptor mX8_isStop.1.desc).map (fun d => d.parameters.length) = some 2 by decide +kernel⟩ (by decide) (by decide) (Nat.le_of_ble_eq_true rfl) fc_8 (by decide) rfl e4 C3 (Nat.le_of_eq (Nat.add_zero _)) (Nat.le_of_eq (Nat.add_zero _)) (fun _ _ h => h) ?_
    rintro _ h5 ⟨r6, rfl, K1⟩ -
    replace K := K r6 h5 K1
    show Gm l x mX8_turned 4 27 [(0, .ref a0), (1, .int x1), (2, .int x2)] [.int r6] h5 rc rs n0 Q X
    refine g_if_eq (tgt := 34) dX8_turned_27 (by decide) (fun c7 => ?_) (fun c7 => ?_)
    · replace K := K.1 c7
      refine g_aload_n dX8_turned_34 rfl 0 rfl ?_
      refine g_iload_n dX8_turned_35 rfl 1 rfl ?_
      refine g_iconst (v := (-1)) dX8_turned_36 (by decide) ?_
      obtain ⟨e10, K⟩ := K
      obtain ⟨q8, C9, K⟩ := K
      refine g_callV (M' := mX8_isStop) (b := a0) (As := [.int x1, .int (-1)]) (rest := []) (rc' := rc) (rs' := rs) dX8_turned_37 bw_1506 bw_1508 bs_74 bw_9 bw_1509 ⟨by decide +kernel, by decide +kernel, show (parseMethodDescriptor mX8_isStop.1.desc).map (fun d => d.parameters.length) = some 2 by decide +kernel⟩ (by decide) (by decide) (Nat.le_of_ble_eq_true rfl) fc_8 (by decide) rfl e10 C9 (Nat.le_of_eq (Nat.add_zero _)) (Nat.le_of_eq (Nat.add_zero _)) (fun _ _ h => h) ?_
      rintro _ h11 ⟨r12, rfl, K1⟩ -
      replace K := K r12 h11 K1
      show Gm l x mX8_turned 4 40 [(0, .ref a0), (1, .int x1), (2, .int x2)] [.int r12] h11 rc rs n0 Q X
      have KJ : Gm l x mX8_turned 4 48 [(0, .ref a0), (1, .int x1), (2, .int x2)] [.int (if r12 = 0 then 0 else (-1) : Int32)] h11 rc rs n0 Q X := by
        exact g_iret dX8_turned_48 rfl K
      refine g_if_eq (tgt := 47) dX8_turned_40 (by decide) (fun c13 => ?_) (fun c13 => ?_)
      · refine g_iconst (v := 0) dX8_turned_47 (by decide) ?_
        first | (simp only [if_pos c13] at KJ; exact KJ) | (simp only [if_pos c13, ite_true, ite_false, eq_self] at KJ; exact KJ) | (simp only [if_pos c13] at KJ ⊢; exact KJ) | exact KJ
      · refine g_iconst (v := (-1)) dX8_turned_43 (by decide) ?_
        refine g_goto (tgt := 48) dX8_turned_44 (by decide) ?_
        first | (simp only [if_neg c13] at KJ; exact KJ) | (simp only [if_neg c13, ite_true, ite_false, eq_self] at KJ; exact KJ) | (simp only [if_neg c13] at KJ ⊢; exact KJ) | exact KJ
    · replace K := K.2 c7
      refine g_iconst (v := 1) dX8_turned_30 (by decide) ?_
      refine g_goto (tgt := 48) dX8_turned_31 (by decide) ?_
      exact g_iret dX8_turned_48 rfl K
  · replace K := K.2 c1
    refine g_aload_n dX8_turned_4 rfl 0 rfl ?_
    refine g_iload_n dX8_turned_5 rfl 1 rfl ?_
    refine g_iload_n dX8_turned_6 rfl 2 rfl ?_
    refine g_ineg dX8_turned_7 ?_
    obtain ⟨e16, K⟩ := K
    obtain ⟨q14, C15, K⟩ := K
    refine g_callV (M' := mX8_isStop) (b := a0) (As := [.int x1, .int (-x2)]) (rest := []) (rc' := rc) (rs' := rs) dX8_turned_8 bw_1506 bw_1508 bs_74 bw_9 bw_1509 ⟨by decide +kernel, by decide +kernel, show (parseMethodDescriptor mX8_isStop.1.desc).map (fun d => d.parameters.length) = some 2 by decide +kernel⟩ (by decide) (by decide) (Nat.le_of_ble_eq_true rfl) fc_8 (by decide) rfl e16 C15 (Nat.le_of_eq (Nat.add_zero _)) (Nat.le_of_eq (Nat.add_zero _)) (fun _ _ h => h) ?_
    rintro _ h17 ⟨r18, rfl, K1⟩ -
    replace K := K r18 h17 K1
    show Gm l x mX8_turned 4 11 [(0, .ref a0), (1, .int x1), (2, .int x2)] [.int r18] h17 rc rs n0 Q X
    have KJ : Gm l x mX8_turned 4 20 [(0, .ref a0), (1, .int x1), (2, .int x2)] [.int (if r18 = 0 then 0 else (-x2) : Int32)] h17 rc rs n0 Q X := by
      exact g_iret dX8_turned_20 rfl K
    refine g_if_eq (tgt := 19) dX8_turned_11 (by decide) (fun c19 => ?_) (fun c19 => ?_)
    · refine g_iconst (v := 0) dX8_turned_19 (by decide) ?_
      first | (simp only [if_pos c19] at KJ; exact KJ) | (simp only [if_pos c19, ite_true, ite_false, eq_self] at KJ; exact KJ) | (simp only [if_pos c19] at KJ ⊢; exact KJ) | exact KJ
    · refine g_iload_n dX8_turned_14 rfl 2 rfl ?_
      refine g_ineg dX8_turned_15 ?_
      refine g_goto (tgt := 20) dX8_turned_16 (by decide) ?_
      first | (simp only [if_neg c19] at KJ; exact KJ) | (simp only [if_neg c19, ite_true, ite_false, eq_self] at KJ; exact KJ) | (simp only [if_neg c19] at KJ ⊢; exact KJ) | exact KJ
theorem dX8_burns_0 : decode cX8_burns 0 = .ok (.aload_n 0, 1) := by decide +kernel
theorem dX8_burns_1 : decode cX8_burns 1 = .ok (.iload_n 1, 1) := by decide +kernel
theorem dX8_burns_2 : decode cX8_burns 2 = .ok (.iconst 2, 1) := by decide +kernel
theorem dX8_burns_3 : decode cX8_burns 3 = .ok (.iconst 0, 1) := by decide +kernel
theorem dX8_burns_4 : decode cX8_burns 4 = .ok (.invokevirtual 221, 3) := by decide +kernel
theorem dX8_burns_7 : decode cX8_burns 7 = .ok (.aload_n 0, 1) := by decide +kernel
theorem dX8_burns_8 : decode cX8_burns 8 = .ok (.iload_n 1, 1) := by decide +kernel
theorem dX8_burns_9 : decode cX8_burns 9 = .ok (.iconst 0, 1) := by decide +kernel
theorem dX8_burns_10 : decode cX8_burns 10 = .ok (.invokevirtual 238, 3) := by decide +kernel
theorem dX8_burns_13 : decode cX8_burns 13 = .ok (.ifCond .le 19, 3) := by decide +kernel
theorem dX8_burns_16 : decode cX8_burns 16 = .ok (.aload_n 0, 1) := by decide +kernel
theorem dX8_burns_17 : decode cX8_burns 17 = .ok (.iload_n 1, 1) := by decide +kernel
theorem dX8_burns_18 : decode cX8_burns 18 = .ok (.iconst 1, 1) := by decide +kernel
theorem dX8_burns_19 : decode cX8_burns 19 = .ok (.iconst (-1), 1) := by decide +kernel
theorem dX8_burns_20 : decode cX8_burns 20 = .ok (.invokevirtual 221, 3) := by decide +kernel
theorem dX8_burns_23 : decode cX8_burns 23 = .ok (.aload_n 0, 1) := by decide +kernel
theorem dX8_burns_24 : decode cX8_burns 24 = .ok (.iload_n 1, 1) := by decide +kernel
theorem dX8_burns_25 : decode cX8_burns 25 = .ok (.iconst (-1), 1) := by decide +kernel
theorem dX8_burns_26 : decode cX8_burns 26 = .ok (.invokevirtual 291, 3) := by decide +kernel
theorem dX8_burns_29 : decode cX8_burns 29 = .ok (.goto 15, 3) := by decide +kernel
theorem dX8_burns_32 : decode cX8_burns 32 = .ok (.aload_n 0, 1) := by decide +kernel
theorem dX8_burns_33 : decode cX8_burns 33 = .ok (.iload_n 1, 1) := by decide +kernel
theorem dX8_burns_34 : decode cX8_burns 34 = .ok (.iconst 1, 1) := by decide +kernel
theorem dX8_burns_35 : decode cX8_burns 35 = .ok (.iconst 0, 1) := by decide +kernel
theorem dX8_burns_36 : decode cX8_burns 36 = .ok (.invokevirtual 221, 3) := by decide +kernel
theorem dX8_burns_39 : decode cX8_burns 39 = .ok (.aload_n 0, 1) := by decide +kernel
theorem dX8_burns_40 : decode cX8_burns 40 = .ok (.iload_n 1, 1) := by decide +kernel
theorem dX8_burns_41 : decode cX8_burns 41 = .ok (.invokevirtual 307, 3) := by decide +kernel
theorem dX8_burns_44 : decode cX8_burns 44 = .ok (.return_, 1) := by decide +kernel
set_option maxRecDepth 20000 in
set_option maxHeartbeats 4000000 in
theorem vX8_burns_0 {l : Launch} {x : CX} {a0 : Nat} {x1 : Int32} {h : PH} {rc rs n0 : Nat} {Q : Option Value → PH → Prop} {X : String → PH → Prop}
    (K : ((hK h a0).1 = 8) ∧ ∃ (q1 : PH → Prop), CV l x mX8_putCar 0 0 0 [.ref a0, .int x1, .int 2, .int 0] h q1 ∧ ∀ (h4 : PH), q1 h4 → ((hK h4 a0).1 = 8) ∧ ∃ (q5 : Int32 → PH → Prop), CI l x mX8_carOf 0 0 0 [.ref a0, .int x1, .int 0] h4 q5 ∧ ∀ (r9 : Int32) (h8 : PH), q5 r9 h8 → ((r9 ≤ 0 → ((hK h8 a0).1 = 8) ∧ ∃ (q11 : PH → Prop), CV l x mX8_putCar 0 0 0 [.ref a0, .int x1, .int 1, .int 0] h8 q11 ∧ ∀ (h14 : PH), q11 h14 → ((hK h14 a0).1 = 8) ∧ ∃ (q15 : PH → Prop), CV l x mX8_empties 2 0 0 [.ref a0, .int x1] h14 q15 ∧ ∀ (h18 : PH), q15 h18 → Q none h18) ∧ (¬ r9 ≤ 0 → ((hK h8 a0).1 = 8) ∧ ∃ (q19 : PH → Prop), CV l x mX8_putCar 0 0 0 [.ref a0, .int x1, .int 1, .int (-1)] h8 q19 ∧ ∀ (h22 : PH), q19 h22 → ((hK h22 a0).1 = 8) ∧ ∃ (q23 : PH → Prop), CV l x mX8_moves 3 0 0 [.ref a0, .int x1, .int (-1)] h22 q23 ∧ ∀ (h26 : PH), q23 h26 → Q none h26))) :
    Gm l x mX8_burns 4 0 [(0, .ref a0), (1, .int x1)] [] h rc rs n0 Q X := by
  refine g_aload_n dX8_burns_0 rfl 0 rfl ?_
  refine g_iload_n dX8_burns_1 rfl 1 rfl ?_
  refine g_iconst (v := 2) dX8_burns_2 (by decide) ?_
  refine g_iconst (v := 0) dX8_burns_3 (by decide) ?_
  obtain ⟨e3, K⟩ := K
  obtain ⟨q1, C2, K⟩ := K
  refine g_callV (M' := mX8_putCar) (b := a0) (As := [.int x1, .int 2, .int 0]) (rest := []) (rc' := rc) (rs' := rs) dX8_burns_4 bw_1190 bw_1192 bs_37 bw_9 bw_1193 ⟨by decide +kernel, by decide +kernel, show (parseMethodDescriptor mX8_putCar.1.desc).map (fun d => d.parameters.length) = some 3 by decide +kernel⟩ (by decide) (by decide) (Nat.le_of_ble_eq_true rfl) fc_8 (by decide) rfl e3 C2 (Nat.le_of_eq (Nat.add_zero _)) (Nat.le_of_eq (Nat.add_zero _)) (fun _ _ h => h) ?_
  rintro _ h4 ⟨rfl, K1⟩ -
  replace K := K h4 K1
  show Gm l x mX8_burns 4 7 [(0, .ref a0), (1, .int x1)] [] h4 rc rs n0 Q X
  refine g_aload_n dX8_burns_7 rfl 0 rfl ?_
  refine g_iload_n dX8_burns_8 rfl 1 rfl ?_
  refine g_iconst (v := 0) dX8_burns_9 (by decide) ?_
  obtain ⟨e7, K⟩ := K
  obtain ⟨q5, C6, K⟩ := K
  refine g_callV (M' := mX8_carOf) (b := a0) (As := [.int x1, .int 0]) (rest := []) (rc' := rc) (rs' := rs) dX8_burns_10 bw_1476 bw_1478 bs_67 bw_9 bw_1479 ⟨by decide +kernel, by decide +kernel, show (parseMethodDescriptor mX8_carOf.1.desc).map (fun d => d.parameters.length) = some 2 by decide +kernel⟩ (by decide) (by decide) (Nat.le_of_ble_eq_true rfl) fc_8 (by decide) rfl e7 C6 (Nat.le_of_eq (Nat.add_zero _)) (Nat.le_of_eq (Nat.add_zero _)) (fun _ _ h => h) ?_
  rintro _ h8 ⟨r9, rfl, K1⟩ -
  replace K := K r9 h8 K1
  show Gm l x mX8_burns 4 13 [(0, .ref a0), (1, .int x1)] [.int r9] h8 rc rs n0 Q X
  refine g_if_le (tgt := 32) dX8_burns_13 (by decide) (fun c10 => ?_) (fun c10 => ?_)
  · replace K := K.1 c10
    refine g_aload_n dX8_burns_32 rfl 0 rfl ?_
    refine g_iload_n dX8_burns_33 rfl 1 rfl ?_
    refine g_iconst (v := 1) dX8_burns_34 (by decide) ?_
    refine g_iconst (v := 0) dX8_burns_35 (by decide) ?_
    obtain ⟨e13, K⟩ := K
    obtain ⟨q11, C12, K⟩ := K
    refine g_callV (M' := mX8_putCar) (b := a0) (As := [.int x1, .int 1, .int 0]) (rest := []) (rc' := rc) (rs' := rs) dX8_burns_36 bw_1190 bw_1192 bs_37 bw_9 bw_1193 ⟨by decide +kernel, by decide +kernel, show (parseMethodDescriptor mX8_putCar.1.desc).map (fun d => d.parameters.length) = some 3 by decide +kernel⟩ (by decide) (by decide) (Nat.le_of_ble_eq_true rfl) fc_8 (by decide) rfl e13 C12 (Nat.le_of_eq (Nat.add_zero _)) (Nat.le_of_eq (Nat.add_zero _)) (fun _ _ h => h) ?_
    rintro _ h14 ⟨rfl, K1⟩ -
    replace K := K h14 K1
    show Gm l x mX8_burns 4 39 [(0, .ref a0), (1, .int x1)] [] h14 rc rs n0 Q X
    refine g_aload_n dX8_burns_39 rfl 0 rfl ?_
    refine g_iload_n dX8_burns_40 rfl 1 rfl ?_
    obtain ⟨e17, K⟩ := K
    obtain ⟨q15, C16, K⟩ := K
    refine g_callV (M' := mX8_empties) (b := a0) (As := [.int x1]) (rest := []) (rc' := rc) (rs' := rs) dX8_burns_41 bw_1568 bw_1570 bs_85 bw_9 bw_1571 ⟨by decide +kernel, by decide +kernel, show (parseMethodDescriptor mX8_empties.1.desc).map (fun d => d.parameters.length) = some 1 by decide +kernel⟩ (by decide) (by decide) (Nat.le_of_ble_eq_true rfl) fc_8 (by decide) rfl e17 C16 (Nat.le_of_eq (Nat.add_zero _)) (Nat.le_of_eq (Nat.add_zero _)) (fun _ _ h => h) ?_
    rintro _ h18 ⟨rfl, K1⟩ -
    replace K := K h18 K1
    show Gm l x mX8_burns 4 44 [(0, .ref a0), (1, .int x1)] [] h18 rc rs n0 Q X
    exact g_vret dX8_burns_44 rfl K
  · replace K := K.2 c10
    refine g_aload_n dX8_burns_16 rfl 0 rfl ?_
    refine g_iload_n dX8_burns_17 rfl 1 rfl ?_
    refine g_iconst (v := 1) dX8_burns_18 (by decide) ?_
    refine g_iconst (v := (-1)) dX8_burns_19 (by decide) ?_
    obtain ⟨e21, K⟩ := K
    obtain ⟨q19, C20, K⟩ := K
    refine g_callV (M' := mX8_putCar) (b := a0) (As := [.int x1, .int 1, .int (-1)]) (rest := []) (rc' := rc) (rs' := rs) dX8_burns_20 bw_1190 bw_1192 bs_37 bw_9 bw_1193 ⟨by decide +kernel, by decide +kernel, show (parseMethodDescriptor mX8_putCar.1.desc).map (fun d => d.parameters.length) = some 3 by decide +kernel⟩ (by decide) (by decide) (Nat.le_of_ble_eq_true rfl) fc_8 (by decide) rfl e21 C20 (Nat.le_of_eq (Nat.add_zero _)) (Nat.le_of_eq (Nat.add_zero _)) (fun _ _ h => h) ?_
    rintro _ h22 ⟨rfl, K1⟩ -
    replace K := K h22 K1
    show Gm l x mX8_burns 4 23 [(0, .ref a0), (1, .int x1)] [] h22 rc rs n0 Q X
    refine g_aload_n dX8_burns_23 rfl 0 rfl ?_
    refine g_iload_n dX8_burns_24 rfl 1 rfl ?_
    refine g_iconst (v := (-1)) dX8_burns_25 (by decide) ?_
    obtain ⟨e25, K⟩ := K
    obtain ⟨q23, C24, K⟩ := K
    refine g_callV (M' := mX8_moves) (b := a0) (As := [.int x1, .int (-1)]) (rest := []) (rc' := rc) (rs' := rs) dX8_burns_26 bw_1552 bw_1554 bs_82 bw_9 bw_1555 ⟨by decide +kernel, by decide +kernel, show (parseMethodDescriptor mX8_moves.1.desc).map (fun d => d.parameters.length) = some 2 by decide +kernel⟩ (by decide) (by decide) (Nat.le_of_ble_eq_true rfl) fc_8 (by decide) rfl e25 C24 (Nat.le_of_eq (Nat.add_zero _)) (Nat.le_of_eq (Nat.add_zero _)) (fun _ _ h => h) ?_
    rintro _ h26 ⟨rfl, K1⟩ -
    replace K := K h26 K1
    show Gm l x mX8_burns 4 29 [(0, .ref a0), (1, .int x1)] [] h26 rc rs n0 Q X
    refine g_goto (tgt := 44) dX8_burns_29 (by decide) ?_
    exact g_vret dX8_burns_44 rfl K
theorem dX8_opens_0 : decode cX8_opens 0 = .ok (.aload_n 0, 1) := by decide +kernel
theorem dX8_opens_1 : decode cX8_opens 1 = .ok (.iload_n 1, 1) := by decide +kernel
theorem dX8_opens_2 : decode cX8_opens 2 = .ok (.iconst 0, 1) := by decide +kernel
theorem dX8_opens_3 : decode cX8_opens 3 = .ok (.invokevirtual 238, 3) := by decide +kernel
theorem dX8_opens_6 : decode cX8_opens 6 = .ok (.istore_n 2, 1) := by decide +kernel
theorem dX8_opens_7 : decode cX8_opens 7 = .ok (.iconst 0, 1) := by decide +kernel
theorem dX8_opens_8 : decode cX8_opens 8 = .ok (.istore_n 3, 1) := by decide +kernel
theorem dX8_opens_9 : decode cX8_opens 9 = .ok (.iload_n 3, 1) := by decide +kernel
theorem dX8_opens_10 : decode cX8_opens 10 = .ok (.aload_n 0, 1) := by decide +kernel
theorem dX8_opens_11 : decode cX8_opens 11 = .ok (.getfield 29, 3) := by decide +kernel
theorem dX8_opens_14 : decode cX8_opens 14 = .ok (.bipush 6, 2) := by decide +kernel
theorem dX8_opens_16 : decode cX8_opens 16 = .ok (.iaload, 1) := by decide +kernel
theorem dX8_opens_17 : decode cX8_opens 17 = .ok (.if_icmp .ge 58, 3) := by decide +kernel
theorem dX8_opens_20 : decode cX8_opens 20 = .ok (.aload_n 0, 1) := by decide +kernel
theorem dX8_opens_21 : decode cX8_opens 21 = .ok (.iload_n 1, 1) := by decide +kernel
theorem dX8_opens_22 : decode cX8_opens 22 = .ok (.iconst 3, 1) := by decide +kernel
theorem dX8_opens_23 : decode cX8_opens 23 = .ok (.invokevirtual 238, 3) := by decide +kernel
theorem dX8_opens_26 : decode cX8_opens 26 = .ok (.iload_n 3, 1) := by decide +kernel
theorem dX8_opens_27 : decode cX8_opens 27 = .ok (.ishr, 1) := by decide +kernel
theorem dX8_opens_28 : decode cX8_opens 28 = .ok (.iconst 1, 1) := by decide +kernel
theorem dX8_opens_29 : decode cX8_opens 29 = .ok (.iand, 1) := by decide +kernel
theorem dX8_opens_30 : decode cX8_opens 30 = .ok (.ifCond .eq 39, 3) := by decide +kernel
theorem dX8_opens_33 : decode cX8_opens 33 = .ok (.aload_n 0, 1) := by decide +kernel
theorem dX8_opens_34 : decode cX8_opens 34 = .ok (.iload_n 3, 1) := by decide +kernel
theorem dX8_opens_35 : decode cX8_opens 35 = .ok (.iconst 3, 1) := by decide +kernel
theorem dX8_opens_36 : decode cX8_opens 36 = .ok (.invokevirtual 228, 3) := by decide +kernel
theorem dX8_opens_39 : decode cX8_opens 39 = .ok (.iload_n 2, 1) := by decide +kernel
theorem dX8_opens_40 : decode cX8_opens 40 = .ok (.if_icmp .eq 6, 3) := by decide +kernel
theorem dX8_opens_43 : decode cX8_opens 43 = .ok (.goto 26, 3) := by decide +kernel
theorem dX8_opens_46 : decode cX8_opens 46 = .ok (.aload_n 0, 1) := by decide +kernel
theorem dX8_opens_47 : decode cX8_opens 47 = .ok (.iload_n 1, 1) := by decide +kernel
theorem dX8_opens_48 : decode cX8_opens 48 = .ok (.iconst 3, 1) := by decide +kernel
theorem dX8_opens_49 : decode cX8_opens 49 = .ok (.aload_n 0, 1) := by decide +kernel
theorem dX8_opens_50 : decode cX8_opens 50 = .ok (.iload_n 1, 1) := by decide +kernel
theorem dX8_opens_51 : decode cX8_opens 51 = .ok (.iconst 3, 1) := by decide +kernel
theorem dX8_opens_52 : decode cX8_opens 52 = .ok (.invokevirtual 238, 3) := by decide +kernel
theorem dX8_opens_55 : decode cX8_opens 55 = .ok (.iconst 1, 1) := by decide +kernel
theorem dX8_opens_56 : decode cX8_opens 56 = .ok (.iload_n 3, 1) := by decide +kernel
theorem dX8_opens_57 : decode cX8_opens 57 = .ok (.ishl, 1) := by decide +kernel
theorem dX8_opens_58 : decode cX8_opens 58 = .ok (.iconst (-1), 1) := by decide +kernel
theorem dX8_opens_59 : decode cX8_opens 59 = .ok (.ixor, 1) := by decide +kernel
theorem dX8_opens_60 : decode cX8_opens 60 = .ok (.iand, 1) := by decide +kernel
theorem dX8_opens_61 : decode cX8_opens 61 = .ok (.invokevirtual 221, 3) := by decide +kernel
theorem dX8_opens_64 : decode cX8_opens 64 = .ok (.aload_n 0, 1) := by decide +kernel
theorem dX8_opens_65 : decode cX8_opens 65 = .ok (.iload_n 3, 1) := by decide +kernel
theorem dX8_opens_66 : decode cX8_opens 66 = .ok (.invokevirtual 277, 3) := by decide +kernel
theorem dX8_opens_69 : decode cX8_opens 69 = .ok (.iinc 3 1, 3) := by decide +kernel
theorem dX8_opens_72 : decode cX8_opens 72 = .ok (.goto (-63), 3) := by decide +kernel
theorem dX8_opens_75 : decode cX8_opens 75 = .ok (.aload_n 0, 1) := by decide +kernel
theorem dX8_opens_76 : decode cX8_opens 76 = .ok (.iload_n 1, 1) := by decide +kernel
theorem dX8_opens_77 : decode cX8_opens 77 = .ok (.iconst 1, 1) := by decide +kernel
theorem dX8_opens_78 : decode cX8_opens 78 = .ok (.invokevirtual 238, 3) := by decide +kernel
theorem dX8_opens_81 : decode cX8_opens 81 = .ok (.istore_n 3, 1) := by decide +kernel
theorem dX8_opens_82 : decode cX8_opens 82 = .ok (.iload_n 3, 1) := by decide +kernel
theorem dX8_opens_83 : decode cX8_opens 83 = .ok (.ifCond .eq 26, 3) := by decide +kernel
theorem dX8_opens_86 : decode cX8_opens 86 = .ok (.aload_n 0, 1) := by decide +kernel
theorem dX8_opens_87 : decode cX8_opens 87 = .ok (.iload_n 1, 1) := by decide +kernel
theorem dX8_opens_88 : decode cX8_opens 88 = .ok (.iload_n 3, 1) := by decide +kernel
theorem dX8_opens_89 : decode cX8_opens 89 = .ok (.invokevirtual 273, 3) := by decide +kernel
theorem dX8_opens_92 : decode cX8_opens 92 = .ok (.ifCond .ne 13, 3) := by decide +kernel
theorem dX8_opens_95 : decode cX8_opens 95 = .ok (.aload_n 0, 1) := by decide +kernel
theorem dX8_opens_96 : decode cX8_opens 96 = .ok (.iload_n 1, 1) := by decide +kernel
theorem dX8_opens_97 : decode cX8_opens 97 = .ok (.iload_n 2, 1) := by decide +kernel
theorem dX8_opens_98 : decode cX8_opens 98 = .ok (.iload_n 3, 1) := by decide +kernel
theorem dX8_opens_99 : decode cX8_opens 99 = .ok (.invokevirtual 249, 3) := by decide +kernel
theorem dX8_opens_102 : decode cX8_opens 102 = .ok (.ifCond .eq 7, 3) := by decide +kernel
theorem dX8_opens_105 : decode cX8_opens 105 = .ok (.iconst 1, 1) := by decide +kernel
theorem dX8_opens_106 : decode cX8_opens 106 = .ok (.goto 4, 3) := by decide +kernel
theorem dX8_opens_109 : decode cX8_opens 109 = .ok (.iconst 0, 1) := by decide +kernel
theorem dX8_opens_110 : decode cX8_opens 110 = .ok (.istore 4, 2) := by decide +kernel
theorem dX8_opens_112 : decode cX8_opens 112 = .ok (.iload 4, 2) := by decide +kernel
theorem dX8_opens_114 : decode cX8_opens 114 = .ok (.ifCond .ne 38, 3) := by decide +kernel
theorem dX8_opens_117 : decode cX8_opens 117 = .ok (.aload_n 0, 1) := by decide +kernel
theorem dX8_opens_118 : decode cX8_opens 118 = .ok (.iload_n 1, 1) := by decide +kernel
theorem dX8_opens_119 : decode cX8_opens 119 = .ok (.iload_n 2, 1) := by decide +kernel
theorem dX8_opens_120 : decode cX8_opens 120 = .ok (.iconst 1, 1) := by decide +kernel
theorem dX8_opens_121 : decode cX8_opens 121 = .ok (.invokevirtual 249, 3) := by decide +kernel
theorem dX8_opens_124 : decode cX8_opens 124 = .ok (.ifCond .eq 7, 3) := by decide +kernel
theorem dX8_opens_127 : decode cX8_opens 127 = .ok (.iconst 1, 1) := by decide +kernel
theorem dX8_opens_128 : decode cX8_opens 128 = .ok (.goto 23, 3) := by decide +kernel
theorem dX8_opens_131 : decode cX8_opens 131 = .ok (.aload_n 0, 1) := by decide +kernel
theorem dX8_opens_132 : decode cX8_opens 132 = .ok (.iload_n 1, 1) := by decide +kernel
theorem dX8_opens_133 : decode cX8_opens 133 = .ok (.iload_n 2, 1) := by decide +kernel
theorem dX8_opens_134 : decode cX8_opens 134 = .ok (.iconst (-1), 1) := by decide +kernel
theorem dX8_opens_135 : decode cX8_opens 135 = .ok (.invokevirtual 249, 3) := by decide +kernel
theorem dX8_opens_138 : decode cX8_opens 138 = .ok (.ifCond .eq 7, 3) := by decide +kernel
theorem dX8_opens_141 : decode cX8_opens 141 = .ok (.iconst (-1), 1) := by decide +kernel
theorem dX8_opens_142 : decode cX8_opens 142 = .ok (.goto 9, 3) := by decide +kernel
theorem dX8_opens_145 : decode cX8_opens 145 = .ok (.aload_n 0, 1) := by decide +kernel
theorem dX8_opens_146 : decode cX8_opens 146 = .ok (.iload_n 1, 1) := by decide +kernel
theorem dX8_opens_147 : decode cX8_opens 147 = .ok (.iload_n 3, 1) := by decide +kernel
theorem dX8_opens_148 : decode cX8_opens 148 = .ok (.invokevirtual 280, 3) := by decide +kernel
theorem dX8_opens_151 : decode cX8_opens 151 = .ok (.istore_n 3, 1) := by decide +kernel
theorem dX8_opens_152 : decode cX8_opens 152 = .ok (.aload_n 0, 1) := by decide +kernel
theorem dX8_opens_153 : decode cX8_opens 153 = .ok (.iload_n 1, 1) := by decide +kernel
theorem dX8_opens_154 : decode cX8_opens 154 = .ok (.iconst 1, 1) := by decide +kernel
theorem dX8_opens_155 : decode cX8_opens 155 = .ok (.iload_n 3, 1) := by decide +kernel
theorem dX8_opens_156 : decode cX8_opens 156 = .ok (.invokevirtual 221, 3) := by decide +kernel
theorem dX8_opens_159 : decode cX8_opens 159 = .ok (.iconst 0, 1) := by decide +kernel
theorem dX8_opens_160 : decode cX8_opens 160 = .ok (.istore 5, 2) := by decide +kernel
theorem dX8_opens_162 : decode cX8_opens 162 = .ok (.iload 5, 2) := by decide +kernel
theorem dX8_opens_164 : decode cX8_opens 164 = .ok (.aload_n 0, 1) := by decide +kernel
theorem dX8_opens_165 : decode cX8_opens 165 = .ok (.getfield 29, 3) := by decide +kernel
theorem dX8_opens_168 : decode cX8_opens 168 = .ok (.bipush 6, 2) := by decide +kernel
theorem dX8_opens_170 : decode cX8_opens 170 = .ok (.iaload, 1) := by decide +kernel
theorem dX8_opens_171 : decode cX8_opens 171 = .ok (.if_icmp .ge 126, 3) := by decide +kernel
theorem dX8_opens_174 : decode cX8_opens 174 = .ok (.aload_n 0, 1) := by decide +kernel
theorem dX8_opens_175 : decode cX8_opens 175 = .ok (.iload_n 1, 1) := by decide +kernel
theorem dX8_opens_176 : decode cX8_opens 176 = .ok (.invokevirtual 246, 3) := by decide +kernel
theorem dX8_opens_179 : decode cX8_opens 179 = .ok (.ifCond .ne 118, 3) := by decide +kernel
theorem dX8_opens_182 : decode cX8_opens 182 = .ok (.aload_n 0, 1) := by decide +kernel
theorem dX8_opens_183 : decode cX8_opens 183 = .ok (.iload 5, 2) := by decide +kernel
theorem dX8_opens_185 : decode cX8_opens 185 = .ok (.iconst 4, 1) := by decide +kernel
theorem dX8_opens_186 : decode cX8_opens 186 = .ok (.invokevirtual 228, 3) := by decide +kernel
theorem dX8_opens_189 : decode cX8_opens 189 = .ok (.iconst 1, 1) := by decide +kernel
theorem dX8_opens_190 : decode cX8_opens 190 = .ok (.if_icmp .ne 101, 3) := by decide +kernel
theorem dX8_opens_193 : decode cX8_opens 193 = .ok (.aload_n 0, 1) := by decide +kernel
theorem dX8_opens_194 : decode cX8_opens 194 = .ok (.iload 5, 2) := by decide +kernel
theorem dX8_opens_196 : decode cX8_opens 196 = .ok (.iconst 5, 1) := by decide +kernel
theorem dX8_opens_197 : decode cX8_opens 197 = .ok (.invokevirtual 228, 3) := by decide +kernel
theorem dX8_opens_200 : decode cX8_opens 200 = .ok (.iload_n 2, 1) := by decide +kernel
theorem dX8_opens_201 : decode cX8_opens 201 = .ok (.if_icmp .ne 90, 3) := by decide +kernel
theorem dX8_opens_204 : decode cX8_opens 204 = .ok (.aload_n 0, 1) := by decide +kernel
theorem dX8_opens_205 : decode cX8_opens 205 = .ok (.iload 5, 2) := by decide +kernel
theorem dX8_opens_207 : decode cX8_opens 207 = .ok (.invokevirtual 231, 3) := by decide +kernel
theorem dX8_opens_210 : decode cX8_opens 210 = .ok (.iload_n 3, 1) := by decide +kernel
theorem dX8_opens_211 : decode cX8_opens 211 = .ok (.if_icmp .ne 80, 3) := by decide +kernel
theorem dX8_opens_214 : decode cX8_opens 214 = .ok (.aload_n 0, 1) := by decide +kernel
theorem dX8_opens_215 : decode cX8_opens 215 = .ok (.iload_n 1, 1) := by decide +kernel
theorem dX8_opens_216 : decode cX8_opens 216 = .ok (.aload_n 0, 1) := by decide +kernel
theorem dX8_opens_217 : decode cX8_opens 217 = .ok (.iload 5, 2) := by decide +kernel
theorem dX8_opens_219 : decode cX8_opens 219 = .ok (.iconst 0, 1) := by decide +kernel
theorem dX8_opens_220 : decode cX8_opens 220 = .ok (.invokevirtual 228, 3) := by decide +kernel
theorem dX8_opens_223 : decode cX8_opens 223 = .ok (.invokevirtual 283, 3) := by decide +kernel
theorem dX8_opens_226 : decode cX8_opens 226 = .ok (.ifCond .ne 6, 3) := by decide +kernel
theorem dX8_opens_229 : decode cX8_opens 229 = .ok (.goto 62, 3) := by decide +kernel
theorem dX8_opens_232 : decode cX8_opens 232 = .ok (.aload_n 0, 1) := by decide +kernel
theorem dX8_opens_233 : decode cX8_opens 233 = .ok (.iload_n 1, 1) := by decide +kernel
theorem dX8_opens_234 : decode cX8_opens 234 = .ok (.iconst 3, 1) := by decide +kernel
theorem dX8_opens_235 : decode cX8_opens 235 = .ok (.aload_n 0, 1) := by decide +kernel
theorem dX8_opens_236 : decode cX8_opens 236 = .ok (.iload_n 1, 1) := by decide +kernel
theorem dX8_opens_237 : decode cX8_opens 237 = .ok (.iconst 3, 1) := by decide +kernel
theorem dX8_opens_238 : decode cX8_opens 238 = .ok (.invokevirtual 238, 3) := by decide +kernel
theorem dX8_opens_241 : decode cX8_opens 241 = .ok (.iconst 1, 1) := by decide +kernel
theorem dX8_opens_242 : decode cX8_opens 242 = .ok (.iload 5, 2) := by decide +kernel
theorem dX8_opens_244 : decode cX8_opens 244 = .ok (.ishl, 1) := by decide +kernel
theorem dX8_opens_245 : decode cX8_opens 245 = .ok (.ior, 1) := by decide +kernel
theorem dX8_opens_246 : decode cX8_opens 246 = .ok (.invokevirtual 221, 3) := by decide +kernel
theorem dX8_opens_249 : decode cX8_opens 249 = .ok (.aload_n 0, 1) := by decide +kernel
theorem dX8_opens_250 : decode cX8_opens 250 = .ok (.iload 5, 2) := by decide +kernel
theorem dX8_opens_252 : decode cX8_opens 252 = .ok (.iconst 4, 1) := by decide +kernel
theorem dX8_opens_253 : decode cX8_opens 253 = .ok (.iconst 2, 1) := by decide +kernel
theorem dX8_opens_254 : decode cX8_opens 254 = .ok (.invokevirtual 225, 3) := by decide +kernel
theorem dX8_opens_257 : decode cX8_opens 257 = .ok (.aload_n 0, 1) := by decide +kernel
theorem dX8_opens_258 : decode cX8_opens 258 = .ok (.iload 5, 2) := by decide +kernel
theorem dX8_opens_260 : decode cX8_opens 260 = .ok (.iconst 5, 1) := by decide +kernel
theorem dX8_opens_261 : decode cX8_opens 261 = .ok (.iload_n 1, 1) := by decide +kernel
theorem dX8_opens_262 : decode cX8_opens 262 = .ok (.invokevirtual 225, 3) := by decide +kernel
theorem dX8_opens_265 : decode cX8_opens 265 = .ok (.aload_n 0, 1) := by decide +kernel
theorem dX8_opens_266 : decode cX8_opens 266 = .ok (.iload 5, 2) := by decide +kernel
theorem dX8_opens_268 : decode cX8_opens 268 = .ok (.bipush 8, 2) := by decide +kernel
theorem dX8_opens_270 : decode cX8_opens 270 = .ok (.invokevirtual 228, 3) := by decide +kernel
theorem dX8_opens_273 : decode cX8_opens 273 = .ok (.iconst (-1), 1) := by decide +kernel
theorem dX8_opens_274 : decode cX8_opens 274 = .ok (.if_icmp .ne 17, 3) := by decide +kernel
theorem dX8_opens_277 : decode cX8_opens 277 = .ok (.aload_n 0, 1) := by decide +kernel
theorem dX8_opens_278 : decode cX8_opens 278 = .ok (.iload 5, 2) := by decide +kernel
theorem dX8_opens_280 : decode cX8_opens 280 = .ok (.bipush 8, 2) := by decide +kernel
theorem dX8_opens_282 : decode cX8_opens 282 = .ok (.aload_n 0, 1) := by decide +kernel
theorem dX8_opens_283 : decode cX8_opens 283 = .ok (.getfield 29, 3) := by decide +kernel
theorem dX8_opens_286 : decode cX8_opens 286 = .ok (.iconst 0, 1) := by decide +kernel
theorem dX8_opens_287 : decode cX8_opens 287 = .ok (.iaload, 1) := by decide +kernel
theorem dX8_opens_288 : decode cX8_opens 288 = .ok (.invokevirtual 225, 3) := by decide +kernel
theorem dX8_opens_291 : decode cX8_opens 291 = .ok (.iinc 5 1, 3) := by decide +kernel
theorem dX8_opens_294 : decode cX8_opens 294 = .ok (.goto (-132), 3) := by decide +kernel
theorem dX8_opens_297 : decode cX8_opens 297 = .ok (.iconst 1, 1) := by decide +kernel
theorem dX8_opens_298 : decode cX8_opens 298 = .ok (.istore 5, 2) := by decide +kernel
theorem dX8_opens_300 : decode cX8_opens 300 = .ok (.iload 5, 2) := by decide +kernel
theorem dX8_opens_302 : decode cX8_opens 302 = .ok (.iconst 3, 1) := by decide +kernel
theorem dX8_opens_303 : decode cX8_opens 303 = .ok (.if_icmp .ge 36, 3) := by decide +kernel
theorem dX8_opens_306 : decode cX8_opens 306 = .ok (.iload_n 3, 1) := by decide +kernel
theorem dX8_opens_307 : decode cX8_opens 307 = .ok (.ifCond .eq 32, 3) := by decide +kernel
theorem dX8_opens_310 : decode cX8_opens 310 = .ok (.aload_n 0, 1) := by decide +kernel
theorem dX8_opens_311 : decode cX8_opens 311 = .ok (.iload_n 1, 1) := by decide +kernel
theorem dX8_opens_312 : decode cX8_opens 312 = .ok (.iload 5, 2) := by decide +kernel
theorem dX8_opens_314 : decode cX8_opens 314 = .ok (.invokevirtual 283, 3) := by decide +kernel
theorem dX8_opens_317 : decode cX8_opens 317 = .ok (.ifCond .eq 16, 3) := by decide +kernel
theorem dX8_opens_320 : decode cX8_opens 320 = .ok (.aload_n 0, 1) := by decide +kernel
theorem dX8_opens_321 : decode cX8_opens 321 = .ok (.getfield 29, 3) := by decide +kernel
theorem dX8_opens_324 : decode cX8_opens 324 = .ok (.iload_n 2, 1) := by decide +kernel
theorem dX8_opens_325 : decode cX8_opens 325 = .ok (.iload_n 3, 1) := by decide +kernel
theorem dX8_opens_326 : decode cX8_opens 326 = .ok (.iload 5, 2) := by decide +kernel
theorem dX8_opens_328 : decode cX8_opens 328 = .ok (.invokestatic 234, 3) := by decide +kernel
theorem dX8_opens_331 : decode cX8_opens 331 = .ok (.iconst 0, 1) := by decide +kernel
theorem dX8_opens_332 : decode cX8_opens 332 = .ok (.iastore, 1) := by decide +kernel
theorem dX8_opens_333 : decode cX8_opens 333 = .ok (.iinc 5 1, 3) := by decide +kernel
theorem dX8_opens_336 : decode cX8_opens 336 = .ok (.goto (-36), 3) := by decide +kernel
theorem dX8_opens_339 : decode cX8_opens 339 = .ok (.aload_n 0, 1) := by decide +kernel
theorem dX8_opens_340 : decode cX8_opens 340 = .ok (.iload_n 1, 1) := by decide +kernel
theorem dX8_opens_341 : decode cX8_opens 341 = .ok (.iconst 2, 1) := by decide +kernel
theorem dX8_opens_342 : decode cX8_opens 342 = .ok (.aload_n 0, 1) := by decide +kernel
theorem dX8_opens_343 : decode cX8_opens 343 = .ok (.iconst 3, 1) := by decide +kernel
theorem dX8_opens_344 : decode cX8_opens 344 = .ok (.invokevirtual 218, 3) := by decide +kernel
theorem dX8_opens_347 : decode cX8_opens 347 = .ok (.invokevirtual 221, 3) := by decide +kernel
theorem dX8_opens_350 : decode cX8_opens 350 = .ok (.aload_n 0, 1) := by decide +kernel
theorem dX8_opens_351 : decode cX8_opens 351 = .ok (.iload_n 1, 1) := by decide +kernel
theorem dX8_opens_352 : decode cX8_opens 352 = .ok (.ldc_w 286, 3) := by decide +kernel
theorem dX8_opens_355 : decode cX8_opens 355 = .ok (.invokevirtual 269, 3) := by decide +kernel
theorem dX8_opens_358 : decode cX8_opens 358 = .ok (.return_, 1) := by decide +kernel
set_option maxRecDepth 20000 in
set_option maxHeartbeats 4000000 in
theorem vX8_opens_0 {l : Launch} {x : CX} {a0 : Nat} {x1 : Int32} {h : PH} {rc rs n0 : Nat} {Q : Option Value → PH → Prop} {X : String → PH → Prop}
    (K : ((hK h a0).1 = 8) ∧ ∃ (q1 : Int32 → PH → Prop), CI l x mX8_carOf 0 0 0 [.ref a0, .int x1, .int 0] h q1 ∧ ∀ (r5 : Int32) (h4 : PH), q1 r5 h4 → Gm l x mX8_opens 5 9 [(0, .ref a0), (1, .int x1), (2, .int r5), (3, .int 0)] [] h4 rc rs n0 Q X) :
    Gm l x mX8_opens 5 0 [(0, .ref a0), (1, .int x1)] [] h rc rs n0 Q X := by
  refine g_aload_n dX8_opens_0 rfl 0 rfl ?_
  refine g_iload_n dX8_opens_1 rfl 1 rfl ?_
  refine g_iconst (v := 0) dX8_opens_2 (by decide) ?_
  obtain ⟨e3, K⟩ := K
  obtain ⟨q1, C2, K⟩ := K
  refine g_callV (M' := mX8_carOf) (b := a0) (As := [.int x1, .int 0]) (rest := []) (rc' := rc) (rs' := rs) dX8_opens_3 bw_1476 bw_1478 bs_67 bw_9 bw_1479 ⟨by decide +kernel, by decide +kernel, show (parseMethodDescriptor mX8_carOf.1.desc).map (fun d => d.parameters.length) = some 2 by decide +kernel⟩ (by decide) (by decide) (Nat.le_of_ble_eq_true rfl) fc_8 (by decide) rfl e3 C2 (Nat.le_of_eq (Nat.add_zero _)) (Nat.le_of_eq (Nat.add_zero _)) (fun _ _ h => h) ?_
  rintro _ h4 ⟨r5, rfl, K1⟩ -
  replace K := K r5 h4 K1
  show Gm l x mX8_opens 5 6 [(0, .ref a0), (1, .int x1)] [.int r5] h4 rc rs n0 Q X
  refine g_istore_n (lv' := [(0, .ref a0), (1, .int x1), (2, .int r5)]) dX8_opens_6 rfl (by decide) rfl ?_
  refine g_iconst (v := 0) dX8_opens_7 (by decide) ?_
  refine g_istore_n (lv' := [(0, .ref a0), (1, .int x1), (2, .int r5), (3, .int 0)]) dX8_opens_8 rfl (by decide) rfl ?_
  exact K
set_option maxRecDepth 20000 in
set_option maxHeartbeats 4000000 in
theorem vX8_opens_9 {l : Launch} {x : CX} {a0 : Nat} {x1 : Int32} {x2 : Int32} {x3 : Int32} {h : PH} {rc rs n0 : Nat} {Q : Option Value → PH → Prop} {X : String → PH → Prop}
    (K : ((hK h a0).1 = 8) ∧ ∃ b2, (hR h a0 2 = some b2) ∧ ((hK h b2).1 = 100) ∧ (vp_in 6 (hK h b2).2) ∧ (((hI h b2 (Int32.toNatClampNeg 6)) ≤ x3 → Gm l x mX8_opens 5 75 [(0, .ref a0), (1, .int x1), (2, .int x2), (3, .int x3)] [] h rc rs n0 Q X) ∧ (¬ (hI h b2 (Int32.toNatClampNeg 6)) ≤ x3 → ∃ (q7 : Int32 → PH → Prop), CI l x mX8_carOf 0 0 0 [.ref a0, .int x1, .int 3] h q7 ∧ ∀ (r10 : Int32) (h9 : PH), q7 r10 h9 → ((((r10 >>> ((x3 : Int32) &&& 31)) &&& 1) = 0 → Gm l x mX8_opens 5 9 [(0, .ref a0), (1, .int x1), (2, .int x2), (3, .int (x3 + 1))] [] h9 rc rs n0 Q X) ∧ (¬ ((r10 >>> ((x3 : Int32) &&& 31)) &&& 1) = 0 → ((hK h9 a0).1 = 8) ∧ ∃ (q12 : Int32 → PH → Prop), CI l x mX8_of 0 0 0 [.ref a0, .int x3, .int 3] h9 q12 ∧ ∀ (r16 : Int32) (h15 : PH), q12 r16 h15 → ((r16 = x2 → ((hK h15 a0).1 = 8) ∧ ∃ (q18 : Int32 → PH → Prop), CI l x mX8_carOf 0 0 0 [.ref a0, .int x1, .int 3] h15 q18 ∧ ∀ (r22 : Int32) (h21 : PH), q18 r22 h21 → ((hK h21 a0).1 = 8) ∧ ∃ (q23 : PH → Prop), CV l x mX8_putCar 0 0 0 [.ref a0, .int x1, .int 3, .int (r22 &&& ((1 <<< ((x3 : Int32) &&& 31)) ^^^ (-1)))] h21 q23 ∧ ∀ (h26 : PH), q23 h26 → ((hK h26 a0).1 = 8) ∧ ∃ (q27 : PH → Prop), CV l x mX8_arrives 1 0 0 [.ref a0, .int x3] h26 q27 ∧ ∀ (h30 : PH), q27 h30 → Gm l x mX8_opens 5 9 [(0, .ref a0), (1, .int x1), (2, .int x2), (3, .int (x3 + 1))] [] h30 rc rs n0 Q X) ∧ (¬ r16 = x2 → Gm l x mX8_opens 5 9 [(0, .ref a0), (1, .int x1), (2, .int x2), (3, .int (x3 + 1))] [] h15 rc rs n0 Q X))))))) :
    Gm l x mX8_opens 5 9 [(0, .ref a0), (1, .int x1), (2, .int x2), (3, .int x3)] [] h rc rs n0 Q X := by
  refine g_iload_n dX8_opens_9 rfl 3 rfl ?_
  refine g_aload_n dX8_opens_10 rfl 0 rfl ?_
  obtain ⟨e1, b2, e3, K⟩ := K
  refine g_get (c := 8) (k := 2) (v := .ref b2) dX8_opens_11 fc_8 (by decide) (by decide) bw_1200 (congrArg pr e3) e1 ?_
  refine g_bipush (v := 6) dX8_opens_14 (by decide) ?_
  obtain ⟨e4, e5, K⟩ := K
  refine g_iald dX8_opens_16 e4 e5 ?_
  refine g_icmp_ge (tgt := 75) dX8_opens_17 (by decide) (fun c6 => ?_) (fun c6 => ?_)
  · replace K := K.1 c6
    exact K
  · replace K := K.2 c6
    refine g_aload_n dX8_opens_20 rfl 0 rfl ?_
    refine g_iload_n dX8_opens_21 rfl 1 rfl ?_
    refine g_iconst (v := 3) dX8_opens_22 (by decide) ?_
    obtain ⟨q7, C8, K⟩ := K
    refine g_callV (M' := mX8_carOf) (b := a0) (As := [.int x1, .int 3]) (rest := []) (rc' := rc) (rs' := rs) dX8_opens_23 bw_1476 bw_1478 bs_67 bw_9 bw_1479 ⟨by decide +kernel, by decide +kernel, show (parseMethodDescriptor mX8_carOf.1.desc).map (fun d => d.parameters.length) = some 2 by decide +kernel⟩ (by decide) (by decide) (Nat.le_of_ble_eq_true rfl) fc_8 (by decide) rfl e1 C8 (Nat.le_of_eq (Nat.add_zero _)) (Nat.le_of_eq (Nat.add_zero _)) (fun _ _ h => h) ?_
    rintro _ h9 ⟨r10, rfl, K1⟩ -
    replace K := K r10 h9 K1
    show Gm l x mX8_opens 5 26 [(0, .ref a0), (1, .int x1), (2, .int x2), (3, .int x3)] [.int r10] h9 rc rs n0 Q X
    refine g_iload_n dX8_opens_26 rfl 3 rfl ?_
    refine g_ishr dX8_opens_27 ?_
    refine g_iconst (v := 1) dX8_opens_28 (by decide) ?_
    refine g_iand dX8_opens_29 ?_
    refine g_if_eq (tgt := 69) dX8_opens_30 (by decide) (fun c11 => ?_) (fun c11 => ?_)
    · replace K := K.1 c11
      refine g_iinc (v := (x3 + 1)) (lv' := [(0, .ref a0), (1, .int x1), (2, .int x2), (3, .int (x3 + 1))]) dX8_opens_69 3 rfl (by rfl) (by decide) rfl ?_
      refine g_goto (tgt := 9) dX8_opens_72 (by decide) ?_
      exact K
    · replace K := K.2 c11
      refine g_aload_n dX8_opens_33 rfl 0 rfl ?_
      refine g_iload_n dX8_opens_34 rfl 3 rfl ?_
      refine g_iconst (v := 3) dX8_opens_35 (by decide) ?_
      obtain ⟨e14, K⟩ := K
      obtain ⟨q12, C13, K⟩ := K
      refine g_callV (M' := mX8_of) (b := a0) (As := [.int x3, .int 3]) (rest := []) (rc' := rc) (rs' := rs) dX8_opens_36 bw_1413 bw_1415 bs_52 bw_9 bw_1416 ⟨by decide +kernel, by decide +kernel, show (parseMethodDescriptor mX8_of.1.desc).map (fun d => d.parameters.length) = some 2 by decide +kernel⟩ (by decide) (by decide) (Nat.le_of_ble_eq_true rfl) fc_8 (by decide) rfl e14 C13 (Nat.le_of_eq (Nat.add_zero _)) (Nat.le_of_eq (Nat.add_zero _)) (fun _ _ h => h) ?_
      rintro _ h15 ⟨r16, rfl, K1⟩ -
      replace K := K r16 h15 K1
      show Gm l x mX8_opens 5 39 [(0, .ref a0), (1, .int x1), (2, .int x2), (3, .int x3)] [.int r16] h15 rc rs n0 Q X
      refine g_iload_n dX8_opens_39 rfl 2 rfl ?_
      refine g_icmp_eq (tgt := 46) dX8_opens_40 (by decide) (fun c17 => ?_) (fun c17 => ?_)
      · replace K := K.1 c17
        refine g_aload_n dX8_opens_46 rfl 0 rfl ?_
        refine g_iload_n dX8_opens_47 rfl 1 rfl ?_
        refine g_iconst (v := 3) dX8_opens_48 (by decide) ?_
        refine g_aload_n dX8_opens_49 rfl 0 rfl ?_
        refine g_iload_n dX8_opens_50 rfl 1 rfl ?_
        refine g_iconst (v := 3) dX8_opens_51 (by decide) ?_
        obtain ⟨e20, K⟩ := K
        obtain ⟨q18, C19, K⟩ := K
        refine g_callV (M' := mX8_carOf) (b := a0) (As := [.int x1, .int 3]) (rest := [.int 3, .int x1, .ref a0]) (rc' := rc) (rs' := rs) dX8_opens_52 bw_1476 bw_1478 bs_67 bw_9 bw_1479 ⟨by decide +kernel, by decide +kernel, show (parseMethodDescriptor mX8_carOf.1.desc).map (fun d => d.parameters.length) = some 2 by decide +kernel⟩ (by decide) (by decide) (Nat.le_of_ble_eq_true rfl) fc_8 (by decide) rfl e20 C19 (Nat.le_of_eq (Nat.add_zero _)) (Nat.le_of_eq (Nat.add_zero _)) (fun _ _ h => h) ?_
        rintro _ h21 ⟨r22, rfl, K1⟩ -
        replace K := K r22 h21 K1
        show Gm l x mX8_opens 5 55 [(0, .ref a0), (1, .int x1), (2, .int x2), (3, .int x3)] [.int r22, .int 3, .int x1, .ref a0] h21 rc rs n0 Q X
        refine g_iconst (v := 1) dX8_opens_55 (by decide) ?_
        refine g_iload_n dX8_opens_56 rfl 3 rfl ?_
        refine g_ishl dX8_opens_57 ?_
        refine g_iconst (v := (-1)) dX8_opens_58 (by decide) ?_
        refine g_ixor dX8_opens_59 ?_
        refine g_iand dX8_opens_60 ?_
        obtain ⟨e25, K⟩ := K
        obtain ⟨q23, C24, K⟩ := K
        refine g_callV (M' := mX8_putCar) (b := a0) (As := [.int x1, .int 3, .int (r22 &&& ((1 <<< ((x3 : Int32) &&& 31)) ^^^ (-1)))]) (rest := []) (rc' := rc) (rs' := rs) dX8_opens_61 bw_1190 bw_1192 bs_37 bw_9 bw_1193 ⟨by decide +kernel, by decide +kernel, show (parseMethodDescriptor mX8_putCar.1.desc).map (fun d => d.parameters.length) = some 3 by decide +kernel⟩ (by decide) (by decide) (Nat.le_of_ble_eq_true rfl) fc_8 (by decide) rfl e25 C24 (Nat.le_of_eq (Nat.add_zero _)) (Nat.le_of_eq (Nat.add_zero _)) (fun _ _ h => h) ?_
        rintro _ h26 ⟨rfl, K1⟩ -
        replace K := K h26 K1
        show Gm l x mX8_opens 5 64 [(0, .ref a0), (1, .int x1), (2, .int x2), (3, .int x3)] [] h26 rc rs n0 Q X
        refine g_aload_n dX8_opens_64 rfl 0 rfl ?_
        refine g_iload_n dX8_opens_65 rfl 3 rfl ?_
        obtain ⟨e29, K⟩ := K
        obtain ⟨q27, C28, K⟩ := K
        refine g_callV (M' := mX8_arrives) (b := a0) (As := [.int x3]) (rest := []) (rc' := rc) (rs' := rs) dX8_opens_66 bw_1522 bw_1524 bs_78 bw_9 bw_1525 ⟨by decide +kernel, by decide +kernel, show (parseMethodDescriptor mX8_arrives.1.desc).map (fun d => d.parameters.length) = some 1 by decide +kernel⟩ (by decide) (by decide) (Nat.le_of_ble_eq_true rfl) fc_8 (by decide) rfl e29 C28 (Nat.le_of_eq (Nat.add_zero _)) (Nat.le_of_eq (Nat.add_zero _)) (fun _ _ h => h) ?_
        rintro _ h30 ⟨rfl, K1⟩ -
        replace K := K h30 K1
        show Gm l x mX8_opens 5 69 [(0, .ref a0), (1, .int x1), (2, .int x2), (3, .int x3)] [] h30 rc rs n0 Q X
        refine g_iinc (v := (x3 + 1)) (lv' := [(0, .ref a0), (1, .int x1), (2, .int x2), (3, .int (x3 + 1))]) dX8_opens_69 3 rfl (by rfl) (by decide) rfl ?_
        refine g_goto (tgt := 9) dX8_opens_72 (by decide) ?_
        exact K
      · replace K := K.2 c17
        refine g_goto (tgt := 69) dX8_opens_43 (by decide) ?_
        refine g_iinc (v := (x3 + 1)) (lv' := [(0, .ref a0), (1, .int x1), (2, .int x2), (3, .int (x3 + 1))]) dX8_opens_69 3 rfl (by rfl) (by decide) rfl ?_
        refine g_goto (tgt := 9) dX8_opens_72 (by decide) ?_
        exact K
set_option maxRecDepth 20000 in
set_option maxHeartbeats 4000000 in
theorem vX8_opens_75 {l : Launch} {x : CX} {a0 : Nat} {x1 : Int32} {x2 : Int32} {x3 : Int32} {h : PH} {rc rs n0 : Nat} {Q : Option Value → PH → Prop} {X : String → PH → Prop}
    (K : ((hK h a0).1 = 8) ∧ ∃ (q1 : Int32 → PH → Prop), CI l x mX8_carOf 0 0 0 [.ref a0, .int x1, .int 1] h q1 ∧ ∀ (r5 : Int32) (h4 : PH), q1 r5 h4 → ((r5 = 0 → ((hK h4 a0).1 = 8) ∧ ∃ (q8 : Int32 → PH → Prop), CI l x mX8_hasCall 1 0 0 [.ref a0, .int x1, .int x2, .int 1] h4 q8 ∧ ∀ (r12 : Int32) (h11 : PH), q8 r12 h11 → ((r12 = 0 → ((hK h11 a0).1 = 8) ∧ ∃ (q14 : Int32 → PH → Prop), CI l x mX8_hasCall 1 0 0 [.ref a0, .int x1, .int x2, .int (-1)] h11 q14 ∧ ∀ (r18 : Int32) (h17 : PH), q14 r18 h17 → ((r18 = 0 → ((hK h17 a0).1 = 8) ∧ ∃ (q20 : Int32 → PH → Prop), CI l x mX8_turned 4 0 0 [.ref a0, .int x1, .int r5] h17 q20 ∧ ∀ (r24 : Int32) (h23 : PH), q20 r24 h23 → ((hK h23 a0).1 = 8) ∧ ∃ (q25 : PH → Prop), CV l x mX8_putCar 0 0 0 [.ref a0, .int x1, .int 1, .int r24] h23 q25 ∧ ∀ (h28 : PH), q25 h28 → Gm l x mX8_opens 5 162 [(0, .ref a0), (1, .int x1), (2, .int x2), (3, .int r24), (4, .int 0), (5, .int 0)] [] h28 rc rs n0 Q X) ∧ (¬ r18 = 0 → ((hK h17 a0).1 = 8) ∧ ∃ (q29 : PH → Prop), CV l x mX8_putCar 0 0 0 [.ref a0, .int x1, .int 1, .int (-1)] h17 q29 ∧ ∀ (h32 : PH), q29 h32 → Gm l x mX8_opens 5 162 [(0, .ref a0), (1, .int x1), (2, .int x2), (3, .int (-1)), (4, .int 0), (5, .int 0)] [] h32 rc rs n0 Q X))) ∧ (¬ r12 = 0 → ((hK h11 a0).1 = 8) ∧ ∃ (q33 : PH → Prop), CV l x mX8_putCar 0 0 0 [.ref a0, .int x1, .int 1, .int 1] h11 q33 ∧ ∀ (h36 : PH), q33 h36 → Gm l x mX8_opens 5 162 [(0, .ref a0), (1, .int x1), (2, .int x2), (3, .int 1), (4, .int 0), (5, .int 0)] [] h36 rc rs n0 Q X))) ∧ (¬ r5 = 0 → ((hK h4 a0).1 = 8) ∧ ∃ (q37 : Int32 → PH → Prop), CI l x mX8_isStop 3 0 0 [.ref a0, .int x1, .int r5] h4 q37 ∧ ∀ (r41 : Int32) (h40 : PH), q37 r41 h40 → ((¬ r41 = 0 → ((hK h40 a0).1 = 8) ∧ ∃ (q44 : PH → Prop), CV l x mX8_putCar 0 0 0 [.ref a0, .int x1, .int 1, .int r5] h40 q44 ∧ ∀ (h47 : PH), q44 h47 → Gm l x mX8_opens 5 162 [(0, .ref a0), (1, .int x1), (2, .int x2), (3, .int r5), (4, .int 1), (5, .int 0)] [] h47 rc rs n0 Q X) ∧ (r41 = 0 → ((hK h40 a0).1 = 8) ∧ ∃ (q48 : Int32 → PH → Prop), CI l x mX8_hasCall 1 0 0 [.ref a0, .int x1, .int x2, .int r5] h40 q48 ∧ ∀ (r52 : Int32) (h51 : PH), q48 r52 h51 → ((¬ (if r52 = 0 then 0 else 1 : Int32) = 0 → ((hK h51 a0).1 = 8) ∧ ∃ (q55 : PH → Prop), CV l x mX8_putCar 0 0 0 [.ref a0, .int x1, .int 1, .int r5] h51 q55 ∧ ∀ (h58 : PH), q55 h58 → Gm l x mX8_opens 5 162 [(0, .ref a0), (1, .int x1), (2, .int x2), (3, .int r5), (4, .int (if r52 = 0 then 0 else 1 : Int32)), (5, .int 0)] [] h58 rc rs n0 Q X) ∧ ((if r52 = 0 then 0 else 1 : Int32) = 0 → ((hK h51 a0).1 = 8) ∧ ∃ (q59 : Int32 → PH → Prop), CI l x mX8_hasCall 1 0 0 [.ref a0, .int x1, .int x2, .int 1] h51 q59 ∧ ∀ (r63 : Int32) (h62 : PH), q59 r63 h62 → ((r63 = 0 → ((hK h62 a0).1 = 8) ∧ ∃ (q65 : Int32 → PH → Prop), CI l x mX8_hasCall 1 0 0 [.ref a0, .int x1, .int x2, .int (-1)] h62 q65 ∧ ∀ (r69 : Int32) (h68 : PH), q65 r69 h68 → ((r69 = 0 → ((hK h68 a0).1 = 8) ∧ ∃ (q71 : Int32 → PH → Prop), CI l x mX8_turned 4 0 0 [.ref a0, .int x1, .int r5] h68 q71 ∧ ∀ (r75 : Int32) (h74 : PH), q71 r75 h74 → ((hK h74 a0).1 = 8) ∧ ∃ (q76 : PH → Prop), CV l x mX8_putCar 0 0 0 [.ref a0, .int x1, .int 1, .int r75] h74 q76 ∧ ∀ (h79 : PH), q76 h79 → Gm l x mX8_opens 5 162 [(0, .ref a0), (1, .int x1), (2, .int x2), (3, .int r75), (4, .int (if r52 = 0 then 0 else 1 : Int32)), (5, .int 0)] [] h79 rc rs n0 Q X) ∧ (¬ r69 = 0 → ((hK h68 a0).1 = 8) ∧ ∃ (q80 : PH → Prop), CV l x mX8_putCar 0 0 0 [.ref a0, .int x1, .int 1, .int (-1)] h68 q80 ∧ ∀ (h83 : PH), q80 h83 → Gm l x mX8_opens 5 162 [(0, .ref a0), (1, .int x1), (2, .int x2), (3, .int (-1)), (4, .int (if r52 = 0 then 0 else 1 : Int32)), (5, .int 0)] [] h83 rc rs n0 Q X))) ∧ (¬ r63 = 0 → ((hK h62 a0).1 = 8) ∧ ∃ (q84 : PH → Prop), CV l x mX8_putCar 0 0 0 [.ref a0, .int x1, .int 1, .int 1] h62 q84 ∧ ∀ (h87 : PH), q84 h87 → Gm l x mX8_opens 5 162 [(0, .ref a0), (1, .int x1), (2, .int x2), (3, .int 1), (4, .int (if r52 = 0 then 0 else 1 : Int32)), (5, .int 0)] [] h87 rc rs n0 Q X))))))))) :
    Gm l x mX8_opens 5 75 [(0, .ref a0), (1, .int x1), (2, .int x2), (3, .int x3)] [] h rc rs n0 Q X := by
  refine g_aload_n dX8_opens_75 rfl 0 rfl ?_
  refine g_iload_n dX8_opens_76 rfl 1 rfl ?_
  refine g_iconst (v := 1) dX8_opens_77 (by decide) ?_
  obtain ⟨e3, K⟩ := K
  obtain ⟨q1, C2, K⟩ := K
  refine g_callV (M' := mX8_carOf) (b := a0) (As := [.int x1, .int 1]) (rest := []) (rc' := rc) (rs' := rs) dX8_opens_78 bw_1476 bw_1478 bs_67 bw_9 bw_1479 ⟨by decide +kernel, by decide +kernel, show (parseMethodDescriptor mX8_carOf.1.desc).map (fun d => d.parameters.length) = some 2 by decide +kernel⟩ (by decide) (by decide) (Nat.le_of_ble_eq_true rfl) fc_8 (by decide) rfl e3 C2 (Nat.le_of_eq (Nat.add_zero _)) (Nat.le_of_eq (Nat.add_zero _)) (fun _ _ h => h) ?_
  rintro _ h4 ⟨r5, rfl, K1⟩ -
  replace K := K r5 h4 K1
  show Gm l x mX8_opens 5 81 [(0, .ref a0), (1, .int x1), (2, .int x2), (3, .int x3)] [.int r5] h4 rc rs n0 Q X
  refine g_istore_n (lv' := [(0, .ref a0), (1, .int x1), (2, .int x2), (3, .int r5)]) dX8_opens_81 rfl (by decide) rfl ?_
  refine g_iload_n dX8_opens_82 rfl 3 rfl ?_
  refine g_if_eq (tgt := 109) dX8_opens_83 (by decide) (fun c6 => ?_) (fun c6 => ?_)
  · replace K := K.1 c6
    refine g_iconst (v := 0) dX8_opens_109 (by decide) ?_
    refine g_istore (lv' := [(0, .ref a0), (1, .int x1), (2, .int x2), (3, .int r5), (4, .int 0)]) dX8_opens_110 (by decide) rfl ?_
    refine g_iload dX8_opens_112 4 rfl ?_
    refine g_if_ne (tgt := 152) dX8_opens_114 (by decide) (fun c7 => ?_) (fun c7 => ?_)
    · exact absurd c7 (by decide)
    · refine g_aload_n dX8_opens_117 rfl 0 rfl ?_
      refine g_iload_n dX8_opens_118 rfl 1 rfl ?_
      refine g_iload_n dX8_opens_119 rfl 2 rfl ?_
      refine g_iconst (v := 1) dX8_opens_120 (by decide) ?_
      obtain ⟨e10, K⟩ := K
      obtain ⟨q8, C9, K⟩ := K
      refine g_callV (M' := mX8_hasCall) (b := a0) (As := [.int x1, .int x2, .int 1]) (rest := []) (rc' := rc) (rs' := rs) dX8_opens_121 bw_1514 bw_1516 bs_76 bw_9 bw_1517 ⟨by decide +kernel, by decide +kernel, show (parseMethodDescriptor mX8_hasCall.1.desc).map (fun d => d.parameters.length) = some 3 by decide +kernel⟩ (by decide) (by decide) (Nat.le_of_ble_eq_true rfl) fc_8 (by decide) rfl e10 C9 (Nat.le_of_eq (Nat.add_zero _)) (Nat.le_of_eq (Nat.add_zero _)) (fun _ _ h => h) ?_
      rintro _ h11 ⟨r12, rfl, K1⟩ -
      replace K := K r12 h11 K1
      show Gm l x mX8_opens 5 124 [(0, .ref a0), (1, .int x1), (2, .int x2), (3, .int r5), (4, .int 0)] [.int r12] h11 rc rs n0 Q X
      refine g_if_eq (tgt := 131) dX8_opens_124 (by decide) (fun c13 => ?_) (fun c13 => ?_)
      · replace K := K.1 c13
        refine g_aload_n dX8_opens_131 rfl 0 rfl ?_
        refine g_iload_n dX8_opens_132 rfl 1 rfl ?_
        refine g_iload_n dX8_opens_133 rfl 2 rfl ?_
        refine g_iconst (v := (-1)) dX8_opens_134 (by decide) ?_
        obtain ⟨e16, K⟩ := K
        obtain ⟨q14, C15, K⟩ := K
        refine g_callV (M' := mX8_hasCall) (b := a0) (As := [.int x1, .int x2, .int (-1)]) (rest := []) (rc' := rc) (rs' := rs) dX8_opens_135 bw_1514 bw_1516 bs_76 bw_9 bw_1517 ⟨by decide +kernel, by decide +kernel, show (parseMethodDescriptor mX8_hasCall.1.desc).map (fun d => d.parameters.length) = some 3 by decide +kernel⟩ (by decide) (by decide) (Nat.le_of_ble_eq_true rfl) fc_8 (by decide) rfl e16 C15 (Nat.le_of_eq (Nat.add_zero _)) (Nat.le_of_eq (Nat.add_zero _)) (fun _ _ h => h) ?_
        rintro _ h17 ⟨r18, rfl, K1⟩ -
        replace K := K r18 h17 K1
        show Gm l x mX8_opens 5 138 [(0, .ref a0), (1, .int x1), (2, .int x2), (3, .int r5), (4, .int 0)] [.int r18] h17 rc rs n0 Q X
        refine g_if_eq (tgt := 145) dX8_opens_138 (by decide) (fun c19 => ?_) (fun c19 => ?_)
        · replace K := K.1 c19
          refine g_aload_n dX8_opens_145 rfl 0 rfl ?_
          refine g_iload_n dX8_opens_146 rfl 1 rfl ?_
          refine g_iload_n dX8_opens_147 rfl 3 rfl ?_
          obtain ⟨e22, K⟩ := K
          obtain ⟨q20, C21, K⟩ := K
          refine g_callV (M' := mX8_turned) (b := a0) (As := [.int x1, .int r5]) (rest := []) (rc' := rc) (rs' := rs) dX8_opens_148 bw_1526 bw_1528 bs_79 bw_9 bw_1529 ⟨by decide +kernel, by decide +kernel, show (parseMethodDescriptor mX8_turned.1.desc).map (fun d => d.parameters.length) = some 2 by decide +kernel⟩ (by decide) (by decide) (Nat.le_of_ble_eq_true rfl) fc_8 (by decide) rfl e22 C21 (Nat.le_of_eq (Nat.add_zero _)) (Nat.le_of_eq (Nat.add_zero _)) (fun _ _ h => h) ?_
          rintro _ h23 ⟨r24, rfl, K1⟩ -
          replace K := K r24 h23 K1
          show Gm l x mX8_opens 5 151 [(0, .ref a0), (1, .int x1), (2, .int x2), (3, .int r5), (4, .int 0)] [.int r24] h23 rc rs n0 Q X
          refine g_istore_n (lv' := [(0, .ref a0), (1, .int x1), (2, .int x2), (3, .int r24), (4, .int 0)]) dX8_opens_151 rfl (by decide) rfl ?_
          refine g_aload_n dX8_opens_152 rfl 0 rfl ?_
          refine g_iload_n dX8_opens_153 rfl 1 rfl ?_
          refine g_iconst (v := 1) dX8_opens_154 (by decide) ?_
          refine g_iload_n dX8_opens_155 rfl 3 rfl ?_
          obtain ⟨e27, K⟩ := K
          obtain ⟨q25, C26, K⟩ := K
          refine g_callV (M' := mX8_putCar) (b := a0) (As := [.int x1, .int 1, .int r24]) (rest := []) (rc' := rc) (rs' := rs) dX8_opens_156 bw_1190 bw_1192 bs_37 bw_9 bw_1193 ⟨by decide +kernel, by decide +kernel, show (parseMethodDescriptor mX8_putCar.1.desc).map (fun d => d.parameters.length) = some 3 by decide +kernel⟩ (by decide) (by decide) (Nat.le_of_ble_eq_true rfl) fc_8 (by decide) rfl e27 C26 (Nat.le_of_eq (Nat.add_zero _)) (Nat.le_of_eq (Nat.add_zero _)) (fun _ _ h => h) ?_
          rintro _ h28 ⟨rfl, K1⟩ -
          replace K := K h28 K1
          show Gm l x mX8_opens 5 159 [(0, .ref a0), (1, .int x1), (2, .int x2), (3, .int r24), (4, .int 0)] [] h28 rc rs n0 Q X
          refine g_iconst (v := 0) dX8_opens_159 (by decide) ?_
          refine g_istore (lv' := [(0, .ref a0), (1, .int x1), (2, .int x2), (3, .int r24), (4, .int 0), (5, .int 0)]) dX8_opens_160 (by decide) rfl ?_
          exact K
        · replace K := K.2 c19
          refine g_iconst (v := (-1)) dX8_opens_141 (by decide) ?_
          refine g_goto (tgt := 151) dX8_opens_142 (by decide) ?_
          refine g_istore_n (lv' := [(0, .ref a0), (1, .int x1), (2, .int x2), (3, .int (-1)), (4, .int 0)]) dX8_opens_151 rfl (by decide) rfl ?_
          refine g_aload_n dX8_opens_152 rfl 0 rfl ?_
          refine g_iload_n dX8_opens_153 rfl 1 rfl ?_
          refine g_iconst (v := 1) dX8_opens_154 (by decide) ?_
          refine g_iload_n dX8_opens_155 rfl 3 rfl ?_
          obtain ⟨e31, K⟩ := K
          obtain ⟨q29, C30, K⟩ := K
          refine g_callV (M' := mX8_putCar) (b := a0) (As := [.int x1, .int 1, .int (-1)]) (rest := []) (rc' := rc) (rs' := rs) dX8_opens_156 bw_1190 bw_1192 bs_37 bw_9 bw_1193 ⟨by decide +kernel, by decide +kernel, show (parseMethodDescriptor mX8_putCar.1.desc).map (fun d => d.parameters.length) = some 3 by decide +kernel⟩ (by decide) (by decide) (Nat.le_of_ble_eq_true rfl) fc_8 (by decide) rfl e31 C30 (Nat.le_of_eq (Nat.add_zero _)) (Nat.le_of_eq (Nat.add_zero _)) (fun _ _ h => h) ?_
          rintro _ h32 ⟨rfl, K1⟩ -
          replace K := K h32 K1
          show Gm l x mX8_opens 5 159 [(0, .ref a0), (1, .int x1), (2, .int x2), (3, .int (-1)), (4, .int 0)] [] h32 rc rs n0 Q X
          refine g_iconst (v := 0) dX8_opens_159 (by decide) ?_
          refine g_istore (lv' := [(0, .ref a0), (1, .int x1), (2, .int x2), (3, .int (-1)), (4, .int 0), (5, .int 0)]) dX8_opens_160 (by decide) rfl ?_
          exact K
      · replace K := K.2 c13
        refine g_iconst (v := 1) dX8_opens_127 (by decide) ?_
        refine g_goto (tgt := 151) dX8_opens_128 (by decide) ?_
        refine g_istore_n (lv' := [(0, .ref a0), (1, .int x1), (2, .int x2), (3, .int 1), (4, .int 0)]) dX8_opens_151 rfl (by decide) rfl ?_
        refine g_aload_n dX8_opens_152 rfl 0 rfl ?_
        refine g_iload_n dX8_opens_153 rfl 1 rfl ?_
        refine g_iconst (v := 1) dX8_opens_154 (by decide) ?_
        refine g_iload_n dX8_opens_155 rfl 3 rfl ?_
        obtain ⟨e35, K⟩ := K
        obtain ⟨q33, C34, K⟩ := K
        refine g_callV (M' := mX8_putCar) (b := a0) (As := [.int x1, .int 1, .int 1]) (rest := []) (rc' := rc) (rs' := rs) dX8_opens_156 bw_1190 bw_1192 bs_37 bw_9 bw_1193 ⟨by decide +kernel, by decide +kernel, show (parseMethodDescriptor mX8_putCar.1.desc).map (fun d => d.parameters.length) = some 3 by decide +kernel⟩ (by decide) (by decide) (Nat.le_of_ble_eq_true rfl) fc_8 (by decide) rfl e35 C34 (Nat.le_of_eq (Nat.add_zero _)) (Nat.le_of_eq (Nat.add_zero _)) (fun _ _ h => h) ?_
        rintro _ h36 ⟨rfl, K1⟩ -
        replace K := K h36 K1
        show Gm l x mX8_opens 5 159 [(0, .ref a0), (1, .int x1), (2, .int x2), (3, .int 1), (4, .int 0)] [] h36 rc rs n0 Q X
        refine g_iconst (v := 0) dX8_opens_159 (by decide) ?_
        refine g_istore (lv' := [(0, .ref a0), (1, .int x1), (2, .int x2), (3, .int 1), (4, .int 0), (5, .int 0)]) dX8_opens_160 (by decide) rfl ?_
        exact K
  · replace K := K.2 c6
    refine g_aload_n dX8_opens_86 rfl 0 rfl ?_
    refine g_iload_n dX8_opens_87 rfl 1 rfl ?_
    refine g_iload_n dX8_opens_88 rfl 3 rfl ?_
    obtain ⟨e39, K⟩ := K
    obtain ⟨q37, C38, K⟩ := K
    refine g_callV (M' := mX8_isStop) (b := a0) (As := [.int x1, .int r5]) (rest := []) (rc' := rc) (rs' := rs) dX8_opens_89 bw_1506 bw_1508 bs_74 bw_9 bw_1509 ⟨by decide +kernel, by decide +kernel, show (parseMethodDescriptor mX8_isStop.1.desc).map (fun d => d.parameters.length) = some 2 by decide +kernel⟩ (by decide) (by decide) (Nat.le_of_ble_eq_true rfl) fc_8 (by decide) rfl e39 C38 (Nat.le_of_eq (Nat.add_zero _)) (Nat.le_of_eq (Nat.add_zero _)) (fun _ _ h => h) ?_
    rintro _ h40 ⟨r41, rfl, K1⟩ -
    replace K := K r41 h40 K1
    show Gm l x mX8_opens 5 92 [(0, .ref a0), (1, .int x1), (2, .int x2), (3, .int r5)] [.int r41] h40 rc rs n0 Q X
    refine g_if_ne (tgt := 105) dX8_opens_92 (by decide) (fun c42 => ?_) (fun c42 => ?_)
    · replace K := K.1 c42
      refine g_iconst (v := 1) dX8_opens_105 (by decide) ?_
      refine g_goto (tgt := 110) dX8_opens_106 (by decide) ?_
      refine g_istore (lv' := [(0, .ref a0), (1, .int x1), (2, .int x2), (3, .int r5), (4, .int 1)]) dX8_opens_110 (by decide) rfl ?_
      refine g_iload dX8_opens_112 4 rfl ?_
      have KJ : Gm l x mX8_opens 5 152 [(0, .ref a0), (1, .int x1), (2, .int x2), (3, .int r5), (4, .int 1)] [] h40 rc rs n0 Q X := by
        refine g_aload_n dX8_opens_152 rfl 0 rfl ?_
        refine g_iload_n dX8_opens_153 rfl 1 rfl ?_
        refine g_iconst (v := 1) dX8_opens_154 (by decide) ?_
        refine g_iload_n dX8_opens_155 rfl 3 rfl ?_
        obtain ⟨e46, K⟩ := K
        obtain ⟨q44, C45, K⟩ := K
        refine g_callV (M' := mX8_putCar) (b := a0) (As := [.int x1, .int 1, .int r5]) (rest := []) (rc' := rc) (rs' := rs) dX8_opens_156 bw_1190 bw_1192 bs_37 bw_9 bw_1193 ⟨by decide +kernel, by decide +kernel, show (parseMethodDescriptor mX8_putCar.1.desc).map (fun d => d.parameters.length) = some 3 by decide +kernel⟩ (by decide) (by decide) (Nat.le_of_ble_eq_true rfl) fc_8 (by decide) rfl e46 C45 (Nat.le_of_eq (Nat.add_zero _)) (Nat.le_of_eq (Nat.add_zero _)) (fun _ _ h => h) ?_
        rintro _ h47 ⟨rfl, K1⟩ -
        replace K := K h47 K1
        show Gm l x mX8_opens 5 159 [(0, .ref a0), (1, .int x1), (2, .int x2), (3, .int r5), (4, .int 1)] [] h47 rc rs n0 Q X
        refine g_iconst (v := 0) dX8_opens_159 (by decide) ?_
        refine g_istore (lv' := [(0, .ref a0), (1, .int x1), (2, .int x2), (3, .int r5), (4, .int 1), (5, .int 0)]) dX8_opens_160 (by decide) rfl ?_
        exact K
      refine g_if_ne (tgt := 152) dX8_opens_114 (by decide) (fun c43 => ?_) (fun c43 => ?_)
      · exact KJ
      · exact absurd c43 (by decide)
    · replace K := K.2 c42
      refine g_aload_n dX8_opens_95 rfl 0 rfl ?_
      refine g_iload_n dX8_opens_96 rfl 1 rfl ?_
      refine g_iload_n dX8_opens_97 rfl 2 rfl ?_
      refine g_iload_n dX8_opens_98 rfl 3 rfl ?_
      obtain ⟨e50, K⟩ := K
      obtain ⟨q48, C49, K⟩ := K
      refine g_callV (M' := mX8_hasCall) (b := a0) (As := [.int x1, .int x2, .int r5]) (rest := []) (rc' := rc) (rs' := rs) dX8_opens_99 bw_1514 bw_1516 bs_76 bw_9 bw_1517 ⟨by decide +kernel, by decide +kernel, show (parseMethodDescriptor mX8_hasCall.1.desc).map (fun d => d.parameters.length) = some 3 by decide +kernel⟩ (by decide) (by decide) (Nat.le_of_ble_eq_true rfl) fc_8 (by decide) rfl e50 C49 (Nat.le_of_eq (Nat.add_zero _)) (Nat.le_of_eq (Nat.add_zero _)) (fun _ _ h => h) ?_
      rintro _ h51 ⟨r52, rfl, K1⟩ -
      replace K := K r52 h51 K1
      show Gm l x mX8_opens 5 102 [(0, .ref a0), (1, .int x1), (2, .int x2), (3, .int r5)] [.int r52] h51 rc rs n0 Q X
      have KJ : Gm l x mX8_opens 5 110 [(0, .ref a0), (1, .int x1), (2, .int x2), (3, .int r5)] [.int (if r52 = 0 then 0 else 1 : Int32)] h51 rc rs n0 Q X := by
        refine g_istore (lv' := [(0, .ref a0), (1, .int x1), (2, .int x2), (3, .int r5), (4, .int (if r52 = 0 then 0 else 1 : Int32))]) dX8_opens_110 (by decide) rfl ?_
        refine g_iload dX8_opens_112 4 rfl ?_
        refine g_if_ne (tgt := 152) dX8_opens_114 (by decide) (fun c54 => ?_) (fun c54 => ?_)
        · replace K := K.1 c54
          refine g_aload_n dX8_opens_152 rfl 0 rfl ?_
          refine g_iload_n dX8_opens_153 rfl 1 rfl ?_
          refine g_iconst (v := 1) dX8_opens_154 (by decide) ?_
          refine g_iload_n dX8_opens_155 rfl 3 rfl ?_
          obtain ⟨e57, K⟩ := K
          obtain ⟨q55, C56, K⟩ := K
          refine g_callV (M' := mX8_putCar) (b := a0) (As := [.int x1, .int 1, .int r5]) (rest := []) (rc' := rc) (rs' := rs) dX8_opens_156 bw_1190 bw_1192 bs_37 bw_9 bw_1193 ⟨by decide +kernel, by decide +kernel, show (parseMethodDescriptor mX8_putCar.1.desc).map (fun d => d.parameters.length) = some 3 by decide +kernel⟩ (by decide) (by decide) (Nat.le_of_ble_eq_true rfl) fc_8 (by decide) rfl e57 C56 (Nat.le_of_eq (Nat.add_zero _)) (Nat.le_of_eq (Nat.add_zero _)) (fun _ _ h => h) ?_
          rintro _ h58 ⟨rfl, K1⟩ -
          replace K := K h58 K1
          show Gm l x mX8_opens 5 159 [(0, .ref a0), (1, .int x1), (2, .int x2), (3, .int r5), (4, .int (if r52 = 0 then 0 else 1 : Int32))] [] h58 rc rs n0 Q X
          refine g_iconst (v := 0) dX8_opens_159 (by decide) ?_
          refine g_istore (lv' := [(0, .ref a0), (1, .int x1), (2, .int x2), (3, .int r5), (4, .int (if r52 = 0 then 0 else 1 : Int32)), (5, .int 0)]) dX8_opens_160 (by decide) rfl ?_
          exact K
        · replace K := K.2 c54
          refine g_aload_n dX8_opens_117 rfl 0 rfl ?_
          refine g_iload_n dX8_opens_118 rfl 1 rfl ?_
          refine g_iload_n dX8_opens_119 rfl 2 rfl ?_
          refine g_iconst (v := 1) dX8_opens_120 (by decide) ?_
          obtain ⟨e61, K⟩ := K
          obtain ⟨q59, C60, K⟩ := K
          refine g_callV (M' := mX8_hasCall) (b := a0) (As := [.int x1, .int x2, .int 1]) (rest := []) (rc' := rc) (rs' := rs) dX8_opens_121 bw_1514 bw_1516 bs_76 bw_9 bw_1517 ⟨by decide +kernel, by decide +kernel, show (parseMethodDescriptor mX8_hasCall.1.desc).map (fun d => d.parameters.length) = some 3 by decide +kernel⟩ (by decide) (by decide) (Nat.le_of_ble_eq_true rfl) fc_8 (by decide) rfl e61 C60 (Nat.le_of_eq (Nat.add_zero _)) (Nat.le_of_eq (Nat.add_zero _)) (fun _ _ h => h) ?_
          rintro _ h62 ⟨r63, rfl, K1⟩ -
          replace K := K r63 h62 K1
          show Gm l x mX8_opens 5 124 [(0, .ref a0), (1, .int x1), (2, .int x2), (3, .int r5), (4, .int (if r52 = 0 then 0 else 1 : Int32))] [.int r63] h62 rc rs n0 Q X
          refine g_if_eq (tgt := 131) dX8_opens_124 (by decide) (fun c64 => ?_) (fun c64 => ?_)
          · replace K := K.1 c64
            refine g_aload_n dX8_opens_131 rfl 0 rfl ?_
            refine g_iload_n dX8_opens_132 rfl 1 rfl ?_
            refine g_iload_n dX8_opens_133 rfl 2 rfl ?_
            refine g_iconst (v := (-1)) dX8_opens_134 (by decide) ?_
            obtain ⟨e67, K⟩ := K
            obtain ⟨q65, C66, K⟩ := K
            refine g_callV (M' := mX8_hasCall) (b := a0) (As := [.int x1, .int x2, .int (-1)]) (rest := []) (rc' := rc) (rs' := rs) dX8_opens_135 bw_1514 bw_1516 bs_76 bw_9 bw_1517 ⟨by decide +kernel, by decide +kernel, show (parseMethodDescriptor mX8_hasCall.1.desc).map (fun d => d.parameters.length) = some 3 by decide +kernel⟩ (by decide) (by decide) (Nat.le_of_ble_eq_true rfl) fc_8 (by decide) rfl e67 C66 (Nat.le_of_eq (Nat.add_zero _)) (Nat.le_of_eq (Nat.add_zero _)) (fun _ _ h => h) ?_
            rintro _ h68 ⟨r69, rfl, K1⟩ -
            replace K := K r69 h68 K1
            show Gm l x mX8_opens 5 138 [(0, .ref a0), (1, .int x1), (2, .int x2), (3, .int r5), (4, .int (if r52 = 0 then 0 else 1 : Int32))] [.int r69] h68 rc rs n0 Q X
            refine g_if_eq (tgt := 145) dX8_opens_138 (by decide) (fun c70 => ?_) (fun c70 => ?_)
            · replace K := K.1 c70
              refine g_aload_n dX8_opens_145 rfl 0 rfl ?_
              refine g_iload_n dX8_opens_146 rfl 1 rfl ?_
              refine g_iload_n dX8_opens_147 rfl 3 rfl ?_
              obtain ⟨e73, K⟩ := K
              obtain ⟨q71, C72, K⟩ := K
              refine g_callV (M' := mX8_turned) (b := a0) (As := [.int x1, .int r5]) (rest := []) (rc' := rc) (rs' := rs) dX8_opens_148 bw_1526 bw_1528 bs_79 bw_9 bw_1529 ⟨by decide +kernel, by decide +kernel, show (parseMethodDescriptor mX8_turned.1.desc).map (fun d => d.parameters.length) = some 2 by decide +kernel⟩ (by decide) (by decide) (Nat.le_of_ble_eq_true rfl) fc_8 (by decide) rfl e73 C72 (Nat.le_of_eq (Nat.add_zero _)) (Nat.le_of_eq (Nat.add_zero _)) (fun _ _ h => h) ?_
              rintro _ h74 ⟨r75, rfl, K1⟩ -
              replace K := K r75 h74 K1
              show Gm l x mX8_opens 5 151 [(0, .ref a0), (1, .int x1), (2, .int x2), (3, .int r5), (4, .int (if r52 = 0 then 0 else 1 : Int32))] [.int r75] h74 rc rs n0 Q X
              refine g_istore_n (lv' := [(0, .ref a0), (1, .int x1), (2, .int x2), (3, .int r75), (4, .int (if r52 = 0 then 0 else 1 : Int32))]) dX8_opens_151 rfl (by decide) rfl ?_
              refine g_aload_n dX8_opens_152 rfl 0 rfl ?_
              refine g_iload_n dX8_opens_153 rfl 1 rfl ?_
              refine g_iconst (v := 1) dX8_opens_154 (by decide) ?_
              refine g_iload_n dX8_opens_155 rfl 3 rfl ?_
              obtain ⟨e78, K⟩ := K
              obtain ⟨q76, C77, K⟩ := K
              refine g_callV (M' := mX8_putCar) (b := a0) (As := [.int x1, .int 1, .int r75]) (rest := []) (rc' := rc) (rs' := rs) dX8_opens_156 bw_1190 bw_1192 bs_37 bw_9 bw_1193 ⟨by decide +kernel, by decide +kernel, show (parseMethodDescriptor mX8_putCar.1.desc).map (fun d => d.parameters.length) = some 3 by decide +kernel⟩ (by decide) (by decide) (Nat.le_of_ble_eq_true rfl) fc_8 (by decide) rfl e78 C77 (Nat.le_of_eq (Nat.add_zero _)) (Nat.le_of_eq (Nat.add_zero _)) (fun _ _ h => h) ?_
              rintro _ h79 ⟨rfl, K1⟩ -
              replace K := K h79 K1
              show Gm l x mX8_opens 5 159 [(0, .ref a0), (1, .int x1), (2, .int x2), (3, .int r75), (4, .int (if r52 = 0 then 0 else 1 : Int32))] [] h79 rc rs n0 Q X
              refine g_iconst (v := 0) dX8_opens_159 (by decide) ?_
              refine g_istore (lv' := [(0, .ref a0), (1, .int x1), (2, .int x2), (3, .int r75), (4, .int (if r52 = 0 then 0 else 1 : Int32)), (5, .int 0)]) dX8_opens_160 (by decide) rfl ?_
              exact K
            · replace K := K.2 c70
              refine g_iconst (v := (-1)) dX8_opens_141 (by decide) ?_
              refine g_goto (tgt := 151) dX8_opens_142 (by decide) ?_
              refine g_istore_n (lv' := [(0, .ref a0), (1, .int x1), (2, .int x2), (3, .int (-1)), (4, .int (if r52 = 0 then 0 else 1 : Int32))]) dX8_opens_151 rfl (by decide) rfl ?_
              refine g_aload_n dX8_opens_152 rfl 0 rfl ?_
              refine g_iload_n dX8_opens_153 rfl 1 rfl ?_
              refine g_iconst (v := 1) dX8_opens_154 (by decide) ?_
              refine g_iload_n dX8_opens_155 rfl 3 rfl ?_
              obtain ⟨e82, K⟩ := K
              obtain ⟨q80, C81, K⟩ := K
              refine g_callV (M' := mX8_putCar) (b := a0) (As := [.int x1, .int 1, .int (-1)]) (rest := []) (rc' := rc) (rs' := rs) dX8_opens_156 bw_1190 bw_1192 bs_37 bw_9 bw_1193 ⟨by decide +kernel, by decide +kernel, show (parseMethodDescriptor mX8_putCar.1.desc).map (fun d => d.parameters.length) = some 3 by decide +kernel⟩ (by decide) (by decide) (Nat.le_of_ble_eq_true rfl) fc_8 (by decide) rfl e82 C81 (Nat.le_of_eq (Nat.add_zero _)) (Nat.le_of_eq (Nat.add_zero _)) (fun _ _ h => h) ?_
              rintro _ h83 ⟨rfl, K1⟩ -
              replace K := K h83 K1
              show Gm l x mX8_opens 5 159 [(0, .ref a0), (1, .int x1), (2, .int x2), (3, .int (-1)), (4, .int (if r52 = 0 then 0 else 1 : Int32))] [] h83 rc rs n0 Q X
              refine g_iconst (v := 0) dX8_opens_159 (by decide) ?_
              refine g_istore (lv' := [(0, .ref a0), (1, .int x1), (2, .int x2), (3, .int (-1)), (4, .int (if r52 = 0 then 0 else 1 : Int32)), (5, .int 0)]) dX8_opens_160 (by decide) rfl ?_
              exact K
          · replace K := K.2 c64
            refine g_iconst (v := 1) dX8_opens_127 (by decide) ?_
            refine g_goto (tgt := 151) dX8_opens_128 (by decide) ?_
            refine g_istore_n (lv' := [(0, .ref a0), (1, .int x1), (2, .int x2), (3, .int 1), (4, .int (if r52 = 0 then 0 else 1 : Int32))]) dX8_opens_151 rfl (by decide) rfl ?_
            refine g_aload_n dX8_opens_152 rfl 0 rfl ?_
            refine g_iload_n dX8_opens_153 rfl 1 rfl ?_
            refine g_iconst (v := 1) dX8_opens_154 (by decide) ?_
            refine g_iload_n dX8_opens_155 rfl 3 rfl ?_
            obtain ⟨e86, K⟩ := K
            obtain ⟨q84, C85, K⟩ := K
            refine g_callV (M' := mX8_putCar) (b := a0) (As := [.int x1, .int 1, .int 1]) (rest := []) (rc' := rc) (rs' := rs) dX8_opens_156 bw_1190 bw_1192 bs_37 bw_9 bw_1193 ⟨by decide +kernel, by decide +kernel, show (parseMethodDescriptor mX8_putCar.1.desc).map (fun d => d.parameters.length) = some 3 by decide +kernel⟩ (by decide) (by decide) (Nat.le_of_ble_eq_true rfl) fc_8 (by decide) rfl e86 C85 (Nat.le_of_eq (Nat.add_zero _)) (Nat.le_of_eq (Nat.add_zero _)) (fun _ _ h => h) ?_
            rintro _ h87 ⟨rfl, K1⟩ -
            replace K := K h87 K1
            show Gm l x mX8_opens 5 159 [(0, .ref a0), (1, .int x1), (2, .int x2), (3, .int 1), (4, .int (if r52 = 0 then 0 else 1 : Int32))] [] h87 rc rs n0 Q X
            refine g_iconst (v := 0) dX8_opens_159 (by decide) ?_
            refine g_istore (lv' := [(0, .ref a0), (1, .int x1), (2, .int x2), (3, .int 1), (4, .int (if r52 = 0 then 0 else 1 : Int32)), (5, .int 0)]) dX8_opens_160 (by decide) rfl ?_
            exact K
      refine g_if_eq (tgt := 109) dX8_opens_102 (by decide) (fun c53 => ?_) (fun c53 => ?_)
      · refine g_iconst (v := 0) dX8_opens_109 (by decide) ?_
        first | (simp only [if_pos c53] at KJ; exact KJ) | (simp only [if_pos c53, ite_true, ite_false, eq_self] at KJ; exact KJ) | (simp only [if_pos c53] at KJ ⊢; exact KJ) | exact KJ
      · refine g_iconst (v := 1) dX8_opens_105 (by decide) ?_
        refine g_goto (tgt := 110) dX8_opens_106 (by decide) ?_
        first | (simp only [if_neg c53] at KJ; exact KJ) | (simp only [if_neg c53, ite_true, ite_false, eq_self] at KJ; exact KJ) | (simp only [if_neg c53] at KJ ⊢; exact KJ) | exact KJ
set_option maxRecDepth 20000 in
set_option maxHeartbeats 4000000 in
theorem vX8_opens_162 {l : Launch} {x : CX} {a0 : Nat} {x1 : Int32} {x2 : Int32} {x4 : Int32} {x3 : Int32} {x5 : Int32} {h : PH} {rc rs n0 : Nat} {Q : Option Value → PH → Prop} {X : String → PH → Prop}
    (K : ((hK h a0).1 = 8) ∧ ∃ b2, (hR h a0 2 = some b2) ∧ ((hK h b2).1 = 100) ∧ (vp_in 6 (hK h b2).2) ∧ (((hI h b2 (Int32.toNatClampNeg 6)) ≤ x5 → Gm l x mX8_opens 5 300 [(0, .ref a0), (1, .int x1), (2, .int x2), (3, .int x3), (4, .int x4), (5, .int 1)] [] h rc rs n0 Q X) ∧ (¬ (hI h b2 (Int32.toNatClampNeg 6)) ≤ x5 → ∃ (q7 : Int32 → PH → Prop), CI l x mX8_isFull 1 0 0 [.ref a0, .int x1] h q7 ∧ ∀ (r10 : Int32) (h9 : PH), q7 r10 h9 → ((¬ r10 = 0 → Gm l x mX8_opens 5 300 [(0, .ref a0), (1, .int x1), (2, .int x2), (3, .int x3), (4, .int x4), (5, .int 1)] [] h9 rc rs n0 Q X) ∧ (r10 = 0 → ((hK h9 a0).1 = 8) ∧ ∃ (q12 : Int32 → PH → Prop), CI l x mX8_of 0 0 0 [.ref a0, .int x5, .int 4] h9 q12 ∧ ∀ (r16 : Int32) (h15 : PH), q12 r16 h15 → ((¬ r16 = 1 → Gm l x mX8_opens 5 162 [(0, .ref a0), (1, .int x1), (2, .int x2), (3, .int x3), (4, .int x4), (5, .int (x5 + 1))] [] h15 rc rs n0 Q X) ∧ (r16 = 1 → ((hK h15 a0).1 = 8) ∧ ∃ (q18 : Int32 → PH → Prop), CI l x mX8_of 0 0 0 [.ref a0, .int x5, .int 5] h15 q18 ∧ ∀ (r22 : Int32) (h21 : PH), q18 r22 h21 → ((¬ r22 = x2 → Gm l x mX8_opens 5 162 [(0, .ref a0), (1, .int x1), (2, .int x2), (3, .int x3), (4, .int x4), (5, .int (x5 + 1))] [] h21 rc rs n0 Q X) ∧ (r22 = x2 → ((hK h21 a0).1 = 8) ∧ ∃ (q24 : Int32 → PH → Prop), CI l x mX8_wayOf 1 0 0 [.ref a0, .int x5] h21 q24 ∧ ∀ (r28 : Int32) (h27 : PH), q24 r28 h27 → ((¬ r28 = x3 → Gm l x mX8_opens 5 162 [(0, .ref a0), (1, .int x1), (2, .int x2), (3, .int x3), (4, .int x4), (5, .int (x5 + 1))] [] h27 rc rs n0 Q X) ∧ (r28 = x3 → ((hK h27 a0).1 = 8) ∧ ∃ (q30 : Int32 → PH → Prop), CI l x mX8_of 0 0 0 [.ref a0, .int x5, .int 0] h27 q30 ∧ ∀ (r34 : Int32) (h33 : PH), q30 r34 h33 → ((hK h33 a0).1 = 8) ∧ ∃ (q35 : Int32 → PH → Prop), CI l x mX8_takes 0 0 0 [.ref a0, .int x1, .int r34] h33 q35 ∧ ∀ (r39 : Int32) (h38 : PH), q35 r39 h38 → ((¬ r39 = 0 → ((hK h38 a0).1 = 8) ∧ ∃ (q41 : Int32 → PH → Prop), CI l x mX8_carOf 0 0 0 [.ref a0, .int x1, .int 3] h38 q41 ∧ ∀ (r45 : Int32) (h44 : PH), q41 r45 h44 → ((hK h44 a0).1 = 8) ∧ ∃ (q46 : PH → Prop), CV l x mX8_putCar 0 0 0 [.ref a0, .int x1, .int 3, .int (r45 ||| (1 <<< ((x5 : Int32) &&& 31)))] h44 q46 ∧ ∀ (h49 : PH), q46 h49 → ((hK h49 a0).1 = 8) ∧ ∃ (q50 : PH → Prop), CV l x mX8_put 0 0 0 [.ref a0, .int x5, .int 4, .int 2] h49 q50 ∧ ∀ (h53 : PH), q50 h53 → ((hK h53 a0).1 = 8) ∧ ∃ (q54 : PH → Prop), CV l x mX8_put 0 0 0 [.ref a0, .int x5, .int 5, .int x1] h53 q54 ∧ ∀ (h57 : PH), q54 h57 → ((hK h57 a0).1 = 8) ∧ ∃ (q58 : Int32 → PH → Prop), CI l x mX8_of 0 0 0 [.ref a0, .int x5, .int 8] h57 q58 ∧ ∀ (r62 : Int32) (h61 : PH), q58 r62 h61 → ((¬ r62 = (-1) → Gm l x mX8_opens 5 162 [(0, .ref a0), (1, .int x1), (2, .int x2), (3, .int x3), (4, .int x4), (5, .int (x5 + 1))] [] h61 rc rs n0 Q X) ∧ (r62 = (-1) → ((hK h61 a0).1 = 8) ∧ ∃ b65, (hR h61 a0 2 = some b65) ∧ ((hK h61 b65).1 = 100) ∧ (vp_in 0 (hK h61 b65).2) ∧ ∃ (q69 : PH → Prop), CV l x mX8_put 0 0 0 [.ref a0, .int x5, .int 8, .int (hI h61 b65 (Int32.toNatClampNeg 0))] h61 q69 ∧ ∀ (h71 : PH), q69 h71 → Gm l x mX8_opens 5 162 [(0, .ref a0), (1, .int x1), (2, .int x2), (3, .int x3), (4, .int x4), (5, .int (x5 + 1))] [] h71 rc rs n0 Q X))) ∧ (r39 = 0 → Gm l x mX8_opens 5 162 [(0, .ref a0), (1, .int x1), (2, .int x2), (3, .int x3), (4, .int x4), (5, .int (x5 + 1))] [] h38 rc rs n0 Q X))))))))))))) :
    Gm l x mX8_opens 5 162 [(0, .ref a0), (1, .int x1), (2, .int x2), (3, .int x3), (4, .int x4), (5, .int x5)] [] h rc rs n0 Q X := by
  refine g_iload dX8_opens_162 5 rfl ?_
  refine g_aload_n dX8_opens_164 rfl 0 rfl ?_
  obtain ⟨e1, b2, e3, K⟩ := K
  refine g_get (c := 8) (k := 2) (v := .ref b2) dX8_opens_165 fc_8 (by decide) (by decide) bw_1200 (congrArg pr e3) e1 ?_
  refine g_bipush (v := 6) dX8_opens_168 (by decide) ?_
  obtain ⟨e4, e5, K⟩ := K
  refine g_iald dX8_opens_170 e4 e5 ?_
  refine g_icmp_ge (tgt := 297) dX8_opens_171 (by decide) (fun c6 => ?_) (fun c6 => ?_)
  · replace K := K.1 c6
    refine g_iconst (v := 1) dX8_opens_297 (by decide) ?_
    refine g_istore (lv' := [(0, .ref a0), (1, .int x1), (2, .int x2), (3, .int x3), (4, .int x4), (5, .int 1)]) dX8_opens_298 (by decide) rfl ?_
    exact K
  · replace K := K.2 c6
    refine g_aload_n dX8_opens_174 rfl 0 rfl ?_
    refine g_iload_n dX8_opens_175 rfl 1 rfl ?_
    obtain ⟨q7, C8, K⟩ := K
    refine g_callV (M' := mX8_isFull) (b := a0) (As := [.int x1]) (rest := []) (rc' := rc) (rs' := rs) dX8_opens_176 bw_1501 bw_1503 bs_73 bw_9 bw_1504 ⟨by decide +kernel, by decide +kernel, show (parseMethodDescriptor mX8_isFull.1.desc).map (fun d => d.parameters.length) = some 1 by decide +kernel⟩ (by decide) (by decide) (Nat.le_of_ble_eq_true rfl) fc_8 (by decide) rfl e1 C8 (Nat.le_of_eq (Nat.add_zero _)) (Nat.le_of_eq (Nat.add_zero _)) (fun _ _ h => h) ?_
    rintro _ h9 ⟨r10, rfl, K1⟩ -
    replace K := K r10 h9 K1
    show Gm l x mX8_opens 5 179 [(0, .ref a0), (1, .int x1), (2, .int x2), (3, .int x3), (4, .int x4), (5, .int x5)] [.int r10] h9 rc rs n0 Q X
    refine g_if_ne (tgt := 297) dX8_opens_179 (by decide) (fun c11 => ?_) (fun c11 => ?_)
    · replace K := K.1 c11
      refine g_iconst (v := 1) dX8_opens_297 (by decide) ?_
      refine g_istore (lv' := [(0, .ref a0), (1, .int x1), (2, .int x2), (3, .int x3), (4, .int x4), (5, .int 1)]) dX8_opens_298 (by decide) rfl ?_
      exact K
    · replace K := K.2 c11
      refine g_aload_n dX8_opens_182 rfl 0 rfl ?_
      refine g_iload dX8_opens_183 5 rfl ?_
      refine g_iconst (v := 4) dX8_opens_185 (by decide) ?_
      obtain ⟨e14, K⟩ := K
      obtain ⟨q12, C13, K⟩ := K
      refine g_callV (M' := mX8_of) (b := a0) (As := [.int x5, .int 4]) (rest := []) (rc' := rc) (rs' := rs) dX8_opens_186 bw_1413 bw_1415 bs_52 bw_9 bw_1416 ⟨by decide +kernel, by decide +kernel, show (parseMethodDescriptor mX8_of.1.desc).map (fun d => d.parameters.length) = some 2 by decide +kernel⟩ (by decide) (by decide) (Nat.le_of_ble_eq_true rfl) fc_8 (by decide) rfl e14 C13 (Nat.le_of_eq (Nat.add_zero _)) (Nat.le_of_eq (Nat.add_zero _)) (fun _ _ h => h) ?_
      rintro _ h15 ⟨r16, rfl, K1⟩ -
      replace K := K r16 h15 K1
      show Gm l x mX8_opens 5 189 [(0, .ref a0), (1, .int x1), (2, .int x2), (3, .int x3), (4, .int x4), (5, .int x5)] [.int r16] h15 rc rs n0 Q X
      refine g_iconst (v := 1) dX8_opens_189 (by decide) ?_
      refine g_icmp_ne (tgt := 291) dX8_opens_190 (by decide) (fun c17 => ?_) (fun c17 => ?_)
      · replace K := K.1 c17
        refine g_iinc (v := (x5 + 1)) (lv' := [(0, .ref a0), (1, .int x1), (2, .int x2), (3, .int x3), (4, .int x4), (5, .int (x5 + 1))]) dX8_opens_291 5 rfl (by rfl) (by decide) rfl ?_
        refine g_goto (tgt := 162) dX8_opens_294 (by decide) ?_
        exact K
      · replace K := K.2 c17
        refine g_aload_n dX8_opens_193 rfl 0 rfl ?_
        refine g_iload dX8_opens_194 5 rfl ?_
        refine g_iconst (v := 5) dX8_opens_196 (by decide) ?_
        obtain ⟨e20, K⟩ := K
        obtain ⟨q18, C19, K⟩ := K
        refine g_callV (M' := mX8_of) (b := a0) (As := [.int x5, .int 5]) (rest := []) (rc' := rc) (rs' := rs) dX8_opens_197 bw_1413 bw_1415 bs_52 bw_9 bw_1416 ⟨by decide +kernel, by decide +kernel, show (parseMethodDescriptor mX8_of.1.desc).map (fun d => d.parameters.length) = some 2 by decide +kernel⟩ (by decide) (by decide) (Nat.le_of_ble_eq_true rfl) fc_8 (by decide) rfl e20 C19 (Nat.le_of_eq (Nat.add_zero _)) (Nat.le_of_eq (Nat.add_zero _)) (fun _ _ h => h) ?_
        rintro _ h21 ⟨r22, rfl, K1⟩ -
        replace K := K r22 h21 K1
        show Gm l x mX8_opens 5 200 [(0, .ref a0), (1, .int x1), (2, .int x2), (3, .int x3), (4, .int x4), (5, .int x5)] [.int r22] h21 rc rs n0 Q X
        refine g_iload_n dX8_opens_200 rfl 2 rfl ?_
        refine g_icmp_ne (tgt := 291) dX8_opens_201 (by decide) (fun c23 => ?_) (fun c23 => ?_)
        · replace K := K.1 c23
          refine g_iinc (v := (x5 + 1)) (lv' := [(0, .ref a0), (1, .int x1), (2, .int x2), (3, .int x3), (4, .int x4), (5, .int (x5 + 1))]) dX8_opens_291 5 rfl (by rfl) (by decide) rfl ?_
          refine g_goto (tgt := 162) dX8_opens_294 (by decide) ?_
          exact K
        · replace K := K.2 c23
          refine g_aload_n dX8_opens_204 rfl 0 rfl ?_
          refine g_iload dX8_opens_205 5 rfl ?_
          obtain ⟨e26, K⟩ := K
          obtain ⟨q24, C25, K⟩ := K
          refine g_callV (M' := mX8_wayOf) (b := a0) (As := [.int x5]) (rest := []) (rc' := rc) (rs' := rs) dX8_opens_207 bw_1425 bw_1427 bs_55 bw_9 bw_1428 ⟨by decide +kernel, by decide +kernel, show (parseMethodDescriptor mX8_wayOf.1.desc).map (fun d => d.parameters.length) = some 1 by decide +kernel⟩ (by decide) (by decide) (Nat.le_of_ble_eq_true rfl) fc_8 (by decide) rfl e26 C25 (Nat.le_of_eq (Nat.add_zero _)) (Nat.le_of_eq (Nat.add_zero _)) (fun _ _ h => h) ?_
          rintro _ h27 ⟨r28, rfl, K1⟩ -
          replace K := K r28 h27 K1
          show Gm l x mX8_opens 5 210 [(0, .ref a0), (1, .int x1), (2, .int x2), (3, .int x3), (4, .int x4), (5, .int x5)] [.int r28] h27 rc rs n0 Q X
          refine g_iload_n dX8_opens_210 rfl 3 rfl ?_
          refine g_icmp_ne (tgt := 291) dX8_opens_211 (by decide) (fun c29 => ?_) (fun c29 => ?_)
          · replace K := K.1 c29
            refine g_iinc (v := (x5 + 1)) (lv' := [(0, .ref a0), (1, .int x1), (2, .int x2), (3, .int x3), (4, .int x4), (5, .int (x5 + 1))]) dX8_opens_291 5 rfl (by rfl) (by decide) rfl ?_
            refine g_goto (tgt := 162) dX8_opens_294 (by decide) ?_
            exact K
          · replace K := K.2 c29
            refine g_aload_n dX8_opens_214 rfl 0 rfl ?_
            refine g_iload_n dX8_opens_215 rfl 1 rfl ?_
            refine g_aload_n dX8_opens_216 rfl 0 rfl ?_
            refine g_iload dX8_opens_217 5 rfl ?_
            refine g_iconst (v := 0) dX8_opens_219 (by decide) ?_
            obtain ⟨e32, K⟩ := K
            obtain ⟨q30, C31, K⟩ := K
            refine g_callV (M' := mX8_of) (b := a0) (As := [.int x5, .int 0]) (rest := [.int x1, .ref a0]) (rc' := rc) (rs' := rs) dX8_opens_220 bw_1413 bw_1415 bs_52 bw_9 bw_1416 ⟨by decide +kernel, by decide +kernel, show (parseMethodDescriptor mX8_of.1.desc).map (fun d => d.parameters.length) = some 2 by decide +kernel⟩ (by decide) (by decide) (Nat.le_of_ble_eq_true rfl) fc_8 (by decide) rfl e32 C31 (Nat.le_of_eq (Nat.add_zero _)) (Nat.le_of_eq (Nat.add_zero _)) (fun _ _ h => h) ?_
            rintro _ h33 ⟨r34, rfl, K1⟩ -
            replace K := K r34 h33 K1
            show Gm l x mX8_opens 5 223 [(0, .ref a0), (1, .int x1), (2, .int x2), (3, .int x3), (4, .int x4), (5, .int x5)] [.int r34, .int x1, .ref a0] h33 rc rs n0 Q X
            obtain ⟨e37, K⟩ := K
            obtain ⟨q35, C36, K⟩ := K
            refine g_callV (M' := mX8_takes) (b := a0) (As := [.int x1, .int r34]) (rest := []) (rc' := rc) (rs' := rs) dX8_opens_223 bw_1485 bw_1487 bs_69 bw_9 bw_1488 ⟨by decide +kernel, by decide +kernel, show (parseMethodDescriptor mX8_takes.1.desc).map (fun d => d.parameters.length) = some 2 by decide +kernel⟩ (by decide) (by decide) (Nat.le_of_ble_eq_true rfl) fc_8 (by decide) rfl e37 C36 (Nat.le_of_eq (Nat.add_zero _)) (Nat.le_of_eq (Nat.add_zero _)) (fun _ _ h => h) ?_
            rintro _ h38 ⟨r39, rfl, K1⟩ -
            replace K := K r39 h38 K1
            show Gm l x mX8_opens 5 226 [(0, .ref a0), (1, .int x1), (2, .int x2), (3, .int x3), (4, .int x4), (5, .int x5)] [.int r39] h38 rc rs n0 Q X
            refine g_if_ne (tgt := 232) dX8_opens_226 (by decide) (fun c40 => ?_) (fun c40 => ?_)
            · replace K := K.1 c40
              refine g_aload_n dX8_opens_232 rfl 0 rfl ?_
              refine g_iload_n dX8_opens_233 rfl 1 rfl ?_
              refine g_iconst (v := 3) dX8_opens_234 (by decide) ?_
              refine g_aload_n dX8_opens_235 rfl 0 rfl ?_
              refine g_iload_n dX8_opens_236 rfl 1 rfl ?_
              refine g_iconst (v := 3) dX8_opens_237 (by decide) ?_
              obtain ⟨e43, K⟩ := K
              obtain ⟨q41, C42, K⟩ := K
              refine g_callV (M' := mX8_carOf) (b := a0) (As := [.int x1, .int 3]) (rest := [.int 3, .int x1, .ref a0]) (rc' := rc) (rs' := rs) dX8_opens_238 bw_1476 bw_1478 bs_67 bw_9 bw_1479 ⟨by decide +kernel, by decide +kernel, show (parseMethodDescriptor mX8_carOf.1.desc).map (fun d => d.parameters.length) = some 2 by decide +kernel⟩ (by decide) (by decide) (Nat.le_of_ble_eq_true rfl) fc_8 (by decide) rfl e43 C42 (Nat.le_of_eq (Nat.add_zero _)) (Nat.le_of_eq (Nat.add_zero _)) (fun _ _ h => h) ?_
              rintro _ h44 ⟨r45, rfl, K1⟩ -
              replace K := K r45 h44 K1
              show Gm l x mX8_opens 5 241 [(0, .ref a0), (1, .int x1), (2, .int x2), (3, .int x3), (4, .int x4), (5, .int x5)] [.int r45, .int 3, .int x1, .ref a0] h44 rc rs n0 Q X
              refine g_iconst (v := 1) dX8_opens_241 (by decide) ?_
              refine g_iload dX8_opens_242 5 rfl ?_
              refine g_ishl dX8_opens_244 ?_
              refine g_ior dX8_opens_245 ?_
              obtain ⟨e48, K⟩ := K
              obtain ⟨q46, C47, K⟩ := K
              refine g_callV (M' := mX8_putCar) (b := a0) (As := [.int x1, .int 3, .int (r45 ||| (1 <<< ((x5 : Int32) &&& 31)))]) (rest := []) (rc' := rc) (rs' := rs) dX8_opens_246 bw_1190 bw_1192 bs_37 bw_9 bw_1193 ⟨by decide +kernel, by decide +kernel, show (parseMethodDescriptor mX8_putCar.1.desc).map (fun d => d.parameters.length) = some 3 by decide +kernel⟩ (by decide) (by decide) (Nat.le_of_ble_eq_true rfl) fc_8 (by decide) rfl e48 C47 (Nat.le_of_eq (Nat.add_zero _)) (Nat.le_of_eq (Nat.add_zero _)) (fun _ _ h => h) ?_
              rintro _ h49 ⟨rfl, K1⟩ -
              replace K := K h49 K1
              show Gm l x mX8_opens 5 249 [(0, .ref a0), (1, .int x1), (2, .int x2), (3, .int x3), (4, .int x4), (5, .int x5)] [] h49 rc rs n0 Q X
              refine g_aload_n dX8_opens_249 rfl 0 rfl ?_
              refine g_iload dX8_opens_250 5 rfl ?_
              refine g_iconst (v := 4) dX8_opens_252 (by decide) ?_
              refine g_iconst (v := 2) dX8_opens_253 (by decide) ?_
              obtain ⟨e52, K⟩ := K
              obtain ⟨q50, C51, K⟩ := K
              refine g_callV (M' := mX8_put) (b := a0) (As := [.int x5, .int 4, .int 2]) (rest := []) (rc' := rc) (rs' := rs) dX8_opens_254 bw_1194 bw_1196 bs_38 bw_9 bw_1197 ⟨by decide +kernel, by decide +kernel, show (parseMethodDescriptor mX8_put.1.desc).map (fun d => d.parameters.length) = some 3 by decide +kernel⟩ (by decide) (by decide) (Nat.le_of_ble_eq_true rfl) fc_8 (by decide) rfl e52 C51 (Nat.le_of_eq (Nat.add_zero _)) (Nat.le_of_eq (Nat.add_zero _)) (fun _ _ h => h) ?_
              rintro _ h53 ⟨rfl, K1⟩ -
              replace K := K h53 K1
              show Gm l x mX8_opens 5 257 [(0, .ref a0), (1, .int x1), (2, .int x2), (3, .int x3), (4, .int x4), (5, .int x5)] [] h53 rc rs n0 Q X
              refine g_aload_n dX8_opens_257 rfl 0 rfl ?_
              refine g_iload dX8_opens_258 5 rfl ?_
              refine g_iconst (v := 5) dX8_opens_260 (by decide) ?_
              refine g_iload_n dX8_opens_261 rfl 1 rfl ?_
              obtain ⟨e56, K⟩ := K
              obtain ⟨q54, C55, K⟩ := K
              refine g_callV (M' := mX8_put) (b := a0) (As := [.int x5, .int 5, .int x1]) (rest := []) (rc' := rc) (rs' := rs) dX8_opens_262 bw_1194 bw_1196 bs_38 bw_9 bw_1197 ⟨by decide +kernel, by decide +kernel, show (parseMethodDescriptor mX8_put.1.desc).map (fun d => d.parameters.length) = some 3 by decide +kernel⟩ (by decide) (by decide) (Nat.le_of_ble_eq_true rfl) fc_8 (by decide) rfl e56 C55 (Nat.le_of_eq (Nat.add_zero _)) (Nat.le_of_eq (Nat.add_zero _)) (fun _ _ h => h) ?_
              rintro _ h57 ⟨rfl, K1⟩ -
              replace K := K h57 K1
              show Gm l x mX8_opens 5 265 [(0, .ref a0), (1, .int x1), (2, .int x2), (3, .int x3), (4, .int x4), (5, .int x5)] [] h57 rc rs n0 Q X
              refine g_aload_n dX8_opens_265 rfl 0 rfl ?_
              refine g_iload dX8_opens_266 5 rfl ?_
              refine g_bipush (v := 8) dX8_opens_268 (by decide) ?_
              obtain ⟨e60, K⟩ := K
              obtain ⟨q58, C59, K⟩ := K
              refine g_callV (M' := mX8_of) (b := a0) (As := [.int x5, .int 8]) (rest := []) (rc' := rc) (rs' := rs) dX8_opens_270 bw_1413 bw_1415 bs_52 bw_9 bw_1416 ⟨by decide +kernel, by decide +kernel, show (parseMethodDescriptor mX8_of.1.desc).map (fun d => d.parameters.length) = some 2 by decide +kernel⟩ (by decide) (by decide) (Nat.le_of_ble_eq_true rfl) fc_8 (by decide) rfl e60 C59 (Nat.le_of_eq (Nat.add_zero _)) (Nat.le_of_eq (Nat.add_zero _)) (fun _ _ h => h) ?_
              rintro _ h61 ⟨r62, rfl, K1⟩ -
              replace K := K r62 h61 K1
              show Gm l x mX8_opens 5 273 [(0, .ref a0), (1, .int x1), (2, .int x2), (3, .int x3), (4, .int x4), (5, .int x5)] [.int r62] h61 rc rs n0 Q X
              refine g_iconst (v := (-1)) dX8_opens_273 (by decide) ?_
              refine g_icmp_ne (tgt := 291) dX8_opens_274 (by decide) (fun c63 => ?_) (fun c63 => ?_)
              · replace K := K.1 c63
                refine g_iinc (v := (x5 + 1)) (lv' := [(0, .ref a0), (1, .int x1), (2, .int x2), (3, .int x3), (4, .int x4), (5, .int (x5 + 1))]) dX8_opens_291 5 rfl (by rfl) (by decide) rfl ?_
                refine g_goto (tgt := 162) dX8_opens_294 (by decide) ?_
                exact K
              · replace K := K.2 c63
                refine g_aload_n dX8_opens_277 rfl 0 rfl ?_
                refine g_iload dX8_opens_278 5 rfl ?_
                refine g_bipush (v := 8) dX8_opens_280 (by decide) ?_
                refine g_aload_n dX8_opens_282 rfl 0 rfl ?_
                obtain ⟨e64, b65, e66, K⟩ := K
                refine g_get (c := 8) (k := 2) (v := .ref b65) dX8_opens_283 fc_8 (by decide) (by decide) bw_1200 (congrArg pr e66) e64 ?_
                refine g_iconst (v := 0) dX8_opens_286 (by decide) ?_
                obtain ⟨e67, e68, K⟩ := K
                refine g_iald dX8_opens_287 e67 e68 ?_
                obtain ⟨q69, C70, K⟩ := K
                refine g_callV (M' := mX8_put) (b := a0) (As := [.int x5, .int 8, .int (hI h61 b65 (Int32.toNatClampNeg 0))]) (rest := []) (rc' := rc) (rs' := rs) dX8_opens_288 bw_1194 bw_1196 bs_38 bw_9 bw_1197 ⟨by decide +kernel, by decide +kernel, show (parseMethodDescriptor mX8_put.1.desc).map (fun d => d.parameters.length) = some 3 by decide +kernel⟩ (by decide) (by decide) (Nat.le_of_ble_eq_true rfl) fc_8 (by decide) rfl e64 C70 (Nat.le_of_eq (Nat.add_zero _)) (Nat.le_of_eq (Nat.add_zero _)) (fun _ _ h => h) ?_
                rintro _ h71 ⟨rfl, K1⟩ -
                replace K := K h71 K1
                show Gm l x mX8_opens 5 291 [(0, .ref a0), (1, .int x1), (2, .int x2), (3, .int x3), (4, .int x4), (5, .int x5)] [] h71 rc rs n0 Q X
                refine g_iinc (v := (x5 + 1)) (lv' := [(0, .ref a0), (1, .int x1), (2, .int x2), (3, .int x3), (4, .int x4), (5, .int (x5 + 1))]) dX8_opens_291 5 rfl (by rfl) (by decide) rfl ?_
                refine g_goto (tgt := 162) dX8_opens_294 (by decide) ?_
                exact K
            · replace K := K.2 c40
              refine g_goto (tgt := 291) dX8_opens_229 (by decide) ?_
              refine g_iinc (v := (x5 + 1)) (lv' := [(0, .ref a0), (1, .int x1), (2, .int x2), (3, .int x3), (4, .int x4), (5, .int (x5 + 1))]) dX8_opens_291 5 rfl (by rfl) (by decide) rfl ?_
              refine g_goto (tgt := 162) dX8_opens_294 (by decide) ?_
              exact K
set_option maxRecDepth 20000 in
set_option maxHeartbeats 4000000 in
theorem vX8_opens_300 {l : Launch} {x : CX} {a0 : Nat} {x1 : Int32} {x2 : Int32} {x4 : Int32} {x3 : Int32} {x5 : Int32} {h : PH} {rc rs n0 : Nat} {Q : Option Value → PH → Prop} {X : String → PH → Prop}
    (K : ((3 ≤ x5 → ((hK h a0).1 = 8) ∧ ∃ (q2 : Int32 → PH → Prop), CI l x mX8_tells 0 0 0 [.ref a0, .int 3] h q2 ∧ ∀ (r6 : Int32) (h5 : PH), q2 r6 h5 → ((hK h5 a0).1 = 8) ∧ ∃ (q7 : PH → Prop), CV l x mX8_putCar 0 0 0 [.ref a0, .int x1, .int 2, .int r6] h5 q7 ∧ ∀ (h10 : PH), q7 h10 → ((hK h10 a0).1 = 8) ∧ ∃ (q11 : PH → Prop), CV l x mX8_works 2 0 0 [.ref a0, .int x1, .float 1053609165] h10 q11 ∧ ∀ (h14 : PH), q11 h14 → Q none h14) ∧ (¬ 3 ≤ x5 → ((x3 = 0 → ((hK h a0).1 = 8) ∧ ∃ (q16 : Int32 → PH → Prop), CI l x mX8_tells 0 0 0 [.ref a0, .int 3] h q16 ∧ ∀ (r20 : Int32) (h19 : PH), q16 r20 h19 → ((hK h19 a0).1 = 8) ∧ ∃ (q21 : PH → Prop), CV l x mX8_putCar 0 0 0 [.ref a0, .int x1, .int 2, .int r20] h19 q21 ∧ ∀ (h24 : PH), q21 h24 → ((hK h24 a0).1 = 8) ∧ ∃ (q25 : PH → Prop), CV l x mX8_works 2 0 0 [.ref a0, .int x1, .float 1053609165] h24 q25 ∧ ∀ (h28 : PH), q25 h28 → Q none h28) ∧ (¬ x3 = 0 → ((hK h a0).1 = 8) ∧ ∃ (q29 : Int32 → PH → Prop), CI l x mX8_takes 0 0 0 [.ref a0, .int x1, .int x5] h q29 ∧ ∀ (r33 : Int32) (h32 : PH), q29 r33 h32 → ((r33 = 0 → Gm l x mX8_opens 5 300 [(0, .ref a0), (1, .int x1), (2, .int x2), (3, .int x3), (4, .int x4), (5, .int (x5 + 1))] [] h32 rc rs n0 Q X) ∧ (¬ r33 = 0 → ((hK h32 a0).1 = 8) ∧ ∃ b36, (hR h32 a0 2 = some b36) ∧ ∃ (q38 : Int32 → PH → Prop), CI l x mX8_callAt 0 0 0 [.int x2, .int x3, .int x5] h32 q38 ∧ ∀ (r41 : Int32) (h40 : PH), q38 r41 h40 → ((hK h40 b36).1 = 100) ∧ (vp_in r41 (hK h40 b36).2) ∧ Gm l x mX8_opens 5 300 [(0, .ref a0), (1, .int x1), (2, .int x2), (3, .int x3), (4, .int x4), (5, .int (x5 + 1))] [] (sI h40 b36 r41.toNatClampNeg 0) rc rs n0 Q X))))))) :
    Gm l x mX8_opens 5 300 [(0, .ref a0), (1, .int x1), (2, .int x2), (3, .int x3), (4, .int x4), (5, .int x5)] [] h rc rs n0 Q X := by
  refine g_iload dX8_opens_300 5 rfl ?_
  refine g_iconst (v := 3) dX8_opens_302 (by decide) ?_
  refine g_icmp_ge (tgt := 339) dX8_opens_303 (by decide) (fun c1 => ?_) (fun c1 => ?_)
  · replace K := K.1 c1
    refine g_aload_n dX8_opens_339 rfl 0 rfl ?_
    refine g_iload_n dX8_opens_340 rfl 1 rfl ?_
    refine g_iconst (v := 2) dX8_opens_341 (by decide) ?_
    refine g_aload_n dX8_opens_342 rfl 0 rfl ?_
    refine g_iconst (v := 3) dX8_opens_343 (by decide) ?_
    obtain ⟨e4, K⟩ := K
    obtain ⟨q2, C3, K⟩ := K
    refine g_callV (M' := mX8_tells) (b := a0) (As := [.int 3]) (rest := [.int 2, .int x1, .ref a0]) (rc' := rc) (rs' := rs) dX8_opens_344 bw_1186 bw_1188 bs_36 bw_9 bw_1189 ⟨by decide +kernel, by decide +kernel, show (parseMethodDescriptor mX8_tells.1.desc).map (fun d => d.parameters.length) = some 1 by decide +kernel⟩ (by decide) (by decide) (Nat.le_of_ble_eq_true rfl) fc_8 (by decide) rfl e4 C3 (Nat.le_of_eq (Nat.add_zero _)) (Nat.le_of_eq (Nat.add_zero _)) (fun _ _ h => h) ?_
    rintro _ h5 ⟨r6, rfl, K1⟩ -
    replace K := K r6 h5 K1
    show Gm l x mX8_opens 5 347 [(0, .ref a0), (1, .int x1), (2, .int x2), (3, .int x3), (4, .int x4), (5, .int x5)] [.int r6, .int 2, .int x1, .ref a0] h5 rc rs n0 Q X
    obtain ⟨e9, K⟩ := K
    obtain ⟨q7, C8, K⟩ := K
    refine g_callV (M' := mX8_putCar) (b := a0) (As := [.int x1, .int 2, .int r6]) (rest := []) (rc' := rc) (rs' := rs) dX8_opens_347 bw_1190 bw_1192 bs_37 bw_9 bw_1193 ⟨by decide +kernel, by decide +kernel, show (parseMethodDescriptor mX8_putCar.1.desc).map (fun d => d.parameters.length) = some 3 by decide +kernel⟩ (by decide) (by decide) (Nat.le_of_ble_eq_true rfl) fc_8 (by decide) rfl e9 C8 (Nat.le_of_eq (Nat.add_zero _)) (Nat.le_of_eq (Nat.add_zero _)) (fun _ _ h => h) ?_
    rintro _ h10 ⟨rfl, K1⟩ -
    replace K := K h10 K1
    show Gm l x mX8_opens 5 350 [(0, .ref a0), (1, .int x1), (2, .int x2), (3, .int x3), (4, .int x4), (5, .int x5)] [] h10 rc rs n0 Q X
    refine g_aload_n dX8_opens_350 rfl 0 rfl ?_
    refine g_iload_n dX8_opens_351 rfl 1 rfl ?_
    refine g_ldcwf (v := 1053609165) dX8_opens_352 bw_1530 ?_
    obtain ⟨e13, K⟩ := K
    obtain ⟨q11, C12, K⟩ := K
    refine g_callV (M' := mX8_works) (b := a0) (As := [.int x1, .float 1053609165]) (rest := []) (rc' := rc) (rs' := rs) dX8_opens_355 bw_1531 bw_1533 bs_80 bw_9 bw_1534 ⟨by decide +kernel, by decide +kernel, show (parseMethodDescriptor mX8_works.1.desc).map (fun d => d.parameters.length) = some 2 by decide +kernel⟩ (by decide) (by decide) (Nat.le_of_ble_eq_true rfl) fc_8 (by decide) rfl e13 C12 (Nat.le_of_eq (Nat.add_zero _)) (Nat.le_of_eq (Nat.add_zero _)) (fun _ _ h => h) ?_
    rintro _ h14 ⟨rfl, K1⟩ -
    replace K := K h14 K1
    show Gm l x mX8_opens 5 358 [(0, .ref a0), (1, .int x1), (2, .int x2), (3, .int x3), (4, .int x4), (5, .int x5)] [] h14 rc rs n0 Q X
    exact g_vret dX8_opens_358 rfl K
  · replace K := K.2 c1
    refine g_iload_n dX8_opens_306 rfl 3 rfl ?_
    refine g_if_eq (tgt := 339) dX8_opens_307 (by decide) (fun c15 => ?_) (fun c15 => ?_)
    · replace K := K.1 c15
      refine g_aload_n dX8_opens_339 rfl 0 rfl ?_
      refine g_iload_n dX8_opens_340 rfl 1 rfl ?_
      refine g_iconst (v := 2) dX8_opens_341 (by decide) ?_
      refine g_aload_n dX8_opens_342 rfl 0 rfl ?_
      refine g_iconst (v := 3) dX8_opens_343 (by decide) ?_
      obtain ⟨e18, K⟩ := K
      obtain ⟨q16, C17, K⟩ := K
      refine g_callV (M' := mX8_tells) (b := a0) (As := [.int 3]) (rest := [.int 2, .int x1, .ref a0]) (rc' := rc) (rs' := rs) dX8_opens_344 bw_1186 bw_1188 bs_36 bw_9 bw_1189 ⟨by decide +kernel, by decide +kernel, show (parseMethodDescriptor mX8_tells.1.desc).map (fun d => d.parameters.length) = some 1 by decide +kernel⟩ (by decide) (by decide) (Nat.le_of_ble_eq_true rfl) fc_8 (by decide) rfl e18 C17 (Nat.le_of_eq (Nat.add_zero _)) (Nat.le_of_eq (Nat.add_zero _)) (fun _ _ h => h) ?_
      rintro _ h19 ⟨r20, rfl, K1⟩ -
      replace K := K r20 h19 K1
      show Gm l x mX8_opens 5 347 [(0, .ref a0), (1, .int x1), (2, .int x2), (3, .int x3), (4, .int x4), (5, .int x5)] [.int r20, .int 2, .int x1, .ref a0] h19 rc rs n0 Q X
      obtain ⟨e23, K⟩ := K
      obtain ⟨q21, C22, K⟩ := K
      refine g_callV (M' := mX8_putCar) (b := a0) (As := [.int x1, .int 2, .int r20]) (rest := []) (rc' := rc) (rs' := rs) dX8_opens_347 bw_1190 bw_1192 bs_37 bw_9 bw_1193 ⟨by decide +kernel, by decide +kernel, show (parseMethodDescriptor mX8_putCar.1.desc).map (fun d => d.parameters.length) = some 3 by decide +kernel⟩ (by decide) (by decide) (Nat.le_of_ble_eq_true rfl) fc_8 (by decide) rfl e23 C22 (Nat.le_of_eq (Nat.add_zero _)) (Nat.le_of_eq (Nat.add_zero _)) (fun _ _ h => h) ?_
      rintro _ h24 ⟨rfl, K1⟩ -
      replace K := K h24 K1
      show Gm l x mX8_opens 5 350 [(0, .ref a0), (1, .int x1), (2, .int x2), (3, .int x3), (4, .int x4), (5, .int x5)] [] h24 rc rs n0 Q X
      refine g_aload_n dX8_opens_350 rfl 0 rfl ?_
      refine g_iload_n dX8_opens_351 rfl 1 rfl ?_
      refine g_ldcwf (v := 1053609165) dX8_opens_352 bw_1530 ?_
      obtain ⟨e27, K⟩ := K
      obtain ⟨q25, C26, K⟩ := K
      refine g_callV (M' := mX8_works) (b := a0) (As := [.int x1, .float 1053609165]) (rest := []) (rc' := rc) (rs' := rs) dX8_opens_355 bw_1531 bw_1533 bs_80 bw_9 bw_1534 ⟨by decide +kernel, by decide +kernel, show (parseMethodDescriptor mX8_works.1.desc).map (fun d => d.parameters.length) = some 2 by decide +kernel⟩ (by decide) (by decide) (Nat.le_of_ble_eq_true rfl) fc_8 (by decide) rfl e27 C26 (Nat.le_of_eq (Nat.add_zero _)) (Nat.le_of_eq (Nat.add_zero _)) (fun _ _ h => h) ?_
      rintro _ h28 ⟨rfl, K1⟩ -
      replace K := K h28 K1
      show Gm l x mX8_opens 5 358 [(0, .ref a0), (1, .int x1), (2, .int x2), (3, .int x3), (4, .int x4), (5, .int x5)] [] h28 rc rs n0 Q X
      exact g_vret dX8_opens_358 rfl K
    · replace K := K.2 c15
      refine g_aload_n dX8_opens_310 rfl 0 rfl ?_
      refine g_iload_n dX8_opens_311 rfl 1 rfl ?_
      refine g_iload dX8_opens_312 5 rfl ?_
      obtain ⟨e31, K⟩ := K
      obtain ⟨q29, C30, K⟩ := K
      refine g_callV (M' := mX8_takes) (b := a0) (As := [.int x1, .int x5]) (rest := []) (rc' := rc) (rs' := rs) dX8_opens_314 bw_1485 bw_1487 bs_69 bw_9 bw_1488 ⟨by decide +kernel, by decide +kernel, show (parseMethodDescriptor mX8_takes.1.desc).map (fun d => d.parameters.length) = some 2 by decide +kernel⟩ (by decide) (by decide) (Nat.le_of_ble_eq_true rfl) fc_8 (by decide) rfl e31 C30 (Nat.le_of_eq (Nat.add_zero _)) (Nat.le_of_eq (Nat.add_zero _)) (fun _ _ h => h) ?_
      rintro _ h32 ⟨r33, rfl, K1⟩ -
      replace K := K r33 h32 K1
      show Gm l x mX8_opens 5 317 [(0, .ref a0), (1, .int x1), (2, .int x2), (3, .int x3), (4, .int x4), (5, .int x5)] [.int r33] h32 rc rs n0 Q X
      refine g_if_eq (tgt := 333) dX8_opens_317 (by decide) (fun c34 => ?_) (fun c34 => ?_)
      · replace K := K.1 c34
        refine g_iinc (v := (x5 + 1)) (lv' := [(0, .ref a0), (1, .int x1), (2, .int x2), (3, .int x3), (4, .int x4), (5, .int (x5 + 1))]) dX8_opens_333 5 rfl (by rfl) (by decide) rfl ?_
        refine g_goto (tgt := 300) dX8_opens_336 (by decide) ?_
        exact K
      · replace K := K.2 c34
        refine g_aload_n dX8_opens_320 rfl 0 rfl ?_
        obtain ⟨e35, b36, e37, K⟩ := K
        refine g_get (c := 8) (k := 2) (v := .ref b36) dX8_opens_321 fc_8 (by decide) (by decide) bw_1200 (congrArg pr e37) e35 ?_
        refine g_iload_n dX8_opens_324 rfl 2 rfl ?_
        refine g_iload_n dX8_opens_325 rfl 3 rfl ?_
        refine g_iload dX8_opens_326 5 rfl ?_
        obtain ⟨q38, C39, K⟩ := K
        refine g_callS (M' := mX8_callAt) (As := [.int x2, .int x3, .int x5]) (rest := [.ref b36]) (rc' := rc) (rs' := rs) dX8_opens_328 bw_1469 bw_1470 bw_9 bw_1471 ⟨by decide +kernel, by decide +kernel, show (parseMethodDescriptor mX8_callAt.1.desc).map (fun d => d.parameters.length) = some 3 by decide +kernel⟩ (by decide) (by decide) (Nat.le_of_ble_eq_true rfl) C39 (Nat.le_of_eq (Nat.add_zero _)) (Nat.le_of_eq (Nat.add_zero _)) (fun _ _ h => h) ?_
        rintro _ h40 ⟨r41, rfl, K1⟩ -
        replace K := K r41 h40 K1
        show Gm l x mX8_opens 5 331 [(0, .ref a0), (1, .int x1), (2, .int x2), (3, .int x3), (4, .int x4), (5, .int x5)] [.int r41, .ref b36] h40 rc rs n0 Q X
        refine g_iconst (v := 0) dX8_opens_331 (by decide) ?_
        obtain ⟨e42, e43, K⟩ := K
        refine g_iast dX8_opens_332 e42 e43 ?_
        refine g_iinc (v := (x5 + 1)) (lv' := [(0, .ref a0), (1, .int x1), (2, .int x2), (3, .int x3), (4, .int x4), (5, .int (x5 + 1))]) dX8_opens_333 5 rfl (by rfl) (by decide) rfl ?_
        refine g_goto (tgt := 300) dX8_opens_336 (by decide) ?_
        exact K
theorem dX8_goes_0 : decode cX8_goes 0 = .ok (.aload_n 0, 1) := by decide +kernel
theorem dX8_goes_1 : decode cX8_goes 1 = .ok (.iload_n 1, 1) := by decide +kernel
theorem dX8_goes_2 : decode cX8_goes 2 = .ok (.iconst 0, 1) := by decide +kernel
theorem dX8_goes_3 : decode cX8_goes 3 = .ok (.invokevirtual 238, 3) := by decide +kernel
theorem dX8_goes_6 : decode cX8_goes 6 = .ok (.istore_n 2, 1) := by decide +kernel
theorem dX8_goes_7 : decode cX8_goes 7 = .ok (.aload_n 0, 1) := by decide +kernel
theorem dX8_goes_8 : decode cX8_goes 8 = .ok (.iload_n 1, 1) := by decide +kernel
theorem dX8_goes_9 : decode cX8_goes 9 = .ok (.iconst 1, 1) := by decide +kernel
theorem dX8_goes_10 : decode cX8_goes 10 = .ok (.invokevirtual 238, 3) := by decide +kernel
theorem dX8_goes_13 : decode cX8_goes 13 = .ok (.istore_n 3, 1) := by decide +kernel
theorem dX8_goes_14 : decode cX8_goes 14 = .ok (.iload_n 3, 1) := by decide +kernel
theorem dX8_goes_15 : decode cX8_goes 15 = .ok (.ifCond .eq 12, 3) := by decide +kernel
theorem dX8_goes_18 : decode cX8_goes 18 = .ok (.aload_n 0, 1) := by decide +kernel
theorem dX8_goes_19 : decode cX8_goes 19 = .ok (.iload_n 1, 1) := by decide +kernel
theorem dX8_goes_20 : decode cX8_goes 20 = .ok (.iload_n 3, 1) := by decide +kernel
theorem dX8_goes_21 : decode cX8_goes 21 = .ok (.invokevirtual 273, 3) := by decide +kernel
theorem dX8_goes_24 : decode cX8_goes 24 = .ok (.ifCond .ne 10, 3) := by decide +kernel
theorem dX8_goes_27 : decode cX8_goes 27 = .ok (.aload_n 0, 1) := by decide +kernel
theorem dX8_goes_28 : decode cX8_goes 28 = .ok (.iload_n 1, 1) := by decide +kernel
theorem dX8_goes_29 : decode cX8_goes 29 = .ok (.iload_n 3, 1) := by decide +kernel
theorem dX8_goes_30 : decode cX8_goes 30 = .ok (.invokevirtual 280, 3) := by decide +kernel
theorem dX8_goes_33 : decode cX8_goes 33 = .ok (.istore_n 3, 1) := by decide +kernel
theorem dX8_goes_34 : decode cX8_goes 34 = .ok (.aload_n 0, 1) := by decide +kernel
theorem dX8_goes_35 : decode cX8_goes 35 = .ok (.iload_n 1, 1) := by decide +kernel
theorem dX8_goes_36 : decode cX8_goes 36 = .ok (.iconst 1, 1) := by decide +kernel
theorem dX8_goes_37 : decode cX8_goes 37 = .ok (.iload_n 3, 1) := by decide +kernel
theorem dX8_goes_38 : decode cX8_goes 38 = .ok (.invokevirtual 221, 3) := by decide +kernel
theorem dX8_goes_41 : decode cX8_goes 41 = .ok (.iload_n 3, 1) := by decide +kernel
theorem dX8_goes_42 : decode cX8_goes 42 = .ok (.ifCond .eq 40, 3) := by decide +kernel
theorem dX8_goes_45 : decode cX8_goes 45 = .ok (.aload_n 0, 1) := by decide +kernel
theorem dX8_goes_46 : decode cX8_goes 46 = .ok (.iload_n 1, 1) := by decide +kernel
theorem dX8_goes_47 : decode cX8_goes 47 = .ok (.invokevirtual 246, 3) := by decide +kernel
theorem dX8_goes_50 : decode cX8_goes 50 = .ok (.ifCond .eq 23, 3) := by decide +kernel
theorem dX8_goes_53 : decode cX8_goes 53 = .ok (.aload_n 0, 1) := by decide +kernel
theorem dX8_goes_54 : decode cX8_goes 54 = .ok (.iload_n 1, 1) := by decide +kernel
theorem dX8_goes_55 : decode cX8_goes 55 = .ok (.iload_n 2, 1) := by decide +kernel
theorem dX8_goes_56 : decode cX8_goes 56 = .ok (.iload_n 3, 1) := by decide +kernel
theorem dX8_goes_57 : decode cX8_goes 57 = .ok (.invokevirtual 249, 3) := by decide +kernel
theorem dX8_goes_60 : decode cX8_goes 60 = .ok (.ifCond .eq 13, 3) := by decide +kernel
theorem dX8_goes_63 : decode cX8_goes 63 = .ok (.aload_n 0, 1) := by decide +kernel
theorem dX8_goes_64 : decode cX8_goes 64 = .ok (.getfield 29, 3) := by decide +kernel
theorem dX8_goes_67 : decode cX8_goes 67 = .ok (.iconst 5, 1) := by decide +kernel
theorem dX8_goes_68 : decode cX8_goes 68 = .ok (.dup2, 1) := by decide +kernel
theorem dX8_goes_69 : decode cX8_goes 69 = .ok (.iaload, 1) := by decide +kernel
theorem dX8_goes_70 : decode cX8_goes 70 = .ok (.iconst 1, 1) := by decide +kernel
theorem dX8_goes_71 : decode cX8_goes 71 = .ok (.iadd, 1) := by decide +kernel
theorem dX8_goes_72 : decode cX8_goes 72 = .ok (.iastore, 1) := by decide +kernel
theorem dX8_goes_73 : decode cX8_goes 73 = .ok (.aload_n 0, 1) := by decide +kernel
theorem dX8_goes_74 : decode cX8_goes 74 = .ok (.iload_n 1, 1) := by decide +kernel
theorem dX8_goes_75 : decode cX8_goes 75 = .ok (.iload_n 3, 1) := by decide +kernel
theorem dX8_goes_76 : decode cX8_goes 76 = .ok (.invokevirtual 291, 3) := by decide +kernel
theorem dX8_goes_79 : decode cX8_goes 79 = .ok (.goto 31, 3) := by decide +kernel
theorem dX8_goes_82 : decode cX8_goes 82 = .ok (.iload_n 2, 1) := by decide +kernel
theorem dX8_goes_83 : decode cX8_goes 83 = .ok (.aload_n 0, 1) := by decide +kernel
theorem dX8_goes_84 : decode cX8_goes 84 = .ok (.iload_n 1, 1) := by decide +kernel
theorem dX8_goes_85 : decode cX8_goes 85 = .ok (.invokevirtual 295, 3) := by decide +kernel
theorem dX8_goes_88 : decode cX8_goes 88 = .ok (.if_icmp .eq 22, 3) := by decide +kernel
theorem dX8_goes_91 : decode cX8_goes 91 = .ok (.aload_n 0, 1) := by decide +kernel
theorem dX8_goes_92 : decode cX8_goes 92 = .ok (.iload_n 1, 1) := by decide +kernel
theorem dX8_goes_93 : decode cX8_goes 93 = .ok (.iload_n 2, 1) := by decide +kernel
theorem dX8_goes_94 : decode cX8_goes 94 = .ok (.aload_n 0, 1) := by decide +kernel
theorem dX8_goes_95 : decode cX8_goes 95 = .ok (.iload_n 1, 1) := by decide +kernel
theorem dX8_goes_96 : decode cX8_goes 96 = .ok (.invokevirtual 295, 3) := by decide +kernel
theorem dX8_goes_99 : decode cX8_goes 99 = .ok (.if_icmp .ge 7, 3) := by decide +kernel
theorem dX8_goes_102 : decode cX8_goes 102 = .ok (.iconst 1, 1) := by decide +kernel
theorem dX8_goes_103 : decode cX8_goes 103 = .ok (.goto 4, 3) := by decide +kernel
theorem dX8_goes_106 : decode cX8_goes 106 = .ok (.iconst (-1), 1) := by decide +kernel
theorem dX8_goes_107 : decode cX8_goes 107 = .ok (.invokevirtual 291, 3) := by decide +kernel
theorem dX8_goes_110 : decode cX8_goes 110 = .ok (.return_, 1) := by decide +kernel
set_option maxRecDepth 20000 in
set_option maxHeartbeats 4000000 in
theorem vX8_goes_0 {l : Launch} {x : CX} {a0 : Nat} {x1 : Int32} {h : PH} {rc rs n0 : Nat} {Q : Option Value → PH → Prop} {X : String → PH → Prop}
    (K : ((hK h a0).1 = 8) ∧ ∃ (q1 : Int32 → PH → Prop), CI l x mX8_carOf 0 0 0 [.ref a0, .int x1, .int 0] h q1 ∧ ∀ (r5 : Int32) (h4 : PH), q1 r5 h4 → ((hK h4 a0).1 = 8) ∧ ∃ (q6 : Int32 → PH → Prop), CI l x mX8_carOf 0 0 0 [.ref a0, .int x1, .int 1] h4 q6 ∧ ∀ (r10 : Int32) (h9 : PH), q6 r10 h9 → ((r10 = 0 → ((hK h9 a0).1 = 8) ∧ ∃ (q12 : Int32 → PH → Prop), CI l x mX8_turned 4 0 0 [.ref a0, .int x1, .int r10] h9 q12 ∧ ∀ (r16 : Int32) (h15 : PH), q12 r16 h15 → Gm l x mX8_goes 5 34 [(0, .ref a0), (1, .int x1), (2, .int r5), (3, .int r16)] [] h15 rc rs n0 Q X) ∧ (¬ r10 = 0 → ((hK h9 a0).1 = 8) ∧ ∃ (q17 : Int32 → PH → Prop), CI l x mX8_isStop 3 0 0 [.ref a0, .int x1, .int r10] h9 q17 ∧ ∀ (r21 : Int32) (h20 : PH), q17 r21 h20 → ((¬ r21 = 0 → Gm l x mX8_goes 5 34 [(0, .ref a0), (1, .int x1), (2, .int r5), (3, .int r10)] [] h20 rc rs n0 Q X) ∧ (r21 = 0 → ((hK h20 a0).1 = 8) ∧ ∃ (q23 : Int32 → PH → Prop), CI l x mX8_turned 4 0 0 [.ref a0, .int x1, .int r10] h20 q23 ∧ ∀ (r27 : Int32) (h26 : PH), q23 r27 h26 → Gm l x mX8_goes 5 34 [(0, .ref a0), (1, .int x1), (2, .int r5), (3, .int r27)] [] h26 rc rs n0 Q X))))) :
    Gm l x mX8_goes 5 0 [(0, .ref a0), (1, .int x1)] [] h rc rs n0 Q X := by
  refine g_aload_n dX8_goes_0 rfl 0 rfl ?_
  refine g_iload_n dX8_goes_1 rfl 1 rfl ?_
  refine g_iconst (v := 0) dX8_goes_2 (by decide) ?_
  obtain ⟨e3, K⟩ := K
  obtain ⟨q1, C2, K⟩ := K
  refine g_callV (M' := mX8_carOf) (b := a0) (As := [.int x1, .int 0]) (rest := []) (rc' := rc) (rs' := rs) dX8_goes_3 bw_1476 bw_1478 bs_67 bw_9 bw_1479 ⟨by decide +kernel, by decide +kernel, show (parseMethodDescriptor mX8_carOf.1.desc).map (fun d => d.parameters.length) = some 2 by decide +kernel⟩ (by decide) (by decide) (Nat.le_of_ble_eq_true rfl) fc_8 (by decide) rfl e3 C2 (Nat.le_of_eq (Nat.add_zero _)) (Nat.le_of_eq (Nat.add_zero _)) (fun _ _ h => h) ?_
  rintro _ h4 ⟨r5, rfl, K1⟩ -
  replace K := K r5 h4 K1
  show Gm l x mX8_goes 5 6 [(0, .ref a0), (1, .int x1)] [.int r5] h4 rc rs n0 Q X
  refine g_istore_n (lv' := [(0, .ref a0), (1, .int x1), (2, .int r5)]) dX8_goes_6 rfl (by decide) rfl ?_
  refine g_aload_n dX8_goes_7 rfl 0 rfl ?_
  refine g_iload_n dX8_goes_8 rfl 1 rfl ?_
  refine g_iconst (v := 1) dX8_goes_9 (by decide) ?_
  obtain ⟨e8, K⟩ := K
  obtain ⟨q6, C7, K⟩ := K
  refine g_callV (M' := mX8_carOf) (b := a0) (As := [.int x1, .int 1]) (rest := []) (rc' := rc) (rs' := rs) dX8_goes_10 bw_1476 bw_1478 bs_67 bw_9 bw_1479 ⟨by decide +kernel, by decide +kernel, show (parseMethodDescriptor mX8_carOf.1.desc).map (fun d => d.parameters.length) = some 2 by decide +kernel⟩ (by decide) (by decide) (Nat.le_of_ble_eq_true rfl) fc_8 (by decide) rfl e8 C7 (Nat.le_of_eq (Nat.add_zero _)) (Nat.le_of_eq (Nat.add_zero _)) (fun _ _ h => h) ?_
  rintro _ h9 ⟨r10, rfl, K1⟩ -
  replace K := K r10 h9 K1
  show Gm l x mX8_goes 5 13 [(0, .ref a0), (1, .int x1), (2, .int r5)] [.int r10] h9 rc rs n0 Q X
  refine g_istore_n (lv' := [(0, .ref a0), (1, .int x1), (2, .int r5), (3, .int r10)]) dX8_goes_13 rfl (by decide) rfl ?_
  refine g_iload_n dX8_goes_14 rfl 3 rfl ?_
  refine g_if_eq (tgt := 27) dX8_goes_15 (by decide) (fun c11 => ?_) (fun c11 => ?_)
  · replace K := K.1 c11
    refine g_aload_n dX8_goes_27 rfl 0 rfl ?_
    refine g_iload_n dX8_goes_28 rfl 1 rfl ?_
    refine g_iload_n dX8_goes_29 rfl 3 rfl ?_
    obtain ⟨e14, K⟩ := K
    obtain ⟨q12, C13, K⟩ := K
    refine g_callV (M' := mX8_turned) (b := a0) (As := [.int x1, .int r10]) (rest := []) (rc' := rc) (rs' := rs) dX8_goes_30 bw_1526 bw_1528 bs_79 bw_9 bw_1529 ⟨by decide +kernel, by decide +kernel, show (parseMethodDescriptor mX8_turned.1.desc).map (fun d => d.parameters.length) = some 2 by decide +kernel⟩ (by decide) (by decide) (Nat.le_of_ble_eq_true rfl) fc_8 (by decide) rfl e14 C13 (Nat.le_of_eq (Nat.add_zero _)) (Nat.le_of_eq (Nat.add_zero _)) (fun _ _ h => h) ?_
    rintro _ h15 ⟨r16, rfl, K1⟩ -
    replace K := K r16 h15 K1
    show Gm l x mX8_goes 5 33 [(0, .ref a0), (1, .int x1), (2, .int r5), (3, .int r10)] [.int r16] h15 rc rs n0 Q X
    refine g_istore_n (lv' := [(0, .ref a0), (1, .int x1), (2, .int r5), (3, .int r16)]) dX8_goes_33 rfl (by decide) rfl ?_
    exact K
  · replace K := K.2 c11
    refine g_aload_n dX8_goes_18 rfl 0 rfl ?_
    refine g_iload_n dX8_goes_19 rfl 1 rfl ?_
    refine g_iload_n dX8_goes_20 rfl 3 rfl ?_
    obtain ⟨e19, K⟩ := K
    obtain ⟨q17, C18, K⟩ := K
    refine g_callV (M' := mX8_isStop) (b := a0) (As := [.int x1, .int r10]) (rest := []) (rc' := rc) (rs' := rs) dX8_goes_21 bw_1506 bw_1508 bs_74 bw_9 bw_1509 ⟨by decide +kernel, by decide +kernel, show (parseMethodDescriptor mX8_isStop.1.desc).map (fun d => d.parameters.length) = some 2 by decide +kernel⟩ (by decide) (by decide) (Nat.le_of_ble_eq_true rfl) fc_8 (by decide) rfl e19 C18 (Nat.le_of_eq (Nat.add_zero _)) (Nat.le_of_eq (Nat.add_zero _)) (fun _ _ h => h) ?_
    rintro _ h20 ⟨r21, rfl, K1⟩ -
    replace K := K r21 h20 K1
    show Gm l x mX8_goes 5 24 [(0, .ref a0), (1, .int x1), (2, .int r5), (3, .int r10)] [.int r21] h20 rc rs n0 Q X
    refine g_if_ne (tgt := 34) dX8_goes_24 (by decide) (fun c22 => ?_) (fun c22 => ?_)
    · replace K := K.1 c22
      exact K
    · replace K := K.2 c22
      refine g_aload_n dX8_goes_27 rfl 0 rfl ?_
      refine g_iload_n dX8_goes_28 rfl 1 rfl ?_
      refine g_iload_n dX8_goes_29 rfl 3 rfl ?_
      obtain ⟨e25, K⟩ := K
      obtain ⟨q23, C24, K⟩ := K
      refine g_callV (M' := mX8_turned) (b := a0) (As := [.int x1, .int r10]) (rest := []) (rc' := rc) (rs' := rs) dX8_goes_30 bw_1526 bw_1528 bs_79 bw_9 bw_1529 ⟨by decide +kernel, by decide +kernel, show (parseMethodDescriptor mX8_turned.1.desc).map (fun d => d.parameters.length) = some 2 by decide +kernel⟩ (by decide) (by decide) (Nat.le_of_ble_eq_true rfl) fc_8 (by decide) rfl e25 C24 (Nat.le_of_eq (Nat.add_zero _)) (Nat.le_of_eq (Nat.add_zero _)) (fun _ _ h => h) ?_
      rintro _ h26 ⟨r27, rfl, K1⟩ -
      replace K := K r27 h26 K1
      show Gm l x mX8_goes 5 33 [(0, .ref a0), (1, .int x1), (2, .int r5), (3, .int r10)] [.int r27] h26 rc rs n0 Q X
      refine g_istore_n (lv' := [(0, .ref a0), (1, .int x1), (2, .int r5), (3, .int r27)]) dX8_goes_33 rfl (by decide) rfl ?_
      exact K
set_option maxRecDepth 20000 in
set_option maxHeartbeats 4000000 in
theorem vX8_goes_34 {l : Launch} {x : CX} {a0 : Nat} {x1 : Int32} {x2 : Int32} {x3 : Int32} {h : PH} {rc rs n0 : Nat} {Q : Option Value → PH → Prop} {X : String → PH → Prop}
    (K : ((hK h a0).1 = 8) ∧ ∃ (q1 : PH → Prop), CV l x mX8_putCar 0 0 0 [.ref a0, .int x1, .int 1, .int x3] h q1 ∧ ∀ (h4 : PH), q1 h4 → ((x3 = 0 → ((hK h4 a0).1 = 8) ∧ ∃ (q6 : Int32 → PH → Prop), CI l x mX8_parks 2 0 0 [.ref a0, .int x1] h4 q6 ∧ ∀ (r10 : Int32) (h9 : PH), q6 r10 h9 → ((x2 = r10 → Q none h9) ∧ (¬ x2 = r10 → ((hK h9 a0).1 = 8) ∧ ∃ (q12 : Int32 → PH → Prop), CI l x mX8_parks 2 0 0 [.ref a0, .int x1] h9 q12 ∧ ∀ (r16 : Int32) (h15 : PH), q12 r16 h15 → ((hK h15 a0).1 = 8) ∧ ∃ (q18 : PH → Prop), CV l x mX8_moves 3 0 0 [.ref a0, .int x1, .int (if r16 ≤ x2 then (-1) else 1 : Int32)] h15 q18 ∧ ∀ (h21 : PH), q18 h21 → Q none h21))) ∧ (¬ x3 = 0 → ((hK h4 a0).1 = 8) ∧ ∃ (q22 : Int32 → PH → Prop), CI l x mX8_isFull 1 0 0 [.ref a0, .int x1] h4 q22 ∧ ∀ (r26 : Int32) (h25 : PH), q22 r26 h25 → ((r26 = 0 → ((hK h25 a0).1 = 8) ∧ ∃ (q28 : PH → Prop), CV l x mX8_moves 3 0 0 [.ref a0, .int x1, .int x3] h25 q28 ∧ ∀ (h31 : PH), q28 h31 → Q none h31) ∧ (¬ r26 = 0 → ((hK h25 a0).1 = 8) ∧ ∃ (q32 : Int32 → PH → Prop), CI l x mX8_hasCall 1 0 0 [.ref a0, .int x1, .int x2, .int x3] h25 q32 ∧ ∀ (r36 : Int32) (h35 : PH), q32 r36 h35 → ((r36 = 0 → ((hK h35 a0).1 = 8) ∧ ∃ (q38 : PH → Prop), CV l x mX8_moves 3 0 0 [.ref a0, .int x1, .int x3] h35 q38 ∧ ∀ (h41 : PH), q38 h41 → Q none h41) ∧ (¬ r36 = 0 → ((hK h35 a0).1 = 8) ∧ ∃ b43, (hR h35 a0 2 = some b43) ∧ ((hK h35 b43).1 = 100) ∧ (vp_in 5 (hK h35 b43).2) ∧ (vp_in 5 (hK h35 b43).2) ∧ ∃ (q48 : PH → Prop), CV l x mX8_moves 3 0 0 [.ref a0, .int x1, .int x3] (sI h35 b43 (Int32.toNatClampNeg 5) ((hI h35 b43 (Int32.toNatClampNeg 5)) + 1)) q48 ∧ ∀ (h50 : PH), q48 h50 → Q none h50))))))) :
    Gm l x mX8_goes 5 34 [(0, .ref a0), (1, .int x1), (2, .int x2), (3, .int x3)] [] h rc rs n0 Q X := by
  refine g_aload_n dX8_goes_34 rfl 0 rfl ?_
  refine g_iload_n dX8_goes_35 rfl 1 rfl ?_
  refine g_iconst (v := 1) dX8_goes_36 (by decide) ?_
  refine g_iload_n dX8_goes_37 rfl 3 rfl ?_
  obtain ⟨e3, K⟩ := K
  obtain ⟨q1, C2, K⟩ := K
  refine g_callV (M' := mX8_putCar) (b := a0) (As := [.int x1, .int 1, .int x3]) (rest := []) (rc' := rc) (rs' := rs) dX8_goes_38 bw_1190 bw_1192 bs_37 bw_9 bw_1193 ⟨by decide +kernel, by decide +kernel, show (parseMethodDescriptor mX8_putCar.1.desc).map (fun d => d.parameters.length) = some 3 by decide +kernel⟩ (by decide) (by decide) (Nat.le_of_ble_eq_true rfl) fc_8 (by decide) rfl e3 C2 (Nat.le_of_eq (Nat.add_zero _)) (Nat.le_of_eq (Nat.add_zero _)) (fun _ _ h => h) ?_
  rintro _ h4 ⟨rfl, K1⟩ -
  replace K := K h4 K1
  show Gm l x mX8_goes 5 41 [(0, .ref a0), (1, .int x1), (2, .int x2), (3, .int x3)] [] h4 rc rs n0 Q X
  refine g_iload_n dX8_goes_41 rfl 3 rfl ?_
  refine g_if_eq (tgt := 82) dX8_goes_42 (by decide) (fun c5 => ?_) (fun c5 => ?_)
  · replace K := K.1 c5
    refine g_iload_n dX8_goes_82 rfl 2 rfl ?_
    refine g_aload_n dX8_goes_83 rfl 0 rfl ?_
    refine g_iload_n dX8_goes_84 rfl 1 rfl ?_
    obtain ⟨e8, K⟩ := K
    obtain ⟨q6, C7, K⟩ := K
    refine g_callV (M' := mX8_parks) (b := a0) (As := [.int x1]) (rest := [.int x2]) (rc' := rc) (rs' := rs) dX8_goes_85 bw_1560 bw_1562 bs_83 bw_9 bw_1563 ⟨by decide +kernel, by decide +kernel, show (parseMethodDescriptor mX8_parks.1.desc).map (fun d => d.parameters.length) = some 1 by decide +kernel⟩ (by decide) (by decide) (Nat.le_of_ble_eq_true rfl) fc_8 (by decide) rfl e8 C7 (Nat.le_of_eq (Nat.add_zero _)) (Nat.le_of_eq (Nat.add_zero _)) (fun _ _ h => h) ?_
    rintro _ h9 ⟨r10, rfl, K1⟩ -
    replace K := K r10 h9 K1
    show Gm l x mX8_goes 5 88 [(0, .ref a0), (1, .int x1), (2, .int x2), (3, .int x3)] [.int r10, .int x2] h9 rc rs n0 Q X
    refine g_icmp_eq (tgt := 110) dX8_goes_88 (by decide) (fun c11 => ?_) (fun c11 => ?_)
    · replace K := K.1 c11
      exact g_vret dX8_goes_110 rfl K
    · replace K := K.2 c11
      refine g_aload_n dX8_goes_91 rfl 0 rfl ?_
      refine g_iload_n dX8_goes_92 rfl 1 rfl ?_
      refine g_iload_n dX8_goes_93 rfl 2 rfl ?_
      refine g_aload_n dX8_goes_94 rfl 0 rfl ?_
      refine g_iload_n dX8_goes_95 rfl 1 rfl ?_
      obtain ⟨e14, K⟩ := K
      obtain ⟨q12, C13, K⟩ := K
      refine g_callV (M' := mX8_parks) (b := a0) (As := [.int x1]) (rest := [.int x2, .int x1, .ref a0]) (rc' := rc) (rs' := rs) dX8_goes_96 bw_1560 bw_1562 bs_83 bw_9 bw_1563 ⟨by decide +kernel, by decide +kernel, show (parseMethodDescriptor mX8_parks.1.desc).map (fun d => d.parameters.length) = some 1 by decide +kernel⟩ (by decide) (by decide) (Nat.le_of_ble_eq_true rfl) fc_8 (by decide) rfl e14 C13 (Nat.le_of_eq (Nat.add_zero _)) (Nat.le_of_eq (Nat.add_zero _)) (fun _ _ h => h) ?_
      rintro _ h15 ⟨r16, rfl, K1⟩ -
      replace K := K r16 h15 K1
      show Gm l x mX8_goes 5 99 [(0, .ref a0), (1, .int x1), (2, .int x2), (3, .int x3)] [.int r16, .int x2, .int x1, .ref a0] h15 rc rs n0 Q X
      have KJ : Gm l x mX8_goes 5 107 [(0, .ref a0), (1, .int x1), (2, .int x2), (3, .int x3)] [.int (if r16 ≤ x2 then (-1) else 1 : Int32), .int x1, .ref a0] h15 rc rs n0 Q X := by
        obtain ⟨e20, K⟩ := K
        obtain ⟨q18, C19, K⟩ := K
        refine g_callV (M' := mX8_moves) (b := a0) (As := [.int x1, .int (if r16 ≤ x2 then (-1) else 1 : Int32)]) (rest := []) (rc' := rc) (rs' := rs) dX8_goes_107 bw_1552 bw_1554 bs_82 bw_9 bw_1555 ⟨by decide +kernel, by decide +kernel, show (parseMethodDescriptor mX8_moves.1.desc).map (fun d => d.parameters.length) = some 2 by decide +kernel⟩ (by decide) (by decide) (Nat.le_of_ble_eq_true rfl) fc_8 (by decide) rfl e20 C19 (Nat.le_of_eq (Nat.add_zero _)) (Nat.le_of_eq (Nat.add_zero _)) (fun _ _ h => h) ?_
        rintro _ h21 ⟨rfl, K1⟩ -
        replace K := K h21 K1
        show Gm l x mX8_goes 5 110 [(0, .ref a0), (1, .int x1), (2, .int x2), (3, .int x3)] [] h21 rc rs n0 Q X
        exact g_vret dX8_goes_110 rfl K
      refine g_icmp_ge (tgt := 106) dX8_goes_99 (by decide) (fun c17 => ?_) (fun c17 => ?_)
      · refine g_iconst (v := (-1)) dX8_goes_106 (by decide) ?_
        first | (simp only [if_pos c17] at KJ; exact KJ) | (simp only [if_pos c17, ite_true, ite_false, eq_self] at KJ; exact KJ) | (simp only [if_pos c17] at KJ ⊢; exact KJ) | exact KJ
      · refine g_iconst (v := 1) dX8_goes_102 (by decide) ?_
        refine g_goto (tgt := 107) dX8_goes_103 (by decide) ?_
        first | (simp only [if_neg c17] at KJ; exact KJ) | (simp only [if_neg c17, ite_true, ite_false, eq_self] at KJ; exact KJ) | (simp only [if_neg c17] at KJ ⊢; exact KJ) | exact KJ
  · replace K := K.2 c5
    refine g_aload_n dX8_goes_45 rfl 0 rfl ?_
    refine g_iload_n dX8_goes_46 rfl 1 rfl ?_
    obtain ⟨e24, K⟩ := K
    obtain ⟨q22, C23, K⟩ := K
    refine g_callV (M' := mX8_isFull) (b := a0) (As := [.int x1]) (rest := []) (rc' := rc) (rs' := rs) dX8_goes_47 bw_1501 bw_1503 bs_73 bw_9 bw_1504 ⟨by decide +kernel, by decide +kernel, show (parseMethodDescriptor mX8_isFull.1.desc).map (fun d => d.parameters.length) = some 1 by decide +kernel⟩ (by decide) (by decide) (Nat.le_of_ble_eq_true rfl) fc_8 (by decide) rfl e24 C23 (Nat.le_of_eq (Nat.add_zero _)) (Nat.le_of_eq (Nat.add_zero _)) (fun _ _ h => h) ?_
    rintro _ h25 ⟨r26, rfl, K1⟩ -
    replace K := K r26 h25 K1
    show Gm l x mX8_goes 5 50 [(0, .ref a0), (1, .int x1), (2, .int x2), (3, .int x3)] [.int r26] h25 rc rs n0 Q X
    refine g_if_eq (tgt := 73) dX8_goes_50 (by decide) (fun c27 => ?_) (fun c27 => ?_)
    · replace K := K.1 c27
      refine g_aload_n dX8_goes_73 rfl 0 rfl ?_
      refine g_iload_n dX8_goes_74 rfl 1 rfl ?_
      refine g_iload_n dX8_goes_75 rfl 3 rfl ?_
      obtain ⟨e30, K⟩ := K
      obtain ⟨q28, C29, K⟩ := K
      refine g_callV (M' := mX8_moves) (b := a0) (As := [.int x1, .int x3]) (rest := []) (rc' := rc) (rs' := rs) dX8_goes_76 bw_1552 bw_1554 bs_82 bw_9 bw_1555 ⟨by decide +kernel, by decide +kernel, show (parseMethodDescriptor mX8_moves.1.desc).map (fun d => d.parameters.length) = some 2 by decide +kernel⟩ (by decide) (by decide) (Nat.le_of_ble_eq_true rfl) fc_8 (by decide) rfl e30 C29 (Nat.le_of_eq (Nat.add_zero _)) (Nat.le_of_eq (Nat.add_zero _)) (fun _ _ h => h) ?_
      rintro _ h31 ⟨rfl, K1⟩ -
      replace K := K h31 K1
      show Gm l x mX8_goes 5 79 [(0, .ref a0), (1, .int x1), (2, .int x2), (3, .int x3)] [] h31 rc rs n0 Q X
      refine g_goto (tgt := 110) dX8_goes_79 (by decide) ?_
      exact g_vret dX8_goes_110 rfl K
    · replace K := K.2 c27
      refine g_aload_n dX8_goes_53 rfl 0 rfl ?_
      refine g_iload_n dX8_goes_54 rfl 1 rfl ?_
      refine g_iload_n dX8_goes_55 rfl 2 rfl ?_
      refine g_iload_n dX8_goes_56 rfl 3 rfl ?_
      obtain ⟨e34, K⟩ := K
      obtain ⟨q32, C33, K⟩ := K
      refine g_callV (M' := mX8_hasCall) (b := a0) (As := [.int x1, .int x2, .int x3]) (rest := []) (rc' := rc) (rs' := rs) dX8_goes_57 bw_1514 bw_1516 bs_76 bw_9 bw_1517 ⟨by decide +kernel, by decide +kernel, show (parseMethodDescriptor mX8_hasCall.1.desc).map (fun d => d.parameters.length) = some 3 by decide +kernel⟩ (by decide) (by decide) (Nat.le_of_ble_eq_true rfl) fc_8 (by decide) rfl e34 C33 (Nat.le_of_eq (Nat.add_zero _)) (Nat.le_of_eq (Nat.add_zero _)) (fun _ _ h => h) ?_
      rintro _ h35 ⟨r36, rfl, K1⟩ -
      replace K := K r36 h35 K1
      show Gm l x mX8_goes 5 60 [(0, .ref a0), (1, .int x1), (2, .int x2), (3, .int x3)] [.int r36] h35 rc rs n0 Q X
      refine g_if_eq (tgt := 73) dX8_goes_60 (by decide) (fun c37 => ?_) (fun c37 => ?_)
      · replace K := K.1 c37
        refine g_aload_n dX8_goes_73 rfl 0 rfl ?_
        refine g_iload_n dX8_goes_74 rfl 1 rfl ?_
        refine g_iload_n dX8_goes_75 rfl 3 rfl ?_
        obtain ⟨e40, K⟩ := K
        obtain ⟨q38, C39, K⟩ := K
        refine g_callV (M' := mX8_moves) (b := a0) (As := [.int x1, .int x3]) (rest := []) (rc' := rc) (rs' := rs) dX8_goes_76 bw_1552 bw_1554 bs_82 bw_9 bw_1555 ⟨by decide +kernel, by decide +kernel, show (parseMethodDescriptor mX8_moves.1.desc).map (fun d => d.parameters.length) = some 2 by decide +kernel⟩ (by decide) (by decide) (Nat.le_of_ble_eq_true rfl) fc_8 (by decide) rfl e40 C39 (Nat.le_of_eq (Nat.add_zero _)) (Nat.le_of_eq (Nat.add_zero _)) (fun _ _ h => h) ?_
        rintro _ h41 ⟨rfl, K1⟩ -
        replace K := K h41 K1
        show Gm l x mX8_goes 5 79 [(0, .ref a0), (1, .int x1), (2, .int x2), (3, .int x3)] [] h41 rc rs n0 Q X
        refine g_goto (tgt := 110) dX8_goes_79 (by decide) ?_
        exact g_vret dX8_goes_110 rfl K
      · replace K := K.2 c37
        refine g_aload_n dX8_goes_63 rfl 0 rfl ?_
        obtain ⟨e42, b43, e44, K⟩ := K
        refine g_get (c := 8) (k := 2) (v := .ref b43) dX8_goes_64 fc_8 (by decide) (by decide) bw_1200 (congrArg pr e44) e42 ?_
        refine g_iconst (v := 5) dX8_goes_67 (by decide) ?_
        refine g_dup2 dX8_goes_68 rfl rfl ?_
        obtain ⟨e45, e46, K⟩ := K
        refine g_iald dX8_goes_69 e45 e46 ?_
        refine g_iconst (v := 1) dX8_goes_70 (by decide) ?_
        refine g_iadd dX8_goes_71 ?_
        obtain ⟨e47, K⟩ := K
        refine g_iast dX8_goes_72 e45 e47 ?_
        refine g_aload_n dX8_goes_73 rfl 0 rfl ?_
        refine g_iload_n dX8_goes_74 rfl 1 rfl ?_
        refine g_iload_n dX8_goes_75 rfl 3 rfl ?_
        obtain ⟨q48, C49, K⟩ := K
        refine g_callV (M' := mX8_moves) (b := a0) (As := [.int x1, .int x3]) (rest := []) (rc' := rc) (rs' := rs) dX8_goes_76 bw_1552 bw_1554 bs_82 bw_9 bw_1555 ⟨by decide +kernel, by decide +kernel, show (parseMethodDescriptor mX8_moves.1.desc).map (fun d => d.parameters.length) = some 2 by decide +kernel⟩ (by decide) (by decide) (Nat.le_of_ble_eq_true rfl) fc_8 (by decide) rfl (kkI e42) C49 (Nat.le_of_eq (Nat.add_zero _)) (Nat.le_of_eq (Nat.add_zero _)) (fun _ _ h => h) ?_
        rintro _ h50 ⟨rfl, K1⟩ -
        replace K := K h50 K1
        show Gm l x mX8_goes 5 79 [(0, .ref a0), (1, .int x1), (2, .int x2), (3, .int x3)] [] h50 rc rs n0 Q X
        refine g_goto (tgt := 110) dX8_goes_79 (by decide) ?_
        exact g_vret dX8_goes_110 rfl K
theorem dX8_is_0 : decode cX8_is 0 = .ok (.aload_n 0, 1) := by decide +kernel
theorem dX8_is_1 : decode cX8_is 1 = .ok (.getfield 146, 3) := by decide +kernel
theorem dX8_is_4 : decode cX8_is 4 = .ok (.ifCond .ne 31, 3) := by decide +kernel
theorem dX8_is_7 : decode cX8_is 7 = .ok (.aload_n 0, 1) := by decide +kernel
theorem dX8_is_8 : decode cX8_is 8 = .ok (.getfield 123, 3) := by decide +kernel
theorem dX8_is_11 : decode cX8_is 11 = .ok (.iconst 1, 1) := by decide +kernel
theorem dX8_is_12 : decode cX8_is 12 = .ok (.if_icmp .ne 23, 3) := by decide +kernel
theorem dX8_is_15 : decode cX8_is 15 = .ok (.aload_n 1, 1) := by decide +kernel
theorem dX8_is_16 : decode cX8_is 16 = .ok (.invokevirtual 152, 3) := by decide +kernel
theorem dX8_is_19 : decode cX8_is 19 = .ok (.aload_n 0, 1) := by decide +kernel
theorem dX8_is_20 : decode cX8_is 20 = .ok (.getfield 143, 3) := by decide +kernel
theorem dX8_is_23 : decode cX8_is 23 = .ok (.aload_n 0, 1) := by decide +kernel
theorem dX8_is_24 : decode cX8_is 24 = .ok (.getfield 120, 3) := by decide +kernel
theorem dX8_is_27 : decode cX8_is 27 = .ok (.isub, 1) := by decide +kernel
theorem dX8_is_28 : decode cX8_is 28 = .ok (.if_icmp .ne 7, 3) := by decide +kernel
theorem dX8_is_31 : decode cX8_is 31 = .ok (.iconst 1, 1) := by decide +kernel
theorem dX8_is_32 : decode cX8_is 32 = .ok (.goto 4, 3) := by decide +kernel
theorem dX8_is_35 : decode cX8_is 35 = .ok (.iconst 0, 1) := by decide +kernel
theorem dX8_is_36 : decode cX8_is 36 = .ok (.istore_n 2, 1) := by decide +kernel
theorem dX8_is_37 : decode cX8_is 37 = .ok (.iconst 0, 1) := by decide +kernel
theorem dX8_is_38 : decode cX8_is 38 = .ok (.istore_n 3, 1) := by decide +kernel
theorem dX8_is_39 : decode cX8_is 39 = .ok (.iload_n 2, 1) := by decide +kernel
theorem dX8_is_40 : decode cX8_is 40 = .ok (.ifCond .eq 42, 3) := by decide +kernel
theorem dX8_is_43 : decode cX8_is 43 = .ok (.iload_n 3, 1) := by decide +kernel
theorem dX8_is_44 : decode cX8_is 44 = .ok (.aload_n 1, 1) := by decide +kernel
theorem dX8_is_45 : decode cX8_is 45 = .ok (.invokevirtual 152, 3) := by decide +kernel
theorem dX8_is_48 : decode cX8_is 48 = .ok (.if_icmp .ge 34, 3) := by decide +kernel
theorem dX8_is_51 : decode cX8_is 51 = .ok (.aload_n 1, 1) := by decide +kernel
theorem dX8_is_52 : decode cX8_is 52 = .ok (.iload_n 3, 1) := by decide +kernel
theorem dX8_is_53 : decode cX8_is 53 = .ok (.invokevirtual 156, 3) := by decide +kernel
theorem dX8_is_56 : decode cX8_is 56 = .ok (.aload_n 0, 1) := by decide +kernel
theorem dX8_is_57 : decode cX8_is 57 = .ok (.getfield 54, 3) := by decide +kernel
theorem dX8_is_60 : decode cX8_is 60 = .ok (.aload_n 0, 1) := by decide +kernel
theorem dX8_is_61 : decode cX8_is 61 = .ok (.getfield 120, 3) := by decide +kernel
theorem dX8_is_64 : decode cX8_is 64 = .ok (.iload_n 3, 1) := by decide +kernel
theorem dX8_is_65 : decode cX8_is 65 = .ok (.iadd, 1) := by decide +kernel
theorem dX8_is_66 : decode cX8_is 66 = .ok (.iaload, 1) := by decide +kernel
theorem dX8_is_67 : decode cX8_is 67 = .ok (.if_icmp .ne 7, 3) := by decide +kernel
theorem dX8_is_70 : decode cX8_is 70 = .ok (.iconst 1, 1) := by decide +kernel
theorem dX8_is_71 : decode cX8_is 71 = .ok (.goto 4, 3) := by decide +kernel
theorem dX8_is_74 : decode cX8_is 74 = .ok (.iconst 0, 1) := by decide +kernel
theorem dX8_is_75 : decode cX8_is 75 = .ok (.istore_n 2, 1) := by decide +kernel
theorem dX8_is_76 : decode cX8_is 76 = .ok (.iinc 3 1, 3) := by decide +kernel
theorem dX8_is_79 : decode cX8_is 79 = .ok (.goto (-40), 3) := by decide +kernel
theorem dX8_is_82 : decode cX8_is 82 = .ok (.iload_n 2, 1) := by decide +kernel
theorem dX8_is_83 : decode cX8_is 83 = .ok (.ireturn, 1) := by decide +kernel
set_option maxRecDepth 20000 in
set_option maxHeartbeats 4000000 in
theorem vX8_is_0 {l : Launch} {x : CX} {a0 : Nat} {t1 : Nat} {h : PH} {rc rs n0 : Nat} {Q : Option Value → PH → Prop} {X : String → PH → Prop}
    (K : ((hK h a0).1 = 8) ∧ ((¬ (hI h a0 18) = 0 → Gm l x mX8_is 6 39 [(0, .ref a0), (1, .retAddr t1), (2, .int 0), (3, .int 0)] [] h rc rs n0 Q X) ∧ ((hI h a0 18) = 0 → ((¬ (hI h a0 14) = 1 → Gm l x mX8_is 6 39 [(0, .ref a0), (1, .retAddr t1), (2, .int 0), (3, .int 0)] [] h rc rs n0 Q X) ∧ ((hI h a0 14) = 1 → ∃ r4 : Int32, (StepT l x mX8_is 6 16 [.retAddr t1] [.int r4]) ∧ ∀ (y7 : Int32), y7 = (if r4 = ((hI h a0 17) - (hI h a0 16)) then 1 else 0 : Int32) → Gm l x mX8_is 6 39 [(0, .ref a0), (1, .retAddr t1), (2, .int y7), (3, .int 0)] [] h rc rs n0 Q X))))) :
    Gm l x mX8_is 6 0 [(0, .ref a0), (1, .retAddr t1)] [] h rc rs n0 Q X := by
  refine g_aload_n dX8_is_0 rfl 0 rfl ?_
  obtain ⟨e1, K⟩ := K
  refine g_get (c := 8) (k := 18) (v := .int (hI h a0 18)) dX8_is_1 fc_8 (by decide) (by decide) bw_1216 rfl e1 ?_
  refine g_if_ne (tgt := 35) dX8_is_4 (by decide) (fun c2 => ?_) (fun c2 => ?_)
  · replace K := K.1 c2
    refine g_iconst (v := 0) dX8_is_35 (by decide) ?_
    refine g_istore_n (lv' := [(0, .ref a0), (1, .retAddr t1), (2, .int 0)]) dX8_is_36 rfl (by decide) rfl ?_
    refine g_iconst (v := 0) dX8_is_37 (by decide) ?_
    refine g_istore_n (lv' := [(0, .ref a0), (1, .retAddr t1), (2, .int 0), (3, .int 0)]) dX8_is_38 rfl (by decide) rfl ?_
    exact K
  · replace K := K.2 c2
    refine g_aload_n dX8_is_7 rfl 0 rfl ?_
    refine g_get (c := 8) (k := 14) (v := .int (hI h a0 14)) dX8_is_8 fc_8 (by decide) (by decide) bw_1212 rfl e1 ?_
    refine g_iconst (v := 1) dX8_is_11 (by decide) ?_
    refine g_icmp_ne (tgt := 35) dX8_is_12 (by decide) (fun c3 => ?_) (fun c3 => ?_)
    · replace K := K.1 c3
      refine g_iconst (v := 0) dX8_is_35 (by decide) ?_
      refine g_istore_n (lv' := [(0, .ref a0), (1, .retAddr t1), (2, .int 0)]) dX8_is_36 rfl (by decide) rfl ?_
      refine g_iconst (v := 0) dX8_is_37 (by decide) ?_
      refine g_istore_n (lv' := [(0, .ref a0), (1, .retAddr t1), (2, .int 0), (3, .int 0)]) dX8_is_38 rfl (by decide) rfl ?_
      exact K
    · replace K := K.2 c3
      refine g_aload_nT dX8_is_15 rfl 1 rfl ?_
      obtain ⟨r4, z5, K⟩ := K
      refine z5 _ _ _ _ _ _ _ ?_
      refine g_aload_n dX8_is_19 rfl 0 rfl ?_
      refine g_get (c := 8) (k := 17) (v := .int (hI h a0 17)) dX8_is_20 fc_8 (by decide) (by decide) bw_1215 rfl e1 ?_
      refine g_aload_n dX8_is_23 rfl 0 rfl ?_
      refine g_get (c := 8) (k := 16) (v := .int (hI h a0 16)) dX8_is_24 fc_8 (by decide) (by decide) bw_1214 rfl e1 ?_
      refine g_isub dX8_is_27 ?_
      have KJ : Gm l x mX8_is 6 36 [(0, .ref a0), (1, .retAddr t1)] [.int (if r4 = ((hI h a0 17) - (hI h a0 16)) then 1 else 0 : Int32)] h rc rs n0 Q X := by
        refine g_nmI (fun y7 e8 => ?_)
        replace K := K y7 e8
        refine g_istore_n (lv' := [(0, .ref a0), (1, .retAddr t1), (2, .int y7)]) dX8_is_36 rfl (by decide) rfl ?_
        refine g_iconst (v := 0) dX8_is_37 (by decide) ?_
        refine g_istore_n (lv' := [(0, .ref a0), (1, .retAddr t1), (2, .int y7), (3, .int 0)]) dX8_is_38 rfl (by decide) rfl ?_
        exact K
      refine g_icmp_ne (tgt := 35) dX8_is_28 (by decide) (fun c6 => ?_) (fun c6 => ?_)
      · refine g_iconst (v := 0) dX8_is_35 (by decide) ?_
        first | (simp only [if_neg c6] at KJ; exact KJ) | (simp only [if_neg c6, ite_true, ite_false, eq_self] at KJ; exact KJ) | (simp only [if_neg c6] at KJ ⊢; exact KJ) | exact KJ
      · refine g_iconst (v := 1) dX8_is_31 (by decide) ?_
        refine g_goto (tgt := 36) dX8_is_32 (by decide) ?_
        first | (simp only [if_pos c6] at KJ; exact KJ) | (simp only [if_pos c6, ite_true, ite_false, eq_self] at KJ; exact KJ) | (simp only [if_pos c6] at KJ ⊢; exact KJ) | exact KJ
set_option maxRecDepth 20000 in
set_option maxHeartbeats 4000000 in
theorem vX8_is_39 {l : Launch} {x : CX} {a0 : Nat} {t1 : Nat} {x2 : Int32} {x3 : Int32} {h : PH} {rc rs n0 : Nat} {Q : Option Value → PH → Prop} {X : String → PH → Prop}
    (K : ((x2 = 0 → ((x2 : Int32) = 0 ∨ (x2 : Int32) = 1) ∧ Q (some (.int x2)) h) ∧ (¬ x2 = 0 → ∃ r2 : Int32, (StepT l x mX8_is 6 45 [.retAddr t1, .int x3] [.int r2, .int x3]) ∧ ((r2 ≤ x3 → ((x2 : Int32) = 0 ∨ (x2 : Int32) = 1) ∧ Q (some (.int x2)) h) ∧ (¬ r2 ≤ x3 → ∃ r5 : Int32, (StepT l x mX8_is 6 53 [.int x3, .retAddr t1] [.int r5]) ∧ ((hK h a0).1 = 8) ∧ ∃ b8, (hR h a0 10 = some b8) ∧ ((hK h b8).1 = 100) ∧ (vp_in ((hI h a0 16) + x3) (hK h b8).2) ∧ ∀ (y13 : Int32), y13 = (if r5 = (hI h b8 ((hI h a0 16) + x3).toNatClampNeg) then 1 else 0 : Int32) → Gm l x mX8_is 6 39 [(0, .ref a0), (1, .retAddr t1), (2, .int y13), (3, .int (x3 + 1))] [] h rc rs n0 Q X))))) :
    Gm l x mX8_is 6 39 [(0, .ref a0), (1, .retAddr t1), (2, .int x2), (3, .int x3)] [] h rc rs n0 Q X := by
  refine g_iload_n dX8_is_39 rfl 2 rfl ?_
  refine g_if_eq (tgt := 82) dX8_is_40 (by decide) (fun c1 => ?_) (fun c1 => ?_)
  · replace K := K.1 c1
    refine g_iload_n dX8_is_82 rfl 2 rfl ?_
    exact g_zret dX8_is_83 rfl K.1 K.2
  · replace K := K.2 c1
    refine g_iload_n dX8_is_43 rfl 3 rfl ?_
    refine g_aload_nT dX8_is_44 rfl 1 rfl ?_
    obtain ⟨r2, z3, K⟩ := K
    refine z3 _ _ _ _ _ _ _ ?_
    refine g_icmp_ge (tgt := 82) dX8_is_48 (by decide) (fun c4 => ?_) (fun c4 => ?_)
    · replace K := K.1 c4
      refine g_iload_n dX8_is_82 rfl 2 rfl ?_
      exact g_zret dX8_is_83 rfl K.1 K.2
    · replace K := K.2 c4
      refine g_aload_nT dX8_is_51 rfl 1 rfl ?_
      refine g_iload_n dX8_is_52 rfl 3 rfl ?_
      obtain ⟨r5, z6, K⟩ := K
      refine z6 _ _ _ _ _ _ _ ?_
      refine g_aload_n dX8_is_56 rfl 0 rfl ?_
      obtain ⟨e7, b8, e9, K⟩ := K
      refine g_get (c := 8) (k := 10) (v := .ref b8) dX8_is_57 fc_8 (by decide) (by decide) bw_1208 (congrArg pr e9) e7 ?_
      refine g_aload_n dX8_is_60 rfl 0 rfl ?_
      refine g_get (c := 8) (k := 16) (v := .int (hI h a0 16)) dX8_is_61 fc_8 (by decide) (by decide) bw_1214 rfl e7 ?_
      refine g_iload_n dX8_is_64 rfl 3 rfl ?_
      refine g_iadd dX8_is_65 ?_
      obtain ⟨e10, e11, K⟩ := K
      refine g_iald dX8_is_66 e10 e11 ?_
      have KJ : Gm l x mX8_is 6 75 [(0, .ref a0), (1, .retAddr t1), (2, .int x2), (3, .int x3)] [.int (if r5 = (hI h b8 ((hI h a0 16) + x3).toNatClampNeg) then 1 else 0 : Int32)] h rc rs n0 Q X := by
        refine g_nmI (fun y13 e14 => ?_)
        replace K := K y13 e14
        refine g_istore_n (lv' := [(0, .ref a0), (1, .retAddr t1), (2, .int y13), (3, .int x3)]) dX8_is_75 rfl (by decide) rfl ?_
        refine g_iinc (v := (x3 + 1)) (lv' := [(0, .ref a0), (1, .retAddr t1), (2, .int y13), (3, .int (x3 + 1))]) dX8_is_76 3 rfl (by rfl) (by decide) rfl ?_
        refine g_goto (tgt := 39) dX8_is_79 (by decide) ?_
        exact K
      refine g_icmp_ne (tgt := 74) dX8_is_67 (by decide) (fun c12 => ?_) (fun c12 => ?_)
      · refine g_iconst (v := 0) dX8_is_74 (by decide) ?_
        first | (simp only [if_neg c12] at KJ; exact KJ) | (simp only [if_neg c12, ite_true, ite_false, eq_self] at KJ; exact KJ) | (simp only [if_neg c12] at KJ ⊢; exact KJ) | exact KJ
      · refine g_iconst (v := 1) dX8_is_70 (by decide) ?_
        refine g_goto (tgt := 75) dX8_is_71 (by decide) ?_
        first | (simp only [if_pos c12] at KJ; exact KJ) | (simp only [if_pos c12, ite_true, ite_false, eq_self] at KJ; exact KJ) | (simp only [if_pos c12] at KJ ⊢; exact KJ) | exact KJ
