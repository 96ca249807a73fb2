/-! STEPS, printed by program: Bank2 -/
theorem dX1_settle_0 : decode cX1_settle 0 = .ok (.aload_n 0, 1) := by decide +kernel
theorem dX1_settle_1 : decode cX1_settle 1 = .ok (.getfield 54, 3) := by decide +kernel
theorem dX1_settle_4 : decode cX1_settle 4 = .ok (.iload_n 1, 1) := by decide +kernel
theorem dX1_settle_5 : decode cX1_settle 5 = .ok (.aaload, 1) := by decide +kernel
theorem dX1_settle_6 : decode cX1_settle 6 = .ok (.astore_n 2, 1) := by decide +kernel
theorem dX1_settle_7 : decode cX1_settle 7 = .ok (.iconst 0, 1) := by decide +kernel
theorem dX1_settle_8 : decode cX1_settle 8 = .ok (.istore_n 3, 1) := by decide +kernel
theorem dX1_settle_9 : decode cX1_settle 9 = .ok (.iload_n 3, 1) := by decide +kernel
theorem dX1_settle_10 : decode cX1_settle 10 = .ok (.aload_n 0, 1) := by decide +kernel
theorem dX1_settle_11 : decode cX1_settle 11 = .ok (.getfield 18, 3) := by decide +kernel
theorem dX1_settle_14 : decode cX1_settle 14 = .ok (.if_icmp .ge 55, 3) := by decide +kernel
theorem dX1_settle_17 : decode cX1_settle 17 = .ok (.aload_n 2, 1) := by decide +kernel
theorem dX1_settle_18 : decode cX1_settle 18 = .ok (.getfield 187, 3) := by decide +kernel
theorem dX1_settle_21 : decode cX1_settle 21 = .ok (.iload_n 3, 1) := by decide +kernel
theorem dX1_settle_22 : decode cX1_settle 22 = .ok (.iushr, 1) := by decide +kernel
theorem dX1_settle_23 : decode cX1_settle 23 = .ok (.iconst 1, 1) := by decide +kernel
theorem dX1_settle_24 : decode cX1_settle 24 = .ok (.iand, 1) := by decide +kernel
theorem dX1_settle_25 : decode cX1_settle 25 = .ok (.ifCond .eq 13, 3) := by decide +kernel
theorem dX1_settle_28 : decode cX1_settle 28 = .ok (.aload_n 0, 1) := by decide +kernel
theorem dX1_settle_29 : decode cX1_settle 29 = .ok (.aload_n 0, 1) := by decide +kernel
theorem dX1_settle_30 : decode cX1_settle 30 = .ok (.getfield 60, 3) := by decide +kernel
theorem dX1_settle_33 : decode cX1_settle 33 = .ok (.iload_n 3, 1) := by decide +kernel
theorem dX1_settle_34 : decode cX1_settle 34 = .ok (.aaload, 1) := by decide +kernel
theorem dX1_settle_35 : decode cX1_settle 35 = .ok (.invokevirtual 196, 3) := by decide +kernel
theorem dX1_settle_38 : decode cX1_settle 38 = .ok (.aload_n 2, 1) := by decide +kernel
theorem dX1_settle_39 : decode cX1_settle 39 = .ok (.getfield 190, 3) := by decide +kernel
theorem dX1_settle_42 : decode cX1_settle 42 = .ok (.iload_n 3, 1) := by decide +kernel
theorem dX1_settle_43 : decode cX1_settle 43 = .ok (.iushr, 1) := by decide +kernel
theorem dX1_settle_44 : decode cX1_settle 44 = .ok (.iconst 1, 1) := by decide +kernel
theorem dX1_settle_45 : decode cX1_settle 45 = .ok (.iand, 1) := by decide +kernel
theorem dX1_settle_46 : decode cX1_settle 46 = .ok (.ifCond .eq 17, 3) := by decide +kernel
theorem dX1_settle_49 : decode cX1_settle 49 = .ok (.aload_n 0, 1) := by decide +kernel
theorem dX1_settle_50 : decode cX1_settle 50 = .ok (.getfield 60, 3) := by decide +kernel
theorem dX1_settle_53 : decode cX1_settle 53 = .ok (.iload_n 3, 1) := by decide +kernel
theorem dX1_settle_54 : decode cX1_settle 54 = .ok (.aaload, 1) := by decide +kernel
theorem dX1_settle_55 : decode cX1_settle 55 = .ok (.iload_n 1, 1) := by decide +kernel
theorem dX1_settle_56 : decode cX1_settle 56 = .ok (.aload_n 0, 1) := by decide +kernel
theorem dX1_settle_57 : decode cX1_settle 57 = .ok (.getfield 33, 3) := by decide +kernel
theorem dX1_settle_60 : decode cX1_settle 60 = .ok (.invokevirtual 199, 3) := by decide +kernel
theorem dX1_settle_63 : decode cX1_settle 63 = .ok (.iinc 3 1, 3) := by decide +kernel
theorem dX1_settle_66 : decode cX1_settle 66 = .ok (.goto (-57), 3) := by decide +kernel
theorem dX1_settle_69 : decode cX1_settle 69 = .ok (.aload_n 0, 1) := by decide +kernel
theorem dX1_settle_70 : decode cX1_settle 70 = .ok (.aload_n 2, 1) := by decide +kernel
theorem dX1_settle_71 : decode cX1_settle 71 = .ok (.invokevirtual 203, 3) := by decide +kernel
theorem dX1_settle_74 : decode cX1_settle 74 = .ok (.invokevirtual 172, 3) := by decide +kernel
theorem dX1_settle_77 : decode cX1_settle 77 = .ok (.return_, 1) := by decide +kernel
set_option maxRecDepth 20000 in
set_option maxHeartbeats 4000000 in
theorem vX1_settle_0 {l : Launch} {x : CX} {a0 : Nat} {x1 : Int32} {h : PH} {rc rs n0 : Nat} {Q : Option Value → PH → Prop} {X : String → PH → Prop}
    (K : ((hK h a0).1 = 1) ∧ ∃ b2, (hR h a0 13 = some b2) ∧ ((hK h b2).1 = 105) ∧ (vp_in x1 (hK h b2).2) ∧ ∃ b6, (hR h b2 x1.toNatClampNeg = some b6) ∧ Gm l x mX1_settle 1 9 [(0, .ref a0), (1, .int x1), (2, .ref b6), (3, .int 0)] [] h rc rs n0 Q X) :
    Gm l x mX1_settle 1 0 [(0, .ref a0), (1, .int x1)] [] h rc rs n0 Q X := by
  refine g_aload_n dX1_settle_0 rfl 0 rfl ?_
  obtain ⟨e1, b2, e3, K⟩ := K
  refine g_get (c := 1) (k := 13) (v := .ref b2) dX1_settle_1 fc_1 (by decide) (by decide) bw_223 (congrArg pr e3) e1 ?_
  refine g_iload_n dX1_settle_4 rfl 1 rfl ?_
  obtain ⟨e4, e5, b6, e7, K⟩ := K
  refine g_aald (t := 5) (v := .ref b6) dX1_settle_5 (Or.inl rfl) e4 e5 (congrArg pr e7) ?_
  refine g_astore_n (lv' := [(0, .ref a0), (1, .int x1), (2, .ref b6)]) dX1_settle_6 rfl (by decide) rfl ?_
  refine g_iconst (v := 0) dX1_settle_7 (by decide) ?_
  refine g_istore_n (lv' := [(0, .ref a0), (1, .int x1), (2, .ref b6), (3, .int 0)]) dX1_settle_8 rfl (by decide) rfl ?_
  exact K
set_option maxRecDepth 20000 in
set_option maxHeartbeats 4000000 in
theorem vX1_settle_9 {l : Launch} {x : CX} {a0 : Nat} {x1 : Int32} {a2 : Nat} {x3 : Int32} {h : PH} {rc rs n0 : Nat} {Q : Option Value → PH → Prop} {X : String → PH → Prop}
    (K : ((hK h a0).1 = 1) ∧ (((hI h a0 2) ≤ x3 → ((hK h a2).1 = 2) ∧ ∃ (q3 : Int64 → PH → Prop), CJ l x mX2_callsAnswered 0 0 0 [.ref a2] h q3 ∧ ∀ (r7 : Int64) (h6 : PH), q3 r7 h6 → ((hK h6 a0).1 = 1) ∧ ∃ (q8 : PH → Prop), CV l x mX1_takeFromAll 0 0 0 [.ref a0, .long r7] h6 q8 ∧ ∀ (h11 : PH), q8 h11 → Q none h11) ∧ (¬ (hI h a0 2) ≤ x3 → ((hK h a2).1 = 2) ∧ ((((ius (hI h a2 13) x3) &&& 1) = 0 → ((((ius (hI h a2 14) x3) &&& 1) = 0 → Gm l x mX1_settle 1 9 [(0, .ref a0), (1, .int x1), (2, .ref a2), (3, .int (x3 + 1))] [] h rc rs n0 Q X) ∧ (¬ ((ius (hI h a2 14) x3) &&& 1) = 0 → ∃ b15, (hR h a0 14 = some b15) ∧ ((hK h b15).1 = 106) ∧ (vp_in x3 (hK h b15).2) ∧ ∃ b19, (hR h b15 x3.toNatClampNeg = some b19) ∧ ((hK h b19).1 = 6) ∧ ∃ (q21 : PH → Prop), CV l x mX6_board 0 0 0 [.ref b19, .int x1, .int (hI h a0 7)] h q21 ∧ ∀ (h24 : PH), q21 h24 → Gm l x mX1_settle 1 9 [(0, .ref a0), (1, .int x1), (2, .ref a2), (3, .int (x3 + 1))] [] h24 rc rs n0 Q X))) ∧ (¬ ((ius (hI h a2 13) x3) &&& 1) = 0 → ∃ b25, (hR h a0 14 = some b25) ∧ ((hK h b25).1 = 106) ∧ (vp_in x3 (hK h b25).2) ∧ ∃ b29, (hR h b25 x3.toNatClampNeg = some b29) ∧ ∃ (q31 : PH → Prop), CV l x mX1_finish 0 0 0 [.ref a0, .ref b29] h q31 ∧ ∀ (h33 : PH), q31 h33 → ((hK h33 a2).1 = 2) ∧ ((((ius (hI h33 a2 14) x3) &&& 1) = 0 → Gm l x mX1_settle 1 9 [(0, .ref a0), (1, .int x1), (2, .ref a2), (3, .int (x3 + 1))] [] h33 rc rs n0 Q X) ∧ (¬ ((ius (hI h33 a2 14) x3) &&& 1) = 0 → ((hK h33 a0).1 = 1) ∧ ∃ b37, (hR h33 a0 14 = some b37) ∧ ((hK h33 b37).1 = 106) ∧ (vp_in x3 (hK h33 b37).2) ∧ ∃ b41, (hR h33 b37 x3.toNatClampNeg = some b41) ∧ ((hK h33 b41).1 = 6) ∧ ∃ (q43 : PH → Prop), CV l x mX6_board 0 0 0 [.ref b41, .int x1, .int (hI h33 a0 7)] h33 q43 ∧ ∀ (h46 : PH), q43 h46 → Gm l x mX1_settle 1 9 [(0, .ref a0), (1, .int x1), (2, .ref a2), (3, .int (x3 + 1))] [] h46 rc rs n0 Q X))))))) :
    Gm l x mX1_settle 1 9 [(0, .ref a0), (1, .int x1), (2, .ref a2), (3, .int x3)] [] h rc rs n0 Q X := by
  refine g_iload_n dX1_settle_9 rfl 3 rfl ?_
  refine g_aload_n dX1_settle_10 rfl 0 rfl ?_
  obtain ⟨e1, K⟩ := K
  refine g_get (c := 1) (k := 2) (v := .int (hI h a0 2)) dX1_settle_11 fc_1 (by decide) (by decide) bw_192 rfl e1 ?_
  refine g_icmp_ge (tgt := 69) dX1_settle_14 (by decide) (fun c2 => ?_) (fun c2 => ?_)
  · replace K := K.1 c2
    refine g_aload_n dX1_settle_69 rfl 0 rfl ?_
    refine g_aload_n dX1_settle_70 rfl 2 rfl ?_
    obtain ⟨e5, K⟩ := K
    obtain ⟨q3, C4, K⟩ := K
    refine g_callV (M' := mX2_callsAnswered) (b := a2) (As := []) (rest := [.ref a0]) (rc' := rc) (rs' := rs) dX1_settle_71 bw_600 bw_601 bw_602 bw_4 bw_603 ⟨by decide +kernel, by decide +kernel, show (parseMethodDescriptor mX2_callsAnswered.1.desc).map (fun d => d.parameters.length) = some 0 by decide +kernel⟩ (by decide) (by decide) (Nat.le_of_ble_eq_true rfl) fc_2 (by decide) rfl e5 C4 (Nat.le_of_eq (Nat.add_zero _)) (Nat.le_of_eq (Nat.add_zero _)) (fun _ _ h => h) ?_
    rintro _ h6 ⟨r7, rfl, K1⟩ -
    replace K := K r7 h6 K1
    show Gm l x mX1_settle 1 74 [(0, .ref a0), (1, .int x1), (2, .ref a2), (3, .int x3)] [.long r7, .ref a0] h6 rc rs n0 Q X
    obtain ⟨e10, K⟩ := K
    obtain ⟨q8, C9, K⟩ := K
    refine g_callV (M' := mX1_takeFromAll) (b := a0) (As := [.long r7]) (rest := []) (rc' := rc) (rs' := rs) dX1_settle_74 bw_500 bw_502 bs_6 bw_3 bw_503 ⟨by decide +kernel, by decide +kernel, show (parseMethodDescriptor mX1_takeFromAll.1.desc).map (fun d => d.parameters.length) = some 1 by decide +kernel⟩ (by decide) (by decide) (Nat.le_of_ble_eq_true rfl) fc_1 (by decide) rfl e10 C9 (Nat.le_of_eq (Nat.add_zero _)) (Nat.le_of_eq (Nat.add_zero _)) (fun _ _ h => h) ?_
    rintro _ h11 ⟨rfl, K1⟩ -
    replace K := K h11 K1
    show Gm l x mX1_settle 1 77 [(0, .ref a0), (1, .int x1), (2, .ref a2), (3, .int x3)] [] h11 rc rs n0 Q X
    exact g_vret dX1_settle_77 rfl K
  · replace K := K.2 c2
    refine g_aload_n dX1_settle_17 rfl 2 rfl ?_
    obtain ⟨e12, K⟩ := K
    refine g_get (c := 2) (k := 13) (v := .int (hI h a2 13)) dX1_settle_18 fc_2 (by decide) (by decide) bw_89 rfl e12 ?_
    refine g_iload_n dX1_settle_21 rfl 3 rfl ?_
    refine g_iushr dX1_settle_22 ?_
    refine g_iconst (v := 1) dX1_settle_23 (by decide) ?_
    refine g_iand dX1_settle_24 ?_
    refine g_if_eq (tgt := 38) dX1_settle_25 (by decide) (fun c13 => ?_) (fun c13 => ?_)
    · replace K := K.1 c13
      refine g_aload_n dX1_settle_38 rfl 2 rfl ?_
      refine g_get (c := 2) (k := 14) (v := .int (hI h a2 14)) dX1_settle_39 fc_2 (by decide) (by decide) bw_91 rfl e12 ?_
      refine g_iload_n dX1_settle_42 rfl 3 rfl ?_
      refine g_iushr dX1_settle_43 ?_
      refine g_iconst (v := 1) dX1_settle_44 (by decide) ?_
      refine g_iand dX1_settle_45 ?_
      refine g_if_eq (tgt := 63) dX1_settle_46 (by decide) (fun c14 => ?_) (fun c14 => ?_)
      · replace K := K.1 c14
        refine g_iinc (v := (x3 + 1)) (lv' := [(0, .ref a0), (1, .int x1), (2, .ref a2), (3, .int (x3 + 1))]) dX1_settle_63 3 rfl (by rfl) (by decide) rfl ?_
        refine g_goto (tgt := 9) dX1_settle_66 (by decide) ?_
        exact K
      · replace K := K.2 c14
        refine g_aload_n dX1_settle_49 rfl 0 rfl ?_
        obtain ⟨b15, e16, K⟩ := K
        refine g_get (c := 1) (k := 14) (v := .ref b15) dX1_settle_50 fc_1 (by decide) (by decide) bw_226 (congrArg pr e16) e1 ?_
        refine g_iload_n dX1_settle_53 rfl 3 rfl ?_
        obtain ⟨e17, e18, b19, e20, K⟩ := K
        refine g_aald (t := 6) (v := .ref b19) dX1_settle_54 (Or.inr (Or.inl rfl)) e17 e18 (congrArg pr e20) ?_
        refine g_iload_n dX1_settle_55 rfl 1 rfl ?_
        refine g_aload_n dX1_settle_56 rfl 0 rfl ?_
        refine g_get (c := 1) (k := 7) (v := .int (hI h a0 7)) dX1_settle_57 fc_1 (by decide) (by decide) bw_212 rfl e1 ?_
        obtain ⟨e23, K⟩ := K
        obtain ⟨q21, C22, K⟩ := K
        refine g_callV (M' := mX6_board) (b := b19) (As := [.int x1, .int (hI h a0 7)]) (rest := []) (rc' := rc) (rs' := rs) dX1_settle_60 bw_596 bw_597 bw_598 bw_5 bw_599 ⟨by decide +kernel, by decide +kernel, show (parseMethodDescriptor mX6_board.1.desc).map (fun d => d.parameters.length) = some 2 by decide +kernel⟩ (by decide) (by decide) (Nat.le_of_ble_eq_true rfl) fc_6 (by decide) rfl e23 C22 (Nat.le_of_eq (Nat.add_zero _)) (Nat.le_of_eq (Nat.add_zero _)) (fun _ _ h => h) ?_
        rintro _ h24 ⟨rfl, K1⟩ -
        replace K := K h24 K1
        show Gm l x mX1_settle 1 63 [(0, .ref a0), (1, .int x1), (2, .ref a2), (3, .int x3)] [] h24 rc rs n0 Q X
        refine g_iinc (v := (x3 + 1)) (lv' := [(0, .ref a0), (1, .int x1), (2, .ref a2), (3, .int (x3 + 1))]) dX1_settle_63 3 rfl (by rfl) (by decide) rfl ?_
        refine g_goto (tgt := 9) dX1_settle_66 (by decide) ?_
        exact K
    · replace K := K.2 c13
      refine g_aload_n dX1_settle_28 rfl 0 rfl ?_
      refine g_aload_n dX1_settle_29 rfl 0 rfl ?_
      obtain ⟨b25, e26, K⟩ := K
      refine g_get (c := 1) (k := 14) (v := .ref b25) dX1_settle_30 fc_1 (by decide) (by decide) bw_226 (congrArg pr e26) e1 ?_
      refine g_iload_n dX1_settle_33 rfl 3 rfl ?_
      obtain ⟨e27, e28, b29, e30, K⟩ := K
      refine g_aald (t := 6) (v := .ref b29) dX1_settle_34 (Or.inr (Or.inl rfl)) e27 e28 (congrArg pr e30) ?_
      obtain ⟨q31, C32, K⟩ := K
      refine g_callV (M' := mX1_finish) (b := a0) (As := [.ref b29]) (rest := []) (rc' := rc) (rs' := rs) dX1_settle_35 bw_518 bw_520 bs_8 bw_3 bw_521 ⟨by decide +kernel, by decide +kernel, show (parseMethodDescriptor mX1_finish.1.desc).map (fun d => d.parameters.length) = some 1 by decide +kernel⟩ (by decide) (by decide) (Nat.le_of_ble_eq_true rfl) fc_1 (by decide) rfl e1 C32 (Nat.le_of_eq (Nat.add_zero _)) (Nat.le_of_eq (Nat.add_zero _)) (fun _ _ h => h) ?_
      rintro _ h33 ⟨rfl, K1⟩ -
      replace K := K h33 K1
      show Gm l x mX1_settle 1 38 [(0, .ref a0), (1, .int x1), (2, .ref a2), (3, .int x3)] [] h33 rc rs n0 Q X
      refine g_aload_n dX1_settle_38 rfl 2 rfl ?_
      obtain ⟨e34, K⟩ := K
      refine g_get (c := 2) (k := 14) (v := .int (hI h33 a2 14)) dX1_settle_39 fc_2 (by decide) (by decide) bw_91 rfl e34 ?_
      refine g_iload_n dX1_settle_42 rfl 3 rfl ?_
      refine g_iushr dX1_settle_43 ?_
      refine g_iconst (v := 1) dX1_settle_44 (by decide) ?_
      refine g_iand dX1_settle_45 ?_
      refine g_if_eq (tgt := 63) dX1_settle_46 (by decide) (fun c35 => ?_) (fun c35 => ?_)
      · replace K := K.1 c35
        refine g_iinc (v := (x3 + 1)) (lv' := [(0, .ref a0), (1, .int x1), (2, .ref a2), (3, .int (x3 + 1))]) dX1_settle_63 3 rfl (by rfl) (by decide) rfl ?_
        refine g_goto (tgt := 9) dX1_settle_66 (by decide) ?_
        exact K
      · replace K := K.2 c35
        refine g_aload_n dX1_settle_49 rfl 0 rfl ?_
        obtain ⟨e36, b37, e38, K⟩ := K
        refine g_get (c := 1) (k := 14) (v := .ref b37) dX1_settle_50 fc_1 (by decide) (by decide) bw_226 (congrArg pr e38) e36 ?_
        refine g_iload_n dX1_settle_53 rfl 3 rfl ?_
        obtain ⟨e39, e40, b41, e42, K⟩ := K
        refine g_aald (t := 6) (v := .ref b41) dX1_settle_54 (Or.inr (Or.inl rfl)) e39 e40 (congrArg pr e42) ?_
        refine g_iload_n dX1_settle_55 rfl 1 rfl ?_
        refine g_aload_n dX1_settle_56 rfl 0 rfl ?_
        refine g_get (c := 1) (k := 7) (v := .int (hI h33 a0 7)) dX1_settle_57 fc_1 (by decide) (by decide) bw_212 rfl e36 ?_
        obtain ⟨e45, K⟩ := K
        obtain ⟨q43, C44, K⟩ := K
        refine g_callV (M' := mX6_board) (b := b41) (As := [.int x1, .int (hI h33 a0 7)]) (rest := []) (rc' := rc) (rs' := rs) dX1_settle_60 bw_596 bw_597 bw_598 bw_5 bw_599 ⟨by decide +kernel, by decide +kernel, show (parseMethodDescriptor mX6_board.1.desc).map (fun d => d.parameters.length) = some 2 by decide +kernel⟩ (by decide) (by decide) (Nat.le_of_ble_eq_true rfl) fc_6 (by decide) rfl e45 C44 (Nat.le_of_eq (Nat.add_zero _)) (Nat.le_of_eq (Nat.add_zero _)) (fun _ _ h => h) ?_
        rintro _ h46 ⟨rfl, K1⟩ -
        replace K := K h46 K1
        show Gm l x mX1_settle 1 63 [(0, .ref a0), (1, .int x1), (2, .ref a2), (3, .int x3)] [] h46 rc rs n0 Q X
        refine g_iinc (v := (x3 + 1)) (lv' := [(0, .ref a0), (1, .int x1), (2, .ref a2), (3, .int (x3 + 1))]) dX1_settle_63 3 rfl (by rfl) (by decide) rfl ?_
        refine g_goto (tgt := 9) dX1_settle_66 (by decide) ?_
        exact K
theorem dX1_putOut_0 : decode cX1_putOut 0 = .ok (.iconst 0, 1) := by decide +kernel
theorem dX1_putOut_1 : decode cX1_putOut 1 = .ok (.istore_n 2, 1) := by decide +kernel
theorem dX1_putOut_2 : decode cX1_putOut 2 = .ok (.iload_n 2, 1) := by decide +kernel
theorem dX1_putOut_3 : decode cX1_putOut 3 = .ok (.aload_n 0, 1) := by decide +kernel
theorem dX1_putOut_4 : decode cX1_putOut 4 = .ok (.getfield 18, 3) := by decide +kernel
theorem dX1_putOut_7 : decode cX1_putOut 7 = .ok (.if_icmp .ge 62, 3) := by decide +kernel
theorem dX1_putOut_10 : decode cX1_putOut 10 = .ok (.aload_n 1, 1) := by decide +kernel
theorem dX1_putOut_11 : decode cX1_putOut 11 = .ok (.getfield 215, 3) := by decide +kernel
theorem dX1_putOut_14 : decode cX1_putOut 14 = .ok (.iload_n 2, 1) := by decide +kernel
theorem dX1_putOut_15 : decode cX1_putOut 15 = .ok (.iushr, 1) := by decide +kernel
theorem dX1_putOut_16 : decode cX1_putOut 16 = .ok (.iconst 1, 1) := by decide +kernel
theorem dX1_putOut_17 : decode cX1_putOut 17 = .ok (.iand, 1) := by decide +kernel
theorem dX1_putOut_18 : decode cX1_putOut 18 = .ok (.ifCond .eq 45, 3) := by decide +kernel
theorem dX1_putOut_21 : decode cX1_putOut 21 = .ok (.aload_n 0, 1) := by decide +kernel
theorem dX1_putOut_22 : decode cX1_putOut 22 = .ok (.getfield 60, 3) := by decide +kernel
theorem dX1_putOut_25 : decode cX1_putOut 25 = .ok (.iload_n 2, 1) := by decide +kernel
theorem dX1_putOut_26 : decode cX1_putOut 26 = .ok (.aaload, 1) := by decide +kernel
theorem dX1_putOut_27 : decode cX1_putOut 27 = .ok (.getfield 218, 3) := by decide +kernel
theorem dX1_putOut_30 : decode cX1_putOut 30 = .ok (.aload_n 1, 1) := by decide +kernel
theorem dX1_putOut_31 : decode cX1_putOut 31 = .ok (.getfield 151, 3) := by decide +kernel
theorem dX1_putOut_34 : decode cX1_putOut 34 = .ok (.if_icmp .ne 16, 3) := by decide +kernel
theorem dX1_putOut_37 : decode cX1_putOut 37 = .ok (.aload_n 0, 1) := by decide +kernel
theorem dX1_putOut_38 : decode cX1_putOut 38 = .ok (.aload_n 0, 1) := by decide +kernel
theorem dX1_putOut_39 : decode cX1_putOut 39 = .ok (.getfield 60, 3) := by decide +kernel
theorem dX1_putOut_42 : decode cX1_putOut 42 = .ok (.iload_n 2, 1) := by decide +kernel
theorem dX1_putOut_43 : decode cX1_putOut 43 = .ok (.aaload, 1) := by decide +kernel
theorem dX1_putOut_44 : decode cX1_putOut 44 = .ok (.invokevirtual 196, 3) := by decide +kernel
theorem dX1_putOut_47 : decode cX1_putOut 47 = .ok (.goto 16, 3) := by decide +kernel
theorem dX1_putOut_50 : decode cX1_putOut 50 = .ok (.aload_n 0, 1) := by decide +kernel
theorem dX1_putOut_51 : decode cX1_putOut 51 = .ok (.getfield 60, 3) := by decide +kernel
theorem dX1_putOut_54 : decode cX1_putOut 54 = .ok (.iload_n 2, 1) := by decide +kernel
theorem dX1_putOut_55 : decode cX1_putOut 55 = .ok (.aaload, 1) := by decide +kernel
theorem dX1_putOut_56 : decode cX1_putOut 56 = .ok (.aload_n 1, 1) := by decide +kernel
theorem dX1_putOut_57 : decode cX1_putOut 57 = .ok (.getfield 151, 3) := by decide +kernel
theorem dX1_putOut_60 : decode cX1_putOut 60 = .ok (.invokevirtual 93, 3) := by decide +kernel
theorem dX1_putOut_63 : decode cX1_putOut 63 = .ok (.iinc 2 1, 3) := by decide +kernel
theorem dX1_putOut_66 : decode cX1_putOut 66 = .ok (.goto (-64), 3) := by decide +kernel
theorem dX1_putOut_69 : decode cX1_putOut 69 = .ok (.aload_n 1, 1) := by decide +kernel
theorem dX1_putOut_70 : decode cX1_putOut 70 = .ok (.invokevirtual 221, 3) := by decide +kernel
theorem dX1_putOut_73 : decode cX1_putOut 73 = .ok (.return_, 1) := by decide +kernel
set_option maxRecDepth 20000 in
set_option maxHeartbeats 4000000 in
theorem vX1_putOut_0 {l : Launch} {x : CX} {a0 : Nat} {a1 : Nat} {h : PH} {rc rs n0 : Nat} {Q : Option Value → PH → Prop} {X : String → PH → Prop}
    (K : Gm l x mX1_putOut 1 2 [(0, .ref a0), (1, .ref a1), (2, .int 0)] [] h rc rs n0 Q X) :
    Gm l x mX1_putOut 1 0 [(0, .ref a0), (1, .ref a1)] [] h rc rs n0 Q X := by
  refine g_iconst (v := 0) dX1_putOut_0 (by decide) ?_
  refine g_istore_n (lv' := [(0, .ref a0), (1, .ref a1), (2, .int 0)]) dX1_putOut_1 rfl (by decide) rfl ?_
  exact K
set_option maxRecDepth 20000 in
set_option maxHeartbeats 4000000 in
theorem vX1_putOut_2 {l : Launch} {x : CX} {a0 : Nat} {a1 : Nat} {x2 : Int32} {h : PH} {rc rs n0 : Nat} {Q : Option Value → PH → Prop} {X : String → PH → Prop}
    (K : ((hK h a0).1 = 1) ∧ (((hI h a0 2) ≤ x2 → ((hK h a1).1 = 2) ∧ ∃ (q3 : PH → Prop), CV l x mX2_empty 0 0 0 [.ref a1] h q3 ∧ ∀ (h6 : PH), q3 h6 → Q none h6) ∧ (¬ (hI h a0 2) ≤ x2 → ((hK h a1).1 = 2) ∧ ((((ius (hI h a1 9) x2) &&& 1) = 0 → Gm l x mX1_putOut 1 2 [(0, .ref a0), (1, .ref a1), (2, .int (x2 + 1))] [] h rc rs n0 Q X) ∧ (¬ ((ius (hI h a1 9) x2) &&& 1) = 0 → ∃ b9, (hR h a0 14 = some b9) ∧ ((hK h b9).1 = 106) ∧ (vp_in x2 (hK h b9).2) ∧ ∃ b13, (hR h b9 x2.toNatClampNeg = some b13) ∧ ((hK h b13).1 = 6) ∧ ((¬ (hI h b13 3) = (hI h a1 3) → (vp_in x2 (hK h b9).2) ∧ ∃ b18, (hR h b9 x2.toNatClampNeg = some b18) ∧ ((hK h b18).1 = 6) ∧ ∃ (q20 : PH → Prop), CV l x mX6_waitAt 0 0 0 [.ref b18, .int (hI h a1 3)] h q20 ∧ ∀ (h23 : PH), q20 h23 → Gm l x mX1_putOut 1 2 [(0, .ref a0), (1, .ref a1), (2, .int (x2 + 1))] [] h23 rc rs n0 Q X) ∧ ((hI h b13 3) = (hI h a1 3) → (vp_in x2 (hK h b9).2) ∧ ∃ b25, (hR h b9 x2.toNatClampNeg = some b25) ∧ ∃ (q27 : PH → Prop), CV l x mX1_finish 0 0 0 [.ref a0, .ref b25] h q27 ∧ ∀ (h29 : PH), q27 h29 → Gm l x mX1_putOut 1 2 [(0, .ref a0), (1, .ref a1), (2, .int (x2 + 1))] [] h29 rc rs n0 Q X))))))) :
    Gm l x mX1_putOut 1 2 [(0, .ref a0), (1, .ref a1), (2, .int x2)] [] h rc rs n0 Q X := by
  refine g_iload_n dX1_putOut_2 rfl 2 rfl ?_
  refine g_aload_n dX1_putOut_3 rfl 0 rfl ?_
  obtain ⟨e1, K⟩ := K
  refine g_get (c := 1) (k := 2) (v := .int (hI h a0 2)) dX1_putOut_4 fc_1 (by decide) (by decide) bw_192 rfl e1 ?_
  refine g_icmp_ge (tgt := 69) dX1_putOut_7 (by decide) (fun c2 => ?_) (fun c2 => ?_)
  · replace K := K.1 c2
    refine g_aload_n dX1_putOut_69 rfl 1 rfl ?_
    obtain ⟨e5, K⟩ := K
    obtain ⟨q3, C4, K⟩ := K
    refine g_callV (M' := mX2_empty) (b := a1) (As := []) (rest := []) (rc' := rc) (rs' := rs) dX1_putOut_70 bw_522 bw_523 bw_524 bw_4 bw_525 ⟨by decide +kernel, by decide +kernel, show (parseMethodDescriptor mX2_empty.1.desc).map (fun d => d.parameters.length) = some 0 by decide +kernel⟩ (by decide) (by decide) (Nat.le_of_ble_eq_true rfl) fc_2 (by decide) rfl e5 C4 (Nat.le_of_eq (Nat.add_zero _)) (Nat.le_of_eq (Nat.add_zero _)) (fun _ _ h => h) ?_
    rintro _ h6 ⟨rfl, K1⟩ -
    replace K := K h6 K1
    show Gm l x mX1_putOut 1 73 [(0, .ref a0), (1, .ref a1), (2, .int x2)] [] h6 rc rs n0 Q X
    exact g_vret dX1_putOut_73 rfl K
  · replace K := K.2 c2
    refine g_aload_n dX1_putOut_10 rfl 1 rfl ?_
    obtain ⟨e7, K⟩ := K
    refine g_get (c := 2) (k := 9) (v := .int (hI h a1 9)) dX1_putOut_11 fc_2 (by decide) (by decide) bw_83 rfl e7 ?_
    refine g_iload_n dX1_putOut_14 rfl 2 rfl ?_
    refine g_iushr dX1_putOut_15 ?_
    refine g_iconst (v := 1) dX1_putOut_16 (by decide) ?_
    refine g_iand dX1_putOut_17 ?_
    refine g_if_eq (tgt := 63) dX1_putOut_18 (by decide) (fun c8 => ?_) (fun c8 => ?_)
    · replace K := K.1 c8
      refine g_iinc (v := (x2 + 1)) (lv' := [(0, .ref a0), (1, .ref a1), (2, .int (x2 + 1))]) dX1_putOut_63 2 rfl (by rfl) (by decide) rfl ?_
      refine g_goto (tgt := 2) dX1_putOut_66 (by decide) ?_
      exact K
    · replace K := K.2 c8
      refine g_aload_n dX1_putOut_21 rfl 0 rfl ?_
      obtain ⟨b9, e10, K⟩ := K
      refine g_get (c := 1) (k := 14) (v := .ref b9) dX1_putOut_22 fc_1 (by decide) (by decide) bw_226 (congrArg pr e10) e1 ?_
      refine g_iload_n dX1_putOut_25 rfl 2 rfl ?_
      obtain ⟨e11, e12, b13, e14, K⟩ := K
      refine g_aald (t := 6) (v := .ref b13) dX1_putOut_26 (Or.inr (Or.inl rfl)) e11 e12 (congrArg pr e14) ?_
      obtain ⟨e15, K⟩ := K
      refine g_get (c := 6) (k := 3) (v := .int (hI h b13 3)) dX1_putOut_27 fc_6 (by decide) (by decide) bw_143 rfl e15 ?_
      refine g_aload_n dX1_putOut_30 rfl 1 rfl ?_
      refine g_get (c := 2) (k := 3) (v := .int (hI h a1 3)) dX1_putOut_31 fc_2 (by decide) (by decide) bw_65 rfl e7 ?_
      refine g_icmp_ne (tgt := 50) dX1_putOut_34 (by decide) (fun c16 => ?_) (fun c16 => ?_)
      · replace K := K.1 c16
        refine g_aload_n dX1_putOut_50 rfl 0 rfl ?_
        refine g_get (c := 1) (k := 14) (v := .ref b9) dX1_putOut_51 fc_1 (by decide) (by decide) bw_226 (congrArg pr e10) e1 ?_
        refine g_iload_n dX1_putOut_54 rfl 2 rfl ?_
        obtain ⟨e17, b18, e19, K⟩ := K
        refine g_aald (t := 6) (v := .ref b18) dX1_putOut_55 (Or.inr (Or.inl rfl)) e11 e17 (congrArg pr e19) ?_
        refine g_aload_n dX1_putOut_56 rfl 1 rfl ?_
        refine g_get (c := 2) (k := 3) (v := .int (hI h a1 3)) dX1_putOut_57 fc_2 (by decide) (by decide) bw_65 rfl e7 ?_
        obtain ⟨e22, K⟩ := K
        obtain ⟨q20, C21, K⟩ := K
        refine g_callV (M' := mX6_waitAt) (b := b18) (As := [.int (hI h a1 3)]) (rest := []) (rc' := rc) (rs' := rs) dX1_putOut_60 bw_485 bw_486 bw_487 bw_5 bw_488 ⟨by decide +kernel, by decide +kernel, show (parseMethodDescriptor mX6_waitAt.1.desc).map (fun d => d.parameters.length) = some 1 by decide +kernel⟩ (by decide) (by decide) (Nat.le_of_ble_eq_true rfl) fc_6 (by decide) rfl e22 C21 (Nat.le_of_eq (Nat.add_zero _)) (Nat.le_of_eq (Nat.add_zero _)) (fun _ _ h => h) ?_
        rintro _ h23 ⟨rfl, K1⟩ -
        replace K := K h23 K1
        show Gm l x mX1_putOut 1 63 [(0, .ref a0), (1, .ref a1), (2, .int x2)] [] h23 rc rs n0 Q X
        refine g_iinc (v := (x2 + 1)) (lv' := [(0, .ref a0), (1, .ref a1), (2, .int (x2 + 1))]) dX1_putOut_63 2 rfl (by rfl) (by decide) rfl ?_
        refine g_goto (tgt := 2) dX1_putOut_66 (by decide) ?_
        exact K
      · replace K := K.2 c16
        refine g_aload_n dX1_putOut_37 rfl 0 rfl ?_
        refine g_aload_n dX1_putOut_38 rfl 0 rfl ?_
        refine g_get (c := 1) (k := 14) (v := .ref b9) dX1_putOut_39 fc_1 (by decide) (by decide) bw_226 (congrArg pr e10) e1 ?_
        refine g_iload_n dX1_putOut_42 rfl 2 rfl ?_
        obtain ⟨e24, b25, e26, K⟩ := K
        refine g_aald (t := 6) (v := .ref b25) dX1_putOut_43 (Or.inr (Or.inl rfl)) e11 e24 (congrArg pr e26) ?_
        obtain ⟨q27, C28, K⟩ := K
        refine g_callV (M' := mX1_finish) (b := a0) (As := [.ref b25]) (rest := []) (rc' := rc) (rs' := rs) dX1_putOut_44 bw_518 bw_520 bs_8 bw_3 bw_521 ⟨by decide +kernel, by decide +kernel, show (parseMethodDescriptor mX1_finish.1.desc).map (fun d => d.parameters.length) = some 1 by decide +kernel⟩ (by decide) (by decide) (Nat.le_of_ble_eq_true rfl) fc_1 (by decide) rfl e1 C28 (Nat.le_of_eq (Nat.add_zero _)) (Nat.le_of_eq (Nat.add_zero _)) (fun _ _ h => h) ?_
        rintro _ h29 ⟨rfl, K1⟩ -
        replace K := K h29 K1
        show Gm l x mX1_putOut 1 47 [(0, .ref a0), (1, .ref a1), (2, .int x2)] [] h29 rc rs n0 Q X
        refine g_goto (tgt := 63) dX1_putOut_47 (by decide) ?_
        refine g_iinc (v := (x2 + 1)) (lv' := [(0, .ref a0), (1, .ref a1), (2, .int (x2 + 1))]) dX1_putOut_63 2 rfl (by rfl) (by decide) rfl ?_
        refine g_goto (tgt := 2) dX1_putOut_66 (by decide) ?_
        exact K
theorem dX1_latestDone_0 : decode cX1_latestDone 0 = .ok (.iconst (-1), 1) := by decide +kernel
theorem dX1_latestDone_1 : decode cX1_latestDone 1 = .ok (.istore_n 1, 1) := by decide +kernel
theorem dX1_latestDone_2 : decode cX1_latestDone 2 = .ok (.iconst 0, 1) := by decide +kernel
theorem dX1_latestDone_3 : decode cX1_latestDone 3 = .ok (.istore_n 2, 1) := by decide +kernel
theorem dX1_latestDone_4 : decode cX1_latestDone 4 = .ok (.iload_n 2, 1) := by decide +kernel
theorem dX1_latestDone_5 : decode cX1_latestDone 5 = .ok (.aload_n 0, 1) := by decide +kernel
theorem dX1_latestDone_6 : decode cX1_latestDone 6 = .ok (.getfield 18, 3) := by decide +kernel
theorem dX1_latestDone_9 : decode cX1_latestDone 9 = .ok (.if_icmp .ge 23, 3) := by decide +kernel
theorem dX1_latestDone_12 : decode cX1_latestDone 12 = .ok (.iload_n 1, 1) := by decide +kernel
theorem dX1_latestDone_13 : decode cX1_latestDone 13 = .ok (.aload_n 0, 1) := by decide +kernel
theorem dX1_latestDone_14 : decode cX1_latestDone 14 = .ok (.getfield 60, 3) := by decide +kernel
theorem dX1_latestDone_17 : decode cX1_latestDone 17 = .ok (.iload_n 2, 1) := by decide +kernel
theorem dX1_latestDone_18 : decode cX1_latestDone 18 = .ok (.aaload, 1) := by decide +kernel
theorem dX1_latestDone_19 : decode cX1_latestDone 19 = .ok (.getfield 206, 3) := by decide +kernel
theorem dX1_latestDone_22 : decode cX1_latestDone 22 = .ok (.invokestatic 234, 3) := by decide +kernel
theorem dX1_latestDone_25 : decode cX1_latestDone 25 = .ok (.istore_n 1, 1) := by decide +kernel
theorem dX1_latestDone_26 : decode cX1_latestDone 26 = .ok (.iinc 2 1, 3) := by decide +kernel
theorem dX1_latestDone_29 : decode cX1_latestDone 29 = .ok (.goto (-25), 3) := by decide +kernel
theorem dX1_latestDone_32 : decode cX1_latestDone 32 = .ok (.iload_n 1, 1) := by decide +kernel
theorem dX1_latestDone_33 : decode cX1_latestDone 33 = .ok (.ireturn, 1) := by decide +kernel
set_option maxRecDepth 20000 in
set_option maxHeartbeats 4000000 in
theorem vX1_latestDone_0 {l : Launch} {x : CX} {a0 : Nat} {h : PH} {rc rs n0 : Nat} {Q : Option Value → PH → Prop} {X : String → PH → Prop}
    (K : Gm l x mX1_latestDone 1 4 [(0, .ref a0), (1, .int (-1)), (2, .int 0)] [] h rc rs n0 Q X) :
    Gm l x mX1_latestDone 1 0 [(0, .ref a0)] [] h rc rs n0 Q X := by
  refine g_iconst (v := (-1)) dX1_latestDone_0 (by decide) ?_
  refine g_istore_n (lv' := [(0, .ref a0), (1, .int (-1))]) dX1_latestDone_1 rfl (by decide) rfl ?_
  refine g_iconst (v := 0) dX1_latestDone_2 (by decide) ?_
  refine g_istore_n (lv' := [(0, .ref a0), (1, .int (-1)), (2, .int 0)]) dX1_latestDone_3 rfl (by decide) rfl ?_
  exact K
set_option maxRecDepth 20000 in
set_option maxHeartbeats 4000000 in
theorem vX1_latestDone_4 {l : Launch} {x : CX} {a0 : Nat} {x1 : Int32} {x2 : Int32} {h : PH} {rc rs n0 : Nat} {Q : Option Value → PH → Prop} {X : String → PH → Prop}
    (K : ((hK h a0).1 = 1) ∧ (((hI h a0 2) ≤ x2 → Q (some (.int x1)) h) ∧ (¬ (hI h a0 2) ≤ x2 → ∃ b3, (hR h a0 14 = some b3) ∧ ((hK h b3).1 = 106) ∧ (vp_in x2 (hK h b3).2) ∧ ∃ b7, (hR h b3 x2.toNatClampNeg = some b7) ∧ ((hK h b7).1 = 6) ∧ Gm l x mX1_latestDone 1 4 [(0, .ref a0), (1, .int (if x1 < (hI h b7 9) then (hI h b7 9) else x1)), (2, .int (x2 + 1))] [] h rc rs n0 Q X))) :
    Gm l x mX1_latestDone 1 4 [(0, .ref a0), (1, .int x1), (2, .int x2)] [] h rc rs n0 Q X := by
  refine g_iload_n dX1_latestDone_4 rfl 2 rfl ?_
  refine g_aload_n dX1_latestDone_5 rfl 0 rfl ?_
  obtain ⟨e1, K⟩ := K
  refine g_get (c := 1) (k := 2) (v := .int (hI h a0 2)) dX1_latestDone_6 fc_1 (by decide) (by decide) bw_192 rfl e1 ?_
  refine g_icmp_ge (tgt := 32) dX1_latestDone_9 (by decide) (fun c2 => ?_) (fun c2 => ?_)
  · replace K := K.1 c2
    refine g_iload_n dX1_latestDone_32 rfl 1 rfl ?_
    exact g_iret dX1_latestDone_33 rfl K
  · replace K := K.2 c2
    refine g_iload_n dX1_latestDone_12 rfl 1 rfl ?_
    refine g_aload_n dX1_latestDone_13 rfl 0 rfl ?_
    obtain ⟨b3, e4, K⟩ := K
    refine g_get (c := 1) (k := 14) (v := .ref b3) dX1_latestDone_14 fc_1 (by decide) (by decide) bw_226 (congrArg pr e4) e1 ?_
    refine g_iload_n dX1_latestDone_17 rfl 2 rfl ?_
    obtain ⟨e5, e6, b7, e8, K⟩ := K
    refine g_aald (t := 6) (v := .ref b7) dX1_latestDone_18 (Or.inr (Or.inl rfl)) e5 e6 (congrArg pr e8) ?_
    obtain ⟨e9, K⟩ := K
    refine g_get (c := 6) (k := 9) (v := .int (hI h b7 9)) dX1_latestDone_19 fc_6 (by decide) (by decide) bw_163 rfl e9 ?_
    refine g_max dX1_latestDone_22 bw_943 bw_944 bw_14 bw_945 (by decide) (Nat.le_of_ble_eq_true rfl) ?_
    refine g_istore_n (lv' := [(0, .ref a0), (1, .int (if x1 < (hI h b7 9) then (hI h b7 9) else x1)), (2, .int x2)]) dX1_latestDone_25 rfl (by decide) rfl ?_
    refine g_iinc (v := (x2 + 1)) (lv' := [(0, .ref a0), (1, .int (if x1 < (hI h b7 9) then (hI h b7 9) else x1)), (2, .int (x2 + 1))]) dX1_latestDone_26 2 rfl (by rfl) (by decide) rfl ?_
    refine g_goto (tgt := 4) dX1_latestDone_29 (by decide) ?_
    exact K
theorem dX1_isQuiet_0 : decode cX1_isQuiet 0 = .ok (.aload_n 0, 1) := by decide +kernel
theorem dX1_isQuiet_1 : decode cX1_isQuiet 1 = .ok (.getfield 49, 3) := by decide +kernel
theorem dX1_isQuiet_4 : decode cX1_isQuiet 4 = .ok (.aload_n 0, 1) := by decide +kernel
theorem dX1_isQuiet_5 : decode cX1_isQuiet 5 = .ok (.getfield 18, 3) := by decide +kernel
theorem dX1_isQuiet_8 : decode cX1_isQuiet 8 = .ok (.if_icmp .ge 5, 3) := by decide +kernel
theorem dX1_isQuiet_11 : decode cX1_isQuiet 11 = .ok (.iconst 0, 1) := by decide +kernel
theorem dX1_isQuiet_12 : decode cX1_isQuiet 12 = .ok (.ireturn, 1) := by decide +kernel
theorem dX1_isQuiet_13 : decode cX1_isQuiet 13 = .ok (.iconst 0, 1) := by decide +kernel
theorem dX1_isQuiet_14 : decode cX1_isQuiet 14 = .ok (.istore_n 1, 1) := by decide +kernel
theorem dX1_isQuiet_15 : decode cX1_isQuiet 15 = .ok (.iload_n 1, 1) := by decide +kernel
theorem dX1_isQuiet_16 : decode cX1_isQuiet 16 = .ok (.aload_n 0, 1) := by decide +kernel
theorem dX1_isQuiet_17 : decode cX1_isQuiet 17 = .ok (.getfield 15, 3) := by decide +kernel
theorem dX1_isQuiet_20 : decode cX1_isQuiet 20 = .ok (.if_icmp .ge 44, 3) := by decide +kernel
theorem dX1_isQuiet_23 : decode cX1_isQuiet 23 = .ok (.aload_n 0, 1) := by decide +kernel
theorem dX1_isQuiet_24 : decode cX1_isQuiet 24 = .ok (.getfield 54, 3) := by decide +kernel
theorem dX1_isQuiet_27 : decode cX1_isQuiet 27 = .ok (.iload_n 1, 1) := by decide +kernel
theorem dX1_isQuiet_28 : decode cX1_isQuiet 28 = .ok (.aaload, 1) := by decide +kernel
theorem dX1_isQuiet_29 : decode cX1_isQuiet 29 = .ok (.astore_n 2, 1) := by decide +kernel
theorem dX1_isQuiet_30 : decode cX1_isQuiet 30 = .ok (.aload_n 2, 1) := by decide +kernel
theorem dX1_isQuiet_31 : decode cX1_isQuiet 31 = .ok (.getfield 162, 3) := by decide +kernel
theorem dX1_isQuiet_34 : decode cX1_isQuiet 34 = .ok (.ifCond .eq 24, 3) := by decide +kernel
theorem dX1_isQuiet_37 : decode cX1_isQuiet 37 = .ok (.aload_n 2, 1) := by decide +kernel
theorem dX1_isQuiet_38 : decode cX1_isQuiet 38 = .ok (.getfield 159, 3) := by decide +kernel
theorem dX1_isQuiet_41 : decode cX1_isQuiet 41 = .ok (.ifCond .gt 15, 3) := by decide +kernel
theorem dX1_isQuiet_44 : decode cX1_isQuiet 44 = .ok (.aload_n 2, 1) := by decide +kernel
theorem dX1_isQuiet_45 : decode cX1_isQuiet 45 = .ok (.getfield 151, 3) := by decide +kernel
theorem dX1_isQuiet_48 : decode cX1_isQuiet 48 = .ok (.aload_n 0, 1) := by decide +kernel
theorem dX1_isQuiet_49 : decode cX1_isQuiet 49 = .ok (.aload_n 2, 1) := by decide +kernel
theorem dX1_isQuiet_50 : decode cX1_isQuiet 50 = .ok (.invokevirtual 178, 3) := by decide +kernel
theorem dX1_isQuiet_53 : decode cX1_isQuiet 53 = .ok (.if_icmp .eq 5, 3) := by decide +kernel
theorem dX1_isQuiet_56 : decode cX1_isQuiet 56 = .ok (.iconst 0, 1) := by decide +kernel
theorem dX1_isQuiet_57 : decode cX1_isQuiet 57 = .ok (.ireturn, 1) := by decide +kernel
theorem dX1_isQuiet_58 : decode cX1_isQuiet 58 = .ok (.iinc 1 1, 3) := by decide +kernel
theorem dX1_isQuiet_61 : decode cX1_isQuiet 61 = .ok (.goto (-46), 3) := by decide +kernel
theorem dX1_isQuiet_64 : decode cX1_isQuiet 64 = .ok (.iconst 1, 1) := by decide +kernel
theorem dX1_isQuiet_65 : decode cX1_isQuiet 65 = .ok (.ireturn, 1) := by decide +kernel
set_option maxRecDepth 20000 in
set_option maxHeartbeats 4000000 in
theorem vX1_isQuiet_0 {l : Launch} {x : CX} {a0 : Nat} {h : PH} {rc rs n0 : Nat} {Q : Option Value → PH → Prop} {X : String → PH → Prop}
    (K : ((hK h a0).1 = 1) ∧ (((hI h a0 2) ≤ (hI h a0 12) → Gm l x mX1_isQuiet 1 15 [(0, .ref a0), (1, .int 0)] [] h rc rs n0 Q X) ∧ (¬ (hI h a0 2) ≤ (hI h a0 12) → ((0 : Int32) = 0 ∨ (0 : Int32) = 1) ∧ Q (some (.int 0)) h))) :
    Gm l x mX1_isQuiet 1 0 [(0, .ref a0)] [] h rc rs n0 Q X := by
  refine g_aload_n dX1_isQuiet_0 rfl 0 rfl ?_
  obtain ⟨e1, K⟩ := K
  refine g_get (c := 1) (k := 12) (v := .int (hI h a0 12)) dX1_isQuiet_1 fc_1 (by decide) (by decide) bw_220 rfl e1 ?_
  refine g_aload_n dX1_isQuiet_4 rfl 0 rfl ?_
  refine g_get (c := 1) (k := 2) (v := .int (hI h a0 2)) dX1_isQuiet_5 fc_1 (by decide) (by decide) bw_192 rfl e1 ?_
  refine g_icmp_ge (tgt := 13) dX1_isQuiet_8 (by decide) (fun c2 => ?_) (fun c2 => ?_)
  · replace K := K.1 c2
    refine g_iconst (v := 0) dX1_isQuiet_13 (by decide) ?_
    refine g_istore_n (lv' := [(0, .ref a0), (1, .int 0)]) dX1_isQuiet_14 rfl (by decide) rfl ?_
    exact K
  · replace K := K.2 c2
    refine g_iconst (v := 0) dX1_isQuiet_11 (by decide) ?_
    exact g_zret dX1_isQuiet_12 rfl K.1 K.2
set_option maxRecDepth 20000 in
set_option maxHeartbeats 4000000 in
theorem vX1_isQuiet_15 {l : Launch} {x : CX} {a0 : Nat} {x1 : Int32} {h : PH} {rc rs n0 : Nat} {Q : Option Value → PH → Prop} {X : String → PH → Prop}
    (K : ((hK h a0).1 = 1) ∧ (((hI h a0 1) ≤ x1 → ((1 : Int32) = 0 ∨ (1 : Int32) = 1) ∧ Q (some (.int 1)) h) ∧ (¬ (hI h a0 1) ≤ x1 → ∃ b3, (hR h a0 13 = some b3) ∧ ((hK h b3).1 = 105) ∧ (vp_in x1 (hK h b3).2) ∧ ∃ b7, (hR h b3 x1.toNatClampNeg = some b7) ∧ ((hK h b7).1 = 2) ∧ (((hI h b7 6) = 0 → Gm l x mX1_isQuiet 1 15 [(0, .ref a0), (1, .int (x1 + 1))] [] h rc rs n0 Q X) ∧ (¬ (hI h b7 6) = 0 → ((0 < (hI h b7 5) → ((0 : Int32) = 0 ∨ (0 : Int32) = 1) ∧ Q (some (.int 0)) h) ∧ (¬ 0 < (hI h b7 5) → ∃ (q12 : Int32 → PH → Prop), CI l x mX1_restOf 0 0 0 [.ref a0, .ref b7] h q12 ∧ ∀ (r15 : Int32) (h14 : PH), q12 r15 h14 → (((hI h b7 3) = r15 → Gm l x mX1_isQuiet 1 15 [(0, .ref a0), (1, .int (x1 + 1))] [] h14 rc rs n0 Q X) ∧ (¬ (hI h b7 3) = r15 → ((0 : Int32) = 0 ∨ (0 : Int32) = 1) ∧ Q (some (.int 0)) h14))))))))) :
    Gm l x mX1_isQuiet 1 15 [(0, .ref a0), (1, .int x1)] [] h rc rs n0 Q X := by
  refine g_iload_n dX1_isQuiet_15 rfl 1 rfl ?_
  refine g_aload_n dX1_isQuiet_16 rfl 0 rfl ?_
  obtain ⟨e1, K⟩ := K
  refine g_get (c := 1) (k := 1) (v := .int (hI h a0 1)) dX1_isQuiet_17 fc_1 (by decide) (by decide) bw_188 rfl e1 ?_
  refine g_icmp_ge (tgt := 64) dX1_isQuiet_20 (by decide) (fun c2 => ?_) (fun c2 => ?_)
  · replace K := K.1 c2
    refine g_iconst (v := 1) dX1_isQuiet_64 (by decide) ?_
    exact g_zret dX1_isQuiet_65 rfl K.1 K.2
  · replace K := K.2 c2
    refine g_aload_n dX1_isQuiet_23 rfl 0 rfl ?_
    obtain ⟨b3, e4, K⟩ := K
    refine g_get (c := 1) (k := 13) (v := .ref b3) dX1_isQuiet_24 fc_1 (by decide) (by decide) bw_223 (congrArg pr e4) e1 ?_
    refine g_iload_n dX1_isQuiet_27 rfl 1 rfl ?_
    obtain ⟨e5, e6, b7, e8, K⟩ := K
    refine g_aald (t := 5) (v := .ref b7) dX1_isQuiet_28 (Or.inl rfl) e5 e6 (congrArg pr e8) ?_
    refine g_astore_n (lv' := [(0, .ref a0), (1, .int x1), (2, .ref b7)]) dX1_isQuiet_29 rfl (by decide) rfl ?_
    refine g_aload_n dX1_isQuiet_30 rfl 2 rfl ?_
    obtain ⟨e9, K⟩ := K
    refine g_get (c := 2) (k := 6) (v := .int (hI h b7 6)) dX1_isQuiet_31 fc_2 (by decide) (by decide) bw_75 rfl e9 ?_
    refine g_if_eq (tgt := 58) dX1_isQuiet_34 (by decide) (fun c10 => ?_) (fun c10 => ?_)
    · replace K := K.1 c10
      refine g_iinc (v := (x1 + 1)) (lv' := [(0, .ref a0), (1, .int (x1 + 1)), (2, .ref b7)]) dX1_isQuiet_58 1 rfl (by rfl) (by decide) rfl ?_
      refine g_goto (tgt := 15) dX1_isQuiet_61 (by decide) ?_
      exact Gm.sub [0, 1] rfl K
    · replace K := K.2 c10
      refine g_aload_n dX1_isQuiet_37 rfl 2 rfl ?_
      refine g_get (c := 2) (k := 5) (v := .int (hI h b7 5)) dX1_isQuiet_38 fc_2 (by decide) (by decide) bw_71 rfl e9 ?_
      refine g_if_gt (tgt := 56) dX1_isQuiet_41 (by decide) (fun c11 => ?_) (fun c11 => ?_)
      · replace K := K.1 c11
        refine g_iconst (v := 0) dX1_isQuiet_56 (by decide) ?_
        exact g_zret dX1_isQuiet_57 rfl K.1 K.2
      · replace K := K.2 c11
        refine g_aload_n dX1_isQuiet_44 rfl 2 rfl ?_
        refine g_get (c := 2) (k := 3) (v := .int (hI h b7 3)) dX1_isQuiet_45 fc_2 (by decide) (by decide) bw_65 rfl e9 ?_
        refine g_aload_n dX1_isQuiet_48 rfl 0 rfl ?_
        refine g_aload_n dX1_isQuiet_49 rfl 2 rfl ?_
        obtain ⟨q12, C13, K⟩ := K
        refine g_callV (M' := mX1_restOf) (b := a0) (As := [.ref b7]) (rest := [.int (hI h b7 3)]) (rc' := rc) (rs' := rs) dX1_isQuiet_50 bw_477 bw_479 bs_3 bw_3 bw_480 ⟨by decide +kernel, by decide +kernel, show (parseMethodDescriptor mX1_restOf.1.desc).map (fun d => d.parameters.length) = some 1 by decide +kernel⟩ (by decide) (by decide) (Nat.le_of_ble_eq_true rfl) fc_1 (by decide) rfl e1 C13 (Nat.le_of_eq (Nat.add_zero _)) (Nat.le_of_eq (Nat.add_zero _)) (fun _ _ h => h) ?_
        rintro _ h14 ⟨r15, rfl, K1⟩ -
        replace K := K r15 h14 K1
        show Gm l x mX1_isQuiet 1 53 [(0, .ref a0), (1, .int x1), (2, .ref b7)] [.int r15, .int (hI h b7 3)] h14 rc rs n0 Q X
        refine g_icmp_eq (tgt := 58) dX1_isQuiet_53 (by decide) (fun c16 => ?_) (fun c16 => ?_)
        · replace K := K.1 c16
          refine g_iinc (v := (x1 + 1)) (lv' := [(0, .ref a0), (1, .int (x1 + 1)), (2, .ref b7)]) dX1_isQuiet_58 1 rfl (by rfl) (by decide) rfl ?_
          refine g_goto (tgt := 15) dX1_isQuiet_61 (by decide) ?_
          exact Gm.sub [0, 1] rfl K
        · replace K := K.2 c16
          refine g_iconst (v := 0) dX1_isQuiet_56 (by decide) ?_
          exact g_zret dX1_isQuiet_57 rfl K.1 K.2
theorem dX1_overtaken_0 : decode cX1_overtaken 0 = .ok (.iconst 0, 1) := by decide +kernel
theorem dX1_overtaken_1 : decode cX1_overtaken 1 = .ok (.istore_n 1, 1) := by decide +kernel
theorem dX1_overtaken_2 : decode cX1_overtaken 2 = .ok (.iconst 0, 1) := by decide +kernel
theorem dX1_overtaken_3 : decode cX1_overtaken 3 = .ok (.istore_n 2, 1) := by decide +kernel
theorem dX1_overtaken_4 : decode cX1_overtaken 4 = .ok (.iload_n 2, 1) := by decide +kernel
theorem dX1_overtaken_5 : decode cX1_overtaken 5 = .ok (.aload_n 0, 1) := by decide +kernel
theorem dX1_overtaken_6 : decode cX1_overtaken 6 = .ok (.getfield 18, 3) := by decide +kernel
theorem dX1_overtaken_9 : decode cX1_overtaken 9 = .ok (.if_icmp .ge 134, 3) := by decide +kernel
theorem dX1_overtaken_12 : decode cX1_overtaken 12 = .ok (.iload_n 2, 1) := by decide +kernel
theorem dX1_overtaken_13 : decode cX1_overtaken 13 = .ok (.iconst 1, 1) := by decide +kernel
theorem dX1_overtaken_14 : decode cX1_overtaken 14 = .ok (.iadd, 1) := by decide +kernel
theorem dX1_overtaken_15 : decode cX1_overtaken 15 = .ok (.istore_n 3, 1) := by decide +kernel
theorem dX1_overtaken_16 : decode cX1_overtaken 16 = .ok (.iload_n 3, 1) := by decide +kernel
theorem dX1_overtaken_17 : decode cX1_overtaken 17 = .ok (.aload_n 0, 1) := by decide +kernel
theorem dX1_overtaken_18 : decode cX1_overtaken 18 = .ok (.getfield 18, 3) := by decide +kernel
theorem dX1_overtaken_21 : decode cX1_overtaken 21 = .ok (.if_icmp .ge 116, 3) := by decide +kernel
theorem dX1_overtaken_24 : decode cX1_overtaken 24 = .ok (.aload_n 0, 1) := by decide +kernel
theorem dX1_overtaken_25 : decode cX1_overtaken 25 = .ok (.getfield 60, 3) := by decide +kernel
theorem dX1_overtaken_28 : decode cX1_overtaken 28 = .ok (.iload_n 2, 1) := by decide +kernel
theorem dX1_overtaken_29 : decode cX1_overtaken 29 = .ok (.aaload, 1) := by decide +kernel
theorem dX1_overtaken_30 : decode cX1_overtaken 30 = .ok (.getfield 110, 3) := by decide +kernel
theorem dX1_overtaken_33 : decode cX1_overtaken 33 = .ok (.aload_n 0, 1) := by decide +kernel
theorem dX1_overtaken_34 : decode cX1_overtaken 34 = .ok (.getfield 60, 3) := by decide +kernel
theorem dX1_overtaken_37 : decode cX1_overtaken 37 = .ok (.iload_n 3, 1) := by decide +kernel
theorem dX1_overtaken_38 : decode cX1_overtaken 38 = .ok (.aaload, 1) := by decide +kernel
theorem dX1_overtaken_39 : decode cX1_overtaken 39 = .ok (.getfield 110, 3) := by decide +kernel
theorem dX1_overtaken_42 : decode cX1_overtaken 42 = .ok (.if_icmp .gt 7, 3) := by decide +kernel
theorem dX1_overtaken_45 : decode cX1_overtaken 45 = .ok (.iconst 1, 1) := by decide +kernel
theorem dX1_overtaken_46 : decode cX1_overtaken 46 = .ok (.goto 4, 3) := by decide +kernel
theorem dX1_overtaken_49 : decode cX1_overtaken 49 = .ok (.iconst 0, 1) := by decide +kernel
theorem dX1_overtaken_50 : decode cX1_overtaken 50 = .ok (.istore 4, 2) := by decide +kernel
theorem dX1_overtaken_52 : decode cX1_overtaken 52 = .ok (.iload 4, 2) := by decide +kernel
theorem dX1_overtaken_54 : decode cX1_overtaken 54 = .ok (.ifCond .eq 12, 3) := by decide +kernel
theorem dX1_overtaken_57 : decode cX1_overtaken 57 = .ok (.aload_n 0, 1) := by decide +kernel
theorem dX1_overtaken_58 : decode cX1_overtaken 58 = .ok (.getfield 60, 3) := by decide +kernel
theorem dX1_overtaken_61 : decode cX1_overtaken 61 = .ok (.iload_n 2, 1) := by decide +kernel
theorem dX1_overtaken_62 : decode cX1_overtaken 62 = .ok (.aaload, 1) := by decide +kernel
theorem dX1_overtaken_63 : decode cX1_overtaken 63 = .ok (.goto 9, 3) := by decide +kernel
theorem dX1_overtaken_66 : decode cX1_overtaken 66 = .ok (.aload_n 0, 1) := by decide +kernel
theorem dX1_overtaken_67 : decode cX1_overtaken 67 = .ok (.getfield 60, 3) := by decide +kernel
theorem dX1_overtaken_70 : decode cX1_overtaken 70 = .ok (.iload_n 3, 1) := by decide +kernel
theorem dX1_overtaken_71 : decode cX1_overtaken 71 = .ok (.aaload, 1) := by decide +kernel
theorem dX1_overtaken_72 : decode cX1_overtaken 72 = .ok (.astore 5, 2) := by decide +kernel
theorem dX1_overtaken_74 : decode cX1_overtaken 74 = .ok (.iload 4, 2) := by decide +kernel
theorem dX1_overtaken_76 : decode cX1_overtaken 76 = .ok (.ifCond .eq 12, 3) := by decide +kernel
theorem dX1_overtaken_79 : decode cX1_overtaken 79 = .ok (.aload_n 0, 1) := by decide +kernel
theorem dX1_overtaken_80 : decode cX1_overtaken 80 = .ok (.getfield 60, 3) := by decide +kernel
theorem dX1_overtaken_83 : decode cX1_overtaken 83 = .ok (.iload_n 3, 1) := by decide +kernel
theorem dX1_overtaken_84 : decode cX1_overtaken 84 = .ok (.aaload, 1) := by decide +kernel
theorem dX1_overtaken_85 : decode cX1_overtaken 85 = .ok (.goto 9, 3) := by decide +kernel
theorem dX1_overtaken_88 : decode cX1_overtaken 88 = .ok (.aload_n 0, 1) := by decide +kernel
theorem dX1_overtaken_89 : decode cX1_overtaken 89 = .ok (.getfield 60, 3) := by decide +kernel
theorem dX1_overtaken_92 : decode cX1_overtaken 92 = .ok (.iload_n 2, 1) := by decide +kernel
theorem dX1_overtaken_93 : decode cX1_overtaken 93 = .ok (.aaload, 1) := by decide +kernel
theorem dX1_overtaken_94 : decode cX1_overtaken 94 = .ok (.astore 6, 2) := by decide +kernel
theorem dX1_overtaken_96 : decode cX1_overtaken 96 = .ok (.aload 5, 2) := by decide +kernel
theorem dX1_overtaken_98 : decode cX1_overtaken 98 = .ok (.aload 6, 2) := by decide +kernel
theorem dX1_overtaken_100 : decode cX1_overtaken 100 = .ok (.invokestatic 241, 3) := by decide +kernel
theorem dX1_overtaken_103 : decode cX1_overtaken 103 = .ok (.ifCond .eq 28, 3) := by decide +kernel
theorem dX1_overtaken_106 : decode cX1_overtaken 106 = .ok (.aload 6, 2) := by decide +kernel
theorem dX1_overtaken_108 : decode cX1_overtaken 108 = .ok (.getfield 245, 3) := by decide +kernel
theorem dX1_overtaken_111 : decode cX1_overtaken 111 = .ok (.iconst (-1), 1) := by decide +kernel
theorem dX1_overtaken_112 : decode cX1_overtaken 112 = .ok (.if_icmp .eq 19, 3) := by decide +kernel
theorem dX1_overtaken_115 : decode cX1_overtaken 115 = .ok (.aload 6, 2) := by decide +kernel
theorem dX1_overtaken_117 : decode cX1_overtaken 117 = .ok (.getfield 245, 3) := by decide +kernel
theorem dX1_overtaken_120 : decode cX1_overtaken 120 = .ok (.aload 5, 2) := by decide +kernel
theorem dX1_overtaken_122 : decode cX1_overtaken 122 = .ok (.getfield 245, 3) := by decide +kernel
theorem dX1_overtaken_125 : decode cX1_overtaken 125 = .ok (.if_icmp .ge 6, 3) := by decide +kernel
theorem dX1_overtaken_128 : decode cX1_overtaken 128 = .ok (.iinc 1 1, 3) := by decide +kernel
theorem dX1_overtaken_131 : decode cX1_overtaken 131 = .ok (.iinc 3 1, 3) := by decide +kernel
theorem dX1_overtaken_134 : decode cX1_overtaken 134 = .ok (.goto (-118), 3) := by decide +kernel
theorem dX1_overtaken_137 : decode cX1_overtaken 137 = .ok (.iinc 2 1, 3) := by decide +kernel
theorem dX1_overtaken_140 : decode cX1_overtaken 140 = .ok (.goto (-136), 3) := by decide +kernel
theorem dX1_overtaken_143 : decode cX1_overtaken 143 = .ok (.iload_n 1, 1) := by decide +kernel
theorem dX1_overtaken_144 : decode cX1_overtaken 144 = .ok (.ireturn, 1) := by decide +kernel
set_option maxRecDepth 20000 in
set_option maxHeartbeats 4000000 in
theorem vX1_overtaken_0 {l : Launch} {x : CX} {a0 : Nat} {h : PH} {rc rs n0 : Nat} {Q : Option Value → PH → Prop} {X : String → PH → Prop}
    (K : Gm l x mX1_overtaken 1 4 [(0, .ref a0), (1, .int 0), (2, .int 0)] [] h rc rs n0 Q X) :
    Gm l x mX1_overtaken 1 0 [(0, .ref a0)] [] h rc rs n0 Q X := by
  refine g_iconst (v := 0) dX1_overtaken_0 (by decide) ?_
  refine g_istore_n (lv' := [(0, .ref a0), (1, .int 0)]) dX1_overtaken_1 rfl (by decide) rfl ?_
  refine g_iconst (v := 0) dX1_overtaken_2 (by decide) ?_
  refine g_istore_n (lv' := [(0, .ref a0), (1, .int 0), (2, .int 0)]) dX1_overtaken_3 rfl (by decide) rfl ?_
  exact K
set_option maxRecDepth 20000 in
set_option maxHeartbeats 4000000 in
theorem vX1_overtaken_4 {l : Launch} {x : CX} {a0 : Nat} {x1 : Int32} {x2 : Int32} {h : PH} {rc rs n0 : Nat} {Q : Option Value → PH → Prop} {X : String → PH → Prop}
    (K : ((hK h a0).1 = 1) ∧ (((hI h a0 2) ≤ x2 → Q (some (.int x1)) h) ∧ (¬ (hI h a0 2) ≤ x2 → Gm l x mX1_overtaken 1 16 [(0, .ref a0), (1, .int x1), (2, .int x2), (3, .int (x2 + 1))] [] h rc rs n0 Q X))) :
    Gm l x mX1_overtaken 1 4 [(0, .ref a0), (1, .int x1), (2, .int x2)] [] h rc rs n0 Q X := by
  refine g_iload_n dX1_overtaken_4 rfl 2 rfl ?_
  refine g_aload_n dX1_overtaken_5 rfl 0 rfl ?_
  obtain ⟨e1, K⟩ := K
  refine g_get (c := 1) (k := 2) (v := .int (hI h a0 2)) dX1_overtaken_6 fc_1 (by decide) (by decide) bw_192 rfl e1 ?_
  refine g_icmp_ge (tgt := 143) dX1_overtaken_9 (by decide) (fun c2 => ?_) (fun c2 => ?_)
  · replace K := K.1 c2
    refine g_iload_n dX1_overtaken_143 rfl 1 rfl ?_
    exact g_iret dX1_overtaken_144 rfl K
  · replace K := K.2 c2
    refine g_iload_n dX1_overtaken_12 rfl 2 rfl ?_
    refine g_iconst (v := 1) dX1_overtaken_13 (by decide) ?_
    refine g_iadd dX1_overtaken_14 ?_
    refine g_istore_n (lv' := [(0, .ref a0), (1, .int x1), (2, .int x2), (3, .int (x2 + 1))]) dX1_overtaken_15 rfl (by decide) rfl ?_
    exact K
set_option maxRecDepth 20000 in
set_option maxHeartbeats 4000000 in
theorem vX1_overtaken_16 {l : Launch} {x : CX} {a0 : Nat} {x1 : Int32} {x2 : Int32} {x3 : Int32} {h : PH} {rc rs n0 : Nat} {Q : Option Value → PH → Prop} {X : String → PH → Prop}
    (K : ((hK h a0).1 = 1) ∧ (((hI h a0 2) ≤ x3 → Gm l x mX1_overtaken 1 4 [(0, .ref a0), (1, .int x1), (2, .int (x2 + 1))] [] h rc rs n0 Q X) ∧ (¬ (hI h a0 2) ≤ x3 → ∃ b3, (hR h a0 14 = some b3) ∧ ((hK h b3).1 = 106) ∧ (vp_in x2 (hK h b3).2) ∧ ∃ b7, (hR h b3 x2.toNatClampNeg = some b7) ∧ ((hK h b7).1 = 6) ∧ (vp_in x3 (hK h b3).2) ∧ ∃ b11, (hR h b3 x3.toNatClampNeg = some b11) ∧ ((hK h b11).1 = 6) ∧ (((if (hI h b11 1) < (hI h b7 1) then 0 else 1 : Int32) = 0 → (vp_in x3 (hK h b3).2) ∧ ∃ b17, (hR h b3 x3.toNatClampNeg = some b17) ∧ (((if (hI h b11 1) < (hI h b7 1) then 0 else 1 : Int32) = 0 → (vp_in x2 (hK h b3).2) ∧ ∃ b21, (hR h b3 x2.toNatClampNeg = some b21) ∧ ∃ (q23 : Int32 → PH → Prop), CI l x mX1_goAlike 0 0 0 [.ref b17, .ref b21] h q23 ∧ ∀ (r26 : Int32) (h25 : PH), q23 r26 h25 → ((r26 = 0 → Gm l x mX1_overtaken 1 16 [(0, .ref a0), (1, .int x1), (2, .int x2), (3, .int (x3 + 1))] [] h25 rc rs n0 Q X) ∧ (¬ r26 = 0 → ((hK h25 b21).1 = 6) ∧ (((hI h25 b21 8) = (-1) → Gm l x mX1_overtaken 1 16 [(0, .ref a0), (1, .int x1), (2, .int x2), (3, .int (x3 + 1))] [] h25 rc rs n0 Q X) ∧ (¬ (hI h25 b21 8) = (-1) → ((hK h25 b17).1 = 6) ∧ Gm l x mX1_overtaken 1 16 [(0, .ref a0), (1, .int (if (hI h25 b17 8) ≤ (hI h25 b21 8) then x1 else (x1 + 1) : Int32)), (2, .int x2), (3, .int (x3 + 1))] [] h25 rc rs n0 Q X))))) ∧ (¬ (if (hI h b11 1) < (hI h b7 1) then 0 else 1 : Int32) = 0 → (vp_in x3 (hK h b3).2) ∧ ∃ b33, (hR h b3 x3.toNatClampNeg = some b33) ∧ ∃ (q35 : Int32 → PH → Prop), CI l x mX1_goAlike 0 0 0 [.ref b17, .ref b33] h q35 ∧ ∀ (r38 : Int32) (h37 : PH), q35 r38 h37 → ((r38 = 0 → Gm l x mX1_overtaken 1 16 [(0, .ref a0), (1, .int x1), (2, .int x2), (3, .int (x3 + 1))] [] h37 rc rs n0 Q X) ∧ (¬ r38 = 0 → ((hK h37 b33).1 = 6) ∧ (((hI h37 b33 8) = (-1) → Gm l x mX1_overtaken 1 16 [(0, .ref a0), (1, .int x1), (2, .int x2), (3, .int (x3 + 1))] [] h37 rc rs n0 Q X) ∧ (¬ (hI h37 b33 8) = (-1) → ((hK h37 b17).1 = 6) ∧ Gm l x mX1_overtaken 1 16 [(0, .ref a0), (1, .int (if (hI h37 b17 8) ≤ (hI h37 b33 8) then x1 else (x1 + 1) : Int32)), (2, .int x2), (3, .int (x3 + 1))] [] h37 rc rs n0 Q X))))))) ∧ (¬ (if (hI h b11 1) < (hI h b7 1) then 0 else 1 : Int32) = 0 → (vp_in x2 (hK h b3).2) ∧ ∃ b45, (hR h b3 x2.toNatClampNeg = some b45) ∧ (((if (hI h b11 1) < (hI h b7 1) then 0 else 1 : Int32) = 0 → (vp_in x2 (hK h b3).2) ∧ ∃ b49, (hR h b3 x2.toNatClampNeg = some b49) ∧ ∃ (q51 : Int32 → PH → Prop), CI l x mX1_goAlike 0 0 0 [.ref b45, .ref b49] h q51 ∧ ∀ (r54 : Int32) (h53 : PH), q51 r54 h53 → ((r54 = 0 → Gm l x mX1_overtaken 1 16 [(0, .ref a0), (1, .int x1), (2, .int x2), (3, .int (x3 + 1))] [] h53 rc rs n0 Q X) ∧ (¬ r54 = 0 → ((hK h53 b49).1 = 6) ∧ (((hI h53 b49 8) = (-1) → Gm l x mX1_overtaken 1 16 [(0, .ref a0), (1, .int x1), (2, .int x2), (3, .int (x3 + 1))] [] h53 rc rs n0 Q X) ∧ (¬ (hI h53 b49 8) = (-1) → ((hK h53 b45).1 = 6) ∧ Gm l x mX1_overtaken 1 16 [(0, .ref a0), (1, .int (if (hI h53 b45 8) ≤ (hI h53 b49 8) then x1 else (x1 + 1) : Int32)), (2, .int x2), (3, .int (x3 + 1))] [] h53 rc rs n0 Q X))))) ∧ (¬ (if (hI h b11 1) < (hI h b7 1) then 0 else 1 : Int32) = 0 → (vp_in x3 (hK h b3).2) ∧ ∃ b61, (hR h b3 x3.toNatClampNeg = some b61) ∧ ∃ (q63 : Int32 → PH → Prop), CI l x mX1_goAlike 0 0 0 [.ref b45, .ref b61] h q63 ∧ ∀ (r66 : Int32) (h65 : PH), q63 r66 h65 → ((r66 = 0 → Gm l x mX1_overtaken 1 16 [(0, .ref a0), (1, .int x1), (2, .int x2), (3, .int (x3 + 1))] [] h65 rc rs n0 Q X) ∧ (¬ r66 = 0 → ((hK h65 b61).1 = 6) ∧ (((hI h65 b61 8) = (-1) → Gm l x mX1_overtaken 1 16 [(0, .ref a0), (1, .int x1), (2, .int x2), (3, .int (x3 + 1))] [] h65 rc rs n0 Q X) ∧ (¬ (hI h65 b61 8) = (-1) → ((hK h65 b45).1 = 6) ∧ Gm l x mX1_overtaken 1 16 [(0, .ref a0), (1, .int (if (hI h65 b45 8) ≤ (hI h65 b61 8) then x1 else (x1 + 1) : Int32)), (2, .int x2), (3, .int (x3 + 1))] [] h65 rc rs n0 Q X))))))))))) :
    Gm l x mX1_overtaken 1 16 [(0, .ref a0), (1, .int x1), (2, .int x2), (3, .int x3)] [] h rc rs n0 Q X := by
  refine g_iload_n dX1_overtaken_16 rfl 3 rfl ?_
  refine g_aload_n dX1_overtaken_17 rfl 0 rfl ?_
  obtain ⟨e1, K⟩ := K
  refine g_get (c := 1) (k := 2) (v := .int (hI h a0 2)) dX1_overtaken_18 fc_1 (by decide) (by decide) bw_192 rfl e1 ?_
  refine g_icmp_ge (tgt := 137) dX1_overtaken_21 (by decide) (fun c2 => ?_) (fun c2 => ?_)
  · replace K := K.1 c2
    refine g_iinc (v := (x2 + 1)) (lv' := [(0, .ref a0), (1, .int x1), (2, .int (x2 + 1)), (3, .int x3)]) dX1_overtaken_137 2 rfl (by rfl) (by decide) rfl ?_
    refine g_goto (tgt := 4) dX1_overtaken_140 (by decide) ?_
    exact Gm.sub [0, 1, 2] rfl K
  · replace K := K.2 c2
    refine g_aload_n dX1_overtaken_24 rfl 0 rfl ?_
    obtain ⟨b3, e4, K⟩ := K
    refine g_get (c := 1) (k := 14) (v := .ref b3) dX1_overtaken_25 fc_1 (by decide) (by decide) bw_226 (congrArg pr e4) e1 ?_
    refine g_iload_n dX1_overtaken_28 rfl 2 rfl ?_
    obtain ⟨e5, e6, b7, e8, K⟩ := K
    refine g_aald (t := 6) (v := .ref b7) dX1_overtaken_29 (Or.inr (Or.inl rfl)) e5 e6 (congrArg pr e8) ?_
    obtain ⟨e9, K⟩ := K
    refine g_get (c := 6) (k := 1) (v := .int (hI h b7 1)) dX1_overtaken_30 fc_6 (by decide) (by decide) bw_135 rfl e9 ?_
    refine g_aload_n dX1_overtaken_33 rfl 0 rfl ?_
    refine g_get (c := 1) (k := 14) (v := .ref b3) dX1_overtaken_34 fc_1 (by decide) (by decide) bw_226 (congrArg pr e4) e1 ?_
    refine g_iload_n dX1_overtaken_37 rfl 3 rfl ?_
    obtain ⟨e10, b11, e12, K⟩ := K
    refine g_aald (t := 6) (v := .ref b11) dX1_overtaken_38 (Or.inr (Or.inl rfl)) e5 e10 (congrArg pr e12) ?_
    obtain ⟨e13, K⟩ := K
    refine g_get (c := 6) (k := 1) (v := .int (hI h b11 1)) dX1_overtaken_39 fc_6 (by decide) (by decide) bw_135 rfl e13 ?_
    have KJ : Gm l x mX1_overtaken 1 50 [(0, .ref a0), (1, .int x1), (2, .int x2), (3, .int x3)] [.int (if (hI h b11 1) < (hI h b7 1) then 0 else 1 : Int32)] h rc rs n0 Q X := by
      refine g_istore (lv' := [(0, .ref a0), (1, .int x1), (2, .int x2), (3, .int x3), (4, .int (if (hI h b11 1) < (hI h b7 1) then 0 else 1 : Int32))]) dX1_overtaken_50 (by decide) rfl ?_
      refine g_iload dX1_overtaken_52 4 rfl ?_
      refine g_if_eq (tgt := 66) dX1_overtaken_54 (by decide) (fun c15 => ?_) (fun c15 => ?_)
      · replace K := K.1 c15
        refine g_aload_n dX1_overtaken_66 rfl 0 rfl ?_
        refine g_get (c := 1) (k := 14) (v := .ref b3) dX1_overtaken_67 fc_1 (by decide) (by decide) bw_226 (congrArg pr e4) e1 ?_
        refine g_iload_n dX1_overtaken_70 rfl 3 rfl ?_
        obtain ⟨e16, b17, e18, K⟩ := K
        refine g_aald (t := 6) (v := .ref b17) dX1_overtaken_71 (Or.inr (Or.inl rfl)) e5 e16 (congrArg pr e18) ?_
        refine g_astore (lv' := [(0, .ref a0), (1, .int x1), (2, .int x2), (3, .int x3), (4, .int (if (hI h b11 1) < (hI h b7 1) then 0 else 1 : Int32)), (5, .ref b17)]) dX1_overtaken_72 (by decide) rfl ?_
        refine g_iload dX1_overtaken_74 4 rfl ?_
        refine g_if_eq (tgt := 88) dX1_overtaken_76 (by decide) (fun c19 => ?_) (fun c19 => ?_)
        · replace K := K.1 c19
          refine g_aload_n dX1_overtaken_88 rfl 0 rfl ?_
          refine g_get (c := 1) (k := 14) (v := .ref b3) dX1_overtaken_89 fc_1 (by decide) (by decide) bw_226 (congrArg pr e4) e1 ?_
          refine g_iload_n dX1_overtaken_92 rfl 2 rfl ?_
          obtain ⟨e20, b21, e22, K⟩ := K
          refine g_aald (t := 6) (v := .ref b21) dX1_overtaken_93 (Or.inr (Or.inl rfl)) e5 e20 (congrArg pr e22) ?_
          refine g_astore (lv' := [(0, .ref a0), (1, .int x1), (2, .int x2), (3, .int x3), (4, .int (if (hI h b11 1) < (hI h b7 1) then 0 else 1 : Int32)), (5, .ref b17), (6, .ref b21)]) dX1_overtaken_94 (by decide) rfl ?_
          refine g_aload dX1_overtaken_96 5 rfl ?_
          refine g_aload dX1_overtaken_98 6 rfl ?_
          obtain ⟨q23, C24, K⟩ := K
          refine g_callS (M' := mX1_goAlike) (As := [.ref b17, .ref b21]) (rest := []) (rc' := rc) (rs' := rs) dX1_overtaken_100 bw_963 bw_964 bw_3 bw_965 ⟨by decide +kernel, by decide +kernel, show (parseMethodDescriptor mX1_goAlike.1.desc).map (fun d => d.parameters.length) = some 2 by decide +kernel⟩ (by decide) (by decide) (Nat.le_of_ble_eq_true rfl) C24 (Nat.le_of_eq (Nat.add_zero _)) (Nat.le_of_eq (Nat.add_zero _)) (fun _ _ h => h) ?_
          rintro _ h25 ⟨r26, rfl, K1⟩ -
          replace K := K r26 h25 K1
          show Gm l x mX1_overtaken 1 103 [(0, .ref a0), (1, .int x1), (2, .int x2), (3, .int x3), (4, .int (if (hI h b11 1) < (hI h b7 1) then 0 else 1 : Int32)), (5, .ref b17), (6, .ref b21)] [.int r26] h25 rc rs n0 Q X
          refine g_if_eq (tgt := 131) dX1_overtaken_103 (by decide) (fun c27 => ?_) (fun c27 => ?_)
          · replace K := K.1 c27
            refine g_iinc (v := (x3 + 1)) (lv' := [(0, .ref a0), (1, .int x1), (2, .int x2), (3, .int (x3 + 1)), (4, .int (if (hI h b11 1) < (hI h b7 1) then 0 else 1 : Int32)), (5, .ref b17), (6, .ref b21)]) dX1_overtaken_131 3 rfl (by rfl) (by decide) rfl ?_
            refine g_goto (tgt := 16) dX1_overtaken_134 (by decide) ?_
            exact Gm.sub [0, 1, 2, 3] rfl K
          · replace K := K.2 c27
            refine g_aload dX1_overtaken_106 6 rfl ?_
            obtain ⟨e28, K⟩ := K
            refine g_get (c := 6) (k := 8) (v := .int (hI h25 b21 8)) dX1_overtaken_108 fc_6 (by decide) (by decide) bw_159 rfl e28 ?_
            refine g_iconst (v := (-1)) dX1_overtaken_111 (by decide) ?_
            refine g_icmp_eq (tgt := 131) dX1_overtaken_112 (by decide) (fun c29 => ?_) (fun c29 => ?_)
            · replace K := K.1 c29
              refine g_iinc (v := (x3 + 1)) (lv' := [(0, .ref a0), (1, .int x1), (2, .int x2), (3, .int (x3 + 1)), (4, .int (if (hI h b11 1) < (hI h b7 1) then 0 else 1 : Int32)), (5, .ref b17), (6, .ref b21)]) dX1_overtaken_131 3 rfl (by rfl) (by decide) rfl ?_
              refine g_goto (tgt := 16) dX1_overtaken_134 (by decide) ?_
              exact Gm.sub [0, 1, 2, 3] rfl K
            · replace K := K.2 c29
              refine g_aload dX1_overtaken_115 6 rfl ?_
              refine g_get (c := 6) (k := 8) (v := .int (hI h25 b21 8)) dX1_overtaken_117 fc_6 (by decide) (by decide) bw_159 rfl e28 ?_
              refine g_aload dX1_overtaken_120 5 rfl ?_
              obtain ⟨e30, K⟩ := K
              refine g_get (c := 6) (k := 8) (v := .int (hI h25 b17 8)) dX1_overtaken_122 fc_6 (by decide) (by decide) bw_159 rfl e30 ?_
              have KJ : Gm l x mX1_overtaken 1 131 [(0, .ref a0), (1, .int (if (hI h25 b17 8) ≤ (hI h25 b21 8) then x1 else (x1 + 1) : Int32)), (2, .int x2), (3, .int x3), (4, .int (if (hI h b11 1) < (hI h b7 1) then 0 else 1 : Int32)), (5, .ref b17), (6, .ref b21)] [] h25 rc rs n0 Q X := by
                refine g_iinc (v := (x3 + 1)) (lv' := [(0, .ref a0), (1, .int (if (hI h25 b17 8) ≤ (hI h25 b21 8) then x1 else (x1 + 1) : Int32)), (2, .int x2), (3, .int (x3 + 1)), (4, .int (if (hI h b11 1) < (hI h b7 1) then 0 else 1 : Int32)), (5, .ref b17), (6, .ref b21)]) dX1_overtaken_131 3 rfl (by rfl) (by decide) rfl ?_
                refine g_goto (tgt := 16) dX1_overtaken_134 (by decide) ?_
                exact Gm.sub [0, 1, 2, 3] rfl K
              refine g_icmp_ge (tgt := 131) dX1_overtaken_125 (by decide) (fun c31 => ?_) (fun c31 => ?_)
              · first | (simp only [if_pos c31] at KJ; exact KJ) | (simp only [if_pos c31, ite_true, ite_false, eq_self] at KJ; exact KJ) | (simp only [if_pos c31] at KJ ⊢; exact KJ) | exact KJ
              · refine g_iinc (v := (x1 + 1)) (lv' := [(0, .ref a0), (1, .int (x1 + 1)), (2, .int x2), (3, .int x3), (4, .int (if (hI h b11 1) < (hI h b7 1) then 0 else 1 : Int32)), (5, .ref b17), (6, .ref b21)]) dX1_overtaken_128 1 rfl (by rfl) (by decide) rfl ?_
                first | (simp only [if_neg c31] at KJ; exact KJ) | (simp only [if_neg c31, ite_true, ite_false, eq_self] at KJ; exact KJ) | (simp only [if_neg c31] at KJ ⊢; exact KJ) | exact KJ
        · replace K := K.2 c19
          refine g_aload_n dX1_overtaken_79 rfl 0 rfl ?_
          refine g_get (c := 1) (k := 14) (v := .ref b3) dX1_overtaken_80 fc_1 (by decide) (by decide) bw_226 (congrArg pr e4) e1 ?_
          refine g_iload_n dX1_overtaken_83 rfl 3 rfl ?_
          obtain ⟨e32, b33, e34, K⟩ := K
          refine g_aald (t := 6) (v := .ref b33) dX1_overtaken_84 (Or.inr (Or.inl rfl)) e5 e32 (congrArg pr e34) ?_
          refine g_goto (tgt := 94) dX1_overtaken_85 (by decide) ?_
          refine g_astore (lv' := [(0, .ref a0), (1, .int x1), (2, .int x2), (3, .int x3), (4, .int (if (hI h b11 1) < (hI h b7 1) then 0 else 1 : Int32)), (5, .ref b17), (6, .ref b33)]) dX1_overtaken_94 (by decide) rfl ?_
          refine g_aload dX1_overtaken_96 5 rfl ?_
          refine g_aload dX1_overtaken_98 6 rfl ?_
          obtain ⟨q35, C36, K⟩ := K
          refine g_callS (M' := mX1_goAlike) (As := [.ref b17, .ref b33]) (rest := []) (rc' := rc) (rs' := rs) dX1_overtaken_100 bw_963 bw_964 bw_3 bw_965 ⟨by decide +kernel, by decide +kernel, show (parseMethodDescriptor mX1_goAlike.1.desc).map (fun d => d.parameters.length) = some 2 by decide +kernel⟩ (by decide) (by decide) (Nat.le_of_ble_eq_true rfl) C36 (Nat.le_of_eq (Nat.add_zero _)) (Nat.le_of_eq (Nat.add_zero _)) (fun _ _ h => h) ?_
          rintro _ h37 ⟨r38, rfl, K1⟩ -
          replace K := K r38 h37 K1
          show Gm l x mX1_overtaken 1 103 [(0, .ref a0), (1, .int x1), (2, .int x2), (3, .int x3), (4, .int (if (hI h b11 1) < (hI h b7 1) then 0 else 1 : Int32)), (5, .ref b17), (6, .ref b33)] [.int r38] h37 rc rs n0 Q X
          refine g_if_eq (tgt := 131) dX1_overtaken_103 (by decide) (fun c39 => ?_) (fun c39 => ?_)
          · replace K := K.1 c39
            refine g_iinc (v := (x3 + 1)) (lv' := [(0, .ref a0), (1, .int x1), (2, .int x2), (3, .int (x3 + 1)), (4, .int (if (hI h b11 1) < (hI h b7 1) then 0 else 1 : Int32)), (5, .ref b17), (6, .ref b33)]) dX1_overtaken_131 3 rfl (by rfl) (by decide) rfl ?_
            refine g_goto (tgt := 16) dX1_overtaken_134 (by decide) ?_
            exact Gm.sub [0, 1, 2, 3] rfl K
          · replace K := K.2 c39
            refine g_aload dX1_overtaken_106 6 rfl ?_
            obtain ⟨e40, K⟩ := K
            refine g_get (c := 6) (k := 8) (v := .int (hI h37 b33 8)) dX1_overtaken_108 fc_6 (by decide) (by decide) bw_159 rfl e40 ?_
            refine g_iconst (v := (-1)) dX1_overtaken_111 (by decide) ?_
            refine g_icmp_eq (tgt := 131) dX1_overtaken_112 (by decide) (fun c41 => ?_) (fun c41 => ?_)
            · replace K := K.1 c41
              refine g_iinc (v := (x3 + 1)) (lv' := [(0, .ref a0), (1, .int x1), (2, .int x2), (3, .int (x3 + 1)), (4, .int (if (hI h b11 1) < (hI h b7 1) then 0 else 1 : Int32)), (5, .ref b17), (6, .ref b33)]) dX1_overtaken_131 3 rfl (by rfl) (by decide) rfl ?_
              refine g_goto (tgt := 16) dX1_overtaken_134 (by decide) ?_
              exact Gm.sub [0, 1, 2, 3] rfl K
            · replace K := K.2 c41
              refine g_aload dX1_overtaken_115 6 rfl ?_
              refine g_get (c := 6) (k := 8) (v := .int (hI h37 b33 8)) dX1_overtaken_117 fc_6 (by decide) (by decide) bw_159 rfl e40 ?_
              refine g_aload dX1_overtaken_120 5 rfl ?_
              obtain ⟨e42, K⟩ := K
              refine g_get (c := 6) (k := 8) (v := .int (hI h37 b17 8)) dX1_overtaken_122 fc_6 (by decide) (by decide) bw_159 rfl e42 ?_
              have KJ : Gm l x mX1_overtaken 1 131 [(0, .ref a0), (1, .int (if (hI h37 b17 8) ≤ (hI h37 b33 8) then x1 else (x1 + 1) : Int32)), (2, .int x2), (3, .int x3), (4, .int (if (hI h b11 1) < (hI h b7 1) then 0 else 1 : Int32)), (5, .ref b17), (6, .ref b33)] [] h37 rc rs n0 Q X := by
                refine g_iinc (v := (x3 + 1)) (lv' := [(0, .ref a0), (1, .int (if (hI h37 b17 8) ≤ (hI h37 b33 8) then x1 else (x1 + 1) : Int32)), (2, .int x2), (3, .int (x3 + 1)), (4, .int (if (hI h b11 1) < (hI h b7 1) then 0 else 1 : Int32)), (5, .ref b17), (6, .ref b33)]) dX1_overtaken_131 3 rfl (by rfl) (by decide) rfl ?_
                refine g_goto (tgt := 16) dX1_overtaken_134 (by decide) ?_
                exact Gm.sub [0, 1, 2, 3] rfl K
              refine g_icmp_ge (tgt := 131) dX1_overtaken_125 (by decide) (fun c43 => ?_) (fun c43 => ?_)
              · first | (simp only [if_pos c43] at KJ; exact KJ) | (simp only [if_pos c43, ite_true, ite_false, eq_self] at KJ; exact KJ) | (simp only [if_pos c43] at KJ ⊢; exact KJ) | exact KJ
              · refine g_iinc (v := (x1 + 1)) (lv' := [(0, .ref a0), (1, .int (x1 + 1)), (2, .int x2), (3, .int x3), (4, .int (if (hI h b11 1) < (hI h b7 1) then 0 else 1 : Int32)), (5, .ref b17), (6, .ref b33)]) dX1_overtaken_128 1 rfl (by rfl) (by decide) rfl ?_
                first | (simp only [if_neg c43] at KJ; exact KJ) | (simp only [if_neg c43, ite_true, ite_false, eq_self] at KJ; exact KJ) | (simp only [if_neg c43] at KJ ⊢; exact KJ) | exact KJ
      · replace K := K.2 c15
        refine g_aload_n dX1_overtaken_57 rfl 0 rfl ?_
        refine g_get (c := 1) (k := 14) (v := .ref b3) dX1_overtaken_58 fc_1 (by decide) (by decide) bw_226 (congrArg pr e4) e1 ?_
        refine g_iload_n dX1_overtaken_61 rfl 2 rfl ?_
        obtain ⟨e44, b45, e46, K⟩ := K
        refine g_aald (t := 6) (v := .ref b45) dX1_overtaken_62 (Or.inr (Or.inl rfl)) e5 e44 (congrArg pr e46) ?_
        refine g_goto (tgt := 72) dX1_overtaken_63 (by decide) ?_
        refine g_astore (lv' := [(0, .ref a0), (1, .int x1), (2, .int x2), (3, .int x3), (4, .int (if (hI h b11 1) < (hI h b7 1) then 0 else 1 : Int32)), (5, .ref b45)]) dX1_overtaken_72 (by decide) rfl ?_
        refine g_iload dX1_overtaken_74 4 rfl ?_
        refine g_if_eq (tgt := 88) dX1_overtaken_76 (by decide) (fun c47 => ?_) (fun c47 => ?_)
        · replace K := K.1 c47
          refine g_aload_n dX1_overtaken_88 rfl 0 rfl ?_
          refine g_get (c := 1) (k := 14) (v := .ref b3) dX1_overtaken_89 fc_1 (by decide) (by decide) bw_226 (congrArg pr e4) e1 ?_
          refine g_iload_n dX1_overtaken_92 rfl 2 rfl ?_
          obtain ⟨e48, b49, e50, K⟩ := K
          refine g_aald (t := 6) (v := .ref b49) dX1_overtaken_93 (Or.inr (Or.inl rfl)) e5 e48 (congrArg pr e50) ?_
          refine g_astore (lv' := [(0, .ref a0), (1, .int x1), (2, .int x2), (3, .int x3), (4, .int (if (hI h b11 1) < (hI h b7 1) then 0 else 1 : Int32)), (5, .ref b45), (6, .ref b49)]) dX1_overtaken_94 (by decide) rfl ?_
          refine g_aload dX1_overtaken_96 5 rfl ?_
          refine g_aload dX1_overtaken_98 6 rfl ?_
          obtain ⟨q51, C52, K⟩ := K
          refine g_callS (M' := mX1_goAlike) (As := [.ref b45, .ref b49]) (rest := []) (rc' := rc) (rs' := rs) dX1_overtaken_100 bw_963 bw_964 bw_3 bw_965 ⟨by decide +kernel, by decide +kernel, show (parseMethodDescriptor mX1_goAlike.1.desc).map (fun d => d.parameters.length) = some 2 by decide +kernel⟩ (by decide) (by decide) (Nat.le_of_ble_eq_true rfl) C52 (Nat.le_of_eq (Nat.add_zero _)) (Nat.le_of_eq (Nat.add_zero _)) (fun _ _ h => h) ?_
          rintro _ h53 ⟨r54, rfl, K1⟩ -
          replace K := K r54 h53 K1
          show Gm l x mX1_overtaken 1 103 [(0, .ref a0), (1, .int x1), (2, .int x2), (3, .int x3), (4, .int (if (hI h b11 1) < (hI h b7 1) then 0 else 1 : Int32)), (5, .ref b45), (6, .ref b49)] [.int r54] h53 rc rs n0 Q X
          refine g_if_eq (tgt := 131) dX1_overtaken_103 (by decide) (fun c55 => ?_) (fun c55 => ?_)
          · replace K := K.1 c55
            refine g_iinc (v := (x3 + 1)) (lv' := [(0, .ref a0), (1, .int x1), (2, .int x2), (3, .int (x3 + 1)), (4, .int (if (hI h b11 1) < (hI h b7 1) then 0 else 1 : Int32)), (5, .ref b45), (6, .ref b49)]) dX1_overtaken_131 3 rfl (by rfl) (by decide) rfl ?_
            refine g_goto (tgt := 16) dX1_overtaken_134 (by decide) ?_
            exact Gm.sub [0, 1, 2, 3] rfl K
          · replace K := K.2 c55
            refine g_aload dX1_overtaken_106 6 rfl ?_
            obtain ⟨e56, K⟩ := K
            refine g_get (c := 6) (k := 8) (v := .int (hI h53 b49 8)) dX1_overtaken_108 fc_6 (by decide) (by decide) bw_159 rfl e56 ?_
            refine g_iconst (v := (-1)) dX1_overtaken_111 (by decide) ?_
            refine g_icmp_eq (tgt := 131) dX1_overtaken_112 (by decide) (fun c57 => ?_) (fun c57 => ?_)
            · replace K := K.1 c57
              refine g_iinc (v := (x3 + 1)) (lv' := [(0, .ref a0), (1, .int x1), (2, .int x2), (3, .int (x3 + 1)), (4, .int (if (hI h b11 1) < (hI h b7 1) then 0 else 1 : Int32)), (5, .ref b45), (6, .ref b49)]) dX1_overtaken_131 3 rfl (by rfl) (by decide) rfl ?_
              refine g_goto (tgt := 16) dX1_overtaken_134 (by decide) ?_
              exact Gm.sub [0, 1, 2, 3] rfl K
            · replace K := K.2 c57
              refine g_aload dX1_overtaken_115 6 rfl ?_
              refine g_get (c := 6) (k := 8) (v := .int (hI h53 b49 8)) dX1_overtaken_117 fc_6 (by decide) (by decide) bw_159 rfl e56 ?_
              refine g_aload dX1_overtaken_120 5 rfl ?_
              obtain ⟨e58, K⟩ := K
              refine g_get (c := 6) (k := 8) (v := .int (hI h53 b45 8)) dX1_overtaken_122 fc_6 (by decide) (by decide) bw_159 rfl e58 ?_
              have KJ : Gm l x mX1_overtaken 1 131 [(0, .ref a0), (1, .int (if (hI h53 b45 8) ≤ (hI h53 b49 8) then x1 else (x1 + 1) : Int32)), (2, .int x2), (3, .int x3), (4, .int (if (hI h b11 1) < (hI h b7 1) then 0 else 1 : Int32)), (5, .ref b45), (6, .ref b49)] [] h53 rc rs n0 Q X := by
                refine g_iinc (v := (x3 + 1)) (lv' := [(0, .ref a0), (1, .int (if (hI h53 b45 8) ≤ (hI h53 b49 8) then x1 else (x1 + 1) : Int32)), (2, .int x2), (3, .int (x3 + 1)), (4, .int (if (hI h b11 1) < (hI h b7 1) then 0 else 1 : Int32)), (5, .ref b45), (6, .ref b49)]) dX1_overtaken_131 3 rfl (by rfl) (by decide) rfl ?_
                refine g_goto (tgt := 16) dX1_overtaken_134 (by decide) ?_
                exact Gm.sub [0, 1, 2, 3] rfl K
              refine g_icmp_ge (tgt := 131) dX1_overtaken_125 (by decide) (fun c59 => ?_) (fun c59 => ?_)
              · first | (simp only [if_pos c59] at KJ; exact KJ) | (simp only [if_pos c59, ite_true, ite_false, eq_self] at KJ; exact KJ) | (simp only [if_pos c59] at KJ ⊢; exact KJ) | exact KJ
              · refine g_iinc (v := (x1 + 1)) (lv' := [(0, .ref a0), (1, .int (x1 + 1)), (2, .int x2), (3, .int x3), (4, .int (if (hI h b11 1) < (hI h b7 1) then 0 else 1 : Int32)), (5, .ref b45), (6, .ref b49)]) dX1_overtaken_128 1 rfl (by rfl) (by decide) rfl ?_
                first | (simp only [if_neg c59] at KJ; exact KJ) | (simp only [if_neg c59, ite_true, ite_false, eq_self] at KJ; exact KJ) | (simp only [if_neg c59] at KJ ⊢; exact KJ) | exact KJ
        · replace K := K.2 c47
          refine g_aload_n dX1_overtaken_79 rfl 0 rfl ?_
          refine g_get (c := 1) (k := 14) (v := .ref b3) dX1_overtaken_80 fc_1 (by decide) (by decide) bw_226 (congrArg pr e4) e1 ?_
          refine g_iload_n dX1_overtaken_83 rfl 3 rfl ?_
          obtain ⟨e60, b61, e62, K⟩ := K
          refine g_aald (t := 6) (v := .ref b61) dX1_overtaken_84 (Or.inr (Or.inl rfl)) e5 e60 (congrArg pr e62) ?_
          refine g_goto (tgt := 94) dX1_overtaken_85 (by decide) ?_
          refine g_astore (lv' := [(0, .ref a0), (1, .int x1), (2, .int x2), (3, .int x3), (4, .int (if (hI h b11 1) < (hI h b7 1) then 0 else 1 : Int32)), (5, .ref b45), (6, .ref b61)]) dX1_overtaken_94 (by decide) rfl ?_
          refine g_aload dX1_overtaken_96 5 rfl ?_
          refine g_aload dX1_overtaken_98 6 rfl ?_
          obtain ⟨q63, C64, K⟩ := K
          refine g_callS (M' := mX1_goAlike) (As := [.ref b45, .ref b61]) (rest := []) (rc' := rc) (rs' := rs) dX1_overtaken_100 bw_963 bw_964 bw_3 bw_965 ⟨by decide +kernel, by decide +kernel, show (parseMethodDescriptor mX1_goAlike.1.desc).map (fun d => d.parameters.length) = some 2 by decide +kernel⟩ (by decide) (by decide) (Nat.le_of_ble_eq_true rfl) C64 (Nat.le_of_eq (Nat.add_zero _)) (Nat.le_of_eq (Nat.add_zero _)) (fun _ _ h => h) ?_
          rintro _ h65 ⟨r66, rfl, K1⟩ -
          replace K := K r66 h65 K1
          show Gm l x mX1_overtaken 1 103 [(0, .ref a0), (1, .int x1), (2, .int x2), (3, .int x3), (4, .int (if (hI h b11 1) < (hI h b7 1) then 0 else 1 : Int32)), (5, .ref b45), (6, .ref b61)] [.int r66] h65 rc rs n0 Q X
          refine g_if_eq (tgt := 131) dX1_overtaken_103 (by decide) (fun c67 => ?_) (fun c67 => ?_)
          · replace K := K.1 c67
            refine g_iinc (v := (x3 + 1)) (lv' := [(0, .ref a0), (1, .int x1), (2, .int x2), (3, .int (x3 + 1)), (4, .int (if (hI h b11 1) < (hI h b7 1) then 0 else 1 : Int32)), (5, .ref b45), (6, .ref b61)]) dX1_overtaken_131 3 rfl (by rfl) (by decide) rfl ?_
            refine g_goto (tgt := 16) dX1_overtaken_134 (by decide) ?_
            exact Gm.sub [0, 1, 2, 3] rfl K
          · replace K := K.2 c67
            refine g_aload dX1_overtaken_106 6 rfl ?_
            obtain ⟨e68, K⟩ := K
            refine g_get (c := 6) (k := 8) (v := .int (hI h65 b61 8)) dX1_overtaken_108 fc_6 (by decide) (by decide) bw_159 rfl e68 ?_
            refine g_iconst (v := (-1)) dX1_overtaken_111 (by decide) ?_
            refine g_icmp_eq (tgt := 131) dX1_overtaken_112 (by decide) (fun c69 => ?_) (fun c69 => ?_)
            · replace K := K.1 c69
              refine g_iinc (v := (x3 + 1)) (lv' := [(0, .ref a0), (1, .int x1), (2, .int x2), (3, .int (x3 + 1)), (4, .int (if (hI h b11 1) < (hI h b7 1) then 0 else 1 : Int32)), (5, .ref b45), (6, .ref b61)]) dX1_overtaken_131 3 rfl (by rfl) (by decide) rfl ?_
              refine g_goto (tgt := 16) dX1_overtaken_134 (by decide) ?_
              exact Gm.sub [0, 1, 2, 3] rfl K
            · replace K := K.2 c69
              refine g_aload dX1_overtaken_115 6 rfl ?_
              refine g_get (c := 6) (k := 8) (v := .int (hI h65 b61 8)) dX1_overtaken_117 fc_6 (by decide) (by decide) bw_159 rfl e68 ?_
              refine g_aload dX1_overtaken_120 5 rfl ?_
              obtain ⟨e70, K⟩ := K
              refine g_get (c := 6) (k := 8) (v := .int (hI h65 b45 8)) dX1_overtaken_122 fc_6 (by decide) (by decide) bw_159 rfl e70 ?_
              have KJ : Gm l x mX1_overtaken 1 131 [(0, .ref a0), (1, .int (if (hI h65 b45 8) ≤ (hI h65 b61 8) then x1 else (x1 + 1) : Int32)), (2, .int x2), (3, .int x3), (4, .int (if (hI h b11 1) < (hI h b7 1) then 0 else 1 : Int32)), (5, .ref b45), (6, .ref b61)] [] h65 rc rs n0 Q X := by
                refine g_iinc (v := (x3 + 1)) (lv' := [(0, .ref a0), (1, .int (if (hI h65 b45 8) ≤ (hI h65 b61 8) then x1 else (x1 + 1) : Int32)), (2, .int x2), (3, .int (x3 + 1)), (4, .int (if (hI h b11 1) < (hI h b7 1) then 0 else 1 : Int32)), (5, .ref b45), (6, .ref b61)]) dX1_overtaken_131 3 rfl (by rfl) (by decide) rfl ?_
                refine g_goto (tgt := 16) dX1_overtaken_134 (by decide) ?_
                exact Gm.sub [0, 1, 2, 3] rfl K
              refine g_icmp_ge (tgt := 131) dX1_overtaken_125 (by decide) (fun c71 => ?_) (fun c71 => ?_)
              · first | (simp only [if_pos c71] at KJ; exact KJ) | (simp only [if_pos c71, ite_true, ite_false, eq_self] at KJ; exact KJ) | (simp only [if_pos c71] at KJ ⊢; exact KJ) | exact KJ
              · refine g_iinc (v := (x1 + 1)) (lv' := [(0, .ref a0), (1, .int (x1 + 1)), (2, .int x2), (3, .int x3), (4, .int (if (hI h b11 1) < (hI h b7 1) then 0 else 1 : Int32)), (5, .ref b45), (6, .ref b61)]) dX1_overtaken_128 1 rfl (by rfl) (by decide) rfl ?_
                first | (simp only [if_neg c71] at KJ; exact KJ) | (simp only [if_neg c71, ite_true, ite_false, eq_self] at KJ; exact KJ) | (simp only [if_neg c71] at KJ ⊢; exact KJ) | exact KJ
    refine g_icmp_gt (tgt := 49) dX1_overtaken_42 (by decide) (fun c14 => ?_) (fun c14 => ?_)
    · refine g_iconst (v := 0) dX1_overtaken_49 (by decide) ?_
      first | (simp only [if_pos c14] at KJ; exact KJ) | (simp only [if_pos c14, ite_true, ite_false, eq_self] at KJ; exact KJ) | (simp only [if_pos c14] at KJ ⊢; exact KJ) | exact KJ
    · refine g_iconst (v := 1) dX1_overtaken_45 (by decide) ?_
      refine g_goto (tgt := 50) dX1_overtaken_46 (by decide) ?_
      first | (simp only [if_neg c14] at KJ; exact KJ) | (simp only [if_neg c14, ite_true, ite_false, eq_self] at KJ; exact KJ) | (simp only [if_neg c14] at KJ ⊢; exact KJ) | exact KJ
theorem dX1_init_0 : decode cX1_init 0 = .ok (.aload_n 0, 1) := by decide +kernel
theorem dX1_init_1 : decode cX1_init 1 = .ok (.invokespecial 3, 3) := by decide +kernel
theorem dX1_init_4 : decode cX1_init 4 = .ok (.aload_n 0, 1) := by decide +kernel
theorem dX1_init_5 : decode cX1_init 5 = .ok (.bipush 8, 2) := by decide +kernel
theorem dX1_init_7 : decode cX1_init 7 = .ok (.putfield 9, 3) := by decide +kernel
theorem dX1_init_10 : decode cX1_init 10 = .ok (.aload_n 0, 1) := by decide +kernel
theorem dX1_init_11 : decode cX1_init 11 = .ok (.iconst 0, 1) := by decide +kernel
theorem dX1_init_12 : decode cX1_init 12 = .ok (.putfield 15, 3) := by decide +kernel
theorem dX1_init_15 : decode cX1_init 15 = .ok (.aload_n 0, 1) := by decide +kernel
theorem dX1_init_16 : decode cX1_init 16 = .ok (.iconst 0, 1) := by decide +kernel
theorem dX1_init_17 : decode cX1_init 17 = .ok (.putfield 18, 3) := by decide +kernel
theorem dX1_init_20 : decode cX1_init 20 = .ok (.aload_n 0, 1) := by decide +kernel
theorem dX1_init_21 : decode cX1_init 21 = .ok (.iconst 2, 1) := by decide +kernel
theorem dX1_init_22 : decode cX1_init 22 = .ok (.putfield 21, 3) := by decide +kernel
theorem dX1_init_25 : decode cX1_init 25 = .ok (.aload_n 0, 1) := by decide +kernel
theorem dX1_init_26 : decode cX1_init 26 = .ok (.iconst 0, 1) := by decide +kernel
theorem dX1_init_27 : decode cX1_init 27 = .ok (.putfield 24, 3) := by decide +kernel
theorem dX1_init_30 : decode cX1_init 30 = .ok (.aload_n 0, 1) := by decide +kernel
theorem dX1_init_31 : decode cX1_init 31 = .ok (.iconst 1, 1) := by decide +kernel
theorem dX1_init_32 : decode cX1_init 32 = .ok (.putfield 27, 3) := by decide +kernel
theorem dX1_init_35 : decode cX1_init 35 = .ok (.aload_n 0, 1) := by decide +kernel
theorem dX1_init_36 : decode cX1_init 36 = .ok (.iconst 0, 1) := by decide +kernel
theorem dX1_init_37 : decode cX1_init 37 = .ok (.putfield 30, 3) := by decide +kernel
theorem dX1_init_40 : decode cX1_init 40 = .ok (.aload_n 0, 1) := by decide +kernel
theorem dX1_init_41 : decode cX1_init 41 = .ok (.iconst 0, 1) := by decide +kernel
theorem dX1_init_42 : decode cX1_init 42 = .ok (.putfield 33, 3) := by decide +kernel
theorem dX1_init_45 : decode cX1_init 45 = .ok (.aload_n 0, 1) := by decide +kernel
theorem dX1_init_46 : decode cX1_init 46 = .ok (.iconst 0, 1) := by decide +kernel
theorem dX1_init_47 : decode cX1_init 47 = .ok (.putfield 36, 3) := by decide +kernel
theorem dX1_init_50 : decode cX1_init 50 = .ok (.aload_n 0, 1) := by decide +kernel
theorem dX1_init_51 : decode cX1_init 51 = .ok (.iconst (-1), 1) := by decide +kernel
theorem dX1_init_52 : decode cX1_init 52 = .ok (.putfield 40, 3) := by decide +kernel
theorem dX1_init_55 : decode cX1_init 55 = .ok (.aload_n 0, 1) := by decide +kernel
theorem dX1_init_56 : decode cX1_init 56 = .ok (.iconst 0, 1) := by decide +kernel
theorem dX1_init_57 : decode cX1_init 57 = .ok (.putfield 43, 3) := by decide +kernel
theorem dX1_init_60 : decode cX1_init 60 = .ok (.aload_n 0, 1) := by decide +kernel
theorem dX1_init_61 : decode cX1_init 61 = .ok (.iconst 0, 1) := by decide +kernel
theorem dX1_init_62 : decode cX1_init 62 = .ok (.putfield 46, 3) := by decide +kernel
theorem dX1_init_65 : decode cX1_init 65 = .ok (.aload_n 0, 1) := by decide +kernel
theorem dX1_init_66 : decode cX1_init 66 = .ok (.iconst 0, 1) := by decide +kernel
theorem dX1_init_67 : decode cX1_init 67 = .ok (.putfield 49, 3) := by decide +kernel
theorem dX1_init_70 : decode cX1_init 70 = .ok (.aload_n 0, 1) := by decide +kernel
theorem dX1_init_71 : decode cX1_init 71 = .ok (.iconst 4, 1) := by decide +kernel
theorem dX1_init_72 : decode cX1_init 72 = .ok (.anewarray 52, 3) := by decide +kernel
theorem dX1_init_75 : decode cX1_init 75 = .ok (.putfield 54, 3) := by decide +kernel
theorem dX1_init_78 : decode cX1_init 78 = .ok (.aload_n 0, 1) := by decide +kernel
theorem dX1_init_79 : decode cX1_init 79 = .ok (.bipush 24, 2) := by decide +kernel
theorem dX1_init_81 : decode cX1_init 81 = .ok (.anewarray 58, 3) := by decide +kernel
theorem dX1_init_84 : decode cX1_init 84 = .ok (.putfield 60, 3) := by decide +kernel
theorem dX1_init_87 : decode cX1_init 87 = .ok (.aload_n 0, 1) := by decide +kernel
theorem dX1_init_88 : decode cX1_init 88 = .ok (.new 52, 3) := by decide +kernel
theorem dX1_init_91 : decode cX1_init 91 = .ok (.dup, 1) := by decide +kernel
theorem dX1_init_92 : decode cX1_init 92 = .ok (.invokespecial 64, 3) := by decide +kernel
theorem dX1_init_95 : decode cX1_init 95 = .ok (.putfield 65, 3) := by decide +kernel
theorem dX1_init_98 : decode cX1_init 98 = .ok (.iconst 0, 1) := by decide +kernel
theorem dX1_init_99 : decode cX1_init 99 = .ok (.istore_n 1, 1) := by decide +kernel
theorem dX1_init_100 : decode cX1_init 100 = .ok (.iload_n 1, 1) := by decide +kernel
theorem dX1_init_101 : decode cX1_init 101 = .ok (.iconst 4, 1) := by decide +kernel
theorem dX1_init_102 : decode cX1_init 102 = .ok (.if_icmp .ge 22, 3) := by decide +kernel
theorem dX1_init_105 : decode cX1_init 105 = .ok (.aload_n 0, 1) := by decide +kernel
theorem dX1_init_106 : decode cX1_init 106 = .ok (.getfield 54, 3) := by decide +kernel
theorem dX1_init_109 : decode cX1_init 109 = .ok (.iload_n 1, 1) := by decide +kernel
theorem dX1_init_110 : decode cX1_init 110 = .ok (.new 52, 3) := by decide +kernel
theorem dX1_init_113 : decode cX1_init 113 = .ok (.dup, 1) := by decide +kernel
theorem dX1_init_114 : decode cX1_init 114 = .ok (.invokespecial 64, 3) := by decide +kernel
theorem dX1_init_117 : decode cX1_init 117 = .ok (.aastore, 1) := by decide +kernel
theorem dX1_init_118 : decode cX1_init 118 = .ok (.iinc 1 1, 3) := by decide +kernel
theorem dX1_init_121 : decode cX1_init 121 = .ok (.goto (-21), 3) := by decide +kernel
theorem dX1_init_124 : decode cX1_init 124 = .ok (.iconst 0, 1) := by decide +kernel
theorem dX1_init_125 : decode cX1_init 125 = .ok (.istore_n 1, 1) := by decide +kernel
theorem dX1_init_126 : decode cX1_init 126 = .ok (.iload_n 1, 1) := by decide +kernel
theorem dX1_init_127 : decode cX1_init 127 = .ok (.bipush 24, 2) := by decide +kernel
theorem dX1_init_129 : decode cX1_init 129 = .ok (.if_icmp .ge 22, 3) := by decide +kernel
theorem dX1_init_132 : decode cX1_init 132 = .ok (.aload_n 0, 1) := by decide +kernel
theorem dX1_init_133 : decode cX1_init 133 = .ok (.getfield 60, 3) := by decide +kernel
theorem dX1_init_136 : decode cX1_init 136 = .ok (.iload_n 1, 1) := by decide +kernel
theorem dX1_init_137 : decode cX1_init 137 = .ok (.new 58, 3) := by decide +kernel
theorem dX1_init_140 : decode cX1_init 140 = .ok (.dup, 1) := by decide +kernel
theorem dX1_init_141 : decode cX1_init 141 = .ok (.invokespecial 69, 3) := by decide +kernel
theorem dX1_init_144 : decode cX1_init 144 = .ok (.aastore, 1) := by decide +kernel
theorem dX1_init_145 : decode cX1_init 145 = .ok (.iinc 1 1, 3) := by decide +kernel
theorem dX1_init_148 : decode cX1_init 148 = .ok (.goto (-22), 3) := by decide +kernel
theorem dX1_init_151 : decode cX1_init 151 = .ok (.return_, 1) := by decide +kernel
set_option maxRecDepth 20000 in
set_option maxHeartbeats 4000000 in
theorem vX1_init_0 {l : Launch} {x : CX} {a0 : Nat} {h : PH} {rc rs n0 : Nat} {Q : Option Value → PH → Prop} {X : String → PH → Prop}
    (K : ((hK h a0).1 = 1) ∧ (1 ≤ rc) ∧ (4 ≤ rs) ∧ (AOOk x "LiftBank$Car") ∧ ∀ (h4 : PH), h4 = (nw (sI (sI (sI (sI (sI (sI (sI (sI (sI (sI (sI (sI (sI h a0 0 8) a0 1 0) a0 2 0) a0 3 2) a0 4 0) a0 5 1) a0 6 0) a0 7 0) a0 8 0) a0 9 (-1)) a0 10 0) a0 11 0) a0 12 0) (105, 4)) → ((hK h4 a0).1 = 1) ∧ (2 ≤ rc) ∧ (28 ≤ rs) ∧ (AOOk x "LiftBank$Rider") ∧ ∀ (h9 : PH), h9 = (nw (sR h4 a0 13 (some (hN (sI (sI (sI (sI (sI (sI (sI (sI (sI (sI (sI (sI (sI h a0 0 8) a0 1 0) a0 2 0) a0 3 2) a0 4 0) a0 5 1) a0 6 0) a0 7 0) a0 8 0) a0 9 (-1)) a0 10 0) a0 11 0) a0 12 0)))) (106, 24)) → ((hK h9 a0).1 = 1) ∧ (3 ≤ rc) ∧ (43 ≤ rs) ∧ ∀ (h14 : PH), h14 = (nw (sR h9 a0 14 (some (hN (sR h4 a0 13 (some (hN (sI (sI (sI (sI (sI (sI (sI (sI (sI (sI (sI (sI (sI h a0 0 8) a0 1 0) a0 2 0) a0 3 2) a0 4 0) a0 5 1) a0 6 0) a0 7 0) a0 8 0) a0 9 (-1)) a0 10 0) a0 11 0) a0 12 0))))))) (2, 0)) → (NestOk x RX1 64 yX2_init "LiftBank") ∧ ∃ (q15 : PH → Prop), CV l x mX2_init 1 0 0 [.ref (hN (sR h9 a0 14 (some (hN (sR h4 a0 13 (some (hN (sI (sI (sI (sI (sI (sI (sI (sI (sI (sI (sI (sI (sI h a0 0 8) a0 1 0) a0 2 0) a0 3 2) a0 4 0) a0 5 1) a0 6 0) a0 7 0) a0 8 0) a0 9 (-1)) a0 10 0) a0 11 0) a0 12 0))))))))] h14 q15 ∧ ∀ (h17 : PH), q15 h17 → ((hK h17 a0).1 = 1) ∧ Gm l x mX1_init 2 100 [(0, .ref a0), (1, .int 0)] [] (sR h17 a0 15 (some (hN (sR h9 a0 14 (some (hN (sR h4 a0 13 (some (hN (sI (sI (sI (sI (sI (sI (sI (sI (sI (sI (sI (sI (sI h a0 0 8) a0 1 0) a0 2 0) a0 3 2) a0 4 0) a0 5 1) a0 6 0) a0 7 0) a0 8 0) a0 9 (-1)) a0 10 0) a0 11 0) a0 12 0)))))))))) (rc - 3) (rs - 43) n0 Q X) :
    Gm l x mX1_init 2 0 [(0, .ref a0)] [] h rc rs n0 Q X := by
  refine g_aload_n dX1_init_0 rfl 0 rfl ?_
  refine g_objInit dX1_init_1 bw_43 bw_30 bw_31 (by decide) (Nat.le_of_ble_eq_true rfl) ?_
  refine g_aload_n dX1_init_4 rfl 0 rfl ?_
  refine g_bipush (v := 8) dX1_init_5 (by decide) ?_
  obtain ⟨e1, K⟩ := K
  refine g_puti (c := 1) (k := 0) dX1_init_7 fc_1 (by decide) (by decide) bw_185 (Or.inl rfl) rfl e1 ?_
  refine g_aload_n dX1_init_10 rfl 0 rfl ?_
  refine g_iconst (v := 0) dX1_init_11 (by decide) ?_
  refine g_puti (c := 1) (k := 1) dX1_init_12 fc_1 (by decide) (by decide) bw_188 (Or.inl rfl) rfl (kkI e1) ?_
  refine g_aload_n dX1_init_15 rfl 0 rfl ?_
  refine g_iconst (v := 0) dX1_init_16 (by decide) ?_
  refine g_puti (c := 1) (k := 2) dX1_init_17 fc_1 (by decide) (by decide) bw_192 (Or.inl rfl) rfl (kkI (kkI e1)) ?_
  refine g_aload_n dX1_init_20 rfl 0 rfl ?_
  refine g_iconst (v := 2) dX1_init_21 (by decide) ?_
  refine g_puti (c := 1) (k := 3) dX1_init_22 fc_1 (by decide) (by decide) bw_197 (Or.inl rfl) rfl (kkI (kkI (kkI e1))) ?_
  refine g_aload_n dX1_init_25 rfl 0 rfl ?_
  refine g_iconst (v := 0) dX1_init_26 (by decide) ?_
  refine g_puti (c := 1) (k := 4) dX1_init_27 fc_1 (by decide) (by decide) bw_201 (Or.inl rfl) rfl (kkI (kkI (kkI (kkI e1)))) ?_
  refine g_aload_n dX1_init_30 rfl 0 rfl ?_
  refine g_iconst (v := 1) dX1_init_31 (by decide) ?_
  refine g_puti (c := 1) (k := 5) dX1_init_32 fc_1 (by decide) (by decide) bw_205 (Or.inl rfl) rfl (kkI (kkI (kkI (kkI (kkI e1))))) ?_
  refine g_aload_n dX1_init_35 rfl 0 rfl ?_
  refine g_iconst (v := 0) dX1_init_36 (by decide) ?_
  refine g_puti (c := 1) (k := 6) dX1_init_37 fc_1 (by decide) (by decide) bw_209 (Or.inl rfl) rfl (kkI (kkI (kkI (kkI (kkI (kkI e1)))))) ?_
  refine g_aload_n dX1_init_40 rfl 0 rfl ?_
  refine g_iconst (v := 0) dX1_init_41 (by decide) ?_
  refine g_puti (c := 1) (k := 7) dX1_init_42 fc_1 (by decide) (by decide) bw_212 (Or.inl rfl) rfl (kkI (kkI (kkI (kkI (kkI (kkI (kkI e1))))))) ?_
  refine g_aload_n dX1_init_45 rfl 0 rfl ?_
  refine g_iconst (v := 0) dX1_init_46 (by decide) ?_
  refine g_putz (c := 1) (k := 8) dX1_init_47 fc_1 (by decide) (by decide) bw_214 (Or.inl rfl) rfl (by decide) (kkI (kkI (kkI (kkI (kkI (kkI (kkI (kkI e1)))))))) ?_
  refine g_aload_n dX1_init_50 rfl 0 rfl ?_
  refine g_iconst (v := (-1)) dX1_init_51 (by decide) ?_
  refine g_puti (c := 1) (k := 9) dX1_init_52 fc_1 (by decide) (by decide) bw_216 (Or.inl rfl) rfl (kkI (kkI (kkI (kkI (kkI (kkI (kkI (kkI (kkI e1))))))))) ?_
  refine g_aload_n dX1_init_55 rfl 0 rfl ?_
  refine g_iconst (v := 0) dX1_init_56 (by decide) ?_
  refine g_puti (c := 1) (k := 10) dX1_init_57 fc_1 (by decide) (by decide) bw_217 (Or.inl rfl) rfl (kkI (kkI (kkI (kkI (kkI (kkI (kkI (kkI (kkI (kkI e1)))))))))) ?_
  refine g_aload_n dX1_init_60 rfl 0 rfl ?_
  refine g_iconst (v := 0) dX1_init_61 (by decide) ?_
  refine g_putz (c := 1) (k := 11) dX1_init_62 fc_1 (by decide) (by decide) bw_218 (Or.inl rfl) rfl (by decide) (kkI (kkI (kkI (kkI (kkI (kkI (kkI (kkI (kkI (kkI (kkI e1))))))))))) ?_
  refine g_aload_n dX1_init_65 rfl 0 rfl ?_
  refine g_iconst (v := 0) dX1_init_66 (by decide) ?_
  refine g_puti (c := 1) (k := 12) dX1_init_67 fc_1 (by decide) (by decide) bw_220 (Or.inl rfl) rfl (kkI (kkI (kkI (kkI (kkI (kkI (kkI (kkI (kkI (kkI (kkI (kkI e1)))))))))))) ?_
  refine g_aload_n dX1_init_70 rfl 0 rfl ?_
  refine g_iconst (v := 4) dX1_init_71 (by decide) ?_
  obtain ⟨e2, e3, z5, K⟩ := K
  refine g_newq (t := 5) (rc' := (rc - 1)) (rs' := (rs - 4)) (N := 4) dX1_init_72 (Or.inl rfl) rfl bw_44 z5 (by decide) (by decide) (by decide) (by omega) (by omega) ?_
  generalize e22 : (nw (sI (sI (sI (sI (sI (sI (sI (sI (sI (sI (sI (sI (sI h a0 0 8) a0 1 0) a0 2 0) a0 3 2) a0 4 0) a0 5 1) a0 6 0) a0 7 0) a0 8 0) a0 9 (-1)) a0 10 0) a0 11 0) a0 12 0) (105, 4)) = h4
  replace K := K h4 e22.symm
  obtain ⟨e6, K⟩ := K
  refine g_putr (c := 1) (k := 13) dX1_init_75 fc_1 (by decide) (by decide) bw_223 (Or.inr ⟨rfl, rfl, rfl⟩) (Or.inr ⟨_, rfl⟩) e6 ?_
  refine g_aload_n dX1_init_78 rfl 0 rfl ?_
  refine g_bipush (v := 24) dX1_init_79 (by decide) ?_
  obtain ⟨e7, e8, z10, K⟩ := K
  refine g_newq (t := 6) (rc' := (rc - 2)) (rs' := (rs - 28)) (N := 24) dX1_init_81 (Or.inr (Or.inl rfl)) rfl bw_46 z10 (by decide) (by decide) (by decide) (by omega) (by omega) ?_
  generalize e21 : (nw (sR h4 a0 13 (some (hN (sI (sI (sI (sI (sI (sI (sI (sI (sI (sI (sI (sI (sI h a0 0 8) a0 1 0) a0 2 0) a0 3 2) a0 4 0) a0 5 1) a0 6 0) a0 7 0) a0 8 0) a0 9 (-1)) a0 10 0) a0 11 0) a0 12 0)))) (106, 24)) = h9
  replace K := K h9 e21.symm
  obtain ⟨e11, K⟩ := K
  refine g_putr (c := 1) (k := 14) dX1_init_84 fc_1 (by decide) (by decide) bw_226 (Or.inr ⟨rfl, rfl, rfl⟩) (Or.inr ⟨_, rfl⟩) e11 ?_
  refine g_aload_n dX1_init_87 rfl 0 rfl ?_
  obtain ⟨e12, e13, K⟩ := K
  refine g_new (c := 2) (rc' := (rc - 3)) (rs' := (rs - 43)) dX1_init_88 fc_2 (by decide) (by decide) bw_44 bw_48 bw_4 (by omega) (show (rs - 43) + 15 ≤ (rs - 28) by omega) ?_
  generalize e20 : (nw (sR h9 a0 14 (some (hN (sR h4 a0 13 (some (hN (sI (sI (sI (sI (sI (sI (sI (sI (sI (sI (sI (sI (sI h a0 0 8) a0 1 0) a0 2 0) a0 3 2) a0 4 0) a0 5 1) a0 6 0) a0 7 0) a0 8 0) a0 9 (-1)) a0 10 0) a0 11 0) a0 12 0))))))) (2, 0)) = h14
  replace K := K h14 e20.symm
  refine g_dup dX1_init_91 rfl ?_
  obtain ⟨z19, K⟩ := K
  obtain ⟨q15, C16, K⟩ := K
  refine g_callIN (M' := mX2_init) (b := (hN (sR h9 a0 14 (some (hN (sR h4 a0 13 (some (hN (sI (sI (sI (sI (sI (sI (sI (sI (sI (sI (sI (sI (sI h a0 0 8) a0 1 0) a0 2 0) a0 3 2) a0 4 0) a0 5 1) a0 6 0) a0 7 0) a0 8 0) a0 9 (-1)) a0 10 0) a0 11 0) a0 12 0))))))))) (As := []) (rest := [.ref (hN (sR h9 a0 14 (some (hN (sR h4 a0 13 (some (hN (sI (sI (sI (sI (sI (sI (sI (sI (sI (sI (sI (sI (sI h a0 0 8) a0 1 0) a0 2 0) a0 3 2) a0 4 0) a0 5 1) a0 6 0) a0 7 0) a0 8 0) a0 9 (-1)) a0 10 0) a0 11 0) a0 12 0)))))))), .ref a0]) (rc' := (rc - 3)) (rs' := (rs - 43)) dX1_init_92 z19 bw_50 rfl rfl bw_4 bw_51 ⟨by decide +kernel, by decide +kernel, show (parseMethodDescriptor mX2_init.1.desc).map (fun d => d.parameters.length) = some 0 by decide +kernel⟩ (by decide) (by decide) (Nat.le_of_ble_eq_true rfl) C16 (Nat.le_of_eq (Nat.add_zero _)) (Nat.le_of_eq (Nat.add_zero _)) (fun _ _ h => h) ?_
  rintro _ h17 ⟨rfl, K1⟩ -
  replace K := K h17 K1
  show Gm l x mX1_init 2 95 [(0, .ref a0)] [.ref (hN (sR h9 a0 14 (some (hN (sR h4 a0 13 (some (hN (sI (sI (sI (sI (sI (sI (sI (sI (sI (sI (sI (sI (sI h a0 0 8) a0 1 0) a0 2 0) a0 3 2) a0 4 0) a0 5 1) a0 6 0) a0 7 0) a0 8 0) a0 9 (-1)) a0 10 0) a0 11 0) a0 12 0)))))))), .ref a0] h17 (rc - 3) (rs - 43) n0 Q X
  obtain ⟨e18, K⟩ := K
  refine g_putr (c := 1) (k := 15) dX1_init_95 fc_1 (by decide) (by decide) bw_230 (Or.inr ⟨rfl, rfl, rfl⟩) (Or.inl ⟨_, rfl⟩) e18 ?_
  refine g_iconst (v := 0) dX1_init_98 (by decide) ?_
  refine g_istore_n (lv' := [(0, .ref a0), (1, .int 0)]) dX1_init_99 rfl (by decide) rfl ?_
  exact K
set_option maxRecDepth 20000 in
set_option maxHeartbeats 4000000 in
theorem vX1_init_100 {l : Launch} {x : CX} {a0 : Nat} {x1 : Int32} {h : PH} {rc rs n0 : Nat} {Q : Option Value → PH → Prop} {X : String → PH → Prop}
    (K : ((4 ≤ x1 → Gm l x mX1_init 2 126 [(0, .ref a0), (1, .int 0)] [] h rc rs n0 Q X) ∧ (¬ 4 ≤ x1 → ((hK h a0).1 = 1) ∧ ∃ b3, (hR h a0 13 = some b3) ∧ (1 ≤ rc) ∧ (15 ≤ rs) ∧ ∀ (h7 : PH), h7 = (nw h (2, 0)) → (NestOk x RX1 64 yX2_init "LiftBank") ∧ ∃ (q8 : PH → Prop), CV l x mX2_init 1 0 0 [.ref (hN h)] h7 q8 ∧ ∀ (h10 : PH), q8 h10 → ((hK h10 b3).1 = 105) ∧ (vp_in x1 (hK h10 b3).2) ∧ ((hK h10 (hN h)).1 = 2) ∧ Gm l x mX1_init 2 100 [(0, .ref a0), (1, .int (x1 + 1))] [] (sR h10 b3 x1.toNatClampNeg (some (hN h))) (rc - 1) (rs - 15) n0 Q X))) :
    Gm l x mX1_init 2 100 [(0, .ref a0), (1, .int x1)] [] h rc rs n0 Q X := by
  refine g_iload_n dX1_init_100 rfl 1 rfl ?_
  refine g_iconst (v := 4) dX1_init_101 (by decide) ?_
  refine g_icmp_ge (tgt := 124) dX1_init_102 (by decide) (fun c1 => ?_) (fun c1 => ?_)
  · replace K := K.1 c1
    refine g_iconst (v := 0) dX1_init_124 (by decide) ?_
    refine g_istore_n (lv' := [(0, .ref a0), (1, .int 0)]) dX1_init_125 rfl (by decide) rfl ?_
    exact K
  · replace K := K.2 c1
    refine g_aload_n dX1_init_105 rfl 0 rfl ?_
    obtain ⟨e2, b3, e4, K⟩ := K
    refine g_get (c := 1) (k := 13) (v := .ref b3) dX1_init_106 fc_1 (by decide) (by decide) bw_223 (congrArg pr e4) e2 ?_
    refine g_iload_n dX1_init_109 rfl 1 rfl ?_
    obtain ⟨e5, e6, K⟩ := K
    refine g_new (c := 2) (rc' := (rc - 1)) (rs' := (rs - 15)) dX1_init_110 fc_2 (by decide) (by decide) bw_44 bw_48 bw_4 (by omega) (show (rs - 15) + 15 ≤ rs by omega) ?_
    generalize e15 : (nw h (2, 0)) = h7
    replace K := K h7 e15.symm
    refine g_dup dX1_init_113 rfl ?_
    obtain ⟨z14, K⟩ := K
    obtain ⟨q8, C9, K⟩ := K
    refine g_callIN (M' := mX2_init) (b := (hN h)) (As := []) (rest := [.ref (hN h), .int x1, .ref b3]) (rc' := (rc - 1)) (rs' := (rs - 15)) dX1_init_114 z14 bw_50 rfl rfl bw_4 bw_51 ⟨by decide +kernel, by decide +kernel, show (parseMethodDescriptor mX2_init.1.desc).map (fun d => d.parameters.length) = some 0 by decide +kernel⟩ (by decide) (by decide) (Nat.le_of_ble_eq_true rfl) C9 (Nat.le_of_eq (Nat.add_zero _)) (Nat.le_of_eq (Nat.add_zero _)) (fun _ _ h => h) ?_
    rintro _ h10 ⟨rfl, K1⟩ -
    replace K := K h10 K1
    show Gm l x mX1_init 2 117 [(0, .ref a0), (1, .int x1)] [.ref (hN h), .int x1, .ref b3] h10 (rc - 1) (rs - 15) n0 Q X
    obtain ⟨e11, e12, e13, K⟩ := K
    refine g_aast (t := 5) (ci := 2) dX1_init_117 (Or.inl ⟨rfl, rfl⟩) fc_2 e11 e12 e13 ?_
    refine g_iinc (v := (x1 + 1)) (lv' := [(0, .ref a0), (1, .int (x1 + 1))]) dX1_init_118 1 rfl (by rfl) (by decide) rfl ?_
    refine g_goto (tgt := 100) dX1_init_121 (by decide) ?_
    exact K
set_option maxRecDepth 20000 in
set_option maxHeartbeats 4000000 in
theorem vX1_init_126 {l : Launch} {x : CX} {a0 : Nat} {x1 : Int32} {h : PH} {rc rs n0 : Nat} {Q : Option Value → PH → Prop} {X : String → PH → Prop}
    (K : ((24 ≤ x1 → Q none h) ∧ (¬ 24 ≤ x1 → ((hK h a0).1 = 1) ∧ ∃ b3, (hR h a0 14 = some b3) ∧ (1 ≤ rc) ∧ (10 ≤ rs) ∧ ∀ (h7 : PH), h7 = (nw h (6, 0)) → (NestOk x RX1 69 yX6_init "LiftBank") ∧ ∃ (q8 : PH → Prop), CV l x mX6_init 1 0 0 [.ref (hN h)] h7 q8 ∧ ∀ (h10 : PH), q8 h10 → ((hK h10 b3).1 = 106) ∧ (vp_in x1 (hK h10 b3).2) ∧ ((hK h10 (hN h)).1 = 6) ∧ Gm l x mX1_init 2 126 [(0, .ref a0), (1, .int (x1 + 1))] [] (sR h10 b3 x1.toNatClampNeg (some (hN h))) (rc - 1) (rs - 10) n0 Q X))) :
    Gm l x mX1_init 2 126 [(0, .ref a0), (1, .int x1)] [] h rc rs n0 Q X := by
  refine g_iload_n dX1_init_126 rfl 1 rfl ?_
  refine g_bipush (v := 24) dX1_init_127 (by decide) ?_
  refine g_icmp_ge (tgt := 151) dX1_init_129 (by decide) (fun c1 => ?_) (fun c1 => ?_)
  · replace K := K.1 c1
    exact g_vret dX1_init_151 rfl K
  · replace K := K.2 c1
    refine g_aload_n dX1_init_132 rfl 0 rfl ?_
    obtain ⟨e2, b3, e4, K⟩ := K
    refine g_get (c := 1) (k := 14) (v := .ref b3) dX1_init_133 fc_1 (by decide) (by decide) bw_226 (congrArg pr e4) e2 ?_
    refine g_iload_n dX1_init_136 rfl 1 rfl ?_
    obtain ⟨e5, e6, K⟩ := K
    refine g_new (c := 6) (rc' := (rc - 1)) (rs' := (rs - 10)) dX1_init_137 fc_6 (by decide) (by decide) bw_46 bw_124 bw_5 (by omega) (show (rs - 10) + 10 ≤ rs by omega) ?_
    generalize e15 : (nw h (6, 0)) = h7
    replace K := K h7 e15.symm
    refine g_dup dX1_init_140 rfl ?_
    obtain ⟨z14, K⟩ := K
    obtain ⟨q8, C9, K⟩ := K
    refine g_callIN (M' := mX6_init) (b := (hN h)) (As := []) (rest := [.ref (hN h), .int x1, .ref b3]) (rc' := (rc - 1)) (rs' := (rs - 10)) dX1_init_141 z14 bw_126 rfl rfl bw_5 bw_127 ⟨by decide +kernel, by decide +kernel, show (parseMethodDescriptor mX6_init.1.desc).map (fun d => d.parameters.length) = some 0 by decide +kernel⟩ (by decide) (by decide) (Nat.le_of_ble_eq_true rfl) C9 (Nat.le_of_eq (Nat.add_zero _)) (Nat.le_of_eq (Nat.add_zero _)) (fun _ _ h => h) ?_
    rintro _ h10 ⟨rfl, K1⟩ -
    replace K := K h10 K1
    show Gm l x mX1_init 2 144 [(0, .ref a0), (1, .int x1)] [.ref (hN h), .int x1, .ref b3] h10 (rc - 1) (rs - 10) n0 Q X
    obtain ⟨e11, e12, e13, K⟩ := K
    refine g_aast (t := 6) (ci := 6) dX1_init_144 (Or.inr (Or.inl ⟨rfl, rfl⟩)) fc_6 e11 e12 e13 ?_
    refine g_iinc (v := (x1 + 1)) (lv' := [(0, .ref a0), (1, .int (x1 + 1))]) dX1_init_145 1 rfl (by rfl) (by decide) rfl ?_
    refine g_goto (tgt := 126) dX1_init_148 (by decide) ?_
    exact K
theorem dX1_addCar_0 : decode cX1_addCar 0 = .ok (.aload_n 0, 1) := by decide +kernel
theorem dX1_addCar_1 : decode cX1_addCar 1 = .ok (.getfield 15, 3) := by decide +kernel
theorem dX1_addCar_4 : decode cX1_addCar 4 = .ok (.iconst 4, 1) := by decide +kernel
theorem dX1_addCar_5 : decode cX1_addCar 5 = .ok (.if_icmp .ge 28, 3) := by decide +kernel
theorem dX1_addCar_8 : decode cX1_addCar 8 = .ok (.aload_n 0, 1) := by decide +kernel
theorem dX1_addCar_9 : decode cX1_addCar 9 = .ok (.getfield 54, 3) := by decide +kernel
theorem dX1_addCar_12 : decode cX1_addCar 12 = .ok (.aload_n 0, 1) := by decide +kernel
theorem dX1_addCar_13 : decode cX1_addCar 13 = .ok (.getfield 15, 3) := by decide +kernel
theorem dX1_addCar_16 : decode cX1_addCar 16 = .ok (.aaload, 1) := by decide +kernel
theorem dX1_addCar_17 : decode cX1_addCar 17 = .ok (.iload_n 1, 1) := by decide +kernel
theorem dX1_addCar_18 : decode cX1_addCar 18 = .ok (.iload_n 2, 1) := by decide +kernel
theorem dX1_addCar_19 : decode cX1_addCar 19 = .ok (.iload_n 3, 1) := by decide +kernel
theorem dX1_addCar_20 : decode cX1_addCar 20 = .ok (.invokevirtual 77, 3) := by decide +kernel
theorem dX1_addCar_23 : decode cX1_addCar 23 = .ok (.aload_n 0, 1) := by decide +kernel
theorem dX1_addCar_24 : decode cX1_addCar 24 = .ok (.dup, 1) := by decide +kernel
theorem dX1_addCar_25 : decode cX1_addCar 25 = .ok (.getfield 15, 3) := by decide +kernel
theorem dX1_addCar_28 : decode cX1_addCar 28 = .ok (.iconst 1, 1) := by decide +kernel
theorem dX1_addCar_29 : decode cX1_addCar 29 = .ok (.iadd, 1) := by decide +kernel
theorem dX1_addCar_30 : decode cX1_addCar 30 = .ok (.putfield 15, 3) := by decide +kernel
theorem dX1_addCar_33 : decode cX1_addCar 33 = .ok (.return_, 1) := by decide +kernel
set_option maxRecDepth 20000 in
set_option maxHeartbeats 4000000 in
theorem vX1_addCar_0 {l : Launch} {x : CX} {a0 : Nat} {x1 : Int32} {x2 : Int32} {x3 : Int32} {h : PH} {rc rs n0 : Nat} {Q : Option Value → PH → Prop} {X : String → PH → Prop}
    (K : ((hK h a0).1 = 1) ∧ ((4 ≤ (hI h a0 1) → Q none h) ∧ (¬ 4 ≤ (hI h a0 1) → ∃ b3, (hR h a0 13 = some b3) ∧ ((hK h b3).1 = 105) ∧ (vp_in (hI h a0 1) (hK h b3).2) ∧ ∃ b7, (hR h b3 (hI h a0 1).toNatClampNeg = some b7) ∧ ((hK h b7).1 = 2) ∧ ∃ (q9 : PH → Prop), CV l x mX2_tell 1 0 0 [.ref b7, .int x1, .int x2, .int x3] h q9 ∧ ∀ (h12 : PH), q9 h12 → ((hK h12 a0).1 = 1) ∧ Q none (sI h12 a0 1 ((hI h12 a0 1) + 1))))) :
    Gm l x mX1_addCar 2 0 [(0, .ref a0), (1, .int x1), (2, .int x2), (3, .int x3)] [] h rc rs n0 Q X := by
  refine g_aload_n dX1_addCar_0 rfl 0 rfl ?_
  obtain ⟨e1, K⟩ := K
  refine g_get (c := 1) (k := 1) (v := .int (hI h a0 1)) dX1_addCar_1 fc_1 (by decide) (by decide) bw_188 rfl e1 ?_
  refine g_iconst (v := 4) dX1_addCar_4 (by decide) ?_
  refine g_icmp_ge (tgt := 33) dX1_addCar_5 (by decide) (fun c2 => ?_) (fun c2 => ?_)
  · replace K := K.1 c2
    exact g_vret dX1_addCar_33 rfl K
  · replace K := K.2 c2
    refine g_aload_n dX1_addCar_8 rfl 0 rfl ?_
    obtain ⟨b3, e4, K⟩ := K
    refine g_get (c := 1) (k := 13) (v := .ref b3) dX1_addCar_9 fc_1 (by decide) (by decide) bw_223 (congrArg pr e4) e1 ?_
    refine g_aload_n dX1_addCar_12 rfl 0 rfl ?_
    refine g_get (c := 1) (k := 1) (v := .int (hI h a0 1)) dX1_addCar_13 fc_1 (by decide) (by decide) bw_188 rfl e1 ?_
    obtain ⟨e5, e6, b7, e8, K⟩ := K
    refine g_aald (t := 5) (v := .ref b7) dX1_addCar_16 (Or.inl rfl) e5 e6 (congrArg pr e8) ?_
    refine g_iload_n dX1_addCar_17 rfl 1 rfl ?_
    refine g_iload_n dX1_addCar_18 rfl 2 rfl ?_
    refine g_iload_n dX1_addCar_19 rfl 3 rfl ?_
    obtain ⟨e11, K⟩ := K
    obtain ⟨q9, C10, K⟩ := K
    refine g_callV (M' := mX2_tell) (b := b7) (As := [.int x1, .int x2, .int x3]) (rest := []) (rc' := rc) (rs' := rs) dX1_addCar_20 bw_861 bw_862 bw_863 bw_4 bw_864 ⟨by decide +kernel, by decide +kernel, show (parseMethodDescriptor mX2_tell.1.desc).map (fun d => d.parameters.length) = some 3 by decide +kernel⟩ (by decide) (by decide) (Nat.le_of_ble_eq_true rfl) fc_2 (by decide) rfl e11 C10 (Nat.le_of_eq (Nat.add_zero _)) (Nat.le_of_eq (Nat.add_zero _)) (fun _ _ h => h) ?_
    rintro _ h12 ⟨rfl, K1⟩ -
    replace K := K h12 K1
    show Gm l x mX1_addCar 2 23 [(0, .ref a0), (1, .int x1), (2, .int x2), (3, .int x3)] [] h12 rc rs n0 Q X
    refine g_aload_n dX1_addCar_23 rfl 0 rfl ?_
    refine g_dup dX1_addCar_24 rfl ?_
    obtain ⟨e13, K⟩ := K
    refine g_get (c := 1) (k := 1) (v := .int (hI h12 a0 1)) dX1_addCar_25 fc_1 (by decide) (by decide) bw_188 rfl e13 ?_
    refine g_iconst (v := 1) dX1_addCar_28 (by decide) ?_
    refine g_iadd dX1_addCar_29 ?_
    refine g_puti (c := 1) (k := 1) dX1_addCar_30 fc_1 (by decide) (by decide) bw_188 (Or.inl rfl) rfl e13 ?_
    exact g_vret dX1_addCar_33 rfl K
theorem dX1_addByHand_0 : decode cX1_addByHand 0 = .ok (.aload_n 0, 1) := by decide +kernel
theorem dX1_addByHand_1 : decode cX1_addByHand 1 = .ok (.aload_n 0, 1) := by decide +kernel
theorem dX1_addByHand_2 : decode cX1_addByHand 2 = .ok (.getfield 33, 3) := by decide +kernel
theorem dX1_addByHand_5 : decode cX1_addByHand 5 = .ok (.iload_n 1, 1) := by decide +kernel
theorem dX1_addByHand_6 : decode cX1_addByHand 6 = .ok (.iload_n 2, 1) := by decide +kernel
theorem dX1_addByHand_7 : decode cX1_addByHand 7 = .ok (.iload_n 3, 1) := by decide +kernel
theorem dX1_addByHand_8 : decode cX1_addByHand 8 = .ok (.invokevirtual 84, 3) := by decide +kernel
theorem dX1_addByHand_11 : decode cX1_addByHand 11 = .ok (.aload_n 0, 1) := by decide +kernel
theorem dX1_addByHand_12 : decode cX1_addByHand 12 = .ok (.aload_n 0, 1) := by decide +kernel
theorem dX1_addByHand_13 : decode cX1_addByHand 13 = .ok (.getfield 60, 3) := by decide +kernel
theorem dX1_addByHand_16 : decode cX1_addByHand 16 = .ok (.aload_n 0, 1) := by decide +kernel
theorem dX1_addByHand_17 : decode cX1_addByHand 17 = .ok (.getfield 18, 3) := by decide +kernel
theorem dX1_addByHand_20 : decode cX1_addByHand 20 = .ok (.iconst 1, 1) := by decide +kernel
theorem dX1_addByHand_21 : decode cX1_addByHand 21 = .ok (.isub, 1) := by decide +kernel
theorem dX1_addByHand_22 : decode cX1_addByHand 22 = .ok (.aaload, 1) := by decide +kernel
theorem dX1_addByHand_23 : decode cX1_addByHand 23 = .ok (.invokevirtual 87, 3) := by decide +kernel
theorem dX1_addByHand_26 : decode cX1_addByHand 26 = .ok (.aload_n 0, 1) := by decide +kernel
theorem dX1_addByHand_27 : decode cX1_addByHand 27 = .ok (.getfield 18, 3) := by decide +kernel
theorem dX1_addByHand_30 : decode cX1_addByHand 30 = .ok (.iconst 1, 1) := by decide +kernel
theorem dX1_addByHand_31 : decode cX1_addByHand 31 = .ok (.isub, 1) := by decide +kernel
theorem dX1_addByHand_32 : decode cX1_addByHand 32 = .ok (.ireturn, 1) := by decide +kernel
set_option maxRecDepth 20000 in
set_option maxHeartbeats 4000000 in
theorem vX1_addByHand_0 {l : Launch} {x : CX} {a0 : Nat} {x1 : Int32} {x2 : Int32} {x3 : Int32} {h : PH} {rc rs n0 : Nat} {Q : Option Value → PH → Prop} {X : String → PH → Prop}
    (K : ((hK h a0).1 = 1) ∧ ∃ (q2 : PH → Prop), CV l x mX1_addRider 1 0 0 [.ref a0, .int (hI h a0 7), .int x1, .int x2, .int x3] h q2 ∧ ∀ (h4 : PH), q2 h4 → ((hK h4 a0).1 = 1) ∧ ∃ b6, (hR h4 a0 14 = some b6) ∧ ((hK h4 b6).1 = 106) ∧ (vp_in ((hI h4 a0 2) - 1) (hK h4 b6).2) ∧ ∃ b10, (hR h4 b6 ((hI h4 a0 2) - 1).toNatClampNeg = some b10) ∧ ∃ (q12 : PH → Prop), CV l x mX1_arrive 1 0 0 [.ref a0, .ref b10] h4 q12 ∧ ∀ (h14 : PH), q12 h14 → ((hK h14 a0).1 = 1) ∧ Q (some (.int ((hI h14 a0 2) - 1))) h14) :
    Gm l x mX1_addByHand 2 0 [(0, .ref a0), (1, .int x1), (2, .int x2), (3, .int x3)] [] h rc rs n0 Q X := by
  refine g_aload_n dX1_addByHand_0 rfl 0 rfl ?_
  refine g_aload_n dX1_addByHand_1 rfl 0 rfl ?_
  obtain ⟨e1, K⟩ := K
  refine g_get (c := 1) (k := 7) (v := .int (hI h a0 7)) dX1_addByHand_2 fc_1 (by decide) (by decide) bw_212 rfl e1 ?_
  refine g_iload_n dX1_addByHand_5 rfl 1 rfl ?_
  refine g_iload_n dX1_addByHand_6 rfl 2 rfl ?_
  refine g_iload_n dX1_addByHand_7 rfl 3 rfl ?_
  obtain ⟨q2, C3, K⟩ := K
  refine g_callV (M' := mX1_addRider) (b := a0) (As := [.int (hI h a0 7), .int x1, .int x2, .int x3]) (rest := []) (rc' := rc) (rs' := rs) dX1_addByHand_8 bw_620 bw_621 bw_622 bw_3 bw_623 ⟨by decide +kernel, by decide +kernel, show (parseMethodDescriptor mX1_addRider.1.desc).map (fun d => d.parameters.length) = some 4 by decide +kernel⟩ (by decide) (by decide) (Nat.le_of_ble_eq_true rfl) fc_1 (by decide) rfl e1 C3 (Nat.le_of_eq (Nat.add_zero _)) (Nat.le_of_eq (Nat.add_zero _)) (fun _ _ h => h) ?_
  rintro _ h4 ⟨rfl, K1⟩ -
  replace K := K h4 K1
  show Gm l x mX1_addByHand 2 11 [(0, .ref a0), (1, .int x1), (2, .int x2), (3, .int x3)] [] h4 rc rs n0 Q X
  refine g_aload_n dX1_addByHand_11 rfl 0 rfl ?_
  refine g_aload_n dX1_addByHand_12 rfl 0 rfl ?_
  obtain ⟨e5, b6, e7, K⟩ := K
  refine g_get (c := 1) (k := 14) (v := .ref b6) dX1_addByHand_13 fc_1 (by decide) (by decide) bw_226 (congrArg pr e7) e5 ?_
  refine g_aload_n dX1_addByHand_16 rfl 0 rfl ?_
  refine g_get (c := 1) (k := 2) (v := .int (hI h4 a0 2)) dX1_addByHand_17 fc_1 (by decide) (by decide) bw_192 rfl e5 ?_
  refine g_iconst (v := 1) dX1_addByHand_20 (by decide) ?_
  refine g_isub dX1_addByHand_21 ?_
  obtain ⟨e8, e9, b10, e11, K⟩ := K
  refine g_aald (t := 6) (v := .ref b10) dX1_addByHand_22 (Or.inr (Or.inl rfl)) e8 e9 (congrArg pr e11) ?_
  obtain ⟨q12, C13, K⟩ := K
  refine g_callV (M' := mX1_arrive) (b := a0) (As := [.ref b10]) (rest := []) (rc' := rc) (rs' := rs) dX1_addByHand_23 bw_481 bw_483 bs_4 bw_3 bw_484 ⟨by decide +kernel, by decide +kernel, show (parseMethodDescriptor mX1_arrive.1.desc).map (fun d => d.parameters.length) = some 1 by decide +kernel⟩ (by decide) (by decide) (Nat.le_of_ble_eq_true rfl) fc_1 (by decide) rfl e5 C13 (Nat.le_of_eq (Nat.add_zero _)) (Nat.le_of_eq (Nat.add_zero _)) (fun _ _ h => h) ?_
  rintro _ h14 ⟨rfl, K1⟩ -
  replace K := K h14 K1
  show Gm l x mX1_addByHand 2 26 [(0, .ref a0), (1, .int x1), (2, .int x2), (3, .int x3)] [] h14 rc rs n0 Q X
  refine g_aload_n dX1_addByHand_26 rfl 0 rfl ?_
  obtain ⟨e15, K⟩ := K
  refine g_get (c := 1) (k := 2) (v := .int (hI h14 a0 2)) dX1_addByHand_27 fc_1 (by decide) (by decide) bw_192 rfl e15 ?_
  refine g_iconst (v := 1) dX1_addByHand_30 (by decide) ?_
  refine g_isub dX1_addByHand_31 ?_
  exact g_iret dX1_addByHand_32 rfl K
theorem dX1_costOf_0 : decode cX1_costOf 0 = .ok (.aload_n 0, 1) := by decide +kernel
theorem dX1_costOf_1 : decode cX1_costOf 1 = .ok (.getfield 65, 3) := by decide +kernel
theorem dX1_costOf_4 : decode cX1_costOf 4 = .ok (.aload_n 1, 1) := by decide +kernel
theorem dX1_costOf_5 : decode cX1_costOf 5 = .ok (.invokevirtual 70, 3) := by decide +kernel
theorem dX1_costOf_8 : decode cX1_costOf 8 = .ok (.aload_n 0, 1) := by decide +kernel
theorem dX1_costOf_9 : decode cX1_costOf 9 = .ok (.getfield 65, 3) := by decide +kernel
theorem dX1_costOf_12 : decode cX1_costOf 12 = .ok (.dup, 1) := by decide +kernel
theorem dX1_costOf_13 : decode cX1_costOf 13 = .ok (.getfield 144, 3) := by decide +kernel
theorem dX1_costOf_16 : decode cX1_costOf 16 = .ok (.lconst 1, 1) := by decide +kernel
theorem dX1_costOf_17 : decode cX1_costOf 17 = .ok (.iload_n 2, 1) := by decide +kernel
theorem dX1_costOf_18 : decode cX1_costOf 18 = .ok (.lshl, 1) := by decide +kernel
theorem dX1_costOf_19 : decode cX1_costOf 19 = .ok (.lor, 1) := by decide +kernel
theorem dX1_costOf_20 : decode cX1_costOf 20 = .ok (.putfield 144, 3) := by decide +kernel
theorem dX1_costOf_23 : decode cX1_costOf 23 = .ok (.aload_n 0, 1) := by decide +kernel
theorem dX1_costOf_24 : decode cX1_costOf 24 = .ok (.aload_n 1, 1) := by decide +kernel
theorem dX1_costOf_25 : decode cX1_costOf 25 = .ok (.invokevirtual 178, 3) := by decide +kernel
theorem dX1_costOf_28 : decode cX1_costOf 28 = .ok (.istore_n 3, 1) := by decide +kernel
theorem dX1_costOf_29 : decode cX1_costOf 29 = .ok (.iload_n 2, 1) := by decide +kernel
theorem dX1_costOf_30 : decode cX1_costOf 30 = .ok (.iconst 2, 1) := by decide +kernel
theorem dX1_costOf_31 : decode cX1_costOf 31 = .ok (.iand, 1) := by decide +kernel
theorem dX1_costOf_32 : decode cX1_costOf 32 = .ok (.ifCond .ne 7, 3) := by decide +kernel
theorem dX1_costOf_35 : decode cX1_costOf 35 = .ok (.iconst 1, 1) := by decide +kernel
theorem dX1_costOf_36 : decode cX1_costOf 36 = .ok (.goto 4, 3) := by decide +kernel
theorem dX1_costOf_39 : decode cX1_costOf 39 = .ok (.iconst (-1), 1) := by decide +kernel
theorem dX1_costOf_40 : decode cX1_costOf 40 = .ok (.istore 4, 2) := by decide +kernel
theorem dX1_costOf_42 : decode cX1_costOf 42 = .ok (.iconst 0, 1) := by decide +kernel
theorem dX1_costOf_43 : decode cX1_costOf 43 = .ok (.istore 5, 2) := by decide +kernel
theorem dX1_costOf_45 : decode cX1_costOf 45 = .ok (.iload 5, 2) := by decide +kernel
theorem dX1_costOf_47 : decode cX1_costOf 47 = .ok (.bipush 60, 2) := by decide +kernel
theorem dX1_costOf_49 : decode cX1_costOf 49 = .ok (.if_icmp .ge 49, 3) := by decide +kernel
theorem dX1_costOf_52 : decode cX1_costOf 52 = .ok (.aload_n 0, 1) := by decide +kernel
theorem dX1_costOf_53 : decode cX1_costOf 53 = .ok (.getfield 65, 3) := by decide +kernel
theorem dX1_costOf_56 : decode cX1_costOf 56 = .ok (.aload_n 0, 1) := by decide +kernel
theorem dX1_costOf_57 : decode cX1_costOf 57 = .ok (.iload_n 3, 1) := by decide +kernel
theorem dX1_costOf_58 : decode cX1_costOf 58 = .ok (.invokevirtual 182, 3) := by decide +kernel
theorem dX1_costOf_61 : decode cX1_costOf 61 = .ok (.ifCond .eq 31, 3) := by decide +kernel
theorem dX1_costOf_64 : decode cX1_costOf 64 = .ok (.aload_n 0, 1) := by decide +kernel
theorem dX1_costOf_65 : decode cX1_costOf 65 = .ok (.getfield 65, 3) := by decide +kernel
theorem dX1_costOf_68 : decode cX1_costOf 68 = .ok (.getfield 151, 3) := by decide +kernel
theorem dX1_costOf_71 : decode cX1_costOf 71 = .ok (.iload_n 2, 1) := by decide +kernel
theorem dX1_costOf_72 : decode cX1_costOf 72 = .ok (.iconst 4, 1) := by decide +kernel
theorem dX1_costOf_73 : decode cX1_costOf 73 = .ok (.idiv, 1) := by decide +kernel
theorem dX1_costOf_74 : decode cX1_costOf 74 = .ok (.if_icmp .ne 18, 3) := by decide +kernel
theorem dX1_costOf_77 : decode cX1_costOf 77 = .ok (.aload_n 0, 1) := by decide +kernel
theorem dX1_costOf_78 : decode cX1_costOf 78 = .ok (.getfield 65, 3) := by decide +kernel
theorem dX1_costOf_81 : decode cX1_costOf 81 = .ok (.getfield 186, 3) := by decide +kernel
theorem dX1_costOf_84 : decode cX1_costOf 84 = .ok (.iload 4, 2) := by decide +kernel
theorem dX1_costOf_86 : decode cX1_costOf 86 = .ok (.if_icmp .ne 6, 3) := by decide +kernel
theorem dX1_costOf_89 : decode cX1_costOf 89 = .ok (.iload 5, 2) := by decide +kernel
theorem dX1_costOf_91 : decode cX1_costOf 91 = .ok (.ireturn, 1) := by decide +kernel
theorem dX1_costOf_92 : decode cX1_costOf 92 = .ok (.iinc 5 1, 3) := by decide +kernel
theorem dX1_costOf_95 : decode cX1_costOf 95 = .ok (.goto (-50), 3) := by decide +kernel
theorem dX1_costOf_98 : decode cX1_costOf 98 = .ok (.bipush 60, 2) := by decide +kernel
theorem dX1_costOf_100 : decode cX1_costOf 100 = .ok (.ireturn, 1) := by decide +kernel
set_option maxRecDepth 20000 in
set_option maxHeartbeats 4000000 in
theorem vX1_costOf_0 {l : Launch} {x : CX} {a0 : Nat} {a1 : Nat} {x2 : Int32} {h : PH} {rc rs n0 : Nat} {Q : Option Value → PH → Prop} {X : String → PH → Prop}
    (K : ((hK h a0).1 = 1) ∧ ∃ b2, (hR h a0 15 = some b2) ∧ ((hK h b2).1 = 2) ∧ ∃ (q4 : PH → Prop), CV l x mX2_copyFrom 0 0 0 [.ref b2, .ref a1] h q4 ∧ ∀ (h7 : PH), q4 h7 → ((hK h7 a0).1 = 1) ∧ ∃ b9, (hR h7 a0 15 = some b9) ∧ ((hK h7 b9).1 = 2) ∧ ∃ (q12 : Int32 → PH → Prop), CI l x mX1_restOf 0 0 0 [.ref a0, .ref a1] (sL h7 b9 12 ((hL h7 b9 12) ||| (lsh 1 x2))) q12 ∧ ∀ (r15 : Int32) (h14 : PH), q12 r15 h14 → Gm l x mX1_costOf 2 45 [(0, .ref a0), (1, .ref a1), (2, .int x2), (3, .int r15), (4, .int (if (x2 &&& 2) = 0 then 1 else (-1) : Int32)), (5, .int 0)] [] h14 rc rs n0 Q X) :
    Gm l x mX1_costOf 2 0 [(0, .ref a0), (1, .ref a1), (2, .int x2)] [] h rc rs n0 Q X := by
  refine g_aload_n dX1_costOf_0 rfl 0 rfl ?_
  obtain ⟨e1, b2, e3, K⟩ := K
  refine g_get (c := 1) (k := 15) (v := .ref b2) dX1_costOf_1 fc_1 (by decide) (by decide) bw_230 (congrArg pr e3) e1 ?_
  refine g_aload_n dX1_costOf_4 rfl 1 rfl ?_
  obtain ⟨e6, K⟩ := K
  obtain ⟨q4, C5, K⟩ := K
  refine g_callV (M' := mX2_copyFrom) (b := b2) (As := [.ref a1]) (rest := []) (rc' := rc) (rs' := rs) dX1_costOf_5 bw_457 bw_458 bw_459 bw_4 bw_460 ⟨by decide +kernel, by decide +kernel, show (parseMethodDescriptor mX2_copyFrom.1.desc).map (fun d => d.parameters.length) = some 1 by decide +kernel⟩ (by decide) (by decide) (Nat.le_of_ble_eq_true rfl) fc_2 (by decide) rfl e6 C5 (Nat.le_of_eq (Nat.add_zero _)) (Nat.le_of_eq (Nat.add_zero _)) (fun _ _ h => h) ?_
  rintro _ h7 ⟨rfl, K1⟩ -
  replace K := K h7 K1
  show Gm l x mX1_costOf 2 8 [(0, .ref a0), (1, .ref a1), (2, .int x2)] [] h7 rc rs n0 Q X
  refine g_aload_n dX1_costOf_8 rfl 0 rfl ?_
  obtain ⟨e8, b9, e10, K⟩ := K
  refine g_get (c := 1) (k := 15) (v := .ref b9) dX1_costOf_9 fc_1 (by decide) (by decide) bw_230 (congrArg pr e10) e8 ?_
  refine g_dup dX1_costOf_12 rfl ?_
  obtain ⟨e11, K⟩ := K
  refine g_get (c := 2) (k := 12) (v := .long (hL h7 b9 12)) dX1_costOf_13 fc_2 (by decide) (by decide) bw_87 rfl e11 ?_
  refine g_lconst (v := 1) dX1_costOf_16 (by decide) ?_
  refine g_iload_n dX1_costOf_17 rfl 2 rfl ?_
  refine g_lshl dX1_costOf_18 ?_
  refine g_lor dX1_costOf_19 ?_
  refine g_putl (c := 2) (k := 12) dX1_costOf_20 fc_2 (by decide) (by decide) bw_87 (Or.inl rfl) rfl e11 ?_
  refine g_aload_n dX1_costOf_23 rfl 0 rfl ?_
  refine g_aload_n dX1_costOf_24 rfl 1 rfl ?_
  obtain ⟨q12, C13, K⟩ := K
  refine g_callV (M' := mX1_restOf) (b := a0) (As := [.ref a1]) (rest := []) (rc' := rc) (rs' := rs) dX1_costOf_25 bw_477 bw_479 bs_3 bw_3 bw_480 ⟨by decide +kernel, by decide +kernel, show (parseMethodDescriptor mX1_restOf.1.desc).map (fun d => d.parameters.length) = some 1 by decide +kernel⟩ (by decide) (by decide) (Nat.le_of_ble_eq_true rfl) fc_1 (by decide) rfl (kkL e8) C13 (Nat.le_of_eq (Nat.add_zero _)) (Nat.le_of_eq (Nat.add_zero _)) (fun _ _ h => h) ?_
  rintro _ h14 ⟨r15, rfl, K1⟩ -
  replace K := K r15 h14 K1
  show Gm l x mX1_costOf 2 28 [(0, .ref a0), (1, .ref a1), (2, .int x2)] [.int r15] h14 rc rs n0 Q X
  refine g_istore_n (lv' := [(0, .ref a0), (1, .ref a1), (2, .int x2), (3, .int r15)]) dX1_costOf_28 rfl (by decide) rfl ?_
  refine g_iload_n dX1_costOf_29 rfl 2 rfl ?_
  refine g_iconst (v := 2) dX1_costOf_30 (by decide) ?_
  refine g_iand dX1_costOf_31 ?_
  have KJ : Gm l x mX1_costOf 2 40 [(0, .ref a0), (1, .ref a1), (2, .int x2), (3, .int r15)] [.int (if (x2 &&& 2) = 0 then 1 else (-1) : Int32)] h14 rc rs n0 Q X := by
    refine g_istore (lv' := [(0, .ref a0), (1, .ref a1), (2, .int x2), (3, .int r15), (4, .int (if (x2 &&& 2) = 0 then 1 else (-1) : Int32))]) dX1_costOf_40 (by decide) rfl ?_
    refine g_iconst (v := 0) dX1_costOf_42 (by decide) ?_
    refine g_istore (lv' := [(0, .ref a0), (1, .ref a1), (2, .int x2), (3, .int r15), (4, .int (if (x2 &&& 2) = 0 then 1 else (-1) : Int32)), (5, .int 0)]) dX1_costOf_43 (by decide) rfl ?_
    exact K
  refine g_if_ne (tgt := 39) dX1_costOf_32 (by decide) (fun c16 => ?_) (fun c16 => ?_)
  · refine g_iconst (v := (-1)) dX1_costOf_39 (by decide) ?_
    first | (simp only [if_neg c16] at KJ; exact KJ) | (simp only [if_neg c16, ite_true, ite_false, eq_self] at KJ; exact KJ) | (simp only [if_neg c16] at KJ ⊢; exact KJ) | exact KJ
  · refine g_iconst (v := 1) dX1_costOf_35 (by decide) ?_
    refine g_goto (tgt := 40) dX1_costOf_36 (by decide) ?_
    first | (simp only [if_pos c16] at KJ; exact KJ) | (simp only [if_pos c16, ite_true, ite_false, eq_self] at KJ; exact KJ) | (simp only [if_pos c16] at KJ ⊢; exact KJ) | exact KJ
set_option maxRecDepth 20000 in
set_option maxHeartbeats 4000000 in
theorem vX1_costOf_45 {l : Launch} {x : CX} {a0 : Nat} {a1 : Nat} {x2 : Int32} {x3 : Int32} {x4 : Int32} {x5 : Int32} {h : PH} {rc rs n0 : Nat} {Q : Option Value → PH → Prop} {X : String → PH → Prop}
    (K : ((60 ≤ x5 → Q (some (.int 60)) h) ∧ (¬ 60 ≤ x5 → ((hK h a0).1 = 1) ∧ ∃ b3, (hR h a0 15 = some b3) ∧ ((hK h b3).1 = 2) ∧ ∃ (q5 : Int32 → PH → Prop), CI l x mX2_move 1 0 0 [.ref b3, .ref a0, .int x3] h q5 ∧ ∀ (r9 : Int32) (h8 : PH), q5 r9 h8 → ((r9 = 0 → Gm l x mX1_costOf 2 45 [(0, .ref a0), (1, .ref a1), (2, .int x2), (3, .int x3), (4, .int x4), (5, .int (x5 + 1))] [] h8 rc rs n0 Q X) ∧ (¬ r9 = 0 → ((hK h8 a0).1 = 1) ∧ ∃ b12, (hR h8 a0 15 = some b12) ∧ ((hK h8 b12).1 = 2) ∧ ((¬ (hI h8 b12 3) = (x2 / 4) → Gm l x mX1_costOf 2 45 [(0, .ref a0), (1, .ref a1), (2, .int x2), (3, .int x3), (4, .int x4), (5, .int (x5 + 1))] [] h8 rc rs n0 Q X) ∧ ((hI h8 b12 3) = (x2 / 4) → ((¬ (hI h8 b12 4) = x4 → Gm l x mX1_costOf 2 45 [(0, .ref a0), (1, .ref a1), (2, .int x2), (3, .int x3), (4, .int x4), (5, .int (x5 + 1))] [] h8 rc rs n0 Q X) ∧ ((hI h8 b12 4) = x4 → Q (some (.int x5)) h8))))))))) :
    Gm l x mX1_costOf 2 45 [(0, .ref a0), (1, .ref a1), (2, .int x2), (3, .int x3), (4, .int x4), (5, .int x5)] [] h rc rs n0 Q X := by
  refine g_iload dX1_costOf_45 5 rfl ?_
  refine g_bipush (v := 60) dX1_costOf_47 (by decide) ?_
  refine g_icmp_ge (tgt := 98) dX1_costOf_49 (by decide) (fun c1 => ?_) (fun c1 => ?_)
  · replace K := K.1 c1
    refine g_bipush (v := 60) dX1_costOf_98 (by decide) ?_
    exact g_iret dX1_costOf_100 rfl K
  · replace K := K.2 c1
    refine g_aload_n dX1_costOf_52 rfl 0 rfl ?_
    obtain ⟨e2, b3, e4, K⟩ := K
    refine g_get (c := 1) (k := 15) (v := .ref b3) dX1_costOf_53 fc_1 (by decide) (by decide) bw_230 (congrArg pr e4) e2 ?_
    refine g_aload_n dX1_costOf_56 rfl 0 rfl ?_
    refine g_iload_n dX1_costOf_57 rfl 3 rfl ?_
    obtain ⟨e7, K⟩ := K
    obtain ⟨q5, C6, K⟩ := K
    refine g_callV (M' := mX2_move) (b := b3) (As := [.ref a0, .int x3]) (rest := []) (rc' := rc) (rs' := rs) dX1_costOf_58 bw_556 bw_557 bw_558 bw_4 bw_559 ⟨by decide +kernel, by decide +kernel, show (parseMethodDescriptor mX2_move.1.desc).map (fun d => d.parameters.length) = some 2 by decide +kernel⟩ (by decide) (by decide) (Nat.le_of_ble_eq_true rfl) fc_2 (by decide) rfl e7 C6 (Nat.le_of_eq (Nat.add_zero _)) (Nat.le_of_eq (Nat.add_zero _)) (fun _ _ h => h) ?_
    rintro _ h8 ⟨r9, rfl, K1⟩ -
    replace K := K r9 h8 K1
    show Gm l x mX1_costOf 2 61 [(0, .ref a0), (1, .ref a1), (2, .int x2), (3, .int x3), (4, .int x4), (5, .int x5)] [.int r9] h8 rc rs n0 Q X
    refine g_if_eq (tgt := 92) dX1_costOf_61 (by decide) (fun c10 => ?_) (fun c10 => ?_)
    · replace K := K.1 c10
      refine g_iinc (v := (x5 + 1)) (lv' := [(0, .ref a0), (1, .ref a1), (2, .int x2), (3, .int x3), (4, .int x4), (5, .int (x5 + 1))]) dX1_costOf_92 5 rfl (by rfl) (by decide) rfl ?_
      refine g_goto (tgt := 45) dX1_costOf_95 (by decide) ?_
      exact K
    · replace K := K.2 c10
      refine g_aload_n dX1_costOf_64 rfl 0 rfl ?_
      obtain ⟨e11, b12, e13, K⟩ := K
      refine g_get (c := 1) (k := 15) (v := .ref b12) dX1_costOf_65 fc_1 (by decide) (by decide) bw_230 (congrArg pr e13) e11 ?_
      obtain ⟨e14, K⟩ := K
      refine g_get (c := 2) (k := 3) (v := .int (hI h8 b12 3)) dX1_costOf_68 fc_2 (by decide) (by decide) bw_65 rfl e14 ?_
      refine g_iload_n dX1_costOf_71 rfl 2 rfl ?_
      refine g_iconst (v := 4) dX1_costOf_72 (by decide) ?_
      refine g_idiv dX1_costOf_73 (by decide) ?_
      refine g_icmp_ne (tgt := 92) dX1_costOf_74 (by decide) (fun c15 => ?_) (fun c15 => ?_)
      · replace K := K.1 c15
        refine g_iinc (v := (x5 + 1)) (lv' := [(0, .ref a0), (1, .ref a1), (2, .int x2), (3, .int x3), (4, .int x4), (5, .int (x5 + 1))]) dX1_costOf_92 5 rfl (by rfl) (by decide) rfl ?_
        refine g_goto (tgt := 45) dX1_costOf_95 (by decide) ?_
        exact K
      · replace K := K.2 c15
        refine g_aload_n dX1_costOf_77 rfl 0 rfl ?_
        refine g_get (c := 1) (k := 15) (v := .ref b12) dX1_costOf_78 fc_1 (by decide) (by decide) bw_230 (congrArg pr e13) e11 ?_
        refine g_get (c := 2) (k := 4) (v := .int (hI h8 b12 4)) dX1_costOf_81 fc_2 (by decide) (by decide) bw_68 rfl e14 ?_
        refine g_iload dX1_costOf_84 4 rfl ?_
        refine g_icmp_ne (tgt := 92) dX1_costOf_86 (by decide) (fun c16 => ?_) (fun c16 => ?_)
        · replace K := K.1 c16
          refine g_iinc (v := (x5 + 1)) (lv' := [(0, .ref a0), (1, .ref a1), (2, .int x2), (3, .int x3), (4, .int x4), (5, .int (x5 + 1))]) dX1_costOf_92 5 rfl (by rfl) (by decide) rfl ?_
          refine g_goto (tgt := 45) dX1_costOf_95 (by decide) ?_
          exact K
        · replace K := K.2 c16
          refine g_iload dX1_costOf_89 5 rfl ?_
          exact g_iret dX1_costOf_91 rfl K
theorem dX1_moveCars_0 : decode cX1_moveCars 0 = .ok (.iconst 0, 1) := by decide +kernel
theorem dX1_moveCars_1 : decode cX1_moveCars 1 = .ok (.istore_n 1, 1) := by decide +kernel
theorem dX1_moveCars_2 : decode cX1_moveCars 2 = .ok (.iload_n 1, 1) := by decide +kernel
theorem dX1_moveCars_3 : decode cX1_moveCars 3 = .ok (.aload_n 0, 1) := by decide +kernel
theorem dX1_moveCars_4 : decode cX1_moveCars 4 = .ok (.getfield 15, 3) := by decide +kernel
theorem dX1_moveCars_7 : decode cX1_moveCars 7 = .ok (.if_icmp .ge 51, 3) := by decide +kernel
theorem dX1_moveCars_10 : decode cX1_moveCars 10 = .ok (.aload_n 0, 1) := by decide +kernel
theorem dX1_moveCars_11 : decode cX1_moveCars 11 = .ok (.getfield 54, 3) := by decide +kernel
theorem dX1_moveCars_14 : decode cX1_moveCars 14 = .ok (.iload_n 1, 1) := by decide +kernel
theorem dX1_moveCars_15 : decode cX1_moveCars 15 = .ok (.aaload, 1) := by decide +kernel
theorem dX1_moveCars_16 : decode cX1_moveCars 16 = .ok (.astore_n 2, 1) := by decide +kernel
theorem dX1_moveCars_17 : decode cX1_moveCars 17 = .ok (.aload_n 2, 1) := by decide +kernel
theorem dX1_moveCars_18 : decode cX1_moveCars 18 = .ok (.getfield 162, 3) := by decide +kernel
theorem dX1_moveCars_21 : decode cX1_moveCars 21 = .ok (.ifCond .eq 31, 3) := by decide +kernel
theorem dX1_moveCars_24 : decode cX1_moveCars 24 = .ok (.aload_n 2, 1) := by decide +kernel
theorem dX1_moveCars_25 : decode cX1_moveCars 25 = .ok (.iconst 0, 1) := by decide +kernel
theorem dX1_moveCars_26 : decode cX1_moveCars 26 = .ok (.putfield 187, 3) := by decide +kernel
theorem dX1_moveCars_29 : decode cX1_moveCars 29 = .ok (.aload_n 2, 1) := by decide +kernel
theorem dX1_moveCars_30 : decode cX1_moveCars 30 = .ok (.iconst 0, 1) := by decide +kernel
theorem dX1_moveCars_31 : decode cX1_moveCars 31 = .ok (.putfield 190, 3) := by decide +kernel
theorem dX1_moveCars_34 : decode cX1_moveCars 34 = .ok (.aload_n 2, 1) := by decide +kernel
theorem dX1_moveCars_35 : decode cX1_moveCars 35 = .ok (.aload_n 0, 1) := by decide +kernel
theorem dX1_moveCars_36 : decode cX1_moveCars 36 = .ok (.aload_n 0, 1) := by decide +kernel
theorem dX1_moveCars_37 : decode cX1_moveCars 37 = .ok (.aload_n 2, 1) := by decide +kernel
theorem dX1_moveCars_38 : decode cX1_moveCars 38 = .ok (.invokevirtual 178, 3) := by decide +kernel
theorem dX1_moveCars_41 : decode cX1_moveCars 41 = .ok (.invokevirtual 182, 3) := by decide +kernel
theorem dX1_moveCars_44 : decode cX1_moveCars 44 = .ok (.ifCond .eq 8, 3) := by decide +kernel
theorem dX1_moveCars_47 : decode cX1_moveCars 47 = .ok (.aload_n 0, 1) := by decide +kernel
theorem dX1_moveCars_48 : decode cX1_moveCars 48 = .ok (.iload_n 1, 1) := by decide +kernel
theorem dX1_moveCars_49 : decode cX1_moveCars 49 = .ok (.invokevirtual 193, 3) := by decide +kernel
theorem dX1_moveCars_52 : decode cX1_moveCars 52 = .ok (.iinc 1 1, 3) := by decide +kernel
theorem dX1_moveCars_55 : decode cX1_moveCars 55 = .ok (.goto (-53), 3) := by decide +kernel
theorem dX1_moveCars_58 : decode cX1_moveCars 58 = .ok (.return_, 1) := by decide +kernel
set_option maxRecDepth 20000 in
set_option maxHeartbeats 4000000 in
theorem vX1_moveCars_0 {l : Launch} {x : CX} {a0 : Nat} {h : PH} {rc rs n0 : Nat} {Q : Option Value → PH → Prop} {X : String → PH → Prop}
    (K : Gm l x mX1_moveCars 2 2 [(0, .ref a0), (1, .int 0)] [] h rc rs n0 Q X) :
    Gm l x mX1_moveCars 2 0 [(0, .ref a0)] [] h rc rs n0 Q X := by
  refine g_iconst (v := 0) dX1_moveCars_0 (by decide) ?_
  refine g_istore_n (lv' := [(0, .ref a0), (1, .int 0)]) dX1_moveCars_1 rfl (by decide) rfl ?_
  exact K
set_option maxRecDepth 20000 in
set_option maxHeartbeats 4000000 in
theorem vX1_moveCars_2 {l : Launch} {x : CX} {a0 : Nat} {x1 : Int32} {h : PH} {rc rs n0 : Nat} {Q : Option Value → PH → Prop} {X : String → PH → Prop}
    (K : ((hK h a0).1 = 1) ∧ (((hI h a0 1) ≤ x1 → Q none h) ∧ (¬ (hI h a0 1) ≤ x1 → ∃ b3, (hR h a0 13 = some b3) ∧ ((hK h b3).1 = 105) ∧ (vp_in x1 (hK h b3).2) ∧ ∃ b7, (hR h b3 x1.toNatClampNeg = some b7) ∧ ((hK h b7).1 = 2) ∧ (((hI h b7 6) = 0 → Gm l x mX1_moveCars 2 2 [(0, .ref a0), (1, .int (x1 + 1))] [] h rc rs n0 Q X) ∧ (¬ (hI h b7 6) = 0 → ∃ (q11 : Int32 → PH → Prop), CI l x mX1_restOf 0 0 0 [.ref a0, .ref b7] (sI (sI h b7 13 0) b7 14 0) q11 ∧ ∀ (r14 : Int32) (h13 : PH), q11 r14 h13 → ((hK h13 b7).1 = 2) ∧ ∃ (q15 : Int32 → PH → Prop), CI l x mX2_move 1 0 0 [.ref b7, .ref a0, .int r14] h13 q15 ∧ ∀ (r19 : Int32) (h18 : PH), q15 r19 h18 → ((r19 = 0 → Gm l x mX1_moveCars 2 2 [(0, .ref a0), (1, .int (x1 + 1))] [] h18 rc rs n0 Q X) ∧ (¬ r19 = 0 → ((hK h18 a0).1 = 1) ∧ ∃ (q21 : PH → Prop), CV l x mX1_settle 1 0 0 [.ref a0, .int x1] h18 q21 ∧ ∀ (h24 : PH), q21 h24 → Gm l x mX1_moveCars 2 2 [(0, .ref a0), (1, .int (x1 + 1))] [] h24 rc rs n0 Q X))))))) :
    Gm l x mX1_moveCars 2 2 [(0, .ref a0), (1, .int x1)] [] h rc rs n0 Q X := by
  refine g_iload_n dX1_moveCars_2 rfl 1 rfl ?_
  refine g_aload_n dX1_moveCars_3 rfl 0 rfl ?_
  obtain ⟨e1, K⟩ := K
  refine g_get (c := 1) (k := 1) (v := .int (hI h a0 1)) dX1_moveCars_4 fc_1 (by decide) (by decide) bw_188 rfl e1 ?_
  refine g_icmp_ge (tgt := 58) dX1_moveCars_7 (by decide) (fun c2 => ?_) (fun c2 => ?_)
  · replace K := K.1 c2
    exact g_vret dX1_moveCars_58 rfl K
  · replace K := K.2 c2
    refine g_aload_n dX1_moveCars_10 rfl 0 rfl ?_
    obtain ⟨b3, e4, K⟩ := K
    refine g_get (c := 1) (k := 13) (v := .ref b3) dX1_moveCars_11 fc_1 (by decide) (by decide) bw_223 (congrArg pr e4) e1 ?_
    refine g_iload_n dX1_moveCars_14 rfl 1 rfl ?_
    obtain ⟨e5, e6, b7, e8, K⟩ := K
    refine g_aald (t := 5) (v := .ref b7) dX1_moveCars_15 (Or.inl rfl) e5 e6 (congrArg pr e8) ?_
    refine g_astore_n (lv' := [(0, .ref a0), (1, .int x1), (2, .ref b7)]) dX1_moveCars_16 rfl (by decide) rfl ?_
    refine g_aload_n dX1_moveCars_17 rfl 2 rfl ?_
    obtain ⟨e9, K⟩ := K
    refine g_get (c := 2) (k := 6) (v := .int (hI h b7 6)) dX1_moveCars_18 fc_2 (by decide) (by decide) bw_75 rfl e9 ?_
    refine g_if_eq (tgt := 52) dX1_moveCars_21 (by decide) (fun c10 => ?_) (fun c10 => ?_)
    · replace K := K.1 c10
      refine g_iinc (v := (x1 + 1)) (lv' := [(0, .ref a0), (1, .int (x1 + 1)), (2, .ref b7)]) dX1_moveCars_52 1 rfl (by rfl) (by decide) rfl ?_
      refine g_goto (tgt := 2) dX1_moveCars_55 (by decide) ?_
      exact Gm.sub [0, 1] rfl K
    · replace K := K.2 c10
      refine g_aload_n dX1_moveCars_24 rfl 2 rfl ?_
      refine g_iconst (v := 0) dX1_moveCars_25 (by decide) ?_
      refine g_puti (c := 2) (k := 13) dX1_moveCars_26 fc_2 (by decide) (by decide) bw_89 (Or.inl rfl) rfl e9 ?_
      refine g_aload_n dX1_moveCars_29 rfl 2 rfl ?_
      refine g_iconst (v := 0) dX1_moveCars_30 (by decide) ?_
      refine g_puti (c := 2) (k := 14) dX1_moveCars_31 fc_2 (by decide) (by decide) bw_91 (Or.inl rfl) rfl (kkI e9) ?_
      refine g_aload_n dX1_moveCars_34 rfl 2 rfl ?_
      refine g_aload_n dX1_moveCars_35 rfl 0 rfl ?_
      refine g_aload_n dX1_moveCars_36 rfl 0 rfl ?_
      refine g_aload_n dX1_moveCars_37 rfl 2 rfl ?_
      obtain ⟨q11, C12, K⟩ := K
      refine g_callV (M' := mX1_restOf) (b := a0) (As := [.ref b7]) (rest := [.ref a0, .ref b7]) (rc' := rc) (rs' := rs) dX1_moveCars_38 bw_477 bw_479 bs_3 bw_3 bw_480 ⟨by decide +kernel, by decide +kernel, show (parseMethodDescriptor mX1_restOf.1.desc).map (fun d => d.parameters.length) = some 1 by decide +kernel⟩ (by decide) (by decide) (Nat.le_of_ble_eq_true rfl) fc_1 (by decide) rfl (kkI (kkI e1)) C12 (Nat.le_of_eq (Nat.add_zero _)) (Nat.le_of_eq (Nat.add_zero _)) (fun _ _ h => h) ?_
      rintro _ h13 ⟨r14, rfl, K1⟩ -
      replace K := K r14 h13 K1
      show Gm l x mX1_moveCars 2 41 [(0, .ref a0), (1, .int x1), (2, .ref b7)] [.int r14, .ref a0, .ref b7] h13 rc rs n0 Q X
      obtain ⟨e17, K⟩ := K
      obtain ⟨q15, C16, K⟩ := K
      refine g_callV (M' := mX2_move) (b := b7) (As := [.ref a0, .int r14]) (rest := []) (rc' := rc) (rs' := rs) dX1_moveCars_41 bw_556 bw_557 bw_558 bw_4 bw_559 ⟨by decide +kernel, by decide +kernel, show (parseMethodDescriptor mX2_move.1.desc).map (fun d => d.parameters.length) = some 2 by decide +kernel⟩ (by decide) (by decide) (Nat.le_of_ble_eq_true rfl) fc_2 (by decide) rfl e17 C16 (Nat.le_of_eq (Nat.add_zero _)) (Nat.le_of_eq (Nat.add_zero _)) (fun _ _ h => h) ?_
      rintro _ h18 ⟨r19, rfl, K1⟩ -
      replace K := K r19 h18 K1
      show Gm l x mX1_moveCars 2 44 [(0, .ref a0), (1, .int x1), (2, .ref b7)] [.int r19] h18 rc rs n0 Q X
      refine g_if_eq (tgt := 52) dX1_moveCars_44 (by decide) (fun c20 => ?_) (fun c20 => ?_)
      · replace K := K.1 c20
        refine g_iinc (v := (x1 + 1)) (lv' := [(0, .ref a0), (1, .int (x1 + 1)), (2, .ref b7)]) dX1_moveCars_52 1 rfl (by rfl) (by decide) rfl ?_
        refine g_goto (tgt := 2) dX1_moveCars_55 (by decide) ?_
        exact Gm.sub [0, 1] rfl K
      · replace K := K.2 c20
        refine g_aload_n dX1_moveCars_47 rfl 0 rfl ?_
        refine g_iload_n dX1_moveCars_48 rfl 1 rfl ?_
        obtain ⟨e23, K⟩ := K
        obtain ⟨q21, C22, K⟩ := K
        refine g_callV (M' := mX1_settle) (b := a0) (As := [.int x1]) (rest := []) (rc' := rc) (rs' := rs) dX1_moveCars_49 bw_592 bw_594 bs_18 bw_3 bw_595 ⟨by decide +kernel, by decide +kernel, show (parseMethodDescriptor mX1_settle.1.desc).map (fun d => d.parameters.length) = some 1 by decide +kernel⟩ (by decide) (by decide) (Nat.le_of_ble_eq_true rfl) fc_1 (by decide) rfl e23 C22 (Nat.le_of_eq (Nat.add_zero _)) (Nat.le_of_eq (Nat.add_zero _)) (fun _ _ h => h) ?_
        rintro _ h24 ⟨rfl, K1⟩ -
        replace K := K h24 K1
        show Gm l x mX1_moveCars 2 52 [(0, .ref a0), (1, .int x1), (2, .ref b7)] [] h24 rc rs n0 Q X
        refine g_iinc (v := (x1 + 1)) (lv' := [(0, .ref a0), (1, .int (x1 + 1)), (2, .ref b7)]) dX1_moveCars_52 1 rfl (by rfl) (by decide) rfl ?_
        refine g_goto (tgt := 2) dX1_moveCars_55 (by decide) ?_
        exact Gm.sub [0, 1] rfl K
theorem dX1_flee_0 : decode cX1_flee 0 = .ok (.aload_n 0, 1) := by decide +kernel
theorem dX1_flee_1 : decode cX1_flee 1 = .ok (.ldc2_w 176, 3) := by decide +kernel
theorem dX1_flee_4 : decode cX1_flee 4 = .ok (.invokevirtual 172, 3) := by decide +kernel
theorem dX1_flee_7 : decode cX1_flee 7 = .ok (.iconst 0, 1) := by decide +kernel
theorem dX1_flee_8 : decode cX1_flee 8 = .ok (.istore_n 1, 1) := by decide +kernel
theorem dX1_flee_9 : decode cX1_flee 9 = .ok (.iload_n 1, 1) := by decide +kernel
theorem dX1_flee_10 : decode cX1_flee 10 = .ok (.aload_n 0, 1) := by decide +kernel
theorem dX1_flee_11 : decode cX1_flee 11 = .ok (.getfield 15, 3) := by decide +kernel
theorem dX1_flee_14 : decode cX1_flee 14 = .ok (.if_icmp .ge 58, 3) := by decide +kernel
theorem dX1_flee_17 : decode cX1_flee 17 = .ok (.aload_n 0, 1) := by decide +kernel
theorem dX1_flee_18 : decode cX1_flee 18 = .ok (.getfield 54, 3) := by decide +kernel
theorem dX1_flee_21 : decode cX1_flee 21 = .ok (.iload_n 1, 1) := by decide +kernel
theorem dX1_flee_22 : decode cX1_flee 22 = .ok (.aaload, 1) := by decide +kernel
theorem dX1_flee_23 : decode cX1_flee 23 = .ok (.astore_n 2, 1) := by decide +kernel
theorem dX1_flee_24 : decode cX1_flee 24 = .ok (.aload_n 2, 1) := by decide +kernel
theorem dX1_flee_25 : decode cX1_flee 25 = .ok (.getfield 162, 3) := by decide +kernel
theorem dX1_flee_28 : decode cX1_flee 28 = .ok (.ifCond .eq 38, 3) := by decide +kernel
theorem dX1_flee_31 : decode cX1_flee 31 = .ok (.aload_n 2, 1) := by decide +kernel
theorem dX1_flee_32 : decode cX1_flee 32 = .ok (.iconst 0, 1) := by decide +kernel
theorem dX1_flee_33 : decode cX1_flee 33 = .ok (.putfield 159, 3) := by decide +kernel
theorem dX1_flee_36 : decode cX1_flee 36 = .ok (.aload_n 2, 1) := by decide +kernel
theorem dX1_flee_37 : decode cX1_flee 37 = .ok (.getfield 151, 3) := by decide +kernel
theorem dX1_flee_40 : decode cX1_flee 40 = .ok (.ifCond .le 16, 3) := by decide +kernel
theorem dX1_flee_43 : decode cX1_flee 43 = .ok (.aload_n 2, 1) := by decide +kernel
theorem dX1_flee_44 : decode cX1_flee 44 = .ok (.iconst (-1), 1) := by decide +kernel
theorem dX1_flee_45 : decode cX1_flee 45 = .ok (.putfield 186, 3) := by decide +kernel
theorem dX1_flee_48 : decode cX1_flee 48 = .ok (.aload_n 2, 1) := by decide +kernel
theorem dX1_flee_49 : decode cX1_flee 49 = .ok (.iconst 0, 1) := by decide +kernel
theorem dX1_flee_50 : decode cX1_flee 50 = .ok (.invokevirtual 209, 3) := by decide +kernel
theorem dX1_flee_53 : decode cX1_flee 53 = .ok (.goto 13, 3) := by decide +kernel
theorem dX1_flee_56 : decode cX1_flee 56 = .ok (.aload_n 2, 1) := by decide +kernel
theorem dX1_flee_57 : decode cX1_flee 57 = .ok (.iconst 0, 1) := by decide +kernel
theorem dX1_flee_58 : decode cX1_flee 58 = .ok (.putfield 186, 3) := by decide +kernel
theorem dX1_flee_61 : decode cX1_flee 61 = .ok (.aload_n 0, 1) := by decide +kernel
theorem dX1_flee_62 : decode cX1_flee 62 = .ok (.aload_n 2, 1) := by decide +kernel
theorem dX1_flee_63 : decode cX1_flee 63 = .ok (.invokevirtual 212, 3) := by decide +kernel
theorem dX1_flee_66 : decode cX1_flee 66 = .ok (.iinc 1 1, 3) := by decide +kernel
theorem dX1_flee_69 : decode cX1_flee 69 = .ok (.goto (-60), 3) := by decide +kernel
theorem dX1_flee_72 : decode cX1_flee 72 = .ok (.return_, 1) := by decide +kernel
set_option maxRecDepth 20000 in
set_option maxHeartbeats 4000000 in
theorem vX1_flee_0 {l : Launch} {x : CX} {a0 : Nat} {h : PH} {rc rs n0 : Nat} {Q : Option Value → PH → Prop} {X : String → PH → Prop}
    (K : ((hK h a0).1 = 1) ∧ ∃ (q1 : PH → Prop), CV l x mX1_takeFromAll 0 0 0 [.ref a0, .long (-1)] h q1 ∧ ∀ (h4 : PH), q1 h4 → Gm l x mX1_flee 2 9 [(0, .ref a0), (1, .int 0)] [] h4 rc rs n0 Q X) :
    Gm l x mX1_flee 2 0 [(0, .ref a0)] [] h rc rs n0 Q X := by
  refine g_aload_n dX1_flee_0 rfl 0 rfl ?_
  refine g_ldc2 (v := (-1)) dX1_flee_1 bw_499 ?_
  obtain ⟨e3, K⟩ := K
  obtain ⟨q1, C2, K⟩ := K
  refine g_callV (M' := mX1_takeFromAll) (b := a0) (As := [.long (-1)]) (rest := []) (rc' := rc) (rs' := rs) dX1_flee_4 bw_500 bw_502 bs_6 bw_3 bw_503 ⟨by decide +kernel, by decide +kernel, show (parseMethodDescriptor mX1_takeFromAll.1.desc).map (fun d => d.parameters.length) = some 1 by decide +kernel⟩ (by decide) (by decide) (Nat.le_of_ble_eq_true rfl) fc_1 (by decide) rfl e3 C2 (Nat.le_of_eq (Nat.add_zero _)) (Nat.le_of_eq (Nat.add_zero _)) (fun _ _ h => h) ?_
  rintro _ h4 ⟨rfl, K1⟩ -
  replace K := K h4 K1
  show Gm l x mX1_flee 2 7 [(0, .ref a0)] [] h4 rc rs n0 Q X
  refine g_iconst (v := 0) dX1_flee_7 (by decide) ?_
  refine g_istore_n (lv' := [(0, .ref a0), (1, .int 0)]) dX1_flee_8 rfl (by decide) rfl ?_
  exact K
set_option maxRecDepth 20000 in
set_option maxHeartbeats 4000000 in
theorem vX1_flee_9 {l : Launch} {x : CX} {a0 : Nat} {x1 : Int32} {h : PH} {rc rs n0 : Nat} {Q : Option Value → PH → Prop} {X : String → PH → Prop}
    (K : ((hK h a0).1 = 1) ∧ (((hI h a0 1) ≤ x1 → Q none h) ∧ (¬ (hI h a0 1) ≤ x1 → ∃ b3, (hR h a0 13 = some b3) ∧ ((hK h b3).1 = 105) ∧ (vp_in x1 (hK h b3).2) ∧ ∃ b7, (hR h b3 x1.toNatClampNeg = some b7) ∧ ((hK h b7).1 = 2) ∧ (((hI h b7 6) = 0 → Gm l x mX1_flee 2 9 [(0, .ref a0), (1, .int (x1 + 1))] [] h rc rs n0 Q X) ∧ (¬ (hI h b7 6) = 0 → (((hI h b7 3) ≤ 0 → ∃ (q12 : PH → Prop), CV l x mX1_putOut 1 0 0 [.ref a0, .ref b7] (sI (sI h b7 5 0) b7 4 0) q12 ∧ ∀ (h14 : PH), q12 h14 → Gm l x mX1_flee 2 9 [(0, .ref a0), (1, .int (x1 + 1))] [] h14 rc rs n0 Q X) ∧ (¬ (hI h b7 3) ≤ 0 → ∃ (q15 : PH → Prop), CV l x mX2_go 0 0 0 [.ref b7, .int 0] (sI (sI h b7 5 0) b7 4 (-1)) q15 ∧ ∀ (h17 : PH), q15 h17 → Gm l x mX1_flee 2 9 [(0, .ref a0), (1, .int (x1 + 1))] [] h17 rc rs n0 Q X))))))) :
    Gm l x mX1_flee 2 9 [(0, .ref a0), (1, .int x1)] [] h rc rs n0 Q X := by
  refine g_iload_n dX1_flee_9 rfl 1 rfl ?_
  refine g_aload_n dX1_flee_10 rfl 0 rfl ?_
  obtain ⟨e1, K⟩ := K
  refine g_get (c := 1) (k := 1) (v := .int (hI h a0 1)) dX1_flee_11 fc_1 (by decide) (by decide) bw_188 rfl e1 ?_
  refine g_icmp_ge (tgt := 72) dX1_flee_14 (by decide) (fun c2 => ?_) (fun c2 => ?_)
  · replace K := K.1 c2
    exact g_vret dX1_flee_72 rfl K
  · replace K := K.2 c2
    refine g_aload_n dX1_flee_17 rfl 0 rfl ?_
    obtain ⟨b3, e4, K⟩ := K
    refine g_get (c := 1) (k := 13) (v := .ref b3) dX1_flee_18 fc_1 (by decide) (by decide) bw_223 (congrArg pr e4) e1 ?_
    refine g_iload_n dX1_flee_21 rfl 1 rfl ?_
    obtain ⟨e5, e6, b7, e8, K⟩ := K
    refine g_aald (t := 5) (v := .ref b7) dX1_flee_22 (Or.inl rfl) e5 e6 (congrArg pr e8) ?_
    refine g_astore_n (lv' := [(0, .ref a0), (1, .int x1), (2, .ref b7)]) dX1_flee_23 rfl (by decide) rfl ?_
    refine g_aload_n dX1_flee_24 rfl 2 rfl ?_
    obtain ⟨e9, K⟩ := K
    refine g_get (c := 2) (k := 6) (v := .int (hI h b7 6)) dX1_flee_25 fc_2 (by decide) (by decide) bw_75 rfl e9 ?_
    refine g_if_eq (tgt := 66) dX1_flee_28 (by decide) (fun c10 => ?_) (fun c10 => ?_)
    · replace K := K.1 c10
      refine g_iinc (v := (x1 + 1)) (lv' := [(0, .ref a0), (1, .int (x1 + 1)), (2, .ref b7)]) dX1_flee_66 1 rfl (by rfl) (by decide) rfl ?_
      refine g_goto (tgt := 9) dX1_flee_69 (by decide) ?_
      exact Gm.sub [0, 1] rfl K
    · replace K := K.2 c10
      refine g_aload_n dX1_flee_31 rfl 2 rfl ?_
      refine g_iconst (v := 0) dX1_flee_32 (by decide) ?_
      refine g_puti (c := 2) (k := 5) dX1_flee_33 fc_2 (by decide) (by decide) bw_71 (Or.inl rfl) rfl e9 ?_
      refine g_aload_n dX1_flee_36 rfl 2 rfl ?_
      refine g_get (c := 2) (k := 3) (v := .int (hI h b7 3)) dX1_flee_37 fc_2 (by decide) (by decide) bw_65 (congrArg Value.int ((skI (by decide)).trans rfl)) (kkI e9) ?_
      refine g_if_le (tgt := 56) dX1_flee_40 (by decide) (fun c11 => ?_) (fun c11 => ?_)
      · replace K := K.1 c11
        refine g_aload_n dX1_flee_56 rfl 2 rfl ?_
        refine g_iconst (v := 0) dX1_flee_57 (by decide) ?_
        refine g_puti (c := 2) (k := 4) dX1_flee_58 fc_2 (by decide) (by decide) bw_68 (Or.inl rfl) rfl (kkI e9) ?_
        refine g_aload_n dX1_flee_61 rfl 0 rfl ?_
        refine g_aload_n dX1_flee_62 rfl 2 rfl ?_
        obtain ⟨q12, C13, K⟩ := K
        refine g_callV (M' := mX1_putOut) (b := a0) (As := [.ref b7]) (rest := []) (rc' := rc) (rs' := rs) dX1_flee_63 bw_514 bw_516 bs_7 bw_3 bw_517 ⟨by decide +kernel, by decide +kernel, show (parseMethodDescriptor mX1_putOut.1.desc).map (fun d => d.parameters.length) = some 1 by decide +kernel⟩ (by decide) (by decide) (Nat.le_of_ble_eq_true rfl) fc_1 (by decide) rfl (kkI (kkI e1)) C13 (Nat.le_of_eq (Nat.add_zero _)) (Nat.le_of_eq (Nat.add_zero _)) (fun _ _ h => h) ?_
        rintro _ h14 ⟨rfl, K1⟩ -
        replace K := K h14 K1
        show Gm l x mX1_flee 2 66 [(0, .ref a0), (1, .int x1), (2, .ref b7)] [] h14 rc rs n0 Q X
        refine g_iinc (v := (x1 + 1)) (lv' := [(0, .ref a0), (1, .int (x1 + 1)), (2, .ref b7)]) dX1_flee_66 1 rfl (by rfl) (by decide) rfl ?_
        refine g_goto (tgt := 9) dX1_flee_69 (by decide) ?_
        exact Gm.sub [0, 1] rfl K
      · replace K := K.2 c11
        refine g_aload_n dX1_flee_43 rfl 2 rfl ?_
        refine g_iconst (v := (-1)) dX1_flee_44 (by decide) ?_
        refine g_puti (c := 2) (k := 4) dX1_flee_45 fc_2 (by decide) (by decide) bw_68 (Or.inl rfl) rfl (kkI e9) ?_
        refine g_aload_n dX1_flee_48 rfl 2 rfl ?_
        refine g_iconst (v := 0) dX1_flee_49 (by decide) ?_
        obtain ⟨q15, C16, K⟩ := K
        refine g_callV (M' := mX2_go) (b := b7) (As := [.int 0]) (rest := []) (rc' := rc) (rs' := rs) dX1_flee_50 bw_504 bw_505 bw_506 bw_4 bw_507 ⟨by decide +kernel, by decide +kernel, show (parseMethodDescriptor mX2_go.1.desc).map (fun d => d.parameters.length) = some 1 by decide +kernel⟩ (by decide) (by decide) (Nat.le_of_ble_eq_true rfl) fc_2 (by decide) rfl (kkI (kkI e9)) C16 (Nat.le_of_eq (Nat.add_zero _)) (Nat.le_of_eq (Nat.add_zero _)) (fun _ _ h => h) ?_
        rintro _ h17 ⟨rfl, K1⟩ -
        replace K := K h17 K1
        show Gm l x mX1_flee 2 53 [(0, .ref a0), (1, .int x1), (2, .ref b7)] [] h17 rc rs n0 Q X
        refine g_goto (tgt := 66) dX1_flee_53 (by decide) ?_
        refine g_iinc (v := (x1 + 1)) (lv' := [(0, .ref a0), (1, .int (x1 + 1)), (2, .ref b7)]) dX1_flee_66 1 rfl (by rfl) (by decide) rfl ?_
        refine g_goto (tgt := 9) dX1_flee_69 (by decide) ?_
        exact Gm.sub [0, 1] rfl K
theorem dX1_putOutOfService_0 : decode cX1_putOutOfService 0 = .ok (.aload_n 0, 1) := by decide +kernel
theorem dX1_putOutOfService_1 : decode cX1_putOutOfService 1 = .ok (.getfield 54, 3) := by decide +kernel
theorem dX1_putOutOfService_4 : decode cX1_putOutOfService 4 = .ok (.iload_n 1, 1) := by decide +kernel
theorem dX1_putOutOfService_5 : decode cX1_putOutOfService 5 = .ok (.aaload, 1) := by decide +kernel
theorem dX1_putOutOfService_6 : decode cX1_putOutOfService 6 = .ok (.astore_n 2, 1) := by decide +kernel
theorem dX1_putOutOfService_7 : decode cX1_putOutOfService 7 = .ok (.aload_n 0, 1) := by decide +kernel
theorem dX1_putOutOfService_8 : decode cX1_putOutOfService 8 = .ok (.aload_n 2, 1) := by decide +kernel
theorem dX1_putOutOfService_9 : decode cX1_putOutOfService 9 = .ok (.invokevirtual 212, 3) := by decide +kernel
theorem dX1_putOutOfService_12 : decode cX1_putOutOfService 12 = .ok (.aload_n 2, 1) := by decide +kernel
theorem dX1_putOutOfService_13 : decode cX1_putOutOfService 13 = .ok (.iconst 0, 1) := by decide +kernel
theorem dX1_putOutOfService_14 : decode cX1_putOutOfService 14 = .ok (.putfield 159, 3) := by decide +kernel
theorem dX1_putOutOfService_17 : decode cX1_putOutOfService 17 = .ok (.aload_n 2, 1) := by decide +kernel
theorem dX1_putOutOfService_18 : decode cX1_putOutOfService 18 = .ok (.iconst 0, 1) := by decide +kernel
theorem dX1_putOutOfService_19 : decode cX1_putOutOfService 19 = .ok (.putfield 186, 3) := by decide +kernel
theorem dX1_putOutOfService_22 : decode cX1_putOutOfService 22 = .ok (.aload_n 2, 1) := by decide +kernel
theorem dX1_putOutOfService_23 : decode cX1_putOutOfService 23 = .ok (.lconst 0, 1) := by decide +kernel
theorem dX1_putOutOfService_24 : decode cX1_putOutOfService 24 = .ok (.putfield 144, 3) := by decide +kernel
theorem dX1_putOutOfService_27 : decode cX1_putOutOfService 27 = .ok (.aload_n 2, 1) := by decide +kernel
theorem dX1_putOutOfService_28 : decode cX1_putOutOfService 28 = .ok (.iconst 0, 1) := by decide +kernel
theorem dX1_putOutOfService_29 : decode cX1_putOutOfService 29 = .ok (.putfield 162, 3) := by decide +kernel
theorem dX1_putOutOfService_32 : decode cX1_putOutOfService 32 = .ok (.return_, 1) := by decide +kernel
set_option maxRecDepth 20000 in
set_option maxHeartbeats 4000000 in
theorem vX1_putOutOfService_0 {l : Launch} {x : CX} {a0 : Nat} {x1 : Int32} {h : PH} {rc rs n0 : Nat} {Q : Option Value → PH → Prop} {X : String → PH → Prop}
    (K : ((hK h a0).1 = 1) ∧ ∃ b2, (hR h a0 13 = some b2) ∧ ((hK h b2).1 = 105) ∧ (vp_in x1 (hK h b2).2) ∧ ∃ b6, (hR h b2 x1.toNatClampNeg = some b6) ∧ ∃ (q8 : PH → Prop), CV l x mX1_putOut 1 0 0 [.ref a0, .ref b6] h q8 ∧ ∀ (h10 : PH), q8 h10 → ((hK h10 b6).1 = 2) ∧ Q none (sI (sL (sI (sI h10 b6 5 0) b6 4 0) b6 12 0) b6 6 0)) :
    Gm l x mX1_putOutOfService 2 0 [(0, .ref a0), (1, .int x1)] [] h rc rs n0 Q X := by
  refine g_aload_n dX1_putOutOfService_0 rfl 0 rfl ?_
  obtain ⟨e1, b2, e3, K⟩ := K
  refine g_get (c := 1) (k := 13) (v := .ref b2) dX1_putOutOfService_1 fc_1 (by decide) (by decide) bw_223 (congrArg pr e3) e1 ?_
  refine g_iload_n dX1_putOutOfService_4 rfl 1 rfl ?_
  obtain ⟨e4, e5, b6, e7, K⟩ := K
  refine g_aald (t := 5) (v := .ref b6) dX1_putOutOfService_5 (Or.inl rfl) e4 e5 (congrArg pr e7) ?_
  refine g_astore_n (lv' := [(0, .ref a0), (1, .int x1), (2, .ref b6)]) dX1_putOutOfService_6 rfl (by decide) rfl ?_
  refine g_aload_n dX1_putOutOfService_7 rfl 0 rfl ?_
  refine g_aload_n dX1_putOutOfService_8 rfl 2 rfl ?_
  obtain ⟨q8, C9, K⟩ := K
  refine g_callV (M' := mX1_putOut) (b := a0) (As := [.ref b6]) (rest := []) (rc' := rc) (rs' := rs) dX1_putOutOfService_9 bw_514 bw_516 bs_7 bw_3 bw_517 ⟨by decide +kernel, by decide +kernel, show (parseMethodDescriptor mX1_putOut.1.desc).map (fun d => d.parameters.length) = some 1 by decide +kernel⟩ (by decide) (by decide) (Nat.le_of_ble_eq_true rfl) fc_1 (by decide) rfl e1 C9 (Nat.le_of_eq (Nat.add_zero _)) (Nat.le_of_eq (Nat.add_zero _)) (fun _ _ h => h) ?_
  rintro _ h10 ⟨rfl, K1⟩ -
  replace K := K h10 K1
  show Gm l x mX1_putOutOfService 2 12 [(0, .ref a0), (1, .int x1), (2, .ref b6)] [] h10 rc rs n0 Q X
  refine g_aload_n dX1_putOutOfService_12 rfl 2 rfl ?_
  refine g_iconst (v := 0) dX1_putOutOfService_13 (by decide) ?_
  obtain ⟨e11, K⟩ := K
  refine g_puti (c := 2) (k := 5) dX1_putOutOfService_14 fc_2 (by decide) (by decide) bw_71 (Or.inl rfl) rfl e11 ?_
  refine g_aload_n dX1_putOutOfService_17 rfl 2 rfl ?_
  refine g_iconst (v := 0) dX1_putOutOfService_18 (by decide) ?_
  refine g_puti (c := 2) (k := 4) dX1_putOutOfService_19 fc_2 (by decide) (by decide) bw_68 (Or.inl rfl) rfl (kkI e11) ?_
  refine g_aload_n dX1_putOutOfService_22 rfl 2 rfl ?_
  refine g_lconst (v := 0) dX1_putOutOfService_23 (by decide) ?_
  refine g_putl (c := 2) (k := 12) dX1_putOutOfService_24 fc_2 (by decide) (by decide) bw_87 (Or.inl rfl) rfl (kkI (kkI e11)) ?_
  refine g_aload_n dX1_putOutOfService_27 rfl 2 rfl ?_
  refine g_iconst (v := 0) dX1_putOutOfService_28 (by decide) ?_
  refine g_putz (c := 2) (k := 6) dX1_putOutOfService_29 fc_2 (by decide) (by decide) bw_75 (Or.inl rfl) rfl (by decide) (kkL (kkI (kkI e11))) ?_
  exact g_vret dX1_putOutOfService_32 rfl K
theorem dX1_isAsleep_0 : decode cX1_isAsleep 0 = .ok (.aload_n 0, 1) := by decide +kernel
theorem dX1_isAsleep_1 : decode cX1_isAsleep 1 = .ok (.invokevirtual 238, 3) := by decide +kernel
theorem dX1_isAsleep_4 : decode cX1_isAsleep 4 = .ok (.istore_n 1, 1) := by decide +kernel
theorem dX1_isAsleep_5 : decode cX1_isAsleep 5 = .ok (.iconst 0, 1) := by decide +kernel
theorem dX1_isAsleep_6 : decode cX1_isAsleep 6 = .ok (.istore_n 2, 1) := by decide +kernel
theorem dX1_isAsleep_7 : decode cX1_isAsleep 7 = .ok (.iload_n 2, 1) := by decide +kernel
theorem dX1_isAsleep_8 : decode cX1_isAsleep 8 = .ok (.aload_n 0, 1) := by decide +kernel
theorem dX1_isAsleep_9 : decode cX1_isAsleep 9 = .ok (.getfield 15, 3) := by decide +kernel
theorem dX1_isAsleep_12 : decode cX1_isAsleep 12 = .ok (.if_icmp .ge 31, 3) := by decide +kernel
theorem dX1_isAsleep_15 : decode cX1_isAsleep 15 = .ok (.iload_n 1, 1) := by decide +kernel
theorem dX1_isAsleep_16 : decode cX1_isAsleep 16 = .ok (.ifCond .eq 19, 3) := by decide +kernel
theorem dX1_isAsleep_19 : decode cX1_isAsleep 19 = .ok (.aload_n 0, 1) := by decide +kernel
theorem dX1_isAsleep_20 : decode cX1_isAsleep 20 = .ok (.getfield 54, 3) := by decide +kernel
theorem dX1_isAsleep_23 : decode cX1_isAsleep 23 = .ok (.iload_n 2, 1) := by decide +kernel
theorem dX1_isAsleep_24 : decode cX1_isAsleep 24 = .ok (.aaload, 1) := by decide +kernel
theorem dX1_isAsleep_25 : decode cX1_isAsleep 25 = .ok (.getfield 186, 3) := by decide +kernel
theorem dX1_isAsleep_28 : decode cX1_isAsleep 28 = .ok (.ifCond .ne 7, 3) := by decide +kernel
theorem dX1_isAsleep_31 : decode cX1_isAsleep 31 = .ok (.iconst 1, 1) := by decide +kernel
theorem dX1_isAsleep_32 : decode cX1_isAsleep 32 = .ok (.goto 4, 3) := by decide +kernel
theorem dX1_isAsleep_35 : decode cX1_isAsleep 35 = .ok (.iconst 0, 1) := by decide +kernel
theorem dX1_isAsleep_36 : decode cX1_isAsleep 36 = .ok (.istore_n 1, 1) := by decide +kernel
theorem dX1_isAsleep_37 : decode cX1_isAsleep 37 = .ok (.iinc 2 1, 3) := by decide +kernel
theorem dX1_isAsleep_40 : decode cX1_isAsleep 40 = .ok (.goto (-33), 3) := by decide +kernel
theorem dX1_isAsleep_43 : decode cX1_isAsleep 43 = .ok (.iload_n 1, 1) := by decide +kernel
theorem dX1_isAsleep_44 : decode cX1_isAsleep 44 = .ok (.ireturn, 1) := by decide +kernel
set_option maxRecDepth 20000 in
set_option maxHeartbeats 4000000 in
theorem vX1_isAsleep_0 {l : Launch} {x : CX} {a0 : Nat} {h : PH} {rc rs n0 : Nat} {Q : Option Value → PH → Prop} {X : String → PH → Prop}
    (K : ((hK h a0).1 = 1) ∧ ∃ (q1 : Int32 → PH → Prop), CI l x mX1_isQuiet 1 0 0 [.ref a0] h q1 ∧ ∀ (r5 : Int32) (h4 : PH), q1 r5 h4 → Gm l x mX1_isAsleep 2 7 [(0, .ref a0), (1, .int r5), (2, .int 0)] [] h4 rc rs n0 Q X) :
    Gm l x mX1_isAsleep 2 0 [(0, .ref a0)] [] h rc rs n0 Q X := by
  refine g_aload_n dX1_isAsleep_0 rfl 0 rfl ?_
  obtain ⟨e3, K⟩ := K
  obtain ⟨q1, C2, K⟩ := K
  refine g_callV (M' := mX1_isQuiet) (b := a0) (As := []) (rest := []) (rc' := rc) (rs' := rs) dX1_isAsleep_1 bw_473 bw_474 bw_475 bw_3 bw_476 ⟨by decide +kernel, by decide +kernel, show (parseMethodDescriptor mX1_isQuiet.1.desc).map (fun d => d.parameters.length) = some 0 by decide +kernel⟩ (by decide) (by decide) (Nat.le_of_ble_eq_true rfl) fc_1 (by decide) rfl e3 C2 (Nat.le_of_eq (Nat.add_zero _)) (Nat.le_of_eq (Nat.add_zero _)) (fun _ _ h => h) ?_
  rintro _ h4 ⟨r5, rfl, K1⟩ -
  replace K := K r5 h4 K1
  show Gm l x mX1_isAsleep 2 4 [(0, .ref a0)] [.int r5] h4 rc rs n0 Q X
  refine g_istore_n (lv' := [(0, .ref a0), (1, .int r5)]) dX1_isAsleep_4 rfl (by decide) rfl ?_
  refine g_iconst (v := 0) dX1_isAsleep_5 (by decide) ?_
  refine g_istore_n (lv' := [(0, .ref a0), (1, .int r5), (2, .int 0)]) dX1_isAsleep_6 rfl (by decide) rfl ?_
  exact K
set_option maxRecDepth 20000 in
set_option maxHeartbeats 4000000 in
theorem vX1_isAsleep_7 {l : Launch} {x : CX} {a0 : Nat} {x1 : Int32} {x2 : Int32} {h : PH} {rc rs n0 : Nat} {Q : Option Value → PH → Prop} {X : String → PH → Prop}
    (K : ((hK h a0).1 = 1) ∧ (((hI h a0 1) ≤ x2 → ((x1 : Int32) = 0 ∨ (x1 : Int32) = 1) ∧ Q (some (.int x1)) h) ∧ (¬ (hI h a0 1) ≤ x2 → ((x1 = 0 → Gm l x mX1_isAsleep 2 7 [(0, .ref a0), (1, .int 0), (2, .int (x2 + 1))] [] h rc rs n0 Q X) ∧ (¬ x1 = 0 → ∃ b4, (hR h a0 13 = some b4) ∧ ((hK h b4).1 = 105) ∧ (vp_in x2 (hK h b4).2) ∧ ∃ b8, (hR h b4 x2.toNatClampNeg = some b8) ∧ ((hK h b8).1 = 2) ∧ Gm l x mX1_isAsleep 2 7 [(0, .ref a0), (1, .int (if (hI h b8 4) = 0 then 1 else 0 : Int32)), (2, .int (x2 + 1))] [] h rc rs n0 Q X))))) :
    Gm l x mX1_isAsleep 2 7 [(0, .ref a0), (1, .int x1), (2, .int x2)] [] h rc rs n0 Q X := by
  refine g_iload_n dX1_isAsleep_7 rfl 2 rfl ?_
  refine g_aload_n dX1_isAsleep_8 rfl 0 rfl ?_
  obtain ⟨e1, K⟩ := K
  refine g_get (c := 1) (k := 1) (v := .int (hI h a0 1)) dX1_isAsleep_9 fc_1 (by decide) (by decide) bw_188 rfl e1 ?_
  refine g_icmp_ge (tgt := 43) dX1_isAsleep_12 (by decide) (fun c2 => ?_) (fun c2 => ?_)
  · replace K := K.1 c2
    refine g_iload_n dX1_isAsleep_43 rfl 1 rfl ?_
    exact g_zret dX1_isAsleep_44 rfl K.1 K.2
  · replace K := K.2 c2
    refine g_iload_n dX1_isAsleep_15 rfl 1 rfl ?_
    refine g_if_eq (tgt := 35) dX1_isAsleep_16 (by decide) (fun c3 => ?_) (fun c3 => ?_)
    · replace K := K.1 c3
      refine g_iconst (v := 0) dX1_isAsleep_35 (by decide) ?_
      refine g_istore_n (lv' := [(0, .ref a0), (1, .int 0), (2, .int x2)]) dX1_isAsleep_36 rfl (by decide) rfl ?_
      refine g_iinc (v := (x2 + 1)) (lv' := [(0, .ref a0), (1, .int 0), (2, .int (x2 + 1))]) dX1_isAsleep_37 2 rfl (by rfl) (by decide) rfl ?_
      refine g_goto (tgt := 7) dX1_isAsleep_40 (by decide) ?_
      exact K
    · replace K := K.2 c3
      refine g_aload_n dX1_isAsleep_19 rfl 0 rfl ?_
      obtain ⟨b4, e5, K⟩ := K
      refine g_get (c := 1) (k := 13) (v := .ref b4) dX1_isAsleep_20 fc_1 (by decide) (by decide) bw_223 (congrArg pr e5) e1 ?_
      refine g_iload_n dX1_isAsleep_23 rfl 2 rfl ?_
      obtain ⟨e6, e7, b8, e9, K⟩ := K
      refine g_aald (t := 5) (v := .ref b8) dX1_isAsleep_24 (Or.inl rfl) e6 e7 (congrArg pr e9) ?_
      obtain ⟨e10, K⟩ := K
      refine g_get (c := 2) (k := 4) (v := .int (hI h b8 4)) dX1_isAsleep_25 fc_2 (by decide) (by decide) bw_68 rfl e10 ?_
      have KJ : Gm l x mX1_isAsleep 2 36 [(0, .ref a0), (1, .int x1), (2, .int x2)] [.int (if (hI h b8 4) = 0 then 1 else 0 : Int32)] h rc rs n0 Q X := by
        refine g_istore_n (lv' := [(0, .ref a0), (1, .int (if (hI h b8 4) = 0 then 1 else 0 : Int32)), (2, .int x2)]) dX1_isAsleep_36 rfl (by decide) rfl ?_
        refine g_iinc (v := (x2 + 1)) (lv' := [(0, .ref a0), (1, .int (if (hI h b8 4) = 0 then 1 else 0 : Int32)), (2, .int (x2 + 1))]) dX1_isAsleep_37 2 rfl (by rfl) (by decide) rfl ?_
        refine g_goto (tgt := 7) dX1_isAsleep_40 (by decide) ?_
        exact K
      refine g_if_ne (tgt := 35) dX1_isAsleep_28 (by decide) (fun c11 => ?_) (fun c11 => ?_)
      · refine g_iconst (v := 0) dX1_isAsleep_35 (by decide) ?_
        first | (simp only [if_neg c11] at KJ; exact KJ) | (simp only [if_neg c11, ite_true, ite_false, eq_self] at KJ; exact KJ) | (simp only [if_neg c11] at KJ ⊢; exact KJ) | exact KJ
      · refine g_iconst (v := 1) dX1_isAsleep_31 (by decide) ?_
        refine g_goto (tgt := 36) dX1_isAsleep_32 (by decide) ?_
        first | (simp only [if_pos c11] at KJ; exact KJ) | (simp only [if_pos c11, ite_true, ite_false, eq_self] at KJ; exact KJ) | (simp only [if_pos c11] at KJ ⊢; exact KJ) | exact KJ
theorem dX1_give_0 : decode cX1_give 0 = .ok (.iload_n 1, 1) := by decide +kernel
theorem dX1_give_1 : decode cX1_give 1 = .ok (.iconst 1, 1) := by decide +kernel
theorem dX1_give_2 : decode cX1_give 2 = .ok (.iand, 1) := by decide +kernel
theorem dX1_give_3 : decode cX1_give 3 = .ok (.ifCond .ne 7, 3) := by decide +kernel
theorem dX1_give_6 : decode cX1_give 6 = .ok (.iconst 1, 1) := by decide +kernel
theorem dX1_give_7 : decode cX1_give 7 = .ok (.goto 4, 3) := by decide +kernel
theorem dX1_give_10 : decode cX1_give 10 = .ok (.iconst 2, 1) := by decide +kernel
theorem dX1_give_11 : decode cX1_give 11 = .ok (.istore_n 2, 1) := by decide +kernel
theorem dX1_give_12 : decode cX1_give 12 = .ok (.iconst (-1), 1) := by decide +kernel
theorem dX1_give_13 : decode cX1_give 13 = .ok (.istore_n 3, 1) := by decide +kernel
theorem dX1_give_14 : decode cX1_give 14 = .ok (.iconst 0, 1) := by decide +kernel
theorem dX1_give_15 : decode cX1_give 15 = .ok (.istore 4, 2) := by decide +kernel
theorem dX1_give_17 : decode cX1_give 17 = .ok (.iconst 0, 1) := by decide +kernel
theorem dX1_give_18 : decode cX1_give 18 = .ok (.istore 5, 2) := by decide +kernel
theorem dX1_give_20 : decode cX1_give 20 = .ok (.iload 5, 2) := by decide +kernel
theorem dX1_give_22 : decode cX1_give 22 = .ok (.aload_n 0, 1) := by decide +kernel
theorem dX1_give_23 : decode cX1_give 23 = .ok (.getfield 15, 3) := by decide +kernel
theorem dX1_give_26 : decode cX1_give 26 = .ok (.if_icmp .ge 130, 3) := by decide +kernel
theorem dX1_give_29 : decode cX1_give 29 = .ok (.aload_n 0, 1) := by decide +kernel
theorem dX1_give_30 : decode cX1_give 30 = .ok (.getfield 27, 3) := by decide +kernel
theorem dX1_give_33 : decode cX1_give 33 = .ok (.ifCond .ne 20, 3) := by decide +kernel
theorem dX1_give_36 : decode cX1_give 36 = .ok (.aload_n 0, 1) := by decide +kernel
theorem dX1_give_37 : decode cX1_give 37 = .ok (.getfield 40, 3) := by decide +kernel
theorem dX1_give_40 : decode cX1_give 40 = .ok (.iconst 1, 1) := by decide +kernel
theorem dX1_give_41 : decode cX1_give 41 = .ok (.iadd, 1) := by decide +kernel
theorem dX1_give_42 : decode cX1_give 42 = .ok (.iload 5, 2) := by decide +kernel
theorem dX1_give_44 : decode cX1_give 44 = .ok (.iadd, 1) := by decide +kernel
theorem dX1_give_45 : decode cX1_give 45 = .ok (.aload_n 0, 1) := by decide +kernel
theorem dX1_give_46 : decode cX1_give 46 = .ok (.getfield 15, 3) := by decide +kernel
theorem dX1_give_49 : decode cX1_give 49 = .ok (.irem, 1) := by decide +kernel
theorem dX1_give_50 : decode cX1_give 50 = .ok (.goto 5, 3) := by decide +kernel
theorem dX1_give_53 : decode cX1_give 53 = .ok (.iload 5, 2) := by decide +kernel
theorem dX1_give_55 : decode cX1_give 55 = .ok (.istore 6, 2) := by decide +kernel
theorem dX1_give_57 : decode cX1_give 57 = .ok (.aload_n 0, 1) := by decide +kernel
theorem dX1_give_58 : decode cX1_give 58 = .ok (.getfield 54, 3) := by decide +kernel
theorem dX1_give_61 : decode cX1_give 61 = .ok (.iload 6, 2) := by decide +kernel
theorem dX1_give_63 : decode cX1_give 63 = .ok (.aaload, 1) := by decide +kernel
theorem dX1_give_64 : decode cX1_give 64 = .ok (.astore 7, 2) := by decide +kernel
theorem dX1_give_66 : decode cX1_give 66 = .ok (.aload 7, 2) := by decide +kernel
theorem dX1_give_68 : decode cX1_give 68 = .ok (.getfield 162, 3) := by decide +kernel
theorem dX1_give_71 : decode cX1_give 71 = .ok (.ifCond .eq 79, 3) := by decide +kernel
theorem dX1_give_74 : decode cX1_give 74 = .ok (.aload 7, 2) := by decide +kernel
theorem dX1_give_76 : decode cX1_give 76 = .ok (.iload_n 2, 1) := by decide +kernel
theorem dX1_give_77 : decode cX1_give 77 = .ok (.invokevirtual 165, 3) := by decide +kernel
theorem dX1_give_80 : decode cX1_give 80 = .ok (.ifCond .ne 6, 3) := by decide +kernel
theorem dX1_give_83 : decode cX1_give 83 = .ok (.goto 67, 3) := by decide +kernel
theorem dX1_give_86 : decode cX1_give 86 = .ok (.iconst 0, 1) := by decide +kernel
theorem dX1_give_87 : decode cX1_give 87 = .ok (.istore 8, 2) := by decide +kernel
theorem dX1_give_89 : decode cX1_give 89 = .ok (.aload_n 0, 1) := by decide +kernel
theorem dX1_give_90 : decode cX1_give 90 = .ok (.getfield 27, 3) := by decide +kernel
theorem dX1_give_93 : decode cX1_give 93 = .ok (.iconst 1, 1) := by decide +kernel
theorem dX1_give_94 : decode cX1_give 94 = .ok (.if_icmp .ne 20, 3) := by decide +kernel
theorem dX1_give_97 : decode cX1_give 97 = .ok (.aload 7, 2) := by decide +kernel
theorem dX1_give_99 : decode cX1_give 99 = .ok (.getfield 151, 3) := by decide +kernel
theorem dX1_give_102 : decode cX1_give 102 = .ok (.iload_n 1, 1) := by decide +kernel
theorem dX1_give_103 : decode cX1_give 103 = .ok (.iconst 4, 1) := by decide +kernel
theorem dX1_give_104 : decode cX1_give 104 = .ok (.idiv, 1) := by decide +kernel
theorem dX1_give_105 : decode cX1_give 105 = .ok (.isub, 1) := by decide +kernel
theorem dX1_give_106 : decode cX1_give 106 = .ok (.invokestatic 154, 3) := by decide +kernel
theorem dX1_give_109 : decode cX1_give 109 = .ok (.istore 8, 2) := by decide +kernel
theorem dX1_give_111 : decode cX1_give 111 = .ok (.goto 20, 3) := by decide +kernel
theorem dX1_give_114 : decode cX1_give 114 = .ok (.aload_n 0, 1) := by decide +kernel
theorem dX1_give_115 : decode cX1_give 115 = .ok (.getfield 27, 3) := by decide +kernel
theorem dX1_give_118 : decode cX1_give 118 = .ok (.iconst 2, 1) := by decide +kernel
theorem dX1_give_119 : decode cX1_give 119 = .ok (.if_icmp .ne 12, 3) := by decide +kernel
theorem dX1_give_122 : decode cX1_give 122 = .ok (.aload_n 0, 1) := by decide +kernel
theorem dX1_give_123 : decode cX1_give 123 = .ok (.aload 7, 2) := by decide +kernel
theorem dX1_give_125 : decode cX1_give 125 = .ok (.iload_n 1, 1) := by decide +kernel
theorem dX1_give_126 : decode cX1_give 126 = .ok (.invokevirtual 168, 3) := by decide +kernel
theorem dX1_give_129 : decode cX1_give 129 = .ok (.istore 8, 2) := by decide +kernel
theorem dX1_give_131 : decode cX1_give 131 = .ok (.iload_n 3, 1) := by decide +kernel
theorem dX1_give_132 : decode cX1_give 132 = .ok (.iconst (-1), 1) := by decide +kernel
theorem dX1_give_133 : decode cX1_give 133 = .ok (.if_icmp .eq 10, 3) := by decide +kernel
theorem dX1_give_136 : decode cX1_give 136 = .ok (.iload 8, 2) := by decide +kernel
theorem dX1_give_138 : decode cX1_give 138 = .ok (.iload 4, 2) := by decide +kernel
theorem dX1_give_140 : decode cX1_give 140 = .ok (.if_icmp .ge 10, 3) := by decide +kernel
theorem dX1_give_143 : decode cX1_give 143 = .ok (.iload 6, 2) := by decide +kernel
theorem dX1_give_145 : decode cX1_give 145 = .ok (.istore_n 3, 1) := by decide +kernel
theorem dX1_give_146 : decode cX1_give 146 = .ok (.iload 8, 2) := by decide +kernel
theorem dX1_give_148 : decode cX1_give 148 = .ok (.istore 4, 2) := by decide +kernel
theorem dX1_give_150 : decode cX1_give 150 = .ok (.iinc 5 1, 3) := by decide +kernel
theorem dX1_give_153 : decode cX1_give 153 = .ok (.goto (-133), 3) := by decide +kernel
theorem dX1_give_156 : decode cX1_give 156 = .ok (.aload_n 0, 1) := by decide +kernel
theorem dX1_give_157 : decode cX1_give 157 = .ok (.lconst 1, 1) := by decide +kernel
theorem dX1_give_158 : decode cX1_give 158 = .ok (.iload_n 1, 1) := by decide +kernel
theorem dX1_give_159 : decode cX1_give 159 = .ok (.lshl, 1) := by decide +kernel
theorem dX1_give_160 : decode cX1_give 160 = .ok (.invokevirtual 172, 3) := by decide +kernel
theorem dX1_give_163 : decode cX1_give 163 = .ok (.iload_n 3, 1) := by decide +kernel
theorem dX1_give_164 : decode cX1_give 164 = .ok (.iconst (-1), 1) := by decide +kernel
theorem dX1_give_165 : decode cX1_give 165 = .ok (.if_icmp .eq 39, 3) := by decide +kernel
theorem dX1_give_168 : decode cX1_give 168 = .ok (.aload_n 0, 1) := by decide +kernel
theorem dX1_give_169 : decode cX1_give 169 = .ok (.getfield 54, 3) := by decide +kernel
theorem dX1_give_172 : decode cX1_give 172 = .ok (.iload_n 3, 1) := by decide +kernel
theorem dX1_give_173 : decode cX1_give 173 = .ok (.aaload, 1) := by decide +kernel
theorem dX1_give_174 : decode cX1_give 174 = .ok (.dup, 1) := by decide +kernel
theorem dX1_give_175 : decode cX1_give 175 = .ok (.getfield 144, 3) := by decide +kernel
theorem dX1_give_178 : decode cX1_give 178 = .ok (.lconst 1, 1) := by decide +kernel
theorem dX1_give_179 : decode cX1_give 179 = .ok (.iload_n 1, 1) := by decide +kernel
theorem dX1_give_180 : decode cX1_give 180 = .ok (.lshl, 1) := by decide +kernel
theorem dX1_give_181 : decode cX1_give 181 = .ok (.lor, 1) := by decide +kernel
theorem dX1_give_182 : decode cX1_give 182 = .ok (.putfield 144, 3) := by decide +kernel
theorem dX1_give_185 : decode cX1_give 185 = .ok (.aload_n 0, 1) := by decide +kernel
theorem dX1_give_186 : decode cX1_give 186 = .ok (.aload_n 0, 1) := by decide +kernel
theorem dX1_give_187 : decode cX1_give 187 = .ok (.getfield 27, 3) := by decide +kernel
theorem dX1_give_190 : decode cX1_give 190 = .ok (.ifCond .ne 7, 3) := by decide +kernel
theorem dX1_give_193 : decode cX1_give 193 = .ok (.iload_n 3, 1) := by decide +kernel
theorem dX1_give_194 : decode cX1_give 194 = .ok (.goto 7, 3) := by decide +kernel
theorem dX1_give_197 : decode cX1_give 197 = .ok (.aload_n 0, 1) := by decide +kernel
theorem dX1_give_198 : decode cX1_give 198 = .ok (.getfield 40, 3) := by decide +kernel
theorem dX1_give_201 : decode cX1_give 201 = .ok (.putfield 40, 3) := by decide +kernel
theorem dX1_give_204 : decode cX1_give 204 = .ok (.return_, 1) := by decide +kernel
set_option maxRecDepth 20000 in
set_option maxHeartbeats 4000000 in
theorem vX1_give_0 {l : Launch} {x : CX} {a0 : Nat} {x1 : Int32} {h : PH} {rc rs n0 : Nat} {Q : Option Value → PH → Prop} {X : String → PH → Prop}
    (K : Gm l x mX1_give 3 20 [(0, .ref a0), (1, .int x1), (2, .int (if (x1 &&& 1) = 0 then 1 else 2 : Int32)), (3, .int (-1)), (4, .int 0), (5, .int 0)] [] h rc rs n0 Q X) :
    Gm l x mX1_give 3 0 [(0, .ref a0), (1, .int x1)] [] h rc rs n0 Q X := by
  refine g_iload_n dX1_give_0 rfl 1 rfl ?_
  refine g_iconst (v := 1) dX1_give_1 (by decide) ?_
  refine g_iand dX1_give_2 ?_
  have KJ : Gm l x mX1_give 3 11 [(0, .ref a0), (1, .int x1)] [.int (if (x1 &&& 1) = 0 then 1 else 2 : Int32)] h rc rs n0 Q X := by
    refine g_istore_n (lv' := [(0, .ref a0), (1, .int x1), (2, .int (if (x1 &&& 1) = 0 then 1 else 2 : Int32))]) dX1_give_11 rfl (by decide) rfl ?_
    refine g_iconst (v := (-1)) dX1_give_12 (by decide) ?_
    refine g_istore_n (lv' := [(0, .ref a0), (1, .int x1), (2, .int (if (x1 &&& 1) = 0 then 1 else 2 : Int32)), (3, .int (-1))]) dX1_give_13 rfl (by decide) rfl ?_
    refine g_iconst (v := 0) dX1_give_14 (by decide) ?_
    refine g_istore (lv' := [(0, .ref a0), (1, .int x1), (2, .int (if (x1 &&& 1) = 0 then 1 else 2 : Int32)), (3, .int (-1)), (4, .int 0)]) dX1_give_15 (by decide) rfl ?_
    refine g_iconst (v := 0) dX1_give_17 (by decide) ?_
    refine g_istore (lv' := [(0, .ref a0), (1, .int x1), (2, .int (if (x1 &&& 1) = 0 then 1 else 2 : Int32)), (3, .int (-1)), (4, .int 0), (5, .int 0)]) dX1_give_18 (by decide) rfl ?_
    exact K
  refine g_if_ne (tgt := 10) dX1_give_3 (by decide) (fun c1 => ?_) (fun c1 => ?_)
  · refine g_iconst (v := 2) dX1_give_10 (by decide) ?_
    first | (simp only [if_neg c1] at KJ; exact KJ) | (simp only [if_neg c1, ite_true, ite_false, eq_self] at KJ; exact KJ) | (simp only [if_neg c1] at KJ ⊢; exact KJ) | exact KJ
  · refine g_iconst (v := 1) dX1_give_6 (by decide) ?_
    refine g_goto (tgt := 11) dX1_give_7 (by decide) ?_
    first | (simp only [if_pos c1] at KJ; exact KJ) | (simp only [if_pos c1, ite_true, ite_false, eq_self] at KJ; exact KJ) | (simp only [if_pos c1] at KJ ⊢; exact KJ) | exact KJ
set_option maxRecDepth 20000 in
set_option maxHeartbeats 4000000 in
theorem vX1_give_20 {l : Launch} {x : CX} {a0 : Nat} {x1 : Int32} {x2 : Int32} {x3 : Int32} {x4 : Int32} {x5 : Int32} {h : PH} {rc rs n0 : Nat} {Q : Option Value → PH → Prop} {X : String → PH → Prop}
    (K : ((hK h a0).1 = 1) ∧ (((hI h a0 1) ≤ x5 → ∃ (q3 : PH → Prop), CV l x mX1_takeFromAll 0 0 0 [.ref a0, .long (lsh 1 x1)] h q3 ∧ ∀ (h5 : PH), q3 h5 → ((x3 = (-1) → Q none h5) ∧ (¬ x3 = (-1) → ((hK h5 a0).1 = 1) ∧ ∃ b8, (hR h5 a0 13 = some b8) ∧ ((hK h5 b8).1 = 105) ∧ (vp_in x3 (hK h5 b8).2) ∧ ∃ b12, (hR h5 b8 x3.toNatClampNeg = some b12) ∧ ((hK h5 b12).1 = 2) ∧ Q none (sI (sL h5 b12 12 ((hL h5 b12 12) ||| (lsh 1 x1))) a0 9 (if (hI h5 a0 5) = 0 then x3 else (hI h5 a0 9) : Int32))))) ∧ (¬ (hI h a0 1) ≤ x5 → ((¬ (hI h a0 5) = 0 → Gm l x mX1_give 3 55 [(0, .ref a0), (1, .int x1), (2, .int x2), (3, .int x3), (4, .int x4), (5, .int x5)] [.int x5] h rc rs n0 Q X) ∧ ((hI h a0 5) = 0 → (¬ (hI h a0 1) = 0) ∧ Gm l x mX1_give 3 55 [(0, .ref a0), (1, .int x1), (2, .int x2), (3, .int x3), (4, .int x4), (5, .int x5)] [.int ((((hI h a0 9) + 1) + x5) - (((hI h a0 9) + 1) + x5) / (hI h a0 1) * (hI h a0 1))] h rc rs n0 Q X))))) :
    Gm l x mX1_give 3 20 [(0, .ref a0), (1, .int x1), (2, .int x2), (3, .int x3), (4, .int x4), (5, .int x5)] [] h rc rs n0 Q X := by
  refine g_iload dX1_give_20 5 rfl ?_
  refine g_aload_n dX1_give_22 rfl 0 rfl ?_
  obtain ⟨e1, K⟩ := K
  refine g_get (c := 1) (k := 1) (v := .int (hI h a0 1)) dX1_give_23 fc_1 (by decide) (by decide) bw_188 rfl e1 ?_
  refine g_icmp_ge (tgt := 156) dX1_give_26 (by decide) (fun c2 => ?_) (fun c2 => ?_)
  · replace K := K.1 c2
    refine g_aload_n dX1_give_156 rfl 0 rfl ?_
    refine g_lconst (v := 1) dX1_give_157 (by decide) ?_
    refine g_iload_n dX1_give_158 rfl 1 rfl ?_
    refine g_lshl dX1_give_159 ?_
    obtain ⟨q3, C4, K⟩ := K
    refine g_callV (M' := mX1_takeFromAll) (b := a0) (As := [.long (lsh 1 x1)]) (rest := []) (rc' := rc) (rs' := rs) dX1_give_160 bw_500 bw_502 bs_6 bw_3 bw_503 ⟨by decide +kernel, by decide +kernel, show (parseMethodDescriptor mX1_takeFromAll.1.desc).map (fun d => d.parameters.length) = some 1 by decide +kernel⟩ (by decide) (by decide) (Nat.le_of_ble_eq_true rfl) fc_1 (by decide) rfl e1 C4 (Nat.le_of_eq (Nat.add_zero _)) (Nat.le_of_eq (Nat.add_zero _)) (fun _ _ h => h) ?_
    rintro _ h5 ⟨rfl, K1⟩ -
    replace K := K h5 K1
    show Gm l x mX1_give 3 163 [(0, .ref a0), (1, .int x1), (2, .int x2), (3, .int x3), (4, .int x4), (5, .int x5)] [] h5 rc rs n0 Q X
    refine g_iload_n dX1_give_163 rfl 3 rfl ?_
    refine g_iconst (v := (-1)) dX1_give_164 (by decide) ?_
    refine g_icmp_eq (tgt := 204) dX1_give_165 (by decide) (fun c6 => ?_) (fun c6 => ?_)
    · replace K := K.1 c6
      exact g_vret dX1_give_204 rfl K
    · replace K := K.2 c6
      refine g_aload_n dX1_give_168 rfl 0 rfl ?_
      obtain ⟨e7, b8, e9, K⟩ := K
      refine g_get (c := 1) (k := 13) (v := .ref b8) dX1_give_169 fc_1 (by decide) (by decide) bw_223 (congrArg pr e9) e7 ?_
      refine g_iload_n dX1_give_172 rfl 3 rfl ?_
      obtain ⟨e10, e11, b12, e13, K⟩ := K
      refine g_aald (t := 5) (v := .ref b12) dX1_give_173 (Or.inl rfl) e10 e11 (congrArg pr e13) ?_
      refine g_dup dX1_give_174 rfl ?_
      obtain ⟨e14, K⟩ := K
      refine g_get (c := 2) (k := 12) (v := .long (hL h5 b12 12)) dX1_give_175 fc_2 (by decide) (by decide) bw_87 rfl e14 ?_
      refine g_lconst (v := 1) dX1_give_178 (by decide) ?_
      refine g_iload_n dX1_give_179 rfl 1 rfl ?_
      refine g_lshl dX1_give_180 ?_
      refine g_lor dX1_give_181 ?_
      refine g_putl (c := 2) (k := 12) dX1_give_182 fc_2 (by decide) (by decide) bw_87 (Or.inl rfl) rfl e14 ?_
      refine g_aload_n dX1_give_185 rfl 0 rfl ?_
      refine g_aload_n dX1_give_186 rfl 0 rfl ?_
      refine g_get (c := 1) (k := 5) (v := .int (hI h5 a0 5)) dX1_give_187 fc_1 (by decide) (by decide) bw_205 (congrArg Value.int ((hI_sL _ _ _ _ _ _).trans rfl)) (kkL e7) ?_
      have KJ : Gm l x mX1_give 3 201 [(0, .ref a0), (1, .int x1), (2, .int x2), (3, .int x3), (4, .int x4), (5, .int x5)] [.int (if (hI h5 a0 5) = 0 then x3 else (hI h5 a0 9) : Int32), .ref a0] (sL h5 b12 12 ((hL h5 b12 12) ||| (lsh 1 x1))) rc rs n0 Q X := by
        refine g_puti (c := 1) (k := 9) dX1_give_201 fc_1 (by decide) (by decide) bw_216 (Or.inl rfl) rfl (kkL e7) ?_
        exact g_vret dX1_give_204 rfl K
      refine g_if_ne (tgt := 197) dX1_give_190 (by decide) (fun c15 => ?_) (fun c15 => ?_)
      · refine g_aload_n dX1_give_197 rfl 0 rfl ?_
        refine g_get (c := 1) (k := 9) (v := .int (hI h5 a0 9)) dX1_give_198 fc_1 (by decide) (by decide) bw_216 (congrArg Value.int ((hI_sL _ _ _ _ _ _).trans rfl)) (kkL e7) ?_
        first | (simp only [if_neg c15] at KJ; exact KJ) | (simp only [if_neg c15, ite_true, ite_false, eq_self] at KJ; exact KJ) | (simp only [if_neg c15] at KJ ⊢; exact KJ) | exact KJ
      · refine g_iload_n dX1_give_193 rfl 3 rfl ?_
        refine g_goto (tgt := 201) dX1_give_194 (by decide) ?_
        first | (simp only [if_pos c15] at KJ; exact KJ) | (simp only [if_pos c15, ite_true, ite_false, eq_self] at KJ; exact KJ) | (simp only [if_pos c15] at KJ ⊢; exact KJ) | exact KJ
  · replace K := K.2 c2
    refine g_aload_n dX1_give_29 rfl 0 rfl ?_
    refine g_get (c := 1) (k := 5) (v := .int (hI h a0 5)) dX1_give_30 fc_1 (by decide) (by decide) bw_205 rfl e1 ?_
    refine g_if_ne (tgt := 53) dX1_give_33 (by decide) (fun c16 => ?_) (fun c16 => ?_)
    · replace K := K.1 c16
      refine g_iload dX1_give_53 5 rfl ?_
      exact K
    · replace K := K.2 c16
      refine g_aload_n dX1_give_36 rfl 0 rfl ?_
      refine g_get (c := 1) (k := 9) (v := .int (hI h a0 9)) dX1_give_37 fc_1 (by decide) (by decide) bw_216 rfl e1 ?_
      refine g_iconst (v := 1) dX1_give_40 (by decide) ?_
      refine g_iadd dX1_give_41 ?_
      refine g_iload dX1_give_42 5 rfl ?_
      refine g_iadd dX1_give_44 ?_
      refine g_aload_n dX1_give_45 rfl 0 rfl ?_
      refine g_get (c := 1) (k := 1) (v := .int (hI h a0 1)) dX1_give_46 fc_1 (by decide) (by decide) bw_188 rfl e1 ?_
      obtain ⟨e17, K⟩ := K
      refine g_irem dX1_give_49 e17 ?_
      refine g_goto (tgt := 55) dX1_give_50 (by decide) ?_
      exact K
set_option maxRecDepth 20000 in
set_option maxHeartbeats 4000000 in
theorem vX1_give_55 {l : Launch} {x : CX} {a0 : Nat} {x1 : Int32} {x2 : Int32} {x3 : Int32} {x4 : Int32} {x5 : Int32} {s0 : Int32} {h : PH} {rc rs n0 : Nat} {Q : Option Value → PH → Prop} {X : String → PH → Prop}
    (K : ((hK h a0).1 = 1) ∧ ∃ b2, (hR h a0 13 = some b2) ∧ ((hK h b2).1 = 105) ∧ (vp_in s0 (hK h b2).2) ∧ ∃ b6, (hR h b2 s0.toNatClampNeg = some b6) ∧ ((hK h b6).1 = 2) ∧ (((hI h b6 6) = 0 → Gm l x mX1_give 3 20 [(0, .ref a0), (1, .int x1), (2, .int x2), (3, .int x3), (4, .int x4), (5, .int (x5 + 1))] [] h rc rs n0 Q X) ∧ (¬ (hI h b6 6) = 0 → ∃ (q10 : Int32 → PH → Prop), CI l x mX2_takes 0 0 0 [.ref b6, .int x2] h q10 ∧ ∀ (r13 : Int32) (h12 : PH), q10 r13 h12 → ((¬ r13 = 0 → ((hK h12 a0).1 = 1) ∧ ((¬ (hI h12 a0 5) = 1 → ((¬ (hI h12 a0 5) = 2 → Gm l x mX1_give 3 20 [(0, .ref a0), (1, .int x1), (2, .int x2), (3, .int (if x3 = (-1) then s0 else (if x4 ≤ (0 : Int32) then x3 else s0 : Int32) : Int32)), (4, .int (if x3 = (-1) then 0 else (if x4 ≤ (0 : Int32) then x4 else 0 : Int32) : Int32)), (5, .int (x5 + 1))] [] h12 rc rs n0 Q X) ∧ ((hI h12 a0 5) = 2 → ∃ (q20 : Int32 → PH → Prop), CI l x mX1_costOf 2 0 0 [.ref a0, .ref b6, .int x1] h12 q20 ∧ ∀ (r23 : Int32) (h22 : PH), q20 r23 h22 → Gm l x mX1_give 3 20 [(0, .ref a0), (1, .int x1), (2, .int x2), (3, .int (if x3 = (-1) then s0 else (if x4 ≤ r23 then x3 else s0 : Int32) : Int32)), (4, .int (if x3 = (-1) then r23 else (if x4 ≤ r23 then x4 else r23 : Int32) : Int32)), (5, .int (x5 + 1))] [] h22 rc rs n0 Q X))) ∧ ((hI h12 a0 5) = 1 → ((hK h12 b6).1 = 2) ∧ ∀ (y27 : Int32), y27 = (if 0 ≤ ((hI h12 b6 3) - (x1 / 4)) then ((hI h12 b6 3) - (x1 / 4)) else 0 - ((hI h12 b6 3) - (x1 / 4))) → Gm l x mX1_give 3 20 [(0, .ref a0), (1, .int x1), (2, .int x2), (3, .int (if x3 = (-1) then s0 else (if x4 ≤ y27 then x3 else s0 : Int32) : Int32)), (4, .int (if x3 = (-1) then y27 else (if x4 ≤ y27 then x4 else y27 : Int32) : Int32)), (5, .int (x5 + 1))] [] h12 rc rs n0 Q X))) ∧ (r13 = 0 → Gm l x mX1_give 3 20 [(0, .ref a0), (1, .int x1), (2, .int x2), (3, .int x3), (4, .int x4), (5, .int (x5 + 1))] [] h12 rc rs n0 Q X))))) :
    Gm l x mX1_give 3 55 [(0, .ref a0), (1, .int x1), (2, .int x2), (3, .int x3), (4, .int x4), (5, .int x5)] [.int s0] h rc rs n0 Q X := by
  refine g_istore (lv' := [(0, .ref a0), (1, .int x1), (2, .int x2), (3, .int x3), (4, .int x4), (5, .int x5), (6, .int s0)]) dX1_give_55 (by decide) rfl ?_
  refine g_aload_n dX1_give_57 rfl 0 rfl ?_
  obtain ⟨e1, b2, e3, K⟩ := K
  refine g_get (c := 1) (k := 13) (v := .ref b2) dX1_give_58 fc_1 (by decide) (by decide) bw_223 (congrArg pr e3) e1 ?_
  refine g_iload dX1_give_61 6 rfl ?_
  obtain ⟨e4, e5, b6, e7, K⟩ := K
  refine g_aald (t := 5) (v := .ref b6) dX1_give_63 (Or.inl rfl) e4 e5 (congrArg pr e7) ?_
  refine g_astore (lv' := [(0, .ref a0), (1, .int x1), (2, .int x2), (3, .int x3), (4, .int x4), (5, .int x5), (6, .int s0), (7, .ref b6)]) dX1_give_64 (by decide) rfl ?_
  refine g_aload dX1_give_66 7 rfl ?_
  obtain ⟨e8, K⟩ := K
  refine g_get (c := 2) (k := 6) (v := .int (hI h b6 6)) dX1_give_68 fc_2 (by decide) (by decide) bw_75 rfl e8 ?_
  refine g_if_eq (tgt := 150) dX1_give_71 (by decide) (fun c9 => ?_) (fun c9 => ?_)
  · replace K := K.1 c9
    refine g_iinc (v := (x5 + 1)) (lv' := [(0, .ref a0), (1, .int x1), (2, .int x2), (3, .int x3), (4, .int x4), (5, .int (x5 + 1)), (6, .int s0), (7, .ref b6)]) dX1_give_150 5 rfl (by rfl) (by decide) rfl ?_
    refine g_goto (tgt := 20) dX1_give_153 (by decide) ?_
    exact Gm.sub [0, 1, 2, 3, 4, 5] rfl K
  · replace K := K.2 c9
    refine g_aload dX1_give_74 7 rfl ?_
    refine g_iload_n dX1_give_76 rfl 2 rfl ?_
    obtain ⟨q10, C11, K⟩ := K
    refine g_callV (M' := mX2_takes) (b := b6) (As := [.int x2]) (rest := []) (rc' := rc) (rs' := rs) dX1_give_77 bw_548 bw_549 bw_550 bw_4 bw_551 ⟨by decide +kernel, by decide +kernel, show (parseMethodDescriptor mX2_takes.1.desc).map (fun d => d.parameters.length) = some 1 by decide +kernel⟩ (by decide) (by decide) (Nat.le_of_ble_eq_true rfl) fc_2 (by decide) rfl e8 C11 (Nat.le_of_eq (Nat.add_zero _)) (Nat.le_of_eq (Nat.add_zero _)) (fun _ _ h => h) ?_
    rintro _ h12 ⟨r13, rfl, K1⟩ -
    replace K := K r13 h12 K1
    show Gm l x mX1_give 3 80 [(0, .ref a0), (1, .int x1), (2, .int x2), (3, .int x3), (4, .int x4), (5, .int x5), (6, .int s0), (7, .ref b6)] [.int r13] h12 rc rs n0 Q X
    refine g_if_ne (tgt := 86) dX1_give_80 (by decide) (fun c14 => ?_) (fun c14 => ?_)
    · replace K := K.1 c14
      refine g_iconst (v := 0) dX1_give_86 (by decide) ?_
      refine g_istore (lv' := [(0, .ref a0), (1, .int x1), (2, .int x2), (3, .int x3), (4, .int x4), (5, .int x5), (6, .int s0), (7, .ref b6), (8, .int 0)]) dX1_give_87 (by decide) rfl ?_
      refine g_aload_n dX1_give_89 rfl 0 rfl ?_
      obtain ⟨e15, K⟩ := K
      refine g_get (c := 1) (k := 5) (v := .int (hI h12 a0 5)) dX1_give_90 fc_1 (by decide) (by decide) bw_205 rfl e15 ?_
      refine g_iconst (v := 1) dX1_give_93 (by decide) ?_
      refine g_icmp_ne (tgt := 114) dX1_give_94 (by decide) (fun c16 => ?_) (fun c16 => ?_)
      · replace K := K.1 c16
        refine g_aload_n dX1_give_114 rfl 0 rfl ?_
        refine g_get (c := 1) (k := 5) (v := .int (hI h12 a0 5)) dX1_give_115 fc_1 (by decide) (by decide) bw_205 rfl e15 ?_
        refine g_iconst (v := 2) dX1_give_118 (by decide) ?_
        refine g_icmp_ne (tgt := 131) dX1_give_119 (by decide) (fun c17 => ?_) (fun c17 => ?_)
        · replace K := K.1 c17
          refine g_iload_n dX1_give_131 rfl 3 rfl ?_
          refine g_iconst (v := (-1)) dX1_give_132 (by decide) ?_
          have KJ : Gm l x mX1_give 3 150 [(0, .ref a0), (1, .int x1), (2, .int x2), (3, .int (if x3 = (-1) then s0 else (if x4 ≤ (0 : Int32) then x3 else s0 : Int32) : Int32)), (4, .int (if x3 = (-1) then 0 else (if x4 ≤ (0 : Int32) then x4 else 0 : Int32) : Int32)), (5, .int x5), (6, .int s0), (7, .ref b6), (8, .int 0)] [] h12 rc rs n0 Q X := by
            refine g_iinc (v := (x5 + 1)) (lv' := [(0, .ref a0), (1, .int x1), (2, .int x2), (3, .int (if x3 = (-1) then s0 else (if x4 ≤ (0 : Int32) then x3 else s0 : Int32) : Int32)), (4, .int (if x3 = (-1) then 0 else (if x4 ≤ (0 : Int32) then x4 else 0 : Int32) : Int32)), (5, .int (x5 + 1)), (6, .int s0), (7, .ref b6), (8, .int 0)]) dX1_give_150 5 rfl (by rfl) (by decide) rfl ?_
            refine g_goto (tgt := 20) dX1_give_153 (by decide) ?_
            exact Gm.sub [0, 1, 2, 3, 4, 5] rfl K
          refine g_icmp_eq (tgt := 143) dX1_give_133 (by decide) (fun c18 => ?_) (fun c18 => ?_)
          · refine g_iload dX1_give_143 6 rfl ?_
            refine g_istore_n (lv' := [(0, .ref a0), (1, .int x1), (2, .int x2), (3, .int s0), (4, .int x4), (5, .int x5), (6, .int s0), (7, .ref b6), (8, .int 0)]) dX1_give_145 rfl (by decide) rfl ?_
            refine g_iload dX1_give_146 8 rfl ?_
            refine g_istore (lv' := [(0, .ref a0), (1, .int x1), (2, .int x2), (3, .int s0), (4, .int 0), (5, .int x5), (6, .int s0), (7, .ref b6), (8, .int 0)]) dX1_give_148 (by decide) rfl ?_
            first | (simp only [if_pos c18] at KJ; exact KJ) | (simp only [if_pos c18, ite_true, ite_false, eq_self] at KJ; exact KJ) | (simp only [if_pos c18] at KJ ⊢; exact KJ) | exact KJ
          · refine g_iload dX1_give_136 8 rfl ?_
            refine g_iload dX1_give_138 4 rfl ?_
            refine g_icmp_ge (tgt := 150) dX1_give_140 (by decide) (fun c19 => ?_) (fun c19 => ?_)
            · first | (simp only [if_neg c18, if_pos c19] at KJ; exact KJ) | (simp only [if_neg c18, if_pos c19, ite_true, ite_false, eq_self] at KJ; exact KJ) | (simp only [if_neg c18, if_pos c19] at KJ ⊢; exact KJ) | exact KJ
            · refine g_iload dX1_give_143 6 rfl ?_
              refine g_istore_n (lv' := [(0, .ref a0), (1, .int x1), (2, .int x2), (3, .int s0), (4, .int x4), (5, .int x5), (6, .int s0), (7, .ref b6), (8, .int 0)]) dX1_give_145 rfl (by decide) rfl ?_
              refine g_iload dX1_give_146 8 rfl ?_
              refine g_istore (lv' := [(0, .ref a0), (1, .int x1), (2, .int x2), (3, .int s0), (4, .int 0), (5, .int x5), (6, .int s0), (7, .ref b6), (8, .int 0)]) dX1_give_148 (by decide) rfl ?_
              first | (simp only [if_neg c18, if_neg c19] at KJ; exact KJ) | (simp only [if_neg c18, if_neg c19, ite_true, ite_false, eq_self] at KJ; exact KJ) | (simp only [if_neg c18, if_neg c19] at KJ ⊢; exact KJ) | exact KJ
        · replace K := K.2 c17
          refine g_aload_n dX1_give_122 rfl 0 rfl ?_
          refine g_aload dX1_give_123 7 rfl ?_
          refine g_iload_n dX1_give_125 rfl 1 rfl ?_
          obtain ⟨q20, C21, K⟩ := K
          refine g_callV (M' := mX1_costOf) (b := a0) (As := [.ref b6, .int x1]) (rest := []) (rc' := rc) (rs' := rs) dX1_give_126 bw_552 bw_553 bw_554 bw_3 bw_555 ⟨by decide +kernel, by decide +kernel, show (parseMethodDescriptor mX1_costOf.1.desc).map (fun d => d.parameters.length) = some 2 by decide +kernel⟩ (by decide) (by decide) (Nat.le_of_ble_eq_true rfl) fc_1 (by decide) rfl e15 C21 (Nat.le_of_eq (Nat.add_zero _)) (Nat.le_of_eq (Nat.add_zero _)) (fun _ _ h => h) ?_
          rintro _ h22 ⟨r23, rfl, K1⟩ -
          replace K := K r23 h22 K1
          show Gm l x mX1_give 3 129 [(0, .ref a0), (1, .int x1), (2, .int x2), (3, .int x3), (4, .int x4), (5, .int x5), (6, .int s0), (7, .ref b6), (8, .int 0)] [.int r23] h22 rc rs n0 Q X
          refine g_istore (lv' := [(0, .ref a0), (1, .int x1), (2, .int x2), (3, .int x3), (4, .int x4), (5, .int x5), (6, .int s0), (7, .ref b6), (8, .int r23)]) dX1_give_129 (by decide) rfl ?_
          refine g_iload_n dX1_give_131 rfl 3 rfl ?_
          refine g_iconst (v := (-1)) dX1_give_132 (by decide) ?_
          have KJ : Gm l x mX1_give 3 150 [(0, .ref a0), (1, .int x1), (2, .int x2), (3, .int (if x3 = (-1) then s0 else (if x4 ≤ r23 then x3 else s0 : Int32) : Int32)), (4, .int (if x3 = (-1) then r23 else (if x4 ≤ r23 then x4 else r23 : Int32) : Int32)), (5, .int x5), (6, .int s0), (7, .ref b6), (8, .int r23)] [] h22 rc rs n0 Q X := by
            refine g_iinc (v := (x5 + 1)) (lv' := [(0, .ref a0), (1, .int x1), (2, .int x2), (3, .int (if x3 = (-1) then s0 else (if x4 ≤ r23 then x3 else s0 : Int32) : Int32)), (4, .int (if x3 = (-1) then r23 else (if x4 ≤ r23 then x4 else r23 : Int32) : Int32)), (5, .int (x5 + 1)), (6, .int s0), (7, .ref b6), (8, .int r23)]) dX1_give_150 5 rfl (by rfl) (by decide) rfl ?_
            refine g_goto (tgt := 20) dX1_give_153 (by decide) ?_
            exact Gm.sub [0, 1, 2, 3, 4, 5] rfl K
          refine g_icmp_eq (tgt := 143) dX1_give_133 (by decide) (fun c24 => ?_) (fun c24 => ?_)
          · refine g_iload dX1_give_143 6 rfl ?_
            refine g_istore_n (lv' := [(0, .ref a0), (1, .int x1), (2, .int x2), (3, .int s0), (4, .int x4), (5, .int x5), (6, .int s0), (7, .ref b6), (8, .int r23)]) dX1_give_145 rfl (by decide) rfl ?_
            refine g_iload dX1_give_146 8 rfl ?_
            refine g_istore (lv' := [(0, .ref a0), (1, .int x1), (2, .int x2), (3, .int s0), (4, .int r23), (5, .int x5), (6, .int s0), (7, .ref b6), (8, .int r23)]) dX1_give_148 (by decide) rfl ?_
            first | (simp only [if_pos c24] at KJ; exact KJ) | (simp only [if_pos c24, ite_true, ite_false, eq_self] at KJ; exact KJ) | (simp only [if_pos c24] at KJ ⊢; exact KJ) | exact KJ
          · refine g_iload dX1_give_136 8 rfl ?_
            refine g_iload dX1_give_138 4 rfl ?_
            refine g_icmp_ge (tgt := 150) dX1_give_140 (by decide) (fun c25 => ?_) (fun c25 => ?_)
            · first | (simp only [if_neg c24, if_pos c25] at KJ; exact KJ) | (simp only [if_neg c24, if_pos c25, ite_true, ite_false, eq_self] at KJ; exact KJ) | (simp only [if_neg c24, if_pos c25] at KJ ⊢; exact KJ) | exact KJ
            · refine g_iload dX1_give_143 6 rfl ?_
              refine g_istore_n (lv' := [(0, .ref a0), (1, .int x1), (2, .int x2), (3, .int s0), (4, .int x4), (5, .int x5), (6, .int s0), (7, .ref b6), (8, .int r23)]) dX1_give_145 rfl (by decide) rfl ?_
              refine g_iload dX1_give_146 8 rfl ?_
              refine g_istore (lv' := [(0, .ref a0), (1, .int x1), (2, .int x2), (3, .int s0), (4, .int r23), (5, .int x5), (6, .int s0), (7, .ref b6), (8, .int r23)]) dX1_give_148 (by decide) rfl ?_
              first | (simp only [if_neg c24, if_neg c25] at KJ; exact KJ) | (simp only [if_neg c24, if_neg c25, ite_true, ite_false, eq_self] at KJ; exact KJ) | (simp only [if_neg c24, if_neg c25] at KJ ⊢; exact KJ) | exact KJ
      · replace K := K.2 c16
        refine g_aload dX1_give_97 7 rfl ?_
        obtain ⟨e26, K⟩ := K
        refine g_get (c := 2) (k := 3) (v := .int (hI h12 b6 3)) dX1_give_99 fc_2 (by decide) (by decide) bw_65 rfl e26 ?_
        refine g_iload_n dX1_give_102 rfl 1 rfl ?_
        refine g_iconst (v := 4) dX1_give_103 (by decide) ?_
        refine g_idiv dX1_give_104 (by decide) ?_
        refine g_isub dX1_give_105 ?_
        refine g_abs dX1_give_106 bw_541 bw_542 bw_14 bw_543 (by decide) (Nat.le_of_ble_eq_true rfl) ?_
        refine g_nmI (fun y27 e28 => ?_)
        replace K := K y27 e28
        refine g_istore (lv' := [(0, .ref a0), (1, .int x1), (2, .int x2), (3, .int x3), (4, .int x4), (5, .int x5), (6, .int s0), (7, .ref b6), (8, .int y27)]) dX1_give_109 (by decide) rfl ?_
        refine g_goto (tgt := 131) dX1_give_111 (by decide) ?_
        refine g_iload_n dX1_give_131 rfl 3 rfl ?_
        refine g_iconst (v := (-1)) dX1_give_132 (by decide) ?_
        have KJ : Gm l x mX1_give 3 150 [(0, .ref a0), (1, .int x1), (2, .int x2), (3, .int (if x3 = (-1) then s0 else (if x4 ≤ y27 then x3 else s0 : Int32) : Int32)), (4, .int (if x3 = (-1) then y27 else (if x4 ≤ y27 then x4 else y27 : Int32) : Int32)), (5, .int x5), (6, .int s0), (7, .ref b6), (8, .int y27)] [] h12 rc rs n0 Q X := by
          refine g_iinc (v := (x5 + 1)) (lv' := [(0, .ref a0), (1, .int x1), (2, .int x2), (3, .int (if x3 = (-1) then s0 else (if x4 ≤ y27 then x3 else s0 : Int32) : Int32)), (4, .int (if x3 = (-1) then y27 else (if x4 ≤ y27 then x4 else y27 : Int32) : Int32)), (5, .int (x5 + 1)), (6, .int s0), (7, .ref b6), (8, .int y27)]) dX1_give_150 5 rfl (by rfl) (by decide) rfl ?_
          refine g_goto (tgt := 20) dX1_give_153 (by decide) ?_
          exact Gm.sub [0, 1, 2, 3, 4, 5] rfl K
        refine g_icmp_eq (tgt := 143) dX1_give_133 (by decide) (fun c29 => ?_) (fun c29 => ?_)
        · refine g_iload dX1_give_143 6 rfl ?_
          refine g_istore_n (lv' := [(0, .ref a0), (1, .int x1), (2, .int x2), (3, .int s0), (4, .int x4), (5, .int x5), (6, .int s0), (7, .ref b6), (8, .int y27)]) dX1_give_145 rfl (by decide) rfl ?_
          refine g_iload dX1_give_146 8 rfl ?_
          refine g_istore (lv' := [(0, .ref a0), (1, .int x1), (2, .int x2), (3, .int s0), (4, .int y27), (5, .int x5), (6, .int s0), (7, .ref b6), (8, .int y27)]) dX1_give_148 (by decide) rfl ?_
          first | (simp only [if_pos c29] at KJ; exact KJ) | (simp only [if_pos c29, ite_true, ite_false, eq_self] at KJ; exact KJ) | (simp only [if_pos c29] at KJ ⊢; exact KJ) | exact KJ
        · refine g_iload dX1_give_136 8 rfl ?_
          refine g_iload dX1_give_138 4 rfl ?_
          refine g_icmp_ge (tgt := 150) dX1_give_140 (by decide) (fun c30 => ?_) (fun c30 => ?_)
          · first | (simp only [if_neg c29, if_pos c30] at KJ; exact KJ) | (simp only [if_neg c29, if_pos c30, ite_true, ite_false, eq_self] at KJ; exact KJ) | (simp only [if_neg c29, if_pos c30] at KJ ⊢; exact KJ) | exact KJ
          · refine g_iload dX1_give_143 6 rfl ?_
            refine g_istore_n (lv' := [(0, .ref a0), (1, .int x1), (2, .int x2), (3, .int s0), (4, .int x4), (5, .int x5), (6, .int s0), (7, .ref b6), (8, .int y27)]) dX1_give_145 rfl (by decide) rfl ?_
            refine g_iload dX1_give_146 8 rfl ?_
            refine g_istore (lv' := [(0, .ref a0), (1, .int x1), (2, .int x2), (3, .int s0), (4, .int y27), (5, .int x5), (6, .int s0), (7, .ref b6), (8, .int y27)]) dX1_give_148 (by decide) rfl ?_
            first | (simp only [if_neg c29, if_neg c30] at KJ; exact KJ) | (simp only [if_neg c29, if_neg c30, ite_true, ite_false, eq_self] at KJ; exact KJ) | (simp only [if_neg c29, if_neg c30] at KJ ⊢; exact KJ) | exact KJ
    · replace K := K.2 c14
      refine g_goto (tgt := 150) dX1_give_83 (by decide) ?_
      refine g_iinc (v := (x5 + 1)) (lv' := [(0, .ref a0), (1, .int x1), (2, .int x2), (3, .int x3), (4, .int x4), (5, .int (x5 + 1)), (6, .int s0), (7, .ref b6)]) dX1_give_150 5 rfl (by rfl) (by decide) rfl ?_
      refine g_goto (tgt := 20) dX1_give_153 (by decide) ?_
      exact Gm.sub [0, 1, 2, 3, 4, 5] rfl K
theorem dX1_pass_0 : decode cX1_pass 0 = .ok (.iconst 0, 1) := by decide +kernel
theorem dX1_pass_1 : decode cX1_pass 1 = .ok (.istore_n 2, 1) := by decide +kernel
theorem dX1_pass_2 : decode cX1_pass 2 = .ok (.iload_n 2, 1) := by decide +kernel
theorem dX1_pass_3 : decode cX1_pass 3 = .ok (.iload_n 1, 1) := by decide +kernel
theorem dX1_pass_4 : decode cX1_pass 4 = .ok (.if_icmp .ge 233, 3) := by decide +kernel
theorem dX1_pass_7 : decode cX1_pass 7 = .ok (.aload_n 0, 1) := by decide +kernel
theorem dX1_pass_8 : decode cX1_pass 8 = .ok (.getfield 36, 3) := by decide +kernel
theorem dX1_pass_11 : decode cX1_pass 11 = .ok (.ifCond .ne 34, 3) := by decide +kernel
theorem dX1_pass_14 : decode cX1_pass 14 = .ok (.aload_n 0, 1) := by decide +kernel
theorem dX1_pass_15 : decode cX1_pass 15 = .ok (.getfield 49, 3) := by decide +kernel
theorem dX1_pass_18 : decode cX1_pass 18 = .ok (.aload_n 0, 1) := by decide +kernel
theorem dX1_pass_19 : decode cX1_pass 19 = .ok (.getfield 18, 3) := by decide +kernel
theorem dX1_pass_22 : decode cX1_pass 22 = .ok (.if_icmp .ne 23, 3) := by decide +kernel
theorem dX1_pass_25 : decode cX1_pass 25 = .ok (.aload_n 0, 1) := by decide +kernel
theorem dX1_pass_26 : decode cX1_pass 26 = .ok (.invokevirtual 103, 3) := by decide +kernel
theorem dX1_pass_29 : decode cX1_pass 29 = .ok (.ifCond .eq 16, 3) := by decide +kernel
theorem dX1_pass_32 : decode cX1_pass 32 = .ok (.aload_n 0, 1) := by decide +kernel
theorem dX1_pass_33 : decode cX1_pass 33 = .ok (.dup, 1) := by decide +kernel
theorem dX1_pass_34 : decode cX1_pass 34 = .ok (.getfield 33, 3) := by decide +kernel
theorem dX1_pass_37 : decode cX1_pass 37 = .ok (.iload_n 1, 1) := by decide +kernel
theorem dX1_pass_38 : decode cX1_pass 38 = .ok (.iload_n 2, 1) := by decide +kernel
theorem dX1_pass_39 : decode cX1_pass 39 = .ok (.isub, 1) := by decide +kernel
theorem dX1_pass_40 : decode cX1_pass 40 = .ok (.iadd, 1) := by decide +kernel
theorem dX1_pass_41 : decode cX1_pass 41 = .ok (.putfield 33, 3) := by decide +kernel
theorem dX1_pass_44 : decode cX1_pass 44 = .ok (.return_, 1) := by decide +kernel
theorem dX1_pass_45 : decode cX1_pass 45 = .ok (.iconst 0, 1) := by decide +kernel
theorem dX1_pass_46 : decode cX1_pass 46 = .ok (.istore_n 3, 1) := by decide +kernel
theorem dX1_pass_47 : decode cX1_pass 47 = .ok (.iload_n 3, 1) := by decide +kernel
theorem dX1_pass_48 : decode cX1_pass 48 = .ok (.aload_n 0, 1) := by decide +kernel
theorem dX1_pass_49 : decode cX1_pass 49 = .ok (.getfield 18, 3) := by decide +kernel
theorem dX1_pass_52 : decode cX1_pass 52 = .ok (.if_icmp .ge 47, 3) := by decide +kernel
theorem dX1_pass_55 : decode cX1_pass 55 = .ok (.aload_n 0, 1) := by decide +kernel
theorem dX1_pass_56 : decode cX1_pass 56 = .ok (.getfield 60, 3) := by decide +kernel
theorem dX1_pass_59 : decode cX1_pass 59 = .ok (.iload_n 3, 1) := by decide +kernel
theorem dX1_pass_60 : decode cX1_pass 60 = .ok (.aaload, 1) := by decide +kernel
theorem dX1_pass_61 : decode cX1_pass 61 = .ok (.getfield 107, 3) := by decide +kernel
theorem dX1_pass_64 : decode cX1_pass 64 = .ok (.ifCond .ne 29, 3) := by decide +kernel
theorem dX1_pass_67 : decode cX1_pass 67 = .ok (.aload_n 0, 1) := by decide +kernel
theorem dX1_pass_68 : decode cX1_pass 68 = .ok (.getfield 60, 3) := by decide +kernel
theorem dX1_pass_71 : decode cX1_pass 71 = .ok (.iload_n 3, 1) := by decide +kernel
theorem dX1_pass_72 : decode cX1_pass 72 = .ok (.aaload, 1) := by decide +kernel
theorem dX1_pass_73 : decode cX1_pass 73 = .ok (.getfield 110, 3) := by decide +kernel
theorem dX1_pass_76 : decode cX1_pass 76 = .ok (.aload_n 0, 1) := by decide +kernel
theorem dX1_pass_77 : decode cX1_pass 77 = .ok (.getfield 33, 3) := by decide +kernel
theorem dX1_pass_80 : decode cX1_pass 80 = .ok (.if_icmp .ne 13, 3) := by decide +kernel
theorem dX1_pass_83 : decode cX1_pass 83 = .ok (.aload_n 0, 1) := by decide +kernel
theorem dX1_pass_84 : decode cX1_pass 84 = .ok (.aload_n 0, 1) := by decide +kernel
theorem dX1_pass_85 : decode cX1_pass 85 = .ok (.getfield 60, 3) := by decide +kernel
theorem dX1_pass_88 : decode cX1_pass 88 = .ok (.iload_n 3, 1) := by decide +kernel
theorem dX1_pass_89 : decode cX1_pass 89 = .ok (.aaload, 1) := by decide +kernel
theorem dX1_pass_90 : decode cX1_pass 90 = .ok (.invokevirtual 87, 3) := by decide +kernel
theorem dX1_pass_93 : decode cX1_pass 93 = .ok (.iinc 3 1, 3) := by decide +kernel
theorem dX1_pass_96 : decode cX1_pass 96 = .ok (.goto (-49), 3) := by decide +kernel
theorem dX1_pass_99 : decode cX1_pass 99 = .ok (.aload_n 0, 1) := by decide +kernel
theorem dX1_pass_100 : decode cX1_pass 100 = .ok (.getfield 36, 3) := by decide +kernel
theorem dX1_pass_103 : decode cX1_pass 103 = .ok (.ifCond .eq 10, 3) := by decide +kernel
theorem dX1_pass_106 : decode cX1_pass 106 = .ok (.aload_n 0, 1) := by decide +kernel
theorem dX1_pass_107 : decode cX1_pass 107 = .ok (.invokevirtual 111, 3) := by decide +kernel
theorem dX1_pass_110 : decode cX1_pass 110 = .ok (.goto 67, 3) := by decide +kernel
theorem dX1_pass_113 : decode cX1_pass 113 = .ok (.aload_n 0, 1) := by decide +kernel
theorem dX1_pass_114 : decode cX1_pass 114 = .ok (.invokevirtual 114, 3) := by decide +kernel
theorem dX1_pass_117 : decode cX1_pass 117 = .ok (.lstore_n 3, 1) := by decide +kernel
theorem dX1_pass_118 : decode cX1_pass 118 = .ok (.iconst 0, 1) := by decide +kernel
theorem dX1_pass_119 : decode cX1_pass 119 = .ok (.istore 5, 2) := by decide +kernel
theorem dX1_pass_121 : decode cX1_pass 121 = .ok (.iload 5, 2) := by decide +kernel
theorem dX1_pass_123 : decode cX1_pass 123 = .ok (.iconst 4, 1) := by decide +kernel
theorem dX1_pass_124 : decode cX1_pass 124 = .ok (.aload_n 0, 1) := by decide +kernel
theorem dX1_pass_125 : decode cX1_pass 125 = .ok (.getfield 9, 3) := by decide +kernel
theorem dX1_pass_128 : decode cX1_pass 128 = .ok (.imul, 1) := by decide +kernel
theorem dX1_pass_129 : decode cX1_pass 129 = .ok (.if_icmp .ge 44, 3) := by decide +kernel
theorem dX1_pass_132 : decode cX1_pass 132 = .ok (.lload_n 3, 1) := by decide +kernel
theorem dX1_pass_133 : decode cX1_pass 133 = .ok (.iload 5, 2) := by decide +kernel
theorem dX1_pass_135 : decode cX1_pass 135 = .ok (.lushr, 1) := by decide +kernel
theorem dX1_pass_136 : decode cX1_pass 136 = .ok (.lconst 0, 1) := by decide +kernel
theorem dX1_pass_137 : decode cX1_pass 137 = .ok (.lcmp, 1) := by decide +kernel
theorem dX1_pass_138 : decode cX1_pass 138 = .ok (.ifCond .eq 35, 3) := by decide +kernel
theorem dX1_pass_141 : decode cX1_pass 141 = .ok (.lload_n 3, 1) := by decide +kernel
theorem dX1_pass_142 : decode cX1_pass 142 = .ok (.iload 5, 2) := by decide +kernel
theorem dX1_pass_144 : decode cX1_pass 144 = .ok (.lushr, 1) := by decide +kernel
theorem dX1_pass_145 : decode cX1_pass 145 = .ok (.lconst 1, 1) := by decide +kernel
theorem dX1_pass_146 : decode cX1_pass 146 = .ok (.land, 1) := by decide +kernel
theorem dX1_pass_147 : decode cX1_pass 147 = .ok (.lconst 0, 1) := by decide +kernel
theorem dX1_pass_148 : decode cX1_pass 148 = .ok (.lcmp, 1) := by decide +kernel
theorem dX1_pass_149 : decode cX1_pass 149 = .ok (.ifCond .eq 18, 3) := by decide +kernel
theorem dX1_pass_152 : decode cX1_pass 152 = .ok (.aload_n 0, 1) := by decide +kernel
theorem dX1_pass_153 : decode cX1_pass 153 = .ok (.iload 5, 2) := by decide +kernel
theorem dX1_pass_155 : decode cX1_pass 155 = .ok (.invokevirtual 118, 3) := by decide +kernel
theorem dX1_pass_158 : decode cX1_pass 158 = .ok (.ifCond .eq 9, 3) := by decide +kernel
theorem dX1_pass_161 : decode cX1_pass 161 = .ok (.aload_n 0, 1) := by decide +kernel
theorem dX1_pass_162 : decode cX1_pass 162 = .ok (.iload 5, 2) := by decide +kernel
theorem dX1_pass_164 : decode cX1_pass 164 = .ok (.invokevirtual 122, 3) := by decide +kernel
theorem dX1_pass_167 : decode cX1_pass 167 = .ok (.iinc 5 1, 3) := by decide +kernel
theorem dX1_pass_170 : decode cX1_pass 170 = .ok (.goto (-49), 3) := by decide +kernel
theorem dX1_pass_173 : decode cX1_pass 173 = .ok (.aload_n 0, 1) := by decide +kernel
theorem dX1_pass_174 : decode cX1_pass 174 = .ok (.invokevirtual 125, 3) := by decide +kernel
theorem dX1_pass_177 : decode cX1_pass 177 = .ok (.aload_n 0, 1) := by decide +kernel
theorem dX1_pass_178 : decode cX1_pass 178 = .ok (.dup, 1) := by decide +kernel
theorem dX1_pass_179 : decode cX1_pass 179 = .ok (.getfield 33, 3) := by decide +kernel
theorem dX1_pass_182 : decode cX1_pass 182 = .ok (.iconst 1, 1) := by decide +kernel
theorem dX1_pass_183 : decode cX1_pass 183 = .ok (.iadd, 1) := by decide +kernel
theorem dX1_pass_184 : decode cX1_pass 184 = .ok (.putfield 33, 3) := by decide +kernel
theorem dX1_pass_187 : decode cX1_pass 187 = .ok (.iconst 0, 1) := by decide +kernel
theorem dX1_pass_188 : decode cX1_pass 188 = .ok (.istore_n 3, 1) := by decide +kernel
theorem dX1_pass_189 : decode cX1_pass 189 = .ok (.iload_n 3, 1) := by decide +kernel
theorem dX1_pass_190 : decode cX1_pass 190 = .ok (.aload_n 0, 1) := by decide +kernel
theorem dX1_pass_191 : decode cX1_pass 191 = .ok (.getfield 18, 3) := by decide +kernel
theorem dX1_pass_194 : decode cX1_pass 194 = .ok (.if_icmp .ge 37, 3) := by decide +kernel
theorem dX1_pass_197 : decode cX1_pass 197 = .ok (.aload_n 0, 1) := by decide +kernel
theorem dX1_pass_198 : decode cX1_pass 198 = .ok (.getfield 60, 3) := by decide +kernel
theorem dX1_pass_201 : decode cX1_pass 201 = .ok (.iload_n 3, 1) := by decide +kernel
theorem dX1_pass_202 : decode cX1_pass 202 = .ok (.aaload, 1) := by decide +kernel
theorem dX1_pass_203 : decode cX1_pass 203 = .ok (.getfield 107, 3) := by decide +kernel
theorem dX1_pass_206 : decode cX1_pass 206 = .ok (.iconst 1, 1) := by decide +kernel
theorem dX1_pass_207 : decode cX1_pass 207 = .ok (.if_icmp .ne 18, 3) := by decide +kernel
theorem dX1_pass_210 : decode cX1_pass 210 = .ok (.aload_n 0, 1) := by decide +kernel
theorem dX1_pass_211 : decode cX1_pass 211 = .ok (.getfield 60, 3) := by decide +kernel
theorem dX1_pass_214 : decode cX1_pass 214 = .ok (.iload_n 3, 1) := by decide +kernel
theorem dX1_pass_215 : decode cX1_pass 215 = .ok (.aaload, 1) := by decide +kernel
theorem dX1_pass_216 : decode cX1_pass 216 = .ok (.dup, 1) := by decide +kernel
theorem dX1_pass_217 : decode cX1_pass 217 = .ok (.getfield 128, 3) := by decide +kernel
theorem dX1_pass_220 : decode cX1_pass 220 = .ok (.iconst 1, 1) := by decide +kernel
theorem dX1_pass_221 : decode cX1_pass 221 = .ok (.iadd, 1) := by decide +kernel
theorem dX1_pass_222 : decode cX1_pass 222 = .ok (.putfield 128, 3) := by decide +kernel
theorem dX1_pass_225 : decode cX1_pass 225 = .ok (.iinc 3 1, 3) := by decide +kernel
theorem dX1_pass_228 : decode cX1_pass 228 = .ok (.goto (-39), 3) := by decide +kernel
theorem dX1_pass_231 : decode cX1_pass 231 = .ok (.iinc 2 1, 3) := by decide +kernel
theorem dX1_pass_234 : decode cX1_pass 234 = .ok (.goto (-232), 3) := by decide +kernel
theorem dX1_pass_237 : decode cX1_pass 237 = .ok (.return_, 1) := by decide +kernel
set_option maxRecDepth 20000 in
set_option maxHeartbeats 4000000 in
theorem vX1_pass_0 {l : Launch} {x : CX} {a0 : Nat} {x1 : Int32} {h : PH} {rc rs n0 : Nat} {Q : Option Value → PH → Prop} {X : String → PH → Prop}
    (K : Gm l x mX1_pass 4 2 [(0, .ref a0), (1, .int x1), (2, .int 0)] [] h rc rs n0 Q X) :
    Gm l x mX1_pass 4 0 [(0, .ref a0), (1, .int x1)] [] h rc rs n0 Q X := by
  refine g_iconst (v := 0) dX1_pass_0 (by decide) ?_
  refine g_istore_n (lv' := [(0, .ref a0), (1, .int x1), (2, .int 0)]) dX1_pass_1 rfl (by decide) rfl ?_
  exact K
set_option maxRecDepth 20000 in
set_option maxHeartbeats 4000000 in
theorem vX1_pass_2 {l : Launch} {x : CX} {a0 : Nat} {x1 : Int32} {x2 : Int32} {h : PH} {rc rs n0 : Nat} {Q : Option Value → PH → Prop} {X : String → PH → Prop}
    (K : ((x1 ≤ x2 → Q none h) ∧ (¬ x1 ≤ x2 → ((hK h a0).1 = 1) ∧ ((¬ (hI h a0 8) = 0 → Gm l x mX1_pass 4 47 [(0, .ref a0), (1, .int x1), (2, .int x2), (3, .int 0)] [] h rc rs n0 Q X) ∧ ((hI h a0 8) = 0 → ((¬ (hI h a0 12) = (hI h a0 2) → Gm l x mX1_pass 4 47 [(0, .ref a0), (1, .int x1), (2, .int x2), (3, .int 0)] [] h rc rs n0 Q X) ∧ ((hI h a0 12) = (hI h a0 2) → ∃ (q5 : Int32 → PH → Prop), CI l x mX1_isAsleep 2 0 0 [.ref a0] h q5 ∧ ∀ (r8 : Int32) (h7 : PH), q5 r8 h7 → ((r8 = 0 → Gm l x mX1_pass 4 47 [(0, .ref a0), (1, .int x1), (2, .int x2), (3, .int 0)] [] h7 rc rs n0 Q X) ∧ (¬ r8 = 0 → ((hK h7 a0).1 = 1) ∧ Q none (sI h7 a0 7 ((hI h7 a0 7) + (x1 - x2)))))))))))) :
    Gm l x mX1_pass 4 2 [(0, .ref a0), (1, .int x1), (2, .int x2)] [] h rc rs n0 Q X := by
  refine g_iload_n dX1_pass_2 rfl 2 rfl ?_
  refine g_iload_n dX1_pass_3 rfl 1 rfl ?_
  refine g_icmp_ge (tgt := 237) dX1_pass_4 (by decide) (fun c1 => ?_) (fun c1 => ?_)
  · replace K := K.1 c1
    exact g_vret dX1_pass_237 rfl K
  · replace K := K.2 c1
    refine g_aload_n dX1_pass_7 rfl 0 rfl ?_
    obtain ⟨e2, K⟩ := K
    refine g_get (c := 1) (k := 8) (v := .int (hI h a0 8)) dX1_pass_8 fc_1 (by decide) (by decide) bw_214 rfl e2 ?_
    refine g_if_ne (tgt := 45) dX1_pass_11 (by decide) (fun c3 => ?_) (fun c3 => ?_)
    · replace K := K.1 c3
      refine g_iconst (v := 0) dX1_pass_45 (by decide) ?_
      refine g_istore_n (lv' := [(0, .ref a0), (1, .int x1), (2, .int x2), (3, .int 0)]) dX1_pass_46 rfl (by decide) rfl ?_
      exact K
    · replace K := K.2 c3
      refine g_aload_n dX1_pass_14 rfl 0 rfl ?_
      refine g_get (c := 1) (k := 12) (v := .int (hI h a0 12)) dX1_pass_15 fc_1 (by decide) (by decide) bw_220 rfl e2 ?_
      refine g_aload_n dX1_pass_18 rfl 0 rfl ?_
      refine g_get (c := 1) (k := 2) (v := .int (hI h a0 2)) dX1_pass_19 fc_1 (by decide) (by decide) bw_192 rfl e2 ?_
      refine g_icmp_ne (tgt := 45) dX1_pass_22 (by decide) (fun c4 => ?_) (fun c4 => ?_)
      · replace K := K.1 c4
        refine g_iconst (v := 0) dX1_pass_45 (by decide) ?_
        refine g_istore_n (lv' := [(0, .ref a0), (1, .int x1), (2, .int x2), (3, .int 0)]) dX1_pass_46 rfl (by decide) rfl ?_
        exact K
      · replace K := K.2 c4
        refine g_aload_n dX1_pass_25 rfl 0 rfl ?_
        obtain ⟨q5, C6, K⟩ := K
        refine g_callV (M' := mX1_isAsleep) (b := a0) (As := []) (rest := []) (rc' := rc) (rs' := rs) dX1_pass_26 bw_469 bw_471 bs_2 bw_3 bw_472 ⟨by decide +kernel, by decide +kernel, show (parseMethodDescriptor mX1_isAsleep.1.desc).map (fun d => d.parameters.length) = some 0 by decide +kernel⟩ (by decide) (by decide) (Nat.le_of_ble_eq_true rfl) fc_1 (by decide) rfl e2 C6 (Nat.le_of_eq (Nat.add_zero _)) (Nat.le_of_eq (Nat.add_zero _)) (fun _ _ h => h) ?_
        rintro _ h7 ⟨r8, rfl, K1⟩ -
        replace K := K r8 h7 K1
        show Gm l x mX1_pass 4 29 [(0, .ref a0), (1, .int x1), (2, .int x2)] [.int r8] h7 rc rs n0 Q X
        refine g_if_eq (tgt := 45) dX1_pass_29 (by decide) (fun c9 => ?_) (fun c9 => ?_)
        · replace K := K.1 c9
          refine g_iconst (v := 0) dX1_pass_45 (by decide) ?_
          refine g_istore_n (lv' := [(0, .ref a0), (1, .int x1), (2, .int x2), (3, .int 0)]) dX1_pass_46 rfl (by decide) rfl ?_
          exact K
        · replace K := K.2 c9
          refine g_aload_n dX1_pass_32 rfl 0 rfl ?_
          refine g_dup dX1_pass_33 rfl ?_
          obtain ⟨e10, K⟩ := K
          refine g_get (c := 1) (k := 7) (v := .int (hI h7 a0 7)) dX1_pass_34 fc_1 (by decide) (by decide) bw_212 rfl e10 ?_
          refine g_iload_n dX1_pass_37 rfl 1 rfl ?_
          refine g_iload_n dX1_pass_38 rfl 2 rfl ?_
          refine g_isub dX1_pass_39 ?_
          refine g_iadd dX1_pass_40 ?_
          refine g_puti (c := 1) (k := 7) dX1_pass_41 fc_1 (by decide) (by decide) bw_212 (Or.inl rfl) rfl e10 ?_
          exact g_vret dX1_pass_44 rfl K
set_option maxRecDepth 20000 in
set_option maxHeartbeats 4000000 in
theorem vX1_pass_47 {l : Launch} {x : CX} {a0 : Nat} {x1 : Int32} {x2 : Int32} {x3 : Int32} {h : PH} {rc rs n0 : Nat} {Q : Option Value → PH → Prop} {X : String → PH → Prop}
    (K : ((hK h a0).1 = 1) ∧ (((hI h a0 2) ≤ x3 → (((hI h a0 8) = 0 → ∃ (q4 : Int64 → PH → Prop), CJ l x mX1_callsWaiting 1 0 0 [.ref a0] h q4 ∧ ∀ (r7 : Int64) (h6 : PH), q4 r7 h6 → Gm l x mX1_pass 4 121 [(0, .ref a0), (1, .int x1), (2, .int x2), (3, .long r7), (5, .int 0)] [] h6 rc rs n0 Q X) ∧ (¬ (hI h a0 8) = 0 → ∃ (q8 : PH → Prop), CV l x mX1_flee 2 0 0 [.ref a0] h q8 ∧ ∀ (h10 : PH), q8 h10 → ((hK h10 a0).1 = 1) ∧ Gm l x mX1_pass 4 189 [(0, .ref a0), (1, .int x1), (2, .int x2), (3, .int 0)] [] (sI h10 a0 7 ((hI h10 a0 7) + 1)) rc rs n0 Q X))) ∧ (¬ (hI h a0 2) ≤ x3 → ∃ b12, (hR h a0 14 = some b12) ∧ ((hK h b12).1 = 106) ∧ (vp_in x3 (hK h b12).2) ∧ ∃ b16, (hR h b12 x3.toNatClampNeg = some b16) ∧ ((hK h b16).1 = 6) ∧ ((¬ (hI h b16 4) = 0 → Gm l x mX1_pass 4 47 [(0, .ref a0), (1, .int x1), (2, .int x2), (3, .int (x3 + 1))] [] h rc rs n0 Q X) ∧ ((hI h b16 4) = 0 → (vp_in x3 (hK h b12).2) ∧ ∃ b21, (hR h b12 x3.toNatClampNeg = some b21) ∧ ((hK h b21).1 = 6) ∧ ((¬ (hI h b21 1) = (hI h a0 7) → Gm l x mX1_pass 4 47 [(0, .ref a0), (1, .int x1), (2, .int x2), (3, .int (x3 + 1))] [] h rc rs n0 Q X) ∧ ((hI h b21 1) = (hI h a0 7) → (vp_in x3 (hK h b12).2) ∧ ∃ b26, (hR h b12 x3.toNatClampNeg = some b26) ∧ ∃ (q28 : PH → Prop), CV l x mX1_arrive 1 0 0 [.ref a0, .ref b26] h q28 ∧ ∀ (h30 : PH), q28 h30 → Gm l x mX1_pass 4 47 [(0, .ref a0), (1, .int x1), (2, .int x2), (3, .int (x3 + 1))] [] h30 rc rs n0 Q X))))))) :
    Gm l x mX1_pass 4 47 [(0, .ref a0), (1, .int x1), (2, .int x2), (3, .int x3)] [] h rc rs n0 Q X := by
  refine g_iload_n dX1_pass_47 rfl 3 rfl ?_
  refine g_aload_n dX1_pass_48 rfl 0 rfl ?_
  obtain ⟨e1, K⟩ := K
  refine g_get (c := 1) (k := 2) (v := .int (hI h a0 2)) dX1_pass_49 fc_1 (by decide) (by decide) bw_192 rfl e1 ?_
  refine g_icmp_ge (tgt := 99) dX1_pass_52 (by decide) (fun c2 => ?_) (fun c2 => ?_)
  · replace K := K.1 c2
    refine g_aload_n dX1_pass_99 rfl 0 rfl ?_
    refine g_get (c := 1) (k := 8) (v := .int (hI h a0 8)) dX1_pass_100 fc_1 (by decide) (by decide) bw_214 rfl e1 ?_
    refine g_if_eq (tgt := 113) dX1_pass_103 (by decide) (fun c3 => ?_) (fun c3 => ?_)
    · replace K := K.1 c3
      refine g_aload_n dX1_pass_113 rfl 0 rfl ?_
      obtain ⟨q4, C5, K⟩ := K
      refine g_callV (M' := mX1_callsWaiting) (b := a0) (As := []) (rest := []) (rc' := rc) (rs' := rs) dX1_pass_114 bw_526 bw_527 bw_528 bw_3 bw_529 ⟨by decide +kernel, by decide +kernel, show (parseMethodDescriptor mX1_callsWaiting.1.desc).map (fun d => d.parameters.length) = some 0 by decide +kernel⟩ (by decide) (by decide) (Nat.le_of_ble_eq_true rfl) fc_1 (by decide) rfl e1 C5 (Nat.le_of_eq (Nat.add_zero _)) (Nat.le_of_eq (Nat.add_zero _)) (fun _ _ h => h) ?_
      rintro _ h6 ⟨r7, rfl, K1⟩ -
      replace K := K r7 h6 K1
      show Gm l x mX1_pass 4 117 [(0, .ref a0), (1, .int x1), (2, .int x2), (3, .int x3)] [.long r7] h6 rc rs n0 Q X
      refine g_lstore_n (lv' := [(0, .ref a0), (1, .int x1), (2, .int x2), (3, .long r7)]) dX1_pass_117 rfl (by decide) rfl ?_
      refine g_iconst (v := 0) dX1_pass_118 (by decide) ?_
      refine g_istore (lv' := [(0, .ref a0), (1, .int x1), (2, .int x2), (3, .long r7), (5, .int 0)]) dX1_pass_119 (by decide) rfl ?_
      exact K
    · replace K := K.2 c3
      refine g_aload_n dX1_pass_106 rfl 0 rfl ?_
      obtain ⟨q8, C9, K⟩ := K
      refine g_callV (M' := mX1_flee) (b := a0) (As := []) (rest := []) (rc' := rc) (rs' := rs) dX1_pass_107 bw_495 bw_497 bs_5 bw_3 bw_498 ⟨by decide +kernel, by decide +kernel, show (parseMethodDescriptor mX1_flee.1.desc).map (fun d => d.parameters.length) = some 0 by decide +kernel⟩ (by decide) (by decide) (Nat.le_of_ble_eq_true rfl) fc_1 (by decide) rfl e1 C9 (Nat.le_of_eq (Nat.add_zero _)) (Nat.le_of_eq (Nat.add_zero _)) (fun _ _ h => h) ?_
      rintro _ h10 ⟨rfl, K1⟩ -
      replace K := K h10 K1
      show Gm l x mX1_pass 4 110 [(0, .ref a0), (1, .int x1), (2, .int x2), (3, .int x3)] [] h10 rc rs n0 Q X
      refine g_goto (tgt := 177) dX1_pass_110 (by decide) ?_
      refine g_aload_n dX1_pass_177 rfl 0 rfl ?_
      refine g_dup dX1_pass_178 rfl ?_
      obtain ⟨e11, K⟩ := K
      refine g_get (c := 1) (k := 7) (v := .int (hI h10 a0 7)) dX1_pass_179 fc_1 (by decide) (by decide) bw_212 rfl e11 ?_
      refine g_iconst (v := 1) dX1_pass_182 (by decide) ?_
      refine g_iadd dX1_pass_183 ?_
      refine g_puti (c := 1) (k := 7) dX1_pass_184 fc_1 (by decide) (by decide) bw_212 (Or.inl rfl) rfl e11 ?_
      refine g_iconst (v := 0) dX1_pass_187 (by decide) ?_
      refine g_istore_n (lv' := [(0, .ref a0), (1, .int x1), (2, .int x2), (3, .int 0)]) dX1_pass_188 rfl (by decide) rfl ?_
      exact K
  · replace K := K.2 c2
    refine g_aload_n dX1_pass_55 rfl 0 rfl ?_
    obtain ⟨b12, e13, K⟩ := K
    refine g_get (c := 1) (k := 14) (v := .ref b12) dX1_pass_56 fc_1 (by decide) (by decide) bw_226 (congrArg pr e13) e1 ?_
    refine g_iload_n dX1_pass_59 rfl 3 rfl ?_
    obtain ⟨e14, e15, b16, e17, K⟩ := K
    refine g_aald (t := 6) (v := .ref b16) dX1_pass_60 (Or.inr (Or.inl rfl)) e14 e15 (congrArg pr e17) ?_
    obtain ⟨e18, K⟩ := K
    refine g_get (c := 6) (k := 4) (v := .int (hI h b16 4)) dX1_pass_61 fc_6 (by decide) (by decide) bw_146 rfl e18 ?_
    refine g_if_ne (tgt := 93) dX1_pass_64 (by decide) (fun c19 => ?_) (fun c19 => ?_)
    · replace K := K.1 c19
      refine g_iinc (v := (x3 + 1)) (lv' := [(0, .ref a0), (1, .int x1), (2, .int x2), (3, .int (x3 + 1))]) dX1_pass_93 3 rfl (by rfl) (by decide) rfl ?_
      refine g_goto (tgt := 47) dX1_pass_96 (by decide) ?_
      exact K
    · replace K := K.2 c19
      refine g_aload_n dX1_pass_67 rfl 0 rfl ?_
      refine g_get (c := 1) (k := 14) (v := .ref b12) dX1_pass_68 fc_1 (by decide) (by decide) bw_226 (congrArg pr e13) e1 ?_
      refine g_iload_n dX1_pass_71 rfl 3 rfl ?_
      obtain ⟨e20, b21, e22, K⟩ := K
      refine g_aald (t := 6) (v := .ref b21) dX1_pass_72 (Or.inr (Or.inl rfl)) e14 e20 (congrArg pr e22) ?_
      obtain ⟨e23, K⟩ := K
      refine g_get (c := 6) (k := 1) (v := .int (hI h b21 1)) dX1_pass_73 fc_6 (by decide) (by decide) bw_135 rfl e23 ?_
      refine g_aload_n dX1_pass_76 rfl 0 rfl ?_
      refine g_get (c := 1) (k := 7) (v := .int (hI h a0 7)) dX1_pass_77 fc_1 (by decide) (by decide) bw_212 rfl e1 ?_
      refine g_icmp_ne (tgt := 93) dX1_pass_80 (by decide) (fun c24 => ?_) (fun c24 => ?_)
      · replace K := K.1 c24
        refine g_iinc (v := (x3 + 1)) (lv' := [(0, .ref a0), (1, .int x1), (2, .int x2), (3, .int (x3 + 1))]) dX1_pass_93 3 rfl (by rfl) (by decide) rfl ?_
        refine g_goto (tgt := 47) dX1_pass_96 (by decide) ?_
        exact K
      · replace K := K.2 c24
        refine g_aload_n dX1_pass_83 rfl 0 rfl ?_
        refine g_aload_n dX1_pass_84 rfl 0 rfl ?_
        refine g_get (c := 1) (k := 14) (v := .ref b12) dX1_pass_85 fc_1 (by decide) (by decide) bw_226 (congrArg pr e13) e1 ?_
        refine g_iload_n dX1_pass_88 rfl 3 rfl ?_
        obtain ⟨e25, b26, e27, K⟩ := K
        refine g_aald (t := 6) (v := .ref b26) dX1_pass_89 (Or.inr (Or.inl rfl)) e14 e25 (congrArg pr e27) ?_
        obtain ⟨q28, C29, K⟩ := K
        refine g_callV (M' := mX1_arrive) (b := a0) (As := [.ref b26]) (rest := []) (rc' := rc) (rs' := rs) dX1_pass_90 bw_481 bw_483 bs_4 bw_3 bw_484 ⟨by decide +kernel, by decide +kernel, show (parseMethodDescriptor mX1_arrive.1.desc).map (fun d => d.parameters.length) = some 1 by decide +kernel⟩ (by decide) (by decide) (Nat.le_of_ble_eq_true rfl) fc_1 (by decide) rfl e1 C29 (Nat.le_of_eq (Nat.add_zero _)) (Nat.le_of_eq (Nat.add_zero _)) (fun _ _ h => h) ?_
        rintro _ h30 ⟨rfl, K1⟩ -
        replace K := K h30 K1
        show Gm l x mX1_pass 4 93 [(0, .ref a0), (1, .int x1), (2, .int x2), (3, .int x3)] [] h30 rc rs n0 Q X
        refine g_iinc (v := (x3 + 1)) (lv' := [(0, .ref a0), (1, .int x1), (2, .int x2), (3, .int (x3 + 1))]) dX1_pass_93 3 rfl (by rfl) (by decide) rfl ?_
        refine g_goto (tgt := 47) dX1_pass_96 (by decide) ?_
        exact K
set_option maxRecDepth 20000 in
set_option maxHeartbeats 4000000 in
theorem vX1_pass_121 {l : Launch} {x : CX} {a0 : Nat} {x1 : Int32} {x2 : Int32} {l3 : Int64} {x5 : Int32} {h : PH} {rc rs n0 : Nat} {Q : Option Value → PH → Prop} {X : String → PH → Prop}
    (K : ((hK h a0).1 = 1) ∧ (((4 * (hI h a0 0)) ≤ x5 → ∃ (q3 : PH → Prop), CV l x mX1_moveCars 2 0 0 [.ref a0] h q3 ∧ ∀ (h5 : PH), q3 h5 → ((hK h5 a0).1 = 1) ∧ Gm l x mX1_pass 4 189 [(0, .ref a0), (1, .int x1), (2, .int x2), (3, .int 0)] [] (sI h5 a0 7 ((hI h5 a0 7) + 1)) rc rs n0 Q X) ∧ (¬ (4 * (hI h a0 0)) ≤ x5 → (((lg_cmp (lus l3 x5) 0) = 0 → ∃ (q8 : PH → Prop), CV l x mX1_moveCars 2 0 0 [.ref a0] h q8 ∧ ∀ (h10 : PH), q8 h10 → ((hK h10 a0).1 = 1) ∧ Gm l x mX1_pass 4 189 [(0, .ref a0), (1, .int x1), (2, .int x2), (3, .int 0)] [] (sI h10 a0 7 ((hI h10 a0 7) + 1)) rc rs n0 Q X) ∧ (¬ (lg_cmp (lus l3 x5) 0) = 0 → (((lg_cmp ((lus l3 x5) &&& 1) 0) = 0 → Gm l x mX1_pass 4 121 [(0, .ref a0), (1, .int x1), (2, .int x2), (3, .long l3), (5, .int (x5 + 1))] [] h rc rs n0 Q X) ∧ (¬ (lg_cmp ((lus l3 x5) &&& 1) 0) = 0 → ∃ (q13 : Int32 → PH → Prop), CI l x mX1_wantsCar 1 0 0 [.ref a0, .int x5] h q13 ∧ ∀ (r16 : Int32) (h15 : PH), q13 r16 h15 → ((r16 = 0 → Gm l x mX1_pass 4 121 [(0, .ref a0), (1, .int x1), (2, .int x2), (3, .long l3), (5, .int (x5 + 1))] [] h15 rc rs n0 Q X) ∧ (¬ r16 = 0 → ((hK h15 a0).1 = 1) ∧ ∃ (q18 : PH → Prop), CV l x mX1_give 3 0 0 [.ref a0, .int x5] h15 q18 ∧ ∀ (h21 : PH), q18 h21 → Gm l x mX1_pass 4 121 [(0, .ref a0), (1, .int x1), (2, .int x2), (3, .long l3), (5, .int (x5 + 1))] [] h21 rc rs n0 Q X))))))))) :
    Gm l x mX1_pass 4 121 [(0, .ref a0), (1, .int x1), (2, .int x2), (3, .long l3), (5, .int x5)] [] h rc rs n0 Q X := by
  refine g_iload dX1_pass_121 4 rfl ?_
  refine g_iconst (v := 4) dX1_pass_123 (by decide) ?_
  refine g_aload_n dX1_pass_124 rfl 0 rfl ?_
  obtain ⟨e1, K⟩ := K
  refine g_get (c := 1) (k := 0) (v := .int (hI h a0 0)) dX1_pass_125 fc_1 (by decide) (by decide) bw_185 rfl e1 ?_
  refine g_imul dX1_pass_128 ?_
  refine g_icmp_ge (tgt := 173) dX1_pass_129 (by decide) (fun c2 => ?_) (fun c2 => ?_)
  · replace K := K.1 c2
    refine g_aload_n dX1_pass_173 rfl 0 rfl ?_
    obtain ⟨q3, C4, K⟩ := K
    refine g_callV (M' := mX1_moveCars) (b := a0) (As := []) (rest := []) (rc' := rc) (rs' := rs) dX1_pass_174 bw_588 bw_590 bs_17 bw_3 bw_591 ⟨by decide +kernel, by decide +kernel, show (parseMethodDescriptor mX1_moveCars.1.desc).map (fun d => d.parameters.length) = some 0 by decide +kernel⟩ (by decide) (by decide) (Nat.le_of_ble_eq_true rfl) fc_1 (by decide) rfl e1 C4 (Nat.le_of_eq (Nat.add_zero _)) (Nat.le_of_eq (Nat.add_zero _)) (fun _ _ h => h) ?_
    rintro _ h5 ⟨rfl, K1⟩ -
    replace K := K h5 K1
    show Gm l x mX1_pass 4 177 [(0, .ref a0), (1, .int x1), (2, .int x2), (3, .long l3), (5, .int x5)] [] h5 rc rs n0 Q X
    refine g_aload_n dX1_pass_177 rfl 0 rfl ?_
    refine g_dup dX1_pass_178 rfl ?_
    obtain ⟨e6, K⟩ := K
    refine g_get (c := 1) (k := 7) (v := .int (hI h5 a0 7)) dX1_pass_179 fc_1 (by decide) (by decide) bw_212 rfl e6 ?_
    refine g_iconst (v := 1) dX1_pass_182 (by decide) ?_
    refine g_iadd dX1_pass_183 ?_
    refine g_puti (c := 1) (k := 7) dX1_pass_184 fc_1 (by decide) (by decide) bw_212 (Or.inl rfl) rfl e6 ?_
    refine g_iconst (v := 0) dX1_pass_187 (by decide) ?_
    refine g_istore_n (lv' := [(0, .ref a0), (1, .int x1), (2, .int x2), (3, .int 0), (5, .int x5)]) dX1_pass_188 rfl (by decide) rfl ?_
    exact Gm.sub [0, 1, 2, 3] rfl K
  · replace K := K.2 c2
    refine g_lload_n dX1_pass_132 rfl 3 rfl ?_
    refine g_iload dX1_pass_133 4 rfl ?_
    refine g_lushr dX1_pass_135 ?_
    refine g_lconst (v := 0) dX1_pass_136 (by decide) ?_
    refine g_lcmp dX1_pass_137 ?_
    refine g_if_eq (tgt := 173) dX1_pass_138 (by decide) (fun c7 => ?_) (fun c7 => ?_)
    · replace K := K.1 c7
      refine g_aload_n dX1_pass_173 rfl 0 rfl ?_
      obtain ⟨q8, C9, K⟩ := K
      refine g_callV (M' := mX1_moveCars) (b := a0) (As := []) (rest := []) (rc' := rc) (rs' := rs) dX1_pass_174 bw_588 bw_590 bs_17 bw_3 bw_591 ⟨by decide +kernel, by decide +kernel, show (parseMethodDescriptor mX1_moveCars.1.desc).map (fun d => d.parameters.length) = some 0 by decide +kernel⟩ (by decide) (by decide) (Nat.le_of_ble_eq_true rfl) fc_1 (by decide) rfl e1 C9 (Nat.le_of_eq (Nat.add_zero _)) (Nat.le_of_eq (Nat.add_zero _)) (fun _ _ h => h) ?_
      rintro _ h10 ⟨rfl, K1⟩ -
      replace K := K h10 K1
      show Gm l x mX1_pass 4 177 [(0, .ref a0), (1, .int x1), (2, .int x2), (3, .long l3), (5, .int x5)] [] h10 rc rs n0 Q X
      refine g_aload_n dX1_pass_177 rfl 0 rfl ?_
      refine g_dup dX1_pass_178 rfl ?_
      obtain ⟨e11, K⟩ := K
      refine g_get (c := 1) (k := 7) (v := .int (hI h10 a0 7)) dX1_pass_179 fc_1 (by decide) (by decide) bw_212 rfl e11 ?_
      refine g_iconst (v := 1) dX1_pass_182 (by decide) ?_
      refine g_iadd dX1_pass_183 ?_
      refine g_puti (c := 1) (k := 7) dX1_pass_184 fc_1 (by decide) (by decide) bw_212 (Or.inl rfl) rfl e11 ?_
      refine g_iconst (v := 0) dX1_pass_187 (by decide) ?_
      refine g_istore_n (lv' := [(0, .ref a0), (1, .int x1), (2, .int x2), (3, .int 0), (5, .int x5)]) dX1_pass_188 rfl (by decide) rfl ?_
      exact Gm.sub [0, 1, 2, 3] rfl K
    · replace K := K.2 c7
      refine g_lload_n dX1_pass_141 rfl 3 rfl ?_
      refine g_iload dX1_pass_142 4 rfl ?_
      refine g_lushr dX1_pass_144 ?_
      refine g_lconst (v := 1) dX1_pass_145 (by decide) ?_
      refine g_land dX1_pass_146 ?_
      refine g_lconst (v := 0) dX1_pass_147 (by decide) ?_
      refine g_lcmp dX1_pass_148 ?_
      refine g_if_eq (tgt := 167) dX1_pass_149 (by decide) (fun c12 => ?_) (fun c12 => ?_)
      · replace K := K.1 c12
        refine g_iinc (v := (x5 + 1)) (lv' := [(0, .ref a0), (1, .int x1), (2, .int x2), (3, .long l3), (5, .int (x5 + 1))]) dX1_pass_167 4 rfl (by rfl) (by decide) rfl ?_
        refine g_goto (tgt := 121) dX1_pass_170 (by decide) ?_
        exact K
      · replace K := K.2 c12
        refine g_aload_n dX1_pass_152 rfl 0 rfl ?_
        refine g_iload dX1_pass_153 4 rfl ?_
        obtain ⟨q13, C14, K⟩ := K
        refine g_callV (M' := mX1_wantsCar) (b := a0) (As := [.int x5]) (rest := []) (rc' := rc) (rs' := rs) dX1_pass_155 bw_533 bw_535 bs_9 bw_3 bw_536 ⟨by decide +kernel, by decide +kernel, show (parseMethodDescriptor mX1_wantsCar.1.desc).map (fun d => d.parameters.length) = some 1 by decide +kernel⟩ (by decide) (by decide) (Nat.le_of_ble_eq_true rfl) fc_1 (by decide) rfl e1 C14 (Nat.le_of_eq (Nat.add_zero _)) (Nat.le_of_eq (Nat.add_zero _)) (fun _ _ h => h) ?_
        rintro _ h15 ⟨r16, rfl, K1⟩ -
        replace K := K r16 h15 K1
        show Gm l x mX1_pass 4 158 [(0, .ref a0), (1, .int x1), (2, .int x2), (3, .long l3), (5, .int x5)] [.int r16] h15 rc rs n0 Q X
        refine g_if_eq (tgt := 167) dX1_pass_158 (by decide) (fun c17 => ?_) (fun c17 => ?_)
        · replace K := K.1 c17
          refine g_iinc (v := (x5 + 1)) (lv' := [(0, .ref a0), (1, .int x1), (2, .int x2), (3, .long l3), (5, .int (x5 + 1))]) dX1_pass_167 4 rfl (by rfl) (by decide) rfl ?_
          refine g_goto (tgt := 121) dX1_pass_170 (by decide) ?_
          exact K
        · replace K := K.2 c17
          refine g_aload_n dX1_pass_161 rfl 0 rfl ?_
          refine g_iload dX1_pass_162 4 rfl ?_
          obtain ⟨e20, K⟩ := K
          obtain ⟨q18, C19, K⟩ := K
          refine g_callV (M' := mX1_give) (b := a0) (As := [.int x5]) (rest := []) (rc' := rc) (rs' := rs) dX1_pass_164 bw_544 bw_546 bs_10 bw_3 bw_547 ⟨by decide +kernel, by decide +kernel, show (parseMethodDescriptor mX1_give.1.desc).map (fun d => d.parameters.length) = some 1 by decide +kernel⟩ (by decide) (by decide) (Nat.le_of_ble_eq_true rfl) fc_1 (by decide) rfl e20 C19 (Nat.le_of_eq (Nat.add_zero _)) (Nat.le_of_eq (Nat.add_zero _)) (fun _ _ h => h) ?_
          rintro _ h21 ⟨rfl, K1⟩ -
          replace K := K h21 K1
          show Gm l x mX1_pass 4 167 [(0, .ref a0), (1, .int x1), (2, .int x2), (3, .long l3), (5, .int x5)] [] h21 rc rs n0 Q X
          refine g_iinc (v := (x5 + 1)) (lv' := [(0, .ref a0), (1, .int x1), (2, .int x2), (3, .long l3), (5, .int (x5 + 1))]) dX1_pass_167 4 rfl (by rfl) (by decide) rfl ?_
          refine g_goto (tgt := 121) dX1_pass_170 (by decide) ?_
          exact K
set_option maxRecDepth 20000 in
set_option maxHeartbeats 4000000 in
theorem vX1_pass_189 {l : Launch} {x : CX} {a0 : Nat} {x1 : Int32} {x2 : Int32} {x3 : Int32} {h : PH} {rc rs n0 : Nat} {Q : Option Value → PH → Prop} {X : String → PH → Prop}
    (K : ((hK h a0).1 = 1) ∧ (((hI h a0 2) ≤ x3 → Gm l x mX1_pass 4 2 [(0, .ref a0), (1, .int x1), (2, .int (x2 + 1))] [] h rc rs n0 Q X) ∧ (¬ (hI h a0 2) ≤ x3 → ∃ b3, (hR h a0 14 = some b3) ∧ ((hK h b3).1 = 106) ∧ (vp_in x3 (hK h b3).2) ∧ ∃ b7, (hR h b3 x3.toNatClampNeg = some b7) ∧ ((hK h b7).1 = 6) ∧ ((¬ (hI h b7 4) = 1 → Gm l x mX1_pass 4 189 [(0, .ref a0), (1, .int x1), (2, .int x2), (3, .int (x3 + 1))] [] h rc rs n0 Q X) ∧ ((hI h b7 4) = 1 → (vp_in x3 (hK h b3).2) ∧ ∃ b12, (hR h b3 x3.toNatClampNeg = some b12) ∧ ((hK h b12).1 = 6) ∧ Gm l x mX1_pass 4 189 [(0, .ref a0), (1, .int x1), (2, .int x2), (3, .int (x3 + 1))] [] (sI h b12 7 ((hI h b12 7) + 1)) rc rs n0 Q X))))) :
    Gm l x mX1_pass 4 189 [(0, .ref a0), (1, .int x1), (2, .int x2), (3, .int x3)] [] h rc rs n0 Q X := by
  refine g_iload_n dX1_pass_189 rfl 3 rfl ?_
  refine g_aload_n dX1_pass_190 rfl 0 rfl ?_
  obtain ⟨e1, K⟩ := K
  refine g_get (c := 1) (k := 2) (v := .int (hI h a0 2)) dX1_pass_191 fc_1 (by decide) (by decide) bw_192 rfl e1 ?_
  refine g_icmp_ge (tgt := 231) dX1_pass_194 (by decide) (fun c2 => ?_) (fun c2 => ?_)
  · replace K := K.1 c2
    refine g_iinc (v := (x2 + 1)) (lv' := [(0, .ref a0), (1, .int x1), (2, .int (x2 + 1)), (3, .int x3)]) dX1_pass_231 2 rfl (by rfl) (by decide) rfl ?_
    refine g_goto (tgt := 2) dX1_pass_234 (by decide) ?_
    exact Gm.sub [0, 1, 2] rfl K
  · replace K := K.2 c2
    refine g_aload_n dX1_pass_197 rfl 0 rfl ?_
    obtain ⟨b3, e4, K⟩ := K
    refine g_get (c := 1) (k := 14) (v := .ref b3) dX1_pass_198 fc_1 (by decide) (by decide) bw_226 (congrArg pr e4) e1 ?_
    refine g_iload_n dX1_pass_201 rfl 3 rfl ?_
    obtain ⟨e5, e6, b7, e8, K⟩ := K
    refine g_aald (t := 6) (v := .ref b7) dX1_pass_202 (Or.inr (Or.inl rfl)) e5 e6 (congrArg pr e8) ?_
    obtain ⟨e9, K⟩ := K
    refine g_get (c := 6) (k := 4) (v := .int (hI h b7 4)) dX1_pass_203 fc_6 (by decide) (by decide) bw_146 rfl e9 ?_
    refine g_iconst (v := 1) dX1_pass_206 (by decide) ?_
    refine g_icmp_ne (tgt := 225) dX1_pass_207 (by decide) (fun c10 => ?_) (fun c10 => ?_)
    · replace K := K.1 c10
      refine g_iinc (v := (x3 + 1)) (lv' := [(0, .ref a0), (1, .int x1), (2, .int x2), (3, .int (x3 + 1))]) dX1_pass_225 3 rfl (by rfl) (by decide) rfl ?_
      refine g_goto (tgt := 189) dX1_pass_228 (by decide) ?_
      exact K
    · replace K := K.2 c10
      refine g_aload_n dX1_pass_210 rfl 0 rfl ?_
      refine g_get (c := 1) (k := 14) (v := .ref b3) dX1_pass_211 fc_1 (by decide) (by decide) bw_226 (congrArg pr e4) e1 ?_
      refine g_iload_n dX1_pass_214 rfl 3 rfl ?_
      obtain ⟨e11, b12, e13, K⟩ := K
      refine g_aald (t := 6) (v := .ref b12) dX1_pass_215 (Or.inr (Or.inl rfl)) e5 e11 (congrArg pr e13) ?_
      refine g_dup dX1_pass_216 rfl ?_
      obtain ⟨e14, K⟩ := K
      refine g_get (c := 6) (k := 7) (v := .int (hI h b12 7)) dX1_pass_217 fc_6 (by decide) (by decide) bw_157 rfl e14 ?_
      refine g_iconst (v := 1) dX1_pass_220 (by decide) ?_
      refine g_iadd dX1_pass_221 ?_
      refine g_puti (c := 6) (k := 7) dX1_pass_222 fc_6 (by decide) (by decide) bw_157 (Or.inl rfl) rfl e14 ?_
      refine g_iinc (v := (x3 + 1)) (lv' := [(0, .ref a0), (1, .int x1), (2, .int x2), (3, .int (x3 + 1))]) dX1_pass_225 3 rfl (by rfl) (by decide) rfl ?_
      refine g_goto (tgt := 189) dX1_pass_228 (by decide) ?_
      exact K
