/-! STEPS, printed by program: Face2 -/
theorem dX7_playYears_0 : decode cX7_playYears 0 = .ok (.iload_n 1, 1) := by decide +kernel
theorem dX7_playYears_1 : decode cX7_playYears 1 = .ok (.istore_n 3, 1) := by decide +kernel
theorem dX7_playYears_2 : decode cX7_playYears 2 = .ok (.iconst 0, 1) := by decide +kernel
theorem dX7_playYears_3 : decode cX7_playYears 3 = .ok (.istore 4, 2) := by decide +kernel
theorem dX7_playYears_5 : decode cX7_playYears 5 = .ok (.iload 4, 2) := by decide +kernel
theorem dX7_playYears_7 : decode cX7_playYears 7 = .ok (.iload_n 2, 1) := by decide +kernel
theorem dX7_playYears_8 : decode cX7_playYears 8 = .ok (.if_icmp .ge 124, 3) := by decide +kernel
theorem dX7_playYears_11 : decode cX7_playYears 11 = .ok (.iload_n 3, 1) := by decide +kernel
theorem dX7_playYears_12 : decode cX7_playYears 12 = .ok (.invokestatic 395, 3) := by decide +kernel
theorem dX7_playYears_15 : decode cX7_playYears 15 = .ok (.istore_n 3, 1) := by decide +kernel
theorem dX7_playYears_16 : decode cX7_playYears 16 = .ok (.iload_n 3, 1) := by decide +kernel
theorem dX7_playYears_17 : decode cX7_playYears 17 = .ok (.aload_n 0, 1) := by decide +kernel
theorem dX7_playYears_18 : decode cX7_playYears 18 = .ok (.getfield 23, 3) := by decide +kernel
theorem dX7_playYears_21 : decode cX7_playYears 21 = .ok (.getfield 87, 3) := by decide +kernel
theorem dX7_playYears_24 : decode cX7_playYears 24 = .ok (.invokestatic 398, 3) := by decide +kernel
theorem dX7_playYears_27 : decode cX7_playYears 27 = .ok (.istore 5, 2) := by decide +kernel
theorem dX7_playYears_29 : decode cX7_playYears 29 = .ok (.iload_n 3, 1) := by decide +kernel
theorem dX7_playYears_30 : decode cX7_playYears 30 = .ok (.invokestatic 395, 3) := by decide +kernel
theorem dX7_playYears_33 : decode cX7_playYears 33 = .ok (.istore_n 3, 1) := by decide +kernel
theorem dX7_playYears_34 : decode cX7_playYears 34 = .ok (.iload_n 3, 1) := by decide +kernel
theorem dX7_playYears_35 : decode cX7_playYears 35 = .ok (.aload_n 0, 1) := by decide +kernel
theorem dX7_playYears_36 : decode cX7_playYears 36 = .ok (.getfield 23, 3) := by decide +kernel
theorem dX7_playYears_39 : decode cX7_playYears 39 = .ok (.getfield 87, 3) := by decide +kernel
theorem dX7_playYears_42 : decode cX7_playYears 42 = .ok (.iconst 1, 1) := by decide +kernel
theorem dX7_playYears_43 : decode cX7_playYears 43 = .ok (.isub, 1) := by decide +kernel
theorem dX7_playYears_44 : decode cX7_playYears 44 = .ok (.invokestatic 398, 3) := by decide +kernel
theorem dX7_playYears_47 : decode cX7_playYears 47 = .ok (.istore 6, 2) := by decide +kernel
theorem dX7_playYears_49 : decode cX7_playYears 49 = .ok (.iload 6, 2) := by decide +kernel
theorem dX7_playYears_51 : decode cX7_playYears 51 = .ok (.iload 5, 2) := by decide +kernel
theorem dX7_playYears_53 : decode cX7_playYears 53 = .ok (.if_icmp .lt 6, 3) := by decide +kernel
theorem dX7_playYears_56 : decode cX7_playYears 56 = .ok (.iinc 6 1, 3) := by decide +kernel
theorem dX7_playYears_59 : decode cX7_playYears 59 = .ok (.iload_n 3, 1) := by decide +kernel
theorem dX7_playYears_60 : decode cX7_playYears 60 = .ok (.invokestatic 395, 3) := by decide +kernel
theorem dX7_playYears_63 : decode cX7_playYears 63 = .ok (.istore_n 3, 1) := by decide +kernel
theorem dX7_playYears_64 : decode cX7_playYears 64 = .ok (.iload_n 3, 1) := by decide +kernel
theorem dX7_playYears_65 : decode cX7_playYears 65 = .ok (.iconst 2, 1) := by decide +kernel
theorem dX7_playYears_66 : decode cX7_playYears 66 = .ok (.invokestatic 398, 3) := by decide +kernel
theorem dX7_playYears_69 : decode cX7_playYears 69 = .ok (.iconst 1, 1) := by decide +kernel
theorem dX7_playYears_70 : decode cX7_playYears 70 = .ok (.if_icmp .ne 7, 3) := by decide +kernel
theorem dX7_playYears_73 : decode cX7_playYears 73 = .ok (.iconst 2, 1) := by decide +kernel
theorem dX7_playYears_74 : decode cX7_playYears 74 = .ok (.goto 4, 3) := by decide +kernel
theorem dX7_playYears_77 : decode cX7_playYears 77 = .ok (.iconst 1, 1) := by decide +kernel
theorem dX7_playYears_78 : decode cX7_playYears 78 = .ok (.istore 7, 2) := by decide +kernel
theorem dX7_playYears_80 : decode cX7_playYears 80 = .ok (.aload_n 0, 1) := by decide +kernel
theorem dX7_playYears_81 : decode cX7_playYears 81 = .ok (.getfield 23, 3) := by decide +kernel
theorem dX7_playYears_84 : decode cX7_playYears 84 = .ok (.getfield 93, 3) := by decide +kernel
theorem dX7_playYears_87 : decode cX7_playYears 87 = .ok (.bipush 24, 2) := by decide +kernel
theorem dX7_playYears_89 : decode cX7_playYears 89 = .ok (.if_icmp .ge 17, 3) := by decide +kernel
theorem dX7_playYears_92 : decode cX7_playYears 92 = .ok (.aload_n 0, 1) := by decide +kernel
theorem dX7_playYears_93 : decode cX7_playYears 93 = .ok (.getfield 23, 3) := by decide +kernel
theorem dX7_playYears_96 : decode cX7_playYears 96 = .ok (.iload 5, 2) := by decide +kernel
theorem dX7_playYears_98 : decode cX7_playYears 98 = .ok (.iload 6, 2) := by decide +kernel
theorem dX7_playYears_100 : decode cX7_playYears 100 = .ok (.iload 7, 2) := by decide +kernel
theorem dX7_playYears_102 : decode cX7_playYears 102 = .ok (.invokevirtual 301, 3) := by decide +kernel
theorem dX7_playYears_105 : decode cX7_playYears 105 = .ok (.pop, 1) := by decide +kernel
theorem dX7_playYears_106 : decode cX7_playYears 106 = .ok (.iload_n 3, 1) := by decide +kernel
theorem dX7_playYears_107 : decode cX7_playYears 107 = .ok (.invokestatic 395, 3) := by decide +kernel
theorem dX7_playYears_110 : decode cX7_playYears 110 = .ok (.istore_n 3, 1) := by decide +kernel
theorem dX7_playYears_111 : decode cX7_playYears 111 = .ok (.aload_n 0, 1) := by decide +kernel
theorem dX7_playYears_112 : decode cX7_playYears 112 = .ok (.getfield 23, 3) := by decide +kernel
theorem dX7_playYears_115 : decode cX7_playYears 115 = .ok (.iload_n 3, 1) := by decide +kernel
theorem dX7_playYears_116 : decode cX7_playYears 116 = .ok (.bipush 8, 2) := by decide +kernel
theorem dX7_playYears_118 : decode cX7_playYears 118 = .ok (.invokestatic 398, 3) := by decide +kernel
theorem dX7_playYears_121 : decode cX7_playYears 121 = .ok (.iconst 1, 1) := by decide +kernel
theorem dX7_playYears_122 : decode cX7_playYears 122 = .ok (.iadd, 1) := by decide +kernel
theorem dX7_playYears_123 : decode cX7_playYears 123 = .ok (.invokevirtual 190, 3) := by decide +kernel
theorem dX7_playYears_126 : decode cX7_playYears 126 = .ok (.iinc 4 1, 3) := by decide +kernel
theorem dX7_playYears_129 : decode cX7_playYears 129 = .ok (.goto (-124), 3) := by decide +kernel
theorem dX7_playYears_132 : decode cX7_playYears 132 = .ok (.return_, 1) := by decide +kernel
set_option maxRecDepth 20000 in
set_option maxHeartbeats 4000000 in
theorem vX7_playYears_0 {l : Launch} {x : CX} {a0 : Nat} {x1 : Int32} {x2 : Int32} {h : PH} {rc rs n0 : Nat} {Q : Option Value → PH → Prop} {X : String → PH → Prop}
    (K : Gm l x mX7_playYears 5 5 [(0, .ref a0), (1, .int x1), (2, .int x2), (3, .int x1), (4, .int 0)] [] h rc rs n0 Q X) :
    Gm l x mX7_playYears 5 0 [(0, .ref a0), (1, .int x1), (2, .int x2)] [] h rc rs n0 Q X := by
  refine g_iload_n dX7_playYears_0 rfl 1 rfl ?_
  refine g_istore_n (lv' := [(0, .ref a0), (1, .int x1), (2, .int x2), (3, .int x1)]) dX7_playYears_1 rfl (by decide) rfl ?_
  refine g_iconst (v := 0) dX7_playYears_2 (by decide) ?_
  refine g_istore (lv' := [(0, .ref a0), (1, .int x1), (2, .int x2), (3, .int x1), (4, .int 0)]) dX7_playYears_3 (by decide) rfl ?_
  exact K
set_option maxRecDepth 20000 in
set_option maxHeartbeats 4000000 in
theorem vX7_playYears_5 {l : Launch} {x : CX} {a0 : Nat} {x1 : Int32} {x2 : Int32} {x3 : Int32} {x4 : Int32} {h : PH} {rc rs n0 : Nat} {Q : Option Value → PH → Prop} {X : String → PH → Prop}
    (K : ((x2 ≤ x4 → Q none h) ∧ (¬ x2 ≤ x4 → ∃ (q2 : Int32 → PH → Prop), CI l x mX7_nextSeed 0 0 0 [.int x3] h q2 ∧ ∀ (r5 : Int32) (h4 : PH), q2 r5 h4 → ((hK h4 a0).1 = 7) ∧ ∃ b7, (hR h4 a0 3 = some b7) ∧ ((hK h4 b7).1 = 1) ∧ ∃ (q10 : Int32 → PH → Prop), CI l x mX7_drawOf 0 0 0 [.int r5, .int (hI h4 b7 0)] h4 q10 ∧ ∀ (r13 : Int32) (h12 : PH), q10 r13 h12 → ∃ (q14 : Int32 → PH → Prop), CI l x mX7_nextSeed 0 0 0 [.int r5] h12 q14 ∧ ∀ (r17 : Int32) (h16 : PH), q14 r17 h16 → ((hK h16 a0).1 = 7) ∧ ∃ b19, (hR h16 a0 3 = some b19) ∧ ((hK h16 b19).1 = 1) ∧ ∃ (q22 : Int32 → PH → Prop), CI l x mX7_drawOf 0 0 0 [.int r17, .int ((hI h16 b19 0) - 1)] h16 q22 ∧ ∀ (r25 : Int32) (h24 : PH), q22 r25 h24 → ∃ (q27 : Int32 → PH → Prop), CI l x mX7_nextSeed 0 0 0 [.int r17] h24 q27 ∧ ∀ (r30 : Int32) (h29 : PH), q27 r30 h29 → ∃ (q31 : Int32 → PH → Prop), CI l x mX7_drawOf 0 0 0 [.int r30, .int 2] h29 q31 ∧ ∀ (r34 : Int32) (h33 : PH), q31 r34 h33 → ((hK h33 a0).1 = 7) ∧ ∃ b37, (hR h33 a0 3 = some b37) ∧ ((hK h33 b37).1 = 1) ∧ ((24 ≤ (hI h33 b37 2) → ∃ (q41 : Int32 → PH → Prop), CI l x mX7_nextSeed 0 0 0 [.int r30] h33 q41 ∧ ∀ (r44 : Int32) (h43 : PH), q41 r44 h43 → ((hK h43 a0).1 = 7) ∧ ∃ b46, (hR h43 a0 3 = some b46) ∧ ∃ (q48 : Int32 → PH → Prop), CI l x mX7_drawOf 0 0 0 [.int r44, .int 8] h43 q48 ∧ ∀ (r51 : Int32) (h50 : PH), q48 r51 h50 → ((hK h50 b46).1 = 1) ∧ ∃ (q52 : PH → Prop), CV l x mX1_pass 4 0 0 [.ref b46, .int (r51 + 1)] h50 q52 ∧ ∀ (h55 : PH), q52 h55 → Gm l x mX7_playYears 5 5 [(0, .ref a0), (1, .int x1), (2, .int x2), (3, .int r44), (4, .int (x4 + 1))] [] h55 rc rs n0 Q X) ∧ (¬ 24 ≤ (hI h33 b37 2) → ∃ (q56 : Int32 → PH → Prop), CI l x mX1_addByHand 2 0 0 [.ref b37, .int r13, .int (if r25 < r13 then r25 else (r25 + 1) : Int32), .int (if r34 = 1 then 2 else 1 : Int32)] h33 q56 ∧ ∀ (r59 : Int32) (h58 : PH), q56 r59 h58 → ∃ (q60 : Int32 → PH → Prop), CI l x mX7_nextSeed 0 0 0 [.int r30] h58 q60 ∧ ∀ (r63 : Int32) (h62 : PH), q60 r63 h62 → ((hK h62 a0).1 = 7) ∧ ∃ b65, (hR h62 a0 3 = some b65) ∧ ∃ (q67 : Int32 → PH → Prop), CI l x mX7_drawOf 0 0 0 [.int r63, .int 8] h62 q67 ∧ ∀ (r70 : Int32) (h69 : PH), q67 r70 h69 → ((hK h69 b65).1 = 1) ∧ ∃ (q71 : PH → Prop), CV l x mX1_pass 4 0 0 [.ref b65, .int (r70 + 1)] h69 q71 ∧ ∀ (h74 : PH), q71 h74 → Gm l x mX7_playYears 5 5 [(0, .ref a0), (1, .int x1), (2, .int x2), (3, .int r63), (4, .int (x4 + 1))] [] h74 rc rs n0 Q X))))) :
    Gm l x mX7_playYears 5 5 [(0, .ref a0), (1, .int x1), (2, .int x2), (3, .int x3), (4, .int x4)] [] h rc rs n0 Q X := by
  refine g_iload dX7_playYears_5 4 rfl ?_
  refine g_iload_n dX7_playYears_7 rfl 2 rfl ?_
  refine g_icmp_ge (tgt := 132) dX7_playYears_8 (by decide) (fun c1 => ?_) (fun c1 => ?_)
  · replace K := K.1 c1
    exact g_vret dX7_playYears_132 rfl K
  · replace K := K.2 c1
    refine g_iload_n dX7_playYears_11 rfl 3 rfl ?_
    obtain ⟨q2, C3, K⟩ := K
    refine g_callS (M' := mX7_nextSeed) (As := [.int x3]) (rest := []) dX7_playYears_12 bw_1156 bw_1157 bw_1 bw_1158 ⟨by decide +kernel, by decide +kernel, show (parseMethodDescriptor mX7_nextSeed.1.desc).map (fun d => d.parameters.length) = some 1 by decide +kernel⟩ (by decide) (by decide) (Nat.le_of_ble_eq_true rfl) C3 (Nat.zero_le _) (Nat.zero_le _) (fun _ _ h => h) ?_
    rintro _ h4 ⟨r5, rfl, K1⟩ -
    replace K := K r5 h4 K1
    show Gm l x mX7_playYears 5 15 [(0, .ref a0), (1, .int x1), (2, .int x2), (3, .int x3), (4, .int x4)] [.int r5] h4 rc rs n0 Q X
    refine g_istore_n (lv' := [(0, .ref a0), (1, .int x1), (2, .int x2), (3, .int r5), (4, .int x4)]) dX7_playYears_15 rfl (by decide) rfl ?_
    refine g_iload_n dX7_playYears_16 rfl 3 rfl ?_
    refine g_aload_n dX7_playYears_17 rfl 0 rfl ?_
    obtain ⟨e6, b7, e8, K⟩ := K
    refine g_get (c := 7) (k := 3) (v := .ref b7) dX7_playYears_18 fc_7 (by decide) (by decide) bw_398 (congrArg pr e8) e6 ?_
    obtain ⟨e9, K⟩ := K
    refine g_get (c := 1) (k := 0) (v := .int (hI h4 b7 0)) dX7_playYears_21 fc_1 (by decide) (by decide) bw_180 rfl e9 ?_
    obtain ⟨q10, C11, K⟩ := K
    refine g_callS (M' := mX7_drawOf) (As := [.int r5, .int (hI h4 b7 0)]) (rest := []) dX7_playYears_24 bw_1160 bw_1161 bw_1 bw_1162 ⟨by decide +kernel, by decide +kernel, show (parseMethodDescriptor mX7_drawOf.1.desc).map (fun d => d.parameters.length) = some 2 by decide +kernel⟩ (by decide) (by decide) (Nat.le_of_ble_eq_true rfl) C11 (Nat.zero_le _) (Nat.zero_le _) (fun _ _ h => h) ?_
    rintro _ h12 ⟨r13, rfl, K1⟩ -
    replace K := K r13 h12 K1
    show Gm l x mX7_playYears 5 27 [(0, .ref a0), (1, .int x1), (2, .int x2), (3, .int r5), (4, .int x4)] [.int r13] h12 rc rs n0 Q X
    refine g_istore (lv' := [(0, .ref a0), (1, .int x1), (2, .int x2), (3, .int r5), (4, .int x4), (5, .int r13)]) dX7_playYears_27 (by decide) rfl ?_
    refine g_iload_n dX7_playYears_29 rfl 3 rfl ?_
    obtain ⟨q14, C15, K⟩ := K
    refine g_callS (M' := mX7_nextSeed) (As := [.int r5]) (rest := []) dX7_playYears_30 bw_1156 bw_1157 bw_1 bw_1158 ⟨by decide +kernel, by decide +kernel, show (parseMethodDescriptor mX7_nextSeed.1.desc).map (fun d => d.parameters.length) = some 1 by decide +kernel⟩ (by decide) (by decide) (Nat.le_of_ble_eq_true rfl) C15 (Nat.zero_le _) (Nat.zero_le _) (fun _ _ h => h) ?_
    rintro _ h16 ⟨r17, rfl, K1⟩ -
    replace K := K r17 h16 K1
    show Gm l x mX7_playYears 5 33 [(0, .ref a0), (1, .int x1), (2, .int x2), (3, .int r5), (4, .int x4), (5, .int r13)] [.int r17] h16 rc rs n0 Q X
    refine g_istore_n (lv' := [(0, .ref a0), (1, .int x1), (2, .int x2), (3, .int r17), (4, .int x4), (5, .int r13)]) dX7_playYears_33 rfl (by decide) rfl ?_
    refine g_iload_n dX7_playYears_34 rfl 3 rfl ?_
    refine g_aload_n dX7_playYears_35 rfl 0 rfl ?_
    obtain ⟨e18, b19, e20, K⟩ := K
    refine g_get (c := 7) (k := 3) (v := .ref b19) dX7_playYears_36 fc_7 (by decide) (by decide) bw_398 (congrArg pr e20) e18 ?_
    obtain ⟨e21, K⟩ := K
    refine g_get (c := 1) (k := 0) (v := .int (hI h16 b19 0)) dX7_playYears_39 fc_1 (by decide) (by decide) bw_180 rfl e21 ?_
    refine g_iconst (v := 1) dX7_playYears_42 (by decide) ?_
    refine g_isub dX7_playYears_43 ?_
    obtain ⟨q22, C23, K⟩ := K
    refine g_callS (M' := mX7_drawOf) (As := [.int r17, .int ((hI h16 b19 0) - 1)]) (rest := []) dX7_playYears_44 bw_1160 bw_1161 bw_1 bw_1162 ⟨by decide +kernel, by decide +kernel, show (parseMethodDescriptor mX7_drawOf.1.desc).map (fun d => d.parameters.length) = some 2 by decide +kernel⟩ (by decide) (by decide) (Nat.le_of_ble_eq_true rfl) C23 (Nat.zero_le _) (Nat.zero_le _) (fun _ _ h => h) ?_
    rintro _ h24 ⟨r25, rfl, K1⟩ -
    replace K := K r25 h24 K1
    show Gm l x mX7_playYears 5 47 [(0, .ref a0), (1, .int x1), (2, .int x2), (3, .int r17), (4, .int x4), (5, .int r13)] [.int r25] h24 rc rs n0 Q X
    refine g_istore (lv' := [(0, .ref a0), (1, .int x1), (2, .int x2), (3, .int r17), (4, .int x4), (5, .int r13), (6, .int r25)]) dX7_playYears_47 (by decide) rfl ?_
    refine g_iload dX7_playYears_49 6 rfl ?_
    refine g_iload dX7_playYears_51 5 rfl ?_
    have KJ : Gm l x mX7_playYears 5 59 [(0, .ref a0), (1, .int x1), (2, .int x2), (3, .int r17), (4, .int x4), (5, .int r13), (6, .int (if r25 < r13 then r25 else (r25 + 1) : Int32))] [] h24 rc rs n0 Q X := by
      refine g_iload_n dX7_playYears_59 rfl 3 rfl ?_
      obtain ⟨q27, C28, K⟩ := K
      refine g_callS (M' := mX7_nextSeed) (As := [.int r17]) (rest := []) dX7_playYears_60 bw_1156 bw_1157 bw_1 bw_1158 ⟨by decide +kernel, by decide +kernel, show (parseMethodDescriptor mX7_nextSeed.1.desc).map (fun d => d.parameters.length) = some 1 by decide +kernel⟩ (by decide) (by decide) (Nat.le_of_ble_eq_true rfl) C28 (Nat.zero_le _) (Nat.zero_le _) (fun _ _ h => h) ?_
      rintro _ h29 ⟨r30, rfl, K1⟩ -
      replace K := K r30 h29 K1
      show Gm l x mX7_playYears 5 63 [(0, .ref a0), (1, .int x1), (2, .int x2), (3, .int r17), (4, .int x4), (5, .int r13), (6, .int (if r25 < r13 then r25 else (r25 + 1) : Int32))] [.int r30] h29 rc rs n0 Q X
      refine g_istore_n (lv' := [(0, .ref a0), (1, .int x1), (2, .int x2), (3, .int r30), (4, .int x4), (5, .int r13), (6, .int (if r25 < r13 then r25 else (r25 + 1) : Int32))]) dX7_playYears_63 rfl (by decide) rfl ?_
      refine g_iload_n dX7_playYears_64 rfl 3 rfl ?_
      refine g_iconst (v := 2) dX7_playYears_65 (by decide) ?_
      obtain ⟨q31, C32, K⟩ := K
      refine g_callS (M' := mX7_drawOf) (As := [.int r30, .int 2]) (rest := []) dX7_playYears_66 bw_1160 bw_1161 bw_1 bw_1162 ⟨by decide +kernel, by decide +kernel, show (parseMethodDescriptor mX7_drawOf.1.desc).map (fun d => d.parameters.length) = some 2 by decide +kernel⟩ (by decide) (by decide) (Nat.le_of_ble_eq_true rfl) C32 (Nat.zero_le _) (Nat.zero_le _) (fun _ _ h => h) ?_
      rintro _ h33 ⟨r34, rfl, K1⟩ -
      replace K := K r34 h33 K1
      show Gm l x mX7_playYears 5 69 [(0, .ref a0), (1, .int x1), (2, .int x2), (3, .int r30), (4, .int x4), (5, .int r13), (6, .int (if r25 < r13 then r25 else (r25 + 1) : Int32))] [.int r34] h33 rc rs n0 Q X
      refine g_iconst (v := 1) dX7_playYears_69 (by decide) ?_
      have KJ : Gm l x mX7_playYears 5 78 [(0, .ref a0), (1, .int x1), (2, .int x2), (3, .int r30), (4, .int x4), (5, .int r13), (6, .int (if r25 < r13 then r25 else (r25 + 1) : Int32))] [.int (if r34 = 1 then 2 else 1 : Int32)] h33 rc rs n0 Q X := by
        refine g_istore (lv' := [(0, .ref a0), (1, .int x1), (2, .int x2), (3, .int r30), (4, .int x4), (5, .int r13), (6, .int (if r25 < r13 then r25 else (r25 + 1) : Int32)), (7, .int (if r34 = 1 then 2 else 1 : Int32))]) dX7_playYears_78 (by decide) rfl ?_
        refine g_aload_n dX7_playYears_80 rfl 0 rfl ?_
        obtain ⟨e36, b37, e38, K⟩ := K
        refine g_get (c := 7) (k := 3) (v := .ref b37) dX7_playYears_81 fc_7 (by decide) (by decide) bw_398 (congrArg pr e38) e36 ?_
        obtain ⟨e39, K⟩ := K
        refine g_get (c := 1) (k := 2) (v := .int (hI h33 b37 2)) dX7_playYears_84 fc_1 (by decide) (by decide) bw_188 rfl e39 ?_
        refine g_bipush (v := 24) dX7_playYears_87 (by decide) ?_
        refine g_icmp_ge (tgt := 106) dX7_playYears_89 (by decide) (fun c40 => ?_) (fun c40 => ?_)
        · replace K := K.1 c40
          refine g_iload_n dX7_playYears_106 rfl 3 rfl ?_
          obtain ⟨q41, C42, K⟩ := K
          refine g_callS (M' := mX7_nextSeed) (As := [.int r30]) (rest := []) dX7_playYears_107 bw_1156 bw_1157 bw_1 bw_1158 ⟨by decide +kernel, by decide +kernel, show (parseMethodDescriptor mX7_nextSeed.1.desc).map (fun d => d.parameters.length) = some 1 by decide +kernel⟩ (by decide) (by decide) (Nat.le_of_ble_eq_true rfl) C42 (Nat.zero_le _) (Nat.zero_le _) (fun _ _ h => h) ?_
          rintro _ h43 ⟨r44, rfl, K1⟩ -
          replace K := K r44 h43 K1
          show Gm l x mX7_playYears 5 110 [(0, .ref a0), (1, .int x1), (2, .int x2), (3, .int r30), (4, .int x4), (5, .int r13), (6, .int (if r25 < r13 then r25 else (r25 + 1) : Int32)), (7, .int (if r34 = 1 then 2 else 1 : Int32))] [.int r44] h43 rc rs n0 Q X
          refine g_istore_n (lv' := [(0, .ref a0), (1, .int x1), (2, .int x2), (3, .int r44), (4, .int x4), (5, .int r13), (6, .int (if r25 < r13 then r25 else (r25 + 1) : Int32)), (7, .int (if r34 = 1 then 2 else 1 : Int32))]) dX7_playYears_110 rfl (by decide) rfl ?_
          refine g_aload_n dX7_playYears_111 rfl 0 rfl ?_
          obtain ⟨e45, b46, e47, K⟩ := K
          refine g_get (c := 7) (k := 3) (v := .ref b46) dX7_playYears_112 fc_7 (by decide) (by decide) bw_398 (congrArg pr e47) e45 ?_
          refine g_iload_n dX7_playYears_115 rfl 3 rfl ?_
          refine g_bipush (v := 8) dX7_playYears_116 (by decide) ?_
          obtain ⟨q48, C49, K⟩ := K
          refine g_callS (M' := mX7_drawOf) (As := [.int r44, .int 8]) (rest := [.ref b46]) dX7_playYears_118 bw_1160 bw_1161 bw_1 bw_1162 ⟨by decide +kernel, by decide +kernel, show (parseMethodDescriptor mX7_drawOf.1.desc).map (fun d => d.parameters.length) = some 2 by decide +kernel⟩ (by decide) (by decide) (Nat.le_of_ble_eq_true rfl) C49 (Nat.zero_le _) (Nat.zero_le _) (fun _ _ h => h) ?_
          rintro _ h50 ⟨r51, rfl, K1⟩ -
          replace K := K r51 h50 K1
          show Gm l x mX7_playYears 5 121 [(0, .ref a0), (1, .int x1), (2, .int x2), (3, .int r44), (4, .int x4), (5, .int r13), (6, .int (if r25 < r13 then r25 else (r25 + 1) : Int32)), (7, .int (if r34 = 1 then 2 else 1 : Int32))] [.int r51, .ref b46] h50 rc rs n0 Q X
          refine g_iconst (v := 1) dX7_playYears_121 (by decide) ?_
          refine g_iadd dX7_playYears_122 ?_
          obtain ⟨e54, K⟩ := K
          obtain ⟨q52, C53, K⟩ := K
          refine g_callV (M' := mX1_pass) (b := b46) (As := [.int (r51 + 1)]) (rest := []) dX7_playYears_123 bw_464 bw_465 bw_466 bw_2 bw_467 ⟨by decide +kernel, by decide +kernel, show (parseMethodDescriptor mX1_pass.1.desc).map (fun d => d.parameters.length) = some 1 by decide +kernel⟩ (by decide) (by decide) (Nat.le_of_ble_eq_true rfl) fc_1 (by decide) rfl e54 C53 (Nat.zero_le _) (Nat.zero_le _) (fun _ _ h => h) ?_
          rintro _ h55 ⟨rfl, K1⟩ -
          replace K := K h55 K1
          show Gm l x mX7_playYears 5 126 [(0, .ref a0), (1, .int x1), (2, .int x2), (3, .int r44), (4, .int x4), (5, .int r13), (6, .int (if r25 < r13 then r25 else (r25 + 1) : Int32)), (7, .int (if r34 = 1 then 2 else 1 : Int32))] [] h55 rc rs n0 Q X
          refine g_iinc (v := (x4 + 1)) (lv' := [(0, .ref a0), (1, .int x1), (2, .int x2), (3, .int r44), (4, .int (x4 + 1)), (5, .int r13), (6, .int (if r25 < r13 then r25 else (r25 + 1) : Int32)), (7, .int (if r34 = 1 then 2 else 1 : Int32))]) dX7_playYears_126 4 rfl (by rfl) (by decide) rfl ?_
          refine g_goto (tgt := 5) dX7_playYears_129 (by decide) ?_
          exact Gm.sub [0, 1, 2, 3, 4] rfl K
        · replace K := K.2 c40
          refine g_aload_n dX7_playYears_92 rfl 0 rfl ?_
          refine g_get (c := 7) (k := 3) (v := .ref b37) dX7_playYears_93 fc_7 (by decide) (by decide) bw_398 (congrArg pr e38) e36 ?_
          refine g_iload dX7_playYears_96 5 rfl ?_
          refine g_iload dX7_playYears_98 6 rfl ?_
          refine g_iload dX7_playYears_100 7 rfl ?_
          obtain ⟨q56, C57, K⟩ := K
          refine g_callV (M' := mX1_addByHand) (b := b37) (As := [.int r13, .int (if r25 < r13 then r25 else (r25 + 1) : Int32), .int (if r34 = 1 then 2 else 1 : Int32)]) (rest := []) dX7_playYears_102 bw_615 bw_616 bw_617 bw_2 bw_618 ⟨by decide +kernel, by decide +kernel, show (parseMethodDescriptor mX1_addByHand.1.desc).map (fun d => d.parameters.length) = some 3 by decide +kernel⟩ (by decide) (by decide) (Nat.le_of_ble_eq_true rfl) fc_1 (by decide) rfl e39 C57 (Nat.zero_le _) (Nat.zero_le _) (fun _ _ h => h) ?_
          rintro _ h58 ⟨r59, rfl, K1⟩ -
          replace K := K r59 h58 K1
          show Gm l x mX7_playYears 5 105 [(0, .ref a0), (1, .int x1), (2, .int x2), (3, .int r30), (4, .int x4), (5, .int r13), (6, .int (if r25 < r13 then r25 else (r25 + 1) : Int32)), (7, .int (if r34 = 1 then 2 else 1 : Int32))] [.int r59] h58 rc rs n0 Q X
          refine g_pop dX7_playYears_105 rfl ?_
          refine g_iload_n dX7_playYears_106 rfl 3 rfl ?_
          obtain ⟨q60, C61, K⟩ := K
          refine g_callS (M' := mX7_nextSeed) (As := [.int r30]) (rest := []) dX7_playYears_107 bw_1156 bw_1157 bw_1 bw_1158 ⟨by decide +kernel, by decide +kernel, show (parseMethodDescriptor mX7_nextSeed.1.desc).map (fun d => d.parameters.length) = some 1 by decide +kernel⟩ (by decide) (by decide) (Nat.le_of_ble_eq_true rfl) C61 (Nat.zero_le _) (Nat.zero_le _) (fun _ _ h => h) ?_
          rintro _ h62 ⟨r63, rfl, K1⟩ -
          replace K := K r63 h62 K1
          show Gm l x mX7_playYears 5 110 [(0, .ref a0), (1, .int x1), (2, .int x2), (3, .int r30), (4, .int x4), (5, .int r13), (6, .int (if r25 < r13 then r25 else (r25 + 1) : Int32)), (7, .int (if r34 = 1 then 2 else 1 : Int32))] [.int r63] h62 rc rs n0 Q X
          refine g_istore_n (lv' := [(0, .ref a0), (1, .int x1), (2, .int x2), (3, .int r63), (4, .int x4), (5, .int r13), (6, .int (if r25 < r13 then r25 else (r25 + 1) : Int32)), (7, .int (if r34 = 1 then 2 else 1 : Int32))]) dX7_playYears_110 rfl (by decide) rfl ?_
          refine g_aload_n dX7_playYears_111 rfl 0 rfl ?_
          obtain ⟨e64, b65, e66, K⟩ := K
          refine g_get (c := 7) (k := 3) (v := .ref b65) dX7_playYears_112 fc_7 (by decide) (by decide) bw_398 (congrArg pr e66) e64 ?_
          refine g_iload_n dX7_playYears_115 rfl 3 rfl ?_
          refine g_bipush (v := 8) dX7_playYears_116 (by decide) ?_
          obtain ⟨q67, C68, K⟩ := K
          refine g_callS (M' := mX7_drawOf) (As := [.int r63, .int 8]) (rest := [.ref b65]) dX7_playYears_118 bw_1160 bw_1161 bw_1 bw_1162 ⟨by decide +kernel, by decide +kernel, show (parseMethodDescriptor mX7_drawOf.1.desc).map (fun d => d.parameters.length) = some 2 by decide +kernel⟩ (by decide) (by decide) (Nat.le_of_ble_eq_true rfl) C68 (Nat.zero_le _) (Nat.zero_le _) (fun _ _ h => h) ?_
          rintro _ h69 ⟨r70, rfl, K1⟩ -
          replace K := K r70 h69 K1
          show Gm l x mX7_playYears 5 121 [(0, .ref a0), (1, .int x1), (2, .int x2), (3, .int r63), (4, .int x4), (5, .int r13), (6, .int (if r25 < r13 then r25 else (r25 + 1) : Int32)), (7, .int (if r34 = 1 then 2 else 1 : Int32))] [.int r70, .ref b65] h69 rc rs n0 Q X
          refine g_iconst (v := 1) dX7_playYears_121 (by decide) ?_
          refine g_iadd dX7_playYears_122 ?_
          obtain ⟨e73, K⟩ := K
          obtain ⟨q71, C72, K⟩ := K
          refine g_callV (M' := mX1_pass) (b := b65) (As := [.int (r70 + 1)]) (rest := []) dX7_playYears_123 bw_464 bw_465 bw_466 bw_2 bw_467 ⟨by decide +kernel, by decide +kernel, show (parseMethodDescriptor mX1_pass.1.desc).map (fun d => d.parameters.length) = some 1 by decide +kernel⟩ (by decide) (by decide) (Nat.le_of_ble_eq_true rfl) fc_1 (by decide) rfl e73 C72 (Nat.zero_le _) (Nat.zero_le _) (fun _ _ h => h) ?_
          rintro _ h74 ⟨rfl, K1⟩ -
          replace K := K h74 K1
          show Gm l x mX7_playYears 5 126 [(0, .ref a0), (1, .int x1), (2, .int x2), (3, .int r63), (4, .int x4), (5, .int r13), (6, .int (if r25 < r13 then r25 else (r25 + 1) : Int32)), (7, .int (if r34 = 1 then 2 else 1 : Int32))] [] h74 rc rs n0 Q X
          refine g_iinc (v := (x4 + 1)) (lv' := [(0, .ref a0), (1, .int x1), (2, .int x2), (3, .int r63), (4, .int (x4 + 1)), (5, .int r13), (6, .int (if r25 < r13 then r25 else (r25 + 1) : Int32)), (7, .int (if r34 = 1 then 2 else 1 : Int32))]) dX7_playYears_126 4 rfl (by rfl) (by decide) rfl ?_
          refine g_goto (tgt := 5) dX7_playYears_129 (by decide) ?_
          exact Gm.sub [0, 1, 2, 3, 4] rfl K
      refine g_icmp_ne (tgt := 77) dX7_playYears_70 (by decide) (fun c35 => ?_) (fun c35 => ?_)
      · refine g_iconst (v := 1) dX7_playYears_77 (by decide) ?_
        first | (simp only [if_neg c35] at KJ; with_reducible exact KJ) | (simp only [if_neg c35, ite_true, ite_false, eq_self] at KJ; with_reducible exact KJ) | (simp only [if_neg c35, reduceIte, eq_self] at KJ; exact KJ) | exact KJ
      · refine g_iconst (v := 2) dX7_playYears_73 (by decide) ?_
        refine g_goto (tgt := 78) dX7_playYears_74 (by decide) ?_
        first | (simp only [if_pos c35] at KJ; with_reducible exact KJ) | (simp only [if_pos c35, ite_true, ite_false, eq_self] at KJ; with_reducible exact KJ) | (simp only [if_pos c35, reduceIte, eq_self] at KJ; exact KJ) | exact KJ
    refine g_icmp_lt (tgt := 59) dX7_playYears_53 (by decide) (fun c26 => ?_) (fun c26 => ?_)
    · first | (simp only [if_pos c26] at KJ; with_reducible exact KJ) | (simp only [if_pos c26, ite_true, ite_false, eq_self] at KJ; with_reducible exact KJ) | (simp only [if_pos c26, reduceIte, eq_self] at KJ; exact KJ) | exact KJ
    · refine g_iinc (v := (r25 + 1)) (lv' := [(0, .ref a0), (1, .int x1), (2, .int x2), (3, .int r17), (4, .int x4), (5, .int r13), (6, .int (r25 + 1))]) dX7_playYears_56 6 rfl (by rfl) (by decide) rfl ?_
      first | (simp only [if_neg c26] at KJ; with_reducible exact KJ) | (simp only [if_neg c26, ite_true, ite_false, eq_self] at KJ; with_reducible exact KJ) | (simp only [if_neg c26, reduceIte, eq_self] at KJ; exact KJ) | exact KJ
theorem dX7_allThatFit_0 : decode cX7_allThatFit 0 = .ok (.lconst 0, 1) := by decide +kernel
theorem dX7_allThatFit_1 : decode cX7_allThatFit 1 = .ok (.lstore_n 1, 1) := by decide +kernel
theorem dX7_allThatFit_2 : decode cX7_allThatFit 2 = .ok (.iconst 0, 1) := by decide +kernel
theorem dX7_allThatFit_3 : decode cX7_allThatFit 3 = .ok (.istore_n 3, 1) := by decide +kernel
theorem dX7_allThatFit_4 : decode cX7_allThatFit 4 = .ok (.iload_n 3, 1) := by decide +kernel
theorem dX7_allThatFit_5 : decode cX7_allThatFit 5 = .ok (.iconst 3, 1) := by decide +kernel
theorem dX7_allThatFit_6 : decode cX7_allThatFit 6 = .ok (.if_icmp .ge 117, 3) := by decide +kernel
theorem dX7_allThatFit_9 : decode cX7_allThatFit 9 = .ok (.iconst 0, 1) := by decide +kernel
theorem dX7_allThatFit_10 : decode cX7_allThatFit 10 = .ok (.istore 4, 2) := by decide +kernel
theorem dX7_allThatFit_12 : decode cX7_allThatFit 12 = .ok (.iload 4, 2) := by decide +kernel
theorem dX7_allThatFit_14 : decode cX7_allThatFit 14 = .ok (.bipush 12, 2) := by decide +kernel
theorem dX7_allThatFit_16 : decode cX7_allThatFit 16 = .ok (.if_icmp .ge 101, 3) := by decide +kernel
theorem dX7_allThatFit_19 : decode cX7_allThatFit 19 = .ok (.aload_n 0, 1) := by decide +kernel
theorem dX7_allThatFit_20 : decode cX7_allThatFit 20 = .ok (.getfield 39, 3) := by decide +kernel
theorem dX7_allThatFit_23 : decode cX7_allThatFit 23 = .ok (.iload_n 3, 1) := by decide +kernel
theorem dX7_allThatFit_24 : decode cX7_allThatFit 24 = .ok (.iload 4, 2) := by decide +kernel
theorem dX7_allThatFit_26 : decode cX7_allThatFit 26 = .ok (.invokevirtual 331, 3) := by decide +kernel
theorem dX7_allThatFit_29 : decode cX7_allThatFit 29 = .ok (.istore 5, 2) := by decide +kernel
theorem dX7_allThatFit_31 : decode cX7_allThatFit 31 = .ok (.iconst 1, 1) := by decide +kernel
theorem dX7_allThatFit_32 : decode cX7_allThatFit 32 = .ok (.istore 6, 2) := by decide +kernel
theorem dX7_allThatFit_34 : decode cX7_allThatFit 34 = .ok (.iconst 0, 1) := by decide +kernel
theorem dX7_allThatFit_35 : decode cX7_allThatFit 35 = .ok (.istore 7, 2) := by decide +kernel
theorem dX7_allThatFit_37 : decode cX7_allThatFit 37 = .ok (.iload 7, 2) := by decide +kernel
theorem dX7_allThatFit_39 : decode cX7_allThatFit 39 = .ok (.aload_n 0, 1) := by decide +kernel
theorem dX7_allThatFit_40 : decode cX7_allThatFit 40 = .ok (.getfield 46, 3) := by decide +kernel
theorem dX7_allThatFit_43 : decode cX7_allThatFit 43 = .ok (.getfield 162, 3) := by decide +kernel
theorem dX7_allThatFit_46 : decode cX7_allThatFit 46 = .ok (.if_icmp .ge 53, 3) := by decide +kernel
theorem dX7_allThatFit_49 : decode cX7_allThatFit 49 = .ok (.iload 6, 2) := by decide +kernel
theorem dX7_allThatFit_51 : decode cX7_allThatFit 51 = .ok (.ifCond .eq 39, 3) := by decide +kernel
theorem dX7_allThatFit_54 : decode cX7_allThatFit 54 = .ok (.aload_n 0, 1) := by decide +kernel
theorem dX7_allThatFit_55 : decode cX7_allThatFit 55 = .ok (.getfield 39, 3) := by decide +kernel
theorem dX7_allThatFit_58 : decode cX7_allThatFit 58 = .ok (.iload 5, 2) := by decide +kernel
theorem dX7_allThatFit_60 : decode cX7_allThatFit 60 = .ok (.aload_n 0, 1) := by decide +kernel
theorem dX7_allThatFit_61 : decode cX7_allThatFit 61 = .ok (.getfield 46, 3) := by decide +kernel
theorem dX7_allThatFit_64 : decode cX7_allThatFit 64 = .ok (.getfield 367, 3) := by decide +kernel
theorem dX7_allThatFit_67 : decode cX7_allThatFit 67 = .ok (.iload 7, 2) := by decide +kernel
theorem dX7_allThatFit_69 : decode cX7_allThatFit 69 = .ok (.iaload, 1) := by decide +kernel
theorem dX7_allThatFit_70 : decode cX7_allThatFit 70 = .ok (.invokevirtual 356, 3) := by decide +kernel
theorem dX7_allThatFit_73 : decode cX7_allThatFit 73 = .ok (.aload_n 0, 1) := by decide +kernel
theorem dX7_allThatFit_74 : decode cX7_allThatFit 74 = .ok (.getfield 46, 3) := by decide +kernel
theorem dX7_allThatFit_77 : decode cX7_allThatFit 77 = .ok (.getfield 370, 3) := by decide +kernel
theorem dX7_allThatFit_80 : decode cX7_allThatFit 80 = .ok (.iload 7, 2) := by decide +kernel
theorem dX7_allThatFit_82 : decode cX7_allThatFit 82 = .ok (.iaload, 1) := by decide +kernel
theorem dX7_allThatFit_83 : decode cX7_allThatFit 83 = .ok (.if_icmp .ne 7, 3) := by decide +kernel
theorem dX7_allThatFit_86 : decode cX7_allThatFit 86 = .ok (.iconst 1, 1) := by decide +kernel
theorem dX7_allThatFit_87 : decode cX7_allThatFit 87 = .ok (.goto 4, 3) := by decide +kernel
theorem dX7_allThatFit_90 : decode cX7_allThatFit 90 = .ok (.iconst 0, 1) := by decide +kernel
theorem dX7_allThatFit_91 : decode cX7_allThatFit 91 = .ok (.istore 6, 2) := by decide +kernel
theorem dX7_allThatFit_93 : decode cX7_allThatFit 93 = .ok (.iinc 7 1, 3) := by decide +kernel
theorem dX7_allThatFit_96 : decode cX7_allThatFit 96 = .ok (.goto (-59), 3) := by decide +kernel
theorem dX7_allThatFit_99 : decode cX7_allThatFit 99 = .ok (.iload 6, 2) := by decide +kernel
theorem dX7_allThatFit_101 : decode cX7_allThatFit 101 = .ok (.ifCond .eq 10, 3) := by decide +kernel
theorem dX7_allThatFit_104 : decode cX7_allThatFit 104 = .ok (.lload_n 1, 1) := by decide +kernel
theorem dX7_allThatFit_105 : decode cX7_allThatFit 105 = .ok (.lconst 1, 1) := by decide +kernel
theorem dX7_allThatFit_106 : decode cX7_allThatFit 106 = .ok (.iload 5, 2) := by decide +kernel
theorem dX7_allThatFit_108 : decode cX7_allThatFit 108 = .ok (.lshl, 1) := by decide +kernel
theorem dX7_allThatFit_109 : decode cX7_allThatFit 109 = .ok (.lor, 1) := by decide +kernel
theorem dX7_allThatFit_110 : decode cX7_allThatFit 110 = .ok (.lstore_n 1, 1) := by decide +kernel
theorem dX7_allThatFit_111 : decode cX7_allThatFit 111 = .ok (.iinc 4 1, 3) := by decide +kernel
theorem dX7_allThatFit_114 : decode cX7_allThatFit 114 = .ok (.goto (-102), 3) := by decide +kernel
theorem dX7_allThatFit_117 : decode cX7_allThatFit 117 = .ok (.iinc 3 1, 3) := by decide +kernel
theorem dX7_allThatFit_120 : decode cX7_allThatFit 120 = .ok (.goto (-116), 3) := by decide +kernel
theorem dX7_allThatFit_123 : decode cX7_allThatFit 123 = .ok (.lload_n 1, 1) := by decide +kernel
theorem dX7_allThatFit_124 : decode cX7_allThatFit 124 = .ok (.lreturn, 1) := by decide +kernel
theorem dX7_image_0 : decode cX7_image 0 = .ok (.aload_n 0, 1) := by decide +kernel
theorem dX7_image_1 : decode cX7_image 1 = .ok (.getfield 50, 3) := by decide +kernel
theorem dX7_image_4 : decode cX7_image 4 = .ok (.ifnonnull 14, 3) := by decide +kernel
theorem dX7_image_7 : decode cX7_image 7 = .ok (.aload_n 0, 1) := by decide +kernel
theorem dX7_image_8 : decode cX7_image 8 = .ok (.new 43, 3) := by decide +kernel
theorem dX7_image_11 : decode cX7_image 11 = .ok (.dup, 1) := by decide +kernel
theorem dX7_image_12 : decode cX7_image 12 = .ok (.invokespecial 45, 3) := by decide +kernel
theorem dX7_image_15 : decode cX7_image 15 = .ok (.putfield 50, 3) := by decide +kernel
theorem dX7_image_18 : decode cX7_image 18 = .ok (.aload_n 0, 1) := by decide +kernel
theorem dX7_image_19 : decode cX7_image 19 = .ok (.getfield 50, 3) := by decide +kernel
theorem dX7_image_22 : decode cX7_image 22 = .ok (.aload_n 0, 1) := by decide +kernel
theorem dX7_image_23 : decode cX7_image 23 = .ok (.getfield 46, 3) := by decide +kernel
theorem dX7_image_26 : decode cX7_image 26 = .ok (.invokevirtual 401, 3) := by decide +kernel
theorem dX7_image_29 : decode cX7_image 29 = .ok (.aload_n 0, 1) := by decide +kernel
theorem dX7_image_30 : decode cX7_image 30 = .ok (.iconst 1, 1) := by decide +kernel
theorem dX7_image_31 : decode cX7_image 31 = .ok (.putfield 53, 3) := by decide +kernel
theorem dX7_image_34 : decode cX7_image 34 = .ok (.return_, 1) := by decide +kernel
set_option maxRecDepth 20000 in
set_option maxHeartbeats 4000000 in
theorem vX7_image_0 {l : Launch} {x : CX} {a0 : Nat} {h : PH} {rc rs n0 : Nat} {Q : Option Value → PH → Prop} {X : String → PH → Prop}
    (K : ((hK h a0).1 = 7) ∧ ((∀ b2, hR h a0 7 = some b2 → ∃ b4, (hR h a0 7 = some b4) ∧ ∃ b6, (hR h a0 6 = some b6) ∧ ((hK h b4).1 = 3) ∧ ∃ (mc10 ms11 : Nat) (q8 : PH → Prop), mc10 ≤ rc ∧ ms11 ≤ rs ∧ CV l x mX3_copyFrom 5 mc10 ms11 [.ref b4, .ref b6] h q8 ∧ ∀ (h13 : PH), q8 h13 → ((hK h13 a0).1 = 7) ∧ Q none (sI h13 a0 8 1)) ∧ (hR h a0 7 = none → (1 ≤ rc) ∧ (6 ≤ rs) ∧ (NestOk x RX7 45 yX3_init "LiftBank") ∧ ∃ (mc21 ms22 : Nat) (q19 : PH → Prop), mc21 ≤ (rc - 1) ∧ ms22 ≤ (rs - 6) ∧ CV l x mX3_init 3 mc21 ms22 [.ref (hN h)] (nw h (3, 0)) q19 ∧ ∀ (h23 : PH), q19 h23 → ((hK h23 a0).1 = 7) ∧ ∃ b25, (hR (sR h23 a0 7 (some (hN h))) a0 7 = some b25) ∧ ∃ b27, (hR (sR h23 a0 7 (some (hN h))) a0 6 = some b27) ∧ ((hK h23 b25).1 = 3) ∧ ∃ (mc31 ms32 : Nat) (q29 : PH → Prop), mc31 ≤ ((rc - 1) - mc21) ∧ ms32 ≤ ((rs - 6) - ms22) ∧ CV l x mX3_copyFrom 5 mc31 ms32 [.ref b25, .ref b27] (sR h23 a0 7 (some (hN h))) q29 ∧ ∀ (h34 : PH), q29 h34 → ((hK h34 a0).1 = 7) ∧ Q none (sI h34 a0 8 1)))) :
    Gm l x mX7_image 6 0 [(0, .ref a0)] [] h rc rs n0 Q X := by
  refine g_aload_n dX7_image_0 rfl 0 rfl ?_
  obtain ⟨e1, K⟩ := K
  cases e3 : hR h a0 7 with
  | some b2 =>
    replace K := K.1 b2 e3
    refine g_get (c := 7) (k := 7) (v := .ref b2) dX7_image_1 fc_7 (by decide) (by decide) bw_402 (congrArg pr e3) e1 ?_
    refine g_ifnonnull (tgt := 18) dX7_image_4 (by decide) ?_
    refine g_aload_n dX7_image_18 rfl 0 rfl ?_
    obtain ⟨b4, e5, K⟩ := K
    refine g_get (c := 7) (k := 7) (v := .ref b4) dX7_image_19 fc_7 (by decide) (by decide) bw_402 (congrArg pr e5) e1 ?_
    refine g_aload_n dX7_image_22 rfl 0 rfl ?_
    obtain ⟨b6, e7, K⟩ := K
    refine g_get (c := 7) (k := 6) (v := .ref b6) dX7_image_23 fc_7 (by decide) (by decide) bw_401 (congrArg pr e7) e1 ?_
    obtain ⟨e12, K⟩ := K
    obtain ⟨mc10, ms11, q8, e15, e16, C9, K⟩ := K
    refine g_callV (M' := mX3_copyFrom) (b := b4) (As := [.ref b6]) (rest := []) dX7_image_26 bw_667 bw_668 bw_669 bw_7 bw_670 ⟨by decide +kernel, by decide +kernel, show (parseMethodDescriptor mX3_copyFrom.1.desc).map (fun d => d.parameters.length) = some 1 by decide +kernel⟩ (by decide) (by decide) (Nat.le_of_ble_eq_true rfl) fc_3 (by decide) rfl e12 C9 e15 e16 (fun _ _ h => h) ?_
    rintro _ h13 ⟨rfl, K1⟩ -
    replace K := K h13 K1
    show Gm l x mX7_image 6 29 [(0, .ref a0)] [] h13 (rc - mc10) (rs - ms11) n0 Q X
    refine g_aload_n dX7_image_29 rfl 0 rfl ?_
    refine g_iconst (v := 1) dX7_image_30 (by decide) ?_
    obtain ⟨e14, K⟩ := K
    refine g_putz (c := 7) (k := 8) dX7_image_31 fc_7 (by decide) (by decide) bw_403 (Or.inl rfl) rfl (by decide) e14 ?_
    exact g_vret dX7_image_34 rfl K
  | none =>
    replace K := K.2 e3
    refine g_get (c := 7) (k := 7) (v := .null) dX7_image_1 fc_7 (by decide) (by decide) bw_402 (congrArg pr e3) e1 ?_
    refine g_ifnonnullN dX7_image_4 ?_
    refine g_aload_n dX7_image_7 rfl 0 rfl ?_
    obtain ⟨e17, e18, K⟩ := K
    refine g_new (c := 3) (rc' := (rc - 1)) (rs' := (rs - 6)) dX7_image_8 fc_3 (by decide) (by decide) bw_343 bw_344 bw_7 (by omega) (show rs - 6 + 6 ≤ rs by omega) ?_
    refine g_dup dX7_image_11 rfl ?_
    obtain ⟨z40, K⟩ := K
    obtain ⟨mc21, ms22, q19, e38, e39, C20, K⟩ := K
    refine g_callIN (M' := mX3_init) (b := (hN h)) (As := []) (rest := [.ref (hN h), .ref a0]) dX7_image_12 z40 bw_346 rfl rfl bw_7 bw_347 ⟨by decide +kernel, by decide +kernel, show (parseMethodDescriptor mX3_init.1.desc).map (fun d => d.parameters.length) = some 0 by decide +kernel⟩ (by decide) (by decide) (Nat.le_of_ble_eq_true rfl) C20 e38 e39 (fun _ _ h => h) ?_
    rintro _ h23 ⟨rfl, K1⟩ -
    replace K := K h23 K1
    show Gm l x mX7_image 6 15 [(0, .ref a0)] [.ref (hN h), .ref a0] h23 ((rc - 1) - mc21) ((rs - 6) - ms22) n0 Q X
    obtain ⟨e24, K⟩ := K
    refine g_putr (c := 7) (k := 7) dX7_image_15 fc_7 (by decide) (by decide) bw_402 (Or.inl rfl) (Or.inl ⟨_, rfl⟩) e24 ?_
    refine g_aload_n dX7_image_18 rfl 0 rfl ?_
    obtain ⟨b25, e26, K⟩ := K
    refine g_get (c := 7) (k := 7) (v := .ref b25) dX7_image_19 fc_7 (by decide) (by decide) bw_402 (congrArg pr e26) (kkR e24) ?_
    refine g_aload_n dX7_image_22 rfl 0 rfl ?_
    obtain ⟨b27, e28, K⟩ := K
    refine g_get (c := 7) (k := 6) (v := .ref b27) dX7_image_23 fc_7 (by decide) (by decide) bw_401 (congrArg pr e28) (kkR e24) ?_
    obtain ⟨e33, K⟩ := K
    obtain ⟨mc31, ms32, q29, e36, e37, C30, K⟩ := K
    refine g_callV (M' := mX3_copyFrom) (b := b25) (As := [.ref b27]) (rest := []) dX7_image_26 bw_667 bw_668 bw_669 bw_7 bw_670 ⟨by decide +kernel, by decide +kernel, show (parseMethodDescriptor mX3_copyFrom.1.desc).map (fun d => d.parameters.length) = some 1 by decide +kernel⟩ (by decide) (by decide) (Nat.le_of_ble_eq_true rfl) fc_3 (by decide) rfl (kkR e33) C30 e36 e37 (fun _ _ h => h) ?_
    rintro _ h34 ⟨rfl, K1⟩ -
    replace K := K h34 K1
    show Gm l x mX7_image 6 29 [(0, .ref a0)] [] h34 (((rc - 1) - mc21) - mc31) (((rs - 6) - ms22) - ms32) n0 Q X
    refine g_aload_n dX7_image_29 rfl 0 rfl ?_
    refine g_iconst (v := 1) dX7_image_30 (by decide) ?_
    obtain ⟨e35, K⟩ := K
    refine g_putz (c := 7) (k := 8) dX7_image_31 fc_7 (by decide) (by decide) bw_403 (Or.inl rfl) rfl (by decide) e35 ?_
    exact g_vret dX7_image_34 rfl K
theorem dX7_restore_0 : decode cX7_restore 0 = .ok (.aload_n 0, 1) := by decide +kernel
theorem dX7_restore_1 : decode cX7_restore 1 = .ok (.getfield 53, 3) := by decide +kernel
theorem dX7_restore_4 : decode cX7_restore 4 = .ok (.ifCond .eq 10, 3) := by decide +kernel
theorem dX7_restore_7 : decode cX7_restore 7 = .ok (.aload_n 0, 1) := by decide +kernel
theorem dX7_restore_8 : decode cX7_restore 8 = .ok (.getfield 50, 3) := by decide +kernel
theorem dX7_restore_11 : decode cX7_restore 11 = .ok (.ifnonnull 5, 3) := by decide +kernel
theorem dX7_restore_14 : decode cX7_restore 14 = .ok (.iconst 0, 1) := by decide +kernel
theorem dX7_restore_15 : decode cX7_restore 15 = .ok (.ireturn, 1) := by decide +kernel
theorem dX7_restore_16 : decode cX7_restore 16 = .ok (.aload_n 0, 1) := by decide +kernel
theorem dX7_restore_17 : decode cX7_restore 17 = .ok (.getfield 46, 3) := by decide +kernel
theorem dX7_restore_20 : decode cX7_restore 20 = .ok (.aload_n 0, 1) := by decide +kernel
theorem dX7_restore_21 : decode cX7_restore 21 = .ok (.getfield 50, 3) := by decide +kernel
theorem dX7_restore_24 : decode cX7_restore 24 = .ok (.invokevirtual 401, 3) := by decide +kernel
theorem dX7_restore_27 : decode cX7_restore 27 = .ok (.iconst 1, 1) := by decide +kernel
theorem dX7_restore_28 : decode cX7_restore 28 = .ok (.ireturn, 1) := by decide +kernel
set_option maxRecDepth 20000 in
set_option maxHeartbeats 4000000 in
theorem vX7_restore_0 {l : Launch} {x : CX} {a0 : Nat} {h : PH} {rc rs n0 : Nat} {Q : Option Value → PH → Prop} {X : String → PH → Prop}
    (K : ((hK h a0).1 = 7) ∧ (((hI h a0 8) = 0 → ((0 : Int32) = 0 ∨ (0 : Int32) = 1) ∧ Q (some (.int 0)) h) ∧ (¬ (hI h a0 8) = 0 → ((∀ b3, hR h a0 7 = some b3 → ∃ b5, (hR h a0 6 = some b5) ∧ ∃ b7, (hR h a0 7 = some b7) ∧ ((hK h b5).1 = 3) ∧ ∃ (mc11 ms12 : Nat) (q9 : PH → Prop), mc11 ≤ rc ∧ ms12 ≤ rs ∧ CV l x mX3_copyFrom 5 mc11 ms12 [.ref b5, .ref b7] h q9 ∧ ∀ (h14 : PH), q9 h14 → ((1 : Int32) = 0 ∨ (1 : Int32) = 1) ∧ Q (some (.int 1)) h14) ∧ (hR h a0 7 = none → ((0 : Int32) = 0 ∨ (0 : Int32) = 1) ∧ Q (some (.int 0)) h))))) :
    Gm l x mX7_restore 6 0 [(0, .ref a0)] [] h rc rs n0 Q X := by
  refine g_aload_n dX7_restore_0 rfl 0 rfl ?_
  obtain ⟨e1, K⟩ := K
  refine g_get (c := 7) (k := 8) (v := .int (hI h a0 8)) dX7_restore_1 fc_7 (by decide) (by decide) bw_403 rfl e1 ?_
  refine g_if_eq (tgt := 14) dX7_restore_4 (by decide) (fun c2 => ?_) (fun c2 => ?_)
  · replace K := K.1 c2
    refine g_iconst (v := 0) dX7_restore_14 (by decide) ?_
    exact g_zret dX7_restore_15 rfl K.1 K.2
  · replace K := K.2 c2
    refine g_aload_n dX7_restore_7 rfl 0 rfl ?_
    cases e4 : hR h a0 7 with
    | some b3 =>
      replace K := K.1 b3 e4
      refine g_get (c := 7) (k := 7) (v := .ref b3) dX7_restore_8 fc_7 (by decide) (by decide) bw_402 (congrArg pr e4) e1 ?_
      refine g_ifnonnull (tgt := 16) dX7_restore_11 (by decide) ?_
      refine g_aload_n dX7_restore_16 rfl 0 rfl ?_
      obtain ⟨b5, e6, K⟩ := K
      refine g_get (c := 7) (k := 6) (v := .ref b5) dX7_restore_17 fc_7 (by decide) (by decide) bw_401 (congrArg pr e6) e1 ?_
      refine g_aload_n dX7_restore_20 rfl 0 rfl ?_
      obtain ⟨b7, e8, K⟩ := K
      refine g_get (c := 7) (k := 7) (v := .ref b7) dX7_restore_21 fc_7 (by decide) (by decide) bw_402 (congrArg pr e8) e1 ?_
      obtain ⟨e13, K⟩ := K
      obtain ⟨mc11, ms12, q9, e15, e16, C10, K⟩ := K
      refine g_callV (M' := mX3_copyFrom) (b := b5) (As := [.ref b7]) (rest := []) dX7_restore_24 bw_667 bw_668 bw_669 bw_7 bw_670 ⟨by decide +kernel, by decide +kernel, show (parseMethodDescriptor mX3_copyFrom.1.desc).map (fun d => d.parameters.length) = some 1 by decide +kernel⟩ (by decide) (by decide) (Nat.le_of_ble_eq_true rfl) fc_3 (by decide) rfl e13 C10 e15 e16 (fun _ _ h => h) ?_
      rintro _ h14 ⟨rfl, K1⟩ -
      replace K := K h14 K1
      show Gm l x mX7_restore 6 27 [(0, .ref a0)] [] h14 (rc - mc11) (rs - ms12) n0 Q X
      refine g_iconst (v := 1) dX7_restore_27 (by decide) ?_
      exact g_zret dX7_restore_28 rfl K.1 K.2
    | none =>
      replace K := K.2 e4
      refine g_get (c := 7) (k := 7) (v := .null) dX7_restore_8 fc_7 (by decide) (by decide) bw_402 (congrArg pr e4) e1 ?_
      refine g_ifnonnullN dX7_restore_11 ?_
      refine g_iconst (v := 0) dX7_restore_14 (by decide) ?_
      exact g_zret dX7_restore_15 rfl K.1 K.2
theorem dX7_count_0 : decode cX7_count 0 = .ok (.aload_n 0, 1) := by decide +kernel
theorem dX7_count_1 : decode cX7_count 1 = .ok (.getfield 46, 3) := by decide +kernel
theorem dX7_count_4 : decode cX7_count 4 = .ok (.getfield 84, 3) := by decide +kernel
theorem dX7_count_7 : decode cX7_count 7 = .ok (.astore_n 2, 1) := by decide +kernel
theorem dX7_count_8 : decode cX7_count 8 = .ok (.iload_n 1, 1) := by decide +kernel
theorem dX7_count_9 : decode cX7_count 9 = .ok (.tableswitch 367 0 29 #[135, 140, 145, 150, 155, 160, 165, 170, 175, 188, 194, 200, 205, 213, 218, 223, 236, 241, 253, 269, 285, 296, 304, 309, 319, 329, 339, 344, 356, 362], 135) := by decide +kernel
theorem dX7_count_144 : decode cX7_count 144 = .ok (.aload_n 2, 1) := by decide +kernel
theorem dX7_count_145 : decode cX7_count 145 = .ok (.getfield 87, 3) := by decide +kernel
theorem dX7_count_148 : decode cX7_count 148 = .ok (.ireturn, 1) := by decide +kernel
theorem dX7_count_149 : decode cX7_count 149 = .ok (.aload_n 2, 1) := by decide +kernel
theorem dX7_count_150 : decode cX7_count 150 = .ok (.getfield 90, 3) := by decide +kernel
theorem dX7_count_153 : decode cX7_count 153 = .ok (.ireturn, 1) := by decide +kernel
theorem dX7_count_154 : decode cX7_count 154 = .ok (.aload_n 2, 1) := by decide +kernel
theorem dX7_count_155 : decode cX7_count 155 = .ok (.getfield 93, 3) := by decide +kernel
theorem dX7_count_158 : decode cX7_count 158 = .ok (.ireturn, 1) := by decide +kernel
theorem dX7_count_159 : decode cX7_count 159 = .ok (.aload_n 2, 1) := by decide +kernel
theorem dX7_count_160 : decode cX7_count 160 = .ok (.getfield 96, 3) := by decide +kernel
theorem dX7_count_163 : decode cX7_count 163 = .ok (.ireturn, 1) := by decide +kernel
theorem dX7_count_164 : decode cX7_count 164 = .ok (.aload_n 2, 1) := by decide +kernel
theorem dX7_count_165 : decode cX7_count 165 = .ok (.getfield 99, 3) := by decide +kernel
theorem dX7_count_168 : decode cX7_count 168 = .ok (.ireturn, 1) := by decide +kernel
theorem dX7_count_169 : decode cX7_count 169 = .ok (.aload_n 2, 1) := by decide +kernel
theorem dX7_count_170 : decode cX7_count 170 = .ok (.getfield 102, 3) := by decide +kernel
theorem dX7_count_173 : decode cX7_count 173 = .ok (.ireturn, 1) := by decide +kernel
theorem dX7_count_174 : decode cX7_count 174 = .ok (.aload_n 2, 1) := by decide +kernel
theorem dX7_count_175 : decode cX7_count 175 = .ok (.getfield 105, 3) := by decide +kernel
theorem dX7_count_178 : decode cX7_count 178 = .ok (.ireturn, 1) := by decide +kernel
theorem dX7_count_179 : decode cX7_count 179 = .ok (.aload_n 2, 1) := by decide +kernel
theorem dX7_count_180 : decode cX7_count 180 = .ok (.getfield 108, 3) := by decide +kernel
theorem dX7_count_183 : decode cX7_count 183 = .ok (.ireturn, 1) := by decide +kernel
theorem dX7_count_184 : decode cX7_count 184 = .ok (.aload_n 2, 1) := by decide +kernel
theorem dX7_count_185 : decode cX7_count 185 = .ok (.getfield 111, 3) := by decide +kernel
theorem dX7_count_188 : decode cX7_count 188 = .ok (.ifCond .eq 7, 3) := by decide +kernel
theorem dX7_count_191 : decode cX7_count 191 = .ok (.iconst 1, 1) := by decide +kernel
theorem dX7_count_192 : decode cX7_count 192 = .ok (.goto 4, 3) := by decide +kernel
theorem dX7_count_195 : decode cX7_count 195 = .ok (.iconst 0, 1) := by decide +kernel
theorem dX7_count_196 : decode cX7_count 196 = .ok (.ireturn, 1) := by decide +kernel
theorem dX7_count_197 : decode cX7_count 197 = .ok (.aload_n 2, 1) := by decide +kernel
theorem dX7_count_198 : decode cX7_count 198 = .ok (.iconst 1, 1) := by decide +kernel
theorem dX7_count_199 : decode cX7_count 199 = .ok (.invokevirtual 114, 3) := by decide +kernel
theorem dX7_count_202 : decode cX7_count 202 = .ok (.ireturn, 1) := by decide +kernel
theorem dX7_count_203 : decode cX7_count 203 = .ok (.aload_n 2, 1) := by decide +kernel
theorem dX7_count_204 : decode cX7_count 204 = .ok (.iconst 2, 1) := by decide +kernel
theorem dX7_count_205 : decode cX7_count 205 = .ok (.invokevirtual 114, 3) := by decide +kernel
theorem dX7_count_208 : decode cX7_count 208 = .ok (.ireturn, 1) := by decide +kernel
theorem dX7_count_209 : decode cX7_count 209 = .ok (.aload_n 2, 1) := by decide +kernel
theorem dX7_count_210 : decode cX7_count 210 = .ok (.getfield 117, 3) := by decide +kernel
theorem dX7_count_213 : decode cX7_count 213 = .ok (.ireturn, 1) := by decide +kernel
theorem dX7_count_214 : decode cX7_count 214 = .ok (.aload_n 2, 1) := by decide +kernel
theorem dX7_count_215 : decode cX7_count 215 = .ok (.invokevirtual 120, 3) := by decide +kernel
theorem dX7_count_218 : decode cX7_count 218 = .ok (.invokestatic 124, 3) := by decide +kernel
theorem dX7_count_221 : decode cX7_count 221 = .ok (.ireturn, 1) := by decide +kernel
theorem dX7_count_222 : decode cX7_count 222 = .ok (.aload_n 2, 1) := by decide +kernel
theorem dX7_count_223 : decode cX7_count 223 = .ok (.invokevirtual 130, 3) := by decide +kernel
theorem dX7_count_226 : decode cX7_count 226 = .ok (.ireturn, 1) := by decide +kernel
theorem dX7_count_227 : decode cX7_count 227 = .ok (.aload_n 2, 1) := by decide +kernel
theorem dX7_count_228 : decode cX7_count 228 = .ok (.invokevirtual 134, 3) := by decide +kernel
theorem dX7_count_231 : decode cX7_count 231 = .ok (.ireturn, 1) := by decide +kernel
theorem dX7_count_232 : decode cX7_count 232 = .ok (.aload_n 2, 1) := by decide +kernel
theorem dX7_count_233 : decode cX7_count 233 = .ok (.getfield 137, 3) := by decide +kernel
theorem dX7_count_236 : decode cX7_count 236 = .ok (.ifCond .eq 7, 3) := by decide +kernel
theorem dX7_count_239 : decode cX7_count 239 = .ok (.iconst 1, 1) := by decide +kernel
theorem dX7_count_240 : decode cX7_count 240 = .ok (.goto 4, 3) := by decide +kernel
theorem dX7_count_243 : decode cX7_count 243 = .ok (.iconst 0, 1) := by decide +kernel
theorem dX7_count_244 : decode cX7_count 244 = .ok (.ireturn, 1) := by decide +kernel
theorem dX7_count_245 : decode cX7_count 245 = .ok (.aload_n 2, 1) := by decide +kernel
theorem dX7_count_246 : decode cX7_count 246 = .ok (.invokevirtual 140, 3) := by decide +kernel
theorem dX7_count_249 : decode cX7_count 249 = .ok (.ireturn, 1) := by decide +kernel
theorem dX7_count_250 : decode cX7_count 250 = .ok (.aload_n 0, 1) := by decide +kernel
theorem dX7_count_251 : decode cX7_count 251 = .ok (.getfield 39, 3) := by decide +kernel
theorem dX7_count_254 : decode cX7_count 254 = .ok (.aload_n 2, 1) := by decide +kernel
theorem dX7_count_255 : decode cX7_count 255 = .ok (.getfield 99, 3) := by decide +kernel
theorem dX7_count_258 : decode cX7_count 258 = .ok (.invokevirtual 143, 3) := by decide +kernel
theorem dX7_count_261 : decode cX7_count 261 = .ok (.ireturn, 1) := by decide +kernel
theorem dX7_count_262 : decode cX7_count 262 = .ok (.aload_n 0, 1) := by decide +kernel
theorem dX7_count_263 : decode cX7_count 263 = .ok (.getfield 39, 3) := by decide +kernel
theorem dX7_count_266 : decode cX7_count 266 = .ok (.aload_n 2, 1) := by decide +kernel
theorem dX7_count_267 : decode cX7_count 267 = .ok (.getfield 102, 3) := by decide +kernel
theorem dX7_count_270 : decode cX7_count 270 = .ok (.aload_n 2, 1) := by decide +kernel
theorem dX7_count_271 : decode cX7_count 271 = .ok (.getfield 99, 3) := by decide +kernel
theorem dX7_count_274 : decode cX7_count 274 = .ok (.invokevirtual 146, 3) := by decide +kernel
theorem dX7_count_277 : decode cX7_count 277 = .ok (.ireturn, 1) := by decide +kernel
theorem dX7_count_278 : decode cX7_count 278 = .ok (.aload_n 0, 1) := by decide +kernel
theorem dX7_count_279 : decode cX7_count 279 = .ok (.getfield 39, 3) := by decide +kernel
theorem dX7_count_282 : decode cX7_count 282 = .ok (.aload_n 2, 1) := by decide +kernel
theorem dX7_count_283 : decode cX7_count 283 = .ok (.getfield 102, 3) := by decide +kernel
theorem dX7_count_286 : decode cX7_count 286 = .ok (.aload_n 2, 1) := by decide +kernel
theorem dX7_count_287 : decode cX7_count 287 = .ok (.getfield 99, 3) := by decide +kernel
theorem dX7_count_290 : decode cX7_count 290 = .ok (.invokevirtual 150, 3) := by decide +kernel
theorem dX7_count_293 : decode cX7_count 293 = .ok (.ireturn, 1) := by decide +kernel
theorem dX7_count_294 : decode cX7_count 294 = .ok (.aload_n 0, 1) := by decide +kernel
theorem dX7_count_295 : decode cX7_count 295 = .ok (.getfield 46, 3) := by decide +kernel
theorem dX7_count_298 : decode cX7_count 298 = .ok (.getfield 153, 3) := by decide +kernel
theorem dX7_count_301 : decode cX7_count 301 = .ok (.getfield 157, 3) := by decide +kernel
theorem dX7_count_304 : decode cX7_count 304 = .ok (.ireturn, 1) := by decide +kernel
theorem dX7_count_305 : decode cX7_count 305 = .ok (.aload_n 0, 1) := by decide +kernel
theorem dX7_count_306 : decode cX7_count 306 = .ok (.getfield 46, 3) := by decide +kernel
theorem dX7_count_309 : decode cX7_count 309 = .ok (.getfield 162, 3) := by decide +kernel
theorem dX7_count_312 : decode cX7_count 312 = .ok (.ireturn, 1) := by decide +kernel
theorem dX7_count_313 : decode cX7_count 313 = .ok (.aload_n 0, 1) := by decide +kernel
theorem dX7_count_314 : decode cX7_count 314 = .ok (.getfield 13, 3) := by decide +kernel
theorem dX7_count_317 : decode cX7_count 317 = .ok (.ireturn, 1) := by decide +kernel
theorem dX7_count_318 : decode cX7_count 318 = .ok (.aload_n 0, 1) := by decide +kernel
theorem dX7_count_319 : decode cX7_count 319 = .ok (.getfield 46, 3) := by decide +kernel
theorem dX7_count_322 : decode cX7_count 322 = .ok (.getfield 75, 3) := by decide +kernel
theorem dX7_count_325 : decode cX7_count 325 = .ok (.iconst 0, 1) := by decide +kernel
theorem dX7_count_326 : decode cX7_count 326 = .ok (.iaload, 1) := by decide +kernel
theorem dX7_count_327 : decode cX7_count 327 = .ok (.ireturn, 1) := by decide +kernel
theorem dX7_count_328 : decode cX7_count 328 = .ok (.aload_n 0, 1) := by decide +kernel
theorem dX7_count_329 : decode cX7_count 329 = .ok (.getfield 46, 3) := by decide +kernel
theorem dX7_count_332 : decode cX7_count 332 = .ok (.getfield 75, 3) := by decide +kernel
theorem dX7_count_335 : decode cX7_count 335 = .ok (.iconst 1, 1) := by decide +kernel
theorem dX7_count_336 : decode cX7_count 336 = .ok (.iaload, 1) := by decide +kernel
theorem dX7_count_337 : decode cX7_count 337 = .ok (.ireturn, 1) := by decide +kernel
theorem dX7_count_338 : decode cX7_count 338 = .ok (.aload_n 0, 1) := by decide +kernel
theorem dX7_count_339 : decode cX7_count 339 = .ok (.getfield 46, 3) := by decide +kernel
theorem dX7_count_342 : decode cX7_count 342 = .ok (.getfield 75, 3) := by decide +kernel
theorem dX7_count_345 : decode cX7_count 345 = .ok (.iconst 2, 1) := by decide +kernel
theorem dX7_count_346 : decode cX7_count 346 = .ok (.iaload, 1) := by decide +kernel
theorem dX7_count_347 : decode cX7_count 347 = .ok (.ireturn, 1) := by decide +kernel
theorem dX7_count_348 : decode cX7_count 348 = .ok (.aload_n 2, 1) := by decide +kernel
theorem dX7_count_349 : decode cX7_count 349 = .ok (.invokevirtual 165, 3) := by decide +kernel
theorem dX7_count_352 : decode cX7_count 352 = .ok (.ireturn, 1) := by decide +kernel
theorem dX7_count_353 : decode cX7_count 353 = .ok (.aload_n 0, 1) := by decide +kernel
theorem dX7_count_354 : decode cX7_count 354 = .ok (.getfield 39, 3) := by decide +kernel
theorem dX7_count_357 : decode cX7_count 357 = .ok (.aload_n 2, 1) := by decide +kernel
theorem dX7_count_358 : decode cX7_count 358 = .ok (.getfield 99, 3) := by decide +kernel
theorem dX7_count_361 : decode cX7_count 361 = .ok (.invokevirtual 168, 3) := by decide +kernel
theorem dX7_count_364 : decode cX7_count 364 = .ok (.ireturn, 1) := by decide +kernel
theorem dX7_count_365 : decode cX7_count 365 = .ok (.aload_n 2, 1) := by decide +kernel
theorem dX7_count_366 : decode cX7_count 366 = .ok (.invokevirtual 171, 3) := by decide +kernel
theorem dX7_count_369 : decode cX7_count 369 = .ok (.f2i, 1) := by decide +kernel
theorem dX7_count_370 : decode cX7_count 370 = .ok (.ireturn, 1) := by decide +kernel
theorem dX7_count_371 : decode cX7_count 371 = .ok (.aload_n 0, 1) := by decide +kernel
theorem dX7_count_372 : decode cX7_count 372 = .ok (.invokevirtual 175, 3) := by decide +kernel
theorem dX7_count_375 : decode cX7_count 375 = .ok (.ireturn, 1) := by decide +kernel
theorem dX7_count_376 : decode cX7_count 376 = .ok (.new 178, 3) := by decide +kernel
theorem dX7_count_379 : decode cX7_count 379 = .ok (.dup, 1) := by decide +kernel
theorem dX7_count_380 : decode cX7_count 380 = .ok (.ldc 180, 2) := by decide +kernel
theorem dX7_count_382 : decode cX7_count 382 = .ok (.invokespecial 182, 3) := by decide +kernel
theorem dX7_count_385 : decode cX7_count 385 = .ok (.athrow, 1) := by decide +kernel
theorem dX7_car_0 : decode cX7_car 0 = .ok (.aload_n 0, 1) := by decide +kernel
theorem dX7_car_1 : decode cX7_car 1 = .ok (.getfield 46, 3) := by decide +kernel
theorem dX7_car_4 : decode cX7_car 4 = .ok (.getfield 84, 3) := by decide +kernel
theorem dX7_car_7 : decode cX7_car 7 = .ok (.astore_n 3, 1) := by decide +kernel
theorem dX7_car_8 : decode cX7_car 8 = .ok (.iload_n 1, 1) := by decide +kernel
theorem dX7_car_9 : decode cX7_car 9 = .ok (.ifCond .lt 11, 3) := by decide +kernel
theorem dX7_car_12 : decode cX7_car 12 = .ok (.iload_n 1, 1) := by decide +kernel
theorem dX7_car_13 : decode cX7_car 13 = .ok (.aload_n 3, 1) := by decide +kernel
theorem dX7_car_14 : decode cX7_car 14 = .ok (.getfield 90, 3) := by decide +kernel
theorem dX7_car_17 : decode cX7_car 17 = .ok (.if_icmp .lt 13, 3) := by decide +kernel
theorem dX7_car_20 : decode cX7_car 20 = .ok (.new 178, 3) := by decide +kernel
theorem dX7_car_23 : decode cX7_car 23 = .ok (.dup, 1) := by decide +kernel
theorem dX7_car_24 : decode cX7_car 24 = .ok (.ldc 193, 2) := by decide +kernel
theorem dX7_car_26 : decode cX7_car 26 = .ok (.invokespecial 182, 3) := by decide +kernel
theorem dX7_car_29 : decode cX7_car 29 = .ok (.athrow, 1) := by decide +kernel
theorem dX7_car_30 : decode cX7_car 30 = .ok (.aload_n 3, 1) := by decide +kernel
theorem dX7_car_31 : decode cX7_car 31 = .ok (.getfield 195, 3) := by decide +kernel
theorem dX7_car_34 : decode cX7_car 34 = .ok (.iload_n 1, 1) := by decide +kernel
theorem dX7_car_35 : decode cX7_car 35 = .ok (.aaload, 1) := by decide +kernel
theorem dX7_car_36 : decode cX7_car 36 = .ok (.astore 4, 2) := by decide +kernel
theorem dX7_car_38 : decode cX7_car 38 = .ok (.iload_n 2, 1) := by decide +kernel
theorem dX7_car_39 : decode cX7_car 39 = .ok (.tableswitch 128 0 9 #[53, 59, 65, 71, 77, 83, 89, 95, 109, 119], 53) := by decide +kernel
theorem dX7_car_92 : decode cX7_car 92 = .ok (.aload 4, 2) := by decide +kernel
theorem dX7_car_94 : decode cX7_car 94 = .ok (.getfield 199, 3) := by decide +kernel
theorem dX7_car_97 : decode cX7_car 97 = .ok (.ireturn, 1) := by decide +kernel
theorem dX7_car_98 : decode cX7_car 98 = .ok (.aload 4, 2) := by decide +kernel
theorem dX7_car_100 : decode cX7_car 100 = .ok (.getfield 204, 3) := by decide +kernel
theorem dX7_car_103 : decode cX7_car 103 = .ok (.ireturn, 1) := by decide +kernel
theorem dX7_car_104 : decode cX7_car 104 = .ok (.aload 4, 2) := by decide +kernel
theorem dX7_car_106 : decode cX7_car 106 = .ok (.getfield 207, 3) := by decide +kernel
theorem dX7_car_109 : decode cX7_car 109 = .ok (.ireturn, 1) := by decide +kernel
theorem dX7_car_110 : decode cX7_car 110 = .ok (.aload 4, 2) := by decide +kernel
theorem dX7_car_112 : decode cX7_car 112 = .ok (.getfield 210, 3) := by decide +kernel
theorem dX7_car_115 : decode cX7_car 115 = .ok (.ireturn, 1) := by decide +kernel
theorem dX7_car_116 : decode cX7_car 116 = .ok (.aload 4, 2) := by decide +kernel
theorem dX7_car_118 : decode cX7_car 118 = .ok (.getfield 213, 3) := by decide +kernel
theorem dX7_car_121 : decode cX7_car 121 = .ok (.ireturn, 1) := by decide +kernel
theorem dX7_car_122 : decode cX7_car 122 = .ok (.aload 4, 2) := by decide +kernel
theorem dX7_car_124 : decode cX7_car 124 = .ok (.getfield 216, 3) := by decide +kernel
theorem dX7_car_127 : decode cX7_car 127 = .ok (.ireturn, 1) := by decide +kernel
theorem dX7_car_128 : decode cX7_car 128 = .ok (.aload 4, 2) := by decide +kernel
theorem dX7_car_130 : decode cX7_car 130 = .ok (.getfield 219, 3) := by decide +kernel
theorem dX7_car_133 : decode cX7_car 133 = .ok (.ireturn, 1) := by decide +kernel
theorem dX7_car_134 : decode cX7_car 134 = .ok (.aload 4, 2) := by decide +kernel
theorem dX7_car_136 : decode cX7_car 136 = .ok (.getfield 222, 3) := by decide +kernel
theorem dX7_car_139 : decode cX7_car 139 = .ok (.ifCond .eq 7, 3) := by decide +kernel
theorem dX7_car_142 : decode cX7_car 142 = .ok (.iconst 1, 1) := by decide +kernel
theorem dX7_car_143 : decode cX7_car 143 = .ok (.goto 4, 3) := by decide +kernel
theorem dX7_car_146 : decode cX7_car 146 = .ok (.iconst 0, 1) := by decide +kernel
theorem dX7_car_147 : decode cX7_car 147 = .ok (.ireturn, 1) := by decide +kernel
theorem dX7_car_148 : decode cX7_car 148 = .ok (.aload 4, 2) := by decide +kernel
theorem dX7_car_150 : decode cX7_car 150 = .ok (.aload_n 3, 1) := by decide +kernel
theorem dX7_car_151 : decode cX7_car 151 = .ok (.getfield 87, 3) := by decide +kernel
theorem dX7_car_154 : decode cX7_car 154 = .ok (.invokevirtual 225, 3) := by decide +kernel
theorem dX7_car_157 : decode cX7_car 157 = .ok (.ireturn, 1) := by decide +kernel
theorem dX7_car_158 : decode cX7_car 158 = .ok (.aload 4, 2) := by decide +kernel
theorem dX7_car_160 : decode cX7_car 160 = .ok (.getfield 228, 3) := by decide +kernel
theorem dX7_car_163 : decode cX7_car 163 = .ok (.invokestatic 232, 3) := by decide +kernel
theorem dX7_car_166 : decode cX7_car 166 = .ok (.ireturn, 1) := by decide +kernel
theorem dX7_car_167 : decode cX7_car 167 = .ok (.new 178, 3) := by decide +kernel
theorem dX7_car_170 : decode cX7_car 170 = .ok (.dup, 1) := by decide +kernel
theorem dX7_car_171 : decode cX7_car 171 = .ok (.ldc 236, 2) := by decide +kernel
theorem dX7_car_173 : decode cX7_car 173 = .ok (.invokespecial 182, 3) := by decide +kernel
theorem dX7_car_176 : decode cX7_car 176 = .ok (.athrow, 1) := by decide +kernel
theorem dX7_rider_0 : decode cX7_rider 0 = .ok (.aload_n 0, 1) := by decide +kernel
theorem dX7_rider_1 : decode cX7_rider 1 = .ok (.getfield 46, 3) := by decide +kernel
theorem dX7_rider_4 : decode cX7_rider 4 = .ok (.getfield 84, 3) := by decide +kernel
theorem dX7_rider_7 : decode cX7_rider 7 = .ok (.astore_n 3, 1) := by decide +kernel
theorem dX7_rider_8 : decode cX7_rider 8 = .ok (.iload_n 1, 1) := by decide +kernel
theorem dX7_rider_9 : decode cX7_rider 9 = .ok (.ifCond .lt 11, 3) := by decide +kernel
theorem dX7_rider_12 : decode cX7_rider 12 = .ok (.iload_n 1, 1) := by decide +kernel
theorem dX7_rider_13 : decode cX7_rider 13 = .ok (.aload_n 3, 1) := by decide +kernel
theorem dX7_rider_14 : decode cX7_rider 14 = .ok (.getfield 93, 3) := by decide +kernel
theorem dX7_rider_17 : decode cX7_rider 17 = .ok (.if_icmp .lt 13, 3) := by decide +kernel
theorem dX7_rider_20 : decode cX7_rider 20 = .ok (.new 178, 3) := by decide +kernel
theorem dX7_rider_23 : decode cX7_rider 23 = .ok (.dup, 1) := by decide +kernel
theorem dX7_rider_24 : decode cX7_rider 24 = .ok (.ldc 238, 2) := by decide +kernel
theorem dX7_rider_26 : decode cX7_rider 26 = .ok (.invokespecial 182, 3) := by decide +kernel
theorem dX7_rider_29 : decode cX7_rider 29 = .ok (.athrow, 1) := by decide +kernel
theorem dX7_rider_30 : decode cX7_rider 30 = .ok (.aload_n 3, 1) := by decide +kernel
theorem dX7_rider_31 : decode cX7_rider 31 = .ok (.getfield 240, 3) := by decide +kernel
theorem dX7_rider_34 : decode cX7_rider 34 = .ok (.iload_n 1, 1) := by decide +kernel
theorem dX7_rider_35 : decode cX7_rider 35 = .ok (.aaload, 1) := by decide +kernel
theorem dX7_rider_36 : decode cX7_rider 36 = .ok (.astore 4, 2) := by decide +kernel
theorem dX7_rider_38 : decode cX7_rider 38 = .ok (.iload_n 2, 1) := by decide +kernel
theorem dX7_rider_39 : decode cX7_rider 39 = .ok (.tableswitch 93 0 7 #[45, 51, 57, 63, 69, 75, 81, 87], 45) := by decide +kernel
theorem dX7_rider_84 : decode cX7_rider 84 = .ok (.aload 4, 2) := by decide +kernel
theorem dX7_rider_86 : decode cX7_rider 86 = .ok (.getfield 244, 3) := by decide +kernel
theorem dX7_rider_89 : decode cX7_rider 89 = .ok (.ireturn, 1) := by decide +kernel
theorem dX7_rider_90 : decode cX7_rider 90 = .ok (.aload 4, 2) := by decide +kernel
theorem dX7_rider_92 : decode cX7_rider 92 = .ok (.getfield 247, 3) := by decide +kernel
theorem dX7_rider_95 : decode cX7_rider 95 = .ok (.ireturn, 1) := by decide +kernel
theorem dX7_rider_96 : decode cX7_rider 96 = .ok (.aload 4, 2) := by decide +kernel
theorem dX7_rider_98 : decode cX7_rider 98 = .ok (.getfield 248, 3) := by decide +kernel
theorem dX7_rider_101 : decode cX7_rider 101 = .ok (.ireturn, 1) := by decide +kernel
theorem dX7_rider_102 : decode cX7_rider 102 = .ok (.aload 4, 2) := by decide +kernel
theorem dX7_rider_104 : decode cX7_rider 104 = .ok (.getfield 251, 3) := by decide +kernel
theorem dX7_rider_107 : decode cX7_rider 107 = .ok (.ireturn, 1) := by decide +kernel
theorem dX7_rider_108 : decode cX7_rider 108 = .ok (.aload 4, 2) := by decide +kernel
theorem dX7_rider_110 : decode cX7_rider 110 = .ok (.getfield 254, 3) := by decide +kernel
theorem dX7_rider_113 : decode cX7_rider 113 = .ok (.ireturn, 1) := by decide +kernel
theorem dX7_rider_114 : decode cX7_rider 114 = .ok (.aload 4, 2) := by decide +kernel
theorem dX7_rider_116 : decode cX7_rider 116 = .ok (.getfield 257, 3) := by decide +kernel
theorem dX7_rider_119 : decode cX7_rider 119 = .ok (.ireturn, 1) := by decide +kernel
theorem dX7_rider_120 : decode cX7_rider 120 = .ok (.aload 4, 2) := by decide +kernel
theorem dX7_rider_122 : decode cX7_rider 122 = .ok (.getfield 260, 3) := by decide +kernel
theorem dX7_rider_125 : decode cX7_rider 125 = .ok (.ireturn, 1) := by decide +kernel
theorem dX7_rider_126 : decode cX7_rider 126 = .ok (.aload 4, 2) := by decide +kernel
theorem dX7_rider_128 : decode cX7_rider 128 = .ok (.getfield 263, 3) := by decide +kernel
theorem dX7_rider_131 : decode cX7_rider 131 = .ok (.ireturn, 1) := by decide +kernel
theorem dX7_rider_132 : decode cX7_rider 132 = .ok (.new 178, 3) := by decide +kernel
theorem dX7_rider_135 : decode cX7_rider 135 = .ok (.dup, 1) := by decide +kernel
theorem dX7_rider_136 : decode cX7_rider 136 = .ok (.ldc_w 266, 3) := by decide +kernel
theorem dX7_rider_139 : decode cX7_rider 139 = .ok (.invokespecial 182, 3) := by decide +kernel
theorem dX7_rider_142 : decode cX7_rider 142 = .ok (.athrow, 1) := by decide +kernel
theorem dX7_given_0 : decode cX7_given 0 = .ok (.aload_n 0, 1) := by decide +kernel
theorem dX7_given_1 : decode cX7_given 1 = .ok (.getfield 46, 3) := by decide +kernel
theorem dX7_given_4 : decode cX7_given 4 = .ok (.getfield 84, 3) := by decide +kernel
theorem dX7_given_7 : decode cX7_given 7 = .ok (.astore 4, 2) := by decide +kernel
theorem dX7_given_9 : decode cX7_given 9 = .ok (.aload 4, 2) := by decide +kernel
theorem dX7_given_11 : decode cX7_given 11 = .ok (.iload_n 1, 1) := by decide +kernel
theorem dX7_given_12 : decode cX7_given 12 = .ok (.invokevirtual 268, 3) := by decide +kernel
theorem dX7_given_15 : decode cX7_given 15 = .ok (.ifCond .eq 10, 3) := by decide +kernel
theorem dX7_given_18 : decode cX7_given 18 = .ok (.iload_n 3, 1) := by decide +kernel
theorem dX7_given_19 : decode cX7_given 19 = .ok (.invokestatic 272, 3) := by decide +kernel
theorem dX7_given_22 : decode cX7_given 22 = .ok (.ifCond .ne 14, 3) := by decide +kernel
theorem dX7_given_25 : decode cX7_given 25 = .ok (.new 178, 3) := by decide +kernel
theorem dX7_given_28 : decode cX7_given 28 = .ok (.dup, 1) := by decide +kernel
theorem dX7_given_29 : decode cX7_given 29 = .ok (.ldc_w 275, 3) := by decide +kernel
theorem dX7_given_32 : decode cX7_given 32 = .ok (.invokespecial 182, 3) := by decide +kernel
theorem dX7_given_35 : decode cX7_given 35 = .ok (.athrow, 1) := by decide +kernel
theorem dX7_given_36 : decode cX7_given 36 = .ok (.iload_n 1, 1) := by decide +kernel
theorem dX7_given_37 : decode cX7_given 37 = .ok (.iload_n 2, 1) := by decide +kernel
theorem dX7_given_38 : decode cX7_given 38 = .ok (.ifCond .eq 7, 3) := by decide +kernel
theorem dX7_given_41 : decode cX7_given 41 = .ok (.iconst 1, 1) := by decide +kernel
theorem dX7_given_42 : decode cX7_given 42 = .ok (.goto 4, 3) := by decide +kernel
theorem dX7_given_45 : decode cX7_given 45 = .ok (.iconst (-1), 1) := by decide +kernel
theorem dX7_given_46 : decode cX7_given 46 = .ok (.iload_n 3, 1) := by decide +kernel
theorem dX7_given_47 : decode cX7_given 47 = .ok (.invokestatic 277, 3) := by decide +kernel
theorem dX7_given_50 : decode cX7_given 50 = .ok (.istore 5, 2) := by decide +kernel
theorem dX7_given_52 : decode cX7_given 52 = .ok (.aload 4, 2) := by decide +kernel
theorem dX7_given_54 : decode cX7_given 54 = .ok (.invokevirtual 120, 3) := by decide +kernel
theorem dX7_given_57 : decode cX7_given 57 = .ok (.iload 5, 2) := by decide +kernel
theorem dX7_given_59 : decode cX7_given 59 = .ok (.lushr, 1) := by decide +kernel
theorem dX7_given_60 : decode cX7_given 60 = .ok (.lconst 1, 1) := by decide +kernel
theorem dX7_given_61 : decode cX7_given 61 = .ok (.land, 1) := by decide +kernel
theorem dX7_given_62 : decode cX7_given 62 = .ok (.lconst 0, 1) := by decide +kernel
theorem dX7_given_63 : decode cX7_given 63 = .ok (.lcmp, 1) := by decide +kernel
theorem dX7_given_64 : decode cX7_given 64 = .ok (.ifCond .ne 8, 3) := by decide +kernel
theorem dX7_given_67 : decode cX7_given 67 = .ok (.bipush (-2), 2) := by decide +kernel
theorem dX7_given_69 : decode cX7_given 69 = .ok (.goto 10, 3) := by decide +kernel
theorem dX7_given_72 : decode cX7_given 72 = .ok (.aload 4, 2) := by decide +kernel
theorem dX7_given_74 : decode cX7_given 74 = .ok (.iload 5, 2) := by decide +kernel
theorem dX7_given_76 : decode cX7_given 76 = .ok (.invokevirtual 281, 3) := by decide +kernel
theorem dX7_given_79 : decode cX7_given 79 = .ok (.ireturn, 1) := by decide +kernel
set_option maxRecDepth 20000 in
set_option maxHeartbeats 4000000 in
theorem vX7_given_0 {l : Launch} {x : CX} {a0 : Nat} {x1 : Int32} {x2 : Int32} {x3 : Int32} {h : PH} {rc rs n0 : Nat} {Q : Option Value → PH → Prop} {X : String → PH → Prop}
    (K : ((hK h a0).1 = 7) ∧ ∃ b2, (hR h a0 6 = some b2) ∧ ((hK h b2).1 = 3) ∧ ∃ b5, (hR h b2 0 = some b5) ∧ ((hK h b5).1 = 1) ∧ ∃ (q7 : Int32 → PH → Prop), CI l x mX1_hasFloor 0 0 0 [.ref b5, .int x1] h q7 ∧ ∀ (r11 : Int32) (h10 : PH), q7 r11 h10 → ((r11 = 0 → ThrowOk x RX7 "java/util/NoSuchElementException" "no such floor or sort" ["java/lang/RuntimeException", "java/lang/Exception"] 275 182 ∧ 1 ≤ rc ∧ 6 ≤ rs ∧ X "java/util/NoSuchElementException" h10) ∧ (¬ r11 = 0 → ∃ (q14 : Int32 → PH → Prop), CI l x mX7_isSort 0 0 0 [.int x3] h10 q14 ∧ ∀ (r17 : Int32) (h16 : PH), q14 r17 h16 → ((¬ r17 = 0 → ∃ (q20 : Int32 → PH → Prop), CI l x mX7_callNumber 0 0 0 [.int x1, .int (if x2 = 0 then (-1) else 1 : Int32), .int x3] h16 q20 ∧ ∀ (r23 : Int32) (h22 : PH), q20 r23 h22 → ((hK h22 b5).1 = 1) ∧ ∃ (q24 : Int64 → PH → Prop), CJ l x mX1_callsWaiting 1 0 0 [.ref b5] h22 q24 ∧ ∀ (r28 : Int64) (h27 : PH), q24 r28 h27 → ((¬ (lg_cmp ((lus r28 r23) &&& 1) 0) = 0 → ((hK h27 b5).1 = 1) ∧ ∃ (q30 : Int32 → PH → Prop), CI l x mX1_holderOf 0 0 0 [.ref b5, .int r23] h27 q30 ∧ ∀ (r34 : Int32) (h33 : PH), q30 r34 h33 → Q (some (.int r34)) h33) ∧ ((lg_cmp ((lus r28 r23) &&& 1) 0) = 0 → Q (some (.int (-2))) h27))) ∧ (r17 = 0 → ThrowOk x RX7 "java/util/NoSuchElementException" "no such floor or sort" ["java/lang/RuntimeException", "java/lang/Exception"] 275 182 ∧ 1 ≤ rc ∧ 6 ≤ rs ∧ X "java/util/NoSuchElementException" h16))))) :
    Gm l x mX7_given 8 0 [(0, .ref a0), (1, .int x1), (2, .int x2), (3, .int x3)] [] h rc rs n0 Q X := by
  refine g_aload_n dX7_given_0 rfl 0 rfl ?_
  obtain ⟨e1, b2, e3, K⟩ := K
  refine g_get (c := 7) (k := 6) (v := .ref b2) dX7_given_1 fc_7 (by decide) (by decide) bw_401 (congrArg pr e3) e1 ?_
  obtain ⟨e4, b5, e6, K⟩ := K
  refine g_get (c := 3) (k := 0) (v := .ref b5) dX7_given_4 fc_3 (by decide) (by decide) bw_371 (congrArg pr e6) e4 ?_
  refine g_astore (lv' := [(0, .ref a0), (1, .int x1), (2, .int x2), (3, .int x3), (4, .ref b5)]) dX7_given_7 (by decide) rfl ?_
  refine g_aload dX7_given_9 4 rfl ?_
  refine g_iload_n dX7_given_11 rfl 1 rfl ?_
  obtain ⟨e9, K⟩ := K
  obtain ⟨q7, C8, K⟩ := K
  refine g_callV (M' := mX1_hasFloor) (b := b5) (As := [.int x1]) (rest := []) dX7_given_12 bw_608 bw_609 bw_610 bw_2 bw_611 ⟨by decide +kernel, by decide +kernel, show (parseMethodDescriptor mX1_hasFloor.1.desc).map (fun d => d.parameters.length) = some 1 by decide +kernel⟩ (by decide) (by decide) (Nat.le_of_ble_eq_true rfl) fc_1 (by decide) rfl e9 C8 (Nat.zero_le _) (Nat.zero_le _) (fun _ _ h => h) ?_
  rintro _ h10 ⟨r11, rfl, K1⟩ -
  replace K := K r11 h10 K1
  show Gm l x mX7_given 8 15 [(0, .ref a0), (1, .int x1), (2, .int x2), (3, .int x3), (4, .ref b5)] [.int r11] h10 rc rs n0 Q X
  refine g_if_eq (tgt := 25) dX7_given_15 (by decide) (fun c12 => ?_) (fun c12 => ?_)
  · replace K := K.1 c12
    exact g_throwW (cls := "java/util/NoSuchElementException") (text := "no such floor or sort") (names := ["java/lang/RuntimeException", "java/lang/Exception"]) (by decide) (by decide) bw_976 bw_22 K.1.1 K.1.2 dX7_given_25 dX7_given_28 dX7_given_29 dX7_given_32 dX7_given_35 (by decide) (Nat.le_of_ble_eq_true rfl) K.2.1 K.2.2.1 K.2.2.2
  · replace K := K.2 c12
    refine g_iload_n dX7_given_18 rfl 3 rfl ?_
    obtain ⟨q14, C15, K⟩ := K
    refine g_callS (M' := mX7_isSort) (As := [.int x3]) (rest := []) dX7_given_19 bw_612 bw_613 bw_1 bw_614 ⟨by decide +kernel, by decide +kernel, show (parseMethodDescriptor mX7_isSort.1.desc).map (fun d => d.parameters.length) = some 1 by decide +kernel⟩ (by decide) (by decide) (Nat.le_of_ble_eq_true rfl) C15 (Nat.zero_le _) (Nat.zero_le _) (fun _ _ h => h) ?_
    rintro _ h16 ⟨r17, rfl, K1⟩ -
    replace K := K r17 h16 K1
    show Gm l x mX7_given 8 22 [(0, .ref a0), (1, .int x1), (2, .int x2), (3, .int x3), (4, .ref b5)] [.int r17] h16 rc rs n0 Q X
    refine g_if_ne (tgt := 36) dX7_given_22 (by decide) (fun c18 => ?_) (fun c18 => ?_)
    · replace K := K.1 c18
      refine g_iload_n dX7_given_36 rfl 1 rfl ?_
      refine g_iload_n dX7_given_37 rfl 2 rfl ?_
      have KJ : Gm l x mX7_given 8 46 [(0, .ref a0), (1, .int x1), (2, .int x2), (3, .int x3), (4, .ref b5)] [.int (if x2 = 0 then (-1) else 1 : Int32), .int x1] h16 rc rs n0 Q X := by
        refine g_iload_n dX7_given_46 rfl 3 rfl ?_
        obtain ⟨q20, C21, K⟩ := K
        refine g_callS (M' := mX7_callNumber) (As := [.int x1, .int (if x2 = 0 then (-1) else 1 : Int32), .int x3]) (rest := []) dX7_given_47 bw_1026 bw_530 bw_1 bw_531 ⟨by decide +kernel, by decide +kernel, show (parseMethodDescriptor mX7_callNumber.1.desc).map (fun d => d.parameters.length) = some 3 by decide +kernel⟩ (by decide) (by decide) (Nat.le_of_ble_eq_true rfl) C21 (Nat.zero_le _) (Nat.zero_le _) (fun _ _ h => h) ?_
        rintro _ h22 ⟨r23, rfl, K1⟩ -
        replace K := K r23 h22 K1
        show Gm l x mX7_given 8 50 [(0, .ref a0), (1, .int x1), (2, .int x2), (3, .int x3), (4, .ref b5)] [.int r23] h22 rc rs n0 Q X
        refine g_istore (lv' := [(0, .ref a0), (1, .int x1), (2, .int x2), (3, .int x3), (4, .ref b5), (5, .int r23)]) dX7_given_50 (by decide) rfl ?_
        refine g_aload dX7_given_52 4 rfl ?_
        obtain ⟨e26, K⟩ := K
        obtain ⟨q24, C25, K⟩ := K
        refine g_callV (M' := mX1_callsWaiting) (b := b5) (As := []) (rest := []) dX7_given_54 bw_905 bw_526 bw_527 bw_2 bw_528 ⟨by decide +kernel, by decide +kernel, show (parseMethodDescriptor mX1_callsWaiting.1.desc).map (fun d => d.parameters.length) = some 0 by decide +kernel⟩ (by decide) (by decide) (Nat.le_of_ble_eq_true rfl) fc_1 (by decide) rfl e26 C25 (Nat.zero_le _) (Nat.zero_le _) (fun _ _ h => h) ?_
        rintro _ h27 ⟨r28, rfl, K1⟩ -
        replace K := K r28 h27 K1
        show Gm l x mX7_given 8 57 [(0, .ref a0), (1, .int x1), (2, .int x2), (3, .int x3), (4, .ref b5), (5, .int r23)] [.long r28] h27 rc rs n0 Q X
        refine g_iload dX7_given_57 5 rfl ?_
        refine g_lushr dX7_given_59 ?_
        refine g_lconst (v := 1) dX7_given_60 (by decide) ?_
        refine g_land dX7_given_61 ?_
        refine g_lconst (v := 0) dX7_given_62 (by decide) ?_
        refine g_lcmp dX7_given_63 ?_
        refine g_if_ne (tgt := 72) dX7_given_64 (by decide) (fun c29 => ?_) (fun c29 => ?_)
        · replace K := K.1 c29
          refine g_aload dX7_given_72 4 rfl ?_
          refine g_iload dX7_given_74 5 rfl ?_
          obtain ⟨e32, K⟩ := K
          obtain ⟨q30, C31, K⟩ := K
          refine g_callV (M' := mX1_holderOf) (b := b5) (As := [.int r23]) (rest := []) dX7_given_76 bw_1027 bw_537 bw_538 bw_2 bw_539 ⟨by decide +kernel, by decide +kernel, show (parseMethodDescriptor mX1_holderOf.1.desc).map (fun d => d.parameters.length) = some 1 by decide +kernel⟩ (by decide) (by decide) (Nat.le_of_ble_eq_true rfl) fc_1 (by decide) rfl e32 C31 (Nat.zero_le _) (Nat.zero_le _) (fun _ _ h => h) ?_
          rintro _ h33 ⟨r34, rfl, K1⟩ -
          replace K := K r34 h33 K1
          show Gm l x mX7_given 8 79 [(0, .ref a0), (1, .int x1), (2, .int x2), (3, .int x3), (4, .ref b5), (5, .int r23)] [.int r34] h33 rc rs n0 Q X
          exact g_iret dX7_given_79 rfl K
        · replace K := K.2 c29
          refine g_bipush (v := (-2)) dX7_given_67 (by decide) ?_
          refine g_goto (tgt := 79) dX7_given_69 (by decide) ?_
          exact g_iret dX7_given_79 rfl K
      refine g_if_eq (tgt := 45) dX7_given_38 (by decide) (fun c19 => ?_) (fun c19 => ?_)
      · refine g_iconst (v := (-1)) dX7_given_45 (by decide) ?_
        first | (simp only [if_pos c19] at KJ; with_reducible exact KJ) | (simp only [if_pos c19, ite_true, ite_false, eq_self] at KJ; with_reducible exact KJ) | (simp only [if_pos c19, reduceIte, eq_self] at KJ; exact KJ) | exact KJ
      · refine g_iconst (v := 1) dX7_given_41 (by decide) ?_
        refine g_goto (tgt := 46) dX7_given_42 (by decide) ?_
        first | (simp only [if_neg c19] at KJ; with_reducible exact KJ) | (simp only [if_neg c19, ite_true, ite_false, eq_self] at KJ; with_reducible exact KJ) | (simp only [if_neg c19, reduceIte, eq_self] at KJ; exact KJ) | exact KJ
    · replace K := K.2 c18
      exact g_throwW (cls := "java/util/NoSuchElementException") (text := "no such floor or sort") (names := ["java/lang/RuntimeException", "java/lang/Exception"]) (by decide) (by decide) bw_976 bw_22 K.1.1 K.1.2 dX7_given_25 dX7_given_28 dX7_given_29 dX7_given_32 dX7_given_35 (by decide) (Nat.le_of_ble_eq_true rfl) K.2.1 K.2.2.1 K.2.2.2
theorem dX7_cost_0 : decode cX7_cost 0 = .ok (.aload_n 0, 1) := by decide +kernel
theorem dX7_cost_1 : decode cX7_cost 1 = .ok (.getfield 46, 3) := by decide +kernel
theorem dX7_cost_4 : decode cX7_cost 4 = .ok (.getfield 84, 3) := by decide +kernel
theorem dX7_cost_7 : decode cX7_cost 7 = .ok (.astore 5, 2) := by decide +kernel
theorem dX7_cost_9 : decode cX7_cost 9 = .ok (.iload_n 1, 1) := by decide +kernel
theorem dX7_cost_10 : decode cX7_cost 10 = .ok (.ifCond .lt 29, 3) := by decide +kernel
theorem dX7_cost_13 : decode cX7_cost 13 = .ok (.iload_n 1, 1) := by decide +kernel
theorem dX7_cost_14 : decode cX7_cost 14 = .ok (.aload 5, 2) := by decide +kernel
theorem dX7_cost_16 : decode cX7_cost 16 = .ok (.getfield 90, 3) := by decide +kernel
theorem dX7_cost_19 : decode cX7_cost 19 = .ok (.if_icmp .ge 20, 3) := by decide +kernel
theorem dX7_cost_22 : decode cX7_cost 22 = .ok (.aload 5, 2) := by decide +kernel
theorem dX7_cost_24 : decode cX7_cost 24 = .ok (.iload_n 2, 1) := by decide +kernel
theorem dX7_cost_25 : decode cX7_cost 25 = .ok (.invokevirtual 268, 3) := by decide +kernel
theorem dX7_cost_28 : decode cX7_cost 28 = .ok (.ifCond .eq 11, 3) := by decide +kernel
theorem dX7_cost_31 : decode cX7_cost 31 = .ok (.iload 4, 2) := by decide +kernel
theorem dX7_cost_33 : decode cX7_cost 33 = .ok (.invokestatic 272, 3) := by decide +kernel
theorem dX7_cost_36 : decode cX7_cost 36 = .ok (.ifCond .ne 14, 3) := by decide +kernel
theorem dX7_cost_39 : decode cX7_cost 39 = .ok (.new 178, 3) := by decide +kernel
theorem dX7_cost_42 : decode cX7_cost 42 = .ok (.dup, 1) := by decide +kernel
theorem dX7_cost_43 : decode cX7_cost 43 = .ok (.ldc_w 284, 3) := by decide +kernel
theorem dX7_cost_46 : decode cX7_cost 46 = .ok (.invokespecial 182, 3) := by decide +kernel
theorem dX7_cost_49 : decode cX7_cost 49 = .ok (.athrow, 1) := by decide +kernel
theorem dX7_cost_50 : decode cX7_cost 50 = .ok (.aload 5, 2) := by decide +kernel
theorem dX7_cost_52 : decode cX7_cost 52 = .ok (.getfield 195, 3) := by decide +kernel
theorem dX7_cost_55 : decode cX7_cost 55 = .ok (.iload_n 1, 1) := by decide +kernel
theorem dX7_cost_56 : decode cX7_cost 56 = .ok (.aaload, 1) := by decide +kernel
theorem dX7_cost_57 : decode cX7_cost 57 = .ok (.astore 6, 2) := by decide +kernel
theorem dX7_cost_59 : decode cX7_cost 59 = .ok (.aload 6, 2) := by decide +kernel
theorem dX7_cost_61 : decode cX7_cost 61 = .ok (.getfield 222, 3) := by decide +kernel
theorem dX7_cost_64 : decode cX7_cost 64 = .ok (.ifCond .eq 13, 3) := by decide +kernel
theorem dX7_cost_67 : decode cX7_cost 67 = .ok (.aload 6, 2) := by decide +kernel
theorem dX7_cost_69 : decode cX7_cost 69 = .ok (.iload 4, 2) := by decide +kernel
theorem dX7_cost_71 : decode cX7_cost 71 = .ok (.invokevirtual 286, 3) := by decide +kernel
theorem dX7_cost_74 : decode cX7_cost 74 = .ok (.ifCond .ne 14, 3) := by decide +kernel
theorem dX7_cost_77 : decode cX7_cost 77 = .ok (.new 61, 3) := by decide +kernel
theorem dX7_cost_80 : decode cX7_cost 80 = .ok (.dup, 1) := by decide +kernel
theorem dX7_cost_81 : decode cX7_cost 81 = .ok (.ldc_w 289, 3) := by decide +kernel
theorem dX7_cost_84 : decode cX7_cost 84 = .ok (.invokespecial 65, 3) := by decide +kernel
theorem dX7_cost_87 : decode cX7_cost 87 = .ok (.athrow, 1) := by decide +kernel
theorem dX7_cost_88 : decode cX7_cost 88 = .ok (.aload 5, 2) := by decide +kernel
theorem dX7_cost_90 : decode cX7_cost 90 = .ok (.aload 6, 2) := by decide +kernel
theorem dX7_cost_92 : decode cX7_cost 92 = .ok (.iload_n 2, 1) := by decide +kernel
theorem dX7_cost_93 : decode cX7_cost 93 = .ok (.iload_n 3, 1) := by decide +kernel
theorem dX7_cost_94 : decode cX7_cost 94 = .ok (.ifCond .eq 7, 3) := by decide +kernel
theorem dX7_cost_97 : decode cX7_cost 97 = .ok (.iconst 1, 1) := by decide +kernel
theorem dX7_cost_98 : decode cX7_cost 98 = .ok (.goto 4, 3) := by decide +kernel
theorem dX7_cost_101 : decode cX7_cost 101 = .ok (.iconst (-1), 1) := by decide +kernel
theorem dX7_cost_102 : decode cX7_cost 102 = .ok (.iload 4, 2) := by decide +kernel
theorem dX7_cost_104 : decode cX7_cost 104 = .ok (.invokestatic 277, 3) := by decide +kernel
theorem dX7_cost_107 : decode cX7_cost 107 = .ok (.invokevirtual 291, 3) := by decide +kernel
theorem dX7_cost_110 : decode cX7_cost 110 = .ok (.ireturn, 1) := by decide +kernel
theorem dX7_ahead_0 : decode cX7_ahead 0 = .ok (.iload_n 2, 1) := by decide +kernel
theorem dX7_ahead_1 : decode cX7_ahead 1 = .ok (.ifCond .lt 8, 3) := by decide +kernel
theorem dX7_ahead_4 : decode cX7_ahead 4 = .ok (.iload_n 2, 1) := by decide +kernel
theorem dX7_ahead_5 : decode cX7_ahead 5 = .ok (.iconst 3, 1) := by decide +kernel
theorem dX7_ahead_6 : decode cX7_ahead 6 = .ok (.if_icmp .le 14, 3) := by decide +kernel
theorem dX7_ahead_9 : decode cX7_ahead 9 = .ok (.new 178, 3) := by decide +kernel
theorem dX7_ahead_12 : decode cX7_ahead 12 = .ok (.dup, 1) := by decide +kernel
theorem dX7_ahead_13 : decode cX7_ahead 13 = .ok (.ldc_w 311, 3) := by decide +kernel
theorem dX7_ahead_16 : decode cX7_ahead 16 = .ok (.invokespecial 182, 3) := by decide +kernel
theorem dX7_ahead_19 : decode cX7_ahead 19 = .ok (.athrow, 1) := by decide +kernel
theorem dX7_ahead_20 : decode cX7_ahead 20 = .ok (.iload_n 1, 1) := by decide +kernel
theorem dX7_ahead_21 : decode cX7_ahead 21 = .ok (.ifCond .lt 9, 3) := by decide +kernel
theorem dX7_ahead_24 : decode cX7_ahead 24 = .ok (.iload_n 1, 1) := by decide +kernel
theorem dX7_ahead_25 : decode cX7_ahead 25 = .ok (.bipush 120, 2) := by decide +kernel
theorem dX7_ahead_27 : decode cX7_ahead 27 = .ok (.if_icmp .le 14, 3) := by decide +kernel
theorem dX7_ahead_30 : decode cX7_ahead 30 = .ok (.new 61, 3) := by decide +kernel
theorem dX7_ahead_33 : decode cX7_ahead 33 = .ok (.dup, 1) := by decide +kernel
theorem dX7_ahead_34 : decode cX7_ahead 34 = .ok (.ldc_w 313, 3) := by decide +kernel
theorem dX7_ahead_37 : decode cX7_ahead 37 = .ok (.invokespecial 65, 3) := by decide +kernel
theorem dX7_ahead_40 : decode cX7_ahead 40 = .ok (.athrow, 1) := by decide +kernel
theorem dX7_ahead_41 : decode cX7_ahead 41 = .ok (.aload_n 0, 1) := by decide +kernel
theorem dX7_ahead_42 : decode cX7_ahead 42 = .ok (.getfield 23, 3) := by decide +kernel
theorem dX7_ahead_45 : decode cX7_ahead 45 = .ok (.aload_n 0, 1) := by decide +kernel
theorem dX7_ahead_46 : decode cX7_ahead 46 = .ok (.getfield 46, 3) := by decide +kernel
theorem dX7_ahead_49 : decode cX7_ahead 49 = .ok (.getfield 84, 3) := by decide +kernel
theorem dX7_ahead_52 : decode cX7_ahead 52 = .ok (.invokevirtual 183, 3) := by decide +kernel
theorem dX7_ahead_55 : decode cX7_ahead 55 = .ok (.aload_n 0, 1) := by decide +kernel
theorem dX7_ahead_56 : decode cX7_ahead 56 = .ok (.getfield 23, 3) := by decide +kernel
theorem dX7_ahead_59 : decode cX7_ahead 59 = .ok (.iload_n 1, 1) := by decide +kernel
theorem dX7_ahead_60 : decode cX7_ahead 60 = .ok (.invokevirtual 190, 3) := by decide +kernel
theorem dX7_ahead_63 : decode cX7_ahead 63 = .ok (.iload_n 2, 1) := by decide +kernel
theorem dX7_ahead_64 : decode cX7_ahead 64 = .ok (.tableswitch 52 0 2 #[28, 36, 44], 28) := by decide +kernel
theorem dX7_ahead_92 : decode cX7_ahead 92 = .ok (.aload_n 0, 1) := by decide +kernel
theorem dX7_ahead_93 : decode cX7_ahead 93 = .ok (.getfield 23, 3) := by decide +kernel
theorem dX7_ahead_96 : decode cX7_ahead 96 = .ok (.getfield 117, 3) := by decide +kernel
theorem dX7_ahead_99 : decode cX7_ahead 99 = .ok (.ireturn, 1) := by decide +kernel
theorem dX7_ahead_100 : decode cX7_ahead 100 = .ok (.aload_n 0, 1) := by decide +kernel
theorem dX7_ahead_101 : decode cX7_ahead 101 = .ok (.getfield 23, 3) := by decide +kernel
theorem dX7_ahead_104 : decode cX7_ahead 104 = .ok (.invokevirtual 130, 3) := by decide +kernel
theorem dX7_ahead_107 : decode cX7_ahead 107 = .ok (.ireturn, 1) := by decide +kernel
theorem dX7_ahead_108 : decode cX7_ahead 108 = .ok (.aload_n 0, 1) := by decide +kernel
theorem dX7_ahead_109 : decode cX7_ahead 109 = .ok (.getfield 23, 3) := by decide +kernel
theorem dX7_ahead_112 : decode cX7_ahead 112 = .ok (.invokevirtual 134, 3) := by decide +kernel
theorem dX7_ahead_115 : decode cX7_ahead 115 = .ok (.ireturn, 1) := by decide +kernel
theorem dX7_ahead_116 : decode cX7_ahead 116 = .ok (.aload_n 0, 1) := by decide +kernel
theorem dX7_ahead_117 : decode cX7_ahead 117 = .ok (.getfield 23, 3) := by decide +kernel
theorem dX7_ahead_120 : decode cX7_ahead 120 = .ok (.invokevirtual 315, 3) := by decide +kernel
theorem dX7_ahead_123 : decode cX7_ahead 123 = .ok (.ireturn, 1) := by decide +kernel
set_option maxRecDepth 20000 in
set_option maxHeartbeats 4000000 in
theorem vX7_ahead_0 {l : Launch} {x : CX} {a0 : Nat} {x1 : Int32} {x2 : Int32} {h : PH} {rc rs n0 : Nat} {Q : Option Value → PH → Prop} {X : String → PH → Prop}
    (K : ((x2 < 0 → ThrowOk x RX7 "java/util/NoSuchElementException" "no such what of ahead" ["java/lang/RuntimeException", "java/lang/Exception"] 311 182 ∧ 1 ≤ rc ∧ 6 ≤ rs ∧ X "java/util/NoSuchElementException" h) ∧ (¬ x2 < 0 → ((x2 ≤ 3 → ((x1 < 0 → ThrowOk x RX7 "java/lang/IllegalArgumentException" "not so far ahead" ["java/lang/RuntimeException", "java/lang/Exception"] 313 65 ∧ 1 ≤ rc ∧ 6 ≤ rs ∧ X "java/lang/IllegalArgumentException" h) ∧ (¬ x1 < 0 → ((x1 ≤ 120 → ((hK h a0).1 = 7) ∧ ∃ b8, (hR h a0 3 = some b8) ∧ ∃ b10, (hR h a0 6 = some b10) ∧ ((hK h b10).1 = 3) ∧ ∃ b13, (hR h b10 0 = some b13) ∧ ((hK h b8).1 = 1) ∧ ∃ (q15 : PH → Prop), CV l x mX1_copyFrom 1 0 0 [.ref b8, .ref b13] h q15 ∧ ∀ (h18 : PH), q15 h18 → ((hK h18 a0).1 = 7) ∧ ∃ b20, (hR h18 a0 3 = some b20) ∧ ((hK h18 b20).1 = 1) ∧ ∃ (q22 : PH → Prop), CV l x mX1_pass 4 0 0 [.ref b20, .int x1] h18 q22 ∧ ∀ (h25 : PH), q22 h25 → ((x2.toInt = 0 → ((hK h25 a0).1 = 7) ∧ ∃ b28, (hR h25 a0 3 = some b28) ∧ ((hK h25 b28).1 = 1) ∧ Q (some (.int (hI h25 b28 12))) h25) ∧ (x2.toInt = 1 → ((hK h25 a0).1 = 7) ∧ ∃ b32, (hR h25 a0 3 = some b32) ∧ ((hK h25 b32).1 = 1) ∧ ∃ (q34 : Int32 → PH → Prop), CI l x mX1_passedInAll 0 0 0 [.ref b32] h25 q34 ∧ ∀ (r38 : Int32) (h37 : PH), q34 r38 h37 → Q (some (.int r38)) h37) ∧ (x2.toInt = 2 → ((hK h25 a0).1 = 7) ∧ ∃ b40, (hR h25 a0 3 = some b40) ∧ ((hK h25 b40).1 = 1) ∧ ∃ (q42 : Int32 → PH → Prop), CI l x mX1_waitedInAll 0 0 0 [.ref b40] h25 q42 ∧ ∀ (r46 : Int32) (h45 : PH), q42 r46 h45 → Q (some (.int r46)) h45) ∧ ((x2.toInt < 0 ∨ 2 < x2.toInt) → ((hK h25 a0).1 = 7) ∧ ∃ b48, (hR h25 a0 3 = some b48) ∧ ((hK h25 b48).1 = 1) ∧ ∃ (q50 : Int32 → PH → Prop), CI l x mX1_stopped 0 0 0 [.ref b48] h25 q50 ∧ ∀ (r54 : Int32) (h53 : PH), q50 r54 h53 → Q (some (.int r54)) h53))) ∧ (¬ x1 ≤ 120 → ThrowOk x RX7 "java/lang/IllegalArgumentException" "not so far ahead" ["java/lang/RuntimeException", "java/lang/Exception"] 313 65 ∧ 1 ≤ rc ∧ 6 ≤ rs ∧ X "java/lang/IllegalArgumentException" h))))) ∧ (¬ x2 ≤ 3 → ThrowOk x RX7 "java/util/NoSuchElementException" "no such what of ahead" ["java/lang/RuntimeException", "java/lang/Exception"] 311 182 ∧ 1 ≤ rc ∧ 6 ≤ rs ∧ X "java/util/NoSuchElementException" h))))) :
    Gm l x mX7_ahead 8 0 [(0, .ref a0), (1, .int x1), (2, .int x2)] [] h rc rs n0 Q X := by
  refine g_iload_n dX7_ahead_0 rfl 2 rfl ?_
  refine g_if_lt (tgt := 9) dX7_ahead_1 (by decide) (fun c1 => ?_) (fun c1 => ?_)
  · replace K := K.1 c1
    exact g_throwW (cls := "java/util/NoSuchElementException") (text := "no such what of ahead") (names := ["java/lang/RuntimeException", "java/lang/Exception"]) (by decide) (by decide) bw_976 bw_22 K.1.1 K.1.2 dX7_ahead_9 dX7_ahead_12 dX7_ahead_13 dX7_ahead_16 dX7_ahead_19 (by decide) (Nat.le_of_ble_eq_true rfl) K.2.1 K.2.2.1 K.2.2.2
  · replace K := K.2 c1
    refine g_iload_n dX7_ahead_4 rfl 2 rfl ?_
    refine g_iconst (v := 3) dX7_ahead_5 (by decide) ?_
    refine g_icmp_le (tgt := 20) dX7_ahead_6 (by decide) (fun c3 => ?_) (fun c3 => ?_)
    · replace K := K.1 c3
      refine g_iload_n dX7_ahead_20 rfl 1 rfl ?_
      refine g_if_lt (tgt := 30) dX7_ahead_21 (by decide) (fun c4 => ?_) (fun c4 => ?_)
      · replace K := K.1 c4
        exact g_throwW (cls := "java/lang/IllegalArgumentException") (text := "not so far ahead") (names := ["java/lang/RuntimeException", "java/lang/Exception"]) (by decide) (by decide) bw_688 bw_13 K.1.1 K.1.2 dX7_ahead_30 dX7_ahead_33 dX7_ahead_34 dX7_ahead_37 dX7_ahead_40 (by decide) (Nat.le_of_ble_eq_true rfl) K.2.1 K.2.2.1 K.2.2.2
      · replace K := K.2 c4
        refine g_iload_n dX7_ahead_24 rfl 1 rfl ?_
        refine g_bipush (v := 120) dX7_ahead_25 (by decide) ?_
        refine g_icmp_le (tgt := 41) dX7_ahead_27 (by decide) (fun c6 => ?_) (fun c6 => ?_)
        · replace K := K.1 c6
          refine g_aload_n dX7_ahead_41 rfl 0 rfl ?_
          obtain ⟨e7, b8, e9, K⟩ := K
          refine g_get (c := 7) (k := 3) (v := .ref b8) dX7_ahead_42 fc_7 (by decide) (by decide) bw_398 (congrArg pr e9) e7 ?_
          refine g_aload_n dX7_ahead_45 rfl 0 rfl ?_
          obtain ⟨b10, e11, K⟩ := K
          refine g_get (c := 7) (k := 6) (v := .ref b10) dX7_ahead_46 fc_7 (by decide) (by decide) bw_401 (congrArg pr e11) e7 ?_
          obtain ⟨e12, b13, e14, K⟩ := K
          refine g_get (c := 3) (k := 0) (v := .ref b13) dX7_ahead_49 fc_3 (by decide) (by decide) bw_371 (congrArg pr e14) e12 ?_
          obtain ⟨e17, K⟩ := K
          obtain ⟨q15, C16, K⟩ := K
          refine g_callV (M' := mX1_copyFrom) (b := b8) (As := [.ref b13]) (rest := []) dX7_ahead_52 bw_974 bw_453 bw_454 bw_2 bw_455 ⟨by decide +kernel, by decide +kernel, show (parseMethodDescriptor mX1_copyFrom.1.desc).map (fun d => d.parameters.length) = some 1 by decide +kernel⟩ (by decide) (by decide) (Nat.le_of_ble_eq_true rfl) fc_1 (by decide) rfl e17 C16 (Nat.zero_le _) (Nat.zero_le _) (fun _ _ h => h) ?_
          rintro _ h18 ⟨rfl, K1⟩ -
          replace K := K h18 K1
          show Gm l x mX7_ahead 8 55 [(0, .ref a0), (1, .int x1), (2, .int x2)] [] h18 rc rs n0 Q X
          refine g_aload_n dX7_ahead_55 rfl 0 rfl ?_
          obtain ⟨e19, b20, e21, K⟩ := K
          refine g_get (c := 7) (k := 3) (v := .ref b20) dX7_ahead_56 fc_7 (by decide) (by decide) bw_398 (congrArg pr e21) e19 ?_
          refine g_iload_n dX7_ahead_59 rfl 1 rfl ?_
          obtain ⟨e24, K⟩ := K
          obtain ⟨q22, C23, K⟩ := K
          refine g_callV (M' := mX1_pass) (b := b20) (As := [.int x1]) (rest := []) dX7_ahead_60 bw_464 bw_465 bw_466 bw_2 bw_467 ⟨by decide +kernel, by decide +kernel, show (parseMethodDescriptor mX1_pass.1.desc).map (fun d => d.parameters.length) = some 1 by decide +kernel⟩ (by decide) (by decide) (Nat.le_of_ble_eq_true rfl) fc_1 (by decide) rfl e24 C23 (Nat.zero_le _) (Nat.zero_le _) (fun _ _ h => h) ?_
          rintro _ h25 ⟨rfl, K1⟩ -
          replace K := K h25 K1
          show Gm l x mX7_ahead 8 63 [(0, .ref a0), (1, .int x1), (2, .int x2)] [] h25 rc rs n0 Q X
          refine g_iload_n dX7_ahead_63 rfl 2 rfl ?_
          by_cases e26 : 0 ≤ x2.toInt ∧ x2.toInt ≤ 2
          · have e_or : x2.toInt = 0 ∨ x2.toInt = 1 ∨ x2.toInt = 2 := by omega
            rcases e_or with e_s | e_s | e_s
            · replace K := K.1 e_s
              refine g_tableIn (off := 28) (tgt := 92) dX7_ahead_64 (by omega) (by omega) (by rw [e_s]; rfl) (by decide) ?_
              refine g_aload_n dX7_ahead_92 rfl 0 rfl ?_
              obtain ⟨e27, b28, e29, K⟩ := K
              refine g_get (c := 7) (k := 3) (v := .ref b28) dX7_ahead_93 fc_7 (by decide) (by decide) bw_398 (congrArg pr e29) e27 ?_
              obtain ⟨e30, K⟩ := K
              refine g_get (c := 1) (k := 12) (v := .int (hI h25 b28 12)) dX7_ahead_96 fc_1 (by decide) (by decide) bw_216 rfl e30 ?_
              exact g_iret dX7_ahead_99 rfl K
            · replace K := K.2.1 e_s
              refine g_tableIn (off := 36) (tgt := 100) dX7_ahead_64 (by omega) (by omega) (by rw [e_s]; rfl) (by decide) ?_
              refine g_aload_n dX7_ahead_100 rfl 0 rfl ?_
              obtain ⟨e31, b32, e33, K⟩ := K
              refine g_get (c := 7) (k := 3) (v := .ref b32) dX7_ahead_101 fc_7 (by decide) (by decide) bw_398 (congrArg pr e33) e31 ?_
              obtain ⟨e36, K⟩ := K
              obtain ⟨q34, C35, K⟩ := K
              refine g_callV (M' := mX1_passedInAll) (b := b32) (As := []) (rest := []) dX7_ahead_104 bw_912 bw_913 bw_914 bw_2 bw_915 ⟨by decide +kernel, by decide +kernel, show (parseMethodDescriptor mX1_passedInAll.1.desc).map (fun d => d.parameters.length) = some 0 by decide +kernel⟩ (by decide) (by decide) (Nat.le_of_ble_eq_true rfl) fc_1 (by decide) rfl e36 C35 (Nat.zero_le _) (Nat.zero_le _) (fun _ _ h => h) ?_
              rintro _ h37 ⟨r38, rfl, K1⟩ -
              replace K := K r38 h37 K1
              show Gm l x mX7_ahead 8 107 [(0, .ref a0), (1, .int x1), (2, .int x2)] [.int r38] h37 rc rs n0 Q X
              exact g_iret dX7_ahead_107 rfl K
            · replace K := K.2.2.1 e_s
              refine g_tableIn (off := 44) (tgt := 108) dX7_ahead_64 (by omega) (by omega) (by rw [e_s]; rfl) (by decide) ?_
              refine g_aload_n dX7_ahead_108 rfl 0 rfl ?_
              obtain ⟨e39, b40, e41, K⟩ := K
              refine g_get (c := 7) (k := 3) (v := .ref b40) dX7_ahead_109 fc_7 (by decide) (by decide) bw_398 (congrArg pr e41) e39 ?_
              obtain ⟨e44, K⟩ := K
              obtain ⟨q42, C43, K⟩ := K
              refine g_callV (M' := mX1_waitedInAll) (b := b40) (As := []) (rest := []) dX7_ahead_112 bw_916 bw_917 bw_918 bw_2 bw_919 ⟨by decide +kernel, by decide +kernel, show (parseMethodDescriptor mX1_waitedInAll.1.desc).map (fun d => d.parameters.length) = some 0 by decide +kernel⟩ (by decide) (by decide) (Nat.le_of_ble_eq_true rfl) fc_1 (by decide) rfl e44 C43 (Nat.zero_le _) (Nat.zero_le _) (fun _ _ h => h) ?_
              rintro _ h45 ⟨r46, rfl, K1⟩ -
              replace K := K r46 h45 K1
              show Gm l x mX7_ahead 8 115 [(0, .ref a0), (1, .int x1), (2, .int x2)] [.int r46] h45 rc rs n0 Q X
              exact g_iret dX7_ahead_115 rfl K
          · replace K := K.2.2.2 (by omega)
            refine g_tableOut (tgt := 116) dX7_ahead_64 (by omega) (by decide) ?_
            refine g_aload_n dX7_ahead_116 rfl 0 rfl ?_
            obtain ⟨e47, b48, e49, K⟩ := K
            refine g_get (c := 7) (k := 3) (v := .ref b48) dX7_ahead_117 fc_7 (by decide) (by decide) bw_398 (congrArg pr e49) e47 ?_
            obtain ⟨e52, K⟩ := K
            obtain ⟨q50, C51, K⟩ := K
            refine g_callV (M' := mX1_stopped) (b := b48) (As := []) (rest := []) dX7_ahead_120 bw_1048 bw_1049 bw_1050 bw_2 bw_1051 ⟨by decide +kernel, by decide +kernel, show (parseMethodDescriptor mX1_stopped.1.desc).map (fun d => d.parameters.length) = some 0 by decide +kernel⟩ (by decide) (by decide) (Nat.le_of_ble_eq_true rfl) fc_1 (by decide) rfl e52 C51 (Nat.zero_le _) (Nat.zero_le _) (fun _ _ h => h) ?_
            rintro _ h53 ⟨r54, rfl, K1⟩ -
            replace K := K r54 h53 K1
            show Gm l x mX7_ahead 8 123 [(0, .ref a0), (1, .int x1), (2, .int x2)] [.int r54] h53 rc rs n0 Q X
            exact g_iret dX7_ahead_123 rfl K
        · replace K := K.2 c6
          exact g_throwW (cls := "java/lang/IllegalArgumentException") (text := "not so far ahead") (names := ["java/lang/RuntimeException", "java/lang/Exception"]) (by decide) (by decide) bw_688 bw_13 K.1.1 K.1.2 dX7_ahead_30 dX7_ahead_33 dX7_ahead_34 dX7_ahead_37 dX7_ahead_40 (by decide) (Nat.le_of_ble_eq_true rfl) K.2.1 K.2.2.1 K.2.2.2
    · replace K := K.2 c3
      exact g_throwW (cls := "java/util/NoSuchElementException") (text := "no such what of ahead") (names := ["java/lang/RuntimeException", "java/lang/Exception"]) (by decide) (by decide) bw_976 bw_22 K.1.1 K.1.2 dX7_ahead_9 dX7_ahead_12 dX7_ahead_13 dX7_ahead_16 dX7_ahead_19 (by decide) (Nat.le_of_ble_eq_true rfl) K.2.1 K.2.2.1 K.2.2.2
theorem dX7_when_0 : decode cX7_when 0 = .ok (.aload_n 0, 1) := by decide +kernel
theorem dX7_when_1 : decode cX7_when 1 = .ok (.getfield 46, 3) := by decide +kernel
theorem dX7_when_4 : decode cX7_when 4 = .ok (.getfield 84, 3) := by decide +kernel
theorem dX7_when_7 : decode cX7_when 7 = .ok (.astore_n 2, 1) := by decide +kernel
theorem dX7_when_8 : decode cX7_when 8 = .ok (.iload_n 1, 1) := by decide +kernel
theorem dX7_when_9 : decode cX7_when 9 = .ok (.ifCond .lt 11, 3) := by decide +kernel
theorem dX7_when_12 : decode cX7_when 12 = .ok (.iload_n 1, 1) := by decide +kernel
theorem dX7_when_13 : decode cX7_when 13 = .ok (.aload_n 2, 1) := by decide +kernel
theorem dX7_when_14 : decode cX7_when 14 = .ok (.getfield 93, 3) := by decide +kernel
theorem dX7_when_17 : decode cX7_when 17 = .ok (.if_icmp .lt 13, 3) := by decide +kernel
theorem dX7_when_20 : decode cX7_when 20 = .ok (.new 178, 3) := by decide +kernel
theorem dX7_when_23 : decode cX7_when 23 = .ok (.dup, 1) := by decide +kernel
theorem dX7_when_24 : decode cX7_when 24 = .ok (.ldc 238, 2) := by decide +kernel
theorem dX7_when_26 : decode cX7_when 26 = .ok (.invokespecial 182, 3) := by decide +kernel
theorem dX7_when_29 : decode cX7_when 29 = .ok (.athrow, 1) := by decide +kernel
theorem dX7_when_30 : decode cX7_when 30 = .ok (.aload_n 0, 1) := by decide +kernel
theorem dX7_when_31 : decode cX7_when 31 = .ok (.getfield 23, 3) := by decide +kernel
theorem dX7_when_34 : decode cX7_when 34 = .ok (.aload_n 2, 1) := by decide +kernel
theorem dX7_when_35 : decode cX7_when 35 = .ok (.invokevirtual 183, 3) := by decide +kernel
theorem dX7_when_38 : decode cX7_when 38 = .ok (.aload_n 0, 1) := by decide +kernel
theorem dX7_when_39 : decode cX7_when 39 = .ok (.getfield 23, 3) := by decide +kernel
theorem dX7_when_42 : decode cX7_when 42 = .ok (.getfield 240, 3) := by decide +kernel
theorem dX7_when_45 : decode cX7_when 45 = .ok (.iload_n 1, 1) := by decide +kernel
theorem dX7_when_46 : decode cX7_when 46 = .ok (.aaload, 1) := by decide +kernel
theorem dX7_when_47 : decode cX7_when 47 = .ok (.astore_n 3, 1) := by decide +kernel
theorem dX7_when_48 : decode cX7_when 48 = .ok (.iconst 0, 1) := by decide +kernel
theorem dX7_when_49 : decode cX7_when 49 = .ok (.istore 4, 2) := by decide +kernel
theorem dX7_when_51 : decode cX7_when 51 = .ok (.iload 4, 2) := by decide +kernel
theorem dX7_when_53 : decode cX7_when 53 = .ok (.sipush 200, 3) := by decide +kernel
theorem dX7_when_56 : decode cX7_when 56 = .ok (.if_icmp .ge 25, 3) := by decide +kernel
theorem dX7_when_59 : decode cX7_when 59 = .ok (.aload_n 3, 1) := by decide +kernel
theorem dX7_when_60 : decode cX7_when 60 = .ok (.getfield 254, 3) := by decide +kernel
theorem dX7_when_63 : decode cX7_when 63 = .ok (.iconst 3, 1) := by decide +kernel
theorem dX7_when_64 : decode cX7_when 64 = .ok (.if_icmp .eq 17, 3) := by decide +kernel
theorem dX7_when_67 : decode cX7_when 67 = .ok (.aload_n 0, 1) := by decide +kernel
theorem dX7_when_68 : decode cX7_when 68 = .ok (.getfield 23, 3) := by decide +kernel
theorem dX7_when_71 : decode cX7_when 71 = .ok (.iconst 1, 1) := by decide +kernel
theorem dX7_when_72 : decode cX7_when 72 = .ok (.invokevirtual 190, 3) := by decide +kernel
theorem dX7_when_75 : decode cX7_when 75 = .ok (.iinc 4 1, 3) := by decide +kernel
theorem dX7_when_78 : decode cX7_when 78 = .ok (.goto (-27), 3) := by decide +kernel
theorem dX7_when_81 : decode cX7_when 81 = .ok (.aload_n 3, 1) := by decide +kernel
theorem dX7_when_82 : decode cX7_when 82 = .ok (.getfield 263, 3) := by decide +kernel
theorem dX7_when_85 : decode cX7_when 85 = .ok (.ireturn, 1) := by decide +kernel
theorem dX7_mean_0 : decode cX7_mean 0 = .ok (.iload_n 1, 1) := by decide +kernel
theorem dX7_mean_1 : decode cX7_mean 1 = .ok (.invokestatic 318, 3) := by decide +kernel
theorem dX7_mean_4 : decode cX7_mean 4 = .ok (.ifCond .eq 10, 3) := by decide +kernel
theorem dX7_mean_7 : decode cX7_mean 7 = .ok (.iload_n 2, 1) := by decide +kernel
theorem dX7_mean_8 : decode cX7_mean 8 = .ok (.invokestatic 321, 3) := by decide +kernel
theorem dX7_mean_11 : decode cX7_mean 11 = .ok (.ifCond .ne 14, 3) := by decide +kernel
theorem dX7_mean_14 : decode cX7_mean 14 = .ok (.new 61, 3) := by decide +kernel
theorem dX7_mean_17 : decode cX7_mean 17 = .ok (.dup, 1) := by decide +kernel
theorem dX7_mean_18 : decode cX7_mean 18 = .ok (.ldc_w 324, 3) := by decide +kernel
theorem dX7_mean_21 : decode cX7_mean 21 = .ok (.invokespecial 65, 3) := by decide +kernel
theorem dX7_mean_24 : decode cX7_mean 24 = .ok (.athrow, 1) := by decide +kernel
theorem dX7_mean_25 : decode cX7_mean 25 = .ok (.aload_n 0, 1) := by decide +kernel
theorem dX7_mean_26 : decode cX7_mean 26 = .ok (.getfield 39, 3) := by decide +kernel
theorem dX7_mean_29 : decode cX7_mean 29 = .ok (.getfield 326, 3) := by decide +kernel
theorem dX7_mean_32 : decode cX7_mean 32 = .ok (.getfield 93, 3) := by decide +kernel
theorem dX7_mean_35 : decode cX7_mean 35 = .ok (.istore_n 3, 1) := by decide +kernel
theorem dX7_mean_36 : decode cX7_mean 36 = .ok (.iload_n 3, 1) := by decide +kernel
theorem dX7_mean_37 : decode cX7_mean 37 = .ok (.ifCond .ne 5, 3) := by decide +kernel
theorem dX7_mean_40 : decode cX7_mean 40 = .ok (.iconst 0, 1) := by decide +kernel
theorem dX7_mean_41 : decode cX7_mean 41 = .ok (.ireturn, 1) := by decide +kernel
theorem dX7_mean_42 : decode cX7_mean 42 = .ok (.aload_n 0, 1) := by decide +kernel
theorem dX7_mean_43 : decode cX7_mean 43 = .ok (.getfield 39, 3) := by decide +kernel
theorem dX7_mean_46 : decode cX7_mean 46 = .ok (.getfield 329, 3) := by decide +kernel
theorem dX7_mean_49 : decode cX7_mean 49 = .ok (.aload_n 0, 1) := by decide +kernel
theorem dX7_mean_50 : decode cX7_mean 50 = .ok (.getfield 39, 3) := by decide +kernel
theorem dX7_mean_53 : decode cX7_mean 53 = .ok (.iload_n 1, 1) := by decide +kernel
theorem dX7_mean_54 : decode cX7_mean 54 = .ok (.iload_n 2, 1) := by decide +kernel
theorem dX7_mean_55 : decode cX7_mean 55 = .ok (.invokevirtual 331, 3) := by decide +kernel
theorem dX7_mean_58 : decode cX7_mean 58 = .ok (.iaload, 1) := by decide +kernel
theorem dX7_mean_59 : decode cX7_mean 59 = .ok (.istore 4, 2) := by decide +kernel
theorem dX7_mean_61 : decode cX7_mean 61 = .ok (.iload 4, 2) := by decide +kernel
theorem dX7_mean_63 : decode cX7_mean 63 = .ok (.i2f, 1) := by decide +kernel
theorem dX7_mean_64 : decode cX7_mean 64 = .ok (.iload_n 3, 1) := by decide +kernel
theorem dX7_mean_65 : decode cX7_mean 65 = .ok (.i2f, 1) := by decide +kernel
theorem dX7_mean_66 : decode cX7_mean 66 = .ok (.fdiv, 1) := by decide +kernel
theorem dX7_mean_67 : decode cX7_mean 67 = .ok (.invokestatic 232, 3) := by decide +kernel
theorem dX7_mean_70 : decode cX7_mean 70 = .ok (.ireturn, 1) := by decide +kernel
theorem dX7_anew_0 : decode cX7_anew 0 = .ok (.iload_n 3, 1) := by decide +kernel
theorem dX7_anew_1 : decode cX7_anew 1 = .ok (.ifCond .lt 8, 3) := by decide +kernel
theorem dX7_anew_4 : decode cX7_anew 4 = .ok (.iload_n 3, 1) := by decide +kernel
theorem dX7_anew_5 : decode cX7_anew 5 = .ok (.iconst 2, 1) := by decide +kernel
theorem dX7_anew_6 : decode cX7_anew 6 = .ok (.if_icmp .le 14, 3) := by decide +kernel
theorem dX7_anew_9 : decode cX7_anew 9 = .ok (.new 178, 3) := by decide +kernel
theorem dX7_anew_12 : decode cX7_anew 12 = .ok (.dup, 1) := by decide +kernel
theorem dX7_anew_13 : decode cX7_anew 13 = .ok (.ldc_w 334, 3) := by decide +kernel
theorem dX7_anew_16 : decode cX7_anew 16 = .ok (.invokespecial 182, 3) := by decide +kernel
theorem dX7_anew_19 : decode cX7_anew 19 = .ok (.athrow, 1) := by decide +kernel
theorem dX7_anew_20 : decode cX7_anew 20 = .ok (.iload_n 1, 1) := by decide +kernel
theorem dX7_anew_21 : decode cX7_anew 21 = .ok (.invokestatic 318, 3) := by decide +kernel
theorem dX7_anew_24 : decode cX7_anew 24 = .ok (.ifCond .eq 10, 3) := by decide +kernel
theorem dX7_anew_27 : decode cX7_anew 27 = .ok (.iload_n 2, 1) := by decide +kernel
theorem dX7_anew_28 : decode cX7_anew 28 = .ok (.invokestatic 321, 3) := by decide +kernel
theorem dX7_anew_31 : decode cX7_anew 31 = .ok (.ifCond .ne 14, 3) := by decide +kernel
theorem dX7_anew_34 : decode cX7_anew 34 = .ok (.new 61, 3) := by decide +kernel
theorem dX7_anew_37 : decode cX7_anew 37 = .ok (.dup, 1) := by decide +kernel
theorem dX7_anew_38 : decode cX7_anew 38 = .ok (.ldc_w 324, 3) := by decide +kernel
theorem dX7_anew_41 : decode cX7_anew 41 = .ok (.invokespecial 65, 3) := by decide +kernel
theorem dX7_anew_44 : decode cX7_anew 44 = .ok (.athrow, 1) := by decide +kernel
theorem dX7_anew_45 : decode cX7_anew 45 = .ok (.aload_n 0, 1) := by decide +kernel
theorem dX7_anew_46 : decode cX7_anew 46 = .ok (.getfield 39, 3) := by decide +kernel
theorem dX7_anew_49 : decode cX7_anew 49 = .ok (.iload_n 1, 1) := by decide +kernel
theorem dX7_anew_50 : decode cX7_anew 50 = .ok (.iload_n 2, 1) := by decide +kernel
theorem dX7_anew_51 : decode cX7_anew 51 = .ok (.invokevirtual 331, 3) := by decide +kernel
theorem dX7_anew_54 : decode cX7_anew 54 = .ok (.istore 4, 2) := by decide +kernel
theorem dX7_anew_56 : decode cX7_anew 56 = .ok (.iload_n 3, 1) := by decide +kernel
theorem dX7_anew_57 : decode cX7_anew 57 = .ok (.lookupswitch 49 #[(0, 27), (1, 38)], 27) := by decide +kernel
theorem dX7_anew_84 : decode cX7_anew 84 = .ok (.aload_n 0, 1) := by decide +kernel
theorem dX7_anew_85 : decode cX7_anew 85 = .ok (.getfield 39, 3) := by decide +kernel
theorem dX7_anew_88 : decode cX7_anew 88 = .ok (.getfield 336, 3) := by decide +kernel
theorem dX7_anew_91 : decode cX7_anew 91 = .ok (.iload 4, 2) := by decide +kernel
theorem dX7_anew_93 : decode cX7_anew 93 = .ok (.iaload, 1) := by decide +kernel
theorem dX7_anew_94 : decode cX7_anew 94 = .ok (.ireturn, 1) := by decide +kernel
theorem dX7_anew_95 : decode cX7_anew 95 = .ok (.aload_n 0, 1) := by decide +kernel
theorem dX7_anew_96 : decode cX7_anew 96 = .ok (.getfield 39, 3) := by decide +kernel
theorem dX7_anew_99 : decode cX7_anew 99 = .ok (.getfield 339, 3) := by decide +kernel
theorem dX7_anew_102 : decode cX7_anew 102 = .ok (.iload 4, 2) := by decide +kernel
theorem dX7_anew_104 : decode cX7_anew 104 = .ok (.iaload, 1) := by decide +kernel
theorem dX7_anew_105 : decode cX7_anew 105 = .ok (.ireturn, 1) := by decide +kernel
theorem dX7_anew_106 : decode cX7_anew 106 = .ok (.aload_n 0, 1) := by decide +kernel
theorem dX7_anew_107 : decode cX7_anew 107 = .ok (.getfield 39, 3) := by decide +kernel
theorem dX7_anew_110 : decode cX7_anew 110 = .ok (.getfield 342, 3) := by decide +kernel
theorem dX7_anew_113 : decode cX7_anew 113 = .ok (.iload 4, 2) := by decide +kernel
theorem dX7_anew_115 : decode cX7_anew 115 = .ok (.iaload, 1) := by decide +kernel
theorem dX7_anew_116 : decode cX7_anew 116 = .ok (.ireturn, 1) := by decide +kernel
theorem dX7_homes_0 : decode cX7_homes 0 = .ok (.aload_n 0, 1) := by decide +kernel
theorem dX7_homes_1 : decode cX7_homes 1 = .ok (.getfield 46, 3) := by decide +kernel
theorem dX7_homes_4 : decode cX7_homes 4 = .ok (.getfield 84, 3) := by decide +kernel
theorem dX7_homes_7 : decode cX7_homes 7 = .ok (.astore_n 3, 1) := by decide +kernel
theorem dX7_homes_8 : decode cX7_homes 8 = .ok (.iload_n 1, 1) := by decide +kernel
theorem dX7_homes_9 : decode cX7_homes 9 = .ok (.ifCond .lt 20, 3) := by decide +kernel
theorem dX7_homes_12 : decode cX7_homes 12 = .ok (.iload_n 1, 1) := by decide +kernel
theorem dX7_homes_13 : decode cX7_homes 13 = .ok (.aload_n 3, 1) := by decide +kernel
theorem dX7_homes_14 : decode cX7_homes 14 = .ok (.getfield 90, 3) := by decide +kernel
theorem dX7_homes_17 : decode cX7_homes 17 = .ok (.if_icmp .ge 12, 3) := by decide +kernel
theorem dX7_homes_20 : decode cX7_homes 20 = .ok (.iload_n 2, 1) := by decide +kernel
theorem dX7_homes_21 : decode cX7_homes 21 = .ok (.ifCond .lt 8, 3) := by decide +kernel
theorem dX7_homes_24 : decode cX7_homes 24 = .ok (.iload_n 2, 1) := by decide +kernel
theorem dX7_homes_25 : decode cX7_homes 25 = .ok (.iconst 1, 1) := by decide +kernel
theorem dX7_homes_26 : decode cX7_homes 26 = .ok (.if_icmp .le 14, 3) := by decide +kernel
theorem dX7_homes_29 : decode cX7_homes 29 = .ok (.new 178, 3) := by decide +kernel
theorem dX7_homes_32 : decode cX7_homes 32 = .ok (.dup, 1) := by decide +kernel
theorem dX7_homes_33 : decode cX7_homes 33 = .ok (.ldc_w 345, 3) := by decide +kernel
theorem dX7_homes_36 : decode cX7_homes 36 = .ok (.invokespecial 182, 3) := by decide +kernel
theorem dX7_homes_39 : decode cX7_homes 39 = .ok (.athrow, 1) := by decide +kernel
theorem dX7_homes_40 : decode cX7_homes 40 = .ok (.iconst (-1), 1) := by decide +kernel
theorem dX7_homes_41 : decode cX7_homes 41 = .ok (.istore 4, 2) := by decide +kernel
theorem dX7_homes_43 : decode cX7_homes 43 = .ok (.iconst 0, 1) := by decide +kernel
theorem dX7_homes_44 : decode cX7_homes 44 = .ok (.istore 5, 2) := by decide +kernel
theorem dX7_homes_46 : decode cX7_homes 46 = .ok (.iconst 0, 1) := by decide +kernel
theorem dX7_homes_47 : decode cX7_homes 47 = .ok (.istore 6, 2) := by decide +kernel
theorem dX7_homes_49 : decode cX7_homes 49 = .ok (.iload 6, 2) := by decide +kernel
theorem dX7_homes_51 : decode cX7_homes 51 = .ok (.aload_n 3, 1) := by decide +kernel
theorem dX7_homes_52 : decode cX7_homes 52 = .ok (.getfield 87, 3) := by decide +kernel
theorem dX7_homes_55 : decode cX7_homes 55 = .ok (.if_icmp .ge 50, 3) := by decide +kernel
theorem dX7_homes_58 : decode cX7_homes 58 = .ok (.aload_n 0, 1) := by decide +kernel
theorem dX7_homes_59 : decode cX7_homes 59 = .ok (.getfield 39, 3) := by decide +kernel
theorem dX7_homes_62 : decode cX7_homes 62 = .ok (.iload_n 1, 1) := by decide +kernel
theorem dX7_homes_63 : decode cX7_homes 63 = .ok (.iload 6, 2) := by decide +kernel
theorem dX7_homes_65 : decode cX7_homes 65 = .ok (.aload_n 3, 1) := by decide +kernel
theorem dX7_homes_66 : decode cX7_homes 66 = .ok (.getfield 102, 3) := by decide +kernel
theorem dX7_homes_69 : decode cX7_homes 69 = .ok (.aload_n 3, 1) := by decide +kernel
theorem dX7_homes_70 : decode cX7_homes 70 = .ok (.getfield 99, 3) := by decide +kernel
theorem dX7_homes_73 : decode cX7_homes 73 = .ok (.invokevirtual 347, 3) := by decide +kernel
theorem dX7_homes_76 : decode cX7_homes 76 = .ok (.istore 7, 2) := by decide +kernel
theorem dX7_homes_78 : decode cX7_homes 78 = .ok (.iload 4, 2) := by decide +kernel
theorem dX7_homes_80 : decode cX7_homes 80 = .ok (.iconst (-1), 1) := by decide +kernel
theorem dX7_homes_81 : decode cX7_homes 81 = .ok (.if_icmp .eq 10, 3) := by decide +kernel
theorem dX7_homes_84 : decode cX7_homes 84 = .ok (.iload 7, 2) := by decide +kernel
theorem dX7_homes_86 : decode cX7_homes 86 = .ok (.iload 5, 2) := by decide +kernel
theorem dX7_homes_88 : decode cX7_homes 88 = .ok (.if_icmp .ge 11, 3) := by decide +kernel
theorem dX7_homes_91 : decode cX7_homes 91 = .ok (.iload 6, 2) := by decide +kernel
theorem dX7_homes_93 : decode cX7_homes 93 = .ok (.istore 4, 2) := by decide +kernel
theorem dX7_homes_95 : decode cX7_homes 95 = .ok (.iload 7, 2) := by decide +kernel
theorem dX7_homes_97 : decode cX7_homes 97 = .ok (.istore 5, 2) := by decide +kernel
theorem dX7_homes_99 : decode cX7_homes 99 = .ok (.iinc 6 1, 3) := by decide +kernel
theorem dX7_homes_102 : decode cX7_homes 102 = .ok (.goto (-53), 3) := by decide +kernel
theorem dX7_homes_105 : decode cX7_homes 105 = .ok (.iload_n 2, 1) := by decide +kernel
theorem dX7_homes_106 : decode cX7_homes 106 = .ok (.ifCond .ne 8, 3) := by decide +kernel
theorem dX7_homes_109 : decode cX7_homes 109 = .ok (.iload 4, 2) := by decide +kernel
theorem dX7_homes_111 : decode cX7_homes 111 = .ok (.goto 5, 3) := by decide +kernel
theorem dX7_homes_114 : decode cX7_homes 114 = .ok (.iload 5, 2) := by decide +kernel
theorem dX7_homes_116 : decode cX7_homes 116 = .ok (.ireturn, 1) := by decide +kernel
set_option maxRecDepth 20000 in
set_option maxHeartbeats 4000000 in
theorem vX7_homes_0 {l : Launch} {x : CX} {a0 : Nat} {x1 : Int32} {x2 : Int32} {h : PH} {rc rs n0 : Nat} {Q : Option Value → PH → Prop} {X : String → PH → Prop}
    (K : ((hK h a0).1 = 7) ∧ ∃ b2, (hR h a0 6 = some b2) ∧ ((hK h b2).1 = 3) ∧ ∃ b5, (hR h b2 0 = some b5) ∧ ((x1 < 0 → ThrowOk x RX7 "java/util/NoSuchElementException" "no such car, or what of homes" ["java/lang/RuntimeException", "java/lang/Exception"] 345 182 ∧ 1 ≤ rc ∧ 6 ≤ rs ∧ X "java/util/NoSuchElementException" h) ∧ (¬ x1 < 0 → ((hK h b5).1 = 1) ∧ (((hI h b5 1) ≤ x1 → ThrowOk x RX7 "java/util/NoSuchElementException" "no such car, or what of homes" ["java/lang/RuntimeException", "java/lang/Exception"] 345 182 ∧ 1 ≤ rc ∧ 6 ≤ rs ∧ X "java/util/NoSuchElementException" h) ∧ (¬ (hI h b5 1) ≤ x1 → ((x2 < 0 → ThrowOk x RX7 "java/util/NoSuchElementException" "no such car, or what of homes" ["java/lang/RuntimeException", "java/lang/Exception"] 345 182 ∧ 1 ≤ rc ∧ 6 ≤ rs ∧ X "java/util/NoSuchElementException" h) ∧ (¬ x2 < 0 → ((x2 ≤ 1 → Gm l x mX7_homes 8 49 [(0, .ref a0), (1, .int x1), (2, .int x2), (3, .ref b5), (4, .int (-1)), (5, .int 0), (6, .int 0)] [] h rc rs n0 Q X) ∧ (¬ x2 ≤ 1 → ThrowOk x RX7 "java/util/NoSuchElementException" "no such car, or what of homes" ["java/lang/RuntimeException", "java/lang/Exception"] 345 182 ∧ 1 ≤ rc ∧ 6 ≤ rs ∧ X "java/util/NoSuchElementException" h))))))))) :
    Gm l x mX7_homes 8 0 [(0, .ref a0), (1, .int x1), (2, .int x2)] [] h rc rs n0 Q X := by
  refine g_aload_n dX7_homes_0 rfl 0 rfl ?_
  obtain ⟨e1, b2, e3, K⟩ := K
  refine g_get (c := 7) (k := 6) (v := .ref b2) dX7_homes_1 fc_7 (by decide) (by decide) bw_401 (congrArg pr e3) e1 ?_
  obtain ⟨e4, b5, e6, K⟩ := K
  refine g_get (c := 3) (k := 0) (v := .ref b5) dX7_homes_4 fc_3 (by decide) (by decide) bw_371 (congrArg pr e6) e4 ?_
  refine g_astore_n (lv' := [(0, .ref a0), (1, .int x1), (2, .int x2), (3, .ref b5)]) dX7_homes_7 rfl (by decide) rfl ?_
  refine g_iload_n dX7_homes_8 rfl 1 rfl ?_
  refine g_if_lt (tgt := 29) dX7_homes_9 (by decide) (fun c7 => ?_) (fun c7 => ?_)
  · replace K := K.1 c7
    exact g_throwW (cls := "java/util/NoSuchElementException") (text := "no such car, or what of homes") (names := ["java/lang/RuntimeException", "java/lang/Exception"]) (by decide) (by decide) bw_976 bw_22 K.1.1 K.1.2 dX7_homes_29 dX7_homes_32 dX7_homes_33 dX7_homes_36 dX7_homes_39 (by decide) (Nat.le_of_ble_eq_true rfl) K.2.1 K.2.2.1 K.2.2.2
  · replace K := K.2 c7
    refine g_iload_n dX7_homes_12 rfl 1 rfl ?_
    refine g_aload_n dX7_homes_13 rfl 3 rfl ?_
    obtain ⟨e9, K⟩ := K
    refine g_get (c := 1) (k := 1) (v := .int (hI h b5 1)) dX7_homes_14 fc_1 (by decide) (by decide) bw_183 rfl e9 ?_
    refine g_icmp_ge (tgt := 29) dX7_homes_17 (by decide) (fun c10 => ?_) (fun c10 => ?_)
    · replace K := K.1 c10
      exact g_throwW (cls := "java/util/NoSuchElementException") (text := "no such car, or what of homes") (names := ["java/lang/RuntimeException", "java/lang/Exception"]) (by decide) (by decide) bw_976 bw_22 K.1.1 K.1.2 dX7_homes_29 dX7_homes_32 dX7_homes_33 dX7_homes_36 dX7_homes_39 (by decide) (Nat.le_of_ble_eq_true rfl) K.2.1 K.2.2.1 K.2.2.2
    · replace K := K.2 c10
      refine g_iload_n dX7_homes_20 rfl 2 rfl ?_
      refine g_if_lt (tgt := 29) dX7_homes_21 (by decide) (fun c12 => ?_) (fun c12 => ?_)
      · replace K := K.1 c12
        exact g_throwW (cls := "java/util/NoSuchElementException") (text := "no such car, or what of homes") (names := ["java/lang/RuntimeException", "java/lang/Exception"]) (by decide) (by decide) bw_976 bw_22 K.1.1 K.1.2 dX7_homes_29 dX7_homes_32 dX7_homes_33 dX7_homes_36 dX7_homes_39 (by decide) (Nat.le_of_ble_eq_true rfl) K.2.1 K.2.2.1 K.2.2.2
      · replace K := K.2 c12
        refine g_iload_n dX7_homes_24 rfl 2 rfl ?_
        refine g_iconst (v := 1) dX7_homes_25 (by decide) ?_
        refine g_icmp_le (tgt := 40) dX7_homes_26 (by decide) (fun c14 => ?_) (fun c14 => ?_)
        · replace K := K.1 c14
          refine g_iconst (v := (-1)) dX7_homes_40 (by decide) ?_
          refine g_istore (lv' := [(0, .ref a0), (1, .int x1), (2, .int x2), (3, .ref b5), (4, .int (-1))]) dX7_homes_41 (by decide) rfl ?_
          refine g_iconst (v := 0) dX7_homes_43 (by decide) ?_
          refine g_istore (lv' := [(0, .ref a0), (1, .int x1), (2, .int x2), (3, .ref b5), (4, .int (-1)), (5, .int 0)]) dX7_homes_44 (by decide) rfl ?_
          refine g_iconst (v := 0) dX7_homes_46 (by decide) ?_
          refine g_istore (lv' := [(0, .ref a0), (1, .int x1), (2, .int x2), (3, .ref b5), (4, .int (-1)), (5, .int 0), (6, .int 0)]) dX7_homes_47 (by decide) rfl ?_
          exact K
        · replace K := K.2 c14
          exact g_throwW (cls := "java/util/NoSuchElementException") (text := "no such car, or what of homes") (names := ["java/lang/RuntimeException", "java/lang/Exception"]) (by decide) (by decide) bw_976 bw_22 K.1.1 K.1.2 dX7_homes_29 dX7_homes_32 dX7_homes_33 dX7_homes_36 dX7_homes_39 (by decide) (Nat.le_of_ble_eq_true rfl) K.2.1 K.2.2.1 K.2.2.2
set_option maxRecDepth 20000 in
set_option maxHeartbeats 4000000 in
theorem vX7_homes_49 {l : Launch} {x : CX} {a0 : Nat} {x1 : Int32} {x2 : Int32} {a3 : Nat} {x4 : Int32} {x5 : Int32} {x6 : Int32} {h : PH} {rc rs n0 : Nat} {Q : Option Value → PH → Prop} {X : String → PH → Prop}
    (K : ((hK h a3).1 = 1) ∧ (((hI h a3 0) ≤ x6 → Q (some (.int (if x2 = 0 then x4 else x5 : Int32))) h) ∧ (¬ (hI h a3 0) ≤ x6 → ((hK h a0).1 = 7) ∧ ∃ b5, (hR h a0 5 = some b5) ∧ ((hK h b5).1 = 5) ∧ ∃ (q7 : Int32 → PH → Prop), CI l x mX5_waitedByHome 5 0 0 [.ref b5, .int x1, .int x6, .int (hI h a3 5), .int (hI h a3 4)] h q7 ∧ ∀ (r11 : Int32) (h10 : PH), q7 r11 h10 → Gm l x mX7_homes 8 49 [(0, .ref a0), (1, .int x1), (2, .int x2), (3, .ref a3), (4, .int (if x4 = (-1) then x6 else (if x5 ≤ r11 then x4 else x6 : Int32) : Int32)), (5, .int (if x4 = (-1) then r11 else (if x5 ≤ r11 then x5 else r11 : Int32) : Int32)), (6, .int (x6 + 1))] [] h10 rc rs n0 Q X))) :
    Gm l x mX7_homes 8 49 [(0, .ref a0), (1, .int x1), (2, .int x2), (3, .ref a3), (4, .int x4), (5, .int x5), (6, .int x6)] [] h rc rs n0 Q X := by
  refine g_iload dX7_homes_49 6 rfl ?_
  refine g_aload_n dX7_homes_51 rfl 3 rfl ?_
  obtain ⟨e1, K⟩ := K
  refine g_get (c := 1) (k := 0) (v := .int (hI h a3 0)) dX7_homes_52 fc_1 (by decide) (by decide) bw_180 rfl e1 ?_
  refine g_icmp_ge (tgt := 105) dX7_homes_55 (by decide) (fun c2 => ?_) (fun c2 => ?_)
  · replace K := K.1 c2
    refine g_iload_n dX7_homes_105 rfl 2 rfl ?_
    have KJ : Gm l x mX7_homes 8 116 [(0, .ref a0), (1, .int x1), (2, .int x2), (3, .ref a3), (4, .int x4), (5, .int x5), (6, .int x6)] [.int (if x2 = 0 then x4 else x5 : Int32)] h rc rs n0 Q X := by
      exact g_iret dX7_homes_116 rfl K
    refine g_if_ne (tgt := 114) dX7_homes_106 (by decide) (fun c3 => ?_) (fun c3 => ?_)
    · refine g_iload dX7_homes_114 5 rfl ?_
      first | (simp only [if_neg c3] at KJ; with_reducible exact KJ) | (simp only [if_neg c3, ite_true, ite_false, eq_self] at KJ; with_reducible exact KJ) | (simp only [if_neg c3, reduceIte, eq_self] at KJ; exact KJ) | exact KJ
    · refine g_iload dX7_homes_109 4 rfl ?_
      refine g_goto (tgt := 116) dX7_homes_111 (by decide) ?_
      first | (simp only [if_pos c3] at KJ; with_reducible exact KJ) | (simp only [if_pos c3, ite_true, ite_false, eq_self] at KJ; with_reducible exact KJ) | (simp only [if_pos c3, reduceIte, eq_self] at KJ; exact KJ) | exact KJ
  · replace K := K.2 c2
    refine g_aload_n dX7_homes_58 rfl 0 rfl ?_
    obtain ⟨e4, b5, e6, K⟩ := K
    refine g_get (c := 7) (k := 5) (v := .ref b5) dX7_homes_59 fc_7 (by decide) (by decide) bw_400 (congrArg pr e6) e4 ?_
    refine g_iload_n dX7_homes_62 rfl 1 rfl ?_
    refine g_iload dX7_homes_63 6 rfl ?_
    refine g_aload_n dX7_homes_65 rfl 3 rfl ?_
    refine g_get (c := 1) (k := 5) (v := .int (hI h a3 5)) dX7_homes_66 fc_1 (by decide) (by decide) bw_201 rfl e1 ?_
    refine g_aload_n dX7_homes_69 rfl 3 rfl ?_
    refine g_get (c := 1) (k := 4) (v := .int (hI h a3 4)) dX7_homes_70 fc_1 (by decide) (by decide) bw_197 rfl e1 ?_
    obtain ⟨e9, K⟩ := K
    obtain ⟨q7, C8, K⟩ := K
    refine g_callV (M' := mX5_waitedByHome) (b := b5) (As := [.int x1, .int x6, .int (hI h a3 5), .int (hI h a3 4)]) (rest := []) dX7_homes_73 bw_1090 bw_1091 bw_1092 bw_6 bw_1093 ⟨by decide +kernel, by decide +kernel, show (parseMethodDescriptor mX5_waitedByHome.1.desc).map (fun d => d.parameters.length) = some 4 by decide +kernel⟩ (by decide) (by decide) (Nat.le_of_ble_eq_true rfl) fc_5 (by decide) rfl e9 C8 (Nat.zero_le _) (Nat.zero_le _) (fun _ _ h => h) ?_
    rintro _ h10 ⟨r11, rfl, K1⟩ -
    replace K := K r11 h10 K1
    show Gm l x mX7_homes 8 76 [(0, .ref a0), (1, .int x1), (2, .int x2), (3, .ref a3), (4, .int x4), (5, .int x5), (6, .int x6)] [.int r11] h10 rc rs n0 Q X
    refine g_istore (lv' := [(0, .ref a0), (1, .int x1), (2, .int x2), (3, .ref a3), (4, .int x4), (5, .int x5), (6, .int x6), (7, .int r11)]) dX7_homes_76 (by decide) rfl ?_
    refine g_iload dX7_homes_78 4 rfl ?_
    refine g_iconst (v := (-1)) dX7_homes_80 (by decide) ?_
    have KJ : Gm l x mX7_homes 8 99 [(0, .ref a0), (1, .int x1), (2, .int x2), (3, .ref a3), (4, .int (if x4 = (-1) then x6 else (if x5 ≤ r11 then x4 else x6 : Int32) : Int32)), (5, .int (if x4 = (-1) then r11 else (if x5 ≤ r11 then x5 else r11 : Int32) : Int32)), (6, .int x6), (7, .int r11)] [] h10 rc rs n0 Q X := by
      refine g_iinc (v := (x6 + 1)) (lv' := [(0, .ref a0), (1, .int x1), (2, .int x2), (3, .ref a3), (4, .int (if x4 = (-1) then x6 else (if x5 ≤ r11 then x4 else x6 : Int32) : Int32)), (5, .int (if x4 = (-1) then r11 else (if x5 ≤ r11 then x5 else r11 : Int32) : Int32)), (6, .int (x6 + 1)), (7, .int r11)]) dX7_homes_99 6 rfl (by rfl) (by decide) rfl ?_
      refine g_goto (tgt := 49) dX7_homes_102 (by decide) ?_
      exact Gm.sub [0, 1, 2, 3, 4, 5, 6] rfl K
    refine g_icmp_eq (tgt := 91) dX7_homes_81 (by decide) (fun c12 => ?_) (fun c12 => ?_)
    · refine g_iload dX7_homes_91 6 rfl ?_
      refine g_istore (lv' := [(0, .ref a0), (1, .int x1), (2, .int x2), (3, .ref a3), (4, .int x6), (5, .int x5), (6, .int x6), (7, .int r11)]) dX7_homes_93 (by decide) rfl ?_
      refine g_iload dX7_homes_95 7 rfl ?_
      refine g_istore (lv' := [(0, .ref a0), (1, .int x1), (2, .int x2), (3, .ref a3), (4, .int x6), (5, .int r11), (6, .int x6), (7, .int r11)]) dX7_homes_97 (by decide) rfl ?_
      first | (simp only [if_pos c12] at KJ; with_reducible exact KJ) | (simp only [if_pos c12, ite_true, ite_false, eq_self] at KJ; with_reducible exact KJ) | (simp only [if_pos c12, reduceIte, eq_self] at KJ; exact KJ) | exact KJ
    · refine g_iload dX7_homes_84 7 rfl ?_
      refine g_iload dX7_homes_86 5 rfl ?_
      refine g_icmp_ge (tgt := 99) dX7_homes_88 (by decide) (fun c13 => ?_) (fun c13 => ?_)
      · first | (simp only [if_neg c12, if_pos c13] at KJ; with_reducible exact KJ) | (simp only [if_neg c12, if_pos c13, ite_true, ite_false, eq_self] at KJ; with_reducible exact KJ) | (simp only [if_neg c12, if_pos c13, reduceIte, eq_self] at KJ; exact KJ) | exact KJ
      · refine g_iload dX7_homes_91 6 rfl ?_
        refine g_istore (lv' := [(0, .ref a0), (1, .int x1), (2, .int x2), (3, .ref a3), (4, .int x6), (5, .int x5), (6, .int x6), (7, .int r11)]) dX7_homes_93 (by decide) rfl ?_
        refine g_iload dX7_homes_95 7 rfl ?_
        refine g_istore (lv' := [(0, .ref a0), (1, .int x1), (2, .int x2), (3, .ref a3), (4, .int x6), (5, .int r11), (6, .int x6), (7, .int r11)]) dX7_homes_97 (by decide) rfl ?_
        first | (simp only [if_neg c12, if_neg c13] at KJ; with_reducible exact KJ) | (simp only [if_neg c12, if_neg c13, ite_true, ite_false, eq_self] at KJ; with_reducible exact KJ) | (simp only [if_neg c12, if_neg c13, reduceIte, eq_self] at KJ; exact KJ) | exact KJ
theorem dX7_later_0 : decode cX7_later 0 = .ok (.aload_n 0, 1) := by decide +kernel
theorem dX7_later_1 : decode cX7_later 1 = .ok (.iload_n 1, 1) := by decide +kernel
theorem dX7_later_2 : decode cX7_later 2 = .ok (.invokevirtual 351, 3) := by decide +kernel
theorem dX7_later_5 : decode cX7_later 5 = .ok (.ifCond .ne 14, 3) := by decide +kernel
theorem dX7_later_8 : decode cX7_later 8 = .ok (.new 178, 3) := by decide +kernel
theorem dX7_later_11 : decode cX7_later 11 = .ok (.dup, 1) := by decide +kernel
theorem dX7_later_12 : decode cX7_later 12 = .ok (.ldc_w 354, 3) := by decide +kernel
theorem dX7_later_15 : decode cX7_later 15 = .ok (.invokespecial 182, 3) := by decide +kernel
theorem dX7_later_18 : decode cX7_later 18 = .ok (.athrow, 1) := by decide +kernel
theorem dX7_later_19 : decode cX7_later 19 = .ok (.aload_n 0, 1) := by decide +kernel
theorem dX7_later_20 : decode cX7_later 20 = .ok (.getfield 46, 3) := by decide +kernel
theorem dX7_later_23 : decode cX7_later 23 = .ok (.getfield 84, 3) := by decide +kernel
theorem dX7_later_26 : decode cX7_later 26 = .ok (.astore_n 2, 1) := by decide +kernel
theorem dX7_later_27 : decode cX7_later 27 = .ok (.aload_n 0, 1) := by decide +kernel
theorem dX7_later_28 : decode cX7_later 28 = .ok (.getfield 39, 3) := by decide +kernel
theorem dX7_later_31 : decode cX7_later 31 = .ok (.aload_n 0, 1) := by decide +kernel
theorem dX7_later_32 : decode cX7_later 32 = .ok (.getfield 39, 3) := by decide +kernel
theorem dX7_later_35 : decode cX7_later 35 = .ok (.aload_n 2, 1) := by decide +kernel
theorem dX7_later_36 : decode cX7_later 36 = .ok (.getfield 102, 3) := by decide +kernel
theorem dX7_later_39 : decode cX7_later 39 = .ok (.aload_n 2, 1) := by decide +kernel
theorem dX7_later_40 : decode cX7_later 40 = .ok (.getfield 99, 3) := by decide +kernel
theorem dX7_later_43 : decode cX7_later 43 = .ok (.invokevirtual 331, 3) := by decide +kernel
theorem dX7_later_46 : decode cX7_later 46 = .ok (.iload_n 1, 1) := by decide +kernel
theorem dX7_later_47 : decode cX7_later 47 = .ok (.invokevirtual 356, 3) := by decide +kernel
theorem dX7_later_50 : decode cX7_later 50 = .ok (.istore_n 3, 1) := by decide +kernel
theorem dX7_later_51 : decode cX7_later 51 = .ok (.bipush 20, 2) := by decide +kernel
theorem dX7_later_53 : decode cX7_later 53 = .ok (.bipush 99, 2) := by decide +kernel
theorem dX7_later_55 : decode cX7_later 55 = .ok (.aload_n 0, 1) := by decide +kernel
theorem dX7_later_56 : decode cX7_later 56 = .ok (.getfield 39, 3) := by decide +kernel
theorem dX7_later_59 : decode cX7_later 59 = .ok (.getfield 326, 3) := by decide +kernel
theorem dX7_later_62 : decode cX7_later 62 = .ok (.getfield 240, 3) := by decide +kernel
theorem dX7_later_65 : decode cX7_later 65 = .ok (.iload_n 1, 1) := by decide +kernel
theorem dX7_later_66 : decode cX7_later 66 = .ok (.aaload, 1) := by decide +kernel
theorem dX7_later_67 : decode cX7_later 67 = .ok (.getfield 247, 3) := by decide +kernel
theorem dX7_later_70 : decode cX7_later 70 = .ok (.isub, 1) := by decide +kernel
theorem dX7_later_71 : decode cX7_later 71 = .ok (.invokestatic 359, 3) := by decide +kernel
theorem dX7_later_74 : decode cX7_later 74 = .ok (.istore 4, 2) := by decide +kernel
theorem dX7_later_76 : decode cX7_later 76 = .ok (.iload 4, 2) := by decide +kernel
theorem dX7_later_78 : decode cX7_later 78 = .ok (.istore 5, 2) := by decide +kernel
theorem dX7_later_80 : decode cX7_later 80 = .ok (.iload 5, 2) := by decide +kernel
theorem dX7_later_82 : decode cX7_later 82 = .ok (.ifCond .le 49, 3) := by decide +kernel
theorem dX7_later_85 : decode cX7_later 85 = .ok (.iload_n 3, 1) := by decide +kernel
theorem dX7_later_86 : decode cX7_later 86 = .ok (.iconst (-1), 1) := by decide +kernel
theorem dX7_later_87 : decode cX7_later 87 = .ok (.if_icmp .eq 44, 3) := by decide +kernel
theorem dX7_later_90 : decode cX7_later 90 = .ok (.aload_n 0, 1) := by decide +kernel
theorem dX7_later_91 : decode cX7_later 91 = .ok (.getfield 39, 3) := by decide +kernel
theorem dX7_later_94 : decode cX7_later 94 = .ok (.iload_n 1, 1) := by decide +kernel
theorem dX7_later_95 : decode cX7_later 95 = .ok (.iload 5, 2) := by decide +kernel
theorem dX7_later_97 : decode cX7_later 97 = .ok (.aload_n 2, 1) := by decide +kernel
theorem dX7_later_98 : decode cX7_later 98 = .ok (.getfield 102, 3) := by decide +kernel
theorem dX7_later_101 : decode cX7_later 101 = .ok (.aload_n 2, 1) := by decide +kernel
theorem dX7_later_102 : decode cX7_later 102 = .ok (.getfield 99, 3) := by decide +kernel
theorem dX7_later_105 : decode cX7_later 105 = .ok (.invokevirtual 364, 3) := by decide +kernel
theorem dX7_later_108 : decode cX7_later 108 = .ok (.istore 6, 2) := by decide +kernel
theorem dX7_later_110 : decode cX7_later 110 = .ok (.iload 6, 2) := by decide +kernel
theorem dX7_later_112 : decode cX7_later 112 = .ok (.iconst (-1), 1) := by decide +kernel
theorem dX7_later_113 : decode cX7_later 113 = .ok (.if_icmp .eq 12, 3) := by decide +kernel
theorem dX7_later_116 : decode cX7_later 116 = .ok (.iload 6, 2) := by decide +kernel
theorem dX7_later_118 : decode cX7_later 118 = .ok (.iload_n 3, 1) := by decide +kernel
theorem dX7_later_119 : decode cX7_later 119 = .ok (.if_icmp .gt 6, 3) := by decide +kernel
theorem dX7_later_122 : decode cX7_later 122 = .ok (.iload 5, 2) := by decide +kernel
theorem dX7_later_124 : decode cX7_later 124 = .ok (.ireturn, 1) := by decide +kernel
theorem dX7_later_125 : decode cX7_later 125 = .ok (.iinc 5 (-1), 3) := by decide +kernel
theorem dX7_later_128 : decode cX7_later 128 = .ok (.goto (-48), 3) := by decide +kernel
theorem dX7_later_131 : decode cX7_later 131 = .ok (.iconst 0, 1) := by decide +kernel
theorem dX7_later_132 : decode cX7_later 132 = .ok (.ireturn, 1) := by decide +kernel
theorem dX7_fits_0 : decode cX7_fits 0 = .ok (.iload_n 1, 1) := by decide +kernel
theorem dX7_fits_1 : decode cX7_fits 1 = .ok (.ifCond .lt 8, 3) := by decide +kernel
theorem dX7_fits_4 : decode cX7_fits 4 = .ok (.iload_n 1, 1) := by decide +kernel
theorem dX7_fits_5 : decode cX7_fits 5 = .ok (.iconst 1, 1) := by decide +kernel
theorem dX7_fits_6 : decode cX7_fits 6 = .ok (.if_icmp .le 14, 3) := by decide +kernel
theorem dX7_fits_9 : decode cX7_fits 9 = .ok (.new 178, 3) := by decide +kernel
theorem dX7_fits_12 : decode cX7_fits 12 = .ok (.dup, 1) := by decide +kernel
theorem dX7_fits_13 : decode cX7_fits 13 = .ok (.ldc_w 373, 3) := by decide +kernel
theorem dX7_fits_16 : decode cX7_fits 16 = .ok (.invokespecial 182, 3) := by decide +kernel
theorem dX7_fits_19 : decode cX7_fits 19 = .ok (.athrow, 1) := by decide +kernel
theorem dX7_fits_20 : decode cX7_fits 20 = .ok (.aload_n 0, 1) := by decide +kernel
theorem dX7_fits_21 : decode cX7_fits 21 = .ok (.invokevirtual 375, 3) := by decide +kernel
theorem dX7_fits_24 : decode cX7_fits 24 = .ok (.lstore_n 2, 1) := by decide +kernel
theorem dX7_fits_25 : decode cX7_fits 25 = .ok (.iload_n 1, 1) := by decide +kernel
theorem dX7_fits_26 : decode cX7_fits 26 = .ok (.ifCond .ne 8, 3) := by decide +kernel
theorem dX7_fits_29 : decode cX7_fits 29 = .ok (.lload_n 2, 1) := by decide +kernel
theorem dX7_fits_30 : decode cX7_fits 30 = .ok (.invokestatic 124, 3) := by decide +kernel
theorem dX7_fits_33 : decode cX7_fits 33 = .ok (.ireturn, 1) := by decide +kernel
theorem dX7_fits_34 : decode cX7_fits 34 = .ok (.lload_n 2, 1) := by decide +kernel
theorem dX7_fits_35 : decode cX7_fits 35 = .ok (.lconst 0, 1) := by decide +kernel
theorem dX7_fits_36 : decode cX7_fits 36 = .ok (.lcmp, 1) := by decide +kernel
theorem dX7_fits_37 : decode cX7_fits 37 = .ok (.ifCond .ne 7, 3) := by decide +kernel
theorem dX7_fits_40 : decode cX7_fits 40 = .ok (.iconst (-1), 1) := by decide +kernel
theorem dX7_fits_41 : decode cX7_fits 41 = .ok (.goto 7, 3) := by decide +kernel
theorem dX7_fits_44 : decode cX7_fits 44 = .ok (.lload_n 2, 1) := by decide +kernel
theorem dX7_fits_45 : decode cX7_fits 45 = .ok (.invokestatic 378, 3) := by decide +kernel
theorem dX7_fits_48 : decode cX7_fits 48 = .ok (.ireturn, 1) := by decide +kernel
set_option maxRecDepth 20000 in
set_option maxHeartbeats 4000000 in
theorem vX7_fits_0 {l : Launch} {x : CX} {a0 : Nat} {x1 : Int32} {h : PH} {rc rs n0 : Nat} {Q : Option Value → PH → Prop} {X : String → PH → Prop}
    (K : ((x1 < 0 → ThrowOk x RX7 "java/util/NoSuchElementException" "no such what of fits" ["java/lang/RuntimeException", "java/lang/Exception"] 373 182 ∧ 1 ≤ rc ∧ 6 ≤ rs ∧ X "java/util/NoSuchElementException" h) ∧ (¬ x1 < 0 → ((x1 ≤ 1 → ((hK h a0).1 = 7) ∧ ∃ (q4 : Int64 → PH → Prop), CJ l x mX7_allThatFit 6 0 0 [.ref a0] h q4 ∧ ∀ (r8 : Int64) (h7 : PH), q4 r8 h7 → ((¬ x1 = 0 → ((¬ (lg_cmp r8 0) = 0 → ∃ (q11 : Int32 → PH → Prop), CI l x mJ13_numberOfTrailingZeros_95d88 1 0 0 [.long r8] h7 q11 ∧ ∀ (r14 : Int32) (h13 : PH), q11 r14 h13 → Q (some (.int r14)) h13) ∧ ((lg_cmp r8 0) = 0 → Q (some (.int (-1))) h7))) ∧ (x1 = 0 → ∃ (q15 : Int32 → PH → Prop), CI l x mJ13_bitCount_95d88 0 0 0 [.long r8] h7 q15 ∧ ∀ (r18 : Int32) (h17 : PH), q15 r18 h17 → Q (some (.int r18)) h17))) ∧ (¬ x1 ≤ 1 → ThrowOk x RX7 "java/util/NoSuchElementException" "no such what of fits" ["java/lang/RuntimeException", "java/lang/Exception"] 373 182 ∧ 1 ≤ rc ∧ 6 ≤ rs ∧ X "java/util/NoSuchElementException" h))))) :
    Gm l x mX7_fits 8 0 [(0, .ref a0), (1, .int x1)] [] h rc rs n0 Q X := by
  refine g_iload_n dX7_fits_0 rfl 1 rfl ?_
  refine g_if_lt (tgt := 9) dX7_fits_1 (by decide) (fun c1 => ?_) (fun c1 => ?_)
  · replace K := K.1 c1
    exact g_throwW (cls := "java/util/NoSuchElementException") (text := "no such what of fits") (names := ["java/lang/RuntimeException", "java/lang/Exception"]) (by decide) (by decide) bw_976 bw_22 K.1.1 K.1.2 dX7_fits_9 dX7_fits_12 dX7_fits_13 dX7_fits_16 dX7_fits_19 (by decide) (Nat.le_of_ble_eq_true rfl) K.2.1 K.2.2.1 K.2.2.2
  · replace K := K.2 c1
    refine g_iload_n dX7_fits_4 rfl 1 rfl ?_
    refine g_iconst (v := 1) dX7_fits_5 (by decide) ?_
    refine g_icmp_le (tgt := 20) dX7_fits_6 (by decide) (fun c3 => ?_) (fun c3 => ?_)
    · replace K := K.1 c3
      refine g_aload_n dX7_fits_20 rfl 0 rfl ?_
      obtain ⟨e6, K⟩ := K
      obtain ⟨q4, C5, K⟩ := K
      refine g_callV (M' := mX7_allThatFit) (b := a0) (As := []) (rest := []) dX7_fits_21 bw_1119 bw_1121 bs_34 bw_1 bw_1122 ⟨by decide +kernel, by decide +kernel, show (parseMethodDescriptor mX7_allThatFit.1.desc).map (fun d => d.parameters.length) = some 0 by decide +kernel⟩ (by decide) (by decide) (Nat.le_of_ble_eq_true rfl) fc_7 (by decide) rfl e6 C5 (Nat.zero_le _) (Nat.zero_le _) (fun _ _ h => h) ?_
      rintro _ h7 ⟨r8, rfl, K1⟩ -
      replace K := K r8 h7 K1
      show Gm l x mX7_fits 8 24 [(0, .ref a0), (1, .int x1)] [.long r8] h7 rc rs n0 Q X
      refine g_lstore_n (lv' := [(0, .ref a0), (1, .int x1), (2, .long r8)]) dX7_fits_24 rfl (by decide) rfl ?_
      refine g_iload_n dX7_fits_25 rfl 1 rfl ?_
      refine g_if_ne (tgt := 34) dX7_fits_26 (by decide) (fun c9 => ?_) (fun c9 => ?_)
      · replace K := K.1 c9
        refine g_lload_n dX7_fits_34 rfl 2 rfl ?_
        refine g_lconst (v := 0) dX7_fits_35 (by decide) ?_
        refine g_lcmp dX7_fits_36 ?_
        refine g_if_ne (tgt := 44) dX7_fits_37 (by decide) (fun c10 => ?_) (fun c10 => ?_)
        · replace K := K.1 c10
          refine g_lload_n dX7_fits_44 rfl 2 rfl ?_
          obtain ⟨q11, C12, K⟩ := K
          refine g_callS (M' := mJ13_numberOfTrailingZeros_95d88) (As := [.long r8]) (rest := []) dX7_fits_45 bw_1123 bw_1124 bw_20 bw_1125 ⟨by decide +kernel, by decide +kernel, show (parseMethodDescriptor mJ13_numberOfTrailingZeros_95d88.1.desc).map (fun d => d.parameters.length) = some 1 by decide +kernel⟩ (by decide) (by decide) (Nat.le_of_ble_eq_true rfl) C12 (Nat.zero_le _) (Nat.zero_le _) (fun _ _ h => h) ?_
          rintro _ h13 ⟨r14, rfl, K1⟩ -
          replace K := K r14 h13 K1
          show Gm l x mX7_fits 8 48 [(0, .ref a0), (1, .int x1), (2, .long r8)] [.int r14] h13 rc rs n0 Q X
          exact g_iret dX7_fits_48 rfl K
        · replace K := K.2 c10
          refine g_iconst (v := (-1)) dX7_fits_40 (by decide) ?_
          refine g_goto (tgt := 48) dX7_fits_41 (by decide) ?_
          exact g_iret dX7_fits_48 rfl K
      · replace K := K.2 c9
        refine g_lload_n dX7_fits_29 rfl 2 rfl ?_
        obtain ⟨q15, C16, K⟩ := K
        refine g_callS (M' := mJ13_bitCount_95d88) (As := [.long r8]) (rest := []) dX7_fits_30 bw_906 bw_907 bw_20 bw_908 ⟨by decide +kernel, by decide +kernel, show (parseMethodDescriptor mJ13_bitCount_95d88.1.desc).map (fun d => d.parameters.length) = some 1 by decide +kernel⟩ (by decide) (by decide) (Nat.le_of_ble_eq_true rfl) C16 (Nat.zero_le _) (Nat.zero_le _) (fun _ _ h => h) ?_
        rintro _ h17 ⟨r18, rfl, K1⟩ -
        replace K := K r18 h17 K1
        show Gm l x mX7_fits 8 33 [(0, .ref a0), (1, .int x1), (2, .long r8)] [.int r18] h17 rc rs n0 Q X
        exact g_iret dX7_fits_33 rfl K
    · replace K := K.2 c3
      exact g_throwW (cls := "java/util/NoSuchElementException") (text := "no such what of fits") (names := ["java/lang/RuntimeException", "java/lang/Exception"]) (by decide) (by decide) bw_976 bw_22 K.1.1 K.1.2 dX7_fits_9 dX7_fits_12 dX7_fits_13 dX7_fits_16 dX7_fits_19 (by decide) (Nat.le_of_ble_eq_true rfl) K.2.1 K.2.2.1 K.2.2.2
theorem dX7_look_0 : decode cX7_look 0 = .ok (.iload_n 1, 1) := by decide +kernel
theorem dX7_look_1 : decode cX7_look 1 = .ok (.ifCond .lt 8, 3) := by decide +kernel
theorem dX7_look_4 : decode cX7_look 4 = .ok (.iload_n 1, 1) := by decide +kernel
theorem dX7_look_5 : decode cX7_look 5 = .ok (.iconst 1, 1) := by decide +kernel
theorem dX7_look_6 : decode cX7_look 6 = .ok (.if_icmp .le 14, 3) := by decide +kernel
theorem dX7_look_9 : decode cX7_look 9 = .ok (.new 178, 3) := by decide +kernel
theorem dX7_look_12 : decode cX7_look 12 = .ok (.dup, 1) := by decide +kernel
theorem dX7_look_13 : decode cX7_look 13 = .ok (.ldc_w 381, 3) := by decide +kernel
theorem dX7_look_16 : decode cX7_look 16 = .ok (.invokespecial 182, 3) := by decide +kernel
theorem dX7_look_19 : decode cX7_look 19 = .ok (.athrow, 1) := by decide +kernel
theorem dX7_look_20 : decode cX7_look 20 = .ok (.aload_n 0, 1) := by decide +kernel
theorem dX7_look_21 : decode cX7_look 21 = .ok (.invokevirtual 375, 3) := by decide +kernel
theorem dX7_look_24 : decode cX7_look 24 = .ok (.lstore_n 2, 1) := by decide +kernel
theorem dX7_look_25 : decode cX7_look 25 = .ok (.iconst (-1), 1) := by decide +kernel
theorem dX7_look_26 : decode cX7_look 26 = .ok (.istore 4, 2) := by decide +kernel
theorem dX7_look_28 : decode cX7_look 28 = .ok (.iconst 0, 1) := by decide +kernel
theorem dX7_look_29 : decode cX7_look 29 = .ok (.istore 5, 2) := by decide +kernel
theorem dX7_look_31 : decode cX7_look 31 = .ok (.iconst 0, 1) := by decide +kernel
theorem dX7_look_32 : decode cX7_look 32 = .ok (.istore 6, 2) := by decide +kernel
theorem dX7_look_34 : decode cX7_look 34 = .ok (.iload 6, 2) := by decide +kernel
theorem dX7_look_36 : decode cX7_look 36 = .ok (.aload_n 0, 1) := by decide +kernel
theorem dX7_look_37 : decode cX7_look 37 = .ok (.getfield 39, 3) := by decide +kernel
theorem dX7_look_40 : decode cX7_look 40 = .ok (.getfield 326, 3) := by decide +kernel
theorem dX7_look_43 : decode cX7_look 43 = .ok (.getfield 93, 3) := by decide +kernel
theorem dX7_look_46 : decode cX7_look 46 = .ok (.if_icmp .ge 36, 3) := by decide +kernel
theorem dX7_look_49 : decode cX7_look 49 = .ok (.aload_n 0, 1) := by decide +kernel
theorem dX7_look_50 : decode cX7_look 50 = .ok (.getfield 39, 3) := by decide +kernel
theorem dX7_look_53 : decode cX7_look 53 = .ok (.iload 6, 2) := by decide +kernel
theorem dX7_look_55 : decode cX7_look 55 = .ok (.lload_n 2, 1) := by decide +kernel
theorem dX7_look_56 : decode cX7_look 56 = .ok (.invokevirtual 383, 3) := by decide +kernel
theorem dX7_look_59 : decode cX7_look 59 = .ok (.istore 7, 2) := by decide +kernel
theorem dX7_look_61 : decode cX7_look 61 = .ok (.iload 7, 2) := by decide +kernel
theorem dX7_look_63 : decode cX7_look 63 = .ok (.iload 5, 2) := by decide +kernel
theorem dX7_look_65 : decode cX7_look 65 = .ok (.if_icmp .le 11, 3) := by decide +kernel
theorem dX7_look_68 : decode cX7_look 68 = .ok (.iload 6, 2) := by decide +kernel
theorem dX7_look_70 : decode cX7_look 70 = .ok (.istore 4, 2) := by decide +kernel
theorem dX7_look_72 : decode cX7_look 72 = .ok (.iload 7, 2) := by decide +kernel
theorem dX7_look_74 : decode cX7_look 74 = .ok (.istore 5, 2) := by decide +kernel
theorem dX7_look_76 : decode cX7_look 76 = .ok (.iinc 6 1, 3) := by decide +kernel
theorem dX7_look_79 : decode cX7_look 79 = .ok (.goto (-45), 3) := by decide +kernel
theorem dX7_look_82 : decode cX7_look 82 = .ok (.iload_n 1, 1) := by decide +kernel
theorem dX7_look_83 : decode cX7_look 83 = .ok (.ifCond .ne 8, 3) := by decide +kernel
theorem dX7_look_86 : decode cX7_look 86 = .ok (.iload 4, 2) := by decide +kernel
theorem dX7_look_88 : decode cX7_look 88 = .ok (.goto 5, 3) := by decide +kernel
theorem dX7_look_91 : decode cX7_look 91 = .ok (.iload 5, 2) := by decide +kernel
theorem dX7_look_93 : decode cX7_look 93 = .ok (.ireturn, 1) := by decide +kernel
set_option maxRecDepth 20000 in
set_option maxHeartbeats 4000000 in
theorem vX7_look_0 {l : Launch} {x : CX} {a0 : Nat} {x1 : Int32} {h : PH} {rc rs n0 : Nat} {Q : Option Value → PH → Prop} {X : String → PH → Prop}
    (K : ((x1 < 0 → ThrowOk x RX7 "java/util/NoSuchElementException" "no such what of look" ["java/lang/RuntimeException", "java/lang/Exception"] 381 182 ∧ 1 ≤ rc ∧ 6 ≤ rs ∧ X "java/util/NoSuchElementException" h) ∧ (¬ x1 < 0 → ((x1 ≤ 1 → ((hK h a0).1 = 7) ∧ ∃ (q4 : Int64 → PH → Prop), CJ l x mX7_allThatFit 6 0 0 [.ref a0] h q4 ∧ ∀ (r8 : Int64) (h7 : PH), q4 r8 h7 → Gm l x mX7_look 8 34 [(0, .ref a0), (1, .int x1), (2, .long r8), (4, .int (-1)), (5, .int 0), (6, .int 0)] [] h7 rc rs n0 Q X) ∧ (¬ x1 ≤ 1 → ThrowOk x RX7 "java/util/NoSuchElementException" "no such what of look" ["java/lang/RuntimeException", "java/lang/Exception"] 381 182 ∧ 1 ≤ rc ∧ 6 ≤ rs ∧ X "java/util/NoSuchElementException" h))))) :
    Gm l x mX7_look 8 0 [(0, .ref a0), (1, .int x1)] [] h rc rs n0 Q X := by
  refine g_iload_n dX7_look_0 rfl 1 rfl ?_
  refine g_if_lt (tgt := 9) dX7_look_1 (by decide) (fun c1 => ?_) (fun c1 => ?_)
  · replace K := K.1 c1
    exact g_throwW (cls := "java/util/NoSuchElementException") (text := "no such what of look") (names := ["java/lang/RuntimeException", "java/lang/Exception"]) (by decide) (by decide) bw_976 bw_22 K.1.1 K.1.2 dX7_look_9 dX7_look_12 dX7_look_13 dX7_look_16 dX7_look_19 (by decide) (Nat.le_of_ble_eq_true rfl) K.2.1 K.2.2.1 K.2.2.2
  · replace K := K.2 c1
    refine g_iload_n dX7_look_4 rfl 1 rfl ?_
    refine g_iconst (v := 1) dX7_look_5 (by decide) ?_
    refine g_icmp_le (tgt := 20) dX7_look_6 (by decide) (fun c3 => ?_) (fun c3 => ?_)
    · replace K := K.1 c3
      refine g_aload_n dX7_look_20 rfl 0 rfl ?_
      obtain ⟨e6, K⟩ := K
      obtain ⟨q4, C5, K⟩ := K
      refine g_callV (M' := mX7_allThatFit) (b := a0) (As := []) (rest := []) dX7_look_21 bw_1119 bw_1121 bs_34 bw_1 bw_1122 ⟨by decide +kernel, by decide +kernel, show (parseMethodDescriptor mX7_allThatFit.1.desc).map (fun d => d.parameters.length) = some 0 by decide +kernel⟩ (by decide) (by decide) (Nat.le_of_ble_eq_true rfl) fc_7 (by decide) rfl e6 C5 (Nat.zero_le _) (Nat.zero_le _) (fun _ _ h => h) ?_
      rintro _ h7 ⟨r8, rfl, K1⟩ -
      replace K := K r8 h7 K1
      show Gm l x mX7_look 8 24 [(0, .ref a0), (1, .int x1)] [.long r8] h7 rc rs n0 Q X
      refine g_lstore_n (lv' := [(0, .ref a0), (1, .int x1), (2, .long r8)]) dX7_look_24 rfl (by decide) rfl ?_
      refine g_iconst (v := (-1)) dX7_look_25 (by decide) ?_
      refine g_istore (lv' := [(0, .ref a0), (1, .int x1), (2, .long r8), (4, .int (-1))]) dX7_look_26 (by decide) rfl ?_
      refine g_iconst (v := 0) dX7_look_28 (by decide) ?_
      refine g_istore (lv' := [(0, .ref a0), (1, .int x1), (2, .long r8), (4, .int (-1)), (5, .int 0)]) dX7_look_29 (by decide) rfl ?_
      refine g_iconst (v := 0) dX7_look_31 (by decide) ?_
      refine g_istore (lv' := [(0, .ref a0), (1, .int x1), (2, .long r8), (4, .int (-1)), (5, .int 0), (6, .int 0)]) dX7_look_32 (by decide) rfl ?_
      exact K
    · replace K := K.2 c3
      exact g_throwW (cls := "java/util/NoSuchElementException") (text := "no such what of look") (names := ["java/lang/RuntimeException", "java/lang/Exception"]) (by decide) (by decide) bw_976 bw_22 K.1.1 K.1.2 dX7_look_9 dX7_look_12 dX7_look_13 dX7_look_16 dX7_look_19 (by decide) (Nat.le_of_ble_eq_true rfl) K.2.1 K.2.2.1 K.2.2.2
set_option maxRecDepth 20000 in
set_option maxHeartbeats 4000000 in
theorem vX7_look_34 {l : Launch} {x : CX} {a0 : Nat} {x1 : Int32} {l2 : Int64} {x4 : Int32} {x5 : Int32} {x6 : Int32} {h : PH} {rc rs n0 : Nat} {Q : Option Value → PH → Prop} {X : String → PH → Prop}
    (K : ((hK h a0).1 = 7) ∧ ∃ b2, (hR h a0 5 = some b2) ∧ ((hK h b2).1 = 5) ∧ ∃ b5, (hR h b2 0 = some b5) ∧ ((hK h b5).1 = 1) ∧ (((hI h b5 2) ≤ x6 → Q (some (.int (if x1 = 0 then x4 else x5 : Int32))) h) ∧ (¬ (hI h b5 2) ≤ x6 → ∃ (q10 : Int32 → PH → Prop), CI l x mX5_unlike 1 0 0 [.ref b2, .int x6, .long l2] h q10 ∧ ∀ (r13 : Int32) (h12 : PH), q10 r13 h12 → Gm l x mX7_look 8 34 [(0, .ref a0), (1, .int x1), (2, .long l2), (4, .int (if r13 ≤ x5 then x4 else x6 : Int32)), (5, .int (if r13 ≤ x5 then x5 else r13 : Int32)), (6, .int (x6 + 1))] [] h12 rc rs n0 Q X))) :
    Gm l x mX7_look 8 34 [(0, .ref a0), (1, .int x1), (2, .long l2), (4, .int x4), (5, .int x5), (6, .int x6)] [] h rc rs n0 Q X := by
  refine g_iload dX7_look_34 5 rfl ?_
  refine g_aload_n dX7_look_36 rfl 0 rfl ?_
  obtain ⟨e1, b2, e3, K⟩ := K
  refine g_get (c := 7) (k := 5) (v := .ref b2) dX7_look_37 fc_7 (by decide) (by decide) bw_400 (congrArg pr e3) e1 ?_
  obtain ⟨e4, b5, e6, K⟩ := K
  refine g_get (c := 5) (k := 0) (v := .ref b5) dX7_look_40 fc_5 (by decide) (by decide) bw_308 (congrArg pr e6) e4 ?_
  obtain ⟨e7, K⟩ := K
  refine g_get (c := 1) (k := 2) (v := .int (hI h b5 2)) dX7_look_43 fc_1 (by decide) (by decide) bw_188 rfl e7 ?_
  refine g_icmp_ge (tgt := 82) dX7_look_46 (by decide) (fun c8 => ?_) (fun c8 => ?_)
  · replace K := K.1 c8
    refine g_iload_n dX7_look_82 rfl 1 rfl ?_
    have KJ : Gm l x mX7_look 8 93 [(0, .ref a0), (1, .int x1), (2, .long l2), (4, .int x4), (5, .int x5), (6, .int x6)] [.int (if x1 = 0 then x4 else x5 : Int32)] h rc rs n0 Q X := by
      exact g_iret dX7_look_93 rfl K
    refine g_if_ne (tgt := 91) dX7_look_83 (by decide) (fun c9 => ?_) (fun c9 => ?_)
    · refine g_iload dX7_look_91 4 rfl ?_
      first | (simp only [if_neg c9] at KJ; with_reducible exact KJ) | (simp only [if_neg c9, ite_true, ite_false, eq_self] at KJ; with_reducible exact KJ) | (simp only [if_neg c9, reduceIte, eq_self] at KJ; exact KJ) | exact KJ
    · refine g_iload dX7_look_86 3 rfl ?_
      refine g_goto (tgt := 93) dX7_look_88 (by decide) ?_
      first | (simp only [if_pos c9] at KJ; with_reducible exact KJ) | (simp only [if_pos c9, ite_true, ite_false, eq_self] at KJ; with_reducible exact KJ) | (simp only [if_pos c9, reduceIte, eq_self] at KJ; exact KJ) | exact KJ
  · replace K := K.2 c8
    refine g_aload_n dX7_look_49 rfl 0 rfl ?_
    refine g_get (c := 7) (k := 5) (v := .ref b2) dX7_look_50 fc_7 (by decide) (by decide) bw_400 (congrArg pr e3) e1 ?_
    refine g_iload dX7_look_53 5 rfl ?_
    refine g_lload_n dX7_look_55 rfl 2 rfl ?_
    obtain ⟨q10, C11, K⟩ := K
    refine g_callV (M' := mX5_unlike) (b := b2) (As := [.int x6, .long l2]) (rest := []) dX7_look_56 bw_1138 bw_1139 bw_1140 bw_6 bw_1141 ⟨by decide +kernel, by decide +kernel, show (parseMethodDescriptor mX5_unlike.1.desc).map (fun d => d.parameters.length) = some 2 by decide +kernel⟩ (by decide) (by decide) (Nat.le_of_ble_eq_true rfl) fc_5 (by decide) rfl e4 C11 (Nat.zero_le _) (Nat.zero_le _) (fun _ _ h => h) ?_
    rintro _ h12 ⟨r13, rfl, K1⟩ -
    replace K := K r13 h12 K1
    show Gm l x mX7_look 8 59 [(0, .ref a0), (1, .int x1), (2, .long l2), (4, .int x4), (5, .int x5), (6, .int x6)] [.int r13] h12 rc rs n0 Q X
    refine g_istore (lv' := [(0, .ref a0), (1, .int x1), (2, .long l2), (4, .int x4), (5, .int x5), (6, .int x6), (7, .int r13)]) dX7_look_59 (by decide) rfl ?_
    refine g_iload dX7_look_61 6 rfl ?_
    refine g_iload dX7_look_63 4 rfl ?_
    have KJ : Gm l x mX7_look 8 76 [(0, .ref a0), (1, .int x1), (2, .long l2), (4, .int (if r13 ≤ x5 then x4 else x6 : Int32)), (5, .int (if r13 ≤ x5 then x5 else r13 : Int32)), (6, .int x6), (7, .int r13)] [] h12 rc rs n0 Q X := by
      refine g_iinc (v := (x6 + 1)) (lv' := [(0, .ref a0), (1, .int x1), (2, .long l2), (4, .int (if r13 ≤ x5 then x4 else x6 : Int32)), (5, .int (if r13 ≤ x5 then x5 else r13 : Int32)), (6, .int (x6 + 1)), (7, .int r13)]) dX7_look_76 5 rfl (by rfl) (by decide) rfl ?_
      refine g_goto (tgt := 34) dX7_look_79 (by decide) ?_
      exact Gm.sub [0, 1, 2, 3, 4, 5] rfl K
    refine g_icmp_le (tgt := 76) dX7_look_65 (by decide) (fun c14 => ?_) (fun c14 => ?_)
    · first | (simp only [if_pos c14] at KJ; with_reducible exact KJ) | (simp only [if_pos c14, ite_true, ite_false, eq_self] at KJ; with_reducible exact KJ) | (simp only [if_pos c14, reduceIte, eq_self] at KJ; exact KJ) | exact KJ
    · refine g_iload dX7_look_68 5 rfl ?_
      refine g_istore (lv' := [(0, .ref a0), (1, .int x1), (2, .long l2), (4, .int x6), (5, .int x5), (6, .int x6), (7, .int r13)]) dX7_look_70 (by decide) rfl ?_
      refine g_iload dX7_look_72 6 rfl ?_
      refine g_istore (lv' := [(0, .ref a0), (1, .int x1), (2, .long l2), (4, .int x6), (5, .int r13), (6, .int x6), (7, .int r13)]) dX7_look_74 (by decide) rfl ?_
      first | (simp only [if_neg c14] at KJ; with_reducible exact KJ) | (simp only [if_neg c14, ite_true, ite_false, eq_self] at KJ; with_reducible exact KJ) | (simp only [if_neg c14, reduceIte, eq_self] at KJ; exact KJ) | exact KJ
theorem dX7_years_0 : decode cX7_years 0 = .ok (.iload_n 3, 1) := by decide +kernel
theorem dX7_years_1 : decode cX7_years 1 = .ok (.ifCond .lt 8, 3) := by decide +kernel
theorem dX7_years_4 : decode cX7_years 4 = .ok (.iload_n 3, 1) := by decide +kernel
theorem dX7_years_5 : decode cX7_years 5 = .ok (.iconst 2, 1) := by decide +kernel
theorem dX7_years_6 : decode cX7_years 6 = .ok (.if_icmp .le 14, 3) := by decide +kernel
theorem dX7_years_9 : decode cX7_years 9 = .ok (.new 178, 3) := by decide +kernel
theorem dX7_years_12 : decode cX7_years 12 = .ok (.dup, 1) := by decide +kernel
theorem dX7_years_13 : decode cX7_years 13 = .ok (.ldc_w 387, 3) := by decide +kernel
theorem dX7_years_16 : decode cX7_years 16 = .ok (.invokespecial 182, 3) := by decide +kernel
theorem dX7_years_19 : decode cX7_years 19 = .ok (.athrow, 1) := by decide +kernel
theorem dX7_years_20 : decode cX7_years 20 = .ok (.iload_n 2, 1) := by decide +kernel
theorem dX7_years_21 : decode cX7_years 21 = .ok (.ifCond .lt 9, 3) := by decide +kernel
theorem dX7_years_24 : decode cX7_years 24 = .ok (.iload_n 2, 1) := by decide +kernel
theorem dX7_years_25 : decode cX7_years 25 = .ok (.bipush 20, 2) := by decide +kernel
theorem dX7_years_27 : decode cX7_years 27 = .ok (.if_icmp .le 14, 3) := by decide +kernel
theorem dX7_years_30 : decode cX7_years 30 = .ok (.new 61, 3) := by decide +kernel
theorem dX7_years_33 : decode cX7_years 33 = .ok (.dup, 1) := by decide +kernel
theorem dX7_years_34 : decode cX7_years 34 = .ok (.ldc_w 389, 3) := by decide +kernel
theorem dX7_years_37 : decode cX7_years 37 = .ok (.invokespecial 65, 3) := by decide +kernel
theorem dX7_years_40 : decode cX7_years 40 = .ok (.athrow, 1) := by decide +kernel
theorem dX7_years_41 : decode cX7_years 41 = .ok (.aload_n 0, 1) := by decide +kernel
theorem dX7_years_42 : decode cX7_years 42 = .ok (.getfield 46, 3) := by decide +kernel
theorem dX7_years_45 : decode cX7_years 45 = .ok (.getfield 84, 3) := by decide +kernel
theorem dX7_years_48 : decode cX7_years 48 = .ok (.astore 4, 2) := by decide +kernel
theorem dX7_years_50 : decode cX7_years 50 = .ok (.aload_n 0, 1) := by decide +kernel
theorem dX7_years_51 : decode cX7_years 51 = .ok (.getfield 23, 3) := by decide +kernel
theorem dX7_years_54 : decode cX7_years 54 = .ok (.aload 4, 2) := by decide +kernel
theorem dX7_years_56 : decode cX7_years 56 = .ok (.invokevirtual 183, 3) := by decide +kernel
theorem dX7_years_59 : decode cX7_years 59 = .ok (.aload_n 0, 1) := by decide +kernel
theorem dX7_years_60 : decode cX7_years 60 = .ok (.iload_n 1, 1) := by decide +kernel
theorem dX7_years_61 : decode cX7_years 61 = .ok (.iload_n 2, 1) := by decide +kernel
theorem dX7_years_62 : decode cX7_years 62 = .ok (.invokevirtual 391, 3) := by decide +kernel
theorem dX7_years_65 : decode cX7_years 65 = .ok (.iload_n 3, 1) := by decide +kernel
theorem dX7_years_66 : decode cX7_years 66 = .ok (.lookupswitch 48 #[(0, 26), (1, 34)], 26) := by decide +kernel
theorem dX7_years_92 : decode cX7_years 92 = .ok (.aload_n 0, 1) := by decide +kernel
theorem dX7_years_93 : decode cX7_years 93 = .ok (.getfield 23, 3) := by decide +kernel
theorem dX7_years_96 : decode cX7_years 96 = .ok (.getfield 117, 3) := by decide +kernel
theorem dX7_years_99 : decode cX7_years 99 = .ok (.ireturn, 1) := by decide +kernel
theorem dX7_years_100 : decode cX7_years 100 = .ok (.aload_n 0, 1) := by decide +kernel
theorem dX7_years_101 : decode cX7_years 101 = .ok (.getfield 23, 3) := by decide +kernel
theorem dX7_years_104 : decode cX7_years 104 = .ok (.invokevirtual 134, 3) := by decide +kernel
theorem dX7_years_107 : decode cX7_years 107 = .ok (.aload 4, 2) := by decide +kernel
theorem dX7_years_109 : decode cX7_years 109 = .ok (.invokevirtual 134, 3) := by decide +kernel
theorem dX7_years_112 : decode cX7_years 112 = .ok (.isub, 1) := by decide +kernel
theorem dX7_years_113 : decode cX7_years 113 = .ok (.ireturn, 1) := by decide +kernel
theorem dX7_years_114 : decode cX7_years 114 = .ok (.aload_n 0, 1) := by decide +kernel
theorem dX7_years_115 : decode cX7_years 115 = .ok (.getfield 23, 3) := by decide +kernel
theorem dX7_years_118 : decode cX7_years 118 = .ok (.invokevirtual 130, 3) := by decide +kernel
theorem dX7_years_121 : decode cX7_years 121 = .ok (.aload 4, 2) := by decide +kernel
theorem dX7_years_123 : decode cX7_years 123 = .ok (.invokevirtual 130, 3) := by decide +kernel
theorem dX7_years_126 : decode cX7_years 126 = .ok (.isub, 1) := by decide +kernel
theorem dX7_years_127 : decode cX7_years 127 = .ok (.ireturn, 1) := by decide +kernel
set_option maxRecDepth 20000 in
set_option maxHeartbeats 4000000 in
theorem vX7_years_0 {l : Launch} {x : CX} {a0 : Nat} {x1 : Int32} {x2 : Int32} {x3 : Int32} {h : PH} {rc rs n0 : Nat} {Q : Option Value → PH → Prop} {X : String → PH → Prop}
    (K : ((x3 < 0 → ThrowOk x RX7 "java/util/NoSuchElementException" "no such what of years" ["java/lang/RuntimeException", "java/lang/Exception"] 387 182 ∧ 1 ≤ rc ∧ 6 ≤ rs ∧ X "java/util/NoSuchElementException" h) ∧ (¬ x3 < 0 → ((x3 ≤ 2 → ((x2 < 0 → ThrowOk x RX7 "java/lang/IllegalArgumentException" "not so many years" ["java/lang/RuntimeException", "java/lang/Exception"] 389 65 ∧ 1 ≤ rc ∧ 6 ≤ rs ∧ X "java/lang/IllegalArgumentException" h) ∧ (¬ x2 < 0 → ((x2 ≤ 20 → ((hK h a0).1 = 7) ∧ ∃ b8, (hR h a0 6 = some b8) ∧ ((hK h b8).1 = 3) ∧ ∃ b11, (hR h b8 0 = some b11) ∧ ∃ b13, (hR h a0 3 = some b13) ∧ ((hK h b13).1 = 1) ∧ ∃ (q15 : PH → Prop), CV l x mX1_copyFrom 1 0 0 [.ref b13, .ref b11] h q15 ∧ ∀ (h18 : PH), q15 h18 → ((hK h18 a0).1 = 7) ∧ ∃ (q19 : PH → Prop), CV l x mX7_playYears 5 0 0 [.ref a0, .int x1, .int x2] h18 q19 ∧ ∀ (h22 : PH), q19 h22 → ((x3.toInt = 0 → ((hK h22 a0).1 = 7) ∧ ∃ b24, (hR h22 a0 3 = some b24) ∧ ((hK h22 b24).1 = 1) ∧ Q (some (.int (hI h22 b24 12))) h22) ∧ (x3.toInt = 1 → ((hK h22 a0).1 = 7) ∧ ∃ b29, (hR h22 a0 3 = some b29) ∧ ((hK h22 b29).1 = 1) ∧ ∃ (q31 : Int32 → PH → Prop), CI l x mX1_waitedInAll 0 0 0 [.ref b29] h22 q31 ∧ ∀ (r35 : Int32) (h34 : PH), q31 r35 h34 → ((hK h34 b11).1 = 1) ∧ ∃ (q36 : Int32 → PH → Prop), CI l x mX1_waitedInAll 0 0 0 [.ref b11] h34 q36 ∧ ∀ (r40 : Int32) (h39 : PH), q36 r40 h39 → Q (some (.int (r35 - r40))) h39) ∧ ((¬ x3.toInt = 0 ∧ ¬ x3.toInt = 1) → ((hK h22 a0).1 = 7) ∧ ∃ b43, (hR h22 a0 3 = some b43) ∧ ((hK h22 b43).1 = 1) ∧ ∃ (q45 : Int32 → PH → Prop), CI l x mX1_passedInAll 0 0 0 [.ref b43] h22 q45 ∧ ∀ (r49 : Int32) (h48 : PH), q45 r49 h48 → ((hK h48 b11).1 = 1) ∧ ∃ (q50 : Int32 → PH → Prop), CI l x mX1_passedInAll 0 0 0 [.ref b11] h48 q50 ∧ ∀ (r54 : Int32) (h53 : PH), q50 r54 h53 → Q (some (.int (r49 - r54))) h53))) ∧ (¬ x2 ≤ 20 → ThrowOk x RX7 "java/lang/IllegalArgumentException" "not so many years" ["java/lang/RuntimeException", "java/lang/Exception"] 389 65 ∧ 1 ≤ rc ∧ 6 ≤ rs ∧ X "java/lang/IllegalArgumentException" h))))) ∧ (¬ x3 ≤ 2 → ThrowOk x RX7 "java/util/NoSuchElementException" "no such what of years" ["java/lang/RuntimeException", "java/lang/Exception"] 387 182 ∧ 1 ≤ rc ∧ 6 ≤ rs ∧ X "java/util/NoSuchElementException" h))))) :
    Gm l x mX7_years 8 0 [(0, .ref a0), (1, .int x1), (2, .int x2), (3, .int x3)] [] h rc rs n0 Q X := by
  refine g_iload_n dX7_years_0 rfl 3 rfl ?_
  refine g_if_lt (tgt := 9) dX7_years_1 (by decide) (fun c1 => ?_) (fun c1 => ?_)
  · replace K := K.1 c1
    exact g_throwW (cls := "java/util/NoSuchElementException") (text := "no such what of years") (names := ["java/lang/RuntimeException", "java/lang/Exception"]) (by decide) (by decide) bw_976 bw_22 K.1.1 K.1.2 dX7_years_9 dX7_years_12 dX7_years_13 dX7_years_16 dX7_years_19 (by decide) (Nat.le_of_ble_eq_true rfl) K.2.1 K.2.2.1 K.2.2.2
  · replace K := K.2 c1
    refine g_iload_n dX7_years_4 rfl 3 rfl ?_
    refine g_iconst (v := 2) dX7_years_5 (by decide) ?_
    refine g_icmp_le (tgt := 20) dX7_years_6 (by decide) (fun c3 => ?_) (fun c3 => ?_)
    · replace K := K.1 c3
      refine g_iload_n dX7_years_20 rfl 2 rfl ?_
      refine g_if_lt (tgt := 30) dX7_years_21 (by decide) (fun c4 => ?_) (fun c4 => ?_)
      · replace K := K.1 c4
        exact g_throwW (cls := "java/lang/IllegalArgumentException") (text := "not so many years") (names := ["java/lang/RuntimeException", "java/lang/Exception"]) (by decide) (by decide) bw_688 bw_13 K.1.1 K.1.2 dX7_years_30 dX7_years_33 dX7_years_34 dX7_years_37 dX7_years_40 (by decide) (Nat.le_of_ble_eq_true rfl) K.2.1 K.2.2.1 K.2.2.2
      · replace K := K.2 c4
        refine g_iload_n dX7_years_24 rfl 2 rfl ?_
        refine g_bipush (v := 20) dX7_years_25 (by decide) ?_
        refine g_icmp_le (tgt := 41) dX7_years_27 (by decide) (fun c6 => ?_) (fun c6 => ?_)
        · replace K := K.1 c6
          refine g_aload_n dX7_years_41 rfl 0 rfl ?_
          obtain ⟨e7, b8, e9, K⟩ := K
          refine g_get (c := 7) (k := 6) (v := .ref b8) dX7_years_42 fc_7 (by decide) (by decide) bw_401 (congrArg pr e9) e7 ?_
          obtain ⟨e10, b11, e12, K⟩ := K
          refine g_get (c := 3) (k := 0) (v := .ref b11) dX7_years_45 fc_3 (by decide) (by decide) bw_371 (congrArg pr e12) e10 ?_
          refine g_astore (lv' := [(0, .ref a0), (1, .int x1), (2, .int x2), (3, .int x3), (4, .ref b11)]) dX7_years_48 (by decide) rfl ?_
          refine g_aload_n dX7_years_50 rfl 0 rfl ?_
          obtain ⟨b13, e14, K⟩ := K
          refine g_get (c := 7) (k := 3) (v := .ref b13) dX7_years_51 fc_7 (by decide) (by decide) bw_398 (congrArg pr e14) e7 ?_
          refine g_aload dX7_years_54 4 rfl ?_
          obtain ⟨e17, K⟩ := K
          obtain ⟨q15, C16, K⟩ := K
          refine g_callV (M' := mX1_copyFrom) (b := b13) (As := [.ref b11]) (rest := []) dX7_years_56 bw_974 bw_453 bw_454 bw_2 bw_455 ⟨by decide +kernel, by decide +kernel, show (parseMethodDescriptor mX1_copyFrom.1.desc).map (fun d => d.parameters.length) = some 1 by decide +kernel⟩ (by decide) (by decide) (Nat.le_of_ble_eq_true rfl) fc_1 (by decide) rfl e17 C16 (Nat.zero_le _) (Nat.zero_le _) (fun _ _ h => h) ?_
          rintro _ h18 ⟨rfl, K1⟩ -
          replace K := K h18 K1
          show Gm l x mX7_years 8 59 [(0, .ref a0), (1, .int x1), (2, .int x2), (3, .int x3), (4, .ref b11)] [] h18 rc rs n0 Q X
          refine g_aload_n dX7_years_59 rfl 0 rfl ?_
          refine g_iload_n dX7_years_60 rfl 1 rfl ?_
          refine g_iload_n dX7_years_61 rfl 2 rfl ?_
          obtain ⟨e21, K⟩ := K
          obtain ⟨q19, C20, K⟩ := K
          refine g_callV (M' := mX7_playYears) (b := a0) (As := [.int x1, .int x2]) (rest := []) dX7_years_62 bw_1152 bw_1154 bs_35 bw_1 bw_1155 ⟨by decide +kernel, by decide +kernel, show (parseMethodDescriptor mX7_playYears.1.desc).map (fun d => d.parameters.length) = some 2 by decide +kernel⟩ (by decide) (by decide) (Nat.le_of_ble_eq_true rfl) fc_7 (by decide) rfl e21 C20 (Nat.zero_le _) (Nat.zero_le _) (fun _ _ h => h) ?_
          rintro _ h22 ⟨rfl, K1⟩ -
          replace K := K h22 K1
          show Gm l x mX7_years 8 65 [(0, .ref a0), (1, .int x1), (2, .int x2), (3, .int x3), (4, .ref b11)] [] h22 rc rs n0 Q X
          refine g_iload_n dX7_years_65 rfl 3 rfl ?_
          by_cases e27 : x3.toInt = 0
          · replace K := K.1 e27
            refine g_lookup (off := 26) (tgt := 92) dX7_years_66 (by decide) (by rw [e27]; decide) (by decide) ?_
            refine g_aload_n dX7_years_92 rfl 0 rfl ?_
            obtain ⟨e23, b24, e25, K⟩ := K
            refine g_get (c := 7) (k := 3) (v := .ref b24) dX7_years_93 fc_7 (by decide) (by decide) bw_398 (congrArg pr e25) e23 ?_
            obtain ⟨e26, K⟩ := K
            refine g_get (c := 1) (k := 12) (v := .int (hI h22 b24 12)) dX7_years_96 fc_1 (by decide) (by decide) bw_216 rfl e26 ?_
            exact g_iret dX7_years_99 rfl K
          · skip
            by_cases e41 : x3.toInt = 1
            · replace K := K.2.1 e41
              refine g_lookup (off := 34) (tgt := 100) dX7_years_66 (by decide) (by rw [e41]; decide) (by decide) ?_
              refine g_aload_n dX7_years_100 rfl 0 rfl ?_
              obtain ⟨e28, b29, e30, K⟩ := K
              refine g_get (c := 7) (k := 3) (v := .ref b29) dX7_years_101 fc_7 (by decide) (by decide) bw_398 (congrArg pr e30) e28 ?_
              obtain ⟨e33, K⟩ := K
              obtain ⟨q31, C32, K⟩ := K
              refine g_callV (M' := mX1_waitedInAll) (b := b29) (As := []) (rest := []) dX7_years_104 bw_916 bw_917 bw_918 bw_2 bw_919 ⟨by decide +kernel, by decide +kernel, show (parseMethodDescriptor mX1_waitedInAll.1.desc).map (fun d => d.parameters.length) = some 0 by decide +kernel⟩ (by decide) (by decide) (Nat.le_of_ble_eq_true rfl) fc_1 (by decide) rfl e33 C32 (Nat.zero_le _) (Nat.zero_le _) (fun _ _ h => h) ?_
              rintro _ h34 ⟨r35, rfl, K1⟩ -
              replace K := K r35 h34 K1
              show Gm l x mX7_years 8 107 [(0, .ref a0), (1, .int x1), (2, .int x2), (3, .int x3), (4, .ref b11)] [.int r35] h34 rc rs n0 Q X
              refine g_aload dX7_years_107 4 rfl ?_
              obtain ⟨e38, K⟩ := K
              obtain ⟨q36, C37, K⟩ := K
              refine g_callV (M' := mX1_waitedInAll) (b := b11) (As := []) (rest := [.int r35]) dX7_years_109 bw_916 bw_917 bw_918 bw_2 bw_919 ⟨by decide +kernel, by decide +kernel, show (parseMethodDescriptor mX1_waitedInAll.1.desc).map (fun d => d.parameters.length) = some 0 by decide +kernel⟩ (by decide) (by decide) (Nat.le_of_ble_eq_true rfl) fc_1 (by decide) rfl e38 C37 (Nat.zero_le _) (Nat.zero_le _) (fun _ _ h => h) ?_
              rintro _ h39 ⟨r40, rfl, K1⟩ -
              replace K := K r40 h39 K1
              show Gm l x mX7_years 8 112 [(0, .ref a0), (1, .int x1), (2, .int x2), (3, .int x3), (4, .ref b11)] [.int r40, .int r35] h39 rc rs n0 Q X
              refine g_isub dX7_years_112 ?_
              exact g_iret dX7_years_113 rfl K
            · skip
              replace K := K.2.2 ⟨e27, e41⟩
              refine g_lookup (off := 48) (tgt := 114) dX7_years_66 (by decide) (by simp [Op.lookupswitch.offset, e27, e41]) (by decide) ?_
              refine g_aload_n dX7_years_114 rfl 0 rfl ?_
              obtain ⟨e42, b43, e44, K⟩ := K
              refine g_get (c := 7) (k := 3) (v := .ref b43) dX7_years_115 fc_7 (by decide) (by decide) bw_398 (congrArg pr e44) e42 ?_
              obtain ⟨e47, K⟩ := K
              obtain ⟨q45, C46, K⟩ := K
              refine g_callV (M' := mX1_passedInAll) (b := b43) (As := []) (rest := []) dX7_years_118 bw_912 bw_913 bw_914 bw_2 bw_915 ⟨by decide +kernel, by decide +kernel, show (parseMethodDescriptor mX1_passedInAll.1.desc).map (fun d => d.parameters.length) = some 0 by decide +kernel⟩ (by decide) (by decide) (Nat.le_of_ble_eq_true rfl) fc_1 (by decide) rfl e47 C46 (Nat.zero_le _) (Nat.zero_le _) (fun _ _ h => h) ?_
              rintro _ h48 ⟨r49, rfl, K1⟩ -
              replace K := K r49 h48 K1
              show Gm l x mX7_years 8 121 [(0, .ref a0), (1, .int x1), (2, .int x2), (3, .int x3), (4, .ref b11)] [.int r49] h48 rc rs n0 Q X
              refine g_aload dX7_years_121 4 rfl ?_
              obtain ⟨e52, K⟩ := K
              obtain ⟨q50, C51, K⟩ := K
              refine g_callV (M' := mX1_passedInAll) (b := b11) (As := []) (rest := [.int r49]) dX7_years_123 bw_912 bw_913 bw_914 bw_2 bw_915 ⟨by decide +kernel, by decide +kernel, show (parseMethodDescriptor mX1_passedInAll.1.desc).map (fun d => d.parameters.length) = some 0 by decide +kernel⟩ (by decide) (by decide) (Nat.le_of_ble_eq_true rfl) fc_1 (by decide) rfl e52 C51 (Nat.zero_le _) (Nat.zero_le _) (fun _ _ h => h) ?_
              rintro _ h53 ⟨r54, rfl, K1⟩ -
              replace K := K r54 h53 K1
              show Gm l x mX7_years 8 126 [(0, .ref a0), (1, .int x1), (2, .int x2), (3, .int x3), (4, .ref b11)] [.int r54, .int r49] h53 rc rs n0 Q X
              refine g_isub dX7_years_126 ?_
              exact g_iret dX7_years_127 rfl K
        · replace K := K.2 c6
          exact g_throwW (cls := "java/lang/IllegalArgumentException") (text := "not so many years") (names := ["java/lang/RuntimeException", "java/lang/Exception"]) (by decide) (by decide) bw_688 bw_13 K.1.1 K.1.2 dX7_years_30 dX7_years_33 dX7_years_34 dX7_years_37 dX7_years_40 (by decide) (Nat.le_of_ble_eq_true rfl) K.2.1 K.2.2.1 K.2.2.2
    · replace K := K.2 c3
      exact g_throwW (cls := "java/util/NoSuchElementException") (text := "no such what of years") (names := ["java/lang/RuntimeException", "java/lang/Exception"]) (by decide) (by decide) bw_976 bw_22 K.1.1 K.1.2 dX7_years_9 dX7_years_12 dX7_years_13 dX7_years_16 dX7_years_19 (by decide) (Nat.le_of_ble_eq_true rfl) K.2.1 K.2.2.1 K.2.2.2
theorem dX7_group_0 : decode cX7_group 0 = .ok (.iload_n 1, 1) := by decide +kernel
theorem dX7_group_1 : decode cX7_group 1 = .ok (.ifCond .lt 11, 3) := by decide +kernel
theorem dX7_group_4 : decode cX7_group 4 = .ok (.iload_n 1, 1) := by decide +kernel
theorem dX7_group_5 : decode cX7_group 5 = .ok (.aload_n 0, 1) := by decide +kernel
theorem dX7_group_6 : decode cX7_group 6 = .ok (.getfield 13, 3) := by decide +kernel
theorem dX7_group_9 : decode cX7_group 9 = .ok (.if_icmp .le 13, 3) := by decide +kernel
theorem dX7_group_12 : decode cX7_group 12 = .ok (.new 61, 3) := by decide +kernel
theorem dX7_group_15 : decode cX7_group 15 = .ok (.dup, 1) := by decide +kernel
theorem dX7_group_16 : decode cX7_group 16 = .ok (.ldc 63, 2) := by decide +kernel
theorem dX7_group_18 : decode cX7_group 18 = .ok (.invokespecial 65, 3) := by decide +kernel
theorem dX7_group_21 : decode cX7_group 21 = .ok (.athrow, 1) := by decide +kernel
theorem dX7_group_22 : decode cX7_group 22 = .ok (.aload_n 0, 1) := by decide +kernel
theorem dX7_group_23 : decode cX7_group 23 = .ok (.iconst 0, 1) := by decide +kernel
theorem dX7_group_24 : decode cX7_group 24 = .ok (.putfield 13, 3) := by decide +kernel
theorem dX7_group_27 : decode cX7_group 27 = .ok (.aload_n 0, 1) := by decide +kernel
theorem dX7_group_28 : decode cX7_group 28 = .ok (.getfield 32, 3) := by decide +kernel
theorem dX7_group_31 : decode cX7_group 31 = .ok (.iload_n 1, 1) := by decide +kernel
theorem dX7_group_32 : decode cX7_group 32 = .ok (.invokevirtual 68, 3) := by decide +kernel
theorem dX7_group_35 : decode cX7_group 35 = .ok (.istore_n 2, 1) := by decide +kernel
theorem dX7_group_36 : decode cX7_group 36 = .ok (.aload_n 0, 1) := by decide +kernel
theorem dX7_group_37 : decode cX7_group 37 = .ok (.aload_n 0, 1) := by decide +kernel
theorem dX7_group_38 : decode cX7_group 38 = .ok (.getfield 32, 3) := by decide +kernel
theorem dX7_group_41 : decode cX7_group 41 = .ok (.getfield 72, 3) := by decide +kernel
theorem dX7_group_44 : decode cX7_group 44 = .ok (.putfield 17, 3) := by decide +kernel
theorem dX7_group_47 : decode cX7_group 47 = .ok (.iload_n 2, 1) := by decide +kernel
theorem dX7_group_48 : decode cX7_group 48 = .ok (.ifCond .eq 18, 3) := by decide +kernel
theorem dX7_group_51 : decode cX7_group 51 = .ok (.aload_n 0, 1) := by decide +kernel
theorem dX7_group_52 : decode cX7_group 52 = .ok (.getfield 46, 3) := by decide +kernel
theorem dX7_group_55 : decode cX7_group 55 = .ok (.getfield 75, 3) := by decide +kernel
theorem dX7_group_58 : decode cX7_group 58 = .ok (.iconst 0, 1) := by decide +kernel
theorem dX7_group_59 : decode cX7_group 59 = .ok (.dup2, 1) := by decide +kernel
theorem dX7_group_60 : decode cX7_group 60 = .ok (.iaload, 1) := by decide +kernel
theorem dX7_group_61 : decode cX7_group 61 = .ok (.iconst 1, 1) := by decide +kernel
theorem dX7_group_62 : decode cX7_group 62 = .ok (.iadd, 1) := by decide +kernel
theorem dX7_group_63 : decode cX7_group 63 = .ok (.iastore, 1) := by decide +kernel
theorem dX7_group_64 : decode cX7_group 64 = .ok (.iload_n 2, 1) := by decide +kernel
theorem dX7_group_65 : decode cX7_group 65 = .ok (.ireturn, 1) := by decide +kernel
theorem dX7_group_66 : decode cX7_group 66 = .ok (.aload_n 0, 1) := by decide +kernel
theorem dX7_group_67 : decode cX7_group 67 = .ok (.getfield 39, 3) := by decide +kernel
theorem dX7_group_70 : decode cX7_group 70 = .ok (.aload_n 0, 1) := by decide +kernel
theorem dX7_group_71 : decode cX7_group 71 = .ok (.getfield 23, 3) := by decide +kernel
theorem dX7_group_74 : decode cX7_group 74 = .ok (.invokevirtual 79, 3) := by decide +kernel
theorem dX7_group_77 : decode cX7_group 77 = .ok (.aload_n 0, 1) := by decide +kernel
theorem dX7_group_78 : decode cX7_group 78 = .ok (.getfield 46, 3) := by decide +kernel
theorem dX7_group_81 : decode cX7_group 81 = .ok (.aload_n 0, 1) := by decide +kernel
theorem dX7_group_82 : decode cX7_group 82 = .ok (.getfield 23, 3) := by decide +kernel
theorem dX7_group_85 : decode cX7_group 85 = .ok (.invokevirtual 83, 3) := by decide +kernel
theorem dX7_group_88 : decode cX7_group 88 = .ok (.aload_n 0, 1) := by decide +kernel
theorem dX7_group_89 : decode cX7_group 89 = .ok (.iconst 0, 1) := by decide +kernel
theorem dX7_group_90 : decode cX7_group 90 = .ok (.putfield 53, 3) := by decide +kernel
theorem dX7_group_93 : decode cX7_group 93 = .ok (.iconst 0, 1) := by decide +kernel
theorem dX7_group_94 : decode cX7_group 94 = .ok (.ireturn, 1) := by decide +kernel
