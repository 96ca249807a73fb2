/-! STEPS, printed by program: Car -/
theorem dX2_empty_0 : decode cX2_empty 0 = .ok (.aload_n 0, 1) := by decide +kernel
theorem dX2_empty_1 : decode cX2_empty 1 = .ok (.iconst 0, 1) := by decide +kernel
theorem dX2_empty_2 : decode cX2_empty 2 = .ok (.putfield 41, 3) := by decide +kernel
theorem dX2_empty_5 : decode cX2_empty 5 = .ok (.aload_n 0, 1) := by decide +kernel
theorem dX2_empty_6 : decode cX2_empty 6 = .ok (.iconst 0, 1) := by decide +kernel
theorem dX2_empty_7 : decode cX2_empty 7 = .ok (.putfield 44, 3) := by decide +kernel
theorem dX2_empty_10 : decode cX2_empty 10 = .ok (.aload_n 0, 1) := by decide +kernel
theorem dX2_empty_11 : decode cX2_empty 11 = .ok (.lconst 0, 1) := by decide +kernel
theorem dX2_empty_12 : decode cX2_empty 12 = .ok (.putfield 47, 3) := by decide +kernel
theorem dX2_empty_15 : decode cX2_empty 15 = .ok (.aload_n 0, 1) := by decide +kernel
theorem dX2_empty_16 : decode cX2_empty 16 = .ok (.iconst 0, 1) := by decide +kernel
theorem dX2_empty_17 : decode cX2_empty 17 = .ok (.putfield 54, 3) := by decide +kernel
theorem dX2_empty_20 : decode cX2_empty 20 = .ok (.aload_n 0, 1) := by decide +kernel
theorem dX2_empty_21 : decode cX2_empty 21 = .ok (.iconst 0, 1) := by decide +kernel
theorem dX2_empty_22 : decode cX2_empty 22 = .ok (.putfield 57, 3) := by decide +kernel
theorem dX2_empty_25 : decode cX2_empty 25 = .ok (.return_, 1) := by decide +kernel
set_option maxRecDepth 20000 in
set_option maxHeartbeats 4000000 in
theorem vX2_empty_0 {l : Launch} {x : CX} {a0 : Nat} {h : PH} {rc rs n0 : Nat} {Q : Option Value → PH → Prop} {X : String → PH → Prop}
    (K : ((hK h a0).1 = 2) ∧ Q none (sI (sI (sL (sI (sI h a0 9 0) a0 10 0) a0 11 0) a0 13 0) a0 14 0)) :
    Gm l x mX2_empty 0 0 [(0, .ref a0)] [] h rc rs n0 Q X := by
  refine g_aload_n dX2_empty_0 rfl 0 rfl ?_
  refine g_iconst (v := 0) dX2_empty_1 (by decide) ?_
  obtain ⟨e1, K⟩ := K
  refine g_puti (c := 2) (k := 9) dX2_empty_2 fc_2 (by decide) (by decide) bw_81 (Or.inl rfl) rfl e1 ?_
  refine g_aload_n dX2_empty_5 rfl 0 rfl ?_
  refine g_iconst (v := 0) dX2_empty_6 (by decide) ?_
  refine g_puti (c := 2) (k := 10) dX2_empty_7 fc_2 (by decide) (by decide) bw_84 (Or.inl rfl) rfl (kkI e1) ?_
  refine g_aload_n dX2_empty_10 rfl 0 rfl ?_
  refine g_lconst (v := 0) dX2_empty_11 (by decide) ?_
  refine g_putl (c := 2) (k := 11) dX2_empty_12 fc_2 (by decide) (by decide) bw_85 (Or.inl rfl) rfl (kkI (kkI e1)) ?_
  refine g_aload_n dX2_empty_15 rfl 0 rfl ?_
  refine g_iconst (v := 0) dX2_empty_16 (by decide) ?_
  refine g_puti (c := 2) (k := 13) dX2_empty_17 fc_2 (by decide) (by decide) bw_88 (Or.inl rfl) rfl (kkL (kkI (kkI e1))) ?_
  refine g_aload_n dX2_empty_20 rfl 0 rfl ?_
  refine g_iconst (v := 0) dX2_empty_21 (by decide) ?_
  refine g_puti (c := 2) (k := 14) dX2_empty_22 fc_2 (by decide) (by decide) bw_90 (Or.inl rfl) rfl (kkI (kkL (kkI (kkI e1)))) ?_
  exact g_vret dX2_empty_25 rfl K
theorem dX2_copyFrom_0 : decode cX2_copyFrom 0 = .ok (.aload_n 0, 1) := by decide +kernel
theorem dX2_copyFrom_1 : decode cX2_copyFrom 1 = .ok (.aload_n 1, 1) := by decide +kernel
theorem dX2_copyFrom_2 : decode cX2_copyFrom 2 = .ok (.getfield 9, 3) := by decide +kernel
theorem dX2_copyFrom_5 : decode cX2_copyFrom 5 = .ok (.putfield 9, 3) := by decide +kernel
theorem dX2_copyFrom_8 : decode cX2_copyFrom 8 = .ok (.aload_n 0, 1) := by decide +kernel
theorem dX2_copyFrom_9 : decode cX2_copyFrom 9 = .ok (.aload_n 1, 1) := by decide +kernel
theorem dX2_copyFrom_10 : decode cX2_copyFrom 10 = .ok (.getfield 15, 3) := by decide +kernel
theorem dX2_copyFrom_13 : decode cX2_copyFrom 13 = .ok (.putfield 15, 3) := by decide +kernel
theorem dX2_copyFrom_16 : decode cX2_copyFrom 16 = .ok (.aload_n 0, 1) := by decide +kernel
theorem dX2_copyFrom_17 : decode cX2_copyFrom 17 = .ok (.aload_n 1, 1) := by decide +kernel
theorem dX2_copyFrom_18 : decode cX2_copyFrom 18 = .ok (.getfield 18, 3) := by decide +kernel
theorem dX2_copyFrom_21 : decode cX2_copyFrom 21 = .ok (.putfield 18, 3) := by decide +kernel
theorem dX2_copyFrom_24 : decode cX2_copyFrom 24 = .ok (.aload_n 0, 1) := by decide +kernel
theorem dX2_copyFrom_25 : decode cX2_copyFrom 25 = .ok (.aload_n 1, 1) := by decide +kernel
theorem dX2_copyFrom_26 : decode cX2_copyFrom 26 = .ok (.getfield 21, 3) := by decide +kernel
theorem dX2_copyFrom_29 : decode cX2_copyFrom 29 = .ok (.putfield 21, 3) := by decide +kernel
theorem dX2_copyFrom_32 : decode cX2_copyFrom 32 = .ok (.aload_n 0, 1) := by decide +kernel
theorem dX2_copyFrom_33 : decode cX2_copyFrom 33 = .ok (.aload_n 1, 1) := by decide +kernel
theorem dX2_copyFrom_34 : decode cX2_copyFrom 34 = .ok (.getfield 24, 3) := by decide +kernel
theorem dX2_copyFrom_37 : decode cX2_copyFrom 37 = .ok (.putfield 24, 3) := by decide +kernel
theorem dX2_copyFrom_40 : decode cX2_copyFrom 40 = .ok (.aload_n 0, 1) := by decide +kernel
theorem dX2_copyFrom_41 : decode cX2_copyFrom 41 = .ok (.aload_n 1, 1) := by decide +kernel
theorem dX2_copyFrom_42 : decode cX2_copyFrom 42 = .ok (.getfield 27, 3) := by decide +kernel
theorem dX2_copyFrom_45 : decode cX2_copyFrom 45 = .ok (.putfield 27, 3) := by decide +kernel
theorem dX2_copyFrom_48 : decode cX2_copyFrom 48 = .ok (.aload_n 0, 1) := by decide +kernel
theorem dX2_copyFrom_49 : decode cX2_copyFrom 49 = .ok (.aload_n 1, 1) := by decide +kernel
theorem dX2_copyFrom_50 : decode cX2_copyFrom 50 = .ok (.getfield 30, 3) := by decide +kernel
theorem dX2_copyFrom_53 : decode cX2_copyFrom 53 = .ok (.putfield 30, 3) := by decide +kernel
theorem dX2_copyFrom_56 : decode cX2_copyFrom 56 = .ok (.aload_n 0, 1) := by decide +kernel
theorem dX2_copyFrom_57 : decode cX2_copyFrom 57 = .ok (.aload_n 1, 1) := by decide +kernel
theorem dX2_copyFrom_58 : decode cX2_copyFrom 58 = .ok (.getfield 34, 3) := by decide +kernel
theorem dX2_copyFrom_61 : decode cX2_copyFrom 61 = .ok (.putfield 34, 3) := by decide +kernel
theorem dX2_copyFrom_64 : decode cX2_copyFrom 64 = .ok (.aload_n 0, 1) := by decide +kernel
theorem dX2_copyFrom_65 : decode cX2_copyFrom 65 = .ok (.aload_n 1, 1) := by decide +kernel
theorem dX2_copyFrom_66 : decode cX2_copyFrom 66 = .ok (.getfield 38, 3) := by decide +kernel
theorem dX2_copyFrom_69 : decode cX2_copyFrom 69 = .ok (.putfield 38, 3) := by decide +kernel
theorem dX2_copyFrom_72 : decode cX2_copyFrom 72 = .ok (.aload_n 0, 1) := by decide +kernel
theorem dX2_copyFrom_73 : decode cX2_copyFrom 73 = .ok (.aload_n 1, 1) := by decide +kernel
theorem dX2_copyFrom_74 : decode cX2_copyFrom 74 = .ok (.getfield 41, 3) := by decide +kernel
theorem dX2_copyFrom_77 : decode cX2_copyFrom 77 = .ok (.putfield 41, 3) := by decide +kernel
theorem dX2_copyFrom_80 : decode cX2_copyFrom 80 = .ok (.aload_n 0, 1) := by decide +kernel
theorem dX2_copyFrom_81 : decode cX2_copyFrom 81 = .ok (.aload_n 1, 1) := by decide +kernel
theorem dX2_copyFrom_82 : decode cX2_copyFrom 82 = .ok (.getfield 44, 3) := by decide +kernel
theorem dX2_copyFrom_85 : decode cX2_copyFrom 85 = .ok (.putfield 44, 3) := by decide +kernel
theorem dX2_copyFrom_88 : decode cX2_copyFrom 88 = .ok (.aload_n 0, 1) := by decide +kernel
theorem dX2_copyFrom_89 : decode cX2_copyFrom 89 = .ok (.aload_n 1, 1) := by decide +kernel
theorem dX2_copyFrom_90 : decode cX2_copyFrom 90 = .ok (.getfield 47, 3) := by decide +kernel
theorem dX2_copyFrom_93 : decode cX2_copyFrom 93 = .ok (.putfield 47, 3) := by decide +kernel
theorem dX2_copyFrom_96 : decode cX2_copyFrom 96 = .ok (.aload_n 0, 1) := by decide +kernel
theorem dX2_copyFrom_97 : decode cX2_copyFrom 97 = .ok (.aload_n 1, 1) := by decide +kernel
theorem dX2_copyFrom_98 : decode cX2_copyFrom 98 = .ok (.getfield 51, 3) := by decide +kernel
theorem dX2_copyFrom_101 : decode cX2_copyFrom 101 = .ok (.putfield 51, 3) := by decide +kernel
theorem dX2_copyFrom_104 : decode cX2_copyFrom 104 = .ok (.aload_n 0, 1) := by decide +kernel
theorem dX2_copyFrom_105 : decode cX2_copyFrom 105 = .ok (.iconst 0, 1) := by decide +kernel
theorem dX2_copyFrom_106 : decode cX2_copyFrom 106 = .ok (.putfield 54, 3) := by decide +kernel
theorem dX2_copyFrom_109 : decode cX2_copyFrom 109 = .ok (.aload_n 0, 1) := by decide +kernel
theorem dX2_copyFrom_110 : decode cX2_copyFrom 110 = .ok (.iconst 0, 1) := by decide +kernel
theorem dX2_copyFrom_111 : decode cX2_copyFrom 111 = .ok (.putfield 57, 3) := by decide +kernel
theorem dX2_copyFrom_114 : decode cX2_copyFrom 114 = .ok (.return_, 1) := by decide +kernel
set_option maxRecDepth 20000 in
set_option maxHeartbeats 4000000 in
theorem vX2_copyFrom_0 {l : Launch} {x : CX} {a0 : Nat} {a1 : Nat} {h : PH} {rc rs n0 : Nat} {Q : Option Value → PH → Prop} {X : String → PH → Prop}
    (K : ((hK h a1).1 = 2) ∧ ((hK h a0).1 = 2) ∧ (((hI h a1 6) : Int32) = 0 ∨ ((hI h a1 6) : Int32) = 1) ∧ Q none (sI (sI (sL (sL (sI (sI (sI (sF (sI (sI (sI (sI (sI (sI (sI h a0 0 (hI h a1 0)) a0 1 (hI h a1 1)) a0 2 (hI h a1 2)) a0 3 (hI h a1 3)) a0 4 (hI h a1 4)) a0 5 (hI h a1 5)) a0 6 (hI h a1 6)) a0 7 (hF h a1 7)) a0 8 (hI h a1 8)) a0 9 (hI h a1 9)) a0 10 (hI h a1 10)) a0 11 (hL h a1 11)) a0 12 (hL h a1 12)) a0 13 0) a0 14 0)) :
    Gm l x mX2_copyFrom 0 0 [(0, .ref a0), (1, .ref a1)] [] h rc rs n0 Q X := by
  refine g_aload_n dX2_copyFrom_0 rfl 0 rfl ?_
  refine g_aload_n dX2_copyFrom_1 rfl 1 rfl ?_
  obtain ⟨e1, K⟩ := K
  refine g_get (c := 2) (k := 0) (v := .int (hI h a1 0)) dX2_copyFrom_2 fc_2 (by decide) (by decide) bw_53 rfl e1 ?_
  obtain ⟨e2, K⟩ := K
  refine g_puti (c := 2) (k := 0) dX2_copyFrom_5 fc_2 (by decide) (by decide) bw_53 (Or.inl rfl) rfl e2 ?_
  refine g_aload_n dX2_copyFrom_8 rfl 0 rfl ?_
  refine g_aload_n dX2_copyFrom_9 rfl 1 rfl ?_
  refine g_get (c := 2) (k := 1) (v := .int (hI h a1 1)) dX2_copyFrom_10 fc_2 (by decide) (by decide) bw_55 (congrArg Value.int ((skI (by decide)).trans rfl)) (kkI e1) ?_
  refine g_puti (c := 2) (k := 1) dX2_copyFrom_13 fc_2 (by decide) (by decide) bw_55 (Or.inl rfl) rfl (kkI e2) ?_
  refine g_aload_n dX2_copyFrom_16 rfl 0 rfl ?_
  refine g_aload_n dX2_copyFrom_17 rfl 1 rfl ?_
  refine g_get (c := 2) (k := 2) (v := .int (hI h a1 2)) dX2_copyFrom_18 fc_2 (by decide) (by decide) bw_59 (congrArg Value.int ((skI (by decide)).trans ((skI (by decide)).trans rfl))) (kkI (kkI e1)) ?_
  refine g_puti (c := 2) (k := 2) dX2_copyFrom_21 fc_2 (by decide) (by decide) bw_59 (Or.inl rfl) rfl (kkI (kkI e2)) ?_
  refine g_aload_n dX2_copyFrom_24 rfl 0 rfl ?_
  refine g_aload_n dX2_copyFrom_25 rfl 1 rfl ?_
  refine g_get (c := 2) (k := 3) (v := .int (hI h a1 3)) dX2_copyFrom_26 fc_2 (by decide) (by decide) bw_62 (congrArg Value.int ((skI (by decide)).trans ((skI (by decide)).trans ((skI (by decide)).trans rfl)))) (kkI (kkI (kkI e1))) ?_
  refine g_puti (c := 2) (k := 3) dX2_copyFrom_29 fc_2 (by decide) (by decide) bw_62 (Or.inl rfl) rfl (kkI (kkI (kkI e2))) ?_
  refine g_aload_n dX2_copyFrom_32 rfl 0 rfl ?_
  refine g_aload_n dX2_copyFrom_33 rfl 1 rfl ?_
  refine g_get (c := 2) (k := 4) (v := .int (hI h a1 4)) dX2_copyFrom_34 fc_2 (by decide) (by decide) bw_66 (congrArg Value.int ((skI (by decide)).trans ((skI (by decide)).trans ((skI (by decide)).trans ((skI (by decide)).trans rfl))))) (kkI (kkI (kkI (kkI e1)))) ?_
  refine g_puti (c := 2) (k := 4) dX2_copyFrom_37 fc_2 (by decide) (by decide) bw_66 (Or.inl rfl) rfl (kkI (kkI (kkI (kkI e2)))) ?_
  refine g_aload_n dX2_copyFrom_40 rfl 0 rfl ?_
  refine g_aload_n dX2_copyFrom_41 rfl 1 rfl ?_
  refine g_get (c := 2) (k := 5) (v := .int (hI h a1 5)) dX2_copyFrom_42 fc_2 (by decide) (by decide) bw_69 (congrArg Value.int ((skI (by decide)).trans ((skI (by decide)).trans ((skI (by decide)).trans ((skI (by decide)).trans ((skI (by decide)).trans rfl)))))) (kkI (kkI (kkI (kkI (kkI e1))))) ?_
  refine g_puti (c := 2) (k := 5) dX2_copyFrom_45 fc_2 (by decide) (by decide) bw_69 (Or.inl rfl) rfl (kkI (kkI (kkI (kkI (kkI e2))))) ?_
  refine g_aload_n dX2_copyFrom_48 rfl 0 rfl ?_
  refine g_aload_n dX2_copyFrom_49 rfl 1 rfl ?_
  refine g_get (c := 2) (k := 6) (v := .int (hI h a1 6)) dX2_copyFrom_50 fc_2 (by decide) (by decide) bw_72 (congrArg Value.int ((skI (by decide)).trans ((skI (by decide)).trans ((skI (by decide)).trans ((skI (by decide)).trans ((skI (by decide)).trans ((skI (by decide)).trans rfl))))))) (kkI (kkI (kkI (kkI (kkI (kkI e1)))))) ?_
  obtain ⟨e3, K⟩ := K
  refine g_putz (c := 2) (k := 6) dX2_copyFrom_53 fc_2 (by decide) (by decide) bw_72 (Or.inl rfl) rfl e3 (kkI (kkI (kkI (kkI (kkI (kkI e2)))))) ?_
  refine g_aload_n dX2_copyFrom_56 rfl 0 rfl ?_
  refine g_aload_n dX2_copyFrom_57 rfl 1 rfl ?_
  refine g_get (c := 2) (k := 7) (v := .float (hF h a1 7)) dX2_copyFrom_58 fc_2 (by decide) (by decide) bw_76 (congrArg Value.float ((hF_sI _ _ _ _ _ _).trans ((hF_sI _ _ _ _ _ _).trans ((hF_sI _ _ _ _ _ _).trans ((hF_sI _ _ _ _ _ _).trans ((hF_sI _ _ _ _ _ _).trans ((hF_sI _ _ _ _ _ _).trans ((hF_sI _ _ _ _ _ _).trans rfl)))))))) (kkI (kkI (kkI (kkI (kkI (kkI (kkI e1))))))) ?_
  refine g_putf (c := 2) (k := 7) dX2_copyFrom_61 fc_2 (by decide) (by decide) bw_76 (Or.inl rfl) rfl (kkI (kkI (kkI (kkI (kkI (kkI (kkI e2))))))) ?_
  refine g_aload_n dX2_copyFrom_64 rfl 0 rfl ?_
  refine g_aload_n dX2_copyFrom_65 rfl 1 rfl ?_
  refine g_get (c := 2) (k := 8) (v := .int (hI h a1 8)) dX2_copyFrom_66 fc_2 (by decide) (by decide) bw_79 (congrArg Value.int ((hI_sF _ _ _ _ _ _).trans ((skI (by decide)).trans ((skI (by decide)).trans ((skI (by decide)).trans ((skI (by decide)).trans ((skI (by decide)).trans ((skI (by decide)).trans ((skI (by decide)).trans rfl))))))))) (kkF (kkI (kkI (kkI (kkI (kkI (kkI (kkI e1)))))))) ?_
  refine g_puti (c := 2) (k := 8) dX2_copyFrom_69 fc_2 (by decide) (by decide) bw_79 (Or.inl rfl) rfl (kkF (kkI (kkI (kkI (kkI (kkI (kkI (kkI e2)))))))) ?_
  refine g_aload_n dX2_copyFrom_72 rfl 0 rfl ?_
  refine g_aload_n dX2_copyFrom_73 rfl 1 rfl ?_
  refine g_get (c := 2) (k := 9) (v := .int (hI h a1 9)) dX2_copyFrom_74 fc_2 (by decide) (by decide) bw_81 (congrArg Value.int ((skI (by decide)).trans ((hI_sF _ _ _ _ _ _).trans ((skI (by decide)).trans ((skI (by decide)).trans ((skI (by decide)).trans ((skI (by decide)).trans ((skI (by decide)).trans ((skI (by decide)).trans ((skI (by decide)).trans rfl)))))))))) (kkI (kkF (kkI (kkI (kkI (kkI (kkI (kkI (kkI e1))))))))) ?_
  refine g_puti (c := 2) (k := 9) dX2_copyFrom_77 fc_2 (by decide) (by decide) bw_81 (Or.inl rfl) rfl (kkI (kkF (kkI (kkI (kkI (kkI (kkI (kkI (kkI e2))))))))) ?_
  refine g_aload_n dX2_copyFrom_80 rfl 0 rfl ?_
  refine g_aload_n dX2_copyFrom_81 rfl 1 rfl ?_
  refine g_get (c := 2) (k := 10) (v := .int (hI h a1 10)) dX2_copyFrom_82 fc_2 (by decide) (by decide) bw_84 (congrArg Value.int ((skI (by decide)).trans ((skI (by decide)).trans ((hI_sF _ _ _ _ _ _).trans ((skI (by decide)).trans ((skI (by decide)).trans ((skI (by decide)).trans ((skI (by decide)).trans ((skI (by decide)).trans ((skI (by decide)).trans ((skI (by decide)).trans rfl))))))))))) (kkI (kkI (kkF (kkI (kkI (kkI (kkI (kkI (kkI (kkI e1)))))))))) ?_
  refine g_puti (c := 2) (k := 10) dX2_copyFrom_85 fc_2 (by decide) (by decide) bw_84 (Or.inl rfl) rfl (kkI (kkI (kkF (kkI (kkI (kkI (kkI (kkI (kkI (kkI e2)))))))))) ?_
  refine g_aload_n dX2_copyFrom_88 rfl 0 rfl ?_
  refine g_aload_n dX2_copyFrom_89 rfl 1 rfl ?_
  refine g_get (c := 2) (k := 11) (v := .long (hL h a1 11)) dX2_copyFrom_90 fc_2 (by decide) (by decide) bw_85 (congrArg Value.long ((hL_sI _ _ _ _ _ _).trans ((hL_sI _ _ _ _ _ _).trans ((hL_sI _ _ _ _ _ _).trans ((hL_sF _ _ _ _ _ _).trans ((hL_sI _ _ _ _ _ _).trans ((hL_sI _ _ _ _ _ _).trans ((hL_sI _ _ _ _ _ _).trans ((hL_sI _ _ _ _ _ _).trans ((hL_sI _ _ _ _ _ _).trans ((hL_sI _ _ _ _ _ _).trans ((hL_sI _ _ _ _ _ _).trans rfl)))))))))))) (kkI (kkI (kkI (kkF (kkI (kkI (kkI (kkI (kkI (kkI (kkI e1))))))))))) ?_
  refine g_putl (c := 2) (k := 11) dX2_copyFrom_93 fc_2 (by decide) (by decide) bw_85 (Or.inl rfl) rfl (kkI (kkI (kkI (kkF (kkI (kkI (kkI (kkI (kkI (kkI (kkI e2))))))))))) ?_
  refine g_aload_n dX2_copyFrom_96 rfl 0 rfl ?_
  refine g_aload_n dX2_copyFrom_97 rfl 1 rfl ?_
  refine g_get (c := 2) (k := 12) (v := .long (hL h a1 12)) dX2_copyFrom_98 fc_2 (by decide) (by decide) bw_86 (congrArg Value.long ((skL (by decide)).trans ((hL_sI _ _ _ _ _ _).trans ((hL_sI _ _ _ _ _ _).trans ((hL_sI _ _ _ _ _ _).trans ((hL_sF _ _ _ _ _ _).trans ((hL_sI _ _ _ _ _ _).trans ((hL_sI _ _ _ _ _ _).trans ((hL_sI _ _ _ _ _ _).trans ((hL_sI _ _ _ _ _ _).trans ((hL_sI _ _ _ _ _ _).trans ((hL_sI _ _ _ _ _ _).trans ((hL_sI _ _ _ _ _ _).trans rfl))))))))))))) (kkL (kkI (kkI (kkI (kkF (kkI (kkI (kkI (kkI (kkI (kkI (kkI e1)))))))))))) ?_
  refine g_putl (c := 2) (k := 12) dX2_copyFrom_101 fc_2 (by decide) (by decide) bw_86 (Or.inl rfl) rfl (kkL (kkI (kkI (kkI (kkF (kkI (kkI (kkI (kkI (kkI (kkI (kkI e2)))))))))))) ?_
  refine g_aload_n dX2_copyFrom_104 rfl 0 rfl ?_
  refine g_iconst (v := 0) dX2_copyFrom_105 (by decide) ?_
  refine g_puti (c := 2) (k := 13) dX2_copyFrom_106 fc_2 (by decide) (by decide) bw_88 (Or.inl rfl) rfl (kkL (kkL (kkI (kkI (kkI (kkF (kkI (kkI (kkI (kkI (kkI (kkI (kkI e2))))))))))))) ?_
  refine g_aload_n dX2_copyFrom_109 rfl 0 rfl ?_
  refine g_iconst (v := 0) dX2_copyFrom_110 (by decide) ?_
  refine g_puti (c := 2) (k := 14) dX2_copyFrom_111 fc_2 (by decide) (by decide) bw_90 (Or.inl rfl) rfl (kkI (kkL (kkL (kkI (kkI (kkI (kkF (kkI (kkI (kkI (kkI (kkI (kkI (kkI e2)))))))))))))) ?_
  exact g_vret dX2_copyFrom_114 rfl K
theorem dX2_takes_0 : decode cX2_takes 0 = .ok (.aload_n 0, 1) := by decide +kernel
theorem dX2_takes_1 : decode cX2_takes 1 = .ok (.getfield 9, 3) := by decide +kernel
theorem dX2_takes_4 : decode cX2_takes 4 = .ok (.ifCond .eq 11, 3) := by decide +kernel
theorem dX2_takes_7 : decode cX2_takes 7 = .ok (.aload_n 0, 1) := by decide +kernel
theorem dX2_takes_8 : decode cX2_takes 8 = .ok (.getfield 9, 3) := by decide +kernel
theorem dX2_takes_11 : decode cX2_takes 11 = .ok (.iload_n 1, 1) := by decide +kernel
theorem dX2_takes_12 : decode cX2_takes 12 = .ok (.if_icmp .ne 7, 3) := by decide +kernel
theorem dX2_takes_15 : decode cX2_takes 15 = .ok (.iconst 1, 1) := by decide +kernel
theorem dX2_takes_16 : decode cX2_takes 16 = .ok (.goto 4, 3) := by decide +kernel
theorem dX2_takes_19 : decode cX2_takes 19 = .ok (.iconst 0, 1) := by decide +kernel
theorem dX2_takes_20 : decode cX2_takes 20 = .ok (.ireturn, 1) := by decide +kernel
set_option maxRecDepth 20000 in
set_option maxHeartbeats 4000000 in
theorem vX2_takes_0 {l : Launch} {x : CX} {a0 : Nat} {x1 : Int32} {h : PH} {rc rs n0 : Nat} {Q : Option Value → PH → Prop} {X : String → PH → Prop}
    (K : ((hK h a0).1 = 2) ∧ (((if (hI h a0 0) = 0 then 1 else (if (hI h a0 0) = x1 then 1 else 0 : Int32) : Int32) : Int32) = 0 ∨ ((if (hI h a0 0) = 0 then 1 else (if (hI h a0 0) = x1 then 1 else 0 : Int32) : Int32) : Int32) = 1) ∧ Q (some (.int (if (hI h a0 0) = 0 then 1 else (if (hI h a0 0) = x1 then 1 else 0 : Int32) : Int32))) h) :
    Gm l x mX2_takes 0 0 [(0, .ref a0), (1, .int x1)] [] h rc rs n0 Q X := by
  refine g_aload_n dX2_takes_0 rfl 0 rfl ?_
  obtain ⟨e1, K⟩ := K
  refine g_get (c := 2) (k := 0) (v := .int (hI h a0 0)) dX2_takes_1 fc_2 (by decide) (by decide) bw_53 rfl e1 ?_
  have KJ : Gm l x mX2_takes 0 20 [(0, .ref a0), (1, .int x1)] [.int (if (hI h a0 0) = 0 then 1 else (if (hI h a0 0) = x1 then 1 else 0 : Int32) : Int32)] h rc rs n0 Q X := by
    exact g_zret dX2_takes_20 rfl K.1 K.2
  refine g_if_eq (tgt := 15) dX2_takes_4 (by decide) (fun c2 => ?_) (fun c2 => ?_)
  · refine g_iconst (v := 1) dX2_takes_15 (by decide) ?_
    refine g_goto (tgt := 20) dX2_takes_16 (by decide) ?_
    first | (simp only [if_pos c2] at KJ; exact KJ) | (simp only [if_pos c2, ite_true, ite_false, eq_self] at KJ; exact KJ) | (simp only [if_pos c2] at KJ ⊢; exact KJ) | exact KJ
  · refine g_aload_n dX2_takes_7 rfl 0 rfl ?_
    refine g_get (c := 2) (k := 0) (v := .int (hI h a0 0)) dX2_takes_8 fc_2 (by decide) (by decide) bw_53 rfl e1 ?_
    refine g_iload_n dX2_takes_11 rfl 1 rfl ?_
    refine g_icmp_ne (tgt := 19) dX2_takes_12 (by decide) (fun c3 => ?_) (fun c3 => ?_)
    · refine g_iconst (v := 0) dX2_takes_19 (by decide) ?_
      first | (simp only [if_neg c2, if_neg c3] at KJ; exact KJ) | (simp only [if_neg c2, if_neg c3, ite_true, ite_false, eq_self] at KJ; exact KJ) | (simp only [if_neg c2, if_neg c3] at KJ ⊢; exact KJ) | exact KJ
    · refine g_iconst (v := 1) dX2_takes_15 (by decide) ?_
      refine g_goto (tgt := 20) dX2_takes_16 (by decide) ?_
      first | (simp only [if_neg c2, if_pos c3] at KJ; exact KJ) | (simp only [if_neg c2, if_pos c3, ite_true, ite_false, eq_self] at KJ; exact KJ) | (simp only [if_neg c2, if_pos c3] at KJ ⊢; exact KJ) | exact KJ
theorem dX2_hasStop_0 : decode cX2_hasStop 0 = .ok (.aload_n 0, 1) := by decide +kernel
theorem dX2_hasStop_1 : decode cX2_hasStop 1 = .ok (.getfield 44, 3) := by decide +kernel
theorem dX2_hasStop_4 : decode cX2_hasStop 4 = .ok (.aload_n 0, 1) := by decide +kernel
theorem dX2_hasStop_5 : decode cX2_hasStop 5 = .ok (.getfield 18, 3) := by decide +kernel
theorem dX2_hasStop_8 : decode cX2_hasStop 8 = .ok (.if_icmp .ge 15, 3) := by decide +kernel
theorem dX2_hasStop_11 : decode cX2_hasStop 11 = .ok (.aload_n 0, 1) := by decide +kernel
theorem dX2_hasStop_12 : decode cX2_hasStop 12 = .ok (.getfield 47, 3) := by decide +kernel
theorem dX2_hasStop_15 : decode cX2_hasStop 15 = .ok (.aload_n 0, 1) := by decide +kernel
theorem dX2_hasStop_16 : decode cX2_hasStop 16 = .ok (.getfield 51, 3) := by decide +kernel
theorem dX2_hasStop_19 : decode cX2_hasStop 19 = .ok (.lor, 1) := by decide +kernel
theorem dX2_hasStop_20 : decode cX2_hasStop 20 = .ok (.goto 7, 3) := by decide +kernel
theorem dX2_hasStop_23 : decode cX2_hasStop 23 = .ok (.aload_n 0, 1) := by decide +kernel
theorem dX2_hasStop_24 : decode cX2_hasStop 24 = .ok (.getfield 47, 3) := by decide +kernel
theorem dX2_hasStop_27 : decode cX2_hasStop 27 = .ok (.lstore_n 2, 1) := by decide +kernel
theorem dX2_hasStop_28 : decode cX2_hasStop 28 = .ok (.lload_n 2, 1) := by decide +kernel
theorem dX2_hasStop_29 : decode cX2_hasStop 29 = .ok (.iconst 4, 1) := by decide +kernel
theorem dX2_hasStop_30 : decode cX2_hasStop 30 = .ok (.aload_n 0, 1) := by decide +kernel
theorem dX2_hasStop_31 : decode cX2_hasStop 31 = .ok (.getfield 21, 3) := by decide +kernel
theorem dX2_hasStop_34 : decode cX2_hasStop 34 = .ok (.imul, 1) := by decide +kernel
theorem dX2_hasStop_35 : decode cX2_hasStop 35 = .ok (.lushr, 1) := by decide +kernel
theorem dX2_hasStop_36 : decode cX2_hasStop 36 = .ok (.iconst 4, 1) := by decide +kernel
theorem dX2_hasStop_37 : decode cX2_hasStop 37 = .ok (.lushr, 1) := by decide +kernel
theorem dX2_hasStop_38 : decode cX2_hasStop 38 = .ok (.lstore 4, 2) := by decide +kernel
theorem dX2_hasStop_40 : decode cX2_hasStop 40 = .ok (.lload_n 2, 1) := by decide +kernel
theorem dX2_hasStop_41 : decode cX2_hasStop 41 = .ok (.lconst 1, 1) := by decide +kernel
theorem dX2_hasStop_42 : decode cX2_hasStop 42 = .ok (.iconst 4, 1) := by decide +kernel
theorem dX2_hasStop_43 : decode cX2_hasStop 43 = .ok (.aload_n 0, 1) := by decide +kernel
theorem dX2_hasStop_44 : decode cX2_hasStop 44 = .ok (.getfield 21, 3) := by decide +kernel
theorem dX2_hasStop_47 : decode cX2_hasStop 47 = .ok (.imul, 1) := by decide +kernel
theorem dX2_hasStop_48 : decode cX2_hasStop 48 = .ok (.lshl, 1) := by decide +kernel
theorem dX2_hasStop_49 : decode cX2_hasStop 49 = .ok (.lconst 1, 1) := by decide +kernel
theorem dX2_hasStop_50 : decode cX2_hasStop 50 = .ok (.lsub, 1) := by decide +kernel
theorem dX2_hasStop_51 : decode cX2_hasStop 51 = .ok (.land, 1) := by decide +kernel
theorem dX2_hasStop_52 : decode cX2_hasStop 52 = .ok (.lstore 6, 2) := by decide +kernel
theorem dX2_hasStop_54 : decode cX2_hasStop 54 = .ok (.iload_n 1, 1) := by decide +kernel
theorem dX2_hasStop_55 : decode cX2_hasStop 55 = .ok (.ifCond .le 18, 3) := by decide +kernel
theorem dX2_hasStop_58 : decode cX2_hasStop 58 = .ok (.lload 4, 2) := by decide +kernel
theorem dX2_hasStop_60 : decode cX2_hasStop 60 = .ok (.lconst 0, 1) := by decide +kernel
theorem dX2_hasStop_61 : decode cX2_hasStop 61 = .ok (.lcmp, 1) := by decide +kernel
theorem dX2_hasStop_62 : decode cX2_hasStop 62 = .ok (.ifCond .eq 7, 3) := by decide +kernel
theorem dX2_hasStop_65 : decode cX2_hasStop 65 = .ok (.iconst 1, 1) := by decide +kernel
theorem dX2_hasStop_66 : decode cX2_hasStop 66 = .ok (.goto 23, 3) := by decide +kernel
theorem dX2_hasStop_69 : decode cX2_hasStop 69 = .ok (.iconst 0, 1) := by decide +kernel
theorem dX2_hasStop_70 : decode cX2_hasStop 70 = .ok (.goto 19, 3) := by decide +kernel
theorem dX2_hasStop_73 : decode cX2_hasStop 73 = .ok (.iload_n 1, 1) := by decide +kernel
theorem dX2_hasStop_74 : decode cX2_hasStop 74 = .ok (.ifCond .ge 14, 3) := by decide +kernel
theorem dX2_hasStop_77 : decode cX2_hasStop 77 = .ok (.lload 6, 2) := by decide +kernel
theorem dX2_hasStop_79 : decode cX2_hasStop 79 = .ok (.lconst 0, 1) := by decide +kernel
theorem dX2_hasStop_80 : decode cX2_hasStop 80 = .ok (.lcmp, 1) := by decide +kernel
theorem dX2_hasStop_81 : decode cX2_hasStop 81 = .ok (.ifCond .eq 7, 3) := by decide +kernel
theorem dX2_hasStop_84 : decode cX2_hasStop 84 = .ok (.iconst 1, 1) := by decide +kernel
theorem dX2_hasStop_85 : decode cX2_hasStop 85 = .ok (.goto 4, 3) := by decide +kernel
theorem dX2_hasStop_88 : decode cX2_hasStop 88 = .ok (.iconst 0, 1) := by decide +kernel
theorem dX2_hasStop_89 : decode cX2_hasStop 89 = .ok (.ireturn, 1) := by decide +kernel
set_option maxRecDepth 20000 in
set_option maxHeartbeats 4000000 in
theorem vX2_hasStop_0 {l : Launch} {x : CX} {a0 : Nat} {x1 : Int32} {h : PH} {rc rs n0 : Nat} {Q : Option Value → PH → Prop} {X : String → PH → Prop}
    (K : ((hK h a0).1 = 2) ∧ ∀ (y3 : Int64), y3 = (if (hI h a0 2) ≤ (hI h a0 10) then (hL h a0 11) else ((hL h a0 11) ||| (hL h a0 12)) : Int64) → (((if x1 ≤ 0 then (if 0 ≤ x1 then 0 else (if (lg_cmp (y3 &&& ((lsh 1 (4 * (hI h a0 3))) - 1)) 0) = 0 then 0 else 1 : Int32) : Int32) else (if (lg_cmp (lus (lus y3 (4 * (hI h a0 3))) 4) 0) = 0 then 0 else 1 : Int32) : Int32) : Int32) = 0 ∨ ((if x1 ≤ 0 then (if 0 ≤ x1 then 0 else (if (lg_cmp (y3 &&& ((lsh 1 (4 * (hI h a0 3))) - 1)) 0) = 0 then 0 else 1 : Int32) : Int32) else (if (lg_cmp (lus (lus y3 (4 * (hI h a0 3))) 4) 0) = 0 then 0 else 1 : Int32) : Int32) : Int32) = 1) ∧ Q (some (.int (if x1 ≤ 0 then (if 0 ≤ x1 then 0 else (if (lg_cmp (y3 &&& ((lsh 1 (4 * (hI h a0 3))) - 1)) 0) = 0 then 0 else 1 : Int32) : Int32) else (if (lg_cmp (lus (lus y3 (4 * (hI h a0 3))) 4) 0) = 0 then 0 else 1 : Int32) : Int32))) h) :
    Gm l x mX2_hasStop 0 0 [(0, .ref a0), (1, .int x1)] [] h rc rs n0 Q X := by
  refine g_aload_n dX2_hasStop_0 rfl 0 rfl ?_
  obtain ⟨e1, K⟩ := K
  refine g_get (c := 2) (k := 10) (v := .int (hI h a0 10)) dX2_hasStop_1 fc_2 (by decide) (by decide) bw_84 rfl e1 ?_
  refine g_aload_n dX2_hasStop_4 rfl 0 rfl ?_
  refine g_get (c := 2) (k := 2) (v := .int (hI h a0 2)) dX2_hasStop_5 fc_2 (by decide) (by decide) bw_59 rfl e1 ?_
  have KJ : Gm l x mX2_hasStop 0 27 [(0, .ref a0), (1, .int x1)] [.long (if (hI h a0 2) ≤ (hI h a0 10) then (hL h a0 11) else ((hL h a0 11) ||| (hL h a0 12)) : Int64)] h rc rs n0 Q X := by
    refine g_nmJ (fun y3 e4 => ?_)
    replace K := K y3 e4
    refine g_lstore_n (lv' := [(0, .ref a0), (1, .int x1), (2, .long y3)]) dX2_hasStop_27 rfl (by decide) rfl ?_
    refine g_lload_n dX2_hasStop_28 rfl 2 rfl ?_
    refine g_iconst (v := 4) dX2_hasStop_29 (by decide) ?_
    refine g_aload_n dX2_hasStop_30 rfl 0 rfl ?_
    refine g_get (c := 2) (k := 3) (v := .int (hI h a0 3)) dX2_hasStop_31 fc_2 (by decide) (by decide) bw_62 rfl e1 ?_
    refine g_imul dX2_hasStop_34 ?_
    refine g_lushr dX2_hasStop_35 ?_
    refine g_iconst (v := 4) dX2_hasStop_36 (by decide) ?_
    refine g_lushr dX2_hasStop_37 ?_
    refine g_lstore (lv' := [(0, .ref a0), (1, .int x1), (2, .long y3), (4, .long (lus (lus y3 (4 * (hI h a0 3))) 4))]) dX2_hasStop_38 (by decide) rfl ?_
    refine g_lload_n dX2_hasStop_40 rfl 2 rfl ?_
    refine g_lconst (v := 1) dX2_hasStop_41 (by decide) ?_
    refine g_iconst (v := 4) dX2_hasStop_42 (by decide) ?_
    refine g_aload_n dX2_hasStop_43 rfl 0 rfl ?_
    refine g_get (c := 2) (k := 3) (v := .int (hI h a0 3)) dX2_hasStop_44 fc_2 (by decide) (by decide) bw_62 rfl e1 ?_
    refine g_imul dX2_hasStop_47 ?_
    refine g_lshl dX2_hasStop_48 ?_
    refine g_lconst (v := 1) dX2_hasStop_49 (by decide) ?_
    refine g_lsub dX2_hasStop_50 ?_
    refine g_land dX2_hasStop_51 ?_
    refine g_lstore (lv' := [(0, .ref a0), (1, .int x1), (2, .long y3), (4, .long (lus (lus y3 (4 * (hI h a0 3))) 4)), (6, .long (y3 &&& ((lsh 1 (4 * (hI h a0 3))) - 1)))]) dX2_hasStop_52 (by decide) rfl ?_
    refine g_iload_n dX2_hasStop_54 rfl 1 rfl ?_
    have KJ : Gm l x mX2_hasStop 0 89 [(0, .ref a0), (1, .int x1), (2, .long y3), (4, .long (lus (lus y3 (4 * (hI h a0 3))) 4)), (6, .long (y3 &&& ((lsh 1 (4 * (hI h a0 3))) - 1)))] [.int (if x1 ≤ 0 then (if 0 ≤ x1 then 0 else (if (lg_cmp (y3 &&& ((lsh 1 (4 * (hI h a0 3))) - 1)) 0) = 0 then 0 else 1 : Int32) : Int32) else (if (lg_cmp (lus (lus y3 (4 * (hI h a0 3))) 4) 0) = 0 then 0 else 1 : Int32) : Int32)] h rc rs n0 Q X := by
      exact g_zret dX2_hasStop_89 rfl K.1 K.2
    refine g_if_le (tgt := 73) dX2_hasStop_55 (by decide) (fun c5 => ?_) (fun c5 => ?_)
    · refine g_iload_n dX2_hasStop_73 rfl 1 rfl ?_
      refine g_if_ge (tgt := 88) dX2_hasStop_74 (by decide) (fun c6 => ?_) (fun c6 => ?_)
      · refine g_iconst (v := 0) dX2_hasStop_88 (by decide) ?_
        first | (simp only [if_pos c5, if_pos c6] at KJ; exact KJ) | (simp only [if_pos c5, if_pos c6, ite_true, ite_false, eq_self] at KJ; exact KJ) | (simp only [if_pos c5, if_pos c6] at KJ ⊢; exact KJ) | exact KJ
      · refine g_lload dX2_hasStop_77 4 rfl ?_
        refine g_lconst (v := 0) dX2_hasStop_79 (by decide) ?_
        refine g_lcmp dX2_hasStop_80 ?_
        refine g_if_eq (tgt := 88) dX2_hasStop_81 (by decide) (fun c7 => ?_) (fun c7 => ?_)
        · refine g_iconst (v := 0) dX2_hasStop_88 (by decide) ?_
          first | (simp only [if_pos c5, if_neg c6, if_pos c7] at KJ; exact KJ) | (simp only [if_pos c5, if_neg c6, if_pos c7, ite_true, ite_false, eq_self] at KJ; exact KJ) | (simp only [if_pos c5, if_neg c6, if_pos c7] at KJ ⊢; exact KJ) | exact KJ
        · refine g_iconst (v := 1) dX2_hasStop_84 (by decide) ?_
          refine g_goto (tgt := 89) dX2_hasStop_85 (by decide) ?_
          first | (simp only [if_pos c5, if_neg c6, if_neg c7] at KJ; exact KJ) | (simp only [if_pos c5, if_neg c6, if_neg c7, ite_true, ite_false, eq_self] at KJ; exact KJ) | (simp only [if_pos c5, if_neg c6, if_neg c7] at KJ ⊢; exact KJ) | exact KJ
    · refine g_lload dX2_hasStop_58 3 rfl ?_
      refine g_lconst (v := 0) dX2_hasStop_60 (by decide) ?_
      refine g_lcmp dX2_hasStop_61 ?_
      refine g_if_eq (tgt := 69) dX2_hasStop_62 (by decide) (fun c8 => ?_) (fun c8 => ?_)
      · refine g_iconst (v := 0) dX2_hasStop_69 (by decide) ?_
        refine g_goto (tgt := 89) dX2_hasStop_70 (by decide) ?_
        first | (simp only [if_neg c5, if_pos c8] at KJ; exact KJ) | (simp only [if_neg c5, if_pos c8, ite_true, ite_false, eq_self] at KJ; exact KJ) | (simp only [if_neg c5, if_pos c8] at KJ ⊢; exact KJ) | exact KJ
      · refine g_iconst (v := 1) dX2_hasStop_65 (by decide) ?_
        refine g_goto (tgt := 89) dX2_hasStop_66 (by decide) ?_
        first | (simp only [if_neg c5, if_neg c8] at KJ; exact KJ) | (simp only [if_neg c5, if_neg c8, ite_true, ite_false, eq_self] at KJ; exact KJ) | (simp only [if_neg c5, if_neg c8] at KJ ⊢; exact KJ) | exact KJ
  refine g_icmp_ge (tgt := 23) dX2_hasStop_8 (by decide) (fun c2 => ?_) (fun c2 => ?_)
  · refine g_aload_n dX2_hasStop_23 rfl 0 rfl ?_
    refine g_get (c := 2) (k := 11) (v := .long (hL h a0 11)) dX2_hasStop_24 fc_2 (by decide) (by decide) bw_85 rfl e1 ?_
    first | (simp only [if_pos c2] at KJ; exact KJ) | (simp only [if_pos c2, ite_true, ite_false, eq_self] at KJ; exact KJ) | (simp only [if_pos c2] at KJ ⊢; exact KJ) | exact KJ
  · refine g_aload_n dX2_hasStop_11 rfl 0 rfl ?_
    refine g_get (c := 2) (k := 11) (v := .long (hL h a0 11)) dX2_hasStop_12 fc_2 (by decide) (by decide) bw_85 rfl e1 ?_
    refine g_aload_n dX2_hasStop_15 rfl 0 rfl ?_
    refine g_get (c := 2) (k := 12) (v := .long (hL h a0 12)) dX2_hasStop_16 fc_2 (by decide) (by decide) bw_86 rfl e1 ?_
    refine g_lor dX2_hasStop_19 ?_
    refine g_goto (tgt := 27) dX2_hasStop_20 (by decide) ?_
    first | (simp only [if_neg c2] at KJ; exact KJ) | (simp only [if_neg c2, ite_true, ite_false, eq_self] at KJ; exact KJ) | (simp only [if_neg c2] at KJ ⊢; exact KJ) | exact KJ
theorem dX2_opensHere_0 : decode cX2_opensHere 0 = .ok (.aload_n 0, 1) := by decide +kernel
theorem dX2_opensHere_1 : decode cX2_opensHere 1 = .ok (.getfield 47, 3) := by decide +kernel
theorem dX2_opensHere_4 : decode cX2_opensHere 4 = .ok (.iconst 4, 1) := by decide +kernel
theorem dX2_opensHere_5 : decode cX2_opensHere 5 = .ok (.aload_n 0, 1) := by decide +kernel
theorem dX2_opensHere_6 : decode cX2_opensHere 6 = .ok (.getfield 21, 3) := by decide +kernel
theorem dX2_opensHere_9 : decode cX2_opensHere 9 = .ok (.imul, 1) := by decide +kernel
theorem dX2_opensHere_10 : decode cX2_opensHere 10 = .ok (.lushr, 1) := by decide +kernel
theorem dX2_opensHere_11 : decode cX2_opensHere 11 = .ok (.lconst 1, 1) := by decide +kernel
theorem dX2_opensHere_12 : decode cX2_opensHere 12 = .ok (.land, 1) := by decide +kernel
theorem dX2_opensHere_13 : decode cX2_opensHere 13 = .ok (.lconst 0, 1) := by decide +kernel
theorem dX2_opensHere_14 : decode cX2_opensHere 14 = .ok (.lcmp, 1) := by decide +kernel
theorem dX2_opensHere_15 : decode cX2_opensHere 15 = .ok (.ifCond .eq 5, 3) := by decide +kernel
theorem dX2_opensHere_18 : decode cX2_opensHere 18 = .ok (.iconst 1, 1) := by decide +kernel
theorem dX2_opensHere_19 : decode cX2_opensHere 19 = .ok (.ireturn, 1) := by decide +kernel
theorem dX2_opensHere_20 : decode cX2_opensHere 20 = .ok (.aload_n 0, 1) := by decide +kernel
theorem dX2_opensHere_21 : decode cX2_opensHere 21 = .ok (.getfield 44, 3) := by decide +kernel
theorem dX2_opensHere_24 : decode cX2_opensHere 24 = .ok (.aload_n 0, 1) := by decide +kernel
theorem dX2_opensHere_25 : decode cX2_opensHere 25 = .ok (.getfield 18, 3) := by decide +kernel
theorem dX2_opensHere_28 : decode cX2_opensHere 28 = .ok (.if_icmp .lt 5, 3) := by decide +kernel
theorem dX2_opensHere_31 : decode cX2_opensHere 31 = .ok (.iconst 0, 1) := by decide +kernel
theorem dX2_opensHere_32 : decode cX2_opensHere 32 = .ok (.ireturn, 1) := by decide +kernel
theorem dX2_opensHere_33 : decode cX2_opensHere 33 = .ok (.aload_n 0, 1) := by decide +kernel
theorem dX2_opensHere_34 : decode cX2_opensHere 34 = .ok (.getfield 51, 3) := by decide +kernel
theorem dX2_opensHere_37 : decode cX2_opensHere 37 = .ok (.iconst 4, 1) := by decide +kernel
theorem dX2_opensHere_38 : decode cX2_opensHere 38 = .ok (.aload_n 0, 1) := by decide +kernel
theorem dX2_opensHere_39 : decode cX2_opensHere 39 = .ok (.getfield 21, 3) := by decide +kernel
theorem dX2_opensHere_42 : decode cX2_opensHere 42 = .ok (.imul, 1) := by decide +kernel
theorem dX2_opensHere_43 : decode cX2_opensHere 43 = .ok (.lushr, 1) := by decide +kernel
theorem dX2_opensHere_44 : decode cX2_opensHere 44 = .ok (.ldc2_w 96, 3) := by decide +kernel
theorem dX2_opensHere_47 : decode cX2_opensHere 47 = .ok (.land, 1) := by decide +kernel
theorem dX2_opensHere_48 : decode cX2_opensHere 48 = .ok (.lstore_n 2, 1) := by decide +kernel
theorem dX2_opensHere_49 : decode cX2_opensHere 49 = .ok (.aload_n 0, 1) := by decide +kernel
theorem dX2_opensHere_50 : decode cX2_opensHere 50 = .ok (.getfield 24, 3) := by decide +kernel
theorem dX2_opensHere_53 : decode cX2_opensHere 53 = .ok (.ifCond .eq 7, 3) := by decide +kernel
theorem dX2_opensHere_56 : decode cX2_opensHere 56 = .ok (.iload_n 1, 1) := by decide +kernel
theorem dX2_opensHere_57 : decode cX2_opensHere 57 = .ok (.ifCond .ne 9, 3) := by decide +kernel
theorem dX2_opensHere_60 : decode cX2_opensHere 60 = .ok (.ldc2_w 96, 3) := by decide +kernel
theorem dX2_opensHere_63 : decode cX2_opensHere 63 = .ok (.goto 19, 3) := by decide +kernel
theorem dX2_opensHere_66 : decode cX2_opensHere 66 = .ok (.aload_n 0, 1) := by decide +kernel
theorem dX2_opensHere_67 : decode cX2_opensHere 67 = .ok (.getfield 24, 3) := by decide +kernel
theorem dX2_opensHere_70 : decode cX2_opensHere 70 = .ok (.ifCond .le 9, 3) := by decide +kernel
theorem dX2_opensHere_73 : decode cX2_opensHere 73 = .ok (.ldc2_w 98, 3) := by decide +kernel
theorem dX2_opensHere_76 : decode cX2_opensHere 76 = .ok (.goto 6, 3) := by decide +kernel
theorem dX2_opensHere_79 : decode cX2_opensHere 79 = .ok (.ldc2_w 100, 3) := by decide +kernel
theorem dX2_opensHere_82 : decode cX2_opensHere 82 = .ok (.lstore 4, 2) := by decide +kernel
theorem dX2_opensHere_84 : decode cX2_opensHere 84 = .ok (.lload_n 2, 1) := by decide +kernel
theorem dX2_opensHere_85 : decode cX2_opensHere 85 = .ok (.lload 4, 2) := by decide +kernel
theorem dX2_opensHere_87 : decode cX2_opensHere 87 = .ok (.land, 1) := by decide +kernel
theorem dX2_opensHere_88 : decode cX2_opensHere 88 = .ok (.lconst 0, 1) := by decide +kernel
theorem dX2_opensHere_89 : decode cX2_opensHere 89 = .ok (.lcmp, 1) := by decide +kernel
theorem dX2_opensHere_90 : decode cX2_opensHere 90 = .ok (.ifCond .eq 7, 3) := by decide +kernel
theorem dX2_opensHere_93 : decode cX2_opensHere 93 = .ok (.iconst 1, 1) := by decide +kernel
theorem dX2_opensHere_94 : decode cX2_opensHere 94 = .ok (.goto 4, 3) := by decide +kernel
theorem dX2_opensHere_97 : decode cX2_opensHere 97 = .ok (.iconst 0, 1) := by decide +kernel
theorem dX2_opensHere_98 : decode cX2_opensHere 98 = .ok (.ireturn, 1) := by decide +kernel
set_option maxRecDepth 20000 in
set_option maxHeartbeats 4000000 in
theorem vX2_opensHere_0 {l : Launch} {x : CX} {a0 : Nat} {x1 : Int32} {h : PH} {rc rs n0 : Nat} {Q : Option Value → PH → Prop} {X : String → PH → Prop}
    (K : ((hK h a0).1 = 2) ∧ (((lg_cmp ((lus (hL h a0 11) (4 * (hI h a0 3))) &&& 1) 0) = 0 → (((hI h a0 10) < (hI h a0 2) → ∀ (y7 : Int64), y7 = (if (hI h a0 4) = 0 then 15 else (if x1 = 0 then 15 else (if (hI h a0 4) ≤ 0 then 12 else 3 : Int64) : Int64) : Int64) → (((if (lg_cmp (((lus (hL h a0 12) (4 * (hI h a0 3))) &&& 15) &&& y7) 0) = 0 then 0 else 1 : Int32) : Int32) = 0 ∨ ((if (lg_cmp (((lus (hL h a0 12) (4 * (hI h a0 3))) &&& 15) &&& y7) 0) = 0 then 0 else 1 : Int32) : Int32) = 1) ∧ Q (some (.int (if (lg_cmp (((lus (hL h a0 12) (4 * (hI h a0 3))) &&& 15) &&& y7) 0) = 0 then 0 else 1 : Int32))) h) ∧ (¬ (hI h a0 10) < (hI h a0 2) → ((0 : Int32) = 0 ∨ (0 : Int32) = 1) ∧ Q (some (.int 0)) h))) ∧ (¬ (lg_cmp ((lus (hL h a0 11) (4 * (hI h a0 3))) &&& 1) 0) = 0 → ((1 : Int32) = 0 ∨ (1 : Int32) = 1) ∧ Q (some (.int 1)) h))) :
    Gm l x mX2_opensHere 0 0 [(0, .ref a0), (1, .int x1)] [] h rc rs n0 Q X := by
  refine g_aload_n dX2_opensHere_0 rfl 0 rfl ?_
  obtain ⟨e1, K⟩ := K
  refine g_get (c := 2) (k := 11) (v := .long (hL h a0 11)) dX2_opensHere_1 fc_2 (by decide) (by decide) bw_85 rfl e1 ?_
  refine g_iconst (v := 4) dX2_opensHere_4 (by decide) ?_
  refine g_aload_n dX2_opensHere_5 rfl 0 rfl ?_
  refine g_get (c := 2) (k := 3) (v := .int (hI h a0 3)) dX2_opensHere_6 fc_2 (by decide) (by decide) bw_62 rfl e1 ?_
  refine g_imul dX2_opensHere_9 ?_
  refine g_lushr dX2_opensHere_10 ?_
  refine g_lconst (v := 1) dX2_opensHere_11 (by decide) ?_
  refine g_land dX2_opensHere_12 ?_
  refine g_lconst (v := 0) dX2_opensHere_13 (by decide) ?_
  refine g_lcmp dX2_opensHere_14 ?_
  refine g_if_eq (tgt := 20) dX2_opensHere_15 (by decide) (fun c2 => ?_) (fun c2 => ?_)
  · replace K := K.1 c2
    refine g_aload_n dX2_opensHere_20 rfl 0 rfl ?_
    refine g_get (c := 2) (k := 10) (v := .int (hI h a0 10)) dX2_opensHere_21 fc_2 (by decide) (by decide) bw_84 rfl e1 ?_
    refine g_aload_n dX2_opensHere_24 rfl 0 rfl ?_
    refine g_get (c := 2) (k := 2) (v := .int (hI h a0 2)) dX2_opensHere_25 fc_2 (by decide) (by decide) bw_59 rfl e1 ?_
    refine g_icmp_lt (tgt := 33) dX2_opensHere_28 (by decide) (fun c3 => ?_) (fun c3 => ?_)
    · replace K := K.1 c3
      refine g_aload_n dX2_opensHere_33 rfl 0 rfl ?_
      refine g_get (c := 2) (k := 12) (v := .long (hL h a0 12)) dX2_opensHere_34 fc_2 (by decide) (by decide) bw_86 rfl e1 ?_
      refine g_iconst (v := 4) dX2_opensHere_37 (by decide) ?_
      refine g_aload_n dX2_opensHere_38 rfl 0 rfl ?_
      refine g_get (c := 2) (k := 3) (v := .int (hI h a0 3)) dX2_opensHere_39 fc_2 (by decide) (by decide) bw_62 rfl e1 ?_
      refine g_imul dX2_opensHere_42 ?_
      refine g_lushr dX2_opensHere_43 ?_
      refine g_ldc2 (v := 15) dX2_opensHere_44 bw_568 ?_
      refine g_land dX2_opensHere_47 ?_
      refine g_lstore_n (lv' := [(0, .ref a0), (1, .int x1), (2, .long ((lus (hL h a0 12) (4 * (hI h a0 3))) &&& 15))]) dX2_opensHere_48 rfl (by decide) rfl ?_
      refine g_aload_n dX2_opensHere_49 rfl 0 rfl ?_
      refine g_get (c := 2) (k := 4) (v := .int (hI h a0 4)) dX2_opensHere_50 fc_2 (by decide) (by decide) bw_66 rfl e1 ?_
      have KJ : Gm l x mX2_opensHere 0 82 [(0, .ref a0), (1, .int x1), (2, .long ((lus (hL h a0 12) (4 * (hI h a0 3))) &&& 15))] [.long (if (hI h a0 4) = 0 then 15 else (if x1 = 0 then 15 else (if (hI h a0 4) ≤ 0 then 12 else 3 : Int64) : Int64) : Int64)] h rc rs n0 Q X := by
        refine g_nmJ (fun y7 e8 => ?_)
        replace K := K y7 e8
        refine g_lstore (lv' := [(0, .ref a0), (1, .int x1), (2, .long ((lus (hL h a0 12) (4 * (hI h a0 3))) &&& 15)), (4, .long y7)]) dX2_opensHere_82 (by decide) rfl ?_
        refine g_lload_n dX2_opensHere_84 rfl 2 rfl ?_
        refine g_lload dX2_opensHere_85 3 rfl ?_
        refine g_land dX2_opensHere_87 ?_
        refine g_lconst (v := 0) dX2_opensHere_88 (by decide) ?_
        refine g_lcmp dX2_opensHere_89 ?_
        have KJ : Gm l x mX2_opensHere 0 98 [(0, .ref a0), (1, .int x1), (2, .long ((lus (hL h a0 12) (4 * (hI h a0 3))) &&& 15)), (4, .long y7)] [.int (if (lg_cmp (((lus (hL h a0 12) (4 * (hI h a0 3))) &&& 15) &&& y7) 0) = 0 then 0 else 1 : Int32)] h rc rs n0 Q X := by
          exact g_zret dX2_opensHere_98 rfl K.1 K.2
        refine g_if_eq (tgt := 97) dX2_opensHere_90 (by decide) (fun c9 => ?_) (fun c9 => ?_)
        · refine g_iconst (v := 0) dX2_opensHere_97 (by decide) ?_
          first | (simp only [if_pos c9] at KJ; exact KJ) | (simp only [if_pos c9, ite_true, ite_false, eq_self] at KJ; exact KJ) | (simp only [if_pos c9] at KJ ⊢; exact KJ) | exact KJ
        · refine g_iconst (v := 1) dX2_opensHere_93 (by decide) ?_
          refine g_goto (tgt := 98) dX2_opensHere_94 (by decide) ?_
          first | (simp only [if_neg c9] at KJ; exact KJ) | (simp only [if_neg c9, ite_true, ite_false, eq_self] at KJ; exact KJ) | (simp only [if_neg c9] at KJ ⊢; exact KJ) | exact KJ
      refine g_if_eq (tgt := 60) dX2_opensHere_53 (by decide) (fun c4 => ?_) (fun c4 => ?_)
      · refine g_ldc2 (v := 15) dX2_opensHere_60 bw_568 ?_
        refine g_goto (tgt := 82) dX2_opensHere_63 (by decide) ?_
        first | (simp only [if_pos c4] at KJ; exact KJ) | (simp only [if_pos c4, ite_true, ite_false, eq_self] at KJ; exact KJ) | (simp only [if_pos c4] at KJ ⊢; exact KJ) | exact KJ
      · refine g_iload_n dX2_opensHere_56 rfl 1 rfl ?_
        refine g_if_ne (tgt := 66) dX2_opensHere_57 (by decide) (fun c5 => ?_) (fun c5 => ?_)
        · refine g_aload_n dX2_opensHere_66 rfl 0 rfl ?_
          refine g_get (c := 2) (k := 4) (v := .int (hI h a0 4)) dX2_opensHere_67 fc_2 (by decide) (by decide) bw_66 rfl e1 ?_
          refine g_if_le (tgt := 79) dX2_opensHere_70 (by decide) (fun c6 => ?_) (fun c6 => ?_)
          · refine g_ldc2 (v := 12) dX2_opensHere_79 bw_509 ?_
            first | (simp only [if_neg c4, if_neg c5, if_pos c6] at KJ; exact KJ) | (simp only [if_neg c4, if_neg c5, if_pos c6, ite_true, ite_false, eq_self] at KJ; exact KJ) | (simp only [if_neg c4, if_neg c5, if_pos c6] at KJ ⊢; exact KJ) | exact KJ
          · refine g_ldc2 (v := 3) dX2_opensHere_73 bw_508 ?_
            refine g_goto (tgt := 82) dX2_opensHere_76 (by decide) ?_
            first | (simp only [if_neg c4, if_neg c5, if_neg c6] at KJ; exact KJ) | (simp only [if_neg c4, if_neg c5, if_neg c6, ite_true, ite_false, eq_self] at KJ; exact KJ) | (simp only [if_neg c4, if_neg c5, if_neg c6] at KJ ⊢; exact KJ) | exact KJ
        · refine g_ldc2 (v := 15) dX2_opensHere_60 bw_568 ?_
          refine g_goto (tgt := 82) dX2_opensHere_63 (by decide) ?_
          first | (simp only [if_neg c4, if_pos c5] at KJ; exact KJ) | (simp only [if_neg c4, if_pos c5, ite_true, ite_false, eq_self] at KJ; exact KJ) | (simp only [if_neg c4, if_pos c5] at KJ ⊢; exact KJ) | exact KJ
    · replace K := K.2 c3
      refine g_iconst (v := 0) dX2_opensHere_31 (by decide) ?_
      exact g_zret dX2_opensHere_32 rfl K.1 K.2
  · replace K := K.2 c2
    refine g_iconst (v := 1) dX2_opensHere_18 (by decide) ?_
    exact g_zret dX2_opensHere_19 rfl K.1 K.2
theorem dX2_letOut_0 : decode cX2_letOut 0 = .ok (.iconst 0, 1) := by decide +kernel
theorem dX2_letOut_1 : decode cX2_letOut 1 = .ok (.istore_n 2, 1) := by decide +kernel
theorem dX2_letOut_2 : decode cX2_letOut 2 = .ok (.iload_n 2, 1) := by decide +kernel
theorem dX2_letOut_3 : decode cX2_letOut 3 = .ok (.aload_n 1, 1) := by decide +kernel
theorem dX2_letOut_4 : decode cX2_letOut 4 = .ok (.getfield 102, 3) := by decide +kernel
theorem dX2_letOut_7 : decode cX2_letOut 7 = .ok (.if_icmp .ge 72, 3) := by decide +kernel
theorem dX2_letOut_10 : decode cX2_letOut 10 = .ok (.aload_n 0, 1) := by decide +kernel
theorem dX2_letOut_11 : decode cX2_letOut 11 = .ok (.getfield 41, 3) := by decide +kernel
theorem dX2_letOut_14 : decode cX2_letOut 14 = .ok (.iload_n 2, 1) := by decide +kernel
theorem dX2_letOut_15 : decode cX2_letOut 15 = .ok (.iushr, 1) := by decide +kernel
theorem dX2_letOut_16 : decode cX2_letOut 16 = .ok (.iconst 1, 1) := by decide +kernel
theorem dX2_letOut_17 : decode cX2_letOut 17 = .ok (.iand, 1) := by decide +kernel
theorem dX2_letOut_18 : decode cX2_letOut 18 = .ok (.ifCond .eq 55, 3) := by decide +kernel
theorem dX2_letOut_21 : decode cX2_letOut 21 = .ok (.aload_n 1, 1) := by decide +kernel
theorem dX2_letOut_22 : decode cX2_letOut 22 = .ok (.getfield 105, 3) := by decide +kernel
theorem dX2_letOut_25 : decode cX2_letOut 25 = .ok (.iload_n 2, 1) := by decide +kernel
theorem dX2_letOut_26 : decode cX2_letOut 26 = .ok (.aaload, 1) := by decide +kernel
theorem dX2_letOut_27 : decode cX2_letOut 27 = .ok (.getfield 109, 3) := by decide +kernel
theorem dX2_letOut_30 : decode cX2_letOut 30 = .ok (.aload_n 0, 1) := by decide +kernel
theorem dX2_letOut_31 : decode cX2_letOut 31 = .ok (.getfield 21, 3) := by decide +kernel
theorem dX2_letOut_34 : decode cX2_letOut 34 = .ok (.if_icmp .ne 39, 3) := by decide +kernel
theorem dX2_letOut_37 : decode cX2_letOut 37 = .ok (.aload_n 0, 1) := by decide +kernel
theorem dX2_letOut_38 : decode cX2_letOut 38 = .ok (.dup, 1) := by decide +kernel
theorem dX2_letOut_39 : decode cX2_letOut 39 = .ok (.getfield 41, 3) := by decide +kernel
theorem dX2_letOut_42 : decode cX2_letOut 42 = .ok (.iconst 1, 1) := by decide +kernel
theorem dX2_letOut_43 : decode cX2_letOut 43 = .ok (.iload_n 2, 1) := by decide +kernel
theorem dX2_letOut_44 : decode cX2_letOut 44 = .ok (.ishl, 1) := by decide +kernel
theorem dX2_letOut_45 : decode cX2_letOut 45 = .ok (.iconst (-1), 1) := by decide +kernel
theorem dX2_letOut_46 : decode cX2_letOut 46 = .ok (.ixor, 1) := by decide +kernel
theorem dX2_letOut_47 : decode cX2_letOut 47 = .ok (.iand, 1) := by decide +kernel
theorem dX2_letOut_48 : decode cX2_letOut 48 = .ok (.putfield 41, 3) := by decide +kernel
theorem dX2_letOut_51 : decode cX2_letOut 51 = .ok (.aload_n 0, 1) := by decide +kernel
theorem dX2_letOut_52 : decode cX2_letOut 52 = .ok (.dup, 1) := by decide +kernel
theorem dX2_letOut_53 : decode cX2_letOut 53 = .ok (.getfield 54, 3) := by decide +kernel
theorem dX2_letOut_56 : decode cX2_letOut 56 = .ok (.iconst 1, 1) := by decide +kernel
theorem dX2_letOut_57 : decode cX2_letOut 57 = .ok (.iload_n 2, 1) := by decide +kernel
theorem dX2_letOut_58 : decode cX2_letOut 58 = .ok (.ishl, 1) := by decide +kernel
theorem dX2_letOut_59 : decode cX2_letOut 59 = .ok (.ior, 1) := by decide +kernel
theorem dX2_letOut_60 : decode cX2_letOut 60 = .ok (.putfield 54, 3) := by decide +kernel
theorem dX2_letOut_63 : decode cX2_letOut 63 = .ok (.aload_n 0, 1) := by decide +kernel
theorem dX2_letOut_64 : decode cX2_letOut 64 = .ok (.dup, 1) := by decide +kernel
theorem dX2_letOut_65 : decode cX2_letOut 65 = .ok (.getfield 44, 3) := by decide +kernel
theorem dX2_letOut_68 : decode cX2_letOut 68 = .ok (.iconst 1, 1) := by decide +kernel
theorem dX2_letOut_69 : decode cX2_letOut 69 = .ok (.isub, 1) := by decide +kernel
theorem dX2_letOut_70 : decode cX2_letOut 70 = .ok (.putfield 44, 3) := by decide +kernel
theorem dX2_letOut_73 : decode cX2_letOut 73 = .ok (.iinc 2 1, 3) := by decide +kernel
theorem dX2_letOut_76 : decode cX2_letOut 76 = .ok (.goto (-74), 3) := by decide +kernel
theorem dX2_letOut_79 : decode cX2_letOut 79 = .ok (.aload_n 0, 1) := by decide +kernel
theorem dX2_letOut_80 : decode cX2_letOut 80 = .ok (.dup, 1) := by decide +kernel
theorem dX2_letOut_81 : decode cX2_letOut 81 = .ok (.getfield 47, 3) := by decide +kernel
theorem dX2_letOut_84 : decode cX2_letOut 84 = .ok (.lconst 1, 1) := by decide +kernel
theorem dX2_letOut_85 : decode cX2_letOut 85 = .ok (.iconst 4, 1) := by decide +kernel
theorem dX2_letOut_86 : decode cX2_letOut 86 = .ok (.aload_n 0, 1) := by decide +kernel
theorem dX2_letOut_87 : decode cX2_letOut 87 = .ok (.getfield 21, 3) := by decide +kernel
theorem dX2_letOut_90 : decode cX2_letOut 90 = .ok (.imul, 1) := by decide +kernel
theorem dX2_letOut_91 : decode cX2_letOut 91 = .ok (.lshl, 1) := by decide +kernel
theorem dX2_letOut_92 : decode cX2_letOut 92 = .ok (.ldc2_w 114, 3) := by decide +kernel
theorem dX2_letOut_95 : decode cX2_letOut 95 = .ok (.lxor, 1) := by decide +kernel
theorem dX2_letOut_96 : decode cX2_letOut 96 = .ok (.land, 1) := by decide +kernel
theorem dX2_letOut_97 : decode cX2_letOut 97 = .ok (.putfield 47, 3) := by decide +kernel
theorem dX2_letOut_100 : decode cX2_letOut 100 = .ok (.return_, 1) := by decide +kernel
set_option maxRecDepth 20000 in
set_option maxHeartbeats 4000000 in
theorem vX2_letOut_0 {l : Launch} {x : CX} {a0 : Nat} {a1 : Nat} {h : PH} {rc rs n0 : Nat} {Q : Option Value → PH → Prop} {X : String → PH → Prop}
    (K : Gm l x mX2_letOut 0 2 [(0, .ref a0), (1, .ref a1), (2, .int 0)] [] h rc rs n0 Q X) :
    Gm l x mX2_letOut 0 0 [(0, .ref a0), (1, .ref a1)] [] h rc rs n0 Q X := by
  refine g_iconst (v := 0) dX2_letOut_0 (by decide) ?_
  refine g_istore_n (lv' := [(0, .ref a0), (1, .ref a1), (2, .int 0)]) dX2_letOut_1 rfl (by decide) rfl ?_
  exact K
set_option maxRecDepth 20000 in
set_option maxHeartbeats 4000000 in
theorem vX2_letOut_2 {l : Launch} {x : CX} {a0 : Nat} {a1 : Nat} {x2 : Int32} {h : PH} {rc rs n0 : Nat} {Q : Option Value → PH → Prop} {X : String → PH → Prop}
    (K : ((hK h a1).1 = 1) ∧ (((hI h a1 2) ≤ x2 → ((hK h a0).1 = 2) ∧ Q none (sL h a0 11 ((hL h a0 11) &&& ((lsh 1 (4 * (hI h a0 3))) ^^^ (-1))))) ∧ (¬ (hI h a1 2) ≤ x2 → ((hK h a0).1 = 2) ∧ ((((ius (hI h a0 9) x2) &&& 1) = 0 → Gm l x mX2_letOut 0 2 [(0, .ref a0), (1, .ref a1), (2, .int (x2 + 1))] [] h rc rs n0 Q X) ∧ (¬ ((ius (hI h a0 9) x2) &&& 1) = 0 → ∃ b6, (hR h a1 14 = some b6) ∧ ((hK h b6).1 = 106) ∧ (vp_in x2 (hK h b6).2) ∧ ∃ b10, (hR h b6 x2.toNatClampNeg = some b10) ∧ ((hK h b10).1 = 6) ∧ ((¬ (hI h b10 3) = (hI h a0 3) → Gm l x mX2_letOut 0 2 [(0, .ref a0), (1, .ref a1), (2, .int (x2 + 1))] [] h rc rs n0 Q X) ∧ ((hI h b10 3) = (hI h a0 3) → Gm l x mX2_letOut 0 2 [(0, .ref a0), (1, .ref a1), (2, .int (x2 + 1))] [] (sI (sI (sI h a0 9 ((hI h a0 9) &&& ((1 <<< ((x2 : Int32) &&& 31)) ^^^ (-1)))) a0 13 ((hI h a0 13) ||| (1 <<< ((x2 : Int32) &&& 31)))) a0 10 ((hI h a0 10) - 1)) rc rs n0 Q X))))))) :
    Gm l x mX2_letOut 0 2 [(0, .ref a0), (1, .ref a1), (2, .int x2)] [] h rc rs n0 Q X := by
  refine g_iload_n dX2_letOut_2 rfl 2 rfl ?_
  refine g_aload_n dX2_letOut_3 rfl 1 rfl ?_
  obtain ⟨e1, K⟩ := K
  refine g_get (c := 1) (k := 2) (v := .int (hI h a1 2)) dX2_letOut_4 fc_1 (by decide) (by decide) bw_195 rfl e1 ?_
  refine g_icmp_ge (tgt := 79) dX2_letOut_7 (by decide) (fun c2 => ?_) (fun c2 => ?_)
  · replace K := K.1 c2
    refine g_aload_n dX2_letOut_79 rfl 0 rfl ?_
    refine g_dup dX2_letOut_80 rfl ?_
    obtain ⟨e3, K⟩ := K
    refine g_get (c := 2) (k := 11) (v := .long (hL h a0 11)) dX2_letOut_81 fc_2 (by decide) (by decide) bw_85 rfl e3 ?_
    refine g_lconst (v := 1) dX2_letOut_84 (by decide) ?_
    refine g_iconst (v := 4) dX2_letOut_85 (by decide) ?_
    refine g_aload_n dX2_letOut_86 rfl 0 rfl ?_
    refine g_get (c := 2) (k := 3) (v := .int (hI h a0 3)) dX2_letOut_87 fc_2 (by decide) (by decide) bw_62 rfl e3 ?_
    refine g_imul dX2_letOut_90 ?_
    refine g_lshl dX2_letOut_91 ?_
    refine g_ldc2 (v := (-1)) dX2_letOut_92 bw_578 ?_
    refine g_lxor dX2_letOut_95 ?_
    refine g_land dX2_letOut_96 ?_
    refine g_putl (c := 2) (k := 11) dX2_letOut_97 fc_2 (by decide) (by decide) bw_85 (Or.inl rfl) rfl e3 ?_
    exact g_vret dX2_letOut_100 rfl K
  · replace K := K.2 c2
    refine g_aload_n dX2_letOut_10 rfl 0 rfl ?_
    obtain ⟨e4, K⟩ := K
    refine g_get (c := 2) (k := 9) (v := .int (hI h a0 9)) dX2_letOut_11 fc_2 (by decide) (by decide) bw_81 rfl e4 ?_
    refine g_iload_n dX2_letOut_14 rfl 2 rfl ?_
    refine g_iushr dX2_letOut_15 ?_
    refine g_iconst (v := 1) dX2_letOut_16 (by decide) ?_
    refine g_iand dX2_letOut_17 ?_
    refine g_if_eq (tgt := 73) dX2_letOut_18 (by decide) (fun c5 => ?_) (fun c5 => ?_)
    · replace K := K.1 c5
      refine g_iinc (v := (x2 + 1)) (lv' := [(0, .ref a0), (1, .ref a1), (2, .int (x2 + 1))]) dX2_letOut_73 2 rfl (by rfl) (by decide) rfl ?_
      refine g_goto (tgt := 2) dX2_letOut_76 (by decide) ?_
      exact K
    · replace K := K.2 c5
      refine g_aload_n dX2_letOut_21 rfl 1 rfl ?_
      obtain ⟨b6, e7, K⟩ := K
      refine g_get (c := 1) (k := 14) (v := .ref b6) dX2_letOut_22 fc_1 (by decide) (by decide) bw_229 (congrArg pr e7) e1 ?_
      refine g_iload_n dX2_letOut_25 rfl 2 rfl ?_
      obtain ⟨e8, e9, b10, e11, K⟩ := K
      refine g_aald (t := 6) (v := .ref b10) dX2_letOut_26 (Or.inr (Or.inl rfl)) e8 e9 (congrArg pr e11) ?_
      obtain ⟨e12, K⟩ := K
      refine g_get (c := 6) (k := 3) (v := .int (hI h b10 3)) dX2_letOut_27 fc_6 (by decide) (by decide) bw_142 rfl e12 ?_
      refine g_aload_n dX2_letOut_30 rfl 0 rfl ?_
      refine g_get (c := 2) (k := 3) (v := .int (hI h a0 3)) dX2_letOut_31 fc_2 (by decide) (by decide) bw_62 rfl e4 ?_
      refine g_icmp_ne (tgt := 73) dX2_letOut_34 (by decide) (fun c13 => ?_) (fun c13 => ?_)
      · replace K := K.1 c13
        refine g_iinc (v := (x2 + 1)) (lv' := [(0, .ref a0), (1, .ref a1), (2, .int (x2 + 1))]) dX2_letOut_73 2 rfl (by rfl) (by decide) rfl ?_
        refine g_goto (tgt := 2) dX2_letOut_76 (by decide) ?_
        exact K
      · replace K := K.2 c13
        refine g_aload_n dX2_letOut_37 rfl 0 rfl ?_
        refine g_dup dX2_letOut_38 rfl ?_
        refine g_get (c := 2) (k := 9) (v := .int (hI h a0 9)) dX2_letOut_39 fc_2 (by decide) (by decide) bw_81 rfl e4 ?_
        refine g_iconst (v := 1) dX2_letOut_42 (by decide) ?_
        refine g_iload_n dX2_letOut_43 rfl 2 rfl ?_
        refine g_ishl dX2_letOut_44 ?_
        refine g_iconst (v := (-1)) dX2_letOut_45 (by decide) ?_
        refine g_ixor dX2_letOut_46 ?_
        refine g_iand dX2_letOut_47 ?_
        refine g_puti (c := 2) (k := 9) dX2_letOut_48 fc_2 (by decide) (by decide) bw_81 (Or.inl rfl) rfl e4 ?_
        refine g_aload_n dX2_letOut_51 rfl 0 rfl ?_
        refine g_dup dX2_letOut_52 rfl ?_
        refine g_get (c := 2) (k := 13) (v := .int (hI h a0 13)) dX2_letOut_53 fc_2 (by decide) (by decide) bw_88 (congrArg Value.int ((skI (by decide)).trans rfl)) (kkI e4) ?_
        refine g_iconst (v := 1) dX2_letOut_56 (by decide) ?_
        refine g_iload_n dX2_letOut_57 rfl 2 rfl ?_
        refine g_ishl dX2_letOut_58 ?_
        refine g_ior dX2_letOut_59 ?_
        refine g_puti (c := 2) (k := 13) dX2_letOut_60 fc_2 (by decide) (by decide) bw_88 (Or.inl rfl) rfl (kkI e4) ?_
        refine g_aload_n dX2_letOut_63 rfl 0 rfl ?_
        refine g_dup dX2_letOut_64 rfl ?_
        refine g_get (c := 2) (k := 10) (v := .int (hI h a0 10)) dX2_letOut_65 fc_2 (by decide) (by decide) bw_84 (congrArg Value.int ((skI (by decide)).trans ((skI (by decide)).trans rfl))) (kkI (kkI e4)) ?_
        refine g_iconst (v := 1) dX2_letOut_68 (by decide) ?_
        refine g_isub dX2_letOut_69 ?_
        refine g_puti (c := 2) (k := 10) dX2_letOut_70 fc_2 (by decide) (by decide) bw_84 (Or.inl rfl) rfl (kkI (kkI e4)) ?_
        refine g_iinc (v := (x2 + 1)) (lv' := [(0, .ref a0), (1, .ref a1), (2, .int (x2 + 1))]) dX2_letOut_73 2 rfl (by rfl) (by decide) rfl ?_
        refine g_goto (tgt := 2) dX2_letOut_76 (by decide) ?_
        exact K
theorem dX2_calledWay_0 : decode cX2_calledWay 0 = .ok (.aload_n 0, 1) := by decide +kernel
theorem dX2_calledWay_1 : decode cX2_calledWay 1 = .ok (.getfield 51, 3) := by decide +kernel
theorem dX2_calledWay_4 : decode cX2_calledWay 4 = .ok (.iconst 4, 1) := by decide +kernel
theorem dX2_calledWay_5 : decode cX2_calledWay 5 = .ok (.aload_n 0, 1) := by decide +kernel
theorem dX2_calledWay_6 : decode cX2_calledWay 6 = .ok (.getfield 21, 3) := by decide +kernel
theorem dX2_calledWay_9 : decode cX2_calledWay 9 = .ok (.imul, 1) := by decide +kernel
theorem dX2_calledWay_10 : decode cX2_calledWay 10 = .ok (.lushr, 1) := by decide +kernel
theorem dX2_calledWay_11 : decode cX2_calledWay 11 = .ok (.ldc2_w 98, 3) := by decide +kernel
theorem dX2_calledWay_14 : decode cX2_calledWay 14 = .ok (.land, 1) := by decide +kernel
theorem dX2_calledWay_15 : decode cX2_calledWay 15 = .ok (.lconst 0, 1) := by decide +kernel
theorem dX2_calledWay_16 : decode cX2_calledWay 16 = .ok (.lcmp, 1) := by decide +kernel
theorem dX2_calledWay_17 : decode cX2_calledWay 17 = .ok (.ifCond .eq 7, 3) := by decide +kernel
theorem dX2_calledWay_20 : decode cX2_calledWay 20 = .ok (.iconst 1, 1) := by decide +kernel
theorem dX2_calledWay_21 : decode cX2_calledWay 21 = .ok (.goto 4, 3) := by decide +kernel
theorem dX2_calledWay_24 : decode cX2_calledWay 24 = .ok (.iconst 0, 1) := by decide +kernel
theorem dX2_calledWay_25 : decode cX2_calledWay 25 = .ok (.istore_n 2, 1) := by decide +kernel
theorem dX2_calledWay_26 : decode cX2_calledWay 26 = .ok (.aload_n 0, 1) := by decide +kernel
theorem dX2_calledWay_27 : decode cX2_calledWay 27 = .ok (.getfield 51, 3) := by decide +kernel
theorem dX2_calledWay_30 : decode cX2_calledWay 30 = .ok (.iconst 4, 1) := by decide +kernel
theorem dX2_calledWay_31 : decode cX2_calledWay 31 = .ok (.aload_n 0, 1) := by decide +kernel
theorem dX2_calledWay_32 : decode cX2_calledWay 32 = .ok (.getfield 21, 3) := by decide +kernel
theorem dX2_calledWay_35 : decode cX2_calledWay 35 = .ok (.imul, 1) := by decide +kernel
theorem dX2_calledWay_36 : decode cX2_calledWay 36 = .ok (.lushr, 1) := by decide +kernel
theorem dX2_calledWay_37 : decode cX2_calledWay 37 = .ok (.ldc2_w 100, 3) := by decide +kernel
theorem dX2_calledWay_40 : decode cX2_calledWay 40 = .ok (.land, 1) := by decide +kernel
theorem dX2_calledWay_41 : decode cX2_calledWay 41 = .ok (.lconst 0, 1) := by decide +kernel
theorem dX2_calledWay_42 : decode cX2_calledWay 42 = .ok (.lcmp, 1) := by decide +kernel
theorem dX2_calledWay_43 : decode cX2_calledWay 43 = .ok (.ifCond .eq 7, 3) := by decide +kernel
theorem dX2_calledWay_46 : decode cX2_calledWay 46 = .ok (.iconst 1, 1) := by decide +kernel
theorem dX2_calledWay_47 : decode cX2_calledWay 47 = .ok (.goto 4, 3) := by decide +kernel
theorem dX2_calledWay_50 : decode cX2_calledWay 50 = .ok (.iconst 0, 1) := by decide +kernel
theorem dX2_calledWay_51 : decode cX2_calledWay 51 = .ok (.istore_n 3, 1) := by decide +kernel
theorem dX2_calledWay_52 : decode cX2_calledWay 52 = .ok (.iload_n 1, 1) := by decide +kernel
theorem dX2_calledWay_53 : decode cX2_calledWay 53 = .ok (.ifCond .ne 25, 3) := by decide +kernel
theorem dX2_calledWay_56 : decode cX2_calledWay 56 = .ok (.aload_n 0, 1) := by decide +kernel
theorem dX2_calledWay_57 : decode cX2_calledWay 57 = .ok (.getfield 24, 3) := by decide +kernel
theorem dX2_calledWay_60 : decode cX2_calledWay 60 = .ok (.ifCond .le 7, 3) := by decide +kernel
theorem dX2_calledWay_63 : decode cX2_calledWay 63 = .ok (.iload_n 2, 1) := by decide +kernel
theorem dX2_calledWay_64 : decode cX2_calledWay 64 = .ok (.ifCond .ne 14, 3) := by decide +kernel
theorem dX2_calledWay_67 : decode cX2_calledWay 67 = .ok (.aload_n 0, 1) := by decide +kernel
theorem dX2_calledWay_68 : decode cX2_calledWay 68 = .ok (.getfield 24, 3) := by decide +kernel
theorem dX2_calledWay_71 : decode cX2_calledWay 71 = .ok (.ifCond .ge 12, 3) := by decide +kernel
theorem dX2_calledWay_74 : decode cX2_calledWay 74 = .ok (.iload_n 3, 1) := by decide +kernel
theorem dX2_calledWay_75 : decode cX2_calledWay 75 = .ok (.ifCond .eq 8, 3) := by decide +kernel
theorem dX2_calledWay_78 : decode cX2_calledWay 78 = .ok (.aload_n 0, 1) := by decide +kernel
theorem dX2_calledWay_79 : decode cX2_calledWay 79 = .ok (.getfield 24, 3) := by decide +kernel
theorem dX2_calledWay_82 : decode cX2_calledWay 82 = .ok (.ireturn, 1) := by decide +kernel
theorem dX2_calledWay_83 : decode cX2_calledWay 83 = .ok (.iload_n 2, 1) := by decide +kernel
theorem dX2_calledWay_84 : decode cX2_calledWay 84 = .ok (.ifCond .eq 7, 3) := by decide +kernel
theorem dX2_calledWay_87 : decode cX2_calledWay 87 = .ok (.iconst 1, 1) := by decide +kernel
theorem dX2_calledWay_88 : decode cX2_calledWay 88 = .ok (.goto 12, 3) := by decide +kernel
theorem dX2_calledWay_91 : decode cX2_calledWay 91 = .ok (.iload_n 3, 1) := by decide +kernel
theorem dX2_calledWay_92 : decode cX2_calledWay 92 = .ok (.ifCond .eq 7, 3) := by decide +kernel
theorem dX2_calledWay_95 : decode cX2_calledWay 95 = .ok (.iconst (-1), 1) := by decide +kernel
theorem dX2_calledWay_96 : decode cX2_calledWay 96 = .ok (.goto 4, 3) := by decide +kernel
theorem dX2_calledWay_99 : decode cX2_calledWay 99 = .ok (.iconst 0, 1) := by decide +kernel
theorem dX2_calledWay_100 : decode cX2_calledWay 100 = .ok (.ireturn, 1) := by decide +kernel
set_option maxRecDepth 20000 in
set_option maxHeartbeats 4000000 in
theorem vX2_calledWay_0 {l : Launch} {x : CX} {a0 : Nat} {x1 : Int32} {h : PH} {rc rs n0 : Nat} {Q : Option Value → PH → Prop} {X : String → PH → Prop}
    (K : ((hK h a0).1 = 2) ∧ ∀ (y3 : Int32), y3 = (if (lg_cmp ((lus (hL h a0 12) (4 * (hI h a0 3))) &&& 3) 0) = 0 then 0 else 1 : Int32) → ∀ (y6 : Int32), y6 = (if (lg_cmp ((lus (hL h a0 12) (4 * (hI h a0 3))) &&& 12) 0) = 0 then 0 else 1 : Int32) → ((¬ x1 = 0 → Q (some (.int (hI h a0 4))) h) ∧ (x1 = 0 → (((hI h a0 4) ≤ 0 → ((0 ≤ (hI h a0 4) → Q (some (.int (if y3 = 0 then (if y6 = 0 then 0 else (-1) : Int32) else 1 : Int32))) h) ∧ (¬ 0 ≤ (hI h a0 4) → ((y6 = 0 → Q (some (.int (if y3 = 0 then (if y6 = 0 then 0 else (-1) : Int32) else 1 : Int32))) h) ∧ (¬ y6 = 0 → Q (some (.int (hI h a0 4))) h))))) ∧ (¬ (hI h a0 4) ≤ 0 → ((¬ y3 = 0 → Q (some (.int (hI h a0 4))) h) ∧ (y3 = 0 → ((0 ≤ (hI h a0 4) → Q (some (.int (if y3 = 0 then (if y6 = 0 then 0 else (-1) : Int32) else 1 : Int32))) h) ∧ (¬ 0 ≤ (hI h a0 4) → ((y6 = 0 → Q (some (.int (if y3 = 0 then (if y6 = 0 then 0 else (-1) : Int32) else 1 : Int32))) h) ∧ (¬ y6 = 0 → Q (some (.int (hI h a0 4))) h))))))))))) :
    Gm l x mX2_calledWay 0 0 [(0, .ref a0), (1, .int x1)] [] h rc rs n0 Q X := by
  refine g_aload_n dX2_calledWay_0 rfl 0 rfl ?_
  obtain ⟨e1, K⟩ := K
  refine g_get (c := 2) (k := 12) (v := .long (hL h a0 12)) dX2_calledWay_1 fc_2 (by decide) (by decide) bw_86 rfl e1 ?_
  refine g_iconst (v := 4) dX2_calledWay_4 (by decide) ?_
  refine g_aload_n dX2_calledWay_5 rfl 0 rfl ?_
  refine g_get (c := 2) (k := 3) (v := .int (hI h a0 3)) dX2_calledWay_6 fc_2 (by decide) (by decide) bw_62 rfl e1 ?_
  refine g_imul dX2_calledWay_9 ?_
  refine g_lushr dX2_calledWay_10 ?_
  refine g_ldc2 (v := 3) dX2_calledWay_11 bw_508 ?_
  refine g_land dX2_calledWay_14 ?_
  refine g_lconst (v := 0) dX2_calledWay_15 (by decide) ?_
  refine g_lcmp dX2_calledWay_16 ?_
  have KJ : Gm l x mX2_calledWay 0 25 [(0, .ref a0), (1, .int x1)] [.int (if (lg_cmp ((lus (hL h a0 12) (4 * (hI h a0 3))) &&& 3) 0) = 0 then 0 else 1 : Int32)] h rc rs n0 Q X := by
    refine g_nmI (fun y3 e4 => ?_)
    replace K := K y3 e4
    refine g_istore_n (lv' := [(0, .ref a0), (1, .int x1), (2, .int y3)]) dX2_calledWay_25 rfl (by decide) rfl ?_
    refine g_aload_n dX2_calledWay_26 rfl 0 rfl ?_
    refine g_get (c := 2) (k := 12) (v := .long (hL h a0 12)) dX2_calledWay_27 fc_2 (by decide) (by decide) bw_86 rfl e1 ?_
    refine g_iconst (v := 4) dX2_calledWay_30 (by decide) ?_
    refine g_aload_n dX2_calledWay_31 rfl 0 rfl ?_
    refine g_get (c := 2) (k := 3) (v := .int (hI h a0 3)) dX2_calledWay_32 fc_2 (by decide) (by decide) bw_62 rfl e1 ?_
    refine g_imul dX2_calledWay_35 ?_
    refine g_lushr dX2_calledWay_36 ?_
    refine g_ldc2 (v := 12) dX2_calledWay_37 bw_509 ?_
    refine g_land dX2_calledWay_40 ?_
    refine g_lconst (v := 0) dX2_calledWay_41 (by decide) ?_
    refine g_lcmp dX2_calledWay_42 ?_
    have KJ : Gm l x mX2_calledWay 0 51 [(0, .ref a0), (1, .int x1), (2, .int y3)] [.int (if (lg_cmp ((lus (hL h a0 12) (4 * (hI h a0 3))) &&& 12) 0) = 0 then 0 else 1 : Int32)] h rc rs n0 Q X := by
      refine g_nmI (fun y6 e7 => ?_)
      replace K := K y6 e7
      refine g_istore_n (lv' := [(0, .ref a0), (1, .int x1), (2, .int y3), (3, .int y6)]) dX2_calledWay_51 rfl (by decide) rfl ?_
      refine g_iload_n dX2_calledWay_52 rfl 1 rfl ?_
      refine g_if_ne (tgt := 78) dX2_calledWay_53 (by decide) (fun c8 => ?_) (fun c8 => ?_)
      · replace K := K.1 c8
        refine g_aload_n dX2_calledWay_78 rfl 0 rfl ?_
        refine g_get (c := 2) (k := 4) (v := .int (hI h a0 4)) dX2_calledWay_79 fc_2 (by decide) (by decide) bw_66 rfl e1 ?_
        exact g_iret dX2_calledWay_82 rfl K
      · replace K := K.2 c8
        refine g_aload_n dX2_calledWay_56 rfl 0 rfl ?_
        refine g_get (c := 2) (k := 4) (v := .int (hI h a0 4)) dX2_calledWay_57 fc_2 (by decide) (by decide) bw_66 rfl e1 ?_
        refine g_if_le (tgt := 67) dX2_calledWay_60 (by decide) (fun c9 => ?_) (fun c9 => ?_)
        · replace K := K.1 c9
          refine g_aload_n dX2_calledWay_67 rfl 0 rfl ?_
          refine g_get (c := 2) (k := 4) (v := .int (hI h a0 4)) dX2_calledWay_68 fc_2 (by decide) (by decide) bw_66 rfl e1 ?_
          refine g_if_ge (tgt := 83) dX2_calledWay_71 (by decide) (fun c10 => ?_) (fun c10 => ?_)
          · replace K := K.1 c10
            refine g_iload_n dX2_calledWay_83 rfl 2 rfl ?_
            have KJ : Gm l x mX2_calledWay 0 100 [(0, .ref a0), (1, .int x1), (2, .int y3), (3, .int y6)] [.int (if y3 = 0 then (if y6 = 0 then 0 else (-1) : Int32) else 1 : Int32)] h rc rs n0 Q X := by
              exact g_iret dX2_calledWay_100 rfl K
            refine g_if_eq (tgt := 91) dX2_calledWay_84 (by decide) (fun c11 => ?_) (fun c11 => ?_)
            · refine g_iload_n dX2_calledWay_91 rfl 3 rfl ?_
              refine g_if_eq (tgt := 99) dX2_calledWay_92 (by decide) (fun c12 => ?_) (fun c12 => ?_)
              · refine g_iconst (v := 0) dX2_calledWay_99 (by decide) ?_
                first | (simp only [if_pos c11, if_pos c12] at KJ; exact KJ) | (simp only [if_pos c11, if_pos c12, ite_true, ite_false, eq_self] at KJ; exact KJ) | (simp only [if_pos c11, if_pos c12] at KJ ⊢; exact KJ) | exact KJ
              · refine g_iconst (v := (-1)) dX2_calledWay_95 (by decide) ?_
                refine g_goto (tgt := 100) dX2_calledWay_96 (by decide) ?_
                first | (simp only [if_pos c11, if_neg c12] at KJ; exact KJ) | (simp only [if_pos c11, if_neg c12, ite_true, ite_false, eq_self] at KJ; exact KJ) | (simp only [if_pos c11, if_neg c12] at KJ ⊢; exact KJ) | exact KJ
            · refine g_iconst (v := 1) dX2_calledWay_87 (by decide) ?_
              refine g_goto (tgt := 100) dX2_calledWay_88 (by decide) ?_
              first | (simp only [if_neg c11] at KJ; exact KJ) | (simp only [if_neg c11, ite_true, ite_false, eq_self] at KJ; exact KJ) | (simp only [if_neg c11] at KJ ⊢; exact KJ) | exact KJ
          · replace K := K.2 c10
            refine g_iload_n dX2_calledWay_74 rfl 3 rfl ?_
            refine g_if_eq (tgt := 83) dX2_calledWay_75 (by decide) (fun c13 => ?_) (fun c13 => ?_)
            · replace K := K.1 c13
              refine g_iload_n dX2_calledWay_83 rfl 2 rfl ?_
              have KJ : Gm l x mX2_calledWay 0 100 [(0, .ref a0), (1, .int x1), (2, .int y3), (3, .int y6)] [.int (if y3 = 0 then (if y6 = 0 then 0 else (-1) : Int32) else 1 : Int32)] h rc rs n0 Q X := by
                exact g_iret dX2_calledWay_100 rfl K
              refine g_if_eq (tgt := 91) dX2_calledWay_84 (by decide) (fun c14 => ?_) (fun c14 => ?_)
              · refine g_iload_n dX2_calledWay_91 rfl 3 rfl ?_
                refine g_if_eq (tgt := 99) dX2_calledWay_92 (by decide) (fun c15 => ?_) (fun c15 => ?_)
                · refine g_iconst (v := 0) dX2_calledWay_99 (by decide) ?_
                  first | (simp only [if_pos c14, if_pos c15] at KJ; exact KJ) | (simp only [if_pos c14, if_pos c15, ite_true, ite_false, eq_self] at KJ; exact KJ) | (simp only [if_pos c14, if_pos c15] at KJ ⊢; exact KJ) | exact KJ
                · refine g_iconst (v := (-1)) dX2_calledWay_95 (by decide) ?_
                  refine g_goto (tgt := 100) dX2_calledWay_96 (by decide) ?_
                  first | (simp only [if_pos c14, if_neg c15] at KJ; exact KJ) | (simp only [if_pos c14, if_neg c15, ite_true, ite_false, eq_self] at KJ; exact KJ) | (simp only [if_pos c14, if_neg c15] at KJ ⊢; exact KJ) | exact KJ
              · refine g_iconst (v := 1) dX2_calledWay_87 (by decide) ?_
                refine g_goto (tgt := 100) dX2_calledWay_88 (by decide) ?_
                first | (simp only [if_neg c14] at KJ; exact KJ) | (simp only [if_neg c14, ite_true, ite_false, eq_self] at KJ; exact KJ) | (simp only [if_neg c14] at KJ ⊢; exact KJ) | exact KJ
            · replace K := K.2 c13
              refine g_aload_n dX2_calledWay_78 rfl 0 rfl ?_
              refine g_get (c := 2) (k := 4) (v := .int (hI h a0 4)) dX2_calledWay_79 fc_2 (by decide) (by decide) bw_66 rfl e1 ?_
              exact g_iret dX2_calledWay_82 rfl K
        · replace K := K.2 c9
          refine g_iload_n dX2_calledWay_63 rfl 2 rfl ?_
          refine g_if_ne (tgt := 78) dX2_calledWay_64 (by decide) (fun c16 => ?_) (fun c16 => ?_)
          · replace K := K.1 c16
            refine g_aload_n dX2_calledWay_78 rfl 0 rfl ?_
            refine g_get (c := 2) (k := 4) (v := .int (hI h a0 4)) dX2_calledWay_79 fc_2 (by decide) (by decide) bw_66 rfl e1 ?_
            exact g_iret dX2_calledWay_82 rfl K
          · replace K := K.2 c16
            refine g_aload_n dX2_calledWay_67 rfl 0 rfl ?_
            refine g_get (c := 2) (k := 4) (v := .int (hI h a0 4)) dX2_calledWay_68 fc_2 (by decide) (by decide) bw_66 rfl e1 ?_
            refine g_if_ge (tgt := 83) dX2_calledWay_71 (by decide) (fun c17 => ?_) (fun c17 => ?_)
            · replace K := K.1 c17
              refine g_iload_n dX2_calledWay_83 rfl 2 rfl ?_
              have KJ : Gm l x mX2_calledWay 0 100 [(0, .ref a0), (1, .int x1), (2, .int y3), (3, .int y6)] [.int (if y3 = 0 then (if y6 = 0 then 0 else (-1) : Int32) else 1 : Int32)] h rc rs n0 Q X := by
                exact g_iret dX2_calledWay_100 rfl K
              refine g_if_eq (tgt := 91) dX2_calledWay_84 (by decide) (fun c18 => ?_) (fun c18 => ?_)
              · refine g_iload_n dX2_calledWay_91 rfl 3 rfl ?_
                refine g_if_eq (tgt := 99) dX2_calledWay_92 (by decide) (fun c19 => ?_) (fun c19 => ?_)
                · refine g_iconst (v := 0) dX2_calledWay_99 (by decide) ?_
                  first | (simp only [if_pos c18, if_pos c19] at KJ; exact KJ) | (simp only [if_pos c18, if_pos c19, ite_true, ite_false, eq_self] at KJ; exact KJ) | (simp only [if_pos c18, if_pos c19] at KJ ⊢; exact KJ) | exact KJ
                · refine g_iconst (v := (-1)) dX2_calledWay_95 (by decide) ?_
                  refine g_goto (tgt := 100) dX2_calledWay_96 (by decide) ?_
                  first | (simp only [if_pos c18, if_neg c19] at KJ; exact KJ) | (simp only [if_pos c18, if_neg c19, ite_true, ite_false, eq_self] at KJ; exact KJ) | (simp only [if_pos c18, if_neg c19] at KJ ⊢; exact KJ) | exact KJ
              · refine g_iconst (v := 1) dX2_calledWay_87 (by decide) ?_
                refine g_goto (tgt := 100) dX2_calledWay_88 (by decide) ?_
                first | (simp only [if_neg c18] at KJ; exact KJ) | (simp only [if_neg c18, ite_true, ite_false, eq_self] at KJ; exact KJ) | (simp only [if_neg c18] at KJ ⊢; exact KJ) | exact KJ
            · replace K := K.2 c17
              refine g_iload_n dX2_calledWay_74 rfl 3 rfl ?_
              refine g_if_eq (tgt := 83) dX2_calledWay_75 (by decide) (fun c20 => ?_) (fun c20 => ?_)
              · replace K := K.1 c20
                refine g_iload_n dX2_calledWay_83 rfl 2 rfl ?_
                have KJ : Gm l x mX2_calledWay 0 100 [(0, .ref a0), (1, .int x1), (2, .int y3), (3, .int y6)] [.int (if y3 = 0 then (if y6 = 0 then 0 else (-1) : Int32) else 1 : Int32)] h rc rs n0 Q X := by
                  exact g_iret dX2_calledWay_100 rfl K
                refine g_if_eq (tgt := 91) dX2_calledWay_84 (by decide) (fun c21 => ?_) (fun c21 => ?_)
                · refine g_iload_n dX2_calledWay_91 rfl 3 rfl ?_
                  refine g_if_eq (tgt := 99) dX2_calledWay_92 (by decide) (fun c22 => ?_) (fun c22 => ?_)
                  · refine g_iconst (v := 0) dX2_calledWay_99 (by decide) ?_
                    first | (simp only [if_pos c21, if_pos c22] at KJ; exact KJ) | (simp only [if_pos c21, if_pos c22, ite_true, ite_false, eq_self] at KJ; exact KJ) | (simp only [if_pos c21, if_pos c22] at KJ ⊢; exact KJ) | exact KJ
                  · refine g_iconst (v := (-1)) dX2_calledWay_95 (by decide) ?_
                    refine g_goto (tgt := 100) dX2_calledWay_96 (by decide) ?_
                    first | (simp only [if_pos c21, if_neg c22] at KJ; exact KJ) | (simp only [if_pos c21, if_neg c22, ite_true, ite_false, eq_self] at KJ; exact KJ) | (simp only [if_pos c21, if_neg c22] at KJ ⊢; exact KJ) | exact KJ
                · refine g_iconst (v := 1) dX2_calledWay_87 (by decide) ?_
                  refine g_goto (tgt := 100) dX2_calledWay_88 (by decide) ?_
                  first | (simp only [if_neg c21] at KJ; exact KJ) | (simp only [if_neg c21, ite_true, ite_false, eq_self] at KJ; exact KJ) | (simp only [if_neg c21] at KJ ⊢; exact KJ) | exact KJ
              · replace K := K.2 c20
                refine g_aload_n dX2_calledWay_78 rfl 0 rfl ?_
                refine g_get (c := 2) (k := 4) (v := .int (hI h a0 4)) dX2_calledWay_79 fc_2 (by decide) (by decide) bw_66 rfl e1 ?_
                exact g_iret dX2_calledWay_82 rfl K
    refine g_if_eq (tgt := 50) dX2_calledWay_43 (by decide) (fun c5 => ?_) (fun c5 => ?_)
    · refine g_iconst (v := 0) dX2_calledWay_50 (by decide) ?_
      first | (simp only [if_pos c5] at KJ; exact KJ) | (simp only [if_pos c5, ite_true, ite_false, eq_self] at KJ; exact KJ) | (simp only [if_pos c5] at KJ ⊢; exact KJ) | exact KJ
    · refine g_iconst (v := 1) dX2_calledWay_46 (by decide) ?_
      refine g_goto (tgt := 51) dX2_calledWay_47 (by decide) ?_
      first | (simp only [if_neg c5] at KJ; exact KJ) | (simp only [if_neg c5, ite_true, ite_false, eq_self] at KJ; exact KJ) | (simp only [if_neg c5] at KJ ⊢; exact KJ) | exact KJ
  refine g_if_eq (tgt := 24) dX2_calledWay_17 (by decide) (fun c2 => ?_) (fun c2 => ?_)
  · refine g_iconst (v := 0) dX2_calledWay_24 (by decide) ?_
    first | (simp only [if_pos c2] at KJ; exact KJ) | (simp only [if_pos c2, ite_true, ite_false, eq_self] at KJ; exact KJ) | (simp only [if_pos c2] at KJ ⊢; exact KJ) | exact KJ
  · refine g_iconst (v := 1) dX2_calledWay_20 (by decide) ?_
    refine g_goto (tgt := 25) dX2_calledWay_21 (by decide) ?_
    first | (simp only [if_neg c2] at KJ; exact KJ) | (simp only [if_neg c2, ite_true, ite_false, eq_self] at KJ; exact KJ) | (simp only [if_neg c2] at KJ ⊢; exact KJ) | exact KJ
theorem dX2_onward_0 : decode cX2_onward 0 = .ok (.aload_n 0, 1) := by decide +kernel
theorem dX2_onward_1 : decode cX2_onward 1 = .ok (.getfield 24, 3) := by decide +kernel
theorem dX2_onward_4 : decode cX2_onward 4 = .ok (.ifCond .ge 9, 3) := by decide +kernel
theorem dX2_onward_7 : decode cX2_onward 7 = .ok (.iload_n 2, 1) := by decide +kernel
theorem dX2_onward_8 : decode cX2_onward 8 = .ok (.ifCond .eq 5, 3) := by decide +kernel
theorem dX2_onward_11 : decode cX2_onward 11 = .ok (.iconst (-1), 1) := by decide +kernel
theorem dX2_onward_12 : decode cX2_onward 12 = .ok (.ireturn, 1) := by decide +kernel
theorem dX2_onward_13 : decode cX2_onward 13 = .ok (.iload_n 1, 1) := by decide +kernel
theorem dX2_onward_14 : decode cX2_onward 14 = .ok (.ifCond .eq 7, 3) := by decide +kernel
theorem dX2_onward_17 : decode cX2_onward 17 = .ok (.iconst 1, 1) := by decide +kernel
theorem dX2_onward_18 : decode cX2_onward 18 = .ok (.goto 12, 3) := by decide +kernel
theorem dX2_onward_21 : decode cX2_onward 21 = .ok (.iload_n 2, 1) := by decide +kernel
theorem dX2_onward_22 : decode cX2_onward 22 = .ok (.ifCond .eq 7, 3) := by decide +kernel
theorem dX2_onward_25 : decode cX2_onward 25 = .ok (.iconst (-1), 1) := by decide +kernel
theorem dX2_onward_26 : decode cX2_onward 26 = .ok (.goto 4, 3) := by decide +kernel
theorem dX2_onward_29 : decode cX2_onward 29 = .ok (.iconst 0, 1) := by decide +kernel
theorem dX2_onward_30 : decode cX2_onward 30 = .ok (.ireturn, 1) := by decide +kernel
set_option maxRecDepth 20000 in
set_option maxHeartbeats 4000000 in
theorem vX2_onward_0 {l : Launch} {x : CX} {a0 : Nat} {x1 : Int32} {x2 : Int32} {h : PH} {rc rs n0 : Nat} {Q : Option Value → PH → Prop} {X : String → PH → Prop}
    (K : ((hK h a0).1 = 2) ∧ ((0 ≤ (hI h a0 4) → Q (some (.int (if x1 = 0 then (if x2 = 0 then 0 else (-1) : Int32) else 1 : Int32))) h) ∧ (¬ 0 ≤ (hI h a0 4) → ((x2 = 0 → Q (some (.int (if x1 = 0 then (if x2 = 0 then 0 else (-1) : Int32) else 1 : Int32))) h) ∧ (¬ x2 = 0 → Q (some (.int (-1))) h))))) :
    Gm l x mX2_onward 0 0 [(0, .ref a0), (1, .int x1), (2, .int x2)] [] h rc rs n0 Q X := by
  refine g_aload_n dX2_onward_0 rfl 0 rfl ?_
  obtain ⟨e1, K⟩ := K
  refine g_get (c := 2) (k := 4) (v := .int (hI h a0 4)) dX2_onward_1 fc_2 (by decide) (by decide) bw_66 rfl e1 ?_
  refine g_if_ge (tgt := 13) dX2_onward_4 (by decide) (fun c2 => ?_) (fun c2 => ?_)
  · replace K := K.1 c2
    refine g_iload_n dX2_onward_13 rfl 1 rfl ?_
    have KJ : Gm l x mX2_onward 0 30 [(0, .ref a0), (1, .int x1), (2, .int x2)] [.int (if x1 = 0 then (if x2 = 0 then 0 else (-1) : Int32) else 1 : Int32)] h rc rs n0 Q X := by
      exact g_iret dX2_onward_30 rfl K
    refine g_if_eq (tgt := 21) dX2_onward_14 (by decide) (fun c3 => ?_) (fun c3 => ?_)
    · refine g_iload_n dX2_onward_21 rfl 2 rfl ?_
      refine g_if_eq (tgt := 29) dX2_onward_22 (by decide) (fun c4 => ?_) (fun c4 => ?_)
      · refine g_iconst (v := 0) dX2_onward_29 (by decide) ?_
        first | (simp only [if_pos c3, if_pos c4] at KJ; exact KJ) | (simp only [if_pos c3, if_pos c4, ite_true, ite_false, eq_self] at KJ; exact KJ) | (simp only [if_pos c3, if_pos c4] at KJ ⊢; exact KJ) | exact KJ
      · refine g_iconst (v := (-1)) dX2_onward_25 (by decide) ?_
        refine g_goto (tgt := 30) dX2_onward_26 (by decide) ?_
        first | (simp only [if_pos c3, if_neg c4] at KJ; exact KJ) | (simp only [if_pos c3, if_neg c4, ite_true, ite_false, eq_self] at KJ; exact KJ) | (simp only [if_pos c3, if_neg c4] at KJ ⊢; exact KJ) | exact KJ
    · refine g_iconst (v := 1) dX2_onward_17 (by decide) ?_
      refine g_goto (tgt := 30) dX2_onward_18 (by decide) ?_
      first | (simp only [if_neg c3] at KJ; exact KJ) | (simp only [if_neg c3, ite_true, ite_false, eq_self] at KJ; exact KJ) | (simp only [if_neg c3] at KJ ⊢; exact KJ) | exact KJ
  · replace K := K.2 c2
    refine g_iload_n dX2_onward_7 rfl 2 rfl ?_
    refine g_if_eq (tgt := 13) dX2_onward_8 (by decide) (fun c5 => ?_) (fun c5 => ?_)
    · replace K := K.1 c5
      refine g_iload_n dX2_onward_13 rfl 1 rfl ?_
      have KJ : Gm l x mX2_onward 0 30 [(0, .ref a0), (1, .int x1), (2, .int x2)] [.int (if x1 = 0 then (if x2 = 0 then 0 else (-1) : Int32) else 1 : Int32)] h rc rs n0 Q X := by
        exact g_iret dX2_onward_30 rfl K
      refine g_if_eq (tgt := 21) dX2_onward_14 (by decide) (fun c6 => ?_) (fun c6 => ?_)
      · refine g_iload_n dX2_onward_21 rfl 2 rfl ?_
        refine g_if_eq (tgt := 29) dX2_onward_22 (by decide) (fun c7 => ?_) (fun c7 => ?_)
        · refine g_iconst (v := 0) dX2_onward_29 (by decide) ?_
          first | (simp only [if_pos c6, if_pos c7] at KJ; exact KJ) | (simp only [if_pos c6, if_pos c7, ite_true, ite_false, eq_self] at KJ; exact KJ) | (simp only [if_pos c6, if_pos c7] at KJ ⊢; exact KJ) | exact KJ
        · refine g_iconst (v := (-1)) dX2_onward_25 (by decide) ?_
          refine g_goto (tgt := 30) dX2_onward_26 (by decide) ?_
          first | (simp only [if_pos c6, if_neg c7] at KJ; exact KJ) | (simp only [if_pos c6, if_neg c7, ite_true, ite_false, eq_self] at KJ; exact KJ) | (simp only [if_pos c6, if_neg c7] at KJ ⊢; exact KJ) | exact KJ
      · refine g_iconst (v := 1) dX2_onward_17 (by decide) ?_
        refine g_goto (tgt := 30) dX2_onward_18 (by decide) ?_
        first | (simp only [if_neg c6] at KJ; exact KJ) | (simp only [if_neg c6, ite_true, ite_false, eq_self] at KJ; exact KJ) | (simp only [if_neg c6] at KJ ⊢; exact KJ) | exact KJ
    · replace K := K.2 c5
      refine g_iconst (v := (-1)) dX2_onward_11 (by decide) ?_
      exact g_iret dX2_onward_12 rfl K
theorem dX2_takeIn_0 : decode cX2_takeIn 0 = .ok (.iconst 0, 1) := by decide +kernel
theorem dX2_takeIn_1 : decode cX2_takeIn 1 = .ok (.istore_n 2, 1) := by decide +kernel
theorem dX2_takeIn_2 : decode cX2_takeIn 2 = .ok (.iload_n 2, 1) := by decide +kernel
theorem dX2_takeIn_3 : decode cX2_takeIn 3 = .ok (.aload_n 1, 1) := by decide +kernel
theorem dX2_takeIn_4 : decode cX2_takeIn 4 = .ok (.getfield 102, 3) := by decide +kernel
theorem dX2_takeIn_7 : decode cX2_takeIn 7 = .ok (.if_icmp .ge 161, 3) := by decide +kernel
theorem dX2_takeIn_10 : decode cX2_takeIn 10 = .ok (.aload_n 0, 1) := by decide +kernel
theorem dX2_takeIn_11 : decode cX2_takeIn 11 = .ok (.getfield 44, 3) := by decide +kernel
theorem dX2_takeIn_14 : decode cX2_takeIn 14 = .ok (.aload_n 0, 1) := by decide +kernel
theorem dX2_takeIn_15 : decode cX2_takeIn 15 = .ok (.getfield 18, 3) := by decide +kernel
theorem dX2_takeIn_18 : decode cX2_takeIn 18 = .ok (.if_icmp .ge 150, 3) := by decide +kernel
theorem dX2_takeIn_21 : decode cX2_takeIn 21 = .ok (.aload_n 1, 1) := by decide +kernel
theorem dX2_takeIn_22 : decode cX2_takeIn 22 = .ok (.getfield 105, 3) := by decide +kernel
theorem dX2_takeIn_25 : decode cX2_takeIn 25 = .ok (.iload_n 2, 1) := by decide +kernel
theorem dX2_takeIn_26 : decode cX2_takeIn 26 = .ok (.aaload, 1) := by decide +kernel
theorem dX2_takeIn_27 : decode cX2_takeIn 27 = .ok (.astore_n 3, 1) := by decide +kernel
theorem dX2_takeIn_28 : decode cX2_takeIn 28 = .ok (.aload_n 3, 1) := by decide +kernel
theorem dX2_takeIn_29 : decode cX2_takeIn 29 = .ok (.getfield 116, 3) := by decide +kernel
theorem dX2_takeIn_32 : decode cX2_takeIn 32 = .ok (.iconst 1, 1) := by decide +kernel
theorem dX2_takeIn_33 : decode cX2_takeIn 33 = .ok (.if_icmp .ne 29, 3) := by decide +kernel
theorem dX2_takeIn_36 : decode cX2_takeIn 36 = .ok (.aload_n 3, 1) := by decide +kernel
theorem dX2_takeIn_37 : decode cX2_takeIn 37 = .ok (.getfield 119, 3) := by decide +kernel
theorem dX2_takeIn_40 : decode cX2_takeIn 40 = .ok (.aload_n 0, 1) := by decide +kernel
theorem dX2_takeIn_41 : decode cX2_takeIn 41 = .ok (.getfield 21, 3) := by decide +kernel
theorem dX2_takeIn_44 : decode cX2_takeIn 44 = .ok (.if_icmp .ne 18, 3) := by decide +kernel
theorem dX2_takeIn_47 : decode cX2_takeIn 47 = .ok (.aload_n 3, 1) := by decide +kernel
theorem dX2_takeIn_48 : decode cX2_takeIn 48 = .ok (.getfield 122, 3) := by decide +kernel
theorem dX2_takeIn_51 : decode cX2_takeIn 51 = .ok (.aload_n 0, 1) := by decide +kernel
theorem dX2_takeIn_52 : decode cX2_takeIn 52 = .ok (.getfield 24, 3) := by decide +kernel
theorem dX2_takeIn_55 : decode cX2_takeIn 55 = .ok (.if_icmp .ne 7, 3) := by decide +kernel
theorem dX2_takeIn_58 : decode cX2_takeIn 58 = .ok (.iconst 1, 1) := by decide +kernel
theorem dX2_takeIn_59 : decode cX2_takeIn 59 = .ok (.goto 4, 3) := by decide +kernel
theorem dX2_takeIn_62 : decode cX2_takeIn 62 = .ok (.iconst 0, 1) := by decide +kernel
theorem dX2_takeIn_63 : decode cX2_takeIn 63 = .ok (.istore 4, 2) := by decide +kernel
theorem dX2_takeIn_65 : decode cX2_takeIn 65 = .ok (.aload_n 0, 1) := by decide +kernel
theorem dX2_takeIn_66 : decode cX2_takeIn 66 = .ok (.getfield 9, 3) := by decide +kernel
theorem dX2_takeIn_69 : decode cX2_takeIn 69 = .ok (.ifCond .eq 14, 3) := by decide +kernel
theorem dX2_takeIn_72 : decode cX2_takeIn 72 = .ok (.aload_n 0, 1) := by decide +kernel
theorem dX2_takeIn_73 : decode cX2_takeIn 73 = .ok (.getfield 9, 3) := by decide +kernel
theorem dX2_takeIn_76 : decode cX2_takeIn 76 = .ok (.aload_n 3, 1) := by decide +kernel
theorem dX2_takeIn_77 : decode cX2_takeIn 77 = .ok (.getfield 123, 3) := by decide +kernel
theorem dX2_takeIn_80 : decode cX2_takeIn 80 = .ok (.if_icmp .ne 7, 3) := by decide +kernel
theorem dX2_takeIn_83 : decode cX2_takeIn 83 = .ok (.iconst 1, 1) := by decide +kernel
theorem dX2_takeIn_84 : decode cX2_takeIn 84 = .ok (.goto 4, 3) := by decide +kernel
theorem dX2_takeIn_87 : decode cX2_takeIn 87 = .ok (.iconst 0, 1) := by decide +kernel
theorem dX2_takeIn_88 : decode cX2_takeIn 88 = .ok (.istore 5, 2) := by decide +kernel
theorem dX2_takeIn_90 : decode cX2_takeIn 90 = .ok (.iload 4, 2) := by decide +kernel
theorem dX2_takeIn_92 : decode cX2_takeIn 92 = .ok (.ifCond .eq 70, 3) := by decide +kernel
theorem dX2_takeIn_95 : decode cX2_takeIn 95 = .ok (.iload 5, 2) := by decide +kernel
theorem dX2_takeIn_97 : decode cX2_takeIn 97 = .ok (.ifCond .eq 65, 3) := by decide +kernel
theorem dX2_takeIn_100 : decode cX2_takeIn 100 = .ok (.aload_n 0, 1) := by decide +kernel
theorem dX2_takeIn_101 : decode cX2_takeIn 101 = .ok (.getfield 57, 3) := by decide +kernel
theorem dX2_takeIn_104 : decode cX2_takeIn 104 = .ok (.iload_n 2, 1) := by decide +kernel
theorem dX2_takeIn_105 : decode cX2_takeIn 105 = .ok (.iushr, 1) := by decide +kernel
theorem dX2_takeIn_106 : decode cX2_takeIn 106 = .ok (.iconst 1, 1) := by decide +kernel
theorem dX2_takeIn_107 : decode cX2_takeIn 107 = .ok (.iand, 1) := by decide +kernel
theorem dX2_takeIn_108 : decode cX2_takeIn 108 = .ok (.ifCond .ne 54, 3) := by decide +kernel
theorem dX2_takeIn_111 : decode cX2_takeIn 111 = .ok (.aload_n 0, 1) := by decide +kernel
theorem dX2_takeIn_112 : decode cX2_takeIn 112 = .ok (.dup, 1) := by decide +kernel
theorem dX2_takeIn_113 : decode cX2_takeIn 113 = .ok (.getfield 41, 3) := by decide +kernel
theorem dX2_takeIn_116 : decode cX2_takeIn 116 = .ok (.iconst 1, 1) := by decide +kernel
theorem dX2_takeIn_117 : decode cX2_takeIn 117 = .ok (.iload_n 2, 1) := by decide +kernel
theorem dX2_takeIn_118 : decode cX2_takeIn 118 = .ok (.ishl, 1) := by decide +kernel
theorem dX2_takeIn_119 : decode cX2_takeIn 119 = .ok (.ior, 1) := by decide +kernel
theorem dX2_takeIn_120 : decode cX2_takeIn 120 = .ok (.putfield 41, 3) := by decide +kernel
theorem dX2_takeIn_123 : decode cX2_takeIn 123 = .ok (.aload_n 0, 1) := by decide +kernel
theorem dX2_takeIn_124 : decode cX2_takeIn 124 = .ok (.dup, 1) := by decide +kernel
theorem dX2_takeIn_125 : decode cX2_takeIn 125 = .ok (.getfield 57, 3) := by decide +kernel
theorem dX2_takeIn_128 : decode cX2_takeIn 128 = .ok (.iconst 1, 1) := by decide +kernel
theorem dX2_takeIn_129 : decode cX2_takeIn 129 = .ok (.iload_n 2, 1) := by decide +kernel
theorem dX2_takeIn_130 : decode cX2_takeIn 130 = .ok (.ishl, 1) := by decide +kernel
theorem dX2_takeIn_131 : decode cX2_takeIn 131 = .ok (.ior, 1) := by decide +kernel
theorem dX2_takeIn_132 : decode cX2_takeIn 132 = .ok (.putfield 57, 3) := by decide +kernel
theorem dX2_takeIn_135 : decode cX2_takeIn 135 = .ok (.aload_n 0, 1) := by decide +kernel
theorem dX2_takeIn_136 : decode cX2_takeIn 136 = .ok (.dup, 1) := by decide +kernel
theorem dX2_takeIn_137 : decode cX2_takeIn 137 = .ok (.getfield 44, 3) := by decide +kernel
theorem dX2_takeIn_140 : decode cX2_takeIn 140 = .ok (.iconst 1, 1) := by decide +kernel
theorem dX2_takeIn_141 : decode cX2_takeIn 141 = .ok (.iadd, 1) := by decide +kernel
theorem dX2_takeIn_142 : decode cX2_takeIn 142 = .ok (.putfield 44, 3) := by decide +kernel
theorem dX2_takeIn_145 : decode cX2_takeIn 145 = .ok (.aload_n 0, 1) := by decide +kernel
theorem dX2_takeIn_146 : decode cX2_takeIn 146 = .ok (.dup, 1) := by decide +kernel
theorem dX2_takeIn_147 : decode cX2_takeIn 147 = .ok (.getfield 47, 3) := by decide +kernel
theorem dX2_takeIn_150 : decode cX2_takeIn 150 = .ok (.lconst 1, 1) := by decide +kernel
theorem dX2_takeIn_151 : decode cX2_takeIn 151 = .ok (.iconst 4, 1) := by decide +kernel
theorem dX2_takeIn_152 : decode cX2_takeIn 152 = .ok (.aload_n 3, 1) := by decide +kernel
theorem dX2_takeIn_153 : decode cX2_takeIn 153 = .ok (.getfield 109, 3) := by decide +kernel
theorem dX2_takeIn_156 : decode cX2_takeIn 156 = .ok (.imul, 1) := by decide +kernel
theorem dX2_takeIn_157 : decode cX2_takeIn 157 = .ok (.lshl, 1) := by decide +kernel
theorem dX2_takeIn_158 : decode cX2_takeIn 158 = .ok (.lor, 1) := by decide +kernel
theorem dX2_takeIn_159 : decode cX2_takeIn 159 = .ok (.putfield 47, 3) := by decide +kernel
theorem dX2_takeIn_162 : decode cX2_takeIn 162 = .ok (.iinc 2 1, 3) := by decide +kernel
theorem dX2_takeIn_165 : decode cX2_takeIn 165 = .ok (.goto (-163), 3) := by decide +kernel
theorem dX2_takeIn_168 : decode cX2_takeIn 168 = .ok (.aload_n 0, 1) := by decide +kernel
theorem dX2_takeIn_169 : decode cX2_takeIn 169 = .ok (.getfield 24, 3) := by decide +kernel
theorem dX2_takeIn_172 : decode cX2_takeIn 172 = .ok (.ifCond .le 9, 3) := by decide +kernel
theorem dX2_takeIn_175 : decode cX2_takeIn 175 = .ok (.ldc2_w 98, 3) := by decide +kernel
theorem dX2_takeIn_178 : decode cX2_takeIn 178 = .ok (.goto 17, 3) := by decide +kernel
theorem dX2_takeIn_181 : decode cX2_takeIn 181 = .ok (.aload_n 0, 1) := by decide +kernel
theorem dX2_takeIn_182 : decode cX2_takeIn 182 = .ok (.getfield 24, 3) := by decide +kernel
theorem dX2_takeIn_185 : decode cX2_takeIn 185 = .ok (.ifCond .ge 9, 3) := by decide +kernel
theorem dX2_takeIn_188 : decode cX2_takeIn 188 = .ok (.ldc2_w 100, 3) := by decide +kernel
theorem dX2_takeIn_191 : decode cX2_takeIn 191 = .ok (.goto 4, 3) := by decide +kernel
theorem dX2_takeIn_194 : decode cX2_takeIn 194 = .ok (.lconst 0, 1) := by decide +kernel
theorem dX2_takeIn_195 : decode cX2_takeIn 195 = .ok (.lstore_n 2, 1) := by decide +kernel
theorem dX2_takeIn_196 : decode cX2_takeIn 196 = .ok (.aload_n 0, 1) := by decide +kernel
theorem dX2_takeIn_197 : decode cX2_takeIn 197 = .ok (.dup, 1) := by decide +kernel
theorem dX2_takeIn_198 : decode cX2_takeIn 198 = .ok (.getfield 51, 3) := by decide +kernel
theorem dX2_takeIn_201 : decode cX2_takeIn 201 = .ok (.lload_n 2, 1) := by decide +kernel
theorem dX2_takeIn_202 : decode cX2_takeIn 202 = .ok (.iconst 4, 1) := by decide +kernel
theorem dX2_takeIn_203 : decode cX2_takeIn 203 = .ok (.aload_n 0, 1) := by decide +kernel
theorem dX2_takeIn_204 : decode cX2_takeIn 204 = .ok (.getfield 21, 3) := by decide +kernel
theorem dX2_takeIn_207 : decode cX2_takeIn 207 = .ok (.imul, 1) := by decide +kernel
theorem dX2_takeIn_208 : decode cX2_takeIn 208 = .ok (.lshl, 1) := by decide +kernel
theorem dX2_takeIn_209 : decode cX2_takeIn 209 = .ok (.ldc2_w 114, 3) := by decide +kernel
theorem dX2_takeIn_212 : decode cX2_takeIn 212 = .ok (.lxor, 1) := by decide +kernel
theorem dX2_takeIn_213 : decode cX2_takeIn 213 = .ok (.land, 1) := by decide +kernel
theorem dX2_takeIn_214 : decode cX2_takeIn 214 = .ok (.putfield 51, 3) := by decide +kernel
theorem dX2_takeIn_217 : decode cX2_takeIn 217 = .ok (.return_, 1) := by decide +kernel
set_option maxRecDepth 20000 in
set_option maxHeartbeats 4000000 in
theorem vX2_takeIn_0 {l : Launch} {x : CX} {a0 : Nat} {a1 : Nat} {h : PH} {rc rs n0 : Nat} {Q : Option Value → PH → Prop} {X : String → PH → Prop}
    (K : Gm l x mX2_takeIn 0 2 [(0, .ref a0), (1, .ref a1), (2, .int 0)] [] h rc rs n0 Q X) :
    Gm l x mX2_takeIn 0 0 [(0, .ref a0), (1, .ref a1)] [] h rc rs n0 Q X := by
  refine g_iconst (v := 0) dX2_takeIn_0 (by decide) ?_
  refine g_istore_n (lv' := [(0, .ref a0), (1, .ref a1), (2, .int 0)]) dX2_takeIn_1 rfl (by decide) rfl ?_
  exact K
set_option maxRecDepth 20000 in
set_option maxHeartbeats 4000000 in
theorem vX2_takeIn_2 {l : Launch} {x : CX} {a0 : Nat} {a1 : Nat} {x2 : Int32} {h : PH} {rc rs n0 : Nat} {Q : Option Value → PH → Prop} {X : String → PH → Prop}
    (K : ((hK h a1).1 = 1) ∧ (((hI h a1 2) ≤ x2 → ((hK h a0).1 = 2) ∧ ∀ (y6 : Int64), y6 = (if (hI h a0 4) ≤ 0 then (if 0 ≤ (hI h a0 4) then 0 else 12 : Int64) else 3 : Int64) → Q none (sL h a0 12 ((hL h a0 12) &&& ((lsh y6 (4 * (hI h a0 3))) ^^^ (-1))))) ∧ (¬ (hI h a1 2) ≤ x2 → ((hK h a0).1 = 2) ∧ (((hI h a0 2) ≤ (hI h a0 10) → ∀ (y12 : Int64), y12 = (if (hI h a0 4) ≤ 0 then (if 0 ≤ (hI h a0 4) then 0 else 12 : Int64) else 3 : Int64) → Q none (sL h a0 12 ((hL h a0 12) &&& ((lsh y12 (4 * (hI h a0 3))) ^^^ (-1))))) ∧ (¬ (hI h a0 2) ≤ (hI h a0 10) → ∃ b14, (hR h a1 14 = some b14) ∧ ((hK h b14).1 = 106) ∧ (vp_in x2 (hK h b14).2) ∧ ∃ b18, (hR h b14 x2.toNatClampNeg = some b18) ∧ ((hK h b18).1 = 6) ∧ ∀ (y24 : Int32), y24 = (if (hI h b18 4) = 1 then (if (hI h b18 5) = (hI h a0 3) then (if (hI h b18 6) = (hI h a0 4) then 1 else 0 : Int32) else 0 : Int32) else 0 : Int32) → ∀ (y28 : Int32), y28 = (if (hI h a0 0) = 0 then 1 else (if (hI h a0 0) = (hI h b18 0) then 1 else 0 : Int32) : Int32) → ((y24 = 0 → Gm l x mX2_takeIn 0 2 [(0, .ref a0), (1, .ref a1), (2, .int (x2 + 1))] [] h rc rs n0 Q X) ∧ (¬ y24 = 0 → ((y28 = 0 → Gm l x mX2_takeIn 0 2 [(0, .ref a0), (1, .ref a1), (2, .int (x2 + 1))] [] h rc rs n0 Q X) ∧ (¬ y28 = 0 → ((¬ ((ius (hI h a0 14) x2) &&& 1) = 0 → Gm l x mX2_takeIn 0 2 [(0, .ref a0), (1, .ref a1), (2, .int (x2 + 1))] [] h rc rs n0 Q X) ∧ (((ius (hI h a0 14) x2) &&& 1) = 0 → Gm l x mX2_takeIn 0 2 [(0, .ref a0), (1, .ref a1), (2, .int (x2 + 1))] [] (sL (sI (sI (sI h a0 9 ((hI h a0 9) ||| (1 <<< ((x2 : Int32) &&& 31)))) a0 14 ((hI h a0 14) ||| (1 <<< ((x2 : Int32) &&& 31)))) a0 10 ((hI h a0 10) + 1)) a0 11 ((hL h a0 11) ||| (lsh 1 (4 * (hI h b18 3))))) rc rs n0 Q X))))))))))) :
    Gm l x mX2_takeIn 0 2 [(0, .ref a0), (1, .ref a1), (2, .int x2)] [] h rc rs n0 Q X := by
  refine g_iload_n dX2_takeIn_2 rfl 2 rfl ?_
  refine g_aload_n dX2_takeIn_3 rfl 1 rfl ?_
  obtain ⟨e1, K⟩ := K
  refine g_get (c := 1) (k := 2) (v := .int (hI h a1 2)) dX2_takeIn_4 fc_1 (by decide) (by decide) bw_195 rfl e1 ?_
  refine g_icmp_ge (tgt := 168) dX2_takeIn_7 (by decide) (fun c2 => ?_) (fun c2 => ?_)
  · replace K := K.1 c2
    refine g_aload_n dX2_takeIn_168 rfl 0 rfl ?_
    obtain ⟨e3, K⟩ := K
    refine g_get (c := 2) (k := 4) (v := .int (hI h a0 4)) dX2_takeIn_169 fc_2 (by decide) (by decide) bw_66 rfl e3 ?_
    have KJ : Gm l x mX2_takeIn 0 195 [(0, .ref a0), (1, .ref a1), (2, .int x2)] [.long (if (hI h a0 4) ≤ 0 then (if 0 ≤ (hI h a0 4) then 0 else 12 : Int64) else 3 : Int64)] h rc rs n0 Q X := by
      refine g_nmJ (fun y6 e7 => ?_)
      replace K := K y6 e7
      refine g_lstore_n (lv' := [(0, .ref a0), (1, .ref a1), (2, .long y6)]) dX2_takeIn_195 rfl (by decide) rfl ?_
      refine g_aload_n dX2_takeIn_196 rfl 0 rfl ?_
      refine g_dup dX2_takeIn_197 rfl ?_
      refine g_get (c := 2) (k := 12) (v := .long (hL h a0 12)) dX2_takeIn_198 fc_2 (by decide) (by decide) bw_86 rfl e3 ?_
      refine g_lload_n dX2_takeIn_201 rfl 2 rfl ?_
      refine g_iconst (v := 4) dX2_takeIn_202 (by decide) ?_
      refine g_aload_n dX2_takeIn_203 rfl 0 rfl ?_
      refine g_get (c := 2) (k := 3) (v := .int (hI h a0 3)) dX2_takeIn_204 fc_2 (by decide) (by decide) bw_62 rfl e3 ?_
      refine g_imul dX2_takeIn_207 ?_
      refine g_lshl dX2_takeIn_208 ?_
      refine g_ldc2 (v := (-1)) dX2_takeIn_209 bw_578 ?_
      refine g_lxor dX2_takeIn_212 ?_
      refine g_land dX2_takeIn_213 ?_
      refine g_putl (c := 2) (k := 12) dX2_takeIn_214 fc_2 (by decide) (by decide) bw_86 (Or.inl rfl) rfl e3 ?_
      exact g_vret dX2_takeIn_217 rfl K
    refine g_if_le (tgt := 181) dX2_takeIn_172 (by decide) (fun c4 => ?_) (fun c4 => ?_)
    · refine g_aload_n dX2_takeIn_181 rfl 0 rfl ?_
      refine g_get (c := 2) (k := 4) (v := .int (hI h a0 4)) dX2_takeIn_182 fc_2 (by decide) (by decide) bw_66 rfl e3 ?_
      refine g_if_ge (tgt := 194) dX2_takeIn_185 (by decide) (fun c5 => ?_) (fun c5 => ?_)
      · refine g_lconst (v := 0) dX2_takeIn_194 (by decide) ?_
        first | (simp only [if_pos c4, if_pos c5] at KJ; exact KJ) | (simp only [if_pos c4, if_pos c5, ite_true, ite_false, eq_self] at KJ; exact KJ) | (simp only [if_pos c4, if_pos c5] at KJ ⊢; exact KJ) | exact KJ
      · refine g_ldc2 (v := 12) dX2_takeIn_188 bw_509 ?_
        refine g_goto (tgt := 195) dX2_takeIn_191 (by decide) ?_
        first | (simp only [if_pos c4, if_neg c5] at KJ; exact KJ) | (simp only [if_pos c4, if_neg c5, ite_true, ite_false, eq_self] at KJ; exact KJ) | (simp only [if_pos c4, if_neg c5] at KJ ⊢; exact KJ) | exact KJ
    · refine g_ldc2 (v := 3) dX2_takeIn_175 bw_508 ?_
      refine g_goto (tgt := 195) dX2_takeIn_178 (by decide) ?_
      first | (simp only [if_neg c4] at KJ; exact KJ) | (simp only [if_neg c4, ite_true, ite_false, eq_self] at KJ; exact KJ) | (simp only [if_neg c4] at KJ ⊢; exact KJ) | exact KJ
  · replace K := K.2 c2
    refine g_aload_n dX2_takeIn_10 rfl 0 rfl ?_
    obtain ⟨e8, K⟩ := K
    refine g_get (c := 2) (k := 10) (v := .int (hI h a0 10)) dX2_takeIn_11 fc_2 (by decide) (by decide) bw_84 rfl e8 ?_
    refine g_aload_n dX2_takeIn_14 rfl 0 rfl ?_
    refine g_get (c := 2) (k := 2) (v := .int (hI h a0 2)) dX2_takeIn_15 fc_2 (by decide) (by decide) bw_59 rfl e8 ?_
    refine g_icmp_ge (tgt := 168) dX2_takeIn_18 (by decide) (fun c9 => ?_) (fun c9 => ?_)
    · replace K := K.1 c9
      refine g_aload_n dX2_takeIn_168 rfl 0 rfl ?_
      refine g_get (c := 2) (k := 4) (v := .int (hI h a0 4)) dX2_takeIn_169 fc_2 (by decide) (by decide) bw_66 rfl e8 ?_
      have KJ : Gm l x mX2_takeIn 0 195 [(0, .ref a0), (1, .ref a1), (2, .int x2)] [.long (if (hI h a0 4) ≤ 0 then (if 0 ≤ (hI h a0 4) then 0 else 12 : Int64) else 3 : Int64)] h rc rs n0 Q X := by
        refine g_nmJ (fun y12 e13 => ?_)
        replace K := K y12 e13
        refine g_lstore_n (lv' := [(0, .ref a0), (1, .ref a1), (2, .long y12)]) dX2_takeIn_195 rfl (by decide) rfl ?_
        refine g_aload_n dX2_takeIn_196 rfl 0 rfl ?_
        refine g_dup dX2_takeIn_197 rfl ?_
        refine g_get (c := 2) (k := 12) (v := .long (hL h a0 12)) dX2_takeIn_198 fc_2 (by decide) (by decide) bw_86 rfl e8 ?_
        refine g_lload_n dX2_takeIn_201 rfl 2 rfl ?_
        refine g_iconst (v := 4) dX2_takeIn_202 (by decide) ?_
        refine g_aload_n dX2_takeIn_203 rfl 0 rfl ?_
        refine g_get (c := 2) (k := 3) (v := .int (hI h a0 3)) dX2_takeIn_204 fc_2 (by decide) (by decide) bw_62 rfl e8 ?_
        refine g_imul dX2_takeIn_207 ?_
        refine g_lshl dX2_takeIn_208 ?_
        refine g_ldc2 (v := (-1)) dX2_takeIn_209 bw_578 ?_
        refine g_lxor dX2_takeIn_212 ?_
        refine g_land dX2_takeIn_213 ?_
        refine g_putl (c := 2) (k := 12) dX2_takeIn_214 fc_2 (by decide) (by decide) bw_86 (Or.inl rfl) rfl e8 ?_
        exact g_vret dX2_takeIn_217 rfl K
      refine g_if_le (tgt := 181) dX2_takeIn_172 (by decide) (fun c10 => ?_) (fun c10 => ?_)
      · refine g_aload_n dX2_takeIn_181 rfl 0 rfl ?_
        refine g_get (c := 2) (k := 4) (v := .int (hI h a0 4)) dX2_takeIn_182 fc_2 (by decide) (by decide) bw_66 rfl e8 ?_
        refine g_if_ge (tgt := 194) dX2_takeIn_185 (by decide) (fun c11 => ?_) (fun c11 => ?_)
        · refine g_lconst (v := 0) dX2_takeIn_194 (by decide) ?_
          first | (simp only [if_pos c10, if_pos c11] at KJ; exact KJ) | (simp only [if_pos c10, if_pos c11, ite_true, ite_false, eq_self] at KJ; exact KJ) | (simp only [if_pos c10, if_pos c11] at KJ ⊢; exact KJ) | exact KJ
        · refine g_ldc2 (v := 12) dX2_takeIn_188 bw_509 ?_
          refine g_goto (tgt := 195) dX2_takeIn_191 (by decide) ?_
          first | (simp only [if_pos c10, if_neg c11] at KJ; exact KJ) | (simp only [if_pos c10, if_neg c11, ite_true, ite_false, eq_self] at KJ; exact KJ) | (simp only [if_pos c10, if_neg c11] at KJ ⊢; exact KJ) | exact KJ
      · refine g_ldc2 (v := 3) dX2_takeIn_175 bw_508 ?_
        refine g_goto (tgt := 195) dX2_takeIn_178 (by decide) ?_
        first | (simp only [if_neg c10] at KJ; exact KJ) | (simp only [if_neg c10, ite_true, ite_false, eq_self] at KJ; exact KJ) | (simp only [if_neg c10] at KJ ⊢; exact KJ) | exact KJ
    · replace K := K.2 c9
      refine g_aload_n dX2_takeIn_21 rfl 1 rfl ?_
      obtain ⟨b14, e15, K⟩ := K
      refine g_get (c := 1) (k := 14) (v := .ref b14) dX2_takeIn_22 fc_1 (by decide) (by decide) bw_229 (congrArg pr e15) e1 ?_
      refine g_iload_n dX2_takeIn_25 rfl 2 rfl ?_
      obtain ⟨e16, e17, b18, e19, K⟩ := K
      refine g_aald (t := 6) (v := .ref b18) dX2_takeIn_26 (Or.inr (Or.inl rfl)) e16 e17 (congrArg pr e19) ?_
      refine g_astore_n (lv' := [(0, .ref a0), (1, .ref a1), (2, .int x2), (3, .ref b18)]) dX2_takeIn_27 rfl (by decide) rfl ?_
      refine g_aload_n dX2_takeIn_28 rfl 3 rfl ?_
      obtain ⟨e20, K⟩ := K
      refine g_get (c := 6) (k := 4) (v := .int (hI h b18 4)) dX2_takeIn_29 fc_6 (by decide) (by decide) bw_147 rfl e20 ?_
      refine g_iconst (v := 1) dX2_takeIn_32 (by decide) ?_
      have KJ : Gm l x mX2_takeIn 0 63 [(0, .ref a0), (1, .ref a1), (2, .int x2), (3, .ref b18)] [.int (if (hI h b18 4) = 1 then (if (hI h b18 5) = (hI h a0 3) then (if (hI h b18 6) = (hI h a0 4) then 1 else 0 : Int32) else 0 : Int32) else 0 : Int32)] h rc rs n0 Q X := by
        refine g_nmI (fun y24 e25 => ?_)
        replace K := K y24 e25
        refine g_istore (lv' := [(0, .ref a0), (1, .ref a1), (2, .int x2), (3, .ref b18), (4, .int y24)]) dX2_takeIn_63 (by decide) rfl ?_
        refine g_aload_n dX2_takeIn_65 rfl 0 rfl ?_
        refine g_get (c := 2) (k := 0) (v := .int (hI h a0 0)) dX2_takeIn_66 fc_2 (by decide) (by decide) bw_53 rfl e8 ?_
        have KJ : Gm l x mX2_takeIn 0 88 [(0, .ref a0), (1, .ref a1), (2, .int x2), (3, .ref b18), (4, .int y24)] [.int (if (hI h a0 0) = 0 then 1 else (if (hI h a0 0) = (hI h b18 0) then 1 else 0 : Int32) : Int32)] h rc rs n0 Q X := by
          refine g_nmI (fun y28 e29 => ?_)
          replace K := K y28 e29
          refine g_istore (lv' := [(0, .ref a0), (1, .ref a1), (2, .int x2), (3, .ref b18), (4, .int y24), (5, .int y28)]) dX2_takeIn_88 (by decide) rfl ?_
          refine g_iload dX2_takeIn_90 4 rfl ?_
          refine g_if_eq (tgt := 162) dX2_takeIn_92 (by decide) (fun c30 => ?_) (fun c30 => ?_)
          · replace K := K.1 c30
            refine g_iinc (v := (x2 + 1)) (lv' := [(0, .ref a0), (1, .ref a1), (2, .int (x2 + 1)), (3, .ref b18), (4, .int y24), (5, .int y28)]) dX2_takeIn_162 2 rfl (by rfl) (by decide) rfl ?_
            refine g_goto (tgt := 2) dX2_takeIn_165 (by decide) ?_
            exact Gm.sub [0, 1, 2] rfl K
          · replace K := K.2 c30
            refine g_iload dX2_takeIn_95 5 rfl ?_
            refine g_if_eq (tgt := 162) dX2_takeIn_97 (by decide) (fun c31 => ?_) (fun c31 => ?_)
            · replace K := K.1 c31
              refine g_iinc (v := (x2 + 1)) (lv' := [(0, .ref a0), (1, .ref a1), (2, .int (x2 + 1)), (3, .ref b18), (4, .int y24), (5, .int y28)]) dX2_takeIn_162 2 rfl (by rfl) (by decide) rfl ?_
              refine g_goto (tgt := 2) dX2_takeIn_165 (by decide) ?_
              exact Gm.sub [0, 1, 2] rfl K
            · replace K := K.2 c31
              refine g_aload_n dX2_takeIn_100 rfl 0 rfl ?_
              refine g_get (c := 2) (k := 14) (v := .int (hI h a0 14)) dX2_takeIn_101 fc_2 (by decide) (by decide) bw_90 rfl e8 ?_
              refine g_iload_n dX2_takeIn_104 rfl 2 rfl ?_
              refine g_iushr dX2_takeIn_105 ?_
              refine g_iconst (v := 1) dX2_takeIn_106 (by decide) ?_
              refine g_iand dX2_takeIn_107 ?_
              refine g_if_ne (tgt := 162) dX2_takeIn_108 (by decide) (fun c32 => ?_) (fun c32 => ?_)
              · replace K := K.1 c32
                refine g_iinc (v := (x2 + 1)) (lv' := [(0, .ref a0), (1, .ref a1), (2, .int (x2 + 1)), (3, .ref b18), (4, .int y24), (5, .int y28)]) dX2_takeIn_162 2 rfl (by rfl) (by decide) rfl ?_
                refine g_goto (tgt := 2) dX2_takeIn_165 (by decide) ?_
                exact Gm.sub [0, 1, 2] rfl K
              · replace K := K.2 c32
                refine g_aload_n dX2_takeIn_111 rfl 0 rfl ?_
                refine g_dup dX2_takeIn_112 rfl ?_
                refine g_get (c := 2) (k := 9) (v := .int (hI h a0 9)) dX2_takeIn_113 fc_2 (by decide) (by decide) bw_81 rfl e8 ?_
                refine g_iconst (v := 1) dX2_takeIn_116 (by decide) ?_
                refine g_iload_n dX2_takeIn_117 rfl 2 rfl ?_
                refine g_ishl dX2_takeIn_118 ?_
                refine g_ior dX2_takeIn_119 ?_
                refine g_puti (c := 2) (k := 9) dX2_takeIn_120 fc_2 (by decide) (by decide) bw_81 (Or.inl rfl) rfl e8 ?_
                refine g_aload_n dX2_takeIn_123 rfl 0 rfl ?_
                refine g_dup dX2_takeIn_124 rfl ?_
                refine g_get (c := 2) (k := 14) (v := .int (hI h a0 14)) dX2_takeIn_125 fc_2 (by decide) (by decide) bw_90 (congrArg Value.int ((skI (by decide)).trans rfl)) (kkI e8) ?_
                refine g_iconst (v := 1) dX2_takeIn_128 (by decide) ?_
                refine g_iload_n dX2_takeIn_129 rfl 2 rfl ?_
                refine g_ishl dX2_takeIn_130 ?_
                refine g_ior dX2_takeIn_131 ?_
                refine g_puti (c := 2) (k := 14) dX2_takeIn_132 fc_2 (by decide) (by decide) bw_90 (Or.inl rfl) rfl (kkI e8) ?_
                refine g_aload_n dX2_takeIn_135 rfl 0 rfl ?_
                refine g_dup dX2_takeIn_136 rfl ?_
                refine g_get (c := 2) (k := 10) (v := .int (hI h a0 10)) dX2_takeIn_137 fc_2 (by decide) (by decide) bw_84 (congrArg Value.int ((skI (by decide)).trans ((skI (by decide)).trans rfl))) (kkI (kkI e8)) ?_
                refine g_iconst (v := 1) dX2_takeIn_140 (by decide) ?_
                refine g_iadd dX2_takeIn_141 ?_
                refine g_puti (c := 2) (k := 10) dX2_takeIn_142 fc_2 (by decide) (by decide) bw_84 (Or.inl rfl) rfl (kkI (kkI e8)) ?_
                refine g_aload_n dX2_takeIn_145 rfl 0 rfl ?_
                refine g_dup dX2_takeIn_146 rfl ?_
                refine g_get (c := 2) (k := 11) (v := .long (hL h a0 11)) dX2_takeIn_147 fc_2 (by decide) (by decide) bw_85 (congrArg Value.long ((hL_sI _ _ _ _ _ _).trans ((hL_sI _ _ _ _ _ _).trans ((hL_sI _ _ _ _ _ _).trans rfl)))) (kkI (kkI (kkI e8))) ?_
                refine g_lconst (v := 1) dX2_takeIn_150 (by decide) ?_
                refine g_iconst (v := 4) dX2_takeIn_151 (by decide) ?_
                refine g_aload_n dX2_takeIn_152 rfl 3 rfl ?_
                refine g_get (c := 6) (k := 3) (v := .int (hI h b18 3)) dX2_takeIn_153 fc_6 (by decide) (by decide) bw_142 (congrArg Value.int ((skI (by decide)).trans ((skI (by decide)).trans ((skI (by decide)).trans rfl)))) (kkI (kkI (kkI e20))) ?_
                refine g_imul dX2_takeIn_156 ?_
                refine g_lshl dX2_takeIn_157 ?_
                refine g_lor dX2_takeIn_158 ?_
                refine g_putl (c := 2) (k := 11) dX2_takeIn_159 fc_2 (by decide) (by decide) bw_85 (Or.inl rfl) rfl (kkI (kkI (kkI e8))) ?_
                refine g_iinc (v := (x2 + 1)) (lv' := [(0, .ref a0), (1, .ref a1), (2, .int (x2 + 1)), (3, .ref b18), (4, .int y24), (5, .int y28)]) dX2_takeIn_162 2 rfl (by rfl) (by decide) rfl ?_
                refine g_goto (tgt := 2) dX2_takeIn_165 (by decide) ?_
                exact Gm.sub [0, 1, 2] rfl K
        refine g_if_eq (tgt := 83) dX2_takeIn_69 (by decide) (fun c26 => ?_) (fun c26 => ?_)
        · refine g_iconst (v := 1) dX2_takeIn_83 (by decide) ?_
          refine g_goto (tgt := 88) dX2_takeIn_84 (by decide) ?_
          first | (simp only [if_pos c26] at KJ; exact KJ) | (simp only [if_pos c26, ite_true, ite_false, eq_self] at KJ; exact KJ) | (simp only [if_pos c26] at KJ ⊢; exact KJ) | exact KJ
        · refine g_aload_n dX2_takeIn_72 rfl 0 rfl ?_
          refine g_get (c := 2) (k := 0) (v := .int (hI h a0 0)) dX2_takeIn_73 fc_2 (by decide) (by decide) bw_53 rfl e8 ?_
          refine g_aload_n dX2_takeIn_76 rfl 3 rfl ?_
          refine g_get (c := 6) (k := 0) (v := .int (hI h b18 0)) dX2_takeIn_77 fc_6 (by decide) (by decide) bw_132 rfl e20 ?_
          refine g_icmp_ne (tgt := 87) dX2_takeIn_80 (by decide) (fun c27 => ?_) (fun c27 => ?_)
          · refine g_iconst (v := 0) dX2_takeIn_87 (by decide) ?_
            first | (simp only [if_neg c26, if_neg c27] at KJ; exact KJ) | (simp only [if_neg c26, if_neg c27, ite_true, ite_false, eq_self] at KJ; exact KJ) | (simp only [if_neg c26, if_neg c27] at KJ ⊢; exact KJ) | exact KJ
          · refine g_iconst (v := 1) dX2_takeIn_83 (by decide) ?_
            refine g_goto (tgt := 88) dX2_takeIn_84 (by decide) ?_
            first | (simp only [if_neg c26, if_pos c27] at KJ; exact KJ) | (simp only [if_neg c26, if_pos c27, ite_true, ite_false, eq_self] at KJ; exact KJ) | (simp only [if_neg c26, if_pos c27] at KJ ⊢; exact KJ) | exact KJ
      refine g_icmp_ne (tgt := 62) dX2_takeIn_33 (by decide) (fun c21 => ?_) (fun c21 => ?_)
      · refine g_iconst (v := 0) dX2_takeIn_62 (by decide) ?_
        first | (simp only [if_neg c21] at KJ; exact KJ) | (simp only [if_neg c21, ite_true, ite_false, eq_self] at KJ; exact KJ) | (simp only [if_neg c21] at KJ ⊢; exact KJ) | exact KJ
      · refine g_aload_n dX2_takeIn_36 rfl 3 rfl ?_
        refine g_get (c := 6) (k := 5) (v := .int (hI h b18 5)) dX2_takeIn_37 fc_6 (by decide) (by decide) bw_151 rfl e20 ?_
        refine g_aload_n dX2_takeIn_40 rfl 0 rfl ?_
        refine g_get (c := 2) (k := 3) (v := .int (hI h a0 3)) dX2_takeIn_41 fc_2 (by decide) (by decide) bw_62 rfl e8 ?_
        refine g_icmp_ne (tgt := 62) dX2_takeIn_44 (by decide) (fun c22 => ?_) (fun c22 => ?_)
        · refine g_iconst (v := 0) dX2_takeIn_62 (by decide) ?_
          first | (simp only [if_pos c21, if_neg c22] at KJ; exact KJ) | (simp only [if_pos c21, if_neg c22, ite_true, ite_false, eq_self] at KJ; exact KJ) | (simp only [if_pos c21, if_neg c22] at KJ ⊢; exact KJ) | exact KJ
        · refine g_aload_n dX2_takeIn_47 rfl 3 rfl ?_
          refine g_get (c := 6) (k := 6) (v := .int (hI h b18 6)) dX2_takeIn_48 fc_6 (by decide) (by decide) bw_154 rfl e20 ?_
          refine g_aload_n dX2_takeIn_51 rfl 0 rfl ?_
          refine g_get (c := 2) (k := 4) (v := .int (hI h a0 4)) dX2_takeIn_52 fc_2 (by decide) (by decide) bw_66 rfl e8 ?_
          refine g_icmp_ne (tgt := 62) dX2_takeIn_55 (by decide) (fun c23 => ?_) (fun c23 => ?_)
          · refine g_iconst (v := 0) dX2_takeIn_62 (by decide) ?_
            first | (simp only [if_pos c21, if_pos c22, if_neg c23] at KJ; exact KJ) | (simp only [if_pos c21, if_pos c22, if_neg c23, ite_true, ite_false, eq_self] at KJ; exact KJ) | (simp only [if_pos c21, if_pos c22, if_neg c23] at KJ ⊢; exact KJ) | exact KJ
          · refine g_iconst (v := 1) dX2_takeIn_58 (by decide) ?_
            refine g_goto (tgt := 63) dX2_takeIn_59 (by decide) ?_
            first | (simp only [if_pos c21, if_pos c22, if_pos c23] at KJ; exact KJ) | (simp only [if_pos c21, if_pos c22, if_pos c23, ite_true, ite_false, eq_self] at KJ; exact KJ) | (simp only [if_pos c21, if_pos c22, if_pos c23] at KJ ⊢; exact KJ) | exact KJ
theorem dX2_go_0 : decode cX2_go 0 = .ok (.aload_n 0, 1) := by decide +kernel
theorem dX2_go_1 : decode cX2_go 1 = .ok (.getfield 44, 3) := by decide +kernel
theorem dX2_go_4 : decode cX2_go 4 = .ok (.aload_n 0, 1) := by decide +kernel
theorem dX2_go_5 : decode cX2_go 5 = .ok (.getfield 18, 3) := by decide +kernel
theorem dX2_go_8 : decode cX2_go 8 = .ok (.if_icmp .lt 7, 3) := by decide +kernel
theorem dX2_go_11 : decode cX2_go 11 = .ok (.iconst 1, 1) := by decide +kernel
theorem dX2_go_12 : decode cX2_go 12 = .ok (.goto 4, 3) := by decide +kernel
theorem dX2_go_15 : decode cX2_go 15 = .ok (.iconst 0, 1) := by decide +kernel
theorem dX2_go_16 : decode cX2_go 16 = .ok (.istore_n 2, 1) := by decide +kernel
theorem dX2_go_17 : decode cX2_go 17 = .ok (.aload_n 0, 1) := by decide +kernel
theorem dX2_go_18 : decode cX2_go 18 = .ok (.getfield 24, 3) := by decide +kernel
theorem dX2_go_21 : decode cX2_go 21 = .ok (.ifCond .le 9, 3) := by decide +kernel
theorem dX2_go_24 : decode cX2_go 24 = .ok (.ldc2_w 98, 3) := by decide +kernel
theorem dX2_go_27 : decode cX2_go 27 = .ok (.goto 17, 3) := by decide +kernel
theorem dX2_go_30 : decode cX2_go 30 = .ok (.aload_n 0, 1) := by decide +kernel
theorem dX2_go_31 : decode cX2_go 31 = .ok (.getfield 24, 3) := by decide +kernel
theorem dX2_go_34 : decode cX2_go 34 = .ok (.ifCond .ge 9, 3) := by decide +kernel
theorem dX2_go_37 : decode cX2_go 37 = .ok (.ldc2_w 100, 3) := by decide +kernel
theorem dX2_go_40 : decode cX2_go 40 = .ok (.goto 4, 3) := by decide +kernel
theorem dX2_go_43 : decode cX2_go 43 = .ok (.lconst 0, 1) := by decide +kernel
theorem dX2_go_44 : decode cX2_go 44 = .ok (.lstore_n 3, 1) := by decide +kernel
theorem dX2_go_45 : decode cX2_go 45 = .ok (.iload_n 2, 1) := by decide +kernel
theorem dX2_go_46 : decode cX2_go 46 = .ok (.ifCond .eq 31, 3) := by decide +kernel
theorem dX2_go_49 : decode cX2_go 49 = .ok (.aload_n 0, 1) := by decide +kernel
theorem dX2_go_50 : decode cX2_go 50 = .ok (.getfield 51, 3) := by decide +kernel
theorem dX2_go_53 : decode cX2_go 53 = .ok (.iconst 4, 1) := by decide +kernel
theorem dX2_go_54 : decode cX2_go 54 = .ok (.aload_n 0, 1) := by decide +kernel
theorem dX2_go_55 : decode cX2_go 55 = .ok (.getfield 21, 3) := by decide +kernel
theorem dX2_go_58 : decode cX2_go 58 = .ok (.imul, 1) := by decide +kernel
theorem dX2_go_59 : decode cX2_go 59 = .ok (.lushr, 1) := by decide +kernel
theorem dX2_go_60 : decode cX2_go 60 = .ok (.lload_n 3, 1) := by decide +kernel
theorem dX2_go_61 : decode cX2_go 61 = .ok (.land, 1) := by decide +kernel
theorem dX2_go_62 : decode cX2_go 62 = .ok (.lconst 0, 1) := by decide +kernel
theorem dX2_go_63 : decode cX2_go 63 = .ok (.lcmp, 1) := by decide +kernel
theorem dX2_go_64 : decode cX2_go 64 = .ok (.ifCond .eq 13, 3) := by decide +kernel
theorem dX2_go_67 : decode cX2_go 67 = .ok (.aload_n 0, 1) := by decide +kernel
theorem dX2_go_68 : decode cX2_go 68 = .ok (.dup, 1) := by decide +kernel
theorem dX2_go_69 : decode cX2_go 69 = .ok (.getfield 38, 3) := by decide +kernel
theorem dX2_go_72 : decode cX2_go 72 = .ok (.iconst 1, 1) := by decide +kernel
theorem dX2_go_73 : decode cX2_go 73 = .ok (.iadd, 1) := by decide +kernel
theorem dX2_go_74 : decode cX2_go 74 = .ok (.putfield 38, 3) := by decide +kernel
theorem dX2_go_77 : decode cX2_go 77 = .ok (.aload_n 0, 1) := by decide +kernel
theorem dX2_go_78 : decode cX2_go 78 = .ok (.getfield 24, 3) := by decide +kernel
theorem dX2_go_81 : decode cX2_go 81 = .ok (.istore 5, 2) := by decide +kernel
theorem dX2_go_83 : decode cX2_go 83 = .ok (.aload_n 0, 1) := by decide +kernel
theorem dX2_go_84 : decode cX2_go 84 = .ok (.getfield 24, 3) := by decide +kernel
theorem dX2_go_87 : decode cX2_go 87 = .ok (.ifCond .ne 26, 3) := by decide +kernel
theorem dX2_go_90 : decode cX2_go 90 = .ok (.iload_n 1, 1) := by decide +kernel
theorem dX2_go_91 : decode cX2_go 91 = .ok (.aload_n 0, 1) := by decide +kernel
theorem dX2_go_92 : decode cX2_go 92 = .ok (.getfield 21, 3) := by decide +kernel
theorem dX2_go_95 : decode cX2_go 95 = .ok (.if_icmp .eq 18, 3) := by decide +kernel
theorem dX2_go_98 : decode cX2_go 98 = .ok (.iload_n 1, 1) := by decide +kernel
theorem dX2_go_99 : decode cX2_go 99 = .ok (.aload_n 0, 1) := by decide +kernel
theorem dX2_go_100 : decode cX2_go 100 = .ok (.getfield 21, 3) := by decide +kernel
theorem dX2_go_103 : decode cX2_go 103 = .ok (.if_icmp .le 7, 3) := by decide +kernel
theorem dX2_go_106 : decode cX2_go 106 = .ok (.iconst 1, 1) := by decide +kernel
theorem dX2_go_107 : decode cX2_go 107 = .ok (.goto 4, 3) := by decide +kernel
theorem dX2_go_110 : decode cX2_go 110 = .ok (.iconst (-1), 1) := by decide +kernel
theorem dX2_go_111 : decode cX2_go 111 = .ok (.istore 5, 2) := by decide +kernel
theorem dX2_go_113 : decode cX2_go 113 = .ok (.aload_n 0, 1) := by decide +kernel
theorem dX2_go_114 : decode cX2_go 114 = .ok (.dup, 1) := by decide +kernel
theorem dX2_go_115 : decode cX2_go 115 = .ok (.getfield 21, 3) := by decide +kernel
theorem dX2_go_118 : decode cX2_go 118 = .ok (.iload 5, 2) := by decide +kernel
theorem dX2_go_120 : decode cX2_go 120 = .ok (.iadd, 1) := by decide +kernel
theorem dX2_go_121 : decode cX2_go 121 = .ok (.putfield 21, 3) := by decide +kernel
theorem dX2_go_124 : decode cX2_go 124 = .ok (.iload 5, 2) := by decide +kernel
theorem dX2_go_126 : decode cX2_go 126 = .ok (.ifCond .le 26, 3) := by decide +kernel
theorem dX2_go_129 : decode cX2_go 129 = .ok (.aload_n 0, 1) := by decide +kernel
theorem dX2_go_130 : decode cX2_go 130 = .ok (.aload_n 0, 1) := by decide +kernel
theorem dX2_go_131 : decode cX2_go 131 = .ok (.getfield 34, 3) := by decide +kernel
theorem dX2_go_134 : decode cX2_go 134 = .ok (.ldc 124, 2) := by decide +kernel
theorem dX2_go_136 : decode cX2_go 136 = .ok (.ldc 125, 2) := by decide +kernel
theorem dX2_go_138 : decode cX2_go 138 = .ok (.aload_n 0, 1) := by decide +kernel
theorem dX2_go_139 : decode cX2_go 139 = .ok (.getfield 44, 3) := by decide +kernel
theorem dX2_go_142 : decode cX2_go 142 = .ok (.i2f, 1) := by decide +kernel
theorem dX2_go_143 : decode cX2_go 143 = .ok (.fmul, 1) := by decide +kernel
theorem dX2_go_144 : decode cX2_go 144 = .ok (.fadd, 1) := by decide +kernel
theorem dX2_go_145 : decode cX2_go 145 = .ok (.fadd, 1) := by decide +kernel
theorem dX2_go_146 : decode cX2_go 146 = .ok (.putfield 34, 3) := by decide +kernel
theorem dX2_go_149 : decode cX2_go 149 = .ok (.goto 28, 3) := by decide +kernel
theorem dX2_go_152 : decode cX2_go 152 = .ok (.iload 5, 2) := by decide +kernel
theorem dX2_go_154 : decode cX2_go 154 = .ok (.ifCond .ge 23, 3) := by decide +kernel
theorem dX2_go_157 : decode cX2_go 157 = .ok (.aload_n 0, 1) := by decide +kernel
theorem dX2_go_158 : decode cX2_go 158 = .ok (.aload_n 0, 1) := by decide +kernel
theorem dX2_go_159 : decode cX2_go 159 = .ok (.getfield 34, 3) := by decide +kernel
theorem dX2_go_162 : decode cX2_go 162 = .ok (.ldc 126, 2) := by decide +kernel
theorem dX2_go_164 : decode cX2_go 164 = .ok (.ldc 127, 2) := by decide +kernel
theorem dX2_go_166 : decode cX2_go 166 = .ok (.aload_n 0, 1) := by decide +kernel
theorem dX2_go_167 : decode cX2_go 167 = .ok (.getfield 44, 3) := by decide +kernel
theorem dX2_go_170 : decode cX2_go 170 = .ok (.i2f, 1) := by decide +kernel
theorem dX2_go_171 : decode cX2_go 171 = .ok (.fmul, 1) := by decide +kernel
theorem dX2_go_172 : decode cX2_go 172 = .ok (.fadd, 1) := by decide +kernel
theorem dX2_go_173 : decode cX2_go 173 = .ok (.fadd, 1) := by decide +kernel
theorem dX2_go_174 : decode cX2_go 174 = .ok (.putfield 34, 3) := by decide +kernel
theorem dX2_go_177 : decode cX2_go 177 = .ok (.return_, 1) := by decide +kernel
set_option maxRecDepth 20000 in
set_option maxHeartbeats 4000000 in
theorem vX2_go_0 {l : Launch} {x : CX} {a0 : Nat} {x1 : Int32} {h : PH} {rc rs n0 : Nat} {Q : Option Value → PH → Prop} {X : String → PH → Prop}
    (K : ((hK h a0).1 = 2) ∧ ∀ (y5 : Int64), y5 = (if (hI h a0 4) ≤ 0 then (if 0 ≤ (hI h a0 4) then 0 else 12 : Int64) else 3 : Int64) → (((if (hI h a0 10) < (hI h a0 2) then 0 else 1 : Int32) = 0 → Gm l x mX2_go 0 77 [(0, .ref a0), (1, .int x1), (2, .int (if (hI h a0 10) < (hI h a0 2) then 0 else 1 : Int32)), (3, .long y5)] [] h rc rs n0 Q X) ∧ (¬ (if (hI h a0 10) < (hI h a0 2) then 0 else 1 : Int32) = 0 → (((lg_cmp ((lus (hL h a0 12) (4 * (hI h a0 3))) &&& y5) 0) = 0 → Gm l x mX2_go 0 77 [(0, .ref a0), (1, .int x1), (2, .int (if (hI h a0 10) < (hI h a0 2) then 0 else 1 : Int32)), (3, .long y5)] [] h rc rs n0 Q X) ∧ (¬ (lg_cmp ((lus (hL h a0 12) (4 * (hI h a0 3))) &&& y5) 0) = 0 → Gm l x mX2_go 0 77 [(0, .ref a0), (1, .int x1), (2, .int (if (hI h a0 10) < (hI h a0 2) then 0 else 1 : Int32)), (3, .long y5)] [] (sI h a0 8 ((hI h a0 8) + 1)) rc rs n0 Q X))))) :
    Gm l x mX2_go 0 0 [(0, .ref a0), (1, .int x1)] [] h rc rs n0 Q X := by
  refine g_aload_n dX2_go_0 rfl 0 rfl ?_
  obtain ⟨e1, K⟩ := K
  refine g_get (c := 2) (k := 10) (v := .int (hI h a0 10)) dX2_go_1 fc_2 (by decide) (by decide) bw_84 rfl e1 ?_
  refine g_aload_n dX2_go_4 rfl 0 rfl ?_
  refine g_get (c := 2) (k := 2) (v := .int (hI h a0 2)) dX2_go_5 fc_2 (by decide) (by decide) bw_59 rfl e1 ?_
  have KJ : Gm l x mX2_go 0 16 [(0, .ref a0), (1, .int x1)] [.int (if (hI h a0 10) < (hI h a0 2) then 0 else 1 : Int32)] h rc rs n0 Q X := by
    refine g_istore_n (lv' := [(0, .ref a0), (1, .int x1), (2, .int (if (hI h a0 10) < (hI h a0 2) then 0 else 1 : Int32))]) dX2_go_16 rfl (by decide) rfl ?_
    refine g_aload_n dX2_go_17 rfl 0 rfl ?_
    refine g_get (c := 2) (k := 4) (v := .int (hI h a0 4)) dX2_go_18 fc_2 (by decide) (by decide) bw_66 rfl e1 ?_
    have KJ : Gm l x mX2_go 0 44 [(0, .ref a0), (1, .int x1), (2, .int (if (hI h a0 10) < (hI h a0 2) then 0 else 1 : Int32))] [.long (if (hI h a0 4) ≤ 0 then (if 0 ≤ (hI h a0 4) then 0 else 12 : Int64) else 3 : Int64)] h rc rs n0 Q X := by
      refine g_nmJ (fun y5 e6 => ?_)
      replace K := K y5 e6
      refine g_lstore_n (lv' := [(0, .ref a0), (1, .int x1), (2, .int (if (hI h a0 10) < (hI h a0 2) then 0 else 1 : Int32)), (3, .long y5)]) dX2_go_44 rfl (by decide) rfl ?_
      refine g_iload_n dX2_go_45 rfl 2 rfl ?_
      refine g_if_eq (tgt := 77) dX2_go_46 (by decide) (fun c7 => ?_) (fun c7 => ?_)
      · replace K := K.1 c7
        exact K
      · replace K := K.2 c7
        refine g_aload_n dX2_go_49 rfl 0 rfl ?_
        refine g_get (c := 2) (k := 12) (v := .long (hL h a0 12)) dX2_go_50 fc_2 (by decide) (by decide) bw_86 rfl e1 ?_
        refine g_iconst (v := 4) dX2_go_53 (by decide) ?_
        refine g_aload_n dX2_go_54 rfl 0 rfl ?_
        refine g_get (c := 2) (k := 3) (v := .int (hI h a0 3)) dX2_go_55 fc_2 (by decide) (by decide) bw_62 rfl e1 ?_
        refine g_imul dX2_go_58 ?_
        refine g_lushr dX2_go_59 ?_
        refine g_lload_n dX2_go_60 rfl 3 rfl ?_
        refine g_land dX2_go_61 ?_
        refine g_lconst (v := 0) dX2_go_62 (by decide) ?_
        refine g_lcmp dX2_go_63 ?_
        refine g_if_eq (tgt := 77) dX2_go_64 (by decide) (fun c8 => ?_) (fun c8 => ?_)
        · replace K := K.1 c8
          exact K
        · replace K := K.2 c8
          refine g_aload_n dX2_go_67 rfl 0 rfl ?_
          refine g_dup dX2_go_68 rfl ?_
          refine g_get (c := 2) (k := 8) (v := .int (hI h a0 8)) dX2_go_69 fc_2 (by decide) (by decide) bw_79 rfl e1 ?_
          refine g_iconst (v := 1) dX2_go_72 (by decide) ?_
          refine g_iadd dX2_go_73 ?_
          refine g_puti (c := 2) (k := 8) dX2_go_74 fc_2 (by decide) (by decide) bw_79 (Or.inl rfl) rfl e1 ?_
          exact K
    refine g_if_le (tgt := 30) dX2_go_21 (by decide) (fun c3 => ?_) (fun c3 => ?_)
    · refine g_aload_n dX2_go_30 rfl 0 rfl ?_
      refine g_get (c := 2) (k := 4) (v := .int (hI h a0 4)) dX2_go_31 fc_2 (by decide) (by decide) bw_66 rfl e1 ?_
      refine g_if_ge (tgt := 43) dX2_go_34 (by decide) (fun c4 => ?_) (fun c4 => ?_)
      · refine g_lconst (v := 0) dX2_go_43 (by decide) ?_
        first | (simp only [if_pos c3, if_pos c4] at KJ; exact KJ) | (simp only [if_pos c3, if_pos c4, ite_true, ite_false, eq_self] at KJ; exact KJ) | (simp only [if_pos c3, if_pos c4] at KJ ⊢; exact KJ) | exact KJ
      · refine g_ldc2 (v := 12) dX2_go_37 bw_509 ?_
        refine g_goto (tgt := 44) dX2_go_40 (by decide) ?_
        first | (simp only [if_pos c3, if_neg c4] at KJ; exact KJ) | (simp only [if_pos c3, if_neg c4, ite_true, ite_false, eq_self] at KJ; exact KJ) | (simp only [if_pos c3, if_neg c4] at KJ ⊢; exact KJ) | exact KJ
    · refine g_ldc2 (v := 3) dX2_go_24 bw_508 ?_
      refine g_goto (tgt := 44) dX2_go_27 (by decide) ?_
      first | (simp only [if_neg c3] at KJ; exact KJ) | (simp only [if_neg c3, ite_true, ite_false, eq_self] at KJ; exact KJ) | (simp only [if_neg c3] at KJ ⊢; exact KJ) | exact KJ
  refine g_icmp_lt (tgt := 15) dX2_go_8 (by decide) (fun c2 => ?_) (fun c2 => ?_)
  · refine g_iconst (v := 0) dX2_go_15 (by decide) ?_
    first | (simp only [if_pos c2] at KJ; exact KJ) | (simp only [if_pos c2, ite_true, ite_false, eq_self] at KJ; exact KJ) | (simp only [if_pos c2] at KJ ⊢; exact KJ) | exact KJ
  · refine g_iconst (v := 1) dX2_go_11 (by decide) ?_
    refine g_goto (tgt := 16) dX2_go_12 (by decide) ?_
    first | (simp only [if_neg c2] at KJ; exact KJ) | (simp only [if_neg c2, ite_true, ite_false, eq_self] at KJ; exact KJ) | (simp only [if_neg c2] at KJ ⊢; exact KJ) | exact KJ
set_option maxRecDepth 20000 in
set_option maxHeartbeats 4000000 in
theorem vX2_go_77 {l : Launch} {x : CX} {a0 : Nat} {x1 : Int32} {x2 : Int32} {l3 : Int64} {h : PH} {rc rs n0 : Nat} {Q : Option Value → PH → Prop} {X : String → PH → Prop}
    (K : ((hK h a0).1 = 2) ∧ (((if (hI h a0 4) = 0 then (if x1 = (hI h a0 3) then (hI h a0 4) else (if x1 ≤ (hI h a0 3) then (-1) else 1 : Int32) : Int32) else (hI h a0 4) : Int32) ≤ 0 → ((0 ≤ (if (hI h a0 4) = 0 then (if x1 = (hI h a0 3) then (hI h a0 4) else (if x1 ≤ (hI h a0 3) then (-1) else 1 : Int32) : Int32) else (hI h a0 4) : Int32) → Q none (sI h a0 3 ((hI h a0 3) + (if (hI h a0 4) = 0 then (if x1 = (hI h a0 3) then (hI h a0 4) else (if x1 ≤ (hI h a0 3) then (-1) else 1 : Int32) : Int32) else (hI h a0 4) : Int32)))) ∧ (¬ 0 ≤ (if (hI h a0 4) = 0 then (if x1 = (hI h a0 3) then (hI h a0 4) else (if x1 ≤ (hI h a0 3) then (-1) else 1 : Int32) : Int32) else (hI h a0 4) : Int32) → (vf_n32 (FP.fmul 1036831949 (FP.i2f (hI h a0 10)))) ∧ (vf_n32 (FP.fadd 1045220557 (FP.fmul 1036831949 (FP.i2f (hI h a0 10))))) ∧ (vf_n32 (FP.fadd (hF h a0 7) (FP.fadd 1045220557 (FP.fmul 1036831949 (FP.i2f (hI h a0 10)))))) ∧ Q none (sF (sI h a0 3 ((hI h a0 3) + (if (hI h a0 4) = 0 then (if x1 = (hI h a0 3) then (hI h a0 4) else (if x1 ≤ (hI h a0 3) then (-1) else 1 : Int32) : Int32) else (hI h a0 4) : Int32))) a0 7 (FP.fadd (hF h a0 7) (FP.fadd 1045220557 (FP.fmul 1036831949 (FP.i2f (hI h a0 10))))))))) ∧ (¬ (if (hI h a0 4) = 0 then (if x1 = (hI h a0 3) then (hI h a0 4) else (if x1 ≤ (hI h a0 3) then (-1) else 1 : Int32) : Int32) else (hI h a0 4) : Int32) ≤ 0 → (vf_n32 (FP.fmul 1050253722 (FP.i2f (hI h a0 10)))) ∧ (vf_n32 (FP.fadd 1060320051 (FP.fmul 1050253722 (FP.i2f (hI h a0 10))))) ∧ (vf_n32 (FP.fadd (hF h a0 7) (FP.fadd 1060320051 (FP.fmul 1050253722 (FP.i2f (hI h a0 10)))))) ∧ Q none (sF (sI h a0 3 ((hI h a0 3) + (if (hI h a0 4) = 0 then (if x1 = (hI h a0 3) then (hI h a0 4) else (if x1 ≤ (hI h a0 3) then (-1) else 1 : Int32) : Int32) else (hI h a0 4) : Int32))) a0 7 (FP.fadd (hF h a0 7) (FP.fadd 1060320051 (FP.fmul 1050253722 (FP.i2f (hI h a0 10))))))))) :
    Gm l x mX2_go 0 77 [(0, .ref a0), (1, .int x1), (2, .int x2), (3, .long l3)] [] h rc rs n0 Q X := by
  refine g_aload_n dX2_go_77 rfl 0 rfl ?_
  obtain ⟨e1, K⟩ := K
  refine g_get (c := 2) (k := 4) (v := .int (hI h a0 4)) dX2_go_78 fc_2 (by decide) (by decide) bw_66 rfl e1 ?_
  refine g_istore (lv' := [(0, .ref a0), (1, .int x1), (2, .int x2), (3, .long l3), (5, .int (hI h a0 4))]) dX2_go_81 (by decide) rfl ?_
  refine g_aload_n dX2_go_83 rfl 0 rfl ?_
  refine g_get (c := 2) (k := 4) (v := .int (hI h a0 4)) dX2_go_84 fc_2 (by decide) (by decide) bw_66 rfl e1 ?_
  have KJ : Gm l x mX2_go 0 113 [(0, .ref a0), (1, .int x1), (2, .int x2), (3, .long l3), (5, .int (if (hI h a0 4) = 0 then (if x1 = (hI h a0 3) then (hI h a0 4) else (if x1 ≤ (hI h a0 3) then (-1) else 1 : Int32) : Int32) else (hI h a0 4) : Int32))] [] h rc rs n0 Q X := by
    refine g_aload_n dX2_go_113 rfl 0 rfl ?_
    refine g_dup dX2_go_114 rfl ?_
    refine g_get (c := 2) (k := 3) (v := .int (hI h a0 3)) dX2_go_115 fc_2 (by decide) (by decide) bw_62 rfl e1 ?_
    refine g_iload dX2_go_118 4 rfl ?_
    refine g_iadd dX2_go_120 ?_
    refine g_puti (c := 2) (k := 3) dX2_go_121 fc_2 (by decide) (by decide) bw_62 (Or.inl rfl) rfl e1 ?_
    refine g_iload dX2_go_124 4 rfl ?_
    refine g_if_le (tgt := 152) dX2_go_126 (by decide) (fun c5 => ?_) (fun c5 => ?_)
    · replace K := K.1 c5
      refine g_iload dX2_go_152 4 rfl ?_
      refine g_if_ge (tgt := 177) dX2_go_154 (by decide) (fun c6 => ?_) (fun c6 => ?_)
      · replace K := K.1 c6
        exact g_vret dX2_go_177 rfl K
      · replace K := K.2 c6
        refine g_aload_n dX2_go_157 rfl 0 rfl ?_
        refine g_aload_n dX2_go_158 rfl 0 rfl ?_
        refine g_get (c := 2) (k := 7) (v := .float (hF h a0 7)) dX2_go_159 fc_2 (by decide) (by decide) bw_76 (congrArg Value.float ((hF_sI _ _ _ _ _ _).trans rfl)) (kkI e1) ?_
        refine g_ldcf (v := 1045220557) dX2_go_162 bw_512 ?_
        refine g_ldcf (v := 1036831949) dX2_go_164 bw_513 ?_
        refine g_aload_n dX2_go_166 rfl 0 rfl ?_
        refine g_get (c := 2) (k := 10) (v := .int (hI h a0 10)) dX2_go_167 fc_2 (by decide) (by decide) bw_84 (congrArg Value.int ((skI (by decide)).trans rfl)) (kkI e1) ?_
        refine g_i2f dX2_go_170 ?_
        obtain ⟨e7, K⟩ := K
        refine g_fmul dX2_go_171 e7 ?_
        obtain ⟨e8, K⟩ := K
        refine g_fadd dX2_go_172 e8 ?_
        obtain ⟨e9, K⟩ := K
        refine g_fadd dX2_go_173 e9 ?_
        refine g_putf (c := 2) (k := 7) dX2_go_174 fc_2 (by decide) (by decide) bw_76 (Or.inl rfl) rfl (kkI e1) ?_
        exact g_vret dX2_go_177 rfl K
    · replace K := K.2 c5
      refine g_aload_n dX2_go_129 rfl 0 rfl ?_
      refine g_aload_n dX2_go_130 rfl 0 rfl ?_
      refine g_get (c := 2) (k := 7) (v := .float (hF h a0 7)) dX2_go_131 fc_2 (by decide) (by decide) bw_76 (congrArg Value.float ((hF_sI _ _ _ _ _ _).trans rfl)) (kkI e1) ?_
      refine g_ldcf (v := 1060320051) dX2_go_134 bw_510 ?_
      refine g_ldcf (v := 1050253722) dX2_go_136 bw_511 ?_
      refine g_aload_n dX2_go_138 rfl 0 rfl ?_
      refine g_get (c := 2) (k := 10) (v := .int (hI h a0 10)) dX2_go_139 fc_2 (by decide) (by decide) bw_84 (congrArg Value.int ((skI (by decide)).trans rfl)) (kkI e1) ?_
      refine g_i2f dX2_go_142 ?_
      obtain ⟨e10, K⟩ := K
      refine g_fmul dX2_go_143 e10 ?_
      obtain ⟨e11, K⟩ := K
      refine g_fadd dX2_go_144 e11 ?_
      obtain ⟨e12, K⟩ := K
      refine g_fadd dX2_go_145 e12 ?_
      refine g_putf (c := 2) (k := 7) dX2_go_146 fc_2 (by decide) (by decide) bw_76 (Or.inl rfl) rfl (kkI e1) ?_
      refine g_goto (tgt := 177) dX2_go_149 (by decide) ?_
      exact g_vret dX2_go_177 rfl K
  refine g_if_ne (tgt := 113) dX2_go_87 (by decide) (fun c2 => ?_) (fun c2 => ?_)
  · first | (simp only [if_neg c2] at KJ; exact KJ) | (simp only [if_neg c2, ite_true, ite_false, eq_self] at KJ; exact KJ) | (simp only [if_neg c2] at KJ ⊢; exact KJ) | exact KJ
  · refine g_iload_n dX2_go_90 rfl 1 rfl ?_
    refine g_aload_n dX2_go_91 rfl 0 rfl ?_
    refine g_get (c := 2) (k := 3) (v := .int (hI h a0 3)) dX2_go_92 fc_2 (by decide) (by decide) bw_62 rfl e1 ?_
    refine g_icmp_eq (tgt := 113) dX2_go_95 (by decide) (fun c3 => ?_) (fun c3 => ?_)
    · first | (simp only [if_pos c2, if_pos c3] at KJ; exact KJ) | (simp only [if_pos c2, if_pos c3, ite_true, ite_false, eq_self] at KJ; exact KJ) | (simp only [if_pos c2, if_pos c3] at KJ ⊢; exact KJ) | exact KJ
    · refine g_iload_n dX2_go_98 rfl 1 rfl ?_
      refine g_aload_n dX2_go_99 rfl 0 rfl ?_
      refine g_get (c := 2) (k := 3) (v := .int (hI h a0 3)) dX2_go_100 fc_2 (by decide) (by decide) bw_62 rfl e1 ?_
      refine g_icmp_le (tgt := 110) dX2_go_103 (by decide) (fun c4 => ?_) (fun c4 => ?_)
      · refine g_iconst (v := (-1)) dX2_go_110 (by decide) ?_
        refine g_istore (lv' := [(0, .ref a0), (1, .int x1), (2, .int x2), (3, .long l3), (5, .int (-1))]) dX2_go_111 (by decide) rfl ?_
        first | (simp only [if_pos c2, if_neg c3, if_pos c4] at KJ; exact KJ) | (simp only [if_pos c2, if_neg c3, if_pos c4, ite_true, ite_false, eq_self] at KJ; exact KJ) | (simp only [if_pos c2, if_neg c3, if_pos c4] at KJ ⊢; exact KJ) | exact KJ
      · refine g_iconst (v := 1) dX2_go_106 (by decide) ?_
        refine g_goto (tgt := 111) dX2_go_107 (by decide) ?_
        refine g_istore (lv' := [(0, .ref a0), (1, .int x1), (2, .int x2), (3, .long l3), (5, .int 1)]) dX2_go_111 (by decide) rfl ?_
        first | (simp only [if_pos c2, if_neg c3, if_neg c4] at KJ; exact KJ) | (simp only [if_pos c2, if_neg c3, if_neg c4, ite_true, ite_false, eq_self] at KJ; exact KJ) | (simp only [if_pos c2, if_neg c3, if_neg c4] at KJ ⊢; exact KJ) | exact KJ
theorem dX2_callsAnswered_0 : decode cX2_callsAnswered 0 = .ok (.aload_n 0, 1) := by decide +kernel
theorem dX2_callsAnswered_1 : decode cX2_callsAnswered 1 = .ok (.getfield 9, 3) := by decide +kernel
theorem dX2_callsAnswered_4 : decode cX2_callsAnswered 4 = .ok (.ifCond .ne 9, 3) := by decide +kernel
theorem dX2_callsAnswered_7 : decode cX2_callsAnswered 7 = .ok (.ldc2_w 98, 3) := by decide +kernel
theorem dX2_callsAnswered_10 : decode cX2_callsAnswered 10 = .ok (.goto 18, 3) := by decide +kernel
theorem dX2_callsAnswered_13 : decode cX2_callsAnswered 13 = .ok (.aload_n 0, 1) := by decide +kernel
theorem dX2_callsAnswered_14 : decode cX2_callsAnswered 14 = .ok (.getfield 9, 3) := by decide +kernel
theorem dX2_callsAnswered_17 : decode cX2_callsAnswered 17 = .ok (.iconst 1, 1) := by decide +kernel
theorem dX2_callsAnswered_18 : decode cX2_callsAnswered 18 = .ok (.if_icmp .ne 7, 3) := by decide +kernel
theorem dX2_callsAnswered_21 : decode cX2_callsAnswered 21 = .ok (.lconst 1, 1) := by decide +kernel
theorem dX2_callsAnswered_22 : decode cX2_callsAnswered 22 = .ok (.goto 6, 3) := by decide +kernel
theorem dX2_callsAnswered_25 : decode cX2_callsAnswered 25 = .ok (.ldc2_w 128, 3) := by decide +kernel
theorem dX2_callsAnswered_28 : decode cX2_callsAnswered 28 = .ok (.lstore_n 1, 1) := by decide +kernel
theorem dX2_callsAnswered_29 : decode cX2_callsAnswered 29 = .ok (.aload_n 0, 1) := by decide +kernel
theorem dX2_callsAnswered_30 : decode cX2_callsAnswered 30 = .ok (.getfield 24, 3) := by decide +kernel
theorem dX2_callsAnswered_33 : decode cX2_callsAnswered 33 = .ok (.ifCond .le 7, 3) := by decide +kernel
theorem dX2_callsAnswered_36 : decode cX2_callsAnswered 36 = .ok (.lload_n 1, 1) := by decide +kernel
theorem dX2_callsAnswered_37 : decode cX2_callsAnswered 37 = .ok (.goto 17, 3) := by decide +kernel
theorem dX2_callsAnswered_40 : decode cX2_callsAnswered 40 = .ok (.aload_n 0, 1) := by decide +kernel
theorem dX2_callsAnswered_41 : decode cX2_callsAnswered 41 = .ok (.getfield 24, 3) := by decide +kernel
theorem dX2_callsAnswered_44 : decode cX2_callsAnswered 44 = .ok (.ifCond .ge 9, 3) := by decide +kernel
theorem dX2_callsAnswered_47 : decode cX2_callsAnswered 47 = .ok (.lload_n 1, 1) := by decide +kernel
theorem dX2_callsAnswered_48 : decode cX2_callsAnswered 48 = .ok (.iconst 2, 1) := by decide +kernel
theorem dX2_callsAnswered_49 : decode cX2_callsAnswered 49 = .ok (.lshl, 1) := by decide +kernel
theorem dX2_callsAnswered_50 : decode cX2_callsAnswered 50 = .ok (.goto 4, 3) := by decide +kernel
theorem dX2_callsAnswered_53 : decode cX2_callsAnswered 53 = .ok (.lconst 0, 1) := by decide +kernel
theorem dX2_callsAnswered_54 : decode cX2_callsAnswered 54 = .ok (.lstore_n 3, 1) := by decide +kernel
theorem dX2_callsAnswered_55 : decode cX2_callsAnswered 55 = .ok (.lload_n 3, 1) := by decide +kernel
theorem dX2_callsAnswered_56 : decode cX2_callsAnswered 56 = .ok (.iconst 4, 1) := by decide +kernel
theorem dX2_callsAnswered_57 : decode cX2_callsAnswered 57 = .ok (.aload_n 0, 1) := by decide +kernel
theorem dX2_callsAnswered_58 : decode cX2_callsAnswered 58 = .ok (.getfield 21, 3) := by decide +kernel
theorem dX2_callsAnswered_61 : decode cX2_callsAnswered 61 = .ok (.imul, 1) := by decide +kernel
theorem dX2_callsAnswered_62 : decode cX2_callsAnswered 62 = .ok (.lshl, 1) := by decide +kernel
theorem dX2_callsAnswered_63 : decode cX2_callsAnswered 63 = .ok (.lreturn, 1) := by decide +kernel
set_option maxRecDepth 20000 in
set_option maxHeartbeats 4000000 in
theorem vX2_callsAnswered_0 {l : Launch} {x : CX} {a0 : Nat} {h : PH} {rc rs n0 : Nat} {Q : Option Value → PH → Prop} {X : String → PH → Prop}
    (K : ((hK h a0).1 = 2) ∧ ∀ (y4 : Int64), y4 = (if (hI h a0 0) = 0 then 3 else (if (hI h a0 0) = 1 then 1 else 2 : Int64) : Int64) → ∀ (y8 : Int64), y8 = (if (hI h a0 4) ≤ 0 then (if 0 ≤ (hI h a0 4) then 0 else (lsh y4 2) : Int64) else y4 : Int64) → Q (some (.long (lsh y8 (4 * (hI h a0 3))))) h) :
    Gm l x mX2_callsAnswered 0 0 [(0, .ref a0)] [] h rc rs n0 Q X := by
  refine g_aload_n dX2_callsAnswered_0 rfl 0 rfl ?_
  obtain ⟨e1, K⟩ := K
  refine g_get (c := 2) (k := 0) (v := .int (hI h a0 0)) dX2_callsAnswered_1 fc_2 (by decide) (by decide) bw_53 rfl e1 ?_
  have KJ : Gm l x mX2_callsAnswered 0 28 [(0, .ref a0)] [.long (if (hI h a0 0) = 0 then 3 else (if (hI h a0 0) = 1 then 1 else 2 : Int64) : Int64)] h rc rs n0 Q X := by
    refine g_nmJ (fun y4 e5 => ?_)
    replace K := K y4 e5
    refine g_lstore_n (lv' := [(0, .ref a0), (1, .long y4)]) dX2_callsAnswered_28 rfl (by decide) rfl ?_
    refine g_aload_n dX2_callsAnswered_29 rfl 0 rfl ?_
    refine g_get (c := 2) (k := 4) (v := .int (hI h a0 4)) dX2_callsAnswered_30 fc_2 (by decide) (by decide) bw_66 rfl e1 ?_
    have KJ : Gm l x mX2_callsAnswered 0 54 [(0, .ref a0), (1, .long y4)] [.long (if (hI h a0 4) ≤ 0 then (if 0 ≤ (hI h a0 4) then 0 else (lsh y4 2) : Int64) else y4 : Int64)] h rc rs n0 Q X := by
      refine g_nmJ (fun y8 e9 => ?_)
      replace K := K y8 e9
      refine g_lstore_n (lv' := [(0, .ref a0), (1, .long y4), (3, .long y8)]) dX2_callsAnswered_54 rfl (by decide) rfl ?_
      refine g_lload_n dX2_callsAnswered_55 rfl 2 rfl ?_
      refine g_iconst (v := 4) dX2_callsAnswered_56 (by decide) ?_
      refine g_aload_n dX2_callsAnswered_57 rfl 0 rfl ?_
      refine g_get (c := 2) (k := 3) (v := .int (hI h a0 3)) dX2_callsAnswered_58 fc_2 (by decide) (by decide) bw_62 rfl e1 ?_
      refine g_imul dX2_callsAnswered_61 ?_
      refine g_lshl dX2_callsAnswered_62 ?_
      exact g_lret dX2_callsAnswered_63 rfl K
    refine g_if_le (tgt := 40) dX2_callsAnswered_33 (by decide) (fun c6 => ?_) (fun c6 => ?_)
    · refine g_aload_n dX2_callsAnswered_40 rfl 0 rfl ?_
      refine g_get (c := 2) (k := 4) (v := .int (hI h a0 4)) dX2_callsAnswered_41 fc_2 (by decide) (by decide) bw_66 rfl e1 ?_
      refine g_if_ge (tgt := 53) dX2_callsAnswered_44 (by decide) (fun c7 => ?_) (fun c7 => ?_)
      · refine g_lconst (v := 0) dX2_callsAnswered_53 (by decide) ?_
        first | (simp only [if_pos c6, if_pos c7] at KJ; exact KJ) | (simp only [if_pos c6, if_pos c7, ite_true, ite_false, eq_self] at KJ; exact KJ) | (simp only [if_pos c6, if_pos c7] at KJ ⊢; exact KJ) | exact KJ
      · refine g_lload_n dX2_callsAnswered_47 rfl 1 rfl ?_
        refine g_iconst (v := 2) dX2_callsAnswered_48 (by decide) ?_
        refine g_lshl dX2_callsAnswered_49 ?_
        refine g_goto (tgt := 54) dX2_callsAnswered_50 (by decide) ?_
        first | (simp only [if_pos c6, if_neg c7] at KJ; exact KJ) | (simp only [if_pos c6, if_neg c7, ite_true, ite_false, eq_self] at KJ; exact KJ) | (simp only [if_pos c6, if_neg c7] at KJ ⊢; exact KJ) | exact KJ
    · refine g_lload_n dX2_callsAnswered_36 rfl 1 rfl ?_
      refine g_goto (tgt := 54) dX2_callsAnswered_37 (by decide) ?_
      first | (simp only [if_neg c6] at KJ; exact KJ) | (simp only [if_neg c6, ite_true, ite_false, eq_self] at KJ; exact KJ) | (simp only [if_neg c6] at KJ ⊢; exact KJ) | exact KJ
  refine g_if_ne (tgt := 13) dX2_callsAnswered_4 (by decide) (fun c2 => ?_) (fun c2 => ?_)
  · refine g_aload_n dX2_callsAnswered_13 rfl 0 rfl ?_
    refine g_get (c := 2) (k := 0) (v := .int (hI h a0 0)) dX2_callsAnswered_14 fc_2 (by decide) (by decide) bw_53 rfl e1 ?_
    refine g_iconst (v := 1) dX2_callsAnswered_17 (by decide) ?_
    refine g_icmp_ne (tgt := 25) dX2_callsAnswered_18 (by decide) (fun c3 => ?_) (fun c3 => ?_)
    · refine g_ldc2 (v := 2) dX2_callsAnswered_25 bw_604 ?_
      first | (simp only [if_neg c2, if_neg c3] at KJ; exact KJ) | (simp only [if_neg c2, if_neg c3, ite_true, ite_false, eq_self] at KJ; exact KJ) | (simp only [if_neg c2, if_neg c3] at KJ ⊢; exact KJ) | exact KJ
    · refine g_lconst (v := 1) dX2_callsAnswered_21 (by decide) ?_
      refine g_goto (tgt := 28) dX2_callsAnswered_22 (by decide) ?_
      first | (simp only [if_neg c2, if_pos c3] at KJ; exact KJ) | (simp only [if_neg c2, if_pos c3, ite_true, ite_false, eq_self] at KJ; exact KJ) | (simp only [if_neg c2, if_pos c3] at KJ ⊢; exact KJ) | exact KJ
  · refine g_ldc2 (v := 3) dX2_callsAnswered_7 bw_508 ?_
    refine g_goto (tgt := 28) dX2_callsAnswered_10 (by decide) ?_
    first | (simp only [if_pos c2] at KJ; exact KJ) | (simp only [if_pos c2, ite_true, ite_false, eq_self] at KJ; exact KJ) | (simp only [if_pos c2] at KJ ⊢; exact KJ) | exact KJ
theorem dX2_stopFloors_0 : decode cX2_stopFloors 0 = .ok (.aload_n 0, 1) := by decide +kernel
theorem dX2_stopFloors_1 : decode cX2_stopFloors 1 = .ok (.getfield 44, 3) := by decide +kernel
theorem dX2_stopFloors_4 : decode cX2_stopFloors 4 = .ok (.aload_n 0, 1) := by decide +kernel
theorem dX2_stopFloors_5 : decode cX2_stopFloors 5 = .ok (.getfield 18, 3) := by decide +kernel
theorem dX2_stopFloors_8 : decode cX2_stopFloors 8 = .ok (.if_icmp .ge 15, 3) := by decide +kernel
theorem dX2_stopFloors_11 : decode cX2_stopFloors 11 = .ok (.aload_n 0, 1) := by decide +kernel
theorem dX2_stopFloors_12 : decode cX2_stopFloors 12 = .ok (.getfield 47, 3) := by decide +kernel
theorem dX2_stopFloors_15 : decode cX2_stopFloors 15 = .ok (.aload_n 0, 1) := by decide +kernel
theorem dX2_stopFloors_16 : decode cX2_stopFloors 16 = .ok (.getfield 51, 3) := by decide +kernel
theorem dX2_stopFloors_19 : decode cX2_stopFloors 19 = .ok (.lor, 1) := by decide +kernel
theorem dX2_stopFloors_20 : decode cX2_stopFloors 20 = .ok (.goto 7, 3) := by decide +kernel
theorem dX2_stopFloors_23 : decode cX2_stopFloors 23 = .ok (.aload_n 0, 1) := by decide +kernel
theorem dX2_stopFloors_24 : decode cX2_stopFloors 24 = .ok (.getfield 47, 3) := by decide +kernel
theorem dX2_stopFloors_27 : decode cX2_stopFloors 27 = .ok (.lstore_n 2, 1) := by decide +kernel
theorem dX2_stopFloors_28 : decode cX2_stopFloors 28 = .ok (.iconst 0, 1) := by decide +kernel
theorem dX2_stopFloors_29 : decode cX2_stopFloors 29 = .ok (.istore 4, 2) := by decide +kernel
theorem dX2_stopFloors_31 : decode cX2_stopFloors 31 = .ok (.iconst 0, 1) := by decide +kernel
theorem dX2_stopFloors_32 : decode cX2_stopFloors 32 = .ok (.istore 5, 2) := by decide +kernel
theorem dX2_stopFloors_34 : decode cX2_stopFloors 34 = .ok (.iload 5, 2) := by decide +kernel
theorem dX2_stopFloors_36 : decode cX2_stopFloors 36 = .ok (.iload_n 1, 1) := by decide +kernel
theorem dX2_stopFloors_37 : decode cX2_stopFloors 37 = .ok (.if_icmp .ge 33, 3) := by decide +kernel
theorem dX2_stopFloors_40 : decode cX2_stopFloors 40 = .ok (.lload_n 2, 1) := by decide +kernel
theorem dX2_stopFloors_41 : decode cX2_stopFloors 41 = .ok (.iconst 4, 1) := by decide +kernel
theorem dX2_stopFloors_42 : decode cX2_stopFloors 42 = .ok (.iload 5, 2) := by decide +kernel
theorem dX2_stopFloors_44 : decode cX2_stopFloors 44 = .ok (.imul, 1) := by decide +kernel
theorem dX2_stopFloors_45 : decode cX2_stopFloors 45 = .ok (.lushr, 1) := by decide +kernel
theorem dX2_stopFloors_46 : decode cX2_stopFloors 46 = .ok (.ldc2_w 96, 3) := by decide +kernel
theorem dX2_stopFloors_49 : decode cX2_stopFloors 49 = .ok (.land, 1) := by decide +kernel
theorem dX2_stopFloors_50 : decode cX2_stopFloors 50 = .ok (.lconst 0, 1) := by decide +kernel
theorem dX2_stopFloors_51 : decode cX2_stopFloors 51 = .ok (.lcmp, 1) := by decide +kernel
theorem dX2_stopFloors_52 : decode cX2_stopFloors 52 = .ok (.ifCond .eq 12, 3) := by decide +kernel
theorem dX2_stopFloors_55 : decode cX2_stopFloors 55 = .ok (.iload 4, 2) := by decide +kernel
theorem dX2_stopFloors_57 : decode cX2_stopFloors 57 = .ok (.iconst 1, 1) := by decide +kernel
theorem dX2_stopFloors_58 : decode cX2_stopFloors 58 = .ok (.iload 5, 2) := by decide +kernel
theorem dX2_stopFloors_60 : decode cX2_stopFloors 60 = .ok (.ishl, 1) := by decide +kernel
theorem dX2_stopFloors_61 : decode cX2_stopFloors 61 = .ok (.ior, 1) := by decide +kernel
theorem dX2_stopFloors_62 : decode cX2_stopFloors 62 = .ok (.istore 4, 2) := by decide +kernel
theorem dX2_stopFloors_64 : decode cX2_stopFloors 64 = .ok (.iinc 5 1, 3) := by decide +kernel
theorem dX2_stopFloors_67 : decode cX2_stopFloors 67 = .ok (.goto (-33), 3) := by decide +kernel
theorem dX2_stopFloors_70 : decode cX2_stopFloors 70 = .ok (.iload 4, 2) := by decide +kernel
theorem dX2_stopFloors_72 : decode cX2_stopFloors 72 = .ok (.ireturn, 1) := by decide +kernel
set_option maxRecDepth 20000 in
set_option maxHeartbeats 4000000 in
theorem vX2_stopFloors_0 {l : Launch} {x : CX} {a0 : Nat} {x1 : Int32} {h : PH} {rc rs n0 : Nat} {Q : Option Value → PH → Prop} {X : String → PH → Prop}
    (K : ((hK h a0).1 = 2) ∧ ∀ (y3 : Int64), y3 = (if (hI h a0 2) ≤ (hI h a0 10) then (hL h a0 11) else ((hL h a0 11) ||| (hL h a0 12)) : Int64) → Gm l x mX2_stopFloors 0 34 [(0, .ref a0), (1, .int x1), (2, .long y3), (4, .int 0), (5, .int 0)] [] h rc rs n0 Q X) :
    Gm l x mX2_stopFloors 0 0 [(0, .ref a0), (1, .int x1)] [] h rc rs n0 Q X := by
  refine g_aload_n dX2_stopFloors_0 rfl 0 rfl ?_
  obtain ⟨e1, K⟩ := K
  refine g_get (c := 2) (k := 10) (v := .int (hI h a0 10)) dX2_stopFloors_1 fc_2 (by decide) (by decide) bw_84 rfl e1 ?_
  refine g_aload_n dX2_stopFloors_4 rfl 0 rfl ?_
  refine g_get (c := 2) (k := 2) (v := .int (hI h a0 2)) dX2_stopFloors_5 fc_2 (by decide) (by decide) bw_59 rfl e1 ?_
  have KJ : Gm l x mX2_stopFloors 0 27 [(0, .ref a0), (1, .int x1)] [.long (if (hI h a0 2) ≤ (hI h a0 10) then (hL h a0 11) else ((hL h a0 11) ||| (hL h a0 12)) : Int64)] h rc rs n0 Q X := by
    refine g_nmJ (fun y3 e4 => ?_)
    replace K := K y3 e4
    refine g_lstore_n (lv' := [(0, .ref a0), (1, .int x1), (2, .long y3)]) dX2_stopFloors_27 rfl (by decide) rfl ?_
    refine g_iconst (v := 0) dX2_stopFloors_28 (by decide) ?_
    refine g_istore (lv' := [(0, .ref a0), (1, .int x1), (2, .long y3), (4, .int 0)]) dX2_stopFloors_29 (by decide) rfl ?_
    refine g_iconst (v := 0) dX2_stopFloors_31 (by decide) ?_
    refine g_istore (lv' := [(0, .ref a0), (1, .int x1), (2, .long y3), (4, .int 0), (5, .int 0)]) dX2_stopFloors_32 (by decide) rfl ?_
    exact K
  refine g_icmp_ge (tgt := 23) dX2_stopFloors_8 (by decide) (fun c2 => ?_) (fun c2 => ?_)
  · refine g_aload_n dX2_stopFloors_23 rfl 0 rfl ?_
    refine g_get (c := 2) (k := 11) (v := .long (hL h a0 11)) dX2_stopFloors_24 fc_2 (by decide) (by decide) bw_85 rfl e1 ?_
    first | (simp only [if_pos c2] at KJ; exact KJ) | (simp only [if_pos c2, ite_true, ite_false, eq_self] at KJ; exact KJ) | (simp only [if_pos c2] at KJ ⊢; exact KJ) | exact KJ
  · refine g_aload_n dX2_stopFloors_11 rfl 0 rfl ?_
    refine g_get (c := 2) (k := 11) (v := .long (hL h a0 11)) dX2_stopFloors_12 fc_2 (by decide) (by decide) bw_85 rfl e1 ?_
    refine g_aload_n dX2_stopFloors_15 rfl 0 rfl ?_
    refine g_get (c := 2) (k := 12) (v := .long (hL h a0 12)) dX2_stopFloors_16 fc_2 (by decide) (by decide) bw_86 rfl e1 ?_
    refine g_lor dX2_stopFloors_19 ?_
    refine g_goto (tgt := 27) dX2_stopFloors_20 (by decide) ?_
    first | (simp only [if_neg c2] at KJ; exact KJ) | (simp only [if_neg c2, ite_true, ite_false, eq_self] at KJ; exact KJ) | (simp only [if_neg c2] at KJ ⊢; exact KJ) | exact KJ
set_option maxRecDepth 20000 in
set_option maxHeartbeats 4000000 in
theorem vX2_stopFloors_34 {l : Launch} {x : CX} {a0 : Nat} {x1 : Int32} {l2 : Int64} {x4 : Int32} {x5 : Int32} {h : PH} {rc rs n0 : Nat} {Q : Option Value → PH → Prop} {X : String → PH → Prop}
    (K : ((x1 ≤ x5 → Q (some (.int x4)) h) ∧ (¬ x1 ≤ x5 → Gm l x mX2_stopFloors 0 34 [(0, .ref a0), (1, .int x1), (2, .long l2), (4, .int (if (lg_cmp ((lus l2 (4 * x5)) &&& 15) 0) = 0 then x4 else (x4 ||| (1 <<< ((x5 : Int32) &&& 31))) : Int32)), (5, .int (x5 + 1))] [] h rc rs n0 Q X))) :
    Gm l x mX2_stopFloors 0 34 [(0, .ref a0), (1, .int x1), (2, .long l2), (4, .int x4), (5, .int x5)] [] h rc rs n0 Q X := by
  refine g_iload dX2_stopFloors_34 4 rfl ?_
  refine g_iload_n dX2_stopFloors_36 rfl 1 rfl ?_
  refine g_icmp_ge (tgt := 70) dX2_stopFloors_37 (by decide) (fun c1 => ?_) (fun c1 => ?_)
  · replace K := K.1 c1
    refine g_iload dX2_stopFloors_70 3 rfl ?_
    exact g_iret dX2_stopFloors_72 rfl K
  · replace K := K.2 c1
    refine g_lload_n dX2_stopFloors_40 rfl 2 rfl ?_
    refine g_iconst (v := 4) dX2_stopFloors_41 (by decide) ?_
    refine g_iload dX2_stopFloors_42 4 rfl ?_
    refine g_imul dX2_stopFloors_44 ?_
    refine g_lushr dX2_stopFloors_45 ?_
    refine g_ldc2 (v := 15) dX2_stopFloors_46 bw_568 ?_
    refine g_land dX2_stopFloors_49 ?_
    refine g_lconst (v := 0) dX2_stopFloors_50 (by decide) ?_
    refine g_lcmp dX2_stopFloors_51 ?_
    have KJ : Gm l x mX2_stopFloors 0 64 [(0, .ref a0), (1, .int x1), (2, .long l2), (4, .int (if (lg_cmp ((lus l2 (4 * x5)) &&& 15) 0) = 0 then x4 else (x4 ||| (1 <<< ((x5 : Int32) &&& 31))) : Int32)), (5, .int x5)] [] h rc rs n0 Q X := by
      refine g_iinc (v := (x5 + 1)) (lv' := [(0, .ref a0), (1, .int x1), (2, .long l2), (4, .int (if (lg_cmp ((lus l2 (4 * x5)) &&& 15) 0) = 0 then x4 else (x4 ||| (1 <<< ((x5 : Int32) &&& 31))) : Int32)), (5, .int (x5 + 1))]) dX2_stopFloors_64 4 rfl (by rfl) (by decide) rfl ?_
      refine g_goto (tgt := 34) dX2_stopFloors_67 (by decide) ?_
      exact K
    refine g_if_eq (tgt := 64) dX2_stopFloors_52 (by decide) (fun c2 => ?_) (fun c2 => ?_)
    · first | (simp only [if_pos c2] at KJ; exact KJ) | (simp only [if_pos c2, ite_true, ite_false, eq_self] at KJ; exact KJ) | (simp only [if_pos c2] at KJ ⊢; exact KJ) | exact KJ
    · refine g_iload dX2_stopFloors_55 3 rfl ?_
      refine g_iconst (v := 1) dX2_stopFloors_57 (by decide) ?_
      refine g_iload dX2_stopFloors_58 4 rfl ?_
      refine g_ishl dX2_stopFloors_60 ?_
      refine g_ior dX2_stopFloors_61 ?_
      refine g_istore (lv' := [(0, .ref a0), (1, .int x1), (2, .long l2), (4, .int (x4 ||| (1 <<< ((x5 : Int32) &&& 31)))), (5, .int x5)]) dX2_stopFloors_62 (by decide) rfl ?_
      first | (simp only [if_neg c2] at KJ; exact KJ) | (simp only [if_neg c2, ite_true, ite_false, eq_self] at KJ; exact KJ) | (simp only [if_neg c2] at KJ ⊢; exact KJ) | exact KJ
theorem dX2_init_0 : decode cX2_init 0 = .ok (.aload_n 0, 1) := by decide +kernel
theorem dX2_init_1 : decode cX2_init 1 = .ok (.invokespecial 3, 3) := by decide +kernel
theorem dX2_init_4 : decode cX2_init 4 = .ok (.aload_n 0, 1) := by decide +kernel
theorem dX2_init_5 : decode cX2_init 5 = .ok (.iconst 0, 1) := by decide +kernel
theorem dX2_init_6 : decode cX2_init 6 = .ok (.putfield 9, 3) := by decide +kernel
theorem dX2_init_9 : decode cX2_init 9 = .ok (.aload_n 0, 1) := by decide +kernel
theorem dX2_init_10 : decode cX2_init 10 = .ok (.iconst 0, 1) := by decide +kernel
theorem dX2_init_11 : decode cX2_init 11 = .ok (.putfield 15, 3) := by decide +kernel
theorem dX2_init_14 : decode cX2_init 14 = .ok (.aload_n 0, 1) := by decide +kernel
theorem dX2_init_15 : decode cX2_init 15 = .ok (.iconst 1, 1) := by decide +kernel
theorem dX2_init_16 : decode cX2_init 16 = .ok (.putfield 18, 3) := by decide +kernel
theorem dX2_init_19 : decode cX2_init 19 = .ok (.aload_n 0, 1) := by decide +kernel
theorem dX2_init_20 : decode cX2_init 20 = .ok (.iconst 0, 1) := by decide +kernel
theorem dX2_init_21 : decode cX2_init 21 = .ok (.putfield 21, 3) := by decide +kernel
theorem dX2_init_24 : decode cX2_init 24 = .ok (.aload_n 0, 1) := by decide +kernel
theorem dX2_init_25 : decode cX2_init 25 = .ok (.iconst 0, 1) := by decide +kernel
theorem dX2_init_26 : decode cX2_init 26 = .ok (.putfield 24, 3) := by decide +kernel
theorem dX2_init_29 : decode cX2_init 29 = .ok (.aload_n 0, 1) := by decide +kernel
theorem dX2_init_30 : decode cX2_init 30 = .ok (.iconst 0, 1) := by decide +kernel
theorem dX2_init_31 : decode cX2_init 31 = .ok (.putfield 27, 3) := by decide +kernel
theorem dX2_init_34 : decode cX2_init 34 = .ok (.aload_n 0, 1) := by decide +kernel
theorem dX2_init_35 : decode cX2_init 35 = .ok (.iconst 1, 1) := by decide +kernel
theorem dX2_init_36 : decode cX2_init 36 = .ok (.putfield 30, 3) := by decide +kernel
theorem dX2_init_39 : decode cX2_init 39 = .ok (.aload_n 0, 1) := by decide +kernel
theorem dX2_init_40 : decode cX2_init 40 = .ok (.fconst 0, 1) := by decide +kernel
theorem dX2_init_41 : decode cX2_init 41 = .ok (.putfield 34, 3) := by decide +kernel
theorem dX2_init_44 : decode cX2_init 44 = .ok (.aload_n 0, 1) := by decide +kernel
theorem dX2_init_45 : decode cX2_init 45 = .ok (.iconst 0, 1) := by decide +kernel
theorem dX2_init_46 : decode cX2_init 46 = .ok (.putfield 38, 3) := by decide +kernel
theorem dX2_init_49 : decode cX2_init 49 = .ok (.aload_n 0, 1) := by decide +kernel
theorem dX2_init_50 : decode cX2_init 50 = .ok (.iconst 0, 1) := by decide +kernel
theorem dX2_init_51 : decode cX2_init 51 = .ok (.putfield 41, 3) := by decide +kernel
theorem dX2_init_54 : decode cX2_init 54 = .ok (.aload_n 0, 1) := by decide +kernel
theorem dX2_init_55 : decode cX2_init 55 = .ok (.iconst 0, 1) := by decide +kernel
theorem dX2_init_56 : decode cX2_init 56 = .ok (.putfield 44, 3) := by decide +kernel
theorem dX2_init_59 : decode cX2_init 59 = .ok (.aload_n 0, 1) := by decide +kernel
theorem dX2_init_60 : decode cX2_init 60 = .ok (.lconst 0, 1) := by decide +kernel
theorem dX2_init_61 : decode cX2_init 61 = .ok (.putfield 47, 3) := by decide +kernel
theorem dX2_init_64 : decode cX2_init 64 = .ok (.aload_n 0, 1) := by decide +kernel
theorem dX2_init_65 : decode cX2_init 65 = .ok (.lconst 0, 1) := by decide +kernel
theorem dX2_init_66 : decode cX2_init 66 = .ok (.putfield 51, 3) := by decide +kernel
theorem dX2_init_69 : decode cX2_init 69 = .ok (.aload_n 0, 1) := by decide +kernel
theorem dX2_init_70 : decode cX2_init 70 = .ok (.iconst 0, 1) := by decide +kernel
theorem dX2_init_71 : decode cX2_init 71 = .ok (.putfield 54, 3) := by decide +kernel
theorem dX2_init_74 : decode cX2_init 74 = .ok (.aload_n 0, 1) := by decide +kernel
theorem dX2_init_75 : decode cX2_init 75 = .ok (.iconst 0, 1) := by decide +kernel
theorem dX2_init_76 : decode cX2_init 76 = .ok (.putfield 57, 3) := by decide +kernel
theorem dX2_init_79 : decode cX2_init 79 = .ok (.return_, 1) := by decide +kernel
set_option maxRecDepth 20000 in
set_option maxHeartbeats 4000000 in
theorem vX2_init_0 {l : Launch} {x : CX} {a0 : Nat} {h : PH} {rc rs n0 : Nat} {Q : Option Value → PH → Prop} {X : String → PH → Prop}
    (K : ((hK h a0).1 = 2) ∧ Q none (sI (sI (sL (sL (sI (sI (sI (sF (sI (sI (sI (sI (sI (sI (sI h a0 0 0) a0 1 0) a0 2 1) a0 3 0) a0 4 0) a0 5 0) a0 6 1) a0 7 FP.fconst0) a0 8 0) a0 9 0) a0 10 0) a0 11 0) a0 12 0) a0 13 0) a0 14 0)) :
    Gm l x mX2_init 1 0 [(0, .ref a0)] [] h rc rs n0 Q X := by
  refine g_aload_n dX2_init_0 rfl 0 rfl ?_
  refine g_objInit dX2_init_1 bw_52 bw_30 bw_31 (by decide) (Nat.le_of_ble_eq_true rfl) ?_
  refine g_aload_n dX2_init_4 rfl 0 rfl ?_
  refine g_iconst (v := 0) dX2_init_5 (by decide) ?_
  obtain ⟨e1, K⟩ := K
  refine g_puti (c := 2) (k := 0) dX2_init_6 fc_2 (by decide) (by decide) bw_53 (Or.inl rfl) rfl e1 ?_
  refine g_aload_n dX2_init_9 rfl 0 rfl ?_
  refine g_iconst (v := 0) dX2_init_10 (by decide) ?_
  refine g_puti (c := 2) (k := 1) dX2_init_11 fc_2 (by decide) (by decide) bw_55 (Or.inl rfl) rfl (kkI e1) ?_
  refine g_aload_n dX2_init_14 rfl 0 rfl ?_
  refine g_iconst (v := 1) dX2_init_15 (by decide) ?_
  refine g_puti (c := 2) (k := 2) dX2_init_16 fc_2 (by decide) (by decide) bw_59 (Or.inl rfl) rfl (kkI (kkI e1)) ?_
  refine g_aload_n dX2_init_19 rfl 0 rfl ?_
  refine g_iconst (v := 0) dX2_init_20 (by decide) ?_
  refine g_puti (c := 2) (k := 3) dX2_init_21 fc_2 (by decide) (by decide) bw_62 (Or.inl rfl) rfl (kkI (kkI (kkI e1))) ?_
  refine g_aload_n dX2_init_24 rfl 0 rfl ?_
  refine g_iconst (v := 0) dX2_init_25 (by decide) ?_
  refine g_puti (c := 2) (k := 4) dX2_init_26 fc_2 (by decide) (by decide) bw_66 (Or.inl rfl) rfl (kkI (kkI (kkI (kkI e1)))) ?_
  refine g_aload_n dX2_init_29 rfl 0 rfl ?_
  refine g_iconst (v := 0) dX2_init_30 (by decide) ?_
  refine g_puti (c := 2) (k := 5) dX2_init_31 fc_2 (by decide) (by decide) bw_69 (Or.inl rfl) rfl (kkI (kkI (kkI (kkI (kkI e1))))) ?_
  refine g_aload_n dX2_init_34 rfl 0 rfl ?_
  refine g_iconst (v := 1) dX2_init_35 (by decide) ?_
  refine g_putz (c := 2) (k := 6) dX2_init_36 fc_2 (by decide) (by decide) bw_72 (Or.inl rfl) rfl (by decide) (kkI (kkI (kkI (kkI (kkI (kkI e1)))))) ?_
  refine g_aload_n dX2_init_39 rfl 0 rfl ?_
  refine g_fconst0 dX2_init_40 ?_
  refine g_putf (c := 2) (k := 7) dX2_init_41 fc_2 (by decide) (by decide) bw_76 (Or.inl rfl) rfl (kkI (kkI (kkI (kkI (kkI (kkI (kkI e1))))))) ?_
  refine g_aload_n dX2_init_44 rfl 0 rfl ?_
  refine g_iconst (v := 0) dX2_init_45 (by decide) ?_
  refine g_puti (c := 2) (k := 8) dX2_init_46 fc_2 (by decide) (by decide) bw_79 (Or.inl rfl) rfl (kkF (kkI (kkI (kkI (kkI (kkI (kkI (kkI e1)))))))) ?_
  refine g_aload_n dX2_init_49 rfl 0 rfl ?_
  refine g_iconst (v := 0) dX2_init_50 (by decide) ?_
  refine g_puti (c := 2) (k := 9) dX2_init_51 fc_2 (by decide) (by decide) bw_81 (Or.inl rfl) rfl (kkI (kkF (kkI (kkI (kkI (kkI (kkI (kkI (kkI e1))))))))) ?_
  refine g_aload_n dX2_init_54 rfl 0 rfl ?_
  refine g_iconst (v := 0) dX2_init_55 (by decide) ?_
  refine g_puti (c := 2) (k := 10) dX2_init_56 fc_2 (by decide) (by decide) bw_84 (Or.inl rfl) rfl (kkI (kkI (kkF (kkI (kkI (kkI (kkI (kkI (kkI (kkI e1)))))))))) ?_
  refine g_aload_n dX2_init_59 rfl 0 rfl ?_
  refine g_lconst (v := 0) dX2_init_60 (by decide) ?_
  refine g_putl (c := 2) (k := 11) dX2_init_61 fc_2 (by decide) (by decide) bw_85 (Or.inl rfl) rfl (kkI (kkI (kkI (kkF (kkI (kkI (kkI (kkI (kkI (kkI (kkI e1))))))))))) ?_
  refine g_aload_n dX2_init_64 rfl 0 rfl ?_
  refine g_lconst (v := 0) dX2_init_65 (by decide) ?_
  refine g_putl (c := 2) (k := 12) dX2_init_66 fc_2 (by decide) (by decide) bw_86 (Or.inl rfl) rfl (kkL (kkI (kkI (kkI (kkF (kkI (kkI (kkI (kkI (kkI (kkI (kkI e1)))))))))))) ?_
  refine g_aload_n dX2_init_69 rfl 0 rfl ?_
  refine g_iconst (v := 0) dX2_init_70 (by decide) ?_
  refine g_puti (c := 2) (k := 13) dX2_init_71 fc_2 (by decide) (by decide) bw_88 (Or.inl rfl) rfl (kkL (kkL (kkI (kkI (kkI (kkF (kkI (kkI (kkI (kkI (kkI (kkI (kkI e1))))))))))))) ?_
  refine g_aload_n dX2_init_74 rfl 0 rfl ?_
  refine g_iconst (v := 0) dX2_init_75 (by decide) ?_
  refine g_puti (c := 2) (k := 14) dX2_init_76 fc_2 (by decide) (by decide) bw_90 (Or.inl rfl) rfl (kkI (kkL (kkL (kkI (kkI (kkI (kkF (kkI (kkI (kkI (kkI (kkI (kkI (kkI e1)))))))))))))) ?_
  exact g_vret dX2_init_79 rfl K
theorem dX2_tell_0 : decode cX2_tell 0 = .ok (.aload_n 0, 1) := by decide +kernel
theorem dX2_tell_1 : decode cX2_tell 1 = .ok (.iload_n 3, 1) := by decide +kernel
theorem dX2_tell_2 : decode cX2_tell 2 = .ok (.putfield 9, 3) := by decide +kernel
theorem dX2_tell_5 : decode cX2_tell 5 = .ok (.aload_n 0, 1) := by decide +kernel
theorem dX2_tell_6 : decode cX2_tell 6 = .ok (.iload_n 1, 1) := by decide +kernel
theorem dX2_tell_7 : decode cX2_tell 7 = .ok (.putfield 15, 3) := by decide +kernel
theorem dX2_tell_10 : decode cX2_tell 10 = .ok (.aload_n 0, 1) := by decide +kernel
theorem dX2_tell_11 : decode cX2_tell 11 = .ok (.iload_n 2, 1) := by decide +kernel
theorem dX2_tell_12 : decode cX2_tell 12 = .ok (.putfield 18, 3) := by decide +kernel
theorem dX2_tell_15 : decode cX2_tell 15 = .ok (.aload_n 0, 1) := by decide +kernel
theorem dX2_tell_16 : decode cX2_tell 16 = .ok (.iload_n 1, 1) := by decide +kernel
theorem dX2_tell_17 : decode cX2_tell 17 = .ok (.putfield 21, 3) := by decide +kernel
theorem dX2_tell_20 : decode cX2_tell 20 = .ok (.aload_n 0, 1) := by decide +kernel
theorem dX2_tell_21 : decode cX2_tell 21 = .ok (.iconst 0, 1) := by decide +kernel
theorem dX2_tell_22 : decode cX2_tell 22 = .ok (.putfield 24, 3) := by decide +kernel
theorem dX2_tell_25 : decode cX2_tell 25 = .ok (.aload_n 0, 1) := by decide +kernel
theorem dX2_tell_26 : decode cX2_tell 26 = .ok (.iconst 0, 1) := by decide +kernel
theorem dX2_tell_27 : decode cX2_tell 27 = .ok (.putfield 27, 3) := by decide +kernel
theorem dX2_tell_30 : decode cX2_tell 30 = .ok (.aload_n 0, 1) := by decide +kernel
theorem dX2_tell_31 : decode cX2_tell 31 = .ok (.iconst 1, 1) := by decide +kernel
theorem dX2_tell_32 : decode cX2_tell 32 = .ok (.putfield 30, 3) := by decide +kernel
theorem dX2_tell_35 : decode cX2_tell 35 = .ok (.aload_n 0, 1) := by decide +kernel
theorem dX2_tell_36 : decode cX2_tell 36 = .ok (.fconst 0, 1) := by decide +kernel
theorem dX2_tell_37 : decode cX2_tell 37 = .ok (.putfield 34, 3) := by decide +kernel
theorem dX2_tell_40 : decode cX2_tell 40 = .ok (.aload_n 0, 1) := by decide +kernel
theorem dX2_tell_41 : decode cX2_tell 41 = .ok (.iconst 0, 1) := by decide +kernel
theorem dX2_tell_42 : decode cX2_tell 42 = .ok (.putfield 38, 3) := by decide +kernel
theorem dX2_tell_45 : decode cX2_tell 45 = .ok (.aload_n 0, 1) := by decide +kernel
theorem dX2_tell_46 : decode cX2_tell 46 = .ok (.lconst 0, 1) := by decide +kernel
theorem dX2_tell_47 : decode cX2_tell 47 = .ok (.putfield 51, 3) := by decide +kernel
theorem dX2_tell_50 : decode cX2_tell 50 = .ok (.aload_n 0, 1) := by decide +kernel
theorem dX2_tell_51 : decode cX2_tell 51 = .ok (.invokevirtual 60, 3) := by decide +kernel
theorem dX2_tell_54 : decode cX2_tell 54 = .ok (.return_, 1) := by decide +kernel
set_option maxRecDepth 20000 in
set_option maxHeartbeats 4000000 in
theorem vX2_tell_0 {l : Launch} {x : CX} {a0 : Nat} {x1 : Int32} {x2 : Int32} {x3 : Int32} {h : PH} {rc rs n0 : Nat} {Q : Option Value → PH → Prop} {X : String → PH → Prop}
    (K : ((hK h a0).1 = 2) ∧ ∃ (q2 : PH → Prop), CV l x mX2_empty 0 0 0 [.ref a0] (sL (sI (sF (sI (sI (sI (sI (sI (sI (sI h a0 0 x3) a0 1 x1) a0 2 x2) a0 3 x1) a0 4 0) a0 5 0) a0 6 1) a0 7 FP.fconst0) a0 8 0) a0 12 0) q2 ∧ ∀ (h4 : PH), q2 h4 → Q none h4) :
    Gm l x mX2_tell 1 0 [(0, .ref a0), (1, .int x1), (2, .int x2), (3, .int x3)] [] h rc rs n0 Q X := by
  refine g_aload_n dX2_tell_0 rfl 0 rfl ?_
  refine g_iload_n dX2_tell_1 rfl 3 rfl ?_
  obtain ⟨e1, K⟩ := K
  refine g_puti (c := 2) (k := 0) dX2_tell_2 fc_2 (by decide) (by decide) bw_53 (Or.inl rfl) rfl e1 ?_
  refine g_aload_n dX2_tell_5 rfl 0 rfl ?_
  refine g_iload_n dX2_tell_6 rfl 1 rfl ?_
  refine g_puti (c := 2) (k := 1) dX2_tell_7 fc_2 (by decide) (by decide) bw_55 (Or.inl rfl) rfl (kkI e1) ?_
  refine g_aload_n dX2_tell_10 rfl 0 rfl ?_
  refine g_iload_n dX2_tell_11 rfl 2 rfl ?_
  refine g_puti (c := 2) (k := 2) dX2_tell_12 fc_2 (by decide) (by decide) bw_59 (Or.inl rfl) rfl (kkI (kkI e1)) ?_
  refine g_aload_n dX2_tell_15 rfl 0 rfl ?_
  refine g_iload_n dX2_tell_16 rfl 1 rfl ?_
  refine g_puti (c := 2) (k := 3) dX2_tell_17 fc_2 (by decide) (by decide) bw_62 (Or.inl rfl) rfl (kkI (kkI (kkI e1))) ?_
  refine g_aload_n dX2_tell_20 rfl 0 rfl ?_
  refine g_iconst (v := 0) dX2_tell_21 (by decide) ?_
  refine g_puti (c := 2) (k := 4) dX2_tell_22 fc_2 (by decide) (by decide) bw_66 (Or.inl rfl) rfl (kkI (kkI (kkI (kkI e1)))) ?_
  refine g_aload_n dX2_tell_25 rfl 0 rfl ?_
  refine g_iconst (v := 0) dX2_tell_26 (by decide) ?_
  refine g_puti (c := 2) (k := 5) dX2_tell_27 fc_2 (by decide) (by decide) bw_69 (Or.inl rfl) rfl (kkI (kkI (kkI (kkI (kkI e1))))) ?_
  refine g_aload_n dX2_tell_30 rfl 0 rfl ?_
  refine g_iconst (v := 1) dX2_tell_31 (by decide) ?_
  refine g_putz (c := 2) (k := 6) dX2_tell_32 fc_2 (by decide) (by decide) bw_72 (Or.inl rfl) rfl (by decide) (kkI (kkI (kkI (kkI (kkI (kkI e1)))))) ?_
  refine g_aload_n dX2_tell_35 rfl 0 rfl ?_
  refine g_fconst0 dX2_tell_36 ?_
  refine g_putf (c := 2) (k := 7) dX2_tell_37 fc_2 (by decide) (by decide) bw_76 (Or.inl rfl) rfl (kkI (kkI (kkI (kkI (kkI (kkI (kkI e1))))))) ?_
  refine g_aload_n dX2_tell_40 rfl 0 rfl ?_
  refine g_iconst (v := 0) dX2_tell_41 (by decide) ?_
  refine g_puti (c := 2) (k := 8) dX2_tell_42 fc_2 (by decide) (by decide) bw_79 (Or.inl rfl) rfl (kkF (kkI (kkI (kkI (kkI (kkI (kkI (kkI e1)))))))) ?_
  refine g_aload_n dX2_tell_45 rfl 0 rfl ?_
  refine g_lconst (v := 0) dX2_tell_46 (by decide) ?_
  refine g_putl (c := 2) (k := 12) dX2_tell_47 fc_2 (by decide) (by decide) bw_86 (Or.inl rfl) rfl (kkI (kkF (kkI (kkI (kkI (kkI (kkI (kkI (kkI e1))))))))) ?_
  refine g_aload_n dX2_tell_50 rfl 0 rfl ?_
  obtain ⟨q2, C3, K⟩ := K
  refine g_callV (M' := mX2_empty) (b := a0) (As := []) (rest := []) (rc' := rc) (rs' := rs) dX2_tell_51 bw_865 bw_523 bw_524 bw_4 bw_525 ⟨by decide +kernel, by decide +kernel, show (parseMethodDescriptor mX2_empty.1.desc).map (fun d => d.parameters.length) = some 0 by decide +kernel⟩ (by decide) (by decide) (Nat.le_of_ble_eq_true rfl) fc_2 (by decide) rfl (kkL (kkI (kkF (kkI (kkI (kkI (kkI (kkI (kkI (kkI e1)))))))))) C3 (Nat.le_of_eq (Nat.add_zero _)) (Nat.le_of_eq (Nat.add_zero _)) (fun _ _ h => h) ?_
  rintro _ h4 ⟨rfl, K1⟩ -
  replace K := K h4 K1
  show Gm l x mX2_tell 1 54 [(0, .ref a0), (1, .int x1), (2, .int x2), (3, .int x3)] [] h4 rc rs n0 Q X
  exact g_vret dX2_tell_54 rfl K
theorem dX2_move_0 : decode cX2_move 0 = .ok (.aload_n 0, 1) := by decide +kernel
theorem dX2_move_1 : decode cX2_move 1 = .ok (.getfield 27, 3) := by decide +kernel
theorem dX2_move_4 : decode cX2_move 4 = .ok (.ifCond .le 22, 3) := by decide +kernel
theorem dX2_move_7 : decode cX2_move 7 = .ok (.aload_n 0, 1) := by decide +kernel
theorem dX2_move_8 : decode cX2_move 8 = .ok (.dup, 1) := by decide +kernel
theorem dX2_move_9 : decode cX2_move 9 = .ok (.getfield 27, 3) := by decide +kernel
theorem dX2_move_12 : decode cX2_move 12 = .ok (.iconst 1, 1) := by decide +kernel
theorem dX2_move_13 : decode cX2_move 13 = .ok (.isub, 1) := by decide +kernel
theorem dX2_move_14 : decode cX2_move 14 = .ok (.putfield 27, 3) := by decide +kernel
theorem dX2_move_17 : decode cX2_move 17 = .ok (.aload_n 0, 1) := by decide +kernel
theorem dX2_move_18 : decode cX2_move 18 = .ok (.getfield 27, 3) := by decide +kernel
theorem dX2_move_21 : decode cX2_move 21 = .ok (.ifCond .le 5, 3) := by decide +kernel
theorem dX2_move_24 : decode cX2_move 24 = .ok (.iconst 0, 1) := by decide +kernel
theorem dX2_move_25 : decode cX2_move 25 = .ok (.ireturn, 1) := by decide +kernel
theorem dX2_move_26 : decode cX2_move 26 = .ok (.aload_n 0, 1) := by decide +kernel
theorem dX2_move_27 : decode cX2_move 27 = .ok (.aload_n 0, 1) := by decide +kernel
theorem dX2_move_28 : decode cX2_move 28 = .ok (.aload_n 0, 1) := by decide +kernel
theorem dX2_move_29 : decode cX2_move 29 = .ok (.getfield 24, 3) := by decide +kernel
theorem dX2_move_32 : decode cX2_move 32 = .ok (.invokevirtual 63, 3) := by decide +kernel
theorem dX2_move_35 : decode cX2_move 35 = .ok (.invokevirtual 67, 3) := by decide +kernel
theorem dX2_move_38 : decode cX2_move 38 = .ok (.ifCond .ne 28, 3) := by decide +kernel
theorem dX2_move_41 : decode cX2_move 41 = .ok (.aload_n 0, 1) := by decide +kernel
theorem dX2_move_42 : decode cX2_move 42 = .ok (.aload_n 0, 1) := by decide +kernel
theorem dX2_move_43 : decode cX2_move 43 = .ok (.aload_n 0, 1) := by decide +kernel
theorem dX2_move_44 : decode cX2_move 44 = .ok (.iconst 1, 1) := by decide +kernel
theorem dX2_move_45 : decode cX2_move 45 = .ok (.invokevirtual 63, 3) := by decide +kernel
theorem dX2_move_48 : decode cX2_move 48 = .ok (.aload_n 0, 1) := by decide +kernel
theorem dX2_move_49 : decode cX2_move 49 = .ok (.iconst (-1), 1) := by decide +kernel
theorem dX2_move_50 : decode cX2_move 50 = .ok (.invokevirtual 63, 3) := by decide +kernel
theorem dX2_move_53 : decode cX2_move 53 = .ok (.invokevirtual 71, 3) := by decide +kernel
theorem dX2_move_56 : decode cX2_move 56 = .ok (.putfield 24, 3) := by decide +kernel
theorem dX2_move_59 : decode cX2_move 59 = .ok (.aload_n 0, 1) := by decide +kernel
theorem dX2_move_60 : decode cX2_move 60 = .ok (.iload_n 2, 1) := by decide +kernel
theorem dX2_move_61 : decode cX2_move 61 = .ok (.invokevirtual 75, 3) := by decide +kernel
theorem dX2_move_64 : decode cX2_move 64 = .ok (.iconst 0, 1) := by decide +kernel
theorem dX2_move_65 : decode cX2_move 65 = .ok (.ireturn, 1) := by decide +kernel
theorem dX2_move_66 : decode cX2_move 66 = .ok (.aload_n 0, 1) := by decide +kernel
theorem dX2_move_67 : decode cX2_move 67 = .ok (.aload_n 1, 1) := by decide +kernel
theorem dX2_move_68 : decode cX2_move 68 = .ok (.invokevirtual 79, 3) := by decide +kernel
theorem dX2_move_71 : decode cX2_move 71 = .ok (.aload_n 0, 1) := by decide +kernel
theorem dX2_move_72 : decode cX2_move 72 = .ok (.aload_n 0, 1) := by decide +kernel
theorem dX2_move_73 : decode cX2_move 73 = .ok (.aload_n 0, 1) := by decide +kernel
theorem dX2_move_74 : decode cX2_move 74 = .ok (.getfield 24, 3) := by decide +kernel
theorem dX2_move_77 : decode cX2_move 77 = .ok (.invokevirtual 63, 3) := by decide +kernel
theorem dX2_move_80 : decode cX2_move 80 = .ok (.invokevirtual 83, 3) := by decide +kernel
theorem dX2_move_83 : decode cX2_move 83 = .ok (.istore_n 3, 1) := by decide +kernel
theorem dX2_move_84 : decode cX2_move 84 = .ok (.aload_n 0, 1) := by decide +kernel
theorem dX2_move_85 : decode cX2_move 85 = .ok (.iload_n 3, 1) := by decide +kernel
theorem dX2_move_86 : decode cX2_move 86 = .ok (.ifCond .eq 7, 3) := by decide +kernel
theorem dX2_move_89 : decode cX2_move 89 = .ok (.iload_n 3, 1) := by decide +kernel
theorem dX2_move_90 : decode cX2_move 90 = .ok (.goto 17, 3) := by decide +kernel
theorem dX2_move_93 : decode cX2_move 93 = .ok (.aload_n 0, 1) := by decide +kernel
theorem dX2_move_94 : decode cX2_move 94 = .ok (.aload_n 0, 1) := by decide +kernel
theorem dX2_move_95 : decode cX2_move 95 = .ok (.iconst 1, 1) := by decide +kernel
theorem dX2_move_96 : decode cX2_move 96 = .ok (.invokevirtual 63, 3) := by decide +kernel
theorem dX2_move_99 : decode cX2_move 99 = .ok (.aload_n 0, 1) := by decide +kernel
theorem dX2_move_100 : decode cX2_move 100 = .ok (.iconst (-1), 1) := by decide +kernel
theorem dX2_move_101 : decode cX2_move 101 = .ok (.invokevirtual 63, 3) := by decide +kernel
theorem dX2_move_104 : decode cX2_move 104 = .ok (.invokevirtual 71, 3) := by decide +kernel
theorem dX2_move_107 : decode cX2_move 107 = .ok (.putfield 24, 3) := by decide +kernel
theorem dX2_move_110 : decode cX2_move 110 = .ok (.aload_n 0, 1) := by decide +kernel
theorem dX2_move_111 : decode cX2_move 111 = .ok (.aload_n 1, 1) := by decide +kernel
theorem dX2_move_112 : decode cX2_move 112 = .ok (.invokevirtual 87, 3) := by decide +kernel
theorem dX2_move_115 : decode cX2_move 115 = .ok (.aload_n 0, 1) := by decide +kernel
theorem dX2_move_116 : decode cX2_move 116 = .ok (.aload_n 1, 1) := by decide +kernel
theorem dX2_move_117 : decode cX2_move 117 = .ok (.getfield 90, 3) := by decide +kernel
theorem dX2_move_120 : decode cX2_move 120 = .ok (.putfield 27, 3) := by decide +kernel
theorem dX2_move_123 : decode cX2_move 123 = .ok (.aload_n 0, 1) := by decide +kernel
theorem dX2_move_124 : decode cX2_move 124 = .ok (.aload_n 0, 1) := by decide +kernel
theorem dX2_move_125 : decode cX2_move 125 = .ok (.getfield 34, 3) := by decide +kernel
theorem dX2_move_128 : decode cX2_move 128 = .ok (.ldc 95, 2) := by decide +kernel
theorem dX2_move_130 : decode cX2_move 130 = .ok (.fadd, 1) := by decide +kernel
theorem dX2_move_131 : decode cX2_move 131 = .ok (.putfield 34, 3) := by decide +kernel
theorem dX2_move_134 : decode cX2_move 134 = .ok (.iconst 1, 1) := by decide +kernel
theorem dX2_move_135 : decode cX2_move 135 = .ok (.ireturn, 1) := by decide +kernel
set_option maxRecDepth 20000 in
set_option maxHeartbeats 4000000 in
theorem vX2_move_0 {l : Launch} {x : CX} {a0 : Nat} {a1 : Nat} {x2 : Int32} {h : PH} {rc rs n0 : Nat} {Q : Option Value → PH → Prop} {X : String → PH → Prop}
    (K : ((hK h a0).1 = 2) ∧ (((hI h a0 5) ≤ 0 → ∃ (q3 : Int32 → PH → Prop), CI l x mX2_hasStop 0 0 0 [.ref a0, .int (hI h a0 4)] h q3 ∧ ∀ (r6 : Int32) (h5 : PH), q3 r6 h5 → ((hK h5 a0).1 = 2) ∧ ∃ (q7 : Int32 → PH → Prop), CI l x mX2_opensHere 0 0 0 [.ref a0, .int r6] h5 q7 ∧ ∀ (r11 : Int32) (h10 : PH), q7 r11 h10 → ((¬ r11 = 0 → ((hK h10 a0).1 = 2) ∧ ∃ (q13 : PH → Prop), CV l x mX2_letOut 0 0 0 [.ref a0, .ref a1] h10 q13 ∧ ∀ (h16 : PH), q13 h16 → ((hK h16 a0).1 = 2) ∧ ∃ (q18 : Int32 → PH → Prop), CI l x mX2_hasStop 0 0 0 [.ref a0, .int (hI h16 a0 4)] h16 q18 ∧ ∀ (r21 : Int32) (h20 : PH), q18 r21 h20 → ((hK h20 a0).1 = 2) ∧ ∃ (q22 : Int32 → PH → Prop), CI l x mX2_calledWay 0 0 0 [.ref a0, .int r21] h20 q22 ∧ ∀ (r26 : Int32) (h25 : PH), q22 r26 h25 → ((r26 = 0 → ((hK h25 a0).1 = 2) ∧ ∃ (q28 : Int32 → PH → Prop), CI l x mX2_hasStop 0 0 0 [.ref a0, .int 1] h25 q28 ∧ ∀ (r32 : Int32) (h31 : PH), q28 r32 h31 → ((hK h31 a0).1 = 2) ∧ ∃ (q33 : Int32 → PH → Prop), CI l x mX2_hasStop 0 0 0 [.ref a0, .int (-1)] h31 q33 ∧ ∀ (r37 : Int32) (h36 : PH), q33 r37 h36 → ((hK h36 a0).1 = 2) ∧ ∃ (q38 : Int32 → PH → Prop), CI l x mX2_onward 0 0 0 [.ref a0, .int r32, .int r37] h36 q38 ∧ ∀ (r42 : Int32) (h41 : PH), q38 r42 h41 → ((hK h41 a0).1 = 2) ∧ ∃ (q44 : PH → Prop), CV l x mX2_takeIn 0 0 0 [.ref a0, .ref a1] (sI h41 a0 4 r42) q44 ∧ ∀ (h46 : PH), q44 h46 → ((hK h46 a1).1 = 1) ∧ ((hK h46 a0).1 = 2) ∧ (vf_n32 (FP.fadd (hF h46 a0 7) 1053609165)) ∧ ((1 : Int32) = 0 ∨ (1 : Int32) = 1) ∧ Q (some (.int 1)) (sF (sI h46 a0 5 (hI h46 a1 3)) a0 7 (FP.fadd (hF h46 a0 7) 1053609165))) ∧ (¬ r26 = 0 → ((hK h25 a0).1 = 2) ∧ ∃ (q51 : PH → Prop), CV l x mX2_takeIn 0 0 0 [.ref a0, .ref a1] (sI h25 a0 4 r26) q51 ∧ ∀ (h53 : PH), q51 h53 → ((hK h53 a1).1 = 1) ∧ ((hK h53 a0).1 = 2) ∧ (vf_n32 (FP.fadd (hF h53 a0 7) 1053609165)) ∧ ((1 : Int32) = 0 ∨ (1 : Int32) = 1) ∧ Q (some (.int 1)) (sF (sI h53 a0 5 (hI h53 a1 3)) a0 7 (FP.fadd (hF h53 a0 7) 1053609165))))) ∧ (r11 = 0 → ((hK h10 a0).1 = 2) ∧ ∃ (q57 : Int32 → PH → Prop), CI l x mX2_hasStop 0 0 0 [.ref a0, .int 1] h10 q57 ∧ ∀ (r61 : Int32) (h60 : PH), q57 r61 h60 → ((hK h60 a0).1 = 2) ∧ ∃ (q62 : Int32 → PH → Prop), CI l x mX2_hasStop 0 0 0 [.ref a0, .int (-1)] h60 q62 ∧ ∀ (r66 : Int32) (h65 : PH), q62 r66 h65 → ((hK h65 a0).1 = 2) ∧ ∃ (q67 : Int32 → PH → Prop), CI l x mX2_onward 0 0 0 [.ref a0, .int r61, .int r66] h65 q67 ∧ ∀ (r71 : Int32) (h70 : PH), q67 r71 h70 → ((hK h70 a0).1 = 2) ∧ ∃ (q73 : PH → Prop), CV l x mX2_go 0 0 0 [.ref a0, .int x2] (sI h70 a0 4 r71) q73 ∧ ∀ (h75 : PH), q73 h75 → ((0 : Int32) = 0 ∨ (0 : Int32) = 1) ∧ Q (some (.int 0)) h75))) ∧ (¬ (hI h a0 5) ≤ 0 → (((hI (sI h a0 5 ((hI h a0 5) - 1)) a0 5) ≤ 0 → ∃ (q77 : Int32 → PH → Prop), CI l x mX2_hasStop 0 0 0 [.ref a0, .int (hI h a0 4)] (sI h a0 5 ((hI h a0 5) - 1)) q77 ∧ ∀ (r80 : Int32) (h79 : PH), q77 r80 h79 → ((hK h79 a0).1 = 2) ∧ ∃ (q81 : Int32 → PH → Prop), CI l x mX2_opensHere 0 0 0 [.ref a0, .int r80] h79 q81 ∧ ∀ (r85 : Int32) (h84 : PH), q81 r85 h84 → ((¬ r85 = 0 → ((hK h84 a0).1 = 2) ∧ ∃ (q87 : PH → Prop), CV l x mX2_letOut 0 0 0 [.ref a0, .ref a1] h84 q87 ∧ ∀ (h90 : PH), q87 h90 → ((hK h90 a0).1 = 2) ∧ ∃ (q92 : Int32 → PH → Prop), CI l x mX2_hasStop 0 0 0 [.ref a0, .int (hI h90 a0 4)] h90 q92 ∧ ∀ (r95 : Int32) (h94 : PH), q92 r95 h94 → ((hK h94 a0).1 = 2) ∧ ∃ (q96 : Int32 → PH → Prop), CI l x mX2_calledWay 0 0 0 [.ref a0, .int r95] h94 q96 ∧ ∀ (r100 : Int32) (h99 : PH), q96 r100 h99 → ((r100 = 0 → ((hK h99 a0).1 = 2) ∧ ∃ (q102 : Int32 → PH → Prop), CI l x mX2_hasStop 0 0 0 [.ref a0, .int 1] h99 q102 ∧ ∀ (r106 : Int32) (h105 : PH), q102 r106 h105 → ((hK h105 a0).1 = 2) ∧ ∃ (q107 : Int32 → PH → Prop), CI l x mX2_hasStop 0 0 0 [.ref a0, .int (-1)] h105 q107 ∧ ∀ (r111 : Int32) (h110 : PH), q107 r111 h110 → ((hK h110 a0).1 = 2) ∧ ∃ (q112 : Int32 → PH → Prop), CI l x mX2_onward 0 0 0 [.ref a0, .int r106, .int r111] h110 q112 ∧ ∀ (r116 : Int32) (h115 : PH), q112 r116 h115 → ((hK h115 a0).1 = 2) ∧ ∃ (q118 : PH → Prop), CV l x mX2_takeIn 0 0 0 [.ref a0, .ref a1] (sI h115 a0 4 r116) q118 ∧ ∀ (h120 : PH), q118 h120 → ((hK h120 a1).1 = 1) ∧ ((hK h120 a0).1 = 2) ∧ (vf_n32 (FP.fadd (hF h120 a0 7) 1053609165)) ∧ ((1 : Int32) = 0 ∨ (1 : Int32) = 1) ∧ Q (some (.int 1)) (sF (sI h120 a0 5 (hI h120 a1 3)) a0 7 (FP.fadd (hF h120 a0 7) 1053609165))) ∧ (¬ r100 = 0 → ((hK h99 a0).1 = 2) ∧ ∃ (q125 : PH → Prop), CV l x mX2_takeIn 0 0 0 [.ref a0, .ref a1] (sI h99 a0 4 r100) q125 ∧ ∀ (h127 : PH), q125 h127 → ((hK h127 a1).1 = 1) ∧ ((hK h127 a0).1 = 2) ∧ (vf_n32 (FP.fadd (hF h127 a0 7) 1053609165)) ∧ ((1 : Int32) = 0 ∨ (1 : Int32) = 1) ∧ Q (some (.int 1)) (sF (sI h127 a0 5 (hI h127 a1 3)) a0 7 (FP.fadd (hF h127 a0 7) 1053609165))))) ∧ (r85 = 0 → ((hK h84 a0).1 = 2) ∧ ∃ (q131 : Int32 → PH → Prop), CI l x mX2_hasStop 0 0 0 [.ref a0, .int 1] h84 q131 ∧ ∀ (r135 : Int32) (h134 : PH), q131 r135 h134 → ((hK h134 a0).1 = 2) ∧ ∃ (q136 : Int32 → PH → Prop), CI l x mX2_hasStop 0 0 0 [.ref a0, .int (-1)] h134 q136 ∧ ∀ (r140 : Int32) (h139 : PH), q136 r140 h139 → ((hK h139 a0).1 = 2) ∧ ∃ (q141 : Int32 → PH → Prop), CI l x mX2_onward 0 0 0 [.ref a0, .int r135, .int r140] h139 q141 ∧ ∀ (r145 : Int32) (h144 : PH), q141 r145 h144 → ((hK h144 a0).1 = 2) ∧ ∃ (q147 : PH → Prop), CV l x mX2_go 0 0 0 [.ref a0, .int x2] (sI h144 a0 4 r145) q147 ∧ ∀ (h149 : PH), q147 h149 → ((0 : Int32) = 0 ∨ (0 : Int32) = 1) ∧ Q (some (.int 0)) h149))) ∧ (¬ (hI (sI h a0 5 ((hI h a0 5) - 1)) a0 5) ≤ 0 → ((0 : Int32) = 0 ∨ (0 : Int32) = 1) ∧ Q (some (.int 0)) (sI h a0 5 ((hI h a0 5) - 1))))))) :
    Gm l x mX2_move 1 0 [(0, .ref a0), (1, .ref a1), (2, .int x2)] [] h rc rs n0 Q X := by
  refine g_aload_n dX2_move_0 rfl 0 rfl ?_
  obtain ⟨e1, K⟩ := K
  refine g_get (c := 2) (k := 5) (v := .int (hI h a0 5)) dX2_move_1 fc_2 (by decide) (by decide) bw_69 rfl e1 ?_
  refine g_if_le (tgt := 26) dX2_move_4 (by decide) (fun c2 => ?_) (fun c2 => ?_)
  · replace K := K.1 c2
    refine g_aload_n dX2_move_26 rfl 0 rfl ?_
    refine g_aload_n dX2_move_27 rfl 0 rfl ?_
    refine g_aload_n dX2_move_28 rfl 0 rfl ?_
    refine g_get (c := 2) (k := 4) (v := .int (hI h a0 4)) dX2_move_29 fc_2 (by decide) (by decide) bw_66 rfl e1 ?_
    obtain ⟨q3, C4, K⟩ := K
    refine g_callV (M' := mX2_hasStop) (b := a0) (As := [.int (hI h a0 4)]) (rest := [.ref a0]) (rc' := rc) (rs' := rs) dX2_move_32 bw_560 bw_562 bs_11 bw_4 bw_563 ⟨by decide +kernel, by decide +kernel, show (parseMethodDescriptor mX2_hasStop.1.desc).map (fun d => d.parameters.length) = some 1 by decide +kernel⟩ (by decide) (by decide) (Nat.le_of_ble_eq_true rfl) fc_2 (by decide) rfl e1 C4 (Nat.le_of_eq (Nat.add_zero _)) (Nat.le_of_eq (Nat.add_zero _)) (fun _ _ h => h) ?_
    rintro _ h5 ⟨r6, rfl, K1⟩ -
    replace K := K r6 h5 K1
    show Gm l x mX2_move 1 35 [(0, .ref a0), (1, .ref a1), (2, .int x2)] [.int r6, .ref a0] h5 rc rs n0 Q X
    obtain ⟨e9, K⟩ := K
    obtain ⟨q7, C8, K⟩ := K
    refine g_callV (M' := mX2_opensHere) (b := a0) (As := [.int r6]) (rest := []) (rc' := rc) (rs' := rs) dX2_move_35 bw_564 bw_566 bs_12 bw_4 bw_567 ⟨by decide +kernel, by decide +kernel, show (parseMethodDescriptor mX2_opensHere.1.desc).map (fun d => d.parameters.length) = some 1 by decide +kernel⟩ (by decide) (by decide) (Nat.le_of_ble_eq_true rfl) fc_2 (by decide) rfl e9 C8 (Nat.le_of_eq (Nat.add_zero _)) (Nat.le_of_eq (Nat.add_zero _)) (fun _ _ h => h) ?_
    rintro _ h10 ⟨r11, rfl, K1⟩ -
    replace K := K r11 h10 K1
    show Gm l x mX2_move 1 38 [(0, .ref a0), (1, .ref a1), (2, .int x2)] [.int r11] h10 rc rs n0 Q X
    refine g_if_ne (tgt := 66) dX2_move_38 (by decide) (fun c12 => ?_) (fun c12 => ?_)
    · replace K := K.1 c12
      refine g_aload_n dX2_move_66 rfl 0 rfl ?_
      refine g_aload_n dX2_move_67 rfl 1 rfl ?_
      obtain ⟨e15, K⟩ := K
      obtain ⟨q13, C14, K⟩ := K
      refine g_callV (M' := mX2_letOut) (b := a0) (As := [.ref a1]) (rest := []) (rc' := rc) (rs' := rs) dX2_move_68 bw_574 bw_576 bs_14 bw_4 bw_577 ⟨by decide +kernel, by decide +kernel, show (parseMethodDescriptor mX2_letOut.1.desc).map (fun d => d.parameters.length) = some 1 by decide +kernel⟩ (by decide) (by decide) (Nat.le_of_ble_eq_true rfl) fc_2 (by decide) rfl e15 C14 (Nat.le_of_eq (Nat.add_zero _)) (Nat.le_of_eq (Nat.add_zero _)) (fun _ _ h => h) ?_
      rintro _ h16 ⟨rfl, K1⟩ -
      replace K := K h16 K1
      show Gm l x mX2_move 1 71 [(0, .ref a0), (1, .ref a1), (2, .int x2)] [] h16 rc rs n0 Q X
      refine g_aload_n dX2_move_71 rfl 0 rfl ?_
      refine g_aload_n dX2_move_72 rfl 0 rfl ?_
      refine g_aload_n dX2_move_73 rfl 0 rfl ?_
      obtain ⟨e17, K⟩ := K
      refine g_get (c := 2) (k := 4) (v := .int (hI h16 a0 4)) dX2_move_74 fc_2 (by decide) (by decide) bw_66 rfl e17 ?_
      obtain ⟨q18, C19, K⟩ := K
      refine g_callV (M' := mX2_hasStop) (b := a0) (As := [.int (hI h16 a0 4)]) (rest := [.ref a0]) (rc' := rc) (rs' := rs) dX2_move_77 bw_560 bw_562 bs_11 bw_4 bw_563 ⟨by decide +kernel, by decide +kernel, show (parseMethodDescriptor mX2_hasStop.1.desc).map (fun d => d.parameters.length) = some 1 by decide +kernel⟩ (by decide) (by decide) (Nat.le_of_ble_eq_true rfl) fc_2 (by decide) rfl e17 C19 (Nat.le_of_eq (Nat.add_zero _)) (Nat.le_of_eq (Nat.add_zero _)) (fun _ _ h => h) ?_
      rintro _ h20 ⟨r21, rfl, K1⟩ -
      replace K := K r21 h20 K1
      show Gm l x mX2_move 1 80 [(0, .ref a0), (1, .ref a1), (2, .int x2)] [.int r21, .ref a0] h20 rc rs n0 Q X
      obtain ⟨e24, K⟩ := K
      obtain ⟨q22, C23, K⟩ := K
      refine g_callV (M' := mX2_calledWay) (b := a0) (As := [.int r21]) (rest := []) (rc' := rc) (rs' := rs) dX2_move_80 bw_579 bw_581 bs_15 bw_4 bw_582 ⟨by decide +kernel, by decide +kernel, show (parseMethodDescriptor mX2_calledWay.1.desc).map (fun d => d.parameters.length) = some 1 by decide +kernel⟩ (by decide) (by decide) (Nat.le_of_ble_eq_true rfl) fc_2 (by decide) rfl e24 C23 (Nat.le_of_eq (Nat.add_zero _)) (Nat.le_of_eq (Nat.add_zero _)) (fun _ _ h => h) ?_
      rintro _ h25 ⟨r26, rfl, K1⟩ -
      replace K := K r26 h25 K1
      show Gm l x mX2_move 1 83 [(0, .ref a0), (1, .ref a1), (2, .int x2)] [.int r26] h25 rc rs n0 Q X
      refine g_istore_n (lv' := [(0, .ref a0), (1, .ref a1), (2, .int x2), (3, .int r26)]) dX2_move_83 rfl (by decide) rfl ?_
      refine g_aload_n dX2_move_84 rfl 0 rfl ?_
      refine g_iload_n dX2_move_85 rfl 3 rfl ?_
      refine g_if_eq (tgt := 93) dX2_move_86 (by decide) (fun c27 => ?_) (fun c27 => ?_)
      · replace K := K.1 c27
        refine g_aload_n dX2_move_93 rfl 0 rfl ?_
        refine g_aload_n dX2_move_94 rfl 0 rfl ?_
        refine g_iconst (v := 1) dX2_move_95 (by decide) ?_
        obtain ⟨e30, K⟩ := K
        obtain ⟨q28, C29, K⟩ := K
        refine g_callV (M' := mX2_hasStop) (b := a0) (As := [.int 1]) (rest := [.ref a0, .ref a0]) (rc' := rc) (rs' := rs) dX2_move_96 bw_560 bw_562 bs_11 bw_4 bw_563 ⟨by decide +kernel, by decide +kernel, show (parseMethodDescriptor mX2_hasStop.1.desc).map (fun d => d.parameters.length) = some 1 by decide +kernel⟩ (by decide) (by decide) (Nat.le_of_ble_eq_true rfl) fc_2 (by decide) rfl e30 C29 (Nat.le_of_eq (Nat.add_zero _)) (Nat.le_of_eq (Nat.add_zero _)) (fun _ _ h => h) ?_
        rintro _ h31 ⟨r32, rfl, K1⟩ -
        replace K := K r32 h31 K1
        show Gm l x mX2_move 1 99 [(0, .ref a0), (1, .ref a1), (2, .int x2), (3, .int r26)] [.int r32, .ref a0, .ref a0] h31 rc rs n0 Q X
        refine g_aload_n dX2_move_99 rfl 0 rfl ?_
        refine g_iconst (v := (-1)) dX2_move_100 (by decide) ?_
        obtain ⟨e35, K⟩ := K
        obtain ⟨q33, C34, K⟩ := K
        refine g_callV (M' := mX2_hasStop) (b := a0) (As := [.int (-1)]) (rest := [.int r32, .ref a0, .ref a0]) (rc' := rc) (rs' := rs) dX2_move_101 bw_560 bw_562 bs_11 bw_4 bw_563 ⟨by decide +kernel, by decide +kernel, show (parseMethodDescriptor mX2_hasStop.1.desc).map (fun d => d.parameters.length) = some 1 by decide +kernel⟩ (by decide) (by decide) (Nat.le_of_ble_eq_true rfl) fc_2 (by decide) rfl e35 C34 (Nat.le_of_eq (Nat.add_zero _)) (Nat.le_of_eq (Nat.add_zero _)) (fun _ _ h => h) ?_
        rintro _ h36 ⟨r37, rfl, K1⟩ -
        replace K := K r37 h36 K1
        show Gm l x mX2_move 1 104 [(0, .ref a0), (1, .ref a1), (2, .int x2), (3, .int r26)] [.int r37, .int r32, .ref a0, .ref a0] h36 rc rs n0 Q X
        obtain ⟨e40, K⟩ := K
        obtain ⟨q38, C39, K⟩ := K
        refine g_callV (M' := mX2_onward) (b := a0) (As := [.int r32, .int r37]) (rest := [.ref a0]) (rc' := rc) (rs' := rs) dX2_move_104 bw_569 bw_571 bs_13 bw_4 bw_572 ⟨by decide +kernel, by decide +kernel, show (parseMethodDescriptor mX2_onward.1.desc).map (fun d => d.parameters.length) = some 2 by decide +kernel⟩ (by decide) (by decide) (Nat.le_of_ble_eq_true rfl) fc_2 (by decide) rfl e40 C39 (Nat.le_of_eq (Nat.add_zero _)) (Nat.le_of_eq (Nat.add_zero _)) (fun _ _ h => h) ?_
        rintro _ h41 ⟨r42, rfl, K1⟩ -
        replace K := K r42 h41 K1
        show Gm l x mX2_move 1 107 [(0, .ref a0), (1, .ref a1), (2, .int x2), (3, .int r26)] [.int r42, .ref a0] h41 rc rs n0 Q X
        obtain ⟨e43, K⟩ := K
        refine g_puti (c := 2) (k := 4) dX2_move_107 fc_2 (by decide) (by decide) bw_66 (Or.inl rfl) rfl e43 ?_
        refine g_aload_n dX2_move_110 rfl 0 rfl ?_
        refine g_aload_n dX2_move_111 rfl 1 rfl ?_
        obtain ⟨q44, C45, K⟩ := K
        refine g_callV (M' := mX2_takeIn) (b := a0) (As := [.ref a1]) (rest := []) (rc' := rc) (rs' := rs) dX2_move_112 bw_583 bw_585 bs_16 bw_4 bw_586 ⟨by decide +kernel, by decide +kernel, show (parseMethodDescriptor mX2_takeIn.1.desc).map (fun d => d.parameters.length) = some 1 by decide +kernel⟩ (by decide) (by decide) (Nat.le_of_ble_eq_true rfl) fc_2 (by decide) rfl (kkI e43) C45 (Nat.le_of_eq (Nat.add_zero _)) (Nat.le_of_eq (Nat.add_zero _)) (fun _ _ h => h) ?_
        rintro _ h46 ⟨rfl, K1⟩ -
        replace K := K h46 K1
        show Gm l x mX2_move 1 115 [(0, .ref a0), (1, .ref a1), (2, .int x2), (3, .int r26)] [] h46 rc rs n0 Q X
        refine g_aload_n dX2_move_115 rfl 0 rfl ?_
        refine g_aload_n dX2_move_116 rfl 1 rfl ?_
        obtain ⟨e47, K⟩ := K
        refine g_get (c := 1) (k := 3) (v := .int (hI h46 a1 3)) dX2_move_117 fc_1 (by decide) (by decide) bw_199 rfl e47 ?_
        obtain ⟨e48, K⟩ := K
        refine g_puti (c := 2) (k := 5) dX2_move_120 fc_2 (by decide) (by decide) bw_69 (Or.inl rfl) rfl e48 ?_
        refine g_aload_n dX2_move_123 rfl 0 rfl ?_
        refine g_aload_n dX2_move_124 rfl 0 rfl ?_
        refine g_get (c := 2) (k := 7) (v := .float (hF h46 a0 7)) dX2_move_125 fc_2 (by decide) (by decide) bw_76 (congrArg Value.float ((hF_sI _ _ _ _ _ _).trans rfl)) (kkI e48) ?_
        refine g_ldcf (v := 1053609165) dX2_move_128 bw_587 ?_
        obtain ⟨e49, K⟩ := K
        refine g_fadd dX2_move_130 e49 ?_
        refine g_putf (c := 2) (k := 7) dX2_move_131 fc_2 (by decide) (by decide) bw_76 (Or.inl rfl) rfl (kkI e48) ?_
        refine g_iconst (v := 1) dX2_move_134 (by decide) ?_
        exact g_zret dX2_move_135 rfl K.1 K.2
      · replace K := K.2 c27
        refine g_iload_n dX2_move_89 rfl 3 rfl ?_
        refine g_goto (tgt := 107) dX2_move_90 (by decide) ?_
        obtain ⟨e50, K⟩ := K
        refine g_puti (c := 2) (k := 4) dX2_move_107 fc_2 (by decide) (by decide) bw_66 (Or.inl rfl) rfl e50 ?_
        refine g_aload_n dX2_move_110 rfl 0 rfl ?_
        refine g_aload_n dX2_move_111 rfl 1 rfl ?_
        obtain ⟨q51, C52, K⟩ := K
        refine g_callV (M' := mX2_takeIn) (b := a0) (As := [.ref a1]) (rest := []) (rc' := rc) (rs' := rs) dX2_move_112 bw_583 bw_585 bs_16 bw_4 bw_586 ⟨by decide +kernel, by decide +kernel, show (parseMethodDescriptor mX2_takeIn.1.desc).map (fun d => d.parameters.length) = some 1 by decide +kernel⟩ (by decide) (by decide) (Nat.le_of_ble_eq_true rfl) fc_2 (by decide) rfl (kkI e50) C52 (Nat.le_of_eq (Nat.add_zero _)) (Nat.le_of_eq (Nat.add_zero _)) (fun _ _ h => h) ?_
        rintro _ h53 ⟨rfl, K1⟩ -
        replace K := K h53 K1
        show Gm l x mX2_move 1 115 [(0, .ref a0), (1, .ref a1), (2, .int x2), (3, .int r26)] [] h53 rc rs n0 Q X
        refine g_aload_n dX2_move_115 rfl 0 rfl ?_
        refine g_aload_n dX2_move_116 rfl 1 rfl ?_
        obtain ⟨e54, K⟩ := K
        refine g_get (c := 1) (k := 3) (v := .int (hI h53 a1 3)) dX2_move_117 fc_1 (by decide) (by decide) bw_199 rfl e54 ?_
        obtain ⟨e55, K⟩ := K
        refine g_puti (c := 2) (k := 5) dX2_move_120 fc_2 (by decide) (by decide) bw_69 (Or.inl rfl) rfl e55 ?_
        refine g_aload_n dX2_move_123 rfl 0 rfl ?_
        refine g_aload_n dX2_move_124 rfl 0 rfl ?_
        refine g_get (c := 2) (k := 7) (v := .float (hF h53 a0 7)) dX2_move_125 fc_2 (by decide) (by decide) bw_76 (congrArg Value.float ((hF_sI _ _ _ _ _ _).trans rfl)) (kkI e55) ?_
        refine g_ldcf (v := 1053609165) dX2_move_128 bw_587 ?_
        obtain ⟨e56, K⟩ := K
        refine g_fadd dX2_move_130 e56 ?_
        refine g_putf (c := 2) (k := 7) dX2_move_131 fc_2 (by decide) (by decide) bw_76 (Or.inl rfl) rfl (kkI e55) ?_
        refine g_iconst (v := 1) dX2_move_134 (by decide) ?_
        exact g_zret dX2_move_135 rfl K.1 K.2
    · replace K := K.2 c12
      refine g_aload_n dX2_move_41 rfl 0 rfl ?_
      refine g_aload_n dX2_move_42 rfl 0 rfl ?_
      refine g_aload_n dX2_move_43 rfl 0 rfl ?_
      refine g_iconst (v := 1) dX2_move_44 (by decide) ?_
      obtain ⟨e59, K⟩ := K
      obtain ⟨q57, C58, K⟩ := K
      refine g_callV (M' := mX2_hasStop) (b := a0) (As := [.int 1]) (rest := [.ref a0, .ref a0]) (rc' := rc) (rs' := rs) dX2_move_45 bw_560 bw_562 bs_11 bw_4 bw_563 ⟨by decide +kernel, by decide +kernel, show (parseMethodDescriptor mX2_hasStop.1.desc).map (fun d => d.parameters.length) = some 1 by decide +kernel⟩ (by decide) (by decide) (Nat.le_of_ble_eq_true rfl) fc_2 (by decide) rfl e59 C58 (Nat.le_of_eq (Nat.add_zero _)) (Nat.le_of_eq (Nat.add_zero _)) (fun _ _ h => h) ?_
      rintro _ h60 ⟨r61, rfl, K1⟩ -
      replace K := K r61 h60 K1
      show Gm l x mX2_move 1 48 [(0, .ref a0), (1, .ref a1), (2, .int x2)] [.int r61, .ref a0, .ref a0] h60 rc rs n0 Q X
      refine g_aload_n dX2_move_48 rfl 0 rfl ?_
      refine g_iconst (v := (-1)) dX2_move_49 (by decide) ?_
      obtain ⟨e64, K⟩ := K
      obtain ⟨q62, C63, K⟩ := K
      refine g_callV (M' := mX2_hasStop) (b := a0) (As := [.int (-1)]) (rest := [.int r61, .ref a0, .ref a0]) (rc' := rc) (rs' := rs) dX2_move_50 bw_560 bw_562 bs_11 bw_4 bw_563 ⟨by decide +kernel, by decide +kernel, show (parseMethodDescriptor mX2_hasStop.1.desc).map (fun d => d.parameters.length) = some 1 by decide +kernel⟩ (by decide) (by decide) (Nat.le_of_ble_eq_true rfl) fc_2 (by decide) rfl e64 C63 (Nat.le_of_eq (Nat.add_zero _)) (Nat.le_of_eq (Nat.add_zero _)) (fun _ _ h => h) ?_
      rintro _ h65 ⟨r66, rfl, K1⟩ -
      replace K := K r66 h65 K1
      show Gm l x mX2_move 1 53 [(0, .ref a0), (1, .ref a1), (2, .int x2)] [.int r66, .int r61, .ref a0, .ref a0] h65 rc rs n0 Q X
      obtain ⟨e69, K⟩ := K
      obtain ⟨q67, C68, K⟩ := K
      refine g_callV (M' := mX2_onward) (b := a0) (As := [.int r61, .int r66]) (rest := [.ref a0]) (rc' := rc) (rs' := rs) dX2_move_53 bw_569 bw_571 bs_13 bw_4 bw_572 ⟨by decide +kernel, by decide +kernel, show (parseMethodDescriptor mX2_onward.1.desc).map (fun d => d.parameters.length) = some 2 by decide +kernel⟩ (by decide) (by decide) (Nat.le_of_ble_eq_true rfl) fc_2 (by decide) rfl e69 C68 (Nat.le_of_eq (Nat.add_zero _)) (Nat.le_of_eq (Nat.add_zero _)) (fun _ _ h => h) ?_
      rintro _ h70 ⟨r71, rfl, K1⟩ -
      replace K := K r71 h70 K1
      show Gm l x mX2_move 1 56 [(0, .ref a0), (1, .ref a1), (2, .int x2)] [.int r71, .ref a0] h70 rc rs n0 Q X
      obtain ⟨e72, K⟩ := K
      refine g_puti (c := 2) (k := 4) dX2_move_56 fc_2 (by decide) (by decide) bw_66 (Or.inl rfl) rfl e72 ?_
      refine g_aload_n dX2_move_59 rfl 0 rfl ?_
      refine g_iload_n dX2_move_60 rfl 2 rfl ?_
      obtain ⟨q73, C74, K⟩ := K
      refine g_callV (M' := mX2_go) (b := a0) (As := [.int x2]) (rest := []) (rc' := rc) (rs' := rs) dX2_move_61 bw_573 bw_505 bw_506 bw_4 bw_507 ⟨by decide +kernel, by decide +kernel, show (parseMethodDescriptor mX2_go.1.desc).map (fun d => d.parameters.length) = some 1 by decide +kernel⟩ (by decide) (by decide) (Nat.le_of_ble_eq_true rfl) fc_2 (by decide) rfl (kkI e72) C74 (Nat.le_of_eq (Nat.add_zero _)) (Nat.le_of_eq (Nat.add_zero _)) (fun _ _ h => h) ?_
      rintro _ h75 ⟨rfl, K1⟩ -
      replace K := K h75 K1
      show Gm l x mX2_move 1 64 [(0, .ref a0), (1, .ref a1), (2, .int x2)] [] h75 rc rs n0 Q X
      refine g_iconst (v := 0) dX2_move_64 (by decide) ?_
      exact g_zret dX2_move_65 rfl K.1 K.2
  · replace K := K.2 c2
    refine g_aload_n dX2_move_7 rfl 0 rfl ?_
    refine g_dup dX2_move_8 rfl ?_
    refine g_get (c := 2) (k := 5) (v := .int (hI h a0 5)) dX2_move_9 fc_2 (by decide) (by decide) bw_69 rfl e1 ?_
    refine g_iconst (v := 1) dX2_move_12 (by decide) ?_
    refine g_isub dX2_move_13 ?_
    refine g_puti (c := 2) (k := 5) dX2_move_14 fc_2 (by decide) (by decide) bw_69 (Or.inl rfl) rfl e1 ?_
    refine g_aload_n dX2_move_17 rfl 0 rfl ?_
    refine g_get (c := 2) (k := 5) (v := .int (hI (sI h a0 5 ((hI h a0 5) - 1)) a0 5)) dX2_move_18 fc_2 (by decide) (by decide) bw_69 rfl (kkI e1) ?_
    refine g_if_le (tgt := 26) dX2_move_21 (by decide) (fun c76 => ?_) (fun c76 => ?_)
    · replace K := K.1 c76
      refine g_aload_n dX2_move_26 rfl 0 rfl ?_
      refine g_aload_n dX2_move_27 rfl 0 rfl ?_
      refine g_aload_n dX2_move_28 rfl 0 rfl ?_
      refine g_get (c := 2) (k := 4) (v := .int (hI h a0 4)) dX2_move_29 fc_2 (by decide) (by decide) bw_66 (congrArg Value.int ((skI (by decide)).trans rfl)) (kkI e1) ?_
      obtain ⟨q77, C78, K⟩ := K
      refine g_callV (M' := mX2_hasStop) (b := a0) (As := [.int (hI h a0 4)]) (rest := [.ref a0]) (rc' := rc) (rs' := rs) dX2_move_32 bw_560 bw_562 bs_11 bw_4 bw_563 ⟨by decide +kernel, by decide +kernel, show (parseMethodDescriptor mX2_hasStop.1.desc).map (fun d => d.parameters.length) = some 1 by decide +kernel⟩ (by decide) (by decide) (Nat.le_of_ble_eq_true rfl) fc_2 (by decide) rfl (kkI e1) C78 (Nat.le_of_eq (Nat.add_zero _)) (Nat.le_of_eq (Nat.add_zero _)) (fun _ _ h => h) ?_
      rintro _ h79 ⟨r80, rfl, K1⟩ -
      replace K := K r80 h79 K1
      show Gm l x mX2_move 1 35 [(0, .ref a0), (1, .ref a1), (2, .int x2)] [.int r80, .ref a0] h79 rc rs n0 Q X
      obtain ⟨e83, K⟩ := K
      obtain ⟨q81, C82, K⟩ := K
      refine g_callV (M' := mX2_opensHere) (b := a0) (As := [.int r80]) (rest := []) (rc' := rc) (rs' := rs) dX2_move_35 bw_564 bw_566 bs_12 bw_4 bw_567 ⟨by decide +kernel, by decide +kernel, show (parseMethodDescriptor mX2_opensHere.1.desc).map (fun d => d.parameters.length) = some 1 by decide +kernel⟩ (by decide) (by decide) (Nat.le_of_ble_eq_true rfl) fc_2 (by decide) rfl e83 C82 (Nat.le_of_eq (Nat.add_zero _)) (Nat.le_of_eq (Nat.add_zero _)) (fun _ _ h => h) ?_
      rintro _ h84 ⟨r85, rfl, K1⟩ -
      replace K := K r85 h84 K1
      show Gm l x mX2_move 1 38 [(0, .ref a0), (1, .ref a1), (2, .int x2)] [.int r85] h84 rc rs n0 Q X
      refine g_if_ne (tgt := 66) dX2_move_38 (by decide) (fun c86 => ?_) (fun c86 => ?_)
      · replace K := K.1 c86
        refine g_aload_n dX2_move_66 rfl 0 rfl ?_
        refine g_aload_n dX2_move_67 rfl 1 rfl ?_
        obtain ⟨e89, K⟩ := K
        obtain ⟨q87, C88, K⟩ := K
        refine g_callV (M' := mX2_letOut) (b := a0) (As := [.ref a1]) (rest := []) (rc' := rc) (rs' := rs) dX2_move_68 bw_574 bw_576 bs_14 bw_4 bw_577 ⟨by decide +kernel, by decide +kernel, show (parseMethodDescriptor mX2_letOut.1.desc).map (fun d => d.parameters.length) = some 1 by decide +kernel⟩ (by decide) (by decide) (Nat.le_of_ble_eq_true rfl) fc_2 (by decide) rfl e89 C88 (Nat.le_of_eq (Nat.add_zero _)) (Nat.le_of_eq (Nat.add_zero _)) (fun _ _ h => h) ?_
        rintro _ h90 ⟨rfl, K1⟩ -
        replace K := K h90 K1
        show Gm l x mX2_move 1 71 [(0, .ref a0), (1, .ref a1), (2, .int x2)] [] h90 rc rs n0 Q X
        refine g_aload_n dX2_move_71 rfl 0 rfl ?_
        refine g_aload_n dX2_move_72 rfl 0 rfl ?_
        refine g_aload_n dX2_move_73 rfl 0 rfl ?_
        obtain ⟨e91, K⟩ := K
        refine g_get (c := 2) (k := 4) (v := .int (hI h90 a0 4)) dX2_move_74 fc_2 (by decide) (by decide) bw_66 rfl e91 ?_
        obtain ⟨q92, C93, K⟩ := K
        refine g_callV (M' := mX2_hasStop) (b := a0) (As := [.int (hI h90 a0 4)]) (rest := [.ref a0]) (rc' := rc) (rs' := rs) dX2_move_77 bw_560 bw_562 bs_11 bw_4 bw_563 ⟨by decide +kernel, by decide +kernel, show (parseMethodDescriptor mX2_hasStop.1.desc).map (fun d => d.parameters.length) = some 1 by decide +kernel⟩ (by decide) (by decide) (Nat.le_of_ble_eq_true rfl) fc_2 (by decide) rfl e91 C93 (Nat.le_of_eq (Nat.add_zero _)) (Nat.le_of_eq (Nat.add_zero _)) (fun _ _ h => h) ?_
        rintro _ h94 ⟨r95, rfl, K1⟩ -
        replace K := K r95 h94 K1
        show Gm l x mX2_move 1 80 [(0, .ref a0), (1, .ref a1), (2, .int x2)] [.int r95, .ref a0] h94 rc rs n0 Q X
        obtain ⟨e98, K⟩ := K
        obtain ⟨q96, C97, K⟩ := K
        refine g_callV (M' := mX2_calledWay) (b := a0) (As := [.int r95]) (rest := []) (rc' := rc) (rs' := rs) dX2_move_80 bw_579 bw_581 bs_15 bw_4 bw_582 ⟨by decide +kernel, by decide +kernel, show (parseMethodDescriptor mX2_calledWay.1.desc).map (fun d => d.parameters.length) = some 1 by decide +kernel⟩ (by decide) (by decide) (Nat.le_of_ble_eq_true rfl) fc_2 (by decide) rfl e98 C97 (Nat.le_of_eq (Nat.add_zero _)) (Nat.le_of_eq (Nat.add_zero _)) (fun _ _ h => h) ?_
        rintro _ h99 ⟨r100, rfl, K1⟩ -
        replace K := K r100 h99 K1
        show Gm l x mX2_move 1 83 [(0, .ref a0), (1, .ref a1), (2, .int x2)] [.int r100] h99 rc rs n0 Q X
        refine g_istore_n (lv' := [(0, .ref a0), (1, .ref a1), (2, .int x2), (3, .int r100)]) dX2_move_83 rfl (by decide) rfl ?_
        refine g_aload_n dX2_move_84 rfl 0 rfl ?_
        refine g_iload_n dX2_move_85 rfl 3 rfl ?_
        refine g_if_eq (tgt := 93) dX2_move_86 (by decide) (fun c101 => ?_) (fun c101 => ?_)
        · replace K := K.1 c101
          refine g_aload_n dX2_move_93 rfl 0 rfl ?_
          refine g_aload_n dX2_move_94 rfl 0 rfl ?_
          refine g_iconst (v := 1) dX2_move_95 (by decide) ?_
          obtain ⟨e104, K⟩ := K
          obtain ⟨q102, C103, K⟩ := K
          refine g_callV (M' := mX2_hasStop) (b := a0) (As := [.int 1]) (rest := [.ref a0, .ref a0]) (rc' := rc) (rs' := rs) dX2_move_96 bw_560 bw_562 bs_11 bw_4 bw_563 ⟨by decide +kernel, by decide +kernel, show (parseMethodDescriptor mX2_hasStop.1.desc).map (fun d => d.parameters.length) = some 1 by decide +kernel⟩ (by decide) (by decide) (Nat.le_of_ble_eq_true rfl) fc_2 (by decide) rfl e104 C103 (Nat.le_of_eq (Nat.add_zero _)) (Nat.le_of_eq (Nat.add_zero _)) (fun _ _ h => h) ?_
          rintro _ h105 ⟨r106, rfl, K1⟩ -
          replace K := K r106 h105 K1
          show Gm l x mX2_move 1 99 [(0, .ref a0), (1, .ref a1), (2, .int x2), (3, .int r100)] [.int r106, .ref a0, .ref a0] h105 rc rs n0 Q X
          refine g_aload_n dX2_move_99 rfl 0 rfl ?_
          refine g_iconst (v := (-1)) dX2_move_100 (by decide) ?_
          obtain ⟨e109, K⟩ := K
          obtain ⟨q107, C108, K⟩ := K
          refine g_callV (M' := mX2_hasStop) (b := a0) (As := [.int (-1)]) (rest := [.int r106, .ref a0, .ref a0]) (rc' := rc) (rs' := rs) dX2_move_101 bw_560 bw_562 bs_11 bw_4 bw_563 ⟨by decide +kernel, by decide +kernel, show (parseMethodDescriptor mX2_hasStop.1.desc).map (fun d => d.parameters.length) = some 1 by decide +kernel⟩ (by decide) (by decide) (Nat.le_of_ble_eq_true rfl) fc_2 (by decide) rfl e109 C108 (Nat.le_of_eq (Nat.add_zero _)) (Nat.le_of_eq (Nat.add_zero _)) (fun _ _ h => h) ?_
          rintro _ h110 ⟨r111, rfl, K1⟩ -
          replace K := K r111 h110 K1
          show Gm l x mX2_move 1 104 [(0, .ref a0), (1, .ref a1), (2, .int x2), (3, .int r100)] [.int r111, .int r106, .ref a0, .ref a0] h110 rc rs n0 Q X
          obtain ⟨e114, K⟩ := K
          obtain ⟨q112, C113, K⟩ := K
          refine g_callV (M' := mX2_onward) (b := a0) (As := [.int r106, .int r111]) (rest := [.ref a0]) (rc' := rc) (rs' := rs) dX2_move_104 bw_569 bw_571 bs_13 bw_4 bw_572 ⟨by decide +kernel, by decide +kernel, show (parseMethodDescriptor mX2_onward.1.desc).map (fun d => d.parameters.length) = some 2 by decide +kernel⟩ (by decide) (by decide) (Nat.le_of_ble_eq_true rfl) fc_2 (by decide) rfl e114 C113 (Nat.le_of_eq (Nat.add_zero _)) (Nat.le_of_eq (Nat.add_zero _)) (fun _ _ h => h) ?_
          rintro _ h115 ⟨r116, rfl, K1⟩ -
          replace K := K r116 h115 K1
          show Gm l x mX2_move 1 107 [(0, .ref a0), (1, .ref a1), (2, .int x2), (3, .int r100)] [.int r116, .ref a0] h115 rc rs n0 Q X
          obtain ⟨e117, K⟩ := K
          refine g_puti (c := 2) (k := 4) dX2_move_107 fc_2 (by decide) (by decide) bw_66 (Or.inl rfl) rfl e117 ?_
          refine g_aload_n dX2_move_110 rfl 0 rfl ?_
          refine g_aload_n dX2_move_111 rfl 1 rfl ?_
          obtain ⟨q118, C119, K⟩ := K
          refine g_callV (M' := mX2_takeIn) (b := a0) (As := [.ref a1]) (rest := []) (rc' := rc) (rs' := rs) dX2_move_112 bw_583 bw_585 bs_16 bw_4 bw_586 ⟨by decide +kernel, by decide +kernel, show (parseMethodDescriptor mX2_takeIn.1.desc).map (fun d => d.parameters.length) = some 1 by decide +kernel⟩ (by decide) (by decide) (Nat.le_of_ble_eq_true rfl) fc_2 (by decide) rfl (kkI e117) C119 (Nat.le_of_eq (Nat.add_zero _)) (Nat.le_of_eq (Nat.add_zero _)) (fun _ _ h => h) ?_
          rintro _ h120 ⟨rfl, K1⟩ -
          replace K := K h120 K1
          show Gm l x mX2_move 1 115 [(0, .ref a0), (1, .ref a1), (2, .int x2), (3, .int r100)] [] h120 rc rs n0 Q X
          refine g_aload_n dX2_move_115 rfl 0 rfl ?_
          refine g_aload_n dX2_move_116 rfl 1 rfl ?_
          obtain ⟨e121, K⟩ := K
          refine g_get (c := 1) (k := 3) (v := .int (hI h120 a1 3)) dX2_move_117 fc_1 (by decide) (by decide) bw_199 rfl e121 ?_
          obtain ⟨e122, K⟩ := K
          refine g_puti (c := 2) (k := 5) dX2_move_120 fc_2 (by decide) (by decide) bw_69 (Or.inl rfl) rfl e122 ?_
          refine g_aload_n dX2_move_123 rfl 0 rfl ?_
          refine g_aload_n dX2_move_124 rfl 0 rfl ?_
          refine g_get (c := 2) (k := 7) (v := .float (hF h120 a0 7)) dX2_move_125 fc_2 (by decide) (by decide) bw_76 (congrArg Value.float ((hF_sI _ _ _ _ _ _).trans rfl)) (kkI e122) ?_
          refine g_ldcf (v := 1053609165) dX2_move_128 bw_587 ?_
          obtain ⟨e123, K⟩ := K
          refine g_fadd dX2_move_130 e123 ?_
          refine g_putf (c := 2) (k := 7) dX2_move_131 fc_2 (by decide) (by decide) bw_76 (Or.inl rfl) rfl (kkI e122) ?_
          refine g_iconst (v := 1) dX2_move_134 (by decide) ?_
          exact g_zret dX2_move_135 rfl K.1 K.2
        · replace K := K.2 c101
          refine g_iload_n dX2_move_89 rfl 3 rfl ?_
          refine g_goto (tgt := 107) dX2_move_90 (by decide) ?_
          obtain ⟨e124, K⟩ := K
          refine g_puti (c := 2) (k := 4) dX2_move_107 fc_2 (by decide) (by decide) bw_66 (Or.inl rfl) rfl e124 ?_
          refine g_aload_n dX2_move_110 rfl 0 rfl ?_
          refine g_aload_n dX2_move_111 rfl 1 rfl ?_
          obtain ⟨q125, C126, K⟩ := K
          refine g_callV (M' := mX2_takeIn) (b := a0) (As := [.ref a1]) (rest := []) (rc' := rc) (rs' := rs) dX2_move_112 bw_583 bw_585 bs_16 bw_4 bw_586 ⟨by decide +kernel, by decide +kernel, show (parseMethodDescriptor mX2_takeIn.1.desc).map (fun d => d.parameters.length) = some 1 by decide +kernel⟩ (by decide) (by decide) (Nat.le_of_ble_eq_true rfl) fc_2 (by decide) rfl (kkI e124) C126 (Nat.le_of_eq (Nat.add_zero _)) (Nat.le_of_eq (Nat.add_zero _)) (fun _ _ h => h) ?_
          rintro _ h127 ⟨rfl, K1⟩ -
          replace K := K h127 K1
          show Gm l x mX2_move 1 115 [(0, .ref a0), (1, .ref a1), (2, .int x2), (3, .int r100)] [] h127 rc rs n0 Q X
          refine g_aload_n dX2_move_115 rfl 0 rfl ?_
          refine g_aload_n dX2_move_116 rfl 1 rfl ?_
          obtain ⟨e128, K⟩ := K
          refine g_get (c := 1) (k := 3) (v := .int (hI h127 a1 3)) dX2_move_117 fc_1 (by decide) (by decide) bw_199 rfl e128 ?_
          obtain ⟨e129, K⟩ := K
          refine g_puti (c := 2) (k := 5) dX2_move_120 fc_2 (by decide) (by decide) bw_69 (Or.inl rfl) rfl e129 ?_
          refine g_aload_n dX2_move_123 rfl 0 rfl ?_
          refine g_aload_n dX2_move_124 rfl 0 rfl ?_
          refine g_get (c := 2) (k := 7) (v := .float (hF h127 a0 7)) dX2_move_125 fc_2 (by decide) (by decide) bw_76 (congrArg Value.float ((hF_sI _ _ _ _ _ _).trans rfl)) (kkI e129) ?_
          refine g_ldcf (v := 1053609165) dX2_move_128 bw_587 ?_
          obtain ⟨e130, K⟩ := K
          refine g_fadd dX2_move_130 e130 ?_
          refine g_putf (c := 2) (k := 7) dX2_move_131 fc_2 (by decide) (by decide) bw_76 (Or.inl rfl) rfl (kkI e129) ?_
          refine g_iconst (v := 1) dX2_move_134 (by decide) ?_
          exact g_zret dX2_move_135 rfl K.1 K.2
      · replace K := K.2 c86
        refine g_aload_n dX2_move_41 rfl 0 rfl ?_
        refine g_aload_n dX2_move_42 rfl 0 rfl ?_
        refine g_aload_n dX2_move_43 rfl 0 rfl ?_
        refine g_iconst (v := 1) dX2_move_44 (by decide) ?_
        obtain ⟨e133, K⟩ := K
        obtain ⟨q131, C132, K⟩ := K
        refine g_callV (M' := mX2_hasStop) (b := a0) (As := [.int 1]) (rest := [.ref a0, .ref a0]) (rc' := rc) (rs' := rs) dX2_move_45 bw_560 bw_562 bs_11 bw_4 bw_563 ⟨by decide +kernel, by decide +kernel, show (parseMethodDescriptor mX2_hasStop.1.desc).map (fun d => d.parameters.length) = some 1 by decide +kernel⟩ (by decide) (by decide) (Nat.le_of_ble_eq_true rfl) fc_2 (by decide) rfl e133 C132 (Nat.le_of_eq (Nat.add_zero _)) (Nat.le_of_eq (Nat.add_zero _)) (fun _ _ h => h) ?_
        rintro _ h134 ⟨r135, rfl, K1⟩ -
        replace K := K r135 h134 K1
        show Gm l x mX2_move 1 48 [(0, .ref a0), (1, .ref a1), (2, .int x2)] [.int r135, .ref a0, .ref a0] h134 rc rs n0 Q X
        refine g_aload_n dX2_move_48 rfl 0 rfl ?_
        refine g_iconst (v := (-1)) dX2_move_49 (by decide) ?_
        obtain ⟨e138, K⟩ := K
        obtain ⟨q136, C137, K⟩ := K
        refine g_callV (M' := mX2_hasStop) (b := a0) (As := [.int (-1)]) (rest := [.int r135, .ref a0, .ref a0]) (rc' := rc) (rs' := rs) dX2_move_50 bw_560 bw_562 bs_11 bw_4 bw_563 ⟨by decide +kernel, by decide +kernel, show (parseMethodDescriptor mX2_hasStop.1.desc).map (fun d => d.parameters.length) = some 1 by decide +kernel⟩ (by decide) (by decide) (Nat.le_of_ble_eq_true rfl) fc_2 (by decide) rfl e138 C137 (Nat.le_of_eq (Nat.add_zero _)) (Nat.le_of_eq (Nat.add_zero _)) (fun _ _ h => h) ?_
        rintro _ h139 ⟨r140, rfl, K1⟩ -
        replace K := K r140 h139 K1
        show Gm l x mX2_move 1 53 [(0, .ref a0), (1, .ref a1), (2, .int x2)] [.int r140, .int r135, .ref a0, .ref a0] h139 rc rs n0 Q X
        obtain ⟨e143, K⟩ := K
        obtain ⟨q141, C142, K⟩ := K
        refine g_callV (M' := mX2_onward) (b := a0) (As := [.int r135, .int r140]) (rest := [.ref a0]) (rc' := rc) (rs' := rs) dX2_move_53 bw_569 bw_571 bs_13 bw_4 bw_572 ⟨by decide +kernel, by decide +kernel, show (parseMethodDescriptor mX2_onward.1.desc).map (fun d => d.parameters.length) = some 2 by decide +kernel⟩ (by decide) (by decide) (Nat.le_of_ble_eq_true rfl) fc_2 (by decide) rfl e143 C142 (Nat.le_of_eq (Nat.add_zero _)) (Nat.le_of_eq (Nat.add_zero _)) (fun _ _ h => h) ?_
        rintro _ h144 ⟨r145, rfl, K1⟩ -
        replace K := K r145 h144 K1
        show Gm l x mX2_move 1 56 [(0, .ref a0), (1, .ref a1), (2, .int x2)] [.int r145, .ref a0] h144 rc rs n0 Q X
        obtain ⟨e146, K⟩ := K
        refine g_puti (c := 2) (k := 4) dX2_move_56 fc_2 (by decide) (by decide) bw_66 (Or.inl rfl) rfl e146 ?_
        refine g_aload_n dX2_move_59 rfl 0 rfl ?_
        refine g_iload_n dX2_move_60 rfl 2 rfl ?_
        obtain ⟨q147, C148, K⟩ := K
        refine g_callV (M' := mX2_go) (b := a0) (As := [.int x2]) (rest := []) (rc' := rc) (rs' := rs) dX2_move_61 bw_573 bw_505 bw_506 bw_4 bw_507 ⟨by decide +kernel, by decide +kernel, show (parseMethodDescriptor mX2_go.1.desc).map (fun d => d.parameters.length) = some 1 by decide +kernel⟩ (by decide) (by decide) (Nat.le_of_ble_eq_true rfl) fc_2 (by decide) rfl (kkI e146) C148 (Nat.le_of_eq (Nat.add_zero _)) (Nat.le_of_eq (Nat.add_zero _)) (fun _ _ h => h) ?_
        rintro _ h149 ⟨rfl, K1⟩ -
        replace K := K h149 K1
        show Gm l x mX2_move 1 64 [(0, .ref a0), (1, .ref a1), (2, .int x2)] [] h149 rc rs n0 Q X
        refine g_iconst (v := 0) dX2_move_64 (by decide) ?_
        exact g_zret dX2_move_65 rfl K.1 K.2
    · replace K := K.2 c76
      refine g_iconst (v := 0) dX2_move_24 (by decide) ?_
      exact g_zret dX2_move_25 rfl K.1 K.2
theorem dX6_tell_0 : decode cX6_tell 0 = .ok (.aload_n 0, 1) := by decide +kernel
theorem dX6_tell_1 : decode cX6_tell 1 = .ok (.iload 4, 2) := by decide +kernel
theorem dX6_tell_3 : decode cX6_tell 3 = .ok (.putfield 9, 3) := by decide +kernel
theorem dX6_tell_6 : decode cX6_tell 6 = .ok (.aload_n 0, 1) := by decide +kernel
theorem dX6_tell_7 : decode cX6_tell 7 = .ok (.iload_n 1, 1) := by decide +kernel
theorem dX6_tell_8 : decode cX6_tell 8 = .ok (.putfield 15, 3) := by decide +kernel
theorem dX6_tell_11 : decode cX6_tell 11 = .ok (.aload_n 0, 1) := by decide +kernel
theorem dX6_tell_12 : decode cX6_tell 12 = .ok (.iload_n 2, 1) := by decide +kernel
theorem dX6_tell_13 : decode cX6_tell 13 = .ok (.putfield 18, 3) := by decide +kernel
theorem dX6_tell_16 : decode cX6_tell 16 = .ok (.aload_n 0, 1) := by decide +kernel
theorem dX6_tell_17 : decode cX6_tell 17 = .ok (.iload_n 3, 1) := by decide +kernel
theorem dX6_tell_18 : decode cX6_tell 18 = .ok (.putfield 21, 3) := by decide +kernel
theorem dX6_tell_21 : decode cX6_tell 21 = .ok (.aload_n 0, 1) := by decide +kernel
theorem dX6_tell_22 : decode cX6_tell 22 = .ok (.iconst 0, 1) := by decide +kernel
theorem dX6_tell_23 : decode cX6_tell 23 = .ok (.putfield 24, 3) := by decide +kernel
theorem dX6_tell_26 : decode cX6_tell 26 = .ok (.aload_n 0, 1) := by decide +kernel
theorem dX6_tell_27 : decode cX6_tell 27 = .ok (.iconst (-1), 1) := by decide +kernel
theorem dX6_tell_28 : decode cX6_tell 28 = .ok (.putfield 27, 3) := by decide +kernel
theorem dX6_tell_31 : decode cX6_tell 31 = .ok (.aload_n 0, 1) := by decide +kernel
theorem dX6_tell_32 : decode cX6_tell 32 = .ok (.iconst 0, 1) := by decide +kernel
theorem dX6_tell_33 : decode cX6_tell 33 = .ok (.putfield 30, 3) := by decide +kernel
theorem dX6_tell_36 : decode cX6_tell 36 = .ok (.aload_n 0, 1) := by decide +kernel
theorem dX6_tell_37 : decode cX6_tell 37 = .ok (.iconst 0, 1) := by decide +kernel
theorem dX6_tell_38 : decode cX6_tell 38 = .ok (.putfield 33, 3) := by decide +kernel
theorem dX6_tell_41 : decode cX6_tell 41 = .ok (.aload_n 0, 1) := by decide +kernel
theorem dX6_tell_42 : decode cX6_tell 42 = .ok (.iconst (-1), 1) := by decide +kernel
theorem dX6_tell_43 : decode cX6_tell 43 = .ok (.putfield 36, 3) := by decide +kernel
theorem dX6_tell_46 : decode cX6_tell 46 = .ok (.aload_n 0, 1) := by decide +kernel
theorem dX6_tell_47 : decode cX6_tell 47 = .ok (.iconst (-1), 1) := by decide +kernel
theorem dX6_tell_48 : decode cX6_tell 48 = .ok (.putfield 39, 3) := by decide +kernel
theorem dX6_tell_51 : decode cX6_tell 51 = .ok (.return_, 1) := by decide +kernel
set_option maxRecDepth 20000 in
set_option maxHeartbeats 4000000 in
theorem vX6_tell_0 {l : Launch} {x : CX} {a0 : Nat} {x1 : Int32} {x2 : Int32} {x3 : Int32} {x4 : Int32} {h : PH} {rc rs n0 : Nat} {Q : Option Value → PH → Prop} {X : String → PH → Prop}
    (K : ((hK h a0).1 = 6) ∧ Q none (sI (sI (sI (sI (sI (sI (sI (sI (sI (sI h a0 0 x4) a0 1 x1) a0 2 x2) a0 3 x3) a0 4 0) a0 5 (-1)) a0 6 0) a0 7 0) a0 8 (-1)) a0 9 (-1))) :
    Gm l x mX6_tell 0 0 [(0, .ref a0), (1, .int x1), (2, .int x2), (3, .int x3), (4, .int x4)] [] h rc rs n0 Q X := by
  refine g_aload_n dX6_tell_0 rfl 0 rfl ?_
  refine g_iload dX6_tell_1 4 rfl ?_
  obtain ⟨e1, K⟩ := K
  refine g_puti (c := 6) (k := 0) dX6_tell_3 fc_6 (by decide) (by decide) bw_129 (Or.inl rfl) rfl e1 ?_
  refine g_aload_n dX6_tell_6 rfl 0 rfl ?_
  refine g_iload_n dX6_tell_7 rfl 1 rfl ?_
  refine g_puti (c := 6) (k := 1) dX6_tell_8 fc_6 (by decide) (by decide) bw_133 (Or.inl rfl) rfl (kkI e1) ?_
  refine g_aload_n dX6_tell_11 rfl 0 rfl ?_
  refine g_iload_n dX6_tell_12 rfl 2 rfl ?_
  refine g_puti (c := 6) (k := 2) dX6_tell_13 fc_6 (by decide) (by decide) bw_137 (Or.inl rfl) rfl (kkI (kkI e1)) ?_
  refine g_aload_n dX6_tell_16 rfl 0 rfl ?_
  refine g_iload_n dX6_tell_17 rfl 3 rfl ?_
  refine g_puti (c := 6) (k := 3) dX6_tell_18 fc_6 (by decide) (by decide) bw_140 (Or.inl rfl) rfl (kkI (kkI (kkI e1))) ?_
  refine g_aload_n dX6_tell_21 rfl 0 rfl ?_
  refine g_iconst (v := 0) dX6_tell_22 (by decide) ?_
  refine g_puti (c := 6) (k := 4) dX6_tell_23 fc_6 (by decide) (by decide) bw_144 (Or.inl rfl) rfl (kkI (kkI (kkI (kkI e1)))) ?_
  refine g_aload_n dX6_tell_26 rfl 0 rfl ?_
  refine g_iconst (v := (-1)) dX6_tell_27 (by decide) ?_
  refine g_puti (c := 6) (k := 5) dX6_tell_28 fc_6 (by decide) (by decide) bw_148 (Or.inl rfl) rfl (kkI (kkI (kkI (kkI (kkI e1))))) ?_
  refine g_aload_n dX6_tell_31 rfl 0 rfl ?_
  refine g_iconst (v := 0) dX6_tell_32 (by decide) ?_
  refine g_puti (c := 6) (k := 6) dX6_tell_33 fc_6 (by decide) (by decide) bw_152 (Or.inl rfl) rfl (kkI (kkI (kkI (kkI (kkI (kkI e1)))))) ?_
  refine g_aload_n dX6_tell_36 rfl 0 rfl ?_
  refine g_iconst (v := 0) dX6_tell_37 (by decide) ?_
  refine g_puti (c := 6) (k := 7) dX6_tell_38 fc_6 (by decide) (by decide) bw_155 (Or.inl rfl) rfl (kkI (kkI (kkI (kkI (kkI (kkI (kkI e1))))))) ?_
  refine g_aload_n dX6_tell_41 rfl 0 rfl ?_
  refine g_iconst (v := (-1)) dX6_tell_42 (by decide) ?_
  refine g_puti (c := 6) (k := 8) dX6_tell_43 fc_6 (by decide) (by decide) bw_158 (Or.inl rfl) rfl (kkI (kkI (kkI (kkI (kkI (kkI (kkI (kkI e1)))))))) ?_
  refine g_aload_n dX6_tell_46 rfl 0 rfl ?_
  refine g_iconst (v := (-1)) dX6_tell_47 (by decide) ?_
  refine g_puti (c := 6) (k := 9) dX6_tell_48 fc_6 (by decide) (by decide) bw_160 (Or.inl rfl) rfl (kkI (kkI (kkI (kkI (kkI (kkI (kkI (kkI (kkI e1))))))))) ?_
  exact g_vret dX6_tell_51 rfl K
theorem dX6_waitAt_0 : decode cX6_waitAt 0 = .ok (.aload_n 0, 1) := by decide +kernel
theorem dX6_waitAt_1 : decode cX6_waitAt 1 = .ok (.iconst 1, 1) := by decide +kernel
theorem dX6_waitAt_2 : decode cX6_waitAt 2 = .ok (.putfield 24, 3) := by decide +kernel
theorem dX6_waitAt_5 : decode cX6_waitAt 5 = .ok (.aload_n 0, 1) := by decide +kernel
theorem dX6_waitAt_6 : decode cX6_waitAt 6 = .ok (.iload_n 1, 1) := by decide +kernel
theorem dX6_waitAt_7 : decode cX6_waitAt 7 = .ok (.putfield 27, 3) := by decide +kernel
theorem dX6_waitAt_10 : decode cX6_waitAt 10 = .ok (.aload_n 0, 1) := by decide +kernel
theorem dX6_waitAt_11 : decode cX6_waitAt 11 = .ok (.aload_n 0, 1) := by decide +kernel
theorem dX6_waitAt_12 : decode cX6_waitAt 12 = .ok (.getfield 21, 3) := by decide +kernel
theorem dX6_waitAt_15 : decode cX6_waitAt 15 = .ok (.iload_n 1, 1) := by decide +kernel
theorem dX6_waitAt_16 : decode cX6_waitAt 16 = .ok (.if_icmp .le 7, 3) := by decide +kernel
theorem dX6_waitAt_19 : decode cX6_waitAt 19 = .ok (.iconst 1, 1) := by decide +kernel
theorem dX6_waitAt_20 : decode cX6_waitAt 20 = .ok (.goto 4, 3) := by decide +kernel
theorem dX6_waitAt_23 : decode cX6_waitAt 23 = .ok (.iconst (-1), 1) := by decide +kernel
theorem dX6_waitAt_24 : decode cX6_waitAt 24 = .ok (.putfield 30, 3) := by decide +kernel
theorem dX6_waitAt_27 : decode cX6_waitAt 27 = .ok (.return_, 1) := by decide +kernel
set_option maxRecDepth 20000 in
set_option maxHeartbeats 4000000 in
theorem vX6_waitAt_0 {l : Launch} {x : CX} {a0 : Nat} {x1 : Int32} {h : PH} {rc rs n0 : Nat} {Q : Option Value → PH → Prop} {X : String → PH → Prop}
    (K : ((hK h a0).1 = 6) ∧ Q none (sI (sI (sI h a0 4 1) a0 5 x1) a0 6 (if (hI h a0 3) ≤ x1 then (-1) else 1 : Int32))) :
    Gm l x mX6_waitAt 0 0 [(0, .ref a0), (1, .int x1)] [] h rc rs n0 Q X := by
  refine g_aload_n dX6_waitAt_0 rfl 0 rfl ?_
  refine g_iconst (v := 1) dX6_waitAt_1 (by decide) ?_
  obtain ⟨e1, K⟩ := K
  refine g_puti (c := 6) (k := 4) dX6_waitAt_2 fc_6 (by decide) (by decide) bw_144 (Or.inl rfl) rfl e1 ?_
  refine g_aload_n dX6_waitAt_5 rfl 0 rfl ?_
  refine g_iload_n dX6_waitAt_6 rfl 1 rfl ?_
  refine g_puti (c := 6) (k := 5) dX6_waitAt_7 fc_6 (by decide) (by decide) bw_148 (Or.inl rfl) rfl (kkI e1) ?_
  refine g_aload_n dX6_waitAt_10 rfl 0 rfl ?_
  refine g_aload_n dX6_waitAt_11 rfl 0 rfl ?_
  refine g_get (c := 6) (k := 3) (v := .int (hI h a0 3)) dX6_waitAt_12 fc_6 (by decide) (by decide) bw_140 (congrArg Value.int ((skI (by decide)).trans ((skI (by decide)).trans rfl))) (kkI (kkI e1)) ?_
  refine g_iload_n dX6_waitAt_15 rfl 1 rfl ?_
  have KJ : Gm l x mX6_waitAt 0 24 [(0, .ref a0), (1, .int x1)] [.int (if (hI h a0 3) ≤ x1 then (-1) else 1 : Int32), .ref a0] (sI (sI h a0 4 1) a0 5 x1) rc rs n0 Q X := by
    refine g_puti (c := 6) (k := 6) dX6_waitAt_24 fc_6 (by decide) (by decide) bw_152 (Or.inl rfl) rfl (kkI (kkI e1)) ?_
    exact g_vret dX6_waitAt_27 rfl K
  refine g_icmp_le (tgt := 23) dX6_waitAt_16 (by decide) (fun c2 => ?_) (fun c2 => ?_)
  · refine g_iconst (v := (-1)) dX6_waitAt_23 (by decide) ?_
    first | (simp only [if_pos c2] at KJ; exact KJ) | (simp only [if_pos c2, ite_true, ite_false, eq_self] at KJ; exact KJ) | (simp only [if_pos c2] at KJ ⊢; exact KJ) | exact KJ
  · refine g_iconst (v := 1) dX6_waitAt_19 (by decide) ?_
    refine g_goto (tgt := 24) dX6_waitAt_20 (by decide) ?_
    first | (simp only [if_neg c2] at KJ; exact KJ) | (simp only [if_neg c2, ite_true, ite_false, eq_self] at KJ; exact KJ) | (simp only [if_neg c2] at KJ ⊢; exact KJ) | exact KJ
theorem dX6_board_0 : decode cX6_board 0 = .ok (.aload_n 0, 1) := by decide +kernel
theorem dX6_board_1 : decode cX6_board 1 = .ok (.iconst 2, 1) := by decide +kernel
theorem dX6_board_2 : decode cX6_board 2 = .ok (.putfield 24, 3) := by decide +kernel
theorem dX6_board_5 : decode cX6_board 5 = .ok (.aload_n 0, 1) := by decide +kernel
theorem dX6_board_6 : decode cX6_board 6 = .ok (.iload_n 1, 1) := by decide +kernel
theorem dX6_board_7 : decode cX6_board 7 = .ok (.putfield 27, 3) := by decide +kernel
theorem dX6_board_10 : decode cX6_board 10 = .ok (.aload_n 0, 1) := by decide +kernel
theorem dX6_board_11 : decode cX6_board 11 = .ok (.getfield 36, 3) := by decide +kernel
theorem dX6_board_14 : decode cX6_board 14 = .ok (.iconst (-1), 1) := by decide +kernel
theorem dX6_board_15 : decode cX6_board 15 = .ok (.if_icmp .ne 8, 3) := by decide +kernel
theorem dX6_board_18 : decode cX6_board 18 = .ok (.aload_n 0, 1) := by decide +kernel
theorem dX6_board_19 : decode cX6_board 19 = .ok (.iload_n 2, 1) := by decide +kernel
theorem dX6_board_20 : decode cX6_board 20 = .ok (.putfield 36, 3) := by decide +kernel
theorem dX6_board_23 : decode cX6_board 23 = .ok (.return_, 1) := by decide +kernel
set_option maxRecDepth 20000 in
set_option maxHeartbeats 4000000 in
theorem vX6_board_0 {l : Launch} {x : CX} {a0 : Nat} {x1 : Int32} {x2 : Int32} {h : PH} {rc rs n0 : Nat} {Q : Option Value → PH → Prop} {X : String → PH → Prop}
    (K : ((hK h a0).1 = 6) ∧ ((¬ (hI h a0 8) = (-1) → Q none (sI (sI h a0 4 2) a0 5 x1)) ∧ ((hI h a0 8) = (-1) → Q none (sI (sI (sI h a0 4 2) a0 5 x1) a0 8 x2)))) :
    Gm l x mX6_board 0 0 [(0, .ref a0), (1, .int x1), (2, .int x2)] [] h rc rs n0 Q X := by
  refine g_aload_n dX6_board_0 rfl 0 rfl ?_
  refine g_iconst (v := 2) dX6_board_1 (by decide) ?_
  obtain ⟨e1, K⟩ := K
  refine g_puti (c := 6) (k := 4) dX6_board_2 fc_6 (by decide) (by decide) bw_144 (Or.inl rfl) rfl e1 ?_
  refine g_aload_n dX6_board_5 rfl 0 rfl ?_
  refine g_iload_n dX6_board_6 rfl 1 rfl ?_
  refine g_puti (c := 6) (k := 5) dX6_board_7 fc_6 (by decide) (by decide) bw_148 (Or.inl rfl) rfl (kkI e1) ?_
  refine g_aload_n dX6_board_10 rfl 0 rfl ?_
  refine g_get (c := 6) (k := 8) (v := .int (hI h a0 8)) dX6_board_11 fc_6 (by decide) (by decide) bw_158 (congrArg Value.int ((skI (by decide)).trans ((skI (by decide)).trans rfl))) (kkI (kkI e1)) ?_
  refine g_iconst (v := (-1)) dX6_board_14 (by decide) ?_
  refine g_icmp_ne (tgt := 23) dX6_board_15 (by decide) (fun c2 => ?_) (fun c2 => ?_)
  · replace K := K.1 c2
    exact g_vret dX6_board_23 rfl K
  · replace K := K.2 c2
    refine g_aload_n dX6_board_18 rfl 0 rfl ?_
    refine g_iload_n dX6_board_19 rfl 2 rfl ?_
    refine g_puti (c := 6) (k := 8) dX6_board_20 fc_6 (by decide) (by decide) bw_158 (Or.inl rfl) rfl (kkI (kkI e1)) ?_
    exact g_vret dX6_board_23 rfl K
theorem dX6_copyFrom_0 : decode cX6_copyFrom 0 = .ok (.aload_n 0, 1) := by decide +kernel
theorem dX6_copyFrom_1 : decode cX6_copyFrom 1 = .ok (.aload_n 1, 1) := by decide +kernel
theorem dX6_copyFrom_2 : decode cX6_copyFrom 2 = .ok (.getfield 9, 3) := by decide +kernel
theorem dX6_copyFrom_5 : decode cX6_copyFrom 5 = .ok (.putfield 9, 3) := by decide +kernel
theorem dX6_copyFrom_8 : decode cX6_copyFrom 8 = .ok (.aload_n 0, 1) := by decide +kernel
theorem dX6_copyFrom_9 : decode cX6_copyFrom 9 = .ok (.aload_n 1, 1) := by decide +kernel
theorem dX6_copyFrom_10 : decode cX6_copyFrom 10 = .ok (.getfield 15, 3) := by decide +kernel
theorem dX6_copyFrom_13 : decode cX6_copyFrom 13 = .ok (.putfield 15, 3) := by decide +kernel
theorem dX6_copyFrom_16 : decode cX6_copyFrom 16 = .ok (.aload_n 0, 1) := by decide +kernel
theorem dX6_copyFrom_17 : decode cX6_copyFrom 17 = .ok (.aload_n 1, 1) := by decide +kernel
theorem dX6_copyFrom_18 : decode cX6_copyFrom 18 = .ok (.getfield 18, 3) := by decide +kernel
theorem dX6_copyFrom_21 : decode cX6_copyFrom 21 = .ok (.putfield 18, 3) := by decide +kernel
theorem dX6_copyFrom_24 : decode cX6_copyFrom 24 = .ok (.aload_n 0, 1) := by decide +kernel
theorem dX6_copyFrom_25 : decode cX6_copyFrom 25 = .ok (.aload_n 1, 1) := by decide +kernel
theorem dX6_copyFrom_26 : decode cX6_copyFrom 26 = .ok (.getfield 21, 3) := by decide +kernel
theorem dX6_copyFrom_29 : decode cX6_copyFrom 29 = .ok (.putfield 21, 3) := by decide +kernel
theorem dX6_copyFrom_32 : decode cX6_copyFrom 32 = .ok (.aload_n 0, 1) := by decide +kernel
theorem dX6_copyFrom_33 : decode cX6_copyFrom 33 = .ok (.aload_n 1, 1) := by decide +kernel
theorem dX6_copyFrom_34 : decode cX6_copyFrom 34 = .ok (.getfield 24, 3) := by decide +kernel
theorem dX6_copyFrom_37 : decode cX6_copyFrom 37 = .ok (.putfield 24, 3) := by decide +kernel
theorem dX6_copyFrom_40 : decode cX6_copyFrom 40 = .ok (.aload_n 0, 1) := by decide +kernel
theorem dX6_copyFrom_41 : decode cX6_copyFrom 41 = .ok (.aload_n 1, 1) := by decide +kernel
theorem dX6_copyFrom_42 : decode cX6_copyFrom 42 = .ok (.getfield 27, 3) := by decide +kernel
theorem dX6_copyFrom_45 : decode cX6_copyFrom 45 = .ok (.putfield 27, 3) := by decide +kernel
theorem dX6_copyFrom_48 : decode cX6_copyFrom 48 = .ok (.aload_n 0, 1) := by decide +kernel
theorem dX6_copyFrom_49 : decode cX6_copyFrom 49 = .ok (.aload_n 1, 1) := by decide +kernel
theorem dX6_copyFrom_50 : decode cX6_copyFrom 50 = .ok (.getfield 30, 3) := by decide +kernel
theorem dX6_copyFrom_53 : decode cX6_copyFrom 53 = .ok (.putfield 30, 3) := by decide +kernel
theorem dX6_copyFrom_56 : decode cX6_copyFrom 56 = .ok (.aload_n 0, 1) := by decide +kernel
theorem dX6_copyFrom_57 : decode cX6_copyFrom 57 = .ok (.aload_n 1, 1) := by decide +kernel
theorem dX6_copyFrom_58 : decode cX6_copyFrom 58 = .ok (.getfield 33, 3) := by decide +kernel
theorem dX6_copyFrom_61 : decode cX6_copyFrom 61 = .ok (.putfield 33, 3) := by decide +kernel
theorem dX6_copyFrom_64 : decode cX6_copyFrom 64 = .ok (.aload_n 0, 1) := by decide +kernel
theorem dX6_copyFrom_65 : decode cX6_copyFrom 65 = .ok (.aload_n 1, 1) := by decide +kernel
theorem dX6_copyFrom_66 : decode cX6_copyFrom 66 = .ok (.getfield 36, 3) := by decide +kernel
theorem dX6_copyFrom_69 : decode cX6_copyFrom 69 = .ok (.putfield 36, 3) := by decide +kernel
theorem dX6_copyFrom_72 : decode cX6_copyFrom 72 = .ok (.aload_n 0, 1) := by decide +kernel
theorem dX6_copyFrom_73 : decode cX6_copyFrom 73 = .ok (.aload_n 1, 1) := by decide +kernel
theorem dX6_copyFrom_74 : decode cX6_copyFrom 74 = .ok (.getfield 39, 3) := by decide +kernel
theorem dX6_copyFrom_77 : decode cX6_copyFrom 77 = .ok (.putfield 39, 3) := by decide +kernel
theorem dX6_copyFrom_80 : decode cX6_copyFrom 80 = .ok (.return_, 1) := by decide +kernel
set_option maxRecDepth 20000 in
set_option maxHeartbeats 4000000 in
theorem vX6_copyFrom_0 {l : Launch} {x : CX} {a0 : Nat} {a1 : Nat} {h : PH} {rc rs n0 : Nat} {Q : Option Value → PH → Prop} {X : String → PH → Prop}
    (K : ((hK h a1).1 = 6) ∧ ((hK h a0).1 = 6) ∧ Q none (sI (sI (sI (sI (sI (sI (sI (sI (sI (sI h a0 0 (hI h a1 0)) a0 1 (hI h a1 1)) a0 2 (hI h a1 2)) a0 3 (hI h a1 3)) a0 4 (hI h a1 4)) a0 5 (hI h a1 5)) a0 6 (hI h a1 6)) a0 7 (hI h a1 7)) a0 8 (hI h a1 8)) a0 9 (hI h a1 9))) :
    Gm l x mX6_copyFrom 0 0 [(0, .ref a0), (1, .ref a1)] [] h rc rs n0 Q X := by
  refine g_aload_n dX6_copyFrom_0 rfl 0 rfl ?_
  refine g_aload_n dX6_copyFrom_1 rfl 1 rfl ?_
  obtain ⟨e1, K⟩ := K
  refine g_get (c := 6) (k := 0) (v := .int (hI h a1 0)) dX6_copyFrom_2 fc_6 (by decide) (by decide) bw_129 rfl e1 ?_
  obtain ⟨e2, K⟩ := K
  refine g_puti (c := 6) (k := 0) dX6_copyFrom_5 fc_6 (by decide) (by decide) bw_129 (Or.inl rfl) rfl e2 ?_
  refine g_aload_n dX6_copyFrom_8 rfl 0 rfl ?_
  refine g_aload_n dX6_copyFrom_9 rfl 1 rfl ?_
  refine g_get (c := 6) (k := 1) (v := .int (hI h a1 1)) dX6_copyFrom_10 fc_6 (by decide) (by decide) bw_133 (congrArg Value.int ((skI (by decide)).trans rfl)) (kkI e1) ?_
  refine g_puti (c := 6) (k := 1) dX6_copyFrom_13 fc_6 (by decide) (by decide) bw_133 (Or.inl rfl) rfl (kkI e2) ?_
  refine g_aload_n dX6_copyFrom_16 rfl 0 rfl ?_
  refine g_aload_n dX6_copyFrom_17 rfl 1 rfl ?_
  refine g_get (c := 6) (k := 2) (v := .int (hI h a1 2)) dX6_copyFrom_18 fc_6 (by decide) (by decide) bw_137 (congrArg Value.int ((skI (by decide)).trans ((skI (by decide)).trans rfl))) (kkI (kkI e1)) ?_
  refine g_puti (c := 6) (k := 2) dX6_copyFrom_21 fc_6 (by decide) (by decide) bw_137 (Or.inl rfl) rfl (kkI (kkI e2)) ?_
  refine g_aload_n dX6_copyFrom_24 rfl 0 rfl ?_
  refine g_aload_n dX6_copyFrom_25 rfl 1 rfl ?_
  refine g_get (c := 6) (k := 3) (v := .int (hI h a1 3)) dX6_copyFrom_26 fc_6 (by decide) (by decide) bw_140 (congrArg Value.int ((skI (by decide)).trans ((skI (by decide)).trans ((skI (by decide)).trans rfl)))) (kkI (kkI (kkI e1))) ?_
  refine g_puti (c := 6) (k := 3) dX6_copyFrom_29 fc_6 (by decide) (by decide) bw_140 (Or.inl rfl) rfl (kkI (kkI (kkI e2))) ?_
  refine g_aload_n dX6_copyFrom_32 rfl 0 rfl ?_
  refine g_aload_n dX6_copyFrom_33 rfl 1 rfl ?_
  refine g_get (c := 6) (k := 4) (v := .int (hI h a1 4)) dX6_copyFrom_34 fc_6 (by decide) (by decide) bw_144 (congrArg Value.int ((skI (by decide)).trans ((skI (by decide)).trans ((skI (by decide)).trans ((skI (by decide)).trans rfl))))) (kkI (kkI (kkI (kkI e1)))) ?_
  refine g_puti (c := 6) (k := 4) dX6_copyFrom_37 fc_6 (by decide) (by decide) bw_144 (Or.inl rfl) rfl (kkI (kkI (kkI (kkI e2)))) ?_
  refine g_aload_n dX6_copyFrom_40 rfl 0 rfl ?_
  refine g_aload_n dX6_copyFrom_41 rfl 1 rfl ?_
  refine g_get (c := 6) (k := 5) (v := .int (hI h a1 5)) dX6_copyFrom_42 fc_6 (by decide) (by decide) bw_148 (congrArg Value.int ((skI (by decide)).trans ((skI (by decide)).trans ((skI (by decide)).trans ((skI (by decide)).trans ((skI (by decide)).trans rfl)))))) (kkI (kkI (kkI (kkI (kkI e1))))) ?_
  refine g_puti (c := 6) (k := 5) dX6_copyFrom_45 fc_6 (by decide) (by decide) bw_148 (Or.inl rfl) rfl (kkI (kkI (kkI (kkI (kkI e2))))) ?_
  refine g_aload_n dX6_copyFrom_48 rfl 0 rfl ?_
  refine g_aload_n dX6_copyFrom_49 rfl 1 rfl ?_
  refine g_get (c := 6) (k := 6) (v := .int (hI h a1 6)) dX6_copyFrom_50 fc_6 (by decide) (by decide) bw_152 (congrArg Value.int ((skI (by decide)).trans ((skI (by decide)).trans ((skI (by decide)).trans ((skI (by decide)).trans ((skI (by decide)).trans ((skI (by decide)).trans rfl))))))) (kkI (kkI (kkI (kkI (kkI (kkI e1)))))) ?_
  refine g_puti (c := 6) (k := 6) dX6_copyFrom_53 fc_6 (by decide) (by decide) bw_152 (Or.inl rfl) rfl (kkI (kkI (kkI (kkI (kkI (kkI e2)))))) ?_
  refine g_aload_n dX6_copyFrom_56 rfl 0 rfl ?_
  refine g_aload_n dX6_copyFrom_57 rfl 1 rfl ?_
  refine g_get (c := 6) (k := 7) (v := .int (hI h a1 7)) dX6_copyFrom_58 fc_6 (by decide) (by decide) bw_155 (congrArg Value.int ((skI (by decide)).trans ((skI (by decide)).trans ((skI (by decide)).trans ((skI (by decide)).trans ((skI (by decide)).trans ((skI (by decide)).trans ((skI (by decide)).trans rfl)))))))) (kkI (kkI (kkI (kkI (kkI (kkI (kkI e1))))))) ?_
  refine g_puti (c := 6) (k := 7) dX6_copyFrom_61 fc_6 (by decide) (by decide) bw_155 (Or.inl rfl) rfl (kkI (kkI (kkI (kkI (kkI (kkI (kkI e2))))))) ?_
  refine g_aload_n dX6_copyFrom_64 rfl 0 rfl ?_
  refine g_aload_n dX6_copyFrom_65 rfl 1 rfl ?_
  refine g_get (c := 6) (k := 8) (v := .int (hI h a1 8)) dX6_copyFrom_66 fc_6 (by decide) (by decide) bw_158 (congrArg Value.int ((skI (by decide)).trans ((skI (by decide)).trans ((skI (by decide)).trans ((skI (by decide)).trans ((skI (by decide)).trans ((skI (by decide)).trans ((skI (by decide)).trans ((skI (by decide)).trans rfl))))))))) (kkI (kkI (kkI (kkI (kkI (kkI (kkI (kkI e1)))))))) ?_
  refine g_puti (c := 6) (k := 8) dX6_copyFrom_69 fc_6 (by decide) (by decide) bw_158 (Or.inl rfl) rfl (kkI (kkI (kkI (kkI (kkI (kkI (kkI (kkI e2)))))))) ?_
  refine g_aload_n dX6_copyFrom_72 rfl 0 rfl ?_
  refine g_aload_n dX6_copyFrom_73 rfl 1 rfl ?_
  refine g_get (c := 6) (k := 9) (v := .int (hI h a1 9)) dX6_copyFrom_74 fc_6 (by decide) (by decide) bw_160 (congrArg Value.int ((skI (by decide)).trans ((skI (by decide)).trans ((skI (by decide)).trans ((skI (by decide)).trans ((skI (by decide)).trans ((skI (by decide)).trans ((skI (by decide)).trans ((skI (by decide)).trans ((skI (by decide)).trans rfl)))))))))) (kkI (kkI (kkI (kkI (kkI (kkI (kkI (kkI (kkI e1))))))))) ?_
  refine g_puti (c := 6) (k := 9) dX6_copyFrom_77 fc_6 (by decide) (by decide) bw_160 (Or.inl rfl) rfl (kkI (kkI (kkI (kkI (kkI (kkI (kkI (kkI (kkI e2))))))))) ?_
  exact g_vret dX6_copyFrom_80 rfl K
theorem dX6_init_0 : decode cX6_init 0 = .ok (.aload_n 0, 1) := by decide +kernel
theorem dX6_init_1 : decode cX6_init 1 = .ok (.invokespecial 3, 3) := by decide +kernel
theorem dX6_init_4 : decode cX6_init 4 = .ok (.aload_n 0, 1) := by decide +kernel
theorem dX6_init_5 : decode cX6_init 5 = .ok (.iconst 1, 1) := by decide +kernel
theorem dX6_init_6 : decode cX6_init 6 = .ok (.putfield 9, 3) := by decide +kernel
theorem dX6_init_9 : decode cX6_init 9 = .ok (.aload_n 0, 1) := by decide +kernel
theorem dX6_init_10 : decode cX6_init 10 = .ok (.iconst 0, 1) := by decide +kernel
theorem dX6_init_11 : decode cX6_init 11 = .ok (.putfield 15, 3) := by decide +kernel
theorem dX6_init_14 : decode cX6_init 14 = .ok (.aload_n 0, 1) := by decide +kernel
theorem dX6_init_15 : decode cX6_init 15 = .ok (.iconst 0, 1) := by decide +kernel
theorem dX6_init_16 : decode cX6_init 16 = .ok (.putfield 18, 3) := by decide +kernel
theorem dX6_init_19 : decode cX6_init 19 = .ok (.aload_n 0, 1) := by decide +kernel
theorem dX6_init_20 : decode cX6_init 20 = .ok (.iconst 0, 1) := by decide +kernel
theorem dX6_init_21 : decode cX6_init 21 = .ok (.putfield 21, 3) := by decide +kernel
theorem dX6_init_24 : decode cX6_init 24 = .ok (.aload_n 0, 1) := by decide +kernel
theorem dX6_init_25 : decode cX6_init 25 = .ok (.iconst 0, 1) := by decide +kernel
theorem dX6_init_26 : decode cX6_init 26 = .ok (.putfield 24, 3) := by decide +kernel
theorem dX6_init_29 : decode cX6_init 29 = .ok (.aload_n 0, 1) := by decide +kernel
theorem dX6_init_30 : decode cX6_init 30 = .ok (.iconst (-1), 1) := by decide +kernel
theorem dX6_init_31 : decode cX6_init 31 = .ok (.putfield 27, 3) := by decide +kernel
theorem dX6_init_34 : decode cX6_init 34 = .ok (.aload_n 0, 1) := by decide +kernel
theorem dX6_init_35 : decode cX6_init 35 = .ok (.iconst 0, 1) := by decide +kernel
theorem dX6_init_36 : decode cX6_init 36 = .ok (.putfield 30, 3) := by decide +kernel
theorem dX6_init_39 : decode cX6_init 39 = .ok (.aload_n 0, 1) := by decide +kernel
theorem dX6_init_40 : decode cX6_init 40 = .ok (.iconst 0, 1) := by decide +kernel
theorem dX6_init_41 : decode cX6_init 41 = .ok (.putfield 33, 3) := by decide +kernel
theorem dX6_init_44 : decode cX6_init 44 = .ok (.aload_n 0, 1) := by decide +kernel
theorem dX6_init_45 : decode cX6_init 45 = .ok (.iconst (-1), 1) := by decide +kernel
theorem dX6_init_46 : decode cX6_init 46 = .ok (.putfield 36, 3) := by decide +kernel
theorem dX6_init_49 : decode cX6_init 49 = .ok (.aload_n 0, 1) := by decide +kernel
theorem dX6_init_50 : decode cX6_init 50 = .ok (.iconst (-1), 1) := by decide +kernel
theorem dX6_init_51 : decode cX6_init 51 = .ok (.putfield 39, 3) := by decide +kernel
theorem dX6_init_54 : decode cX6_init 54 = .ok (.return_, 1) := by decide +kernel
set_option maxRecDepth 20000 in
set_option maxHeartbeats 4000000 in
theorem vX6_init_0 {l : Launch} {x : CX} {a0 : Nat} {h : PH} {rc rs n0 : Nat} {Q : Option Value → PH → Prop} {X : String → PH → Prop}
    (K : ((hK h a0).1 = 6) ∧ Q none (sI (sI (sI (sI (sI (sI (sI (sI (sI (sI h a0 0 1) a0 1 0) a0 2 0) a0 3 0) a0 4 0) a0 5 (-1)) a0 6 0) a0 7 0) a0 8 (-1)) a0 9 (-1))) :
    Gm l x mX6_init 1 0 [(0, .ref a0)] [] h rc rs n0 Q X := by
  refine g_aload_n dX6_init_0 rfl 0 rfl ?_
  refine g_objInit dX6_init_1 bw_128 bw_30 bw_31 (by decide) (Nat.le_of_ble_eq_true rfl) ?_
  refine g_aload_n dX6_init_4 rfl 0 rfl ?_
  refine g_iconst (v := 1) dX6_init_5 (by decide) ?_
  obtain ⟨e1, K⟩ := K
  refine g_puti (c := 6) (k := 0) dX6_init_6 fc_6 (by decide) (by decide) bw_129 (Or.inl rfl) rfl e1 ?_
  refine g_aload_n dX6_init_9 rfl 0 rfl ?_
  refine g_iconst (v := 0) dX6_init_10 (by decide) ?_
  refine g_puti (c := 6) (k := 1) dX6_init_11 fc_6 (by decide) (by decide) bw_133 (Or.inl rfl) rfl (kkI e1) ?_
  refine g_aload_n dX6_init_14 rfl 0 rfl ?_
  refine g_iconst (v := 0) dX6_init_15 (by decide) ?_
  refine g_puti (c := 6) (k := 2) dX6_init_16 fc_6 (by decide) (by decide) bw_137 (Or.inl rfl) rfl (kkI (kkI e1)) ?_
  refine g_aload_n dX6_init_19 rfl 0 rfl ?_
  refine g_iconst (v := 0) dX6_init_20 (by decide) ?_
  refine g_puti (c := 6) (k := 3) dX6_init_21 fc_6 (by decide) (by decide) bw_140 (Or.inl rfl) rfl (kkI (kkI (kkI e1))) ?_
  refine g_aload_n dX6_init_24 rfl 0 rfl ?_
  refine g_iconst (v := 0) dX6_init_25 (by decide) ?_
  refine g_puti (c := 6) (k := 4) dX6_init_26 fc_6 (by decide) (by decide) bw_144 (Or.inl rfl) rfl (kkI (kkI (kkI (kkI e1)))) ?_
  refine g_aload_n dX6_init_29 rfl 0 rfl ?_
  refine g_iconst (v := (-1)) dX6_init_30 (by decide) ?_
  refine g_puti (c := 6) (k := 5) dX6_init_31 fc_6 (by decide) (by decide) bw_148 (Or.inl rfl) rfl (kkI (kkI (kkI (kkI (kkI e1))))) ?_
  refine g_aload_n dX6_init_34 rfl 0 rfl ?_
  refine g_iconst (v := 0) dX6_init_35 (by decide) ?_
  refine g_puti (c := 6) (k := 6) dX6_init_36 fc_6 (by decide) (by decide) bw_152 (Or.inl rfl) rfl (kkI (kkI (kkI (kkI (kkI (kkI e1)))))) ?_
  refine g_aload_n dX6_init_39 rfl 0 rfl ?_
  refine g_iconst (v := 0) dX6_init_40 (by decide) ?_
  refine g_puti (c := 6) (k := 7) dX6_init_41 fc_6 (by decide) (by decide) bw_155 (Or.inl rfl) rfl (kkI (kkI (kkI (kkI (kkI (kkI (kkI e1))))))) ?_
  refine g_aload_n dX6_init_44 rfl 0 rfl ?_
  refine g_iconst (v := (-1)) dX6_init_45 (by decide) ?_
  refine g_puti (c := 6) (k := 8) dX6_init_46 fc_6 (by decide) (by decide) bw_158 (Or.inl rfl) rfl (kkI (kkI (kkI (kkI (kkI (kkI (kkI (kkI e1)))))))) ?_
  refine g_aload_n dX6_init_49 rfl 0 rfl ?_
  refine g_iconst (v := (-1)) dX6_init_50 (by decide) ?_
  refine g_puti (c := 6) (k := 9) dX6_init_51 fc_6 (by decide) (by decide) bw_160 (Or.inl rfl) rfl (kkI (kkI (kkI (kkI (kkI (kkI (kkI (kkI (kkI e1))))))))) ?_
  exact g_vret dX6_init_54 rfl K
