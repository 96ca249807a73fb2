/-! STEPS, printed by program: Face1 -/
theorem dX7_putBytes_0 : decode cX7_putBytes 0 = .ok (.bipush 24, 2) := by decide +kernel
theorem dX7_putBytes_2 : decode cX7_putBytes 2 = .ok (.istore_n 2, 1) := by decide +kernel
theorem dX7_putBytes_3 : decode cX7_putBytes 3 = .ok (.iload_n 2, 1) := by decide +kernel
theorem dX7_putBytes_4 : decode cX7_putBytes 4 = .ok (.ifCond .lt 46, 3) := by decide +kernel
theorem dX7_putBytes_7 : decode cX7_putBytes 7 = .ok (.aload_n 0, 1) := by decide +kernel
theorem dX7_putBytes_8 : decode cX7_putBytes 8 = .ok (.getfield 13, 3) := by decide +kernel
theorem dX7_putBytes_11 : decode cX7_putBytes 11 = .ok (.sipush 900, 3) := by decide +kernel
theorem dX7_putBytes_14 : decode cX7_putBytes 14 = .ok (.if_icmp .ge 36, 3) := by decide +kernel
theorem dX7_putBytes_17 : decode cX7_putBytes 17 = .ok (.aload_n 0, 1) := by decide +kernel
theorem dX7_putBytes_18 : decode cX7_putBytes 18 = .ok (.getfield 9, 3) := by decide +kernel
theorem dX7_putBytes_21 : decode cX7_putBytes 21 = .ok (.aload_n 0, 1) := by decide +kernel
theorem dX7_putBytes_22 : decode cX7_putBytes 22 = .ok (.getfield 13, 3) := by decide +kernel
theorem dX7_putBytes_25 : decode cX7_putBytes 25 = .ok (.iload_n 1, 1) := by decide +kernel
theorem dX7_putBytes_26 : decode cX7_putBytes 26 = .ok (.iload_n 2, 1) := by decide +kernel
theorem dX7_putBytes_27 : decode cX7_putBytes 27 = .ok (.iushr, 1) := by decide +kernel
theorem dX7_putBytes_28 : decode cX7_putBytes 28 = .ok (.sipush 255, 3) := by decide +kernel
theorem dX7_putBytes_31 : decode cX7_putBytes 31 = .ok (.iand, 1) := by decide +kernel
theorem dX7_putBytes_32 : decode cX7_putBytes 32 = .ok (.i2c, 1) := by decide +kernel
theorem dX7_putBytes_33 : decode cX7_putBytes 33 = .ok (.castore, 1) := by decide +kernel
theorem dX7_putBytes_34 : decode cX7_putBytes 34 = .ok (.aload_n 0, 1) := by decide +kernel
theorem dX7_putBytes_35 : decode cX7_putBytes 35 = .ok (.dup, 1) := by decide +kernel
theorem dX7_putBytes_36 : decode cX7_putBytes 36 = .ok (.getfield 13, 3) := by decide +kernel
theorem dX7_putBytes_39 : decode cX7_putBytes 39 = .ok (.iconst 1, 1) := by decide +kernel
theorem dX7_putBytes_40 : decode cX7_putBytes 40 = .ok (.iadd, 1) := by decide +kernel
theorem dX7_putBytes_41 : decode cX7_putBytes 41 = .ok (.putfield 13, 3) := by decide +kernel
theorem dX7_putBytes_44 : decode cX7_putBytes 44 = .ok (.iinc 2 (-8), 3) := by decide +kernel
theorem dX7_putBytes_47 : decode cX7_putBytes 47 = .ok (.goto (-44), 3) := by decide +kernel
theorem dX7_putBytes_50 : decode cX7_putBytes 50 = .ok (.return_, 1) := by decide +kernel
set_option maxRecDepth 20000 in
set_option maxHeartbeats 4000000 in
theorem vX7_putBytes_0 {l : Launch} {x : CX} {a0 : Nat} {x1 : Int32} {h : PH} {rc rs n0 : Nat} {Q : Option Value → PH → Prop} {X : String → PH → Prop}
    (K : Gm l x mX7_putBytes 0 3 [(0, .ref a0), (1, .int x1), (2, .int 24)] [] h rc rs n0 Q X) :
    Gm l x mX7_putBytes 0 0 [(0, .ref a0), (1, .int x1)] [] h rc rs n0 Q X := by
  refine g_bipush (v := 24) dX7_putBytes_0 (by decide) ?_
  refine g_istore_n (lv' := [(0, .ref a0), (1, .int x1), (2, .int 24)]) dX7_putBytes_2 rfl (by decide) rfl ?_
  exact K
set_option maxRecDepth 20000 in
set_option maxHeartbeats 4000000 in
theorem vX7_putBytes_3 {l : Launch} {x : CX} {a0 : Nat} {x1 : Int32} {x2 : Int32} {h : PH} {rc rs n0 : Nat} {Q : Option Value → PH → Prop} {X : String → PH → Prop}
    (K : ((x2 < 0 → Q none h) ∧ (¬ x2 < 0 → ((hK h a0).1 = 7) ∧ ((900 ≤ (hI h a0 1) → Q none h) ∧ (¬ 900 ≤ (hI h a0 1) → ∃ b4, (hR h a0 0 = some b4) ∧ ((hK h b4).1 = 101) ∧ (vp_in (hI h a0 1) (hK h b4).2) ∧ Gm l x mX7_putBytes 0 3 [(0, .ref a0), (1, .int x1), (2, .int (x2 + (-8)))] [] (sI (sI h b4 (hI h a0 1).toNatClampNeg (vp_nar .char (((ius x1 x2) &&& 255).toUInt32 % 65536).toInt32)) a0 1 ((hI (sI h b4 (hI h a0 1).toNatClampNeg (vp_nar .char (((ius x1 x2) &&& 255).toUInt32 % 65536).toInt32)) a0 1) + 1)) rc rs n0 Q X))))) :
    Gm l x mX7_putBytes 0 3 [(0, .ref a0), (1, .int x1), (2, .int x2)] [] h rc rs n0 Q X := by
  refine g_iload_n dX7_putBytes_3 rfl 2 rfl ?_
  refine g_if_lt (tgt := 50) dX7_putBytes_4 (by decide) (fun c1 => ?_) (fun c1 => ?_)
  · replace K := K.1 c1
    exact g_vret dX7_putBytes_50 rfl K
  · replace K := K.2 c1
    refine g_aload_n dX7_putBytes_7 rfl 0 rfl ?_
    obtain ⟨e2, K⟩ := K
    refine g_get (c := 7) (k := 1) (v := .int (hI h a0 1)) dX7_putBytes_8 fc_7 (by decide) (by decide) bw_396 rfl e2 ?_
    refine g_sipush (v := 900) dX7_putBytes_11 (by decide) ?_
    refine g_icmp_ge (tgt := 50) dX7_putBytes_14 (by decide) (fun c3 => ?_) (fun c3 => ?_)
    · replace K := K.1 c3
      exact g_vret dX7_putBytes_50 rfl K
    · replace K := K.2 c3
      refine g_aload_n dX7_putBytes_17 rfl 0 rfl ?_
      obtain ⟨b4, e5, K⟩ := K
      refine g_get (c := 7) (k := 0) (v := .ref b4) dX7_putBytes_18 fc_7 (by decide) (by decide) bw_395 (congrArg pr e5) e2 ?_
      refine g_aload_n dX7_putBytes_21 rfl 0 rfl ?_
      refine g_get (c := 7) (k := 1) (v := .int (hI h a0 1)) dX7_putBytes_22 fc_7 (by decide) (by decide) bw_396 rfl e2 ?_
      refine g_iload_n dX7_putBytes_25 rfl 1 rfl ?_
      refine g_iload_n dX7_putBytes_26 rfl 2 rfl ?_
      refine g_iushr dX7_putBytes_27 ?_
      refine g_sipush (v := 255) dX7_putBytes_28 (by decide) ?_
      refine g_iand dX7_putBytes_31 ?_
      refine g_i2c dX7_putBytes_32 ?_
      obtain ⟨e6, e7, K⟩ := K
      refine g_cast dX7_putBytes_33 e6 e7 ?_
      refine g_aload_n dX7_putBytes_34 rfl 0 rfl ?_
      refine g_dup dX7_putBytes_35 rfl ?_
      refine g_get (c := 7) (k := 1) (v := .int (hI (sI h b4 (hI h a0 1).toNatClampNeg (vp_nar .char (((ius x1 x2) &&& 255).toUInt32 % 65536).toInt32)) a0 1)) dX7_putBytes_36 fc_7 (by decide) (by decide) bw_396 rfl (kkI e2) ?_
      refine g_iconst (v := 1) dX7_putBytes_39 (by decide) ?_
      refine g_iadd dX7_putBytes_40 ?_
      refine g_puti (c := 7) (k := 1) dX7_putBytes_41 fc_7 (by decide) (by decide) bw_396 (Or.inl rfl) rfl (kkI e2) ?_
      refine g_iinc (v := (x2 + (-8))) (lv' := [(0, .ref a0), (1, .int x1), (2, .int (x2 + (-8)))]) dX7_putBytes_44 2 rfl (by rfl) (by decide) rfl ?_
      refine g_goto (tgt := 3) dX7_putBytes_47 (by decide) ?_
      exact K
theorem dX7_fault_0 : decode cX7_fault 0 = .ok (.aload_n 0, 1) := by decide +kernel
theorem dX7_fault_1 : decode cX7_fault 1 = .ok (.getfield 17, 3) := by decide +kernel
theorem dX7_fault_4 : decode cX7_fault 4 = .ok (.ireturn, 1) := by decide +kernel
set_option maxRecDepth 20000 in
set_option maxHeartbeats 4000000 in
theorem vX7_fault_0 {l : Launch} {x : CX} {a0 : Nat} {h : PH} {rc rs n0 : Nat} {Q : Option Value → PH → Prop} {X : String → PH → Prop}
    (K : ((hK h a0).1 = 7) ∧ Q (some (.int (hI h a0 2))) h) :
    Gm l x mX7_fault 0 0 [(0, .ref a0)] [] h rc rs n0 Q X := by
  refine g_aload_n dX7_fault_0 rfl 0 rfl ?_
  obtain ⟨e1, K⟩ := K
  refine g_get (c := 7) (k := 2) (v := .int (hI h a0 2)) dX7_fault_1 fc_7 (by decide) (by decide) bw_397 rfl e1 ?_
  exact g_iret dX7_fault_4 rfl K
theorem dX7_refuseAct_0 : decode cX7_refuseAct 0 = .ok (.aload_n 0, 1) := by decide +kernel
theorem dX7_refuseAct_1 : decode cX7_refuseAct 1 = .ok (.getfield 46, 3) := by decide +kernel
theorem dX7_refuseAct_4 : decode cX7_refuseAct 4 = .ok (.getfield 75, 3) := by decide +kernel
theorem dX7_refuseAct_7 : decode cX7_refuseAct 7 = .ok (.iconst 1, 1) := by decide +kernel
theorem dX7_refuseAct_8 : decode cX7_refuseAct 8 = .ok (.dup2, 1) := by decide +kernel
theorem dX7_refuseAct_9 : decode cX7_refuseAct 9 = .ok (.iaload, 1) := by decide +kernel
theorem dX7_refuseAct_10 : decode cX7_refuseAct 10 = .ok (.iconst 1, 1) := by decide +kernel
theorem dX7_refuseAct_11 : decode cX7_refuseAct 11 = .ok (.iadd, 1) := by decide +kernel
theorem dX7_refuseAct_12 : decode cX7_refuseAct 12 = .ok (.iastore, 1) := by decide +kernel
theorem dX7_refuseAct_13 : decode cX7_refuseAct 13 = .ok (.iconst (-1), 1) := by decide +kernel
theorem dX7_refuseAct_14 : decode cX7_refuseAct 14 = .ok (.ireturn, 1) := by decide +kernel
set_option maxRecDepth 20000 in
set_option maxHeartbeats 4000000 in
theorem vX7_refuseAct_0 {l : Launch} {x : CX} {a0 : Nat} {h : PH} {rc rs n0 : Nat} {Q : Option Value → PH → Prop} {X : String → PH → Prop}
    (K : ((hK h a0).1 = 7) ∧ ∃ b2, (hR h a0 6 = some b2) ∧ ((hK h b2).1 = 3) ∧ ∃ b5, (hR h b2 5 = some b5) ∧ ((hK h b5).1 = 100) ∧ (vp_in 1 (hK h b5).2) ∧ (vp_in 1 (hK h b5).2) ∧ Q (some (.int (-1))) (sI h b5 (Int32.toNatClampNeg 1) ((hI h b5 (Int32.toNatClampNeg 1)) + 1))) :
    Gm l x mX7_refuseAct 0 0 [(0, .ref a0)] [] h rc rs n0 Q X := by
  refine g_aload_n dX7_refuseAct_0 rfl 0 rfl ?_
  obtain ⟨e1, b2, e3, K⟩ := K
  refine g_get (c := 7) (k := 6) (v := .ref b2) dX7_refuseAct_1 fc_7 (by decide) (by decide) bw_401 (congrArg pr e3) e1 ?_
  obtain ⟨e4, b5, e6, K⟩ := K
  refine g_get (c := 3) (k := 5) (v := .ref b5) dX7_refuseAct_4 fc_3 (by decide) (by decide) bw_381 (congrArg pr e6) e4 ?_
  refine g_iconst (v := 1) dX7_refuseAct_7 (by decide) ?_
  refine g_dup2 dX7_refuseAct_8 rfl rfl ?_
  obtain ⟨e7, e8, K⟩ := K
  refine g_iald dX7_refuseAct_9 e7 e8 ?_
  refine g_iconst (v := 1) dX7_refuseAct_10 (by decide) ?_
  refine g_iadd dX7_refuseAct_11 ?_
  obtain ⟨e9, K⟩ := K
  refine g_iast dX7_refuseAct_12 e7 e9 ?_
  refine g_iconst (v := (-1)) dX7_refuseAct_13 (by decide) ?_
  exact g_iret dX7_refuseAct_14 rfl K
theorem dX7_forget_0 : decode cX7_forget 0 = .ok (.aload_n 0, 1) := by decide +kernel
theorem dX7_forget_1 : decode cX7_forget 1 = .ok (.getfield 46, 3) := by decide +kernel
theorem dX7_forget_4 : decode cX7_forget 4 = .ok (.iconst 0, 1) := by decide +kernel
theorem dX7_forget_5 : decode cX7_forget 5 = .ok (.putfield 162, 3) := by decide +kernel
theorem dX7_forget_8 : decode cX7_forget 8 = .ok (.return_, 1) := by decide +kernel
set_option maxRecDepth 20000 in
set_option maxHeartbeats 4000000 in
theorem vX7_forget_0 {l : Launch} {x : CX} {a0 : Nat} {h : PH} {rc rs n0 : Nat} {Q : Option Value → PH → Prop} {X : String → PH → Prop}
    (K : ((hK h a0).1 = 7) ∧ ∃ b2, (hR h a0 6 = some b2) ∧ ((hK h b2).1 = 3) ∧ Q none (sI h b2 4 0)) :
    Gm l x mX7_forget 0 0 [(0, .ref a0)] [] h rc rs n0 Q X := by
  refine g_aload_n dX7_forget_0 rfl 0 rfl ?_
  obtain ⟨e1, b2, e3, K⟩ := K
  refine g_get (c := 7) (k := 6) (v := .ref b2) dX7_forget_1 fc_7 (by decide) (by decide) bw_401 (congrArg pr e3) e1 ?_
  refine g_iconst (v := 0) dX7_forget_4 (by decide) ?_
  obtain ⟨e4, K⟩ := K
  refine g_puti (c := 3) (k := 4) dX7_forget_5 fc_3 (by decide) (by decide) bw_379 (Or.inl rfl) rfl e4 ?_
  exact g_vret dX7_forget_8 rfl K
theorem dX7_isTold_0 : decode cX7_isTold 0 = .ok (.iload_n 1, 1) := by decide +kernel
theorem dX7_isTold_1 : decode cX7_isTold 1 = .ok (.ifCond .lt 21, 3) := by decide +kernel
theorem dX7_isTold_4 : decode cX7_isTold 4 = .ok (.iload_n 1, 1) := by decide +kernel
theorem dX7_isTold_5 : decode cX7_isTold 5 = .ok (.aload_n 0, 1) := by decide +kernel
theorem dX7_isTold_6 : decode cX7_isTold 6 = .ok (.getfield 39, 3) := by decide +kernel
theorem dX7_isTold_9 : decode cX7_isTold 9 = .ok (.getfield 326, 3) := by decide +kernel
theorem dX7_isTold_12 : decode cX7_isTold 12 = .ok (.getfield 93, 3) := by decide +kernel
theorem dX7_isTold_15 : decode cX7_isTold 15 = .ok (.if_icmp .ge 7, 3) := by decide +kernel
theorem dX7_isTold_18 : decode cX7_isTold 18 = .ok (.iconst 1, 1) := by decide +kernel
theorem dX7_isTold_19 : decode cX7_isTold 19 = .ok (.goto 4, 3) := by decide +kernel
theorem dX7_isTold_22 : decode cX7_isTold 22 = .ok (.iconst 0, 1) := by decide +kernel
theorem dX7_isTold_23 : decode cX7_isTold 23 = .ok (.ireturn, 1) := by decide +kernel
set_option maxRecDepth 20000 in
set_option maxHeartbeats 4000000 in
theorem vX7_isTold_0 {l : Launch} {x : CX} {a0 : Nat} {x1 : Int32} {h : PH} {rc rs n0 : Nat} {Q : Option Value → PH → Prop} {X : String → PH → Prop}
    (K : ((x1 < 0 → ((0 : Int32) = 0 ∨ (0 : Int32) = 1) ∧ Q (some (.int 0)) h) ∧ (¬ x1 < 0 → ((hK h a0).1 = 7) ∧ ∃ b3, (hR h a0 5 = some b3) ∧ ((hK h b3).1 = 5) ∧ ∃ b6, (hR h b3 0 = some b6) ∧ ((hK h b6).1 = 1) ∧ (((if (hI h b6 2) ≤ x1 then 0 else 1 : Int32) : Int32) = 0 ∨ ((if (hI h b6 2) ≤ x1 then 0 else 1 : Int32) : Int32) = 1) ∧ Q (some (.int (if (hI h b6 2) ≤ x1 then 0 else 1 : Int32))) h))) :
    Gm l x mX7_isTold 0 0 [(0, .ref a0), (1, .int x1)] [] h rc rs n0 Q X := by
  refine g_iload_n dX7_isTold_0 rfl 1 rfl ?_
  refine g_if_lt (tgt := 22) dX7_isTold_1 (by decide) (fun c1 => ?_) (fun c1 => ?_)
  · replace K := K.1 c1
    refine g_iconst (v := 0) dX7_isTold_22 (by decide) ?_
    exact g_zret dX7_isTold_23 rfl K.1 K.2
  · replace K := K.2 c1
    refine g_iload_n dX7_isTold_4 rfl 1 rfl ?_
    refine g_aload_n dX7_isTold_5 rfl 0 rfl ?_
    obtain ⟨e2, b3, e4, K⟩ := K
    refine g_get (c := 7) (k := 5) (v := .ref b3) dX7_isTold_6 fc_7 (by decide) (by decide) bw_400 (congrArg pr e4) e2 ?_
    obtain ⟨e5, b6, e7, K⟩ := K
    refine g_get (c := 5) (k := 0) (v := .ref b6) dX7_isTold_9 fc_5 (by decide) (by decide) bw_308 (congrArg pr e7) e5 ?_
    obtain ⟨e8, K⟩ := K
    refine g_get (c := 1) (k := 2) (v := .int (hI h b6 2)) dX7_isTold_12 fc_1 (by decide) (by decide) bw_188 rfl e8 ?_
    have KJ : Gm l x mX7_isTold 0 23 [(0, .ref a0), (1, .int x1)] [.int (if (hI h b6 2) ≤ x1 then 0 else 1 : Int32)] h rc rs n0 Q X := by
      exact g_zret dX7_isTold_23 rfl K.1 K.2
    refine g_icmp_ge (tgt := 22) dX7_isTold_15 (by decide) (fun c9 => ?_) (fun c9 => ?_)
    · refine g_iconst (v := 0) dX7_isTold_22 (by decide) ?_
      first | (simp only [if_pos c9] at KJ; exact KJ) | (simp only [if_pos c9, ite_true, ite_false, eq_self] at KJ; exact KJ) | (simp only [if_pos c9] at KJ ⊢; exact KJ) | exact KJ
    · refine g_iconst (v := 1) dX7_isTold_18 (by decide) ?_
      refine g_goto (tgt := 23) dX7_isTold_19 (by decide) ?_
      first | (simp only [if_neg c9] at KJ; exact KJ) | (simp only [if_neg c9, ite_true, ite_false, eq_self] at KJ; exact KJ) | (simp only [if_neg c9] at KJ ⊢; exact KJ) | exact KJ
theorem dX7_isSort_0 : decode cX7_isSort 0 = .ok (.iload_n 0, 1) := by decide +kernel
theorem dX7_isSort_1 : decode cX7_isSort 1 = .ok (.iconst 1, 1) := by decide +kernel
theorem dX7_isSort_2 : decode cX7_isSort 2 = .ok (.if_icmp .eq 8, 3) := by decide +kernel
theorem dX7_isSort_5 : decode cX7_isSort 5 = .ok (.iload_n 0, 1) := by decide +kernel
theorem dX7_isSort_6 : decode cX7_isSort 6 = .ok (.iconst 2, 1) := by decide +kernel
theorem dX7_isSort_7 : decode cX7_isSort 7 = .ok (.if_icmp .ne 7, 3) := by decide +kernel
theorem dX7_isSort_10 : decode cX7_isSort 10 = .ok (.iconst 1, 1) := by decide +kernel
theorem dX7_isSort_11 : decode cX7_isSort 11 = .ok (.goto 4, 3) := by decide +kernel
theorem dX7_isSort_14 : decode cX7_isSort 14 = .ok (.iconst 0, 1) := by decide +kernel
theorem dX7_isSort_15 : decode cX7_isSort 15 = .ok (.ireturn, 1) := by decide +kernel
set_option maxRecDepth 20000 in
set_option maxHeartbeats 4000000 in
theorem vX7_isSort_0 {l : Launch} {x : CX} {x0 : Int32} {h : PH} {rc rs n0 : Nat} {Q : Option Value → PH → Prop} {X : String → PH → Prop}
    (K : (((if x0 = 1 then 1 else (if x0 = 2 then 1 else 0 : Int32) : Int32) : Int32) = 0 ∨ ((if x0 = 1 then 1 else (if x0 = 2 then 1 else 0 : Int32) : Int32) : Int32) = 1) ∧ Q (some (.int (if x0 = 1 then 1 else (if x0 = 2 then 1 else 0 : Int32) : Int32))) h) :
    Gm l x mX7_isSort 0 0 [(0, .int x0)] [] h rc rs n0 Q X := by
  refine g_iload_n dX7_isSort_0 rfl 0 rfl ?_
  refine g_iconst (v := 1) dX7_isSort_1 (by decide) ?_
  have KJ : Gm l x mX7_isSort 0 15 [(0, .int x0)] [.int (if x0 = 1 then 1 else (if x0 = 2 then 1 else 0 : Int32) : Int32)] h rc rs n0 Q X := by
    exact g_zret dX7_isSort_15 rfl K.1 K.2
  refine g_icmp_eq (tgt := 10) dX7_isSort_2 (by decide) (fun c1 => ?_) (fun c1 => ?_)
  · refine g_iconst (v := 1) dX7_isSort_10 (by decide) ?_
    refine g_goto (tgt := 15) dX7_isSort_11 (by decide) ?_
    first | (simp only [if_pos c1] at KJ; exact KJ) | (simp only [if_pos c1, ite_true, ite_false, eq_self] at KJ; exact KJ) | (simp only [if_pos c1] at KJ ⊢; exact KJ) | exact KJ
  · refine g_iload_n dX7_isSort_5 rfl 0 rfl ?_
    refine g_iconst (v := 2) dX7_isSort_6 (by decide) ?_
    refine g_icmp_ne (tgt := 14) dX7_isSort_7 (by decide) (fun c2 => ?_) (fun c2 => ?_)
    · refine g_iconst (v := 0) dX7_isSort_14 (by decide) ?_
      first | (simp only [if_neg c1, if_neg c2] at KJ; exact KJ) | (simp only [if_neg c1, if_neg c2, ite_true, ite_false, eq_self] at KJ; exact KJ) | (simp only [if_neg c1, if_neg c2] at KJ ⊢; exact KJ) | exact KJ
    · refine g_iconst (v := 1) dX7_isSort_10 (by decide) ?_
      refine g_goto (tgt := 15) dX7_isSort_11 (by decide) ?_
      first | (simp only [if_neg c1, if_pos c2] at KJ; exact KJ) | (simp only [if_neg c1, if_pos c2, ite_true, ite_false, eq_self] at KJ; exact KJ) | (simp only [if_neg c1, if_pos c2] at KJ ⊢; exact KJ) | exact KJ
theorem dX7_isPolicy_0 : decode cX7_isPolicy 0 = .ok (.iload_n 0, 1) := by decide +kernel
theorem dX7_isPolicy_1 : decode cX7_isPolicy 1 = .ok (.ifCond .lt 12, 3) := by decide +kernel
theorem dX7_isPolicy_4 : decode cX7_isPolicy 4 = .ok (.iload_n 0, 1) := by decide +kernel
theorem dX7_isPolicy_5 : decode cX7_isPolicy 5 = .ok (.iconst 3, 1) := by decide +kernel
theorem dX7_isPolicy_6 : decode cX7_isPolicy 6 = .ok (.if_icmp .ge 7, 3) := by decide +kernel
theorem dX7_isPolicy_9 : decode cX7_isPolicy 9 = .ok (.iconst 1, 1) := by decide +kernel
theorem dX7_isPolicy_10 : decode cX7_isPolicy 10 = .ok (.goto 4, 3) := by decide +kernel
theorem dX7_isPolicy_13 : decode cX7_isPolicy 13 = .ok (.iconst 0, 1) := by decide +kernel
theorem dX7_isPolicy_14 : decode cX7_isPolicy 14 = .ok (.ireturn, 1) := by decide +kernel
set_option maxRecDepth 20000 in
set_option maxHeartbeats 4000000 in
theorem vX7_isPolicy_0 {l : Launch} {x : CX} {x0 : Int32} {h : PH} {rc rs n0 : Nat} {Q : Option Value → PH → Prop} {X : String → PH → Prop}
    (K : (((if x0 < 0 then 0 else (if 3 ≤ x0 then 0 else 1 : Int32) : Int32) : Int32) = 0 ∨ ((if x0 < 0 then 0 else (if 3 ≤ x0 then 0 else 1 : Int32) : Int32) : Int32) = 1) ∧ Q (some (.int (if x0 < 0 then 0 else (if 3 ≤ x0 then 0 else 1 : Int32) : Int32))) h) :
    Gm l x mX7_isPolicy 0 0 [(0, .int x0)] [] h rc rs n0 Q X := by
  refine g_iload_n dX7_isPolicy_0 rfl 0 rfl ?_
  have KJ : Gm l x mX7_isPolicy 0 14 [(0, .int x0)] [.int (if x0 < 0 then 0 else (if 3 ≤ x0 then 0 else 1 : Int32) : Int32)] h rc rs n0 Q X := by
    exact g_zret dX7_isPolicy_14 rfl K.1 K.2
  refine g_if_lt (tgt := 13) dX7_isPolicy_1 (by decide) (fun c1 => ?_) (fun c1 => ?_)
  · refine g_iconst (v := 0) dX7_isPolicy_13 (by decide) ?_
    first | (simp only [if_pos c1] at KJ; exact KJ) | (simp only [if_pos c1, ite_true, ite_false, eq_self] at KJ; exact KJ) | (simp only [if_pos c1] at KJ ⊢; exact KJ) | exact KJ
  · refine g_iload_n dX7_isPolicy_4 rfl 0 rfl ?_
    refine g_iconst (v := 3) dX7_isPolicy_5 (by decide) ?_
    refine g_icmp_ge (tgt := 13) dX7_isPolicy_6 (by decide) (fun c2 => ?_) (fun c2 => ?_)
    · refine g_iconst (v := 0) dX7_isPolicy_13 (by decide) ?_
      first | (simp only [if_neg c1, if_pos c2] at KJ; exact KJ) | (simp only [if_neg c1, if_pos c2, ite_true, ite_false, eq_self] at KJ; exact KJ) | (simp only [if_neg c1, if_pos c2] at KJ ⊢; exact KJ) | exact KJ
    · refine g_iconst (v := 1) dX7_isPolicy_9 (by decide) ?_
      refine g_goto (tgt := 14) dX7_isPolicy_10 (by decide) ?_
      first | (simp only [if_neg c1, if_neg c2] at KJ; exact KJ) | (simp only [if_neg c1, if_neg c2, ite_true, ite_false, eq_self] at KJ; exact KJ) | (simp only [if_neg c1, if_neg c2] at KJ ⊢; exact KJ) | exact KJ
theorem dX7_isLate_0 : decode cX7_isLate 0 = .ok (.iload_n 0, 1) := by decide +kernel
theorem dX7_isLate_1 : decode cX7_isLate 1 = .ok (.ifCond .lt 13, 3) := by decide +kernel
theorem dX7_isLate_4 : decode cX7_isLate 4 = .ok (.iload_n 0, 1) := by decide +kernel
theorem dX7_isLate_5 : decode cX7_isLate 5 = .ok (.bipush 12, 2) := by decide +kernel
theorem dX7_isLate_7 : decode cX7_isLate 7 = .ok (.if_icmp .ge 7, 3) := by decide +kernel
theorem dX7_isLate_10 : decode cX7_isLate 10 = .ok (.iconst 1, 1) := by decide +kernel
theorem dX7_isLate_11 : decode cX7_isLate 11 = .ok (.goto 4, 3) := by decide +kernel
theorem dX7_isLate_14 : decode cX7_isLate 14 = .ok (.iconst 0, 1) := by decide +kernel
theorem dX7_isLate_15 : decode cX7_isLate 15 = .ok (.ireturn, 1) := by decide +kernel
set_option maxRecDepth 20000 in
set_option maxHeartbeats 4000000 in
theorem vX7_isLate_0 {l : Launch} {x : CX} {x0 : Int32} {h : PH} {rc rs n0 : Nat} {Q : Option Value → PH → Prop} {X : String → PH → Prop}
    (K : (((if x0 < 0 then 0 else (if 12 ≤ x0 then 0 else 1 : Int32) : Int32) : Int32) = 0 ∨ ((if x0 < 0 then 0 else (if 12 ≤ x0 then 0 else 1 : Int32) : Int32) : Int32) = 1) ∧ Q (some (.int (if x0 < 0 then 0 else (if 12 ≤ x0 then 0 else 1 : Int32) : Int32))) h) :
    Gm l x mX7_isLate 0 0 [(0, .int x0)] [] h rc rs n0 Q X := by
  refine g_iload_n dX7_isLate_0 rfl 0 rfl ?_
  have KJ : Gm l x mX7_isLate 0 15 [(0, .int x0)] [.int (if x0 < 0 then 0 else (if 12 ≤ x0 then 0 else 1 : Int32) : Int32)] h rc rs n0 Q X := by
    exact g_zret dX7_isLate_15 rfl K.1 K.2
  refine g_if_lt (tgt := 14) dX7_isLate_1 (by decide) (fun c1 => ?_) (fun c1 => ?_)
  · refine g_iconst (v := 0) dX7_isLate_14 (by decide) ?_
    first | (simp only [if_pos c1] at KJ; exact KJ) | (simp only [if_pos c1, ite_true, ite_false, eq_self] at KJ; exact KJ) | (simp only [if_pos c1] at KJ ⊢; exact KJ) | exact KJ
  · refine g_iload_n dX7_isLate_4 rfl 0 rfl ?_
    refine g_bipush (v := 12) dX7_isLate_5 (by decide) ?_
    refine g_icmp_ge (tgt := 14) dX7_isLate_7 (by decide) (fun c2 => ?_) (fun c2 => ?_)
    · refine g_iconst (v := 0) dX7_isLate_14 (by decide) ?_
      first | (simp only [if_neg c1, if_pos c2] at KJ; exact KJ) | (simp only [if_neg c1, if_pos c2, ite_true, ite_false, eq_self] at KJ; exact KJ) | (simp only [if_neg c1, if_pos c2] at KJ ⊢; exact KJ) | exact KJ
    · refine g_iconst (v := 1) dX7_isLate_10 (by decide) ?_
      refine g_goto (tgt := 15) dX7_isLate_11 (by decide) ?_
      first | (simp only [if_neg c1, if_neg c2] at KJ; exact KJ) | (simp only [if_neg c1, if_neg c2, ite_true, ite_false, eq_self] at KJ; exact KJ) | (simp only [if_neg c1, if_neg c2] at KJ ⊢; exact KJ) | exact KJ
theorem dX7_nextSeed_0 : decode cX7_nextSeed 0 = .ok (.iload_n 0, 1) := by decide +kernel
theorem dX7_nextSeed_1 : decode cX7_nextSeed 1 = .ok (.ldc_w 404, 3) := by decide +kernel
theorem dX7_nextSeed_4 : decode cX7_nextSeed 4 = .ok (.imul, 1) := by decide +kernel
theorem dX7_nextSeed_5 : decode cX7_nextSeed 5 = .ok (.sipush 12345, 3) := by decide +kernel
theorem dX7_nextSeed_8 : decode cX7_nextSeed 8 = .ok (.iadd, 1) := by decide +kernel
theorem dX7_nextSeed_9 : decode cX7_nextSeed 9 = .ok (.ireturn, 1) := by decide +kernel
set_option maxRecDepth 20000 in
set_option maxHeartbeats 4000000 in
theorem vX7_nextSeed_0 {l : Launch} {x : CX} {x0 : Int32} {h : PH} {rc rs n0 : Nat} {Q : Option Value → PH → Prop} {X : String → PH → Prop}
    (K : Q (some (.int ((x0 * 1103515245) + 12345))) h) :
    Gm l x mX7_nextSeed 0 0 [(0, .int x0)] [] h rc rs n0 Q X := by
  refine g_iload_n dX7_nextSeed_0 rfl 0 rfl ?_
  refine g_ldcw (v := 1103515245) dX7_nextSeed_1 bw_1159 ?_
  refine g_imul dX7_nextSeed_4 ?_
  refine g_sipush (v := 12345) dX7_nextSeed_5 (by decide) ?_
  refine g_iadd dX7_nextSeed_8 ?_
  exact g_iret dX7_nextSeed_9 rfl K
theorem dX7_drawOf_0 : decode cX7_drawOf 0 = .ok (.iload_n 1, 1) := by decide +kernel
theorem dX7_drawOf_1 : decode cX7_drawOf 1 = .ok (.iconst 1, 1) := by decide +kernel
theorem dX7_drawOf_2 : decode cX7_drawOf 2 = .ok (.if_icmp .ge 7, 3) := by decide +kernel
theorem dX7_drawOf_5 : decode cX7_drawOf 5 = .ok (.iconst 0, 1) := by decide +kernel
theorem dX7_drawOf_6 : decode cX7_drawOf 6 = .ok (.goto 13, 3) := by decide +kernel
theorem dX7_drawOf_9 : decode cX7_drawOf 9 = .ok (.iload_n 0, 1) := by decide +kernel
theorem dX7_drawOf_10 : decode cX7_drawOf 10 = .ok (.bipush 16, 2) := by decide +kernel
theorem dX7_drawOf_12 : decode cX7_drawOf 12 = .ok (.iushr, 1) := by decide +kernel
theorem dX7_drawOf_13 : decode cX7_drawOf 13 = .ok (.sipush 32767, 3) := by decide +kernel
theorem dX7_drawOf_16 : decode cX7_drawOf 16 = .ok (.iand, 1) := by decide +kernel
theorem dX7_drawOf_17 : decode cX7_drawOf 17 = .ok (.iload_n 1, 1) := by decide +kernel
theorem dX7_drawOf_18 : decode cX7_drawOf 18 = .ok (.irem, 1) := by decide +kernel
theorem dX7_drawOf_19 : decode cX7_drawOf 19 = .ok (.ireturn, 1) := by decide +kernel
set_option maxRecDepth 20000 in
set_option maxHeartbeats 4000000 in
theorem vX7_drawOf_0 {l : Launch} {x : CX} {x0 : Int32} {x1 : Int32} {h : PH} {rc rs n0 : Nat} {Q : Option Value → PH → Prop} {X : String → PH → Prop}
    (K : ((1 ≤ x1 → (¬ x1 = 0) ∧ Q (some (.int (((ius x0 16) &&& 32767) - ((ius x0 16) &&& 32767) / x1 * x1))) h) ∧ (¬ 1 ≤ x1 → Q (some (.int 0)) h))) :
    Gm l x mX7_drawOf 0 0 [(0, .int x0), (1, .int x1)] [] h rc rs n0 Q X := by
  refine g_iload_n dX7_drawOf_0 rfl 1 rfl ?_
  refine g_iconst (v := 1) dX7_drawOf_1 (by decide) ?_
  refine g_icmp_ge (tgt := 9) dX7_drawOf_2 (by decide) (fun c1 => ?_) (fun c1 => ?_)
  · replace K := K.1 c1
    refine g_iload_n dX7_drawOf_9 rfl 0 rfl ?_
    refine g_bipush (v := 16) dX7_drawOf_10 (by decide) ?_
    refine g_iushr dX7_drawOf_12 ?_
    refine g_sipush (v := 32767) dX7_drawOf_13 (by decide) ?_
    refine g_iand dX7_drawOf_16 ?_
    refine g_iload_n dX7_drawOf_17 rfl 1 rfl ?_
    obtain ⟨e2, K⟩ := K
    refine g_irem dX7_drawOf_18 e2 ?_
    exact g_iret dX7_drawOf_19 rfl K
  · replace K := K.2 c1
    refine g_iconst (v := 0) dX7_drawOf_5 (by decide) ?_
    refine g_goto (tgt := 19) dX7_drawOf_6 (by decide) ?_
    exact g_iret dX7_drawOf_19 rfl K
theorem dX7_callNumber_0 : decode cX7_callNumber 0 = .ok (.iconst 4, 1) := by decide +kernel
theorem dX7_callNumber_1 : decode cX7_callNumber 1 = .ok (.iload_n 0, 1) := by decide +kernel
theorem dX7_callNumber_2 : decode cX7_callNumber 2 = .ok (.imul, 1) := by decide +kernel
theorem dX7_callNumber_3 : decode cX7_callNumber 3 = .ok (.iload_n 1, 1) := by decide +kernel
theorem dX7_callNumber_4 : decode cX7_callNumber 4 = .ok (.ifCond .le 7, 3) := by decide +kernel
theorem dX7_callNumber_7 : decode cX7_callNumber 7 = .ok (.iconst 0, 1) := by decide +kernel
theorem dX7_callNumber_8 : decode cX7_callNumber 8 = .ok (.goto 4, 3) := by decide +kernel
theorem dX7_callNumber_11 : decode cX7_callNumber 11 = .ok (.iconst 2, 1) := by decide +kernel
theorem dX7_callNumber_12 : decode cX7_callNumber 12 = .ok (.iadd, 1) := by decide +kernel
theorem dX7_callNumber_13 : decode cX7_callNumber 13 = .ok (.iload_n 2, 1) := by decide +kernel
theorem dX7_callNumber_14 : decode cX7_callNumber 14 = .ok (.iconst 1, 1) := by decide +kernel
theorem dX7_callNumber_15 : decode cX7_callNumber 15 = .ok (.if_icmp .ne 7, 3) := by decide +kernel
theorem dX7_callNumber_18 : decode cX7_callNumber 18 = .ok (.iconst 0, 1) := by decide +kernel
theorem dX7_callNumber_19 : decode cX7_callNumber 19 = .ok (.goto 4, 3) := by decide +kernel
theorem dX7_callNumber_22 : decode cX7_callNumber 22 = .ok (.iconst 1, 1) := by decide +kernel
theorem dX7_callNumber_23 : decode cX7_callNumber 23 = .ok (.iadd, 1) := by decide +kernel
theorem dX7_callNumber_24 : decode cX7_callNumber 24 = .ok (.ireturn, 1) := by decide +kernel
set_option maxRecDepth 20000 in
set_option maxHeartbeats 4000000 in
theorem vX7_callNumber_0 {l : Launch} {x : CX} {x0 : Int32} {x1 : Int32} {x2 : Int32} {h : PH} {rc rs n0 : Nat} {Q : Option Value → PH → Prop} {X : String → PH → Prop}
    (K : Q (some (.int (((4 * x0) + (if x1 ≤ 0 then 2 else 0 : Int32)) + (if x2 = 1 then 0 else 1 : Int32)))) h) :
    Gm l x mX7_callNumber 0 0 [(0, .int x0), (1, .int x1), (2, .int x2)] [] h rc rs n0 Q X := by
  refine g_iconst (v := 4) dX7_callNumber_0 (by decide) ?_
  refine g_iload_n dX7_callNumber_1 rfl 0 rfl ?_
  refine g_imul dX7_callNumber_2 ?_
  refine g_iload_n dX7_callNumber_3 rfl 1 rfl ?_
  have KJ : Gm l x mX7_callNumber 0 12 [(0, .int x0), (1, .int x1), (2, .int x2)] [.int (if x1 ≤ 0 then 2 else 0 : Int32), .int (4 * x0)] h rc rs n0 Q X := by
    refine g_iadd dX7_callNumber_12 ?_
    refine g_iload_n dX7_callNumber_13 rfl 2 rfl ?_
    refine g_iconst (v := 1) dX7_callNumber_14 (by decide) ?_
    have KJ : Gm l x mX7_callNumber 0 23 [(0, .int x0), (1, .int x1), (2, .int x2)] [.int (if x2 = 1 then 0 else 1 : Int32), .int ((4 * x0) + (if x1 ≤ 0 then 2 else 0 : Int32))] h rc rs n0 Q X := by
      refine g_iadd dX7_callNumber_23 ?_
      exact g_iret dX7_callNumber_24 rfl K
    refine g_icmp_ne (tgt := 22) dX7_callNumber_15 (by decide) (fun c2 => ?_) (fun c2 => ?_)
    · refine g_iconst (v := 1) dX7_callNumber_22 (by decide) ?_
      first | (simp only [if_neg c2] at KJ; exact KJ) | (simp only [if_neg c2, ite_true, ite_false, eq_self] at KJ; exact KJ) | (simp only [if_neg c2] at KJ ⊢; exact KJ) | exact KJ
    · refine g_iconst (v := 0) dX7_callNumber_18 (by decide) ?_
      refine g_goto (tgt := 23) dX7_callNumber_19 (by decide) ?_
      first | (simp only [if_pos c2] at KJ; exact KJ) | (simp only [if_pos c2, ite_true, ite_false, eq_self] at KJ; exact KJ) | (simp only [if_pos c2] at KJ ⊢; exact KJ) | exact KJ
  refine g_if_le (tgt := 11) dX7_callNumber_4 (by decide) (fun c1 => ?_) (fun c1 => ?_)
  · refine g_iconst (v := 2) dX7_callNumber_11 (by decide) ?_
    first | (simp only [if_pos c1] at KJ; exact KJ) | (simp only [if_pos c1, ite_true, ite_false, eq_self] at KJ; exact KJ) | (simp only [if_pos c1] at KJ ⊢; exact KJ) | exact KJ
  · refine g_iconst (v := 0) dX7_callNumber_7 (by decide) ?_
    refine g_goto (tgt := 12) dX7_callNumber_8 (by decide) ?_
    first | (simp only [if_neg c1] at KJ; exact KJ) | (simp only [if_neg c1, ite_true, ite_false, eq_self] at KJ; exact KJ) | (simp only [if_neg c1] at KJ ⊢; exact KJ) | exact KJ
theorem dX7_bitsOf_0 : decode cX7_bitsOf 0 = .ok (.fload_n 0, 1) := by decide +kernel
theorem dX7_bitsOf_1 : decode cX7_bitsOf 1 = .ok (.fconst 0, 1) := by decide +kernel
theorem dX7_bitsOf_2 : decode cX7_bitsOf 2 = .ok (.fcmp .l, 1) := by decide +kernel
theorem dX7_bitsOf_3 : decode cX7_bitsOf 3 = .ok (.ifCond .gt 5, 3) := by decide +kernel
theorem dX7_bitsOf_6 : decode cX7_bitsOf 6 = .ok (.iconst 0, 1) := by decide +kernel
theorem dX7_bitsOf_7 : decode cX7_bitsOf 7 = .ok (.ireturn, 1) := by decide +kernel
theorem dX7_bitsOf_8 : decode cX7_bitsOf 8 = .ok (.fload_n 0, 1) := by decide +kernel
theorem dX7_bitsOf_9 : decode cX7_bitsOf 9 = .ok (.fstore_n 1, 1) := by decide +kernel
theorem dX7_bitsOf_10 : decode cX7_bitsOf 10 = .ok (.bipush 127, 2) := by decide +kernel
theorem dX7_bitsOf_12 : decode cX7_bitsOf 12 = .ok (.istore_n 2, 1) := by decide +kernel
theorem dX7_bitsOf_13 : decode cX7_bitsOf 13 = .ok (.iconst 0, 1) := by decide +kernel
theorem dX7_bitsOf_14 : decode cX7_bitsOf 14 = .ok (.istore_n 3, 1) := by decide +kernel
theorem dX7_bitsOf_15 : decode cX7_bitsOf 15 = .ok (.iload_n 3, 1) := by decide +kernel
theorem dX7_bitsOf_16 : decode cX7_bitsOf 16 = .ok (.sipush 128, 3) := by decide +kernel
theorem dX7_bitsOf_19 : decode cX7_bitsOf 19 = .ok (.if_icmp .ge 22, 3) := by decide +kernel
theorem dX7_bitsOf_22 : decode cX7_bitsOf 22 = .ok (.fload_n 1, 1) := by decide +kernel
theorem dX7_bitsOf_23 : decode cX7_bitsOf 23 = .ok (.fconst 2, 1) := by decide +kernel
theorem dX7_bitsOf_24 : decode cX7_bitsOf 24 = .ok (.fcmp .l, 1) := by decide +kernel
theorem dX7_bitsOf_25 : decode cX7_bitsOf 25 = .ok (.ifCond .lt 16, 3) := by decide +kernel
theorem dX7_bitsOf_28 : decode cX7_bitsOf 28 = .ok (.fload_n 1, 1) := by decide +kernel
theorem dX7_bitsOf_29 : decode cX7_bitsOf 29 = .ok (.fconst 2, 1) := by decide +kernel
theorem dX7_bitsOf_30 : decode cX7_bitsOf 30 = .ok (.fdiv, 1) := by decide +kernel
theorem dX7_bitsOf_31 : decode cX7_bitsOf 31 = .ok (.fstore_n 1, 1) := by decide +kernel
theorem dX7_bitsOf_32 : decode cX7_bitsOf 32 = .ok (.iinc 2 1, 3) := by decide +kernel
theorem dX7_bitsOf_35 : decode cX7_bitsOf 35 = .ok (.iinc 3 1, 3) := by decide +kernel
theorem dX7_bitsOf_38 : decode cX7_bitsOf 38 = .ok (.goto (-23), 3) := by decide +kernel
theorem dX7_bitsOf_41 : decode cX7_bitsOf 41 = .ok (.iconst 0, 1) := by decide +kernel
theorem dX7_bitsOf_42 : decode cX7_bitsOf 42 = .ok (.istore_n 3, 1) := by decide +kernel
theorem dX7_bitsOf_43 : decode cX7_bitsOf 43 = .ok (.iload_n 3, 1) := by decide +kernel
theorem dX7_bitsOf_44 : decode cX7_bitsOf 44 = .ok (.sipush 128, 3) := by decide +kernel
theorem dX7_bitsOf_47 : decode cX7_bitsOf 47 = .ok (.if_icmp .ge 22, 3) := by decide +kernel
theorem dX7_bitsOf_50 : decode cX7_bitsOf 50 = .ok (.fload_n 1, 1) := by decide +kernel
theorem dX7_bitsOf_51 : decode cX7_bitsOf 51 = .ok (.fconst 1, 1) := by decide +kernel
theorem dX7_bitsOf_52 : decode cX7_bitsOf 52 = .ok (.fcmp .g, 1) := by decide +kernel
theorem dX7_bitsOf_53 : decode cX7_bitsOf 53 = .ok (.ifCond .ge 16, 3) := by decide +kernel
theorem dX7_bitsOf_56 : decode cX7_bitsOf 56 = .ok (.fload_n 1, 1) := by decide +kernel
theorem dX7_bitsOf_57 : decode cX7_bitsOf 57 = .ok (.fconst 2, 1) := by decide +kernel
theorem dX7_bitsOf_58 : decode cX7_bitsOf 58 = .ok (.fmul, 1) := by decide +kernel
theorem dX7_bitsOf_59 : decode cX7_bitsOf 59 = .ok (.fstore_n 1, 1) := by decide +kernel
theorem dX7_bitsOf_60 : decode cX7_bitsOf 60 = .ok (.iinc 2 (-1), 3) := by decide +kernel
theorem dX7_bitsOf_63 : decode cX7_bitsOf 63 = .ok (.iinc 3 1, 3) := by decide +kernel
theorem dX7_bitsOf_66 : decode cX7_bitsOf 66 = .ok (.goto (-23), 3) := by decide +kernel
theorem dX7_bitsOf_69 : decode cX7_bitsOf 69 = .ok (.iload_n 2, 1) := by decide +kernel
theorem dX7_bitsOf_70 : decode cX7_bitsOf 70 = .ok (.bipush 23, 2) := by decide +kernel
theorem dX7_bitsOf_72 : decode cX7_bitsOf 72 = .ok (.ishl, 1) := by decide +kernel
theorem dX7_bitsOf_73 : decode cX7_bitsOf 73 = .ok (.fload_n 1, 1) := by decide +kernel
theorem dX7_bitsOf_74 : decode cX7_bitsOf 74 = .ok (.fconst 1, 1) := by decide +kernel
theorem dX7_bitsOf_75 : decode cX7_bitsOf 75 = .ok (.fsub, 1) := by decide +kernel
theorem dX7_bitsOf_76 : decode cX7_bitsOf 76 = .ok (.ldc_w 405, 3) := by decide +kernel
theorem dX7_bitsOf_79 : decode cX7_bitsOf 79 = .ok (.fmul, 1) := by decide +kernel
theorem dX7_bitsOf_80 : decode cX7_bitsOf 80 = .ok (.f2i, 1) := by decide +kernel
theorem dX7_bitsOf_81 : decode cX7_bitsOf 81 = .ok (.ior, 1) := by decide +kernel
theorem dX7_bitsOf_82 : decode cX7_bitsOf 82 = .ok (.ireturn, 1) := by decide +kernel
set_option maxRecDepth 20000 in
set_option maxHeartbeats 4000000 in
theorem vX7_bitsOf_0 {l : Launch} {x : CX} {f0 : UInt32} {h : PH} {rc rs n0 : Nat} {Q : Option Value → PH → Prop} {X : String → PH → Prop}
    (K : ((0 < (Op.cmpValue (FP.fcmp f0 FP.fconst0) .l) → Gm l x mX7_bitsOf 0 15 [(0, .float f0), (1, .float f0), (2, .int 127), (3, .int 0)] [] h rc rs n0 Q X) ∧ (¬ 0 < (Op.cmpValue (FP.fcmp f0 FP.fconst0) .l) → Q (some (.int 0)) h))) :
    Gm l x mX7_bitsOf 0 0 [(0, .float f0)] [] h rc rs n0 Q X := by
  refine g_fload_n dX7_bitsOf_0 rfl 0 rfl ?_
  refine g_fconst0 dX7_bitsOf_1 ?_
  refine g_fcmp dX7_bitsOf_2 ?_
  refine g_if_gt (tgt := 8) dX7_bitsOf_3 (by decide) (fun c1 => ?_) (fun c1 => ?_)
  · replace K := K.1 c1
    refine g_fload_n dX7_bitsOf_8 rfl 0 rfl ?_
    refine g_fstore_n (lv' := [(0, .float f0), (1, .float f0)]) dX7_bitsOf_9 rfl (by decide) rfl ?_
    refine g_bipush (v := 127) dX7_bitsOf_10 (by decide) ?_
    refine g_istore_n (lv' := [(0, .float f0), (1, .float f0), (2, .int 127)]) dX7_bitsOf_12 rfl (by decide) rfl ?_
    refine g_iconst (v := 0) dX7_bitsOf_13 (by decide) ?_
    refine g_istore_n (lv' := [(0, .float f0), (1, .float f0), (2, .int 127), (3, .int 0)]) dX7_bitsOf_14 rfl (by decide) rfl ?_
    exact K
  · replace K := K.2 c1
    refine g_iconst (v := 0) dX7_bitsOf_6 (by decide) ?_
    exact g_iret dX7_bitsOf_7 rfl K
set_option maxRecDepth 20000 in
set_option maxHeartbeats 4000000 in
theorem vX7_bitsOf_15 {l : Launch} {x : CX} {f0 : UInt32} {f1 : UInt32} {x2 : Int32} {x3 : Int32} {h : PH} {rc rs n0 : Nat} {Q : Option Value → PH → Prop} {X : String → PH → Prop}
    (K : ((128 ≤ x3 → Gm l x mX7_bitsOf 0 43 [(0, .float f0), (1, .float f1), (2, .int x2), (3, .int 0)] [] h rc rs n0 Q X) ∧ (¬ 128 ≤ x3 → (((Op.cmpValue (FP.fcmp f1 FP.fconst2) .l) < 0 → Gm l x mX7_bitsOf 0 43 [(0, .float f0), (1, .float f1), (2, .int x2), (3, .int 0)] [] h rc rs n0 Q X) ∧ (¬ (Op.cmpValue (FP.fcmp f1 FP.fconst2) .l) < 0 → (vf_n32 (FP.fdiv f1 FP.fconst2)) ∧ Gm l x mX7_bitsOf 0 15 [(0, .float f0), (1, .float (FP.fdiv f1 FP.fconst2)), (2, .int (x2 + 1)), (3, .int (x3 + 1))] [] h rc rs n0 Q X))))) :
    Gm l x mX7_bitsOf 0 15 [(0, .float f0), (1, .float f1), (2, .int x2), (3, .int x3)] [] h rc rs n0 Q X := by
  refine g_iload_n dX7_bitsOf_15 rfl 3 rfl ?_
  refine g_sipush (v := 128) dX7_bitsOf_16 (by decide) ?_
  refine g_icmp_ge (tgt := 41) dX7_bitsOf_19 (by decide) (fun c1 => ?_) (fun c1 => ?_)
  · replace K := K.1 c1
    refine g_iconst (v := 0) dX7_bitsOf_41 (by decide) ?_
    refine g_istore_n (lv' := [(0, .float f0), (1, .float f1), (2, .int x2), (3, .int 0)]) dX7_bitsOf_42 rfl (by decide) rfl ?_
    exact K
  · replace K := K.2 c1
    refine g_fload_n dX7_bitsOf_22 rfl 1 rfl ?_
    refine g_fconst2 dX7_bitsOf_23 ?_
    refine g_fcmp dX7_bitsOf_24 ?_
    refine g_if_lt (tgt := 41) dX7_bitsOf_25 (by decide) (fun c2 => ?_) (fun c2 => ?_)
    · replace K := K.1 c2
      refine g_iconst (v := 0) dX7_bitsOf_41 (by decide) ?_
      refine g_istore_n (lv' := [(0, .float f0), (1, .float f1), (2, .int x2), (3, .int 0)]) dX7_bitsOf_42 rfl (by decide) rfl ?_
      exact K
    · replace K := K.2 c2
      refine g_fload_n dX7_bitsOf_28 rfl 1 rfl ?_
      refine g_fconst2 dX7_bitsOf_29 ?_
      obtain ⟨e3, K⟩ := K
      refine g_fdiv dX7_bitsOf_30 e3 ?_
      refine g_fstore_n (lv' := [(0, .float f0), (1, .float (FP.fdiv f1 FP.fconst2)), (2, .int x2), (3, .int x3)]) dX7_bitsOf_31 rfl (by decide) rfl ?_
      refine g_iinc (v := (x2 + 1)) (lv' := [(0, .float f0), (1, .float (FP.fdiv f1 FP.fconst2)), (2, .int (x2 + 1)), (3, .int x3)]) dX7_bitsOf_32 2 rfl (by rfl) (by decide) rfl ?_
      refine g_iinc (v := (x3 + 1)) (lv' := [(0, .float f0), (1, .float (FP.fdiv f1 FP.fconst2)), (2, .int (x2 + 1)), (3, .int (x3 + 1))]) dX7_bitsOf_35 3 rfl (by rfl) (by decide) rfl ?_
      refine g_goto (tgt := 15) dX7_bitsOf_38 (by decide) ?_
      exact K
set_option maxRecDepth 20000 in
set_option maxHeartbeats 4000000 in
theorem vX7_bitsOf_43 {l : Launch} {x : CX} {f0 : UInt32} {f1 : UInt32} {x2 : Int32} {x3 : Int32} {h : PH} {rc rs n0 : Nat} {Q : Option Value → PH → Prop} {X : String → PH → Prop}
    (K : ((128 ≤ x3 → (vf_n32 (FP.fsub f1 FP.fconst1)) ∧ (vf_n32 (FP.fmul (FP.fsub f1 FP.fconst1) 1258291200)) ∧ Q (some (.int ((x2 <<< ((23 : Int32) &&& 31)) ||| (FP.f2i (FP.fmul (FP.fsub f1 FP.fconst1) 1258291200))))) h) ∧ (¬ 128 ≤ x3 → ((0 ≤ (Op.cmpValue (FP.fcmp f1 FP.fconst1) .g) → (vf_n32 (FP.fsub f1 FP.fconst1)) ∧ (vf_n32 (FP.fmul (FP.fsub f1 FP.fconst1) 1258291200)) ∧ Q (some (.int ((x2 <<< ((23 : Int32) &&& 31)) ||| (FP.f2i (FP.fmul (FP.fsub f1 FP.fconst1) 1258291200))))) h) ∧ (¬ 0 ≤ (Op.cmpValue (FP.fcmp f1 FP.fconst1) .g) → (vf_n32 (FP.fmul f1 FP.fconst2)) ∧ Gm l x mX7_bitsOf 0 43 [(0, .float f0), (1, .float (FP.fmul f1 FP.fconst2)), (2, .int (x2 + (-1))), (3, .int (x3 + 1))] [] h rc rs n0 Q X))))) :
    Gm l x mX7_bitsOf 0 43 [(0, .float f0), (1, .float f1), (2, .int x2), (3, .int x3)] [] h rc rs n0 Q X := by
  refine g_iload_n dX7_bitsOf_43 rfl 3 rfl ?_
  refine g_sipush (v := 128) dX7_bitsOf_44 (by decide) ?_
  refine g_icmp_ge (tgt := 69) dX7_bitsOf_47 (by decide) (fun c1 => ?_) (fun c1 => ?_)
  · replace K := K.1 c1
    refine g_iload_n dX7_bitsOf_69 rfl 2 rfl ?_
    refine g_bipush (v := 23) dX7_bitsOf_70 (by decide) ?_
    refine g_ishl dX7_bitsOf_72 ?_
    refine g_fload_n dX7_bitsOf_73 rfl 1 rfl ?_
    refine g_fconst1 dX7_bitsOf_74 ?_
    obtain ⟨e2, K⟩ := K
    refine g_fsub dX7_bitsOf_75 e2 ?_
    refine g_ldcwf (v := 1258291200) dX7_bitsOf_76 bw_1007 ?_
    obtain ⟨e3, K⟩ := K
    refine g_fmul dX7_bitsOf_79 e3 ?_
    refine g_f2i dX7_bitsOf_80 ?_
    refine g_ior dX7_bitsOf_81 ?_
    exact g_iret dX7_bitsOf_82 rfl K
  · replace K := K.2 c1
    refine g_fload_n dX7_bitsOf_50 rfl 1 rfl ?_
    refine g_fconst1 dX7_bitsOf_51 ?_
    refine g_fcmp dX7_bitsOf_52 ?_
    refine g_if_ge (tgt := 69) dX7_bitsOf_53 (by decide) (fun c4 => ?_) (fun c4 => ?_)
    · replace K := K.1 c4
      refine g_iload_n dX7_bitsOf_69 rfl 2 rfl ?_
      refine g_bipush (v := 23) dX7_bitsOf_70 (by decide) ?_
      refine g_ishl dX7_bitsOf_72 ?_
      refine g_fload_n dX7_bitsOf_73 rfl 1 rfl ?_
      refine g_fconst1 dX7_bitsOf_74 ?_
      obtain ⟨e5, K⟩ := K
      refine g_fsub dX7_bitsOf_75 e5 ?_
      refine g_ldcwf (v := 1258291200) dX7_bitsOf_76 bw_1007 ?_
      obtain ⟨e6, K⟩ := K
      refine g_fmul dX7_bitsOf_79 e6 ?_
      refine g_f2i dX7_bitsOf_80 ?_
      refine g_ior dX7_bitsOf_81 ?_
      exact g_iret dX7_bitsOf_82 rfl K
    · replace K := K.2 c4
      refine g_fload_n dX7_bitsOf_56 rfl 1 rfl ?_
      refine g_fconst2 dX7_bitsOf_57 ?_
      obtain ⟨e7, K⟩ := K
      refine g_fmul dX7_bitsOf_58 e7 ?_
      refine g_fstore_n (lv' := [(0, .float f0), (1, .float (FP.fmul f1 FP.fconst2)), (2, .int x2), (3, .int x3)]) dX7_bitsOf_59 rfl (by decide) rfl ?_
      refine g_iinc (v := (x2 + (-1))) (lv' := [(0, .float f0), (1, .float (FP.fmul f1 FP.fconst2)), (2, .int (x2 + (-1))), (3, .int x3)]) dX7_bitsOf_60 2 rfl (by rfl) (by decide) rfl ?_
      refine g_iinc (v := (x3 + 1)) (lv' := [(0, .float f0), (1, .float (FP.fmul f1 FP.fconst2)), (2, .int (x2 + (-1))), (3, .int (x3 + 1))]) dX7_bitsOf_63 3 rfl (by rfl) (by decide) rfl ?_
      refine g_goto (tgt := 43) dX7_bitsOf_66 (by decide) ?_
      exact K
theorem dX7_feed_0 : decode cX7_feed 0 = .ok (.aload_n 0, 1) := by decide +kernel
theorem dX7_feed_1 : decode cX7_feed 1 = .ok (.getfield 13, 3) := by decide +kernel
theorem dX7_feed_4 : decode cX7_feed 4 = .ok (.bipush 20, 2) := by decide +kernel
theorem dX7_feed_6 : decode cX7_feed 6 = .ok (.iadd, 1) := by decide +kernel
theorem dX7_feed_7 : decode cX7_feed 7 = .ok (.sipush 900, 3) := by decide +kernel
theorem dX7_feed_10 : decode cX7_feed 10 = .ok (.if_icmp .le 5, 3) := by decide +kernel
theorem dX7_feed_13 : decode cX7_feed 13 = .ok (.iconst (-1), 1) := by decide +kernel
theorem dX7_feed_14 : decode cX7_feed 14 = .ok (.ireturn, 1) := by decide +kernel
theorem dX7_feed_15 : decode cX7_feed 15 = .ok (.aload_n 0, 1) := by decide +kernel
theorem dX7_feed_16 : decode cX7_feed 16 = .ok (.iload_n 1, 1) := by decide +kernel
theorem dX7_feed_17 : decode cX7_feed 17 = .ok (.invokevirtual 57, 3) := by decide +kernel
theorem dX7_feed_20 : decode cX7_feed 20 = .ok (.aload_n 0, 1) := by decide +kernel
theorem dX7_feed_21 : decode cX7_feed 21 = .ok (.iload_n 2, 1) := by decide +kernel
theorem dX7_feed_22 : decode cX7_feed 22 = .ok (.invokevirtual 57, 3) := by decide +kernel
theorem dX7_feed_25 : decode cX7_feed 25 = .ok (.aload_n 0, 1) := by decide +kernel
theorem dX7_feed_26 : decode cX7_feed 26 = .ok (.iload_n 3, 1) := by decide +kernel
theorem dX7_feed_27 : decode cX7_feed 27 = .ok (.invokevirtual 57, 3) := by decide +kernel
theorem dX7_feed_30 : decode cX7_feed 30 = .ok (.aload_n 0, 1) := by decide +kernel
theorem dX7_feed_31 : decode cX7_feed 31 = .ok (.iload 4, 2) := by decide +kernel
theorem dX7_feed_33 : decode cX7_feed 33 = .ok (.invokevirtual 57, 3) := by decide +kernel
theorem dX7_feed_36 : decode cX7_feed 36 = .ok (.aload_n 0, 1) := by decide +kernel
theorem dX7_feed_37 : decode cX7_feed 37 = .ok (.iload 5, 2) := by decide +kernel
theorem dX7_feed_39 : decode cX7_feed 39 = .ok (.invokevirtual 57, 3) := by decide +kernel
theorem dX7_feed_42 : decode cX7_feed 42 = .ok (.aload_n 0, 1) := by decide +kernel
theorem dX7_feed_43 : decode cX7_feed 43 = .ok (.getfield 13, 3) := by decide +kernel
theorem dX7_feed_46 : decode cX7_feed 46 = .ok (.ireturn, 1) := by decide +kernel
set_option maxRecDepth 20000 in
set_option maxHeartbeats 4000000 in
theorem vX7_feed_0 {l : Launch} {x : CX} {a0 : Nat} {x1 : Int32} {x2 : Int32} {x3 : Int32} {x4 : Int32} {x5 : Int32} {h : PH} {rc rs n0 : Nat} {Q : Option Value → PH → Prop} {X : String → PH → Prop}
    (K : ((hK h a0).1 = 7) ∧ ((((hI h a0 1) + 20) ≤ 900 → ∃ (q3 : PH → Prop), CV l x mX7_putBytes 0 0 0 [.ref a0, .int x1] h q3 ∧ ∀ (h5 : PH), q3 h5 → ((hK h5 a0).1 = 7) ∧ ∃ (q6 : PH → Prop), CV l x mX7_putBytes 0 0 0 [.ref a0, .int x2] h5 q6 ∧ ∀ (h9 : PH), q6 h9 → ((hK h9 a0).1 = 7) ∧ ∃ (q10 : PH → Prop), CV l x mX7_putBytes 0 0 0 [.ref a0, .int x3] h9 q10 ∧ ∀ (h13 : PH), q10 h13 → ((hK h13 a0).1 = 7) ∧ ∃ (q14 : PH → Prop), CV l x mX7_putBytes 0 0 0 [.ref a0, .int x4] h13 q14 ∧ ∀ (h17 : PH), q14 h17 → ((hK h17 a0).1 = 7) ∧ ∃ (q18 : PH → Prop), CV l x mX7_putBytes 0 0 0 [.ref a0, .int x5] h17 q18 ∧ ∀ (h21 : PH), q18 h21 → ((hK h21 a0).1 = 7) ∧ Q (some (.int (hI h21 a0 1))) h21) ∧ (¬ ((hI h a0 1) + 20) ≤ 900 → Q (some (.int (-1))) h))) :
    Gm l x mX7_feed 1 0 [(0, .ref a0), (1, .int x1), (2, .int x2), (3, .int x3), (4, .int x4), (5, .int x5)] [] h rc rs n0 Q X := by
  refine g_aload_n dX7_feed_0 rfl 0 rfl ?_
  obtain ⟨e1, K⟩ := K
  refine g_get (c := 7) (k := 1) (v := .int (hI h a0 1)) dX7_feed_1 fc_7 (by decide) (by decide) bw_396 rfl e1 ?_
  refine g_bipush (v := 20) dX7_feed_4 (by decide) ?_
  refine g_iadd dX7_feed_6 ?_
  refine g_sipush (v := 900) dX7_feed_7 (by decide) ?_
  refine g_icmp_le (tgt := 15) dX7_feed_10 (by decide) (fun c2 => ?_) (fun c2 => ?_)
  · replace K := K.1 c2
    refine g_aload_n dX7_feed_15 rfl 0 rfl ?_
    refine g_iload_n dX7_feed_16 rfl 1 rfl ?_
    obtain ⟨q3, C4, K⟩ := K
    refine g_callV (M' := mX7_putBytes) (b := a0) (As := [.int x1]) (rest := []) (rc' := rc) (rs' := rs) dX7_feed_17 bw_427 bw_429 bs_0 bw_1 bw_430 ⟨by decide +kernel, by decide +kernel, show (parseMethodDescriptor mX7_putBytes.1.desc).map (fun d => d.parameters.length) = some 1 by decide +kernel⟩ (by decide) (by decide) (Nat.le_of_ble_eq_true rfl) fc_7 (by decide) rfl e1 C4 (Nat.le_of_eq (Nat.add_zero _)) (Nat.le_of_eq (Nat.add_zero _)) (fun _ _ h => h) ?_
    rintro _ h5 ⟨rfl, K1⟩ -
    replace K := K h5 K1
    show Gm l x mX7_feed 1 20 [(0, .ref a0), (1, .int x1), (2, .int x2), (3, .int x3), (4, .int x4), (5, .int x5)] [] h5 rc rs n0 Q X
    refine g_aload_n dX7_feed_20 rfl 0 rfl ?_
    refine g_iload_n dX7_feed_21 rfl 2 rfl ?_
    obtain ⟨e8, K⟩ := K
    obtain ⟨q6, C7, K⟩ := K
    refine g_callV (M' := mX7_putBytes) (b := a0) (As := [.int x2]) (rest := []) (rc' := rc) (rs' := rs) dX7_feed_22 bw_427 bw_429 bs_0 bw_1 bw_430 ⟨by decide +kernel, by decide +kernel, show (parseMethodDescriptor mX7_putBytes.1.desc).map (fun d => d.parameters.length) = some 1 by decide +kernel⟩ (by decide) (by decide) (Nat.le_of_ble_eq_true rfl) fc_7 (by decide) rfl e8 C7 (Nat.le_of_eq (Nat.add_zero _)) (Nat.le_of_eq (Nat.add_zero _)) (fun _ _ h => h) ?_
    rintro _ h9 ⟨rfl, K1⟩ -
    replace K := K h9 K1
    show Gm l x mX7_feed 1 25 [(0, .ref a0), (1, .int x1), (2, .int x2), (3, .int x3), (4, .int x4), (5, .int x5)] [] h9 rc rs n0 Q X
    refine g_aload_n dX7_feed_25 rfl 0 rfl ?_
    refine g_iload_n dX7_feed_26 rfl 3 rfl ?_
    obtain ⟨e12, K⟩ := K
    obtain ⟨q10, C11, K⟩ := K
    refine g_callV (M' := mX7_putBytes) (b := a0) (As := [.int x3]) (rest := []) (rc' := rc) (rs' := rs) dX7_feed_27 bw_427 bw_429 bs_0 bw_1 bw_430 ⟨by decide +kernel, by decide +kernel, show (parseMethodDescriptor mX7_putBytes.1.desc).map (fun d => d.parameters.length) = some 1 by decide +kernel⟩ (by decide) (by decide) (Nat.le_of_ble_eq_true rfl) fc_7 (by decide) rfl e12 C11 (Nat.le_of_eq (Nat.add_zero _)) (Nat.le_of_eq (Nat.add_zero _)) (fun _ _ h => h) ?_
    rintro _ h13 ⟨rfl, K1⟩ -
    replace K := K h13 K1
    show Gm l x mX7_feed 1 30 [(0, .ref a0), (1, .int x1), (2, .int x2), (3, .int x3), (4, .int x4), (5, .int x5)] [] h13 rc rs n0 Q X
    refine g_aload_n dX7_feed_30 rfl 0 rfl ?_
    refine g_iload dX7_feed_31 4 rfl ?_
    obtain ⟨e16, K⟩ := K
    obtain ⟨q14, C15, K⟩ := K
    refine g_callV (M' := mX7_putBytes) (b := a0) (As := [.int x4]) (rest := []) (rc' := rc) (rs' := rs) dX7_feed_33 bw_427 bw_429 bs_0 bw_1 bw_430 ⟨by decide +kernel, by decide +kernel, show (parseMethodDescriptor mX7_putBytes.1.desc).map (fun d => d.parameters.length) = some 1 by decide +kernel⟩ (by decide) (by decide) (Nat.le_of_ble_eq_true rfl) fc_7 (by decide) rfl e16 C15 (Nat.le_of_eq (Nat.add_zero _)) (Nat.le_of_eq (Nat.add_zero _)) (fun _ _ h => h) ?_
    rintro _ h17 ⟨rfl, K1⟩ -
    replace K := K h17 K1
    show Gm l x mX7_feed 1 36 [(0, .ref a0), (1, .int x1), (2, .int x2), (3, .int x3), (4, .int x4), (5, .int x5)] [] h17 rc rs n0 Q X
    refine g_aload_n dX7_feed_36 rfl 0 rfl ?_
    refine g_iload dX7_feed_37 5 rfl ?_
    obtain ⟨e20, K⟩ := K
    obtain ⟨q18, C19, K⟩ := K
    refine g_callV (M' := mX7_putBytes) (b := a0) (As := [.int x5]) (rest := []) (rc' := rc) (rs' := rs) dX7_feed_39 bw_427 bw_429 bs_0 bw_1 bw_430 ⟨by decide +kernel, by decide +kernel, show (parseMethodDescriptor mX7_putBytes.1.desc).map (fun d => d.parameters.length) = some 1 by decide +kernel⟩ (by decide) (by decide) (Nat.le_of_ble_eq_true rfl) fc_7 (by decide) rfl e20 C19 (Nat.le_of_eq (Nat.add_zero _)) (Nat.le_of_eq (Nat.add_zero _)) (fun _ _ h => h) ?_
    rintro _ h21 ⟨rfl, K1⟩ -
    replace K := K h21 K1
    show Gm l x mX7_feed 1 42 [(0, .ref a0), (1, .int x1), (2, .int x2), (3, .int x3), (4, .int x4), (5, .int x5)] [] h21 rc rs n0 Q X
    refine g_aload_n dX7_feed_42 rfl 0 rfl ?_
    obtain ⟨e22, K⟩ := K
    refine g_get (c := 7) (k := 1) (v := .int (hI h21 a0 1)) dX7_feed_43 fc_7 (by decide) (by decide) bw_396 rfl e22 ?_
    exact g_iret dX7_feed_46 rfl K
  · replace K := K.2 c2
    refine g_iconst (v := (-1)) dX7_feed_13 (by decide) ?_
    exact g_iret dX7_feed_14 rfl K
theorem dX7_note_0 : decode cX7_note 0 = .ok (.aload_n 0, 1) := by decide +kernel
theorem dX7_note_1 : decode cX7_note 1 = .ok (.getfield 46, 3) := by decide +kernel
theorem dX7_note_4 : decode cX7_note 4 = .ok (.getfield 162, 3) := by decide +kernel
theorem dX7_note_7 : decode cX7_note 7 = .ok (.bipush 8, 2) := by decide +kernel
theorem dX7_note_9 : decode cX7_note 9 = .ok (.if_icmp .ge 22, 3) := by decide +kernel
theorem dX7_note_12 : decode cX7_note 12 = .ok (.aload_n 0, 1) := by decide +kernel
theorem dX7_note_13 : decode cX7_note 13 = .ok (.iload_n 1, 1) := by decide +kernel
theorem dX7_note_14 : decode cX7_note 14 = .ok (.invokevirtual 351, 3) := by decide +kernel
theorem dX7_note_17 : decode cX7_note 17 = .ok (.ifCond .eq 14, 3) := by decide +kernel
theorem dX7_note_20 : decode cX7_note 20 = .ok (.iload_n 2, 1) := by decide +kernel
theorem dX7_note_21 : decode cX7_note 21 = .ok (.ifCond .lt 10, 3) := by decide +kernel
theorem dX7_note_24 : decode cX7_note 24 = .ok (.iload_n 2, 1) := by decide +kernel
theorem dX7_note_25 : decode cX7_note 25 = .ok (.sipush 200, 3) := by decide +kernel
theorem dX7_note_28 : decode cX7_note 28 = .ok (.if_icmp .lt 18, 3) := by decide +kernel
theorem dX7_note_31 : decode cX7_note 31 = .ok (.aload_n 0, 1) := by decide +kernel
theorem dX7_note_32 : decode cX7_note 32 = .ok (.getfield 46, 3) := by decide +kernel
theorem dX7_note_35 : decode cX7_note 35 = .ok (.getfield 75, 3) := by decide +kernel
theorem dX7_note_38 : decode cX7_note 38 = .ok (.iconst 2, 1) := by decide +kernel
theorem dX7_note_39 : decode cX7_note 39 = .ok (.dup2, 1) := by decide +kernel
theorem dX7_note_40 : decode cX7_note 40 = .ok (.iaload, 1) := by decide +kernel
theorem dX7_note_41 : decode cX7_note 41 = .ok (.iconst 1, 1) := by decide +kernel
theorem dX7_note_42 : decode cX7_note 42 = .ok (.iadd, 1) := by decide +kernel
theorem dX7_note_43 : decode cX7_note 43 = .ok (.iastore, 1) := by decide +kernel
theorem dX7_note_44 : decode cX7_note 44 = .ok (.iconst (-1), 1) := by decide +kernel
theorem dX7_note_45 : decode cX7_note 45 = .ok (.ireturn, 1) := by decide +kernel
theorem dX7_note_46 : decode cX7_note 46 = .ok (.aload_n 0, 1) := by decide +kernel
theorem dX7_note_47 : decode cX7_note 47 = .ok (.getfield 46, 3) := by decide +kernel
theorem dX7_note_50 : decode cX7_note 50 = .ok (.getfield 367, 3) := by decide +kernel
theorem dX7_note_53 : decode cX7_note 53 = .ok (.aload_n 0, 1) := by decide +kernel
theorem dX7_note_54 : decode cX7_note 54 = .ok (.getfield 46, 3) := by decide +kernel
theorem dX7_note_57 : decode cX7_note 57 = .ok (.getfield 162, 3) := by decide +kernel
theorem dX7_note_60 : decode cX7_note 60 = .ok (.iload_n 1, 1) := by decide +kernel
theorem dX7_note_61 : decode cX7_note 61 = .ok (.iastore, 1) := by decide +kernel
theorem dX7_note_62 : decode cX7_note 62 = .ok (.aload_n 0, 1) := by decide +kernel
theorem dX7_note_63 : decode cX7_note 63 = .ok (.getfield 46, 3) := by decide +kernel
theorem dX7_note_66 : decode cX7_note 66 = .ok (.getfield 370, 3) := by decide +kernel
theorem dX7_note_69 : decode cX7_note 69 = .ok (.aload_n 0, 1) := by decide +kernel
theorem dX7_note_70 : decode cX7_note 70 = .ok (.getfield 46, 3) := by decide +kernel
theorem dX7_note_73 : decode cX7_note 73 = .ok (.getfield 162, 3) := by decide +kernel
theorem dX7_note_76 : decode cX7_note 76 = .ok (.iload_n 2, 1) := by decide +kernel
theorem dX7_note_77 : decode cX7_note 77 = .ok (.iastore, 1) := by decide +kernel
theorem dX7_note_78 : decode cX7_note 78 = .ok (.aload_n 0, 1) := by decide +kernel
theorem dX7_note_79 : decode cX7_note 79 = .ok (.getfield 46, 3) := by decide +kernel
theorem dX7_note_82 : decode cX7_note 82 = .ok (.dup, 1) := by decide +kernel
theorem dX7_note_83 : decode cX7_note 83 = .ok (.getfield 162, 3) := by decide +kernel
theorem dX7_note_86 : decode cX7_note 86 = .ok (.iconst 1, 1) := by decide +kernel
theorem dX7_note_87 : decode cX7_note 87 = .ok (.iadd, 1) := by decide +kernel
theorem dX7_note_88 : decode cX7_note 88 = .ok (.putfield 162, 3) := by decide +kernel
theorem dX7_note_91 : decode cX7_note 91 = .ok (.aload_n 0, 1) := by decide +kernel
theorem dX7_note_92 : decode cX7_note 92 = .ok (.getfield 46, 3) := by decide +kernel
theorem dX7_note_95 : decode cX7_note 95 = .ok (.getfield 162, 3) := by decide +kernel
theorem dX7_note_98 : decode cX7_note 98 = .ok (.ireturn, 1) := by decide +kernel
set_option maxRecDepth 20000 in
set_option maxHeartbeats 4000000 in
theorem vX7_note_0 {l : Launch} {x : CX} {a0 : Nat} {x1 : Int32} {x2 : Int32} {h : PH} {rc rs n0 : Nat} {Q : Option Value → PH → Prop} {X : String → PH → Prop}
    (K : ((hK h a0).1 = 7) ∧ ∃ b2, (hR h a0 6 = some b2) ∧ ((hK h b2).1 = 3) ∧ ((8 ≤ (hI h b2 4) → ∃ b6, (hR h b2 5 = some b6) ∧ ((hK h b6).1 = 100) ∧ (vp_in 2 (hK h b6).2) ∧ (vp_in 2 (hK h b6).2) ∧ Q (some (.int (-1))) (sI h b6 (Int32.toNatClampNeg 2) ((hI h b6 (Int32.toNatClampNeg 2)) + 1))) ∧ (¬ 8 ≤ (hI h b2 4) → ∃ (q11 : Int32 → PH → Prop), CI l x mX7_isTold 0 0 0 [.ref a0, .int x1] h q11 ∧ ∀ (r14 : Int32) (h13 : PH), q11 r14 h13 → ((r14 = 0 → ((hK h13 a0).1 = 7) ∧ ∃ b17, (hR h13 a0 6 = some b17) ∧ ((hK h13 b17).1 = 3) ∧ ∃ b20, (hR h13 b17 5 = some b20) ∧ ((hK h13 b20).1 = 100) ∧ (vp_in 2 (hK h13 b20).2) ∧ (vp_in 2 (hK h13 b20).2) ∧ Q (some (.int (-1))) (sI h13 b20 (Int32.toNatClampNeg 2) ((hI h13 b20 (Int32.toNatClampNeg 2)) + 1))) ∧ (¬ r14 = 0 → ((x2 < 0 → ((hK h13 a0).1 = 7) ∧ ∃ b27, (hR h13 a0 6 = some b27) ∧ ((hK h13 b27).1 = 3) ∧ ∃ b30, (hR h13 b27 5 = some b30) ∧ ((hK h13 b30).1 = 100) ∧ (vp_in 2 (hK h13 b30).2) ∧ (vp_in 2 (hK h13 b30).2) ∧ Q (some (.int (-1))) (sI h13 b30 (Int32.toNatClampNeg 2) ((hI h13 b30 (Int32.toNatClampNeg 2)) + 1))) ∧ (¬ x2 < 0 → ((x2 < 200 → ((hK h13 a0).1 = 7) ∧ ∃ b37, (hR h13 a0 6 = some b37) ∧ ((hK h13 b37).1 = 3) ∧ ∃ b40, (hR h13 b37 2 = some b40) ∧ ((hK h13 b40).1 = 100) ∧ (vp_in (hI h13 b37 4) (hK h13 b40).2) ∧ ∃ b44, (hR h13 b37 3 = some b44) ∧ ((hK h13 b44).1 = 100) ∧ (vp_in (hI (sI h13 b40 (hI h13 b37 4).toNatClampNeg x1) b37 4) (hK h13 b44).2) ∧ Q (some (.int (hI (sI (sI (sI h13 b40 (hI h13 b37 4).toNatClampNeg x1) b44 (hI (sI h13 b40 (hI h13 b37 4).toNatClampNeg x1) b37 4).toNatClampNeg x2) b37 4 ((hI (sI (sI h13 b40 (hI h13 b37 4).toNatClampNeg x1) b44 (hI (sI h13 b40 (hI h13 b37 4).toNatClampNeg x1) b37 4).toNatClampNeg x2) b37 4) + 1)) b37 4))) (sI (sI (sI h13 b40 (hI h13 b37 4).toNatClampNeg x1) b44 (hI (sI h13 b40 (hI h13 b37 4).toNatClampNeg x1) b37 4).toNatClampNeg x2) b37 4 ((hI (sI (sI h13 b40 (hI h13 b37 4).toNatClampNeg x1) b44 (hI (sI h13 b40 (hI h13 b37 4).toNatClampNeg x1) b37 4).toNatClampNeg x2) b37 4) + 1))) ∧ (¬ x2 < 200 → ((hK h13 a0).1 = 7) ∧ ∃ b49, (hR h13 a0 6 = some b49) ∧ ((hK h13 b49).1 = 3) ∧ ∃ b52, (hR h13 b49 5 = some b52) ∧ ((hK h13 b52).1 = 100) ∧ (vp_in 2 (hK h13 b52).2) ∧ (vp_in 2 (hK h13 b52).2) ∧ Q (some (.int (-1))) (sI h13 b52 (Int32.toNatClampNeg 2) ((hI h13 b52 (Int32.toNatClampNeg 2)) + 1))))))))))) :
    Gm l x mX7_note 1 0 [(0, .ref a0), (1, .int x1), (2, .int x2)] [] h rc rs n0 Q X := by
  refine g_aload_n dX7_note_0 rfl 0 rfl ?_
  obtain ⟨e1, b2, e3, K⟩ := K
  refine g_get (c := 7) (k := 6) (v := .ref b2) dX7_note_1 fc_7 (by decide) (by decide) bw_401 (congrArg pr e3) e1 ?_
  obtain ⟨e4, K⟩ := K
  refine g_get (c := 3) (k := 4) (v := .int (hI h b2 4)) dX7_note_4 fc_3 (by decide) (by decide) bw_379 rfl e4 ?_
  refine g_bipush (v := 8) dX7_note_7 (by decide) ?_
  refine g_icmp_ge (tgt := 31) dX7_note_9 (by decide) (fun c5 => ?_) (fun c5 => ?_)
  · replace K := K.1 c5
    refine g_aload_n dX7_note_31 rfl 0 rfl ?_
    refine g_get (c := 7) (k := 6) (v := .ref b2) dX7_note_32 fc_7 (by decide) (by decide) bw_401 (congrArg pr e3) e1 ?_
    obtain ⟨b6, e7, K⟩ := K
    refine g_get (c := 3) (k := 5) (v := .ref b6) dX7_note_35 fc_3 (by decide) (by decide) bw_381 (congrArg pr e7) e4 ?_
    refine g_iconst (v := 2) dX7_note_38 (by decide) ?_
    refine g_dup2 dX7_note_39 rfl rfl ?_
    obtain ⟨e8, e9, K⟩ := K
    refine g_iald dX7_note_40 e8 e9 ?_
    refine g_iconst (v := 1) dX7_note_41 (by decide) ?_
    refine g_iadd dX7_note_42 ?_
    obtain ⟨e10, K⟩ := K
    refine g_iast dX7_note_43 e8 e10 ?_
    refine g_iconst (v := (-1)) dX7_note_44 (by decide) ?_
    exact g_iret dX7_note_45 rfl K
  · replace K := K.2 c5
    refine g_aload_n dX7_note_12 rfl 0 rfl ?_
    refine g_iload_n dX7_note_13 rfl 1 rfl ?_
    obtain ⟨q11, C12, K⟩ := K
    refine g_callV (M' := mX7_isTold) (b := a0) (As := [.int x1]) (rest := []) (rc' := rc) (rs' := rs) dX7_note_14 bw_655 bw_657 bs_20 bw_1 bw_658 ⟨by decide +kernel, by decide +kernel, show (parseMethodDescriptor mX7_isTold.1.desc).map (fun d => d.parameters.length) = some 1 by decide +kernel⟩ (by decide) (by decide) (Nat.le_of_ble_eq_true rfl) fc_7 (by decide) rfl e1 C12 (Nat.le_of_eq (Nat.add_zero _)) (Nat.le_of_eq (Nat.add_zero _)) (fun _ _ h => h) ?_
    rintro _ h13 ⟨r14, rfl, K1⟩ -
    replace K := K r14 h13 K1
    show Gm l x mX7_note 1 17 [(0, .ref a0), (1, .int x1), (2, .int x2)] [.int r14] h13 rc rs n0 Q X
    refine g_if_eq (tgt := 31) dX7_note_17 (by decide) (fun c15 => ?_) (fun c15 => ?_)
    · replace K := K.1 c15
      refine g_aload_n dX7_note_31 rfl 0 rfl ?_
      obtain ⟨e16, b17, e18, K⟩ := K
      refine g_get (c := 7) (k := 6) (v := .ref b17) dX7_note_32 fc_7 (by decide) (by decide) bw_401 (congrArg pr e18) e16 ?_
      obtain ⟨e19, b20, e21, K⟩ := K
      refine g_get (c := 3) (k := 5) (v := .ref b20) dX7_note_35 fc_3 (by decide) (by decide) bw_381 (congrArg pr e21) e19 ?_
      refine g_iconst (v := 2) dX7_note_38 (by decide) ?_
      refine g_dup2 dX7_note_39 rfl rfl ?_
      obtain ⟨e22, e23, K⟩ := K
      refine g_iald dX7_note_40 e22 e23 ?_
      refine g_iconst (v := 1) dX7_note_41 (by decide) ?_
      refine g_iadd dX7_note_42 ?_
      obtain ⟨e24, K⟩ := K
      refine g_iast dX7_note_43 e22 e24 ?_
      refine g_iconst (v := (-1)) dX7_note_44 (by decide) ?_
      exact g_iret dX7_note_45 rfl K
    · replace K := K.2 c15
      refine g_iload_n dX7_note_20 rfl 2 rfl ?_
      refine g_if_lt (tgt := 31) dX7_note_21 (by decide) (fun c25 => ?_) (fun c25 => ?_)
      · replace K := K.1 c25
        refine g_aload_n dX7_note_31 rfl 0 rfl ?_
        obtain ⟨e26, b27, e28, K⟩ := K
        refine g_get (c := 7) (k := 6) (v := .ref b27) dX7_note_32 fc_7 (by decide) (by decide) bw_401 (congrArg pr e28) e26 ?_
        obtain ⟨e29, b30, e31, K⟩ := K
        refine g_get (c := 3) (k := 5) (v := .ref b30) dX7_note_35 fc_3 (by decide) (by decide) bw_381 (congrArg pr e31) e29 ?_
        refine g_iconst (v := 2) dX7_note_38 (by decide) ?_
        refine g_dup2 dX7_note_39 rfl rfl ?_
        obtain ⟨e32, e33, K⟩ := K
        refine g_iald dX7_note_40 e32 e33 ?_
        refine g_iconst (v := 1) dX7_note_41 (by decide) ?_
        refine g_iadd dX7_note_42 ?_
        obtain ⟨e34, K⟩ := K
        refine g_iast dX7_note_43 e32 e34 ?_
        refine g_iconst (v := (-1)) dX7_note_44 (by decide) ?_
        exact g_iret dX7_note_45 rfl K
      · replace K := K.2 c25
        refine g_iload_n dX7_note_24 rfl 2 rfl ?_
        refine g_sipush (v := 200) dX7_note_25 (by decide) ?_
        refine g_icmp_lt (tgt := 46) dX7_note_28 (by decide) (fun c35 => ?_) (fun c35 => ?_)
        · replace K := K.1 c35
          refine g_aload_n dX7_note_46 rfl 0 rfl ?_
          obtain ⟨e36, b37, e38, K⟩ := K
          refine g_get (c := 7) (k := 6) (v := .ref b37) dX7_note_47 fc_7 (by decide) (by decide) bw_401 (congrArg pr e38) e36 ?_
          obtain ⟨e39, b40, e41, K⟩ := K
          refine g_get (c := 3) (k := 2) (v := .ref b40) dX7_note_50 fc_3 (by decide) (by decide) bw_375 (congrArg pr e41) e39 ?_
          refine g_aload_n dX7_note_53 rfl 0 rfl ?_
          refine g_get (c := 7) (k := 6) (v := .ref b37) dX7_note_54 fc_7 (by decide) (by decide) bw_401 (congrArg pr e38) e36 ?_
          refine g_get (c := 3) (k := 4) (v := .int (hI h13 b37 4)) dX7_note_57 fc_3 (by decide) (by decide) bw_379 rfl e39 ?_
          refine g_iload_n dX7_note_60 rfl 1 rfl ?_
          obtain ⟨e42, e43, K⟩ := K
          refine g_iast dX7_note_61 e42 e43 ?_
          refine g_aload_n dX7_note_62 rfl 0 rfl ?_
          refine g_get (c := 7) (k := 6) (v := .ref b37) dX7_note_63 fc_7 (by decide) (by decide) bw_401 (congrArg pr (krI e38)) (kkI e36) ?_
          obtain ⟨b44, e45, K⟩ := K
          refine g_get (c := 3) (k := 3) (v := .ref b44) dX7_note_66 fc_3 (by decide) (by decide) bw_377 (congrArg pr (krI e45)) (kkI e39) ?_
          refine g_aload_n dX7_note_69 rfl 0 rfl ?_
          refine g_get (c := 7) (k := 6) (v := .ref b37) dX7_note_70 fc_7 (by decide) (by decide) bw_401 (congrArg pr (krI e38)) (kkI e36) ?_
          refine g_get (c := 3) (k := 4) (v := .int (hI (sI h13 b40 (hI h13 b37 4).toNatClampNeg x1) b37 4)) dX7_note_73 fc_3 (by decide) (by decide) bw_379 rfl (kkI e39) ?_
          refine g_iload_n dX7_note_76 rfl 2 rfl ?_
          obtain ⟨e46, e47, K⟩ := K
          refine g_iast dX7_note_77 (kkI e46) (kvI e47) ?_
          refine g_aload_n dX7_note_78 rfl 0 rfl ?_
          refine g_get (c := 7) (k := 6) (v := .ref b37) dX7_note_79 fc_7 (by decide) (by decide) bw_401 (congrArg pr (krI (krI e38))) (kkI (kkI e36)) ?_
          refine g_dup dX7_note_82 rfl ?_
          refine g_get (c := 3) (k := 4) (v := .int (hI (sI (sI h13 b40 (hI h13 b37 4).toNatClampNeg x1) b44 (hI (sI h13 b40 (hI h13 b37 4).toNatClampNeg x1) b37 4).toNatClampNeg x2) b37 4)) dX7_note_83 fc_3 (by decide) (by decide) bw_379 rfl (kkI (kkI e39)) ?_
          refine g_iconst (v := 1) dX7_note_86 (by decide) ?_
          refine g_iadd dX7_note_87 ?_
          refine g_puti (c := 3) (k := 4) dX7_note_88 fc_3 (by decide) (by decide) bw_379 (Or.inl rfl) rfl (kkI (kkI e39)) ?_
          refine g_aload_n dX7_note_91 rfl 0 rfl ?_
          refine g_get (c := 7) (k := 6) (v := .ref b37) dX7_note_92 fc_7 (by decide) (by decide) bw_401 (congrArg pr (krI (krI (krI e38)))) (kkI (kkI (kkI e36))) ?_
          refine g_get (c := 3) (k := 4) (v := .int (hI (sI (sI (sI h13 b40 (hI h13 b37 4).toNatClampNeg x1) b44 (hI (sI h13 b40 (hI h13 b37 4).toNatClampNeg x1) b37 4).toNatClampNeg x2) b37 4 ((hI (sI (sI h13 b40 (hI h13 b37 4).toNatClampNeg x1) b44 (hI (sI h13 b40 (hI h13 b37 4).toNatClampNeg x1) b37 4).toNatClampNeg x2) b37 4) + 1)) b37 4)) dX7_note_95 fc_3 (by decide) (by decide) bw_379 rfl (kkI (kkI (kkI e39))) ?_
          exact g_iret dX7_note_98 rfl K
        · replace K := K.2 c35
          refine g_aload_n dX7_note_31 rfl 0 rfl ?_
          obtain ⟨e48, b49, e50, K⟩ := K
          refine g_get (c := 7) (k := 6) (v := .ref b49) dX7_note_32 fc_7 (by decide) (by decide) bw_401 (congrArg pr e50) e48 ?_
          obtain ⟨e51, b52, e53, K⟩ := K
          refine g_get (c := 3) (k := 5) (v := .ref b52) dX7_note_35 fc_3 (by decide) (by decide) bw_381 (congrArg pr e53) e51 ?_
          refine g_iconst (v := 2) dX7_note_38 (by decide) ?_
          refine g_dup2 dX7_note_39 rfl rfl ?_
          obtain ⟨e54, e55, K⟩ := K
          refine g_iald dX7_note_40 e54 e55 ?_
          refine g_iconst (v := 1) dX7_note_41 (by decide) ?_
          refine g_iadd dX7_note_42 ?_
          obtain ⟨e56, K⟩ := K
          refine g_iast dX7_note_43 e54 e56 ?_
          refine g_iconst (v := (-1)) dX7_note_44 (by decide) ?_
          exact g_iret dX7_note_45 rfl K
theorem dX7_init_0 : decode cX7_init 0 = .ok (.aload_n 0, 1) := by decide +kernel
theorem dX7_init_1 : decode cX7_init 1 = .ok (.invokespecial 1, 3) := by decide +kernel
theorem dX7_init_4 : decode cX7_init 4 = .ok (.aload_n 0, 1) := by decide +kernel
theorem dX7_init_5 : decode cX7_init 5 = .ok (.sipush 900, 3) := by decide +kernel
theorem dX7_init_8 : decode cX7_init 8 = .ok (.newarray .char, 2) := by decide +kernel
theorem dX7_init_10 : decode cX7_init 10 = .ok (.putfield 9, 3) := by decide +kernel
theorem dX7_init_13 : decode cX7_init 13 = .ok (.aload_n 0, 1) := by decide +kernel
theorem dX7_init_14 : decode cX7_init 14 = .ok (.iconst 0, 1) := by decide +kernel
theorem dX7_init_15 : decode cX7_init 15 = .ok (.putfield 13, 3) := by decide +kernel
theorem dX7_init_18 : decode cX7_init 18 = .ok (.aload_n 0, 1) := by decide +kernel
theorem dX7_init_19 : decode cX7_init 19 = .ok (.iconst (-1), 1) := by decide +kernel
theorem dX7_init_20 : decode cX7_init 20 = .ok (.putfield 17, 3) := by decide +kernel
theorem dX7_init_23 : decode cX7_init 23 = .ok (.aload_n 0, 1) := by decide +kernel
theorem dX7_init_24 : decode cX7_init 24 = .ok (.new 20, 3) := by decide +kernel
theorem dX7_init_27 : decode cX7_init 27 = .ok (.dup, 1) := by decide +kernel
theorem dX7_init_28 : decode cX7_init 28 = .ok (.invokespecial 22, 3) := by decide +kernel
theorem dX7_init_31 : decode cX7_init 31 = .ok (.putfield 23, 3) := by decide +kernel
theorem dX7_init_34 : decode cX7_init 34 = .ok (.aload_n 0, 1) := by decide +kernel
theorem dX7_init_35 : decode cX7_init 35 = .ok (.new 27, 3) := by decide +kernel
theorem dX7_init_38 : decode cX7_init 38 = .ok (.dup, 1) := by decide +kernel
theorem dX7_init_39 : decode cX7_init 39 = .ok (.aload_n 0, 1) := by decide +kernel
theorem dX7_init_40 : decode cX7_init 40 = .ok (.getfield 9, 3) := by decide +kernel
theorem dX7_init_43 : decode cX7_init 43 = .ok (.aload_n 0, 1) := by decide +kernel
theorem dX7_init_44 : decode cX7_init 44 = .ok (.getfield 23, 3) := by decide +kernel
theorem dX7_init_47 : decode cX7_init 47 = .ok (.invokespecial 29, 3) := by decide +kernel
theorem dX7_init_50 : decode cX7_init 50 = .ok (.putfield 32, 3) := by decide +kernel
theorem dX7_init_53 : decode cX7_init 53 = .ok (.aload_n 0, 1) := by decide +kernel
theorem dX7_init_54 : decode cX7_init 54 = .ok (.new 36, 3) := by decide +kernel
theorem dX7_init_57 : decode cX7_init 57 = .ok (.dup, 1) := by decide +kernel
theorem dX7_init_58 : decode cX7_init 58 = .ok (.invokespecial 38, 3) := by decide +kernel
theorem dX7_init_61 : decode cX7_init 61 = .ok (.putfield 39, 3) := by decide +kernel
theorem dX7_init_64 : decode cX7_init 64 = .ok (.aload_n 0, 1) := by decide +kernel
theorem dX7_init_65 : decode cX7_init 65 = .ok (.new 43, 3) := by decide +kernel
theorem dX7_init_68 : decode cX7_init 68 = .ok (.dup, 1) := by decide +kernel
theorem dX7_init_69 : decode cX7_init 69 = .ok (.invokespecial 45, 3) := by decide +kernel
theorem dX7_init_72 : decode cX7_init 72 = .ok (.putfield 46, 3) := by decide +kernel
theorem dX7_init_75 : decode cX7_init 75 = .ok (.aload_n 0, 1) := by decide +kernel
theorem dX7_init_76 : decode cX7_init 76 = .ok (.aconst_null, 1) := by decide +kernel
theorem dX7_init_77 : decode cX7_init 77 = .ok (.putfield 50, 3) := by decide +kernel
theorem dX7_init_80 : decode cX7_init 80 = .ok (.aload_n 0, 1) := by decide +kernel
theorem dX7_init_81 : decode cX7_init 81 = .ok (.iconst 0, 1) := by decide +kernel
theorem dX7_init_82 : decode cX7_init 82 = .ok (.putfield 53, 3) := by decide +kernel
theorem dX7_init_85 : decode cX7_init 85 = .ok (.return_, 1) := by decide +kernel
set_option maxRecDepth 20000 in
set_option maxHeartbeats 4000000 in
theorem vX7_init_0 {l : Launch} {x : CX} {a0 : Nat} {h : PH} {rc rs n0 : Nat} {Q : Option Value → PH → Prop} {X : String → PH → Prop}
    (K : (1 ≤ rc) ∧ (900 ≤ rs) ∧ ∀ (h3 : PH), h3 = (nw h (101, 900)) → ((hK h3 a0).1 = 7) ∧ (2 ≤ rc) ∧ (916 ≤ rs) ∧ ∀ (h7 : PH), h7 = (nw (sI (sI (sR h3 a0 0 (some (hN h))) a0 1 0) a0 2 (-1)) (1, 0)) → ∃ (mc10 ms11 : Nat) (q8 : PH → Prop), mc10 ≤ (rc - 2) ∧ ms11 ≤ (rs - 916) ∧ CV l x mX1_init 2 mc10 ms11 [.ref (hN (sI (sI (sR h3 a0 0 (some (hN h))) a0 1 0) a0 2 (-1)))] h7 q8 ∧ ∀ (h12 : PH), q8 h12 → ((hK h12 a0).1 = 7) ∧ (1 ≤ ((rc - 2) - mc10)) ∧ (11 ≤ ((rs - 916) - ms11)) ∧ ∀ (h16 : PH), h16 = (nw (sR h12 a0 3 (some (hN (sI (sI (sR h3 a0 0 (some (hN h))) a0 1 0) a0 2 (-1))))) (4, 0)) → ((hK h16 a0).1 = 7) ∧ ∃ b18, (hR h16 a0 0 = some b18) ∧ ∃ b20, (hR h16 a0 3 = some b20) ∧ ∃ (q22 : PH → Prop), CV l x mX4_init 1 0 0 [.ref (hN (sR h12 a0 3 (some (hN (sI (sI (sR h3 a0 0 (some (hN h))) a0 1 0) a0 2 (-1)))))), .ref b18, .ref b20] h16 q22 ∧ ∀ (h24 : PH), q22 h24 → ((hK h24 a0).1 = 7) ∧ (2 ≤ ((rc - 2) - mc10)) ∧ (20 ≤ ((rs - 916) - ms11)) ∧ ∀ (h28 : PH), h28 = (nw (sR h24 a0 4 (some (hN (sR h12 a0 3 (some (hN (sI (sI (sR h3 a0 0 (some (hN h))) a0 1 0) a0 2 (-1)))))))) (5, 0)) → (NestOk x RX7 38 yX5_init "LiftBank") ∧ ∃ (mc31 ms32 : Nat) (q29 : PH → Prop), mc31 ≤ (((rc - 2) - mc10) - 2) ∧ ms32 ≤ (((rs - 916) - ms11) - 20) ∧ CV l x mX5_init 3 mc31 ms32 [.ref (hN (sR h24 a0 4 (some (hN (sR h12 a0 3 (some (hN (sI (sI (sR h3 a0 0 (some (hN h))) a0 1 0) a0 2 (-1)))))))))] h28 q29 ∧ ∀ (h33 : PH), q29 h33 → ((hK h33 a0).1 = 7) ∧ (1 ≤ ((((rc - 2) - mc10) - 2) - mc31)) ∧ (6 ≤ ((((rs - 916) - ms11) - 20) - ms32)) ∧ ∀ (h37 : PH), h37 = (nw (sR h33 a0 5 (some (hN (sR h24 a0 4 (some (hN (sR h12 a0 3 (some (hN (sI (sI (sR h3 a0 0 (some (hN h))) a0 1 0) a0 2 (-1))))))))))) (3, 0)) → (NestOk x RX7 45 yX3_init "LiftBank") ∧ ∃ (mc40 ms41 : Nat) (q38 : PH → Prop), mc40 ≤ (((((rc - 2) - mc10) - 2) - mc31) - 1) ∧ ms41 ≤ (((((rs - 916) - ms11) - 20) - ms32) - 6) ∧ CV l x mX3_init 3 mc40 ms41 [.ref (hN (sR h33 a0 5 (some (hN (sR h24 a0 4 (some (hN (sR h12 a0 3 (some (hN (sI (sI (sR h3 a0 0 (some (hN h))) a0 1 0) a0 2 (-1))))))))))))] h37 q38 ∧ ∀ (h42 : PH), q38 h42 → ((hK h42 a0).1 = 7) ∧ Q none (sI (sR (sR h42 a0 6 (some (hN (sR h33 a0 5 (some (hN (sR h24 a0 4 (some (hN (sR h12 a0 3 (some (hN (sI (sI (sR h3 a0 0 (some (hN h))) a0 1 0) a0 2 (-1)))))))))))))) a0 7 none) a0 8 0)) :
    Gm l x mX7_init 4 0 [(0, .ref a0)] [] h rc rs n0 Q X := by
  refine g_aload_n dX7_init_0 rfl 0 rfl ?_
  refine g_objInit dX7_init_1 bw_29 bw_30 bw_31 (by decide) (Nat.le_of_ble_eq_true rfl) ?_
  refine g_aload_n dX7_init_4 rfl 0 rfl ?_
  refine g_sipush (v := 900) dX7_init_5 (by decide) ?_
  obtain ⟨e1, e2, K⟩ := K
  refine g_newa (t := 1) (rc' := (rc - 1)) (rs' := (rs - 900)) (N := 900) dX7_init_8 (Or.inr (Or.inl ⟨rfl, rfl⟩)) bw_117 (by decide) (by decide) (by decide) (by omega) (by omega) ?_
  generalize e56 : (nw h (101, 900)) = h3
  replace K := K h3 e56.symm
  obtain ⟨e4, K⟩ := K
  refine g_putr (c := 7) (k := 0) dX7_init_10 fc_7 (by decide) (by decide) bw_395 (Or.inr ⟨rfl, rfl, rfl⟩) (Or.inr ⟨_, rfl⟩) e4 ?_
  refine g_aload_n dX7_init_13 rfl 0 rfl ?_
  refine g_iconst (v := 0) dX7_init_14 (by decide) ?_
  refine g_puti (c := 7) (k := 1) dX7_init_15 fc_7 (by decide) (by decide) bw_396 (Or.inl rfl) rfl (kkR e4) ?_
  refine g_aload_n dX7_init_18 rfl 0 rfl ?_
  refine g_iconst (v := (-1)) dX7_init_19 (by decide) ?_
  refine g_puti (c := 7) (k := 2) dX7_init_20 fc_7 (by decide) (by decide) bw_397 (Or.inl rfl) rfl (kkI (kkR e4)) ?_
  refine g_aload_n dX7_init_23 rfl 0 rfl ?_
  obtain ⟨e5, e6, K⟩ := K
  refine g_new (c := 1) (rc' := (rc - 2)) (rs' := (rs - 916)) dX7_init_24 fc_1 (by decide) (by decide) bw_32 bw_33 bw_2 (by omega) (show (rs - 916) + 16 ≤ (rs - 900) by omega) ?_
  generalize e55 : (nw (sI (sI (sR h3 a0 0 (some (hN h))) a0 1 0) a0 2 (-1)) (1, 0)) = h7
  replace K := K h7 e55.symm
  refine g_dup dX7_init_27 rfl ?_
  obtain ⟨mc10, ms11, q8, e53, e54, C9, K⟩ := K
  refine g_callI (M' := mX1_init) (b := (hN (sI (sI (sR h3 a0 0 (some (hN h))) a0 1 0) a0 2 (-1)))) (As := []) (rest := [.ref (hN (sI (sI (sR h3 a0 0 (some (hN h))) a0 1 0) a0 2 (-1))), .ref a0]) (rc' := ((rc - 2) - mc10)) (rs' := ((rs - 916) - ms11)) dX7_init_28 bw_34 bw_35 rfl rfl bw_2 bw_36 ⟨by decide +kernel, by decide +kernel, show (parseMethodDescriptor mX1_init.1.desc).map (fun d => d.parameters.length) = some 0 by decide +kernel⟩ (by decide) (by decide) (Nat.le_of_ble_eq_true rfl) C9 (by omega) (by omega) (fun _ _ h => h) ?_
  rintro _ h12 ⟨rfl, K1⟩ -
  replace K := K h12 K1
  show Gm l x mX7_init 4 31 [(0, .ref a0)] [.ref (hN (sI (sI (sR h3 a0 0 (some (hN h))) a0 1 0) a0 2 (-1))), .ref a0] h12 ((rc - 2) - mc10) ((rs - 916) - ms11) n0 Q X
  obtain ⟨e13, K⟩ := K
  refine g_putr (c := 7) (k := 3) dX7_init_31 fc_7 (by decide) (by decide) bw_398 (Or.inr ⟨rfl, rfl, rfl⟩) (Or.inl ⟨_, rfl⟩) e13 ?_
  refine g_aload_n dX7_init_34 rfl 0 rfl ?_
  obtain ⟨e14, e15, K⟩ := K
  refine g_new (c := 4) (rc' := (((rc - 2) - mc10) - 1)) (rs' := (((rs - 916) - ms11) - 11)) dX7_init_35 fc_4 (by decide) (by decide) bw_258 bw_259 bw_5 (by omega) (show (((rs - 916) - ms11) - 11) + 11 ≤ ((rs - 916) - ms11) by omega) ?_
  generalize e52 : (nw (sR h12 a0 3 (some (hN (sI (sI (sR h3 a0 0 (some (hN h))) a0 1 0) a0 2 (-1))))) (4, 0)) = h16
  replace K := K h16 e52.symm
  refine g_dup dX7_init_38 rfl ?_
  refine g_aload_n dX7_init_39 rfl 0 rfl ?_
  obtain ⟨e17, b18, e19, K⟩ := K
  refine g_get (c := 7) (k := 0) (v := .ref b18) dX7_init_40 fc_7 (by decide) (by decide) bw_395 (congrArg pr e19) e17 ?_
  refine g_aload_n dX7_init_43 rfl 0 rfl ?_
  obtain ⟨b20, e21, K⟩ := K
  refine g_get (c := 7) (k := 3) (v := .ref b20) dX7_init_44 fc_7 (by decide) (by decide) bw_398 (congrArg pr e21) e17 ?_
  obtain ⟨q22, C23, K⟩ := K
  refine g_callI (M' := mX4_init) (b := (hN (sR h12 a0 3 (some (hN (sI (sI (sR h3 a0 0 (some (hN h))) a0 1 0) a0 2 (-1))))))) (As := [.ref b18, .ref b20]) (rest := [.ref (hN (sR h12 a0 3 (some (hN (sI (sI (sR h3 a0 0 (some (hN h))) a0 1 0) a0 2 (-1)))))), .ref a0]) (rc' := (((rc - 2) - mc10) - 1)) (rs' := (((rs - 916) - ms11) - 11)) dX7_init_47 bw_260 bw_261 rfl rfl bw_5 bw_262 ⟨by decide +kernel, by decide +kernel, show (parseMethodDescriptor mX4_init.1.desc).map (fun d => d.parameters.length) = some 2 by decide +kernel⟩ (by decide) (by decide) (Nat.le_of_ble_eq_true rfl) C23 (Nat.le_of_eq (Nat.add_zero _)) (Nat.le_of_eq (Nat.add_zero _)) (fun _ _ h => h) ?_
  rintro _ h24 ⟨rfl, K1⟩ -
  replace K := K h24 K1
  show Gm l x mX7_init 4 50 [(0, .ref a0)] [.ref (hN (sR h12 a0 3 (some (hN (sI (sI (sR h3 a0 0 (some (hN h))) a0 1 0) a0 2 (-1)))))), .ref a0] h24 (((rc - 2) - mc10) - 1) (((rs - 916) - ms11) - 11) n0 Q X
  obtain ⟨e25, K⟩ := K
  refine g_putr (c := 7) (k := 4) dX7_init_50 fc_7 (by decide) (by decide) bw_399 (Or.inr ⟨rfl, rfl, rfl⟩) (Or.inl ⟨_, rfl⟩) e25 ?_
  refine g_aload_n dX7_init_53 rfl 0 rfl ?_
  obtain ⟨e26, e27, K⟩ := K
  refine g_new (c := 5) (rc' := (((rc - 2) - mc10) - 2)) (rs' := (((rs - 916) - ms11) - 20)) dX7_init_54 fc_5 (by decide) (by decide) bw_299 bw_300 bw_6 (by omega) (show (((rs - 916) - ms11) - 20) + 9 ≤ (((rs - 916) - ms11) - 11) by omega) ?_
  generalize e51 : (nw (sR h24 a0 4 (some (hN (sR h12 a0 3 (some (hN (sI (sI (sR h3 a0 0 (some (hN h))) a0 1 0) a0 2 (-1)))))))) (5, 0)) = h28
  replace K := K h28 e51.symm
  refine g_dup dX7_init_57 rfl ?_
  obtain ⟨z50, K⟩ := K
  obtain ⟨mc31, ms32, q29, e48, e49, C30, K⟩ := K
  refine g_callIN (M' := mX5_init) (b := (hN (sR h24 a0 4 (some (hN (sR h12 a0 3 (some (hN (sI (sI (sR h3 a0 0 (some (hN h))) a0 1 0) a0 2 (-1)))))))))) (As := []) (rest := [.ref (hN (sR h24 a0 4 (some (hN (sR h12 a0 3 (some (hN (sI (sI (sR h3 a0 0 (some (hN h))) a0 1 0) a0 2 (-1))))))))), .ref a0]) (rc' := ((((rc - 2) - mc10) - 2) - mc31)) (rs' := ((((rs - 916) - ms11) - 20) - ms32)) dX7_init_58 z50 bw_302 rfl rfl bw_6 bw_303 ⟨by decide +kernel, by decide +kernel, show (parseMethodDescriptor mX5_init.1.desc).map (fun d => d.parameters.length) = some 0 by decide +kernel⟩ (by decide) (by decide) (Nat.le_of_ble_eq_true rfl) C30 (by omega) (by omega) (fun _ _ h => h) ?_
  rintro _ h33 ⟨rfl, K1⟩ -
  replace K := K h33 K1
  show Gm l x mX7_init 4 61 [(0, .ref a0)] [.ref (hN (sR h24 a0 4 (some (hN (sR h12 a0 3 (some (hN (sI (sI (sR h3 a0 0 (some (hN h))) a0 1 0) a0 2 (-1))))))))), .ref a0] h33 ((((rc - 2) - mc10) - 2) - mc31) ((((rs - 916) - ms11) - 20) - ms32) n0 Q X
  obtain ⟨e34, K⟩ := K
  refine g_putr (c := 7) (k := 5) dX7_init_61 fc_7 (by decide) (by decide) bw_400 (Or.inr ⟨rfl, rfl, rfl⟩) (Or.inl ⟨_, rfl⟩) e34 ?_
  refine g_aload_n dX7_init_64 rfl 0 rfl ?_
  obtain ⟨e35, e36, K⟩ := K
  refine g_new (c := 3) (rc' := (((((rc - 2) - mc10) - 2) - mc31) - 1)) (rs' := (((((rs - 916) - ms11) - 20) - ms32) - 6)) dX7_init_65 fc_3 (by decide) (by decide) bw_343 bw_344 bw_7 (by omega) (show (((((rs - 916) - ms11) - 20) - ms32) - 6) + 6 ≤ ((((rs - 916) - ms11) - 20) - ms32) by omega) ?_
  generalize e47 : (nw (sR h33 a0 5 (some (hN (sR h24 a0 4 (some (hN (sR h12 a0 3 (some (hN (sI (sI (sR h3 a0 0 (some (hN h))) a0 1 0) a0 2 (-1))))))))))) (3, 0)) = h37
  replace K := K h37 e47.symm
  refine g_dup dX7_init_68 rfl ?_
  obtain ⟨z46, K⟩ := K
  obtain ⟨mc40, ms41, q38, e44, e45, C39, K⟩ := K
  refine g_callIN (M' := mX3_init) (b := (hN (sR h33 a0 5 (some (hN (sR h24 a0 4 (some (hN (sR h12 a0 3 (some (hN (sI (sI (sR h3 a0 0 (some (hN h))) a0 1 0) a0 2 (-1))))))))))))) (As := []) (rest := [.ref (hN (sR h33 a0 5 (some (hN (sR h24 a0 4 (some (hN (sR h12 a0 3 (some (hN (sI (sI (sR h3 a0 0 (some (hN h))) a0 1 0) a0 2 (-1)))))))))))), .ref a0]) (rc' := ((((((rc - 2) - mc10) - 2) - mc31) - 1) - mc40)) (rs' := ((((((rs - 916) - ms11) - 20) - ms32) - 6) - ms41)) dX7_init_69 z46 bw_346 rfl rfl bw_7 bw_347 ⟨by decide +kernel, by decide +kernel, show (parseMethodDescriptor mX3_init.1.desc).map (fun d => d.parameters.length) = some 0 by decide +kernel⟩ (by decide) (by decide) (Nat.le_of_ble_eq_true rfl) C39 (by omega) (by omega) (fun _ _ h => h) ?_
  rintro _ h42 ⟨rfl, K1⟩ -
  replace K := K h42 K1
  show Gm l x mX7_init 4 72 [(0, .ref a0)] [.ref (hN (sR h33 a0 5 (some (hN (sR h24 a0 4 (some (hN (sR h12 a0 3 (some (hN (sI (sI (sR h3 a0 0 (some (hN h))) a0 1 0) a0 2 (-1)))))))))))), .ref a0] h42 ((((((rc - 2) - mc10) - 2) - mc31) - 1) - mc40) ((((((rs - 916) - ms11) - 20) - ms32) - 6) - ms41) n0 Q X
  obtain ⟨e43, K⟩ := K
  refine g_putr (c := 7) (k := 6) dX7_init_72 fc_7 (by decide) (by decide) bw_401 (Or.inr ⟨rfl, rfl, rfl⟩) (Or.inl ⟨_, rfl⟩) e43 ?_
  refine g_aload_n dX7_init_75 rfl 0 rfl ?_
  refine g_null dX7_init_76 ?_
  refine g_putn (c := 7) (k := 7) dX7_init_77 fc_7 (by decide) (by decide) bw_402 (Or.inl rfl) (Or.inl ⟨_, rfl⟩) (kkR e43) ?_
  refine g_aload_n dX7_init_80 rfl 0 rfl ?_
  refine g_iconst (v := 0) dX7_init_81 (by decide) ?_
  refine g_putz (c := 7) (k := 8) dX7_init_82 fc_7 (by decide) (by decide) bw_403 (Or.inl rfl) rfl (by decide) (kkR (kkR e43)) ?_
  exact g_vret dX7_init_85 rfl K
theorem dX7_ticksToQuiet_0 : decode cX7_ticksToQuiet 0 = .ok (.aload_n 0, 1) := by decide +kernel
theorem dX7_ticksToQuiet_1 : decode cX7_ticksToQuiet 1 = .ok (.getfield 23, 3) := by decide +kernel
theorem dX7_ticksToQuiet_4 : decode cX7_ticksToQuiet 4 = .ok (.aload_n 0, 1) := by decide +kernel
theorem dX7_ticksToQuiet_5 : decode cX7_ticksToQuiet 5 = .ok (.getfield 46, 3) := by decide +kernel
theorem dX7_ticksToQuiet_8 : decode cX7_ticksToQuiet 8 = .ok (.getfield 84, 3) := by decide +kernel
theorem dX7_ticksToQuiet_11 : decode cX7_ticksToQuiet 11 = .ok (.invokevirtual 183, 3) := by decide +kernel
theorem dX7_ticksToQuiet_14 : decode cX7_ticksToQuiet 14 = .ok (.iconst 0, 1) := by decide +kernel
theorem dX7_ticksToQuiet_15 : decode cX7_ticksToQuiet 15 = .ok (.istore_n 1, 1) := by decide +kernel
theorem dX7_ticksToQuiet_16 : decode cX7_ticksToQuiet 16 = .ok (.iload_n 1, 1) := by decide +kernel
theorem dX7_ticksToQuiet_17 : decode cX7_ticksToQuiet 17 = .ok (.sipush 200, 3) := by decide +kernel
theorem dX7_ticksToQuiet_20 : decode cX7_ticksToQuiet 20 = .ok (.if_icmp .ge 29, 3) := by decide +kernel
theorem dX7_ticksToQuiet_23 : decode cX7_ticksToQuiet 23 = .ok (.aload_n 0, 1) := by decide +kernel
theorem dX7_ticksToQuiet_24 : decode cX7_ticksToQuiet 24 = .ok (.getfield 23, 3) := by decide +kernel
theorem dX7_ticksToQuiet_27 : decode cX7_ticksToQuiet 27 = .ok (.invokevirtual 186, 3) := by decide +kernel
theorem dX7_ticksToQuiet_30 : decode cX7_ticksToQuiet 30 = .ok (.ifCond .eq 5, 3) := by decide +kernel
theorem dX7_ticksToQuiet_33 : decode cX7_ticksToQuiet 33 = .ok (.iload_n 1, 1) := by decide +kernel
theorem dX7_ticksToQuiet_34 : decode cX7_ticksToQuiet 34 = .ok (.ireturn, 1) := by decide +kernel
theorem dX7_ticksToQuiet_35 : decode cX7_ticksToQuiet 35 = .ok (.aload_n 0, 1) := by decide +kernel
theorem dX7_ticksToQuiet_36 : decode cX7_ticksToQuiet 36 = .ok (.getfield 23, 3) := by decide +kernel
theorem dX7_ticksToQuiet_39 : decode cX7_ticksToQuiet 39 = .ok (.iconst 1, 1) := by decide +kernel
theorem dX7_ticksToQuiet_40 : decode cX7_ticksToQuiet 40 = .ok (.invokevirtual 190, 3) := by decide +kernel
theorem dX7_ticksToQuiet_43 : decode cX7_ticksToQuiet 43 = .ok (.iinc 1 1, 3) := by decide +kernel
theorem dX7_ticksToQuiet_46 : decode cX7_ticksToQuiet 46 = .ok (.goto (-30), 3) := by decide +kernel
theorem dX7_ticksToQuiet_49 : decode cX7_ticksToQuiet 49 = .ok (.aload_n 0, 1) := by decide +kernel
theorem dX7_ticksToQuiet_50 : decode cX7_ticksToQuiet 50 = .ok (.getfield 23, 3) := by decide +kernel
theorem dX7_ticksToQuiet_53 : decode cX7_ticksToQuiet 53 = .ok (.invokevirtual 186, 3) := by decide +kernel
theorem dX7_ticksToQuiet_56 : decode cX7_ticksToQuiet 56 = .ok (.ifCond .eq 9, 3) := by decide +kernel
theorem dX7_ticksToQuiet_59 : decode cX7_ticksToQuiet 59 = .ok (.sipush 200, 3) := by decide +kernel
theorem dX7_ticksToQuiet_62 : decode cX7_ticksToQuiet 62 = .ok (.goto 4, 3) := by decide +kernel
theorem dX7_ticksToQuiet_65 : decode cX7_ticksToQuiet 65 = .ok (.iconst (-1), 1) := by decide +kernel
theorem dX7_ticksToQuiet_66 : decode cX7_ticksToQuiet 66 = .ok (.ireturn, 1) := by decide +kernel
set_option maxRecDepth 20000 in
set_option maxHeartbeats 4000000 in
theorem vX7_ticksToQuiet_0 {l : Launch} {x : CX} {a0 : Nat} {h : PH} {rc rs n0 : Nat} {Q : Option Value → PH → Prop} {X : String → PH → Prop}
    (K : ((hK h a0).1 = 7) ∧ ∃ b2, (hR h a0 3 = some b2) ∧ ∃ b4, (hR h a0 6 = some b4) ∧ ((hK h b4).1 = 3) ∧ ∃ b7, (hR h b4 0 = some b7) ∧ ((hK h b2).1 = 1) ∧ ∃ (q9 : PH → Prop), CV l x mX1_copyFrom 1 0 0 [.ref b2, .ref b7] h q9 ∧ ∀ (h12 : PH), q9 h12 → Gm l x mX7_ticksToQuiet 5 16 [(0, .ref a0), (1, .int 0)] [] h12 rc rs n0 Q X) :
    Gm l x mX7_ticksToQuiet 5 0 [(0, .ref a0)] [] h rc rs n0 Q X := by
  refine g_aload_n dX7_ticksToQuiet_0 rfl 0 rfl ?_
  obtain ⟨e1, b2, e3, K⟩ := K
  refine g_get (c := 7) (k := 3) (v := .ref b2) dX7_ticksToQuiet_1 fc_7 (by decide) (by decide) bw_398 (congrArg pr e3) e1 ?_
  refine g_aload_n dX7_ticksToQuiet_4 rfl 0 rfl ?_
  obtain ⟨b4, e5, K⟩ := K
  refine g_get (c := 7) (k := 6) (v := .ref b4) dX7_ticksToQuiet_5 fc_7 (by decide) (by decide) bw_401 (congrArg pr e5) e1 ?_
  obtain ⟨e6, b7, e8, K⟩ := K
  refine g_get (c := 3) (k := 0) (v := .ref b7) dX7_ticksToQuiet_8 fc_3 (by decide) (by decide) bw_371 (congrArg pr e8) e6 ?_
  obtain ⟨e11, K⟩ := K
  obtain ⟨q9, C10, K⟩ := K
  refine g_callV (M' := mX1_copyFrom) (b := b2) (As := [.ref b7]) (rest := []) (rc' := rc) (rs' := rs) dX7_ticksToQuiet_11 bw_974 bw_453 bw_454 bw_2 bw_455 ⟨by decide +kernel, by decide +kernel, show (parseMethodDescriptor mX1_copyFrom.1.desc).map (fun d => d.parameters.length) = some 1 by decide +kernel⟩ (by decide) (by decide) (Nat.le_of_ble_eq_true rfl) fc_1 (by decide) rfl e11 C10 (Nat.le_of_eq (Nat.add_zero _)) (Nat.le_of_eq (Nat.add_zero _)) (fun _ _ h => h) ?_
  rintro _ h12 ⟨rfl, K1⟩ -
  replace K := K h12 K1
  show Gm l x mX7_ticksToQuiet 5 14 [(0, .ref a0)] [] h12 rc rs n0 Q X
  refine g_iconst (v := 0) dX7_ticksToQuiet_14 (by decide) ?_
  refine g_istore_n (lv' := [(0, .ref a0), (1, .int 0)]) dX7_ticksToQuiet_15 rfl (by decide) rfl ?_
  exact K
set_option maxRecDepth 20000 in
set_option maxHeartbeats 4000000 in
theorem vX7_ticksToQuiet_16 {l : Launch} {x : CX} {a0 : Nat} {x1 : Int32} {h : PH} {rc rs n0 : Nat} {Q : Option Value → PH → Prop} {X : String → PH → Prop}
    (K : ((200 ≤ x1 → ((hK h a0).1 = 7) ∧ ∃ b3, (hR h a0 3 = some b3) ∧ ((hK h b3).1 = 1) ∧ ∃ (q5 : Int32 → PH → Prop), CI l x mX1_isQuiet 1 0 0 [.ref b3] h q5 ∧ ∀ (r9 : Int32) (h8 : PH), q5 r9 h8 → Q (some (.int (if r9 = 0 then (-1) else 200 : Int32))) h8) ∧ (¬ 200 ≤ x1 → ((hK h a0).1 = 7) ∧ ∃ b12, (hR h a0 3 = some b12) ∧ ((hK h b12).1 = 1) ∧ ∃ (q14 : Int32 → PH → Prop), CI l x mX1_isQuiet 1 0 0 [.ref b12] h q14 ∧ ∀ (r18 : Int32) (h17 : PH), q14 r18 h17 → ((r18 = 0 → ((hK h17 a0).1 = 7) ∧ ∃ b21, (hR h17 a0 3 = some b21) ∧ ((hK h17 b21).1 = 1) ∧ ∃ (q23 : PH → Prop), CV l x mX1_pass 4 0 0 [.ref b21, .int 1] h17 q23 ∧ ∀ (h26 : PH), q23 h26 → Gm l x mX7_ticksToQuiet 5 16 [(0, .ref a0), (1, .int (x1 + 1))] [] h26 rc rs n0 Q X) ∧ (¬ r18 = 0 → Q (some (.int x1)) h17))))) :
    Gm l x mX7_ticksToQuiet 5 16 [(0, .ref a0), (1, .int x1)] [] h rc rs n0 Q X := by
  refine g_iload_n dX7_ticksToQuiet_16 rfl 1 rfl ?_
  refine g_sipush (v := 200) dX7_ticksToQuiet_17 (by decide) ?_
  refine g_icmp_ge (tgt := 49) dX7_ticksToQuiet_20 (by decide) (fun c1 => ?_) (fun c1 => ?_)
  · replace K := K.1 c1
    refine g_aload_n dX7_ticksToQuiet_49 rfl 0 rfl ?_
    obtain ⟨e2, b3, e4, K⟩ := K
    refine g_get (c := 7) (k := 3) (v := .ref b3) dX7_ticksToQuiet_50 fc_7 (by decide) (by decide) bw_398 (congrArg pr e4) e2 ?_
    obtain ⟨e7, K⟩ := K
    obtain ⟨q5, C6, K⟩ := K
    refine g_callV (M' := mX1_isQuiet) (b := b3) (As := []) (rest := []) (rc' := rc) (rs' := rs) dX7_ticksToQuiet_53 bw_975 bw_473 bw_474 bw_2 bw_475 ⟨by decide +kernel, by decide +kernel, show (parseMethodDescriptor mX1_isQuiet.1.desc).map (fun d => d.parameters.length) = some 0 by decide +kernel⟩ (by decide) (by decide) (Nat.le_of_ble_eq_true rfl) fc_1 (by decide) rfl e7 C6 (Nat.le_of_eq (Nat.add_zero _)) (Nat.le_of_eq (Nat.add_zero _)) (fun _ _ h => h) ?_
    rintro _ h8 ⟨r9, rfl, K1⟩ -
    replace K := K r9 h8 K1
    show Gm l x mX7_ticksToQuiet 5 56 [(0, .ref a0), (1, .int x1)] [.int r9] h8 rc rs n0 Q X
    have KJ : Gm l x mX7_ticksToQuiet 5 66 [(0, .ref a0), (1, .int x1)] [.int (if r9 = 0 then (-1) else 200 : Int32)] h8 rc rs n0 Q X := by
      exact g_iret dX7_ticksToQuiet_66 rfl K
    refine g_if_eq (tgt := 65) dX7_ticksToQuiet_56 (by decide) (fun c10 => ?_) (fun c10 => ?_)
    · refine g_iconst (v := (-1)) dX7_ticksToQuiet_65 (by decide) ?_
      first | (simp only [if_pos c10] at KJ; exact KJ) | (simp only [if_pos c10, ite_true, ite_false, eq_self] at KJ; exact KJ) | (simp only [if_pos c10] at KJ ⊢; exact KJ) | exact KJ
    · refine g_sipush (v := 200) dX7_ticksToQuiet_59 (by decide) ?_
      refine g_goto (tgt := 66) dX7_ticksToQuiet_62 (by decide) ?_
      first | (simp only [if_neg c10] at KJ; exact KJ) | (simp only [if_neg c10, ite_true, ite_false, eq_self] at KJ; exact KJ) | (simp only [if_neg c10] at KJ ⊢; exact KJ) | exact KJ
  · replace K := K.2 c1
    refine g_aload_n dX7_ticksToQuiet_23 rfl 0 rfl ?_
    obtain ⟨e11, b12, e13, K⟩ := K
    refine g_get (c := 7) (k := 3) (v := .ref b12) dX7_ticksToQuiet_24 fc_7 (by decide) (by decide) bw_398 (congrArg pr e13) e11 ?_
    obtain ⟨e16, K⟩ := K
    obtain ⟨q14, C15, K⟩ := K
    refine g_callV (M' := mX1_isQuiet) (b := b12) (As := []) (rest := []) (rc' := rc) (rs' := rs) dX7_ticksToQuiet_27 bw_975 bw_473 bw_474 bw_2 bw_475 ⟨by decide +kernel, by decide +kernel, show (parseMethodDescriptor mX1_isQuiet.1.desc).map (fun d => d.parameters.length) = some 0 by decide +kernel⟩ (by decide) (by decide) (Nat.le_of_ble_eq_true rfl) fc_1 (by decide) rfl e16 C15 (Nat.le_of_eq (Nat.add_zero _)) (Nat.le_of_eq (Nat.add_zero _)) (fun _ _ h => h) ?_
    rintro _ h17 ⟨r18, rfl, K1⟩ -
    replace K := K r18 h17 K1
    show Gm l x mX7_ticksToQuiet 5 30 [(0, .ref a0), (1, .int x1)] [.int r18] h17 rc rs n0 Q X
    refine g_if_eq (tgt := 35) dX7_ticksToQuiet_30 (by decide) (fun c19 => ?_) (fun c19 => ?_)
    · replace K := K.1 c19
      refine g_aload_n dX7_ticksToQuiet_35 rfl 0 rfl ?_
      obtain ⟨e20, b21, e22, K⟩ := K
      refine g_get (c := 7) (k := 3) (v := .ref b21) dX7_ticksToQuiet_36 fc_7 (by decide) (by decide) bw_398 (congrArg pr e22) e20 ?_
      refine g_iconst (v := 1) dX7_ticksToQuiet_39 (by decide) ?_
      obtain ⟨e25, K⟩ := K
      obtain ⟨q23, C24, K⟩ := K
      refine g_callV (M' := mX1_pass) (b := b21) (As := [.int 1]) (rest := []) (rc' := rc) (rs' := rs) dX7_ticksToQuiet_40 bw_464 bw_465 bw_466 bw_2 bw_467 ⟨by decide +kernel, by decide +kernel, show (parseMethodDescriptor mX1_pass.1.desc).map (fun d => d.parameters.length) = some 1 by decide +kernel⟩ (by decide) (by decide) (Nat.le_of_ble_eq_true rfl) fc_1 (by decide) rfl e25 C24 (Nat.le_of_eq (Nat.add_zero _)) (Nat.le_of_eq (Nat.add_zero _)) (fun _ _ h => h) ?_
      rintro _ h26 ⟨rfl, K1⟩ -
      replace K := K h26 K1
      show Gm l x mX7_ticksToQuiet 5 43 [(0, .ref a0), (1, .int x1)] [] h26 rc rs n0 Q X
      refine g_iinc (v := (x1 + 1)) (lv' := [(0, .ref a0), (1, .int (x1 + 1))]) dX7_ticksToQuiet_43 1 rfl (by rfl) (by decide) rfl ?_
      refine g_goto (tgt := 16) dX7_ticksToQuiet_46 (by decide) ?_
      exact K
    · replace K := K.2 c19
      refine g_iload_n dX7_ticksToQuiet_33 rfl 1 rfl ?_
      exact g_iret dX7_ticksToQuiet_34 rfl K
theorem dX7_ticks_0 : decode cX7_ticks 0 = .ok (.aload_n 0, 1) := by decide +kernel
theorem dX7_ticks_1 : decode cX7_ticks 1 = .ok (.getfield 46, 3) := by decide +kernel
theorem dX7_ticks_4 : decode cX7_ticks 4 = .ok (.getfield 84, 3) := by decide +kernel
theorem dX7_ticks_7 : decode cX7_ticks 7 = .ok (.astore_n 2, 1) := by decide +kernel
theorem dX7_ticks_8 : decode cX7_ticks 8 = .ok (.iload_n 1, 1) := by decide +kernel
theorem dX7_ticks_9 : decode cX7_ticks 9 = .ok (.iconst 1, 1) := by decide +kernel
theorem dX7_ticks_10 : decode cX7_ticks 10 = .ok (.if_icmp .lt 21, 3) := by decide +kernel
theorem dX7_ticks_13 : decode cX7_ticks 13 = .ok (.iload_n 1, 1) := by decide +kernel
theorem dX7_ticks_14 : decode cX7_ticks 14 = .ok (.bipush 60, 2) := by decide +kernel
theorem dX7_ticks_16 : decode cX7_ticks 16 = .ok (.if_icmp .gt 15, 3) := by decide +kernel
theorem dX7_ticks_19 : decode cX7_ticks 19 = .ok (.aload_n 2, 1) := by decide +kernel
theorem dX7_ticks_20 : decode cX7_ticks 20 = .ok (.getfield 108, 3) := by decide +kernel
theorem dX7_ticks_23 : decode cX7_ticks 23 = .ok (.iload_n 1, 1) := by decide +kernel
theorem dX7_ticks_24 : decode cX7_ticks 24 = .ok (.iadd, 1) := by decide +kernel
theorem dX7_ticks_25 : decode cX7_ticks 25 = .ok (.sipush 999, 3) := by decide +kernel
theorem dX7_ticks_28 : decode cX7_ticks 28 = .ok (.if_icmp .le 8, 3) := by decide +kernel
theorem dX7_ticks_31 : decode cX7_ticks 31 = .ok (.aload_n 0, 1) := by decide +kernel
theorem dX7_ticks_32 : decode cX7_ticks 32 = .ok (.invokevirtual 295, 3) := by decide +kernel
theorem dX7_ticks_35 : decode cX7_ticks 35 = .ok (.ireturn, 1) := by decide +kernel
theorem dX7_ticks_36 : decode cX7_ticks 36 = .ok (.aload_n 0, 1) := by decide +kernel
theorem dX7_ticks_37 : decode cX7_ticks 37 = .ok (.getfield 46, 3) := by decide +kernel
theorem dX7_ticks_40 : decode cX7_ticks 40 = .ok (.getfield 153, 3) := by decide +kernel
theorem dX7_ticks_43 : decode cX7_ticks 43 = .ok (.aload_n 2, 1) := by decide +kernel
theorem dX7_ticks_44 : decode cX7_ticks 44 = .ok (.invokevirtual 298, 3) := by decide +kernel
theorem dX7_ticks_47 : decode cX7_ticks 47 = .ok (.aload_n 2, 1) := by decide +kernel
theorem dX7_ticks_48 : decode cX7_ticks 48 = .ok (.iload_n 1, 1) := by decide +kernel
theorem dX7_ticks_49 : decode cX7_ticks 49 = .ok (.invokevirtual 190, 3) := by decide +kernel
theorem dX7_ticks_52 : decode cX7_ticks 52 = .ok (.aload_n 2, 1) := by decide +kernel
theorem dX7_ticks_53 : decode cX7_ticks 53 = .ok (.getfield 108, 3) := by decide +kernel
theorem dX7_ticks_56 : decode cX7_ticks 56 = .ok (.ireturn, 1) := by decide +kernel
set_option maxRecDepth 20000 in
set_option maxHeartbeats 4000000 in
theorem vX7_ticks_0 {l : Launch} {x : CX} {a0 : Nat} {x1 : Int32} {h : PH} {rc rs n0 : Nat} {Q : Option Value → PH → Prop} {X : String → PH → Prop}
    (K : ((hK h a0).1 = 7) ∧ ∃ b2, (hR h a0 6 = some b2) ∧ ((hK h b2).1 = 3) ∧ ∃ b5, (hR h b2 0 = some b5) ∧ ((x1 < 1 → ∃ (q8 : Int32 → PH → Prop), CI l x mX7_refuseAct 0 0 0 [.ref a0] h q8 ∧ ∀ (r11 : Int32) (h10 : PH), q8 r11 h10 → Q (some (.int r11)) h10) ∧ (¬ x1 < 1 → ((60 < x1 → ∃ (q13 : Int32 → PH → Prop), CI l x mX7_refuseAct 0 0 0 [.ref a0] h q13 ∧ ∀ (r16 : Int32) (h15 : PH), q13 r16 h15 → Q (some (.int r16)) h15) ∧ (¬ 60 < x1 → ((hK h b5).1 = 1) ∧ ((((hI h b5 7) + x1) ≤ 999 → ∃ b19, (hR h b2 1 = some b19) ∧ ((hK h b19).1 = 0) ∧ ∃ (mc23 ms24 : Nat) (q21 : PH → Prop), mc23 ≤ rc ∧ ms24 ≤ rs ∧ CV l x mX0_keep 4 mc23 ms24 [.ref b19, .ref b5] h q21 ∧ ∀ (h26 : PH), q21 h26 → ((hK h26 b5).1 = 1) ∧ ∃ (q27 : PH → Prop), CV l x mX1_pass 4 0 0 [.ref b5, .int x1] h26 q27 ∧ ∀ (h30 : PH), q27 h30 → ((hK h30 b5).1 = 1) ∧ Q (some (.int (hI h30 b5 7))) h30) ∧ (¬ ((hI h b5 7) + x1) ≤ 999 → ∃ (q34 : Int32 → PH → Prop), CI l x mX7_refuseAct 0 0 0 [.ref a0] h q34 ∧ ∀ (r37 : Int32) (h36 : PH), q34 r37 h36 → Q (some (.int r37)) h36))))))) :
    Gm l x mX7_ticks 5 0 [(0, .ref a0), (1, .int x1)] [] h rc rs n0 Q X := by
  refine g_aload_n dX7_ticks_0 rfl 0 rfl ?_
  obtain ⟨e1, b2, e3, K⟩ := K
  refine g_get (c := 7) (k := 6) (v := .ref b2) dX7_ticks_1 fc_7 (by decide) (by decide) bw_401 (congrArg pr e3) e1 ?_
  obtain ⟨e4, b5, e6, K⟩ := K
  refine g_get (c := 3) (k := 0) (v := .ref b5) dX7_ticks_4 fc_3 (by decide) (by decide) bw_371 (congrArg pr e6) e4 ?_
  refine g_astore_n (lv' := [(0, .ref a0), (1, .int x1), (2, .ref b5)]) dX7_ticks_7 rfl (by decide) rfl ?_
  refine g_iload_n dX7_ticks_8 rfl 1 rfl ?_
  refine g_iconst (v := 1) dX7_ticks_9 (by decide) ?_
  refine g_icmp_lt (tgt := 31) dX7_ticks_10 (by decide) (fun c7 => ?_) (fun c7 => ?_)
  · replace K := K.1 c7
    refine g_aload_n dX7_ticks_31 rfl 0 rfl ?_
    obtain ⟨q8, C9, K⟩ := K
    refine g_callV (M' := mX7_refuseAct) (b := a0) (As := []) (rest := []) (rc' := rc) (rs' := rs) dX7_ticks_32 bw_439 bw_441 bs_1 bw_1 bw_442 ⟨by decide +kernel, by decide +kernel, show (parseMethodDescriptor mX7_refuseAct.1.desc).map (fun d => d.parameters.length) = some 0 by decide +kernel⟩ (by decide) (by decide) (Nat.le_of_ble_eq_true rfl) fc_7 (by decide) rfl e1 C9 (Nat.le_of_eq (Nat.add_zero _)) (Nat.le_of_eq (Nat.add_zero _)) (fun _ _ h => h) ?_
    rintro _ h10 ⟨r11, rfl, K1⟩ -
    replace K := K r11 h10 K1
    show Gm l x mX7_ticks 5 35 [(0, .ref a0), (1, .int x1), (2, .ref b5)] [.int r11] h10 rc rs n0 Q X
    exact g_iret dX7_ticks_35 rfl K
  · replace K := K.2 c7
    refine g_iload_n dX7_ticks_13 rfl 1 rfl ?_
    refine g_bipush (v := 60) dX7_ticks_14 (by decide) ?_
    refine g_icmp_gt (tgt := 31) dX7_ticks_16 (by decide) (fun c12 => ?_) (fun c12 => ?_)
    · replace K := K.1 c12
      refine g_aload_n dX7_ticks_31 rfl 0 rfl ?_
      obtain ⟨q13, C14, K⟩ := K
      refine g_callV (M' := mX7_refuseAct) (b := a0) (As := []) (rest := []) (rc' := rc) (rs' := rs) dX7_ticks_32 bw_439 bw_441 bs_1 bw_1 bw_442 ⟨by decide +kernel, by decide +kernel, show (parseMethodDescriptor mX7_refuseAct.1.desc).map (fun d => d.parameters.length) = some 0 by decide +kernel⟩ (by decide) (by decide) (Nat.le_of_ble_eq_true rfl) fc_7 (by decide) rfl e1 C14 (Nat.le_of_eq (Nat.add_zero _)) (Nat.le_of_eq (Nat.add_zero _)) (fun _ _ h => h) ?_
      rintro _ h15 ⟨r16, rfl, K1⟩ -
      replace K := K r16 h15 K1
      show Gm l x mX7_ticks 5 35 [(0, .ref a0), (1, .int x1), (2, .ref b5)] [.int r16] h15 rc rs n0 Q X
      exact g_iret dX7_ticks_35 rfl K
    · replace K := K.2 c12
      refine g_aload_n dX7_ticks_19 rfl 2 rfl ?_
      obtain ⟨e17, K⟩ := K
      refine g_get (c := 1) (k := 7) (v := .int (hI h b5 7)) dX7_ticks_20 fc_1 (by decide) (by decide) bw_207 rfl e17 ?_
      refine g_iload_n dX7_ticks_23 rfl 1 rfl ?_
      refine g_iadd dX7_ticks_24 ?_
      refine g_sipush (v := 999) dX7_ticks_25 (by decide) ?_
      refine g_icmp_le (tgt := 36) dX7_ticks_28 (by decide) (fun c18 => ?_) (fun c18 => ?_)
      · replace K := K.1 c18
        refine g_aload_n dX7_ticks_36 rfl 0 rfl ?_
        refine g_get (c := 7) (k := 6) (v := .ref b2) dX7_ticks_37 fc_7 (by decide) (by decide) bw_401 (congrArg pr e3) e1 ?_
        obtain ⟨b19, e20, K⟩ := K
        refine g_get (c := 3) (k := 1) (v := .ref b19) dX7_ticks_40 fc_3 (by decide) (by decide) bw_373 (congrArg pr e20) e4 ?_
        refine g_aload_n dX7_ticks_43 rfl 2 rfl ?_
        obtain ⟨e25, K⟩ := K
        obtain ⟨mc23, ms24, q21, e32, e33, C22, K⟩ := K
        refine g_callV (M' := mX0_keep) (b := b19) (As := [.ref b5]) (rest := []) (rc' := (rc - mc23)) (rs' := (rs - ms24)) dX7_ticks_44 bw_443 bw_444 bw_445 bw_8 bw_446 ⟨by decide +kernel, by decide +kernel, show (parseMethodDescriptor mX0_keep.1.desc).map (fun d => d.parameters.length) = some 1 by decide +kernel⟩ (by decide) (by decide) (Nat.le_of_ble_eq_true rfl) fc_0 (by decide) rfl e25 C22 (by omega) (by omega) (fun _ _ h => h) ?_
        rintro _ h26 ⟨rfl, K1⟩ -
        replace K := K h26 K1
        show Gm l x mX7_ticks 5 47 [(0, .ref a0), (1, .int x1), (2, .ref b5)] [] h26 (rc - mc23) (rs - ms24) n0 Q X
        refine g_aload_n dX7_ticks_47 rfl 2 rfl ?_
        refine g_iload_n dX7_ticks_48 rfl 1 rfl ?_
        obtain ⟨e29, K⟩ := K
        obtain ⟨q27, C28, K⟩ := K
        refine g_callV (M' := mX1_pass) (b := b5) (As := [.int x1]) (rest := []) (rc' := (rc - mc23)) (rs' := (rs - ms24)) dX7_ticks_49 bw_464 bw_465 bw_466 bw_2 bw_467 ⟨by decide +kernel, by decide +kernel, show (parseMethodDescriptor mX1_pass.1.desc).map (fun d => d.parameters.length) = some 1 by decide +kernel⟩ (by decide) (by decide) (Nat.le_of_ble_eq_true rfl) fc_1 (by decide) rfl e29 C28 (Nat.le_of_eq (Nat.add_zero _)) (Nat.le_of_eq (Nat.add_zero _)) (fun _ _ h => h) ?_
        rintro _ h30 ⟨rfl, K1⟩ -
        replace K := K h30 K1
        show Gm l x mX7_ticks 5 52 [(0, .ref a0), (1, .int x1), (2, .ref b5)] [] h30 (rc - mc23) (rs - ms24) n0 Q X
        refine g_aload_n dX7_ticks_52 rfl 2 rfl ?_
        obtain ⟨e31, K⟩ := K
        refine g_get (c := 1) (k := 7) (v := .int (hI h30 b5 7)) dX7_ticks_53 fc_1 (by decide) (by decide) bw_207 rfl e31 ?_
        exact g_iret dX7_ticks_56 rfl K
      · replace K := K.2 c18
        refine g_aload_n dX7_ticks_31 rfl 0 rfl ?_
        obtain ⟨q34, C35, K⟩ := K
        refine g_callV (M' := mX7_refuseAct) (b := a0) (As := []) (rest := []) (rc' := rc) (rs' := rs) dX7_ticks_32 bw_439 bw_441 bs_1 bw_1 bw_442 ⟨by decide +kernel, by decide +kernel, show (parseMethodDescriptor mX7_refuseAct.1.desc).map (fun d => d.parameters.length) = some 0 by decide +kernel⟩ (by decide) (by decide) (Nat.le_of_ble_eq_true rfl) fc_7 (by decide) rfl e1 C35 (Nat.le_of_eq (Nat.add_zero _)) (Nat.le_of_eq (Nat.add_zero _)) (fun _ _ h => h) ?_
        rintro _ h36 ⟨r37, rfl, K1⟩ -
        replace K := K r37 h36 K1
        show Gm l x mX7_ticks 5 35 [(0, .ref a0), (1, .int x1), (2, .ref b5)] [.int r37] h36 rc rs n0 Q X
        exact g_iret dX7_ticks_35 rfl K
theorem dX7_come_0 : decode cX7_come 0 = .ok (.aload_n 0, 1) := by decide +kernel
theorem dX7_come_1 : decode cX7_come 1 = .ok (.getfield 46, 3) := by decide +kernel
theorem dX7_come_4 : decode cX7_come 4 = .ok (.getfield 84, 3) := by decide +kernel
theorem dX7_come_7 : decode cX7_come 7 = .ok (.astore 4, 2) := by decide +kernel
theorem dX7_come_9 : decode cX7_come 9 = .ok (.aload 4, 2) := by decide +kernel
theorem dX7_come_11 : decode cX7_come 11 = .ok (.iload_n 1, 1) := by decide +kernel
theorem dX7_come_12 : decode cX7_come 12 = .ok (.invokevirtual 268, 3) := by decide +kernel
theorem dX7_come_15 : decode cX7_come 15 = .ok (.ifCond .eq 21, 3) := by decide +kernel
theorem dX7_come_18 : decode cX7_come 18 = .ok (.aload 4, 2) := by decide +kernel
theorem dX7_come_20 : decode cX7_come 20 = .ok (.iload_n 2, 1) := by decide +kernel
theorem dX7_come_21 : decode cX7_come 21 = .ok (.invokevirtual 268, 3) := by decide +kernel
theorem dX7_come_24 : decode cX7_come 24 = .ok (.ifCond .eq 12, 3) := by decide +kernel
theorem dX7_come_27 : decode cX7_come 27 = .ok (.iload_n 1, 1) := by decide +kernel
theorem dX7_come_28 : decode cX7_come 28 = .ok (.iload_n 2, 1) := by decide +kernel
theorem dX7_come_29 : decode cX7_come 29 = .ok (.if_icmp .eq 7, 3) := by decide +kernel
theorem dX7_come_32 : decode cX7_come 32 = .ok (.iconst 1, 1) := by decide +kernel
theorem dX7_come_33 : decode cX7_come 33 = .ok (.goto 4, 3) := by decide +kernel
theorem dX7_come_36 : decode cX7_come 36 = .ok (.iconst 0, 1) := by decide +kernel
theorem dX7_come_37 : decode cX7_come 37 = .ok (.istore 5, 2) := by decide +kernel
theorem dX7_come_39 : decode cX7_come 39 = .ok (.iload 5, 2) := by decide +kernel
theorem dX7_come_41 : decode cX7_come 41 = .ok (.ifCond .eq 20, 3) := by decide +kernel
theorem dX7_come_44 : decode cX7_come 44 = .ok (.iload_n 3, 1) := by decide +kernel
theorem dX7_come_45 : decode cX7_come 45 = .ok (.invokestatic 272, 3) := by decide +kernel
theorem dX7_come_48 : decode cX7_come 48 = .ok (.ifCond .eq 13, 3) := by decide +kernel
theorem dX7_come_51 : decode cX7_come 51 = .ok (.aload 4, 2) := by decide +kernel
theorem dX7_come_53 : decode cX7_come 53 = .ok (.getfield 93, 3) := by decide +kernel
theorem dX7_come_56 : decode cX7_come 56 = .ok (.bipush 24, 2) := by decide +kernel
theorem dX7_come_58 : decode cX7_come 58 = .ok (.if_icmp .lt 8, 3) := by decide +kernel
theorem dX7_come_61 : decode cX7_come 61 = .ok (.aload_n 0, 1) := by decide +kernel
theorem dX7_come_62 : decode cX7_come 62 = .ok (.invokevirtual 295, 3) := by decide +kernel
theorem dX7_come_65 : decode cX7_come 65 = .ok (.ireturn, 1) := by decide +kernel
theorem dX7_come_66 : decode cX7_come 66 = .ok (.aload_n 0, 1) := by decide +kernel
theorem dX7_come_67 : decode cX7_come 67 = .ok (.getfield 46, 3) := by decide +kernel
theorem dX7_come_70 : decode cX7_come 70 = .ok (.getfield 153, 3) := by decide +kernel
theorem dX7_come_73 : decode cX7_come 73 = .ok (.aload 4, 2) := by decide +kernel
theorem dX7_come_75 : decode cX7_come 75 = .ok (.invokevirtual 298, 3) := by decide +kernel
theorem dX7_come_78 : decode cX7_come 78 = .ok (.aload 4, 2) := by decide +kernel
theorem dX7_come_80 : decode cX7_come 80 = .ok (.iload_n 1, 1) := by decide +kernel
theorem dX7_come_81 : decode cX7_come 81 = .ok (.iload_n 2, 1) := by decide +kernel
theorem dX7_come_82 : decode cX7_come 82 = .ok (.iload_n 3, 1) := by decide +kernel
theorem dX7_come_83 : decode cX7_come 83 = .ok (.invokevirtual 301, 3) := by decide +kernel
theorem dX7_come_86 : decode cX7_come 86 = .ok (.ireturn, 1) := by decide +kernel
set_option maxRecDepth 20000 in
set_option maxHeartbeats 4000000 in
theorem vX7_come_0 {l : Launch} {x : CX} {a0 : Nat} {x1 : Int32} {x2 : Int32} {x3 : Int32} {h : PH} {rc rs n0 : Nat} {Q : Option Value → PH → Prop} {X : String → PH → Prop}
    (K : ((hK h a0).1 = 7) ∧ ∃ b2, (hR h a0 6 = some b2) ∧ ((hK h b2).1 = 3) ∧ ∃ b5, (hR h b2 0 = some b5) ∧ ((hK h b5).1 = 1) ∧ ∃ (q7 : Int32 → PH → Prop), CI l x mX1_hasFloor 0 0 0 [.ref b5, .int x1] h q7 ∧ ∀ (r11 : Int32) (h10 : PH), q7 r11 h10 → ((r11 = 0 → ((hK h10 a0).1 = 7) ∧ ∃ (q14 : Int32 → PH → Prop), CI l x mX7_refuseAct 0 0 0 [.ref a0] h10 q14 ∧ ∀ (r18 : Int32) (h17 : PH), q14 r18 h17 → Q (some (.int r18)) h17) ∧ (¬ r11 = 0 → ((hK h10 b5).1 = 1) ∧ ∃ (q19 : Int32 → PH → Prop), CI l x mX1_hasFloor 0 0 0 [.ref b5, .int x2] h10 q19 ∧ ∀ (r23 : Int32) (h22 : PH), q19 r23 h22 → ∀ (y26 : Int32), y26 = (if r23 = 0 then 0 else (if x1 = x2 then 0 else 1 : Int32) : Int32) → ((y26 = 0 → ((hK h22 a0).1 = 7) ∧ ∃ (q29 : Int32 → PH → Prop), CI l x mX7_refuseAct 0 0 0 [.ref a0] h22 q29 ∧ ∀ (r33 : Int32) (h32 : PH), q29 r33 h32 → Q (some (.int r33)) h32) ∧ (¬ y26 = 0 → ∃ (q34 : Int32 → PH → Prop), CI l x mX7_isSort 0 0 0 [.int x3] h22 q34 ∧ ∀ (r37 : Int32) (h36 : PH), q34 r37 h36 → ((r37 = 0 → ((hK h36 a0).1 = 7) ∧ ∃ (q39 : Int32 → PH → Prop), CI l x mX7_refuseAct 0 0 0 [.ref a0] h36 q39 ∧ ∀ (r43 : Int32) (h42 : PH), q39 r43 h42 → Q (some (.int r43)) h42) ∧ (¬ r37 = 0 → ((hK h36 b5).1 = 1) ∧ (((hI h36 b5 2) < 24 → ((hK h36 a0).1 = 7) ∧ ∃ b47, (hR h36 a0 6 = some b47) ∧ ((hK h36 b47).1 = 3) ∧ ∃ b50, (hR h36 b47 1 = some b50) ∧ ((hK h36 b50).1 = 0) ∧ ∃ (mc54 ms55 : Nat) (q52 : PH → Prop), mc54 ≤ rc ∧ ms55 ≤ rs ∧ CV l x mX0_keep 4 mc54 ms55 [.ref b50, .ref b5] h36 q52 ∧ ∀ (h57 : PH), q52 h57 → ((hK h57 b5).1 = 1) ∧ ∃ (q58 : Int32 → PH → Prop), CI l x mX1_addByHand 2 0 0 [.ref b5, .int x1, .int x2, .int x3] h57 q58 ∧ ∀ (r62 : Int32) (h61 : PH), q58 r62 h61 → Q (some (.int r62)) h61) ∧ (¬ (hI h36 b5 2) < 24 → ((hK h36 a0).1 = 7) ∧ ∃ (q65 : Int32 → PH → Prop), CI l x mX7_refuseAct 0 0 0 [.ref a0] h36 q65 ∧ ∀ (r69 : Int32) (h68 : PH), q65 r69 h68 → Q (some (.int r69)) h68))))))))) :
    Gm l x mX7_come 5 0 [(0, .ref a0), (1, .int x1), (2, .int x2), (3, .int x3)] [] h rc rs n0 Q X := by
  refine g_aload_n dX7_come_0 rfl 0 rfl ?_
  obtain ⟨e1, b2, e3, K⟩ := K
  refine g_get (c := 7) (k := 6) (v := .ref b2) dX7_come_1 fc_7 (by decide) (by decide) bw_401 (congrArg pr e3) e1 ?_
  obtain ⟨e4, b5, e6, K⟩ := K
  refine g_get (c := 3) (k := 0) (v := .ref b5) dX7_come_4 fc_3 (by decide) (by decide) bw_371 (congrArg pr e6) e4 ?_
  refine g_astore (lv' := [(0, .ref a0), (1, .int x1), (2, .int x2), (3, .int x3), (4, .ref b5)]) dX7_come_7 (by decide) rfl ?_
  refine g_aload dX7_come_9 4 rfl ?_
  refine g_iload_n dX7_come_11 rfl 1 rfl ?_
  obtain ⟨e9, K⟩ := K
  obtain ⟨q7, C8, K⟩ := K
  refine g_callV (M' := mX1_hasFloor) (b := b5) (As := [.int x1]) (rest := []) (rc' := rc) (rs' := rs) dX7_come_12 bw_608 bw_609 bw_610 bw_2 bw_611 ⟨by decide +kernel, by decide +kernel, show (parseMethodDescriptor mX1_hasFloor.1.desc).map (fun d => d.parameters.length) = some 1 by decide +kernel⟩ (by decide) (by decide) (Nat.le_of_ble_eq_true rfl) fc_1 (by decide) rfl e9 C8 (Nat.le_of_eq (Nat.add_zero _)) (Nat.le_of_eq (Nat.add_zero _)) (fun _ _ h => h) ?_
  rintro _ h10 ⟨r11, rfl, K1⟩ -
  replace K := K r11 h10 K1
  show Gm l x mX7_come 5 15 [(0, .ref a0), (1, .int x1), (2, .int x2), (3, .int x3), (4, .ref b5)] [.int r11] h10 rc rs n0 Q X
  refine g_if_eq (tgt := 36) dX7_come_15 (by decide) (fun c12 => ?_) (fun c12 => ?_)
  · replace K := K.1 c12
    refine g_iconst (v := 0) dX7_come_36 (by decide) ?_
    refine g_istore (lv' := [(0, .ref a0), (1, .int x1), (2, .int x2), (3, .int x3), (4, .ref b5), (5, .int 0)]) dX7_come_37 (by decide) rfl ?_
    refine g_iload dX7_come_39 5 rfl ?_
    refine g_if_eq (tgt := 61) dX7_come_41 (by decide) (fun c13 => ?_) (fun c13 => ?_)
    · refine g_aload_n dX7_come_61 rfl 0 rfl ?_
      obtain ⟨e16, K⟩ := K
      obtain ⟨q14, C15, K⟩ := K
      refine g_callV (M' := mX7_refuseAct) (b := a0) (As := []) (rest := []) (rc' := rc) (rs' := rs) dX7_come_62 bw_439 bw_441 bs_1 bw_1 bw_442 ⟨by decide +kernel, by decide +kernel, show (parseMethodDescriptor mX7_refuseAct.1.desc).map (fun d => d.parameters.length) = some 0 by decide +kernel⟩ (by decide) (by decide) (Nat.le_of_ble_eq_true rfl) fc_7 (by decide) rfl e16 C15 (Nat.le_of_eq (Nat.add_zero _)) (Nat.le_of_eq (Nat.add_zero _)) (fun _ _ h => h) ?_
      rintro _ h17 ⟨r18, rfl, K1⟩ -
      replace K := K r18 h17 K1
      show Gm l x mX7_come 5 65 [(0, .ref a0), (1, .int x1), (2, .int x2), (3, .int x3), (4, .ref b5), (5, .int 0)] [.int r18] h17 rc rs n0 Q X
      exact g_iret dX7_come_65 rfl K
    · exact absurd c13 (by decide)
  · replace K := K.2 c12
    refine g_aload dX7_come_18 4 rfl ?_
    refine g_iload_n dX7_come_20 rfl 2 rfl ?_
    obtain ⟨e21, K⟩ := K
    obtain ⟨q19, C20, K⟩ := K
    refine g_callV (M' := mX1_hasFloor) (b := b5) (As := [.int x2]) (rest := []) (rc' := rc) (rs' := rs) dX7_come_21 bw_608 bw_609 bw_610 bw_2 bw_611 ⟨by decide +kernel, by decide +kernel, show (parseMethodDescriptor mX1_hasFloor.1.desc).map (fun d => d.parameters.length) = some 1 by decide +kernel⟩ (by decide) (by decide) (Nat.le_of_ble_eq_true rfl) fc_1 (by decide) rfl e21 C20 (Nat.le_of_eq (Nat.add_zero _)) (Nat.le_of_eq (Nat.add_zero _)) (fun _ _ h => h) ?_
    rintro _ h22 ⟨r23, rfl, K1⟩ -
    replace K := K r23 h22 K1
    show Gm l x mX7_come 5 24 [(0, .ref a0), (1, .int x1), (2, .int x2), (3, .int x3), (4, .ref b5)] [.int r23] h22 rc rs n0 Q X
    have KJ : Gm l x mX7_come 5 37 [(0, .ref a0), (1, .int x1), (2, .int x2), (3, .int x3), (4, .ref b5)] [.int (if r23 = 0 then 0 else (if x1 = x2 then 0 else 1 : Int32) : Int32)] h22 rc rs n0 Q X := by
      refine g_nmI (fun y26 e27 => ?_)
      replace K := K y26 e27
      refine g_istore (lv' := [(0, .ref a0), (1, .int x1), (2, .int x2), (3, .int x3), (4, .ref b5), (5, .int y26)]) dX7_come_37 (by decide) rfl ?_
      refine g_iload dX7_come_39 5 rfl ?_
      refine g_if_eq (tgt := 61) dX7_come_41 (by decide) (fun c28 => ?_) (fun c28 => ?_)
      · replace K := K.1 c28
        refine g_aload_n dX7_come_61 rfl 0 rfl ?_
        obtain ⟨e31, K⟩ := K
        obtain ⟨q29, C30, K⟩ := K
        refine g_callV (M' := mX7_refuseAct) (b := a0) (As := []) (rest := []) (rc' := rc) (rs' := rs) dX7_come_62 bw_439 bw_441 bs_1 bw_1 bw_442 ⟨by decide +kernel, by decide +kernel, show (parseMethodDescriptor mX7_refuseAct.1.desc).map (fun d => d.parameters.length) = some 0 by decide +kernel⟩ (by decide) (by decide) (Nat.le_of_ble_eq_true rfl) fc_7 (by decide) rfl e31 C30 (Nat.le_of_eq (Nat.add_zero _)) (Nat.le_of_eq (Nat.add_zero _)) (fun _ _ h => h) ?_
        rintro _ h32 ⟨r33, rfl, K1⟩ -
        replace K := K r33 h32 K1
        show Gm l x mX7_come 5 65 [(0, .ref a0), (1, .int x1), (2, .int x2), (3, .int x3), (4, .ref b5), (5, .int y26)] [.int r33] h32 rc rs n0 Q X
        exact g_iret dX7_come_65 rfl K
      · replace K := K.2 c28
        refine g_iload_n dX7_come_44 rfl 3 rfl ?_
        obtain ⟨q34, C35, K⟩ := K
        refine g_callS (M' := mX7_isSort) (As := [.int x3]) (rest := []) (rc' := rc) (rs' := rs) dX7_come_45 bw_612 bw_613 bw_1 bw_614 ⟨by decide +kernel, by decide +kernel, show (parseMethodDescriptor mX7_isSort.1.desc).map (fun d => d.parameters.length) = some 1 by decide +kernel⟩ (by decide) (by decide) (Nat.le_of_ble_eq_true rfl) C35 (Nat.le_of_eq (Nat.add_zero _)) (Nat.le_of_eq (Nat.add_zero _)) (fun _ _ h => h) ?_
        rintro _ h36 ⟨r37, rfl, K1⟩ -
        replace K := K r37 h36 K1
        show Gm l x mX7_come 5 48 [(0, .ref a0), (1, .int x1), (2, .int x2), (3, .int x3), (4, .ref b5), (5, .int y26)] [.int r37] h36 rc rs n0 Q X
        refine g_if_eq (tgt := 61) dX7_come_48 (by decide) (fun c38 => ?_) (fun c38 => ?_)
        · replace K := K.1 c38
          refine g_aload_n dX7_come_61 rfl 0 rfl ?_
          obtain ⟨e41, K⟩ := K
          obtain ⟨q39, C40, K⟩ := K
          refine g_callV (M' := mX7_refuseAct) (b := a0) (As := []) (rest := []) (rc' := rc) (rs' := rs) dX7_come_62 bw_439 bw_441 bs_1 bw_1 bw_442 ⟨by decide +kernel, by decide +kernel, show (parseMethodDescriptor mX7_refuseAct.1.desc).map (fun d => d.parameters.length) = some 0 by decide +kernel⟩ (by decide) (by decide) (Nat.le_of_ble_eq_true rfl) fc_7 (by decide) rfl e41 C40 (Nat.le_of_eq (Nat.add_zero _)) (Nat.le_of_eq (Nat.add_zero _)) (fun _ _ h => h) ?_
          rintro _ h42 ⟨r43, rfl, K1⟩ -
          replace K := K r43 h42 K1
          show Gm l x mX7_come 5 65 [(0, .ref a0), (1, .int x1), (2, .int x2), (3, .int x3), (4, .ref b5), (5, .int y26)] [.int r43] h42 rc rs n0 Q X
          exact g_iret dX7_come_65 rfl K
        · replace K := K.2 c38
          refine g_aload dX7_come_51 4 rfl ?_
          obtain ⟨e44, K⟩ := K
          refine g_get (c := 1) (k := 2) (v := .int (hI h36 b5 2)) dX7_come_53 fc_1 (by decide) (by decide) bw_188 rfl e44 ?_
          refine g_bipush (v := 24) dX7_come_56 (by decide) ?_
          refine g_icmp_lt (tgt := 66) dX7_come_58 (by decide) (fun c45 => ?_) (fun c45 => ?_)
          · replace K := K.1 c45
            refine g_aload_n dX7_come_66 rfl 0 rfl ?_
            obtain ⟨e46, b47, e48, K⟩ := K
            refine g_get (c := 7) (k := 6) (v := .ref b47) dX7_come_67 fc_7 (by decide) (by decide) bw_401 (congrArg pr e48) e46 ?_
            obtain ⟨e49, b50, e51, K⟩ := K
            refine g_get (c := 3) (k := 1) (v := .ref b50) dX7_come_70 fc_3 (by decide) (by decide) bw_373 (congrArg pr e51) e49 ?_
            refine g_aload dX7_come_73 4 rfl ?_
            obtain ⟨e56, K⟩ := K
            obtain ⟨mc54, ms55, q52, e63, e64, C53, K⟩ := K
            refine g_callV (M' := mX0_keep) (b := b50) (As := [.ref b5]) (rest := []) (rc' := (rc - mc54)) (rs' := (rs - ms55)) dX7_come_75 bw_443 bw_444 bw_445 bw_8 bw_446 ⟨by decide +kernel, by decide +kernel, show (parseMethodDescriptor mX0_keep.1.desc).map (fun d => d.parameters.length) = some 1 by decide +kernel⟩ (by decide) (by decide) (Nat.le_of_ble_eq_true rfl) fc_0 (by decide) rfl e56 C53 (by omega) (by omega) (fun _ _ h => h) ?_
            rintro _ h57 ⟨rfl, K1⟩ -
            replace K := K h57 K1
            show Gm l x mX7_come 5 78 [(0, .ref a0), (1, .int x1), (2, .int x2), (3, .int x3), (4, .ref b5), (5, .int y26)] [] h57 (rc - mc54) (rs - ms55) n0 Q X
            refine g_aload dX7_come_78 4 rfl ?_
            refine g_iload_n dX7_come_80 rfl 1 rfl ?_
            refine g_iload_n dX7_come_81 rfl 2 rfl ?_
            refine g_iload_n dX7_come_82 rfl 3 rfl ?_
            obtain ⟨e60, K⟩ := K
            obtain ⟨q58, C59, K⟩ := K
            refine g_callV (M' := mX1_addByHand) (b := b5) (As := [.int x1, .int x2, .int x3]) (rest := []) (rc' := (rc - mc54)) (rs' := (rs - ms55)) dX7_come_83 bw_615 bw_616 bw_617 bw_2 bw_618 ⟨by decide +kernel, by decide +kernel, show (parseMethodDescriptor mX1_addByHand.1.desc).map (fun d => d.parameters.length) = some 3 by decide +kernel⟩ (by decide) (by decide) (Nat.le_of_ble_eq_true rfl) fc_1 (by decide) rfl e60 C59 (Nat.le_of_eq (Nat.add_zero _)) (Nat.le_of_eq (Nat.add_zero _)) (fun _ _ h => h) ?_
            rintro _ h61 ⟨r62, rfl, K1⟩ -
            replace K := K r62 h61 K1
            show Gm l x mX7_come 5 86 [(0, .ref a0), (1, .int x1), (2, .int x2), (3, .int x3), (4, .ref b5), (5, .int y26)] [.int r62] h61 (rc - mc54) (rs - ms55) n0 Q X
            exact g_iret dX7_come_86 rfl K
          · replace K := K.2 c45
            refine g_aload_n dX7_come_61 rfl 0 rfl ?_
            obtain ⟨e67, K⟩ := K
            obtain ⟨q65, C66, K⟩ := K
            refine g_callV (M' := mX7_refuseAct) (b := a0) (As := []) (rest := []) (rc' := rc) (rs' := rs) dX7_come_62 bw_439 bw_441 bs_1 bw_1 bw_442 ⟨by decide +kernel, by decide +kernel, show (parseMethodDescriptor mX7_refuseAct.1.desc).map (fun d => d.parameters.length) = some 0 by decide +kernel⟩ (by decide) (by decide) (Nat.le_of_ble_eq_true rfl) fc_7 (by decide) rfl e67 C66 (Nat.le_of_eq (Nat.add_zero _)) (Nat.le_of_eq (Nat.add_zero _)) (fun _ _ h => h) ?_
            rintro _ h68 ⟨r69, rfl, K1⟩ -
            replace K := K r69 h68 K1
            show Gm l x mX7_come 5 65 [(0, .ref a0), (1, .int x1), (2, .int x2), (3, .int x3), (4, .ref b5), (5, .int y26)] [.int r69] h68 rc rs n0 Q X
            exact g_iret dX7_come_65 rfl K
    refine g_if_eq (tgt := 36) dX7_come_24 (by decide) (fun c24 => ?_) (fun c24 => ?_)
    · refine g_iconst (v := 0) dX7_come_36 (by decide) ?_
      first | (simp only [if_pos c24] at KJ; exact KJ) | (simp only [if_pos c24, ite_true, ite_false, eq_self] at KJ; exact KJ) | (simp only [if_pos c24] at KJ ⊢; exact KJ) | exact KJ
    · refine g_iload_n dX7_come_27 rfl 1 rfl ?_
      refine g_iload_n dX7_come_28 rfl 2 rfl ?_
      refine g_icmp_eq (tgt := 36) dX7_come_29 (by decide) (fun c25 => ?_) (fun c25 => ?_)
      · refine g_iconst (v := 0) dX7_come_36 (by decide) ?_
        first | (simp only [if_neg c24, if_pos c25] at KJ; exact KJ) | (simp only [if_neg c24, if_pos c25, ite_true, ite_false, eq_self] at KJ; exact KJ) | (simp only [if_neg c24, if_pos c25] at KJ ⊢; exact KJ) | exact KJ
      · refine g_iconst (v := 1) dX7_come_32 (by decide) ?_
        refine g_goto (tgt := 37) dX7_come_33 (by decide) ?_
        first | (simp only [if_neg c24, if_neg c25] at KJ; exact KJ) | (simp only [if_neg c24, if_neg c25, ite_true, ite_false, eq_self] at KJ; exact KJ) | (simp only [if_neg c24, if_neg c25] at KJ ⊢; exact KJ) | exact KJ
theorem dX7_out_0 : decode cX7_out 0 = .ok (.aload_n 0, 1) := by decide +kernel
theorem dX7_out_1 : decode cX7_out 1 = .ok (.getfield 46, 3) := by decide +kernel
theorem dX7_out_4 : decode cX7_out 4 = .ok (.getfield 84, 3) := by decide +kernel
theorem dX7_out_7 : decode cX7_out 7 = .ok (.astore_n 3, 1) := by decide +kernel
theorem dX7_out_8 : decode cX7_out 8 = .ok (.iload_n 1, 1) := by decide +kernel
theorem dX7_out_9 : decode cX7_out 9 = .ok (.ifCond .lt 24, 3) := by decide +kernel
theorem dX7_out_12 : decode cX7_out 12 = .ok (.iload_n 1, 1) := by decide +kernel
theorem dX7_out_13 : decode cX7_out 13 = .ok (.aload_n 3, 1) := by decide +kernel
theorem dX7_out_14 : decode cX7_out 14 = .ok (.getfield 90, 3) := by decide +kernel
theorem dX7_out_17 : decode cX7_out 17 = .ok (.if_icmp .ge 16, 3) := by decide +kernel
theorem dX7_out_20 : decode cX7_out 20 = .ok (.aload_n 3, 1) := by decide +kernel
theorem dX7_out_21 : decode cX7_out 21 = .ok (.getfield 195, 3) := by decide +kernel
theorem dX7_out_24 : decode cX7_out 24 = .ok (.iload_n 1, 1) := by decide +kernel
theorem dX7_out_25 : decode cX7_out 25 = .ok (.aaload, 1) := by decide +kernel
theorem dX7_out_26 : decode cX7_out 26 = .ok (.getfield 222, 3) := by decide +kernel
theorem dX7_out_29 : decode cX7_out 29 = .ok (.iload_n 2, 1) := by decide +kernel
theorem dX7_out_30 : decode cX7_out 30 = .ok (.if_icmp .eq 10, 3) := by decide +kernel
theorem dX7_out_33 : decode cX7_out 33 = .ok (.aload_n 0, 1) := by decide +kernel
theorem dX7_out_34 : decode cX7_out 34 = .ok (.invokevirtual 295, 3) := by decide +kernel
theorem dX7_out_37 : decode cX7_out 37 = .ok (.pop, 1) := by decide +kernel
theorem dX7_out_38 : decode cX7_out 38 = .ok (.iconst 0, 1) := by decide +kernel
theorem dX7_out_39 : decode cX7_out 39 = .ok (.ireturn, 1) := by decide +kernel
theorem dX7_out_40 : decode cX7_out 40 = .ok (.aload_n 0, 1) := by decide +kernel
theorem dX7_out_41 : decode cX7_out 41 = .ok (.getfield 46, 3) := by decide +kernel
theorem dX7_out_44 : decode cX7_out 44 = .ok (.getfield 153, 3) := by decide +kernel
theorem dX7_out_47 : decode cX7_out 47 = .ok (.aload_n 3, 1) := by decide +kernel
theorem dX7_out_48 : decode cX7_out 48 = .ok (.invokevirtual 298, 3) := by decide +kernel
theorem dX7_out_51 : decode cX7_out 51 = .ok (.iload_n 2, 1) := by decide +kernel
theorem dX7_out_52 : decode cX7_out 52 = .ok (.ifCond .eq 11, 3) := by decide +kernel
theorem dX7_out_55 : decode cX7_out 55 = .ok (.aload_n 3, 1) := by decide +kernel
theorem dX7_out_56 : decode cX7_out 56 = .ok (.iload_n 1, 1) := by decide +kernel
theorem dX7_out_57 : decode cX7_out 57 = .ok (.invokevirtual 304, 3) := by decide +kernel
theorem dX7_out_60 : decode cX7_out 60 = .ok (.goto 13, 3) := by decide +kernel
theorem dX7_out_63 : decode cX7_out 63 = .ok (.aload_n 3, 1) := by decide +kernel
theorem dX7_out_64 : decode cX7_out 64 = .ok (.getfield 195, 3) := by decide +kernel
theorem dX7_out_67 : decode cX7_out 67 = .ok (.iload_n 1, 1) := by decide +kernel
theorem dX7_out_68 : decode cX7_out 68 = .ok (.aaload, 1) := by decide +kernel
theorem dX7_out_69 : decode cX7_out 69 = .ok (.iconst 1, 1) := by decide +kernel
theorem dX7_out_70 : decode cX7_out 70 = .ok (.putfield 222, 3) := by decide +kernel
theorem dX7_out_73 : decode cX7_out 73 = .ok (.iconst 1, 1) := by decide +kernel
theorem dX7_out_74 : decode cX7_out 74 = .ok (.ireturn, 1) := by decide +kernel
set_option maxRecDepth 20000 in
set_option maxHeartbeats 4000000 in
theorem vX7_out_0 {l : Launch} {x : CX} {a0 : Nat} {x1 : Int32} {x2 : Int32} {h : PH} {rc rs n0 : Nat} {Q : Option Value → PH → Prop} {X : String → PH → Prop}
    (K : ((hK h a0).1 = 7) ∧ ∃ b2, (hR h a0 6 = some b2) ∧ ((hK h b2).1 = 3) ∧ ∃ b5, (hR h b2 0 = some b5) ∧ ((x1 < 0 → ∃ (q8 : Int32 → PH → Prop), CI l x mX7_refuseAct 0 0 0 [.ref a0] h q8 ∧ ∀ (r11 : Int32) (h10 : PH), q8 r11 h10 → ((0 : Int32) = 0 ∨ (0 : Int32) = 1) ∧ Q (some (.int 0)) h10) ∧ (¬ x1 < 0 → ((hK h b5).1 = 1) ∧ (((hI h b5 1) ≤ x1 → ∃ (q14 : Int32 → PH → Prop), CI l x mX7_refuseAct 0 0 0 [.ref a0] h q14 ∧ ∀ (r17 : Int32) (h16 : PH), q14 r17 h16 → ((0 : Int32) = 0 ∨ (0 : Int32) = 1) ∧ Q (some (.int 0)) h16) ∧ (¬ (hI h b5 1) ≤ x1 → ∃ b18, (hR h b5 13 = some b18) ∧ ((hK h b18).1 = 105) ∧ (vp_in x1 (hK h b18).2) ∧ ∃ b22, (hR h b18 x1.toNatClampNeg = some b22) ∧ ((hK h b22).1 = 2) ∧ (((hI h b22 6) = x2 → ∃ b26, (hR h b2 1 = some b26) ∧ ((hK h b26).1 = 0) ∧ ∃ (mc30 ms31 : Nat) (q28 : PH → Prop), mc30 ≤ rc ∧ ms31 ≤ rs ∧ CV l x mX0_keep 4 mc30 ms31 [.ref b26, .ref b5] h q28 ∧ ∀ (h33 : PH), q28 h33 → ((x2 = 0 → ((hK h33 b5).1 = 1) ∧ ∃ b36, (hR h33 b5 13 = some b36) ∧ ((hK h33 b36).1 = 105) ∧ (vp_in x1 (hK h33 b36).2) ∧ ∃ b40, (hR h33 b36 x1.toNatClampNeg = some b40) ∧ ((hK h33 b40).1 = 2) ∧ ((1 : Int32) = 0 ∨ (1 : Int32) = 1) ∧ Q (some (.int 1)) (sI h33 b40 6 1)) ∧ (¬ x2 = 0 → ((hK h33 b5).1 = 1) ∧ ∃ (q43 : PH → Prop), CV l x mX1_putOutOfService 2 0 0 [.ref b5, .int x1] h33 q43 ∧ ∀ (h46 : PH), q43 h46 → ((1 : Int32) = 0 ∨ (1 : Int32) = 1) ∧ Q (some (.int 1)) h46))) ∧ (¬ (hI h b22 6) = x2 → ∃ (q49 : Int32 → PH → Prop), CI l x mX7_refuseAct 0 0 0 [.ref a0] h q49 ∧ ∀ (r52 : Int32) (h51 : PH), q49 r52 h51 → ((0 : Int32) = 0 ∨ (0 : Int32) = 1) ∧ Q (some (.int 0)) h51))))))) :
    Gm l x mX7_out 5 0 [(0, .ref a0), (1, .int x1), (2, .int x2)] [] h rc rs n0 Q X := by
  refine g_aload_n dX7_out_0 rfl 0 rfl ?_
  obtain ⟨e1, b2, e3, K⟩ := K
  refine g_get (c := 7) (k := 6) (v := .ref b2) dX7_out_1 fc_7 (by decide) (by decide) bw_401 (congrArg pr e3) e1 ?_
  obtain ⟨e4, b5, e6, K⟩ := K
  refine g_get (c := 3) (k := 0) (v := .ref b5) dX7_out_4 fc_3 (by decide) (by decide) bw_371 (congrArg pr e6) e4 ?_
  refine g_astore_n (lv' := [(0, .ref a0), (1, .int x1), (2, .int x2), (3, .ref b5)]) dX7_out_7 rfl (by decide) rfl ?_
  refine g_iload_n dX7_out_8 rfl 1 rfl ?_
  refine g_if_lt (tgt := 33) dX7_out_9 (by decide) (fun c7 => ?_) (fun c7 => ?_)
  · replace K := K.1 c7
    refine g_aload_n dX7_out_33 rfl 0 rfl ?_
    obtain ⟨q8, C9, K⟩ := K
    refine g_callV (M' := mX7_refuseAct) (b := a0) (As := []) (rest := []) (rc' := rc) (rs' := rs) dX7_out_34 bw_439 bw_441 bs_1 bw_1 bw_442 ⟨by decide +kernel, by decide +kernel, show (parseMethodDescriptor mX7_refuseAct.1.desc).map (fun d => d.parameters.length) = some 0 by decide +kernel⟩ (by decide) (by decide) (Nat.le_of_ble_eq_true rfl) fc_7 (by decide) rfl e1 C9 (Nat.le_of_eq (Nat.add_zero _)) (Nat.le_of_eq (Nat.add_zero _)) (fun _ _ h => h) ?_
    rintro _ h10 ⟨r11, rfl, K1⟩ -
    replace K := K r11 h10 K1
    show Gm l x mX7_out 5 37 [(0, .ref a0), (1, .int x1), (2, .int x2), (3, .ref b5)] [.int r11] h10 rc rs n0 Q X
    refine g_pop dX7_out_37 rfl ?_
    refine g_iconst (v := 0) dX7_out_38 (by decide) ?_
    exact g_zret dX7_out_39 rfl K.1 K.2
  · replace K := K.2 c7
    refine g_iload_n dX7_out_12 rfl 1 rfl ?_
    refine g_aload_n dX7_out_13 rfl 3 rfl ?_
    obtain ⟨e12, K⟩ := K
    refine g_get (c := 1) (k := 1) (v := .int (hI h b5 1)) dX7_out_14 fc_1 (by decide) (by decide) bw_183 rfl e12 ?_
    refine g_icmp_ge (tgt := 33) dX7_out_17 (by decide) (fun c13 => ?_) (fun c13 => ?_)
    · replace K := K.1 c13
      refine g_aload_n dX7_out_33 rfl 0 rfl ?_
      obtain ⟨q14, C15, K⟩ := K
      refine g_callV (M' := mX7_refuseAct) (b := a0) (As := []) (rest := []) (rc' := rc) (rs' := rs) dX7_out_34 bw_439 bw_441 bs_1 bw_1 bw_442 ⟨by decide +kernel, by decide +kernel, show (parseMethodDescriptor mX7_refuseAct.1.desc).map (fun d => d.parameters.length) = some 0 by decide +kernel⟩ (by decide) (by decide) (Nat.le_of_ble_eq_true rfl) fc_7 (by decide) rfl e1 C15 (Nat.le_of_eq (Nat.add_zero _)) (Nat.le_of_eq (Nat.add_zero _)) (fun _ _ h => h) ?_
      rintro _ h16 ⟨r17, rfl, K1⟩ -
      replace K := K r17 h16 K1
      show Gm l x mX7_out 5 37 [(0, .ref a0), (1, .int x1), (2, .int x2), (3, .ref b5)] [.int r17] h16 rc rs n0 Q X
      refine g_pop dX7_out_37 rfl ?_
      refine g_iconst (v := 0) dX7_out_38 (by decide) ?_
      exact g_zret dX7_out_39 rfl K.1 K.2
    · replace K := K.2 c13
      refine g_aload_n dX7_out_20 rfl 3 rfl ?_
      obtain ⟨b18, e19, K⟩ := K
      refine g_get (c := 1) (k := 13) (v := .ref b18) dX7_out_21 fc_1 (by decide) (by decide) bw_218 (congrArg pr e19) e12 ?_
      refine g_iload_n dX7_out_24 rfl 1 rfl ?_
      obtain ⟨e20, e21, b22, e23, K⟩ := K
      refine g_aald (t := 5) (v := .ref b22) dX7_out_25 (Or.inl rfl) e20 e21 (congrArg pr e23) ?_
      obtain ⟨e24, K⟩ := K
      refine g_get (c := 2) (k := 6) (v := .int (hI h b22 6)) dX7_out_26 fc_2 (by decide) (by decide) bw_67 rfl e24 ?_
      refine g_iload_n dX7_out_29 rfl 2 rfl ?_
      refine g_icmp_eq (tgt := 40) dX7_out_30 (by decide) (fun c25 => ?_) (fun c25 => ?_)
      · replace K := K.1 c25
        refine g_aload_n dX7_out_40 rfl 0 rfl ?_
        refine g_get (c := 7) (k := 6) (v := .ref b2) dX7_out_41 fc_7 (by decide) (by decide) bw_401 (congrArg pr e3) e1 ?_
        obtain ⟨b26, e27, K⟩ := K
        refine g_get (c := 3) (k := 1) (v := .ref b26) dX7_out_44 fc_3 (by decide) (by decide) bw_373 (congrArg pr e27) e4 ?_
        refine g_aload_n dX7_out_47 rfl 3 rfl ?_
        obtain ⟨e32, K⟩ := K
        obtain ⟨mc30, ms31, q28, e47, e48, C29, K⟩ := K
        refine g_callV (M' := mX0_keep) (b := b26) (As := [.ref b5]) (rest := []) (rc' := (rc - mc30)) (rs' := (rs - ms31)) dX7_out_48 bw_443 bw_444 bw_445 bw_8 bw_446 ⟨by decide +kernel, by decide +kernel, show (parseMethodDescriptor mX0_keep.1.desc).map (fun d => d.parameters.length) = some 1 by decide +kernel⟩ (by decide) (by decide) (Nat.le_of_ble_eq_true rfl) fc_0 (by decide) rfl e32 C29 (by omega) (by omega) (fun _ _ h => h) ?_
        rintro _ h33 ⟨rfl, K1⟩ -
        replace K := K h33 K1
        show Gm l x mX7_out 5 51 [(0, .ref a0), (1, .int x1), (2, .int x2), (3, .ref b5)] [] h33 (rc - mc30) (rs - ms31) n0 Q X
        refine g_iload_n dX7_out_51 rfl 2 rfl ?_
        refine g_if_eq (tgt := 63) dX7_out_52 (by decide) (fun c34 => ?_) (fun c34 => ?_)
        · replace K := K.1 c34
          refine g_aload_n dX7_out_63 rfl 3 rfl ?_
          obtain ⟨e35, b36, e37, K⟩ := K
          refine g_get (c := 1) (k := 13) (v := .ref b36) dX7_out_64 fc_1 (by decide) (by decide) bw_218 (congrArg pr e37) e35 ?_
          refine g_iload_n dX7_out_67 rfl 1 rfl ?_
          obtain ⟨e38, e39, b40, e41, K⟩ := K
          refine g_aald (t := 5) (v := .ref b40) dX7_out_68 (Or.inl rfl) e38 e39 (congrArg pr e41) ?_
          refine g_iconst (v := 1) dX7_out_69 (by decide) ?_
          obtain ⟨e42, K⟩ := K
          refine g_putz (c := 2) (k := 6) dX7_out_70 fc_2 (by decide) (by decide) bw_67 (Or.inl rfl) rfl (by decide) e42 ?_
          refine g_iconst (v := 1) dX7_out_73 (by decide) ?_
          exact g_zret dX7_out_74 rfl K.1 K.2
        · replace K := K.2 c34
          refine g_aload_n dX7_out_55 rfl 3 rfl ?_
          refine g_iload_n dX7_out_56 rfl 1 rfl ?_
          obtain ⟨e45, K⟩ := K
          obtain ⟨q43, C44, K⟩ := K
          refine g_callV (M' := mX1_putOutOfService) (b := b5) (As := [.int x1]) (rest := []) (rc' := (rc - mc30)) (rs' := (rs - ms31)) dX7_out_57 bw_631 bw_632 bw_633 bw_2 bw_634 ⟨by decide +kernel, by decide +kernel, show (parseMethodDescriptor mX1_putOutOfService.1.desc).map (fun d => d.parameters.length) = some 1 by decide +kernel⟩ (by decide) (by decide) (Nat.le_of_ble_eq_true rfl) fc_1 (by decide) rfl e45 C44 (Nat.le_of_eq (Nat.add_zero _)) (Nat.le_of_eq (Nat.add_zero _)) (fun _ _ h => h) ?_
          rintro _ h46 ⟨rfl, K1⟩ -
          replace K := K h46 K1
          show Gm l x mX7_out 5 60 [(0, .ref a0), (1, .int x1), (2, .int x2), (3, .ref b5)] [] h46 (rc - mc30) (rs - ms31) n0 Q X
          refine g_goto (tgt := 73) dX7_out_60 (by decide) ?_
          refine g_iconst (v := 1) dX7_out_73 (by decide) ?_
          exact g_zret dX7_out_74 rfl K.1 K.2
      · replace K := K.2 c25
        refine g_aload_n dX7_out_33 rfl 0 rfl ?_
        obtain ⟨q49, C50, K⟩ := K
        refine g_callV (M' := mX7_refuseAct) (b := a0) (As := []) (rest := []) (rc' := rc) (rs' := rs) dX7_out_34 bw_439 bw_441 bs_1 bw_1 bw_442 ⟨by decide +kernel, by decide +kernel, show (parseMethodDescriptor mX7_refuseAct.1.desc).map (fun d => d.parameters.length) = some 0 by decide +kernel⟩ (by decide) (by decide) (Nat.le_of_ble_eq_true rfl) fc_7 (by decide) rfl e1 C50 (Nat.le_of_eq (Nat.add_zero _)) (Nat.le_of_eq (Nat.add_zero _)) (fun _ _ h => h) ?_
        rintro _ h51 ⟨r52, rfl, K1⟩ -
        replace K := K r52 h51 K1
        show Gm l x mX7_out 5 37 [(0, .ref a0), (1, .int x1), (2, .int x2), (3, .ref b5)] [.int r52] h51 rc rs n0 Q X
        refine g_pop dX7_out_37 rfl ?_
        refine g_iconst (v := 0) dX7_out_38 (by decide) ?_
        exact g_zret dX7_out_39 rfl K.1 K.2
theorem dX7_fire_0 : decode cX7_fire 0 = .ok (.aload_n 0, 1) := by decide +kernel
theorem dX7_fire_1 : decode cX7_fire 1 = .ok (.getfield 46, 3) := by decide +kernel
theorem dX7_fire_4 : decode cX7_fire 4 = .ok (.getfield 84, 3) := by decide +kernel
theorem dX7_fire_7 : decode cX7_fire 7 = .ok (.astore_n 2, 1) := by decide +kernel
theorem dX7_fire_8 : decode cX7_fire 8 = .ok (.aload_n 2, 1) := by decide +kernel
theorem dX7_fire_9 : decode cX7_fire 9 = .ok (.getfield 111, 3) := by decide +kernel
theorem dX7_fire_12 : decode cX7_fire 12 = .ok (.iload_n 1, 1) := by decide +kernel
theorem dX7_fire_13 : decode cX7_fire 13 = .ok (.if_icmp .ne 10, 3) := by decide +kernel
theorem dX7_fire_16 : decode cX7_fire 16 = .ok (.aload_n 0, 1) := by decide +kernel
theorem dX7_fire_17 : decode cX7_fire 17 = .ok (.invokevirtual 295, 3) := by decide +kernel
theorem dX7_fire_20 : decode cX7_fire 20 = .ok (.pop, 1) := by decide +kernel
theorem dX7_fire_21 : decode cX7_fire 21 = .ok (.iconst 0, 1) := by decide +kernel
theorem dX7_fire_22 : decode cX7_fire 22 = .ok (.ireturn, 1) := by decide +kernel
theorem dX7_fire_23 : decode cX7_fire 23 = .ok (.aload_n 0, 1) := by decide +kernel
theorem dX7_fire_24 : decode cX7_fire 24 = .ok (.getfield 46, 3) := by decide +kernel
theorem dX7_fire_27 : decode cX7_fire 27 = .ok (.getfield 153, 3) := by decide +kernel
theorem dX7_fire_30 : decode cX7_fire 30 = .ok (.aload_n 2, 1) := by decide +kernel
theorem dX7_fire_31 : decode cX7_fire 31 = .ok (.invokevirtual 298, 3) := by decide +kernel
theorem dX7_fire_34 : decode cX7_fire 34 = .ok (.aload_n 2, 1) := by decide +kernel
theorem dX7_fire_35 : decode cX7_fire 35 = .ok (.iload_n 1, 1) := by decide +kernel
theorem dX7_fire_36 : decode cX7_fire 36 = .ok (.putfield 111, 3) := by decide +kernel
theorem dX7_fire_39 : decode cX7_fire 39 = .ok (.iconst 1, 1) := by decide +kernel
theorem dX7_fire_40 : decode cX7_fire 40 = .ok (.ireturn, 1) := by decide +kernel
set_option maxRecDepth 20000 in
set_option maxHeartbeats 4000000 in
theorem vX7_fire_0 {l : Launch} {x : CX} {a0 : Nat} {x1 : Int32} {h : PH} {rc rs n0 : Nat} {Q : Option Value → PH → Prop} {X : String → PH → Prop}
    (K : ((hK h a0).1 = 7) ∧ ∃ b2, (hR h a0 6 = some b2) ∧ ((hK h b2).1 = 3) ∧ ∃ b5, (hR h b2 0 = some b5) ∧ ((hK h b5).1 = 1) ∧ ((¬ (hI h b5 8) = x1 → ∃ b9, (hR h b2 1 = some b9) ∧ ((hK h b9).1 = 0) ∧ ∃ (mc13 ms14 : Nat) (q11 : PH → Prop), mc13 ≤ rc ∧ ms14 ≤ rs ∧ CV l x mX0_keep 4 mc13 ms14 [.ref b9, .ref b5] h q11 ∧ ∀ (h16 : PH), q11 h16 → ((hK h16 b5).1 = 1) ∧ ((x1 : Int32) = 0 ∨ (x1 : Int32) = 1) ∧ ((1 : Int32) = 0 ∨ (1 : Int32) = 1) ∧ Q (some (.int 1)) (sI h16 b5 8 x1)) ∧ ((hI h b5 8) = x1 → ∃ (q21 : Int32 → PH → Prop), CI l x mX7_refuseAct 0 0 0 [.ref a0] h q21 ∧ ∀ (r24 : Int32) (h23 : PH), q21 r24 h23 → ((0 : Int32) = 0 ∨ (0 : Int32) = 1) ∧ Q (some (.int 0)) h23))) :
    Gm l x mX7_fire 5 0 [(0, .ref a0), (1, .int x1)] [] h rc rs n0 Q X := by
  refine g_aload_n dX7_fire_0 rfl 0 rfl ?_
  obtain ⟨e1, b2, e3, K⟩ := K
  refine g_get (c := 7) (k := 6) (v := .ref b2) dX7_fire_1 fc_7 (by decide) (by decide) bw_401 (congrArg pr e3) e1 ?_
  obtain ⟨e4, b5, e6, K⟩ := K
  refine g_get (c := 3) (k := 0) (v := .ref b5) dX7_fire_4 fc_3 (by decide) (by decide) bw_371 (congrArg pr e6) e4 ?_
  refine g_astore_n (lv' := [(0, .ref a0), (1, .int x1), (2, .ref b5)]) dX7_fire_7 rfl (by decide) rfl ?_
  refine g_aload_n dX7_fire_8 rfl 2 rfl ?_
  obtain ⟨e7, K⟩ := K
  refine g_get (c := 1) (k := 8) (v := .int (hI h b5 8)) dX7_fire_9 fc_1 (by decide) (by decide) bw_209 rfl e7 ?_
  refine g_iload_n dX7_fire_12 rfl 1 rfl ?_
  refine g_icmp_ne (tgt := 23) dX7_fire_13 (by decide) (fun c8 => ?_) (fun c8 => ?_)
  · replace K := K.1 c8
    refine g_aload_n dX7_fire_23 rfl 0 rfl ?_
    refine g_get (c := 7) (k := 6) (v := .ref b2) dX7_fire_24 fc_7 (by decide) (by decide) bw_401 (congrArg pr e3) e1 ?_
    obtain ⟨b9, e10, K⟩ := K
    refine g_get (c := 3) (k := 1) (v := .ref b9) dX7_fire_27 fc_3 (by decide) (by decide) bw_373 (congrArg pr e10) e4 ?_
    refine g_aload_n dX7_fire_30 rfl 2 rfl ?_
    obtain ⟨e15, K⟩ := K
    obtain ⟨mc13, ms14, q11, e19, e20, C12, K⟩ := K
    refine g_callV (M' := mX0_keep) (b := b9) (As := [.ref b5]) (rest := []) (rc' := (rc - mc13)) (rs' := (rs - ms14)) dX7_fire_31 bw_443 bw_444 bw_445 bw_8 bw_446 ⟨by decide +kernel, by decide +kernel, show (parseMethodDescriptor mX0_keep.1.desc).map (fun d => d.parameters.length) = some 1 by decide +kernel⟩ (by decide) (by decide) (Nat.le_of_ble_eq_true rfl) fc_0 (by decide) rfl e15 C12 (by omega) (by omega) (fun _ _ h => h) ?_
    rintro _ h16 ⟨rfl, K1⟩ -
    replace K := K h16 K1
    show Gm l x mX7_fire 5 34 [(0, .ref a0), (1, .int x1), (2, .ref b5)] [] h16 (rc - mc13) (rs - ms14) n0 Q X
    refine g_aload_n dX7_fire_34 rfl 2 rfl ?_
    refine g_iload_n dX7_fire_35 rfl 1 rfl ?_
    obtain ⟨e17, e18, K⟩ := K
    refine g_putz (c := 1) (k := 8) dX7_fire_36 fc_1 (by decide) (by decide) bw_209 (Or.inl rfl) rfl e18 e17 ?_
    refine g_iconst (v := 1) dX7_fire_39 (by decide) ?_
    exact g_zret dX7_fire_40 rfl K.1 K.2
  · replace K := K.2 c8
    refine g_aload_n dX7_fire_16 rfl 0 rfl ?_
    obtain ⟨q21, C22, K⟩ := K
    refine g_callV (M' := mX7_refuseAct) (b := a0) (As := []) (rest := []) (rc' := rc) (rs' := rs) dX7_fire_17 bw_439 bw_441 bs_1 bw_1 bw_442 ⟨by decide +kernel, by decide +kernel, show (parseMethodDescriptor mX7_refuseAct.1.desc).map (fun d => d.parameters.length) = some 0 by decide +kernel⟩ (by decide) (by decide) (Nat.le_of_ble_eq_true rfl) fc_7 (by decide) rfl e1 C22 (Nat.le_of_eq (Nat.add_zero _)) (Nat.le_of_eq (Nat.add_zero _)) (fun _ _ h => h) ?_
    rintro _ h23 ⟨r24, rfl, K1⟩ -
    replace K := K r24 h23 K1
    show Gm l x mX7_fire 5 20 [(0, .ref a0), (1, .int x1), (2, .ref b5)] [.int r24] h23 rc rs n0 Q X
    refine g_pop dX7_fire_20 rfl ?_
    refine g_iconst (v := 0) dX7_fire_21 (by decide) ?_
    exact g_zret dX7_fire_22 rfl K.1 K.2
theorem dX7_rule_0 : decode cX7_rule 0 = .ok (.aload_n 0, 1) := by decide +kernel
theorem dX7_rule_1 : decode cX7_rule 1 = .ok (.getfield 46, 3) := by decide +kernel
theorem dX7_rule_4 : decode cX7_rule 4 = .ok (.getfield 84, 3) := by decide +kernel
theorem dX7_rule_7 : decode cX7_rule 7 = .ok (.astore_n 3, 1) := by decide +kernel
theorem dX7_rule_8 : decode cX7_rule 8 = .ok (.iload_n 1, 1) := by decide +kernel
theorem dX7_rule_9 : decode cX7_rule 9 = .ok (.ifCond .ne 16, 3) := by decide +kernel
theorem dX7_rule_12 : decode cX7_rule 12 = .ok (.iload_n 2, 1) := by decide +kernel
theorem dX7_rule_13 : decode cX7_rule 13 = .ok (.ifCond .lt 12, 3) := by decide +kernel
theorem dX7_rule_16 : decode cX7_rule 16 = .ok (.iload_n 2, 1) := by decide +kernel
theorem dX7_rule_17 : decode cX7_rule 17 = .ok (.iconst 3, 1) := by decide +kernel
theorem dX7_rule_18 : decode cX7_rule 18 = .ok (.if_icmp .ge 7, 3) := by decide +kernel
theorem dX7_rule_21 : decode cX7_rule 21 = .ok (.iconst 1, 1) := by decide +kernel
theorem dX7_rule_22 : decode cX7_rule 22 = .ok (.goto 4, 3) := by decide +kernel
theorem dX7_rule_25 : decode cX7_rule 25 = .ok (.iconst 0, 1) := by decide +kernel
theorem dX7_rule_26 : decode cX7_rule 26 = .ok (.istore 4, 2) := by decide +kernel
theorem dX7_rule_28 : decode cX7_rule 28 = .ok (.iload_n 1, 1) := by decide +kernel
theorem dX7_rule_29 : decode cX7_rule 29 = .ok (.iconst 1, 1) := by decide +kernel
theorem dX7_rule_30 : decode cX7_rule 30 = .ok (.if_icmp .ne 17, 3) := by decide +kernel
theorem dX7_rule_33 : decode cX7_rule 33 = .ok (.iload_n 2, 1) := by decide +kernel
theorem dX7_rule_34 : decode cX7_rule 34 = .ok (.ifCond .lt 13, 3) := by decide +kernel
theorem dX7_rule_37 : decode cX7_rule 37 = .ok (.iload_n 2, 1) := by decide +kernel
theorem dX7_rule_38 : decode cX7_rule 38 = .ok (.bipush 12, 2) := by decide +kernel
theorem dX7_rule_40 : decode cX7_rule 40 = .ok (.if_icmp .ge 7, 3) := by decide +kernel
theorem dX7_rule_43 : decode cX7_rule 43 = .ok (.iconst 1, 1) := by decide +kernel
theorem dX7_rule_44 : decode cX7_rule 44 = .ok (.goto 4, 3) := by decide +kernel
theorem dX7_rule_47 : decode cX7_rule 47 = .ok (.iconst 0, 1) := by decide +kernel
theorem dX7_rule_48 : decode cX7_rule 48 = .ok (.istore 5, 2) := by decide +kernel
theorem dX7_rule_50 : decode cX7_rule 50 = .ok (.iload 4, 2) := by decide +kernel
theorem dX7_rule_52 : decode cX7_rule 52 = .ok (.ifCond .ne 13, 3) := by decide +kernel
theorem dX7_rule_55 : decode cX7_rule 55 = .ok (.iload 5, 2) := by decide +kernel
theorem dX7_rule_57 : decode cX7_rule 57 = .ok (.ifCond .ne 8, 3) := by decide +kernel
theorem dX7_rule_60 : decode cX7_rule 60 = .ok (.aload_n 0, 1) := by decide +kernel
theorem dX7_rule_61 : decode cX7_rule 61 = .ok (.invokevirtual 295, 3) := by decide +kernel
theorem dX7_rule_64 : decode cX7_rule 64 = .ok (.ireturn, 1) := by decide +kernel
theorem dX7_rule_65 : decode cX7_rule 65 = .ok (.aload_n 0, 1) := by decide +kernel
theorem dX7_rule_66 : decode cX7_rule 66 = .ok (.getfield 46, 3) := by decide +kernel
theorem dX7_rule_69 : decode cX7_rule 69 = .ok (.getfield 153, 3) := by decide +kernel
theorem dX7_rule_72 : decode cX7_rule 72 = .ok (.aload_n 3, 1) := by decide +kernel
theorem dX7_rule_73 : decode cX7_rule 73 = .ok (.invokevirtual 298, 3) := by decide +kernel
theorem dX7_rule_76 : decode cX7_rule 76 = .ok (.iload 4, 2) := by decide +kernel
theorem dX7_rule_78 : decode cX7_rule 78 = .ok (.ifCond .eq 10, 3) := by decide +kernel
theorem dX7_rule_81 : decode cX7_rule 81 = .ok (.aload_n 3, 1) := by decide +kernel
theorem dX7_rule_82 : decode cX7_rule 82 = .ok (.getfield 102, 3) := by decide +kernel
theorem dX7_rule_85 : decode cX7_rule 85 = .ok (.goto 7, 3) := by decide +kernel
theorem dX7_rule_88 : decode cX7_rule 88 = .ok (.aload_n 3, 1) := by decide +kernel
theorem dX7_rule_89 : decode cX7_rule 89 = .ok (.getfield 99, 3) := by decide +kernel
theorem dX7_rule_92 : decode cX7_rule 92 = .ok (.istore 6, 2) := by decide +kernel
theorem dX7_rule_94 : decode cX7_rule 94 = .ok (.iload 4, 2) := by decide +kernel
theorem dX7_rule_96 : decode cX7_rule 96 = .ok (.ifCond .eq 11, 3) := by decide +kernel
theorem dX7_rule_99 : decode cX7_rule 99 = .ok (.aload_n 3, 1) := by decide +kernel
theorem dX7_rule_100 : decode cX7_rule 100 = .ok (.iload_n 2, 1) := by decide +kernel
theorem dX7_rule_101 : decode cX7_rule 101 = .ok (.putfield 102, 3) := by decide +kernel
theorem dX7_rule_104 : decode cX7_rule 104 = .ok (.goto 8, 3) := by decide +kernel
theorem dX7_rule_107 : decode cX7_rule 107 = .ok (.aload_n 3, 1) := by decide +kernel
theorem dX7_rule_108 : decode cX7_rule 108 = .ok (.iload_n 2, 1) := by decide +kernel
theorem dX7_rule_109 : decode cX7_rule 109 = .ok (.putfield 99, 3) := by decide +kernel
theorem dX7_rule_112 : decode cX7_rule 112 = .ok (.iload 6, 2) := by decide +kernel
theorem dX7_rule_114 : decode cX7_rule 114 = .ok (.ireturn, 1) := by decide +kernel
set_option maxRecDepth 20000 in
set_option maxHeartbeats 4000000 in
theorem vX7_rule_0 {l : Launch} {x : CX} {a0 : Nat} {x1 : Int32} {x2 : Int32} {h : PH} {rc rs n0 : Nat} {Q : Option Value → PH → Prop} {X : String → PH → Prop}
    (K : ((hK h a0).1 = 7) ∧ ∃ b2, (hR h a0 6 = some b2) ∧ ((hK h b2).1 = 3) ∧ ∃ b5, (hR h b2 0 = some b5) ∧ ∀ (y10 : Int32), y10 = (if x1 = 0 then (if x2 < 0 then 0 else (if 3 ≤ x2 then 0 else 1 : Int32) : Int32) else 0 : Int32) → ∀ (y15 : Int32), y15 = (if x1 = 1 then (if x2 < 0 then 0 else (if 12 ≤ x2 then 0 else 1 : Int32) : Int32) else 0 : Int32) → ((¬ y10 = 0 → ∃ b18, (hR h b2 1 = some b18) ∧ ((hK h b18).1 = 0) ∧ ∃ (mc22 ms23 : Nat) (q20 : PH → Prop), mc22 ≤ rc ∧ ms23 ≤ rs ∧ CV l x mX0_keep 4 mc22 ms23 [.ref b18, .ref b5] h q20 ∧ ∀ (h25 : PH), q20 h25 → ((y10 = 0 → ((hK h25 b5).1 = 1) ∧ ((y10 = 0 → Q (some (.int (hI h25 b5 4))) (sI h25 b5 4 x2)) ∧ (¬ y10 = 0 → Q (some (.int (hI h25 b5 4))) (sI h25 b5 5 x2)))) ∧ (¬ y10 = 0 → ((hK h25 b5).1 = 1) ∧ ((y10 = 0 → Q (some (.int (hI h25 b5 5))) (sI h25 b5 4 x2)) ∧ (¬ y10 = 0 → Q (some (.int (hI h25 b5 5))) (sI h25 b5 5 x2)))))) ∧ (y10 = 0 → ((¬ y15 = 0 → ∃ b34, (hR h b2 1 = some b34) ∧ ((hK h b34).1 = 0) ∧ ∃ (mc38 ms39 : Nat) (q36 : PH → Prop), mc38 ≤ rc ∧ ms39 ≤ rs ∧ CV l x mX0_keep 4 mc38 ms39 [.ref b34, .ref b5] h q36 ∧ ∀ (h41 : PH), q36 h41 → ((y10 = 0 → ((hK h41 b5).1 = 1) ∧ ((y10 = 0 → Q (some (.int (hI h41 b5 4))) (sI h41 b5 4 x2)) ∧ (¬ y10 = 0 → Q (some (.int (hI h41 b5 4))) (sI h41 b5 5 x2)))) ∧ (¬ y10 = 0 → ((hK h41 b5).1 = 1) ∧ ((y10 = 0 → Q (some (.int (hI h41 b5 5))) (sI h41 b5 4 x2)) ∧ (¬ y10 = 0 → Q (some (.int (hI h41 b5 5))) (sI h41 b5 5 x2)))))) ∧ (y15 = 0 → ∃ (q49 : Int32 → PH → Prop), CI l x mX7_refuseAct 0 0 0 [.ref a0] h q49 ∧ ∀ (r52 : Int32) (h51 : PH), q49 r52 h51 → Q (some (.int r52)) h51))))) :
    Gm l x mX7_rule 5 0 [(0, .ref a0), (1, .int x1), (2, .int x2)] [] h rc rs n0 Q X := by
  refine g_aload_n dX7_rule_0 rfl 0 rfl ?_
  obtain ⟨e1, b2, e3, K⟩ := K
  refine g_get (c := 7) (k := 6) (v := .ref b2) dX7_rule_1 fc_7 (by decide) (by decide) bw_401 (congrArg pr e3) e1 ?_
  obtain ⟨e4, b5, e6, K⟩ := K
  refine g_get (c := 3) (k := 0) (v := .ref b5) dX7_rule_4 fc_3 (by decide) (by decide) bw_371 (congrArg pr e6) e4 ?_
  refine g_astore_n (lv' := [(0, .ref a0), (1, .int x1), (2, .int x2), (3, .ref b5)]) dX7_rule_7 rfl (by decide) rfl ?_
  refine g_iload_n dX7_rule_8 rfl 1 rfl ?_
  have KJ : Gm l x mX7_rule 5 26 [(0, .ref a0), (1, .int x1), (2, .int x2), (3, .ref b5)] [.int (if x1 = 0 then (if x2 < 0 then 0 else (if 3 ≤ x2 then 0 else 1 : Int32) : Int32) else 0 : Int32)] h rc rs n0 Q X := by
    refine g_nmI (fun y10 e11 => ?_)
    replace K := K y10 e11
    refine g_istore (lv' := [(0, .ref a0), (1, .int x1), (2, .int x2), (3, .ref b5), (4, .int y10)]) dX7_rule_26 (by decide) rfl ?_
    refine g_iload_n dX7_rule_28 rfl 1 rfl ?_
    refine g_iconst (v := 1) dX7_rule_29 (by decide) ?_
    have KJ : Gm l x mX7_rule 5 48 [(0, .ref a0), (1, .int x1), (2, .int x2), (3, .ref b5), (4, .int y10)] [.int (if x1 = 1 then (if x2 < 0 then 0 else (if 12 ≤ x2 then 0 else 1 : Int32) : Int32) else 0 : Int32)] h rc rs n0 Q X := by
      refine g_nmI (fun y15 e16 => ?_)
      replace K := K y15 e16
      refine g_istore (lv' := [(0, .ref a0), (1, .int x1), (2, .int x2), (3, .ref b5), (4, .int y10), (5, .int y15)]) dX7_rule_48 (by decide) rfl ?_
      refine g_iload dX7_rule_50 4 rfl ?_
      refine g_if_ne (tgt := 65) dX7_rule_52 (by decide) (fun c17 => ?_) (fun c17 => ?_)
      · replace K := K.1 c17
        refine g_aload_n dX7_rule_65 rfl 0 rfl ?_
        refine g_get (c := 7) (k := 6) (v := .ref b2) dX7_rule_66 fc_7 (by decide) (by decide) bw_401 (congrArg pr e3) e1 ?_
        obtain ⟨b18, e19, K⟩ := K
        refine g_get (c := 3) (k := 1) (v := .ref b18) dX7_rule_69 fc_3 (by decide) (by decide) bw_373 (congrArg pr e19) e4 ?_
        refine g_aload_n dX7_rule_72 rfl 3 rfl ?_
        obtain ⟨e24, K⟩ := K
        obtain ⟨mc22, ms23, q20, e31, e32, C21, K⟩ := K
        refine g_callV (M' := mX0_keep) (b := b18) (As := [.ref b5]) (rest := []) (rc' := (rc - mc22)) (rs' := (rs - ms23)) dX7_rule_73 bw_443 bw_444 bw_445 bw_8 bw_446 ⟨by decide +kernel, by decide +kernel, show (parseMethodDescriptor mX0_keep.1.desc).map (fun d => d.parameters.length) = some 1 by decide +kernel⟩ (by decide) (by decide) (Nat.le_of_ble_eq_true rfl) fc_0 (by decide) rfl e24 C21 (by omega) (by omega) (fun _ _ h => h) ?_
        rintro _ h25 ⟨rfl, K1⟩ -
        replace K := K h25 K1
        show Gm l x mX7_rule 5 76 [(0, .ref a0), (1, .int x1), (2, .int x2), (3, .ref b5), (4, .int y10), (5, .int y15)] [] h25 (rc - mc22) (rs - ms23) n0 Q X
        refine g_iload dX7_rule_76 4 rfl ?_
        refine g_if_eq (tgt := 88) dX7_rule_78 (by decide) (fun c26 => ?_) (fun c26 => ?_)
        · replace K := K.1 c26
          refine g_aload_n dX7_rule_88 rfl 3 rfl ?_
          obtain ⟨e27, K⟩ := K
          refine g_get (c := 1) (k := 4) (v := .int (hI h25 b5 4)) dX7_rule_89 fc_1 (by decide) (by decide) bw_197 rfl e27 ?_
          refine g_istore (lv' := [(0, .ref a0), (1, .int x1), (2, .int x2), (3, .ref b5), (4, .int y10), (5, .int y15), (6, .int (hI h25 b5 4))]) dX7_rule_92 (by decide) rfl ?_
          refine g_iload dX7_rule_94 4 rfl ?_
          refine g_if_eq (tgt := 107) dX7_rule_96 (by decide) (fun c28 => ?_) (fun c28 => ?_)
          · replace K := K.1 c28
            refine g_aload_n dX7_rule_107 rfl 3 rfl ?_
            refine g_iload_n dX7_rule_108 rfl 2 rfl ?_
            refine g_puti (c := 1) (k := 4) dX7_rule_109 fc_1 (by decide) (by decide) bw_197 (Or.inl rfl) rfl e27 ?_
            refine g_iload dX7_rule_112 6 rfl ?_
            exact g_iret dX7_rule_114 rfl K
          · replace K := K.2 c28
            refine g_aload_n dX7_rule_99 rfl 3 rfl ?_
            refine g_iload_n dX7_rule_100 rfl 2 rfl ?_
            refine g_puti (c := 1) (k := 5) dX7_rule_101 fc_1 (by decide) (by decide) bw_201 (Or.inl rfl) rfl e27 ?_
            refine g_goto (tgt := 112) dX7_rule_104 (by decide) ?_
            refine g_iload dX7_rule_112 6 rfl ?_
            exact g_iret dX7_rule_114 rfl K
        · replace K := K.2 c26
          refine g_aload_n dX7_rule_81 rfl 3 rfl ?_
          obtain ⟨e29, K⟩ := K
          refine g_get (c := 1) (k := 5) (v := .int (hI h25 b5 5)) dX7_rule_82 fc_1 (by decide) (by decide) bw_201 rfl e29 ?_
          refine g_goto (tgt := 92) dX7_rule_85 (by decide) ?_
          refine g_istore (lv' := [(0, .ref a0), (1, .int x1), (2, .int x2), (3, .ref b5), (4, .int y10), (5, .int y15), (6, .int (hI h25 b5 5))]) dX7_rule_92 (by decide) rfl ?_
          refine g_iload dX7_rule_94 4 rfl ?_
          refine g_if_eq (tgt := 107) dX7_rule_96 (by decide) (fun c30 => ?_) (fun c30 => ?_)
          · replace K := K.1 c30
            refine g_aload_n dX7_rule_107 rfl 3 rfl ?_
            refine g_iload_n dX7_rule_108 rfl 2 rfl ?_
            refine g_puti (c := 1) (k := 4) dX7_rule_109 fc_1 (by decide) (by decide) bw_197 (Or.inl rfl) rfl e29 ?_
            refine g_iload dX7_rule_112 6 rfl ?_
            exact g_iret dX7_rule_114 rfl K
          · replace K := K.2 c30
            refine g_aload_n dX7_rule_99 rfl 3 rfl ?_
            refine g_iload_n dX7_rule_100 rfl 2 rfl ?_
            refine g_puti (c := 1) (k := 5) dX7_rule_101 fc_1 (by decide) (by decide) bw_201 (Or.inl rfl) rfl e29 ?_
            refine g_goto (tgt := 112) dX7_rule_104 (by decide) ?_
            refine g_iload dX7_rule_112 6 rfl ?_
            exact g_iret dX7_rule_114 rfl K
      · replace K := K.2 c17
        refine g_iload dX7_rule_55 5 rfl ?_
        refine g_if_ne (tgt := 65) dX7_rule_57 (by decide) (fun c33 => ?_) (fun c33 => ?_)
        · replace K := K.1 c33
          refine g_aload_n dX7_rule_65 rfl 0 rfl ?_
          refine g_get (c := 7) (k := 6) (v := .ref b2) dX7_rule_66 fc_7 (by decide) (by decide) bw_401 (congrArg pr e3) e1 ?_
          obtain ⟨b34, e35, K⟩ := K
          refine g_get (c := 3) (k := 1) (v := .ref b34) dX7_rule_69 fc_3 (by decide) (by decide) bw_373 (congrArg pr e35) e4 ?_
          refine g_aload_n dX7_rule_72 rfl 3 rfl ?_
          obtain ⟨e40, K⟩ := K
          obtain ⟨mc38, ms39, q36, e47, e48, C37, K⟩ := K
          refine g_callV (M' := mX0_keep) (b := b34) (As := [.ref b5]) (rest := []) (rc' := (rc - mc38)) (rs' := (rs - ms39)) dX7_rule_73 bw_443 bw_444 bw_445 bw_8 bw_446 ⟨by decide +kernel, by decide +kernel, show (parseMethodDescriptor mX0_keep.1.desc).map (fun d => d.parameters.length) = some 1 by decide +kernel⟩ (by decide) (by decide) (Nat.le_of_ble_eq_true rfl) fc_0 (by decide) rfl e40 C37 (by omega) (by omega) (fun _ _ h => h) ?_
          rintro _ h41 ⟨rfl, K1⟩ -
          replace K := K h41 K1
          show Gm l x mX7_rule 5 76 [(0, .ref a0), (1, .int x1), (2, .int x2), (3, .ref b5), (4, .int y10), (5, .int y15)] [] h41 (rc - mc38) (rs - ms39) n0 Q X
          refine g_iload dX7_rule_76 4 rfl ?_
          refine g_if_eq (tgt := 88) dX7_rule_78 (by decide) (fun c42 => ?_) (fun c42 => ?_)
          · replace K := K.1 c42
            refine g_aload_n dX7_rule_88 rfl 3 rfl ?_
            obtain ⟨e43, K⟩ := K
            refine g_get (c := 1) (k := 4) (v := .int (hI h41 b5 4)) dX7_rule_89 fc_1 (by decide) (by decide) bw_197 rfl e43 ?_
            refine g_istore (lv' := [(0, .ref a0), (1, .int x1), (2, .int x2), (3, .ref b5), (4, .int y10), (5, .int y15), (6, .int (hI h41 b5 4))]) dX7_rule_92 (by decide) rfl ?_
            refine g_iload dX7_rule_94 4 rfl ?_
            refine g_if_eq (tgt := 107) dX7_rule_96 (by decide) (fun c44 => ?_) (fun c44 => ?_)
            · replace K := K.1 c44
              refine g_aload_n dX7_rule_107 rfl 3 rfl ?_
              refine g_iload_n dX7_rule_108 rfl 2 rfl ?_
              refine g_puti (c := 1) (k := 4) dX7_rule_109 fc_1 (by decide) (by decide) bw_197 (Or.inl rfl) rfl e43 ?_
              refine g_iload dX7_rule_112 6 rfl ?_
              exact g_iret dX7_rule_114 rfl K
            · replace K := K.2 c44
              refine g_aload_n dX7_rule_99 rfl 3 rfl ?_
              refine g_iload_n dX7_rule_100 rfl 2 rfl ?_
              refine g_puti (c := 1) (k := 5) dX7_rule_101 fc_1 (by decide) (by decide) bw_201 (Or.inl rfl) rfl e43 ?_
              refine g_goto (tgt := 112) dX7_rule_104 (by decide) ?_
              refine g_iload dX7_rule_112 6 rfl ?_
              exact g_iret dX7_rule_114 rfl K
          · replace K := K.2 c42
            refine g_aload_n dX7_rule_81 rfl 3 rfl ?_
            obtain ⟨e45, K⟩ := K
            refine g_get (c := 1) (k := 5) (v := .int (hI h41 b5 5)) dX7_rule_82 fc_1 (by decide) (by decide) bw_201 rfl e45 ?_
            refine g_goto (tgt := 92) dX7_rule_85 (by decide) ?_
            refine g_istore (lv' := [(0, .ref a0), (1, .int x1), (2, .int x2), (3, .ref b5), (4, .int y10), (5, .int y15), (6, .int (hI h41 b5 5))]) dX7_rule_92 (by decide) rfl ?_
            refine g_iload dX7_rule_94 4 rfl ?_
            refine g_if_eq (tgt := 107) dX7_rule_96 (by decide) (fun c46 => ?_) (fun c46 => ?_)
            · replace K := K.1 c46
              refine g_aload_n dX7_rule_107 rfl 3 rfl ?_
              refine g_iload_n dX7_rule_108 rfl 2 rfl ?_
              refine g_puti (c := 1) (k := 4) dX7_rule_109 fc_1 (by decide) (by decide) bw_197 (Or.inl rfl) rfl e45 ?_
              refine g_iload dX7_rule_112 6 rfl ?_
              exact g_iret dX7_rule_114 rfl K
            · replace K := K.2 c46
              refine g_aload_n dX7_rule_99 rfl 3 rfl ?_
              refine g_iload_n dX7_rule_100 rfl 2 rfl ?_
              refine g_puti (c := 1) (k := 5) dX7_rule_101 fc_1 (by decide) (by decide) bw_201 (Or.inl rfl) rfl e45 ?_
              refine g_goto (tgt := 112) dX7_rule_104 (by decide) ?_
              refine g_iload dX7_rule_112 6 rfl ?_
              exact g_iret dX7_rule_114 rfl K
        · replace K := K.2 c33
          refine g_aload_n dX7_rule_60 rfl 0 rfl ?_
          obtain ⟨q49, C50, K⟩ := K
          refine g_callV (M' := mX7_refuseAct) (b := a0) (As := []) (rest := []) (rc' := rc) (rs' := rs) dX7_rule_61 bw_439 bw_441 bs_1 bw_1 bw_442 ⟨by decide +kernel, by decide +kernel, show (parseMethodDescriptor mX7_refuseAct.1.desc).map (fun d => d.parameters.length) = some 0 by decide +kernel⟩ (by decide) (by decide) (Nat.le_of_ble_eq_true rfl) fc_7 (by decide) rfl e1 C50 (Nat.le_of_eq (Nat.add_zero _)) (Nat.le_of_eq (Nat.add_zero _)) (fun _ _ h => h) ?_
          rintro _ h51 ⟨r52, rfl, K1⟩ -
          replace K := K r52 h51 K1
          show Gm l x mX7_rule 5 64 [(0, .ref a0), (1, .int x1), (2, .int x2), (3, .ref b5), (4, .int y10), (5, .int y15)] [.int r52] h51 rc rs n0 Q X
          exact g_iret dX7_rule_64 rfl K
    refine g_icmp_ne (tgt := 47) dX7_rule_30 (by decide) (fun c12 => ?_) (fun c12 => ?_)
    · refine g_iconst (v := 0) dX7_rule_47 (by decide) ?_
      first | (simp only [if_neg c12] at KJ; exact KJ) | (simp only [if_neg c12, ite_true, ite_false, eq_self] at KJ; exact KJ) | (simp only [if_neg c12] at KJ ⊢; exact KJ) | exact KJ
    · refine g_iload_n dX7_rule_33 rfl 2 rfl ?_
      refine g_if_lt (tgt := 47) dX7_rule_34 (by decide) (fun c13 => ?_) (fun c13 => ?_)
      · refine g_iconst (v := 0) dX7_rule_47 (by decide) ?_
        first | (simp only [if_pos c12, if_pos c13] at KJ; exact KJ) | (simp only [if_pos c12, if_pos c13, ite_true, ite_false, eq_self] at KJ; exact KJ) | (simp only [if_pos c12, if_pos c13] at KJ ⊢; exact KJ) | exact KJ
      · refine g_iload_n dX7_rule_37 rfl 2 rfl ?_
        refine g_bipush (v := 12) dX7_rule_38 (by decide) ?_
        refine g_icmp_ge (tgt := 47) dX7_rule_40 (by decide) (fun c14 => ?_) (fun c14 => ?_)
        · refine g_iconst (v := 0) dX7_rule_47 (by decide) ?_
          first | (simp only [if_pos c12, if_neg c13, if_pos c14] at KJ; exact KJ) | (simp only [if_pos c12, if_neg c13, if_pos c14, ite_true, ite_false, eq_self] at KJ; exact KJ) | (simp only [if_pos c12, if_neg c13, if_pos c14] at KJ ⊢; exact KJ) | exact KJ
        · refine g_iconst (v := 1) dX7_rule_43 (by decide) ?_
          refine g_goto (tgt := 48) dX7_rule_44 (by decide) ?_
          first | (simp only [if_pos c12, if_neg c13, if_neg c14] at KJ; exact KJ) | (simp only [if_pos c12, if_neg c13, if_neg c14, ite_true, ite_false, eq_self] at KJ; exact KJ) | (simp only [if_pos c12, if_neg c13, if_neg c14] at KJ ⊢; exact KJ) | exact KJ
  refine g_if_ne (tgt := 25) dX7_rule_9 (by decide) (fun c7 => ?_) (fun c7 => ?_)
  · refine g_iconst (v := 0) dX7_rule_25 (by decide) ?_
    first | (simp only [if_neg c7] at KJ; exact KJ) | (simp only [if_neg c7, ite_true, ite_false, eq_self] at KJ; exact KJ) | (simp only [if_neg c7] at KJ ⊢; exact KJ) | exact KJ
  · refine g_iload_n dX7_rule_12 rfl 2 rfl ?_
    refine g_if_lt (tgt := 25) dX7_rule_13 (by decide) (fun c8 => ?_) (fun c8 => ?_)
    · refine g_iconst (v := 0) dX7_rule_25 (by decide) ?_
      first | (simp only [if_pos c7, if_pos c8] at KJ; exact KJ) | (simp only [if_pos c7, if_pos c8, ite_true, ite_false, eq_self] at KJ; exact KJ) | (simp only [if_pos c7, if_pos c8] at KJ ⊢; exact KJ) | exact KJ
    · refine g_iload_n dX7_rule_16 rfl 2 rfl ?_
      refine g_iconst (v := 3) dX7_rule_17 (by decide) ?_
      refine g_icmp_ge (tgt := 25) dX7_rule_18 (by decide) (fun c9 => ?_) (fun c9 => ?_)
      · refine g_iconst (v := 0) dX7_rule_25 (by decide) ?_
        first | (simp only [if_pos c7, if_neg c8, if_pos c9] at KJ; exact KJ) | (simp only [if_pos c7, if_neg c8, if_pos c9, ite_true, ite_false, eq_self] at KJ; exact KJ) | (simp only [if_pos c7, if_neg c8, if_pos c9] at KJ ⊢; exact KJ) | exact KJ
      · refine g_iconst (v := 1) dX7_rule_21 (by decide) ?_
        refine g_goto (tgt := 26) dX7_rule_22 (by decide) ?_
        first | (simp only [if_pos c7, if_neg c8, if_neg c9] at KJ; exact KJ) | (simp only [if_pos c7, if_neg c8, if_neg c9, ite_true, ite_false, eq_self] at KJ; exact KJ) | (simp only [if_pos c7, if_neg c8, if_neg c9] at KJ ⊢; exact KJ) | exact KJ
theorem dX7_undo_0 : decode cX7_undo 0 = .ok (.aload_n 0, 1) := by decide +kernel
theorem dX7_undo_1 : decode cX7_undo 1 = .ok (.getfield 46, 3) := by decide +kernel
theorem dX7_undo_4 : decode cX7_undo 4 = .ok (.getfield 153, 3) := by decide +kernel
theorem dX7_undo_7 : decode cX7_undo 7 = .ok (.aload_n 0, 1) := by decide +kernel
theorem dX7_undo_8 : decode cX7_undo 8 = .ok (.getfield 46, 3) := by decide +kernel
theorem dX7_undo_11 : decode cX7_undo 11 = .ok (.getfield 84, 3) := by decide +kernel
theorem dX7_undo_14 : decode cX7_undo 14 = .ok (.invokevirtual 307, 3) := by decide +kernel
theorem dX7_undo_17 : decode cX7_undo 17 = .ok (.ifCond .eq 16, 3) := by decide +kernel
theorem dX7_undo_20 : decode cX7_undo 20 = .ok (.aload_n 0, 1) := by decide +kernel
theorem dX7_undo_21 : decode cX7_undo 21 = .ok (.getfield 46, 3) := by decide +kernel
theorem dX7_undo_24 : decode cX7_undo 24 = .ok (.getfield 153, 3) := by decide +kernel
theorem dX7_undo_27 : decode cX7_undo 27 = .ok (.getfield 157, 3) := by decide +kernel
theorem dX7_undo_30 : decode cX7_undo 30 = .ok (.goto 4, 3) := by decide +kernel
theorem dX7_undo_33 : decode cX7_undo 33 = .ok (.iconst (-1), 1) := by decide +kernel
theorem dX7_undo_34 : decode cX7_undo 34 = .ok (.ireturn, 1) := by decide +kernel
set_option maxRecDepth 20000 in
set_option maxHeartbeats 4000000 in
theorem vX7_undo_0 {l : Launch} {x : CX} {a0 : Nat} {h : PH} {rc rs n0 : Nat} {Q : Option Value → PH → Prop} {X : String → PH → Prop}
    (K : ((hK h a0).1 = 7) ∧ ∃ b2, (hR h a0 6 = some b2) ∧ ((hK h b2).1 = 3) ∧ ∃ b5, (hR h b2 1 = some b5) ∧ ∃ b7, (hR h b2 0 = some b7) ∧ ((hK h b5).1 = 0) ∧ ∃ (mc11 ms12 : Nat) (q9 : Int32 → PH → Prop), mc11 ≤ rc ∧ ms12 ≤ rs ∧ CI l x mX0_takeBack 4 mc11 ms12 [.ref b5, .ref b7] h q9 ∧ ∀ (r15 : Int32) (h14 : PH), q9 r15 h14 → ((r15 = 0 → Q (some (.int (-1))) h14) ∧ (¬ r15 = 0 → ((hK h14 a0).1 = 7) ∧ ∃ b18, (hR h14 a0 6 = some b18) ∧ ((hK h14 b18).1 = 3) ∧ ∃ b21, (hR h14 b18 1 = some b21) ∧ ((hK h14 b21).1 = 0) ∧ Q (some (.int (hI h14 b21 2))) h14))) :
    Gm l x mX7_undo 5 0 [(0, .ref a0)] [] h rc rs n0 Q X := by
  refine g_aload_n dX7_undo_0 rfl 0 rfl ?_
  obtain ⟨e1, b2, e3, K⟩ := K
  refine g_get (c := 7) (k := 6) (v := .ref b2) dX7_undo_1 fc_7 (by decide) (by decide) bw_401 (congrArg pr e3) e1 ?_
  obtain ⟨e4, b5, e6, K⟩ := K
  refine g_get (c := 3) (k := 1) (v := .ref b5) dX7_undo_4 fc_3 (by decide) (by decide) bw_373 (congrArg pr e6) e4 ?_
  refine g_aload_n dX7_undo_7 rfl 0 rfl ?_
  refine g_get (c := 7) (k := 6) (v := .ref b2) dX7_undo_8 fc_7 (by decide) (by decide) bw_401 (congrArg pr e3) e1 ?_
  obtain ⟨b7, e8, K⟩ := K
  refine g_get (c := 3) (k := 0) (v := .ref b7) dX7_undo_11 fc_3 (by decide) (by decide) bw_371 (congrArg pr e8) e4 ?_
  obtain ⟨e13, K⟩ := K
  obtain ⟨mc11, ms12, q9, e24, e25, C10, K⟩ := K
  refine g_callV (M' := mX0_takeBack) (b := b5) (As := [.ref b7]) (rest := []) (rc' := (rc - mc11)) (rs' := (rs - ms12)) dX7_undo_14 bw_647 bw_648 bw_649 bw_8 bw_650 ⟨by decide +kernel, by decide +kernel, show (parseMethodDescriptor mX0_takeBack.1.desc).map (fun d => d.parameters.length) = some 1 by decide +kernel⟩ (by decide) (by decide) (Nat.le_of_ble_eq_true rfl) fc_0 (by decide) rfl e13 C10 (by omega) (by omega) (fun _ _ h => h) ?_
  rintro _ h14 ⟨r15, rfl, K1⟩ -
  replace K := K r15 h14 K1
  show Gm l x mX7_undo 5 17 [(0, .ref a0)] [.int r15] h14 (rc - mc11) (rs - ms12) n0 Q X
  refine g_if_eq (tgt := 33) dX7_undo_17 (by decide) (fun c16 => ?_) (fun c16 => ?_)
  · replace K := K.1 c16
    refine g_iconst (v := (-1)) dX7_undo_33 (by decide) ?_
    exact g_iret dX7_undo_34 rfl K
  · replace K := K.2 c16
    refine g_aload_n dX7_undo_20 rfl 0 rfl ?_
    obtain ⟨e17, b18, e19, K⟩ := K
    refine g_get (c := 7) (k := 6) (v := .ref b18) dX7_undo_21 fc_7 (by decide) (by decide) bw_401 (congrArg pr e19) e17 ?_
    obtain ⟨e20, b21, e22, K⟩ := K
    refine g_get (c := 3) (k := 1) (v := .ref b21) dX7_undo_24 fc_3 (by decide) (by decide) bw_373 (congrArg pr e22) e20 ?_
    obtain ⟨e23, K⟩ := K
    refine g_get (c := 0) (k := 2) (v := .int (hI h14 b21 2)) dX7_undo_27 fc_0 (by decide) (by decide) bw_362 rfl e23 ?_
    refine g_goto (tgt := 34) dX7_undo_30 (by decide) ?_
    exact g_iret dX7_undo_34 rfl K
