/-! STEPS, printed by program: Face1 -/
theorem dX7_fault_0 : decode cX7_fault 0 = .ok (.aload_n 0, 1) := by decide +kernel
theorem dX7_fault_1 : decode cX7_fault 1 = .ok (.getfield 16, 3) := by decide +kernel
theorem dX7_fault_4 : decode cX7_fault 4 = .ok (.ireturn, 1) := by decide +kernel
set_option maxRecDepth 20000 in
set_option maxHeartbeats 4000000 in
theorem vX7_fault_0 {l : Launch} {x : CX} {a0 : Nat} {h : PH} {rc rs n0 : Nat} {Q : Option Value → PH → Prop} {X : String → PH → Prop}
    (K : ((hK h a0).1 = 7) ∧ Q (some (.int (hI h a0 1))) h) :
    Gm l x mX7_fault 0 0 [(0, .ref a0)] [] h rc rs n0 Q X := by
  refine g_aload_n dX7_fault_0 rfl 0 rfl ?_
  obtain ⟨e1, K⟩ := K
  refine g_get (c := 7) (k := 1) (v := .int (hI h a0 1)) dX7_fault_1 fc_7 (by decide) (by decide) bw_403 rfl e1 ?_
  exact g_iret dX7_fault_4 rfl K
theorem dX7_refuseAct_0 : decode cX7_refuseAct 0 = .ok (.aload_n 0, 1) := by decide +kernel
theorem dX7_refuseAct_1 : decode cX7_refuseAct 1 = .ok (.getfield 37, 3) := by decide +kernel
theorem dX7_refuseAct_4 : decode cX7_refuseAct 4 = .ok (.getfield 69, 3) := by decide +kernel
theorem dX7_refuseAct_7 : decode cX7_refuseAct 7 = .ok (.iconst 1, 1) := by decide +kernel
theorem dX7_refuseAct_8 : decode cX7_refuseAct 8 = .ok (.dup2, 1) := by decide +kernel
theorem dX7_refuseAct_9 : decode cX7_refuseAct 9 = .ok (.iaload, 1) := by decide +kernel
theorem dX7_refuseAct_10 : decode cX7_refuseAct 10 = .ok (.iconst 1, 1) := by decide +kernel
theorem dX7_refuseAct_11 : decode cX7_refuseAct 11 = .ok (.iadd, 1) := by decide +kernel
theorem dX7_refuseAct_12 : decode cX7_refuseAct 12 = .ok (.iastore, 1) := by decide +kernel
theorem dX7_refuseAct_13 : decode cX7_refuseAct 13 = .ok (.iconst (-1), 1) := by decide +kernel
theorem dX7_refuseAct_14 : decode cX7_refuseAct 14 = .ok (.ireturn, 1) := by decide +kernel
set_option maxRecDepth 20000 in
set_option maxHeartbeats 4000000 in
theorem vX7_refuseAct_0 {l : Launch} {x : CX} {a0 : Nat} {h : PH} {rc rs n0 : Nat} {Q : Option Value → PH → Prop} {X : String → PH → Prop}
    (K : ((hK h a0).1 = 7) ∧ ∃ b2, (hR h a0 4 = some b2) ∧ ((hK h b2).1 = 3) ∧ ∃ b5, (hR h b2 5 = some b5) ∧ ((hK h b5).1 = 100) ∧ (vp_in 1 (hK h b5).2) ∧ (vp_in 1 (hK h b5).2) ∧ Q (some (.int (-1))) (sI h b5 (Int32.toNatClampNeg 1) ((hI h b5 (Int32.toNatClampNeg 1)) + 1))) :
    Gm l x mX7_refuseAct 0 0 [(0, .ref a0)] [] h rc rs n0 Q X := by
  refine g_aload_n dX7_refuseAct_0 rfl 0 rfl ?_
  obtain ⟨e1, b2, e3, K⟩ := K
  refine g_get (c := 7) (k := 4) (v := .ref b2) dX7_refuseAct_1 fc_7 (by decide) (by decide) bw_406 (congrArg pr e3) e1 ?_
  obtain ⟨e4, b5, e6, K⟩ := K
  refine g_get (c := 3) (k := 5) (v := .ref b5) dX7_refuseAct_4 fc_3 (by decide) (by decide) bw_388 (congrArg pr e6) e4 ?_
  refine g_iconst (v := 1) dX7_refuseAct_7 (by decide) ?_
  refine g_dup2 dX7_refuseAct_8 rfl rfl ?_
  obtain ⟨e7, e8, K⟩ := K
  refine g_iald dX7_refuseAct_9 e7 e8 ?_
  refine g_iconst (v := 1) dX7_refuseAct_10 (by decide) ?_
  refine g_iadd dX7_refuseAct_11 ?_
  obtain ⟨e9, K⟩ := K
  refine g_iast dX7_refuseAct_12 e7 e9 ?_
  refine g_iconst (v := (-1)) dX7_refuseAct_13 (by decide) ?_
  exact g_iret dX7_refuseAct_14 rfl K
theorem dX7_forget_0 : decode cX7_forget 0 = .ok (.aload_n 0, 1) := by decide +kernel
theorem dX7_forget_1 : decode cX7_forget 1 = .ok (.getfield 37, 3) := by decide +kernel
theorem dX7_forget_4 : decode cX7_forget 4 = .ok (.iconst 0, 1) := by decide +kernel
theorem dX7_forget_5 : decode cX7_forget 5 = .ok (.putfield 159, 3) := by decide +kernel
theorem dX7_forget_8 : decode cX7_forget 8 = .ok (.return_, 1) := by decide +kernel
set_option maxRecDepth 20000 in
set_option maxHeartbeats 4000000 in
theorem vX7_forget_0 {l : Launch} {x : CX} {a0 : Nat} {h : PH} {rc rs n0 : Nat} {Q : Option Value → PH → Prop} {X : String → PH → Prop}
    (K : ((hK h a0).1 = 7) ∧ ∃ b2, (hR h a0 4 = some b2) ∧ ((hK h b2).1 = 3) ∧ Q none (sI h b2 4 0)) :
    Gm l x mX7_forget 0 0 [(0, .ref a0)] [] h rc rs n0 Q X := by
  refine g_aload_n dX7_forget_0 rfl 0 rfl ?_
  obtain ⟨e1, b2, e3, K⟩ := K
  refine g_get (c := 7) (k := 4) (v := .ref b2) dX7_forget_1 fc_7 (by decide) (by decide) bw_406 (congrArg pr e3) e1 ?_
  refine g_iconst (v := 0) dX7_forget_4 (by decide) ?_
  obtain ⟨e4, K⟩ := K
  refine g_puti (c := 3) (k := 4) dX7_forget_5 fc_3 (by decide) (by decide) bw_386 (Or.inl rfl) rfl e4 ?_
  exact g_vret dX7_forget_8 rfl K
theorem dX7_isTold_0 : decode cX7_isTold 0 = .ok (.iload_n 1, 1) := by decide +kernel
theorem dX7_isTold_1 : decode cX7_isTold 1 = .ok (.ifCond .lt 21, 3) := by decide +kernel
theorem dX7_isTold_4 : decode cX7_isTold 4 = .ok (.iload_n 1, 1) := by decide +kernel
theorem dX7_isTold_5 : decode cX7_isTold 5 = .ok (.aload_n 0, 1) := by decide +kernel
theorem dX7_isTold_6 : decode cX7_isTold 6 = .ok (.getfield 30, 3) := by decide +kernel
theorem dX7_isTold_9 : decode cX7_isTold 9 = .ok (.getfield 323, 3) := by decide +kernel
theorem dX7_isTold_12 : decode cX7_isTold 12 = .ok (.getfield 90, 3) := by decide +kernel
theorem dX7_isTold_15 : decode cX7_isTold 15 = .ok (.if_icmp .ge 7, 3) := by decide +kernel
theorem dX7_isTold_18 : decode cX7_isTold 18 = .ok (.iconst 1, 1) := by decide +kernel
theorem dX7_isTold_19 : decode cX7_isTold 19 = .ok (.goto 4, 3) := by decide +kernel
theorem dX7_isTold_22 : decode cX7_isTold 22 = .ok (.iconst 0, 1) := by decide +kernel
theorem dX7_isTold_23 : decode cX7_isTold 23 = .ok (.ireturn, 1) := by decide +kernel
set_option maxRecDepth 20000 in
set_option maxHeartbeats 4000000 in
theorem vX7_isTold_0 {l : Launch} {x : CX} {a0 : Nat} {x1 : Int32} {h : PH} {rc rs n0 : Nat} {Q : Option Value → PH → Prop} {X : String → PH → Prop}
    (K : ((x1 < 0 → ((0 : Int32) = 0 ∨ (0 : Int32) = 1) ∧ Q (some (.int 0)) h) ∧ (¬ x1 < 0 → ((hK h a0).1 = 7) ∧ ∃ b3, (hR h a0 3 = some b3) ∧ ((hK h b3).1 = 5) ∧ ∃ b6, (hR h b3 0 = some b6) ∧ ((hK h b6).1 = 1) ∧ (((if (hI h b6 2) ≤ x1 then 0 else 1 : Int32) : Int32) = 0 ∨ ((if (hI h b6 2) ≤ x1 then 0 else 1 : Int32) : Int32) = 1) ∧ Q (some (.int (if (hI h b6 2) ≤ x1 then 0 else 1 : Int32))) h))) :
    Gm l x mX7_isTold 0 0 [(0, .ref a0), (1, .int x1)] [] h rc rs n0 Q X := by
  refine g_iload_n dX7_isTold_0 rfl 1 rfl ?_
  refine g_if_lt (tgt := 22) dX7_isTold_1 (by decide) (fun c1 => ?_) (fun c1 => ?_)
  · replace K := K.1 c1
    refine g_iconst (v := 0) dX7_isTold_22 (by decide) ?_
    exact g_zret dX7_isTold_23 rfl K.1 K.2
  · replace K := K.2 c1
    refine g_iload_n dX7_isTold_4 rfl 1 rfl ?_
    refine g_aload_n dX7_isTold_5 rfl 0 rfl ?_
    obtain ⟨e2, b3, e4, K⟩ := K
    refine g_get (c := 7) (k := 3) (v := .ref b3) dX7_isTold_6 fc_7 (by decide) (by decide) bw_405 (congrArg pr e4) e2 ?_
    obtain ⟨e5, b6, e7, K⟩ := K
    refine g_get (c := 5) (k := 0) (v := .ref b6) dX7_isTold_9 fc_5 (by decide) (by decide) bw_315 (congrArg pr e7) e5 ?_
    obtain ⟨e8, K⟩ := K
    refine g_get (c := 1) (k := 2) (v := .int (hI h b6 2)) dX7_isTold_12 fc_1 (by decide) (by decide) bw_194 rfl e8 ?_
    have KJ : Gm l x mX7_isTold 0 23 [(0, .ref a0), (1, .int x1)] [.int (if (hI h b6 2) ≤ x1 then 0 else 1 : Int32)] h rc rs n0 Q X := by
      exact g_zret dX7_isTold_23 rfl K.1 K.2
    refine g_icmp_ge (tgt := 22) dX7_isTold_15 (by decide) (fun c9 => ?_) (fun c9 => ?_)
    · refine g_iconst (v := 0) dX7_isTold_22 (by decide) ?_
      first | (simp only [if_pos c9] at KJ; exact KJ) | (simp only [if_pos c9, ite_true, ite_false, eq_self] at KJ; exact KJ) | (simp only [if_pos c9] at KJ ⊢; exact KJ) | exact KJ
    · refine g_iconst (v := 1) dX7_isTold_18 (by decide) ?_
      refine g_goto (tgt := 23) dX7_isTold_19 (by decide) ?_
      first | (simp only [if_neg c9] at KJ; exact KJ) | (simp only [if_neg c9, ite_true, ite_false, eq_self] at KJ; exact KJ) | (simp only [if_neg c9] at KJ ⊢; exact KJ) | exact KJ
theorem dX7_isSort_0 : decode cX7_isSort 0 = .ok (.iload_n 0, 1) := by decide +kernel
theorem dX7_isSort_1 : decode cX7_isSort 1 = .ok (.iconst 1, 1) := by decide +kernel
theorem dX7_isSort_2 : decode cX7_isSort 2 = .ok (.if_icmp .eq 8, 3) := by decide +kernel
theorem dX7_isSort_5 : decode cX7_isSort 5 = .ok (.iload_n 0, 1) := by decide +kernel
theorem dX7_isSort_6 : decode cX7_isSort 6 = .ok (.iconst 2, 1) := by decide +kernel
theorem dX7_isSort_7 : decode cX7_isSort 7 = .ok (.if_icmp .ne 7, 3) := by decide +kernel
theorem dX7_isSort_10 : decode cX7_isSort 10 = .ok (.iconst 1, 1) := by decide +kernel
theorem dX7_isSort_11 : decode cX7_isSort 11 = .ok (.goto 4, 3) := by decide +kernel
theorem dX7_isSort_14 : decode cX7_isSort 14 = .ok (.iconst 0, 1) := by decide +kernel
theorem dX7_isSort_15 : decode cX7_isSort 15 = .ok (.ireturn, 1) := by decide +kernel
set_option maxRecDepth 20000 in
set_option maxHeartbeats 4000000 in
theorem vX7_isSort_0 {l : Launch} {x : CX} {x0 : Int32} {h : PH} {rc rs n0 : Nat} {Q : Option Value → PH → Prop} {X : String → PH → Prop}
    (K : (((if x0 = 1 then 1 else (if x0 = 2 then 1 else 0 : Int32) : Int32) : Int32) = 0 ∨ ((if x0 = 1 then 1 else (if x0 = 2 then 1 else 0 : Int32) : Int32) : Int32) = 1) ∧ Q (some (.int (if x0 = 1 then 1 else (if x0 = 2 then 1 else 0 : Int32) : Int32))) h) :
    Gm l x mX7_isSort 0 0 [(0, .int x0)] [] h rc rs n0 Q X := by
  refine g_iload_n dX7_isSort_0 rfl 0 rfl ?_
  refine g_iconst (v := 1) dX7_isSort_1 (by decide) ?_
  have KJ : Gm l x mX7_isSort 0 15 [(0, .int x0)] [.int (if x0 = 1 then 1 else (if x0 = 2 then 1 else 0 : Int32) : Int32)] h rc rs n0 Q X := by
    exact g_zret dX7_isSort_15 rfl K.1 K.2
  refine g_icmp_eq (tgt := 10) dX7_isSort_2 (by decide) (fun c1 => ?_) (fun c1 => ?_)
  · refine g_iconst (v := 1) dX7_isSort_10 (by decide) ?_
    refine g_goto (tgt := 15) dX7_isSort_11 (by decide) ?_
    first | (simp only [if_pos c1] at KJ; exact KJ) | (simp only [if_pos c1, ite_true, ite_false, eq_self] at KJ; exact KJ) | (simp only [if_pos c1] at KJ ⊢; exact KJ) | exact KJ
  · refine g_iload_n dX7_isSort_5 rfl 0 rfl ?_
    refine g_iconst (v := 2) dX7_isSort_6 (by decide) ?_
    refine g_icmp_ne (tgt := 14) dX7_isSort_7 (by decide) (fun c2 => ?_) (fun c2 => ?_)
    · refine g_iconst (v := 0) dX7_isSort_14 (by decide) ?_
      first | (simp only [if_neg c1, if_neg c2] at KJ; exact KJ) | (simp only [if_neg c1, if_neg c2, ite_true, ite_false, eq_self] at KJ; exact KJ) | (simp only [if_neg c1, if_neg c2] at KJ ⊢; exact KJ) | exact KJ
    · refine g_iconst (v := 1) dX7_isSort_10 (by decide) ?_
      refine g_goto (tgt := 15) dX7_isSort_11 (by decide) ?_
      first | (simp only [if_neg c1, if_pos c2] at KJ; exact KJ) | (simp only [if_neg c1, if_pos c2, ite_true, ite_false, eq_self] at KJ; exact KJ) | (simp only [if_neg c1, if_pos c2] at KJ ⊢; exact KJ) | exact KJ
theorem dX7_isPolicy_0 : decode cX7_isPolicy 0 = .ok (.iload_n 0, 1) := by decide +kernel
theorem dX7_isPolicy_1 : decode cX7_isPolicy 1 = .ok (.ifCond .lt 12, 3) := by decide +kernel
theorem dX7_isPolicy_4 : decode cX7_isPolicy 4 = .ok (.iload_n 0, 1) := by decide +kernel
theorem dX7_isPolicy_5 : decode cX7_isPolicy 5 = .ok (.iconst 3, 1) := by decide +kernel
theorem dX7_isPolicy_6 : decode cX7_isPolicy 6 = .ok (.if_icmp .ge 7, 3) := by decide +kernel
theorem dX7_isPolicy_9 : decode cX7_isPolicy 9 = .ok (.iconst 1, 1) := by decide +kernel
theorem dX7_isPolicy_10 : decode cX7_isPolicy 10 = .ok (.goto 4, 3) := by decide +kernel
theorem dX7_isPolicy_13 : decode cX7_isPolicy 13 = .ok (.iconst 0, 1) := by decide +kernel
theorem dX7_isPolicy_14 : decode cX7_isPolicy 14 = .ok (.ireturn, 1) := by decide +kernel
set_option maxRecDepth 20000 in
set_option maxHeartbeats 4000000 in
theorem vX7_isPolicy_0 {l : Launch} {x : CX} {x0 : Int32} {h : PH} {rc rs n0 : Nat} {Q : Option Value → PH → Prop} {X : String → PH → Prop}
    (K : (((if x0 < 0 then 0 else (if 3 ≤ x0 then 0 else 1 : Int32) : Int32) : Int32) = 0 ∨ ((if x0 < 0 then 0 else (if 3 ≤ x0 then 0 else 1 : Int32) : Int32) : Int32) = 1) ∧ Q (some (.int (if x0 < 0 then 0 else (if 3 ≤ x0 then 0 else 1 : Int32) : Int32))) h) :
    Gm l x mX7_isPolicy 0 0 [(0, .int x0)] [] h rc rs n0 Q X := by
  refine g_iload_n dX7_isPolicy_0 rfl 0 rfl ?_
  have KJ : Gm l x mX7_isPolicy 0 14 [(0, .int x0)] [.int (if x0 < 0 then 0 else (if 3 ≤ x0 then 0 else 1 : Int32) : Int32)] h rc rs n0 Q X := by
    exact g_zret dX7_isPolicy_14 rfl K.1 K.2
  refine g_if_lt (tgt := 13) dX7_isPolicy_1 (by decide) (fun c1 => ?_) (fun c1 => ?_)
  · refine g_iconst (v := 0) dX7_isPolicy_13 (by decide) ?_
    first | (simp only [if_pos c1] at KJ; exact KJ) | (simp only [if_pos c1, ite_true, ite_false, eq_self] at KJ; exact KJ) | (simp only [if_pos c1] at KJ ⊢; exact KJ) | exact KJ
  · refine g_iload_n dX7_isPolicy_4 rfl 0 rfl ?_
    refine g_iconst (v := 3) dX7_isPolicy_5 (by decide) ?_
    refine g_icmp_ge (tgt := 13) dX7_isPolicy_6 (by decide) (fun c2 => ?_) (fun c2 => ?_)
    · refine g_iconst (v := 0) dX7_isPolicy_13 (by decide) ?_
      first | (simp only [if_neg c1, if_pos c2] at KJ; exact KJ) | (simp only [if_neg c1, if_pos c2, ite_true, ite_false, eq_self] at KJ; exact KJ) | (simp only [if_neg c1, if_pos c2] at KJ ⊢; exact KJ) | exact KJ
    · refine g_iconst (v := 1) dX7_isPolicy_9 (by decide) ?_
      refine g_goto (tgt := 14) dX7_isPolicy_10 (by decide) ?_
      first | (simp only [if_neg c1, if_neg c2] at KJ; exact KJ) | (simp only [if_neg c1, if_neg c2, ite_true, ite_false, eq_self] at KJ; exact KJ) | (simp only [if_neg c1, if_neg c2] at KJ ⊢; exact KJ) | exact KJ
theorem dX7_isLate_0 : decode cX7_isLate 0 = .ok (.iload_n 0, 1) := by decide +kernel
theorem dX7_isLate_1 : decode cX7_isLate 1 = .ok (.ifCond .lt 13, 3) := by decide +kernel
theorem dX7_isLate_4 : decode cX7_isLate 4 = .ok (.iload_n 0, 1) := by decide +kernel
theorem dX7_isLate_5 : decode cX7_isLate 5 = .ok (.bipush 12, 2) := by decide +kernel
theorem dX7_isLate_7 : decode cX7_isLate 7 = .ok (.if_icmp .ge 7, 3) := by decide +kernel
theorem dX7_isLate_10 : decode cX7_isLate 10 = .ok (.iconst 1, 1) := by decide +kernel
theorem dX7_isLate_11 : decode cX7_isLate 11 = .ok (.goto 4, 3) := by decide +kernel
theorem dX7_isLate_14 : decode cX7_isLate 14 = .ok (.iconst 0, 1) := by decide +kernel
theorem dX7_isLate_15 : decode cX7_isLate 15 = .ok (.ireturn, 1) := by decide +kernel
set_option maxRecDepth 20000 in
set_option maxHeartbeats 4000000 in
theorem vX7_isLate_0 {l : Launch} {x : CX} {x0 : Int32} {h : PH} {rc rs n0 : Nat} {Q : Option Value → PH → Prop} {X : String → PH → Prop}
    (K : (((if x0 < 0 then 0 else (if 12 ≤ x0 then 0 else 1 : Int32) : Int32) : Int32) = 0 ∨ ((if x0 < 0 then 0 else (if 12 ≤ x0 then 0 else 1 : Int32) : Int32) : Int32) = 1) ∧ Q (some (.int (if x0 < 0 then 0 else (if 12 ≤ x0 then 0 else 1 : Int32) : Int32))) h) :
    Gm l x mX7_isLate 0 0 [(0, .int x0)] [] h rc rs n0 Q X := by
  refine g_iload_n dX7_isLate_0 rfl 0 rfl ?_
  have KJ : Gm l x mX7_isLate 0 15 [(0, .int x0)] [.int (if x0 < 0 then 0 else (if 12 ≤ x0 then 0 else 1 : Int32) : Int32)] h rc rs n0 Q X := by
    exact g_zret dX7_isLate_15 rfl K.1 K.2
  refine g_if_lt (tgt := 14) dX7_isLate_1 (by decide) (fun c1 => ?_) (fun c1 => ?_)
  · refine g_iconst (v := 0) dX7_isLate_14 (by decide) ?_
    first | (simp only [if_pos c1] at KJ; exact KJ) | (simp only [if_pos c1, ite_true, ite_false, eq_self] at KJ; exact KJ) | (simp only [if_pos c1] at KJ ⊢; exact KJ) | exact KJ
  · refine g_iload_n dX7_isLate_4 rfl 0 rfl ?_
    refine g_bipush (v := 12) dX7_isLate_5 (by decide) ?_
    refine g_icmp_ge (tgt := 14) dX7_isLate_7 (by decide) (fun c2 => ?_) (fun c2 => ?_)
    · refine g_iconst (v := 0) dX7_isLate_14 (by decide) ?_
      first | (simp only [if_neg c1, if_pos c2] at KJ; exact KJ) | (simp only [if_neg c1, if_pos c2, ite_true, ite_false, eq_self] at KJ; exact KJ) | (simp only [if_neg c1, if_pos c2] at KJ ⊢; exact KJ) | exact KJ
    · refine g_iconst (v := 1) dX7_isLate_10 (by decide) ?_
      refine g_goto (tgt := 15) dX7_isLate_11 (by decide) ?_
      first | (simp only [if_neg c1, if_neg c2] at KJ; exact KJ) | (simp only [if_neg c1, if_neg c2, ite_true, ite_false, eq_self] at KJ; exact KJ) | (simp only [if_neg c1, if_neg c2] at KJ ⊢; exact KJ) | exact KJ
theorem dX7_nextSeed_0 : decode cX7_nextSeed 0 = .ok (.iload_n 0, 1) := by decide +kernel
theorem dX7_nextSeed_1 : decode cX7_nextSeed 1 = .ok (.ldc_w 401, 3) := by decide +kernel
theorem dX7_nextSeed_4 : decode cX7_nextSeed 4 = .ok (.imul, 1) := by decide +kernel
theorem dX7_nextSeed_5 : decode cX7_nextSeed 5 = .ok (.sipush 12345, 3) := by decide +kernel
theorem dX7_nextSeed_8 : decode cX7_nextSeed 8 = .ok (.iadd, 1) := by decide +kernel
theorem dX7_nextSeed_9 : decode cX7_nextSeed 9 = .ok (.ireturn, 1) := by decide +kernel
set_option maxRecDepth 20000 in
set_option maxHeartbeats 4000000 in
theorem vX7_nextSeed_0 {l : Launch} {x : CX} {x0 : Int32} {h : PH} {rc rs n0 : Nat} {Q : Option Value → PH → Prop} {X : String → PH → Prop}
    (K : Q (some (.int ((x0 * 1103515245) + 12345))) h) :
    Gm l x mX7_nextSeed 0 0 [(0, .int x0)] [] h rc rs n0 Q X := by
  refine g_iload_n dX7_nextSeed_0 rfl 0 rfl ?_
  refine g_ldcw (v := 1103515245) dX7_nextSeed_1 bw_1160 ?_
  refine g_imul dX7_nextSeed_4 ?_
  refine g_sipush (v := 12345) dX7_nextSeed_5 (by decide) ?_
  refine g_iadd dX7_nextSeed_8 ?_
  exact g_iret dX7_nextSeed_9 rfl K
theorem dX7_drawOf_0 : decode cX7_drawOf 0 = .ok (.iload_n 1, 1) := by decide +kernel
theorem dX7_drawOf_1 : decode cX7_drawOf 1 = .ok (.iconst 1, 1) := by decide +kernel
theorem dX7_drawOf_2 : decode cX7_drawOf 2 = .ok (.if_icmp .ge 7, 3) := by decide +kernel
theorem dX7_drawOf_5 : decode cX7_drawOf 5 = .ok (.iconst 0, 1) := by decide +kernel
theorem dX7_drawOf_6 : decode cX7_drawOf 6 = .ok (.goto 13, 3) := by decide +kernel
theorem dX7_drawOf_9 : decode cX7_drawOf 9 = .ok (.iload_n 0, 1) := by decide +kernel
theorem dX7_drawOf_10 : decode cX7_drawOf 10 = .ok (.bipush 16, 2) := by decide +kernel
theorem dX7_drawOf_12 : decode cX7_drawOf 12 = .ok (.iushr, 1) := by decide +kernel
theorem dX7_drawOf_13 : decode cX7_drawOf 13 = .ok (.sipush 32767, 3) := by decide +kernel
theorem dX7_drawOf_16 : decode cX7_drawOf 16 = .ok (.iand, 1) := by decide +kernel
theorem dX7_drawOf_17 : decode cX7_drawOf 17 = .ok (.iload_n 1, 1) := by decide +kernel
theorem dX7_drawOf_18 : decode cX7_drawOf 18 = .ok (.irem, 1) := by decide +kernel
theorem dX7_drawOf_19 : decode cX7_drawOf 19 = .ok (.ireturn, 1) := by decide +kernel
set_option maxRecDepth 20000 in
set_option maxHeartbeats 4000000 in
theorem vX7_drawOf_0 {l : Launch} {x : CX} {x0 : Int32} {x1 : Int32} {h : PH} {rc rs n0 : Nat} {Q : Option Value → PH → Prop} {X : String → PH → Prop}
    (K : ((1 ≤ x1 → (¬ x1 = 0) ∧ Q (some (.int (((ius x0 16) &&& 32767) - ((ius x0 16) &&& 32767) / x1 * x1))) h) ∧ (¬ 1 ≤ x1 → Q (some (.int 0)) h))) :
    Gm l x mX7_drawOf 0 0 [(0, .int x0), (1, .int x1)] [] h rc rs n0 Q X := by
  refine g_iload_n dX7_drawOf_0 rfl 1 rfl ?_
  refine g_iconst (v := 1) dX7_drawOf_1 (by decide) ?_
  refine g_icmp_ge (tgt := 9) dX7_drawOf_2 (by decide) (fun c1 => ?_) (fun c1 => ?_)
  · replace K := K.1 c1
    refine g_iload_n dX7_drawOf_9 rfl 0 rfl ?_
    refine g_bipush (v := 16) dX7_drawOf_10 (by decide) ?_
    refine g_iushr dX7_drawOf_12 ?_
    refine g_sipush (v := 32767) dX7_drawOf_13 (by decide) ?_
    refine g_iand dX7_drawOf_16 ?_
    refine g_iload_n dX7_drawOf_17 rfl 1 rfl ?_
    obtain ⟨e2, K⟩ := K
    refine g_irem dX7_drawOf_18 e2 ?_
    exact g_iret dX7_drawOf_19 rfl K
  · replace K := K.2 c1
    refine g_iconst (v := 0) dX7_drawOf_5 (by decide) ?_
    refine g_goto (tgt := 19) dX7_drawOf_6 (by decide) ?_
    exact g_iret dX7_drawOf_19 rfl K
theorem dX7_callNumber_0 : decode cX7_callNumber 0 = .ok (.iconst 4, 1) := by decide +kernel
theorem dX7_callNumber_1 : decode cX7_callNumber 1 = .ok (.iload_n 0, 1) := by decide +kernel
theorem dX7_callNumber_2 : decode cX7_callNumber 2 = .ok (.imul, 1) := by decide +kernel
theorem dX7_callNumber_3 : decode cX7_callNumber 3 = .ok (.iload_n 1, 1) := by decide +kernel
theorem dX7_callNumber_4 : decode cX7_callNumber 4 = .ok (.ifCond .le 7, 3) := by decide +kernel
theorem dX7_callNumber_7 : decode cX7_callNumber 7 = .ok (.iconst 0, 1) := by decide +kernel
theorem dX7_callNumber_8 : decode cX7_callNumber 8 = .ok (.goto 4, 3) := by decide +kernel
theorem dX7_callNumber_11 : decode cX7_callNumber 11 = .ok (.iconst 2, 1) := by decide +kernel
theorem dX7_callNumber_12 : decode cX7_callNumber 12 = .ok (.iadd, 1) := by decide +kernel
theorem dX7_callNumber_13 : decode cX7_callNumber 13 = .ok (.iload_n 2, 1) := by decide +kernel
theorem dX7_callNumber_14 : decode cX7_callNumber 14 = .ok (.iconst 1, 1) := by decide +kernel
theorem dX7_callNumber_15 : decode cX7_callNumber 15 = .ok (.if_icmp .ne 7, 3) := by decide +kernel
theorem dX7_callNumber_18 : decode cX7_callNumber 18 = .ok (.iconst 0, 1) := by decide +kernel
theorem dX7_callNumber_19 : decode cX7_callNumber 19 = .ok (.goto 4, 3) := by decide +kernel
theorem dX7_callNumber_22 : decode cX7_callNumber 22 = .ok (.iconst 1, 1) := by decide +kernel
theorem dX7_callNumber_23 : decode cX7_callNumber 23 = .ok (.iadd, 1) := by decide +kernel
theorem dX7_callNumber_24 : decode cX7_callNumber 24 = .ok (.ireturn, 1) := by decide +kernel
set_option maxRecDepth 20000 in
set_option maxHeartbeats 4000000 in
theorem vX7_callNumber_0 {l : Launch} {x : CX} {x0 : Int32} {x1 : Int32} {x2 : Int32} {h : PH} {rc rs n0 : Nat} {Q : Option Value → PH → Prop} {X : String → PH → Prop}
    (K : Q (some (.int (((4 * x0) + (if x1 ≤ 0 then 2 else 0 : Int32)) + (if x2 = 1 then 0 else 1 : Int32)))) h) :
    Gm l x mX7_callNumber 0 0 [(0, .int x0), (1, .int x1), (2, .int x2)] [] h rc rs n0 Q X := by
  refine g_iconst (v := 4) dX7_callNumber_0 (by decide) ?_
  refine g_iload_n dX7_callNumber_1 rfl 0 rfl ?_
  refine g_imul dX7_callNumber_2 ?_
  refine g_iload_n dX7_callNumber_3 rfl 1 rfl ?_
  have KJ : Gm l x mX7_callNumber 0 12 [(0, .int x0), (1, .int x1), (2, .int x2)] [.int (if x1 ≤ 0 then 2 else 0 : Int32), .int (4 * x0)] h rc rs n0 Q X := by
    refine g_iadd dX7_callNumber_12 ?_
    refine g_iload_n dX7_callNumber_13 rfl 2 rfl ?_
    refine g_iconst (v := 1) dX7_callNumber_14 (by decide) ?_
    have KJ : Gm l x mX7_callNumber 0 23 [(0, .int x0), (1, .int x1), (2, .int x2)] [.int (if x2 = 1 then 0 else 1 : Int32), .int ((4 * x0) + (if x1 ≤ 0 then 2 else 0 : Int32))] h rc rs n0 Q X := by
      refine g_iadd dX7_callNumber_23 ?_
      exact g_iret dX7_callNumber_24 rfl K
    refine g_icmp_ne (tgt := 22) dX7_callNumber_15 (by decide) (fun c2 => ?_) (fun c2 => ?_)
    · refine g_iconst (v := 1) dX7_callNumber_22 (by decide) ?_
      first | (simp only [if_neg c2] at KJ; exact KJ) | (simp only [if_neg c2, ite_true, ite_false, eq_self] at KJ; exact KJ) | (simp only [if_neg c2] at KJ ⊢; exact KJ) | exact KJ
    · refine g_iconst (v := 0) dX7_callNumber_18 (by decide) ?_
      refine g_goto (tgt := 23) dX7_callNumber_19 (by decide) ?_
      first | (simp only [if_pos c2] at KJ; exact KJ) | (simp only [if_pos c2, ite_true, ite_false, eq_self] at KJ; exact KJ) | (simp only [if_pos c2] at KJ ⊢; exact KJ) | exact KJ
  refine g_if_le (tgt := 11) dX7_callNumber_4 (by decide) (fun c1 => ?_) (fun c1 => ?_)
  · refine g_iconst (v := 2) dX7_callNumber_11 (by decide) ?_
    first | (simp only [if_pos c1] at KJ; exact KJ) | (simp only [if_pos c1, ite_true, ite_false, eq_self] at KJ; exact KJ) | (simp only [if_pos c1] at KJ ⊢; exact KJ) | exact KJ
  · refine g_iconst (v := 0) dX7_callNumber_7 (by decide) ?_
    refine g_goto (tgt := 12) dX7_callNumber_8 (by decide) ?_
    first | (simp only [if_neg c1] at KJ; exact KJ) | (simp only [if_neg c1, ite_true, ite_false, eq_self] at KJ; exact KJ) | (simp only [if_neg c1] at KJ ⊢; exact KJ) | exact KJ
theorem dX7_bitsOf_0 : decode cX7_bitsOf 0 = .ok (.fload_n 0, 1) := by decide +kernel
theorem dX7_bitsOf_1 : decode cX7_bitsOf 1 = .ok (.fconst 0, 1) := by decide +kernel
theorem dX7_bitsOf_2 : decode cX7_bitsOf 2 = .ok (.fcmp .l, 1) := by decide +kernel
theorem dX7_bitsOf_3 : decode cX7_bitsOf 3 = .ok (.ifCond .gt 5, 3) := by decide +kernel
theorem dX7_bitsOf_6 : decode cX7_bitsOf 6 = .ok (.iconst 0, 1) := by decide +kernel
theorem dX7_bitsOf_7 : decode cX7_bitsOf 7 = .ok (.ireturn, 1) := by decide +kernel
theorem dX7_bitsOf_8 : decode cX7_bitsOf 8 = .ok (.fload_n 0, 1) := by decide +kernel
theorem dX7_bitsOf_9 : decode cX7_bitsOf 9 = .ok (.fstore_n 1, 1) := by decide +kernel
theorem dX7_bitsOf_10 : decode cX7_bitsOf 10 = .ok (.bipush 127, 2) := by decide +kernel
theorem dX7_bitsOf_12 : decode cX7_bitsOf 12 = .ok (.istore_n 2, 1) := by decide +kernel
theorem dX7_bitsOf_13 : decode cX7_bitsOf 13 = .ok (.iconst 0, 1) := by decide +kernel
theorem dX7_bitsOf_14 : decode cX7_bitsOf 14 = .ok (.istore_n 3, 1) := by decide +kernel
theorem dX7_bitsOf_15 : decode cX7_bitsOf 15 = .ok (.iload_n 3, 1) := by decide +kernel
theorem dX7_bitsOf_16 : decode cX7_bitsOf 16 = .ok (.sipush 128, 3) := by decide +kernel
theorem dX7_bitsOf_19 : decode cX7_bitsOf 19 = .ok (.if_icmp .ge 22, 3) := by decide +kernel
theorem dX7_bitsOf_22 : decode cX7_bitsOf 22 = .ok (.fload_n 1, 1) := by decide +kernel
theorem dX7_bitsOf_23 : decode cX7_bitsOf 23 = .ok (.fconst 2, 1) := by decide +kernel
theorem dX7_bitsOf_24 : decode cX7_bitsOf 24 = .ok (.fcmp .l, 1) := by decide +kernel
theorem dX7_bitsOf_25 : decode cX7_bitsOf 25 = .ok (.ifCond .lt 16, 3) := by decide +kernel
theorem dX7_bitsOf_28 : decode cX7_bitsOf 28 = .ok (.fload_n 1, 1) := by decide +kernel
theorem dX7_bitsOf_29 : decode cX7_bitsOf 29 = .ok (.fconst 2, 1) := by decide +kernel
theorem dX7_bitsOf_30 : decode cX7_bitsOf 30 = .ok (.fdiv, 1) := by decide +kernel
theorem dX7_bitsOf_31 : decode cX7_bitsOf 31 = .ok (.fstore_n 1, 1) := by decide +kernel
theorem dX7_bitsOf_32 : decode cX7_bitsOf 32 = .ok (.iinc 2 1, 3) := by decide +kernel
theorem dX7_bitsOf_35 : decode cX7_bitsOf 35 = .ok (.iinc 3 1, 3) := by decide +kernel
theorem dX7_bitsOf_38 : decode cX7_bitsOf 38 = .ok (.goto (-23), 3) := by decide +kernel
theorem dX7_bitsOf_41 : decode cX7_bitsOf 41 = .ok (.iconst 0, 1) := by decide +kernel
theorem dX7_bitsOf_42 : decode cX7_bitsOf 42 = .ok (.istore_n 3, 1) := by decide +kernel
theorem dX7_bitsOf_43 : decode cX7_bitsOf 43 = .ok (.iload_n 3, 1) := by decide +kernel
theorem dX7_bitsOf_44 : decode cX7_bitsOf 44 = .ok (.sipush 128, 3) := by decide +kernel
theorem dX7_bitsOf_47 : decode cX7_bitsOf 47 = .ok (.if_icmp .ge 22, 3) := by decide +kernel
theorem dX7_bitsOf_50 : decode cX7_bitsOf 50 = .ok (.fload_n 1, 1) := by decide +kernel
theorem dX7_bitsOf_51 : decode cX7_bitsOf 51 = .ok (.fconst 1, 1) := by decide +kernel
theorem dX7_bitsOf_52 : decode cX7_bitsOf 52 = .ok (.fcmp .g, 1) := by decide +kernel
theorem dX7_bitsOf_53 : decode cX7_bitsOf 53 = .ok (.ifCond .ge 16, 3) := by decide +kernel
theorem dX7_bitsOf_56 : decode cX7_bitsOf 56 = .ok (.fload_n 1, 1) := by decide +kernel
theorem dX7_bitsOf_57 : decode cX7_bitsOf 57 = .ok (.fconst 2, 1) := by decide +kernel
theorem dX7_bitsOf_58 : decode cX7_bitsOf 58 = .ok (.fmul, 1) := by decide +kernel
theorem dX7_bitsOf_59 : decode cX7_bitsOf 59 = .ok (.fstore_n 1, 1) := by decide +kernel
theorem dX7_bitsOf_60 : decode cX7_bitsOf 60 = .ok (.iinc 2 (-1), 3) := by decide +kernel
theorem dX7_bitsOf_63 : decode cX7_bitsOf 63 = .ok (.iinc 3 1, 3) := by decide +kernel
theorem dX7_bitsOf_66 : decode cX7_bitsOf 66 = .ok (.goto (-23), 3) := by decide +kernel
theorem dX7_bitsOf_69 : decode cX7_bitsOf 69 = .ok (.iload_n 2, 1) := by decide +kernel
theorem dX7_bitsOf_70 : decode cX7_bitsOf 70 = .ok (.bipush 23, 2) := by decide +kernel
theorem dX7_bitsOf_72 : decode cX7_bitsOf 72 = .ok (.ishl, 1) := by decide +kernel
theorem dX7_bitsOf_73 : decode cX7_bitsOf 73 = .ok (.fload_n 1, 1) := by decide +kernel
theorem dX7_bitsOf_74 : decode cX7_bitsOf 74 = .ok (.fconst 1, 1) := by decide +kernel
theorem dX7_bitsOf_75 : decode cX7_bitsOf 75 = .ok (.fsub, 1) := by decide +kernel
theorem dX7_bitsOf_76 : decode cX7_bitsOf 76 = .ok (.ldc_w 402, 3) := by decide +kernel
theorem dX7_bitsOf_79 : decode cX7_bitsOf 79 = .ok (.fmul, 1) := by decide +kernel
theorem dX7_bitsOf_80 : decode cX7_bitsOf 80 = .ok (.f2i, 1) := by decide +kernel
theorem dX7_bitsOf_81 : decode cX7_bitsOf 81 = .ok (.ior, 1) := by decide +kernel
theorem dX7_bitsOf_82 : decode cX7_bitsOf 82 = .ok (.ireturn, 1) := by decide +kernel
set_option maxRecDepth 20000 in
set_option maxHeartbeats 4000000 in
theorem vX7_bitsOf_0 {l : Launch} {x : CX} {f0 : UInt32} {h : PH} {rc rs n0 : Nat} {Q : Option Value → PH → Prop} {X : String → PH → Prop}
    (K : ((0 < (Op.cmpValue (FP.fcmp f0 FP.fconst0) .l) → Gm l x mX7_bitsOf 0 15 [(0, .float f0), (1, .float f0), (2, .int 127), (3, .int 0)] [] h rc rs n0 Q X) ∧ (¬ 0 < (Op.cmpValue (FP.fcmp f0 FP.fconst0) .l) → Q (some (.int 0)) h))) :
    Gm l x mX7_bitsOf 0 0 [(0, .float f0)] [] h rc rs n0 Q X := by
  refine g_fload_n dX7_bitsOf_0 rfl 0 rfl ?_
  refine g_fconst0 dX7_bitsOf_1 ?_
  refine g_fcmp dX7_bitsOf_2 ?_
  refine g_if_gt (tgt := 8) dX7_bitsOf_3 (by decide) (fun c1 => ?_) (fun c1 => ?_)
  · replace K := K.1 c1
    refine g_fload_n dX7_bitsOf_8 rfl 0 rfl ?_
    refine g_fstore_n (lv' := [(0, .float f0), (1, .float f0)]) dX7_bitsOf_9 rfl (by decide) rfl ?_
    refine g_bipush (v := 127) dX7_bitsOf_10 (by decide) ?_
    refine g_istore_n (lv' := [(0, .float f0), (1, .float f0), (2, .int 127)]) dX7_bitsOf_12 rfl (by decide) rfl ?_
    refine g_iconst (v := 0) dX7_bitsOf_13 (by decide) ?_
    refine g_istore_n (lv' := [(0, .float f0), (1, .float f0), (2, .int 127), (3, .int 0)]) dX7_bitsOf_14 rfl (by decide) rfl ?_
    exact K
  · replace K := K.2 c1
    refine g_iconst (v := 0) dX7_bitsOf_6 (by decide) ?_
    exact g_iret dX7_bitsOf_7 rfl K
set_option maxRecDepth 20000 in
set_option maxHeartbeats 4000000 in
theorem vX7_bitsOf_15 {l : Launch} {x : CX} {f0 : UInt32} {f1 : UInt32} {x2 : Int32} {x3 : Int32} {h : PH} {rc rs n0 : Nat} {Q : Option Value → PH → Prop} {X : String → PH → Prop}
    (K : ((128 ≤ x3 → Gm l x mX7_bitsOf 0 43 [(0, .float f0), (1, .float f1), (2, .int x2), (3, .int 0)] [] h rc rs n0 Q X) ∧ (¬ 128 ≤ x3 → (((Op.cmpValue (FP.fcmp f1 FP.fconst2) .l) < 0 → Gm l x mX7_bitsOf 0 43 [(0, .float f0), (1, .float f1), (2, .int x2), (3, .int 0)] [] h rc rs n0 Q X) ∧ (¬ (Op.cmpValue (FP.fcmp f1 FP.fconst2) .l) < 0 → (vf_n32 (FP.fdiv f1 FP.fconst2)) ∧ Gm l x mX7_bitsOf 0 15 [(0, .float f0), (1, .float (FP.fdiv f1 FP.fconst2)), (2, .int (x2 + 1)), (3, .int (x3 + 1))] [] h rc rs n0 Q X))))) :
    Gm l x mX7_bitsOf 0 15 [(0, .float f0), (1, .float f1), (2, .int x2), (3, .int x3)] [] h rc rs n0 Q X := by
  refine g_iload_n dX7_bitsOf_15 rfl 3 rfl ?_
  refine g_sipush (v := 128) dX7_bitsOf_16 (by decide) ?_
  refine g_icmp_ge (tgt := 41) dX7_bitsOf_19 (by decide) (fun c1 => ?_) (fun c1 => ?_)
  · replace K := K.1 c1
    refine g_iconst (v := 0) dX7_bitsOf_41 (by decide) ?_
    refine g_istore_n (lv' := [(0, .float f0), (1, .float f1), (2, .int x2), (3, .int 0)]) dX7_bitsOf_42 rfl (by decide) rfl ?_
    exact K
  · replace K := K.2 c1
    refine g_fload_n dX7_bitsOf_22 rfl 1 rfl ?_
    refine g_fconst2 dX7_bitsOf_23 ?_
    refine g_fcmp dX7_bitsOf_24 ?_
    refine g_if_lt (tgt := 41) dX7_bitsOf_25 (by decide) (fun c2 => ?_) (fun c2 => ?_)
    · replace K := K.1 c2
      refine g_iconst (v := 0) dX7_bitsOf_41 (by decide) ?_
      refine g_istore_n (lv' := [(0, .float f0), (1, .float f1), (2, .int x2), (3, .int 0)]) dX7_bitsOf_42 rfl (by decide) rfl ?_
      exact K
    · replace K := K.2 c2
      refine g_fload_n dX7_bitsOf_28 rfl 1 rfl ?_
      refine g_fconst2 dX7_bitsOf_29 ?_
      obtain ⟨e3, K⟩ := K
      refine g_fdiv dX7_bitsOf_30 e3 ?_
      refine g_fstore_n (lv' := [(0, .float f0), (1, .float (FP.fdiv f1 FP.fconst2)), (2, .int x2), (3, .int x3)]) dX7_bitsOf_31 rfl (by decide) rfl ?_
      refine g_iinc (v := (x2 + 1)) (lv' := [(0, .float f0), (1, .float (FP.fdiv f1 FP.fconst2)), (2, .int (x2 + 1)), (3, .int x3)]) dX7_bitsOf_32 2 rfl (by rfl) (by decide) rfl ?_
      refine g_iinc (v := (x3 + 1)) (lv' := [(0, .float f0), (1, .float (FP.fdiv f1 FP.fconst2)), (2, .int (x2 + 1)), (3, .int (x3 + 1))]) dX7_bitsOf_35 3 rfl (by rfl) (by decide) rfl ?_
      refine g_goto (tgt := 15) dX7_bitsOf_38 (by decide) ?_
      exact K
set_option maxRecDepth 20000 in
set_option maxHeartbeats 4000000 in
theorem vX7_bitsOf_43 {l : Launch} {x : CX} {f0 : UInt32} {f1 : UInt32} {x2 : Int32} {x3 : Int32} {h : PH} {rc rs n0 : Nat} {Q : Option Value → PH → Prop} {X : String → PH → Prop}
    (K : ((128 ≤ x3 → (vf_n32 (FP.fsub f1 FP.fconst1)) ∧ (vf_n32 (FP.fmul (FP.fsub f1 FP.fconst1) 1258291200)) ∧ Q (some (.int ((x2 <<< ((23 : Int32) &&& 31)) ||| (FP.f2i (FP.fmul (FP.fsub f1 FP.fconst1) 1258291200))))) h) ∧ (¬ 128 ≤ x3 → ((0 ≤ (Op.cmpValue (FP.fcmp f1 FP.fconst1) .g) → (vf_n32 (FP.fsub f1 FP.fconst1)) ∧ (vf_n32 (FP.fmul (FP.fsub f1 FP.fconst1) 1258291200)) ∧ Q (some (.int ((x2 <<< ((23 : Int32) &&& 31)) ||| (FP.f2i (FP.fmul (FP.fsub f1 FP.fconst1) 1258291200))))) h) ∧ (¬ 0 ≤ (Op.cmpValue (FP.fcmp f1 FP.fconst1) .g) → (vf_n32 (FP.fmul f1 FP.fconst2)) ∧ Gm l x mX7_bitsOf 0 43 [(0, .float f0), (1, .float (FP.fmul f1 FP.fconst2)), (2, .int (x2 + (-1))), (3, .int (x3 + 1))] [] h rc rs n0 Q X))))) :
    Gm l x mX7_bitsOf 0 43 [(0, .float f0), (1, .float f1), (2, .int x2), (3, .int x3)] [] h rc rs n0 Q X := by
  refine g_iload_n dX7_bitsOf_43 rfl 3 rfl ?_
  refine g_sipush (v := 128) dX7_bitsOf_44 (by decide) ?_
  refine g_icmp_ge (tgt := 69) dX7_bitsOf_47 (by decide) (fun c1 => ?_) (fun c1 => ?_)
  · replace K := K.1 c1
    refine g_iload_n dX7_bitsOf_69 rfl 2 rfl ?_
    refine g_bipush (v := 23) dX7_bitsOf_70 (by decide) ?_
    refine g_ishl dX7_bitsOf_72 ?_
    refine g_fload_n dX7_bitsOf_73 rfl 1 rfl ?_
    refine g_fconst1 dX7_bitsOf_74 ?_
    obtain ⟨e2, K⟩ := K
    refine g_fsub dX7_bitsOf_75 e2 ?_
    refine g_ldcwf (v := 1258291200) dX7_bitsOf_76 bw_1008 ?_
    obtain ⟨e3, K⟩ := K
    refine g_fmul dX7_bitsOf_79 e3 ?_
    refine g_f2i dX7_bitsOf_80 ?_
    refine g_ior dX7_bitsOf_81 ?_
    exact g_iret dX7_bitsOf_82 rfl K
  · replace K := K.2 c1
    refine g_fload_n dX7_bitsOf_50 rfl 1 rfl ?_
    refine g_fconst1 dX7_bitsOf_51 ?_
    refine g_fcmp dX7_bitsOf_52 ?_
    refine g_if_ge (tgt := 69) dX7_bitsOf_53 (by decide) (fun c4 => ?_) (fun c4 => ?_)
    · replace K := K.1 c4
      refine g_iload_n dX7_bitsOf_69 rfl 2 rfl ?_
      refine g_bipush (v := 23) dX7_bitsOf_70 (by decide) ?_
      refine g_ishl dX7_bitsOf_72 ?_
      refine g_fload_n dX7_bitsOf_73 rfl 1 rfl ?_
      refine g_fconst1 dX7_bitsOf_74 ?_
      obtain ⟨e5, K⟩ := K
      refine g_fsub dX7_bitsOf_75 e5 ?_
      refine g_ldcwf (v := 1258291200) dX7_bitsOf_76 bw_1008 ?_
      obtain ⟨e6, K⟩ := K
      refine g_fmul dX7_bitsOf_79 e6 ?_
      refine g_f2i dX7_bitsOf_80 ?_
      refine g_ior dX7_bitsOf_81 ?_
      exact g_iret dX7_bitsOf_82 rfl K
    · replace K := K.2 c4
      refine g_fload_n dX7_bitsOf_56 rfl 1 rfl ?_
      refine g_fconst2 dX7_bitsOf_57 ?_
      obtain ⟨e7, K⟩ := K
      refine g_fmul dX7_bitsOf_58 e7 ?_
      refine g_fstore_n (lv' := [(0, .float f0), (1, .float (FP.fmul f1 FP.fconst2)), (2, .int x2), (3, .int x3)]) dX7_bitsOf_59 rfl (by decide) rfl ?_
      refine g_iinc (v := (x2 + (-1))) (lv' := [(0, .float f0), (1, .float (FP.fmul f1 FP.fconst2)), (2, .int (x2 + (-1))), (3, .int x3)]) dX7_bitsOf_60 2 rfl (by rfl) (by decide) rfl ?_
      refine g_iinc (v := (x3 + 1)) (lv' := [(0, .float f0), (1, .float (FP.fmul f1 FP.fconst2)), (2, .int (x2 + (-1))), (3, .int (x3 + 1))]) dX7_bitsOf_63 3 rfl (by rfl) (by decide) rfl ?_
      refine g_goto (tgt := 43) dX7_bitsOf_66 (by decide) ?_
      exact K
theorem dX7_feed_0 : decode cX7_feed 0 = .ok (.aload_n 0, 1) := by decide +kernel
theorem dX7_feed_1 : decode cX7_feed 1 = .ok (.getfield 10, 3) := by decide +kernel
theorem dX7_feed_4 : decode cX7_feed 4 = .ok (.getfield 48, 3) := by decide +kernel
theorem dX7_feed_7 : decode cX7_feed 7 = .ok (.bipush 20, 2) := by decide +kernel
theorem dX7_feed_9 : decode cX7_feed 9 = .ok (.iadd, 1) := by decide +kernel
theorem dX7_feed_10 : decode cX7_feed 10 = .ok (.sipush 900, 3) := by decide +kernel
theorem dX7_feed_13 : decode cX7_feed 13 = .ok (.if_icmp .le 5, 3) := by decide +kernel
theorem dX7_feed_16 : decode cX7_feed 16 = .ok (.iconst (-1), 1) := by decide +kernel
theorem dX7_feed_17 : decode cX7_feed 17 = .ok (.ireturn, 1) := by decide +kernel
theorem dX7_feed_18 : decode cX7_feed 18 = .ok (.aload_n 0, 1) := by decide +kernel
theorem dX7_feed_19 : decode cX7_feed 19 = .ok (.getfield 10, 3) := by decide +kernel
theorem dX7_feed_22 : decode cX7_feed 22 = .ok (.iload_n 1, 1) := by decide +kernel
theorem dX7_feed_23 : decode cX7_feed 23 = .ok (.invokevirtual 51, 3) := by decide +kernel
theorem dX7_feed_26 : decode cX7_feed 26 = .ok (.aload_n 0, 1) := by decide +kernel
theorem dX7_feed_27 : decode cX7_feed 27 = .ok (.getfield 10, 3) := by decide +kernel
theorem dX7_feed_30 : decode cX7_feed 30 = .ok (.iload_n 2, 1) := by decide +kernel
theorem dX7_feed_31 : decode cX7_feed 31 = .ok (.invokevirtual 51, 3) := by decide +kernel
theorem dX7_feed_34 : decode cX7_feed 34 = .ok (.aload_n 0, 1) := by decide +kernel
theorem dX7_feed_35 : decode cX7_feed 35 = .ok (.getfield 10, 3) := by decide +kernel
theorem dX7_feed_38 : decode cX7_feed 38 = .ok (.iload_n 3, 1) := by decide +kernel
theorem dX7_feed_39 : decode cX7_feed 39 = .ok (.invokevirtual 51, 3) := by decide +kernel
theorem dX7_feed_42 : decode cX7_feed 42 = .ok (.aload_n 0, 1) := by decide +kernel
theorem dX7_feed_43 : decode cX7_feed 43 = .ok (.getfield 10, 3) := by decide +kernel
theorem dX7_feed_46 : decode cX7_feed 46 = .ok (.iload 4, 2) := by decide +kernel
theorem dX7_feed_48 : decode cX7_feed 48 = .ok (.invokevirtual 51, 3) := by decide +kernel
theorem dX7_feed_51 : decode cX7_feed 51 = .ok (.aload_n 0, 1) := by decide +kernel
theorem dX7_feed_52 : decode cX7_feed 52 = .ok (.getfield 10, 3) := by decide +kernel
theorem dX7_feed_55 : decode cX7_feed 55 = .ok (.iload 5, 2) := by decide +kernel
theorem dX7_feed_57 : decode cX7_feed 57 = .ok (.invokevirtual 51, 3) := by decide +kernel
theorem dX7_feed_60 : decode cX7_feed 60 = .ok (.aload_n 0, 1) := by decide +kernel
theorem dX7_feed_61 : decode cX7_feed 61 = .ok (.getfield 10, 3) := by decide +kernel
theorem dX7_feed_64 : decode cX7_feed 64 = .ok (.getfield 48, 3) := by decide +kernel
theorem dX7_feed_67 : decode cX7_feed 67 = .ok (.ireturn, 1) := by decide +kernel
set_option maxRecDepth 20000 in
set_option maxHeartbeats 4000000 in
theorem vX7_feed_0 {l : Launch} {x : CX} {a0 : Nat} {x1 : Int32} {x2 : Int32} {x3 : Int32} {x4 : Int32} {x5 : Int32} {h : PH} {rc rs n0 : Nat} {Q : Option Value → PH → Prop} {X : String → PH → Prop}
    (K : ((hK h a0).1 = 7) ∧ ∃ b2, (hR h a0 0 = some b2) ∧ ((hK h b2).1 = 4) ∧ ((((hI h b2 1) + 20) ≤ 900 → ∃ (q6 : PH → Prop), CV l x mX4_put 0 0 0 [.ref b2, .int x1] h q6 ∧ ∀ (h8 : PH), q6 h8 → ((hK h8 a0).1 = 7) ∧ ∃ b10, (hR h8 a0 0 = some b10) ∧ ((hK h8 b10).1 = 4) ∧ ∃ (q12 : PH → Prop), CV l x mX4_put 0 0 0 [.ref b10, .int x2] h8 q12 ∧ ∀ (h15 : PH), q12 h15 → ((hK h15 a0).1 = 7) ∧ ∃ b17, (hR h15 a0 0 = some b17) ∧ ((hK h15 b17).1 = 4) ∧ ∃ (q19 : PH → Prop), CV l x mX4_put 0 0 0 [.ref b17, .int x3] h15 q19 ∧ ∀ (h22 : PH), q19 h22 → ((hK h22 a0).1 = 7) ∧ ∃ b24, (hR h22 a0 0 = some b24) ∧ ((hK h22 b24).1 = 4) ∧ ∃ (q26 : PH → Prop), CV l x mX4_put 0 0 0 [.ref b24, .int x4] h22 q26 ∧ ∀ (h29 : PH), q26 h29 → ((hK h29 a0).1 = 7) ∧ ∃ b31, (hR h29 a0 0 = some b31) ∧ ((hK h29 b31).1 = 4) ∧ ∃ (q33 : PH → Prop), CV l x mX4_put 0 0 0 [.ref b31, .int x5] h29 q33 ∧ ∀ (h36 : PH), q33 h36 → ((hK h36 a0).1 = 7) ∧ ∃ b38, (hR h36 a0 0 = some b38) ∧ ((hK h36 b38).1 = 4) ∧ Q (some (.int (hI h36 b38 1))) h36) ∧ (¬ ((hI h b2 1) + 20) ≤ 900 → Q (some (.int (-1))) h))) :
    Gm l x mX7_feed 1 0 [(0, .ref a0), (1, .int x1), (2, .int x2), (3, .int x3), (4, .int x4), (5, .int x5)] [] h rc rs n0 Q X := by
  refine g_aload_n dX7_feed_0 rfl 0 rfl ?_
  obtain ⟨e1, b2, e3, K⟩ := K
  refine g_get (c := 7) (k := 0) (v := .ref b2) dX7_feed_1 fc_7 (by decide) (by decide) bw_402 (congrArg pr e3) e1 ?_
  obtain ⟨e4, K⟩ := K
  refine g_get (c := 4) (k := 1) (v := .int (hI h b2 1)) dX7_feed_4 fc_4 (by decide) (by decide) bw_266 rfl e4 ?_
  refine g_bipush (v := 20) dX7_feed_7 (by decide) ?_
  refine g_iadd dX7_feed_9 ?_
  refine g_sipush (v := 900) dX7_feed_10 (by decide) ?_
  refine g_icmp_le (tgt := 18) dX7_feed_13 (by decide) (fun c5 => ?_) (fun c5 => ?_)
  · replace K := K.1 c5
    refine g_aload_n dX7_feed_18 rfl 0 rfl ?_
    refine g_get (c := 7) (k := 0) (v := .ref b2) dX7_feed_19 fc_7 (by decide) (by decide) bw_402 (congrArg pr e3) e1 ?_
    refine g_iload_n dX7_feed_22 rfl 1 rfl ?_
    obtain ⟨q6, C7, K⟩ := K
    refine g_callV (M' := mX4_put) (b := b2) (As := [.int x1]) (rest := []) (rc' := rc) (rs' := rs) dX7_feed_23 bw_428 bw_429 bw_430 bw_2 bw_431 ⟨by decide +kernel, by decide +kernel, show (parseMethodDescriptor mX4_put.1.desc).map (fun d => d.parameters.length) = some 1 by decide +kernel⟩ (by decide) (by decide) (Nat.le_of_ble_eq_true rfl) fc_4 (by decide) rfl e4 C7 (Nat.le_of_eq (Nat.add_zero _)) (Nat.le_of_eq (Nat.add_zero _)) (fun _ _ h => h) ?_
    rintro _ h8 ⟨rfl, K1⟩ -
    replace K := K h8 K1
    show Gm l x mX7_feed 1 26 [(0, .ref a0), (1, .int x1), (2, .int x2), (3, .int x3), (4, .int x4), (5, .int x5)] [] h8 rc rs n0 Q X
    refine g_aload_n dX7_feed_26 rfl 0 rfl ?_
    obtain ⟨e9, b10, e11, K⟩ := K
    refine g_get (c := 7) (k := 0) (v := .ref b10) dX7_feed_27 fc_7 (by decide) (by decide) bw_402 (congrArg pr e11) e9 ?_
    refine g_iload_n dX7_feed_30 rfl 2 rfl ?_
    obtain ⟨e14, K⟩ := K
    obtain ⟨q12, C13, K⟩ := K
    refine g_callV (M' := mX4_put) (b := b10) (As := [.int x2]) (rest := []) (rc' := rc) (rs' := rs) dX7_feed_31 bw_428 bw_429 bw_430 bw_2 bw_431 ⟨by decide +kernel, by decide +kernel, show (parseMethodDescriptor mX4_put.1.desc).map (fun d => d.parameters.length) = some 1 by decide +kernel⟩ (by decide) (by decide) (Nat.le_of_ble_eq_true rfl) fc_4 (by decide) rfl e14 C13 (Nat.le_of_eq (Nat.add_zero _)) (Nat.le_of_eq (Nat.add_zero _)) (fun _ _ h => h) ?_
    rintro _ h15 ⟨rfl, K1⟩ -
    replace K := K h15 K1
    show Gm l x mX7_feed 1 34 [(0, .ref a0), (1, .int x1), (2, .int x2), (3, .int x3), (4, .int x4), (5, .int x5)] [] h15 rc rs n0 Q X
    refine g_aload_n dX7_feed_34 rfl 0 rfl ?_
    obtain ⟨e16, b17, e18, K⟩ := K
    refine g_get (c := 7) (k := 0) (v := .ref b17) dX7_feed_35 fc_7 (by decide) (by decide) bw_402 (congrArg pr e18) e16 ?_
    refine g_iload_n dX7_feed_38 rfl 3 rfl ?_
    obtain ⟨e21, K⟩ := K
    obtain ⟨q19, C20, K⟩ := K
    refine g_callV (M' := mX4_put) (b := b17) (As := [.int x3]) (rest := []) (rc' := rc) (rs' := rs) dX7_feed_39 bw_428 bw_429 bw_430 bw_2 bw_431 ⟨by decide +kernel, by decide +kernel, show (parseMethodDescriptor mX4_put.1.desc).map (fun d => d.parameters.length) = some 1 by decide +kernel⟩ (by decide) (by decide) (Nat.le_of_ble_eq_true rfl) fc_4 (by decide) rfl e21 C20 (Nat.le_of_eq (Nat.add_zero _)) (Nat.le_of_eq (Nat.add_zero _)) (fun _ _ h => h) ?_
    rintro _ h22 ⟨rfl, K1⟩ -
    replace K := K h22 K1
    show Gm l x mX7_feed 1 42 [(0, .ref a0), (1, .int x1), (2, .int x2), (3, .int x3), (4, .int x4), (5, .int x5)] [] h22 rc rs n0 Q X
    refine g_aload_n dX7_feed_42 rfl 0 rfl ?_
    obtain ⟨e23, b24, e25, K⟩ := K
    refine g_get (c := 7) (k := 0) (v := .ref b24) dX7_feed_43 fc_7 (by decide) (by decide) bw_402 (congrArg pr e25) e23 ?_
    refine g_iload dX7_feed_46 4 rfl ?_
    obtain ⟨e28, K⟩ := K
    obtain ⟨q26, C27, K⟩ := K
    refine g_callV (M' := mX4_put) (b := b24) (As := [.int x4]) (rest := []) (rc' := rc) (rs' := rs) dX7_feed_48 bw_428 bw_429 bw_430 bw_2 bw_431 ⟨by decide +kernel, by decide +kernel, show (parseMethodDescriptor mX4_put.1.desc).map (fun d => d.parameters.length) = some 1 by decide +kernel⟩ (by decide) (by decide) (Nat.le_of_ble_eq_true rfl) fc_4 (by decide) rfl e28 C27 (Nat.le_of_eq (Nat.add_zero _)) (Nat.le_of_eq (Nat.add_zero _)) (fun _ _ h => h) ?_
    rintro _ h29 ⟨rfl, K1⟩ -
    replace K := K h29 K1
    show Gm l x mX7_feed 1 51 [(0, .ref a0), (1, .int x1), (2, .int x2), (3, .int x3), (4, .int x4), (5, .int x5)] [] h29 rc rs n0 Q X
    refine g_aload_n dX7_feed_51 rfl 0 rfl ?_
    obtain ⟨e30, b31, e32, K⟩ := K
    refine g_get (c := 7) (k := 0) (v := .ref b31) dX7_feed_52 fc_7 (by decide) (by decide) bw_402 (congrArg pr e32) e30 ?_
    refine g_iload dX7_feed_55 5 rfl ?_
    obtain ⟨e35, K⟩ := K
    obtain ⟨q33, C34, K⟩ := K
    refine g_callV (M' := mX4_put) (b := b31) (As := [.int x5]) (rest := []) (rc' := rc) (rs' := rs) dX7_feed_57 bw_428 bw_429 bw_430 bw_2 bw_431 ⟨by decide +kernel, by decide +kernel, show (parseMethodDescriptor mX4_put.1.desc).map (fun d => d.parameters.length) = some 1 by decide +kernel⟩ (by decide) (by decide) (Nat.le_of_ble_eq_true rfl) fc_4 (by decide) rfl e35 C34 (Nat.le_of_eq (Nat.add_zero _)) (Nat.le_of_eq (Nat.add_zero _)) (fun _ _ h => h) ?_
    rintro _ h36 ⟨rfl, K1⟩ -
    replace K := K h36 K1
    show Gm l x mX7_feed 1 60 [(0, .ref a0), (1, .int x1), (2, .int x2), (3, .int x3), (4, .int x4), (5, .int x5)] [] h36 rc rs n0 Q X
    refine g_aload_n dX7_feed_60 rfl 0 rfl ?_
    obtain ⟨e37, b38, e39, K⟩ := K
    refine g_get (c := 7) (k := 0) (v := .ref b38) dX7_feed_61 fc_7 (by decide) (by decide) bw_402 (congrArg pr e39) e37 ?_
    obtain ⟨e40, K⟩ := K
    refine g_get (c := 4) (k := 1) (v := .int (hI h36 b38 1)) dX7_feed_64 fc_4 (by decide) (by decide) bw_266 rfl e40 ?_
    exact g_iret dX7_feed_67 rfl K
  · replace K := K.2 c5
    refine g_iconst (v := (-1)) dX7_feed_16 (by decide) ?_
    exact g_iret dX7_feed_17 rfl K
theorem dX7_note_0 : decode cX7_note 0 = .ok (.aload_n 0, 1) := by decide +kernel
theorem dX7_note_1 : decode cX7_note 1 = .ok (.getfield 37, 3) := by decide +kernel
theorem dX7_note_4 : decode cX7_note 4 = .ok (.getfield 159, 3) := by decide +kernel
theorem dX7_note_7 : decode cX7_note 7 = .ok (.bipush 8, 2) := by decide +kernel
theorem dX7_note_9 : decode cX7_note 9 = .ok (.if_icmp .ge 22, 3) := by decide +kernel
theorem dX7_note_12 : decode cX7_note 12 = .ok (.aload_n 0, 1) := by decide +kernel
theorem dX7_note_13 : decode cX7_note 13 = .ok (.iload_n 1, 1) := by decide +kernel
theorem dX7_note_14 : decode cX7_note 14 = .ok (.invokevirtual 348, 3) := by decide +kernel
theorem dX7_note_17 : decode cX7_note 17 = .ok (.ifCond .eq 14, 3) := by decide +kernel
theorem dX7_note_20 : decode cX7_note 20 = .ok (.iload_n 2, 1) := by decide +kernel
theorem dX7_note_21 : decode cX7_note 21 = .ok (.ifCond .lt 10, 3) := by decide +kernel
theorem dX7_note_24 : decode cX7_note 24 = .ok (.iload_n 2, 1) := by decide +kernel
theorem dX7_note_25 : decode cX7_note 25 = .ok (.sipush 200, 3) := by decide +kernel
theorem dX7_note_28 : decode cX7_note 28 = .ok (.if_icmp .lt 18, 3) := by decide +kernel
theorem dX7_note_31 : decode cX7_note 31 = .ok (.aload_n 0, 1) := by decide +kernel
theorem dX7_note_32 : decode cX7_note 32 = .ok (.getfield 37, 3) := by decide +kernel
theorem dX7_note_35 : decode cX7_note 35 = .ok (.getfield 69, 3) := by decide +kernel
theorem dX7_note_38 : decode cX7_note 38 = .ok (.iconst 2, 1) := by decide +kernel
theorem dX7_note_39 : decode cX7_note 39 = .ok (.dup2, 1) := by decide +kernel
theorem dX7_note_40 : decode cX7_note 40 = .ok (.iaload, 1) := by decide +kernel
theorem dX7_note_41 : decode cX7_note 41 = .ok (.iconst 1, 1) := by decide +kernel
theorem dX7_note_42 : decode cX7_note 42 = .ok (.iadd, 1) := by decide +kernel
theorem dX7_note_43 : decode cX7_note 43 = .ok (.iastore, 1) := by decide +kernel
theorem dX7_note_44 : decode cX7_note 44 = .ok (.iconst (-1), 1) := by decide +kernel
theorem dX7_note_45 : decode cX7_note 45 = .ok (.ireturn, 1) := by decide +kernel
theorem dX7_note_46 : decode cX7_note 46 = .ok (.aload_n 0, 1) := by decide +kernel
theorem dX7_note_47 : decode cX7_note 47 = .ok (.getfield 37, 3) := by decide +kernel
theorem dX7_note_50 : decode cX7_note 50 = .ok (.getfield 364, 3) := by decide +kernel
theorem dX7_note_53 : decode cX7_note 53 = .ok (.aload_n 0, 1) := by decide +kernel
theorem dX7_note_54 : decode cX7_note 54 = .ok (.getfield 37, 3) := by decide +kernel
theorem dX7_note_57 : decode cX7_note 57 = .ok (.getfield 159, 3) := by decide +kernel
theorem dX7_note_60 : decode cX7_note 60 = .ok (.iload_n 1, 1) := by decide +kernel
theorem dX7_note_61 : decode cX7_note 61 = .ok (.iastore, 1) := by decide +kernel
theorem dX7_note_62 : decode cX7_note 62 = .ok (.aload_n 0, 1) := by decide +kernel
theorem dX7_note_63 : decode cX7_note 63 = .ok (.getfield 37, 3) := by decide +kernel
theorem dX7_note_66 : decode cX7_note 66 = .ok (.getfield 367, 3) := by decide +kernel
theorem dX7_note_69 : decode cX7_note 69 = .ok (.aload_n 0, 1) := by decide +kernel
theorem dX7_note_70 : decode cX7_note 70 = .ok (.getfield 37, 3) := by decide +kernel
theorem dX7_note_73 : decode cX7_note 73 = .ok (.getfield 159, 3) := by decide +kernel
theorem dX7_note_76 : decode cX7_note 76 = .ok (.iload_n 2, 1) := by decide +kernel
theorem dX7_note_77 : decode cX7_note 77 = .ok (.iastore, 1) := by decide +kernel
theorem dX7_note_78 : decode cX7_note 78 = .ok (.aload_n 0, 1) := by decide +kernel
theorem dX7_note_79 : decode cX7_note 79 = .ok (.getfield 37, 3) := by decide +kernel
theorem dX7_note_82 : decode cX7_note 82 = .ok (.dup, 1) := by decide +kernel
theorem dX7_note_83 : decode cX7_note 83 = .ok (.getfield 159, 3) := by decide +kernel
theorem dX7_note_86 : decode cX7_note 86 = .ok (.iconst 1, 1) := by decide +kernel
theorem dX7_note_87 : decode cX7_note 87 = .ok (.iadd, 1) := by decide +kernel
theorem dX7_note_88 : decode cX7_note 88 = .ok (.putfield 159, 3) := by decide +kernel
theorem dX7_note_91 : decode cX7_note 91 = .ok (.aload_n 0, 1) := by decide +kernel
theorem dX7_note_92 : decode cX7_note 92 = .ok (.getfield 37, 3) := by decide +kernel
theorem dX7_note_95 : decode cX7_note 95 = .ok (.getfield 159, 3) := by decide +kernel
theorem dX7_note_98 : decode cX7_note 98 = .ok (.ireturn, 1) := by decide +kernel
set_option maxRecDepth 20000 in
set_option maxHeartbeats 4000000 in
theorem vX7_note_0 {l : Launch} {x : CX} {a0 : Nat} {x1 : Int32} {x2 : Int32} {h : PH} {rc rs n0 : Nat} {Q : Option Value → PH → Prop} {X : String → PH → Prop}
    (K : ((hK h a0).1 = 7) ∧ ∃ b2, (hR h a0 4 = some b2) ∧ ((hK h b2).1 = 3) ∧ ((8 ≤ (hI h b2 4) → ∃ b6, (hR h b2 5 = some b6) ∧ ((hK h b6).1 = 100) ∧ (vp_in 2 (hK h b6).2) ∧ (vp_in 2 (hK h b6).2) ∧ Q (some (.int (-1))) (sI h b6 (Int32.toNatClampNeg 2) ((hI h b6 (Int32.toNatClampNeg 2)) + 1))) ∧ (¬ 8 ≤ (hI h b2 4) → ∃ (q11 : Int32 → PH → Prop), CI l x mX7_isTold 0 0 0 [.ref a0, .int x1] h q11 ∧ ∀ (r14 : Int32) (h13 : PH), q11 r14 h13 → ((r14 = 0 → ((hK h13 a0).1 = 7) ∧ ∃ b17, (hR h13 a0 4 = some b17) ∧ ((hK h13 b17).1 = 3) ∧ ∃ b20, (hR h13 b17 5 = some b20) ∧ ((hK h13 b20).1 = 100) ∧ (vp_in 2 (hK h13 b20).2) ∧ (vp_in 2 (hK h13 b20).2) ∧ Q (some (.int (-1))) (sI h13 b20 (Int32.toNatClampNeg 2) ((hI h13 b20 (Int32.toNatClampNeg 2)) + 1))) ∧ (¬ r14 = 0 → ((x2 < 0 → ((hK h13 a0).1 = 7) ∧ ∃ b27, (hR h13 a0 4 = some b27) ∧ ((hK h13 b27).1 = 3) ∧ ∃ b30, (hR h13 b27 5 = some b30) ∧ ((hK h13 b30).1 = 100) ∧ (vp_in 2 (hK h13 b30).2) ∧ (vp_in 2 (hK h13 b30).2) ∧ Q (some (.int (-1))) (sI h13 b30 (Int32.toNatClampNeg 2) ((hI h13 b30 (Int32.toNatClampNeg 2)) + 1))) ∧ (¬ x2 < 0 → ((x2 < 200 → ((hK h13 a0).1 = 7) ∧ ∃ b37, (hR h13 a0 4 = some b37) ∧ ((hK h13 b37).1 = 3) ∧ ∃ b40, (hR h13 b37 2 = some b40) ∧ ((hK h13 b40).1 = 100) ∧ (vp_in (hI h13 b37 4) (hK h13 b40).2) ∧ ∃ b44, (hR h13 b37 3 = some b44) ∧ ((hK h13 b44).1 = 100) ∧ (vp_in (hI (sI h13 b40 (hI h13 b37 4).toNatClampNeg x1) b37 4) (hK h13 b44).2) ∧ Q (some (.int (hI (sI (sI (sI h13 b40 (hI h13 b37 4).toNatClampNeg x1) b44 (hI (sI h13 b40 (hI h13 b37 4).toNatClampNeg x1) b37 4).toNatClampNeg x2) b37 4 ((hI (sI (sI h13 b40 (hI h13 b37 4).toNatClampNeg x1) b44 (hI (sI h13 b40 (hI h13 b37 4).toNatClampNeg x1) b37 4).toNatClampNeg x2) b37 4) + 1)) b37 4))) (sI (sI (sI h13 b40 (hI h13 b37 4).toNatClampNeg x1) b44 (hI (sI h13 b40 (hI h13 b37 4).toNatClampNeg x1) b37 4).toNatClampNeg x2) b37 4 ((hI (sI (sI h13 b40 (hI h13 b37 4).toNatClampNeg x1) b44 (hI (sI h13 b40 (hI h13 b37 4).toNatClampNeg x1) b37 4).toNatClampNeg x2) b37 4) + 1))) ∧ (¬ x2 < 200 → ((hK h13 a0).1 = 7) ∧ ∃ b49, (hR h13 a0 4 = some b49) ∧ ((hK h13 b49).1 = 3) ∧ ∃ b52, (hR h13 b49 5 = some b52) ∧ ((hK h13 b52).1 = 100) ∧ (vp_in 2 (hK h13 b52).2) ∧ (vp_in 2 (hK h13 b52).2) ∧ Q (some (.int (-1))) (sI h13 b52 (Int32.toNatClampNeg 2) ((hI h13 b52 (Int32.toNatClampNeg 2)) + 1))))))))))) :
    Gm l x mX7_note 1 0 [(0, .ref a0), (1, .int x1), (2, .int x2)] [] h rc rs n0 Q X := by
  refine g_aload_n dX7_note_0 rfl 0 rfl ?_
  obtain ⟨e1, b2, e3, K⟩ := K
  refine g_get (c := 7) (k := 4) (v := .ref b2) dX7_note_1 fc_7 (by decide) (by decide) bw_406 (congrArg pr e3) e1 ?_
  obtain ⟨e4, K⟩ := K
  refine g_get (c := 3) (k := 4) (v := .int (hI h b2 4)) dX7_note_4 fc_3 (by decide) (by decide) bw_386 rfl e4 ?_
  refine g_bipush (v := 8) dX7_note_7 (by decide) ?_
  refine g_icmp_ge (tgt := 31) dX7_note_9 (by decide) (fun c5 => ?_) (fun c5 => ?_)
  · replace K := K.1 c5
    refine g_aload_n dX7_note_31 rfl 0 rfl ?_
    refine g_get (c := 7) (k := 4) (v := .ref b2) dX7_note_32 fc_7 (by decide) (by decide) bw_406 (congrArg pr e3) e1 ?_
    obtain ⟨b6, e7, K⟩ := K
    refine g_get (c := 3) (k := 5) (v := .ref b6) dX7_note_35 fc_3 (by decide) (by decide) bw_388 (congrArg pr e7) e4 ?_
    refine g_iconst (v := 2) dX7_note_38 (by decide) ?_
    refine g_dup2 dX7_note_39 rfl rfl ?_
    obtain ⟨e8, e9, K⟩ := K
    refine g_iald dX7_note_40 e8 e9 ?_
    refine g_iconst (v := 1) dX7_note_41 (by decide) ?_
    refine g_iadd dX7_note_42 ?_
    obtain ⟨e10, K⟩ := K
    refine g_iast dX7_note_43 e8 e10 ?_
    refine g_iconst (v := (-1)) dX7_note_44 (by decide) ?_
    exact g_iret dX7_note_45 rfl K
  · replace K := K.2 c5
    refine g_aload_n dX7_note_12 rfl 0 rfl ?_
    refine g_iload_n dX7_note_13 rfl 1 rfl ?_
    obtain ⟨q11, C12, K⟩ := K
    refine g_callV (M' := mX7_isTold) (b := a0) (As := [.int x1]) (rest := []) (rc' := rc) (rs' := rs) dX7_note_14 bw_656 bw_658 bs_19 bw_1 bw_659 ⟨by decide +kernel, by decide +kernel, show (parseMethodDescriptor mX7_isTold.1.desc).map (fun d => d.parameters.length) = some 1 by decide +kernel⟩ (by decide) (by decide) (Nat.le_of_ble_eq_true rfl) fc_7 (by decide) rfl e1 C12 (Nat.le_of_eq (Nat.add_zero _)) (Nat.le_of_eq (Nat.add_zero _)) (fun _ _ h => h) ?_
    rintro _ h13 ⟨r14, rfl, K1⟩ -
    replace K := K r14 h13 K1
    show Gm l x mX7_note 1 17 [(0, .ref a0), (1, .int x1), (2, .int x2)] [.int r14] h13 rc rs n0 Q X
    refine g_if_eq (tgt := 31) dX7_note_17 (by decide) (fun c15 => ?_) (fun c15 => ?_)
    · replace K := K.1 c15
      refine g_aload_n dX7_note_31 rfl 0 rfl ?_
      obtain ⟨e16, b17, e18, K⟩ := K
      refine g_get (c := 7) (k := 4) (v := .ref b17) dX7_note_32 fc_7 (by decide) (by decide) bw_406 (congrArg pr e18) e16 ?_
      obtain ⟨e19, b20, e21, K⟩ := K
      refine g_get (c := 3) (k := 5) (v := .ref b20) dX7_note_35 fc_3 (by decide) (by decide) bw_388 (congrArg pr e21) e19 ?_
      refine g_iconst (v := 2) dX7_note_38 (by decide) ?_
      refine g_dup2 dX7_note_39 rfl rfl ?_
      obtain ⟨e22, e23, K⟩ := K
      refine g_iald dX7_note_40 e22 e23 ?_
      refine g_iconst (v := 1) dX7_note_41 (by decide) ?_
      refine g_iadd dX7_note_42 ?_
      obtain ⟨e24, K⟩ := K
      refine g_iast dX7_note_43 e22 e24 ?_
      refine g_iconst (v := (-1)) dX7_note_44 (by decide) ?_
      exact g_iret dX7_note_45 rfl K
    · replace K := K.2 c15
      refine g_iload_n dX7_note_20 rfl 2 rfl ?_
      refine g_if_lt (tgt := 31) dX7_note_21 (by decide) (fun c25 => ?_) (fun c25 => ?_)
      · replace K := K.1 c25
        refine g_aload_n dX7_note_31 rfl 0 rfl ?_
        obtain ⟨e26, b27, e28, K⟩ := K
        refine g_get (c := 7) (k := 4) (v := .ref b27) dX7_note_32 fc_7 (by decide) (by decide) bw_406 (congrArg pr e28) e26 ?_
        obtain ⟨e29, b30, e31, K⟩ := K
        refine g_get (c := 3) (k := 5) (v := .ref b30) dX7_note_35 fc_3 (by decide) (by decide) bw_388 (congrArg pr e31) e29 ?_
        refine g_iconst (v := 2) dX7_note_38 (by decide) ?_
        refine g_dup2 dX7_note_39 rfl rfl ?_
        obtain ⟨e32, e33, K⟩ := K
        refine g_iald dX7_note_40 e32 e33 ?_
        refine g_iconst (v := 1) dX7_note_41 (by decide) ?_
        refine g_iadd dX7_note_42 ?_
        obtain ⟨e34, K⟩ := K
        refine g_iast dX7_note_43 e32 e34 ?_
        refine g_iconst (v := (-1)) dX7_note_44 (by decide) ?_
        exact g_iret dX7_note_45 rfl K
      · replace K := K.2 c25
        refine g_iload_n dX7_note_24 rfl 2 rfl ?_
        refine g_sipush (v := 200) dX7_note_25 (by decide) ?_
        refine g_icmp_lt (tgt := 46) dX7_note_28 (by decide) (fun c35 => ?_) (fun c35 => ?_)
        · replace K := K.1 c35
          refine g_aload_n dX7_note_46 rfl 0 rfl ?_
          obtain ⟨e36, b37, e38, K⟩ := K
          refine g_get (c := 7) (k := 4) (v := .ref b37) dX7_note_47 fc_7 (by decide) (by decide) bw_406 (congrArg pr e38) e36 ?_
          obtain ⟨e39, b40, e41, K⟩ := K
          refine g_get (c := 3) (k := 2) (v := .ref b40) dX7_note_50 fc_3 (by decide) (by decide) bw_382 (congrArg pr e41) e39 ?_
          refine g_aload_n dX7_note_53 rfl 0 rfl ?_
          refine g_get (c := 7) (k := 4) (v := .ref b37) dX7_note_54 fc_7 (by decide) (by decide) bw_406 (congrArg pr e38) e36 ?_
          refine g_get (c := 3) (k := 4) (v := .int (hI h13 b37 4)) dX7_note_57 fc_3 (by decide) (by decide) bw_386 rfl e39 ?_
          refine g_iload_n dX7_note_60 rfl 1 rfl ?_
          obtain ⟨e42, e43, K⟩ := K
          refine g_iast dX7_note_61 e42 e43 ?_
          refine g_aload_n dX7_note_62 rfl 0 rfl ?_
          refine g_get (c := 7) (k := 4) (v := .ref b37) dX7_note_63 fc_7 (by decide) (by decide) bw_406 (congrArg pr (krI e38)) (kkI e36) ?_
          obtain ⟨b44, e45, K⟩ := K
          refine g_get (c := 3) (k := 3) (v := .ref b44) dX7_note_66 fc_3 (by decide) (by decide) bw_384 (congrArg pr (krI e45)) (kkI e39) ?_
          refine g_aload_n dX7_note_69 rfl 0 rfl ?_
          refine g_get (c := 7) (k := 4) (v := .ref b37) dX7_note_70 fc_7 (by decide) (by decide) bw_406 (congrArg pr (krI e38)) (kkI e36) ?_
          refine g_get (c := 3) (k := 4) (v := .int (hI (sI h13 b40 (hI h13 b37 4).toNatClampNeg x1) b37 4)) dX7_note_73 fc_3 (by decide) (by decide) bw_386 rfl (kkI e39) ?_
          refine g_iload_n dX7_note_76 rfl 2 rfl ?_
          obtain ⟨e46, e47, K⟩ := K
          refine g_iast dX7_note_77 (kkI e46) (kvI e47) ?_
          refine g_aload_n dX7_note_78 rfl 0 rfl ?_
          refine g_get (c := 7) (k := 4) (v := .ref b37) dX7_note_79 fc_7 (by decide) (by decide) bw_406 (congrArg pr (krI (krI e38))) (kkI (kkI e36)) ?_
          refine g_dup dX7_note_82 rfl ?_
          refine g_get (c := 3) (k := 4) (v := .int (hI (sI (sI h13 b40 (hI h13 b37 4).toNatClampNeg x1) b44 (hI (sI h13 b40 (hI h13 b37 4).toNatClampNeg x1) b37 4).toNatClampNeg x2) b37 4)) dX7_note_83 fc_3 (by decide) (by decide) bw_386 rfl (kkI (kkI e39)) ?_
          refine g_iconst (v := 1) dX7_note_86 (by decide) ?_
          refine g_iadd dX7_note_87 ?_
          refine g_puti (c := 3) (k := 4) dX7_note_88 fc_3 (by decide) (by decide) bw_386 (Or.inl rfl) rfl (kkI (kkI e39)) ?_
          refine g_aload_n dX7_note_91 rfl 0 rfl ?_
          refine g_get (c := 7) (k := 4) (v := .ref b37) dX7_note_92 fc_7 (by decide) (by decide) bw_406 (congrArg pr (krI (krI (krI e38)))) (kkI (kkI (kkI e36))) ?_
          refine g_get (c := 3) (k := 4) (v := .int (hI (sI (sI (sI h13 b40 (hI h13 b37 4).toNatClampNeg x1) b44 (hI (sI h13 b40 (hI h13 b37 4).toNatClampNeg x1) b37 4).toNatClampNeg x2) b37 4 ((hI (sI (sI h13 b40 (hI h13 b37 4).toNatClampNeg x1) b44 (hI (sI h13 b40 (hI h13 b37 4).toNatClampNeg x1) b37 4).toNatClampNeg x2) b37 4) + 1)) b37 4)) dX7_note_95 fc_3 (by decide) (by decide) bw_386 rfl (kkI (kkI (kkI e39))) ?_
          exact g_iret dX7_note_98 rfl K
        · replace K := K.2 c35
          refine g_aload_n dX7_note_31 rfl 0 rfl ?_
          obtain ⟨e48, b49, e50, K⟩ := K
          refine g_get (c := 7) (k := 4) (v := .ref b49) dX7_note_32 fc_7 (by decide) (by decide) bw_406 (congrArg pr e50) e48 ?_
          obtain ⟨e51, b52, e53, K⟩ := K
          refine g_get (c := 3) (k := 5) (v := .ref b52) dX7_note_35 fc_3 (by decide) (by decide) bw_388 (congrArg pr e53) e51 ?_
          refine g_iconst (v := 2) dX7_note_38 (by decide) ?_
          refine g_dup2 dX7_note_39 rfl rfl ?_
          obtain ⟨e54, e55, K⟩ := K
          refine g_iald dX7_note_40 e54 e55 ?_
          refine g_iconst (v := 1) dX7_note_41 (by decide) ?_
          refine g_iadd dX7_note_42 ?_
          obtain ⟨e56, K⟩ := K
          refine g_iast dX7_note_43 e54 e56 ?_
          refine g_iconst (v := (-1)) dX7_note_44 (by decide) ?_
          exact g_iret dX7_note_45 rfl K
theorem dX7_init_0 : decode cX7_init 0 = .ok (.aload_n 0, 1) := by decide +kernel
theorem dX7_init_1 : decode cX7_init 1 = .ok (.invokespecial 1, 3) := by decide +kernel
theorem dX7_init_4 : decode cX7_init 4 = .ok (.aload_n 0, 1) := by decide +kernel
theorem dX7_init_5 : decode cX7_init 5 = .ok (.new 7, 3) := by decide +kernel
theorem dX7_init_8 : decode cX7_init 8 = .ok (.dup, 1) := by decide +kernel
theorem dX7_init_9 : decode cX7_init 9 = .ok (.invokespecial 9, 3) := by decide +kernel
theorem dX7_init_12 : decode cX7_init 12 = .ok (.putfield 10, 3) := by decide +kernel
theorem dX7_init_15 : decode cX7_init 15 = .ok (.aload_n 0, 1) := by decide +kernel
theorem dX7_init_16 : decode cX7_init 16 = .ok (.iconst (-1), 1) := by decide +kernel
theorem dX7_init_17 : decode cX7_init 17 = .ok (.putfield 16, 3) := by decide +kernel
theorem dX7_init_20 : decode cX7_init 20 = .ok (.aload_n 0, 1) := by decide +kernel
theorem dX7_init_21 : decode cX7_init 21 = .ok (.new 20, 3) := by decide +kernel
theorem dX7_init_24 : decode cX7_init 24 = .ok (.dup, 1) := by decide +kernel
theorem dX7_init_25 : decode cX7_init 25 = .ok (.invokespecial 22, 3) := by decide +kernel
theorem dX7_init_28 : decode cX7_init 28 = .ok (.putfield 23, 3) := by decide +kernel
theorem dX7_init_31 : decode cX7_init 31 = .ok (.aload_n 0, 1) := by decide +kernel
theorem dX7_init_32 : decode cX7_init 32 = .ok (.new 27, 3) := by decide +kernel
theorem dX7_init_35 : decode cX7_init 35 = .ok (.dup, 1) := by decide +kernel
theorem dX7_init_36 : decode cX7_init 36 = .ok (.invokespecial 29, 3) := by decide +kernel
theorem dX7_init_39 : decode cX7_init 39 = .ok (.putfield 30, 3) := by decide +kernel
theorem dX7_init_42 : decode cX7_init 42 = .ok (.aload_n 0, 1) := by decide +kernel
theorem dX7_init_43 : decode cX7_init 43 = .ok (.new 34, 3) := by decide +kernel
theorem dX7_init_46 : decode cX7_init 46 = .ok (.dup, 1) := by decide +kernel
theorem dX7_init_47 : decode cX7_init 47 = .ok (.invokespecial 36, 3) := by decide +kernel
theorem dX7_init_50 : decode cX7_init 50 = .ok (.putfield 37, 3) := by decide +kernel
theorem dX7_init_53 : decode cX7_init 53 = .ok (.aload_n 0, 1) := by decide +kernel
theorem dX7_init_54 : decode cX7_init 54 = .ok (.aconst_null, 1) := by decide +kernel
theorem dX7_init_55 : decode cX7_init 55 = .ok (.putfield 41, 3) := by decide +kernel
theorem dX7_init_58 : decode cX7_init 58 = .ok (.aload_n 0, 1) := by decide +kernel
theorem dX7_init_59 : decode cX7_init 59 = .ok (.iconst 0, 1) := by decide +kernel
theorem dX7_init_60 : decode cX7_init 60 = .ok (.putfield 44, 3) := by decide +kernel
theorem dX7_init_63 : decode cX7_init 63 = .ok (.return_, 1) := by decide +kernel
set_option maxRecDepth 20000 in
set_option maxHeartbeats 4000000 in
theorem vX7_init_0 {l : Launch} {x : CX} {a0 : Nat} {h : PH} {rc rs n0 : Nat} {Q : Option Value → PH → Prop} {X : String → PH → Prop}
    (K : (1 ≤ rc) ∧ (12 ≤ rs) ∧ ∀ (h3 : PH), h3 = (nw h (4, 0)) → (NestOk x RX7 9 yX4_init "LiftBank") ∧ ∃ (mc6 ms7 : Nat) (q4 : PH → Prop), mc6 ≤ (rc - 1) ∧ ms7 ≤ (rs - 12) ∧ CV l x mX4_init 3 mc6 ms7 [.ref (hN h)] h3 q4 ∧ ∀ (h8 : PH), q4 h8 → ((hK h8 a0).1 = 7) ∧ (1 ≤ ((rc - 1) - mc6)) ∧ (16 ≤ ((rs - 12) - ms7)) ∧ ∀ (h12 : PH), h12 = (nw (sI (sR h8 a0 0 (some (hN h))) a0 1 (-1)) (1, 0)) → ∃ (mc15 ms16 : Nat) (q13 : PH → Prop), mc15 ≤ (((rc - 1) - mc6) - 1) ∧ ms16 ≤ (((rs - 12) - ms7) - 16) ∧ CV l x mX1_init 2 mc15 ms16 [.ref (hN (sI (sR h8 a0 0 (some (hN h))) a0 1 (-1)))] h12 q13 ∧ ∀ (h17 : PH), q13 h17 → ((hK h17 a0).1 = 7) ∧ (1 ≤ ((((rc - 1) - mc6) - 1) - mc15)) ∧ (9 ≤ ((((rs - 12) - ms7) - 16) - ms16)) ∧ ∀ (h21 : PH), h21 = (nw (sR h17 a0 2 (some (hN (sI (sR h8 a0 0 (some (hN h))) a0 1 (-1))))) (5, 0)) → (NestOk x RX7 29 yX5_init "LiftBank") ∧ ∃ (mc24 ms25 : Nat) (q22 : PH → Prop), mc24 ≤ (((((rc - 1) - mc6) - 1) - mc15) - 1) ∧ ms25 ≤ (((((rs - 12) - ms7) - 16) - ms16) - 9) ∧ CV l x mX5_init 3 mc24 ms25 [.ref (hN (sR h17 a0 2 (some (hN (sI (sR h8 a0 0 (some (hN h))) a0 1 (-1))))))] h21 q22 ∧ ∀ (h26 : PH), q22 h26 → ((hK h26 a0).1 = 7) ∧ (1 ≤ ((((((rc - 1) - mc6) - 1) - mc15) - 1) - mc24)) ∧ (6 ≤ ((((((rs - 12) - ms7) - 16) - ms16) - 9) - ms25)) ∧ ∀ (h30 : PH), h30 = (nw (sR h26 a0 3 (some (hN (sR h17 a0 2 (some (hN (sI (sR h8 a0 0 (some (hN h))) a0 1 (-1)))))))) (3, 0)) → (NestOk x RX7 36 yX3_init "LiftBank") ∧ ∃ (mc33 ms34 : Nat) (q31 : PH → Prop), mc33 ≤ (((((((rc - 1) - mc6) - 1) - mc15) - 1) - mc24) - 1) ∧ ms34 ≤ (((((((rs - 12) - ms7) - 16) - ms16) - 9) - ms25) - 6) ∧ CV l x mX3_init 3 mc33 ms34 [.ref (hN (sR h26 a0 3 (some (hN (sR h17 a0 2 (some (hN (sI (sR h8 a0 0 (some (hN h))) a0 1 (-1)))))))))] h30 q31 ∧ ∀ (h35 : PH), q31 h35 → ((hK h35 a0).1 = 7) ∧ Q none (sI (sR (sR h35 a0 4 (some (hN (sR h26 a0 3 (some (hN (sR h17 a0 2 (some (hN (sI (sR h8 a0 0 (some (hN h))) a0 1 (-1))))))))))) a0 5 none) a0 6 0)) :
    Gm l x mX7_init 4 0 [(0, .ref a0)] [] h rc rs n0 Q X := by
  refine g_aload_n dX7_init_0 rfl 0 rfl ?_
  refine g_objInit dX7_init_1 bw_29 bw_30 bw_31 (by decide) (Nat.le_of_ble_eq_true rfl) ?_
  refine g_aload_n dX7_init_4 rfl 0 rfl ?_
  obtain ⟨e1, e2, K⟩ := K
  refine g_new (c := 4) (rc' := (rc - 1)) (rs' := (rs - 12)) dX7_init_5 fc_4 (by decide) (by decide) bw_32 bw_33 bw_2 (by omega) (show (rs - 12) + 12 ≤ rs by omega) ?_
  generalize e51 : (nw h (4, 0)) = h3
  replace K := K h3 e51.symm
  refine g_dup dX7_init_8 rfl ?_
  obtain ⟨z50, K⟩ := K
  obtain ⟨mc6, ms7, q4, e48, e49, C5, K⟩ := K
  refine g_callIN (M' := mX4_init) (b := (hN h)) (As := []) (rest := [.ref (hN h), .ref a0]) (rc' := ((rc - 1) - mc6)) (rs' := ((rs - 12) - ms7)) dX7_init_9 z50 bw_35 rfl rfl bw_2 bw_36 ⟨by decide +kernel, by decide +kernel, show (parseMethodDescriptor mX4_init.1.desc).map (fun d => d.parameters.length) = some 0 by decide +kernel⟩ (by decide) (by decide) (Nat.le_of_ble_eq_true rfl) C5 (by omega) (by omega) (fun _ _ h => h) ?_
  rintro _ h8 ⟨rfl, K1⟩ -
  replace K := K h8 K1
  show Gm l x mX7_init 4 12 [(0, .ref a0)] [.ref (hN h), .ref a0] h8 ((rc - 1) - mc6) ((rs - 12) - ms7) n0 Q X
  obtain ⟨e9, K⟩ := K
  refine g_putr (c := 7) (k := 0) dX7_init_12 fc_7 (by decide) (by decide) bw_402 (Or.inr ⟨rfl, rfl, rfl⟩) (Or.inl ⟨_, rfl⟩) e9 ?_
  refine g_aload_n dX7_init_15 rfl 0 rfl ?_
  refine g_iconst (v := (-1)) dX7_init_16 (by decide) ?_
  refine g_puti (c := 7) (k := 1) dX7_init_17 fc_7 (by decide) (by decide) bw_403 (Or.inl rfl) rfl (kkR e9) ?_
  refine g_aload_n dX7_init_20 rfl 0 rfl ?_
  obtain ⟨e10, e11, K⟩ := K
  refine g_new (c := 1) (rc' := (((rc - 1) - mc6) - 1)) (rs' := (((rs - 12) - ms7) - 16)) dX7_init_21 fc_1 (by decide) (by decide) bw_304 bw_39 bw_3 (by omega) (show (((rs - 12) - ms7) - 16) + 16 ≤ ((rs - 12) - ms7) by omega) ?_
  generalize e47 : (nw (sI (sR h8 a0 0 (some (hN h))) a0 1 (-1)) (1, 0)) = h12
  replace K := K h12 e47.symm
  refine g_dup dX7_init_24 rfl ?_
  obtain ⟨mc15, ms16, q13, e45, e46, C14, K⟩ := K
  refine g_callI (M' := mX1_init) (b := (hN (sI (sR h8 a0 0 (some (hN h))) a0 1 (-1)))) (As := []) (rest := [.ref (hN (sI (sR h8 a0 0 (some (hN h))) a0 1 (-1))), .ref a0]) (rc' := ((((rc - 1) - mc6) - 1) - mc15)) (rs' := ((((rs - 12) - ms7) - 16) - ms16)) dX7_init_25 bw_305 bw_41 rfl rfl bw_3 bw_42 ⟨by decide +kernel, by decide +kernel, show (parseMethodDescriptor mX1_init.1.desc).map (fun d => d.parameters.length) = some 0 by decide +kernel⟩ (by decide) (by decide) (Nat.le_of_ble_eq_true rfl) C14 (by omega) (by omega) (fun _ _ h => h) ?_
  rintro _ h17 ⟨rfl, K1⟩ -
  replace K := K h17 K1
  show Gm l x mX7_init 4 28 [(0, .ref a0)] [.ref (hN (sI (sR h8 a0 0 (some (hN h))) a0 1 (-1))), .ref a0] h17 ((((rc - 1) - mc6) - 1) - mc15) ((((rs - 12) - ms7) - 16) - ms16) n0 Q X
  obtain ⟨e18, K⟩ := K
  refine g_putr (c := 7) (k := 2) dX7_init_28 fc_7 (by decide) (by decide) bw_404 (Or.inr ⟨rfl, rfl, rfl⟩) (Or.inl ⟨_, rfl⟩) e18 ?_
  refine g_aload_n dX7_init_31 rfl 0 rfl ?_
  obtain ⟨e19, e20, K⟩ := K
  refine g_new (c := 5) (rc' := (((((rc - 1) - mc6) - 1) - mc15) - 1)) (rs' := (((((rs - 12) - ms7) - 16) - ms16) - 9)) dX7_init_32 fc_5 (by decide) (by decide) bw_306 bw_307 bw_6 (by omega) (show (((((rs - 12) - ms7) - 16) - ms16) - 9) + 9 ≤ ((((rs - 12) - ms7) - 16) - ms16) by omega) ?_
  generalize e44 : (nw (sR h17 a0 2 (some (hN (sI (sR h8 a0 0 (some (hN h))) a0 1 (-1))))) (5, 0)) = h21
  replace K := K h21 e44.symm
  refine g_dup dX7_init_35 rfl ?_
  obtain ⟨z43, K⟩ := K
  obtain ⟨mc24, ms25, q22, e41, e42, C23, K⟩ := K
  refine g_callIN (M' := mX5_init) (b := (hN (sR h17 a0 2 (some (hN (sI (sR h8 a0 0 (some (hN h))) a0 1 (-1))))))) (As := []) (rest := [.ref (hN (sR h17 a0 2 (some (hN (sI (sR h8 a0 0 (some (hN h))) a0 1 (-1)))))), .ref a0]) (rc' := ((((((rc - 1) - mc6) - 1) - mc15) - 1) - mc24)) (rs' := ((((((rs - 12) - ms7) - 16) - ms16) - 9) - ms25)) dX7_init_36 z43 bw_309 rfl rfl bw_6 bw_310 ⟨by decide +kernel, by decide +kernel, show (parseMethodDescriptor mX5_init.1.desc).map (fun d => d.parameters.length) = some 0 by decide +kernel⟩ (by decide) (by decide) (Nat.le_of_ble_eq_true rfl) C23 (by omega) (by omega) (fun _ _ h => h) ?_
  rintro _ h26 ⟨rfl, K1⟩ -
  replace K := K h26 K1
  show Gm l x mX7_init 4 39 [(0, .ref a0)] [.ref (hN (sR h17 a0 2 (some (hN (sI (sR h8 a0 0 (some (hN h))) a0 1 (-1)))))), .ref a0] h26 ((((((rc - 1) - mc6) - 1) - mc15) - 1) - mc24) ((((((rs - 12) - ms7) - 16) - ms16) - 9) - ms25) n0 Q X
  obtain ⟨e27, K⟩ := K
  refine g_putr (c := 7) (k := 3) dX7_init_39 fc_7 (by decide) (by decide) bw_405 (Or.inr ⟨rfl, rfl, rfl⟩) (Or.inl ⟨_, rfl⟩) e27 ?_
  refine g_aload_n dX7_init_42 rfl 0 rfl ?_
  obtain ⟨e28, e29, K⟩ := K
  refine g_new (c := 3) (rc' := (((((((rc - 1) - mc6) - 1) - mc15) - 1) - mc24) - 1)) (rs' := (((((((rs - 12) - ms7) - 16) - ms16) - 9) - ms25) - 6)) dX7_init_43 fc_3 (by decide) (by decide) bw_350 bw_351 bw_7 (by omega) (show (((((((rs - 12) - ms7) - 16) - ms16) - 9) - ms25) - 6) + 6 ≤ ((((((rs - 12) - ms7) - 16) - ms16) - 9) - ms25) by omega) ?_
  generalize e40 : (nw (sR h26 a0 3 (some (hN (sR h17 a0 2 (some (hN (sI (sR h8 a0 0 (some (hN h))) a0 1 (-1)))))))) (3, 0)) = h30
  replace K := K h30 e40.symm
  refine g_dup dX7_init_46 rfl ?_
  obtain ⟨z39, K⟩ := K
  obtain ⟨mc33, ms34, q31, e37, e38, C32, K⟩ := K
  refine g_callIN (M' := mX3_init) (b := (hN (sR h26 a0 3 (some (hN (sR h17 a0 2 (some (hN (sI (sR h8 a0 0 (some (hN h))) a0 1 (-1)))))))))) (As := []) (rest := [.ref (hN (sR h26 a0 3 (some (hN (sR h17 a0 2 (some (hN (sI (sR h8 a0 0 (some (hN h))) a0 1 (-1))))))))), .ref a0]) (rc' := ((((((((rc - 1) - mc6) - 1) - mc15) - 1) - mc24) - 1) - mc33)) (rs' := ((((((((rs - 12) - ms7) - 16) - ms16) - 9) - ms25) - 6) - ms34)) dX7_init_47 z39 bw_353 rfl rfl bw_7 bw_354 ⟨by decide +kernel, by decide +kernel, show (parseMethodDescriptor mX3_init.1.desc).map (fun d => d.parameters.length) = some 0 by decide +kernel⟩ (by decide) (by decide) (Nat.le_of_ble_eq_true rfl) C32 (by omega) (by omega) (fun _ _ h => h) ?_
  rintro _ h35 ⟨rfl, K1⟩ -
  replace K := K h35 K1
  show Gm l x mX7_init 4 50 [(0, .ref a0)] [.ref (hN (sR h26 a0 3 (some (hN (sR h17 a0 2 (some (hN (sI (sR h8 a0 0 (some (hN h))) a0 1 (-1))))))))), .ref a0] h35 ((((((((rc - 1) - mc6) - 1) - mc15) - 1) - mc24) - 1) - mc33) ((((((((rs - 12) - ms7) - 16) - ms16) - 9) - ms25) - 6) - ms34) n0 Q X
  obtain ⟨e36, K⟩ := K
  refine g_putr (c := 7) (k := 4) dX7_init_50 fc_7 (by decide) (by decide) bw_406 (Or.inr ⟨rfl, rfl, rfl⟩) (Or.inl ⟨_, rfl⟩) e36 ?_
  refine g_aload_n dX7_init_53 rfl 0 rfl ?_
  refine g_null dX7_init_54 ?_
  refine g_putn (c := 7) (k := 5) dX7_init_55 fc_7 (by decide) (by decide) bw_407 (Or.inl rfl) (Or.inl ⟨_, rfl⟩) (kkR e36) ?_
  refine g_aload_n dX7_init_58 rfl 0 rfl ?_
  refine g_iconst (v := 0) dX7_init_59 (by decide) ?_
  refine g_putz (c := 7) (k := 6) dX7_init_60 fc_7 (by decide) (by decide) bw_408 (Or.inl rfl) rfl (by decide) (kkR (kkR e36)) ?_
  exact g_vret dX7_init_63 rfl K
theorem dX7_ticksToQuiet_0 : decode cX7_ticksToQuiet 0 = .ok (.aload_n 0, 1) := by decide +kernel
theorem dX7_ticksToQuiet_1 : decode cX7_ticksToQuiet 1 = .ok (.getfield 23, 3) := by decide +kernel
theorem dX7_ticksToQuiet_4 : decode cX7_ticksToQuiet 4 = .ok (.aload_n 0, 1) := by decide +kernel
theorem dX7_ticksToQuiet_5 : decode cX7_ticksToQuiet 5 = .ok (.getfield 37, 3) := by decide +kernel
theorem dX7_ticksToQuiet_8 : decode cX7_ticksToQuiet 8 = .ok (.getfield 81, 3) := by decide +kernel
theorem dX7_ticksToQuiet_11 : decode cX7_ticksToQuiet 11 = .ok (.invokevirtual 180, 3) := by decide +kernel
theorem dX7_ticksToQuiet_14 : decode cX7_ticksToQuiet 14 = .ok (.iconst 0, 1) := by decide +kernel
theorem dX7_ticksToQuiet_15 : decode cX7_ticksToQuiet 15 = .ok (.istore_n 1, 1) := by decide +kernel
theorem dX7_ticksToQuiet_16 : decode cX7_ticksToQuiet 16 = .ok (.iload_n 1, 1) := by decide +kernel
theorem dX7_ticksToQuiet_17 : decode cX7_ticksToQuiet 17 = .ok (.sipush 200, 3) := by decide +kernel
theorem dX7_ticksToQuiet_20 : decode cX7_ticksToQuiet 20 = .ok (.if_icmp .ge 29, 3) := by decide +kernel
theorem dX7_ticksToQuiet_23 : decode cX7_ticksToQuiet 23 = .ok (.aload_n 0, 1) := by decide +kernel
theorem dX7_ticksToQuiet_24 : decode cX7_ticksToQuiet 24 = .ok (.getfield 23, 3) := by decide +kernel
theorem dX7_ticksToQuiet_27 : decode cX7_ticksToQuiet 27 = .ok (.invokevirtual 183, 3) := by decide +kernel
theorem dX7_ticksToQuiet_30 : decode cX7_ticksToQuiet 30 = .ok (.ifCond .eq 5, 3) := by decide +kernel
theorem dX7_ticksToQuiet_33 : decode cX7_ticksToQuiet 33 = .ok (.iload_n 1, 1) := by decide +kernel
theorem dX7_ticksToQuiet_34 : decode cX7_ticksToQuiet 34 = .ok (.ireturn, 1) := by decide +kernel
theorem dX7_ticksToQuiet_35 : decode cX7_ticksToQuiet 35 = .ok (.aload_n 0, 1) := by decide +kernel
theorem dX7_ticksToQuiet_36 : decode cX7_ticksToQuiet 36 = .ok (.getfield 23, 3) := by decide +kernel
theorem dX7_ticksToQuiet_39 : decode cX7_ticksToQuiet 39 = .ok (.iconst 1, 1) := by decide +kernel
theorem dX7_ticksToQuiet_40 : decode cX7_ticksToQuiet 40 = .ok (.invokevirtual 187, 3) := by decide +kernel
theorem dX7_ticksToQuiet_43 : decode cX7_ticksToQuiet 43 = .ok (.iinc 1 1, 3) := by decide +kernel
theorem dX7_ticksToQuiet_46 : decode cX7_ticksToQuiet 46 = .ok (.goto (-30), 3) := by decide +kernel
theorem dX7_ticksToQuiet_49 : decode cX7_ticksToQuiet 49 = .ok (.aload_n 0, 1) := by decide +kernel
theorem dX7_ticksToQuiet_50 : decode cX7_ticksToQuiet 50 = .ok (.getfield 23, 3) := by decide +kernel
theorem dX7_ticksToQuiet_53 : decode cX7_ticksToQuiet 53 = .ok (.invokevirtual 183, 3) := by decide +kernel
theorem dX7_ticksToQuiet_56 : decode cX7_ticksToQuiet 56 = .ok (.ifCond .eq 9, 3) := by decide +kernel
theorem dX7_ticksToQuiet_59 : decode cX7_ticksToQuiet 59 = .ok (.sipush 200, 3) := by decide +kernel
theorem dX7_ticksToQuiet_62 : decode cX7_ticksToQuiet 62 = .ok (.goto 4, 3) := by decide +kernel
theorem dX7_ticksToQuiet_65 : decode cX7_ticksToQuiet 65 = .ok (.iconst (-1), 1) := by decide +kernel
theorem dX7_ticksToQuiet_66 : decode cX7_ticksToQuiet 66 = .ok (.ireturn, 1) := by decide +kernel
set_option maxRecDepth 20000 in
set_option maxHeartbeats 4000000 in
theorem vX7_ticksToQuiet_0 {l : Launch} {x : CX} {a0 : Nat} {h : PH} {rc rs n0 : Nat} {Q : Option Value → PH → Prop} {X : String → PH → Prop}
    (K : ((hK h a0).1 = 7) ∧ ∃ b2, (hR h a0 2 = some b2) ∧ ∃ b4, (hR h a0 4 = some b4) ∧ ((hK h b4).1 = 3) ∧ ∃ b7, (hR h b4 0 = some b7) ∧ ((hK h b2).1 = 1) ∧ ∃ (q9 : PH → Prop), CV l x mX1_copyFrom 1 0 0 [.ref b2, .ref b7] h q9 ∧ ∀ (h12 : PH), q9 h12 → Gm l x mX7_ticksToQuiet 5 16 [(0, .ref a0), (1, .int 0)] [] h12 rc rs n0 Q X) :
    Gm l x mX7_ticksToQuiet 5 0 [(0, .ref a0)] [] h rc rs n0 Q X := by
  refine g_aload_n dX7_ticksToQuiet_0 rfl 0 rfl ?_
  obtain ⟨e1, b2, e3, K⟩ := K
  refine g_get (c := 7) (k := 2) (v := .ref b2) dX7_ticksToQuiet_1 fc_7 (by decide) (by decide) bw_404 (congrArg pr e3) e1 ?_
  refine g_aload_n dX7_ticksToQuiet_4 rfl 0 rfl ?_
  obtain ⟨b4, e5, K⟩ := K
  refine g_get (c := 7) (k := 4) (v := .ref b4) dX7_ticksToQuiet_5 fc_7 (by decide) (by decide) bw_406 (congrArg pr e5) e1 ?_
  obtain ⟨e6, b7, e8, K⟩ := K
  refine g_get (c := 3) (k := 0) (v := .ref b7) dX7_ticksToQuiet_8 fc_3 (by decide) (by decide) bw_378 (congrArg pr e8) e6 ?_
  obtain ⟨e11, K⟩ := K
  obtain ⟨q9, C10, K⟩ := K
  refine g_callV (M' := mX1_copyFrom) (b := b2) (As := [.ref b7]) (rest := []) (rc' := rc) (rs' := rs) dX7_ticksToQuiet_11 bw_975 bw_454 bw_455 bw_3 bw_456 ⟨by decide +kernel, by decide +kernel, show (parseMethodDescriptor mX1_copyFrom.1.desc).map (fun d => d.parameters.length) = some 1 by decide +kernel⟩ (by decide) (by decide) (Nat.le_of_ble_eq_true rfl) fc_1 (by decide) rfl e11 C10 (Nat.le_of_eq (Nat.add_zero _)) (Nat.le_of_eq (Nat.add_zero _)) (fun _ _ h => h) ?_
  rintro _ h12 ⟨rfl, K1⟩ -
  replace K := K h12 K1
  show Gm l x mX7_ticksToQuiet 5 14 [(0, .ref a0)] [] h12 rc rs n0 Q X
  refine g_iconst (v := 0) dX7_ticksToQuiet_14 (by decide) ?_
  refine g_istore_n (lv' := [(0, .ref a0), (1, .int 0)]) dX7_ticksToQuiet_15 rfl (by decide) rfl ?_
  exact K
set_option maxRecDepth 20000 in
set_option maxHeartbeats 4000000 in
theorem vX7_ticksToQuiet_16 {l : Launch} {x : CX} {a0 : Nat} {x1 : Int32} {h : PH} {rc rs n0 : Nat} {Q : Option Value → PH → Prop} {X : String → PH → Prop}
    (K : ((200 ≤ x1 → ((hK h a0).1 = 7) ∧ ∃ b3, (hR h a0 2 = some b3) ∧ ((hK h b3).1 = 1) ∧ ∃ (q5 : Int32 → PH → Prop), CI l x mX1_isQuiet 1 0 0 [.ref b3] h q5 ∧ ∀ (r9 : Int32) (h8 : PH), q5 r9 h8 → Q (some (.int (if r9 = 0 then (-1) else 200 : Int32))) h8) ∧ (¬ 200 ≤ x1 → ((hK h a0).1 = 7) ∧ ∃ b12, (hR h a0 2 = some b12) ∧ ((hK h b12).1 = 1) ∧ ∃ (q14 : Int32 → PH → Prop), CI l x mX1_isQuiet 1 0 0 [.ref b12] h q14 ∧ ∀ (r18 : Int32) (h17 : PH), q14 r18 h17 → ((r18 = 0 → ((hK h17 a0).1 = 7) ∧ ∃ b21, (hR h17 a0 2 = some b21) ∧ ((hK h17 b21).1 = 1) ∧ ∃ (q23 : PH → Prop), CV l x mX1_pass 4 0 0 [.ref b21, .int 1] h17 q23 ∧ ∀ (h26 : PH), q23 h26 → Gm l x mX7_ticksToQuiet 5 16 [(0, .ref a0), (1, .int (x1 + 1))] [] h26 rc rs n0 Q X) ∧ (¬ r18 = 0 → Q (some (.int x1)) h17))))) :
    Gm l x mX7_ticksToQuiet 5 16 [(0, .ref a0), (1, .int x1)] [] h rc rs n0 Q X := by
  refine g_iload_n dX7_ticksToQuiet_16 rfl 1 rfl ?_
  refine g_sipush (v := 200) dX7_ticksToQuiet_17 (by decide) ?_
  refine g_icmp_ge (tgt := 49) dX7_ticksToQuiet_20 (by decide) (fun c1 => ?_) (fun c1 => ?_)
  · replace K := K.1 c1
    refine g_aload_n dX7_ticksToQuiet_49 rfl 0 rfl ?_
    obtain ⟨e2, b3, e4, K⟩ := K
    refine g_get (c := 7) (k := 2) (v := .ref b3) dX7_ticksToQuiet_50 fc_7 (by decide) (by decide) bw_404 (congrArg pr e4) e2 ?_
    obtain ⟨e7, K⟩ := K
    obtain ⟨q5, C6, K⟩ := K
    refine g_callV (M' := mX1_isQuiet) (b := b3) (As := []) (rest := []) (rc' := rc) (rs' := rs) dX7_ticksToQuiet_53 bw_976 bw_474 bw_475 bw_3 bw_476 ⟨by decide +kernel, by decide +kernel, show (parseMethodDescriptor mX1_isQuiet.1.desc).map (fun d => d.parameters.length) = some 0 by decide +kernel⟩ (by decide) (by decide) (Nat.le_of_ble_eq_true rfl) fc_1 (by decide) rfl e7 C6 (Nat.le_of_eq (Nat.add_zero _)) (Nat.le_of_eq (Nat.add_zero _)) (fun _ _ h => h) ?_
    rintro _ h8 ⟨r9, rfl, K1⟩ -
    replace K := K r9 h8 K1
    show Gm l x mX7_ticksToQuiet 5 56 [(0, .ref a0), (1, .int x1)] [.int r9] h8 rc rs n0 Q X
    have KJ : Gm l x mX7_ticksToQuiet 5 66 [(0, .ref a0), (1, .int x1)] [.int (if r9 = 0 then (-1) else 200 : Int32)] h8 rc rs n0 Q X := by
      exact g_iret dX7_ticksToQuiet_66 rfl K
    refine g_if_eq (tgt := 65) dX7_ticksToQuiet_56 (by decide) (fun c10 => ?_) (fun c10 => ?_)
    · refine g_iconst (v := (-1)) dX7_ticksToQuiet_65 (by decide) ?_
      first | (simp only [if_pos c10] at KJ; exact KJ) | (simp only [if_pos c10, ite_true, ite_false, eq_self] at KJ; exact KJ) | (simp only [if_pos c10] at KJ ⊢; exact KJ) | exact KJ
    · refine g_sipush (v := 200) dX7_ticksToQuiet_59 (by decide) ?_
      refine g_goto (tgt := 66) dX7_ticksToQuiet_62 (by decide) ?_
      first | (simp only [if_neg c10] at KJ; exact KJ) | (simp only [if_neg c10, ite_true, ite_false, eq_self] at KJ; exact KJ) | (simp only [if_neg c10] at KJ ⊢; exact KJ) | exact KJ
  · replace K := K.2 c1
    refine g_aload_n dX7_ticksToQuiet_23 rfl 0 rfl ?_
    obtain ⟨e11, b12, e13, K⟩ := K
    refine g_get (c := 7) (k := 2) (v := .ref b12) dX7_ticksToQuiet_24 fc_7 (by decide) (by decide) bw_404 (congrArg pr e13) e11 ?_
    obtain ⟨e16, K⟩ := K
    obtain ⟨q14, C15, K⟩ := K
    refine g_callV (M' := mX1_isQuiet) (b := b12) (As := []) (rest := []) (rc' := rc) (rs' := rs) dX7_ticksToQuiet_27 bw_976 bw_474 bw_475 bw_3 bw_476 ⟨by decide +kernel, by decide +kernel, show (parseMethodDescriptor mX1_isQuiet.1.desc).map (fun d => d.parameters.length) = some 0 by decide +kernel⟩ (by decide) (by decide) (Nat.le_of_ble_eq_true rfl) fc_1 (by decide) rfl e16 C15 (Nat.le_of_eq (Nat.add_zero _)) (Nat.le_of_eq (Nat.add_zero _)) (fun _ _ h => h) ?_
    rintro _ h17 ⟨r18, rfl, K1⟩ -
    replace K := K r18 h17 K1
    show Gm l x mX7_ticksToQuiet 5 30 [(0, .ref a0), (1, .int x1)] [.int r18] h17 rc rs n0 Q X
    refine g_if_eq (tgt := 35) dX7_ticksToQuiet_30 (by decide) (fun c19 => ?_) (fun c19 => ?_)
    · replace K := K.1 c19
      refine g_aload_n dX7_ticksToQuiet_35 rfl 0 rfl ?_
      obtain ⟨e20, b21, e22, K⟩ := K
      refine g_get (c := 7) (k := 2) (v := .ref b21) dX7_ticksToQuiet_36 fc_7 (by decide) (by decide) bw_404 (congrArg pr e22) e20 ?_
      refine g_iconst (v := 1) dX7_ticksToQuiet_39 (by decide) ?_
      obtain ⟨e25, K⟩ := K
      obtain ⟨q23, C24, K⟩ := K
      refine g_callV (M' := mX1_pass) (b := b21) (As := [.int 1]) (rest := []) (rc' := rc) (rs' := rs) dX7_ticksToQuiet_40 bw_465 bw_466 bw_467 bw_3 bw_468 ⟨by decide +kernel, by decide +kernel, show (parseMethodDescriptor mX1_pass.1.desc).map (fun d => d.parameters.length) = some 1 by decide +kernel⟩ (by decide) (by decide) (Nat.le_of_ble_eq_true rfl) fc_1 (by decide) rfl e25 C24 (Nat.le_of_eq (Nat.add_zero _)) (Nat.le_of_eq (Nat.add_zero _)) (fun _ _ h => h) ?_
      rintro _ h26 ⟨rfl, K1⟩ -
      replace K := K h26 K1
      show Gm l x mX7_ticksToQuiet 5 43 [(0, .ref a0), (1, .int x1)] [] h26 rc rs n0 Q X
      refine g_iinc (v := (x1 + 1)) (lv' := [(0, .ref a0), (1, .int (x1 + 1))]) dX7_ticksToQuiet_43 1 rfl (by rfl) (by decide) rfl ?_
      refine g_goto (tgt := 16) dX7_ticksToQuiet_46 (by decide) ?_
      exact K
    · replace K := K.2 c19
      refine g_iload_n dX7_ticksToQuiet_33 rfl 1 rfl ?_
      exact g_iret dX7_ticksToQuiet_34 rfl K
theorem dX7_ticks_0 : decode cX7_ticks 0 = .ok (.aload_n 0, 1) := by decide +kernel
theorem dX7_ticks_1 : decode cX7_ticks 1 = .ok (.getfield 37, 3) := by decide +kernel
theorem dX7_ticks_4 : decode cX7_ticks 4 = .ok (.getfield 81, 3) := by decide +kernel
theorem dX7_ticks_7 : decode cX7_ticks 7 = .ok (.astore_n 2, 1) := by decide +kernel
theorem dX7_ticks_8 : decode cX7_ticks 8 = .ok (.iload_n 1, 1) := by decide +kernel
theorem dX7_ticks_9 : decode cX7_ticks 9 = .ok (.iconst 1, 1) := by decide +kernel
theorem dX7_ticks_10 : decode cX7_ticks 10 = .ok (.if_icmp .lt 21, 3) := by decide +kernel
theorem dX7_ticks_13 : decode cX7_ticks 13 = .ok (.iload_n 1, 1) := by decide +kernel
theorem dX7_ticks_14 : decode cX7_ticks 14 = .ok (.bipush 60, 2) := by decide +kernel
theorem dX7_ticks_16 : decode cX7_ticks 16 = .ok (.if_icmp .gt 15, 3) := by decide +kernel
theorem dX7_ticks_19 : decode cX7_ticks 19 = .ok (.aload_n 2, 1) := by decide +kernel
theorem dX7_ticks_20 : decode cX7_ticks 20 = .ok (.getfield 105, 3) := by decide +kernel
theorem dX7_ticks_23 : decode cX7_ticks 23 = .ok (.iload_n 1, 1) := by decide +kernel
theorem dX7_ticks_24 : decode cX7_ticks 24 = .ok (.iadd, 1) := by decide +kernel
theorem dX7_ticks_25 : decode cX7_ticks 25 = .ok (.sipush 999, 3) := by decide +kernel
theorem dX7_ticks_28 : decode cX7_ticks 28 = .ok (.if_icmp .le 8, 3) := by decide +kernel
theorem dX7_ticks_31 : decode cX7_ticks 31 = .ok (.aload_n 0, 1) := by decide +kernel
theorem dX7_ticks_32 : decode cX7_ticks 32 = .ok (.invokevirtual 292, 3) := by decide +kernel
theorem dX7_ticks_35 : decode cX7_ticks 35 = .ok (.ireturn, 1) := by decide +kernel
theorem dX7_ticks_36 : decode cX7_ticks 36 = .ok (.aload_n 0, 1) := by decide +kernel
theorem dX7_ticks_37 : decode cX7_ticks 37 = .ok (.getfield 37, 3) := by decide +kernel
theorem dX7_ticks_40 : decode cX7_ticks 40 = .ok (.getfield 150, 3) := by decide +kernel
theorem dX7_ticks_43 : decode cX7_ticks 43 = .ok (.aload_n 2, 1) := by decide +kernel
theorem dX7_ticks_44 : decode cX7_ticks 44 = .ok (.invokevirtual 295, 3) := by decide +kernel
theorem dX7_ticks_47 : decode cX7_ticks 47 = .ok (.aload_n 2, 1) := by decide +kernel
theorem dX7_ticks_48 : decode cX7_ticks 48 = .ok (.iload_n 1, 1) := by decide +kernel
theorem dX7_ticks_49 : decode cX7_ticks 49 = .ok (.invokevirtual 187, 3) := by decide +kernel
theorem dX7_ticks_52 : decode cX7_ticks 52 = .ok (.aload_n 2, 1) := by decide +kernel
theorem dX7_ticks_53 : decode cX7_ticks 53 = .ok (.getfield 105, 3) := by decide +kernel
theorem dX7_ticks_56 : decode cX7_ticks 56 = .ok (.ireturn, 1) := by decide +kernel
set_option maxRecDepth 20000 in
set_option maxHeartbeats 4000000 in
theorem vX7_ticks_0 {l : Launch} {x : CX} {a0 : Nat} {x1 : Int32} {h : PH} {rc rs n0 : Nat} {Q : Option Value → PH → Prop} {X : String → PH → Prop}
    (K : ((hK h a0).1 = 7) ∧ ∃ b2, (hR h a0 4 = some b2) ∧ ((hK h b2).1 = 3) ∧ ∃ b5, (hR h b2 0 = some b5) ∧ ((x1 < 1 → ∃ (q8 : Int32 → PH → Prop), CI l x mX7_refuseAct 0 0 0 [.ref a0] h q8 ∧ ∀ (r11 : Int32) (h10 : PH), q8 r11 h10 → Q (some (.int r11)) h10) ∧ (¬ x1 < 1 → ((60 < x1 → ∃ (q13 : Int32 → PH → Prop), CI l x mX7_refuseAct 0 0 0 [.ref a0] h q13 ∧ ∀ (r16 : Int32) (h15 : PH), q13 r16 h15 → Q (some (.int r16)) h15) ∧ (¬ 60 < x1 → ((hK h b5).1 = 1) ∧ ((((hI h b5 7) + x1) ≤ 999 → ∃ b19, (hR h b2 1 = some b19) ∧ ((hK h b19).1 = 0) ∧ ∃ (mc23 ms24 : Nat) (q21 : PH → Prop), mc23 ≤ rc ∧ ms24 ≤ rs ∧ CV l x mX0_keep 4 mc23 ms24 [.ref b19, .ref b5] h q21 ∧ ∀ (h26 : PH), q21 h26 → ((hK h26 b5).1 = 1) ∧ ∃ (q27 : PH → Prop), CV l x mX1_pass 4 0 0 [.ref b5, .int x1] h26 q27 ∧ ∀ (h30 : PH), q27 h30 → ((hK h30 b5).1 = 1) ∧ Q (some (.int (hI h30 b5 7))) h30) ∧ (¬ ((hI h b5 7) + x1) ≤ 999 → ∃ (q34 : Int32 → PH → Prop), CI l x mX7_refuseAct 0 0 0 [.ref a0] h q34 ∧ ∀ (r37 : Int32) (h36 : PH), q34 r37 h36 → Q (some (.int r37)) h36))))))) :
    Gm l x mX7_ticks 5 0 [(0, .ref a0), (1, .int x1)] [] h rc rs n0 Q X := by
  refine g_aload_n dX7_ticks_0 rfl 0 rfl ?_
  obtain ⟨e1, b2, e3, K⟩ := K
  refine g_get (c := 7) (k := 4) (v := .ref b2) dX7_ticks_1 fc_7 (by decide) (by decide) bw_406 (congrArg pr e3) e1 ?_
  obtain ⟨e4, b5, e6, K⟩ := K
  refine g_get (c := 3) (k := 0) (v := .ref b5) dX7_ticks_4 fc_3 (by decide) (by decide) bw_378 (congrArg pr e6) e4 ?_
  refine g_astore_n (lv' := [(0, .ref a0), (1, .int x1), (2, .ref b5)]) dX7_ticks_7 rfl (by decide) rfl ?_
  refine g_iload_n dX7_ticks_8 rfl 1 rfl ?_
  refine g_iconst (v := 1) dX7_ticks_9 (by decide) ?_
  refine g_icmp_lt (tgt := 31) dX7_ticks_10 (by decide) (fun c7 => ?_) (fun c7 => ?_)
  · replace K := K.1 c7
    refine g_aload_n dX7_ticks_31 rfl 0 rfl ?_
    obtain ⟨q8, C9, K⟩ := K
    refine g_callV (M' := mX7_refuseAct) (b := a0) (As := []) (rest := []) (rc' := rc) (rs' := rs) dX7_ticks_32 bw_440 bw_442 bs_0 bw_1 bw_443 ⟨by decide +kernel, by decide +kernel, show (parseMethodDescriptor mX7_refuseAct.1.desc).map (fun d => d.parameters.length) = some 0 by decide +kernel⟩ (by decide) (by decide) (Nat.le_of_ble_eq_true rfl) fc_7 (by decide) rfl e1 C9 (Nat.le_of_eq (Nat.add_zero _)) (Nat.le_of_eq (Nat.add_zero _)) (fun _ _ h => h) ?_
    rintro _ h10 ⟨r11, rfl, K1⟩ -
    replace K := K r11 h10 K1
    show Gm l x mX7_ticks 5 35 [(0, .ref a0), (1, .int x1), (2, .ref b5)] [.int r11] h10 rc rs n0 Q X
    exact g_iret dX7_ticks_35 rfl K
  · replace K := K.2 c7
    refine g_iload_n dX7_ticks_13 rfl 1 rfl ?_
    refine g_bipush (v := 60) dX7_ticks_14 (by decide) ?_
    refine g_icmp_gt (tgt := 31) dX7_ticks_16 (by decide) (fun c12 => ?_) (fun c12 => ?_)
    · replace K := K.1 c12
      refine g_aload_n dX7_ticks_31 rfl 0 rfl ?_
      obtain ⟨q13, C14, K⟩ := K
      refine g_callV (M' := mX7_refuseAct) (b := a0) (As := []) (rest := []) (rc' := rc) (rs' := rs) dX7_ticks_32 bw_440 bw_442 bs_0 bw_1 bw_443 ⟨by decide +kernel, by decide +kernel, show (parseMethodDescriptor mX7_refuseAct.1.desc).map (fun d => d.parameters.length) = some 0 by decide +kernel⟩ (by decide) (by decide) (Nat.le_of_ble_eq_true rfl) fc_7 (by decide) rfl e1 C14 (Nat.le_of_eq (Nat.add_zero _)) (Nat.le_of_eq (Nat.add_zero _)) (fun _ _ h => h) ?_
      rintro _ h15 ⟨r16, rfl, K1⟩ -
      replace K := K r16 h15 K1
      show Gm l x mX7_ticks 5 35 [(0, .ref a0), (1, .int x1), (2, .ref b5)] [.int r16] h15 rc rs n0 Q X
      exact g_iret dX7_ticks_35 rfl K
    · replace K := K.2 c12
      refine g_aload_n dX7_ticks_19 rfl 2 rfl ?_
      obtain ⟨e17, K⟩ := K
      refine g_get (c := 1) (k := 7) (v := .int (hI h b5 7)) dX7_ticks_20 fc_1 (by decide) (by decide) bw_213 rfl e17 ?_
      refine g_iload_n dX7_ticks_23 rfl 1 rfl ?_
      refine g_iadd dX7_ticks_24 ?_
      refine g_sipush (v := 999) dX7_ticks_25 (by decide) ?_
      refine g_icmp_le (tgt := 36) dX7_ticks_28 (by decide) (fun c18 => ?_) (fun c18 => ?_)
      · replace K := K.1 c18
        refine g_aload_n dX7_ticks_36 rfl 0 rfl ?_
        refine g_get (c := 7) (k := 4) (v := .ref b2) dX7_ticks_37 fc_7 (by decide) (by decide) bw_406 (congrArg pr e3) e1 ?_
        obtain ⟨b19, e20, K⟩ := K
        refine g_get (c := 3) (k := 1) (v := .ref b19) dX7_ticks_40 fc_3 (by decide) (by decide) bw_380 (congrArg pr e20) e4 ?_
        refine g_aload_n dX7_ticks_43 rfl 2 rfl ?_
        obtain ⟨e25, K⟩ := K
        obtain ⟨mc23, ms24, q21, e32, e33, C22, K⟩ := K
        refine g_callV (M' := mX0_keep) (b := b19) (As := [.ref b5]) (rest := []) (rc' := (rc - mc23)) (rs' := (rs - ms24)) dX7_ticks_44 bw_444 bw_445 bw_446 bw_8 bw_447 ⟨by decide +kernel, by decide +kernel, show (parseMethodDescriptor mX0_keep.1.desc).map (fun d => d.parameters.length) = some 1 by decide +kernel⟩ (by decide) (by decide) (Nat.le_of_ble_eq_true rfl) fc_0 (by decide) rfl e25 C22 (by omega) (by omega) (fun _ _ h => h) ?_
        rintro _ h26 ⟨rfl, K1⟩ -
        replace K := K h26 K1
        show Gm l x mX7_ticks 5 47 [(0, .ref a0), (1, .int x1), (2, .ref b5)] [] h26 (rc - mc23) (rs - ms24) n0 Q X
        refine g_aload_n dX7_ticks_47 rfl 2 rfl ?_
        refine g_iload_n dX7_ticks_48 rfl 1 rfl ?_
        obtain ⟨e29, K⟩ := K
        obtain ⟨q27, C28, K⟩ := K
        refine g_callV (M' := mX1_pass) (b := b5) (As := [.int x1]) (rest := []) (rc' := (rc - mc23)) (rs' := (rs - ms24)) dX7_ticks_49 bw_465 bw_466 bw_467 bw_3 bw_468 ⟨by decide +kernel, by decide +kernel, show (parseMethodDescriptor mX1_pass.1.desc).map (fun d => d.parameters.length) = some 1 by decide +kernel⟩ (by decide) (by decide) (Nat.le_of_ble_eq_true rfl) fc_1 (by decide) rfl e29 C28 (Nat.le_of_eq (Nat.add_zero _)) (Nat.le_of_eq (Nat.add_zero _)) (fun _ _ h => h) ?_
        rintro _ h30 ⟨rfl, K1⟩ -
        replace K := K h30 K1
        show Gm l x mX7_ticks 5 52 [(0, .ref a0), (1, .int x1), (2, .ref b5)] [] h30 (rc - mc23) (rs - ms24) n0 Q X
        refine g_aload_n dX7_ticks_52 rfl 2 rfl ?_
        obtain ⟨e31, K⟩ := K
        refine g_get (c := 1) (k := 7) (v := .int (hI h30 b5 7)) dX7_ticks_53 fc_1 (by decide) (by decide) bw_213 rfl e31 ?_
        exact g_iret dX7_ticks_56 rfl K
      · replace K := K.2 c18
        refine g_aload_n dX7_ticks_31 rfl 0 rfl ?_
        obtain ⟨q34, C35, K⟩ := K
        refine g_callV (M' := mX7_refuseAct) (b := a0) (As := []) (rest := []) (rc' := rc) (rs' := rs) dX7_ticks_32 bw_440 bw_442 bs_0 bw_1 bw_443 ⟨by decide +kernel, by decide +kernel, show (parseMethodDescriptor mX7_refuseAct.1.desc).map (fun d => d.parameters.length) = some 0 by decide +kernel⟩ (by decide) (by decide) (Nat.le_of_ble_eq_true rfl) fc_7 (by decide) rfl e1 C35 (Nat.le_of_eq (Nat.add_zero _)) (Nat.le_of_eq (Nat.add_zero _)) (fun _ _ h => h) ?_
        rintro _ h36 ⟨r37, rfl, K1⟩ -
        replace K := K r37 h36 K1
        show Gm l x mX7_ticks 5 35 [(0, .ref a0), (1, .int x1), (2, .ref b5)] [.int r37] h36 rc rs n0 Q X
        exact g_iret dX7_ticks_35 rfl K
theorem dX7_come_0 : decode cX7_come 0 = .ok (.aload_n 0, 1) := by decide +kernel
theorem dX7_come_1 : decode cX7_come 1 = .ok (.getfield 37, 3) := by decide +kernel
theorem dX7_come_4 : decode cX7_come 4 = .ok (.getfield 81, 3) := by decide +kernel
theorem dX7_come_7 : decode cX7_come 7 = .ok (.astore 4, 2) := by decide +kernel
theorem dX7_come_9 : decode cX7_come 9 = .ok (.aload 4, 2) := by decide +kernel
theorem dX7_come_11 : decode cX7_come 11 = .ok (.iload_n 1, 1) := by decide +kernel
theorem dX7_come_12 : decode cX7_come 12 = .ok (.invokevirtual 265, 3) := by decide +kernel
theorem dX7_come_15 : decode cX7_come 15 = .ok (.ifCond .eq 21, 3) := by decide +kernel
theorem dX7_come_18 : decode cX7_come 18 = .ok (.aload 4, 2) := by decide +kernel
theorem dX7_come_20 : decode cX7_come 20 = .ok (.iload_n 2, 1) := by decide +kernel
theorem dX7_come_21 : decode cX7_come 21 = .ok (.invokevirtual 265, 3) := by decide +kernel
theorem dX7_come_24 : decode cX7_come 24 = .ok (.ifCond .eq 12, 3) := by decide +kernel
theorem dX7_come_27 : decode cX7_come 27 = .ok (.iload_n 1, 1) := by decide +kernel
theorem dX7_come_28 : decode cX7_come 28 = .ok (.iload_n 2, 1) := by decide +kernel
theorem dX7_come_29 : decode cX7_come 29 = .ok (.if_icmp .eq 7, 3) := by decide +kernel
theorem dX7_come_32 : decode cX7_come 32 = .ok (.iconst 1, 1) := by decide +kernel
theorem dX7_come_33 : decode cX7_come 33 = .ok (.goto 4, 3) := by decide +kernel
theorem dX7_come_36 : decode cX7_come 36 = .ok (.iconst 0, 1) := by decide +kernel
theorem dX7_come_37 : decode cX7_come 37 = .ok (.istore 5, 2) := by decide +kernel
theorem dX7_come_39 : decode cX7_come 39 = .ok (.iload 5, 2) := by decide +kernel
theorem dX7_come_41 : decode cX7_come 41 = .ok (.ifCond .eq 20, 3) := by decide +kernel
theorem dX7_come_44 : decode cX7_come 44 = .ok (.iload_n 3, 1) := by decide +kernel
theorem dX7_come_45 : decode cX7_come 45 = .ok (.invokestatic 269, 3) := by decide +kernel
theorem dX7_come_48 : decode cX7_come 48 = .ok (.ifCond .eq 13, 3) := by decide +kernel
theorem dX7_come_51 : decode cX7_come 51 = .ok (.aload 4, 2) := by decide +kernel
theorem dX7_come_53 : decode cX7_come 53 = .ok (.getfield 90, 3) := by decide +kernel
theorem dX7_come_56 : decode cX7_come 56 = .ok (.bipush 24, 2) := by decide +kernel
theorem dX7_come_58 : decode cX7_come 58 = .ok (.if_icmp .lt 8, 3) := by decide +kernel
theorem dX7_come_61 : decode cX7_come 61 = .ok (.aload_n 0, 1) := by decide +kernel
theorem dX7_come_62 : decode cX7_come 62 = .ok (.invokevirtual 292, 3) := by decide +kernel
theorem dX7_come_65 : decode cX7_come 65 = .ok (.ireturn, 1) := by decide +kernel
theorem dX7_come_66 : decode cX7_come 66 = .ok (.aload_n 0, 1) := by decide +kernel
theorem dX7_come_67 : decode cX7_come 67 = .ok (.getfield 37, 3) := by decide +kernel
theorem dX7_come_70 : decode cX7_come 70 = .ok (.getfield 150, 3) := by decide +kernel
theorem dX7_come_73 : decode cX7_come 73 = .ok (.aload 4, 2) := by decide +kernel
theorem dX7_come_75 : decode cX7_come 75 = .ok (.invokevirtual 295, 3) := by decide +kernel
theorem dX7_come_78 : decode cX7_come 78 = .ok (.aload 4, 2) := by decide +kernel
theorem dX7_come_80 : decode cX7_come 80 = .ok (.iload_n 1, 1) := by decide +kernel
theorem dX7_come_81 : decode cX7_come 81 = .ok (.iload_n 2, 1) := by decide +kernel
theorem dX7_come_82 : decode cX7_come 82 = .ok (.iload_n 3, 1) := by decide +kernel
theorem dX7_come_83 : decode cX7_come 83 = .ok (.invokevirtual 298, 3) := by decide +kernel
theorem dX7_come_86 : decode cX7_come 86 = .ok (.ireturn, 1) := by decide +kernel
set_option maxRecDepth 20000 in
set_option maxHeartbeats 4000000 in
theorem vX7_come_0 {l : Launch} {x : CX} {a0 : Nat} {x1 : Int32} {x2 : Int32} {x3 : Int32} {h : PH} {rc rs n0 : Nat} {Q : Option Value → PH → Prop} {X : String → PH → Prop}
    (K : ((hK h a0).1 = 7) ∧ ∃ b2, (hR h a0 4 = some b2) ∧ ((hK h b2).1 = 3) ∧ ∃ b5, (hR h b2 0 = some b5) ∧ ((hK h b5).1 = 1) ∧ ∃ (q7 : Int32 → PH → Prop), CI l x mX1_hasFloor 0 0 0 [.ref b5, .int x1] h q7 ∧ ∀ (r11 : Int32) (h10 : PH), q7 r11 h10 → ((r11 = 0 → ((hK h10 a0).1 = 7) ∧ ∃ (q14 : Int32 → PH → Prop), CI l x mX7_refuseAct 0 0 0 [.ref a0] h10 q14 ∧ ∀ (r18 : Int32) (h17 : PH), q14 r18 h17 → Q (some (.int r18)) h17) ∧ (¬ r11 = 0 → ((hK h10 b5).1 = 1) ∧ ∃ (q19 : Int32 → PH → Prop), CI l x mX1_hasFloor 0 0 0 [.ref b5, .int x2] h10 q19 ∧ ∀ (r23 : Int32) (h22 : PH), q19 r23 h22 → ∀ (y26 : Int32), y26 = (if r23 = 0 then 0 else (if x1 = x2 then 0 else 1 : Int32) : Int32) → ((y26 = 0 → ((hK h22 a0).1 = 7) ∧ ∃ (q29 : Int32 → PH → Prop), CI l x mX7_refuseAct 0 0 0 [.ref a0] h22 q29 ∧ ∀ (r33 : Int32) (h32 : PH), q29 r33 h32 → Q (some (.int r33)) h32) ∧ (¬ y26 = 0 → ∃ (q34 : Int32 → PH → Prop), CI l x mX7_isSort 0 0 0 [.int x3] h22 q34 ∧ ∀ (r37 : Int32) (h36 : PH), q34 r37 h36 → ((r37 = 0 → ((hK h36 a0).1 = 7) ∧ ∃ (q39 : Int32 → PH → Prop), CI l x mX7_refuseAct 0 0 0 [.ref a0] h36 q39 ∧ ∀ (r43 : Int32) (h42 : PH), q39 r43 h42 → Q (some (.int r43)) h42) ∧ (¬ r37 = 0 → ((hK h36 b5).1 = 1) ∧ (((hI h36 b5 2) < 24 → ((hK h36 a0).1 = 7) ∧ ∃ b47, (hR h36 a0 4 = some b47) ∧ ((hK h36 b47).1 = 3) ∧ ∃ b50, (hR h36 b47 1 = some b50) ∧ ((hK h36 b50).1 = 0) ∧ ∃ (mc54 ms55 : Nat) (q52 : PH → Prop), mc54 ≤ rc ∧ ms55 ≤ rs ∧ CV l x mX0_keep 4 mc54 ms55 [.ref b50, .ref b5] h36 q52 ∧ ∀ (h57 : PH), q52 h57 → ((hK h57 b5).1 = 1) ∧ ∃ (q58 : Int32 → PH → Prop), CI l x mX1_addByHand 2 0 0 [.ref b5, .int x1, .int x2, .int x3] h57 q58 ∧ ∀ (r62 : Int32) (h61 : PH), q58 r62 h61 → Q (some (.int r62)) h61) ∧ (¬ (hI h36 b5 2) < 24 → ((hK h36 a0).1 = 7) ∧ ∃ (q65 : Int32 → PH → Prop), CI l x mX7_refuseAct 0 0 0 [.ref a0] h36 q65 ∧ ∀ (r69 : Int32) (h68 : PH), q65 r69 h68 → Q (some (.int r69)) h68))))))))) :
    Gm l x mX7_come 5 0 [(0, .ref a0), (1, .int x1), (2, .int x2), (3, .int x3)] [] h rc rs n0 Q X := by
  refine g_aload_n dX7_come_0 rfl 0 rfl ?_
  obtain ⟨e1, b2, e3, K⟩ := K
  refine g_get (c := 7) (k := 4) (v := .ref b2) dX7_come_1 fc_7 (by decide) (by decide) bw_406 (congrArg pr e3) e1 ?_
  obtain ⟨e4, b5, e6, K⟩ := K
  refine g_get (c := 3) (k := 0) (v := .ref b5) dX7_come_4 fc_3 (by decide) (by decide) bw_378 (congrArg pr e6) e4 ?_
  refine g_astore (lv' := [(0, .ref a0), (1, .int x1), (2, .int x2), (3, .int x3), (4, .ref b5)]) dX7_come_7 (by decide) rfl ?_
  refine g_aload dX7_come_9 4 rfl ?_
  refine g_iload_n dX7_come_11 rfl 1 rfl ?_
  obtain ⟨e9, K⟩ := K
  obtain ⟨q7, C8, K⟩ := K
  refine g_callV (M' := mX1_hasFloor) (b := b5) (As := [.int x1]) (rest := []) (rc' := rc) (rs' := rs) dX7_come_12 bw_609 bw_610 bw_611 bw_3 bw_612 ⟨by decide +kernel, by decide +kernel, show (parseMethodDescriptor mX1_hasFloor.1.desc).map (fun d => d.parameters.length) = some 1 by decide +kernel⟩ (by decide) (by decide) (Nat.le_of_ble_eq_true rfl) fc_1 (by decide) rfl e9 C8 (Nat.le_of_eq (Nat.add_zero _)) (Nat.le_of_eq (Nat.add_zero _)) (fun _ _ h => h) ?_
  rintro _ h10 ⟨r11, rfl, K1⟩ -
  replace K := K r11 h10 K1
  show Gm l x mX7_come 5 15 [(0, .ref a0), (1, .int x1), (2, .int x2), (3, .int x3), (4, .ref b5)] [.int r11] h10 rc rs n0 Q X
  refine g_if_eq (tgt := 36) dX7_come_15 (by decide) (fun c12 => ?_) (fun c12 => ?_)
  · replace K := K.1 c12
    refine g_iconst (v := 0) dX7_come_36 (by decide) ?_
    refine g_istore (lv' := [(0, .ref a0), (1, .int x1), (2, .int x2), (3, .int x3), (4, .ref b5), (5, .int 0)]) dX7_come_37 (by decide) rfl ?_
    refine g_iload dX7_come_39 5 rfl ?_
    refine g_if_eq (tgt := 61) dX7_come_41 (by decide) (fun c13 => ?_) (fun c13 => ?_)
    · refine g_aload_n dX7_come_61 rfl 0 rfl ?_
      obtain ⟨e16, K⟩ := K
      obtain ⟨q14, C15, K⟩ := K
      refine g_callV (M' := mX7_refuseAct) (b := a0) (As := []) (rest := []) (rc' := rc) (rs' := rs) dX7_come_62 bw_440 bw_442 bs_0 bw_1 bw_443 ⟨by decide +kernel, by decide +kernel, show (parseMethodDescriptor mX7_refuseAct.1.desc).map (fun d => d.parameters.length) = some 0 by decide +kernel⟩ (by decide) (by decide) (Nat.le_of_ble_eq_true rfl) fc_7 (by decide) rfl e16 C15 (Nat.le_of_eq (Nat.add_zero _)) (Nat.le_of_eq (Nat.add_zero _)) (fun _ _ h => h) ?_
      rintro _ h17 ⟨r18, rfl, K1⟩ -
      replace K := K r18 h17 K1
      show Gm l x mX7_come 5 65 [(0, .ref a0), (1, .int x1), (2, .int x2), (3, .int x3), (4, .ref b5), (5, .int 0)] [.int r18] h17 rc rs n0 Q X
      exact g_iret dX7_come_65 rfl K
    · exact absurd c13 (by decide)
  · replace K := K.2 c12
    refine g_aload dX7_come_18 4 rfl ?_
    refine g_iload_n dX7_come_20 rfl 2 rfl ?_
    obtain ⟨e21, K⟩ := K
    obtain ⟨q19, C20, K⟩ := K
    refine g_callV (M' := mX1_hasFloor) (b := b5) (As := [.int x2]) (rest := []) (rc' := rc) (rs' := rs) dX7_come_21 bw_609 bw_610 bw_611 bw_3 bw_612 ⟨by decide +kernel, by decide +kernel, show (parseMethodDescriptor mX1_hasFloor.1.desc).map (fun d => d.parameters.length) = some 1 by decide +kernel⟩ (by decide) (by decide) (Nat.le_of_ble_eq_true rfl) fc_1 (by decide) rfl e21 C20 (Nat.le_of_eq (Nat.add_zero _)) (Nat.le_of_eq (Nat.add_zero _)) (fun _ _ h => h) ?_
    rintro _ h22 ⟨r23, rfl, K1⟩ -
    replace K := K r23 h22 K1
    show Gm l x mX7_come 5 24 [(0, .ref a0), (1, .int x1), (2, .int x2), (3, .int x3), (4, .ref b5)] [.int r23] h22 rc rs n0 Q X
    have KJ : Gm l x mX7_come 5 37 [(0, .ref a0), (1, .int x1), (2, .int x2), (3, .int x3), (4, .ref b5)] [.int (if r23 = 0 then 0 else (if x1 = x2 then 0 else 1 : Int32) : Int32)] h22 rc rs n0 Q X := by
      refine g_nmI (fun y26 e27 => ?_)
      replace K := K y26 e27
      refine g_istore (lv' := [(0, .ref a0), (1, .int x1), (2, .int x2), (3, .int x3), (4, .ref b5), (5, .int y26)]) dX7_come_37 (by decide) rfl ?_
      refine g_iload dX7_come_39 5 rfl ?_
      refine g_if_eq (tgt := 61) dX7_come_41 (by decide) (fun c28 => ?_) (fun c28 => ?_)
      · replace K := K.1 c28
        refine g_aload_n dX7_come_61 rfl 0 rfl ?_
        obtain ⟨e31, K⟩ := K
        obtain ⟨q29, C30, K⟩ := K
        refine g_callV (M' := mX7_refuseAct) (b := a0) (As := []) (rest := []) (rc' := rc) (rs' := rs) dX7_come_62 bw_440 bw_442 bs_0 bw_1 bw_443 ⟨by decide +kernel, by decide +kernel, show (parseMethodDescriptor mX7_refuseAct.1.desc).map (fun d => d.parameters.length) = some 0 by decide +kernel⟩ (by decide) (by decide) (Nat.le_of_ble_eq_true rfl) fc_7 (by decide) rfl e31 C30 (Nat.le_of_eq (Nat.add_zero _)) (Nat.le_of_eq (Nat.add_zero _)) (fun _ _ h => h) ?_
        rintro _ h32 ⟨r33, rfl, K1⟩ -
        replace K := K r33 h32 K1
        show Gm l x mX7_come 5 65 [(0, .ref a0), (1, .int x1), (2, .int x2), (3, .int x3), (4, .ref b5), (5, .int y26)] [.int r33] h32 rc rs n0 Q X
        exact g_iret dX7_come_65 rfl K
      · replace K := K.2 c28
        refine g_iload_n dX7_come_44 rfl 3 rfl ?_
        obtain ⟨q34, C35, K⟩ := K
        refine g_callS (M' := mX7_isSort) (As := [.int x3]) (rest := []) (rc' := rc) (rs' := rs) dX7_come_45 bw_613 bw_614 bw_1 bw_615 ⟨by decide +kernel, by decide +kernel, show (parseMethodDescriptor mX7_isSort.1.desc).map (fun d => d.parameters.length) = some 1 by decide +kernel⟩ (by decide) (by decide) (Nat.le_of_ble_eq_true rfl) C35 (Nat.le_of_eq (Nat.add_zero _)) (Nat.le_of_eq (Nat.add_zero _)) (fun _ _ h => h) ?_
        rintro _ h36 ⟨r37, rfl, K1⟩ -
        replace K := K r37 h36 K1
        show Gm l x mX7_come 5 48 [(0, .ref a0), (1, .int x1), (2, .int x2), (3, .int x3), (4, .ref b5), (5, .int y26)] [.int r37] h36 rc rs n0 Q X
        refine g_if_eq (tgt := 61) dX7_come_48 (by decide) (fun c38 => ?_) (fun c38 => ?_)
        · replace K := K.1 c38
          refine g_aload_n dX7_come_61 rfl 0 rfl ?_
          obtain ⟨e41, K⟩ := K
          obtain ⟨q39, C40, K⟩ := K
          refine g_callV (M' := mX7_refuseAct) (b := a0) (As := []) (rest := []) (rc' := rc) (rs' := rs) dX7_come_62 bw_440 bw_442 bs_0 bw_1 bw_443 ⟨by decide +kernel, by decide +kernel, show (parseMethodDescriptor mX7_refuseAct.1.desc).map (fun d => d.parameters.length) = some 0 by decide +kernel⟩ (by decide) (by decide) (Nat.le_of_ble_eq_true rfl) fc_7 (by decide) rfl e41 C40 (Nat.le_of_eq (Nat.add_zero _)) (Nat.le_of_eq (Nat.add_zero _)) (fun _ _ h => h) ?_
          rintro _ h42 ⟨r43, rfl, K1⟩ -
          replace K := K r43 h42 K1
          show Gm l x mX7_come 5 65 [(0, .ref a0), (1, .int x1), (2, .int x2), (3, .int x3), (4, .ref b5), (5, .int y26)] [.int r43] h42 rc rs n0 Q X
          exact g_iret dX7_come_65 rfl K
        · replace K := K.2 c38
          refine g_aload dX7_come_51 4 rfl ?_
          obtain ⟨e44, K⟩ := K
          refine g_get (c := 1) (k := 2) (v := .int (hI h36 b5 2)) dX7_come_53 fc_1 (by decide) (by decide) bw_194 rfl e44 ?_
          refine g_bipush (v := 24) dX7_come_56 (by decide) ?_
          refine g_icmp_lt (tgt := 66) dX7_come_58 (by decide) (fun c45 => ?_) (fun c45 => ?_)
          · replace K := K.1 c45
            refine g_aload_n dX7_come_66 rfl 0 rfl ?_
            obtain ⟨e46, b47, e48, K⟩ := K
            refine g_get (c := 7) (k := 4) (v := .ref b47) dX7_come_67 fc_7 (by decide) (by decide) bw_406 (congrArg pr e48) e46 ?_
            obtain ⟨e49, b50, e51, K⟩ := K
            refine g_get (c := 3) (k := 1) (v := .ref b50) dX7_come_70 fc_3 (by decide) (by decide) bw_380 (congrArg pr e51) e49 ?_
            refine g_aload dX7_come_73 4 rfl ?_
            obtain ⟨e56, K⟩ := K
            obtain ⟨mc54, ms55, q52, e63, e64, C53, K⟩ := K
            refine g_callV (M' := mX0_keep) (b := b50) (As := [.ref b5]) (rest := []) (rc' := (rc - mc54)) (rs' := (rs - ms55)) dX7_come_75 bw_444 bw_445 bw_446 bw_8 bw_447 ⟨by decide +kernel, by decide +kernel, show (parseMethodDescriptor mX0_keep.1.desc).map (fun d => d.parameters.length) = some 1 by decide +kernel⟩ (by decide) (by decide) (Nat.le_of_ble_eq_true rfl) fc_0 (by decide) rfl e56 C53 (by omega) (by omega) (fun _ _ h => h) ?_
            rintro _ h57 ⟨rfl, K1⟩ -
            replace K := K h57 K1
            show Gm l x mX7_come 5 78 [(0, .ref a0), (1, .int x1), (2, .int x2), (3, .int x3), (4, .ref b5), (5, .int y26)] [] h57 (rc - mc54) (rs - ms55) n0 Q X
            refine g_aload dX7_come_78 4 rfl ?_
            refine g_iload_n dX7_come_80 rfl 1 rfl ?_
            refine g_iload_n dX7_come_81 rfl 2 rfl ?_
            refine g_iload_n dX7_come_82 rfl 3 rfl ?_
            obtain ⟨e60, K⟩ := K
            obtain ⟨q58, C59, K⟩ := K
            refine g_callV (M' := mX1_addByHand) (b := b5) (As := [.int x1, .int x2, .int x3]) (rest := []) (rc' := (rc - mc54)) (rs' := (rs - ms55)) dX7_come_83 bw_616 bw_617 bw_618 bw_3 bw_619 ⟨by decide +kernel, by decide +kernel, show (parseMethodDescriptor mX1_addByHand.1.desc).map (fun d => d.parameters.length) = some 3 by decide +kernel⟩ (by decide) (by decide) (Nat.le_of_ble_eq_true rfl) fc_1 (by decide) rfl e60 C59 (Nat.le_of_eq (Nat.add_zero _)) (Nat.le_of_eq (Nat.add_zero _)) (fun _ _ h => h) ?_
            rintro _ h61 ⟨r62, rfl, K1⟩ -
            replace K := K r62 h61 K1
            show Gm l x mX7_come 5 86 [(0, .ref a0), (1, .int x1), (2, .int x2), (3, .int x3), (4, .ref b5), (5, .int y26)] [.int r62] h61 (rc - mc54) (rs - ms55) n0 Q X
            exact g_iret dX7_come_86 rfl K
          · replace K := K.2 c45
            refine g_aload_n dX7_come_61 rfl 0 rfl ?_
            obtain ⟨e67, K⟩ := K
            obtain ⟨q65, C66, K⟩ := K
            refine g_callV (M' := mX7_refuseAct) (b := a0) (As := []) (rest := []) (rc' := rc) (rs' := rs) dX7_come_62 bw_440 bw_442 bs_0 bw_1 bw_443 ⟨by decide +kernel, by decide +kernel, show (parseMethodDescriptor mX7_refuseAct.1.desc).map (fun d => d.parameters.length) = some 0 by decide +kernel⟩ (by decide) (by decide) (Nat.le_of_ble_eq_true rfl) fc_7 (by decide) rfl e67 C66 (Nat.le_of_eq (Nat.add_zero _)) (Nat.le_of_eq (Nat.add_zero _)) (fun _ _ h => h) ?_
            rintro _ h68 ⟨r69, rfl, K1⟩ -
            replace K := K r69 h68 K1
            show Gm l x mX7_come 5 65 [(0, .ref a0), (1, .int x1), (2, .int x2), (3, .int x3), (4, .ref b5), (5, .int y26)] [.int r69] h68 rc rs n0 Q X
            exact g_iret dX7_come_65 rfl K
    refine g_if_eq (tgt := 36) dX7_come_24 (by decide) (fun c24 => ?_) (fun c24 => ?_)
    · refine g_iconst (v := 0) dX7_come_36 (by decide) ?_
      first | (simp only [if_pos c24] at KJ; exact KJ) | (simp only [if_pos c24, ite_true, ite_false, eq_self] at KJ; exact KJ) | (simp only [if_pos c24] at KJ ⊢; exact KJ) | exact KJ
    · refine g_iload_n dX7_come_27 rfl 1 rfl ?_
      refine g_iload_n dX7_come_28 rfl 2 rfl ?_
      refine g_icmp_eq (tgt := 36) dX7_come_29 (by decide) (fun c25 => ?_) (fun c25 => ?_)
      · refine g_iconst (v := 0) dX7_come_36 (by decide) ?_
        first | (simp only [if_neg c24, if_pos c25] at KJ; exact KJ) | (simp only [if_neg c24, if_pos c25, ite_true, ite_false, eq_self] at KJ; exact KJ) | (simp only [if_neg c24, if_pos c25] at KJ ⊢; exact KJ) | exact KJ
      · refine g_iconst (v := 1) dX7_come_32 (by decide) ?_
        refine g_goto (tgt := 37) dX7_come_33 (by decide) ?_
        first | (simp only [if_neg c24, if_neg c25] at KJ; exact KJ) | (simp only [if_neg c24, if_neg c25, ite_true, ite_false, eq_self] at KJ; exact KJ) | (simp only [if_neg c24, if_neg c25] at KJ ⊢; exact KJ) | exact KJ
theorem dX7_out_0 : decode cX7_out 0 = .ok (.aload_n 0, 1) := by decide +kernel
theorem dX7_out_1 : decode cX7_out 1 = .ok (.getfield 37, 3) := by decide +kernel
theorem dX7_out_4 : decode cX7_out 4 = .ok (.getfield 81, 3) := by decide +kernel
theorem dX7_out_7 : decode cX7_out 7 = .ok (.astore_n 3, 1) := by decide +kernel
theorem dX7_out_8 : decode cX7_out 8 = .ok (.iload_n 1, 1) := by decide +kernel
theorem dX7_out_9 : decode cX7_out 9 = .ok (.ifCond .lt 24, 3) := by decide +kernel
theorem dX7_out_12 : decode cX7_out 12 = .ok (.iload_n 1, 1) := by decide +kernel
theorem dX7_out_13 : decode cX7_out 13 = .ok (.aload_n 3, 1) := by decide +kernel
theorem dX7_out_14 : decode cX7_out 14 = .ok (.getfield 87, 3) := by decide +kernel
theorem dX7_out_17 : decode cX7_out 17 = .ok (.if_icmp .ge 16, 3) := by decide +kernel
theorem dX7_out_20 : decode cX7_out 20 = .ok (.aload_n 3, 1) := by decide +kernel
theorem dX7_out_21 : decode cX7_out 21 = .ok (.getfield 192, 3) := by decide +kernel
theorem dX7_out_24 : decode cX7_out 24 = .ok (.iload_n 1, 1) := by decide +kernel
theorem dX7_out_25 : decode cX7_out 25 = .ok (.aaload, 1) := by decide +kernel
theorem dX7_out_26 : decode cX7_out 26 = .ok (.getfield 219, 3) := by decide +kernel
theorem dX7_out_29 : decode cX7_out 29 = .ok (.iload_n 2, 1) := by decide +kernel
theorem dX7_out_30 : decode cX7_out 30 = .ok (.if_icmp .eq 10, 3) := by decide +kernel
theorem dX7_out_33 : decode cX7_out 33 = .ok (.aload_n 0, 1) := by decide +kernel
theorem dX7_out_34 : decode cX7_out 34 = .ok (.invokevirtual 292, 3) := by decide +kernel
theorem dX7_out_37 : decode cX7_out 37 = .ok (.pop, 1) := by decide +kernel
theorem dX7_out_38 : decode cX7_out 38 = .ok (.iconst 0, 1) := by decide +kernel
theorem dX7_out_39 : decode cX7_out 39 = .ok (.ireturn, 1) := by decide +kernel
theorem dX7_out_40 : decode cX7_out 40 = .ok (.aload_n 0, 1) := by decide +kernel
theorem dX7_out_41 : decode cX7_out 41 = .ok (.getfield 37, 3) := by decide +kernel
theorem dX7_out_44 : decode cX7_out 44 = .ok (.getfield 150, 3) := by decide +kernel
theorem dX7_out_47 : decode cX7_out 47 = .ok (.aload_n 3, 1) := by decide +kernel
theorem dX7_out_48 : decode cX7_out 48 = .ok (.invokevirtual 295, 3) := by decide +kernel
theorem dX7_out_51 : decode cX7_out 51 = .ok (.iload_n 2, 1) := by decide +kernel
theorem dX7_out_52 : decode cX7_out 52 = .ok (.ifCond .eq 11, 3) := by decide +kernel
theorem dX7_out_55 : decode cX7_out 55 = .ok (.aload_n 3, 1) := by decide +kernel
theorem dX7_out_56 : decode cX7_out 56 = .ok (.iload_n 1, 1) := by decide +kernel
theorem dX7_out_57 : decode cX7_out 57 = .ok (.invokevirtual 301, 3) := by decide +kernel
theorem dX7_out_60 : decode cX7_out 60 = .ok (.goto 13, 3) := by decide +kernel
theorem dX7_out_63 : decode cX7_out 63 = .ok (.aload_n 3, 1) := by decide +kernel
theorem dX7_out_64 : decode cX7_out 64 = .ok (.getfield 192, 3) := by decide +kernel
theorem dX7_out_67 : decode cX7_out 67 = .ok (.iload_n 1, 1) := by decide +kernel
theorem dX7_out_68 : decode cX7_out 68 = .ok (.aaload, 1) := by decide +kernel
theorem dX7_out_69 : decode cX7_out 69 = .ok (.iconst 1, 1) := by decide +kernel
theorem dX7_out_70 : decode cX7_out 70 = .ok (.putfield 219, 3) := by decide +kernel
theorem dX7_out_73 : decode cX7_out 73 = .ok (.iconst 1, 1) := by decide +kernel
theorem dX7_out_74 : decode cX7_out 74 = .ok (.ireturn, 1) := by decide +kernel
set_option maxRecDepth 20000 in
set_option maxHeartbeats 4000000 in
theorem vX7_out_0 {l : Launch} {x : CX} {a0 : Nat} {x1 : Int32} {x2 : Int32} {h : PH} {rc rs n0 : Nat} {Q : Option Value → PH → Prop} {X : String → PH → Prop}
    (K : ((hK h a0).1 = 7) ∧ ∃ b2, (hR h a0 4 = some b2) ∧ ((hK h b2).1 = 3) ∧ ∃ b5, (hR h b2 0 = some b5) ∧ ((x1 < 0 → ∃ (q8 : Int32 → PH → Prop), CI l x mX7_refuseAct 0 0 0 [.ref a0] h q8 ∧ ∀ (r11 : Int32) (h10 : PH), q8 r11 h10 → ((0 : Int32) = 0 ∨ (0 : Int32) = 1) ∧ Q (some (.int 0)) h10) ∧ (¬ x1 < 0 → ((hK h b5).1 = 1) ∧ (((hI h b5 1) ≤ x1 → ∃ (q14 : Int32 → PH → Prop), CI l x mX7_refuseAct 0 0 0 [.ref a0] h q14 ∧ ∀ (r17 : Int32) (h16 : PH), q14 r17 h16 → ((0 : Int32) = 0 ∨ (0 : Int32) = 1) ∧ Q (some (.int 0)) h16) ∧ (¬ (hI h b5 1) ≤ x1 → ∃ b18, (hR h b5 13 = some b18) ∧ ((hK h b18).1 = 105) ∧ (vp_in x1 (hK h b18).2) ∧ ∃ b22, (hR h b18 x1.toNatClampNeg = some b22) ∧ ((hK h b22).1 = 2) ∧ (((hI h b22 6) = x2 → ∃ b26, (hR h b2 1 = some b26) ∧ ((hK h b26).1 = 0) ∧ ∃ (mc30 ms31 : Nat) (q28 : PH → Prop), mc30 ≤ rc ∧ ms31 ≤ rs ∧ CV l x mX0_keep 4 mc30 ms31 [.ref b26, .ref b5] h q28 ∧ ∀ (h33 : PH), q28 h33 → ((x2 = 0 → ((hK h33 b5).1 = 1) ∧ ∃ b36, (hR h33 b5 13 = some b36) ∧ ((hK h33 b36).1 = 105) ∧ (vp_in x1 (hK h33 b36).2) ∧ ∃ b40, (hR h33 b36 x1.toNatClampNeg = some b40) ∧ ((hK h33 b40).1 = 2) ∧ ((1 : Int32) = 0 ∨ (1 : Int32) = 1) ∧ Q (some (.int 1)) (sI h33 b40 6 1)) ∧ (¬ x2 = 0 → ((hK h33 b5).1 = 1) ∧ ∃ (q43 : PH → Prop), CV l x mX1_putOutOfService 2 0 0 [.ref b5, .int x1] h33 q43 ∧ ∀ (h46 : PH), q43 h46 → ((1 : Int32) = 0 ∨ (1 : Int32) = 1) ∧ Q (some (.int 1)) h46))) ∧ (¬ (hI h b22 6) = x2 → ∃ (q49 : Int32 → PH → Prop), CI l x mX7_refuseAct 0 0 0 [.ref a0] h q49 ∧ ∀ (r52 : Int32) (h51 : PH), q49 r52 h51 → ((0 : Int32) = 0 ∨ (0 : Int32) = 1) ∧ Q (some (.int 0)) h51))))))) :
    Gm l x mX7_out 5 0 [(0, .ref a0), (1, .int x1), (2, .int x2)] [] h rc rs n0 Q X := by
  refine g_aload_n dX7_out_0 rfl 0 rfl ?_
  obtain ⟨e1, b2, e3, K⟩ := K
  refine g_get (c := 7) (k := 4) (v := .ref b2) dX7_out_1 fc_7 (by decide) (by decide) bw_406 (congrArg pr e3) e1 ?_
  obtain ⟨e4, b5, e6, K⟩ := K
  refine g_get (c := 3) (k := 0) (v := .ref b5) dX7_out_4 fc_3 (by decide) (by decide) bw_378 (congrArg pr e6) e4 ?_
  refine g_astore_n (lv' := [(0, .ref a0), (1, .int x1), (2, .int x2), (3, .ref b5)]) dX7_out_7 rfl (by decide) rfl ?_
  refine g_iload_n dX7_out_8 rfl 1 rfl ?_
  refine g_if_lt (tgt := 33) dX7_out_9 (by decide) (fun c7 => ?_) (fun c7 => ?_)
  · replace K := K.1 c7
    refine g_aload_n dX7_out_33 rfl 0 rfl ?_
    obtain ⟨q8, C9, K⟩ := K
    refine g_callV (M' := mX7_refuseAct) (b := a0) (As := []) (rest := []) (rc' := rc) (rs' := rs) dX7_out_34 bw_440 bw_442 bs_0 bw_1 bw_443 ⟨by decide +kernel, by decide +kernel, show (parseMethodDescriptor mX7_refuseAct.1.desc).map (fun d => d.parameters.length) = some 0 by decide +kernel⟩ (by decide) (by decide) (Nat.le_of_ble_eq_true rfl) fc_7 (by decide) rfl e1 C9 (Nat.le_of_eq (Nat.add_zero _)) (Nat.le_of_eq (Nat.add_zero _)) (fun _ _ h => h) ?_
    rintro _ h10 ⟨r11, rfl, K1⟩ -
    replace K := K r11 h10 K1
    show Gm l x mX7_out 5 37 [(0, .ref a0), (1, .int x1), (2, .int x2), (3, .ref b5)] [.int r11] h10 rc rs n0 Q X
    refine g_pop dX7_out_37 rfl ?_
    refine g_iconst (v := 0) dX7_out_38 (by decide) ?_
    exact g_zret dX7_out_39 rfl K.1 K.2
  · replace K := K.2 c7
    refine g_iload_n dX7_out_12 rfl 1 rfl ?_
    refine g_aload_n dX7_out_13 rfl 3 rfl ?_
    obtain ⟨e12, K⟩ := K
    refine g_get (c := 1) (k := 1) (v := .int (hI h b5 1)) dX7_out_14 fc_1 (by decide) (by decide) bw_189 rfl e12 ?_
    refine g_icmp_ge (tgt := 33) dX7_out_17 (by decide) (fun c13 => ?_) (fun c13 => ?_)
    · replace K := K.1 c13
      refine g_aload_n dX7_out_33 rfl 0 rfl ?_
      obtain ⟨q14, C15, K⟩ := K
      refine g_callV (M' := mX7_refuseAct) (b := a0) (As := []) (rest := []) (rc' := rc) (rs' := rs) dX7_out_34 bw_440 bw_442 bs_0 bw_1 bw_443 ⟨by decide +kernel, by decide +kernel, show (parseMethodDescriptor mX7_refuseAct.1.desc).map (fun d => d.parameters.length) = some 0 by decide +kernel⟩ (by decide) (by decide) (Nat.le_of_ble_eq_true rfl) fc_7 (by decide) rfl e1 C15 (Nat.le_of_eq (Nat.add_zero _)) (Nat.le_of_eq (Nat.add_zero _)) (fun _ _ h => h) ?_
      rintro _ h16 ⟨r17, rfl, K1⟩ -
      replace K := K r17 h16 K1
      show Gm l x mX7_out 5 37 [(0, .ref a0), (1, .int x1), (2, .int x2), (3, .ref b5)] [.int r17] h16 rc rs n0 Q X
      refine g_pop dX7_out_37 rfl ?_
      refine g_iconst (v := 0) dX7_out_38 (by decide) ?_
      exact g_zret dX7_out_39 rfl K.1 K.2
    · replace K := K.2 c13
      refine g_aload_n dX7_out_20 rfl 3 rfl ?_
      obtain ⟨b18, e19, K⟩ := K
      refine g_get (c := 1) (k := 13) (v := .ref b18) dX7_out_21 fc_1 (by decide) (by decide) bw_224 (congrArg pr e19) e12 ?_
      refine g_iload_n dX7_out_24 rfl 1 rfl ?_
      obtain ⟨e20, e21, b22, e23, K⟩ := K
      refine g_aald (t := 5) (v := .ref b22) dX7_out_25 (Or.inl rfl) e20 e21 (congrArg pr e23) ?_
      obtain ⟨e24, K⟩ := K
      refine g_get (c := 2) (k := 6) (v := .int (hI h b22 6)) dX7_out_26 fc_2 (by decide) (by decide) bw_73 rfl e24 ?_
      refine g_iload_n dX7_out_29 rfl 2 rfl ?_
      refine g_icmp_eq (tgt := 40) dX7_out_30 (by decide) (fun c25 => ?_) (fun c25 => ?_)
      · replace K := K.1 c25
        refine g_aload_n dX7_out_40 rfl 0 rfl ?_
        refine g_get (c := 7) (k := 4) (v := .ref b2) dX7_out_41 fc_7 (by decide) (by decide) bw_406 (congrArg pr e3) e1 ?_
        obtain ⟨b26, e27, K⟩ := K
        refine g_get (c := 3) (k := 1) (v := .ref b26) dX7_out_44 fc_3 (by decide) (by decide) bw_380 (congrArg pr e27) e4 ?_
        refine g_aload_n dX7_out_47 rfl 3 rfl ?_
        obtain ⟨e32, K⟩ := K
        obtain ⟨mc30, ms31, q28, e47, e48, C29, K⟩ := K
        refine g_callV (M' := mX0_keep) (b := b26) (As := [.ref b5]) (rest := []) (rc' := (rc - mc30)) (rs' := (rs - ms31)) dX7_out_48 bw_444 bw_445 bw_446 bw_8 bw_447 ⟨by decide +kernel, by decide +kernel, show (parseMethodDescriptor mX0_keep.1.desc).map (fun d => d.parameters.length) = some 1 by decide +kernel⟩ (by decide) (by decide) (Nat.le_of_ble_eq_true rfl) fc_0 (by decide) rfl e32 C29 (by omega) (by omega) (fun _ _ h => h) ?_
        rintro _ h33 ⟨rfl, K1⟩ -
        replace K := K h33 K1
        show Gm l x mX7_out 5 51 [(0, .ref a0), (1, .int x1), (2, .int x2), (3, .ref b5)] [] h33 (rc - mc30) (rs - ms31) n0 Q X
        refine g_iload_n dX7_out_51 rfl 2 rfl ?_
        refine g_if_eq (tgt := 63) dX7_out_52 (by decide) (fun c34 => ?_) (fun c34 => ?_)
        · replace K := K.1 c34
          refine g_aload_n dX7_out_63 rfl 3 rfl ?_
          obtain ⟨e35, b36, e37, K⟩ := K
          refine g_get (c := 1) (k := 13) (v := .ref b36) dX7_out_64 fc_1 (by decide) (by decide) bw_224 (congrArg pr e37) e35 ?_
          refine g_iload_n dX7_out_67 rfl 1 rfl ?_
          obtain ⟨e38, e39, b40, e41, K⟩ := K
          refine g_aald (t := 5) (v := .ref b40) dX7_out_68 (Or.inl rfl) e38 e39 (congrArg pr e41) ?_
          refine g_iconst (v := 1) dX7_out_69 (by decide) ?_
          obtain ⟨e42, K⟩ := K
          refine g_putz (c := 2) (k := 6) dX7_out_70 fc_2 (by decide) (by decide) bw_73 (Or.inl rfl) rfl (by decide) e42 ?_
          refine g_iconst (v := 1) dX7_out_73 (by decide) ?_
          exact g_zret dX7_out_74 rfl K.1 K.2
        · replace K := K.2 c34
          refine g_aload_n dX7_out_55 rfl 3 rfl ?_
          refine g_iload_n dX7_out_56 rfl 1 rfl ?_
          obtain ⟨e45, K⟩ := K
          obtain ⟨q43, C44, K⟩ := K
          refine g_callV (M' := mX1_putOutOfService) (b := b5) (As := [.int x1]) (rest := []) (rc' := (rc - mc30)) (rs' := (rs - ms31)) dX7_out_57 bw_632 bw_633 bw_634 bw_3 bw_635 ⟨by decide +kernel, by decide +kernel, show (parseMethodDescriptor mX1_putOutOfService.1.desc).map (fun d => d.parameters.length) = some 1 by decide +kernel⟩ (by decide) (by decide) (Nat.le_of_ble_eq_true rfl) fc_1 (by decide) rfl e45 C44 (Nat.le_of_eq (Nat.add_zero _)) (Nat.le_of_eq (Nat.add_zero _)) (fun _ _ h => h) ?_
          rintro _ h46 ⟨rfl, K1⟩ -
          replace K := K h46 K1
          show Gm l x mX7_out 5 60 [(0, .ref a0), (1, .int x1), (2, .int x2), (3, .ref b5)] [] h46 (rc - mc30) (rs - ms31) n0 Q X
          refine g_goto (tgt := 73) dX7_out_60 (by decide) ?_
          refine g_iconst (v := 1) dX7_out_73 (by decide) ?_
          exact g_zret dX7_out_74 rfl K.1 K.2
      · replace K := K.2 c25
        refine g_aload_n dX7_out_33 rfl 0 rfl ?_
        obtain ⟨q49, C50, K⟩ := K
        refine g_callV (M' := mX7_refuseAct) (b := a0) (As := []) (rest := []) (rc' := rc) (rs' := rs) dX7_out_34 bw_440 bw_442 bs_0 bw_1 bw_443 ⟨by decide +kernel, by decide +kernel, show (parseMethodDescriptor mX7_refuseAct.1.desc).map (fun d => d.parameters.length) = some 0 by decide +kernel⟩ (by decide) (by decide) (Nat.le_of_ble_eq_true rfl) fc_7 (by decide) rfl e1 C50 (Nat.le_of_eq (Nat.add_zero _)) (Nat.le_of_eq (Nat.add_zero _)) (fun _ _ h => h) ?_
        rintro _ h51 ⟨r52, rfl, K1⟩ -
        replace K := K r52 h51 K1
        show Gm l x mX7_out 5 37 [(0, .ref a0), (1, .int x1), (2, .int x2), (3, .ref b5)] [.int r52] h51 rc rs n0 Q X
        refine g_pop dX7_out_37 rfl ?_
        refine g_iconst (v := 0) dX7_out_38 (by decide) ?_
        exact g_zret dX7_out_39 rfl K.1 K.2
theorem dX7_fire_0 : decode cX7_fire 0 = .ok (.aload_n 0, 1) := by decide +kernel
theorem dX7_fire_1 : decode cX7_fire 1 = .ok (.getfield 37, 3) := by decide +kernel
theorem dX7_fire_4 : decode cX7_fire 4 = .ok (.getfield 81, 3) := by decide +kernel
theorem dX7_fire_7 : decode cX7_fire 7 = .ok (.astore_n 2, 1) := by decide +kernel
theorem dX7_fire_8 : decode cX7_fire 8 = .ok (.aload_n 2, 1) := by decide +kernel
theorem dX7_fire_9 : decode cX7_fire 9 = .ok (.getfield 108, 3) := by decide +kernel
theorem dX7_fire_12 : decode cX7_fire 12 = .ok (.iload_n 1, 1) := by decide +kernel
theorem dX7_fire_13 : decode cX7_fire 13 = .ok (.if_icmp .ne 10, 3) := by decide +kernel
theorem dX7_fire_16 : decode cX7_fire 16 = .ok (.aload_n 0, 1) := by decide +kernel
theorem dX7_fire_17 : decode cX7_fire 17 = .ok (.invokevirtual 292, 3) := by decide +kernel
theorem dX7_fire_20 : decode cX7_fire 20 = .ok (.pop, 1) := by decide +kernel
theorem dX7_fire_21 : decode cX7_fire 21 = .ok (.iconst 0, 1) := by decide +kernel
theorem dX7_fire_22 : decode cX7_fire 22 = .ok (.ireturn, 1) := by decide +kernel
theorem dX7_fire_23 : decode cX7_fire 23 = .ok (.aload_n 0, 1) := by decide +kernel
theorem dX7_fire_24 : decode cX7_fire 24 = .ok (.getfield 37, 3) := by decide +kernel
theorem dX7_fire_27 : decode cX7_fire 27 = .ok (.getfield 150, 3) := by decide +kernel
theorem dX7_fire_30 : decode cX7_fire 30 = .ok (.aload_n 2, 1) := by decide +kernel
theorem dX7_fire_31 : decode cX7_fire 31 = .ok (.invokevirtual 295, 3) := by decide +kernel
theorem dX7_fire_34 : decode cX7_fire 34 = .ok (.aload_n 2, 1) := by decide +kernel
theorem dX7_fire_35 : decode cX7_fire 35 = .ok (.iload_n 1, 1) := by decide +kernel
theorem dX7_fire_36 : decode cX7_fire 36 = .ok (.putfield 108, 3) := by decide +kernel
theorem dX7_fire_39 : decode cX7_fire 39 = .ok (.iconst 1, 1) := by decide +kernel
theorem dX7_fire_40 : decode cX7_fire 40 = .ok (.ireturn, 1) := by decide +kernel
set_option maxRecDepth 20000 in
set_option maxHeartbeats 4000000 in
theorem vX7_fire_0 {l : Launch} {x : CX} {a0 : Nat} {x1 : Int32} {h : PH} {rc rs n0 : Nat} {Q : Option Value → PH → Prop} {X : String → PH → Prop}
    (K : ((hK h a0).1 = 7) ∧ ∃ b2, (hR h a0 4 = some b2) ∧ ((hK h b2).1 = 3) ∧ ∃ b5, (hR h b2 0 = some b5) ∧ ((hK h b5).1 = 1) ∧ ((¬ (hI h b5 8) = x1 → ∃ b9, (hR h b2 1 = some b9) ∧ ((hK h b9).1 = 0) ∧ ∃ (mc13 ms14 : Nat) (q11 : PH → Prop), mc13 ≤ rc ∧ ms14 ≤ rs ∧ CV l x mX0_keep 4 mc13 ms14 [.ref b9, .ref b5] h q11 ∧ ∀ (h16 : PH), q11 h16 → ((hK h16 b5).1 = 1) ∧ ((x1 : Int32) = 0 ∨ (x1 : Int32) = 1) ∧ ((1 : Int32) = 0 ∨ (1 : Int32) = 1) ∧ Q (some (.int 1)) (sI h16 b5 8 x1)) ∧ ((hI h b5 8) = x1 → ∃ (q21 : Int32 → PH → Prop), CI l x mX7_refuseAct 0 0 0 [.ref a0] h q21 ∧ ∀ (r24 : Int32) (h23 : PH), q21 r24 h23 → ((0 : Int32) = 0 ∨ (0 : Int32) = 1) ∧ Q (some (.int 0)) h23))) :
    Gm l x mX7_fire 5 0 [(0, .ref a0), (1, .int x1)] [] h rc rs n0 Q X := by
  refine g_aload_n dX7_fire_0 rfl 0 rfl ?_
  obtain ⟨e1, b2, e3, K⟩ := K
  refine g_get (c := 7) (k := 4) (v := .ref b2) dX7_fire_1 fc_7 (by decide) (by decide) bw_406 (congrArg pr e3) e1 ?_
  obtain ⟨e4, b5, e6, K⟩ := K
  refine g_get (c := 3) (k := 0) (v := .ref b5) dX7_fire_4 fc_3 (by decide) (by decide) bw_378 (congrArg pr e6) e4 ?_
  refine g_astore_n (lv' := [(0, .ref a0), (1, .int x1), (2, .ref b5)]) dX7_fire_7 rfl (by decide) rfl ?_
  refine g_aload_n dX7_fire_8 rfl 2 rfl ?_
  obtain ⟨e7, K⟩ := K
  refine g_get (c := 1) (k := 8) (v := .int (hI h b5 8)) dX7_fire_9 fc_1 (by decide) (by decide) bw_215 rfl e7 ?_
  refine g_iload_n dX7_fire_12 rfl 1 rfl ?_
  refine g_icmp_ne (tgt := 23) dX7_fire_13 (by decide) (fun c8 => ?_) (fun c8 => ?_)
  · replace K := K.1 c8
    refine g_aload_n dX7_fire_23 rfl 0 rfl ?_
    refine g_get (c := 7) (k := 4) (v := .ref b2) dX7_fire_24 fc_7 (by decide) (by decide) bw_406 (congrArg pr e3) e1 ?_
    obtain ⟨b9, e10, K⟩ := K
    refine g_get (c := 3) (k := 1) (v := .ref b9) dX7_fire_27 fc_3 (by decide) (by decide) bw_380 (congrArg pr e10) e4 ?_
    refine g_aload_n dX7_fire_30 rfl 2 rfl ?_
    obtain ⟨e15, K⟩ := K
    obtain ⟨mc13, ms14, q11, e19, e20, C12, K⟩ := K
    refine g_callV (M' := mX0_keep) (b := b9) (As := [.ref b5]) (rest := []) (rc' := (rc - mc13)) (rs' := (rs - ms14)) dX7_fire_31 bw_444 bw_445 bw_446 bw_8 bw_447 ⟨by decide +kernel, by decide +kernel, show (parseMethodDescriptor mX0_keep.1.desc).map (fun d => d.parameters.length) = some 1 by decide +kernel⟩ (by decide) (by decide) (Nat.le_of_ble_eq_true rfl) fc_0 (by decide) rfl e15 C12 (by omega) (by omega) (fun _ _ h => h) ?_
    rintro _ h16 ⟨rfl, K1⟩ -
    replace K := K h16 K1
    show Gm l x mX7_fire 5 34 [(0, .ref a0), (1, .int x1), (2, .ref b5)] [] h16 (rc - mc13) (rs - ms14) n0 Q X
    refine g_aload_n dX7_fire_34 rfl 2 rfl ?_
    refine g_iload_n dX7_fire_35 rfl 1 rfl ?_
    obtain ⟨e17, e18, K⟩ := K
    refine g_putz (c := 1) (k := 8) dX7_fire_36 fc_1 (by decide) (by decide) bw_215 (Or.inl rfl) rfl e18 e17 ?_
    refine g_iconst (v := 1) dX7_fire_39 (by decide) ?_
    exact g_zret dX7_fire_40 rfl K.1 K.2
  · replace K := K.2 c8
    refine g_aload_n dX7_fire_16 rfl 0 rfl ?_
    obtain ⟨q21, C22, K⟩ := K
    refine g_callV (M' := mX7_refuseAct) (b := a0) (As := []) (rest := []) (rc' := rc) (rs' := rs) dX7_fire_17 bw_440 bw_442 bs_0 bw_1 bw_443 ⟨by decide +kernel, by decide +kernel, show (parseMethodDescriptor mX7_refuseAct.1.desc).map (fun d => d.parameters.length) = some 0 by decide +kernel⟩ (by decide) (by decide) (Nat.le_of_ble_eq_true rfl) fc_7 (by decide) rfl e1 C22 (Nat.le_of_eq (Nat.add_zero _)) (Nat.le_of_eq (Nat.add_zero _)) (fun _ _ h => h) ?_
    rintro _ h23 ⟨r24, rfl, K1⟩ -
    replace K := K r24 h23 K1
    show Gm l x mX7_fire 5 20 [(0, .ref a0), (1, .int x1), (2, .ref b5)] [.int r24] h23 rc rs n0 Q X
    refine g_pop dX7_fire_20 rfl ?_
    refine g_iconst (v := 0) dX7_fire_21 (by decide) ?_
    exact g_zret dX7_fire_22 rfl K.1 K.2
theorem dX7_rule_0 : decode cX7_rule 0 = .ok (.aload_n 0, 1) := by decide +kernel
theorem dX7_rule_1 : decode cX7_rule 1 = .ok (.getfield 37, 3) := by decide +kernel
theorem dX7_rule_4 : decode cX7_rule 4 = .ok (.getfield 81, 3) := by decide +kernel
theorem dX7_rule_7 : decode cX7_rule 7 = .ok (.astore_n 3, 1) := by decide +kernel
theorem dX7_rule_8 : decode cX7_rule 8 = .ok (.iload_n 1, 1) := by decide +kernel
theorem dX7_rule_9 : decode cX7_rule 9 = .ok (.ifCond .ne 16, 3) := by decide +kernel
theorem dX7_rule_12 : decode cX7_rule 12 = .ok (.iload_n 2, 1) := by decide +kernel
theorem dX7_rule_13 : decode cX7_rule 13 = .ok (.ifCond .lt 12, 3) := by decide +kernel
theorem dX7_rule_16 : decode cX7_rule 16 = .ok (.iload_n 2, 1) := by decide +kernel
theorem dX7_rule_17 : decode cX7_rule 17 = .ok (.iconst 3, 1) := by decide +kernel
theorem dX7_rule_18 : decode cX7_rule 18 = .ok (.if_icmp .ge 7, 3) := by decide +kernel
theorem dX7_rule_21 : decode cX7_rule 21 = .ok (.iconst 1, 1) := by decide +kernel
theorem dX7_rule_22 : decode cX7_rule 22 = .ok (.goto 4, 3) := by decide +kernel
theorem dX7_rule_25 : decode cX7_rule 25 = .ok (.iconst 0, 1) := by decide +kernel
theorem dX7_rule_26 : decode cX7_rule 26 = .ok (.istore 4, 2) := by decide +kernel
theorem dX7_rule_28 : decode cX7_rule 28 = .ok (.iload_n 1, 1) := by decide +kernel
theorem dX7_rule_29 : decode cX7_rule 29 = .ok (.iconst 1, 1) := by decide +kernel
theorem dX7_rule_30 : decode cX7_rule 30 = .ok (.if_icmp .ne 17, 3) := by decide +kernel
theorem dX7_rule_33 : decode cX7_rule 33 = .ok (.iload_n 2, 1) := by decide +kernel
theorem dX7_rule_34 : decode cX7_rule 34 = .ok (.ifCond .lt 13, 3) := by decide +kernel
theorem dX7_rule_37 : decode cX7_rule 37 = .ok (.iload_n 2, 1) := by decide +kernel
theorem dX7_rule_38 : decode cX7_rule 38 = .ok (.bipush 12, 2) := by decide +kernel
theorem dX7_rule_40 : decode cX7_rule 40 = .ok (.if_icmp .ge 7, 3) := by decide +kernel
theorem dX7_rule_43 : decode cX7_rule 43 = .ok (.iconst 1, 1) := by decide +kernel
theorem dX7_rule_44 : decode cX7_rule 44 = .ok (.goto 4, 3) := by decide +kernel
theorem dX7_rule_47 : decode cX7_rule 47 = .ok (.iconst 0, 1) := by decide +kernel
theorem dX7_rule_48 : decode cX7_rule 48 = .ok (.istore 5, 2) := by decide +kernel
theorem dX7_rule_50 : decode cX7_rule 50 = .ok (.iload 4, 2) := by decide +kernel
theorem dX7_rule_52 : decode cX7_rule 52 = .ok (.ifCond .ne 13, 3) := by decide +kernel
theorem dX7_rule_55 : decode cX7_rule 55 = .ok (.iload 5, 2) := by decide +kernel
theorem dX7_rule_57 : decode cX7_rule 57 = .ok (.ifCond .ne 8, 3) := by decide +kernel
theorem dX7_rule_60 : decode cX7_rule 60 = .ok (.aload_n 0, 1) := by decide +kernel
theorem dX7_rule_61 : decode cX7_rule 61 = .ok (.invokevirtual 292, 3) := by decide +kernel
theorem dX7_rule_64 : decode cX7_rule 64 = .ok (.ireturn, 1) := by decide +kernel
theorem dX7_rule_65 : decode cX7_rule 65 = .ok (.aload_n 0, 1) := by decide +kernel
theorem dX7_rule_66 : decode cX7_rule 66 = .ok (.getfield 37, 3) := by decide +kernel
theorem dX7_rule_69 : decode cX7_rule 69 = .ok (.getfield 150, 3) := by decide +kernel
theorem dX7_rule_72 : decode cX7_rule 72 = .ok (.aload_n 3, 1) := by decide +kernel
theorem dX7_rule_73 : decode cX7_rule 73 = .ok (.invokevirtual 295, 3) := by decide +kernel
theorem dX7_rule_76 : decode cX7_rule 76 = .ok (.iload 4, 2) := by decide +kernel
theorem dX7_rule_78 : decode cX7_rule 78 = .ok (.ifCond .eq 10, 3) := by decide +kernel
theorem dX7_rule_81 : decode cX7_rule 81 = .ok (.aload_n 3, 1) := by decide +kernel
theorem dX7_rule_82 : decode cX7_rule 82 = .ok (.getfield 99, 3) := by decide +kernel
theorem dX7_rule_85 : decode cX7_rule 85 = .ok (.goto 7, 3) := by decide +kernel
theorem dX7_rule_88 : decode cX7_rule 88 = .ok (.aload_n 3, 1) := by decide +kernel
theorem dX7_rule_89 : decode cX7_rule 89 = .ok (.getfield 96, 3) := by decide +kernel
theorem dX7_rule_92 : decode cX7_rule 92 = .ok (.istore 6, 2) := by decide +kernel
theorem dX7_rule_94 : decode cX7_rule 94 = .ok (.iload 4, 2) := by decide +kernel
theorem dX7_rule_96 : decode cX7_rule 96 = .ok (.ifCond .eq 11, 3) := by decide +kernel
theorem dX7_rule_99 : decode cX7_rule 99 = .ok (.aload_n 3, 1) := by decide +kernel
theorem dX7_rule_100 : decode cX7_rule 100 = .ok (.iload_n 2, 1) := by decide +kernel
theorem dX7_rule_101 : decode cX7_rule 101 = .ok (.putfield 99, 3) := by decide +kernel
theorem dX7_rule_104 : decode cX7_rule 104 = .ok (.goto 8, 3) := by decide +kernel
theorem dX7_rule_107 : decode cX7_rule 107 = .ok (.aload_n 3, 1) := by decide +kernel
theorem dX7_rule_108 : decode cX7_rule 108 = .ok (.iload_n 2, 1) := by decide +kernel
theorem dX7_rule_109 : decode cX7_rule 109 = .ok (.putfield 96, 3) := by decide +kernel
theorem dX7_rule_112 : decode cX7_rule 112 = .ok (.iload 6, 2) := by decide +kernel
theorem dX7_rule_114 : decode cX7_rule 114 = .ok (.ireturn, 1) := by decide +kernel
set_option maxRecDepth 20000 in
set_option maxHeartbeats 4000000 in
theorem vX7_rule_0 {l : Launch} {x : CX} {a0 : Nat} {x1 : Int32} {x2 : Int32} {h : PH} {rc rs n0 : Nat} {Q : Option Value → PH → Prop} {X : String → PH → Prop}
    (K : ((hK h a0).1 = 7) ∧ ∃ b2, (hR h a0 4 = some b2) ∧ ((hK h b2).1 = 3) ∧ ∃ b5, (hR h b2 0 = some b5) ∧ ∀ (y10 : Int32), y10 = (if x1 = 0 then (if x2 < 0 then 0 else (if 3 ≤ x2 then 0 else 1 : Int32) : Int32) else 0 : Int32) → ∀ (y15 : Int32), y15 = (if x1 = 1 then (if x2 < 0 then 0 else (if 12 ≤ x2 then 0 else 1 : Int32) : Int32) else 0 : Int32) → ((¬ y10 = 0 → ∃ b18, (hR h b2 1 = some b18) ∧ ((hK h b18).1 = 0) ∧ ∃ (mc22 ms23 : Nat) (q20 : PH → Prop), mc22 ≤ rc ∧ ms23 ≤ rs ∧ CV l x mX0_keep 4 mc22 ms23 [.ref b18, .ref b5] h q20 ∧ ∀ (h25 : PH), q20 h25 → ((y10 = 0 → ((hK h25 b5).1 = 1) ∧ ((y10 = 0 → Q (some (.int (hI h25 b5 4))) (sI h25 b5 4 x2)) ∧ (¬ y10 = 0 → Q (some (.int (hI h25 b5 4))) (sI h25 b5 5 x2)))) ∧ (¬ y10 = 0 → ((hK h25 b5).1 = 1) ∧ ((y10 = 0 → Q (some (.int (hI h25 b5 5))) (sI h25 b5 4 x2)) ∧ (¬ y10 = 0 → Q (some (.int (hI h25 b5 5))) (sI h25 b5 5 x2)))))) ∧ (y10 = 0 → ((¬ y15 = 0 → ∃ b34, (hR h b2 1 = some b34) ∧ ((hK h b34).1 = 0) ∧ ∃ (mc38 ms39 : Nat) (q36 : PH → Prop), mc38 ≤ rc ∧ ms39 ≤ rs ∧ CV l x mX0_keep 4 mc38 ms39 [.ref b34, .ref b5] h q36 ∧ ∀ (h41 : PH), q36 h41 → ((y10 = 0 → ((hK h41 b5).1 = 1) ∧ ((y10 = 0 → Q (some (.int (hI h41 b5 4))) (sI h41 b5 4 x2)) ∧ (¬ y10 = 0 → Q (some (.int (hI h41 b5 4))) (sI h41 b5 5 x2)))) ∧ (¬ y10 = 0 → ((hK h41 b5).1 = 1) ∧ ((y10 = 0 → Q (some (.int (hI h41 b5 5))) (sI h41 b5 4 x2)) ∧ (¬ y10 = 0 → Q (some (.int (hI h41 b5 5))) (sI h41 b5 5 x2)))))) ∧ (y15 = 0 → ∃ (q49 : Int32 → PH → Prop), CI l x mX7_refuseAct 0 0 0 [.ref a0] h q49 ∧ ∀ (r52 : Int32) (h51 : PH), q49 r52 h51 → Q (some (.int r52)) h51))))) :
    Gm l x mX7_rule 5 0 [(0, .ref a0), (1, .int x1), (2, .int x2)] [] h rc rs n0 Q X := by
  refine g_aload_n dX7_rule_0 rfl 0 rfl ?_
  obtain ⟨e1, b2, e3, K⟩ := K
  refine g_get (c := 7) (k := 4) (v := .ref b2) dX7_rule_1 fc_7 (by decide) (by decide) bw_406 (congrArg pr e3) e1 ?_
  obtain ⟨e4, b5, e6, K⟩ := K
  refine g_get (c := 3) (k := 0) (v := .ref b5) dX7_rule_4 fc_3 (by decide) (by decide) bw_378 (congrArg pr e6) e4 ?_
  refine g_astore_n (lv' := [(0, .ref a0), (1, .int x1), (2, .int x2), (3, .ref b5)]) dX7_rule_7 rfl (by decide) rfl ?_
  refine g_iload_n dX7_rule_8 rfl 1 rfl ?_
  have KJ : Gm l x mX7_rule 5 26 [(0, .ref a0), (1, .int x1), (2, .int x2), (3, .ref b5)] [.int (if x1 = 0 then (if x2 < 0 then 0 else (if 3 ≤ x2 then 0 else 1 : Int32) : Int32) else 0 : Int32)] h rc rs n0 Q X := by
    refine g_nmI (fun y10 e11 => ?_)
    replace K := K y10 e11
    refine g_istore (lv' := [(0, .ref a0), (1, .int x1), (2, .int x2), (3, .ref b5), (4, .int y10)]) dX7_rule_26 (by decide) rfl ?_
    refine g_iload_n dX7_rule_28 rfl 1 rfl ?_
    refine g_iconst (v := 1) dX7_rule_29 (by decide) ?_
    have KJ : Gm l x mX7_rule 5 48 [(0, .ref a0), (1, .int x1), (2, .int x2), (3, .ref b5), (4, .int y10)] [.int (if x1 = 1 then (if x2 < 0 then 0 else (if 12 ≤ x2 then 0 else 1 : Int32) : Int32) else 0 : Int32)] h rc rs n0 Q X := by
      refine g_nmI (fun y15 e16 => ?_)
      replace K := K y15 e16
      refine g_istore (lv' := [(0, .ref a0), (1, .int x1), (2, .int x2), (3, .ref b5), (4, .int y10), (5, .int y15)]) dX7_rule_48 (by decide) rfl ?_
      refine g_iload dX7_rule_50 4 rfl ?_
      refine g_if_ne (tgt := 65) dX7_rule_52 (by decide) (fun c17 => ?_) (fun c17 => ?_)
      · replace K := K.1 c17
        refine g_aload_n dX7_rule_65 rfl 0 rfl ?_
        refine g_get (c := 7) (k := 4) (v := .ref b2) dX7_rule_66 fc_7 (by decide) (by decide) bw_406 (congrArg pr e3) e1 ?_
        obtain ⟨b18, e19, K⟩ := K
        refine g_get (c := 3) (k := 1) (v := .ref b18) dX7_rule_69 fc_3 (by decide) (by decide) bw_380 (congrArg pr e19) e4 ?_
        refine g_aload_n dX7_rule_72 rfl 3 rfl ?_
        obtain ⟨e24, K⟩ := K
        obtain ⟨mc22, ms23, q20, e31, e32, C21, K⟩ := K
        refine g_callV (M' := mX0_keep) (b := b18) (As := [.ref b5]) (rest := []) (rc' := (rc - mc22)) (rs' := (rs - ms23)) dX7_rule_73 bw_444 bw_445 bw_446 bw_8 bw_447 ⟨by decide +kernel, by decide +kernel, show (parseMethodDescriptor mX0_keep.1.desc).map (fun d => d.parameters.length) = some 1 by decide +kernel⟩ (by decide) (by decide) (Nat.le_of_ble_eq_true rfl) fc_0 (by decide) rfl e24 C21 (by omega) (by omega) (fun _ _ h => h) ?_
        rintro _ h25 ⟨rfl, K1⟩ -
        replace K := K h25 K1
        show Gm l x mX7_rule 5 76 [(0, .ref a0), (1, .int x1), (2, .int x2), (3, .ref b5), (4, .int y10), (5, .int y15)] [] h25 (rc - mc22) (rs - ms23) n0 Q X
        refine g_iload dX7_rule_76 4 rfl ?_
        refine g_if_eq (tgt := 88) dX7_rule_78 (by decide) (fun c26 => ?_) (fun c26 => ?_)
        · replace K := K.1 c26
          refine g_aload_n dX7_rule_88 rfl 3 rfl ?_
          obtain ⟨e27, K⟩ := K
          refine g_get (c := 1) (k := 4) (v := .int (hI h25 b5 4)) dX7_rule_89 fc_1 (by decide) (by decide) bw_203 rfl e27 ?_
          refine g_istore (lv' := [(0, .ref a0), (1, .int x1), (2, .int x2), (3, .ref b5), (4, .int y10), (5, .int y15), (6, .int (hI h25 b5 4))]) dX7_rule_92 (by decide) rfl ?_
          refine g_iload dX7_rule_94 4 rfl ?_
          refine g_if_eq (tgt := 107) dX7_rule_96 (by decide) (fun c28 => ?_) (fun c28 => ?_)
          · replace K := K.1 c28
            refine g_aload_n dX7_rule_107 rfl 3 rfl ?_
            refine g_iload_n dX7_rule_108 rfl 2 rfl ?_
            refine g_puti (c := 1) (k := 4) dX7_rule_109 fc_1 (by decide) (by decide) bw_203 (Or.inl rfl) rfl e27 ?_
            refine g_iload dX7_rule_112 6 rfl ?_
            exact g_iret dX7_rule_114 rfl K
          · replace K := K.2 c28
            refine g_aload_n dX7_rule_99 rfl 3 rfl ?_
            refine g_iload_n dX7_rule_100 rfl 2 rfl ?_
            refine g_puti (c := 1) (k := 5) dX7_rule_101 fc_1 (by decide) (by decide) bw_207 (Or.inl rfl) rfl e27 ?_
            refine g_goto (tgt := 112) dX7_rule_104 (by decide) ?_
            refine g_iload dX7_rule_112 6 rfl ?_
            exact g_iret dX7_rule_114 rfl K
        · replace K := K.2 c26
          refine g_aload_n dX7_rule_81 rfl 3 rfl ?_
          obtain ⟨e29, K⟩ := K
          refine g_get (c := 1) (k := 5) (v := .int (hI h25 b5 5)) dX7_rule_82 fc_1 (by decide) (by decide) bw_207 rfl e29 ?_
          refine g_goto (tgt := 92) dX7_rule_85 (by decide) ?_
          refine g_istore (lv' := [(0, .ref a0), (1, .int x1), (2, .int x2), (3, .ref b5), (4, .int y10), (5, .int y15), (6, .int (hI h25 b5 5))]) dX7_rule_92 (by decide) rfl ?_
          refine g_iload dX7_rule_94 4 rfl ?_
          refine g_if_eq (tgt := 107) dX7_rule_96 (by decide) (fun c30 => ?_) (fun c30 => ?_)
          · replace K := K.1 c30
            refine g_aload_n dX7_rule_107 rfl 3 rfl ?_
            refine g_iload_n dX7_rule_108 rfl 2 rfl ?_
            refine g_puti (c := 1) (k := 4) dX7_rule_109 fc_1 (by decide) (by decide) bw_203 (Or.inl rfl) rfl e29 ?_
            refine g_iload dX7_rule_112 6 rfl ?_
            exact g_iret dX7_rule_114 rfl K
          · replace K := K.2 c30
            refine g_aload_n dX7_rule_99 rfl 3 rfl ?_
            refine g_iload_n dX7_rule_100 rfl 2 rfl ?_
            refine g_puti (c := 1) (k := 5) dX7_rule_101 fc_1 (by decide) (by decide) bw_207 (Or.inl rfl) rfl e29 ?_
            refine g_goto (tgt := 112) dX7_rule_104 (by decide) ?_
            refine g_iload dX7_rule_112 6 rfl ?_
            exact g_iret dX7_rule_114 rfl K
      · replace K := K.2 c17
        refine g_iload dX7_rule_55 5 rfl ?_
        refine g_if_ne (tgt := 65) dX7_rule_57 (by decide) (fun c33 => ?_) (fun c33 => ?_)
        · replace K := K.1 c33
          refine g_aload_n dX7_rule_65 rfl 0 rfl ?_
          refine g_get (c := 7) (k := 4) (v := .ref b2) dX7_rule_66 fc_7 (by decide) (by decide) bw_406 (congrArg pr e3) e1 ?_
          obtain ⟨b34, e35, K⟩ := K
          refine g_get (c := 3) (k := 1) (v := .ref b34) dX7_rule_69 fc_3 (by decide) (by decide) bw_380 (congrArg pr e35) e4 ?_
          refine g_aload_n dX7_rule_72 rfl 3 rfl ?_
          obtain ⟨e40, K⟩ := K
          obtain ⟨mc38, ms39, q36, e47, e48, C37, K⟩ := K
          refine g_callV (M' := mX0_keep) (b := b34) (As := [.ref b5]) (rest := []) (rc' := (rc - mc38)) (rs' := (rs - ms39)) dX7_rule_73 bw_444 bw_445 bw_446 bw_8 bw_447 ⟨by decide +kernel, by decide +kernel, show (parseMethodDescriptor mX0_keep.1.desc).map (fun d => d.parameters.length) = some 1 by decide +kernel⟩ (by decide) (by decide) (Nat.le_of_ble_eq_true rfl) fc_0 (by decide) rfl e40 C37 (by omega) (by omega) (fun _ _ h => h) ?_
          rintro _ h41 ⟨rfl, K1⟩ -
          replace K := K h41 K1
          show Gm l x mX7_rule 5 76 [(0, .ref a0), (1, .int x1), (2, .int x2), (3, .ref b5), (4, .int y10), (5, .int y15)] [] h41 (rc - mc38) (rs - ms39) n0 Q X
          refine g_iload dX7_rule_76 4 rfl ?_
          refine g_if_eq (tgt := 88) dX7_rule_78 (by decide) (fun c42 => ?_) (fun c42 => ?_)
          · replace K := K.1 c42
            refine g_aload_n dX7_rule_88 rfl 3 rfl ?_
            obtain ⟨e43, K⟩ := K
            refine g_get (c := 1) (k := 4) (v := .int (hI h41 b5 4)) dX7_rule_89 fc_1 (by decide) (by decide) bw_203 rfl e43 ?_
            refine g_istore (lv' := [(0, .ref a0), (1, .int x1), (2, .int x2), (3, .ref b5), (4, .int y10), (5, .int y15), (6, .int (hI h41 b5 4))]) dX7_rule_92 (by decide) rfl ?_
            refine g_iload dX7_rule_94 4 rfl ?_
            refine g_if_eq (tgt := 107) dX7_rule_96 (by decide) (fun c44 => ?_) (fun c44 => ?_)
            · replace K := K.1 c44
              refine g_aload_n dX7_rule_107 rfl 3 rfl ?_
              refine g_iload_n dX7_rule_108 rfl 2 rfl ?_
              refine g_puti (c := 1) (k := 4) dX7_rule_109 fc_1 (by decide) (by decide) bw_203 (Or.inl rfl) rfl e43 ?_
              refine g_iload dX7_rule_112 6 rfl ?_
              exact g_iret dX7_rule_114 rfl K
            · replace K := K.2 c44
              refine g_aload_n dX7_rule_99 rfl 3 rfl ?_
              refine g_iload_n dX7_rule_100 rfl 2 rfl ?_
              refine g_puti (c := 1) (k := 5) dX7_rule_101 fc_1 (by decide) (by decide) bw_207 (Or.inl rfl) rfl e43 ?_
              refine g_goto (tgt := 112) dX7_rule_104 (by decide) ?_
              refine g_iload dX7_rule_112 6 rfl ?_
              exact g_iret dX7_rule_114 rfl K
          · replace K := K.2 c42
            refine g_aload_n dX7_rule_81 rfl 3 rfl ?_
            obtain ⟨e45, K⟩ := K
            refine g_get (c := 1) (k := 5) (v := .int (hI h41 b5 5)) dX7_rule_82 fc_1 (by decide) (by decide) bw_207 rfl e45 ?_
            refine g_goto (tgt := 92) dX7_rule_85 (by decide) ?_
            refine g_istore (lv' := [(0, .ref a0), (1, .int x1), (2, .int x2), (3, .ref b5), (4, .int y10), (5, .int y15), (6, .int (hI h41 b5 5))]) dX7_rule_92 (by decide) rfl ?_
            refine g_iload dX7_rule_94 4 rfl ?_
            refine g_if_eq (tgt := 107) dX7_rule_96 (by decide) (fun c46 => ?_) (fun c46 => ?_)
            · replace K := K.1 c46
              refine g_aload_n dX7_rule_107 rfl 3 rfl ?_
              refine g_iload_n dX7_rule_108 rfl 2 rfl ?_
              refine g_puti (c := 1) (k := 4) dX7_rule_109 fc_1 (by decide) (by decide) bw_203 (Or.inl rfl) rfl e45 ?_
              refine g_iload dX7_rule_112 6 rfl ?_
              exact g_iret dX7_rule_114 rfl K
            · replace K := K.2 c46
              refine g_aload_n dX7_rule_99 rfl 3 rfl ?_
              refine g_iload_n dX7_rule_100 rfl 2 rfl ?_
              refine g_puti (c := 1) (k := 5) dX7_rule_101 fc_1 (by decide) (by decide) bw_207 (Or.inl rfl) rfl e45 ?_
              refine g_goto (tgt := 112) dX7_rule_104 (by decide) ?_
              refine g_iload dX7_rule_112 6 rfl ?_
              exact g_iret dX7_rule_114 rfl K
        · replace K := K.2 c33
          refine g_aload_n dX7_rule_60 rfl 0 rfl ?_
          obtain ⟨q49, C50, K⟩ := K
          refine g_callV (M' := mX7_refuseAct) (b := a0) (As := []) (rest := []) (rc' := rc) (rs' := rs) dX7_rule_61 bw_440 bw_442 bs_0 bw_1 bw_443 ⟨by decide +kernel, by decide +kernel, show (parseMethodDescriptor mX7_refuseAct.1.desc).map (fun d => d.parameters.length) = some 0 by decide +kernel⟩ (by decide) (by decide) (Nat.le_of_ble_eq_true rfl) fc_7 (by decide) rfl e1 C50 (Nat.le_of_eq (Nat.add_zero _)) (Nat.le_of_eq (Nat.add_zero _)) (fun _ _ h => h) ?_
          rintro _ h51 ⟨r52, rfl, K1⟩ -
          replace K := K r52 h51 K1
          show Gm l x mX7_rule 5 64 [(0, .ref a0), (1, .int x1), (2, .int x2), (3, .ref b5), (4, .int y10), (5, .int y15)] [.int r52] h51 rc rs n0 Q X
          exact g_iret dX7_rule_64 rfl K
    refine g_icmp_ne (tgt := 47) dX7_rule_30 (by decide) (fun c12 => ?_) (fun c12 => ?_)
    · refine g_iconst (v := 0) dX7_rule_47 (by decide) ?_
      first | (simp only [if_neg c12] at KJ; exact KJ) | (simp only [if_neg c12, ite_true, ite_false, eq_self] at KJ; exact KJ) | (simp only [if_neg c12] at KJ ⊢; exact KJ) | exact KJ
    · refine g_iload_n dX7_rule_33 rfl 2 rfl ?_
      refine g_if_lt (tgt := 47) dX7_rule_34 (by decide) (fun c13 => ?_) (fun c13 => ?_)
      · refine g_iconst (v := 0) dX7_rule_47 (by decide) ?_
        first | (simp only [if_pos c12, if_pos c13] at KJ; exact KJ) | (simp only [if_pos c12, if_pos c13, ite_true, ite_false, eq_self] at KJ; exact KJ) | (simp only [if_pos c12, if_pos c13] at KJ ⊢; exact KJ) | exact KJ
      · refine g_iload_n dX7_rule_37 rfl 2 rfl ?_
        refine g_bipush (v := 12) dX7_rule_38 (by decide) ?_
        refine g_icmp_ge (tgt := 47) dX7_rule_40 (by decide) (fun c14 => ?_) (fun c14 => ?_)
        · refine g_iconst (v := 0) dX7_rule_47 (by decide) ?_
          first | (simp only [if_pos c12, if_neg c13, if_pos c14] at KJ; exact KJ) | (simp only [if_pos c12, if_neg c13, if_pos c14, ite_true, ite_false, eq_self] at KJ; exact KJ) | (simp only [if_pos c12, if_neg c13, if_pos c14] at KJ ⊢; exact KJ) | exact KJ
        · refine g_iconst (v := 1) dX7_rule_43 (by decide) ?_
          refine g_goto (tgt := 48) dX7_rule_44 (by decide) ?_
          first | (simp only [if_pos c12, if_neg c13, if_neg c14] at KJ; exact KJ) | (simp only [if_pos c12, if_neg c13, if_neg c14, ite_true, ite_false, eq_self] at KJ; exact KJ) | (simp only [if_pos c12, if_neg c13, if_neg c14] at KJ ⊢; exact KJ) | exact KJ
  refine g_if_ne (tgt := 25) dX7_rule_9 (by decide) (fun c7 => ?_) (fun c7 => ?_)
  · refine g_iconst (v := 0) dX7_rule_25 (by decide) ?_
    first | (simp only [if_neg c7] at KJ; exact KJ) | (simp only [if_neg c7, ite_true, ite_false, eq_self] at KJ; exact KJ) | (simp only [if_neg c7] at KJ ⊢; exact KJ) | exact KJ
  · refine g_iload_n dX7_rule_12 rfl 2 rfl ?_
    refine g_if_lt (tgt := 25) dX7_rule_13 (by decide) (fun c8 => ?_) (fun c8 => ?_)
    · refine g_iconst (v := 0) dX7_rule_25 (by decide) ?_
      first | (simp only [if_pos c7, if_pos c8] at KJ; exact KJ) | (simp only [if_pos c7, if_pos c8, ite_true, ite_false, eq_self] at KJ; exact KJ) | (simp only [if_pos c7, if_pos c8] at KJ ⊢; exact KJ) | exact KJ
    · refine g_iload_n dX7_rule_16 rfl 2 rfl ?_
      refine g_iconst (v := 3) dX7_rule_17 (by decide) ?_
      refine g_icmp_ge (tgt := 25) dX7_rule_18 (by decide) (fun c9 => ?_) (fun c9 => ?_)
      · refine g_iconst (v := 0) dX7_rule_25 (by decide) ?_
        first | (simp only [if_pos c7, if_neg c8, if_pos c9] at KJ; exact KJ) | (simp only [if_pos c7, if_neg c8, if_pos c9, ite_true, ite_false, eq_self] at KJ; exact KJ) | (simp only [if_pos c7, if_neg c8, if_pos c9] at KJ ⊢; exact KJ) | exact KJ
      · refine g_iconst (v := 1) dX7_rule_21 (by decide) ?_
        refine g_goto (tgt := 26) dX7_rule_22 (by decide) ?_
        first | (simp only [if_pos c7, if_neg c8, if_neg c9] at KJ; exact KJ) | (simp only [if_pos c7, if_neg c8, if_neg c9, ite_true, ite_false, eq_self] at KJ; exact KJ) | (simp only [if_pos c7, if_neg c8, if_neg c9] at KJ ⊢; exact KJ) | exact KJ
theorem dX7_undo_0 : decode cX7_undo 0 = .ok (.aload_n 0, 1) := by decide +kernel
theorem dX7_undo_1 : decode cX7_undo 1 = .ok (.getfield 37, 3) := by decide +kernel
theorem dX7_undo_4 : decode cX7_undo 4 = .ok (.getfield 150, 3) := by decide +kernel
theorem dX7_undo_7 : decode cX7_undo 7 = .ok (.aload_n 0, 1) := by decide +kernel
theorem dX7_undo_8 : decode cX7_undo 8 = .ok (.getfield 37, 3) := by decide +kernel
theorem dX7_undo_11 : decode cX7_undo 11 = .ok (.getfield 81, 3) := by decide +kernel
theorem dX7_undo_14 : decode cX7_undo 14 = .ok (.invokevirtual 304, 3) := by decide +kernel
theorem dX7_undo_17 : decode cX7_undo 17 = .ok (.ifCond .eq 16, 3) := by decide +kernel
theorem dX7_undo_20 : decode cX7_undo 20 = .ok (.aload_n 0, 1) := by decide +kernel
theorem dX7_undo_21 : decode cX7_undo 21 = .ok (.getfield 37, 3) := by decide +kernel
theorem dX7_undo_24 : decode cX7_undo 24 = .ok (.getfield 150, 3) := by decide +kernel
theorem dX7_undo_27 : decode cX7_undo 27 = .ok (.getfield 154, 3) := by decide +kernel
theorem dX7_undo_30 : decode cX7_undo 30 = .ok (.goto 4, 3) := by decide +kernel
theorem dX7_undo_33 : decode cX7_undo 33 = .ok (.iconst (-1), 1) := by decide +kernel
theorem dX7_undo_34 : decode cX7_undo 34 = .ok (.ireturn, 1) := by decide +kernel
set_option maxRecDepth 20000 in
set_option maxHeartbeats 4000000 in
theorem vX7_undo_0 {l : Launch} {x : CX} {a0 : Nat} {h : PH} {rc rs n0 : Nat} {Q : Option Value → PH → Prop} {X : String → PH → Prop}
    (K : ((hK h a0).1 = 7) ∧ ∃ b2, (hR h a0 4 = some b2) ∧ ((hK h b2).1 = 3) ∧ ∃ b5, (hR h b2 1 = some b5) ∧ ∃ b7, (hR h b2 0 = some b7) ∧ ((hK h b5).1 = 0) ∧ ∃ (mc11 ms12 : Nat) (q9 : Int32 → PH → Prop), mc11 ≤ rc ∧ ms12 ≤ rs ∧ CI l x mX0_takeBack 4 mc11 ms12 [.ref b5, .ref b7] h q9 ∧ ∀ (r15 : Int32) (h14 : PH), q9 r15 h14 → ((r15 = 0 → Q (some (.int (-1))) h14) ∧ (¬ r15 = 0 → ((hK h14 a0).1 = 7) ∧ ∃ b18, (hR h14 a0 4 = some b18) ∧ ((hK h14 b18).1 = 3) ∧ ∃ b21, (hR h14 b18 1 = some b21) ∧ ((hK h14 b21).1 = 0) ∧ Q (some (.int (hI h14 b21 2))) h14))) :
    Gm l x mX7_undo 5 0 [(0, .ref a0)] [] h rc rs n0 Q X := by
  refine g_aload_n dX7_undo_0 rfl 0 rfl ?_
  obtain ⟨e1, b2, e3, K⟩ := K
  refine g_get (c := 7) (k := 4) (v := .ref b2) dX7_undo_1 fc_7 (by decide) (by decide) bw_406 (congrArg pr e3) e1 ?_
  obtain ⟨e4, b5, e6, K⟩ := K
  refine g_get (c := 3) (k := 1) (v := .ref b5) dX7_undo_4 fc_3 (by decide) (by decide) bw_380 (congrArg pr e6) e4 ?_
  refine g_aload_n dX7_undo_7 rfl 0 rfl ?_
  refine g_get (c := 7) (k := 4) (v := .ref b2) dX7_undo_8 fc_7 (by decide) (by decide) bw_406 (congrArg pr e3) e1 ?_
  obtain ⟨b7, e8, K⟩ := K
  refine g_get (c := 3) (k := 0) (v := .ref b7) dX7_undo_11 fc_3 (by decide) (by decide) bw_378 (congrArg pr e8) e4 ?_
  obtain ⟨e13, K⟩ := K
  obtain ⟨mc11, ms12, q9, e24, e25, C10, K⟩ := K
  refine g_callV (M' := mX0_takeBack) (b := b5) (As := [.ref b7]) (rest := []) (rc' := (rc - mc11)) (rs' := (rs - ms12)) dX7_undo_14 bw_648 bw_649 bw_650 bw_8 bw_651 ⟨by decide +kernel, by decide +kernel, show (parseMethodDescriptor mX0_takeBack.1.desc).map (fun d => d.parameters.length) = some 1 by decide +kernel⟩ (by decide) (by decide) (Nat.le_of_ble_eq_true rfl) fc_0 (by decide) rfl e13 C10 (by omega) (by omega) (fun _ _ h => h) ?_
  rintro _ h14 ⟨r15, rfl, K1⟩ -
  replace K := K r15 h14 K1
  show Gm l x mX7_undo 5 17 [(0, .ref a0)] [.int r15] h14 (rc - mc11) (rs - ms12) n0 Q X
  refine g_if_eq (tgt := 33) dX7_undo_17 (by decide) (fun c16 => ?_) (fun c16 => ?_)
  · replace K := K.1 c16
    refine g_iconst (v := (-1)) dX7_undo_33 (by decide) ?_
    exact g_iret dX7_undo_34 rfl K
  · replace K := K.2 c16
    refine g_aload_n dX7_undo_20 rfl 0 rfl ?_
    obtain ⟨e17, b18, e19, K⟩ := K
    refine g_get (c := 7) (k := 4) (v := .ref b18) dX7_undo_21 fc_7 (by decide) (by decide) bw_406 (congrArg pr e19) e17 ?_
    obtain ⟨e20, b21, e22, K⟩ := K
    refine g_get (c := 3) (k := 1) (v := .ref b21) dX7_undo_24 fc_3 (by decide) (by decide) bw_380 (congrArg pr e22) e20 ?_
    obtain ⟨e23, K⟩ := K
    refine g_get (c := 0) (k := 2) (v := .int (hI h14 b21 2)) dX7_undo_27 fc_0 (by decide) (by decide) bw_369 rfl e23 ?_
    refine g_goto (tgt := 34) dX7_undo_30 (by decide) ?_
    exact g_iret dX7_undo_34 rfl K
theorem dX7_playYears_0 : decode cX7_playYears 0 = .ok (.iload_n 1, 1) := by decide +kernel
theorem dX7_playYears_1 : decode cX7_playYears 1 = .ok (.istore_n 3, 1) := by decide +kernel
theorem dX7_playYears_2 : decode cX7_playYears 2 = .ok (.iconst 0, 1) := by decide +kernel
theorem dX7_playYears_3 : decode cX7_playYears 3 = .ok (.istore 4, 2) := by decide +kernel
theorem dX7_playYears_5 : decode cX7_playYears 5 = .ok (.iload 4, 2) := by decide +kernel
theorem dX7_playYears_7 : decode cX7_playYears 7 = .ok (.iload_n 2, 1) := by decide +kernel
theorem dX7_playYears_8 : decode cX7_playYears 8 = .ok (.if_icmp .ge 124, 3) := by decide +kernel
theorem dX7_playYears_11 : decode cX7_playYears 11 = .ok (.iload_n 3, 1) := by decide +kernel
theorem dX7_playYears_12 : decode cX7_playYears 12 = .ok (.invokestatic 392, 3) := by decide +kernel
theorem dX7_playYears_15 : decode cX7_playYears 15 = .ok (.istore_n 3, 1) := by decide +kernel
theorem dX7_playYears_16 : decode cX7_playYears 16 = .ok (.iload_n 3, 1) := by decide +kernel
theorem dX7_playYears_17 : decode cX7_playYears 17 = .ok (.aload_n 0, 1) := by decide +kernel
theorem dX7_playYears_18 : decode cX7_playYears 18 = .ok (.getfield 23, 3) := by decide +kernel
theorem dX7_playYears_21 : decode cX7_playYears 21 = .ok (.getfield 84, 3) := by decide +kernel
theorem dX7_playYears_24 : decode cX7_playYears 24 = .ok (.invokestatic 395, 3) := by decide +kernel
theorem dX7_playYears_27 : decode cX7_playYears 27 = .ok (.istore 5, 2) := by decide +kernel
theorem dX7_playYears_29 : decode cX7_playYears 29 = .ok (.iload_n 3, 1) := by decide +kernel
theorem dX7_playYears_30 : decode cX7_playYears 30 = .ok (.invokestatic 392, 3) := by decide +kernel
theorem dX7_playYears_33 : decode cX7_playYears 33 = .ok (.istore_n 3, 1) := by decide +kernel
theorem dX7_playYears_34 : decode cX7_playYears 34 = .ok (.iload_n 3, 1) := by decide +kernel
theorem dX7_playYears_35 : decode cX7_playYears 35 = .ok (.aload_n 0, 1) := by decide +kernel
theorem dX7_playYears_36 : decode cX7_playYears 36 = .ok (.getfield 23, 3) := by decide +kernel
theorem dX7_playYears_39 : decode cX7_playYears 39 = .ok (.getfield 84, 3) := by decide +kernel
theorem dX7_playYears_42 : decode cX7_playYears 42 = .ok (.iconst 1, 1) := by decide +kernel
theorem dX7_playYears_43 : decode cX7_playYears 43 = .ok (.isub, 1) := by decide +kernel
theorem dX7_playYears_44 : decode cX7_playYears 44 = .ok (.invokestatic 395, 3) := by decide +kernel
theorem dX7_playYears_47 : decode cX7_playYears 47 = .ok (.istore 6, 2) := by decide +kernel
theorem dX7_playYears_49 : decode cX7_playYears 49 = .ok (.iload 6, 2) := by decide +kernel
theorem dX7_playYears_51 : decode cX7_playYears 51 = .ok (.iload 5, 2) := by decide +kernel
theorem dX7_playYears_53 : decode cX7_playYears 53 = .ok (.if_icmp .lt 6, 3) := by decide +kernel
theorem dX7_playYears_56 : decode cX7_playYears 56 = .ok (.iinc 6 1, 3) := by decide +kernel
theorem dX7_playYears_59 : decode cX7_playYears 59 = .ok (.iload_n 3, 1) := by decide +kernel
theorem dX7_playYears_60 : decode cX7_playYears 60 = .ok (.invokestatic 392, 3) := by decide +kernel
theorem dX7_playYears_63 : decode cX7_playYears 63 = .ok (.istore_n 3, 1) := by decide +kernel
theorem dX7_playYears_64 : decode cX7_playYears 64 = .ok (.iload_n 3, 1) := by decide +kernel
theorem dX7_playYears_65 : decode cX7_playYears 65 = .ok (.iconst 2, 1) := by decide +kernel
theorem dX7_playYears_66 : decode cX7_playYears 66 = .ok (.invokestatic 395, 3) := by decide +kernel
theorem dX7_playYears_69 : decode cX7_playYears 69 = .ok (.iconst 1, 1) := by decide +kernel
theorem dX7_playYears_70 : decode cX7_playYears 70 = .ok (.if_icmp .ne 7, 3) := by decide +kernel
theorem dX7_playYears_73 : decode cX7_playYears 73 = .ok (.iconst 2, 1) := by decide +kernel
theorem dX7_playYears_74 : decode cX7_playYears 74 = .ok (.goto 4, 3) := by decide +kernel
theorem dX7_playYears_77 : decode cX7_playYears 77 = .ok (.iconst 1, 1) := by decide +kernel
theorem dX7_playYears_78 : decode cX7_playYears 78 = .ok (.istore 7, 2) := by decide +kernel
theorem dX7_playYears_80 : decode cX7_playYears 80 = .ok (.aload_n 0, 1) := by decide +kernel
theorem dX7_playYears_81 : decode cX7_playYears 81 = .ok (.getfield 23, 3) := by decide +kernel
theorem dX7_playYears_84 : decode cX7_playYears 84 = .ok (.getfield 90, 3) := by decide +kernel
theorem dX7_playYears_87 : decode cX7_playYears 87 = .ok (.bipush 24, 2) := by decide +kernel
theorem dX7_playYears_89 : decode cX7_playYears 89 = .ok (.if_icmp .ge 17, 3) := by decide +kernel
theorem dX7_playYears_92 : decode cX7_playYears 92 = .ok (.aload_n 0, 1) := by decide +kernel
theorem dX7_playYears_93 : decode cX7_playYears 93 = .ok (.getfield 23, 3) := by decide +kernel
theorem dX7_playYears_96 : decode cX7_playYears 96 = .ok (.iload 5, 2) := by decide +kernel
theorem dX7_playYears_98 : decode cX7_playYears 98 = .ok (.iload 6, 2) := by decide +kernel
theorem dX7_playYears_100 : decode cX7_playYears 100 = .ok (.iload 7, 2) := by decide +kernel
theorem dX7_playYears_102 : decode cX7_playYears 102 = .ok (.invokevirtual 298, 3) := by decide +kernel
theorem dX7_playYears_105 : decode cX7_playYears 105 = .ok (.pop, 1) := by decide +kernel
theorem dX7_playYears_106 : decode cX7_playYears 106 = .ok (.iload_n 3, 1) := by decide +kernel
theorem dX7_playYears_107 : decode cX7_playYears 107 = .ok (.invokestatic 392, 3) := by decide +kernel
theorem dX7_playYears_110 : decode cX7_playYears 110 = .ok (.istore_n 3, 1) := by decide +kernel
theorem dX7_playYears_111 : decode cX7_playYears 111 = .ok (.aload_n 0, 1) := by decide +kernel
theorem dX7_playYears_112 : decode cX7_playYears 112 = .ok (.getfield 23, 3) := by decide +kernel
theorem dX7_playYears_115 : decode cX7_playYears 115 = .ok (.iload_n 3, 1) := by decide +kernel
theorem dX7_playYears_116 : decode cX7_playYears 116 = .ok (.bipush 8, 2) := by decide +kernel
theorem dX7_playYears_118 : decode cX7_playYears 118 = .ok (.invokestatic 395, 3) := by decide +kernel
theorem dX7_playYears_121 : decode cX7_playYears 121 = .ok (.iconst 1, 1) := by decide +kernel
theorem dX7_playYears_122 : decode cX7_playYears 122 = .ok (.iadd, 1) := by decide +kernel
theorem dX7_playYears_123 : decode cX7_playYears 123 = .ok (.invokevirtual 187, 3) := by decide +kernel
theorem dX7_playYears_126 : decode cX7_playYears 126 = .ok (.iinc 4 1, 3) := by decide +kernel
theorem dX7_playYears_129 : decode cX7_playYears 129 = .ok (.goto (-124), 3) := by decide +kernel
theorem dX7_playYears_132 : decode cX7_playYears 132 = .ok (.return_, 1) := by decide +kernel
set_option maxRecDepth 20000 in
set_option maxHeartbeats 4000000 in
theorem vX7_playYears_0 {l : Launch} {x : CX} {a0 : Nat} {x1 : Int32} {x2 : Int32} {h : PH} {rc rs n0 : Nat} {Q : Option Value → PH → Prop} {X : String → PH → Prop}
    (K : Gm l x mX7_playYears 5 5 [(0, .ref a0), (1, .int x1), (2, .int x2), (3, .int x1), (4, .int 0)] [] h rc rs n0 Q X) :
    Gm l x mX7_playYears 5 0 [(0, .ref a0), (1, .int x1), (2, .int x2)] [] h rc rs n0 Q X := by
  refine g_iload_n dX7_playYears_0 rfl 1 rfl ?_
  refine g_istore_n (lv' := [(0, .ref a0), (1, .int x1), (2, .int x2), (3, .int x1)]) dX7_playYears_1 rfl (by decide) rfl ?_
  refine g_iconst (v := 0) dX7_playYears_2 (by decide) ?_
  refine g_istore (lv' := [(0, .ref a0), (1, .int x1), (2, .int x2), (3, .int x1), (4, .int 0)]) dX7_playYears_3 (by decide) rfl ?_
  exact K
set_option maxRecDepth 20000 in
set_option maxHeartbeats 4000000 in
theorem vX7_playYears_5 {l : Launch} {x : CX} {a0 : Nat} {x1 : Int32} {x2 : Int32} {x3 : Int32} {x4 : Int32} {h : PH} {rc rs n0 : Nat} {Q : Option Value → PH → Prop} {X : String → PH → Prop}
    (K : ((x2 ≤ x4 → Q none h) ∧ (¬ x2 ≤ x4 → ∃ (q2 : Int32 → PH → Prop), CI l x mX7_nextSeed 0 0 0 [.int x3] h q2 ∧ ∀ (r5 : Int32) (h4 : PH), q2 r5 h4 → ((hK h4 a0).1 = 7) ∧ ∃ b7, (hR h4 a0 2 = some b7) ∧ ((hK h4 b7).1 = 1) ∧ ∃ (q10 : Int32 → PH → Prop), CI l x mX7_drawOf 0 0 0 [.int r5, .int (hI h4 b7 0)] h4 q10 ∧ ∀ (r13 : Int32) (h12 : PH), q10 r13 h12 → ∃ (q14 : Int32 → PH → Prop), CI l x mX7_nextSeed 0 0 0 [.int r5] h12 q14 ∧ ∀ (r17 : Int32) (h16 : PH), q14 r17 h16 → ((hK h16 a0).1 = 7) ∧ ∃ b19, (hR h16 a0 2 = some b19) ∧ ((hK h16 b19).1 = 1) ∧ ∃ (q22 : Int32 → PH → Prop), CI l x mX7_drawOf 0 0 0 [.int r17, .int ((hI h16 b19 0) - 1)] h16 q22 ∧ ∀ (r25 : Int32) (h24 : PH), q22 r25 h24 → ∃ (q27 : Int32 → PH → Prop), CI l x mX7_nextSeed 0 0 0 [.int r17] h24 q27 ∧ ∀ (r30 : Int32) (h29 : PH), q27 r30 h29 → ∃ (q31 : Int32 → PH → Prop), CI l x mX7_drawOf 0 0 0 [.int r30, .int 2] h29 q31 ∧ ∀ (r34 : Int32) (h33 : PH), q31 r34 h33 → ((hK h33 a0).1 = 7) ∧ ∃ b37, (hR h33 a0 2 = some b37) ∧ ((hK h33 b37).1 = 1) ∧ ((24 ≤ (hI h33 b37 2) → ∃ (q41 : Int32 → PH → Prop), CI l x mX7_nextSeed 0 0 0 [.int r30] h33 q41 ∧ ∀ (r44 : Int32) (h43 : PH), q41 r44 h43 → ((hK h43 a0).1 = 7) ∧ ∃ b46, (hR h43 a0 2 = some b46) ∧ ∃ (q48 : Int32 → PH → Prop), CI l x mX7_drawOf 0 0 0 [.int r44, .int 8] h43 q48 ∧ ∀ (r51 : Int32) (h50 : PH), q48 r51 h50 → ((hK h50 b46).1 = 1) ∧ ∃ (q52 : PH → Prop), CV l x mX1_pass 4 0 0 [.ref b46, .int (r51 + 1)] h50 q52 ∧ ∀ (h55 : PH), q52 h55 → Gm l x mX7_playYears 5 5 [(0, .ref a0), (1, .int x1), (2, .int x2), (3, .int r44), (4, .int (x4 + 1))] [] h55 rc rs n0 Q X) ∧ (¬ 24 ≤ (hI h33 b37 2) → ∃ (q56 : Int32 → PH → Prop), CI l x mX1_addByHand 2 0 0 [.ref b37, .int r13, .int (if r25 < r13 then r25 else (r25 + 1) : Int32), .int (if r34 = 1 then 2 else 1 : Int32)] h33 q56 ∧ ∀ (r59 : Int32) (h58 : PH), q56 r59 h58 → ∃ (q60 : Int32 → PH → Prop), CI l x mX7_nextSeed 0 0 0 [.int r30] h58 q60 ∧ ∀ (r63 : Int32) (h62 : PH), q60 r63 h62 → ((hK h62 a0).1 = 7) ∧ ∃ b65, (hR h62 a0 2 = some b65) ∧ ∃ (q67 : Int32 → PH → Prop), CI l x mX7_drawOf 0 0 0 [.int r63, .int 8] h62 q67 ∧ ∀ (r70 : Int32) (h69 : PH), q67 r70 h69 → ((hK h69 b65).1 = 1) ∧ ∃ (q71 : PH → Prop), CV l x mX1_pass 4 0 0 [.ref b65, .int (r70 + 1)] h69 q71 ∧ ∀ (h74 : PH), q71 h74 → Gm l x mX7_playYears 5 5 [(0, .ref a0), (1, .int x1), (2, .int x2), (3, .int r63), (4, .int (x4 + 1))] [] h74 rc rs n0 Q X))))) :
    Gm l x mX7_playYears 5 5 [(0, .ref a0), (1, .int x1), (2, .int x2), (3, .int x3), (4, .int x4)] [] h rc rs n0 Q X := by
  refine g_iload dX7_playYears_5 4 rfl ?_
  refine g_iload_n dX7_playYears_7 rfl 2 rfl ?_
  refine g_icmp_ge (tgt := 132) dX7_playYears_8 (by decide) (fun c1 => ?_) (fun c1 => ?_)
  · replace K := K.1 c1
    exact g_vret dX7_playYears_132 rfl K
  · replace K := K.2 c1
    refine g_iload_n dX7_playYears_11 rfl 3 rfl ?_
    obtain ⟨q2, C3, K⟩ := K
    refine g_callS (M' := mX7_nextSeed) (As := [.int x3]) (rest := []) (rc' := rc) (rs' := rs) dX7_playYears_12 bw_1157 bw_1158 bw_1 bw_1159 ⟨by decide +kernel, by decide +kernel, show (parseMethodDescriptor mX7_nextSeed.1.desc).map (fun d => d.parameters.length) = some 1 by decide +kernel⟩ (by decide) (by decide) (Nat.le_of_ble_eq_true rfl) C3 (Nat.le_of_eq (Nat.add_zero _)) (Nat.le_of_eq (Nat.add_zero _)) (fun _ _ h => h) ?_
    rintro _ h4 ⟨r5, rfl, K1⟩ -
    replace K := K r5 h4 K1
    show Gm l x mX7_playYears 5 15 [(0, .ref a0), (1, .int x1), (2, .int x2), (3, .int x3), (4, .int x4)] [.int r5] h4 rc rs n0 Q X
    refine g_istore_n (lv' := [(0, .ref a0), (1, .int x1), (2, .int x2), (3, .int r5), (4, .int x4)]) dX7_playYears_15 rfl (by decide) rfl ?_
    refine g_iload_n dX7_playYears_16 rfl 3 rfl ?_
    refine g_aload_n dX7_playYears_17 rfl 0 rfl ?_
    obtain ⟨e6, b7, e8, K⟩ := K
    refine g_get (c := 7) (k := 2) (v := .ref b7) dX7_playYears_18 fc_7 (by decide) (by decide) bw_404 (congrArg pr e8) e6 ?_
    obtain ⟨e9, K⟩ := K
    refine g_get (c := 1) (k := 0) (v := .int (hI h4 b7 0)) dX7_playYears_21 fc_1 (by decide) (by decide) bw_186 rfl e9 ?_
    obtain ⟨q10, C11, K⟩ := K
    refine g_callS (M' := mX7_drawOf) (As := [.int r5, .int (hI h4 b7 0)]) (rest := []) (rc' := rc) (rs' := rs) dX7_playYears_24 bw_1161 bw_1162 bw_1 bw_1163 ⟨by decide +kernel, by decide +kernel, show (parseMethodDescriptor mX7_drawOf.1.desc).map (fun d => d.parameters.length) = some 2 by decide +kernel⟩ (by decide) (by decide) (Nat.le_of_ble_eq_true rfl) C11 (Nat.le_of_eq (Nat.add_zero _)) (Nat.le_of_eq (Nat.add_zero _)) (fun _ _ h => h) ?_
    rintro _ h12 ⟨r13, rfl, K1⟩ -
    replace K := K r13 h12 K1
    show Gm l x mX7_playYears 5 27 [(0, .ref a0), (1, .int x1), (2, .int x2), (3, .int r5), (4, .int x4)] [.int r13] h12 rc rs n0 Q X
    refine g_istore (lv' := [(0, .ref a0), (1, .int x1), (2, .int x2), (3, .int r5), (4, .int x4), (5, .int r13)]) dX7_playYears_27 (by decide) rfl ?_
    refine g_iload_n dX7_playYears_29 rfl 3 rfl ?_
    obtain ⟨q14, C15, K⟩ := K
    refine g_callS (M' := mX7_nextSeed) (As := [.int r5]) (rest := []) (rc' := rc) (rs' := rs) dX7_playYears_30 bw_1157 bw_1158 bw_1 bw_1159 ⟨by decide +kernel, by decide +kernel, show (parseMethodDescriptor mX7_nextSeed.1.desc).map (fun d => d.parameters.length) = some 1 by decide +kernel⟩ (by decide) (by decide) (Nat.le_of_ble_eq_true rfl) C15 (Nat.le_of_eq (Nat.add_zero _)) (Nat.le_of_eq (Nat.add_zero _)) (fun _ _ h => h) ?_
    rintro _ h16 ⟨r17, rfl, K1⟩ -
    replace K := K r17 h16 K1
    show Gm l x mX7_playYears 5 33 [(0, .ref a0), (1, .int x1), (2, .int x2), (3, .int r5), (4, .int x4), (5, .int r13)] [.int r17] h16 rc rs n0 Q X
    refine g_istore_n (lv' := [(0, .ref a0), (1, .int x1), (2, .int x2), (3, .int r17), (4, .int x4), (5, .int r13)]) dX7_playYears_33 rfl (by decide) rfl ?_
    refine g_iload_n dX7_playYears_34 rfl 3 rfl ?_
    refine g_aload_n dX7_playYears_35 rfl 0 rfl ?_
    obtain ⟨e18, b19, e20, K⟩ := K
    refine g_get (c := 7) (k := 2) (v := .ref b19) dX7_playYears_36 fc_7 (by decide) (by decide) bw_404 (congrArg pr e20) e18 ?_
    obtain ⟨e21, K⟩ := K
    refine g_get (c := 1) (k := 0) (v := .int (hI h16 b19 0)) dX7_playYears_39 fc_1 (by decide) (by decide) bw_186 rfl e21 ?_
    refine g_iconst (v := 1) dX7_playYears_42 (by decide) ?_
    refine g_isub dX7_playYears_43 ?_
    obtain ⟨q22, C23, K⟩ := K
    refine g_callS (M' := mX7_drawOf) (As := [.int r17, .int ((hI h16 b19 0) - 1)]) (rest := []) (rc' := rc) (rs' := rs) dX7_playYears_44 bw_1161 bw_1162 bw_1 bw_1163 ⟨by decide +kernel, by decide +kernel, show (parseMethodDescriptor mX7_drawOf.1.desc).map (fun d => d.parameters.length) = some 2 by decide +kernel⟩ (by decide) (by decide) (Nat.le_of_ble_eq_true rfl) C23 (Nat.le_of_eq (Nat.add_zero _)) (Nat.le_of_eq (Nat.add_zero _)) (fun _ _ h => h) ?_
    rintro _ h24 ⟨r25, rfl, K1⟩ -
    replace K := K r25 h24 K1
    show Gm l x mX7_playYears 5 47 [(0, .ref a0), (1, .int x1), (2, .int x2), (3, .int r17), (4, .int x4), (5, .int r13)] [.int r25] h24 rc rs n0 Q X
    refine g_istore (lv' := [(0, .ref a0), (1, .int x1), (2, .int x2), (3, .int r17), (4, .int x4), (5, .int r13), (6, .int r25)]) dX7_playYears_47 (by decide) rfl ?_
    refine g_iload dX7_playYears_49 6 rfl ?_
    refine g_iload dX7_playYears_51 5 rfl ?_
    have KJ : Gm l x mX7_playYears 5 59 [(0, .ref a0), (1, .int x1), (2, .int x2), (3, .int r17), (4, .int x4), (5, .int r13), (6, .int (if r25 < r13 then r25 else (r25 + 1) : Int32))] [] h24 rc rs n0 Q X := by
      refine g_iload_n dX7_playYears_59 rfl 3 rfl ?_
      obtain ⟨q27, C28, K⟩ := K
      refine g_callS (M' := mX7_nextSeed) (As := [.int r17]) (rest := []) (rc' := rc) (rs' := rs) dX7_playYears_60 bw_1157 bw_1158 bw_1 bw_1159 ⟨by decide +kernel, by decide +kernel, show (parseMethodDescriptor mX7_nextSeed.1.desc).map (fun d => d.parameters.length) = some 1 by decide +kernel⟩ (by decide) (by decide) (Nat.le_of_ble_eq_true rfl) C28 (Nat.le_of_eq (Nat.add_zero _)) (Nat.le_of_eq (Nat.add_zero _)) (fun _ _ h => h) ?_
      rintro _ h29 ⟨r30, rfl, K1⟩ -
      replace K := K r30 h29 K1
      show Gm l x mX7_playYears 5 63 [(0, .ref a0), (1, .int x1), (2, .int x2), (3, .int r17), (4, .int x4), (5, .int r13), (6, .int (if r25 < r13 then r25 else (r25 + 1) : Int32))] [.int r30] h29 rc rs n0 Q X
      refine g_istore_n (lv' := [(0, .ref a0), (1, .int x1), (2, .int x2), (3, .int r30), (4, .int x4), (5, .int r13), (6, .int (if r25 < r13 then r25 else (r25 + 1) : Int32))]) dX7_playYears_63 rfl (by decide) rfl ?_
      refine g_iload_n dX7_playYears_64 rfl 3 rfl ?_
      refine g_iconst (v := 2) dX7_playYears_65 (by decide) ?_
      obtain ⟨q31, C32, K⟩ := K
      refine g_callS (M' := mX7_drawOf) (As := [.int r30, .int 2]) (rest := []) (rc' := rc) (rs' := rs) dX7_playYears_66 bw_1161 bw_1162 bw_1 bw_1163 ⟨by decide +kernel, by decide +kernel, show (parseMethodDescriptor mX7_drawOf.1.desc).map (fun d => d.parameters.length) = some 2 by decide +kernel⟩ (by decide) (by decide) (Nat.le_of_ble_eq_true rfl) C32 (Nat.le_of_eq (Nat.add_zero _)) (Nat.le_of_eq (Nat.add_zero _)) (fun _ _ h => h) ?_
      rintro _ h33 ⟨r34, rfl, K1⟩ -
      replace K := K r34 h33 K1
      show Gm l x mX7_playYears 5 69 [(0, .ref a0), (1, .int x1), (2, .int x2), (3, .int r30), (4, .int x4), (5, .int r13), (6, .int (if r25 < r13 then r25 else (r25 + 1) : Int32))] [.int r34] h33 rc rs n0 Q X
      refine g_iconst (v := 1) dX7_playYears_69 (by decide) ?_
      have KJ : Gm l x mX7_playYears 5 78 [(0, .ref a0), (1, .int x1), (2, .int x2), (3, .int r30), (4, .int x4), (5, .int r13), (6, .int (if r25 < r13 then r25 else (r25 + 1) : Int32))] [.int (if r34 = 1 then 2 else 1 : Int32)] h33 rc rs n0 Q X := by
        refine g_istore (lv' := [(0, .ref a0), (1, .int x1), (2, .int x2), (3, .int r30), (4, .int x4), (5, .int r13), (6, .int (if r25 < r13 then r25 else (r25 + 1) : Int32)), (7, .int (if r34 = 1 then 2 else 1 : Int32))]) dX7_playYears_78 (by decide) rfl ?_
        refine g_aload_n dX7_playYears_80 rfl 0 rfl ?_
        obtain ⟨e36, b37, e38, K⟩ := K
        refine g_get (c := 7) (k := 2) (v := .ref b37) dX7_playYears_81 fc_7 (by decide) (by decide) bw_404 (congrArg pr e38) e36 ?_
        obtain ⟨e39, K⟩ := K
        refine g_get (c := 1) (k := 2) (v := .int (hI h33 b37 2)) dX7_playYears_84 fc_1 (by decide) (by decide) bw_194 rfl e39 ?_
        refine g_bipush (v := 24) dX7_playYears_87 (by decide) ?_
        refine g_icmp_ge (tgt := 106) dX7_playYears_89 (by decide) (fun c40 => ?_) (fun c40 => ?_)
        · replace K := K.1 c40
          refine g_iload_n dX7_playYears_106 rfl 3 rfl ?_
          obtain ⟨q41, C42, K⟩ := K
          refine g_callS (M' := mX7_nextSeed) (As := [.int r30]) (rest := []) (rc' := rc) (rs' := rs) dX7_playYears_107 bw_1157 bw_1158 bw_1 bw_1159 ⟨by decide +kernel, by decide +kernel, show (parseMethodDescriptor mX7_nextSeed.1.desc).map (fun d => d.parameters.length) = some 1 by decide +kernel⟩ (by decide) (by decide) (Nat.le_of_ble_eq_true rfl) C42 (Nat.le_of_eq (Nat.add_zero _)) (Nat.le_of_eq (Nat.add_zero _)) (fun _ _ h => h) ?_
          rintro _ h43 ⟨r44, rfl, K1⟩ -
          replace K := K r44 h43 K1
          show Gm l x mX7_playYears 5 110 [(0, .ref a0), (1, .int x1), (2, .int x2), (3, .int r30), (4, .int x4), (5, .int r13), (6, .int (if r25 < r13 then r25 else (r25 + 1) : Int32)), (7, .int (if r34 = 1 then 2 else 1 : Int32))] [.int r44] h43 rc rs n0 Q X
          refine g_istore_n (lv' := [(0, .ref a0), (1, .int x1), (2, .int x2), (3, .int r44), (4, .int x4), (5, .int r13), (6, .int (if r25 < r13 then r25 else (r25 + 1) : Int32)), (7, .int (if r34 = 1 then 2 else 1 : Int32))]) dX7_playYears_110 rfl (by decide) rfl ?_
          refine g_aload_n dX7_playYears_111 rfl 0 rfl ?_
          obtain ⟨e45, b46, e47, K⟩ := K
          refine g_get (c := 7) (k := 2) (v := .ref b46) dX7_playYears_112 fc_7 (by decide) (by decide) bw_404 (congrArg pr e47) e45 ?_
          refine g_iload_n dX7_playYears_115 rfl 3 rfl ?_
          refine g_bipush (v := 8) dX7_playYears_116 (by decide) ?_
          obtain ⟨q48, C49, K⟩ := K
          refine g_callS (M' := mX7_drawOf) (As := [.int r44, .int 8]) (rest := [.ref b46]) (rc' := rc) (rs' := rs) dX7_playYears_118 bw_1161 bw_1162 bw_1 bw_1163 ⟨by decide +kernel, by decide +kernel, show (parseMethodDescriptor mX7_drawOf.1.desc).map (fun d => d.parameters.length) = some 2 by decide +kernel⟩ (by decide) (by decide) (Nat.le_of_ble_eq_true rfl) C49 (Nat.le_of_eq (Nat.add_zero _)) (Nat.le_of_eq (Nat.add_zero _)) (fun _ _ h => h) ?_
          rintro _ h50 ⟨r51, rfl, K1⟩ -
          replace K := K r51 h50 K1
          show Gm l x mX7_playYears 5 121 [(0, .ref a0), (1, .int x1), (2, .int x2), (3, .int r44), (4, .int x4), (5, .int r13), (6, .int (if r25 < r13 then r25 else (r25 + 1) : Int32)), (7, .int (if r34 = 1 then 2 else 1 : Int32))] [.int r51, .ref b46] h50 rc rs n0 Q X
          refine g_iconst (v := 1) dX7_playYears_121 (by decide) ?_
          refine g_iadd dX7_playYears_122 ?_
          obtain ⟨e54, K⟩ := K
          obtain ⟨q52, C53, K⟩ := K
          refine g_callV (M' := mX1_pass) (b := b46) (As := [.int (r51 + 1)]) (rest := []) (rc' := rc) (rs' := rs) dX7_playYears_123 bw_465 bw_466 bw_467 bw_3 bw_468 ⟨by decide +kernel, by decide +kernel, show (parseMethodDescriptor mX1_pass.1.desc).map (fun d => d.parameters.length) = some 1 by decide +kernel⟩ (by decide) (by decide) (Nat.le_of_ble_eq_true rfl) fc_1 (by decide) rfl e54 C53 (Nat.le_of_eq (Nat.add_zero _)) (Nat.le_of_eq (Nat.add_zero _)) (fun _ _ h => h) ?_
          rintro _ h55 ⟨rfl, K1⟩ -
          replace K := K h55 K1
          show Gm l x mX7_playYears 5 126 [(0, .ref a0), (1, .int x1), (2, .int x2), (3, .int r44), (4, .int x4), (5, .int r13), (6, .int (if r25 < r13 then r25 else (r25 + 1) : Int32)), (7, .int (if r34 = 1 then 2 else 1 : Int32))] [] h55 rc rs n0 Q X
          refine g_iinc (v := (x4 + 1)) (lv' := [(0, .ref a0), (1, .int x1), (2, .int x2), (3, .int r44), (4, .int (x4 + 1)), (5, .int r13), (6, .int (if r25 < r13 then r25 else (r25 + 1) : Int32)), (7, .int (if r34 = 1 then 2 else 1 : Int32))]) dX7_playYears_126 4 rfl (by rfl) (by decide) rfl ?_
          refine g_goto (tgt := 5) dX7_playYears_129 (by decide) ?_
          exact Gm.sub [0, 1, 2, 3, 4] rfl K
        · replace K := K.2 c40
          refine g_aload_n dX7_playYears_92 rfl 0 rfl ?_
          refine g_get (c := 7) (k := 2) (v := .ref b37) dX7_playYears_93 fc_7 (by decide) (by decide) bw_404 (congrArg pr e38) e36 ?_
          refine g_iload dX7_playYears_96 5 rfl ?_
          refine g_iload dX7_playYears_98 6 rfl ?_
          refine g_iload dX7_playYears_100 7 rfl ?_
          obtain ⟨q56, C57, K⟩ := K
          refine g_callV (M' := mX1_addByHand) (b := b37) (As := [.int r13, .int (if r25 < r13 then r25 else (r25 + 1) : Int32), .int (if r34 = 1 then 2 else 1 : Int32)]) (rest := []) (rc' := rc) (rs' := rs) dX7_playYears_102 bw_616 bw_617 bw_618 bw_3 bw_619 ⟨by decide +kernel, by decide +kernel, show (parseMethodDescriptor mX1_addByHand.1.desc).map (fun d => d.parameters.length) = some 3 by decide +kernel⟩ (by decide) (by decide) (Nat.le_of_ble_eq_true rfl) fc_1 (by decide) rfl e39 C57 (Nat.le_of_eq (Nat.add_zero _)) (Nat.le_of_eq (Nat.add_zero _)) (fun _ _ h => h) ?_
          rintro _ h58 ⟨r59, rfl, K1⟩ -
          replace K := K r59 h58 K1
          show Gm l x mX7_playYears 5 105 [(0, .ref a0), (1, .int x1), (2, .int x2), (3, .int r30), (4, .int x4), (5, .int r13), (6, .int (if r25 < r13 then r25 else (r25 + 1) : Int32)), (7, .int (if r34 = 1 then 2 else 1 : Int32))] [.int r59] h58 rc rs n0 Q X
          refine g_pop dX7_playYears_105 rfl ?_
          refine g_iload_n dX7_playYears_106 rfl 3 rfl ?_
          obtain ⟨q60, C61, K⟩ := K
          refine g_callS (M' := mX7_nextSeed) (As := [.int r30]) (rest := []) (rc' := rc) (rs' := rs) dX7_playYears_107 bw_1157 bw_1158 bw_1 bw_1159 ⟨by decide +kernel, by decide +kernel, show (parseMethodDescriptor mX7_nextSeed.1.desc).map (fun d => d.parameters.length) = some 1 by decide +kernel⟩ (by decide) (by decide) (Nat.le_of_ble_eq_true rfl) C61 (Nat.le_of_eq (Nat.add_zero _)) (Nat.le_of_eq (Nat.add_zero _)) (fun _ _ h => h) ?_
          rintro _ h62 ⟨r63, rfl, K1⟩ -
          replace K := K r63 h62 K1
          show Gm l x mX7_playYears 5 110 [(0, .ref a0), (1, .int x1), (2, .int x2), (3, .int r30), (4, .int x4), (5, .int r13), (6, .int (if r25 < r13 then r25 else (r25 + 1) : Int32)), (7, .int (if r34 = 1 then 2 else 1 : Int32))] [.int r63] h62 rc rs n0 Q X
          refine g_istore_n (lv' := [(0, .ref a0), (1, .int x1), (2, .int x2), (3, .int r63), (4, .int x4), (5, .int r13), (6, .int (if r25 < r13 then r25 else (r25 + 1) : Int32)), (7, .int (if r34 = 1 then 2 else 1 : Int32))]) dX7_playYears_110 rfl (by decide) rfl ?_
          refine g_aload_n dX7_playYears_111 rfl 0 rfl ?_
          obtain ⟨e64, b65, e66, K⟩ := K
          refine g_get (c := 7) (k := 2) (v := .ref b65) dX7_playYears_112 fc_7 (by decide) (by decide) bw_404 (congrArg pr e66) e64 ?_
          refine g_iload_n dX7_playYears_115 rfl 3 rfl ?_
          refine g_bipush (v := 8) dX7_playYears_116 (by decide) ?_
          obtain ⟨q67, C68, K⟩ := K
          refine g_callS (M' := mX7_drawOf) (As := [.int r63, .int 8]) (rest := [.ref b65]) (rc' := rc) (rs' := rs) dX7_playYears_118 bw_1161 bw_1162 bw_1 bw_1163 ⟨by decide +kernel, by decide +kernel, show (parseMethodDescriptor mX7_drawOf.1.desc).map (fun d => d.parameters.length) = some 2 by decide +kernel⟩ (by decide) (by decide) (Nat.le_of_ble_eq_true rfl) C68 (Nat.le_of_eq (Nat.add_zero _)) (Nat.le_of_eq (Nat.add_zero _)) (fun _ _ h => h) ?_
          rintro _ h69 ⟨r70, rfl, K1⟩ -
          replace K := K r70 h69 K1
          show Gm l x mX7_playYears 5 121 [(0, .ref a0), (1, .int x1), (2, .int x2), (3, .int r63), (4, .int x4), (5, .int r13), (6, .int (if r25 < r13 then r25 else (r25 + 1) : Int32)), (7, .int (if r34 = 1 then 2 else 1 : Int32))] [.int r70, .ref b65] h69 rc rs n0 Q X
          refine g_iconst (v := 1) dX7_playYears_121 (by decide) ?_
          refine g_iadd dX7_playYears_122 ?_
          obtain ⟨e73, K⟩ := K
          obtain ⟨q71, C72, K⟩ := K
          refine g_callV (M' := mX1_pass) (b := b65) (As := [.int (r70 + 1)]) (rest := []) (rc' := rc) (rs' := rs) dX7_playYears_123 bw_465 bw_466 bw_467 bw_3 bw_468 ⟨by decide +kernel, by decide +kernel, show (parseMethodDescriptor mX1_pass.1.desc).map (fun d => d.parameters.length) = some 1 by decide +kernel⟩ (by decide) (by decide) (Nat.le_of_ble_eq_true rfl) fc_1 (by decide) rfl e73 C72 (Nat.le_of_eq (Nat.add_zero _)) (Nat.le_of_eq (Nat.add_zero _)) (fun _ _ h => h) ?_
          rintro _ h74 ⟨rfl, K1⟩ -
          replace K := K h74 K1
          show Gm l x mX7_playYears 5 126 [(0, .ref a0), (1, .int x1), (2, .int x2), (3, .int r63), (4, .int x4), (5, .int r13), (6, .int (if r25 < r13 then r25 else (r25 + 1) : Int32)), (7, .int (if r34 = 1 then 2 else 1 : Int32))] [] h74 rc rs n0 Q X
          refine g_iinc (v := (x4 + 1)) (lv' := [(0, .ref a0), (1, .int x1), (2, .int x2), (3, .int r63), (4, .int (x4 + 1)), (5, .int r13), (6, .int (if r25 < r13 then r25 else (r25 + 1) : Int32)), (7, .int (if r34 = 1 then 2 else 1 : Int32))]) dX7_playYears_126 4 rfl (by rfl) (by decide) rfl ?_
          refine g_goto (tgt := 5) dX7_playYears_129 (by decide) ?_
          exact Gm.sub [0, 1, 2, 3, 4] rfl K
      refine g_icmp_ne (tgt := 77) dX7_playYears_70 (by decide) (fun c35 => ?_) (fun c35 => ?_)
      · refine g_iconst (v := 1) dX7_playYears_77 (by decide) ?_
        first | (simp only [if_neg c35] at KJ; exact KJ) | (simp only [if_neg c35, ite_true, ite_false, eq_self] at KJ; exact KJ) | (simp only [if_neg c35] at KJ ⊢; exact KJ) | exact KJ
      · refine g_iconst (v := 2) dX7_playYears_73 (by decide) ?_
        refine g_goto (tgt := 78) dX7_playYears_74 (by decide) ?_
        first | (simp only [if_pos c35] at KJ; exact KJ) | (simp only [if_pos c35, ite_true, ite_false, eq_self] at KJ; exact KJ) | (simp only [if_pos c35] at KJ ⊢; exact KJ) | exact KJ
    refine g_icmp_lt (tgt := 59) dX7_playYears_53 (by decide) (fun c26 => ?_) (fun c26 => ?_)
    · first | (simp only [if_pos c26] at KJ; exact KJ) | (simp only [if_pos c26, ite_true, ite_false, eq_self] at KJ; exact KJ) | (simp only [if_pos c26] at KJ ⊢; exact KJ) | exact KJ
    · refine g_iinc (v := (r25 + 1)) (lv' := [(0, .ref a0), (1, .int x1), (2, .int x2), (3, .int r17), (4, .int x4), (5, .int r13), (6, .int (r25 + 1))]) dX7_playYears_56 6 rfl (by rfl) (by decide) rfl ?_
      first | (simp only [if_neg c26] at KJ; exact KJ) | (simp only [if_neg c26, ite_true, ite_false, eq_self] at KJ; exact KJ) | (simp only [if_neg c26] at KJ ⊢; exact KJ) | exact KJ
