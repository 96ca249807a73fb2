/-! STEPS, printed by program: Reader -/
theorem dX4_put_0 : decode cX4_put 0 = .ok (.bipush 24, 2) := by decide +kernel
theorem dX4_put_2 : decode cX4_put 2 = .ok (.istore_n 2, 1) := by decide +kernel
theorem dX4_put_3 : decode cX4_put 3 = .ok (.iload_n 2, 1) := by decide +kernel
theorem dX4_put_4 : decode cX4_put 4 = .ok (.ifCond .lt 48, 3) := by decide +kernel
theorem dX4_put_7 : decode cX4_put 7 = .ok (.aload_n 0, 1) := by decide +kernel
theorem dX4_put_8 : decode cX4_put 8 = .ok (.getfield 15, 3) := by decide +kernel
theorem dX4_put_11 : decode cX4_put 11 = .ok (.aload_n 0, 1) := by decide +kernel
theorem dX4_put_12 : decode cX4_put 12 = .ok (.getfield 9, 3) := by decide +kernel
theorem dX4_put_15 : decode cX4_put 15 = .ok (.arraylength, 1) := by decide +kernel
theorem dX4_put_16 : decode cX4_put 16 = .ok (.if_icmp .ge 36, 3) := by decide +kernel
theorem dX4_put_19 : decode cX4_put 19 = .ok (.aload_n 0, 1) := by decide +kernel
theorem dX4_put_20 : decode cX4_put 20 = .ok (.getfield 9, 3) := by decide +kernel
theorem dX4_put_23 : decode cX4_put 23 = .ok (.aload_n 0, 1) := by decide +kernel
theorem dX4_put_24 : decode cX4_put 24 = .ok (.getfield 15, 3) := by decide +kernel
theorem dX4_put_27 : decode cX4_put 27 = .ok (.iload_n 1, 1) := by decide +kernel
theorem dX4_put_28 : decode cX4_put 28 = .ok (.iload_n 2, 1) := by decide +kernel
theorem dX4_put_29 : decode cX4_put 29 = .ok (.iushr, 1) := by decide +kernel
theorem dX4_put_30 : decode cX4_put 30 = .ok (.sipush 255, 3) := by decide +kernel
theorem dX4_put_33 : decode cX4_put 33 = .ok (.iand, 1) := by decide +kernel
theorem dX4_put_34 : decode cX4_put 34 = .ok (.i2c, 1) := by decide +kernel
theorem dX4_put_35 : decode cX4_put 35 = .ok (.castore, 1) := by decide +kernel
theorem dX4_put_36 : decode cX4_put 36 = .ok (.aload_n 0, 1) := by decide +kernel
theorem dX4_put_37 : decode cX4_put 37 = .ok (.dup, 1) := by decide +kernel
theorem dX4_put_38 : decode cX4_put 38 = .ok (.getfield 15, 3) := by decide +kernel
theorem dX4_put_41 : decode cX4_put 41 = .ok (.iconst 1, 1) := by decide +kernel
theorem dX4_put_42 : decode cX4_put 42 = .ok (.iadd, 1) := by decide +kernel
theorem dX4_put_43 : decode cX4_put 43 = .ok (.putfield 15, 3) := by decide +kernel
theorem dX4_put_46 : decode cX4_put 46 = .ok (.iinc 2 (-8), 3) := by decide +kernel
theorem dX4_put_49 : decode cX4_put 49 = .ok (.goto (-46), 3) := by decide +kernel
theorem dX4_put_52 : decode cX4_put 52 = .ok (.return_, 1) := by decide +kernel
set_option maxRecDepth 20000 in
set_option maxHeartbeats 4000000 in
theorem vX4_put_0 {l : Launch} {x : CX} {a0 : Nat} {x1 : Int32} {h : PH} {rc rs n0 : Nat} {Q : Option Value → PH → Prop} {X : String → PH → Prop}
    (K : Gm l x mX4_put 0 3 [(0, .ref a0), (1, .int x1), (2, .int 24)] [] h rc rs n0 Q X) :
    Gm l x mX4_put 0 0 [(0, .ref a0), (1, .int x1)] [] h rc rs n0 Q X := by
  refine g_bipush (v := 24) dX4_put_0 (by decide) ?_
  refine g_istore_n (lv' := [(0, .ref a0), (1, .int x1), (2, .int 24)]) dX4_put_2 rfl (by decide) rfl ?_
  exact K
set_option maxRecDepth 20000 in
set_option maxHeartbeats 4000000 in
theorem vX4_put_3 {l : Launch} {x : CX} {a0 : Nat} {x1 : Int32} {x2 : Int32} {h : PH} {rc rs n0 : Nat} {Q : Option Value → PH → Prop} {X : String → PH → Prop}
    (K : ((x2 < 0 → Q none h) ∧ (¬ x2 < 0 → ((hK h a0).1 = 4) ∧ ∃ b3, (hR h a0 0 = some b3) ∧ ((hK h b3).1 = 101) ∧ (((Int32.ofNat (hK h b3).2) ≤ (hI h a0 1) → Q none h) ∧ (¬ (Int32.ofNat (hK h b3).2) ≤ (hI h a0 1) → (vp_in (hI h a0 1) (hK h b3).2) ∧ Gm l x mX4_put 0 3 [(0, .ref a0), (1, .int x1), (2, .int (x2 + (-8)))] [] (sI (sI h b3 (hI h a0 1).toNatClampNeg (vp_nar .char (((ius x1 x2) &&& 255).toUInt32 % 65536).toInt32)) a0 1 ((hI (sI h b3 (hI h a0 1).toNatClampNeg (vp_nar .char (((ius x1 x2) &&& 255).toUInt32 % 65536).toInt32)) a0 1) + 1)) rc rs n0 Q X))))) :
    Gm l x mX4_put 0 3 [(0, .ref a0), (1, .int x1), (2, .int x2)] [] h rc rs n0 Q X := by
  refine g_iload_n dX4_put_3 rfl 2 rfl ?_
  refine g_if_lt (tgt := 52) dX4_put_4 (by decide) (fun c1 => ?_) (fun c1 => ?_)
  · replace K := K.1 c1
    exact g_vret dX4_put_52 rfl K
  · replace K := K.2 c1
    refine g_aload_n dX4_put_7 rfl 0 rfl ?_
    obtain ⟨e2, K⟩ := K
    refine g_get (c := 4) (k := 1) (v := .int (hI h a0 1)) dX4_put_8 fc_4 (by decide) (by decide) bw_265 rfl e2 ?_
    refine g_aload_n dX4_put_11 rfl 0 rfl ?_
    obtain ⟨b3, e4, K⟩ := K
    refine g_get (c := 4) (k := 0) (v := .ref b3) dX4_put_12 fc_4 (by decide) (by decide) bw_264 (congrArg pr e4) e2 ?_
    obtain ⟨e5, K⟩ := K
    refine g_alen (t := 1) dX4_put_15 (by decide) e5 rfl ?_
    refine g_icmp_ge (tgt := 52) dX4_put_16 (by decide) (fun c6 => ?_) (fun c6 => ?_)
    · replace K := K.1 c6
      exact g_vret dX4_put_52 rfl K
    · replace K := K.2 c6
      refine g_aload_n dX4_put_19 rfl 0 rfl ?_
      refine g_get (c := 4) (k := 0) (v := .ref b3) dX4_put_20 fc_4 (by decide) (by decide) bw_264 (congrArg pr e4) e2 ?_
      refine g_aload_n dX4_put_23 rfl 0 rfl ?_
      refine g_get (c := 4) (k := 1) (v := .int (hI h a0 1)) dX4_put_24 fc_4 (by decide) (by decide) bw_265 rfl e2 ?_
      refine g_iload_n dX4_put_27 rfl 1 rfl ?_
      refine g_iload_n dX4_put_28 rfl 2 rfl ?_
      refine g_iushr dX4_put_29 ?_
      refine g_sipush (v := 255) dX4_put_30 (by decide) ?_
      refine g_iand dX4_put_33 ?_
      refine g_i2c dX4_put_34 ?_
      obtain ⟨e7, K⟩ := K
      refine g_cast dX4_put_35 e5 e7 ?_
      refine g_aload_n dX4_put_36 rfl 0 rfl ?_
      refine g_dup dX4_put_37 rfl ?_
      refine g_get (c := 4) (k := 1) (v := .int (hI (sI h b3 (hI h a0 1).toNatClampNeg (vp_nar .char (((ius x1 x2) &&& 255).toUInt32 % 65536).toInt32)) a0 1)) dX4_put_38 fc_4 (by decide) (by decide) bw_265 rfl (kkI e2) ?_
      refine g_iconst (v := 1) dX4_put_41 (by decide) ?_
      refine g_iadd dX4_put_42 ?_
      refine g_puti (c := 4) (k := 1) dX4_put_43 fc_4 (by decide) (by decide) bw_265 (Or.inl rfl) rfl (kkI e2) ?_
      refine g_iinc (v := (x2 + (-8))) (lv' := [(0, .ref a0), (1, .int x1), (2, .int (x2 + (-8)))]) dX4_put_46 2 rfl (by rfl) (by decide) rfl ?_
      refine g_goto (tgt := 3) dX4_put_49 (by decide) ?_
      exact K
theorem dX4_fail_0 : decode cX4_fail 0 = .ok (.aload_n 0, 1) := by decide +kernel
theorem dX4_fail_1 : decode cX4_fail 1 = .ok (.getfield 47, 3) := by decide +kernel
theorem dX4_fail_4 : decode cX4_fail 4 = .ok (.ifCond .ne 16, 3) := by decide +kernel
theorem dX4_fail_7 : decode cX4_fail 7 = .ok (.aload_n 0, 1) := by decide +kernel
theorem dX4_fail_8 : decode cX4_fail 8 = .ok (.iload_n 1, 1) := by decide +kernel
theorem dX4_fail_9 : decode cX4_fail 9 = .ok (.putfield 47, 3) := by decide +kernel
theorem dX4_fail_12 : decode cX4_fail 12 = .ok (.aload_n 0, 1) := by decide +kernel
theorem dX4_fail_13 : decode cX4_fail 13 = .ok (.aload_n 0, 1) := by decide +kernel
theorem dX4_fail_14 : decode cX4_fail 14 = .ok (.getfield 35, 3) := by decide +kernel
theorem dX4_fail_17 : decode cX4_fail 17 = .ok (.putfield 50, 3) := by decide +kernel
theorem dX4_fail_20 : decode cX4_fail 20 = .ok (.return_, 1) := by decide +kernel
set_option maxRecDepth 20000 in
set_option maxHeartbeats 4000000 in
theorem vX4_fail_0 {l : Launch} {x : CX} {a0 : Nat} {x1 : Int32} {h : PH} {rc rs n0 : Nat} {Q : Option Value → PH → Prop} {X : String → PH → Prop}
    (K : ((hK h a0).1 = 4) ∧ ((¬ (hI h a0 10) = 0 → Q none h) ∧ ((hI h a0 10) = 0 → Q none (sI (sI h a0 10 x1) a0 11 (hI h a0 6))))) :
    Gm l x mX4_fail 0 0 [(0, .ref a0), (1, .int x1)] [] h rc rs n0 Q X := by
  refine g_aload_n dX4_fail_0 rfl 0 rfl ?_
  obtain ⟨e1, K⟩ := K
  refine g_get (c := 4) (k := 10) (v := .int (hI h a0 10)) dX4_fail_1 fc_4 (by decide) (by decide) bw_276 rfl e1 ?_
  refine g_if_ne (tgt := 20) dX4_fail_4 (by decide) (fun c2 => ?_) (fun c2 => ?_)
  · replace K := K.1 c2
    exact g_vret dX4_fail_20 rfl K
  · replace K := K.2 c2
    refine g_aload_n dX4_fail_7 rfl 0 rfl ?_
    refine g_iload_n dX4_fail_8 rfl 1 rfl ?_
    refine g_puti (c := 4) (k := 10) dX4_fail_9 fc_4 (by decide) (by decide) bw_276 (Or.inl rfl) rfl e1 ?_
    refine g_aload_n dX4_fail_12 rfl 0 rfl ?_
    refine g_aload_n dX4_fail_13 rfl 0 rfl ?_
    refine g_get (c := 4) (k := 6) (v := .int (hI h a0 6)) dX4_fail_14 fc_4 (by decide) (by decide) bw_272 (congrArg Value.int ((skI (by decide)).trans rfl)) (kkI e1) ?_
    refine g_puti (c := 4) (k := 11) dX4_fail_17 fc_4 (by decide) (by decide) bw_277 (Or.inl rfl) rfl (kkI e1) ?_
    exact g_vret dX4_fail_20 rfl K
theorem dX4_isLetter_0 : decode cX4_isLetter 0 = .ok (.iload_n 0, 1) := by decide +kernel
theorem dX4_isLetter_1 : decode cX4_isLetter 1 = .ok (.bipush 97, 2) := by decide +kernel
theorem dX4_isLetter_3 : decode cX4_isLetter 3 = .ok (.if_icmp .lt 13, 3) := by decide +kernel
theorem dX4_isLetter_6 : decode cX4_isLetter 6 = .ok (.iload_n 0, 1) := by decide +kernel
theorem dX4_isLetter_7 : decode cX4_isLetter 7 = .ok (.bipush 122, 2) := by decide +kernel
theorem dX4_isLetter_9 : decode cX4_isLetter 9 = .ok (.if_icmp .gt 7, 3) := by decide +kernel
theorem dX4_isLetter_12 : decode cX4_isLetter 12 = .ok (.iconst 1, 1) := by decide +kernel
theorem dX4_isLetter_13 : decode cX4_isLetter 13 = .ok (.goto 4, 3) := by decide +kernel
theorem dX4_isLetter_16 : decode cX4_isLetter 16 = .ok (.iconst 0, 1) := by decide +kernel
theorem dX4_isLetter_17 : decode cX4_isLetter 17 = .ok (.ireturn, 1) := by decide +kernel
set_option maxRecDepth 20000 in
set_option maxHeartbeats 4000000 in
theorem vX4_isLetter_0 {l : Launch} {x : CX} {x0 : Int32} {h : PH} {rc rs n0 : Nat} {Q : Option Value → PH → Prop} {X : String → PH → Prop}
    (K : (((if x0 < 97 then 0 else (if 122 < x0 then 0 else 1 : Int32) : Int32) : Int32) = 0 ∨ ((if x0 < 97 then 0 else (if 122 < x0 then 0 else 1 : Int32) : Int32) : Int32) = 1) ∧ Q (some (.int (if x0 < 97 then 0 else (if 122 < x0 then 0 else 1 : Int32) : Int32))) h) :
    Gm l x mX4_isLetter 0 0 [(0, .int x0)] [] h rc rs n0 Q X := by
  refine g_iload_n dX4_isLetter_0 rfl 0 rfl ?_
  refine g_bipush (v := 97) dX4_isLetter_1 (by decide) ?_
  have KJ : Gm l x mX4_isLetter 0 17 [(0, .int x0)] [.int (if x0 < 97 then 0 else (if 122 < x0 then 0 else 1 : Int32) : Int32)] h rc rs n0 Q X := by
    exact g_zret dX4_isLetter_17 rfl K.1 K.2
  refine g_icmp_lt (tgt := 16) dX4_isLetter_3 (by decide) (fun c1 => ?_) (fun c1 => ?_)
  · refine g_iconst (v := 0) dX4_isLetter_16 (by decide) ?_
    first | (simp only [if_pos c1] at KJ; exact KJ) | (simp only [if_pos c1, ite_true, ite_false, eq_self] at KJ; exact KJ) | (simp only [if_pos c1] at KJ ⊢; exact KJ) | exact KJ
  · refine g_iload_n dX4_isLetter_6 rfl 0 rfl ?_
    refine g_bipush (v := 122) dX4_isLetter_7 (by decide) ?_
    refine g_icmp_gt (tgt := 16) dX4_isLetter_9 (by decide) (fun c2 => ?_) (fun c2 => ?_)
    · refine g_iconst (v := 0) dX4_isLetter_16 (by decide) ?_
      first | (simp only [if_neg c1, if_pos c2] at KJ; exact KJ) | (simp only [if_neg c1, if_pos c2, ite_true, ite_false, eq_self] at KJ; exact KJ) | (simp only [if_neg c1, if_pos c2] at KJ ⊢; exact KJ) | exact KJ
    · refine g_iconst (v := 1) dX4_isLetter_12 (by decide) ?_
      refine g_goto (tgt := 17) dX4_isLetter_13 (by decide) ?_
      first | (simp only [if_neg c1, if_neg c2] at KJ; exact KJ) | (simp only [if_neg c1, if_neg c2, ite_true, ite_false, eq_self] at KJ; exact KJ) | (simp only [if_neg c1, if_neg c2] at KJ ⊢; exact KJ) | exact KJ
theorem dX4_isDigit_0 : decode cX4_isDigit 0 = .ok (.iload_n 0, 1) := by decide +kernel
theorem dX4_isDigit_1 : decode cX4_isDigit 1 = .ok (.bipush 48, 2) := by decide +kernel
theorem dX4_isDigit_3 : decode cX4_isDigit 3 = .ok (.if_icmp .lt 13, 3) := by decide +kernel
theorem dX4_isDigit_6 : decode cX4_isDigit 6 = .ok (.iload_n 0, 1) := by decide +kernel
theorem dX4_isDigit_7 : decode cX4_isDigit 7 = .ok (.bipush 57, 2) := by decide +kernel
theorem dX4_isDigit_9 : decode cX4_isDigit 9 = .ok (.if_icmp .gt 7, 3) := by decide +kernel
theorem dX4_isDigit_12 : decode cX4_isDigit 12 = .ok (.iconst 1, 1) := by decide +kernel
theorem dX4_isDigit_13 : decode cX4_isDigit 13 = .ok (.goto 4, 3) := by decide +kernel
theorem dX4_isDigit_16 : decode cX4_isDigit 16 = .ok (.iconst 0, 1) := by decide +kernel
theorem dX4_isDigit_17 : decode cX4_isDigit 17 = .ok (.ireturn, 1) := by decide +kernel
set_option maxRecDepth 20000 in
set_option maxHeartbeats 4000000 in
theorem vX4_isDigit_0 {l : Launch} {x : CX} {x0 : Int32} {h : PH} {rc rs n0 : Nat} {Q : Option Value → PH → Prop} {X : String → PH → Prop}
    (K : (((if x0 < 48 then 0 else (if 57 < x0 then 0 else 1 : Int32) : Int32) : Int32) = 0 ∨ ((if x0 < 48 then 0 else (if 57 < x0 then 0 else 1 : Int32) : Int32) : Int32) = 1) ∧ Q (some (.int (if x0 < 48 then 0 else (if 57 < x0 then 0 else 1 : Int32) : Int32))) h) :
    Gm l x mX4_isDigit 0 0 [(0, .int x0)] [] h rc rs n0 Q X := by
  refine g_iload_n dX4_isDigit_0 rfl 0 rfl ?_
  refine g_bipush (v := 48) dX4_isDigit_1 (by decide) ?_
  have KJ : Gm l x mX4_isDigit 0 17 [(0, .int x0)] [.int (if x0 < 48 then 0 else (if 57 < x0 then 0 else 1 : Int32) : Int32)] h rc rs n0 Q X := by
    exact g_zret dX4_isDigit_17 rfl K.1 K.2
  refine g_icmp_lt (tgt := 16) dX4_isDigit_3 (by decide) (fun c1 => ?_) (fun c1 => ?_)
  · refine g_iconst (v := 0) dX4_isDigit_16 (by decide) ?_
    first | (simp only [if_pos c1] at KJ; exact KJ) | (simp only [if_pos c1, ite_true, ite_false, eq_self] at KJ; exact KJ) | (simp only [if_pos c1] at KJ ⊢; exact KJ) | exact KJ
  · refine g_iload_n dX4_isDigit_6 rfl 0 rfl ?_
    refine g_bipush (v := 57) dX4_isDigit_7 (by decide) ?_
    refine g_icmp_gt (tgt := 16) dX4_isDigit_9 (by decide) (fun c2 => ?_) (fun c2 => ?_)
    · refine g_iconst (v := 0) dX4_isDigit_16 (by decide) ?_
      first | (simp only [if_neg c1, if_pos c2] at KJ; exact KJ) | (simp only [if_neg c1, if_pos c2, ite_true, ite_false, eq_self] at KJ; exact KJ) | (simp only [if_neg c1, if_pos c2] at KJ ⊢; exact KJ) | exact KJ
    · refine g_iconst (v := 1) dX4_isDigit_12 (by decide) ?_
      refine g_goto (tgt := 17) dX4_isDigit_13 (by decide) ?_
      first | (simp only [if_neg c1, if_neg c2] at KJ; exact KJ) | (simp only [if_neg c1, if_neg c2, ite_true, ite_false, eq_self] at KJ; exact KJ) | (simp only [if_neg c1, if_neg c2] at KJ ⊢; exact KJ) | exact KJ
theorem dX4_next_0 : decode cX4_next 0 = .ok (.aload_n 0, 1) := by decide +kernel
theorem dX4_next_1 : decode cX4_next 1 = .ok (.getfield 47, 3) := by decide +kernel
theorem dX4_next_4 : decode cX4_next 4 = .ok (.ifCond .eq 4, 3) := by decide +kernel
theorem dX4_next_7 : decode cX4_next 7 = .ok (.return_, 1) := by decide +kernel
theorem dX4_next_8 : decode cX4_next 8 = .ok (.aload_n 0, 1) := by decide +kernel
theorem dX4_next_9 : decode cX4_next 9 = .ok (.getfield 29, 3) := by decide +kernel
theorem dX4_next_12 : decode cX4_next 12 = .ok (.aload_n 0, 1) := by decide +kernel
theorem dX4_next_13 : decode cX4_next 13 = .ok (.getfield 26, 3) := by decide +kernel
theorem dX4_next_16 : decode cX4_next 16 = .ok (.if_icmp .ge 44, 3) := by decide +kernel
theorem dX4_next_19 : decode cX4_next 19 = .ok (.aload_n 0, 1) := by decide +kernel
theorem dX4_next_20 : decode cX4_next 20 = .ok (.getfield 9, 3) := by decide +kernel
theorem dX4_next_23 : decode cX4_next 23 = .ok (.aload_n 0, 1) := by decide +kernel
theorem dX4_next_24 : decode cX4_next 24 = .ok (.getfield 29, 3) := by decide +kernel
theorem dX4_next_27 : decode cX4_next 27 = .ok (.caload, 1) := by decide +kernel
theorem dX4_next_28 : decode cX4_next 28 = .ok (.bipush 32, 2) := by decide +kernel
theorem dX4_next_30 : decode cX4_next 30 = .ok (.if_icmp .eq 17, 3) := by decide +kernel
theorem dX4_next_33 : decode cX4_next 33 = .ok (.aload_n 0, 1) := by decide +kernel
theorem dX4_next_34 : decode cX4_next 34 = .ok (.getfield 9, 3) := by decide +kernel
theorem dX4_next_37 : decode cX4_next 37 = .ok (.aload_n 0, 1) := by decide +kernel
theorem dX4_next_38 : decode cX4_next 38 = .ok (.getfield 29, 3) := by decide +kernel
theorem dX4_next_41 : decode cX4_next 41 = .ok (.caload, 1) := by decide +kernel
theorem dX4_next_42 : decode cX4_next 42 = .ok (.bipush 10, 2) := by decide +kernel
theorem dX4_next_44 : decode cX4_next 44 = .ok (.if_icmp .ne 16, 3) := by decide +kernel
theorem dX4_next_47 : decode cX4_next 47 = .ok (.aload_n 0, 1) := by decide +kernel
theorem dX4_next_48 : decode cX4_next 48 = .ok (.dup, 1) := by decide +kernel
theorem dX4_next_49 : decode cX4_next 49 = .ok (.getfield 29, 3) := by decide +kernel
theorem dX4_next_52 : decode cX4_next 52 = .ok (.iconst 1, 1) := by decide +kernel
theorem dX4_next_53 : decode cX4_next 53 = .ok (.iadd, 1) := by decide +kernel
theorem dX4_next_54 : decode cX4_next 54 = .ok (.putfield 29, 3) := by decide +kernel
theorem dX4_next_57 : decode cX4_next 57 = .ok (.goto (-49), 3) := by decide +kernel
theorem dX4_next_60 : decode cX4_next 60 = .ok (.aload_n 0, 1) := by decide +kernel
theorem dX4_next_61 : decode cX4_next 61 = .ok (.aload_n 0, 1) := by decide +kernel
theorem dX4_next_62 : decode cX4_next 62 = .ok (.getfield 29, 3) := by decide +kernel
theorem dX4_next_65 : decode cX4_next 65 = .ok (.putfield 35, 3) := by decide +kernel
theorem dX4_next_68 : decode cX4_next 68 = .ok (.aload_n 0, 1) := by decide +kernel
theorem dX4_next_69 : decode cX4_next 69 = .ok (.getfield 29, 3) := by decide +kernel
theorem dX4_next_72 : decode cX4_next 72 = .ok (.aload_n 0, 1) := by decide +kernel
theorem dX4_next_73 : decode cX4_next 73 = .ok (.getfield 26, 3) := by decide +kernel
theorem dX4_next_76 : decode cX4_next 76 = .ok (.if_icmp .lt 11, 3) := by decide +kernel
theorem dX4_next_79 : decode cX4_next 79 = .ok (.aload_n 0, 1) := by decide +kernel
theorem dX4_next_80 : decode cX4_next 80 = .ok (.iconst 0, 1) := by decide +kernel
theorem dX4_next_81 : decode cX4_next 81 = .ok (.putfield 32, 3) := by decide +kernel
theorem dX4_next_84 : decode cX4_next 84 = .ok (.goto 193, 3) := by decide +kernel
theorem dX4_next_87 : decode cX4_next 87 = .ok (.aload_n 0, 1) := by decide +kernel
theorem dX4_next_88 : decode cX4_next 88 = .ok (.getfield 9, 3) := by decide +kernel
theorem dX4_next_91 : decode cX4_next 91 = .ok (.aload_n 0, 1) := by decide +kernel
theorem dX4_next_92 : decode cX4_next 92 = .ok (.getfield 29, 3) := by decide +kernel
theorem dX4_next_95 : decode cX4_next 95 = .ok (.caload, 1) := by decide +kernel
theorem dX4_next_96 : decode cX4_next 96 = .ok (.bipush 59, 2) := by decide +kernel
theorem dX4_next_98 : decode cX4_next 98 = .ok (.if_icmp .ne 21, 3) := by decide +kernel
theorem dX4_next_101 : decode cX4_next 101 = .ok (.aload_n 0, 1) := by decide +kernel
theorem dX4_next_102 : decode cX4_next 102 = .ok (.iconst 3, 1) := by decide +kernel
theorem dX4_next_103 : decode cX4_next 103 = .ok (.putfield 32, 3) := by decide +kernel
theorem dX4_next_106 : decode cX4_next 106 = .ok (.aload_n 0, 1) := by decide +kernel
theorem dX4_next_107 : decode cX4_next 107 = .ok (.dup, 1) := by decide +kernel
theorem dX4_next_108 : decode cX4_next 108 = .ok (.getfield 29, 3) := by decide +kernel
theorem dX4_next_111 : decode cX4_next 111 = .ok (.iconst 1, 1) := by decide +kernel
theorem dX4_next_112 : decode cX4_next 112 = .ok (.iadd, 1) := by decide +kernel
theorem dX4_next_113 : decode cX4_next 113 = .ok (.putfield 29, 3) := by decide +kernel
theorem dX4_next_116 : decode cX4_next 116 = .ok (.goto 161, 3) := by decide +kernel
theorem dX4_next_119 : decode cX4_next 119 = .ok (.aload_n 0, 1) := by decide +kernel
theorem dX4_next_120 : decode cX4_next 120 = .ok (.getfield 9, 3) := by decide +kernel
theorem dX4_next_123 : decode cX4_next 123 = .ok (.aload_n 0, 1) := by decide +kernel
theorem dX4_next_124 : decode cX4_next 124 = .ok (.getfield 29, 3) := by decide +kernel
theorem dX4_next_127 : decode cX4_next 127 = .ok (.caload, 1) := by decide +kernel
theorem dX4_next_128 : decode cX4_next 128 = .ok (.invokestatic 72, 3) := by decide +kernel
theorem dX4_next_131 : decode cX4_next 131 = .ok (.ifCond .eq 47, 3) := by decide +kernel
theorem dX4_next_134 : decode cX4_next 134 = .ok (.aload_n 0, 1) := by decide +kernel
theorem dX4_next_135 : decode cX4_next 135 = .ok (.iconst 1, 1) := by decide +kernel
theorem dX4_next_136 : decode cX4_next 136 = .ok (.putfield 32, 3) := by decide +kernel
theorem dX4_next_139 : decode cX4_next 139 = .ok (.aload_n 0, 1) := by decide +kernel
theorem dX4_next_140 : decode cX4_next 140 = .ok (.getfield 29, 3) := by decide +kernel
theorem dX4_next_143 : decode cX4_next 143 = .ok (.aload_n 0, 1) := by decide +kernel
theorem dX4_next_144 : decode cX4_next 144 = .ok (.getfield 26, 3) := by decide +kernel
theorem dX4_next_147 : decode cX4_next 147 = .ok (.if_icmp .ge 130, 3) := by decide +kernel
theorem dX4_next_150 : decode cX4_next 150 = .ok (.aload_n 0, 1) := by decide +kernel
theorem dX4_next_151 : decode cX4_next 151 = .ok (.getfield 9, 3) := by decide +kernel
theorem dX4_next_154 : decode cX4_next 154 = .ok (.aload_n 0, 1) := by decide +kernel
theorem dX4_next_155 : decode cX4_next 155 = .ok (.getfield 29, 3) := by decide +kernel
theorem dX4_next_158 : decode cX4_next 158 = .ok (.caload, 1) := by decide +kernel
theorem dX4_next_159 : decode cX4_next 159 = .ok (.invokestatic 72, 3) := by decide +kernel
theorem dX4_next_162 : decode cX4_next 162 = .ok (.ifCond .eq 115, 3) := by decide +kernel
theorem dX4_next_165 : decode cX4_next 165 = .ok (.aload_n 0, 1) := by decide +kernel
theorem dX4_next_166 : decode cX4_next 166 = .ok (.dup, 1) := by decide +kernel
theorem dX4_next_167 : decode cX4_next 167 = .ok (.getfield 29, 3) := by decide +kernel
theorem dX4_next_170 : decode cX4_next 170 = .ok (.iconst 1, 1) := by decide +kernel
theorem dX4_next_171 : decode cX4_next 171 = .ok (.iadd, 1) := by decide +kernel
theorem dX4_next_172 : decode cX4_next 172 = .ok (.putfield 29, 3) := by decide +kernel
theorem dX4_next_175 : decode cX4_next 175 = .ok (.goto (-36), 3) := by decide +kernel
theorem dX4_next_178 : decode cX4_next 178 = .ok (.aload_n 0, 1) := by decide +kernel
theorem dX4_next_179 : decode cX4_next 179 = .ok (.getfield 9, 3) := by decide +kernel
theorem dX4_next_182 : decode cX4_next 182 = .ok (.aload_n 0, 1) := by decide +kernel
theorem dX4_next_183 : decode cX4_next 183 = .ok (.getfield 29, 3) := by decide +kernel
theorem dX4_next_186 : decode cX4_next 186 = .ok (.caload, 1) := by decide +kernel
theorem dX4_next_187 : decode cX4_next 187 = .ok (.invokestatic 76, 3) := by decide +kernel
theorem dX4_next_190 : decode cX4_next 190 = .ok (.ifCond .eq 82, 3) := by decide +kernel
theorem dX4_next_193 : decode cX4_next 193 = .ok (.aload_n 0, 1) := by decide +kernel
theorem dX4_next_194 : decode cX4_next 194 = .ok (.iconst 2, 1) := by decide +kernel
theorem dX4_next_195 : decode cX4_next 195 = .ok (.putfield 32, 3) := by decide +kernel
theorem dX4_next_198 : decode cX4_next 198 = .ok (.aload_n 0, 1) := by decide +kernel
theorem dX4_next_199 : decode cX4_next 199 = .ok (.iconst 0, 1) := by decide +kernel
theorem dX4_next_200 : decode cX4_next 200 = .ok (.putfield 38, 3) := by decide +kernel
theorem dX4_next_203 : decode cX4_next 203 = .ok (.aload_n 0, 1) := by decide +kernel
theorem dX4_next_204 : decode cX4_next 204 = .ok (.getfield 29, 3) := by decide +kernel
theorem dX4_next_207 : decode cX4_next 207 = .ok (.aload_n 0, 1) := by decide +kernel
theorem dX4_next_208 : decode cX4_next 208 = .ok (.getfield 26, 3) := by decide +kernel
theorem dX4_next_211 : decode cX4_next 211 = .ok (.if_icmp .ge 66, 3) := by decide +kernel
theorem dX4_next_214 : decode cX4_next 214 = .ok (.aload_n 0, 1) := by decide +kernel
theorem dX4_next_215 : decode cX4_next 215 = .ok (.getfield 9, 3) := by decide +kernel
theorem dX4_next_218 : decode cX4_next 218 = .ok (.aload_n 0, 1) := by decide +kernel
theorem dX4_next_219 : decode cX4_next 219 = .ok (.getfield 29, 3) := by decide +kernel
theorem dX4_next_222 : decode cX4_next 222 = .ok (.caload, 1) := by decide +kernel
theorem dX4_next_223 : decode cX4_next 223 = .ok (.invokestatic 76, 3) := by decide +kernel
theorem dX4_next_226 : decode cX4_next 226 = .ok (.ifCond .eq 51, 3) := by decide +kernel
theorem dX4_next_229 : decode cX4_next 229 = .ok (.aload_n 0, 1) := by decide +kernel
theorem dX4_next_230 : decode cX4_next 230 = .ok (.aload_n 0, 1) := by decide +kernel
theorem dX4_next_231 : decode cX4_next 231 = .ok (.getfield 38, 3) := by decide +kernel
theorem dX4_next_234 : decode cX4_next 234 = .ok (.bipush 10, 2) := by decide +kernel
theorem dX4_next_236 : decode cX4_next 236 = .ok (.imul, 1) := by decide +kernel
theorem dX4_next_237 : decode cX4_next 237 = .ok (.aload_n 0, 1) := by decide +kernel
theorem dX4_next_238 : decode cX4_next 238 = .ok (.getfield 9, 3) := by decide +kernel
theorem dX4_next_241 : decode cX4_next 241 = .ok (.aload_n 0, 1) := by decide +kernel
theorem dX4_next_242 : decode cX4_next 242 = .ok (.getfield 29, 3) := by decide +kernel
theorem dX4_next_245 : decode cX4_next 245 = .ok (.caload, 1) := by decide +kernel
theorem dX4_next_246 : decode cX4_next 246 = .ok (.iadd, 1) := by decide +kernel
theorem dX4_next_247 : decode cX4_next 247 = .ok (.bipush 48, 2) := by decide +kernel
theorem dX4_next_249 : decode cX4_next 249 = .ok (.isub, 1) := by decide +kernel
theorem dX4_next_250 : decode cX4_next 250 = .ok (.sipush 999, 3) := by decide +kernel
theorem dX4_next_253 : decode cX4_next 253 = .ok (.invokestatic 56, 3) := by decide +kernel
theorem dX4_next_256 : decode cX4_next 256 = .ok (.putfield 38, 3) := by decide +kernel
theorem dX4_next_259 : decode cX4_next 259 = .ok (.aload_n 0, 1) := by decide +kernel
theorem dX4_next_260 : decode cX4_next 260 = .ok (.dup, 1) := by decide +kernel
theorem dX4_next_261 : decode cX4_next 261 = .ok (.getfield 29, 3) := by decide +kernel
theorem dX4_next_264 : decode cX4_next 264 = .ok (.iconst 1, 1) := by decide +kernel
theorem dX4_next_265 : decode cX4_next 265 = .ok (.iadd, 1) := by decide +kernel
theorem dX4_next_266 : decode cX4_next 266 = .ok (.putfield 29, 3) := by decide +kernel
theorem dX4_next_269 : decode cX4_next 269 = .ok (.goto (-66), 3) := by decide +kernel
theorem dX4_next_272 : decode cX4_next 272 = .ok (.aload_n 0, 1) := by decide +kernel
theorem dX4_next_273 : decode cX4_next 273 = .ok (.iconst 4, 1) := by decide +kernel
theorem dX4_next_274 : decode cX4_next 274 = .ok (.putfield 32, 3) := by decide +kernel
theorem dX4_next_277 : decode cX4_next 277 = .ok (.return_, 1) := by decide +kernel
set_option maxRecDepth 20000 in
set_option maxHeartbeats 4000000 in
theorem vX4_next_0 {l : Launch} {x : CX} {a0 : Nat} {h : PH} {rc rs n0 : Nat} {Q : Option Value → PH → Prop} {X : String → PH → Prop}
    (K : ((hK h a0).1 = 4) ∧ (((hI h a0 10) = 0 → Gm l x mX4_next 1 8 [(0, .ref a0)] [] h rc rs n0 Q X) ∧ (¬ (hI h a0 10) = 0 → Q none h))) :
    Gm l x mX4_next 1 0 [(0, .ref a0)] [] h rc rs n0 Q X := by
  refine g_aload_n dX4_next_0 rfl 0 rfl ?_
  obtain ⟨e1, K⟩ := K
  refine g_get (c := 4) (k := 10) (v := .int (hI h a0 10)) dX4_next_1 fc_4 (by decide) (by decide) bw_276 rfl e1 ?_
  refine g_if_eq (tgt := 8) dX4_next_4 (by decide) (fun c2 => ?_) (fun c2 => ?_)
  · replace K := K.1 c2
    exact K
  · replace K := K.2 c2
    exact g_vret dX4_next_7 rfl K
set_option maxRecDepth 20000 in
set_option maxHeartbeats 4000000 in
theorem vX4_next_8 {l : Launch} {x : CX} {a0 : Nat} {h : PH} {rc rs n0 : Nat} {Q : Option Value → PH → Prop} {X : String → PH → Prop}
    (K : ((hK h a0).1 = 4) ∧ (((hI h a0 3) ≤ (hI h a0 4) → Gm l x mX4_next 1 60 [(0, .ref a0)] [] h rc rs n0 Q X) ∧ (¬ (hI h a0 3) ≤ (hI h a0 4) → ∃ b3, (hR h a0 0 = some b3) ∧ ((hK h b3).1 = 101) ∧ (vp_in (hI h a0 4) (hK h b3).2) ∧ (((hI h b3 (hI h a0 4).toNatClampNeg) = 32 → Gm l x mX4_next 1 8 [(0, .ref a0)] [] (sI h a0 4 ((hI h a0 4) + 1)) rc rs n0 Q X) ∧ (¬ (hI h b3 (hI h a0 4).toNatClampNeg) = 32 → (vp_in (hI h a0 4) (hK h b3).2) ∧ ((¬ (hI h b3 (hI h a0 4).toNatClampNeg) = 10 → Gm l x mX4_next 1 60 [(0, .ref a0)] [] h rc rs n0 Q X) ∧ ((hI h b3 (hI h a0 4).toNatClampNeg) = 10 → Gm l x mX4_next 1 8 [(0, .ref a0)] [] (sI h a0 4 ((hI h a0 4) + 1)) rc rs n0 Q X))))))) :
    Gm l x mX4_next 1 8 [(0, .ref a0)] [] h rc rs n0 Q X := by
  refine g_aload_n dX4_next_8 rfl 0 rfl ?_
  obtain ⟨e1, K⟩ := K
  refine g_get (c := 4) (k := 4) (v := .int (hI h a0 4)) dX4_next_9 fc_4 (by decide) (by decide) bw_270 rfl e1 ?_
  refine g_aload_n dX4_next_12 rfl 0 rfl ?_
  refine g_get (c := 4) (k := 3) (v := .int (hI h a0 3)) dX4_next_13 fc_4 (by decide) (by decide) bw_269 rfl e1 ?_
  refine g_icmp_ge (tgt := 60) dX4_next_16 (by decide) (fun c2 => ?_) (fun c2 => ?_)
  · replace K := K.1 c2
    exact K
  · replace K := K.2 c2
    refine g_aload_n dX4_next_19 rfl 0 rfl ?_
    obtain ⟨b3, e4, K⟩ := K
    refine g_get (c := 4) (k := 0) (v := .ref b3) dX4_next_20 fc_4 (by decide) (by decide) bw_264 (congrArg pr e4) e1 ?_
    refine g_aload_n dX4_next_23 rfl 0 rfl ?_
    refine g_get (c := 4) (k := 4) (v := .int (hI h a0 4)) dX4_next_24 fc_4 (by decide) (by decide) bw_270 rfl e1 ?_
    obtain ⟨e5, e6, K⟩ := K
    refine g_cald dX4_next_27 e5 e6 ?_
    refine g_bipush (v := 32) dX4_next_28 (by decide) ?_
    refine g_icmp_eq (tgt := 47) dX4_next_30 (by decide) (fun c7 => ?_) (fun c7 => ?_)
    · replace K := K.1 c7
      refine g_aload_n dX4_next_47 rfl 0 rfl ?_
      refine g_dup dX4_next_48 rfl ?_
      refine g_get (c := 4) (k := 4) (v := .int (hI h a0 4)) dX4_next_49 fc_4 (by decide) (by decide) bw_270 rfl e1 ?_
      refine g_iconst (v := 1) dX4_next_52 (by decide) ?_
      refine g_iadd dX4_next_53 ?_
      refine g_puti (c := 4) (k := 4) dX4_next_54 fc_4 (by decide) (by decide) bw_270 (Or.inl rfl) rfl e1 ?_
      refine g_goto (tgt := 8) dX4_next_57 (by decide) ?_
      exact K
    · replace K := K.2 c7
      refine g_aload_n dX4_next_33 rfl 0 rfl ?_
      refine g_get (c := 4) (k := 0) (v := .ref b3) dX4_next_34 fc_4 (by decide) (by decide) bw_264 (congrArg pr e4) e1 ?_
      refine g_aload_n dX4_next_37 rfl 0 rfl ?_
      refine g_get (c := 4) (k := 4) (v := .int (hI h a0 4)) dX4_next_38 fc_4 (by decide) (by decide) bw_270 rfl e1 ?_
      obtain ⟨e8, K⟩ := K
      refine g_cald dX4_next_41 e5 e8 ?_
      refine g_bipush (v := 10) dX4_next_42 (by decide) ?_
      refine g_icmp_ne (tgt := 60) dX4_next_44 (by decide) (fun c9 => ?_) (fun c9 => ?_)
      · replace K := K.1 c9
        exact K
      · replace K := K.2 c9
        refine g_aload_n dX4_next_47 rfl 0 rfl ?_
        refine g_dup dX4_next_48 rfl ?_
        refine g_get (c := 4) (k := 4) (v := .int (hI h a0 4)) dX4_next_49 fc_4 (by decide) (by decide) bw_270 rfl e1 ?_
        refine g_iconst (v := 1) dX4_next_52 (by decide) ?_
        refine g_iadd dX4_next_53 ?_
        refine g_puti (c := 4) (k := 4) dX4_next_54 fc_4 (by decide) (by decide) bw_270 (Or.inl rfl) rfl e1 ?_
        refine g_goto (tgt := 8) dX4_next_57 (by decide) ?_
        exact K
set_option maxRecDepth 20000 in
set_option maxHeartbeats 4000000 in
theorem vX4_next_60 {l : Launch} {x : CX} {a0 : Nat} {h : PH} {rc rs n0 : Nat} {Q : Option Value → PH → Prop} {X : String → PH → Prop}
    (K : ((hK h a0).1 = 4) ∧ (((hI h a0 4) < (hI h a0 3) → ∃ b3, (hR h a0 0 = some b3) ∧ ((hK h b3).1 = 101) ∧ (vp_in (hI h a0 4) (hK h b3).2) ∧ ((¬ (hI (sI h a0 6 (hI h a0 4)) b3 (hI h a0 4).toNatClampNeg) = 59 → (vp_in (hI h a0 4) (hK h b3).2) ∧ ∃ (q9 : Int32 → PH → Prop), CI l x mX4_isLetter 0 0 0 [.int (hI (sI h a0 6 (hI h a0 4)) b3 (hI h a0 4).toNatClampNeg)] (sI h a0 6 (hI h a0 4)) q9 ∧ ∀ (r12 : Int32) (h11 : PH), q9 r12 h11 → ((r12 = 0 → ((hK h11 a0).1 = 4) ∧ ∃ b15, (hR h11 a0 0 = some b15) ∧ ((hK h11 b15).1 = 101) ∧ (vp_in (hI h11 a0 4) (hK h11 b15).2) ∧ ∃ (q19 : Int32 → PH → Prop), CI l x mX4_isDigit 0 0 0 [.int (hI h11 b15 (hI h11 a0 4).toNatClampNeg)] h11 q19 ∧ ∀ (r22 : Int32) (h21 : PH), q19 r22 h21 → ((r22 = 0 → ((hK h21 a0).1 = 4) ∧ Q none (sI h21 a0 5 4)) ∧ (¬ r22 = 0 → ((hK h21 a0).1 = 4) ∧ Gm l x mX4_next 1 203 [(0, .ref a0)] [] (sI (sI h21 a0 5 2) a0 7 0) rc rs n0 Q X))) ∧ (¬ r12 = 0 → ((hK h11 a0).1 = 4) ∧ Gm l x mX4_next 1 139 [(0, .ref a0)] [] (sI h11 a0 5 1) rc rs n0 Q X))) ∧ ((hI (sI h a0 6 (hI h a0 4)) b3 (hI h a0 4).toNatClampNeg) = 59 → Q none (sI (sI (sI h a0 6 (hI h a0 4)) a0 5 3) a0 4 ((hI h a0 4) + 1))))) ∧ (¬ (hI h a0 4) < (hI h a0 3) → Q none (sI (sI h a0 6 (hI h a0 4)) a0 5 0)))) :
    Gm l x mX4_next 1 60 [(0, .ref a0)] [] h rc rs n0 Q X := by
  refine g_aload_n dX4_next_60 rfl 0 rfl ?_
  refine g_aload_n dX4_next_61 rfl 0 rfl ?_
  obtain ⟨e1, K⟩ := K
  refine g_get (c := 4) (k := 4) (v := .int (hI h a0 4)) dX4_next_62 fc_4 (by decide) (by decide) bw_270 rfl e1 ?_
  refine g_puti (c := 4) (k := 6) dX4_next_65 fc_4 (by decide) (by decide) bw_272 (Or.inl rfl) rfl e1 ?_
  refine g_aload_n dX4_next_68 rfl 0 rfl ?_
  refine g_get (c := 4) (k := 4) (v := .int (hI h a0 4)) dX4_next_69 fc_4 (by decide) (by decide) bw_270 (congrArg Value.int ((skI (by decide)).trans rfl)) (kkI e1) ?_
  refine g_aload_n dX4_next_72 rfl 0 rfl ?_
  refine g_get (c := 4) (k := 3) (v := .int (hI h a0 3)) dX4_next_73 fc_4 (by decide) (by decide) bw_269 (congrArg Value.int ((skI (by decide)).trans rfl)) (kkI e1) ?_
  refine g_icmp_lt (tgt := 87) dX4_next_76 (by decide) (fun c2 => ?_) (fun c2 => ?_)
  · replace K := K.1 c2
    refine g_aload_n dX4_next_87 rfl 0 rfl ?_
    obtain ⟨b3, e4, K⟩ := K
    refine g_get (c := 4) (k := 0) (v := .ref b3) dX4_next_88 fc_4 (by decide) (by decide) bw_264 (congrArg pr (krI e4)) (kkI e1) ?_
    refine g_aload_n dX4_next_91 rfl 0 rfl ?_
    refine g_get (c := 4) (k := 4) (v := .int (hI h a0 4)) dX4_next_92 fc_4 (by decide) (by decide) bw_270 (congrArg Value.int ((skI (by decide)).trans rfl)) (kkI e1) ?_
    obtain ⟨e5, e6, K⟩ := K
    refine g_cald dX4_next_95 (kkI e5) (kvI e6) ?_
    refine g_bipush (v := 59) dX4_next_96 (by decide) ?_
    refine g_icmp_ne (tgt := 119) dX4_next_98 (by decide) (fun c7 => ?_) (fun c7 => ?_)
    · replace K := K.1 c7
      refine g_aload_n dX4_next_119 rfl 0 rfl ?_
      refine g_get (c := 4) (k := 0) (v := .ref b3) dX4_next_120 fc_4 (by decide) (by decide) bw_264 (congrArg pr (krI e4)) (kkI e1) ?_
      refine g_aload_n dX4_next_123 rfl 0 rfl ?_
      refine g_get (c := 4) (k := 4) (v := .int (hI h a0 4)) dX4_next_124 fc_4 (by decide) (by decide) bw_270 (congrArg Value.int ((skI (by decide)).trans rfl)) (kkI e1) ?_
      obtain ⟨e8, K⟩ := K
      refine g_cald dX4_next_127 (kkI e5) (kvI e8) ?_
      obtain ⟨q9, C10, K⟩ := K
      refine g_callS (M' := mX4_isLetter) (As := [.int (hI (sI h a0 6 (hI h a0 4)) b3 (hI h a0 4).toNatClampNeg)]) (rest := []) (rc' := rc) (rs' := rs) dX4_next_128 bw_771 bw_772 bw_2 bw_773 ⟨by decide +kernel, by decide +kernel, show (parseMethodDescriptor mX4_isLetter.1.desc).map (fun d => d.parameters.length) = some 1 by decide +kernel⟩ (by decide) (by decide) (Nat.le_of_ble_eq_true rfl) C10 (Nat.le_of_eq (Nat.add_zero _)) (Nat.le_of_eq (Nat.add_zero _)) (fun _ _ h => h) ?_
      rintro _ h11 ⟨r12, rfl, K1⟩ -
      replace K := K r12 h11 K1
      show Gm l x mX4_next 1 131 [(0, .ref a0)] [.int r12] h11 rc rs n0 Q X
      refine g_if_eq (tgt := 178) dX4_next_131 (by decide) (fun c13 => ?_) (fun c13 => ?_)
      · replace K := K.1 c13
        refine g_aload_n dX4_next_178 rfl 0 rfl ?_
        obtain ⟨e14, b15, e16, K⟩ := K
        refine g_get (c := 4) (k := 0) (v := .ref b15) dX4_next_179 fc_4 (by decide) (by decide) bw_264 (congrArg pr e16) e14 ?_
        refine g_aload_n dX4_next_182 rfl 0 rfl ?_
        refine g_get (c := 4) (k := 4) (v := .int (hI h11 a0 4)) dX4_next_183 fc_4 (by decide) (by decide) bw_270 rfl e14 ?_
        obtain ⟨e17, e18, K⟩ := K
        refine g_cald dX4_next_186 e17 e18 ?_
        obtain ⟨q19, C20, K⟩ := K
        refine g_callS (M' := mX4_isDigit) (As := [.int (hI h11 b15 (hI h11 a0 4).toNatClampNeg)]) (rest := []) (rc' := rc) (rs' := rs) dX4_next_187 bw_774 bw_775 bw_2 bw_776 ⟨by decide +kernel, by decide +kernel, show (parseMethodDescriptor mX4_isDigit.1.desc).map (fun d => d.parameters.length) = some 1 by decide +kernel⟩ (by decide) (by decide) (Nat.le_of_ble_eq_true rfl) C20 (Nat.le_of_eq (Nat.add_zero _)) (Nat.le_of_eq (Nat.add_zero _)) (fun _ _ h => h) ?_
        rintro _ h21 ⟨r22, rfl, K1⟩ -
        replace K := K r22 h21 K1
        show Gm l x mX4_next 1 190 [(0, .ref a0)] [.int r22] h21 rc rs n0 Q X
        refine g_if_eq (tgt := 272) dX4_next_190 (by decide) (fun c23 => ?_) (fun c23 => ?_)
        · replace K := K.1 c23
          refine g_aload_n dX4_next_272 rfl 0 rfl ?_
          refine g_iconst (v := 4) dX4_next_273 (by decide) ?_
          obtain ⟨e24, K⟩ := K
          refine g_puti (c := 4) (k := 5) dX4_next_274 fc_4 (by decide) (by decide) bw_271 (Or.inl rfl) rfl e24 ?_
          exact g_vret dX4_next_277 rfl K
        · replace K := K.2 c23
          refine g_aload_n dX4_next_193 rfl 0 rfl ?_
          refine g_iconst (v := 2) dX4_next_194 (by decide) ?_
          obtain ⟨e25, K⟩ := K
          refine g_puti (c := 4) (k := 5) dX4_next_195 fc_4 (by decide) (by decide) bw_271 (Or.inl rfl) rfl e25 ?_
          refine g_aload_n dX4_next_198 rfl 0 rfl ?_
          refine g_iconst (v := 0) dX4_next_199 (by decide) ?_
          refine g_puti (c := 4) (k := 7) dX4_next_200 fc_4 (by decide) (by decide) bw_273 (Or.inl rfl) rfl (kkI e25) ?_
          exact K
      · replace K := K.2 c13
        refine g_aload_n dX4_next_134 rfl 0 rfl ?_
        refine g_iconst (v := 1) dX4_next_135 (by decide) ?_
        obtain ⟨e26, K⟩ := K
        refine g_puti (c := 4) (k := 5) dX4_next_136 fc_4 (by decide) (by decide) bw_271 (Or.inl rfl) rfl e26 ?_
        exact K
    · replace K := K.2 c7
      refine g_aload_n dX4_next_101 rfl 0 rfl ?_
      refine g_iconst (v := 3) dX4_next_102 (by decide) ?_
      refine g_puti (c := 4) (k := 5) dX4_next_103 fc_4 (by decide) (by decide) bw_271 (Or.inl rfl) rfl (kkI e1) ?_
      refine g_aload_n dX4_next_106 rfl 0 rfl ?_
      refine g_dup dX4_next_107 rfl ?_
      refine g_get (c := 4) (k := 4) (v := .int (hI h a0 4)) dX4_next_108 fc_4 (by decide) (by decide) bw_270 (congrArg Value.int ((skI (by decide)).trans ((skI (by decide)).trans rfl))) (kkI (kkI e1)) ?_
      refine g_iconst (v := 1) dX4_next_111 (by decide) ?_
      refine g_iadd dX4_next_112 ?_
      refine g_puti (c := 4) (k := 4) dX4_next_113 fc_4 (by decide) (by decide) bw_270 (Or.inl rfl) rfl (kkI (kkI e1)) ?_
      refine g_goto (tgt := 277) dX4_next_116 (by decide) ?_
      exact g_vret dX4_next_277 rfl K
  · replace K := K.2 c2
    refine g_aload_n dX4_next_79 rfl 0 rfl ?_
    refine g_iconst (v := 0) dX4_next_80 (by decide) ?_
    refine g_puti (c := 4) (k := 5) dX4_next_81 fc_4 (by decide) (by decide) bw_271 (Or.inl rfl) rfl (kkI e1) ?_
    refine g_goto (tgt := 277) dX4_next_84 (by decide) ?_
    exact g_vret dX4_next_277 rfl K
set_option maxRecDepth 20000 in
set_option maxHeartbeats 4000000 in
theorem vX4_next_139 {l : Launch} {x : CX} {a0 : Nat} {h : PH} {rc rs n0 : Nat} {Q : Option Value → PH → Prop} {X : String → PH → Prop}
    (K : ((hK h a0).1 = 4) ∧ (((hI h a0 3) ≤ (hI h a0 4) → Q none h) ∧ (¬ (hI h a0 3) ≤ (hI h a0 4) → ∃ b3, (hR h a0 0 = some b3) ∧ ((hK h b3).1 = 101) ∧ (vp_in (hI h a0 4) (hK h b3).2) ∧ ∃ (q7 : Int32 → PH → Prop), CI l x mX4_isLetter 0 0 0 [.int (hI h b3 (hI h a0 4).toNatClampNeg)] h q7 ∧ ∀ (r10 : Int32) (h9 : PH), q7 r10 h9 → ((r10 = 0 → Q none h9) ∧ (¬ r10 = 0 → ((hK h9 a0).1 = 4) ∧ Gm l x mX4_next 1 139 [(0, .ref a0)] [] (sI h9 a0 4 ((hI h9 a0 4) + 1)) rc rs n0 Q X))))) :
    Gm l x mX4_next 1 139 [(0, .ref a0)] [] h rc rs n0 Q X := by
  refine g_aload_n dX4_next_139 rfl 0 rfl ?_
  obtain ⟨e1, K⟩ := K
  refine g_get (c := 4) (k := 4) (v := .int (hI h a0 4)) dX4_next_140 fc_4 (by decide) (by decide) bw_270 rfl e1 ?_
  refine g_aload_n dX4_next_143 rfl 0 rfl ?_
  refine g_get (c := 4) (k := 3) (v := .int (hI h a0 3)) dX4_next_144 fc_4 (by decide) (by decide) bw_269 rfl e1 ?_
  refine g_icmp_ge (tgt := 277) dX4_next_147 (by decide) (fun c2 => ?_) (fun c2 => ?_)
  · replace K := K.1 c2
    exact g_vret dX4_next_277 rfl K
  · replace K := K.2 c2
    refine g_aload_n dX4_next_150 rfl 0 rfl ?_
    obtain ⟨b3, e4, K⟩ := K
    refine g_get (c := 4) (k := 0) (v := .ref b3) dX4_next_151 fc_4 (by decide) (by decide) bw_264 (congrArg pr e4) e1 ?_
    refine g_aload_n dX4_next_154 rfl 0 rfl ?_
    refine g_get (c := 4) (k := 4) (v := .int (hI h a0 4)) dX4_next_155 fc_4 (by decide) (by decide) bw_270 rfl e1 ?_
    obtain ⟨e5, e6, K⟩ := K
    refine g_cald dX4_next_158 e5 e6 ?_
    obtain ⟨q7, C8, K⟩ := K
    refine g_callS (M' := mX4_isLetter) (As := [.int (hI h b3 (hI h a0 4).toNatClampNeg)]) (rest := []) (rc' := rc) (rs' := rs) dX4_next_159 bw_771 bw_772 bw_2 bw_773 ⟨by decide +kernel, by decide +kernel, show (parseMethodDescriptor mX4_isLetter.1.desc).map (fun d => d.parameters.length) = some 1 by decide +kernel⟩ (by decide) (by decide) (Nat.le_of_ble_eq_true rfl) C8 (Nat.le_of_eq (Nat.add_zero _)) (Nat.le_of_eq (Nat.add_zero _)) (fun _ _ h => h) ?_
    rintro _ h9 ⟨r10, rfl, K1⟩ -
    replace K := K r10 h9 K1
    show Gm l x mX4_next 1 162 [(0, .ref a0)] [.int r10] h9 rc rs n0 Q X
    refine g_if_eq (tgt := 277) dX4_next_162 (by decide) (fun c11 => ?_) (fun c11 => ?_)
    · replace K := K.1 c11
      exact g_vret dX4_next_277 rfl K
    · replace K := K.2 c11
      refine g_aload_n dX4_next_165 rfl 0 rfl ?_
      refine g_dup dX4_next_166 rfl ?_
      obtain ⟨e12, K⟩ := K
      refine g_get (c := 4) (k := 4) (v := .int (hI h9 a0 4)) dX4_next_167 fc_4 (by decide) (by decide) bw_270 rfl e12 ?_
      refine g_iconst (v := 1) dX4_next_170 (by decide) ?_
      refine g_iadd dX4_next_171 ?_
      refine g_puti (c := 4) (k := 4) dX4_next_172 fc_4 (by decide) (by decide) bw_270 (Or.inl rfl) rfl e12 ?_
      refine g_goto (tgt := 139) dX4_next_175 (by decide) ?_
      exact K
set_option maxRecDepth 20000 in
set_option maxHeartbeats 4000000 in
theorem vX4_next_203 {l : Launch} {x : CX} {a0 : Nat} {h : PH} {rc rs n0 : Nat} {Q : Option Value → PH → Prop} {X : String → PH → Prop}
    (K : ((hK h a0).1 = 4) ∧ (((hI h a0 3) ≤ (hI h a0 4) → Q none h) ∧ (¬ (hI h a0 3) ≤ (hI h a0 4) → ∃ b3, (hR h a0 0 = some b3) ∧ ((hK h b3).1 = 101) ∧ (vp_in (hI h a0 4) (hK h b3).2) ∧ ∃ (q7 : Int32 → PH → Prop), CI l x mX4_isDigit 0 0 0 [.int (hI h b3 (hI h a0 4).toNatClampNeg)] h q7 ∧ ∀ (r10 : Int32) (h9 : PH), q7 r10 h9 → ((r10 = 0 → Q none h9) ∧ (¬ r10 = 0 → ((hK h9 a0).1 = 4) ∧ ∃ b13, (hR h9 a0 0 = some b13) ∧ ((hK h9 b13).1 = 101) ∧ (vp_in (hI h9 a0 4) (hK h9 b13).2) ∧ Gm l x mX4_next 1 203 [(0, .ref a0)] [] (sI (sI h9 a0 7 (if 999 < ((((hI h9 a0 7) * 10) + (hI h9 b13 (hI h9 a0 4).toNatClampNeg)) - 48) then 999 else ((((hI h9 a0 7) * 10) + (hI h9 b13 (hI h9 a0 4).toNatClampNeg)) - 48))) a0 4 ((hI h9 a0 4) + 1)) rc rs n0 Q X))))) :
    Gm l x mX4_next 1 203 [(0, .ref a0)] [] h rc rs n0 Q X := by
  refine g_aload_n dX4_next_203 rfl 0 rfl ?_
  obtain ⟨e1, K⟩ := K
  refine g_get (c := 4) (k := 4) (v := .int (hI h a0 4)) dX4_next_204 fc_4 (by decide) (by decide) bw_270 rfl e1 ?_
  refine g_aload_n dX4_next_207 rfl 0 rfl ?_
  refine g_get (c := 4) (k := 3) (v := .int (hI h a0 3)) dX4_next_208 fc_4 (by decide) (by decide) bw_269 rfl e1 ?_
  refine g_icmp_ge (tgt := 277) dX4_next_211 (by decide) (fun c2 => ?_) (fun c2 => ?_)
  · replace K := K.1 c2
    exact g_vret dX4_next_277 rfl K
  · replace K := K.2 c2
    refine g_aload_n dX4_next_214 rfl 0 rfl ?_
    obtain ⟨b3, e4, K⟩ := K
    refine g_get (c := 4) (k := 0) (v := .ref b3) dX4_next_215 fc_4 (by decide) (by decide) bw_264 (congrArg pr e4) e1 ?_
    refine g_aload_n dX4_next_218 rfl 0 rfl ?_
    refine g_get (c := 4) (k := 4) (v := .int (hI h a0 4)) dX4_next_219 fc_4 (by decide) (by decide) bw_270 rfl e1 ?_
    obtain ⟨e5, e6, K⟩ := K
    refine g_cald dX4_next_222 e5 e6 ?_
    obtain ⟨q7, C8, K⟩ := K
    refine g_callS (M' := mX4_isDigit) (As := [.int (hI h b3 (hI h a0 4).toNatClampNeg)]) (rest := []) (rc' := rc) (rs' := rs) dX4_next_223 bw_774 bw_775 bw_2 bw_776 ⟨by decide +kernel, by decide +kernel, show (parseMethodDescriptor mX4_isDigit.1.desc).map (fun d => d.parameters.length) = some 1 by decide +kernel⟩ (by decide) (by decide) (Nat.le_of_ble_eq_true rfl) C8 (Nat.le_of_eq (Nat.add_zero _)) (Nat.le_of_eq (Nat.add_zero _)) (fun _ _ h => h) ?_
    rintro _ h9 ⟨r10, rfl, K1⟩ -
    replace K := K r10 h9 K1
    show Gm l x mX4_next 1 226 [(0, .ref a0)] [.int r10] h9 rc rs n0 Q X
    refine g_if_eq (tgt := 277) dX4_next_226 (by decide) (fun c11 => ?_) (fun c11 => ?_)
    · replace K := K.1 c11
      exact g_vret dX4_next_277 rfl K
    · replace K := K.2 c11
      refine g_aload_n dX4_next_229 rfl 0 rfl ?_
      refine g_aload_n dX4_next_230 rfl 0 rfl ?_
      obtain ⟨e12, K⟩ := K
      refine g_get (c := 4) (k := 7) (v := .int (hI h9 a0 7)) dX4_next_231 fc_4 (by decide) (by decide) bw_273 rfl e12 ?_
      refine g_bipush (v := 10) dX4_next_234 (by decide) ?_
      refine g_imul dX4_next_236 ?_
      refine g_aload_n dX4_next_237 rfl 0 rfl ?_
      obtain ⟨b13, e14, K⟩ := K
      refine g_get (c := 4) (k := 0) (v := .ref b13) dX4_next_238 fc_4 (by decide) (by decide) bw_264 (congrArg pr e14) e12 ?_
      refine g_aload_n dX4_next_241 rfl 0 rfl ?_
      refine g_get (c := 4) (k := 4) (v := .int (hI h9 a0 4)) dX4_next_242 fc_4 (by decide) (by decide) bw_270 rfl e12 ?_
      obtain ⟨e15, e16, K⟩ := K
      refine g_cald dX4_next_245 e15 e16 ?_
      refine g_iadd dX4_next_246 ?_
      refine g_bipush (v := 48) dX4_next_247 (by decide) ?_
      refine g_isub dX4_next_249 ?_
      refine g_sipush (v := 999) dX4_next_250 (by decide) ?_
      refine g_min dX4_next_253 bw_764 bw_765 bw_14 bw_766 (by decide) (Nat.le_of_ble_eq_true rfl) ?_
      refine g_puti (c := 4) (k := 7) dX4_next_256 fc_4 (by decide) (by decide) bw_273 (Or.inl rfl) rfl e12 ?_
      refine g_aload_n dX4_next_259 rfl 0 rfl ?_
      refine g_dup dX4_next_260 rfl ?_
      refine g_get (c := 4) (k := 4) (v := .int (hI h9 a0 4)) dX4_next_261 fc_4 (by decide) (by decide) bw_270 (congrArg Value.int ((skI (by decide)).trans rfl)) (kkI e12) ?_
      refine g_iconst (v := 1) dX4_next_264 (by decide) ?_
      refine g_iadd dX4_next_265 ?_
      refine g_puti (c := 4) (k := 4) dX4_next_266 fc_4 (by decide) (by decide) bw_270 (Or.inl rfl) rfl (kkI e12) ?_
      refine g_goto (tgt := 203) dX4_next_269 (by decide) ?_
      exact K
theorem dX4_readNumber_0 : decode cX4_readNumber 0 = .ok (.aload_n 0, 1) := by decide +kernel
theorem dX4_readNumber_1 : decode cX4_readNumber 1 = .ok (.invokevirtual 62, 3) := by decide +kernel
theorem dX4_readNumber_4 : decode cX4_readNumber 4 = .ok (.aload_n 0, 1) := by decide +kernel
theorem dX4_readNumber_5 : decode cX4_readNumber 5 = .ok (.getfield 47, 3) := by decide +kernel
theorem dX4_readNumber_8 : decode cX4_readNumber 8 = .ok (.ifCond .ne 16, 3) := by decide +kernel
theorem dX4_readNumber_11 : decode cX4_readNumber 11 = .ok (.aload_n 0, 1) := by decide +kernel
theorem dX4_readNumber_12 : decode cX4_readNumber 12 = .ok (.getfield 32, 3) := by decide +kernel
theorem dX4_readNumber_15 : decode cX4_readNumber 15 = .ok (.iconst 2, 1) := by decide +kernel
theorem dX4_readNumber_16 : decode cX4_readNumber 16 = .ok (.if_icmp .eq 8, 3) := by decide +kernel
theorem dX4_readNumber_19 : decode cX4_readNumber 19 = .ok (.aload_n 0, 1) := by decide +kernel
theorem dX4_readNumber_20 : decode cX4_readNumber 20 = .ok (.iconst 1, 1) := by decide +kernel
theorem dX4_readNumber_21 : decode cX4_readNumber 21 = .ok (.invokevirtual 68, 3) := by decide +kernel
theorem dX4_readNumber_24 : decode cX4_readNumber 24 = .ok (.aload_n 0, 1) := by decide +kernel
theorem dX4_readNumber_25 : decode cX4_readNumber 25 = .ok (.getfield 47, 3) := by decide +kernel
theorem dX4_readNumber_28 : decode cX4_readNumber 28 = .ok (.ifCond .ne 37, 3) := by decide +kernel
theorem dX4_readNumber_31 : decode cX4_readNumber 31 = .ok (.aload_n 0, 1) := by decide +kernel
theorem dX4_readNumber_32 : decode cX4_readNumber 32 = .ok (.getfield 29, 3) := by decide +kernel
theorem dX4_readNumber_35 : decode cX4_readNumber 35 = .ok (.aload_n 0, 1) := by decide +kernel
theorem dX4_readNumber_36 : decode cX4_readNumber 36 = .ok (.getfield 35, 3) := by decide +kernel
theorem dX4_readNumber_39 : decode cX4_readNumber 39 = .ok (.isub, 1) := by decide +kernel
theorem dX4_readNumber_40 : decode cX4_readNumber 40 = .ok (.iconst 2, 1) := by decide +kernel
theorem dX4_readNumber_41 : decode cX4_readNumber 41 = .ok (.if_icmp .gt 19, 3) := by decide +kernel
theorem dX4_readNumber_44 : decode cX4_readNumber 44 = .ok (.aload_n 0, 1) := by decide +kernel
theorem dX4_readNumber_45 : decode cX4_readNumber 45 = .ok (.getfield 38, 3) := by decide +kernel
theorem dX4_readNumber_48 : decode cX4_readNumber 48 = .ok (.iload_n 1, 1) := by decide +kernel
theorem dX4_readNumber_49 : decode cX4_readNumber 49 = .ok (.if_icmp .lt 11, 3) := by decide +kernel
theorem dX4_readNumber_52 : decode cX4_readNumber 52 = .ok (.aload_n 0, 1) := by decide +kernel
theorem dX4_readNumber_53 : decode cX4_readNumber 53 = .ok (.getfield 38, 3) := by decide +kernel
theorem dX4_readNumber_56 : decode cX4_readNumber 56 = .ok (.iload_n 2, 1) := by decide +kernel
theorem dX4_readNumber_57 : decode cX4_readNumber 57 = .ok (.if_icmp .le 8, 3) := by decide +kernel
theorem dX4_readNumber_60 : decode cX4_readNumber 60 = .ok (.aload_n 0, 1) := by decide +kernel
theorem dX4_readNumber_61 : decode cX4_readNumber 61 = .ok (.iconst 2, 1) := by decide +kernel
theorem dX4_readNumber_62 : decode cX4_readNumber 62 = .ok (.invokevirtual 68, 3) := by decide +kernel
theorem dX4_readNumber_65 : decode cX4_readNumber 65 = .ok (.aload_n 0, 1) := by decide +kernel
theorem dX4_readNumber_66 : decode cX4_readNumber 66 = .ok (.getfield 47, 3) := by decide +kernel
theorem dX4_readNumber_69 : decode cX4_readNumber 69 = .ok (.ifCond .ne 10, 3) := by decide +kernel
theorem dX4_readNumber_72 : decode cX4_readNumber 72 = .ok (.aload_n 0, 1) := by decide +kernel
theorem dX4_readNumber_73 : decode cX4_readNumber 73 = .ok (.getfield 38, 3) := by decide +kernel
theorem dX4_readNumber_76 : decode cX4_readNumber 76 = .ok (.goto 4, 3) := by decide +kernel
theorem dX4_readNumber_79 : decode cX4_readNumber 79 = .ok (.iload_n 1, 1) := by decide +kernel
theorem dX4_readNumber_80 : decode cX4_readNumber 80 = .ok (.ireturn, 1) := by decide +kernel
set_option maxRecDepth 20000 in
set_option maxHeartbeats 4000000 in
theorem vX4_readNumber_0 {l : Launch} {x : CX} {a0 : Nat} {x1 : Int32} {x2 : Int32} {h : PH} {rc rs n0 : Nat} {Q : Option Value → PH → Prop} {X : String → PH → Prop}
    (K : ((hK h a0).1 = 4) ∧ ∃ (q1 : PH → Prop), CV l x mX4_next 1 0 0 [.ref a0] h q1 ∧ ∀ (h4 : PH), q1 h4 → ((hK h4 a0).1 = 4) ∧ ((¬ (hI h4 a0 10) = 0 → ((¬ (hI h4 a0 10) = 0 → Q (some (.int (if (hI h4 a0 10) = 0 then (hI h4 a0 7) else x1 : Int32))) h4) ∧ ((hI h4 a0 10) = 0 → ((2 < ((hI h4 a0 4) - (hI h4 a0 6)) → ∃ (q10 : PH → Prop), CV l x mX4_fail 0 0 0 [.ref a0, .int 2] h4 q10 ∧ ∀ (h12 : PH), q10 h12 → ((hK h12 a0).1 = 4) ∧ Q (some (.int (if (hI h12 a0 10) = 0 then (hI h12 a0 7) else x1 : Int32))) h12) ∧ (¬ 2 < ((hI h4 a0 4) - (hI h4 a0 6)) → (((hI h4 a0 7) < x1 → ∃ (q16 : PH → Prop), CV l x mX4_fail 0 0 0 [.ref a0, .int 2] h4 q16 ∧ ∀ (h18 : PH), q16 h18 → ((hK h18 a0).1 = 4) ∧ Q (some (.int (if (hI h18 a0 10) = 0 then (hI h18 a0 7) else x1 : Int32))) h18) ∧ (¬ (hI h4 a0 7) < x1 → (((hI h4 a0 7) ≤ x2 → Q (some (.int (if (hI h4 a0 10) = 0 then (hI h4 a0 7) else x1 : Int32))) h4) ∧ (¬ (hI h4 a0 7) ≤ x2 → ∃ (q23 : PH → Prop), CV l x mX4_fail 0 0 0 [.ref a0, .int 2] h4 q23 ∧ ∀ (h25 : PH), q23 h25 → ((hK h25 a0).1 = 4) ∧ Q (some (.int (if (hI h25 a0 10) = 0 then (hI h25 a0 7) else x1 : Int32))) h25))))))))) ∧ ((hI h4 a0 10) = 0 → (((hI h4 a0 5) = 2 → ((¬ (hI h4 a0 10) = 0 → Q (some (.int (if (hI h4 a0 10) = 0 then (hI h4 a0 7) else x1 : Int32))) h4) ∧ ((hI h4 a0 10) = 0 → ((2 < ((hI h4 a0 4) - (hI h4 a0 6)) → ∃ (q32 : PH → Prop), CV l x mX4_fail 0 0 0 [.ref a0, .int 2] h4 q32 ∧ ∀ (h34 : PH), q32 h34 → ((hK h34 a0).1 = 4) ∧ Q (some (.int (if (hI h34 a0 10) = 0 then (hI h34 a0 7) else x1 : Int32))) h34) ∧ (¬ 2 < ((hI h4 a0 4) - (hI h4 a0 6)) → (((hI h4 a0 7) < x1 → ∃ (q38 : PH → Prop), CV l x mX4_fail 0 0 0 [.ref a0, .int 2] h4 q38 ∧ ∀ (h40 : PH), q38 h40 → ((hK h40 a0).1 = 4) ∧ Q (some (.int (if (hI h40 a0 10) = 0 then (hI h40 a0 7) else x1 : Int32))) h40) ∧ (¬ (hI h4 a0 7) < x1 → (((hI h4 a0 7) ≤ x2 → Q (some (.int (if (hI h4 a0 10) = 0 then (hI h4 a0 7) else x1 : Int32))) h4) ∧ (¬ (hI h4 a0 7) ≤ x2 → ∃ (q45 : PH → Prop), CV l x mX4_fail 0 0 0 [.ref a0, .int 2] h4 q45 ∧ ∀ (h47 : PH), q45 h47 → ((hK h47 a0).1 = 4) ∧ Q (some (.int (if (hI h47 a0 10) = 0 then (hI h47 a0 7) else x1 : Int32))) h47))))))))) ∧ (¬ (hI h4 a0 5) = 2 → ∃ (q50 : PH → Prop), CV l x mX4_fail 0 0 0 [.ref a0, .int 1] h4 q50 ∧ ∀ (h52 : PH), q50 h52 → ((hK h52 a0).1 = 4) ∧ ((¬ (hI h52 a0 10) = 0 → Q (some (.int (if (hI h52 a0 10) = 0 then (hI h52 a0 7) else x1 : Int32))) h52) ∧ ((hI h52 a0 10) = 0 → ((2 < ((hI h52 a0 4) - (hI h52 a0 6)) → ∃ (q57 : PH → Prop), CV l x mX4_fail 0 0 0 [.ref a0, .int 2] h52 q57 ∧ ∀ (h59 : PH), q57 h59 → ((hK h59 a0).1 = 4) ∧ Q (some (.int (if (hI h59 a0 10) = 0 then (hI h59 a0 7) else x1 : Int32))) h59) ∧ (¬ 2 < ((hI h52 a0 4) - (hI h52 a0 6)) → (((hI h52 a0 7) < x1 → ∃ (q63 : PH → Prop), CV l x mX4_fail 0 0 0 [.ref a0, .int 2] h52 q63 ∧ ∀ (h65 : PH), q63 h65 → ((hK h65 a0).1 = 4) ∧ Q (some (.int (if (hI h65 a0 10) = 0 then (hI h65 a0 7) else x1 : Int32))) h65) ∧ (¬ (hI h52 a0 7) < x1 → (((hI h52 a0 7) ≤ x2 → Q (some (.int (if (hI h52 a0 10) = 0 then (hI h52 a0 7) else x1 : Int32))) h52) ∧ (¬ (hI h52 a0 7) ≤ x2 → ∃ (q70 : PH → Prop), CV l x mX4_fail 0 0 0 [.ref a0, .int 2] h52 q70 ∧ ∀ (h72 : PH), q70 h72 → ((hK h72 a0).1 = 4) ∧ Q (some (.int (if (hI h72 a0 10) = 0 then (hI h72 a0 7) else x1 : Int32))) h72))))))))))))) :
    Gm l x mX4_readNumber 2 0 [(0, .ref a0), (1, .int x1), (2, .int x2)] [] h rc rs n0 Q X := by
  refine g_aload_n dX4_readNumber_0 rfl 0 rfl ?_
  obtain ⟨e3, K⟩ := K
  obtain ⟨q1, C2, K⟩ := K
  refine g_callV (M' := mX4_next) (b := a0) (As := []) (rest := []) (rc' := rc) (rs' := rs) dX4_readNumber_1 bw_767 bw_769 bs_21 bw_2 bw_770 ⟨by decide +kernel, by decide +kernel, show (parseMethodDescriptor mX4_next.1.desc).map (fun d => d.parameters.length) = some 0 by decide +kernel⟩ (by decide) (by decide) (Nat.le_of_ble_eq_true rfl) fc_4 (by decide) rfl e3 C2 (Nat.le_of_eq (Nat.add_zero _)) (Nat.le_of_eq (Nat.add_zero _)) (fun _ _ h => h) ?_
  rintro _ h4 ⟨rfl, K1⟩ -
  replace K := K h4 K1
  show Gm l x mX4_readNumber 2 4 [(0, .ref a0), (1, .int x1), (2, .int x2)] [] h4 rc rs n0 Q X
  refine g_aload_n dX4_readNumber_4 rfl 0 rfl ?_
  obtain ⟨e5, K⟩ := K
  refine g_get (c := 4) (k := 10) (v := .int (hI h4 a0 10)) dX4_readNumber_5 fc_4 (by decide) (by decide) bw_276 rfl e5 ?_
  refine g_if_ne (tgt := 24) dX4_readNumber_8 (by decide) (fun c6 => ?_) (fun c6 => ?_)
  · replace K := K.1 c6
    refine g_aload_n dX4_readNumber_24 rfl 0 rfl ?_
    refine g_get (c := 4) (k := 10) (v := .int (hI h4 a0 10)) dX4_readNumber_25 fc_4 (by decide) (by decide) bw_276 rfl e5 ?_
    refine g_if_ne (tgt := 65) dX4_readNumber_28 (by decide) (fun c7 => ?_) (fun c7 => ?_)
    · replace K := K.1 c7
      refine g_aload_n dX4_readNumber_65 rfl 0 rfl ?_
      refine g_get (c := 4) (k := 10) (v := .int (hI h4 a0 10)) dX4_readNumber_66 fc_4 (by decide) (by decide) bw_276 rfl e5 ?_
      have KJ : Gm l x mX4_readNumber 2 80 [(0, .ref a0), (1, .int x1), (2, .int x2)] [.int (if (hI h4 a0 10) = 0 then (hI h4 a0 7) else x1 : Int32)] h4 rc rs n0 Q X := by
        exact g_iret dX4_readNumber_80 rfl K
      refine g_if_ne (tgt := 79) dX4_readNumber_69 (by decide) (fun c8 => ?_) (fun c8 => ?_)
      · refine g_iload_n dX4_readNumber_79 rfl 1 rfl ?_
        first | (simp only [if_neg c8] at KJ; exact KJ) | (simp only [if_neg c8, ite_true, ite_false, eq_self] at KJ; exact KJ) | (simp only [if_neg c8] at KJ ⊢; exact KJ) | exact KJ
      · refine g_aload_n dX4_readNumber_72 rfl 0 rfl ?_
        refine g_get (c := 4) (k := 7) (v := .int (hI h4 a0 7)) dX4_readNumber_73 fc_4 (by decide) (by decide) bw_273 rfl e5 ?_
        refine g_goto (tgt := 80) dX4_readNumber_76 (by decide) ?_
        first | (simp only [if_pos c8] at KJ; exact KJ) | (simp only [if_pos c8, ite_true, ite_false, eq_self] at KJ; exact KJ) | (simp only [if_pos c8] at KJ ⊢; exact KJ) | exact KJ
    · replace K := K.2 c7
      refine g_aload_n dX4_readNumber_31 rfl 0 rfl ?_
      refine g_get (c := 4) (k := 4) (v := .int (hI h4 a0 4)) dX4_readNumber_32 fc_4 (by decide) (by decide) bw_270 rfl e5 ?_
      refine g_aload_n dX4_readNumber_35 rfl 0 rfl ?_
      refine g_get (c := 4) (k := 6) (v := .int (hI h4 a0 6)) dX4_readNumber_36 fc_4 (by decide) (by decide) bw_272 rfl e5 ?_
      refine g_isub dX4_readNumber_39 ?_
      refine g_iconst (v := 2) dX4_readNumber_40 (by decide) ?_
      refine g_icmp_gt (tgt := 60) dX4_readNumber_41 (by decide) (fun c9 => ?_) (fun c9 => ?_)
      · replace K := K.1 c9
        refine g_aload_n dX4_readNumber_60 rfl 0 rfl ?_
        refine g_iconst (v := 2) dX4_readNumber_61 (by decide) ?_
        obtain ⟨q10, C11, K⟩ := K
        refine g_callV (M' := mX4_fail) (b := a0) (As := [.int 2]) (rest := []) (rc' := rc) (rs' := rs) dX4_readNumber_62 bw_838 bw_840 bs_25 bw_2 bw_841 ⟨by decide +kernel, by decide +kernel, show (parseMethodDescriptor mX4_fail.1.desc).map (fun d => d.parameters.length) = some 1 by decide +kernel⟩ (by decide) (by decide) (Nat.le_of_ble_eq_true rfl) fc_4 (by decide) rfl e5 C11 (Nat.le_of_eq (Nat.add_zero _)) (Nat.le_of_eq (Nat.add_zero _)) (fun _ _ h => h) ?_
        rintro _ h12 ⟨rfl, K1⟩ -
        replace K := K h12 K1
        show Gm l x mX4_readNumber 2 65 [(0, .ref a0), (1, .int x1), (2, .int x2)] [] h12 rc rs n0 Q X
        refine g_aload_n dX4_readNumber_65 rfl 0 rfl ?_
        obtain ⟨e13, K⟩ := K
        refine g_get (c := 4) (k := 10) (v := .int (hI h12 a0 10)) dX4_readNumber_66 fc_4 (by decide) (by decide) bw_276 rfl e13 ?_
        have KJ : Gm l x mX4_readNumber 2 80 [(0, .ref a0), (1, .int x1), (2, .int x2)] [.int (if (hI h12 a0 10) = 0 then (hI h12 a0 7) else x1 : Int32)] h12 rc rs n0 Q X := by
          exact g_iret dX4_readNumber_80 rfl K
        refine g_if_ne (tgt := 79) dX4_readNumber_69 (by decide) (fun c14 => ?_) (fun c14 => ?_)
        · refine g_iload_n dX4_readNumber_79 rfl 1 rfl ?_
          first | (simp only [if_neg c14] at KJ; exact KJ) | (simp only [if_neg c14, ite_true, ite_false, eq_self] at KJ; exact KJ) | (simp only [if_neg c14] at KJ ⊢; exact KJ) | exact KJ
        · refine g_aload_n dX4_readNumber_72 rfl 0 rfl ?_
          refine g_get (c := 4) (k := 7) (v := .int (hI h12 a0 7)) dX4_readNumber_73 fc_4 (by decide) (by decide) bw_273 rfl e13 ?_
          refine g_goto (tgt := 80) dX4_readNumber_76 (by decide) ?_
          first | (simp only [if_pos c14] at KJ; exact KJ) | (simp only [if_pos c14, ite_true, ite_false, eq_self] at KJ; exact KJ) | (simp only [if_pos c14] at KJ ⊢; exact KJ) | exact KJ
      · replace K := K.2 c9
        refine g_aload_n dX4_readNumber_44 rfl 0 rfl ?_
        refine g_get (c := 4) (k := 7) (v := .int (hI h4 a0 7)) dX4_readNumber_45 fc_4 (by decide) (by decide) bw_273 rfl e5 ?_
        refine g_iload_n dX4_readNumber_48 rfl 1 rfl ?_
        refine g_icmp_lt (tgt := 60) dX4_readNumber_49 (by decide) (fun c15 => ?_) (fun c15 => ?_)
        · replace K := K.1 c15
          refine g_aload_n dX4_readNumber_60 rfl 0 rfl ?_
          refine g_iconst (v := 2) dX4_readNumber_61 (by decide) ?_
          obtain ⟨q16, C17, K⟩ := K
          refine g_callV (M' := mX4_fail) (b := a0) (As := [.int 2]) (rest := []) (rc' := rc) (rs' := rs) dX4_readNumber_62 bw_838 bw_840 bs_25 bw_2 bw_841 ⟨by decide +kernel, by decide +kernel, show (parseMethodDescriptor mX4_fail.1.desc).map (fun d => d.parameters.length) = some 1 by decide +kernel⟩ (by decide) (by decide) (Nat.le_of_ble_eq_true rfl) fc_4 (by decide) rfl e5 C17 (Nat.le_of_eq (Nat.add_zero _)) (Nat.le_of_eq (Nat.add_zero _)) (fun _ _ h => h) ?_
          rintro _ h18 ⟨rfl, K1⟩ -
          replace K := K h18 K1
          show Gm l x mX4_readNumber 2 65 [(0, .ref a0), (1, .int x1), (2, .int x2)] [] h18 rc rs n0 Q X
          refine g_aload_n dX4_readNumber_65 rfl 0 rfl ?_
          obtain ⟨e19, K⟩ := K
          refine g_get (c := 4) (k := 10) (v := .int (hI h18 a0 10)) dX4_readNumber_66 fc_4 (by decide) (by decide) bw_276 rfl e19 ?_
          have KJ : Gm l x mX4_readNumber 2 80 [(0, .ref a0), (1, .int x1), (2, .int x2)] [.int (if (hI h18 a0 10) = 0 then (hI h18 a0 7) else x1 : Int32)] h18 rc rs n0 Q X := by
            exact g_iret dX4_readNumber_80 rfl K
          refine g_if_ne (tgt := 79) dX4_readNumber_69 (by decide) (fun c20 => ?_) (fun c20 => ?_)
          · refine g_iload_n dX4_readNumber_79 rfl 1 rfl ?_
            first | (simp only [if_neg c20] at KJ; exact KJ) | (simp only [if_neg c20, ite_true, ite_false, eq_self] at KJ; exact KJ) | (simp only [if_neg c20] at KJ ⊢; exact KJ) | exact KJ
          · refine g_aload_n dX4_readNumber_72 rfl 0 rfl ?_
            refine g_get (c := 4) (k := 7) (v := .int (hI h18 a0 7)) dX4_readNumber_73 fc_4 (by decide) (by decide) bw_273 rfl e19 ?_
            refine g_goto (tgt := 80) dX4_readNumber_76 (by decide) ?_
            first | (simp only [if_pos c20] at KJ; exact KJ) | (simp only [if_pos c20, ite_true, ite_false, eq_self] at KJ; exact KJ) | (simp only [if_pos c20] at KJ ⊢; exact KJ) | exact KJ
        · replace K := K.2 c15
          refine g_aload_n dX4_readNumber_52 rfl 0 rfl ?_
          refine g_get (c := 4) (k := 7) (v := .int (hI h4 a0 7)) dX4_readNumber_53 fc_4 (by decide) (by decide) bw_273 rfl e5 ?_
          refine g_iload_n dX4_readNumber_56 rfl 2 rfl ?_
          refine g_icmp_le (tgt := 65) dX4_readNumber_57 (by decide) (fun c21 => ?_) (fun c21 => ?_)
          · replace K := K.1 c21
            refine g_aload_n dX4_readNumber_65 rfl 0 rfl ?_
            refine g_get (c := 4) (k := 10) (v := .int (hI h4 a0 10)) dX4_readNumber_66 fc_4 (by decide) (by decide) bw_276 rfl e5 ?_
            have KJ : Gm l x mX4_readNumber 2 80 [(0, .ref a0), (1, .int x1), (2, .int x2)] [.int (if (hI h4 a0 10) = 0 then (hI h4 a0 7) else x1 : Int32)] h4 rc rs n0 Q X := by
              exact g_iret dX4_readNumber_80 rfl K
            refine g_if_ne (tgt := 79) dX4_readNumber_69 (by decide) (fun c22 => ?_) (fun c22 => ?_)
            · refine g_iload_n dX4_readNumber_79 rfl 1 rfl ?_
              first | (simp only [if_neg c22] at KJ; exact KJ) | (simp only [if_neg c22, ite_true, ite_false, eq_self] at KJ; exact KJ) | (simp only [if_neg c22] at KJ ⊢; exact KJ) | exact KJ
            · refine g_aload_n dX4_readNumber_72 rfl 0 rfl ?_
              refine g_get (c := 4) (k := 7) (v := .int (hI h4 a0 7)) dX4_readNumber_73 fc_4 (by decide) (by decide) bw_273 rfl e5 ?_
              refine g_goto (tgt := 80) dX4_readNumber_76 (by decide) ?_
              first | (simp only [if_pos c22] at KJ; exact KJ) | (simp only [if_pos c22, ite_true, ite_false, eq_self] at KJ; exact KJ) | (simp only [if_pos c22] at KJ ⊢; exact KJ) | exact KJ
          · replace K := K.2 c21
            refine g_aload_n dX4_readNumber_60 rfl 0 rfl ?_
            refine g_iconst (v := 2) dX4_readNumber_61 (by decide) ?_
            obtain ⟨q23, C24, K⟩ := K
            refine g_callV (M' := mX4_fail) (b := a0) (As := [.int 2]) (rest := []) (rc' := rc) (rs' := rs) dX4_readNumber_62 bw_838 bw_840 bs_25 bw_2 bw_841 ⟨by decide +kernel, by decide +kernel, show (parseMethodDescriptor mX4_fail.1.desc).map (fun d => d.parameters.length) = some 1 by decide +kernel⟩ (by decide) (by decide) (Nat.le_of_ble_eq_true rfl) fc_4 (by decide) rfl e5 C24 (Nat.le_of_eq (Nat.add_zero _)) (Nat.le_of_eq (Nat.add_zero _)) (fun _ _ h => h) ?_
            rintro _ h25 ⟨rfl, K1⟩ -
            replace K := K h25 K1
            show Gm l x mX4_readNumber 2 65 [(0, .ref a0), (1, .int x1), (2, .int x2)] [] h25 rc rs n0 Q X
            refine g_aload_n dX4_readNumber_65 rfl 0 rfl ?_
            obtain ⟨e26, K⟩ := K
            refine g_get (c := 4) (k := 10) (v := .int (hI h25 a0 10)) dX4_readNumber_66 fc_4 (by decide) (by decide) bw_276 rfl e26 ?_
            have KJ : Gm l x mX4_readNumber 2 80 [(0, .ref a0), (1, .int x1), (2, .int x2)] [.int (if (hI h25 a0 10) = 0 then (hI h25 a0 7) else x1 : Int32)] h25 rc rs n0 Q X := by
              exact g_iret dX4_readNumber_80 rfl K
            refine g_if_ne (tgt := 79) dX4_readNumber_69 (by decide) (fun c27 => ?_) (fun c27 => ?_)
            · refine g_iload_n dX4_readNumber_79 rfl 1 rfl ?_
              first | (simp only [if_neg c27] at KJ; exact KJ) | (simp only [if_neg c27, ite_true, ite_false, eq_self] at KJ; exact KJ) | (simp only [if_neg c27] at KJ ⊢; exact KJ) | exact KJ
            · refine g_aload_n dX4_readNumber_72 rfl 0 rfl ?_
              refine g_get (c := 4) (k := 7) (v := .int (hI h25 a0 7)) dX4_readNumber_73 fc_4 (by decide) (by decide) bw_273 rfl e26 ?_
              refine g_goto (tgt := 80) dX4_readNumber_76 (by decide) ?_
              first | (simp only [if_pos c27] at KJ; exact KJ) | (simp only [if_pos c27, ite_true, ite_false, eq_self] at KJ; exact KJ) | (simp only [if_pos c27] at KJ ⊢; exact KJ) | exact KJ
  · replace K := K.2 c6
    refine g_aload_n dX4_readNumber_11 rfl 0 rfl ?_
    refine g_get (c := 4) (k := 5) (v := .int (hI h4 a0 5)) dX4_readNumber_12 fc_4 (by decide) (by decide) bw_271 rfl e5 ?_
    refine g_iconst (v := 2) dX4_readNumber_15 (by decide) ?_
    refine g_icmp_eq (tgt := 24) dX4_readNumber_16 (by decide) (fun c28 => ?_) (fun c28 => ?_)
    · replace K := K.1 c28
      refine g_aload_n dX4_readNumber_24 rfl 0 rfl ?_
      refine g_get (c := 4) (k := 10) (v := .int (hI h4 a0 10)) dX4_readNumber_25 fc_4 (by decide) (by decide) bw_276 rfl e5 ?_
      refine g_if_ne (tgt := 65) dX4_readNumber_28 (by decide) (fun c29 => ?_) (fun c29 => ?_)
      · replace K := K.1 c29
        refine g_aload_n dX4_readNumber_65 rfl 0 rfl ?_
        refine g_get (c := 4) (k := 10) (v := .int (hI h4 a0 10)) dX4_readNumber_66 fc_4 (by decide) (by decide) bw_276 rfl e5 ?_
        have KJ : Gm l x mX4_readNumber 2 80 [(0, .ref a0), (1, .int x1), (2, .int x2)] [.int (if (hI h4 a0 10) = 0 then (hI h4 a0 7) else x1 : Int32)] h4 rc rs n0 Q X := by
          exact g_iret dX4_readNumber_80 rfl K
        refine g_if_ne (tgt := 79) dX4_readNumber_69 (by decide) (fun c30 => ?_) (fun c30 => ?_)
        · refine g_iload_n dX4_readNumber_79 rfl 1 rfl ?_
          first | (simp only [if_neg c30] at KJ; exact KJ) | (simp only [if_neg c30, ite_true, ite_false, eq_self] at KJ; exact KJ) | (simp only [if_neg c30] at KJ ⊢; exact KJ) | exact KJ
        · refine g_aload_n dX4_readNumber_72 rfl 0 rfl ?_
          refine g_get (c := 4) (k := 7) (v := .int (hI h4 a0 7)) dX4_readNumber_73 fc_4 (by decide) (by decide) bw_273 rfl e5 ?_
          refine g_goto (tgt := 80) dX4_readNumber_76 (by decide) ?_
          first | (simp only [if_pos c30] at KJ; exact KJ) | (simp only [if_pos c30, ite_true, ite_false, eq_self] at KJ; exact KJ) | (simp only [if_pos c30] at KJ ⊢; exact KJ) | exact KJ
      · replace K := K.2 c29
        refine g_aload_n dX4_readNumber_31 rfl 0 rfl ?_
        refine g_get (c := 4) (k := 4) (v := .int (hI h4 a0 4)) dX4_readNumber_32 fc_4 (by decide) (by decide) bw_270 rfl e5 ?_
        refine g_aload_n dX4_readNumber_35 rfl 0 rfl ?_
        refine g_get (c := 4) (k := 6) (v := .int (hI h4 a0 6)) dX4_readNumber_36 fc_4 (by decide) (by decide) bw_272 rfl e5 ?_
        refine g_isub dX4_readNumber_39 ?_
        refine g_iconst (v := 2) dX4_readNumber_40 (by decide) ?_
        refine g_icmp_gt (tgt := 60) dX4_readNumber_41 (by decide) (fun c31 => ?_) (fun c31 => ?_)
        · replace K := K.1 c31
          refine g_aload_n dX4_readNumber_60 rfl 0 rfl ?_
          refine g_iconst (v := 2) dX4_readNumber_61 (by decide) ?_
          obtain ⟨q32, C33, K⟩ := K
          refine g_callV (M' := mX4_fail) (b := a0) (As := [.int 2]) (rest := []) (rc' := rc) (rs' := rs) dX4_readNumber_62 bw_838 bw_840 bs_25 bw_2 bw_841 ⟨by decide +kernel, by decide +kernel, show (parseMethodDescriptor mX4_fail.1.desc).map (fun d => d.parameters.length) = some 1 by decide +kernel⟩ (by decide) (by decide) (Nat.le_of_ble_eq_true rfl) fc_4 (by decide) rfl e5 C33 (Nat.le_of_eq (Nat.add_zero _)) (Nat.le_of_eq (Nat.add_zero _)) (fun _ _ h => h) ?_
          rintro _ h34 ⟨rfl, K1⟩ -
          replace K := K h34 K1
          show Gm l x mX4_readNumber 2 65 [(0, .ref a0), (1, .int x1), (2, .int x2)] [] h34 rc rs n0 Q X
          refine g_aload_n dX4_readNumber_65 rfl 0 rfl ?_
          obtain ⟨e35, K⟩ := K
          refine g_get (c := 4) (k := 10) (v := .int (hI h34 a0 10)) dX4_readNumber_66 fc_4 (by decide) (by decide) bw_276 rfl e35 ?_
          have KJ : Gm l x mX4_readNumber 2 80 [(0, .ref a0), (1, .int x1), (2, .int x2)] [.int (if (hI h34 a0 10) = 0 then (hI h34 a0 7) else x1 : Int32)] h34 rc rs n0 Q X := by
            exact g_iret dX4_readNumber_80 rfl K
          refine g_if_ne (tgt := 79) dX4_readNumber_69 (by decide) (fun c36 => ?_) (fun c36 => ?_)
          · refine g_iload_n dX4_readNumber_79 rfl 1 rfl ?_
            first | (simp only [if_neg c36] at KJ; exact KJ) | (simp only [if_neg c36, ite_true, ite_false, eq_self] at KJ; exact KJ) | (simp only [if_neg c36] at KJ ⊢; exact KJ) | exact KJ
          · refine g_aload_n dX4_readNumber_72 rfl 0 rfl ?_
            refine g_get (c := 4) (k := 7) (v := .int (hI h34 a0 7)) dX4_readNumber_73 fc_4 (by decide) (by decide) bw_273 rfl e35 ?_
            refine g_goto (tgt := 80) dX4_readNumber_76 (by decide) ?_
            first | (simp only [if_pos c36] at KJ; exact KJ) | (simp only [if_pos c36, ite_true, ite_false, eq_self] at KJ; exact KJ) | (simp only [if_pos c36] at KJ ⊢; exact KJ) | exact KJ
        · replace K := K.2 c31
          refine g_aload_n dX4_readNumber_44 rfl 0 rfl ?_
          refine g_get (c := 4) (k := 7) (v := .int (hI h4 a0 7)) dX4_readNumber_45 fc_4 (by decide) (by decide) bw_273 rfl e5 ?_
          refine g_iload_n dX4_readNumber_48 rfl 1 rfl ?_
          refine g_icmp_lt (tgt := 60) dX4_readNumber_49 (by decide) (fun c37 => ?_) (fun c37 => ?_)
          · replace K := K.1 c37
            refine g_aload_n dX4_readNumber_60 rfl 0 rfl ?_
            refine g_iconst (v := 2) dX4_readNumber_61 (by decide) ?_
            obtain ⟨q38, C39, K⟩ := K
            refine g_callV (M' := mX4_fail) (b := a0) (As := [.int 2]) (rest := []) (rc' := rc) (rs' := rs) dX4_readNumber_62 bw_838 bw_840 bs_25 bw_2 bw_841 ⟨by decide +kernel, by decide +kernel, show (parseMethodDescriptor mX4_fail.1.desc).map (fun d => d.parameters.length) = some 1 by decide +kernel⟩ (by decide) (by decide) (Nat.le_of_ble_eq_true rfl) fc_4 (by decide) rfl e5 C39 (Nat.le_of_eq (Nat.add_zero _)) (Nat.le_of_eq (Nat.add_zero _)) (fun _ _ h => h) ?_
            rintro _ h40 ⟨rfl, K1⟩ -
            replace K := K h40 K1
            show Gm l x mX4_readNumber 2 65 [(0, .ref a0), (1, .int x1), (2, .int x2)] [] h40 rc rs n0 Q X
            refine g_aload_n dX4_readNumber_65 rfl 0 rfl ?_
            obtain ⟨e41, K⟩ := K
            refine g_get (c := 4) (k := 10) (v := .int (hI h40 a0 10)) dX4_readNumber_66 fc_4 (by decide) (by decide) bw_276 rfl e41 ?_
            have KJ : Gm l x mX4_readNumber 2 80 [(0, .ref a0), (1, .int x1), (2, .int x2)] [.int (if (hI h40 a0 10) = 0 then (hI h40 a0 7) else x1 : Int32)] h40 rc rs n0 Q X := by
              exact g_iret dX4_readNumber_80 rfl K
            refine g_if_ne (tgt := 79) dX4_readNumber_69 (by decide) (fun c42 => ?_) (fun c42 => ?_)
            · refine g_iload_n dX4_readNumber_79 rfl 1 rfl ?_
              first | (simp only [if_neg c42] at KJ; exact KJ) | (simp only [if_neg c42, ite_true, ite_false, eq_self] at KJ; exact KJ) | (simp only [if_neg c42] at KJ ⊢; exact KJ) | exact KJ
            · refine g_aload_n dX4_readNumber_72 rfl 0 rfl ?_
              refine g_get (c := 4) (k := 7) (v := .int (hI h40 a0 7)) dX4_readNumber_73 fc_4 (by decide) (by decide) bw_273 rfl e41 ?_
              refine g_goto (tgt := 80) dX4_readNumber_76 (by decide) ?_
              first | (simp only [if_pos c42] at KJ; exact KJ) | (simp only [if_pos c42, ite_true, ite_false, eq_self] at KJ; exact KJ) | (simp only [if_pos c42] at KJ ⊢; exact KJ) | exact KJ
          · replace K := K.2 c37
            refine g_aload_n dX4_readNumber_52 rfl 0 rfl ?_
            refine g_get (c := 4) (k := 7) (v := .int (hI h4 a0 7)) dX4_readNumber_53 fc_4 (by decide) (by decide) bw_273 rfl e5 ?_
            refine g_iload_n dX4_readNumber_56 rfl 2 rfl ?_
            refine g_icmp_le (tgt := 65) dX4_readNumber_57 (by decide) (fun c43 => ?_) (fun c43 => ?_)
            · replace K := K.1 c43
              refine g_aload_n dX4_readNumber_65 rfl 0 rfl ?_
              refine g_get (c := 4) (k := 10) (v := .int (hI h4 a0 10)) dX4_readNumber_66 fc_4 (by decide) (by decide) bw_276 rfl e5 ?_
              have KJ : Gm l x mX4_readNumber 2 80 [(0, .ref a0), (1, .int x1), (2, .int x2)] [.int (if (hI h4 a0 10) = 0 then (hI h4 a0 7) else x1 : Int32)] h4 rc rs n0 Q X := by
                exact g_iret dX4_readNumber_80 rfl K
              refine g_if_ne (tgt := 79) dX4_readNumber_69 (by decide) (fun c44 => ?_) (fun c44 => ?_)
              · refine g_iload_n dX4_readNumber_79 rfl 1 rfl ?_
                first | (simp only [if_neg c44] at KJ; exact KJ) | (simp only [if_neg c44, ite_true, ite_false, eq_self] at KJ; exact KJ) | (simp only [if_neg c44] at KJ ⊢; exact KJ) | exact KJ
              · refine g_aload_n dX4_readNumber_72 rfl 0 rfl ?_
                refine g_get (c := 4) (k := 7) (v := .int (hI h4 a0 7)) dX4_readNumber_73 fc_4 (by decide) (by decide) bw_273 rfl e5 ?_
                refine g_goto (tgt := 80) dX4_readNumber_76 (by decide) ?_
                first | (simp only [if_pos c44] at KJ; exact KJ) | (simp only [if_pos c44, ite_true, ite_false, eq_self] at KJ; exact KJ) | (simp only [if_pos c44] at KJ ⊢; exact KJ) | exact KJ
            · replace K := K.2 c43
              refine g_aload_n dX4_readNumber_60 rfl 0 rfl ?_
              refine g_iconst (v := 2) dX4_readNumber_61 (by decide) ?_
              obtain ⟨q45, C46, K⟩ := K
              refine g_callV (M' := mX4_fail) (b := a0) (As := [.int 2]) (rest := []) (rc' := rc) (rs' := rs) dX4_readNumber_62 bw_838 bw_840 bs_25 bw_2 bw_841 ⟨by decide +kernel, by decide +kernel, show (parseMethodDescriptor mX4_fail.1.desc).map (fun d => d.parameters.length) = some 1 by decide +kernel⟩ (by decide) (by decide) (Nat.le_of_ble_eq_true rfl) fc_4 (by decide) rfl e5 C46 (Nat.le_of_eq (Nat.add_zero _)) (Nat.le_of_eq (Nat.add_zero _)) (fun _ _ h => h) ?_
              rintro _ h47 ⟨rfl, K1⟩ -
              replace K := K h47 K1
              show Gm l x mX4_readNumber 2 65 [(0, .ref a0), (1, .int x1), (2, .int x2)] [] h47 rc rs n0 Q X
              refine g_aload_n dX4_readNumber_65 rfl 0 rfl ?_
              obtain ⟨e48, K⟩ := K
              refine g_get (c := 4) (k := 10) (v := .int (hI h47 a0 10)) dX4_readNumber_66 fc_4 (by decide) (by decide) bw_276 rfl e48 ?_
              have KJ : Gm l x mX4_readNumber 2 80 [(0, .ref a0), (1, .int x1), (2, .int x2)] [.int (if (hI h47 a0 10) = 0 then (hI h47 a0 7) else x1 : Int32)] h47 rc rs n0 Q X := by
                exact g_iret dX4_readNumber_80 rfl K
              refine g_if_ne (tgt := 79) dX4_readNumber_69 (by decide) (fun c49 => ?_) (fun c49 => ?_)
              · refine g_iload_n dX4_readNumber_79 rfl 1 rfl ?_
                first | (simp only [if_neg c49] at KJ; exact KJ) | (simp only [if_neg c49, ite_true, ite_false, eq_self] at KJ; exact KJ) | (simp only [if_neg c49] at KJ ⊢; exact KJ) | exact KJ
              · refine g_aload_n dX4_readNumber_72 rfl 0 rfl ?_
                refine g_get (c := 4) (k := 7) (v := .int (hI h47 a0 7)) dX4_readNumber_73 fc_4 (by decide) (by decide) bw_273 rfl e48 ?_
                refine g_goto (tgt := 80) dX4_readNumber_76 (by decide) ?_
                first | (simp only [if_pos c49] at KJ; exact KJ) | (simp only [if_pos c49, ite_true, ite_false, eq_self] at KJ; exact KJ) | (simp only [if_pos c49] at KJ ⊢; exact KJ) | exact KJ
    · replace K := K.2 c28
      refine g_aload_n dX4_readNumber_19 rfl 0 rfl ?_
      refine g_iconst (v := 1) dX4_readNumber_20 (by decide) ?_
      obtain ⟨q50, C51, K⟩ := K
      refine g_callV (M' := mX4_fail) (b := a0) (As := [.int 1]) (rest := []) (rc' := rc) (rs' := rs) dX4_readNumber_21 bw_838 bw_840 bs_25 bw_2 bw_841 ⟨by decide +kernel, by decide +kernel, show (parseMethodDescriptor mX4_fail.1.desc).map (fun d => d.parameters.length) = some 1 by decide +kernel⟩ (by decide) (by decide) (Nat.le_of_ble_eq_true rfl) fc_4 (by decide) rfl e5 C51 (Nat.le_of_eq (Nat.add_zero _)) (Nat.le_of_eq (Nat.add_zero _)) (fun _ _ h => h) ?_
      rintro _ h52 ⟨rfl, K1⟩ -
      replace K := K h52 K1
      show Gm l x mX4_readNumber 2 24 [(0, .ref a0), (1, .int x1), (2, .int x2)] [] h52 rc rs n0 Q X
      refine g_aload_n dX4_readNumber_24 rfl 0 rfl ?_
      obtain ⟨e53, K⟩ := K
      refine g_get (c := 4) (k := 10) (v := .int (hI h52 a0 10)) dX4_readNumber_25 fc_4 (by decide) (by decide) bw_276 rfl e53 ?_
      refine g_if_ne (tgt := 65) dX4_readNumber_28 (by decide) (fun c54 => ?_) (fun c54 => ?_)
      · replace K := K.1 c54
        refine g_aload_n dX4_readNumber_65 rfl 0 rfl ?_
        refine g_get (c := 4) (k := 10) (v := .int (hI h52 a0 10)) dX4_readNumber_66 fc_4 (by decide) (by decide) bw_276 rfl e53 ?_
        have KJ : Gm l x mX4_readNumber 2 80 [(0, .ref a0), (1, .int x1), (2, .int x2)] [.int (if (hI h52 a0 10) = 0 then (hI h52 a0 7) else x1 : Int32)] h52 rc rs n0 Q X := by
          exact g_iret dX4_readNumber_80 rfl K
        refine g_if_ne (tgt := 79) dX4_readNumber_69 (by decide) (fun c55 => ?_) (fun c55 => ?_)
        · refine g_iload_n dX4_readNumber_79 rfl 1 rfl ?_
          first | (simp only [if_neg c55] at KJ; exact KJ) | (simp only [if_neg c55, ite_true, ite_false, eq_self] at KJ; exact KJ) | (simp only [if_neg c55] at KJ ⊢; exact KJ) | exact KJ
        · refine g_aload_n dX4_readNumber_72 rfl 0 rfl ?_
          refine g_get (c := 4) (k := 7) (v := .int (hI h52 a0 7)) dX4_readNumber_73 fc_4 (by decide) (by decide) bw_273 rfl e53 ?_
          refine g_goto (tgt := 80) dX4_readNumber_76 (by decide) ?_
          first | (simp only [if_pos c55] at KJ; exact KJ) | (simp only [if_pos c55, ite_true, ite_false, eq_self] at KJ; exact KJ) | (simp only [if_pos c55] at KJ ⊢; exact KJ) | exact KJ
      · replace K := K.2 c54
        refine g_aload_n dX4_readNumber_31 rfl 0 rfl ?_
        refine g_get (c := 4) (k := 4) (v := .int (hI h52 a0 4)) dX4_readNumber_32 fc_4 (by decide) (by decide) bw_270 rfl e53 ?_
        refine g_aload_n dX4_readNumber_35 rfl 0 rfl ?_
        refine g_get (c := 4) (k := 6) (v := .int (hI h52 a0 6)) dX4_readNumber_36 fc_4 (by decide) (by decide) bw_272 rfl e53 ?_
        refine g_isub dX4_readNumber_39 ?_
        refine g_iconst (v := 2) dX4_readNumber_40 (by decide) ?_
        refine g_icmp_gt (tgt := 60) dX4_readNumber_41 (by decide) (fun c56 => ?_) (fun c56 => ?_)
        · replace K := K.1 c56
          refine g_aload_n dX4_readNumber_60 rfl 0 rfl ?_
          refine g_iconst (v := 2) dX4_readNumber_61 (by decide) ?_
          obtain ⟨q57, C58, K⟩ := K
          refine g_callV (M' := mX4_fail) (b := a0) (As := [.int 2]) (rest := []) (rc' := rc) (rs' := rs) dX4_readNumber_62 bw_838 bw_840 bs_25 bw_2 bw_841 ⟨by decide +kernel, by decide +kernel, show (parseMethodDescriptor mX4_fail.1.desc).map (fun d => d.parameters.length) = some 1 by decide +kernel⟩ (by decide) (by decide) (Nat.le_of_ble_eq_true rfl) fc_4 (by decide) rfl e53 C58 (Nat.le_of_eq (Nat.add_zero _)) (Nat.le_of_eq (Nat.add_zero _)) (fun _ _ h => h) ?_
          rintro _ h59 ⟨rfl, K1⟩ -
          replace K := K h59 K1
          show Gm l x mX4_readNumber 2 65 [(0, .ref a0), (1, .int x1), (2, .int x2)] [] h59 rc rs n0 Q X
          refine g_aload_n dX4_readNumber_65 rfl 0 rfl ?_
          obtain ⟨e60, K⟩ := K
          refine g_get (c := 4) (k := 10) (v := .int (hI h59 a0 10)) dX4_readNumber_66 fc_4 (by decide) (by decide) bw_276 rfl e60 ?_
          have KJ : Gm l x mX4_readNumber 2 80 [(0, .ref a0), (1, .int x1), (2, .int x2)] [.int (if (hI h59 a0 10) = 0 then (hI h59 a0 7) else x1 : Int32)] h59 rc rs n0 Q X := by
            exact g_iret dX4_readNumber_80 rfl K
          refine g_if_ne (tgt := 79) dX4_readNumber_69 (by decide) (fun c61 => ?_) (fun c61 => ?_)
          · refine g_iload_n dX4_readNumber_79 rfl 1 rfl ?_
            first | (simp only [if_neg c61] at KJ; exact KJ) | (simp only [if_neg c61, ite_true, ite_false, eq_self] at KJ; exact KJ) | (simp only [if_neg c61] at KJ ⊢; exact KJ) | exact KJ
          · refine g_aload_n dX4_readNumber_72 rfl 0 rfl ?_
            refine g_get (c := 4) (k := 7) (v := .int (hI h59 a0 7)) dX4_readNumber_73 fc_4 (by decide) (by decide) bw_273 rfl e60 ?_
            refine g_goto (tgt := 80) dX4_readNumber_76 (by decide) ?_
            first | (simp only [if_pos c61] at KJ; exact KJ) | (simp only [if_pos c61, ite_true, ite_false, eq_self] at KJ; exact KJ) | (simp only [if_pos c61] at KJ ⊢; exact KJ) | exact KJ
        · replace K := K.2 c56
          refine g_aload_n dX4_readNumber_44 rfl 0 rfl ?_
          refine g_get (c := 4) (k := 7) (v := .int (hI h52 a0 7)) dX4_readNumber_45 fc_4 (by decide) (by decide) bw_273 rfl e53 ?_
          refine g_iload_n dX4_readNumber_48 rfl 1 rfl ?_
          refine g_icmp_lt (tgt := 60) dX4_readNumber_49 (by decide) (fun c62 => ?_) (fun c62 => ?_)
          · replace K := K.1 c62
            refine g_aload_n dX4_readNumber_60 rfl 0 rfl ?_
            refine g_iconst (v := 2) dX4_readNumber_61 (by decide) ?_
            obtain ⟨q63, C64, K⟩ := K
            refine g_callV (M' := mX4_fail) (b := a0) (As := [.int 2]) (rest := []) (rc' := rc) (rs' := rs) dX4_readNumber_62 bw_838 bw_840 bs_25 bw_2 bw_841 ⟨by decide +kernel, by decide +kernel, show (parseMethodDescriptor mX4_fail.1.desc).map (fun d => d.parameters.length) = some 1 by decide +kernel⟩ (by decide) (by decide) (Nat.le_of_ble_eq_true rfl) fc_4 (by decide) rfl e53 C64 (Nat.le_of_eq (Nat.add_zero _)) (Nat.le_of_eq (Nat.add_zero _)) (fun _ _ h => h) ?_
            rintro _ h65 ⟨rfl, K1⟩ -
            replace K := K h65 K1
            show Gm l x mX4_readNumber 2 65 [(0, .ref a0), (1, .int x1), (2, .int x2)] [] h65 rc rs n0 Q X
            refine g_aload_n dX4_readNumber_65 rfl 0 rfl ?_
            obtain ⟨e66, K⟩ := K
            refine g_get (c := 4) (k := 10) (v := .int (hI h65 a0 10)) dX4_readNumber_66 fc_4 (by decide) (by decide) bw_276 rfl e66 ?_
            have KJ : Gm l x mX4_readNumber 2 80 [(0, .ref a0), (1, .int x1), (2, .int x2)] [.int (if (hI h65 a0 10) = 0 then (hI h65 a0 7) else x1 : Int32)] h65 rc rs n0 Q X := by
              exact g_iret dX4_readNumber_80 rfl K
            refine g_if_ne (tgt := 79) dX4_readNumber_69 (by decide) (fun c67 => ?_) (fun c67 => ?_)
            · refine g_iload_n dX4_readNumber_79 rfl 1 rfl ?_
              first | (simp only [if_neg c67] at KJ; exact KJ) | (simp only [if_neg c67, ite_true, ite_false, eq_self] at KJ; exact KJ) | (simp only [if_neg c67] at KJ ⊢; exact KJ) | exact KJ
            · refine g_aload_n dX4_readNumber_72 rfl 0 rfl ?_
              refine g_get (c := 4) (k := 7) (v := .int (hI h65 a0 7)) dX4_readNumber_73 fc_4 (by decide) (by decide) bw_273 rfl e66 ?_
              refine g_goto (tgt := 80) dX4_readNumber_76 (by decide) ?_
              first | (simp only [if_pos c67] at KJ; exact KJ) | (simp only [if_pos c67, ite_true, ite_false, eq_self] at KJ; exact KJ) | (simp only [if_pos c67] at KJ ⊢; exact KJ) | exact KJ
          · replace K := K.2 c62
            refine g_aload_n dX4_readNumber_52 rfl 0 rfl ?_
            refine g_get (c := 4) (k := 7) (v := .int (hI h52 a0 7)) dX4_readNumber_53 fc_4 (by decide) (by decide) bw_273 rfl e53 ?_
            refine g_iload_n dX4_readNumber_56 rfl 2 rfl ?_
            refine g_icmp_le (tgt := 65) dX4_readNumber_57 (by decide) (fun c68 => ?_) (fun c68 => ?_)
            · replace K := K.1 c68
              refine g_aload_n dX4_readNumber_65 rfl 0 rfl ?_
              refine g_get (c := 4) (k := 10) (v := .int (hI h52 a0 10)) dX4_readNumber_66 fc_4 (by decide) (by decide) bw_276 rfl e53 ?_
              have KJ : Gm l x mX4_readNumber 2 80 [(0, .ref a0), (1, .int x1), (2, .int x2)] [.int (if (hI h52 a0 10) = 0 then (hI h52 a0 7) else x1 : Int32)] h52 rc rs n0 Q X := by
                exact g_iret dX4_readNumber_80 rfl K
              refine g_if_ne (tgt := 79) dX4_readNumber_69 (by decide) (fun c69 => ?_) (fun c69 => ?_)
              · refine g_iload_n dX4_readNumber_79 rfl 1 rfl ?_
                first | (simp only [if_neg c69] at KJ; exact KJ) | (simp only [if_neg c69, ite_true, ite_false, eq_self] at KJ; exact KJ) | (simp only [if_neg c69] at KJ ⊢; exact KJ) | exact KJ
              · refine g_aload_n dX4_readNumber_72 rfl 0 rfl ?_
                refine g_get (c := 4) (k := 7) (v := .int (hI h52 a0 7)) dX4_readNumber_73 fc_4 (by decide) (by decide) bw_273 rfl e53 ?_
                refine g_goto (tgt := 80) dX4_readNumber_76 (by decide) ?_
                first | (simp only [if_pos c69] at KJ; exact KJ) | (simp only [if_pos c69, ite_true, ite_false, eq_self] at KJ; exact KJ) | (simp only [if_pos c69] at KJ ⊢; exact KJ) | exact KJ
            · replace K := K.2 c68
              refine g_aload_n dX4_readNumber_60 rfl 0 rfl ?_
              refine g_iconst (v := 2) dX4_readNumber_61 (by decide) ?_
              obtain ⟨q70, C71, K⟩ := K
              refine g_callV (M' := mX4_fail) (b := a0) (As := [.int 2]) (rest := []) (rc' := rc) (rs' := rs) dX4_readNumber_62 bw_838 bw_840 bs_25 bw_2 bw_841 ⟨by decide +kernel, by decide +kernel, show (parseMethodDescriptor mX4_fail.1.desc).map (fun d => d.parameters.length) = some 1 by decide +kernel⟩ (by decide) (by decide) (Nat.le_of_ble_eq_true rfl) fc_4 (by decide) rfl e53 C71 (Nat.le_of_eq (Nat.add_zero _)) (Nat.le_of_eq (Nat.add_zero _)) (fun _ _ h => h) ?_
              rintro _ h72 ⟨rfl, K1⟩ -
              replace K := K h72 K1
              show Gm l x mX4_readNumber 2 65 [(0, .ref a0), (1, .int x1), (2, .int x2)] [] h72 rc rs n0 Q X
              refine g_aload_n dX4_readNumber_65 rfl 0 rfl ?_
              obtain ⟨e73, K⟩ := K
              refine g_get (c := 4) (k := 10) (v := .int (hI h72 a0 10)) dX4_readNumber_66 fc_4 (by decide) (by decide) bw_276 rfl e73 ?_
              have KJ : Gm l x mX4_readNumber 2 80 [(0, .ref a0), (1, .int x1), (2, .int x2)] [.int (if (hI h72 a0 10) = 0 then (hI h72 a0 7) else x1 : Int32)] h72 rc rs n0 Q X := by
                exact g_iret dX4_readNumber_80 rfl K
              refine g_if_ne (tgt := 79) dX4_readNumber_69 (by decide) (fun c74 => ?_) (fun c74 => ?_)
              · refine g_iload_n dX4_readNumber_79 rfl 1 rfl ?_
                first | (simp only [if_neg c74] at KJ; exact KJ) | (simp only [if_neg c74, ite_true, ite_false, eq_self] at KJ; exact KJ) | (simp only [if_neg c74] at KJ ⊢; exact KJ) | exact KJ
              · refine g_aload_n dX4_readNumber_72 rfl 0 rfl ?_
                refine g_get (c := 4) (k := 7) (v := .int (hI h72 a0 7)) dX4_readNumber_73 fc_4 (by decide) (by decide) bw_273 rfl e73 ?_
                refine g_goto (tgt := 80) dX4_readNumber_76 (by decide) ?_
                first | (simp only [if_pos c74] at KJ; exact KJ) | (simp only [if_pos c74, ite_true, ite_false, eq_self] at KJ; exact KJ) | (simp only [if_pos c74] at KJ ⊢; exact KJ) | exact KJ
theorem dX4_init_0 : decode cX4_init 0 = .ok (.aload_n 0, 1) := by decide +kernel
theorem dX4_init_1 : decode cX4_init 1 = .ok (.invokespecial 3, 3) := by decide +kernel
theorem dX4_init_4 : decode cX4_init 4 = .ok (.aload_n 0, 1) := by decide +kernel
theorem dX4_init_5 : decode cX4_init 5 = .ok (.sipush 900, 3) := by decide +kernel
theorem dX4_init_8 : decode cX4_init 8 = .ok (.newarray .char, 2) := by decide +kernel
theorem dX4_init_10 : decode cX4_init 10 = .ok (.putfield 9, 3) := by decide +kernel
theorem dX4_init_13 : decode cX4_init 13 = .ok (.aload_n 0, 1) := by decide +kernel
theorem dX4_init_14 : decode cX4_init 14 = .ok (.iconst 0, 1) := by decide +kernel
theorem dX4_init_15 : decode cX4_init 15 = .ok (.putfield 15, 3) := by decide +kernel
theorem dX4_init_18 : decode cX4_init 18 = .ok (.aload_n 0, 1) := by decide +kernel
theorem dX4_init_19 : decode cX4_init 19 = .ok (.new 19, 3) := by decide +kernel
theorem dX4_init_22 : decode cX4_init 22 = .ok (.dup, 1) := by decide +kernel
theorem dX4_init_23 : decode cX4_init 23 = .ok (.invokespecial 21, 3) := by decide +kernel
theorem dX4_init_26 : decode cX4_init 26 = .ok (.putfield 22, 3) := by decide +kernel
theorem dX4_init_29 : decode cX4_init 29 = .ok (.aload_n 0, 1) := by decide +kernel
theorem dX4_init_30 : decode cX4_init 30 = .ok (.iconst 0, 1) := by decide +kernel
theorem dX4_init_31 : decode cX4_init 31 = .ok (.putfield 26, 3) := by decide +kernel
theorem dX4_init_34 : decode cX4_init 34 = .ok (.aload_n 0, 1) := by decide +kernel
theorem dX4_init_35 : decode cX4_init 35 = .ok (.iconst 0, 1) := by decide +kernel
theorem dX4_init_36 : decode cX4_init 36 = .ok (.putfield 29, 3) := by decide +kernel
theorem dX4_init_39 : decode cX4_init 39 = .ok (.aload_n 0, 1) := by decide +kernel
theorem dX4_init_40 : decode cX4_init 40 = .ok (.iconst 0, 1) := by decide +kernel
theorem dX4_init_41 : decode cX4_init 41 = .ok (.putfield 32, 3) := by decide +kernel
theorem dX4_init_44 : decode cX4_init 44 = .ok (.aload_n 0, 1) := by decide +kernel
theorem dX4_init_45 : decode cX4_init 45 = .ok (.iconst 0, 1) := by decide +kernel
theorem dX4_init_46 : decode cX4_init 46 = .ok (.putfield 35, 3) := by decide +kernel
theorem dX4_init_49 : decode cX4_init 49 = .ok (.aload_n 0, 1) := by decide +kernel
theorem dX4_init_50 : decode cX4_init 50 = .ok (.iconst 0, 1) := by decide +kernel
theorem dX4_init_51 : decode cX4_init 51 = .ok (.putfield 38, 3) := by decide +kernel
theorem dX4_init_54 : decode cX4_init 54 = .ok (.aload_n 0, 1) := by decide +kernel
theorem dX4_init_55 : decode cX4_init 55 = .ok (.iconst 0, 1) := by decide +kernel
theorem dX4_init_56 : decode cX4_init 56 = .ok (.putfield 41, 3) := by decide +kernel
theorem dX4_init_59 : decode cX4_init 59 = .ok (.aload_n 0, 1) := by decide +kernel
theorem dX4_init_60 : decode cX4_init 60 = .ok (.iconst 0, 1) := by decide +kernel
theorem dX4_init_61 : decode cX4_init 61 = .ok (.putfield 44, 3) := by decide +kernel
theorem dX4_init_64 : decode cX4_init 64 = .ok (.aload_n 0, 1) := by decide +kernel
theorem dX4_init_65 : decode cX4_init 65 = .ok (.iconst 0, 1) := by decide +kernel
theorem dX4_init_66 : decode cX4_init 66 = .ok (.putfield 47, 3) := by decide +kernel
theorem dX4_init_69 : decode cX4_init 69 = .ok (.aload_n 0, 1) := by decide +kernel
theorem dX4_init_70 : decode cX4_init 70 = .ok (.iconst (-1), 1) := by decide +kernel
theorem dX4_init_71 : decode cX4_init 71 = .ok (.putfield 50, 3) := by decide +kernel
theorem dX4_init_74 : decode cX4_init 74 = .ok (.return_, 1) := by decide +kernel
set_option maxRecDepth 20000 in
set_option maxHeartbeats 4000000 in
theorem vX4_init_0 {l : Launch} {x : CX} {a0 : Nat} {h : PH} {rc rs n0 : Nat} {Q : Option Value → PH → Prop} {X : String → PH → Prop}
    (K : (1 ≤ rc) ∧ (900 ≤ rs) ∧ ∀ (h3 : PH), h3 = (nw h (101, 900)) → ((hK h3 a0).1 = 4) ∧ (2 ≤ rc) ∧ (916 ≤ rs) ∧ ∀ (h7 : PH), h7 = (nw (sI (sR h3 a0 0 (some (hN h))) a0 1 0) (1, 0)) → ∃ (mc10 ms11 : Nat) (q8 : PH → Prop), mc10 ≤ (rc - 2) ∧ ms11 ≤ (rs - 916) ∧ CV l x mX1_init 2 mc10 ms11 [.ref (hN (sI (sR h3 a0 0 (some (hN h))) a0 1 0))] h7 q8 ∧ ∀ (h12 : PH), q8 h12 → ((hK h12 a0).1 = 4) ∧ Q none (sI (sI (sI (sI (sI (sI (sI (sI (sI (sR h12 a0 2 (some (hN (sI (sR h3 a0 0 (some (hN h))) a0 1 0)))) a0 3 0) a0 4 0) a0 5 0) a0 6 0) a0 7 0) a0 8 0) a0 9 0) a0 10 0) a0 11 (-1))) :
    Gm l x mX4_init 3 0 [(0, .ref a0)] [] h rc rs n0 Q X := by
  refine g_aload_n dX4_init_0 rfl 0 rfl ?_
  refine g_objInit dX4_init_1 bw_37 bw_30 bw_31 (by decide) (Nat.le_of_ble_eq_true rfl) ?_
  refine g_aload_n dX4_init_4 rfl 0 rfl ?_
  refine g_sipush (v := 900) dX4_init_5 (by decide) ?_
  obtain ⟨e1, e2, K⟩ := K
  refine g_newa (t := 1) (rc' := (rc - 1)) (rs' := (rs - 900)) (N := 900) dX4_init_8 (Or.inr (Or.inl ⟨rfl, rfl⟩)) bw_123 (by decide) (by decide) (by decide) (by omega) (by omega) ?_
  generalize e17 : (nw h (101, 900)) = h3
  replace K := K h3 e17.symm
  obtain ⟨e4, K⟩ := K
  refine g_putr (c := 4) (k := 0) dX4_init_10 fc_4 (by decide) (by decide) bw_264 (Or.inr ⟨rfl, rfl, rfl⟩) (Or.inr ⟨_, rfl⟩) e4 ?_
  refine g_aload_n dX4_init_13 rfl 0 rfl ?_
  refine g_iconst (v := 0) dX4_init_14 (by decide) ?_
  refine g_puti (c := 4) (k := 1) dX4_init_15 fc_4 (by decide) (by decide) bw_265 (Or.inl rfl) rfl (kkR e4) ?_
  refine g_aload_n dX4_init_18 rfl 0 rfl ?_
  obtain ⟨e5, e6, K⟩ := K
  refine g_new (c := 1) (rc' := (rc - 2)) (rs' := (rs - 916)) dX4_init_19 fc_1 (by decide) (by decide) bw_38 bw_39 bw_3 (by omega) (show (rs - 916) + 16 ≤ (rs - 900) by omega) ?_
  generalize e16 : (nw (sI (sR h3 a0 0 (some (hN h))) a0 1 0) (1, 0)) = h7
  replace K := K h7 e16.symm
  refine g_dup dX4_init_22 rfl ?_
  obtain ⟨mc10, ms11, q8, e14, e15, C9, K⟩ := K
  refine g_callI (M' := mX1_init) (b := (hN (sI (sR h3 a0 0 (some (hN h))) a0 1 0))) (As := []) (rest := [.ref (hN (sI (sR h3 a0 0 (some (hN h))) a0 1 0)), .ref a0]) (rc' := ((rc - 2) - mc10)) (rs' := ((rs - 916) - ms11)) dX4_init_23 bw_40 bw_41 rfl rfl bw_3 bw_42 ⟨by decide +kernel, by decide +kernel, show (parseMethodDescriptor mX1_init.1.desc).map (fun d => d.parameters.length) = some 0 by decide +kernel⟩ (by decide) (by decide) (Nat.le_of_ble_eq_true rfl) C9 (by omega) (by omega) (fun _ _ h => h) ?_
  rintro _ h12 ⟨rfl, K1⟩ -
  replace K := K h12 K1
  show Gm l x mX4_init 3 26 [(0, .ref a0)] [.ref (hN (sI (sR h3 a0 0 (some (hN h))) a0 1 0)), .ref a0] h12 ((rc - 2) - mc10) ((rs - 916) - ms11) n0 Q X
  obtain ⟨e13, K⟩ := K
  refine g_putr (c := 4) (k := 2) dX4_init_26 fc_4 (by decide) (by decide) bw_267 (Or.inr ⟨rfl, rfl, rfl⟩) (Or.inl ⟨_, rfl⟩) e13 ?_
  refine g_aload_n dX4_init_29 rfl 0 rfl ?_
  refine g_iconst (v := 0) dX4_init_30 (by decide) ?_
  refine g_puti (c := 4) (k := 3) dX4_init_31 fc_4 (by decide) (by decide) bw_269 (Or.inl rfl) rfl (kkR e13) ?_
  refine g_aload_n dX4_init_34 rfl 0 rfl ?_
  refine g_iconst (v := 0) dX4_init_35 (by decide) ?_
  refine g_puti (c := 4) (k := 4) dX4_init_36 fc_4 (by decide) (by decide) bw_270 (Or.inl rfl) rfl (kkI (kkR e13)) ?_
  refine g_aload_n dX4_init_39 rfl 0 rfl ?_
  refine g_iconst (v := 0) dX4_init_40 (by decide) ?_
  refine g_puti (c := 4) (k := 5) dX4_init_41 fc_4 (by decide) (by decide) bw_271 (Or.inl rfl) rfl (kkI (kkI (kkR e13))) ?_
  refine g_aload_n dX4_init_44 rfl 0 rfl ?_
  refine g_iconst (v := 0) dX4_init_45 (by decide) ?_
  refine g_puti (c := 4) (k := 6) dX4_init_46 fc_4 (by decide) (by decide) bw_272 (Or.inl rfl) rfl (kkI (kkI (kkI (kkR e13)))) ?_
  refine g_aload_n dX4_init_49 rfl 0 rfl ?_
  refine g_iconst (v := 0) dX4_init_50 (by decide) ?_
  refine g_puti (c := 4) (k := 7) dX4_init_51 fc_4 (by decide) (by decide) bw_273 (Or.inl rfl) rfl (kkI (kkI (kkI (kkI (kkR e13))))) ?_
  refine g_aload_n dX4_init_54 rfl 0 rfl ?_
  refine g_iconst (v := 0) dX4_init_55 (by decide) ?_
  refine g_puti (c := 4) (k := 8) dX4_init_56 fc_4 (by decide) (by decide) bw_274 (Or.inl rfl) rfl (kkI (kkI (kkI (kkI (kkI (kkR e13)))))) ?_
  refine g_aload_n dX4_init_59 rfl 0 rfl ?_
  refine g_iconst (v := 0) dX4_init_60 (by decide) ?_
  refine g_puti (c := 4) (k := 9) dX4_init_61 fc_4 (by decide) (by decide) bw_275 (Or.inl rfl) rfl (kkI (kkI (kkI (kkI (kkI (kkI (kkR e13))))))) ?_
  refine g_aload_n dX4_init_64 rfl 0 rfl ?_
  refine g_iconst (v := 0) dX4_init_65 (by decide) ?_
  refine g_puti (c := 4) (k := 10) dX4_init_66 fc_4 (by decide) (by decide) bw_276 (Or.inl rfl) rfl (kkI (kkI (kkI (kkI (kkI (kkI (kkI (kkR e13)))))))) ?_
  refine g_aload_n dX4_init_69 rfl 0 rfl ?_
  refine g_iconst (v := (-1)) dX4_init_70 (by decide) ?_
  refine g_puti (c := 4) (k := 11) dX4_init_71 fc_4 (by decide) (by decide) bw_277 (Or.inl rfl) rfl (kkI (kkI (kkI (kkI (kkI (kkI (kkI (kkI (kkR e13))))))))) ?_
  exact g_vret dX4_init_74 rfl K
theorem dX4_readFloors_0 : decode cX4_readFloors 0 = .ok (.aload_n 0, 1) := by decide +kernel
theorem dX4_readFloors_1 : decode cX4_readFloors 1 = .ok (.getfield 41, 3) := by decide +kernel
theorem dX4_readFloors_4 : decode cX4_readFloors 4 = .ok (.ifCond .le 8, 3) := by decide +kernel
theorem dX4_readFloors_7 : decode cX4_readFloors 7 = .ok (.aload_n 0, 1) := by decide +kernel
theorem dX4_readFloors_8 : decode cX4_readFloors 8 = .ok (.iconst 4, 1) := by decide +kernel
theorem dX4_readFloors_9 : decode cX4_readFloors 9 = .ok (.invokevirtual 68, 3) := by decide +kernel
theorem dX4_readFloors_12 : decode cX4_readFloors 12 = .ok (.aload_n 0, 1) := by decide +kernel
theorem dX4_readFloors_13 : decode cX4_readFloors 13 = .ok (.getfield 22, 3) := by decide +kernel
theorem dX4_readFloors_16 : decode cX4_readFloors 16 = .ok (.aload_n 0, 1) := by decide +kernel
theorem dX4_readFloors_17 : decode cX4_readFloors 17 = .ok (.iconst 2, 1) := by decide +kernel
theorem dX4_readFloors_18 : decode cX4_readFloors 18 = .ok (.bipush 12, 2) := by decide +kernel
theorem dX4_readFloors_20 : decode cX4_readFloors 20 = .ok (.invokevirtual 127, 3) := by decide +kernel
theorem dX4_readFloors_23 : decode cX4_readFloors 23 = .ok (.putfield 130, 3) := by decide +kernel
theorem dX4_readFloors_26 : decode cX4_readFloors 26 = .ok (.aload_n 0, 1) := by decide +kernel
theorem dX4_readFloors_27 : decode cX4_readFloors 27 = .ok (.invokevirtual 62, 3) := by decide +kernel
theorem dX4_readFloors_30 : decode cX4_readFloors 30 = .ok (.return_, 1) := by decide +kernel
set_option maxRecDepth 20000 in
set_option maxHeartbeats 4000000 in
theorem vX4_readFloors_0 {l : Launch} {x : CX} {a0 : Nat} {h : PH} {rc rs n0 : Nat} {Q : Option Value → PH → Prop} {X : String → PH → Prop}
    (K : ((hK h a0).1 = 4) ∧ (((hI h a0 8) ≤ 0 → ∃ b3, (hR h a0 2 = some b3) ∧ ∃ (q5 : Int32 → PH → Prop), CI l x mX4_readNumber 2 0 0 [.ref a0, .int 2, .int 12] h q5 ∧ ∀ (r8 : Int32) (h7 : PH), q5 r8 h7 → ((hK h7 b3).1 = 1) ∧ ((hK h7 a0).1 = 4) ∧ ∃ (q10 : PH → Prop), CV l x mX4_next 1 0 0 [.ref a0] (sI h7 b3 0 r8) q10 ∧ ∀ (h13 : PH), q10 h13 → Q none h13) ∧ (¬ (hI h a0 8) ≤ 0 → ∃ (q14 : PH → Prop), CV l x mX4_fail 0 0 0 [.ref a0, .int 4] h q14 ∧ ∀ (h16 : PH), q14 h16 → ((hK h16 a0).1 = 4) ∧ ∃ b18, (hR h16 a0 2 = some b18) ∧ ∃ (q20 : Int32 → PH → Prop), CI l x mX4_readNumber 2 0 0 [.ref a0, .int 2, .int 12] h16 q20 ∧ ∀ (r23 : Int32) (h22 : PH), q20 r23 h22 → ((hK h22 b18).1 = 1) ∧ ((hK h22 a0).1 = 4) ∧ ∃ (q25 : PH → Prop), CV l x mX4_next 1 0 0 [.ref a0] (sI h22 b18 0 r23) q25 ∧ ∀ (h28 : PH), q25 h28 → Q none h28))) :
    Gm l x mX4_readFloors 3 0 [(0, .ref a0)] [] h rc rs n0 Q X := by
  refine g_aload_n dX4_readFloors_0 rfl 0 rfl ?_
  obtain ⟨e1, K⟩ := K
  refine g_get (c := 4) (k := 8) (v := .int (hI h a0 8)) dX4_readFloors_1 fc_4 (by decide) (by decide) bw_274 rfl e1 ?_
  refine g_if_le (tgt := 12) dX4_readFloors_4 (by decide) (fun c2 => ?_) (fun c2 => ?_)
  · replace K := K.1 c2
    refine g_aload_n dX4_readFloors_12 rfl 0 rfl ?_
    obtain ⟨b3, e4, K⟩ := K
    refine g_get (c := 4) (k := 2) (v := .ref b3) dX4_readFloors_13 fc_4 (by decide) (by decide) bw_267 (congrArg pr e4) e1 ?_
    refine g_aload_n dX4_readFloors_16 rfl 0 rfl ?_
    refine g_iconst (v := 2) dX4_readFloors_17 (by decide) ?_
    refine g_bipush (v := 12) dX4_readFloors_18 (by decide) ?_
    obtain ⟨q5, C6, K⟩ := K
    refine g_callV (M' := mX4_readNumber) (b := a0) (As := [.int 2, .int 12]) (rest := [.ref b3]) (rc' := rc) (rs' := rs) dX4_readFloors_20 bw_842 bw_844 bs_26 bw_2 bw_845 ⟨by decide +kernel, by decide +kernel, show (parseMethodDescriptor mX4_readNumber.1.desc).map (fun d => d.parameters.length) = some 2 by decide +kernel⟩ (by decide) (by decide) (Nat.le_of_ble_eq_true rfl) fc_4 (by decide) rfl e1 C6 (Nat.le_of_eq (Nat.add_zero _)) (Nat.le_of_eq (Nat.add_zero _)) (fun _ _ h => h) ?_
    rintro _ h7 ⟨r8, rfl, K1⟩ -
    replace K := K r8 h7 K1
    show Gm l x mX4_readFloors 3 23 [(0, .ref a0)] [.int r8, .ref b3] h7 rc rs n0 Q X
    obtain ⟨e9, K⟩ := K
    refine g_puti (c := 1) (k := 0) dX4_readFloors_23 fc_1 (by decide) (by decide) bw_187 (Or.inl rfl) rfl e9 ?_
    refine g_aload_n dX4_readFloors_26 rfl 0 rfl ?_
    obtain ⟨e12, K⟩ := K
    obtain ⟨q10, C11, K⟩ := K
    refine g_callV (M' := mX4_next) (b := a0) (As := []) (rest := []) (rc' := rc) (rs' := rs) dX4_readFloors_27 bw_767 bw_769 bs_21 bw_2 bw_770 ⟨by decide +kernel, by decide +kernel, show (parseMethodDescriptor mX4_next.1.desc).map (fun d => d.parameters.length) = some 0 by decide +kernel⟩ (by decide) (by decide) (Nat.le_of_ble_eq_true rfl) fc_4 (by decide) rfl (kkI e12) C11 (Nat.le_of_eq (Nat.add_zero _)) (Nat.le_of_eq (Nat.add_zero _)) (fun _ _ h => h) ?_
    rintro _ h13 ⟨rfl, K1⟩ -
    replace K := K h13 K1
    show Gm l x mX4_readFloors 3 30 [(0, .ref a0)] [] h13 rc rs n0 Q X
    exact g_vret dX4_readFloors_30 rfl K
  · replace K := K.2 c2
    refine g_aload_n dX4_readFloors_7 rfl 0 rfl ?_
    refine g_iconst (v := 4) dX4_readFloors_8 (by decide) ?_
    obtain ⟨q14, C15, K⟩ := K
    refine g_callV (M' := mX4_fail) (b := a0) (As := [.int 4]) (rest := []) (rc' := rc) (rs' := rs) dX4_readFloors_9 bw_838 bw_840 bs_25 bw_2 bw_841 ⟨by decide +kernel, by decide +kernel, show (parseMethodDescriptor mX4_fail.1.desc).map (fun d => d.parameters.length) = some 1 by decide +kernel⟩ (by decide) (by decide) (Nat.le_of_ble_eq_true rfl) fc_4 (by decide) rfl e1 C15 (Nat.le_of_eq (Nat.add_zero _)) (Nat.le_of_eq (Nat.add_zero _)) (fun _ _ h => h) ?_
    rintro _ h16 ⟨rfl, K1⟩ -
    replace K := K h16 K1
    show Gm l x mX4_readFloors 3 12 [(0, .ref a0)] [] h16 rc rs n0 Q X
    refine g_aload_n dX4_readFloors_12 rfl 0 rfl ?_
    obtain ⟨e17, b18, e19, K⟩ := K
    refine g_get (c := 4) (k := 2) (v := .ref b18) dX4_readFloors_13 fc_4 (by decide) (by decide) bw_267 (congrArg pr e19) e17 ?_
    refine g_aload_n dX4_readFloors_16 rfl 0 rfl ?_
    refine g_iconst (v := 2) dX4_readFloors_17 (by decide) ?_
    refine g_bipush (v := 12) dX4_readFloors_18 (by decide) ?_
    obtain ⟨q20, C21, K⟩ := K
    refine g_callV (M' := mX4_readNumber) (b := a0) (As := [.int 2, .int 12]) (rest := [.ref b18]) (rc' := rc) (rs' := rs) dX4_readFloors_20 bw_842 bw_844 bs_26 bw_2 bw_845 ⟨by decide +kernel, by decide +kernel, show (parseMethodDescriptor mX4_readNumber.1.desc).map (fun d => d.parameters.length) = some 2 by decide +kernel⟩ (by decide) (by decide) (Nat.le_of_ble_eq_true rfl) fc_4 (by decide) rfl e17 C21 (Nat.le_of_eq (Nat.add_zero _)) (Nat.le_of_eq (Nat.add_zero _)) (fun _ _ h => h) ?_
    rintro _ h22 ⟨r23, rfl, K1⟩ -
    replace K := K r23 h22 K1
    show Gm l x mX4_readFloors 3 23 [(0, .ref a0)] [.int r23, .ref b18] h22 rc rs n0 Q X
    obtain ⟨e24, K⟩ := K
    refine g_puti (c := 1) (k := 0) dX4_readFloors_23 fc_1 (by decide) (by decide) bw_187 (Or.inl rfl) rfl e24 ?_
    refine g_aload_n dX4_readFloors_26 rfl 0 rfl ?_
    obtain ⟨e27, K⟩ := K
    obtain ⟨q25, C26, K⟩ := K
    refine g_callV (M' := mX4_next) (b := a0) (As := []) (rest := []) (rc' := rc) (rs' := rs) dX4_readFloors_27 bw_767 bw_769 bs_21 bw_2 bw_770 ⟨by decide +kernel, by decide +kernel, show (parseMethodDescriptor mX4_next.1.desc).map (fun d => d.parameters.length) = some 0 by decide +kernel⟩ (by decide) (by decide) (Nat.le_of_ble_eq_true rfl) fc_4 (by decide) rfl (kkI e27) C26 (Nat.le_of_eq (Nat.add_zero _)) (Nat.le_of_eq (Nat.add_zero _)) (fun _ _ h => h) ?_
    rintro _ h28 ⟨rfl, K1⟩ -
    replace K := K h28 K1
    show Gm l x mX4_readFloors 3 30 [(0, .ref a0)] [] h28 rc rs n0 Q X
    exact g_vret dX4_readFloors_30 rfl K
theorem dX4_readSetting_0 : decode cX4_readSetting 0 = .ok (.aload_n 0, 1) := by decide +kernel
theorem dX4_readSetting_1 : decode cX4_readSetting 1 = .ok (.getfield 44, 3) := by decide +kernel
theorem dX4_readSetting_4 : decode cX4_readSetting 4 = .ok (.iload_n 1, 1) := by decide +kernel
theorem dX4_readSetting_5 : decode cX4_readSetting 5 = .ok (.iand, 1) := by decide +kernel
theorem dX4_readSetting_6 : decode cX4_readSetting 6 = .ok (.ifCond .eq 8, 3) := by decide +kernel
theorem dX4_readSetting_9 : decode cX4_readSetting 9 = .ok (.aload_n 0, 1) := by decide +kernel
theorem dX4_readSetting_10 : decode cX4_readSetting 10 = .ok (.iconst 4, 1) := by decide +kernel
theorem dX4_readSetting_11 : decode cX4_readSetting 11 = .ok (.invokevirtual 68, 3) := by decide +kernel
theorem dX4_readSetting_14 : decode cX4_readSetting 14 = .ok (.aload_n 0, 1) := by decide +kernel
theorem dX4_readSetting_15 : decode cX4_readSetting 15 = .ok (.dup, 1) := by decide +kernel
theorem dX4_readSetting_16 : decode cX4_readSetting 16 = .ok (.getfield 44, 3) := by decide +kernel
theorem dX4_readSetting_19 : decode cX4_readSetting 19 = .ok (.iload_n 1, 1) := by decide +kernel
theorem dX4_readSetting_20 : decode cX4_readSetting 20 = .ok (.ior, 1) := by decide +kernel
theorem dX4_readSetting_21 : decode cX4_readSetting 21 = .ok (.putfield 44, 3) := by decide +kernel
theorem dX4_readSetting_24 : decode cX4_readSetting 24 = .ok (.aload_n 0, 1) := by decide +kernel
theorem dX4_readSetting_25 : decode cX4_readSetting 25 = .ok (.iload_n 2, 1) := by decide +kernel
theorem dX4_readSetting_26 : decode cX4_readSetting 26 = .ok (.iload_n 3, 1) := by decide +kernel
theorem dX4_readSetting_27 : decode cX4_readSetting 27 = .ok (.invokevirtual 127, 3) := by decide +kernel
theorem dX4_readSetting_30 : decode cX4_readSetting 30 = .ok (.istore 4, 2) := by decide +kernel
theorem dX4_readSetting_32 : decode cX4_readSetting 32 = .ok (.aload_n 0, 1) := by decide +kernel
theorem dX4_readSetting_33 : decode cX4_readSetting 33 = .ok (.invokevirtual 62, 3) := by decide +kernel
theorem dX4_readSetting_36 : decode cX4_readSetting 36 = .ok (.iload 4, 2) := by decide +kernel
theorem dX4_readSetting_38 : decode cX4_readSetting 38 = .ok (.ireturn, 1) := by decide +kernel
set_option maxRecDepth 20000 in
set_option maxHeartbeats 4000000 in
theorem vX4_readSetting_0 {l : Launch} {x : CX} {a0 : Nat} {x1 : Int32} {x2 : Int32} {x3 : Int32} {h : PH} {rc rs n0 : Nat} {Q : Option Value → PH → Prop} {X : String → PH → Prop}
    (K : ((hK h a0).1 = 4) ∧ ((((hI h a0 9) &&& x1) = 0 → ∃ (q3 : Int32 → PH → Prop), CI l x mX4_readNumber 2 0 0 [.ref a0, .int x2, .int x3] (sI h a0 9 ((hI h a0 9) ||| x1)) q3 ∧ ∀ (r6 : Int32) (h5 : PH), q3 r6 h5 → ((hK h5 a0).1 = 4) ∧ ∃ (q7 : PH → Prop), CV l x mX4_next 1 0 0 [.ref a0] h5 q7 ∧ ∀ (h10 : PH), q7 h10 → Q (some (.int r6)) h10) ∧ (¬ ((hI h a0 9) &&& x1) = 0 → ∃ (q11 : PH → Prop), CV l x mX4_fail 0 0 0 [.ref a0, .int 4] h q11 ∧ ∀ (h13 : PH), q11 h13 → ((hK h13 a0).1 = 4) ∧ ∃ (q15 : Int32 → PH → Prop), CI l x mX4_readNumber 2 0 0 [.ref a0, .int x2, .int x3] (sI h13 a0 9 ((hI h13 a0 9) ||| x1)) q15 ∧ ∀ (r18 : Int32) (h17 : PH), q15 r18 h17 → ((hK h17 a0).1 = 4) ∧ ∃ (q19 : PH → Prop), CV l x mX4_next 1 0 0 [.ref a0] h17 q19 ∧ ∀ (h22 : PH), q19 h22 → Q (some (.int r18)) h22))) :
    Gm l x mX4_readSetting 3 0 [(0, .ref a0), (1, .int x1), (2, .int x2), (3, .int x3)] [] h rc rs n0 Q X := by
  refine g_aload_n dX4_readSetting_0 rfl 0 rfl ?_
  obtain ⟨e1, K⟩ := K
  refine g_get (c := 4) (k := 9) (v := .int (hI h a0 9)) dX4_readSetting_1 fc_4 (by decide) (by decide) bw_275 rfl e1 ?_
  refine g_iload_n dX4_readSetting_4 rfl 1 rfl ?_
  refine g_iand dX4_readSetting_5 ?_
  refine g_if_eq (tgt := 14) dX4_readSetting_6 (by decide) (fun c2 => ?_) (fun c2 => ?_)
  · replace K := K.1 c2
    refine g_aload_n dX4_readSetting_14 rfl 0 rfl ?_
    refine g_dup dX4_readSetting_15 rfl ?_
    refine g_get (c := 4) (k := 9) (v := .int (hI h a0 9)) dX4_readSetting_16 fc_4 (by decide) (by decide) bw_275 rfl e1 ?_
    refine g_iload_n dX4_readSetting_19 rfl 1 rfl ?_
    refine g_ior dX4_readSetting_20 ?_
    refine g_puti (c := 4) (k := 9) dX4_readSetting_21 fc_4 (by decide) (by decide) bw_275 (Or.inl rfl) rfl e1 ?_
    refine g_aload_n dX4_readSetting_24 rfl 0 rfl ?_
    refine g_iload_n dX4_readSetting_25 rfl 2 rfl ?_
    refine g_iload_n dX4_readSetting_26 rfl 3 rfl ?_
    obtain ⟨q3, C4, K⟩ := K
    refine g_callV (M' := mX4_readNumber) (b := a0) (As := [.int x2, .int x3]) (rest := []) (rc' := rc) (rs' := rs) dX4_readSetting_27 bw_842 bw_844 bs_26 bw_2 bw_845 ⟨by decide +kernel, by decide +kernel, show (parseMethodDescriptor mX4_readNumber.1.desc).map (fun d => d.parameters.length) = some 2 by decide +kernel⟩ (by decide) (by decide) (Nat.le_of_ble_eq_true rfl) fc_4 (by decide) rfl (kkI e1) C4 (Nat.le_of_eq (Nat.add_zero _)) (Nat.le_of_eq (Nat.add_zero _)) (fun _ _ h => h) ?_
    rintro _ h5 ⟨r6, rfl, K1⟩ -
    replace K := K r6 h5 K1
    show Gm l x mX4_readSetting 3 30 [(0, .ref a0), (1, .int x1), (2, .int x2), (3, .int x3)] [.int r6] h5 rc rs n0 Q X
    refine g_istore (lv' := [(0, .ref a0), (1, .int x1), (2, .int x2), (3, .int x3), (4, .int r6)]) dX4_readSetting_30 (by decide) rfl ?_
    refine g_aload_n dX4_readSetting_32 rfl 0 rfl ?_
    obtain ⟨e9, K⟩ := K
    obtain ⟨q7, C8, K⟩ := K
    refine g_callV (M' := mX4_next) (b := a0) (As := []) (rest := []) (rc' := rc) (rs' := rs) dX4_readSetting_33 bw_767 bw_769 bs_21 bw_2 bw_770 ⟨by decide +kernel, by decide +kernel, show (parseMethodDescriptor mX4_next.1.desc).map (fun d => d.parameters.length) = some 0 by decide +kernel⟩ (by decide) (by decide) (Nat.le_of_ble_eq_true rfl) fc_4 (by decide) rfl e9 C8 (Nat.le_of_eq (Nat.add_zero _)) (Nat.le_of_eq (Nat.add_zero _)) (fun _ _ h => h) ?_
    rintro _ h10 ⟨rfl, K1⟩ -
    replace K := K h10 K1
    show Gm l x mX4_readSetting 3 36 [(0, .ref a0), (1, .int x1), (2, .int x2), (3, .int x3), (4, .int r6)] [] h10 rc rs n0 Q X
    refine g_iload dX4_readSetting_36 4 rfl ?_
    exact g_iret dX4_readSetting_38 rfl K
  · replace K := K.2 c2
    refine g_aload_n dX4_readSetting_9 rfl 0 rfl ?_
    refine g_iconst (v := 4) dX4_readSetting_10 (by decide) ?_
    obtain ⟨q11, C12, K⟩ := K
    refine g_callV (M' := mX4_fail) (b := a0) (As := [.int 4]) (rest := []) (rc' := rc) (rs' := rs) dX4_readSetting_11 bw_838 bw_840 bs_25 bw_2 bw_841 ⟨by decide +kernel, by decide +kernel, show (parseMethodDescriptor mX4_fail.1.desc).map (fun d => d.parameters.length) = some 1 by decide +kernel⟩ (by decide) (by decide) (Nat.le_of_ble_eq_true rfl) fc_4 (by decide) rfl e1 C12 (Nat.le_of_eq (Nat.add_zero _)) (Nat.le_of_eq (Nat.add_zero _)) (fun _ _ h => h) ?_
    rintro _ h13 ⟨rfl, K1⟩ -
    replace K := K h13 K1
    show Gm l x mX4_readSetting 3 14 [(0, .ref a0), (1, .int x1), (2, .int x2), (3, .int x3)] [] h13 rc rs n0 Q X
    refine g_aload_n dX4_readSetting_14 rfl 0 rfl ?_
    refine g_dup dX4_readSetting_15 rfl ?_
    obtain ⟨e14, K⟩ := K
    refine g_get (c := 4) (k := 9) (v := .int (hI h13 a0 9)) dX4_readSetting_16 fc_4 (by decide) (by decide) bw_275 rfl e14 ?_
    refine g_iload_n dX4_readSetting_19 rfl 1 rfl ?_
    refine g_ior dX4_readSetting_20 ?_
    refine g_puti (c := 4) (k := 9) dX4_readSetting_21 fc_4 (by decide) (by decide) bw_275 (Or.inl rfl) rfl e14 ?_
    refine g_aload_n dX4_readSetting_24 rfl 0 rfl ?_
    refine g_iload_n dX4_readSetting_25 rfl 2 rfl ?_
    refine g_iload_n dX4_readSetting_26 rfl 3 rfl ?_
    obtain ⟨q15, C16, K⟩ := K
    refine g_callV (M' := mX4_readNumber) (b := a0) (As := [.int x2, .int x3]) (rest := []) (rc' := rc) (rs' := rs) dX4_readSetting_27 bw_842 bw_844 bs_26 bw_2 bw_845 ⟨by decide +kernel, by decide +kernel, show (parseMethodDescriptor mX4_readNumber.1.desc).map (fun d => d.parameters.length) = some 2 by decide +kernel⟩ (by decide) (by decide) (Nat.le_of_ble_eq_true rfl) fc_4 (by decide) rfl (kkI e14) C16 (Nat.le_of_eq (Nat.add_zero _)) (Nat.le_of_eq (Nat.add_zero _)) (fun _ _ h => h) ?_
    rintro _ h17 ⟨r18, rfl, K1⟩ -
    replace K := K r18 h17 K1
    show Gm l x mX4_readSetting 3 30 [(0, .ref a0), (1, .int x1), (2, .int x2), (3, .int x3)] [.int r18] h17 rc rs n0 Q X
    refine g_istore (lv' := [(0, .ref a0), (1, .int x1), (2, .int x2), (3, .int x3), (4, .int r18)]) dX4_readSetting_30 (by decide) rfl ?_
    refine g_aload_n dX4_readSetting_32 rfl 0 rfl ?_
    obtain ⟨e21, K⟩ := K
    obtain ⟨q19, C20, K⟩ := K
    refine g_callV (M' := mX4_next) (b := a0) (As := []) (rest := []) (rc' := rc) (rs' := rs) dX4_readSetting_33 bw_767 bw_769 bs_21 bw_2 bw_770 ⟨by decide +kernel, by decide +kernel, show (parseMethodDescriptor mX4_next.1.desc).map (fun d => d.parameters.length) = some 0 by decide +kernel⟩ (by decide) (by decide) (Nat.le_of_ble_eq_true rfl) fc_4 (by decide) rfl e21 C20 (Nat.le_of_eq (Nat.add_zero _)) (Nat.le_of_eq (Nat.add_zero _)) (fun _ _ h => h) ?_
    rintro _ h22 ⟨rfl, K1⟩ -
    replace K := K h22 K1
    show Gm l x mX4_readSetting 3 36 [(0, .ref a0), (1, .int x1), (2, .int x2), (3, .int x3), (4, .int r18)] [] h22 rc rs n0 Q X
    refine g_iload dX4_readSetting_36 4 rfl ?_
    exact g_iret dX4_readSetting_38 rfl K
theorem dX4_readFloor_0 : decode cX4_readFloor 0 = .ok (.aload_n 0, 1) := by decide +kernel
theorem dX4_readFloor_1 : decode cX4_readFloor 1 = .ok (.iconst 0, 1) := by decide +kernel
theorem dX4_readFloor_2 : decode cX4_readFloor 2 = .ok (.bipush 99, 2) := by decide +kernel
theorem dX4_readFloor_4 : decode cX4_readFloor 4 = .ok (.invokevirtual 127, 3) := by decide +kernel
theorem dX4_readFloor_7 : decode cX4_readFloor 7 = .ok (.istore_n 1, 1) := by decide +kernel
theorem dX4_readFloor_8 : decode cX4_readFloor 8 = .ok (.iload_n 1, 1) := by decide +kernel
theorem dX4_readFloor_9 : decode cX4_readFloor 9 = .ok (.aload_n 0, 1) := by decide +kernel
theorem dX4_readFloor_10 : decode cX4_readFloor 10 = .ok (.getfield 22, 3) := by decide +kernel
theorem dX4_readFloor_13 : decode cX4_readFloor 13 = .ok (.getfield 130, 3) := by decide +kernel
theorem dX4_readFloor_16 : decode cX4_readFloor 16 = .ok (.if_icmp .lt 8, 3) := by decide +kernel
theorem dX4_readFloor_19 : decode cX4_readFloor 19 = .ok (.aload_n 0, 1) := by decide +kernel
theorem dX4_readFloor_20 : decode cX4_readFloor 20 = .ok (.iconst 3, 1) := by decide +kernel
theorem dX4_readFloor_21 : decode cX4_readFloor 21 = .ok (.invokevirtual 68, 3) := by decide +kernel
theorem dX4_readFloor_24 : decode cX4_readFloor 24 = .ok (.iload_n 1, 1) := by decide +kernel
theorem dX4_readFloor_25 : decode cX4_readFloor 25 = .ok (.ireturn, 1) := by decide +kernel
set_option maxRecDepth 20000 in
set_option maxHeartbeats 4000000 in
theorem vX4_readFloor_0 {l : Launch} {x : CX} {a0 : Nat} {h : PH} {rc rs n0 : Nat} {Q : Option Value → PH → Prop} {X : String → PH → Prop}
    (K : ((hK h a0).1 = 4) ∧ ∃ (q1 : Int32 → PH → Prop), CI l x mX4_readNumber 2 0 0 [.ref a0, .int 0, .int 99] h q1 ∧ ∀ (r5 : Int32) (h4 : PH), q1 r5 h4 → ((hK h4 a0).1 = 4) ∧ ∃ b7, (hR h4 a0 2 = some b7) ∧ ((hK h4 b7).1 = 1) ∧ ((r5 < (hI h4 b7 0) → Q (some (.int r5)) h4) ∧ (¬ r5 < (hI h4 b7 0) → ∃ (q11 : PH → Prop), CV l x mX4_fail 0 0 0 [.ref a0, .int 3] h4 q11 ∧ ∀ (h13 : PH), q11 h13 → Q (some (.int r5)) h13))) :
    Gm l x mX4_readFloor 3 0 [(0, .ref a0)] [] h rc rs n0 Q X := by
  refine g_aload_n dX4_readFloor_0 rfl 0 rfl ?_
  refine g_iconst (v := 0) dX4_readFloor_1 (by decide) ?_
  refine g_bipush (v := 99) dX4_readFloor_2 (by decide) ?_
  obtain ⟨e3, K⟩ := K
  obtain ⟨q1, C2, K⟩ := K
  refine g_callV (M' := mX4_readNumber) (b := a0) (As := [.int 0, .int 99]) (rest := []) (rc' := rc) (rs' := rs) dX4_readFloor_4 bw_842 bw_844 bs_26 bw_2 bw_845 ⟨by decide +kernel, by decide +kernel, show (parseMethodDescriptor mX4_readNumber.1.desc).map (fun d => d.parameters.length) = some 2 by decide +kernel⟩ (by decide) (by decide) (Nat.le_of_ble_eq_true rfl) fc_4 (by decide) rfl e3 C2 (Nat.le_of_eq (Nat.add_zero _)) (Nat.le_of_eq (Nat.add_zero _)) (fun _ _ h => h) ?_
  rintro _ h4 ⟨r5, rfl, K1⟩ -
  replace K := K r5 h4 K1
  show Gm l x mX4_readFloor 3 7 [(0, .ref a0)] [.int r5] h4 rc rs n0 Q X
  refine g_istore_n (lv' := [(0, .ref a0), (1, .int r5)]) dX4_readFloor_7 rfl (by decide) rfl ?_
  refine g_iload_n dX4_readFloor_8 rfl 1 rfl ?_
  refine g_aload_n dX4_readFloor_9 rfl 0 rfl ?_
  obtain ⟨e6, b7, e8, K⟩ := K
  refine g_get (c := 4) (k := 2) (v := .ref b7) dX4_readFloor_10 fc_4 (by decide) (by decide) bw_267 (congrArg pr e8) e6 ?_
  obtain ⟨e9, K⟩ := K
  refine g_get (c := 1) (k := 0) (v := .int (hI h4 b7 0)) dX4_readFloor_13 fc_1 (by decide) (by decide) bw_187 rfl e9 ?_
  refine g_icmp_lt (tgt := 24) dX4_readFloor_16 (by decide) (fun c10 => ?_) (fun c10 => ?_)
  · replace K := K.1 c10
    refine g_iload_n dX4_readFloor_24 rfl 1 rfl ?_
    exact g_iret dX4_readFloor_25 rfl K
  · replace K := K.2 c10
    refine g_aload_n dX4_readFloor_19 rfl 0 rfl ?_
    refine g_iconst (v := 3) dX4_readFloor_20 (by decide) ?_
    obtain ⟨q11, C12, K⟩ := K
    refine g_callV (M' := mX4_fail) (b := a0) (As := [.int 3]) (rest := []) (rc' := rc) (rs' := rs) dX4_readFloor_21 bw_838 bw_840 bs_25 bw_2 bw_841 ⟨by decide +kernel, by decide +kernel, show (parseMethodDescriptor mX4_fail.1.desc).map (fun d => d.parameters.length) = some 1 by decide +kernel⟩ (by decide) (by decide) (Nat.le_of_ble_eq_true rfl) fc_4 (by decide) rfl e6 C12 (Nat.le_of_eq (Nat.add_zero _)) (Nat.le_of_eq (Nat.add_zero _)) (fun _ _ h => h) ?_
    rintro _ h13 ⟨rfl, K1⟩ -
    replace K := K h13 K1
    show Gm l x mX4_readFloor 3 24 [(0, .ref a0), (1, .int r5)] [] h13 rc rs n0 Q X
    refine g_iload_n dX4_readFloor_24 rfl 1 rfl ?_
    exact g_iret dX4_readFloor_25 rfl K
theorem dX4_isWord_0 : decode cX4_isWord 0 = .ok (.aload_n 0, 1) := by decide +kernel
theorem dX4_isWord_1 : decode cX4_isWord 1 = .ok (.getfield 32, 3) := by decide +kernel
theorem dX4_isWord_4 : decode cX4_isWord 4 = .ok (.iconst 1, 1) := by decide +kernel
theorem dX4_isWord_5 : decode cX4_isWord 5 = .ok (.if_icmp .ne 19, 3) := by decide +kernel
theorem dX4_isWord_8 : decode cX4_isWord 8 = .ok (.aload_n 0, 1) := by decide +kernel
theorem dX4_isWord_9 : decode cX4_isWord 9 = .ok (.getfield 29, 3) := by decide +kernel
theorem dX4_isWord_12 : decode cX4_isWord 12 = .ok (.aload_n 0, 1) := by decide +kernel
theorem dX4_isWord_13 : decode cX4_isWord 13 = .ok (.getfield 35, 3) := by decide +kernel
theorem dX4_isWord_16 : decode cX4_isWord 16 = .ok (.isub, 1) := by decide +kernel
theorem dX4_isWord_17 : decode cX4_isWord 17 = .ok (.aload_n 1, 1) := by decide +kernel
theorem dX4_isWord_18 : decode cX4_isWord 18 = .ok (.invokevirtual 79, 3) := by decide +kernel
theorem dX4_isWord_21 : decode cX4_isWord 21 = .ok (.if_icmp .eq 5, 3) := by decide +kernel
theorem dX4_isWord_24 : decode cX4_isWord 24 = .ok (.iconst 0, 1) := by decide +kernel
theorem dX4_isWord_25 : decode cX4_isWord 25 = .ok (.ireturn, 1) := by decide +kernel
theorem dX4_isWord_26 : decode cX4_isWord 26 = .ok (.iconst 0, 1) := by decide +kernel
theorem dX4_isWord_27 : decode cX4_isWord 27 = .ok (.istore_n 2, 1) := by decide +kernel
theorem dX4_isWord_28 : decode cX4_isWord 28 = .ok (.iload_n 2, 1) := by decide +kernel
theorem dX4_isWord_29 : decode cX4_isWord 29 = .ok (.aload_n 1, 1) := by decide +kernel
theorem dX4_isWord_30 : decode cX4_isWord 30 = .ok (.invokevirtual 79, 3) := by decide +kernel
theorem dX4_isWord_33 : decode cX4_isWord 33 = .ok (.if_icmp .ge 30, 3) := by decide +kernel
theorem dX4_isWord_36 : decode cX4_isWord 36 = .ok (.aload_n 0, 1) := by decide +kernel
theorem dX4_isWord_37 : decode cX4_isWord 37 = .ok (.getfield 9, 3) := by decide +kernel
theorem dX4_isWord_40 : decode cX4_isWord 40 = .ok (.aload_n 0, 1) := by decide +kernel
theorem dX4_isWord_41 : decode cX4_isWord 41 = .ok (.getfield 35, 3) := by decide +kernel
theorem dX4_isWord_44 : decode cX4_isWord 44 = .ok (.iload_n 2, 1) := by decide +kernel
theorem dX4_isWord_45 : decode cX4_isWord 45 = .ok (.iadd, 1) := by decide +kernel
theorem dX4_isWord_46 : decode cX4_isWord 46 = .ok (.caload, 1) := by decide +kernel
theorem dX4_isWord_47 : decode cX4_isWord 47 = .ok (.aload_n 1, 1) := by decide +kernel
theorem dX4_isWord_48 : decode cX4_isWord 48 = .ok (.iload_n 2, 1) := by decide +kernel
theorem dX4_isWord_49 : decode cX4_isWord 49 = .ok (.invokevirtual 84, 3) := by decide +kernel
theorem dX4_isWord_52 : decode cX4_isWord 52 = .ok (.if_icmp .eq 5, 3) := by decide +kernel
theorem dX4_isWord_55 : decode cX4_isWord 55 = .ok (.iconst 0, 1) := by decide +kernel
theorem dX4_isWord_56 : decode cX4_isWord 56 = .ok (.ireturn, 1) := by decide +kernel
theorem dX4_isWord_57 : decode cX4_isWord 57 = .ok (.iinc 2 1, 3) := by decide +kernel
theorem dX4_isWord_60 : decode cX4_isWord 60 = .ok (.goto (-32), 3) := by decide +kernel
theorem dX4_isWord_63 : decode cX4_isWord 63 = .ok (.iconst 1, 1) := by decide +kernel
theorem dX4_isWord_64 : decode cX4_isWord 64 = .ok (.ireturn, 1) := by decide +kernel
set_option maxRecDepth 20000 in
set_option maxHeartbeats 4000000 in
theorem vX4_isWord_0 {l : Launch} {x : CX} {a0 : Nat} {t1 : Nat} {h : PH} {rc rs n0 : Nat} {Q : Option Value → PH → Prop} {X : String → PH → Prop}
    (K : ((hK h a0).1 = 4) ∧ ((¬ (hI h a0 5) = 1 → ((0 : Int32) = 0 ∨ (0 : Int32) = 1) ∧ Q (some (.int 0)) h) ∧ ((hI h a0 5) = 1 → ∃ r3 : Int32, (StepT l x mX4_isWord 6 18 [.retAddr t1, .int ((hI h a0 4) - (hI h a0 6))] [.int r3, .int ((hI h a0 4) - (hI h a0 6))]) ∧ ((((hI h a0 4) - (hI h a0 6)) = r3 → Gm l x mX4_isWord 6 28 [(0, .ref a0), (1, .retAddr t1), (2, .int 0)] [] h rc rs n0 Q X) ∧ (¬ ((hI h a0 4) - (hI h a0 6)) = r3 → ((0 : Int32) = 0 ∨ (0 : Int32) = 1) ∧ Q (some (.int 0)) h))))) :
    Gm l x mX4_isWord 6 0 [(0, .ref a0), (1, .retAddr t1)] [] h rc rs n0 Q X := by
  refine g_aload_n dX4_isWord_0 rfl 0 rfl ?_
  obtain ⟨e1, K⟩ := K
  refine g_get (c := 4) (k := 5) (v := .int (hI h a0 5)) dX4_isWord_1 fc_4 (by decide) (by decide) bw_271 rfl e1 ?_
  refine g_iconst (v := 1) dX4_isWord_4 (by decide) ?_
  refine g_icmp_ne (tgt := 24) dX4_isWord_5 (by decide) (fun c2 => ?_) (fun c2 => ?_)
  · replace K := K.1 c2
    refine g_iconst (v := 0) dX4_isWord_24 (by decide) ?_
    exact g_zret dX4_isWord_25 rfl K.1 K.2
  · replace K := K.2 c2
    refine g_aload_n dX4_isWord_8 rfl 0 rfl ?_
    refine g_get (c := 4) (k := 4) (v := .int (hI h a0 4)) dX4_isWord_9 fc_4 (by decide) (by decide) bw_270 rfl e1 ?_
    refine g_aload_n dX4_isWord_12 rfl 0 rfl ?_
    refine g_get (c := 4) (k := 6) (v := .int (hI h a0 6)) dX4_isWord_13 fc_4 (by decide) (by decide) bw_272 rfl e1 ?_
    refine g_isub dX4_isWord_16 ?_
    refine g_aload_nT dX4_isWord_17 rfl 1 rfl ?_
    obtain ⟨r3, z4, K⟩ := K
    refine z4 _ _ _ _ _ _ _ ?_
    refine g_icmp_eq (tgt := 26) dX4_isWord_21 (by decide) (fun c5 => ?_) (fun c5 => ?_)
    · replace K := K.1 c5
      refine g_iconst (v := 0) dX4_isWord_26 (by decide) ?_
      refine g_istore_n (lv' := [(0, .ref a0), (1, .retAddr t1), (2, .int 0)]) dX4_isWord_27 rfl (by decide) rfl ?_
      exact K
    · replace K := K.2 c5
      refine g_iconst (v := 0) dX4_isWord_24 (by decide) ?_
      exact g_zret dX4_isWord_25 rfl K.1 K.2
set_option maxRecDepth 20000 in
set_option maxHeartbeats 4000000 in
theorem vX4_isWord_28 {l : Launch} {x : CX} {a0 : Nat} {t1 : Nat} {x2 : Int32} {h : PH} {rc rs n0 : Nat} {Q : Option Value → PH → Prop} {X : String → PH → Prop}
    (K : ∃ r1 : Int32, (StepT l x mX4_isWord 6 30 [.retAddr t1, .int x2] [.int r1, .int x2]) ∧ ((r1 ≤ x2 → ((1 : Int32) = 0 ∨ (1 : Int32) = 1) ∧ Q (some (.int 1)) h) ∧ (¬ r1 ≤ x2 → ((hK h a0).1 = 4) ∧ ∃ b5, (hR h a0 0 = some b5) ∧ ((hK h b5).1 = 101) ∧ (vp_in ((hI h a0 6) + x2) (hK h b5).2) ∧ ∃ r9 : Int32, (StepT l x mX4_isWord 6 49 [.int x2, .retAddr t1, .int (hI h b5 ((hI h a0 6) + x2).toNatClampNeg)] [.int r9, .int (hI h b5 ((hI h a0 6) + x2).toNatClampNeg)]) ∧ (((hI h b5 ((hI h a0 6) + x2).toNatClampNeg) = r9 → Gm l x mX4_isWord 6 28 [(0, .ref a0), (1, .retAddr t1), (2, .int (x2 + 1))] [] h rc rs n0 Q X) ∧ (¬ (hI h b5 ((hI h a0 6) + x2).toNatClampNeg) = r9 → ((0 : Int32) = 0 ∨ (0 : Int32) = 1) ∧ Q (some (.int 0)) h))))) :
    Gm l x mX4_isWord 6 28 [(0, .ref a0), (1, .retAddr t1), (2, .int x2)] [] h rc rs n0 Q X := by
  refine g_iload_n dX4_isWord_28 rfl 2 rfl ?_
  refine g_aload_nT dX4_isWord_29 rfl 1 rfl ?_
  obtain ⟨r1, z2, K⟩ := K
  refine z2 _ _ _ _ _ _ _ ?_
  refine g_icmp_ge (tgt := 63) dX4_isWord_33 (by decide) (fun c3 => ?_) (fun c3 => ?_)
  · replace K := K.1 c3
    refine g_iconst (v := 1) dX4_isWord_63 (by decide) ?_
    exact g_zret dX4_isWord_64 rfl K.1 K.2
  · replace K := K.2 c3
    refine g_aload_n dX4_isWord_36 rfl 0 rfl ?_
    obtain ⟨e4, b5, e6, K⟩ := K
    refine g_get (c := 4) (k := 0) (v := .ref b5) dX4_isWord_37 fc_4 (by decide) (by decide) bw_264 (congrArg pr e6) e4 ?_
    refine g_aload_n dX4_isWord_40 rfl 0 rfl ?_
    refine g_get (c := 4) (k := 6) (v := .int (hI h a0 6)) dX4_isWord_41 fc_4 (by decide) (by decide) bw_272 rfl e4 ?_
    refine g_iload_n dX4_isWord_44 rfl 2 rfl ?_
    refine g_iadd dX4_isWord_45 ?_
    obtain ⟨e7, e8, K⟩ := K
    refine g_cald dX4_isWord_46 e7 e8 ?_
    refine g_aload_nT dX4_isWord_47 rfl 1 rfl ?_
    refine g_iload_n dX4_isWord_48 rfl 2 rfl ?_
    obtain ⟨r9, z10, K⟩ := K
    refine z10 _ _ _ _ _ _ _ ?_
    refine g_icmp_eq (tgt := 57) dX4_isWord_52 (by decide) (fun c11 => ?_) (fun c11 => ?_)
    · replace K := K.1 c11
      refine g_iinc (v := (x2 + 1)) (lv' := [(0, .ref a0), (1, .retAddr t1), (2, .int (x2 + 1))]) dX4_isWord_57 2 rfl (by rfl) (by decide) rfl ?_
      refine g_goto (tgt := 28) dX4_isWord_60 (by decide) ?_
      exact K
    · replace K := K.2 c11
      refine g_iconst (v := 0) dX4_isWord_55 (by decide) ?_
      exact g_zret dX4_isWord_56 rfl K.1 K.2
theorem dX4_readCar_0 : decode cX4_readCar 0 = .ok (.aload_n 0, 1) := by decide +kernel
theorem dX4_readCar_1 : decode cX4_readCar 1 = .ok (.getfield 22, 3) := by decide +kernel
theorem dX4_readCar_4 : decode cX4_readCar 4 = .ok (.getfield 132, 3) := by decide +kernel
theorem dX4_readCar_7 : decode cX4_readCar 7 = .ok (.iconst 4, 1) := by decide +kernel
theorem dX4_readCar_8 : decode cX4_readCar 8 = .ok (.if_icmp .lt 8, 3) := by decide +kernel
theorem dX4_readCar_11 : decode cX4_readCar 11 = .ok (.aload_n 0, 1) := by decide +kernel
theorem dX4_readCar_12 : decode cX4_readCar 12 = .ok (.iconst 2, 1) := by decide +kernel
theorem dX4_readCar_13 : decode cX4_readCar 13 = .ok (.invokevirtual 68, 3) := by decide +kernel
theorem dX4_readCar_16 : decode cX4_readCar 16 = .ok (.aload_n 0, 1) := by decide +kernel
theorem dX4_readCar_17 : decode cX4_readCar 17 = .ok (.invokevirtual 135, 3) := by decide +kernel
theorem dX4_readCar_20 : decode cX4_readCar 20 = .ok (.istore_n 1, 1) := by decide +kernel
theorem dX4_readCar_21 : decode cX4_readCar 21 = .ok (.aload_n 0, 1) := by decide +kernel
theorem dX4_readCar_22 : decode cX4_readCar 22 = .ok (.iconst 1, 1) := by decide +kernel
theorem dX4_readCar_23 : decode cX4_readCar 23 = .ok (.bipush 6, 2) := by decide +kernel
theorem dX4_readCar_25 : decode cX4_readCar 25 = .ok (.invokevirtual 127, 3) := by decide +kernel
theorem dX4_readCar_28 : decode cX4_readCar 28 = .ok (.istore_n 2, 1) := by decide +kernel
theorem dX4_readCar_29 : decode cX4_readCar 29 = .ok (.aload_n 0, 1) := by decide +kernel
theorem dX4_readCar_30 : decode cX4_readCar 30 = .ok (.invokevirtual 62, 3) := by decide +kernel
theorem dX4_readCar_33 : decode cX4_readCar 33 = .ok (.aload_n 0, 1) := by decide +kernel
theorem dX4_readCar_34 : decode cX4_readCar 34 = .ok (.ldc 138, 2) := by decide +kernel
theorem dX4_readCar_36 : decode cX4_readCar 36 = .ok (.invokevirtual 90, 3) := by decide +kernel
theorem dX4_readCar_39 : decode cX4_readCar 39 = .ok (.ifCond .eq 7, 3) := by decide +kernel
theorem dX4_readCar_42 : decode cX4_readCar 42 = .ok (.iconst 1, 1) := by decide +kernel
theorem dX4_readCar_43 : decode cX4_readCar 43 = .ok (.goto 17, 3) := by decide +kernel
theorem dX4_readCar_46 : decode cX4_readCar 46 = .ok (.aload_n 0, 1) := by decide +kernel
theorem dX4_readCar_47 : decode cX4_readCar 47 = .ok (.ldc 140, 2) := by decide +kernel
theorem dX4_readCar_49 : decode cX4_readCar 49 = .ok (.invokevirtual 90, 3) := by decide +kernel
theorem dX4_readCar_52 : decode cX4_readCar 52 = .ok (.ifCond .eq 7, 3) := by decide +kernel
theorem dX4_readCar_55 : decode cX4_readCar 55 = .ok (.iconst 2, 1) := by decide +kernel
theorem dX4_readCar_56 : decode cX4_readCar 56 = .ok (.goto 4, 3) := by decide +kernel
theorem dX4_readCar_59 : decode cX4_readCar 59 = .ok (.iconst 0, 1) := by decide +kernel
theorem dX4_readCar_60 : decode cX4_readCar 60 = .ok (.istore_n 3, 1) := by decide +kernel
theorem dX4_readCar_61 : decode cX4_readCar 61 = .ok (.iload_n 3, 1) := by decide +kernel
theorem dX4_readCar_62 : decode cX4_readCar 62 = .ok (.ifCond .eq 7, 3) := by decide +kernel
theorem dX4_readCar_65 : decode cX4_readCar 65 = .ok (.aload_n 0, 1) := by decide +kernel
theorem dX4_readCar_66 : decode cX4_readCar 66 = .ok (.invokevirtual 62, 3) := by decide +kernel
theorem dX4_readCar_69 : decode cX4_readCar 69 = .ok (.aload_n 0, 1) := by decide +kernel
theorem dX4_readCar_70 : decode cX4_readCar 70 = .ok (.getfield 22, 3) := by decide +kernel
theorem dX4_readCar_73 : decode cX4_readCar 73 = .ok (.iload_n 1, 1) := by decide +kernel
theorem dX4_readCar_74 : decode cX4_readCar 74 = .ok (.iload_n 2, 1) := by decide +kernel
theorem dX4_readCar_75 : decode cX4_readCar 75 = .ok (.iload_n 3, 1) := by decide +kernel
theorem dX4_readCar_76 : decode cX4_readCar 76 = .ok (.invokevirtual 142, 3) := by decide +kernel
theorem dX4_readCar_79 : decode cX4_readCar 79 = .ok (.return_, 1) := by decide +kernel
set_option maxRecDepth 20000 in
set_option maxHeartbeats 4000000 in
theorem vX4_readCar_0 {l : Launch} {x : CX} {a0 : Nat} {h : PH} {rc rs n0 : Nat} {Q : Option Value → PH → Prop} {X : String → PH → Prop}
    (K : ((hK h a0).1 = 4) ∧ ∃ b2, (hR h a0 2 = some b2) ∧ ((hK h b2).1 = 1) ∧ (((hI h b2 1) < 4 → ∃ (q6 : Int32 → PH → Prop), CI l x mX4_readFloor 3 0 0 [.ref a0] h q6 ∧ ∀ (r9 : Int32) (h8 : PH), q6 r9 h8 → ((hK h8 a0).1 = 4) ∧ ∃ (q10 : Int32 → PH → Prop), CI l x mX4_readNumber 2 0 0 [.ref a0, .int 1, .int 6] h8 q10 ∧ ∀ (r14 : Int32) (h13 : PH), q10 r14 h13 → ((hK h13 a0).1 = 4) ∧ ∃ (q15 : PH → Prop), CV l x mX4_next 1 0 0 [.ref a0] h13 q15 ∧ ∀ (h18 : PH), q15 h18 → (TxtOk x RX4 138 "persons" 7) ∧ ((hK h18 a0).1 = 4) ∧ ∃ (q20 : Int32 → PH → Prop), CI l x mX4_isWord 6 0 0 [.ref a0, .retAddr 7] h18 q20 ∧ ∀ (r24 : Int32) (h23 : PH), q20 r24 h23 → ((r24 = 0 → (TxtOk x RX4 140 "parcels" 8) ∧ ((hK h23 a0).1 = 4) ∧ ∃ (q27 : Int32 → PH → Prop), CI l x mX4_isWord 6 0 0 [.ref a0, .retAddr 8] h23 q27 ∧ ∀ (r31 : Int32) (h30 : PH), q27 r31 h30 → (((if r31 = 0 then 0 else 2 : Int32) = 0 → ((hK h30 a0).1 = 4) ∧ ∃ b35, (hR h30 a0 2 = some b35) ∧ ((hK h30 b35).1 = 1) ∧ ∃ (q37 : PH → Prop), CV l x mX1_addCar 2 0 0 [.ref b35, .int r9, .int r14, .int (if r31 = 0 then 0 else 2 : Int32)] h30 q37 ∧ ∀ (h40 : PH), q37 h40 → Q none h40) ∧ (¬ (if r31 = 0 then 0 else 2 : Int32) = 0 → ((hK h30 a0).1 = 4) ∧ ∃ (q41 : PH → Prop), CV l x mX4_next 1 0 0 [.ref a0] h30 q41 ∧ ∀ (h44 : PH), q41 h44 → ((hK h44 a0).1 = 4) ∧ ∃ b46, (hR h44 a0 2 = some b46) ∧ ((hK h44 b46).1 = 1) ∧ ∃ (q48 : PH → Prop), CV l x mX1_addCar 2 0 0 [.ref b46, .int r9, .int r14, .int (if r31 = 0 then 0 else 2 : Int32)] h44 q48 ∧ ∀ (h51 : PH), q48 h51 → Q none h51))) ∧ (¬ r24 = 0 → ((hK h23 a0).1 = 4) ∧ ∃ (q53 : PH → Prop), CV l x mX4_next 1 0 0 [.ref a0] h23 q53 ∧ ∀ (h56 : PH), q53 h56 → ((hK h56 a0).1 = 4) ∧ ∃ b58, (hR h56 a0 2 = some b58) ∧ ((hK h56 b58).1 = 1) ∧ ∃ (q60 : PH → Prop), CV l x mX1_addCar 2 0 0 [.ref b58, .int r9, .int r14, .int 1] h56 q60 ∧ ∀ (h63 : PH), q60 h63 → Q none h63))) ∧ (¬ (hI h b2 1) < 4 → ∃ (q64 : PH → Prop), CV l x mX4_fail 0 0 0 [.ref a0, .int 2] h q64 ∧ ∀ (h66 : PH), q64 h66 → ((hK h66 a0).1 = 4) ∧ ∃ (q67 : Int32 → PH → Prop), CI l x mX4_readFloor 3 0 0 [.ref a0] h66 q67 ∧ ∀ (r71 : Int32) (h70 : PH), q67 r71 h70 → ((hK h70 a0).1 = 4) ∧ ∃ (q72 : Int32 → PH → Prop), CI l x mX4_readNumber 2 0 0 [.ref a0, .int 1, .int 6] h70 q72 ∧ ∀ (r76 : Int32) (h75 : PH), q72 r76 h75 → ((hK h75 a0).1 = 4) ∧ ∃ (q77 : PH → Prop), CV l x mX4_next 1 0 0 [.ref a0] h75 q77 ∧ ∀ (h80 : PH), q77 h80 → (TxtOk x RX4 138 "persons" 7) ∧ ((hK h80 a0).1 = 4) ∧ ∃ (q82 : Int32 → PH → Prop), CI l x mX4_isWord 6 0 0 [.ref a0, .retAddr 7] h80 q82 ∧ ∀ (r86 : Int32) (h85 : PH), q82 r86 h85 → ((r86 = 0 → (TxtOk x RX4 140 "parcels" 8) ∧ ((hK h85 a0).1 = 4) ∧ ∃ (q89 : Int32 → PH → Prop), CI l x mX4_isWord 6 0 0 [.ref a0, .retAddr 8] h85 q89 ∧ ∀ (r93 : Int32) (h92 : PH), q89 r93 h92 → (((if r93 = 0 then 0 else 2 : Int32) = 0 → ((hK h92 a0).1 = 4) ∧ ∃ b97, (hR h92 a0 2 = some b97) ∧ ((hK h92 b97).1 = 1) ∧ ∃ (q99 : PH → Prop), CV l x mX1_addCar 2 0 0 [.ref b97, .int r71, .int r76, .int (if r93 = 0 then 0 else 2 : Int32)] h92 q99 ∧ ∀ (h102 : PH), q99 h102 → Q none h102) ∧ (¬ (if r93 = 0 then 0 else 2 : Int32) = 0 → ((hK h92 a0).1 = 4) ∧ ∃ (q103 : PH → Prop), CV l x mX4_next 1 0 0 [.ref a0] h92 q103 ∧ ∀ (h106 : PH), q103 h106 → ((hK h106 a0).1 = 4) ∧ ∃ b108, (hR h106 a0 2 = some b108) ∧ ((hK h106 b108).1 = 1) ∧ ∃ (q110 : PH → Prop), CV l x mX1_addCar 2 0 0 [.ref b108, .int r71, .int r76, .int (if r93 = 0 then 0 else 2 : Int32)] h106 q110 ∧ ∀ (h113 : PH), q110 h113 → Q none h113))) ∧ (¬ r86 = 0 → ((hK h85 a0).1 = 4) ∧ ∃ (q115 : PH → Prop), CV l x mX4_next 1 0 0 [.ref a0] h85 q115 ∧ ∀ (h118 : PH), q115 h118 → ((hK h118 a0).1 = 4) ∧ ∃ b120, (hR h118 a0 2 = some b120) ∧ ((hK h118 b120).1 = 1) ∧ ∃ (q122 : PH → Prop), CV l x mX1_addCar 2 0 0 [.ref b120, .int r71, .int r76, .int 1] h118 q122 ∧ ∀ (h125 : PH), q122 h125 → Q none h125))))) :
    Gm l x mX4_readCar 7 0 [(0, .ref a0)] [] h rc rs n0 Q X := by
  refine g_aload_n dX4_readCar_0 rfl 0 rfl ?_
  obtain ⟨e1, b2, e3, K⟩ := K
  refine g_get (c := 4) (k := 2) (v := .ref b2) dX4_readCar_1 fc_4 (by decide) (by decide) bw_267 (congrArg pr e3) e1 ?_
  obtain ⟨e4, K⟩ := K
  refine g_get (c := 1) (k := 1) (v := .int (hI h b2 1)) dX4_readCar_4 fc_1 (by decide) (by decide) bw_191 rfl e4 ?_
  refine g_iconst (v := 4) dX4_readCar_7 (by decide) ?_
  refine g_icmp_lt (tgt := 16) dX4_readCar_8 (by decide) (fun c5 => ?_) (fun c5 => ?_)
  · replace K := K.1 c5
    refine g_aload_n dX4_readCar_16 rfl 0 rfl ?_
    obtain ⟨q6, C7, K⟩ := K
    refine g_callV (M' := mX4_readFloor) (b := a0) (As := []) (rest := []) (rc' := rc) (rs' := rs) dX4_readCar_17 bw_851 bw_853 bs_28 bw_2 bw_854 ⟨by decide +kernel, by decide +kernel, show (parseMethodDescriptor mX4_readFloor.1.desc).map (fun d => d.parameters.length) = some 0 by decide +kernel⟩ (by decide) (by decide) (Nat.le_of_ble_eq_true rfl) fc_4 (by decide) rfl e1 C7 (Nat.le_of_eq (Nat.add_zero _)) (Nat.le_of_eq (Nat.add_zero _)) (fun _ _ h => h) ?_
    rintro _ h8 ⟨r9, rfl, K1⟩ -
    replace K := K r9 h8 K1
    show Gm l x mX4_readCar 7 20 [(0, .ref a0)] [.int r9] h8 rc rs n0 Q X
    refine g_istore_n (lv' := [(0, .ref a0), (1, .int r9)]) dX4_readCar_20 rfl (by decide) rfl ?_
    refine g_aload_n dX4_readCar_21 rfl 0 rfl ?_
    refine g_iconst (v := 1) dX4_readCar_22 (by decide) ?_
    refine g_bipush (v := 6) dX4_readCar_23 (by decide) ?_
    obtain ⟨e12, K⟩ := K
    obtain ⟨q10, C11, K⟩ := K
    refine g_callV (M' := mX4_readNumber) (b := a0) (As := [.int 1, .int 6]) (rest := []) (rc' := rc) (rs' := rs) dX4_readCar_25 bw_842 bw_844 bs_26 bw_2 bw_845 ⟨by decide +kernel, by decide +kernel, show (parseMethodDescriptor mX4_readNumber.1.desc).map (fun d => d.parameters.length) = some 2 by decide +kernel⟩ (by decide) (by decide) (Nat.le_of_ble_eq_true rfl) fc_4 (by decide) rfl e12 C11 (Nat.le_of_eq (Nat.add_zero _)) (Nat.le_of_eq (Nat.add_zero _)) (fun _ _ h => h) ?_
    rintro _ h13 ⟨r14, rfl, K1⟩ -
    replace K := K r14 h13 K1
    show Gm l x mX4_readCar 7 28 [(0, .ref a0), (1, .int r9)] [.int r14] h13 rc rs n0 Q X
    refine g_istore_n (lv' := [(0, .ref a0), (1, .int r9), (2, .int r14)]) dX4_readCar_28 rfl (by decide) rfl ?_
    refine g_aload_n dX4_readCar_29 rfl 0 rfl ?_
    obtain ⟨e17, K⟩ := K
    obtain ⟨q15, C16, K⟩ := K
    refine g_callV (M' := mX4_next) (b := a0) (As := []) (rest := []) (rc' := rc) (rs' := rs) dX4_readCar_30 bw_767 bw_769 bs_21 bw_2 bw_770 ⟨by decide +kernel, by decide +kernel, show (parseMethodDescriptor mX4_next.1.desc).map (fun d => d.parameters.length) = some 0 by decide +kernel⟩ (by decide) (by decide) (Nat.le_of_ble_eq_true rfl) fc_4 (by decide) rfl e17 C16 (Nat.le_of_eq (Nat.add_zero _)) (Nat.le_of_eq (Nat.add_zero _)) (fun _ _ h => h) ?_
    rintro _ h18 ⟨rfl, K1⟩ -
    replace K := K h18 K1
    show Gm l x mX4_readCar 7 33 [(0, .ref a0), (1, .int r9), (2, .int r14)] [] h18 rc rs n0 Q X
    refine g_aload_n dX4_readCar_33 rfl 0 rfl ?_
    obtain ⟨z19, K⟩ := K
    refine g_ldcS (j := 7) dX4_readCar_34 z19 ?_
    obtain ⟨e22, K⟩ := K
    obtain ⟨q20, C21, K⟩ := K
    refine g_callV (M' := mX4_isWord) (b := a0) (As := [.retAddr 7]) (rest := []) (rc' := rc) (rs' := rs) dX4_readCar_36 bw_782 bw_784 bs_23 bw_2 bw_785 ⟨by decide +kernel, by decide +kernel, show (parseMethodDescriptor mX4_isWord.1.desc).map (fun d => d.parameters.length) = some 1 by decide +kernel⟩ (by decide) (by decide) (Nat.le_of_ble_eq_true rfl) fc_4 (by decide) rfl e22 C21 (Nat.le_of_eq (Nat.add_zero _)) (Nat.le_of_eq (Nat.add_zero _)) (fun _ _ h => h) ?_
    rintro _ h23 ⟨r24, rfl, K1⟩ -
    replace K := K r24 h23 K1
    show Gm l x mX4_readCar 7 39 [(0, .ref a0), (1, .int r9), (2, .int r14)] [.int r24] h23 rc rs n0 Q X
    refine g_if_eq (tgt := 46) dX4_readCar_39 (by decide) (fun c25 => ?_) (fun c25 => ?_)
    · replace K := K.1 c25
      refine g_aload_n dX4_readCar_46 rfl 0 rfl ?_
      obtain ⟨z26, K⟩ := K
      refine g_ldcS (j := 8) dX4_readCar_47 z26 ?_
      obtain ⟨e29, K⟩ := K
      obtain ⟨q27, C28, K⟩ := K
      refine g_callV (M' := mX4_isWord) (b := a0) (As := [.retAddr 8]) (rest := []) (rc' := rc) (rs' := rs) dX4_readCar_49 bw_782 bw_784 bs_23 bw_2 bw_785 ⟨by decide +kernel, by decide +kernel, show (parseMethodDescriptor mX4_isWord.1.desc).map (fun d => d.parameters.length) = some 1 by decide +kernel⟩ (by decide) (by decide) (Nat.le_of_ble_eq_true rfl) fc_4 (by decide) rfl e29 C28 (Nat.le_of_eq (Nat.add_zero _)) (Nat.le_of_eq (Nat.add_zero _)) (fun _ _ h => h) ?_
      rintro _ h30 ⟨r31, rfl, K1⟩ -
      replace K := K r31 h30 K1
      show Gm l x mX4_readCar 7 52 [(0, .ref a0), (1, .int r9), (2, .int r14)] [.int r31] h30 rc rs n0 Q X
      have KJ : Gm l x mX4_readCar 7 60 [(0, .ref a0), (1, .int r9), (2, .int r14)] [.int (if r31 = 0 then 0 else 2 : Int32)] h30 rc rs n0 Q X := by
        refine g_istore_n (lv' := [(0, .ref a0), (1, .int r9), (2, .int r14), (3, .int (if r31 = 0 then 0 else 2 : Int32))]) dX4_readCar_60 rfl (by decide) rfl ?_
        refine g_iload_n dX4_readCar_61 rfl 3 rfl ?_
        refine g_if_eq (tgt := 69) dX4_readCar_62 (by decide) (fun c33 => ?_) (fun c33 => ?_)
        · replace K := K.1 c33
          refine g_aload_n dX4_readCar_69 rfl 0 rfl ?_
          obtain ⟨e34, b35, e36, K⟩ := K
          refine g_get (c := 4) (k := 2) (v := .ref b35) dX4_readCar_70 fc_4 (by decide) (by decide) bw_267 (congrArg pr e36) e34 ?_
          refine g_iload_n dX4_readCar_73 rfl 1 rfl ?_
          refine g_iload_n dX4_readCar_74 rfl 2 rfl ?_
          refine g_iload_n dX4_readCar_75 rfl 3 rfl ?_
          obtain ⟨e39, K⟩ := K
          obtain ⟨q37, C38, K⟩ := K
          refine g_callV (M' := mX1_addCar) (b := b35) (As := [.int r9, .int r14, .int (if r31 = 0 then 0 else 2 : Int32)]) (rest := []) (rc' := rc) (rs' := rs) dX4_readCar_76 bw_857 bw_858 bw_859 bw_3 bw_860 ⟨by decide +kernel, by decide +kernel, show (parseMethodDescriptor mX1_addCar.1.desc).map (fun d => d.parameters.length) = some 3 by decide +kernel⟩ (by decide) (by decide) (Nat.le_of_ble_eq_true rfl) fc_1 (by decide) rfl e39 C38 (Nat.le_of_eq (Nat.add_zero _)) (Nat.le_of_eq (Nat.add_zero _)) (fun _ _ h => h) ?_
          rintro _ h40 ⟨rfl, K1⟩ -
          replace K := K h40 K1
          show Gm l x mX4_readCar 7 79 [(0, .ref a0), (1, .int r9), (2, .int r14), (3, .int (if r31 = 0 then 0 else 2 : Int32))] [] h40 rc rs n0 Q X
          exact g_vret dX4_readCar_79 rfl K
        · replace K := K.2 c33
          refine g_aload_n dX4_readCar_65 rfl 0 rfl ?_
          obtain ⟨e43, K⟩ := K
          obtain ⟨q41, C42, K⟩ := K
          refine g_callV (M' := mX4_next) (b := a0) (As := []) (rest := []) (rc' := rc) (rs' := rs) dX4_readCar_66 bw_767 bw_769 bs_21 bw_2 bw_770 ⟨by decide +kernel, by decide +kernel, show (parseMethodDescriptor mX4_next.1.desc).map (fun d => d.parameters.length) = some 0 by decide +kernel⟩ (by decide) (by decide) (Nat.le_of_ble_eq_true rfl) fc_4 (by decide) rfl e43 C42 (Nat.le_of_eq (Nat.add_zero _)) (Nat.le_of_eq (Nat.add_zero _)) (fun _ _ h => h) ?_
          rintro _ h44 ⟨rfl, K1⟩ -
          replace K := K h44 K1
          show Gm l x mX4_readCar 7 69 [(0, .ref a0), (1, .int r9), (2, .int r14), (3, .int (if r31 = 0 then 0 else 2 : Int32))] [] h44 rc rs n0 Q X
          refine g_aload_n dX4_readCar_69 rfl 0 rfl ?_
          obtain ⟨e45, b46, e47, K⟩ := K
          refine g_get (c := 4) (k := 2) (v := .ref b46) dX4_readCar_70 fc_4 (by decide) (by decide) bw_267 (congrArg pr e47) e45 ?_
          refine g_iload_n dX4_readCar_73 rfl 1 rfl ?_
          refine g_iload_n dX4_readCar_74 rfl 2 rfl ?_
          refine g_iload_n dX4_readCar_75 rfl 3 rfl ?_
          obtain ⟨e50, K⟩ := K
          obtain ⟨q48, C49, K⟩ := K
          refine g_callV (M' := mX1_addCar) (b := b46) (As := [.int r9, .int r14, .int (if r31 = 0 then 0 else 2 : Int32)]) (rest := []) (rc' := rc) (rs' := rs) dX4_readCar_76 bw_857 bw_858 bw_859 bw_3 bw_860 ⟨by decide +kernel, by decide +kernel, show (parseMethodDescriptor mX1_addCar.1.desc).map (fun d => d.parameters.length) = some 3 by decide +kernel⟩ (by decide) (by decide) (Nat.le_of_ble_eq_true rfl) fc_1 (by decide) rfl e50 C49 (Nat.le_of_eq (Nat.add_zero _)) (Nat.le_of_eq (Nat.add_zero _)) (fun _ _ h => h) ?_
          rintro _ h51 ⟨rfl, K1⟩ -
          replace K := K h51 K1
          show Gm l x mX4_readCar 7 79 [(0, .ref a0), (1, .int r9), (2, .int r14), (3, .int (if r31 = 0 then 0 else 2 : Int32))] [] h51 rc rs n0 Q X
          exact g_vret dX4_readCar_79 rfl K
      refine g_if_eq (tgt := 59) dX4_readCar_52 (by decide) (fun c32 => ?_) (fun c32 => ?_)
      · refine g_iconst (v := 0) dX4_readCar_59 (by decide) ?_
        first | (simp only [if_pos c32] at KJ; exact KJ) | (simp only [if_pos c32, ite_true, ite_false, eq_self] at KJ; exact KJ) | (simp only [if_pos c32] at KJ ⊢; exact KJ) | exact KJ
      · refine g_iconst (v := 2) dX4_readCar_55 (by decide) ?_
        refine g_goto (tgt := 60) dX4_readCar_56 (by decide) ?_
        first | (simp only [if_neg c32] at KJ; exact KJ) | (simp only [if_neg c32, ite_true, ite_false, eq_self] at KJ; exact KJ) | (simp only [if_neg c32] at KJ ⊢; exact KJ) | exact KJ
    · replace K := K.2 c25
      refine g_iconst (v := 1) dX4_readCar_42 (by decide) ?_
      refine g_goto (tgt := 60) dX4_readCar_43 (by decide) ?_
      refine g_istore_n (lv' := [(0, .ref a0), (1, .int r9), (2, .int r14), (3, .int 1)]) dX4_readCar_60 rfl (by decide) rfl ?_
      refine g_iload_n dX4_readCar_61 rfl 3 rfl ?_
      refine g_if_eq (tgt := 69) dX4_readCar_62 (by decide) (fun c52 => ?_) (fun c52 => ?_)
      · exact absurd c52 (by decide)
      · refine g_aload_n dX4_readCar_65 rfl 0 rfl ?_
        obtain ⟨e55, K⟩ := K
        obtain ⟨q53, C54, K⟩ := K
        refine g_callV (M' := mX4_next) (b := a0) (As := []) (rest := []) (rc' := rc) (rs' := rs) dX4_readCar_66 bw_767 bw_769 bs_21 bw_2 bw_770 ⟨by decide +kernel, by decide +kernel, show (parseMethodDescriptor mX4_next.1.desc).map (fun d => d.parameters.length) = some 0 by decide +kernel⟩ (by decide) (by decide) (Nat.le_of_ble_eq_true rfl) fc_4 (by decide) rfl e55 C54 (Nat.le_of_eq (Nat.add_zero _)) (Nat.le_of_eq (Nat.add_zero _)) (fun _ _ h => h) ?_
        rintro _ h56 ⟨rfl, K1⟩ -
        replace K := K h56 K1
        show Gm l x mX4_readCar 7 69 [(0, .ref a0), (1, .int r9), (2, .int r14), (3, .int 1)] [] h56 rc rs n0 Q X
        refine g_aload_n dX4_readCar_69 rfl 0 rfl ?_
        obtain ⟨e57, b58, e59, K⟩ := K
        refine g_get (c := 4) (k := 2) (v := .ref b58) dX4_readCar_70 fc_4 (by decide) (by decide) bw_267 (congrArg pr e59) e57 ?_
        refine g_iload_n dX4_readCar_73 rfl 1 rfl ?_
        refine g_iload_n dX4_readCar_74 rfl 2 rfl ?_
        refine g_iload_n dX4_readCar_75 rfl 3 rfl ?_
        obtain ⟨e62, K⟩ := K
        obtain ⟨q60, C61, K⟩ := K
        refine g_callV (M' := mX1_addCar) (b := b58) (As := [.int r9, .int r14, .int 1]) (rest := []) (rc' := rc) (rs' := rs) dX4_readCar_76 bw_857 bw_858 bw_859 bw_3 bw_860 ⟨by decide +kernel, by decide +kernel, show (parseMethodDescriptor mX1_addCar.1.desc).map (fun d => d.parameters.length) = some 3 by decide +kernel⟩ (by decide) (by decide) (Nat.le_of_ble_eq_true rfl) fc_1 (by decide) rfl e62 C61 (Nat.le_of_eq (Nat.add_zero _)) (Nat.le_of_eq (Nat.add_zero _)) (fun _ _ h => h) ?_
        rintro _ h63 ⟨rfl, K1⟩ -
        replace K := K h63 K1
        show Gm l x mX4_readCar 7 79 [(0, .ref a0), (1, .int r9), (2, .int r14), (3, .int 1)] [] h63 rc rs n0 Q X
        exact g_vret dX4_readCar_79 rfl K
  · replace K := K.2 c5
    refine g_aload_n dX4_readCar_11 rfl 0 rfl ?_
    refine g_iconst (v := 2) dX4_readCar_12 (by decide) ?_
    obtain ⟨q64, C65, K⟩ := K
    refine g_callV (M' := mX4_fail) (b := a0) (As := [.int 2]) (rest := []) (rc' := rc) (rs' := rs) dX4_readCar_13 bw_838 bw_840 bs_25 bw_2 bw_841 ⟨by decide +kernel, by decide +kernel, show (parseMethodDescriptor mX4_fail.1.desc).map (fun d => d.parameters.length) = some 1 by decide +kernel⟩ (by decide) (by decide) (Nat.le_of_ble_eq_true rfl) fc_4 (by decide) rfl e1 C65 (Nat.le_of_eq (Nat.add_zero _)) (Nat.le_of_eq (Nat.add_zero _)) (fun _ _ h => h) ?_
    rintro _ h66 ⟨rfl, K1⟩ -
    replace K := K h66 K1
    show Gm l x mX4_readCar 7 16 [(0, .ref a0)] [] h66 rc rs n0 Q X
    refine g_aload_n dX4_readCar_16 rfl 0 rfl ?_
    obtain ⟨e69, K⟩ := K
    obtain ⟨q67, C68, K⟩ := K
    refine g_callV (M' := mX4_readFloor) (b := a0) (As := []) (rest := []) (rc' := rc) (rs' := rs) dX4_readCar_17 bw_851 bw_853 bs_28 bw_2 bw_854 ⟨by decide +kernel, by decide +kernel, show (parseMethodDescriptor mX4_readFloor.1.desc).map (fun d => d.parameters.length) = some 0 by decide +kernel⟩ (by decide) (by decide) (Nat.le_of_ble_eq_true rfl) fc_4 (by decide) rfl e69 C68 (Nat.le_of_eq (Nat.add_zero _)) (Nat.le_of_eq (Nat.add_zero _)) (fun _ _ h => h) ?_
    rintro _ h70 ⟨r71, rfl, K1⟩ -
    replace K := K r71 h70 K1
    show Gm l x mX4_readCar 7 20 [(0, .ref a0)] [.int r71] h70 rc rs n0 Q X
    refine g_istore_n (lv' := [(0, .ref a0), (1, .int r71)]) dX4_readCar_20 rfl (by decide) rfl ?_
    refine g_aload_n dX4_readCar_21 rfl 0 rfl ?_
    refine g_iconst (v := 1) dX4_readCar_22 (by decide) ?_
    refine g_bipush (v := 6) dX4_readCar_23 (by decide) ?_
    obtain ⟨e74, K⟩ := K
    obtain ⟨q72, C73, K⟩ := K
    refine g_callV (M' := mX4_readNumber) (b := a0) (As := [.int 1, .int 6]) (rest := []) (rc' := rc) (rs' := rs) dX4_readCar_25 bw_842 bw_844 bs_26 bw_2 bw_845 ⟨by decide +kernel, by decide +kernel, show (parseMethodDescriptor mX4_readNumber.1.desc).map (fun d => d.parameters.length) = some 2 by decide +kernel⟩ (by decide) (by decide) (Nat.le_of_ble_eq_true rfl) fc_4 (by decide) rfl e74 C73 (Nat.le_of_eq (Nat.add_zero _)) (Nat.le_of_eq (Nat.add_zero _)) (fun _ _ h => h) ?_
    rintro _ h75 ⟨r76, rfl, K1⟩ -
    replace K := K r76 h75 K1
    show Gm l x mX4_readCar 7 28 [(0, .ref a0), (1, .int r71)] [.int r76] h75 rc rs n0 Q X
    refine g_istore_n (lv' := [(0, .ref a0), (1, .int r71), (2, .int r76)]) dX4_readCar_28 rfl (by decide) rfl ?_
    refine g_aload_n dX4_readCar_29 rfl 0 rfl ?_
    obtain ⟨e79, K⟩ := K
    obtain ⟨q77, C78, K⟩ := K
    refine g_callV (M' := mX4_next) (b := a0) (As := []) (rest := []) (rc' := rc) (rs' := rs) dX4_readCar_30 bw_767 bw_769 bs_21 bw_2 bw_770 ⟨by decide +kernel, by decide +kernel, show (parseMethodDescriptor mX4_next.1.desc).map (fun d => d.parameters.length) = some 0 by decide +kernel⟩ (by decide) (by decide) (Nat.le_of_ble_eq_true rfl) fc_4 (by decide) rfl e79 C78 (Nat.le_of_eq (Nat.add_zero _)) (Nat.le_of_eq (Nat.add_zero _)) (fun _ _ h => h) ?_
    rintro _ h80 ⟨rfl, K1⟩ -
    replace K := K h80 K1
    show Gm l x mX4_readCar 7 33 [(0, .ref a0), (1, .int r71), (2, .int r76)] [] h80 rc rs n0 Q X
    refine g_aload_n dX4_readCar_33 rfl 0 rfl ?_
    obtain ⟨z81, K⟩ := K
    refine g_ldcS (j := 7) dX4_readCar_34 z81 ?_
    obtain ⟨e84, K⟩ := K
    obtain ⟨q82, C83, K⟩ := K
    refine g_callV (M' := mX4_isWord) (b := a0) (As := [.retAddr 7]) (rest := []) (rc' := rc) (rs' := rs) dX4_readCar_36 bw_782 bw_784 bs_23 bw_2 bw_785 ⟨by decide +kernel, by decide +kernel, show (parseMethodDescriptor mX4_isWord.1.desc).map (fun d => d.parameters.length) = some 1 by decide +kernel⟩ (by decide) (by decide) (Nat.le_of_ble_eq_true rfl) fc_4 (by decide) rfl e84 C83 (Nat.le_of_eq (Nat.add_zero _)) (Nat.le_of_eq (Nat.add_zero _)) (fun _ _ h => h) ?_
    rintro _ h85 ⟨r86, rfl, K1⟩ -
    replace K := K r86 h85 K1
    show Gm l x mX4_readCar 7 39 [(0, .ref a0), (1, .int r71), (2, .int r76)] [.int r86] h85 rc rs n0 Q X
    refine g_if_eq (tgt := 46) dX4_readCar_39 (by decide) (fun c87 => ?_) (fun c87 => ?_)
    · replace K := K.1 c87
      refine g_aload_n dX4_readCar_46 rfl 0 rfl ?_
      obtain ⟨z88, K⟩ := K
      refine g_ldcS (j := 8) dX4_readCar_47 z88 ?_
      obtain ⟨e91, K⟩ := K
      obtain ⟨q89, C90, K⟩ := K
      refine g_callV (M' := mX4_isWord) (b := a0) (As := [.retAddr 8]) (rest := []) (rc' := rc) (rs' := rs) dX4_readCar_49 bw_782 bw_784 bs_23 bw_2 bw_785 ⟨by decide +kernel, by decide +kernel, show (parseMethodDescriptor mX4_isWord.1.desc).map (fun d => d.parameters.length) = some 1 by decide +kernel⟩ (by decide) (by decide) (Nat.le_of_ble_eq_true rfl) fc_4 (by decide) rfl e91 C90 (Nat.le_of_eq (Nat.add_zero _)) (Nat.le_of_eq (Nat.add_zero _)) (fun _ _ h => h) ?_
      rintro _ h92 ⟨r93, rfl, K1⟩ -
      replace K := K r93 h92 K1
      show Gm l x mX4_readCar 7 52 [(0, .ref a0), (1, .int r71), (2, .int r76)] [.int r93] h92 rc rs n0 Q X
      have KJ : Gm l x mX4_readCar 7 60 [(0, .ref a0), (1, .int r71), (2, .int r76)] [.int (if r93 = 0 then 0 else 2 : Int32)] h92 rc rs n0 Q X := by
        refine g_istore_n (lv' := [(0, .ref a0), (1, .int r71), (2, .int r76), (3, .int (if r93 = 0 then 0 else 2 : Int32))]) dX4_readCar_60 rfl (by decide) rfl ?_
        refine g_iload_n dX4_readCar_61 rfl 3 rfl ?_
        refine g_if_eq (tgt := 69) dX4_readCar_62 (by decide) (fun c95 => ?_) (fun c95 => ?_)
        · replace K := K.1 c95
          refine g_aload_n dX4_readCar_69 rfl 0 rfl ?_
          obtain ⟨e96, b97, e98, K⟩ := K
          refine g_get (c := 4) (k := 2) (v := .ref b97) dX4_readCar_70 fc_4 (by decide) (by decide) bw_267 (congrArg pr e98) e96 ?_
          refine g_iload_n dX4_readCar_73 rfl 1 rfl ?_
          refine g_iload_n dX4_readCar_74 rfl 2 rfl ?_
          refine g_iload_n dX4_readCar_75 rfl 3 rfl ?_
          obtain ⟨e101, K⟩ := K
          obtain ⟨q99, C100, K⟩ := K
          refine g_callV (M' := mX1_addCar) (b := b97) (As := [.int r71, .int r76, .int (if r93 = 0 then 0 else 2 : Int32)]) (rest := []) (rc' := rc) (rs' := rs) dX4_readCar_76 bw_857 bw_858 bw_859 bw_3 bw_860 ⟨by decide +kernel, by decide +kernel, show (parseMethodDescriptor mX1_addCar.1.desc).map (fun d => d.parameters.length) = some 3 by decide +kernel⟩ (by decide) (by decide) (Nat.le_of_ble_eq_true rfl) fc_1 (by decide) rfl e101 C100 (Nat.le_of_eq (Nat.add_zero _)) (Nat.le_of_eq (Nat.add_zero _)) (fun _ _ h => h) ?_
          rintro _ h102 ⟨rfl, K1⟩ -
          replace K := K h102 K1
          show Gm l x mX4_readCar 7 79 [(0, .ref a0), (1, .int r71), (2, .int r76), (3, .int (if r93 = 0 then 0 else 2 : Int32))] [] h102 rc rs n0 Q X
          exact g_vret dX4_readCar_79 rfl K
        · replace K := K.2 c95
          refine g_aload_n dX4_readCar_65 rfl 0 rfl ?_
          obtain ⟨e105, K⟩ := K
          obtain ⟨q103, C104, K⟩ := K
          refine g_callV (M' := mX4_next) (b := a0) (As := []) (rest := []) (rc' := rc) (rs' := rs) dX4_readCar_66 bw_767 bw_769 bs_21 bw_2 bw_770 ⟨by decide +kernel, by decide +kernel, show (parseMethodDescriptor mX4_next.1.desc).map (fun d => d.parameters.length) = some 0 by decide +kernel⟩ (by decide) (by decide) (Nat.le_of_ble_eq_true rfl) fc_4 (by decide) rfl e105 C104 (Nat.le_of_eq (Nat.add_zero _)) (Nat.le_of_eq (Nat.add_zero _)) (fun _ _ h => h) ?_
          rintro _ h106 ⟨rfl, K1⟩ -
          replace K := K h106 K1
          show Gm l x mX4_readCar 7 69 [(0, .ref a0), (1, .int r71), (2, .int r76), (3, .int (if r93 = 0 then 0 else 2 : Int32))] [] h106 rc rs n0 Q X
          refine g_aload_n dX4_readCar_69 rfl 0 rfl ?_
          obtain ⟨e107, b108, e109, K⟩ := K
          refine g_get (c := 4) (k := 2) (v := .ref b108) dX4_readCar_70 fc_4 (by decide) (by decide) bw_267 (congrArg pr e109) e107 ?_
          refine g_iload_n dX4_readCar_73 rfl 1 rfl ?_
          refine g_iload_n dX4_readCar_74 rfl 2 rfl ?_
          refine g_iload_n dX4_readCar_75 rfl 3 rfl ?_
          obtain ⟨e112, K⟩ := K
          obtain ⟨q110, C111, K⟩ := K
          refine g_callV (M' := mX1_addCar) (b := b108) (As := [.int r71, .int r76, .int (if r93 = 0 then 0 else 2 : Int32)]) (rest := []) (rc' := rc) (rs' := rs) dX4_readCar_76 bw_857 bw_858 bw_859 bw_3 bw_860 ⟨by decide +kernel, by decide +kernel, show (parseMethodDescriptor mX1_addCar.1.desc).map (fun d => d.parameters.length) = some 3 by decide +kernel⟩ (by decide) (by decide) (Nat.le_of_ble_eq_true rfl) fc_1 (by decide) rfl e112 C111 (Nat.le_of_eq (Nat.add_zero _)) (Nat.le_of_eq (Nat.add_zero _)) (fun _ _ h => h) ?_
          rintro _ h113 ⟨rfl, K1⟩ -
          replace K := K h113 K1
          show Gm l x mX4_readCar 7 79 [(0, .ref a0), (1, .int r71), (2, .int r76), (3, .int (if r93 = 0 then 0 else 2 : Int32))] [] h113 rc rs n0 Q X
          exact g_vret dX4_readCar_79 rfl K
      refine g_if_eq (tgt := 59) dX4_readCar_52 (by decide) (fun c94 => ?_) (fun c94 => ?_)
      · refine g_iconst (v := 0) dX4_readCar_59 (by decide) ?_
        first | (simp only [if_pos c94] at KJ; exact KJ) | (simp only [if_pos c94, ite_true, ite_false, eq_self] at KJ; exact KJ) | (simp only [if_pos c94] at KJ ⊢; exact KJ) | exact KJ
      · refine g_iconst (v := 2) dX4_readCar_55 (by decide) ?_
        refine g_goto (tgt := 60) dX4_readCar_56 (by decide) ?_
        first | (simp only [if_neg c94] at KJ; exact KJ) | (simp only [if_neg c94, ite_true, ite_false, eq_self] at KJ; exact KJ) | (simp only [if_neg c94] at KJ ⊢; exact KJ) | exact KJ
    · replace K := K.2 c87
      refine g_iconst (v := 1) dX4_readCar_42 (by decide) ?_
      refine g_goto (tgt := 60) dX4_readCar_43 (by decide) ?_
      refine g_istore_n (lv' := [(0, .ref a0), (1, .int r71), (2, .int r76), (3, .int 1)]) dX4_readCar_60 rfl (by decide) rfl ?_
      refine g_iload_n dX4_readCar_61 rfl 3 rfl ?_
      refine g_if_eq (tgt := 69) dX4_readCar_62 (by decide) (fun c114 => ?_) (fun c114 => ?_)
      · exact absurd c114 (by decide)
      · refine g_aload_n dX4_readCar_65 rfl 0 rfl ?_
        obtain ⟨e117, K⟩ := K
        obtain ⟨q115, C116, K⟩ := K
        refine g_callV (M' := mX4_next) (b := a0) (As := []) (rest := []) (rc' := rc) (rs' := rs) dX4_readCar_66 bw_767 bw_769 bs_21 bw_2 bw_770 ⟨by decide +kernel, by decide +kernel, show (parseMethodDescriptor mX4_next.1.desc).map (fun d => d.parameters.length) = some 0 by decide +kernel⟩ (by decide) (by decide) (Nat.le_of_ble_eq_true rfl) fc_4 (by decide) rfl e117 C116 (Nat.le_of_eq (Nat.add_zero _)) (Nat.le_of_eq (Nat.add_zero _)) (fun _ _ h => h) ?_
        rintro _ h118 ⟨rfl, K1⟩ -
        replace K := K h118 K1
        show Gm l x mX4_readCar 7 69 [(0, .ref a0), (1, .int r71), (2, .int r76), (3, .int 1)] [] h118 rc rs n0 Q X
        refine g_aload_n dX4_readCar_69 rfl 0 rfl ?_
        obtain ⟨e119, b120, e121, K⟩ := K
        refine g_get (c := 4) (k := 2) (v := .ref b120) dX4_readCar_70 fc_4 (by decide) (by decide) bw_267 (congrArg pr e121) e119 ?_
        refine g_iload_n dX4_readCar_73 rfl 1 rfl ?_
        refine g_iload_n dX4_readCar_74 rfl 2 rfl ?_
        refine g_iload_n dX4_readCar_75 rfl 3 rfl ?_
        obtain ⟨e124, K⟩ := K
        obtain ⟨q122, C123, K⟩ := K
        refine g_callV (M' := mX1_addCar) (b := b120) (As := [.int r71, .int r76, .int 1]) (rest := []) (rc' := rc) (rs' := rs) dX4_readCar_76 bw_857 bw_858 bw_859 bw_3 bw_860 ⟨by decide +kernel, by decide +kernel, show (parseMethodDescriptor mX1_addCar.1.desc).map (fun d => d.parameters.length) = some 3 by decide +kernel⟩ (by decide) (by decide) (Nat.le_of_ble_eq_true rfl) fc_1 (by decide) rfl e124 C123 (Nat.le_of_eq (Nat.add_zero _)) (Nat.le_of_eq (Nat.add_zero _)) (fun _ _ h => h) ?_
        rintro _ h125 ⟨rfl, K1⟩ -
        replace K := K h125 K1
        show Gm l x mX4_readCar 7 79 [(0, .ref a0), (1, .int r71), (2, .int r76), (3, .int 1)] [] h125 rc rs n0 Q X
        exact g_vret dX4_readCar_79 rfl K
theorem dX4_readRider_0 : decode cX4_readRider 0 = .ok (.aload_n 0, 1) := by decide +kernel
theorem dX4_readRider_1 : decode cX4_readRider 1 = .ok (.getfield 22, 3) := by decide +kernel
theorem dX4_readRider_4 : decode cX4_readRider 4 = .ok (.getfield 146, 3) := by decide +kernel
theorem dX4_readRider_7 : decode cX4_readRider 7 = .ok (.bipush 20, 2) := by decide +kernel
theorem dX4_readRider_9 : decode cX4_readRider 9 = .ok (.if_icmp .lt 8, 3) := by decide +kernel
theorem dX4_readRider_12 : decode cX4_readRider 12 = .ok (.aload_n 0, 1) := by decide +kernel
theorem dX4_readRider_13 : decode cX4_readRider 13 = .ok (.iconst 2, 1) := by decide +kernel
theorem dX4_readRider_14 : decode cX4_readRider 14 = .ok (.invokevirtual 68, 3) := by decide +kernel
theorem dX4_readRider_17 : decode cX4_readRider 17 = .ok (.aload_n 0, 1) := by decide +kernel
theorem dX4_readRider_18 : decode cX4_readRider 18 = .ok (.iconst 0, 1) := by decide +kernel
theorem dX4_readRider_19 : decode cX4_readRider 19 = .ok (.bipush 99, 2) := by decide +kernel
theorem dX4_readRider_21 : decode cX4_readRider 21 = .ok (.invokevirtual 127, 3) := by decide +kernel
theorem dX4_readRider_24 : decode cX4_readRider 24 = .ok (.istore_n 1, 1) := by decide +kernel
theorem dX4_readRider_25 : decode cX4_readRider 25 = .ok (.aload_n 0, 1) := by decide +kernel
theorem dX4_readRider_26 : decode cX4_readRider 26 = .ok (.invokevirtual 135, 3) := by decide +kernel
theorem dX4_readRider_29 : decode cX4_readRider 29 = .ok (.istore_n 2, 1) := by decide +kernel
theorem dX4_readRider_30 : decode cX4_readRider 30 = .ok (.aload_n 0, 1) := by decide +kernel
theorem dX4_readRider_31 : decode cX4_readRider 31 = .ok (.invokevirtual 135, 3) := by decide +kernel
theorem dX4_readRider_34 : decode cX4_readRider 34 = .ok (.istore_n 3, 1) := by decide +kernel
theorem dX4_readRider_35 : decode cX4_readRider 35 = .ok (.iload_n 3, 1) := by decide +kernel
theorem dX4_readRider_36 : decode cX4_readRider 36 = .ok (.iload_n 2, 1) := by decide +kernel
theorem dX4_readRider_37 : decode cX4_readRider 37 = .ok (.if_icmp .ne 8, 3) := by decide +kernel
theorem dX4_readRider_40 : decode cX4_readRider 40 = .ok (.aload_n 0, 1) := by decide +kernel
theorem dX4_readRider_41 : decode cX4_readRider 41 = .ok (.iconst 5, 1) := by decide +kernel
theorem dX4_readRider_42 : decode cX4_readRider 42 = .ok (.invokevirtual 68, 3) := by decide +kernel
theorem dX4_readRider_45 : decode cX4_readRider 45 = .ok (.aload_n 0, 1) := by decide +kernel
theorem dX4_readRider_46 : decode cX4_readRider 46 = .ok (.invokevirtual 62, 3) := by decide +kernel
theorem dX4_readRider_49 : decode cX4_readRider 49 = .ok (.aload_n 0, 1) := by decide +kernel
theorem dX4_readRider_50 : decode cX4_readRider 50 = .ok (.ldc 149, 2) := by decide +kernel
theorem dX4_readRider_52 : decode cX4_readRider 52 = .ok (.invokevirtual 90, 3) := by decide +kernel
theorem dX4_readRider_55 : decode cX4_readRider 55 = .ok (.istore 4, 2) := by decide +kernel
theorem dX4_readRider_57 : decode cX4_readRider 57 = .ok (.iload 4, 2) := by decide +kernel
theorem dX4_readRider_59 : decode cX4_readRider 59 = .ok (.ifCond .eq 7, 3) := by decide +kernel
theorem dX4_readRider_62 : decode cX4_readRider 62 = .ok (.aload_n 0, 1) := by decide +kernel
theorem dX4_readRider_63 : decode cX4_readRider 63 = .ok (.invokevirtual 62, 3) := by decide +kernel
theorem dX4_readRider_66 : decode cX4_readRider 66 = .ok (.aload_n 0, 1) := by decide +kernel
theorem dX4_readRider_67 : decode cX4_readRider 67 = .ok (.getfield 22, 3) := by decide +kernel
theorem dX4_readRider_70 : decode cX4_readRider 70 = .ok (.iload_n 1, 1) := by decide +kernel
theorem dX4_readRider_71 : decode cX4_readRider 71 = .ok (.iload_n 2, 1) := by decide +kernel
theorem dX4_readRider_72 : decode cX4_readRider 72 = .ok (.iload_n 3, 1) := by decide +kernel
theorem dX4_readRider_73 : decode cX4_readRider 73 = .ok (.iload 4, 2) := by decide +kernel
theorem dX4_readRider_75 : decode cX4_readRider 75 = .ok (.ifCond .eq 7, 3) := by decide +kernel
theorem dX4_readRider_78 : decode cX4_readRider 78 = .ok (.iconst 2, 1) := by decide +kernel
theorem dX4_readRider_79 : decode cX4_readRider 79 = .ok (.goto 4, 3) := by decide +kernel
theorem dX4_readRider_82 : decode cX4_readRider 82 = .ok (.iconst 1, 1) := by decide +kernel
theorem dX4_readRider_83 : decode cX4_readRider 83 = .ok (.invokevirtual 151, 3) := by decide +kernel
theorem dX4_readRider_86 : decode cX4_readRider 86 = .ok (.return_, 1) := by decide +kernel
set_option maxRecDepth 20000 in
set_option maxHeartbeats 4000000 in
theorem vX4_readRider_0 {l : Launch} {x : CX} {a0 : Nat} {h : PH} {rc rs n0 : Nat} {Q : Option Value → PH → Prop} {X : String → PH → Prop}
    (K : ((hK h a0).1 = 4) ∧ ∃ b2, (hR h a0 2 = some b2) ∧ ((hK h b2).1 = 1) ∧ (((hI h b2 2) < 20 → ∃ (q6 : Int32 → PH → Prop), CI l x mX4_readNumber 2 0 0 [.ref a0, .int 0, .int 99] h q6 ∧ ∀ (r9 : Int32) (h8 : PH), q6 r9 h8 → ((hK h8 a0).1 = 4) ∧ ∃ (q10 : Int32 → PH → Prop), CI l x mX4_readFloor 3 0 0 [.ref a0] h8 q10 ∧ ∀ (r14 : Int32) (h13 : PH), q10 r14 h13 → ((hK h13 a0).1 = 4) ∧ ∃ (q15 : Int32 → PH → Prop), CI l x mX4_readFloor 3 0 0 [.ref a0] h13 q15 ∧ ∀ (r19 : Int32) (h18 : PH), q15 r19 h18 → ((¬ r19 = r14 → ((hK h18 a0).1 = 4) ∧ ∃ (q21 : PH → Prop), CV l x mX4_next 1 0 0 [.ref a0] h18 q21 ∧ ∀ (h24 : PH), q21 h24 → (TxtOk x RX4 149 "parcel" 9) ∧ ((hK h24 a0).1 = 4) ∧ ∃ (q26 : Int32 → PH → Prop), CI l x mX4_isWord 6 0 0 [.ref a0, .retAddr 9] h24 q26 ∧ ∀ (r30 : Int32) (h29 : PH), q26 r30 h29 → ((r30 = 0 → ((hK h29 a0).1 = 4) ∧ ∃ b33, (hR h29 a0 2 = some b33) ∧ ((hK h29 b33).1 = 1) ∧ ∃ (q36 : PH → Prop), CV l x mX1_addRider 1 0 0 [.ref b33, .int r9, .int r14, .int r19, .int (if r30 = 0 then 1 else 2 : Int32)] h29 q36 ∧ ∀ (h39 : PH), q36 h39 → Q none h39) ∧ (¬ r30 = 0 → ((hK h29 a0).1 = 4) ∧ ∃ (q40 : PH → Prop), CV l x mX4_next 1 0 0 [.ref a0] h29 q40 ∧ ∀ (h43 : PH), q40 h43 → ((hK h43 a0).1 = 4) ∧ ∃ b45, (hR h43 a0 2 = some b45) ∧ ((hK h43 b45).1 = 1) ∧ ∃ (q48 : PH → Prop), CV l x mX1_addRider 1 0 0 [.ref b45, .int r9, .int r14, .int r19, .int (if r30 = 0 then 1 else 2 : Int32)] h43 q48 ∧ ∀ (h51 : PH), q48 h51 → Q none h51))) ∧ (r19 = r14 → ((hK h18 a0).1 = 4) ∧ ∃ (q52 : PH → Prop), CV l x mX4_fail 0 0 0 [.ref a0, .int 5] h18 q52 ∧ ∀ (h55 : PH), q52 h55 → ((hK h55 a0).1 = 4) ∧ ∃ (q56 : PH → Prop), CV l x mX4_next 1 0 0 [.ref a0] h55 q56 ∧ ∀ (h59 : PH), q56 h59 → (TxtOk x RX4 149 "parcel" 9) ∧ ((hK h59 a0).1 = 4) ∧ ∃ (q61 : Int32 → PH → Prop), CI l x mX4_isWord 6 0 0 [.ref a0, .retAddr 9] h59 q61 ∧ ∀ (r65 : Int32) (h64 : PH), q61 r65 h64 → ((r65 = 0 → ((hK h64 a0).1 = 4) ∧ ∃ b68, (hR h64 a0 2 = some b68) ∧ ((hK h64 b68).1 = 1) ∧ ∃ (q71 : PH → Prop), CV l x mX1_addRider 1 0 0 [.ref b68, .int r9, .int r14, .int r19, .int (if r65 = 0 then 1 else 2 : Int32)] h64 q71 ∧ ∀ (h74 : PH), q71 h74 → Q none h74) ∧ (¬ r65 = 0 → ((hK h64 a0).1 = 4) ∧ ∃ (q75 : PH → Prop), CV l x mX4_next 1 0 0 [.ref a0] h64 q75 ∧ ∀ (h78 : PH), q75 h78 → ((hK h78 a0).1 = 4) ∧ ∃ b80, (hR h78 a0 2 = some b80) ∧ ((hK h78 b80).1 = 1) ∧ ∃ (q83 : PH → Prop), CV l x mX1_addRider 1 0 0 [.ref b80, .int r9, .int r14, .int r19, .int (if r65 = 0 then 1 else 2 : Int32)] h78 q83 ∧ ∀ (h86 : PH), q83 h86 → Q none h86))))) ∧ (¬ (hI h b2 2) < 20 → ∃ (q87 : PH → Prop), CV l x mX4_fail 0 0 0 [.ref a0, .int 2] h q87 ∧ ∀ (h89 : PH), q87 h89 → ((hK h89 a0).1 = 4) ∧ ∃ (q90 : Int32 → PH → Prop), CI l x mX4_readNumber 2 0 0 [.ref a0, .int 0, .int 99] h89 q90 ∧ ∀ (r94 : Int32) (h93 : PH), q90 r94 h93 → ((hK h93 a0).1 = 4) ∧ ∃ (q95 : Int32 → PH → Prop), CI l x mX4_readFloor 3 0 0 [.ref a0] h93 q95 ∧ ∀ (r99 : Int32) (h98 : PH), q95 r99 h98 → ((hK h98 a0).1 = 4) ∧ ∃ (q100 : Int32 → PH → Prop), CI l x mX4_readFloor 3 0 0 [.ref a0] h98 q100 ∧ ∀ (r104 : Int32) (h103 : PH), q100 r104 h103 → ((¬ r104 = r99 → ((hK h103 a0).1 = 4) ∧ ∃ (q106 : PH → Prop), CV l x mX4_next 1 0 0 [.ref a0] h103 q106 ∧ ∀ (h109 : PH), q106 h109 → (TxtOk x RX4 149 "parcel" 9) ∧ ((hK h109 a0).1 = 4) ∧ ∃ (q111 : Int32 → PH → Prop), CI l x mX4_isWord 6 0 0 [.ref a0, .retAddr 9] h109 q111 ∧ ∀ (r115 : Int32) (h114 : PH), q111 r115 h114 → ((r115 = 0 → ((hK h114 a0).1 = 4) ∧ ∃ b118, (hR h114 a0 2 = some b118) ∧ ((hK h114 b118).1 = 1) ∧ ∃ (q121 : PH → Prop), CV l x mX1_addRider 1 0 0 [.ref b118, .int r94, .int r99, .int r104, .int (if r115 = 0 then 1 else 2 : Int32)] h114 q121 ∧ ∀ (h124 : PH), q121 h124 → Q none h124) ∧ (¬ r115 = 0 → ((hK h114 a0).1 = 4) ∧ ∃ (q125 : PH → Prop), CV l x mX4_next 1 0 0 [.ref a0] h114 q125 ∧ ∀ (h128 : PH), q125 h128 → ((hK h128 a0).1 = 4) ∧ ∃ b130, (hR h128 a0 2 = some b130) ∧ ((hK h128 b130).1 = 1) ∧ ∃ (q133 : PH → Prop), CV l x mX1_addRider 1 0 0 [.ref b130, .int r94, .int r99, .int r104, .int (if r115 = 0 then 1 else 2 : Int32)] h128 q133 ∧ ∀ (h136 : PH), q133 h136 → Q none h136))) ∧ (r104 = r99 → ((hK h103 a0).1 = 4) ∧ ∃ (q137 : PH → Prop), CV l x mX4_fail 0 0 0 [.ref a0, .int 5] h103 q137 ∧ ∀ (h140 : PH), q137 h140 → ((hK h140 a0).1 = 4) ∧ ∃ (q141 : PH → Prop), CV l x mX4_next 1 0 0 [.ref a0] h140 q141 ∧ ∀ (h144 : PH), q141 h144 → (TxtOk x RX4 149 "parcel" 9) ∧ ((hK h144 a0).1 = 4) ∧ ∃ (q146 : Int32 → PH → Prop), CI l x mX4_isWord 6 0 0 [.ref a0, .retAddr 9] h144 q146 ∧ ∀ (r150 : Int32) (h149 : PH), q146 r150 h149 → ((r150 = 0 → ((hK h149 a0).1 = 4) ∧ ∃ b153, (hR h149 a0 2 = some b153) ∧ ((hK h149 b153).1 = 1) ∧ ∃ (q156 : PH → Prop), CV l x mX1_addRider 1 0 0 [.ref b153, .int r94, .int r99, .int r104, .int (if r150 = 0 then 1 else 2 : Int32)] h149 q156 ∧ ∀ (h159 : PH), q156 h159 → Q none h159) ∧ (¬ r150 = 0 → ((hK h149 a0).1 = 4) ∧ ∃ (q160 : PH → Prop), CV l x mX4_next 1 0 0 [.ref a0] h149 q160 ∧ ∀ (h163 : PH), q160 h163 → ((hK h163 a0).1 = 4) ∧ ∃ b165, (hR h163 a0 2 = some b165) ∧ ((hK h163 b165).1 = 1) ∧ ∃ (q168 : PH → Prop), CV l x mX1_addRider 1 0 0 [.ref b165, .int r94, .int r99, .int r104, .int (if r150 = 0 then 1 else 2 : Int32)] h163 q168 ∧ ∀ (h171 : PH), q168 h171 → Q none h171))))))) :
    Gm l x mX4_readRider 7 0 [(0, .ref a0)] [] h rc rs n0 Q X := by
  refine g_aload_n dX4_readRider_0 rfl 0 rfl ?_
  obtain ⟨e1, b2, e3, K⟩ := K
  refine g_get (c := 4) (k := 2) (v := .ref b2) dX4_readRider_1 fc_4 (by decide) (by decide) bw_267 (congrArg pr e3) e1 ?_
  obtain ⟨e4, K⟩ := K
  refine g_get (c := 1) (k := 2) (v := .int (hI h b2 2)) dX4_readRider_4 fc_1 (by decide) (by decide) bw_196 rfl e4 ?_
  refine g_bipush (v := 20) dX4_readRider_7 (by decide) ?_
  refine g_icmp_lt (tgt := 17) dX4_readRider_9 (by decide) (fun c5 => ?_) (fun c5 => ?_)
  · replace K := K.1 c5
    refine g_aload_n dX4_readRider_17 rfl 0 rfl ?_
    refine g_iconst (v := 0) dX4_readRider_18 (by decide) ?_
    refine g_bipush (v := 99) dX4_readRider_19 (by decide) ?_
    obtain ⟨q6, C7, K⟩ := K
    refine g_callV (M' := mX4_readNumber) (b := a0) (As := [.int 0, .int 99]) (rest := []) (rc' := rc) (rs' := rs) dX4_readRider_21 bw_842 bw_844 bs_26 bw_2 bw_845 ⟨by decide +kernel, by decide +kernel, show (parseMethodDescriptor mX4_readNumber.1.desc).map (fun d => d.parameters.length) = some 2 by decide +kernel⟩ (by decide) (by decide) (Nat.le_of_ble_eq_true rfl) fc_4 (by decide) rfl e1 C7 (Nat.le_of_eq (Nat.add_zero _)) (Nat.le_of_eq (Nat.add_zero _)) (fun _ _ h => h) ?_
    rintro _ h8 ⟨r9, rfl, K1⟩ -
    replace K := K r9 h8 K1
    show Gm l x mX4_readRider 7 24 [(0, .ref a0)] [.int r9] h8 rc rs n0 Q X
    refine g_istore_n (lv' := [(0, .ref a0), (1, .int r9)]) dX4_readRider_24 rfl (by decide) rfl ?_
    refine g_aload_n dX4_readRider_25 rfl 0 rfl ?_
    obtain ⟨e12, K⟩ := K
    obtain ⟨q10, C11, K⟩ := K
    refine g_callV (M' := mX4_readFloor) (b := a0) (As := []) (rest := []) (rc' := rc) (rs' := rs) dX4_readRider_26 bw_851 bw_853 bs_28 bw_2 bw_854 ⟨by decide +kernel, by decide +kernel, show (parseMethodDescriptor mX4_readFloor.1.desc).map (fun d => d.parameters.length) = some 0 by decide +kernel⟩ (by decide) (by decide) (Nat.le_of_ble_eq_true rfl) fc_4 (by decide) rfl e12 C11 (Nat.le_of_eq (Nat.add_zero _)) (Nat.le_of_eq (Nat.add_zero _)) (fun _ _ h => h) ?_
    rintro _ h13 ⟨r14, rfl, K1⟩ -
    replace K := K r14 h13 K1
    show Gm l x mX4_readRider 7 29 [(0, .ref a0), (1, .int r9)] [.int r14] h13 rc rs n0 Q X
    refine g_istore_n (lv' := [(0, .ref a0), (1, .int r9), (2, .int r14)]) dX4_readRider_29 rfl (by decide) rfl ?_
    refine g_aload_n dX4_readRider_30 rfl 0 rfl ?_
    obtain ⟨e17, K⟩ := K
    obtain ⟨q15, C16, K⟩ := K
    refine g_callV (M' := mX4_readFloor) (b := a0) (As := []) (rest := []) (rc' := rc) (rs' := rs) dX4_readRider_31 bw_851 bw_853 bs_28 bw_2 bw_854 ⟨by decide +kernel, by decide +kernel, show (parseMethodDescriptor mX4_readFloor.1.desc).map (fun d => d.parameters.length) = some 0 by decide +kernel⟩ (by decide) (by decide) (Nat.le_of_ble_eq_true rfl) fc_4 (by decide) rfl e17 C16 (Nat.le_of_eq (Nat.add_zero _)) (Nat.le_of_eq (Nat.add_zero _)) (fun _ _ h => h) ?_
    rintro _ h18 ⟨r19, rfl, K1⟩ -
    replace K := K r19 h18 K1
    show Gm l x mX4_readRider 7 34 [(0, .ref a0), (1, .int r9), (2, .int r14)] [.int r19] h18 rc rs n0 Q X
    refine g_istore_n (lv' := [(0, .ref a0), (1, .int r9), (2, .int r14), (3, .int r19)]) dX4_readRider_34 rfl (by decide) rfl ?_
    refine g_iload_n dX4_readRider_35 rfl 3 rfl ?_
    refine g_iload_n dX4_readRider_36 rfl 2 rfl ?_
    refine g_icmp_ne (tgt := 45) dX4_readRider_37 (by decide) (fun c20 => ?_) (fun c20 => ?_)
    · replace K := K.1 c20
      refine g_aload_n dX4_readRider_45 rfl 0 rfl ?_
      obtain ⟨e23, K⟩ := K
      obtain ⟨q21, C22, K⟩ := K
      refine g_callV (M' := mX4_next) (b := a0) (As := []) (rest := []) (rc' := rc) (rs' := rs) dX4_readRider_46 bw_767 bw_769 bs_21 bw_2 bw_770 ⟨by decide +kernel, by decide +kernel, show (parseMethodDescriptor mX4_next.1.desc).map (fun d => d.parameters.length) = some 0 by decide +kernel⟩ (by decide) (by decide) (Nat.le_of_ble_eq_true rfl) fc_4 (by decide) rfl e23 C22 (Nat.le_of_eq (Nat.add_zero _)) (Nat.le_of_eq (Nat.add_zero _)) (fun _ _ h => h) ?_
      rintro _ h24 ⟨rfl, K1⟩ -
      replace K := K h24 K1
      show Gm l x mX4_readRider 7 49 [(0, .ref a0), (1, .int r9), (2, .int r14), (3, .int r19)] [] h24 rc rs n0 Q X
      refine g_aload_n dX4_readRider_49 rfl 0 rfl ?_
      obtain ⟨z25, K⟩ := K
      refine g_ldcS (j := 9) dX4_readRider_50 z25 ?_
      obtain ⟨e28, K⟩ := K
      obtain ⟨q26, C27, K⟩ := K
      refine g_callV (M' := mX4_isWord) (b := a0) (As := [.retAddr 9]) (rest := []) (rc' := rc) (rs' := rs) dX4_readRider_52 bw_782 bw_784 bs_23 bw_2 bw_785 ⟨by decide +kernel, by decide +kernel, show (parseMethodDescriptor mX4_isWord.1.desc).map (fun d => d.parameters.length) = some 1 by decide +kernel⟩ (by decide) (by decide) (Nat.le_of_ble_eq_true rfl) fc_4 (by decide) rfl e28 C27 (Nat.le_of_eq (Nat.add_zero _)) (Nat.le_of_eq (Nat.add_zero _)) (fun _ _ h => h) ?_
      rintro _ h29 ⟨r30, rfl, K1⟩ -
      replace K := K r30 h29 K1
      show Gm l x mX4_readRider 7 55 [(0, .ref a0), (1, .int r9), (2, .int r14), (3, .int r19)] [.int r30] h29 rc rs n0 Q X
      refine g_istore (lv' := [(0, .ref a0), (1, .int r9), (2, .int r14), (3, .int r19), (4, .int r30)]) dX4_readRider_55 (by decide) rfl ?_
      refine g_iload dX4_readRider_57 4 rfl ?_
      refine g_if_eq (tgt := 66) dX4_readRider_59 (by decide) (fun c31 => ?_) (fun c31 => ?_)
      · replace K := K.1 c31
        refine g_aload_n dX4_readRider_66 rfl 0 rfl ?_
        obtain ⟨e32, b33, e34, K⟩ := K
        refine g_get (c := 4) (k := 2) (v := .ref b33) dX4_readRider_67 fc_4 (by decide) (by decide) bw_267 (congrArg pr e34) e32 ?_
        refine g_iload_n dX4_readRider_70 rfl 1 rfl ?_
        refine g_iload_n dX4_readRider_71 rfl 2 rfl ?_
        refine g_iload_n dX4_readRider_72 rfl 3 rfl ?_
        refine g_iload dX4_readRider_73 4 rfl ?_
        have KJ : Gm l x mX4_readRider 7 83 [(0, .ref a0), (1, .int r9), (2, .int r14), (3, .int r19), (4, .int r30)] [.int (if r30 = 0 then 1 else 2 : Int32), .int r19, .int r14, .int r9, .ref b33] h29 rc rs n0 Q X := by
          obtain ⟨e38, K⟩ := K
          obtain ⟨q36, C37, K⟩ := K
          refine g_callV (M' := mX1_addRider) (b := b33) (As := [.int r9, .int r14, .int r19, .int (if r30 = 0 then 1 else 2 : Int32)]) (rest := []) (rc' := rc) (rs' := rs) dX4_readRider_83 bw_872 bw_621 bw_622 bw_3 bw_623 ⟨by decide +kernel, by decide +kernel, show (parseMethodDescriptor mX1_addRider.1.desc).map (fun d => d.parameters.length) = some 4 by decide +kernel⟩ (by decide) (by decide) (Nat.le_of_ble_eq_true rfl) fc_1 (by decide) rfl e38 C37 (Nat.le_of_eq (Nat.add_zero _)) (Nat.le_of_eq (Nat.add_zero _)) (fun _ _ h => h) ?_
          rintro _ h39 ⟨rfl, K1⟩ -
          replace K := K h39 K1
          show Gm l x mX4_readRider 7 86 [(0, .ref a0), (1, .int r9), (2, .int r14), (3, .int r19), (4, .int r30)] [] h39 rc rs n0 Q X
          exact g_vret dX4_readRider_86 rfl K
        refine g_if_eq (tgt := 82) dX4_readRider_75 (by decide) (fun c35 => ?_) (fun c35 => ?_)
        · refine g_iconst (v := 1) dX4_readRider_82 (by decide) ?_
          first | (simp only [if_pos c35] at KJ; exact KJ) | (simp only [if_pos c35, ite_true, ite_false, eq_self] at KJ; exact KJ) | (simp only [if_pos c35] at KJ ⊢; exact KJ) | exact KJ
        · refine g_iconst (v := 2) dX4_readRider_78 (by decide) ?_
          refine g_goto (tgt := 83) dX4_readRider_79 (by decide) ?_
          first | (simp only [if_neg c35] at KJ; exact KJ) | (simp only [if_neg c35, ite_true, ite_false, eq_self] at KJ; exact KJ) | (simp only [if_neg c35] at KJ ⊢; exact KJ) | exact KJ
      · replace K := K.2 c31
        refine g_aload_n dX4_readRider_62 rfl 0 rfl ?_
        obtain ⟨e42, K⟩ := K
        obtain ⟨q40, C41, K⟩ := K
        refine g_callV (M' := mX4_next) (b := a0) (As := []) (rest := []) (rc' := rc) (rs' := rs) dX4_readRider_63 bw_767 bw_769 bs_21 bw_2 bw_770 ⟨by decide +kernel, by decide +kernel, show (parseMethodDescriptor mX4_next.1.desc).map (fun d => d.parameters.length) = some 0 by decide +kernel⟩ (by decide) (by decide) (Nat.le_of_ble_eq_true rfl) fc_4 (by decide) rfl e42 C41 (Nat.le_of_eq (Nat.add_zero _)) (Nat.le_of_eq (Nat.add_zero _)) (fun _ _ h => h) ?_
        rintro _ h43 ⟨rfl, K1⟩ -
        replace K := K h43 K1
        show Gm l x mX4_readRider 7 66 [(0, .ref a0), (1, .int r9), (2, .int r14), (3, .int r19), (4, .int r30)] [] h43 rc rs n0 Q X
        refine g_aload_n dX4_readRider_66 rfl 0 rfl ?_
        obtain ⟨e44, b45, e46, K⟩ := K
        refine g_get (c := 4) (k := 2) (v := .ref b45) dX4_readRider_67 fc_4 (by decide) (by decide) bw_267 (congrArg pr e46) e44 ?_
        refine g_iload_n dX4_readRider_70 rfl 1 rfl ?_
        refine g_iload_n dX4_readRider_71 rfl 2 rfl ?_
        refine g_iload_n dX4_readRider_72 rfl 3 rfl ?_
        refine g_iload dX4_readRider_73 4 rfl ?_
        have KJ : Gm l x mX4_readRider 7 83 [(0, .ref a0), (1, .int r9), (2, .int r14), (3, .int r19), (4, .int r30)] [.int (if r30 = 0 then 1 else 2 : Int32), .int r19, .int r14, .int r9, .ref b45] h43 rc rs n0 Q X := by
          obtain ⟨e50, K⟩ := K
          obtain ⟨q48, C49, K⟩ := K
          refine g_callV (M' := mX1_addRider) (b := b45) (As := [.int r9, .int r14, .int r19, .int (if r30 = 0 then 1 else 2 : Int32)]) (rest := []) (rc' := rc) (rs' := rs) dX4_readRider_83 bw_872 bw_621 bw_622 bw_3 bw_623 ⟨by decide +kernel, by decide +kernel, show (parseMethodDescriptor mX1_addRider.1.desc).map (fun d => d.parameters.length) = some 4 by decide +kernel⟩ (by decide) (by decide) (Nat.le_of_ble_eq_true rfl) fc_1 (by decide) rfl e50 C49 (Nat.le_of_eq (Nat.add_zero _)) (Nat.le_of_eq (Nat.add_zero _)) (fun _ _ h => h) ?_
          rintro _ h51 ⟨rfl, K1⟩ -
          replace K := K h51 K1
          show Gm l x mX4_readRider 7 86 [(0, .ref a0), (1, .int r9), (2, .int r14), (3, .int r19), (4, .int r30)] [] h51 rc rs n0 Q X
          exact g_vret dX4_readRider_86 rfl K
        refine g_if_eq (tgt := 82) dX4_readRider_75 (by decide) (fun c47 => ?_) (fun c47 => ?_)
        · refine g_iconst (v := 1) dX4_readRider_82 (by decide) ?_
          first | (simp only [if_pos c47] at KJ; exact KJ) | (simp only [if_pos c47, ite_true, ite_false, eq_self] at KJ; exact KJ) | (simp only [if_pos c47] at KJ ⊢; exact KJ) | exact KJ
        · refine g_iconst (v := 2) dX4_readRider_78 (by decide) ?_
          refine g_goto (tgt := 83) dX4_readRider_79 (by decide) ?_
          first | (simp only [if_neg c47] at KJ; exact KJ) | (simp only [if_neg c47, ite_true, ite_false, eq_self] at KJ; exact KJ) | (simp only [if_neg c47] at KJ ⊢; exact KJ) | exact KJ
    · replace K := K.2 c20
      refine g_aload_n dX4_readRider_40 rfl 0 rfl ?_
      refine g_iconst (v := 5) dX4_readRider_41 (by decide) ?_
      obtain ⟨e54, K⟩ := K
      obtain ⟨q52, C53, K⟩ := K
      refine g_callV (M' := mX4_fail) (b := a0) (As := [.int 5]) (rest := []) (rc' := rc) (rs' := rs) dX4_readRider_42 bw_838 bw_840 bs_25 bw_2 bw_841 ⟨by decide +kernel, by decide +kernel, show (parseMethodDescriptor mX4_fail.1.desc).map (fun d => d.parameters.length) = some 1 by decide +kernel⟩ (by decide) (by decide) (Nat.le_of_ble_eq_true rfl) fc_4 (by decide) rfl e54 C53 (Nat.le_of_eq (Nat.add_zero _)) (Nat.le_of_eq (Nat.add_zero _)) (fun _ _ h => h) ?_
      rintro _ h55 ⟨rfl, K1⟩ -
      replace K := K h55 K1
      show Gm l x mX4_readRider 7 45 [(0, .ref a0), (1, .int r9), (2, .int r14), (3, .int r19)] [] h55 rc rs n0 Q X
      refine g_aload_n dX4_readRider_45 rfl 0 rfl ?_
      obtain ⟨e58, K⟩ := K
      obtain ⟨q56, C57, K⟩ := K
      refine g_callV (M' := mX4_next) (b := a0) (As := []) (rest := []) (rc' := rc) (rs' := rs) dX4_readRider_46 bw_767 bw_769 bs_21 bw_2 bw_770 ⟨by decide +kernel, by decide +kernel, show (parseMethodDescriptor mX4_next.1.desc).map (fun d => d.parameters.length) = some 0 by decide +kernel⟩ (by decide) (by decide) (Nat.le_of_ble_eq_true rfl) fc_4 (by decide) rfl e58 C57 (Nat.le_of_eq (Nat.add_zero _)) (Nat.le_of_eq (Nat.add_zero _)) (fun _ _ h => h) ?_
      rintro _ h59 ⟨rfl, K1⟩ -
      replace K := K h59 K1
      show Gm l x mX4_readRider 7 49 [(0, .ref a0), (1, .int r9), (2, .int r14), (3, .int r19)] [] h59 rc rs n0 Q X
      refine g_aload_n dX4_readRider_49 rfl 0 rfl ?_
      obtain ⟨z60, K⟩ := K
      refine g_ldcS (j := 9) dX4_readRider_50 z60 ?_
      obtain ⟨e63, K⟩ := K
      obtain ⟨q61, C62, K⟩ := K
      refine g_callV (M' := mX4_isWord) (b := a0) (As := [.retAddr 9]) (rest := []) (rc' := rc) (rs' := rs) dX4_readRider_52 bw_782 bw_784 bs_23 bw_2 bw_785 ⟨by decide +kernel, by decide +kernel, show (parseMethodDescriptor mX4_isWord.1.desc).map (fun d => d.parameters.length) = some 1 by decide +kernel⟩ (by decide) (by decide) (Nat.le_of_ble_eq_true rfl) fc_4 (by decide) rfl e63 C62 (Nat.le_of_eq (Nat.add_zero _)) (Nat.le_of_eq (Nat.add_zero _)) (fun _ _ h => h) ?_
      rintro _ h64 ⟨r65, rfl, K1⟩ -
      replace K := K r65 h64 K1
      show Gm l x mX4_readRider 7 55 [(0, .ref a0), (1, .int r9), (2, .int r14), (3, .int r19)] [.int r65] h64 rc rs n0 Q X
      refine g_istore (lv' := [(0, .ref a0), (1, .int r9), (2, .int r14), (3, .int r19), (4, .int r65)]) dX4_readRider_55 (by decide) rfl ?_
      refine g_iload dX4_readRider_57 4 rfl ?_
      refine g_if_eq (tgt := 66) dX4_readRider_59 (by decide) (fun c66 => ?_) (fun c66 => ?_)
      · replace K := K.1 c66
        refine g_aload_n dX4_readRider_66 rfl 0 rfl ?_
        obtain ⟨e67, b68, e69, K⟩ := K
        refine g_get (c := 4) (k := 2) (v := .ref b68) dX4_readRider_67 fc_4 (by decide) (by decide) bw_267 (congrArg pr e69) e67 ?_
        refine g_iload_n dX4_readRider_70 rfl 1 rfl ?_
        refine g_iload_n dX4_readRider_71 rfl 2 rfl ?_
        refine g_iload_n dX4_readRider_72 rfl 3 rfl ?_
        refine g_iload dX4_readRider_73 4 rfl ?_
        have KJ : Gm l x mX4_readRider 7 83 [(0, .ref a0), (1, .int r9), (2, .int r14), (3, .int r19), (4, .int r65)] [.int (if r65 = 0 then 1 else 2 : Int32), .int r19, .int r14, .int r9, .ref b68] h64 rc rs n0 Q X := by
          obtain ⟨e73, K⟩ := K
          obtain ⟨q71, C72, K⟩ := K
          refine g_callV (M' := mX1_addRider) (b := b68) (As := [.int r9, .int r14, .int r19, .int (if r65 = 0 then 1 else 2 : Int32)]) (rest := []) (rc' := rc) (rs' := rs) dX4_readRider_83 bw_872 bw_621 bw_622 bw_3 bw_623 ⟨by decide +kernel, by decide +kernel, show (parseMethodDescriptor mX1_addRider.1.desc).map (fun d => d.parameters.length) = some 4 by decide +kernel⟩ (by decide) (by decide) (Nat.le_of_ble_eq_true rfl) fc_1 (by decide) rfl e73 C72 (Nat.le_of_eq (Nat.add_zero _)) (Nat.le_of_eq (Nat.add_zero _)) (fun _ _ h => h) ?_
          rintro _ h74 ⟨rfl, K1⟩ -
          replace K := K h74 K1
          show Gm l x mX4_readRider 7 86 [(0, .ref a0), (1, .int r9), (2, .int r14), (3, .int r19), (4, .int r65)] [] h74 rc rs n0 Q X
          exact g_vret dX4_readRider_86 rfl K
        refine g_if_eq (tgt := 82) dX4_readRider_75 (by decide) (fun c70 => ?_) (fun c70 => ?_)
        · refine g_iconst (v := 1) dX4_readRider_82 (by decide) ?_
          first | (simp only [if_pos c70] at KJ; exact KJ) | (simp only [if_pos c70, ite_true, ite_false, eq_self] at KJ; exact KJ) | (simp only [if_pos c70] at KJ ⊢; exact KJ) | exact KJ
        · refine g_iconst (v := 2) dX4_readRider_78 (by decide) ?_
          refine g_goto (tgt := 83) dX4_readRider_79 (by decide) ?_
          first | (simp only [if_neg c70] at KJ; exact KJ) | (simp only [if_neg c70, ite_true, ite_false, eq_self] at KJ; exact KJ) | (simp only [if_neg c70] at KJ ⊢; exact KJ) | exact KJ
      · replace K := K.2 c66
        refine g_aload_n dX4_readRider_62 rfl 0 rfl ?_
        obtain ⟨e77, K⟩ := K
        obtain ⟨q75, C76, K⟩ := K
        refine g_callV (M' := mX4_next) (b := a0) (As := []) (rest := []) (rc' := rc) (rs' := rs) dX4_readRider_63 bw_767 bw_769 bs_21 bw_2 bw_770 ⟨by decide +kernel, by decide +kernel, show (parseMethodDescriptor mX4_next.1.desc).map (fun d => d.parameters.length) = some 0 by decide +kernel⟩ (by decide) (by decide) (Nat.le_of_ble_eq_true rfl) fc_4 (by decide) rfl e77 C76 (Nat.le_of_eq (Nat.add_zero _)) (Nat.le_of_eq (Nat.add_zero _)) (fun _ _ h => h) ?_
        rintro _ h78 ⟨rfl, K1⟩ -
        replace K := K h78 K1
        show Gm l x mX4_readRider 7 66 [(0, .ref a0), (1, .int r9), (2, .int r14), (3, .int r19), (4, .int r65)] [] h78 rc rs n0 Q X
        refine g_aload_n dX4_readRider_66 rfl 0 rfl ?_
        obtain ⟨e79, b80, e81, K⟩ := K
        refine g_get (c := 4) (k := 2) (v := .ref b80) dX4_readRider_67 fc_4 (by decide) (by decide) bw_267 (congrArg pr e81) e79 ?_
        refine g_iload_n dX4_readRider_70 rfl 1 rfl ?_
        refine g_iload_n dX4_readRider_71 rfl 2 rfl ?_
        refine g_iload_n dX4_readRider_72 rfl 3 rfl ?_
        refine g_iload dX4_readRider_73 4 rfl ?_
        have KJ : Gm l x mX4_readRider 7 83 [(0, .ref a0), (1, .int r9), (2, .int r14), (3, .int r19), (4, .int r65)] [.int (if r65 = 0 then 1 else 2 : Int32), .int r19, .int r14, .int r9, .ref b80] h78 rc rs n0 Q X := by
          obtain ⟨e85, K⟩ := K
          obtain ⟨q83, C84, K⟩ := K
          refine g_callV (M' := mX1_addRider) (b := b80) (As := [.int r9, .int r14, .int r19, .int (if r65 = 0 then 1 else 2 : Int32)]) (rest := []) (rc' := rc) (rs' := rs) dX4_readRider_83 bw_872 bw_621 bw_622 bw_3 bw_623 ⟨by decide +kernel, by decide +kernel, show (parseMethodDescriptor mX1_addRider.1.desc).map (fun d => d.parameters.length) = some 4 by decide +kernel⟩ (by decide) (by decide) (Nat.le_of_ble_eq_true rfl) fc_1 (by decide) rfl e85 C84 (Nat.le_of_eq (Nat.add_zero _)) (Nat.le_of_eq (Nat.add_zero _)) (fun _ _ h => h) ?_
          rintro _ h86 ⟨rfl, K1⟩ -
          replace K := K h86 K1
          show Gm l x mX4_readRider 7 86 [(0, .ref a0), (1, .int r9), (2, .int r14), (3, .int r19), (4, .int r65)] [] h86 rc rs n0 Q X
          exact g_vret dX4_readRider_86 rfl K
        refine g_if_eq (tgt := 82) dX4_readRider_75 (by decide) (fun c82 => ?_) (fun c82 => ?_)
        · refine g_iconst (v := 1) dX4_readRider_82 (by decide) ?_
          first | (simp only [if_pos c82] at KJ; exact KJ) | (simp only [if_pos c82, ite_true, ite_false, eq_self] at KJ; exact KJ) | (simp only [if_pos c82] at KJ ⊢; exact KJ) | exact KJ
        · refine g_iconst (v := 2) dX4_readRider_78 (by decide) ?_
          refine g_goto (tgt := 83) dX4_readRider_79 (by decide) ?_
          first | (simp only [if_neg c82] at KJ; exact KJ) | (simp only [if_neg c82, ite_true, ite_false, eq_self] at KJ; exact KJ) | (simp only [if_neg c82] at KJ ⊢; exact KJ) | exact KJ
  · replace K := K.2 c5
    refine g_aload_n dX4_readRider_12 rfl 0 rfl ?_
    refine g_iconst (v := 2) dX4_readRider_13 (by decide) ?_
    obtain ⟨q87, C88, K⟩ := K
    refine g_callV (M' := mX4_fail) (b := a0) (As := [.int 2]) (rest := []) (rc' := rc) (rs' := rs) dX4_readRider_14 bw_838 bw_840 bs_25 bw_2 bw_841 ⟨by decide +kernel, by decide +kernel, show (parseMethodDescriptor mX4_fail.1.desc).map (fun d => d.parameters.length) = some 1 by decide +kernel⟩ (by decide) (by decide) (Nat.le_of_ble_eq_true rfl) fc_4 (by decide) rfl e1 C88 (Nat.le_of_eq (Nat.add_zero _)) (Nat.le_of_eq (Nat.add_zero _)) (fun _ _ h => h) ?_
    rintro _ h89 ⟨rfl, K1⟩ -
    replace K := K h89 K1
    show Gm l x mX4_readRider 7 17 [(0, .ref a0)] [] h89 rc rs n0 Q X
    refine g_aload_n dX4_readRider_17 rfl 0 rfl ?_
    refine g_iconst (v := 0) dX4_readRider_18 (by decide) ?_
    refine g_bipush (v := 99) dX4_readRider_19 (by decide) ?_
    obtain ⟨e92, K⟩ := K
    obtain ⟨q90, C91, K⟩ := K
    refine g_callV (M' := mX4_readNumber) (b := a0) (As := [.int 0, .int 99]) (rest := []) (rc' := rc) (rs' := rs) dX4_readRider_21 bw_842 bw_844 bs_26 bw_2 bw_845 ⟨by decide +kernel, by decide +kernel, show (parseMethodDescriptor mX4_readNumber.1.desc).map (fun d => d.parameters.length) = some 2 by decide +kernel⟩ (by decide) (by decide) (Nat.le_of_ble_eq_true rfl) fc_4 (by decide) rfl e92 C91 (Nat.le_of_eq (Nat.add_zero _)) (Nat.le_of_eq (Nat.add_zero _)) (fun _ _ h => h) ?_
    rintro _ h93 ⟨r94, rfl, K1⟩ -
    replace K := K r94 h93 K1
    show Gm l x mX4_readRider 7 24 [(0, .ref a0)] [.int r94] h93 rc rs n0 Q X
    refine g_istore_n (lv' := [(0, .ref a0), (1, .int r94)]) dX4_readRider_24 rfl (by decide) rfl ?_
    refine g_aload_n dX4_readRider_25 rfl 0 rfl ?_
    obtain ⟨e97, K⟩ := K
    obtain ⟨q95, C96, K⟩ := K
    refine g_callV (M' := mX4_readFloor) (b := a0) (As := []) (rest := []) (rc' := rc) (rs' := rs) dX4_readRider_26 bw_851 bw_853 bs_28 bw_2 bw_854 ⟨by decide +kernel, by decide +kernel, show (parseMethodDescriptor mX4_readFloor.1.desc).map (fun d => d.parameters.length) = some 0 by decide +kernel⟩ (by decide) (by decide) (Nat.le_of_ble_eq_true rfl) fc_4 (by decide) rfl e97 C96 (Nat.le_of_eq (Nat.add_zero _)) (Nat.le_of_eq (Nat.add_zero _)) (fun _ _ h => h) ?_
    rintro _ h98 ⟨r99, rfl, K1⟩ -
    replace K := K r99 h98 K1
    show Gm l x mX4_readRider 7 29 [(0, .ref a0), (1, .int r94)] [.int r99] h98 rc rs n0 Q X
    refine g_istore_n (lv' := [(0, .ref a0), (1, .int r94), (2, .int r99)]) dX4_readRider_29 rfl (by decide) rfl ?_
    refine g_aload_n dX4_readRider_30 rfl 0 rfl ?_
    obtain ⟨e102, K⟩ := K
    obtain ⟨q100, C101, K⟩ := K
    refine g_callV (M' := mX4_readFloor) (b := a0) (As := []) (rest := []) (rc' := rc) (rs' := rs) dX4_readRider_31 bw_851 bw_853 bs_28 bw_2 bw_854 ⟨by decide +kernel, by decide +kernel, show (parseMethodDescriptor mX4_readFloor.1.desc).map (fun d => d.parameters.length) = some 0 by decide +kernel⟩ (by decide) (by decide) (Nat.le_of_ble_eq_true rfl) fc_4 (by decide) rfl e102 C101 (Nat.le_of_eq (Nat.add_zero _)) (Nat.le_of_eq (Nat.add_zero _)) (fun _ _ h => h) ?_
    rintro _ h103 ⟨r104, rfl, K1⟩ -
    replace K := K r104 h103 K1
    show Gm l x mX4_readRider 7 34 [(0, .ref a0), (1, .int r94), (2, .int r99)] [.int r104] h103 rc rs n0 Q X
    refine g_istore_n (lv' := [(0, .ref a0), (1, .int r94), (2, .int r99), (3, .int r104)]) dX4_readRider_34 rfl (by decide) rfl ?_
    refine g_iload_n dX4_readRider_35 rfl 3 rfl ?_
    refine g_iload_n dX4_readRider_36 rfl 2 rfl ?_
    refine g_icmp_ne (tgt := 45) dX4_readRider_37 (by decide) (fun c105 => ?_) (fun c105 => ?_)
    · replace K := K.1 c105
      refine g_aload_n dX4_readRider_45 rfl 0 rfl ?_
      obtain ⟨e108, K⟩ := K
      obtain ⟨q106, C107, K⟩ := K
      refine g_callV (M' := mX4_next) (b := a0) (As := []) (rest := []) (rc' := rc) (rs' := rs) dX4_readRider_46 bw_767 bw_769 bs_21 bw_2 bw_770 ⟨by decide +kernel, by decide +kernel, show (parseMethodDescriptor mX4_next.1.desc).map (fun d => d.parameters.length) = some 0 by decide +kernel⟩ (by decide) (by decide) (Nat.le_of_ble_eq_true rfl) fc_4 (by decide) rfl e108 C107 (Nat.le_of_eq (Nat.add_zero _)) (Nat.le_of_eq (Nat.add_zero _)) (fun _ _ h => h) ?_
      rintro _ h109 ⟨rfl, K1⟩ -
      replace K := K h109 K1
      show Gm l x mX4_readRider 7 49 [(0, .ref a0), (1, .int r94), (2, .int r99), (3, .int r104)] [] h109 rc rs n0 Q X
      refine g_aload_n dX4_readRider_49 rfl 0 rfl ?_
      obtain ⟨z110, K⟩ := K
      refine g_ldcS (j := 9) dX4_readRider_50 z110 ?_
      obtain ⟨e113, K⟩ := K
      obtain ⟨q111, C112, K⟩ := K
      refine g_callV (M' := mX4_isWord) (b := a0) (As := [.retAddr 9]) (rest := []) (rc' := rc) (rs' := rs) dX4_readRider_52 bw_782 bw_784 bs_23 bw_2 bw_785 ⟨by decide +kernel, by decide +kernel, show (parseMethodDescriptor mX4_isWord.1.desc).map (fun d => d.parameters.length) = some 1 by decide +kernel⟩ (by decide) (by decide) (Nat.le_of_ble_eq_true rfl) fc_4 (by decide) rfl e113 C112 (Nat.le_of_eq (Nat.add_zero _)) (Nat.le_of_eq (Nat.add_zero _)) (fun _ _ h => h) ?_
      rintro _ h114 ⟨r115, rfl, K1⟩ -
      replace K := K r115 h114 K1
      show Gm l x mX4_readRider 7 55 [(0, .ref a0), (1, .int r94), (2, .int r99), (3, .int r104)] [.int r115] h114 rc rs n0 Q X
      refine g_istore (lv' := [(0, .ref a0), (1, .int r94), (2, .int r99), (3, .int r104), (4, .int r115)]) dX4_readRider_55 (by decide) rfl ?_
      refine g_iload dX4_readRider_57 4 rfl ?_
      refine g_if_eq (tgt := 66) dX4_readRider_59 (by decide) (fun c116 => ?_) (fun c116 => ?_)
      · replace K := K.1 c116
        refine g_aload_n dX4_readRider_66 rfl 0 rfl ?_
        obtain ⟨e117, b118, e119, K⟩ := K
        refine g_get (c := 4) (k := 2) (v := .ref b118) dX4_readRider_67 fc_4 (by decide) (by decide) bw_267 (congrArg pr e119) e117 ?_
        refine g_iload_n dX4_readRider_70 rfl 1 rfl ?_
        refine g_iload_n dX4_readRider_71 rfl 2 rfl ?_
        refine g_iload_n dX4_readRider_72 rfl 3 rfl ?_
        refine g_iload dX4_readRider_73 4 rfl ?_
        have KJ : Gm l x mX4_readRider 7 83 [(0, .ref a0), (1, .int r94), (2, .int r99), (3, .int r104), (4, .int r115)] [.int (if r115 = 0 then 1 else 2 : Int32), .int r104, .int r99, .int r94, .ref b118] h114 rc rs n0 Q X := by
          obtain ⟨e123, K⟩ := K
          obtain ⟨q121, C122, K⟩ := K
          refine g_callV (M' := mX1_addRider) (b := b118) (As := [.int r94, .int r99, .int r104, .int (if r115 = 0 then 1 else 2 : Int32)]) (rest := []) (rc' := rc) (rs' := rs) dX4_readRider_83 bw_872 bw_621 bw_622 bw_3 bw_623 ⟨by decide +kernel, by decide +kernel, show (parseMethodDescriptor mX1_addRider.1.desc).map (fun d => d.parameters.length) = some 4 by decide +kernel⟩ (by decide) (by decide) (Nat.le_of_ble_eq_true rfl) fc_1 (by decide) rfl e123 C122 (Nat.le_of_eq (Nat.add_zero _)) (Nat.le_of_eq (Nat.add_zero _)) (fun _ _ h => h) ?_
          rintro _ h124 ⟨rfl, K1⟩ -
          replace K := K h124 K1
          show Gm l x mX4_readRider 7 86 [(0, .ref a0), (1, .int r94), (2, .int r99), (3, .int r104), (4, .int r115)] [] h124 rc rs n0 Q X
          exact g_vret dX4_readRider_86 rfl K
        refine g_if_eq (tgt := 82) dX4_readRider_75 (by decide) (fun c120 => ?_) (fun c120 => ?_)
        · refine g_iconst (v := 1) dX4_readRider_82 (by decide) ?_
          first | (simp only [if_pos c120] at KJ; exact KJ) | (simp only [if_pos c120, ite_true, ite_false, eq_self] at KJ; exact KJ) | (simp only [if_pos c120] at KJ ⊢; exact KJ) | exact KJ
        · refine g_iconst (v := 2) dX4_readRider_78 (by decide) ?_
          refine g_goto (tgt := 83) dX4_readRider_79 (by decide) ?_
          first | (simp only [if_neg c120] at KJ; exact KJ) | (simp only [if_neg c120, ite_true, ite_false, eq_self] at KJ; exact KJ) | (simp only [if_neg c120] at KJ ⊢; exact KJ) | exact KJ
      · replace K := K.2 c116
        refine g_aload_n dX4_readRider_62 rfl 0 rfl ?_
        obtain ⟨e127, K⟩ := K
        obtain ⟨q125, C126, K⟩ := K
        refine g_callV (M' := mX4_next) (b := a0) (As := []) (rest := []) (rc' := rc) (rs' := rs) dX4_readRider_63 bw_767 bw_769 bs_21 bw_2 bw_770 ⟨by decide +kernel, by decide +kernel, show (parseMethodDescriptor mX4_next.1.desc).map (fun d => d.parameters.length) = some 0 by decide +kernel⟩ (by decide) (by decide) (Nat.le_of_ble_eq_true rfl) fc_4 (by decide) rfl e127 C126 (Nat.le_of_eq (Nat.add_zero _)) (Nat.le_of_eq (Nat.add_zero _)) (fun _ _ h => h) ?_
        rintro _ h128 ⟨rfl, K1⟩ -
        replace K := K h128 K1
        show Gm l x mX4_readRider 7 66 [(0, .ref a0), (1, .int r94), (2, .int r99), (3, .int r104), (4, .int r115)] [] h128 rc rs n0 Q X
        refine g_aload_n dX4_readRider_66 rfl 0 rfl ?_
        obtain ⟨e129, b130, e131, K⟩ := K
        refine g_get (c := 4) (k := 2) (v := .ref b130) dX4_readRider_67 fc_4 (by decide) (by decide) bw_267 (congrArg pr e131) e129 ?_
        refine g_iload_n dX4_readRider_70 rfl 1 rfl ?_
        refine g_iload_n dX4_readRider_71 rfl 2 rfl ?_
        refine g_iload_n dX4_readRider_72 rfl 3 rfl ?_
        refine g_iload dX4_readRider_73 4 rfl ?_
        have KJ : Gm l x mX4_readRider 7 83 [(0, .ref a0), (1, .int r94), (2, .int r99), (3, .int r104), (4, .int r115)] [.int (if r115 = 0 then 1 else 2 : Int32), .int r104, .int r99, .int r94, .ref b130] h128 rc rs n0 Q X := by
          obtain ⟨e135, K⟩ := K
          obtain ⟨q133, C134, K⟩ := K
          refine g_callV (M' := mX1_addRider) (b := b130) (As := [.int r94, .int r99, .int r104, .int (if r115 = 0 then 1 else 2 : Int32)]) (rest := []) (rc' := rc) (rs' := rs) dX4_readRider_83 bw_872 bw_621 bw_622 bw_3 bw_623 ⟨by decide +kernel, by decide +kernel, show (parseMethodDescriptor mX1_addRider.1.desc).map (fun d => d.parameters.length) = some 4 by decide +kernel⟩ (by decide) (by decide) (Nat.le_of_ble_eq_true rfl) fc_1 (by decide) rfl e135 C134 (Nat.le_of_eq (Nat.add_zero _)) (Nat.le_of_eq (Nat.add_zero _)) (fun _ _ h => h) ?_
          rintro _ h136 ⟨rfl, K1⟩ -
          replace K := K h136 K1
          show Gm l x mX4_readRider 7 86 [(0, .ref a0), (1, .int r94), (2, .int r99), (3, .int r104), (4, .int r115)] [] h136 rc rs n0 Q X
          exact g_vret dX4_readRider_86 rfl K
        refine g_if_eq (tgt := 82) dX4_readRider_75 (by decide) (fun c132 => ?_) (fun c132 => ?_)
        · refine g_iconst (v := 1) dX4_readRider_82 (by decide) ?_
          first | (simp only [if_pos c132] at KJ; exact KJ) | (simp only [if_pos c132, ite_true, ite_false, eq_self] at KJ; exact KJ) | (simp only [if_pos c132] at KJ ⊢; exact KJ) | exact KJ
        · refine g_iconst (v := 2) dX4_readRider_78 (by decide) ?_
          refine g_goto (tgt := 83) dX4_readRider_79 (by decide) ?_
          first | (simp only [if_neg c132] at KJ; exact KJ) | (simp only [if_neg c132, ite_true, ite_false, eq_self] at KJ; exact KJ) | (simp only [if_neg c132] at KJ ⊢; exact KJ) | exact KJ
    · replace K := K.2 c105
      refine g_aload_n dX4_readRider_40 rfl 0 rfl ?_
      refine g_iconst (v := 5) dX4_readRider_41 (by decide) ?_
      obtain ⟨e139, K⟩ := K
      obtain ⟨q137, C138, K⟩ := K
      refine g_callV (M' := mX4_fail) (b := a0) (As := [.int 5]) (rest := []) (rc' := rc) (rs' := rs) dX4_readRider_42 bw_838 bw_840 bs_25 bw_2 bw_841 ⟨by decide +kernel, by decide +kernel, show (parseMethodDescriptor mX4_fail.1.desc).map (fun d => d.parameters.length) = some 1 by decide +kernel⟩ (by decide) (by decide) (Nat.le_of_ble_eq_true rfl) fc_4 (by decide) rfl e139 C138 (Nat.le_of_eq (Nat.add_zero _)) (Nat.le_of_eq (Nat.add_zero _)) (fun _ _ h => h) ?_
      rintro _ h140 ⟨rfl, K1⟩ -
      replace K := K h140 K1
      show Gm l x mX4_readRider 7 45 [(0, .ref a0), (1, .int r94), (2, .int r99), (3, .int r104)] [] h140 rc rs n0 Q X
      refine g_aload_n dX4_readRider_45 rfl 0 rfl ?_
      obtain ⟨e143, K⟩ := K
      obtain ⟨q141, C142, K⟩ := K
      refine g_callV (M' := mX4_next) (b := a0) (As := []) (rest := []) (rc' := rc) (rs' := rs) dX4_readRider_46 bw_767 bw_769 bs_21 bw_2 bw_770 ⟨by decide +kernel, by decide +kernel, show (parseMethodDescriptor mX4_next.1.desc).map (fun d => d.parameters.length) = some 0 by decide +kernel⟩ (by decide) (by decide) (Nat.le_of_ble_eq_true rfl) fc_4 (by decide) rfl e143 C142 (Nat.le_of_eq (Nat.add_zero _)) (Nat.le_of_eq (Nat.add_zero _)) (fun _ _ h => h) ?_
      rintro _ h144 ⟨rfl, K1⟩ -
      replace K := K h144 K1
      show Gm l x mX4_readRider 7 49 [(0, .ref a0), (1, .int r94), (2, .int r99), (3, .int r104)] [] h144 rc rs n0 Q X
      refine g_aload_n dX4_readRider_49 rfl 0 rfl ?_
      obtain ⟨z145, K⟩ := K
      refine g_ldcS (j := 9) dX4_readRider_50 z145 ?_
      obtain ⟨e148, K⟩ := K
      obtain ⟨q146, C147, K⟩ := K
      refine g_callV (M' := mX4_isWord) (b := a0) (As := [.retAddr 9]) (rest := []) (rc' := rc) (rs' := rs) dX4_readRider_52 bw_782 bw_784 bs_23 bw_2 bw_785 ⟨by decide +kernel, by decide +kernel, show (parseMethodDescriptor mX4_isWord.1.desc).map (fun d => d.parameters.length) = some 1 by decide +kernel⟩ (by decide) (by decide) (Nat.le_of_ble_eq_true rfl) fc_4 (by decide) rfl e148 C147 (Nat.le_of_eq (Nat.add_zero _)) (Nat.le_of_eq (Nat.add_zero _)) (fun _ _ h => h) ?_
      rintro _ h149 ⟨r150, rfl, K1⟩ -
      replace K := K r150 h149 K1
      show Gm l x mX4_readRider 7 55 [(0, .ref a0), (1, .int r94), (2, .int r99), (3, .int r104)] [.int r150] h149 rc rs n0 Q X
      refine g_istore (lv' := [(0, .ref a0), (1, .int r94), (2, .int r99), (3, .int r104), (4, .int r150)]) dX4_readRider_55 (by decide) rfl ?_
      refine g_iload dX4_readRider_57 4 rfl ?_
      refine g_if_eq (tgt := 66) dX4_readRider_59 (by decide) (fun c151 => ?_) (fun c151 => ?_)
      · replace K := K.1 c151
        refine g_aload_n dX4_readRider_66 rfl 0 rfl ?_
        obtain ⟨e152, b153, e154, K⟩ := K
        refine g_get (c := 4) (k := 2) (v := .ref b153) dX4_readRider_67 fc_4 (by decide) (by decide) bw_267 (congrArg pr e154) e152 ?_
        refine g_iload_n dX4_readRider_70 rfl 1 rfl ?_
        refine g_iload_n dX4_readRider_71 rfl 2 rfl ?_
        refine g_iload_n dX4_readRider_72 rfl 3 rfl ?_
        refine g_iload dX4_readRider_73 4 rfl ?_
        have KJ : Gm l x mX4_readRider 7 83 [(0, .ref a0), (1, .int r94), (2, .int r99), (3, .int r104), (4, .int r150)] [.int (if r150 = 0 then 1 else 2 : Int32), .int r104, .int r99, .int r94, .ref b153] h149 rc rs n0 Q X := by
          obtain ⟨e158, K⟩ := K
          obtain ⟨q156, C157, K⟩ := K
          refine g_callV (M' := mX1_addRider) (b := b153) (As := [.int r94, .int r99, .int r104, .int (if r150 = 0 then 1 else 2 : Int32)]) (rest := []) (rc' := rc) (rs' := rs) dX4_readRider_83 bw_872 bw_621 bw_622 bw_3 bw_623 ⟨by decide +kernel, by decide +kernel, show (parseMethodDescriptor mX1_addRider.1.desc).map (fun d => d.parameters.length) = some 4 by decide +kernel⟩ (by decide) (by decide) (Nat.le_of_ble_eq_true rfl) fc_1 (by decide) rfl e158 C157 (Nat.le_of_eq (Nat.add_zero _)) (Nat.le_of_eq (Nat.add_zero _)) (fun _ _ h => h) ?_
          rintro _ h159 ⟨rfl, K1⟩ -
          replace K := K h159 K1
          show Gm l x mX4_readRider 7 86 [(0, .ref a0), (1, .int r94), (2, .int r99), (3, .int r104), (4, .int r150)] [] h159 rc rs n0 Q X
          exact g_vret dX4_readRider_86 rfl K
        refine g_if_eq (tgt := 82) dX4_readRider_75 (by decide) (fun c155 => ?_) (fun c155 => ?_)
        · refine g_iconst (v := 1) dX4_readRider_82 (by decide) ?_
          first | (simp only [if_pos c155] at KJ; exact KJ) | (simp only [if_pos c155, ite_true, ite_false, eq_self] at KJ; exact KJ) | (simp only [if_pos c155] at KJ ⊢; exact KJ) | exact KJ
        · refine g_iconst (v := 2) dX4_readRider_78 (by decide) ?_
          refine g_goto (tgt := 83) dX4_readRider_79 (by decide) ?_
          first | (simp only [if_neg c155] at KJ; exact KJ) | (simp only [if_neg c155, ite_true, ite_false, eq_self] at KJ; exact KJ) | (simp only [if_neg c155] at KJ ⊢; exact KJ) | exact KJ
      · replace K := K.2 c151
        refine g_aload_n dX4_readRider_62 rfl 0 rfl ?_
        obtain ⟨e162, K⟩ := K
        obtain ⟨q160, C161, K⟩ := K
        refine g_callV (M' := mX4_next) (b := a0) (As := []) (rest := []) (rc' := rc) (rs' := rs) dX4_readRider_63 bw_767 bw_769 bs_21 bw_2 bw_770 ⟨by decide +kernel, by decide +kernel, show (parseMethodDescriptor mX4_next.1.desc).map (fun d => d.parameters.length) = some 0 by decide +kernel⟩ (by decide) (by decide) (Nat.le_of_ble_eq_true rfl) fc_4 (by decide) rfl e162 C161 (Nat.le_of_eq (Nat.add_zero _)) (Nat.le_of_eq (Nat.add_zero _)) (fun _ _ h => h) ?_
        rintro _ h163 ⟨rfl, K1⟩ -
        replace K := K h163 K1
        show Gm l x mX4_readRider 7 66 [(0, .ref a0), (1, .int r94), (2, .int r99), (3, .int r104), (4, .int r150)] [] h163 rc rs n0 Q X
        refine g_aload_n dX4_readRider_66 rfl 0 rfl ?_
        obtain ⟨e164, b165, e166, K⟩ := K
        refine g_get (c := 4) (k := 2) (v := .ref b165) dX4_readRider_67 fc_4 (by decide) (by decide) bw_267 (congrArg pr e166) e164 ?_
        refine g_iload_n dX4_readRider_70 rfl 1 rfl ?_
        refine g_iload_n dX4_readRider_71 rfl 2 rfl ?_
        refine g_iload_n dX4_readRider_72 rfl 3 rfl ?_
        refine g_iload dX4_readRider_73 4 rfl ?_
        have KJ : Gm l x mX4_readRider 7 83 [(0, .ref a0), (1, .int r94), (2, .int r99), (3, .int r104), (4, .int r150)] [.int (if r150 = 0 then 1 else 2 : Int32), .int r104, .int r99, .int r94, .ref b165] h163 rc rs n0 Q X := by
          obtain ⟨e170, K⟩ := K
          obtain ⟨q168, C169, K⟩ := K
          refine g_callV (M' := mX1_addRider) (b := b165) (As := [.int r94, .int r99, .int r104, .int (if r150 = 0 then 1 else 2 : Int32)]) (rest := []) (rc' := rc) (rs' := rs) dX4_readRider_83 bw_872 bw_621 bw_622 bw_3 bw_623 ⟨by decide +kernel, by decide +kernel, show (parseMethodDescriptor mX1_addRider.1.desc).map (fun d => d.parameters.length) = some 4 by decide +kernel⟩ (by decide) (by decide) (Nat.le_of_ble_eq_true rfl) fc_1 (by decide) rfl e170 C169 (Nat.le_of_eq (Nat.add_zero _)) (Nat.le_of_eq (Nat.add_zero _)) (fun _ _ h => h) ?_
          rintro _ h171 ⟨rfl, K1⟩ -
          replace K := K h171 K1
          show Gm l x mX4_readRider 7 86 [(0, .ref a0), (1, .int r94), (2, .int r99), (3, .int r104), (4, .int r150)] [] h171 rc rs n0 Q X
          exact g_vret dX4_readRider_86 rfl K
        refine g_if_eq (tgt := 82) dX4_readRider_75 (by decide) (fun c167 => ?_) (fun c167 => ?_)
        · refine g_iconst (v := 1) dX4_readRider_82 (by decide) ?_
          first | (simp only [if_pos c167] at KJ; exact KJ) | (simp only [if_pos c167, ite_true, ite_false, eq_self] at KJ; exact KJ) | (simp only [if_pos c167] at KJ ⊢; exact KJ) | exact KJ
        · refine g_iconst (v := 2) dX4_readRider_78 (by decide) ?_
          refine g_goto (tgt := 83) dX4_readRider_79 (by decide) ?_
          first | (simp only [if_neg c167] at KJ; exact KJ) | (simp only [if_neg c167, ite_true, ite_false, eq_self] at KJ; exact KJ) | (simp only [if_neg c167] at KJ ⊢; exact KJ) | exact KJ
theorem dX4_readClause_0 : decode cX4_readClause 0 = .ok (.aload_n 0, 1) := by decide +kernel
theorem dX4_readClause_1 : decode cX4_readClause 1 = .ok (.ldc 88, 2) := by decide +kernel
theorem dX4_readClause_3 : decode cX4_readClause 3 = .ok (.invokevirtual 90, 3) := by decide +kernel
theorem dX4_readClause_6 : decode cX4_readClause 6 = .ok (.ifCond .eq 10, 3) := by decide +kernel
theorem dX4_readClause_9 : decode cX4_readClause 9 = .ok (.aload_n 0, 1) := by decide +kernel
theorem dX4_readClause_10 : decode cX4_readClause 10 = .ok (.invokevirtual 94, 3) := by decide +kernel
theorem dX4_readClause_13 : decode cX4_readClause 13 = .ok (.goto 147, 3) := by decide +kernel
theorem dX4_readClause_16 : decode cX4_readClause 16 = .ok (.aload_n 0, 1) := by decide +kernel
theorem dX4_readClause_17 : decode cX4_readClause 17 = .ok (.ldc 97, 2) := by decide +kernel
theorem dX4_readClause_19 : decode cX4_readClause 19 = .ok (.invokevirtual 90, 3) := by decide +kernel
theorem dX4_readClause_22 : decode cX4_readClause 22 = .ok (.ifCond .eq 10, 3) := by decide +kernel
theorem dX4_readClause_25 : decode cX4_readClause 25 = .ok (.aload_n 0, 1) := by decide +kernel
theorem dX4_readClause_26 : decode cX4_readClause 26 = .ok (.invokevirtual 99, 3) := by decide +kernel
theorem dX4_readClause_29 : decode cX4_readClause 29 = .ok (.goto 131, 3) := by decide +kernel
theorem dX4_readClause_32 : decode cX4_readClause 32 = .ok (.aload_n 0, 1) := by decide +kernel
theorem dX4_readClause_33 : decode cX4_readClause 33 = .ok (.ldc 102, 2) := by decide +kernel
theorem dX4_readClause_35 : decode cX4_readClause 35 = .ok (.invokevirtual 90, 3) := by decide +kernel
theorem dX4_readClause_38 : decode cX4_readClause 38 = .ok (.ifCond .eq 10, 3) := by decide +kernel
theorem dX4_readClause_41 : decode cX4_readClause 41 = .ok (.aload_n 0, 1) := by decide +kernel
theorem dX4_readClause_42 : decode cX4_readClause 42 = .ok (.invokevirtual 104, 3) := by decide +kernel
theorem dX4_readClause_45 : decode cX4_readClause 45 = .ok (.goto 115, 3) := by decide +kernel
theorem dX4_readClause_48 : decode cX4_readClause 48 = .ok (.aload_n 0, 1) := by decide +kernel
theorem dX4_readClause_49 : decode cX4_readClause 49 = .ok (.ldc 107, 2) := by decide +kernel
theorem dX4_readClause_51 : decode cX4_readClause 51 = .ok (.invokevirtual 90, 3) := by decide +kernel
theorem dX4_readClause_54 : decode cX4_readClause 54 = .ok (.ifCond .eq 20, 3) := by decide +kernel
theorem dX4_readClause_57 : decode cX4_readClause 57 = .ok (.aload_n 0, 1) := by decide +kernel
theorem dX4_readClause_58 : decode cX4_readClause 58 = .ok (.getfield 22, 3) := by decide +kernel
theorem dX4_readClause_61 : decode cX4_readClause 61 = .ok (.aload_n 0, 1) := by decide +kernel
theorem dX4_readClause_62 : decode cX4_readClause 62 = .ok (.iconst 1, 1) := by decide +kernel
theorem dX4_readClause_63 : decode cX4_readClause 63 = .ok (.iconst 1, 1) := by decide +kernel
theorem dX4_readClause_64 : decode cX4_readClause 64 = .ok (.iconst 4, 1) := by decide +kernel
theorem dX4_readClause_65 : decode cX4_readClause 65 = .ok (.invokevirtual 109, 3) := by decide +kernel
theorem dX4_readClause_68 : decode cX4_readClause 68 = .ok (.putfield 113, 3) := by decide +kernel
theorem dX4_readClause_71 : decode cX4_readClause 71 = .ok (.goto 89, 3) := by decide +kernel
theorem dX4_readClause_74 : decode cX4_readClause 74 = .ok (.aload_n 0, 1) := by decide +kernel
theorem dX4_readClause_75 : decode cX4_readClause 75 = .ok (.ldc 115, 2) := by decide +kernel
theorem dX4_readClause_77 : decode cX4_readClause 77 = .ok (.invokevirtual 90, 3) := by decide +kernel
theorem dX4_readClause_80 : decode cX4_readClause 80 = .ok (.ifCond .eq 21, 3) := by decide +kernel
theorem dX4_readClause_83 : decode cX4_readClause 83 = .ok (.aload_n 0, 1) := by decide +kernel
theorem dX4_readClause_84 : decode cX4_readClause 84 = .ok (.getfield 22, 3) := by decide +kernel
theorem dX4_readClause_87 : decode cX4_readClause 87 = .ok (.aload_n 0, 1) := by decide +kernel
theorem dX4_readClause_88 : decode cX4_readClause 88 = .ok (.iconst 2, 1) := by decide +kernel
theorem dX4_readClause_89 : decode cX4_readClause 89 = .ok (.iconst 0, 1) := by decide +kernel
theorem dX4_readClause_90 : decode cX4_readClause 90 = .ok (.bipush 11, 2) := by decide +kernel
theorem dX4_readClause_92 : decode cX4_readClause 92 = .ok (.invokevirtual 109, 3) := by decide +kernel
theorem dX4_readClause_95 : decode cX4_readClause 95 = .ok (.putfield 117, 3) := by decide +kernel
theorem dX4_readClause_98 : decode cX4_readClause 98 = .ok (.goto 62, 3) := by decide +kernel
theorem dX4_readClause_101 : decode cX4_readClause 101 = .ok (.aload_n 0, 1) := by decide +kernel
theorem dX4_readClause_102 : decode cX4_readClause 102 = .ok (.ldc 119, 2) := by decide +kernel
theorem dX4_readClause_104 : decode cX4_readClause 104 = .ok (.invokevirtual 90, 3) := by decide +kernel
theorem dX4_readClause_107 : decode cX4_readClause 107 = .ok (.ifCond .eq 20, 3) := by decide +kernel
theorem dX4_readClause_110 : decode cX4_readClause 110 = .ok (.aload_n 0, 1) := by decide +kernel
theorem dX4_readClause_111 : decode cX4_readClause 111 = .ok (.getfield 22, 3) := by decide +kernel
theorem dX4_readClause_114 : decode cX4_readClause 114 = .ok (.aload_n 0, 1) := by decide +kernel
theorem dX4_readClause_115 : decode cX4_readClause 115 = .ok (.iconst 4, 1) := by decide +kernel
theorem dX4_readClause_116 : decode cX4_readClause 116 = .ok (.iconst 0, 1) := by decide +kernel
theorem dX4_readClause_117 : decode cX4_readClause 117 = .ok (.iconst 2, 1) := by decide +kernel
theorem dX4_readClause_118 : decode cX4_readClause 118 = .ok (.invokevirtual 109, 3) := by decide +kernel
theorem dX4_readClause_121 : decode cX4_readClause 121 = .ok (.putfield 121, 3) := by decide +kernel
theorem dX4_readClause_124 : decode cX4_readClause 124 = .ok (.goto 36, 3) := by decide +kernel
theorem dX4_readClause_127 : decode cX4_readClause 127 = .ok (.aload_n 0, 1) := by decide +kernel
theorem dX4_readClause_128 : decode cX4_readClause 128 = .ok (.ldc 123, 2) := by decide +kernel
theorem dX4_readClause_130 : decode cX4_readClause 130 = .ok (.invokevirtual 90, 3) := by decide +kernel
theorem dX4_readClause_133 : decode cX4_readClause 133 = .ok (.ifCond .eq 22, 3) := by decide +kernel
theorem dX4_readClause_136 : decode cX4_readClause 136 = .ok (.aload_n 0, 1) := by decide +kernel
theorem dX4_readClause_137 : decode cX4_readClause 137 = .ok (.getfield 22, 3) := by decide +kernel
theorem dX4_readClause_140 : decode cX4_readClause 140 = .ok (.aload_n 0, 1) := by decide +kernel
theorem dX4_readClause_141 : decode cX4_readClause 141 = .ok (.bipush 8, 2) := by decide +kernel
theorem dX4_readClause_143 : decode cX4_readClause 143 = .ok (.iconst 0, 1) := by decide +kernel
theorem dX4_readClause_144 : decode cX4_readClause 144 = .ok (.bipush 8, 2) := by decide +kernel
theorem dX4_readClause_146 : decode cX4_readClause 146 = .ok (.invokevirtual 109, 3) := by decide +kernel
theorem dX4_readClause_149 : decode cX4_readClause 149 = .ok (.putfield 125, 3) := by decide +kernel
theorem dX4_readClause_152 : decode cX4_readClause 152 = .ok (.goto 8, 3) := by decide +kernel
theorem dX4_readClause_155 : decode cX4_readClause 155 = .ok (.aload_n 0, 1) := by decide +kernel
theorem dX4_readClause_156 : decode cX4_readClause 156 = .ok (.iconst 1, 1) := by decide +kernel
theorem dX4_readClause_157 : decode cX4_readClause 157 = .ok (.invokevirtual 68, 3) := by decide +kernel
theorem dX4_readClause_160 : decode cX4_readClause 160 = .ok (.return_, 1) := by decide +kernel
set_option maxRecDepth 20000 in
set_option maxHeartbeats 4000000 in
theorem vX4_readClause_0 {l : Launch} {x : CX} {a0 : Nat} {h : PH} {rc rs n0 : Nat} {Q : Option Value → PH → Prop} {X : String → PH → Prop}
    (K : (TxtOk x RX4 88 "floors" 0) ∧ ((hK h a0).1 = 4) ∧ ∃ (q2 : Int32 → PH → Prop), CI l x mX4_isWord 6 0 0 [.ref a0, .retAddr 0] h q2 ∧ ∀ (r6 : Int32) (h5 : PH), q2 r6 h5 → ((r6 = 0 → (TxtOk x RX4 97 "car" 1) ∧ ((hK h5 a0).1 = 4) ∧ ∃ (q9 : Int32 → PH → Prop), CI l x mX4_isWord 6 0 0 [.ref a0, .retAddr 1] h5 q9 ∧ ∀ (r13 : Int32) (h12 : PH), q9 r13 h12 → ((r13 = 0 → (TxtOk x RX4 102 "rider" 2) ∧ ((hK h12 a0).1 = 4) ∧ ∃ (q16 : Int32 → PH → Prop), CI l x mX4_isWord 6 0 0 [.ref a0, .retAddr 2] h12 q16 ∧ ∀ (r20 : Int32) (h19 : PH), q16 r20 h19 → ((r20 = 0 → (TxtOk x RX4 107 "dwell" 3) ∧ ((hK h19 a0).1 = 4) ∧ ∃ (q23 : Int32 → PH → Prop), CI l x mX4_isWord 6 0 0 [.ref a0, .retAddr 3] h19 q23 ∧ ∀ (r27 : Int32) (h26 : PH), q23 r27 h26 → ((r27 = 0 → (TxtOk x RX4 115 "late" 4) ∧ ((hK h26 a0).1 = 4) ∧ ∃ (q30 : Int32 → PH → Prop), CI l x mX4_isWord 6 0 0 [.ref a0, .retAddr 4] h26 q30 ∧ ∀ (r34 : Int32) (h33 : PH), q30 r34 h33 → ((r34 = 0 → (TxtOk x RX4 119 "policy" 5) ∧ ((hK h33 a0).1 = 4) ∧ ∃ (q37 : Int32 → PH → Prop), CI l x mX4_isWord 6 0 0 [.ref a0, .retAddr 5] h33 q37 ∧ ∀ (r41 : Int32) (h40 : PH), q37 r41 h40 → ((r41 = 0 → (TxtOk x RX4 123 "peak" 6) ∧ ((hK h40 a0).1 = 4) ∧ ∃ (q44 : Int32 → PH → Prop), CI l x mX4_isWord 6 0 0 [.ref a0, .retAddr 6] h40 q44 ∧ ∀ (r48 : Int32) (h47 : PH), q44 r48 h47 → ((r48 = 0 → ((hK h47 a0).1 = 4) ∧ ∃ (q50 : PH → Prop), CV l x mX4_fail 0 0 0 [.ref a0, .int 1] h47 q50 ∧ ∀ (h53 : PH), q50 h53 → Q none h53) ∧ (¬ r48 = 0 → ((hK h47 a0).1 = 4) ∧ ∃ b55, (hR h47 a0 2 = some b55) ∧ ∃ (q57 : Int32 → PH → Prop), CI l x mX4_readSetting 3 0 0 [.ref a0, .int 8, .int 0, .int 8] h47 q57 ∧ ∀ (r60 : Int32) (h59 : PH), q57 r60 h59 → ((hK h59 b55).1 = 1) ∧ Q none (sI h59 b55 6 r60)))) ∧ (¬ r41 = 0 → ((hK h40 a0).1 = 4) ∧ ∃ b63, (hR h40 a0 2 = some b63) ∧ ∃ (q65 : Int32 → PH → Prop), CI l x mX4_readSetting 3 0 0 [.ref a0, .int 4, .int 0, .int 2] h40 q65 ∧ ∀ (r68 : Int32) (h67 : PH), q65 r68 h67 → ((hK h67 b63).1 = 1) ∧ Q none (sI h67 b63 5 r68)))) ∧ (¬ r34 = 0 → ((hK h33 a0).1 = 4) ∧ ∃ b71, (hR h33 a0 2 = some b71) ∧ ∃ (q73 : Int32 → PH → Prop), CI l x mX4_readSetting 3 0 0 [.ref a0, .int 2, .int 0, .int 11] h33 q73 ∧ ∀ (r76 : Int32) (h75 : PH), q73 r76 h75 → ((hK h75 b71).1 = 1) ∧ Q none (sI h75 b71 4 r76)))) ∧ (¬ r27 = 0 → ((hK h26 a0).1 = 4) ∧ ∃ b79, (hR h26 a0 2 = some b79) ∧ ∃ (q81 : Int32 → PH → Prop), CI l x mX4_readSetting 3 0 0 [.ref a0, .int 1, .int 1, .int 4] h26 q81 ∧ ∀ (r84 : Int32) (h83 : PH), q81 r84 h83 → ((hK h83 b79).1 = 1) ∧ Q none (sI h83 b79 3 r84)))) ∧ (¬ r20 = 0 → ((hK h19 a0).1 = 4) ∧ ∃ (q86 : PH → Prop), CV l x mX4_readRider 7 0 0 [.ref a0] h19 q86 ∧ ∀ (h89 : PH), q86 h89 → Q none h89))) ∧ (¬ r13 = 0 → ((hK h12 a0).1 = 4) ∧ ∃ (q90 : PH → Prop), CV l x mX4_readCar 7 0 0 [.ref a0] h12 q90 ∧ ∀ (h93 : PH), q90 h93 → Q none h93))) ∧ (¬ r6 = 0 → ((hK h5 a0).1 = 4) ∧ ∃ (q94 : PH → Prop), CV l x mX4_readFloors 3 0 0 [.ref a0] h5 q94 ∧ ∀ (h97 : PH), q94 h97 → Q none h97))) :
    Gm l x mX4_readClause 8 0 [(0, .ref a0)] [] h rc rs n0 Q X := by
  refine g_aload_n dX4_readClause_0 rfl 0 rfl ?_
  obtain ⟨z1, K⟩ := K
  refine g_ldcS (j := 0) dX4_readClause_1 z1 ?_
  obtain ⟨e4, K⟩ := K
  obtain ⟨q2, C3, K⟩ := K
  refine g_callV (M' := mX4_isWord) (b := a0) (As := [.retAddr 0]) (rest := []) (rc' := rc) (rs' := rs) dX4_readClause_3 bw_782 bw_784 bs_23 bw_2 bw_785 ⟨by decide +kernel, by decide +kernel, show (parseMethodDescriptor mX4_isWord.1.desc).map (fun d => d.parameters.length) = some 1 by decide +kernel⟩ (by decide) (by decide) (Nat.le_of_ble_eq_true rfl) fc_4 (by decide) rfl e4 C3 (Nat.le_of_eq (Nat.add_zero _)) (Nat.le_of_eq (Nat.add_zero _)) (fun _ _ h => h) ?_
  rintro _ h5 ⟨r6, rfl, K1⟩ -
  replace K := K r6 h5 K1
  show Gm l x mX4_readClause 8 6 [(0, .ref a0)] [.int r6] h5 rc rs n0 Q X
  refine g_if_eq (tgt := 16) dX4_readClause_6 (by decide) (fun c7 => ?_) (fun c7 => ?_)
  · replace K := K.1 c7
    refine g_aload_n dX4_readClause_16 rfl 0 rfl ?_
    obtain ⟨z8, K⟩ := K
    refine g_ldcS (j := 1) dX4_readClause_17 z8 ?_
    obtain ⟨e11, K⟩ := K
    obtain ⟨q9, C10, K⟩ := K
    refine g_callV (M' := mX4_isWord) (b := a0) (As := [.retAddr 1]) (rest := []) (rc' := rc) (rs' := rs) dX4_readClause_19 bw_782 bw_784 bs_23 bw_2 bw_785 ⟨by decide +kernel, by decide +kernel, show (parseMethodDescriptor mX4_isWord.1.desc).map (fun d => d.parameters.length) = some 1 by decide +kernel⟩ (by decide) (by decide) (Nat.le_of_ble_eq_true rfl) fc_4 (by decide) rfl e11 C10 (Nat.le_of_eq (Nat.add_zero _)) (Nat.le_of_eq (Nat.add_zero _)) (fun _ _ h => h) ?_
    rintro _ h12 ⟨r13, rfl, K1⟩ -
    replace K := K r13 h12 K1
    show Gm l x mX4_readClause 8 22 [(0, .ref a0)] [.int r13] h12 rc rs n0 Q X
    refine g_if_eq (tgt := 32) dX4_readClause_22 (by decide) (fun c14 => ?_) (fun c14 => ?_)
    · replace K := K.1 c14
      refine g_aload_n dX4_readClause_32 rfl 0 rfl ?_
      obtain ⟨z15, K⟩ := K
      refine g_ldcS (j := 2) dX4_readClause_33 z15 ?_
      obtain ⟨e18, K⟩ := K
      obtain ⟨q16, C17, K⟩ := K
      refine g_callV (M' := mX4_isWord) (b := a0) (As := [.retAddr 2]) (rest := []) (rc' := rc) (rs' := rs) dX4_readClause_35 bw_782 bw_784 bs_23 bw_2 bw_785 ⟨by decide +kernel, by decide +kernel, show (parseMethodDescriptor mX4_isWord.1.desc).map (fun d => d.parameters.length) = some 1 by decide +kernel⟩ (by decide) (by decide) (Nat.le_of_ble_eq_true rfl) fc_4 (by decide) rfl e18 C17 (Nat.le_of_eq (Nat.add_zero _)) (Nat.le_of_eq (Nat.add_zero _)) (fun _ _ h => h) ?_
      rintro _ h19 ⟨r20, rfl, K1⟩ -
      replace K := K r20 h19 K1
      show Gm l x mX4_readClause 8 38 [(0, .ref a0)] [.int r20] h19 rc rs n0 Q X
      refine g_if_eq (tgt := 48) dX4_readClause_38 (by decide) (fun c21 => ?_) (fun c21 => ?_)
      · replace K := K.1 c21
        refine g_aload_n dX4_readClause_48 rfl 0 rfl ?_
        obtain ⟨z22, K⟩ := K
        refine g_ldcS (j := 3) dX4_readClause_49 z22 ?_
        obtain ⟨e25, K⟩ := K
        obtain ⟨q23, C24, K⟩ := K
        refine g_callV (M' := mX4_isWord) (b := a0) (As := [.retAddr 3]) (rest := []) (rc' := rc) (rs' := rs) dX4_readClause_51 bw_782 bw_784 bs_23 bw_2 bw_785 ⟨by decide +kernel, by decide +kernel, show (parseMethodDescriptor mX4_isWord.1.desc).map (fun d => d.parameters.length) = some 1 by decide +kernel⟩ (by decide) (by decide) (Nat.le_of_ble_eq_true rfl) fc_4 (by decide) rfl e25 C24 (Nat.le_of_eq (Nat.add_zero _)) (Nat.le_of_eq (Nat.add_zero _)) (fun _ _ h => h) ?_
        rintro _ h26 ⟨r27, rfl, K1⟩ -
        replace K := K r27 h26 K1
        show Gm l x mX4_readClause 8 54 [(0, .ref a0)] [.int r27] h26 rc rs n0 Q X
        refine g_if_eq (tgt := 74) dX4_readClause_54 (by decide) (fun c28 => ?_) (fun c28 => ?_)
        · replace K := K.1 c28
          refine g_aload_n dX4_readClause_74 rfl 0 rfl ?_
          obtain ⟨z29, K⟩ := K
          refine g_ldcS (j := 4) dX4_readClause_75 z29 ?_
          obtain ⟨e32, K⟩ := K
          obtain ⟨q30, C31, K⟩ := K
          refine g_callV (M' := mX4_isWord) (b := a0) (As := [.retAddr 4]) (rest := []) (rc' := rc) (rs' := rs) dX4_readClause_77 bw_782 bw_784 bs_23 bw_2 bw_785 ⟨by decide +kernel, by decide +kernel, show (parseMethodDescriptor mX4_isWord.1.desc).map (fun d => d.parameters.length) = some 1 by decide +kernel⟩ (by decide) (by decide) (Nat.le_of_ble_eq_true rfl) fc_4 (by decide) rfl e32 C31 (Nat.le_of_eq (Nat.add_zero _)) (Nat.le_of_eq (Nat.add_zero _)) (fun _ _ h => h) ?_
          rintro _ h33 ⟨r34, rfl, K1⟩ -
          replace K := K r34 h33 K1
          show Gm l x mX4_readClause 8 80 [(0, .ref a0)] [.int r34] h33 rc rs n0 Q X
          refine g_if_eq (tgt := 101) dX4_readClause_80 (by decide) (fun c35 => ?_) (fun c35 => ?_)
          · replace K := K.1 c35
            refine g_aload_n dX4_readClause_101 rfl 0 rfl ?_
            obtain ⟨z36, K⟩ := K
            refine g_ldcS (j := 5) dX4_readClause_102 z36 ?_
            obtain ⟨e39, K⟩ := K
            obtain ⟨q37, C38, K⟩ := K
            refine g_callV (M' := mX4_isWord) (b := a0) (As := [.retAddr 5]) (rest := []) (rc' := rc) (rs' := rs) dX4_readClause_104 bw_782 bw_784 bs_23 bw_2 bw_785 ⟨by decide +kernel, by decide +kernel, show (parseMethodDescriptor mX4_isWord.1.desc).map (fun d => d.parameters.length) = some 1 by decide +kernel⟩ (by decide) (by decide) (Nat.le_of_ble_eq_true rfl) fc_4 (by decide) rfl e39 C38 (Nat.le_of_eq (Nat.add_zero _)) (Nat.le_of_eq (Nat.add_zero _)) (fun _ _ h => h) ?_
            rintro _ h40 ⟨r41, rfl, K1⟩ -
            replace K := K r41 h40 K1
            show Gm l x mX4_readClause 8 107 [(0, .ref a0)] [.int r41] h40 rc rs n0 Q X
            refine g_if_eq (tgt := 127) dX4_readClause_107 (by decide) (fun c42 => ?_) (fun c42 => ?_)
            · replace K := K.1 c42
              refine g_aload_n dX4_readClause_127 rfl 0 rfl ?_
              obtain ⟨z43, K⟩ := K
              refine g_ldcS (j := 6) dX4_readClause_128 z43 ?_
              obtain ⟨e46, K⟩ := K
              obtain ⟨q44, C45, K⟩ := K
              refine g_callV (M' := mX4_isWord) (b := a0) (As := [.retAddr 6]) (rest := []) (rc' := rc) (rs' := rs) dX4_readClause_130 bw_782 bw_784 bs_23 bw_2 bw_785 ⟨by decide +kernel, by decide +kernel, show (parseMethodDescriptor mX4_isWord.1.desc).map (fun d => d.parameters.length) = some 1 by decide +kernel⟩ (by decide) (by decide) (Nat.le_of_ble_eq_true rfl) fc_4 (by decide) rfl e46 C45 (Nat.le_of_eq (Nat.add_zero _)) (Nat.le_of_eq (Nat.add_zero _)) (fun _ _ h => h) ?_
              rintro _ h47 ⟨r48, rfl, K1⟩ -
              replace K := K r48 h47 K1
              show Gm l x mX4_readClause 8 133 [(0, .ref a0)] [.int r48] h47 rc rs n0 Q X
              refine g_if_eq (tgt := 155) dX4_readClause_133 (by decide) (fun c49 => ?_) (fun c49 => ?_)
              · replace K := K.1 c49
                refine g_aload_n dX4_readClause_155 rfl 0 rfl ?_
                refine g_iconst (v := 1) dX4_readClause_156 (by decide) ?_
                obtain ⟨e52, K⟩ := K
                obtain ⟨q50, C51, K⟩ := K
                refine g_callV (M' := mX4_fail) (b := a0) (As := [.int 1]) (rest := []) (rc' := rc) (rs' := rs) dX4_readClause_157 bw_838 bw_840 bs_25 bw_2 bw_841 ⟨by decide +kernel, by decide +kernel, show (parseMethodDescriptor mX4_fail.1.desc).map (fun d => d.parameters.length) = some 1 by decide +kernel⟩ (by decide) (by decide) (Nat.le_of_ble_eq_true rfl) fc_4 (by decide) rfl e52 C51 (Nat.le_of_eq (Nat.add_zero _)) (Nat.le_of_eq (Nat.add_zero _)) (fun _ _ h => h) ?_
                rintro _ h53 ⟨rfl, K1⟩ -
                replace K := K h53 K1
                show Gm l x mX4_readClause 8 160 [(0, .ref a0)] [] h53 rc rs n0 Q X
                exact g_vret dX4_readClause_160 rfl K
              · replace K := K.2 c49
                refine g_aload_n dX4_readClause_136 rfl 0 rfl ?_
                obtain ⟨e54, b55, e56, K⟩ := K
                refine g_get (c := 4) (k := 2) (v := .ref b55) dX4_readClause_137 fc_4 (by decide) (by decide) bw_267 (congrArg pr e56) e54 ?_
                refine g_aload_n dX4_readClause_140 rfl 0 rfl ?_
                refine g_bipush (v := 8) dX4_readClause_141 (by decide) ?_
                refine g_iconst (v := 0) dX4_readClause_143 (by decide) ?_
                refine g_bipush (v := 8) dX4_readClause_144 (by decide) ?_
                obtain ⟨q57, C58, K⟩ := K
                refine g_callV (M' := mX4_readSetting) (b := a0) (As := [.int 8, .int 0, .int 8]) (rest := [.ref b55]) (rc' := rc) (rs' := rs) dX4_readClause_146 bw_874 bw_876 bs_30 bw_2 bw_877 ⟨by decide +kernel, by decide +kernel, show (parseMethodDescriptor mX4_readSetting.1.desc).map (fun d => d.parameters.length) = some 3 by decide +kernel⟩ (by decide) (by decide) (Nat.le_of_ble_eq_true rfl) fc_4 (by decide) rfl e54 C58 (Nat.le_of_eq (Nat.add_zero _)) (Nat.le_of_eq (Nat.add_zero _)) (fun _ _ h => h) ?_
                rintro _ h59 ⟨r60, rfl, K1⟩ -
                replace K := K r60 h59 K1
                show Gm l x mX4_readClause 8 149 [(0, .ref a0)] [.int r60, .ref b55] h59 rc rs n0 Q X
                obtain ⟨e61, K⟩ := K
                refine g_puti (c := 1) (k := 6) dX4_readClause_149 fc_1 (by decide) (by decide) bw_211 (Or.inl rfl) rfl e61 ?_
                refine g_goto (tgt := 160) dX4_readClause_152 (by decide) ?_
                exact g_vret dX4_readClause_160 rfl K
            · replace K := K.2 c42
              refine g_aload_n dX4_readClause_110 rfl 0 rfl ?_
              obtain ⟨e62, b63, e64, K⟩ := K
              refine g_get (c := 4) (k := 2) (v := .ref b63) dX4_readClause_111 fc_4 (by decide) (by decide) bw_267 (congrArg pr e64) e62 ?_
              refine g_aload_n dX4_readClause_114 rfl 0 rfl ?_
              refine g_iconst (v := 4) dX4_readClause_115 (by decide) ?_
              refine g_iconst (v := 0) dX4_readClause_116 (by decide) ?_
              refine g_iconst (v := 2) dX4_readClause_117 (by decide) ?_
              obtain ⟨q65, C66, K⟩ := K
              refine g_callV (M' := mX4_readSetting) (b := a0) (As := [.int 4, .int 0, .int 2]) (rest := [.ref b63]) (rc' := rc) (rs' := rs) dX4_readClause_118 bw_874 bw_876 bs_30 bw_2 bw_877 ⟨by decide +kernel, by decide +kernel, show (parseMethodDescriptor mX4_readSetting.1.desc).map (fun d => d.parameters.length) = some 3 by decide +kernel⟩ (by decide) (by decide) (Nat.le_of_ble_eq_true rfl) fc_4 (by decide) rfl e62 C66 (Nat.le_of_eq (Nat.add_zero _)) (Nat.le_of_eq (Nat.add_zero _)) (fun _ _ h => h) ?_
              rintro _ h67 ⟨r68, rfl, K1⟩ -
              replace K := K r68 h67 K1
              show Gm l x mX4_readClause 8 121 [(0, .ref a0)] [.int r68, .ref b63] h67 rc rs n0 Q X
              obtain ⟨e69, K⟩ := K
              refine g_puti (c := 1) (k := 5) dX4_readClause_121 fc_1 (by decide) (by decide) bw_208 (Or.inl rfl) rfl e69 ?_
              refine g_goto (tgt := 160) dX4_readClause_124 (by decide) ?_
              exact g_vret dX4_readClause_160 rfl K
          · replace K := K.2 c35
            refine g_aload_n dX4_readClause_83 rfl 0 rfl ?_
            obtain ⟨e70, b71, e72, K⟩ := K
            refine g_get (c := 4) (k := 2) (v := .ref b71) dX4_readClause_84 fc_4 (by decide) (by decide) bw_267 (congrArg pr e72) e70 ?_
            refine g_aload_n dX4_readClause_87 rfl 0 rfl ?_
            refine g_iconst (v := 2) dX4_readClause_88 (by decide) ?_
            refine g_iconst (v := 0) dX4_readClause_89 (by decide) ?_
            refine g_bipush (v := 11) dX4_readClause_90 (by decide) ?_
            obtain ⟨q73, C74, K⟩ := K
            refine g_callV (M' := mX4_readSetting) (b := a0) (As := [.int 2, .int 0, .int 11]) (rest := [.ref b71]) (rc' := rc) (rs' := rs) dX4_readClause_92 bw_874 bw_876 bs_30 bw_2 bw_877 ⟨by decide +kernel, by decide +kernel, show (parseMethodDescriptor mX4_readSetting.1.desc).map (fun d => d.parameters.length) = some 3 by decide +kernel⟩ (by decide) (by decide) (Nat.le_of_ble_eq_true rfl) fc_4 (by decide) rfl e70 C74 (Nat.le_of_eq (Nat.add_zero _)) (Nat.le_of_eq (Nat.add_zero _)) (fun _ _ h => h) ?_
            rintro _ h75 ⟨r76, rfl, K1⟩ -
            replace K := K r76 h75 K1
            show Gm l x mX4_readClause 8 95 [(0, .ref a0)] [.int r76, .ref b71] h75 rc rs n0 Q X
            obtain ⟨e77, K⟩ := K
            refine g_puti (c := 1) (k := 4) dX4_readClause_95 fc_1 (by decide) (by decide) bw_204 (Or.inl rfl) rfl e77 ?_
            refine g_goto (tgt := 160) dX4_readClause_98 (by decide) ?_
            exact g_vret dX4_readClause_160 rfl K
        · replace K := K.2 c28
          refine g_aload_n dX4_readClause_57 rfl 0 rfl ?_
          obtain ⟨e78, b79, e80, K⟩ := K
          refine g_get (c := 4) (k := 2) (v := .ref b79) dX4_readClause_58 fc_4 (by decide) (by decide) bw_267 (congrArg pr e80) e78 ?_
          refine g_aload_n dX4_readClause_61 rfl 0 rfl ?_
          refine g_iconst (v := 1) dX4_readClause_62 (by decide) ?_
          refine g_iconst (v := 1) dX4_readClause_63 (by decide) ?_
          refine g_iconst (v := 4) dX4_readClause_64 (by decide) ?_
          obtain ⟨q81, C82, K⟩ := K
          refine g_callV (M' := mX4_readSetting) (b := a0) (As := [.int 1, .int 1, .int 4]) (rest := [.ref b79]) (rc' := rc) (rs' := rs) dX4_readClause_65 bw_874 bw_876 bs_30 bw_2 bw_877 ⟨by decide +kernel, by decide +kernel, show (parseMethodDescriptor mX4_readSetting.1.desc).map (fun d => d.parameters.length) = some 3 by decide +kernel⟩ (by decide) (by decide) (Nat.le_of_ble_eq_true rfl) fc_4 (by decide) rfl e78 C82 (Nat.le_of_eq (Nat.add_zero _)) (Nat.le_of_eq (Nat.add_zero _)) (fun _ _ h => h) ?_
          rintro _ h83 ⟨r84, rfl, K1⟩ -
          replace K := K r84 h83 K1
          show Gm l x mX4_readClause 8 68 [(0, .ref a0)] [.int r84, .ref b79] h83 rc rs n0 Q X
          obtain ⟨e85, K⟩ := K
          refine g_puti (c := 1) (k := 3) dX4_readClause_68 fc_1 (by decide) (by decide) bw_200 (Or.inl rfl) rfl e85 ?_
          refine g_goto (tgt := 160) dX4_readClause_71 (by decide) ?_
          exact g_vret dX4_readClause_160 rfl K
      · replace K := K.2 c21
        refine g_aload_n dX4_readClause_41 rfl 0 rfl ?_
        obtain ⟨e88, K⟩ := K
        obtain ⟨q86, C87, K⟩ := K
        refine g_callV (M' := mX4_readRider) (b := a0) (As := []) (rest := []) (rc' := rc) (rs' := rs) dX4_readClause_42 bw_867 bw_869 bs_29 bw_2 bw_870 ⟨by decide +kernel, by decide +kernel, show (parseMethodDescriptor mX4_readRider.1.desc).map (fun d => d.parameters.length) = some 0 by decide +kernel⟩ (by decide) (by decide) (Nat.le_of_ble_eq_true rfl) fc_4 (by decide) rfl e88 C87 (Nat.le_of_eq (Nat.add_zero _)) (Nat.le_of_eq (Nat.add_zero _)) (fun _ _ h => h) ?_
        rintro _ h89 ⟨rfl, K1⟩ -
        replace K := K h89 K1
        show Gm l x mX4_readClause 8 45 [(0, .ref a0)] [] h89 rc rs n0 Q X
        refine g_goto (tgt := 160) dX4_readClause_45 (by decide) ?_
        exact g_vret dX4_readClause_160 rfl K
    · replace K := K.2 c14
      refine g_aload_n dX4_readClause_25 rfl 0 rfl ?_
      obtain ⟨e92, K⟩ := K
      obtain ⟨q90, C91, K⟩ := K
      refine g_callV (M' := mX4_readCar) (b := a0) (As := []) (rest := []) (rc' := rc) (rs' := rs) dX4_readClause_26 bw_847 bw_849 bs_27 bw_2 bw_850 ⟨by decide +kernel, by decide +kernel, show (parseMethodDescriptor mX4_readCar.1.desc).map (fun d => d.parameters.length) = some 0 by decide +kernel⟩ (by decide) (by decide) (Nat.le_of_ble_eq_true rfl) fc_4 (by decide) rfl e92 C91 (Nat.le_of_eq (Nat.add_zero _)) (Nat.le_of_eq (Nat.add_zero _)) (fun _ _ h => h) ?_
      rintro _ h93 ⟨rfl, K1⟩ -
      replace K := K h93 K1
      show Gm l x mX4_readClause 8 29 [(0, .ref a0)] [] h93 rc rs n0 Q X
      refine g_goto (tgt := 160) dX4_readClause_29 (by decide) ?_
      exact g_vret dX4_readClause_160 rfl K
  · replace K := K.2 c7
    refine g_aload_n dX4_readClause_9 rfl 0 rfl ?_
    obtain ⟨e96, K⟩ := K
    obtain ⟨q94, C95, K⟩ := K
    refine g_callV (M' := mX4_readFloors) (b := a0) (As := []) (rest := []) (rc' := rc) (rs' := rs) dX4_readClause_10 bw_834 bw_836 bs_24 bw_2 bw_837 ⟨by decide +kernel, by decide +kernel, show (parseMethodDescriptor mX4_readFloors.1.desc).map (fun d => d.parameters.length) = some 0 by decide +kernel⟩ (by decide) (by decide) (Nat.le_of_ble_eq_true rfl) fc_4 (by decide) rfl e96 C95 (Nat.le_of_eq (Nat.add_zero _)) (Nat.le_of_eq (Nat.add_zero _)) (fun _ _ h => h) ?_
    rintro _ h97 ⟨rfl, K1⟩ -
    replace K := K h97 K1
    show Gm l x mX4_readClause 8 13 [(0, .ref a0)] [] h97 rc rs n0 Q X
    refine g_goto (tgt := 160) dX4_readClause_13 (by decide) ?_
    exact g_vret dX4_readClause_160 rfl K
theorem dX4_read_0 : decode cX4_read 0 = .ok (.aload_n 0, 1) := by decide +kernel
theorem dX4_read_1 : decode cX4_read 1 = .ok (.getfield 22, 3) := by decide +kernel
theorem dX4_read_4 : decode cX4_read 4 = .ok (.invokevirtual 53, 3) := by decide +kernel
theorem dX4_read_7 : decode cX4_read 7 = .ok (.aload_n 0, 1) := by decide +kernel
theorem dX4_read_8 : decode cX4_read 8 = .ok (.iload_n 1, 1) := by decide +kernel
theorem dX4_read_9 : decode cX4_read 9 = .ok (.aload_n 0, 1) := by decide +kernel
theorem dX4_read_10 : decode cX4_read 10 = .ok (.getfield 15, 3) := by decide +kernel
theorem dX4_read_13 : decode cX4_read 13 = .ok (.invokestatic 56, 3) := by decide +kernel
theorem dX4_read_16 : decode cX4_read 16 = .ok (.putfield 26, 3) := by decide +kernel
theorem dX4_read_19 : decode cX4_read 19 = .ok (.aload_n 0, 1) := by decide +kernel
theorem dX4_read_20 : decode cX4_read 20 = .ok (.iconst 0, 1) := by decide +kernel
theorem dX4_read_21 : decode cX4_read 21 = .ok (.putfield 15, 3) := by decide +kernel
theorem dX4_read_24 : decode cX4_read 24 = .ok (.aload_n 0, 1) := by decide +kernel
theorem dX4_read_25 : decode cX4_read 25 = .ok (.iconst 0, 1) := by decide +kernel
theorem dX4_read_26 : decode cX4_read 26 = .ok (.putfield 29, 3) := by decide +kernel
theorem dX4_read_29 : decode cX4_read 29 = .ok (.aload_n 0, 1) := by decide +kernel
theorem dX4_read_30 : decode cX4_read 30 = .ok (.iconst 0, 1) := by decide +kernel
theorem dX4_read_31 : decode cX4_read 31 = .ok (.putfield 41, 3) := by decide +kernel
theorem dX4_read_34 : decode cX4_read 34 = .ok (.aload_n 0, 1) := by decide +kernel
theorem dX4_read_35 : decode cX4_read 35 = .ok (.iconst 0, 1) := by decide +kernel
theorem dX4_read_36 : decode cX4_read 36 = .ok (.putfield 44, 3) := by decide +kernel
theorem dX4_read_39 : decode cX4_read 39 = .ok (.aload_n 0, 1) := by decide +kernel
theorem dX4_read_40 : decode cX4_read 40 = .ok (.iconst 0, 1) := by decide +kernel
theorem dX4_read_41 : decode cX4_read 41 = .ok (.putfield 47, 3) := by decide +kernel
theorem dX4_read_44 : decode cX4_read 44 = .ok (.aload_n 0, 1) := by decide +kernel
theorem dX4_read_45 : decode cX4_read 45 = .ok (.iconst (-1), 1) := by decide +kernel
theorem dX4_read_46 : decode cX4_read 46 = .ok (.putfield 50, 3) := by decide +kernel
theorem dX4_read_49 : decode cX4_read 49 = .ok (.aload_n 0, 1) := by decide +kernel
theorem dX4_read_50 : decode cX4_read 50 = .ok (.invokevirtual 62, 3) := by decide +kernel
theorem dX4_read_53 : decode cX4_read 53 = .ok (.aload_n 0, 1) := by decide +kernel
theorem dX4_read_54 : decode cX4_read 54 = .ok (.getfield 41, 3) := by decide +kernel
theorem dX4_read_57 : decode cX4_read 57 = .ok (.sipush 900, 3) := by decide +kernel
theorem dX4_read_60 : decode cX4_read 60 = .ok (.if_icmp .gt 51, 3) := by decide +kernel
theorem dX4_read_63 : decode cX4_read 63 = .ok (.aload_n 0, 1) := by decide +kernel
theorem dX4_read_64 : decode cX4_read 64 = .ok (.getfield 32, 3) := by decide +kernel
theorem dX4_read_67 : decode cX4_read 67 = .ok (.ifCond .eq 44, 3) := by decide +kernel
theorem dX4_read_70 : decode cX4_read 70 = .ok (.aload_n 0, 1) := by decide +kernel
theorem dX4_read_71 : decode cX4_read 71 = .ok (.getfield 47, 3) := by decide +kernel
theorem dX4_read_74 : decode cX4_read 74 = .ok (.ifCond .ne 37, 3) := by decide +kernel
theorem dX4_read_77 : decode cX4_read 77 = .ok (.aload_n 0, 1) := by decide +kernel
theorem dX4_read_78 : decode cX4_read 78 = .ok (.invokevirtual 65, 3) := by decide +kernel
theorem dX4_read_81 : decode cX4_read 81 = .ok (.aload_n 0, 1) := by decide +kernel
theorem dX4_read_82 : decode cX4_read 82 = .ok (.getfield 32, 3) := by decide +kernel
theorem dX4_read_85 : decode cX4_read 85 = .ok (.iconst 3, 1) := by decide +kernel
theorem dX4_read_86 : decode cX4_read 86 = .ok (.if_icmp .eq 8, 3) := by decide +kernel
theorem dX4_read_89 : decode cX4_read 89 = .ok (.aload_n 0, 1) := by decide +kernel
theorem dX4_read_90 : decode cX4_read 90 = .ok (.iconst 1, 1) := by decide +kernel
theorem dX4_read_91 : decode cX4_read 91 = .ok (.invokevirtual 68, 3) := by decide +kernel
theorem dX4_read_94 : decode cX4_read 94 = .ok (.aload_n 0, 1) := by decide +kernel
theorem dX4_read_95 : decode cX4_read 95 = .ok (.dup, 1) := by decide +kernel
theorem dX4_read_96 : decode cX4_read 96 = .ok (.getfield 41, 3) := by decide +kernel
theorem dX4_read_99 : decode cX4_read 99 = .ok (.iconst 1, 1) := by decide +kernel
theorem dX4_read_100 : decode cX4_read 100 = .ok (.iadd, 1) := by decide +kernel
theorem dX4_read_101 : decode cX4_read 101 = .ok (.putfield 41, 3) := by decide +kernel
theorem dX4_read_104 : decode cX4_read 104 = .ok (.aload_n 0, 1) := by decide +kernel
theorem dX4_read_105 : decode cX4_read 105 = .ok (.invokevirtual 62, 3) := by decide +kernel
theorem dX4_read_108 : decode cX4_read 108 = .ok (.goto (-55), 3) := by decide +kernel
theorem dX4_read_111 : decode cX4_read 111 = .ok (.aload_n 0, 1) := by decide +kernel
theorem dX4_read_112 : decode cX4_read 112 = .ok (.getfield 47, 3) := by decide +kernel
theorem dX4_read_115 : decode cX4_read 115 = .ok (.ireturn, 1) := by decide +kernel
set_option maxRecDepth 20000 in
set_option maxHeartbeats 4000000 in
theorem vX4_read_0 {l : Launch} {x : CX} {a0 : Nat} {x1 : Int32} {h : PH} {rc rs n0 : Nat} {Q : Option Value → PH → Prop} {X : String → PH → Prop}
    (K : ((hK h a0).1 = 4) ∧ ∃ b2, (hR h a0 2 = some b2) ∧ ((hK h b2).1 = 1) ∧ ∃ (q4 : PH → Prop), CV l x mX1_clear 0 0 0 [.ref b2] h q4 ∧ ∀ (h7 : PH), q4 h7 → ((hK h7 a0).1 = 4) ∧ ∃ (q9 : PH → Prop), CV l x mX4_next 1 0 0 [.ref a0] (sI (sI (sI (sI (sI (sI (sI h7 a0 3 (if (hI h7 a0 1) < x1 then (hI h7 a0 1) else x1)) a0 1 0) a0 4 0) a0 8 0) a0 9 0) a0 10 0) a0 11 (-1)) q9 ∧ ∀ (h11 : PH), q9 h11 → Gm l x mX4_read 9 53 [(0, .ref a0), (1, .int x1)] [] h11 rc rs n0 Q X) :
    Gm l x mX4_read 9 0 [(0, .ref a0), (1, .int x1)] [] h rc rs n0 Q X := by
  refine g_aload_n dX4_read_0 rfl 0 rfl ?_
  obtain ⟨e1, b2, e3, K⟩ := K
  refine g_get (c := 4) (k := 2) (v := .ref b2) dX4_read_1 fc_4 (by decide) (by decide) bw_267 (congrArg pr e3) e1 ?_
  obtain ⟨e6, K⟩ := K
  obtain ⟨q4, C5, K⟩ := K
  refine g_callV (M' := mX1_clear) (b := b2) (As := []) (rest := []) (rc' := rc) (rs' := rs) dX4_read_4 bw_760 bw_761 bw_762 bw_3 bw_763 ⟨by decide +kernel, by decide +kernel, show (parseMethodDescriptor mX1_clear.1.desc).map (fun d => d.parameters.length) = some 0 by decide +kernel⟩ (by decide) (by decide) (Nat.le_of_ble_eq_true rfl) fc_1 (by decide) rfl e6 C5 (Nat.le_of_eq (Nat.add_zero _)) (Nat.le_of_eq (Nat.add_zero _)) (fun _ _ h => h) ?_
  rintro _ h7 ⟨rfl, K1⟩ -
  replace K := K h7 K1
  show Gm l x mX4_read 9 7 [(0, .ref a0), (1, .int x1)] [] h7 rc rs n0 Q X
  refine g_aload_n dX4_read_7 rfl 0 rfl ?_
  refine g_iload_n dX4_read_8 rfl 1 rfl ?_
  refine g_aload_n dX4_read_9 rfl 0 rfl ?_
  obtain ⟨e8, K⟩ := K
  refine g_get (c := 4) (k := 1) (v := .int (hI h7 a0 1)) dX4_read_10 fc_4 (by decide) (by decide) bw_265 rfl e8 ?_
  refine g_min dX4_read_13 bw_764 bw_765 bw_14 bw_766 (by decide) (Nat.le_of_ble_eq_true rfl) ?_
  refine g_puti (c := 4) (k := 3) dX4_read_16 fc_4 (by decide) (by decide) bw_269 (Or.inl rfl) rfl e8 ?_
  refine g_aload_n dX4_read_19 rfl 0 rfl ?_
  refine g_iconst (v := 0) dX4_read_20 (by decide) ?_
  refine g_puti (c := 4) (k := 1) dX4_read_21 fc_4 (by decide) (by decide) bw_265 (Or.inl rfl) rfl (kkI e8) ?_
  refine g_aload_n dX4_read_24 rfl 0 rfl ?_
  refine g_iconst (v := 0) dX4_read_25 (by decide) ?_
  refine g_puti (c := 4) (k := 4) dX4_read_26 fc_4 (by decide) (by decide) bw_270 (Or.inl rfl) rfl (kkI (kkI e8)) ?_
  refine g_aload_n dX4_read_29 rfl 0 rfl ?_
  refine g_iconst (v := 0) dX4_read_30 (by decide) ?_
  refine g_puti (c := 4) (k := 8) dX4_read_31 fc_4 (by decide) (by decide) bw_274 (Or.inl rfl) rfl (kkI (kkI (kkI e8))) ?_
  refine g_aload_n dX4_read_34 rfl 0 rfl ?_
  refine g_iconst (v := 0) dX4_read_35 (by decide) ?_
  refine g_puti (c := 4) (k := 9) dX4_read_36 fc_4 (by decide) (by decide) bw_275 (Or.inl rfl) rfl (kkI (kkI (kkI (kkI e8)))) ?_
  refine g_aload_n dX4_read_39 rfl 0 rfl ?_
  refine g_iconst (v := 0) dX4_read_40 (by decide) ?_
  refine g_puti (c := 4) (k := 10) dX4_read_41 fc_4 (by decide) (by decide) bw_276 (Or.inl rfl) rfl (kkI (kkI (kkI (kkI (kkI e8))))) ?_
  refine g_aload_n dX4_read_44 rfl 0 rfl ?_
  refine g_iconst (v := (-1)) dX4_read_45 (by decide) ?_
  refine g_puti (c := 4) (k := 11) dX4_read_46 fc_4 (by decide) (by decide) bw_277 (Or.inl rfl) rfl (kkI (kkI (kkI (kkI (kkI (kkI e8)))))) ?_
  refine g_aload_n dX4_read_49 rfl 0 rfl ?_
  obtain ⟨q9, C10, K⟩ := K
  refine g_callV (M' := mX4_next) (b := a0) (As := []) (rest := []) (rc' := rc) (rs' := rs) dX4_read_50 bw_767 bw_769 bs_21 bw_2 bw_770 ⟨by decide +kernel, by decide +kernel, show (parseMethodDescriptor mX4_next.1.desc).map (fun d => d.parameters.length) = some 0 by decide +kernel⟩ (by decide) (by decide) (Nat.le_of_ble_eq_true rfl) fc_4 (by decide) rfl (kkI (kkI (kkI (kkI (kkI (kkI (kkI e8))))))) C10 (Nat.le_of_eq (Nat.add_zero _)) (Nat.le_of_eq (Nat.add_zero _)) (fun _ _ h => h) ?_
  rintro _ h11 ⟨rfl, K1⟩ -
  replace K := K h11 K1
  show Gm l x mX4_read 9 53 [(0, .ref a0), (1, .int x1)] [] h11 rc rs n0 Q X
  exact K
set_option maxRecDepth 20000 in
set_option maxHeartbeats 4000000 in
theorem vX4_read_53 {l : Launch} {x : CX} {a0 : Nat} {x1 : Int32} {h : PH} {rc rs n0 : Nat} {Q : Option Value → PH → Prop} {X : String → PH → Prop}
    (K : ((hK h a0).1 = 4) ∧ ((900 < (hI h a0 8) → Q (some (.int (hI h a0 10))) h) ∧ (¬ 900 < (hI h a0 8) → (((hI h a0 5) = 0 → Q (some (.int (hI h a0 10))) h) ∧ (¬ (hI h a0 5) = 0 → ((¬ (hI h a0 10) = 0 → Q (some (.int (hI h a0 10))) h) ∧ ((hI h a0 10) = 0 → ∃ (q5 : PH → Prop), CV l x mX4_readClause 8 0 0 [.ref a0] h q5 ∧ ∀ (h7 : PH), q5 h7 → ((hK h7 a0).1 = 4) ∧ (((hI h7 a0 5) = 3 → ∃ (q10 : PH → Prop), CV l x mX4_next 1 0 0 [.ref a0] (sI h7 a0 8 ((hI h7 a0 8) + 1)) q10 ∧ ∀ (h12 : PH), q10 h12 → Gm l x mX4_read 9 53 [(0, .ref a0), (1, .int x1)] [] h12 rc rs n0 Q X) ∧ (¬ (hI h7 a0 5) = 3 → ∃ (q13 : PH → Prop), CV l x mX4_fail 0 0 0 [.ref a0, .int 1] h7 q13 ∧ ∀ (h15 : PH), q13 h15 → ((hK h15 a0).1 = 4) ∧ ∃ (q17 : PH → Prop), CV l x mX4_next 1 0 0 [.ref a0] (sI h15 a0 8 ((hI h15 a0 8) + 1)) q17 ∧ ∀ (h19 : PH), q17 h19 → Gm l x mX4_read 9 53 [(0, .ref a0), (1, .int x1)] [] h19 rc rs n0 Q X))))))))) :
    Gm l x mX4_read 9 53 [(0, .ref a0), (1, .int x1)] [] h rc rs n0 Q X := by
  refine g_aload_n dX4_read_53 rfl 0 rfl ?_
  obtain ⟨e1, K⟩ := K
  refine g_get (c := 4) (k := 8) (v := .int (hI h a0 8)) dX4_read_54 fc_4 (by decide) (by decide) bw_274 rfl e1 ?_
  refine g_sipush (v := 900) dX4_read_57 (by decide) ?_
  refine g_icmp_gt (tgt := 111) dX4_read_60 (by decide) (fun c2 => ?_) (fun c2 => ?_)
  · replace K := K.1 c2
    refine g_aload_n dX4_read_111 rfl 0 rfl ?_
    refine g_get (c := 4) (k := 10) (v := .int (hI h a0 10)) dX4_read_112 fc_4 (by decide) (by decide) bw_276 rfl e1 ?_
    exact g_iret dX4_read_115 rfl K
  · replace K := K.2 c2
    refine g_aload_n dX4_read_63 rfl 0 rfl ?_
    refine g_get (c := 4) (k := 5) (v := .int (hI h a0 5)) dX4_read_64 fc_4 (by decide) (by decide) bw_271 rfl e1 ?_
    refine g_if_eq (tgt := 111) dX4_read_67 (by decide) (fun c3 => ?_) (fun c3 => ?_)
    · replace K := K.1 c3
      refine g_aload_n dX4_read_111 rfl 0 rfl ?_
      refine g_get (c := 4) (k := 10) (v := .int (hI h a0 10)) dX4_read_112 fc_4 (by decide) (by decide) bw_276 rfl e1 ?_
      exact g_iret dX4_read_115 rfl K
    · replace K := K.2 c3
      refine g_aload_n dX4_read_70 rfl 0 rfl ?_
      refine g_get (c := 4) (k := 10) (v := .int (hI h a0 10)) dX4_read_71 fc_4 (by decide) (by decide) bw_276 rfl e1 ?_
      refine g_if_ne (tgt := 111) dX4_read_74 (by decide) (fun c4 => ?_) (fun c4 => ?_)
      · replace K := K.1 c4
        refine g_aload_n dX4_read_111 rfl 0 rfl ?_
        refine g_get (c := 4) (k := 10) (v := .int (hI h a0 10)) dX4_read_112 fc_4 (by decide) (by decide) bw_276 rfl e1 ?_
        exact g_iret dX4_read_115 rfl K
      · replace K := K.2 c4
        refine g_aload_n dX4_read_77 rfl 0 rfl ?_
        obtain ⟨q5, C6, K⟩ := K
        refine g_callV (M' := mX4_readClause) (b := a0) (As := []) (rest := []) (rc' := rc) (rs' := rs) dX4_read_78 bw_777 bw_779 bs_22 bw_2 bw_780 ⟨by decide +kernel, by decide +kernel, show (parseMethodDescriptor mX4_readClause.1.desc).map (fun d => d.parameters.length) = some 0 by decide +kernel⟩ (by decide) (by decide) (Nat.le_of_ble_eq_true rfl) fc_4 (by decide) rfl e1 C6 (Nat.le_of_eq (Nat.add_zero _)) (Nat.le_of_eq (Nat.add_zero _)) (fun _ _ h => h) ?_
        rintro _ h7 ⟨rfl, K1⟩ -
        replace K := K h7 K1
        show Gm l x mX4_read 9 81 [(0, .ref a0), (1, .int x1)] [] h7 rc rs n0 Q X
        refine g_aload_n dX4_read_81 rfl 0 rfl ?_
        obtain ⟨e8, K⟩ := K
        refine g_get (c := 4) (k := 5) (v := .int (hI h7 a0 5)) dX4_read_82 fc_4 (by decide) (by decide) bw_271 rfl e8 ?_
        refine g_iconst (v := 3) dX4_read_85 (by decide) ?_
        refine g_icmp_eq (tgt := 94) dX4_read_86 (by decide) (fun c9 => ?_) (fun c9 => ?_)
        · replace K := K.1 c9
          refine g_aload_n dX4_read_94 rfl 0 rfl ?_
          refine g_dup dX4_read_95 rfl ?_
          refine g_get (c := 4) (k := 8) (v := .int (hI h7 a0 8)) dX4_read_96 fc_4 (by decide) (by decide) bw_274 rfl e8 ?_
          refine g_iconst (v := 1) dX4_read_99 (by decide) ?_
          refine g_iadd dX4_read_100 ?_
          refine g_puti (c := 4) (k := 8) dX4_read_101 fc_4 (by decide) (by decide) bw_274 (Or.inl rfl) rfl e8 ?_
          refine g_aload_n dX4_read_104 rfl 0 rfl ?_
          obtain ⟨q10, C11, K⟩ := K
          refine g_callV (M' := mX4_next) (b := a0) (As := []) (rest := []) (rc' := rc) (rs' := rs) dX4_read_105 bw_767 bw_769 bs_21 bw_2 bw_770 ⟨by decide +kernel, by decide +kernel, show (parseMethodDescriptor mX4_next.1.desc).map (fun d => d.parameters.length) = some 0 by decide +kernel⟩ (by decide) (by decide) (Nat.le_of_ble_eq_true rfl) fc_4 (by decide) rfl (kkI e8) C11 (Nat.le_of_eq (Nat.add_zero _)) (Nat.le_of_eq (Nat.add_zero _)) (fun _ _ h => h) ?_
          rintro _ h12 ⟨rfl, K1⟩ -
          replace K := K h12 K1
          show Gm l x mX4_read 9 108 [(0, .ref a0), (1, .int x1)] [] h12 rc rs n0 Q X
          refine g_goto (tgt := 53) dX4_read_108 (by decide) ?_
          exact K
        · replace K := K.2 c9
          refine g_aload_n dX4_read_89 rfl 0 rfl ?_
          refine g_iconst (v := 1) dX4_read_90 (by decide) ?_
          obtain ⟨q13, C14, K⟩ := K
          refine g_callV (M' := mX4_fail) (b := a0) (As := [.int 1]) (rest := []) (rc' := rc) (rs' := rs) dX4_read_91 bw_838 bw_840 bs_25 bw_2 bw_841 ⟨by decide +kernel, by decide +kernel, show (parseMethodDescriptor mX4_fail.1.desc).map (fun d => d.parameters.length) = some 1 by decide +kernel⟩ (by decide) (by decide) (Nat.le_of_ble_eq_true rfl) fc_4 (by decide) rfl e8 C14 (Nat.le_of_eq (Nat.add_zero _)) (Nat.le_of_eq (Nat.add_zero _)) (fun _ _ h => h) ?_
          rintro _ h15 ⟨rfl, K1⟩ -
          replace K := K h15 K1
          show Gm l x mX4_read 9 94 [(0, .ref a0), (1, .int x1)] [] h15 rc rs n0 Q X
          refine g_aload_n dX4_read_94 rfl 0 rfl ?_
          refine g_dup dX4_read_95 rfl ?_
          obtain ⟨e16, K⟩ := K
          refine g_get (c := 4) (k := 8) (v := .int (hI h15 a0 8)) dX4_read_96 fc_4 (by decide) (by decide) bw_274 rfl e16 ?_
          refine g_iconst (v := 1) dX4_read_99 (by decide) ?_
          refine g_iadd dX4_read_100 ?_
          refine g_puti (c := 4) (k := 8) dX4_read_101 fc_4 (by decide) (by decide) bw_274 (Or.inl rfl) rfl e16 ?_
          refine g_aload_n dX4_read_104 rfl 0 rfl ?_
          obtain ⟨q17, C18, K⟩ := K
          refine g_callV (M' := mX4_next) (b := a0) (As := []) (rest := []) (rc' := rc) (rs' := rs) dX4_read_105 bw_767 bw_769 bs_21 bw_2 bw_770 ⟨by decide +kernel, by decide +kernel, show (parseMethodDescriptor mX4_next.1.desc).map (fun d => d.parameters.length) = some 0 by decide +kernel⟩ (by decide) (by decide) (Nat.le_of_ble_eq_true rfl) fc_4 (by decide) rfl (kkI e16) C18 (Nat.le_of_eq (Nat.add_zero _)) (Nat.le_of_eq (Nat.add_zero _)) (fun _ _ h => h) ?_
          rintro _ h19 ⟨rfl, K1⟩ -
          replace K := K h19 K1
          show Gm l x mX4_read 9 108 [(0, .ref a0), (1, .int x1)] [] h19 rc rs n0 Q X
          refine g_goto (tgt := 53) dX4_read_108 (by decide) ?_
          exact K
